/-! ===== BEGIN words of one list among another's, by their places ===== -/
theorem goodIn_r {big : List Cond} (ws : List Cond) (ps : List Nat) (hp : ws = ps.filterMap (fun i => big[i]?)) (h : ws.all goodWord = true) : GoodIn big ws := by
  intro w hw
  have h1 := List.all_eq_true.mp h w hw
  rw [hp] at hw
  obtain ⟨i, -, hi⟩ := List.mem_filterMap.mp hw
  have hm : w ∈ big := by first | exact List.mem_of_getElem? hi | exact List.getElem?_mem hi
  exact ⟨hm, good_of_word h1⟩
theorem goodIn_app {big a b : List Cond} (ha : GoodIn big a) (hb : GoodIn big b) : GoodIn big (a ++ b) := fun w h => (List.mem_append.mp h).elim (ha w) (hb w)
theorem goodIn_ca {big a b : List Cond} {c : Cond} (ha : GoodIn big (c :: a)) (hb : GoodIn big b) : GoodIn big (c :: (a ++ b)) := fun w h => (List.mem_cons.mp h).elim (fun e => ha w (List.mem_cons.mpr (Or.inl e))) (fun h => (List.mem_append.mp h).elim (fun h => ha w (List.mem_cons.mpr (Or.inr h))) (hb w))
theorem goodIn_sub {big ws : List Cond} (hm : ∀ w ∈ ws, w ∈ big) (h : ws.all goodWord = true) : GoodIn big ws := fun w hw => ⟨hm w hw, good_of_word (List.all_eq_true.mp h w hw)⟩
/-! ===== END ===== -/

/-! ===== BEGIN printed: names, fields, word lists, decode rows ===== -/
def RX0 : String := "ParkWays$Car"
def TX0 : u_T := fun k => match k with
  | 0 => ("ParkWays$Car", "field", "LParkWays$Field;", true)
  | 1 => ("ParkWays$Car", "known", "[I", true)
  | 2 => ("ParkWays$Car", "length", "I", false)
  | 3 => ("ParkWays$Car", "wide", "I", false)
  | _ => ("ParkWays$Car", "radius", "I", false)
def tyX0 : Nat → FieldType := fun k => match k with
  | 0 => .object "ParkWays$Field"
  | 1 => .array .int
  | 2 => .int
  | 3 => .int
  | _ => .int
abbrev wsX00 : List Cond := u_ws RX0 TX0 5
theorem nmX0 : ∀ a, a < 5 → ∀ b, b < 5 → a ≠ b → (TX0 a).2.1 ≠ (TX0 b).2.1 := by decide +kernel
theorem tyX0_ok : ∀ k, k < 5 → parseFieldDescriptor (TX0 k).2.2.1 = some (tyX0 k) := by decide +kernel
abbrev cX0_init : ByteArray := prog_2_method_1_code
def yX0_init : MethodName := ⟨RX0, "<init>", "(LParkWays$Field;)V"⟩
abbrev cX0_build : ByteArray := prog_2_method_2_code
def yX0_build : MethodName := ⟨RX0, "build", "(III)V"⟩
abbrev cX0_forget : ByteArray := prog_2_method_3_code
def yX0_forget : MethodName := ⟨RX0, "forget", "()V"⟩
abbrev cX0_isFree : ByteArray := prog_2_method_4_code
def yX0_isFree : MethodName := ⟨RX0, "isFree", "(I)Z"⟩
abbrev cX0_coversClearCells : ByteArray := prog_2_method_5_code
def yX0_coversClearCells : MethodName := ⟨RX0, "coversClearCells", "(I)Z"⟩
abbrev cX0_marginAt : ByteArray := prog_2_method_6_code
def yX0_marginAt : MethodName := ⟨RX0, "marginAt", "(I)I"⟩
abbrev cX0_coveredX : ByteArray := prog_2_method_7_code
def yX0_coveredX : MethodName := ⟨RX0, "coveredX", "(III)I"⟩
abbrev cX0_coveredY : ByteArray := prog_2_method_8_code
def yX0_coveredY : MethodName := ⟨RX0, "coveredY", "(III)I"⟩
abbrev cX0_landing : ByteArray := prog_2_method_9_code
def yX0_landing : MethodName := ⟨RX0, "landing", "(II)I"⟩
abbrev cX0_mayMake : ByteArray := prog_2_method_10_code
def yX0_mayMake : MethodName := ⟨RX0, "mayMake", "(II)Z"⟩
abbrev cX0_lengthOf : ByteArray := prog_2_method_11_code
def yX0_lengthOf : MethodName := ⟨RX0, "lengthOf", "(I)I"⟩
abbrev cX0_isArc : ByteArray := prog_2_method_12_code
def yX0_isArc : MethodName := ⟨RX0, "isArc", "(I)Z"⟩
abbrev cX0_senseOf : ByteArray := prog_2_method_13_code
def yX0_senseOf : MethodName := ⟨RX0, "senseOf", "(I)I"⟩
abbrev cX0_shifted : ByteArray := prog_2_method_14_code
def yX0_shifted : MethodName := ⟨RX0, "shifted", "(II)I"⟩
abbrev cX0_turned : ByteArray := prog_2_method_15_code
def yX0_turned : MethodName := ⟨RX0, "turned", "(II)I"⟩
def RX1 : String := "ParkWays$Field"
def TX1 : u_T := fun k => match k with
  | 0 => ("ParkWays$Field", "width", "I", true)
  | 1 => ("ParkWays$Field", "height", "I", true)
  | 2 => ("ParkWays$Field", "turn", "I", true)
  | 3 => ("ParkWays$Field", "full", "[Z", true)
  | 4 => ("ParkWays$Field", "fullWithinKeep", "[I", true)
  | _ => ("ParkWays$Field", "keep", "I", false)
def tyX1 : Nat → FieldType := fun k => match k with
  | 0 => .int
  | 1 => .int
  | 2 => .int
  | 3 => .array .boolean
  | 4 => .array .int
  | _ => .int
abbrev wsX10 : List Cond := u_ws RX1 TX1 6
theorem nmX1 : ∀ a, a < 6 → ∀ b, b < 6 → a ≠ b → (TX1 a).2.1 ≠ (TX1 b).2.1 := by decide +kernel
theorem tyX1_ok : ∀ k, k < 6 → parseFieldDescriptor (TX1 k).2.2.1 = some (tyX1 k) := by decide +kernel
abbrev cX1_init : ByteArray := prog_3_method_1_code
def yX1_init : MethodName := ⟨RX1, "<init>", "(III)V"⟩
abbrev cX1_placeRoom : ByteArray := prog_3_method_2_code
def yX1_placeRoom : MethodName := ⟨RX1, "placeRoom", "()I"⟩
abbrev cX1_hasCell : ByteArray := prog_3_method_3_code
def yX1_hasCell : MethodName := ⟨RX1, "hasCell", "(II)Z"⟩
abbrev cX1_hasHeading : ByteArray := prog_3_method_4_code
def yX1_hasHeading : MethodName := ⟨RX1, "hasHeading", "(I)Z"⟩
abbrev cX1_isFull : ByteArray := prog_3_method_5_code
def yX1_isFull : MethodName := ⟨RX1, "isFull", "(II)Z"⟩
abbrev cX1_isKeptClear : ByteArray := prog_3_method_6_code
def yX1_isKeptClear : MethodName := ⟨RX1, "isKeptClear", "(II)Z"⟩
abbrev cX1_setFull : ByteArray := prog_3_method_7_code
def yX1_setFull : MethodName := ⟨RX1, "setFull", "(IIZ)Z"⟩
abbrev cX1_setKeep : ByteArray := prog_3_method_8_code
def yX1_setKeep : MethodName := ⟨RX1, "setKeep", "(I)V"⟩
abbrev cX1_countAround : ByteArray := prog_3_method_9_code
def yX1_countAround : MethodName := ⟨RX1, "countAround", "(III)V"⟩
abbrev cX1_runLength : ByteArray := prog_3_method_10_code
def yX1_runLength : MethodName := ⟨RX1, "runLength", "(II)I"⟩
abbrev cX1_firstRun : ByteArray := prog_3_method_11_code
def yX1_firstRun : MethodName := ⟨RX1, "firstRun", "(II)I"⟩
abbrev cX1_distanceToFull : ByteArray := prog_3_method_12_code
def yX1_distanceToFull : MethodName := ⟨RX1, "distanceToFull", "(III)I"⟩
def RX2 : String := "ParkWays$Search"
def TX2 : u_T := fun k => match k with
  | 0 => ("ParkWays$Search", "car", "LParkWays$Car;", true)
  | 1 => ("ParkWays$Search", "cost", "[J", true)
  | 2 => ("ParkWays$Search", "queue", "[I", true)
  | _ => ("ParkWays$Search", "reached", "I", false)
def tyX2 : Nat → FieldType := fun k => match k with
  | 0 => .object "ParkWays$Car"
  | 1 => .array .long
  | 2 => .array .int
  | _ => .int
abbrev wsX20 : List Cond := u_ws RX2 TX2 4
theorem nmX2 : ∀ a, a < 4 → ∀ b, b < 4 → a ≠ b → (TX2 a).2.1 ≠ (TX2 b).2.1 := by decide +kernel
theorem tyX2_ok : ∀ k, k < 4 → parseFieldDescriptor (TX2 k).2.2.1 = some (tyX2 k) := by decide +kernel
abbrev cX2_init : ByteArray := prog_4_method_1_code
def yX2_init : MethodName := ⟨RX2, "<init>", "(LParkWays$Car;I)V"⟩
abbrev cX2_spreadFrom : ByteArray := prog_4_method_2_code
def yX2_spreadFrom : MethodName := ⟨RX2, "spreadFrom", "(I)V"⟩
abbrev cX2_reach : ByteArray := prog_4_method_3_code
def yX2_reach : MethodName := ⟨RX2, "reach", "(IJ)V"⟩
abbrev cX2_hasReached : ByteArray := prog_4_method_4_code
def yX2_hasReached : MethodName := ⟨RX2, "hasReached", "(I)Z"⟩
abbrev cX2_takenBefore : ByteArray := prog_4_method_5_code
def yX2_takenBefore : MethodName := ⟨RX2, "takenBefore", "(I)I"⟩
abbrev cX2_firstMoveFrom : ByteArray := prog_4_method_6_code
def yX2_firstMoveFrom : MethodName := ⟨RX2, "firstMoveFrom", "(I)I"⟩
abbrev cX2_costAt : ByteArray := prog_4_method_7_code
def yX2_costAt : MethodName := ⟨RX2, "costAt", "(I)J"⟩
abbrev cX2_costOf : ByteArray := prog_4_method_8_code
def yX2_costOf : MethodName := ⟨RX2, "costOf", "(I)J"⟩
def RX3 : String := "ParkWays$Way"
def TX3 : u_T := fun k => match k with
  | 0 => ("ParkWays$Way", "moves", "[I", true)
  | 1 => ("ParkWays$Way", "places", "[I", true)
  | 2 => ("ParkWays$Way", "count", "I", false)
  | 3 => ("ParkWays$Way", "made", "I", false)
  | _ => ("ParkWays$Way", "stands", "Z", false)
def tyX3 : Nat → FieldType := fun k => match k with
  | 0 => .array .int
  | 1 => .array .int
  | 2 => .int
  | 3 => .int
  | _ => .boolean
abbrev wsX30 : List Cond := u_ws RX3 TX3 5
theorem nmX3 : ∀ a, a < 5 → ∀ b, b < 5 → a ≠ b → (TX3 a).2.1 ≠ (TX3 b).2.1 := by decide +kernel
theorem tyX3_ok : ∀ k, k < 5 → parseFieldDescriptor (TX3 k).2.2.1 = some (tyX3 k) := by decide +kernel
abbrev cX3_init : ByteArray := prog_5_method_1_code
def yX3_init : MethodName := ⟨RX3, "<init>", "(I)V"⟩
abbrev cX3_drop : ByteArray := prog_5_method_2_code
def yX3_drop : MethodName := ⟨RX3, "drop", "()V"⟩
abbrev cX3_add : ByteArray := prog_5_method_3_code
def yX3_add : MethodName := ⟨RX3, "add", "(II)V"⟩
abbrev cX3_hasMove : ByteArray := prog_5_method_4_code
def yX3_hasMove : MethodName := ⟨RX3, "hasMove", "(I)Z"⟩
abbrev cX3_moveAt : ByteArray := prog_5_method_5_code
def yX3_moveAt : MethodName := ⟨RX3, "moveAt", "(I)I"⟩
abbrev cX3_placeBehind : ByteArray := prog_5_method_6_code
def yX3_placeBehind : MethodName := ⟨RX3, "placeBehind", "(I)I"⟩
def RX4 : String := "ParkWays"
def TX4 : u_T := fun k => match k with
  | 0 => ("ParkWays", "field", "LParkWays$Field;", true)
  | 1 => ("ParkWays", "car", "LParkWays$Car;", true)
  | 2 => ("ParkWays", "search", "LParkWays$Search;", true)
  | 3 => ("ParkWays", "way", "LParkWays$Way;", true)
  | 4 => ("ParkWays", "place", "I", false)
  | 5 => ("ParkWays", "home", "I", false)
  | 6 => ("ParkWays", "goal", "I", false)
  | 7 => ("ParkWays", "steps", "J", false)
  | 8 => ("ParkWays", "exact", "Z", false)
  | 9 => ("ParkWays", "held", "Z", false)
  | _ => ("ParkWays", "error", "D", false)
def tyX4 : Nat → FieldType := fun k => match k with
  | 0 => .object "ParkWays$Field"
  | 1 => .object "ParkWays$Car"
  | 2 => .object "ParkWays$Search"
  | 3 => .object "ParkWays$Way"
  | 4 => .int
  | 5 => .int
  | 6 => .int
  | 7 => .long
  | 8 => .boolean
  | 9 => .boolean
  | _ => .double
abbrev wsX40 : List Cond := u_ws RX4 TX4 11
theorem nmX4 : ∀ a, a < 11 → ∀ b, b < 11 → a ≠ b → (TX4 a).2.1 ≠ (TX4 b).2.1 := by decide +kernel
theorem tyX4_ok : ∀ k, k < 11 → parseFieldDescriptor (TX4 k).2.2.1 = some (tyX4 k) := by decide +kernel
abbrev cX4_init : ByteArray := prog_1_method_1_code
def yX4_init : MethodName := ⟨RX4, "<init>", "(III)V"⟩
abbrev cX4_cell : ByteArray := prog_1_method_2_code
def yX4_cell : MethodName := ⟨RX4, "cell", "(IIZ)I"⟩
abbrev cX4_car : ByteArray := prog_1_method_3_code
def yX4_car : MethodName := ⟨RX4, "car", "(III)I"⟩
abbrev cX4_keep : ByteArray := prog_1_method_4_code
def yX4_keep : MethodName := ⟨RX4, "keep", "(I)I"⟩
abbrev cX4_stand : ByteArray := prog_1_method_5_code
def yX4_stand : MethodName := ⟨RX4, "stand", "(III)I"⟩
abbrev cX4_space : ByteArray := prog_1_method_6_code
def yX4_space : MethodName := ⟨RX4, "space", "(II)I"⟩
abbrev cX4_out : ByteArray := prog_1_method_7_code
def yX4_out : MethodName := ⟨RX4, "out", "()I"⟩
abbrev cX4_way : ByteArray := prog_1_method_8_code
def yX4_way : MethodName := ⟨RX4, "way", "(J)I"⟩
abbrev cX4_move : ByteArray := prog_1_method_9_code
def yX4_move : MethodName := ⟨RX4, "move", "(II)I"⟩
abbrev cX4_exact : ByteArray := prog_1_method_10_code
def yX4_exact : MethodName := ⟨RX4, "exact", "()Z"⟩
abbrev cX4_follow : ByteArray := prog_1_method_11_code
def yX4_follow : MethodName := ⟨RX4, "follow", "(ID)I"⟩
abbrev cX4_error : ByteArray := prog_1_method_12_code
def yX4_error : MethodName := ⟨RX4, "error", "()D"⟩
abbrev cX4_change : ByteArray := prog_1_method_13_code
def yX4_change : MethodName := ⟨RX4, "change", "(IIZ)I"⟩
abbrev cX4_release : ByteArray := prog_1_method_14_code
def yX4_release : MethodName := ⟨RX4, "release", "(Z)I"⟩
abbrev cX4_margin : ByteArray := prog_1_method_15_code
def yX4_margin : MethodName := ⟨RX4, "margin", "(I)I"⟩
abbrev cX4_heading : ByteArray := prog_1_method_16_code
def yX4_heading : MethodName := ⟨RX4, "heading", "(I)I"⟩
abbrev cX4_setCell : ByteArray := prog_1_method_17_code
def yX4_setCell : MethodName := ⟨RX4, "setCell", "(IIZ)Z"⟩
abbrev cX4_addToError : ByteArray := prog_1_method_18_code
def yX4_addToError : MethodName := ⟨RX4, "addToError", "(D)V"⟩
abbrev cX4_movesLeftMayBeMade : ByteArray := prog_1_method_19_code
def yX4_movesLeftMayBeMade : MethodName := ⟨RX4, "movesLeftMayBeMade", "()Z"⟩
abbrev cX4_plan : ByteArray := prog_1_method_20_code
def yX4_plan : MethodName := ⟨RX4, "plan", "()V"⟩
abbrev cX4_sideOf : ByteArray := prog_1_method_21_code
def yX4_sideOf : MethodName := ⟨RX4, "sideOf", "(I)I"⟩
abbrev cX4_isFrom : ByteArray := prog_1_method_22_code
def yX4_isFrom : MethodName := ⟨RX4, "isFrom", "(III)Z"⟩
abbrev cX4_cellAt : ByteArray := prog_1_method_23_code
def yX4_cellAt : MethodName := ⟨RX4, "cellAt", "(II)I"⟩
abbrev cX4_placeAt : ByteArray := prog_1_method_24_code
def yX4_placeAt : MethodName := ⟨RX4, "placeAt", "(III)I"⟩
abbrev cX4_xOf : ByteArray := prog_1_method_25_code
def yX4_xOf : MethodName := ⟨RX4, "xOf", "(I)I"⟩
abbrev cX4_yOf : ByteArray := prog_1_method_26_code
def yX4_yOf : MethodName := ⟨RX4, "yOf", "(I)I"⟩
abbrev cX4_headingOf : ByteArray := prog_1_method_27_code
def yX4_headingOf : MethodName := ⟨RX4, "headingOf", "(I)I"⟩
abbrev cX4_stepX : ByteArray := prog_1_method_28_code
def yX4_stepX : MethodName := ⟨RX4, "stepX", "(I)I"⟩
abbrev cX4_stepY : ByteArray := prog_1_method_29_code
def yX4_stepY : MethodName := ⟨RX4, "stepY", "(I)I"⟩
def RX5 : String := "ParkWaysModel"
def TX5 : u_T := fun k => match k with
  | 0 => ("ParkWaysModel", "code", "I", false)
  | 1 => ("ParkWaysModel", "width", "I", true)
  | 2 => ("ParkWaysModel", "height", "I", true)
  | 3 => ("ParkWaysModel", "four", "Z", true)
  | 4 => ("ParkWaysModel", "full", "[Z", true)
  | 5 => ("ParkWaysModel", "length", "I", false)
  | 6 => ("ParkWaysModel", "wide", "I", false)
  | 7 => ("ParkWaysModel", "radius", "I", false)
  | 8 => ("ParkWaysModel", "keep", "I", false)
  | 9 => ("ParkWaysModel", "car", "I", false)
  | 10 => ("ParkWaysModel", "home", "I", false)
  | 11 => ("ParkWaysModel", "goal", "I", false)
  | 12 => ("ParkWaysModel", "held", "Z", false)
  | 13 => ("ParkWaysModel", "error", "D", false)
  | 14 => ("ParkWaysModel", "isWay", "Z", false)
  | 15 => ("ParkWaysModel", "moves", "I", false)
  | 16 => ("ParkWaysModel", "made", "I", false)
  | 17 => ("ParkWaysModel", "number", "[I", true)
  | 18 => ("ParkWaysModel", "behind", "[I", true)
  | 19 => ("ParkWaysModel", "exact", "Z", false)
  | 20 => ("ParkWaysModel", "lastSteps", "J", false)
  | 21 => ("ParkWaysModel", "far", "[I", true)
  | 22 => ("ParkWaysModel", "cost", "[I", true)
  | 23 => ("ParkWaysModel", "free", "[Z", true)
  | 24 => ("ParkWaysModel", "row", "[I", true)
  | _ => ("ParkWaysModel", "near", "[I", true)
def tyX5 : Nat → FieldType := fun k => match k with
  | 0 => .int
  | 1 => .int
  | 2 => .int
  | 3 => .boolean
  | 4 => .array .boolean
  | 5 => .int
  | 6 => .int
  | 7 => .int
  | 8 => .int
  | 9 => .int
  | 10 => .int
  | 11 => .int
  | 12 => .boolean
  | 13 => .double
  | 14 => .boolean
  | 15 => .int
  | 16 => .int
  | 17 => .array .int
  | 18 => .array .int
  | 19 => .boolean
  | 20 => .long
  | 21 => .array .int
  | 22 => .array .int
  | 23 => .array .boolean
  | 24 => .array .int
  | _ => .array .int
abbrev wsX50 : List Cond := u_ws RX5 TX5 26
theorem nmX5 : ∀ a, a < 26 → ∀ b, b < 26 → a ≠ b → (TX5 a).2.1 ≠ (TX5 b).2.1 := by decide +kernel
theorem tyX5_ok : ∀ k, k < 26 → parseFieldDescriptor (TX5 k).2.2.1 = some (tyX5 k) := by decide +kernel
abbrev cX5_init : ByteArray := prog_7_method_1_code
def yX5_init : MethodName := ⟨RX5, "<init>", "(III)V"⟩
abbrev cX5_thrown : ByteArray := prog_7_method_2_code
def yX5_thrown : MethodName := ⟨RX5, "thrown", "()I"⟩
abbrev cX5_isCell : ByteArray := prog_7_method_3_code
def yX5_isCell : MethodName := ⟨RX5, "isCell", "(II)Z"⟩
abbrev cX5_dx : ByteArray := prog_7_method_4_code
def yX5_dx : MethodName := ⟨RX5, "dx", "(I)I"⟩
abbrev cX5_dy : ByteArray := prog_7_method_5_code
def yX5_dy : MethodName := ⟨RX5, "dy", "(I)I"⟩
abbrev cX5_place : ByteArray := prog_7_method_6_code
def yX5_place : MethodName := ⟨RX5, "place", "(III)I"⟩
abbrev cX5_xOf : ByteArray := prog_7_method_7_code
def yX5_xOf : MethodName := ⟨RX5, "xOf", "(I)I"⟩
abbrev cX5_yOf : ByteArray := prog_7_method_8_code
def yX5_yOf : MethodName := ⟨RX5, "yOf", "(I)I"⟩
abbrev cX5_distance : ByteArray := prog_7_method_9_code
def yX5_distance : MethodName := ⟨RX5, "distance", "(II)I"⟩
abbrev cX5_findNear : ByteArray := prog_7_method_10_code
def yX5_findNear : MethodName := ⟨RX5, "findNear", "()V"⟩
abbrev cX5_clear : ByteArray := prog_7_method_11_code
def yX5_clear : MethodName := ⟨RX5, "clear", "(III)I"⟩
abbrev cX5_isFree : ByteArray := prog_7_method_12_code
def yX5_isFree : MethodName := ⟨RX5, "isFree", "(III)Z"⟩
abbrev cX5_isHeading : ByteArray := prog_7_method_13_code
def yX5_isHeading : MethodName := ⟨RX5, "isHeading", "(I)Z"⟩
abbrev cX5_moved : ByteArray := prog_7_method_14_code
def yX5_moved : MethodName := ⟨RX5, "moved", "(II)I"⟩
abbrev cX5_findFree : ByteArray := prog_7_method_15_code
def yX5_findFree : MethodName := ⟨RX5, "findFree", "()V"⟩
abbrev cX5_more : ByteArray := prog_7_method_16_code
def yX5_more : MethodName := ⟨RX5, "more", "(I)I"⟩
abbrev cX5_findCosts : ByteArray := prog_7_method_17_code
def yX5_findCosts : MethodName := ⟨RX5, "findCosts", "()V"⟩
abbrev cX5_before : ByteArray := prog_7_method_18_code
def yX5_before : MethodName := ⟨RX5, "before", "(I)I"⟩
abbrev cX5_search : ByteArray := prog_7_method_19_code
def yX5_search : MethodName := ⟨RX5, "search", "(J)I"⟩
abbrev cX5_leads : ByteArray := prog_7_method_20_code
def yX5_leads : MethodName := ⟨RX5, "leads", "(II)Z"⟩
abbrev cX5_set : ByteArray := prog_7_method_21_code
def yX5_set : MethodName := ⟨RX5, "set", "(IIZ)Z"⟩
abbrev cX5_cell : ByteArray := prog_7_method_22_code
def yX5_cell : MethodName := ⟨RX5, "cell", "(IIZ)I"⟩
abbrev cX5_car : ByteArray := prog_7_method_23_code
def yX5_car : MethodName := ⟨RX5, "car", "(III)I"⟩
abbrev cX5_keep : ByteArray := prog_7_method_24_code
def yX5_keep : MethodName := ⟨RX5, "keep", "(I)I"⟩
abbrev cX5_stand : ByteArray := prog_7_method_25_code
def yX5_stand : MethodName := ⟨RX5, "stand", "(III)I"⟩
abbrev cX5_space : ByteArray := prog_7_method_26_code
def yX5_space : MethodName := ⟨RX5, "space", "(II)I"⟩
abbrev cX5_out : ByteArray := prog_7_method_27_code
def yX5_out : MethodName := ⟨RX5, "out", "()I"⟩
abbrev cX5_way : ByteArray := prog_7_method_28_code
def yX5_way : MethodName := ⟨RX5, "way", "(J)I"⟩
abbrev cX5_move : ByteArray := prog_7_method_29_code
def yX5_move : MethodName := ⟨RX5, "move", "(II)I"⟩
abbrev cX5_exact : ByteArray := prog_7_method_30_code
def yX5_exact : MethodName := ⟨RX5, "exact", "()Z"⟩
abbrev cX5_follow : ByteArray := prog_7_method_31_code
def yX5_follow : MethodName := ⟨RX5, "follow", "(ID)I"⟩
abbrev cX5_error : ByteArray := prog_7_method_32_code
def yX5_error : MethodName := ⟨RX5, "error", "()D"⟩
abbrev cX5_change : ByteArray := prog_7_method_33_code
def yX5_change : MethodName := ⟨RX5, "change", "(IIZ)I"⟩
abbrev cX5_release : ByteArray := prog_7_method_34_code
def yX5_release : MethodName := ⟨RX5, "release", "(Z)I"⟩
abbrev cX5_margin : ByteArray := prog_7_method_35_code
def yX5_margin : MethodName := ⟨RX5, "margin", "(I)I"⟩
abbrev cX5_heading : ByteArray := prog_7_method_36_code
def yX5_heading : MethodName := ⟨RX5, "heading", "(I)I"⟩
def RJx145de : String := "java/io/Serializable"
def TJx145de : u_T := fun k => match k with
  | _ => ("", "", "", false)
def tyJx145de : Nat → FieldType := fun k => match k with
  | _ => .int
abbrev wsJx145de0 : List Cond := u_ws RJx145de TJx145de 0
theorem nmJx145de : ∀ a, a < 0 → ∀ b, b < 0 → a ≠ b → (TJx145de a).2.1 ≠ (TJx145de b).2.1 := by decide +kernel
theorem tyJx145de_ok : ∀ k, k < 0 → parseFieldDescriptor (TJx145de k).2.2.1 = some (tyJx145de k) := by decide +kernel
def RJx00060 : String := "java/lang/ArrayIndexOutOfBoundsException"
def TJx00060 : u_T := fun k => match k with
  | 0 => ("java/lang/Throwable", "cause", "Ljava/lang/Throwable;", false)
  | 1 => ("java/lang/Throwable", "stackTrace", "[Ljava/lang/StackTraceElement;", false)
  | 2 => ("java/lang/Throwable", "suppressedExceptions", "Ljava/util/List;", false)
  | 3 => ("java/lang/Throwable", "detailMessage", "Ljava/lang/String;", false)
  | 4 => ("java/lang/Throwable", "backtrace", "Ljava/lang/Object;", false)
  | _ => ("java/lang/Throwable", "depth", "I", false)
def tyJx00060 : Nat → FieldType := fun k => match k with
  | 0 => .object "java/lang/Throwable"
  | 1 => .array (.object "java/lang/StackTraceElement")
  | 2 => .object "java/util/List"
  | 3 => .object "java/lang/String"
  | 4 => .object "java/lang/Object"
  | _ => .int
abbrev wsJx000600 : List Cond := u_ws RJx00060 TJx00060 6
theorem nmJx00060 : ∀ a, a < 6 → ∀ b, b < 6 → a ≠ b → (TJx00060 a).2.1 ≠ (TJx00060 b).2.1 := by decide +kernel
theorem tyJx00060_ok : ∀ k, k < 6 → parseFieldDescriptor (TJx00060 k).2.2.1 = some (tyJx00060 k) := by decide +kernel
abbrev cJx00060_init_a7421 : ByteArray := prog_8_method_2_code
def yJx00060_init_a7421 : MethodName := ⟨RJx00060, "<init>", "(Ljava/lang/String;)V"⟩
def RJ9 : String := "java/lang/Math"
def TJ9 : u_T := fun k => match k with
  | _ => ("", "", "", false)
def tyJ9 : Nat → FieldType := fun k => match k with
  | _ => .int
abbrev wsJ90 : List Cond := u_ws RJ9 TJ9 0
theorem nmJ9 : ∀ a, a < 0 → ∀ b, b < 0 → a ≠ b → (TJ9 a).2.1 ≠ (TJ9 b).2.1 := by decide +kernel
theorem tyJ9_ok : ∀ k, k < 0 → parseFieldDescriptor (TJ9 k).2.2.1 = some (tyJ9 k) := by decide +kernel
abbrev cJ9_abs_0f7a4 : ByteArray := prog_11_method_59_code
def yJ9_abs_0f7a4 : MethodName := ⟨RJ9, "abs", "(I)I"⟩
abbrev cJ9_max_7cf53 : ByteArray := prog_11_method_65_code
def yJ9_max_7cf53 : MethodName := ⟨RJ9, "max", "(II)I"⟩
abbrev cJ9_min_7cf53 : ByteArray := prog_11_method_69_code
def yJ9_min_7cf53 : MethodName := ⟨RJ9, "min", "(II)I"⟩
def RJ0 : String := "java/lang/String"
def TJ0 : u_T := fun k => match k with
  | _ => ("", "", "", false)
def tyJ0 : Nat → FieldType := fun k => match k with
  | _ => .int
abbrev wsJ00 : List Cond := u_ws RJ0 TJ0 0
theorem nmJ0 : ∀ a, a < 0 → ∀ b, b < 0 → a ≠ b → (TJ0 a).2.1 ≠ (TJ0 b).2.1 := by decide +kernel
theorem tyJ0_ok : ∀ k, k < 0 → parseFieldDescriptor (TJ0 k).2.2.1 = some (tyJ0 k) := by decide +kernel
def RJ7 : String := "java/util/Arrays"
def TJ7 : u_T := fun k => match k with
  | _ => ("", "", "", false)
def tyJ7 : Nat → FieldType := fun k => match k with
  | _ => .int
abbrev wsJ70 : List Cond := u_ws RJ7 TJ7 0
theorem nmJ7 : ∀ a, a < 0 → ∀ b, b < 0 → a ≠ b → (TJ7 a).2.1 ≠ (TJ7 b).2.1 := by decide +kernel
theorem tyJ7_ok : ∀ k, k < 0 → parseFieldDescriptor (TJ7 k).2.2.1 = some (tyJ7 k) := by decide +kernel
abbrev cJ7_fill_d0a16 : ByteArray := prog_15_method_101_code
def yJ7_fill_d0a16 : MethodName := ⟨RJ7, "fill", "([JJ)V"⟩
abbrev cJ7_fill_53178 : ByteArray := prog_15_method_103_code
def yJ7_fill_53178 : MethodName := ⟨RJ7, "fill", "([II)V"⟩
def RL : String := "ParkWaysLaw"
abbrev cL_cell : ByteArray := method_2_code
def yL_cell : MethodName := ⟨RL, "cell", "([II)I"⟩
abbrev cL_cell_ : ByteArray := method_3_code
def yL_cell_ : MethodName := ⟨RL, "cell", "(LParkWays;IIZ[J)I"⟩
abbrev cL_change : ByteArray := method_4_code
def yL_change : MethodName := ⟨RL, "change", "(LParkWays;IIZ[J)I"⟩
abbrev cL_heading : ByteArray := method_5_code
def yL_heading : MethodName := ⟨RL, "heading", "(LParkWays;I[J)I"⟩
abbrev cL_law : ByteArray := code
def yL_law : MethodName := ⟨RL, "law", "([I)Z"⟩
def wsX1_placeRoom : List Cond := .code yX1_placeRoom cX1_placeRoom 1 (some .int) :: ([.fieldLink RX1 15 "ParkWays$Field" "height" "I"] ++ wsX10)
def wsX0_init : List Cond := .code yX0_init cX0_init 2 none :: ([.methodLink RX0 3 objectInit, .instanceMethod objectInit, .code objectInit ⟨#[0xb1]⟩ 1 none, .fieldLink RX0 9 "ParkWays$Car" "length" "I", .fieldLink RX0 15 "ParkWays$Car" "wide" "I", .fieldLink RX0 18 "ParkWays$Car" "radius" "I", .fieldLink RX0 21 "ParkWays$Car" "field" "LParkWays$Field;", .arrayClass .int, .fieldLink RX0 31 "ParkWays$Car" "known" "[I", .methodLink RX0 25 yX1_placeRoom, .instanceMethod yX1_placeRoom, .selects RX1 yX1_placeRoom yX1_placeRoom, .initialized RX1, .code yX1_placeRoom cX1_placeRoom 1 (some .int), .fieldLink RX1 15 "ParkWays$Field" "height" "I"] ++ wsX00 ++ wsX10)
def wsJ7_fill_53178 : List Cond := .code yJ7_fill_53178 cJ7_fill_53178 4 none :: ([])
def wsX0_forget : List Cond := .code yX0_forget cX0_forget 1 none :: ([.fieldLink RX0 31 "ParkWays$Car" "known" "[I", .methodLink RX0 38 yJ7_fill_53178, .static yJ7_fill_53178, .initialized RJ7, .code yJ7_fill_53178 cJ7_fill_53178 4 none] ++ wsX00)
def wsX0_build : List Cond := .code yX0_build cX0_build 4 none :: ([.fieldLink RX0 9 "ParkWays$Car" "length" "I", .fieldLink RX0 15 "ParkWays$Car" "wide" "I", .fieldLink RX0 18 "ParkWays$Car" "radius" "I", .methodLink RX0 35 yX0_forget, .instanceMethod yX0_forget, .selects RX0 yX0_forget yX0_forget, .initialized RX0, .code yX0_forget cX0_forget 1 none, .fieldLink RX0 31 "ParkWays$Car" "known" "[I", .methodLink RX0 38 yJ7_fill_53178, .static yJ7_fill_53178, .initialized RJ7, .code yJ7_fill_53178 cJ7_fill_53178 4 none] ++ wsX00)
def wsX4_headingOf : List Cond := .code yX4_headingOf cX4_headingOf 1 (some .int) :: ([])
def wsX4_xOf : List Cond := .code yX4_xOf cX4_xOf 1 (some .int) :: ([])
def wsX4_stepX : List Cond := .code yX4_stepX cX4_stepX 1 (some .int) :: ([.fieldLink RX4 222 "ParkWays" "STEP_X" "[I"])
def wsX0_coveredX : List Cond := .code yX0_coveredX cX0_coveredX 4 (some .int) :: ([.static yX4_headingOf, .initialized RX4, .code yX4_headingOf cX4_headingOf 1 (some .int), .static yX4_xOf, .code yX4_xOf cX4_xOf 1 (some .int), .static yX4_stepX, .code yX4_stepX cX4_stepX 1 (some .int), .fieldLink RX4 222 "ParkWays" "STEP_X" "[I"])
def wsX4_yOf : List Cond := .code yX4_yOf cX4_yOf 1 (some .int) :: ([])
def wsX4_stepY : List Cond := .code yX4_stepY cX4_stepY 1 (some .int) :: ([.fieldLink RX4 226 "ParkWays" "STEP_Y" "[I"])
def wsX0_coveredY : List Cond := .code yX0_coveredY cX0_coveredY 4 (some .int) :: ([.static yX4_headingOf, .initialized RX4, .code yX4_headingOf cX4_headingOf 1 (some .int), .static yX4_yOf, .code yX4_yOf cX4_yOf 1 (some .int), .static yX4_stepY, .code yX4_stepY cX4_stepY 1 (some .int), .fieldLink RX4 226 "ParkWays" "STEP_Y" "[I"])
def wsX1_hasCell : List Cond := .code yX1_hasCell cX1_hasCell 3 (some .boolean) :: ([.fieldLink RX1 9 "ParkWays$Field" "width" "I", .fieldLink RX1 15 "ParkWays$Field" "height" "I"] ++ wsX10)
def wsX4_cellAt : List Cond := .code yX4_cellAt cX4_cellAt 2 (some .int) :: ([])
def wsX1_isKeptClear : List Cond := .code yX1_isKeptClear cX1_isKeptClear 3 (some .boolean) :: ([.fieldLink RX1 25 "ParkWays$Field" "fullWithinKeep" "[I", .methodLink RX1 33 yX1_hasCell, .instanceMethod yX1_hasCell, .selects RX1 yX1_hasCell yX1_hasCell, .initialized RX1, .code yX1_hasCell cX1_hasCell 3 (some .boolean), .fieldLink RX1 9 "ParkWays$Field" "width" "I", .fieldLink RX1 15 "ParkWays$Field" "height" "I", .static yX4_cellAt, .initialized RX4, .code yX4_cellAt cX4_cellAt 2 (some .int)] ++ wsX10)
def wsX0_coversClearCells_r1 : List Cond := [Cond.fieldLink RX0 9 "ParkWays$Car" "length" "I", Cond.fieldLink RX0 15 "ParkWays$Car" "wide" "I", Cond.fieldLink RX0 21 "ParkWays$Car" "field" "LParkWays$Field;", Cond.methodLink RX0 48 yX0_coveredX, Cond.static yX0_coveredX, Cond.initialized RX0, Cond.code yX0_coveredX cX0_coveredX 4 (some .int), Cond.static yX4_headingOf, Cond.initialized RX4, Cond.code yX4_headingOf cX4_headingOf 1 (some .int), Cond.static yX4_xOf, Cond.code yX4_xOf cX4_xOf 1 (some .int), Cond.static yX4_stepX, Cond.code yX4_stepX cX4_stepX 1 (some .int), Cond.fieldLink RX4 222 "ParkWays" "STEP_X" "[I", Cond.methodLink RX0 52 yX0_coveredY, Cond.static yX0_coveredY, Cond.code yX0_coveredY cX0_coveredY 4 (some .int), Cond.static yX4_yOf, Cond.code yX4_yOf cX4_yOf 1 (some .int), Cond.static yX4_stepY, Cond.code yX4_stepY cX4_stepY 1 (some .int), Cond.fieldLink RX4 226 "ParkWays" "STEP_Y" "[I", Cond.methodLink RX0 55 yX1_isKeptClear]
def wsX0_coversClearCells_r2 : List Cond := [Cond.instanceMethod yX1_isKeptClear, Cond.selects RX1 yX1_isKeptClear yX1_isKeptClear, Cond.initialized RX1, Cond.code yX1_isKeptClear cX1_isKeptClear 3 (some .boolean), Cond.fieldLink RX1 25 "ParkWays$Field" "fullWithinKeep" "[I", Cond.methodLink RX1 33 yX1_hasCell, Cond.instanceMethod yX1_hasCell, Cond.selects RX1 yX1_hasCell yX1_hasCell, Cond.code yX1_hasCell cX1_hasCell 3 (some .boolean), Cond.fieldLink RX1 9 "ParkWays$Field" "width" "I", Cond.fieldLink RX1 15 "ParkWays$Field" "height" "I", Cond.static yX4_cellAt, Cond.code yX4_cellAt cX4_cellAt 2 (some .int)]
def wsX0_coversClearCells : List Cond := .code yX0_coversClearCells cX0_coversClearCells 4 (some .boolean) :: ((wsX0_coversClearCells_r1 ++ wsX0_coversClearCells_r2) ++ wsX00 ++ wsX10)
def wsX0_isFree_r1 : List Cond := [Cond.fieldLink RX0 31 "ParkWays$Car" "known" "[I", Cond.methodLink RX0 44 yX0_coversClearCells, Cond.instanceMethod yX0_coversClearCells, Cond.selects RX0 yX0_coversClearCells yX0_coversClearCells, Cond.initialized RX0, Cond.code yX0_coversClearCells cX0_coversClearCells 4 (some .boolean), Cond.fieldLink RX0 9 "ParkWays$Car" "length" "I", Cond.fieldLink RX0 15 "ParkWays$Car" "wide" "I", Cond.fieldLink RX0 21 "ParkWays$Car" "field" "LParkWays$Field;", Cond.methodLink RX0 48 yX0_coveredX, Cond.static yX0_coveredX, Cond.code yX0_coveredX cX0_coveredX 4 (some .int), Cond.static yX4_headingOf, Cond.initialized RX4, Cond.code yX4_headingOf cX4_headingOf 1 (some .int), Cond.static yX4_xOf, Cond.code yX4_xOf cX4_xOf 1 (some .int), Cond.static yX4_stepX, Cond.code yX4_stepX cX4_stepX 1 (some .int), Cond.fieldLink RX4 222 "ParkWays" "STEP_X" "[I", Cond.methodLink RX0 52 yX0_coveredY, Cond.static yX0_coveredY, Cond.code yX0_coveredY cX0_coveredY 4 (some .int), Cond.static yX4_yOf]
def wsX0_isFree_r2 : List Cond := [Cond.code yX4_yOf cX4_yOf 1 (some .int), Cond.static yX4_stepY, Cond.code yX4_stepY cX4_stepY 1 (some .int), Cond.fieldLink RX4 226 "ParkWays" "STEP_Y" "[I", Cond.methodLink RX0 55 yX1_isKeptClear, Cond.instanceMethod yX1_isKeptClear, Cond.selects RX1 yX1_isKeptClear yX1_isKeptClear, Cond.initialized RX1, Cond.code yX1_isKeptClear cX1_isKeptClear 3 (some .boolean), Cond.fieldLink RX1 25 "ParkWays$Field" "fullWithinKeep" "[I", Cond.methodLink RX1 33 yX1_hasCell, Cond.instanceMethod yX1_hasCell, Cond.selects RX1 yX1_hasCell yX1_hasCell, Cond.code yX1_hasCell cX1_hasCell 3 (some .boolean), Cond.fieldLink RX1 9 "ParkWays$Field" "width" "I", Cond.fieldLink RX1 15 "ParkWays$Field" "height" "I", Cond.static yX4_cellAt, Cond.code yX4_cellAt cX4_cellAt 2 (some .int)]
def wsX0_isFree : List Cond := .code yX0_isFree cX0_isFree 2 (some .boolean) :: ((wsX0_isFree_r1 ++ wsX0_isFree_r2) ++ wsX00 ++ wsX10)
def wsX1_isFull : List Cond := .code yX1_isFull cX1_isFull 3 (some .boolean) :: ([.fieldLink RX1 21 "ParkWays$Field" "full" "[Z", .methodLink RX1 33 yX1_hasCell, .instanceMethod yX1_hasCell, .selects RX1 yX1_hasCell yX1_hasCell, .initialized RX1, .code yX1_hasCell cX1_hasCell 3 (some .boolean), .fieldLink RX1 9 "ParkWays$Field" "width" "I", .fieldLink RX1 15 "ParkWays$Field" "height" "I", .static yX4_cellAt, .initialized RX4, .code yX4_cellAt cX4_cellAt 2 (some .int)] ++ wsX10)
def wsX1_distanceToFull_r1 : List Cond := [Cond.methodLink RX1 60 Lib.Math.abs.name, Cond.static Lib.Math.abs.name, Cond.initialized "java/lang/Math", Cond.code Lib.Math.abs.name Lib.Math.abs.code 1 (some .int), Cond.methodLink RX1 66 Lib.Math.max.name, Cond.static Lib.Math.max.name, Cond.code Lib.Math.max.name Lib.Math.max.code 2 (some .int), Cond.methodLink RX1 69 Lib.Math.min.name, Cond.static Lib.Math.min.name, Cond.code Lib.Math.min.name Lib.Math.min.code 2 (some .int), Cond.methodLink RX1 54 yX1_isFull, Cond.instanceMethod yX1_isFull, Cond.selects RX1 yX1_isFull yX1_isFull, Cond.initialized RX1, Cond.code yX1_isFull cX1_isFull 3 (some .boolean), Cond.fieldLink RX1 21 "ParkWays$Field" "full" "[Z", Cond.methodLink RX1 33 yX1_hasCell, Cond.instanceMethod yX1_hasCell, Cond.selects RX1 yX1_hasCell yX1_hasCell, Cond.code yX1_hasCell cX1_hasCell 3 (some .boolean), Cond.fieldLink RX1 9 "ParkWays$Field" "width" "I", Cond.fieldLink RX1 15 "ParkWays$Field" "height" "I", Cond.static yX4_cellAt, Cond.initialized RX4]
def wsX1_distanceToFull_r2 : List Cond := [Cond.code yX4_cellAt cX4_cellAt 2 (some .int)]
def wsX1_distanceToFull : List Cond := .code yX1_distanceToFull cX1_distanceToFull 7 (some .int) :: ((wsX1_distanceToFull_r1 ++ wsX1_distanceToFull_r2) ++ wsX10)
def wsX0_marginAt_r1 : List Cond := [Cond.fieldLink RX0 9 "ParkWays$Car" "length" "I", Cond.fieldLink RX0 15 "ParkWays$Car" "wide" "I", Cond.fieldLink RX0 21 "ParkWays$Car" "field" "LParkWays$Field;", Cond.methodLink RX0 48 yX0_coveredX, Cond.static yX0_coveredX, Cond.initialized RX0, Cond.code yX0_coveredX cX0_coveredX 4 (some .int), Cond.static yX4_headingOf, Cond.initialized RX4, Cond.code yX4_headingOf cX4_headingOf 1 (some .int), Cond.static yX4_xOf, Cond.code yX4_xOf cX4_xOf 1 (some .int), Cond.static yX4_stepX, Cond.code yX4_stepX cX4_stepX 1 (some .int), Cond.fieldLink RX4 222 "ParkWays" "STEP_X" "[I", Cond.methodLink RX0 52 yX0_coveredY, Cond.static yX0_coveredY, Cond.code yX0_coveredY cX0_coveredY 4 (some .int), Cond.static yX4_yOf, Cond.code yX4_yOf cX4_yOf 1 (some .int), Cond.static yX4_stepY, Cond.code yX4_stepY cX4_stepY 1 (some .int), Cond.fieldLink RX4 226 "ParkWays" "STEP_Y" "[I", Cond.methodLink RX0 59 yX1_distanceToFull]
def wsX0_marginAt_r2 : List Cond := [Cond.instanceMethod yX1_distanceToFull, Cond.selects RX1 yX1_distanceToFull yX1_distanceToFull, Cond.initialized RX1, Cond.code yX1_distanceToFull cX1_distanceToFull 7 (some .int), Cond.methodLink RX1 60 Lib.Math.abs.name, Cond.static Lib.Math.abs.name, Cond.initialized "java/lang/Math", Cond.code Lib.Math.abs.name Lib.Math.abs.code 1 (some .int), Cond.methodLink RX1 66 Lib.Math.max.name, Cond.static Lib.Math.max.name, Cond.code Lib.Math.max.name Lib.Math.max.code 2 (some .int), Cond.methodLink RX1 69 Lib.Math.min.name, Cond.static Lib.Math.min.name, Cond.code Lib.Math.min.name Lib.Math.min.code 2 (some .int), Cond.methodLink RX1 54 yX1_isFull, Cond.instanceMethod yX1_isFull, Cond.selects RX1 yX1_isFull yX1_isFull, Cond.code yX1_isFull cX1_isFull 3 (some .boolean), Cond.fieldLink RX1 21 "ParkWays$Field" "full" "[Z", Cond.methodLink RX1 33 yX1_hasCell, Cond.instanceMethod yX1_hasCell, Cond.selects RX1 yX1_hasCell yX1_hasCell, Cond.code yX1_hasCell cX1_hasCell 3 (some .boolean), Cond.fieldLink RX1 9 "ParkWays$Field" "width" "I"]
def wsX0_marginAt_r3 : List Cond := [Cond.fieldLink RX1 15 "ParkWays$Field" "height" "I", Cond.static yX4_cellAt, Cond.code yX4_cellAt cX4_cellAt 2 (some .int)]
def wsX0_marginAt : List Cond := .code yX0_marginAt cX0_marginAt 5 (some .int) :: ((wsX0_marginAt_r1 ++ (wsX0_marginAt_r2 ++ wsX0_marginAt_r3)) ++ wsX00 ++ wsX10)
def wsX0_senseOf : List Cond := .code yX0_senseOf cX0_senseOf 1 (some .int) :: ([])
def wsX0_isArc : List Cond := .code yX0_isArc cX0_isArc 1 (some .boolean) :: ([])
def wsX4_placeAt : List Cond := .code yX4_placeAt cX4_placeAt 3 (some .int) :: ([.methodLink RX4 219 yX4_cellAt, .static yX4_cellAt, .initialized RX4, .code yX4_cellAt cX4_cellAt 2 (some .int)])
def wsX0_shifted_r1 : List Cond := [Cond.fieldLink RX0 21 "ParkWays$Car" "field" "LParkWays$Field;", Cond.static yX4_headingOf, Cond.initialized RX4, Cond.code yX4_headingOf cX4_headingOf 1 (some .int), Cond.static yX4_xOf, Cond.code yX4_xOf cX4_xOf 1 (some .int), Cond.static yX4_stepX, Cond.code yX4_stepX cX4_stepX 1 (some .int), Cond.fieldLink RX4 222 "ParkWays" "STEP_X" "[I", Cond.static yX4_yOf, Cond.code yX4_yOf cX4_yOf 1 (some .int), Cond.static yX4_stepY, Cond.code yX4_stepY cX4_stepY 1 (some .int), Cond.fieldLink RX4 226 "ParkWays" "STEP_Y" "[I", Cond.methodLink RX0 94 yX1_hasCell, Cond.instanceMethod yX1_hasCell, Cond.selects RX1 yX1_hasCell yX1_hasCell, Cond.initialized RX1, Cond.code yX1_hasCell cX1_hasCell 3 (some .boolean), Cond.fieldLink RX1 9 "ParkWays$Field" "width" "I", Cond.fieldLink RX1 15 "ParkWays$Field" "height" "I", Cond.static yX4_placeAt, Cond.code yX4_placeAt cX4_placeAt 3 (some .int), Cond.methodLink RX4 219 yX4_cellAt]
def wsX0_shifted_r2 : List Cond := [Cond.static yX4_cellAt, Cond.code yX4_cellAt cX4_cellAt 2 (some .int)]
def wsX0_shifted : List Cond := .code yX0_shifted cX0_shifted 6 (some .int) :: ((wsX0_shifted_r1 ++ wsX0_shifted_r2) ++ wsX00 ++ wsX10)
def wsX0_turned : List Cond := .code yX0_turned cX0_turned 4 (some .int) :: ([.fieldLink RX0 21 "ParkWays$Car" "field" "LParkWays$Field;", .static yX4_xOf, .initialized RX4, .code yX4_xOf cX4_xOf 1 (some .int), .static yX4_yOf, .code yX4_yOf cX4_yOf 1 (some .int), .static yX4_headingOf, .code yX4_headingOf cX4_headingOf 1 (some .int), .static yX4_placeAt, .code yX4_placeAt cX4_placeAt 3 (some .int), .methodLink RX4 219 yX4_cellAt, .static yX4_cellAt, .code yX4_cellAt cX4_cellAt 2 (some .int)] ++ wsX00 ++ wsX10)
def wsX0_landing_r1 : List Cond := [Cond.fieldLink RX0 18 "ParkWays$Car" "radius" "I", Cond.methodLink RX0 78 yX0_senseOf, Cond.static yX0_senseOf, Cond.initialized RX0, Cond.code yX0_senseOf cX0_senseOf 1 (some .int), Cond.methodLink RX0 81 yX0_isArc, Cond.static yX0_isArc, Cond.code yX0_isArc cX0_isArc 1 (some .boolean), Cond.methodLink RX0 84 yX0_shifted, Cond.instanceMethod yX0_shifted, Cond.selects RX0 yX0_shifted yX0_shifted, Cond.code yX0_shifted cX0_shifted 6 (some .int), Cond.fieldLink RX0 21 "ParkWays$Car" "field" "LParkWays$Field;", Cond.static yX4_headingOf, Cond.initialized RX4, Cond.code yX4_headingOf cX4_headingOf 1 (some .int), Cond.static yX4_xOf, Cond.code yX4_xOf cX4_xOf 1 (some .int), Cond.static yX4_stepX, Cond.code yX4_stepX cX4_stepX 1 (some .int), Cond.fieldLink RX4 222 "ParkWays" "STEP_X" "[I", Cond.static yX4_yOf, Cond.code yX4_yOf cX4_yOf 1 (some .int), Cond.static yX4_stepY]
def wsX0_landing_r2 : List Cond := [Cond.code yX4_stepY cX4_stepY 1 (some .int), Cond.fieldLink RX4 226 "ParkWays" "STEP_Y" "[I", Cond.methodLink RX0 94 yX1_hasCell, Cond.instanceMethod yX1_hasCell, Cond.selects RX1 yX1_hasCell yX1_hasCell, Cond.initialized RX1, Cond.code yX1_hasCell cX1_hasCell 3 (some .boolean), Cond.fieldLink RX1 9 "ParkWays$Field" "width" "I", Cond.fieldLink RX1 15 "ParkWays$Field" "height" "I", Cond.static yX4_placeAt, Cond.code yX4_placeAt cX4_placeAt 3 (some .int), Cond.methodLink RX4 219 yX4_cellAt, Cond.static yX4_cellAt, Cond.code yX4_cellAt cX4_cellAt 2 (some .int), Cond.methodLink RX0 88 yX0_turned, Cond.instanceMethod yX0_turned, Cond.selects RX0 yX0_turned yX0_turned, Cond.code yX0_turned cX0_turned 4 (some .int)]
def wsX0_landing : List Cond := .code yX0_landing cX0_landing 4 (some .int) :: ((wsX0_landing_r1 ++ wsX0_landing_r2) ++ wsX00 ++ wsX10)
def wsX0_mayMake_r1 : List Cond := [Cond.fieldLink RX0 18 "ParkWays$Car" "radius" "I", Cond.methodLink RX0 78 yX0_senseOf, Cond.static yX0_senseOf, Cond.initialized RX0, Cond.code yX0_senseOf cX0_senseOf 1 (some .int), Cond.methodLink RX0 81 yX0_isArc, Cond.static yX0_isArc, Cond.code yX0_isArc cX0_isArc 1 (some .boolean), Cond.methodLink RX0 84 yX0_shifted, Cond.instanceMethod yX0_shifted, Cond.selects RX0 yX0_shifted yX0_shifted, Cond.code yX0_shifted cX0_shifted 6 (some .int), Cond.fieldLink RX0 21 "ParkWays$Car" "field" "LParkWays$Field;", Cond.static yX4_headingOf, Cond.initialized RX4, Cond.code yX4_headingOf cX4_headingOf 1 (some .int), Cond.static yX4_xOf, Cond.code yX4_xOf cX4_xOf 1 (some .int), Cond.static yX4_stepX, Cond.code yX4_stepX cX4_stepX 1 (some .int), Cond.fieldLink RX4 222 "ParkWays" "STEP_X" "[I", Cond.static yX4_yOf, Cond.code yX4_yOf cX4_yOf 1 (some .int), Cond.static yX4_stepY]
def wsX0_mayMake_r2 : List Cond := [Cond.code yX4_stepY cX4_stepY 1 (some .int), Cond.fieldLink RX4 226 "ParkWays" "STEP_Y" "[I", Cond.methodLink RX0 94 yX1_hasCell, Cond.instanceMethod yX1_hasCell, Cond.selects RX1 yX1_hasCell yX1_hasCell, Cond.initialized RX1, Cond.code yX1_hasCell cX1_hasCell 3 (some .boolean), Cond.fieldLink RX1 9 "ParkWays$Field" "width" "I", Cond.fieldLink RX1 15 "ParkWays$Field" "height" "I", Cond.static yX4_placeAt, Cond.code yX4_placeAt cX4_placeAt 3 (some .int), Cond.methodLink RX4 219 yX4_cellAt, Cond.static yX4_cellAt, Cond.code yX4_cellAt cX4_cellAt 2 (some .int), Cond.methodLink RX0 88 yX0_turned, Cond.instanceMethod yX0_turned, Cond.selects RX0 yX0_turned yX0_turned, Cond.code yX0_turned cX0_turned 4 (some .int), Cond.methodLink RX0 91 yX0_isFree, Cond.instanceMethod yX0_isFree, Cond.selects RX0 yX0_isFree yX0_isFree, Cond.code yX0_isFree cX0_isFree 2 (some .boolean), Cond.fieldLink RX0 31 "ParkWays$Car" "known" "[I", Cond.methodLink RX0 44 yX0_coversClearCells]
def wsX0_mayMake_r3 : List Cond := [Cond.instanceMethod yX0_coversClearCells, Cond.selects RX0 yX0_coversClearCells yX0_coversClearCells, Cond.code yX0_coversClearCells cX0_coversClearCells 4 (some .boolean), Cond.fieldLink RX0 9 "ParkWays$Car" "length" "I", Cond.fieldLink RX0 15 "ParkWays$Car" "wide" "I", Cond.methodLink RX0 48 yX0_coveredX, Cond.static yX0_coveredX, Cond.code yX0_coveredX cX0_coveredX 4 (some .int), Cond.methodLink RX0 52 yX0_coveredY, Cond.static yX0_coveredY, Cond.code yX0_coveredY cX0_coveredY 4 (some .int), Cond.methodLink RX0 55 yX1_isKeptClear, Cond.instanceMethod yX1_isKeptClear, Cond.selects RX1 yX1_isKeptClear yX1_isKeptClear, Cond.code yX1_isKeptClear cX1_isKeptClear 3 (some .boolean), Cond.fieldLink RX1 25 "ParkWays$Field" "fullWithinKeep" "[I", Cond.methodLink RX1 33 yX1_hasCell]
def wsX0_mayMake : List Cond := .code yX0_mayMake cX0_mayMake 7 (some .boolean) :: ((wsX0_mayMake_r1 ++ (wsX0_mayMake_r2 ++ wsX0_mayMake_r3)) ++ wsX00 ++ wsX10)
def wsX0_lengthOf : List Cond := .code yX0_lengthOf cX0_lengthOf 2 (some .int) :: ([.fieldLink RX0 18 "ParkWays$Car" "radius" "I", .methodLink RX0 81 yX0_isArc, .static yX0_isArc, .initialized RX0, .code yX0_isArc cX0_isArc 1 (some .boolean)] ++ wsX00)
def wsX1_init : List Cond := .code yX1_init cX1_init 4 none :: ([.methodLink RX1 3 objectInit, .instanceMethod objectInit, .code objectInit ⟨#[0xb1]⟩ 1 none, .fieldLink RX1 9 "ParkWays$Field" "width" "I", .fieldLink RX1 15 "ParkWays$Field" "height" "I", .fieldLink RX1 18 "ParkWays$Field" "turn" "I", .arrayClass .boolean, .fieldLink RX1 21 "ParkWays$Field" "full" "[Z", .arrayClass .int, .fieldLink RX1 25 "ParkWays$Field" "fullWithinKeep" "[I"] ++ wsX10)
def wsX4_isFrom : List Cond := .code yX4_isFrom cX4_isFrom 3 (some .boolean) :: ([])
def wsX1_hasHeading : List Cond := .code yX1_hasHeading cX1_hasHeading 2 (some .boolean) :: ([.fieldLink RX1 18 "ParkWays$Field" "turn" "I", .static yX4_isFrom, .initialized RX4, .code yX4_isFrom cX4_isFrom 3 (some .boolean)] ++ wsX10)
def wsX1_countAround : List Cond := .code yX1_countAround cX1_countAround 6 none :: ([.fieldLink RX1 45 "ParkWays$Field" "keep" "I", .fieldLink RX1 25 "ParkWays$Field" "fullWithinKeep" "[I", .methodLink RX1 33 yX1_hasCell, .instanceMethod yX1_hasCell, .selects RX1 yX1_hasCell yX1_hasCell, .initialized RX1, .code yX1_hasCell cX1_hasCell 3 (some .boolean), .fieldLink RX1 9 "ParkWays$Field" "width" "I", .fieldLink RX1 15 "ParkWays$Field" "height" "I", .static yX4_cellAt, .initialized RX4, .code yX4_cellAt cX4_cellAt 2 (some .int)] ++ wsX10)
def wsX1_setFull : List Cond := .code yX1_setFull cX1_setFull 4 (some .boolean) :: ([.fieldLink RX1 21 "ParkWays$Field" "full" "[Z", .methodLink RX1 33 yX1_hasCell, .instanceMethod yX1_hasCell, .selects RX1 yX1_hasCell yX1_hasCell, .initialized RX1, .code yX1_hasCell cX1_hasCell 3 (some .boolean), .fieldLink RX1 9 "ParkWays$Field" "width" "I", .fieldLink RX1 15 "ParkWays$Field" "height" "I", .static yX4_cellAt, .initialized RX4, .code yX4_cellAt cX4_cellAt 2 (some .int), .methodLink RX1 41 yX1_countAround, .instanceMethod yX1_countAround, .selects RX1 yX1_countAround yX1_countAround, .code yX1_countAround cX1_countAround 6 none, .fieldLink RX1 45 "ParkWays$Field" "keep" "I", .fieldLink RX1 25 "ParkWays$Field" "fullWithinKeep" "[I"] ++ wsX10)
def wsX1_setKeep_r1 : List Cond := [Cond.fieldLink RX1 45 "ParkWays$Field" "keep" "I", Cond.fieldLink RX1 25 "ParkWays$Field" "fullWithinKeep" "[I", Cond.fieldLink RX1 15 "ParkWays$Field" "height" "I", Cond.fieldLink RX1 9 "ParkWays$Field" "width" "I", Cond.methodLink RX1 48 yJ7_fill_53178, Cond.static yJ7_fill_53178, Cond.initialized RJ7, Cond.code yJ7_fill_53178 cJ7_fill_53178 4 none, Cond.methodLink RX1 54 yX1_isFull, Cond.instanceMethod yX1_isFull, Cond.selects RX1 yX1_isFull yX1_isFull, Cond.initialized RX1, Cond.code yX1_isFull cX1_isFull 3 (some .boolean), Cond.fieldLink RX1 21 "ParkWays$Field" "full" "[Z", Cond.methodLink RX1 33 yX1_hasCell, Cond.instanceMethod yX1_hasCell, Cond.selects RX1 yX1_hasCell yX1_hasCell, Cond.code yX1_hasCell cX1_hasCell 3 (some .boolean), Cond.static yX4_cellAt, Cond.initialized RX4, Cond.code yX4_cellAt cX4_cellAt 2 (some .int), Cond.methodLink RX1 41 yX1_countAround, Cond.instanceMethod yX1_countAround, Cond.selects RX1 yX1_countAround yX1_countAround]
def wsX1_setKeep_r2 : List Cond := [Cond.code yX1_countAround cX1_countAround 6 none]
def wsX1_setKeep : List Cond := .code yX1_setKeep cX1_setKeep 4 none :: ((wsX1_setKeep_r1 ++ wsX1_setKeep_r2) ++ wsX10)
def wsX1_runLength : List Cond := .code yX1_runLength cX1_runLength 5 (some .int) :: ([.fieldLink RX1 9 "ParkWays$Field" "width" "I", .methodLink RX1 54 yX1_isFull, .instanceMethod yX1_isFull, .selects RX1 yX1_isFull yX1_isFull, .initialized RX1, .code yX1_isFull cX1_isFull 3 (some .boolean), .fieldLink RX1 21 "ParkWays$Field" "full" "[Z", .methodLink RX1 33 yX1_hasCell, .instanceMethod yX1_hasCell, .selects RX1 yX1_hasCell yX1_hasCell, .code yX1_hasCell cX1_hasCell 3 (some .boolean), .fieldLink RX1 15 "ParkWays$Field" "height" "I", .static yX4_cellAt, .initialized RX4, .code yX4_cellAt cX4_cellAt 2 (some .int)] ++ wsX10)
def wsX1_firstRun : List Cond := .code yX1_firstRun cX1_firstRun 4 (some .int) :: ([.fieldLink RX1 9 "ParkWays$Field" "width" "I", .methodLink RX1 57 yX1_runLength, .instanceMethod yX1_runLength, .selects RX1 yX1_runLength yX1_runLength, .initialized RX1, .code yX1_runLength cX1_runLength 5 (some .int), .methodLink RX1 54 yX1_isFull, .instanceMethod yX1_isFull, .selects RX1 yX1_isFull yX1_isFull, .code yX1_isFull cX1_isFull 3 (some .boolean), .fieldLink RX1 21 "ParkWays$Field" "full" "[Z", .methodLink RX1 33 yX1_hasCell, .instanceMethod yX1_hasCell, .selects RX1 yX1_hasCell yX1_hasCell, .code yX1_hasCell cX1_hasCell 3 (some .boolean), .fieldLink RX1 15 "ParkWays$Field" "height" "I", .static yX4_cellAt, .initialized RX4, .code yX4_cellAt cX4_cellAt 2 (some .int)] ++ wsX10)
def wsX2_init : List Cond := .code yX2_init cX2_init 3 none :: ([.methodLink RX2 3 objectInit, .instanceMethod objectInit, .code objectInit ⟨#[0xb1]⟩ 1 none, .fieldLink RX2 9 "ParkWays$Search" "car" "LParkWays$Car;", .arrayClass .long, .fieldLink RX2 15 "ParkWays$Search" "cost" "[J", .arrayClass .int, .fieldLink RX2 19 "ParkWays$Search" "queue" "[I"] ++ wsX20)
def wsJ7_fill_d0a16 : List Cond := .code yJ7_fill_d0a16 cJ7_fill_d0a16 5 none :: ([])
def wsX2_reach : List Cond := .code yX2_reach cX2_reach 4 none :: ([.fieldLink RX2 15 "ParkWays$Search" "cost" "[J", .constantLong RX2 23 (1152921504606846976), .fieldLink RX2 31 "ParkWays$Search" "reached" "I", .fieldLink RX2 19 "ParkWays$Search" "queue" "[I"] ++ wsX20)
def wsX2_costAt : List Cond := .code yX2_costAt cX2_costAt 2 (some .long) :: ([.fieldLink RX2 15 "ParkWays$Search" "cost" "[J", .constantLong RX2 23 (1152921504606846976)] ++ wsX20)
def wsX2_costOf : List Cond := .code yX2_costOf cX2_costOf 2 (some .long) :: ([.constantLong RX2 60 (1099511627776), .fieldLink RX2 9 "ParkWays$Search" "car" "LParkWays$Car;", .constantLong RX2 66 (1048576), .methodLink RX2 62 yX0_lengthOf, .instanceMethod yX0_lengthOf, .selects RX0 yX0_lengthOf yX0_lengthOf, .initialized RX0, .code yX0_lengthOf cX0_lengthOf 2 (some .int), .fieldLink RX0 18 "ParkWays$Car" "radius" "I", .methodLink RX0 81 yX0_isArc, .static yX0_isArc, .code yX0_isArc cX0_isArc 1 (some .boolean), .methodLink RX2 68 yX0_isArc] ++ wsX20 ++ wsX00)
def wsX2_spreadFrom_r1 : List Cond := [Cond.fieldLink RX2 15 "ParkWays$Search" "cost" "[J", Cond.constantLong RX2 23 (1152921504606846976), Cond.fieldLink RX2 31 "ParkWays$Search" "reached" "I", Cond.fieldLink RX2 9 "ParkWays$Search" "car" "LParkWays$Car;", Cond.fieldLink RX2 19 "ParkWays$Search" "queue" "[I", Cond.methodLink RX2 25 yJ7_fill_d0a16, Cond.static yJ7_fill_d0a16, Cond.initialized RJ7, Cond.code yJ7_fill_d0a16 cJ7_fill_d0a16 5 none, Cond.methodLink RX2 35 yX0_isFree, Cond.instanceMethod yX0_isFree, Cond.selects RX0 yX0_isFree yX0_isFree, Cond.initialized RX0, Cond.code yX0_isFree cX0_isFree 2 (some .boolean), Cond.fieldLink RX0 31 "ParkWays$Car" "known" "[I", Cond.methodLink RX0 44 yX0_coversClearCells, Cond.instanceMethod yX0_coversClearCells, Cond.selects RX0 yX0_coversClearCells yX0_coversClearCells, Cond.code yX0_coversClearCells cX0_coversClearCells 4 (some .boolean), Cond.fieldLink RX0 9 "ParkWays$Car" "length" "I", Cond.fieldLink RX0 15 "ParkWays$Car" "wide" "I", Cond.fieldLink RX0 21 "ParkWays$Car" "field" "LParkWays$Field;", Cond.methodLink RX0 48 yX0_coveredX, Cond.static yX0_coveredX]
def wsX2_spreadFrom_r2 : List Cond := [Cond.code yX0_coveredX cX0_coveredX 4 (some .int), Cond.static yX4_headingOf, Cond.initialized RX4, Cond.code yX4_headingOf cX4_headingOf 1 (some .int), Cond.static yX4_xOf, Cond.code yX4_xOf cX4_xOf 1 (some .int), Cond.static yX4_stepX, Cond.code yX4_stepX cX4_stepX 1 (some .int), Cond.fieldLink RX4 222 "ParkWays" "STEP_X" "[I", Cond.methodLink RX0 52 yX0_coveredY, Cond.static yX0_coveredY, Cond.code yX0_coveredY cX0_coveredY 4 (some .int), Cond.static yX4_yOf, Cond.code yX4_yOf cX4_yOf 1 (some .int), Cond.static yX4_stepY, Cond.code yX4_stepY cX4_stepY 1 (some .int), Cond.fieldLink RX4 226 "ParkWays" "STEP_Y" "[I", Cond.methodLink RX0 55 yX1_isKeptClear, Cond.instanceMethod yX1_isKeptClear, Cond.selects RX1 yX1_isKeptClear yX1_isKeptClear, Cond.initialized RX1, Cond.code yX1_isKeptClear cX1_isKeptClear 3 (some .boolean), Cond.fieldLink RX1 25 "ParkWays$Field" "fullWithinKeep" "[I", Cond.methodLink RX1 33 yX1_hasCell]
def wsX2_spreadFrom_r3 : List Cond := [Cond.instanceMethod yX1_hasCell, Cond.selects RX1 yX1_hasCell yX1_hasCell, Cond.code yX1_hasCell cX1_hasCell 3 (some .boolean), Cond.fieldLink RX1 9 "ParkWays$Field" "width" "I", Cond.fieldLink RX1 15 "ParkWays$Field" "height" "I", Cond.static yX4_cellAt, Cond.code yX4_cellAt cX4_cellAt 2 (some .int), Cond.methodLink RX2 41 yX2_reach, Cond.instanceMethod yX2_reach, Cond.selects RX2 yX2_reach yX2_reach, Cond.initialized RX2, Cond.code yX2_reach cX2_reach 4 none, Cond.methodLink RX2 45 yX0_landing, Cond.instanceMethod yX0_landing, Cond.selects RX0 yX0_landing yX0_landing, Cond.code yX0_landing cX0_landing 4 (some .int), Cond.fieldLink RX0 18 "ParkWays$Car" "radius" "I", Cond.methodLink RX0 78 yX0_senseOf, Cond.static yX0_senseOf, Cond.code yX0_senseOf cX0_senseOf 1 (some .int), Cond.methodLink RX0 81 yX0_isArc, Cond.static yX0_isArc, Cond.code yX0_isArc cX0_isArc 1 (some .boolean), Cond.methodLink RX0 84 yX0_shifted]
def wsX2_spreadFrom_r4 : List Cond := [Cond.instanceMethod yX0_shifted, Cond.selects RX0 yX0_shifted yX0_shifted, Cond.code yX0_shifted cX0_shifted 6 (some .int), Cond.methodLink RX0 94 yX1_hasCell, Cond.static yX4_placeAt, Cond.code yX4_placeAt cX4_placeAt 3 (some .int), Cond.methodLink RX4 219 yX4_cellAt, Cond.methodLink RX0 88 yX0_turned, Cond.instanceMethod yX0_turned, Cond.selects RX0 yX0_turned yX0_turned, Cond.code yX0_turned cX0_turned 4 (some .int), Cond.methodLink RX2 49 yX2_costAt, Cond.instanceMethod yX2_costAt, Cond.selects RX2 yX2_costAt yX2_costAt, Cond.code yX2_costAt cX2_costAt 2 (some .long), Cond.methodLink RX2 53 yX2_costOf, Cond.instanceMethod yX2_costOf, Cond.selects RX2 yX2_costOf yX2_costOf, Cond.code yX2_costOf cX2_costOf 2 (some .long), Cond.constantLong RX2 60 (1099511627776), Cond.constantLong RX2 66 (1048576), Cond.methodLink RX2 62 yX0_lengthOf, Cond.instanceMethod yX0_lengthOf, Cond.selects RX0 yX0_lengthOf yX0_lengthOf]
def wsX2_spreadFrom_r5 : List Cond := [Cond.code yX0_lengthOf cX0_lengthOf 2 (some .int), Cond.methodLink RX2 68 yX0_isArc, Cond.methodLink RX2 56 yX0_mayMake, Cond.instanceMethod yX0_mayMake, Cond.selects RX0 yX0_mayMake yX0_mayMake, Cond.code yX0_mayMake cX0_mayMake 7 (some .boolean), Cond.methodLink RX0 91 yX0_isFree]
def wsX2_spreadFrom : List Cond := .code yX2_spreadFrom cX2_spreadFrom 8 none :: ((wsX2_spreadFrom_r1 ++ (wsX2_spreadFrom_r2 ++ (wsX2_spreadFrom_r3 ++ (wsX2_spreadFrom_r4 ++ wsX2_spreadFrom_r5)))) ++ wsX20 ++ wsX00 ++ wsX10)
def wsX2_hasReached : List Cond := .code yX2_hasReached cX2_hasReached 2 (some .boolean) :: ([.constantLong RX2 23 (1152921504606846976), .methodLink RX2 49 yX2_costAt, .instanceMethod yX2_costAt, .selects RX2 yX2_costAt yX2_costAt, .initialized RX2, .code yX2_costAt cX2_costAt 2 (some .long), .fieldLink RX2 15 "ParkWays$Search" "cost" "[J"] ++ wsX20)
def wsX2_takenBefore : List Cond := .code yX2_takenBefore cX2_takenBefore 8 (some .int) :: ([.fieldLink RX2 31 "ParkWays$Search" "reached" "I", .fieldLink RX2 19 "ParkWays$Search" "queue" "[I", .methodLink RX2 49 yX2_costAt, .instanceMethod yX2_costAt, .selects RX2 yX2_costAt yX2_costAt, .initialized RX2, .code yX2_costAt cX2_costAt 2 (some .long), .fieldLink RX2 15 "ParkWays$Search" "cost" "[J", .constantLong RX2 23 (1152921504606846976)] ++ wsX20)
def wsX2_firstMoveFrom_r1 : List Cond := [Cond.fieldLink RX2 9 "ParkWays$Search" "car" "LParkWays$Car;", Cond.methodLink RX2 45 yX0_landing, Cond.instanceMethod yX0_landing, Cond.selects RX0 yX0_landing yX0_landing, Cond.initialized RX0, Cond.code yX0_landing cX0_landing 4 (some .int), Cond.fieldLink RX0 18 "ParkWays$Car" "radius" "I", Cond.methodLink RX0 78 yX0_senseOf, Cond.static yX0_senseOf, Cond.code yX0_senseOf cX0_senseOf 1 (some .int), Cond.methodLink RX0 81 yX0_isArc, Cond.static yX0_isArc, Cond.code yX0_isArc cX0_isArc 1 (some .boolean), Cond.methodLink RX0 84 yX0_shifted, Cond.instanceMethod yX0_shifted, Cond.selects RX0 yX0_shifted yX0_shifted, Cond.code yX0_shifted cX0_shifted 6 (some .int), Cond.fieldLink RX0 21 "ParkWays$Car" "field" "LParkWays$Field;", Cond.static yX4_headingOf, Cond.initialized RX4, Cond.code yX4_headingOf cX4_headingOf 1 (some .int), Cond.static yX4_xOf, Cond.code yX4_xOf cX4_xOf 1 (some .int), Cond.static yX4_stepX]
def wsX2_firstMoveFrom_r2 : List Cond := [Cond.code yX4_stepX cX4_stepX 1 (some .int), Cond.fieldLink RX4 222 "ParkWays" "STEP_X" "[I", Cond.static yX4_yOf, Cond.code yX4_yOf cX4_yOf 1 (some .int), Cond.static yX4_stepY, Cond.code yX4_stepY cX4_stepY 1 (some .int), Cond.fieldLink RX4 226 "ParkWays" "STEP_Y" "[I", Cond.methodLink RX0 94 yX1_hasCell, Cond.instanceMethod yX1_hasCell, Cond.selects RX1 yX1_hasCell yX1_hasCell, Cond.initialized RX1, Cond.code yX1_hasCell cX1_hasCell 3 (some .boolean), Cond.fieldLink RX1 9 "ParkWays$Field" "width" "I", Cond.fieldLink RX1 15 "ParkWays$Field" "height" "I", Cond.static yX4_placeAt, Cond.code yX4_placeAt cX4_placeAt 3 (some .int), Cond.methodLink RX4 219 yX4_cellAt, Cond.static yX4_cellAt, Cond.code yX4_cellAt cX4_cellAt 2 (some .int), Cond.methodLink RX0 88 yX0_turned, Cond.instanceMethod yX0_turned, Cond.selects RX0 yX0_turned yX0_turned, Cond.code yX0_turned cX0_turned 4 (some .int), Cond.methodLink RX2 49 yX2_costAt]
def wsX2_firstMoveFrom_r3 : List Cond := [Cond.instanceMethod yX2_costAt, Cond.selects RX2 yX2_costAt yX2_costAt, Cond.initialized RX2, Cond.code yX2_costAt cX2_costAt 2 (some .long), Cond.fieldLink RX2 15 "ParkWays$Search" "cost" "[J", Cond.constantLong RX2 23 (1152921504606846976), Cond.methodLink RX2 53 yX2_costOf, Cond.instanceMethod yX2_costOf, Cond.selects RX2 yX2_costOf yX2_costOf, Cond.code yX2_costOf cX2_costOf 2 (some .long), Cond.constantLong RX2 60 (1099511627776), Cond.constantLong RX2 66 (1048576), Cond.methodLink RX2 62 yX0_lengthOf, Cond.instanceMethod yX0_lengthOf, Cond.selects RX0 yX0_lengthOf yX0_lengthOf, Cond.code yX0_lengthOf cX0_lengthOf 2 (some .int), Cond.methodLink RX2 68 yX0_isArc, Cond.methodLink RX2 56 yX0_mayMake, Cond.instanceMethod yX0_mayMake, Cond.selects RX0 yX0_mayMake yX0_mayMake, Cond.code yX0_mayMake cX0_mayMake 7 (some .boolean), Cond.methodLink RX0 91 yX0_isFree, Cond.instanceMethod yX0_isFree, Cond.selects RX0 yX0_isFree yX0_isFree]
def wsX2_firstMoveFrom_r4 : List Cond := [Cond.code yX0_isFree cX0_isFree 2 (some .boolean), Cond.fieldLink RX0 31 "ParkWays$Car" "known" "[I", Cond.methodLink RX0 44 yX0_coversClearCells, Cond.instanceMethod yX0_coversClearCells, Cond.selects RX0 yX0_coversClearCells yX0_coversClearCells, Cond.code yX0_coversClearCells cX0_coversClearCells 4 (some .boolean), Cond.fieldLink RX0 9 "ParkWays$Car" "length" "I", Cond.fieldLink RX0 15 "ParkWays$Car" "wide" "I", Cond.methodLink RX0 48 yX0_coveredX, Cond.static yX0_coveredX, Cond.code yX0_coveredX cX0_coveredX 4 (some .int), Cond.methodLink RX0 52 yX0_coveredY, Cond.static yX0_coveredY, Cond.code yX0_coveredY cX0_coveredY 4 (some .int), Cond.methodLink RX0 55 yX1_isKeptClear, Cond.instanceMethod yX1_isKeptClear, Cond.selects RX1 yX1_isKeptClear yX1_isKeptClear, Cond.code yX1_isKeptClear cX1_isKeptClear 3 (some .boolean), Cond.fieldLink RX1 25 "ParkWays$Field" "fullWithinKeep" "[I", Cond.methodLink RX1 33 yX1_hasCell]
def wsX2_firstMoveFrom : List Cond := .code yX2_firstMoveFrom cX2_firstMoveFrom 4 (some .int) :: ((wsX2_firstMoveFrom_r1 ++ (wsX2_firstMoveFrom_r2 ++ (wsX2_firstMoveFrom_r3 ++ wsX2_firstMoveFrom_r4))) ++ wsX20 ++ wsX00 ++ wsX10)
def wsX3_init : List Cond := .code yX3_init cX3_init 2 none :: ([.methodLink RX3 3 objectInit, .instanceMethod objectInit, .code objectInit ⟨#[0xb1]⟩ 1 none, .arrayClass .int, .fieldLink RX3 9 "ParkWays$Way" "moves" "[I", .fieldLink RX3 15 "ParkWays$Way" "places" "[I"] ++ wsX30)
def wsX3_drop : List Cond := .code yX3_drop cX3_drop 1 none :: ([.fieldLink RX3 18 "ParkWays$Way" "stands" "Z", .fieldLink RX3 22 "ParkWays$Way" "count" "I", .fieldLink RX3 26 "ParkWays$Way" "made" "I"] ++ wsX30)
def wsX3_add : List Cond := .code yX3_add cX3_add 3 none :: ([.fieldLink RX3 22 "ParkWays$Way" "count" "I", .fieldLink RX3 9 "ParkWays$Way" "moves" "[I", .fieldLink RX3 15 "ParkWays$Way" "places" "[I"] ++ wsX30)
def wsX3_hasMove : List Cond := .code yX3_hasMove cX3_hasMove 2 (some .boolean) :: ([.fieldLink RX3 22 "ParkWays$Way" "count" "I"] ++ wsX30)
def wsX3_moveAt : List Cond := .code yX3_moveAt cX3_moveAt 2 (some .int) :: ([.fieldLink RX3 9 "ParkWays$Way" "moves" "[I", .methodLink RX3 29 yX3_hasMove, .instanceMethod yX3_hasMove, .selects RX3 yX3_hasMove yX3_hasMove, .initialized RX3, .code yX3_hasMove cX3_hasMove 2 (some .boolean), .fieldLink RX3 22 "ParkWays$Way" "count" "I"] ++ wsX30)
def wsX3_placeBehind : List Cond := .code yX3_placeBehind cX3_placeBehind 2 (some .int) :: ([.fieldLink RX3 15 "ParkWays$Way" "places" "[I", .methodLink RX3 29 yX3_hasMove, .instanceMethod yX3_hasMove, .selects RX3 yX3_hasMove yX3_hasMove, .initialized RX3, .code yX3_hasMove cX3_hasMove 2 (some .boolean), .fieldLink RX3 22 "ParkWays$Way" "count" "I"] ++ wsX30)
def wsX4_sideOf : List Cond := .code yX4_sideOf cX4_sideOf 1 (some .int) :: ([.methodLink RX4 75 yX4_isFrom, .static yX4_isFrom, .initialized RX4, .code yX4_isFrom cX4_isFrom 3 (some .boolean)])
def wsX4_init_r1 : List Cond := [Cond.methodLink RX4 1 objectInit, Cond.instanceMethod objectInit, Cond.code objectInit ⟨#[0xb1]⟩ 1 none, Cond.fieldLink RX4 7 "ParkWays" "held" "Z", Cond.classLink RX4 13 RX1, Cond.instantiable RX1 6, Cond.initialized RX1, Cond.fieldLink RX4 22 "ParkWays" "field" "LParkWays$Field;", Cond.classLink RX4 26 RX0, Cond.instantiable RX0 5, Cond.initialized RX0, Cond.fieldLink RX4 31 "ParkWays" "car" "LParkWays$Car;", Cond.classLink RX4 35 RX2, Cond.instantiable RX2 4, Cond.initialized RX2, Cond.fieldLink RX4 44 "ParkWays" "search" "LParkWays$Search;", Cond.classLink RX4 48 RX3, Cond.instantiable RX3 5, Cond.initialized RX3, Cond.fieldLink RX4 53 "ParkWays" "way" "LParkWays$Way;", Cond.methodLink RX4 15 yX4_sideOf, Cond.static yX4_sideOf, Cond.initialized RX4, Cond.code yX4_sideOf cX4_sideOf 1 (some .int)]
def wsX4_init_r2 : List Cond := [Cond.methodLink RX4 75 yX4_isFrom, Cond.static yX4_isFrom, Cond.code yX4_isFrom cX4_isFrom 3 (some .boolean), Cond.methodLink RX4 19 yX1_init, Cond.instanceMethod yX1_init, Cond.code yX1_init cX1_init 4 none, Cond.methodLink RX1 3 objectInit, Cond.fieldLink RX1 9 "ParkWays$Field" "width" "I", Cond.fieldLink RX1 15 "ParkWays$Field" "height" "I", Cond.fieldLink RX1 18 "ParkWays$Field" "turn" "I", Cond.arrayClass .boolean, Cond.fieldLink RX1 21 "ParkWays$Field" "full" "[Z", Cond.arrayClass .int, Cond.fieldLink RX1 25 "ParkWays$Field" "fullWithinKeep" "[I", Cond.methodLink RX4 28 yX0_init, Cond.instanceMethod yX0_init, Cond.code yX0_init cX0_init 2 none, Cond.methodLink RX0 3 objectInit, Cond.fieldLink RX0 9 "ParkWays$Car" "length" "I", Cond.fieldLink RX0 15 "ParkWays$Car" "wide" "I", Cond.fieldLink RX0 18 "ParkWays$Car" "radius" "I", Cond.fieldLink RX0 21 "ParkWays$Car" "field" "LParkWays$Field;", Cond.fieldLink RX0 31 "ParkWays$Car" "known" "[I", Cond.methodLink RX0 25 yX1_placeRoom]
def wsX4_init_r3 : List Cond := [Cond.instanceMethod yX1_placeRoom, Cond.selects RX1 yX1_placeRoom yX1_placeRoom, Cond.code yX1_placeRoom cX1_placeRoom 1 (some .int), Cond.methodLink RX4 37 yX1_placeRoom, Cond.methodLink RX4 41 yX2_init, Cond.instanceMethod yX2_init, Cond.code yX2_init cX2_init 3 none, Cond.methodLink RX2 3 objectInit, Cond.fieldLink RX2 9 "ParkWays$Search" "car" "LParkWays$Car;", Cond.arrayClass .long, Cond.fieldLink RX2 15 "ParkWays$Search" "cost" "[J", Cond.fieldLink RX2 19 "ParkWays$Search" "queue" "[I", Cond.methodLink RX4 50 yX3_init, Cond.instanceMethod yX3_init, Cond.code yX3_init cX3_init 2 none, Cond.methodLink RX3 3 objectInit, Cond.fieldLink RX3 9 "ParkWays$Way" "moves" "[I", Cond.fieldLink RX3 15 "ParkWays$Way" "places" "[I"]
def wsX4_init : List Cond := .code yX4_init cX4_init 4 none :: ((wsX4_init_r1 ++ (wsX4_init_r2 ++ wsX4_init_r3)) ++ wsX40 ++ wsX10 ++ wsX00 ++ wsX20 ++ wsX30)
def wsX4_setCell_r1 : List Cond := [Cond.fieldLink RX4 22 "ParkWays" "field" "LParkWays$Field;", Cond.fieldLink RX4 31 "ParkWays" "car" "LParkWays$Car;", Cond.methodLink RX4 187 yX1_setFull, Cond.instanceMethod yX1_setFull, Cond.selects RX1 yX1_setFull yX1_setFull, Cond.initialized RX1, Cond.code yX1_setFull cX1_setFull 4 (some .boolean), Cond.fieldLink RX1 21 "ParkWays$Field" "full" "[Z", Cond.methodLink RX1 33 yX1_hasCell, Cond.instanceMethod yX1_hasCell, Cond.selects RX1 yX1_hasCell yX1_hasCell, Cond.code yX1_hasCell cX1_hasCell 3 (some .boolean), Cond.fieldLink RX1 9 "ParkWays$Field" "width" "I", Cond.fieldLink RX1 15 "ParkWays$Field" "height" "I", Cond.static yX4_cellAt, Cond.initialized RX4, Cond.code yX4_cellAt cX4_cellAt 2 (some .int), Cond.methodLink RX1 41 yX1_countAround, Cond.instanceMethod yX1_countAround, Cond.selects RX1 yX1_countAround yX1_countAround, Cond.code yX1_countAround cX1_countAround 6 none, Cond.fieldLink RX1 45 "ParkWays$Field" "keep" "I", Cond.fieldLink RX1 25 "ParkWays$Field" "fullWithinKeep" "[I", Cond.methodLink RX4 89 yX0_forget]
def wsX4_setCell_r2 : List Cond := [Cond.instanceMethod yX0_forget, Cond.selects RX0 yX0_forget yX0_forget, Cond.initialized RX0, Cond.code yX0_forget cX0_forget 1 none, Cond.fieldLink RX0 31 "ParkWays$Car" "known" "[I", Cond.methodLink RX0 38 yJ7_fill_53178, Cond.static yJ7_fill_53178, Cond.initialized RJ7, Cond.code yJ7_fill_53178 cJ7_fill_53178 4 none]
def wsX4_setCell : List Cond := .code yX4_setCell cX4_setCell 5 (some .boolean) :: ((wsX4_setCell_r1 ++ wsX4_setCell_r2) ++ wsX40 ++ wsX10 ++ wsX00)
def wsX4_cell_r1 : List Cond := [Cond.fieldLink RX4 22 "ParkWays" "field" "LParkWays$Field;", Cond.classLink RX4 61 RJx00060, Cond.instantiable RJx00060 6, Cond.initialized RJx00060, Cond.fieldLink RX4 53 "ParkWays" "way" "LParkWays$Way;", Cond.methodLink RX4 57 yX1_hasCell, Cond.instanceMethod yX1_hasCell, Cond.selects RX1 yX1_hasCell yX1_hasCell, Cond.initialized RX1, Cond.code yX1_hasCell cX1_hasCell 3 (some .boolean), Cond.fieldLink RX1 9 "ParkWays$Field" "width" "I", Cond.fieldLink RX1 15 "ParkWays$Field" "height" "I", Cond.methodLink RX4 68 yX3_drop, Cond.instanceMethod yX3_drop, Cond.selects RX3 yX3_drop yX3_drop, Cond.initialized RX3, Cond.code yX3_drop cX3_drop 1 none, Cond.fieldLink RX3 18 "ParkWays$Way" "stands" "Z", Cond.fieldLink RX3 22 "ParkWays$Way" "count" "I", Cond.fieldLink RX3 26 "ParkWays$Way" "made" "I", Cond.methodLink RX4 71 yX4_setCell, Cond.instanceMethod yX4_setCell, Cond.selects RX4 yX4_setCell yX4_setCell, Cond.initialized RX4]
def wsX4_cell_r2 : List Cond := [Cond.code yX4_setCell cX4_setCell 5 (some .boolean), Cond.fieldLink RX4 31 "ParkWays" "car" "LParkWays$Car;", Cond.methodLink RX4 187 yX1_setFull, Cond.instanceMethod yX1_setFull, Cond.selects RX1 yX1_setFull yX1_setFull, Cond.code yX1_setFull cX1_setFull 4 (some .boolean), Cond.fieldLink RX1 21 "ParkWays$Field" "full" "[Z", Cond.methodLink RX1 33 yX1_hasCell, Cond.static yX4_cellAt, Cond.code yX4_cellAt cX4_cellAt 2 (some .int), Cond.methodLink RX1 41 yX1_countAround, Cond.instanceMethod yX1_countAround, Cond.selects RX1 yX1_countAround yX1_countAround, Cond.code yX1_countAround cX1_countAround 6 none, Cond.fieldLink RX1 45 "ParkWays$Field" "keep" "I", Cond.fieldLink RX1 25 "ParkWays$Field" "fullWithinKeep" "[I", Cond.methodLink RX4 89 yX0_forget, Cond.instanceMethod yX0_forget, Cond.selects RX0 yX0_forget yX0_forget, Cond.initialized RX0, Cond.code yX0_forget cX0_forget 1 none, Cond.fieldLink RX0 31 "ParkWays$Car" "known" "[I", Cond.methodLink RX0 38 yJ7_fill_53178, Cond.static yJ7_fill_53178]
def wsX4_cell_r3 : List Cond := [Cond.initialized RJ7, Cond.code yJ7_fill_53178 cJ7_fill_53178 4 none]
def wsX4_cell : List Cond := .code yX4_cell cX4_cell 4 (some .int) :: ((wsX4_cell_r1 ++ (wsX4_cell_r2 ++ wsX4_cell_r3)) ++ wsX40 ++ wsJx000600 ++ wsX10 ++ wsX30 ++ wsX00)
def wsX4_car_r1 : List Cond := [Cond.fieldLink RX4 31 "ParkWays" "car" "LParkWays$Car;", Cond.fieldLink RX4 53 "ParkWays" "way" "LParkWays$Way;", Cond.methodLink RX4 75 yX4_isFrom, Cond.static yX4_isFrom, Cond.initialized RX4, Cond.code yX4_isFrom cX4_isFrom 3 (some .boolean), Cond.methodLink RX4 79 yX0_build, Cond.instanceMethod yX0_build, Cond.selects RX0 yX0_build yX0_build, Cond.initialized RX0, Cond.code yX0_build cX0_build 4 none, Cond.fieldLink RX0 9 "ParkWays$Car" "length" "I", Cond.fieldLink RX0 15 "ParkWays$Car" "wide" "I", Cond.fieldLink RX0 18 "ParkWays$Car" "radius" "I", Cond.methodLink RX0 35 yX0_forget, Cond.instanceMethod yX0_forget, Cond.selects RX0 yX0_forget yX0_forget, Cond.code yX0_forget cX0_forget 1 none, Cond.fieldLink RX0 31 "ParkWays$Car" "known" "[I", Cond.methodLink RX0 38 yJ7_fill_53178, Cond.static yJ7_fill_53178, Cond.initialized RJ7, Cond.code yJ7_fill_53178 cJ7_fill_53178 4 none, Cond.methodLink RX4 68 yX3_drop]
def wsX4_car_r2 : List Cond := [Cond.instanceMethod yX3_drop, Cond.selects RX3 yX3_drop yX3_drop, Cond.initialized RX3, Cond.code yX3_drop cX3_drop 1 none, Cond.fieldLink RX3 18 "ParkWays$Way" "stands" "Z", Cond.fieldLink RX3 22 "ParkWays$Way" "count" "I", Cond.fieldLink RX3 26 "ParkWays$Way" "made" "I"]
def wsX4_car : List Cond := .code yX4_car cX4_car 4 (some .int) :: ((wsX4_car_r1 ++ wsX4_car_r2) ++ wsX40 ++ wsX00 ++ wsX30)
def wsX4_keep_r1 : List Cond := [Cond.fieldLink RX4 22 "ParkWays" "field" "LParkWays$Field;", Cond.fieldLink RX4 31 "ParkWays" "car" "LParkWays$Car;", Cond.fieldLink RX4 53 "ParkWays" "way" "LParkWays$Way;", Cond.methodLink RX4 75 yX4_isFrom, Cond.static yX4_isFrom, Cond.initialized RX4, Cond.code yX4_isFrom cX4_isFrom 3 (some .boolean), Cond.methodLink RX4 86 yX1_setKeep, Cond.instanceMethod yX1_setKeep, Cond.selects RX1 yX1_setKeep yX1_setKeep, Cond.initialized RX1, Cond.code yX1_setKeep cX1_setKeep 4 none, Cond.fieldLink RX1 45 "ParkWays$Field" "keep" "I", Cond.fieldLink RX1 25 "ParkWays$Field" "fullWithinKeep" "[I", Cond.fieldLink RX1 15 "ParkWays$Field" "height" "I", Cond.fieldLink RX1 9 "ParkWays$Field" "width" "I", Cond.methodLink RX1 48 yJ7_fill_53178, Cond.static yJ7_fill_53178, Cond.initialized RJ7, Cond.code yJ7_fill_53178 cJ7_fill_53178 4 none, Cond.methodLink RX1 54 yX1_isFull, Cond.instanceMethod yX1_isFull, Cond.selects RX1 yX1_isFull yX1_isFull, Cond.code yX1_isFull cX1_isFull 3 (some .boolean)]
def wsX4_keep_r2 : List Cond := [Cond.fieldLink RX1 21 "ParkWays$Field" "full" "[Z", Cond.methodLink RX1 33 yX1_hasCell, Cond.instanceMethod yX1_hasCell, Cond.selects RX1 yX1_hasCell yX1_hasCell, Cond.code yX1_hasCell cX1_hasCell 3 (some .boolean), Cond.static yX4_cellAt, Cond.code yX4_cellAt cX4_cellAt 2 (some .int), Cond.methodLink RX1 41 yX1_countAround, Cond.instanceMethod yX1_countAround, Cond.selects RX1 yX1_countAround yX1_countAround, Cond.code yX1_countAround cX1_countAround 6 none, Cond.methodLink RX4 89 yX0_forget, Cond.instanceMethod yX0_forget, Cond.selects RX0 yX0_forget yX0_forget, Cond.initialized RX0, Cond.code yX0_forget cX0_forget 1 none, Cond.fieldLink RX0 31 "ParkWays$Car" "known" "[I", Cond.methodLink RX0 38 yJ7_fill_53178, Cond.methodLink RX4 68 yX3_drop, Cond.instanceMethod yX3_drop, Cond.selects RX3 yX3_drop yX3_drop, Cond.initialized RX3, Cond.code yX3_drop cX3_drop 1 none, Cond.fieldLink RX3 18 "ParkWays$Way" "stands" "Z"]
def wsX4_keep_r3 : List Cond := [Cond.fieldLink RX3 22 "ParkWays$Way" "count" "I", Cond.fieldLink RX3 26 "ParkWays$Way" "made" "I"]
def wsX4_keep : List Cond := .code yX4_keep cX4_keep 3 (some .int) :: ((wsX4_keep_r1 ++ (wsX4_keep_r2 ++ wsX4_keep_r3)) ++ wsX40 ++ wsX10 ++ wsX00 ++ wsX30)
def wsX4_stand_r1 : List Cond := [Cond.fieldLink RX4 22 "ParkWays" "field" "LParkWays$Field;", Cond.fieldLink RX4 31 "ParkWays" "car" "LParkWays$Car;", Cond.fieldLink RX4 103 "ParkWays" "place" "I", Cond.fieldLink RX4 106 "ParkWays" "home" "I", Cond.fieldLink RX4 53 "ParkWays" "way" "LParkWays$Way;", Cond.methodLink RX4 57 yX1_hasCell, Cond.instanceMethod yX1_hasCell, Cond.selects RX1 yX1_hasCell yX1_hasCell, Cond.initialized RX1, Cond.code yX1_hasCell cX1_hasCell 3 (some .boolean), Cond.fieldLink RX1 9 "ParkWays$Field" "width" "I", Cond.fieldLink RX1 15 "ParkWays$Field" "height" "I", Cond.methodLink RX4 92 yX1_hasHeading, Cond.instanceMethod yX1_hasHeading, Cond.selects RX1 yX1_hasHeading yX1_hasHeading, Cond.code yX1_hasHeading cX1_hasHeading 2 (some .boolean), Cond.fieldLink RX1 18 "ParkWays$Field" "turn" "I", Cond.static yX4_isFrom, Cond.initialized RX4, Cond.code yX4_isFrom cX4_isFrom 3 (some .boolean), Cond.methodLink RX4 96 yX4_placeAt, Cond.static yX4_placeAt, Cond.code yX4_placeAt cX4_placeAt 3 (some .int), Cond.methodLink RX4 219 yX4_cellAt]
def wsX4_stand_r2 : List Cond := [Cond.static yX4_cellAt, Cond.code yX4_cellAt cX4_cellAt 2 (some .int), Cond.methodLink RX4 100 yX0_isFree, Cond.instanceMethod yX0_isFree, Cond.selects RX0 yX0_isFree yX0_isFree, Cond.initialized RX0, Cond.code yX0_isFree cX0_isFree 2 (some .boolean), Cond.fieldLink RX0 31 "ParkWays$Car" "known" "[I", Cond.methodLink RX0 44 yX0_coversClearCells, Cond.instanceMethod yX0_coversClearCells, Cond.selects RX0 yX0_coversClearCells yX0_coversClearCells, Cond.code yX0_coversClearCells cX0_coversClearCells 4 (some .boolean), Cond.fieldLink RX0 9 "ParkWays$Car" "length" "I", Cond.fieldLink RX0 15 "ParkWays$Car" "wide" "I", Cond.fieldLink RX0 21 "ParkWays$Car" "field" "LParkWays$Field;", Cond.methodLink RX0 48 yX0_coveredX, Cond.static yX0_coveredX, Cond.code yX0_coveredX cX0_coveredX 4 (some .int), Cond.static yX4_headingOf, Cond.code yX4_headingOf cX4_headingOf 1 (some .int), Cond.static yX4_xOf, Cond.code yX4_xOf cX4_xOf 1 (some .int), Cond.static yX4_stepX, Cond.code yX4_stepX cX4_stepX 1 (some .int)]
def wsX4_stand_r3 : List Cond := [Cond.fieldLink RX4 222 "ParkWays" "STEP_X" "[I", Cond.methodLink RX0 52 yX0_coveredY, Cond.static yX0_coveredY, Cond.code yX0_coveredY cX0_coveredY 4 (some .int), Cond.static yX4_yOf, Cond.code yX4_yOf cX4_yOf 1 (some .int), Cond.static yX4_stepY, Cond.code yX4_stepY cX4_stepY 1 (some .int), Cond.fieldLink RX4 226 "ParkWays" "STEP_Y" "[I", Cond.methodLink RX0 55 yX1_isKeptClear, Cond.instanceMethod yX1_isKeptClear, Cond.selects RX1 yX1_isKeptClear yX1_isKeptClear, Cond.code yX1_isKeptClear cX1_isKeptClear 3 (some .boolean), Cond.fieldLink RX1 25 "ParkWays$Field" "fullWithinKeep" "[I", Cond.methodLink RX1 33 yX1_hasCell, Cond.methodLink RX4 68 yX3_drop, Cond.instanceMethod yX3_drop, Cond.selects RX3 yX3_drop yX3_drop, Cond.initialized RX3, Cond.code yX3_drop cX3_drop 1 none, Cond.fieldLink RX3 18 "ParkWays$Way" "stands" "Z", Cond.fieldLink RX3 22 "ParkWays$Way" "count" "I", Cond.fieldLink RX3 26 "ParkWays$Way" "made" "I"]
def wsX4_stand : List Cond := .code yX4_stand cX4_stand 5 (some .int) :: ((wsX4_stand_r1 ++ (wsX4_stand_r2 ++ wsX4_stand_r3)) ++ wsX40 ++ wsX10 ++ wsX00 ++ wsX30)
def wsX4_space_r1 : List Cond := [Cond.fieldLink RX4 22 "ParkWays" "field" "LParkWays$Field;", Cond.fieldLink RX4 122 "ParkWays" "goal" "I", Cond.fieldLink RX4 53 "ParkWays" "way" "LParkWays$Way;", Cond.methodLink RX4 75 yX4_isFrom, Cond.static yX4_isFrom, Cond.initialized RX4, Cond.code yX4_isFrom cX4_isFrom 3 (some .boolean), Cond.methodLink RX4 115 yX1_firstRun, Cond.instanceMethod yX1_firstRun, Cond.selects RX1 yX1_firstRun yX1_firstRun, Cond.initialized RX1, Cond.code yX1_firstRun cX1_firstRun 4 (some .int), Cond.fieldLink RX1 9 "ParkWays$Field" "width" "I", Cond.methodLink RX1 57 yX1_runLength, Cond.instanceMethod yX1_runLength, Cond.selects RX1 yX1_runLength yX1_runLength, Cond.code yX1_runLength cX1_runLength 5 (some .int), Cond.methodLink RX1 54 yX1_isFull, Cond.instanceMethod yX1_isFull, Cond.selects RX1 yX1_isFull yX1_isFull, Cond.code yX1_isFull cX1_isFull 3 (some .boolean), Cond.fieldLink RX1 21 "ParkWays$Field" "full" "[Z", Cond.methodLink RX1 33 yX1_hasCell, Cond.instanceMethod yX1_hasCell]
def wsX4_space_r2 : List Cond := [Cond.selects RX1 yX1_hasCell yX1_hasCell, Cond.code yX1_hasCell cX1_hasCell 3 (some .boolean), Cond.fieldLink RX1 15 "ParkWays$Field" "height" "I", Cond.static yX4_cellAt, Cond.code yX4_cellAt cX4_cellAt 2 (some .int), Cond.methodLink RX4 119 yX1_runLength, Cond.methodLink RX4 96 yX4_placeAt, Cond.static yX4_placeAt, Cond.code yX4_placeAt cX4_placeAt 3 (some .int), Cond.methodLink RX4 219 yX4_cellAt, Cond.methodLink RX4 68 yX3_drop, Cond.instanceMethod yX3_drop, Cond.selects RX3 yX3_drop yX3_drop, Cond.initialized RX3, Cond.code yX3_drop cX3_drop 1 none, Cond.fieldLink RX3 18 "ParkWays$Way" "stands" "Z", Cond.fieldLink RX3 22 "ParkWays$Way" "count" "I", Cond.fieldLink RX3 26 "ParkWays$Way" "made" "I"]
def wsX4_space : List Cond := .code yX4_space cX4_space 5 (some .int) :: ((wsX4_space_r1 ++ wsX4_space_r2) ++ wsX40 ++ wsX10 ++ wsX30)
def wsX4_out : List Cond := .code yX4_out cX4_out 1 (some .int) :: ([.fieldLink RX4 122 "ParkWays" "goal" "I", .fieldLink RX4 106 "ParkWays" "home" "I", .fieldLink RX4 53 "ParkWays" "way" "LParkWays$Way;", .methodLink RX4 68 yX3_drop, .instanceMethod yX3_drop, .selects RX3 yX3_drop yX3_drop, .initialized RX3, .code yX3_drop cX3_drop 1 none, .fieldLink RX3 18 "ParkWays$Way" "stands" "Z", .fieldLink RX3 22 "ParkWays$Way" "count" "I", .fieldLink RX3 26 "ParkWays$Way" "made" "I"] ++ wsX40 ++ wsX30)
def wsX4_plan_r1 : List Cond := [Cond.fieldLink RX4 53 "ParkWays" "way" "LParkWays$Way;", Cond.fieldLink RX4 44 "ParkWays" "search" "LParkWays$Search;", Cond.fieldLink RX4 122 "ParkWays" "goal" "I", Cond.fieldLink RX4 103 "ParkWays" "place" "I", Cond.fieldLink RX4 125 "ParkWays" "steps" "J", Cond.fieldLink RX4 132 "ParkWays" "exact" "Z", Cond.fieldLink RX4 31 "ParkWays" "car" "LParkWays$Car;", Cond.methodLink RX4 68 yX3_drop, Cond.instanceMethod yX3_drop, Cond.selects RX3 yX3_drop yX3_drop, Cond.initialized RX3, Cond.code yX3_drop cX3_drop 1 none, Cond.fieldLink RX3 18 "ParkWays$Way" "stands" "Z", Cond.fieldLink RX3 22 "ParkWays$Way" "count" "I", Cond.fieldLink RX3 26 "ParkWays$Way" "made" "I", Cond.methodLink RX4 197 yX2_spreadFrom, Cond.instanceMethod yX2_spreadFrom, Cond.selects RX2 yX2_spreadFrom yX2_spreadFrom, Cond.initialized RX2, Cond.code yX2_spreadFrom cX2_spreadFrom 8 none, Cond.fieldLink RX2 15 "ParkWays$Search" "cost" "[J", Cond.constantLong RX2 23 (1152921504606846976), Cond.fieldLink RX2 31 "ParkWays$Search" "reached" "I", Cond.fieldLink RX2 9 "ParkWays$Search" "car" "LParkWays$Car;"]
def wsX4_plan_r2 : List Cond := [Cond.fieldLink RX2 19 "ParkWays$Search" "queue" "[I", Cond.methodLink RX2 25 yJ7_fill_d0a16, Cond.static yJ7_fill_d0a16, Cond.initialized RJ7, Cond.code yJ7_fill_d0a16 cJ7_fill_d0a16 5 none, Cond.methodLink RX2 35 yX0_isFree, Cond.instanceMethod yX0_isFree, Cond.selects RX0 yX0_isFree yX0_isFree, Cond.initialized RX0, Cond.code yX0_isFree cX0_isFree 2 (some .boolean), Cond.fieldLink RX0 31 "ParkWays$Car" "known" "[I", Cond.methodLink RX0 44 yX0_coversClearCells, Cond.instanceMethod yX0_coversClearCells, Cond.selects RX0 yX0_coversClearCells yX0_coversClearCells, Cond.code yX0_coversClearCells cX0_coversClearCells 4 (some .boolean), Cond.fieldLink RX0 9 "ParkWays$Car" "length" "I", Cond.fieldLink RX0 15 "ParkWays$Car" "wide" "I", Cond.fieldLink RX0 21 "ParkWays$Car" "field" "LParkWays$Field;", Cond.methodLink RX0 48 yX0_coveredX, Cond.static yX0_coveredX, Cond.code yX0_coveredX cX0_coveredX 4 (some .int), Cond.static yX4_headingOf, Cond.initialized RX4, Cond.code yX4_headingOf cX4_headingOf 1 (some .int)]
def wsX4_plan_r3 : List Cond := [Cond.static yX4_xOf, Cond.code yX4_xOf cX4_xOf 1 (some .int), Cond.static yX4_stepX, Cond.code yX4_stepX cX4_stepX 1 (some .int), Cond.fieldLink RX4 222 "ParkWays" "STEP_X" "[I", Cond.methodLink RX0 52 yX0_coveredY, Cond.static yX0_coveredY, Cond.code yX0_coveredY cX0_coveredY 4 (some .int), Cond.static yX4_yOf, Cond.code yX4_yOf cX4_yOf 1 (some .int), Cond.static yX4_stepY, Cond.code yX4_stepY cX4_stepY 1 (some .int), Cond.fieldLink RX4 226 "ParkWays" "STEP_Y" "[I", Cond.methodLink RX0 55 yX1_isKeptClear, Cond.instanceMethod yX1_isKeptClear, Cond.selects RX1 yX1_isKeptClear yX1_isKeptClear, Cond.initialized RX1, Cond.code yX1_isKeptClear cX1_isKeptClear 3 (some .boolean), Cond.fieldLink RX1 25 "ParkWays$Field" "fullWithinKeep" "[I", Cond.methodLink RX1 33 yX1_hasCell, Cond.instanceMethod yX1_hasCell, Cond.selects RX1 yX1_hasCell yX1_hasCell, Cond.code yX1_hasCell cX1_hasCell 3 (some .boolean), Cond.fieldLink RX1 9 "ParkWays$Field" "width" "I"]
def wsX4_plan_r4 : List Cond := [Cond.fieldLink RX1 15 "ParkWays$Field" "height" "I", Cond.static yX4_cellAt, Cond.code yX4_cellAt cX4_cellAt 2 (some .int), Cond.methodLink RX2 41 yX2_reach, Cond.instanceMethod yX2_reach, Cond.selects RX2 yX2_reach yX2_reach, Cond.code yX2_reach cX2_reach 4 none, Cond.methodLink RX2 45 yX0_landing, Cond.instanceMethod yX0_landing, Cond.selects RX0 yX0_landing yX0_landing, Cond.code yX0_landing cX0_landing 4 (some .int), Cond.fieldLink RX0 18 "ParkWays$Car" "radius" "I", Cond.methodLink RX0 78 yX0_senseOf, Cond.static yX0_senseOf, Cond.code yX0_senseOf cX0_senseOf 1 (some .int), Cond.methodLink RX0 81 yX0_isArc, Cond.static yX0_isArc, Cond.code yX0_isArc cX0_isArc 1 (some .boolean), Cond.methodLink RX0 84 yX0_shifted, Cond.instanceMethod yX0_shifted, Cond.selects RX0 yX0_shifted yX0_shifted, Cond.code yX0_shifted cX0_shifted 6 (some .int), Cond.methodLink RX0 94 yX1_hasCell, Cond.static yX4_placeAt]
def wsX4_plan_r5 : List Cond := [Cond.code yX4_placeAt cX4_placeAt 3 (some .int), Cond.methodLink RX4 219 yX4_cellAt, Cond.methodLink RX0 88 yX0_turned, Cond.instanceMethod yX0_turned, Cond.selects RX0 yX0_turned yX0_turned, Cond.code yX0_turned cX0_turned 4 (some .int), Cond.methodLink RX2 49 yX2_costAt, Cond.instanceMethod yX2_costAt, Cond.selects RX2 yX2_costAt yX2_costAt, Cond.code yX2_costAt cX2_costAt 2 (some .long), Cond.methodLink RX2 53 yX2_costOf, Cond.instanceMethod yX2_costOf, Cond.selects RX2 yX2_costOf yX2_costOf, Cond.code yX2_costOf cX2_costOf 2 (some .long), Cond.constantLong RX2 60 (1099511627776), Cond.constantLong RX2 66 (1048576), Cond.methodLink RX2 62 yX0_lengthOf, Cond.instanceMethod yX0_lengthOf, Cond.selects RX0 yX0_lengthOf yX0_lengthOf, Cond.code yX0_lengthOf cX0_lengthOf 2 (some .int), Cond.methodLink RX2 68 yX0_isArc, Cond.methodLink RX2 56 yX0_mayMake, Cond.instanceMethod yX0_mayMake, Cond.selects RX0 yX0_mayMake yX0_mayMake]
def wsX4_plan_r6 : List Cond := [Cond.code yX0_mayMake cX0_mayMake 7 (some .boolean), Cond.methodLink RX0 91 yX0_isFree, Cond.methodLink RX4 200 yX2_hasReached, Cond.instanceMethod yX2_hasReached, Cond.selects RX2 yX2_hasReached yX2_hasReached, Cond.code yX2_hasReached cX2_hasReached 2 (some .boolean), Cond.methodLink RX4 203 yX2_takenBefore, Cond.instanceMethod yX2_takenBefore, Cond.selects RX2 yX2_takenBefore yX2_takenBefore, Cond.code yX2_takenBefore cX2_takenBefore 8 (some .int), Cond.methodLink RX4 209 yX2_firstMoveFrom, Cond.instanceMethod yX2_firstMoveFrom, Cond.selects RX2 yX2_firstMoveFrom yX2_firstMoveFrom, Cond.code yX2_firstMoveFrom cX2_firstMoveFrom 4 (some .int), Cond.methodLink RX4 212 yX0_landing, Cond.methodLink RX4 215 yX3_add, Cond.instanceMethod yX3_add, Cond.selects RX3 yX3_add yX3_add, Cond.code yX3_add cX3_add 3 none, Cond.fieldLink RX3 9 "ParkWays$Way" "moves" "[I", Cond.fieldLink RX3 15 "ParkWays$Way" "places" "[I"]
def wsX4_plan : List Cond := .code yX4_plan cX4_plan 5 none :: ((wsX4_plan_r1 ++ (wsX4_plan_r2 ++ (wsX4_plan_r3 ++ (wsX4_plan_r4 ++ (wsX4_plan_r5 ++ wsX4_plan_r6))))) ++ wsX40 ++ wsX20 ++ wsX30 ++ wsX00 ++ wsX10)
def wsX4_way_r1 : List Cond := [Cond.fieldLink RX4 125 "ParkWays" "steps" "J", Cond.fieldLink RX4 132 "ParkWays" "exact" "Z", Cond.fieldLink RX4 53 "ParkWays" "way" "LParkWays$Way;", Cond.methodLink RX4 129 yX4_plan, Cond.instanceMethod yX4_plan, Cond.selects RX4 yX4_plan yX4_plan, Cond.initialized RX4, Cond.code yX4_plan cX4_plan 5 none, Cond.fieldLink RX4 44 "ParkWays" "search" "LParkWays$Search;", Cond.fieldLink RX4 122 "ParkWays" "goal" "I", Cond.fieldLink RX4 103 "ParkWays" "place" "I", Cond.fieldLink RX4 31 "ParkWays" "car" "LParkWays$Car;", Cond.methodLink RX4 68 yX3_drop, Cond.instanceMethod yX3_drop, Cond.selects RX3 yX3_drop yX3_drop, Cond.initialized RX3, Cond.code yX3_drop cX3_drop 1 none, Cond.fieldLink RX3 18 "ParkWays$Way" "stands" "Z", Cond.fieldLink RX3 22 "ParkWays$Way" "count" "I", Cond.fieldLink RX3 26 "ParkWays$Way" "made" "I", Cond.methodLink RX4 197 yX2_spreadFrom, Cond.instanceMethod yX2_spreadFrom, Cond.selects RX2 yX2_spreadFrom yX2_spreadFrom, Cond.initialized RX2]
def wsX4_way_r2 : List Cond := [Cond.code yX2_spreadFrom cX2_spreadFrom 8 none, Cond.fieldLink RX2 15 "ParkWays$Search" "cost" "[J", Cond.constantLong RX2 23 (1152921504606846976), Cond.fieldLink RX2 31 "ParkWays$Search" "reached" "I", Cond.fieldLink RX2 9 "ParkWays$Search" "car" "LParkWays$Car;", Cond.fieldLink RX2 19 "ParkWays$Search" "queue" "[I", Cond.methodLink RX2 25 yJ7_fill_d0a16, Cond.static yJ7_fill_d0a16, Cond.initialized RJ7, Cond.code yJ7_fill_d0a16 cJ7_fill_d0a16 5 none, Cond.methodLink RX2 35 yX0_isFree, Cond.instanceMethod yX0_isFree, Cond.selects RX0 yX0_isFree yX0_isFree, Cond.initialized RX0, Cond.code yX0_isFree cX0_isFree 2 (some .boolean), Cond.fieldLink RX0 31 "ParkWays$Car" "known" "[I", Cond.methodLink RX0 44 yX0_coversClearCells, Cond.instanceMethod yX0_coversClearCells, Cond.selects RX0 yX0_coversClearCells yX0_coversClearCells, Cond.code yX0_coversClearCells cX0_coversClearCells 4 (some .boolean), Cond.fieldLink RX0 9 "ParkWays$Car" "length" "I", Cond.fieldLink RX0 15 "ParkWays$Car" "wide" "I", Cond.fieldLink RX0 21 "ParkWays$Car" "field" "LParkWays$Field;", Cond.methodLink RX0 48 yX0_coveredX]
def wsX4_way_r3 : List Cond := [Cond.static yX0_coveredX, Cond.code yX0_coveredX cX0_coveredX 4 (some .int), Cond.static yX4_headingOf, Cond.code yX4_headingOf cX4_headingOf 1 (some .int), Cond.static yX4_xOf, Cond.code yX4_xOf cX4_xOf 1 (some .int), Cond.static yX4_stepX, Cond.code yX4_stepX cX4_stepX 1 (some .int), Cond.fieldLink RX4 222 "ParkWays" "STEP_X" "[I", Cond.methodLink RX0 52 yX0_coveredY, Cond.static yX0_coveredY, Cond.code yX0_coveredY cX0_coveredY 4 (some .int), Cond.static yX4_yOf, Cond.code yX4_yOf cX4_yOf 1 (some .int), Cond.static yX4_stepY, Cond.code yX4_stepY cX4_stepY 1 (some .int), Cond.fieldLink RX4 226 "ParkWays" "STEP_Y" "[I", Cond.methodLink RX0 55 yX1_isKeptClear, Cond.instanceMethod yX1_isKeptClear, Cond.selects RX1 yX1_isKeptClear yX1_isKeptClear, Cond.initialized RX1, Cond.code yX1_isKeptClear cX1_isKeptClear 3 (some .boolean), Cond.fieldLink RX1 25 "ParkWays$Field" "fullWithinKeep" "[I", Cond.methodLink RX1 33 yX1_hasCell]
def wsX4_way_r4 : List Cond := [Cond.instanceMethod yX1_hasCell, Cond.selects RX1 yX1_hasCell yX1_hasCell, Cond.code yX1_hasCell cX1_hasCell 3 (some .boolean), Cond.fieldLink RX1 9 "ParkWays$Field" "width" "I", Cond.fieldLink RX1 15 "ParkWays$Field" "height" "I", Cond.static yX4_cellAt, Cond.code yX4_cellAt cX4_cellAt 2 (some .int), Cond.methodLink RX2 41 yX2_reach, Cond.instanceMethod yX2_reach, Cond.selects RX2 yX2_reach yX2_reach, Cond.code yX2_reach cX2_reach 4 none, Cond.methodLink RX2 45 yX0_landing, Cond.instanceMethod yX0_landing, Cond.selects RX0 yX0_landing yX0_landing, Cond.code yX0_landing cX0_landing 4 (some .int), Cond.fieldLink RX0 18 "ParkWays$Car" "radius" "I", Cond.methodLink RX0 78 yX0_senseOf, Cond.static yX0_senseOf, Cond.code yX0_senseOf cX0_senseOf 1 (some .int), Cond.methodLink RX0 81 yX0_isArc, Cond.static yX0_isArc, Cond.code yX0_isArc cX0_isArc 1 (some .boolean), Cond.methodLink RX0 84 yX0_shifted, Cond.instanceMethod yX0_shifted]
def wsX4_way_r5 : List Cond := [Cond.selects RX0 yX0_shifted yX0_shifted, Cond.code yX0_shifted cX0_shifted 6 (some .int), Cond.methodLink RX0 94 yX1_hasCell, Cond.static yX4_placeAt, Cond.code yX4_placeAt cX4_placeAt 3 (some .int), Cond.methodLink RX4 219 yX4_cellAt, Cond.methodLink RX0 88 yX0_turned, Cond.instanceMethod yX0_turned, Cond.selects RX0 yX0_turned yX0_turned, Cond.code yX0_turned cX0_turned 4 (some .int), Cond.methodLink RX2 49 yX2_costAt, Cond.instanceMethod yX2_costAt, Cond.selects RX2 yX2_costAt yX2_costAt, Cond.code yX2_costAt cX2_costAt 2 (some .long), Cond.methodLink RX2 53 yX2_costOf, Cond.instanceMethod yX2_costOf, Cond.selects RX2 yX2_costOf yX2_costOf, Cond.code yX2_costOf cX2_costOf 2 (some .long), Cond.constantLong RX2 60 (1099511627776), Cond.constantLong RX2 66 (1048576), Cond.methodLink RX2 62 yX0_lengthOf, Cond.instanceMethod yX0_lengthOf, Cond.selects RX0 yX0_lengthOf yX0_lengthOf, Cond.code yX0_lengthOf cX0_lengthOf 2 (some .int)]
def wsX4_way_r6 : List Cond := [Cond.methodLink RX2 68 yX0_isArc, Cond.methodLink RX2 56 yX0_mayMake, Cond.instanceMethod yX0_mayMake, Cond.selects RX0 yX0_mayMake yX0_mayMake, Cond.code yX0_mayMake cX0_mayMake 7 (some .boolean), Cond.methodLink RX0 91 yX0_isFree, Cond.methodLink RX4 200 yX2_hasReached, Cond.instanceMethod yX2_hasReached, Cond.selects RX2 yX2_hasReached yX2_hasReached, Cond.code yX2_hasReached cX2_hasReached 2 (some .boolean), Cond.methodLink RX4 203 yX2_takenBefore, Cond.instanceMethod yX2_takenBefore, Cond.selects RX2 yX2_takenBefore yX2_takenBefore, Cond.code yX2_takenBefore cX2_takenBefore 8 (some .int), Cond.methodLink RX4 209 yX2_firstMoveFrom, Cond.instanceMethod yX2_firstMoveFrom, Cond.selects RX2 yX2_firstMoveFrom yX2_firstMoveFrom, Cond.code yX2_firstMoveFrom cX2_firstMoveFrom 4 (some .int), Cond.methodLink RX4 212 yX0_landing, Cond.methodLink RX4 215 yX3_add, Cond.instanceMethod yX3_add, Cond.selects RX3 yX3_add yX3_add, Cond.code yX3_add cX3_add 3 none, Cond.fieldLink RX3 9 "ParkWays$Way" "moves" "[I"]
def wsX4_way_r7 : List Cond := [Cond.fieldLink RX3 15 "ParkWays$Way" "places" "[I"]
def wsX4_way : List Cond := .code yX4_way cX4_way 3 (some .int) :: ((wsX4_way_r1 ++ (wsX4_way_r2 ++ (wsX4_way_r3 ++ (wsX4_way_r4 ++ (wsX4_way_r5 ++ (wsX4_way_r6 ++ wsX4_way_r7)))))) ++ wsX40 ++ wsX30 ++ wsX20 ++ wsX00 ++ wsX10)
def wsX4_move_r1 : List Cond := [Cond.fieldLink RX4 53 "ParkWays" "way" "LParkWays$Way;", Cond.methodLink RX4 138 yX3_hasMove, Cond.instanceMethod yX3_hasMove, Cond.selects RX3 yX3_hasMove yX3_hasMove, Cond.initialized RX3, Cond.code yX3_hasMove cX3_hasMove 2 (some .boolean), Cond.fieldLink RX3 22 "ParkWays$Way" "count" "I", Cond.methodLink RX4 141 yX3_placeBehind, Cond.instanceMethod yX3_placeBehind, Cond.selects RX3 yX3_placeBehind yX3_placeBehind, Cond.code yX3_placeBehind cX3_placeBehind 2 (some .int), Cond.fieldLink RX3 15 "ParkWays$Way" "places" "[I", Cond.methodLink RX3 29 yX3_hasMove, Cond.methodLink RX4 144 yX3_moveAt, Cond.instanceMethod yX3_moveAt, Cond.selects RX3 yX3_moveAt yX3_moveAt, Cond.code yX3_moveAt cX3_moveAt 2 (some .int), Cond.fieldLink RX3 9 "ParkWays$Way" "moves" "[I", Cond.methodLink RX4 147 yX4_xOf, Cond.static yX4_xOf, Cond.initialized RX4, Cond.code yX4_xOf cX4_xOf 1 (some .int), Cond.methodLink RX4 150 yX4_yOf, Cond.static yX4_yOf]
def wsX4_move_r2 : List Cond := [Cond.code yX4_yOf cX4_yOf 1 (some .int), Cond.methodLink RX4 153 yX4_headingOf, Cond.static yX4_headingOf, Cond.code yX4_headingOf cX4_headingOf 1 (some .int)]
def wsX4_move : List Cond := .code yX4_move cX4_move 4 (some .int) :: ((wsX4_move_r1 ++ wsX4_move_r2) ++ wsX40 ++ wsX30)
def wsX4_exact : List Cond := .code yX4_exact cX4_exact 1 (some .boolean) :: ([.fieldLink RX4 132 "ParkWays" "exact" "Z"] ++ wsX40)
def wsX4_addToError : List Cond := .code yX4_addToError cX4_addToError 3 none :: ([.fieldLink RX4 168 "ParkWays" "error" "D", .constantDouble RX4 190 (4602678819172646912), .constantDouble RX4 192 (13826050856027422720)] ++ wsX40)
def wsX4_follow_r1 : List Cond := [Cond.constantDouble RX4 156 (13830554455654793216), Cond.fieldLink RX4 53 "ParkWays" "way" "LParkWays$Way;", Cond.fieldLink RX4 7 "ParkWays" "held" "Z", Cond.fieldLink RX4 103 "ParkWays" "place" "I", Cond.methodLink RX4 75 yX4_isFrom, Cond.static yX4_isFrom, Cond.initialized RX4, Cond.code yX4_isFrom cX4_isFrom 3 (some .boolean), Cond.methodLink RX4 138 yX3_hasMove, Cond.instanceMethod yX3_hasMove, Cond.selects RX3 yX3_hasMove yX3_hasMove, Cond.initialized RX3, Cond.code yX3_hasMove cX3_hasMove 2 (some .boolean), Cond.fieldLink RX3 22 "ParkWays$Way" "count" "I", Cond.methodLink RX4 141 yX3_placeBehind, Cond.instanceMethod yX3_placeBehind, Cond.selects RX3 yX3_placeBehind yX3_placeBehind, Cond.code yX3_placeBehind cX3_placeBehind 2 (some .int), Cond.fieldLink RX3 15 "ParkWays$Way" "places" "[I", Cond.methodLink RX3 29 yX3_hasMove, Cond.methodLink RX4 164 yX4_addToError, Cond.instanceMethod yX4_addToError, Cond.selects RX4 yX4_addToError yX4_addToError, Cond.code yX4_addToError cX4_addToError 3 none]
def wsX4_follow_r2 : List Cond := [Cond.fieldLink RX4 168 "ParkWays" "error" "D", Cond.constantDouble RX4 190 (4602678819172646912), Cond.constantDouble RX4 192 (13826050856027422720)]
def wsX4_follow : List Cond := .code yX4_follow cX4_follow 6 (some .int) :: ((wsX4_follow_r1 ++ wsX4_follow_r2) ++ wsX40 ++ wsX30)
def wsX4_error : List Cond := .code yX4_error cX4_error 1 (some .double) :: ([.fieldLink RX4 168 "ParkWays" "error" "D"] ++ wsX40)
def wsX4_movesLeftMayBeMade_r1 : List Cond := [Cond.fieldLink RX4 103 "ParkWays" "place" "I", Cond.fieldLink RX4 53 "ParkWays" "way" "LParkWays$Way;", Cond.fieldLink RX4 31 "ParkWays" "car" "LParkWays$Car;", Cond.methodLink RX4 144 yX3_moveAt, Cond.instanceMethod yX3_moveAt, Cond.selects RX3 yX3_moveAt yX3_moveAt, Cond.initialized RX3, Cond.code yX3_moveAt cX3_moveAt 2 (some .int), Cond.fieldLink RX3 9 "ParkWays$Way" "moves" "[I", Cond.methodLink RX3 29 yX3_hasMove, Cond.instanceMethod yX3_hasMove, Cond.selects RX3 yX3_hasMove yX3_hasMove, Cond.code yX3_hasMove cX3_hasMove 2 (some .boolean), Cond.fieldLink RX3 22 "ParkWays$Way" "count" "I", Cond.methodLink RX4 194 yX0_mayMake, Cond.instanceMethod yX0_mayMake, Cond.selects RX0 yX0_mayMake yX0_mayMake, Cond.initialized RX0, Cond.code yX0_mayMake cX0_mayMake 7 (some .boolean), Cond.fieldLink RX0 18 "ParkWays$Car" "radius" "I", Cond.methodLink RX0 78 yX0_senseOf, Cond.static yX0_senseOf, Cond.code yX0_senseOf cX0_senseOf 1 (some .int), Cond.methodLink RX0 81 yX0_isArc]
def wsX4_movesLeftMayBeMade_r2 : List Cond := [Cond.static yX0_isArc, Cond.code yX0_isArc cX0_isArc 1 (some .boolean), Cond.methodLink RX0 84 yX0_shifted, Cond.instanceMethod yX0_shifted, Cond.selects RX0 yX0_shifted yX0_shifted, Cond.code yX0_shifted cX0_shifted 6 (some .int), Cond.fieldLink RX0 21 "ParkWays$Car" "field" "LParkWays$Field;", Cond.static yX4_headingOf, Cond.initialized RX4, Cond.code yX4_headingOf cX4_headingOf 1 (some .int), Cond.static yX4_xOf, Cond.code yX4_xOf cX4_xOf 1 (some .int), Cond.static yX4_stepX, Cond.code yX4_stepX cX4_stepX 1 (some .int), Cond.fieldLink RX4 222 "ParkWays" "STEP_X" "[I", Cond.static yX4_yOf, Cond.code yX4_yOf cX4_yOf 1 (some .int), Cond.static yX4_stepY, Cond.code yX4_stepY cX4_stepY 1 (some .int), Cond.fieldLink RX4 226 "ParkWays" "STEP_Y" "[I", Cond.methodLink RX0 94 yX1_hasCell, Cond.instanceMethod yX1_hasCell, Cond.selects RX1 yX1_hasCell yX1_hasCell, Cond.initialized RX1]
def wsX4_movesLeftMayBeMade_r3 : List Cond := [Cond.code yX1_hasCell cX1_hasCell 3 (some .boolean), Cond.fieldLink RX1 9 "ParkWays$Field" "width" "I", Cond.fieldLink RX1 15 "ParkWays$Field" "height" "I", Cond.static yX4_placeAt, Cond.code yX4_placeAt cX4_placeAt 3 (some .int), Cond.methodLink RX4 219 yX4_cellAt, Cond.static yX4_cellAt, Cond.code yX4_cellAt cX4_cellAt 2 (some .int), Cond.methodLink RX0 88 yX0_turned, Cond.instanceMethod yX0_turned, Cond.selects RX0 yX0_turned yX0_turned, Cond.code yX0_turned cX0_turned 4 (some .int), Cond.methodLink RX0 91 yX0_isFree, Cond.instanceMethod yX0_isFree, Cond.selects RX0 yX0_isFree yX0_isFree, Cond.code yX0_isFree cX0_isFree 2 (some .boolean), Cond.fieldLink RX0 31 "ParkWays$Car" "known" "[I", Cond.methodLink RX0 44 yX0_coversClearCells, Cond.instanceMethod yX0_coversClearCells, Cond.selects RX0 yX0_coversClearCells yX0_coversClearCells, Cond.code yX0_coversClearCells cX0_coversClearCells 4 (some .boolean), Cond.fieldLink RX0 9 "ParkWays$Car" "length" "I", Cond.fieldLink RX0 15 "ParkWays$Car" "wide" "I", Cond.methodLink RX0 48 yX0_coveredX]
def wsX4_movesLeftMayBeMade_r4 : List Cond := [Cond.static yX0_coveredX, Cond.code yX0_coveredX cX0_coveredX 4 (some .int), Cond.methodLink RX0 52 yX0_coveredY, Cond.static yX0_coveredY, Cond.code yX0_coveredY cX0_coveredY 4 (some .int), Cond.methodLink RX0 55 yX1_isKeptClear, Cond.instanceMethod yX1_isKeptClear, Cond.selects RX1 yX1_isKeptClear yX1_isKeptClear, Cond.code yX1_isKeptClear cX1_isKeptClear 3 (some .boolean), Cond.fieldLink RX1 25 "ParkWays$Field" "fullWithinKeep" "[I", Cond.methodLink RX1 33 yX1_hasCell, Cond.methodLink RX4 141 yX3_placeBehind, Cond.instanceMethod yX3_placeBehind, Cond.selects RX3 yX3_placeBehind yX3_placeBehind, Cond.code yX3_placeBehind cX3_placeBehind 2 (some .int), Cond.fieldLink RX3 15 "ParkWays$Way" "places" "[I"]
def wsX4_movesLeftMayBeMade : List Cond := .code yX4_movesLeftMayBeMade cX4_movesLeftMayBeMade 3 (some .boolean) :: ((wsX4_movesLeftMayBeMade_r1 ++ (wsX4_movesLeftMayBeMade_r2 ++ (wsX4_movesLeftMayBeMade_r3 ++ wsX4_movesLeftMayBeMade_r4))) ++ wsX40 ++ wsX30 ++ wsX00 ++ wsX10)
def wsX4_change_r1 : List Cond := [Cond.fieldLink RX4 22 "ParkWays" "field" "LParkWays$Field;", Cond.classLink RX4 61 RJx00060, Cond.instantiable RJx00060 6, Cond.initialized RJx00060, Cond.fieldLink RX4 53 "ParkWays" "way" "LParkWays$Way;", Cond.methodLink RX4 57 yX1_hasCell, Cond.instanceMethod yX1_hasCell, Cond.selects RX1 yX1_hasCell yX1_hasCell, Cond.initialized RX1, Cond.code yX1_hasCell cX1_hasCell 3 (some .boolean), Cond.fieldLink RX1 9 "ParkWays$Field" "width" "I", Cond.fieldLink RX1 15 "ParkWays$Field" "height" "I", Cond.methodLink RX4 71 yX4_setCell, Cond.instanceMethod yX4_setCell, Cond.selects RX4 yX4_setCell yX4_setCell, Cond.initialized RX4, Cond.code yX4_setCell cX4_setCell 5 (some .boolean), Cond.fieldLink RX4 31 "ParkWays" "car" "LParkWays$Car;", Cond.methodLink RX4 187 yX1_setFull, Cond.instanceMethod yX1_setFull, Cond.selects RX1 yX1_setFull yX1_setFull, Cond.code yX1_setFull cX1_setFull 4 (some .boolean), Cond.fieldLink RX1 21 "ParkWays$Field" "full" "[Z", Cond.methodLink RX1 33 yX1_hasCell]
def wsX4_change_r2 : List Cond := [Cond.static yX4_cellAt, Cond.code yX4_cellAt cX4_cellAt 2 (some .int), Cond.methodLink RX1 41 yX1_countAround, Cond.instanceMethod yX1_countAround, Cond.selects RX1 yX1_countAround yX1_countAround, Cond.code yX1_countAround cX1_countAround 6 none, Cond.fieldLink RX1 45 "ParkWays$Field" "keep" "I", Cond.fieldLink RX1 25 "ParkWays$Field" "fullWithinKeep" "[I", Cond.methodLink RX4 89 yX0_forget, Cond.instanceMethod yX0_forget, Cond.selects RX0 yX0_forget yX0_forget, Cond.initialized RX0, Cond.code yX0_forget cX0_forget 1 none, Cond.fieldLink RX0 31 "ParkWays$Car" "known" "[I", Cond.methodLink RX0 38 yJ7_fill_53178, Cond.static yJ7_fill_53178, Cond.initialized RJ7, Cond.code yJ7_fill_53178 cJ7_fill_53178 4 none, Cond.methodLink RX4 172 yX4_movesLeftMayBeMade, Cond.instanceMethod yX4_movesLeftMayBeMade, Cond.selects RX4 yX4_movesLeftMayBeMade yX4_movesLeftMayBeMade, Cond.code yX4_movesLeftMayBeMade cX4_movesLeftMayBeMade 3 (some .boolean), Cond.fieldLink RX4 103 "ParkWays" "place" "I", Cond.methodLink RX4 144 yX3_moveAt]
def wsX4_change_r3 : List Cond := [Cond.instanceMethod yX3_moveAt, Cond.selects RX3 yX3_moveAt yX3_moveAt, Cond.initialized RX3, Cond.code yX3_moveAt cX3_moveAt 2 (some .int), Cond.fieldLink RX3 9 "ParkWays$Way" "moves" "[I", Cond.methodLink RX3 29 yX3_hasMove, Cond.instanceMethod yX3_hasMove, Cond.selects RX3 yX3_hasMove yX3_hasMove, Cond.code yX3_hasMove cX3_hasMove 2 (some .boolean), Cond.fieldLink RX3 22 "ParkWays$Way" "count" "I", Cond.methodLink RX4 194 yX0_mayMake, Cond.instanceMethod yX0_mayMake, Cond.selects RX0 yX0_mayMake yX0_mayMake, Cond.code yX0_mayMake cX0_mayMake 7 (some .boolean), Cond.fieldLink RX0 18 "ParkWays$Car" "radius" "I", Cond.methodLink RX0 78 yX0_senseOf, Cond.static yX0_senseOf, Cond.code yX0_senseOf cX0_senseOf 1 (some .int), Cond.methodLink RX0 81 yX0_isArc, Cond.static yX0_isArc, Cond.code yX0_isArc cX0_isArc 1 (some .boolean), Cond.methodLink RX0 84 yX0_shifted, Cond.instanceMethod yX0_shifted, Cond.selects RX0 yX0_shifted yX0_shifted]
def wsX4_change_r4 : List Cond := [Cond.code yX0_shifted cX0_shifted 6 (some .int), Cond.fieldLink RX0 21 "ParkWays$Car" "field" "LParkWays$Field;", Cond.static yX4_headingOf, Cond.code yX4_headingOf cX4_headingOf 1 (some .int), Cond.static yX4_xOf, Cond.code yX4_xOf cX4_xOf 1 (some .int), Cond.static yX4_stepX, Cond.code yX4_stepX cX4_stepX 1 (some .int), Cond.fieldLink RX4 222 "ParkWays" "STEP_X" "[I", Cond.static yX4_yOf, Cond.code yX4_yOf cX4_yOf 1 (some .int), Cond.static yX4_stepY, Cond.code yX4_stepY cX4_stepY 1 (some .int), Cond.fieldLink RX4 226 "ParkWays" "STEP_Y" "[I", Cond.methodLink RX0 94 yX1_hasCell, Cond.static yX4_placeAt, Cond.code yX4_placeAt cX4_placeAt 3 (some .int), Cond.methodLink RX4 219 yX4_cellAt, Cond.methodLink RX0 88 yX0_turned, Cond.instanceMethod yX0_turned, Cond.selects RX0 yX0_turned yX0_turned, Cond.code yX0_turned cX0_turned 4 (some .int), Cond.methodLink RX0 91 yX0_isFree, Cond.instanceMethod yX0_isFree]
def wsX4_change_r5 : List Cond := [Cond.selects RX0 yX0_isFree yX0_isFree, Cond.code yX0_isFree cX0_isFree 2 (some .boolean), Cond.methodLink RX0 44 yX0_coversClearCells, Cond.instanceMethod yX0_coversClearCells, Cond.selects RX0 yX0_coversClearCells yX0_coversClearCells, Cond.code yX0_coversClearCells cX0_coversClearCells 4 (some .boolean), Cond.fieldLink RX0 9 "ParkWays$Car" "length" "I", Cond.fieldLink RX0 15 "ParkWays$Car" "wide" "I", Cond.methodLink RX0 48 yX0_coveredX, Cond.static yX0_coveredX, Cond.code yX0_coveredX cX0_coveredX 4 (some .int), Cond.methodLink RX0 52 yX0_coveredY, Cond.static yX0_coveredY, Cond.code yX0_coveredY cX0_coveredY 4 (some .int), Cond.methodLink RX0 55 yX1_isKeptClear, Cond.instanceMethod yX1_isKeptClear, Cond.selects RX1 yX1_isKeptClear yX1_isKeptClear, Cond.code yX1_isKeptClear cX1_isKeptClear 3 (some .boolean), Cond.methodLink RX4 141 yX3_placeBehind, Cond.instanceMethod yX3_placeBehind, Cond.selects RX3 yX3_placeBehind yX3_placeBehind, Cond.code yX3_placeBehind cX3_placeBehind 2 (some .int), Cond.fieldLink RX3 15 "ParkWays$Way" "places" "[I", Cond.methodLink RX4 129 yX4_plan]
def wsX4_change_r6 : List Cond := [Cond.instanceMethod yX4_plan, Cond.selects RX4 yX4_plan yX4_plan, Cond.code yX4_plan cX4_plan 5 none, Cond.fieldLink RX4 44 "ParkWays" "search" "LParkWays$Search;", Cond.fieldLink RX4 122 "ParkWays" "goal" "I", Cond.fieldLink RX4 125 "ParkWays" "steps" "J", Cond.fieldLink RX4 132 "ParkWays" "exact" "Z", Cond.methodLink RX4 68 yX3_drop, Cond.instanceMethod yX3_drop, Cond.selects RX3 yX3_drop yX3_drop, Cond.code yX3_drop cX3_drop 1 none, Cond.fieldLink RX3 18 "ParkWays$Way" "stands" "Z", Cond.fieldLink RX3 26 "ParkWays$Way" "made" "I", Cond.methodLink RX4 197 yX2_spreadFrom, Cond.instanceMethod yX2_spreadFrom, Cond.selects RX2 yX2_spreadFrom yX2_spreadFrom, Cond.initialized RX2, Cond.code yX2_spreadFrom cX2_spreadFrom 8 none, Cond.fieldLink RX2 15 "ParkWays$Search" "cost" "[J", Cond.constantLong RX2 23 (1152921504606846976), Cond.fieldLink RX2 31 "ParkWays$Search" "reached" "I", Cond.fieldLink RX2 9 "ParkWays$Search" "car" "LParkWays$Car;", Cond.fieldLink RX2 19 "ParkWays$Search" "queue" "[I", Cond.methodLink RX2 25 yJ7_fill_d0a16]
def wsX4_change_r7 : List Cond := [Cond.static yJ7_fill_d0a16, Cond.code yJ7_fill_d0a16 cJ7_fill_d0a16 5 none, Cond.methodLink RX2 35 yX0_isFree, Cond.methodLink RX2 41 yX2_reach, Cond.instanceMethod yX2_reach, Cond.selects RX2 yX2_reach yX2_reach, Cond.code yX2_reach cX2_reach 4 none, Cond.methodLink RX2 45 yX0_landing, Cond.instanceMethod yX0_landing, Cond.selects RX0 yX0_landing yX0_landing, Cond.code yX0_landing cX0_landing 4 (some .int), Cond.methodLink RX2 49 yX2_costAt, Cond.instanceMethod yX2_costAt, Cond.selects RX2 yX2_costAt yX2_costAt, Cond.code yX2_costAt cX2_costAt 2 (some .long), Cond.methodLink RX2 53 yX2_costOf, Cond.instanceMethod yX2_costOf, Cond.selects RX2 yX2_costOf yX2_costOf, Cond.code yX2_costOf cX2_costOf 2 (some .long), Cond.constantLong RX2 60 (1099511627776), Cond.constantLong RX2 66 (1048576), Cond.methodLink RX2 62 yX0_lengthOf, Cond.instanceMethod yX0_lengthOf, Cond.selects RX0 yX0_lengthOf yX0_lengthOf]
def wsX4_change_r8 : List Cond := [Cond.code yX0_lengthOf cX0_lengthOf 2 (some .int), Cond.methodLink RX2 68 yX0_isArc, Cond.methodLink RX2 56 yX0_mayMake, Cond.methodLink RX4 200 yX2_hasReached, Cond.instanceMethod yX2_hasReached, Cond.selects RX2 yX2_hasReached yX2_hasReached, Cond.code yX2_hasReached cX2_hasReached 2 (some .boolean), Cond.methodLink RX4 203 yX2_takenBefore, Cond.instanceMethod yX2_takenBefore, Cond.selects RX2 yX2_takenBefore yX2_takenBefore, Cond.code yX2_takenBefore cX2_takenBefore 8 (some .int), Cond.methodLink RX4 209 yX2_firstMoveFrom, Cond.instanceMethod yX2_firstMoveFrom, Cond.selects RX2 yX2_firstMoveFrom yX2_firstMoveFrom, Cond.code yX2_firstMoveFrom cX2_firstMoveFrom 4 (some .int), Cond.methodLink RX4 212 yX0_landing, Cond.methodLink RX4 215 yX3_add, Cond.instanceMethod yX3_add, Cond.selects RX3 yX3_add yX3_add, Cond.code yX3_add cX3_add 3 none]
def wsX4_change : List Cond := .code yX4_change cX4_change 4 (some .int) :: ((wsX4_change_r1 ++ (wsX4_change_r2 ++ (wsX4_change_r3 ++ (wsX4_change_r4 ++ (wsX4_change_r5 ++ (wsX4_change_r6 ++ (wsX4_change_r7 ++ wsX4_change_r8))))))) ++ wsX40 ++ wsJx000600 ++ wsX30 ++ wsX10 ++ wsX00 ++ wsX20)
def wsX4_release : List Cond := .code yX4_release cX4_release 3 (some .int) :: ([.fieldLink RX4 7 "ParkWays" "held" "Z"] ++ wsX40)
def wsX4_margin_r1 : List Cond := [Cond.fieldLink RX4 53 "ParkWays" "way" "LParkWays$Way;", Cond.fieldLink RX4 31 "ParkWays" "car" "LParkWays$Car;", Cond.methodLink RX4 138 yX3_hasMove, Cond.instanceMethod yX3_hasMove, Cond.selects RX3 yX3_hasMove yX3_hasMove, Cond.initialized RX3, Cond.code yX3_hasMove cX3_hasMove 2 (some .boolean), Cond.fieldLink RX3 22 "ParkWays$Way" "count" "I", Cond.methodLink RX4 141 yX3_placeBehind, Cond.instanceMethod yX3_placeBehind, Cond.selects RX3 yX3_placeBehind yX3_placeBehind, Cond.code yX3_placeBehind cX3_placeBehind 2 (some .int), Cond.fieldLink RX3 15 "ParkWays$Way" "places" "[I", Cond.methodLink RX3 29 yX3_hasMove, Cond.methodLink RX4 176 yX0_marginAt, Cond.instanceMethod yX0_marginAt, Cond.selects RX0 yX0_marginAt yX0_marginAt, Cond.initialized RX0, Cond.code yX0_marginAt cX0_marginAt 5 (some .int), Cond.fieldLink RX0 9 "ParkWays$Car" "length" "I", Cond.fieldLink RX0 15 "ParkWays$Car" "wide" "I", Cond.fieldLink RX0 21 "ParkWays$Car" "field" "LParkWays$Field;", Cond.methodLink RX0 48 yX0_coveredX, Cond.static yX0_coveredX]
def wsX4_margin_r2 : List Cond := [Cond.code yX0_coveredX cX0_coveredX 4 (some .int), Cond.static yX4_headingOf, Cond.initialized RX4, Cond.code yX4_headingOf cX4_headingOf 1 (some .int), Cond.static yX4_xOf, Cond.code yX4_xOf cX4_xOf 1 (some .int), Cond.static yX4_stepX, Cond.code yX4_stepX cX4_stepX 1 (some .int), Cond.fieldLink RX4 222 "ParkWays" "STEP_X" "[I", Cond.methodLink RX0 52 yX0_coveredY, Cond.static yX0_coveredY, Cond.code yX0_coveredY cX0_coveredY 4 (some .int), Cond.static yX4_yOf, Cond.code yX4_yOf cX4_yOf 1 (some .int), Cond.static yX4_stepY, Cond.code yX4_stepY cX4_stepY 1 (some .int), Cond.fieldLink RX4 226 "ParkWays" "STEP_Y" "[I", Cond.methodLink RX0 59 yX1_distanceToFull, Cond.instanceMethod yX1_distanceToFull, Cond.selects RX1 yX1_distanceToFull yX1_distanceToFull, Cond.initialized RX1, Cond.code yX1_distanceToFull cX1_distanceToFull 7 (some .int), Cond.methodLink RX1 60 Lib.Math.abs.name, Cond.static Lib.Math.abs.name]
def wsX4_margin_r3 : List Cond := [Cond.initialized "java/lang/Math", Cond.code Lib.Math.abs.name Lib.Math.abs.code 1 (some .int), Cond.methodLink RX1 66 Lib.Math.max.name, Cond.static Lib.Math.max.name, Cond.code Lib.Math.max.name Lib.Math.max.code 2 (some .int), Cond.methodLink RX1 69 Lib.Math.min.name, Cond.static Lib.Math.min.name, Cond.code Lib.Math.min.name Lib.Math.min.code 2 (some .int), Cond.methodLink RX1 54 yX1_isFull, Cond.instanceMethod yX1_isFull, Cond.selects RX1 yX1_isFull yX1_isFull, Cond.code yX1_isFull cX1_isFull 3 (some .boolean), Cond.fieldLink RX1 21 "ParkWays$Field" "full" "[Z", Cond.methodLink RX1 33 yX1_hasCell, Cond.instanceMethod yX1_hasCell, Cond.selects RX1 yX1_hasCell yX1_hasCell, Cond.code yX1_hasCell cX1_hasCell 3 (some .boolean), Cond.fieldLink RX1 9 "ParkWays$Field" "width" "I", Cond.fieldLink RX1 15 "ParkWays$Field" "height" "I", Cond.static yX4_cellAt, Cond.code yX4_cellAt cX4_cellAt 2 (some .int)]
def wsX4_margin : List Cond := .code yX4_margin cX4_margin 2 (some .int) :: ((wsX4_margin_r1 ++ (wsX4_margin_r2 ++ wsX4_margin_r3)) ++ wsX40 ++ wsX30 ++ wsX00 ++ wsX10)
def wsX4_heading : List Cond := .code yX4_heading cX4_heading 2 (some .int) :: ([.classLink RX4 61 RJx00060, .instantiable RJx00060 6, .initialized RJx00060, .methodLink RX4 75 yX4_isFrom, .static yX4_isFrom, .initialized RX4, .code yX4_isFrom cX4_isFrom 3 (some .boolean), .methodLink RX4 181 yX4_stepX, .static yX4_stepX, .code yX4_stepX cX4_stepX 1 (some .int), .fieldLink RX4 222 "ParkWays" "STEP_X" "[I", .methodLink RX4 184 yX4_stepY, .static yX4_stepY, .code yX4_stepY cX4_stepY 1 (some .int), .fieldLink RX4 226 "ParkWays" "STEP_Y" "[I"] ++ wsJx000600)
def wsX5_init : List Cond := .code yX5_init cX5_init 4 none :: ([.methodLink RX5 1 objectInit, .instanceMethod objectInit, .code objectInit ⟨#[0xb1]⟩ 1 none, .arrayClass .boolean, .fieldLink RX5 7 "ParkWaysModel" "full" "[Z", .fieldLink RX5 13 "ParkWaysModel" "length" "I", .fieldLink RX5 17 "ParkWaysModel" "wide" "I", .fieldLink RX5 20 "ParkWaysModel" "radius" "I", .fieldLink RX5 23 "ParkWaysModel" "held" "Z", .arrayClass .int, .fieldLink RX5 27 "ParkWaysModel" "number" "[I", .fieldLink RX5 31 "ParkWaysModel" "behind" "[I", .fieldLink RX5 34 "ParkWaysModel" "far" "[I", .fieldLink RX5 37 "ParkWaysModel" "cost" "[I", .fieldLink RX5 40 "ParkWaysModel" "free" "[Z", .fieldLink RX5 43 "ParkWaysModel" "row" "[I", .fieldLink RX5 46 "ParkWaysModel" "near" "[I", .fieldLink RX5 49 "ParkWaysModel" "width" "I", .fieldLink RX5 52 "ParkWaysModel" "height" "I", .fieldLink RX5 55 "ParkWaysModel" "four" "Z"] ++ wsX50)
def wsX5_thrown : List Cond := .code yX5_thrown cX5_thrown 1 (some .int) :: ([.fieldLink RX5 58 "ParkWaysModel" "code" "I"] ++ wsX50)
def wsX5_isCell : List Cond := .code yX5_isCell cX5_isCell 3 (some .boolean) :: ([.fieldLink RX5 49 "ParkWaysModel" "width" "I", .fieldLink RX5 52 "ParkWaysModel" "height" "I"] ++ wsX50)
def wsX5_dx : List Cond := .code yX5_dx cX5_dx 1 (some .int) :: ([])
def wsX5_dy : List Cond := .code yX5_dy cX5_dy 1 (some .int) :: ([])
def wsX5_place : List Cond := .code yX5_place cX5_place 3 (some .int) :: ([])
def wsX5_xOf : List Cond := .code yX5_xOf cX5_xOf 1 (some .int) :: ([])
def wsX5_yOf : List Cond := .code yX5_yOf cX5_yOf 1 (some .int) :: ([])
def wsX5_distance : List Cond := .code yX5_distance cX5_distance 9 (some .int) :: ([.fieldLink RX5 7 "ParkWaysModel" "full" "[Z", .methodLink RX5 61 yX5_isCell, .instanceMethod yX5_isCell, .selects RX5 yX5_isCell yX5_isCell, .initialized RX5, .code yX5_isCell cX5_isCell 3 (some .boolean), .fieldLink RX5 49 "ParkWaysModel" "width" "I", .fieldLink RX5 52 "ParkWaysModel" "height" "I"] ++ wsX50)
def wsX5_findNear : List Cond := .code yX5_findNear cX5_findNear 3 none :: ([.fieldLink RX5 52 "ParkWaysModel" "height" "I", .fieldLink RX5 49 "ParkWaysModel" "width" "I", .fieldLink RX5 46 "ParkWaysModel" "near" "[I", .methodLink RX5 65 yX5_distance, .instanceMethod yX5_distance, .selects RX5 yX5_distance yX5_distance, .initialized RX5, .code yX5_distance cX5_distance 9 (some .int), .fieldLink RX5 7 "ParkWaysModel" "full" "[Z", .methodLink RX5 61 yX5_isCell, .instanceMethod yX5_isCell, .selects RX5 yX5_isCell yX5_isCell, .code yX5_isCell cX5_isCell 3 (some .boolean)] ++ wsX50)
def wsX5_clear : List Cond := .code yX5_clear cX5_clear 11 (some .int) :: ([.fieldLink RX5 13 "ParkWaysModel" "length" "I", .fieldLink RX5 17 "ParkWaysModel" "wide" "I", .fieldLink RX5 46 "ParkWaysModel" "near" "[I", .methodLink RX5 69 yX5_dx, .static yX5_dx, .initialized RX5, .code yX5_dx cX5_dx 1 (some .int), .methodLink RX5 73 yX5_dy, .static yX5_dy, .code yX5_dy cX5_dy 1 (some .int), .methodLink RX5 61 yX5_isCell, .instanceMethod yX5_isCell, .selects RX5 yX5_isCell yX5_isCell, .code yX5_isCell cX5_isCell 3 (some .boolean), .fieldLink RX5 49 "ParkWaysModel" "width" "I", .fieldLink RX5 52 "ParkWaysModel" "height" "I"] ++ wsX50)
def wsX5_isFree : List Cond := .code yX5_isFree cX5_isFree 4 (some .boolean) :: ([.fieldLink RX5 80 "ParkWaysModel" "keep" "I", .methodLink RX5 61 yX5_isCell, .instanceMethod yX5_isCell, .selects RX5 yX5_isCell yX5_isCell, .initialized RX5, .code yX5_isCell cX5_isCell 3 (some .boolean), .fieldLink RX5 49 "ParkWaysModel" "width" "I", .fieldLink RX5 52 "ParkWaysModel" "height" "I", .methodLink RX5 76 yX5_clear, .instanceMethod yX5_clear, .selects RX5 yX5_clear yX5_clear, .code yX5_clear cX5_clear 11 (some .int), .fieldLink RX5 13 "ParkWaysModel" "length" "I", .fieldLink RX5 17 "ParkWaysModel" "wide" "I", .fieldLink RX5 46 "ParkWaysModel" "near" "[I", .methodLink RX5 69 yX5_dx, .static yX5_dx, .code yX5_dx cX5_dx 1 (some .int), .methodLink RX5 73 yX5_dy, .static yX5_dy, .code yX5_dy cX5_dy 1 (some .int)] ++ wsX50)
def wsX5_isHeading : List Cond := .code yX5_isHeading cX5_isHeading 2 (some .boolean) :: ([.fieldLink RX5 55 "ParkWaysModel" "four" "Z"] ++ wsX50)
def wsX5_moved_r1 : List Cond := [Cond.fieldLink RX5 40 "ParkWaysModel" "free" "[Z", Cond.fieldLink RX5 20 "ParkWaysModel" "radius" "I", Cond.fieldLink RX5 55 "ParkWaysModel" "four" "Z", Cond.methodLink RX5 83 yX5_xOf, Cond.static yX5_xOf, Cond.initialized RX5, Cond.code yX5_xOf cX5_xOf 1 (some .int), Cond.methodLink RX5 86 yX5_yOf, Cond.static yX5_yOf, Cond.code yX5_yOf cX5_yOf 1 (some .int), Cond.methodLink RX5 69 yX5_dx, Cond.static yX5_dx, Cond.code yX5_dx cX5_dx 1 (some .int), Cond.methodLink RX5 73 yX5_dy, Cond.static yX5_dy, Cond.code yX5_dy cX5_dy 1 (some .int), Cond.methodLink RX5 61 yX5_isCell, Cond.instanceMethod yX5_isCell, Cond.selects RX5 yX5_isCell yX5_isCell, Cond.code yX5_isCell cX5_isCell 3 (some .boolean), Cond.fieldLink RX5 49 "ParkWaysModel" "width" "I", Cond.fieldLink RX5 52 "ParkWaysModel" "height" "I", Cond.methodLink RX5 89 yX5_place, Cond.static yX5_place]
def wsX5_moved_r2 : List Cond := [Cond.code yX5_place cX5_place 3 (some .int)]
def wsX5_moved : List Cond := .code yX5_moved cX5_moved 10 (some .int) :: ((wsX5_moved_r1 ++ wsX5_moved_r2) ++ wsX50)
def wsX5_findFree_r1 : List Cond := [Cond.fieldLink RX5 52 "ParkWaysModel" "height" "I", Cond.fieldLink RX5 49 "ParkWaysModel" "width" "I", Cond.fieldLink RX5 40 "ParkWaysModel" "free" "[Z", Cond.methodLink RX5 92 yX5_findNear, Cond.instanceMethod yX5_findNear, Cond.selects RX5 yX5_findNear yX5_findNear, Cond.initialized RX5, Cond.code yX5_findNear cX5_findNear 3 none, Cond.fieldLink RX5 46 "ParkWaysModel" "near" "[I", Cond.methodLink RX5 65 yX5_distance, Cond.instanceMethod yX5_distance, Cond.selects RX5 yX5_distance yX5_distance, Cond.code yX5_distance cX5_distance 9 (some .int), Cond.fieldLink RX5 7 "ParkWaysModel" "full" "[Z", Cond.methodLink RX5 61 yX5_isCell, Cond.instanceMethod yX5_isCell, Cond.selects RX5 yX5_isCell yX5_isCell, Cond.code yX5_isCell cX5_isCell 3 (some .boolean), Cond.methodLink RX5 89 yX5_place, Cond.static yX5_place, Cond.code yX5_place cX5_place 3 (some .int), Cond.methodLink RX5 95 yX5_isHeading, Cond.instanceMethod yX5_isHeading, Cond.selects RX5 yX5_isHeading yX5_isHeading]
def wsX5_findFree_r2 : List Cond := [Cond.code yX5_isHeading cX5_isHeading 2 (some .boolean), Cond.fieldLink RX5 55 "ParkWaysModel" "four" "Z", Cond.methodLink RX5 99 yX5_isFree, Cond.instanceMethod yX5_isFree, Cond.selects RX5 yX5_isFree yX5_isFree, Cond.code yX5_isFree cX5_isFree 4 (some .boolean), Cond.fieldLink RX5 80 "ParkWaysModel" "keep" "I", Cond.methodLink RX5 76 yX5_clear, Cond.instanceMethod yX5_clear, Cond.selects RX5 yX5_clear yX5_clear, Cond.code yX5_clear cX5_clear 11 (some .int), Cond.fieldLink RX5 13 "ParkWaysModel" "length" "I", Cond.fieldLink RX5 17 "ParkWaysModel" "wide" "I", Cond.methodLink RX5 69 yX5_dx, Cond.static yX5_dx, Cond.code yX5_dx cX5_dx 1 (some .int), Cond.methodLink RX5 73 yX5_dy, Cond.static yX5_dy, Cond.code yX5_dy cX5_dy 1 (some .int)]
def wsX5_findFree : List Cond := .code yX5_findFree cX5_findFree 4 none :: ((wsX5_findFree_r1 ++ wsX5_findFree_r2) ++ wsX50)
def wsX5_more : List Cond := .code yX5_more cX5_more 2 (some .int) :: ([.constant RX5 103 (100000), .constant RX5 104 (200000), .fieldLink RX5 20 "ParkWaysModel" "radius" "I"] ++ wsX50)
def wsX5_findCosts_r1 : List Cond := [Cond.fieldLink RX5 34 "ParkWaysModel" "far" "[I", Cond.constant RX5 108 (1000000000), Cond.fieldLink RX5 40 "ParkWaysModel" "free" "[Z", Cond.fieldLink RX5 109 "ParkWaysModel" "goal" "I", Cond.fieldLink RX5 37 "ParkWaysModel" "cost" "[I", Cond.fieldLink RX5 43 "ParkWaysModel" "row" "[I", Cond.methodLink RX5 105 yX5_findFree, Cond.instanceMethod yX5_findFree, Cond.selects RX5 yX5_findFree yX5_findFree, Cond.initialized RX5, Cond.code yX5_findFree cX5_findFree 4 none, Cond.fieldLink RX5 52 "ParkWaysModel" "height" "I", Cond.fieldLink RX5 49 "ParkWaysModel" "width" "I", Cond.methodLink RX5 92 yX5_findNear, Cond.instanceMethod yX5_findNear, Cond.selects RX5 yX5_findNear yX5_findNear, Cond.code yX5_findNear cX5_findNear 3 none, Cond.fieldLink RX5 46 "ParkWaysModel" "near" "[I", Cond.methodLink RX5 65 yX5_distance, Cond.instanceMethod yX5_distance, Cond.selects RX5 yX5_distance yX5_distance, Cond.code yX5_distance cX5_distance 9 (some .int), Cond.fieldLink RX5 7 "ParkWaysModel" "full" "[Z", Cond.methodLink RX5 61 yX5_isCell]
def wsX5_findCosts_r2 : List Cond := [Cond.instanceMethod yX5_isCell, Cond.selects RX5 yX5_isCell yX5_isCell, Cond.code yX5_isCell cX5_isCell 3 (some .boolean), Cond.methodLink RX5 89 yX5_place, Cond.static yX5_place, Cond.code yX5_place cX5_place 3 (some .int), Cond.methodLink RX5 95 yX5_isHeading, Cond.instanceMethod yX5_isHeading, Cond.selects RX5 yX5_isHeading yX5_isHeading, Cond.code yX5_isHeading cX5_isHeading 2 (some .boolean), Cond.fieldLink RX5 55 "ParkWaysModel" "four" "Z", Cond.methodLink RX5 99 yX5_isFree, Cond.instanceMethod yX5_isFree, Cond.selects RX5 yX5_isFree yX5_isFree, Cond.code yX5_isFree cX5_isFree 4 (some .boolean), Cond.fieldLink RX5 80 "ParkWaysModel" "keep" "I", Cond.methodLink RX5 76 yX5_clear, Cond.instanceMethod yX5_clear, Cond.selects RX5 yX5_clear yX5_clear, Cond.code yX5_clear cX5_clear 11 (some .int), Cond.fieldLink RX5 13 "ParkWaysModel" "length" "I", Cond.fieldLink RX5 17 "ParkWaysModel" "wide" "I", Cond.methodLink RX5 69 yX5_dx, Cond.static yX5_dx]
def wsX5_findCosts_r3 : List Cond := [Cond.code yX5_dx cX5_dx 1 (some .int), Cond.methodLink RX5 73 yX5_dy, Cond.static yX5_dy, Cond.code yX5_dy cX5_dy 1 (some .int), Cond.methodLink RX5 112 yX5_moved, Cond.instanceMethod yX5_moved, Cond.selects RX5 yX5_moved yX5_moved, Cond.code yX5_moved cX5_moved 10 (some .int), Cond.fieldLink RX5 20 "ParkWaysModel" "radius" "I", Cond.methodLink RX5 83 yX5_xOf, Cond.static yX5_xOf, Cond.code yX5_xOf cX5_xOf 1 (some .int), Cond.methodLink RX5 86 yX5_yOf, Cond.static yX5_yOf, Cond.code yX5_yOf cX5_yOf 1 (some .int), Cond.methodLink RX5 115 yX5_more, Cond.instanceMethod yX5_more, Cond.selects RX5 yX5_more yX5_more, Cond.code yX5_more cX5_more 2 (some .int), Cond.constant RX5 103 (100000), Cond.constant RX5 104 (200000)]
def wsX5_findCosts : List Cond := .code yX5_findCosts cX5_findCosts 7 none :: ((wsX5_findCosts_r1 ++ (wsX5_findCosts_r2 ++ wsX5_findCosts_r3)) ++ wsX50)
def wsX5_before : List Cond := .code yX5_before cX5_before 5 (some .int) :: ([.fieldLink RX5 34 "ParkWaysModel" "far" "[I", .constant RX5 108 (1000000000), .fieldLink RX5 37 "ParkWaysModel" "cost" "[I"] ++ wsX50)
def wsX5_leads_r1 : List Cond := [Cond.fieldLink RX5 34 "ParkWaysModel" "far" "[I", Cond.fieldLink RX5 37 "ParkWaysModel" "cost" "[I", Cond.methodLink RX5 112 yX5_moved, Cond.instanceMethod yX5_moved, Cond.selects RX5 yX5_moved yX5_moved, Cond.initialized RX5, Cond.code yX5_moved cX5_moved 10 (some .int), Cond.fieldLink RX5 40 "ParkWaysModel" "free" "[Z", Cond.fieldLink RX5 20 "ParkWaysModel" "radius" "I", Cond.fieldLink RX5 55 "ParkWaysModel" "four" "Z", Cond.methodLink RX5 83 yX5_xOf, Cond.static yX5_xOf, Cond.code yX5_xOf cX5_xOf 1 (some .int), Cond.methodLink RX5 86 yX5_yOf, Cond.static yX5_yOf, Cond.code yX5_yOf cX5_yOf 1 (some .int), Cond.methodLink RX5 69 yX5_dx, Cond.static yX5_dx, Cond.code yX5_dx cX5_dx 1 (some .int), Cond.methodLink RX5 73 yX5_dy, Cond.static yX5_dy, Cond.code yX5_dy cX5_dy 1 (some .int), Cond.methodLink RX5 61 yX5_isCell, Cond.instanceMethod yX5_isCell]
def wsX5_leads_r2 : List Cond := [Cond.selects RX5 yX5_isCell yX5_isCell, Cond.code yX5_isCell cX5_isCell 3 (some .boolean), Cond.fieldLink RX5 49 "ParkWaysModel" "width" "I", Cond.fieldLink RX5 52 "ParkWaysModel" "height" "I", Cond.methodLink RX5 89 yX5_place, Cond.static yX5_place, Cond.code yX5_place cX5_place 3 (some .int), Cond.methodLink RX5 115 yX5_more, Cond.instanceMethod yX5_more, Cond.selects RX5 yX5_more yX5_more, Cond.code yX5_more cX5_more 2 (some .int), Cond.constant RX5 103 (100000), Cond.constant RX5 104 (200000)]
def wsX5_leads : List Cond := .code yX5_leads cX5_leads 4 (some .boolean) :: ((wsX5_leads_r1 ++ wsX5_leads_r2) ++ wsX50)
def wsX5_search_r1 : List Cond := [Cond.fieldLink RX5 118 "ParkWaysModel" "isWay" "Z", Cond.fieldLink RX5 121 "ParkWaysModel" "lastSteps" "J", Cond.fieldLink RX5 128 "ParkWaysModel" "car" "I", Cond.fieldLink RX5 34 "ParkWaysModel" "far" "[I", Cond.constant RX5 108 (1000000000), Cond.fieldLink RX5 134 "ParkWaysModel" "exact" "Z", Cond.fieldLink RX5 137 "ParkWaysModel" "moves" "I", Cond.fieldLink RX5 140 "ParkWaysModel" "made" "I", Cond.fieldLink RX5 109 "ParkWaysModel" "goal" "I", Cond.fieldLink RX5 27 "ParkWaysModel" "number" "[I", Cond.fieldLink RX5 31 "ParkWaysModel" "behind" "[I", Cond.methodLink RX5 125 yX5_findCosts, Cond.instanceMethod yX5_findCosts, Cond.selects RX5 yX5_findCosts yX5_findCosts, Cond.initialized RX5, Cond.code yX5_findCosts cX5_findCosts 7 none, Cond.fieldLink RX5 40 "ParkWaysModel" "free" "[Z", Cond.fieldLink RX5 37 "ParkWaysModel" "cost" "[I", Cond.fieldLink RX5 43 "ParkWaysModel" "row" "[I", Cond.methodLink RX5 105 yX5_findFree, Cond.instanceMethod yX5_findFree, Cond.selects RX5 yX5_findFree yX5_findFree, Cond.code yX5_findFree cX5_findFree 4 none, Cond.fieldLink RX5 52 "ParkWaysModel" "height" "I"]
def wsX5_search_r2 : List Cond := [Cond.fieldLink RX5 49 "ParkWaysModel" "width" "I", Cond.methodLink RX5 92 yX5_findNear, Cond.instanceMethod yX5_findNear, Cond.selects RX5 yX5_findNear yX5_findNear, Cond.code yX5_findNear cX5_findNear 3 none, Cond.fieldLink RX5 46 "ParkWaysModel" "near" "[I", Cond.methodLink RX5 65 yX5_distance, Cond.instanceMethod yX5_distance, Cond.selects RX5 yX5_distance yX5_distance, Cond.code yX5_distance cX5_distance 9 (some .int), Cond.fieldLink RX5 7 "ParkWaysModel" "full" "[Z", Cond.methodLink RX5 61 yX5_isCell, Cond.instanceMethod yX5_isCell, Cond.selects RX5 yX5_isCell yX5_isCell, Cond.code yX5_isCell cX5_isCell 3 (some .boolean), Cond.methodLink RX5 89 yX5_place, Cond.static yX5_place, Cond.code yX5_place cX5_place 3 (some .int), Cond.methodLink RX5 95 yX5_isHeading, Cond.instanceMethod yX5_isHeading, Cond.selects RX5 yX5_isHeading yX5_isHeading, Cond.code yX5_isHeading cX5_isHeading 2 (some .boolean), Cond.fieldLink RX5 55 "ParkWaysModel" "four" "Z", Cond.methodLink RX5 99 yX5_isFree]
def wsX5_search_r3 : List Cond := [Cond.instanceMethod yX5_isFree, Cond.selects RX5 yX5_isFree yX5_isFree, Cond.code yX5_isFree cX5_isFree 4 (some .boolean), Cond.fieldLink RX5 80 "ParkWaysModel" "keep" "I", Cond.methodLink RX5 76 yX5_clear, Cond.instanceMethod yX5_clear, Cond.selects RX5 yX5_clear yX5_clear, Cond.code yX5_clear cX5_clear 11 (some .int), Cond.fieldLink RX5 13 "ParkWaysModel" "length" "I", Cond.fieldLink RX5 17 "ParkWaysModel" "wide" "I", Cond.methodLink RX5 69 yX5_dx, Cond.static yX5_dx, Cond.code yX5_dx cX5_dx 1 (some .int), Cond.methodLink RX5 73 yX5_dy, Cond.static yX5_dy, Cond.code yX5_dy cX5_dy 1 (some .int), Cond.methodLink RX5 112 yX5_moved, Cond.instanceMethod yX5_moved, Cond.selects RX5 yX5_moved yX5_moved, Cond.code yX5_moved cX5_moved 10 (some .int), Cond.fieldLink RX5 20 "ParkWaysModel" "radius" "I", Cond.methodLink RX5 83 yX5_xOf, Cond.static yX5_xOf, Cond.code yX5_xOf cX5_xOf 1 (some .int)]
def wsX5_search_r4 : List Cond := [Cond.methodLink RX5 86 yX5_yOf, Cond.static yX5_yOf, Cond.code yX5_yOf cX5_yOf 1 (some .int), Cond.methodLink RX5 115 yX5_more, Cond.instanceMethod yX5_more, Cond.selects RX5 yX5_more yX5_more, Cond.code yX5_more cX5_more 2 (some .int), Cond.constant RX5 103 (100000), Cond.constant RX5 104 (200000), Cond.methodLink RX5 131 yX5_before, Cond.instanceMethod yX5_before, Cond.selects RX5 yX5_before yX5_before, Cond.code yX5_before cX5_before 5 (some .int), Cond.methodLink RX5 143 yX5_leads, Cond.instanceMethod yX5_leads, Cond.selects RX5 yX5_leads yX5_leads, Cond.code yX5_leads cX5_leads 4 (some .boolean)]
def wsX5_search : List Cond := .code yX5_search cX5_search 7 (some .int) :: ((wsX5_search_r1 ++ (wsX5_search_r2 ++ (wsX5_search_r3 ++ wsX5_search_r4))) ++ wsX50)
def wsX5_set : List Cond := .code yX5_set cX5_set 5 (some .boolean) :: ([.fieldLink RX5 58 "ParkWaysModel" "code" "I", .fieldLink RX5 7 "ParkWaysModel" "full" "[Z", .methodLink RX5 61 yX5_isCell, .instanceMethod yX5_isCell, .selects RX5 yX5_isCell yX5_isCell, .initialized RX5, .code yX5_isCell cX5_isCell 3 (some .boolean), .fieldLink RX5 49 "ParkWaysModel" "width" "I", .fieldLink RX5 52 "ParkWaysModel" "height" "I"] ++ wsX50)
def wsX5_cell : List Cond := .code yX5_cell cX5_cell 5 (some .int) :: ([.fieldLink RX5 58 "ParkWaysModel" "code" "I", .fieldLink RX5 118 "ParkWaysModel" "isWay" "Z", .methodLink RX5 146 yX5_set, .instanceMethod yX5_set, .selects RX5 yX5_set yX5_set, .initialized RX5, .code yX5_set cX5_set 5 (some .boolean), .fieldLink RX5 7 "ParkWaysModel" "full" "[Z", .methodLink RX5 61 yX5_isCell, .instanceMethod yX5_isCell, .selects RX5 yX5_isCell yX5_isCell, .code yX5_isCell cX5_isCell 3 (some .boolean), .fieldLink RX5 49 "ParkWaysModel" "width" "I", .fieldLink RX5 52 "ParkWaysModel" "height" "I"] ++ wsX50)
def wsX5_car : List Cond := .code yX5_car cX5_car 4 (some .int) :: ([.fieldLink RX5 58 "ParkWaysModel" "code" "I", .fieldLink RX5 13 "ParkWaysModel" "length" "I", .fieldLink RX5 17 "ParkWaysModel" "wide" "I", .fieldLink RX5 20 "ParkWaysModel" "radius" "I", .fieldLink RX5 118 "ParkWaysModel" "isWay" "Z"] ++ wsX50)
def wsX5_keep : List Cond := .code yX5_keep cX5_keep 3 (some .int) :: ([.fieldLink RX5 58 "ParkWaysModel" "code" "I", .fieldLink RX5 80 "ParkWaysModel" "keep" "I", .fieldLink RX5 118 "ParkWaysModel" "isWay" "Z"] ++ wsX50)
def wsX5_stand_r1 : List Cond := [Cond.fieldLink RX5 58 "ParkWaysModel" "code" "I", Cond.fieldLink RX5 128 "ParkWaysModel" "car" "I", Cond.fieldLink RX5 150 "ParkWaysModel" "home" "I", Cond.fieldLink RX5 118 "ParkWaysModel" "isWay" "Z", Cond.methodLink RX5 61 yX5_isCell, Cond.instanceMethod yX5_isCell, Cond.selects RX5 yX5_isCell yX5_isCell, Cond.initialized RX5, Cond.code yX5_isCell cX5_isCell 3 (some .boolean), Cond.fieldLink RX5 49 "ParkWaysModel" "width" "I", Cond.fieldLink RX5 52 "ParkWaysModel" "height" "I", Cond.methodLink RX5 95 yX5_isHeading, Cond.instanceMethod yX5_isHeading, Cond.selects RX5 yX5_isHeading yX5_isHeading, Cond.code yX5_isHeading cX5_isHeading 2 (some .boolean), Cond.fieldLink RX5 55 "ParkWaysModel" "four" "Z", Cond.methodLink RX5 92 yX5_findNear, Cond.instanceMethod yX5_findNear, Cond.selects RX5 yX5_findNear yX5_findNear, Cond.code yX5_findNear cX5_findNear 3 none, Cond.fieldLink RX5 46 "ParkWaysModel" "near" "[I", Cond.methodLink RX5 65 yX5_distance, Cond.instanceMethod yX5_distance, Cond.selects RX5 yX5_distance yX5_distance]
def wsX5_stand_r2 : List Cond := [Cond.code yX5_distance cX5_distance 9 (some .int), Cond.fieldLink RX5 7 "ParkWaysModel" "full" "[Z", Cond.methodLink RX5 99 yX5_isFree, Cond.instanceMethod yX5_isFree, Cond.selects RX5 yX5_isFree yX5_isFree, Cond.code yX5_isFree cX5_isFree 4 (some .boolean), Cond.fieldLink RX5 80 "ParkWaysModel" "keep" "I", Cond.methodLink RX5 76 yX5_clear, Cond.instanceMethod yX5_clear, Cond.selects RX5 yX5_clear yX5_clear, Cond.code yX5_clear cX5_clear 11 (some .int), Cond.fieldLink RX5 13 "ParkWaysModel" "length" "I", Cond.fieldLink RX5 17 "ParkWaysModel" "wide" "I", Cond.methodLink RX5 69 yX5_dx, Cond.static yX5_dx, Cond.code yX5_dx cX5_dx 1 (some .int), Cond.methodLink RX5 73 yX5_dy, Cond.static yX5_dy, Cond.code yX5_dy cX5_dy 1 (some .int), Cond.methodLink RX5 89 yX5_place, Cond.static yX5_place, Cond.code yX5_place cX5_place 3 (some .int)]
def wsX5_stand : List Cond := .code yX5_stand cX5_stand 4 (some .int) :: ((wsX5_stand_r1 ++ wsX5_stand_r2) ++ wsX50)
def wsX5_space : List Cond := .code yX5_space cX5_space 6 (some .int) :: ([.fieldLink RX5 58 "ParkWaysModel" "code" "I", .fieldLink RX5 49 "ParkWaysModel" "width" "I", .fieldLink RX5 52 "ParkWaysModel" "height" "I", .fieldLink RX5 7 "ParkWaysModel" "full" "[Z", .fieldLink RX5 109 "ParkWaysModel" "goal" "I", .fieldLink RX5 118 "ParkWaysModel" "isWay" "Z", .methodLink RX5 89 yX5_place, .static yX5_place, .initialized RX5, .code yX5_place cX5_place 3 (some .int)] ++ wsX50)
def wsX5_out : List Cond := .code yX5_out cX5_out 1 (some .int) :: ([.fieldLink RX5 58 "ParkWaysModel" "code" "I", .fieldLink RX5 109 "ParkWaysModel" "goal" "I", .fieldLink RX5 150 "ParkWaysModel" "home" "I", .fieldLink RX5 118 "ParkWaysModel" "isWay" "Z"] ++ wsX50)
def wsX5_way_r1 : List Cond := [Cond.fieldLink RX5 58 "ParkWaysModel" "code" "I", Cond.fieldLink RX5 137 "ParkWaysModel" "moves" "I", Cond.methodLink RX5 153 yX5_search, Cond.instanceMethod yX5_search, Cond.selects RX5 yX5_search yX5_search, Cond.initialized RX5, Cond.code yX5_search cX5_search 7 (some .int), Cond.fieldLink RX5 118 "ParkWaysModel" "isWay" "Z", Cond.fieldLink RX5 121 "ParkWaysModel" "lastSteps" "J", Cond.fieldLink RX5 128 "ParkWaysModel" "car" "I", Cond.fieldLink RX5 34 "ParkWaysModel" "far" "[I", Cond.constant RX5 108 (1000000000), Cond.fieldLink RX5 134 "ParkWaysModel" "exact" "Z", Cond.fieldLink RX5 140 "ParkWaysModel" "made" "I", Cond.fieldLink RX5 109 "ParkWaysModel" "goal" "I", Cond.fieldLink RX5 27 "ParkWaysModel" "number" "[I", Cond.fieldLink RX5 31 "ParkWaysModel" "behind" "[I", Cond.methodLink RX5 125 yX5_findCosts, Cond.instanceMethod yX5_findCosts, Cond.selects RX5 yX5_findCosts yX5_findCosts, Cond.code yX5_findCosts cX5_findCosts 7 none, Cond.fieldLink RX5 40 "ParkWaysModel" "free" "[Z", Cond.fieldLink RX5 37 "ParkWaysModel" "cost" "[I", Cond.fieldLink RX5 43 "ParkWaysModel" "row" "[I"]
def wsX5_way_r2 : List Cond := [Cond.methodLink RX5 105 yX5_findFree, Cond.instanceMethod yX5_findFree, Cond.selects RX5 yX5_findFree yX5_findFree, Cond.code yX5_findFree cX5_findFree 4 none, Cond.fieldLink RX5 52 "ParkWaysModel" "height" "I", Cond.fieldLink RX5 49 "ParkWaysModel" "width" "I", Cond.methodLink RX5 92 yX5_findNear, Cond.instanceMethod yX5_findNear, Cond.selects RX5 yX5_findNear yX5_findNear, Cond.code yX5_findNear cX5_findNear 3 none, Cond.fieldLink RX5 46 "ParkWaysModel" "near" "[I", Cond.methodLink RX5 65 yX5_distance, Cond.instanceMethod yX5_distance, Cond.selects RX5 yX5_distance yX5_distance, Cond.code yX5_distance cX5_distance 9 (some .int), Cond.fieldLink RX5 7 "ParkWaysModel" "full" "[Z", Cond.methodLink RX5 61 yX5_isCell, Cond.instanceMethod yX5_isCell, Cond.selects RX5 yX5_isCell yX5_isCell, Cond.code yX5_isCell cX5_isCell 3 (some .boolean), Cond.methodLink RX5 89 yX5_place, Cond.static yX5_place, Cond.code yX5_place cX5_place 3 (some .int), Cond.methodLink RX5 95 yX5_isHeading]
def wsX5_way_r3 : List Cond := [Cond.instanceMethod yX5_isHeading, Cond.selects RX5 yX5_isHeading yX5_isHeading, Cond.code yX5_isHeading cX5_isHeading 2 (some .boolean), Cond.fieldLink RX5 55 "ParkWaysModel" "four" "Z", Cond.methodLink RX5 99 yX5_isFree, Cond.instanceMethod yX5_isFree, Cond.selects RX5 yX5_isFree yX5_isFree, Cond.code yX5_isFree cX5_isFree 4 (some .boolean), Cond.fieldLink RX5 80 "ParkWaysModel" "keep" "I", Cond.methodLink RX5 76 yX5_clear, Cond.instanceMethod yX5_clear, Cond.selects RX5 yX5_clear yX5_clear, Cond.code yX5_clear cX5_clear 11 (some .int), Cond.fieldLink RX5 13 "ParkWaysModel" "length" "I", Cond.fieldLink RX5 17 "ParkWaysModel" "wide" "I", Cond.methodLink RX5 69 yX5_dx, Cond.static yX5_dx, Cond.code yX5_dx cX5_dx 1 (some .int), Cond.methodLink RX5 73 yX5_dy, Cond.static yX5_dy, Cond.code yX5_dy cX5_dy 1 (some .int), Cond.methodLink RX5 112 yX5_moved, Cond.instanceMethod yX5_moved, Cond.selects RX5 yX5_moved yX5_moved]
def wsX5_way_r4 : List Cond := [Cond.code yX5_moved cX5_moved 10 (some .int), Cond.fieldLink RX5 20 "ParkWaysModel" "radius" "I", Cond.methodLink RX5 83 yX5_xOf, Cond.static yX5_xOf, Cond.code yX5_xOf cX5_xOf 1 (some .int), Cond.methodLink RX5 86 yX5_yOf, Cond.static yX5_yOf, Cond.code yX5_yOf cX5_yOf 1 (some .int), Cond.methodLink RX5 115 yX5_more, Cond.instanceMethod yX5_more, Cond.selects RX5 yX5_more yX5_more, Cond.code yX5_more cX5_more 2 (some .int), Cond.constant RX5 103 (100000), Cond.constant RX5 104 (200000), Cond.methodLink RX5 131 yX5_before, Cond.instanceMethod yX5_before, Cond.selects RX5 yX5_before yX5_before, Cond.code yX5_before cX5_before 5 (some .int), Cond.methodLink RX5 143 yX5_leads, Cond.instanceMethod yX5_leads, Cond.selects RX5 yX5_leads yX5_leads, Cond.code yX5_leads cX5_leads 4 (some .boolean)]
def wsX5_way : List Cond := .code yX5_way cX5_way 4 (some .int) :: ((wsX5_way_r1 ++ (wsX5_way_r2 ++ (wsX5_way_r3 ++ wsX5_way_r4))) ++ wsX50)
def wsX5_move : List Cond := .code yX5_move cX5_move 4 (some .int) :: ([.fieldLink RX5 58 "ParkWaysModel" "code" "I", .fieldLink RX5 118 "ParkWaysModel" "isWay" "Z", .fieldLink RX5 137 "ParkWaysModel" "moves" "I", .fieldLink RX5 31 "ParkWaysModel" "behind" "[I", .fieldLink RX5 27 "ParkWaysModel" "number" "[I", .methodLink RX5 83 yX5_xOf, .static yX5_xOf, .initialized RX5, .code yX5_xOf cX5_xOf 1 (some .int), .methodLink RX5 86 yX5_yOf, .static yX5_yOf, .code yX5_yOf cX5_yOf 1 (some .int)] ++ wsX50)
def wsX5_exact : List Cond := .code yX5_exact cX5_exact 1 (some .boolean) :: ([.fieldLink RX5 58 "ParkWaysModel" "code" "I", .fieldLink RX5 134 "ParkWaysModel" "exact" "Z"] ++ wsX50)
def wsX5_follow : List Cond := .code yX5_follow cX5_follow 5 (some .int) :: ([.fieldLink RX5 58 "ParkWaysModel" "code" "I", .constantDouble RX5 157 (13830554455654793216), .fieldLink RX5 118 "ParkWaysModel" "isWay" "Z", .fieldLink RX5 140 "ParkWaysModel" "made" "I", .fieldLink RX5 137 "ParkWaysModel" "moves" "I", .fieldLink RX5 23 "ParkWaysModel" "held" "Z", .fieldLink RX5 31 "ParkWaysModel" "behind" "[I", .fieldLink RX5 128 "ParkWaysModel" "car" "I", .fieldLink RX5 159 "ParkWaysModel" "error" "D", .constantDouble RX5 163 (4602678819172646912), .constantDouble RX5 165 (13826050856027422720)] ++ wsX50)
def wsX5_error : List Cond := .code yX5_error cX5_error 1 (some .double) :: ([.fieldLink RX5 58 "ParkWaysModel" "code" "I", .fieldLink RX5 159 "ParkWaysModel" "error" "D"] ++ wsX50)
def wsX5_change_r1 : List Cond := [Cond.fieldLink RX5 58 "ParkWaysModel" "code" "I", Cond.fieldLink RX5 118 "ParkWaysModel" "isWay" "Z", Cond.fieldLink RX5 128 "ParkWaysModel" "car" "I", Cond.fieldLink RX5 140 "ParkWaysModel" "made" "I", Cond.fieldLink RX5 137 "ParkWaysModel" "moves" "I", Cond.fieldLink RX5 27 "ParkWaysModel" "number" "[I", Cond.fieldLink RX5 31 "ParkWaysModel" "behind" "[I", Cond.fieldLink RX5 121 "ParkWaysModel" "lastSteps" "J", Cond.methodLink RX5 146 yX5_set, Cond.instanceMethod yX5_set, Cond.selects RX5 yX5_set yX5_set, Cond.initialized RX5, Cond.code yX5_set cX5_set 5 (some .boolean), Cond.fieldLink RX5 7 "ParkWaysModel" "full" "[Z", Cond.methodLink RX5 61 yX5_isCell, Cond.instanceMethod yX5_isCell, Cond.selects RX5 yX5_isCell yX5_isCell, Cond.code yX5_isCell cX5_isCell 3 (some .boolean), Cond.fieldLink RX5 49 "ParkWaysModel" "width" "I", Cond.fieldLink RX5 52 "ParkWaysModel" "height" "I", Cond.methodLink RX5 105 yX5_findFree, Cond.instanceMethod yX5_findFree, Cond.selects RX5 yX5_findFree yX5_findFree, Cond.code yX5_findFree cX5_findFree 4 none]
def wsX5_change_r2 : List Cond := [Cond.fieldLink RX5 40 "ParkWaysModel" "free" "[Z", Cond.methodLink RX5 92 yX5_findNear, Cond.instanceMethod yX5_findNear, Cond.selects RX5 yX5_findNear yX5_findNear, Cond.code yX5_findNear cX5_findNear 3 none, Cond.fieldLink RX5 46 "ParkWaysModel" "near" "[I", Cond.methodLink RX5 65 yX5_distance, Cond.instanceMethod yX5_distance, Cond.selects RX5 yX5_distance yX5_distance, Cond.code yX5_distance cX5_distance 9 (some .int), Cond.methodLink RX5 89 yX5_place, Cond.static yX5_place, Cond.code yX5_place cX5_place 3 (some .int), Cond.methodLink RX5 95 yX5_isHeading, Cond.instanceMethod yX5_isHeading, Cond.selects RX5 yX5_isHeading yX5_isHeading, Cond.code yX5_isHeading cX5_isHeading 2 (some .boolean), Cond.fieldLink RX5 55 "ParkWaysModel" "four" "Z", Cond.methodLink RX5 99 yX5_isFree, Cond.instanceMethod yX5_isFree, Cond.selects RX5 yX5_isFree yX5_isFree, Cond.code yX5_isFree cX5_isFree 4 (some .boolean), Cond.fieldLink RX5 80 "ParkWaysModel" "keep" "I", Cond.methodLink RX5 76 yX5_clear]
def wsX5_change_r3 : List Cond := [Cond.instanceMethod yX5_clear, Cond.selects RX5 yX5_clear yX5_clear, Cond.code yX5_clear cX5_clear 11 (some .int), Cond.fieldLink RX5 13 "ParkWaysModel" "length" "I", Cond.fieldLink RX5 17 "ParkWaysModel" "wide" "I", Cond.methodLink RX5 69 yX5_dx, Cond.static yX5_dx, Cond.code yX5_dx cX5_dx 1 (some .int), Cond.methodLink RX5 73 yX5_dy, Cond.static yX5_dy, Cond.code yX5_dy cX5_dy 1 (some .int), Cond.methodLink RX5 112 yX5_moved, Cond.instanceMethod yX5_moved, Cond.selects RX5 yX5_moved yX5_moved, Cond.code yX5_moved cX5_moved 10 (some .int), Cond.fieldLink RX5 20 "ParkWaysModel" "radius" "I", Cond.methodLink RX5 83 yX5_xOf, Cond.static yX5_xOf, Cond.code yX5_xOf cX5_xOf 1 (some .int), Cond.methodLink RX5 86 yX5_yOf, Cond.static yX5_yOf, Cond.code yX5_yOf cX5_yOf 1 (some .int), Cond.methodLink RX5 153 yX5_search, Cond.instanceMethod yX5_search]
def wsX5_change_r4 : List Cond := [Cond.selects RX5 yX5_search yX5_search, Cond.code yX5_search cX5_search 7 (some .int), Cond.fieldLink RX5 34 "ParkWaysModel" "far" "[I", Cond.constant RX5 108 (1000000000), Cond.fieldLink RX5 134 "ParkWaysModel" "exact" "Z", Cond.fieldLink RX5 109 "ParkWaysModel" "goal" "I", Cond.methodLink RX5 125 yX5_findCosts, Cond.instanceMethod yX5_findCosts, Cond.selects RX5 yX5_findCosts yX5_findCosts, Cond.code yX5_findCosts cX5_findCosts 7 none, Cond.fieldLink RX5 37 "ParkWaysModel" "cost" "[I", Cond.fieldLink RX5 43 "ParkWaysModel" "row" "[I", Cond.methodLink RX5 115 yX5_more, Cond.instanceMethod yX5_more, Cond.selects RX5 yX5_more yX5_more, Cond.code yX5_more cX5_more 2 (some .int), Cond.constant RX5 103 (100000), Cond.constant RX5 104 (200000), Cond.methodLink RX5 131 yX5_before, Cond.instanceMethod yX5_before, Cond.selects RX5 yX5_before yX5_before, Cond.code yX5_before cX5_before 5 (some .int), Cond.methodLink RX5 143 yX5_leads, Cond.instanceMethod yX5_leads]
def wsX5_change_r5 : List Cond := [Cond.selects RX5 yX5_leads yX5_leads, Cond.code yX5_leads cX5_leads 4 (some .boolean)]
def wsX5_change : List Cond := .code yX5_change cX5_change 8 (some .int) :: ((wsX5_change_r1 ++ (wsX5_change_r2 ++ (wsX5_change_r3 ++ (wsX5_change_r4 ++ wsX5_change_r5)))) ++ wsX50)
def wsX5_release : List Cond := .code yX5_release cX5_release 3 (some .int) :: ([.fieldLink RX5 58 "ParkWaysModel" "code" "I", .fieldLink RX5 23 "ParkWaysModel" "held" "Z"] ++ wsX50)
def wsX5_margin_r1 : List Cond := [Cond.fieldLink RX5 58 "ParkWaysModel" "code" "I", Cond.fieldLink RX5 118 "ParkWaysModel" "isWay" "Z", Cond.fieldLink RX5 137 "ParkWaysModel" "moves" "I", Cond.fieldLink RX5 31 "ParkWaysModel" "behind" "[I", Cond.methodLink RX5 92 yX5_findNear, Cond.instanceMethod yX5_findNear, Cond.selects RX5 yX5_findNear yX5_findNear, Cond.initialized RX5, Cond.code yX5_findNear cX5_findNear 3 none, Cond.fieldLink RX5 52 "ParkWaysModel" "height" "I", Cond.fieldLink RX5 49 "ParkWaysModel" "width" "I", Cond.fieldLink RX5 46 "ParkWaysModel" "near" "[I", Cond.methodLink RX5 65 yX5_distance, Cond.instanceMethod yX5_distance, Cond.selects RX5 yX5_distance yX5_distance, Cond.code yX5_distance cX5_distance 9 (some .int), Cond.fieldLink RX5 7 "ParkWaysModel" "full" "[Z", Cond.methodLink RX5 61 yX5_isCell, Cond.instanceMethod yX5_isCell, Cond.selects RX5 yX5_isCell yX5_isCell, Cond.code yX5_isCell cX5_isCell 3 (some .boolean), Cond.methodLink RX5 83 yX5_xOf, Cond.static yX5_xOf, Cond.code yX5_xOf cX5_xOf 1 (some .int)]
def wsX5_margin_r2 : List Cond := [Cond.methodLink RX5 86 yX5_yOf, Cond.static yX5_yOf, Cond.code yX5_yOf cX5_yOf 1 (some .int), Cond.methodLink RX5 76 yX5_clear, Cond.instanceMethod yX5_clear, Cond.selects RX5 yX5_clear yX5_clear, Cond.code yX5_clear cX5_clear 11 (some .int), Cond.fieldLink RX5 13 "ParkWaysModel" "length" "I", Cond.fieldLink RX5 17 "ParkWaysModel" "wide" "I", Cond.methodLink RX5 69 yX5_dx, Cond.static yX5_dx, Cond.code yX5_dx cX5_dx 1 (some .int), Cond.methodLink RX5 73 yX5_dy, Cond.static yX5_dy, Cond.code yX5_dy cX5_dy 1 (some .int)]
def wsX5_margin : List Cond := .code yX5_margin cX5_margin 3 (some .int) :: ((wsX5_margin_r1 ++ wsX5_margin_r2) ++ wsX50)
def wsX5_heading : List Cond := .code yX5_heading cX5_heading 2 (some .int) :: ([.fieldLink RX5 58 "ParkWaysModel" "code" "I", .methodLink RX5 69 yX5_dx, .static yX5_dx, .initialized RX5, .code yX5_dx cX5_dx 1 (some .int), .methodLink RX5 73 yX5_dy, .static yX5_dy, .code yX5_dy cX5_dy 1 (some .int)] ++ wsX50)
def wsJx00060_init_a7421 : List Cond := .code yJx00060_init_a7421 cJx00060_init_a7421 2 none :: ([])
def wsJ9_abs_0f7a4 : List Cond := .code yJ9_abs_0f7a4 cJ9_abs_0f7a4 1 (some .int) :: ([])
def wsJ9_max_7cf53 : List Cond := .code yJ9_max_7cf53 cJ9_max_7cf53 2 (some .int) :: ([])
def wsJ9_min_7cf53 : List Cond := .code yJ9_min_7cf53 cJ9_min_7cf53 2 (some .int) :: ([])
def wsL_cell : List Cond := .code yL_cell cL_cell 2 (some .int) :: ([])
def wsL_cell__r1 : List Cond := [Cond.methodLink RL 7 yX4_cell, Cond.instanceMethod yX4_cell, Cond.selects RX4 yX4_cell yX4_cell, Cond.initialized RX4, Cond.code yX4_cell cX4_cell 4 (some .int), Cond.fieldLink RX4 22 "ParkWays" "field" "LParkWays$Field;", Cond.classLink RX4 61 RJx00060, Cond.instantiable RJx00060 6, Cond.initialized RJx00060, Cond.fieldLink RX4 53 "ParkWays" "way" "LParkWays$Way;", Cond.methodLink RX4 57 yX1_hasCell, Cond.instanceMethod yX1_hasCell, Cond.selects RX1 yX1_hasCell yX1_hasCell, Cond.initialized RX1, Cond.code yX1_hasCell cX1_hasCell 3 (some .boolean), Cond.fieldLink RX1 9 "ParkWays$Field" "width" "I", Cond.fieldLink RX1 15 "ParkWays$Field" "height" "I", Cond.methodLink RX4 68 yX3_drop, Cond.instanceMethod yX3_drop, Cond.selects RX3 yX3_drop yX3_drop, Cond.initialized RX3, Cond.code yX3_drop cX3_drop 1 none, Cond.fieldLink RX3 18 "ParkWays$Way" "stands" "Z", Cond.fieldLink RX3 22 "ParkWays$Way" "count" "I"]
def wsL_cell__r2 : List Cond := [Cond.fieldLink RX3 26 "ParkWays$Way" "made" "I", Cond.methodLink RX4 71 yX4_setCell, Cond.instanceMethod yX4_setCell, Cond.selects RX4 yX4_setCell yX4_setCell, Cond.code yX4_setCell cX4_setCell 5 (some .boolean), Cond.fieldLink RX4 31 "ParkWays" "car" "LParkWays$Car;", Cond.methodLink RX4 187 yX1_setFull, Cond.instanceMethod yX1_setFull, Cond.selects RX1 yX1_setFull yX1_setFull, Cond.code yX1_setFull cX1_setFull 4 (some .boolean), Cond.fieldLink RX1 21 "ParkWays$Field" "full" "[Z", Cond.methodLink RX1 33 yX1_hasCell, Cond.static yX4_cellAt, Cond.code yX4_cellAt cX4_cellAt 2 (some .int), Cond.methodLink RX1 41 yX1_countAround, Cond.instanceMethod yX1_countAround, Cond.selects RX1 yX1_countAround yX1_countAround, Cond.code yX1_countAround cX1_countAround 6 none, Cond.fieldLink RX1 45 "ParkWays$Field" "keep" "I", Cond.fieldLink RX1 25 "ParkWays$Field" "fullWithinKeep" "[I", Cond.methodLink RX4 89 yX0_forget, Cond.instanceMethod yX0_forget, Cond.selects RX0 yX0_forget yX0_forget, Cond.initialized RX0]
def wsL_cell__r3 : List Cond := [Cond.code yX0_forget cX0_forget 1 none, Cond.fieldLink RX0 31 "ParkWays$Car" "known" "[I", Cond.methodLink RX0 38 yJ7_fill_53178, Cond.static yJ7_fill_53178, Cond.initialized RJ7, Cond.code yJ7_fill_53178 cJ7_fill_53178 4 none]
def wsL_cell_ : List Cond := .codeWith yL_cell_ cL_cell_ 6 (some .int) [(0, 12, 15, 13)] :: ((wsL_cell__r1 ++ (wsL_cell__r2 ++ wsL_cell__r3)) ++ wsX40 ++ wsJx000600 ++ wsX10 ++ wsX30 ++ wsX00)
def wsL_change_r1 : List Cond := [Cond.methodLink RL 15 yX4_change, Cond.instanceMethod yX4_change, Cond.selects RX4 yX4_change yX4_change, Cond.initialized RX4, Cond.code yX4_change cX4_change 4 (some .int), Cond.fieldLink RX4 22 "ParkWays" "field" "LParkWays$Field;", Cond.classLink RX4 61 RJx00060, Cond.instantiable RJx00060 6, Cond.initialized RJx00060, Cond.fieldLink RX4 53 "ParkWays" "way" "LParkWays$Way;", Cond.methodLink RX4 57 yX1_hasCell, Cond.instanceMethod yX1_hasCell, Cond.selects RX1 yX1_hasCell yX1_hasCell, Cond.initialized RX1, Cond.code yX1_hasCell cX1_hasCell 3 (some .boolean), Cond.fieldLink RX1 9 "ParkWays$Field" "width" "I", Cond.fieldLink RX1 15 "ParkWays$Field" "height" "I", Cond.methodLink RX4 71 yX4_setCell, Cond.instanceMethod yX4_setCell, Cond.selects RX4 yX4_setCell yX4_setCell, Cond.code yX4_setCell cX4_setCell 5 (some .boolean), Cond.fieldLink RX4 31 "ParkWays" "car" "LParkWays$Car;", Cond.methodLink RX4 187 yX1_setFull, Cond.instanceMethod yX1_setFull]
def wsL_change_r2 : List Cond := [Cond.selects RX1 yX1_setFull yX1_setFull, Cond.code yX1_setFull cX1_setFull 4 (some .boolean), Cond.fieldLink RX1 21 "ParkWays$Field" "full" "[Z", Cond.methodLink RX1 33 yX1_hasCell, Cond.static yX4_cellAt, Cond.code yX4_cellAt cX4_cellAt 2 (some .int), Cond.methodLink RX1 41 yX1_countAround, Cond.instanceMethod yX1_countAround, Cond.selects RX1 yX1_countAround yX1_countAround, Cond.code yX1_countAround cX1_countAround 6 none, Cond.fieldLink RX1 45 "ParkWays$Field" "keep" "I", Cond.fieldLink RX1 25 "ParkWays$Field" "fullWithinKeep" "[I", Cond.methodLink RX4 89 yX0_forget, Cond.instanceMethod yX0_forget, Cond.selects RX0 yX0_forget yX0_forget, Cond.initialized RX0, Cond.code yX0_forget cX0_forget 1 none, Cond.fieldLink RX0 31 "ParkWays$Car" "known" "[I", Cond.methodLink RX0 38 yJ7_fill_53178, Cond.static yJ7_fill_53178, Cond.initialized RJ7, Cond.code yJ7_fill_53178 cJ7_fill_53178 4 none, Cond.methodLink RX4 172 yX4_movesLeftMayBeMade, Cond.instanceMethod yX4_movesLeftMayBeMade]
def wsL_change_r3 : List Cond := [Cond.selects RX4 yX4_movesLeftMayBeMade yX4_movesLeftMayBeMade, Cond.code yX4_movesLeftMayBeMade cX4_movesLeftMayBeMade 3 (some .boolean), Cond.fieldLink RX4 103 "ParkWays" "place" "I", Cond.methodLink RX4 144 yX3_moveAt, Cond.instanceMethod yX3_moveAt, Cond.selects RX3 yX3_moveAt yX3_moveAt, Cond.initialized RX3, Cond.code yX3_moveAt cX3_moveAt 2 (some .int), Cond.fieldLink RX3 9 "ParkWays$Way" "moves" "[I", Cond.methodLink RX3 29 yX3_hasMove, Cond.instanceMethod yX3_hasMove, Cond.selects RX3 yX3_hasMove yX3_hasMove, Cond.code yX3_hasMove cX3_hasMove 2 (some .boolean), Cond.fieldLink RX3 22 "ParkWays$Way" "count" "I", Cond.methodLink RX4 194 yX0_mayMake, Cond.instanceMethod yX0_mayMake, Cond.selects RX0 yX0_mayMake yX0_mayMake, Cond.code yX0_mayMake cX0_mayMake 7 (some .boolean), Cond.fieldLink RX0 18 "ParkWays$Car" "radius" "I", Cond.methodLink RX0 78 yX0_senseOf, Cond.static yX0_senseOf, Cond.code yX0_senseOf cX0_senseOf 1 (some .int), Cond.methodLink RX0 81 yX0_isArc, Cond.static yX0_isArc]
def wsL_change_r4 : List Cond := [Cond.code yX0_isArc cX0_isArc 1 (some .boolean), Cond.methodLink RX0 84 yX0_shifted, Cond.instanceMethod yX0_shifted, Cond.selects RX0 yX0_shifted yX0_shifted, Cond.code yX0_shifted cX0_shifted 6 (some .int), Cond.fieldLink RX0 21 "ParkWays$Car" "field" "LParkWays$Field;", Cond.static yX4_headingOf, Cond.code yX4_headingOf cX4_headingOf 1 (some .int), Cond.static yX4_xOf, Cond.code yX4_xOf cX4_xOf 1 (some .int), Cond.static yX4_stepX, Cond.code yX4_stepX cX4_stepX 1 (some .int), Cond.fieldLink RX4 222 "ParkWays" "STEP_X" "[I", Cond.static yX4_yOf, Cond.code yX4_yOf cX4_yOf 1 (some .int), Cond.static yX4_stepY, Cond.code yX4_stepY cX4_stepY 1 (some .int), Cond.fieldLink RX4 226 "ParkWays" "STEP_Y" "[I", Cond.methodLink RX0 94 yX1_hasCell, Cond.static yX4_placeAt, Cond.code yX4_placeAt cX4_placeAt 3 (some .int), Cond.methodLink RX4 219 yX4_cellAt, Cond.methodLink RX0 88 yX0_turned, Cond.instanceMethod yX0_turned]
def wsL_change_r5 : List Cond := [Cond.selects RX0 yX0_turned yX0_turned, Cond.code yX0_turned cX0_turned 4 (some .int), Cond.methodLink RX0 91 yX0_isFree, Cond.instanceMethod yX0_isFree, Cond.selects RX0 yX0_isFree yX0_isFree, Cond.code yX0_isFree cX0_isFree 2 (some .boolean), Cond.methodLink RX0 44 yX0_coversClearCells, Cond.instanceMethod yX0_coversClearCells, Cond.selects RX0 yX0_coversClearCells yX0_coversClearCells, Cond.code yX0_coversClearCells cX0_coversClearCells 4 (some .boolean), Cond.fieldLink RX0 9 "ParkWays$Car" "length" "I", Cond.fieldLink RX0 15 "ParkWays$Car" "wide" "I", Cond.methodLink RX0 48 yX0_coveredX, Cond.static yX0_coveredX, Cond.code yX0_coveredX cX0_coveredX 4 (some .int), Cond.methodLink RX0 52 yX0_coveredY, Cond.static yX0_coveredY, Cond.code yX0_coveredY cX0_coveredY 4 (some .int), Cond.methodLink RX0 55 yX1_isKeptClear, Cond.instanceMethod yX1_isKeptClear, Cond.selects RX1 yX1_isKeptClear yX1_isKeptClear, Cond.code yX1_isKeptClear cX1_isKeptClear 3 (some .boolean), Cond.methodLink RX4 141 yX3_placeBehind, Cond.instanceMethod yX3_placeBehind]
def wsL_change_r6 : List Cond := [Cond.selects RX3 yX3_placeBehind yX3_placeBehind, Cond.code yX3_placeBehind cX3_placeBehind 2 (some .int), Cond.fieldLink RX3 15 "ParkWays$Way" "places" "[I", Cond.methodLink RX4 129 yX4_plan, Cond.instanceMethod yX4_plan, Cond.selects RX4 yX4_plan yX4_plan, Cond.code yX4_plan cX4_plan 5 none, Cond.fieldLink RX4 44 "ParkWays" "search" "LParkWays$Search;", Cond.fieldLink RX4 122 "ParkWays" "goal" "I", Cond.fieldLink RX4 125 "ParkWays" "steps" "J", Cond.fieldLink RX4 132 "ParkWays" "exact" "Z", Cond.methodLink RX4 68 yX3_drop, Cond.instanceMethod yX3_drop, Cond.selects RX3 yX3_drop yX3_drop, Cond.code yX3_drop cX3_drop 1 none, Cond.fieldLink RX3 18 "ParkWays$Way" "stands" "Z", Cond.fieldLink RX3 26 "ParkWays$Way" "made" "I", Cond.methodLink RX4 197 yX2_spreadFrom, Cond.instanceMethod yX2_spreadFrom, Cond.selects RX2 yX2_spreadFrom yX2_spreadFrom, Cond.initialized RX2, Cond.code yX2_spreadFrom cX2_spreadFrom 8 none, Cond.fieldLink RX2 15 "ParkWays$Search" "cost" "[J", Cond.constantLong RX2 23 (1152921504606846976)]
def wsL_change_r7 : List Cond := [Cond.fieldLink RX2 31 "ParkWays$Search" "reached" "I", Cond.fieldLink RX2 9 "ParkWays$Search" "car" "LParkWays$Car;", Cond.fieldLink RX2 19 "ParkWays$Search" "queue" "[I", Cond.methodLink RX2 25 yJ7_fill_d0a16, Cond.static yJ7_fill_d0a16, Cond.code yJ7_fill_d0a16 cJ7_fill_d0a16 5 none, Cond.methodLink RX2 35 yX0_isFree, Cond.methodLink RX2 41 yX2_reach, Cond.instanceMethod yX2_reach, Cond.selects RX2 yX2_reach yX2_reach, Cond.code yX2_reach cX2_reach 4 none, Cond.methodLink RX2 45 yX0_landing, Cond.instanceMethod yX0_landing, Cond.selects RX0 yX0_landing yX0_landing, Cond.code yX0_landing cX0_landing 4 (some .int), Cond.methodLink RX2 49 yX2_costAt, Cond.instanceMethod yX2_costAt, Cond.selects RX2 yX2_costAt yX2_costAt, Cond.code yX2_costAt cX2_costAt 2 (some .long), Cond.methodLink RX2 53 yX2_costOf, Cond.instanceMethod yX2_costOf, Cond.selects RX2 yX2_costOf yX2_costOf, Cond.code yX2_costOf cX2_costOf 2 (some .long), Cond.constantLong RX2 60 (1099511627776)]
def wsL_change_r8 : List Cond := [Cond.constantLong RX2 66 (1048576), Cond.methodLink RX2 62 yX0_lengthOf, Cond.instanceMethod yX0_lengthOf, Cond.selects RX0 yX0_lengthOf yX0_lengthOf, Cond.code yX0_lengthOf cX0_lengthOf 2 (some .int), Cond.methodLink RX2 68 yX0_isArc, Cond.methodLink RX2 56 yX0_mayMake, Cond.methodLink RX4 200 yX2_hasReached, Cond.instanceMethod yX2_hasReached, Cond.selects RX2 yX2_hasReached yX2_hasReached, Cond.code yX2_hasReached cX2_hasReached 2 (some .boolean), Cond.methodLink RX4 203 yX2_takenBefore, Cond.instanceMethod yX2_takenBefore, Cond.selects RX2 yX2_takenBefore yX2_takenBefore, Cond.code yX2_takenBefore cX2_takenBefore 8 (some .int), Cond.methodLink RX4 209 yX2_firstMoveFrom, Cond.instanceMethod yX2_firstMoveFrom, Cond.selects RX2 yX2_firstMoveFrom yX2_firstMoveFrom, Cond.code yX2_firstMoveFrom cX2_firstMoveFrom 4 (some .int), Cond.methodLink RX4 212 yX0_landing, Cond.methodLink RX4 215 yX3_add, Cond.instanceMethod yX3_add, Cond.selects RX3 yX3_add yX3_add, Cond.code yX3_add cX3_add 3 none]
def wsL_change : List Cond := .codeWith yL_change cL_change 6 (some .int) [(0, 12, 15, 13)] :: ((wsL_change_r1 ++ (wsL_change_r2 ++ (wsL_change_r3 ++ (wsL_change_r4 ++ (wsL_change_r5 ++ (wsL_change_r6 ++ (wsL_change_r7 ++ wsL_change_r8))))))) ++ wsX40 ++ wsJx000600 ++ wsX30 ++ wsX10 ++ wsX00 ++ wsX20)
def wsL_heading : List Cond := .codeWith yL_heading cL_heading 4 (some .int) [(0, 9, 12, 13)] :: ([.methodLink RL 18 yX4_heading, .instanceMethod yX4_heading, .selects RX4 yX4_heading yX4_heading, .initialized RX4, .code yX4_heading cX4_heading 2 (some .int), .classLink RX4 61 RJx00060, .instantiable RJx00060 6, .initialized RJx00060, .methodLink RX4 75 yX4_isFrom, .static yX4_isFrom, .code yX4_isFrom cX4_isFrom 3 (some .boolean), .methodLink RX4 181 yX4_stepX, .static yX4_stepX, .code yX4_stepX cX4_stepX 1 (some .int), .fieldLink RX4 222 "ParkWays" "STEP_X" "[I", .methodLink RX4 184 yX4_stepY, .static yX4_stepY, .code yX4_stepY cX4_stepY 1 (some .int), .fieldLink RX4 226 "ParkWays" "STEP_Y" "[I"] ++ wsJx000600)
def wsL_law_r1 : List Cond := [Cond.classLink RL 8 RX4, Cond.instantiable RX4 11, Cond.initialized RX4, Cond.classLink RL 30 RX5, Cond.instantiable RX5 26, Cond.initialized RX5, Cond.arrayClass .long, Cond.constantLong RL 63 (4294967295), Cond.constantDouble RL 79 (4593671619917905920), Cond.methodLink RL 22 yL_cell, Cond.static yL_cell, Cond.initialized RL, Cond.code yL_cell cL_cell 2 (some .int), Cond.methodLink RL 27 yX4_init, Cond.instanceMethod yX4_init, Cond.code yX4_init cX4_init 4 none, Cond.methodLink RX4 1 objectInit, Cond.instanceMethod objectInit, Cond.code objectInit ⟨#[0xb1]⟩ 1 none, Cond.fieldLink RX4 7 "ParkWays" "held" "Z", Cond.classLink RX4 13 RX1, Cond.instantiable RX1 6, Cond.initialized RX1, Cond.fieldLink RX4 22 "ParkWays" "field" "LParkWays$Field;"]
def wsL_law_r2 : List Cond := [Cond.classLink RX4 26 RX0, Cond.instantiable RX0 5, Cond.initialized RX0, Cond.fieldLink RX4 31 "ParkWays" "car" "LParkWays$Car;", Cond.classLink RX4 35 RX2, Cond.instantiable RX2 4, Cond.initialized RX2, Cond.fieldLink RX4 44 "ParkWays" "search" "LParkWays$Search;", Cond.classLink RX4 48 RX3, Cond.instantiable RX3 5, Cond.initialized RX3, Cond.fieldLink RX4 53 "ParkWays" "way" "LParkWays$Way;", Cond.methodLink RX4 15 yX4_sideOf, Cond.static yX4_sideOf, Cond.code yX4_sideOf cX4_sideOf 1 (some .int), Cond.methodLink RX4 75 yX4_isFrom, Cond.static yX4_isFrom, Cond.code yX4_isFrom cX4_isFrom 3 (some .boolean), Cond.methodLink RX4 19 yX1_init, Cond.instanceMethod yX1_init, Cond.code yX1_init cX1_init 4 none, Cond.methodLink RX1 3 objectInit, Cond.fieldLink RX1 9 "ParkWays$Field" "width" "I", Cond.fieldLink RX1 15 "ParkWays$Field" "height" "I"]
def wsL_law_r3 : List Cond := [Cond.fieldLink RX1 18 "ParkWays$Field" "turn" "I", Cond.arrayClass .boolean, Cond.fieldLink RX1 21 "ParkWays$Field" "full" "[Z", Cond.arrayClass .int, Cond.fieldLink RX1 25 "ParkWays$Field" "fullWithinKeep" "[I", Cond.methodLink RX4 28 yX0_init, Cond.instanceMethod yX0_init, Cond.code yX0_init cX0_init 2 none, Cond.methodLink RX0 3 objectInit, Cond.fieldLink RX0 9 "ParkWays$Car" "length" "I", Cond.fieldLink RX0 15 "ParkWays$Car" "wide" "I", Cond.fieldLink RX0 18 "ParkWays$Car" "radius" "I", Cond.fieldLink RX0 21 "ParkWays$Car" "field" "LParkWays$Field;", Cond.fieldLink RX0 31 "ParkWays$Car" "known" "[I", Cond.methodLink RX0 25 yX1_placeRoom, Cond.instanceMethod yX1_placeRoom, Cond.selects RX1 yX1_placeRoom yX1_placeRoom, Cond.code yX1_placeRoom cX1_placeRoom 1 (some .int), Cond.methodLink RX4 37 yX1_placeRoom, Cond.methodLink RX4 41 yX2_init, Cond.instanceMethod yX2_init, Cond.code yX2_init cX2_init 3 none, Cond.methodLink RX2 3 objectInit, Cond.fieldLink RX2 9 "ParkWays$Search" "car" "LParkWays$Car;"]
def wsL_law_r4 : List Cond := [Cond.fieldLink RX2 15 "ParkWays$Search" "cost" "[J", Cond.fieldLink RX2 19 "ParkWays$Search" "queue" "[I", Cond.methodLink RX4 50 yX3_init, Cond.instanceMethod yX3_init, Cond.code yX3_init cX3_init 2 none, Cond.methodLink RX3 3 objectInit, Cond.fieldLink RX3 9 "ParkWays$Way" "moves" "[I", Cond.fieldLink RX3 15 "ParkWays$Way" "places" "[I", Cond.methodLink RL 32 yX5_init, Cond.instanceMethod yX5_init, Cond.code yX5_init cX5_init 4 none, Cond.methodLink RX5 1 objectInit, Cond.fieldLink RX5 7 "ParkWaysModel" "full" "[Z", Cond.fieldLink RX5 13 "ParkWaysModel" "length" "I", Cond.fieldLink RX5 17 "ParkWaysModel" "wide" "I", Cond.fieldLink RX5 20 "ParkWaysModel" "radius" "I", Cond.fieldLink RX5 23 "ParkWaysModel" "held" "Z", Cond.fieldLink RX5 27 "ParkWaysModel" "number" "[I", Cond.fieldLink RX5 31 "ParkWaysModel" "behind" "[I", Cond.fieldLink RX5 34 "ParkWaysModel" "far" "[I", Cond.fieldLink RX5 37 "ParkWaysModel" "cost" "[I", Cond.fieldLink RX5 40 "ParkWaysModel" "free" "[Z", Cond.fieldLink RX5 43 "ParkWaysModel" "row" "[I", Cond.fieldLink RX5 46 "ParkWaysModel" "near" "[I"]
def wsL_law_r5 : List Cond := [Cond.fieldLink RX5 49 "ParkWaysModel" "width" "I", Cond.fieldLink RX5 52 "ParkWaysModel" "height" "I", Cond.fieldLink RX5 55 "ParkWaysModel" "four" "Z", Cond.methodLink RL 33 yL_cell_, Cond.static yL_cell_, Cond.codeWith yL_cell_ cL_cell_ 6 (some .int) [(0, 12, 15, 13)], Cond.methodLink RL 7 yX4_cell, Cond.instanceMethod yX4_cell, Cond.selects RX4 yX4_cell yX4_cell, Cond.code yX4_cell cX4_cell 4 (some .int), Cond.classLink RX4 61 RJx00060, Cond.instantiable RJx00060 6, Cond.initialized RJx00060, Cond.methodLink RX4 57 yX1_hasCell, Cond.instanceMethod yX1_hasCell, Cond.selects RX1 yX1_hasCell yX1_hasCell, Cond.code yX1_hasCell cX1_hasCell 3 (some .boolean), Cond.methodLink RX4 68 yX3_drop, Cond.instanceMethod yX3_drop, Cond.selects RX3 yX3_drop yX3_drop, Cond.code yX3_drop cX3_drop 1 none, Cond.fieldLink RX3 18 "ParkWays$Way" "stands" "Z", Cond.fieldLink RX3 22 "ParkWays$Way" "count" "I", Cond.fieldLink RX3 26 "ParkWays$Way" "made" "I"]
def wsL_law_r6 : List Cond := [Cond.methodLink RX4 71 yX4_setCell, Cond.instanceMethod yX4_setCell, Cond.selects RX4 yX4_setCell yX4_setCell, Cond.code yX4_setCell cX4_setCell 5 (some .boolean), Cond.methodLink RX4 187 yX1_setFull, Cond.instanceMethod yX1_setFull, Cond.selects RX1 yX1_setFull yX1_setFull, Cond.code yX1_setFull cX1_setFull 4 (some .boolean), Cond.methodLink RX1 33 yX1_hasCell, Cond.static yX4_cellAt, Cond.code yX4_cellAt cX4_cellAt 2 (some .int), Cond.methodLink RX1 41 yX1_countAround, Cond.instanceMethod yX1_countAround, Cond.selects RX1 yX1_countAround yX1_countAround, Cond.code yX1_countAround cX1_countAround 6 none, Cond.fieldLink RX1 45 "ParkWays$Field" "keep" "I", Cond.methodLink RX4 89 yX0_forget, Cond.instanceMethod yX0_forget, Cond.selects RX0 yX0_forget yX0_forget, Cond.code yX0_forget cX0_forget 1 none, Cond.methodLink RX0 38 yJ7_fill_53178, Cond.static yJ7_fill_53178, Cond.initialized RJ7, Cond.code yJ7_fill_53178 cJ7_fill_53178 4 none]
def wsL_law_r7 : List Cond := [Cond.methodLink RL 36 yX5_cell, Cond.instanceMethod yX5_cell, Cond.selects RX5 yX5_cell yX5_cell, Cond.code yX5_cell cX5_cell 5 (some .int), Cond.fieldLink RX5 58 "ParkWaysModel" "code" "I", Cond.fieldLink RX5 118 "ParkWaysModel" "isWay" "Z", Cond.methodLink RX5 146 yX5_set, Cond.instanceMethod yX5_set, Cond.selects RX5 yX5_set yX5_set, Cond.code yX5_set cX5_set 5 (some .boolean), Cond.methodLink RX5 61 yX5_isCell, Cond.instanceMethod yX5_isCell, Cond.selects RX5 yX5_isCell yX5_isCell, Cond.code yX5_isCell cX5_isCell 3 (some .boolean), Cond.methodLink RL 37 yX5_thrown, Cond.instanceMethod yX5_thrown, Cond.selects RX5 yX5_thrown yX5_thrown, Cond.code yX5_thrown cX5_thrown 1 (some .int), Cond.methodLink RL 41 yX4_car, Cond.instanceMethod yX4_car, Cond.selects RX4 yX4_car yX4_car, Cond.code yX4_car cX4_car 4 (some .int), Cond.methodLink RX4 79 yX0_build, Cond.instanceMethod yX0_build]
def wsL_law_r8 : List Cond := [Cond.selects RX0 yX0_build yX0_build, Cond.code yX0_build cX0_build 4 none, Cond.methodLink RX0 35 yX0_forget, Cond.methodLink RL 45 yX5_car, Cond.instanceMethod yX5_car, Cond.selects RX5 yX5_car yX5_car, Cond.code yX5_car cX5_car 4 (some .int), Cond.methodLink RL 46 yX4_keep, Cond.instanceMethod yX4_keep, Cond.selects RX4 yX4_keep yX4_keep, Cond.code yX4_keep cX4_keep 3 (some .int), Cond.methodLink RX4 86 yX1_setKeep, Cond.instanceMethod yX1_setKeep, Cond.selects RX1 yX1_setKeep yX1_setKeep, Cond.code yX1_setKeep cX1_setKeep 4 none, Cond.methodLink RX1 48 yJ7_fill_53178, Cond.methodLink RX1 54 yX1_isFull, Cond.instanceMethod yX1_isFull, Cond.selects RX1 yX1_isFull yX1_isFull, Cond.code yX1_isFull cX1_isFull 3 (some .boolean), Cond.methodLink RL 49 yX5_keep, Cond.instanceMethod yX5_keep, Cond.selects RX5 yX5_keep yX5_keep, Cond.code yX5_keep cX5_keep 3 (some .int)]
def wsL_law_r9 : List Cond := [Cond.fieldLink RX5 80 "ParkWaysModel" "keep" "I", Cond.methodLink RL 50 yX4_stand, Cond.instanceMethod yX4_stand, Cond.selects RX4 yX4_stand yX4_stand, Cond.code yX4_stand cX4_stand 5 (some .int), Cond.fieldLink RX4 103 "ParkWays" "place" "I", Cond.fieldLink RX4 106 "ParkWays" "home" "I", Cond.methodLink RX4 92 yX1_hasHeading, Cond.instanceMethod yX1_hasHeading, Cond.selects RX1 yX1_hasHeading yX1_hasHeading, Cond.code yX1_hasHeading cX1_hasHeading 2 (some .boolean), Cond.methodLink RX4 96 yX4_placeAt, Cond.static yX4_placeAt, Cond.code yX4_placeAt cX4_placeAt 3 (some .int), Cond.methodLink RX4 219 yX4_cellAt, Cond.methodLink RX4 100 yX0_isFree, Cond.instanceMethod yX0_isFree, Cond.selects RX0 yX0_isFree yX0_isFree, Cond.code yX0_isFree cX0_isFree 2 (some .boolean), Cond.methodLink RX0 44 yX0_coversClearCells, Cond.instanceMethod yX0_coversClearCells, Cond.selects RX0 yX0_coversClearCells yX0_coversClearCells, Cond.code yX0_coversClearCells cX0_coversClearCells 4 (some .boolean), Cond.methodLink RX0 48 yX0_coveredX]
def wsL_law_r10 : List Cond := [Cond.static yX0_coveredX, Cond.code yX0_coveredX cX0_coveredX 4 (some .int), Cond.static yX4_headingOf, Cond.code yX4_headingOf cX4_headingOf 1 (some .int), Cond.static yX4_xOf, Cond.code yX4_xOf cX4_xOf 1 (some .int), Cond.static yX4_stepX, Cond.code yX4_stepX cX4_stepX 1 (some .int), Cond.fieldLink RX4 222 "ParkWays" "STEP_X" "[I", Cond.methodLink RX0 52 yX0_coveredY, Cond.static yX0_coveredY, Cond.code yX0_coveredY cX0_coveredY 4 (some .int), Cond.static yX4_yOf, Cond.code yX4_yOf cX4_yOf 1 (some .int), Cond.static yX4_stepY, Cond.code yX4_stepY cX4_stepY 1 (some .int), Cond.fieldLink RX4 226 "ParkWays" "STEP_Y" "[I", Cond.methodLink RX0 55 yX1_isKeptClear, Cond.instanceMethod yX1_isKeptClear, Cond.selects RX1 yX1_isKeptClear yX1_isKeptClear, Cond.code yX1_isKeptClear cX1_isKeptClear 3 (some .boolean), Cond.methodLink RL 53 yX5_stand, Cond.instanceMethod yX5_stand, Cond.selects RX5 yX5_stand yX5_stand]
def wsL_law_r11 : List Cond := [Cond.code yX5_stand cX5_stand 4 (some .int), Cond.fieldLink RX5 128 "ParkWaysModel" "car" "I", Cond.fieldLink RX5 150 "ParkWaysModel" "home" "I", Cond.methodLink RX5 95 yX5_isHeading, Cond.instanceMethod yX5_isHeading, Cond.selects RX5 yX5_isHeading yX5_isHeading, Cond.code yX5_isHeading cX5_isHeading 2 (some .boolean), Cond.methodLink RX5 92 yX5_findNear, Cond.instanceMethod yX5_findNear, Cond.selects RX5 yX5_findNear yX5_findNear, Cond.code yX5_findNear cX5_findNear 3 none, Cond.methodLink RX5 65 yX5_distance, Cond.instanceMethod yX5_distance, Cond.selects RX5 yX5_distance yX5_distance, Cond.code yX5_distance cX5_distance 9 (some .int), Cond.methodLink RX5 99 yX5_isFree, Cond.instanceMethod yX5_isFree, Cond.selects RX5 yX5_isFree yX5_isFree, Cond.code yX5_isFree cX5_isFree 4 (some .boolean), Cond.methodLink RX5 76 yX5_clear, Cond.instanceMethod yX5_clear, Cond.selects RX5 yX5_clear yX5_clear, Cond.code yX5_clear cX5_clear 11 (some .int), Cond.methodLink RX5 69 yX5_dx]
def wsL_law_r12 : List Cond := [Cond.static yX5_dx, Cond.code yX5_dx cX5_dx 1 (some .int), Cond.methodLink RX5 73 yX5_dy, Cond.static yX5_dy, Cond.code yX5_dy cX5_dy 1 (some .int), Cond.methodLink RX5 89 yX5_place, Cond.static yX5_place, Cond.code yX5_place cX5_place 3 (some .int), Cond.methodLink RL 54 yX4_space, Cond.instanceMethod yX4_space, Cond.selects RX4 yX4_space yX4_space, Cond.code yX4_space cX4_space 5 (some .int), Cond.fieldLink RX4 122 "ParkWays" "goal" "I", Cond.methodLink RX4 115 yX1_firstRun, Cond.instanceMethod yX1_firstRun, Cond.selects RX1 yX1_firstRun yX1_firstRun, Cond.code yX1_firstRun cX1_firstRun 4 (some .int), Cond.methodLink RX1 57 yX1_runLength, Cond.instanceMethod yX1_runLength, Cond.selects RX1 yX1_runLength yX1_runLength, Cond.code yX1_runLength cX1_runLength 5 (some .int), Cond.methodLink RX4 119 yX1_runLength, Cond.methodLink RL 58 yX5_space, Cond.instanceMethod yX5_space]
def wsL_law_r13 : List Cond := [Cond.selects RX5 yX5_space yX5_space, Cond.code yX5_space cX5_space 6 (some .int), Cond.fieldLink RX5 109 "ParkWaysModel" "goal" "I", Cond.methodLink RL 59 yX4_out, Cond.instanceMethod yX4_out, Cond.selects RX4 yX4_out yX4_out, Cond.code yX4_out cX4_out 1 (some .int), Cond.methodLink RL 62 yX5_out, Cond.instanceMethod yX5_out, Cond.selects RX5 yX5_out yX5_out, Cond.code yX5_out cX5_out 1 (some .int), Cond.methodLink RL 65 yX4_way, Cond.instanceMethod yX4_way, Cond.selects RX4 yX4_way yX4_way, Cond.code yX4_way cX4_way 3 (some .int), Cond.fieldLink RX4 125 "ParkWays" "steps" "J", Cond.fieldLink RX4 132 "ParkWays" "exact" "Z", Cond.methodLink RX4 129 yX4_plan, Cond.instanceMethod yX4_plan, Cond.selects RX4 yX4_plan yX4_plan, Cond.code yX4_plan cX4_plan 5 none, Cond.methodLink RX4 197 yX2_spreadFrom, Cond.instanceMethod yX2_spreadFrom, Cond.selects RX2 yX2_spreadFrom yX2_spreadFrom]
def wsL_law_r14 : List Cond := [Cond.code yX2_spreadFrom cX2_spreadFrom 8 none, Cond.constantLong RX2 23 (1152921504606846976), Cond.fieldLink RX2 31 "ParkWays$Search" "reached" "I", Cond.methodLink RX2 25 yJ7_fill_d0a16, Cond.static yJ7_fill_d0a16, Cond.code yJ7_fill_d0a16 cJ7_fill_d0a16 5 none, Cond.methodLink RX2 35 yX0_isFree, Cond.methodLink RX2 41 yX2_reach, Cond.instanceMethod yX2_reach, Cond.selects RX2 yX2_reach yX2_reach, Cond.code yX2_reach cX2_reach 4 none, Cond.methodLink RX2 45 yX0_landing, Cond.instanceMethod yX0_landing, Cond.selects RX0 yX0_landing yX0_landing, Cond.code yX0_landing cX0_landing 4 (some .int), Cond.methodLink RX0 78 yX0_senseOf, Cond.static yX0_senseOf, Cond.code yX0_senseOf cX0_senseOf 1 (some .int), Cond.methodLink RX0 81 yX0_isArc, Cond.static yX0_isArc, Cond.code yX0_isArc cX0_isArc 1 (some .boolean), Cond.methodLink RX0 84 yX0_shifted, Cond.instanceMethod yX0_shifted, Cond.selects RX0 yX0_shifted yX0_shifted]
def wsL_law_r15 : List Cond := [Cond.code yX0_shifted cX0_shifted 6 (some .int), Cond.methodLink RX0 94 yX1_hasCell, Cond.methodLink RX0 88 yX0_turned, Cond.instanceMethod yX0_turned, Cond.selects RX0 yX0_turned yX0_turned, Cond.code yX0_turned cX0_turned 4 (some .int), Cond.methodLink RX2 49 yX2_costAt, Cond.instanceMethod yX2_costAt, Cond.selects RX2 yX2_costAt yX2_costAt, Cond.code yX2_costAt cX2_costAt 2 (some .long), Cond.methodLink RX2 53 yX2_costOf, Cond.instanceMethod yX2_costOf, Cond.selects RX2 yX2_costOf yX2_costOf, Cond.code yX2_costOf cX2_costOf 2 (some .long), Cond.constantLong RX2 60 (1099511627776), Cond.constantLong RX2 66 (1048576), Cond.methodLink RX2 62 yX0_lengthOf, Cond.instanceMethod yX0_lengthOf, Cond.selects RX0 yX0_lengthOf yX0_lengthOf, Cond.code yX0_lengthOf cX0_lengthOf 2 (some .int), Cond.methodLink RX2 68 yX0_isArc, Cond.methodLink RX2 56 yX0_mayMake, Cond.instanceMethod yX0_mayMake, Cond.selects RX0 yX0_mayMake yX0_mayMake]
def wsL_law_r16 : List Cond := [Cond.code yX0_mayMake cX0_mayMake 7 (some .boolean), Cond.methodLink RX0 91 yX0_isFree, Cond.methodLink RX4 200 yX2_hasReached, Cond.instanceMethod yX2_hasReached, Cond.selects RX2 yX2_hasReached yX2_hasReached, Cond.code yX2_hasReached cX2_hasReached 2 (some .boolean), Cond.methodLink RX4 203 yX2_takenBefore, Cond.instanceMethod yX2_takenBefore, Cond.selects RX2 yX2_takenBefore yX2_takenBefore, Cond.code yX2_takenBefore cX2_takenBefore 8 (some .int), Cond.methodLink RX4 209 yX2_firstMoveFrom, Cond.instanceMethod yX2_firstMoveFrom, Cond.selects RX2 yX2_firstMoveFrom yX2_firstMoveFrom, Cond.code yX2_firstMoveFrom cX2_firstMoveFrom 4 (some .int), Cond.methodLink RX4 212 yX0_landing, Cond.methodLink RX4 215 yX3_add, Cond.instanceMethod yX3_add, Cond.selects RX3 yX3_add yX3_add, Cond.code yX3_add cX3_add 3 none, Cond.methodLink RL 69 yX5_way, Cond.instanceMethod yX5_way, Cond.selects RX5 yX5_way yX5_way, Cond.code yX5_way cX5_way 4 (some .int), Cond.fieldLink RX5 137 "ParkWaysModel" "moves" "I"]
def wsL_law_r17 : List Cond := [Cond.methodLink RX5 153 yX5_search, Cond.instanceMethod yX5_search, Cond.selects RX5 yX5_search yX5_search, Cond.code yX5_search cX5_search 7 (some .int), Cond.fieldLink RX5 121 "ParkWaysModel" "lastSteps" "J", Cond.constant RX5 108 (1000000000), Cond.fieldLink RX5 134 "ParkWaysModel" "exact" "Z", Cond.fieldLink RX5 140 "ParkWaysModel" "made" "I", Cond.methodLink RX5 125 yX5_findCosts, Cond.instanceMethod yX5_findCosts, Cond.selects RX5 yX5_findCosts yX5_findCosts, Cond.code yX5_findCosts cX5_findCosts 7 none, Cond.methodLink RX5 105 yX5_findFree, Cond.instanceMethod yX5_findFree, Cond.selects RX5 yX5_findFree yX5_findFree, Cond.code yX5_findFree cX5_findFree 4 none, Cond.methodLink RX5 112 yX5_moved, Cond.instanceMethod yX5_moved, Cond.selects RX5 yX5_moved yX5_moved, Cond.code yX5_moved cX5_moved 10 (some .int), Cond.methodLink RX5 83 yX5_xOf, Cond.static yX5_xOf, Cond.code yX5_xOf cX5_xOf 1 (some .int), Cond.methodLink RX5 86 yX5_yOf]
def wsL_law_r18 : List Cond := [Cond.static yX5_yOf, Cond.code yX5_yOf cX5_yOf 1 (some .int), Cond.methodLink RX5 115 yX5_more, Cond.instanceMethod yX5_more, Cond.selects RX5 yX5_more yX5_more, Cond.code yX5_more cX5_more 2 (some .int), Cond.constant RX5 103 (100000), Cond.constant RX5 104 (200000), Cond.methodLink RX5 131 yX5_before, Cond.instanceMethod yX5_before, Cond.selects RX5 yX5_before yX5_before, Cond.code yX5_before cX5_before 5 (some .int), Cond.methodLink RX5 143 yX5_leads, Cond.instanceMethod yX5_leads, Cond.selects RX5 yX5_leads yX5_leads, Cond.code yX5_leads cX5_leads 4 (some .boolean), Cond.methodLink RL 70 yX4_move, Cond.instanceMethod yX4_move, Cond.selects RX4 yX4_move yX4_move, Cond.code yX4_move cX4_move 4 (some .int), Cond.methodLink RX4 138 yX3_hasMove, Cond.instanceMethod yX3_hasMove, Cond.selects RX3 yX3_hasMove yX3_hasMove, Cond.code yX3_hasMove cX3_hasMove 2 (some .boolean)]
def wsL_law_r19 : List Cond := [Cond.methodLink RX4 141 yX3_placeBehind, Cond.instanceMethod yX3_placeBehind, Cond.selects RX3 yX3_placeBehind yX3_placeBehind, Cond.code yX3_placeBehind cX3_placeBehind 2 (some .int), Cond.methodLink RX3 29 yX3_hasMove, Cond.methodLink RX4 144 yX3_moveAt, Cond.instanceMethod yX3_moveAt, Cond.selects RX3 yX3_moveAt yX3_moveAt, Cond.code yX3_moveAt cX3_moveAt 2 (some .int), Cond.methodLink RX4 147 yX4_xOf, Cond.methodLink RX4 150 yX4_yOf, Cond.methodLink RX4 153 yX4_headingOf, Cond.methodLink RL 73 yX5_move, Cond.instanceMethod yX5_move, Cond.selects RX5 yX5_move yX5_move, Cond.code yX5_move cX5_move 4 (some .int), Cond.methodLink RL 74 yX4_exact, Cond.instanceMethod yX4_exact, Cond.selects RX4 yX4_exact yX4_exact, Cond.code yX4_exact cX4_exact 1 (some .boolean), Cond.methodLink RL 78 yX5_exact, Cond.instanceMethod yX5_exact, Cond.selects RX5 yX5_exact yX5_exact, Cond.code yX5_exact cX5_exact 1 (some .boolean)]
def wsL_law_r20 : List Cond := [Cond.methodLink RL 81 yX4_follow, Cond.instanceMethod yX4_follow, Cond.selects RX4 yX4_follow yX4_follow, Cond.code yX4_follow cX4_follow 6 (some .int), Cond.constantDouble RX4 156 (13830554455654793216), Cond.methodLink RX4 164 yX4_addToError, Cond.instanceMethod yX4_addToError, Cond.selects RX4 yX4_addToError yX4_addToError, Cond.code yX4_addToError cX4_addToError 3 none, Cond.fieldLink RX4 168 "ParkWays" "error" "D", Cond.constantDouble RX4 190 (4602678819172646912), Cond.constantDouble RX4 192 (13826050856027422720), Cond.methodLink RL 85 yX5_follow, Cond.instanceMethod yX5_follow, Cond.selects RX5 yX5_follow yX5_follow, Cond.code yX5_follow cX5_follow 5 (some .int), Cond.constantDouble RX5 157 (13830554455654793216), Cond.fieldLink RX5 159 "ParkWaysModel" "error" "D", Cond.constantDouble RX5 163 (4602678819172646912), Cond.constantDouble RX5 165 (13826050856027422720), Cond.methodLink RL 86 yX4_error, Cond.instanceMethod yX4_error, Cond.selects RX4 yX4_error yX4_error, Cond.code yX4_error cX4_error 1 (some .double)]
def wsL_law_r21 : List Cond := [Cond.methodLink RL 90 yX5_error, Cond.instanceMethod yX5_error, Cond.selects RX5 yX5_error yX5_error, Cond.code yX5_error cX5_error 1 (some .double), Cond.methodLink RL 91 yL_change, Cond.static yL_change, Cond.codeWith yL_change cL_change 6 (some .int) [(0, 12, 15, 13)], Cond.methodLink RL 15 yX4_change, Cond.instanceMethod yX4_change, Cond.selects RX4 yX4_change yX4_change, Cond.code yX4_change cX4_change 4 (some .int), Cond.methodLink RX4 172 yX4_movesLeftMayBeMade, Cond.instanceMethod yX4_movesLeftMayBeMade, Cond.selects RX4 yX4_movesLeftMayBeMade yX4_movesLeftMayBeMade, Cond.code yX4_movesLeftMayBeMade cX4_movesLeftMayBeMade 3 (some .boolean), Cond.methodLink RX4 194 yX0_mayMake, Cond.methodLink RL 93 yX5_change, Cond.instanceMethod yX5_change, Cond.selects RX5 yX5_change yX5_change, Cond.code yX5_change cX5_change 8 (some .int), Cond.methodLink RL 94 yX4_release, Cond.instanceMethod yX4_release, Cond.selects RX4 yX4_release yX4_release, Cond.code yX4_release cX4_release 3 (some .int)]
def wsL_law_r22 : List Cond := [Cond.methodLink RL 98 yX5_release, Cond.instanceMethod yX5_release, Cond.selects RX5 yX5_release yX5_release, Cond.code yX5_release cX5_release 3 (some .int), Cond.methodLink RL 99 yX4_margin, Cond.instanceMethod yX4_margin, Cond.selects RX4 yX4_margin yX4_margin, Cond.code yX4_margin cX4_margin 2 (some .int), Cond.methodLink RX4 176 yX0_marginAt, Cond.instanceMethod yX0_marginAt, Cond.selects RX0 yX0_marginAt yX0_marginAt, Cond.code yX0_marginAt cX0_marginAt 5 (some .int), Cond.methodLink RX0 59 yX1_distanceToFull, Cond.instanceMethod yX1_distanceToFull, Cond.selects RX1 yX1_distanceToFull yX1_distanceToFull, Cond.code yX1_distanceToFull cX1_distanceToFull 7 (some .int), Cond.methodLink RX1 60 Lib.Math.abs.name, Cond.static Lib.Math.abs.name, Cond.initialized "java/lang/Math", Cond.code Lib.Math.abs.name Lib.Math.abs.code 1 (some .int), Cond.methodLink RX1 66 Lib.Math.max.name, Cond.static Lib.Math.max.name, Cond.code Lib.Math.max.name Lib.Math.max.code 2 (some .int), Cond.methodLink RX1 69 Lib.Math.min.name]
def wsL_law_r23 : List Cond := [Cond.static Lib.Math.min.name, Cond.code Lib.Math.min.name Lib.Math.min.code 2 (some .int), Cond.methodLink RL 102 yX5_margin, Cond.instanceMethod yX5_margin, Cond.selects RX5 yX5_margin yX5_margin, Cond.code yX5_margin cX5_margin 3 (some .int), Cond.methodLink RL 103 yL_heading, Cond.static yL_heading, Cond.codeWith yL_heading cL_heading 4 (some .int) [(0, 9, 12, 13)], Cond.methodLink RL 18 yX4_heading, Cond.instanceMethod yX4_heading, Cond.selects RX4 yX4_heading yX4_heading, Cond.code yX4_heading cX4_heading 2 (some .int), Cond.methodLink RX4 181 yX4_stepX, Cond.methodLink RX4 184 yX4_stepY, Cond.methodLink RL 106 yX5_heading, Cond.instanceMethod yX5_heading, Cond.selects RX5 yX5_heading yX5_heading, Cond.code yX5_heading cX5_heading 2 (some .int)]
def wsL_law : List Cond := (wsL_law_r1 ++ (wsL_law_r2 ++ (wsL_law_r3 ++ (wsL_law_r4 ++ (wsL_law_r5 ++ (wsL_law_r6 ++ (wsL_law_r7 ++ (wsL_law_r8 ++ (wsL_law_r9 ++ (wsL_law_r10 ++ (wsL_law_r11 ++ (wsL_law_r12 ++ (wsL_law_r13 ++ (wsL_law_r14 ++ (wsL_law_r15 ++ (wsL_law_r16 ++ (wsL_law_r17 ++ (wsL_law_r18 ++ (wsL_law_r19 ++ (wsL_law_r20 ++ (wsL_law_r21 ++ (wsL_law_r22 ++ wsL_law_r23)))))))))))))))))))))) ++ wsX40 ++ wsX50 ++ wsX10 ++ wsX00 ++ wsX20 ++ wsX30 ++ wsJx000600 ++ ([] : List Cond)
set_option maxRecDepth 20000 in
theorem ggX0_init_X1_placeRoom : GoodIn wsX0_init wsX1_placeRoom := goodIn_r _ [14, 15, 21, 22, 23, 24, 25, 26] (by decide +kernel) (by decide +kernel)
set_option maxRecDepth 20000 in
theorem gX0_init_X1_placeRoom : GoodIn wsX0_init (wsV RX0 25 RX1 yX1_placeRoom wsX1_placeRoom) := goodIn_app (goodIn_of _ (by decide +kernel)) ggX0_init_X1_placeRoom
theorem dX0_init_0 : decode cX0_init 0 = .ok (.aload_n 0, 1) := by decide +kernel
theorem dX0_init_1 : decode cX0_init 1 = .ok (.invokespecial 3, 3) := by decide +kernel
theorem dX0_init_4 : decode cX0_init 4 = .ok (.aload_n 0, 1) := by decide +kernel
theorem dX0_init_5 : decode cX0_init 5 = .ok (.iconst 1, 1) := by decide +kernel
theorem dX0_init_6 : decode cX0_init 6 = .ok (.putfield 9, 3) := by decide +kernel
theorem dX0_init_9 : decode cX0_init 9 = .ok (.aload_n 0, 1) := by decide +kernel
theorem dX0_init_10 : decode cX0_init 10 = .ok (.iconst 1, 1) := by decide +kernel
theorem dX0_init_11 : decode cX0_init 11 = .ok (.putfield 15, 3) := by decide +kernel
theorem dX0_init_14 : decode cX0_init 14 = .ok (.aload_n 0, 1) := by decide +kernel
theorem dX0_init_15 : decode cX0_init 15 = .ok (.iconst 1, 1) := by decide +kernel
theorem dX0_init_16 : decode cX0_init 16 = .ok (.putfield 18, 3) := by decide +kernel
theorem dX0_init_19 : decode cX0_init 19 = .ok (.aload_n 0, 1) := by decide +kernel
theorem dX0_init_20 : decode cX0_init 20 = .ok (.aload_n 1, 1) := by decide +kernel
theorem dX0_init_21 : decode cX0_init 21 = .ok (.putfield 21, 3) := by decide +kernel
theorem dX0_init_24 : decode cX0_init 24 = .ok (.aload_n 0, 1) := by decide +kernel
theorem dX0_init_25 : decode cX0_init 25 = .ok (.aload_n 1, 1) := by decide +kernel
theorem dX0_init_26 : decode cX0_init 26 = .ok (.invokevirtual 25, 3) := by decide +kernel
theorem dX0_init_29 : decode cX0_init 29 = .ok (.newarray .int, 2) := by decide +kernel
theorem dX0_init_31 : decode cX0_init 31 = .ok (.putfield 31, 3) := by decide +kernel
theorem dX0_init_34 : decode cX0_init 34 = .ok (.return_, 1) := by decide +kernel
set_option maxRecDepth 20000 in
theorem ggX0_build_X0_forget : GoodIn wsX0_build wsX0_forget := goodIn_r _ [8, 9, 10, 11, 12, 13, 14, 15, 16, 17, 18] (by decide +kernel) (by decide +kernel)
set_option maxRecDepth 20000 in
theorem gX0_build_X0_forget : GoodIn wsX0_build (wsV RX0 35 RX0 yX0_forget wsX0_forget) := goodIn_app (goodIn_of _ (by decide +kernel)) ggX0_build_X0_forget
theorem dX0_build_0 : decode cX0_build 0 = .ok (.aload_n 0, 1) := by decide +kernel
theorem dX0_build_1 : decode cX0_build 1 = .ok (.iload_n 1, 1) := by decide +kernel
theorem dX0_build_2 : decode cX0_build 2 = .ok (.putfield 9, 3) := by decide +kernel
theorem dX0_build_5 : decode cX0_build 5 = .ok (.aload_n 0, 1) := by decide +kernel
theorem dX0_build_6 : decode cX0_build 6 = .ok (.iload_n 2, 1) := by decide +kernel
theorem dX0_build_7 : decode cX0_build 7 = .ok (.putfield 15, 3) := by decide +kernel
theorem dX0_build_10 : decode cX0_build 10 = .ok (.aload_n 0, 1) := by decide +kernel
theorem dX0_build_11 : decode cX0_build 11 = .ok (.iload_n 3, 1) := by decide +kernel
theorem dX0_build_12 : decode cX0_build 12 = .ok (.putfield 18, 3) := by decide +kernel
theorem dX0_build_15 : decode cX0_build 15 = .ok (.aload_n 0, 1) := by decide +kernel
theorem dX0_build_16 : decode cX0_build 16 = .ok (.invokevirtual 35, 3) := by decide +kernel
theorem dX0_build_19 : decode cX0_build 19 = .ok (.return_, 1) := by decide +kernel
set_option maxRecDepth 20000 in
theorem ggX0_forget_J7_fill_53178 : GoodIn wsX0_forget wsJ7_fill_53178 := goodIn_r _ [5] (by decide +kernel) (by decide +kernel)
set_option maxRecDepth 20000 in
theorem gX0_forget_J7_fill_53178 : GoodIn wsX0_forget (va_wsS RX0 38 yJ7_fill_53178 wsJ7_fill_53178) := goodIn_app (goodIn_of _ (by decide +kernel)) ggX0_forget_J7_fill_53178
theorem dX0_forget_0 : decode cX0_forget 0 = .ok (.aload_n 0, 1) := by decide +kernel
theorem dX0_forget_1 : decode cX0_forget 1 = .ok (.getfield 31, 3) := by decide +kernel
theorem dX0_forget_4 : decode cX0_forget 4 = .ok (.iconst 0, 1) := by decide +kernel
theorem dX0_forget_5 : decode cX0_forget 5 = .ok (.invokestatic 38, 3) := by decide +kernel
theorem dX0_forget_8 : decode cX0_forget 8 = .ok (.return_, 1) := by decide +kernel
set_option maxRecDepth 20000 in
theorem ggX0_isFree_X0_coversClearCells : GoodIn wsX0_isFree wsX0_coversClearCells := goodIn_r _ [6, 7, 8, 9, 10, 11, 5, 12, 13, 14, 15, 16, 17, 18, 19, 20, 21, 22, 23, 24, 25, 26, 27, 28, 29, 30, 31, 32, 33, 34, 35, 36, 37, 38, 39, 40, 41, 42, 43, 44, 45, 46, 47, 48, 49, 50, 51, 52, 53] (by decide +kernel) (by decide +kernel)
set_option maxRecDepth 20000 in
theorem gX0_isFree_X0_coversClearCells : GoodIn wsX0_isFree (wsV RX0 44 RX0 yX0_coversClearCells wsX0_coversClearCells) := goodIn_app (goodIn_of _ (by decide +kernel)) ggX0_isFree_X0_coversClearCells
theorem dX0_isFree_0 : decode cX0_isFree 0 = .ok (.iload_n 1, 1) := by decide +kernel
theorem dX0_isFree_1 : decode cX0_isFree 1 = .ok (.ifCond .lt 12, 3) := by decide +kernel
theorem dX0_isFree_4 : decode cX0_isFree 4 = .ok (.iload_n 1, 1) := by decide +kernel
theorem dX0_isFree_5 : decode cX0_isFree 5 = .ok (.aload_n 0, 1) := by decide +kernel
theorem dX0_isFree_6 : decode cX0_isFree 6 = .ok (.getfield 31, 3) := by decide +kernel
theorem dX0_isFree_9 : decode cX0_isFree 9 = .ok (.arraylength, 1) := by decide +kernel
theorem dX0_isFree_10 : decode cX0_isFree 10 = .ok (.if_icmp .lt 5, 3) := by decide +kernel
theorem dX0_isFree_13 : decode cX0_isFree 13 = .ok (.iconst 0, 1) := by decide +kernel
theorem dX0_isFree_14 : decode cX0_isFree 14 = .ok (.ireturn, 1) := by decide +kernel
theorem dX0_isFree_15 : decode cX0_isFree 15 = .ok (.aload_n 0, 1) := by decide +kernel
theorem dX0_isFree_16 : decode cX0_isFree 16 = .ok (.getfield 31, 3) := by decide +kernel
theorem dX0_isFree_19 : decode cX0_isFree 19 = .ok (.iload_n 1, 1) := by decide +kernel
theorem dX0_isFree_20 : decode cX0_isFree 20 = .ok (.iaload, 1) := by decide +kernel
theorem dX0_isFree_21 : decode cX0_isFree 21 = .ok (.ifCond .ne 22, 3) := by decide +kernel
theorem dX0_isFree_24 : decode cX0_isFree 24 = .ok (.aload_n 0, 1) := by decide +kernel
theorem dX0_isFree_25 : decode cX0_isFree 25 = .ok (.getfield 31, 3) := by decide +kernel
theorem dX0_isFree_28 : decode cX0_isFree 28 = .ok (.iload_n 1, 1) := by decide +kernel
theorem dX0_isFree_29 : decode cX0_isFree 29 = .ok (.aload_n 0, 1) := by decide +kernel
theorem dX0_isFree_30 : decode cX0_isFree 30 = .ok (.iload_n 1, 1) := by decide +kernel
theorem dX0_isFree_31 : decode cX0_isFree 31 = .ok (.invokevirtual 44, 3) := by decide +kernel
theorem dX0_isFree_34 : decode cX0_isFree 34 = .ok (.ifCond .eq 7, 3) := by decide +kernel
theorem dX0_isFree_37 : decode cX0_isFree 37 = .ok (.iconst 1, 1) := by decide +kernel
theorem dX0_isFree_38 : decode cX0_isFree 38 = .ok (.goto 4, 3) := by decide +kernel
theorem dX0_isFree_41 : decode cX0_isFree 41 = .ok (.iconst 2, 1) := by decide +kernel
theorem dX0_isFree_42 : decode cX0_isFree 42 = .ok (.iastore, 1) := by decide +kernel
theorem dX0_isFree_43 : decode cX0_isFree 43 = .ok (.aload_n 0, 1) := by decide +kernel
theorem dX0_isFree_44 : decode cX0_isFree 44 = .ok (.getfield 31, 3) := by decide +kernel
theorem dX0_isFree_47 : decode cX0_isFree 47 = .ok (.iload_n 1, 1) := by decide +kernel
theorem dX0_isFree_48 : decode cX0_isFree 48 = .ok (.iaload, 1) := by decide +kernel
theorem dX0_isFree_49 : decode cX0_isFree 49 = .ok (.iconst 1, 1) := by decide +kernel
theorem dX0_isFree_50 : decode cX0_isFree 50 = .ok (.if_icmp .ne 7, 3) := by decide +kernel
theorem dX0_isFree_53 : decode cX0_isFree 53 = .ok (.iconst 1, 1) := by decide +kernel
theorem dX0_isFree_54 : decode cX0_isFree 54 = .ok (.goto 4, 3) := by decide +kernel
theorem dX0_isFree_57 : decode cX0_isFree 57 = .ok (.iconst 0, 1) := by decide +kernel
theorem dX0_isFree_58 : decode cX0_isFree 58 = .ok (.ireturn, 1) := by decide +kernel
set_option maxRecDepth 20000 in
theorem ggX0_coversClearCells_X0_coveredX : GoodIn wsX0_coversClearCells wsX0_coveredX := goodIn_r _ [7, 8, 9, 10, 11, 12, 13, 14, 15] (by decide +kernel) (by decide +kernel)
set_option maxRecDepth 20000 in
theorem gX0_coversClearCells_X0_coveredX : GoodIn wsX0_coversClearCells (va_wsS RX0 48 yX0_coveredX wsX0_coveredX) := goodIn_app (goodIn_of _ (by decide +kernel)) ggX0_coversClearCells_X0_coveredX
set_option maxRecDepth 20000 in
theorem ggX0_coversClearCells_X0_coveredY : GoodIn wsX0_coversClearCells wsX0_coveredY := goodIn_r _ [18, 8, 9, 10, 19, 20, 21, 22, 23] (by decide +kernel) (by decide +kernel)
set_option maxRecDepth 20000 in
theorem gX0_coversClearCells_X0_coveredY : GoodIn wsX0_coversClearCells (va_wsS RX0 52 yX0_coveredY wsX0_coveredY) := goodIn_app (goodIn_of _ (by decide +kernel)) ggX0_coversClearCells_X0_coveredY
set_option maxRecDepth 20000 in
theorem ggX0_coversClearCells_X1_isKeptClear : GoodIn wsX0_coversClearCells wsX1_isKeptClear := goodIn_r _ [28, 29, 30, 31, 32, 27, 33, 34, 35, 36, 9, 37, 43, 44, 45, 46, 47, 48] (by decide +kernel) (by decide +kernel)
set_option maxRecDepth 20000 in
theorem gX0_coversClearCells_X1_isKeptClear : GoodIn wsX0_coversClearCells (wsV RX0 55 RX1 yX1_isKeptClear wsX1_isKeptClear) := goodIn_app (goodIn_of _ (by decide +kernel)) ggX0_coversClearCells_X1_isKeptClear
theorem dX0_coversClearCells_0 : decode cX0_coversClearCells 0 = .ok (.aload_n 0, 1) := by decide +kernel
theorem dX0_coversClearCells_1 : decode cX0_coversClearCells 1 = .ok (.getfield 9, 3) := by decide +kernel
theorem dX0_coversClearCells_4 : decode cX0_coversClearCells 4 = .ok (.iconst 1, 1) := by decide +kernel
theorem dX0_coversClearCells_5 : decode cX0_coversClearCells 5 = .ok (.isub, 1) := by decide +kernel
theorem dX0_coversClearCells_6 : decode cX0_coversClearCells 6 = .ok (.iconst 2, 1) := by decide +kernel
theorem dX0_coversClearCells_7 : decode cX0_coversClearCells 7 = .ok (.idiv, 1) := by decide +kernel
theorem dX0_coversClearCells_8 : decode cX0_coversClearCells 8 = .ok (.ineg, 1) := by decide +kernel
theorem dX0_coversClearCells_9 : decode cX0_coversClearCells 9 = .ok (.istore_n 2, 1) := by decide +kernel
theorem dX0_coversClearCells_10 : decode cX0_coversClearCells 10 = .ok (.iload_n 2, 1) := by decide +kernel
theorem dX0_coversClearCells_11 : decode cX0_coversClearCells 11 = .ok (.aload_n 0, 1) := by decide +kernel
theorem dX0_coversClearCells_12 : decode cX0_coversClearCells 12 = .ok (.getfield 9, 3) := by decide +kernel
theorem dX0_coversClearCells_15 : decode cX0_coversClearCells 15 = .ok (.iconst 2, 1) := by decide +kernel
theorem dX0_coversClearCells_16 : decode cX0_coversClearCells 16 = .ok (.idiv, 1) := by decide +kernel
theorem dX0_coversClearCells_17 : decode cX0_coversClearCells 17 = .ok (.if_icmp .gt 59, 3) := by decide +kernel
theorem dX0_coversClearCells_20 : decode cX0_coversClearCells 20 = .ok (.aload_n 0, 1) := by decide +kernel
theorem dX0_coversClearCells_21 : decode cX0_coversClearCells 21 = .ok (.getfield 15, 3) := by decide +kernel
theorem dX0_coversClearCells_24 : decode cX0_coversClearCells 24 = .ok (.iconst 1, 1) := by decide +kernel
theorem dX0_coversClearCells_25 : decode cX0_coversClearCells 25 = .ok (.isub, 1) := by decide +kernel
theorem dX0_coversClearCells_26 : decode cX0_coversClearCells 26 = .ok (.iconst 2, 1) := by decide +kernel
theorem dX0_coversClearCells_27 : decode cX0_coversClearCells 27 = .ok (.idiv, 1) := by decide +kernel
theorem dX0_coversClearCells_28 : decode cX0_coversClearCells 28 = .ok (.ineg, 1) := by decide +kernel
theorem dX0_coversClearCells_29 : decode cX0_coversClearCells 29 = .ok (.istore_n 3, 1) := by decide +kernel
theorem dX0_coversClearCells_30 : decode cX0_coversClearCells 30 = .ok (.iload_n 3, 1) := by decide +kernel
theorem dX0_coversClearCells_31 : decode cX0_coversClearCells 31 = .ok (.aload_n 0, 1) := by decide +kernel
theorem dX0_coversClearCells_32 : decode cX0_coversClearCells 32 = .ok (.getfield 15, 3) := by decide +kernel
theorem dX0_coversClearCells_35 : decode cX0_coversClearCells 35 = .ok (.iconst 2, 1) := by decide +kernel
theorem dX0_coversClearCells_36 : decode cX0_coversClearCells 36 = .ok (.idiv, 1) := by decide +kernel
theorem dX0_coversClearCells_37 : decode cX0_coversClearCells 37 = .ok (.if_icmp .gt 33, 3) := by decide +kernel
theorem dX0_coversClearCells_40 : decode cX0_coversClearCells 40 = .ok (.aload_n 0, 1) := by decide +kernel
theorem dX0_coversClearCells_41 : decode cX0_coversClearCells 41 = .ok (.getfield 21, 3) := by decide +kernel
theorem dX0_coversClearCells_44 : decode cX0_coversClearCells 44 = .ok (.iload_n 1, 1) := by decide +kernel
theorem dX0_coversClearCells_45 : decode cX0_coversClearCells 45 = .ok (.iload_n 2, 1) := by decide +kernel
theorem dX0_coversClearCells_46 : decode cX0_coversClearCells 46 = .ok (.iload_n 3, 1) := by decide +kernel
theorem dX0_coversClearCells_47 : decode cX0_coversClearCells 47 = .ok (.invokestatic 48, 3) := by decide +kernel
theorem dX0_coversClearCells_50 : decode cX0_coversClearCells 50 = .ok (.iload_n 1, 1) := by decide +kernel
theorem dX0_coversClearCells_51 : decode cX0_coversClearCells 51 = .ok (.iload_n 2, 1) := by decide +kernel
theorem dX0_coversClearCells_52 : decode cX0_coversClearCells 52 = .ok (.iload_n 3, 1) := by decide +kernel
theorem dX0_coversClearCells_53 : decode cX0_coversClearCells 53 = .ok (.invokestatic 52, 3) := by decide +kernel
theorem dX0_coversClearCells_56 : decode cX0_coversClearCells 56 = .ok (.invokevirtual 55, 3) := by decide +kernel
theorem dX0_coversClearCells_59 : decode cX0_coversClearCells 59 = .ok (.ifCond .ne 5, 3) := by decide +kernel
theorem dX0_coversClearCells_62 : decode cX0_coversClearCells 62 = .ok (.iconst 0, 1) := by decide +kernel
theorem dX0_coversClearCells_63 : decode cX0_coversClearCells 63 = .ok (.ireturn, 1) := by decide +kernel
theorem dX0_coversClearCells_64 : decode cX0_coversClearCells 64 = .ok (.iinc 3 1, 3) := by decide +kernel
theorem dX0_coversClearCells_67 : decode cX0_coversClearCells 67 = .ok (.goto (-37), 3) := by decide +kernel
theorem dX0_coversClearCells_70 : decode cX0_coversClearCells 70 = .ok (.iinc 2 1, 3) := by decide +kernel
theorem dX0_coversClearCells_73 : decode cX0_coversClearCells 73 = .ok (.goto (-63), 3) := by decide +kernel
theorem dX0_coversClearCells_76 : decode cX0_coversClearCells 76 = .ok (.iconst 1, 1) := by decide +kernel
theorem dX0_coversClearCells_77 : decode cX0_coversClearCells 77 = .ok (.ireturn, 1) := by decide +kernel
set_option maxRecDepth 20000 in
theorem ggX0_marginAt_X0_coveredX : GoodIn wsX0_marginAt wsX0_coveredX := goodIn_r _ [7, 8, 9, 10, 11, 12, 13, 14, 15] (by decide +kernel) (by decide +kernel)
set_option maxRecDepth 20000 in
theorem gX0_marginAt_X0_coveredX : GoodIn wsX0_marginAt (va_wsS RX0 48 yX0_coveredX wsX0_coveredX) := goodIn_app (goodIn_of _ (by decide +kernel)) ggX0_marginAt_X0_coveredX
set_option maxRecDepth 20000 in
theorem ggX0_marginAt_X0_coveredY : GoodIn wsX0_marginAt wsX0_coveredY := goodIn_r _ [18, 8, 9, 10, 19, 20, 21, 22, 23] (by decide +kernel) (by decide +kernel)
set_option maxRecDepth 20000 in
theorem gX0_marginAt_X0_coveredY : GoodIn wsX0_marginAt (va_wsS RX0 52 yX0_coveredY wsX0_coveredY) := goodIn_app (goodIn_of _ (by decide +kernel)) ggX0_marginAt_X0_coveredY
set_option maxRecDepth 20000 in
theorem ggX0_marginAt_X1_distanceToFull : GoodIn wsX0_marginAt wsX1_distanceToFull := goodIn_r _ [28, 29, 30, 31, 32, 33, 34, 35, 36, 37, 38, 39, 40, 41, 27, 42, 43, 44, 45, 46, 47, 48, 49, 50, 9, 51, 57, 58, 59, 60, 61, 62] (by decide +kernel) (by decide +kernel)
set_option maxRecDepth 20000 in
theorem gX0_marginAt_X1_distanceToFull : GoodIn wsX0_marginAt (wsV RX0 59 RX1 yX1_distanceToFull wsX1_distanceToFull) := goodIn_app (goodIn_of _ (by decide +kernel)) ggX0_marginAt_X1_distanceToFull
theorem dX0_marginAt_0 : decode cX0_marginAt 0 = .ok (.bipush 9, 2) := by decide +kernel
theorem dX0_marginAt_2 : decode cX0_marginAt 2 = .ok (.istore_n 2, 1) := by decide +kernel
theorem dX0_marginAt_3 : decode cX0_marginAt 3 = .ok (.aload_n 0, 1) := by decide +kernel
theorem dX0_marginAt_4 : decode cX0_marginAt 4 = .ok (.getfield 9, 3) := by decide +kernel
theorem dX0_marginAt_7 : decode cX0_marginAt 7 = .ok (.iconst 1, 1) := by decide +kernel
theorem dX0_marginAt_8 : decode cX0_marginAt 8 = .ok (.isub, 1) := by decide +kernel
theorem dX0_marginAt_9 : decode cX0_marginAt 9 = .ok (.iconst 2, 1) := by decide +kernel
theorem dX0_marginAt_10 : decode cX0_marginAt 10 = .ok (.idiv, 1) := by decide +kernel
theorem dX0_marginAt_11 : decode cX0_marginAt 11 = .ok (.ineg, 1) := by decide +kernel
theorem dX0_marginAt_12 : decode cX0_marginAt 12 = .ok (.istore_n 3, 1) := by decide +kernel
theorem dX0_marginAt_13 : decode cX0_marginAt 13 = .ok (.iload_n 3, 1) := by decide +kernel
theorem dX0_marginAt_14 : decode cX0_marginAt 14 = .ok (.aload_n 0, 1) := by decide +kernel
theorem dX0_marginAt_15 : decode cX0_marginAt 15 = .ok (.getfield 9, 3) := by decide +kernel
theorem dX0_marginAt_18 : decode cX0_marginAt 18 = .ok (.iconst 2, 1) := by decide +kernel
theorem dX0_marginAt_19 : decode cX0_marginAt 19 = .ok (.idiv, 1) := by decide +kernel
theorem dX0_marginAt_20 : decode cX0_marginAt 20 = .ok (.if_icmp .gt 60, 3) := by decide +kernel
theorem dX0_marginAt_23 : decode cX0_marginAt 23 = .ok (.aload_n 0, 1) := by decide +kernel
theorem dX0_marginAt_24 : decode cX0_marginAt 24 = .ok (.getfield 15, 3) := by decide +kernel
theorem dX0_marginAt_27 : decode cX0_marginAt 27 = .ok (.iconst 1, 1) := by decide +kernel
theorem dX0_marginAt_28 : decode cX0_marginAt 28 = .ok (.isub, 1) := by decide +kernel
theorem dX0_marginAt_29 : decode cX0_marginAt 29 = .ok (.iconst 2, 1) := by decide +kernel
theorem dX0_marginAt_30 : decode cX0_marginAt 30 = .ok (.idiv, 1) := by decide +kernel
theorem dX0_marginAt_31 : decode cX0_marginAt 31 = .ok (.ineg, 1) := by decide +kernel
theorem dX0_marginAt_32 : decode cX0_marginAt 32 = .ok (.istore 4, 2) := by decide +kernel
theorem dX0_marginAt_34 : decode cX0_marginAt 34 = .ok (.iload 4, 2) := by decide +kernel
theorem dX0_marginAt_36 : decode cX0_marginAt 36 = .ok (.aload_n 0, 1) := by decide +kernel
theorem dX0_marginAt_37 : decode cX0_marginAt 37 = .ok (.getfield 15, 3) := by decide +kernel
theorem dX0_marginAt_40 : decode cX0_marginAt 40 = .ok (.iconst 2, 1) := by decide +kernel
theorem dX0_marginAt_41 : decode cX0_marginAt 41 = .ok (.idiv, 1) := by decide +kernel
theorem dX0_marginAt_42 : decode cX0_marginAt 42 = .ok (.if_icmp .gt 32, 3) := by decide +kernel
theorem dX0_marginAt_45 : decode cX0_marginAt 45 = .ok (.aload_n 0, 1) := by decide +kernel
theorem dX0_marginAt_46 : decode cX0_marginAt 46 = .ok (.getfield 21, 3) := by decide +kernel
theorem dX0_marginAt_49 : decode cX0_marginAt 49 = .ok (.iload_n 1, 1) := by decide +kernel
theorem dX0_marginAt_50 : decode cX0_marginAt 50 = .ok (.iload_n 3, 1) := by decide +kernel
theorem dX0_marginAt_51 : decode cX0_marginAt 51 = .ok (.iload 4, 2) := by decide +kernel
theorem dX0_marginAt_53 : decode cX0_marginAt 53 = .ok (.invokestatic 48, 3) := by decide +kernel
theorem dX0_marginAt_56 : decode cX0_marginAt 56 = .ok (.iload_n 1, 1) := by decide +kernel
theorem dX0_marginAt_57 : decode cX0_marginAt 57 = .ok (.iload_n 3, 1) := by decide +kernel
theorem dX0_marginAt_58 : decode cX0_marginAt 58 = .ok (.iload 4, 2) := by decide +kernel
theorem dX0_marginAt_60 : decode cX0_marginAt 60 = .ok (.invokestatic 52, 3) := by decide +kernel
theorem dX0_marginAt_63 : decode cX0_marginAt 63 = .ok (.iload_n 2, 1) := by decide +kernel
theorem dX0_marginAt_64 : decode cX0_marginAt 64 = .ok (.invokevirtual 59, 3) := by decide +kernel
theorem dX0_marginAt_67 : decode cX0_marginAt 67 = .ok (.istore_n 2, 1) := by decide +kernel
theorem dX0_marginAt_68 : decode cX0_marginAt 68 = .ok (.iinc 4 1, 3) := by decide +kernel
theorem dX0_marginAt_71 : decode cX0_marginAt 71 = .ok (.goto (-37), 3) := by decide +kernel
theorem dX0_marginAt_74 : decode cX0_marginAt 74 = .ok (.iinc 3 1, 3) := by decide +kernel
theorem dX0_marginAt_77 : decode cX0_marginAt 77 = .ok (.goto (-64), 3) := by decide +kernel
theorem dX0_marginAt_80 : decode cX0_marginAt 80 = .ok (.iload_n 2, 1) := by decide +kernel
theorem dX0_marginAt_81 : decode cX0_marginAt 81 = .ok (.ireturn, 1) := by decide +kernel
set_option maxRecDepth 20000 in
theorem ggX0_coveredX_X4_headingOf : GoodIn wsX0_coveredX wsX4_headingOf := goodIn_r _ [3] (by decide +kernel) (by decide +kernel)
set_option maxRecDepth 20000 in
theorem gX0_coveredX_X4_headingOf_n62 : GoodIn wsX0_coveredX (wsX4_headingOf) := ggX0_coveredX_X4_headingOf
set_option maxRecDepth 20000 in
theorem ggX0_coveredX_X4_xOf : GoodIn wsX0_coveredX wsX4_xOf := goodIn_r _ [5] (by decide +kernel) (by decide +kernel)
set_option maxRecDepth 20000 in
theorem gX0_coveredX_X4_xOf_n66 : GoodIn wsX0_coveredX (wsX4_xOf) := ggX0_coveredX_X4_xOf
set_option maxRecDepth 20000 in
theorem ggX0_coveredX_X4_stepX : GoodIn wsX0_coveredX wsX4_stepX := goodIn_r _ [7, 8] (by decide +kernel) (by decide +kernel)
set_option maxRecDepth 20000 in
theorem gX0_coveredX_X4_stepX_n69 : GoodIn wsX0_coveredX (wsX4_stepX) := ggX0_coveredX_X4_stepX
theorem dX0_coveredX_0 : decode cX0_coveredX 0 = .ok (.iload_n 0, 1) := by decide +kernel
theorem dX0_coveredX_1 : decode cX0_coveredX 1 = .ok (.invokestatic 62, 3) := by decide +kernel
theorem dX0_coveredX_4 : decode cX0_coveredX 4 = .ok (.istore_n 3, 1) := by decide +kernel
theorem dX0_coveredX_5 : decode cX0_coveredX 5 = .ok (.iload_n 0, 1) := by decide +kernel
theorem dX0_coveredX_6 : decode cX0_coveredX 6 = .ok (.invokestatic 66, 3) := by decide +kernel
theorem dX0_coveredX_9 : decode cX0_coveredX 9 = .ok (.iload_n 1, 1) := by decide +kernel
theorem dX0_coveredX_10 : decode cX0_coveredX 10 = .ok (.iload_n 3, 1) := by decide +kernel
theorem dX0_coveredX_11 : decode cX0_coveredX 11 = .ok (.invokestatic 69, 3) := by decide +kernel
theorem dX0_coveredX_14 : decode cX0_coveredX 14 = .ok (.imul, 1) := by decide +kernel
theorem dX0_coveredX_15 : decode cX0_coveredX 15 = .ok (.iadd, 1) := by decide +kernel
theorem dX0_coveredX_16 : decode cX0_coveredX 16 = .ok (.iload_n 2, 1) := by decide +kernel
theorem dX0_coveredX_17 : decode cX0_coveredX 17 = .ok (.iload_n 3, 1) := by decide +kernel
theorem dX0_coveredX_18 : decode cX0_coveredX 18 = .ok (.iconst 2, 1) := by decide +kernel
theorem dX0_coveredX_19 : decode cX0_coveredX 19 = .ok (.iadd, 1) := by decide +kernel
theorem dX0_coveredX_20 : decode cX0_coveredX 20 = .ok (.invokestatic 69, 3) := by decide +kernel
theorem dX0_coveredX_23 : decode cX0_coveredX 23 = .ok (.imul, 1) := by decide +kernel
theorem dX0_coveredX_24 : decode cX0_coveredX 24 = .ok (.iadd, 1) := by decide +kernel
theorem dX0_coveredX_25 : decode cX0_coveredX 25 = .ok (.ireturn, 1) := by decide +kernel
set_option maxRecDepth 20000 in
theorem ggX0_coveredY_X4_headingOf : GoodIn wsX0_coveredY wsX4_headingOf := goodIn_r _ [3] (by decide +kernel) (by decide +kernel)
set_option maxRecDepth 20000 in
theorem gX0_coveredY_X4_headingOf_n62 : GoodIn wsX0_coveredY (wsX4_headingOf) := ggX0_coveredY_X4_headingOf
set_option maxRecDepth 20000 in
theorem ggX0_coveredY_X4_yOf : GoodIn wsX0_coveredY wsX4_yOf := goodIn_r _ [5] (by decide +kernel) (by decide +kernel)
set_option maxRecDepth 20000 in
theorem gX0_coveredY_X4_yOf_n72 : GoodIn wsX0_coveredY (wsX4_yOf) := ggX0_coveredY_X4_yOf
set_option maxRecDepth 20000 in
theorem ggX0_coveredY_X4_stepY : GoodIn wsX0_coveredY wsX4_stepY := goodIn_r _ [7, 8] (by decide +kernel) (by decide +kernel)
set_option maxRecDepth 20000 in
theorem gX0_coveredY_X4_stepY_n75 : GoodIn wsX0_coveredY (wsX4_stepY) := ggX0_coveredY_X4_stepY
theorem dX0_coveredY_0 : decode cX0_coveredY 0 = .ok (.iload_n 0, 1) := by decide +kernel
theorem dX0_coveredY_1 : decode cX0_coveredY 1 = .ok (.invokestatic 62, 3) := by decide +kernel
theorem dX0_coveredY_4 : decode cX0_coveredY 4 = .ok (.istore_n 3, 1) := by decide +kernel
theorem dX0_coveredY_5 : decode cX0_coveredY 5 = .ok (.iload_n 0, 1) := by decide +kernel
theorem dX0_coveredY_6 : decode cX0_coveredY 6 = .ok (.invokestatic 72, 3) := by decide +kernel
theorem dX0_coveredY_9 : decode cX0_coveredY 9 = .ok (.iload_n 1, 1) := by decide +kernel
theorem dX0_coveredY_10 : decode cX0_coveredY 10 = .ok (.iload_n 3, 1) := by decide +kernel
theorem dX0_coveredY_11 : decode cX0_coveredY 11 = .ok (.invokestatic 75, 3) := by decide +kernel
theorem dX0_coveredY_14 : decode cX0_coveredY 14 = .ok (.imul, 1) := by decide +kernel
theorem dX0_coveredY_15 : decode cX0_coveredY 15 = .ok (.iadd, 1) := by decide +kernel
theorem dX0_coveredY_16 : decode cX0_coveredY 16 = .ok (.iload_n 2, 1) := by decide +kernel
theorem dX0_coveredY_17 : decode cX0_coveredY 17 = .ok (.iload_n 3, 1) := by decide +kernel
theorem dX0_coveredY_18 : decode cX0_coveredY 18 = .ok (.iconst 2, 1) := by decide +kernel
theorem dX0_coveredY_19 : decode cX0_coveredY 19 = .ok (.iadd, 1) := by decide +kernel
theorem dX0_coveredY_20 : decode cX0_coveredY 20 = .ok (.invokestatic 75, 3) := by decide +kernel
theorem dX0_coveredY_23 : decode cX0_coveredY 23 = .ok (.imul, 1) := by decide +kernel
theorem dX0_coveredY_24 : decode cX0_coveredY 24 = .ok (.iadd, 1) := by decide +kernel
theorem dX0_coveredY_25 : decode cX0_coveredY 25 = .ok (.ireturn, 1) := by decide +kernel
set_option maxRecDepth 20000 in
theorem ggX0_landing_X0_senseOf : GoodIn wsX0_landing wsX0_senseOf := goodIn_r _ [5] (by decide +kernel) (by decide +kernel)
set_option maxRecDepth 20000 in
theorem gX0_landing_X0_senseOf : GoodIn wsX0_landing (va_wsS RX0 78 yX0_senseOf wsX0_senseOf) := goodIn_app (goodIn_of _ (by decide +kernel)) ggX0_landing_X0_senseOf
set_option maxRecDepth 20000 in
theorem ggX0_landing_X0_isArc : GoodIn wsX0_landing wsX0_isArc := goodIn_r _ [8] (by decide +kernel) (by decide +kernel)
set_option maxRecDepth 20000 in
theorem gX0_landing_X0_isArc : GoodIn wsX0_landing (va_wsS RX0 81 yX0_isArc wsX0_isArc) := goodIn_app (goodIn_of _ (by decide +kernel)) ggX0_landing_X0_isArc
set_option maxRecDepth 20000 in
theorem ggX0_landing_X0_shifted : GoodIn wsX0_landing wsX0_shifted := goodIn_r _ [12, 13, 14, 15, 16, 17, 18, 19, 20, 21, 22, 23, 24, 25, 26, 27, 28, 29, 30, 31, 32, 33, 34, 35, 36, 37, 38, 43, 44, 45, 46, 47, 48, 49, 50, 51, 52, 53] (by decide +kernel) (by decide +kernel)
set_option maxRecDepth 20000 in
theorem gX0_landing_X0_shifted : GoodIn wsX0_landing (wsV RX0 84 RX0 yX0_shifted wsX0_shifted) := goodIn_app (goodIn_of _ (by decide +kernel)) ggX0_landing_X0_shifted
set_option maxRecDepth 20000 in
theorem ggX0_landing_X0_turned : GoodIn wsX0_landing wsX0_turned := goodIn_r _ [42, 13, 17, 15, 18, 22, 23, 14, 16, 34, 35, 36, 37, 38, 43, 44, 45, 46, 47, 48, 49, 50, 51, 52, 53] (by decide +kernel) (by decide +kernel)
set_option maxRecDepth 20000 in
theorem gX0_landing_X0_turned : GoodIn wsX0_landing (wsV RX0 88 RX0 yX0_turned wsX0_turned) := goodIn_app (goodIn_of _ (by decide +kernel)) ggX0_landing_X0_turned
theorem dX0_landing_0 : decode cX0_landing 0 = .ok (.iload_n 2, 1) := by decide +kernel
theorem dX0_landing_1 : decode cX0_landing 1 = .ok (.invokestatic 78, 3) := by decide +kernel
theorem dX0_landing_4 : decode cX0_landing 4 = .ok (.istore_n 3, 1) := by decide +kernel
theorem dX0_landing_5 : decode cX0_landing 5 = .ok (.iload_n 2, 1) := by decide +kernel
theorem dX0_landing_6 : decode cX0_landing 6 = .ok (.invokestatic 81, 3) := by decide +kernel
theorem dX0_landing_9 : decode cX0_landing 9 = .ok (.ifCond .ne 10, 3) := by decide +kernel
theorem dX0_landing_12 : decode cX0_landing 12 = .ok (.aload_n 0, 1) := by decide +kernel
theorem dX0_landing_13 : decode cX0_landing 13 = .ok (.iload_n 1, 1) := by decide +kernel
theorem dX0_landing_14 : decode cX0_landing 14 = .ok (.iload_n 3, 1) := by decide +kernel
theorem dX0_landing_15 : decode cX0_landing 15 = .ok (.invokevirtual 84, 3) := by decide +kernel
theorem dX0_landing_18 : decode cX0_landing 18 = .ok (.ireturn, 1) := by decide +kernel
theorem dX0_landing_19 : decode cX0_landing 19 = .ok (.aload_n 0, 1) := by decide +kernel
theorem dX0_landing_20 : decode cX0_landing 20 = .ok (.aload_n 0, 1) := by decide +kernel
theorem dX0_landing_21 : decode cX0_landing 21 = .ok (.aload_n 0, 1) := by decide +kernel
theorem dX0_landing_22 : decode cX0_landing 22 = .ok (.iload_n 1, 1) := by decide +kernel
theorem dX0_landing_23 : decode cX0_landing 23 = .ok (.iload_n 3, 1) := by decide +kernel
theorem dX0_landing_24 : decode cX0_landing 24 = .ok (.aload_n 0, 1) := by decide +kernel
theorem dX0_landing_25 : decode cX0_landing 25 = .ok (.getfield 18, 3) := by decide +kernel
theorem dX0_landing_28 : decode cX0_landing 28 = .ok (.imul, 1) := by decide +kernel
theorem dX0_landing_29 : decode cX0_landing 29 = .ok (.invokevirtual 84, 3) := by decide +kernel
theorem dX0_landing_32 : decode cX0_landing 32 = .ok (.iload_n 2, 1) := by decide +kernel
theorem dX0_landing_33 : decode cX0_landing 33 = .ok (.invokevirtual 88, 3) := by decide +kernel
theorem dX0_landing_36 : decode cX0_landing 36 = .ok (.iload_n 3, 1) := by decide +kernel
theorem dX0_landing_37 : decode cX0_landing 37 = .ok (.aload_n 0, 1) := by decide +kernel
theorem dX0_landing_38 : decode cX0_landing 38 = .ok (.getfield 18, 3) := by decide +kernel
theorem dX0_landing_41 : decode cX0_landing 41 = .ok (.imul, 1) := by decide +kernel
theorem dX0_landing_42 : decode cX0_landing 42 = .ok (.invokevirtual 84, 3) := by decide +kernel
theorem dX0_landing_45 : decode cX0_landing 45 = .ok (.ireturn, 1) := by decide +kernel
set_option maxRecDepth 20000 in
theorem ggX0_mayMake_X0_senseOf : GoodIn wsX0_mayMake wsX0_senseOf := goodIn_r _ [5] (by decide +kernel) (by decide +kernel)
set_option maxRecDepth 20000 in
theorem gX0_mayMake_X0_senseOf : GoodIn wsX0_mayMake (va_wsS RX0 78 yX0_senseOf wsX0_senseOf) := goodIn_app (goodIn_of _ (by decide +kernel)) ggX0_mayMake_X0_senseOf
set_option maxRecDepth 20000 in
theorem ggX0_mayMake_X0_isArc : GoodIn wsX0_mayMake wsX0_isArc := goodIn_r _ [8] (by decide +kernel) (by decide +kernel)
set_option maxRecDepth 20000 in
theorem gX0_mayMake_X0_isArc : GoodIn wsX0_mayMake (va_wsS RX0 81 yX0_isArc wsX0_isArc) := goodIn_app (goodIn_of _ (by decide +kernel)) ggX0_mayMake_X0_isArc
set_option maxRecDepth 20000 in
theorem ggX0_mayMake_X0_shifted : GoodIn wsX0_mayMake wsX0_shifted := goodIn_r _ [12, 13, 14, 15, 16, 17, 18, 19, 20, 21, 22, 23, 24, 25, 26, 27, 28, 29, 30, 31, 32, 33, 34, 35, 36, 37, 38, 66, 67, 68, 69, 70, 71, 72, 73, 74, 75, 76] (by decide +kernel) (by decide +kernel)
set_option maxRecDepth 20000 in
theorem gX0_mayMake_X0_shifted : GoodIn wsX0_mayMake (wsV RX0 84 RX0 yX0_shifted wsX0_shifted) := goodIn_app (goodIn_of _ (by decide +kernel)) ggX0_mayMake_X0_shifted
set_option maxRecDepth 20000 in
theorem ggX0_mayMake_X0_turned : GoodIn wsX0_mayMake wsX0_turned := goodIn_r _ [42, 13, 17, 15, 18, 22, 23, 14, 16, 34, 35, 36, 37, 38, 66, 67, 68, 69, 70, 71, 72, 73, 74, 75, 76] (by decide +kernel) (by decide +kernel)
set_option maxRecDepth 20000 in
theorem gX0_mayMake_X0_turned : GoodIn wsX0_mayMake (wsV RX0 88 RX0 yX0_turned wsX0_turned) := goodIn_app (goodIn_of _ (by decide +kernel)) ggX0_mayMake_X0_turned
set_option maxRecDepth 20000 in
theorem ggX0_mayMake_X0_isFree : GoodIn wsX0_mayMake wsX0_isFree := goodIn_r _ [46, 47, 48, 49, 50, 4, 51, 52, 53, 13, 54, 55, 56, 14, 15, 16, 17, 18, 19, 20, 21, 57, 58, 59, 22, 23, 24, 25, 26, 60, 61, 62, 30, 63, 64, 65, 28, 29, 31, 32, 33, 37, 38, 66, 67, 68, 69, 70, 71, 72, 73, 74, 75, 76] (by decide +kernel) (by decide +kernel)
set_option maxRecDepth 20000 in
theorem gX0_mayMake_X0_isFree : GoodIn wsX0_mayMake (wsV RX0 91 RX0 yX0_isFree wsX0_isFree) := goodIn_app (goodIn_of _ (by decide +kernel)) ggX0_mayMake_X0_isFree
theorem dX0_mayMake_0 : decode cX0_mayMake 0 = .ok (.iload_n 2, 1) := by decide +kernel
theorem dX0_mayMake_1 : decode cX0_mayMake 1 = .ok (.invokestatic 78, 3) := by decide +kernel
theorem dX0_mayMake_4 : decode cX0_mayMake 4 = .ok (.istore_n 3, 1) := by decide +kernel
theorem dX0_mayMake_5 : decode cX0_mayMake 5 = .ok (.iload_n 2, 1) := by decide +kernel
theorem dX0_mayMake_6 : decode cX0_mayMake 6 = .ok (.invokestatic 81, 3) := by decide +kernel
theorem dX0_mayMake_9 : decode cX0_mayMake 9 = .ok (.ifCond .eq 10, 3) := by decide +kernel
theorem dX0_mayMake_12 : decode cX0_mayMake 12 = .ok (.aload_n 0, 1) := by decide +kernel
theorem dX0_mayMake_13 : decode cX0_mayMake 13 = .ok (.getfield 18, 3) := by decide +kernel
theorem dX0_mayMake_16 : decode cX0_mayMake 16 = .ok (.goto 4, 3) := by decide +kernel
theorem dX0_mayMake_19 : decode cX0_mayMake 19 = .ok (.iconst 1, 1) := by decide +kernel
theorem dX0_mayMake_20 : decode cX0_mayMake 20 = .ok (.istore 4, 2) := by decide +kernel
theorem dX0_mayMake_22 : decode cX0_mayMake 22 = .ok (.iload_n 2, 1) := by decide +kernel
theorem dX0_mayMake_23 : decode cX0_mayMake 23 = .ok (.invokestatic 81, 3) := by decide +kernel
theorem dX0_mayMake_26 : decode cX0_mayMake 26 = .ok (.ifCond .eq 22, 3) := by decide +kernel
theorem dX0_mayMake_29 : decode cX0_mayMake 29 = .ok (.aload_n 0, 1) := by decide +kernel
theorem dX0_mayMake_30 : decode cX0_mayMake 30 = .ok (.aload_n 0, 1) := by decide +kernel
theorem dX0_mayMake_31 : decode cX0_mayMake 31 = .ok (.iload_n 1, 1) := by decide +kernel
theorem dX0_mayMake_32 : decode cX0_mayMake 32 = .ok (.iload_n 3, 1) := by decide +kernel
theorem dX0_mayMake_33 : decode cX0_mayMake 33 = .ok (.aload_n 0, 1) := by decide +kernel
theorem dX0_mayMake_34 : decode cX0_mayMake 34 = .ok (.getfield 18, 3) := by decide +kernel
theorem dX0_mayMake_37 : decode cX0_mayMake 37 = .ok (.imul, 1) := by decide +kernel
theorem dX0_mayMake_38 : decode cX0_mayMake 38 = .ok (.invokevirtual 84, 3) := by decide +kernel
theorem dX0_mayMake_41 : decode cX0_mayMake 41 = .ok (.iload_n 2, 1) := by decide +kernel
theorem dX0_mayMake_42 : decode cX0_mayMake 42 = .ok (.invokevirtual 88, 3) := by decide +kernel
theorem dX0_mayMake_45 : decode cX0_mayMake 45 = .ok (.goto 4, 3) := by decide +kernel
theorem dX0_mayMake_48 : decode cX0_mayMake 48 = .ok (.iload_n 1, 1) := by decide +kernel
theorem dX0_mayMake_49 : decode cX0_mayMake 49 = .ok (.istore 5, 2) := by decide +kernel
theorem dX0_mayMake_51 : decode cX0_mayMake 51 = .ok (.iconst 0, 1) := by decide +kernel
theorem dX0_mayMake_52 : decode cX0_mayMake 52 = .ok (.istore 6, 2) := by decide +kernel
theorem dX0_mayMake_54 : decode cX0_mayMake 54 = .ok (.iload 6, 2) := by decide +kernel
theorem dX0_mayMake_56 : decode cX0_mayMake 56 = .ok (.iload 4, 2) := by decide +kernel
theorem dX0_mayMake_58 : decode cX0_mayMake 58 = .ok (.if_icmp .gt 44, 3) := by decide +kernel
theorem dX0_mayMake_61 : decode cX0_mayMake 61 = .ok (.aload_n 0, 1) := by decide +kernel
theorem dX0_mayMake_62 : decode cX0_mayMake 62 = .ok (.aload_n 0, 1) := by decide +kernel
theorem dX0_mayMake_63 : decode cX0_mayMake 63 = .ok (.iload_n 1, 1) := by decide +kernel
theorem dX0_mayMake_64 : decode cX0_mayMake 64 = .ok (.iload_n 3, 1) := by decide +kernel
theorem dX0_mayMake_65 : decode cX0_mayMake 65 = .ok (.iload 6, 2) := by decide +kernel
theorem dX0_mayMake_67 : decode cX0_mayMake 67 = .ok (.imul, 1) := by decide +kernel
theorem dX0_mayMake_68 : decode cX0_mayMake 68 = .ok (.invokevirtual 84, 3) := by decide +kernel
theorem dX0_mayMake_71 : decode cX0_mayMake 71 = .ok (.invokevirtual 91, 3) := by decide +kernel
theorem dX0_mayMake_74 : decode cX0_mayMake 74 = .ok (.ifCond .eq 20, 3) := by decide +kernel
theorem dX0_mayMake_77 : decode cX0_mayMake 77 = .ok (.aload_n 0, 1) := by decide +kernel
theorem dX0_mayMake_78 : decode cX0_mayMake 78 = .ok (.aload_n 0, 1) := by decide +kernel
theorem dX0_mayMake_79 : decode cX0_mayMake 79 = .ok (.iload 5, 2) := by decide +kernel
theorem dX0_mayMake_81 : decode cX0_mayMake 81 = .ok (.iload_n 3, 1) := by decide +kernel
theorem dX0_mayMake_82 : decode cX0_mayMake 82 = .ok (.iload 6, 2) := by decide +kernel
theorem dX0_mayMake_84 : decode cX0_mayMake 84 = .ok (.imul, 1) := by decide +kernel
theorem dX0_mayMake_85 : decode cX0_mayMake 85 = .ok (.invokevirtual 84, 3) := by decide +kernel
theorem dX0_mayMake_88 : decode cX0_mayMake 88 = .ok (.invokevirtual 91, 3) := by decide +kernel
theorem dX0_mayMake_91 : decode cX0_mayMake 91 = .ok (.ifCond .ne 5, 3) := by decide +kernel
theorem dX0_mayMake_94 : decode cX0_mayMake 94 = .ok (.iconst 0, 1) := by decide +kernel
theorem dX0_mayMake_95 : decode cX0_mayMake 95 = .ok (.ireturn, 1) := by decide +kernel
theorem dX0_mayMake_96 : decode cX0_mayMake 96 = .ok (.iinc 6 1, 3) := by decide +kernel
theorem dX0_mayMake_99 : decode cX0_mayMake 99 = .ok (.goto (-45), 3) := by decide +kernel
theorem dX0_mayMake_102 : decode cX0_mayMake 102 = .ok (.iconst 1, 1) := by decide +kernel
theorem dX0_mayMake_103 : decode cX0_mayMake 103 = .ok (.ireturn, 1) := by decide +kernel
set_option maxRecDepth 20000 in
theorem ggX0_lengthOf_X0_isArc : GoodIn wsX0_lengthOf wsX0_isArc := goodIn_r _ [5] (by decide +kernel) (by decide +kernel)
set_option maxRecDepth 20000 in
theorem gX0_lengthOf_X0_isArc : GoodIn wsX0_lengthOf (va_wsS RX0 81 yX0_isArc wsX0_isArc) := goodIn_app (goodIn_of _ (by decide +kernel)) ggX0_lengthOf_X0_isArc
theorem dX0_lengthOf_0 : decode cX0_lengthOf 0 = .ok (.iload_n 1, 1) := by decide +kernel
theorem dX0_lengthOf_1 : decode cX0_lengthOf 1 = .ok (.invokestatic 81, 3) := by decide +kernel
theorem dX0_lengthOf_4 : decode cX0_lengthOf 4 = .ok (.ifCond .eq 12, 3) := by decide +kernel
theorem dX0_lengthOf_7 : decode cX0_lengthOf 7 = .ok (.iconst 2, 1) := by decide +kernel
theorem dX0_lengthOf_8 : decode cX0_lengthOf 8 = .ok (.aload_n 0, 1) := by decide +kernel
theorem dX0_lengthOf_9 : decode cX0_lengthOf 9 = .ok (.getfield 18, 3) := by decide +kernel
theorem dX0_lengthOf_12 : decode cX0_lengthOf 12 = .ok (.imul, 1) := by decide +kernel
theorem dX0_lengthOf_13 : decode cX0_lengthOf 13 = .ok (.goto 4, 3) := by decide +kernel
theorem dX0_lengthOf_16 : decode cX0_lengthOf 16 = .ok (.iconst 1, 1) := by decide +kernel
theorem dX0_lengthOf_17 : decode cX0_lengthOf 17 = .ok (.ireturn, 1) := by decide +kernel
theorem dX0_isArc_0 : decode cX0_isArc 0 = .ok (.iload_n 0, 1) := by decide +kernel
theorem dX0_isArc_1 : decode cX0_isArc 1 = .ok (.iconst 2, 1) := by decide +kernel
theorem dX0_isArc_2 : decode cX0_isArc 2 = .ok (.if_icmp .lt 7, 3) := by decide +kernel
theorem dX0_isArc_5 : decode cX0_isArc 5 = .ok (.iconst 1, 1) := by decide +kernel
theorem dX0_isArc_6 : decode cX0_isArc 6 = .ok (.goto 4, 3) := by decide +kernel
theorem dX0_isArc_9 : decode cX0_isArc 9 = .ok (.iconst 0, 1) := by decide +kernel
theorem dX0_isArc_10 : decode cX0_isArc 10 = .ok (.ireturn, 1) := by decide +kernel
theorem dX0_senseOf_0 : decode cX0_senseOf 0 = .ok (.iload_n 0, 1) := by decide +kernel
theorem dX0_senseOf_1 : decode cX0_senseOf 1 = .ok (.ifCond .eq 13, 3) := by decide +kernel
theorem dX0_senseOf_4 : decode cX0_senseOf 4 = .ok (.iload_n 0, 1) := by decide +kernel
theorem dX0_senseOf_5 : decode cX0_senseOf 5 = .ok (.iconst 2, 1) := by decide +kernel
theorem dX0_senseOf_6 : decode cX0_senseOf 6 = .ok (.if_icmp .eq 8, 3) := by decide +kernel
theorem dX0_senseOf_9 : decode cX0_senseOf 9 = .ok (.iload_n 0, 1) := by decide +kernel
theorem dX0_senseOf_10 : decode cX0_senseOf 10 = .ok (.iconst 3, 1) := by decide +kernel
theorem dX0_senseOf_11 : decode cX0_senseOf 11 = .ok (.if_icmp .ne 7, 3) := by decide +kernel
theorem dX0_senseOf_14 : decode cX0_senseOf 14 = .ok (.iconst 1, 1) := by decide +kernel
theorem dX0_senseOf_15 : decode cX0_senseOf 15 = .ok (.goto 4, 3) := by decide +kernel
theorem dX0_senseOf_18 : decode cX0_senseOf 18 = .ok (.iconst (-1), 1) := by decide +kernel
theorem dX0_senseOf_19 : decode cX0_senseOf 19 = .ok (.ireturn, 1) := by decide +kernel
set_option maxRecDepth 20000 in
theorem ggX0_shifted_X4_headingOf : GoodIn wsX0_shifted wsX4_headingOf := goodIn_r _ [4] (by decide +kernel) (by decide +kernel)
set_option maxRecDepth 20000 in
theorem gX0_shifted_X4_headingOf_n62 : GoodIn wsX0_shifted (wsX4_headingOf) := ggX0_shifted_X4_headingOf
set_option maxRecDepth 20000 in
theorem ggX0_shifted_X4_xOf : GoodIn wsX0_shifted wsX4_xOf := goodIn_r _ [6] (by decide +kernel) (by decide +kernel)
set_option maxRecDepth 20000 in
theorem gX0_shifted_X4_xOf_n66 : GoodIn wsX0_shifted (wsX4_xOf) := ggX0_shifted_X4_xOf
set_option maxRecDepth 20000 in
theorem ggX0_shifted_X4_stepX : GoodIn wsX0_shifted wsX4_stepX := goodIn_r _ [8, 9] (by decide +kernel) (by decide +kernel)
set_option maxRecDepth 20000 in
theorem gX0_shifted_X4_stepX_n69 : GoodIn wsX0_shifted (wsX4_stepX) := ggX0_shifted_X4_stepX
set_option maxRecDepth 20000 in
theorem ggX0_shifted_X4_yOf : GoodIn wsX0_shifted wsX4_yOf := goodIn_r _ [11] (by decide +kernel) (by decide +kernel)
set_option maxRecDepth 20000 in
theorem gX0_shifted_X4_yOf_n72 : GoodIn wsX0_shifted (wsX4_yOf) := ggX0_shifted_X4_yOf
set_option maxRecDepth 20000 in
theorem ggX0_shifted_X4_stepY : GoodIn wsX0_shifted wsX4_stepY := goodIn_r _ [13, 14] (by decide +kernel) (by decide +kernel)
set_option maxRecDepth 20000 in
theorem gX0_shifted_X4_stepY_n75 : GoodIn wsX0_shifted (wsX4_stepY) := ggX0_shifted_X4_stepY
set_option maxRecDepth 20000 in
theorem ggX0_shifted_X1_hasCell : GoodIn wsX0_shifted wsX1_hasCell := goodIn_r _ [19, 20, 21, 32, 33, 34, 35, 36, 37] (by decide +kernel) (by decide +kernel)
set_option maxRecDepth 20000 in
theorem gX0_shifted_X1_hasCell : GoodIn wsX0_shifted (wsV RX0 94 RX1 yX1_hasCell wsX1_hasCell) := goodIn_app (goodIn_of _ (by decide +kernel)) ggX0_shifted_X1_hasCell
set_option maxRecDepth 20000 in
theorem ggX0_shifted_X4_placeAt : GoodIn wsX0_shifted wsX4_placeAt := goodIn_r _ [23, 24, 25, 3, 26] (by decide +kernel) (by decide +kernel)
set_option maxRecDepth 20000 in
theorem gX0_shifted_X4_placeAt_n97 : GoodIn wsX0_shifted (wsX4_placeAt) := ggX0_shifted_X4_placeAt
theorem dX0_shifted_0 : decode cX0_shifted 0 = .ok (.iload_n 1, 1) := by decide +kernel
theorem dX0_shifted_1 : decode cX0_shifted 1 = .ok (.ifCond .ge 5, 3) := by decide +kernel
theorem dX0_shifted_4 : decode cX0_shifted 4 = .ok (.iconst (-1), 1) := by decide +kernel
theorem dX0_shifted_5 : decode cX0_shifted 5 = .ok (.ireturn, 1) := by decide +kernel
theorem dX0_shifted_6 : decode cX0_shifted 6 = .ok (.iload_n 1, 1) := by decide +kernel
theorem dX0_shifted_7 : decode cX0_shifted 7 = .ok (.invokestatic 62, 3) := by decide +kernel
theorem dX0_shifted_10 : decode cX0_shifted 10 = .ok (.istore_n 3, 1) := by decide +kernel
theorem dX0_shifted_11 : decode cX0_shifted 11 = .ok (.iload_n 1, 1) := by decide +kernel
theorem dX0_shifted_12 : decode cX0_shifted 12 = .ok (.invokestatic 66, 3) := by decide +kernel
theorem dX0_shifted_15 : decode cX0_shifted 15 = .ok (.iload_n 2, 1) := by decide +kernel
theorem dX0_shifted_16 : decode cX0_shifted 16 = .ok (.iload_n 3, 1) := by decide +kernel
theorem dX0_shifted_17 : decode cX0_shifted 17 = .ok (.invokestatic 69, 3) := by decide +kernel
theorem dX0_shifted_20 : decode cX0_shifted 20 = .ok (.imul, 1) := by decide +kernel
theorem dX0_shifted_21 : decode cX0_shifted 21 = .ok (.iadd, 1) := by decide +kernel
theorem dX0_shifted_22 : decode cX0_shifted 22 = .ok (.istore 4, 2) := by decide +kernel
theorem dX0_shifted_24 : decode cX0_shifted 24 = .ok (.iload_n 1, 1) := by decide +kernel
theorem dX0_shifted_25 : decode cX0_shifted 25 = .ok (.invokestatic 72, 3) := by decide +kernel
theorem dX0_shifted_28 : decode cX0_shifted 28 = .ok (.iload_n 2, 1) := by decide +kernel
theorem dX0_shifted_29 : decode cX0_shifted 29 = .ok (.iload_n 3, 1) := by decide +kernel
theorem dX0_shifted_30 : decode cX0_shifted 30 = .ok (.invokestatic 75, 3) := by decide +kernel
theorem dX0_shifted_33 : decode cX0_shifted 33 = .ok (.imul, 1) := by decide +kernel
theorem dX0_shifted_34 : decode cX0_shifted 34 = .ok (.iadd, 1) := by decide +kernel
theorem dX0_shifted_35 : decode cX0_shifted 35 = .ok (.istore 5, 2) := by decide +kernel
theorem dX0_shifted_37 : decode cX0_shifted 37 = .ok (.aload_n 0, 1) := by decide +kernel
theorem dX0_shifted_38 : decode cX0_shifted 38 = .ok (.getfield 21, 3) := by decide +kernel
theorem dX0_shifted_41 : decode cX0_shifted 41 = .ok (.iload 4, 2) := by decide +kernel
theorem dX0_shifted_43 : decode cX0_shifted 43 = .ok (.iload 5, 2) := by decide +kernel
theorem dX0_shifted_45 : decode cX0_shifted 45 = .ok (.invokevirtual 94, 3) := by decide +kernel
theorem dX0_shifted_48 : decode cX0_shifted 48 = .ok (.ifCond .eq 14, 3) := by decide +kernel
theorem dX0_shifted_51 : decode cX0_shifted 51 = .ok (.iload 4, 2) := by decide +kernel
theorem dX0_shifted_53 : decode cX0_shifted 53 = .ok (.iload 5, 2) := by decide +kernel
theorem dX0_shifted_55 : decode cX0_shifted 55 = .ok (.iload_n 3, 1) := by decide +kernel
theorem dX0_shifted_56 : decode cX0_shifted 56 = .ok (.invokestatic 97, 3) := by decide +kernel
theorem dX0_shifted_59 : decode cX0_shifted 59 = .ok (.goto 4, 3) := by decide +kernel
theorem dX0_shifted_62 : decode cX0_shifted 62 = .ok (.iconst (-1), 1) := by decide +kernel
theorem dX0_shifted_63 : decode cX0_shifted 63 = .ok (.ireturn, 1) := by decide +kernel
set_option maxRecDepth 20000 in
theorem ggX0_turned_X4_xOf : GoodIn wsX0_turned wsX4_xOf := goodIn_r _ [4] (by decide +kernel) (by decide +kernel)
set_option maxRecDepth 20000 in
theorem gX0_turned_X4_xOf_n66 : GoodIn wsX0_turned (wsX4_xOf) := ggX0_turned_X4_xOf
set_option maxRecDepth 20000 in
theorem ggX0_turned_X4_yOf : GoodIn wsX0_turned wsX4_yOf := goodIn_r _ [6] (by decide +kernel) (by decide +kernel)
set_option maxRecDepth 20000 in
theorem gX0_turned_X4_yOf_n72 : GoodIn wsX0_turned (wsX4_yOf) := ggX0_turned_X4_yOf
set_option maxRecDepth 20000 in
theorem ggX0_turned_X4_headingOf : GoodIn wsX0_turned wsX4_headingOf := goodIn_r _ [8] (by decide +kernel) (by decide +kernel)
set_option maxRecDepth 20000 in
theorem gX0_turned_X4_headingOf_n62 : GoodIn wsX0_turned (wsX4_headingOf) := ggX0_turned_X4_headingOf
set_option maxRecDepth 20000 in
theorem ggX0_turned_X4_placeAt : GoodIn wsX0_turned wsX4_placeAt := goodIn_r _ [10, 11, 12, 3, 13] (by decide +kernel) (by decide +kernel)
set_option maxRecDepth 20000 in
theorem gX0_turned_X4_placeAt_n97 : GoodIn wsX0_turned (wsX4_placeAt) := ggX0_turned_X4_placeAt
theorem dX0_turned_0 : decode cX0_turned 0 = .ok (.iload_n 1, 1) := by decide +kernel
theorem dX0_turned_1 : decode cX0_turned 1 = .ok (.ifCond .ge 5, 3) := by decide +kernel
theorem dX0_turned_4 : decode cX0_turned 4 = .ok (.iconst (-1), 1) := by decide +kernel
theorem dX0_turned_5 : decode cX0_turned 5 = .ok (.ireturn, 1) := by decide +kernel
theorem dX0_turned_6 : decode cX0_turned 6 = .ok (.iload_n 2, 1) := by decide +kernel
theorem dX0_turned_7 : decode cX0_turned 7 = .ok (.iconst 1, 1) := by decide +kernel
theorem dX0_turned_8 : decode cX0_turned 8 = .ok (.iand, 1) := by decide +kernel
theorem dX0_turned_9 : decode cX0_turned 9 = .ok (.ifCond .ne 13, 3) := by decide +kernel
theorem dX0_turned_12 : decode cX0_turned 12 = .ok (.aload_n 0, 1) := by decide +kernel
theorem dX0_turned_13 : decode cX0_turned 13 = .ok (.getfield 21, 3) := by decide +kernel
theorem dX0_turned_16 : decode cX0_turned 16 = .ok (.getfield 100, 3) := by decide +kernel
theorem dX0_turned_19 : decode cX0_turned 19 = .ok (.goto 11, 3) := by decide +kernel
theorem dX0_turned_22 : decode cX0_turned 22 = .ok (.aload_n 0, 1) := by decide +kernel
theorem dX0_turned_23 : decode cX0_turned 23 = .ok (.getfield 21, 3) := by decide +kernel
theorem dX0_turned_26 : decode cX0_turned 26 = .ok (.getfield 100, 3) := by decide +kernel
theorem dX0_turned_29 : decode cX0_turned 29 = .ok (.ineg, 1) := by decide +kernel
theorem dX0_turned_30 : decode cX0_turned 30 = .ok (.istore_n 3, 1) := by decide +kernel
theorem dX0_turned_31 : decode cX0_turned 31 = .ok (.iload_n 1, 1) := by decide +kernel
theorem dX0_turned_32 : decode cX0_turned 32 = .ok (.invokestatic 66, 3) := by decide +kernel
theorem dX0_turned_35 : decode cX0_turned 35 = .ok (.iload_n 1, 1) := by decide +kernel
theorem dX0_turned_36 : decode cX0_turned 36 = .ok (.invokestatic 72, 3) := by decide +kernel
theorem dX0_turned_39 : decode cX0_turned 39 = .ok (.iload_n 1, 1) := by decide +kernel
theorem dX0_turned_40 : decode cX0_turned 40 = .ok (.invokestatic 62, 3) := by decide +kernel
theorem dX0_turned_43 : decode cX0_turned 43 = .ok (.iload_n 3, 1) := by decide +kernel
theorem dX0_turned_44 : decode cX0_turned 44 = .ok (.iadd, 1) := by decide +kernel
theorem dX0_turned_45 : decode cX0_turned 45 = .ok (.bipush 7, 2) := by decide +kernel
theorem dX0_turned_47 : decode cX0_turned 47 = .ok (.iand, 1) := by decide +kernel
theorem dX0_turned_48 : decode cX0_turned 48 = .ok (.invokestatic 97, 3) := by decide +kernel
theorem dX0_turned_51 : decode cX0_turned 51 = .ok (.ireturn, 1) := by decide +kernel
theorem dX1_init_0 : decode cX1_init 0 = .ok (.aload_n 0, 1) := by decide +kernel
theorem dX1_init_1 : decode cX1_init 1 = .ok (.invokespecial 3, 3) := by decide +kernel
theorem dX1_init_4 : decode cX1_init 4 = .ok (.aload_n 0, 1) := by decide +kernel
theorem dX1_init_5 : decode cX1_init 5 = .ok (.iload_n 1, 1) := by decide +kernel
theorem dX1_init_6 : decode cX1_init 6 = .ok (.putfield 9, 3) := by decide +kernel
theorem dX1_init_9 : decode cX1_init 9 = .ok (.aload_n 0, 1) := by decide +kernel
theorem dX1_init_10 : decode cX1_init 10 = .ok (.iload_n 2, 1) := by decide +kernel
theorem dX1_init_11 : decode cX1_init 11 = .ok (.putfield 15, 3) := by decide +kernel
theorem dX1_init_14 : decode cX1_init 14 = .ok (.aload_n 0, 1) := by decide +kernel
theorem dX1_init_15 : decode cX1_init 15 = .ok (.iload_n 3, 1) := by decide +kernel
theorem dX1_init_16 : decode cX1_init 16 = .ok (.putfield 18, 3) := by decide +kernel
theorem dX1_init_19 : decode cX1_init 19 = .ok (.aload_n 0, 1) := by decide +kernel
theorem dX1_init_20 : decode cX1_init 20 = .ok (.iload_n 2, 1) := by decide +kernel
theorem dX1_init_21 : decode cX1_init 21 = .ok (.iconst 5, 1) := by decide +kernel
theorem dX1_init_22 : decode cX1_init 22 = .ok (.ishl, 1) := by decide +kernel
theorem dX1_init_23 : decode cX1_init 23 = .ok (.newarray .boolean, 2) := by decide +kernel
theorem dX1_init_25 : decode cX1_init 25 = .ok (.putfield 21, 3) := by decide +kernel
theorem dX1_init_28 : decode cX1_init 28 = .ok (.aload_n 0, 1) := by decide +kernel
theorem dX1_init_29 : decode cX1_init 29 = .ok (.iload_n 2, 1) := by decide +kernel
theorem dX1_init_30 : decode cX1_init 30 = .ok (.iconst 5, 1) := by decide +kernel
theorem dX1_init_31 : decode cX1_init 31 = .ok (.ishl, 1) := by decide +kernel
theorem dX1_init_32 : decode cX1_init 32 = .ok (.newarray .int, 2) := by decide +kernel
theorem dX1_init_34 : decode cX1_init 34 = .ok (.putfield 25, 3) := by decide +kernel
theorem dX1_init_37 : decode cX1_init 37 = .ok (.return_, 1) := by decide +kernel
theorem dX1_placeRoom_0 : decode cX1_placeRoom 0 = .ok (.aload_n 0, 1) := by decide +kernel
theorem dX1_placeRoom_1 : decode cX1_placeRoom 1 = .ok (.getfield 15, 3) := by decide +kernel
theorem dX1_placeRoom_4 : decode cX1_placeRoom 4 = .ok (.bipush 8, 2) := by decide +kernel
theorem dX1_placeRoom_6 : decode cX1_placeRoom 6 = .ok (.ishl, 1) := by decide +kernel
theorem dX1_placeRoom_7 : decode cX1_placeRoom 7 = .ok (.ireturn, 1) := by decide +kernel
theorem dX1_hasCell_0 : decode cX1_hasCell 0 = .ok (.iload_n 1, 1) := by decide +kernel
theorem dX1_hasCell_1 : decode cX1_hasCell 1 = .ok (.ifCond .lt 27, 3) := by decide +kernel
theorem dX1_hasCell_4 : decode cX1_hasCell 4 = .ok (.iload_n 1, 1) := by decide +kernel
theorem dX1_hasCell_5 : decode cX1_hasCell 5 = .ok (.aload_n 0, 1) := by decide +kernel
theorem dX1_hasCell_6 : decode cX1_hasCell 6 = .ok (.getfield 9, 3) := by decide +kernel
theorem dX1_hasCell_9 : decode cX1_hasCell 9 = .ok (.if_icmp .ge 19, 3) := by decide +kernel
theorem dX1_hasCell_12 : decode cX1_hasCell 12 = .ok (.iload_n 2, 1) := by decide +kernel
theorem dX1_hasCell_13 : decode cX1_hasCell 13 = .ok (.ifCond .lt 15, 3) := by decide +kernel
theorem dX1_hasCell_16 : decode cX1_hasCell 16 = .ok (.iload_n 2, 1) := by decide +kernel
theorem dX1_hasCell_17 : decode cX1_hasCell 17 = .ok (.aload_n 0, 1) := by decide +kernel
theorem dX1_hasCell_18 : decode cX1_hasCell 18 = .ok (.getfield 15, 3) := by decide +kernel
theorem dX1_hasCell_21 : decode cX1_hasCell 21 = .ok (.if_icmp .ge 7, 3) := by decide +kernel
theorem dX1_hasCell_24 : decode cX1_hasCell 24 = .ok (.iconst 1, 1) := by decide +kernel
theorem dX1_hasCell_25 : decode cX1_hasCell 25 = .ok (.goto 4, 3) := by decide +kernel
theorem dX1_hasCell_28 : decode cX1_hasCell 28 = .ok (.iconst 0, 1) := by decide +kernel
theorem dX1_hasCell_29 : decode cX1_hasCell 29 = .ok (.ireturn, 1) := by decide +kernel
set_option maxRecDepth 20000 in
theorem ggX1_hasHeading_X4_isFrom : GoodIn wsX1_hasHeading wsX4_isFrom := goodIn_r _ [4] (by decide +kernel) (by decide +kernel)
set_option maxRecDepth 20000 in
theorem gX1_hasHeading_X4_isFrom_n29 : GoodIn wsX1_hasHeading (wsX4_isFrom) := ggX1_hasHeading_X4_isFrom
theorem dX1_hasHeading_0 : decode cX1_hasHeading 0 = .ok (.iconst 0, 1) := by decide +kernel
theorem dX1_hasHeading_1 : decode cX1_hasHeading 1 = .ok (.iload_n 1, 1) := by decide +kernel
theorem dX1_hasHeading_2 : decode cX1_hasHeading 2 = .ok (.bipush 7, 2) := by decide +kernel
theorem dX1_hasHeading_4 : decode cX1_hasHeading 4 = .ok (.invokestatic 29, 3) := by decide +kernel
theorem dX1_hasHeading_7 : decode cX1_hasHeading 7 = .ok (.ifCond .eq 21, 3) := by decide +kernel
theorem dX1_hasHeading_10 : decode cX1_hasHeading 10 = .ok (.aload_n 0, 1) := by decide +kernel
theorem dX1_hasHeading_11 : decode cX1_hasHeading 11 = .ok (.getfield 18, 3) := by decide +kernel
theorem dX1_hasHeading_14 : decode cX1_hasHeading 14 = .ok (.iconst 1, 1) := by decide +kernel
theorem dX1_hasHeading_15 : decode cX1_hasHeading 15 = .ok (.if_icmp .eq 9, 3) := by decide +kernel
theorem dX1_hasHeading_18 : decode cX1_hasHeading 18 = .ok (.iload_n 1, 1) := by decide +kernel
theorem dX1_hasHeading_19 : decode cX1_hasHeading 19 = .ok (.iconst 1, 1) := by decide +kernel
theorem dX1_hasHeading_20 : decode cX1_hasHeading 20 = .ok (.iand, 1) := by decide +kernel
theorem dX1_hasHeading_21 : decode cX1_hasHeading 21 = .ok (.ifCond .ne 7, 3) := by decide +kernel
theorem dX1_hasHeading_24 : decode cX1_hasHeading 24 = .ok (.iconst 1, 1) := by decide +kernel
theorem dX1_hasHeading_25 : decode cX1_hasHeading 25 = .ok (.goto 4, 3) := by decide +kernel
theorem dX1_hasHeading_28 : decode cX1_hasHeading 28 = .ok (.iconst 0, 1) := by decide +kernel
theorem dX1_hasHeading_29 : decode cX1_hasHeading 29 = .ok (.ireturn, 1) := by decide +kernel
set_option maxRecDepth 20000 in
theorem ggX1_isFull_X1_hasCell : GoodIn wsX1_isFull wsX1_hasCell := goodIn_r _ [6, 7, 8, 12, 13, 14, 15, 16, 17] (by decide +kernel) (by decide +kernel)
set_option maxRecDepth 20000 in
theorem gX1_isFull_X1_hasCell : GoodIn wsX1_isFull (wsV RX1 33 RX1 yX1_hasCell wsX1_hasCell) := goodIn_app (goodIn_of _ (by decide +kernel)) ggX1_isFull_X1_hasCell
set_option maxRecDepth 20000 in
theorem ggX1_isFull_X4_cellAt : GoodIn wsX1_isFull wsX4_cellAt := goodIn_r _ [11] (by decide +kernel) (by decide +kernel)
set_option maxRecDepth 20000 in
theorem gX1_isFull_X4_cellAt_n37 : GoodIn wsX1_isFull (wsX4_cellAt) := ggX1_isFull_X4_cellAt
theorem dX1_isFull_0 : decode cX1_isFull 0 = .ok (.aload_n 0, 1) := by decide +kernel
theorem dX1_isFull_1 : decode cX1_isFull 1 = .ok (.iload_n 1, 1) := by decide +kernel
theorem dX1_isFull_2 : decode cX1_isFull 2 = .ok (.iload_n 2, 1) := by decide +kernel
theorem dX1_isFull_3 : decode cX1_isFull 3 = .ok (.invokevirtual 33, 3) := by decide +kernel
theorem dX1_isFull_6 : decode cX1_isFull 6 = .ok (.ifCond .eq 20, 3) := by decide +kernel
theorem dX1_isFull_9 : decode cX1_isFull 9 = .ok (.aload_n 0, 1) := by decide +kernel
theorem dX1_isFull_10 : decode cX1_isFull 10 = .ok (.getfield 21, 3) := by decide +kernel
theorem dX1_isFull_13 : decode cX1_isFull 13 = .ok (.iload_n 1, 1) := by decide +kernel
theorem dX1_isFull_14 : decode cX1_isFull 14 = .ok (.iload_n 2, 1) := by decide +kernel
theorem dX1_isFull_15 : decode cX1_isFull 15 = .ok (.invokestatic 37, 3) := by decide +kernel
theorem dX1_isFull_18 : decode cX1_isFull 18 = .ok (.baload, 1) := by decide +kernel
theorem dX1_isFull_19 : decode cX1_isFull 19 = .ok (.ifCond .eq 7, 3) := by decide +kernel
theorem dX1_isFull_22 : decode cX1_isFull 22 = .ok (.iconst 1, 1) := by decide +kernel
theorem dX1_isFull_23 : decode cX1_isFull 23 = .ok (.goto 4, 3) := by decide +kernel
theorem dX1_isFull_26 : decode cX1_isFull 26 = .ok (.iconst 0, 1) := by decide +kernel
theorem dX1_isFull_27 : decode cX1_isFull 27 = .ok (.ireturn, 1) := by decide +kernel
set_option maxRecDepth 20000 in
theorem ggX1_isKeptClear_X1_hasCell : GoodIn wsX1_isKeptClear wsX1_hasCell := goodIn_r _ [6, 7, 8, 12, 13, 14, 15, 16, 17] (by decide +kernel) (by decide +kernel)
set_option maxRecDepth 20000 in
theorem gX1_isKeptClear_X1_hasCell : GoodIn wsX1_isKeptClear (wsV RX1 33 RX1 yX1_hasCell wsX1_hasCell) := goodIn_app (goodIn_of _ (by decide +kernel)) ggX1_isKeptClear_X1_hasCell
set_option maxRecDepth 20000 in
theorem ggX1_isKeptClear_X4_cellAt : GoodIn wsX1_isKeptClear wsX4_cellAt := goodIn_r _ [11] (by decide +kernel) (by decide +kernel)
set_option maxRecDepth 20000 in
theorem gX1_isKeptClear_X4_cellAt_n37 : GoodIn wsX1_isKeptClear (wsX4_cellAt) := ggX1_isKeptClear_X4_cellAt
theorem dX1_isKeptClear_0 : decode cX1_isKeptClear 0 = .ok (.aload_n 0, 1) := by decide +kernel
theorem dX1_isKeptClear_1 : decode cX1_isKeptClear 1 = .ok (.iload_n 1, 1) := by decide +kernel
theorem dX1_isKeptClear_2 : decode cX1_isKeptClear 2 = .ok (.iload_n 2, 1) := by decide +kernel
theorem dX1_isKeptClear_3 : decode cX1_isKeptClear 3 = .ok (.invokevirtual 33, 3) := by decide +kernel
theorem dX1_isKeptClear_6 : decode cX1_isKeptClear 6 = .ok (.ifCond .eq 20, 3) := by decide +kernel
theorem dX1_isKeptClear_9 : decode cX1_isKeptClear 9 = .ok (.aload_n 0, 1) := by decide +kernel
theorem dX1_isKeptClear_10 : decode cX1_isKeptClear 10 = .ok (.getfield 25, 3) := by decide +kernel
theorem dX1_isKeptClear_13 : decode cX1_isKeptClear 13 = .ok (.iload_n 1, 1) := by decide +kernel
theorem dX1_isKeptClear_14 : decode cX1_isKeptClear 14 = .ok (.iload_n 2, 1) := by decide +kernel
theorem dX1_isKeptClear_15 : decode cX1_isKeptClear 15 = .ok (.invokestatic 37, 3) := by decide +kernel
theorem dX1_isKeptClear_18 : decode cX1_isKeptClear 18 = .ok (.iaload, 1) := by decide +kernel
theorem dX1_isKeptClear_19 : decode cX1_isKeptClear 19 = .ok (.ifCond .ne 7, 3) := by decide +kernel
theorem dX1_isKeptClear_22 : decode cX1_isKeptClear 22 = .ok (.iconst 1, 1) := by decide +kernel
theorem dX1_isKeptClear_23 : decode cX1_isKeptClear 23 = .ok (.goto 4, 3) := by decide +kernel
theorem dX1_isKeptClear_26 : decode cX1_isKeptClear 26 = .ok (.iconst 0, 1) := by decide +kernel
theorem dX1_isKeptClear_27 : decode cX1_isKeptClear 27 = .ok (.ireturn, 1) := by decide +kernel
set_option maxRecDepth 20000 in
theorem ggX1_setFull_X1_hasCell : GoodIn wsX1_setFull wsX1_hasCell := goodIn_r _ [6, 7, 8, 18, 19, 20, 21, 22, 23] (by decide +kernel) (by decide +kernel)
set_option maxRecDepth 20000 in
theorem gX1_setFull_X1_hasCell : GoodIn wsX1_setFull (wsV RX1 33 RX1 yX1_hasCell wsX1_hasCell) := goodIn_app (goodIn_of _ (by decide +kernel)) ggX1_setFull_X1_hasCell
set_option maxRecDepth 20000 in
theorem ggX1_setFull_X4_cellAt : GoodIn wsX1_setFull wsX4_cellAt := goodIn_r _ [11] (by decide +kernel) (by decide +kernel)
set_option maxRecDepth 20000 in
theorem gX1_setFull_X4_cellAt_n37 : GoodIn wsX1_setFull (wsX4_cellAt) := ggX1_setFull_X4_cellAt
set_option maxRecDepth 20000 in
theorem ggX1_setFull_X1_countAround : GoodIn wsX1_setFull wsX1_countAround := goodIn_r _ [15, 16, 17, 2, 3, 4, 5, 6, 7, 8, 9, 10, 11, 18, 19, 20, 21, 22, 23] (by decide +kernel) (by decide +kernel)
set_option maxRecDepth 20000 in
theorem gX1_setFull_X1_countAround : GoodIn wsX1_setFull (wsV RX1 41 RX1 yX1_countAround wsX1_countAround) := goodIn_app (goodIn_of _ (by decide +kernel)) ggX1_setFull_X1_countAround
theorem dX1_setFull_0 : decode cX1_setFull 0 = .ok (.aload_n 0, 1) := by decide +kernel
theorem dX1_setFull_1 : decode cX1_setFull 1 = .ok (.iload_n 1, 1) := by decide +kernel
theorem dX1_setFull_2 : decode cX1_setFull 2 = .ok (.iload_n 2, 1) := by decide +kernel
theorem dX1_setFull_3 : decode cX1_setFull 3 = .ok (.invokevirtual 33, 3) := by decide +kernel
theorem dX1_setFull_6 : decode cX1_setFull 6 = .ok (.ifCond .eq 17, 3) := by decide +kernel
theorem dX1_setFull_9 : decode cX1_setFull 9 = .ok (.aload_n 0, 1) := by decide +kernel
theorem dX1_setFull_10 : decode cX1_setFull 10 = .ok (.getfield 21, 3) := by decide +kernel
theorem dX1_setFull_13 : decode cX1_setFull 13 = .ok (.iload_n 1, 1) := by decide +kernel
theorem dX1_setFull_14 : decode cX1_setFull 14 = .ok (.iload_n 2, 1) := by decide +kernel
theorem dX1_setFull_15 : decode cX1_setFull 15 = .ok (.invokestatic 37, 3) := by decide +kernel
theorem dX1_setFull_18 : decode cX1_setFull 18 = .ok (.baload, 1) := by decide +kernel
theorem dX1_setFull_19 : decode cX1_setFull 19 = .ok (.iload_n 3, 1) := by decide +kernel
theorem dX1_setFull_20 : decode cX1_setFull 20 = .ok (.if_icmp .ne 5, 3) := by decide +kernel
theorem dX1_setFull_23 : decode cX1_setFull 23 = .ok (.iconst 0, 1) := by decide +kernel
theorem dX1_setFull_24 : decode cX1_setFull 24 = .ok (.ireturn, 1) := by decide +kernel
theorem dX1_setFull_25 : decode cX1_setFull 25 = .ok (.aload_n 0, 1) := by decide +kernel
theorem dX1_setFull_26 : decode cX1_setFull 26 = .ok (.getfield 21, 3) := by decide +kernel
theorem dX1_setFull_29 : decode cX1_setFull 29 = .ok (.iload_n 1, 1) := by decide +kernel
theorem dX1_setFull_30 : decode cX1_setFull 30 = .ok (.iload_n 2, 1) := by decide +kernel
theorem dX1_setFull_31 : decode cX1_setFull 31 = .ok (.invokestatic 37, 3) := by decide +kernel
theorem dX1_setFull_34 : decode cX1_setFull 34 = .ok (.iload_n 3, 1) := by decide +kernel
theorem dX1_setFull_35 : decode cX1_setFull 35 = .ok (.bastore, 1) := by decide +kernel
theorem dX1_setFull_36 : decode cX1_setFull 36 = .ok (.aload_n 0, 1) := by decide +kernel
theorem dX1_setFull_37 : decode cX1_setFull 37 = .ok (.iload_n 1, 1) := by decide +kernel
theorem dX1_setFull_38 : decode cX1_setFull 38 = .ok (.iload_n 2, 1) := by decide +kernel
theorem dX1_setFull_39 : decode cX1_setFull 39 = .ok (.iload_n 3, 1) := by decide +kernel
theorem dX1_setFull_40 : decode cX1_setFull 40 = .ok (.ifCond .eq 7, 3) := by decide +kernel
theorem dX1_setFull_43 : decode cX1_setFull 43 = .ok (.iconst 1, 1) := by decide +kernel
theorem dX1_setFull_44 : decode cX1_setFull 44 = .ok (.goto 4, 3) := by decide +kernel
theorem dX1_setFull_47 : decode cX1_setFull 47 = .ok (.iconst (-1), 1) := by decide +kernel
theorem dX1_setFull_48 : decode cX1_setFull 48 = .ok (.invokevirtual 41, 3) := by decide +kernel
theorem dX1_setFull_51 : decode cX1_setFull 51 = .ok (.iconst 1, 1) := by decide +kernel
theorem dX1_setFull_52 : decode cX1_setFull 52 = .ok (.ireturn, 1) := by decide +kernel
set_option maxRecDepth 20000 in
theorem ggX1_setKeep_J7_fill_53178 : GoodIn wsX1_setKeep wsJ7_fill_53178 := goodIn_r _ [8] (by decide +kernel) (by decide +kernel)
set_option maxRecDepth 20000 in
theorem gX1_setKeep_J7_fill_53178 : GoodIn wsX1_setKeep (va_wsS RX1 48 yJ7_fill_53178 wsJ7_fill_53178) := goodIn_app (goodIn_of _ (by decide +kernel)) ggX1_setKeep_J7_fill_53178
set_option maxRecDepth 20000 in
theorem ggX1_setKeep_X1_isFull : GoodIn wsX1_setKeep wsX1_isFull := goodIn_r _ [13, 14, 15, 16, 17, 12, 18, 4, 3, 19, 20, 21, 26, 27, 28, 29, 30, 31] (by decide +kernel) (by decide +kernel)
set_option maxRecDepth 20000 in
theorem gX1_setKeep_X1_isFull : GoodIn wsX1_setKeep (wsV RX1 54 RX1 yX1_isFull wsX1_isFull) := goodIn_app (goodIn_of _ (by decide +kernel)) ggX1_setKeep_X1_isFull
set_option maxRecDepth 20000 in
theorem ggX1_setKeep_X1_countAround : GoodIn wsX1_setKeep wsX1_countAround := goodIn_r _ [25, 1, 2, 15, 16, 17, 12, 18, 4, 3, 19, 20, 21, 26, 27, 28, 29, 30, 31] (by decide +kernel) (by decide +kernel)
set_option maxRecDepth 20000 in
theorem gX1_setKeep_X1_countAround : GoodIn wsX1_setKeep (wsV RX1 41 RX1 yX1_countAround wsX1_countAround) := goodIn_app (goodIn_of _ (by decide +kernel)) ggX1_setKeep_X1_countAround
theorem dX1_setKeep_0 : decode cX1_setKeep 0 = .ok (.aload_n 0, 1) := by decide +kernel
theorem dX1_setKeep_1 : decode cX1_setKeep 1 = .ok (.iload_n 1, 1) := by decide +kernel
theorem dX1_setKeep_2 : decode cX1_setKeep 2 = .ok (.putfield 45, 3) := by decide +kernel
theorem dX1_setKeep_5 : decode cX1_setKeep 5 = .ok (.aload_n 0, 1) := by decide +kernel
theorem dX1_setKeep_6 : decode cX1_setKeep 6 = .ok (.getfield 25, 3) := by decide +kernel
theorem dX1_setKeep_9 : decode cX1_setKeep 9 = .ok (.iconst 0, 1) := by decide +kernel
theorem dX1_setKeep_10 : decode cX1_setKeep 10 = .ok (.invokestatic 48, 3) := by decide +kernel
theorem dX1_setKeep_13 : decode cX1_setKeep 13 = .ok (.iconst 0, 1) := by decide +kernel
theorem dX1_setKeep_14 : decode cX1_setKeep 14 = .ok (.istore_n 2, 1) := by decide +kernel
theorem dX1_setKeep_15 : decode cX1_setKeep 15 = .ok (.iload_n 2, 1) := by decide +kernel
theorem dX1_setKeep_16 : decode cX1_setKeep 16 = .ok (.aload_n 0, 1) := by decide +kernel
theorem dX1_setKeep_17 : decode cX1_setKeep 17 = .ok (.getfield 15, 3) := by decide +kernel
theorem dX1_setKeep_20 : decode cX1_setKeep 20 = .ok (.if_icmp .ge 41, 3) := by decide +kernel
theorem dX1_setKeep_23 : decode cX1_setKeep 23 = .ok (.iconst 0, 1) := by decide +kernel
theorem dX1_setKeep_24 : decode cX1_setKeep 24 = .ok (.istore_n 3, 1) := by decide +kernel
theorem dX1_setKeep_25 : decode cX1_setKeep 25 = .ok (.iload_n 3, 1) := by decide +kernel
theorem dX1_setKeep_26 : decode cX1_setKeep 26 = .ok (.aload_n 0, 1) := by decide +kernel
theorem dX1_setKeep_27 : decode cX1_setKeep 27 = .ok (.getfield 9, 3) := by decide +kernel
theorem dX1_setKeep_30 : decode cX1_setKeep 30 = .ok (.if_icmp .ge 25, 3) := by decide +kernel
theorem dX1_setKeep_33 : decode cX1_setKeep 33 = .ok (.aload_n 0, 1) := by decide +kernel
theorem dX1_setKeep_34 : decode cX1_setKeep 34 = .ok (.iload_n 3, 1) := by decide +kernel
theorem dX1_setKeep_35 : decode cX1_setKeep 35 = .ok (.iload_n 2, 1) := by decide +kernel
theorem dX1_setKeep_36 : decode cX1_setKeep 36 = .ok (.invokevirtual 54, 3) := by decide +kernel
theorem dX1_setKeep_39 : decode cX1_setKeep 39 = .ok (.ifCond .eq 10, 3) := by decide +kernel
theorem dX1_setKeep_42 : decode cX1_setKeep 42 = .ok (.aload_n 0, 1) := by decide +kernel
theorem dX1_setKeep_43 : decode cX1_setKeep 43 = .ok (.iload_n 3, 1) := by decide +kernel
theorem dX1_setKeep_44 : decode cX1_setKeep 44 = .ok (.iload_n 2, 1) := by decide +kernel
theorem dX1_setKeep_45 : decode cX1_setKeep 45 = .ok (.iconst 1, 1) := by decide +kernel
theorem dX1_setKeep_46 : decode cX1_setKeep 46 = .ok (.invokevirtual 41, 3) := by decide +kernel
theorem dX1_setKeep_49 : decode cX1_setKeep 49 = .ok (.iinc 3 1, 3) := by decide +kernel
theorem dX1_setKeep_52 : decode cX1_setKeep 52 = .ok (.goto (-27), 3) := by decide +kernel
theorem dX1_setKeep_55 : decode cX1_setKeep 55 = .ok (.iinc 2 1, 3) := by decide +kernel
theorem dX1_setKeep_58 : decode cX1_setKeep 58 = .ok (.goto (-43), 3) := by decide +kernel
theorem dX1_setKeep_61 : decode cX1_setKeep 61 = .ok (.return_, 1) := by decide +kernel
set_option maxRecDepth 20000 in
theorem ggX1_countAround_X1_hasCell : GoodIn wsX1_countAround wsX1_hasCell := goodIn_r _ [7, 8, 9, 13, 14, 15, 16, 17, 18] (by decide +kernel) (by decide +kernel)
set_option maxRecDepth 20000 in
theorem gX1_countAround_X1_hasCell : GoodIn wsX1_countAround (wsV RX1 33 RX1 yX1_hasCell wsX1_hasCell) := goodIn_app (goodIn_of _ (by decide +kernel)) ggX1_countAround_X1_hasCell
set_option maxRecDepth 20000 in
theorem ggX1_countAround_X4_cellAt : GoodIn wsX1_countAround wsX4_cellAt := goodIn_r _ [12] (by decide +kernel) (by decide +kernel)
set_option maxRecDepth 20000 in
theorem gX1_countAround_X4_cellAt_n37 : GoodIn wsX1_countAround (wsX4_cellAt) := ggX1_countAround_X4_cellAt
theorem dX1_countAround_0 : decode cX1_countAround 0 = .ok (.iload_n 2, 1) := by decide +kernel
theorem dX1_countAround_1 : decode cX1_countAround 1 = .ok (.aload_n 0, 1) := by decide +kernel
theorem dX1_countAround_2 : decode cX1_countAround 2 = .ok (.getfield 45, 3) := by decide +kernel
theorem dX1_countAround_5 : decode cX1_countAround 5 = .ok (.isub, 1) := by decide +kernel
theorem dX1_countAround_6 : decode cX1_countAround 6 = .ok (.istore 4, 2) := by decide +kernel
theorem dX1_countAround_8 : decode cX1_countAround 8 = .ok (.iload 4, 2) := by decide +kernel
theorem dX1_countAround_10 : decode cX1_countAround 10 = .ok (.iload_n 2, 1) := by decide +kernel
theorem dX1_countAround_11 : decode cX1_countAround 11 = .ok (.aload_n 0, 1) := by decide +kernel
theorem dX1_countAround_12 : decode cX1_countAround 12 = .ok (.getfield 45, 3) := by decide +kernel
theorem dX1_countAround_15 : decode cX1_countAround 15 = .ok (.iadd, 1) := by decide +kernel
theorem dX1_countAround_16 : decode cX1_countAround 16 = .ok (.if_icmp .gt 61, 3) := by decide +kernel
theorem dX1_countAround_19 : decode cX1_countAround 19 = .ok (.iload_n 1, 1) := by decide +kernel
theorem dX1_countAround_20 : decode cX1_countAround 20 = .ok (.aload_n 0, 1) := by decide +kernel
theorem dX1_countAround_21 : decode cX1_countAround 21 = .ok (.getfield 45, 3) := by decide +kernel
theorem dX1_countAround_24 : decode cX1_countAround 24 = .ok (.isub, 1) := by decide +kernel
theorem dX1_countAround_25 : decode cX1_countAround 25 = .ok (.istore 5, 2) := by decide +kernel
theorem dX1_countAround_27 : decode cX1_countAround 27 = .ok (.iload 5, 2) := by decide +kernel
theorem dX1_countAround_29 : decode cX1_countAround 29 = .ok (.iload_n 1, 1) := by decide +kernel
theorem dX1_countAround_30 : decode cX1_countAround 30 = .ok (.aload_n 0, 1) := by decide +kernel
theorem dX1_countAround_31 : decode cX1_countAround 31 = .ok (.getfield 45, 3) := by decide +kernel
theorem dX1_countAround_34 : decode cX1_countAround 34 = .ok (.iadd, 1) := by decide +kernel
theorem dX1_countAround_35 : decode cX1_countAround 35 = .ok (.if_icmp .gt 36, 3) := by decide +kernel
theorem dX1_countAround_38 : decode cX1_countAround 38 = .ok (.aload_n 0, 1) := by decide +kernel
theorem dX1_countAround_39 : decode cX1_countAround 39 = .ok (.iload 5, 2) := by decide +kernel
theorem dX1_countAround_41 : decode cX1_countAround 41 = .ok (.iload 4, 2) := by decide +kernel
theorem dX1_countAround_43 : decode cX1_countAround 43 = .ok (.invokevirtual 33, 3) := by decide +kernel
theorem dX1_countAround_46 : decode cX1_countAround 46 = .ok (.ifCond .eq 19, 3) := by decide +kernel
theorem dX1_countAround_49 : decode cX1_countAround 49 = .ok (.aload_n 0, 1) := by decide +kernel
theorem dX1_countAround_50 : decode cX1_countAround 50 = .ok (.getfield 25, 3) := by decide +kernel
theorem dX1_countAround_53 : decode cX1_countAround 53 = .ok (.iload 5, 2) := by decide +kernel
theorem dX1_countAround_55 : decode cX1_countAround 55 = .ok (.iload 4, 2) := by decide +kernel
theorem dX1_countAround_57 : decode cX1_countAround 57 = .ok (.invokestatic 37, 3) := by decide +kernel
theorem dX1_countAround_60 : decode cX1_countAround 60 = .ok (.dup2, 1) := by decide +kernel
theorem dX1_countAround_61 : decode cX1_countAround 61 = .ok (.iaload, 1) := by decide +kernel
theorem dX1_countAround_62 : decode cX1_countAround 62 = .ok (.iload_n 3, 1) := by decide +kernel
theorem dX1_countAround_63 : decode cX1_countAround 63 = .ok (.iadd, 1) := by decide +kernel
theorem dX1_countAround_64 : decode cX1_countAround 64 = .ok (.iastore, 1) := by decide +kernel
theorem dX1_countAround_65 : decode cX1_countAround 65 = .ok (.iinc 5 1, 3) := by decide +kernel
theorem dX1_countAround_68 : decode cX1_countAround 68 = .ok (.goto (-41), 3) := by decide +kernel
theorem dX1_countAround_71 : decode cX1_countAround 71 = .ok (.iinc 4 1, 3) := by decide +kernel
theorem dX1_countAround_74 : decode cX1_countAround 74 = .ok (.goto (-66), 3) := by decide +kernel
theorem dX1_countAround_77 : decode cX1_countAround 77 = .ok (.return_, 1) := by decide +kernel
set_option maxRecDepth 20000 in
theorem ggX1_runLength_X1_isFull : GoodIn wsX1_runLength wsX1_isFull := goodIn_r _ [6, 7, 8, 9, 10, 5, 11, 1, 12, 13, 14, 15, 16, 17, 18, 19, 20, 21] (by decide +kernel) (by decide +kernel)
set_option maxRecDepth 20000 in
theorem gX1_runLength_X1_isFull : GoodIn wsX1_runLength (wsV RX1 54 RX1 yX1_isFull wsX1_isFull) := goodIn_app (goodIn_of _ (by decide +kernel)) ggX1_runLength_X1_isFull
theorem dX1_runLength_0 : decode cX1_runLength 0 = .ok (.iconst 0, 1) := by decide +kernel
theorem dX1_runLength_1 : decode cX1_runLength 1 = .ok (.istore_n 3, 1) := by decide +kernel
theorem dX1_runLength_2 : decode cX1_runLength 2 = .ok (.iload_n 1, 1) := by decide +kernel
theorem dX1_runLength_3 : decode cX1_runLength 3 = .ok (.istore 4, 2) := by decide +kernel
theorem dX1_runLength_5 : decode cX1_runLength 5 = .ok (.iload 4, 2) := by decide +kernel
theorem dX1_runLength_7 : decode cX1_runLength 7 = .ok (.aload_n 0, 1) := by decide +kernel
theorem dX1_runLength_8 : decode cX1_runLength 8 = .ok (.getfield 9, 3) := by decide +kernel
theorem dX1_runLength_11 : decode cX1_runLength 11 = .ok (.if_icmp .ge 22, 3) := by decide +kernel
theorem dX1_runLength_14 : decode cX1_runLength 14 = .ok (.aload_n 0, 1) := by decide +kernel
theorem dX1_runLength_15 : decode cX1_runLength 15 = .ok (.iload 4, 2) := by decide +kernel
theorem dX1_runLength_17 : decode cX1_runLength 17 = .ok (.iload_n 2, 1) := by decide +kernel
theorem dX1_runLength_18 : decode cX1_runLength 18 = .ok (.invokevirtual 54, 3) := by decide +kernel
theorem dX1_runLength_21 : decode cX1_runLength 21 = .ok (.ifCond .ne 12, 3) := by decide +kernel
theorem dX1_runLength_24 : decode cX1_runLength 24 = .ok (.iinc 3 1, 3) := by decide +kernel
theorem dX1_runLength_27 : decode cX1_runLength 27 = .ok (.iinc 4 1, 3) := by decide +kernel
theorem dX1_runLength_30 : decode cX1_runLength 30 = .ok (.goto (-25), 3) := by decide +kernel
theorem dX1_runLength_33 : decode cX1_runLength 33 = .ok (.iload_n 3, 1) := by decide +kernel
theorem dX1_runLength_34 : decode cX1_runLength 34 = .ok (.ireturn, 1) := by decide +kernel
set_option maxRecDepth 20000 in
theorem ggX1_firstRun_X1_runLength : GoodIn wsX1_firstRun wsX1_runLength := goodIn_r _ [6, 1, 7, 8, 9, 5, 10, 11, 12, 13, 14, 15, 16, 17, 18, 19, 20, 21, 22, 23, 24, 25] (by decide +kernel) (by decide +kernel)
set_option maxRecDepth 20000 in
theorem gX1_firstRun_X1_runLength : GoodIn wsX1_firstRun (wsV RX1 57 RX1 yX1_runLength wsX1_runLength) := goodIn_app (goodIn_of _ (by decide +kernel)) ggX1_firstRun_X1_runLength
theorem dX1_firstRun_0 : decode cX1_firstRun 0 = .ok (.iconst 0, 1) := by decide +kernel
theorem dX1_firstRun_1 : decode cX1_firstRun 1 = .ok (.istore_n 3, 1) := by decide +kernel
theorem dX1_firstRun_2 : decode cX1_firstRun 2 = .ok (.iload_n 3, 1) := by decide +kernel
theorem dX1_firstRun_3 : decode cX1_firstRun 3 = .ok (.aload_n 0, 1) := by decide +kernel
theorem dX1_firstRun_4 : decode cX1_firstRun 4 = .ok (.getfield 9, 3) := by decide +kernel
theorem dX1_firstRun_7 : decode cX1_firstRun 7 = .ok (.if_icmp .ge 21, 3) := by decide +kernel
theorem dX1_firstRun_10 : decode cX1_firstRun 10 = .ok (.aload_n 0, 1) := by decide +kernel
theorem dX1_firstRun_11 : decode cX1_firstRun 11 = .ok (.iload_n 3, 1) := by decide +kernel
theorem dX1_firstRun_12 : decode cX1_firstRun 12 = .ok (.iload_n 1, 1) := by decide +kernel
theorem dX1_firstRun_13 : decode cX1_firstRun 13 = .ok (.invokevirtual 57, 3) := by decide +kernel
theorem dX1_firstRun_16 : decode cX1_firstRun 16 = .ok (.iload_n 2, 1) := by decide +kernel
theorem dX1_firstRun_17 : decode cX1_firstRun 17 = .ok (.if_icmp .lt 5, 3) := by decide +kernel
theorem dX1_firstRun_20 : decode cX1_firstRun 20 = .ok (.iload_n 3, 1) := by decide +kernel
theorem dX1_firstRun_21 : decode cX1_firstRun 21 = .ok (.ireturn, 1) := by decide +kernel
theorem dX1_firstRun_22 : decode cX1_firstRun 22 = .ok (.iinc 3 1, 3) := by decide +kernel
theorem dX1_firstRun_25 : decode cX1_firstRun 25 = .ok (.goto (-23), 3) := by decide +kernel
theorem dX1_firstRun_28 : decode cX1_firstRun 28 = .ok (.iconst (-1), 1) := by decide +kernel
theorem dX1_firstRun_29 : decode cX1_firstRun 29 = .ok (.ireturn, 1) := by decide +kernel
set_option maxRecDepth 20000 in
theorem ggX1_distanceToFull_X1_isFull : GoodIn wsX1_distanceToFull wsX1_isFull := goodIn_r _ [15, 16, 17, 18, 19, 14, 20, 21, 22, 23, 24, 25, 26, 27, 28, 29, 30, 31] (by decide +kernel) (by decide +kernel)
set_option maxRecDepth 20000 in
theorem gX1_distanceToFull_X1_isFull : GoodIn wsX1_distanceToFull (wsV RX1 54 RX1 yX1_isFull wsX1_isFull) := goodIn_app (goodIn_of _ (by decide +kernel)) ggX1_distanceToFull_X1_isFull
theorem dX1_distanceToFull_0 : decode cX1_distanceToFull 0 = .ok (.iload_n 3, 1) := by decide +kernel
theorem dX1_distanceToFull_1 : decode cX1_distanceToFull 1 = .ok (.istore 4, 2) := by decide +kernel
theorem dX1_distanceToFull_3 : decode cX1_distanceToFull 3 = .ok (.iload_n 2, 1) := by decide +kernel
theorem dX1_distanceToFull_4 : decode cX1_distanceToFull 4 = .ok (.iload_n 3, 1) := by decide +kernel
theorem dX1_distanceToFull_5 : decode cX1_distanceToFull 5 = .ok (.isub, 1) := by decide +kernel
theorem dX1_distanceToFull_6 : decode cX1_distanceToFull 6 = .ok (.istore 5, 2) := by decide +kernel
theorem dX1_distanceToFull_8 : decode cX1_distanceToFull 8 = .ok (.iload 5, 2) := by decide +kernel
theorem dX1_distanceToFull_10 : decode cX1_distanceToFull 10 = .ok (.iload_n 2, 1) := by decide +kernel
theorem dX1_distanceToFull_11 : decode cX1_distanceToFull 11 = .ok (.iload_n 3, 1) := by decide +kernel
theorem dX1_distanceToFull_12 : decode cX1_distanceToFull 12 = .ok (.iadd, 1) := by decide +kernel
theorem dX1_distanceToFull_13 : decode cX1_distanceToFull 13 = .ok (.if_icmp .gt 63, 3) := by decide +kernel
theorem dX1_distanceToFull_16 : decode cX1_distanceToFull 16 = .ok (.iload_n 1, 1) := by decide +kernel
theorem dX1_distanceToFull_17 : decode cX1_distanceToFull 17 = .ok (.iload_n 3, 1) := by decide +kernel
theorem dX1_distanceToFull_18 : decode cX1_distanceToFull 18 = .ok (.isub, 1) := by decide +kernel
theorem dX1_distanceToFull_19 : decode cX1_distanceToFull 19 = .ok (.istore 6, 2) := by decide +kernel
theorem dX1_distanceToFull_21 : decode cX1_distanceToFull 21 = .ok (.iload 6, 2) := by decide +kernel
theorem dX1_distanceToFull_23 : decode cX1_distanceToFull 23 = .ok (.iload_n 1, 1) := by decide +kernel
theorem dX1_distanceToFull_24 : decode cX1_distanceToFull 24 = .ok (.iload_n 3, 1) := by decide +kernel
theorem dX1_distanceToFull_25 : decode cX1_distanceToFull 25 = .ok (.iadd, 1) := by decide +kernel
theorem dX1_distanceToFull_26 : decode cX1_distanceToFull 26 = .ok (.if_icmp .gt 44, 3) := by decide +kernel
theorem dX1_distanceToFull_29 : decode cX1_distanceToFull 29 = .ok (.aload_n 0, 1) := by decide +kernel
theorem dX1_distanceToFull_30 : decode cX1_distanceToFull 30 = .ok (.iload 6, 2) := by decide +kernel
theorem dX1_distanceToFull_32 : decode cX1_distanceToFull 32 = .ok (.iload 5, 2) := by decide +kernel
theorem dX1_distanceToFull_34 : decode cX1_distanceToFull 34 = .ok (.invokevirtual 54, 3) := by decide +kernel
theorem dX1_distanceToFull_37 : decode cX1_distanceToFull 37 = .ok (.ifCond .eq 27, 3) := by decide +kernel
theorem dX1_distanceToFull_40 : decode cX1_distanceToFull 40 = .ok (.iload 4, 2) := by decide +kernel
theorem dX1_distanceToFull_42 : decode cX1_distanceToFull 42 = .ok (.iload 6, 2) := by decide +kernel
theorem dX1_distanceToFull_44 : decode cX1_distanceToFull 44 = .ok (.iload_n 1, 1) := by decide +kernel
theorem dX1_distanceToFull_45 : decode cX1_distanceToFull 45 = .ok (.isub, 1) := by decide +kernel
theorem dX1_distanceToFull_46 : decode cX1_distanceToFull 46 = .ok (.invokestatic 60, 3) := by decide +kernel
theorem dX1_distanceToFull_49 : decode cX1_distanceToFull 49 = .ok (.iload 5, 2) := by decide +kernel
theorem dX1_distanceToFull_51 : decode cX1_distanceToFull 51 = .ok (.iload_n 2, 1) := by decide +kernel
theorem dX1_distanceToFull_52 : decode cX1_distanceToFull 52 = .ok (.isub, 1) := by decide +kernel
theorem dX1_distanceToFull_53 : decode cX1_distanceToFull 53 = .ok (.invokestatic 60, 3) := by decide +kernel
theorem dX1_distanceToFull_56 : decode cX1_distanceToFull 56 = .ok (.invokestatic 66, 3) := by decide +kernel
theorem dX1_distanceToFull_59 : decode cX1_distanceToFull 59 = .ok (.invokestatic 69, 3) := by decide +kernel
theorem dX1_distanceToFull_62 : decode cX1_distanceToFull 62 = .ok (.istore 4, 2) := by decide +kernel
theorem dX1_distanceToFull_64 : decode cX1_distanceToFull 64 = .ok (.iinc 6 1, 3) := by decide +kernel
theorem dX1_distanceToFull_67 : decode cX1_distanceToFull 67 = .ok (.goto (-46), 3) := by decide +kernel
theorem dX1_distanceToFull_70 : decode cX1_distanceToFull 70 = .ok (.iinc 5 1, 3) := by decide +kernel
theorem dX1_distanceToFull_73 : decode cX1_distanceToFull 73 = .ok (.goto (-65), 3) := by decide +kernel
theorem dX1_distanceToFull_76 : decode cX1_distanceToFull 76 = .ok (.iload 4, 2) := by decide +kernel
theorem dX1_distanceToFull_78 : decode cX1_distanceToFull 78 = .ok (.ireturn, 1) := by decide +kernel
theorem dX2_init_0 : decode cX2_init 0 = .ok (.aload_n 0, 1) := by decide +kernel
theorem dX2_init_1 : decode cX2_init 1 = .ok (.invokespecial 3, 3) := by decide +kernel
theorem dX2_init_4 : decode cX2_init 4 = .ok (.aload_n 0, 1) := by decide +kernel
theorem dX2_init_5 : decode cX2_init 5 = .ok (.aload_n 1, 1) := by decide +kernel
theorem dX2_init_6 : decode cX2_init 6 = .ok (.putfield 9, 3) := by decide +kernel
theorem dX2_init_9 : decode cX2_init 9 = .ok (.aload_n 0, 1) := by decide +kernel
theorem dX2_init_10 : decode cX2_init 10 = .ok (.iload_n 2, 1) := by decide +kernel
theorem dX2_init_11 : decode cX2_init 11 = .ok (.newarray .long, 2) := by decide +kernel
theorem dX2_init_13 : decode cX2_init 13 = .ok (.putfield 15, 3) := by decide +kernel
theorem dX2_init_16 : decode cX2_init 16 = .ok (.aload_n 0, 1) := by decide +kernel
theorem dX2_init_17 : decode cX2_init 17 = .ok (.iload_n 2, 1) := by decide +kernel
theorem dX2_init_18 : decode cX2_init 18 = .ok (.newarray .int, 2) := by decide +kernel
theorem dX2_init_20 : decode cX2_init 20 = .ok (.putfield 19, 3) := by decide +kernel
theorem dX2_init_23 : decode cX2_init 23 = .ok (.return_, 1) := by decide +kernel
set_option maxRecDepth 20000 in
theorem ggX2_spreadFrom_J7_fill_d0a16 : GoodIn wsX2_spreadFrom wsJ7_fill_d0a16 := goodIn_r _ [9] (by decide +kernel) (by decide +kernel)
set_option maxRecDepth 20000 in
theorem gX2_spreadFrom_J7_fill_d0a16 : GoodIn wsX2_spreadFrom (va_wsS RX2 25 yJ7_fill_d0a16 wsJ7_fill_d0a16) := goodIn_app (goodIn_of _ (by decide +kernel)) ggX2_spreadFrom_J7_fill_d0a16
set_option maxRecDepth 20000 in
theorem ggX2_spreadFrom_X0_isFree : GoodIn wsX2_spreadFrom wsX0_isFree := goodIn_r _ [14, 15, 16, 17, 18, 13, 19, 20, 21, 22, 23, 24, 25, 26, 27, 28, 29, 30, 31, 32, 33, 34, 35, 36, 37, 38, 39, 40, 41, 42, 43, 44, 45, 46, 47, 48, 49, 50, 51, 52, 53, 54, 55, 108, 109, 110, 111, 112, 113, 114, 115, 116, 117, 118] (by decide +kernel) (by decide +kernel)
set_option maxRecDepth 20000 in
theorem gX2_spreadFrom_X0_isFree : GoodIn wsX2_spreadFrom (wsV RX2 35 RX0 yX0_isFree wsX0_isFree) := goodIn_app (goodIn_of _ (by decide +kernel)) ggX2_spreadFrom_X0_isFree
set_option maxRecDepth 20000 in
theorem ggX2_spreadFrom_X2_reach : GoodIn wsX2_spreadFrom wsX2_reach := goodIn_r _ [60, 1, 2, 3, 5, 104, 105, 106, 107] (by decide +kernel) (by decide +kernel)
set_option maxRecDepth 20000 in
theorem gX2_spreadFrom_X2_reach : GoodIn wsX2_spreadFrom (wsV RX2 41 RX2 yX2_reach wsX2_reach) := goodIn_app (goodIn_of _ (by decide +kernel)) ggX2_spreadFrom_X2_reach
set_option maxRecDepth 20000 in
theorem ggX2_spreadFrom_X0_landing : GoodIn wsX2_spreadFrom wsX0_landing := goodIn_r _ [64, 65, 66, 67, 13, 68, 69, 70, 71, 72, 73, 74, 75, 22, 26, 27, 28, 29, 30, 31, 32, 33, 37, 38, 39, 40, 41, 76, 49, 50, 45, 51, 52, 53, 77, 78, 79, 54, 55, 80, 81, 82, 83, 108, 109, 110, 111, 112, 113, 114, 115, 116, 117, 118] (by decide +kernel) (by decide +kernel)
set_option maxRecDepth 20000 in
theorem gX2_spreadFrom_X0_landing : GoodIn wsX2_spreadFrom (wsV RX2 45 RX0 yX0_landing wsX0_landing) := goodIn_app (goodIn_of _ (by decide +kernel)) ggX2_spreadFrom_X0_landing
set_option maxRecDepth 20000 in
theorem ggX2_spreadFrom_X2_costAt : GoodIn wsX2_spreadFrom wsX2_costAt := goodIn_r _ [87, 1, 2, 104, 105, 106, 107] (by decide +kernel) (by decide +kernel)
set_option maxRecDepth 20000 in
theorem gX2_spreadFrom_X2_costAt : GoodIn wsX2_spreadFrom (wsV RX2 49 RX2 yX2_costAt wsX2_costAt) := goodIn_app (goodIn_of _ (by decide +kernel)) ggX2_spreadFrom_X2_costAt
set_option maxRecDepth 20000 in
theorem ggX2_spreadFrom_X2_costOf : GoodIn wsX2_spreadFrom wsX2_costOf := goodIn_r _ [91, 92, 4, 93, 94, 95, 96, 13, 97, 65, 69, 70, 71, 98, 104, 105, 106, 107, 108, 109, 110, 111, 112] (by decide +kernel) (by decide +kernel)
set_option maxRecDepth 20000 in
theorem gX2_spreadFrom_X2_costOf : GoodIn wsX2_spreadFrom (wsV RX2 53 RX2 yX2_costOf wsX2_costOf) := goodIn_app (goodIn_of _ (by decide +kernel)) ggX2_spreadFrom_X2_costOf
set_option maxRecDepth 20000 in
theorem ggX2_spreadFrom_X0_mayMake : GoodIn wsX2_spreadFrom wsX0_mayMake := goodIn_r _ [102, 65, 66, 67, 13, 68, 69, 70, 71, 72, 73, 74, 75, 22, 26, 27, 28, 29, 30, 31, 32, 33, 37, 38, 39, 40, 41, 76, 49, 50, 45, 51, 52, 53, 77, 78, 79, 54, 55, 80, 81, 82, 83, 103, 11, 12, 14, 15, 16, 17, 18, 19, 20, 21, 23, 24, 25, 34, 35, 36, 42, 43, 44, 46, 47, 48, 108, 109, 110, 111, 112, 113, 114, 115, 116, 117, 118] (by decide +kernel) (by decide +kernel)
set_option maxRecDepth 20000 in
theorem gX2_spreadFrom_X0_mayMake : GoodIn wsX2_spreadFrom (wsV RX2 56 RX0 yX0_mayMake wsX0_mayMake) := goodIn_app (goodIn_of _ (by decide +kernel)) ggX2_spreadFrom_X0_mayMake
theorem dX2_spreadFrom_0 : decode cX2_spreadFrom 0 = .ok (.aload_n 0, 1) := by decide +kernel
theorem dX2_spreadFrom_1 : decode cX2_spreadFrom 1 = .ok (.getfield 15, 3) := by decide +kernel
theorem dX2_spreadFrom_4 : decode cX2_spreadFrom 4 = .ok (.ldc2_w 23, 3) := by decide +kernel
theorem dX2_spreadFrom_7 : decode cX2_spreadFrom 7 = .ok (.invokestatic 25, 3) := by decide +kernel
theorem dX2_spreadFrom_10 : decode cX2_spreadFrom 10 = .ok (.aload_n 0, 1) := by decide +kernel
theorem dX2_spreadFrom_11 : decode cX2_spreadFrom 11 = .ok (.iconst 0, 1) := by decide +kernel
theorem dX2_spreadFrom_12 : decode cX2_spreadFrom 12 = .ok (.putfield 31, 3) := by decide +kernel
theorem dX2_spreadFrom_15 : decode cX2_spreadFrom 15 = .ok (.aload_n 0, 1) := by decide +kernel
theorem dX2_spreadFrom_16 : decode cX2_spreadFrom 16 = .ok (.getfield 9, 3) := by decide +kernel
theorem dX2_spreadFrom_19 : decode cX2_spreadFrom 19 = .ok (.iload_n 1, 1) := by decide +kernel
theorem dX2_spreadFrom_20 : decode cX2_spreadFrom 20 = .ok (.invokevirtual 35, 3) := by decide +kernel
theorem dX2_spreadFrom_23 : decode cX2_spreadFrom 23 = .ok (.ifCond .ne 4, 3) := by decide +kernel
theorem dX2_spreadFrom_26 : decode cX2_spreadFrom 26 = .ok (.return_, 1) := by decide +kernel
theorem dX2_spreadFrom_27 : decode cX2_spreadFrom 27 = .ok (.aload_n 0, 1) := by decide +kernel
theorem dX2_spreadFrom_28 : decode cX2_spreadFrom 28 = .ok (.iload_n 1, 1) := by decide +kernel
theorem dX2_spreadFrom_29 : decode cX2_spreadFrom 29 = .ok (.lconst 0, 1) := by decide +kernel
theorem dX2_spreadFrom_30 : decode cX2_spreadFrom 30 = .ok (.invokevirtual 41, 3) := by decide +kernel
theorem dX2_spreadFrom_33 : decode cX2_spreadFrom 33 = .ok (.iconst 0, 1) := by decide +kernel
theorem dX2_spreadFrom_34 : decode cX2_spreadFrom 34 = .ok (.istore_n 2, 1) := by decide +kernel
theorem dX2_spreadFrom_35 : decode cX2_spreadFrom 35 = .ok (.iload_n 2, 1) := by decide +kernel
theorem dX2_spreadFrom_36 : decode cX2_spreadFrom 36 = .ok (.aload_n 0, 1) := by decide +kernel
theorem dX2_spreadFrom_37 : decode cX2_spreadFrom 37 = .ok (.getfield 31, 3) := by decide +kernel
theorem dX2_spreadFrom_40 : decode cX2_spreadFrom 40 = .ok (.if_icmp .ge 100, 3) := by decide +kernel
theorem dX2_spreadFrom_43 : decode cX2_spreadFrom 43 = .ok (.iload_n 2, 1) := by decide +kernel
theorem dX2_spreadFrom_44 : decode cX2_spreadFrom 44 = .ok (.aload_n 0, 1) := by decide +kernel
theorem dX2_spreadFrom_45 : decode cX2_spreadFrom 45 = .ok (.getfield 19, 3) := by decide +kernel
theorem dX2_spreadFrom_48 : decode cX2_spreadFrom 48 = .ok (.arraylength, 1) := by decide +kernel
theorem dX2_spreadFrom_49 : decode cX2_spreadFrom 49 = .ok (.if_icmp .ge 91, 3) := by decide +kernel
theorem dX2_spreadFrom_52 : decode cX2_spreadFrom 52 = .ok (.aload_n 0, 1) := by decide +kernel
theorem dX2_spreadFrom_53 : decode cX2_spreadFrom 53 = .ok (.getfield 19, 3) := by decide +kernel
theorem dX2_spreadFrom_56 : decode cX2_spreadFrom 56 = .ok (.iload_n 2, 1) := by decide +kernel
theorem dX2_spreadFrom_57 : decode cX2_spreadFrom 57 = .ok (.iaload, 1) := by decide +kernel
theorem dX2_spreadFrom_58 : decode cX2_spreadFrom 58 = .ok (.istore_n 3, 1) := by decide +kernel
theorem dX2_spreadFrom_59 : decode cX2_spreadFrom 59 = .ok (.iconst 0, 1) := by decide +kernel
theorem dX2_spreadFrom_60 : decode cX2_spreadFrom 60 = .ok (.istore 4, 2) := by decide +kernel
theorem dX2_spreadFrom_62 : decode cX2_spreadFrom 62 = .ok (.iload 4, 2) := by decide +kernel
theorem dX2_spreadFrom_64 : decode cX2_spreadFrom 64 = .ok (.bipush 6, 2) := by decide +kernel
theorem dX2_spreadFrom_66 : decode cX2_spreadFrom 66 = .ok (.if_icmp .ge 68, 3) := by decide +kernel
theorem dX2_spreadFrom_69 : decode cX2_spreadFrom 69 = .ok (.aload_n 0, 1) := by decide +kernel
theorem dX2_spreadFrom_70 : decode cX2_spreadFrom 70 = .ok (.getfield 9, 3) := by decide +kernel
theorem dX2_spreadFrom_73 : decode cX2_spreadFrom 73 = .ok (.iload_n 3, 1) := by decide +kernel
theorem dX2_spreadFrom_74 : decode cX2_spreadFrom 74 = .ok (.iload 4, 2) := by decide +kernel
theorem dX2_spreadFrom_76 : decode cX2_spreadFrom 76 = .ok (.invokevirtual 45, 3) := by decide +kernel
theorem dX2_spreadFrom_79 : decode cX2_spreadFrom 79 = .ok (.istore 5, 2) := by decide +kernel
theorem dX2_spreadFrom_81 : decode cX2_spreadFrom 81 = .ok (.aload_n 0, 1) := by decide +kernel
theorem dX2_spreadFrom_82 : decode cX2_spreadFrom 82 = .ok (.iload_n 3, 1) := by decide +kernel
theorem dX2_spreadFrom_83 : decode cX2_spreadFrom 83 = .ok (.invokevirtual 49, 3) := by decide +kernel
theorem dX2_spreadFrom_86 : decode cX2_spreadFrom 86 = .ok (.aload_n 0, 1) := by decide +kernel
theorem dX2_spreadFrom_87 : decode cX2_spreadFrom 87 = .ok (.iload 4, 2) := by decide +kernel
theorem dX2_spreadFrom_89 : decode cX2_spreadFrom 89 = .ok (.invokevirtual 53, 3) := by decide +kernel
theorem dX2_spreadFrom_92 : decode cX2_spreadFrom 92 = .ok (.ladd, 1) := by decide +kernel
theorem dX2_spreadFrom_93 : decode cX2_spreadFrom 93 = .ok (.lstore 6, 2) := by decide +kernel
theorem dX2_spreadFrom_95 : decode cX2_spreadFrom 95 = .ok (.lload 6, 2) := by decide +kernel
theorem dX2_spreadFrom_97 : decode cX2_spreadFrom 97 = .ok (.aload_n 0, 1) := by decide +kernel
theorem dX2_spreadFrom_98 : decode cX2_spreadFrom 98 = .ok (.iload 5, 2) := by decide +kernel
theorem dX2_spreadFrom_100 : decode cX2_spreadFrom 100 = .ok (.invokevirtual 49, 3) := by decide +kernel
theorem dX2_spreadFrom_103 : decode cX2_spreadFrom 103 = .ok (.lcmp, 1) := by decide +kernel
theorem dX2_spreadFrom_104 : decode cX2_spreadFrom 104 = .ok (.ifCond .ge 24, 3) := by decide +kernel
theorem dX2_spreadFrom_107 : decode cX2_spreadFrom 107 = .ok (.aload_n 0, 1) := by decide +kernel
theorem dX2_spreadFrom_108 : decode cX2_spreadFrom 108 = .ok (.getfield 9, 3) := by decide +kernel
theorem dX2_spreadFrom_111 : decode cX2_spreadFrom 111 = .ok (.iload_n 3, 1) := by decide +kernel
theorem dX2_spreadFrom_112 : decode cX2_spreadFrom 112 = .ok (.iload 4, 2) := by decide +kernel
theorem dX2_spreadFrom_114 : decode cX2_spreadFrom 114 = .ok (.invokevirtual 56, 3) := by decide +kernel
theorem dX2_spreadFrom_117 : decode cX2_spreadFrom 117 = .ok (.ifCond .eq 11, 3) := by decide +kernel
theorem dX2_spreadFrom_120 : decode cX2_spreadFrom 120 = .ok (.aload_n 0, 1) := by decide +kernel
theorem dX2_spreadFrom_121 : decode cX2_spreadFrom 121 = .ok (.iload 5, 2) := by decide +kernel
theorem dX2_spreadFrom_123 : decode cX2_spreadFrom 123 = .ok (.lload 6, 2) := by decide +kernel
theorem dX2_spreadFrom_125 : decode cX2_spreadFrom 125 = .ok (.invokevirtual 41, 3) := by decide +kernel
theorem dX2_spreadFrom_128 : decode cX2_spreadFrom 128 = .ok (.iinc 4 1, 3) := by decide +kernel
theorem dX2_spreadFrom_131 : decode cX2_spreadFrom 131 = .ok (.goto (-69), 3) := by decide +kernel
theorem dX2_spreadFrom_134 : decode cX2_spreadFrom 134 = .ok (.iinc 2 1, 3) := by decide +kernel
theorem dX2_spreadFrom_137 : decode cX2_spreadFrom 137 = .ok (.goto (-102), 3) := by decide +kernel
theorem dX2_spreadFrom_140 : decode cX2_spreadFrom 140 = .ok (.return_, 1) := by decide +kernel
theorem dX2_reach_0 : decode cX2_reach 0 = .ok (.iload_n 1, 1) := by decide +kernel
theorem dX2_reach_1 : decode cX2_reach 1 = .ok (.ifCond .lt 12, 3) := by decide +kernel
theorem dX2_reach_4 : decode cX2_reach 4 = .ok (.iload_n 1, 1) := by decide +kernel
theorem dX2_reach_5 : decode cX2_reach 5 = .ok (.aload_n 0, 1) := by decide +kernel
theorem dX2_reach_6 : decode cX2_reach 6 = .ok (.getfield 15, 3) := by decide +kernel
theorem dX2_reach_9 : decode cX2_reach 9 = .ok (.arraylength, 1) := by decide +kernel
theorem dX2_reach_10 : decode cX2_reach 10 = .ok (.if_icmp .lt 4, 3) := by decide +kernel
theorem dX2_reach_13 : decode cX2_reach 13 = .ok (.return_, 1) := by decide +kernel
theorem dX2_reach_14 : decode cX2_reach 14 = .ok (.aload_n 0, 1) := by decide +kernel
theorem dX2_reach_15 : decode cX2_reach 15 = .ok (.getfield 15, 3) := by decide +kernel
theorem dX2_reach_18 : decode cX2_reach 18 = .ok (.iload_n 1, 1) := by decide +kernel
theorem dX2_reach_19 : decode cX2_reach 19 = .ok (.laload, 1) := by decide +kernel
theorem dX2_reach_20 : decode cX2_reach 20 = .ok (.ldc2_w 23, 3) := by decide +kernel
theorem dX2_reach_23 : decode cX2_reach 23 = .ok (.lcmp, 1) := by decide +kernel
theorem dX2_reach_24 : decode cX2_reach 24 = .ok (.ifCond .ne 35, 3) := by decide +kernel
theorem dX2_reach_27 : decode cX2_reach 27 = .ok (.aload_n 0, 1) := by decide +kernel
theorem dX2_reach_28 : decode cX2_reach 28 = .ok (.getfield 31, 3) := by decide +kernel
theorem dX2_reach_31 : decode cX2_reach 31 = .ok (.aload_n 0, 1) := by decide +kernel
theorem dX2_reach_32 : decode cX2_reach 32 = .ok (.getfield 19, 3) := by decide +kernel
theorem dX2_reach_35 : decode cX2_reach 35 = .ok (.arraylength, 1) := by decide +kernel
theorem dX2_reach_36 : decode cX2_reach 36 = .ok (.if_icmp .ge 23, 3) := by decide +kernel
theorem dX2_reach_39 : decode cX2_reach 39 = .ok (.aload_n 0, 1) := by decide +kernel
theorem dX2_reach_40 : decode cX2_reach 40 = .ok (.getfield 19, 3) := by decide +kernel
theorem dX2_reach_43 : decode cX2_reach 43 = .ok (.aload_n 0, 1) := by decide +kernel
theorem dX2_reach_44 : decode cX2_reach 44 = .ok (.getfield 31, 3) := by decide +kernel
theorem dX2_reach_47 : decode cX2_reach 47 = .ok (.iload_n 1, 1) := by decide +kernel
theorem dX2_reach_48 : decode cX2_reach 48 = .ok (.iastore, 1) := by decide +kernel
theorem dX2_reach_49 : decode cX2_reach 49 = .ok (.aload_n 0, 1) := by decide +kernel
theorem dX2_reach_50 : decode cX2_reach 50 = .ok (.dup, 1) := by decide +kernel
theorem dX2_reach_51 : decode cX2_reach 51 = .ok (.getfield 31, 3) := by decide +kernel
theorem dX2_reach_54 : decode cX2_reach 54 = .ok (.iconst 1, 1) := by decide +kernel
theorem dX2_reach_55 : decode cX2_reach 55 = .ok (.iadd, 1) := by decide +kernel
theorem dX2_reach_56 : decode cX2_reach 56 = .ok (.putfield 31, 3) := by decide +kernel
theorem dX2_reach_59 : decode cX2_reach 59 = .ok (.aload_n 0, 1) := by decide +kernel
theorem dX2_reach_60 : decode cX2_reach 60 = .ok (.getfield 15, 3) := by decide +kernel
theorem dX2_reach_63 : decode cX2_reach 63 = .ok (.iload_n 1, 1) := by decide +kernel
theorem dX2_reach_64 : decode cX2_reach 64 = .ok (.lload_n 2, 1) := by decide +kernel
theorem dX2_reach_65 : decode cX2_reach 65 = .ok (.lastore, 1) := by decide +kernel
theorem dX2_reach_66 : decode cX2_reach 66 = .ok (.return_, 1) := by decide +kernel
set_option maxRecDepth 20000 in
theorem ggX2_hasReached_X2_costAt : GoodIn wsX2_hasReached wsX2_costAt := goodIn_r _ [6, 7, 1, 8, 9, 10, 11] (by decide +kernel) (by decide +kernel)
set_option maxRecDepth 20000 in
theorem gX2_hasReached_X2_costAt : GoodIn wsX2_hasReached (wsV RX2 49 RX2 yX2_costAt wsX2_costAt) := goodIn_app (goodIn_of _ (by decide +kernel)) ggX2_hasReached_X2_costAt
theorem dX2_hasReached_0 : decode cX2_hasReached 0 = .ok (.aload_n 0, 1) := by decide +kernel
theorem dX2_hasReached_1 : decode cX2_hasReached 1 = .ok (.iload_n 1, 1) := by decide +kernel
theorem dX2_hasReached_2 : decode cX2_hasReached 2 = .ok (.invokevirtual 49, 3) := by decide +kernel
theorem dX2_hasReached_5 : decode cX2_hasReached 5 = .ok (.ldc2_w 23, 3) := by decide +kernel
theorem dX2_hasReached_8 : decode cX2_hasReached 8 = .ok (.lcmp, 1) := by decide +kernel
theorem dX2_hasReached_9 : decode cX2_hasReached 9 = .ok (.ifCond .ge 7, 3) := by decide +kernel
theorem dX2_hasReached_12 : decode cX2_hasReached 12 = .ok (.iconst 1, 1) := by decide +kernel
theorem dX2_hasReached_13 : decode cX2_hasReached 13 = .ok (.goto 4, 3) := by decide +kernel
theorem dX2_hasReached_16 : decode cX2_hasReached 16 = .ok (.iconst 0, 1) := by decide +kernel
theorem dX2_hasReached_17 : decode cX2_hasReached 17 = .ok (.ireturn, 1) := by decide +kernel
set_option maxRecDepth 20000 in
theorem ggX2_takenBefore_X2_costAt : GoodIn wsX2_takenBefore wsX2_costAt := goodIn_r _ [7, 8, 9, 10, 11, 12, 13] (by decide +kernel) (by decide +kernel)
set_option maxRecDepth 20000 in
theorem gX2_takenBefore_X2_costAt : GoodIn wsX2_takenBefore (wsV RX2 49 RX2 yX2_costAt wsX2_costAt) := goodIn_app (goodIn_of _ (by decide +kernel)) ggX2_takenBefore_X2_costAt
theorem dX2_takenBefore_0 : decode cX2_takenBefore 0 = .ok (.aload_n 0, 1) := by decide +kernel
theorem dX2_takenBefore_1 : decode cX2_takenBefore 1 = .ok (.iload_n 1, 1) := by decide +kernel
theorem dX2_takenBefore_2 : decode cX2_takenBefore 2 = .ok (.invokevirtual 49, 3) := by decide +kernel
theorem dX2_takenBefore_5 : decode cX2_takenBefore 5 = .ok (.lstore_n 2, 1) := by decide +kernel
theorem dX2_takenBefore_6 : decode cX2_takenBefore 6 = .ok (.iconst 0, 1) := by decide +kernel
theorem dX2_takenBefore_7 : decode cX2_takenBefore 7 = .ok (.istore 4, 2) := by decide +kernel
theorem dX2_takenBefore_9 : decode cX2_takenBefore 9 = .ok (.iconst 0, 1) := by decide +kernel
theorem dX2_takenBefore_10 : decode cX2_takenBefore 10 = .ok (.istore 5, 2) := by decide +kernel
theorem dX2_takenBefore_12 : decode cX2_takenBefore 12 = .ok (.iload 5, 2) := by decide +kernel
theorem dX2_takenBefore_14 : decode cX2_takenBefore 14 = .ok (.aload_n 0, 1) := by decide +kernel
theorem dX2_takenBefore_15 : decode cX2_takenBefore 15 = .ok (.getfield 31, 3) := by decide +kernel
theorem dX2_takenBefore_18 : decode cX2_takenBefore 18 = .ok (.if_icmp .ge 60, 3) := by decide +kernel
theorem dX2_takenBefore_21 : decode cX2_takenBefore 21 = .ok (.iload 5, 2) := by decide +kernel
theorem dX2_takenBefore_23 : decode cX2_takenBefore 23 = .ok (.aload_n 0, 1) := by decide +kernel
theorem dX2_takenBefore_24 : decode cX2_takenBefore 24 = .ok (.getfield 19, 3) := by decide +kernel
theorem dX2_takenBefore_27 : decode cX2_takenBefore 27 = .ok (.arraylength, 1) := by decide +kernel
theorem dX2_takenBefore_28 : decode cX2_takenBefore 28 = .ok (.if_icmp .ge 50, 3) := by decide +kernel
theorem dX2_takenBefore_31 : decode cX2_takenBefore 31 = .ok (.aload_n 0, 1) := by decide +kernel
theorem dX2_takenBefore_32 : decode cX2_takenBefore 32 = .ok (.aload_n 0, 1) := by decide +kernel
theorem dX2_takenBefore_33 : decode cX2_takenBefore 33 = .ok (.getfield 19, 3) := by decide +kernel
theorem dX2_takenBefore_36 : decode cX2_takenBefore 36 = .ok (.iload 5, 2) := by decide +kernel
theorem dX2_takenBefore_38 : decode cX2_takenBefore 38 = .ok (.iaload, 1) := by decide +kernel
theorem dX2_takenBefore_39 : decode cX2_takenBefore 39 = .ok (.invokevirtual 49, 3) := by decide +kernel
theorem dX2_takenBefore_42 : decode cX2_takenBefore 42 = .ok (.lstore 6, 2) := by decide +kernel
theorem dX2_takenBefore_44 : decode cX2_takenBefore 44 = .ok (.lload 6, 2) := by decide +kernel
theorem dX2_takenBefore_46 : decode cX2_takenBefore 46 = .ok (.lload_n 2, 1) := by decide +kernel
theorem dX2_takenBefore_47 : decode cX2_takenBefore 47 = .ok (.lcmp, 1) := by decide +kernel
theorem dX2_takenBefore_48 : decode cX2_takenBefore 48 = .ok (.ifCond .lt 21, 3) := by decide +kernel
theorem dX2_takenBefore_51 : decode cX2_takenBefore 51 = .ok (.lload 6, 2) := by decide +kernel
theorem dX2_takenBefore_53 : decode cX2_takenBefore 53 = .ok (.lload_n 2, 1) := by decide +kernel
theorem dX2_takenBefore_54 : decode cX2_takenBefore 54 = .ok (.lcmp, 1) := by decide +kernel
theorem dX2_takenBefore_55 : decode cX2_takenBefore 55 = .ok (.ifCond .ne 17, 3) := by decide +kernel
theorem dX2_takenBefore_58 : decode cX2_takenBefore 58 = .ok (.aload_n 0, 1) := by decide +kernel
theorem dX2_takenBefore_59 : decode cX2_takenBefore 59 = .ok (.getfield 19, 3) := by decide +kernel
theorem dX2_takenBefore_62 : decode cX2_takenBefore 62 = .ok (.iload 5, 2) := by decide +kernel
theorem dX2_takenBefore_64 : decode cX2_takenBefore 64 = .ok (.iaload, 1) := by decide +kernel
theorem dX2_takenBefore_65 : decode cX2_takenBefore 65 = .ok (.iload_n 1, 1) := by decide +kernel
theorem dX2_takenBefore_66 : decode cX2_takenBefore 66 = .ok (.if_icmp .ge 6, 3) := by decide +kernel
theorem dX2_takenBefore_69 : decode cX2_takenBefore 69 = .ok (.iinc 4 1, 3) := by decide +kernel
theorem dX2_takenBefore_72 : decode cX2_takenBefore 72 = .ok (.iinc 5 1, 3) := by decide +kernel
theorem dX2_takenBefore_75 : decode cX2_takenBefore 75 = .ok (.goto (-63), 3) := by decide +kernel
theorem dX2_takenBefore_78 : decode cX2_takenBefore 78 = .ok (.iload 4, 2) := by decide +kernel
theorem dX2_takenBefore_80 : decode cX2_takenBefore 80 = .ok (.ireturn, 1) := by decide +kernel
set_option maxRecDepth 20000 in
theorem ggX2_firstMoveFrom_X0_landing : GoodIn wsX2_firstMoveFrom wsX0_landing := goodIn_r _ [6, 7, 8, 9, 5, 10, 11, 12, 13, 14, 15, 16, 17, 18, 19, 20, 21, 22, 23, 24, 25, 26, 27, 28, 29, 30, 31, 32, 33, 34, 35, 36, 37, 38, 39, 40, 41, 42, 43, 44, 45, 46, 47, 97, 98, 99, 100, 101, 102, 103, 104, 105, 106, 107] (by decide +kernel) (by decide +kernel)
set_option maxRecDepth 20000 in
theorem gX2_firstMoveFrom_X0_landing : GoodIn wsX2_firstMoveFrom (wsV RX2 45 RX0 yX0_landing wsX0_landing) := goodIn_app (goodIn_of _ (by decide +kernel)) ggX2_firstMoveFrom_X0_landing
set_option maxRecDepth 20000 in
theorem ggX2_firstMoveFrom_X2_costAt : GoodIn wsX2_firstMoveFrom wsX2_costAt := goodIn_r _ [52, 53, 54, 93, 94, 95, 96] (by decide +kernel) (by decide +kernel)
set_option maxRecDepth 20000 in
theorem gX2_firstMoveFrom_X2_costAt : GoodIn wsX2_firstMoveFrom (wsV RX2 49 RX2 yX2_costAt wsX2_costAt) := goodIn_app (goodIn_of _ (by decide +kernel)) ggX2_firstMoveFrom_X2_costAt
set_option maxRecDepth 20000 in
theorem ggX2_firstMoveFrom_X2_costOf : GoodIn wsX2_firstMoveFrom wsX2_costOf := goodIn_r _ [58, 59, 1, 60, 61, 62, 63, 5, 64, 7, 11, 12, 13, 65, 93, 94, 95, 96, 97, 98, 99, 100, 101] (by decide +kernel) (by decide +kernel)
set_option maxRecDepth 20000 in
theorem gX2_firstMoveFrom_X2_costOf : GoodIn wsX2_firstMoveFrom (wsV RX2 53 RX2 yX2_costOf wsX2_costOf) := goodIn_app (goodIn_of _ (by decide +kernel)) ggX2_firstMoveFrom_X2_costOf
set_option maxRecDepth 20000 in
theorem ggX2_firstMoveFrom_X0_mayMake : GoodIn wsX2_firstMoveFrom wsX0_mayMake := goodIn_r _ [69, 7, 8, 9, 5, 10, 11, 12, 13, 14, 15, 16, 17, 18, 19, 20, 21, 22, 23, 24, 25, 26, 27, 28, 29, 30, 31, 32, 33, 34, 35, 36, 37, 38, 39, 40, 41, 42, 43, 44, 45, 46, 47, 70, 71, 72, 73, 74, 75, 76, 77, 78, 79, 80, 81, 82, 83, 84, 85, 86, 87, 88, 89, 90, 91, 92, 97, 98, 99, 100, 101, 102, 103, 104, 105, 106, 107] (by decide +kernel) (by decide +kernel)
set_option maxRecDepth 20000 in
theorem gX2_firstMoveFrom_X0_mayMake : GoodIn wsX2_firstMoveFrom (wsV RX2 56 RX0 yX0_mayMake wsX0_mayMake) := goodIn_app (goodIn_of _ (by decide +kernel)) ggX2_firstMoveFrom_X0_mayMake
theorem dX2_firstMoveFrom_0 : decode cX2_firstMoveFrom 0 = .ok (.iconst 0, 1) := by decide +kernel
theorem dX2_firstMoveFrom_1 : decode cX2_firstMoveFrom 1 = .ok (.istore_n 2, 1) := by decide +kernel
theorem dX2_firstMoveFrom_2 : decode cX2_firstMoveFrom 2 = .ok (.iload_n 2, 1) := by decide +kernel
theorem dX2_firstMoveFrom_3 : decode cX2_firstMoveFrom 3 = .ok (.bipush 6, 2) := by decide +kernel
theorem dX2_firstMoveFrom_5 : decode cX2_firstMoveFrom 5 = .ok (.if_icmp .ge 61, 3) := by decide +kernel
theorem dX2_firstMoveFrom_8 : decode cX2_firstMoveFrom 8 = .ok (.aload_n 0, 1) := by decide +kernel
theorem dX2_firstMoveFrom_9 : decode cX2_firstMoveFrom 9 = .ok (.aload_n 0, 1) := by decide +kernel
theorem dX2_firstMoveFrom_10 : decode cX2_firstMoveFrom 10 = .ok (.getfield 9, 3) := by decide +kernel
theorem dX2_firstMoveFrom_13 : decode cX2_firstMoveFrom 13 = .ok (.iload_n 1, 1) := by decide +kernel
theorem dX2_firstMoveFrom_14 : decode cX2_firstMoveFrom 14 = .ok (.iload_n 2, 1) := by decide +kernel
theorem dX2_firstMoveFrom_15 : decode cX2_firstMoveFrom 15 = .ok (.invokevirtual 45, 3) := by decide +kernel
theorem dX2_firstMoveFrom_18 : decode cX2_firstMoveFrom 18 = .ok (.invokevirtual 49, 3) := by decide +kernel
theorem dX2_firstMoveFrom_21 : decode cX2_firstMoveFrom 21 = .ok (.aload_n 0, 1) := by decide +kernel
theorem dX2_firstMoveFrom_22 : decode cX2_firstMoveFrom 22 = .ok (.iload_n 2, 1) := by decide +kernel
theorem dX2_firstMoveFrom_23 : decode cX2_firstMoveFrom 23 = .ok (.invokevirtual 53, 3) := by decide +kernel
theorem dX2_firstMoveFrom_26 : decode cX2_firstMoveFrom 26 = .ok (.ladd, 1) := by decide +kernel
theorem dX2_firstMoveFrom_27 : decode cX2_firstMoveFrom 27 = .ok (.aload_n 0, 1) := by decide +kernel
theorem dX2_firstMoveFrom_28 : decode cX2_firstMoveFrom 28 = .ok (.iload_n 1, 1) := by decide +kernel
theorem dX2_firstMoveFrom_29 : decode cX2_firstMoveFrom 29 = .ok (.invokevirtual 49, 3) := by decide +kernel
theorem dX2_firstMoveFrom_32 : decode cX2_firstMoveFrom 32 = .ok (.lcmp, 1) := by decide +kernel
theorem dX2_firstMoveFrom_33 : decode cX2_firstMoveFrom 33 = .ok (.ifCond .ne 7, 3) := by decide +kernel
theorem dX2_firstMoveFrom_36 : decode cX2_firstMoveFrom 36 = .ok (.iconst 1, 1) := by decide +kernel
theorem dX2_firstMoveFrom_37 : decode cX2_firstMoveFrom 37 = .ok (.goto 4, 3) := by decide +kernel
theorem dX2_firstMoveFrom_40 : decode cX2_firstMoveFrom 40 = .ok (.iconst 0, 1) := by decide +kernel
theorem dX2_firstMoveFrom_41 : decode cX2_firstMoveFrom 41 = .ok (.istore_n 3, 1) := by decide +kernel
theorem dX2_firstMoveFrom_42 : decode cX2_firstMoveFrom 42 = .ok (.iload_n 3, 1) := by decide +kernel
theorem dX2_firstMoveFrom_43 : decode cX2_firstMoveFrom 43 = .ok (.ifCond .eq 17, 3) := by decide +kernel
theorem dX2_firstMoveFrom_46 : decode cX2_firstMoveFrom 46 = .ok (.aload_n 0, 1) := by decide +kernel
theorem dX2_firstMoveFrom_47 : decode cX2_firstMoveFrom 47 = .ok (.getfield 9, 3) := by decide +kernel
theorem dX2_firstMoveFrom_50 : decode cX2_firstMoveFrom 50 = .ok (.iload_n 1, 1) := by decide +kernel
theorem dX2_firstMoveFrom_51 : decode cX2_firstMoveFrom 51 = .ok (.iload_n 2, 1) := by decide +kernel
theorem dX2_firstMoveFrom_52 : decode cX2_firstMoveFrom 52 = .ok (.invokevirtual 56, 3) := by decide +kernel
theorem dX2_firstMoveFrom_55 : decode cX2_firstMoveFrom 55 = .ok (.ifCond .eq 5, 3) := by decide +kernel
theorem dX2_firstMoveFrom_58 : decode cX2_firstMoveFrom 58 = .ok (.iload_n 2, 1) := by decide +kernel
theorem dX2_firstMoveFrom_59 : decode cX2_firstMoveFrom 59 = .ok (.ireturn, 1) := by decide +kernel
theorem dX2_firstMoveFrom_60 : decode cX2_firstMoveFrom 60 = .ok (.iinc 2 1, 3) := by decide +kernel
theorem dX2_firstMoveFrom_63 : decode cX2_firstMoveFrom 63 = .ok (.goto (-61), 3) := by decide +kernel
theorem dX2_firstMoveFrom_66 : decode cX2_firstMoveFrom 66 = .ok (.iconst (-1), 1) := by decide +kernel
theorem dX2_firstMoveFrom_67 : decode cX2_firstMoveFrom 67 = .ok (.ireturn, 1) := by decide +kernel
theorem dX2_costAt_0 : decode cX2_costAt 0 = .ok (.iload_n 1, 1) := by decide +kernel
theorem dX2_costAt_1 : decode cX2_costAt 1 = .ok (.ifCond .lt 21, 3) := by decide +kernel
theorem dX2_costAt_4 : decode cX2_costAt 4 = .ok (.iload_n 1, 1) := by decide +kernel
theorem dX2_costAt_5 : decode cX2_costAt 5 = .ok (.aload_n 0, 1) := by decide +kernel
theorem dX2_costAt_6 : decode cX2_costAt 6 = .ok (.getfield 15, 3) := by decide +kernel
theorem dX2_costAt_9 : decode cX2_costAt 9 = .ok (.arraylength, 1) := by decide +kernel
theorem dX2_costAt_10 : decode cX2_costAt 10 = .ok (.if_icmp .ge 12, 3) := by decide +kernel
theorem dX2_costAt_13 : decode cX2_costAt 13 = .ok (.aload_n 0, 1) := by decide +kernel
theorem dX2_costAt_14 : decode cX2_costAt 14 = .ok (.getfield 15, 3) := by decide +kernel
theorem dX2_costAt_17 : decode cX2_costAt 17 = .ok (.iload_n 1, 1) := by decide +kernel
theorem dX2_costAt_18 : decode cX2_costAt 18 = .ok (.laload, 1) := by decide +kernel
theorem dX2_costAt_19 : decode cX2_costAt 19 = .ok (.goto 6, 3) := by decide +kernel
theorem dX2_costAt_22 : decode cX2_costAt 22 = .ok (.ldc2_w 23, 3) := by decide +kernel
theorem dX2_costAt_25 : decode cX2_costAt 25 = .ok (.lreturn, 1) := by decide +kernel
set_option maxRecDepth 20000 in
theorem ggX2_costOf_X0_lengthOf : GoodIn wsX2_costOf wsX0_lengthOf := goodIn_r _ [8, 9, 10, 11, 7, 12, 18, 19, 20, 21, 22] (by decide +kernel) (by decide +kernel)
set_option maxRecDepth 20000 in
theorem gX2_costOf_X0_lengthOf : GoodIn wsX2_costOf (wsV RX2 62 RX0 yX0_lengthOf wsX0_lengthOf) := goodIn_app (goodIn_of _ (by decide +kernel)) ggX2_costOf_X0_lengthOf
set_option maxRecDepth 20000 in
theorem ggX2_costOf_X0_isArc : GoodIn wsX2_costOf wsX0_isArc := goodIn_r _ [12] (by decide +kernel) (by decide +kernel)
set_option maxRecDepth 20000 in
theorem gX2_costOf_X0_isArc : GoodIn wsX2_costOf (va_wsS RX2 68 yX0_isArc wsX0_isArc) := goodIn_app (goodIn_of _ (by decide +kernel)) ggX2_costOf_X0_isArc
theorem dX2_costOf_0 : decode cX2_costOf 0 = .ok (.ldc2_w 60, 3) := by decide +kernel
theorem dX2_costOf_3 : decode cX2_costOf 3 = .ok (.aload_n 0, 1) := by decide +kernel
theorem dX2_costOf_4 : decode cX2_costOf 4 = .ok (.getfield 9, 3) := by decide +kernel
theorem dX2_costOf_7 : decode cX2_costOf 7 = .ok (.iload_n 1, 1) := by decide +kernel
theorem dX2_costOf_8 : decode cX2_costOf 8 = .ok (.invokevirtual 62, 3) := by decide +kernel
theorem dX2_costOf_11 : decode cX2_costOf 11 = .ok (.i2l, 1) := by decide +kernel
theorem dX2_costOf_12 : decode cX2_costOf 12 = .ok (.ldc2_w 66, 3) := by decide +kernel
theorem dX2_costOf_15 : decode cX2_costOf 15 = .ok (.lmul, 1) := by decide +kernel
theorem dX2_costOf_16 : decode cX2_costOf 16 = .ok (.ladd, 1) := by decide +kernel
theorem dX2_costOf_17 : decode cX2_costOf 17 = .ok (.iload_n 1, 1) := by decide +kernel
theorem dX2_costOf_18 : decode cX2_costOf 18 = .ok (.invokestatic 68, 3) := by decide +kernel
theorem dX2_costOf_21 : decode cX2_costOf 21 = .ok (.ifCond .eq 7, 3) := by decide +kernel
theorem dX2_costOf_24 : decode cX2_costOf 24 = .ok (.lconst 1, 1) := by decide +kernel
theorem dX2_costOf_25 : decode cX2_costOf 25 = .ok (.goto 4, 3) := by decide +kernel
theorem dX2_costOf_28 : decode cX2_costOf 28 = .ok (.lconst 0, 1) := by decide +kernel
theorem dX2_costOf_29 : decode cX2_costOf 29 = .ok (.ladd, 1) := by decide +kernel
theorem dX2_costOf_30 : decode cX2_costOf 30 = .ok (.lreturn, 1) := by decide +kernel
theorem dX3_init_0 : decode cX3_init 0 = .ok (.aload_n 0, 1) := by decide +kernel
theorem dX3_init_1 : decode cX3_init 1 = .ok (.invokespecial 3, 3) := by decide +kernel
theorem dX3_init_4 : decode cX3_init 4 = .ok (.aload_n 0, 1) := by decide +kernel
theorem dX3_init_5 : decode cX3_init 5 = .ok (.iload_n 1, 1) := by decide +kernel
theorem dX3_init_6 : decode cX3_init 6 = .ok (.newarray .int, 2) := by decide +kernel
theorem dX3_init_8 : decode cX3_init 8 = .ok (.putfield 9, 3) := by decide +kernel
theorem dX3_init_11 : decode cX3_init 11 = .ok (.aload_n 0, 1) := by decide +kernel
theorem dX3_init_12 : decode cX3_init 12 = .ok (.iload_n 1, 1) := by decide +kernel
theorem dX3_init_13 : decode cX3_init 13 = .ok (.newarray .int, 2) := by decide +kernel
theorem dX3_init_15 : decode cX3_init 15 = .ok (.putfield 15, 3) := by decide +kernel
theorem dX3_init_18 : decode cX3_init 18 = .ok (.return_, 1) := by decide +kernel
theorem dX3_drop_0 : decode cX3_drop 0 = .ok (.aload_n 0, 1) := by decide +kernel
theorem dX3_drop_1 : decode cX3_drop 1 = .ok (.iconst 0, 1) := by decide +kernel
theorem dX3_drop_2 : decode cX3_drop 2 = .ok (.putfield 18, 3) := by decide +kernel
theorem dX3_drop_5 : decode cX3_drop 5 = .ok (.aload_n 0, 1) := by decide +kernel
theorem dX3_drop_6 : decode cX3_drop 6 = .ok (.iconst 0, 1) := by decide +kernel
theorem dX3_drop_7 : decode cX3_drop 7 = .ok (.putfield 22, 3) := by decide +kernel
theorem dX3_drop_10 : decode cX3_drop 10 = .ok (.aload_n 0, 1) := by decide +kernel
theorem dX3_drop_11 : decode cX3_drop 11 = .ok (.iconst 0, 1) := by decide +kernel
theorem dX3_drop_12 : decode cX3_drop 12 = .ok (.putfield 26, 3) := by decide +kernel
theorem dX3_drop_15 : decode cX3_drop 15 = .ok (.return_, 1) := by decide +kernel
theorem dX3_add_0 : decode cX3_add 0 = .ok (.aload_n 0, 1) := by decide +kernel
theorem dX3_add_1 : decode cX3_add 1 = .ok (.getfield 22, 3) := by decide +kernel
theorem dX3_add_4 : decode cX3_add 4 = .ok (.aload_n 0, 1) := by decide +kernel
theorem dX3_add_5 : decode cX3_add 5 = .ok (.getfield 9, 3) := by decide +kernel
theorem dX3_add_8 : decode cX3_add 8 = .ok (.arraylength, 1) := by decide +kernel
theorem dX3_add_9 : decode cX3_add 9 = .ok (.if_icmp .ge 45, 3) := by decide +kernel
theorem dX3_add_12 : decode cX3_add 12 = .ok (.aload_n 0, 1) := by decide +kernel
theorem dX3_add_13 : decode cX3_add 13 = .ok (.getfield 22, 3) := by decide +kernel
theorem dX3_add_16 : decode cX3_add 16 = .ok (.aload_n 0, 1) := by decide +kernel
theorem dX3_add_17 : decode cX3_add 17 = .ok (.getfield 15, 3) := by decide +kernel
theorem dX3_add_20 : decode cX3_add 20 = .ok (.arraylength, 1) := by decide +kernel
theorem dX3_add_21 : decode cX3_add 21 = .ok (.if_icmp .ge 33, 3) := by decide +kernel
theorem dX3_add_24 : decode cX3_add 24 = .ok (.aload_n 0, 1) := by decide +kernel
theorem dX3_add_25 : decode cX3_add 25 = .ok (.getfield 9, 3) := by decide +kernel
theorem dX3_add_28 : decode cX3_add 28 = .ok (.aload_n 0, 1) := by decide +kernel
theorem dX3_add_29 : decode cX3_add 29 = .ok (.getfield 22, 3) := by decide +kernel
theorem dX3_add_32 : decode cX3_add 32 = .ok (.iload_n 1, 1) := by decide +kernel
theorem dX3_add_33 : decode cX3_add 33 = .ok (.iastore, 1) := by decide +kernel
theorem dX3_add_34 : decode cX3_add 34 = .ok (.aload_n 0, 1) := by decide +kernel
theorem dX3_add_35 : decode cX3_add 35 = .ok (.getfield 15, 3) := by decide +kernel
theorem dX3_add_38 : decode cX3_add 38 = .ok (.aload_n 0, 1) := by decide +kernel
theorem dX3_add_39 : decode cX3_add 39 = .ok (.getfield 22, 3) := by decide +kernel
theorem dX3_add_42 : decode cX3_add 42 = .ok (.iload_n 2, 1) := by decide +kernel
theorem dX3_add_43 : decode cX3_add 43 = .ok (.iastore, 1) := by decide +kernel
theorem dX3_add_44 : decode cX3_add 44 = .ok (.aload_n 0, 1) := by decide +kernel
theorem dX3_add_45 : decode cX3_add 45 = .ok (.dup, 1) := by decide +kernel
theorem dX3_add_46 : decode cX3_add 46 = .ok (.getfield 22, 3) := by decide +kernel
theorem dX3_add_49 : decode cX3_add 49 = .ok (.iconst 1, 1) := by decide +kernel
theorem dX3_add_50 : decode cX3_add 50 = .ok (.iadd, 1) := by decide +kernel
theorem dX3_add_51 : decode cX3_add 51 = .ok (.putfield 22, 3) := by decide +kernel
theorem dX3_add_54 : decode cX3_add 54 = .ok (.return_, 1) := by decide +kernel
theorem dX3_hasMove_0 : decode cX3_hasMove 0 = .ok (.iload_n 1, 1) := by decide +kernel
theorem dX3_hasMove_1 : decode cX3_hasMove 1 = .ok (.ifCond .lt 15, 3) := by decide +kernel
theorem dX3_hasMove_4 : decode cX3_hasMove 4 = .ok (.iload_n 1, 1) := by decide +kernel
theorem dX3_hasMove_5 : decode cX3_hasMove 5 = .ok (.aload_n 0, 1) := by decide +kernel
theorem dX3_hasMove_6 : decode cX3_hasMove 6 = .ok (.getfield 22, 3) := by decide +kernel
theorem dX3_hasMove_9 : decode cX3_hasMove 9 = .ok (.if_icmp .ge 7, 3) := by decide +kernel
theorem dX3_hasMove_12 : decode cX3_hasMove 12 = .ok (.iconst 1, 1) := by decide +kernel
theorem dX3_hasMove_13 : decode cX3_hasMove 13 = .ok (.goto 4, 3) := by decide +kernel
theorem dX3_hasMove_16 : decode cX3_hasMove 16 = .ok (.iconst 0, 1) := by decide +kernel
theorem dX3_hasMove_17 : decode cX3_hasMove 17 = .ok (.ireturn, 1) := by decide +kernel
set_option maxRecDepth 20000 in
theorem ggX3_moveAt_X3_hasMove : GoodIn wsX3_moveAt wsX3_hasMove := goodIn_r _ [6, 7, 8, 9, 10, 11, 12] (by decide +kernel) (by decide +kernel)
set_option maxRecDepth 20000 in
theorem gX3_moveAt_X3_hasMove : GoodIn wsX3_moveAt (wsV RX3 29 RX3 yX3_hasMove wsX3_hasMove) := goodIn_app (goodIn_of _ (by decide +kernel)) ggX3_moveAt_X3_hasMove
theorem dX3_moveAt_0 : decode cX3_moveAt 0 = .ok (.aload_n 0, 1) := by decide +kernel
theorem dX3_moveAt_1 : decode cX3_moveAt 1 = .ok (.iload_n 1, 1) := by decide +kernel
theorem dX3_moveAt_2 : decode cX3_moveAt 2 = .ok (.invokevirtual 29, 3) := by decide +kernel
theorem dX3_moveAt_5 : decode cX3_moveAt 5 = .ok (.ifCond .eq 21, 3) := by decide +kernel
theorem dX3_moveAt_8 : decode cX3_moveAt 8 = .ok (.iload_n 1, 1) := by decide +kernel
theorem dX3_moveAt_9 : decode cX3_moveAt 9 = .ok (.aload_n 0, 1) := by decide +kernel
theorem dX3_moveAt_10 : decode cX3_moveAt 10 = .ok (.getfield 9, 3) := by decide +kernel
theorem dX3_moveAt_13 : decode cX3_moveAt 13 = .ok (.arraylength, 1) := by decide +kernel
theorem dX3_moveAt_14 : decode cX3_moveAt 14 = .ok (.if_icmp .ge 12, 3) := by decide +kernel
theorem dX3_moveAt_17 : decode cX3_moveAt 17 = .ok (.aload_n 0, 1) := by decide +kernel
theorem dX3_moveAt_18 : decode cX3_moveAt 18 = .ok (.getfield 9, 3) := by decide +kernel
theorem dX3_moveAt_21 : decode cX3_moveAt 21 = .ok (.iload_n 1, 1) := by decide +kernel
theorem dX3_moveAt_22 : decode cX3_moveAt 22 = .ok (.iaload, 1) := by decide +kernel
theorem dX3_moveAt_23 : decode cX3_moveAt 23 = .ok (.goto 4, 3) := by decide +kernel
theorem dX3_moveAt_26 : decode cX3_moveAt 26 = .ok (.iconst (-1), 1) := by decide +kernel
theorem dX3_moveAt_27 : decode cX3_moveAt 27 = .ok (.ireturn, 1) := by decide +kernel
set_option maxRecDepth 20000 in
theorem ggX3_placeBehind_X3_hasMove : GoodIn wsX3_placeBehind wsX3_hasMove := goodIn_r _ [6, 7, 8, 9, 10, 11, 12] (by decide +kernel) (by decide +kernel)
set_option maxRecDepth 20000 in
theorem gX3_placeBehind_X3_hasMove : GoodIn wsX3_placeBehind (wsV RX3 29 RX3 yX3_hasMove wsX3_hasMove) := goodIn_app (goodIn_of _ (by decide +kernel)) ggX3_placeBehind_X3_hasMove
theorem dX3_placeBehind_0 : decode cX3_placeBehind 0 = .ok (.aload_n 0, 1) := by decide +kernel
theorem dX3_placeBehind_1 : decode cX3_placeBehind 1 = .ok (.iload_n 1, 1) := by decide +kernel
theorem dX3_placeBehind_2 : decode cX3_placeBehind 2 = .ok (.invokevirtual 29, 3) := by decide +kernel
theorem dX3_placeBehind_5 : decode cX3_placeBehind 5 = .ok (.ifCond .eq 21, 3) := by decide +kernel
theorem dX3_placeBehind_8 : decode cX3_placeBehind 8 = .ok (.iload_n 1, 1) := by decide +kernel
theorem dX3_placeBehind_9 : decode cX3_placeBehind 9 = .ok (.aload_n 0, 1) := by decide +kernel
theorem dX3_placeBehind_10 : decode cX3_placeBehind 10 = .ok (.getfield 15, 3) := by decide +kernel
theorem dX3_placeBehind_13 : decode cX3_placeBehind 13 = .ok (.arraylength, 1) := by decide +kernel
theorem dX3_placeBehind_14 : decode cX3_placeBehind 14 = .ok (.if_icmp .ge 12, 3) := by decide +kernel
theorem dX3_placeBehind_17 : decode cX3_placeBehind 17 = .ok (.aload_n 0, 1) := by decide +kernel
theorem dX3_placeBehind_18 : decode cX3_placeBehind 18 = .ok (.getfield 15, 3) := by decide +kernel
theorem dX3_placeBehind_21 : decode cX3_placeBehind 21 = .ok (.iload_n 1, 1) := by decide +kernel
theorem dX3_placeBehind_22 : decode cX3_placeBehind 22 = .ok (.iaload, 1) := by decide +kernel
theorem dX3_placeBehind_23 : decode cX3_placeBehind 23 = .ok (.goto 4, 3) := by decide +kernel
theorem dX3_placeBehind_26 : decode cX3_placeBehind 26 = .ok (.iconst (-1), 1) := by decide +kernel
theorem dX3_placeBehind_27 : decode cX3_placeBehind 27 = .ok (.ireturn, 1) := by decide +kernel
set_option maxRecDepth 20000 in
theorem ggX4_init_X4_sideOf : GoodIn wsX4_init wsX4_sideOf := goodIn_r _ [24, 25, 26, 23, 27] (by decide +kernel) (by decide +kernel)
set_option maxRecDepth 20000 in
theorem gX4_init_X4_sideOf : GoodIn wsX4_init (va_wsS RX4 15 yX4_sideOf wsX4_sideOf) := goodIn_app (goodIn_of _ (by decide +kernel)) ggX4_init_X4_sideOf
set_option maxRecDepth 20000 in
theorem ggX4_init_X1_init : GoodIn wsX4_init wsX1_init := goodIn_r _ [30, 31, 2, 3, 32, 33, 34, 35, 36, 37, 38, 78, 79, 80, 81, 82, 83] (by decide +kernel) (by decide +kernel)
set_option maxRecDepth 20000 in
theorem gX4_init_X1_init : GoodIn wsX4_init (wsX1_init) := ggX4_init_X1_init
set_option maxRecDepth 20000 in
theorem ggX4_init_X0_init : GoodIn wsX4_init wsX0_init := goodIn_r _ [41, 42, 2, 3, 43, 44, 45, 46, 37, 47, 48, 49, 50, 7, 51, 33, 84, 85, 86, 87, 88, 78, 79, 80, 81, 82, 83] (by decide +kernel) (by decide +kernel)
set_option maxRecDepth 20000 in
theorem gX4_init_X0_init : GoodIn wsX4_init (wsX0_init) := ggX4_init_X0_init
set_option maxRecDepth 20000 in
theorem ggX4_init_X1_placeRoom : GoodIn wsX4_init wsX1_placeRoom := goodIn_r _ [51, 33, 78, 79, 80, 81, 82, 83] (by decide +kernel) (by decide +kernel)
set_option maxRecDepth 20000 in
theorem gX4_init_X1_placeRoom : GoodIn wsX4_init (wsV RX4 37 RX1 yX1_placeRoom wsX1_placeRoom) := goodIn_app (goodIn_of _ (by decide +kernel)) ggX4_init_X1_placeRoom
set_option maxRecDepth 20000 in
theorem ggX4_init_X2_init : GoodIn wsX4_init wsX2_init := goodIn_r _ [55, 56, 2, 3, 57, 58, 59, 37, 60, 89, 90, 91, 92] (by decide +kernel) (by decide +kernel)
set_option maxRecDepth 20000 in
theorem gX4_init_X2_init : GoodIn wsX4_init (wsX2_init) := ggX4_init_X2_init
set_option maxRecDepth 20000 in
theorem ggX4_init_X3_init : GoodIn wsX4_init wsX3_init := goodIn_r _ [63, 64, 2, 3, 37, 65, 66, 93, 94, 95, 96, 97] (by decide +kernel) (by decide +kernel)
set_option maxRecDepth 20000 in
theorem gX4_init_X3_init : GoodIn wsX4_init (wsX3_init) := ggX4_init_X3_init
theorem dX4_init_0 : decode cX4_init 0 = .ok (.aload_n 0, 1) := by decide +kernel
theorem dX4_init_1 : decode cX4_init 1 = .ok (.invokespecial 1, 3) := by decide +kernel
theorem dX4_init_4 : decode cX4_init 4 = .ok (.aload_n 0, 1) := by decide +kernel
theorem dX4_init_5 : decode cX4_init 5 = .ok (.iconst 1, 1) := by decide +kernel
theorem dX4_init_6 : decode cX4_init 6 = .ok (.putfield 7, 3) := by decide +kernel
theorem dX4_init_9 : decode cX4_init 9 = .ok (.aload_n 0, 1) := by decide +kernel
theorem dX4_init_10 : decode cX4_init 10 = .ok (.new 13, 3) := by decide +kernel
theorem dX4_init_13 : decode cX4_init 13 = .ok (.dup, 1) := by decide +kernel
theorem dX4_init_14 : decode cX4_init 14 = .ok (.iload_n 1, 1) := by decide +kernel
theorem dX4_init_15 : decode cX4_init 15 = .ok (.invokestatic 15, 3) := by decide +kernel
theorem dX4_init_18 : decode cX4_init 18 = .ok (.iload_n 2, 1) := by decide +kernel
theorem dX4_init_19 : decode cX4_init 19 = .ok (.invokestatic 15, 3) := by decide +kernel
theorem dX4_init_22 : decode cX4_init 22 = .ok (.iload_n 3, 1) := by decide +kernel
theorem dX4_init_23 : decode cX4_init 23 = .ok (.iconst 4, 1) := by decide +kernel
theorem dX4_init_24 : decode cX4_init 24 = .ok (.if_icmp .ne 7, 3) := by decide +kernel
theorem dX4_init_27 : decode cX4_init 27 = .ok (.iconst 2, 1) := by decide +kernel
theorem dX4_init_28 : decode cX4_init 28 = .ok (.goto 4, 3) := by decide +kernel
theorem dX4_init_31 : decode cX4_init 31 = .ok (.iconst 1, 1) := by decide +kernel
theorem dX4_init_32 : decode cX4_init 32 = .ok (.invokespecial 19, 3) := by decide +kernel
theorem dX4_init_35 : decode cX4_init 35 = .ok (.putfield 22, 3) := by decide +kernel
theorem dX4_init_38 : decode cX4_init 38 = .ok (.aload_n 0, 1) := by decide +kernel
theorem dX4_init_39 : decode cX4_init 39 = .ok (.new 26, 3) := by decide +kernel
theorem dX4_init_42 : decode cX4_init 42 = .ok (.dup, 1) := by decide +kernel
theorem dX4_init_43 : decode cX4_init 43 = .ok (.aload_n 0, 1) := by decide +kernel
theorem dX4_init_44 : decode cX4_init 44 = .ok (.getfield 22, 3) := by decide +kernel
theorem dX4_init_47 : decode cX4_init 47 = .ok (.invokespecial 28, 3) := by decide +kernel
theorem dX4_init_50 : decode cX4_init 50 = .ok (.putfield 31, 3) := by decide +kernel
theorem dX4_init_53 : decode cX4_init 53 = .ok (.aload_n 0, 1) := by decide +kernel
theorem dX4_init_54 : decode cX4_init 54 = .ok (.new 35, 3) := by decide +kernel
theorem dX4_init_57 : decode cX4_init 57 = .ok (.dup, 1) := by decide +kernel
theorem dX4_init_58 : decode cX4_init 58 = .ok (.aload_n 0, 1) := by decide +kernel
theorem dX4_init_59 : decode cX4_init 59 = .ok (.getfield 31, 3) := by decide +kernel
theorem dX4_init_62 : decode cX4_init 62 = .ok (.aload_n 0, 1) := by decide +kernel
theorem dX4_init_63 : decode cX4_init 63 = .ok (.getfield 22, 3) := by decide +kernel
theorem dX4_init_66 : decode cX4_init 66 = .ok (.invokevirtual 37, 3) := by decide +kernel
theorem dX4_init_69 : decode cX4_init 69 = .ok (.invokespecial 41, 3) := by decide +kernel
theorem dX4_init_72 : decode cX4_init 72 = .ok (.putfield 44, 3) := by decide +kernel
theorem dX4_init_75 : decode cX4_init 75 = .ok (.aload_n 0, 1) := by decide +kernel
theorem dX4_init_76 : decode cX4_init 76 = .ok (.new 48, 3) := by decide +kernel
theorem dX4_init_79 : decode cX4_init 79 = .ok (.dup, 1) := by decide +kernel
theorem dX4_init_80 : decode cX4_init 80 = .ok (.aload_n 0, 1) := by decide +kernel
theorem dX4_init_81 : decode cX4_init 81 = .ok (.getfield 22, 3) := by decide +kernel
theorem dX4_init_84 : decode cX4_init 84 = .ok (.invokevirtual 37, 3) := by decide +kernel
theorem dX4_init_87 : decode cX4_init 87 = .ok (.invokespecial 50, 3) := by decide +kernel
theorem dX4_init_90 : decode cX4_init 90 = .ok (.putfield 53, 3) := by decide +kernel
theorem dX4_init_93 : decode cX4_init 93 = .ok (.return_, 1) := by decide +kernel
set_option maxRecDepth 20000 in
theorem ggX4_cell_X1_hasCell : GoodIn wsX4_cell wsX1_hasCell := goodIn_r _ [10, 11, 12, 68, 69, 70, 71, 72, 73] (by decide +kernel) (by decide +kernel)
set_option maxRecDepth 20000 in
theorem gX4_cell_X1_hasCell : GoodIn wsX4_cell (wsV RX4 57 RX1 yX1_hasCell wsX1_hasCell) := goodIn_app (goodIn_of _ (by decide +kernel)) ggX4_cell_X1_hasCell
set_option maxRecDepth 20000 in
theorem ggX4_cell_X3_drop : GoodIn wsX4_cell wsX3_drop := goodIn_r _ [17, 18, 19, 20, 74, 75, 76, 77, 78] (by decide +kernel) (by decide +kernel)
set_option maxRecDepth 20000 in
theorem gX4_cell_X3_drop : GoodIn wsX4_cell (wsV RX4 68 RX3 yX3_drop wsX3_drop) := goodIn_app (goodIn_of _ (by decide +kernel)) ggX4_cell_X3_drop
set_option maxRecDepth 20000 in
theorem ggX4_cell_X4_setCell : GoodIn wsX4_cell wsX4_setCell := goodIn_r _ [25, 1, 26, 27, 28, 29, 9, 30, 31, 32, 7, 8, 10, 11, 12, 33, 24, 34, 35, 36, 37, 38, 39, 40, 41, 42, 43, 44, 45, 46, 47, 48, 49, 50, 51, 52, 53, 54, 55, 56, 57, 58, 59, 60, 61, 68, 69, 70, 71, 72, 73, 79, 80, 81, 82, 83] (by decide +kernel) (by decide +kernel)
set_option maxRecDepth 20000 in
theorem gX4_cell_X4_setCell : GoodIn wsX4_cell (wsV RX4 71 RX4 yX4_setCell wsX4_setCell) := goodIn_app (goodIn_of _ (by decide +kernel)) ggX4_cell_X4_setCell
theorem dX4_cell_0 : decode cX4_cell 0 = .ok (.aload_n 0, 1) := by decide +kernel
theorem dX4_cell_1 : decode cX4_cell 1 = .ok (.getfield 22, 3) := by decide +kernel
theorem dX4_cell_4 : decode cX4_cell 4 = .ok (.iload_n 1, 1) := by decide +kernel
theorem dX4_cell_5 : decode cX4_cell 5 = .ok (.iload_n 2, 1) := by decide +kernel
theorem dX4_cell_6 : decode cX4_cell 6 = .ok (.invokevirtual 57, 3) := by decide +kernel
theorem dX4_cell_9 : decode cX4_cell 9 = .ok (.ifCond .ne 13, 3) := by decide +kernel
theorem dX4_cell_12 : decode cX4_cell 12 = .ok (.new 61, 3) := by decide +kernel
theorem dX4_cell_15 : decode cX4_cell 15 = .ok (.dup, 1) := by decide +kernel
theorem dX4_cell_16 : decode cX4_cell 16 = .ok (.ldc 63, 2) := by decide +kernel
theorem dX4_cell_18 : decode cX4_cell 18 = .ok (.invokespecial 65, 3) := by decide +kernel
theorem dX4_cell_21 : decode cX4_cell 21 = .ok (.athrow, 1) := by decide +kernel
theorem dX4_cell_22 : decode cX4_cell 22 = .ok (.aload_n 0, 1) := by decide +kernel
theorem dX4_cell_23 : decode cX4_cell 23 = .ok (.getfield 53, 3) := by decide +kernel
theorem dX4_cell_26 : decode cX4_cell 26 = .ok (.invokevirtual 68, 3) := by decide +kernel
theorem dX4_cell_29 : decode cX4_cell 29 = .ok (.aload_n 0, 1) := by decide +kernel
theorem dX4_cell_30 : decode cX4_cell 30 = .ok (.iload_n 1, 1) := by decide +kernel
theorem dX4_cell_31 : decode cX4_cell 31 = .ok (.iload_n 2, 1) := by decide +kernel
theorem dX4_cell_32 : decode cX4_cell 32 = .ok (.iload_n 3, 1) := by decide +kernel
theorem dX4_cell_33 : decode cX4_cell 33 = .ok (.invokevirtual 71, 3) := by decide +kernel
theorem dX4_cell_36 : decode cX4_cell 36 = .ok (.ifCond .eq 7, 3) := by decide +kernel
theorem dX4_cell_39 : decode cX4_cell 39 = .ok (.iconst 1, 1) := by decide +kernel
theorem dX4_cell_40 : decode cX4_cell 40 = .ok (.goto 4, 3) := by decide +kernel
theorem dX4_cell_43 : decode cX4_cell 43 = .ok (.iconst 0, 1) := by decide +kernel
theorem dX4_cell_44 : decode cX4_cell 44 = .ok (.ireturn, 1) := by decide +kernel
set_option maxRecDepth 20000 in
theorem ggX4_car_X4_isFrom : GoodIn wsX4_car wsX4_isFrom := goodIn_r _ [6] (by decide +kernel) (by decide +kernel)
set_option maxRecDepth 20000 in
theorem gX4_car_X4_isFrom : GoodIn wsX4_car (va_wsS RX4 75 yX4_isFrom wsX4_isFrom) := goodIn_app (goodIn_of _ (by decide +kernel)) ggX4_car_X4_isFrom
set_option maxRecDepth 20000 in
theorem ggX4_car_X0_build : GoodIn wsX4_car wsX0_build := goodIn_r _ [11, 12, 13, 14, 15, 16, 17, 10, 18, 19, 20, 21, 22, 23, 43, 44, 45, 46, 47] (by decide +kernel) (by decide +kernel)
set_option maxRecDepth 20000 in
theorem gX4_car_X0_build : GoodIn wsX4_car (wsV RX4 79 RX0 yX0_build wsX0_build) := goodIn_app (goodIn_of _ (by decide +kernel)) ggX4_car_X0_build
set_option maxRecDepth 20000 in
theorem ggX4_car_X3_drop : GoodIn wsX4_car wsX3_drop := goodIn_r _ [28, 29, 30, 31, 48, 49, 50, 51, 52] (by decide +kernel) (by decide +kernel)
set_option maxRecDepth 20000 in
theorem gX4_car_X3_drop : GoodIn wsX4_car (wsV RX4 68 RX3 yX3_drop wsX3_drop) := goodIn_app (goodIn_of _ (by decide +kernel)) ggX4_car_X3_drop
theorem dX4_car_0 : decode cX4_car 0 = .ok (.iconst 1, 1) := by decide +kernel
theorem dX4_car_1 : decode cX4_car 1 = .ok (.iload_n 1, 1) := by decide +kernel
theorem dX4_car_2 : decode cX4_car 2 = .ok (.bipush 7, 2) := by decide +kernel
theorem dX4_car_4 : decode cX4_car 4 = .ok (.invokestatic 75, 3) := by decide +kernel
theorem dX4_car_7 : decode cX4_car 7 = .ok (.ifCond .eq 21, 3) := by decide +kernel
theorem dX4_car_10 : decode cX4_car 10 = .ok (.iconst 1, 1) := by decide +kernel
theorem dX4_car_11 : decode cX4_car 11 = .ok (.iload_n 2, 1) := by decide +kernel
theorem dX4_car_12 : decode cX4_car 12 = .ok (.iconst 5, 1) := by decide +kernel
theorem dX4_car_13 : decode cX4_car 13 = .ok (.invokestatic 75, 3) := by decide +kernel
theorem dX4_car_16 : decode cX4_car 16 = .ok (.ifCond .eq 12, 3) := by decide +kernel
theorem dX4_car_19 : decode cX4_car 19 = .ok (.iconst 1, 1) := by decide +kernel
theorem dX4_car_20 : decode cX4_car 20 = .ok (.iload_n 3, 1) := by decide +kernel
theorem dX4_car_21 : decode cX4_car 21 = .ok (.iconst 4, 1) := by decide +kernel
theorem dX4_car_22 : decode cX4_car 22 = .ok (.invokestatic 75, 3) := by decide +kernel
theorem dX4_car_25 : decode cX4_car 25 = .ok (.ifCond .ne 5, 3) := by decide +kernel
theorem dX4_car_28 : decode cX4_car 28 = .ok (.iconst 0, 1) := by decide +kernel
theorem dX4_car_29 : decode cX4_car 29 = .ok (.ireturn, 1) := by decide +kernel
theorem dX4_car_30 : decode cX4_car 30 = .ok (.aload_n 0, 1) := by decide +kernel
theorem dX4_car_31 : decode cX4_car 31 = .ok (.getfield 31, 3) := by decide +kernel
theorem dX4_car_34 : decode cX4_car 34 = .ok (.iload_n 1, 1) := by decide +kernel
theorem dX4_car_35 : decode cX4_car 35 = .ok (.iload_n 2, 1) := by decide +kernel
theorem dX4_car_36 : decode cX4_car 36 = .ok (.iload_n 3, 1) := by decide +kernel
theorem dX4_car_37 : decode cX4_car 37 = .ok (.invokevirtual 79, 3) := by decide +kernel
theorem dX4_car_40 : decode cX4_car 40 = .ok (.aload_n 0, 1) := by decide +kernel
theorem dX4_car_41 : decode cX4_car 41 = .ok (.getfield 53, 3) := by decide +kernel
theorem dX4_car_44 : decode cX4_car 44 = .ok (.invokevirtual 68, 3) := by decide +kernel
theorem dX4_car_47 : decode cX4_car 47 = .ok (.iconst 1, 1) := by decide +kernel
theorem dX4_car_48 : decode cX4_car 48 = .ok (.ireturn, 1) := by decide +kernel
set_option maxRecDepth 20000 in
theorem ggX4_keep_X4_isFrom : GoodIn wsX4_keep wsX4_isFrom := goodIn_r _ [7] (by decide +kernel) (by decide +kernel)
set_option maxRecDepth 20000 in
theorem gX4_keep_X4_isFrom : GoodIn wsX4_keep (va_wsS RX4 75 yX4_isFrom wsX4_isFrom) := goodIn_app (goodIn_of _ (by decide +kernel)) ggX4_keep_X4_isFrom
set_option maxRecDepth 20000 in
theorem ggX4_keep_X1_setKeep : GoodIn wsX4_keep wsX1_setKeep := goodIn_r _ [12, 13, 14, 15, 16, 17, 18, 19, 20, 21, 22, 23, 11, 24, 25, 26, 27, 28, 29, 30, 6, 31, 32, 33, 34, 35, 62, 63, 64, 65, 66, 67] (by decide +kernel) (by decide +kernel)
set_option maxRecDepth 20000 in
theorem gX4_keep_X1_setKeep : GoodIn wsX4_keep (wsV RX4 86 RX1 yX1_setKeep wsX1_setKeep) := goodIn_app (goodIn_of _ (by decide +kernel)) ggX4_keep_X1_setKeep
set_option maxRecDepth 20000 in
theorem ggX4_keep_X0_forget : GoodIn wsX4_keep wsX0_forget := goodIn_r _ [40, 41, 42, 18, 19, 20, 68, 69, 70, 71, 72] (by decide +kernel) (by decide +kernel)
set_option maxRecDepth 20000 in
theorem gX4_keep_X0_forget : GoodIn wsX4_keep (wsV RX4 89 RX0 yX0_forget wsX0_forget) := goodIn_app (goodIn_of _ (by decide +kernel)) ggX4_keep_X0_forget
set_option maxRecDepth 20000 in
theorem ggX4_keep_X3_drop : GoodIn wsX4_keep wsX3_drop := goodIn_r _ [47, 48, 49, 50, 73, 74, 75, 76, 77] (by decide +kernel) (by decide +kernel)
set_option maxRecDepth 20000 in
theorem gX4_keep_X3_drop : GoodIn wsX4_keep (wsV RX4 68 RX3 yX3_drop wsX3_drop) := goodIn_app (goodIn_of _ (by decide +kernel)) ggX4_keep_X3_drop
theorem dX4_keep_0 : decode cX4_keep 0 = .ok (.iconst 0, 1) := by decide +kernel
theorem dX4_keep_1 : decode cX4_keep 1 = .ok (.iload_n 1, 1) := by decide +kernel
theorem dX4_keep_2 : decode cX4_keep 2 = .ok (.iconst 3, 1) := by decide +kernel
theorem dX4_keep_3 : decode cX4_keep 3 = .ok (.invokestatic 75, 3) := by decide +kernel
theorem dX4_keep_6 : decode cX4_keep 6 = .ok (.ifCond .ne 6, 3) := by decide +kernel
theorem dX4_keep_9 : decode cX4_keep 9 = .ok (.bipush (-2), 2) := by decide +kernel
theorem dX4_keep_11 : decode cX4_keep 11 = .ok (.ireturn, 1) := by decide +kernel
theorem dX4_keep_12 : decode cX4_keep 12 = .ok (.aload_n 0, 1) := by decide +kernel
theorem dX4_keep_13 : decode cX4_keep 13 = .ok (.getfield 22, 3) := by decide +kernel
theorem dX4_keep_16 : decode cX4_keep 16 = .ok (.getfield 82, 3) := by decide +kernel
theorem dX4_keep_19 : decode cX4_keep 19 = .ok (.istore_n 2, 1) := by decide +kernel
theorem dX4_keep_20 : decode cX4_keep 20 = .ok (.aload_n 0, 1) := by decide +kernel
theorem dX4_keep_21 : decode cX4_keep 21 = .ok (.getfield 22, 3) := by decide +kernel
theorem dX4_keep_24 : decode cX4_keep 24 = .ok (.iload_n 1, 1) := by decide +kernel
theorem dX4_keep_25 : decode cX4_keep 25 = .ok (.invokevirtual 86, 3) := by decide +kernel
theorem dX4_keep_28 : decode cX4_keep 28 = .ok (.aload_n 0, 1) := by decide +kernel
theorem dX4_keep_29 : decode cX4_keep 29 = .ok (.getfield 31, 3) := by decide +kernel
theorem dX4_keep_32 : decode cX4_keep 32 = .ok (.invokevirtual 89, 3) := by decide +kernel
theorem dX4_keep_35 : decode cX4_keep 35 = .ok (.aload_n 0, 1) := by decide +kernel
theorem dX4_keep_36 : decode cX4_keep 36 = .ok (.getfield 53, 3) := by decide +kernel
theorem dX4_keep_39 : decode cX4_keep 39 = .ok (.invokevirtual 68, 3) := by decide +kernel
theorem dX4_keep_42 : decode cX4_keep 42 = .ok (.iload_n 2, 1) := by decide +kernel
theorem dX4_keep_43 : decode cX4_keep 43 = .ok (.ireturn, 1) := by decide +kernel
set_option maxRecDepth 20000 in
theorem ggX4_stand_X1_hasCell : GoodIn wsX4_stand wsX1_hasCell := goodIn_r _ [10, 11, 12, 83, 84, 85, 86, 87, 88] (by decide +kernel) (by decide +kernel)
set_option maxRecDepth 20000 in
theorem gX4_stand_X1_hasCell : GoodIn wsX4_stand (wsV RX4 57 RX1 yX1_hasCell wsX1_hasCell) := goodIn_app (goodIn_of _ (by decide +kernel)) ggX4_stand_X1_hasCell
set_option maxRecDepth 20000 in
theorem ggX4_stand_X1_hasHeading : GoodIn wsX4_stand wsX1_hasHeading := goodIn_r _ [16, 17, 18, 19, 20, 83, 84, 85, 86, 87, 88] (by decide +kernel) (by decide +kernel)
set_option maxRecDepth 20000 in
theorem gX4_stand_X1_hasHeading : GoodIn wsX4_stand (wsV RX4 92 RX1 yX1_hasHeading wsX1_hasHeading) := goodIn_app (goodIn_of _ (by decide +kernel)) ggX4_stand_X1_hasHeading
set_option maxRecDepth 20000 in
theorem ggX4_stand_X4_placeAt : GoodIn wsX4_stand wsX4_placeAt := goodIn_r _ [23, 24, 25, 19, 26] (by decide +kernel) (by decide +kernel)
set_option maxRecDepth 20000 in
theorem gX4_stand_X4_placeAt : GoodIn wsX4_stand (va_wsS RX4 96 yX4_placeAt wsX4_placeAt) := goodIn_app (goodIn_of _ (by decide +kernel)) ggX4_stand_X4_placeAt
set_option maxRecDepth 20000 in
theorem ggX4_stand_X0_isFree : GoodIn wsX4_stand wsX0_isFree := goodIn_r _ [31, 32, 33, 34, 35, 30, 36, 37, 38, 39, 40, 41, 42, 43, 19, 44, 45, 46, 47, 48, 49, 50, 51, 52, 53, 54, 55, 56, 57, 58, 59, 60, 9, 61, 62, 63, 7, 8, 10, 11, 12, 25, 26, 89, 90, 91, 92, 93, 83, 84, 85, 86, 87, 88] (by decide +kernel) (by decide +kernel)
set_option maxRecDepth 20000 in
theorem gX4_stand_X0_isFree : GoodIn wsX4_stand (wsV RX4 100 RX0 yX0_isFree wsX0_isFree) := goodIn_app (goodIn_of _ (by decide +kernel)) ggX4_stand_X0_isFree
set_option maxRecDepth 20000 in
theorem ggX4_stand_X3_drop : GoodIn wsX4_stand wsX3_drop := goodIn_r _ [68, 69, 70, 71, 94, 95, 96, 97, 98] (by decide +kernel) (by decide +kernel)
set_option maxRecDepth 20000 in
theorem gX4_stand_X3_drop : GoodIn wsX4_stand (wsV RX4 68 RX3 yX3_drop wsX3_drop) := goodIn_app (goodIn_of _ (by decide +kernel)) ggX4_stand_X3_drop
theorem dX4_stand_0 : decode cX4_stand 0 = .ok (.aload_n 0, 1) := by decide +kernel
theorem dX4_stand_1 : decode cX4_stand 1 = .ok (.getfield 22, 3) := by decide +kernel
theorem dX4_stand_4 : decode cX4_stand 4 = .ok (.iload_n 1, 1) := by decide +kernel
theorem dX4_stand_5 : decode cX4_stand 5 = .ok (.iload_n 2, 1) := by decide +kernel
theorem dX4_stand_6 : decode cX4_stand 6 = .ok (.invokevirtual 57, 3) := by decide +kernel
theorem dX4_stand_9 : decode cX4_stand 9 = .ok (.ifCond .eq 14, 3) := by decide +kernel
theorem dX4_stand_12 : decode cX4_stand 12 = .ok (.aload_n 0, 1) := by decide +kernel
theorem dX4_stand_13 : decode cX4_stand 13 = .ok (.getfield 22, 3) := by decide +kernel
theorem dX4_stand_16 : decode cX4_stand 16 = .ok (.iload_n 3, 1) := by decide +kernel
theorem dX4_stand_17 : decode cX4_stand 17 = .ok (.invokevirtual 92, 3) := by decide +kernel
theorem dX4_stand_20 : decode cX4_stand 20 = .ok (.ifCond .ne 6, 3) := by decide +kernel
theorem dX4_stand_23 : decode cX4_stand 23 = .ok (.bipush (-2), 2) := by decide +kernel
theorem dX4_stand_25 : decode cX4_stand 25 = .ok (.ireturn, 1) := by decide +kernel
theorem dX4_stand_26 : decode cX4_stand 26 = .ok (.iload_n 1, 1) := by decide +kernel
theorem dX4_stand_27 : decode cX4_stand 27 = .ok (.iload_n 2, 1) := by decide +kernel
theorem dX4_stand_28 : decode cX4_stand 28 = .ok (.iload_n 3, 1) := by decide +kernel
theorem dX4_stand_29 : decode cX4_stand 29 = .ok (.invokestatic 96, 3) := by decide +kernel
theorem dX4_stand_32 : decode cX4_stand 32 = .ok (.istore 4, 2) := by decide +kernel
theorem dX4_stand_34 : decode cX4_stand 34 = .ok (.aload_n 0, 1) := by decide +kernel
theorem dX4_stand_35 : decode cX4_stand 35 = .ok (.getfield 31, 3) := by decide +kernel
theorem dX4_stand_38 : decode cX4_stand 38 = .ok (.iload 4, 2) := by decide +kernel
theorem dX4_stand_40 : decode cX4_stand 40 = .ok (.invokevirtual 100, 3) := by decide +kernel
theorem dX4_stand_43 : decode cX4_stand 43 = .ok (.ifCond .ne 6, 3) := by decide +kernel
theorem dX4_stand_46 : decode cX4_stand 46 = .ok (.bipush (-3), 2) := by decide +kernel
theorem dX4_stand_48 : decode cX4_stand 48 = .ok (.ireturn, 1) := by decide +kernel
theorem dX4_stand_49 : decode cX4_stand 49 = .ok (.aload_n 0, 1) := by decide +kernel
theorem dX4_stand_50 : decode cX4_stand 50 = .ok (.iload 4, 2) := by decide +kernel
theorem dX4_stand_52 : decode cX4_stand 52 = .ok (.putfield 103, 3) := by decide +kernel
theorem dX4_stand_55 : decode cX4_stand 55 = .ok (.aload_n 0, 1) := by decide +kernel
theorem dX4_stand_56 : decode cX4_stand 56 = .ok (.iload 4, 2) := by decide +kernel
theorem dX4_stand_58 : decode cX4_stand 58 = .ok (.putfield 106, 3) := by decide +kernel
theorem dX4_stand_61 : decode cX4_stand 61 = .ok (.aload_n 0, 1) := by decide +kernel
theorem dX4_stand_62 : decode cX4_stand 62 = .ok (.getfield 53, 3) := by decide +kernel
theorem dX4_stand_65 : decode cX4_stand 65 = .ok (.invokevirtual 68, 3) := by decide +kernel
theorem dX4_stand_68 : decode cX4_stand 68 = .ok (.iconst 1, 1) := by decide +kernel
theorem dX4_stand_69 : decode cX4_stand 69 = .ok (.ireturn, 1) := by decide +kernel
set_option maxRecDepth 20000 in
theorem ggX4_space_X4_isFrom : GoodIn wsX4_space wsX4_isFrom := goodIn_r _ [7] (by decide +kernel) (by decide +kernel)
set_option maxRecDepth 20000 in
theorem gX4_space_X4_isFrom : GoodIn wsX4_space (va_wsS RX4 75 yX4_isFrom wsX4_isFrom) := goodIn_app (goodIn_of _ (by decide +kernel)) ggX4_space_X4_isFrom
set_option maxRecDepth 20000 in
theorem ggX4_space_X1_firstRun : GoodIn wsX4_space wsX1_firstRun := goodIn_r _ [12, 13, 14, 15, 16, 11, 17, 18, 19, 20, 21, 22, 23, 24, 25, 26, 27, 28, 6, 29, 54, 55, 56, 57, 58, 59] (by decide +kernel) (by decide +kernel)
set_option maxRecDepth 20000 in
theorem gX4_space_X1_firstRun : GoodIn wsX4_space (wsV RX4 115 RX1 yX1_firstRun wsX1_firstRun) := goodIn_app (goodIn_of _ (by decide +kernel)) ggX4_space_X1_firstRun
set_option maxRecDepth 20000 in
theorem ggX4_space_X1_runLength : GoodIn wsX4_space wsX1_runLength := goodIn_r _ [17, 13, 18, 19, 20, 11, 21, 22, 23, 24, 25, 26, 27, 28, 6, 29, 54, 55, 56, 57, 58, 59] (by decide +kernel) (by decide +kernel)
set_option maxRecDepth 20000 in
theorem gX4_space_X1_runLength : GoodIn wsX4_space (wsV RX4 119 RX1 yX1_runLength wsX1_runLength) := goodIn_app (goodIn_of _ (by decide +kernel)) ggX4_space_X1_runLength
set_option maxRecDepth 20000 in
theorem ggX4_space_X4_placeAt : GoodIn wsX4_space wsX4_placeAt := goodIn_r _ [33, 34, 28, 6, 29] (by decide +kernel) (by decide +kernel)
set_option maxRecDepth 20000 in
theorem gX4_space_X4_placeAt : GoodIn wsX4_space (va_wsS RX4 96 yX4_placeAt wsX4_placeAt) := goodIn_app (goodIn_of _ (by decide +kernel)) ggX4_space_X4_placeAt
set_option maxRecDepth 20000 in
theorem ggX4_space_X3_drop : GoodIn wsX4_space wsX3_drop := goodIn_r _ [39, 40, 41, 42, 60, 61, 62, 63, 64] (by decide +kernel) (by decide +kernel)
set_option maxRecDepth 20000 in
theorem gX4_space_X3_drop : GoodIn wsX4_space (wsV RX4 68 RX3 yX3_drop wsX3_drop) := goodIn_app (goodIn_of _ (by decide +kernel)) ggX4_space_X3_drop
theorem dX4_space_0 : decode cX4_space 0 = .ok (.iconst 1, 1) := by decide +kernel
theorem dX4_space_1 : decode cX4_space 1 = .ok (.iload_n 2, 1) := by decide +kernel
theorem dX4_space_2 : decode cX4_space 2 = .ok (.aload_n 0, 1) := by decide +kernel
theorem dX4_space_3 : decode cX4_space 3 = .ok (.getfield 22, 3) := by decide +kernel
theorem dX4_space_6 : decode cX4_space 6 = .ok (.getfield 109, 3) := by decide +kernel
theorem dX4_space_9 : decode cX4_space 9 = .ok (.invokestatic 75, 3) := by decide +kernel
theorem dX4_space_12 : decode cX4_space 12 = .ok (.ifCond .ne 6, 3) := by decide +kernel
theorem dX4_space_15 : decode cX4_space 15 = .ok (.bipush (-2), 2) := by decide +kernel
theorem dX4_space_17 : decode cX4_space 17 = .ok (.ireturn, 1) := by decide +kernel
theorem dX4_space_18 : decode cX4_space 18 = .ok (.iload_n 1, 1) := by decide +kernel
theorem dX4_space_19 : decode cX4_space 19 = .ok (.ifCond .ne 7, 3) := by decide +kernel
theorem dX4_space_22 : decode cX4_space 22 = .ok (.iconst 0, 1) := by decide +kernel
theorem dX4_space_23 : decode cX4_space 23 = .ok (.goto 12, 3) := by decide +kernel
theorem dX4_space_26 : decode cX4_space 26 = .ok (.aload_n 0, 1) := by decide +kernel
theorem dX4_space_27 : decode cX4_space 27 = .ok (.getfield 22, 3) := by decide +kernel
theorem dX4_space_30 : decode cX4_space 30 = .ok (.getfield 112, 3) := by decide +kernel
theorem dX4_space_33 : decode cX4_space 33 = .ok (.iconst 1, 1) := by decide +kernel
theorem dX4_space_34 : decode cX4_space 34 = .ok (.isub, 1) := by decide +kernel
theorem dX4_space_35 : decode cX4_space 35 = .ok (.istore_n 3, 1) := by decide +kernel
theorem dX4_space_36 : decode cX4_space 36 = .ok (.aload_n 0, 1) := by decide +kernel
theorem dX4_space_37 : decode cX4_space 37 = .ok (.getfield 22, 3) := by decide +kernel
theorem dX4_space_40 : decode cX4_space 40 = .ok (.iload_n 3, 1) := by decide +kernel
theorem dX4_space_41 : decode cX4_space 41 = .ok (.iload_n 2, 1) := by decide +kernel
theorem dX4_space_42 : decode cX4_space 42 = .ok (.invokevirtual 115, 3) := by decide +kernel
theorem dX4_space_45 : decode cX4_space 45 = .ok (.istore 4, 2) := by decide +kernel
theorem dX4_space_47 : decode cX4_space 47 = .ok (.iload 4, 2) := by decide +kernel
theorem dX4_space_49 : decode cX4_space 49 = .ok (.ifCond .ge 5, 3) := by decide +kernel
theorem dX4_space_52 : decode cX4_space 52 = .ok (.iconst 0, 1) := by decide +kernel
theorem dX4_space_53 : decode cX4_space 53 = .ok (.ireturn, 1) := by decide +kernel
theorem dX4_space_54 : decode cX4_space 54 = .ok (.aload_n 0, 1) := by decide +kernel
theorem dX4_space_55 : decode cX4_space 55 = .ok (.iload 4, 2) := by decide +kernel
theorem dX4_space_57 : decode cX4_space 57 = .ok (.aload_n 0, 1) := by decide +kernel
theorem dX4_space_58 : decode cX4_space 58 = .ok (.getfield 22, 3) := by decide +kernel
theorem dX4_space_61 : decode cX4_space 61 = .ok (.iload 4, 2) := by decide +kernel
theorem dX4_space_63 : decode cX4_space 63 = .ok (.iload_n 3, 1) := by decide +kernel
theorem dX4_space_64 : decode cX4_space 64 = .ok (.invokevirtual 119, 3) := by decide +kernel
theorem dX4_space_67 : decode cX4_space 67 = .ok (.iconst 1, 1) := by decide +kernel
theorem dX4_space_68 : decode cX4_space 68 = .ok (.isub, 1) := by decide +kernel
theorem dX4_space_69 : decode cX4_space 69 = .ok (.iconst 2, 1) := by decide +kernel
theorem dX4_space_70 : decode cX4_space 70 = .ok (.idiv, 1) := by decide +kernel
theorem dX4_space_71 : decode cX4_space 71 = .ok (.iadd, 1) := by decide +kernel
theorem dX4_space_72 : decode cX4_space 72 = .ok (.iload_n 3, 1) := by decide +kernel
theorem dX4_space_73 : decode cX4_space 73 = .ok (.iconst 0, 1) := by decide +kernel
theorem dX4_space_74 : decode cX4_space 74 = .ok (.invokestatic 96, 3) := by decide +kernel
theorem dX4_space_77 : decode cX4_space 77 = .ok (.putfield 122, 3) := by decide +kernel
theorem dX4_space_80 : decode cX4_space 80 = .ok (.aload_n 0, 1) := by decide +kernel
theorem dX4_space_81 : decode cX4_space 81 = .ok (.getfield 53, 3) := by decide +kernel
theorem dX4_space_84 : decode cX4_space 84 = .ok (.invokevirtual 68, 3) := by decide +kernel
theorem dX4_space_87 : decode cX4_space 87 = .ok (.iload 4, 2) := by decide +kernel
theorem dX4_space_89 : decode cX4_space 89 = .ok (.iconst 1, 1) := by decide +kernel
theorem dX4_space_90 : decode cX4_space 90 = .ok (.iadd, 1) := by decide +kernel
theorem dX4_space_91 : decode cX4_space 91 = .ok (.ireturn, 1) := by decide +kernel
set_option maxRecDepth 20000 in
theorem ggX4_out_X3_drop : GoodIn wsX4_out wsX3_drop := goodIn_r _ [8, 9, 10, 11, 23, 24, 25, 26, 27] (by decide +kernel) (by decide +kernel)
set_option maxRecDepth 20000 in
theorem gX4_out_X3_drop : GoodIn wsX4_out (wsV RX4 68 RX3 yX3_drop wsX3_drop) := goodIn_app (goodIn_of _ (by decide +kernel)) ggX4_out_X3_drop
theorem dX4_out_0 : decode cX4_out 0 = .ok (.aload_n 0, 1) := by decide +kernel
theorem dX4_out_1 : decode cX4_out 1 = .ok (.getfield 122, 3) := by decide +kernel
theorem dX4_out_4 : decode cX4_out 4 = .ok (.aload_n 0, 1) := by decide +kernel
theorem dX4_out_5 : decode cX4_out 5 = .ok (.getfield 106, 3) := by decide +kernel
theorem dX4_out_8 : decode cX4_out 8 = .ok (.if_icmp .ne 5, 3) := by decide +kernel
theorem dX4_out_11 : decode cX4_out 11 = .ok (.iconst 0, 1) := by decide +kernel
theorem dX4_out_12 : decode cX4_out 12 = .ok (.ireturn, 1) := by decide +kernel
theorem dX4_out_13 : decode cX4_out 13 = .ok (.aload_n 0, 1) := by decide +kernel
theorem dX4_out_14 : decode cX4_out 14 = .ok (.aload_n 0, 1) := by decide +kernel
theorem dX4_out_15 : decode cX4_out 15 = .ok (.getfield 106, 3) := by decide +kernel
theorem dX4_out_18 : decode cX4_out 18 = .ok (.putfield 122, 3) := by decide +kernel
theorem dX4_out_21 : decode cX4_out 21 = .ok (.aload_n 0, 1) := by decide +kernel
theorem dX4_out_22 : decode cX4_out 22 = .ok (.getfield 53, 3) := by decide +kernel
theorem dX4_out_25 : decode cX4_out 25 = .ok (.invokevirtual 68, 3) := by decide +kernel
theorem dX4_out_28 : decode cX4_out 28 = .ok (.iconst 1, 1) := by decide +kernel
theorem dX4_out_29 : decode cX4_out 29 = .ok (.ireturn, 1) := by decide +kernel
set_option maxRecDepth 20000 in
theorem ggX4_way_X4_plan : GoodIn wsX4_way wsX4_plan := goodIn_r _ [8, 3, 9, 10, 11, 1, 2, 12, 13, 14, 15, 16, 17, 18, 19, 20, 21, 22, 23, 24, 25, 26, 27, 28, 29, 30, 31, 32, 33, 34, 35, 36, 37, 38, 39, 40, 41, 42, 43, 44, 45, 46, 47, 48, 49, 50, 51, 7, 52, 53, 54, 55, 56, 57, 58, 59, 60, 61, 62, 63, 64, 65, 66, 67, 68, 69, 70, 71, 72, 73, 74, 75, 76, 77, 78, 79, 80, 81, 82, 83, 84, 85, 86, 87, 88, 89, 90, 91, 92, 93, 94, 95, 96, 97, 98, 99, 100, 101, 102, 103, 104, 105, 106, 107, 108, 109, 110, 111, 112, 113, 114, 115, 116, 117, 118, 119, 120, 121, 122, 123, 124, 125, 126, 127, 128, 129, 130, 131, 132, 133, 134, 135, 136, 137, 138, 139, 140, 141, 142, 143, 144, 145, 146, 147, 148, 149, 150, 151, 152, 153, 154, 155, 156, 162, 163, 164, 165, 157, 158, 159, 160, 161, 166, 167, 168, 169, 170, 171, 172, 173, 174, 175, 176] (by decide +kernel) (by decide +kernel)
set_option maxRecDepth 20000 in
theorem gX4_way_X4_plan : GoodIn wsX4_way (wsV RX4 129 RX4 yX4_plan wsX4_plan) := goodIn_app (goodIn_of _ (by decide +kernel)) ggX4_way_X4_plan
theorem dX4_way_0 : decode cX4_way 0 = .ok (.lload_n 1, 1) := by decide +kernel
theorem dX4_way_1 : decode cX4_way 1 = .ok (.lconst 0, 1) := by decide +kernel
theorem dX4_way_2 : decode cX4_way 2 = .ok (.lcmp, 1) := by decide +kernel
theorem dX4_way_3 : decode cX4_way 3 = .ok (.ifCond .ge 6, 3) := by decide +kernel
theorem dX4_way_6 : decode cX4_way 6 = .ok (.bipush (-2), 2) := by decide +kernel
theorem dX4_way_8 : decode cX4_way 8 = .ok (.ireturn, 1) := by decide +kernel
theorem dX4_way_9 : decode cX4_way 9 = .ok (.aload_n 0, 1) := by decide +kernel
theorem dX4_way_10 : decode cX4_way 10 = .ok (.lload_n 1, 1) := by decide +kernel
theorem dX4_way_11 : decode cX4_way 11 = .ok (.putfield 125, 3) := by decide +kernel
theorem dX4_way_14 : decode cX4_way 14 = .ok (.aload_n 0, 1) := by decide +kernel
theorem dX4_way_15 : decode cX4_way 15 = .ok (.invokevirtual 129, 3) := by decide +kernel
theorem dX4_way_18 : decode cX4_way 18 = .ok (.aload_n 0, 1) := by decide +kernel
theorem dX4_way_19 : decode cX4_way 19 = .ok (.getfield 132, 3) := by decide +kernel
theorem dX4_way_22 : decode cX4_way 22 = .ok (.ifCond .eq 13, 3) := by decide +kernel
theorem dX4_way_25 : decode cX4_way 25 = .ok (.aload_n 0, 1) := by decide +kernel
theorem dX4_way_26 : decode cX4_way 26 = .ok (.getfield 53, 3) := by decide +kernel
theorem dX4_way_29 : decode cX4_way 29 = .ok (.getfield 135, 3) := by decide +kernel
theorem dX4_way_32 : decode cX4_way 32 = .ok (.goto 4, 3) := by decide +kernel
theorem dX4_way_35 : decode cX4_way 35 = .ok (.iconst (-1), 1) := by decide +kernel
theorem dX4_way_36 : decode cX4_way 36 = .ok (.ireturn, 1) := by decide +kernel
set_option maxRecDepth 20000 in
theorem ggX4_move_X3_hasMove : GoodIn wsX4_move wsX3_hasMove := goodIn_r _ [6, 7, 40, 41, 42, 43, 44] (by decide +kernel) (by decide +kernel)
set_option maxRecDepth 20000 in
theorem gX4_move_X3_hasMove : GoodIn wsX4_move (wsV RX4 138 RX3 yX3_hasMove wsX3_hasMove) := goodIn_app (goodIn_of _ (by decide +kernel)) ggX4_move_X3_hasMove
set_option maxRecDepth 20000 in
theorem ggX4_move_X3_placeBehind : GoodIn wsX4_move wsX3_placeBehind := goodIn_r _ [11, 12, 13, 3, 4, 5, 6, 7, 40, 41, 42, 43, 44] (by decide +kernel) (by decide +kernel)
set_option maxRecDepth 20000 in
theorem gX4_move_X3_placeBehind : GoodIn wsX4_move (wsV RX4 141 RX3 yX3_placeBehind wsX3_placeBehind) := goodIn_app (goodIn_of _ (by decide +kernel)) ggX4_move_X3_placeBehind
set_option maxRecDepth 20000 in
theorem ggX4_move_X3_moveAt : GoodIn wsX4_move wsX3_moveAt := goodIn_r _ [17, 18, 13, 3, 4, 5, 6, 7, 40, 41, 42, 43, 44] (by decide +kernel) (by decide +kernel)
set_option maxRecDepth 20000 in
theorem gX4_move_X3_moveAt : GoodIn wsX4_move (wsV RX4 144 RX3 yX3_moveAt wsX3_moveAt) := goodIn_app (goodIn_of _ (by decide +kernel)) ggX4_move_X3_moveAt
set_option maxRecDepth 20000 in
theorem ggX4_move_X4_xOf : GoodIn wsX4_move wsX4_xOf := goodIn_r _ [22] (by decide +kernel) (by decide +kernel)
set_option maxRecDepth 20000 in
theorem gX4_move_X4_xOf : GoodIn wsX4_move (va_wsS RX4 147 yX4_xOf wsX4_xOf) := goodIn_app (goodIn_of _ (by decide +kernel)) ggX4_move_X4_xOf
set_option maxRecDepth 20000 in
theorem ggX4_move_X4_yOf : GoodIn wsX4_move wsX4_yOf := goodIn_r _ [25] (by decide +kernel) (by decide +kernel)
set_option maxRecDepth 20000 in
theorem gX4_move_X4_yOf : GoodIn wsX4_move (va_wsS RX4 150 yX4_yOf wsX4_yOf) := goodIn_app (goodIn_of _ (by decide +kernel)) ggX4_move_X4_yOf
set_option maxRecDepth 20000 in
theorem ggX4_move_X4_headingOf : GoodIn wsX4_move wsX4_headingOf := goodIn_r _ [28] (by decide +kernel) (by decide +kernel)
set_option maxRecDepth 20000 in
theorem gX4_move_X4_headingOf : GoodIn wsX4_move (va_wsS RX4 153 yX4_headingOf wsX4_headingOf) := goodIn_app (goodIn_of _ (by decide +kernel)) ggX4_move_X4_headingOf
theorem dX4_move_0 : decode cX4_move 0 = .ok (.aload_n 0, 1) := by decide +kernel
theorem dX4_move_1 : decode cX4_move 1 = .ok (.getfield 53, 3) := by decide +kernel
theorem dX4_move_4 : decode cX4_move 4 = .ok (.iload_n 1, 1) := by decide +kernel
theorem dX4_move_5 : decode cX4_move 5 = .ok (.invokevirtual 138, 3) := by decide +kernel
theorem dX4_move_8 : decode cX4_move 8 = .ok (.ifCond .ne 5, 3) := by decide +kernel
theorem dX4_move_11 : decode cX4_move 11 = .ok (.iconst (-1), 1) := by decide +kernel
theorem dX4_move_12 : decode cX4_move 12 = .ok (.ireturn, 1) := by decide +kernel
theorem dX4_move_13 : decode cX4_move 13 = .ok (.aload_n 0, 1) := by decide +kernel
theorem dX4_move_14 : decode cX4_move 14 = .ok (.getfield 53, 3) := by decide +kernel
theorem dX4_move_17 : decode cX4_move 17 = .ok (.iload_n 1, 1) := by decide +kernel
theorem dX4_move_18 : decode cX4_move 18 = .ok (.invokevirtual 141, 3) := by decide +kernel
theorem dX4_move_21 : decode cX4_move 21 = .ok (.istore_n 3, 1) := by decide +kernel
theorem dX4_move_22 : decode cX4_move 22 = .ok (.iload_n 2, 1) := by decide +kernel
theorem dX4_move_23 : decode cX4_move 23 = .ok (.tableswitch 53 0 3 #[29, 38, 43, 48], 29) := by decide +kernel
theorem dX4_move_52 : decode cX4_move 52 = .ok (.aload_n 0, 1) := by decide +kernel
theorem dX4_move_53 : decode cX4_move 53 = .ok (.getfield 53, 3) := by decide +kernel
theorem dX4_move_56 : decode cX4_move 56 = .ok (.iload_n 1, 1) := by decide +kernel
theorem dX4_move_57 : decode cX4_move 57 = .ok (.invokevirtual 144, 3) := by decide +kernel
theorem dX4_move_60 : decode cX4_move 60 = .ok (.ireturn, 1) := by decide +kernel
theorem dX4_move_61 : decode cX4_move 61 = .ok (.iload_n 3, 1) := by decide +kernel
theorem dX4_move_62 : decode cX4_move 62 = .ok (.invokestatic 147, 3) := by decide +kernel
theorem dX4_move_65 : decode cX4_move 65 = .ok (.ireturn, 1) := by decide +kernel
theorem dX4_move_66 : decode cX4_move 66 = .ok (.iload_n 3, 1) := by decide +kernel
theorem dX4_move_67 : decode cX4_move 67 = .ok (.invokestatic 150, 3) := by decide +kernel
theorem dX4_move_70 : decode cX4_move 70 = .ok (.ireturn, 1) := by decide +kernel
theorem dX4_move_71 : decode cX4_move 71 = .ok (.iload_n 3, 1) := by decide +kernel
theorem dX4_move_72 : decode cX4_move 72 = .ok (.invokestatic 153, 3) := by decide +kernel
theorem dX4_move_75 : decode cX4_move 75 = .ok (.ireturn, 1) := by decide +kernel
theorem dX4_move_76 : decode cX4_move 76 = .ok (.bipush (-2), 2) := by decide +kernel
theorem dX4_move_78 : decode cX4_move 78 = .ok (.ireturn, 1) := by decide +kernel
theorem dX4_exact_0 : decode cX4_exact 0 = .ok (.aload_n 0, 1) := by decide +kernel
theorem dX4_exact_1 : decode cX4_exact 1 = .ok (.getfield 132, 3) := by decide +kernel
theorem dX4_exact_4 : decode cX4_exact 4 = .ok (.ireturn, 1) := by decide +kernel
set_option maxRecDepth 20000 in
theorem ggX4_follow_X4_isFrom : GoodIn wsX4_follow wsX4_isFrom := goodIn_r _ [8] (by decide +kernel) (by decide +kernel)
set_option maxRecDepth 20000 in
theorem gX4_follow_X4_isFrom : GoodIn wsX4_follow (va_wsS RX4 75 yX4_isFrom wsX4_isFrom) := goodIn_app (goodIn_of _ (by decide +kernel)) ggX4_follow_X4_isFrom
set_option maxRecDepth 20000 in
theorem ggX4_follow_X3_hasMove : GoodIn wsX4_follow wsX3_hasMove := goodIn_r _ [13, 14, 39, 40, 41, 42, 43] (by decide +kernel) (by decide +kernel)
set_option maxRecDepth 20000 in
theorem gX4_follow_X3_hasMove : GoodIn wsX4_follow (wsV RX4 138 RX3 yX3_hasMove wsX3_hasMove) := goodIn_app (goodIn_of _ (by decide +kernel)) ggX4_follow_X3_hasMove
set_option maxRecDepth 20000 in
theorem ggX4_follow_X3_placeBehind : GoodIn wsX4_follow wsX3_placeBehind := goodIn_r _ [18, 19, 20, 10, 11, 12, 13, 14, 39, 40, 41, 42, 43] (by decide +kernel) (by decide +kernel)
set_option maxRecDepth 20000 in
theorem gX4_follow_X3_placeBehind : GoodIn wsX4_follow (wsV RX4 141 RX3 yX3_placeBehind wsX3_placeBehind) := goodIn_app (goodIn_of _ (by decide +kernel)) ggX4_follow_X3_placeBehind
set_option maxRecDepth 20000 in
theorem ggX4_follow_X4_addToError : GoodIn wsX4_follow wsX4_addToError := goodIn_r _ [24, 25, 26, 27, 28, 29, 30, 31, 32, 33, 34, 35, 36, 37, 38] (by decide +kernel) (by decide +kernel)
set_option maxRecDepth 20000 in
theorem gX4_follow_X4_addToError : GoodIn wsX4_follow (wsV RX4 164 RX4 yX4_addToError wsX4_addToError) := goodIn_app (goodIn_of _ (by decide +kernel)) ggX4_follow_X4_addToError
theorem dX4_follow_0 : decode cX4_follow 0 = .ok (.dload_n 2, 1) := by decide +kernel
theorem dX4_follow_1 : decode cX4_follow 1 = .ok (.ldc2_w 156, 3) := by decide +kernel
theorem dX4_follow_4 : decode cX4_follow 4 = .ok (.dcmp .l, 1) := by decide +kernel
theorem dX4_follow_5 : decode cX4_follow 5 = .ok (.ifCond .lt 13, 3) := by decide +kernel
theorem dX4_follow_8 : decode cX4_follow 8 = .ok (.dload_n 2, 1) := by decide +kernel
theorem dX4_follow_9 : decode cX4_follow 9 = .ok (.dconst 1, 1) := by decide +kernel
theorem dX4_follow_10 : decode cX4_follow 10 = .ok (.dcmp .g, 1) := by decide +kernel
theorem dX4_follow_11 : decode cX4_follow 11 = .ok (.ifCond .gt 7, 3) := by decide +kernel
theorem dX4_follow_14 : decode cX4_follow 14 = .ok (.iconst 1, 1) := by decide +kernel
theorem dX4_follow_15 : decode cX4_follow 15 = .ok (.goto 4, 3) := by decide +kernel
theorem dX4_follow_18 : decode cX4_follow 18 = .ok (.iconst 0, 1) := by decide +kernel
theorem dX4_follow_19 : decode cX4_follow 19 = .ok (.istore 4, 2) := by decide +kernel
theorem dX4_follow_21 : decode cX4_follow 21 = .ok (.iconst 1, 1) := by decide +kernel
theorem dX4_follow_22 : decode cX4_follow 22 = .ok (.iload_n 1, 1) := by decide +kernel
theorem dX4_follow_23 : decode cX4_follow 23 = .ok (.sipush 1000, 3) := by decide +kernel
theorem dX4_follow_26 : decode cX4_follow 26 = .ok (.invokestatic 75, 3) := by decide +kernel
theorem dX4_follow_29 : decode cX4_follow 29 = .ok (.ifCond .eq 8, 3) := by decide +kernel
theorem dX4_follow_32 : decode cX4_follow 32 = .ok (.iload 4, 2) := by decide +kernel
theorem dX4_follow_34 : decode cX4_follow 34 = .ok (.ifCond .ne 6, 3) := by decide +kernel
theorem dX4_follow_37 : decode cX4_follow 37 = .ok (.bipush (-2), 2) := by decide +kernel
theorem dX4_follow_39 : decode cX4_follow 39 = .ok (.ireturn, 1) := by decide +kernel
theorem dX4_follow_40 : decode cX4_follow 40 = .ok (.aload_n 0, 1) := by decide +kernel
theorem dX4_follow_41 : decode cX4_follow 41 = .ok (.getfield 53, 3) := by decide +kernel
theorem dX4_follow_44 : decode cX4_follow 44 = .ok (.getfield 158, 3) := by decide +kernel
theorem dX4_follow_47 : decode cX4_follow 47 = .ok (.ifCond .ne 5, 3) := by decide +kernel
theorem dX4_follow_50 : decode cX4_follow 50 = .ok (.iconst 0, 1) := by decide +kernel
theorem dX4_follow_51 : decode cX4_follow 51 = .ok (.ireturn, 1) := by decide +kernel
theorem dX4_follow_52 : decode cX4_follow 52 = .ok (.iconst 0, 1) := by decide +kernel
theorem dX4_follow_53 : decode cX4_follow 53 = .ok (.istore 5, 2) := by decide +kernel
theorem dX4_follow_55 : decode cX4_follow 55 = .ok (.iload 5, 2) := by decide +kernel
theorem dX4_follow_57 : decode cX4_follow 57 = .ok (.iload_n 1, 1) := by decide +kernel
theorem dX4_follow_58 : decode cX4_follow 58 = .ok (.if_icmp .ge 71, 3) := by decide +kernel
theorem dX4_follow_61 : decode cX4_follow 61 = .ok (.aload_n 0, 1) := by decide +kernel
theorem dX4_follow_62 : decode cX4_follow 62 = .ok (.getfield 53, 3) := by decide +kernel
theorem dX4_follow_65 : decode cX4_follow 65 = .ok (.aload_n 0, 1) := by decide +kernel
theorem dX4_follow_66 : decode cX4_follow 66 = .ok (.getfield 53, 3) := by decide +kernel
theorem dX4_follow_69 : decode cX4_follow 69 = .ok (.getfield 161, 3) := by decide +kernel
theorem dX4_follow_72 : decode cX4_follow 72 = .ok (.invokevirtual 138, 3) := by decide +kernel
theorem dX4_follow_75 : decode cX4_follow 75 = .ok (.ifCond .eq 54, 3) := by decide +kernel
theorem dX4_follow_78 : decode cX4_follow 78 = .ok (.aload_n 0, 1) := by decide +kernel
theorem dX4_follow_79 : decode cX4_follow 79 = .ok (.getfield 7, 3) := by decide +kernel
theorem dX4_follow_82 : decode cX4_follow 82 = .ok (.ifCond .ne 5, 3) := by decide +kernel
theorem dX4_follow_85 : decode cX4_follow 85 = .ok (.iconst 2, 1) := by decide +kernel
theorem dX4_follow_86 : decode cX4_follow 86 = .ok (.ireturn, 1) := by decide +kernel
theorem dX4_follow_87 : decode cX4_follow 87 = .ok (.aload_n 0, 1) := by decide +kernel
theorem dX4_follow_88 : decode cX4_follow 88 = .ok (.aload_n 0, 1) := by decide +kernel
theorem dX4_follow_89 : decode cX4_follow 89 = .ok (.getfield 53, 3) := by decide +kernel
theorem dX4_follow_92 : decode cX4_follow 92 = .ok (.aload_n 0, 1) := by decide +kernel
theorem dX4_follow_93 : decode cX4_follow 93 = .ok (.getfield 53, 3) := by decide +kernel
theorem dX4_follow_96 : decode cX4_follow 96 = .ok (.getfield 161, 3) := by decide +kernel
theorem dX4_follow_99 : decode cX4_follow 99 = .ok (.invokevirtual 141, 3) := by decide +kernel
theorem dX4_follow_102 : decode cX4_follow 102 = .ok (.putfield 103, 3) := by decide +kernel
theorem dX4_follow_105 : decode cX4_follow 105 = .ok (.aload_n 0, 1) := by decide +kernel
theorem dX4_follow_106 : decode cX4_follow 106 = .ok (.getfield 53, 3) := by decide +kernel
theorem dX4_follow_109 : decode cX4_follow 109 = .ok (.dup, 1) := by decide +kernel
theorem dX4_follow_110 : decode cX4_follow 110 = .ok (.getfield 161, 3) := by decide +kernel
theorem dX4_follow_113 : decode cX4_follow 113 = .ok (.iconst 1, 1) := by decide +kernel
theorem dX4_follow_114 : decode cX4_follow 114 = .ok (.iadd, 1) := by decide +kernel
theorem dX4_follow_115 : decode cX4_follow 115 = .ok (.putfield 161, 3) := by decide +kernel
theorem dX4_follow_118 : decode cX4_follow 118 = .ok (.aload_n 0, 1) := by decide +kernel
theorem dX4_follow_119 : decode cX4_follow 119 = .ok (.dload_n 2, 1) := by decide +kernel
theorem dX4_follow_120 : decode cX4_follow 120 = .ok (.invokevirtual 164, 3) := by decide +kernel
theorem dX4_follow_123 : decode cX4_follow 123 = .ok (.iinc 5 1, 3) := by decide +kernel
theorem dX4_follow_126 : decode cX4_follow 126 = .ok (.goto (-71), 3) := by decide +kernel
theorem dX4_follow_129 : decode cX4_follow 129 = .ok (.iconst 1, 1) := by decide +kernel
theorem dX4_follow_130 : decode cX4_follow 130 = .ok (.ireturn, 1) := by decide +kernel
theorem dX4_error_0 : decode cX4_error 0 = .ok (.aload_n 0, 1) := by decide +kernel
theorem dX4_error_1 : decode cX4_error 1 = .ok (.getfield 168, 3) := by decide +kernel
theorem dX4_error_4 : decode cX4_error 4 = .ok (.dreturn, 1) := by decide +kernel
set_option maxRecDepth 20000 in
theorem ggX4_change_X1_hasCell : GoodIn wsX4_change wsX1_hasCell := goodIn_r _ [10, 11, 12, 211, 212, 213, 214, 215, 216] (by decide +kernel) (by decide +kernel)
set_option maxRecDepth 20000 in
theorem gX4_change_X1_hasCell : GoodIn wsX4_change (wsV RX4 57 RX1 yX1_hasCell wsX1_hasCell) := goodIn_app (goodIn_of _ (by decide +kernel)) ggX4_change_X1_hasCell
set_option maxRecDepth 20000 in
theorem ggX4_change_X4_setCell : GoodIn wsX4_change wsX4_setCell := goodIn_r _ [17, 1, 18, 19, 20, 21, 9, 22, 23, 24, 7, 8, 10, 11, 12, 25, 16, 26, 27, 28, 29, 30, 31, 32, 33, 34, 35, 36, 37, 38, 39, 40, 41, 42, 189, 190, 191, 192, 193, 194, 195, 196, 197, 198, 199, 211, 212, 213, 214, 215, 216, 217, 218, 219, 220, 221] (by decide +kernel) (by decide +kernel)
set_option maxRecDepth 20000 in
theorem gX4_change_X4_setCell : GoodIn wsX4_change (wsV RX4 71 RX4 yX4_setCell wsX4_setCell) := goodIn_app (goodIn_of _ (by decide +kernel)) ggX4_change_X4_setCell
set_option maxRecDepth 20000 in
theorem ggX4_change_X4_movesLeftMayBeMade : GoodIn wsX4_change wsX4_movesLeftMayBeMade := goodIn_r _ [46, 47, 5, 18, 48, 49, 50, 51, 52, 53, 54, 55, 56, 57, 58, 59, 60, 61, 36, 62, 63, 64, 65, 66, 67, 68, 69, 70, 71, 72, 73, 74, 75, 16, 76, 77, 78, 79, 80, 81, 82, 83, 84, 85, 86, 87, 7, 8, 9, 10, 11, 12, 88, 89, 90, 25, 26, 91, 92, 93, 94, 95, 96, 97, 98, 38, 99, 100, 101, 102, 103, 104, 105, 106, 107, 108, 109, 110, 111, 112, 113, 114, 32, 24, 115, 116, 117, 118, 119, 189, 190, 191, 192, 193, 194, 195, 196, 197, 198, 199, 206, 207, 208, 209, 210, 217, 218, 219, 220, 221, 211, 212, 213, 214, 215, 216] (by decide +kernel) (by decide +kernel)
set_option maxRecDepth 20000 in
theorem gX4_change_X4_movesLeftMayBeMade : GoodIn wsX4_change (wsV RX4 172 RX4 yX4_movesLeftMayBeMade wsX4_movesLeftMayBeMade) := goodIn_app (goodIn_of _ (by decide +kernel)) ggX4_change_X4_movesLeftMayBeMade
set_option maxRecDepth 20000 in
theorem ggX4_change_X4_plan : GoodIn wsX4_change wsX4_plan := goodIn_r _ [123, 5, 124, 125, 47, 126, 127, 18, 128, 129, 130, 51, 131, 132, 58, 133, 134, 135, 136, 137, 138, 139, 140, 141, 142, 143, 144, 145, 41, 146, 147, 96, 97, 36, 98, 38, 99, 100, 101, 102, 103, 104, 74, 105, 106, 107, 75, 16, 76, 77, 78, 79, 80, 81, 108, 109, 110, 82, 83, 84, 85, 86, 111, 112, 113, 9, 114, 32, 24, 7, 8, 10, 11, 12, 25, 26, 148, 149, 150, 151, 152, 153, 154, 155, 63, 64, 65, 66, 67, 68, 69, 70, 71, 72, 73, 87, 88, 89, 90, 91, 92, 93, 94, 156, 157, 158, 159, 160, 161, 162, 163, 164, 165, 166, 167, 168, 169, 170, 171, 60, 61, 62, 95, 172, 173, 174, 175, 176, 177, 178, 179, 180, 181, 182, 183, 184, 185, 186, 187, 188, 53, 119, 189, 190, 191, 192, 193, 194, 195, 196, 197, 198, 199, 222, 223, 224, 225, 206, 207, 208, 209, 210, 217, 218, 219, 220, 221, 211, 212, 213, 214, 215, 216] (by decide +kernel) (by decide +kernel)
set_option maxRecDepth 20000 in
theorem gX4_change_X4_plan : GoodIn wsX4_change (wsV RX4 129 RX4 yX4_plan wsX4_plan) := goodIn_app (goodIn_of _ (by decide +kernel)) ggX4_change_X4_plan
theorem dX4_change_0 : decode cX4_change 0 = .ok (.aload_n 0, 1) := by decide +kernel
theorem dX4_change_1 : decode cX4_change 1 = .ok (.getfield 22, 3) := by decide +kernel
theorem dX4_change_4 : decode cX4_change 4 = .ok (.iload_n 1, 1) := by decide +kernel
theorem dX4_change_5 : decode cX4_change 5 = .ok (.iload_n 2, 1) := by decide +kernel
theorem dX4_change_6 : decode cX4_change 6 = .ok (.invokevirtual 57, 3) := by decide +kernel
theorem dX4_change_9 : decode cX4_change 9 = .ok (.ifCond .ne 13, 3) := by decide +kernel
theorem dX4_change_12 : decode cX4_change 12 = .ok (.new 61, 3) := by decide +kernel
theorem dX4_change_15 : decode cX4_change 15 = .ok (.dup, 1) := by decide +kernel
theorem dX4_change_16 : decode cX4_change 16 = .ok (.ldc 63, 2) := by decide +kernel
theorem dX4_change_18 : decode cX4_change 18 = .ok (.invokespecial 65, 3) := by decide +kernel
theorem dX4_change_21 : decode cX4_change 21 = .ok (.athrow, 1) := by decide +kernel
theorem dX4_change_22 : decode cX4_change 22 = .ok (.aload_n 0, 1) := by decide +kernel
theorem dX4_change_23 : decode cX4_change 23 = .ok (.iload_n 1, 1) := by decide +kernel
theorem dX4_change_24 : decode cX4_change 24 = .ok (.iload_n 2, 1) := by decide +kernel
theorem dX4_change_25 : decode cX4_change 25 = .ok (.iload_n 3, 1) := by decide +kernel
theorem dX4_change_26 : decode cX4_change 26 = .ok (.invokevirtual 71, 3) := by decide +kernel
theorem dX4_change_29 : decode cX4_change 29 = .ok (.pop, 1) := by decide +kernel
theorem dX4_change_30 : decode cX4_change 30 = .ok (.aload_n 0, 1) := by decide +kernel
theorem dX4_change_31 : decode cX4_change 31 = .ok (.getfield 53, 3) := by decide +kernel
theorem dX4_change_34 : decode cX4_change 34 = .ok (.getfield 158, 3) := by decide +kernel
theorem dX4_change_37 : decode cX4_change 37 = .ok (.ifCond .eq 10, 3) := by decide +kernel
theorem dX4_change_40 : decode cX4_change 40 = .ok (.aload_n 0, 1) := by decide +kernel
theorem dX4_change_41 : decode cX4_change 41 = .ok (.invokevirtual 172, 3) := by decide +kernel
theorem dX4_change_44 : decode cX4_change 44 = .ok (.ifCond .eq 5, 3) := by decide +kernel
theorem dX4_change_47 : decode cX4_change 47 = .ok (.iconst 0, 1) := by decide +kernel
theorem dX4_change_48 : decode cX4_change 48 = .ok (.ireturn, 1) := by decide +kernel
theorem dX4_change_49 : decode cX4_change 49 = .ok (.aload_n 0, 1) := by decide +kernel
theorem dX4_change_50 : decode cX4_change 50 = .ok (.invokevirtual 129, 3) := by decide +kernel
theorem dX4_change_53 : decode cX4_change 53 = .ok (.aload_n 0, 1) := by decide +kernel
theorem dX4_change_54 : decode cX4_change 54 = .ok (.getfield 53, 3) := by decide +kernel
theorem dX4_change_57 : decode cX4_change 57 = .ok (.getfield 158, 3) := by decide +kernel
theorem dX4_change_60 : decode cX4_change 60 = .ok (.ifCond .eq 7, 3) := by decide +kernel
theorem dX4_change_63 : decode cX4_change 63 = .ok (.iconst 1, 1) := by decide +kernel
theorem dX4_change_64 : decode cX4_change 64 = .ok (.goto 4, 3) := by decide +kernel
theorem dX4_change_67 : decode cX4_change 67 = .ok (.iconst 2, 1) := by decide +kernel
theorem dX4_change_68 : decode cX4_change 68 = .ok (.ireturn, 1) := by decide +kernel
theorem dX4_release_0 : decode cX4_release 0 = .ok (.aload_n 0, 1) := by decide +kernel
theorem dX4_release_1 : decode cX4_release 1 = .ok (.getfield 7, 3) := by decide +kernel
theorem dX4_release_4 : decode cX4_release 4 = .ok (.iload_n 1, 1) := by decide +kernel
theorem dX4_release_5 : decode cX4_release 5 = .ok (.if_icmp .eq 7, 3) := by decide +kernel
theorem dX4_release_8 : decode cX4_release 8 = .ok (.iconst 1, 1) := by decide +kernel
theorem dX4_release_9 : decode cX4_release 9 = .ok (.goto 4, 3) := by decide +kernel
theorem dX4_release_12 : decode cX4_release 12 = .ok (.iconst 0, 1) := by decide +kernel
theorem dX4_release_13 : decode cX4_release 13 = .ok (.istore_n 2, 1) := by decide +kernel
theorem dX4_release_14 : decode cX4_release 14 = .ok (.aload_n 0, 1) := by decide +kernel
theorem dX4_release_15 : decode cX4_release 15 = .ok (.iload_n 1, 1) := by decide +kernel
theorem dX4_release_16 : decode cX4_release 16 = .ok (.putfield 7, 3) := by decide +kernel
theorem dX4_release_19 : decode cX4_release 19 = .ok (.iload_n 2, 1) := by decide +kernel
theorem dX4_release_20 : decode cX4_release 20 = .ok (.ifCond .eq 7, 3) := by decide +kernel
theorem dX4_release_23 : decode cX4_release 23 = .ok (.iconst 1, 1) := by decide +kernel
theorem dX4_release_24 : decode cX4_release 24 = .ok (.goto 4, 3) := by decide +kernel
theorem dX4_release_27 : decode cX4_release 27 = .ok (.iconst 0, 1) := by decide +kernel
theorem dX4_release_28 : decode cX4_release 28 = .ok (.ireturn, 1) := by decide +kernel
set_option maxRecDepth 20000 in
theorem ggX4_margin_X3_hasMove : GoodIn wsX4_margin wsX3_hasMove := goodIn_r _ [7, 8, 81, 82, 83, 84, 85] (by decide +kernel) (by decide +kernel)
set_option maxRecDepth 20000 in
theorem gX4_margin_X3_hasMove : GoodIn wsX4_margin (wsV RX4 138 RX3 yX3_hasMove wsX3_hasMove) := goodIn_app (goodIn_of _ (by decide +kernel)) ggX4_margin_X3_hasMove
set_option maxRecDepth 20000 in
theorem ggX4_margin_X3_placeBehind : GoodIn wsX4_margin wsX3_placeBehind := goodIn_r _ [12, 13, 14, 4, 5, 6, 7, 8, 81, 82, 83, 84, 85] (by decide +kernel) (by decide +kernel)
set_option maxRecDepth 20000 in
theorem gX4_margin_X3_placeBehind : GoodIn wsX4_margin (wsV RX4 141 RX3 yX3_placeBehind wsX3_placeBehind) := goodIn_app (goodIn_of _ (by decide +kernel)) ggX4_margin_X3_placeBehind
set_option maxRecDepth 20000 in
theorem ggX4_margin_X0_marginAt : GoodIn wsX4_margin wsX0_marginAt := goodIn_r _ [19, 20, 21, 22, 23, 24, 18, 25, 26, 27, 28, 29, 30, 31, 32, 33, 34, 35, 36, 37, 38, 39, 40, 41, 42, 43, 44, 45, 46, 47, 48, 49, 50, 51, 52, 53, 54, 55, 56, 57, 58, 59, 60, 61, 62, 63, 64, 65, 66, 67, 68, 69, 86, 87, 88, 89, 90, 91, 92, 93, 94, 95, 96] (by decide +kernel) (by decide +kernel)
set_option maxRecDepth 20000 in
theorem gX4_margin_X0_marginAt : GoodIn wsX4_margin (wsV RX4 176 RX0 yX0_marginAt wsX0_marginAt) := goodIn_app (goodIn_of _ (by decide +kernel)) ggX4_margin_X0_marginAt
theorem dX4_margin_0 : decode cX4_margin 0 = .ok (.aload_n 0, 1) := by decide +kernel
theorem dX4_margin_1 : decode cX4_margin 1 = .ok (.getfield 53, 3) := by decide +kernel
theorem dX4_margin_4 : decode cX4_margin 4 = .ok (.iload_n 1, 1) := by decide +kernel
theorem dX4_margin_5 : decode cX4_margin 5 = .ok (.invokevirtual 138, 3) := by decide +kernel
theorem dX4_margin_8 : decode cX4_margin 8 = .ok (.ifCond .eq 21, 3) := by decide +kernel
theorem dX4_margin_11 : decode cX4_margin 11 = .ok (.aload_n 0, 1) := by decide +kernel
theorem dX4_margin_12 : decode cX4_margin 12 = .ok (.getfield 31, 3) := by decide +kernel
theorem dX4_margin_15 : decode cX4_margin 15 = .ok (.aload_n 0, 1) := by decide +kernel
theorem dX4_margin_16 : decode cX4_margin 16 = .ok (.getfield 53, 3) := by decide +kernel
theorem dX4_margin_19 : decode cX4_margin 19 = .ok (.iload_n 1, 1) := by decide +kernel
theorem dX4_margin_20 : decode cX4_margin 20 = .ok (.invokevirtual 141, 3) := by decide +kernel
theorem dX4_margin_23 : decode cX4_margin 23 = .ok (.invokevirtual 176, 3) := by decide +kernel
theorem dX4_margin_26 : decode cX4_margin 26 = .ok (.goto 4, 3) := by decide +kernel
theorem dX4_margin_29 : decode cX4_margin 29 = .ok (.iconst (-1), 1) := by decide +kernel
theorem dX4_margin_30 : decode cX4_margin 30 = .ok (.ireturn, 1) := by decide +kernel
set_option maxRecDepth 20000 in
theorem ggX4_heading_X4_isFrom : GoodIn wsX4_heading wsX4_isFrom := goodIn_r _ [7] (by decide +kernel) (by decide +kernel)
set_option maxRecDepth 20000 in
theorem gX4_heading_X4_isFrom : GoodIn wsX4_heading (va_wsS RX4 75 yX4_isFrom wsX4_isFrom) := goodIn_app (goodIn_of _ (by decide +kernel)) ggX4_heading_X4_isFrom
set_option maxRecDepth 20000 in
theorem ggX4_heading_X4_stepX : GoodIn wsX4_heading wsX4_stepX := goodIn_r _ [10, 11] (by decide +kernel) (by decide +kernel)
set_option maxRecDepth 20000 in
theorem gX4_heading_X4_stepX : GoodIn wsX4_heading (va_wsS RX4 181 yX4_stepX wsX4_stepX) := goodIn_app (goodIn_of _ (by decide +kernel)) ggX4_heading_X4_stepX
set_option maxRecDepth 20000 in
theorem ggX4_heading_X4_stepY : GoodIn wsX4_heading wsX4_stepY := goodIn_r _ [14, 15] (by decide +kernel) (by decide +kernel)
set_option maxRecDepth 20000 in
theorem gX4_heading_X4_stepY : GoodIn wsX4_heading (va_wsS RX4 184 yX4_stepY wsX4_stepY) := goodIn_app (goodIn_of _ (by decide +kernel)) ggX4_heading_X4_stepY
theorem dX4_heading_0 : decode cX4_heading 0 = .ok (.iconst 0, 1) := by decide +kernel
theorem dX4_heading_1 : decode cX4_heading 1 = .ok (.iload_n 1, 1) := by decide +kernel
theorem dX4_heading_2 : decode cX4_heading 2 = .ok (.bipush 7, 2) := by decide +kernel
theorem dX4_heading_4 : decode cX4_heading 4 = .ok (.invokestatic 75, 3) := by decide +kernel
theorem dX4_heading_7 : decode cX4_heading 7 = .ok (.ifCond .ne 13, 3) := by decide +kernel
theorem dX4_heading_10 : decode cX4_heading 10 = .ok (.new 61, 3) := by decide +kernel
theorem dX4_heading_13 : decode cX4_heading 13 = .ok (.dup, 1) := by decide +kernel
theorem dX4_heading_14 : decode cX4_heading 14 = .ok (.ldc 179, 2) := by decide +kernel
theorem dX4_heading_16 : decode cX4_heading 16 = .ok (.invokespecial 65, 3) := by decide +kernel
theorem dX4_heading_19 : decode cX4_heading 19 = .ok (.athrow, 1) := by decide +kernel
theorem dX4_heading_20 : decode cX4_heading 20 = .ok (.iconst 3, 1) := by decide +kernel
theorem dX4_heading_21 : decode cX4_heading 21 = .ok (.iload_n 1, 1) := by decide +kernel
theorem dX4_heading_22 : decode cX4_heading 22 = .ok (.invokestatic 181, 3) := by decide +kernel
theorem dX4_heading_25 : decode cX4_heading 25 = .ok (.iconst 1, 1) := by decide +kernel
theorem dX4_heading_26 : decode cX4_heading 26 = .ok (.iadd, 1) := by decide +kernel
theorem dX4_heading_27 : decode cX4_heading 27 = .ok (.imul, 1) := by decide +kernel
theorem dX4_heading_28 : decode cX4_heading 28 = .ok (.iload_n 1, 1) := by decide +kernel
theorem dX4_heading_29 : decode cX4_heading 29 = .ok (.invokestatic 184, 3) := by decide +kernel
theorem dX4_heading_32 : decode cX4_heading 32 = .ok (.iadd, 1) := by decide +kernel
theorem dX4_heading_33 : decode cX4_heading 33 = .ok (.iconst 1, 1) := by decide +kernel
theorem dX4_heading_34 : decode cX4_heading 34 = .ok (.iadd, 1) := by decide +kernel
theorem dX4_heading_35 : decode cX4_heading 35 = .ok (.ireturn, 1) := by decide +kernel
set_option maxRecDepth 20000 in
theorem ggX4_setCell_X1_setFull : GoodIn wsX4_setCell wsX1_setFull := goodIn_r _ [7, 8, 9, 10, 11, 6, 12, 13, 14, 15, 16, 17, 18, 19, 20, 21, 22, 23, 45, 46, 47, 48, 49, 50] (by decide +kernel) (by decide +kernel)
set_option maxRecDepth 20000 in
theorem gX4_setCell_X1_setFull : GoodIn wsX4_setCell (wsV RX4 187 RX1 yX1_setFull wsX1_setFull) := goodIn_app (goodIn_of _ (by decide +kernel)) ggX4_setCell_X1_setFull
set_option maxRecDepth 20000 in
theorem ggX4_setCell_X0_forget : GoodIn wsX4_setCell wsX0_forget := goodIn_r _ [28, 29, 30, 31, 32, 33, 51, 52, 53, 54, 55] (by decide +kernel) (by decide +kernel)
set_option maxRecDepth 20000 in
theorem gX4_setCell_X0_forget : GoodIn wsX4_setCell (wsV RX4 89 RX0 yX0_forget wsX0_forget) := goodIn_app (goodIn_of _ (by decide +kernel)) ggX4_setCell_X0_forget
theorem dX4_setCell_0 : decode cX4_setCell 0 = .ok (.aload_n 0, 1) := by decide +kernel
theorem dX4_setCell_1 : decode cX4_setCell 1 = .ok (.getfield 22, 3) := by decide +kernel
theorem dX4_setCell_4 : decode cX4_setCell 4 = .ok (.iload_n 1, 1) := by decide +kernel
theorem dX4_setCell_5 : decode cX4_setCell 5 = .ok (.iload_n 2, 1) := by decide +kernel
theorem dX4_setCell_6 : decode cX4_setCell 6 = .ok (.iload_n 3, 1) := by decide +kernel
theorem dX4_setCell_7 : decode cX4_setCell 7 = .ok (.invokevirtual 187, 3) := by decide +kernel
theorem dX4_setCell_10 : decode cX4_setCell 10 = .ok (.istore 4, 2) := by decide +kernel
theorem dX4_setCell_12 : decode cX4_setCell 12 = .ok (.iload 4, 2) := by decide +kernel
theorem dX4_setCell_14 : decode cX4_setCell 14 = .ok (.ifCond .eq 10, 3) := by decide +kernel
theorem dX4_setCell_17 : decode cX4_setCell 17 = .ok (.aload_n 0, 1) := by decide +kernel
theorem dX4_setCell_18 : decode cX4_setCell 18 = .ok (.getfield 31, 3) := by decide +kernel
theorem dX4_setCell_21 : decode cX4_setCell 21 = .ok (.invokevirtual 89, 3) := by decide +kernel
theorem dX4_setCell_24 : decode cX4_setCell 24 = .ok (.iload 4, 2) := by decide +kernel
theorem dX4_setCell_26 : decode cX4_setCell 26 = .ok (.ireturn, 1) := by decide +kernel
theorem dX4_addToError_0 : decode cX4_addToError 0 = .ok (.aload_n 0, 1) := by decide +kernel
theorem dX4_addToError_1 : decode cX4_addToError 1 = .ok (.aload_n 0, 1) := by decide +kernel
theorem dX4_addToError_2 : decode cX4_addToError 2 = .ok (.getfield 168, 3) := by decide +kernel
theorem dX4_addToError_5 : decode cX4_addToError 5 = .ok (.dload_n 1, 1) := by decide +kernel
theorem dX4_addToError_6 : decode cX4_addToError 6 = .ok (.dadd, 1) := by decide +kernel
theorem dX4_addToError_7 : decode cX4_addToError 7 = .ok (.putfield 168, 3) := by decide +kernel
theorem dX4_addToError_10 : decode cX4_addToError 10 = .ok (.aload_n 0, 1) := by decide +kernel
theorem dX4_addToError_11 : decode cX4_addToError 11 = .ok (.getfield 168, 3) := by decide +kernel
theorem dX4_addToError_14 : decode cX4_addToError 14 = .ok (.ldc2_w 190, 3) := by decide +kernel
theorem dX4_addToError_17 : decode cX4_addToError 17 = .ok (.dcmp .l, 1) := by decide +kernel
theorem dX4_addToError_18 : decode cX4_addToError 18 = .ok (.ifCond .le 16, 3) := by decide +kernel
theorem dX4_addToError_21 : decode cX4_addToError 21 = .ok (.aload_n 0, 1) := by decide +kernel
theorem dX4_addToError_22 : decode cX4_addToError 22 = .ok (.aload_n 0, 1) := by decide +kernel
theorem dX4_addToError_23 : decode cX4_addToError 23 = .ok (.getfield 168, 3) := by decide +kernel
theorem dX4_addToError_26 : decode cX4_addToError 26 = .ok (.dconst 1, 1) := by decide +kernel
theorem dX4_addToError_27 : decode cX4_addToError 27 = .ok (.dsub, 1) := by decide +kernel
theorem dX4_addToError_28 : decode cX4_addToError 28 = .ok (.putfield 168, 3) := by decide +kernel
theorem dX4_addToError_31 : decode cX4_addToError 31 = .ok (.goto 24, 3) := by decide +kernel
theorem dX4_addToError_34 : decode cX4_addToError 34 = .ok (.aload_n 0, 1) := by decide +kernel
theorem dX4_addToError_35 : decode cX4_addToError 35 = .ok (.getfield 168, 3) := by decide +kernel
theorem dX4_addToError_38 : decode cX4_addToError 38 = .ok (.ldc2_w 192, 3) := by decide +kernel
theorem dX4_addToError_41 : decode cX4_addToError 41 = .ok (.dcmp .g, 1) := by decide +kernel
theorem dX4_addToError_42 : decode cX4_addToError 42 = .ok (.ifCond .ge 13, 3) := by decide +kernel
theorem dX4_addToError_45 : decode cX4_addToError 45 = .ok (.aload_n 0, 1) := by decide +kernel
theorem dX4_addToError_46 : decode cX4_addToError 46 = .ok (.aload_n 0, 1) := by decide +kernel
theorem dX4_addToError_47 : decode cX4_addToError 47 = .ok (.getfield 168, 3) := by decide +kernel
theorem dX4_addToError_50 : decode cX4_addToError 50 = .ok (.dconst 1, 1) := by decide +kernel
theorem dX4_addToError_51 : decode cX4_addToError 51 = .ok (.dadd, 1) := by decide +kernel
theorem dX4_addToError_52 : decode cX4_addToError 52 = .ok (.putfield 168, 3) := by decide +kernel
theorem dX4_addToError_55 : decode cX4_addToError 55 = .ok (.return_, 1) := by decide +kernel
set_option maxRecDepth 20000 in
theorem ggX4_movesLeftMayBeMade_X3_moveAt : GoodIn wsX4_movesLeftMayBeMade wsX3_moveAt := goodIn_r _ [8, 9, 10, 11, 12, 7, 13, 14, 100, 101, 102, 103, 104] (by decide +kernel) (by decide +kernel)
set_option maxRecDepth 20000 in
theorem gX4_movesLeftMayBeMade_X3_moveAt : GoodIn wsX4_movesLeftMayBeMade (wsV RX4 144 RX3 yX3_moveAt wsX3_moveAt) := goodIn_app (goodIn_of _ (by decide +kernel)) ggX4_movesLeftMayBeMade_X3_moveAt
set_option maxRecDepth 20000 in
theorem ggX4_movesLeftMayBeMade_X0_mayMake : GoodIn wsX4_movesLeftMayBeMade wsX0_mayMake := goodIn_r _ [19, 20, 21, 22, 18, 23, 24, 25, 26, 27, 28, 29, 30, 31, 32, 33, 34, 35, 36, 37, 38, 39, 40, 41, 42, 43, 44, 45, 46, 47, 48, 49, 50, 51, 52, 53, 54, 55, 56, 57, 58, 59, 60, 61, 62, 63, 64, 65, 66, 67, 68, 69, 70, 71, 72, 73, 74, 75, 76, 77, 78, 79, 80, 81, 82, 83, 105, 106, 107, 108, 109, 110, 111, 112, 113, 114, 115] (by decide +kernel) (by decide +kernel)
set_option maxRecDepth 20000 in
theorem gX4_movesLeftMayBeMade_X0_mayMake : GoodIn wsX4_movesLeftMayBeMade (wsV RX4 194 RX0 yX0_mayMake wsX0_mayMake) := goodIn_app (goodIn_of _ (by decide +kernel)) ggX4_movesLeftMayBeMade_X0_mayMake
set_option maxRecDepth 20000 in
theorem ggX4_movesLeftMayBeMade_X3_placeBehind : GoodIn wsX4_movesLeftMayBeMade wsX3_placeBehind := goodIn_r _ [87, 88, 10, 11, 12, 7, 13, 14, 100, 101, 102, 103, 104] (by decide +kernel) (by decide +kernel)
set_option maxRecDepth 20000 in
theorem gX4_movesLeftMayBeMade_X3_placeBehind : GoodIn wsX4_movesLeftMayBeMade (wsV RX4 141 RX3 yX3_placeBehind wsX3_placeBehind) := goodIn_app (goodIn_of _ (by decide +kernel)) ggX4_movesLeftMayBeMade_X3_placeBehind
theorem dX4_movesLeftMayBeMade_0 : decode cX4_movesLeftMayBeMade 0 = .ok (.aload_n 0, 1) := by decide +kernel
theorem dX4_movesLeftMayBeMade_1 : decode cX4_movesLeftMayBeMade 1 = .ok (.getfield 103, 3) := by decide +kernel
theorem dX4_movesLeftMayBeMade_4 : decode cX4_movesLeftMayBeMade 4 = .ok (.istore_n 1, 1) := by decide +kernel
theorem dX4_movesLeftMayBeMade_5 : decode cX4_movesLeftMayBeMade 5 = .ok (.aload_n 0, 1) := by decide +kernel
theorem dX4_movesLeftMayBeMade_6 : decode cX4_movesLeftMayBeMade 6 = .ok (.getfield 53, 3) := by decide +kernel
theorem dX4_movesLeftMayBeMade_9 : decode cX4_movesLeftMayBeMade 9 = .ok (.getfield 161, 3) := by decide +kernel
theorem dX4_movesLeftMayBeMade_12 : decode cX4_movesLeftMayBeMade 12 = .ok (.istore_n 2, 1) := by decide +kernel
theorem dX4_movesLeftMayBeMade_13 : decode cX4_movesLeftMayBeMade 13 = .ok (.iload_n 2, 1) := by decide +kernel
theorem dX4_movesLeftMayBeMade_14 : decode cX4_movesLeftMayBeMade 14 = .ok (.aload_n 0, 1) := by decide +kernel
theorem dX4_movesLeftMayBeMade_15 : decode cX4_movesLeftMayBeMade 15 = .ok (.getfield 53, 3) := by decide +kernel
theorem dX4_movesLeftMayBeMade_18 : decode cX4_movesLeftMayBeMade 18 = .ok (.getfield 135, 3) := by decide +kernel
theorem dX4_movesLeftMayBeMade_21 : decode cX4_movesLeftMayBeMade 21 = .ok (.if_icmp .ge 39, 3) := by decide +kernel
theorem dX4_movesLeftMayBeMade_24 : decode cX4_movesLeftMayBeMade 24 = .ok (.aload_n 0, 1) := by decide +kernel
theorem dX4_movesLeftMayBeMade_25 : decode cX4_movesLeftMayBeMade 25 = .ok (.getfield 31, 3) := by decide +kernel
theorem dX4_movesLeftMayBeMade_28 : decode cX4_movesLeftMayBeMade 28 = .ok (.iload_n 1, 1) := by decide +kernel
theorem dX4_movesLeftMayBeMade_29 : decode cX4_movesLeftMayBeMade 29 = .ok (.aload_n 0, 1) := by decide +kernel
theorem dX4_movesLeftMayBeMade_30 : decode cX4_movesLeftMayBeMade 30 = .ok (.getfield 53, 3) := by decide +kernel
theorem dX4_movesLeftMayBeMade_33 : decode cX4_movesLeftMayBeMade 33 = .ok (.iload_n 2, 1) := by decide +kernel
theorem dX4_movesLeftMayBeMade_34 : decode cX4_movesLeftMayBeMade 34 = .ok (.invokevirtual 144, 3) := by decide +kernel
theorem dX4_movesLeftMayBeMade_37 : decode cX4_movesLeftMayBeMade 37 = .ok (.invokevirtual 194, 3) := by decide +kernel
theorem dX4_movesLeftMayBeMade_40 : decode cX4_movesLeftMayBeMade 40 = .ok (.ifCond .ne 5, 3) := by decide +kernel
theorem dX4_movesLeftMayBeMade_43 : decode cX4_movesLeftMayBeMade 43 = .ok (.iconst 0, 1) := by decide +kernel
theorem dX4_movesLeftMayBeMade_44 : decode cX4_movesLeftMayBeMade 44 = .ok (.ireturn, 1) := by decide +kernel
theorem dX4_movesLeftMayBeMade_45 : decode cX4_movesLeftMayBeMade 45 = .ok (.aload_n 0, 1) := by decide +kernel
theorem dX4_movesLeftMayBeMade_46 : decode cX4_movesLeftMayBeMade 46 = .ok (.getfield 53, 3) := by decide +kernel
theorem dX4_movesLeftMayBeMade_49 : decode cX4_movesLeftMayBeMade 49 = .ok (.iload_n 2, 1) := by decide +kernel
theorem dX4_movesLeftMayBeMade_50 : decode cX4_movesLeftMayBeMade 50 = .ok (.invokevirtual 141, 3) := by decide +kernel
theorem dX4_movesLeftMayBeMade_53 : decode cX4_movesLeftMayBeMade 53 = .ok (.istore_n 1, 1) := by decide +kernel
theorem dX4_movesLeftMayBeMade_54 : decode cX4_movesLeftMayBeMade 54 = .ok (.iinc 2 1, 3) := by decide +kernel
theorem dX4_movesLeftMayBeMade_57 : decode cX4_movesLeftMayBeMade 57 = .ok (.goto (-44), 3) := by decide +kernel
theorem dX4_movesLeftMayBeMade_60 : decode cX4_movesLeftMayBeMade 60 = .ok (.iconst 1, 1) := by decide +kernel
theorem dX4_movesLeftMayBeMade_61 : decode cX4_movesLeftMayBeMade 61 = .ok (.ireturn, 1) := by decide +kernel
set_option maxRecDepth 20000 in
theorem ggX4_plan_X3_drop : GoodIn wsX4_plan wsX3_drop := goodIn_r _ [12, 13, 14, 15, 157, 158, 159, 160, 161] (by decide +kernel) (by decide +kernel)
set_option maxRecDepth 20000 in
theorem gX4_plan_X3_drop : GoodIn wsX4_plan (wsV RX4 68 RX3 yX3_drop wsX3_drop) := goodIn_app (goodIn_of _ (by decide +kernel)) ggX4_plan_X3_drop
set_option maxRecDepth 20000 in
theorem ggX4_plan_X2_spreadFrom : GoodIn wsX4_plan wsX2_spreadFrom := goodIn_r _ [20, 21, 22, 23, 24, 25, 26, 27, 28, 29, 30, 31, 32, 33, 34, 35, 36, 37, 38, 39, 40, 41, 42, 43, 44, 45, 46, 47, 48, 49, 50, 51, 52, 53, 54, 55, 56, 57, 58, 59, 60, 61, 62, 63, 64, 65, 66, 67, 68, 69, 70, 71, 72, 73, 74, 75, 76, 77, 78, 19, 79, 80, 81, 82, 83, 84, 85, 86, 87, 88, 89, 90, 91, 92, 93, 94, 95, 96, 97, 98, 99, 100, 101, 102, 103, 104, 105, 106, 107, 108, 109, 110, 111, 112, 113, 114, 115, 116, 117, 118, 119, 120, 121, 122, 153, 154, 155, 156, 162, 163, 164, 165, 166, 167, 168, 169, 170, 171, 172] (by decide +kernel) (by decide +kernel)
set_option maxRecDepth 20000 in
theorem gX4_plan_X2_spreadFrom : GoodIn wsX4_plan (wsV RX4 197 RX2 yX2_spreadFrom wsX2_spreadFrom) := goodIn_app (goodIn_of _ (by decide +kernel)) ggX4_plan_X2_spreadFrom
set_option maxRecDepth 20000 in
theorem ggX4_plan_X2_hasReached : GoodIn wsX4_plan wsX2_hasReached := goodIn_r _ [126, 22, 103, 104, 105, 19, 106, 21, 153, 154, 155, 156] (by decide +kernel) (by decide +kernel)
set_option maxRecDepth 20000 in
theorem gX4_plan_X2_hasReached : GoodIn wsX4_plan (wsV RX4 200 RX2 yX2_hasReached wsX2_hasReached) := goodIn_app (goodIn_of _ (by decide +kernel)) ggX4_plan_X2_hasReached
set_option maxRecDepth 20000 in
theorem ggX4_plan_X2_takenBefore : GoodIn wsX4_plan wsX2_takenBefore := goodIn_r _ [130, 23, 25, 103, 104, 105, 19, 106, 21, 22, 153, 154, 155, 156] (by decide +kernel) (by decide +kernel)
set_option maxRecDepth 20000 in
theorem gX4_plan_X2_takenBefore : GoodIn wsX4_plan (wsV RX4 203 RX2 yX2_takenBefore wsX2_takenBefore) := goodIn_app (goodIn_of _ (by decide +kernel)) ggX4_plan_X2_takenBefore
set_option maxRecDepth 20000 in
theorem ggX4_plan_X2_firstMoveFrom : GoodIn wsX4_plan wsX2_firstMoveFrom := goodIn_r _ [134, 24, 80, 81, 82, 33, 83, 84, 85, 86, 87, 88, 89, 90, 91, 92, 93, 94, 42, 46, 47, 48, 49, 50, 51, 52, 53, 57, 58, 59, 60, 61, 95, 69, 70, 65, 71, 72, 73, 96, 97, 98, 74, 75, 99, 100, 101, 102, 103, 104, 105, 19, 106, 21, 22, 107, 108, 109, 110, 111, 112, 113, 114, 115, 116, 117, 118, 119, 120, 121, 122, 31, 32, 34, 35, 36, 37, 38, 39, 40, 41, 43, 44, 45, 54, 55, 56, 62, 63, 64, 66, 67, 68, 153, 154, 155, 156, 162, 163, 164, 165, 166, 167, 168, 169, 170, 171, 172] (by decide +kernel) (by decide +kernel)
set_option maxRecDepth 20000 in
theorem gX4_plan_X2_firstMoveFrom : GoodIn wsX4_plan (wsV RX4 209 RX2 yX2_firstMoveFrom wsX2_firstMoveFrom) := goodIn_app (goodIn_of _ (by decide +kernel)) ggX4_plan_X2_firstMoveFrom
set_option maxRecDepth 20000 in
theorem ggX4_plan_X0_landing : GoodIn wsX4_plan wsX0_landing := goodIn_r _ [83, 84, 85, 86, 33, 87, 88, 89, 90, 91, 92, 93, 94, 42, 46, 47, 48, 49, 50, 51, 52, 53, 57, 58, 59, 60, 61, 95, 69, 70, 65, 71, 72, 73, 96, 97, 98, 74, 75, 99, 100, 101, 102, 162, 163, 164, 165, 166, 167, 168, 169, 170, 171, 172] (by decide +kernel) (by decide +kernel)
set_option maxRecDepth 20000 in
theorem gX4_plan_X0_landing : GoodIn wsX4_plan (wsV RX4 212 RX0 yX0_landing wsX0_landing) := goodIn_app (goodIn_of _ (by decide +kernel)) ggX4_plan_X0_landing
set_option maxRecDepth 20000 in
theorem ggX4_plan_X3_add : GoodIn wsX4_plan wsX3_add := goodIn_r _ [139, 14, 140, 141, 157, 158, 159, 160, 161] (by decide +kernel) (by decide +kernel)
set_option maxRecDepth 20000 in
theorem gX4_plan_X3_add : GoodIn wsX4_plan (wsV RX4 215 RX3 yX3_add wsX3_add) := goodIn_app (goodIn_of _ (by decide +kernel)) ggX4_plan_X3_add
theorem dX4_plan_0 : decode cX4_plan 0 = .ok (.aload_n 0, 1) := by decide +kernel
theorem dX4_plan_1 : decode cX4_plan 1 = .ok (.getfield 53, 3) := by decide +kernel
theorem dX4_plan_4 : decode cX4_plan 4 = .ok (.invokevirtual 68, 3) := by decide +kernel
theorem dX4_plan_7 : decode cX4_plan 7 = .ok (.aload_n 0, 1) := by decide +kernel
theorem dX4_plan_8 : decode cX4_plan 8 = .ok (.getfield 44, 3) := by decide +kernel
theorem dX4_plan_11 : decode cX4_plan 11 = .ok (.aload_n 0, 1) := by decide +kernel
theorem dX4_plan_12 : decode cX4_plan 12 = .ok (.getfield 122, 3) := by decide +kernel
theorem dX4_plan_15 : decode cX4_plan 15 = .ok (.invokevirtual 197, 3) := by decide +kernel
theorem dX4_plan_18 : decode cX4_plan 18 = .ok (.aload_n 0, 1) := by decide +kernel
theorem dX4_plan_19 : decode cX4_plan 19 = .ok (.getfield 44, 3) := by decide +kernel
theorem dX4_plan_22 : decode cX4_plan 22 = .ok (.aload_n 0, 1) := by decide +kernel
theorem dX4_plan_23 : decode cX4_plan 23 = .ok (.getfield 103, 3) := by decide +kernel
theorem dX4_plan_26 : decode cX4_plan 26 = .ok (.invokevirtual 200, 3) := by decide +kernel
theorem dX4_plan_29 : decode cX4_plan 29 = .ok (.istore_n 1, 1) := by decide +kernel
theorem dX4_plan_30 : decode cX4_plan 30 = .ok (.aload_n 0, 1) := by decide +kernel
theorem dX4_plan_31 : decode cX4_plan 31 = .ok (.iload_n 1, 1) := by decide +kernel
theorem dX4_plan_32 : decode cX4_plan 32 = .ok (.ifCond .eq 31, 3) := by decide +kernel
theorem dX4_plan_35 : decode cX4_plan 35 = .ok (.aload_n 0, 1) := by decide +kernel
theorem dX4_plan_36 : decode cX4_plan 36 = .ok (.getfield 44, 3) := by decide +kernel
theorem dX4_plan_39 : decode cX4_plan 39 = .ok (.aload_n 0, 1) := by decide +kernel
theorem dX4_plan_40 : decode cX4_plan 40 = .ok (.getfield 103, 3) := by decide +kernel
theorem dX4_plan_43 : decode cX4_plan 43 = .ok (.invokevirtual 203, 3) := by decide +kernel
theorem dX4_plan_46 : decode cX4_plan 46 = .ok (.i2l, 1) := by decide +kernel
theorem dX4_plan_47 : decode cX4_plan 47 = .ok (.aload_n 0, 1) := by decide +kernel
theorem dX4_plan_48 : decode cX4_plan 48 = .ok (.getfield 125, 3) := by decide +kernel
theorem dX4_plan_51 : decode cX4_plan 51 = .ok (.lcmp, 1) := by decide +kernel
theorem dX4_plan_52 : decode cX4_plan 52 = .ok (.ifCond .ge 7, 3) := by decide +kernel
theorem dX4_plan_55 : decode cX4_plan 55 = .ok (.iconst 1, 1) := by decide +kernel
theorem dX4_plan_56 : decode cX4_plan 56 = .ok (.goto 28, 3) := by decide +kernel
theorem dX4_plan_59 : decode cX4_plan 59 = .ok (.iconst 0, 1) := by decide +kernel
theorem dX4_plan_60 : decode cX4_plan 60 = .ok (.goto 24, 3) := by decide +kernel
theorem dX4_plan_63 : decode cX4_plan 63 = .ok (.aload_n 0, 1) := by decide +kernel
theorem dX4_plan_64 : decode cX4_plan 64 = .ok (.getfield 44, 3) := by decide +kernel
theorem dX4_plan_67 : decode cX4_plan 67 = .ok (.getfield 206, 3) := by decide +kernel
theorem dX4_plan_70 : decode cX4_plan 70 = .ok (.i2l, 1) := by decide +kernel
theorem dX4_plan_71 : decode cX4_plan 71 = .ok (.aload_n 0, 1) := by decide +kernel
theorem dX4_plan_72 : decode cX4_plan 72 = .ok (.getfield 125, 3) := by decide +kernel
theorem dX4_plan_75 : decode cX4_plan 75 = .ok (.lcmp, 1) := by decide +kernel
theorem dX4_plan_76 : decode cX4_plan 76 = .ok (.ifCond .gt 7, 3) := by decide +kernel
theorem dX4_plan_79 : decode cX4_plan 79 = .ok (.iconst 1, 1) := by decide +kernel
theorem dX4_plan_80 : decode cX4_plan 80 = .ok (.goto 4, 3) := by decide +kernel
theorem dX4_plan_83 : decode cX4_plan 83 = .ok (.iconst 0, 1) := by decide +kernel
theorem dX4_plan_84 : decode cX4_plan 84 = .ok (.putfield 132, 3) := by decide +kernel
theorem dX4_plan_87 : decode cX4_plan 87 = .ok (.aload_n 0, 1) := by decide +kernel
theorem dX4_plan_88 : decode cX4_plan 88 = .ok (.getfield 53, 3) := by decide +kernel
theorem dX4_plan_91 : decode cX4_plan 91 = .ok (.aload_n 0, 1) := by decide +kernel
theorem dX4_plan_92 : decode cX4_plan 92 = .ok (.getfield 132, 3) := by decide +kernel
theorem dX4_plan_95 : decode cX4_plan 95 = .ok (.ifCond .eq 11, 3) := by decide +kernel
theorem dX4_plan_98 : decode cX4_plan 98 = .ok (.iload_n 1, 1) := by decide +kernel
theorem dX4_plan_99 : decode cX4_plan 99 = .ok (.ifCond .eq 7, 3) := by decide +kernel
theorem dX4_plan_102 : decode cX4_plan 102 = .ok (.iconst 1, 1) := by decide +kernel
theorem dX4_plan_103 : decode cX4_plan 103 = .ok (.goto 4, 3) := by decide +kernel
theorem dX4_plan_106 : decode cX4_plan 106 = .ok (.iconst 0, 1) := by decide +kernel
theorem dX4_plan_107 : decode cX4_plan 107 = .ok (.putfield 158, 3) := by decide +kernel
theorem dX4_plan_110 : decode cX4_plan 110 = .ok (.aload_n 0, 1) := by decide +kernel
theorem dX4_plan_111 : decode cX4_plan 111 = .ok (.getfield 103, 3) := by decide +kernel
theorem dX4_plan_114 : decode cX4_plan 114 = .ok (.istore_n 2, 1) := by decide +kernel
theorem dX4_plan_115 : decode cX4_plan 115 = .ok (.iconst 0, 1) := by decide +kernel
theorem dX4_plan_116 : decode cX4_plan 116 = .ok (.istore_n 3, 1) := by decide +kernel
theorem dX4_plan_117 : decode cX4_plan 117 = .ok (.aload_n 0, 1) := by decide +kernel
theorem dX4_plan_118 : decode cX4_plan 118 = .ok (.getfield 53, 3) := by decide +kernel
theorem dX4_plan_121 : decode cX4_plan 121 = .ok (.getfield 158, 3) := by decide +kernel
theorem dX4_plan_124 : decode cX4_plan 124 = .ok (.ifCond .eq 59, 3) := by decide +kernel
theorem dX4_plan_127 : decode cX4_plan 127 = .ok (.iload_n 3, 1) := by decide +kernel
theorem dX4_plan_128 : decode cX4_plan 128 = .ok (.aload_n 0, 1) := by decide +kernel
theorem dX4_plan_129 : decode cX4_plan 129 = .ok (.getfield 44, 3) := by decide +kernel
theorem dX4_plan_132 : decode cX4_plan 132 = .ok (.getfield 206, 3) := by decide +kernel
theorem dX4_plan_135 : decode cX4_plan 135 = .ok (.if_icmp .ge 48, 3) := by decide +kernel
theorem dX4_plan_138 : decode cX4_plan 138 = .ok (.iload_n 2, 1) := by decide +kernel
theorem dX4_plan_139 : decode cX4_plan 139 = .ok (.aload_n 0, 1) := by decide +kernel
theorem dX4_plan_140 : decode cX4_plan 140 = .ok (.getfield 122, 3) := by decide +kernel
theorem dX4_plan_143 : decode cX4_plan 143 = .ok (.if_icmp .eq 40, 3) := by decide +kernel
theorem dX4_plan_146 : decode cX4_plan 146 = .ok (.aload_n 0, 1) := by decide +kernel
theorem dX4_plan_147 : decode cX4_plan 147 = .ok (.getfield 44, 3) := by decide +kernel
theorem dX4_plan_150 : decode cX4_plan 150 = .ok (.iload_n 2, 1) := by decide +kernel
theorem dX4_plan_151 : decode cX4_plan 151 = .ok (.invokevirtual 209, 3) := by decide +kernel
theorem dX4_plan_154 : decode cX4_plan 154 = .ok (.istore 4, 2) := by decide +kernel
theorem dX4_plan_156 : decode cX4_plan 156 = .ok (.aload_n 0, 1) := by decide +kernel
theorem dX4_plan_157 : decode cX4_plan 157 = .ok (.getfield 31, 3) := by decide +kernel
theorem dX4_plan_160 : decode cX4_plan 160 = .ok (.iload_n 2, 1) := by decide +kernel
theorem dX4_plan_161 : decode cX4_plan 161 = .ok (.iload 4, 2) := by decide +kernel
theorem dX4_plan_163 : decode cX4_plan 163 = .ok (.invokevirtual 212, 3) := by decide +kernel
theorem dX4_plan_166 : decode cX4_plan 166 = .ok (.istore_n 2, 1) := by decide +kernel
theorem dX4_plan_167 : decode cX4_plan 167 = .ok (.aload_n 0, 1) := by decide +kernel
theorem dX4_plan_168 : decode cX4_plan 168 = .ok (.getfield 53, 3) := by decide +kernel
theorem dX4_plan_171 : decode cX4_plan 171 = .ok (.iload 4, 2) := by decide +kernel
theorem dX4_plan_173 : decode cX4_plan 173 = .ok (.iload_n 2, 1) := by decide +kernel
theorem dX4_plan_174 : decode cX4_plan 174 = .ok (.invokevirtual 215, 3) := by decide +kernel
theorem dX4_plan_177 : decode cX4_plan 177 = .ok (.iinc 3 1, 3) := by decide +kernel
theorem dX4_plan_180 : decode cX4_plan 180 = .ok (.goto (-63), 3) := by decide +kernel
theorem dX4_plan_183 : decode cX4_plan 183 = .ok (.return_, 1) := by decide +kernel
set_option maxRecDepth 20000 in
theorem ggX4_sideOf_X4_isFrom : GoodIn wsX4_sideOf wsX4_isFrom := goodIn_r _ [4] (by decide +kernel) (by decide +kernel)
set_option maxRecDepth 20000 in
theorem gX4_sideOf_X4_isFrom : GoodIn wsX4_sideOf (va_wsS RX4 75 yX4_isFrom wsX4_isFrom) := goodIn_app (goodIn_of _ (by decide +kernel)) ggX4_sideOf_X4_isFrom
theorem dX4_sideOf_0 : decode cX4_sideOf 0 = .ok (.iconst 1, 1) := by decide +kernel
theorem dX4_sideOf_1 : decode cX4_sideOf 1 = .ok (.iload_n 0, 1) := by decide +kernel
theorem dX4_sideOf_2 : decode cX4_sideOf 2 = .ok (.bipush 24, 2) := by decide +kernel
theorem dX4_sideOf_4 : decode cX4_sideOf 4 = .ok (.invokestatic 75, 3) := by decide +kernel
theorem dX4_sideOf_7 : decode cX4_sideOf 7 = .ok (.ifCond .eq 7, 3) := by decide +kernel
theorem dX4_sideOf_10 : decode cX4_sideOf 10 = .ok (.iload_n 0, 1) := by decide +kernel
theorem dX4_sideOf_11 : decode cX4_sideOf 11 = .ok (.goto 5, 3) := by decide +kernel
theorem dX4_sideOf_14 : decode cX4_sideOf 14 = .ok (.bipush 16, 2) := by decide +kernel
theorem dX4_sideOf_16 : decode cX4_sideOf 16 = .ok (.ireturn, 1) := by decide +kernel
theorem dX4_isFrom_0 : decode cX4_isFrom 0 = .ok (.iload_n 1, 1) := by decide +kernel
theorem dX4_isFrom_1 : decode cX4_isFrom 1 = .ok (.iload_n 0, 1) := by decide +kernel
theorem dX4_isFrom_2 : decode cX4_isFrom 2 = .ok (.if_icmp .lt 12, 3) := by decide +kernel
theorem dX4_isFrom_5 : decode cX4_isFrom 5 = .ok (.iload_n 1, 1) := by decide +kernel
theorem dX4_isFrom_6 : decode cX4_isFrom 6 = .ok (.iload_n 2, 1) := by decide +kernel
theorem dX4_isFrom_7 : decode cX4_isFrom 7 = .ok (.if_icmp .gt 7, 3) := by decide +kernel
theorem dX4_isFrom_10 : decode cX4_isFrom 10 = .ok (.iconst 1, 1) := by decide +kernel
theorem dX4_isFrom_11 : decode cX4_isFrom 11 = .ok (.goto 4, 3) := by decide +kernel
theorem dX4_isFrom_14 : decode cX4_isFrom 14 = .ok (.iconst 0, 1) := by decide +kernel
theorem dX4_isFrom_15 : decode cX4_isFrom 15 = .ok (.ireturn, 1) := by decide +kernel
theorem dX4_cellAt_0 : decode cX4_cellAt 0 = .ok (.iload_n 1, 1) := by decide +kernel
theorem dX4_cellAt_1 : decode cX4_cellAt 1 = .ok (.iconst 5, 1) := by decide +kernel
theorem dX4_cellAt_2 : decode cX4_cellAt 2 = .ok (.ishl, 1) := by decide +kernel
theorem dX4_cellAt_3 : decode cX4_cellAt 3 = .ok (.iload_n 0, 1) := by decide +kernel
theorem dX4_cellAt_4 : decode cX4_cellAt 4 = .ok (.iadd, 1) := by decide +kernel
theorem dX4_cellAt_5 : decode cX4_cellAt 5 = .ok (.ireturn, 1) := by decide +kernel
set_option maxRecDepth 20000 in
theorem ggX4_placeAt_X4_cellAt : GoodIn wsX4_placeAt wsX4_cellAt := goodIn_r _ [4] (by decide +kernel) (by decide +kernel)
set_option maxRecDepth 20000 in
theorem gX4_placeAt_X4_cellAt : GoodIn wsX4_placeAt (va_wsS RX4 219 yX4_cellAt wsX4_cellAt) := goodIn_app (goodIn_of _ (by decide +kernel)) ggX4_placeAt_X4_cellAt
theorem dX4_placeAt_0 : decode cX4_placeAt 0 = .ok (.iload_n 0, 1) := by decide +kernel
theorem dX4_placeAt_1 : decode cX4_placeAt 1 = .ok (.iload_n 1, 1) := by decide +kernel
theorem dX4_placeAt_2 : decode cX4_placeAt 2 = .ok (.invokestatic 219, 3) := by decide +kernel
theorem dX4_placeAt_5 : decode cX4_placeAt 5 = .ok (.iconst 3, 1) := by decide +kernel
theorem dX4_placeAt_6 : decode cX4_placeAt 6 = .ok (.ishl, 1) := by decide +kernel
theorem dX4_placeAt_7 : decode cX4_placeAt 7 = .ok (.iload_n 2, 1) := by decide +kernel
theorem dX4_placeAt_8 : decode cX4_placeAt 8 = .ok (.iadd, 1) := by decide +kernel
theorem dX4_placeAt_9 : decode cX4_placeAt 9 = .ok (.ireturn, 1) := by decide +kernel
theorem dX4_xOf_0 : decode cX4_xOf 0 = .ok (.iload_n 0, 1) := by decide +kernel
theorem dX4_xOf_1 : decode cX4_xOf 1 = .ok (.iconst 3, 1) := by decide +kernel
theorem dX4_xOf_2 : decode cX4_xOf 2 = .ok (.ishr, 1) := by decide +kernel
theorem dX4_xOf_3 : decode cX4_xOf 3 = .ok (.bipush 31, 2) := by decide +kernel
theorem dX4_xOf_5 : decode cX4_xOf 5 = .ok (.iand, 1) := by decide +kernel
theorem dX4_xOf_6 : decode cX4_xOf 6 = .ok (.ireturn, 1) := by decide +kernel
theorem dX4_yOf_0 : decode cX4_yOf 0 = .ok (.iload_n 0, 1) := by decide +kernel
theorem dX4_yOf_1 : decode cX4_yOf 1 = .ok (.bipush 8, 2) := by decide +kernel
theorem dX4_yOf_3 : decode cX4_yOf 3 = .ok (.ishr, 1) := by decide +kernel
theorem dX4_yOf_4 : decode cX4_yOf 4 = .ok (.ireturn, 1) := by decide +kernel
theorem dX4_headingOf_0 : decode cX4_headingOf 0 = .ok (.iload_n 0, 1) := by decide +kernel
theorem dX4_headingOf_1 : decode cX4_headingOf 1 = .ok (.bipush 7, 2) := by decide +kernel
theorem dX4_headingOf_3 : decode cX4_headingOf 3 = .ok (.iand, 1) := by decide +kernel
theorem dX4_headingOf_4 : decode cX4_headingOf 4 = .ok (.ireturn, 1) := by decide +kernel
theorem dX4_stepX_0 : decode cX4_stepX 0 = .ok (.getstatic 222, 3) := by decide +kernel
theorem dX4_stepX_3 : decode cX4_stepX 3 = .ok (.iload_n 0, 1) := by decide +kernel
theorem dX4_stepX_4 : decode cX4_stepX 4 = .ok (.bipush 7, 2) := by decide +kernel
theorem dX4_stepX_6 : decode cX4_stepX 6 = .ok (.iand, 1) := by decide +kernel
theorem dX4_stepX_7 : decode cX4_stepX 7 = .ok (.iaload, 1) := by decide +kernel
theorem dX4_stepX_8 : decode cX4_stepX 8 = .ok (.ireturn, 1) := by decide +kernel
theorem dX4_stepY_0 : decode cX4_stepY 0 = .ok (.getstatic 226, 3) := by decide +kernel
theorem dX4_stepY_3 : decode cX4_stepY 3 = .ok (.iload_n 0, 1) := by decide +kernel
theorem dX4_stepY_4 : decode cX4_stepY 4 = .ok (.bipush 7, 2) := by decide +kernel
theorem dX4_stepY_6 : decode cX4_stepY 6 = .ok (.iand, 1) := by decide +kernel
theorem dX4_stepY_7 : decode cX4_stepY 7 = .ok (.iaload, 1) := by decide +kernel
theorem dX4_stepY_8 : decode cX4_stepY 8 = .ok (.ireturn, 1) := by decide +kernel
theorem dX5_init_0 : decode cX5_init 0 = .ok (.aload_n 0, 1) := by decide +kernel
theorem dX5_init_1 : decode cX5_init 1 = .ok (.invokespecial 1, 3) := by decide +kernel
theorem dX5_init_4 : decode cX5_init 4 = .ok (.aload_n 0, 1) := by decide +kernel
theorem dX5_init_5 : decode cX5_init 5 = .ok (.sipush 576, 3) := by decide +kernel
theorem dX5_init_8 : decode cX5_init 8 = .ok (.newarray .boolean, 2) := by decide +kernel
theorem dX5_init_10 : decode cX5_init 10 = .ok (.putfield 7, 3) := by decide +kernel
theorem dX5_init_13 : decode cX5_init 13 = .ok (.aload_n 0, 1) := by decide +kernel
theorem dX5_init_14 : decode cX5_init 14 = .ok (.iconst 1, 1) := by decide +kernel
theorem dX5_init_15 : decode cX5_init 15 = .ok (.putfield 13, 3) := by decide +kernel
theorem dX5_init_18 : decode cX5_init 18 = .ok (.aload_n 0, 1) := by decide +kernel
theorem dX5_init_19 : decode cX5_init 19 = .ok (.iconst 1, 1) := by decide +kernel
theorem dX5_init_20 : decode cX5_init 20 = .ok (.putfield 17, 3) := by decide +kernel
theorem dX5_init_23 : decode cX5_init 23 = .ok (.aload_n 0, 1) := by decide +kernel
theorem dX5_init_24 : decode cX5_init 24 = .ok (.iconst 1, 1) := by decide +kernel
theorem dX5_init_25 : decode cX5_init 25 = .ok (.putfield 20, 3) := by decide +kernel
theorem dX5_init_28 : decode cX5_init 28 = .ok (.aload_n 0, 1) := by decide +kernel
theorem dX5_init_29 : decode cX5_init 29 = .ok (.iconst 1, 1) := by decide +kernel
theorem dX5_init_30 : decode cX5_init 30 = .ok (.putfield 23, 3) := by decide +kernel
theorem dX5_init_33 : decode cX5_init 33 = .ok (.aload_n 0, 1) := by decide +kernel
theorem dX5_init_34 : decode cX5_init 34 = .ok (.sipush 4608, 3) := by decide +kernel
theorem dX5_init_37 : decode cX5_init 37 = .ok (.newarray .int, 2) := by decide +kernel
theorem dX5_init_39 : decode cX5_init 39 = .ok (.putfield 27, 3) := by decide +kernel
theorem dX5_init_42 : decode cX5_init 42 = .ok (.aload_n 0, 1) := by decide +kernel
theorem dX5_init_43 : decode cX5_init 43 = .ok (.sipush 4608, 3) := by decide +kernel
theorem dX5_init_46 : decode cX5_init 46 = .ok (.newarray .int, 2) := by decide +kernel
theorem dX5_init_48 : decode cX5_init 48 = .ok (.putfield 31, 3) := by decide +kernel
theorem dX5_init_51 : decode cX5_init 51 = .ok (.aload_n 0, 1) := by decide +kernel
theorem dX5_init_52 : decode cX5_init 52 = .ok (.sipush 4608, 3) := by decide +kernel
theorem dX5_init_55 : decode cX5_init 55 = .ok (.newarray .int, 2) := by decide +kernel
theorem dX5_init_57 : decode cX5_init 57 = .ok (.putfield 34, 3) := by decide +kernel
theorem dX5_init_60 : decode cX5_init 60 = .ok (.aload_n 0, 1) := by decide +kernel
theorem dX5_init_61 : decode cX5_init 61 = .ok (.sipush 4608, 3) := by decide +kernel
theorem dX5_init_64 : decode cX5_init 64 = .ok (.newarray .int, 2) := by decide +kernel
theorem dX5_init_66 : decode cX5_init 66 = .ok (.putfield 37, 3) := by decide +kernel
theorem dX5_init_69 : decode cX5_init 69 = .ok (.aload_n 0, 1) := by decide +kernel
theorem dX5_init_70 : decode cX5_init 70 = .ok (.sipush 4608, 3) := by decide +kernel
theorem dX5_init_73 : decode cX5_init 73 = .ok (.newarray .boolean, 2) := by decide +kernel
theorem dX5_init_75 : decode cX5_init 75 = .ok (.putfield 40, 3) := by decide +kernel
theorem dX5_init_78 : decode cX5_init 78 = .ok (.aload_n 0, 1) := by decide +kernel
theorem dX5_init_79 : decode cX5_init 79 = .ok (.sipush 4608, 3) := by decide +kernel
theorem dX5_init_82 : decode cX5_init 82 = .ok (.newarray .int, 2) := by decide +kernel
theorem dX5_init_84 : decode cX5_init 84 = .ok (.putfield 43, 3) := by decide +kernel
theorem dX5_init_87 : decode cX5_init 87 = .ok (.aload_n 0, 1) := by decide +kernel
theorem dX5_init_88 : decode cX5_init 88 = .ok (.sipush 576, 3) := by decide +kernel
theorem dX5_init_91 : decode cX5_init 91 = .ok (.newarray .int, 2) := by decide +kernel
theorem dX5_init_93 : decode cX5_init 93 = .ok (.putfield 46, 3) := by decide +kernel
theorem dX5_init_96 : decode cX5_init 96 = .ok (.aload_n 0, 1) := by decide +kernel
theorem dX5_init_97 : decode cX5_init 97 = .ok (.iload_n 1, 1) := by decide +kernel
theorem dX5_init_98 : decode cX5_init 98 = .ok (.iconst 1, 1) := by decide +kernel
theorem dX5_init_99 : decode cX5_init 99 = .ok (.if_icmp .lt 9, 3) := by decide +kernel
theorem dX5_init_102 : decode cX5_init 102 = .ok (.iload_n 1, 1) := by decide +kernel
theorem dX5_init_103 : decode cX5_init 103 = .ok (.bipush 24, 2) := by decide +kernel
theorem dX5_init_105 : decode cX5_init 105 = .ok (.if_icmp .le 8, 3) := by decide +kernel
theorem dX5_init_108 : decode cX5_init 108 = .ok (.bipush 16, 2) := by decide +kernel
theorem dX5_init_110 : decode cX5_init 110 = .ok (.goto 4, 3) := by decide +kernel
theorem dX5_init_113 : decode cX5_init 113 = .ok (.iload_n 1, 1) := by decide +kernel
theorem dX5_init_114 : decode cX5_init 114 = .ok (.putfield 49, 3) := by decide +kernel
theorem dX5_init_117 : decode cX5_init 117 = .ok (.aload_n 0, 1) := by decide +kernel
theorem dX5_init_118 : decode cX5_init 118 = .ok (.iload_n 2, 1) := by decide +kernel
theorem dX5_init_119 : decode cX5_init 119 = .ok (.iconst 1, 1) := by decide +kernel
theorem dX5_init_120 : decode cX5_init 120 = .ok (.if_icmp .lt 9, 3) := by decide +kernel
theorem dX5_init_123 : decode cX5_init 123 = .ok (.iload_n 2, 1) := by decide +kernel
theorem dX5_init_124 : decode cX5_init 124 = .ok (.bipush 24, 2) := by decide +kernel
theorem dX5_init_126 : decode cX5_init 126 = .ok (.if_icmp .le 8, 3) := by decide +kernel
theorem dX5_init_129 : decode cX5_init 129 = .ok (.bipush 16, 2) := by decide +kernel
theorem dX5_init_131 : decode cX5_init 131 = .ok (.goto 4, 3) := by decide +kernel
theorem dX5_init_134 : decode cX5_init 134 = .ok (.iload_n 2, 1) := by decide +kernel
theorem dX5_init_135 : decode cX5_init 135 = .ok (.putfield 52, 3) := by decide +kernel
theorem dX5_init_138 : decode cX5_init 138 = .ok (.aload_n 0, 1) := by decide +kernel
theorem dX5_init_139 : decode cX5_init 139 = .ok (.iload_n 3, 1) := by decide +kernel
theorem dX5_init_140 : decode cX5_init 140 = .ok (.iconst 4, 1) := by decide +kernel
theorem dX5_init_141 : decode cX5_init 141 = .ok (.if_icmp .ne 7, 3) := by decide +kernel
theorem dX5_init_144 : decode cX5_init 144 = .ok (.iconst 1, 1) := by decide +kernel
theorem dX5_init_145 : decode cX5_init 145 = .ok (.goto 4, 3) := by decide +kernel
theorem dX5_init_148 : decode cX5_init 148 = .ok (.iconst 0, 1) := by decide +kernel
theorem dX5_init_149 : decode cX5_init 149 = .ok (.putfield 55, 3) := by decide +kernel
theorem dX5_init_152 : decode cX5_init 152 = .ok (.return_, 1) := by decide +kernel
theorem dX5_thrown_0 : decode cX5_thrown 0 = .ok (.aload_n 0, 1) := by decide +kernel
theorem dX5_thrown_1 : decode cX5_thrown 1 = .ok (.getfield 58, 3) := by decide +kernel
theorem dX5_thrown_4 : decode cX5_thrown 4 = .ok (.ireturn, 1) := by decide +kernel
theorem dX5_isCell_0 : decode cX5_isCell 0 = .ok (.iload_n 1, 1) := by decide +kernel
theorem dX5_isCell_1 : decode cX5_isCell 1 = .ok (.ifCond .lt 27, 3) := by decide +kernel
theorem dX5_isCell_4 : decode cX5_isCell 4 = .ok (.iload_n 1, 1) := by decide +kernel
theorem dX5_isCell_5 : decode cX5_isCell 5 = .ok (.aload_n 0, 1) := by decide +kernel
theorem dX5_isCell_6 : decode cX5_isCell 6 = .ok (.getfield 49, 3) := by decide +kernel
theorem dX5_isCell_9 : decode cX5_isCell 9 = .ok (.if_icmp .ge 19, 3) := by decide +kernel
theorem dX5_isCell_12 : decode cX5_isCell 12 = .ok (.iload_n 2, 1) := by decide +kernel
theorem dX5_isCell_13 : decode cX5_isCell 13 = .ok (.ifCond .lt 15, 3) := by decide +kernel
theorem dX5_isCell_16 : decode cX5_isCell 16 = .ok (.iload_n 2, 1) := by decide +kernel
theorem dX5_isCell_17 : decode cX5_isCell 17 = .ok (.aload_n 0, 1) := by decide +kernel
theorem dX5_isCell_18 : decode cX5_isCell 18 = .ok (.getfield 52, 3) := by decide +kernel
theorem dX5_isCell_21 : decode cX5_isCell 21 = .ok (.if_icmp .ge 7, 3) := by decide +kernel
theorem dX5_isCell_24 : decode cX5_isCell 24 = .ok (.iconst 1, 1) := by decide +kernel
theorem dX5_isCell_25 : decode cX5_isCell 25 = .ok (.goto 4, 3) := by decide +kernel
theorem dX5_isCell_28 : decode cX5_isCell 28 = .ok (.iconst 0, 1) := by decide +kernel
theorem dX5_isCell_29 : decode cX5_isCell 29 = .ok (.ireturn, 1) := by decide +kernel
theorem dX5_dx_0 : decode cX5_dx 0 = .ok (.iload_n 0, 1) := by decide +kernel
theorem dX5_dx_1 : decode cX5_dx 1 = .ok (.ifCond .eq 14, 3) := by decide +kernel
theorem dX5_dx_4 : decode cX5_dx 4 = .ok (.iload_n 0, 1) := by decide +kernel
theorem dX5_dx_5 : decode cX5_dx 5 = .ok (.iconst 1, 1) := by decide +kernel
theorem dX5_dx_6 : decode cX5_dx 6 = .ok (.if_icmp .eq 9, 3) := by decide +kernel
theorem dX5_dx_9 : decode cX5_dx 9 = .ok (.iload_n 0, 1) := by decide +kernel
theorem dX5_dx_10 : decode cX5_dx 10 = .ok (.bipush 7, 2) := by decide +kernel
theorem dX5_dx_12 : decode cX5_dx 12 = .ok (.if_icmp .ne 7, 3) := by decide +kernel
theorem dX5_dx_15 : decode cX5_dx 15 = .ok (.iconst 1, 1) := by decide +kernel
theorem dX5_dx_16 : decode cX5_dx 16 = .ok (.goto 19, 3) := by decide +kernel
theorem dX5_dx_19 : decode cX5_dx 19 = .ok (.iload_n 0, 1) := by decide +kernel
theorem dX5_dx_20 : decode cX5_dx 20 = .ok (.iconst 2, 1) := by decide +kernel
theorem dX5_dx_21 : decode cX5_dx 21 = .ok (.if_icmp .eq 9, 3) := by decide +kernel
theorem dX5_dx_24 : decode cX5_dx 24 = .ok (.iload_n 0, 1) := by decide +kernel
theorem dX5_dx_25 : decode cX5_dx 25 = .ok (.bipush 6, 2) := by decide +kernel
theorem dX5_dx_27 : decode cX5_dx 27 = .ok (.if_icmp .ne 7, 3) := by decide +kernel
theorem dX5_dx_30 : decode cX5_dx 30 = .ok (.iconst 0, 1) := by decide +kernel
theorem dX5_dx_31 : decode cX5_dx 31 = .ok (.goto 4, 3) := by decide +kernel
theorem dX5_dx_34 : decode cX5_dx 34 = .ok (.iconst (-1), 1) := by decide +kernel
theorem dX5_dx_35 : decode cX5_dx 35 = .ok (.ireturn, 1) := by decide +kernel
theorem dX5_dy_0 : decode cX5_dy 0 = .ok (.iload_n 0, 1) := by decide +kernel
theorem dX5_dy_1 : decode cX5_dy 1 = .ok (.iconst 1, 1) := by decide +kernel
theorem dX5_dy_2 : decode cX5_dy 2 = .ok (.if_icmp .lt 12, 3) := by decide +kernel
theorem dX5_dy_5 : decode cX5_dy 5 = .ok (.iload_n 0, 1) := by decide +kernel
theorem dX5_dy_6 : decode cX5_dy 6 = .ok (.iconst 3, 1) := by decide +kernel
theorem dX5_dy_7 : decode cX5_dy 7 = .ok (.if_icmp .gt 7, 3) := by decide +kernel
theorem dX5_dy_10 : decode cX5_dy 10 = .ok (.iconst 1, 1) := by decide +kernel
theorem dX5_dy_11 : decode cX5_dy 11 = .ok (.goto 17, 3) := by decide +kernel
theorem dX5_dy_14 : decode cX5_dy 14 = .ok (.iload_n 0, 1) := by decide +kernel
theorem dX5_dy_15 : decode cX5_dy 15 = .ok (.ifCond .eq 8, 3) := by decide +kernel
theorem dX5_dy_18 : decode cX5_dy 18 = .ok (.iload_n 0, 1) := by decide +kernel
theorem dX5_dy_19 : decode cX5_dy 19 = .ok (.iconst 4, 1) := by decide +kernel
theorem dX5_dy_20 : decode cX5_dy 20 = .ok (.if_icmp .ne 7, 3) := by decide +kernel
theorem dX5_dy_23 : decode cX5_dy 23 = .ok (.iconst 0, 1) := by decide +kernel
theorem dX5_dy_24 : decode cX5_dy 24 = .ok (.goto 4, 3) := by decide +kernel
theorem dX5_dy_27 : decode cX5_dy 27 = .ok (.iconst (-1), 1) := by decide +kernel
theorem dX5_dy_28 : decode cX5_dy 28 = .ok (.ireturn, 1) := by decide +kernel
theorem dX5_place_0 : decode cX5_place 0 = .ok (.bipush 8, 2) := by decide +kernel
theorem dX5_place_2 : decode cX5_place 2 = .ok (.bipush 24, 2) := by decide +kernel
theorem dX5_place_4 : decode cX5_place 4 = .ok (.iload_n 1, 1) := by decide +kernel
theorem dX5_place_5 : decode cX5_place 5 = .ok (.imul, 1) := by decide +kernel
theorem dX5_place_6 : decode cX5_place 6 = .ok (.iload_n 0, 1) := by decide +kernel
theorem dX5_place_7 : decode cX5_place 7 = .ok (.iadd, 1) := by decide +kernel
theorem dX5_place_8 : decode cX5_place 8 = .ok (.imul, 1) := by decide +kernel
theorem dX5_place_9 : decode cX5_place 9 = .ok (.iload_n 2, 1) := by decide +kernel
theorem dX5_place_10 : decode cX5_place 10 = .ok (.iadd, 1) := by decide +kernel
theorem dX5_place_11 : decode cX5_place 11 = .ok (.ireturn, 1) := by decide +kernel
theorem dX5_xOf_0 : decode cX5_xOf 0 = .ok (.iload_n 0, 1) := by decide +kernel
theorem dX5_xOf_1 : decode cX5_xOf 1 = .ok (.bipush 8, 2) := by decide +kernel
theorem dX5_xOf_3 : decode cX5_xOf 3 = .ok (.idiv, 1) := by decide +kernel
theorem dX5_xOf_4 : decode cX5_xOf 4 = .ok (.bipush 24, 2) := by decide +kernel
theorem dX5_xOf_6 : decode cX5_xOf 6 = .ok (.irem, 1) := by decide +kernel
theorem dX5_xOf_7 : decode cX5_xOf 7 = .ok (.ireturn, 1) := by decide +kernel
theorem dX5_yOf_0 : decode cX5_yOf 0 = .ok (.iload_n 0, 1) := by decide +kernel
theorem dX5_yOf_1 : decode cX5_yOf 1 = .ok (.sipush 192, 3) := by decide +kernel
theorem dX5_yOf_4 : decode cX5_yOf 4 = .ok (.idiv, 1) := by decide +kernel
theorem dX5_yOf_5 : decode cX5_yOf 5 = .ok (.ireturn, 1) := by decide +kernel
set_option maxRecDepth 20000 in
theorem ggX5_distance_X5_isCell : GoodIn wsX5_distance wsX5_isCell := goodIn_r _ [6, 7, 8, 9, 10, 11, 12, 13, 14, 15, 16, 17, 18, 19, 20, 21, 22, 23, 24, 25, 26, 27, 28, 29, 30, 31, 32, 33, 34] (by decide +kernel) (by decide +kernel)
set_option maxRecDepth 20000 in
theorem gX5_distance_X5_isCell : GoodIn wsX5_distance (wsV RX5 61 RX5 yX5_isCell wsX5_isCell) := goodIn_app (goodIn_of _ (by decide +kernel)) ggX5_distance_X5_isCell
theorem dX5_distance_0 : decode cX5_distance 0 = .ok (.bipush 9, 2) := by decide +kernel
theorem dX5_distance_2 : decode cX5_distance 2 = .ok (.istore_n 3, 1) := by decide +kernel
theorem dX5_distance_3 : decode cX5_distance 3 = .ok (.iload_n 2, 1) := by decide +kernel
theorem dX5_distance_4 : decode cX5_distance 4 = .ok (.bipush 8, 2) := by decide +kernel
theorem dX5_distance_6 : decode cX5_distance 6 = .ok (.isub, 1) := by decide +kernel
theorem dX5_distance_7 : decode cX5_distance 7 = .ok (.istore 4, 2) := by decide +kernel
theorem dX5_distance_9 : decode cX5_distance 9 = .ok (.iload 4, 2) := by decide +kernel
theorem dX5_distance_11 : decode cX5_distance 11 = .ok (.iload_n 2, 1) := by decide +kernel
theorem dX5_distance_12 : decode cX5_distance 12 = .ok (.bipush 8, 2) := by decide +kernel
theorem dX5_distance_14 : decode cX5_distance 14 = .ok (.iadd, 1) := by decide +kernel
theorem dX5_distance_15 : decode cX5_distance 15 = .ok (.if_icmp .gt 127, 3) := by decide +kernel
theorem dX5_distance_18 : decode cX5_distance 18 = .ok (.iload_n 1, 1) := by decide +kernel
theorem dX5_distance_19 : decode cX5_distance 19 = .ok (.bipush 8, 2) := by decide +kernel
theorem dX5_distance_21 : decode cX5_distance 21 = .ok (.isub, 1) := by decide +kernel
theorem dX5_distance_22 : decode cX5_distance 22 = .ok (.istore 5, 2) := by decide +kernel
theorem dX5_distance_24 : decode cX5_distance 24 = .ok (.iload 5, 2) := by decide +kernel
theorem dX5_distance_26 : decode cX5_distance 26 = .ok (.iload_n 1, 1) := by decide +kernel
theorem dX5_distance_27 : decode cX5_distance 27 = .ok (.bipush 8, 2) := by decide +kernel
theorem dX5_distance_29 : decode cX5_distance 29 = .ok (.iadd, 1) := by decide +kernel
theorem dX5_distance_30 : decode cX5_distance 30 = .ok (.if_icmp .gt 106, 3) := by decide +kernel
theorem dX5_distance_33 : decode cX5_distance 33 = .ok (.aload_n 0, 1) := by decide +kernel
theorem dX5_distance_34 : decode cX5_distance 34 = .ok (.iload 5, 2) := by decide +kernel
theorem dX5_distance_36 : decode cX5_distance 36 = .ok (.iload 4, 2) := by decide +kernel
theorem dX5_distance_38 : decode cX5_distance 38 = .ok (.invokevirtual 61, 3) := by decide +kernel
theorem dX5_distance_41 : decode cX5_distance 41 = .ok (.ifCond .eq 89, 3) := by decide +kernel
theorem dX5_distance_44 : decode cX5_distance 44 = .ok (.aload_n 0, 1) := by decide +kernel
theorem dX5_distance_45 : decode cX5_distance 45 = .ok (.getfield 7, 3) := by decide +kernel
theorem dX5_distance_48 : decode cX5_distance 48 = .ok (.bipush 24, 2) := by decide +kernel
theorem dX5_distance_50 : decode cX5_distance 50 = .ok (.iload 4, 2) := by decide +kernel
theorem dX5_distance_52 : decode cX5_distance 52 = .ok (.imul, 1) := by decide +kernel
theorem dX5_distance_53 : decode cX5_distance 53 = .ok (.iload 5, 2) := by decide +kernel
theorem dX5_distance_55 : decode cX5_distance 55 = .ok (.iadd, 1) := by decide +kernel
theorem dX5_distance_56 : decode cX5_distance 56 = .ok (.baload, 1) := by decide +kernel
theorem dX5_distance_57 : decode cX5_distance 57 = .ok (.ifCond .ne 6, 3) := by decide +kernel
theorem dX5_distance_60 : decode cX5_distance 60 = .ok (.goto 70, 3) := by decide +kernel
theorem dX5_distance_63 : decode cX5_distance 63 = .ok (.iload 5, 2) := by decide +kernel
theorem dX5_distance_65 : decode cX5_distance 65 = .ok (.iload_n 1, 1) := by decide +kernel
theorem dX5_distance_66 : decode cX5_distance 66 = .ok (.if_icmp .ge 10, 3) := by decide +kernel
theorem dX5_distance_69 : decode cX5_distance 69 = .ok (.iload_n 1, 1) := by decide +kernel
theorem dX5_distance_70 : decode cX5_distance 70 = .ok (.iload 5, 2) := by decide +kernel
theorem dX5_distance_72 : decode cX5_distance 72 = .ok (.isub, 1) := by decide +kernel
theorem dX5_distance_73 : decode cX5_distance 73 = .ok (.goto 7, 3) := by decide +kernel
theorem dX5_distance_76 : decode cX5_distance 76 = .ok (.iload 5, 2) := by decide +kernel
theorem dX5_distance_78 : decode cX5_distance 78 = .ok (.iload_n 1, 1) := by decide +kernel
theorem dX5_distance_79 : decode cX5_distance 79 = .ok (.isub, 1) := by decide +kernel
theorem dX5_distance_80 : decode cX5_distance 80 = .ok (.istore 6, 2) := by decide +kernel
theorem dX5_distance_82 : decode cX5_distance 82 = .ok (.iload 4, 2) := by decide +kernel
theorem dX5_distance_84 : decode cX5_distance 84 = .ok (.iload_n 2, 1) := by decide +kernel
theorem dX5_distance_85 : decode cX5_distance 85 = .ok (.if_icmp .ge 10, 3) := by decide +kernel
theorem dX5_distance_88 : decode cX5_distance 88 = .ok (.iload_n 2, 1) := by decide +kernel
theorem dX5_distance_89 : decode cX5_distance 89 = .ok (.iload 4, 2) := by decide +kernel
theorem dX5_distance_91 : decode cX5_distance 91 = .ok (.isub, 1) := by decide +kernel
theorem dX5_distance_92 : decode cX5_distance 92 = .ok (.goto 7, 3) := by decide +kernel
theorem dX5_distance_95 : decode cX5_distance 95 = .ok (.iload 4, 2) := by decide +kernel
theorem dX5_distance_97 : decode cX5_distance 97 = .ok (.iload_n 2, 1) := by decide +kernel
theorem dX5_distance_98 : decode cX5_distance 98 = .ok (.isub, 1) := by decide +kernel
theorem dX5_distance_99 : decode cX5_distance 99 = .ok (.istore 7, 2) := by decide +kernel
theorem dX5_distance_101 : decode cX5_distance 101 = .ok (.iload 6, 2) := by decide +kernel
theorem dX5_distance_103 : decode cX5_distance 103 = .ok (.iload 7, 2) := by decide +kernel
theorem dX5_distance_105 : decode cX5_distance 105 = .ok (.if_icmp .le 8, 3) := by decide +kernel
theorem dX5_distance_108 : decode cX5_distance 108 = .ok (.iload 6, 2) := by decide +kernel
theorem dX5_distance_110 : decode cX5_distance 110 = .ok (.goto 5, 3) := by decide +kernel
theorem dX5_distance_113 : decode cX5_distance 113 = .ok (.iload 7, 2) := by decide +kernel
theorem dX5_distance_115 : decode cX5_distance 115 = .ok (.istore 8, 2) := by decide +kernel
theorem dX5_distance_117 : decode cX5_distance 117 = .ok (.iload 8, 2) := by decide +kernel
theorem dX5_distance_119 : decode cX5_distance 119 = .ok (.iload_n 3, 1) := by decide +kernel
theorem dX5_distance_120 : decode cX5_distance 120 = .ok (.if_icmp .ge 8, 3) := by decide +kernel
theorem dX5_distance_123 : decode cX5_distance 123 = .ok (.iload 8, 2) := by decide +kernel
theorem dX5_distance_125 : decode cX5_distance 125 = .ok (.goto 4, 3) := by decide +kernel
theorem dX5_distance_128 : decode cX5_distance 128 = .ok (.iload_n 3, 1) := by decide +kernel
theorem dX5_distance_129 : decode cX5_distance 129 = .ok (.istore_n 3, 1) := by decide +kernel
theorem dX5_distance_130 : decode cX5_distance 130 = .ok (.iinc 5 1, 3) := by decide +kernel
theorem dX5_distance_133 : decode cX5_distance 133 = .ok (.goto (-109), 3) := by decide +kernel
theorem dX5_distance_136 : decode cX5_distance 136 = .ok (.iinc 4 1, 3) := by decide +kernel
theorem dX5_distance_139 : decode cX5_distance 139 = .ok (.goto (-130), 3) := by decide +kernel
theorem dX5_distance_142 : decode cX5_distance 142 = .ok (.iload_n 3, 1) := by decide +kernel
theorem dX5_distance_143 : decode cX5_distance 143 = .ok (.ireturn, 1) := by decide +kernel
set_option maxRecDepth 20000 in
theorem ggX5_findNear_X5_distance : GoodIn wsX5_findNear wsX5_distance := goodIn_r _ [8, 9, 10, 11, 12, 7, 13, 2, 1, 14, 15, 16, 17, 18, 19, 20, 21, 22, 23, 24, 25, 26, 27, 28, 29, 30, 31, 32, 33, 34, 35, 36, 37, 38, 39] (by decide +kernel) (by decide +kernel)
set_option maxRecDepth 20000 in
theorem gX5_findNear_X5_distance : GoodIn wsX5_findNear (wsV RX5 65 RX5 yX5_distance wsX5_distance) := goodIn_app (goodIn_of _ (by decide +kernel)) ggX5_findNear_X5_distance
theorem dX5_findNear_0 : decode cX5_findNear 0 = .ok (.iconst 0, 1) := by decide +kernel
theorem dX5_findNear_1 : decode cX5_findNear 1 = .ok (.istore_n 1, 1) := by decide +kernel
theorem dX5_findNear_2 : decode cX5_findNear 2 = .ok (.iload_n 1, 1) := by decide +kernel
theorem dX5_findNear_3 : decode cX5_findNear 3 = .ok (.aload_n 0, 1) := by decide +kernel
theorem dX5_findNear_4 : decode cX5_findNear 4 = .ok (.getfield 52, 3) := by decide +kernel
theorem dX5_findNear_7 : decode cX5_findNear 7 = .ok (.if_icmp .ge 42, 3) := by decide +kernel
theorem dX5_findNear_10 : decode cX5_findNear 10 = .ok (.iconst 0, 1) := by decide +kernel
theorem dX5_findNear_11 : decode cX5_findNear 11 = .ok (.istore_n 2, 1) := by decide +kernel
theorem dX5_findNear_12 : decode cX5_findNear 12 = .ok (.iload_n 2, 1) := by decide +kernel
theorem dX5_findNear_13 : decode cX5_findNear 13 = .ok (.aload_n 0, 1) := by decide +kernel
theorem dX5_findNear_14 : decode cX5_findNear 14 = .ok (.getfield 49, 3) := by decide +kernel
theorem dX5_findNear_17 : decode cX5_findNear 17 = .ok (.if_icmp .ge 26, 3) := by decide +kernel
theorem dX5_findNear_20 : decode cX5_findNear 20 = .ok (.aload_n 0, 1) := by decide +kernel
theorem dX5_findNear_21 : decode cX5_findNear 21 = .ok (.getfield 46, 3) := by decide +kernel
theorem dX5_findNear_24 : decode cX5_findNear 24 = .ok (.bipush 24, 2) := by decide +kernel
theorem dX5_findNear_26 : decode cX5_findNear 26 = .ok (.iload_n 1, 1) := by decide +kernel
theorem dX5_findNear_27 : decode cX5_findNear 27 = .ok (.imul, 1) := by decide +kernel
theorem dX5_findNear_28 : decode cX5_findNear 28 = .ok (.iload_n 2, 1) := by decide +kernel
theorem dX5_findNear_29 : decode cX5_findNear 29 = .ok (.iadd, 1) := by decide +kernel
theorem dX5_findNear_30 : decode cX5_findNear 30 = .ok (.aload_n 0, 1) := by decide +kernel
theorem dX5_findNear_31 : decode cX5_findNear 31 = .ok (.iload_n 2, 1) := by decide +kernel
theorem dX5_findNear_32 : decode cX5_findNear 32 = .ok (.iload_n 1, 1) := by decide +kernel
theorem dX5_findNear_33 : decode cX5_findNear 33 = .ok (.invokevirtual 65, 3) := by decide +kernel
theorem dX5_findNear_36 : decode cX5_findNear 36 = .ok (.iastore, 1) := by decide +kernel
theorem dX5_findNear_37 : decode cX5_findNear 37 = .ok (.iinc 2 1, 3) := by decide +kernel
theorem dX5_findNear_40 : decode cX5_findNear 40 = .ok (.goto (-28), 3) := by decide +kernel
theorem dX5_findNear_43 : decode cX5_findNear 43 = .ok (.iinc 1 1, 3) := by decide +kernel
theorem dX5_findNear_46 : decode cX5_findNear 46 = .ok (.goto (-44), 3) := by decide +kernel
theorem dX5_findNear_49 : decode cX5_findNear 49 = .ok (.return_, 1) := by decide +kernel
set_option maxRecDepth 20000 in
theorem ggX5_clear_X5_dx : GoodIn wsX5_clear wsX5_dx := goodIn_r _ [7] (by decide +kernel) (by decide +kernel)
set_option maxRecDepth 20000 in
theorem gX5_clear_X5_dx : GoodIn wsX5_clear (va_wsS RX5 69 yX5_dx wsX5_dx) := goodIn_app (goodIn_of _ (by decide +kernel)) ggX5_clear_X5_dx
set_option maxRecDepth 20000 in
theorem ggX5_clear_X5_dy : GoodIn wsX5_clear wsX5_dy := goodIn_r _ [10] (by decide +kernel) (by decide +kernel)
set_option maxRecDepth 20000 in
theorem gX5_clear_X5_dy : GoodIn wsX5_clear (va_wsS RX5 73 yX5_dy wsX5_dy) := goodIn_app (goodIn_of _ (by decide +kernel)) ggX5_clear_X5_dy
set_option maxRecDepth 20000 in
theorem ggX5_clear_X5_isCell : GoodIn wsX5_clear wsX5_isCell := goodIn_r _ [14, 15, 16, 17, 18, 19, 20, 21, 22, 23, 24, 25, 26, 27, 28, 29, 30, 31, 32, 33, 34, 35, 36, 37, 38, 39, 40, 41, 42] (by decide +kernel) (by decide +kernel)
set_option maxRecDepth 20000 in
theorem gX5_clear_X5_isCell : GoodIn wsX5_clear (wsV RX5 61 RX5 yX5_isCell wsX5_isCell) := goodIn_app (goodIn_of _ (by decide +kernel)) ggX5_clear_X5_isCell
theorem dX5_clear_0 : decode cX5_clear 0 = .ok (.bipush 9, 2) := by decide +kernel
theorem dX5_clear_2 : decode cX5_clear 2 = .ok (.istore 4, 2) := by decide +kernel
theorem dX5_clear_4 : decode cX5_clear 4 = .ok (.iload_n 3, 1) := by decide +kernel
theorem dX5_clear_5 : decode cX5_clear 5 = .ok (.iconst 2, 1) := by decide +kernel
theorem dX5_clear_6 : decode cX5_clear 6 = .ok (.iadd, 1) := by decide +kernel
theorem dX5_clear_7 : decode cX5_clear 7 = .ok (.bipush 8, 2) := by decide +kernel
theorem dX5_clear_9 : decode cX5_clear 9 = .ok (.irem, 1) := by decide +kernel
theorem dX5_clear_10 : decode cX5_clear 10 = .ok (.istore 5, 2) := by decide +kernel
theorem dX5_clear_12 : decode cX5_clear 12 = .ok (.aload_n 0, 1) := by decide +kernel
theorem dX5_clear_13 : decode cX5_clear 13 = .ok (.getfield 13, 3) := by decide +kernel
theorem dX5_clear_16 : decode cX5_clear 16 = .ok (.iconst 1, 1) := by decide +kernel
theorem dX5_clear_17 : decode cX5_clear 17 = .ok (.isub, 1) := by decide +kernel
theorem dX5_clear_18 : decode cX5_clear 18 = .ok (.iconst 2, 1) := by decide +kernel
theorem dX5_clear_19 : decode cX5_clear 19 = .ok (.idiv, 1) := by decide +kernel
theorem dX5_clear_20 : decode cX5_clear 20 = .ok (.ineg, 1) := by decide +kernel
theorem dX5_clear_21 : decode cX5_clear 21 = .ok (.istore 6, 2) := by decide +kernel
theorem dX5_clear_23 : decode cX5_clear 23 = .ok (.iload 6, 2) := by decide +kernel
theorem dX5_clear_25 : decode cX5_clear 25 = .ok (.aload_n 0, 1) := by decide +kernel
theorem dX5_clear_26 : decode cX5_clear 26 = .ok (.getfield 13, 3) := by decide +kernel
theorem dX5_clear_29 : decode cX5_clear 29 = .ok (.iconst 2, 1) := by decide +kernel
theorem dX5_clear_30 : decode cX5_clear 30 = .ok (.idiv, 1) := by decide +kernel
theorem dX5_clear_31 : decode cX5_clear 31 = .ok (.if_icmp .gt 121, 3) := by decide +kernel
theorem dX5_clear_34 : decode cX5_clear 34 = .ok (.aload_n 0, 1) := by decide +kernel
theorem dX5_clear_35 : decode cX5_clear 35 = .ok (.getfield 17, 3) := by decide +kernel
theorem dX5_clear_38 : decode cX5_clear 38 = .ok (.iconst 1, 1) := by decide +kernel
theorem dX5_clear_39 : decode cX5_clear 39 = .ok (.isub, 1) := by decide +kernel
theorem dX5_clear_40 : decode cX5_clear 40 = .ok (.iconst 2, 1) := by decide +kernel
theorem dX5_clear_41 : decode cX5_clear 41 = .ok (.idiv, 1) := by decide +kernel
theorem dX5_clear_42 : decode cX5_clear 42 = .ok (.ineg, 1) := by decide +kernel
theorem dX5_clear_43 : decode cX5_clear 43 = .ok (.istore 7, 2) := by decide +kernel
theorem dX5_clear_45 : decode cX5_clear 45 = .ok (.iload 7, 2) := by decide +kernel
theorem dX5_clear_47 : decode cX5_clear 47 = .ok (.aload_n 0, 1) := by decide +kernel
theorem dX5_clear_48 : decode cX5_clear 48 = .ok (.getfield 17, 3) := by decide +kernel
theorem dX5_clear_51 : decode cX5_clear 51 = .ok (.iconst 2, 1) := by decide +kernel
theorem dX5_clear_52 : decode cX5_clear 52 = .ok (.idiv, 1) := by decide +kernel
theorem dX5_clear_53 : decode cX5_clear 53 = .ok (.if_icmp .gt 93, 3) := by decide +kernel
theorem dX5_clear_56 : decode cX5_clear 56 = .ok (.iload_n 1, 1) := by decide +kernel
theorem dX5_clear_57 : decode cX5_clear 57 = .ok (.iload 6, 2) := by decide +kernel
theorem dX5_clear_59 : decode cX5_clear 59 = .ok (.iload_n 3, 1) := by decide +kernel
theorem dX5_clear_60 : decode cX5_clear 60 = .ok (.invokestatic 69, 3) := by decide +kernel
theorem dX5_clear_63 : decode cX5_clear 63 = .ok (.imul, 1) := by decide +kernel
theorem dX5_clear_64 : decode cX5_clear 64 = .ok (.iadd, 1) := by decide +kernel
theorem dX5_clear_65 : decode cX5_clear 65 = .ok (.iload 7, 2) := by decide +kernel
theorem dX5_clear_67 : decode cX5_clear 67 = .ok (.iload 5, 2) := by decide +kernel
theorem dX5_clear_69 : decode cX5_clear 69 = .ok (.invokestatic 69, 3) := by decide +kernel
theorem dX5_clear_72 : decode cX5_clear 72 = .ok (.imul, 1) := by decide +kernel
theorem dX5_clear_73 : decode cX5_clear 73 = .ok (.iadd, 1) := by decide +kernel
theorem dX5_clear_74 : decode cX5_clear 74 = .ok (.istore 8, 2) := by decide +kernel
theorem dX5_clear_76 : decode cX5_clear 76 = .ok (.iload_n 2, 1) := by decide +kernel
theorem dX5_clear_77 : decode cX5_clear 77 = .ok (.iload 6, 2) := by decide +kernel
theorem dX5_clear_79 : decode cX5_clear 79 = .ok (.iload_n 3, 1) := by decide +kernel
theorem dX5_clear_80 : decode cX5_clear 80 = .ok (.invokestatic 73, 3) := by decide +kernel
theorem dX5_clear_83 : decode cX5_clear 83 = .ok (.imul, 1) := by decide +kernel
theorem dX5_clear_84 : decode cX5_clear 84 = .ok (.iadd, 1) := by decide +kernel
theorem dX5_clear_85 : decode cX5_clear 85 = .ok (.iload 7, 2) := by decide +kernel
theorem dX5_clear_87 : decode cX5_clear 87 = .ok (.iload 5, 2) := by decide +kernel
theorem dX5_clear_89 : decode cX5_clear 89 = .ok (.invokestatic 73, 3) := by decide +kernel
theorem dX5_clear_92 : decode cX5_clear 92 = .ok (.imul, 1) := by decide +kernel
theorem dX5_clear_93 : decode cX5_clear 93 = .ok (.iadd, 1) := by decide +kernel
theorem dX5_clear_94 : decode cX5_clear 94 = .ok (.istore 9, 2) := by decide +kernel
theorem dX5_clear_96 : decode cX5_clear 96 = .ok (.aload_n 0, 1) := by decide +kernel
theorem dX5_clear_97 : decode cX5_clear 97 = .ok (.iload 8, 2) := by decide +kernel
theorem dX5_clear_99 : decode cX5_clear 99 = .ok (.iload 9, 2) := by decide +kernel
theorem dX5_clear_101 : decode cX5_clear 101 = .ok (.invokevirtual 61, 3) := by decide +kernel
theorem dX5_clear_104 : decode cX5_clear 104 = .ok (.ifCond .ne 5, 3) := by decide +kernel
theorem dX5_clear_107 : decode cX5_clear 107 = .ok (.iconst (-1), 1) := by decide +kernel
theorem dX5_clear_108 : decode cX5_clear 108 = .ok (.ireturn, 1) := by decide +kernel
theorem dX5_clear_109 : decode cX5_clear 109 = .ok (.aload_n 0, 1) := by decide +kernel
theorem dX5_clear_110 : decode cX5_clear 110 = .ok (.getfield 46, 3) := by decide +kernel
theorem dX5_clear_113 : decode cX5_clear 113 = .ok (.bipush 24, 2) := by decide +kernel
theorem dX5_clear_115 : decode cX5_clear 115 = .ok (.iload 9, 2) := by decide +kernel
theorem dX5_clear_117 : decode cX5_clear 117 = .ok (.imul, 1) := by decide +kernel
theorem dX5_clear_118 : decode cX5_clear 118 = .ok (.iload 8, 2) := by decide +kernel
theorem dX5_clear_120 : decode cX5_clear 120 = .ok (.iadd, 1) := by decide +kernel
theorem dX5_clear_121 : decode cX5_clear 121 = .ok (.iaload, 1) := by decide +kernel
theorem dX5_clear_122 : decode cX5_clear 122 = .ok (.istore 10, 2) := by decide +kernel
theorem dX5_clear_124 : decode cX5_clear 124 = .ok (.iload 10, 2) := by decide +kernel
theorem dX5_clear_126 : decode cX5_clear 126 = .ok (.iload 4, 2) := by decide +kernel
theorem dX5_clear_128 : decode cX5_clear 128 = .ok (.if_icmp .ge 8, 3) := by decide +kernel
theorem dX5_clear_131 : decode cX5_clear 131 = .ok (.iload 10, 2) := by decide +kernel
theorem dX5_clear_133 : decode cX5_clear 133 = .ok (.goto 5, 3) := by decide +kernel
theorem dX5_clear_136 : decode cX5_clear 136 = .ok (.iload 4, 2) := by decide +kernel
theorem dX5_clear_138 : decode cX5_clear 138 = .ok (.istore 4, 2) := by decide +kernel
theorem dX5_clear_140 : decode cX5_clear 140 = .ok (.iinc 7 1, 3) := by decide +kernel
theorem dX5_clear_143 : decode cX5_clear 143 = .ok (.goto (-98), 3) := by decide +kernel
theorem dX5_clear_146 : decode cX5_clear 146 = .ok (.iinc 6 1, 3) := by decide +kernel
theorem dX5_clear_149 : decode cX5_clear 149 = .ok (.goto (-126), 3) := by decide +kernel
theorem dX5_clear_152 : decode cX5_clear 152 = .ok (.iload 4, 2) := by decide +kernel
theorem dX5_clear_154 : decode cX5_clear 154 = .ok (.ireturn, 1) := by decide +kernel
set_option maxRecDepth 20000 in
theorem ggX5_isFree_X5_isCell : GoodIn wsX5_isFree wsX5_isCell := goodIn_r _ [6, 7, 8, 22, 23, 24, 25, 26, 27, 28, 29, 30, 31, 32, 33, 34, 35, 36, 37, 38, 39, 40, 41, 42, 43, 44, 45, 46, 47] (by decide +kernel) (by decide +kernel)
set_option maxRecDepth 20000 in
theorem gX5_isFree_X5_isCell : GoodIn wsX5_isFree (wsV RX5 61 RX5 yX5_isCell wsX5_isCell) := goodIn_app (goodIn_of _ (by decide +kernel)) ggX5_isFree_X5_isCell
set_option maxRecDepth 20000 in
theorem ggX5_isFree_X5_clear : GoodIn wsX5_isFree wsX5_clear := goodIn_r _ [12, 13, 14, 15, 16, 17, 5, 18, 19, 20, 21, 2, 3, 4, 6, 7, 8, 22, 23, 24, 25, 26, 27, 28, 29, 30, 31, 32, 33, 34, 35, 36, 37, 38, 39, 40, 41, 42, 43, 44, 45, 46, 47] (by decide +kernel) (by decide +kernel)
set_option maxRecDepth 20000 in
theorem gX5_isFree_X5_clear : GoodIn wsX5_isFree (wsV RX5 76 RX5 yX5_clear wsX5_clear) := goodIn_app (goodIn_of _ (by decide +kernel)) ggX5_isFree_X5_clear
theorem dX5_isFree_0 : decode cX5_isFree 0 = .ok (.aload_n 0, 1) := by decide +kernel
theorem dX5_isFree_1 : decode cX5_isFree 1 = .ok (.iload_n 1, 1) := by decide +kernel
theorem dX5_isFree_2 : decode cX5_isFree 2 = .ok (.iload_n 2, 1) := by decide +kernel
theorem dX5_isFree_3 : decode cX5_isFree 3 = .ok (.invokevirtual 61, 3) := by decide +kernel
theorem dX5_isFree_6 : decode cX5_isFree 6 = .ok (.ifCond .eq 21, 3) := by decide +kernel
theorem dX5_isFree_9 : decode cX5_isFree 9 = .ok (.aload_n 0, 1) := by decide +kernel
theorem dX5_isFree_10 : decode cX5_isFree 10 = .ok (.iload_n 1, 1) := by decide +kernel
theorem dX5_isFree_11 : decode cX5_isFree 11 = .ok (.iload_n 2, 1) := by decide +kernel
theorem dX5_isFree_12 : decode cX5_isFree 12 = .ok (.iload_n 3, 1) := by decide +kernel
theorem dX5_isFree_13 : decode cX5_isFree 13 = .ok (.invokevirtual 76, 3) := by decide +kernel
theorem dX5_isFree_16 : decode cX5_isFree 16 = .ok (.aload_n 0, 1) := by decide +kernel
theorem dX5_isFree_17 : decode cX5_isFree 17 = .ok (.getfield 80, 3) := by decide +kernel
theorem dX5_isFree_20 : decode cX5_isFree 20 = .ok (.if_icmp .le 7, 3) := by decide +kernel
theorem dX5_isFree_23 : decode cX5_isFree 23 = .ok (.iconst 1, 1) := by decide +kernel
theorem dX5_isFree_24 : decode cX5_isFree 24 = .ok (.goto 4, 3) := by decide +kernel
theorem dX5_isFree_27 : decode cX5_isFree 27 = .ok (.iconst 0, 1) := by decide +kernel
theorem dX5_isFree_28 : decode cX5_isFree 28 = .ok (.ireturn, 1) := by decide +kernel
theorem dX5_isHeading_0 : decode cX5_isHeading 0 = .ok (.iload_n 1, 1) := by decide +kernel
theorem dX5_isHeading_1 : decode cX5_isHeading 1 = .ok (.ifCond .lt 26, 3) := by decide +kernel
theorem dX5_isHeading_4 : decode cX5_isHeading 4 = .ok (.iload_n 1, 1) := by decide +kernel
theorem dX5_isHeading_5 : decode cX5_isHeading 5 = .ok (.bipush 8, 2) := by decide +kernel
theorem dX5_isHeading_7 : decode cX5_isHeading 7 = .ok (.if_icmp .ge 20, 3) := by decide +kernel
theorem dX5_isHeading_10 : decode cX5_isHeading 10 = .ok (.aload_n 0, 1) := by decide +kernel
theorem dX5_isHeading_11 : decode cX5_isHeading 11 = .ok (.getfield 55, 3) := by decide +kernel
theorem dX5_isHeading_14 : decode cX5_isHeading 14 = .ok (.ifCond .eq 9, 3) := by decide +kernel
theorem dX5_isHeading_17 : decode cX5_isHeading 17 = .ok (.iload_n 1, 1) := by decide +kernel
theorem dX5_isHeading_18 : decode cX5_isHeading 18 = .ok (.iconst 2, 1) := by decide +kernel
theorem dX5_isHeading_19 : decode cX5_isHeading 19 = .ok (.irem, 1) := by decide +kernel
theorem dX5_isHeading_20 : decode cX5_isHeading 20 = .ok (.ifCond .ne 7, 3) := by decide +kernel
theorem dX5_isHeading_23 : decode cX5_isHeading 23 = .ok (.iconst 1, 1) := by decide +kernel
theorem dX5_isHeading_24 : decode cX5_isHeading 24 = .ok (.goto 4, 3) := by decide +kernel
theorem dX5_isHeading_27 : decode cX5_isHeading 27 = .ok (.iconst 0, 1) := by decide +kernel
theorem dX5_isHeading_28 : decode cX5_isHeading 28 = .ok (.ireturn, 1) := by decide +kernel
set_option maxRecDepth 20000 in
theorem ggX5_moved_X5_xOf : GoodIn wsX5_moved wsX5_xOf := goodIn_r _ [7] (by decide +kernel) (by decide +kernel)
set_option maxRecDepth 20000 in
theorem gX5_moved_X5_xOf : GoodIn wsX5_moved (va_wsS RX5 83 yX5_xOf wsX5_xOf) := goodIn_app (goodIn_of _ (by decide +kernel)) ggX5_moved_X5_xOf
set_option maxRecDepth 20000 in
theorem ggX5_moved_X5_yOf : GoodIn wsX5_moved wsX5_yOf := goodIn_r _ [10] (by decide +kernel) (by decide +kernel)
set_option maxRecDepth 20000 in
theorem gX5_moved_X5_yOf : GoodIn wsX5_moved (va_wsS RX5 86 yX5_yOf wsX5_yOf) := goodIn_app (goodIn_of _ (by decide +kernel)) ggX5_moved_X5_yOf
set_option maxRecDepth 20000 in
theorem ggX5_moved_X5_dx : GoodIn wsX5_moved wsX5_dx := goodIn_r _ [13] (by decide +kernel) (by decide +kernel)
set_option maxRecDepth 20000 in
theorem gX5_moved_X5_dx : GoodIn wsX5_moved (va_wsS RX5 69 yX5_dx wsX5_dx) := goodIn_app (goodIn_of _ (by decide +kernel)) ggX5_moved_X5_dx
set_option maxRecDepth 20000 in
theorem ggX5_moved_X5_dy : GoodIn wsX5_moved wsX5_dy := goodIn_r _ [16] (by decide +kernel) (by decide +kernel)
set_option maxRecDepth 20000 in
theorem gX5_moved_X5_dy : GoodIn wsX5_moved (va_wsS RX5 73 yX5_dy wsX5_dy) := goodIn_app (goodIn_of _ (by decide +kernel)) ggX5_moved_X5_dy
set_option maxRecDepth 20000 in
theorem ggX5_moved_X5_isCell : GoodIn wsX5_moved wsX5_isCell := goodIn_r _ [20, 21, 22, 26, 27, 28, 29, 30, 31, 32, 33, 34, 35, 36, 37, 38, 39, 40, 41, 42, 43, 44, 45, 46, 47, 48, 49, 50, 51] (by decide +kernel) (by decide +kernel)
set_option maxRecDepth 20000 in
theorem gX5_moved_X5_isCell : GoodIn wsX5_moved (wsV RX5 61 RX5 yX5_isCell wsX5_isCell) := goodIn_app (goodIn_of _ (by decide +kernel)) ggX5_moved_X5_isCell
set_option maxRecDepth 20000 in
theorem ggX5_moved_X5_place : GoodIn wsX5_moved wsX5_place := goodIn_r _ [25] (by decide +kernel) (by decide +kernel)
set_option maxRecDepth 20000 in
theorem gX5_moved_X5_place : GoodIn wsX5_moved (va_wsS RX5 89 yX5_place wsX5_place) := goodIn_app (goodIn_of _ (by decide +kernel)) ggX5_moved_X5_place
theorem dX5_moved_0 : decode cX5_moved 0 = .ok (.aload_n 0, 1) := by decide +kernel
theorem dX5_moved_1 : decode cX5_moved 1 = .ok (.getfield 40, 3) := by decide +kernel
theorem dX5_moved_4 : decode cX5_moved 4 = .ok (.iload_n 1, 1) := by decide +kernel
theorem dX5_moved_5 : decode cX5_moved 5 = .ok (.baload, 1) := by decide +kernel
theorem dX5_moved_6 : decode cX5_moved 6 = .ok (.ifCond .ne 5, 3) := by decide +kernel
theorem dX5_moved_9 : decode cX5_moved 9 = .ok (.iconst (-1), 1) := by decide +kernel
theorem dX5_moved_10 : decode cX5_moved 10 = .ok (.ireturn, 1) := by decide +kernel
theorem dX5_moved_11 : decode cX5_moved 11 = .ok (.iload_n 1, 1) := by decide +kernel
theorem dX5_moved_12 : decode cX5_moved 12 = .ok (.invokestatic 83, 3) := by decide +kernel
theorem dX5_moved_15 : decode cX5_moved 15 = .ok (.istore_n 3, 1) := by decide +kernel
theorem dX5_moved_16 : decode cX5_moved 16 = .ok (.iload_n 1, 1) := by decide +kernel
theorem dX5_moved_17 : decode cX5_moved 17 = .ok (.invokestatic 86, 3) := by decide +kernel
theorem dX5_moved_20 : decode cX5_moved 20 = .ok (.istore 4, 2) := by decide +kernel
theorem dX5_moved_22 : decode cX5_moved 22 = .ok (.iload_n 1, 1) := by decide +kernel
theorem dX5_moved_23 : decode cX5_moved 23 = .ok (.bipush 8, 2) := by decide +kernel
theorem dX5_moved_25 : decode cX5_moved 25 = .ok (.irem, 1) := by decide +kernel
theorem dX5_moved_26 : decode cX5_moved 26 = .ok (.istore 5, 2) := by decide +kernel
theorem dX5_moved_28 : decode cX5_moved 28 = .ok (.iload_n 2, 1) := by decide +kernel
theorem dX5_moved_29 : decode cX5_moved 29 = .ok (.iconst 1, 1) := by decide +kernel
theorem dX5_moved_30 : decode cX5_moved 30 = .ok (.if_icmp .eq 8, 3) := by decide +kernel
theorem dX5_moved_33 : decode cX5_moved 33 = .ok (.iload_n 2, 1) := by decide +kernel
theorem dX5_moved_34 : decode cX5_moved 34 = .ok (.iconst 3, 1) := by decide +kernel
theorem dX5_moved_35 : decode cX5_moved 35 = .ok (.if_icmp .le 7, 3) := by decide +kernel
theorem dX5_moved_38 : decode cX5_moved 38 = .ok (.iconst (-1), 1) := by decide +kernel
theorem dX5_moved_39 : decode cX5_moved 39 = .ok (.goto 4, 3) := by decide +kernel
theorem dX5_moved_42 : decode cX5_moved 42 = .ok (.iconst 1, 1) := by decide +kernel
theorem dX5_moved_43 : decode cX5_moved 43 = .ok (.istore 6, 2) := by decide +kernel
theorem dX5_moved_45 : decode cX5_moved 45 = .ok (.iload_n 2, 1) := by decide +kernel
theorem dX5_moved_46 : decode cX5_moved 46 = .ok (.iconst 2, 1) := by decide +kernel
theorem dX5_moved_47 : decode cX5_moved 47 = .ok (.if_icmp .ge 7, 3) := by decide +kernel
theorem dX5_moved_50 : decode cX5_moved 50 = .ok (.iconst 1, 1) := by decide +kernel
theorem dX5_moved_51 : decode cX5_moved 51 = .ok (.goto 7, 3) := by decide +kernel
theorem dX5_moved_54 : decode cX5_moved 54 = .ok (.aload_n 0, 1) := by decide +kernel
theorem dX5_moved_55 : decode cX5_moved 55 = .ok (.getfield 20, 3) := by decide +kernel
theorem dX5_moved_58 : decode cX5_moved 58 = .ok (.istore 7, 2) := by decide +kernel
theorem dX5_moved_60 : decode cX5_moved 60 = .ok (.iconst 0, 1) := by decide +kernel
theorem dX5_moved_61 : decode cX5_moved 61 = .ok (.istore 8, 2) := by decide +kernel
theorem dX5_moved_63 : decode cX5_moved 63 = .ok (.iload 8, 2) := by decide +kernel
theorem dX5_moved_65 : decode cX5_moved 65 = .ok (.iload 7, 2) := by decide +kernel
theorem dX5_moved_67 : decode cX5_moved 67 = .ok (.if_icmp .ge 61, 3) := by decide +kernel
theorem dX5_moved_70 : decode cX5_moved 70 = .ok (.iload_n 3, 1) := by decide +kernel
theorem dX5_moved_71 : decode cX5_moved 71 = .ok (.iload 6, 2) := by decide +kernel
theorem dX5_moved_73 : decode cX5_moved 73 = .ok (.iload 5, 2) := by decide +kernel
theorem dX5_moved_75 : decode cX5_moved 75 = .ok (.invokestatic 69, 3) := by decide +kernel
theorem dX5_moved_78 : decode cX5_moved 78 = .ok (.imul, 1) := by decide +kernel
theorem dX5_moved_79 : decode cX5_moved 79 = .ok (.iadd, 1) := by decide +kernel
theorem dX5_moved_80 : decode cX5_moved 80 = .ok (.istore_n 3, 1) := by decide +kernel
theorem dX5_moved_81 : decode cX5_moved 81 = .ok (.iload 4, 2) := by decide +kernel
theorem dX5_moved_83 : decode cX5_moved 83 = .ok (.iload 6, 2) := by decide +kernel
theorem dX5_moved_85 : decode cX5_moved 85 = .ok (.iload 5, 2) := by decide +kernel
theorem dX5_moved_87 : decode cX5_moved 87 = .ok (.invokestatic 73, 3) := by decide +kernel
theorem dX5_moved_90 : decode cX5_moved 90 = .ok (.imul, 1) := by decide +kernel
theorem dX5_moved_91 : decode cX5_moved 91 = .ok (.iadd, 1) := by decide +kernel
theorem dX5_moved_92 : decode cX5_moved 92 = .ok (.istore 4, 2) := by decide +kernel
theorem dX5_moved_94 : decode cX5_moved 94 = .ok (.aload_n 0, 1) := by decide +kernel
theorem dX5_moved_95 : decode cX5_moved 95 = .ok (.iload_n 3, 1) := by decide +kernel
theorem dX5_moved_96 : decode cX5_moved 96 = .ok (.iload 4, 2) := by decide +kernel
theorem dX5_moved_98 : decode cX5_moved 98 = .ok (.invokevirtual 61, 3) := by decide +kernel
theorem dX5_moved_101 : decode cX5_moved 101 = .ok (.ifCond .eq 19, 3) := by decide +kernel
theorem dX5_moved_104 : decode cX5_moved 104 = .ok (.aload_n 0, 1) := by decide +kernel
theorem dX5_moved_105 : decode cX5_moved 105 = .ok (.getfield 40, 3) := by decide +kernel
theorem dX5_moved_108 : decode cX5_moved 108 = .ok (.iload_n 3, 1) := by decide +kernel
theorem dX5_moved_109 : decode cX5_moved 109 = .ok (.iload 4, 2) := by decide +kernel
theorem dX5_moved_111 : decode cX5_moved 111 = .ok (.iload 5, 2) := by decide +kernel
theorem dX5_moved_113 : decode cX5_moved 113 = .ok (.invokestatic 89, 3) := by decide +kernel
theorem dX5_moved_116 : decode cX5_moved 116 = .ok (.baload, 1) := by decide +kernel
theorem dX5_moved_117 : decode cX5_moved 117 = .ok (.ifCond .ne 5, 3) := by decide +kernel
theorem dX5_moved_120 : decode cX5_moved 120 = .ok (.iconst (-1), 1) := by decide +kernel
theorem dX5_moved_121 : decode cX5_moved 121 = .ok (.ireturn, 1) := by decide +kernel
theorem dX5_moved_122 : decode cX5_moved 122 = .ok (.iinc 8 1, 3) := by decide +kernel
theorem dX5_moved_125 : decode cX5_moved 125 = .ok (.goto (-62), 3) := by decide +kernel
theorem dX5_moved_128 : decode cX5_moved 128 = .ok (.iload_n 2, 1) := by decide +kernel
theorem dX5_moved_129 : decode cX5_moved 129 = .ok (.iconst 2, 1) := by decide +kernel
theorem dX5_moved_130 : decode cX5_moved 130 = .ok (.if_icmp .ge 12, 3) := by decide +kernel
theorem dX5_moved_133 : decode cX5_moved 133 = .ok (.iload_n 3, 1) := by decide +kernel
theorem dX5_moved_134 : decode cX5_moved 134 = .ok (.iload 4, 2) := by decide +kernel
theorem dX5_moved_136 : decode cX5_moved 136 = .ok (.iload 5, 2) := by decide +kernel
theorem dX5_moved_138 : decode cX5_moved 138 = .ok (.invokestatic 89, 3) := by decide +kernel
theorem dX5_moved_141 : decode cX5_moved 141 = .ok (.ireturn, 1) := by decide +kernel
theorem dX5_moved_142 : decode cX5_moved 142 = .ok (.aload_n 0, 1) := by decide +kernel
theorem dX5_moved_143 : decode cX5_moved 143 = .ok (.getfield 55, 3) := by decide +kernel
theorem dX5_moved_146 : decode cX5_moved 146 = .ok (.ifCond .eq 7, 3) := by decide +kernel
theorem dX5_moved_149 : decode cX5_moved 149 = .ok (.iconst 2, 1) := by decide +kernel
theorem dX5_moved_150 : decode cX5_moved 150 = .ok (.goto 4, 3) := by decide +kernel
theorem dX5_moved_153 : decode cX5_moved 153 = .ok (.iconst 1, 1) := by decide +kernel
theorem dX5_moved_154 : decode cX5_moved 154 = .ok (.istore 8, 2) := by decide +kernel
theorem dX5_moved_156 : decode cX5_moved 156 = .ok (.iload_n 2, 1) := by decide +kernel
theorem dX5_moved_157 : decode cX5_moved 157 = .ok (.iconst 2, 1) := by decide +kernel
theorem dX5_moved_158 : decode cX5_moved 158 = .ok (.irem, 1) := by decide +kernel
theorem dX5_moved_159 : decode cX5_moved 159 = .ok (.ifCond .ne 11, 3) := by decide +kernel
theorem dX5_moved_162 : decode cX5_moved 162 = .ok (.iload 5, 2) := by decide +kernel
theorem dX5_moved_164 : decode cX5_moved 164 = .ok (.iload 8, 2) := by decide +kernel
theorem dX5_moved_166 : decode cX5_moved 166 = .ok (.iadd, 1) := by decide +kernel
theorem dX5_moved_167 : decode cX5_moved 167 = .ok (.goto 11, 3) := by decide +kernel
theorem dX5_moved_170 : decode cX5_moved 170 = .ok (.iload 5, 2) := by decide +kernel
theorem dX5_moved_172 : decode cX5_moved 172 = .ok (.bipush 8, 2) := by decide +kernel
theorem dX5_moved_174 : decode cX5_moved 174 = .ok (.iadd, 1) := by decide +kernel
theorem dX5_moved_175 : decode cX5_moved 175 = .ok (.iload 8, 2) := by decide +kernel
theorem dX5_moved_177 : decode cX5_moved 177 = .ok (.isub, 1) := by decide +kernel
theorem dX5_moved_178 : decode cX5_moved 178 = .ok (.bipush 8, 2) := by decide +kernel
theorem dX5_moved_180 : decode cX5_moved 180 = .ok (.irem, 1) := by decide +kernel
theorem dX5_moved_181 : decode cX5_moved 181 = .ok (.istore 5, 2) := by decide +kernel
theorem dX5_moved_183 : decode cX5_moved 183 = .ok (.aload_n 0, 1) := by decide +kernel
theorem dX5_moved_184 : decode cX5_moved 184 = .ok (.getfield 40, 3) := by decide +kernel
theorem dX5_moved_187 : decode cX5_moved 187 = .ok (.iload_n 3, 1) := by decide +kernel
theorem dX5_moved_188 : decode cX5_moved 188 = .ok (.iload 4, 2) := by decide +kernel
theorem dX5_moved_190 : decode cX5_moved 190 = .ok (.iload 5, 2) := by decide +kernel
theorem dX5_moved_192 : decode cX5_moved 192 = .ok (.invokestatic 89, 3) := by decide +kernel
theorem dX5_moved_195 : decode cX5_moved 195 = .ok (.baload, 1) := by decide +kernel
theorem dX5_moved_196 : decode cX5_moved 196 = .ok (.ifCond .ne 5, 3) := by decide +kernel
theorem dX5_moved_199 : decode cX5_moved 199 = .ok (.iconst (-1), 1) := by decide +kernel
theorem dX5_moved_200 : decode cX5_moved 200 = .ok (.ireturn, 1) := by decide +kernel
theorem dX5_moved_201 : decode cX5_moved 201 = .ok (.iconst 0, 1) := by decide +kernel
theorem dX5_moved_202 : decode cX5_moved 202 = .ok (.istore 9, 2) := by decide +kernel
theorem dX5_moved_204 : decode cX5_moved 204 = .ok (.iload 9, 2) := by decide +kernel
theorem dX5_moved_206 : decode cX5_moved 206 = .ok (.iload 7, 2) := by decide +kernel
theorem dX5_moved_208 : decode cX5_moved 208 = .ok (.if_icmp .ge 61, 3) := by decide +kernel
theorem dX5_moved_211 : decode cX5_moved 211 = .ok (.iload_n 3, 1) := by decide +kernel
theorem dX5_moved_212 : decode cX5_moved 212 = .ok (.iload 6, 2) := by decide +kernel
theorem dX5_moved_214 : decode cX5_moved 214 = .ok (.iload 5, 2) := by decide +kernel
theorem dX5_moved_216 : decode cX5_moved 216 = .ok (.invokestatic 69, 3) := by decide +kernel
theorem dX5_moved_219 : decode cX5_moved 219 = .ok (.imul, 1) := by decide +kernel
theorem dX5_moved_220 : decode cX5_moved 220 = .ok (.iadd, 1) := by decide +kernel
theorem dX5_moved_221 : decode cX5_moved 221 = .ok (.istore_n 3, 1) := by decide +kernel
theorem dX5_moved_222 : decode cX5_moved 222 = .ok (.iload 4, 2) := by decide +kernel
theorem dX5_moved_224 : decode cX5_moved 224 = .ok (.iload 6, 2) := by decide +kernel
theorem dX5_moved_226 : decode cX5_moved 226 = .ok (.iload 5, 2) := by decide +kernel
theorem dX5_moved_228 : decode cX5_moved 228 = .ok (.invokestatic 73, 3) := by decide +kernel
theorem dX5_moved_231 : decode cX5_moved 231 = .ok (.imul, 1) := by decide +kernel
theorem dX5_moved_232 : decode cX5_moved 232 = .ok (.iadd, 1) := by decide +kernel
theorem dX5_moved_233 : decode cX5_moved 233 = .ok (.istore 4, 2) := by decide +kernel
theorem dX5_moved_235 : decode cX5_moved 235 = .ok (.aload_n 0, 1) := by decide +kernel
theorem dX5_moved_236 : decode cX5_moved 236 = .ok (.iload_n 3, 1) := by decide +kernel
theorem dX5_moved_237 : decode cX5_moved 237 = .ok (.iload 4, 2) := by decide +kernel
theorem dX5_moved_239 : decode cX5_moved 239 = .ok (.invokevirtual 61, 3) := by decide +kernel
theorem dX5_moved_242 : decode cX5_moved 242 = .ok (.ifCond .eq 19, 3) := by decide +kernel
theorem dX5_moved_245 : decode cX5_moved 245 = .ok (.aload_n 0, 1) := by decide +kernel
theorem dX5_moved_246 : decode cX5_moved 246 = .ok (.getfield 40, 3) := by decide +kernel
theorem dX5_moved_249 : decode cX5_moved 249 = .ok (.iload_n 3, 1) := by decide +kernel
theorem dX5_moved_250 : decode cX5_moved 250 = .ok (.iload 4, 2) := by decide +kernel
theorem dX5_moved_252 : decode cX5_moved 252 = .ok (.iload 5, 2) := by decide +kernel
theorem dX5_moved_254 : decode cX5_moved 254 = .ok (.invokestatic 89, 3) := by decide +kernel
theorem dX5_moved_257 : decode cX5_moved 257 = .ok (.baload, 1) := by decide +kernel
theorem dX5_moved_258 : decode cX5_moved 258 = .ok (.ifCond .ne 5, 3) := by decide +kernel
theorem dX5_moved_261 : decode cX5_moved 261 = .ok (.iconst (-1), 1) := by decide +kernel
theorem dX5_moved_262 : decode cX5_moved 262 = .ok (.ireturn, 1) := by decide +kernel
theorem dX5_moved_263 : decode cX5_moved 263 = .ok (.iinc 9 1, 3) := by decide +kernel
theorem dX5_moved_266 : decode cX5_moved 266 = .ok (.goto (-62), 3) := by decide +kernel
theorem dX5_moved_269 : decode cX5_moved 269 = .ok (.iload_n 3, 1) := by decide +kernel
theorem dX5_moved_270 : decode cX5_moved 270 = .ok (.iload 4, 2) := by decide +kernel
theorem dX5_moved_272 : decode cX5_moved 272 = .ok (.iload 5, 2) := by decide +kernel
theorem dX5_moved_274 : decode cX5_moved 274 = .ok (.invokestatic 89, 3) := by decide +kernel
theorem dX5_moved_277 : decode cX5_moved 277 = .ok (.ireturn, 1) := by decide +kernel
set_option maxRecDepth 20000 in
theorem ggX5_findFree_X5_findNear : GoodIn wsX5_findFree wsX5_findNear := goodIn_r _ [8, 1, 2, 9, 10, 11, 12, 7, 13, 14, 15, 16, 17, 18, 44, 45, 46, 47, 48, 49, 50, 51, 52, 53, 54, 55, 56, 57, 58, 59, 60, 61, 62, 63, 64, 65, 66, 67, 68, 69] (by decide +kernel) (by decide +kernel)
set_option maxRecDepth 20000 in
theorem gX5_findFree_X5_findNear : GoodIn wsX5_findFree (wsV RX5 92 RX5 yX5_findNear wsX5_findNear) := goodIn_app (goodIn_of _ (by decide +kernel)) ggX5_findFree_X5_findNear
set_option maxRecDepth 20000 in
theorem ggX5_findFree_X5_place : GoodIn wsX5_findFree wsX5_place := goodIn_r _ [21] (by decide +kernel) (by decide +kernel)
set_option maxRecDepth 20000 in
theorem gX5_findFree_X5_place : GoodIn wsX5_findFree (va_wsS RX5 89 yX5_place wsX5_place) := goodIn_app (goodIn_of _ (by decide +kernel)) ggX5_findFree_X5_place
set_option maxRecDepth 20000 in
theorem ggX5_findFree_X5_isHeading : GoodIn wsX5_findFree wsX5_isHeading := goodIn_r _ [25, 26, 44, 45, 46, 47, 48, 49, 50, 51, 52, 53, 54, 55, 56, 57, 58, 59, 60, 61, 62, 63, 64, 65, 66, 67, 68, 69] (by decide +kernel) (by decide +kernel)
set_option maxRecDepth 20000 in
theorem gX5_findFree_X5_isHeading : GoodIn wsX5_findFree (wsV RX5 95 RX5 yX5_isHeading wsX5_isHeading) := goodIn_app (goodIn_of _ (by decide +kernel)) ggX5_findFree_X5_isHeading
set_option maxRecDepth 20000 in
theorem ggX5_findFree_X5_isFree : GoodIn wsX5_findFree wsX5_isFree := goodIn_r _ [30, 31, 15, 16, 17, 7, 18, 2, 1, 32, 33, 34, 35, 36, 37, 9, 38, 39, 40, 41, 42, 43, 44, 45, 46, 47, 48, 49, 50, 51, 52, 53, 54, 55, 56, 57, 58, 59, 60, 61, 62, 63, 64, 65, 66, 67, 68, 69] (by decide +kernel) (by decide +kernel)
set_option maxRecDepth 20000 in
theorem gX5_findFree_X5_isFree : GoodIn wsX5_findFree (wsV RX5 99 RX5 yX5_isFree wsX5_isFree) := goodIn_app (goodIn_of _ (by decide +kernel)) ggX5_findFree_X5_isFree
theorem dX5_findFree_0 : decode cX5_findFree 0 = .ok (.aload_n 0, 1) := by decide +kernel
theorem dX5_findFree_1 : decode cX5_findFree 1 = .ok (.invokevirtual 92, 3) := by decide +kernel
theorem dX5_findFree_4 : decode cX5_findFree 4 = .ok (.iconst 0, 1) := by decide +kernel
theorem dX5_findFree_5 : decode cX5_findFree 5 = .ok (.istore_n 1, 1) := by decide +kernel
theorem dX5_findFree_6 : decode cX5_findFree 6 = .ok (.iload_n 1, 1) := by decide +kernel
theorem dX5_findFree_7 : decode cX5_findFree 7 = .ok (.aload_n 0, 1) := by decide +kernel
theorem dX5_findFree_8 : decode cX5_findFree 8 = .ok (.getfield 52, 3) := by decide +kernel
theorem dX5_findFree_11 : decode cX5_findFree 11 = .ok (.if_icmp .ge 73, 3) := by decide +kernel
theorem dX5_findFree_14 : decode cX5_findFree 14 = .ok (.iconst 0, 1) := by decide +kernel
theorem dX5_findFree_15 : decode cX5_findFree 15 = .ok (.istore_n 2, 1) := by decide +kernel
theorem dX5_findFree_16 : decode cX5_findFree 16 = .ok (.iload_n 2, 1) := by decide +kernel
theorem dX5_findFree_17 : decode cX5_findFree 17 = .ok (.aload_n 0, 1) := by decide +kernel
theorem dX5_findFree_18 : decode cX5_findFree 18 = .ok (.getfield 49, 3) := by decide +kernel
theorem dX5_findFree_21 : decode cX5_findFree 21 = .ok (.if_icmp .ge 57, 3) := by decide +kernel
theorem dX5_findFree_24 : decode cX5_findFree 24 = .ok (.iconst 0, 1) := by decide +kernel
theorem dX5_findFree_25 : decode cX5_findFree 25 = .ok (.istore_n 3, 1) := by decide +kernel
theorem dX5_findFree_26 : decode cX5_findFree 26 = .ok (.iload_n 3, 1) := by decide +kernel
theorem dX5_findFree_27 : decode cX5_findFree 27 = .ok (.bipush 8, 2) := by decide +kernel
theorem dX5_findFree_29 : decode cX5_findFree 29 = .ok (.if_icmp .ge 43, 3) := by decide +kernel
theorem dX5_findFree_32 : decode cX5_findFree 32 = .ok (.aload_n 0, 1) := by decide +kernel
theorem dX5_findFree_33 : decode cX5_findFree 33 = .ok (.getfield 40, 3) := by decide +kernel
theorem dX5_findFree_36 : decode cX5_findFree 36 = .ok (.iload_n 2, 1) := by decide +kernel
theorem dX5_findFree_37 : decode cX5_findFree 37 = .ok (.iload_n 1, 1) := by decide +kernel
theorem dX5_findFree_38 : decode cX5_findFree 38 = .ok (.iload_n 3, 1) := by decide +kernel
theorem dX5_findFree_39 : decode cX5_findFree 39 = .ok (.invokestatic 89, 3) := by decide +kernel
theorem dX5_findFree_42 : decode cX5_findFree 42 = .ok (.aload_n 0, 1) := by decide +kernel
theorem dX5_findFree_43 : decode cX5_findFree 43 = .ok (.iload_n 3, 1) := by decide +kernel
theorem dX5_findFree_44 : decode cX5_findFree 44 = .ok (.invokevirtual 95, 3) := by decide +kernel
theorem dX5_findFree_47 : decode cX5_findFree 47 = .ok (.ifCond .eq 17, 3) := by decide +kernel
theorem dX5_findFree_50 : decode cX5_findFree 50 = .ok (.aload_n 0, 1) := by decide +kernel
theorem dX5_findFree_51 : decode cX5_findFree 51 = .ok (.iload_n 2, 1) := by decide +kernel
theorem dX5_findFree_52 : decode cX5_findFree 52 = .ok (.iload_n 1, 1) := by decide +kernel
theorem dX5_findFree_53 : decode cX5_findFree 53 = .ok (.iload_n 3, 1) := by decide +kernel
theorem dX5_findFree_54 : decode cX5_findFree 54 = .ok (.invokevirtual 99, 3) := by decide +kernel
theorem dX5_findFree_57 : decode cX5_findFree 57 = .ok (.ifCond .eq 7, 3) := by decide +kernel
theorem dX5_findFree_60 : decode cX5_findFree 60 = .ok (.iconst 1, 1) := by decide +kernel
theorem dX5_findFree_61 : decode cX5_findFree 61 = .ok (.goto 4, 3) := by decide +kernel
theorem dX5_findFree_64 : decode cX5_findFree 64 = .ok (.iconst 0, 1) := by decide +kernel
theorem dX5_findFree_65 : decode cX5_findFree 65 = .ok (.bastore, 1) := by decide +kernel
theorem dX5_findFree_66 : decode cX5_findFree 66 = .ok (.iinc 3 1, 3) := by decide +kernel
theorem dX5_findFree_69 : decode cX5_findFree 69 = .ok (.goto (-43), 3) := by decide +kernel
theorem dX5_findFree_72 : decode cX5_findFree 72 = .ok (.iinc 2 1, 3) := by decide +kernel
theorem dX5_findFree_75 : decode cX5_findFree 75 = .ok (.goto (-59), 3) := by decide +kernel
theorem dX5_findFree_78 : decode cX5_findFree 78 = .ok (.iinc 1 1, 3) := by decide +kernel
theorem dX5_findFree_81 : decode cX5_findFree 81 = .ok (.goto (-75), 3) := by decide +kernel
theorem dX5_findFree_84 : decode cX5_findFree 84 = .ok (.return_, 1) := by decide +kernel
theorem dX5_more_0 : decode cX5_more 0 = .ok (.iload_n 1, 1) := by decide +kernel
theorem dX5_more_1 : decode cX5_more 1 = .ok (.iconst 2, 1) := by decide +kernel
theorem dX5_more_2 : decode cX5_more 2 = .ok (.if_icmp .ge 8, 3) := by decide +kernel
theorem dX5_more_5 : decode cX5_more 5 = .ok (.ldc 103, 2) := by decide +kernel
theorem dX5_more_7 : decode cX5_more 7 = .ok (.goto 12, 3) := by decide +kernel
theorem dX5_more_10 : decode cX5_more 10 = .ok (.ldc 104, 2) := by decide +kernel
theorem dX5_more_12 : decode cX5_more 12 = .ok (.aload_n 0, 1) := by decide +kernel
theorem dX5_more_13 : decode cX5_more 13 = .ok (.getfield 20, 3) := by decide +kernel
theorem dX5_more_16 : decode cX5_more 16 = .ok (.imul, 1) := by decide +kernel
theorem dX5_more_17 : decode cX5_more 17 = .ok (.iconst 1, 1) := by decide +kernel
theorem dX5_more_18 : decode cX5_more 18 = .ok (.iadd, 1) := by decide +kernel
theorem dX5_more_19 : decode cX5_more 19 = .ok (.ireturn, 1) := by decide +kernel
set_option maxRecDepth 20000 in
theorem ggX5_findCosts_X5_findFree : GoodIn wsX5_findCosts wsX5_findFree := goodIn_r _ [11, 12, 13, 3, 14, 15, 16, 10, 17, 18, 19, 20, 21, 22, 23, 24, 25, 26, 27, 28, 29, 30, 31, 32, 33, 34, 35, 36, 37, 38, 39, 40, 41, 42, 43, 44, 45, 46, 47, 48, 49, 50, 51, 52, 70, 71, 72, 73, 74, 75, 76, 77, 78, 79, 80, 81, 82, 83, 84, 85, 86, 87, 88, 89, 90, 91, 92, 93, 94, 95] (by decide +kernel) (by decide +kernel)
set_option maxRecDepth 20000 in
theorem gX5_findCosts_X5_findFree : GoodIn wsX5_findCosts (wsV RX5 105 RX5 yX5_findFree wsX5_findFree) := goodIn_app (goodIn_of _ (by decide +kernel)) ggX5_findCosts_X5_findFree
set_option maxRecDepth 20000 in
theorem ggX5_findCosts_X5_moved : GoodIn wsX5_findCosts wsX5_moved := goodIn_r _ [56, 3, 57, 35, 58, 59, 10, 60, 61, 62, 63, 47, 48, 49, 50, 51, 52, 24, 25, 26, 27, 13, 12, 28, 29, 30, 70, 71, 72, 73, 74, 75, 76, 77, 78, 79, 80, 81, 82, 83, 84, 85, 86, 87, 88, 89, 90, 91, 92, 93, 94, 95] (by decide +kernel) (by decide +kernel)
set_option maxRecDepth 20000 in
theorem gX5_findCosts_X5_moved : GoodIn wsX5_findCosts (wsV RX5 112 RX5 yX5_moved wsX5_moved) := goodIn_app (goodIn_of _ (by decide +kernel)) ggX5_findCosts_X5_moved
set_option maxRecDepth 20000 in
theorem ggX5_findCosts_X5_more : GoodIn wsX5_findCosts wsX5_more := goodIn_r _ [67, 68, 69, 57, 70, 71, 72, 73, 74, 75, 76, 77, 78, 79, 80, 81, 82, 83, 84, 85, 86, 87, 88, 89, 90, 91, 92, 93, 94, 95] (by decide +kernel) (by decide +kernel)
set_option maxRecDepth 20000 in
theorem gX5_findCosts_X5_more : GoodIn wsX5_findCosts (wsV RX5 115 RX5 yX5_more wsX5_more) := goodIn_app (goodIn_of _ (by decide +kernel)) ggX5_findCosts_X5_more
theorem dX5_findCosts_0 : decode cX5_findCosts 0 = .ok (.aload_n 0, 1) := by decide +kernel
theorem dX5_findCosts_1 : decode cX5_findCosts 1 = .ok (.invokevirtual 105, 3) := by decide +kernel
theorem dX5_findCosts_4 : decode cX5_findCosts 4 = .ok (.iconst 0, 1) := by decide +kernel
theorem dX5_findCosts_5 : decode cX5_findCosts 5 = .ok (.istore_n 1, 1) := by decide +kernel
theorem dX5_findCosts_6 : decode cX5_findCosts 6 = .ok (.iload_n 1, 1) := by decide +kernel
theorem dX5_findCosts_7 : decode cX5_findCosts 7 = .ok (.sipush 4608, 3) := by decide +kernel
theorem dX5_findCosts_10 : decode cX5_findCosts 10 = .ok (.if_icmp .ge 17, 3) := by decide +kernel
theorem dX5_findCosts_13 : decode cX5_findCosts 13 = .ok (.aload_n 0, 1) := by decide +kernel
theorem dX5_findCosts_14 : decode cX5_findCosts 14 = .ok (.getfield 34, 3) := by decide +kernel
theorem dX5_findCosts_17 : decode cX5_findCosts 17 = .ok (.iload_n 1, 1) := by decide +kernel
theorem dX5_findCosts_18 : decode cX5_findCosts 18 = .ok (.ldc 108, 2) := by decide +kernel
theorem dX5_findCosts_20 : decode cX5_findCosts 20 = .ok (.iastore, 1) := by decide +kernel
theorem dX5_findCosts_21 : decode cX5_findCosts 21 = .ok (.iinc 1 1, 3) := by decide +kernel
theorem dX5_findCosts_24 : decode cX5_findCosts 24 = .ok (.goto (-18), 3) := by decide +kernel
theorem dX5_findCosts_27 : decode cX5_findCosts 27 = .ok (.aload_n 0, 1) := by decide +kernel
theorem dX5_findCosts_28 : decode cX5_findCosts 28 = .ok (.getfield 40, 3) := by decide +kernel
theorem dX5_findCosts_31 : decode cX5_findCosts 31 = .ok (.aload_n 0, 1) := by decide +kernel
theorem dX5_findCosts_32 : decode cX5_findCosts 32 = .ok (.getfield 109, 3) := by decide +kernel
theorem dX5_findCosts_35 : decode cX5_findCosts 35 = .ok (.baload, 1) := by decide +kernel
theorem dX5_findCosts_36 : decode cX5_findCosts 36 = .ok (.ifCond .ne 4, 3) := by decide +kernel
theorem dX5_findCosts_39 : decode cX5_findCosts 39 = .ok (.return_, 1) := by decide +kernel
theorem dX5_findCosts_40 : decode cX5_findCosts 40 = .ok (.aload_n 0, 1) := by decide +kernel
theorem dX5_findCosts_41 : decode cX5_findCosts 41 = .ok (.getfield 34, 3) := by decide +kernel
theorem dX5_findCosts_44 : decode cX5_findCosts 44 = .ok (.aload_n 0, 1) := by decide +kernel
theorem dX5_findCosts_45 : decode cX5_findCosts 45 = .ok (.getfield 109, 3) := by decide +kernel
theorem dX5_findCosts_48 : decode cX5_findCosts 48 = .ok (.iconst 0, 1) := by decide +kernel
theorem dX5_findCosts_49 : decode cX5_findCosts 49 = .ok (.iastore, 1) := by decide +kernel
theorem dX5_findCosts_50 : decode cX5_findCosts 50 = .ok (.aload_n 0, 1) := by decide +kernel
theorem dX5_findCosts_51 : decode cX5_findCosts 51 = .ok (.getfield 37, 3) := by decide +kernel
theorem dX5_findCosts_54 : decode cX5_findCosts 54 = .ok (.aload_n 0, 1) := by decide +kernel
theorem dX5_findCosts_55 : decode cX5_findCosts 55 = .ok (.getfield 109, 3) := by decide +kernel
theorem dX5_findCosts_58 : decode cX5_findCosts 58 = .ok (.iconst 0, 1) := by decide +kernel
theorem dX5_findCosts_59 : decode cX5_findCosts 59 = .ok (.iastore, 1) := by decide +kernel
theorem dX5_findCosts_60 : decode cX5_findCosts 60 = .ok (.iconst 1, 1) := by decide +kernel
theorem dX5_findCosts_61 : decode cX5_findCosts 61 = .ok (.istore_n 1, 1) := by decide +kernel
theorem dX5_findCosts_62 : decode cX5_findCosts 62 = .ok (.aload_n 0, 1) := by decide +kernel
theorem dX5_findCosts_63 : decode cX5_findCosts 63 = .ok (.getfield 43, 3) := by decide +kernel
theorem dX5_findCosts_66 : decode cX5_findCosts 66 = .ok (.iconst 0, 1) := by decide +kernel
theorem dX5_findCosts_67 : decode cX5_findCosts 67 = .ok (.aload_n 0, 1) := by decide +kernel
theorem dX5_findCosts_68 : decode cX5_findCosts 68 = .ok (.getfield 109, 3) := by decide +kernel
theorem dX5_findCosts_71 : decode cX5_findCosts 71 = .ok (.iastore, 1) := by decide +kernel
theorem dX5_findCosts_72 : decode cX5_findCosts 72 = .ok (.iconst 0, 1) := by decide +kernel
theorem dX5_findCosts_73 : decode cX5_findCosts 73 = .ok (.istore_n 2, 1) := by decide +kernel
theorem dX5_findCosts_74 : decode cX5_findCosts 74 = .ok (.iload_n 2, 1) := by decide +kernel
theorem dX5_findCosts_75 : decode cX5_findCosts 75 = .ok (.iload_n 1, 1) := by decide +kernel
theorem dX5_findCosts_76 : decode cX5_findCosts 76 = .ok (.if_icmp .ge 174, 3) := by decide +kernel
theorem dX5_findCosts_79 : decode cX5_findCosts 79 = .ok (.aload_n 0, 1) := by decide +kernel
theorem dX5_findCosts_80 : decode cX5_findCosts 80 = .ok (.getfield 43, 3) := by decide +kernel
theorem dX5_findCosts_83 : decode cX5_findCosts 83 = .ok (.iload_n 2, 1) := by decide +kernel
theorem dX5_findCosts_84 : decode cX5_findCosts 84 = .ok (.iaload, 1) := by decide +kernel
theorem dX5_findCosts_85 : decode cX5_findCosts 85 = .ok (.istore_n 3, 1) := by decide +kernel
theorem dX5_findCosts_86 : decode cX5_findCosts 86 = .ok (.iconst 0, 1) := by decide +kernel
theorem dX5_findCosts_87 : decode cX5_findCosts 87 = .ok (.istore 4, 2) := by decide +kernel
theorem dX5_findCosts_89 : decode cX5_findCosts 89 = .ok (.iload 4, 2) := by decide +kernel
theorem dX5_findCosts_91 : decode cX5_findCosts 91 = .ok (.bipush 6, 2) := by decide +kernel
theorem dX5_findCosts_93 : decode cX5_findCosts 93 = .ok (.if_icmp .ge 151, 3) := by decide +kernel
theorem dX5_findCosts_96 : decode cX5_findCosts 96 = .ok (.aload_n 0, 1) := by decide +kernel
theorem dX5_findCosts_97 : decode cX5_findCosts 97 = .ok (.iload_n 3, 1) := by decide +kernel
theorem dX5_findCosts_98 : decode cX5_findCosts 98 = .ok (.iload 4, 2) := by decide +kernel
theorem dX5_findCosts_100 : decode cX5_findCosts 100 = .ok (.iconst 2, 1) := by decide +kernel
theorem dX5_findCosts_101 : decode cX5_findCosts 101 = .ok (.if_icmp .ge 10, 3) := by decide +kernel
theorem dX5_findCosts_104 : decode cX5_findCosts 104 = .ok (.iconst 1, 1) := by decide +kernel
theorem dX5_findCosts_105 : decode cX5_findCosts 105 = .ok (.iload 4, 2) := by decide +kernel
theorem dX5_findCosts_107 : decode cX5_findCosts 107 = .ok (.isub, 1) := by decide +kernel
theorem dX5_findCosts_108 : decode cX5_findCosts 108 = .ok (.goto 8, 3) := by decide +kernel
theorem dX5_findCosts_111 : decode cX5_findCosts 111 = .ok (.bipush 7, 2) := by decide +kernel
theorem dX5_findCosts_113 : decode cX5_findCosts 113 = .ok (.iload 4, 2) := by decide +kernel
theorem dX5_findCosts_115 : decode cX5_findCosts 115 = .ok (.isub, 1) := by decide +kernel
theorem dX5_findCosts_116 : decode cX5_findCosts 116 = .ok (.invokevirtual 112, 3) := by decide +kernel
theorem dX5_findCosts_119 : decode cX5_findCosts 119 = .ok (.istore 5, 2) := by decide +kernel
theorem dX5_findCosts_121 : decode cX5_findCosts 121 = .ok (.iload 5, 2) := by decide +kernel
theorem dX5_findCosts_123 : decode cX5_findCosts 123 = .ok (.ifCond .lt 115, 3) := by decide +kernel
theorem dX5_findCosts_126 : decode cX5_findCosts 126 = .ok (.aload_n 0, 1) := by decide +kernel
theorem dX5_findCosts_127 : decode cX5_findCosts 127 = .ok (.getfield 34, 3) := by decide +kernel
theorem dX5_findCosts_130 : decode cX5_findCosts 130 = .ok (.iload 5, 2) := by decide +kernel
theorem dX5_findCosts_132 : decode cX5_findCosts 132 = .ok (.iaload, 1) := by decide +kernel
theorem dX5_findCosts_133 : decode cX5_findCosts 133 = .ok (.aload_n 0, 1) := by decide +kernel
theorem dX5_findCosts_134 : decode cX5_findCosts 134 = .ok (.getfield 34, 3) := by decide +kernel
theorem dX5_findCosts_137 : decode cX5_findCosts 137 = .ok (.iload_n 3, 1) := by decide +kernel
theorem dX5_findCosts_138 : decode cX5_findCosts 138 = .ok (.iaload, 1) := by decide +kernel
theorem dX5_findCosts_139 : decode cX5_findCosts 139 = .ok (.if_icmp .gt 6, 3) := by decide +kernel
theorem dX5_findCosts_142 : decode cX5_findCosts 142 = .ok (.goto 96, 3) := by decide +kernel
theorem dX5_findCosts_145 : decode cX5_findCosts 145 = .ok (.aload_n 0, 1) := by decide +kernel
theorem dX5_findCosts_146 : decode cX5_findCosts 146 = .ok (.getfield 37, 3) := by decide +kernel
theorem dX5_findCosts_149 : decode cX5_findCosts 149 = .ok (.iload_n 3, 1) := by decide +kernel
theorem dX5_findCosts_150 : decode cX5_findCosts 150 = .ok (.iaload, 1) := by decide +kernel
theorem dX5_findCosts_151 : decode cX5_findCosts 151 = .ok (.aload_n 0, 1) := by decide +kernel
theorem dX5_findCosts_152 : decode cX5_findCosts 152 = .ok (.iload 4, 2) := by decide +kernel
theorem dX5_findCosts_154 : decode cX5_findCosts 154 = .ok (.invokevirtual 115, 3) := by decide +kernel
theorem dX5_findCosts_157 : decode cX5_findCosts 157 = .ok (.iadd, 1) := by decide +kernel
theorem dX5_findCosts_158 : decode cX5_findCosts 158 = .ok (.istore 6, 2) := by decide +kernel
theorem dX5_findCosts_160 : decode cX5_findCosts 160 = .ok (.aload_n 0, 1) := by decide +kernel
theorem dX5_findCosts_161 : decode cX5_findCosts 161 = .ok (.getfield 34, 3) := by decide +kernel
theorem dX5_findCosts_164 : decode cX5_findCosts 164 = .ok (.iload 5, 2) := by decide +kernel
theorem dX5_findCosts_166 : decode cX5_findCosts 166 = .ok (.iaload, 1) := by decide +kernel
theorem dX5_findCosts_167 : decode cX5_findCosts 167 = .ok (.ldc 108, 2) := by decide +kernel
theorem dX5_findCosts_169 : decode cX5_findCosts 169 = .ok (.if_icmp .ne 23, 3) := by decide +kernel
theorem dX5_findCosts_172 : decode cX5_findCosts 172 = .ok (.aload_n 0, 1) := by decide +kernel
theorem dX5_findCosts_173 : decode cX5_findCosts 173 = .ok (.getfield 43, 3) := by decide +kernel
theorem dX5_findCosts_176 : decode cX5_findCosts 176 = .ok (.iload_n 1, 1) := by decide +kernel
theorem dX5_findCosts_177 : decode cX5_findCosts 177 = .ok (.iload 5, 2) := by decide +kernel
theorem dX5_findCosts_179 : decode cX5_findCosts 179 = .ok (.iastore, 1) := by decide +kernel
theorem dX5_findCosts_180 : decode cX5_findCosts 180 = .ok (.iinc 1 1, 3) := by decide +kernel
theorem dX5_findCosts_183 : decode cX5_findCosts 183 = .ok (.aload_n 0, 1) := by decide +kernel
theorem dX5_findCosts_184 : decode cX5_findCosts 184 = .ok (.getfield 37, 3) := by decide +kernel
theorem dX5_findCosts_187 : decode cX5_findCosts 187 = .ok (.iload 5, 2) := by decide +kernel
theorem dX5_findCosts_189 : decode cX5_findCosts 189 = .ok (.iload 6, 2) := by decide +kernel
theorem dX5_findCosts_191 : decode cX5_findCosts 191 = .ok (.iastore, 1) := by decide +kernel
theorem dX5_findCosts_192 : decode cX5_findCosts 192 = .ok (.aload_n 0, 1) := by decide +kernel
theorem dX5_findCosts_193 : decode cX5_findCosts 193 = .ok (.getfield 34, 3) := by decide +kernel
theorem dX5_findCosts_196 : decode cX5_findCosts 196 = .ok (.iload 5, 2) := by decide +kernel
theorem dX5_findCosts_198 : decode cX5_findCosts 198 = .ok (.aload_n 0, 1) := by decide +kernel
theorem dX5_findCosts_199 : decode cX5_findCosts 199 = .ok (.getfield 34, 3) := by decide +kernel
theorem dX5_findCosts_202 : decode cX5_findCosts 202 = .ok (.iload_n 3, 1) := by decide +kernel
theorem dX5_findCosts_203 : decode cX5_findCosts 203 = .ok (.iaload, 1) := by decide +kernel
theorem dX5_findCosts_204 : decode cX5_findCosts 204 = .ok (.iconst 1, 1) := by decide +kernel
theorem dX5_findCosts_205 : decode cX5_findCosts 205 = .ok (.iadd, 1) := by decide +kernel
theorem dX5_findCosts_206 : decode cX5_findCosts 206 = .ok (.iastore, 1) := by decide +kernel
theorem dX5_findCosts_207 : decode cX5_findCosts 207 = .ok (.aload_n 0, 1) := by decide +kernel
theorem dX5_findCosts_208 : decode cX5_findCosts 208 = .ok (.getfield 37, 3) := by decide +kernel
theorem dX5_findCosts_211 : decode cX5_findCosts 211 = .ok (.iload 5, 2) := by decide +kernel
theorem dX5_findCosts_213 : decode cX5_findCosts 213 = .ok (.iload 6, 2) := by decide +kernel
theorem dX5_findCosts_215 : decode cX5_findCosts 215 = .ok (.aload_n 0, 1) := by decide +kernel
theorem dX5_findCosts_216 : decode cX5_findCosts 216 = .ok (.getfield 37, 3) := by decide +kernel
theorem dX5_findCosts_219 : decode cX5_findCosts 219 = .ok (.iload 5, 2) := by decide +kernel
theorem dX5_findCosts_221 : decode cX5_findCosts 221 = .ok (.iaload, 1) := by decide +kernel
theorem dX5_findCosts_222 : decode cX5_findCosts 222 = .ok (.if_icmp .ge 8, 3) := by decide +kernel
theorem dX5_findCosts_225 : decode cX5_findCosts 225 = .ok (.iload 6, 2) := by decide +kernel
theorem dX5_findCosts_227 : decode cX5_findCosts 227 = .ok (.goto 10, 3) := by decide +kernel
theorem dX5_findCosts_230 : decode cX5_findCosts 230 = .ok (.aload_n 0, 1) := by decide +kernel
theorem dX5_findCosts_231 : decode cX5_findCosts 231 = .ok (.getfield 37, 3) := by decide +kernel
theorem dX5_findCosts_234 : decode cX5_findCosts 234 = .ok (.iload 5, 2) := by decide +kernel
theorem dX5_findCosts_236 : decode cX5_findCosts 236 = .ok (.iaload, 1) := by decide +kernel
theorem dX5_findCosts_237 : decode cX5_findCosts 237 = .ok (.iastore, 1) := by decide +kernel
theorem dX5_findCosts_238 : decode cX5_findCosts 238 = .ok (.iinc 4 1, 3) := by decide +kernel
theorem dX5_findCosts_241 : decode cX5_findCosts 241 = .ok (.goto (-152), 3) := by decide +kernel
theorem dX5_findCosts_244 : decode cX5_findCosts 244 = .ok (.iinc 2 1, 3) := by decide +kernel
theorem dX5_findCosts_247 : decode cX5_findCosts 247 = .ok (.goto (-173), 3) := by decide +kernel
theorem dX5_findCosts_250 : decode cX5_findCosts 250 = .ok (.return_, 1) := by decide +kernel
theorem dX5_before_0 : decode cX5_before 0 = .ok (.iconst 0, 1) := by decide +kernel
theorem dX5_before_1 : decode cX5_before 1 = .ok (.istore_n 2, 1) := by decide +kernel
theorem dX5_before_2 : decode cX5_before 2 = .ok (.iconst 0, 1) := by decide +kernel
theorem dX5_before_3 : decode cX5_before 3 = .ok (.istore_n 3, 1) := by decide +kernel
theorem dX5_before_4 : decode cX5_before 4 = .ok (.iload_n 3, 1) := by decide +kernel
theorem dX5_before_5 : decode cX5_before 5 = .ok (.sipush 4608, 3) := by decide +kernel
theorem dX5_before_8 : decode cX5_before 8 = .ok (.if_icmp .ge 113, 3) := by decide +kernel
theorem dX5_before_11 : decode cX5_before 11 = .ok (.aload_n 0, 1) := by decide +kernel
theorem dX5_before_12 : decode cX5_before 12 = .ok (.getfield 34, 3) := by decide +kernel
theorem dX5_before_15 : decode cX5_before 15 = .ok (.iload_n 3, 1) := by decide +kernel
theorem dX5_before_16 : decode cX5_before 16 = .ok (.iaload, 1) := by decide +kernel
theorem dX5_before_17 : decode cX5_before 17 = .ok (.ldc 108, 2) := by decide +kernel
theorem dX5_before_19 : decode cX5_before 19 = .ok (.if_icmp .eq 96, 3) := by decide +kernel
theorem dX5_before_22 : decode cX5_before 22 = .ok (.iload_n 3, 1) := by decide +kernel
theorem dX5_before_23 : decode cX5_before 23 = .ok (.iload_n 1, 1) := by decide +kernel
theorem dX5_before_24 : decode cX5_before 24 = .ok (.if_icmp .ne 6, 3) := by decide +kernel
theorem dX5_before_27 : decode cX5_before 27 = .ok (.goto 88, 3) := by decide +kernel
theorem dX5_before_30 : decode cX5_before 30 = .ok (.aload_n 0, 1) := by decide +kernel
theorem dX5_before_31 : decode cX5_before 31 = .ok (.getfield 34, 3) := by decide +kernel
theorem dX5_before_34 : decode cX5_before 34 = .ok (.iload_n 3, 1) := by decide +kernel
theorem dX5_before_35 : decode cX5_before 35 = .ok (.iaload, 1) := by decide +kernel
theorem dX5_before_36 : decode cX5_before 36 = .ok (.aload_n 0, 1) := by decide +kernel
theorem dX5_before_37 : decode cX5_before 37 = .ok (.getfield 34, 3) := by decide +kernel
theorem dX5_before_40 : decode cX5_before 40 = .ok (.iload_n 1, 1) := by decide +kernel
theorem dX5_before_41 : decode cX5_before 41 = .ok (.iaload, 1) := by decide +kernel
theorem dX5_before_42 : decode cX5_before 42 = .ok (.if_icmp .lt 53, 3) := by decide +kernel
theorem dX5_before_45 : decode cX5_before 45 = .ok (.aload_n 0, 1) := by decide +kernel
theorem dX5_before_46 : decode cX5_before 46 = .ok (.getfield 34, 3) := by decide +kernel
theorem dX5_before_49 : decode cX5_before 49 = .ok (.iload_n 3, 1) := by decide +kernel
theorem dX5_before_50 : decode cX5_before 50 = .ok (.iaload, 1) := by decide +kernel
theorem dX5_before_51 : decode cX5_before 51 = .ok (.aload_n 0, 1) := by decide +kernel
theorem dX5_before_52 : decode cX5_before 52 = .ok (.getfield 34, 3) := by decide +kernel
theorem dX5_before_55 : decode cX5_before 55 = .ok (.iload_n 1, 1) := by decide +kernel
theorem dX5_before_56 : decode cX5_before 56 = .ok (.iaload, 1) := by decide +kernel
theorem dX5_before_57 : decode cX5_before 57 = .ok (.if_icmp .ne 42, 3) := by decide +kernel
theorem dX5_before_60 : decode cX5_before 60 = .ok (.aload_n 0, 1) := by decide +kernel
theorem dX5_before_61 : decode cX5_before 61 = .ok (.getfield 37, 3) := by decide +kernel
theorem dX5_before_64 : decode cX5_before 64 = .ok (.iload_n 3, 1) := by decide +kernel
theorem dX5_before_65 : decode cX5_before 65 = .ok (.iaload, 1) := by decide +kernel
theorem dX5_before_66 : decode cX5_before 66 = .ok (.aload_n 0, 1) := by decide +kernel
theorem dX5_before_67 : decode cX5_before 67 = .ok (.getfield 37, 3) := by decide +kernel
theorem dX5_before_70 : decode cX5_before 70 = .ok (.iload_n 1, 1) := by decide +kernel
theorem dX5_before_71 : decode cX5_before 71 = .ok (.iaload, 1) := by decide +kernel
theorem dX5_before_72 : decode cX5_before 72 = .ok (.if_icmp .lt 23, 3) := by decide +kernel
theorem dX5_before_75 : decode cX5_before 75 = .ok (.aload_n 0, 1) := by decide +kernel
theorem dX5_before_76 : decode cX5_before 76 = .ok (.getfield 37, 3) := by decide +kernel
theorem dX5_before_79 : decode cX5_before 79 = .ok (.iload_n 3, 1) := by decide +kernel
theorem dX5_before_80 : decode cX5_before 80 = .ok (.iaload, 1) := by decide +kernel
theorem dX5_before_81 : decode cX5_before 81 = .ok (.aload_n 0, 1) := by decide +kernel
theorem dX5_before_82 : decode cX5_before 82 = .ok (.getfield 37, 3) := by decide +kernel
theorem dX5_before_85 : decode cX5_before 85 = .ok (.iload_n 1, 1) := by decide +kernel
theorem dX5_before_86 : decode cX5_before 86 = .ok (.iaload, 1) := by decide +kernel
theorem dX5_before_87 : decode cX5_before 87 = .ok (.if_icmp .ne 12, 3) := by decide +kernel
theorem dX5_before_90 : decode cX5_before 90 = .ok (.iload_n 3, 1) := by decide +kernel
theorem dX5_before_91 : decode cX5_before 91 = .ok (.iload_n 1, 1) := by decide +kernel
theorem dX5_before_92 : decode cX5_before 92 = .ok (.if_icmp .ge 7, 3) := by decide +kernel
theorem dX5_before_95 : decode cX5_before 95 = .ok (.iconst 1, 1) := by decide +kernel
theorem dX5_before_96 : decode cX5_before 96 = .ok (.goto 4, 3) := by decide +kernel
theorem dX5_before_99 : decode cX5_before 99 = .ok (.iconst 0, 1) := by decide +kernel
theorem dX5_before_100 : decode cX5_before 100 = .ok (.istore 4, 2) := by decide +kernel
theorem dX5_before_102 : decode cX5_before 102 = .ok (.iload 4, 2) := by decide +kernel
theorem dX5_before_104 : decode cX5_before 104 = .ok (.ifCond .eq 9, 3) := by decide +kernel
theorem dX5_before_107 : decode cX5_before 107 = .ok (.iload_n 2, 1) := by decide +kernel
theorem dX5_before_108 : decode cX5_before 108 = .ok (.iconst 1, 1) := by decide +kernel
theorem dX5_before_109 : decode cX5_before 109 = .ok (.iadd, 1) := by decide +kernel
theorem dX5_before_110 : decode cX5_before 110 = .ok (.goto 4, 3) := by decide +kernel
theorem dX5_before_113 : decode cX5_before 113 = .ok (.iload_n 2, 1) := by decide +kernel
theorem dX5_before_114 : decode cX5_before 114 = .ok (.istore_n 2, 1) := by decide +kernel
theorem dX5_before_115 : decode cX5_before 115 = .ok (.iinc 3 1, 3) := by decide +kernel
theorem dX5_before_118 : decode cX5_before 118 = .ok (.goto (-114), 3) := by decide +kernel
theorem dX5_before_121 : decode cX5_before 121 = .ok (.iload_n 2, 1) := by decide +kernel
theorem dX5_before_122 : decode cX5_before 122 = .ok (.ireturn, 1) := by decide +kernel
set_option maxRecDepth 20000 in
theorem ggX5_search_X5_findCosts : GoodIn wsX5_search wsX5_findCosts := goodIn_r _ [16, 4, 5, 17, 9, 18, 19, 20, 21, 22, 15, 23, 24, 25, 26, 27, 28, 29, 30, 31, 32, 33, 34, 35, 36, 37, 38, 39, 40, 41, 42, 43, 44, 45, 46, 47, 48, 49, 50, 51, 52, 53, 54, 55, 56, 57, 58, 59, 60, 61, 62, 63, 64, 65, 66, 67, 68, 69, 70, 71, 72, 73, 74, 75, 76, 77, 78, 79, 80, 81, 90, 91, 92, 93, 94, 95, 96, 97, 98, 99, 100, 101, 102, 103, 104, 105, 106, 107, 108, 109, 110, 111, 112, 113, 114, 115] (by decide +kernel) (by decide +kernel)
set_option maxRecDepth 20000 in
theorem gX5_search_X5_findCosts : GoodIn wsX5_search (wsV RX5 125 RX5 yX5_findCosts wsX5_findCosts) := goodIn_app (goodIn_of _ (by decide +kernel)) ggX5_search_X5_findCosts
set_option maxRecDepth 20000 in
theorem ggX5_search_X5_before : GoodIn wsX5_search wsX5_before := goodIn_r _ [85, 4, 5, 18, 90, 91, 92, 93, 94, 95, 96, 97, 98, 99, 100, 101, 102, 103, 104, 105, 106, 107, 108, 109, 110, 111, 112, 113, 114, 115] (by decide +kernel) (by decide +kernel)
set_option maxRecDepth 20000 in
theorem gX5_search_X5_before : GoodIn wsX5_search (wsV RX5 131 RX5 yX5_before wsX5_before) := goodIn_app (goodIn_of _ (by decide +kernel)) ggX5_search_X5_before
set_option maxRecDepth 20000 in
theorem ggX5_search_X5_leads : GoodIn wsX5_search wsX5_leads := goodIn_r _ [89, 4, 18, 65, 66, 67, 15, 68, 17, 69, 47, 70, 71, 72, 73, 74, 75, 59, 60, 61, 62, 63, 64, 36, 37, 38, 39, 25, 24, 40, 41, 42, 76, 77, 78, 79, 80, 81, 90, 91, 92, 93, 94, 95, 96, 97, 98, 99, 100, 101, 102, 103, 104, 105, 106, 107, 108, 109, 110, 111, 112, 113, 114, 115] (by decide +kernel) (by decide +kernel)
set_option maxRecDepth 20000 in
theorem gX5_search_X5_leads : GoodIn wsX5_search (wsV RX5 143 RX5 yX5_leads wsX5_leads) := goodIn_app (goodIn_of _ (by decide +kernel)) ggX5_search_X5_leads
set_option maxRecDepth 20000 in
theorem ggX5_search_X5_moved : GoodIn wsX5_search wsX5_moved := goodIn_r _ [68, 17, 69, 47, 70, 71, 15, 72, 73, 74, 75, 59, 60, 61, 62, 63, 64, 36, 37, 38, 39, 25, 24, 40, 41, 42, 90, 91, 92, 93, 94, 95, 96, 97, 98, 99, 100, 101, 102, 103, 104, 105, 106, 107, 108, 109, 110, 111, 112, 113, 114, 115] (by decide +kernel) (by decide +kernel)
set_option maxRecDepth 20000 in
theorem gX5_search_X5_moved : GoodIn wsX5_search (wsV RX5 112 RX5 yX5_moved wsX5_moved) := goodIn_app (goodIn_of _ (by decide +kernel)) ggX5_search_X5_moved
theorem dX5_search_0 : decode cX5_search 0 = .ok (.aload_n 0, 1) := by decide +kernel
theorem dX5_search_1 : decode cX5_search 1 = .ok (.iconst 0, 1) := by decide +kernel
theorem dX5_search_2 : decode cX5_search 2 = .ok (.putfield 118, 3) := by decide +kernel
theorem dX5_search_5 : decode cX5_search 5 = .ok (.aload_n 0, 1) := by decide +kernel
theorem dX5_search_6 : decode cX5_search 6 = .ok (.lload_n 1, 1) := by decide +kernel
theorem dX5_search_7 : decode cX5_search 7 = .ok (.putfield 121, 3) := by decide +kernel
theorem dX5_search_10 : decode cX5_search 10 = .ok (.aload_n 0, 1) := by decide +kernel
theorem dX5_search_11 : decode cX5_search 11 = .ok (.invokevirtual 125, 3) := by decide +kernel
theorem dX5_search_14 : decode cX5_search 14 = .ok (.aload_n 0, 1) := by decide +kernel
theorem dX5_search_15 : decode cX5_search 15 = .ok (.aload_n 0, 1) := by decide +kernel
theorem dX5_search_16 : decode cX5_search 16 = .ok (.getfield 128, 3) := by decide +kernel
theorem dX5_search_19 : decode cX5_search 19 = .ok (.invokevirtual 131, 3) := by decide +kernel
theorem dX5_search_22 : decode cX5_search 22 = .ok (.istore_n 3, 1) := by decide +kernel
theorem dX5_search_23 : decode cX5_search 23 = .ok (.aload_n 0, 1) := by decide +kernel
theorem dX5_search_24 : decode cX5_search 24 = .ok (.getfield 34, 3) := by decide +kernel
theorem dX5_search_27 : decode cX5_search 27 = .ok (.aload_n 0, 1) := by decide +kernel
theorem dX5_search_28 : decode cX5_search 28 = .ok (.getfield 128, 3) := by decide +kernel
theorem dX5_search_31 : decode cX5_search 31 = .ok (.iaload, 1) := by decide +kernel
theorem dX5_search_32 : decode cX5_search 32 = .ok (.ldc 108, 2) := by decide +kernel
theorem dX5_search_34 : decode cX5_search 34 = .ok (.if_icmp .ge 7, 3) := by decide +kernel
theorem dX5_search_37 : decode cX5_search 37 = .ok (.iconst 1, 1) := by decide +kernel
theorem dX5_search_38 : decode cX5_search 38 = .ok (.goto 4, 3) := by decide +kernel
theorem dX5_search_41 : decode cX5_search 41 = .ok (.iconst 0, 1) := by decide +kernel
theorem dX5_search_42 : decode cX5_search 42 = .ok (.istore 4, 2) := by decide +kernel
theorem dX5_search_44 : decode cX5_search 44 = .ok (.aload_n 0, 1) := by decide +kernel
theorem dX5_search_45 : decode cX5_search 45 = .ok (.iload 4, 2) := by decide +kernel
theorem dX5_search_47 : decode cX5_search 47 = .ok (.ifCond .eq 18, 3) := by decide +kernel
theorem dX5_search_50 : decode cX5_search 50 = .ok (.iload_n 3, 1) := by decide +kernel
theorem dX5_search_51 : decode cX5_search 51 = .ok (.i2l, 1) := by decide +kernel
theorem dX5_search_52 : decode cX5_search 52 = .ok (.lload_n 1, 1) := by decide +kernel
theorem dX5_search_53 : decode cX5_search 53 = .ok (.lcmp, 1) := by decide +kernel
theorem dX5_search_54 : decode cX5_search 54 = .ok (.ifCond .ge 7, 3) := by decide +kernel
theorem dX5_search_57 : decode cX5_search 57 = .ok (.iconst 1, 1) := by decide +kernel
theorem dX5_search_58 : decode cX5_search 58 = .ok (.goto 19, 3) := by decide +kernel
theorem dX5_search_61 : decode cX5_search 61 = .ok (.iconst 0, 1) := by decide +kernel
theorem dX5_search_62 : decode cX5_search 62 = .ok (.goto 15, 3) := by decide +kernel
theorem dX5_search_65 : decode cX5_search 65 = .ok (.iload_n 3, 1) := by decide +kernel
theorem dX5_search_66 : decode cX5_search 66 = .ok (.i2l, 1) := by decide +kernel
theorem dX5_search_67 : decode cX5_search 67 = .ok (.lload_n 1, 1) := by decide +kernel
theorem dX5_search_68 : decode cX5_search 68 = .ok (.lcmp, 1) := by decide +kernel
theorem dX5_search_69 : decode cX5_search 69 = .ok (.ifCond .gt 7, 3) := by decide +kernel
theorem dX5_search_72 : decode cX5_search 72 = .ok (.iconst 1, 1) := by decide +kernel
theorem dX5_search_73 : decode cX5_search 73 = .ok (.goto 4, 3) := by decide +kernel
theorem dX5_search_76 : decode cX5_search 76 = .ok (.iconst 0, 1) := by decide +kernel
theorem dX5_search_77 : decode cX5_search 77 = .ok (.putfield 134, 3) := by decide +kernel
theorem dX5_search_80 : decode cX5_search 80 = .ok (.aload_n 0, 1) := by decide +kernel
theorem dX5_search_81 : decode cX5_search 81 = .ok (.getfield 134, 3) := by decide +kernel
theorem dX5_search_84 : decode cX5_search 84 = .ok (.ifCond .ne 5, 3) := by decide +kernel
theorem dX5_search_87 : decode cX5_search 87 = .ok (.iconst (-1), 1) := by decide +kernel
theorem dX5_search_88 : decode cX5_search 88 = .ok (.ireturn, 1) := by decide +kernel
theorem dX5_search_89 : decode cX5_search 89 = .ok (.iload 4, 2) := by decide +kernel
theorem dX5_search_91 : decode cX5_search 91 = .ok (.ifCond .ne 5, 3) := by decide +kernel
theorem dX5_search_94 : decode cX5_search 94 = .ok (.iconst 0, 1) := by decide +kernel
theorem dX5_search_95 : decode cX5_search 95 = .ok (.ireturn, 1) := by decide +kernel
theorem dX5_search_96 : decode cX5_search 96 = .ok (.aload_n 0, 1) := by decide +kernel
theorem dX5_search_97 : decode cX5_search 97 = .ok (.iconst 1, 1) := by decide +kernel
theorem dX5_search_98 : decode cX5_search 98 = .ok (.putfield 118, 3) := by decide +kernel
theorem dX5_search_101 : decode cX5_search 101 = .ok (.aload_n 0, 1) := by decide +kernel
theorem dX5_search_102 : decode cX5_search 102 = .ok (.iconst 0, 1) := by decide +kernel
theorem dX5_search_103 : decode cX5_search 103 = .ok (.putfield 137, 3) := by decide +kernel
theorem dX5_search_106 : decode cX5_search 106 = .ok (.aload_n 0, 1) := by decide +kernel
theorem dX5_search_107 : decode cX5_search 107 = .ok (.iconst 0, 1) := by decide +kernel
theorem dX5_search_108 : decode cX5_search 108 = .ok (.putfield 140, 3) := by decide +kernel
theorem dX5_search_111 : decode cX5_search 111 = .ok (.aload_n 0, 1) := by decide +kernel
theorem dX5_search_112 : decode cX5_search 112 = .ok (.getfield 128, 3) := by decide +kernel
theorem dX5_search_115 : decode cX5_search 115 = .ok (.istore 5, 2) := by decide +kernel
theorem dX5_search_117 : decode cX5_search 117 = .ok (.iload 5, 2) := by decide +kernel
theorem dX5_search_119 : decode cX5_search 119 = .ok (.aload_n 0, 1) := by decide +kernel
theorem dX5_search_120 : decode cX5_search 120 = .ok (.getfield 109, 3) := by decide +kernel
theorem dX5_search_123 : decode cX5_search 123 = .ok (.if_icmp .eq 68, 3) := by decide +kernel
theorem dX5_search_126 : decode cX5_search 126 = .ok (.iconst 0, 1) := by decide +kernel
theorem dX5_search_127 : decode cX5_search 127 = .ok (.istore 6, 2) := by decide +kernel
theorem dX5_search_129 : decode cX5_search 129 = .ok (.aload_n 0, 1) := by decide +kernel
theorem dX5_search_130 : decode cX5_search 130 = .ok (.iload 5, 2) := by decide +kernel
theorem dX5_search_132 : decode cX5_search 132 = .ok (.iload 6, 2) := by decide +kernel
theorem dX5_search_134 : decode cX5_search 134 = .ok (.invokevirtual 143, 3) := by decide +kernel
theorem dX5_search_137 : decode cX5_search 137 = .ok (.ifCond .ne 9, 3) := by decide +kernel
theorem dX5_search_140 : decode cX5_search 140 = .ok (.iinc 6 1, 3) := by decide +kernel
theorem dX5_search_143 : decode cX5_search 143 = .ok (.goto (-14), 3) := by decide +kernel
theorem dX5_search_146 : decode cX5_search 146 = .ok (.aload_n 0, 1) := by decide +kernel
theorem dX5_search_147 : decode cX5_search 147 = .ok (.iload 5, 2) := by decide +kernel
theorem dX5_search_149 : decode cX5_search 149 = .ok (.iload 6, 2) := by decide +kernel
theorem dX5_search_151 : decode cX5_search 151 = .ok (.invokevirtual 112, 3) := by decide +kernel
theorem dX5_search_154 : decode cX5_search 154 = .ok (.istore 5, 2) := by decide +kernel
theorem dX5_search_156 : decode cX5_search 156 = .ok (.aload_n 0, 1) := by decide +kernel
theorem dX5_search_157 : decode cX5_search 157 = .ok (.getfield 27, 3) := by decide +kernel
theorem dX5_search_160 : decode cX5_search 160 = .ok (.aload_n 0, 1) := by decide +kernel
theorem dX5_search_161 : decode cX5_search 161 = .ok (.getfield 137, 3) := by decide +kernel
theorem dX5_search_164 : decode cX5_search 164 = .ok (.iload 6, 2) := by decide +kernel
theorem dX5_search_166 : decode cX5_search 166 = .ok (.iastore, 1) := by decide +kernel
theorem dX5_search_167 : decode cX5_search 167 = .ok (.aload_n 0, 1) := by decide +kernel
theorem dX5_search_168 : decode cX5_search 168 = .ok (.getfield 31, 3) := by decide +kernel
theorem dX5_search_171 : decode cX5_search 171 = .ok (.aload_n 0, 1) := by decide +kernel
theorem dX5_search_172 : decode cX5_search 172 = .ok (.getfield 137, 3) := by decide +kernel
theorem dX5_search_175 : decode cX5_search 175 = .ok (.iload 5, 2) := by decide +kernel
theorem dX5_search_177 : decode cX5_search 177 = .ok (.iastore, 1) := by decide +kernel
theorem dX5_search_178 : decode cX5_search 178 = .ok (.aload_n 0, 1) := by decide +kernel
theorem dX5_search_179 : decode cX5_search 179 = .ok (.dup, 1) := by decide +kernel
theorem dX5_search_180 : decode cX5_search 180 = .ok (.getfield 137, 3) := by decide +kernel
theorem dX5_search_183 : decode cX5_search 183 = .ok (.iconst 1, 1) := by decide +kernel
theorem dX5_search_184 : decode cX5_search 184 = .ok (.iadd, 1) := by decide +kernel
theorem dX5_search_185 : decode cX5_search 185 = .ok (.putfield 137, 3) := by decide +kernel
theorem dX5_search_188 : decode cX5_search 188 = .ok (.goto (-71), 3) := by decide +kernel
theorem dX5_search_191 : decode cX5_search 191 = .ok (.iconst 1, 1) := by decide +kernel
theorem dX5_search_192 : decode cX5_search 192 = .ok (.ireturn, 1) := by decide +kernel
set_option maxRecDepth 20000 in
theorem ggX5_leads_X5_moved : GoodIn wsX5_leads wsX5_moved := goodIn_r _ [7, 8, 9, 10, 11, 12, 6, 13, 14, 15, 16, 17, 18, 19, 20, 21, 22, 23, 24, 25, 26, 27, 28, 29, 30, 31, 38, 39, 40, 41, 42, 43, 44, 45, 46, 47, 48, 49, 50, 51, 52, 53, 54, 55, 56, 57, 58, 59, 60, 61, 62, 63] (by decide +kernel) (by decide +kernel)
set_option maxRecDepth 20000 in
theorem gX5_leads_X5_moved : GoodIn wsX5_leads (wsV RX5 112 RX5 yX5_moved wsX5_moved) := goodIn_app (goodIn_of _ (by decide +kernel)) ggX5_leads_X5_moved
set_option maxRecDepth 20000 in
theorem ggX5_leads_X5_more : GoodIn wsX5_leads wsX5_more := goodIn_r _ [35, 36, 37, 9, 38, 39, 40, 41, 42, 43, 44, 45, 46, 47, 48, 49, 50, 51, 52, 53, 54, 55, 56, 57, 58, 59, 60, 61, 62, 63] (by decide +kernel) (by decide +kernel)
set_option maxRecDepth 20000 in
theorem gX5_leads_X5_more : GoodIn wsX5_leads (wsV RX5 115 RX5 yX5_more wsX5_more) := goodIn_app (goodIn_of _ (by decide +kernel)) ggX5_leads_X5_more
theorem dX5_leads_0 : decode cX5_leads 0 = .ok (.aload_n 0, 1) := by decide +kernel
theorem dX5_leads_1 : decode cX5_leads 1 = .ok (.iload_n 1, 1) := by decide +kernel
theorem dX5_leads_2 : decode cX5_leads 2 = .ok (.iload_n 2, 1) := by decide +kernel
theorem dX5_leads_3 : decode cX5_leads 3 = .ok (.invokevirtual 112, 3) := by decide +kernel
theorem dX5_leads_6 : decode cX5_leads 6 = .ok (.istore_n 3, 1) := by decide +kernel
theorem dX5_leads_7 : decode cX5_leads 7 = .ok (.iload_n 3, 1) := by decide +kernel
theorem dX5_leads_8 : decode cX5_leads 8 = .ok (.ifCond .lt 45, 3) := by decide +kernel
theorem dX5_leads_11 : decode cX5_leads 11 = .ok (.aload_n 0, 1) := by decide +kernel
theorem dX5_leads_12 : decode cX5_leads 12 = .ok (.getfield 34, 3) := by decide +kernel
theorem dX5_leads_15 : decode cX5_leads 15 = .ok (.iload_n 3, 1) := by decide +kernel
theorem dX5_leads_16 : decode cX5_leads 16 = .ok (.iaload, 1) := by decide +kernel
theorem dX5_leads_17 : decode cX5_leads 17 = .ok (.aload_n 0, 1) := by decide +kernel
theorem dX5_leads_18 : decode cX5_leads 18 = .ok (.getfield 34, 3) := by decide +kernel
theorem dX5_leads_21 : decode cX5_leads 21 = .ok (.iload_n 1, 1) := by decide +kernel
theorem dX5_leads_22 : decode cX5_leads 22 = .ok (.iaload, 1) := by decide +kernel
theorem dX5_leads_23 : decode cX5_leads 23 = .ok (.iconst 1, 1) := by decide +kernel
theorem dX5_leads_24 : decode cX5_leads 24 = .ok (.isub, 1) := by decide +kernel
theorem dX5_leads_25 : decode cX5_leads 25 = .ok (.if_icmp .ne 28, 3) := by decide +kernel
theorem dX5_leads_28 : decode cX5_leads 28 = .ok (.aload_n 0, 1) := by decide +kernel
theorem dX5_leads_29 : decode cX5_leads 29 = .ok (.getfield 37, 3) := by decide +kernel
theorem dX5_leads_32 : decode cX5_leads 32 = .ok (.iload_n 3, 1) := by decide +kernel
theorem dX5_leads_33 : decode cX5_leads 33 = .ok (.iaload, 1) := by decide +kernel
theorem dX5_leads_34 : decode cX5_leads 34 = .ok (.aload_n 0, 1) := by decide +kernel
theorem dX5_leads_35 : decode cX5_leads 35 = .ok (.iload_n 2, 1) := by decide +kernel
theorem dX5_leads_36 : decode cX5_leads 36 = .ok (.invokevirtual 115, 3) := by decide +kernel
theorem dX5_leads_39 : decode cX5_leads 39 = .ok (.iadd, 1) := by decide +kernel
theorem dX5_leads_40 : decode cX5_leads 40 = .ok (.aload_n 0, 1) := by decide +kernel
theorem dX5_leads_41 : decode cX5_leads 41 = .ok (.getfield 37, 3) := by decide +kernel
theorem dX5_leads_44 : decode cX5_leads 44 = .ok (.iload_n 1, 1) := by decide +kernel
theorem dX5_leads_45 : decode cX5_leads 45 = .ok (.iaload, 1) := by decide +kernel
theorem dX5_leads_46 : decode cX5_leads 46 = .ok (.if_icmp .ne 7, 3) := by decide +kernel
theorem dX5_leads_49 : decode cX5_leads 49 = .ok (.iconst 1, 1) := by decide +kernel
theorem dX5_leads_50 : decode cX5_leads 50 = .ok (.goto 4, 3) := by decide +kernel
theorem dX5_leads_53 : decode cX5_leads 53 = .ok (.iconst 0, 1) := by decide +kernel
theorem dX5_leads_54 : decode cX5_leads 54 = .ok (.ireturn, 1) := by decide +kernel
set_option maxRecDepth 20000 in
theorem ggX5_set_X5_isCell : GoodIn wsX5_set wsX5_isCell := goodIn_r _ [7, 8, 9, 10, 11, 12, 13, 14, 15, 16, 17, 18, 19, 20, 21, 22, 23, 24, 25, 26, 27, 28, 29, 30, 31, 32, 33, 34, 35] (by decide +kernel) (by decide +kernel)
set_option maxRecDepth 20000 in
theorem gX5_set_X5_isCell : GoodIn wsX5_set (wsV RX5 61 RX5 yX5_isCell wsX5_isCell) := goodIn_app (goodIn_of _ (by decide +kernel)) ggX5_set_X5_isCell
theorem dX5_set_0 : decode cX5_set 0 = .ok (.aload_n 0, 1) := by decide +kernel
theorem dX5_set_1 : decode cX5_set 1 = .ok (.aload_n 0, 1) := by decide +kernel
theorem dX5_set_2 : decode cX5_set 2 = .ok (.iload_n 1, 1) := by decide +kernel
theorem dX5_set_3 : decode cX5_set 3 = .ok (.iload_n 2, 1) := by decide +kernel
theorem dX5_set_4 : decode cX5_set 4 = .ok (.invokevirtual 61, 3) := by decide +kernel
theorem dX5_set_7 : decode cX5_set 7 = .ok (.ifCond .eq 7, 3) := by decide +kernel
theorem dX5_set_10 : decode cX5_set 10 = .ok (.iconst 0, 1) := by decide +kernel
theorem dX5_set_11 : decode cX5_set 11 = .ok (.goto 4, 3) := by decide +kernel
theorem dX5_set_14 : decode cX5_set 14 = .ok (.iconst 1, 1) := by decide +kernel
theorem dX5_set_15 : decode cX5_set 15 = .ok (.putfield 58, 3) := by decide +kernel
theorem dX5_set_18 : decode cX5_set 18 = .ok (.aload_n 0, 1) := by decide +kernel
theorem dX5_set_19 : decode cX5_set 19 = .ok (.getfield 58, 3) := by decide +kernel
theorem dX5_set_22 : decode cX5_set 22 = .ok (.ifCond .le 5, 3) := by decide +kernel
theorem dX5_set_25 : decode cX5_set 25 = .ok (.iconst 0, 1) := by decide +kernel
theorem dX5_set_26 : decode cX5_set 26 = .ok (.ireturn, 1) := by decide +kernel
theorem dX5_set_27 : decode cX5_set 27 = .ok (.aload_n 0, 1) := by decide +kernel
theorem dX5_set_28 : decode cX5_set 28 = .ok (.getfield 7, 3) := by decide +kernel
theorem dX5_set_31 : decode cX5_set 31 = .ok (.bipush 24, 2) := by decide +kernel
theorem dX5_set_33 : decode cX5_set 33 = .ok (.iload_n 2, 1) := by decide +kernel
theorem dX5_set_34 : decode cX5_set 34 = .ok (.imul, 1) := by decide +kernel
theorem dX5_set_35 : decode cX5_set 35 = .ok (.iload_n 1, 1) := by decide +kernel
theorem dX5_set_36 : decode cX5_set 36 = .ok (.iadd, 1) := by decide +kernel
theorem dX5_set_37 : decode cX5_set 37 = .ok (.baload, 1) := by decide +kernel
theorem dX5_set_38 : decode cX5_set 38 = .ok (.iload_n 3, 1) := by decide +kernel
theorem dX5_set_39 : decode cX5_set 39 = .ok (.if_icmp .eq 7, 3) := by decide +kernel
theorem dX5_set_42 : decode cX5_set 42 = .ok (.iconst 1, 1) := by decide +kernel
theorem dX5_set_43 : decode cX5_set 43 = .ok (.goto 4, 3) := by decide +kernel
theorem dX5_set_46 : decode cX5_set 46 = .ok (.iconst 0, 1) := by decide +kernel
theorem dX5_set_47 : decode cX5_set 47 = .ok (.istore 4, 2) := by decide +kernel
theorem dX5_set_49 : decode cX5_set 49 = .ok (.aload_n 0, 1) := by decide +kernel
theorem dX5_set_50 : decode cX5_set 50 = .ok (.getfield 7, 3) := by decide +kernel
theorem dX5_set_53 : decode cX5_set 53 = .ok (.bipush 24, 2) := by decide +kernel
theorem dX5_set_55 : decode cX5_set 55 = .ok (.iload_n 2, 1) := by decide +kernel
theorem dX5_set_56 : decode cX5_set 56 = .ok (.imul, 1) := by decide +kernel
theorem dX5_set_57 : decode cX5_set 57 = .ok (.iload_n 1, 1) := by decide +kernel
theorem dX5_set_58 : decode cX5_set 58 = .ok (.iadd, 1) := by decide +kernel
theorem dX5_set_59 : decode cX5_set 59 = .ok (.iload_n 3, 1) := by decide +kernel
theorem dX5_set_60 : decode cX5_set 60 = .ok (.bastore, 1) := by decide +kernel
theorem dX5_set_61 : decode cX5_set 61 = .ok (.iload 4, 2) := by decide +kernel
theorem dX5_set_63 : decode cX5_set 63 = .ok (.ireturn, 1) := by decide +kernel
set_option maxRecDepth 20000 in
theorem ggX5_cell_X5_set : GoodIn wsX5_cell wsX5_set := goodIn_r _ [7, 1, 8, 9, 10, 11, 6, 12, 13, 14, 15, 16, 17, 18, 19, 20, 21, 22, 23, 24, 25, 26, 27, 28, 29, 30, 31, 32, 33, 34, 35, 36, 37, 38, 39, 40] (by decide +kernel) (by decide +kernel)
set_option maxRecDepth 20000 in
theorem gX5_cell_X5_set : GoodIn wsX5_cell (wsV RX5 146 RX5 yX5_set wsX5_set) := goodIn_app (goodIn_of _ (by decide +kernel)) ggX5_cell_X5_set
theorem dX5_cell_0 : decode cX5_cell 0 = .ok (.aload_n 0, 1) := by decide +kernel
theorem dX5_cell_1 : decode cX5_cell 1 = .ok (.iload_n 1, 1) := by decide +kernel
theorem dX5_cell_2 : decode cX5_cell 2 = .ok (.iload_n 2, 1) := by decide +kernel
theorem dX5_cell_3 : decode cX5_cell 3 = .ok (.iload_n 3, 1) := by decide +kernel
theorem dX5_cell_4 : decode cX5_cell 4 = .ok (.invokevirtual 146, 3) := by decide +kernel
theorem dX5_cell_7 : decode cX5_cell 7 = .ok (.istore 4, 2) := by decide +kernel
theorem dX5_cell_9 : decode cX5_cell 9 = .ok (.aload_n 0, 1) := by decide +kernel
theorem dX5_cell_10 : decode cX5_cell 10 = .ok (.getfield 58, 3) := by decide +kernel
theorem dX5_cell_13 : decode cX5_cell 13 = .ok (.ifCond .ne 8, 3) := by decide +kernel
theorem dX5_cell_16 : decode cX5_cell 16 = .ok (.aload_n 0, 1) := by decide +kernel
theorem dX5_cell_17 : decode cX5_cell 17 = .ok (.iconst 0, 1) := by decide +kernel
theorem dX5_cell_18 : decode cX5_cell 18 = .ok (.putfield 118, 3) := by decide +kernel
theorem dX5_cell_21 : decode cX5_cell 21 = .ok (.iload 4, 2) := by decide +kernel
theorem dX5_cell_23 : decode cX5_cell 23 = .ok (.ifCond .eq 7, 3) := by decide +kernel
theorem dX5_cell_26 : decode cX5_cell 26 = .ok (.iconst 1, 1) := by decide +kernel
theorem dX5_cell_27 : decode cX5_cell 27 = .ok (.goto 4, 3) := by decide +kernel
theorem dX5_cell_30 : decode cX5_cell 30 = .ok (.iconst 0, 1) := by decide +kernel
theorem dX5_cell_31 : decode cX5_cell 31 = .ok (.ireturn, 1) := by decide +kernel
theorem dX5_car_0 : decode cX5_car 0 = .ok (.aload_n 0, 1) := by decide +kernel
theorem dX5_car_1 : decode cX5_car 1 = .ok (.iconst 0, 1) := by decide +kernel
theorem dX5_car_2 : decode cX5_car 2 = .ok (.putfield 58, 3) := by decide +kernel
theorem dX5_car_5 : decode cX5_car 5 = .ok (.iload_n 1, 1) := by decide +kernel
theorem dX5_car_6 : decode cX5_car 6 = .ok (.iconst 1, 1) := by decide +kernel
theorem dX5_car_7 : decode cX5_car 7 = .ok (.if_icmp .lt 29, 3) := by decide +kernel
theorem dX5_car_10 : decode cX5_car 10 = .ok (.iload_n 1, 1) := by decide +kernel
theorem dX5_car_11 : decode cX5_car 11 = .ok (.bipush 7, 2) := by decide +kernel
theorem dX5_car_13 : decode cX5_car 13 = .ok (.if_icmp .gt 23, 3) := by decide +kernel
theorem dX5_car_16 : decode cX5_car 16 = .ok (.iload_n 2, 1) := by decide +kernel
theorem dX5_car_17 : decode cX5_car 17 = .ok (.iconst 1, 1) := by decide +kernel
theorem dX5_car_18 : decode cX5_car 18 = .ok (.if_icmp .lt 18, 3) := by decide +kernel
theorem dX5_car_21 : decode cX5_car 21 = .ok (.iload_n 2, 1) := by decide +kernel
theorem dX5_car_22 : decode cX5_car 22 = .ok (.iconst 5, 1) := by decide +kernel
theorem dX5_car_23 : decode cX5_car 23 = .ok (.if_icmp .gt 13, 3) := by decide +kernel
theorem dX5_car_26 : decode cX5_car 26 = .ok (.iload_n 3, 1) := by decide +kernel
theorem dX5_car_27 : decode cX5_car 27 = .ok (.iconst 1, 1) := by decide +kernel
theorem dX5_car_28 : decode cX5_car 28 = .ok (.if_icmp .lt 8, 3) := by decide +kernel
theorem dX5_car_31 : decode cX5_car 31 = .ok (.iload_n 3, 1) := by decide +kernel
theorem dX5_car_32 : decode cX5_car 32 = .ok (.iconst 4, 1) := by decide +kernel
theorem dX5_car_33 : decode cX5_car 33 = .ok (.if_icmp .le 5, 3) := by decide +kernel
theorem dX5_car_36 : decode cX5_car 36 = .ok (.iconst 0, 1) := by decide +kernel
theorem dX5_car_37 : decode cX5_car 37 = .ok (.ireturn, 1) := by decide +kernel
theorem dX5_car_38 : decode cX5_car 38 = .ok (.aload_n 0, 1) := by decide +kernel
theorem dX5_car_39 : decode cX5_car 39 = .ok (.iload_n 1, 1) := by decide +kernel
theorem dX5_car_40 : decode cX5_car 40 = .ok (.putfield 13, 3) := by decide +kernel
theorem dX5_car_43 : decode cX5_car 43 = .ok (.aload_n 0, 1) := by decide +kernel
theorem dX5_car_44 : decode cX5_car 44 = .ok (.iload_n 2, 1) := by decide +kernel
theorem dX5_car_45 : decode cX5_car 45 = .ok (.putfield 17, 3) := by decide +kernel
theorem dX5_car_48 : decode cX5_car 48 = .ok (.aload_n 0, 1) := by decide +kernel
theorem dX5_car_49 : decode cX5_car 49 = .ok (.iload_n 3, 1) := by decide +kernel
theorem dX5_car_50 : decode cX5_car 50 = .ok (.putfield 20, 3) := by decide +kernel
theorem dX5_car_53 : decode cX5_car 53 = .ok (.aload_n 0, 1) := by decide +kernel
theorem dX5_car_54 : decode cX5_car 54 = .ok (.iconst 0, 1) := by decide +kernel
theorem dX5_car_55 : decode cX5_car 55 = .ok (.putfield 118, 3) := by decide +kernel
theorem dX5_car_58 : decode cX5_car 58 = .ok (.iconst 1, 1) := by decide +kernel
theorem dX5_car_59 : decode cX5_car 59 = .ok (.ireturn, 1) := by decide +kernel
theorem dX5_keep_0 : decode cX5_keep 0 = .ok (.aload_n 0, 1) := by decide +kernel
theorem dX5_keep_1 : decode cX5_keep 1 = .ok (.iconst 0, 1) := by decide +kernel
theorem dX5_keep_2 : decode cX5_keep 2 = .ok (.putfield 58, 3) := by decide +kernel
theorem dX5_keep_5 : decode cX5_keep 5 = .ok (.iload_n 1, 1) := by decide +kernel
theorem dX5_keep_6 : decode cX5_keep 6 = .ok (.ifCond .lt 8, 3) := by decide +kernel
theorem dX5_keep_9 : decode cX5_keep 9 = .ok (.iload_n 1, 1) := by decide +kernel
theorem dX5_keep_10 : decode cX5_keep 10 = .ok (.iconst 3, 1) := by decide +kernel
theorem dX5_keep_11 : decode cX5_keep 11 = .ok (.if_icmp .le 6, 3) := by decide +kernel
theorem dX5_keep_14 : decode cX5_keep 14 = .ok (.bipush (-2), 2) := by decide +kernel
theorem dX5_keep_16 : decode cX5_keep 16 = .ok (.ireturn, 1) := by decide +kernel
theorem dX5_keep_17 : decode cX5_keep 17 = .ok (.aload_n 0, 1) := by decide +kernel
theorem dX5_keep_18 : decode cX5_keep 18 = .ok (.getfield 80, 3) := by decide +kernel
theorem dX5_keep_21 : decode cX5_keep 21 = .ok (.istore_n 2, 1) := by decide +kernel
theorem dX5_keep_22 : decode cX5_keep 22 = .ok (.aload_n 0, 1) := by decide +kernel
theorem dX5_keep_23 : decode cX5_keep 23 = .ok (.iload_n 1, 1) := by decide +kernel
theorem dX5_keep_24 : decode cX5_keep 24 = .ok (.putfield 80, 3) := by decide +kernel
theorem dX5_keep_27 : decode cX5_keep 27 = .ok (.aload_n 0, 1) := by decide +kernel
theorem dX5_keep_28 : decode cX5_keep 28 = .ok (.iconst 0, 1) := by decide +kernel
theorem dX5_keep_29 : decode cX5_keep 29 = .ok (.putfield 118, 3) := by decide +kernel
theorem dX5_keep_32 : decode cX5_keep 32 = .ok (.iload_n 2, 1) := by decide +kernel
theorem dX5_keep_33 : decode cX5_keep 33 = .ok (.ireturn, 1) := by decide +kernel
set_option maxRecDepth 20000 in
theorem ggX5_stand_X5_isCell : GoodIn wsX5_stand wsX5_isCell := goodIn_r _ [9, 10, 11, 47, 48, 49, 50, 51, 52, 53, 54, 55, 56, 57, 58, 59, 60, 61, 62, 63, 64, 65, 66, 67, 68, 69, 70, 71, 72] (by decide +kernel) (by decide +kernel)
set_option maxRecDepth 20000 in
theorem gX5_stand_X5_isCell : GoodIn wsX5_stand (wsV RX5 61 RX5 yX5_isCell wsX5_isCell) := goodIn_app (goodIn_of _ (by decide +kernel)) ggX5_stand_X5_isCell
set_option maxRecDepth 20000 in
theorem ggX5_stand_X5_isHeading : GoodIn wsX5_stand wsX5_isHeading := goodIn_r _ [15, 16, 47, 48, 49, 50, 51, 52, 53, 54, 55, 56, 57, 58, 59, 60, 61, 62, 63, 64, 65, 66, 67, 68, 69, 70, 71, 72] (by decide +kernel) (by decide +kernel)
set_option maxRecDepth 20000 in
theorem gX5_stand_X5_isHeading : GoodIn wsX5_stand (wsV RX5 95 RX5 yX5_isHeading wsX5_isHeading) := goodIn_app (goodIn_of _ (by decide +kernel)) ggX5_stand_X5_isHeading
set_option maxRecDepth 20000 in
theorem ggX5_stand_X5_findNear : GoodIn wsX5_stand wsX5_findNear := goodIn_r _ [20, 11, 10, 21, 22, 23, 24, 8, 25, 26, 5, 6, 7, 9, 47, 48, 49, 50, 51, 52, 53, 54, 55, 56, 57, 58, 59, 60, 61, 62, 63, 64, 65, 66, 67, 68, 69, 70, 71, 72] (by decide +kernel) (by decide +kernel)
set_option maxRecDepth 20000 in
theorem gX5_stand_X5_findNear : GoodIn wsX5_stand (wsV RX5 92 RX5 yX5_findNear wsX5_findNear) := goodIn_app (goodIn_of _ (by decide +kernel)) ggX5_stand_X5_findNear
set_option maxRecDepth 20000 in
theorem ggX5_stand_X5_isFree : GoodIn wsX5_stand wsX5_isFree := goodIn_r _ [30, 31, 5, 6, 7, 8, 9, 10, 11, 32, 33, 34, 35, 36, 37, 21, 38, 39, 40, 41, 42, 43, 47, 48, 49, 50, 51, 52, 53, 54, 55, 56, 57, 58, 59, 60, 61, 62, 63, 64, 65, 66, 67, 68, 69, 70, 71, 72] (by decide +kernel) (by decide +kernel)
set_option maxRecDepth 20000 in
theorem gX5_stand_X5_isFree : GoodIn wsX5_stand (wsV RX5 99 RX5 yX5_isFree wsX5_isFree) := goodIn_app (goodIn_of _ (by decide +kernel)) ggX5_stand_X5_isFree
set_option maxRecDepth 20000 in
theorem ggX5_stand_X5_place : GoodIn wsX5_stand wsX5_place := goodIn_r _ [46] (by decide +kernel) (by decide +kernel)
set_option maxRecDepth 20000 in
theorem gX5_stand_X5_place : GoodIn wsX5_stand (va_wsS RX5 89 yX5_place wsX5_place) := goodIn_app (goodIn_of _ (by decide +kernel)) ggX5_stand_X5_place
theorem dX5_stand_0 : decode cX5_stand 0 = .ok (.aload_n 0, 1) := by decide +kernel
theorem dX5_stand_1 : decode cX5_stand 1 = .ok (.iconst 0, 1) := by decide +kernel
theorem dX5_stand_2 : decode cX5_stand 2 = .ok (.putfield 58, 3) := by decide +kernel
theorem dX5_stand_5 : decode cX5_stand 5 = .ok (.aload_n 0, 1) := by decide +kernel
theorem dX5_stand_6 : decode cX5_stand 6 = .ok (.iload_n 1, 1) := by decide +kernel
theorem dX5_stand_7 : decode cX5_stand 7 = .ok (.iload_n 2, 1) := by decide +kernel
theorem dX5_stand_8 : decode cX5_stand 8 = .ok (.invokevirtual 61, 3) := by decide +kernel
theorem dX5_stand_11 : decode cX5_stand 11 = .ok (.ifCond .eq 11, 3) := by decide +kernel
theorem dX5_stand_14 : decode cX5_stand 14 = .ok (.aload_n 0, 1) := by decide +kernel
theorem dX5_stand_15 : decode cX5_stand 15 = .ok (.iload_n 3, 1) := by decide +kernel
theorem dX5_stand_16 : decode cX5_stand 16 = .ok (.invokevirtual 95, 3) := by decide +kernel
theorem dX5_stand_19 : decode cX5_stand 19 = .ok (.ifCond .ne 6, 3) := by decide +kernel
theorem dX5_stand_22 : decode cX5_stand 22 = .ok (.bipush (-2), 2) := by decide +kernel
theorem dX5_stand_24 : decode cX5_stand 24 = .ok (.ireturn, 1) := by decide +kernel
theorem dX5_stand_25 : decode cX5_stand 25 = .ok (.aload_n 0, 1) := by decide +kernel
theorem dX5_stand_26 : decode cX5_stand 26 = .ok (.invokevirtual 92, 3) := by decide +kernel
theorem dX5_stand_29 : decode cX5_stand 29 = .ok (.aload_n 0, 1) := by decide +kernel
theorem dX5_stand_30 : decode cX5_stand 30 = .ok (.iload_n 1, 1) := by decide +kernel
theorem dX5_stand_31 : decode cX5_stand 31 = .ok (.iload_n 2, 1) := by decide +kernel
theorem dX5_stand_32 : decode cX5_stand 32 = .ok (.iload_n 3, 1) := by decide +kernel
theorem dX5_stand_33 : decode cX5_stand 33 = .ok (.invokevirtual 99, 3) := by decide +kernel
theorem dX5_stand_36 : decode cX5_stand 36 = .ok (.ifCond .ne 6, 3) := by decide +kernel
theorem dX5_stand_39 : decode cX5_stand 39 = .ok (.bipush (-3), 2) := by decide +kernel
theorem dX5_stand_41 : decode cX5_stand 41 = .ok (.ireturn, 1) := by decide +kernel
theorem dX5_stand_42 : decode cX5_stand 42 = .ok (.aload_n 0, 1) := by decide +kernel
theorem dX5_stand_43 : decode cX5_stand 43 = .ok (.iload_n 1, 1) := by decide +kernel
theorem dX5_stand_44 : decode cX5_stand 44 = .ok (.iload_n 2, 1) := by decide +kernel
theorem dX5_stand_45 : decode cX5_stand 45 = .ok (.iload_n 3, 1) := by decide +kernel
theorem dX5_stand_46 : decode cX5_stand 46 = .ok (.invokestatic 89, 3) := by decide +kernel
theorem dX5_stand_49 : decode cX5_stand 49 = .ok (.putfield 128, 3) := by decide +kernel
theorem dX5_stand_52 : decode cX5_stand 52 = .ok (.aload_n 0, 1) := by decide +kernel
theorem dX5_stand_53 : decode cX5_stand 53 = .ok (.aload_n 0, 1) := by decide +kernel
theorem dX5_stand_54 : decode cX5_stand 54 = .ok (.getfield 128, 3) := by decide +kernel
theorem dX5_stand_57 : decode cX5_stand 57 = .ok (.putfield 150, 3) := by decide +kernel
theorem dX5_stand_60 : decode cX5_stand 60 = .ok (.aload_n 0, 1) := by decide +kernel
theorem dX5_stand_61 : decode cX5_stand 61 = .ok (.iconst 0, 1) := by decide +kernel
theorem dX5_stand_62 : decode cX5_stand 62 = .ok (.putfield 118, 3) := by decide +kernel
theorem dX5_stand_65 : decode cX5_stand 65 = .ok (.iconst 1, 1) := by decide +kernel
theorem dX5_stand_66 : decode cX5_stand 66 = .ok (.ireturn, 1) := by decide +kernel
set_option maxRecDepth 20000 in
theorem ggX5_space_X5_place : GoodIn wsX5_space wsX5_place := goodIn_r _ [10] (by decide +kernel) (by decide +kernel)
set_option maxRecDepth 20000 in
theorem gX5_space_X5_place : GoodIn wsX5_space (va_wsS RX5 89 yX5_place wsX5_place) := goodIn_app (goodIn_of _ (by decide +kernel)) ggX5_space_X5_place
theorem dX5_space_0 : decode cX5_space 0 = .ok (.aload_n 0, 1) := by decide +kernel
theorem dX5_space_1 : decode cX5_space 1 = .ok (.iconst 0, 1) := by decide +kernel
theorem dX5_space_2 : decode cX5_space 2 = .ok (.putfield 58, 3) := by decide +kernel
theorem dX5_space_5 : decode cX5_space 5 = .ok (.iload_n 2, 1) := by decide +kernel
theorem dX5_space_6 : decode cX5_space 6 = .ok (.iconst 1, 1) := by decide +kernel
theorem dX5_space_7 : decode cX5_space 7 = .ok (.if_icmp .lt 11, 3) := by decide +kernel
theorem dX5_space_10 : decode cX5_space 10 = .ok (.iload_n 2, 1) := by decide +kernel
theorem dX5_space_11 : decode cX5_space 11 = .ok (.aload_n 0, 1) := by decide +kernel
theorem dX5_space_12 : decode cX5_space 12 = .ok (.getfield 49, 3) := by decide +kernel
theorem dX5_space_15 : decode cX5_space 15 = .ok (.if_icmp .le 6, 3) := by decide +kernel
theorem dX5_space_18 : decode cX5_space 18 = .ok (.bipush (-2), 2) := by decide +kernel
theorem dX5_space_20 : decode cX5_space 20 = .ok (.ireturn, 1) := by decide +kernel
theorem dX5_space_21 : decode cX5_space 21 = .ok (.iload_n 1, 1) := by decide +kernel
theorem dX5_space_22 : decode cX5_space 22 = .ok (.ifCond .ne 7, 3) := by decide +kernel
theorem dX5_space_25 : decode cX5_space 25 = .ok (.iconst 0, 1) := by decide +kernel
theorem dX5_space_26 : decode cX5_space 26 = .ok (.goto 9, 3) := by decide +kernel
theorem dX5_space_29 : decode cX5_space 29 = .ok (.aload_n 0, 1) := by decide +kernel
theorem dX5_space_30 : decode cX5_space 30 = .ok (.getfield 52, 3) := by decide +kernel
theorem dX5_space_33 : decode cX5_space 33 = .ok (.iconst 1, 1) := by decide +kernel
theorem dX5_space_34 : decode cX5_space 34 = .ok (.isub, 1) := by decide +kernel
theorem dX5_space_35 : decode cX5_space 35 = .ok (.istore_n 3, 1) := by decide +kernel
theorem dX5_space_36 : decode cX5_space 36 = .ok (.iconst 0, 1) := by decide +kernel
theorem dX5_space_37 : decode cX5_space 37 = .ok (.istore 4, 2) := by decide +kernel
theorem dX5_space_39 : decode cX5_space 39 = .ok (.iload 4, 2) := by decide +kernel
theorem dX5_space_41 : decode cX5_space 41 = .ok (.aload_n 0, 1) := by decide +kernel
theorem dX5_space_42 : decode cX5_space 42 = .ok (.getfield 49, 3) := by decide +kernel
theorem dX5_space_45 : decode cX5_space 45 = .ok (.if_icmp .ge 88, 3) := by decide +kernel
theorem dX5_space_48 : decode cX5_space 48 = .ok (.iconst 0, 1) := by decide +kernel
theorem dX5_space_49 : decode cX5_space 49 = .ok (.istore 5, 2) := by decide +kernel
theorem dX5_space_51 : decode cX5_space 51 = .ok (.iload 4, 2) := by decide +kernel
theorem dX5_space_53 : decode cX5_space 53 = .ok (.iload 5, 2) := by decide +kernel
theorem dX5_space_55 : decode cX5_space 55 = .ok (.iadd, 1) := by decide +kernel
theorem dX5_space_56 : decode cX5_space 56 = .ok (.aload_n 0, 1) := by decide +kernel
theorem dX5_space_57 : decode cX5_space 57 = .ok (.getfield 49, 3) := by decide +kernel
theorem dX5_space_60 : decode cX5_space 60 = .ok (.if_icmp .ge 27, 3) := by decide +kernel
theorem dX5_space_63 : decode cX5_space 63 = .ok (.aload_n 0, 1) := by decide +kernel
theorem dX5_space_64 : decode cX5_space 64 = .ok (.getfield 7, 3) := by decide +kernel
theorem dX5_space_67 : decode cX5_space 67 = .ok (.bipush 24, 2) := by decide +kernel
theorem dX5_space_69 : decode cX5_space 69 = .ok (.iload_n 3, 1) := by decide +kernel
theorem dX5_space_70 : decode cX5_space 70 = .ok (.imul, 1) := by decide +kernel
theorem dX5_space_71 : decode cX5_space 71 = .ok (.iload 4, 2) := by decide +kernel
theorem dX5_space_73 : decode cX5_space 73 = .ok (.iadd, 1) := by decide +kernel
theorem dX5_space_74 : decode cX5_space 74 = .ok (.iload 5, 2) := by decide +kernel
theorem dX5_space_76 : decode cX5_space 76 = .ok (.iadd, 1) := by decide +kernel
theorem dX5_space_77 : decode cX5_space 77 = .ok (.baload, 1) := by decide +kernel
theorem dX5_space_78 : decode cX5_space 78 = .ok (.ifCond .ne 9, 3) := by decide +kernel
theorem dX5_space_81 : decode cX5_space 81 = .ok (.iinc 5 1, 3) := by decide +kernel
theorem dX5_space_84 : decode cX5_space 84 = .ok (.goto (-33), 3) := by decide +kernel
theorem dX5_space_87 : decode cX5_space 87 = .ok (.iload 5, 2) := by decide +kernel
theorem dX5_space_89 : decode cX5_space 89 = .ok (.iload_n 2, 1) := by decide +kernel
theorem dX5_space_90 : decode cX5_space 90 = .ok (.if_icmp .lt 31, 3) := by decide +kernel
theorem dX5_space_93 : decode cX5_space 93 = .ok (.aload_n 0, 1) := by decide +kernel
theorem dX5_space_94 : decode cX5_space 94 = .ok (.iload 4, 2) := by decide +kernel
theorem dX5_space_96 : decode cX5_space 96 = .ok (.iload 5, 2) := by decide +kernel
theorem dX5_space_98 : decode cX5_space 98 = .ok (.iconst 1, 1) := by decide +kernel
theorem dX5_space_99 : decode cX5_space 99 = .ok (.isub, 1) := by decide +kernel
theorem dX5_space_100 : decode cX5_space 100 = .ok (.iconst 2, 1) := by decide +kernel
theorem dX5_space_101 : decode cX5_space 101 = .ok (.idiv, 1) := by decide +kernel
theorem dX5_space_102 : decode cX5_space 102 = .ok (.iadd, 1) := by decide +kernel
theorem dX5_space_103 : decode cX5_space 103 = .ok (.iload_n 3, 1) := by decide +kernel
theorem dX5_space_104 : decode cX5_space 104 = .ok (.iconst 0, 1) := by decide +kernel
theorem dX5_space_105 : decode cX5_space 105 = .ok (.invokestatic 89, 3) := by decide +kernel
theorem dX5_space_108 : decode cX5_space 108 = .ok (.putfield 109, 3) := by decide +kernel
theorem dX5_space_111 : decode cX5_space 111 = .ok (.aload_n 0, 1) := by decide +kernel
theorem dX5_space_112 : decode cX5_space 112 = .ok (.iconst 0, 1) := by decide +kernel
theorem dX5_space_113 : decode cX5_space 113 = .ok (.putfield 118, 3) := by decide +kernel
theorem dX5_space_116 : decode cX5_space 116 = .ok (.iload 4, 2) := by decide +kernel
theorem dX5_space_118 : decode cX5_space 118 = .ok (.iconst 1, 1) := by decide +kernel
theorem dX5_space_119 : decode cX5_space 119 = .ok (.iadd, 1) := by decide +kernel
theorem dX5_space_120 : decode cX5_space 120 = .ok (.ireturn, 1) := by decide +kernel
theorem dX5_space_121 : decode cX5_space 121 = .ok (.iload 4, 2) := by decide +kernel
theorem dX5_space_123 : decode cX5_space 123 = .ok (.iload 5, 2) := by decide +kernel
theorem dX5_space_125 : decode cX5_space 125 = .ok (.iconst 1, 1) := by decide +kernel
theorem dX5_space_126 : decode cX5_space 126 = .ok (.iadd, 1) := by decide +kernel
theorem dX5_space_127 : decode cX5_space 127 = .ok (.iadd, 1) := by decide +kernel
theorem dX5_space_128 : decode cX5_space 128 = .ok (.istore 4, 2) := by decide +kernel
theorem dX5_space_130 : decode cX5_space 130 = .ok (.goto (-91), 3) := by decide +kernel
theorem dX5_space_133 : decode cX5_space 133 = .ok (.iconst 0, 1) := by decide +kernel
theorem dX5_space_134 : decode cX5_space 134 = .ok (.ireturn, 1) := by decide +kernel
theorem dX5_out_0 : decode cX5_out 0 = .ok (.aload_n 0, 1) := by decide +kernel
theorem dX5_out_1 : decode cX5_out 1 = .ok (.iconst 0, 1) := by decide +kernel
theorem dX5_out_2 : decode cX5_out 2 = .ok (.putfield 58, 3) := by decide +kernel
theorem dX5_out_5 : decode cX5_out 5 = .ok (.aload_n 0, 1) := by decide +kernel
theorem dX5_out_6 : decode cX5_out 6 = .ok (.getfield 109, 3) := by decide +kernel
theorem dX5_out_9 : decode cX5_out 9 = .ok (.aload_n 0, 1) := by decide +kernel
theorem dX5_out_10 : decode cX5_out 10 = .ok (.getfield 150, 3) := by decide +kernel
theorem dX5_out_13 : decode cX5_out 13 = .ok (.if_icmp .ne 5, 3) := by decide +kernel
theorem dX5_out_16 : decode cX5_out 16 = .ok (.iconst 0, 1) := by decide +kernel
theorem dX5_out_17 : decode cX5_out 17 = .ok (.ireturn, 1) := by decide +kernel
theorem dX5_out_18 : decode cX5_out 18 = .ok (.aload_n 0, 1) := by decide +kernel
theorem dX5_out_19 : decode cX5_out 19 = .ok (.aload_n 0, 1) := by decide +kernel
theorem dX5_out_20 : decode cX5_out 20 = .ok (.getfield 150, 3) := by decide +kernel
theorem dX5_out_23 : decode cX5_out 23 = .ok (.putfield 109, 3) := by decide +kernel
theorem dX5_out_26 : decode cX5_out 26 = .ok (.aload_n 0, 1) := by decide +kernel
theorem dX5_out_27 : decode cX5_out 27 = .ok (.iconst 0, 1) := by decide +kernel
theorem dX5_out_28 : decode cX5_out 28 = .ok (.putfield 118, 3) := by decide +kernel
theorem dX5_out_31 : decode cX5_out 31 = .ok (.iconst 1, 1) := by decide +kernel
theorem dX5_out_32 : decode cX5_out 32 = .ok (.ireturn, 1) := by decide +kernel
set_option maxRecDepth 20000 in
theorem ggX5_way_X5_search : GoodIn wsX5_way wsX5_search := goodIn_r _ [7, 8, 9, 10, 11, 12, 13, 2, 14, 15, 16, 17, 18, 19, 20, 6, 21, 22, 23, 24, 25, 26, 27, 28, 29, 30, 31, 32, 33, 34, 35, 36, 37, 38, 39, 40, 41, 42, 43, 44, 45, 46, 47, 48, 49, 50, 51, 52, 53, 54, 55, 56, 57, 58, 59, 60, 61, 62, 63, 64, 65, 66, 67, 68, 69, 70, 71, 72, 73, 74, 75, 76, 77, 78, 79, 80, 81, 82, 83, 84, 85, 86, 87, 88, 89, 90, 91, 92, 93, 94, 95, 96, 97, 98, 99, 100, 101, 102, 103, 104, 105, 106, 107, 108, 109, 110, 111, 112, 113, 114, 115, 116, 117, 118, 119, 120] (by decide +kernel) (by decide +kernel)
set_option maxRecDepth 20000 in
theorem gX5_way_X5_search : GoodIn wsX5_way (wsV RX5 153 RX5 yX5_search wsX5_search) := goodIn_app (goodIn_of _ (by decide +kernel)) ggX5_way_X5_search
theorem dX5_way_0 : decode cX5_way 0 = .ok (.aload_n 0, 1) := by decide +kernel
theorem dX5_way_1 : decode cX5_way 1 = .ok (.iconst 0, 1) := by decide +kernel
theorem dX5_way_2 : decode cX5_way 2 = .ok (.putfield 58, 3) := by decide +kernel
theorem dX5_way_5 : decode cX5_way 5 = .ok (.lload_n 1, 1) := by decide +kernel
theorem dX5_way_6 : decode cX5_way 6 = .ok (.lconst 0, 1) := by decide +kernel
theorem dX5_way_7 : decode cX5_way 7 = .ok (.lcmp, 1) := by decide +kernel
theorem dX5_way_8 : decode cX5_way 8 = .ok (.ifCond .ge 6, 3) := by decide +kernel
theorem dX5_way_11 : decode cX5_way 11 = .ok (.bipush (-2), 2) := by decide +kernel
theorem dX5_way_13 : decode cX5_way 13 = .ok (.ireturn, 1) := by decide +kernel
theorem dX5_way_14 : decode cX5_way 14 = .ok (.aload_n 0, 1) := by decide +kernel
theorem dX5_way_15 : decode cX5_way 15 = .ok (.lload_n 1, 1) := by decide +kernel
theorem dX5_way_16 : decode cX5_way 16 = .ok (.invokevirtual 153, 3) := by decide +kernel
theorem dX5_way_19 : decode cX5_way 19 = .ok (.istore_n 3, 1) := by decide +kernel
theorem dX5_way_20 : decode cX5_way 20 = .ok (.iload_n 3, 1) := by decide +kernel
theorem dX5_way_21 : decode cX5_way 21 = .ok (.iconst 1, 1) := by decide +kernel
theorem dX5_way_22 : decode cX5_way 22 = .ok (.if_icmp .ge 7, 3) := by decide +kernel
theorem dX5_way_25 : decode cX5_way 25 = .ok (.iload_n 3, 1) := by decide +kernel
theorem dX5_way_26 : decode cX5_way 26 = .ok (.goto 7, 3) := by decide +kernel
theorem dX5_way_29 : decode cX5_way 29 = .ok (.aload_n 0, 1) := by decide +kernel
theorem dX5_way_30 : decode cX5_way 30 = .ok (.getfield 137, 3) := by decide +kernel
theorem dX5_way_33 : decode cX5_way 33 = .ok (.ireturn, 1) := by decide +kernel
set_option maxRecDepth 20000 in
theorem ggX5_move_X5_xOf : GoodIn wsX5_move wsX5_xOf := goodIn_r _ [9] (by decide +kernel) (by decide +kernel)
set_option maxRecDepth 20000 in
theorem gX5_move_X5_xOf : GoodIn wsX5_move (va_wsS RX5 83 yX5_xOf wsX5_xOf) := goodIn_app (goodIn_of _ (by decide +kernel)) ggX5_move_X5_xOf
set_option maxRecDepth 20000 in
theorem ggX5_move_X5_yOf : GoodIn wsX5_move wsX5_yOf := goodIn_r _ [12] (by decide +kernel) (by decide +kernel)
set_option maxRecDepth 20000 in
theorem gX5_move_X5_yOf : GoodIn wsX5_move (va_wsS RX5 86 yX5_yOf wsX5_yOf) := goodIn_app (goodIn_of _ (by decide +kernel)) ggX5_move_X5_yOf
theorem dX5_move_0 : decode cX5_move 0 = .ok (.aload_n 0, 1) := by decide +kernel
theorem dX5_move_1 : decode cX5_move 1 = .ok (.iconst 0, 1) := by decide +kernel
theorem dX5_move_2 : decode cX5_move 2 = .ok (.putfield 58, 3) := by decide +kernel
theorem dX5_move_5 : decode cX5_move 5 = .ok (.aload_n 0, 1) := by decide +kernel
theorem dX5_move_6 : decode cX5_move 6 = .ok (.getfield 118, 3) := by decide +kernel
theorem dX5_move_9 : decode cX5_move 9 = .ok (.ifCond .eq 15, 3) := by decide +kernel
theorem dX5_move_12 : decode cX5_move 12 = .ok (.iload_n 1, 1) := by decide +kernel
theorem dX5_move_13 : decode cX5_move 13 = .ok (.ifCond .lt 11, 3) := by decide +kernel
theorem dX5_move_16 : decode cX5_move 16 = .ok (.iload_n 1, 1) := by decide +kernel
theorem dX5_move_17 : decode cX5_move 17 = .ok (.aload_n 0, 1) := by decide +kernel
theorem dX5_move_18 : decode cX5_move 18 = .ok (.getfield 137, 3) := by decide +kernel
theorem dX5_move_21 : decode cX5_move 21 = .ok (.if_icmp .lt 5, 3) := by decide +kernel
theorem dX5_move_24 : decode cX5_move 24 = .ok (.iconst (-1), 1) := by decide +kernel
theorem dX5_move_25 : decode cX5_move 25 = .ok (.ireturn, 1) := by decide +kernel
theorem dX5_move_26 : decode cX5_move 26 = .ok (.iload_n 2, 1) := by decide +kernel
theorem dX5_move_27 : decode cX5_move 27 = .ok (.ifCond .lt 8, 3) := by decide +kernel
theorem dX5_move_30 : decode cX5_move 30 = .ok (.iload_n 2, 1) := by decide +kernel
theorem dX5_move_31 : decode cX5_move 31 = .ok (.iconst 3, 1) := by decide +kernel
theorem dX5_move_32 : decode cX5_move 32 = .ok (.if_icmp .le 6, 3) := by decide +kernel
theorem dX5_move_35 : decode cX5_move 35 = .ok (.bipush (-2), 2) := by decide +kernel
theorem dX5_move_37 : decode cX5_move 37 = .ok (.ireturn, 1) := by decide +kernel
theorem dX5_move_38 : decode cX5_move 38 = .ok (.aload_n 0, 1) := by decide +kernel
theorem dX5_move_39 : decode cX5_move 39 = .ok (.getfield 31, 3) := by decide +kernel
theorem dX5_move_42 : decode cX5_move 42 = .ok (.iload_n 1, 1) := by decide +kernel
theorem dX5_move_43 : decode cX5_move 43 = .ok (.iaload, 1) := by decide +kernel
theorem dX5_move_44 : decode cX5_move 44 = .ok (.istore_n 3, 1) := by decide +kernel
theorem dX5_move_45 : decode cX5_move 45 = .ok (.iload_n 2, 1) := by decide +kernel
theorem dX5_move_46 : decode cX5_move 46 = .ok (.ifCond .ne 12, 3) := by decide +kernel
theorem dX5_move_49 : decode cX5_move 49 = .ok (.aload_n 0, 1) := by decide +kernel
theorem dX5_move_50 : decode cX5_move 50 = .ok (.getfield 27, 3) := by decide +kernel
theorem dX5_move_53 : decode cX5_move 53 = .ok (.iload_n 1, 1) := by decide +kernel
theorem dX5_move_54 : decode cX5_move 54 = .ok (.iaload, 1) := by decide +kernel
theorem dX5_move_55 : decode cX5_move 55 = .ok (.goto 31, 3) := by decide +kernel
theorem dX5_move_58 : decode cX5_move 58 = .ok (.iload_n 2, 1) := by decide +kernel
theorem dX5_move_59 : decode cX5_move 59 = .ok (.iconst 1, 1) := by decide +kernel
theorem dX5_move_60 : decode cX5_move 60 = .ok (.if_icmp .ne 10, 3) := by decide +kernel
theorem dX5_move_63 : decode cX5_move 63 = .ok (.iload_n 3, 1) := by decide +kernel
theorem dX5_move_64 : decode cX5_move 64 = .ok (.invokestatic 83, 3) := by decide +kernel
theorem dX5_move_67 : decode cX5_move 67 = .ok (.goto 19, 3) := by decide +kernel
theorem dX5_move_70 : decode cX5_move 70 = .ok (.iload_n 2, 1) := by decide +kernel
theorem dX5_move_71 : decode cX5_move 71 = .ok (.iconst 2, 1) := by decide +kernel
theorem dX5_move_72 : decode cX5_move 72 = .ok (.if_icmp .ne 10, 3) := by decide +kernel
theorem dX5_move_75 : decode cX5_move 75 = .ok (.iload_n 3, 1) := by decide +kernel
theorem dX5_move_76 : decode cX5_move 76 = .ok (.invokestatic 86, 3) := by decide +kernel
theorem dX5_move_79 : decode cX5_move 79 = .ok (.goto 7, 3) := by decide +kernel
theorem dX5_move_82 : decode cX5_move 82 = .ok (.iload_n 3, 1) := by decide +kernel
theorem dX5_move_83 : decode cX5_move 83 = .ok (.bipush 8, 2) := by decide +kernel
theorem dX5_move_85 : decode cX5_move 85 = .ok (.irem, 1) := by decide +kernel
theorem dX5_move_86 : decode cX5_move 86 = .ok (.ireturn, 1) := by decide +kernel
theorem dX5_exact_0 : decode cX5_exact 0 = .ok (.aload_n 0, 1) := by decide +kernel
theorem dX5_exact_1 : decode cX5_exact 1 = .ok (.iconst 0, 1) := by decide +kernel
theorem dX5_exact_2 : decode cX5_exact 2 = .ok (.putfield 58, 3) := by decide +kernel
theorem dX5_exact_5 : decode cX5_exact 5 = .ok (.aload_n 0, 1) := by decide +kernel
theorem dX5_exact_6 : decode cX5_exact 6 = .ok (.getfield 134, 3) := by decide +kernel
theorem dX5_exact_9 : decode cX5_exact 9 = .ok (.ireturn, 1) := by decide +kernel
theorem dX5_follow_0 : decode cX5_follow 0 = .ok (.aload_n 0, 1) := by decide +kernel
theorem dX5_follow_1 : decode cX5_follow 1 = .ok (.iconst 0, 1) := by decide +kernel
theorem dX5_follow_2 : decode cX5_follow 2 = .ok (.putfield 58, 3) := by decide +kernel
theorem dX5_follow_5 : decode cX5_follow 5 = .ok (.iload_n 1, 1) := by decide +kernel
theorem dX5_follow_6 : decode cX5_follow 6 = .ok (.iconst 1, 1) := by decide +kernel
theorem dX5_follow_7 : decode cX5_follow 7 = .ok (.if_icmp .lt 24, 3) := by decide +kernel
theorem dX5_follow_10 : decode cX5_follow 10 = .ok (.iload_n 1, 1) := by decide +kernel
theorem dX5_follow_11 : decode cX5_follow 11 = .ok (.sipush 1000, 3) := by decide +kernel
theorem dX5_follow_14 : decode cX5_follow 14 = .ok (.if_icmp .gt 17, 3) := by decide +kernel
theorem dX5_follow_17 : decode cX5_follow 17 = .ok (.dload_n 2, 1) := by decide +kernel
theorem dX5_follow_18 : decode cX5_follow 18 = .ok (.ldc2_w 157, 3) := by decide +kernel
theorem dX5_follow_21 : decode cX5_follow 21 = .ok (.dcmp .l, 1) := by decide +kernel
theorem dX5_follow_22 : decode cX5_follow 22 = .ok (.ifCond .lt 9, 3) := by decide +kernel
theorem dX5_follow_25 : decode cX5_follow 25 = .ok (.dload_n 2, 1) := by decide +kernel
theorem dX5_follow_26 : decode cX5_follow 26 = .ok (.dconst 1, 1) := by decide +kernel
theorem dX5_follow_27 : decode cX5_follow 27 = .ok (.dcmp .g, 1) := by decide +kernel
theorem dX5_follow_28 : decode cX5_follow 28 = .ok (.ifCond .le 6, 3) := by decide +kernel
theorem dX5_follow_31 : decode cX5_follow 31 = .ok (.bipush (-2), 2) := by decide +kernel
theorem dX5_follow_33 : decode cX5_follow 33 = .ok (.ireturn, 1) := by decide +kernel
theorem dX5_follow_34 : decode cX5_follow 34 = .ok (.aload_n 0, 1) := by decide +kernel
theorem dX5_follow_35 : decode cX5_follow 35 = .ok (.getfield 118, 3) := by decide +kernel
theorem dX5_follow_38 : decode cX5_follow 38 = .ok (.ifCond .ne 5, 3) := by decide +kernel
theorem dX5_follow_41 : decode cX5_follow 41 = .ok (.iconst 0, 1) := by decide +kernel
theorem dX5_follow_42 : decode cX5_follow 42 = .ok (.ireturn, 1) := by decide +kernel
theorem dX5_follow_43 : decode cX5_follow 43 = .ok (.iconst 0, 1) := by decide +kernel
theorem dX5_follow_44 : decode cX5_follow 44 = .ok (.istore 4, 2) := by decide +kernel
theorem dX5_follow_46 : decode cX5_follow 46 = .ok (.iload 4, 2) := by decide +kernel
theorem dX5_follow_48 : decode cX5_follow 48 = .ok (.iload_n 1, 1) := by decide +kernel
theorem dX5_follow_49 : decode cX5_follow 49 = .ok (.if_icmp .ge 107, 3) := by decide +kernel
theorem dX5_follow_52 : decode cX5_follow 52 = .ok (.aload_n 0, 1) := by decide +kernel
theorem dX5_follow_53 : decode cX5_follow 53 = .ok (.getfield 140, 3) := by decide +kernel
theorem dX5_follow_56 : decode cX5_follow 56 = .ok (.aload_n 0, 1) := by decide +kernel
theorem dX5_follow_57 : decode cX5_follow 57 = .ok (.getfield 137, 3) := by decide +kernel
theorem dX5_follow_60 : decode cX5_follow 60 = .ok (.if_icmp .ge 96, 3) := by decide +kernel
theorem dX5_follow_63 : decode cX5_follow 63 = .ok (.aload_n 0, 1) := by decide +kernel
theorem dX5_follow_64 : decode cX5_follow 64 = .ok (.getfield 23, 3) := by decide +kernel
theorem dX5_follow_67 : decode cX5_follow 67 = .ok (.ifCond .ne 5, 3) := by decide +kernel
theorem dX5_follow_70 : decode cX5_follow 70 = .ok (.iconst 2, 1) := by decide +kernel
theorem dX5_follow_71 : decode cX5_follow 71 = .ok (.ireturn, 1) := by decide +kernel
theorem dX5_follow_72 : decode cX5_follow 72 = .ok (.aload_n 0, 1) := by decide +kernel
theorem dX5_follow_73 : decode cX5_follow 73 = .ok (.aload_n 0, 1) := by decide +kernel
theorem dX5_follow_74 : decode cX5_follow 74 = .ok (.getfield 31, 3) := by decide +kernel
theorem dX5_follow_77 : decode cX5_follow 77 = .ok (.aload_n 0, 1) := by decide +kernel
theorem dX5_follow_78 : decode cX5_follow 78 = .ok (.getfield 140, 3) := by decide +kernel
theorem dX5_follow_81 : decode cX5_follow 81 = .ok (.iaload, 1) := by decide +kernel
theorem dX5_follow_82 : decode cX5_follow 82 = .ok (.putfield 128, 3) := by decide +kernel
theorem dX5_follow_85 : decode cX5_follow 85 = .ok (.aload_n 0, 1) := by decide +kernel
theorem dX5_follow_86 : decode cX5_follow 86 = .ok (.dup, 1) := by decide +kernel
theorem dX5_follow_87 : decode cX5_follow 87 = .ok (.getfield 140, 3) := by decide +kernel
theorem dX5_follow_90 : decode cX5_follow 90 = .ok (.iconst 1, 1) := by decide +kernel
theorem dX5_follow_91 : decode cX5_follow 91 = .ok (.iadd, 1) := by decide +kernel
theorem dX5_follow_92 : decode cX5_follow 92 = .ok (.putfield 140, 3) := by decide +kernel
theorem dX5_follow_95 : decode cX5_follow 95 = .ok (.aload_n 0, 1) := by decide +kernel
theorem dX5_follow_96 : decode cX5_follow 96 = .ok (.aload_n 0, 1) := by decide +kernel
theorem dX5_follow_97 : decode cX5_follow 97 = .ok (.getfield 159, 3) := by decide +kernel
theorem dX5_follow_100 : decode cX5_follow 100 = .ok (.dload_n 2, 1) := by decide +kernel
theorem dX5_follow_101 : decode cX5_follow 101 = .ok (.dadd, 1) := by decide +kernel
theorem dX5_follow_102 : decode cX5_follow 102 = .ok (.putfield 159, 3) := by decide +kernel
theorem dX5_follow_105 : decode cX5_follow 105 = .ok (.aload_n 0, 1) := by decide +kernel
theorem dX5_follow_106 : decode cX5_follow 106 = .ok (.getfield 159, 3) := by decide +kernel
theorem dX5_follow_109 : decode cX5_follow 109 = .ok (.ldc2_w 163, 3) := by decide +kernel
theorem dX5_follow_112 : decode cX5_follow 112 = .ok (.dcmp .l, 1) := by decide +kernel
theorem dX5_follow_113 : decode cX5_follow 113 = .ok (.ifCond .le 16, 3) := by decide +kernel
theorem dX5_follow_116 : decode cX5_follow 116 = .ok (.aload_n 0, 1) := by decide +kernel
theorem dX5_follow_117 : decode cX5_follow 117 = .ok (.aload_n 0, 1) := by decide +kernel
theorem dX5_follow_118 : decode cX5_follow 118 = .ok (.getfield 159, 3) := by decide +kernel
theorem dX5_follow_121 : decode cX5_follow 121 = .ok (.dconst 1, 1) := by decide +kernel
theorem dX5_follow_122 : decode cX5_follow 122 = .ok (.dsub, 1) := by decide +kernel
theorem dX5_follow_123 : decode cX5_follow 123 = .ok (.putfield 159, 3) := by decide +kernel
theorem dX5_follow_126 : decode cX5_follow 126 = .ok (.goto 24, 3) := by decide +kernel
theorem dX5_follow_129 : decode cX5_follow 129 = .ok (.aload_n 0, 1) := by decide +kernel
theorem dX5_follow_130 : decode cX5_follow 130 = .ok (.getfield 159, 3) := by decide +kernel
theorem dX5_follow_133 : decode cX5_follow 133 = .ok (.ldc2_w 165, 3) := by decide +kernel
theorem dX5_follow_136 : decode cX5_follow 136 = .ok (.dcmp .g, 1) := by decide +kernel
theorem dX5_follow_137 : decode cX5_follow 137 = .ok (.ifCond .ge 13, 3) := by decide +kernel
theorem dX5_follow_140 : decode cX5_follow 140 = .ok (.aload_n 0, 1) := by decide +kernel
theorem dX5_follow_141 : decode cX5_follow 141 = .ok (.aload_n 0, 1) := by decide +kernel
theorem dX5_follow_142 : decode cX5_follow 142 = .ok (.getfield 159, 3) := by decide +kernel
theorem dX5_follow_145 : decode cX5_follow 145 = .ok (.dconst 1, 1) := by decide +kernel
theorem dX5_follow_146 : decode cX5_follow 146 = .ok (.dadd, 1) := by decide +kernel
theorem dX5_follow_147 : decode cX5_follow 147 = .ok (.putfield 159, 3) := by decide +kernel
theorem dX5_follow_150 : decode cX5_follow 150 = .ok (.iinc 4 1, 3) := by decide +kernel
theorem dX5_follow_153 : decode cX5_follow 153 = .ok (.goto (-107), 3) := by decide +kernel
theorem dX5_follow_156 : decode cX5_follow 156 = .ok (.iconst 1, 1) := by decide +kernel
theorem dX5_follow_157 : decode cX5_follow 157 = .ok (.ireturn, 1) := by decide +kernel
theorem dX5_error_0 : decode cX5_error 0 = .ok (.aload_n 0, 1) := by decide +kernel
theorem dX5_error_1 : decode cX5_error 1 = .ok (.iconst 0, 1) := by decide +kernel
theorem dX5_error_2 : decode cX5_error 2 = .ok (.putfield 58, 3) := by decide +kernel
theorem dX5_error_5 : decode cX5_error 5 = .ok (.aload_n 0, 1) := by decide +kernel
theorem dX5_error_6 : decode cX5_error 6 = .ok (.getfield 159, 3) := by decide +kernel
theorem dX5_error_9 : decode cX5_error 9 = .ok (.dreturn, 1) := by decide +kernel
set_option maxRecDepth 20000 in
theorem ggX5_change_X5_set : GoodIn wsX5_change wsX5_set := goodIn_r _ [13, 1, 14, 15, 16, 17, 12, 18, 19, 20, 99, 100, 101, 102, 103, 104, 105, 106, 107, 108, 109, 110, 111, 112, 113, 114, 115, 116, 117, 118, 119, 120, 121, 122, 123, 124] (by decide +kernel) (by decide +kernel)
set_option maxRecDepth 20000 in
theorem gX5_change_X5_set : GoodIn wsX5_change (wsV RX5 146 RX5 yX5_set wsX5_set) := goodIn_app (goodIn_of _ (by decide +kernel)) ggX5_change_X5_set
set_option maxRecDepth 20000 in
theorem ggX5_change_X5_findFree : GoodIn wsX5_change wsX5_findFree := goodIn_r _ [24, 20, 19, 25, 26, 27, 28, 12, 29, 30, 31, 32, 33, 34, 14, 15, 16, 17, 18, 35, 36, 37, 38, 39, 40, 41, 42, 43, 44, 45, 46, 47, 48, 49, 50, 51, 52, 53, 54, 55, 56, 57, 58, 59, 99, 100, 101, 102, 103, 104, 105, 106, 107, 108, 109, 110, 111, 112, 113, 114, 115, 116, 117, 118, 119, 120, 121, 122, 123, 124] (by decide +kernel) (by decide +kernel)
set_option maxRecDepth 20000 in
theorem gX5_change_X5_findFree : GoodIn wsX5_change (wsV RX5 105 RX5 yX5_findFree wsX5_findFree) := goodIn_app (goodIn_of _ (by decide +kernel)) ggX5_change_X5_findFree
set_option maxRecDepth 20000 in
theorem ggX5_change_X5_moved : GoodIn wsX5_change wsX5_moved := goodIn_r _ [63, 25, 64, 42, 65, 66, 12, 67, 68, 69, 70, 54, 55, 56, 57, 58, 59, 15, 16, 17, 18, 19, 20, 35, 36, 37, 99, 100, 101, 102, 103, 104, 105, 106, 107, 108, 109, 110, 111, 112, 113, 114, 115, 116, 117, 118, 119, 120, 121, 122, 123, 124] (by decide +kernel) (by decide +kernel)
set_option maxRecDepth 20000 in
theorem gX5_change_X5_moved : GoodIn wsX5_change (wsV RX5 112 RX5 yX5_moved wsX5_moved) := goodIn_app (goodIn_of _ (by decide +kernel)) ggX5_change_X5_moved
set_option maxRecDepth 20000 in
theorem ggX5_change_X5_search : GoodIn wsX5_change wsX5_search := goodIn_r _ [74, 2, 8, 3, 75, 76, 77, 5, 4, 78, 6, 7, 79, 80, 81, 12, 82, 25, 83, 84, 21, 22, 23, 24, 20, 19, 26, 27, 28, 29, 30, 31, 32, 33, 34, 14, 15, 16, 17, 18, 35, 36, 37, 38, 39, 40, 41, 42, 43, 44, 45, 46, 47, 48, 49, 50, 51, 52, 53, 54, 55, 56, 57, 58, 59, 60, 61, 62, 63, 64, 65, 66, 67, 68, 69, 70, 85, 86, 87, 88, 89, 90, 91, 92, 93, 94, 95, 96, 97, 98, 99, 100, 101, 102, 103, 104, 105, 106, 107, 108, 109, 110, 111, 112, 113, 114, 115, 116, 117, 118, 119, 120, 121, 122, 123, 124] (by decide +kernel) (by decide +kernel)
set_option maxRecDepth 20000 in
theorem gX5_change_X5_search : GoodIn wsX5_change (wsV RX5 153 RX5 yX5_search wsX5_search) := goodIn_app (goodIn_of _ (by decide +kernel)) ggX5_change_X5_search
theorem dX5_change_0 : decode cX5_change 0 = .ok (.aload_n 0, 1) := by decide +kernel
theorem dX5_change_1 : decode cX5_change 1 = .ok (.iload_n 1, 1) := by decide +kernel
theorem dX5_change_2 : decode cX5_change 2 = .ok (.iload_n 2, 1) := by decide +kernel
theorem dX5_change_3 : decode cX5_change 3 = .ok (.iload_n 3, 1) := by decide +kernel
theorem dX5_change_4 : decode cX5_change 4 = .ok (.invokevirtual 146, 3) := by decide +kernel
theorem dX5_change_7 : decode cX5_change 7 = .ok (.istore 4, 2) := by decide +kernel
theorem dX5_change_9 : decode cX5_change 9 = .ok (.aload_n 0, 1) := by decide +kernel
theorem dX5_change_10 : decode cX5_change 10 = .ok (.getfield 58, 3) := by decide +kernel
theorem dX5_change_13 : decode cX5_change 13 = .ok (.ifCond .gt 10, 3) := by decide +kernel
theorem dX5_change_16 : decode cX5_change 16 = .ok (.aload_n 0, 1) := by decide +kernel
theorem dX5_change_17 : decode cX5_change 17 = .ok (.getfield 118, 3) := by decide +kernel
theorem dX5_change_20 : decode cX5_change 20 = .ok (.ifCond .ne 5, 3) := by decide +kernel
theorem dX5_change_23 : decode cX5_change 23 = .ok (.iconst 0, 1) := by decide +kernel
theorem dX5_change_24 : decode cX5_change 24 = .ok (.ireturn, 1) := by decide +kernel
theorem dX5_change_25 : decode cX5_change 25 = .ok (.aload_n 0, 1) := by decide +kernel
theorem dX5_change_26 : decode cX5_change 26 = .ok (.invokevirtual 105, 3) := by decide +kernel
theorem dX5_change_29 : decode cX5_change 29 = .ok (.iconst 1, 1) := by decide +kernel
theorem dX5_change_30 : decode cX5_change 30 = .ok (.istore 5, 2) := by decide +kernel
theorem dX5_change_32 : decode cX5_change 32 = .ok (.aload_n 0, 1) := by decide +kernel
theorem dX5_change_33 : decode cX5_change 33 = .ok (.getfield 128, 3) := by decide +kernel
theorem dX5_change_36 : decode cX5_change 36 = .ok (.istore 6, 2) := by decide +kernel
theorem dX5_change_38 : decode cX5_change 38 = .ok (.aload_n 0, 1) := by decide +kernel
theorem dX5_change_39 : decode cX5_change 39 = .ok (.getfield 140, 3) := by decide +kernel
theorem dX5_change_42 : decode cX5_change 42 = .ok (.istore 7, 2) := by decide +kernel
theorem dX5_change_44 : decode cX5_change 44 = .ok (.iload 7, 2) := by decide +kernel
theorem dX5_change_46 : decode cX5_change 46 = .ok (.aload_n 0, 1) := by decide +kernel
theorem dX5_change_47 : decode cX5_change 47 = .ok (.getfield 137, 3) := by decide +kernel
theorem dX5_change_50 : decode cX5_change 50 = .ok (.if_icmp .ge 46, 3) := by decide +kernel
theorem dX5_change_53 : decode cX5_change 53 = .ok (.iload 5, 2) := by decide +kernel
theorem dX5_change_55 : decode cX5_change 55 = .ok (.ifCond .eq 41, 3) := by decide +kernel
theorem dX5_change_58 : decode cX5_change 58 = .ok (.aload_n 0, 1) := by decide +kernel
theorem dX5_change_59 : decode cX5_change 59 = .ok (.iload 6, 2) := by decide +kernel
theorem dX5_change_61 : decode cX5_change 61 = .ok (.aload_n 0, 1) := by decide +kernel
theorem dX5_change_62 : decode cX5_change 62 = .ok (.getfield 27, 3) := by decide +kernel
theorem dX5_change_65 : decode cX5_change 65 = .ok (.iload 7, 2) := by decide +kernel
theorem dX5_change_67 : decode cX5_change 67 = .ok (.iaload, 1) := by decide +kernel
theorem dX5_change_68 : decode cX5_change 68 = .ok (.invokevirtual 112, 3) := by decide +kernel
theorem dX5_change_71 : decode cX5_change 71 = .ok (.ifCond .lt 7, 3) := by decide +kernel
theorem dX5_change_74 : decode cX5_change 74 = .ok (.iconst 1, 1) := by decide +kernel
theorem dX5_change_75 : decode cX5_change 75 = .ok (.goto 4, 3) := by decide +kernel
theorem dX5_change_78 : decode cX5_change 78 = .ok (.iconst 0, 1) := by decide +kernel
theorem dX5_change_79 : decode cX5_change 79 = .ok (.istore 5, 2) := by decide +kernel
theorem dX5_change_81 : decode cX5_change 81 = .ok (.aload_n 0, 1) := by decide +kernel
theorem dX5_change_82 : decode cX5_change 82 = .ok (.getfield 31, 3) := by decide +kernel
theorem dX5_change_85 : decode cX5_change 85 = .ok (.iload 7, 2) := by decide +kernel
theorem dX5_change_87 : decode cX5_change 87 = .ok (.iaload, 1) := by decide +kernel
theorem dX5_change_88 : decode cX5_change 88 = .ok (.istore 6, 2) := by decide +kernel
theorem dX5_change_90 : decode cX5_change 90 = .ok (.iinc 7 1, 3) := by decide +kernel
theorem dX5_change_93 : decode cX5_change 93 = .ok (.goto (-49), 3) := by decide +kernel
theorem dX5_change_96 : decode cX5_change 96 = .ok (.iload 5, 2) := by decide +kernel
theorem dX5_change_98 : decode cX5_change 98 = .ok (.ifCond .eq 5, 3) := by decide +kernel
theorem dX5_change_101 : decode cX5_change 101 = .ok (.iconst 0, 1) := by decide +kernel
theorem dX5_change_102 : decode cX5_change 102 = .ok (.ireturn, 1) := by decide +kernel
theorem dX5_change_103 : decode cX5_change 103 = .ok (.aload_n 0, 1) := by decide +kernel
theorem dX5_change_104 : decode cX5_change 104 = .ok (.aload_n 0, 1) := by decide +kernel
theorem dX5_change_105 : decode cX5_change 105 = .ok (.getfield 121, 3) := by decide +kernel
theorem dX5_change_108 : decode cX5_change 108 = .ok (.invokevirtual 153, 3) := by decide +kernel
theorem dX5_change_111 : decode cX5_change 111 = .ok (.iconst 1, 1) := by decide +kernel
theorem dX5_change_112 : decode cX5_change 112 = .ok (.if_icmp .ne 7, 3) := by decide +kernel
theorem dX5_change_115 : decode cX5_change 115 = .ok (.iconst 1, 1) := by decide +kernel
theorem dX5_change_116 : decode cX5_change 116 = .ok (.goto 4, 3) := by decide +kernel
theorem dX5_change_119 : decode cX5_change 119 = .ok (.iconst 2, 1) := by decide +kernel
theorem dX5_change_120 : decode cX5_change 120 = .ok (.ireturn, 1) := by decide +kernel
theorem dX5_release_0 : decode cX5_release 0 = .ok (.aload_n 0, 1) := by decide +kernel
theorem dX5_release_1 : decode cX5_release 1 = .ok (.iconst 0, 1) := by decide +kernel
theorem dX5_release_2 : decode cX5_release 2 = .ok (.putfield 58, 3) := by decide +kernel
theorem dX5_release_5 : decode cX5_release 5 = .ok (.aload_n 0, 1) := by decide +kernel
theorem dX5_release_6 : decode cX5_release 6 = .ok (.getfield 23, 3) := by decide +kernel
theorem dX5_release_9 : decode cX5_release 9 = .ok (.iload_n 1, 1) := by decide +kernel
theorem dX5_release_10 : decode cX5_release 10 = .ok (.if_icmp .eq 7, 3) := by decide +kernel
theorem dX5_release_13 : decode cX5_release 13 = .ok (.iconst 1, 1) := by decide +kernel
theorem dX5_release_14 : decode cX5_release 14 = .ok (.goto 4, 3) := by decide +kernel
theorem dX5_release_17 : decode cX5_release 17 = .ok (.iconst 0, 1) := by decide +kernel
theorem dX5_release_18 : decode cX5_release 18 = .ok (.istore_n 2, 1) := by decide +kernel
theorem dX5_release_19 : decode cX5_release 19 = .ok (.aload_n 0, 1) := by decide +kernel
theorem dX5_release_20 : decode cX5_release 20 = .ok (.iload_n 1, 1) := by decide +kernel
theorem dX5_release_21 : decode cX5_release 21 = .ok (.putfield 23, 3) := by decide +kernel
theorem dX5_release_24 : decode cX5_release 24 = .ok (.iload_n 2, 1) := by decide +kernel
theorem dX5_release_25 : decode cX5_release 25 = .ok (.ifCond .eq 7, 3) := by decide +kernel
theorem dX5_release_28 : decode cX5_release 28 = .ok (.iconst 1, 1) := by decide +kernel
theorem dX5_release_29 : decode cX5_release 29 = .ok (.goto 4, 3) := by decide +kernel
theorem dX5_release_32 : decode cX5_release 32 = .ok (.iconst 0, 1) := by decide +kernel
theorem dX5_release_33 : decode cX5_release 33 = .ok (.ireturn, 1) := by decide +kernel
set_option maxRecDepth 20000 in
theorem ggX5_margin_X5_findNear : GoodIn wsX5_margin wsX5_findNear := goodIn_r _ [9, 10, 11, 12, 13, 14, 15, 8, 16, 17, 18, 19, 20, 21, 40, 41, 42, 43, 44, 45, 46, 47, 48, 49, 50, 51, 52, 53, 54, 55, 56, 57, 58, 59, 60, 61, 62, 63, 64, 65] (by decide +kernel) (by decide +kernel)
set_option maxRecDepth 20000 in
theorem gX5_margin_X5_findNear : GoodIn wsX5_margin (wsV RX5 92 RX5 yX5_findNear wsX5_findNear) := goodIn_app (goodIn_of _ (by decide +kernel)) ggX5_margin_X5_findNear
set_option maxRecDepth 20000 in
theorem ggX5_margin_X5_xOf : GoodIn wsX5_margin wsX5_xOf := goodIn_r _ [24] (by decide +kernel) (by decide +kernel)
set_option maxRecDepth 20000 in
theorem gX5_margin_X5_xOf : GoodIn wsX5_margin (va_wsS RX5 83 yX5_xOf wsX5_xOf) := goodIn_app (goodIn_of _ (by decide +kernel)) ggX5_margin_X5_xOf
set_option maxRecDepth 20000 in
theorem ggX5_margin_X5_yOf : GoodIn wsX5_margin wsX5_yOf := goodIn_r _ [27] (by decide +kernel) (by decide +kernel)
set_option maxRecDepth 20000 in
theorem gX5_margin_X5_yOf : GoodIn wsX5_margin (va_wsS RX5 86 yX5_yOf wsX5_yOf) := goodIn_app (goodIn_of _ (by decide +kernel)) ggX5_margin_X5_yOf
set_option maxRecDepth 20000 in
theorem ggX5_margin_X5_clear : GoodIn wsX5_margin wsX5_clear := goodIn_r _ [31, 32, 33, 12, 34, 35, 8, 36, 37, 38, 39, 18, 19, 20, 21, 11, 10, 40, 41, 42, 43, 44, 45, 46, 47, 48, 49, 50, 51, 52, 53, 54, 55, 56, 57, 58, 59, 60, 61, 62, 63, 64, 65] (by decide +kernel) (by decide +kernel)
set_option maxRecDepth 20000 in
theorem gX5_margin_X5_clear : GoodIn wsX5_margin (wsV RX5 76 RX5 yX5_clear wsX5_clear) := goodIn_app (goodIn_of _ (by decide +kernel)) ggX5_margin_X5_clear
theorem dX5_margin_0 : decode cX5_margin 0 = .ok (.aload_n 0, 1) := by decide +kernel
theorem dX5_margin_1 : decode cX5_margin 1 = .ok (.iconst 0, 1) := by decide +kernel
theorem dX5_margin_2 : decode cX5_margin 2 = .ok (.putfield 58, 3) := by decide +kernel
theorem dX5_margin_5 : decode cX5_margin 5 = .ok (.aload_n 0, 1) := by decide +kernel
theorem dX5_margin_6 : decode cX5_margin 6 = .ok (.getfield 118, 3) := by decide +kernel
theorem dX5_margin_9 : decode cX5_margin 9 = .ok (.ifCond .eq 15, 3) := by decide +kernel
theorem dX5_margin_12 : decode cX5_margin 12 = .ok (.iload_n 1, 1) := by decide +kernel
theorem dX5_margin_13 : decode cX5_margin 13 = .ok (.ifCond .lt 11, 3) := by decide +kernel
theorem dX5_margin_16 : decode cX5_margin 16 = .ok (.iload_n 1, 1) := by decide +kernel
theorem dX5_margin_17 : decode cX5_margin 17 = .ok (.aload_n 0, 1) := by decide +kernel
theorem dX5_margin_18 : decode cX5_margin 18 = .ok (.getfield 137, 3) := by decide +kernel
theorem dX5_margin_21 : decode cX5_margin 21 = .ok (.if_icmp .lt 5, 3) := by decide +kernel
theorem dX5_margin_24 : decode cX5_margin 24 = .ok (.iconst (-1), 1) := by decide +kernel
theorem dX5_margin_25 : decode cX5_margin 25 = .ok (.ireturn, 1) := by decide +kernel
theorem dX5_margin_26 : decode cX5_margin 26 = .ok (.aload_n 0, 1) := by decide +kernel
theorem dX5_margin_27 : decode cX5_margin 27 = .ok (.getfield 31, 3) := by decide +kernel
theorem dX5_margin_30 : decode cX5_margin 30 = .ok (.iload_n 1, 1) := by decide +kernel
theorem dX5_margin_31 : decode cX5_margin 31 = .ok (.iaload, 1) := by decide +kernel
theorem dX5_margin_32 : decode cX5_margin 32 = .ok (.istore_n 2, 1) := by decide +kernel
theorem dX5_margin_33 : decode cX5_margin 33 = .ok (.aload_n 0, 1) := by decide +kernel
theorem dX5_margin_34 : decode cX5_margin 34 = .ok (.invokevirtual 92, 3) := by decide +kernel
theorem dX5_margin_37 : decode cX5_margin 37 = .ok (.aload_n 0, 1) := by decide +kernel
theorem dX5_margin_38 : decode cX5_margin 38 = .ok (.iload_n 2, 1) := by decide +kernel
theorem dX5_margin_39 : decode cX5_margin 39 = .ok (.invokestatic 83, 3) := by decide +kernel
theorem dX5_margin_42 : decode cX5_margin 42 = .ok (.iload_n 2, 1) := by decide +kernel
theorem dX5_margin_43 : decode cX5_margin 43 = .ok (.invokestatic 86, 3) := by decide +kernel
theorem dX5_margin_46 : decode cX5_margin 46 = .ok (.iload_n 2, 1) := by decide +kernel
theorem dX5_margin_47 : decode cX5_margin 47 = .ok (.bipush 8, 2) := by decide +kernel
theorem dX5_margin_49 : decode cX5_margin 49 = .ok (.irem, 1) := by decide +kernel
theorem dX5_margin_50 : decode cX5_margin 50 = .ok (.invokevirtual 76, 3) := by decide +kernel
theorem dX5_margin_53 : decode cX5_margin 53 = .ok (.ireturn, 1) := by decide +kernel
set_option maxRecDepth 20000 in
theorem ggX5_heading_X5_dx : GoodIn wsX5_heading wsX5_dx := goodIn_r _ [5] (by decide +kernel) (by decide +kernel)
set_option maxRecDepth 20000 in
theorem gX5_heading_X5_dx : GoodIn wsX5_heading (va_wsS RX5 69 yX5_dx wsX5_dx) := goodIn_app (goodIn_of _ (by decide +kernel)) ggX5_heading_X5_dx
set_option maxRecDepth 20000 in
theorem ggX5_heading_X5_dy : GoodIn wsX5_heading wsX5_dy := goodIn_r _ [8] (by decide +kernel) (by decide +kernel)
set_option maxRecDepth 20000 in
theorem gX5_heading_X5_dy : GoodIn wsX5_heading (va_wsS RX5 73 yX5_dy wsX5_dy) := goodIn_app (goodIn_of _ (by decide +kernel)) ggX5_heading_X5_dy
theorem dX5_heading_0 : decode cX5_heading 0 = .ok (.aload_n 0, 1) := by decide +kernel
theorem dX5_heading_1 : decode cX5_heading 1 = .ok (.iload_n 1, 1) := by decide +kernel
theorem dX5_heading_2 : decode cX5_heading 2 = .ok (.ifCond .lt 9, 3) := by decide +kernel
theorem dX5_heading_5 : decode cX5_heading 5 = .ok (.iload_n 1, 1) := by decide +kernel
theorem dX5_heading_6 : decode cX5_heading 6 = .ok (.bipush 7, 2) := by decide +kernel
theorem dX5_heading_8 : decode cX5_heading 8 = .ok (.if_icmp .le 7, 3) := by decide +kernel
theorem dX5_heading_11 : decode cX5_heading 11 = .ok (.iconst 1, 1) := by decide +kernel
theorem dX5_heading_12 : decode cX5_heading 12 = .ok (.goto 4, 3) := by decide +kernel
theorem dX5_heading_15 : decode cX5_heading 15 = .ok (.iconst 0, 1) := by decide +kernel
theorem dX5_heading_16 : decode cX5_heading 16 = .ok (.putfield 58, 3) := by decide +kernel
theorem dX5_heading_19 : decode cX5_heading 19 = .ok (.aload_n 0, 1) := by decide +kernel
theorem dX5_heading_20 : decode cX5_heading 20 = .ok (.getfield 58, 3) := by decide +kernel
theorem dX5_heading_23 : decode cX5_heading 23 = .ok (.ifCond .le 7, 3) := by decide +kernel
theorem dX5_heading_26 : decode cX5_heading 26 = .ok (.iconst 0, 1) := by decide +kernel
theorem dX5_heading_27 : decode cX5_heading 27 = .ok (.goto 18, 3) := by decide +kernel
theorem dX5_heading_30 : decode cX5_heading 30 = .ok (.iconst 3, 1) := by decide +kernel
theorem dX5_heading_31 : decode cX5_heading 31 = .ok (.iload_n 1, 1) := by decide +kernel
theorem dX5_heading_32 : decode cX5_heading 32 = .ok (.invokestatic 69, 3) := by decide +kernel
theorem dX5_heading_35 : decode cX5_heading 35 = .ok (.iconst 1, 1) := by decide +kernel
theorem dX5_heading_36 : decode cX5_heading 36 = .ok (.iadd, 1) := by decide +kernel
theorem dX5_heading_37 : decode cX5_heading 37 = .ok (.imul, 1) := by decide +kernel
theorem dX5_heading_38 : decode cX5_heading 38 = .ok (.iload_n 1, 1) := by decide +kernel
theorem dX5_heading_39 : decode cX5_heading 39 = .ok (.invokestatic 73, 3) := by decide +kernel
theorem dX5_heading_42 : decode cX5_heading 42 = .ok (.iadd, 1) := by decide +kernel
theorem dX5_heading_43 : decode cX5_heading 43 = .ok (.iconst 1, 1) := by decide +kernel
theorem dX5_heading_44 : decode cX5_heading 44 = .ok (.iadd, 1) := by decide +kernel
theorem dX5_heading_45 : decode cX5_heading 45 = .ok (.ireturn, 1) := by decide +kernel
theorem dJx00060_init_a7421_0 : decode cJx00060_init_a7421 0 = .ok (.aload_n 0, 1) := by decide +kernel
theorem dJx00060_init_a7421_1 : decode cJx00060_init_a7421 1 = .ok (.aload_n 1, 1) := by decide +kernel
theorem dJx00060_init_a7421_2 : decode cJx00060_init_a7421 2 = .ok (.invokespecial 7, 3) := by decide +kernel
theorem dJx00060_init_a7421_5 : decode cJx00060_init_a7421 5 = .ok (.return_, 1) := by decide +kernel
theorem dJ9_abs_0f7a4_0 : decode cJ9_abs_0f7a4 0 = .ok (.iload_n 0, 1) := by decide +kernel
theorem dJ9_abs_0f7a4_1 : decode cJ9_abs_0f7a4 1 = .ok (.ifCond .ge 8, 3) := by decide +kernel
theorem dJ9_abs_0f7a4_4 : decode cJ9_abs_0f7a4 4 = .ok (.iload_n 0, 1) := by decide +kernel
theorem dJ9_abs_0f7a4_5 : decode cJ9_abs_0f7a4 5 = .ok (.ineg, 1) := by decide +kernel
theorem dJ9_abs_0f7a4_6 : decode cJ9_abs_0f7a4 6 = .ok (.goto 4, 3) := by decide +kernel
theorem dJ9_abs_0f7a4_9 : decode cJ9_abs_0f7a4 9 = .ok (.iload_n 0, 1) := by decide +kernel
theorem dJ9_abs_0f7a4_10 : decode cJ9_abs_0f7a4 10 = .ok (.ireturn, 1) := by decide +kernel
theorem dJ9_max_7cf53_0 : decode cJ9_max_7cf53 0 = .ok (.iload_n 0, 1) := by decide +kernel
theorem dJ9_max_7cf53_1 : decode cJ9_max_7cf53 1 = .ok (.iload_n 1, 1) := by decide +kernel
theorem dJ9_max_7cf53_2 : decode cJ9_max_7cf53 2 = .ok (.if_icmp .lt 7, 3) := by decide +kernel
theorem dJ9_max_7cf53_5 : decode cJ9_max_7cf53 5 = .ok (.iload_n 0, 1) := by decide +kernel
theorem dJ9_max_7cf53_6 : decode cJ9_max_7cf53 6 = .ok (.goto 4, 3) := by decide +kernel
theorem dJ9_max_7cf53_9 : decode cJ9_max_7cf53 9 = .ok (.iload_n 1, 1) := by decide +kernel
theorem dJ9_max_7cf53_10 : decode cJ9_max_7cf53 10 = .ok (.ireturn, 1) := by decide +kernel
theorem dJ9_min_7cf53_0 : decode cJ9_min_7cf53 0 = .ok (.iload_n 0, 1) := by decide +kernel
theorem dJ9_min_7cf53_1 : decode cJ9_min_7cf53 1 = .ok (.iload_n 1, 1) := by decide +kernel
theorem dJ9_min_7cf53_2 : decode cJ9_min_7cf53 2 = .ok (.if_icmp .gt 7, 3) := by decide +kernel
theorem dJ9_min_7cf53_5 : decode cJ9_min_7cf53 5 = .ok (.iload_n 0, 1) := by decide +kernel
theorem dJ9_min_7cf53_6 : decode cJ9_min_7cf53 6 = .ok (.goto 4, 3) := by decide +kernel
theorem dJ9_min_7cf53_9 : decode cJ9_min_7cf53 9 = .ok (.iload_n 1, 1) := by decide +kernel
theorem dJ9_min_7cf53_10 : decode cJ9_min_7cf53 10 = .ok (.ireturn, 1) := by decide +kernel
theorem dJ7_fill_d0a16_0 : decode cJ7_fill_d0a16 0 = .ok (.iconst 0, 1) := by decide +kernel
theorem dJ7_fill_d0a16_1 : decode cJ7_fill_d0a16 1 = .ok (.istore_n 3, 1) := by decide +kernel
theorem dJ7_fill_d0a16_2 : decode cJ7_fill_d0a16 2 = .ok (.aload_n 0, 1) := by decide +kernel
theorem dJ7_fill_d0a16_3 : decode cJ7_fill_d0a16 3 = .ok (.arraylength, 1) := by decide +kernel
theorem dJ7_fill_d0a16_4 : decode cJ7_fill_d0a16 4 = .ok (.istore 4, 2) := by decide +kernel
theorem dJ7_fill_d0a16_6 : decode cJ7_fill_d0a16 6 = .ok (.iload_n 3, 1) := by decide +kernel
theorem dJ7_fill_d0a16_7 : decode cJ7_fill_d0a16 7 = .ok (.iload 4, 2) := by decide +kernel
theorem dJ7_fill_d0a16_9 : decode cJ7_fill_d0a16 9 = .ok (.if_icmp .ge 13, 3) := by decide +kernel
theorem dJ7_fill_d0a16_12 : decode cJ7_fill_d0a16 12 = .ok (.aload_n 0, 1) := by decide +kernel
theorem dJ7_fill_d0a16_13 : decode cJ7_fill_d0a16 13 = .ok (.iload_n 3, 1) := by decide +kernel
theorem dJ7_fill_d0a16_14 : decode cJ7_fill_d0a16 14 = .ok (.lload_n 1, 1) := by decide +kernel
theorem dJ7_fill_d0a16_15 : decode cJ7_fill_d0a16 15 = .ok (.lastore, 1) := by decide +kernel
theorem dJ7_fill_d0a16_16 : decode cJ7_fill_d0a16 16 = .ok (.iinc 3 1, 3) := by decide +kernel
theorem dJ7_fill_d0a16_19 : decode cJ7_fill_d0a16 19 = .ok (.goto (-13), 3) := by decide +kernel
theorem dJ7_fill_d0a16_22 : decode cJ7_fill_d0a16 22 = .ok (.return_, 1) := by decide +kernel
theorem dJ7_fill_53178_0 : decode cJ7_fill_53178 0 = .ok (.iconst 0, 1) := by decide +kernel
theorem dJ7_fill_53178_1 : decode cJ7_fill_53178 1 = .ok (.istore_n 2, 1) := by decide +kernel
theorem dJ7_fill_53178_2 : decode cJ7_fill_53178 2 = .ok (.aload_n 0, 1) := by decide +kernel
theorem dJ7_fill_53178_3 : decode cJ7_fill_53178 3 = .ok (.arraylength, 1) := by decide +kernel
theorem dJ7_fill_53178_4 : decode cJ7_fill_53178 4 = .ok (.istore_n 3, 1) := by decide +kernel
theorem dJ7_fill_53178_5 : decode cJ7_fill_53178 5 = .ok (.iload_n 2, 1) := by decide +kernel
theorem dJ7_fill_53178_6 : decode cJ7_fill_53178 6 = .ok (.iload_n 3, 1) := by decide +kernel
theorem dJ7_fill_53178_7 : decode cJ7_fill_53178 7 = .ok (.if_icmp .ge 13, 3) := by decide +kernel
theorem dJ7_fill_53178_10 : decode cJ7_fill_53178 10 = .ok (.aload_n 0, 1) := by decide +kernel
theorem dJ7_fill_53178_11 : decode cJ7_fill_53178 11 = .ok (.iload_n 2, 1) := by decide +kernel
theorem dJ7_fill_53178_12 : decode cJ7_fill_53178 12 = .ok (.iload_n 1, 1) := by decide +kernel
theorem dJ7_fill_53178_13 : decode cJ7_fill_53178 13 = .ok (.iastore, 1) := by decide +kernel
theorem dJ7_fill_53178_14 : decode cJ7_fill_53178 14 = .ok (.iinc 2 1, 3) := by decide +kernel
theorem dJ7_fill_53178_17 : decode cJ7_fill_53178 17 = .ok (.goto (-12), 3) := by decide +kernel
theorem dJ7_fill_53178_20 : decode cJ7_fill_53178 20 = .ok (.return_, 1) := by decide +kernel
abbrev vwCl : List vw_C := [(RJx00060, TJx00060, 6), (RX0, TX0, 5), (RX1, TX1, 6), (RX2, TX2, 4), (RX3, TX3, 5), (RX4, TX4, 11), (RX5, TX5, 26)]

