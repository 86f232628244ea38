/-! ===== BEGIN words of one list among another's, by their places ===== -/
theorem goodIn_r {big : List Cond} (ws : List Cond) (ps : List Nat) (hp : ws = ps.filterMap (fun i => big[i]?)) (h : ws.all goodWord = true) : GoodIn big ws := by
  intro w hw
  have h1 := List.all_eq_true.mp h w hw
  rw [hp] at hw
  obtain ⟨i, -, hi⟩ := List.mem_filterMap.mp hw
  have hm : w ∈ big := by first | exact List.mem_of_getElem? hi | exact List.getElem?_mem hi
  exact ⟨hm, good_of_word h1⟩
theorem goodIn_app {big a b : List Cond} (ha : GoodIn big a) (hb : GoodIn big b) : GoodIn big (a ++ b) := fun w h => (List.mem_append.mp h).elim (ha w) (hb w)
theorem goodIn_ca {big a b : List Cond} {c : Cond} (ha : GoodIn big (c :: a)) (hb : GoodIn big b) : GoodIn big (c :: (a ++ b)) := fun w h => (List.mem_cons.mp h).elim (fun e => ha w (List.mem_cons.mpr (Or.inl e))) (fun h => (List.mem_append.mp h).elim (fun h => ha w (List.mem_cons.mpr (Or.inr h))) (hb w))
theorem goodIn_sub {big ws : List Cond} (hm : ∀ w ∈ ws, w ∈ big) (h : ws.all goodWord = true) : GoodIn big ws := fun w hw => ⟨hm w hw, good_of_word (List.all_eq_true.mp h w hw)⟩
/-! ===== END ===== -/

/-! ===== BEGIN printed: names, fields, word lists, decode rows ===== -/
def RX0 : String := "OnlyWhatIsLost$Charts"
def TX0 : u_T := fun k => match k with
  | 0 => ("OnlyWhatIsLost$Charts", "years", "[I", true)
  | 1 => ("OnlyWhatIsLost$Charts", "downs", "[I", true)
  | 2 => ("OnlyWhatIsLost$Charts", "rights", "[I", true)
  | _ => ("OnlyWhatIsLost$Charts", "total", "I", false)
def tyX0 : Nat → FieldType := fun k => match k with
  | 0 => .array .int
  | 1 => .array .int
  | 2 => .array .int
  | _ => .int
abbrev wsX00 : List Cond := u_ws RX0 TX0 4
theorem nmX0 : ∀ a, a < 4 → ∀ b, b < 4 → a ≠ b → (TX0 a).2.1 ≠ (TX0 b).2.1 := by decide +kernel
theorem tyX0_ok : ∀ k, k < 4 → parseFieldDescriptor (TX0 k).2.2.1 = some (tyX0 k) := by decide +kernel
abbrev cX0_init : ByteArray := prog_2_method_1_code
def yX0_init : MethodName := ⟨RX0, "<init>", "()V"⟩
abbrev cX0_size : ByteArray := prog_2_method_2_code
def yX0_size : MethodName := ⟨RX0, "size", "()I"⟩
abbrev cX0_has : ByteArray := prog_2_method_3_code
def yX0_has : MethodName := ⟨RX0, "has", "(I)Z"⟩
abbrev cX0_clear : ByteArray := prog_2_method_4_code
def yX0_clear : MethodName := ⟨RX0, "clear", "()V"⟩
abbrev cX0_add : ByteArray := prog_2_method_5_code
def yX0_add : MethodName := ⟨RX0, "add", "(III)Z"⟩
abbrev cX0_copyFrom : ByteArray := prog_2_method_6_code
def yX0_copyFrom : MethodName := ⟨RX0, "copyFrom", "(LOnlyWhatIsLost$Charts;)V"⟩
abbrev cX0_yearOf : ByteArray := prog_2_method_7_code
def yX0_yearOf : MethodName := ⟨RX0, "yearOf", "(I)I"⟩
abbrev cX0_downOf : ByteArray := prog_2_method_8_code
def yX0_downOf : MethodName := ⟨RX0, "downOf", "(I)I"⟩
abbrev cX0_rightOf : ByteArray := prog_2_method_9_code
def yX0_rightOf : MethodName := ⟨RX0, "rightOf", "(I)I"⟩
def RX1 : String := "OnlyWhatIsLost$Country"
def TX1 : u_T := fun k => match k with
  | 0 => ("OnlyWhatIsLost$Country", "grid", "LOnlyWhatIsLost$Grid;", true)
  | 1 => ("OnlyWhatIsLost$Country", "now", "LOnlyWhatIsLost$Moment;", true)
  | _ => ("OnlyWhatIsLost$Country", "charts", "LOnlyWhatIsLost$Charts;", true)
def tyX1 : Nat → FieldType := fun k => match k with
  | 0 => .object "OnlyWhatIsLost$Grid"
  | 1 => .object "OnlyWhatIsLost$Moment"
  | _ => .object "OnlyWhatIsLost$Charts"
abbrev wsX10 : List Cond := u_ws RX1 TX1 3
theorem nmX1 : ∀ a, a < 3 → ∀ b, b < 3 → a ≠ b → (TX1 a).2.1 ≠ (TX1 b).2.1 := by decide +kernel
theorem tyX1_ok : ∀ k, k < 3 → parseFieldDescriptor (TX1 k).2.2.1 = some (tyX1 k) := by decide +kernel
abbrev cX1_init : ByteArray := prog_3_method_1_code
def yX1_init : MethodName := ⟨RX1, "<init>", "()V"⟩
abbrev cX1_clear : ByteArray := prog_3_method_2_code
def yX1_clear : MethodName := ⟨RX1, "clear", "()V"⟩
abbrev cX1_copyFrom : ByteArray := prog_3_method_3_code
def yX1_copyFrom : MethodName := ⟨RX1, "copyFrom", "(LOnlyWhatIsLost$Country;)V"⟩
abbrev cX1_drawnCells : ByteArray := prog_3_method_4_code
def yX1_drawnCells : MethodName := ⟨RX1, "drawnCells", "(I)J"⟩
abbrev cX1_burnableDrawnCells : ByteArray := prog_3_method_5_code
def yX1_burnableDrawnCells : MethodName := ⟨RX1, "burnableDrawnCells", "()J"⟩
abbrev cX1_shownBy : ByteArray := prog_3_method_6_code
def yX1_shownBy : MethodName := ⟨RX1, "shownBy", "(I)J"⟩
abbrev cX1_placeDrawn : ByteArray := prog_3_method_7_code
def yX1_placeDrawn : MethodName := ⟨RX1, "placeDrawn", "(I)I"⟩
abbrev cX1_ordersOfFall : ByteArray := prog_3_method_8_code
def yX1_ordersOfFall : MethodName := ⟨RX1, "ordersOfFall", "()I"⟩
abbrev cX1_yearMapped : ByteArray := prog_3_method_9_code
def yX1_yearMapped : MethodName := ⟨RX1, "yearMapped", "(I)I"⟩
def RX2 : String := "OnlyWhatIsLost$Grid"
def TX2 : u_T := fun k => match k with
  | 0 => ("OnlyWhatIsLost$Grid", "rows", "I", false)
  | _ => ("OnlyWhatIsLost$Grid", "columns", "I", false)
def tyX2 : Nat → FieldType := fun k => match k with
  | 0 => .int
  | _ => .int
abbrev wsX20 : List Cond := u_ws RX2 TX2 2
theorem nmX2 : ∀ a, a < 2 → ∀ b, b < 2 → a ≠ b → (TX2 a).2.1 ≠ (TX2 b).2.1 := by decide +kernel
theorem tyX2_ok : ∀ k, k < 2 → parseFieldDescriptor (TX2 k).2.2.1 = some (tyX2 k) := by decide +kernel
abbrev cX2_init : ByteArray := prog_4_method_1_code
def yX2_init : MethodName := ⟨RX2, "<init>", "()V"⟩
abbrev cX2_resize : ByteArray := prog_4_method_2_code
def yX2_resize : MethodName := ⟨RX2, "resize", "(II)Z"⟩
abbrev cX2_isSide : ByteArray := prog_4_method_3_code
def yX2_isSide : MethodName := ⟨RX2, "isSide", "(I)Z"⟩
abbrev cX2_cells : ByteArray := prog_4_method_4_code
def yX2_cells : MethodName := ⟨RX2, "cells", "()I"⟩
abbrev cX2_has : ByteArray := prog_4_method_5_code
def yX2_has : MethodName := ⟨RX2, "has", "(I)Z"⟩
abbrev cX2_rowOf : ByteArray := prog_4_method_6_code
def yX2_rowOf : MethodName := ⟨RX2, "rowOf", "(I)I"⟩
abbrev cX2_columnOf : ByteArray := prog_4_method_7_code
def yX2_columnOf : MethodName := ⟨RX2, "columnOf", "(I)I"⟩
abbrev cX2_shift : ByteArray := prog_4_method_8_code
def yX2_shift : MethodName := ⟨RX2, "shift", "(III)I"⟩
abbrev cX2_shiftAll : ByteArray := prog_4_method_9_code
def yX2_shiftAll : MethodName := ⟨RX2, "shiftAll", "(JII)J"⟩
abbrev cX2_beside : ByteArray := prog_4_method_10_code
def yX2_beside : MethodName := ⟨RX2, "beside", "(II)I"⟩
abbrev cX2_cellsBeside : ByteArray := prog_4_method_11_code
def yX2_cellsBeside : MethodName := ⟨RX2, "cellsBeside", "(I)J"⟩
abbrev cX2_apart : ByteArray := prog_4_method_12_code
def yX2_apart : MethodName := ⟨RX2, "apart", "(II)I"⟩
def RX3 : String := "OnlyWhatIsLost$Letters"
def TX3 : u_T := fun k => match k with
  | 0 => ("OnlyWhatIsLost$Letters", "signs", "[C", true)
  | _ => ("OnlyWhatIsLost$Letters", "total", "I", false)
def tyX3 : Nat → FieldType := fun k => match k with
  | 0 => .array .char
  | _ => .int
abbrev wsX30 : List Cond := u_ws RX3 TX3 2
theorem nmX3 : ∀ a, a < 2 → ∀ b, b < 2 → a ≠ b → (TX3 a).2.1 ≠ (TX3 b).2.1 := by decide +kernel
theorem tyX3_ok : ∀ k, k < 2 → parseFieldDescriptor (TX3 k).2.2.1 = some (tyX3 k) := by decide +kernel
abbrev cX3_init : ByteArray := prog_5_method_1_code
def yX3_init : MethodName := ⟨RX3, "<init>", "()V"⟩
abbrev cX3_length : ByteArray := prog_5_method_2_code
def yX3_length : MethodName := ⟨RX3, "length", "()I"⟩
abbrev cX3_clear : ByteArray := prog_5_method_3_code
def yX3_clear : MethodName := ⟨RX3, "clear", "()V"⟩
abbrev cX3_append : ByteArray := prog_5_method_4_code
def yX3_append : MethodName := ⟨RX3, "append", "(C)Z"⟩
abbrev cX3_signAt : ByteArray := prog_5_method_5_code
def yX3_signAt : MethodName := ⟨RX3, "signAt", "(I)C"⟩
abbrev cX3_isFigureAt : ByteArray := prog_5_method_6_code
def yX3_isFigureAt : MethodName := ⟨RX3, "isFigureAt", "(I)Z"⟩
def RX4 : String := "OnlyWhatIsLost$Moment"
def TX4 : u_T := fun k => match k with
  | 0 => ("OnlyWhatIsLost$Moment", "cells", "[I", true)
  | 1 => ("OnlyWhatIsLost$Moment", "starts", "[I", true)
  | 2 => ("OnlyWhatIsLost$Moment", "falls", "[I", true)
  | 3 => ("OnlyWhatIsLost$Moment", "kinds", "[I", true)
  | 4 => ("OnlyWhatIsLost$Moment", "total", "I", false)
  | _ => ("OnlyWhatIsLost$Moment", "year", "I", false)
def tyX4 : Nat → FieldType := fun k => match k with
  | 0 => .array .int
  | 1 => .array .int
  | 2 => .array .int
  | 3 => .array .int
  | 4 => .int
  | _ => .int
abbrev wsX40 : List Cond := u_ws RX4 TX4 6
theorem nmX4 : ∀ a, a < 6 → ∀ b, b < 6 → a ≠ b → (TX4 a).2.1 ≠ (TX4 b).2.1 := by decide +kernel
theorem tyX4_ok : ∀ k, k < 6 → parseFieldDescriptor (TX4 k).2.2.1 = some (tyX4 k) := by decide +kernel
abbrev cX4_init : ByteArray := prog_6_method_1_code
def yX4_init : MethodName := ⟨RX4, "<init>", "()V"⟩
abbrev cX4_size : ByteArray := prog_6_method_2_code
def yX4_size : MethodName := ⟨RX4, "size", "()I"⟩
abbrev cX4_has : ByteArray := prog_6_method_3_code
def yX4_has : MethodName := ⟨RX4, "has", "(I)Z"⟩
abbrev cX4_isFull : ByteArray := prog_6_method_4_code
def yX4_isFull : MethodName := ⟨RX4, "isFull", "()Z"⟩
abbrev cX4_clear : ByteArray := prog_6_method_5_code
def yX4_clear : MethodName := ⟨RX4, "clear", "()V"⟩
abbrev cX4_add : ByteArray := prog_6_method_6_code
def yX4_add : MethodName := ⟨RX4, "add", "(IIII)I"⟩
abbrev cX4_copyFrom : ByteArray := prog_6_method_7_code
def yX4_copyFrom : MethodName := ⟨RX4, "copyFrom", "(LOnlyWhatIsLost$Moment;)V"⟩
abbrev cX4_cellOf : ByteArray := prog_6_method_8_code
def yX4_cellOf : MethodName := ⟨RX4, "cellOf", "(I)I"⟩
abbrev cX4_startOf : ByteArray := prog_6_method_9_code
def yX4_startOf : MethodName := ⟨RX4, "startOf", "(I)I"⟩
abbrev cX4_toldFallOf : ByteArray := prog_6_method_10_code
def yX4_toldFallOf : MethodName := ⟨RX4, "toldFallOf", "(I)I"⟩
abbrev cX4_kindOf : ByteArray := prog_6_method_11_code
def yX4_kindOf : MethodName := ⟨RX4, "kindOf", "(I)I"⟩
abbrev cX4_standsIn : ByteArray := prog_6_method_12_code
def yX4_standsIn : MethodName := ⟨RX4, "standsIn", "(II)Z"⟩
abbrev cX4_isLostBy : ByteArray := prog_6_method_13_code
def yX4_isLostBy : MethodName := ⟨RX4, "isLostBy", "(II)Z"⟩
abbrev cX4_fallsIn : ByteArray := prog_6_method_14_code
def yX4_fallsIn : MethodName := ⟨RX4, "fallsIn", "(II)Z"⟩
abbrev cX4_canBurn : ByteArray := prog_6_method_15_code
def yX4_canBurn : MethodName := ⟨RX4, "canBurn", "(I)Z"⟩
abbrev cX4_setFireTo : ByteArray := prog_6_method_16_code
def yX4_setFireTo : MethodName := ⟨RX4, "setFireTo", "(I)V"⟩
abbrev cX4_burnBy : ByteArray := prog_6_method_17_code
def yX4_burnBy : MethodName := ⟨RX4, "burnBy", "(I)V"⟩
abbrev cX4_thingOf : ByteArray := prog_6_method_18_code
def yX4_thingOf : MethodName := ⟨RX4, "thingOf", "(I)I"⟩
abbrev cX4_standingCells : ByteArray := prog_6_method_19_code
def yX4_standingCells : MethodName := ⟨RX4, "standingCells", "(I)J"⟩
abbrev cX4_lostCells : ByteArray := prog_6_method_20_code
def yX4_lostCells : MethodName := ⟨RX4, "lostCells", "(I)J"⟩
abbrev cX4_countStanding : ByteArray := prog_6_method_21_code
def yX4_countStanding : MethodName := ⟨RX4, "countStanding", "()I"⟩
abbrev cX4_countLost : ByteArray := prog_6_method_22_code
def yX4_countLost : MethodName := ⟨RX4, "countLost", "()I"⟩
def RX5 : String := "OnlyWhatIsLost$Paths"
def TX5 : u_T := fun k => match k with
  | 0 => ("OnlyWhatIsLost$Paths", "prices", "[I", true)
  | 1 => ("OnlyWhatIsLost$Paths", "rests", "[I", true)
  | 2 => ("OnlyWhatIsLost$Paths", "queue", "[I", true)
  | 3 => ("OnlyWhatIsLost$Paths", "queued", "J", false)
  | 4 => ("OnlyWhatIsLost$Paths", "head", "I", false)
  | _ => ("OnlyWhatIsLost$Paths", "waiting", "I", false)
def tyX5 : Nat → FieldType := fun k => match k with
  | 0 => .array .int
  | 1 => .array .int
  | 2 => .array .int
  | 3 => .long
  | 4 => .int
  | _ => .int
abbrev wsX50 : List Cond := u_ws RX5 TX5 6
theorem nmX5 : ∀ a, a < 6 → ∀ b, b < 6 → a ≠ b → (TX5 a).2.1 ≠ (TX5 b).2.1 := by decide +kernel
theorem tyX5_ok : ∀ k, k < 6 → parseFieldDescriptor (TX5 k).2.2.1 = some (tyX5 k) := by decide +kernel
abbrev cX5_init : ByteArray := prog_7_method_1_code
def yX5_init : MethodName := ⟨RX5, "<init>", "()V"⟩
abbrev cX5_stepsThrough : ByteArray := prog_7_method_2_code
def yX5_stepsThrough : MethodName := ⟨RX5, "stepsThrough", "(LOnlyWhatIsLost$Grid;JII)I"⟩
abbrev cX5_price : ByteArray := prog_7_method_3_code
def yX5_price : MethodName := ⟨RX5, "price", "(JIJI)V"⟩
abbrev cX5_priceOf : ByteArray := prog_7_method_4_code
def yX5_priceOf : MethodName := ⟨RX5, "priceOf", "(I)I"⟩
abbrev cX5_restFrom : ByteArray := prog_7_method_5_code
def yX5_restFrom : MethodName := ⟨RX5, "restFrom", "(I)I"⟩
abbrev cX5_measureTo : ByteArray := prog_7_method_6_code
def yX5_measureTo : MethodName := ⟨RX5, "measureTo", "(LOnlyWhatIsLost$Grid;I)V"⟩
abbrev cX5_reach : ByteArray := prog_7_method_7_code
def yX5_reach : MethodName := ⟨RX5, "reach", "(II)V"⟩
abbrev cX5_takeFromQueue : ByteArray := prog_7_method_8_code
def yX5_takeFromQueue : MethodName := ⟨RX5, "takeFromQueue", "()I"⟩
abbrev cX5_nextFrom : ByteArray := prog_7_method_9_code
def yX5_nextFrom : MethodName := ⟨RX5, "nextFrom", "(LOnlyWhatIsLost$Grid;I)I"⟩
def RX6 : String := "OnlyWhatIsLost$Reader"
def TX6 : u_T := fun k => match k with
  | 0 => ("OnlyWhatIsLost$Reader", "draft", "LOnlyWhatIsLost$Country;", true)
  | _ => ("OnlyWhatIsLost$Reader", "numbers", "[I", true)
def tyX6 : Nat → FieldType := fun k => match k with
  | 0 => .object "OnlyWhatIsLost$Country"
  | _ => .array .int
abbrev wsX60 : List Cond := u_ws RX6 TX6 2
theorem nmX6 : ∀ a, a < 2 → ∀ b, b < 2 → a ≠ b → (TX6 a).2.1 ≠ (TX6 b).2.1 := by decide +kernel
theorem tyX6_ok : ∀ k, k < 2 → parseFieldDescriptor (TX6 k).2.2.1 = some (tyX6 k) := by decide +kernel
abbrev cX6_init : ByteArray := prog_8_method_1_code
def yX6_init : MethodName := ⟨RX6, "<init>", "()V"⟩
abbrev cX6_readAll : ByteArray := prog_8_method_2_code
def yX6_readAll : MethodName := ⟨RX6, "readAll", "(LOnlyWhatIsLost$Letters;)I"⟩
abbrev cX6_numbersBehind : ByteArray := prog_8_method_3_code
def yX6_numbersBehind : MethodName := ⟨RX6, "numbersBehind", "(C)I"⟩
abbrev cX6_readNumbers : ByteArray := prog_8_method_4_code
def yX6_readNumbers : MethodName := ⟨RX6, "readNumbers", "(LOnlyWhatIsLost$Letters;II)I"⟩
abbrev cX6_isTaken : ByteArray := prog_8_method_5_code
def yX6_isTaken : MethodName := ⟨RX6, "isTaken", "(C)Z"⟩
abbrev cX6_takeRows : ByteArray := prog_8_method_6_code
def yX6_takeRows : MethodName := ⟨RX6, "takeRows", "(II)Z"⟩
abbrev cX6_takeThing : ByteArray := prog_8_method_7_code
def yX6_takeThing : MethodName := ⟨RX6, "takeThing", "(IIII)Z"⟩
abbrev cX6_takeMap : ByteArray := prog_8_method_8_code
def yX6_takeMap : MethodName := ⟨RX6, "takeMap", "(III)Z"⟩
def RX7 : String := "OnlyWhatIsLost$Shelf"
def TX7 : u_T := fun k => match k with
  | 0 => ("OnlyWhatIsLost$Shelf", "moments", "[LOnlyWhatIsLost$Moment;", true)
  | _ => ("OnlyWhatIsLost$Shelf", "total", "I", false)
def tyX7 : Nat → FieldType := fun k => match k with
  | 0 => .array (.object "OnlyWhatIsLost$Moment")
  | _ => .int
abbrev wsX70 : List Cond := u_ws RX7 TX7 2
theorem nmX7 : ∀ a, a < 2 → ∀ b, b < 2 → a ≠ b → (TX7 a).2.1 ≠ (TX7 b).2.1 := by decide +kernel
theorem tyX7_ok : ∀ k, k < 2 → parseFieldDescriptor (TX7 k).2.2.1 = some (tyX7 k) := by decide +kernel
abbrev cX7_init : ByteArray := prog_9_method_1_code
def yX7_init : MethodName := ⟨RX7, "<init>", "(I)V"⟩
abbrev cX7_size : ByteArray := prog_9_method_2_code
def yX7_size : MethodName := ⟨RX7, "size", "()I"⟩
abbrev cX7_isFull : ByteArray := prog_9_method_3_code
def yX7_isFull : MethodName := ⟨RX7, "isFull", "()Z"⟩
abbrev cX7_clear : ByteArray := prog_9_method_4_code
def yX7_clear : MethodName := ⟨RX7, "clear", "()V"⟩
abbrev cX7_putOn : ByteArray := prog_9_method_5_code
def yX7_putOn : MethodName := ⟨RX7, "putOn", "(LOnlyWhatIsLost$Moment;)V"⟩
abbrev cX7_dropLowest : ByteArray := prog_9_method_6_code
def yX7_dropLowest : MethodName := ⟨RX7, "dropLowest", "()V"⟩
abbrev cX7_takeOff : ByteArray := prog_9_method_7_code
def yX7_takeOff : MethodName := ⟨RX7, "takeOff", "(LOnlyWhatIsLost$Moment;)Z"⟩
def RX8 : String := "OnlyWhatIsLost$Tour"
def TX8 : u_T := fun k => match k with
  | 0 => ("OnlyWhatIsLost$Tour", "stops", "[I", true)
  | 1 => ("OnlyWhatIsLost$Tour", "best", "[I", true)
  | 2 => ("OnlyWhatIsLost$Tour", "start", "I", false)
  | _ => ("OnlyWhatIsLost$Tour", "total", "I", false)
def tyX8 : Nat → FieldType := fun k => match k with
  | 0 => .array .int
  | 1 => .array .int
  | 2 => .int
  | _ => .int
abbrev wsX80 : List Cond := u_ws RX8 TX8 4
theorem nmX8 : ∀ a, a < 4 → ∀ b, b < 4 → a ≠ b → (TX8 a).2.1 ≠ (TX8 b).2.1 := by decide +kernel
theorem tyX8_ok : ∀ k, k < 4 → parseFieldDescriptor (TX8 k).2.2.1 = some (tyX8 k) := by decide +kernel
abbrev cX8_init : ByteArray := prog_10_method_1_code
def yX8_init : MethodName := ⟨RX8, "<init>", "()V"⟩
abbrev cX8_size : ByteArray := prog_10_method_2_code
def yX8_size : MethodName := ⟨RX8, "size", "()I"⟩
abbrev cX8_startAt : ByteArray := prog_10_method_3_code
def yX8_startAt : MethodName := ⟨RX8, "startAt", "(I)V"⟩
abbrev cX8_addStop : ByteArray := prog_10_method_4_code
def yX8_addStop : MethodName := ⟨RX8, "addStop", "(I)Z"⟩
abbrev cX8_shortest : ByteArray := prog_10_method_5_code
def yX8_shortest : MethodName := ⟨RX8, "shortest", "(LOnlyWhatIsLost$Grid;)I"⟩
abbrev cX8_shortestThrough : ByteArray := prog_10_method_6_code
def yX8_shortestThrough : MethodName := ⟨RX8, "shortestThrough", "(LOnlyWhatIsLost$Grid;II)I"⟩
abbrev cX8_shortestOn : ByteArray := prog_10_method_7_code
def yX8_shortestOn : MethodName := ⟨RX8, "shortestOn", "(LOnlyWhatIsLost$Grid;II)I"⟩
def RX9 : String := "OnlyWhatIsLost"
def TX9 : u_T := fun k => match k with
  | 0 => ("OnlyWhatIsLost", "text", "LOnlyWhatIsLost$Letters;", true)
  | 1 => ("OnlyWhatIsLost", "reader", "LOnlyWhatIsLost$Reader;", true)
  | 2 => ("OnlyWhatIsLost", "here", "LOnlyWhatIsLost$Country;", true)
  | 3 => ("OnlyWhatIsLost", "done", "LOnlyWhatIsLost$Shelf;", true)
  | 4 => ("OnlyWhatIsLost", "kept", "LOnlyWhatIsLost$Shelf;", true)
  | 5 => ("OnlyWhatIsLost", "trial", "LOnlyWhatIsLost$Moment;", true)
  | 6 => ("OnlyWhatIsLost", "paths", "LOnlyWhatIsLost$Paths;", true)
  | 7 => ("OnlyWhatIsLost", "tour", "LOnlyWhatIsLost$Tour;", true)
  | 8 => ("OnlyWhatIsLost", "seenCells", "J", false)
  | _ => ("OnlyWhatIsLost", "seenTimes", "I", false)
def tyX9 : Nat → FieldType := fun k => match k with
  | 0 => .object "OnlyWhatIsLost$Letters"
  | 1 => .object "OnlyWhatIsLost$Reader"
  | 2 => .object "OnlyWhatIsLost$Country"
  | 3 => .object "OnlyWhatIsLost$Shelf"
  | 4 => .object "OnlyWhatIsLost$Shelf"
  | 5 => .object "OnlyWhatIsLost$Moment"
  | 6 => .object "OnlyWhatIsLost$Paths"
  | 7 => .object "OnlyWhatIsLost$Tour"
  | 8 => .long
  | _ => .int
abbrev wsX90 : List Cond := u_ws RX9 TX9 10
theorem nmX9 : ∀ a, a < 10 → ∀ b, b < 10 → a ≠ b → (TX9 a).2.1 ≠ (TX9 b).2.1 := by decide +kernel
theorem tyX9_ok : ∀ k, k < 10 → parseFieldDescriptor (TX9 k).2.2.1 = some (tyX9 k) := by decide +kernel
abbrev cX9_init : ByteArray := prog_1_method_1_code
def yX9_init : MethodName := ⟨RX9, "<init>", "()V"⟩
abbrev cX9_write : ByteArray := prog_1_method_2_code
def yX9_write : MethodName := ⟨RX9, "write", "(I)I"⟩
abbrev cX9_wipe : ByteArray := prog_1_method_3_code
def yX9_wipe : MethodName := ⟨RX9, "wipe", "()I"⟩
abbrev cX9_fault : ByteArray := prog_1_method_4_code
def yX9_fault : MethodName := ⟨RX9, "fault", "()I"⟩
abbrev cX9_lay : ByteArray := prog_1_method_5_code
def yX9_lay : MethodName := ⟨RX9, "lay", "()I"⟩
abbrev cX9_thing : ByteArray := prog_1_method_6_code
def yX9_thing : MethodName := ⟨RX9, "thing", "(II)I"⟩
abbrev cX9_at : ByteArray := prog_1_method_7_code
def yX9_at : MethodName := ⟨RX9, "at", "(I)I"⟩
abbrev cX9_free : ByteArray := prog_1_method_8_code
def yX9_free : MethodName := ⟨RX9, "free", "(II)I"⟩
abbrev cX9_map : ByteArray := prog_1_method_9_code
def yX9_map : MethodName := ⟨RX9, "map", "(II)I"⟩
abbrev cX9_shows : ByteArray := prog_1_method_10_code
def yX9_shows : MethodName := ⟨RX9, "shows", "(II)I"⟩
abbrev cX9_pass : ByteArray := prog_1_method_11_code
def yX9_pass : MethodName := ⟨RX9, "pass", "(I)I"⟩
abbrev cX9_burn : ByteArray := prog_1_method_12_code
def yX9_burn : MethodName := ⟨RX9, "burn", "(I)I"⟩
abbrev cX9_build : ByteArray := prog_1_method_13_code
def yX9_build : MethodName := ⟨RX9, "build", "(I)I"⟩
abbrev cX9_undo : ByteArray := prog_1_method_14_code
def yX9_undo : MethodName := ⟨RX9, "undo", "()I"⟩
abbrev cX9_way : ByteArray := prog_1_method_15_code
def yX9_way : MethodName := ⟨RX9, "way", "(II)I"⟩
abbrev cX9_sure : ByteArray := prog_1_method_16_code
def yX9_sure : MethodName := ⟨RX9, "sure", "(III)I"⟩
abbrev cX9_pull : ByteArray := prog_1_method_17_code
def yX9_pull : MethodName := ⟨RX9, "pull", "(IIZ)I"⟩
abbrev cX9_wander : ByteArray := prog_1_method_18_code
def yX9_wander : MethodName := ⟨RX9, "wander", "(III)I"⟩
abbrev cX9_wrong : ByteArray := prog_1_method_19_code
def yX9_wrong : MethodName := ⟨RX9, "wrong", "(II)I"⟩
abbrev cX9_older : ByteArray := prog_1_method_20_code
def yX9_older : MethodName := ⟨RX9, "older", "()I"⟩
abbrev cX9_seen : ByteArray := prog_1_method_21_code
def yX9_seen : MethodName := ⟨RX9, "seen", "(I)I"⟩
abbrev cX9_forget : ByteArray := prog_1_method_22_code
def yX9_forget : MethodName := ⟨RX9, "forget", "()I"⟩
abbrev cX9_found : ByteArray := prog_1_method_23_code
def yX9_found : MethodName := ⟨RX9, "found", "(I)I"⟩
abbrev cX9_round : ByteArray := prog_1_method_24_code
def yX9_round : MethodName := ⟨RX9, "round", "(I)I"⟩
abbrev cX9_fire : ByteArray := prog_1_method_25_code
def yX9_fire : MethodName := ⟨RX9, "fire", "(III)I"⟩
abbrev cX9_land : ByteArray := prog_1_method_26_code
def yX9_land : MethodName := ⟨RX9, "land", "(III)I"⟩
abbrev cX9_keep : ByteArray := prog_1_method_27_code
def yX9_keep : MethodName := ⟨RX9, "keep", "()I"⟩
abbrev cX9_back : ByteArray := prog_1_method_28_code
def yX9_back : MethodName := ⟨RX9, "back", "()I"⟩
abbrev cX9_count : ByteArray := prog_1_method_29_code
def yX9_count : MethodName := ⟨RX9, "count", "(I)I"⟩
abbrev cX9_layText : ByteArray := prog_1_method_30_code
def yX9_layText : MethodName := ⟨RX9, "layText", "()Z"⟩
abbrev cX9_forgetAll : ByteArray := prog_1_method_31_code
def yX9_forgetAll : MethodName := ⟨RX9, "forgetAll", "()V"⟩
abbrev cX9_areCells : ByteArray := prog_1_method_32_code
def yX9_areCells : MethodName := ⟨RX9, "areCells", "(II)Z"⟩
abbrev cX9_freeCells : ByteArray := prog_1_method_33_code
def yX9_freeCells : MethodName := ⟨RX9, "freeCells", "()J"⟩
abbrev cX9_stepsOfWanderer : ByteArray := prog_1_method_34_code
def yX9_stepsOfWanderer : MethodName := ⟨RX9, "stepsOfWanderer", "(JJII)I"⟩
abbrev cX9_handsShowing : ByteArray := prog_1_method_35_code
def yX9_handsShowing : MethodName := ⟨RX9, "handsShowing", "(J)I"⟩
abbrev cX9_firstHandShowing : ByteArray := prog_1_method_36_code
def yX9_firstHandShowing : MethodName := ⟨RX9, "firstHandShowing", "(J)I"⟩
abbrev cX9_showsJustSeen : ByteArray := prog_1_method_37_code
def yX9_showsJustSeen : MethodName := ⟨RX9, "showsJustSeen", "(JI)Z"⟩
abbrev cX9_drawOf : ByteArray := prog_1_method_38_code
def yX9_drawOf : MethodName := ⟨RX9, "drawOf", "(II)I"⟩
abbrev cX9_isZeroOrOne : ByteArray := prog_1_method_39_code
def yX9_isZeroOrOne : MethodName := ⟨RX9, "isZeroOrOne", "(I)Z"⟩
abbrev cX9_oneIf : ByteArray := prog_1_method_40_code
def yX9_oneIf : MethodName := ⟨RX9, "oneIf", "(Z)I"⟩
abbrev cX9_orNone : ByteArray := prog_1_method_41_code
def yX9_orNone : MethodName := ⟨RX9, "orNone", "(I)I"⟩
abbrev cX9_bitOf : ByteArray := prog_1_method_42_code
def yX9_bitOf : MethodName := ⟨RX9, "bitOf", "(I)J"⟩
abbrev cX9_holds : ByteArray := prog_1_method_43_code
def yX9_holds : MethodName := ⟨RX9, "holds", "(JI)Z"⟩
abbrev cX9_lowestOf : ByteArray := prog_1_method_44_code
def yX9_lowestOf : MethodName := ⟨RX9, "lowestOf", "(J)I"⟩
def RX10 : String := "OnlyWhatIsLostModel"
def TX10 : u_T := fun k => match k with
  | 0 => ("OnlyWhatIsLostModel", "text", "[B", true)
  | 1 => ("OnlyWhatIsLostModel", "typed", "I", false)
  | 2 => ("OnlyWhatIsLostModel", "rows", "[I", true)
  | 3 => ("OnlyWhatIsLostModel", "columns", "[I", true)
  | 4 => ("OnlyWhatIsLostModel", "maps", "[I", true)
  | 5 => ("OnlyWhatIsLostModel", "mapYear", "[I", true)
  | 6 => ("OnlyWhatIsLostModel", "mapDown", "[I", true)
  | 7 => ("OnlyWhatIsLostModel", "mapRight", "[I", true)
  | 8 => ("OnlyWhatIsLostModel", "drafts", "[I", true)
  | 9 => ("OnlyWhatIsLostModel", "draftMany", "I", false)
  | 10 => ("OnlyWhatIsLostModel", "at", "I", false)
  | 11 => ("OnlyWhatIsLostModel", "isSo", "Z", false)
  | 12 => ("OnlyWhatIsLostModel", "now", "[I", true)
  | 13 => ("OnlyWhatIsLostModel", "deeds", "I", false)
  | 14 => ("OnlyWhatIsLostModel", "kept", "I", false)
  | 15 => ("OnlyWhatIsLostModel", "takes", "[I", true)
  | 16 => ("OnlyWhatIsLostModel", "costs", "[I", true)
  | 17 => ("OnlyWhatIsLostModel", "seenAt", "[I", true)
  | 18 => ("OnlyWhatIsLostModel", "seenMany", "I", false)
  | 19 => ("OnlyWhatIsLostModel", "goals", "[I", true)
  | _ => ("OnlyWhatIsLostModel", "tour", "[I", true)
def tyX10 : Nat → FieldType := fun k => match k with
  | 0 => .array .byte
  | 1 => .int
  | 2 => .array .int
  | 3 => .array .int
  | 4 => .array .int
  | 5 => .array .int
  | 6 => .array .int
  | 7 => .array .int
  | 8 => .array .int
  | 9 => .int
  | 10 => .int
  | 11 => .boolean
  | 12 => .array .int
  | 13 => .int
  | 14 => .int
  | 15 => .array .int
  | 16 => .array .int
  | 17 => .array .int
  | 18 => .int
  | 19 => .array .int
  | _ => .array .int
abbrev wsX100 : List Cond := u_ws RX10 TX10 21
theorem nmX10 : ∀ a, a < 21 → ∀ b, b < 21 → a ≠ b → (TX10 a).2.1 ≠ (TX10 b).2.1 := by decide +kernel
theorem tyX10_ok : ∀ k, k < 21 → parseFieldDescriptor (TX10 k).2.2.1 = some (tyX10 k) := by decide +kernel
abbrev cX10_init : ByteArray := prog_12_method_1_code
def yX10_init : MethodName := ⟨RX10, "<init>", "()V"⟩
abbrev cX10_first : ByteArray := prog_12_method_2_code
def yX10_first : MethodName := ⟨RX10, "first", "(IIIII)V"⟩
abbrev cX10_putMap : ByteArray := prog_12_method_3_code
def yX10_putMap : MethodName := ⟨RX10, "putMap", "(IIIII)V"⟩
abbrev cX10_in : ByteArray := prog_12_method_5_code
def yX10_in : MethodName := ⟨RX10, "in", "(III)Z"⟩
abbrev cX10_write : ByteArray := prog_12_method_6_code
def yX10_write : MethodName := ⟨RX10, "write", "(I)I"⟩
abbrev cX10_wipe : ByteArray := prog_12_method_7_code
def yX10_wipe : MethodName := ⟨RX10, "wipe", "()I"⟩
abbrev cX10_here : ByteArray := prog_12_method_8_code
def yX10_here : MethodName := ⟨RX10, "here", "()I"⟩
abbrev cX10_number : ByteArray := prog_12_method_9_code
def yX10_number : MethodName := ⟨RX10, "number", "(III)I"⟩
abbrev cX10_cells : ByteArray := prog_12_method_10_code
def yX10_cells : MethodName := ⟨RX10, "cells", "(I)I"⟩
abbrev cX10_readItem : ByteArray := prog_12_method_11_code
def yX10_readItem : MethodName := ⟨RX10, "readItem", "()V"⟩
abbrev cX10_fault : ByteArray := prog_12_method_12_code
def yX10_fault : MethodName := ⟨RX10, "fault", "()I"⟩
abbrev cX10_lay : ByteArray := prog_12_method_13_code
def yX10_lay : MethodName := ⟨RX10, "lay", "()I"⟩
abbrev cX10_copy : ByteArray := prog_12_method_14_code
def yX10_copy : MethodName := ⟨RX10, "copy", "(II)V"⟩
abbrev cX10_isCell : ByteArray := prog_12_method_15_code
def yX10_isCell : MethodName := ⟨RX10, "isCell", "(I)Z"⟩
abbrev cX10_isThing : ByteArray := prog_12_method_16_code
def yX10_isThing : MethodName := ⟨RX10, "isThing", "(I)Z"⟩
abbrev cX10_isMap : ByteArray := prog_12_method_17_code
def yX10_isMap : MethodName := ⟨RX10, "isMap", "(I)Z"⟩
abbrev cX10_stands : ByteArray := prog_12_method_18_code
def yX10_stands : MethodName := ⟨RX10, "stands", "(III)Z"⟩
abbrev cX10_isLost : ByteArray := prog_12_method_19_code
def yX10_isLost : MethodName := ⟨RX10, "isLost", "(III)Z"⟩
abbrev cX10_thing : ByteArray := prog_12_method_20_code
def yX10_thing : MethodName := ⟨RX10, "thing", "(II)I"⟩
abbrev cX10_thingAt : ByteArray := prog_12_method_21_code
def yX10_thingAt : MethodName := ⟨RX10, "thingAt", "(I)I"⟩
abbrev cX10_at : ByteArray := prog_12_method_22_code
def yX10_at : MethodName := ⟨RX10, "at", "(I)I"⟩
abbrev cX10_taken : ByteArray := prog_12_method_23_code
def yX10_taken : MethodName := ⟨RX10, "taken", "(II)J"⟩
abbrev cX10_free : ByteArray := prog_12_method_24_code
def yX10_free : MethodName := ⟨RX10, "free", "(II)I"⟩
abbrev cX10_trueTo : ByteArray := prog_12_method_25_code
def yX10_trueTo : MethodName := ⟨RX10, "trueTo", "(II)J"⟩
abbrev cX10_byHand : ByteArray := prog_12_method_26_code
def yX10_byHand : MethodName := ⟨RX10, "byHand", "(JII)J"⟩
abbrev cX10_shown : ByteArray := prog_12_method_27_code
def yX10_shown : MethodName := ⟨RX10, "shown", "(I)J"⟩
abbrev cX10_manyOf : ByteArray := prog_12_method_28_code
def yX10_manyOf : MethodName := ⟨RX10, "manyOf", "(J)I"⟩
abbrev cX10_lowest : ByteArray := prog_12_method_29_code
def yX10_lowest : MethodName := ⟨RX10, "lowest", "(J)I"⟩
abbrev cX10_map : ByteArray := prog_12_method_30_code
def yX10_map : MethodName := ⟨RX10, "map", "(II)I"⟩
abbrev cX10_shows : ByteArray := prog_12_method_31_code
def yX10_shows : MethodName := ⟨RX10, "shows", "(II)I"⟩
abbrev cX10_know : ByteArray := prog_12_method_32_code
def yX10_know : MethodName := ⟨RX10, "know", "()V"⟩
abbrev cX10_pass : ByteArray := prog_12_method_33_code
def yX10_pass : MethodName := ⟨RX10, "pass", "(I)I"⟩
abbrev cX10_canBurn : ByteArray := prog_12_method_34_code
def yX10_canBurn : MethodName := ⟨RX10, "canBurn", "(II)Z"⟩
abbrev cX10_burn : ByteArray := prog_12_method_35_code
def yX10_burn : MethodName := ⟨RX10, "burn", "(I)I"⟩
abbrev cX10_build : ByteArray := prog_12_method_36_code
def yX10_build : MethodName := ⟨RX10, "build", "(I)I"⟩
abbrev cX10_undo : ByteArray := prog_12_method_37_code
def yX10_undo : MethodName := ⟨RX10, "undo", "()I"⟩
abbrev cX10_beside : ByteArray := prog_12_method_38_code
def yX10_beside : MethodName := ⟨RX10, "beside", "(II)I"⟩
abbrev cX10_findTo : ByteArray := prog_12_method_39_code
def yX10_findTo : MethodName := ⟨RX10, "findTo", "(I)V"⟩
abbrev cX10_stepsIn : ByteArray := prog_12_method_40_code
def yX10_stepsIn : MethodName := ⟨RX10, "stepsIn", "(JII)I"⟩
abbrev cX10_way : ByteArray := prog_12_method_41_code
def yX10_way : MethodName := ⟨RX10, "way", "(II)I"⟩
abbrev cX10_sure : ByteArray := prog_12_method_42_code
def yX10_sure : MethodName := ⟨RX10, "sure", "(III)I"⟩
abbrev cX10_pulled : ByteArray := prog_12_method_43_code
def yX10_pulled : MethodName := ⟨RX10, "pulled", "(II)I"⟩
abbrev cX10_manyIn : ByteArray := prog_12_method_44_code
def yX10_manyIn : MethodName := ⟨RX10, "manyIn", "(I)I"⟩
abbrev cX10_friends : ByteArray := prog_12_method_45_code
def yX10_friends : MethodName := ⟨RX10, "friends", "(II)I"⟩
abbrev cX10_pull : ByteArray := prog_12_method_46_code
def yX10_pull : MethodName := ⟨RX10, "pull", "(IIZ)I"⟩
abbrev cX10_wander : ByteArray := prog_12_method_47_code
def yX10_wander : MethodName := ⟨RX10, "wander", "(III)I"⟩
abbrev cX10_wrong : ByteArray := prog_12_method_48_code
def yX10_wrong : MethodName := ⟨RX10, "wrong", "(II)I"⟩
abbrev cX10_nextMap : ByteArray := prog_12_method_49_code
def yX10_nextMap : MethodName := ⟨RX10, "nextMap", "(I)I"⟩
abbrev cX10_older : ByteArray := prog_12_method_50_code
def yX10_older : MethodName := ⟨RX10, "older", "()I"⟩
abbrev cX10_seen : ByteArray := prog_12_method_51_code
def yX10_seen : MethodName := ⟨RX10, "seen", "(I)I"⟩
abbrev cX10_forget : ByteArray := prog_12_method_52_code
def yX10_forget : MethodName := ⟨RX10, "forget", "()I"⟩
abbrev cX10_found : ByteArray := prog_12_method_53_code
def yX10_found : MethodName := ⟨RX10, "found", "(I)I"⟩
abbrev cX10_apart : ByteArray := prog_12_method_54_code
def yX10_apart : MethodName := ⟨RX10, "apart", "(II)I"⟩
abbrev cX10_round : ByteArray := prog_12_method_55_code
def yX10_round : MethodName := ⟨RX10, "round", "(I)I"⟩
abbrev cX10_fire : ByteArray := prog_12_method_56_code
def yX10_fire : MethodName := ⟨RX10, "fire", "(III)I"⟩
abbrev cX10_land : ByteArray := prog_12_method_57_code
def yX10_land : MethodName := ⟨RX10, "land", "(III)I"⟩
abbrev cX10_manyBy : ByteArray := prog_12_method_58_code
def yX10_manyBy : MethodName := ⟨RX10, "manyBy", "(IZ)I"⟩
abbrev cX10_keep : ByteArray := prog_12_method_59_code
def yX10_keep : MethodName := ⟨RX10, "keep", "()I"⟩
abbrev cX10_back : ByteArray := prog_12_method_60_code
def yX10_back : MethodName := ⟨RX10, "back", "()I"⟩
abbrev cX10_count : ByteArray := prog_12_method_61_code
def yX10_count : MethodName := ⟨RX10, "count", "(I)I"⟩
def RJ13 : String := "java/lang/Long"
def TJ13 : u_T := fun k => match k with
  | _ => ("", "", "", false)
def tyJ13 : Nat → FieldType := fun k => match k with
  | _ => .int
abbrev wsJ130 : List Cond := u_ws RJ13 TJ13 0
theorem nmJ13 : ∀ a, a < 0 → ∀ b, b < 0 → a ≠ b → (TJ13 a).2.1 ≠ (TJ13 b).2.1 := by decide +kernel
theorem tyJ13_ok : ∀ k, k < 0 → parseFieldDescriptor (TJ13 k).2.2.1 = some (tyJ13 k) := by decide +kernel
abbrev cJ13_bitCount_95d88 : ByteArray := prog_13_method_50_code
def yJ13_bitCount_95d88 : MethodName := ⟨RJ13, "bitCount", "(J)I"⟩
def RJ9 : String := "java/lang/Math"
def TJ9 : u_T := fun k => match k with
  | _ => ("", "", "", false)
def tyJ9 : Nat → FieldType := fun k => match k with
  | _ => .int
abbrev wsJ90 : List Cond := u_ws RJ9 TJ9 0
theorem nmJ9 : ∀ a, a < 0 → ∀ b, b < 0 → a ≠ b → (TJ9 a).2.1 ≠ (TJ9 b).2.1 := by decide +kernel
theorem tyJ9_ok : ∀ k, k < 0 → parseFieldDescriptor (TJ9 k).2.2.1 = some (tyJ9 k) := by decide +kernel
abbrev cJ9_abs_0f7a4 : ByteArray := prog_14_method_59_code
def yJ9_abs_0f7a4 : MethodName := ⟨RJ9, "abs", "(I)I"⟩
abbrev cJ9_max_7cf53 : ByteArray := prog_14_method_65_code
def yJ9_max_7cf53 : MethodName := ⟨RJ9, "max", "(II)I"⟩
abbrev cJ9_min_7cf53 : ByteArray := prog_14_method_69_code
def yJ9_min_7cf53 : MethodName := ⟨RJ9, "min", "(II)I"⟩
def RJ0 : String := "java/lang/String"
def TJ0 : u_T := fun k => match k with
  | _ => ("", "", "", false)
def tyJ0 : Nat → FieldType := fun k => match k with
  | _ => .int
abbrev wsJ00 : List Cond := u_ws RJ0 TJ0 0
theorem nmJ0 : ∀ a, a < 0 → ∀ b, b < 0 → a ≠ b → (TJ0 a).2.1 ≠ (TJ0 b).2.1 := by decide +kernel
theorem tyJ0_ok : ∀ k, k < 0 → parseFieldDescriptor (TJ0 k).2.2.1 = some (tyJ0 k) := by decide +kernel
abbrev cJ0_length_8abf5 : ByteArray := prog_15_method_54_code
def yJ0_length_8abf5 : MethodName := ⟨RJ0, "length", "()I"⟩
abbrev cJ0_charAt_5068e : ByteArray := prog_15_method_56_code
def yJ0_charAt_5068e : MethodName := ⟨RJ0, "charAt", "(I)C"⟩
abbrev cJ0_coder_7d493 : ByteArray := prog_15_method_152_code
def yJ0_coder_7d493 : MethodName := ⟨RJ0, "coder", "()B"⟩
abbrev cJ0_isLatin1_aae02 : ByteArray := prog_15_method_154_code
def yJ0_isLatin1_aae02 : MethodName := ⟨RJ0, "isLatin1", "()Z"⟩
abbrev cJ0_checkIndex_df160 : ByteArray := prog_15_method_155_code
def yJ0_checkIndex_df160 : MethodName := ⟨RJ0, "checkIndex", "(II)V"⟩
def RJ1 : String := "java/lang/StringLatin1"
def TJ1 : u_T := fun k => match k with
  | _ => ("", "", "", false)
def tyJ1 : Nat → FieldType := fun k => match k with
  | _ => .int
abbrev wsJ10 : List Cond := u_ws RJ1 TJ1 0
theorem nmJ1 : ∀ a, a < 0 → ∀ b, b < 0 → a ≠ b → (TJ1 a).2.1 ≠ (TJ1 b).2.1 := by decide +kernel
theorem tyJ1_ok : ∀ k, k < 0 → parseFieldDescriptor (TJ1 k).2.2.1 = some (tyJ1 k) := by decide +kernel
abbrev cJ1_charAt_3b067 : ByteArray := prog_16_method_2_code
def yJ1_charAt_3b067 : MethodName := ⟨RJ1, "charAt", "([BI)C"⟩
def RJ2 : String := "java/lang/StringUTF16"
def TJ2 : u_T := fun k => match k with
  | _ => ("", "", "", false)
def tyJ2 : Nat → FieldType := fun k => match k with
  | _ => .int
abbrev wsJ20 : List Cond := u_ws RJ2 TJ2 0
theorem nmJ2 : ∀ a, a < 0 → ∀ b, b < 0 → a ≠ b → (TJ2 a).2.1 ≠ (TJ2 b).2.1 := by decide +kernel
theorem tyJ2_ok : ∀ k, k < 0 → parseFieldDescriptor (TJ2 k).2.2.1 = some (tyJ2 k) := by decide +kernel
abbrev cJ2_getChar_3b067 : ByteArray := prog_17_method_5_code
def yJ2_getChar_3b067 : MethodName := ⟨RJ2, "getChar", "([BI)C"⟩
abbrev cJ2_length_9d52b : ByteArray := prog_17_method_6_code
def yJ2_length_9d52b : MethodName := ⟨RJ2, "length", "([B)I"⟩
abbrev cJ2_charAt_3b067 : ByteArray := prog_17_method_83_code
def yJ2_charAt_3b067 : MethodName := ⟨RJ2, "charAt", "([BI)C"⟩
abbrev cJ2_checkIndex_2214a : ByteArray := prog_17_method_91_code
def yJ2_checkIndex_2214a : MethodName := ⟨RJ2, "checkIndex", "(I[B)V"⟩
def RJ10 : String := "java/lang/System"
def TJ10 : u_T := fun k => match k with
  | _ => ("", "", "", false)
def tyJ10 : Nat → FieldType := fun k => match k with
  | _ => .int
abbrev wsJ100 : List Cond := u_ws RJ10 TJ10 0
theorem nmJ10 : ∀ a, a < 0 → ∀ b, b < 0 → a ≠ b → (TJ10 a).2.1 ≠ (TJ10 b).2.1 := by decide +kernel
theorem tyJ10_ok : ∀ k, k < 0 → parseFieldDescriptor (TJ10 k).2.2.1 = some (tyJ10 k) := by decide +kernel
def RJ3 : String := "jdk/internal/util/Preconditions"
def TJ3 : u_T := fun k => match k with
  | _ => ("", "", "", false)
def tyJ3 : Nat → FieldType := fun k => match k with
  | _ => .int
abbrev wsJ30 : List Cond := u_ws RJ3 TJ3 0
theorem nmJ3 : ∀ a, a < 0 → ∀ b, b < 0 → a ≠ b → (TJ3 a).2.1 ≠ (TJ3 b).2.1 := by decide +kernel
theorem tyJ3_ok : ∀ k, k < 0 → parseFieldDescriptor (TJ3 k).2.2.1 = some (tyJ3 k) := by decide +kernel
abbrev cJ3_checkIndex_8e157 : ByteArray := prog_19_method_11_code
def yJ3_checkIndex_8e157 : MethodName := ⟨RJ3, "checkIndex", "(IILjava/util/function/BiFunction;)I"⟩
def RL : String := "OnlyWhatIsLostLaw"
abbrev cL_law : ByteArray := code
def yL_law : MethodName := ⟨RL, "law", "([I)Z"⟩
def wsL_law_r1 : List Cond := [Cond.classLink RL 7 RX9, Cond.instantiable RX9 10, Cond.initialized RX9, Cond.classLink RL 10 RX10, Cond.instantiable RX10 21, Cond.initialized RX10, Cond.methodLink RL 9 yX9_init, Cond.instanceMethod yX9_init, Cond.code yX9_init cX9_init 2 none, Cond.methodLink RX9 3 objectInit, Cond.instanceMethod objectInit, Cond.code objectInit ⟨#[0xb1]⟩ 1 none, Cond.classLink RX9 9 RX3, Cond.instantiable RX3 2, Cond.initialized RX3, Cond.fieldLink RX9 12 "OnlyWhatIsLost" "text" "LOnlyWhatIsLost$Letters;", Cond.classLink RX9 16 RX6, Cond.instantiable RX6 2, Cond.initialized RX6, Cond.fieldLink RX9 19 "OnlyWhatIsLost" "reader" "LOnlyWhatIsLost$Reader;", Cond.classLink RX9 23 RX1, Cond.instantiable RX1 3, Cond.initialized RX1, Cond.fieldLink RX9 26 "OnlyWhatIsLost" "here" "LOnlyWhatIsLost$Country;"]
def wsL_law_r2 : List Cond := [Cond.classLink RX9 30 RX7, Cond.instantiable RX7 2, Cond.initialized RX7, Cond.fieldLink RX9 35 "OnlyWhatIsLost" "done" "LOnlyWhatIsLost$Shelf;", Cond.fieldLink RX9 39 "OnlyWhatIsLost" "kept" "LOnlyWhatIsLost$Shelf;", Cond.classLink RX9 42 RX4, Cond.instantiable RX4 6, Cond.initialized RX4, Cond.fieldLink RX9 45 "OnlyWhatIsLost" "trial" "LOnlyWhatIsLost$Moment;", Cond.classLink RX9 49 RX5, Cond.instantiable RX5 6, Cond.initialized RX5, Cond.fieldLink RX9 52 "OnlyWhatIsLost" "paths" "LOnlyWhatIsLost$Paths;", Cond.classLink RX9 56 RX8, Cond.instantiable RX8 4, Cond.initialized RX8, Cond.fieldLink RX9 59 "OnlyWhatIsLost" "tour" "LOnlyWhatIsLost$Tour;", Cond.instanceMethod yX3_init, Cond.code yX3_init cX3_init 1 none, Cond.methodLink RX3 3 objectInit, Cond.arrayClass .char, Cond.fieldLink RX3 9 "OnlyWhatIsLost$Letters" "signs" "[C", Cond.instanceMethod yX6_init, Cond.code yX6_init cX6_init 1 none]
def wsL_law_r3 : List Cond := [Cond.methodLink RX6 3 objectInit, Cond.classLink RX6 9 RX1, Cond.fieldLink RX6 12 "OnlyWhatIsLost$Reader" "draft" "LOnlyWhatIsLost$Country;", Cond.arrayClass .int, Cond.fieldLink RX6 18 "OnlyWhatIsLost$Reader" "numbers" "[I", Cond.instanceMethod yX1_init, Cond.code yX1_init cX1_init 1 none, Cond.methodLink RX1 3 objectInit, Cond.classLink RX1 9 RX2, Cond.instantiable RX2 2, Cond.initialized RX2, Cond.fieldLink RX1 12 "OnlyWhatIsLost$Country" "grid" "LOnlyWhatIsLost$Grid;", Cond.classLink RX1 18 RX4, Cond.fieldLink RX1 21 "OnlyWhatIsLost$Country" "now" "LOnlyWhatIsLost$Moment;", Cond.classLink RX1 25 RX0, Cond.instantiable RX0 4, Cond.initialized RX0, Cond.fieldLink RX1 28 "OnlyWhatIsLost$Country" "charts" "LOnlyWhatIsLost$Charts;", Cond.instanceMethod yX2_init, Cond.code yX2_init cX2_init 1 none, Cond.methodLink RX2 3 objectInit, Cond.fieldLink RX2 9 "OnlyWhatIsLost$Grid" "rows" "I", Cond.fieldLink RX2 15 "OnlyWhatIsLost$Grid" "columns" "I", Cond.instanceMethod yX4_init]
def wsL_law_r4 : List Cond := [Cond.code yX4_init cX4_init 1 none, Cond.methodLink RX4 3 objectInit, Cond.fieldLink RX4 9 "OnlyWhatIsLost$Moment" "cells" "[I", Cond.fieldLink RX4 15 "OnlyWhatIsLost$Moment" "starts" "[I", Cond.fieldLink RX4 18 "OnlyWhatIsLost$Moment" "falls" "[I", Cond.fieldLink RX4 21 "OnlyWhatIsLost$Moment" "kinds" "[I", Cond.instanceMethod yX0_init, Cond.code yX0_init cX0_init 1 none, Cond.methodLink RX0 3 objectInit, Cond.fieldLink RX0 9 "OnlyWhatIsLost$Charts" "years" "[I", Cond.fieldLink RX0 15 "OnlyWhatIsLost$Charts" "downs" "[I", Cond.fieldLink RX0 18 "OnlyWhatIsLost$Charts" "rights" "[I", Cond.methodLink RX9 32 yX7_init, Cond.instanceMethod yX7_init, Cond.code yX7_init cX7_init 3 none, Cond.methodLink RX7 1 objectInit, Cond.methodLink RX7 7 Lib.Math.max.name, Cond.static Lib.Math.max.name, Cond.initialized "java/lang/Math", Cond.code Lib.Math.max.name Lib.Math.max.code 2 (some .int), Cond.classLink RX7 13 RX4, Cond.fieldLink RX7 15 "OnlyWhatIsLost$Shelf" "moments" "[LOnlyWhatIsLost$Moment;", Cond.instanceMethod yX5_init, Cond.code yX5_init cX5_init 1 none]
def wsL_law_r5 : List Cond := [Cond.methodLink RX5 3 objectInit, Cond.fieldLink RX5 9 "OnlyWhatIsLost$Paths" "prices" "[I", Cond.fieldLink RX5 15 "OnlyWhatIsLost$Paths" "rests" "[I", Cond.fieldLink RX5 18 "OnlyWhatIsLost$Paths" "queue" "[I", Cond.instanceMethod yX8_init, Cond.code yX8_init cX8_init 1 none, Cond.methodLink RX8 3 objectInit, Cond.fieldLink RX8 9 "OnlyWhatIsLost$Tour" "stops" "[I", Cond.fieldLink RX8 15 "OnlyWhatIsLost$Tour" "best" "[I", Cond.methodLink RX9 65 yJ0_length_8abf5, Cond.instanceMethod yJ0_length_8abf5, Cond.selects RJ0 yJ0_length_8abf5 yJ0_length_8abf5, Cond.initialized RJ0, Cond.code yJ0_length_8abf5 cJ0_length_8abf5 1 (some .int), Cond.fieldLink RJ0 9 "java/lang/String" "value" "[B", Cond.methodLink RJ0 335 yJ0_coder_7d493, Cond.instanceMethod yJ0_coder_7d493, Cond.selects RJ0 yJ0_coder_7d493 yJ0_coder_7d493, Cond.code yJ0_coder_7d493 cJ0_coder_7d493 1 (some .byte), Cond.fieldLink RJ0 38 "java/lang/String" "COMPACT_STRINGS" "Z", Cond.fieldLink RJ0 15 "java/lang/String" "coder" "B", Cond.methodLink RX9 71 yJ0_charAt_5068e, Cond.instanceMethod yJ0_charAt_5068e, Cond.selects RJ0 yJ0_charAt_5068e yJ0_charAt_5068e]
def wsL_law_r6 : List Cond := [Cond.code yJ0_charAt_5068e cJ0_charAt_5068e 2 (some .char), Cond.methodLink RJ0 492 yJ0_isLatin1_aae02, Cond.instanceMethod yJ0_isLatin1_aae02, Cond.selects RJ0 yJ0_isLatin1_aae02 yJ0_isLatin1_aae02, Cond.code yJ0_isLatin1_aae02 cJ0_isLatin1_aae02 1 (some .boolean), Cond.methodLink RJ0 495 yJ1_charAt_3b067, Cond.static yJ1_charAt_3b067, Cond.initialized RJ1, Cond.code yJ1_charAt_3b067 cJ1_charAt_3b067 2 (some .char), Cond.methodLink RJ1 9 yJ0_checkIndex_df160, Cond.static yJ0_checkIndex_df160, Cond.code yJ0_checkIndex_df160 cJ0_checkIndex_df160 2 none, Cond.fieldLink RJ0 1053 "jdk/internal/util/Preconditions" "SIOOBE_FORMATTER" "Ljava/util/function/BiFunction;", Cond.methodLink RJ0 1059 yJ3_checkIndex_8e157, Cond.static yJ3_checkIndex_8e157, Cond.initialized RJ3, Cond.code yJ3_checkIndex_8e157 cJ3_checkIndex_8e157 3 (some .int), Cond.methodLink RJ0 498 yJ2_charAt_3b067, Cond.static yJ2_charAt_3b067, Cond.initialized RJ2, Cond.code yJ2_charAt_3b067 cJ2_charAt_3b067 2 (some .char), Cond.methodLink RJ2 67 yJ2_checkIndex_2214a, Cond.static yJ2_checkIndex_2214a, Cond.code yJ2_checkIndex_2214a cJ2_checkIndex_2214a 2 none]
def wsL_law_r7 : List Cond := [Cond.methodLink RJ2 48 yJ2_length_9d52b, Cond.static yJ2_length_9d52b, Cond.code yJ2_length_9d52b cJ2_length_9d52b 1 (some .int), Cond.methodLink RJ2 414 yJ0_checkIndex_df160, Cond.methodLink RJ2 71 yJ2_getChar_3b067, Cond.static yJ2_getChar_3b067, Cond.code yJ2_getChar_3b067 cJ2_getChar_3b067 2 (some .char), Cond.fieldLink RJ2 44 "java/lang/StringUTF16" "$assertionsDisabled" "Z", Cond.fieldLink RJ2 59 "java/lang/StringUTF16" "HI_BYTE_SHIFT" "I", Cond.fieldLink RJ2 63 "java/lang/StringUTF16" "LO_BYTE_SHIFT" "I", Cond.methodLink RX9 75 yX3_append, Cond.instanceMethod yX3_append, Cond.selects RX3 yX3_append yX3_append, Cond.code yX3_append cX3_append 2 (some .boolean), Cond.fieldLink RX3 15 "OnlyWhatIsLost$Letters" "total" "I", Cond.methodLink RX9 79 yX9_layText, Cond.instanceMethod yX9_layText, Cond.selects RX9 yX9_layText yX9_layText, Cond.code yX9_layText cX9_layText 1 (some .boolean), Cond.methodLink RX9 87 yX6_readAll, Cond.instanceMethod yX6_readAll, Cond.selects RX6 yX6_readAll yX6_readAll, Cond.code yX6_readAll cX6_readAll 6 (some .int), Cond.methodLink RX6 22 yX1_clear]
def wsL_law_r8 : List Cond := [Cond.instanceMethod yX1_clear, Cond.selects RX1 yX1_clear yX1_clear, Cond.code yX1_clear cX1_clear 1 none, Cond.methodLink RX1 32 yX2_resize, Cond.instanceMethod yX2_resize, Cond.selects RX2 yX2_resize yX2_resize, Cond.code yX2_resize cX2_resize 3 (some .boolean), Cond.methodLink RX2 18 yX2_isSide, Cond.static yX2_isSide, Cond.code yX2_isSide cX2_isSide 1 (some .boolean), Cond.methodLink RX1 36 yX4_clear, Cond.instanceMethod yX4_clear, Cond.selects RX4 yX4_clear yX4_clear, Cond.code yX4_clear cX4_clear 1 none, Cond.fieldLink RX4 24 "OnlyWhatIsLost$Moment" "total" "I", Cond.fieldLink RX4 28 "OnlyWhatIsLost$Moment" "year" "I", Cond.methodLink RX1 39 yX0_clear, Cond.instanceMethod yX0_clear, Cond.selects RX0 yX0_clear yX0_clear, Cond.code yX0_clear cX0_clear 1 none, Cond.fieldLink RX0 21 "OnlyWhatIsLost$Charts" "total" "I", Cond.methodLink RX6 25 yX3_length, Cond.instanceMethod yX3_length, Cond.selects RX3 yX3_length yX3_length]
def wsL_law_r9 : List Cond := [Cond.code yX3_length cX3_length 1 (some .int), Cond.methodLink RX6 31 yX3_signAt, Cond.instanceMethod yX3_signAt, Cond.selects RX3 yX3_signAt yX3_signAt, Cond.code yX3_signAt cX3_signAt 2 (some .char), Cond.methodLink RX6 35 yX6_numbersBehind, Cond.static yX6_numbersBehind, Cond.code yX6_numbersBehind cX6_numbersBehind 1 (some .int), Cond.methodLink RX6 39 yX6_readNumbers, Cond.instanceMethod yX6_readNumbers, Cond.selects RX6 yX6_readNumbers yX6_readNumbers, Cond.code yX6_readNumbers cX6_readNumbers 6 (some .int), Cond.methodLink RX6 47 yX3_isFigureAt, Cond.instanceMethod yX3_isFigureAt, Cond.selects RX3 yX3_isFigureAt yX3_isFigureAt, Cond.code yX3_isFigureAt cX3_isFigureAt 3 (some .boolean), Cond.methodLink RX3 19 yX3_signAt, Cond.methodLink RX6 43 yX6_isTaken, Cond.instanceMethod yX6_isTaken, Cond.selects RX6 yX6_isTaken yX6_isTaken, Cond.code yX6_isTaken cX6_isTaken 2 (some .boolean), Cond.methodLink RX6 51 yX6_takeRows, Cond.instanceMethod yX6_takeRows, Cond.selects RX6 yX6_takeRows yX6_takeRows]
def wsL_law_r10 : List Cond := [Cond.code yX6_takeRows cX6_takeRows 3 (some .boolean), Cond.methodLink RX6 67 yX4_size, Cond.instanceMethod yX4_size, Cond.selects RX4 yX4_size yX4_size, Cond.code yX4_size cX4_size 1 (some .int), Cond.methodLink RX6 76 yX0_size, Cond.instanceMethod yX0_size, Cond.selects RX0 yX0_size yX0_size, Cond.code yX0_size cX0_size 1 (some .int), Cond.methodLink RX6 83 yX2_resize, Cond.methodLink RX6 55 yX6_takeThing, Cond.instanceMethod yX6_takeThing, Cond.selects RX6 yX6_takeThing yX6_takeThing, Cond.code yX6_takeThing cX6_takeThing 5 (some .boolean), Cond.methodLink RX6 88 yX2_has, Cond.instanceMethod yX2_has, Cond.selects RX2 yX2_has yX2_has, Cond.code yX2_has cX2_has 2 (some .boolean), Cond.methodLink RX2 22 yX2_cells, Cond.instanceMethod yX2_cells, Cond.selects RX2 yX2_cells yX2_cells, Cond.code yX2_cells cX2_cells 1 (some .int), Cond.methodLink RX6 91 yX4_isFull, Cond.instanceMethod yX4_isFull]
def wsL_law_r11 : List Cond := [Cond.selects RX4 yX4_isFull yX4_isFull, Cond.code yX4_isFull cX4_isFull 1 (some .boolean), Cond.methodLink RX6 95 yX4_thingOf, Cond.instanceMethod yX4_thingOf, Cond.selects RX4 yX4_thingOf yX4_thingOf, Cond.code yX4_thingOf cX4_thingOf 3 (some .int), Cond.methodLink RX6 99 yX4_add, Cond.instanceMethod yX4_add, Cond.selects RX4 yX4_add yX4_add, Cond.code yX4_add cX4_add 5 (some .int), Cond.methodLink RX4 31 yX4_isFull, Cond.methodLink RX6 59 yX6_takeMap, Cond.instanceMethod yX6_takeMap, Cond.selects RX6 yX6_takeMap yX6_takeMap, Cond.code yX6_takeMap cX6_takeMap 4 (some .boolean), Cond.methodLink RX6 103 yX0_add, Cond.instanceMethod yX0_add, Cond.selects RX0 yX0_add yX0_add, Cond.code yX0_add cX0_add 4 (some .boolean), Cond.methodLink RX9 271 yX4_size, Cond.methodLink RX9 304 yX1_copyFrom, Cond.instanceMethod yX1_copyFrom, Cond.selects RX1 yX1_copyFrom yX1_copyFrom, Cond.code yX1_copyFrom cX1_copyFrom 2 none]
def wsL_law_r12 : List Cond := [Cond.methodLink RX1 47 yX4_copyFrom, Cond.instanceMethod yX4_copyFrom, Cond.selects RX4 yX4_copyFrom yX4_copyFrom, Cond.code yX4_copyFrom cX4_copyFrom 2 none, Cond.methodLink RX4 35 arraycopyName, Cond.native arraycopyName, Cond.static arraycopyName, Cond.initialized "java/lang/System", Cond.methodLink RX1 51 yX0_copyFrom, Cond.instanceMethod yX0_copyFrom, Cond.selects RX0 yX0_copyFrom yX0_copyFrom, Cond.code yX0_copyFrom cX0_copyFrom 2 none, Cond.methodLink RX0 25 arraycopyName, Cond.methodLink RX9 259 yX9_forgetAll, Cond.instanceMethod yX9_forgetAll, Cond.selects RX9 yX9_forgetAll yX9_forgetAll, Cond.code yX9_forgetAll cX9_forgetAll 1 none, Cond.fieldLink RX9 252 "OnlyWhatIsLost" "seenCells" "J", Cond.fieldLink RX9 249 "OnlyWhatIsLost" "seenTimes" "I", Cond.methodLink RX9 300 yX7_clear, Cond.instanceMethod yX7_clear, Cond.selects RX7 yX7_clear yX7_clear, Cond.code yX7_clear cX7_clear 1 none, Cond.fieldLink RX7 22 "OnlyWhatIsLost$Shelf" "total" "I"]
def wsL_law_r13 : List Cond := [Cond.methodLink RX9 83 yX3_clear, Cond.instanceMethod yX3_clear, Cond.selects RX3 yX3_clear yX3_clear, Cond.code yX3_clear cX3_clear 1 none, Cond.methodLink RL 12 yX10_init, Cond.instanceMethod yX10_init, Cond.code yX10_init cX10_init 1 none, Cond.methodLink RX10 1 objectInit, Cond.arrayClass .byte, Cond.fieldLink RX10 7 "OnlyWhatIsLostModel" "text" "[B", Cond.fieldLink RX10 13 "OnlyWhatIsLostModel" "rows" "[I", Cond.fieldLink RX10 17 "OnlyWhatIsLostModel" "columns" "[I", Cond.fieldLink RX10 20 "OnlyWhatIsLostModel" "maps" "[I", Cond.fieldLink RX10 23 "OnlyWhatIsLostModel" "mapYear" "[I", Cond.fieldLink RX10 26 "OnlyWhatIsLostModel" "mapDown" "[I", Cond.fieldLink RX10 29 "OnlyWhatIsLostModel" "mapRight" "[I", Cond.fieldLink RX10 32 "OnlyWhatIsLostModel" "drafts" "[I", Cond.fieldLink RX10 35 "OnlyWhatIsLostModel" "now" "[I", Cond.fieldLink RX10 38 "OnlyWhatIsLostModel" "takes" "[I", Cond.fieldLink RX10 41 "OnlyWhatIsLostModel" "costs" "[I", Cond.fieldLink RX10 44 "OnlyWhatIsLostModel" "seenAt" "[I", Cond.fieldLink RX10 47 "OnlyWhatIsLostModel" "goals" "[I", Cond.fieldLink RX10 50 "OnlyWhatIsLostModel" "tour" "[I", Cond.constant RX10 57 (100000)]
def wsL_law_r14 : List Cond := [Cond.methodLink RX10 53 yX10_first, Cond.instanceMethod yX10_first, Cond.selects RX10 yX10_first yX10_first, Cond.code yX10_first cX10_first 6 none, Cond.methodLink RX10 58 yX10_putMap, Cond.instanceMethod yX10_putMap, Cond.selects RX10 yX10_putMap yX10_putMap, Cond.code yX10_putMap cX10_putMap 6 none, Cond.methodLink RL 13 yX9_write, Cond.instanceMethod yX9_write, Cond.selects RX9 yX9_write yX9_write, Cond.code yX9_write cX9_write 2 (some .int), Cond.methodLink RX9 86 yX3_length, Cond.methodLink RL 17 yX10_write, Cond.instanceMethod yX10_write, Cond.selects RX10 yX10_write yX10_write, Cond.code yX10_write cX10_write 2 (some .int), Cond.fieldLink RX10 65 "OnlyWhatIsLostModel" "typed" "I", Cond.methodLink RX10 61 yX10_in, Cond.static yX10_in, Cond.code yX10_in cX10_in 3 (some .boolean), Cond.methodLink RL 18 yX9_wipe, Cond.instanceMethod yX9_wipe, Cond.selects RX9 yX9_wipe yX9_wipe]
def wsL_law_r15 : List Cond := [Cond.code yX9_wipe cX9_wipe 2 (some .int), Cond.methodLink RL 22 yX10_wipe, Cond.instanceMethod yX10_wipe, Cond.selects RX10 yX10_wipe yX10_wipe, Cond.code yX10_wipe cX10_wipe 2 (some .int), Cond.methodLink RL 23 yX9_fault, Cond.instanceMethod yX9_fault, Cond.selects RX9 yX9_fault yX9_fault, Cond.code yX9_fault cX9_fault 1 (some .int), Cond.methodLink RL 26 yX10_fault, Cond.instanceMethod yX10_fault, Cond.selects RX10 yX10_fault yX10_fault, Cond.code yX10_fault cX10_fault 2 (some .int), Cond.fieldLink RX10 69 "OnlyWhatIsLostModel" "at" "I", Cond.fieldLink RX10 80 "OnlyWhatIsLostModel" "draftMany" "I", Cond.fieldLink RX10 76 "OnlyWhatIsLostModel" "isSo" "Z", Cond.methodLink RX10 91 yX10_readItem, Cond.instanceMethod yX10_readItem, Cond.selects RX10 yX10_readItem yX10_readItem, Cond.code yX10_readItem cX10_readItem 7 none, Cond.methodLink RX10 72 yX10_here, Cond.instanceMethod yX10_here, Cond.selects RX10 yX10_here yX10_here, Cond.code yX10_here cX10_here 1 (some .int)]
def wsL_law_r16 : List Cond := [Cond.methodLink RX10 83 yX10_number, Cond.instanceMethod yX10_number, Cond.selects RX10 yX10_number yX10_number, Cond.code yX10_number cX10_number 6 (some .int), Cond.methodLink RX10 87 yX10_cells, Cond.instanceMethod yX10_cells, Cond.selects RX10 yX10_cells yX10_cells, Cond.code yX10_cells cX10_cells 2 (some .int), Cond.methodLink RL 27 yX9_lay, Cond.instanceMethod yX9_lay, Cond.selects RX9 yX9_lay yX9_lay, Cond.code yX9_lay cX9_lay 1 (some .int), Cond.methodLink RX9 95 yX2_cells, Cond.methodLink RL 30 yX10_lay, Cond.instanceMethod yX10_lay, Cond.selects RX10 yX10_lay yX10_lay, Cond.code yX10_lay cX10_lay 2 (some .int), Cond.fieldLink RX10 97 "OnlyWhatIsLostModel" "deeds" "I", Cond.fieldLink RX10 100 "OnlyWhatIsLostModel" "kept" "I", Cond.fieldLink RX10 103 "OnlyWhatIsLostModel" "seenMany" "I", Cond.methodLink RX10 94 yX10_fault, Cond.methodLink RL 31 yX9_thing, Cond.instanceMethod yX9_thing, Cond.selects RX9 yX9_thing yX9_thing]
def wsL_law_r17 : List Cond := [Cond.code yX9_thing cX9_thing 3 (some .int), Cond.methodLink RX9 103 yX4_has, Cond.instanceMethod yX4_has, Cond.selects RX4 yX4_has yX4_has, Cond.code yX4_has cX4_has 2 (some .boolean), Cond.methodLink RX9 107 yX4_cellOf, Cond.instanceMethod yX4_cellOf, Cond.selects RX4 yX4_cellOf yX4_cellOf, Cond.code yX4_cellOf cX4_cellOf 2 (some .int), Cond.methodLink RX4 41 yX4_has, Cond.methodLink RX9 111 yX4_startOf, Cond.instanceMethod yX4_startOf, Cond.selects RX4 yX4_startOf yX4_startOf, Cond.code yX4_startOf cX4_startOf 2 (some .int), Cond.methodLink RX9 114 yX4_toldFallOf, Cond.instanceMethod yX4_toldFallOf, Cond.selects RX4 yX4_toldFallOf yX4_toldFallOf, Cond.code yX4_toldFallOf cX4_toldFallOf 2 (some .int), Cond.methodLink RX4 45 Lib.Math.min.name, Cond.static Lib.Math.min.name, Cond.code Lib.Math.min.name Lib.Math.min.code 2 (some .int), Cond.methodLink RX9 117 yX4_kindOf, Cond.instanceMethod yX4_kindOf, Cond.selects RX4 yX4_kindOf yX4_kindOf]
def wsL_law_r18 : List Cond := [Cond.code yX4_kindOf cX4_kindOf 2 (some .int), Cond.methodLink RX9 124 yX4_standsIn, Cond.instanceMethod yX4_standsIn, Cond.selects RX4 yX4_standsIn yX4_standsIn, Cond.code yX4_standsIn cX4_standsIn 3 (some .boolean), Cond.methodLink RX9 128 yX9_oneIf, Cond.static yX9_oneIf, Cond.code yX9_oneIf cX9_oneIf 1 (some .int), Cond.methodLink RX9 132 yX4_isLostBy, Cond.instanceMethod yX4_isLostBy, Cond.selects RX4 yX4_isLostBy yX4_isLostBy, Cond.code yX4_isLostBy cX4_isLostBy 3 (some .boolean), Cond.methodLink RL 35 yX10_thing, Cond.instanceMethod yX10_thing, Cond.selects RX10 yX10_thing yX10_thing, Cond.code yX10_thing cX10_thing 3 (some .int), Cond.methodLink RX10 106 yX10_isThing, Cond.instanceMethod yX10_isThing, Cond.selects RX10 yX10_isThing yX10_isThing, Cond.code yX10_isThing cX10_isThing 2 (some .boolean), Cond.methodLink RX10 110 yX10_stands, Cond.instanceMethod yX10_stands, Cond.selects RX10 yX10_stands yX10_stands, Cond.code yX10_stands cX10_stands 4 (some .boolean)]
def wsL_law_r19 : List Cond := [Cond.methodLink RX10 113 yX10_isLost, Cond.instanceMethod yX10_isLost, Cond.selects RX10 yX10_isLost yX10_isLost, Cond.code yX10_isLost cX10_isLost 4 (some .boolean), Cond.methodLink RL 36 yX9_at, Cond.instanceMethod yX9_at, Cond.selects RX9 yX9_at yX9_at, Cond.code yX9_at cX9_at 2 (some .int), Cond.methodLink RX9 135 yX2_has, Cond.methodLink RX9 136 yX4_thingOf, Cond.methodLink RL 39 yX10_at, Cond.instanceMethod yX10_at, Cond.selects RX10 yX10_at yX10_at, Cond.code yX10_at cX10_at 2 (some .int), Cond.methodLink RX10 116 yX10_isCell, Cond.instanceMethod yX10_isCell, Cond.selects RX10 yX10_isCell yX10_isCell, Cond.code yX10_isCell cX10_isCell 2 (some .boolean), Cond.methodLink RX10 119 yX10_thingAt, Cond.instanceMethod yX10_thingAt, Cond.selects RX10 yX10_thingAt yX10_thingAt, Cond.code yX10_thingAt cX10_thingAt 4 (some .int), Cond.methodLink RL 40 yX9_free, Cond.instanceMethod yX9_free]
def wsL_law_r20 : List Cond := [Cond.selects RX9 yX9_free yX9_free, Cond.code yX9_free cX9_free 3 (some .int), Cond.methodLink RX9 139 yX4_standingCells, Cond.instanceMethod yX4_standingCells, Cond.selects RX4 yX4_standingCells yX4_standingCells, Cond.code yX4_standingCells cX4_standingCells 5 (some .long), Cond.methodLink RX4 51 yX4_standsIn, Cond.methodLink RX4 66 yX4_cellOf, Cond.static yX9_bitOf, Cond.code yX9_bitOf cX9_bitOf 1 (some .long), Cond.methodLink RX9 143 yX9_holds, Cond.static yX9_holds, Cond.code yX9_holds cX9_holds 3 (some .boolean), Cond.methodLink RX9 256 yX9_bitOf, Cond.methodLink RL 43 yX10_free, Cond.instanceMethod yX10_free, Cond.selects RX10 yX10_free yX10_free, Cond.code yX10_free cX10_free 3 (some .int), Cond.methodLink RX10 122 yX10_taken, Cond.instanceMethod yX10_taken, Cond.selects RX10 yX10_taken yX10_taken, Cond.code yX10_taken cX10_taken 6 (some .long), Cond.methodLink RL 44 yX9_map, Cond.instanceMethod yX9_map]
def wsL_law_r21 : List Cond := [Cond.selects RX9 yX9_map yX9_map, Cond.code yX9_map cX9_map 3 (some .int), Cond.methodLink RX9 151 yX0_has, Cond.instanceMethod yX0_has, Cond.selects RX0 yX0_has yX0_has, Cond.code yX0_has cX0_has 2 (some .boolean), Cond.methodLink RX9 154 yX0_yearOf, Cond.instanceMethod yX0_yearOf, Cond.selects RX0 yX0_yearOf yX0_yearOf, Cond.code yX0_yearOf cX0_yearOf 2 (some .int), Cond.methodLink RX0 31 yX0_has, Cond.methodLink RX9 157 yX0_downOf, Cond.instanceMethod yX0_downOf, Cond.selects RX0 yX0_downOf yX0_downOf, Cond.code yX0_downOf cX0_downOf 2 (some .int), Cond.methodLink RX9 160 yX0_rightOf, Cond.instanceMethod yX0_rightOf, Cond.selects RX0 yX0_rightOf yX0_rightOf, Cond.code yX0_rightOf cX0_rightOf 2 (some .int), Cond.methodLink RX9 163 yX1_shownBy, Cond.instanceMethod yX1_shownBy, Cond.selects RX1 yX1_shownBy yX1_shownBy, Cond.code yX1_shownBy cX1_shownBy 4 (some .long), Cond.methodLink RX1 76 yX0_downOf]
def wsL_law_r22 : List Cond := [Cond.methodLink RX1 79 yX0_rightOf, Cond.methodLink RX1 82 yX0_yearOf, Cond.methodLink RX1 85 yX1_drawnCells, Cond.instanceMethod yX1_drawnCells, Cond.selects RX1 yX1_drawnCells yX1_drawnCells, Cond.code yX1_drawnCells cX1_drawnCells 5 (some .long), Cond.methodLink RX1 54 yX4_size, Cond.methodLink RX1 58 yX4_isLostBy, Cond.methodLink RX1 61 yX4_kindOf, Cond.methodLink RX1 65 yX1_placeDrawn, Cond.instanceMethod yX1_placeDrawn, Cond.selects RX1 yX1_placeDrawn yX1_placeDrawn, Cond.code yX1_placeDrawn cX1_placeDrawn 4 (some .int), Cond.methodLink RX1 92 yX4_cellOf, Cond.methodLink RX1 95 yX2_shift, Cond.instanceMethod yX2_shift, Cond.selects RX2 yX2_shift yX2_shift, Cond.code yX2_shift cX2_shift 7 (some .int), Cond.methodLink RX2 26 yX2_rowOf, Cond.instanceMethod yX2_rowOf, Cond.selects RX2 yX2_rowOf yX2_rowOf, Cond.code yX2_rowOf cX2_rowOf 2 (some .int), Cond.methodLink RX2 30 yX2_columnOf, Cond.instanceMethod yX2_columnOf]
def wsL_law_r23 : List Cond := [Cond.selects RX2 yX2_columnOf yX2_columnOf, Cond.code yX2_columnOf cX2_columnOf 2 (some .int), Cond.methodLink RX1 88 yX2_shiftAll, Cond.instanceMethod yX2_shiftAll, Cond.selects RX2 yX2_shiftAll yX2_shiftAll, Cond.code yX2_shiftAll cX2_shiftAll 9 (some .long), Cond.methodLink RX2 37 yX2_shift, Cond.methodLink RX9 166 yJ13_bitCount_95d88, Cond.static yJ13_bitCount_95d88, Cond.initialized RJ13, Cond.code yJ13_bitCount_95d88 cJ13_bitCount_95d88 2 (some .int), Cond.constantLong RJ13 314 (6148914691236517205), Cond.constantLong RJ13 316 (3689348814741910323), Cond.constantLong RJ13 318 (1085102592571150095), Cond.methodLink RL 47 yX10_map, Cond.instanceMethod yX10_map, Cond.selects RX10 yX10_map yX10_map, Cond.code yX10_map cX10_map 3 (some .int), Cond.methodLink RX10 133 yX10_isMap, Cond.instanceMethod yX10_isMap, Cond.selects RX10 yX10_isMap yX10_isMap, Cond.code yX10_isMap cX10_isMap 2 (some .boolean), Cond.methodLink RX10 136 yX10_shown, Cond.instanceMethod yX10_shown]
def wsL_law_r24 : List Cond := [Cond.selects RX10 yX10_shown yX10_shown, Cond.code yX10_shown cX10_shown 2 (some .long), Cond.methodLink RX10 126 yX10_trueTo, Cond.instanceMethod yX10_trueTo, Cond.selects RX10 yX10_trueTo yX10_trueTo, Cond.code yX10_trueTo cX10_trueTo 9 (some .long), Cond.methodLink RX10 129 yX10_byHand, Cond.instanceMethod yX10_byHand, Cond.selects RX10 yX10_byHand yX10_byHand, Cond.code yX10_byHand cX10_byHand 11 (some .long), Cond.methodLink RX10 140 yX10_manyOf, Cond.static yX10_manyOf, Cond.code yX10_manyOf cX10_manyOf 4 (some .int), Cond.methodLink RL 48 yX9_shows, Cond.instanceMethod yX9_shows, Cond.selects RX9 yX9_shows yX9_shows, Cond.code yX9_shows cX9_shows 3 (some .int), Cond.methodLink RL 51 yX10_shows, Cond.instanceMethod yX10_shows, Cond.selects RX10 yX10_shows yX10_shows, Cond.code yX10_shows cX10_shows 3 (some .int), Cond.methodLink RL 52 yX9_pass, Cond.instanceMethod yX9_pass, Cond.selects RX9 yX9_pass yX9_pass]
def wsL_law_r25 : List Cond := [Cond.code yX9_pass cX9_pass 2 (some .int), Cond.methodLink RX9 172 yX7_putOn, Cond.instanceMethod yX7_putOn, Cond.selects RX7 yX7_putOn yX7_putOn, Cond.code yX7_putOn cX7_putOn 2 none, Cond.methodLink RX7 26 yX7_isFull, Cond.instanceMethod yX7_isFull, Cond.selects RX7 yX7_isFull yX7_isFull, Cond.code yX7_isFull cX7_isFull 1 (some .boolean), Cond.methodLink RX7 30 yX7_dropLowest, Cond.instanceMethod yX7_dropLowest, Cond.selects RX7 yX7_dropLowest yX7_dropLowest, Cond.code yX7_dropLowest cX7_dropLowest 3 none, Cond.methodLink RX7 33 yX4_copyFrom, Cond.methodLink RL 55 yX10_pass, Cond.instanceMethod yX10_pass, Cond.selects RX10 yX10_pass yX10_pass, Cond.code yX10_pass cX10_pass 2 (some .int), Cond.methodLink RX10 148 yX10_know, Cond.instanceMethod yX10_know, Cond.selects RX10 yX10_know yX10_know, Cond.code yX10_know cX10_know 2 none, Cond.methodLink RX10 144 yX10_copy, Cond.instanceMethod yX10_copy]
def wsL_law_r26 : List Cond := [Cond.selects RX10 yX10_copy yX10_copy, Cond.code yX10_copy cX10_copy 4 none, Cond.methodLink RL 56 yX9_burn, Cond.instanceMethod yX9_burn, Cond.selects RX9 yX9_burn yX9_burn, Cond.code yX9_burn cX9_burn 2 (some .int), Cond.methodLink RX9 176 yX4_canBurn, Cond.instanceMethod yX4_canBurn, Cond.selects RX4 yX4_canBurn yX4_canBurn, Cond.code yX4_canBurn cX4_canBurn 2 (some .boolean), Cond.methodLink RX4 55 yX4_kindOf, Cond.methodLink RX9 179 yX4_setFireTo, Cond.instanceMethod yX4_setFireTo, Cond.selects RX4 yX4_setFireTo yX4_setFireTo, Cond.code yX4_setFireTo cX4_setFireTo 2 none, Cond.methodLink RL 59 yX10_burn, Cond.instanceMethod yX10_burn, Cond.selects RX10 yX10_burn yX10_burn, Cond.code yX10_burn cX10_burn 2 (some .int), Cond.methodLink RX10 151 yX10_canBurn, Cond.instanceMethod yX10_canBurn, Cond.selects RX10 yX10_canBurn yX10_canBurn, Cond.code yX10_canBurn cX10_canBurn 3 (some .boolean), Cond.methodLink RL 60 yX9_build]
def wsL_law_r27 : List Cond := [Cond.instanceMethod yX9_build, Cond.selects RX9 yX9_build yX9_build, Cond.code yX9_build cX9_build 2 (some .int), Cond.methodLink RX9 182 yX4_isFull, Cond.methodLink RX9 185 yX4_add, Cond.methodLink RL 63 yX10_build, Cond.instanceMethod yX10_build, Cond.selects RX10 yX10_build yX10_build, Cond.code yX10_build cX10_build 3 (some .int), Cond.methodLink RL 64 yX9_undo, Cond.instanceMethod yX9_undo, Cond.selects RX9 yX9_undo yX9_undo, Cond.code yX9_undo cX9_undo 1 (some .int), Cond.methodLink RX9 189 yX7_takeOff, Cond.instanceMethod yX7_takeOff, Cond.selects RX7 yX7_takeOff yX7_takeOff, Cond.code yX7_takeOff cX7_takeOff 2 (some .boolean), Cond.methodLink RX9 193 yX7_size, Cond.instanceMethod yX7_size, Cond.selects RX7 yX7_size yX7_size, Cond.code yX7_size cX7_size 1 (some .int), Cond.methodLink RL 67 yX10_undo, Cond.instanceMethod yX10_undo, Cond.selects RX10 yX10_undo yX10_undo]
def wsL_law_r28 : List Cond := [Cond.code yX10_undo cX10_undo 1 (some .int), Cond.methodLink RL 68 yX9_way, Cond.instanceMethod yX9_way, Cond.selects RX9 yX9_way yX9_way, Cond.code yX9_way cX9_way 3 (some .int), Cond.methodLink RX9 196 yX9_areCells, Cond.instanceMethod yX9_areCells, Cond.selects RX9 yX9_areCells yX9_areCells, Cond.code yX9_areCells cX9_areCells 3 (some .boolean), Cond.methodLink RX9 199 yX9_freeCells, Cond.instanceMethod yX9_freeCells, Cond.selects RX9 yX9_freeCells yX9_freeCells, Cond.code yX9_freeCells cX9_freeCells 1 (some .long), Cond.constantLong RX9 220 (-1), Cond.methodLink RX9 203 yX5_stepsThrough, Cond.instanceMethod yX5_stepsThrough, Cond.selects RX5 yX5_stepsThrough yX5_stepsThrough, Cond.code yX5_stepsThrough cX5_stepsThrough 6 (some .int), Cond.methodLink RX5 21 yX5_price, Cond.instanceMethod yX5_price, Cond.selects RX5 yX5_price yX5_price, Cond.code yX5_price cX5_price 9 none, Cond.constant RX5 37 (1000000), Cond.methodLink RX5 25 yX5_measureTo]
def wsL_law_r29 : List Cond := [Cond.instanceMethod yX5_measureTo, Cond.selects RX5 yX5_measureTo yX5_measureTo, Cond.code yX5_measureTo cX5_measureTo 6 none, Cond.fieldLink RX5 38 "OnlyWhatIsLost$Paths" "queued" "J", Cond.fieldLink RX5 42 "OnlyWhatIsLost$Paths" "head" "I", Cond.fieldLink RX5 46 "OnlyWhatIsLost$Paths" "waiting" "I", Cond.methodLink RX5 49 yX5_reach, Cond.instanceMethod yX5_reach, Cond.selects RX5 yX5_reach yX5_reach, Cond.code yX5_reach cX5_reach 3 none, Cond.methodLink RX5 63 yX5_priceOf, Cond.instanceMethod yX5_priceOf, Cond.selects RX5 yX5_priceOf yX5_priceOf, Cond.code yX5_priceOf cX5_priceOf 2 (some .int), Cond.methodLink RX5 29 yX5_restFrom, Cond.instanceMethod yX5_restFrom, Cond.selects RX5 yX5_restFrom yX5_restFrom, Cond.code yX5_restFrom cX5_restFrom 2 (some .int), Cond.methodLink RX5 53 yX5_takeFromQueue, Cond.instanceMethod yX5_takeFromQueue, Cond.selects RX5 yX5_takeFromQueue yX5_takeFromQueue, Cond.code yX5_takeFromQueue cX5_takeFromQueue 2 (some .int), Cond.constantLong RX5 70 (-1), Cond.methodLink RX5 57 yX2_beside]
def wsL_law_r30 : List Cond := [Cond.instanceMethod yX2_beside, Cond.selects RX2 yX2_beside yX2_beside, Cond.code yX2_beside cX2_beside 3 (some .int), Cond.methodLink RX9 207 yX9_orNone, Cond.static yX9_orNone, Cond.code yX9_orNone cX9_orNone 1 (some .int), Cond.constant RX9 327 (1000000), Cond.methodLink RL 71 yX10_way, Cond.instanceMethod yX10_way, Cond.selects RX10 yX10_way yX10_way, Cond.code yX10_way cX10_way 3 (some .int), Cond.constantLong RX10 163 (-1), Cond.methodLink RX10 165 yX10_stepsIn, Cond.instanceMethod yX10_stepsIn, Cond.selects RX10 yX10_stepsIn yX10_stepsIn, Cond.code yX10_stepsIn cX10_stepsIn 6 (some .int), Cond.methodLink RX10 159 yX10_findTo, Cond.instanceMethod yX10_findTo, Cond.selects RX10 yX10_findTo yX10_findTo, Cond.code yX10_findTo cX10_findTo 6 none, Cond.methodLink RX10 155 yX10_beside, Cond.instanceMethod yX10_beside, Cond.selects RX10 yX10_beside yX10_beside, Cond.code yX10_beside cX10_beside 5 (some .int)]
def wsL_law_r31 : List Cond := [Cond.methodLink RL 72 yX9_sure, Cond.instanceMethod yX9_sure, Cond.selects RX9 yX9_sure yX9_sure, Cond.code yX9_sure cX9_sure 4 (some .int), Cond.methodLink RL 76 yX10_sure, Cond.instanceMethod yX10_sure, Cond.selects RX10 yX10_sure yX10_sure, Cond.code yX10_sure cX10_sure 4 (some .int), Cond.methodLink RL 77 yX9_pull, Cond.instanceMethod yX9_pull, Cond.selects RX9 yX9_pull yX9_pull, Cond.code yX9_pull cX9_pull 4 (some .int), Cond.methodLink RX9 210 yX1_drawnCells, Cond.methodLink RX9 213 yX1_burnableDrawnCells, Cond.instanceMethod yX1_burnableDrawnCells, Cond.selects RX1 yX1_burnableDrawnCells yX1_burnableDrawnCells, Cond.code yX1_burnableDrawnCells cX1_burnableDrawnCells 4 (some .long), Cond.methodLink RX1 72 yX4_canBurn, Cond.methodLink RX9 216 yX5_price, Cond.methodLink RX9 222 yX5_measureTo, Cond.methodLink RX9 226 yX5_restFrom, Cond.methodLink RX9 229 yX5_priceOf, Cond.methodLink RL 81 yX10_pull, Cond.instanceMethod yX10_pull]
def wsL_law_r32 : List Cond := [Cond.selects RX10 yX10_pull yX10_pull, Cond.code yX10_pull cX10_pull 4 (some .int), Cond.methodLink RX10 172 yX10_friends, Cond.instanceMethod yX10_friends, Cond.selects RX10 yX10_friends yX10_friends, Cond.code yX10_friends cX10_friends 7 (some .int), Cond.methodLink RX10 169 yX10_manyIn, Cond.static yX10_manyIn, Cond.code yX10_manyIn cX10_manyIn 3 (some .int), Cond.methodLink RX10 175 yX10_pulled, Cond.instanceMethod yX10_pulled, Cond.selects RX10 yX10_pulled yX10_pulled, Cond.code yX10_pulled cX10_pulled 6 (some .int), Cond.methodLink RL 82 yX9_wander, Cond.instanceMethod yX9_wander, Cond.selects RX9 yX9_wander yX9_wander, Cond.code yX9_wander cX9_wander 4 (some .int), Cond.methodLink RX9 232 yX9_stepsOfWanderer, Cond.instanceMethod yX9_stepsOfWanderer, Cond.selects RX9 yX9_stepsOfWanderer yX9_stepsOfWanderer, Cond.code yX9_stepsOfWanderer cX9_stepsOfWanderer 13 (some .int), Cond.methodLink RX9 307 yX2_cellsBeside, Cond.instanceMethod yX2_cellsBeside, Cond.selects RX2 yX2_cellsBeside yX2_cellsBeside]
def wsL_law_r33 : List Cond := [Cond.code yX2_cellsBeside cX2_cellsBeside 6 (some .long), Cond.methodLink RX2 52 yX2_beside, Cond.methodLink RX9 310 yX5_nextFrom, Cond.instanceMethod yX5_nextFrom, Cond.selects RX5 yX5_nextFrom yX5_nextFrom, Cond.code yX5_nextFrom cX5_nextFrom 8 (some .int), Cond.methodLink RL 85 yX10_wander, Cond.instanceMethod yX10_wander, Cond.selects RX10 yX10_wander yX10_wander, Cond.code yX10_wander cX10_wander 13 (some .int), Cond.methodLink RL 86 yX9_wrong, Cond.instanceMethod yX9_wrong, Cond.selects RX9 yX9_wrong yX9_wrong, Cond.code yX9_wrong cX9_wrong 5 (some .int), Cond.methodLink RX9 236 yX9_isZeroOrOne, Cond.static yX9_isZeroOrOne, Cond.code yX9_isZeroOrOne cX9_isZeroOrOne 1 (some .boolean), Cond.methodLink RX9 239 yX4_lostCells, Cond.instanceMethod yX4_lostCells, Cond.selects RX4 yX4_lostCells yX4_lostCells, Cond.code yX4_lostCells cX4_lostCells 5 (some .long), Cond.methodLink RX4 73 yX4_isLostBy, Cond.methodLink RX9 242 yX9_lowestOf, Cond.static yX9_lowestOf]
def wsL_law_r34 : List Cond := [Cond.code yX9_lowestOf cX9_lowestOf 3 (some .int), Cond.methodLink RL 89 yX10_wrong, Cond.instanceMethod yX10_wrong, Cond.selects RX10 yX10_wrong yX10_wrong, Cond.code yX10_wrong cX10_wrong 6 (some .int), Cond.methodLink RX10 178 yX10_lowest, Cond.static yX10_lowest, Cond.code yX10_lowest cX10_lowest 3 (some .int), Cond.methodLink RL 90 yX9_older, Cond.instanceMethod yX9_older, Cond.selects RX9 yX9_older yX9_older, Cond.code yX9_older cX9_older 1 (some .int), Cond.methodLink RX9 245 yX0_size, Cond.methodLink RX9 246 yX1_ordersOfFall, Cond.instanceMethod yX1_ordersOfFall, Cond.selects RX1 yX1_ordersOfFall yX1_ordersOfFall, Cond.code yX1_ordersOfFall cX1_ordersOfFall 6 (some .int), Cond.methodLink RX1 99 yX1_yearMapped, Cond.instanceMethod yX1_yearMapped, Cond.selects RX1 yX1_yearMapped yX1_yearMapped, Cond.code yX1_yearMapped cX1_yearMapped 4 (some .int), Cond.methodLink RX1 103 Lib.Math.min.name, Cond.methodLink RX1 102 yX0_size, Cond.methodLink RL 93 yX10_older]
def wsL_law_r35 : List Cond := [Cond.instanceMethod yX10_older, Cond.selects RX10 yX10_older yX10_older, Cond.code yX10_older cX10_older 7 (some .int), Cond.methodLink RX10 181 yX10_nextMap, Cond.instanceMethod yX10_nextMap, Cond.selects RX10 yX10_nextMap yX10_nextMap, Cond.code yX10_nextMap cX10_nextMap 4 (some .int), Cond.methodLink RL 94 yX9_seen, Cond.instanceMethod yX9_seen, Cond.selects RX9 yX9_seen yX9_seen, Cond.code yX9_seen cX9_seen 2 (some .int), Cond.methodLink RL 97 yX10_seen, Cond.instanceMethod yX10_seen, Cond.selects RX10 yX10_seen yX10_seen, Cond.code yX10_seen cX10_seen 2 (some .int), Cond.methodLink RL 98 yX9_forget, Cond.instanceMethod yX9_forget, Cond.selects RX9 yX9_forget yX9_forget, Cond.code yX9_forget cX9_forget 2 (some .int), Cond.methodLink RL 101 yX10_forget, Cond.instanceMethod yX10_forget, Cond.selects RX10 yX10_forget yX10_forget, Cond.code yX10_forget cX10_forget 2 (some .int), Cond.methodLink RL 102 yX9_found]
def wsL_law_r36 : List Cond := [Cond.instanceMethod yX9_found, Cond.selects RX9 yX9_found yX9_found, Cond.code yX9_found cX9_found 8 (some .int), Cond.methodLink RX9 262 yX9_handsShowing, Cond.instanceMethod yX9_handsShowing, Cond.selects RX9 yX9_handsShowing yX9_handsShowing, Cond.code yX9_handsShowing cX9_handsShowing 5 (some .int), Cond.methodLink RX9 314 yX9_showsJustSeen, Cond.instanceMethod yX9_showsJustSeen, Cond.selects RX9 yX9_showsJustSeen yX9_showsJustSeen, Cond.code yX9_showsJustSeen cX9_showsJustSeen 6 (some .boolean), Cond.methodLink RX9 317 yX2_shiftAll, Cond.methodLink RX9 265 yX9_firstHandShowing, Cond.instanceMethod yX9_firstHandShowing, Cond.selects RX9 yX9_firstHandShowing yX9_firstHandShowing, Cond.code yX9_firstHandShowing cX9_firstHandShowing 4 (some .int), Cond.methodLink RL 105 yX10_found, Cond.instanceMethod yX10_found, Cond.selects RX10 yX10_found yX10_found, Cond.code yX10_found cX10_found 7 (some .int), Cond.methodLink RL 106 yX9_round, Cond.instanceMethod yX9_round, Cond.selects RX9 yX9_round yX9_round, Cond.code yX9_round cX9_round 3 (some .int)]
def wsL_law_r37 : List Cond := [Cond.methodLink RX9 268 yX8_startAt, Cond.instanceMethod yX8_startAt, Cond.selects RX8 yX8_startAt yX8_startAt, Cond.code yX8_startAt cX8_startAt 2 none, Cond.fieldLink RX8 22 "OnlyWhatIsLost$Tour" "start" "I", Cond.fieldLink RX8 18 "OnlyWhatIsLost$Tour" "total" "I", Cond.methodLink RX9 272 yX4_fallsIn, Cond.instanceMethod yX4_fallsIn, Cond.selects RX4 yX4_fallsIn yX4_fallsIn, Cond.code yX4_fallsIn cX4_fallsIn 3 (some .boolean), Cond.methodLink RX9 275 yX8_addStop, Cond.instanceMethod yX8_addStop, Cond.selects RX8 yX8_addStop yX8_addStop, Cond.code yX8_addStop cX8_addStop 2 (some .boolean), Cond.methodLink RX9 278 yX8_size, Cond.instanceMethod yX8_size, Cond.selects RX8 yX8_size yX8_size, Cond.code yX8_size cX8_size 1 (some .int), Cond.methodLink RX9 279 yX8_shortest, Cond.instanceMethod yX8_shortest, Cond.selects RX8 yX8_shortest yX8_shortest, Cond.code yX8_shortest cX8_shortest 5 (some .int), Cond.methodLink RX8 25 yX8_shortestThrough, Cond.instanceMethod yX8_shortestThrough]
def wsL_law_r38 : List Cond := [Cond.selects RX8 yX8_shortestThrough yX8_shortestThrough, Cond.code yX8_shortestThrough cX8_shortestThrough 5 (some .int), Cond.methodLink RX8 32 yX2_apart, Cond.instanceMethod yX2_apart, Cond.selects RX2 yX2_apart yX2_apart, Cond.code yX2_apart cX2_apart 3 (some .int), Cond.methodLink RX2 56 Lib.Math.abs.name, Cond.static Lib.Math.abs.name, Cond.code Lib.Math.abs.name Lib.Math.abs.code 1 (some .int), Cond.methodLink RX8 29 yX8_shortestOn, Cond.instanceMethod yX8_shortestOn, Cond.selects RX8 yX8_shortestOn yX8_shortestOn, Cond.code yX8_shortestOn cX8_shortestOn 7 (some .int), Cond.constant RX8 38 (1000000), Cond.methodLink RX8 39 Lib.Math.min.name, Cond.methodLink RL 109 yX10_round, Cond.instanceMethod yX10_round, Cond.selects RX10 yX10_round yX10_round, Cond.code yX10_round cX10_round 9 (some .int), Cond.methodLink RX10 184 yX10_apart, Cond.instanceMethod yX10_apart, Cond.selects RX10 yX10_apart yX10_apart, Cond.code yX10_apart cX10_apart 5 (some .int), Cond.methodLink RL 110 yX9_fire]
def wsL_law_r39 : List Cond := [Cond.instanceMethod yX9_fire, Cond.selects RX9 yX9_fire yX9_fire, Cond.code yX9_fire cX9_fire 10 (some .int), Cond.methodLink RL 113 yX10_fire, Cond.instanceMethod yX10_fire, Cond.selects RX10 yX10_fire yX10_fire, Cond.code yX10_fire cX10_fire 10 (some .int), Cond.methodLink RX10 187 yX10_way, Cond.methodLink RL 114 yX9_land, Cond.instanceMethod yX9_land, Cond.selects RX9 yX9_land yX9_land, Cond.code yX9_land cX9_land 5 (some .int), Cond.methodLink RX9 283 yX4_copyFrom, Cond.methodLink RX9 286 yX9_drawOf, Cond.static yX9_drawOf, Cond.code yX9_drawOf cX9_drawOf 4 (some .int), Cond.constantLong RX9 321 (7919), Cond.constantLong RX9 323 (6151), Cond.constantLong RX9 325 (65521), Cond.methodLink RX9 290 yX4_burnBy, Cond.instanceMethod yX4_burnBy, Cond.selects RX4 yX4_burnBy yX4_burnBy, Cond.code yX4_burnBy cX4_burnBy 3 none, Cond.methodLink RX4 59 yX4_canBurn]
def wsL_law_r40 : List Cond := [Cond.methodLink RX4 62 yX4_setFireTo, Cond.methodLink RX9 293 yX4_countStanding, Cond.instanceMethod yX4_countStanding, Cond.selects RX4 yX4_countStanding yX4_countStanding, Cond.code yX4_countStanding cX4_countStanding 1 (some .int), Cond.methodLink RX4 76 yX4_standingCells, Cond.methodLink RX4 79 yJ13_bitCount_95d88, Cond.methodLink RX9 296 yX4_countLost, Cond.instanceMethod yX4_countLost, Cond.selects RX4 yX4_countLost yX4_countLost, Cond.code yX4_countLost cX4_countLost 1 (some .int), Cond.methodLink RX4 85 yX4_lostCells, Cond.methodLink RL 117 yX10_land, Cond.instanceMethod yX10_land, Cond.selects RX10 yX10_land yX10_land, Cond.code yX10_land cX10_land 9 (some .int), Cond.constantLong RX10 190 (7919), Cond.constantLong RX10 192 (6151), Cond.constantLong RX10 194 (65521), Cond.methodLink RX10 196 yX10_manyBy, Cond.instanceMethod yX10_manyBy, Cond.selects RX10 yX10_manyBy yX10_manyBy, Cond.code yX10_manyBy cX10_manyBy 5 (some .int), Cond.methodLink RL 118 yX9_keep]
def wsL_law_r41 : List Cond := [Cond.instanceMethod yX9_keep, Cond.selects RX9 yX9_keep yX9_keep, Cond.code yX9_keep cX9_keep 1 (some .int), Cond.methodLink RX9 299 yX7_isFull, Cond.methodLink RL 121 yX10_keep, Cond.instanceMethod yX10_keep, Cond.selects RX10 yX10_keep yX10_keep, Cond.code yX10_keep cX10_keep 1 (some .int), Cond.methodLink RL 122 yX9_back, Cond.instanceMethod yX9_back, Cond.selects RX9 yX9_back yX9_back, Cond.code yX9_back cX9_back 1 (some .int), Cond.methodLink RL 125 yX10_back, Cond.instanceMethod yX10_back, Cond.selects RX10 yX10_back yX10_back, Cond.code yX10_back cX10_back 1 (some .int), Cond.methodLink RL 126 yX9_count, Cond.instanceMethod yX9_count, Cond.selects RX9 yX9_count yX9_count, Cond.code yX9_count cX9_count 2 (some .int), Cond.methodLink RL 129 yX10_count, Cond.instanceMethod yX10_count, Cond.selects RX10 yX10_count yX10_count, Cond.code yX10_count cX10_count 2 (some .int)]
def wsL_law : List Cond := (wsL_law_r1 ++ (wsL_law_r2 ++ (wsL_law_r3 ++ (wsL_law_r4 ++ (wsL_law_r5 ++ (wsL_law_r6 ++ (wsL_law_r7 ++ (wsL_law_r8 ++ (wsL_law_r9 ++ (wsL_law_r10 ++ (wsL_law_r11 ++ (wsL_law_r12 ++ (wsL_law_r13 ++ (wsL_law_r14 ++ (wsL_law_r15 ++ (wsL_law_r16 ++ (wsL_law_r17 ++ (wsL_law_r18 ++ (wsL_law_r19 ++ (wsL_law_r20 ++ (wsL_law_r21 ++ (wsL_law_r22 ++ (wsL_law_r23 ++ (wsL_law_r24 ++ (wsL_law_r25 ++ (wsL_law_r26 ++ (wsL_law_r27 ++ (wsL_law_r28 ++ (wsL_law_r29 ++ (wsL_law_r30 ++ (wsL_law_r31 ++ (wsL_law_r32 ++ (wsL_law_r33 ++ (wsL_law_r34 ++ (wsL_law_r35 ++ (wsL_law_r36 ++ (wsL_law_r37 ++ (wsL_law_r38 ++ (wsL_law_r39 ++ (wsL_law_r40 ++ wsL_law_r41)))))))))))))))))))))))))))))))))))))))) ++ wsX90 ++ wsX100 ++ wsX30 ++ wsX60 ++ wsX10 ++ wsX70 ++ wsX40 ++ wsX50 ++ wsX80 ++ wsX20 ++ wsX00 ++ ([] : List Cond)
theorem inlX0 : ∀ w ∈ wsX00, w ∈ wsL_law := fun _ h => List.mem_append_left _ (List.mem_append_right _ h)
theorem inlX1 : ∀ w ∈ wsX10, w ∈ wsL_law := fun _ h => List.mem_append_left _ (List.mem_append_left _ (List.mem_append_left _ (List.mem_append_left _ (List.mem_append_left _ (List.mem_append_left _ (List.mem_append_left _ (List.mem_append_right _ h)))))))
theorem inlX2 : ∀ w ∈ wsX20, w ∈ wsL_law := fun _ h => List.mem_append_left _ (List.mem_append_left _ (List.mem_append_right _ h))
theorem inlX3 : ∀ w ∈ wsX30, w ∈ wsL_law := fun _ h => List.mem_append_left _ (List.mem_append_left _ (List.mem_append_left _ (List.mem_append_left _ (List.mem_append_left _ (List.mem_append_left _ (List.mem_append_left _ (List.mem_append_left _ (List.mem_append_left _ (List.mem_append_right _ h)))))))))
theorem inlX4 : ∀ w ∈ wsX40, w ∈ wsL_law := fun _ h => List.mem_append_left _ (List.mem_append_left _ (List.mem_append_left _ (List.mem_append_left _ (List.mem_append_left _ (List.mem_append_right _ h)))))
theorem inlX5 : ∀ w ∈ wsX50, w ∈ wsL_law := fun _ h => List.mem_append_left _ (List.mem_append_left _ (List.mem_append_left _ (List.mem_append_left _ (List.mem_append_right _ h))))
theorem inlX6 : ∀ w ∈ wsX60, w ∈ wsL_law := fun _ h => List.mem_append_left _ (List.mem_append_left _ (List.mem_append_left _ (List.mem_append_left _ (List.mem_append_left _ (List.mem_append_left _ (List.mem_append_left _ (List.mem_append_left _ (List.mem_append_right _ h))))))))
theorem inlX7 : ∀ w ∈ wsX70, w ∈ wsL_law := fun _ h => List.mem_append_left _ (List.mem_append_left _ (List.mem_append_left _ (List.mem_append_left _ (List.mem_append_left _ (List.mem_append_left _ (List.mem_append_right _ h))))))
theorem inlX8 : ∀ w ∈ wsX80, w ∈ wsL_law := fun _ h => List.mem_append_left _ (List.mem_append_left _ (List.mem_append_left _ (List.mem_append_right _ h)))
theorem inlX9 : ∀ w ∈ wsX90, w ∈ wsL_law := fun _ h => List.mem_append_left _ (List.mem_append_left _ (List.mem_append_left _ (List.mem_append_left _ (List.mem_append_left _ (List.mem_append_left _ (List.mem_append_left _ (List.mem_append_left _ (List.mem_append_left _ (List.mem_append_left _ (List.mem_append_left _ (List.mem_append_right _ h)))))))))))
theorem inlX10 : ∀ w ∈ wsX100, w ∈ wsL_law := fun _ h => List.mem_append_left _ (List.mem_append_left _ (List.mem_append_left _ (List.mem_append_left _ (List.mem_append_left _ (List.mem_append_left _ (List.mem_append_left _ (List.mem_append_left _ (List.mem_append_left _ (List.mem_append_left _ (List.mem_append_right _ h))))))))))
abbrev vwCl : List vw_C := [(RX0, TX0, 4), (RX1, TX1, 3), (RX2, TX2, 2), (RX3, TX3, 2), (RX4, TX4, 6), (RX5, TX5, 6), (RX6, TX6, 2), (RX7, TX7, 2), (RX8, TX8, 4), (RX9, TX9, 10), (RX10, TX10, 21)]
