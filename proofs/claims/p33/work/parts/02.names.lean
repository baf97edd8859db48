/-! ===== BEGIN words of one list among another's, by their places ===== -/
theorem goodIn_r {big : List Cond} (ws : List Cond) (ps : List Nat) (hp : ws = ps.filterMap (fun i => big[i]?)) (h : ws.all goodWord = true) : GoodIn big ws := by
  intro w hw
  have h1 := List.all_eq_true.mp h w hw
  rw [hp] at hw
  obtain ⟨i, -, hi⟩ := List.mem_filterMap.mp hw
  have hm : w ∈ big := by first | exact List.mem_of_getElem? hi | exact List.getElem?_mem hi
  exact ⟨hm, good_of_word h1⟩
theorem goodIn_app {big a b : List Cond} (ha : GoodIn big a) (hb : GoodIn big b) : GoodIn big (a ++ b) := fun w h => (List.mem_append.mp h).elim (ha w) (hb w)
theorem goodIn_ca {big a b : List Cond} {c : Cond} (ha : GoodIn big (c :: a)) (hb : GoodIn big b) : GoodIn big (c :: (a ++ b)) := fun w h => (List.mem_cons.mp h).elim (fun e => ha w (List.mem_cons.mpr (Or.inl e))) (fun h => (List.mem_append.mp h).elim (fun h => ha w (List.mem_cons.mpr (Or.inr h))) (hb w))
theorem goodIn_sub {big ws : List Cond} (hm : ∀ w ∈ ws, w ∈ big) (h : ws.all goodWord = true) : GoodIn big ws := fun w hw => ⟨hm w hw, good_of_word (List.all_eq_true.mp h w hw)⟩
/-! ===== END ===== -/

/-! ===== BEGIN printed: names, fields, word lists, decode rows ===== -/
def RX0 : String := "BarStrips$Chart"
def TX0 : u_T := fun k => match k with
  | 0 => ("BarStrips$Chart", "bars", "I", false)
  | 1 => ("BarStrips$Chart", "barsEver", "I", false)
  | 2 => ("BarStrips$Chart", "number", "[I", true)
  | 3 => ("BarStrips$Chart", "lane", "[I", true)
  | 4 => ("BarStrips$Chart", "first", "[I", true)
  | 5 => ("BarStrips$Chart", "days", "[I", true)
  | 6 => ("BarStrips$Chart", "arrows", "I", false)
  | 7 => ("BarStrips$Chart", "arrowsEver", "I", false)
  | 8 => ("BarStrips$Chart", "arrowNumber", "[I", true)
  | 9 => ("BarStrips$Chart", "from", "[I", true)
  | 10 => ("BarStrips$Chart", "to", "[I", true)
  | 11 => ("BarStrips$Chart", "widths", "[I", true)
  | 12 => ("BarStrips$Chart", "settings", "[I", true)
  | _ => ("BarStrips$Chart", "slipped", "I", false)
def tyX0 : Nat → FieldType := fun k => match k with
  | 0 => .int
  | 1 => .int
  | 2 => .array .int
  | 3 => .array .int
  | 4 => .array .int
  | 5 => .array .int
  | 6 => .int
  | 7 => .int
  | 8 => .array .int
  | 9 => .array .int
  | 10 => .array .int
  | 11 => .array .int
  | 12 => .array .int
  | _ => .int
abbrev wsX00 : List Cond := u_ws RX0 TX0 14
theorem nmX0 : ∀ a, a < 14 → ∀ b, b < 14 → a ≠ b → (TX0 a).2.1 ≠ (TX0 b).2.1 := by decide +kernel
theorem tyX0_ok : ∀ k, k < 14 → parseFieldDescriptor (TX0 k).2.2.1 = some (tyX0 k) := by decide +kernel
abbrev cX0_init : ByteArray := prog_2_method_1_code
def yX0_init : MethodName := ⟨RX0, "<init>", "()V"⟩
abbrev cX0_copyFrom : ByteArray := prog_2_method_2_code
def yX0_copyFrom : MethodName := ⟨RX0, "copyFrom", "(LBarStrips$Chart;)V"⟩
abbrev cX0_slotOf : ByteArray := prog_2_method_3_code
def yX0_slotOf : MethodName := ⟨RX0, "slotOf", "(I)I"⟩
abbrev cX0_arrowSlotOf : ByteArray := prog_2_method_4_code
def yX0_arrowSlotOf : MethodName := ⟨RX0, "arrowSlotOf", "(I)I"⟩
abbrev cX0_addBar : ByteArray := prog_2_method_5_code
def yX0_addBar : MethodName := ⟨RX0, "addBar", "(III)I"⟩
abbrev cX0_addArrow : ByteArray := prog_2_method_6_code
def yX0_addArrow : MethodName := ⟨RX0, "addArrow", "(II)I"⟩
abbrev cX0_hasArrow : ByteArray := prog_2_method_7_code
def yX0_hasArrow : MethodName := ⟨RX0, "hasArrow", "(II)Z"⟩
abbrev cX0_leadsOn : ByteArray := prog_2_method_8_code
def yX0_leadsOn : MethodName := ⟨RX0, "leadsOn", "(II)Z"⟩
abbrev cX0_dropBar : ByteArray := prog_2_method_9_code
def yX0_dropBar : MethodName := ⟨RX0, "dropBar", "(I)I"⟩
abbrev cX0_dropArrow : ByteArray := prog_2_method_10_code
def yX0_dropArrow : MethodName := ⟨RX0, "dropArrow", "(I)V"⟩
abbrev cX0_hasRoom : ByteArray := prog_2_method_11_code
def yX0_hasRoom : MethodName := ⟨RX0, "hasRoom", "(IIII)Z"⟩
abbrev cX0_sharesDays : ByteArray := prog_2_method_12_code
def yX0_sharesDays : MethodName := ⟨RX0, "sharesDays", "(III)Z"⟩
abbrev cX0_exchangeLanes : ByteArray := prog_2_method_13_code
def yX0_exchangeLanes : MethodName := ⟨RX0, "exchangeLanes", "(II)V"⟩
abbrev cX0_packLanes : ByteArray := prog_2_method_14_code
def yX0_packLanes : MethodName := ⟨RX0, "packLanes", "([I)I"⟩
abbrev cX0_lowestLane : ByteArray := prog_2_method_15_code
def yX0_lowestLane : MethodName := ⟨RX0, "lowestLane", "([II)I"⟩
abbrev cX0_isTaken : ByteArray := prog_2_method_16_code
def yX0_isTaken : MethodName := ⟨RX0, "isTaken", "([III)Z"⟩
abbrev cX0_slipTo : ByteArray := prog_2_method_17_code
def yX0_slipTo : MethodName := ⟨RX0, "slipTo", "([I)I"⟩
abbrev cX0_setWidths : ByteArray := prog_2_method_18_code
def yX0_setWidths : MethodName := ⟨RX0, "setWidths", "(III)I"⟩
abbrev cX0_endOf : ByteArray := prog_2_method_19_code
def yX0_endOf : MethodName := ⟨RX0, "endOf", "(I)I"⟩
abbrev cX0_greatestEnd : ByteArray := prog_2_method_20_code
def yX0_greatestEnd : MethodName := ⟨RX0, "greatestEnd", "()I"⟩
abbrev cX0_lateBy : ByteArray := prog_2_method_21_code
def yX0_lateBy : MethodName := ⟨RX0, "lateBy", "(I)I"⟩
abbrev cX0_lateArrows : ByteArray := prog_2_method_22_code
def yX0_lateArrows : MethodName := ⟨RX0, "lateArrows", "()I"⟩
abbrev cX0_arrowsFrom : ByteArray := prog_2_method_23_code
def yX0_arrowsFrom : MethodName := ⟨RX0, "arrowsFrom", "(I)I"⟩
abbrev cX0_arrowsTo : ByteArray := prog_2_method_24_code
def yX0_arrowsTo : MethodName := ⟨RX0, "arrowsTo", "(I)I"⟩
abbrev cX0_hasBars : ByteArray := prog_2_method_25_code
def yX0_hasBars : MethodName := ⟨RX0, "hasBars", "(I)Z"⟩
abbrev cX0_lanesWithBars : ByteArray := prog_2_method_26_code
def yX0_lanesWithBars : MethodName := ⟨RX0, "lanesWithBars", "()I"⟩
abbrev cX0_barAt : ByteArray := prog_2_method_27_code
def yX0_barAt : MethodName := ⟨RX0, "barAt", "(II)I"⟩
abbrev cX0_nextInLane : ByteArray := prog_2_method_28_code
def yX0_nextInLane : MethodName := ⟨RX0, "nextInLane", "(I)I"⟩
abbrev cX0_barsShown : ByteArray := prog_2_method_29_code
def yX0_barsShown : MethodName := ⟨RX0, "barsShown", "(II)I"⟩
abbrev cX0_barsBegun : ByteArray := prog_2_method_30_code
def yX0_barsBegun : MethodName := ⟨RX0, "barsBegun", "(II)I"⟩
abbrev cX0_place : ByteArray := prog_2_method_31_code
def yX0_place : MethodName := ⟨RX0, "place", "(I)I"⟩
abbrev cX0_widthBetween : ByteArray := prog_2_method_32_code
def yX0_widthBetween : MethodName := ⟨RX0, "widthBetween", "(II)I"⟩
def RX1 : String := "BarStrips$Cutting"
def TX1 : u_T := fun k => match k with
  | 0 => ("BarStrips$Cutting", "strips", "I", false)
  | _ => ("BarStrips$Cutting", "start", "[I", true)
def tyX1 : Nat → FieldType := fun k => match k with
  | 0 => .int
  | _ => .array .int
abbrev wsX10 : List Cond := u_ws RX1 TX1 2
theorem nmX1 : ∀ a, a < 2 → ∀ b, b < 2 → a ≠ b → (TX1 a).2.1 ≠ (TX1 b).2.1 := by decide +kernel
theorem tyX1_ok : ∀ k, k < 2 → parseFieldDescriptor (TX1 k).2.2.1 = some (tyX1 k) := by decide +kernel
abbrev cX1_init : ByteArray := prog_3_method_1_code
def yX1_init : MethodName := ⟨RX1, "<init>", "()V"⟩
abbrev cX1_cut : ByteArray := prog_3_method_2_code
def yX1_cut : MethodName := ⟨RX1, "cut", "(LBarStrips$Chart;)V"⟩
abbrev cX1_stripOf : ByteArray := prog_3_method_3_code
def yX1_stripOf : MethodName := ⟨RX1, "stripOf", "(I)I"⟩
def RX2 : String := "BarStrips$Drawing"
def TX2 : u_T := fun k => match k with
  | 0 => ("BarStrips$Drawing", "bend", "[I", true)
  | 1 => ("BarStrips$Drawing", "undrawn", "I", false)
  | _ => ("BarStrips$Drawing", "barred", "[I", true)
def tyX2 : Nat → FieldType := fun k => match k with
  | 0 => .array .int
  | 1 => .int
  | _ => .array .int
abbrev wsX20 : List Cond := u_ws RX2 TX2 3
theorem nmX2 : ∀ a, a < 3 → ∀ b, b < 3 → a ≠ b → (TX2 a).2.1 ≠ (TX2 b).2.1 := by decide +kernel
theorem tyX2_ok : ∀ k, k < 3 → parseFieldDescriptor (TX2 k).2.2.1 = some (tyX2 k) := by decide +kernel
abbrev cX2_init : ByteArray := prog_4_method_1_code
def yX2_init : MethodName := ⟨RX2, "<init>", "()V"⟩
abbrev cX2_readBars : ByteArray := prog_4_method_2_code
def yX2_readBars : MethodName := ⟨RX2, "readBars", "(LBarStrips$Chart;)V"⟩
abbrev cX2_draw : ByteArray := prog_4_method_3_code
def yX2_draw : MethodName := ⟨RX2, "draw", "(LBarStrips$Chart;)V"⟩
abbrev cX2_choose : ByteArray := prog_4_method_4_code
def yX2_choose : MethodName := ⟨RX2, "choose", "(LBarStrips$Chart;I)I"⟩
abbrev cX2_freeBends : ByteArray := prog_4_method_5_code
def yX2_freeBends : MethodName := ⟨RX2, "freeBends", "(LBarStrips$Chart;I)I"⟩
abbrev cX2_whyShut : ByteArray := prog_4_method_6_code
def yX2_whyShut : MethodName := ⟨RX2, "whyShut", "(LBarStrips$Chart;II)I"⟩
abbrev cX2_highest : ByteArray := prog_4_method_7_code
def yX2_highest : MethodName := ⟨RX2, "highest", "(LBarStrips$Chart;I)I"⟩
abbrev cX2_lowest : ByteArray := prog_4_method_8_code
def yX2_lowest : MethodName := ⟨RX2, "lowest", "(LBarStrips$Chart;I)I"⟩
abbrev cX2_lanesBetween : ByteArray := prog_4_method_9_code
def yX2_lanesBetween : MethodName := ⟨RX2, "lanesBetween", "(LBarStrips$Chart;I)I"⟩
abbrev cX2_pointsInAll : ByteArray := prog_4_method_10_code
def yX2_pointsInAll : MethodName := ⟨RX2, "pointsInAll", "(LBarStrips$Chart;)I"⟩
abbrev cX2_pointsOf : ByteArray := prog_4_method_11_code
def yX2_pointsOf : MethodName := ⟨RX2, "pointsOf", "(LBarStrips$Chart;I)I"⟩
abbrev cX2_crosses : ByteArray := prog_4_method_12_code
def yX2_crosses : MethodName := ⟨RX2, "crosses", "(LBarStrips$Chart;II)Z"⟩
abbrev cX2_passesThrough : ByteArray := prog_4_method_13_code
def yX2_passesThrough : MethodName := ⟨RX2, "passesThrough", "(LBarStrips$Chart;III)Z"⟩
abbrev cX2_goesAlong : ByteArray := prog_4_method_14_code
def yX2_goesAlong : MethodName := ⟨RX2, "goesAlong", "(LBarStrips$Chart;III)Z"⟩
def RX3 : String := "BarStrips$History"
def TX3 : u_T := fun k => match k with
  | 0 => ("BarStrips$History", "states", "[LBarStrips$Chart;", true)
  | 1 => ("BarStrips$History", "oldest", "I", false)
  | _ => ("BarStrips$History", "size", "I", false)
def tyX3 : Nat → FieldType := fun k => match k with
  | 0 => .array (.object "BarStrips$Chart")
  | 1 => .int
  | _ => .int
abbrev wsX30 : List Cond := u_ws RX3 TX3 3
theorem nmX3 : ∀ a, a < 3 → ∀ b, b < 3 → a ≠ b → (TX3 a).2.1 ≠ (TX3 b).2.1 := by decide +kernel
theorem tyX3_ok : ∀ k, k < 3 → parseFieldDescriptor (TX3 k).2.2.1 = some (tyX3 k) := by decide +kernel
abbrev cX3_init : ByteArray := prog_5_method_1_code
def yX3_init : MethodName := ⟨RX3, "<init>", "()V"⟩
abbrev cX3_record : ByteArray := prog_5_method_2_code
def yX3_record : MethodName := ⟨RX3, "record", "(LBarStrips$Chart;)V"⟩
abbrev cX3_takeLatest : ByteArray := prog_5_method_3_code
def yX3_takeLatest : MethodName := ⟨RX3, "takeLatest", "(LBarStrips$Chart;)I"⟩
def RX4 : String := "BarStrips$PartsText"
def TX4 : u_T := fun k => match k with
  | 0 => ("BarStrips$PartsText", "signs", "[C", true)
  | 1 => ("BarStrips$PartsText", "length", "I", false)
  | 2 => ("BarStrips$PartsText", "parts", "I", false)
  | 3 => ("BarStrips$PartsText", "head", "[I", true)
  | 4 => ("BarStrips$PartsText", "second", "[I", true)
  | 5 => ("BarStrips$PartsText", "days", "[I", true)
  | 6 => ("BarStrips$PartsText", "field", "I", false)
  | 7 => ("BarStrips$PartsText", "value", "I", false)
  | _ => ("BarStrips$PartsText", "digits", "I", false)
def tyX4 : Nat → FieldType := fun k => match k with
  | 0 => .array .char
  | 1 => .int
  | 2 => .int
  | 3 => .array .int
  | 4 => .array .int
  | 5 => .array .int
  | 6 => .int
  | 7 => .int
  | _ => .int
abbrev wsX40 : List Cond := u_ws RX4 TX4 9
theorem nmX4 : ∀ a, a < 9 → ∀ b, b < 9 → a ≠ b → (TX4 a).2.1 ≠ (TX4 b).2.1 := by decide +kernel
theorem tyX4_ok : ∀ k, k < 9 → parseFieldDescriptor (TX4 k).2.2.1 = some (tyX4 k) := by decide +kernel
abbrev cX4_init : ByteArray := prog_6_method_1_code
def yX4_init : MethodName := ⟨RX4, "<init>", "()V"⟩
def RX5 : String := "BarStrips$Pushes"
def TX5 : u_T := fun k => match k with
  | 0 => ("BarStrips$Pushes", "order", "[I", true)
  | 1 => ("BarStrips$Pushes", "pushed", "[I", true)
  | _ => ("BarStrips$Pushes", "day", "[I", true)
def tyX5 : Nat → FieldType := fun k => match k with
  | 0 => .array .int
  | 1 => .array .int
  | _ => .array .int
abbrev wsX50 : List Cond := u_ws RX5 TX5 3
theorem nmX5 : ∀ a, a < 3 → ∀ b, b < 3 → a ≠ b → (TX5 a).2.1 ≠ (TX5 b).2.1 := by decide +kernel
theorem tyX5_ok : ∀ k, k < 3 → parseFieldDescriptor (TX5 k).2.2.1 = some (tyX5 k) := by decide +kernel
abbrev cX5_init : ByteArray := prog_7_method_1_code
def yX5_init : MethodName := ⟨RX5, "<init>", "()V"⟩
abbrev cX5_read : ByteArray := prog_7_method_2_code
def yX5_read : MethodName := ⟨RX5, "read", "(LBarStrips$Chart;)V"⟩
abbrev cX5_sortByFirstDays : ByteArray := prog_7_method_3_code
def yX5_sortByFirstDays : MethodName := ⟨RX5, "sortByFirstDays", "(LBarStrips$Chart;)V"⟩
abbrev cX5_behindInLane : ByteArray := prog_7_method_4_code
def yX5_behindInLane : MethodName := ⟨RX5, "behindInLane", "(LBarStrips$Chart;I)I"⟩
abbrev cX5_isPushed : ByteArray := prog_7_method_5_code
def yX5_isPushed : MethodName := ⟨RX5, "isPushed", "(II)Z"⟩
abbrev cX5_slipFrom : ByteArray := prog_7_method_6_code
def yX5_slipFrom : MethodName := ⟨RX5, "slipFrom", "(LBarStrips$Chart;II)I"⟩
abbrev cX5_findLatest : ByteArray := prog_7_method_7_code
def yX5_findLatest : MethodName := ⟨RX5, "findLatest", "(LBarStrips$Chart;)V"⟩
abbrev cX5_earliest : ByteArray := prog_7_method_8_code
def yX5_earliest : MethodName := ⟨RX5, "earliest", "(LBarStrips$Chart;I)I"⟩
abbrev cX5_longestRow : ByteArray := prog_7_method_9_code
def yX5_longestRow : MethodName := ⟨RX5, "longestRow", "(LBarStrips$Chart;)I"⟩
def RX6 : String := "BarStrips$SwapSearch"
def TX6 : u_T := fun k => match k with
  | 0 => ("BarStrips$SwapSearch", "lane", "I", false)
  | 1 => ("BarStrips$SwapSearch", "other", "I", false)
  | 2 => ("BarStrips$SwapSearch", "undrawn", "I", false)
  | _ => ("BarStrips$SwapSearch", "points", "I", false)
def tyX6 : Nat → FieldType := fun k => match k with
  | 0 => .int
  | 1 => .int
  | 2 => .int
  | _ => .int
abbrev wsX60 : List Cond := u_ws RX6 TX6 4
theorem nmX6 : ∀ a, a < 4 → ∀ b, b < 4 → a ≠ b → (TX6 a).2.1 ≠ (TX6 b).2.1 := by decide +kernel
theorem tyX6_ok : ∀ k, k < 4 → parseFieldDescriptor (TX6 k).2.2.1 = some (tyX6 k) := by decide +kernel
abbrev cX6_init : ByteArray := prog_8_method_1_code
def yX6_init : MethodName := ⟨RX6, "<init>", "()V"⟩
abbrev cX6_find : ByteArray := prog_8_method_2_code
def yX6_find : MethodName := ⟨RX6, "find", "(LBarStrips$Chart;LBarStrips$Drawing;)Z"⟩
abbrev cX6_isBetter : ByteArray := prog_8_method_3_code
def yX6_isBetter : MethodName := ⟨RX6, "isBetter", "(LBarStrips$Chart;LBarStrips$Drawing;)Z"⟩
def RX7 : String := "BarStrips"
def TX7 : u_T := fun k => match k with
  | 0 => ("BarStrips", "chart", "LBarStrips$Chart;", true)
  | 1 => ("BarStrips", "draft", "LBarStrips$Chart;", true)
  | 2 => ("BarStrips", "snapshot", "LBarStrips$Chart;", true)
  | 3 => ("BarStrips", "snapshotTaken", "Z", false)
  | 4 => ("BarStrips", "history", "LBarStrips$History;", true)
  | 5 => ("BarStrips", "text", "LBarStrips$PartsText;", true)
  | 6 => ("BarStrips", "pushes", "LBarStrips$Pushes;", true)
  | 7 => ("BarStrips", "drawing", "LBarStrips$Drawing;", true)
  | 8 => ("BarStrips", "cutting", "LBarStrips$Cutting;", true)
  | _ => ("BarStrips", "swapSearch", "LBarStrips$SwapSearch;", true)
def tyX7 : Nat → FieldType := fun k => match k with
  | 0 => .object "BarStrips$Chart"
  | 1 => .object "BarStrips$Chart"
  | 2 => .object "BarStrips$Chart"
  | 3 => .boolean
  | 4 => .object "BarStrips$History"
  | 5 => .object "BarStrips$PartsText"
  | 6 => .object "BarStrips$Pushes"
  | 7 => .object "BarStrips$Drawing"
  | 8 => .object "BarStrips$Cutting"
  | _ => .object "BarStrips$SwapSearch"
abbrev wsX70 : List Cond := u_ws RX7 TX7 10
theorem nmX7 : ∀ a, a < 10 → ∀ b, b < 10 → a ≠ b → (TX7 a).2.1 ≠ (TX7 b).2.1 := by decide +kernel
theorem tyX7_ok : ∀ k, k < 10 → parseFieldDescriptor (TX7 k).2.2.1 = some (tyX7 k) := by decide +kernel
abbrev cX7_init : ByteArray := prog_1_method_1_code
def yX7_init : MethodName := ⟨RX7, "<init>", "()V"⟩
abbrev cX7_bar : ByteArray := prog_1_method_2_code
def yX7_bar : MethodName := ⟨RX7, "bar", "(III)I"⟩
abbrev cX7_arrow : ByteArray := prog_1_method_3_code
def yX7_arrow : MethodName := ⟨RX7, "arrow", "(II)I"⟩
abbrev cX7_takeBar : ByteArray := prog_1_method_5_code
def yX7_takeBar : MethodName := ⟨RX7, "takeBar", "(I)I"⟩
abbrev cX7_takeArrow : ByteArray := prog_1_method_6_code
def yX7_takeArrow : MethodName := ⟨RX7, "takeArrow", "(I)I"⟩
abbrev cX7_move : ByteArray := prog_1_method_7_code
def yX7_move : MethodName := ⟨RX7, "move", "(III)I"⟩
abbrev cX7_swap : ByteArray := prog_1_method_8_code
def yX7_swap : MethodName := ⟨RX7, "swap", "(II)I"⟩
abbrev cX7_pack : ByteArray := prog_1_method_9_code
def yX7_pack : MethodName := ⟨RX7, "pack", "()I"⟩
abbrev cX7_slip : ByteArray := prog_1_method_10_code
def yX7_slip : MethodName := ⟨RX7, "slip", "(II)I"⟩
abbrev cX7_pull : ByteArray := prog_1_method_11_code
def yX7_pull : MethodName := ⟨RX7, "pull", "(I)I"⟩
abbrev cX7_width : ByteArray := prog_1_method_12_code
def yX7_width : MethodName := ⟨RX7, "width", "(III)I"⟩
abbrev cX7_set : ByteArray := prog_1_method_13_code
def yX7_set : MethodName := ⟨RX7, "set", "(II)I"⟩
abbrev cX7_undo : ByteArray := prog_1_method_17_code
def yX7_undo : MethodName := ⟨RX7, "undo", "()I"⟩
abbrev cX7_barOf : ByteArray := prog_1_method_20_code
def yX7_barOf : MethodName := ⟨RX7, "barOf", "(II)I"⟩
abbrev cX7_arrowOf : ByteArray := prog_1_method_21_code
def yX7_arrowOf : MethodName := ⟨RX7, "arrowOf", "(II)I"⟩
abbrev cX7_reason : ByteArray := prog_1_method_22_code
def yX7_reason : MethodName := ⟨RX7, "reason", "(II)I"⟩
abbrev cX7_cell : ByteArray := prog_1_method_23_code
def yX7_cell : MethodName := ⟨RX7, "cell", "(II)I"⟩
abbrev cX7_strip : ByteArray := prog_1_method_24_code
def yX7_strip : MethodName := ⟨RX7, "strip", "(II)I"⟩
abbrev cX7_count : ByteArray := prog_1_method_25_code
def yX7_count : MethodName := ⟨RX7, "count", "(I)I"⟩
abbrev cX7_latest : ByteArray := prog_1_method_26_code
def yX7_latest : MethodName := ⟨RX7, "latest", "(I)I"⟩
abbrev cX7_longest : ByteArray := prog_1_method_27_code
def yX7_longest : MethodName := ⟨RX7, "longest", "()I"⟩
abbrev cX7_ifSlipped : ByteArray := prog_1_method_29_code
def yX7_ifSlipped : MethodName := ⟨RX7, "ifSlipped", "(II)I"⟩
abbrev cX7_bestSwap : ByteArray := prog_1_method_30_code
def yX7_bestSwap : MethodName := ⟨RX7, "bestSwap", "(I)I"⟩
abbrev cX7_bestLane : ByteArray := prog_1_method_31_code
def yX7_bestLane : MethodName := ⟨RX7, "bestLane", "(I)I"⟩
abbrev cX7_settle : ByteArray := prog_1_method_32_code
def yX7_settle : MethodName := ⟨RX7, "settle", "(I)I"⟩
abbrev cX7_latestOf : ByteArray := prog_1_method_34_code
def yX7_latestOf : MethodName := ⟨RX7, "latestOf", "(I)I"⟩
abbrev cX7_criticalBars : ByteArray := prog_1_method_35_code
def yX7_criticalBars : MethodName := ⟨RX7, "criticalBars", "()I"⟩
abbrev cX7_undrawnArrows : ByteArray := prog_1_method_36_code
def yX7_undrawnArrows : MethodName := ⟨RX7, "undrawnArrows", "()I"⟩
abbrev cX7_crossingPoints : ByteArray := prog_1_method_37_code
def yX7_crossingPoints : MethodName := ⟨RX7, "crossingPoints", "()I"⟩
abbrev cX7_stripOf : ByteArray := prog_1_method_38_code
def yX7_stripOf : MethodName := ⟨RX7, "stripOf", "(I)I"⟩
abbrev cX7_stripsInAll : ByteArray := prog_1_method_39_code
def yX7_stripsInAll : MethodName := ⟨RX7, "stripsInAll", "()I"⟩
abbrev cX7_isLane : ByteArray := prog_1_method_40_code
def yX7_isLane : MethodName := ⟨RX7, "isLane", "(I)Z"⟩
abbrev cX7_isDay : ByteArray := prog_1_method_41_code
def yX7_isDay : MethodName := ⟨RX7, "isDay", "(I)Z"⟩
abbrev cX7_isSetting : ByteArray := prog_1_method_42_code
def yX7_isSetting : MethodName := ⟨RX7, "isSetting", "(II)Z"⟩
def RX8 : String := "BarStripsModel"
def TX8 : u_T := fun k => match k with
  | _ => ("", "", "", false)
def tyX8 : Nat → FieldType := fun k => match k with
  | _ => .int
abbrev wsX80 : List Cond := u_ws RX8 TX8 0
theorem nmX8 : ∀ a, a < 0 → ∀ b, b < 0 → a ≠ b → (TX8 a).2.1 ≠ (TX8 b).2.1 := by decide +kernel
theorem tyX8_ok : ∀ k, k < 0 → parseFieldDescriptor (TX8 k).2.2.1 = some (tyX8 k) := by decide +kernel
def RJ9 : String := "java/lang/Math"
def TJ9 : u_T := fun k => match k with
  | _ => ("", "", "", false)
def tyJ9 : Nat → FieldType := fun k => match k with
  | _ => .int
abbrev wsJ90 : List Cond := u_ws RJ9 TJ9 0
theorem nmJ9 : ∀ a, a < 0 → ∀ b, b < 0 → a ≠ b → (TJ9 a).2.1 ≠ (TJ9 b).2.1 := by decide +kernel
theorem tyJ9_ok : ∀ k, k < 0 → parseFieldDescriptor (TJ9 k).2.2.1 = some (tyJ9 k) := by decide +kernel
abbrev cJ9_abs_0f7a4 : ByteArray := prog_11_method_59_code
def yJ9_abs_0f7a4 : MethodName := ⟨RJ9, "abs", "(I)I"⟩
abbrev cJ9_max_7cf53 : ByteArray := prog_11_method_65_code
def yJ9_max_7cf53 : MethodName := ⟨RJ9, "max", "(II)I"⟩
abbrev cJ9_min_7cf53 : ByteArray := prog_11_method_69_code
def yJ9_min_7cf53 : MethodName := ⟨RJ9, "min", "(II)I"⟩
def RJ10 : String := "java/lang/System"
def TJ10 : u_T := fun k => match k with
  | _ => ("", "", "", false)
def tyJ10 : Nat → FieldType := fun k => match k with
  | _ => .int
abbrev wsJ100 : List Cond := u_ws RJ10 TJ10 0
theorem nmJ10 : ∀ a, a < 0 → ∀ b, b < 0 → a ≠ b → (TJ10 a).2.1 ≠ (TJ10 b).2.1 := by decide +kernel
theorem tyJ10_ok : ∀ k, k < 0 → parseFieldDescriptor (TJ10 k).2.2.1 = some (tyJ10 k) := by decide +kernel
def RJ7 : String := "java/util/Arrays"
def TJ7 : u_T := fun k => match k with
  | _ => ("", "", "", false)
def tyJ7 : Nat → FieldType := fun k => match k with
  | _ => .int
abbrev wsJ70 : List Cond := u_ws RJ7 TJ7 0
theorem nmJ7 : ∀ a, a < 0 → ∀ b, b < 0 → a ≠ b → (TJ7 a).2.1 ≠ (TJ7 b).2.1 := by decide +kernel
theorem tyJ7_ok : ∀ k, k < 0 → parseFieldDescriptor (TJ7 k).2.2.1 = some (tyJ7 k) := by decide +kernel
abbrev cJ7_fill_53178 : ByteArray := prog_13_method_103_code
def yJ7_fill_53178 : MethodName := ⟨RJ7, "fill", "([II)V"⟩
def RL : String := "BarStripsLaw"
abbrev cL_cell : ByteArray := method_2_code
def yL_cell : MethodName := ⟨RL, "cell", "([II)I"⟩
abbrev cL_low : ByteArray := method_3_code
def yL_low : MethodName := ⟨RL, "low", "(II)I"⟩
abbrev cL_bar : ByteArray := method_4_code
def yL_bar : MethodName := ⟨RL, "bar", "(LBarStrips;I)I"⟩
abbrev cL_arrow : ByteArray := method_5_code
def yL_arrow : MethodName := ⟨RL, "arrow", "(LBarStrips;I)I"⟩
abbrev cL_does : ByteArray := method_6_code
def yL_does : MethodName := ⟨RL, "does", "(LBarStrips;I)I"⟩
abbrev cL_isArrowSo : ByteArray := method_7_code
def yL_isArrowSo : MethodName := ⟨RL, "isArrowSo", "(LBarStrips;I)Z"⟩
abbrev cL_isChartSo : ByteArray := method_8_code
def yL_isChartSo : MethodName := ⟨RL, "isChartSo", "(LBarStrips;)Z"⟩
abbrev cL_isSlipSo : ByteArray := method_9_code
def yL_isSlipSo : MethodName := ⟨RL, "isSlipSo", "(LBarStrips;I)Z"⟩
abbrev cL_areBestSo : ByteArray := method_10_code
def yL_areBestSo : MethodName := ⟨RL, "areBestSo", "(LBarStrips;II)Z"⟩
abbrev cL_law : ByteArray := code
def yL_law : MethodName := ⟨RL, "law", "([I)Z"⟩
abbrev vwCl : List vw_C := [(RX0, TX0, 14), (RX1, TX1, 2), (RX2, TX2, 3), (RX3, TX3, 3), (RX4, TX4, 9), (RX5, TX5, 3), (RX6, TX6, 4), (RX7, TX7, 10)]
