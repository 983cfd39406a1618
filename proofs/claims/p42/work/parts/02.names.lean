/-! ===== BEGIN words of one list among another's, by their places ===== -/
theorem goodIn_r {big : List Cond} (ws : List Cond) (ps : List Nat) (hp : ws = ps.filterMap (fun i => big[i]?)) (h : ws.all goodWord = true) : GoodIn big ws := by
  intro w hw
  have h1 := List.all_eq_true.mp h w hw
  rw [hp] at hw
  obtain ⟨i, -, hi⟩ := List.mem_filterMap.mp hw
  have hm : w ∈ big := by first | exact List.mem_of_getElem? hi | exact List.getElem?_mem hi
  exact ⟨hm, good_of_word h1⟩
theorem goodIn_app {big a b : List Cond} (ha : GoodIn big a) (hb : GoodIn big b) : GoodIn big (a ++ b) := fun w h => (List.mem_append.mp h).elim (ha w) (hb w)
theorem goodIn_ca {big a b : List Cond} {c : Cond} (ha : GoodIn big (c :: a)) (hb : GoodIn big b) : GoodIn big (c :: (a ++ b)) := fun w h => (List.mem_cons.mp h).elim (fun e => ha w (List.mem_cons.mpr (Or.inl e))) (fun h => (List.mem_append.mp h).elim (fun h => ha w (List.mem_cons.mpr (Or.inr h))) (hb w))
theorem goodIn_sub {big ws : List Cond} (hm : ∀ w ∈ ws, w ∈ big) (h : ws.all goodWord = true) : GoodIn big ws := fun w hw => ⟨hm w hw, good_of_word (List.all_eq_true.mp h w hw)⟩
/-! ===== END ===== -/


/-! ===== BEGIN printed: names, fields, word lists, decode rows ===== -/
def RX0 : String := "ScaleGroups$Labels"
def TX0 : u_T := fun k => match k with
  | 0 => ("ScaleGroups$Labels", "count", "I", false)
  | 1 => ("ScaleGroups$Labels", "visible", "[I", true)
  | _ => ("ScaleGroups$Labels", "holders", "[I", true)
def tyX0 : Nat → FieldType := fun k => match k with
  | 0 => .int
  | 1 => .array .int
  | _ => .array .int
abbrev wsX00 : List Cond := u_ws RX0 TX0 3
theorem nmX0 : ∀ a, a < 3 → ∀ b, b < 3 → a ≠ b → (TX0 a).2.1 ≠ (TX0 b).2.1 := by decide +kernel
theorem tyX0_ok : ∀ k, k < 3 → parseFieldDescriptor (TX0 k).2.2.1 = some (tyX0 k) := by decide +kernel
abbrev cX0_init : ByteArray := prog_2_method_1_code
def yX0_init : MethodName := ⟨RX0, "<init>", "()V"⟩
def RX1 : String := "ScaleGroups$Lasting"
def TX1 : u_T := fun k => match k with
  | 0 => ("ScaleGroups$Lasting", "total", "I", false)
  | 1 => ("ScaleGroups$Lasting", "count", "I", false)
  | 2 => ("ScaleGroups$Lasting", "totals", "[I", true)
  | 3 => ("ScaleGroups$Lasting", "whole", "[Z", true)
  | 4 => ("ScaleGroups$Lasting", "open", "[Z", true)
  | _ => ("ScaleGroups$Lasting", "nodesByLeast", "[I", true)
def tyX1 : Nat → FieldType := fun k => match k with
  | 0 => .int
  | 1 => .int
  | 2 => .array .int
  | 3 => .array .boolean
  | 4 => .array .boolean
  | _ => .array .int
abbrev wsX10 : List Cond := u_ws RX1 TX1 6
theorem nmX1 : ∀ a, a < 6 → ∀ b, b < 6 → a ≠ b → (TX1 a).2.1 ≠ (TX1 b).2.1 := by decide +kernel
theorem tyX1_ok : ∀ k, k < 6 → parseFieldDescriptor (TX1 k).2.2.1 = some (tyX1 k) := by decide +kernel
abbrev cX1_init : ByteArray := prog_3_method_1_code
def yX1_init : MethodName := ⟨RX1, "<init>", "()V"⟩
def RX2 : String := "ScaleGroups$Order"
def TX2 : u_T := fun k => match k with
  | 0 => ("ScaleGroups$Order", "points", "LScaleGroups$Points;", true)
  | 1 => ("ScaleGroups$Order", "count", "I", false)
  | 2 => ("ScaleGroups$Order", "keys", "[J", true)
  | 3 => ("ScaleGroups$Order", "aparts", "[I", true)
  | 4 => ("ScaleGroups$Order", "roots", "[I", true)
  | 5 => ("ScaleGroups$Order", "firsts", "[I", true)
  | 6 => ("ScaleGroups$Order", "seconds", "[I", true)
  | 7 => ("ScaleGroups$Order", "parts", "[I", true)
  | 8 => ("ScaleGroups$Order", "firstSides", "[I", true)
  | 9 => ("ScaleGroups$Order", "otherSides", "[I", true)
  | 10 => ("ScaleGroups$Order", "joinsAbove", "[I", true)
  | 11 => ("ScaleGroups$Order", "pointsAbove", "[I", true)
  | 12 => ("ScaleGroups$Order", "pairs", "[J", true)
  | 13 => ("ScaleGroups$Order", "links", "[J", true)
  | _ => ("ScaleGroups$Order", "nodes", "[I", true)
def tyX2 : Nat → FieldType := fun k => match k with
  | 0 => .object "ScaleGroups$Points"
  | 1 => .int
  | 2 => .array .long
  | 3 => .array .int
  | 4 => .array .int
  | 5 => .array .int
  | 6 => .array .int
  | 7 => .array .int
  | 8 => .array .int
  | 9 => .array .int
  | 10 => .array .int
  | 11 => .array .int
  | 12 => .array .long
  | 13 => .array .long
  | _ => .array .int
abbrev wsX20 : List Cond := u_ws RX2 TX2 15
theorem nmX2 : ∀ a, a < 15 → ∀ b, b < 15 → a ≠ b → (TX2 a).2.1 ≠ (TX2 b).2.1 := by decide +kernel
theorem tyX2_ok : ∀ k, k < 15 → parseFieldDescriptor (TX2 k).2.2.1 = some (tyX2 k) := by decide +kernel
abbrev cX2_init : ByteArray := prog_4_method_1_code
def yX2_init : MethodName := ⟨RX2, "<init>", "()V"⟩
abbrev cX2_rebuild : ByteArray := prog_4_method_2_code
def yX2_rebuild : MethodName := ⟨RX2, "rebuild", "()V"⟩
abbrev cX2_growTree : ByteArray := prog_4_method_3_code
def yX2_growTree : MethodName := ⟨RX2, "growTree", "()V"⟩
abbrev cX2_nextToGrow : ByteArray := prog_4_method_4_code
def yX2_nextToGrow : MethodName := ⟨RX2, "nextToGrow", "(I)I"⟩
abbrev cX2_keyOf : ByteArray := prog_4_method_5_code
def yX2_keyOf : MethodName := ⟨RX2, "keyOf", "(II)J"⟩
abbrev cX2_putKey : ByteArray := prog_4_method_6_code
def yX2_putKey : MethodName := ⟨RX2, "putKey", "(J)V"⟩
abbrev cX2_makeJoin : ByteArray := prog_4_method_7_code
def yX2_makeJoin : MethodName := ⟨RX2, "makeJoin", "(I)V"⟩
abbrev cX2_placeOf : ByteArray := prog_4_method_8_code
def yX2_placeOf : MethodName := ⟨RX2, "placeOf", "(I)J"⟩
abbrev cX2_putBelow : ByteArray := prog_4_method_9_code
def yX2_putBelow : MethodName := ⟨RX2, "putBelow", "(II)V"⟩
abbrev cX2_joinOf : ByteArray := prog_4_method_10_code
def yX2_joinOf : MethodName := ⟨RX2, "joinOf", "(I)I"⟩
abbrev cX2_setOf : ByteArray := prog_4_method_11_code
def yX2_setOf : MethodName := ⟨RX2, "setOf", "(I)I"⟩
abbrev cX2_lastsOf : ByteArray := prog_4_method_12_code
def yX2_lastsOf : MethodName := ⟨RX2, "lastsOf", "(I)I"⟩
abbrev cX2_joinAbove : ByteArray := prog_4_method_13_code
def yX2_joinAbove : MethodName := ⟨RX2, "joinAbove", "(I)I"⟩
abbrev cX2_partOf : ByteArray := prog_4_method_14_code
def yX2_partOf : MethodName := ⟨RX2, "partOf", "(II)I"⟩
abbrev cX2_joinsWithin : ByteArray := prog_4_method_15_code
def yX2_joinsWithin : MethodName := ⟨RX2, "joinsWithin", "(I)I"⟩
abbrev cX2_makerOf : ByteArray := prog_4_method_17_code
def yX2_makerOf : MethodName := ⟨RX2, "makerOf", "(I)I"⟩
abbrev cX2_linksOf : ByteArray := prog_4_method_18_code
def yX2_linksOf : MethodName := ⟨RX2, "linksOf", "(I)I"⟩
abbrev cX2_mostLinks : ByteArray := prog_4_method_19_code
def yX2_mostLinks : MethodName := ⟨RX2, "mostLinks", "()I"⟩
abbrev cX2_sumAparts : ByteArray := prog_4_method_20_code
def yX2_sumAparts : MethodName := ⟨RX2, "sumAparts", "()I"⟩
abbrev cX2_sumRoots : ByteArray := prog_4_method_21_code
def yX2_sumRoots : MethodName := ⟨RX2, "sumRoots", "()I"⟩
abbrev cX2_hasPair : ByteArray := prog_4_method_22_code
def yX2_hasPair : MethodName := ⟨RX2, "hasPair", "(J)Z"⟩
abbrev cX2_countUnlike : ByteArray := prog_4_method_23_code
def yX2_countUnlike : MethodName := ⟨RX2, "countUnlike", "(LScaleGroups$Order;)I"⟩
def RX3 : String := "ScaleGroups$Outline"
def TX3 : u_T := fun k => match k with
  | 0 => ("ScaleGroups$Outline", "count", "I", false)
  | _ => ("ScaleGroups$Outline", "row", "[I", true)
def tyX3 : Nat → FieldType := fun k => match k with
  | 0 => .int
  | _ => .array .int
abbrev wsX30 : List Cond := u_ws RX3 TX3 2
theorem nmX3 : ∀ a, a < 2 → ∀ b, b < 2 → a ≠ b → (TX3 a).2.1 ≠ (TX3 b).2.1 := by decide +kernel
theorem tyX3_ok : ∀ k, k < 2 → parseFieldDescriptor (TX3 k).2.2.1 = some (tyX3 k) := by decide +kernel
abbrev cX3_init : ByteArray := prog_5_method_1_code
def yX3_init : MethodName := ⟨RX3, "<init>", "()V"⟩
def RX4 : String := "ScaleGroups$Points"
def TX4 : u_T := fun k => match k with
  | 0 => ("ScaleGroups$Points", "count", "I", false)
  | 1 => ("ScaleGroups$Points", "xs", "[I", true)
  | 2 => ("ScaleGroups$Points", "ys", "[I", true)
  | _ => ("ScaleGroups$Points", "ws", "[I", true)
def tyX4 : Nat → FieldType := fun k => match k with
  | 0 => .int
  | 1 => .array .int
  | 2 => .array .int
  | _ => .array .int
abbrev wsX40 : List Cond := u_ws RX4 TX4 4
theorem nmX4 : ∀ a, a < 4 → ∀ b, b < 4 → a ≠ b → (TX4 a).2.1 ≠ (TX4 b).2.1 := by decide +kernel
theorem tyX4_ok : ∀ k, k < 4 → parseFieldDescriptor (TX4 k).2.2.1 = some (tyX4 k) := by decide +kernel
abbrev cX4_init : ByteArray := prog_6_method_1_code
def yX4_init : MethodName := ⟨RX4, "<init>", "()V"⟩
abbrev cX4_canCome : ByteArray := prog_6_method_2_code
def yX4_canCome : MethodName := ⟨RX4, "canCome", "(II)Z"⟩
abbrev cX4_find : ByteArray := prog_6_method_3_code
def yX4_find : MethodName := ⟨RX4, "find", "(II)I"⟩
abbrev cX4_put : ByteArray := prog_6_method_4_code
def yX4_put : MethodName := ⟨RX4, "put", "(III)V"⟩
abbrev cX4_drop : ByteArray := prog_6_method_5_code
def yX4_drop : MethodName := ⟨RX4, "drop", "(I)V"⟩
abbrev cX4_move : ByteArray := prog_6_method_6_code
def yX4_move : MethodName := ⟨RX4, "move", "(II)V"⟩
abbrev cX4_copy : ByteArray := prog_6_method_7_code
def yX4_copy : MethodName := ⟨RX4, "copy", "(LScaleGroups$Points;)V"⟩
abbrev cX4_squares : ByteArray := prog_6_method_8_code
def yX4_squares : MethodName := ⟨RX4, "squares", "(III)I"⟩
abbrev cX4_apart : ByteArray := prog_6_method_9_code
def yX4_apart : MethodName := ⟨RX4, "apart", "(II)I"⟩
abbrev cX4_nearestTo : ByteArray := prog_6_method_10_code
def yX4_nearestTo : MethodName := ⟨RX4, "nearestTo", "(I)I"⟩
abbrev cX4_apartFromNearest : ByteArray := prog_6_method_11_code
def yX4_apartFromNearest : MethodName := ⟨RX4, "apartFromNearest", "(I)I"⟩
abbrev cX4_weightOf : ByteArray := prog_6_method_13_code
def yX4_weightOf : MethodName := ⟨RX4, "weightOf", "(I)I"⟩
abbrev cX4_heaviestOf : ByteArray := prog_6_method_14_code
def yX4_heaviestOf : MethodName := ⟨RX4, "heaviestOf", "(I)I"⟩
abbrev cX4_wide : ByteArray := prog_6_method_15_code
def yX4_wide : MethodName := ⟨RX4, "wide", "(I)I"⟩
def RX5 : String := "ScaleGroups$Scale"
def TX5 : u_T := fun k => match k with
  | 0 => ("ScaleGroups$Scale", "count", "I", false)
  | 1 => ("ScaleGroups$Scale", "sets", "[I", true)
  | 2 => ("ScaleGroups$Scale", "weights", "[I", true)
  | 3 => ("ScaleGroups$Scale", "xs", "[I", true)
  | 4 => ("ScaleGroups$Scale", "ys", "[I", true)
  | _ => ("ScaleGroups$Scale", "groupAt", "[I", true)
def tyX5 : Nat → FieldType := fun k => match k with
  | 0 => .int
  | 1 => .array .int
  | 2 => .array .int
  | 3 => .array .int
  | 4 => .array .int
  | _ => .array .int
abbrev wsX50 : List Cond := u_ws RX5 TX5 6
theorem nmX5 : ∀ a, a < 6 → ∀ b, b < 6 → a ≠ b → (TX5 a).2.1 ≠ (TX5 b).2.1 := by decide +kernel
theorem tyX5_ok : ∀ k, k < 6 → parseFieldDescriptor (TX5 k).2.2.1 = some (tyX5 k) := by decide +kernel
abbrev cX5_init : ByteArray := prog_7_method_1_code
def yX5_init : MethodName := ⟨RX5, "<init>", "()V"⟩
abbrev cX5_cut : ByteArray := prog_7_method_2_code
def yX5_cut : MethodName := ⟨RX5, "cut", "(LScaleGroups$Order;I)V"⟩
abbrev cX5_gather : ByteArray := prog_7_method_3_code
def yX5_gather : MethodName := ⟨RX5, "gather", "(LScaleGroups$Points;I)V"⟩
abbrev cX5_groupsWithin : ByteArray := prog_7_method_4_code
def yX5_groupsWithin : MethodName := ⟨RX5, "groupsWithin", "(I)I"⟩
def RX6 : String := "ScaleGroups$Sets"
def TX6 : u_T := fun k => match k with
  | _ => ("", "", "", false)
def tyX6 : Nat → FieldType := fun k => match k with
  | _ => .int
abbrev wsX60 : List Cond := u_ws RX6 TX6 0
theorem nmX6 : ∀ a, a < 0 → ∀ b, b < 0 → a ≠ b → (TX6 a).2.1 ≠ (TX6 b).2.1 := by decide +kernel
theorem tyX6_ok : ∀ k, k < 0 → parseFieldDescriptor (TX6 k).2.2.1 = some (tyX6 k) := by decide +kernel
abbrev cX6_has : ByteArray := prog_8_method_2_code
def yX6_has : MethodName := ⟨RX6, "has", "(II)Z"⟩
abbrev cX6_first : ByteArray := prog_8_method_3_code
def yX6_first : MethodName := ⟨RX6, "first", "(I)I"⟩
abbrev cX6_least : ByteArray := prog_8_method_4_code
def yX6_least : MethodName := ⟨RX6, "least", "(I)I"⟩
abbrev cX6_nth : ByteArray := prog_8_method_5_code
def yX6_nth : MethodName := ⟨RX6, "nth", "(II)I"⟩
abbrev cX6_lowest : ByteArray := prog_8_method_6_code
def yX6_lowest : MethodName := ⟨RX6, "lowest", "([II)I"⟩
abbrev cX6_highest : ByteArray := prog_8_method_7_code
def yX6_highest : MethodName := ⟨RX6, "highest", "([II)I"⟩
abbrev cX6_root : ByteArray := prog_8_method_9_code
def yX6_root : MethodName := ⟨RX6, "root", "(I)I"⟩
def RX7 : String := "ScaleGroups$Ways"
def TX7 : u_T := fun k => match k with
  | _ => ("ScaleGroups$Ways", "far", "[[I", true)
def tyX7 : Nat → FieldType := fun k => match k with
  | _ => .array (.array .int)
abbrev wsX70 : List Cond := u_ws RX7 TX7 1
theorem nmX7 : ∀ a, a < 1 → ∀ b, b < 1 → a ≠ b → (TX7 a).2.1 ≠ (TX7 b).2.1 := by decide +kernel
theorem tyX7_ok : ∀ k, k < 1 → parseFieldDescriptor (TX7 k).2.2.1 = some (tyX7 k) := by decide +kernel
abbrev cX7_init : ByteArray := prog_9_method_1_code
def yX7_init : MethodName := ⟨RX7, "<init>", "()V"⟩
def RX8 : String := "ScaleGroups"
def TX8 : u_T := fun k => match k with
  | 0 => ("ScaleGroups", "now", "LScaleGroups$Order;", false)
  | 1 => ("ScaleGroups", "ahead", "LScaleGroups$Order;", false)
  | 2 => ("ScaleGroups", "tried", "LScaleGroups$Order;", true)
  | 3 => ("ScaleGroups", "scale", "LScaleGroups$Scale;", true)
  | 4 => ("ScaleGroups", "other", "LScaleGroups$Scale;", true)
  | 5 => ("ScaleGroups", "labels", "LScaleGroups$Labels;", true)
  | 6 => ("ScaleGroups", "corners", "LScaleGroups$Outline;", true)
  | 7 => ("ScaleGroups", "ways", "LScaleGroups$Ways;", true)
  | 8 => ("ScaleGroups", "lasting", "LScaleGroups$Lasting;", true)
  | 9 => ("ScaleGroups", "row", "[I", true)
  | 10 => ("ScaleGroups", "labelSize", "I", false)
  | _ => ("ScaleGroups", "drawState", "I", false)
def tyX8 : Nat → FieldType := fun k => match k with
  | 0 => .object "ScaleGroups$Order"
  | 1 => .object "ScaleGroups$Order"
  | 2 => .object "ScaleGroups$Order"
  | 3 => .object "ScaleGroups$Scale"
  | 4 => .object "ScaleGroups$Scale"
  | 5 => .object "ScaleGroups$Labels"
  | 6 => .object "ScaleGroups$Outline"
  | 7 => .object "ScaleGroups$Ways"
  | 8 => .object "ScaleGroups$Lasting"
  | 9 => .array .int
  | 10 => .int
  | _ => .int
abbrev wsX80 : List Cond := u_ws RX8 TX8 12
theorem nmX8 : ∀ a, a < 12 → ∀ b, b < 12 → a ≠ b → (TX8 a).2.1 ≠ (TX8 b).2.1 := by decide +kernel
theorem tyX8_ok : ∀ k, k < 12 → parseFieldDescriptor (TX8 k).2.2.1 = some (tyX8 k) := by decide +kernel
abbrev cX8_init : ByteArray := prog_1_method_1_code
def yX8_init : MethodName := ⟨RX8, "<init>", "()V"⟩
abbrev cX8_add : ByteArray := prog_1_method_2_code
def yX8_add : MethodName := ⟨RX8, "add", "(III)I"⟩
abbrev cX8_take : ByteArray := prog_1_method_3_code
def yX8_take : MethodName := ⟨RX8, "take", "(I)I"⟩
abbrev cX8_point : ByteArray := prog_1_method_9_code
def yX8_point : MethodName := ⟨RX8, "point", "(II)I"⟩
abbrev cX8_at : ByteArray := prog_1_method_10_code
def yX8_at : MethodName := ⟨RX8, "at", "(II)I"⟩
abbrev cX8_join : ByteArray := prog_1_method_12_code
def yX8_join : MethodName := ⟨RX8, "join", "(II)I"⟩
abbrev cX8_groups : ByteArray := prog_1_method_17_code
def yX8_groups : MethodName := ⟨RX8, "groups", "(I)I"⟩
abbrev cX8_groupOf : ByteArray := prog_1_method_18_code
def yX8_groupOf : MethodName := ⟨RX8, "groupOf", "(II)I"⟩
abbrev cX8_group : ByteArray := prog_1_method_19_code
def yX8_group : MethodName := ⟨RX8, "group", "(III)I"⟩
abbrev cX8_member : ByteArray := prog_1_method_20_code
def yX8_member : MethodName := ⟨RX8, "member", "(III)I"⟩
abbrev cX8_splits : ByteArray := prog_1_method_21_code
def yX8_splits : MethodName := ⟨RX8, "splits", "(III)I"⟩
abbrev cX8_look : ByteArray := prog_1_method_40_code
def yX8_look : MethodName := ⟨RX8, "look", "(I)I"⟩
abbrev cX8_isZoom : ByteArray := prog_1_method_41_code
def yX8_isZoom : MethodName := ⟨RX8, "isZoom", "(I)Z"⟩
abbrev cX8_isWeight : ByteArray := prog_1_method_42_code
def yX8_isWeight : MethodName := ⟨RX8, "isWeight", "(I)Z"⟩
abbrev cX8_isPoint : ByteArray := prog_1_method_45_code
def yX8_isPoint : MethodName := ⟨RX8, "isPoint", "(I)Z"⟩
abbrev cX8_cutsGroup : ByteArray := prog_1_method_46_code
def yX8_cutsGroup : MethodName := ⟨RX8, "cutsGroup", "(II)Z"⟩
abbrev cX8_startRepair : ByteArray := prog_1_method_47_code
def yX8_startRepair : MethodName := ⟨RX8, "startRepair", "()V"⟩
abbrev cX8_countSplits : ByteArray := prog_1_method_52_code
def yX8_countSplits : MethodName := ⟨RX8, "countSplits", "(II)I"⟩
abbrev cX8_groupsOfAllZooms : ByteArray := prog_1_method_56_code
def yX8_groupsOfAllZooms : MethodName := ⟨RX8, "groupsOfAllZooms", "()I"⟩
def RX9 : String := "ScaleGroupsModel"
def TX9 : u_T := fun k => match k with
  | _ => ("", "", "", false)
def tyX9 : Nat → FieldType := fun k => match k with
  | _ => .int
abbrev wsX90 : List Cond := u_ws RX9 TX9 0
theorem nmX9 : ∀ a, a < 0 → ∀ b, b < 0 → a ≠ b → (TX9 a).2.1 ≠ (TX9 b).2.1 := by decide +kernel
theorem tyX9_ok : ∀ k, k < 0 → parseFieldDescriptor (TX9 k).2.2.1 = some (tyX9 k) := by decide +kernel
def RJ6 : String := "java/lang/Integer"
def TJ6 : u_T := fun k => match k with
  | _ => ("", "", "", false)
def tyJ6 : Nat → FieldType := fun k => match k with
  | _ => .int
abbrev wsJ60 : List Cond := u_ws RJ6 TJ6 0
theorem nmJ6 : ∀ a, a < 0 → ∀ b, b < 0 → a ≠ b → (TJ6 a).2.1 ≠ (TJ6 b).2.1 := by decide +kernel
theorem tyJ6_ok : ∀ k, k < 0 → parseFieldDescriptor (TJ6 k).2.2.1 = some (tyJ6 k) := by decide +kernel
abbrev cJ6_bitCount_0f7a4 : ByteArray := prog_12_method_49_code
def yJ6_bitCount_0f7a4 : MethodName := ⟨RJ6, "bitCount", "(I)I"⟩
def RJ9 : String := "java/lang/Math"
def TJ9 : u_T := fun k => match k with
  | _ => ("", "", "", false)
def tyJ9 : Nat → FieldType := fun k => match k with
  | _ => .int
abbrev wsJ90 : List Cond := u_ws RJ9 TJ9 0
theorem nmJ9 : ∀ a, a < 0 → ∀ b, b < 0 → a ≠ b → (TJ9 a).2.1 ≠ (TJ9 b).2.1 := by decide +kernel
theorem tyJ9_ok : ∀ k, k < 0 → parseFieldDescriptor (TJ9 k).2.2.1 = some (tyJ9 k) := by decide +kernel
abbrev cJ9_max_7cf53 : ByteArray := prog_13_method_65_code
def yJ9_max_7cf53 : MethodName := ⟨RJ9, "max", "(II)I"⟩
abbrev cJ9_min_7cf53 : ByteArray := prog_13_method_69_code
def yJ9_min_7cf53 : MethodName := ⟨RJ9, "min", "(II)I"⟩
abbrev cJ9_min_f86c9 : ByteArray := prog_13_method_70_code
def yJ9_min_f86c9 : MethodName := ⟨RJ9, "min", "(JJ)J"⟩
def RL : String := "ScaleGroupsLaw"
abbrev cL_cell : ByteArray := method_2_code
def yL_cell : MethodName := ⟨RL, "cell", "([II)I"⟩
abbrev cL_between : ByteArray := method_3_code
def yL_between : MethodName := ⟨RL, "between", "(III)I"⟩
abbrev cL_place : ByteArray := method_4_code
def yL_place : MethodName := ⟨RL, "place", "([IIZ)I"⟩
abbrev cL_many : ByteArray := method_5_code
def yL_many : MethodName := ⟨RL, "many", "([I)I"⟩
abbrev cL_comes : ByteArray := method_6_code
def yL_comes : MethodName := ⟨RL, "comes", "(LScaleGroups;[II)V"⟩
abbrev cL_law : ByteArray := code
def yL_law : MethodName := ⟨RL, "law", "([I)Z"⟩
def wsL_cell : List Cond := .code yL_cell cL_cell 2 (some .int) :: ([.constant RL 7 (1181783497)])
def wsL_between : List Cond := .code yL_between cL_between 3 (some .int) :: ([.constant RL 8 (2147483647)])
def wsL_place : List Cond := .code yL_place cL_place 5 (some .int) :: ([.methodLink RL 9 yL_cell, .static yL_cell, .initialized RL, .code yL_cell cL_cell 2 (some .int), .constant RL 7 (1181783497), .methodLink RL 15 yL_between, .static yL_between, .code yL_between cL_between 3 (some .int), .constant RL 8 (2147483647)])
def wsL_many : List Cond := .code yL_many cL_many 1 (some .int) :: ([.methodLink RL 9 yL_cell, .static yL_cell, .initialized RL, .code yL_cell cL_cell 2 (some .int), .constant RL 7 (1181783497), .methodLink RL 15 yL_between, .static yL_between, .code yL_between cL_between 3 (some .int), .constant RL 8 (2147483647)])
def wsL_comes_r1 : List Cond := [Cond.methodLink RL 19 yL_place, Cond.static yL_place, Cond.initialized RL, Cond.code yL_place cL_place 5 (some .int), Cond.methodLink RL 9 yL_cell, Cond.static yL_cell, Cond.code yL_cell cL_cell 2 (some .int), Cond.constant RL 7 (1181783497), Cond.methodLink RL 15 yL_between, Cond.static yL_between, Cond.code yL_between cL_between 3 (some .int), Cond.constant RL 8 (2147483647), Cond.methodLink RL 23 yX8_add, Cond.instanceMethod yX8_add, Cond.selects RX8 yX8_add yX8_add, Cond.initialized RX8, Cond.code yX8_add cX8_add 4 (some .int), Cond.fieldLink RX8 12 "ScaleGroups" "now" "LScaleGroups$Order;", Cond.fieldLink RX8 75 "ScaleGroups$Order" "points" "LScaleGroups$Points;", Cond.fieldLink RX8 16 "ScaleGroups" "ahead" "LScaleGroups$Order;", Cond.methodLink RX8 71 yX8_isWeight, Cond.static yX8_isWeight, Cond.code yX8_isWeight cX8_isWeight 1 (some .boolean), Cond.methodLink RX8 79 yX4_canCome]
def wsL_comes_r2 : List Cond := [Cond.instanceMethod yX4_canCome, Cond.selects RX4 yX4_canCome yX4_canCome, Cond.initialized RX4, Cond.code yX4_canCome cX4_canCome 3 (some .boolean), Cond.fieldLink RX4 9 "ScaleGroups$Points" "count" "I", Cond.methodLink RX4 25 yX4_find, Cond.instanceMethod yX4_find, Cond.selects RX4 yX4_find yX4_find, Cond.code yX4_find cX4_find 4 (some .int), Cond.fieldLink RX4 15 "ScaleGroups$Points" "xs" "[I", Cond.fieldLink RX4 19 "ScaleGroups$Points" "ys" "[I", Cond.methodLink RX8 85 yX8_startRepair, Cond.instanceMethod yX8_startRepair, Cond.selects RX8 yX8_startRepair yX8_startRepair, Cond.code yX8_startRepair cX8_startRepair 2 none, Cond.methodLink RX8 335 yX4_copy, Cond.instanceMethod yX4_copy, Cond.selects RX4 yX4_copy yX4_copy, Cond.code yX4_copy cX4_copy 3 none, Cond.fieldLink RX4 22 "ScaleGroups$Points" "ws" "[I", Cond.methodLink RX8 88 yX4_put, Cond.instanceMethod yX4_put, Cond.selects RX4 yX4_put yX4_put, Cond.code yX4_put cX4_put 5 none]
def wsL_comes_r3 : List Cond := [Cond.methodLink RX4 29 yX4_move, Cond.instanceMethod yX4_move, Cond.selects RX4 yX4_move yX4_move, Cond.code yX4_move cX4_move 3 none, Cond.methodLink RX8 92 yX2_rebuild, Cond.instanceMethod yX2_rebuild, Cond.selects RX2 yX2_rebuild yX2_rebuild, Cond.initialized RX2, Cond.code yX2_rebuild cX2_rebuild 2 none, Cond.fieldLink RX2 12 "ScaleGroups$Order" "points" "LScaleGroups$Points;", Cond.fieldLink RX2 66 "ScaleGroups$Points" "count" "I", Cond.fieldLink RX2 60 "ScaleGroups$Order" "nodes" "[I", Cond.fieldLink RX2 51 "ScaleGroups$Order" "pointsAbove" "[I", Cond.fieldLink RX2 18 "ScaleGroups$Order" "count" "I", Cond.methodLink RX2 63 yX2_growTree, Cond.instanceMethod yX2_growTree, Cond.selects RX2 yX2_growTree yX2_growTree, Cond.code yX2_growTree cX2_growTree 5 none, Cond.fieldLink RX2 57 "ScaleGroups$Order" "links" "[J", Cond.methodLink RX2 89 Lib.MathLoose.min_long.x, Cond.static Lib.MathLoose.min_long.x, Cond.initialized "java/lang/Math", Cond.code Lib.MathLoose.min_long.x Lib.MathLoose.min_long.code 4 (some .long), Cond.methodLink RX2 71 yX2_keyOf]
def wsL_comes_r4 : List Cond := [Cond.instanceMethod yX2_keyOf, Cond.selects RX2 yX2_keyOf yX2_keyOf, Cond.code yX2_keyOf cX2_keyOf 3 (some .long), Cond.methodLink RX2 99 Lib.Math.min.name, Cond.static Lib.Math.min.name, Cond.code Lib.Math.min.name Lib.Math.min.code 2 (some .int), Cond.methodLink RX2 101 Lib.Math.max.name, Cond.static Lib.Math.max.name, Cond.code Lib.Math.max.name Lib.Math.max.code 2 (some .int), Cond.methodLink RX2 95 yX4_apart, Cond.instanceMethod yX4_apart, Cond.selects RX4 yX4_apart yX4_apart, Cond.code yX4_apart cX4_apart 3 (some .int), Cond.methodLink RX4 33 yX4_squares, Cond.instanceMethod yX4_squares, Cond.selects RX4 yX4_squares yX4_squares, Cond.code yX4_squares cX4_squares 6 (some .int), Cond.methodLink RX2 75 yX2_nextToGrow, Cond.instanceMethod yX2_nextToGrow, Cond.selects RX2 yX2_nextToGrow yX2_nextToGrow, Cond.code yX2_nextToGrow cX2_nextToGrow 4 (some .int), Cond.methodLink RX2 83 yX6_has, Cond.static yX6_has, Cond.initialized RX6]
def wsL_comes_r5 : List Cond := [Cond.code yX6_has cX6_has 2 (some .boolean), Cond.methodLink RX2 79 yX2_putKey, Cond.instanceMethod yX2_putKey, Cond.selects RX2 yX2_putKey yX2_putKey, Cond.code yX2_putKey cX2_putKey 4 none, Cond.fieldLink RX2 22 "ScaleGroups$Order" "keys" "[J", Cond.methodLink RX2 67 yX2_makeJoin, Cond.instanceMethod yX2_makeJoin, Cond.selects RX2 yX2_makeJoin yX2_makeJoin, Cond.code yX2_makeJoin cX2_makeJoin 5 none, Cond.constantLong RX2 104 (31), Cond.fieldLink RX2 26 "ScaleGroups$Order" "aparts" "[I", Cond.fieldLink RX2 30 "ScaleGroups$Order" "roots" "[I", Cond.fieldLink RX2 33 "ScaleGroups$Order" "firsts" "[I", Cond.fieldLink RX2 36 "ScaleGroups$Order" "seconds" "[I", Cond.fieldLink RX2 54 "ScaleGroups$Order" "pairs" "[J", Cond.fieldLink RX2 42 "ScaleGroups$Order" "firstSides" "[I", Cond.fieldLink RX2 45 "ScaleGroups$Order" "otherSides" "[I", Cond.fieldLink RX2 39 "ScaleGroups$Order" "parts" "[I", Cond.fieldLink RX2 48 "ScaleGroups$Order" "joinsAbove" "[I", Cond.methodLink RX2 106 yX6_root, Cond.static yX6_root, Cond.code yX6_root cX6_root 4 (some .int), Cond.methodLink RX2 109 yX2_placeOf]
def wsL_comes_r6 : List Cond := [Cond.instanceMethod yX2_placeOf, Cond.selects RX2 yX2_placeOf yX2_placeOf, Cond.code yX2_placeOf cX2_placeOf 2 (some .long), Cond.fieldLink RX2 120 "ScaleGroups$Points" "xs" "[I", Cond.fieldLink RX2 123 "ScaleGroups$Points" "ys" "[I", Cond.methodLink RX2 113 yX2_setOf, Cond.instanceMethod yX2_setOf, Cond.selects RX2 yX2_setOf yX2_setOf, Cond.code yX2_setOf cX2_setOf 3 (some .int), Cond.methodLink RX2 126 yX2_joinOf, Cond.static yX2_joinOf, Cond.code yX2_joinOf cX2_joinOf 1 (some .int), Cond.methodLink RX2 116 yX2_putBelow, Cond.instanceMethod yX2_putBelow, Cond.selects RX2 yX2_putBelow yX2_putBelow, Cond.code yX2_putBelow cX2_putBelow 4 none, Cond.methodLink RX8 95 yX2_countUnlike, Cond.instanceMethod yX2_countUnlike, Cond.selects RX2 yX2_countUnlike yX2_countUnlike, Cond.code yX2_countUnlike cX2_countUnlike 4 (some .int), Cond.methodLink RX2 138 yX2_hasPair, Cond.instanceMethod yX2_hasPair, Cond.selects RX2 yX2_hasPair yX2_hasPair, Cond.code yX2_hasPair cX2_hasPair 4 (some .boolean)]
def wsL_comes : List Cond := .code yL_comes cL_comes 3 none :: ((wsL_comes_r1 ++ (wsL_comes_r2 ++ (wsL_comes_r3 ++ (wsL_comes_r4 ++ (wsL_comes_r5 ++ wsL_comes_r6))))) ++ wsX80 ++ wsX20 ++ wsX40)
def wsL_law_r1 : List Cond := [Cond.classLink RL 24 RX8, Cond.instantiable RX8 12, Cond.initialized RX8, Cond.methodLink RL 28 yX8_init, Cond.instanceMethod yX8_init, Cond.code yX8_init cX8_init 1 none, Cond.methodLink RX8 3 objectInit, Cond.instanceMethod objectInit, Cond.code objectInit ⟨#[0xb1]⟩ 1 none, Cond.classLink RX8 9 RX2, Cond.instantiable RX2 15, Cond.initialized RX2, Cond.fieldLink RX8 12 "ScaleGroups" "now" "LScaleGroups$Order;", Cond.fieldLink RX8 16 "ScaleGroups" "ahead" "LScaleGroups$Order;", Cond.fieldLink RX8 19 "ScaleGroups" "tried" "LScaleGroups$Order;", Cond.classLink RX8 22 RX5, Cond.instantiable RX5 6, Cond.initialized RX5, Cond.fieldLink RX8 25 "ScaleGroups" "scale" "LScaleGroups$Scale;", Cond.fieldLink RX8 29 "ScaleGroups" "other" "LScaleGroups$Scale;", Cond.classLink RX8 32 RX0, Cond.instantiable RX0 3, Cond.initialized RX0, Cond.fieldLink RX8 35 "ScaleGroups" "labels" "LScaleGroups$Labels;"]
def wsL_law_r2 : List Cond := [Cond.classLink RX8 39 RX3, Cond.instantiable RX3 2, Cond.initialized RX3, Cond.fieldLink RX8 42 "ScaleGroups" "corners" "LScaleGroups$Outline;", Cond.classLink RX8 46 RX7, Cond.instantiable RX7 1, Cond.initialized RX7, Cond.fieldLink RX8 49 "ScaleGroups" "ways" "LScaleGroups$Ways;", Cond.classLink RX8 53 RX1, Cond.instantiable RX1 6, Cond.initialized RX1, Cond.fieldLink RX8 56 "ScaleGroups" "lasting" "LScaleGroups$Lasting;", Cond.arrayClass .int, Cond.fieldLink RX8 60 "ScaleGroups" "row" "[I", Cond.fieldLink RX8 64 "ScaleGroups" "labelSize" "I", Cond.fieldLink RX8 68 "ScaleGroups" "drawState" "I", Cond.methodLink RX8 11 yX2_init, Cond.instanceMethod yX2_init, Cond.code yX2_init cX2_init 1 none, Cond.methodLink RX2 3 objectInit, Cond.classLink RX2 9 RX4, Cond.instantiable RX4 4, Cond.initialized RX4, Cond.fieldLink RX2 12 "ScaleGroups$Order" "points" "LScaleGroups$Points;"]
def wsL_law_r3 : List Cond := [Cond.fieldLink RX2 18 "ScaleGroups$Order" "count" "I", Cond.arrayClass .long, Cond.fieldLink RX2 22 "ScaleGroups$Order" "keys" "[J", Cond.fieldLink RX2 26 "ScaleGroups$Order" "aparts" "[I", Cond.fieldLink RX2 30 "ScaleGroups$Order" "roots" "[I", Cond.fieldLink RX2 33 "ScaleGroups$Order" "firsts" "[I", Cond.fieldLink RX2 36 "ScaleGroups$Order" "seconds" "[I", Cond.fieldLink RX2 39 "ScaleGroups$Order" "parts" "[I", Cond.fieldLink RX2 42 "ScaleGroups$Order" "firstSides" "[I", Cond.fieldLink RX2 45 "ScaleGroups$Order" "otherSides" "[I", Cond.fieldLink RX2 48 "ScaleGroups$Order" "joinsAbove" "[I", Cond.fieldLink RX2 51 "ScaleGroups$Order" "pointsAbove" "[I", Cond.fieldLink RX2 54 "ScaleGroups$Order" "pairs" "[J", Cond.fieldLink RX2 57 "ScaleGroups$Order" "links" "[J", Cond.fieldLink RX2 60 "ScaleGroups$Order" "nodes" "[I", Cond.methodLink RX2 11 yX4_init, Cond.instanceMethod yX4_init, Cond.code yX4_init cX4_init 1 none, Cond.methodLink RX4 3 objectInit, Cond.fieldLink RX4 9 "ScaleGroups$Points" "count" "I", Cond.fieldLink RX4 15 "ScaleGroups$Points" "xs" "[I", Cond.fieldLink RX4 19 "ScaleGroups$Points" "ys" "[I", Cond.fieldLink RX4 22 "ScaleGroups$Points" "ws" "[I", Cond.methodLink RX8 24 yX5_init]
def wsL_law_r4 : List Cond := [Cond.instanceMethod yX5_init, Cond.code yX5_init cX5_init 1 none, Cond.methodLink RX5 3 objectInit, Cond.fieldLink RX5 9 "ScaleGroups$Scale" "count" "I", Cond.fieldLink RX5 15 "ScaleGroups$Scale" "sets" "[I", Cond.fieldLink RX5 19 "ScaleGroups$Scale" "weights" "[I", Cond.fieldLink RX5 22 "ScaleGroups$Scale" "xs" "[I", Cond.fieldLink RX5 25 "ScaleGroups$Scale" "ys" "[I", Cond.fieldLink RX5 28 "ScaleGroups$Scale" "groupAt" "[I", Cond.methodLink RX8 34 yX0_init, Cond.instanceMethod yX0_init, Cond.code yX0_init cX0_init 1 none, Cond.methodLink RX0 3 objectInit, Cond.fieldLink RX0 9 "ScaleGroups$Labels" "count" "I", Cond.fieldLink RX0 15 "ScaleGroups$Labels" "visible" "[I", Cond.fieldLink RX0 19 "ScaleGroups$Labels" "holders" "[I", Cond.methodLink RX8 41 yX3_init, Cond.instanceMethod yX3_init, Cond.code yX3_init cX3_init 1 none, Cond.methodLink RX3 3 objectInit, Cond.fieldLink RX3 9 "ScaleGroups$Outline" "count" "I", Cond.fieldLink RX3 15 "ScaleGroups$Outline" "row" "[I", Cond.methodLink RX8 48 yX7_init, Cond.instanceMethod yX7_init]
def wsL_law_r5 : List Cond := [Cond.code yX7_init cX7_init 1 none, Cond.methodLink RX7 3 objectInit, Cond.classLink RX7 9 "[[I", Cond.fieldLink RX7 11 "ScaleGroups$Ways" "far" "[[I", Cond.methodLink RX8 55 yX1_init, Cond.instanceMethod yX1_init, Cond.code yX1_init cX1_init 1 none, Cond.methodLink RX1 3 objectInit, Cond.fieldLink RX1 9 "ScaleGroups$Lasting" "total" "I", Cond.fieldLink RX1 15 "ScaleGroups$Lasting" "count" "I", Cond.fieldLink RX1 18 "ScaleGroups$Lasting" "totals" "[I", Cond.arrayClass .boolean, Cond.fieldLink RX1 22 "ScaleGroups$Lasting" "whole" "[Z", Cond.fieldLink RX1 26 "ScaleGroups$Lasting" "open" "[Z", Cond.fieldLink RX1 29 "ScaleGroups$Lasting" "nodesByLeast" "[I", Cond.methodLink RL 29 yL_many, Cond.static yL_many, Cond.initialized RL, Cond.code yL_many cL_many 1 (some .int), Cond.methodLink RL 9 yL_cell, Cond.static yL_cell, Cond.code yL_cell cL_cell 2 (some .int), Cond.constant RL 7 (1181783497), Cond.methodLink RL 15 yL_between]
def wsL_law_r6 : List Cond := [Cond.static yL_between, Cond.code yL_between cL_between 3 (some .int), Cond.constant RL 8 (2147483647), Cond.methodLink RL 33 yL_comes, Cond.static yL_comes, Cond.code yL_comes cL_comes 3 none, Cond.methodLink RL 19 yL_place, Cond.static yL_place, Cond.code yL_place cL_place 5 (some .int), Cond.methodLink RL 23 yX8_add, Cond.instanceMethod yX8_add, Cond.selects RX8 yX8_add yX8_add, Cond.code yX8_add cX8_add 4 (some .int), Cond.fieldLink RX8 75 "ScaleGroups$Order" "points" "LScaleGroups$Points;", Cond.methodLink RX8 71 yX8_isWeight, Cond.static yX8_isWeight, Cond.code yX8_isWeight cX8_isWeight 1 (some .boolean), Cond.methodLink RX8 79 yX4_canCome, Cond.instanceMethod yX4_canCome, Cond.selects RX4 yX4_canCome yX4_canCome, Cond.code yX4_canCome cX4_canCome 3 (some .boolean), Cond.methodLink RX4 25 yX4_find, Cond.instanceMethod yX4_find, Cond.selects RX4 yX4_find yX4_find]
def wsL_law_r7 : List Cond := [Cond.code yX4_find cX4_find 4 (some .int), Cond.methodLink RX8 85 yX8_startRepair, Cond.instanceMethod yX8_startRepair, Cond.selects RX8 yX8_startRepair yX8_startRepair, Cond.code yX8_startRepair cX8_startRepair 2 none, Cond.methodLink RX8 335 yX4_copy, Cond.instanceMethod yX4_copy, Cond.selects RX4 yX4_copy yX4_copy, Cond.code yX4_copy cX4_copy 3 none, Cond.methodLink RX8 88 yX4_put, Cond.instanceMethod yX4_put, Cond.selects RX4 yX4_put yX4_put, Cond.code yX4_put cX4_put 5 none, Cond.methodLink RX4 29 yX4_move, Cond.instanceMethod yX4_move, Cond.selects RX4 yX4_move yX4_move, Cond.code yX4_move cX4_move 3 none, Cond.methodLink RX8 92 yX2_rebuild, Cond.instanceMethod yX2_rebuild, Cond.selects RX2 yX2_rebuild yX2_rebuild, Cond.code yX2_rebuild cX2_rebuild 2 none, Cond.fieldLink RX2 66 "ScaleGroups$Points" "count" "I", Cond.methodLink RX2 63 yX2_growTree, Cond.instanceMethod yX2_growTree]
def wsL_law_r8 : List Cond := [Cond.selects RX2 yX2_growTree yX2_growTree, Cond.code yX2_growTree cX2_growTree 5 none, Cond.methodLink RX2 89 Lib.MathLoose.min_long.x, Cond.static Lib.MathLoose.min_long.x, Cond.initialized "java/lang/Math", Cond.code Lib.MathLoose.min_long.x Lib.MathLoose.min_long.code 4 (some .long), Cond.methodLink RX2 71 yX2_keyOf, Cond.instanceMethod yX2_keyOf, Cond.selects RX2 yX2_keyOf yX2_keyOf, Cond.code yX2_keyOf cX2_keyOf 3 (some .long), Cond.methodLink RX2 99 Lib.Math.min.name, Cond.static Lib.Math.min.name, Cond.code Lib.Math.min.name Lib.Math.min.code 2 (some .int), Cond.methodLink RX2 101 Lib.Math.max.name, Cond.static Lib.Math.max.name, Cond.code Lib.Math.max.name Lib.Math.max.code 2 (some .int), Cond.methodLink RX2 95 yX4_apart, Cond.instanceMethod yX4_apart, Cond.selects RX4 yX4_apart yX4_apart, Cond.code yX4_apart cX4_apart 3 (some .int), Cond.methodLink RX4 33 yX4_squares, Cond.instanceMethod yX4_squares, Cond.selects RX4 yX4_squares yX4_squares, Cond.code yX4_squares cX4_squares 6 (some .int)]
def wsL_law_r9 : List Cond := [Cond.methodLink RX2 75 yX2_nextToGrow, Cond.instanceMethod yX2_nextToGrow, Cond.selects RX2 yX2_nextToGrow yX2_nextToGrow, Cond.code yX2_nextToGrow cX2_nextToGrow 4 (some .int), Cond.methodLink RX2 83 yX6_has, Cond.static yX6_has, Cond.initialized RX6, Cond.code yX6_has cX6_has 2 (some .boolean), Cond.methodLink RX2 79 yX2_putKey, Cond.instanceMethod yX2_putKey, Cond.selects RX2 yX2_putKey yX2_putKey, Cond.code yX2_putKey cX2_putKey 4 none, Cond.methodLink RX2 67 yX2_makeJoin, Cond.instanceMethod yX2_makeJoin, Cond.selects RX2 yX2_makeJoin yX2_makeJoin, Cond.code yX2_makeJoin cX2_makeJoin 5 none, Cond.constantLong RX2 104 (31), Cond.methodLink RX2 106 yX6_root, Cond.static yX6_root, Cond.code yX6_root cX6_root 4 (some .int), Cond.methodLink RX2 109 yX2_placeOf, Cond.instanceMethod yX2_placeOf, Cond.selects RX2 yX2_placeOf yX2_placeOf, Cond.code yX2_placeOf cX2_placeOf 2 (some .long)]
def wsL_law_r10 : List Cond := [Cond.fieldLink RX2 120 "ScaleGroups$Points" "xs" "[I", Cond.fieldLink RX2 123 "ScaleGroups$Points" "ys" "[I", Cond.methodLink RX2 113 yX2_setOf, Cond.instanceMethod yX2_setOf, Cond.selects RX2 yX2_setOf yX2_setOf, Cond.code yX2_setOf cX2_setOf 3 (some .int), Cond.methodLink RX2 126 yX2_joinOf, Cond.static yX2_joinOf, Cond.code yX2_joinOf cX2_joinOf 1 (some .int), Cond.methodLink RX2 116 yX2_putBelow, Cond.instanceMethod yX2_putBelow, Cond.selects RX2 yX2_putBelow yX2_putBelow, Cond.code yX2_putBelow cX2_putBelow 4 none, Cond.methodLink RX8 95 yX2_countUnlike, Cond.instanceMethod yX2_countUnlike, Cond.selects RX2 yX2_countUnlike yX2_countUnlike, Cond.code yX2_countUnlike cX2_countUnlike 4 (some .int), Cond.methodLink RX2 138 yX2_hasPair, Cond.instanceMethod yX2_hasPair, Cond.selects RX2 yX2_hasPair yX2_hasPair, Cond.code yX2_hasPair cX2_hasPair 4 (some .boolean), Cond.methodLink RL 37 yX8_look, Cond.instanceMethod yX8_look, Cond.selects RX8 yX8_look yX8_look]
def wsL_law_r11 : List Cond := [Cond.code yX8_look cX8_look 3 (some .int), Cond.fieldLink RX8 113 "ScaleGroups$Points" "count" "I", Cond.methodLink RX8 339 yX6_first, Cond.static yX6_first, Cond.code yX6_first cX6_first 1 (some .int), Cond.methodLink RX8 163 yX4_weightOf, Cond.instanceMethod yX4_weightOf, Cond.selects RX4 yX4_weightOf yX4_weightOf, Cond.code yX4_weightOf cX4_weightOf 4 (some .int), Cond.methodLink RX4 44 yX6_has, Cond.methodLink RX8 327 yX2_sumAparts, Cond.instanceMethod yX2_sumAparts, Cond.selects RX2 yX2_sumAparts yX2_sumAparts, Cond.code yX2_sumAparts cX2_sumAparts 3 (some .int), Cond.methodLink RX8 342 yX2_sumRoots, Cond.instanceMethod yX2_sumRoots, Cond.selects RX2 yX2_sumRoots yX2_sumRoots, Cond.code yX2_sumRoots cX2_sumRoots 3 (some .int), Cond.methodLink RX8 245 yX4_wide, Cond.instanceMethod yX4_wide, Cond.selects RX4 yX4_wide yX4_wide, Cond.code yX4_wide cX4_wide 5 (some .int), Cond.methodLink RX4 50 Lib.Math.max.name, Cond.methodLink RX4 37 yX4_apart]
def wsL_law_r12 : List Cond := [Cond.methodLink RX8 345 yX2_mostLinks, Cond.instanceMethod yX2_mostLinks, Cond.selects RX2 yX2_mostLinks yX2_mostLinks, Cond.code yX2_mostLinks cX2_mostLinks 3 (some .int), Cond.methodLink RX2 135 yX2_linksOf, Cond.instanceMethod yX2_linksOf, Cond.selects RX2 yX2_linksOf yX2_linksOf, Cond.code yX2_linksOf cX2_linksOf 4 (some .int), Cond.methodLink RX8 348 yX8_groupsOfAllZooms, Cond.instanceMethod yX8_groupsOfAllZooms, Cond.selects RX8 yX8_groupsOfAllZooms yX8_groupsOfAllZooms, Cond.code yX8_groupsOfAllZooms cX8_groupsOfAllZooms 3 (some .int), Cond.methodLink RX8 357 yX8_groups, Cond.instanceMethod yX8_groups, Cond.selects RX8 yX8_groups yX8_groups, Cond.code yX8_groups cX8_groups 2 (some .int), Cond.methodLink RX8 203 yX8_isZoom, Cond.static yX8_isZoom, Cond.code yX8_isZoom cX8_isZoom 1 (some .boolean), Cond.methodLink RX8 200 yX2_joinsWithin, Cond.instanceMethod yX2_joinsWithin, Cond.selects RX2 yX2_joinsWithin yX2_joinsWithin, Cond.code yX2_joinsWithin cX2_joinsWithin 4 (some .int), Cond.methodLink RL 41 yX8_point]
def wsL_law_r13 : List Cond := [Cond.instanceMethod yX8_point, Cond.selects RX8 yX8_point yX8_point, Cond.code yX8_point cX8_point 4 (some .int), Cond.fieldLink RX8 116 "ScaleGroups$Points" "xs" "[I", Cond.fieldLink RX8 119 "ScaleGroups$Points" "ys" "[I", Cond.fieldLink RX8 106 "ScaleGroups$Points" "ws" "[I", Cond.methodLink RX8 99 yX8_isPoint, Cond.instanceMethod yX8_isPoint, Cond.selects RX8 yX8_isPoint yX8_isPoint, Cond.code yX8_isPoint cX8_isPoint 2 (some .boolean), Cond.methodLink RX8 122 yX4_nearestTo, Cond.instanceMethod yX4_nearestTo, Cond.selects RX4 yX4_nearestTo yX4_nearestTo, Cond.code yX4_nearestTo cX4_nearestTo 5 (some .int), Cond.methodLink RX8 125 yX4_apartFromNearest, Cond.instanceMethod yX4_apartFromNearest, Cond.selects RX4 yX4_apartFromNearest yX4_apartFromNearest, Cond.code yX4_apartFromNearest cX4_apartFromNearest 3 (some .int), Cond.methodLink RX4 40 yX4_nearestTo, Cond.methodLink RX8 128 yX2_linksOf, Cond.methodLink RL 45 yX8_at, Cond.instanceMethod yX8_at, Cond.selects RX8 yX8_at yX8_at, Cond.code yX8_at cX8_at 3 (some .int)]
def wsL_law_r14 : List Cond := [Cond.methodLink RX8 131 yX4_find, Cond.methodLink RL 48 yX8_take, Cond.instanceMethod yX8_take, Cond.selects RX8 yX8_take yX8_take, Cond.code yX8_take cX8_take 2 (some .int), Cond.methodLink RX8 102 yX4_drop, Cond.instanceMethod yX4_drop, Cond.selects RX4 yX4_drop yX4_drop, Cond.code yX4_drop cX4_drop 3 none, Cond.methodLink RL 51 yX8_join, Cond.instanceMethod yX8_join, Cond.selects RX8 yX8_join yX8_join, Cond.code yX8_join cX8_join 3 (some .int), Cond.fieldLink RX8 145 "ScaleGroups$Order" "count" "I", Cond.fieldLink RX8 146 "ScaleGroups$Order" "aparts" "[I", Cond.fieldLink RX8 149 "ScaleGroups$Order" "firsts" "[I", Cond.fieldLink RX8 152 "ScaleGroups$Order" "seconds" "[I", Cond.fieldLink RX8 155 "ScaleGroups$Order" "parts" "[I", Cond.fieldLink RX8 166 "ScaleGroups$Order" "firstSides" "[I", Cond.fieldLink RX8 169 "ScaleGroups$Order" "otherSides" "[I", Cond.fieldLink RX8 172 "ScaleGroups$Order" "joinsAbove" "[I", Cond.fieldLink RX8 178 "ScaleGroups$Order" "pairs" "[J", Cond.methodLink RX8 158 yJ6_bitCount_0f7a4, Cond.static yJ6_bitCount_0f7a4]
def wsL_law_r15 : List Cond := [Cond.initialized RJ6, Cond.code yJ6_bitCount_0f7a4 cJ6_bitCount_0f7a4 1 (some .int), Cond.constant RJ6 265 (1431655765), Cond.constant RJ6 266 (858993459), Cond.constant RJ6 267 (252645135), Cond.methodLink RX8 175 yX2_lastsOf, Cond.instanceMethod yX2_lastsOf, Cond.selects RX2 yX2_lastsOf yX2_lastsOf, Cond.code yX2_lastsOf cX2_lastsOf 5 (some .int), Cond.methodLink RX2 129 yX2_joinAbove, Cond.instanceMethod yX2_joinAbove, Cond.selects RX2 yX2_joinAbove yX2_joinAbove, Cond.code yX2_joinAbove cX2_joinAbove 3 (some .int), Cond.methodLink RX2 132 yX4_weightOf, Cond.methodLink RX8 182 yX2_hasPair, Cond.methodLink RL 54 yX8_groups, Cond.methodLink RL 57 yX8_group, Cond.instanceMethod yX8_group, Cond.selects RX8 yX8_group yX8_group, Cond.code yX8_group cX8_group 6 (some .int), Cond.fieldLink RX8 216 "ScaleGroups$Scale" "sets" "[I", Cond.fieldLink RX8 224 "ScaleGroups$Scale" "weights" "[I", Cond.fieldLink RX8 234 "ScaleGroups$Scale" "xs" "[I", Cond.fieldLink RX8 235 "ScaleGroups$Scale" "ys" "[I"]
def wsL_law_r16 : List Cond := [Cond.methodLink RX8 213 yX8_cutsGroup, Cond.instanceMethod yX8_cutsGroup, Cond.selects RX8 yX8_cutsGroup yX8_cutsGroup, Cond.code yX8_cutsGroup cX8_cutsGroup 3 (some .boolean), Cond.fieldLink RX8 283 "ScaleGroups$Scale" "count" "I", Cond.methodLink RX8 206 yX5_cut, Cond.instanceMethod yX5_cut, Cond.selects RX5 yX5_cut yX5_cut, Cond.code yX5_cut cX5_cut 6 none, Cond.fieldLink RX5 37 "ScaleGroups$Order" "points" "LScaleGroups$Points;", Cond.fieldLink RX5 41 "ScaleGroups$Points" "count" "I", Cond.methodLink RX5 31 yX2_joinsWithin, Cond.methodLink RX5 44 yX6_has, Cond.methodLink RX5 50 yX2_partOf, Cond.instanceMethod yX2_partOf, Cond.selects RX2 yX2_partOf yX2_partOf, Cond.code yX2_partOf cX2_partOf 4 (some .int), Cond.methodLink RX5 54 yX5_gather, Cond.instanceMethod yX5_gather, Cond.selects RX5 yX5_gather yX5_gather, Cond.code yX5_gather cX5_gather 7 none, Cond.fieldLink RX5 58 "ScaleGroups$Points" "ws" "[I", Cond.fieldLink RX5 61 "ScaleGroups$Points" "xs" "[I", Cond.fieldLink RX5 62 "ScaleGroups$Points" "ys" "[I"]
def wsL_law_r17 : List Cond := [Cond.methodLink RX8 219 yX6_least, Cond.static yX6_least, Cond.code yX6_least cX6_least 1 (some .int), Cond.methodLink RX6 9 yX6_nth, Cond.static yX6_nth, Cond.code yX6_nth cX6_nth 4 (some .int), Cond.methodLink RX6 15 yX6_has, Cond.methodLink RX8 227 yX6_lowest, Cond.static yX6_lowest, Cond.code yX6_lowest cX6_lowest 4 (some .int), Cond.methodLink RX6 19 Lib.Math.min.name, Cond.methodLink RX8 231 yX6_highest, Cond.static yX6_highest, Cond.code yX6_highest cX6_highest 4 (some .int), Cond.methodLink RX6 24 Lib.Math.max.name, Cond.methodLink RX8 236 yX4_heaviestOf, Cond.instanceMethod yX4_heaviestOf, Cond.selects RX4 yX4_heaviestOf yX4_heaviestOf, Cond.code yX4_heaviestOf cX4_heaviestOf 5 (some .int), Cond.methodLink RX8 239 yX2_makerOf, Cond.instanceMethod yX2_makerOf, Cond.selects RX2 yX2_makerOf yX2_makerOf, Cond.code yX2_makerOf cX2_makerOf 3 (some .int), Cond.methodLink RX8 242 yX8_countSplits]
def wsL_law_r18 : List Cond := [Cond.instanceMethod yX8_countSplits, Cond.selects RX8 yX8_countSplits yX8_countSplits, Cond.code yX8_countSplits cX8_countSplits 3 (some .int), Cond.methodLink RX8 251 yX5_groupsWithin, Cond.instanceMethod yX5_groupsWithin, Cond.selects RX5 yX5_groupsWithin yX5_groupsWithin, Cond.code yX5_groupsWithin cX5_groupsWithin 4 (some .int), Cond.methodLink RL 60 yX8_splits, Cond.instanceMethod yX8_splits, Cond.selects RX8 yX8_splits yX8_splits, Cond.code yX8_splits cX8_splits 4 (some .int), Cond.methodLink RX8 248 yX6_nth, Cond.methodLink RL 63 yX8_member, Cond.instanceMethod yX8_member, Cond.selects RX8 yX8_member yX8_member, Cond.code yX8_member cX8_member 4 (some .int), Cond.methodLink RL 66 yX8_groupOf, Cond.instanceMethod yX8_groupOf, Cond.selects RX8 yX8_groupOf yX8_groupOf, Cond.code yX8_groupOf cX8_groupOf 3 (some .int), Cond.fieldLink RX8 210 "ScaleGroups$Scale" "groupAt" "[I"]
def wsL_law : List Cond := (wsL_law_r1 ++ (wsL_law_r2 ++ (wsL_law_r3 ++ (wsL_law_r4 ++ (wsL_law_r5 ++ (wsL_law_r6 ++ (wsL_law_r7 ++ (wsL_law_r8 ++ (wsL_law_r9 ++ (wsL_law_r10 ++ (wsL_law_r11 ++ (wsL_law_r12 ++ (wsL_law_r13 ++ (wsL_law_r14 ++ (wsL_law_r15 ++ (wsL_law_r16 ++ (wsL_law_r17 ++ wsL_law_r18))))))))))))))))) ++ wsX80 ++ wsX20 ++ wsX50 ++ wsX00 ++ wsX30 ++ wsX70 ++ wsX10 ++ wsX40 ++ ([] : List Cond)
theorem inlX0 : ∀ w ∈ wsX00, w ∈ wsL_law := fun _ h => List.mem_append_left _ (List.mem_append_left _ (List.mem_append_left _ (List.mem_append_left _ (List.mem_append_left _ (List.mem_append_right _ h)))))
theorem inlX1 : ∀ w ∈ wsX10, w ∈ wsL_law := fun _ h => List.mem_append_left _ (List.mem_append_left _ (List.mem_append_right _ h))
theorem inlX2 : ∀ w ∈ wsX20, w ∈ wsL_law := fun _ h => List.mem_append_left _ (List.mem_append_left _ (List.mem_append_left _ (List.mem_append_left _ (List.mem_append_left _ (List.mem_append_left _ (List.mem_append_left _ (List.mem_append_right _ h)))))))
theorem inlX3 : ∀ w ∈ wsX30, w ∈ wsL_law := fun _ h => List.mem_append_left _ (List.mem_append_left _ (List.mem_append_left _ (List.mem_append_left _ (List.mem_append_right _ h))))
theorem inlX4 : ∀ w ∈ wsX40, w ∈ wsL_law := fun _ h => List.mem_append_left _ (List.mem_append_right _ h)
theorem inlX5 : ∀ w ∈ wsX50, w ∈ wsL_law := fun _ h => List.mem_append_left _ (List.mem_append_left _ (List.mem_append_left _ (List.mem_append_left _ (List.mem_append_left _ (List.mem_append_left _ (List.mem_append_right _ h))))))
theorem inlX7 : ∀ w ∈ wsX70, w ∈ wsL_law := fun _ h => List.mem_append_left _ (List.mem_append_left _ (List.mem_append_left _ (List.mem_append_right _ h)))
theorem inlX8 : ∀ w ∈ wsX80, w ∈ wsL_law := fun _ h => List.mem_append_left _ (List.mem_append_left _ (List.mem_append_left _ (List.mem_append_left _ (List.mem_append_left _ (List.mem_append_left _ (List.mem_append_left _ (List.mem_append_left _ (List.mem_append_right _ h))))))))
abbrev vwCl : List vw_C := [(RX0, TX0, 3), (RX1, TX1, 6), (RX2, TX2, 15), (RX3, TX3, 2), (RX4, TX4, 4), (RX5, TX5, 6), (RX7, TX7, 1), (RX8, TX8, 12)]
/-! ===== END printed: names ===== -/
