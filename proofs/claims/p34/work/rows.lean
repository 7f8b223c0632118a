section
-- ===== PART A: goes FIRST, ahead of the names: the tables' words, and 'selects' of the private methods out of them =====
/-- a private method of a class that the tables say can be made, by its rows of tables_1 -/
def lw_okq (q : MethodName × Nat) : Prop := (q.1.cls ≠ "java/lang/invoke/MethodHandle" ∧ q.1.cls ≠ "java/lang/invoke/VarHandle") ∧ Cond.instantiable q.1.cls q.2 ∈ tables_1 ∧ Cond.privateMethod q.1 ∈ tables_1 ∧ Cond.instanceMethod q.1 ∈ tables_1
theorem lw_p0 : lw_okq (⟨"SeparationDesk", "remember", "()V"⟩, 8) := ⟨⟨by decide +kernel, by decide +kernel⟩, List.mem_of_getElem? (i := 10) (by decide +kernel), List.mem_of_getElem? (i := 266) (by decide +kernel), List.mem_of_getElem? (i := 267) (by decide +kernel)⟩
theorem lw_p1 : lw_okq (⟨"SeparationDesk", "isPixel", "(II)Z"⟩, 8) := ⟨⟨by decide +kernel, by decide +kernel⟩, List.mem_of_getElem? (i := 10) (by decide +kernel), List.mem_of_getElem? (i := 309) (by decide +kernel), List.mem_of_getElem? (i := 310) (by decide +kernel)⟩
theorem lw_p2 : lw_okq (⟨"SeparationDesk", "separateAt", "(II)V"⟩, 8) := ⟨⟨by decide +kernel, by decide +kernel⟩, List.mem_of_getElem? (i := 10) (by decide +kernel), List.mem_of_getElem? (i := 355) (by decide +kernel), List.mem_of_getElem? (i := 356) (by decide +kernel)⟩
theorem lw_p3 : lw_okq (⟨"SeparationDesk", "addUpPlates", "()V"⟩, 8) := ⟨⟨by decide +kernel, by decide +kernel⟩, List.mem_of_getElem? (i := 10) (by decide +kernel), List.mem_of_getElem? (i := 399) (by decide +kernel), List.mem_of_getElem? (i := 400) (by decide +kernel)⟩
theorem lw_p4 : lw_okq (⟨"SeparationDesk", "numberBelow", "(I)I"⟩, 8) := ⟨⟨by decide +kernel, by decide +kernel⟩, List.mem_of_getElem? (i := 10) (by decide +kernel), List.mem_of_getElem? (i := 464) (by decide +kernel), List.mem_of_getElem? (i := 465) (by decide +kernel)⟩
def lw_privs_1 : List (MethodName × Nat) := [(⟨"SeparationDesk", "remember", "()V"⟩, 8), (⟨"SeparationDesk", "isPixel", "(II)Z"⟩, 8), (⟨"SeparationDesk", "separateAt", "(II)V"⟩, 8), (⟨"SeparationDesk", "addUpPlates", "()V"⟩, 8), (⟨"SeparationDesk", "numberBelow", "(I)I"⟩, 8)]
theorem lw_r1 : ∀ q ∈ lw_privs_1, lw_okq q := List.forall_mem_cons.mpr ⟨lw_p0, List.forall_mem_cons.mpr ⟨lw_p1, List.forall_mem_cons.mpr ⟨lw_p2, List.forall_mem_cons.mpr ⟨lw_p3, List.forall_mem_cons.mpr ⟨lw_p4, fun _ h => absurd h List.not_mem_nil⟩⟩⟩⟩⟩
def lw_privs : List (MethodName × Nat) := lw_privs_1
def lw_tbl : List Cond := k2_sels lw_privs ++ tables_1
theorem lw_privs_ok : ∀ q ∈ lw_privs, lw_okq q := lw_r1
end
section
def RX0 : String := "SeparationDesk$Curve"
def TX0 : u_T := fun k => match k with
  | 0 => ("SeparationDesk$Curve", "inputs", "[I", true)
  | 1 => ("SeparationDesk$Curve", "outputs", "[I", true)
  | _ => ("SeparationDesk$Curve", "count", "I", false)
def tyX0 : Nat → FieldType := fun k => match k with
  | 0 => .array .int
  | 1 => .array .int
  | _ => .int
abbrev wsX00 : List Cond := u_ws RX0 TX0 3
theorem nmX0 : ∀ a, a < 3 → ∀ b, b < 3 → a ≠ b → (TX0 a).2.1 ≠ (TX0 b).2.1 := by decide +kernel
theorem tyX0_ok : ∀ k, k < 3 → parseFieldDescriptor (TX0 k).2.2.1 = some (tyX0 k) := by decide +kernel
abbrev cX0_init : ByteArray := prog_2_method_1_code
def yX0_init : MethodName := ⟨RX0, "<init>", "()V"⟩
abbrev cX0_copyFrom : ByteArray := prog_2_method_2_code
def yX0_copyFrom : MethodName := ⟨RX0, "copyFrom", "(LSeparationDesk$Curve;)V"⟩
abbrev cX0_valueAt : ByteArray := prog_2_method_8_code
def yX0_valueAt : MethodName := ⟨RX0, "valueAt", "(I)I"⟩
abbrev cX0_between : ByteArray := prog_2_method_9_code
def yX0_between : MethodName := ⟨RX0, "between", "(II)I"⟩
def RX1 : String := "SeparationDesk$InkTable"
def TX1 : u_T := fun k => match k with
  | 0 => ("SeparationDesk$InkTable", "rows", "[[I", true)
  | _ => ("SeparationDesk$InkTable", "size", "I", false)
def tyX1 : Nat → FieldType := fun k => match k with
  | 0 => .array (.array .int)
  | _ => .int
abbrev wsX10 : List Cond := u_ws RX1 TX1 2
theorem nmX1 : ∀ a, a < 2 → ∀ b, b < 2 → a ≠ b → (TX1 a).2.1 ≠ (TX1 b).2.1 := by decide +kernel
theorem tyX1_ok : ∀ k, k < 2 → parseFieldDescriptor (TX1 k).2.2.1 = some (tyX1 k) := by decide +kernel
abbrev cX1_init : ByteArray := prog_3_method_1_code
def yX1_init : MethodName := ⟨RX1, "<init>", "()V"⟩
def RX2 : String := "SeparationDesk$Node"
def TX2 : u_T := fun k => match k with
  | 0 => ("SeparationDesk$Node", "kind", "I", false)
  | 1 => ("SeparationDesk$Node", "parent", "I", false)
  | 2 => ("SeparationDesk$Node", "depth", "I", false)
  | 3 => ("SeparationDesk$Node", "opacity", "I", false)
  | 4 => ("SeparationDesk$Node", "dx", "I", false)
  | 5 => ("SeparationDesk$Node", "dy", "I", false)
  | 6 => ("SeparationDesk$Node", "effective", "I", false)
  | 7 => ("SeparationDesk$Node", "offsetX", "I", false)
  | 8 => ("SeparationDesk$Node", "offsetY", "I", false)
  | 9 => ("SeparationDesk$Node", "x", "I", false)
  | 10 => ("SeparationDesk$Node", "y", "I", false)
  | 11 => ("SeparationDesk$Node", "w", "I", false)
  | 12 => ("SeparationDesk$Node", "h", "I", false)
  | 13 => ("SeparationDesk$Node", "red", "I", false)
  | 14 => ("SeparationDesk$Node", "green", "I", false)
  | 15 => ("SeparationDesk$Node", "blue", "I", false)
  | 16 => ("SeparationDesk$Node", "plate", "I", false)
  | _ => ("SeparationDesk$Node", "tint", "I", false)
def tyX2 : Nat → FieldType := fun k => match k with
  | 0 => .int
  | 1 => .int
  | 2 => .int
  | 3 => .int
  | 4 => .int
  | 5 => .int
  | 6 => .int
  | 7 => .int
  | 8 => .int
  | 9 => .int
  | 10 => .int
  | 11 => .int
  | 12 => .int
  | 13 => .int
  | 14 => .int
  | 15 => .int
  | 16 => .int
  | _ => .int
abbrev wsX20 : List Cond := u_ws RX2 TX2 18
theorem nmX2 : ∀ a, a < 18 → ∀ b, b < 18 → a ≠ b → (TX2 a).2.1 ≠ (TX2 b).2.1 := by decide +kernel
theorem tyX2_ok : ∀ k, k < 18 → parseFieldDescriptor (TX2 k).2.2.1 = some (tyX2 k) := by decide +kernel
abbrev cX2_init : ByteArray := prog_4_method_1_code
def yX2_init : MethodName := ⟨RX2, "<init>", "()V"⟩
abbrev cX2_takeBox : ByteArray := prog_4_method_2_code
def yX2_takeBox : MethodName := ⟨RX2, "takeBox", "(LSeparationDesk$Node;)V"⟩
abbrev cX2_takeColor : ByteArray := prog_4_method_3_code
def yX2_takeColor : MethodName := ⟨RX2, "takeColor", "(LSeparationDesk$Node;)V"⟩
abbrev cX2_copyFrom : ByteArray := prog_4_method_4_code
def yX2_copyFrom : MethodName := ⟨RX2, "copyFrom", "(LSeparationDesk$Node;)V"⟩
abbrev cX2_settleBelow : ByteArray := prog_4_method_5_code
def yX2_settleBelow : MethodName := ⟨RX2, "settleBelow", "(LSeparationDesk$Node;)V"⟩
abbrev cX2_contains : ByteArray := prog_4_method_6_code
def yX2_contains : MethodName := ⟨RX2, "contains", "(II)Z"⟩
def RX3 : String := "SeparationDesk$Pixel"
def TX3 : u_T := fun k => match k with
  | 0 => ("SeparationDesk$Pixel", "tones", "[I", true)
  | 1 => ("SeparationDesk$Pixel", "before", "[I", true)
  | _ => ("SeparationDesk$Pixel", "after", "[I", true)
def tyX3 : Nat → FieldType := fun k => match k with
  | 0 => .array .int
  | 1 => .array .int
  | _ => .array .int
abbrev wsX30 : List Cond := u_ws RX3 TX3 3
theorem nmX3 : ∀ a, a < 3 → ∀ b, b < 3 → a ≠ b → (TX3 a).2.1 ≠ (TX3 b).2.1 := by decide +kernel
theorem tyX3_ok : ∀ k, k < 3 → parseFieldDescriptor (TX3 k).2.2.1 = some (tyX3 k) := by decide +kernel
abbrev cX3_init : ByteArray := prog_5_method_1_code
def yX3_init : MethodName := ⟨RX3, "<init>", "()V"⟩
abbrev cX3_clear : ByteArray := prog_5_method_2_code
def yX3_clear : MethodName := ⟨RX3, "clear", "()V"⟩
abbrev cX3_render : ByteArray := prog_5_method_3_code
def yX3_render : MethodName := ⟨RX3, "render", "(LSeparationDesk$State;II)V"⟩
abbrev cX3_paint : ByteArray := prog_5_method_4_code
def yX3_paint : MethodName := ⟨RX3, "paint", "(LSeparationDesk$Node;LSeparationDesk$State;I)V"⟩
abbrev cX3_pullColors : ByteArray := prog_5_method_5_code
def yX3_pullColors : MethodName := ⟨RX3, "pullColors", "(IIII)V"⟩
abbrev cX3_pullTints : ByteArray := prog_5_method_6_code
def yX3_pullTints : MethodName := ⟨RX3, "pullTints", "(II)V"⟩
abbrev cX3_pull : ByteArray := prog_5_method_7_code
def yX3_pull : MethodName := ⟨RX3, "pull", "(III)V"⟩
abbrev cX3_separate : ByteArray := prog_5_method_8_code
def yX3_separate : MethodName := ⟨RX3, "separate", "(LSeparationDesk$State;I)V"⟩
abbrev cX3_limitSum : ByteArray := prog_5_method_9_code
def yX3_limitSum : MethodName := ⟨RX3, "limitSum", "(I)V"⟩
abbrev cX3_shrink : ByteArray := prog_5_method_10_code
def yX3_shrink : MethodName := ⟨RX3, "shrink", "(III)V"⟩
abbrev cX3_valueOf : ByteArray := prog_5_method_11_code
def yX3_valueOf : MethodName := ⟨RX3, "valueOf", "(I)I"⟩
abbrev cX3_isDisordered : ByteArray := prog_5_method_12_code
def yX3_isDisordered : MethodName := ⟨RX3, "isDisordered", "()Z"⟩
def RX4 : String := "SeparationDesk$State"
def TX4 : u_T := fun k => match k with
  | 0 => ("SeparationDesk$State", "width", "I", false)
  | 1 => ("SeparationDesk$State", "height", "I", false)
  | 2 => ("SeparationDesk$State", "amount", "I", false)
  | 3 => ("SeparationDesk$State", "start", "I", false)
  | 4 => ("SeparationDesk$State", "limit", "I", false)
  | 5 => ("SeparationDesk$State", "knockouts", "[I", true)
  | 6 => ("SeparationDesk$State", "tree", "LSeparationDesk$Tree;", true)
  | _ => ("SeparationDesk$State", "curves", "[LSeparationDesk$Curve;", true)
def tyX4 : Nat → FieldType := fun k => match k with
  | 0 => .int
  | 1 => .int
  | 2 => .int
  | 3 => .int
  | 4 => .int
  | 5 => .array .int
  | 6 => .object "SeparationDesk$Tree"
  | _ => .array (.object "SeparationDesk$Curve")
abbrev wsX40 : List Cond := u_ws RX4 TX4 8
theorem nmX4 : ∀ a, a < 8 → ∀ b, b < 8 → a ≠ b → (TX4 a).2.1 ≠ (TX4 b).2.1 := by decide +kernel
theorem tyX4_ok : ∀ k, k < 8 → parseFieldDescriptor (TX4 k).2.2.1 = some (tyX4 k) := by decide +kernel
abbrev cX4_init : ByteArray := prog_6_method_1_code
def yX4_init : MethodName := ⟨RX4, "<init>", "()V"⟩
abbrev cX4_copyFrom : ByteArray := prog_6_method_2_code
def yX4_copyFrom : MethodName := ⟨RX4, "copyFrom", "(LSeparationDesk$State;)V"⟩
def RX5 : String := "SeparationDesk$Tree"
def TX5 : u_T := fun k => match k with
  | 0 => ("SeparationDesk$Tree", "nodes", "[LSeparationDesk$Node;", true)
  | 1 => ("SeparationDesk$Tree", "order", "[I", true)
  | 2 => ("SeparationDesk$Tree", "carried", "[I", true)
  | _ => ("SeparationDesk$Tree", "count", "I", false)
def tyX5 : Nat → FieldType := fun k => match k with
  | 0 => .array (.object "SeparationDesk$Node")
  | 1 => .array .int
  | 2 => .array .int
  | _ => .int
abbrev wsX50 : List Cond := u_ws RX5 TX5 4
theorem nmX5 : ∀ a, a < 4 → ∀ b, b < 4 → a ≠ b → (TX5 a).2.1 ≠ (TX5 b).2.1 := by decide +kernel
theorem tyX5_ok : ∀ k, k < 4 → parseFieldDescriptor (TX5 k).2.2.1 = some (tyX5 k) := by decide +kernel
abbrev cX5_init : ByteArray := prog_7_method_1_code
def yX5_init : MethodName := ⟨RX5, "<init>", "()V"⟩
abbrev cX5_copyFrom : ByteArray := prog_7_method_2_code
def yX5_copyFrom : MethodName := ⟨RX5, "copyFrom", "(LSeparationDesk$Tree;)V"⟩
abbrev cX5_has : ByteArray := prog_7_method_3_code
def yX5_has : MethodName := ⟨RX5, "has", "(I)Z"⟩
abbrev cX5_nodeAt : ByteArray := prog_7_method_4_code
def yX5_nodeAt : MethodName := ⟨RX5, "nodeAt", "(I)LSeparationDesk$Node;"⟩
abbrev cX5_freeNumber : ByteArray := prog_7_method_5_code
def yX5_freeNumber : MethodName := ⟨RX5, "freeNumber", "()I"⟩
abbrev cX5_startOf : ByteArray := prog_7_method_6_code
def yX5_startOf : MethodName := ⟨RX5, "startOf", "(I)I"⟩
abbrev cX5_endOf : ByteArray := prog_7_method_7_code
def yX5_endOf : MethodName := ⟨RX5, "endOf", "(I)I"⟩
abbrev cX5_append : ByteArray := prog_7_method_11_code
def yX5_append : MethodName := ⟨RX5, "append", "(III)V"⟩
abbrev cX5_putIn : ByteArray := prog_7_method_16_code
def yX5_putIn : MethodName := ⟨RX5, "putIn", "(II)V"⟩
abbrev cX5_settle : ByteArray := prog_7_method_17_code
def yX5_settle : MethodName := ⟨RX5, "settle", "()V"⟩
def RX6 : String := "SeparationDesk"
def TX6 : u_T := fun k => match k with
  | 0 => ("SeparationDesk", "page", "LSeparationDesk$State;", true)
  | 1 => ("SeparationDesk", "history", "[LSeparationDesk$State;", true)
  | 2 => ("SeparationDesk", "changes", "I", false)
  | 3 => ("SeparationDesk", "draft", "LSeparationDesk$Node;", true)
  | 4 => ("SeparationDesk", "pixel", "LSeparationDesk$Pixel;", true)
  | 5 => ("SeparationDesk", "inks", "LSeparationDesk$InkTable;", true)
  | 6 => ("SeparationDesk", "totals", "[I", true)
  | _ => ("SeparationDesk", "needs", "[I", true)
def tyX6 : Nat → FieldType := fun k => match k with
  | 0 => .object "SeparationDesk$State"
  | 1 => .array (.object "SeparationDesk$State")
  | 2 => .int
  | 3 => .object "SeparationDesk$Node"
  | 4 => .object "SeparationDesk$Pixel"
  | 5 => .object "SeparationDesk$InkTable"
  | 6 => .array .int
  | _ => .array .int
abbrev wsX60 : List Cond := u_ws RX6 TX6 8
theorem nmX6 : ∀ a, a < 8 → ∀ b, b < 8 → a ≠ b → (TX6 a).2.1 ≠ (TX6 b).2.1 := by decide +kernel
theorem tyX6_ok : ∀ k, k < 8 → parseFieldDescriptor (TX6 k).2.2.1 = some (tyX6 k) := by decide +kernel
abbrev cX6_init : ByteArray := prog_1_method_1_code
def yX6_init : MethodName := ⟨RX6, "<init>", "()V"⟩
abbrev cX6_setSize : ByteArray := prog_1_method_2_code
def yX6_setSize : MethodName := ⟨RX6, "setSize", "(II)I"⟩
abbrev cX6_addGroup : ByteArray := prog_1_method_3_code
def yX6_addGroup : MethodName := ⟨RX6, "addGroup", "(IIII)I"⟩
abbrev cX6_addRect : ByteArray := prog_1_method_4_code
def yX6_addRect : MethodName := ⟨RX6, "addRect", "(I)I"⟩
abbrev cX6_addSpot : ByteArray := prog_1_method_5_code
def yX6_addSpot : MethodName := ⟨RX6, "addSpot", "(III)I"⟩
abbrev cX6_setBox : ByteArray := prog_1_method_6_code
def yX6_setBox : MethodName := ⟨RX6, "setBox", "(IIII)I"⟩
abbrev cX6_setInk : ByteArray := prog_1_method_7_code
def yX6_setInk : MethodName := ⟨RX6, "setInk", "(III)I"⟩
abbrev cX6_set : ByteArray := prog_1_method_12_code
def yX6_set : MethodName := ⟨RX6, "set", "(II)I"⟩
abbrev cX6_setKnockout : ByteArray := prog_1_method_13_code
def yX6_setKnockout : MethodName := ⟨RX6, "setKnockout", "(II)I"⟩
abbrev cX6_rendered : ByteArray := prog_1_method_19_code
def yX6_rendered : MethodName := ⟨RX6, "rendered", "(III)I"⟩
abbrev cX6_ink : ByteArray := prog_1_method_20_code
def yX6_ink : MethodName := ⟨RX6, "ink", "(III)I"⟩
abbrev cX6_touchedBy : ByteArray := prog_1_method_22_code
def yX6_touchedBy : MethodName := ⟨RX6, "touchedBy", "(II)I"⟩
abbrev cX6_coverage : ByteArray := prog_1_method_23_code
def yX6_coverage : MethodName := ⟨RX6, "coverage", "(I)I"⟩
abbrev cX6_greatestSum : ByteArray := prog_1_method_25_code
def yX6_greatestSum : MethodName := ⟨RX6, "greatestSum", "()I"⟩
abbrev cX6_limitedPixels : ByteArray := prog_1_method_26_code
def yX6_limitedPixels : MethodName := ⟨RX6, "limitedPixels", "()I"⟩
abbrev cX6_neededLimit : ByteArray := prog_1_method_29_code
def yX6_neededLimit : MethodName := ⟨RX6, "neededLimit", "()I"⟩
abbrev cX6_disorderedPixels : ByteArray := prog_1_method_31_code
def yX6_disorderedPixels : MethodName := ⟨RX6, "disorderedPixels", "()I"⟩
abbrev cX6_within : ByteArray := prog_1_method_33_code
def yX6_within : MethodName := ⟨RX6, "within", "(III)Z"⟩
abbrev cX6_isPart : ByteArray := prog_1_method_34_code
def yX6_isPart : MethodName := ⟨RX6, "isPart", "(I)Z"⟩
abbrev cX6_isOffset : ByteArray := prog_1_method_35_code
def yX6_isOffset : MethodName := ⟨RX6, "isOffset", "(I)Z"⟩
abbrev cX6_isPixel : ByteArray := prog_1_method_37_code
def yX6_isPixel : MethodName := ⟨RX6, "isPixel", "(II)Z"⟩
abbrev cX6_greatestSetting : ByteArray := prog_1_method_38_code
def yX6_greatestSetting : MethodName := ⟨RX6, "greatestSetting", "(I)I"⟩
abbrev cX6_numberBelow : ByteArray := prog_1_method_39_code
def yX6_numberBelow : MethodName := ⟨RX6, "numberBelow", "(I)I"⟩
abbrev cX6_remember : ByteArray := prog_1_method_40_code
def yX6_remember : MethodName := ⟨RX6, "remember", "()V"⟩
abbrev cX6_separateAt : ByteArray := prog_1_method_41_code
def yX6_separateAt : MethodName := ⟨RX6, "separateAt", "(II)V"⟩
abbrev cX6_addUpPlates : ByteArray := prog_1_method_42_code
def yX6_addUpPlates : MethodName := ⟨RX6, "addUpPlates", "()V"⟩
abbrev cX6_sumOf : ByteArray := prog_1_method_47_code
def yX6_sumOf : MethodName := ⟨RX6, "sumOf", "([I)I"⟩
abbrev cX6_sameValues : ByteArray := prog_1_method_48_code
def yX6_sameValues : MethodName := ⟨RX6, "sameValues", "([I[I)Z"⟩
def RX7 : String := "SeparationDeskModel"
def TX7 : u_T := fun k => match k with
  | _ => ("", "", "", false)
def tyX7 : Nat → FieldType := fun k => match k with
  | _ => .int
abbrev wsX70 : List Cond := u_ws RX7 TX7 0
theorem nmX7 : ∀ a, a < 0 → ∀ b, b < 0 → a ≠ b → (TX7 a).2.1 ≠ (TX7 b).2.1 := by decide +kernel
theorem tyX7_ok : ∀ k, k < 0 → parseFieldDescriptor (TX7 k).2.2.1 = some (tyX7 k) := by decide +kernel
def RJ9 : String := "java/lang/Math"
abbrev cJ9_floorDiv_7cf53 : ByteArray := prog_10_method_47_code
def yJ9_floorDiv_7cf53 : MethodName := ⟨RJ9, "floorDiv", "(II)I"⟩
abbrev cJ9_max_7cf53 : ByteArray := prog_10_method_65_code
def yJ9_max_7cf53 : MethodName := ⟨RJ9, "max", "(II)I"⟩
abbrev cJ9_min_7cf53 : ByteArray := prog_10_method_69_code
def yJ9_min_7cf53 : MethodName := ⟨RJ9, "min", "(II)I"⟩
def RL : String := "SeparationDeskLaw"
abbrev cL_cell : ByteArray := method_2_code
def yL_cell : MethodName := ⟨RL, "cell", "([II)I"⟩
abbrev cL_low : ByteArray := method_3_code
def yL_low : MethodName := ⟨RL, "low", "(II)I"⟩
abbrev cL_down : ByteArray := method_4_code
def yL_down : MethodName := ⟨RL, "down", "(II)I"⟩
abbrev cL_begins : ByteArray := method_5_code
def yL_begins : MethodName := ⟨RL, "begins", "([I[I[I[I[I)V"⟩
abbrev cL_depthOf : ByteArray := method_6_code
def yL_depthOf : MethodName := ⟨RL, "depthOf", "([II)I"⟩
abbrev cL_isAdded : ByteArray := method_8_code
def yL_isAdded : MethodName := ⟨RL, "isAdded", "(LSeparationDesk;[I[I[I[I[II)Z"⟩
abbrev cL_next : ByteArray := method_9_code
def yL_next : MethodName := ⟨RL, "next", "([I[I[IJ)I"⟩
abbrev cL_keyOf : ByteArray := method_10_code
def yL_keyOf : MethodName := ⟨RL, "keyOf", "([I[II)J"⟩
abbrev cL_above : ByteArray := method_11_code
def yL_above : MethodName := ⟨RL, "above", "([I[II[I)V"⟩
abbrev cL_moves : ByteArray := method_12_code
def yL_moves : MethodName := ⟨RL, "moves", "([IIII)V"⟩
abbrev cL_renders : ByteArray := method_13_code
def yL_renders : MethodName := ⟨RL, "renders", "([I[I[I[I[I[III[I)I"⟩
abbrev cL_separates : ByteArray := method_14_code
def yL_separates : MethodName := ⟨RL, "separates", "([I[I[I[I)V"⟩
abbrev cL_law : ByteArray := code
def yL_law : MethodName := ⟨RL, "law", "([I)Z"⟩
theorem dX0_init_0 : decode cX0_init 0 = .ok (.aload_n 0, 1) := by decide +kernel
theorem dX0_init_1 : decode cX0_init 1 = .ok (.invokespecial 3, 3) := by decide +kernel
theorem dX0_init_4 : decode cX0_init 4 = .ok (.aload_n 0, 1) := by decide +kernel
theorem dX0_init_5 : decode cX0_init 5 = .ok (.bipush 8, 2) := by decide +kernel
theorem dX0_init_7 : decode cX0_init 7 = .ok (.newarray .int, 2) := by decide +kernel
theorem dX0_init_9 : decode cX0_init 9 = .ok (.putfield 9, 3) := by decide +kernel
theorem dX0_init_12 : decode cX0_init 12 = .ok (.aload_n 0, 1) := by decide +kernel
theorem dX0_init_13 : decode cX0_init 13 = .ok (.bipush 8, 2) := by decide +kernel
theorem dX0_init_15 : decode cX0_init 15 = .ok (.newarray .int, 2) := by decide +kernel
theorem dX0_init_17 : decode cX0_init 17 = .ok (.putfield 15, 3) := by decide +kernel
theorem dX0_init_20 : decode cX0_init 20 = .ok (.aload_n 0, 1) := by decide +kernel
theorem dX0_init_21 : decode cX0_init 21 = .ok (.getfield 9, 3) := by decide +kernel
theorem dX0_init_24 : decode cX0_init 24 = .ok (.iconst 1, 1) := by decide +kernel
theorem dX0_init_25 : decode cX0_init 25 = .ok (.sipush 255, 3) := by decide +kernel
theorem dX0_init_28 : decode cX0_init 28 = .ok (.iastore, 1) := by decide +kernel
theorem dX0_init_29 : decode cX0_init 29 = .ok (.aload_n 0, 1) := by decide +kernel
theorem dX0_init_30 : decode cX0_init 30 = .ok (.getfield 15, 3) := by decide +kernel
theorem dX0_init_33 : decode cX0_init 33 = .ok (.iconst 1, 1) := by decide +kernel
theorem dX0_init_34 : decode cX0_init 34 = .ok (.sipush 255, 3) := by decide +kernel
theorem dX0_init_37 : decode cX0_init 37 = .ok (.iastore, 1) := by decide +kernel
theorem dX0_init_38 : decode cX0_init 38 = .ok (.aload_n 0, 1) := by decide +kernel
theorem dX0_init_39 : decode cX0_init 39 = .ok (.iconst 2, 1) := by decide +kernel
theorem dX0_init_40 : decode cX0_init 40 = .ok (.putfield 18, 3) := by decide +kernel
theorem dX0_init_43 : decode cX0_init 43 = .ok (.return_, 1) := by decide +kernel
theorem dX0_copyFrom_0 : decode cX0_copyFrom 0 = .ok (.iconst 0, 1) := by decide +kernel
theorem dX0_copyFrom_1 : decode cX0_copyFrom 1 = .ok (.istore_n 2, 1) := by decide +kernel
theorem dX0_copyFrom_2 : decode cX0_copyFrom 2 = .ok (.iload_n 2, 1) := by decide +kernel
theorem dX0_copyFrom_3 : decode cX0_copyFrom 3 = .ok (.bipush 8, 2) := by decide +kernel
theorem dX0_copyFrom_5 : decode cX0_copyFrom 5 = .ok (.if_icmp .ge 33, 3) := by decide +kernel
theorem dX0_copyFrom_8 : decode cX0_copyFrom 8 = .ok (.aload_n 0, 1) := by decide +kernel
theorem dX0_copyFrom_9 : decode cX0_copyFrom 9 = .ok (.getfield 9, 3) := by decide +kernel
theorem dX0_copyFrom_12 : decode cX0_copyFrom 12 = .ok (.iload_n 2, 1) := by decide +kernel
theorem dX0_copyFrom_13 : decode cX0_copyFrom 13 = .ok (.aload_n 1, 1) := by decide +kernel
theorem dX0_copyFrom_14 : decode cX0_copyFrom 14 = .ok (.getfield 9, 3) := by decide +kernel
theorem dX0_copyFrom_17 : decode cX0_copyFrom 17 = .ok (.iload_n 2, 1) := by decide +kernel
theorem dX0_copyFrom_18 : decode cX0_copyFrom 18 = .ok (.iaload, 1) := by decide +kernel
theorem dX0_copyFrom_19 : decode cX0_copyFrom 19 = .ok (.iastore, 1) := by decide +kernel
theorem dX0_copyFrom_20 : decode cX0_copyFrom 20 = .ok (.aload_n 0, 1) := by decide +kernel
theorem dX0_copyFrom_21 : decode cX0_copyFrom 21 = .ok (.getfield 15, 3) := by decide +kernel
theorem dX0_copyFrom_24 : decode cX0_copyFrom 24 = .ok (.iload_n 2, 1) := by decide +kernel
theorem dX0_copyFrom_25 : decode cX0_copyFrom 25 = .ok (.aload_n 1, 1) := by decide +kernel
theorem dX0_copyFrom_26 : decode cX0_copyFrom 26 = .ok (.getfield 15, 3) := by decide +kernel
theorem dX0_copyFrom_29 : decode cX0_copyFrom 29 = .ok (.iload_n 2, 1) := by decide +kernel
theorem dX0_copyFrom_30 : decode cX0_copyFrom 30 = .ok (.iaload, 1) := by decide +kernel
theorem dX0_copyFrom_31 : decode cX0_copyFrom 31 = .ok (.iastore, 1) := by decide +kernel
theorem dX0_copyFrom_32 : decode cX0_copyFrom 32 = .ok (.iinc 2 1, 3) := by decide +kernel
theorem dX0_copyFrom_35 : decode cX0_copyFrom 35 = .ok (.goto (-33), 3) := by decide +kernel
theorem dX0_copyFrom_38 : decode cX0_copyFrom 38 = .ok (.aload_n 0, 1) := by decide +kernel
theorem dX0_copyFrom_39 : decode cX0_copyFrom 39 = .ok (.aload_n 1, 1) := by decide +kernel
theorem dX0_copyFrom_40 : decode cX0_copyFrom 40 = .ok (.getfield 18, 3) := by decide +kernel
theorem dX0_copyFrom_43 : decode cX0_copyFrom 43 = .ok (.putfield 18, 3) := by decide +kernel
theorem dX0_copyFrom_46 : decode cX0_copyFrom 46 = .ok (.return_, 1) := by decide +kernel
theorem dX0_valueAt_0 : decode cX0_valueAt 0 = .ok (.iconst 1, 1) := by decide +kernel
theorem dX0_valueAt_1 : decode cX0_valueAt 1 = .ok (.istore_n 2, 1) := by decide +kernel
theorem dX0_valueAt_2 : decode cX0_valueAt 2 = .ok (.iload_n 2, 1) := by decide +kernel
theorem dX0_valueAt_3 : decode cX0_valueAt 3 = .ok (.aload_n 0, 1) := by decide +kernel
theorem dX0_valueAt_4 : decode cX0_valueAt 4 = .ok (.getfield 18, 3) := by decide +kernel
theorem dX0_valueAt_7 : decode cX0_valueAt 7 = .ok (.if_icmp .ge 26, 3) := by decide +kernel
theorem dX0_valueAt_10 : decode cX0_valueAt 10 = .ok (.iload_n 1, 1) := by decide +kernel
theorem dX0_valueAt_11 : decode cX0_valueAt 11 = .ok (.aload_n 0, 1) := by decide +kernel
theorem dX0_valueAt_12 : decode cX0_valueAt 12 = .ok (.getfield 9, 3) := by decide +kernel
theorem dX0_valueAt_15 : decode cX0_valueAt 15 = .ok (.iload_n 2, 1) := by decide +kernel
theorem dX0_valueAt_16 : decode cX0_valueAt 16 = .ok (.iaload, 1) := by decide +kernel
theorem dX0_valueAt_17 : decode cX0_valueAt 17 = .ok (.if_icmp .gt 10, 3) := by decide +kernel
theorem dX0_valueAt_20 : decode cX0_valueAt 20 = .ok (.aload_n 0, 1) := by decide +kernel
theorem dX0_valueAt_21 : decode cX0_valueAt 21 = .ok (.iload_n 2, 1) := by decide +kernel
theorem dX0_valueAt_22 : decode cX0_valueAt 22 = .ok (.iload_n 1, 1) := by decide +kernel
theorem dX0_valueAt_23 : decode cX0_valueAt 23 = .ok (.invokevirtual 29, 3) := by decide +kernel
theorem dX0_valueAt_26 : decode cX0_valueAt 26 = .ok (.ireturn, 1) := by decide +kernel
theorem dX0_valueAt_27 : decode cX0_valueAt 27 = .ok (.iinc 2 1, 3) := by decide +kernel
theorem dX0_valueAt_30 : decode cX0_valueAt 30 = .ok (.goto (-28), 3) := by decide +kernel
theorem dX0_valueAt_33 : decode cX0_valueAt 33 = .ok (.aload_n 0, 1) := by decide +kernel
theorem dX0_valueAt_34 : decode cX0_valueAt 34 = .ok (.getfield 15, 3) := by decide +kernel
theorem dX0_valueAt_37 : decode cX0_valueAt 37 = .ok (.aload_n 0, 1) := by decide +kernel
theorem dX0_valueAt_38 : decode cX0_valueAt 38 = .ok (.getfield 18, 3) := by decide +kernel
theorem dX0_valueAt_41 : decode cX0_valueAt 41 = .ok (.iconst 1, 1) := by decide +kernel
theorem dX0_valueAt_42 : decode cX0_valueAt 42 = .ok (.isub, 1) := by decide +kernel
theorem dX0_valueAt_43 : decode cX0_valueAt 43 = .ok (.iaload, 1) := by decide +kernel
theorem dX0_valueAt_44 : decode cX0_valueAt 44 = .ok (.ireturn, 1) := by decide +kernel
theorem dX0_between_0 : decode cX0_between 0 = .ok (.aload_n 0, 1) := by decide +kernel
theorem dX0_between_1 : decode cX0_between 1 = .ok (.getfield 15, 3) := by decide +kernel
theorem dX0_between_4 : decode cX0_between 4 = .ok (.iload_n 1, 1) := by decide +kernel
theorem dX0_between_5 : decode cX0_between 5 = .ok (.iconst 1, 1) := by decide +kernel
theorem dX0_between_6 : decode cX0_between 6 = .ok (.isub, 1) := by decide +kernel
theorem dX0_between_7 : decode cX0_between 7 = .ok (.iaload, 1) := by decide +kernel
theorem dX0_between_8 : decode cX0_between 8 = .ok (.istore_n 3, 1) := by decide +kernel
theorem dX0_between_9 : decode cX0_between 9 = .ok (.aload_n 0, 1) := by decide +kernel
theorem dX0_between_10 : decode cX0_between 10 = .ok (.getfield 9, 3) := by decide +kernel
theorem dX0_between_13 : decode cX0_between 13 = .ok (.iload_n 1, 1) := by decide +kernel
theorem dX0_between_14 : decode cX0_between 14 = .ok (.iaload, 1) := by decide +kernel
theorem dX0_between_15 : decode cX0_between 15 = .ok (.aload_n 0, 1) := by decide +kernel
theorem dX0_between_16 : decode cX0_between 16 = .ok (.getfield 9, 3) := by decide +kernel
theorem dX0_between_19 : decode cX0_between 19 = .ok (.iload_n 1, 1) := by decide +kernel
theorem dX0_between_20 : decode cX0_between 20 = .ok (.iconst 1, 1) := by decide +kernel
theorem dX0_between_21 : decode cX0_between 21 = .ok (.isub, 1) := by decide +kernel
theorem dX0_between_22 : decode cX0_between 22 = .ok (.iaload, 1) := by decide +kernel
theorem dX0_between_23 : decode cX0_between 23 = .ok (.isub, 1) := by decide +kernel
theorem dX0_between_24 : decode cX0_between 24 = .ok (.istore 4, 2) := by decide +kernel
theorem dX0_between_26 : decode cX0_between 26 = .ok (.iload 4, 2) := by decide +kernel
theorem dX0_between_28 : decode cX0_between 28 = .ok (.ifCond .gt 5, 3) := by decide +kernel
theorem dX0_between_31 : decode cX0_between 31 = .ok (.iload_n 3, 1) := by decide +kernel
theorem dX0_between_32 : decode cX0_between 32 = .ok (.ireturn, 1) := by decide +kernel
theorem dX0_between_33 : decode cX0_between 33 = .ok (.iload_n 3, 1) := by decide +kernel
theorem dX0_between_34 : decode cX0_between 34 = .ok (.aload_n 0, 1) := by decide +kernel
theorem dX0_between_35 : decode cX0_between 35 = .ok (.getfield 15, 3) := by decide +kernel
theorem dX0_between_38 : decode cX0_between 38 = .ok (.iload_n 1, 1) := by decide +kernel
theorem dX0_between_39 : decode cX0_between 39 = .ok (.iaload, 1) := by decide +kernel
theorem dX0_between_40 : decode cX0_between 40 = .ok (.iload_n 3, 1) := by decide +kernel
theorem dX0_between_41 : decode cX0_between 41 = .ok (.isub, 1) := by decide +kernel
theorem dX0_between_42 : decode cX0_between 42 = .ok (.iload_n 2, 1) := by decide +kernel
theorem dX0_between_43 : decode cX0_between 43 = .ok (.aload_n 0, 1) := by decide +kernel
theorem dX0_between_44 : decode cX0_between 44 = .ok (.getfield 9, 3) := by decide +kernel
theorem dX0_between_47 : decode cX0_between 47 = .ok (.iload_n 1, 1) := by decide +kernel
theorem dX0_between_48 : decode cX0_between 48 = .ok (.iconst 1, 1) := by decide +kernel
theorem dX0_between_49 : decode cX0_between 49 = .ok (.isub, 1) := by decide +kernel
theorem dX0_between_50 : decode cX0_between 50 = .ok (.iaload, 1) := by decide +kernel
theorem dX0_between_51 : decode cX0_between 51 = .ok (.isub, 1) := by decide +kernel
theorem dX0_between_52 : decode cX0_between 52 = .ok (.imul, 1) := by decide +kernel
theorem dX0_between_53 : decode cX0_between 53 = .ok (.iload 4, 2) := by decide +kernel
theorem dX0_between_55 : decode cX0_between 55 = .ok (.idiv, 1) := by decide +kernel
theorem dX0_between_56 : decode cX0_between 56 = .ok (.iadd, 1) := by decide +kernel
theorem dX0_between_57 : decode cX0_between 57 = .ok (.ireturn, 1) := by decide +kernel
theorem dX1_init_0 : decode cX1_init 0 = .ok (.aload_n 0, 1) := by decide +kernel
theorem dX1_init_1 : decode cX1_init 1 = .ok (.invokespecial 3, 3) := by decide +kernel
theorem dX1_init_4 : decode cX1_init 4 = .ok (.aload_n 0, 1) := by decide +kernel
theorem dX1_init_5 : decode cX1_init 5 = .ok (.sipush 144, 3) := by decide +kernel
theorem dX1_init_8 : decode cX1_init 8 = .ok (.bipush 9, 2) := by decide +kernel
theorem dX1_init_10 : decode cX1_init 10 = .ok (.multianewarray 9 2, 4) := by decide +kernel
theorem dX1_init_14 : decode cX1_init 14 = .ok (.putfield 11, 3) := by decide +kernel
theorem dX1_init_17 : decode cX1_init 17 = .ok (.aload_n 0, 1) := by decide +kernel
theorem dX1_init_18 : decode cX1_init 18 = .ok (.iconst 0, 1) := by decide +kernel
theorem dX1_init_19 : decode cX1_init 19 = .ok (.putfield 16, 3) := by decide +kernel
theorem dX1_init_22 : decode cX1_init 22 = .ok (.return_, 1) := by decide +kernel
theorem dX2_init_0 : decode cX2_init 0 = .ok (.aload_n 0, 1) := by decide +kernel
theorem dX2_init_1 : decode cX2_init 1 = .ok (.invokespecial 3, 3) := by decide +kernel
theorem dX2_init_4 : decode cX2_init 4 = .ok (.aload_n 0, 1) := by decide +kernel
theorem dX2_init_5 : decode cX2_init 5 = .ok (.iconst (-1), 1) := by decide +kernel
theorem dX2_init_6 : decode cX2_init 6 = .ok (.putfield 9, 3) := by decide +kernel
theorem dX2_init_9 : decode cX2_init 9 = .ok (.aload_n 0, 1) := by decide +kernel
theorem dX2_init_10 : decode cX2_init 10 = .ok (.iconst (-1), 1) := by decide +kernel
theorem dX2_init_11 : decode cX2_init 11 = .ok (.putfield 15, 3) := by decide +kernel
theorem dX2_init_14 : decode cX2_init 14 = .ok (.aload_n 0, 1) := by decide +kernel
theorem dX2_init_15 : decode cX2_init 15 = .ok (.iconst 1, 1) := by decide +kernel
theorem dX2_init_16 : decode cX2_init 16 = .ok (.putfield 18, 3) := by decide +kernel
theorem dX2_init_19 : decode cX2_init 19 = .ok (.aload_n 0, 1) := by decide +kernel
theorem dX2_init_20 : decode cX2_init 20 = .ok (.iconst 1, 1) := by decide +kernel
theorem dX2_init_21 : decode cX2_init 21 = .ok (.putfield 21, 3) := by decide +kernel
theorem dX2_init_24 : decode cX2_init 24 = .ok (.return_, 1) := by decide +kernel
theorem dX2_takeBox_0 : decode cX2_takeBox 0 = .ok (.aload_n 0, 1) := by decide +kernel
theorem dX2_takeBox_1 : decode cX2_takeBox 1 = .ok (.aload_n 1, 1) := by decide +kernel
theorem dX2_takeBox_2 : decode cX2_takeBox 2 = .ok (.getfield 24, 3) := by decide +kernel
theorem dX2_takeBox_5 : decode cX2_takeBox 5 = .ok (.putfield 24, 3) := by decide +kernel
theorem dX2_takeBox_8 : decode cX2_takeBox 8 = .ok (.aload_n 0, 1) := by decide +kernel
theorem dX2_takeBox_9 : decode cX2_takeBox 9 = .ok (.aload_n 1, 1) := by decide +kernel
theorem dX2_takeBox_10 : decode cX2_takeBox 10 = .ok (.getfield 27, 3) := by decide +kernel
theorem dX2_takeBox_13 : decode cX2_takeBox 13 = .ok (.putfield 27, 3) := by decide +kernel
theorem dX2_takeBox_16 : decode cX2_takeBox 16 = .ok (.aload_n 0, 1) := by decide +kernel
theorem dX2_takeBox_17 : decode cX2_takeBox 17 = .ok (.aload_n 1, 1) := by decide +kernel
theorem dX2_takeBox_18 : decode cX2_takeBox 18 = .ok (.getfield 18, 3) := by decide +kernel
theorem dX2_takeBox_21 : decode cX2_takeBox 21 = .ok (.putfield 18, 3) := by decide +kernel
theorem dX2_takeBox_24 : decode cX2_takeBox 24 = .ok (.aload_n 0, 1) := by decide +kernel
theorem dX2_takeBox_25 : decode cX2_takeBox 25 = .ok (.aload_n 1, 1) := by decide +kernel
theorem dX2_takeBox_26 : decode cX2_takeBox 26 = .ok (.getfield 21, 3) := by decide +kernel
theorem dX2_takeBox_29 : decode cX2_takeBox 29 = .ok (.putfield 21, 3) := by decide +kernel
theorem dX2_takeBox_32 : decode cX2_takeBox 32 = .ok (.return_, 1) := by decide +kernel
theorem dX2_takeColor_0 : decode cX2_takeColor 0 = .ok (.aload_n 0, 1) := by decide +kernel
theorem dX2_takeColor_1 : decode cX2_takeColor 1 = .ok (.aload_n 1, 1) := by decide +kernel
theorem dX2_takeColor_2 : decode cX2_takeColor 2 = .ok (.getfield 30, 3) := by decide +kernel
theorem dX2_takeColor_5 : decode cX2_takeColor 5 = .ok (.putfield 30, 3) := by decide +kernel
theorem dX2_takeColor_8 : decode cX2_takeColor 8 = .ok (.aload_n 0, 1) := by decide +kernel
theorem dX2_takeColor_9 : decode cX2_takeColor 9 = .ok (.aload_n 1, 1) := by decide +kernel
theorem dX2_takeColor_10 : decode cX2_takeColor 10 = .ok (.getfield 33, 3) := by decide +kernel
theorem dX2_takeColor_13 : decode cX2_takeColor 13 = .ok (.putfield 33, 3) := by decide +kernel
theorem dX2_takeColor_16 : decode cX2_takeColor 16 = .ok (.aload_n 0, 1) := by decide +kernel
theorem dX2_takeColor_17 : decode cX2_takeColor 17 = .ok (.aload_n 1, 1) := by decide +kernel
theorem dX2_takeColor_18 : decode cX2_takeColor 18 = .ok (.getfield 36, 3) := by decide +kernel
theorem dX2_takeColor_21 : decode cX2_takeColor 21 = .ok (.putfield 36, 3) := by decide +kernel
theorem dX2_takeColor_24 : decode cX2_takeColor 24 = .ok (.return_, 1) := by decide +kernel
theorem dX2_copyFrom_0 : decode cX2_copyFrom 0 = .ok (.aload_n 0, 1) := by decide +kernel
theorem dX2_copyFrom_1 : decode cX2_copyFrom 1 = .ok (.aload_n 1, 1) := by decide +kernel
theorem dX2_copyFrom_2 : decode cX2_copyFrom 2 = .ok (.getfield 9, 3) := by decide +kernel
theorem dX2_copyFrom_5 : decode cX2_copyFrom 5 = .ok (.putfield 9, 3) := by decide +kernel
theorem dX2_copyFrom_8 : decode cX2_copyFrom 8 = .ok (.aload_n 0, 1) := by decide +kernel
theorem dX2_copyFrom_9 : decode cX2_copyFrom 9 = .ok (.aload_n 1, 1) := by decide +kernel
theorem dX2_copyFrom_10 : decode cX2_copyFrom 10 = .ok (.getfield 15, 3) := by decide +kernel
theorem dX2_copyFrom_13 : decode cX2_copyFrom 13 = .ok (.putfield 15, 3) := by decide +kernel
theorem dX2_copyFrom_16 : decode cX2_copyFrom 16 = .ok (.aload_n 0, 1) := by decide +kernel
theorem dX2_copyFrom_17 : decode cX2_copyFrom 17 = .ok (.aload_n 1, 1) := by decide +kernel
theorem dX2_copyFrom_18 : decode cX2_copyFrom 18 = .ok (.getfield 39, 3) := by decide +kernel
theorem dX2_copyFrom_21 : decode cX2_copyFrom 21 = .ok (.putfield 39, 3) := by decide +kernel
theorem dX2_copyFrom_24 : decode cX2_copyFrom 24 = .ok (.aload_n 0, 1) := by decide +kernel
theorem dX2_copyFrom_25 : decode cX2_copyFrom 25 = .ok (.aload_n 1, 1) := by decide +kernel
theorem dX2_copyFrom_26 : decode cX2_copyFrom 26 = .ok (.getfield 42, 3) := by decide +kernel
theorem dX2_copyFrom_29 : decode cX2_copyFrom 29 = .ok (.putfield 42, 3) := by decide +kernel
theorem dX2_copyFrom_32 : decode cX2_copyFrom 32 = .ok (.aload_n 0, 1) := by decide +kernel
theorem dX2_copyFrom_33 : decode cX2_copyFrom 33 = .ok (.aload_n 1, 1) := by decide +kernel
theorem dX2_copyFrom_34 : decode cX2_copyFrom 34 = .ok (.getfield 45, 3) := by decide +kernel
theorem dX2_copyFrom_37 : decode cX2_copyFrom 37 = .ok (.putfield 45, 3) := by decide +kernel
theorem dX2_copyFrom_40 : decode cX2_copyFrom 40 = .ok (.aload_n 0, 1) := by decide +kernel
theorem dX2_copyFrom_41 : decode cX2_copyFrom 41 = .ok (.aload_n 1, 1) := by decide +kernel
theorem dX2_copyFrom_42 : decode cX2_copyFrom 42 = .ok (.getfield 48, 3) := by decide +kernel
theorem dX2_copyFrom_45 : decode cX2_copyFrom 45 = .ok (.putfield 48, 3) := by decide +kernel
theorem dX2_copyFrom_48 : decode cX2_copyFrom 48 = .ok (.aload_n 0, 1) := by decide +kernel
theorem dX2_copyFrom_49 : decode cX2_copyFrom 49 = .ok (.aload_n 1, 1) := by decide +kernel
theorem dX2_copyFrom_50 : decode cX2_copyFrom 50 = .ok (.getfield 51, 3) := by decide +kernel
theorem dX2_copyFrom_53 : decode cX2_copyFrom 53 = .ok (.putfield 51, 3) := by decide +kernel
theorem dX2_copyFrom_56 : decode cX2_copyFrom 56 = .ok (.aload_n 0, 1) := by decide +kernel
theorem dX2_copyFrom_57 : decode cX2_copyFrom 57 = .ok (.aload_n 1, 1) := by decide +kernel
theorem dX2_copyFrom_58 : decode cX2_copyFrom 58 = .ok (.getfield 54, 3) := by decide +kernel
theorem dX2_copyFrom_61 : decode cX2_copyFrom 61 = .ok (.putfield 54, 3) := by decide +kernel
theorem dX2_copyFrom_64 : decode cX2_copyFrom 64 = .ok (.aload_n 0, 1) := by decide +kernel
theorem dX2_copyFrom_65 : decode cX2_copyFrom 65 = .ok (.aload_n 1, 1) := by decide +kernel
theorem dX2_copyFrom_66 : decode cX2_copyFrom 66 = .ok (.getfield 57, 3) := by decide +kernel
theorem dX2_copyFrom_69 : decode cX2_copyFrom 69 = .ok (.putfield 57, 3) := by decide +kernel
theorem dX2_copyFrom_72 : decode cX2_copyFrom 72 = .ok (.aload_n 0, 1) := by decide +kernel
theorem dX2_copyFrom_73 : decode cX2_copyFrom 73 = .ok (.aload_n 1, 1) := by decide +kernel
theorem dX2_copyFrom_74 : decode cX2_copyFrom 74 = .ok (.invokevirtual 60, 3) := by decide +kernel
theorem dX2_copyFrom_77 : decode cX2_copyFrom 77 = .ok (.aload_n 0, 1) := by decide +kernel
theorem dX2_copyFrom_78 : decode cX2_copyFrom 78 = .ok (.aload_n 1, 1) := by decide +kernel
theorem dX2_copyFrom_79 : decode cX2_copyFrom 79 = .ok (.invokevirtual 64, 3) := by decide +kernel
theorem dX2_copyFrom_82 : decode cX2_copyFrom 82 = .ok (.aload_n 0, 1) := by decide +kernel
theorem dX2_copyFrom_83 : decode cX2_copyFrom 83 = .ok (.aload_n 1, 1) := by decide +kernel
theorem dX2_copyFrom_84 : decode cX2_copyFrom 84 = .ok (.getfield 67, 3) := by decide +kernel
theorem dX2_copyFrom_87 : decode cX2_copyFrom 87 = .ok (.putfield 67, 3) := by decide +kernel
theorem dX2_copyFrom_90 : decode cX2_copyFrom 90 = .ok (.aload_n 0, 1) := by decide +kernel
theorem dX2_copyFrom_91 : decode cX2_copyFrom 91 = .ok (.aload_n 1, 1) := by decide +kernel
theorem dX2_copyFrom_92 : decode cX2_copyFrom 92 = .ok (.getfield 70, 3) := by decide +kernel
theorem dX2_copyFrom_95 : decode cX2_copyFrom 95 = .ok (.putfield 70, 3) := by decide +kernel
theorem dX2_copyFrom_98 : decode cX2_copyFrom 98 = .ok (.return_, 1) := by decide +kernel
theorem dX2_settleBelow_0 : decode cX2_settleBelow 0 = .ok (.aload_n 0, 1) := by decide +kernel
theorem dX2_settleBelow_1 : decode cX2_settleBelow 1 = .ok (.aload_n 1, 1) := by decide +kernel
theorem dX2_settleBelow_2 : decode cX2_settleBelow 2 = .ok (.getfield 39, 3) := by decide +kernel
theorem dX2_settleBelow_5 : decode cX2_settleBelow 5 = .ok (.iconst 1, 1) := by decide +kernel
theorem dX2_settleBelow_6 : decode cX2_settleBelow 6 = .ok (.iadd, 1) := by decide +kernel
theorem dX2_settleBelow_7 : decode cX2_settleBelow 7 = .ok (.putfield 39, 3) := by decide +kernel
theorem dX2_settleBelow_10 : decode cX2_settleBelow 10 = .ok (.aload_n 0, 1) := by decide +kernel
theorem dX2_settleBelow_11 : decode cX2_settleBelow 11 = .ok (.aload_n 1, 1) := by decide +kernel
theorem dX2_settleBelow_12 : decode cX2_settleBelow 12 = .ok (.getfield 51, 3) := by decide +kernel
theorem dX2_settleBelow_15 : decode cX2_settleBelow 15 = .ok (.aload_n 0, 1) := by decide +kernel
theorem dX2_settleBelow_16 : decode cX2_settleBelow 16 = .ok (.getfield 42, 3) := by decide +kernel
theorem dX2_settleBelow_19 : decode cX2_settleBelow 19 = .ok (.imul, 1) := by decide +kernel
theorem dX2_settleBelow_20 : decode cX2_settleBelow 20 = .ok (.bipush 100, 2) := by decide +kernel
theorem dX2_settleBelow_22 : decode cX2_settleBelow 22 = .ok (.idiv, 1) := by decide +kernel
theorem dX2_settleBelow_23 : decode cX2_settleBelow 23 = .ok (.putfield 51, 3) := by decide +kernel
theorem dX2_settleBelow_26 : decode cX2_settleBelow 26 = .ok (.aload_n 0, 1) := by decide +kernel
theorem dX2_settleBelow_27 : decode cX2_settleBelow 27 = .ok (.aload_n 1, 1) := by decide +kernel
theorem dX2_settleBelow_28 : decode cX2_settleBelow 28 = .ok (.getfield 54, 3) := by decide +kernel
theorem dX2_settleBelow_31 : decode cX2_settleBelow 31 = .ok (.aload_n 0, 1) := by decide +kernel
theorem dX2_settleBelow_32 : decode cX2_settleBelow 32 = .ok (.getfield 45, 3) := by decide +kernel
theorem dX2_settleBelow_35 : decode cX2_settleBelow 35 = .ok (.iadd, 1) := by decide +kernel
theorem dX2_settleBelow_36 : decode cX2_settleBelow 36 = .ok (.putfield 54, 3) := by decide +kernel
theorem dX2_settleBelow_39 : decode cX2_settleBelow 39 = .ok (.aload_n 0, 1) := by decide +kernel
theorem dX2_settleBelow_40 : decode cX2_settleBelow 40 = .ok (.aload_n 1, 1) := by decide +kernel
theorem dX2_settleBelow_41 : decode cX2_settleBelow 41 = .ok (.getfield 57, 3) := by decide +kernel
theorem dX2_settleBelow_44 : decode cX2_settleBelow 44 = .ok (.aload_n 0, 1) := by decide +kernel
theorem dX2_settleBelow_45 : decode cX2_settleBelow 45 = .ok (.getfield 48, 3) := by decide +kernel
theorem dX2_settleBelow_48 : decode cX2_settleBelow 48 = .ok (.iadd, 1) := by decide +kernel
theorem dX2_settleBelow_49 : decode cX2_settleBelow 49 = .ok (.putfield 57, 3) := by decide +kernel
theorem dX2_settleBelow_52 : decode cX2_settleBelow 52 = .ok (.return_, 1) := by decide +kernel
theorem dX2_contains_0 : decode cX2_contains 0 = .ok (.aload_n 0, 1) := by decide +kernel
theorem dX2_contains_1 : decode cX2_contains 1 = .ok (.getfield 9, 3) := by decide +kernel
theorem dX2_contains_4 : decode cX2_contains 4 = .ok (.ifCond .eq 51, 3) := by decide +kernel
theorem dX2_contains_7 : decode cX2_contains 7 = .ok (.iload_n 1, 1) := by decide +kernel
theorem dX2_contains_8 : decode cX2_contains 8 = .ok (.aload_n 0, 1) := by decide +kernel
theorem dX2_contains_9 : decode cX2_contains 9 = .ok (.getfield 24, 3) := by decide +kernel
theorem dX2_contains_12 : decode cX2_contains 12 = .ok (.aload_n 0, 1) := by decide +kernel
theorem dX2_contains_13 : decode cX2_contains 13 = .ok (.getfield 24, 3) := by decide +kernel
theorem dX2_contains_16 : decode cX2_contains 16 = .ok (.aload_n 0, 1) := by decide +kernel
theorem dX2_contains_17 : decode cX2_contains 17 = .ok (.getfield 18, 3) := by decide +kernel
theorem dX2_contains_20 : decode cX2_contains 20 = .ok (.iadd, 1) := by decide +kernel
theorem dX2_contains_21 : decode cX2_contains 21 = .ok (.iconst 1, 1) := by decide +kernel
theorem dX2_contains_22 : decode cX2_contains 22 = .ok (.isub, 1) := by decide +kernel
theorem dX2_contains_23 : decode cX2_contains 23 = .ok (.invokestatic 73, 3) := by decide +kernel
theorem dX2_contains_26 : decode cX2_contains 26 = .ok (.ifCond .eq 29, 3) := by decide +kernel
theorem dX2_contains_29 : decode cX2_contains 29 = .ok (.iload_n 2, 1) := by decide +kernel
theorem dX2_contains_30 : decode cX2_contains 30 = .ok (.aload_n 0, 1) := by decide +kernel
theorem dX2_contains_31 : decode cX2_contains 31 = .ok (.getfield 27, 3) := by decide +kernel
theorem dX2_contains_34 : decode cX2_contains 34 = .ok (.aload_n 0, 1) := by decide +kernel
theorem dX2_contains_35 : decode cX2_contains 35 = .ok (.getfield 27, 3) := by decide +kernel
theorem dX2_contains_38 : decode cX2_contains 38 = .ok (.aload_n 0, 1) := by decide +kernel
theorem dX2_contains_39 : decode cX2_contains 39 = .ok (.getfield 21, 3) := by decide +kernel
theorem dX2_contains_42 : decode cX2_contains 42 = .ok (.iadd, 1) := by decide +kernel
theorem dX2_contains_43 : decode cX2_contains 43 = .ok (.iconst 1, 1) := by decide +kernel
theorem dX2_contains_44 : decode cX2_contains 44 = .ok (.isub, 1) := by decide +kernel
theorem dX2_contains_45 : decode cX2_contains 45 = .ok (.invokestatic 73, 3) := by decide +kernel
theorem dX2_contains_48 : decode cX2_contains 48 = .ok (.ifCond .eq 7, 3) := by decide +kernel
theorem dX2_contains_51 : decode cX2_contains 51 = .ok (.iconst 1, 1) := by decide +kernel
theorem dX2_contains_52 : decode cX2_contains 52 = .ok (.goto 4, 3) := by decide +kernel
theorem dX2_contains_55 : decode cX2_contains 55 = .ok (.iconst 0, 1) := by decide +kernel
theorem dX2_contains_56 : decode cX2_contains 56 = .ok (.ireturn, 1) := by decide +kernel
theorem dX3_init_0 : decode cX3_init 0 = .ok (.aload_n 0, 1) := by decide +kernel
theorem dX3_init_1 : decode cX3_init 1 = .ok (.invokespecial 3, 3) := by decide +kernel
theorem dX3_init_4 : decode cX3_init 4 = .ok (.aload_n 0, 1) := by decide +kernel
theorem dX3_init_5 : decode cX3_init 5 = .ok (.bipush 6, 2) := by decide +kernel
theorem dX3_init_7 : decode cX3_init 7 = .ok (.newarray .int, 2) := by decide +kernel
theorem dX3_init_9 : decode cX3_init 9 = .ok (.putfield 9, 3) := by decide +kernel
theorem dX3_init_12 : decode cX3_init 12 = .ok (.aload_n 0, 1) := by decide +kernel
theorem dX3_init_13 : decode cX3_init 13 = .ok (.bipush 7, 2) := by decide +kernel
theorem dX3_init_15 : decode cX3_init 15 = .ok (.newarray .int, 2) := by decide +kernel
theorem dX3_init_17 : decode cX3_init 17 = .ok (.putfield 15, 3) := by decide +kernel
theorem dX3_init_20 : decode cX3_init 20 = .ok (.aload_n 0, 1) := by decide +kernel
theorem dX3_init_21 : decode cX3_init 21 = .ok (.bipush 7, 2) := by decide +kernel
theorem dX3_init_23 : decode cX3_init 23 = .ok (.newarray .int, 2) := by decide +kernel
theorem dX3_init_25 : decode cX3_init 25 = .ok (.putfield 18, 3) := by decide +kernel
theorem dX3_init_28 : decode cX3_init 28 = .ok (.return_, 1) := by decide +kernel
theorem dX3_clear_0 : decode cX3_clear 0 = .ok (.iconst 0, 1) := by decide +kernel
theorem dX3_clear_1 : decode cX3_clear 1 = .ok (.istore_n 1, 1) := by decide +kernel
theorem dX3_clear_2 : decode cX3_clear 2 = .ok (.iload_n 1, 1) := by decide +kernel
theorem dX3_clear_3 : decode cX3_clear 3 = .ok (.bipush 6, 2) := by decide +kernel
theorem dX3_clear_5 : decode cX3_clear 5 = .ok (.if_icmp .ge 27, 3) := by decide +kernel
theorem dX3_clear_8 : decode cX3_clear 8 = .ok (.aload_n 0, 1) := by decide +kernel
theorem dX3_clear_9 : decode cX3_clear 9 = .ok (.getfield 9, 3) := by decide +kernel
theorem dX3_clear_12 : decode cX3_clear 12 = .ok (.iload_n 1, 1) := by decide +kernel
theorem dX3_clear_13 : decode cX3_clear 13 = .ok (.iload_n 1, 1) := by decide +kernel
theorem dX3_clear_14 : decode cX3_clear 14 = .ok (.iconst 3, 1) := by decide +kernel
theorem dX3_clear_15 : decode cX3_clear 15 = .ok (.if_icmp .ge 9, 3) := by decide +kernel
theorem dX3_clear_18 : decode cX3_clear 18 = .ok (.sipush 255, 3) := by decide +kernel
theorem dX3_clear_21 : decode cX3_clear 21 = .ok (.goto 4, 3) := by decide +kernel
theorem dX3_clear_24 : decode cX3_clear 24 = .ok (.iconst 0, 1) := by decide +kernel
theorem dX3_clear_25 : decode cX3_clear 25 = .ok (.iastore, 1) := by decide +kernel
theorem dX3_clear_26 : decode cX3_clear 26 = .ok (.iinc 1 1, 3) := by decide +kernel
theorem dX3_clear_29 : decode cX3_clear 29 = .ok (.goto (-27), 3) := by decide +kernel
theorem dX3_clear_32 : decode cX3_clear 32 = .ok (.return_, 1) := by decide +kernel
theorem dX3_render_0 : decode cX3_render 0 = .ok (.aload_n 0, 1) := by decide +kernel
theorem dX3_render_1 : decode cX3_render 1 = .ok (.invokevirtual 21, 3) := by decide +kernel
theorem dX3_render_4 : decode cX3_render 4 = .ok (.iconst 1, 1) := by decide +kernel
theorem dX3_render_5 : decode cX3_render 5 = .ok (.istore 4, 2) := by decide +kernel
theorem dX3_render_7 : decode cX3_render 7 = .ok (.iload 4, 2) := by decide +kernel
theorem dX3_render_9 : decode cX3_render 9 = .ok (.aload_n 1, 1) := by decide +kernel
theorem dX3_render_10 : decode cX3_render 10 = .ok (.getfield 24, 3) := by decide +kernel
theorem dX3_render_13 : decode cX3_render 13 = .ok (.getfield 30, 3) := by decide +kernel
theorem dX3_render_16 : decode cX3_render 16 = .ok (.if_icmp .ge 76, 3) := by decide +kernel
theorem dX3_render_19 : decode cX3_render 19 = .ok (.aload_n 1, 1) := by decide +kernel
theorem dX3_render_20 : decode cX3_render 20 = .ok (.getfield 24, 3) := by decide +kernel
theorem dX3_render_23 : decode cX3_render 23 = .ok (.aload_n 1, 1) := by decide +kernel
theorem dX3_render_24 : decode cX3_render 24 = .ok (.getfield 24, 3) := by decide +kernel
theorem dX3_render_27 : decode cX3_render 27 = .ok (.getfield 36, 3) := by decide +kernel
theorem dX3_render_30 : decode cX3_render 30 = .ok (.iload 4, 2) := by decide +kernel
theorem dX3_render_32 : decode cX3_render 32 = .ok (.iaload, 1) := by decide +kernel
theorem dX3_render_33 : decode cX3_render 33 = .ok (.invokevirtual 39, 3) := by decide +kernel
theorem dX3_render_36 : decode cX3_render 36 = .ok (.astore 5, 2) := by decide +kernel
theorem dX3_render_38 : decode cX3_render 38 = .ok (.aload_n 1, 1) := by decide +kernel
theorem dX3_render_39 : decode cX3_render 39 = .ok (.getfield 24, 3) := by decide +kernel
theorem dX3_render_42 : decode cX3_render 42 = .ok (.aload 5, 2) := by decide +kernel
theorem dX3_render_44 : decode cX3_render 44 = .ok (.getfield 43, 3) := by decide +kernel
theorem dX3_render_47 : decode cX3_render 47 = .ok (.invokevirtual 39, 3) := by decide +kernel
theorem dX3_render_50 : decode cX3_render 50 = .ok (.astore 6, 2) := by decide +kernel
theorem dX3_render_52 : decode cX3_render 52 = .ok (.aload 5, 2) := by decide +kernel
theorem dX3_render_54 : decode cX3_render 54 = .ok (.iload_n 2, 1) := by decide +kernel
theorem dX3_render_55 : decode cX3_render 55 = .ok (.aload 6, 2) := by decide +kernel
theorem dX3_render_57 : decode cX3_render 57 = .ok (.getfield 48, 3) := by decide +kernel
theorem dX3_render_60 : decode cX3_render 60 = .ok (.isub, 1) := by decide +kernel
theorem dX3_render_61 : decode cX3_render 61 = .ok (.iload_n 3, 1) := by decide +kernel
theorem dX3_render_62 : decode cX3_render 62 = .ok (.aload 6, 2) := by decide +kernel
theorem dX3_render_64 : decode cX3_render 64 = .ok (.getfield 51, 3) := by decide +kernel
theorem dX3_render_67 : decode cX3_render 67 = .ok (.isub, 1) := by decide +kernel
theorem dX3_render_68 : decode cX3_render 68 = .ok (.invokevirtual 54, 3) := by decide +kernel
theorem dX3_render_71 : decode cX3_render 71 = .ok (.ifCond .eq 15, 3) := by decide +kernel
theorem dX3_render_74 : decode cX3_render 74 = .ok (.aload_n 0, 1) := by decide +kernel
theorem dX3_render_75 : decode cX3_render 75 = .ok (.aload 5, 2) := by decide +kernel
theorem dX3_render_77 : decode cX3_render 77 = .ok (.aload_n 1, 1) := by decide +kernel
theorem dX3_render_78 : decode cX3_render 78 = .ok (.aload 6, 2) := by decide +kernel
theorem dX3_render_80 : decode cX3_render 80 = .ok (.getfield 58, 3) := by decide +kernel
theorem dX3_render_83 : decode cX3_render 83 = .ok (.invokevirtual 61, 3) := by decide +kernel
theorem dX3_render_86 : decode cX3_render 86 = .ok (.iinc 4 1, 3) := by decide +kernel
theorem dX3_render_89 : decode cX3_render 89 = .ok (.goto (-82), 3) := by decide +kernel
theorem dX3_render_92 : decode cX3_render 92 = .ok (.return_, 1) := by decide +kernel
theorem dX3_paint_0 : decode cX3_paint 0 = .ok (.aload_n 1, 1) := by decide +kernel
theorem dX3_paint_1 : decode cX3_paint 1 = .ok (.getfield 65, 3) := by decide +kernel
theorem dX3_paint_4 : decode cX3_paint 4 = .ok (.iconst 1, 1) := by decide +kernel
theorem dX3_paint_5 : decode cX3_paint 5 = .ok (.if_icmp .ne 29, 3) := by decide +kernel
theorem dX3_paint_8 : decode cX3_paint 8 = .ok (.aload_n 0, 1) := by decide +kernel
theorem dX3_paint_9 : decode cX3_paint 9 = .ok (.aload_n 1, 1) := by decide +kernel
theorem dX3_paint_10 : decode cX3_paint 10 = .ok (.getfield 68, 3) := by decide +kernel
theorem dX3_paint_13 : decode cX3_paint 13 = .ok (.aload_n 1, 1) := by decide +kernel
theorem dX3_paint_14 : decode cX3_paint 14 = .ok (.getfield 71, 3) := by decide +kernel
theorem dX3_paint_17 : decode cX3_paint 17 = .ok (.aload_n 1, 1) := by decide +kernel
theorem dX3_paint_18 : decode cX3_paint 18 = .ok (.getfield 74, 3) := by decide +kernel
theorem dX3_paint_21 : decode cX3_paint 21 = .ok (.iload_n 3, 1) := by decide +kernel
theorem dX3_paint_22 : decode cX3_paint 22 = .ok (.invokevirtual 77, 3) := by decide +kernel
theorem dX3_paint_25 : decode cX3_paint 25 = .ok (.aload_n 0, 1) := by decide +kernel
theorem dX3_paint_26 : decode cX3_paint 26 = .ok (.iconst (-1), 1) := by decide +kernel
theorem dX3_paint_27 : decode cX3_paint 27 = .ok (.iload_n 3, 1) := by decide +kernel
theorem dX3_paint_28 : decode cX3_paint 28 = .ok (.invokevirtual 81, 3) := by decide +kernel
theorem dX3_paint_31 : decode cX3_paint 31 = .ok (.goto 66, 3) := by decide +kernel
theorem dX3_paint_34 : decode cX3_paint 34 = .ok (.aload_n 1, 1) := by decide +kernel
theorem dX3_paint_35 : decode cX3_paint 35 = .ok (.getfield 85, 3) := by decide +kernel
theorem dX3_paint_38 : decode cX3_paint 38 = .ok (.iconst 0, 1) := by decide +kernel
theorem dX3_paint_39 : decode cX3_paint 39 = .ok (.iconst 2, 1) := by decide +kernel
theorem dX3_paint_40 : decode cX3_paint 40 = .ok (.invokestatic 88, 3) := by decide +kernel
theorem dX3_paint_43 : decode cX3_paint 43 = .ok (.ifCond .eq 54, 3) := by decide +kernel
theorem dX3_paint_46 : decode cX3_paint 46 = .ok (.aload_n 0, 1) := by decide +kernel
theorem dX3_paint_47 : decode cX3_paint 47 = .ok (.iconst 3, 1) := by decide +kernel
theorem dX3_paint_48 : decode cX3_paint 48 = .ok (.aload_n 1, 1) := by decide +kernel
theorem dX3_paint_49 : decode cX3_paint 49 = .ok (.getfield 85, 3) := by decide +kernel
theorem dX3_paint_52 : decode cX3_paint 52 = .ok (.iadd, 1) := by decide +kernel
theorem dX3_paint_53 : decode cX3_paint 53 = .ok (.aload_n 1, 1) := by decide +kernel
theorem dX3_paint_54 : decode cX3_paint 54 = .ok (.getfield 92, 3) := by decide +kernel
theorem dX3_paint_57 : decode cX3_paint 57 = .ok (.iload_n 3, 1) := by decide +kernel
theorem dX3_paint_58 : decode cX3_paint 58 = .ok (.invokevirtual 95, 3) := by decide +kernel
theorem dX3_paint_61 : decode cX3_paint 61 = .ok (.aload_n 2, 1) := by decide +kernel
theorem dX3_paint_62 : decode cX3_paint 62 = .ok (.getfield 99, 3) := by decide +kernel
theorem dX3_paint_65 : decode cX3_paint 65 = .ok (.aload_n 1, 1) := by decide +kernel
theorem dX3_paint_66 : decode cX3_paint 66 = .ok (.getfield 85, 3) := by decide +kernel
theorem dX3_paint_69 : decode cX3_paint 69 = .ok (.iaload, 1) := by decide +kernel
theorem dX3_paint_70 : decode cX3_paint 70 = .ok (.iconst 1, 1) := by decide +kernel
theorem dX3_paint_71 : decode cX3_paint 71 = .ok (.if_icmp .ne 26, 3) := by decide +kernel
theorem dX3_paint_74 : decode cX3_paint 74 = .ok (.aload_n 0, 1) := by decide +kernel
theorem dX3_paint_75 : decode cX3_paint 75 = .ok (.sipush 255, 3) := by decide +kernel
theorem dX3_paint_78 : decode cX3_paint 78 = .ok (.sipush 255, 3) := by decide +kernel
theorem dX3_paint_81 : decode cX3_paint 81 = .ok (.sipush 255, 3) := by decide +kernel
theorem dX3_paint_84 : decode cX3_paint 84 = .ok (.iload_n 3, 1) := by decide +kernel
theorem dX3_paint_85 : decode cX3_paint 85 = .ok (.invokevirtual 77, 3) := by decide +kernel
theorem dX3_paint_88 : decode cX3_paint 88 = .ok (.aload_n 0, 1) := by decide +kernel
theorem dX3_paint_89 : decode cX3_paint 89 = .ok (.aload_n 1, 1) := by decide +kernel
theorem dX3_paint_90 : decode cX3_paint 90 = .ok (.getfield 85, 3) := by decide +kernel
theorem dX3_paint_93 : decode cX3_paint 93 = .ok (.iload_n 3, 1) := by decide +kernel
theorem dX3_paint_94 : decode cX3_paint 94 = .ok (.invokevirtual 81, 3) := by decide +kernel
theorem dX3_paint_97 : decode cX3_paint 97 = .ok (.return_, 1) := by decide +kernel
theorem dX3_pullColors_0 : decode cX3_pullColors 0 = .ok (.aload_n 0, 1) := by decide +kernel
theorem dX3_pullColors_1 : decode cX3_pullColors 1 = .ok (.iconst 0, 1) := by decide +kernel
theorem dX3_pullColors_2 : decode cX3_pullColors 2 = .ok (.iload_n 1, 1) := by decide +kernel
theorem dX3_pullColors_3 : decode cX3_pullColors 3 = .ok (.iload 4, 2) := by decide +kernel
theorem dX3_pullColors_5 : decode cX3_pullColors 5 = .ok (.invokevirtual 95, 3) := by decide +kernel
theorem dX3_pullColors_8 : decode cX3_pullColors 8 = .ok (.aload_n 0, 1) := by decide +kernel
theorem dX3_pullColors_9 : decode cX3_pullColors 9 = .ok (.iconst 1, 1) := by decide +kernel
theorem dX3_pullColors_10 : decode cX3_pullColors 10 = .ok (.iload_n 2, 1) := by decide +kernel
theorem dX3_pullColors_11 : decode cX3_pullColors 11 = .ok (.iload 4, 2) := by decide +kernel
theorem dX3_pullColors_13 : decode cX3_pullColors 13 = .ok (.invokevirtual 95, 3) := by decide +kernel
theorem dX3_pullColors_16 : decode cX3_pullColors 16 = .ok (.aload_n 0, 1) := by decide +kernel
theorem dX3_pullColors_17 : decode cX3_pullColors 17 = .ok (.iconst 2, 1) := by decide +kernel
theorem dX3_pullColors_18 : decode cX3_pullColors 18 = .ok (.iload_n 3, 1) := by decide +kernel
theorem dX3_pullColors_19 : decode cX3_pullColors 19 = .ok (.iload 4, 2) := by decide +kernel
theorem dX3_pullColors_21 : decode cX3_pullColors 21 = .ok (.invokevirtual 95, 3) := by decide +kernel
theorem dX3_pullColors_24 : decode cX3_pullColors 24 = .ok (.return_, 1) := by decide +kernel
theorem dX3_pullTints_0 : decode cX3_pullTints 0 = .ok (.iconst 0, 1) := by decide +kernel
theorem dX3_pullTints_1 : decode cX3_pullTints 1 = .ok (.istore_n 3, 1) := by decide +kernel
theorem dX3_pullTints_2 : decode cX3_pullTints 2 = .ok (.iload_n 3, 1) := by decide +kernel
theorem dX3_pullTints_3 : decode cX3_pullTints 3 = .ok (.iconst 3, 1) := by decide +kernel
theorem dX3_pullTints_4 : decode cX3_pullTints 4 = .ok (.if_icmp .ge 23, 3) := by decide +kernel
theorem dX3_pullTints_7 : decode cX3_pullTints 7 = .ok (.iload_n 3, 1) := by decide +kernel
theorem dX3_pullTints_8 : decode cX3_pullTints 8 = .ok (.iload_n 1, 1) := by decide +kernel
theorem dX3_pullTints_9 : decode cX3_pullTints 9 = .ok (.if_icmp .eq 12, 3) := by decide +kernel
theorem dX3_pullTints_12 : decode cX3_pullTints 12 = .ok (.aload_n 0, 1) := by decide +kernel
theorem dX3_pullTints_13 : decode cX3_pullTints 13 = .ok (.iconst 3, 1) := by decide +kernel
theorem dX3_pullTints_14 : decode cX3_pullTints 14 = .ok (.iload_n 3, 1) := by decide +kernel
theorem dX3_pullTints_15 : decode cX3_pullTints 15 = .ok (.iadd, 1) := by decide +kernel
theorem dX3_pullTints_16 : decode cX3_pullTints 16 = .ok (.iconst 0, 1) := by decide +kernel
theorem dX3_pullTints_17 : decode cX3_pullTints 17 = .ok (.iload_n 2, 1) := by decide +kernel
theorem dX3_pullTints_18 : decode cX3_pullTints 18 = .ok (.invokevirtual 95, 3) := by decide +kernel
theorem dX3_pullTints_21 : decode cX3_pullTints 21 = .ok (.iinc 3 1, 3) := by decide +kernel
theorem dX3_pullTints_24 : decode cX3_pullTints 24 = .ok (.goto (-22), 3) := by decide +kernel
theorem dX3_pullTints_27 : decode cX3_pullTints 27 = .ok (.return_, 1) := by decide +kernel
theorem dX3_pull_0 : decode cX3_pull 0 = .ok (.aload_n 0, 1) := by decide +kernel
theorem dX3_pull_1 : decode cX3_pull 1 = .ok (.getfield 9, 3) := by decide +kernel
theorem dX3_pull_4 : decode cX3_pull 4 = .ok (.iload_n 1, 1) := by decide +kernel
theorem dX3_pull_5 : decode cX3_pull 5 = .ok (.iaload, 1) := by decide +kernel
theorem dX3_pull_6 : decode cX3_pull 6 = .ok (.istore 4, 2) := by decide +kernel
theorem dX3_pull_8 : decode cX3_pull 8 = .ok (.aload_n 0, 1) := by decide +kernel
theorem dX3_pull_9 : decode cX3_pull 9 = .ok (.getfield 9, 3) := by decide +kernel
theorem dX3_pull_12 : decode cX3_pull 12 = .ok (.iload_n 1, 1) := by decide +kernel
theorem dX3_pull_13 : decode cX3_pull 13 = .ok (.iload 4, 2) := by decide +kernel
theorem dX3_pull_15 : decode cX3_pull 15 = .ok (.iload_n 2, 1) := by decide +kernel
theorem dX3_pull_16 : decode cX3_pull 16 = .ok (.iload 4, 2) := by decide +kernel
theorem dX3_pull_18 : decode cX3_pull 18 = .ok (.isub, 1) := by decide +kernel
theorem dX3_pull_19 : decode cX3_pull 19 = .ok (.iload_n 3, 1) := by decide +kernel
theorem dX3_pull_20 : decode cX3_pull 20 = .ok (.imul, 1) := by decide +kernel
theorem dX3_pull_21 : decode cX3_pull 21 = .ok (.bipush 100, 2) := by decide +kernel
theorem dX3_pull_23 : decode cX3_pull 23 = .ok (.invokestatic 102, 3) := by decide +kernel
theorem dX3_pull_26 : decode cX3_pull 26 = .ok (.iadd, 1) := by decide +kernel
theorem dX3_pull_27 : decode cX3_pull 27 = .ok (.iastore, 1) := by decide +kernel
theorem dX3_pull_28 : decode cX3_pull 28 = .ok (.return_, 1) := by decide +kernel
theorem dX3_separate_0 : decode cX3_separate 0 = .ok (.sipush 255, 3) := by decide +kernel
theorem dX3_separate_3 : decode cX3_separate 3 = .ok (.aload_n 0, 1) := by decide +kernel
theorem dX3_separate_4 : decode cX3_separate 4 = .ok (.getfield 9, 3) := by decide +kernel
theorem dX3_separate_7 : decode cX3_separate 7 = .ok (.iconst 0, 1) := by decide +kernel
theorem dX3_separate_8 : decode cX3_separate 8 = .ok (.iaload, 1) := by decide +kernel
theorem dX3_separate_9 : decode cX3_separate 9 = .ok (.aload_n 0, 1) := by decide +kernel
theorem dX3_separate_10 : decode cX3_separate 10 = .ok (.getfield 9, 3) := by decide +kernel
theorem dX3_separate_13 : decode cX3_separate 13 = .ok (.iconst 1, 1) := by decide +kernel
theorem dX3_separate_14 : decode cX3_separate 14 = .ok (.iaload, 1) := by decide +kernel
theorem dX3_separate_15 : decode cX3_separate 15 = .ok (.aload_n 0, 1) := by decide +kernel
theorem dX3_separate_16 : decode cX3_separate 16 = .ok (.getfield 9, 3) := by decide +kernel
theorem dX3_separate_19 : decode cX3_separate 19 = .ok (.iconst 2, 1) := by decide +kernel
theorem dX3_separate_20 : decode cX3_separate 20 = .ok (.iaload, 1) := by decide +kernel
theorem dX3_separate_21 : decode cX3_separate 21 = .ok (.invokestatic 108, 3) := by decide +kernel
theorem dX3_separate_24 : decode cX3_separate 24 = .ok (.invokestatic 108, 3) := by decide +kernel
theorem dX3_separate_27 : decode cX3_separate 27 = .ok (.isub, 1) := by decide +kernel
theorem dX3_separate_28 : decode cX3_separate 28 = .ok (.istore_n 3, 1) := by decide +kernel
theorem dX3_separate_29 : decode cX3_separate 29 = .ok (.iconst 0, 1) := by decide +kernel
theorem dX3_separate_30 : decode cX3_separate 30 = .ok (.iload_n 3, 1) := by decide +kernel
theorem dX3_separate_31 : decode cX3_separate 31 = .ok (.aload_n 1, 1) := by decide +kernel
theorem dX3_separate_32 : decode cX3_separate 32 = .ok (.getfield 111, 3) := by decide +kernel
theorem dX3_separate_35 : decode cX3_separate 35 = .ok (.isub, 1) := by decide +kernel
theorem dX3_separate_36 : decode cX3_separate 36 = .ok (.invokestatic 108, 3) := by decide +kernel
theorem dX3_separate_39 : decode cX3_separate 39 = .ok (.istore 4, 2) := by decide +kernel
theorem dX3_separate_41 : decode cX3_separate 41 = .ok (.iload 4, 2) := by decide +kernel
theorem dX3_separate_43 : decode cX3_separate 43 = .ok (.iload_n 2, 1) := by decide +kernel
theorem dX3_separate_44 : decode cX3_separate 44 = .ok (.imul, 1) := by decide +kernel
theorem dX3_separate_45 : decode cX3_separate 45 = .ok (.bipush 100, 2) := by decide +kernel
theorem dX3_separate_47 : decode cX3_separate 47 = .ok (.idiv, 1) := by decide +kernel
theorem dX3_separate_48 : decode cX3_separate 48 = .ok (.istore 5, 2) := by decide +kernel
theorem dX3_separate_50 : decode cX3_separate 50 = .ok (.iconst 0, 1) := by decide +kernel
theorem dX3_separate_51 : decode cX3_separate 51 = .ok (.istore 6, 2) := by decide +kernel
theorem dX3_separate_53 : decode cX3_separate 53 = .ok (.iload 6, 2) := by decide +kernel
theorem dX3_separate_55 : decode cX3_separate 55 = .ok (.iconst 3, 1) := by decide +kernel
theorem dX3_separate_56 : decode cX3_separate 56 = .ok (.if_icmp .ge 30, 3) := by decide +kernel
theorem dX3_separate_59 : decode cX3_separate 59 = .ok (.aload_n 0, 1) := by decide +kernel
theorem dX3_separate_60 : decode cX3_separate 60 = .ok (.getfield 15, 3) := by decide +kernel
theorem dX3_separate_63 : decode cX3_separate 63 = .ok (.iload 6, 2) := by decide +kernel
theorem dX3_separate_65 : decode cX3_separate 65 = .ok (.sipush 255, 3) := by decide +kernel
theorem dX3_separate_68 : decode cX3_separate 68 = .ok (.aload_n 0, 1) := by decide +kernel
theorem dX3_separate_69 : decode cX3_separate 69 = .ok (.getfield 9, 3) := by decide +kernel
theorem dX3_separate_72 : decode cX3_separate 72 = .ok (.iload 6, 2) := by decide +kernel
theorem dX3_separate_74 : decode cX3_separate 74 = .ok (.iaload, 1) := by decide +kernel
theorem dX3_separate_75 : decode cX3_separate 75 = .ok (.isub, 1) := by decide +kernel
theorem dX3_separate_76 : decode cX3_separate 76 = .ok (.iload 5, 2) := by decide +kernel
theorem dX3_separate_78 : decode cX3_separate 78 = .ok (.isub, 1) := by decide +kernel
theorem dX3_separate_79 : decode cX3_separate 79 = .ok (.iastore, 1) := by decide +kernel
theorem dX3_separate_80 : decode cX3_separate 80 = .ok (.iinc 6 1, 3) := by decide +kernel
theorem dX3_separate_83 : decode cX3_separate 83 = .ok (.goto (-30), 3) := by decide +kernel
theorem dX3_separate_86 : decode cX3_separate 86 = .ok (.aload_n 0, 1) := by decide +kernel
theorem dX3_separate_87 : decode cX3_separate 87 = .ok (.getfield 15, 3) := by decide +kernel
theorem dX3_separate_90 : decode cX3_separate 90 = .ok (.iconst 3, 1) := by decide +kernel
theorem dX3_separate_91 : decode cX3_separate 91 = .ok (.iload 5, 2) := by decide +kernel
theorem dX3_separate_93 : decode cX3_separate 93 = .ok (.iastore, 1) := by decide +kernel
theorem dX3_separate_94 : decode cX3_separate 94 = .ok (.iconst 0, 1) := by decide +kernel
theorem dX3_separate_95 : decode cX3_separate 95 = .ok (.istore 6, 2) := by decide +kernel
theorem dX3_separate_97 : decode cX3_separate 97 = .ok (.iload 6, 2) := by decide +kernel
theorem dX3_separate_99 : decode cX3_separate 99 = .ok (.iconst 3, 1) := by decide +kernel
theorem dX3_separate_100 : decode cX3_separate 100 = .ok (.if_icmp .ge 27, 3) := by decide +kernel
theorem dX3_separate_103 : decode cX3_separate 103 = .ok (.aload_n 0, 1) := by decide +kernel
theorem dX3_separate_104 : decode cX3_separate 104 = .ok (.getfield 15, 3) := by decide +kernel
theorem dX3_separate_107 : decode cX3_separate 107 = .ok (.iconst 4, 1) := by decide +kernel
theorem dX3_separate_108 : decode cX3_separate 108 = .ok (.iload 6, 2) := by decide +kernel
theorem dX3_separate_110 : decode cX3_separate 110 = .ok (.iadd, 1) := by decide +kernel
theorem dX3_separate_111 : decode cX3_separate 111 = .ok (.aload_n 0, 1) := by decide +kernel
theorem dX3_separate_112 : decode cX3_separate 112 = .ok (.getfield 9, 3) := by decide +kernel
theorem dX3_separate_115 : decode cX3_separate 115 = .ok (.iconst 3, 1) := by decide +kernel
theorem dX3_separate_116 : decode cX3_separate 116 = .ok (.iload 6, 2) := by decide +kernel
theorem dX3_separate_118 : decode cX3_separate 118 = .ok (.iadd, 1) := by decide +kernel
theorem dX3_separate_119 : decode cX3_separate 119 = .ok (.iaload, 1) := by decide +kernel
theorem dX3_separate_120 : decode cX3_separate 120 = .ok (.iastore, 1) := by decide +kernel
theorem dX3_separate_121 : decode cX3_separate 121 = .ok (.iinc 6 1, 3) := by decide +kernel
theorem dX3_separate_124 : decode cX3_separate 124 = .ok (.goto (-27), 3) := by decide +kernel
theorem dX3_separate_127 : decode cX3_separate 127 = .ok (.iconst 0, 1) := by decide +kernel
theorem dX3_separate_128 : decode cX3_separate 128 = .ok (.istore 6, 2) := by decide +kernel
theorem dX3_separate_130 : decode cX3_separate 130 = .ok (.iload 6, 2) := by decide +kernel
theorem dX3_separate_132 : decode cX3_separate 132 = .ok (.bipush 7, 2) := by decide +kernel
theorem dX3_separate_134 : decode cX3_separate 134 = .ok (.if_icmp .ge 47, 3) := by decide +kernel
theorem dX3_separate_137 : decode cX3_separate 137 = .ok (.aload_n 0, 1) := by decide +kernel
theorem dX3_separate_138 : decode cX3_separate 138 = .ok (.getfield 15, 3) := by decide +kernel
theorem dX3_separate_141 : decode cX3_separate 141 = .ok (.iload 6, 2) := by decide +kernel
theorem dX3_separate_143 : decode cX3_separate 143 = .ok (.aload_n 1, 1) := by decide +kernel
theorem dX3_separate_144 : decode cX3_separate 144 = .ok (.getfield 114, 3) := by decide +kernel
theorem dX3_separate_147 : decode cX3_separate 147 = .ok (.iload 6, 2) := by decide +kernel
theorem dX3_separate_149 : decode cX3_separate 149 = .ok (.aaload, 1) := by decide +kernel
theorem dX3_separate_150 : decode cX3_separate 150 = .ok (.aload_n 0, 1) := by decide +kernel
theorem dX3_separate_151 : decode cX3_separate 151 = .ok (.getfield 15, 3) := by decide +kernel
theorem dX3_separate_154 : decode cX3_separate 154 = .ok (.iload 6, 2) := by decide +kernel
theorem dX3_separate_156 : decode cX3_separate 156 = .ok (.iaload, 1) := by decide +kernel
theorem dX3_separate_157 : decode cX3_separate 157 = .ok (.invokevirtual 118, 3) := by decide +kernel
theorem dX3_separate_160 : decode cX3_separate 160 = .ok (.iastore, 1) := by decide +kernel
theorem dX3_separate_161 : decode cX3_separate 161 = .ok (.aload_n 0, 1) := by decide +kernel
theorem dX3_separate_162 : decode cX3_separate 162 = .ok (.getfield 18, 3) := by decide +kernel
theorem dX3_separate_165 : decode cX3_separate 165 = .ok (.iload 6, 2) := by decide +kernel
theorem dX3_separate_167 : decode cX3_separate 167 = .ok (.aload_n 0, 1) := by decide +kernel
theorem dX3_separate_168 : decode cX3_separate 168 = .ok (.getfield 15, 3) := by decide +kernel
theorem dX3_separate_171 : decode cX3_separate 171 = .ok (.iload 6, 2) := by decide +kernel
theorem dX3_separate_173 : decode cX3_separate 173 = .ok (.iaload, 1) := by decide +kernel
theorem dX3_separate_174 : decode cX3_separate 174 = .ok (.iastore, 1) := by decide +kernel
theorem dX3_separate_175 : decode cX3_separate 175 = .ok (.iinc 6 1, 3) := by decide +kernel
theorem dX3_separate_178 : decode cX3_separate 178 = .ok (.goto (-48), 3) := by decide +kernel
theorem dX3_separate_181 : decode cX3_separate 181 = .ok (.aload_n 0, 1) := by decide +kernel
theorem dX3_separate_182 : decode cX3_separate 182 = .ok (.aload_n 1, 1) := by decide +kernel
theorem dX3_separate_183 : decode cX3_separate 183 = .ok (.getfield 124, 3) := by decide +kernel
theorem dX3_separate_186 : decode cX3_separate 186 = .ok (.invokevirtual 127, 3) := by decide +kernel
theorem dX3_separate_189 : decode cX3_separate 189 = .ok (.return_, 1) := by decide +kernel
theorem dX3_limitSum_0 : decode cX3_limitSum 0 = .ok (.aload_n 0, 1) := by decide +kernel
theorem dX3_limitSum_1 : decode cX3_limitSum 1 = .ok (.getfield 18, 3) := by decide +kernel
theorem dX3_limitSum_4 : decode cX3_limitSum 4 = .ok (.iconst 4, 1) := by decide +kernel
theorem dX3_limitSum_5 : decode cX3_limitSum 5 = .ok (.iaload, 1) := by decide +kernel
theorem dX3_limitSum_6 : decode cX3_limitSum 6 = .ok (.aload_n 0, 1) := by decide +kernel
theorem dX3_limitSum_7 : decode cX3_limitSum 7 = .ok (.getfield 18, 3) := by decide +kernel
theorem dX3_limitSum_10 : decode cX3_limitSum 10 = .ok (.iconst 5, 1) := by decide +kernel
theorem dX3_limitSum_11 : decode cX3_limitSum 11 = .ok (.iaload, 1) := by decide +kernel
theorem dX3_limitSum_12 : decode cX3_limitSum 12 = .ok (.iadd, 1) := by decide +kernel
theorem dX3_limitSum_13 : decode cX3_limitSum 13 = .ok (.aload_n 0, 1) := by decide +kernel
theorem dX3_limitSum_14 : decode cX3_limitSum 14 = .ok (.getfield 18, 3) := by decide +kernel
theorem dX3_limitSum_17 : decode cX3_limitSum 17 = .ok (.bipush 6, 2) := by decide +kernel
theorem dX3_limitSum_19 : decode cX3_limitSum 19 = .ok (.iaload, 1) := by decide +kernel
theorem dX3_limitSum_20 : decode cX3_limitSum 20 = .ok (.iadd, 1) := by decide +kernel
theorem dX3_limitSum_21 : decode cX3_limitSum 21 = .ok (.istore_n 2, 1) := by decide +kernel
theorem dX3_limitSum_22 : decode cX3_limitSum 22 = .ok (.iload_n 1, 1) := by decide +kernel
theorem dX3_limitSum_23 : decode cX3_limitSum 23 = .ok (.iload_n 2, 1) := by decide +kernel
theorem dX3_limitSum_24 : decode cX3_limitSum 24 = .ok (.isub, 1) := by decide +kernel
theorem dX3_limitSum_25 : decode cX3_limitSum 25 = .ok (.aload_n 0, 1) := by decide +kernel
theorem dX3_limitSum_26 : decode cX3_limitSum 26 = .ok (.getfield 18, 3) := by decide +kernel
theorem dX3_limitSum_29 : decode cX3_limitSum 29 = .ok (.iconst 3, 1) := by decide +kernel
theorem dX3_limitSum_30 : decode cX3_limitSum 30 = .ok (.iaload, 1) := by decide +kernel
theorem dX3_limitSum_31 : decode cX3_limitSum 31 = .ok (.isub, 1) := by decide +kernel
theorem dX3_limitSum_32 : decode cX3_limitSum 32 = .ok (.istore_n 3, 1) := by decide +kernel
theorem dX3_limitSum_33 : decode cX3_limitSum 33 = .ok (.aload_n 0, 1) := by decide +kernel
theorem dX3_limitSum_34 : decode cX3_limitSum 34 = .ok (.getfield 18, 3) := by decide +kernel
theorem dX3_limitSum_37 : decode cX3_limitSum 37 = .ok (.iconst 0, 1) := by decide +kernel
theorem dX3_limitSum_38 : decode cX3_limitSum 38 = .ok (.iaload, 1) := by decide +kernel
theorem dX3_limitSum_39 : decode cX3_limitSum 39 = .ok (.aload_n 0, 1) := by decide +kernel
theorem dX3_limitSum_40 : decode cX3_limitSum 40 = .ok (.getfield 18, 3) := by decide +kernel
theorem dX3_limitSum_43 : decode cX3_limitSum 43 = .ok (.iconst 1, 1) := by decide +kernel
theorem dX3_limitSum_44 : decode cX3_limitSum 44 = .ok (.iaload, 1) := by decide +kernel
theorem dX3_limitSum_45 : decode cX3_limitSum 45 = .ok (.iadd, 1) := by decide +kernel
theorem dX3_limitSum_46 : decode cX3_limitSum 46 = .ok (.aload_n 0, 1) := by decide +kernel
theorem dX3_limitSum_47 : decode cX3_limitSum 47 = .ok (.getfield 18, 3) := by decide +kernel
theorem dX3_limitSum_50 : decode cX3_limitSum 50 = .ok (.iconst 2, 1) := by decide +kernel
theorem dX3_limitSum_51 : decode cX3_limitSum 51 = .ok (.iaload, 1) := by decide +kernel
theorem dX3_limitSum_52 : decode cX3_limitSum 52 = .ok (.iadd, 1) := by decide +kernel
theorem dX3_limitSum_53 : decode cX3_limitSum 53 = .ok (.istore 4, 2) := by decide +kernel
theorem dX3_limitSum_55 : decode cX3_limitSum 55 = .ok (.iload_n 3, 1) := by decide +kernel
theorem dX3_limitSum_56 : decode cX3_limitSum 56 = .ok (.ifCond .ge 52, 3) := by decide +kernel
theorem dX3_limitSum_59 : decode cX3_limitSum 59 = .ok (.aload_n 0, 1) := by decide +kernel
theorem dX3_limitSum_60 : decode cX3_limitSum 60 = .ok (.getfield 18, 3) := by decide +kernel
theorem dX3_limitSum_63 : decode cX3_limitSum 63 = .ok (.iconst 0, 1) := by decide +kernel
theorem dX3_limitSum_64 : decode cX3_limitSum 64 = .ok (.iconst 0, 1) := by decide +kernel
theorem dX3_limitSum_65 : decode cX3_limitSum 65 = .ok (.iastore, 1) := by decide +kernel
theorem dX3_limitSum_66 : decode cX3_limitSum 66 = .ok (.aload_n 0, 1) := by decide +kernel
theorem dX3_limitSum_67 : decode cX3_limitSum 67 = .ok (.getfield 18, 3) := by decide +kernel
theorem dX3_limitSum_70 : decode cX3_limitSum 70 = .ok (.iconst 1, 1) := by decide +kernel
theorem dX3_limitSum_71 : decode cX3_limitSum 71 = .ok (.iconst 0, 1) := by decide +kernel
theorem dX3_limitSum_72 : decode cX3_limitSum 72 = .ok (.iastore, 1) := by decide +kernel
theorem dX3_limitSum_73 : decode cX3_limitSum 73 = .ok (.aload_n 0, 1) := by decide +kernel
theorem dX3_limitSum_74 : decode cX3_limitSum 74 = .ok (.getfield 18, 3) := by decide +kernel
theorem dX3_limitSum_77 : decode cX3_limitSum 77 = .ok (.iconst 2, 1) := by decide +kernel
theorem dX3_limitSum_78 : decode cX3_limitSum 78 = .ok (.iconst 0, 1) := by decide +kernel
theorem dX3_limitSum_79 : decode cX3_limitSum 79 = .ok (.iastore, 1) := by decide +kernel
theorem dX3_limitSum_80 : decode cX3_limitSum 80 = .ok (.aload_n 0, 1) := by decide +kernel
theorem dX3_limitSum_81 : decode cX3_limitSum 81 = .ok (.getfield 18, 3) := by decide +kernel
theorem dX3_limitSum_84 : decode cX3_limitSum 84 = .ok (.iconst 3, 1) := by decide +kernel
theorem dX3_limitSum_85 : decode cX3_limitSum 85 = .ok (.iconst 0, 1) := by decide +kernel
theorem dX3_limitSum_86 : decode cX3_limitSum 86 = .ok (.iload_n 1, 1) := by decide +kernel
theorem dX3_limitSum_87 : decode cX3_limitSum 87 = .ok (.iload_n 2, 1) := by decide +kernel
theorem dX3_limitSum_88 : decode cX3_limitSum 88 = .ok (.isub, 1) := by decide +kernel
theorem dX3_limitSum_89 : decode cX3_limitSum 89 = .ok (.invokestatic 108, 3) := by decide +kernel
theorem dX3_limitSum_92 : decode cX3_limitSum 92 = .ok (.iastore, 1) := by decide +kernel
theorem dX3_limitSum_93 : decode cX3_limitSum 93 = .ok (.iload_n 1, 1) := by decide +kernel
theorem dX3_limitSum_94 : decode cX3_limitSum 94 = .ok (.iload_n 2, 1) := by decide +kernel
theorem dX3_limitSum_95 : decode cX3_limitSum 95 = .ok (.if_icmp .ge 27, 3) := by decide +kernel
theorem dX3_limitSum_98 : decode cX3_limitSum 98 = .ok (.aload_n 0, 1) := by decide +kernel
theorem dX3_limitSum_99 : decode cX3_limitSum 99 = .ok (.iconst 4, 1) := by decide +kernel
theorem dX3_limitSum_100 : decode cX3_limitSum 100 = .ok (.iload_n 1, 1) := by decide +kernel
theorem dX3_limitSum_101 : decode cX3_limitSum 101 = .ok (.iload_n 2, 1) := by decide +kernel
theorem dX3_limitSum_102 : decode cX3_limitSum 102 = .ok (.invokevirtual 131, 3) := by decide +kernel
theorem dX3_limitSum_105 : decode cX3_limitSum 105 = .ok (.goto 17, 3) := by decide +kernel
theorem dX3_limitSum_108 : decode cX3_limitSum 108 = .ok (.iload 4, 2) := by decide +kernel
theorem dX3_limitSum_110 : decode cX3_limitSum 110 = .ok (.iload_n 3, 1) := by decide +kernel
theorem dX3_limitSum_111 : decode cX3_limitSum 111 = .ok (.if_icmp .le 11, 3) := by decide +kernel
theorem dX3_limitSum_114 : decode cX3_limitSum 114 = .ok (.aload_n 0, 1) := by decide +kernel
theorem dX3_limitSum_115 : decode cX3_limitSum 115 = .ok (.iconst 0, 1) := by decide +kernel
theorem dX3_limitSum_116 : decode cX3_limitSum 116 = .ok (.iload_n 3, 1) := by decide +kernel
theorem dX3_limitSum_117 : decode cX3_limitSum 117 = .ok (.iload 4, 2) := by decide +kernel
theorem dX3_limitSum_119 : decode cX3_limitSum 119 = .ok (.invokevirtual 131, 3) := by decide +kernel
theorem dX3_limitSum_122 : decode cX3_limitSum 122 = .ok (.return_, 1) := by decide +kernel
theorem dX3_shrink_0 : decode cX3_shrink 0 = .ok (.iload_n 3, 1) := by decide +kernel
theorem dX3_shrink_1 : decode cX3_shrink 1 = .ok (.ifCond .gt 4, 3) := by decide +kernel
theorem dX3_shrink_4 : decode cX3_shrink 4 = .ok (.return_, 1) := by decide +kernel
theorem dX3_shrink_5 : decode cX3_shrink 5 = .ok (.iload_n 1, 1) := by decide +kernel
theorem dX3_shrink_6 : decode cX3_shrink 6 = .ok (.istore 4, 2) := by decide +kernel
theorem dX3_shrink_8 : decode cX3_shrink 8 = .ok (.iload 4, 2) := by decide +kernel
theorem dX3_shrink_10 : decode cX3_shrink 10 = .ok (.iload_n 1, 1) := by decide +kernel
theorem dX3_shrink_11 : decode cX3_shrink 11 = .ok (.iconst 3, 1) := by decide +kernel
theorem dX3_shrink_12 : decode cX3_shrink 12 = .ok (.iadd, 1) := by decide +kernel
theorem dX3_shrink_13 : decode cX3_shrink 13 = .ok (.if_icmp .ge 34, 3) := by decide +kernel
theorem dX3_shrink_16 : decode cX3_shrink 16 = .ok (.iload 4, 2) := by decide +kernel
theorem dX3_shrink_18 : decode cX3_shrink 18 = .ok (.bipush 7, 2) := by decide +kernel
theorem dX3_shrink_20 : decode cX3_shrink 20 = .ok (.if_icmp .ge 27, 3) := by decide +kernel
theorem dX3_shrink_23 : decode cX3_shrink 23 = .ok (.aload_n 0, 1) := by decide +kernel
theorem dX3_shrink_24 : decode cX3_shrink 24 = .ok (.getfield 18, 3) := by decide +kernel
theorem dX3_shrink_27 : decode cX3_shrink 27 = .ok (.iload 4, 2) := by decide +kernel
theorem dX3_shrink_29 : decode cX3_shrink 29 = .ok (.aload_n 0, 1) := by decide +kernel
theorem dX3_shrink_30 : decode cX3_shrink 30 = .ok (.getfield 18, 3) := by decide +kernel
theorem dX3_shrink_33 : decode cX3_shrink 33 = .ok (.iload 4, 2) := by decide +kernel
theorem dX3_shrink_35 : decode cX3_shrink 35 = .ok (.iaload, 1) := by decide +kernel
theorem dX3_shrink_36 : decode cX3_shrink 36 = .ok (.iload_n 2, 1) := by decide +kernel
theorem dX3_shrink_37 : decode cX3_shrink 37 = .ok (.imul, 1) := by decide +kernel
theorem dX3_shrink_38 : decode cX3_shrink 38 = .ok (.iload_n 3, 1) := by decide +kernel
theorem dX3_shrink_39 : decode cX3_shrink 39 = .ok (.idiv, 1) := by decide +kernel
theorem dX3_shrink_40 : decode cX3_shrink 40 = .ok (.iastore, 1) := by decide +kernel
theorem dX3_shrink_41 : decode cX3_shrink 41 = .ok (.iinc 4 1, 3) := by decide +kernel
theorem dX3_shrink_44 : decode cX3_shrink 44 = .ok (.goto (-36), 3) := by decide +kernel
theorem dX3_shrink_47 : decode cX3_shrink 47 = .ok (.return_, 1) := by decide +kernel
theorem dX3_valueOf_0 : decode cX3_valueOf 0 = .ok (.iload_n 1, 1) := by decide +kernel
theorem dX3_valueOf_1 : decode cX3_valueOf 1 = .ok (.iconst 0, 1) := by decide +kernel
theorem dX3_valueOf_2 : decode cX3_valueOf 2 = .ok (.bipush 6, 2) := by decide +kernel
theorem dX3_valueOf_4 : decode cX3_valueOf 4 = .ok (.invokestatic 88, 3) := by decide +kernel
theorem dX3_valueOf_7 : decode cX3_valueOf 7 = .ok (.ifCond .eq 12, 3) := by decide +kernel
theorem dX3_valueOf_10 : decode cX3_valueOf 10 = .ok (.aload_n 0, 1) := by decide +kernel
theorem dX3_valueOf_11 : decode cX3_valueOf 11 = .ok (.getfield 18, 3) := by decide +kernel
theorem dX3_valueOf_14 : decode cX3_valueOf 14 = .ok (.iload_n 1, 1) := by decide +kernel
theorem dX3_valueOf_15 : decode cX3_valueOf 15 = .ok (.iaload, 1) := by decide +kernel
theorem dX3_valueOf_16 : decode cX3_valueOf 16 = .ok (.goto 10, 3) := by decide +kernel
theorem dX3_valueOf_19 : decode cX3_valueOf 19 = .ok (.aload_n 0, 1) := by decide +kernel
theorem dX3_valueOf_20 : decode cX3_valueOf 20 = .ok (.getfield 18, 3) := by decide +kernel
theorem dX3_valueOf_23 : decode cX3_valueOf 23 = .ok (.invokestatic 134, 3) := by decide +kernel
theorem dX3_valueOf_26 : decode cX3_valueOf 26 = .ok (.ireturn, 1) := by decide +kernel
theorem dX3_isDisordered_0 : decode cX3_isDisordered 0 = .ok (.iconst 0, 1) := by decide +kernel
theorem dX3_isDisordered_1 : decode cX3_isDisordered 1 = .ok (.istore_n 1, 1) := by decide +kernel
theorem dX3_isDisordered_2 : decode cX3_isDisordered 2 = .ok (.iload_n 1, 1) := by decide +kernel
theorem dX3_isDisordered_3 : decode cX3_isDisordered 3 = .ok (.iconst 3, 1) := by decide +kernel
theorem dX3_isDisordered_4 : decode cX3_isDisordered 4 = .ok (.if_icmp .ge 54, 3) := by decide +kernel
theorem dX3_isDisordered_7 : decode cX3_isDisordered 7 = .ok (.iconst 0, 1) := by decide +kernel
theorem dX3_isDisordered_8 : decode cX3_isDisordered 8 = .ok (.istore_n 2, 1) := by decide +kernel
theorem dX3_isDisordered_9 : decode cX3_isDisordered 9 = .ok (.iload_n 2, 1) := by decide +kernel
theorem dX3_isDisordered_10 : decode cX3_isDisordered 10 = .ok (.iconst 3, 1) := by decide +kernel
theorem dX3_isDisordered_11 : decode cX3_isDisordered 11 = .ok (.if_icmp .ge 41, 3) := by decide +kernel
theorem dX3_isDisordered_14 : decode cX3_isDisordered 14 = .ok (.aload_n 0, 1) := by decide +kernel
theorem dX3_isDisordered_15 : decode cX3_isDisordered 15 = .ok (.getfield 15, 3) := by decide +kernel
theorem dX3_isDisordered_18 : decode cX3_isDisordered 18 = .ok (.iload_n 1, 1) := by decide +kernel
theorem dX3_isDisordered_19 : decode cX3_isDisordered 19 = .ok (.iaload, 1) := by decide +kernel
theorem dX3_isDisordered_20 : decode cX3_isDisordered 20 = .ok (.aload_n 0, 1) := by decide +kernel
theorem dX3_isDisordered_21 : decode cX3_isDisordered 21 = .ok (.getfield 15, 3) := by decide +kernel
theorem dX3_isDisordered_24 : decode cX3_isDisordered 24 = .ok (.iload_n 2, 1) := by decide +kernel
theorem dX3_isDisordered_25 : decode cX3_isDisordered 25 = .ok (.iaload, 1) := by decide +kernel
theorem dX3_isDisordered_26 : decode cX3_isDisordered 26 = .ok (.if_icmp .ge 20, 3) := by decide +kernel
theorem dX3_isDisordered_29 : decode cX3_isDisordered 29 = .ok (.aload_n 0, 1) := by decide +kernel
theorem dX3_isDisordered_30 : decode cX3_isDisordered 30 = .ok (.getfield 18, 3) := by decide +kernel
theorem dX3_isDisordered_33 : decode cX3_isDisordered 33 = .ok (.iload_n 1, 1) := by decide +kernel
theorem dX3_isDisordered_34 : decode cX3_isDisordered 34 = .ok (.iaload, 1) := by decide +kernel
theorem dX3_isDisordered_35 : decode cX3_isDisordered 35 = .ok (.aload_n 0, 1) := by decide +kernel
theorem dX3_isDisordered_36 : decode cX3_isDisordered 36 = .ok (.getfield 18, 3) := by decide +kernel
theorem dX3_isDisordered_39 : decode cX3_isDisordered 39 = .ok (.iload_n 2, 1) := by decide +kernel
theorem dX3_isDisordered_40 : decode cX3_isDisordered 40 = .ok (.iaload, 1) := by decide +kernel
theorem dX3_isDisordered_41 : decode cX3_isDisordered 41 = .ok (.if_icmp .le 5, 3) := by decide +kernel
theorem dX3_isDisordered_44 : decode cX3_isDisordered 44 = .ok (.iconst 1, 1) := by decide +kernel
theorem dX3_isDisordered_45 : decode cX3_isDisordered 45 = .ok (.ireturn, 1) := by decide +kernel
theorem dX3_isDisordered_46 : decode cX3_isDisordered 46 = .ok (.iinc 2 1, 3) := by decide +kernel
theorem dX3_isDisordered_49 : decode cX3_isDisordered 49 = .ok (.goto (-40), 3) := by decide +kernel
theorem dX3_isDisordered_52 : decode cX3_isDisordered 52 = .ok (.iinc 1 1, 3) := by decide +kernel
theorem dX3_isDisordered_55 : decode cX3_isDisordered 55 = .ok (.goto (-53), 3) := by decide +kernel
theorem dX3_isDisordered_58 : decode cX3_isDisordered 58 = .ok (.iconst 0, 1) := by decide +kernel
theorem dX3_isDisordered_59 : decode cX3_isDisordered 59 = .ok (.ireturn, 1) := by decide +kernel
theorem dX4_init_0 : decode cX4_init 0 = .ok (.aload_n 0, 1) := by decide +kernel
theorem dX4_init_1 : decode cX4_init 1 = .ok (.invokespecial 3, 3) := by decide +kernel
theorem dX4_init_4 : decode cX4_init 4 = .ok (.aload_n 0, 1) := by decide +kernel
theorem dX4_init_5 : decode cX4_init 5 = .ok (.bipush 8, 2) := by decide +kernel
theorem dX4_init_7 : decode cX4_init 7 = .ok (.putfield 9, 3) := by decide +kernel
theorem dX4_init_10 : decode cX4_init 10 = .ok (.aload_n 0, 1) := by decide +kernel
theorem dX4_init_11 : decode cX4_init 11 = .ok (.bipush 6, 2) := by decide +kernel
theorem dX4_init_13 : decode cX4_init 13 = .ok (.putfield 15, 3) := by decide +kernel
theorem dX4_init_16 : decode cX4_init 16 = .ok (.aload_n 0, 1) := by decide +kernel
theorem dX4_init_17 : decode cX4_init 17 = .ok (.bipush 50, 2) := by decide +kernel
theorem dX4_init_19 : decode cX4_init 19 = .ok (.putfield 18, 3) := by decide +kernel
theorem dX4_init_22 : decode cX4_init 22 = .ok (.aload_n 0, 1) := by decide +kernel
theorem dX4_init_23 : decode cX4_init 23 = .ok (.bipush 40, 2) := by decide +kernel
theorem dX4_init_25 : decode cX4_init 25 = .ok (.putfield 21, 3) := by decide +kernel
theorem dX4_init_28 : decode cX4_init 28 = .ok (.aload_n 0, 1) := by decide +kernel
theorem dX4_init_29 : decode cX4_init 29 = .ok (.sipush 700, 3) := by decide +kernel
theorem dX4_init_32 : decode cX4_init 32 = .ok (.putfield 24, 3) := by decide +kernel
theorem dX4_init_35 : decode cX4_init 35 = .ok (.aload_n 0, 1) := by decide +kernel
theorem dX4_init_36 : decode cX4_init 36 = .ok (.iconst 3, 1) := by decide +kernel
theorem dX4_init_37 : decode cX4_init 37 = .ok (.newarray .int, 2) := by decide +kernel
theorem dX4_init_39 : decode cX4_init 39 = .ok (.putfield 27, 3) := by decide +kernel
theorem dX4_init_42 : decode cX4_init 42 = .ok (.iconst 0, 1) := by decide +kernel
theorem dX4_init_43 : decode cX4_init 43 = .ok (.istore_n 1, 1) := by decide +kernel
theorem dX4_init_44 : decode cX4_init 44 = .ok (.iload_n 1, 1) := by decide +kernel
theorem dX4_init_45 : decode cX4_init 45 = .ok (.iconst 3, 1) := by decide +kernel
theorem dX4_init_46 : decode cX4_init 46 = .ok (.if_icmp .ge 16, 3) := by decide +kernel
theorem dX4_init_49 : decode cX4_init 49 = .ok (.aload_n 0, 1) := by decide +kernel
theorem dX4_init_50 : decode cX4_init 50 = .ok (.getfield 27, 3) := by decide +kernel
theorem dX4_init_53 : decode cX4_init 53 = .ok (.iload_n 1, 1) := by decide +kernel
theorem dX4_init_54 : decode cX4_init 54 = .ok (.iconst 1, 1) := by decide +kernel
theorem dX4_init_55 : decode cX4_init 55 = .ok (.iastore, 1) := by decide +kernel
theorem dX4_init_56 : decode cX4_init 56 = .ok (.iinc 1 1, 3) := by decide +kernel
theorem dX4_init_59 : decode cX4_init 59 = .ok (.goto (-15), 3) := by decide +kernel
theorem dX4_init_62 : decode cX4_init 62 = .ok (.aload_n 0, 1) := by decide +kernel
theorem dX4_init_63 : decode cX4_init 63 = .ok (.new 31, 3) := by decide +kernel
theorem dX4_init_66 : decode cX4_init 66 = .ok (.dup, 1) := by decide +kernel
theorem dX4_init_67 : decode cX4_init 67 = .ok (.invokespecial 33, 3) := by decide +kernel
theorem dX4_init_70 : decode cX4_init 70 = .ok (.putfield 34, 3) := by decide +kernel
theorem dX4_init_73 : decode cX4_init 73 = .ok (.aload_n 0, 1) := by decide +kernel
theorem dX4_init_74 : decode cX4_init 74 = .ok (.bipush 7, 2) := by decide +kernel
theorem dX4_init_76 : decode cX4_init 76 = .ok (.anewarray 38, 3) := by decide +kernel
theorem dX4_init_79 : decode cX4_init 79 = .ok (.putfield 40, 3) := by decide +kernel
theorem dX4_init_82 : decode cX4_init 82 = .ok (.iconst 0, 1) := by decide +kernel
theorem dX4_init_83 : decode cX4_init 83 = .ok (.istore_n 1, 1) := by decide +kernel
theorem dX4_init_84 : decode cX4_init 84 = .ok (.iload_n 1, 1) := by decide +kernel
theorem dX4_init_85 : decode cX4_init 85 = .ok (.bipush 7, 2) := by decide +kernel
theorem dX4_init_87 : decode cX4_init 87 = .ok (.if_icmp .ge 22, 3) := by decide +kernel
theorem dX4_init_90 : decode cX4_init 90 = .ok (.aload_n 0, 1) := by decide +kernel
theorem dX4_init_91 : decode cX4_init 91 = .ok (.getfield 40, 3) := by decide +kernel
theorem dX4_init_94 : decode cX4_init 94 = .ok (.iload_n 1, 1) := by decide +kernel
theorem dX4_init_95 : decode cX4_init 95 = .ok (.new 38, 3) := by decide +kernel
theorem dX4_init_98 : decode cX4_init 98 = .ok (.dup, 1) := by decide +kernel
theorem dX4_init_99 : decode cX4_init 99 = .ok (.invokespecial 44, 3) := by decide +kernel
theorem dX4_init_102 : decode cX4_init 102 = .ok (.aastore, 1) := by decide +kernel
theorem dX4_init_103 : decode cX4_init 103 = .ok (.iinc 1 1, 3) := by decide +kernel
theorem dX4_init_106 : decode cX4_init 106 = .ok (.goto (-22), 3) := by decide +kernel
theorem dX4_init_109 : decode cX4_init 109 = .ok (.return_, 1) := by decide +kernel
theorem dX4_copyFrom_0 : decode cX4_copyFrom 0 = .ok (.aload_n 0, 1) := by decide +kernel
theorem dX4_copyFrom_1 : decode cX4_copyFrom 1 = .ok (.aload_n 1, 1) := by decide +kernel
theorem dX4_copyFrom_2 : decode cX4_copyFrom 2 = .ok (.getfield 9, 3) := by decide +kernel
theorem dX4_copyFrom_5 : decode cX4_copyFrom 5 = .ok (.putfield 9, 3) := by decide +kernel
theorem dX4_copyFrom_8 : decode cX4_copyFrom 8 = .ok (.aload_n 0, 1) := by decide +kernel
theorem dX4_copyFrom_9 : decode cX4_copyFrom 9 = .ok (.aload_n 1, 1) := by decide +kernel
theorem dX4_copyFrom_10 : decode cX4_copyFrom 10 = .ok (.getfield 15, 3) := by decide +kernel
theorem dX4_copyFrom_13 : decode cX4_copyFrom 13 = .ok (.putfield 15, 3) := by decide +kernel
theorem dX4_copyFrom_16 : decode cX4_copyFrom 16 = .ok (.aload_n 0, 1) := by decide +kernel
theorem dX4_copyFrom_17 : decode cX4_copyFrom 17 = .ok (.aload_n 1, 1) := by decide +kernel
theorem dX4_copyFrom_18 : decode cX4_copyFrom 18 = .ok (.getfield 18, 3) := by decide +kernel
theorem dX4_copyFrom_21 : decode cX4_copyFrom 21 = .ok (.putfield 18, 3) := by decide +kernel
theorem dX4_copyFrom_24 : decode cX4_copyFrom 24 = .ok (.aload_n 0, 1) := by decide +kernel
theorem dX4_copyFrom_25 : decode cX4_copyFrom 25 = .ok (.aload_n 1, 1) := by decide +kernel
theorem dX4_copyFrom_26 : decode cX4_copyFrom 26 = .ok (.getfield 21, 3) := by decide +kernel
theorem dX4_copyFrom_29 : decode cX4_copyFrom 29 = .ok (.putfield 21, 3) := by decide +kernel
theorem dX4_copyFrom_32 : decode cX4_copyFrom 32 = .ok (.aload_n 0, 1) := by decide +kernel
theorem dX4_copyFrom_33 : decode cX4_copyFrom 33 = .ok (.aload_n 1, 1) := by decide +kernel
theorem dX4_copyFrom_34 : decode cX4_copyFrom 34 = .ok (.getfield 24, 3) := by decide +kernel
theorem dX4_copyFrom_37 : decode cX4_copyFrom 37 = .ok (.putfield 24, 3) := by decide +kernel
theorem dX4_copyFrom_40 : decode cX4_copyFrom 40 = .ok (.iconst 0, 1) := by decide +kernel
theorem dX4_copyFrom_41 : decode cX4_copyFrom 41 = .ok (.istore_n 2, 1) := by decide +kernel
theorem dX4_copyFrom_42 : decode cX4_copyFrom 42 = .ok (.iload_n 2, 1) := by decide +kernel
theorem dX4_copyFrom_43 : decode cX4_copyFrom 43 = .ok (.iconst 3, 1) := by decide +kernel
theorem dX4_copyFrom_44 : decode cX4_copyFrom 44 = .ok (.if_icmp .ge 21, 3) := by decide +kernel
theorem dX4_copyFrom_47 : decode cX4_copyFrom 47 = .ok (.aload_n 0, 1) := by decide +kernel
theorem dX4_copyFrom_48 : decode cX4_copyFrom 48 = .ok (.getfield 27, 3) := by decide +kernel
theorem dX4_copyFrom_51 : decode cX4_copyFrom 51 = .ok (.iload_n 2, 1) := by decide +kernel
theorem dX4_copyFrom_52 : decode cX4_copyFrom 52 = .ok (.aload_n 1, 1) := by decide +kernel
theorem dX4_copyFrom_53 : decode cX4_copyFrom 53 = .ok (.getfield 27, 3) := by decide +kernel
theorem dX4_copyFrom_56 : decode cX4_copyFrom 56 = .ok (.iload_n 2, 1) := by decide +kernel
theorem dX4_copyFrom_57 : decode cX4_copyFrom 57 = .ok (.iaload, 1) := by decide +kernel
theorem dX4_copyFrom_58 : decode cX4_copyFrom 58 = .ok (.iastore, 1) := by decide +kernel
theorem dX4_copyFrom_59 : decode cX4_copyFrom 59 = .ok (.iinc 2 1, 3) := by decide +kernel
theorem dX4_copyFrom_62 : decode cX4_copyFrom 62 = .ok (.goto (-20), 3) := by decide +kernel
theorem dX4_copyFrom_65 : decode cX4_copyFrom 65 = .ok (.aload_n 0, 1) := by decide +kernel
theorem dX4_copyFrom_66 : decode cX4_copyFrom 66 = .ok (.getfield 34, 3) := by decide +kernel
theorem dX4_copyFrom_69 : decode cX4_copyFrom 69 = .ok (.aload_n 1, 1) := by decide +kernel
theorem dX4_copyFrom_70 : decode cX4_copyFrom 70 = .ok (.getfield 34, 3) := by decide +kernel
theorem dX4_copyFrom_73 : decode cX4_copyFrom 73 = .ok (.invokevirtual 45, 3) := by decide +kernel
theorem dX4_copyFrom_76 : decode cX4_copyFrom 76 = .ok (.iconst 0, 1) := by decide +kernel
theorem dX4_copyFrom_77 : decode cX4_copyFrom 77 = .ok (.istore_n 2, 1) := by decide +kernel
theorem dX4_copyFrom_78 : decode cX4_copyFrom 78 = .ok (.iload_n 2, 1) := by decide +kernel
theorem dX4_copyFrom_79 : decode cX4_copyFrom 79 = .ok (.bipush 7, 2) := by decide +kernel
theorem dX4_copyFrom_81 : decode cX4_copyFrom 81 = .ok (.if_icmp .ge 24, 3) := by decide +kernel
theorem dX4_copyFrom_84 : decode cX4_copyFrom 84 = .ok (.aload_n 0, 1) := by decide +kernel
theorem dX4_copyFrom_85 : decode cX4_copyFrom 85 = .ok (.getfield 40, 3) := by decide +kernel
theorem dX4_copyFrom_88 : decode cX4_copyFrom 88 = .ok (.iload_n 2, 1) := by decide +kernel
theorem dX4_copyFrom_89 : decode cX4_copyFrom 89 = .ok (.aaload, 1) := by decide +kernel
theorem dX4_copyFrom_90 : decode cX4_copyFrom 90 = .ok (.aload_n 1, 1) := by decide +kernel
theorem dX4_copyFrom_91 : decode cX4_copyFrom 91 = .ok (.getfield 40, 3) := by decide +kernel
theorem dX4_copyFrom_94 : decode cX4_copyFrom 94 = .ok (.iload_n 2, 1) := by decide +kernel
theorem dX4_copyFrom_95 : decode cX4_copyFrom 95 = .ok (.aaload, 1) := by decide +kernel
theorem dX4_copyFrom_96 : decode cX4_copyFrom 96 = .ok (.invokevirtual 49, 3) := by decide +kernel
theorem dX4_copyFrom_99 : decode cX4_copyFrom 99 = .ok (.iinc 2 1, 3) := by decide +kernel
theorem dX4_copyFrom_102 : decode cX4_copyFrom 102 = .ok (.goto (-24), 3) := by decide +kernel
theorem dX4_copyFrom_105 : decode cX4_copyFrom 105 = .ok (.return_, 1) := by decide +kernel
theorem dX5_init_0 : decode cX5_init 0 = .ok (.aload_n 0, 1) := by decide +kernel
theorem dX5_init_1 : decode cX5_init 1 = .ok (.invokespecial 3, 3) := by decide +kernel
theorem dX5_init_4 : decode cX5_init 4 = .ok (.aload_n 0, 1) := by decide +kernel
theorem dX5_init_5 : decode cX5_init 5 = .ok (.bipush 24, 2) := by decide +kernel
theorem dX5_init_7 : decode cX5_init 7 = .ok (.anewarray 9, 3) := by decide +kernel
theorem dX5_init_10 : decode cX5_init 10 = .ok (.putfield 11, 3) := by decide +kernel
theorem dX5_init_13 : decode cX5_init 13 = .ok (.iconst 0, 1) := by decide +kernel
theorem dX5_init_14 : decode cX5_init 14 = .ok (.istore_n 1, 1) := by decide +kernel
theorem dX5_init_15 : decode cX5_init 15 = .ok (.iload_n 1, 1) := by decide +kernel
theorem dX5_init_16 : decode cX5_init 16 = .ok (.bipush 24, 2) := by decide +kernel
theorem dX5_init_18 : decode cX5_init 18 = .ok (.if_icmp .ge 22, 3) := by decide +kernel
theorem dX5_init_21 : decode cX5_init 21 = .ok (.aload_n 0, 1) := by decide +kernel
theorem dX5_init_22 : decode cX5_init 22 = .ok (.getfield 11, 3) := by decide +kernel
theorem dX5_init_25 : decode cX5_init 25 = .ok (.iload_n 1, 1) := by decide +kernel
theorem dX5_init_26 : decode cX5_init 26 = .ok (.new 9, 3) := by decide +kernel
theorem dX5_init_29 : decode cX5_init 29 = .ok (.dup, 1) := by decide +kernel
theorem dX5_init_30 : decode cX5_init 30 = .ok (.invokespecial 17, 3) := by decide +kernel
theorem dX5_init_33 : decode cX5_init 33 = .ok (.aastore, 1) := by decide +kernel
theorem dX5_init_34 : decode cX5_init 34 = .ok (.iinc 1 1, 3) := by decide +kernel
theorem dX5_init_37 : decode cX5_init 37 = .ok (.goto (-22), 3) := by decide +kernel
theorem dX5_init_40 : decode cX5_init 40 = .ok (.aload_n 0, 1) := by decide +kernel
theorem dX5_init_41 : decode cX5_init 41 = .ok (.bipush 24, 2) := by decide +kernel
theorem dX5_init_43 : decode cX5_init 43 = .ok (.newarray .int, 2) := by decide +kernel
theorem dX5_init_45 : decode cX5_init 45 = .ok (.putfield 18, 3) := by decide +kernel
theorem dX5_init_48 : decode cX5_init 48 = .ok (.aload_n 0, 1) := by decide +kernel
theorem dX5_init_49 : decode cX5_init 49 = .ok (.bipush 24, 2) := by decide +kernel
theorem dX5_init_51 : decode cX5_init 51 = .ok (.newarray .int, 2) := by decide +kernel
theorem dX5_init_53 : decode cX5_init 53 = .ok (.putfield 22, 3) := by decide +kernel
theorem dX5_init_56 : decode cX5_init 56 = .ok (.aload_n 0, 1) := by decide +kernel
theorem dX5_init_57 : decode cX5_init 57 = .ok (.iconst 1, 1) := by decide +kernel
theorem dX5_init_58 : decode cX5_init 58 = .ok (.putfield 25, 3) := by decide +kernel
theorem dX5_init_61 : decode cX5_init 61 = .ok (.aload_n 0, 1) := by decide +kernel
theorem dX5_init_62 : decode cX5_init 62 = .ok (.getfield 11, 3) := by decide +kernel
theorem dX5_init_65 : decode cX5_init 65 = .ok (.iconst 0, 1) := by decide +kernel
theorem dX5_init_66 : decode cX5_init 66 = .ok (.aaload, 1) := by decide +kernel
theorem dX5_init_67 : decode cX5_init 67 = .ok (.iconst 0, 1) := by decide +kernel
theorem dX5_init_68 : decode cX5_init 68 = .ok (.putfield 29, 3) := by decide +kernel
theorem dX5_init_71 : decode cX5_init 71 = .ok (.aload_n 0, 1) := by decide +kernel
theorem dX5_init_72 : decode cX5_init 72 = .ok (.getfield 11, 3) := by decide +kernel
theorem dX5_init_75 : decode cX5_init 75 = .ok (.iconst 0, 1) := by decide +kernel
theorem dX5_init_76 : decode cX5_init 76 = .ok (.aaload, 1) := by decide +kernel
theorem dX5_init_77 : decode cX5_init 77 = .ok (.bipush 100, 2) := by decide +kernel
theorem dX5_init_79 : decode cX5_init 79 = .ok (.putfield 32, 3) := by decide +kernel
theorem dX5_init_82 : decode cX5_init 82 = .ok (.aload_n 0, 1) := by decide +kernel
theorem dX5_init_83 : decode cX5_init 83 = .ok (.getfield 11, 3) := by decide +kernel
theorem dX5_init_86 : decode cX5_init 86 = .ok (.iconst 0, 1) := by decide +kernel
theorem dX5_init_87 : decode cX5_init 87 = .ok (.aaload, 1) := by decide +kernel
theorem dX5_init_88 : decode cX5_init 88 = .ok (.bipush 100, 2) := by decide +kernel
theorem dX5_init_90 : decode cX5_init 90 = .ok (.putfield 35, 3) := by decide +kernel
theorem dX5_init_93 : decode cX5_init 93 = .ok (.return_, 1) := by decide +kernel
theorem dX5_copyFrom_0 : decode cX5_copyFrom 0 = .ok (.iconst 0, 1) := by decide +kernel
theorem dX5_copyFrom_1 : decode cX5_copyFrom 1 = .ok (.istore_n 2, 1) := by decide +kernel
theorem dX5_copyFrom_2 : decode cX5_copyFrom 2 = .ok (.iload_n 2, 1) := by decide +kernel
theorem dX5_copyFrom_3 : decode cX5_copyFrom 3 = .ok (.bipush 24, 2) := by decide +kernel
theorem dX5_copyFrom_5 : decode cX5_copyFrom 5 = .ok (.if_icmp .ge 36, 3) := by decide +kernel
theorem dX5_copyFrom_8 : decode cX5_copyFrom 8 = .ok (.aload_n 0, 1) := by decide +kernel
theorem dX5_copyFrom_9 : decode cX5_copyFrom 9 = .ok (.getfield 11, 3) := by decide +kernel
theorem dX5_copyFrom_12 : decode cX5_copyFrom 12 = .ok (.iload_n 2, 1) := by decide +kernel
theorem dX5_copyFrom_13 : decode cX5_copyFrom 13 = .ok (.aaload, 1) := by decide +kernel
theorem dX5_copyFrom_14 : decode cX5_copyFrom 14 = .ok (.aload_n 1, 1) := by decide +kernel
theorem dX5_copyFrom_15 : decode cX5_copyFrom 15 = .ok (.getfield 11, 3) := by decide +kernel
theorem dX5_copyFrom_18 : decode cX5_copyFrom 18 = .ok (.iload_n 2, 1) := by decide +kernel
theorem dX5_copyFrom_19 : decode cX5_copyFrom 19 = .ok (.aaload, 1) := by decide +kernel
theorem dX5_copyFrom_20 : decode cX5_copyFrom 20 = .ok (.invokevirtual 38, 3) := by decide +kernel
theorem dX5_copyFrom_23 : decode cX5_copyFrom 23 = .ok (.aload_n 0, 1) := by decide +kernel
theorem dX5_copyFrom_24 : decode cX5_copyFrom 24 = .ok (.getfield 18, 3) := by decide +kernel
theorem dX5_copyFrom_27 : decode cX5_copyFrom 27 = .ok (.iload_n 2, 1) := by decide +kernel
theorem dX5_copyFrom_28 : decode cX5_copyFrom 28 = .ok (.aload_n 1, 1) := by decide +kernel
theorem dX5_copyFrom_29 : decode cX5_copyFrom 29 = .ok (.getfield 18, 3) := by decide +kernel
theorem dX5_copyFrom_32 : decode cX5_copyFrom 32 = .ok (.iload_n 2, 1) := by decide +kernel
theorem dX5_copyFrom_33 : decode cX5_copyFrom 33 = .ok (.iaload, 1) := by decide +kernel
theorem dX5_copyFrom_34 : decode cX5_copyFrom 34 = .ok (.iastore, 1) := by decide +kernel
theorem dX5_copyFrom_35 : decode cX5_copyFrom 35 = .ok (.iinc 2 1, 3) := by decide +kernel
theorem dX5_copyFrom_38 : decode cX5_copyFrom 38 = .ok (.goto (-36), 3) := by decide +kernel
theorem dX5_copyFrom_41 : decode cX5_copyFrom 41 = .ok (.aload_n 0, 1) := by decide +kernel
theorem dX5_copyFrom_42 : decode cX5_copyFrom 42 = .ok (.aload_n 1, 1) := by decide +kernel
theorem dX5_copyFrom_43 : decode cX5_copyFrom 43 = .ok (.getfield 25, 3) := by decide +kernel
theorem dX5_copyFrom_46 : decode cX5_copyFrom 46 = .ok (.putfield 25, 3) := by decide +kernel
theorem dX5_copyFrom_49 : decode cX5_copyFrom 49 = .ok (.return_, 1) := by decide +kernel
theorem dX5_has_0 : decode cX5_has 0 = .ok (.iload_n 1, 1) := by decide +kernel
theorem dX5_has_1 : decode cX5_has 1 = .ok (.iconst 0, 1) := by decide +kernel
theorem dX5_has_2 : decode cX5_has 2 = .ok (.bipush 23, 2) := by decide +kernel
theorem dX5_has_4 : decode cX5_has 4 = .ok (.invokestatic 42, 3) := by decide +kernel
theorem dX5_has_7 : decode cX5_has 7 = .ok (.ifCond .eq 20, 3) := by decide +kernel
theorem dX5_has_10 : decode cX5_has 10 = .ok (.aload_n 0, 1) := by decide +kernel
theorem dX5_has_11 : decode cX5_has 11 = .ok (.getfield 11, 3) := by decide +kernel
theorem dX5_has_14 : decode cX5_has 14 = .ok (.iload_n 1, 1) := by decide +kernel
theorem dX5_has_15 : decode cX5_has 15 = .ok (.aaload, 1) := by decide +kernel
theorem dX5_has_16 : decode cX5_has 16 = .ok (.getfield 29, 3) := by decide +kernel
theorem dX5_has_19 : decode cX5_has 19 = .ok (.iconst (-1), 1) := by decide +kernel
theorem dX5_has_20 : decode cX5_has 20 = .ok (.if_icmp .eq 7, 3) := by decide +kernel
theorem dX5_has_23 : decode cX5_has 23 = .ok (.iconst 1, 1) := by decide +kernel
theorem dX5_has_24 : decode cX5_has 24 = .ok (.goto 4, 3) := by decide +kernel
theorem dX5_has_27 : decode cX5_has 27 = .ok (.iconst 0, 1) := by decide +kernel
theorem dX5_has_28 : decode cX5_has 28 = .ok (.ireturn, 1) := by decide +kernel
theorem dX5_nodeAt_0 : decode cX5_nodeAt 0 = .ok (.iload_n 1, 1) := by decide +kernel
theorem dX5_nodeAt_1 : decode cX5_nodeAt 1 = .ok (.iconst 0, 1) := by decide +kernel
theorem dX5_nodeAt_2 : decode cX5_nodeAt 2 = .ok (.bipush 23, 2) := by decide +kernel
theorem dX5_nodeAt_4 : decode cX5_nodeAt 4 = .ok (.invokestatic 42, 3) := by decide +kernel
theorem dX5_nodeAt_7 : decode cX5_nodeAt 7 = .ok (.ifCond .eq 12, 3) := by decide +kernel
theorem dX5_nodeAt_10 : decode cX5_nodeAt 10 = .ok (.aload_n 0, 1) := by decide +kernel
theorem dX5_nodeAt_11 : decode cX5_nodeAt 11 = .ok (.getfield 11, 3) := by decide +kernel
theorem dX5_nodeAt_14 : decode cX5_nodeAt 14 = .ok (.iload_n 1, 1) := by decide +kernel
theorem dX5_nodeAt_15 : decode cX5_nodeAt 15 = .ok (.aaload, 1) := by decide +kernel
theorem dX5_nodeAt_16 : decode cX5_nodeAt 16 = .ok (.goto 9, 3) := by decide +kernel
theorem dX5_nodeAt_19 : decode cX5_nodeAt 19 = .ok (.aload_n 0, 1) := by decide +kernel
theorem dX5_nodeAt_20 : decode cX5_nodeAt 20 = .ok (.getfield 11, 3) := by decide +kernel
theorem dX5_nodeAt_23 : decode cX5_nodeAt 23 = .ok (.iconst 0, 1) := by decide +kernel
theorem dX5_nodeAt_24 : decode cX5_nodeAt 24 = .ok (.aaload, 1) := by decide +kernel
theorem dX5_nodeAt_25 : decode cX5_nodeAt 25 = .ok (.areturn, 1) := by decide +kernel
theorem dX5_freeNumber_0 : decode cX5_freeNumber 0 = .ok (.iconst 1, 1) := by decide +kernel
theorem dX5_freeNumber_1 : decode cX5_freeNumber 1 = .ok (.istore_n 1, 1) := by decide +kernel
theorem dX5_freeNumber_2 : decode cX5_freeNumber 2 = .ok (.iload_n 1, 1) := by decide +kernel
theorem dX5_freeNumber_3 : decode cX5_freeNumber 3 = .ok (.bipush 24, 2) := by decide +kernel
theorem dX5_freeNumber_5 : decode cX5_freeNumber 5 = .ok (.if_icmp .ge 24, 3) := by decide +kernel
theorem dX5_freeNumber_8 : decode cX5_freeNumber 8 = .ok (.aload_n 0, 1) := by decide +kernel
theorem dX5_freeNumber_9 : decode cX5_freeNumber 9 = .ok (.getfield 11, 3) := by decide +kernel
theorem dX5_freeNumber_12 : decode cX5_freeNumber 12 = .ok (.iload_n 1, 1) := by decide +kernel
theorem dX5_freeNumber_13 : decode cX5_freeNumber 13 = .ok (.aaload, 1) := by decide +kernel
theorem dX5_freeNumber_14 : decode cX5_freeNumber 14 = .ok (.getfield 29, 3) := by decide +kernel
theorem dX5_freeNumber_17 : decode cX5_freeNumber 17 = .ok (.iconst (-1), 1) := by decide +kernel
theorem dX5_freeNumber_18 : decode cX5_freeNumber 18 = .ok (.if_icmp .ne 5, 3) := by decide +kernel
theorem dX5_freeNumber_21 : decode cX5_freeNumber 21 = .ok (.iload_n 1, 1) := by decide +kernel
theorem dX5_freeNumber_22 : decode cX5_freeNumber 22 = .ok (.ireturn, 1) := by decide +kernel
theorem dX5_freeNumber_23 : decode cX5_freeNumber 23 = .ok (.iinc 1 1, 3) := by decide +kernel
theorem dX5_freeNumber_26 : decode cX5_freeNumber 26 = .ok (.goto (-24), 3) := by decide +kernel
theorem dX5_freeNumber_29 : decode cX5_freeNumber 29 = .ok (.iconst (-1), 1) := by decide +kernel
theorem dX5_freeNumber_30 : decode cX5_freeNumber 30 = .ok (.ireturn, 1) := by decide +kernel
theorem dX5_startOf_0 : decode cX5_startOf 0 = .ok (.iconst 0, 1) := by decide +kernel
theorem dX5_startOf_1 : decode cX5_startOf 1 = .ok (.istore_n 2, 1) := by decide +kernel
theorem dX5_startOf_2 : decode cX5_startOf 2 = .ok (.iload_n 2, 1) := by decide +kernel
theorem dX5_startOf_3 : decode cX5_startOf 3 = .ok (.aload_n 0, 1) := by decide +kernel
theorem dX5_startOf_4 : decode cX5_startOf 4 = .ok (.getfield 25, 3) := by decide +kernel
theorem dX5_startOf_7 : decode cX5_startOf 7 = .ok (.if_icmp .ge 21, 3) := by decide +kernel
theorem dX5_startOf_10 : decode cX5_startOf 10 = .ok (.aload_n 0, 1) := by decide +kernel
theorem dX5_startOf_11 : decode cX5_startOf 11 = .ok (.getfield 18, 3) := by decide +kernel
theorem dX5_startOf_14 : decode cX5_startOf 14 = .ok (.iload_n 2, 1) := by decide +kernel
theorem dX5_startOf_15 : decode cX5_startOf 15 = .ok (.iaload, 1) := by decide +kernel
theorem dX5_startOf_16 : decode cX5_startOf 16 = .ok (.iload_n 1, 1) := by decide +kernel
theorem dX5_startOf_17 : decode cX5_startOf 17 = .ok (.if_icmp .ne 5, 3) := by decide +kernel
theorem dX5_startOf_20 : decode cX5_startOf 20 = .ok (.iload_n 2, 1) := by decide +kernel
theorem dX5_startOf_21 : decode cX5_startOf 21 = .ok (.ireturn, 1) := by decide +kernel
theorem dX5_startOf_22 : decode cX5_startOf 22 = .ok (.iinc 2 1, 3) := by decide +kernel
theorem dX5_startOf_25 : decode cX5_startOf 25 = .ok (.goto (-23), 3) := by decide +kernel
theorem dX5_startOf_28 : decode cX5_startOf 28 = .ok (.aload_n 0, 1) := by decide +kernel
theorem dX5_startOf_29 : decode cX5_startOf 29 = .ok (.getfield 25, 3) := by decide +kernel
theorem dX5_startOf_32 : decode cX5_startOf 32 = .ok (.ireturn, 1) := by decide +kernel
theorem dX5_endOf_0 : decode cX5_endOf 0 = .ok (.aload_n 0, 1) := by decide +kernel
theorem dX5_endOf_1 : decode cX5_endOf 1 = .ok (.iload_n 1, 1) := by decide +kernel
theorem dX5_endOf_2 : decode cX5_endOf 2 = .ok (.invokevirtual 46, 3) := by decide +kernel
theorem dX5_endOf_5 : decode cX5_endOf 5 = .ok (.iconst 1, 1) := by decide +kernel
theorem dX5_endOf_6 : decode cX5_endOf 6 = .ok (.iadd, 1) := by decide +kernel
theorem dX5_endOf_7 : decode cX5_endOf 7 = .ok (.istore_n 2, 1) := by decide +kernel
theorem dX5_endOf_8 : decode cX5_endOf 8 = .ok (.aload_n 0, 1) := by decide +kernel
theorem dX5_endOf_9 : decode cX5_endOf 9 = .ok (.iload_n 1, 1) := by decide +kernel
theorem dX5_endOf_10 : decode cX5_endOf 10 = .ok (.invokevirtual 50, 3) := by decide +kernel
theorem dX5_endOf_13 : decode cX5_endOf 13 = .ok (.getfield 54, 3) := by decide +kernel
theorem dX5_endOf_16 : decode cX5_endOf 16 = .ok (.istore_n 3, 1) := by decide +kernel
theorem dX5_endOf_17 : decode cX5_endOf 17 = .ok (.iload_n 2, 1) := by decide +kernel
theorem dX5_endOf_18 : decode cX5_endOf 18 = .ok (.aload_n 0, 1) := by decide +kernel
theorem dX5_endOf_19 : decode cX5_endOf 19 = .ok (.getfield 25, 3) := by decide +kernel
theorem dX5_endOf_22 : decode cX5_endOf 22 = .ok (.if_icmp .ge 26, 3) := by decide +kernel
theorem dX5_endOf_25 : decode cX5_endOf 25 = .ok (.aload_n 0, 1) := by decide +kernel
theorem dX5_endOf_26 : decode cX5_endOf 26 = .ok (.aload_n 0, 1) := by decide +kernel
theorem dX5_endOf_27 : decode cX5_endOf 27 = .ok (.getfield 18, 3) := by decide +kernel
theorem dX5_endOf_30 : decode cX5_endOf 30 = .ok (.iload_n 2, 1) := by decide +kernel
theorem dX5_endOf_31 : decode cX5_endOf 31 = .ok (.iaload, 1) := by decide +kernel
theorem dX5_endOf_32 : decode cX5_endOf 32 = .ok (.invokevirtual 50, 3) := by decide +kernel
theorem dX5_endOf_35 : decode cX5_endOf 35 = .ok (.getfield 54, 3) := by decide +kernel
theorem dX5_endOf_38 : decode cX5_endOf 38 = .ok (.iload_n 3, 1) := by decide +kernel
theorem dX5_endOf_39 : decode cX5_endOf 39 = .ok (.if_icmp .le 9, 3) := by decide +kernel
theorem dX5_endOf_42 : decode cX5_endOf 42 = .ok (.iinc 2 1, 3) := by decide +kernel
theorem dX5_endOf_45 : decode cX5_endOf 45 = .ok (.goto (-28), 3) := by decide +kernel
theorem dX5_endOf_48 : decode cX5_endOf 48 = .ok (.iload_n 2, 1) := by decide +kernel
theorem dX5_endOf_49 : decode cX5_endOf 49 = .ok (.aload_n 0, 1) := by decide +kernel
theorem dX5_endOf_50 : decode cX5_endOf 50 = .ok (.getfield 25, 3) := by decide +kernel
theorem dX5_endOf_53 : decode cX5_endOf 53 = .ok (.invokestatic 57, 3) := by decide +kernel
theorem dX5_endOf_56 : decode cX5_endOf 56 = .ok (.ireturn, 1) := by decide +kernel
theorem dX5_append_0 : decode cX5_append 0 = .ok (.aload_n 0, 1) := by decide +kernel
theorem dX5_append_1 : decode cX5_append 1 = .ok (.iload_n 1, 1) := by decide +kernel
theorem dX5_append_2 : decode cX5_append 2 = .ok (.invokevirtual 50, 3) := by decide +kernel
theorem dX5_append_5 : decode cX5_append 5 = .ok (.iload_n 2, 1) := by decide +kernel
theorem dX5_append_6 : decode cX5_append 6 = .ok (.putfield 29, 3) := by decide +kernel
theorem dX5_append_9 : decode cX5_append 9 = .ok (.aload_n 0, 1) := by decide +kernel
theorem dX5_append_10 : decode cX5_append 10 = .ok (.getfield 22, 3) := by decide +kernel
theorem dX5_append_13 : decode cX5_append 13 = .ok (.iconst 0, 1) := by decide +kernel
theorem dX5_append_14 : decode cX5_append 14 = .ok (.iload_n 1, 1) := by decide +kernel
theorem dX5_append_15 : decode cX5_append 15 = .ok (.iastore, 1) := by decide +kernel
theorem dX5_append_16 : decode cX5_append 16 = .ok (.aload_n 0, 1) := by decide +kernel
theorem dX5_append_17 : decode cX5_append 17 = .ok (.iconst 1, 1) := by decide +kernel
theorem dX5_append_18 : decode cX5_append 18 = .ok (.iload_n 3, 1) := by decide +kernel
theorem dX5_append_19 : decode cX5_append 19 = .ok (.invokevirtual 69, 3) := by decide +kernel
theorem dX5_append_22 : decode cX5_append 22 = .ok (.return_, 1) := by decide +kernel
theorem dX5_putIn_0 : decode cX5_putIn 0 = .ok (.iload_n 1, 1) := by decide +kernel
theorem dX5_putIn_1 : decode cX5_putIn 1 = .ok (.iconst 1, 1) := by decide +kernel
theorem dX5_putIn_2 : decode cX5_putIn 2 = .ok (.if_icmp .lt 14, 3) := by decide +kernel
theorem dX5_putIn_5 : decode cX5_putIn 5 = .ok (.aload_n 0, 1) := by decide +kernel
theorem dX5_putIn_6 : decode cX5_putIn 6 = .ok (.getfield 25, 3) := by decide +kernel
theorem dX5_putIn_9 : decode cX5_putIn 9 = .ok (.iload_n 1, 1) := by decide +kernel
theorem dX5_putIn_10 : decode cX5_putIn 10 = .ok (.iadd, 1) := by decide +kernel
theorem dX5_putIn_11 : decode cX5_putIn 11 = .ok (.bipush 24, 2) := by decide +kernel
theorem dX5_putIn_13 : decode cX5_putIn 13 = .ok (.if_icmp .le 4, 3) := by decide +kernel
theorem dX5_putIn_16 : decode cX5_putIn 16 = .ok (.return_, 1) := by decide +kernel
theorem dX5_putIn_17 : decode cX5_putIn 17 = .ok (.aload_n 0, 1) := by decide +kernel
theorem dX5_putIn_18 : decode cX5_putIn 18 = .ok (.iload_n 2, 1) := by decide +kernel
theorem dX5_putIn_19 : decode cX5_putIn 19 = .ok (.invokevirtual 63, 3) := by decide +kernel
theorem dX5_putIn_22 : decode cX5_putIn 22 = .ok (.istore_n 3, 1) := by decide +kernel
theorem dX5_putIn_23 : decode cX5_putIn 23 = .ok (.aload_n 0, 1) := by decide +kernel
theorem dX5_putIn_24 : decode cX5_putIn 24 = .ok (.getfield 25, 3) := by decide +kernel
theorem dX5_putIn_27 : decode cX5_putIn 27 = .ok (.iconst 1, 1) := by decide +kernel
theorem dX5_putIn_28 : decode cX5_putIn 28 = .ok (.isub, 1) := by decide +kernel
theorem dX5_putIn_29 : decode cX5_putIn 29 = .ok (.istore 4, 2) := by decide +kernel
theorem dX5_putIn_31 : decode cX5_putIn 31 = .ok (.iload 4, 2) := by decide +kernel
theorem dX5_putIn_33 : decode cX5_putIn 33 = .ok (.iload_n 3, 1) := by decide +kernel
theorem dX5_putIn_34 : decode cX5_putIn 34 = .ok (.if_icmp .lt 25, 3) := by decide +kernel
theorem dX5_putIn_37 : decode cX5_putIn 37 = .ok (.aload_n 0, 1) := by decide +kernel
theorem dX5_putIn_38 : decode cX5_putIn 38 = .ok (.getfield 18, 3) := by decide +kernel
theorem dX5_putIn_41 : decode cX5_putIn 41 = .ok (.iload 4, 2) := by decide +kernel
theorem dX5_putIn_43 : decode cX5_putIn 43 = .ok (.iload_n 1, 1) := by decide +kernel
theorem dX5_putIn_44 : decode cX5_putIn 44 = .ok (.iadd, 1) := by decide +kernel
theorem dX5_putIn_45 : decode cX5_putIn 45 = .ok (.aload_n 0, 1) := by decide +kernel
theorem dX5_putIn_46 : decode cX5_putIn 46 = .ok (.getfield 18, 3) := by decide +kernel
theorem dX5_putIn_49 : decode cX5_putIn 49 = .ok (.iload 4, 2) := by decide +kernel
theorem dX5_putIn_51 : decode cX5_putIn 51 = .ok (.iaload, 1) := by decide +kernel
theorem dX5_putIn_52 : decode cX5_putIn 52 = .ok (.iastore, 1) := by decide +kernel
theorem dX5_putIn_53 : decode cX5_putIn 53 = .ok (.iinc 4 (-1), 3) := by decide +kernel
theorem dX5_putIn_56 : decode cX5_putIn 56 = .ok (.goto (-25), 3) := by decide +kernel
theorem dX5_putIn_59 : decode cX5_putIn 59 = .ok (.iconst 0, 1) := by decide +kernel
theorem dX5_putIn_60 : decode cX5_putIn 60 = .ok (.istore 4, 2) := by decide +kernel
theorem dX5_putIn_62 : decode cX5_putIn 62 = .ok (.iload 4, 2) := by decide +kernel
theorem dX5_putIn_64 : decode cX5_putIn 64 = .ok (.iload_n 1, 1) := by decide +kernel
theorem dX5_putIn_65 : decode cX5_putIn 65 = .ok (.if_icmp .ge 25, 3) := by decide +kernel
theorem dX5_putIn_68 : decode cX5_putIn 68 = .ok (.aload_n 0, 1) := by decide +kernel
theorem dX5_putIn_69 : decode cX5_putIn 69 = .ok (.getfield 18, 3) := by decide +kernel
theorem dX5_putIn_72 : decode cX5_putIn 72 = .ok (.iload_n 3, 1) := by decide +kernel
theorem dX5_putIn_73 : decode cX5_putIn 73 = .ok (.iload 4, 2) := by decide +kernel
theorem dX5_putIn_75 : decode cX5_putIn 75 = .ok (.iadd, 1) := by decide +kernel
theorem dX5_putIn_76 : decode cX5_putIn 76 = .ok (.aload_n 0, 1) := by decide +kernel
theorem dX5_putIn_77 : decode cX5_putIn 77 = .ok (.getfield 22, 3) := by decide +kernel
theorem dX5_putIn_80 : decode cX5_putIn 80 = .ok (.iload 4, 2) := by decide +kernel
theorem dX5_putIn_82 : decode cX5_putIn 82 = .ok (.iaload, 1) := by decide +kernel
theorem dX5_putIn_83 : decode cX5_putIn 83 = .ok (.iastore, 1) := by decide +kernel
theorem dX5_putIn_84 : decode cX5_putIn 84 = .ok (.iinc 4 1, 3) := by decide +kernel
theorem dX5_putIn_87 : decode cX5_putIn 87 = .ok (.goto (-25), 3) := by decide +kernel
theorem dX5_putIn_90 : decode cX5_putIn 90 = .ok (.aload_n 0, 1) := by decide +kernel
theorem dX5_putIn_91 : decode cX5_putIn 91 = .ok (.dup, 1) := by decide +kernel
theorem dX5_putIn_92 : decode cX5_putIn 92 = .ok (.getfield 25, 3) := by decide +kernel
theorem dX5_putIn_95 : decode cX5_putIn 95 = .ok (.iload_n 1, 1) := by decide +kernel
theorem dX5_putIn_96 : decode cX5_putIn 96 = .ok (.iadd, 1) := by decide +kernel
theorem dX5_putIn_97 : decode cX5_putIn 97 = .ok (.putfield 25, 3) := by decide +kernel
theorem dX5_putIn_100 : decode cX5_putIn 100 = .ok (.aload_n 0, 1) := by decide +kernel
theorem dX5_putIn_101 : decode cX5_putIn 101 = .ok (.aload_n 0, 1) := by decide +kernel
theorem dX5_putIn_102 : decode cX5_putIn 102 = .ok (.getfield 22, 3) := by decide +kernel
theorem dX5_putIn_105 : decode cX5_putIn 105 = .ok (.iconst 0, 1) := by decide +kernel
theorem dX5_putIn_106 : decode cX5_putIn 106 = .ok (.iaload, 1) := by decide +kernel
theorem dX5_putIn_107 : decode cX5_putIn 107 = .ok (.invokevirtual 50, 3) := by decide +kernel
theorem dX5_putIn_110 : decode cX5_putIn 110 = .ok (.iload_n 2, 1) := by decide +kernel
theorem dX5_putIn_111 : decode cX5_putIn 111 = .ok (.putfield 66, 3) := by decide +kernel
theorem dX5_putIn_114 : decode cX5_putIn 114 = .ok (.aload_n 0, 1) := by decide +kernel
theorem dX5_putIn_115 : decode cX5_putIn 115 = .ok (.invokevirtual 79, 3) := by decide +kernel
theorem dX5_putIn_118 : decode cX5_putIn 118 = .ok (.return_, 1) := by decide +kernel
theorem dX5_settle_0 : decode cX5_settle 0 = .ok (.iconst 1, 1) := by decide +kernel
theorem dX5_settle_1 : decode cX5_settle 1 = .ok (.istore_n 1, 1) := by decide +kernel
theorem dX5_settle_2 : decode cX5_settle 2 = .ok (.iload_n 1, 1) := by decide +kernel
theorem dX5_settle_3 : decode cX5_settle 3 = .ok (.aload_n 0, 1) := by decide +kernel
theorem dX5_settle_4 : decode cX5_settle 4 = .ok (.getfield 25, 3) := by decide +kernel
theorem dX5_settle_7 : decode cX5_settle 7 = .ok (.if_icmp .ge 32, 3) := by decide +kernel
theorem dX5_settle_10 : decode cX5_settle 10 = .ok (.aload_n 0, 1) := by decide +kernel
theorem dX5_settle_11 : decode cX5_settle 11 = .ok (.aload_n 0, 1) := by decide +kernel
theorem dX5_settle_12 : decode cX5_settle 12 = .ok (.getfield 18, 3) := by decide +kernel
theorem dX5_settle_15 : decode cX5_settle 15 = .ok (.iload_n 1, 1) := by decide +kernel
theorem dX5_settle_16 : decode cX5_settle 16 = .ok (.iaload, 1) := by decide +kernel
theorem dX5_settle_17 : decode cX5_settle 17 = .ok (.invokevirtual 50, 3) := by decide +kernel
theorem dX5_settle_20 : decode cX5_settle 20 = .ok (.astore_n 2, 1) := by decide +kernel
theorem dX5_settle_21 : decode cX5_settle 21 = .ok (.aload_n 2, 1) := by decide +kernel
theorem dX5_settle_22 : decode cX5_settle 22 = .ok (.aload_n 0, 1) := by decide +kernel
theorem dX5_settle_23 : decode cX5_settle 23 = .ok (.aload_n 2, 1) := by decide +kernel
theorem dX5_settle_24 : decode cX5_settle 24 = .ok (.getfield 66, 3) := by decide +kernel
theorem dX5_settle_27 : decode cX5_settle 27 = .ok (.invokevirtual 50, 3) := by decide +kernel
theorem dX5_settle_30 : decode cX5_settle 30 = .ok (.invokevirtual 82, 3) := by decide +kernel
theorem dX5_settle_33 : decode cX5_settle 33 = .ok (.iinc 1 1, 3) := by decide +kernel
theorem dX5_settle_36 : decode cX5_settle 36 = .ok (.goto (-34), 3) := by decide +kernel
theorem dX5_settle_39 : decode cX5_settle 39 = .ok (.return_, 1) := by decide +kernel
theorem dX6_init_0 : decode cX6_init 0 = .ok (.aload_n 0, 1) := by decide +kernel
theorem dX6_init_1 : decode cX6_init 1 = .ok (.invokespecial 3, 3) := by decide +kernel
theorem dX6_init_4 : decode cX6_init 4 = .ok (.aload_n 0, 1) := by decide +kernel
theorem dX6_init_5 : decode cX6_init 5 = .ok (.new 9, 3) := by decide +kernel
theorem dX6_init_8 : decode cX6_init 8 = .ok (.dup, 1) := by decide +kernel
theorem dX6_init_9 : decode cX6_init 9 = .ok (.invokespecial 11, 3) := by decide +kernel
theorem dX6_init_12 : decode cX6_init 12 = .ok (.putfield 12, 3) := by decide +kernel
theorem dX6_init_15 : decode cX6_init 15 = .ok (.aload_n 0, 1) := by decide +kernel
theorem dX6_init_16 : decode cX6_init 16 = .ok (.iconst 5, 1) := by decide +kernel
theorem dX6_init_17 : decode cX6_init 17 = .ok (.anewarray 9, 3) := by decide +kernel
theorem dX6_init_20 : decode cX6_init 20 = .ok (.putfield 16, 3) := by decide +kernel
theorem dX6_init_23 : decode cX6_init 23 = .ok (.iconst 0, 1) := by decide +kernel
theorem dX6_init_24 : decode cX6_init 24 = .ok (.istore_n 1, 1) := by decide +kernel
theorem dX6_init_25 : decode cX6_init 25 = .ok (.iload_n 1, 1) := by decide +kernel
theorem dX6_init_26 : decode cX6_init 26 = .ok (.iconst 5, 1) := by decide +kernel
theorem dX6_init_27 : decode cX6_init 27 = .ok (.if_icmp .ge 22, 3) := by decide +kernel
theorem dX6_init_30 : decode cX6_init 30 = .ok (.aload_n 0, 1) := by decide +kernel
theorem dX6_init_31 : decode cX6_init 31 = .ok (.getfield 16, 3) := by decide +kernel
theorem dX6_init_34 : decode cX6_init 34 = .ok (.iload_n 1, 1) := by decide +kernel
theorem dX6_init_35 : decode cX6_init 35 = .ok (.new 9, 3) := by decide +kernel
theorem dX6_init_38 : decode cX6_init 38 = .ok (.dup, 1) := by decide +kernel
theorem dX6_init_39 : decode cX6_init 39 = .ok (.invokespecial 11, 3) := by decide +kernel
theorem dX6_init_42 : decode cX6_init 42 = .ok (.aastore, 1) := by decide +kernel
theorem dX6_init_43 : decode cX6_init 43 = .ok (.iinc 1 1, 3) := by decide +kernel
theorem dX6_init_46 : decode cX6_init 46 = .ok (.goto (-21), 3) := by decide +kernel
theorem dX6_init_49 : decode cX6_init 49 = .ok (.aload_n 0, 1) := by decide +kernel
theorem dX6_init_50 : decode cX6_init 50 = .ok (.iconst 0, 1) := by decide +kernel
theorem dX6_init_51 : decode cX6_init 51 = .ok (.putfield 20, 3) := by decide +kernel
theorem dX6_init_54 : decode cX6_init 54 = .ok (.aload_n 0, 1) := by decide +kernel
theorem dX6_init_55 : decode cX6_init 55 = .ok (.new 24, 3) := by decide +kernel
theorem dX6_init_58 : decode cX6_init 58 = .ok (.dup, 1) := by decide +kernel
theorem dX6_init_59 : decode cX6_init 59 = .ok (.invokespecial 26, 3) := by decide +kernel
theorem dX6_init_62 : decode cX6_init 62 = .ok (.putfield 27, 3) := by decide +kernel
theorem dX6_init_65 : decode cX6_init 65 = .ok (.aload_n 0, 1) := by decide +kernel
theorem dX6_init_66 : decode cX6_init 66 = .ok (.new 31, 3) := by decide +kernel
theorem dX6_init_69 : decode cX6_init 69 = .ok (.dup, 1) := by decide +kernel
theorem dX6_init_70 : decode cX6_init 70 = .ok (.invokespecial 33, 3) := by decide +kernel
theorem dX6_init_73 : decode cX6_init 73 = .ok (.putfield 34, 3) := by decide +kernel
theorem dX6_init_76 : decode cX6_init 76 = .ok (.aload_n 0, 1) := by decide +kernel
theorem dX6_init_77 : decode cX6_init 77 = .ok (.new 38, 3) := by decide +kernel
theorem dX6_init_80 : decode cX6_init 80 = .ok (.dup, 1) := by decide +kernel
theorem dX6_init_81 : decode cX6_init 81 = .ok (.invokespecial 40, 3) := by decide +kernel
theorem dX6_init_84 : decode cX6_init 84 = .ok (.putfield 41, 3) := by decide +kernel
theorem dX6_init_87 : decode cX6_init 87 = .ok (.aload_n 0, 1) := by decide +kernel
theorem dX6_init_88 : decode cX6_init 88 = .ok (.bipush 7, 2) := by decide +kernel
theorem dX6_init_90 : decode cX6_init 90 = .ok (.newarray .int, 2) := by decide +kernel
theorem dX6_init_92 : decode cX6_init 92 = .ok (.putfield 45, 3) := by decide +kernel
theorem dX6_init_95 : decode cX6_init 95 = .ok (.aload_n 0, 1) := by decide +kernel
theorem dX6_init_96 : decode cX6_init 96 = .ok (.bipush 101, 2) := by decide +kernel
theorem dX6_init_98 : decode cX6_init 98 = .ok (.newarray .int, 2) := by decide +kernel
theorem dX6_init_100 : decode cX6_init 100 = .ok (.putfield 49, 3) := by decide +kernel
theorem dX6_init_103 : decode cX6_init 103 = .ok (.return_, 1) := by decide +kernel
theorem dX6_setSize_0 : decode cX6_setSize 0 = .ok (.iload_n 1, 1) := by decide +kernel
theorem dX6_setSize_1 : decode cX6_setSize 1 = .ok (.iconst 1, 1) := by decide +kernel
theorem dX6_setSize_2 : decode cX6_setSize 2 = .ok (.bipush 12, 2) := by decide +kernel
theorem dX6_setSize_4 : decode cX6_setSize 4 = .ok (.invokestatic 52, 3) := by decide +kernel
theorem dX6_setSize_7 : decode cX6_setSize 7 = .ok (.ifCond .eq 13, 3) := by decide +kernel
theorem dX6_setSize_10 : decode cX6_setSize 10 = .ok (.iload_n 2, 1) := by decide +kernel
theorem dX6_setSize_11 : decode cX6_setSize 11 = .ok (.iconst 1, 1) := by decide +kernel
theorem dX6_setSize_12 : decode cX6_setSize 12 = .ok (.bipush 12, 2) := by decide +kernel
theorem dX6_setSize_14 : decode cX6_setSize 14 = .ok (.invokestatic 52, 3) := by decide +kernel
theorem dX6_setSize_17 : decode cX6_setSize 17 = .ok (.ifCond .ne 5, 3) := by decide +kernel
theorem dX6_setSize_20 : decode cX6_setSize 20 = .ok (.iconst (-1), 1) := by decide +kernel
theorem dX6_setSize_21 : decode cX6_setSize 21 = .ok (.ireturn, 1) := by decide +kernel
theorem dX6_setSize_22 : decode cX6_setSize 22 = .ok (.bipush 100, 2) := by decide +kernel
theorem dX6_setSize_24 : decode cX6_setSize 24 = .ok (.aload_n 0, 1) := by decide +kernel
theorem dX6_setSize_25 : decode cX6_setSize 25 = .ok (.getfield 12, 3) := by decide +kernel
theorem dX6_setSize_28 : decode cX6_setSize 28 = .ok (.getfield 56, 3) := by decide +kernel
theorem dX6_setSize_31 : decode cX6_setSize 31 = .ok (.imul, 1) := by decide +kernel
theorem dX6_setSize_32 : decode cX6_setSize 32 = .ok (.aload_n 0, 1) := by decide +kernel
theorem dX6_setSize_33 : decode cX6_setSize 33 = .ok (.getfield 12, 3) := by decide +kernel
theorem dX6_setSize_36 : decode cX6_setSize 36 = .ok (.getfield 59, 3) := by decide +kernel
theorem dX6_setSize_39 : decode cX6_setSize 39 = .ok (.iadd, 1) := by decide +kernel
theorem dX6_setSize_40 : decode cX6_setSize 40 = .ok (.istore_n 3, 1) := by decide +kernel
theorem dX6_setSize_41 : decode cX6_setSize 41 = .ok (.aload_n 0, 1) := by decide +kernel
theorem dX6_setSize_42 : decode cX6_setSize 42 = .ok (.invokevirtual 62, 3) := by decide +kernel
theorem dX6_setSize_45 : decode cX6_setSize 45 = .ok (.aload_n 0, 1) := by decide +kernel
theorem dX6_setSize_46 : decode cX6_setSize 46 = .ok (.getfield 12, 3) := by decide +kernel
theorem dX6_setSize_49 : decode cX6_setSize 49 = .ok (.iload_n 1, 1) := by decide +kernel
theorem dX6_setSize_50 : decode cX6_setSize 50 = .ok (.putfield 56, 3) := by decide +kernel
theorem dX6_setSize_53 : decode cX6_setSize 53 = .ok (.aload_n 0, 1) := by decide +kernel
theorem dX6_setSize_54 : decode cX6_setSize 54 = .ok (.getfield 12, 3) := by decide +kernel
theorem dX6_setSize_57 : decode cX6_setSize 57 = .ok (.iload_n 2, 1) := by decide +kernel
theorem dX6_setSize_58 : decode cX6_setSize 58 = .ok (.putfield 59, 3) := by decide +kernel
theorem dX6_setSize_61 : decode cX6_setSize 61 = .ok (.iload_n 3, 1) := by decide +kernel
theorem dX6_setSize_62 : decode cX6_setSize 62 = .ok (.ireturn, 1) := by decide +kernel
theorem dX6_addGroup_0 : decode cX6_addGroup 0 = .ok (.iload_n 2, 1) := by decide +kernel
theorem dX6_addGroup_1 : decode cX6_addGroup 1 = .ok (.iconst 0, 1) := by decide +kernel
theorem dX6_addGroup_2 : decode cX6_addGroup 2 = .ok (.bipush 100, 2) := by decide +kernel
theorem dX6_addGroup_4 : decode cX6_addGroup 4 = .ok (.invokestatic 52, 3) := by decide +kernel
theorem dX6_addGroup_7 : decode cX6_addGroup 7 = .ok (.ifCond .eq 18, 3) := by decide +kernel
theorem dX6_addGroup_10 : decode cX6_addGroup 10 = .ok (.iload_n 3, 1) := by decide +kernel
theorem dX6_addGroup_11 : decode cX6_addGroup 11 = .ok (.invokestatic 65, 3) := by decide +kernel
theorem dX6_addGroup_14 : decode cX6_addGroup 14 = .ok (.ifCond .eq 11, 3) := by decide +kernel
theorem dX6_addGroup_17 : decode cX6_addGroup 17 = .ok (.iload 4, 2) := by decide +kernel
theorem dX6_addGroup_19 : decode cX6_addGroup 19 = .ok (.invokestatic 65, 3) := by decide +kernel
theorem dX6_addGroup_22 : decode cX6_addGroup 22 = .ok (.ifCond .ne 5, 3) := by decide +kernel
theorem dX6_addGroup_25 : decode cX6_addGroup 25 = .ok (.iconst (-1), 1) := by decide +kernel
theorem dX6_addGroup_26 : decode cX6_addGroup 26 = .ok (.ireturn, 1) := by decide +kernel
theorem dX6_addGroup_27 : decode cX6_addGroup 27 = .ok (.aload_n 0, 1) := by decide +kernel
theorem dX6_addGroup_28 : decode cX6_addGroup 28 = .ok (.iload_n 1, 1) := by decide +kernel
theorem dX6_addGroup_29 : decode cX6_addGroup 29 = .ok (.invokevirtual 69, 3) := by decide +kernel
theorem dX6_addGroup_32 : decode cX6_addGroup 32 = .ok (.istore 5, 2) := by decide +kernel
theorem dX6_addGroup_34 : decode cX6_addGroup 34 = .ok (.iload 5, 2) := by decide +kernel
theorem dX6_addGroup_36 : decode cX6_addGroup 36 = .ok (.ifCond .ge 6, 3) := by decide +kernel
theorem dX6_addGroup_39 : decode cX6_addGroup 39 = .ok (.iload 5, 2) := by decide +kernel
theorem dX6_addGroup_41 : decode cX6_addGroup 41 = .ok (.ireturn, 1) := by decide +kernel
theorem dX6_addGroup_42 : decode cX6_addGroup 42 = .ok (.aload_n 0, 1) := by decide +kernel
theorem dX6_addGroup_43 : decode cX6_addGroup 43 = .ok (.invokevirtual 62, 3) := by decide +kernel
theorem dX6_addGroup_46 : decode cX6_addGroup 46 = .ok (.aload_n 0, 1) := by decide +kernel
theorem dX6_addGroup_47 : decode cX6_addGroup 47 = .ok (.getfield 12, 3) := by decide +kernel
theorem dX6_addGroup_50 : decode cX6_addGroup 50 = .ok (.getfield 73, 3) := by decide +kernel
theorem dX6_addGroup_53 : decode cX6_addGroup 53 = .ok (.iload 5, 2) := by decide +kernel
theorem dX6_addGroup_55 : decode cX6_addGroup 55 = .ok (.invokevirtual 77, 3) := by decide +kernel
theorem dX6_addGroup_58 : decode cX6_addGroup 58 = .ok (.astore 6, 2) := by decide +kernel
theorem dX6_addGroup_60 : decode cX6_addGroup 60 = .ok (.aload 6, 2) := by decide +kernel
theorem dX6_addGroup_62 : decode cX6_addGroup 62 = .ok (.iload_n 2, 1) := by decide +kernel
theorem dX6_addGroup_63 : decode cX6_addGroup 63 = .ok (.putfield 83, 3) := by decide +kernel
theorem dX6_addGroup_66 : decode cX6_addGroup 66 = .ok (.aload 6, 2) := by decide +kernel
theorem dX6_addGroup_68 : decode cX6_addGroup 68 = .ok (.iload_n 3, 1) := by decide +kernel
theorem dX6_addGroup_69 : decode cX6_addGroup 69 = .ok (.putfield 86, 3) := by decide +kernel
theorem dX6_addGroup_72 : decode cX6_addGroup 72 = .ok (.aload 6, 2) := by decide +kernel
theorem dX6_addGroup_74 : decode cX6_addGroup 74 = .ok (.iload 4, 2) := by decide +kernel
theorem dX6_addGroup_76 : decode cX6_addGroup 76 = .ok (.putfield 89, 3) := by decide +kernel
theorem dX6_addGroup_79 : decode cX6_addGroup 79 = .ok (.aload_n 0, 1) := by decide +kernel
theorem dX6_addGroup_80 : decode cX6_addGroup 80 = .ok (.getfield 12, 3) := by decide +kernel
theorem dX6_addGroup_83 : decode cX6_addGroup 83 = .ok (.getfield 73, 3) := by decide +kernel
theorem dX6_addGroup_86 : decode cX6_addGroup 86 = .ok (.iload 5, 2) := by decide +kernel
theorem dX6_addGroup_88 : decode cX6_addGroup 88 = .ok (.iconst 0, 1) := by decide +kernel
theorem dX6_addGroup_89 : decode cX6_addGroup 89 = .ok (.iload_n 1, 1) := by decide +kernel
theorem dX6_addGroup_90 : decode cX6_addGroup 90 = .ok (.invokevirtual 92, 3) := by decide +kernel
theorem dX6_addGroup_93 : decode cX6_addGroup 93 = .ok (.iload 5, 2) := by decide +kernel
theorem dX6_addGroup_95 : decode cX6_addGroup 95 = .ok (.ireturn, 1) := by decide +kernel
theorem dX6_addRect_0 : decode cX6_addRect 0 = .ok (.aload_n 0, 1) := by decide +kernel
theorem dX6_addRect_1 : decode cX6_addRect 1 = .ok (.iload_n 1, 1) := by decide +kernel
theorem dX6_addRect_2 : decode cX6_addRect 2 = .ok (.invokevirtual 69, 3) := by decide +kernel
theorem dX6_addRect_5 : decode cX6_addRect 5 = .ok (.istore_n 2, 1) := by decide +kernel
theorem dX6_addRect_6 : decode cX6_addRect 6 = .ok (.iload_n 2, 1) := by decide +kernel
theorem dX6_addRect_7 : decode cX6_addRect 7 = .ok (.ifCond .ge 5, 3) := by decide +kernel
theorem dX6_addRect_10 : decode cX6_addRect 10 = .ok (.iload_n 2, 1) := by decide +kernel
theorem dX6_addRect_11 : decode cX6_addRect 11 = .ok (.ireturn, 1) := by decide +kernel
theorem dX6_addRect_12 : decode cX6_addRect 12 = .ok (.aload_n 0, 1) := by decide +kernel
theorem dX6_addRect_13 : decode cX6_addRect 13 = .ok (.invokevirtual 62, 3) := by decide +kernel
theorem dX6_addRect_16 : decode cX6_addRect 16 = .ok (.aload_n 0, 1) := by decide +kernel
theorem dX6_addRect_17 : decode cX6_addRect 17 = .ok (.getfield 12, 3) := by decide +kernel
theorem dX6_addRect_20 : decode cX6_addRect 20 = .ok (.getfield 73, 3) := by decide +kernel
theorem dX6_addRect_23 : decode cX6_addRect 23 = .ok (.iload_n 2, 1) := by decide +kernel
theorem dX6_addRect_24 : decode cX6_addRect 24 = .ok (.invokevirtual 77, 3) := by decide +kernel
theorem dX6_addRect_27 : decode cX6_addRect 27 = .ok (.astore_n 3, 1) := by decide +kernel
theorem dX6_addRect_28 : decode cX6_addRect 28 = .ok (.aload_n 3, 1) := by decide +kernel
theorem dX6_addRect_29 : decode cX6_addRect 29 = .ok (.aload_n 0, 1) := by decide +kernel
theorem dX6_addRect_30 : decode cX6_addRect 30 = .ok (.getfield 27, 3) := by decide +kernel
theorem dX6_addRect_33 : decode cX6_addRect 33 = .ok (.invokevirtual 96, 3) := by decide +kernel
theorem dX6_addRect_36 : decode cX6_addRect 36 = .ok (.aload_n 3, 1) := by decide +kernel
theorem dX6_addRect_37 : decode cX6_addRect 37 = .ok (.aload_n 0, 1) := by decide +kernel
theorem dX6_addRect_38 : decode cX6_addRect 38 = .ok (.getfield 27, 3) := by decide +kernel
theorem dX6_addRect_41 : decode cX6_addRect 41 = .ok (.invokevirtual 100, 3) := by decide +kernel
theorem dX6_addRect_44 : decode cX6_addRect 44 = .ok (.aload_n 0, 1) := by decide +kernel
theorem dX6_addRect_45 : decode cX6_addRect 45 = .ok (.getfield 12, 3) := by decide +kernel
theorem dX6_addRect_48 : decode cX6_addRect 48 = .ok (.getfield 73, 3) := by decide +kernel
theorem dX6_addRect_51 : decode cX6_addRect 51 = .ok (.iload_n 2, 1) := by decide +kernel
theorem dX6_addRect_52 : decode cX6_addRect 52 = .ok (.iconst 1, 1) := by decide +kernel
theorem dX6_addRect_53 : decode cX6_addRect 53 = .ok (.iload_n 1, 1) := by decide +kernel
theorem dX6_addRect_54 : decode cX6_addRect 54 = .ok (.invokevirtual 92, 3) := by decide +kernel
theorem dX6_addRect_57 : decode cX6_addRect 57 = .ok (.iload_n 2, 1) := by decide +kernel
theorem dX6_addRect_58 : decode cX6_addRect 58 = .ok (.ireturn, 1) := by decide +kernel
theorem dX6_addSpot_0 : decode cX6_addSpot 0 = .ok (.iload_n 2, 1) := by decide +kernel
theorem dX6_addSpot_1 : decode cX6_addSpot 1 = .ok (.iconst 0, 1) := by decide +kernel
theorem dX6_addSpot_2 : decode cX6_addSpot 2 = .ok (.iconst 2, 1) := by decide +kernel
theorem dX6_addSpot_3 : decode cX6_addSpot 3 = .ok (.invokestatic 52, 3) := by decide +kernel
theorem dX6_addSpot_6 : decode cX6_addSpot 6 = .ok (.ifCond .eq 10, 3) := by decide +kernel
theorem dX6_addSpot_9 : decode cX6_addSpot 9 = .ok (.iload_n 3, 1) := by decide +kernel
theorem dX6_addSpot_10 : decode cX6_addSpot 10 = .ok (.invokestatic 103, 3) := by decide +kernel
theorem dX6_addSpot_13 : decode cX6_addSpot 13 = .ok (.ifCond .ne 5, 3) := by decide +kernel
theorem dX6_addSpot_16 : decode cX6_addSpot 16 = .ok (.iconst (-1), 1) := by decide +kernel
theorem dX6_addSpot_17 : decode cX6_addSpot 17 = .ok (.ireturn, 1) := by decide +kernel
theorem dX6_addSpot_18 : decode cX6_addSpot 18 = .ok (.aload_n 0, 1) := by decide +kernel
theorem dX6_addSpot_19 : decode cX6_addSpot 19 = .ok (.iload_n 1, 1) := by decide +kernel
theorem dX6_addSpot_20 : decode cX6_addSpot 20 = .ok (.invokevirtual 69, 3) := by decide +kernel
theorem dX6_addSpot_23 : decode cX6_addSpot 23 = .ok (.istore 4, 2) := by decide +kernel
theorem dX6_addSpot_25 : decode cX6_addSpot 25 = .ok (.iload 4, 2) := by decide +kernel
theorem dX6_addSpot_27 : decode cX6_addSpot 27 = .ok (.ifCond .ge 6, 3) := by decide +kernel
theorem dX6_addSpot_30 : decode cX6_addSpot 30 = .ok (.iload 4, 2) := by decide +kernel
theorem dX6_addSpot_32 : decode cX6_addSpot 32 = .ok (.ireturn, 1) := by decide +kernel
theorem dX6_addSpot_33 : decode cX6_addSpot 33 = .ok (.aload_n 0, 1) := by decide +kernel
theorem dX6_addSpot_34 : decode cX6_addSpot 34 = .ok (.invokevirtual 62, 3) := by decide +kernel
theorem dX6_addSpot_37 : decode cX6_addSpot 37 = .ok (.aload_n 0, 1) := by decide +kernel
theorem dX6_addSpot_38 : decode cX6_addSpot 38 = .ok (.getfield 12, 3) := by decide +kernel
theorem dX6_addSpot_41 : decode cX6_addSpot 41 = .ok (.getfield 73, 3) := by decide +kernel
theorem dX6_addSpot_44 : decode cX6_addSpot 44 = .ok (.iload 4, 2) := by decide +kernel
theorem dX6_addSpot_46 : decode cX6_addSpot 46 = .ok (.invokevirtual 77, 3) := by decide +kernel
theorem dX6_addSpot_49 : decode cX6_addSpot 49 = .ok (.astore 5, 2) := by decide +kernel
theorem dX6_addSpot_51 : decode cX6_addSpot 51 = .ok (.aload 5, 2) := by decide +kernel
theorem dX6_addSpot_53 : decode cX6_addSpot 53 = .ok (.aload_n 0, 1) := by decide +kernel
theorem dX6_addSpot_54 : decode cX6_addSpot 54 = .ok (.getfield 27, 3) := by decide +kernel
theorem dX6_addSpot_57 : decode cX6_addSpot 57 = .ok (.invokevirtual 96, 3) := by decide +kernel
theorem dX6_addSpot_60 : decode cX6_addSpot 60 = .ok (.aload 5, 2) := by decide +kernel
theorem dX6_addSpot_62 : decode cX6_addSpot 62 = .ok (.iload_n 2, 1) := by decide +kernel
theorem dX6_addSpot_63 : decode cX6_addSpot 63 = .ok (.putfield 106, 3) := by decide +kernel
theorem dX6_addSpot_66 : decode cX6_addSpot 66 = .ok (.aload 5, 2) := by decide +kernel
theorem dX6_addSpot_68 : decode cX6_addSpot 68 = .ok (.iload_n 3, 1) := by decide +kernel
theorem dX6_addSpot_69 : decode cX6_addSpot 69 = .ok (.putfield 109, 3) := by decide +kernel
theorem dX6_addSpot_72 : decode cX6_addSpot 72 = .ok (.aload_n 0, 1) := by decide +kernel
theorem dX6_addSpot_73 : decode cX6_addSpot 73 = .ok (.getfield 12, 3) := by decide +kernel
theorem dX6_addSpot_76 : decode cX6_addSpot 76 = .ok (.getfield 73, 3) := by decide +kernel
theorem dX6_addSpot_79 : decode cX6_addSpot 79 = .ok (.iload 4, 2) := by decide +kernel
theorem dX6_addSpot_81 : decode cX6_addSpot 81 = .ok (.iconst 2, 1) := by decide +kernel
theorem dX6_addSpot_82 : decode cX6_addSpot 82 = .ok (.iload_n 1, 1) := by decide +kernel
theorem dX6_addSpot_83 : decode cX6_addSpot 83 = .ok (.invokevirtual 92, 3) := by decide +kernel
theorem dX6_addSpot_86 : decode cX6_addSpot 86 = .ok (.iload 4, 2) := by decide +kernel
theorem dX6_addSpot_88 : decode cX6_addSpot 88 = .ok (.ireturn, 1) := by decide +kernel
theorem dX6_setBox_0 : decode cX6_setBox 0 = .ok (.iload_n 1, 1) := by decide +kernel
theorem dX6_setBox_1 : decode cX6_setBox 1 = .ok (.invokestatic 65, 3) := by decide +kernel
theorem dX6_setBox_4 : decode cX6_setBox 4 = .ok (.ifCond .eq 31, 3) := by decide +kernel
theorem dX6_setBox_7 : decode cX6_setBox 7 = .ok (.iload_n 2, 1) := by decide +kernel
theorem dX6_setBox_8 : decode cX6_setBox 8 = .ok (.invokestatic 65, 3) := by decide +kernel
theorem dX6_setBox_11 : decode cX6_setBox 11 = .ok (.ifCond .eq 24, 3) := by decide +kernel
theorem dX6_setBox_14 : decode cX6_setBox 14 = .ok (.iload_n 3, 1) := by decide +kernel
theorem dX6_setBox_15 : decode cX6_setBox 15 = .ok (.iconst 1, 1) := by decide +kernel
theorem dX6_setBox_16 : decode cX6_setBox 16 = .ok (.bipush 12, 2) := by decide +kernel
theorem dX6_setBox_18 : decode cX6_setBox 18 = .ok (.invokestatic 52, 3) := by decide +kernel
theorem dX6_setBox_21 : decode cX6_setBox 21 = .ok (.ifCond .eq 14, 3) := by decide +kernel
theorem dX6_setBox_24 : decode cX6_setBox 24 = .ok (.iload 4, 2) := by decide +kernel
theorem dX6_setBox_26 : decode cX6_setBox 26 = .ok (.iconst 1, 1) := by decide +kernel
theorem dX6_setBox_27 : decode cX6_setBox 27 = .ok (.bipush 12, 2) := by decide +kernel
theorem dX6_setBox_29 : decode cX6_setBox 29 = .ok (.invokestatic 52, 3) := by decide +kernel
theorem dX6_setBox_32 : decode cX6_setBox 32 = .ok (.ifCond .ne 5, 3) := by decide +kernel
theorem dX6_setBox_35 : decode cX6_setBox 35 = .ok (.iconst (-1), 1) := by decide +kernel
theorem dX6_setBox_36 : decode cX6_setBox 36 = .ok (.ireturn, 1) := by decide +kernel
theorem dX6_setBox_37 : decode cX6_setBox 37 = .ok (.aload_n 0, 1) := by decide +kernel
theorem dX6_setBox_38 : decode cX6_setBox 38 = .ok (.getfield 27, 3) := by decide +kernel
theorem dX6_setBox_41 : decode cX6_setBox 41 = .ok (.iload_n 1, 1) := by decide +kernel
theorem dX6_setBox_42 : decode cX6_setBox 42 = .ok (.putfield 112, 3) := by decide +kernel
theorem dX6_setBox_45 : decode cX6_setBox 45 = .ok (.aload_n 0, 1) := by decide +kernel
theorem dX6_setBox_46 : decode cX6_setBox 46 = .ok (.getfield 27, 3) := by decide +kernel
theorem dX6_setBox_49 : decode cX6_setBox 49 = .ok (.iload_n 2, 1) := by decide +kernel
theorem dX6_setBox_50 : decode cX6_setBox 50 = .ok (.putfield 115, 3) := by decide +kernel
theorem dX6_setBox_53 : decode cX6_setBox 53 = .ok (.aload_n 0, 1) := by decide +kernel
theorem dX6_setBox_54 : decode cX6_setBox 54 = .ok (.getfield 27, 3) := by decide +kernel
theorem dX6_setBox_57 : decode cX6_setBox 57 = .ok (.iload_n 3, 1) := by decide +kernel
theorem dX6_setBox_58 : decode cX6_setBox 58 = .ok (.putfield 118, 3) := by decide +kernel
theorem dX6_setBox_61 : decode cX6_setBox 61 = .ok (.aload_n 0, 1) := by decide +kernel
theorem dX6_setBox_62 : decode cX6_setBox 62 = .ok (.getfield 27, 3) := by decide +kernel
theorem dX6_setBox_65 : decode cX6_setBox 65 = .ok (.iload 4, 2) := by decide +kernel
theorem dX6_setBox_67 : decode cX6_setBox 67 = .ok (.putfield 121, 3) := by decide +kernel
theorem dX6_setBox_70 : decode cX6_setBox 70 = .ok (.iload_n 3, 1) := by decide +kernel
theorem dX6_setBox_71 : decode cX6_setBox 71 = .ok (.iload 4, 2) := by decide +kernel
theorem dX6_setBox_73 : decode cX6_setBox 73 = .ok (.imul, 1) := by decide +kernel
theorem dX6_setBox_74 : decode cX6_setBox 74 = .ok (.ireturn, 1) := by decide +kernel
theorem dX6_setInk_0 : decode cX6_setInk 0 = .ok (.iload_n 1, 1) := by decide +kernel
theorem dX6_setInk_1 : decode cX6_setInk 1 = .ok (.invokestatic 103, 3) := by decide +kernel
theorem dX6_setInk_4 : decode cX6_setInk 4 = .ok (.ifCond .eq 17, 3) := by decide +kernel
theorem dX6_setInk_7 : decode cX6_setInk 7 = .ok (.iload_n 2, 1) := by decide +kernel
theorem dX6_setInk_8 : decode cX6_setInk 8 = .ok (.invokestatic 103, 3) := by decide +kernel
theorem dX6_setInk_11 : decode cX6_setInk 11 = .ok (.ifCond .eq 10, 3) := by decide +kernel
theorem dX6_setInk_14 : decode cX6_setInk 14 = .ok (.iload_n 3, 1) := by decide +kernel
theorem dX6_setInk_15 : decode cX6_setInk 15 = .ok (.invokestatic 103, 3) := by decide +kernel
theorem dX6_setInk_18 : decode cX6_setInk 18 = .ok (.ifCond .ne 5, 3) := by decide +kernel
theorem dX6_setInk_21 : decode cX6_setInk 21 = .ok (.iconst (-1), 1) := by decide +kernel
theorem dX6_setInk_22 : decode cX6_setInk 22 = .ok (.ireturn, 1) := by decide +kernel
theorem dX6_setInk_23 : decode cX6_setInk 23 = .ok (.aload_n 0, 1) := by decide +kernel
theorem dX6_setInk_24 : decode cX6_setInk 24 = .ok (.getfield 27, 3) := by decide +kernel
theorem dX6_setInk_27 : decode cX6_setInk 27 = .ok (.iload_n 1, 1) := by decide +kernel
theorem dX6_setInk_28 : decode cX6_setInk 28 = .ok (.putfield 124, 3) := by decide +kernel
theorem dX6_setInk_31 : decode cX6_setInk 31 = .ok (.aload_n 0, 1) := by decide +kernel
theorem dX6_setInk_32 : decode cX6_setInk 32 = .ok (.getfield 27, 3) := by decide +kernel
theorem dX6_setInk_35 : decode cX6_setInk 35 = .ok (.iload_n 2, 1) := by decide +kernel
theorem dX6_setInk_36 : decode cX6_setInk 36 = .ok (.putfield 127, 3) := by decide +kernel
theorem dX6_setInk_39 : decode cX6_setInk 39 = .ok (.aload_n 0, 1) := by decide +kernel
theorem dX6_setInk_40 : decode cX6_setInk 40 = .ok (.getfield 27, 3) := by decide +kernel
theorem dX6_setInk_43 : decode cX6_setInk 43 = .ok (.iload_n 3, 1) := by decide +kernel
theorem dX6_setInk_44 : decode cX6_setInk 44 = .ok (.putfield 130, 3) := by decide +kernel
theorem dX6_setInk_47 : decode cX6_setInk 47 = .ok (.iload_n 1, 1) := by decide +kernel
theorem dX6_setInk_48 : decode cX6_setInk 48 = .ok (.iload_n 2, 1) := by decide +kernel
theorem dX6_setInk_49 : decode cX6_setInk 49 = .ok (.iadd, 1) := by decide +kernel
theorem dX6_setInk_50 : decode cX6_setInk 50 = .ok (.iload_n 3, 1) := by decide +kernel
theorem dX6_setInk_51 : decode cX6_setInk 51 = .ok (.iadd, 1) := by decide +kernel
theorem dX6_setInk_52 : decode cX6_setInk 52 = .ok (.ireturn, 1) := by decide +kernel
theorem dX6_set_0 : decode cX6_set 0 = .ok (.iload_n 1, 1) := by decide +kernel
theorem dX6_set_1 : decode cX6_set 1 = .ok (.iconst 0, 1) := by decide +kernel
theorem dX6_set_2 : decode cX6_set 2 = .ok (.iconst 2, 1) := by decide +kernel
theorem dX6_set_3 : decode cX6_set 3 = .ok (.invokestatic 52, 3) := by decide +kernel
theorem dX6_set_6 : decode cX6_set 6 = .ok (.ifCond .eq 15, 3) := by decide +kernel
theorem dX6_set_9 : decode cX6_set 9 = .ok (.iload_n 2, 1) := by decide +kernel
theorem dX6_set_10 : decode cX6_set 10 = .ok (.iconst 0, 1) := by decide +kernel
theorem dX6_set_11 : decode cX6_set 11 = .ok (.iload_n 1, 1) := by decide +kernel
theorem dX6_set_12 : decode cX6_set 12 = .ok (.invokestatic 168, 3) := by decide +kernel
theorem dX6_set_15 : decode cX6_set 15 = .ok (.invokestatic 52, 3) := by decide +kernel
theorem dX6_set_18 : decode cX6_set 18 = .ok (.ifCond .ne 5, 3) := by decide +kernel
theorem dX6_set_21 : decode cX6_set 21 = .ok (.iconst (-1), 1) := by decide +kernel
theorem dX6_set_22 : decode cX6_set 22 = .ok (.ireturn, 1) := by decide +kernel
theorem dX6_set_23 : decode cX6_set 23 = .ok (.aload_n 0, 1) := by decide +kernel
theorem dX6_set_24 : decode cX6_set 24 = .ok (.invokevirtual 62, 3) := by decide +kernel
theorem dX6_set_27 : decode cX6_set 27 = .ok (.iload_n 1, 1) := by decide +kernel
theorem dX6_set_28 : decode cX6_set 28 = .ok (.ifCond .ne 22, 3) := by decide +kernel
theorem dX6_set_31 : decode cX6_set 31 = .ok (.aload_n 0, 1) := by decide +kernel
theorem dX6_set_32 : decode cX6_set 32 = .ok (.getfield 12, 3) := by decide +kernel
theorem dX6_set_35 : decode cX6_set 35 = .ok (.getfield 171, 3) := by decide +kernel
theorem dX6_set_38 : decode cX6_set 38 = .ok (.istore_n 3, 1) := by decide +kernel
theorem dX6_set_39 : decode cX6_set 39 = .ok (.aload_n 0, 1) := by decide +kernel
theorem dX6_set_40 : decode cX6_set 40 = .ok (.getfield 12, 3) := by decide +kernel
theorem dX6_set_43 : decode cX6_set 43 = .ok (.iload_n 2, 1) := by decide +kernel
theorem dX6_set_44 : decode cX6_set 44 = .ok (.putfield 171, 3) := by decide +kernel
theorem dX6_set_47 : decode cX6_set 47 = .ok (.goto 43, 3) := by decide +kernel
theorem dX6_set_50 : decode cX6_set 50 = .ok (.iload_n 1, 1) := by decide +kernel
theorem dX6_set_51 : decode cX6_set 51 = .ok (.iconst 1, 1) := by decide +kernel
theorem dX6_set_52 : decode cX6_set 52 = .ok (.if_icmp .ne 22, 3) := by decide +kernel
theorem dX6_set_55 : decode cX6_set 55 = .ok (.aload_n 0, 1) := by decide +kernel
theorem dX6_set_56 : decode cX6_set 56 = .ok (.getfield 12, 3) := by decide +kernel
theorem dX6_set_59 : decode cX6_set 59 = .ok (.getfield 174, 3) := by decide +kernel
theorem dX6_set_62 : decode cX6_set 62 = .ok (.istore_n 3, 1) := by decide +kernel
theorem dX6_set_63 : decode cX6_set 63 = .ok (.aload_n 0, 1) := by decide +kernel
theorem dX6_set_64 : decode cX6_set 64 = .ok (.getfield 12, 3) := by decide +kernel
theorem dX6_set_67 : decode cX6_set 67 = .ok (.iload_n 2, 1) := by decide +kernel
theorem dX6_set_68 : decode cX6_set 68 = .ok (.putfield 174, 3) := by decide +kernel
theorem dX6_set_71 : decode cX6_set 71 = .ok (.goto 19, 3) := by decide +kernel
theorem dX6_set_74 : decode cX6_set 74 = .ok (.aload_n 0, 1) := by decide +kernel
theorem dX6_set_75 : decode cX6_set 75 = .ok (.getfield 12, 3) := by decide +kernel
theorem dX6_set_78 : decode cX6_set 78 = .ok (.getfield 177, 3) := by decide +kernel
theorem dX6_set_81 : decode cX6_set 81 = .ok (.istore_n 3, 1) := by decide +kernel
theorem dX6_set_82 : decode cX6_set 82 = .ok (.aload_n 0, 1) := by decide +kernel
theorem dX6_set_83 : decode cX6_set 83 = .ok (.getfield 12, 3) := by decide +kernel
theorem dX6_set_86 : decode cX6_set 86 = .ok (.iload_n 2, 1) := by decide +kernel
theorem dX6_set_87 : decode cX6_set 87 = .ok (.putfield 177, 3) := by decide +kernel
theorem dX6_set_90 : decode cX6_set 90 = .ok (.iload_n 3, 1) := by decide +kernel
theorem dX6_set_91 : decode cX6_set 91 = .ok (.ireturn, 1) := by decide +kernel
theorem dX6_setKnockout_0 : decode cX6_setKnockout 0 = .ok (.iload_n 1, 1) := by decide +kernel
theorem dX6_setKnockout_1 : decode cX6_setKnockout 1 = .ok (.iconst 0, 1) := by decide +kernel
theorem dX6_setKnockout_2 : decode cX6_setKnockout 2 = .ok (.iconst 2, 1) := by decide +kernel
theorem dX6_setKnockout_3 : decode cX6_setKnockout 3 = .ok (.invokestatic 52, 3) := by decide +kernel
theorem dX6_setKnockout_6 : decode cX6_setKnockout 6 = .ok (.ifCond .eq 12, 3) := by decide +kernel
theorem dX6_setKnockout_9 : decode cX6_setKnockout 9 = .ok (.iload_n 2, 1) := by decide +kernel
theorem dX6_setKnockout_10 : decode cX6_setKnockout 10 = .ok (.iconst 0, 1) := by decide +kernel
theorem dX6_setKnockout_11 : decode cX6_setKnockout 11 = .ok (.iconst 1, 1) := by decide +kernel
theorem dX6_setKnockout_12 : decode cX6_setKnockout 12 = .ok (.invokestatic 52, 3) := by decide +kernel
theorem dX6_setKnockout_15 : decode cX6_setKnockout 15 = .ok (.ifCond .ne 5, 3) := by decide +kernel
theorem dX6_setKnockout_18 : decode cX6_setKnockout 18 = .ok (.iconst (-1), 1) := by decide +kernel
theorem dX6_setKnockout_19 : decode cX6_setKnockout 19 = .ok (.ireturn, 1) := by decide +kernel
theorem dX6_setKnockout_20 : decode cX6_setKnockout 20 = .ok (.aload_n 0, 1) := by decide +kernel
theorem dX6_setKnockout_21 : decode cX6_setKnockout 21 = .ok (.invokevirtual 62, 3) := by decide +kernel
theorem dX6_setKnockout_24 : decode cX6_setKnockout 24 = .ok (.aload_n 0, 1) := by decide +kernel
theorem dX6_setKnockout_25 : decode cX6_setKnockout 25 = .ok (.getfield 12, 3) := by decide +kernel
theorem dX6_setKnockout_28 : decode cX6_setKnockout 28 = .ok (.getfield 180, 3) := by decide +kernel
theorem dX6_setKnockout_31 : decode cX6_setKnockout 31 = .ok (.iload_n 1, 1) := by decide +kernel
theorem dX6_setKnockout_32 : decode cX6_setKnockout 32 = .ok (.iaload, 1) := by decide +kernel
theorem dX6_setKnockout_33 : decode cX6_setKnockout 33 = .ok (.istore_n 3, 1) := by decide +kernel
theorem dX6_setKnockout_34 : decode cX6_setKnockout 34 = .ok (.aload_n 0, 1) := by decide +kernel
theorem dX6_setKnockout_35 : decode cX6_setKnockout 35 = .ok (.getfield 12, 3) := by decide +kernel
theorem dX6_setKnockout_38 : decode cX6_setKnockout 38 = .ok (.getfield 180, 3) := by decide +kernel
theorem dX6_setKnockout_41 : decode cX6_setKnockout 41 = .ok (.iload_n 1, 1) := by decide +kernel
theorem dX6_setKnockout_42 : decode cX6_setKnockout 42 = .ok (.iload_n 2, 1) := by decide +kernel
theorem dX6_setKnockout_43 : decode cX6_setKnockout 43 = .ok (.iastore, 1) := by decide +kernel
theorem dX6_setKnockout_44 : decode cX6_setKnockout 44 = .ok (.iload_n 3, 1) := by decide +kernel
theorem dX6_setKnockout_45 : decode cX6_setKnockout 45 = .ok (.ireturn, 1) := by decide +kernel
theorem dX6_rendered_0 : decode cX6_rendered 0 = .ok (.aload_n 0, 1) := by decide +kernel
theorem dX6_rendered_1 : decode cX6_rendered 1 = .ok (.iload_n 1, 1) := by decide +kernel
theorem dX6_rendered_2 : decode cX6_rendered 2 = .ok (.iload_n 2, 1) := by decide +kernel
theorem dX6_rendered_3 : decode cX6_rendered 3 = .ok (.invokevirtual 215, 3) := by decide +kernel
theorem dX6_rendered_6 : decode cX6_rendered 6 = .ok (.ifCond .eq 12, 3) := by decide +kernel
theorem dX6_rendered_9 : decode cX6_rendered 9 = .ok (.iload_n 3, 1) := by decide +kernel
theorem dX6_rendered_10 : decode cX6_rendered 10 = .ok (.iconst 0, 1) := by decide +kernel
theorem dX6_rendered_11 : decode cX6_rendered 11 = .ok (.iconst 5, 1) := by decide +kernel
theorem dX6_rendered_12 : decode cX6_rendered 12 = .ok (.invokestatic 52, 3) := by decide +kernel
theorem dX6_rendered_15 : decode cX6_rendered 15 = .ok (.ifCond .ne 5, 3) := by decide +kernel
theorem dX6_rendered_18 : decode cX6_rendered 18 = .ok (.iconst (-1), 1) := by decide +kernel
theorem dX6_rendered_19 : decode cX6_rendered 19 = .ok (.ireturn, 1) := by decide +kernel
theorem dX6_rendered_20 : decode cX6_rendered 20 = .ok (.aload_n 0, 1) := by decide +kernel
theorem dX6_rendered_21 : decode cX6_rendered 21 = .ok (.getfield 34, 3) := by decide +kernel
theorem dX6_rendered_24 : decode cX6_rendered 24 = .ok (.aload_n 0, 1) := by decide +kernel
theorem dX6_rendered_25 : decode cX6_rendered 25 = .ok (.getfield 12, 3) := by decide +kernel
theorem dX6_rendered_28 : decode cX6_rendered 28 = .ok (.iload_n 1, 1) := by decide +kernel
theorem dX6_rendered_29 : decode cX6_rendered 29 = .ok (.iload_n 2, 1) := by decide +kernel
theorem dX6_rendered_30 : decode cX6_rendered 30 = .ok (.invokevirtual 218, 3) := by decide +kernel
theorem dX6_rendered_33 : decode cX6_rendered 33 = .ok (.aload_n 0, 1) := by decide +kernel
theorem dX6_rendered_34 : decode cX6_rendered 34 = .ok (.getfield 34, 3) := by decide +kernel
theorem dX6_rendered_37 : decode cX6_rendered 37 = .ok (.getfield 222, 3) := by decide +kernel
theorem dX6_rendered_40 : decode cX6_rendered 40 = .ok (.iload_n 3, 1) := by decide +kernel
theorem dX6_rendered_41 : decode cX6_rendered 41 = .ok (.iaload, 1) := by decide +kernel
theorem dX6_rendered_42 : decode cX6_rendered 42 = .ok (.ireturn, 1) := by decide +kernel
theorem dX6_ink_0 : decode cX6_ink 0 = .ok (.aload_n 0, 1) := by decide +kernel
theorem dX6_ink_1 : decode cX6_ink 1 = .ok (.iload_n 1, 1) := by decide +kernel
theorem dX6_ink_2 : decode cX6_ink 2 = .ok (.iload_n 2, 1) := by decide +kernel
theorem dX6_ink_3 : decode cX6_ink 3 = .ok (.invokevirtual 215, 3) := by decide +kernel
theorem dX6_ink_6 : decode cX6_ink 6 = .ok (.ifCond .eq 13, 3) := by decide +kernel
theorem dX6_ink_9 : decode cX6_ink 9 = .ok (.iload_n 3, 1) := by decide +kernel
theorem dX6_ink_10 : decode cX6_ink 10 = .ok (.iconst 0, 1) := by decide +kernel
theorem dX6_ink_11 : decode cX6_ink 11 = .ok (.bipush 7, 2) := by decide +kernel
theorem dX6_ink_13 : decode cX6_ink 13 = .ok (.invokestatic 52, 3) := by decide +kernel
theorem dX6_ink_16 : decode cX6_ink 16 = .ok (.ifCond .ne 5, 3) := by decide +kernel
theorem dX6_ink_19 : decode cX6_ink 19 = .ok (.iconst (-1), 1) := by decide +kernel
theorem dX6_ink_20 : decode cX6_ink 20 = .ok (.ireturn, 1) := by decide +kernel
theorem dX6_ink_21 : decode cX6_ink 21 = .ok (.aload_n 0, 1) := by decide +kernel
theorem dX6_ink_22 : decode cX6_ink 22 = .ok (.iload_n 1, 1) := by decide +kernel
theorem dX6_ink_23 : decode cX6_ink 23 = .ok (.iload_n 2, 1) := by decide +kernel
theorem dX6_ink_24 : decode cX6_ink 24 = .ok (.invokevirtual 225, 3) := by decide +kernel
theorem dX6_ink_27 : decode cX6_ink 27 = .ok (.aload_n 0, 1) := by decide +kernel
theorem dX6_ink_28 : decode cX6_ink 28 = .ok (.getfield 34, 3) := by decide +kernel
theorem dX6_ink_31 : decode cX6_ink 31 = .ok (.iload_n 3, 1) := by decide +kernel
theorem dX6_ink_32 : decode cX6_ink 32 = .ok (.invokevirtual 228, 3) := by decide +kernel
theorem dX6_ink_35 : decode cX6_ink 35 = .ok (.ireturn, 1) := by decide +kernel
theorem dX6_touchedBy_0 : decode cX6_touchedBy 0 = .ok (.aload_n 0, 1) := by decide +kernel
theorem dX6_touchedBy_1 : decode cX6_touchedBy 1 = .ok (.iload_n 1, 1) := by decide +kernel
theorem dX6_touchedBy_2 : decode cX6_touchedBy 2 = .ok (.iload_n 2, 1) := by decide +kernel
theorem dX6_touchedBy_3 : decode cX6_touchedBy 3 = .ok (.invokevirtual 215, 3) := by decide +kernel
theorem dX6_touchedBy_6 : decode cX6_touchedBy 6 = .ok (.ifCond .ne 5, 3) := by decide +kernel
theorem dX6_touchedBy_9 : decode cX6_touchedBy 9 = .ok (.iconst (-1), 1) := by decide +kernel
theorem dX6_touchedBy_10 : decode cX6_touchedBy 10 = .ok (.ireturn, 1) := by decide +kernel
theorem dX6_touchedBy_11 : decode cX6_touchedBy 11 = .ok (.aload_n 0, 1) := by decide +kernel
theorem dX6_touchedBy_12 : decode cX6_touchedBy 12 = .ok (.getfield 12, 3) := by decide +kernel
theorem dX6_touchedBy_15 : decode cX6_touchedBy 15 = .ok (.getfield 73, 3) := by decide +kernel
theorem dX6_touchedBy_18 : decode cX6_touchedBy 18 = .ok (.astore_n 3, 1) := by decide +kernel
theorem dX6_touchedBy_19 : decode cX6_touchedBy 19 = .ok (.aload_n 3, 1) := by decide +kernel
theorem dX6_touchedBy_20 : decode cX6_touchedBy 20 = .ok (.getfield 165, 3) := by decide +kernel
theorem dX6_touchedBy_23 : decode cX6_touchedBy 23 = .ok (.iconst 1, 1) := by decide +kernel
theorem dX6_touchedBy_24 : decode cX6_touchedBy 24 = .ok (.isub, 1) := by decide +kernel
theorem dX6_touchedBy_25 : decode cX6_touchedBy 25 = .ok (.istore 4, 2) := by decide +kernel
theorem dX6_touchedBy_27 : decode cX6_touchedBy 27 = .ok (.iload 4, 2) := by decide +kernel
theorem dX6_touchedBy_29 : decode cX6_touchedBy 29 = .ok (.ifCond .le 70, 3) := by decide +kernel
theorem dX6_touchedBy_32 : decode cX6_touchedBy 32 = .ok (.aload_n 3, 1) := by decide +kernel
theorem dX6_touchedBy_33 : decode cX6_touchedBy 33 = .ok (.getfield 239, 3) := by decide +kernel
theorem dX6_touchedBy_36 : decode cX6_touchedBy 36 = .ok (.iload 4, 2) := by decide +kernel
theorem dX6_touchedBy_38 : decode cX6_touchedBy 38 = .ok (.iaload, 1) := by decide +kernel
theorem dX6_touchedBy_39 : decode cX6_touchedBy 39 = .ok (.istore 5, 2) := by decide +kernel
theorem dX6_touchedBy_41 : decode cX6_touchedBy 41 = .ok (.aload_n 3, 1) := by decide +kernel
theorem dX6_touchedBy_42 : decode cX6_touchedBy 42 = .ok (.iload 5, 2) := by decide +kernel
theorem dX6_touchedBy_44 : decode cX6_touchedBy 44 = .ok (.invokevirtual 77, 3) := by decide +kernel
theorem dX6_touchedBy_47 : decode cX6_touchedBy 47 = .ok (.astore 6, 2) := by decide +kernel
theorem dX6_touchedBy_49 : decode cX6_touchedBy 49 = .ok (.aload_n 3, 1) := by decide +kernel
theorem dX6_touchedBy_50 : decode cX6_touchedBy 50 = .ok (.aload 6, 2) := by decide +kernel
theorem dX6_touchedBy_52 : decode cX6_touchedBy 52 = .ok (.getfield 153, 3) := by decide +kernel
theorem dX6_touchedBy_55 : decode cX6_touchedBy 55 = .ok (.invokevirtual 77, 3) := by decide +kernel
theorem dX6_touchedBy_58 : decode cX6_touchedBy 58 = .ok (.astore 7, 2) := by decide +kernel
theorem dX6_touchedBy_60 : decode cX6_touchedBy 60 = .ok (.aload 7, 2) := by decide +kernel
theorem dX6_touchedBy_62 : decode cX6_touchedBy 62 = .ok (.getfield 242, 3) := by decide +kernel
theorem dX6_touchedBy_65 : decode cX6_touchedBy 65 = .ok (.ifCond .le 28, 3) := by decide +kernel
theorem dX6_touchedBy_68 : decode cX6_touchedBy 68 = .ok (.aload 6, 2) := by decide +kernel
theorem dX6_touchedBy_70 : decode cX6_touchedBy 70 = .ok (.iload_n 1, 1) := by decide +kernel
theorem dX6_touchedBy_71 : decode cX6_touchedBy 71 = .ok (.aload 7, 2) := by decide +kernel
theorem dX6_touchedBy_73 : decode cX6_touchedBy 73 = .ok (.getfield 245, 3) := by decide +kernel
theorem dX6_touchedBy_76 : decode cX6_touchedBy 76 = .ok (.isub, 1) := by decide +kernel
theorem dX6_touchedBy_77 : decode cX6_touchedBy 77 = .ok (.iload_n 2, 1) := by decide +kernel
theorem dX6_touchedBy_78 : decode cX6_touchedBy 78 = .ok (.aload 7, 2) := by decide +kernel
theorem dX6_touchedBy_80 : decode cX6_touchedBy 80 = .ok (.getfield 248, 3) := by decide +kernel
theorem dX6_touchedBy_83 : decode cX6_touchedBy 83 = .ok (.isub, 1) := by decide +kernel
theorem dX6_touchedBy_84 : decode cX6_touchedBy 84 = .ok (.invokevirtual 251, 3) := by decide +kernel
theorem dX6_touchedBy_87 : decode cX6_touchedBy 87 = .ok (.ifCond .eq 6, 3) := by decide +kernel
theorem dX6_touchedBy_90 : decode cX6_touchedBy 90 = .ok (.iload 5, 2) := by decide +kernel
theorem dX6_touchedBy_92 : decode cX6_touchedBy 92 = .ok (.ireturn, 1) := by decide +kernel
theorem dX6_touchedBy_93 : decode cX6_touchedBy 93 = .ok (.iinc 4 (-1), 3) := by decide +kernel
theorem dX6_touchedBy_96 : decode cX6_touchedBy 96 = .ok (.goto (-69), 3) := by decide +kernel
theorem dX6_touchedBy_99 : decode cX6_touchedBy 99 = .ok (.bipush (-4), 2) := by decide +kernel
theorem dX6_touchedBy_101 : decode cX6_touchedBy 101 = .ok (.ireturn, 1) := by decide +kernel
theorem dX6_coverage_0 : decode cX6_coverage 0 = .ok (.iload_n 1, 1) := by decide +kernel
theorem dX6_coverage_1 : decode cX6_coverage 1 = .ok (.iconst 0, 1) := by decide +kernel
theorem dX6_coverage_2 : decode cX6_coverage 2 = .ok (.bipush 7, 2) := by decide +kernel
theorem dX6_coverage_4 : decode cX6_coverage 4 = .ok (.invokestatic 52, 3) := by decide +kernel
theorem dX6_coverage_7 : decode cX6_coverage 7 = .ok (.ifCond .ne 5, 3) := by decide +kernel
theorem dX6_coverage_10 : decode cX6_coverage 10 = .ok (.iconst (-1), 1) := by decide +kernel
theorem dX6_coverage_11 : decode cX6_coverage 11 = .ok (.ireturn, 1) := by decide +kernel
theorem dX6_coverage_12 : decode cX6_coverage 12 = .ok (.aload_n 0, 1) := by decide +kernel
theorem dX6_coverage_13 : decode cX6_coverage 13 = .ok (.invokevirtual 254, 3) := by decide +kernel
theorem dX6_coverage_16 : decode cX6_coverage 16 = .ok (.iload_n 1, 1) := by decide +kernel
theorem dX6_coverage_17 : decode cX6_coverage 17 = .ok (.bipush 7, 2) := by decide +kernel
theorem dX6_coverage_19 : decode cX6_coverage 19 = .ok (.if_icmp .ne 13, 3) := by decide +kernel
theorem dX6_coverage_22 : decode cX6_coverage 22 = .ok (.aload_n 0, 1) := by decide +kernel
theorem dX6_coverage_23 : decode cX6_coverage 23 = .ok (.getfield 45, 3) := by decide +kernel
theorem dX6_coverage_26 : decode cX6_coverage 26 = .ok (.invokestatic 257, 3) := by decide +kernel
theorem dX6_coverage_29 : decode cX6_coverage 29 = .ok (.goto 9, 3) := by decide +kernel
theorem dX6_coverage_32 : decode cX6_coverage 32 = .ok (.aload_n 0, 1) := by decide +kernel
theorem dX6_coverage_33 : decode cX6_coverage 33 = .ok (.getfield 45, 3) := by decide +kernel
theorem dX6_coverage_36 : decode cX6_coverage 36 = .ok (.iload_n 1, 1) := by decide +kernel
theorem dX6_coverage_37 : decode cX6_coverage 37 = .ok (.iaload, 1) := by decide +kernel
theorem dX6_coverage_38 : decode cX6_coverage 38 = .ok (.ireturn, 1) := by decide +kernel
theorem dX6_greatestSum_0 : decode cX6_greatestSum 0 = .ok (.iconst 0, 1) := by decide +kernel
theorem dX6_greatestSum_1 : decode cX6_greatestSum 1 = .ok (.istore_n 1, 1) := by decide +kernel
theorem dX6_greatestSum_2 : decode cX6_greatestSum 2 = .ok (.iconst 0, 1) := by decide +kernel
theorem dX6_greatestSum_3 : decode cX6_greatestSum 3 = .ok (.istore_n 2, 1) := by decide +kernel
theorem dX6_greatestSum_4 : decode cX6_greatestSum 4 = .ok (.iload_n 2, 1) := by decide +kernel
theorem dX6_greatestSum_5 : decode cX6_greatestSum 5 = .ok (.aload_n 0, 1) := by decide +kernel
theorem dX6_greatestSum_6 : decode cX6_greatestSum 6 = .ok (.getfield 12, 3) := by decide +kernel
theorem dX6_greatestSum_9 : decode cX6_greatestSum 9 = .ok (.getfield 59, 3) := by decide +kernel
theorem dX6_greatestSum_12 : decode cX6_greatestSum 12 = .ok (.if_icmp .ge 49, 3) := by decide +kernel
theorem dX6_greatestSum_15 : decode cX6_greatestSum 15 = .ok (.iconst 0, 1) := by decide +kernel
theorem dX6_greatestSum_16 : decode cX6_greatestSum 16 = .ok (.istore_n 3, 1) := by decide +kernel
theorem dX6_greatestSum_17 : decode cX6_greatestSum 17 = .ok (.iload_n 3, 1) := by decide +kernel
theorem dX6_greatestSum_18 : decode cX6_greatestSum 18 = .ok (.aload_n 0, 1) := by decide +kernel
theorem dX6_greatestSum_19 : decode cX6_greatestSum 19 = .ok (.getfield 12, 3) := by decide +kernel
theorem dX6_greatestSum_22 : decode cX6_greatestSum 22 = .ok (.getfield 56, 3) := by decide +kernel
theorem dX6_greatestSum_25 : decode cX6_greatestSum 25 = .ok (.if_icmp .ge 30, 3) := by decide +kernel
theorem dX6_greatestSum_28 : decode cX6_greatestSum 28 = .ok (.aload_n 0, 1) := by decide +kernel
theorem dX6_greatestSum_29 : decode cX6_greatestSum 29 = .ok (.iload_n 3, 1) := by decide +kernel
theorem dX6_greatestSum_30 : decode cX6_greatestSum 30 = .ok (.iload_n 2, 1) := by decide +kernel
theorem dX6_greatestSum_31 : decode cX6_greatestSum 31 = .ok (.invokevirtual 225, 3) := by decide +kernel
theorem dX6_greatestSum_34 : decode cX6_greatestSum 34 = .ok (.iload_n 1, 1) := by decide +kernel
theorem dX6_greatestSum_35 : decode cX6_greatestSum 35 = .ok (.aload_n 0, 1) := by decide +kernel
theorem dX6_greatestSum_36 : decode cX6_greatestSum 36 = .ok (.getfield 34, 3) := by decide +kernel
theorem dX6_greatestSum_39 : decode cX6_greatestSum 39 = .ok (.getfield 264, 3) := by decide +kernel
theorem dX6_greatestSum_42 : decode cX6_greatestSum 42 = .ok (.invokestatic 257, 3) := by decide +kernel
theorem dX6_greatestSum_45 : decode cX6_greatestSum 45 = .ok (.invokestatic 267, 3) := by decide +kernel
theorem dX6_greatestSum_48 : decode cX6_greatestSum 48 = .ok (.istore_n 1, 1) := by decide +kernel
theorem dX6_greatestSum_49 : decode cX6_greatestSum 49 = .ok (.iinc 3 1, 3) := by decide +kernel
theorem dX6_greatestSum_52 : decode cX6_greatestSum 52 = .ok (.goto (-35), 3) := by decide +kernel
theorem dX6_greatestSum_55 : decode cX6_greatestSum 55 = .ok (.iinc 2 1, 3) := by decide +kernel
theorem dX6_greatestSum_58 : decode cX6_greatestSum 58 = .ok (.goto (-54), 3) := by decide +kernel
theorem dX6_greatestSum_61 : decode cX6_greatestSum 61 = .ok (.iload_n 1, 1) := by decide +kernel
theorem dX6_greatestSum_62 : decode cX6_greatestSum 62 = .ok (.ireturn, 1) := by decide +kernel
theorem dX6_limitedPixels_0 : decode cX6_limitedPixels 0 = .ok (.iconst 0, 1) := by decide +kernel
theorem dX6_limitedPixels_1 : decode cX6_limitedPixels 1 = .ok (.istore_n 1, 1) := by decide +kernel
theorem dX6_limitedPixels_2 : decode cX6_limitedPixels 2 = .ok (.iconst 0, 1) := by decide +kernel
theorem dX6_limitedPixels_3 : decode cX6_limitedPixels 3 = .ok (.istore_n 2, 1) := by decide +kernel
theorem dX6_limitedPixels_4 : decode cX6_limitedPixels 4 = .ok (.iload_n 2, 1) := by decide +kernel
theorem dX6_limitedPixels_5 : decode cX6_limitedPixels 5 = .ok (.aload_n 0, 1) := by decide +kernel
theorem dX6_limitedPixels_6 : decode cX6_limitedPixels 6 = .ok (.getfield 12, 3) := by decide +kernel
theorem dX6_limitedPixels_9 : decode cX6_limitedPixels 9 = .ok (.getfield 59, 3) := by decide +kernel
theorem dX6_limitedPixels_12 : decode cX6_limitedPixels 12 = .ok (.if_icmp .ge 57, 3) := by decide +kernel
theorem dX6_limitedPixels_15 : decode cX6_limitedPixels 15 = .ok (.iconst 0, 1) := by decide +kernel
theorem dX6_limitedPixels_16 : decode cX6_limitedPixels 16 = .ok (.istore_n 3, 1) := by decide +kernel
theorem dX6_limitedPixels_17 : decode cX6_limitedPixels 17 = .ok (.iload_n 3, 1) := by decide +kernel
theorem dX6_limitedPixels_18 : decode cX6_limitedPixels 18 = .ok (.aload_n 0, 1) := by decide +kernel
theorem dX6_limitedPixels_19 : decode cX6_limitedPixels 19 = .ok (.getfield 12, 3) := by decide +kernel
theorem dX6_limitedPixels_22 : decode cX6_limitedPixels 22 = .ok (.getfield 56, 3) := by decide +kernel
theorem dX6_limitedPixels_25 : decode cX6_limitedPixels 25 = .ok (.if_icmp .ge 38, 3) := by decide +kernel
theorem dX6_limitedPixels_28 : decode cX6_limitedPixels 28 = .ok (.aload_n 0, 1) := by decide +kernel
theorem dX6_limitedPixels_29 : decode cX6_limitedPixels 29 = .ok (.iload_n 3, 1) := by decide +kernel
theorem dX6_limitedPixels_30 : decode cX6_limitedPixels 30 = .ok (.iload_n 2, 1) := by decide +kernel
theorem dX6_limitedPixels_31 : decode cX6_limitedPixels 31 = .ok (.invokevirtual 225, 3) := by decide +kernel
theorem dX6_limitedPixels_34 : decode cX6_limitedPixels 34 = .ok (.aload_n 0, 1) := by decide +kernel
theorem dX6_limitedPixels_35 : decode cX6_limitedPixels 35 = .ok (.getfield 34, 3) := by decide +kernel
theorem dX6_limitedPixels_38 : decode cX6_limitedPixels 38 = .ok (.getfield 273, 3) := by decide +kernel
theorem dX6_limitedPixels_41 : decode cX6_limitedPixels 41 = .ok (.aload_n 0, 1) := by decide +kernel
theorem dX6_limitedPixels_42 : decode cX6_limitedPixels 42 = .ok (.getfield 34, 3) := by decide +kernel
theorem dX6_limitedPixels_45 : decode cX6_limitedPixels 45 = .ok (.getfield 264, 3) := by decide +kernel
theorem dX6_limitedPixels_48 : decode cX6_limitedPixels 48 = .ok (.invokestatic 276, 3) := by decide +kernel
theorem dX6_limitedPixels_51 : decode cX6_limitedPixels 51 = .ok (.ifCond .ne 6, 3) := by decide +kernel
theorem dX6_limitedPixels_54 : decode cX6_limitedPixels 54 = .ok (.iinc 1 1, 3) := by decide +kernel
theorem dX6_limitedPixels_57 : decode cX6_limitedPixels 57 = .ok (.iinc 3 1, 3) := by decide +kernel
theorem dX6_limitedPixels_60 : decode cX6_limitedPixels 60 = .ok (.goto (-43), 3) := by decide +kernel
theorem dX6_limitedPixels_63 : decode cX6_limitedPixels 63 = .ok (.iinc 2 1, 3) := by decide +kernel
theorem dX6_limitedPixels_66 : decode cX6_limitedPixels 66 = .ok (.goto (-62), 3) := by decide +kernel
theorem dX6_limitedPixels_69 : decode cX6_limitedPixels 69 = .ok (.iload_n 1, 1) := by decide +kernel
theorem dX6_limitedPixels_70 : decode cX6_limitedPixels 70 = .ok (.ireturn, 1) := by decide +kernel
theorem dX6_neededLimit_0 : decode cX6_neededLimit 0 = .ok (.iconst 0, 1) := by decide +kernel
theorem dX6_neededLimit_1 : decode cX6_neededLimit 1 = .ok (.istore_n 1, 1) := by decide +kernel
theorem dX6_neededLimit_2 : decode cX6_neededLimit 2 = .ok (.iconst 0, 1) := by decide +kernel
theorem dX6_neededLimit_3 : decode cX6_neededLimit 3 = .ok (.istore_n 2, 1) := by decide +kernel
theorem dX6_neededLimit_4 : decode cX6_neededLimit 4 = .ok (.iload_n 2, 1) := by decide +kernel
theorem dX6_neededLimit_5 : decode cX6_neededLimit 5 = .ok (.aload_n 0, 1) := by decide +kernel
theorem dX6_neededLimit_6 : decode cX6_neededLimit 6 = .ok (.getfield 12, 3) := by decide +kernel
theorem dX6_neededLimit_9 : decode cX6_neededLimit 9 = .ok (.getfield 59, 3) := by decide +kernel
theorem dX6_neededLimit_12 : decode cX6_neededLimit 12 = .ok (.if_icmp .ge 49, 3) := by decide +kernel
theorem dX6_neededLimit_15 : decode cX6_neededLimit 15 = .ok (.iconst 0, 1) := by decide +kernel
theorem dX6_neededLimit_16 : decode cX6_neededLimit 16 = .ok (.istore_n 3, 1) := by decide +kernel
theorem dX6_neededLimit_17 : decode cX6_neededLimit 17 = .ok (.iload_n 3, 1) := by decide +kernel
theorem dX6_neededLimit_18 : decode cX6_neededLimit 18 = .ok (.aload_n 0, 1) := by decide +kernel
theorem dX6_neededLimit_19 : decode cX6_neededLimit 19 = .ok (.getfield 12, 3) := by decide +kernel
theorem dX6_neededLimit_22 : decode cX6_neededLimit 22 = .ok (.getfield 56, 3) := by decide +kernel
theorem dX6_neededLimit_25 : decode cX6_neededLimit 25 = .ok (.if_icmp .ge 30, 3) := by decide +kernel
theorem dX6_neededLimit_28 : decode cX6_neededLimit 28 = .ok (.aload_n 0, 1) := by decide +kernel
theorem dX6_neededLimit_29 : decode cX6_neededLimit 29 = .ok (.iload_n 3, 1) := by decide +kernel
theorem dX6_neededLimit_30 : decode cX6_neededLimit 30 = .ok (.iload_n 2, 1) := by decide +kernel
theorem dX6_neededLimit_31 : decode cX6_neededLimit 31 = .ok (.invokevirtual 225, 3) := by decide +kernel
theorem dX6_neededLimit_34 : decode cX6_neededLimit 34 = .ok (.iload_n 1, 1) := by decide +kernel
theorem dX6_neededLimit_35 : decode cX6_neededLimit 35 = .ok (.aload_n 0, 1) := by decide +kernel
theorem dX6_neededLimit_36 : decode cX6_neededLimit 36 = .ok (.getfield 34, 3) := by decide +kernel
theorem dX6_neededLimit_39 : decode cX6_neededLimit 39 = .ok (.getfield 273, 3) := by decide +kernel
theorem dX6_neededLimit_42 : decode cX6_neededLimit 42 = .ok (.invokestatic 257, 3) := by decide +kernel
theorem dX6_neededLimit_45 : decode cX6_neededLimit 45 = .ok (.invokestatic 267, 3) := by decide +kernel
theorem dX6_neededLimit_48 : decode cX6_neededLimit 48 = .ok (.istore_n 1, 1) := by decide +kernel
theorem dX6_neededLimit_49 : decode cX6_neededLimit 49 = .ok (.iinc 3 1, 3) := by decide +kernel
theorem dX6_neededLimit_52 : decode cX6_neededLimit 52 = .ok (.goto (-35), 3) := by decide +kernel
theorem dX6_neededLimit_55 : decode cX6_neededLimit 55 = .ok (.iinc 2 1, 3) := by decide +kernel
theorem dX6_neededLimit_58 : decode cX6_neededLimit 58 = .ok (.goto (-54), 3) := by decide +kernel
theorem dX6_neededLimit_61 : decode cX6_neededLimit 61 = .ok (.iload_n 1, 1) := by decide +kernel
theorem dX6_neededLimit_62 : decode cX6_neededLimit 62 = .ok (.ireturn, 1) := by decide +kernel
theorem dX6_disorderedPixels_0 : decode cX6_disorderedPixels 0 = .ok (.iconst 0, 1) := by decide +kernel
theorem dX6_disorderedPixels_1 : decode cX6_disorderedPixels 1 = .ok (.istore_n 1, 1) := by decide +kernel
theorem dX6_disorderedPixels_2 : decode cX6_disorderedPixels 2 = .ok (.iconst 0, 1) := by decide +kernel
theorem dX6_disorderedPixels_3 : decode cX6_disorderedPixels 3 = .ok (.istore_n 2, 1) := by decide +kernel
theorem dX6_disorderedPixels_4 : decode cX6_disorderedPixels 4 = .ok (.iload_n 2, 1) := by decide +kernel
theorem dX6_disorderedPixels_5 : decode cX6_disorderedPixels 5 = .ok (.aload_n 0, 1) := by decide +kernel
theorem dX6_disorderedPixels_6 : decode cX6_disorderedPixels 6 = .ok (.getfield 12, 3) := by decide +kernel
theorem dX6_disorderedPixels_9 : decode cX6_disorderedPixels 9 = .ok (.getfield 59, 3) := by decide +kernel
theorem dX6_disorderedPixels_12 : decode cX6_disorderedPixels 12 = .ok (.if_icmp .ge 47, 3) := by decide +kernel
theorem dX6_disorderedPixels_15 : decode cX6_disorderedPixels 15 = .ok (.iconst 0, 1) := by decide +kernel
theorem dX6_disorderedPixels_16 : decode cX6_disorderedPixels 16 = .ok (.istore_n 3, 1) := by decide +kernel
theorem dX6_disorderedPixels_17 : decode cX6_disorderedPixels 17 = .ok (.iload_n 3, 1) := by decide +kernel
theorem dX6_disorderedPixels_18 : decode cX6_disorderedPixels 18 = .ok (.aload_n 0, 1) := by decide +kernel
theorem dX6_disorderedPixels_19 : decode cX6_disorderedPixels 19 = .ok (.getfield 12, 3) := by decide +kernel
theorem dX6_disorderedPixels_22 : decode cX6_disorderedPixels 22 = .ok (.getfield 56, 3) := by decide +kernel
theorem dX6_disorderedPixels_25 : decode cX6_disorderedPixels 25 = .ok (.if_icmp .ge 28, 3) := by decide +kernel
theorem dX6_disorderedPixels_28 : decode cX6_disorderedPixels 28 = .ok (.aload_n 0, 1) := by decide +kernel
theorem dX6_disorderedPixels_29 : decode cX6_disorderedPixels 29 = .ok (.iload_n 3, 1) := by decide +kernel
theorem dX6_disorderedPixels_30 : decode cX6_disorderedPixels 30 = .ok (.iload_n 2, 1) := by decide +kernel
theorem dX6_disorderedPixels_31 : decode cX6_disorderedPixels 31 = .ok (.invokevirtual 225, 3) := by decide +kernel
theorem dX6_disorderedPixels_34 : decode cX6_disorderedPixels 34 = .ok (.aload_n 0, 1) := by decide +kernel
theorem dX6_disorderedPixels_35 : decode cX6_disorderedPixels 35 = .ok (.getfield 34, 3) := by decide +kernel
theorem dX6_disorderedPixels_38 : decode cX6_disorderedPixels 38 = .ok (.invokevirtual 294, 3) := by decide +kernel
theorem dX6_disorderedPixels_41 : decode cX6_disorderedPixels 41 = .ok (.ifCond .eq 6, 3) := by decide +kernel
theorem dX6_disorderedPixels_44 : decode cX6_disorderedPixels 44 = .ok (.iinc 1 1, 3) := by decide +kernel
theorem dX6_disorderedPixels_47 : decode cX6_disorderedPixels 47 = .ok (.iinc 3 1, 3) := by decide +kernel
theorem dX6_disorderedPixels_50 : decode cX6_disorderedPixels 50 = .ok (.goto (-33), 3) := by decide +kernel
theorem dX6_disorderedPixels_53 : decode cX6_disorderedPixels 53 = .ok (.iinc 2 1, 3) := by decide +kernel
theorem dX6_disorderedPixels_56 : decode cX6_disorderedPixels 56 = .ok (.goto (-52), 3) := by decide +kernel
theorem dX6_disorderedPixels_59 : decode cX6_disorderedPixels 59 = .ok (.iload_n 1, 1) := by decide +kernel
theorem dX6_disorderedPixels_60 : decode cX6_disorderedPixels 60 = .ok (.ireturn, 1) := by decide +kernel
theorem dX6_within_0 : decode cX6_within 0 = .ok (.iload_n 1, 1) := by decide +kernel
theorem dX6_within_1 : decode cX6_within 1 = .ok (.iload_n 0, 1) := by decide +kernel
theorem dX6_within_2 : decode cX6_within 2 = .ok (.if_icmp .gt 12, 3) := by decide +kernel
theorem dX6_within_5 : decode cX6_within 5 = .ok (.iload_n 0, 1) := by decide +kernel
theorem dX6_within_6 : decode cX6_within 6 = .ok (.iload_n 2, 1) := by decide +kernel
theorem dX6_within_7 : decode cX6_within 7 = .ok (.if_icmp .gt 7, 3) := by decide +kernel
theorem dX6_within_10 : decode cX6_within 10 = .ok (.iconst 1, 1) := by decide +kernel
theorem dX6_within_11 : decode cX6_within 11 = .ok (.goto 4, 3) := by decide +kernel
theorem dX6_within_14 : decode cX6_within 14 = .ok (.iconst 0, 1) := by decide +kernel
theorem dX6_within_15 : decode cX6_within 15 = .ok (.ireturn, 1) := by decide +kernel
theorem dX6_isPart_0 : decode cX6_isPart 0 = .ok (.iload_n 0, 1) := by decide +kernel
theorem dX6_isPart_1 : decode cX6_isPart 1 = .ok (.iconst 0, 1) := by decide +kernel
theorem dX6_isPart_2 : decode cX6_isPart 2 = .ok (.sipush 255, 3) := by decide +kernel
theorem dX6_isPart_5 : decode cX6_isPart 5 = .ok (.invokestatic 52, 3) := by decide +kernel
theorem dX6_isPart_8 : decode cX6_isPart 8 = .ok (.ireturn, 1) := by decide +kernel
theorem dX6_isOffset_0 : decode cX6_isOffset 0 = .ok (.iload_n 0, 1) := by decide +kernel
theorem dX6_isOffset_1 : decode cX6_isOffset 1 = .ok (.bipush (-12), 2) := by decide +kernel
theorem dX6_isOffset_3 : decode cX6_isOffset 3 = .ok (.bipush 12, 2) := by decide +kernel
theorem dX6_isOffset_5 : decode cX6_isOffset 5 = .ok (.invokestatic 52, 3) := by decide +kernel
theorem dX6_isOffset_8 : decode cX6_isOffset 8 = .ok (.ireturn, 1) := by decide +kernel
theorem dX6_isPixel_0 : decode cX6_isPixel 0 = .ok (.iload_n 1, 1) := by decide +kernel
theorem dX6_isPixel_1 : decode cX6_isPixel 1 = .ok (.iconst 0, 1) := by decide +kernel
theorem dX6_isPixel_2 : decode cX6_isPixel 2 = .ok (.aload_n 0, 1) := by decide +kernel
theorem dX6_isPixel_3 : decode cX6_isPixel 3 = .ok (.getfield 12, 3) := by decide +kernel
theorem dX6_isPixel_6 : decode cX6_isPixel 6 = .ok (.getfield 56, 3) := by decide +kernel
theorem dX6_isPixel_9 : decode cX6_isPixel 9 = .ok (.iconst 1, 1) := by decide +kernel
theorem dX6_isPixel_10 : decode cX6_isPixel 10 = .ok (.isub, 1) := by decide +kernel
theorem dX6_isPixel_11 : decode cX6_isPixel 11 = .ok (.invokestatic 52, 3) := by decide +kernel
theorem dX6_isPixel_14 : decode cX6_isPixel 14 = .ok (.ifCond .eq 24, 3) := by decide +kernel
theorem dX6_isPixel_17 : decode cX6_isPixel 17 = .ok (.iload_n 2, 1) := by decide +kernel
theorem dX6_isPixel_18 : decode cX6_isPixel 18 = .ok (.iconst 0, 1) := by decide +kernel
theorem dX6_isPixel_19 : decode cX6_isPixel 19 = .ok (.aload_n 0, 1) := by decide +kernel
theorem dX6_isPixel_20 : decode cX6_isPixel 20 = .ok (.getfield 12, 3) := by decide +kernel
theorem dX6_isPixel_23 : decode cX6_isPixel 23 = .ok (.getfield 59, 3) := by decide +kernel
theorem dX6_isPixel_26 : decode cX6_isPixel 26 = .ok (.iconst 1, 1) := by decide +kernel
theorem dX6_isPixel_27 : decode cX6_isPixel 27 = .ok (.isub, 1) := by decide +kernel
theorem dX6_isPixel_28 : decode cX6_isPixel 28 = .ok (.invokestatic 52, 3) := by decide +kernel
theorem dX6_isPixel_31 : decode cX6_isPixel 31 = .ok (.ifCond .eq 7, 3) := by decide +kernel
theorem dX6_isPixel_34 : decode cX6_isPixel 34 = .ok (.iconst 1, 1) := by decide +kernel
theorem dX6_isPixel_35 : decode cX6_isPixel 35 = .ok (.goto 4, 3) := by decide +kernel
theorem dX6_isPixel_38 : decode cX6_isPixel 38 = .ok (.iconst 0, 1) := by decide +kernel
theorem dX6_isPixel_39 : decode cX6_isPixel 39 = .ok (.ireturn, 1) := by decide +kernel
theorem dX6_greatestSetting_0 : decode cX6_greatestSetting 0 = .ok (.iload_n 0, 1) := by decide +kernel
theorem dX6_greatestSetting_1 : decode cX6_greatestSetting 1 = .ok (.ifCond .ne 6, 3) := by decide +kernel
theorem dX6_greatestSetting_4 : decode cX6_greatestSetting 4 = .ok (.bipush 100, 2) := by decide +kernel
theorem dX6_greatestSetting_6 : decode cX6_greatestSetting 6 = .ok (.ireturn, 1) := by decide +kernel
theorem dX6_greatestSetting_7 : decode cX6_greatestSetting 7 = .ok (.iload_n 0, 1) := by decide +kernel
theorem dX6_greatestSetting_8 : decode cX6_greatestSetting 8 = .ok (.iconst 1, 1) := by decide +kernel
theorem dX6_greatestSetting_9 : decode cX6_greatestSetting 9 = .ok (.if_icmp .ne 9, 3) := by decide +kernel
theorem dX6_greatestSetting_12 : decode cX6_greatestSetting 12 = .ok (.sipush 255, 3) := by decide +kernel
theorem dX6_greatestSetting_15 : decode cX6_greatestSetting 15 = .ok (.goto 6, 3) := by decide +kernel
theorem dX6_greatestSetting_18 : decode cX6_greatestSetting 18 = .ok (.sipush 1785, 3) := by decide +kernel
theorem dX6_greatestSetting_21 : decode cX6_greatestSetting 21 = .ok (.ireturn, 1) := by decide +kernel
theorem dX6_numberBelow_0 : decode cX6_numberBelow 0 = .ok (.aload_n 0, 1) := by decide +kernel
theorem dX6_numberBelow_1 : decode cX6_numberBelow 1 = .ok (.getfield 12, 3) := by decide +kernel
theorem dX6_numberBelow_4 : decode cX6_numberBelow 4 = .ok (.getfield 73, 3) := by decide +kernel
theorem dX6_numberBelow_7 : decode cX6_numberBelow 7 = .ok (.iload_n 1, 1) := by decide +kernel
theorem dX6_numberBelow_8 : decode cX6_numberBelow 8 = .ok (.invokevirtual 133, 3) := by decide +kernel
theorem dX6_numberBelow_11 : decode cX6_numberBelow 11 = .ok (.ifCond .ne 5, 3) := by decide +kernel
theorem dX6_numberBelow_14 : decode cX6_numberBelow 14 = .ok (.iconst (-1), 1) := by decide +kernel
theorem dX6_numberBelow_15 : decode cX6_numberBelow 15 = .ok (.ireturn, 1) := by decide +kernel
theorem dX6_numberBelow_16 : decode cX6_numberBelow 16 = .ok (.aload_n 0, 1) := by decide +kernel
theorem dX6_numberBelow_17 : decode cX6_numberBelow 17 = .ok (.getfield 12, 3) := by decide +kernel
theorem dX6_numberBelow_20 : decode cX6_numberBelow 20 = .ok (.getfield 73, 3) := by decide +kernel
theorem dX6_numberBelow_23 : decode cX6_numberBelow 23 = .ok (.iload_n 1, 1) := by decide +kernel
theorem dX6_numberBelow_24 : decode cX6_numberBelow 24 = .ok (.invokevirtual 77, 3) := by decide +kernel
theorem dX6_numberBelow_27 : decode cX6_numberBelow 27 = .ok (.astore_n 2, 1) := by decide +kernel
theorem dX6_numberBelow_28 : decode cX6_numberBelow 28 = .ok (.aload_n 2, 1) := by decide +kernel
theorem dX6_numberBelow_29 : decode cX6_numberBelow 29 = .ok (.getfield 150, 3) := by decide +kernel
theorem dX6_numberBelow_32 : decode cX6_numberBelow 32 = .ok (.ifCond .ne 11, 3) := by decide +kernel
theorem dX6_numberBelow_35 : decode cX6_numberBelow 35 = .ok (.aload_n 2, 1) := by decide +kernel
theorem dX6_numberBelow_36 : decode cX6_numberBelow 36 = .ok (.getfield 147, 3) := by decide +kernel
theorem dX6_numberBelow_39 : decode cX6_numberBelow 39 = .ok (.iconst 4, 1) := by decide +kernel
theorem dX6_numberBelow_40 : decode cX6_numberBelow 40 = .ok (.if_icmp .lt 6, 3) := by decide +kernel
theorem dX6_numberBelow_43 : decode cX6_numberBelow 43 = .ok (.bipush (-2), 2) := by decide +kernel
theorem dX6_numberBelow_45 : decode cX6_numberBelow 45 = .ok (.ireturn, 1) := by decide +kernel
theorem dX6_numberBelow_46 : decode cX6_numberBelow 46 = .ok (.aload_n 0, 1) := by decide +kernel
theorem dX6_numberBelow_47 : decode cX6_numberBelow 47 = .ok (.getfield 12, 3) := by decide +kernel
theorem dX6_numberBelow_50 : decode cX6_numberBelow 50 = .ok (.getfield 73, 3) := by decide +kernel
theorem dX6_numberBelow_53 : decode cX6_numberBelow 53 = .ok (.invokevirtual 302, 3) := by decide +kernel
theorem dX6_numberBelow_56 : decode cX6_numberBelow 56 = .ok (.istore_n 3, 1) := by decide +kernel
theorem dX6_numberBelow_57 : decode cX6_numberBelow 57 = .ok (.iload_n 3, 1) := by decide +kernel
theorem dX6_numberBelow_58 : decode cX6_numberBelow 58 = .ok (.iconst (-1), 1) := by decide +kernel
theorem dX6_numberBelow_59 : decode cX6_numberBelow 59 = .ok (.if_icmp .ne 8, 3) := by decide +kernel
theorem dX6_numberBelow_62 : decode cX6_numberBelow 62 = .ok (.bipush (-3), 2) := by decide +kernel
theorem dX6_numberBelow_64 : decode cX6_numberBelow 64 = .ok (.goto 4, 3) := by decide +kernel
theorem dX6_numberBelow_67 : decode cX6_numberBelow 67 = .ok (.iload_n 3, 1) := by decide +kernel
theorem dX6_numberBelow_68 : decode cX6_numberBelow 68 = .ok (.ireturn, 1) := by decide +kernel
theorem dX6_remember_0 : decode cX6_remember 0 = .ok (.aload_n 0, 1) := by decide +kernel
theorem dX6_remember_1 : decode cX6_remember 1 = .ok (.getfield 20, 3) := by decide +kernel
theorem dX6_remember_4 : decode cX6_remember 4 = .ok (.iconst 5, 1) := by decide +kernel
theorem dX6_remember_5 : decode cX6_remember 5 = .ok (.if_icmp .ne 54, 3) := by decide +kernel
theorem dX6_remember_8 : decode cX6_remember 8 = .ok (.aload_n 0, 1) := by decide +kernel
theorem dX6_remember_9 : decode cX6_remember 9 = .ok (.getfield 16, 3) := by decide +kernel
theorem dX6_remember_12 : decode cX6_remember 12 = .ok (.iconst 0, 1) := by decide +kernel
theorem dX6_remember_13 : decode cX6_remember 13 = .ok (.aaload, 1) := by decide +kernel
theorem dX6_remember_14 : decode cX6_remember 14 = .ok (.astore_n 1, 1) := by decide +kernel
theorem dX6_remember_15 : decode cX6_remember 15 = .ok (.iconst 1, 1) := by decide +kernel
theorem dX6_remember_16 : decode cX6_remember 16 = .ok (.istore_n 2, 1) := by decide +kernel
theorem dX6_remember_17 : decode cX6_remember 17 = .ok (.iload_n 2, 1) := by decide +kernel
theorem dX6_remember_18 : decode cX6_remember 18 = .ok (.iconst 5, 1) := by decide +kernel
theorem dX6_remember_19 : decode cX6_remember 19 = .ok (.if_icmp .ge 23, 3) := by decide +kernel
theorem dX6_remember_22 : decode cX6_remember 22 = .ok (.aload_n 0, 1) := by decide +kernel
theorem dX6_remember_23 : decode cX6_remember 23 = .ok (.getfield 16, 3) := by decide +kernel
theorem dX6_remember_26 : decode cX6_remember 26 = .ok (.iload_n 2, 1) := by decide +kernel
theorem dX6_remember_27 : decode cX6_remember 27 = .ok (.iconst 1, 1) := by decide +kernel
theorem dX6_remember_28 : decode cX6_remember 28 = .ok (.isub, 1) := by decide +kernel
theorem dX6_remember_29 : decode cX6_remember 29 = .ok (.aload_n 0, 1) := by decide +kernel
theorem dX6_remember_30 : decode cX6_remember 30 = .ok (.getfield 16, 3) := by decide +kernel
theorem dX6_remember_33 : decode cX6_remember 33 = .ok (.iload_n 2, 1) := by decide +kernel
theorem dX6_remember_34 : decode cX6_remember 34 = .ok (.aaload, 1) := by decide +kernel
theorem dX6_remember_35 : decode cX6_remember 35 = .ok (.aastore, 1) := by decide +kernel
theorem dX6_remember_36 : decode cX6_remember 36 = .ok (.iinc 2 1, 3) := by decide +kernel
theorem dX6_remember_39 : decode cX6_remember 39 = .ok (.goto (-22), 3) := by decide +kernel
theorem dX6_remember_42 : decode cX6_remember 42 = .ok (.aload_n 0, 1) := by decide +kernel
theorem dX6_remember_43 : decode cX6_remember 43 = .ok (.getfield 16, 3) := by decide +kernel
theorem dX6_remember_46 : decode cX6_remember 46 = .ok (.iconst 4, 1) := by decide +kernel
theorem dX6_remember_47 : decode cX6_remember 47 = .ok (.aload_n 1, 1) := by decide +kernel
theorem dX6_remember_48 : decode cX6_remember 48 = .ok (.aastore, 1) := by decide +kernel
theorem dX6_remember_49 : decode cX6_remember 49 = .ok (.aload_n 0, 1) := by decide +kernel
theorem dX6_remember_50 : decode cX6_remember 50 = .ok (.dup, 1) := by decide +kernel
theorem dX6_remember_51 : decode cX6_remember 51 = .ok (.getfield 20, 3) := by decide +kernel
theorem dX6_remember_54 : decode cX6_remember 54 = .ok (.iconst 1, 1) := by decide +kernel
theorem dX6_remember_55 : decode cX6_remember 55 = .ok (.isub, 1) := by decide +kernel
theorem dX6_remember_56 : decode cX6_remember 56 = .ok (.putfield 20, 3) := by decide +kernel
theorem dX6_remember_59 : decode cX6_remember 59 = .ok (.aload_n 0, 1) := by decide +kernel
theorem dX6_remember_60 : decode cX6_remember 60 = .ok (.getfield 16, 3) := by decide +kernel
theorem dX6_remember_63 : decode cX6_remember 63 = .ok (.aload_n 0, 1) := by decide +kernel
theorem dX6_remember_64 : decode cX6_remember 64 = .ok (.getfield 20, 3) := by decide +kernel
theorem dX6_remember_67 : decode cX6_remember 67 = .ok (.aaload, 1) := by decide +kernel
theorem dX6_remember_68 : decode cX6_remember 68 = .ok (.aload_n 0, 1) := by decide +kernel
theorem dX6_remember_69 : decode cX6_remember 69 = .ok (.getfield 12, 3) := by decide +kernel
theorem dX6_remember_72 : decode cX6_remember 72 = .ok (.invokevirtual 298, 3) := by decide +kernel
theorem dX6_remember_75 : decode cX6_remember 75 = .ok (.aload_n 0, 1) := by decide +kernel
theorem dX6_remember_76 : decode cX6_remember 76 = .ok (.dup, 1) := by decide +kernel
theorem dX6_remember_77 : decode cX6_remember 77 = .ok (.getfield 20, 3) := by decide +kernel
theorem dX6_remember_80 : decode cX6_remember 80 = .ok (.iconst 1, 1) := by decide +kernel
theorem dX6_remember_81 : decode cX6_remember 81 = .ok (.iadd, 1) := by decide +kernel
theorem dX6_remember_82 : decode cX6_remember 82 = .ok (.putfield 20, 3) := by decide +kernel
theorem dX6_remember_85 : decode cX6_remember 85 = .ok (.return_, 1) := by decide +kernel
theorem dX6_separateAt_0 : decode cX6_separateAt 0 = .ok (.aload_n 0, 1) := by decide +kernel
theorem dX6_separateAt_1 : decode cX6_separateAt 1 = .ok (.getfield 34, 3) := by decide +kernel
theorem dX6_separateAt_4 : decode cX6_separateAt 4 = .ok (.aload_n 0, 1) := by decide +kernel
theorem dX6_separateAt_5 : decode cX6_separateAt 5 = .ok (.getfield 12, 3) := by decide +kernel
theorem dX6_separateAt_8 : decode cX6_separateAt 8 = .ok (.iload_n 1, 1) := by decide +kernel
theorem dX6_separateAt_9 : decode cX6_separateAt 9 = .ok (.iload_n 2, 1) := by decide +kernel
theorem dX6_separateAt_10 : decode cX6_separateAt 10 = .ok (.invokevirtual 218, 3) := by decide +kernel
theorem dX6_separateAt_13 : decode cX6_separateAt 13 = .ok (.aload_n 0, 1) := by decide +kernel
theorem dX6_separateAt_14 : decode cX6_separateAt 14 = .ok (.getfield 34, 3) := by decide +kernel
theorem dX6_separateAt_17 : decode cX6_separateAt 17 = .ok (.aload_n 0, 1) := by decide +kernel
theorem dX6_separateAt_18 : decode cX6_separateAt 18 = .ok (.getfield 12, 3) := by decide +kernel
theorem dX6_separateAt_21 : decode cX6_separateAt 21 = .ok (.aload_n 0, 1) := by decide +kernel
theorem dX6_separateAt_22 : decode cX6_separateAt 22 = .ok (.getfield 12, 3) := by decide +kernel
theorem dX6_separateAt_25 : decode cX6_separateAt 25 = .ok (.getfield 171, 3) := by decide +kernel
theorem dX6_separateAt_28 : decode cX6_separateAt 28 = .ok (.invokevirtual 235, 3) := by decide +kernel
theorem dX6_separateAt_31 : decode cX6_separateAt 31 = .ok (.return_, 1) := by decide +kernel
theorem dX6_addUpPlates_0 : decode cX6_addUpPlates 0 = .ok (.iconst 0, 1) := by decide +kernel
theorem dX6_addUpPlates_1 : decode cX6_addUpPlates 1 = .ok (.istore_n 1, 1) := by decide +kernel
theorem dX6_addUpPlates_2 : decode cX6_addUpPlates 2 = .ok (.iload_n 1, 1) := by decide +kernel
theorem dX6_addUpPlates_3 : decode cX6_addUpPlates 3 = .ok (.bipush 7, 2) := by decide +kernel
theorem dX6_addUpPlates_5 : decode cX6_addUpPlates 5 = .ok (.if_icmp .ge 16, 3) := by decide +kernel
theorem dX6_addUpPlates_8 : decode cX6_addUpPlates 8 = .ok (.aload_n 0, 1) := by decide +kernel
theorem dX6_addUpPlates_9 : decode cX6_addUpPlates 9 = .ok (.getfield 45, 3) := by decide +kernel
theorem dX6_addUpPlates_12 : decode cX6_addUpPlates 12 = .ok (.iload_n 1, 1) := by decide +kernel
theorem dX6_addUpPlates_13 : decode cX6_addUpPlates 13 = .ok (.iconst 0, 1) := by decide +kernel
theorem dX6_addUpPlates_14 : decode cX6_addUpPlates 14 = .ok (.iastore, 1) := by decide +kernel
theorem dX6_addUpPlates_15 : decode cX6_addUpPlates 15 = .ok (.iinc 1 1, 3) := by decide +kernel
theorem dX6_addUpPlates_18 : decode cX6_addUpPlates 18 = .ok (.goto (-16), 3) := by decide +kernel
theorem dX6_addUpPlates_21 : decode cX6_addUpPlates 21 = .ok (.iconst 0, 1) := by decide +kernel
theorem dX6_addUpPlates_22 : decode cX6_addUpPlates 22 = .ok (.istore_n 1, 1) := by decide +kernel
theorem dX6_addUpPlates_23 : decode cX6_addUpPlates 23 = .ok (.iload_n 1, 1) := by decide +kernel
theorem dX6_addUpPlates_24 : decode cX6_addUpPlates 24 = .ok (.aload_n 0, 1) := by decide +kernel
theorem dX6_addUpPlates_25 : decode cX6_addUpPlates 25 = .ok (.getfield 12, 3) := by decide +kernel
theorem dX6_addUpPlates_28 : decode cX6_addUpPlates 28 = .ok (.getfield 59, 3) := by decide +kernel
theorem dX6_addUpPlates_31 : decode cX6_addUpPlates 31 = .ok (.if_icmp .ge 66, 3) := by decide +kernel
theorem dX6_addUpPlates_34 : decode cX6_addUpPlates 34 = .ok (.iconst 0, 1) := by decide +kernel
theorem dX6_addUpPlates_35 : decode cX6_addUpPlates 35 = .ok (.istore_n 2, 1) := by decide +kernel
theorem dX6_addUpPlates_36 : decode cX6_addUpPlates 36 = .ok (.iload_n 2, 1) := by decide +kernel
theorem dX6_addUpPlates_37 : decode cX6_addUpPlates 37 = .ok (.aload_n 0, 1) := by decide +kernel
theorem dX6_addUpPlates_38 : decode cX6_addUpPlates 38 = .ok (.getfield 12, 3) := by decide +kernel
theorem dX6_addUpPlates_41 : decode cX6_addUpPlates 41 = .ok (.getfield 56, 3) := by decide +kernel
theorem dX6_addUpPlates_44 : decode cX6_addUpPlates 44 = .ok (.if_icmp .ge 47, 3) := by decide +kernel
theorem dX6_addUpPlates_47 : decode cX6_addUpPlates 47 = .ok (.aload_n 0, 1) := by decide +kernel
theorem dX6_addUpPlates_48 : decode cX6_addUpPlates 48 = .ok (.iload_n 2, 1) := by decide +kernel
theorem dX6_addUpPlates_49 : decode cX6_addUpPlates 49 = .ok (.iload_n 1, 1) := by decide +kernel
theorem dX6_addUpPlates_50 : decode cX6_addUpPlates 50 = .ok (.invokevirtual 225, 3) := by decide +kernel
theorem dX6_addUpPlates_53 : decode cX6_addUpPlates 53 = .ok (.iconst 0, 1) := by decide +kernel
theorem dX6_addUpPlates_54 : decode cX6_addUpPlates 54 = .ok (.istore_n 3, 1) := by decide +kernel
theorem dX6_addUpPlates_55 : decode cX6_addUpPlates 55 = .ok (.iload_n 3, 1) := by decide +kernel
theorem dX6_addUpPlates_56 : decode cX6_addUpPlates 56 = .ok (.bipush 7, 2) := by decide +kernel
theorem dX6_addUpPlates_58 : decode cX6_addUpPlates 58 = .ok (.if_icmp .ge 27, 3) := by decide +kernel
theorem dX6_addUpPlates_61 : decode cX6_addUpPlates 61 = .ok (.aload_n 0, 1) := by decide +kernel
theorem dX6_addUpPlates_62 : decode cX6_addUpPlates 62 = .ok (.getfield 45, 3) := by decide +kernel
theorem dX6_addUpPlates_65 : decode cX6_addUpPlates 65 = .ok (.iload_n 3, 1) := by decide +kernel
theorem dX6_addUpPlates_66 : decode cX6_addUpPlates 66 = .ok (.dup2, 1) := by decide +kernel
theorem dX6_addUpPlates_67 : decode cX6_addUpPlates 67 = .ok (.iaload, 1) := by decide +kernel
theorem dX6_addUpPlates_68 : decode cX6_addUpPlates 68 = .ok (.aload_n 0, 1) := by decide +kernel
theorem dX6_addUpPlates_69 : decode cX6_addUpPlates 69 = .ok (.getfield 34, 3) := by decide +kernel
theorem dX6_addUpPlates_72 : decode cX6_addUpPlates 72 = .ok (.getfield 264, 3) := by decide +kernel
theorem dX6_addUpPlates_75 : decode cX6_addUpPlates 75 = .ok (.iload_n 3, 1) := by decide +kernel
theorem dX6_addUpPlates_76 : decode cX6_addUpPlates 76 = .ok (.iaload, 1) := by decide +kernel
theorem dX6_addUpPlates_77 : decode cX6_addUpPlates 77 = .ok (.iadd, 1) := by decide +kernel
theorem dX6_addUpPlates_78 : decode cX6_addUpPlates 78 = .ok (.iastore, 1) := by decide +kernel
theorem dX6_addUpPlates_79 : decode cX6_addUpPlates 79 = .ok (.iinc 3 1, 3) := by decide +kernel
theorem dX6_addUpPlates_82 : decode cX6_addUpPlates 82 = .ok (.goto (-27), 3) := by decide +kernel
theorem dX6_addUpPlates_85 : decode cX6_addUpPlates 85 = .ok (.iinc 2 1, 3) := by decide +kernel
theorem dX6_addUpPlates_88 : decode cX6_addUpPlates 88 = .ok (.goto (-52), 3) := by decide +kernel
theorem dX6_addUpPlates_91 : decode cX6_addUpPlates 91 = .ok (.iinc 1 1, 3) := by decide +kernel
theorem dX6_addUpPlates_94 : decode cX6_addUpPlates 94 = .ok (.goto (-71), 3) := by decide +kernel
theorem dX6_addUpPlates_97 : decode cX6_addUpPlates 97 = .ok (.return_, 1) := by decide +kernel
theorem dX6_sumOf_0 : decode cX6_sumOf 0 = .ok (.iconst 0, 1) := by decide +kernel
theorem dX6_sumOf_1 : decode cX6_sumOf 1 = .ok (.istore_n 1, 1) := by decide +kernel
theorem dX6_sumOf_2 : decode cX6_sumOf 2 = .ok (.aload_n 0, 1) := by decide +kernel
theorem dX6_sumOf_3 : decode cX6_sumOf 3 = .ok (.astore_n 2, 1) := by decide +kernel
theorem dX6_sumOf_4 : decode cX6_sumOf 4 = .ok (.aload_n 2, 1) := by decide +kernel
theorem dX6_sumOf_5 : decode cX6_sumOf 5 = .ok (.arraylength, 1) := by decide +kernel
theorem dX6_sumOf_6 : decode cX6_sumOf 6 = .ok (.istore_n 3, 1) := by decide +kernel
theorem dX6_sumOf_7 : decode cX6_sumOf 7 = .ok (.iconst 0, 1) := by decide +kernel
theorem dX6_sumOf_8 : decode cX6_sumOf 8 = .ok (.istore 4, 2) := by decide +kernel
theorem dX6_sumOf_10 : decode cX6_sumOf 10 = .ok (.iload 4, 2) := by decide +kernel
theorem dX6_sumOf_12 : decode cX6_sumOf 12 = .ok (.iload_n 3, 1) := by decide +kernel
theorem dX6_sumOf_13 : decode cX6_sumOf 13 = .ok (.if_icmp .ge 20, 3) := by decide +kernel
theorem dX6_sumOf_16 : decode cX6_sumOf 16 = .ok (.aload_n 2, 1) := by decide +kernel
theorem dX6_sumOf_17 : decode cX6_sumOf 17 = .ok (.iload 4, 2) := by decide +kernel
theorem dX6_sumOf_19 : decode cX6_sumOf 19 = .ok (.iaload, 1) := by decide +kernel
theorem dX6_sumOf_20 : decode cX6_sumOf 20 = .ok (.istore 5, 2) := by decide +kernel
theorem dX6_sumOf_22 : decode cX6_sumOf 22 = .ok (.iload_n 1, 1) := by decide +kernel
theorem dX6_sumOf_23 : decode cX6_sumOf 23 = .ok (.iload 5, 2) := by decide +kernel
theorem dX6_sumOf_25 : decode cX6_sumOf 25 = .ok (.iadd, 1) := by decide +kernel
theorem dX6_sumOf_26 : decode cX6_sumOf 26 = .ok (.istore_n 1, 1) := by decide +kernel
theorem dX6_sumOf_27 : decode cX6_sumOf 27 = .ok (.iinc 4 1, 3) := by decide +kernel
theorem dX6_sumOf_30 : decode cX6_sumOf 30 = .ok (.goto (-20), 3) := by decide +kernel
theorem dX6_sumOf_33 : decode cX6_sumOf 33 = .ok (.iload_n 1, 1) := by decide +kernel
theorem dX6_sumOf_34 : decode cX6_sumOf 34 = .ok (.ireturn, 1) := by decide +kernel
theorem dX6_sameValues_0 : decode cX6_sameValues 0 = .ok (.iconst 0, 1) := by decide +kernel
theorem dX6_sameValues_1 : decode cX6_sameValues 1 = .ok (.istore_n 2, 1) := by decide +kernel
theorem dX6_sameValues_2 : decode cX6_sameValues 2 = .ok (.iload_n 2, 1) := by decide +kernel
theorem dX6_sameValues_3 : decode cX6_sameValues 3 = .ok (.bipush 7, 2) := by decide +kernel
theorem dX6_sameValues_5 : decode cX6_sameValues 5 = .ok (.if_icmp .ge 20, 3) := by decide +kernel
theorem dX6_sameValues_8 : decode cX6_sameValues 8 = .ok (.aload_n 0, 1) := by decide +kernel
theorem dX6_sameValues_9 : decode cX6_sameValues 9 = .ok (.iload_n 2, 1) := by decide +kernel
theorem dX6_sameValues_10 : decode cX6_sameValues 10 = .ok (.iaload, 1) := by decide +kernel
theorem dX6_sameValues_11 : decode cX6_sameValues 11 = .ok (.aload_n 1, 1) := by decide +kernel
theorem dX6_sameValues_12 : decode cX6_sameValues 12 = .ok (.iload_n 2, 1) := by decide +kernel
theorem dX6_sameValues_13 : decode cX6_sameValues 13 = .ok (.iaload, 1) := by decide +kernel
theorem dX6_sameValues_14 : decode cX6_sameValues 14 = .ok (.if_icmp .eq 5, 3) := by decide +kernel
theorem dX6_sameValues_17 : decode cX6_sameValues 17 = .ok (.iconst 0, 1) := by decide +kernel
theorem dX6_sameValues_18 : decode cX6_sameValues 18 = .ok (.ireturn, 1) := by decide +kernel
theorem dX6_sameValues_19 : decode cX6_sameValues 19 = .ok (.iinc 2 1, 3) := by decide +kernel
theorem dX6_sameValues_22 : decode cX6_sameValues 22 = .ok (.goto (-20), 3) := by decide +kernel
theorem dX6_sameValues_25 : decode cX6_sameValues 25 = .ok (.iconst 1, 1) := by decide +kernel
theorem dX6_sameValues_26 : decode cX6_sameValues 26 = .ok (.ireturn, 1) := by decide +kernel
theorem dJ9_floorDiv_7cf53_0 : decode cJ9_floorDiv_7cf53 0 = .ok (.iload_n 0, 1) := by decide +kernel
theorem dJ9_floorDiv_7cf53_1 : decode cJ9_floorDiv_7cf53 1 = .ok (.iload_n 1, 1) := by decide +kernel
theorem dJ9_floorDiv_7cf53_2 : decode cJ9_floorDiv_7cf53 2 = .ok (.idiv, 1) := by decide +kernel
theorem dJ9_floorDiv_7cf53_3 : decode cJ9_floorDiv_7cf53 3 = .ok (.istore_n 2, 1) := by decide +kernel
theorem dJ9_floorDiv_7cf53_4 : decode cJ9_floorDiv_7cf53 4 = .ok (.iload_n 0, 1) := by decide +kernel
theorem dJ9_floorDiv_7cf53_5 : decode cJ9_floorDiv_7cf53 5 = .ok (.iload_n 1, 1) := by decide +kernel
theorem dJ9_floorDiv_7cf53_6 : decode cJ9_floorDiv_7cf53 6 = .ok (.ixor, 1) := by decide +kernel
theorem dJ9_floorDiv_7cf53_7 : decode cJ9_floorDiv_7cf53 7 = .ok (.ifCond .ge 14, 3) := by decide +kernel
theorem dJ9_floorDiv_7cf53_10 : decode cJ9_floorDiv_7cf53 10 = .ok (.iload_n 2, 1) := by decide +kernel
theorem dJ9_floorDiv_7cf53_11 : decode cJ9_floorDiv_7cf53 11 = .ok (.iload_n 1, 1) := by decide +kernel
theorem dJ9_floorDiv_7cf53_12 : decode cJ9_floorDiv_7cf53 12 = .ok (.imul, 1) := by decide +kernel
theorem dJ9_floorDiv_7cf53_13 : decode cJ9_floorDiv_7cf53 13 = .ok (.iload_n 0, 1) := by decide +kernel
theorem dJ9_floorDiv_7cf53_14 : decode cJ9_floorDiv_7cf53 14 = .ok (.if_icmp .eq 7, 3) := by decide +kernel
theorem dJ9_floorDiv_7cf53_17 : decode cJ9_floorDiv_7cf53 17 = .ok (.iload_n 2, 1) := by decide +kernel
theorem dJ9_floorDiv_7cf53_18 : decode cJ9_floorDiv_7cf53 18 = .ok (.iconst 1, 1) := by decide +kernel
theorem dJ9_floorDiv_7cf53_19 : decode cJ9_floorDiv_7cf53 19 = .ok (.isub, 1) := by decide +kernel
theorem dJ9_floorDiv_7cf53_20 : decode cJ9_floorDiv_7cf53 20 = .ok (.ireturn, 1) := by decide +kernel
theorem dJ9_floorDiv_7cf53_21 : decode cJ9_floorDiv_7cf53 21 = .ok (.iload_n 2, 1) := by decide +kernel
theorem dJ9_floorDiv_7cf53_22 : decode cJ9_floorDiv_7cf53 22 = .ok (.ireturn, 1) := by decide +kernel
theorem dJ9_max_7cf53_0 : decode cJ9_max_7cf53 0 = .ok (.iload_n 0, 1) := by decide +kernel
theorem dJ9_max_7cf53_1 : decode cJ9_max_7cf53 1 = .ok (.iload_n 1, 1) := by decide +kernel
theorem dJ9_max_7cf53_2 : decode cJ9_max_7cf53 2 = .ok (.if_icmp .lt 7, 3) := by decide +kernel
theorem dJ9_max_7cf53_5 : decode cJ9_max_7cf53 5 = .ok (.iload_n 0, 1) := by decide +kernel
theorem dJ9_max_7cf53_6 : decode cJ9_max_7cf53 6 = .ok (.goto 4, 3) := by decide +kernel
theorem dJ9_max_7cf53_9 : decode cJ9_max_7cf53 9 = .ok (.iload_n 1, 1) := by decide +kernel
theorem dJ9_max_7cf53_10 : decode cJ9_max_7cf53 10 = .ok (.ireturn, 1) := by decide +kernel
theorem dJ9_min_7cf53_0 : decode cJ9_min_7cf53 0 = .ok (.iload_n 0, 1) := by decide +kernel
theorem dJ9_min_7cf53_1 : decode cJ9_min_7cf53 1 = .ok (.iload_n 1, 1) := by decide +kernel
theorem dJ9_min_7cf53_2 : decode cJ9_min_7cf53 2 = .ok (.if_icmp .gt 7, 3) := by decide +kernel
theorem dJ9_min_7cf53_5 : decode cJ9_min_7cf53 5 = .ok (.iload_n 0, 1) := by decide +kernel
theorem dJ9_min_7cf53_6 : decode cJ9_min_7cf53 6 = .ok (.goto 4, 3) := by decide +kernel
theorem dJ9_min_7cf53_9 : decode cJ9_min_7cf53 9 = .ok (.iload_n 1, 1) := by decide +kernel
theorem dJ9_min_7cf53_10 : decode cJ9_min_7cf53 10 = .ok (.ireturn, 1) := by decide +kernel
theorem dL_cell_0 : decode cL_cell 0 = .ok (.iload_n 1, 1) := by decide +kernel
theorem dL_cell_1 : decode cL_cell 1 = .ok (.aload_n 0, 1) := by decide +kernel
theorem dL_cell_2 : decode cL_cell 2 = .ok (.arraylength, 1) := by decide +kernel
theorem dL_cell_3 : decode cL_cell 3 = .ok (.if_icmp .ge 9, 3) := by decide +kernel
theorem dL_cell_6 : decode cL_cell 6 = .ok (.aload_n 0, 1) := by decide +kernel
theorem dL_cell_7 : decode cL_cell 7 = .ok (.iload_n 1, 1) := by decide +kernel
theorem dL_cell_8 : decode cL_cell 8 = .ok (.iaload, 1) := by decide +kernel
theorem dL_cell_9 : decode cL_cell 9 = .ok (.goto 9, 3) := by decide +kernel
theorem dL_cell_12 : decode cL_cell 12 = .ok (.ldc 7, 2) := by decide +kernel
theorem dL_cell_14 : decode cL_cell 14 = .ok (.iload_n 1, 1) := by decide +kernel
theorem dL_cell_15 : decode cL_cell 15 = .ok (.iconst 3, 1) := by decide +kernel
theorem dL_cell_16 : decode cL_cell 16 = .ok (.iadd, 1) := by decide +kernel
theorem dL_cell_17 : decode cL_cell 17 = .ok (.imul, 1) := by decide +kernel
theorem dL_cell_18 : decode cL_cell 18 = .ok (.ireturn, 1) := by decide +kernel
theorem dL_low_0 : decode cL_low 0 = .ok (.iload_n 0, 1) := by decide +kernel
theorem dL_low_1 : decode cL_low 1 = .ok (.ldc 8, 2) := by decide +kernel
theorem dL_low_3 : decode cL_low 3 = .ok (.iand, 1) := by decide +kernel
theorem dL_low_4 : decode cL_low 4 = .ok (.iload_n 1, 1) := by decide +kernel
theorem dL_low_5 : decode cL_low 5 = .ok (.irem, 1) := by decide +kernel
theorem dL_low_6 : decode cL_low 6 = .ok (.ireturn, 1) := by decide +kernel
theorem dL_down_0 : decode cL_down 0 = .ok (.iload_n 0, 1) := by decide +kernel
theorem dL_down_1 : decode cL_down 1 = .ok (.iload_n 1, 1) := by decide +kernel
theorem dL_down_2 : decode cL_down 2 = .ok (.irem, 1) := by decide +kernel
theorem dL_down_3 : decode cL_down 3 = .ok (.istore_n 2, 1) := by decide +kernel
theorem dL_down_4 : decode cL_down 4 = .ok (.iload_n 0, 1) := by decide +kernel
theorem dL_down_5 : decode cL_down 5 = .ok (.iload_n 2, 1) := by decide +kernel
theorem dL_down_6 : decode cL_down 6 = .ok (.ifCond .ge 9, 3) := by decide +kernel
theorem dL_down_9 : decode cL_down 9 = .ok (.iload_n 2, 1) := by decide +kernel
theorem dL_down_10 : decode cL_down 10 = .ok (.iload_n 1, 1) := by decide +kernel
theorem dL_down_11 : decode cL_down 11 = .ok (.iadd, 1) := by decide +kernel
theorem dL_down_12 : decode cL_down 12 = .ok (.goto 4, 3) := by decide +kernel
theorem dL_down_15 : decode cL_down 15 = .ok (.iload_n 2, 1) := by decide +kernel
theorem dL_down_16 : decode cL_down 16 = .ok (.isub, 1) := by decide +kernel
theorem dL_down_17 : decode cL_down 17 = .ok (.iload_n 1, 1) := by decide +kernel
theorem dL_down_18 : decode cL_down 18 = .ok (.idiv, 1) := by decide +kernel
theorem dL_down_19 : decode cL_down 19 = .ok (.ireturn, 1) := by decide +kernel
theorem dL_begins_0 : decode cL_begins 0 = .ok (.iconst 0, 1) := by decide +kernel
theorem dL_begins_1 : decode cL_begins 1 = .ok (.istore 5, 2) := by decide +kernel
theorem dL_begins_3 : decode cL_begins 3 = .ok (.iload 5, 2) := by decide +kernel
theorem dL_begins_5 : decode cL_begins 5 = .ok (.bipush 24, 2) := by decide +kernel
theorem dL_begins_7 : decode cL_begins 7 = .ok (.if_icmp .ge 14, 3) := by decide +kernel
theorem dL_begins_10 : decode cL_begins 10 = .ok (.aload_n 0, 1) := by decide +kernel
theorem dL_begins_11 : decode cL_begins 11 = .ok (.iload 5, 2) := by decide +kernel
theorem dL_begins_13 : decode cL_begins 13 = .ok (.iconst (-1), 1) := by decide +kernel
theorem dL_begins_14 : decode cL_begins 14 = .ok (.iastore, 1) := by decide +kernel
theorem dL_begins_15 : decode cL_begins 15 = .ok (.iinc 5 1, 3) := by decide +kernel
theorem dL_begins_18 : decode cL_begins 18 = .ok (.goto (-15), 3) := by decide +kernel
theorem dL_begins_21 : decode cL_begins 21 = .ok (.aload_n 0, 1) := by decide +kernel
theorem dL_begins_22 : decode cL_begins 22 = .ok (.iconst 0, 1) := by decide +kernel
theorem dL_begins_23 : decode cL_begins 23 = .ok (.iconst 0, 1) := by decide +kernel
theorem dL_begins_24 : decode cL_begins 24 = .ok (.iastore, 1) := by decide +kernel
theorem dL_begins_25 : decode cL_begins 25 = .ok (.aload_n 1, 1) := by decide +kernel
theorem dL_begins_26 : decode cL_begins 26 = .ok (.iconst 0, 1) := by decide +kernel
theorem dL_begins_27 : decode cL_begins 27 = .ok (.iconst (-1), 1) := by decide +kernel
theorem dL_begins_28 : decode cL_begins 28 = .ok (.iastore, 1) := by decide +kernel
theorem dL_begins_29 : decode cL_begins 29 = .ok (.aload_n 3, 1) := by decide +kernel
theorem dL_begins_30 : decode cL_begins 30 = .ok (.iconst 0, 1) := by decide +kernel
theorem dL_begins_31 : decode cL_begins 31 = .ok (.ldc 9, 2) := by decide +kernel
theorem dL_begins_33 : decode cL_begins 33 = .ok (.iastore, 1) := by decide +kernel
theorem dL_begins_34 : decode cL_begins 34 = .ok (.return_, 1) := by decide +kernel
theorem dL_depthOf_0 : decode cL_depthOf 0 = .ok (.iconst 0, 1) := by decide +kernel
theorem dL_depthOf_1 : decode cL_depthOf 1 = .ok (.istore_n 2, 1) := by decide +kernel
theorem dL_depthOf_2 : decode cL_depthOf 2 = .ok (.iload_n 1, 1) := by decide +kernel
theorem dL_depthOf_3 : decode cL_depthOf 3 = .ok (.istore_n 3, 1) := by decide +kernel
theorem dL_depthOf_4 : decode cL_depthOf 4 = .ok (.iload_n 3, 1) := by decide +kernel
theorem dL_depthOf_5 : decode cL_depthOf 5 = .ok (.ifCond .le 13, 3) := by decide +kernel
theorem dL_depthOf_8 : decode cL_depthOf 8 = .ok (.aload_n 0, 1) := by decide +kernel
theorem dL_depthOf_9 : decode cL_depthOf 9 = .ok (.iload_n 3, 1) := by decide +kernel
theorem dL_depthOf_10 : decode cL_depthOf 10 = .ok (.iaload, 1) := by decide +kernel
theorem dL_depthOf_11 : decode cL_depthOf 11 = .ok (.istore_n 3, 1) := by decide +kernel
theorem dL_depthOf_12 : decode cL_depthOf 12 = .ok (.iinc 2 1, 3) := by decide +kernel
theorem dL_depthOf_15 : decode cL_depthOf 15 = .ok (.goto (-11), 3) := by decide +kernel
theorem dL_depthOf_18 : decode cL_depthOf 18 = .ok (.iload_n 2, 1) := by decide +kernel
theorem dL_depthOf_19 : decode cL_depthOf 19 = .ok (.ireturn, 1) := by decide +kernel
theorem dL_isAdded_0 : decode cL_isAdded 0 = .ok (.iload 6, 2) := by decide +kernel
theorem dL_isAdded_2 : decode cL_isAdded 2 = .ok (.iconst 3, 1) := by decide +kernel
theorem dL_isAdded_3 : decode cL_isAdded 3 = .ok (.ishr, 1) := by decide +kernel
theorem dL_isAdded_4 : decode cL_isAdded 4 = .ok (.bipush 26, 2) := by decide +kernel
theorem dL_isAdded_6 : decode cL_isAdded 6 = .ok (.invokestatic 10, 3) := by decide +kernel
theorem dL_isAdded_9 : decode cL_isAdded 9 = .ok (.iconst 1, 1) := by decide +kernel
theorem dL_isAdded_10 : decode cL_isAdded 10 = .ok (.isub, 1) := by decide +kernel
theorem dL_isAdded_11 : decode cL_isAdded 11 = .ok (.istore 7, 2) := by decide +kernel
theorem dL_isAdded_13 : decode cL_isAdded 13 = .ok (.iload 6, 2) := by decide +kernel
theorem dL_isAdded_15 : decode cL_isAdded 15 = .ok (.bipush 9, 2) := by decide +kernel
theorem dL_isAdded_17 : decode cL_isAdded 17 = .ok (.ishr, 1) := by decide +kernel
theorem dL_isAdded_18 : decode cL_isAdded 18 = .ok (.iconst 3, 1) := by decide +kernel
theorem dL_isAdded_19 : decode cL_isAdded 19 = .ok (.invokestatic 10, 3) := by decide +kernel
theorem dL_isAdded_22 : decode cL_isAdded 22 = .ok (.ifCond .ne 7, 3) := by decide +kernel
theorem dL_isAdded_25 : decode cL_isAdded 25 = .ok (.iconst 0, 1) := by decide +kernel
theorem dL_isAdded_26 : decode cL_isAdded 26 = .ok (.goto 5, 3) := by decide +kernel
theorem dL_isAdded_29 : decode cL_isAdded 29 = .ok (.iload 7, 2) := by decide +kernel
theorem dL_isAdded_31 : decode cL_isAdded 31 = .ok (.istore 7, 2) := by decide +kernel
theorem dL_isAdded_33 : decode cL_isAdded 33 = .ok (.iload 6, 2) := by decide +kernel
theorem dL_isAdded_35 : decode cL_isAdded 35 = .ok (.bipush 11, 2) := by decide +kernel
theorem dL_isAdded_37 : decode cL_isAdded 37 = .ok (.ishr, 1) := by decide +kernel
theorem dL_isAdded_38 : decode cL_isAdded 38 = .ok (.iconst 3, 1) := by decide +kernel
theorem dL_isAdded_39 : decode cL_isAdded 39 = .ok (.invokestatic 10, 3) := by decide +kernel
theorem dL_isAdded_42 : decode cL_isAdded 42 = .ok (.istore 8, 2) := by decide +kernel
theorem dL_isAdded_44 : decode cL_isAdded 44 = .ok (.iload 6, 2) := by decide +kernel
theorem dL_isAdded_46 : decode cL_isAdded 46 = .ok (.bipush 13, 2) := by decide +kernel
theorem dL_isAdded_48 : decode cL_isAdded 48 = .ok (.ishr, 1) := by decide +kernel
theorem dL_isAdded_49 : decode cL_isAdded 49 = .ok (.bipush 9, 2) := by decide +kernel
theorem dL_isAdded_51 : decode cL_isAdded 51 = .ok (.invokestatic 10, 3) := by decide +kernel
theorem dL_isAdded_54 : decode cL_isAdded 54 = .ok (.iconst 4, 1) := by decide +kernel
theorem dL_isAdded_55 : decode cL_isAdded 55 = .ok (.isub, 1) := by decide +kernel
theorem dL_isAdded_56 : decode cL_isAdded 56 = .ok (.istore 9, 2) := by decide +kernel
theorem dL_isAdded_58 : decode cL_isAdded 58 = .ok (.iload 6, 2) := by decide +kernel
theorem dL_isAdded_60 : decode cL_isAdded 60 = .ok (.bipush 16, 2) := by decide +kernel
theorem dL_isAdded_62 : decode cL_isAdded 62 = .ok (.ishr, 1) := by decide +kernel
theorem dL_isAdded_63 : decode cL_isAdded 63 = .ok (.bipush 9, 2) := by decide +kernel
theorem dL_isAdded_65 : decode cL_isAdded 65 = .ok (.invokestatic 10, 3) := by decide +kernel
theorem dL_isAdded_68 : decode cL_isAdded 68 = .ok (.iconst 4, 1) := by decide +kernel
theorem dL_isAdded_69 : decode cL_isAdded 69 = .ok (.isub, 1) := by decide +kernel
theorem dL_isAdded_70 : decode cL_isAdded 70 = .ok (.istore 10, 2) := by decide +kernel
theorem dL_isAdded_72 : decode cL_isAdded 72 = .ok (.iconst 1, 1) := by decide +kernel
theorem dL_isAdded_73 : decode cL_isAdded 73 = .ok (.iload 6, 2) := by decide +kernel
theorem dL_isAdded_75 : decode cL_isAdded 75 = .ok (.bipush 19, 2) := by decide +kernel
theorem dL_isAdded_77 : decode cL_isAdded 77 = .ok (.ishr, 1) := by decide +kernel
theorem dL_isAdded_78 : decode cL_isAdded 78 = .ok (.bipush 12, 2) := by decide +kernel
theorem dL_isAdded_80 : decode cL_isAdded 80 = .ok (.invokestatic 10, 3) := by decide +kernel
theorem dL_isAdded_83 : decode cL_isAdded 83 = .ok (.iadd, 1) := by decide +kernel
theorem dL_isAdded_84 : decode cL_isAdded 84 = .ok (.istore 11, 2) := by decide +kernel
theorem dL_isAdded_86 : decode cL_isAdded 86 = .ok (.iconst 1, 1) := by decide +kernel
theorem dL_isAdded_87 : decode cL_isAdded 87 = .ok (.iload 6, 2) := by decide +kernel
theorem dL_isAdded_89 : decode cL_isAdded 89 = .ok (.iconst 5, 1) := by decide +kernel
theorem dL_isAdded_90 : decode cL_isAdded 90 = .ok (.ishr, 1) := by decide +kernel
theorem dL_isAdded_91 : decode cL_isAdded 91 = .ok (.bipush 12, 2) := by decide +kernel
theorem dL_isAdded_93 : decode cL_isAdded 93 = .ok (.invokestatic 10, 3) := by decide +kernel
theorem dL_isAdded_96 : decode cL_isAdded 96 = .ok (.iadd, 1) := by decide +kernel
theorem dL_isAdded_97 : decode cL_isAdded 97 = .ok (.istore 12, 2) := by decide +kernel
theorem dL_isAdded_99 : decode cL_isAdded 99 = .ok (.iload 6, 2) := by decide +kernel
theorem dL_isAdded_101 : decode cL_isAdded 101 = .ok (.iconst 2, 1) := by decide +kernel
theorem dL_isAdded_102 : decode cL_isAdded 102 = .ok (.ishr, 1) := by decide +kernel
theorem dL_isAdded_103 : decode cL_isAdded 103 = .ok (.sipush 256, 3) := by decide +kernel
theorem dL_isAdded_106 : decode cL_isAdded 106 = .ok (.invokestatic 10, 3) := by decide +kernel
theorem dL_isAdded_109 : decode cL_isAdded 109 = .ok (.istore 13, 2) := by decide +kernel
theorem dL_isAdded_111 : decode cL_isAdded 111 = .ok (.iload 6, 2) := by decide +kernel
theorem dL_isAdded_113 : decode cL_isAdded 113 = .ok (.bipush 10, 2) := by decide +kernel
theorem dL_isAdded_115 : decode cL_isAdded 115 = .ok (.ishr, 1) := by decide +kernel
theorem dL_isAdded_116 : decode cL_isAdded 116 = .ok (.sipush 256, 3) := by decide +kernel
theorem dL_isAdded_119 : decode cL_isAdded 119 = .ok (.invokestatic 10, 3) := by decide +kernel
theorem dL_isAdded_122 : decode cL_isAdded 122 = .ok (.istore 14, 2) := by decide +kernel
theorem dL_isAdded_124 : decode cL_isAdded 124 = .ok (.iload 6, 2) := by decide +kernel
theorem dL_isAdded_126 : decode cL_isAdded 126 = .ok (.bipush 18, 2) := by decide +kernel
theorem dL_isAdded_128 : decode cL_isAdded 128 = .ok (.ishr, 1) := by decide +kernel
theorem dL_isAdded_129 : decode cL_isAdded 129 = .ok (.sipush 256, 3) := by decide +kernel
theorem dL_isAdded_132 : decode cL_isAdded 132 = .ok (.invokestatic 10, 3) := by decide +kernel
theorem dL_isAdded_135 : decode cL_isAdded 135 = .ok (.istore 15, 2) := by decide +kernel
theorem dL_isAdded_137 : decode cL_isAdded 137 = .ok (.iload 6, 2) := by decide +kernel
theorem dL_isAdded_139 : decode cL_isAdded 139 = .ok (.bipush 7, 2) := by decide +kernel
theorem dL_isAdded_141 : decode cL_isAdded 141 = .ok (.ishr, 1) := by decide +kernel
theorem dL_isAdded_142 : decode cL_isAdded 142 = .ok (.iconst 3, 1) := by decide +kernel
theorem dL_isAdded_143 : decode cL_isAdded 143 = .ok (.invokestatic 10, 3) := by decide +kernel
theorem dL_isAdded_146 : decode cL_isAdded 146 = .ok (.ifCond .ne 8, 3) := by decide +kernel
theorem dL_isAdded_149 : decode cL_isAdded 149 = .ok (.bipush 100, 2) := by decide +kernel
theorem dL_isAdded_151 : decode cL_isAdded 151 = .ok (.goto 8, 3) := by decide +kernel
theorem dL_isAdded_154 : decode cL_isAdded 154 = .ok (.iload 13, 2) := by decide +kernel
theorem dL_isAdded_156 : decode cL_isAdded 156 = .ok (.bipush 101, 2) := by decide +kernel
theorem dL_isAdded_158 : decode cL_isAdded 158 = .ok (.irem, 1) := by decide +kernel
theorem dL_isAdded_159 : decode cL_isAdded 159 = .ok (.istore 16, 2) := by decide +kernel
theorem dL_isAdded_161 : decode cL_isAdded 161 = .ok (.bipush (-3), 2) := by decide +kernel
theorem dL_isAdded_163 : decode cL_isAdded 163 = .ok (.istore 17, 2) := by decide +kernel
theorem dL_isAdded_165 : decode cL_isAdded 165 = .ok (.bipush 23, 2) := by decide +kernel
theorem dL_isAdded_167 : decode cL_isAdded 167 = .ok (.istore 18, 2) := by decide +kernel
theorem dL_isAdded_169 : decode cL_isAdded 169 = .ok (.iload 18, 2) := by decide +kernel
theorem dL_isAdded_171 : decode cL_isAdded 171 = .ok (.ifCond .le 25, 3) := by decide +kernel
theorem dL_isAdded_174 : decode cL_isAdded 174 = .ok (.aload_n 1, 1) := by decide +kernel
theorem dL_isAdded_175 : decode cL_isAdded 175 = .ok (.iload 18, 2) := by decide +kernel
theorem dL_isAdded_177 : decode cL_isAdded 177 = .ok (.iaload, 1) := by decide +kernel
theorem dL_isAdded_178 : decode cL_isAdded 178 = .ok (.ifCond .ge 8, 3) := by decide +kernel
theorem dL_isAdded_181 : decode cL_isAdded 181 = .ok (.iload 18, 2) := by decide +kernel
theorem dL_isAdded_183 : decode cL_isAdded 183 = .ok (.goto 5, 3) := by decide +kernel
theorem dL_isAdded_186 : decode cL_isAdded 186 = .ok (.iload 17, 2) := by decide +kernel
theorem dL_isAdded_188 : decode cL_isAdded 188 = .ok (.istore 17, 2) := by decide +kernel
theorem dL_isAdded_190 : decode cL_isAdded 190 = .ok (.iinc 18 (-1), 3) := by decide +kernel
theorem dL_isAdded_193 : decode cL_isAdded 193 = .ok (.goto (-24), 3) := by decide +kernel
theorem dL_isAdded_196 : decode cL_isAdded 196 = .ok (.iload 7, 2) := by decide +kernel
theorem dL_isAdded_198 : decode cL_isAdded 198 = .ok (.ifCond .lt 17, 3) := by decide +kernel
theorem dL_isAdded_201 : decode cL_isAdded 201 = .ok (.iload 7, 2) := by decide +kernel
theorem dL_isAdded_203 : decode cL_isAdded 203 = .ok (.bipush 23, 2) := by decide +kernel
theorem dL_isAdded_205 : decode cL_isAdded 205 = .ok (.if_icmp .gt 10, 3) := by decide +kernel
theorem dL_isAdded_208 : decode cL_isAdded 208 = .ok (.aload_n 1, 1) := by decide +kernel
theorem dL_isAdded_209 : decode cL_isAdded 209 = .ok (.iload 7, 2) := by decide +kernel
theorem dL_isAdded_211 : decode cL_isAdded 211 = .ok (.iaload, 1) := by decide +kernel
theorem dL_isAdded_212 : decode cL_isAdded 212 = .ok (.ifCond .ge 7, 3) := by decide +kernel
theorem dL_isAdded_215 : decode cL_isAdded 215 = .ok (.iconst (-1), 1) := by decide +kernel
theorem dL_isAdded_216 : decode cL_isAdded 216 = .ok (.goto 27, 3) := by decide +kernel
theorem dL_isAdded_219 : decode cL_isAdded 219 = .ok (.aload_n 1, 1) := by decide +kernel
theorem dL_isAdded_220 : decode cL_isAdded 220 = .ok (.iload 7, 2) := by decide +kernel
theorem dL_isAdded_222 : decode cL_isAdded 222 = .ok (.iaload, 1) := by decide +kernel
theorem dL_isAdded_223 : decode cL_isAdded 223 = .ok (.ifCond .ne 13, 3) := by decide +kernel
theorem dL_isAdded_226 : decode cL_isAdded 226 = .ok (.aload_n 2, 1) := by decide +kernel
theorem dL_isAdded_227 : decode cL_isAdded 227 = .ok (.iload 7, 2) := by decide +kernel
theorem dL_isAdded_229 : decode cL_isAdded 229 = .ok (.invokestatic 16, 3) := by decide +kernel
theorem dL_isAdded_232 : decode cL_isAdded 232 = .ok (.iconst 4, 1) := by decide +kernel
theorem dL_isAdded_233 : decode cL_isAdded 233 = .ok (.if_icmp .ne 8, 3) := by decide +kernel
theorem dL_isAdded_236 : decode cL_isAdded 236 = .ok (.bipush (-2), 2) := by decide +kernel
theorem dL_isAdded_238 : decode cL_isAdded 238 = .ok (.goto 5, 3) := by decide +kernel
theorem dL_isAdded_241 : decode cL_isAdded 241 = .ok (.iload 17, 2) := by decide +kernel
theorem dL_isAdded_243 : decode cL_isAdded 243 = .ok (.istore 18, 2) := by decide +kernel
theorem dL_isAdded_245 : decode cL_isAdded 245 = .ok (.aload_n 0, 1) := by decide +kernel
theorem dL_isAdded_246 : decode cL_isAdded 246 = .ok (.iload 9, 2) := by decide +kernel
theorem dL_isAdded_248 : decode cL_isAdded 248 = .ok (.iload 10, 2) := by decide +kernel
theorem dL_isAdded_250 : decode cL_isAdded 250 = .ok (.iload 11, 2) := by decide +kernel
theorem dL_isAdded_252 : decode cL_isAdded 252 = .ok (.iload 12, 2) := by decide +kernel
theorem dL_isAdded_254 : decode cL_isAdded 254 = .ok (.invokevirtual 20, 3) := by decide +kernel
theorem dL_isAdded_257 : decode cL_isAdded 257 = .ok (.iload 11, 2) := by decide +kernel
theorem dL_isAdded_259 : decode cL_isAdded 259 = .ok (.iload 12, 2) := by decide +kernel
theorem dL_isAdded_261 : decode cL_isAdded 261 = .ok (.imul, 1) := by decide +kernel
theorem dL_isAdded_262 : decode cL_isAdded 262 = .ok (.if_icmp .ne 28, 3) := by decide +kernel
theorem dL_isAdded_265 : decode cL_isAdded 265 = .ok (.aload_n 0, 1) := by decide +kernel
theorem dL_isAdded_266 : decode cL_isAdded 266 = .ok (.iload 13, 2) := by decide +kernel
theorem dL_isAdded_268 : decode cL_isAdded 268 = .ok (.iload 14, 2) := by decide +kernel
theorem dL_isAdded_270 : decode cL_isAdded 270 = .ok (.iload 15, 2) := by decide +kernel
theorem dL_isAdded_272 : decode cL_isAdded 272 = .ok (.invokevirtual 26, 3) := by decide +kernel
theorem dL_isAdded_275 : decode cL_isAdded 275 = .ok (.iload 13, 2) := by decide +kernel
theorem dL_isAdded_277 : decode cL_isAdded 277 = .ok (.iload 14, 2) := by decide +kernel
theorem dL_isAdded_279 : decode cL_isAdded 279 = .ok (.iadd, 1) := by decide +kernel
theorem dL_isAdded_280 : decode cL_isAdded 280 = .ok (.iload 15, 2) := by decide +kernel
theorem dL_isAdded_282 : decode cL_isAdded 282 = .ok (.iadd, 1) := by decide +kernel
theorem dL_isAdded_283 : decode cL_isAdded 283 = .ok (.if_icmp .ne 7, 3) := by decide +kernel
theorem dL_isAdded_286 : decode cL_isAdded 286 = .ok (.iconst 1, 1) := by decide +kernel
theorem dL_isAdded_287 : decode cL_isAdded 287 = .ok (.goto 4, 3) := by decide +kernel
theorem dL_isAdded_290 : decode cL_isAdded 290 = .ok (.iconst 0, 1) := by decide +kernel
theorem dL_isAdded_291 : decode cL_isAdded 291 = .ok (.istore 19, 2) := by decide +kernel
theorem dL_isAdded_293 : decode cL_isAdded 293 = .ok (.iload 8, 2) := by decide +kernel
theorem dL_isAdded_295 : decode cL_isAdded 295 = .ok (.ifCond .ne 18, 3) := by decide +kernel
theorem dL_isAdded_298 : decode cL_isAdded 298 = .ok (.aload_n 0, 1) := by decide +kernel
theorem dL_isAdded_299 : decode cL_isAdded 299 = .ok (.iload 7, 2) := by decide +kernel
theorem dL_isAdded_301 : decode cL_isAdded 301 = .ok (.iload 16, 2) := by decide +kernel
theorem dL_isAdded_303 : decode cL_isAdded 303 = .ok (.iload 9, 2) := by decide +kernel
theorem dL_isAdded_305 : decode cL_isAdded 305 = .ok (.iload 10, 2) := by decide +kernel
theorem dL_isAdded_307 : decode cL_isAdded 307 = .ok (.invokevirtual 30, 3) := by decide +kernel
theorem dL_isAdded_310 : decode cL_isAdded 310 = .ok (.goto 30, 3) := by decide +kernel
theorem dL_isAdded_313 : decode cL_isAdded 313 = .ok (.iload 8, 2) := by decide +kernel
theorem dL_isAdded_315 : decode cL_isAdded 315 = .ok (.iconst 1, 1) := by decide +kernel
theorem dL_isAdded_316 : decode cL_isAdded 316 = .ok (.if_icmp .ne 12, 3) := by decide +kernel
theorem dL_isAdded_319 : decode cL_isAdded 319 = .ok (.aload_n 0, 1) := by decide +kernel
theorem dL_isAdded_320 : decode cL_isAdded 320 = .ok (.iload 7, 2) := by decide +kernel
theorem dL_isAdded_322 : decode cL_isAdded 322 = .ok (.invokevirtual 33, 3) := by decide +kernel
theorem dL_isAdded_325 : decode cL_isAdded 325 = .ok (.goto 15, 3) := by decide +kernel
theorem dL_isAdded_328 : decode cL_isAdded 328 = .ok (.aload_n 0, 1) := by decide +kernel
theorem dL_isAdded_329 : decode cL_isAdded 329 = .ok (.iload 7, 2) := by decide +kernel
theorem dL_isAdded_331 : decode cL_isAdded 331 = .ok (.iload 13, 2) := by decide +kernel
theorem dL_isAdded_333 : decode cL_isAdded 333 = .ok (.iconst 3, 1) := by decide +kernel
theorem dL_isAdded_334 : decode cL_isAdded 334 = .ok (.irem, 1) := by decide +kernel
theorem dL_isAdded_335 : decode cL_isAdded 335 = .ok (.iload 14, 2) := by decide +kernel
theorem dL_isAdded_337 : decode cL_isAdded 337 = .ok (.invokevirtual 37, 3) := by decide +kernel
theorem dL_isAdded_340 : decode cL_isAdded 340 = .ok (.istore 20, 2) := by decide +kernel
theorem dL_isAdded_342 : decode cL_isAdded 342 = .ok (.iload 18, 2) := by decide +kernel
theorem dL_isAdded_344 : decode cL_isAdded 344 = .ok (.ifCond .le 142, 3) := by decide +kernel
theorem dL_isAdded_347 : decode cL_isAdded 347 = .ok (.aload_n 1, 1) := by decide +kernel
theorem dL_isAdded_348 : decode cL_isAdded 348 = .ok (.iload 18, 2) := by decide +kernel
theorem dL_isAdded_350 : decode cL_isAdded 350 = .ok (.iload 8, 2) := by decide +kernel
theorem dL_isAdded_352 : decode cL_isAdded 352 = .ok (.iastore, 1) := by decide +kernel
theorem dL_isAdded_353 : decode cL_isAdded 353 = .ok (.aload_n 2, 1) := by decide +kernel
theorem dL_isAdded_354 : decode cL_isAdded 354 = .ok (.iload 18, 2) := by decide +kernel
theorem dL_isAdded_356 : decode cL_isAdded 356 = .ok (.iload 7, 2) := by decide +kernel
theorem dL_isAdded_358 : decode cL_isAdded 358 = .ok (.iastore, 1) := by decide +kernel
theorem dL_isAdded_359 : decode cL_isAdded 359 = .ok (.aload_n 3, 1) := by decide +kernel
theorem dL_isAdded_360 : decode cL_isAdded 360 = .ok (.iconst 0, 1) := by decide +kernel
theorem dL_isAdded_361 : decode cL_isAdded 361 = .ok (.dup2, 1) := by decide +kernel
theorem dL_isAdded_362 : decode cL_isAdded 362 = .ok (.iaload, 1) := by decide +kernel
theorem dL_isAdded_363 : decode cL_isAdded 363 = .ok (.iconst 1, 1) := by decide +kernel
theorem dL_isAdded_364 : decode cL_isAdded 364 = .ok (.iadd, 1) := by decide +kernel
theorem dL_isAdded_365 : decode cL_isAdded 365 = .ok (.iastore, 1) := by decide +kernel
theorem dL_isAdded_366 : decode cL_isAdded 366 = .ok (.aload_n 3, 1) := by decide +kernel
theorem dL_isAdded_367 : decode cL_isAdded 367 = .ok (.iload 18, 2) := by decide +kernel
theorem dL_isAdded_369 : decode cL_isAdded 369 = .ok (.aload_n 3, 1) := by decide +kernel
theorem dL_isAdded_370 : decode cL_isAdded 370 = .ok (.iconst 0, 1) := by decide +kernel
theorem dL_isAdded_371 : decode cL_isAdded 371 = .ok (.iaload, 1) := by decide +kernel
theorem dL_isAdded_372 : decode cL_isAdded 372 = .ok (.iastore, 1) := by decide +kernel
theorem dL_isAdded_373 : decode cL_isAdded 373 = .ok (.aload 4, 2) := by decide +kernel
theorem dL_isAdded_375 : decode cL_isAdded 375 = .ok (.iload 18, 2) := by decide +kernel
theorem dL_isAdded_377 : decode cL_isAdded 377 = .ok (.iload 8, 2) := by decide +kernel
theorem dL_isAdded_379 : decode cL_isAdded 379 = .ok (.ifCond .ne 28, 3) := by decide +kernel
theorem dL_isAdded_382 : decode cL_isAdded 382 = .ok (.iload 16, 2) := by decide +kernel
theorem dL_isAdded_384 : decode cL_isAdded 384 = .ok (.sipush 128, 3) := by decide +kernel
theorem dL_isAdded_387 : decode cL_isAdded 387 = .ok (.iload 9, 2) := by decide +kernel
theorem dL_isAdded_389 : decode cL_isAdded 389 = .ok (.bipush 12, 2) := by decide +kernel
theorem dL_isAdded_391 : decode cL_isAdded 391 = .ok (.iadd, 1) := by decide +kernel
theorem dL_isAdded_392 : decode cL_isAdded 392 = .ok (.imul, 1) := by decide +kernel
theorem dL_isAdded_393 : decode cL_isAdded 393 = .ok (.iadd, 1) := by decide +kernel
theorem dL_isAdded_394 : decode cL_isAdded 394 = .ok (.sipush 4096, 3) := by decide +kernel
theorem dL_isAdded_397 : decode cL_isAdded 397 = .ok (.iload 10, 2) := by decide +kernel
theorem dL_isAdded_399 : decode cL_isAdded 399 = .ok (.bipush 12, 2) := by decide +kernel
theorem dL_isAdded_401 : decode cL_isAdded 401 = .ok (.iadd, 1) := by decide +kernel
theorem dL_isAdded_402 : decode cL_isAdded 402 = .ok (.imul, 1) := by decide +kernel
theorem dL_isAdded_403 : decode cL_isAdded 403 = .ok (.iadd, 1) := by decide +kernel
theorem dL_isAdded_404 : decode cL_isAdded 404 = .ok (.goto 31, 3) := by decide +kernel
theorem dL_isAdded_407 : decode cL_isAdded 407 = .ok (.iload 9, 2) := by decide +kernel
theorem dL_isAdded_409 : decode cL_isAdded 409 = .ok (.bipush 12, 2) := by decide +kernel
theorem dL_isAdded_411 : decode cL_isAdded 411 = .ok (.iadd, 1) := by decide +kernel
theorem dL_isAdded_412 : decode cL_isAdded 412 = .ok (.bipush 32, 2) := by decide +kernel
theorem dL_isAdded_414 : decode cL_isAdded 414 = .ok (.iload 10, 2) := by decide +kernel
theorem dL_isAdded_416 : decode cL_isAdded 416 = .ok (.bipush 12, 2) := by decide +kernel
theorem dL_isAdded_418 : decode cL_isAdded 418 = .ok (.iadd, 1) := by decide +kernel
theorem dL_isAdded_419 : decode cL_isAdded 419 = .ok (.imul, 1) := by decide +kernel
theorem dL_isAdded_420 : decode cL_isAdded 420 = .ok (.iadd, 1) := by decide +kernel
theorem dL_isAdded_421 : decode cL_isAdded 421 = .ok (.sipush 1024, 3) := by decide +kernel
theorem dL_isAdded_424 : decode cL_isAdded 424 = .ok (.iload 11, 2) := by decide +kernel
theorem dL_isAdded_426 : decode cL_isAdded 426 = .ok (.imul, 1) := by decide +kernel
theorem dL_isAdded_427 : decode cL_isAdded 427 = .ok (.iadd, 1) := by decide +kernel
theorem dL_isAdded_428 : decode cL_isAdded 428 = .ok (.sipush 16384, 3) := by decide +kernel
theorem dL_isAdded_431 : decode cL_isAdded 431 = .ok (.iload 12, 2) := by decide +kernel
theorem dL_isAdded_433 : decode cL_isAdded 433 = .ok (.imul, 1) := by decide +kernel
theorem dL_isAdded_434 : decode cL_isAdded 434 = .ok (.iadd, 1) := by decide +kernel
theorem dL_isAdded_435 : decode cL_isAdded 435 = .ok (.iastore, 1) := by decide +kernel
theorem dL_isAdded_436 : decode cL_isAdded 436 = .ok (.aload 5, 2) := by decide +kernel
theorem dL_isAdded_438 : decode cL_isAdded 438 = .ok (.iload 18, 2) := by decide +kernel
theorem dL_isAdded_440 : decode cL_isAdded 440 = .ok (.iload 8, 2) := by decide +kernel
theorem dL_isAdded_442 : decode cL_isAdded 442 = .ok (.iconst 1, 1) := by decide +kernel
theorem dL_isAdded_443 : decode cL_isAdded 443 = .ok (.if_icmp .ne 21, 3) := by decide +kernel
theorem dL_isAdded_446 : decode cL_isAdded 446 = .ok (.ldc 40, 2) := by decide +kernel
theorem dL_isAdded_448 : decode cL_isAdded 448 = .ok (.iload 13, 2) := by decide +kernel
theorem dL_isAdded_450 : decode cL_isAdded 450 = .ok (.imul, 1) := by decide +kernel
theorem dL_isAdded_451 : decode cL_isAdded 451 = .ok (.sipush 256, 3) := by decide +kernel
theorem dL_isAdded_454 : decode cL_isAdded 454 = .ok (.iload 14, 2) := by decide +kernel
theorem dL_isAdded_456 : decode cL_isAdded 456 = .ok (.imul, 1) := by decide +kernel
theorem dL_isAdded_457 : decode cL_isAdded 457 = .ok (.iadd, 1) := by decide +kernel
theorem dL_isAdded_458 : decode cL_isAdded 458 = .ok (.iload 15, 2) := by decide +kernel
theorem dL_isAdded_460 : decode cL_isAdded 460 = .ok (.iadd, 1) := by decide +kernel
theorem dL_isAdded_461 : decode cL_isAdded 461 = .ok (.goto 24, 3) := by decide +kernel
theorem dL_isAdded_464 : decode cL_isAdded 464 = .ok (.iload 8, 2) := by decide +kernel
theorem dL_isAdded_466 : decode cL_isAdded 466 = .ok (.iconst 2, 1) := by decide +kernel
theorem dL_isAdded_467 : decode cL_isAdded 467 = .ok (.if_icmp .ne 17, 3) := by decide +kernel
theorem dL_isAdded_470 : decode cL_isAdded 470 = .ok (.sipush 256, 3) := by decide +kernel
theorem dL_isAdded_473 : decode cL_isAdded 473 = .ok (.iload 13, 2) := by decide +kernel
theorem dL_isAdded_475 : decode cL_isAdded 475 = .ok (.iconst 3, 1) := by decide +kernel
theorem dL_isAdded_476 : decode cL_isAdded 476 = .ok (.irem, 1) := by decide +kernel
theorem dL_isAdded_477 : decode cL_isAdded 477 = .ok (.imul, 1) := by decide +kernel
theorem dL_isAdded_478 : decode cL_isAdded 478 = .ok (.iload 14, 2) := by decide +kernel
theorem dL_isAdded_480 : decode cL_isAdded 480 = .ok (.iadd, 1) := by decide +kernel
theorem dL_isAdded_481 : decode cL_isAdded 481 = .ok (.goto 4, 3) := by decide +kernel
theorem dL_isAdded_484 : decode cL_isAdded 484 = .ok (.iconst 0, 1) := by decide +kernel
theorem dL_isAdded_485 : decode cL_isAdded 485 = .ok (.iastore, 1) := by decide +kernel
theorem dL_isAdded_486 : decode cL_isAdded 486 = .ok (.iload 19, 2) := by decide +kernel
theorem dL_isAdded_488 : decode cL_isAdded 488 = .ok (.ifCond .eq 14, 3) := by decide +kernel
theorem dL_isAdded_491 : decode cL_isAdded 491 = .ok (.iload 20, 2) := by decide +kernel
theorem dL_isAdded_493 : decode cL_isAdded 493 = .ok (.iload 18, 2) := by decide +kernel
theorem dL_isAdded_495 : decode cL_isAdded 495 = .ok (.if_icmp .ne 7, 3) := by decide +kernel
theorem dL_isAdded_498 : decode cL_isAdded 498 = .ok (.iconst 1, 1) := by decide +kernel
theorem dL_isAdded_499 : decode cL_isAdded 499 = .ok (.goto 4, 3) := by decide +kernel
theorem dL_isAdded_502 : decode cL_isAdded 502 = .ok (.iconst 0, 1) := by decide +kernel
theorem dL_isAdded_503 : decode cL_isAdded 503 = .ok (.ireturn, 1) := by decide +kernel
theorem dL_next_0 : decode cL_next 0 = .ok (.iconst (-1), 1) := by decide +kernel
theorem dL_next_1 : decode cL_next 1 = .ok (.istore 5, 2) := by decide +kernel
theorem dL_next_3 : decode cL_next 3 = .ok (.lconst 0, 1) := by decide +kernel
theorem dL_next_4 : decode cL_next 4 = .ok (.lstore 6, 2) := by decide +kernel
theorem dL_next_6 : decode cL_next 6 = .ok (.iconst 1, 1) := by decide +kernel
theorem dL_next_7 : decode cL_next 7 = .ok (.istore 8, 2) := by decide +kernel
theorem dL_next_9 : decode cL_next 9 = .ok (.iload 8, 2) := by decide +kernel
theorem dL_next_11 : decode cL_next 11 = .ok (.bipush 24, 2) := by decide +kernel
theorem dL_next_13 : decode cL_next 13 = .ok (.if_icmp .ge 53, 3) := by decide +kernel
theorem dL_next_16 : decode cL_next 16 = .ok (.aload_n 1, 1) := by decide +kernel
theorem dL_next_17 : decode cL_next 17 = .ok (.aload_n 2, 1) := by decide +kernel
theorem dL_next_18 : decode cL_next 18 = .ok (.iload 8, 2) := by decide +kernel
theorem dL_next_20 : decode cL_next 20 = .ok (.invokestatic 41, 3) := by decide +kernel
theorem dL_next_23 : decode cL_next 23 = .ok (.lstore 9, 2) := by decide +kernel
theorem dL_next_25 : decode cL_next 25 = .ok (.aload_n 0, 1) := by decide +kernel
theorem dL_next_26 : decode cL_next 26 = .ok (.iload 8, 2) := by decide +kernel
theorem dL_next_28 : decode cL_next 28 = .ok (.iaload, 1) := by decide +kernel
theorem dL_next_29 : decode cL_next 29 = .ok (.ifCond .le 31, 3) := by decide +kernel
theorem dL_next_32 : decode cL_next 32 = .ok (.lload 9, 2) := by decide +kernel
theorem dL_next_34 : decode cL_next 34 = .ok (.lload_n 3, 1) := by decide +kernel
theorem dL_next_35 : decode cL_next 35 = .ok (.lcmp, 1) := by decide +kernel
theorem dL_next_36 : decode cL_next 36 = .ok (.ifCond .le 24, 3) := by decide +kernel
theorem dL_next_39 : decode cL_next 39 = .ok (.iload 5, 2) := by decide +kernel
theorem dL_next_41 : decode cL_next 41 = .ok (.ifCond .lt 11, 3) := by decide +kernel
theorem dL_next_44 : decode cL_next 44 = .ok (.lload 9, 2) := by decide +kernel
theorem dL_next_46 : decode cL_next 46 = .ok (.lload 6, 2) := by decide +kernel
theorem dL_next_48 : decode cL_next 48 = .ok (.lcmp, 1) := by decide +kernel
theorem dL_next_49 : decode cL_next 49 = .ok (.ifCond .ge 11, 3) := by decide +kernel
theorem dL_next_52 : decode cL_next 52 = .ok (.iload 8, 2) := by decide +kernel
theorem dL_next_54 : decode cL_next 54 = .ok (.istore 5, 2) := by decide +kernel
theorem dL_next_56 : decode cL_next 56 = .ok (.lload 9, 2) := by decide +kernel
theorem dL_next_58 : decode cL_next 58 = .ok (.lstore 6, 2) := by decide +kernel
theorem dL_next_60 : decode cL_next 60 = .ok (.iinc 8 1, 3) := by decide +kernel
theorem dL_next_63 : decode cL_next 63 = .ok (.goto (-54), 3) := by decide +kernel
theorem dL_next_66 : decode cL_next 66 = .ok (.iload 5, 2) := by decide +kernel
theorem dL_next_68 : decode cL_next 68 = .ok (.ireturn, 1) := by decide +kernel
theorem dL_keyOf_0 : decode cL_keyOf 0 = .ok (.lconst 0, 1) := by decide +kernel
theorem dL_keyOf_1 : decode cL_keyOf 1 = .ok (.lstore_n 3, 1) := by decide +kernel
theorem dL_keyOf_2 : decode cL_keyOf 2 = .ok (.aload_n 0, 1) := by decide +kernel
theorem dL_keyOf_3 : decode cL_keyOf 3 = .ok (.iload_n 2, 1) := by decide +kernel
theorem dL_keyOf_4 : decode cL_keyOf 4 = .ok (.invokestatic 16, 3) := by decide +kernel
theorem dL_keyOf_7 : decode cL_keyOf 7 = .ok (.istore 5, 2) := by decide +kernel
theorem dL_keyOf_9 : decode cL_keyOf 9 = .ok (.iload_n 2, 1) := by decide +kernel
theorem dL_keyOf_10 : decode cL_keyOf 10 = .ok (.istore 6, 2) := by decide +kernel
theorem dL_keyOf_12 : decode cL_keyOf 12 = .ok (.iload 5, 2) := by decide +kernel
theorem dL_keyOf_14 : decode cL_keyOf 14 = .ok (.istore 7, 2) := by decide +kernel
theorem dL_keyOf_16 : decode cL_keyOf 16 = .ok (.iload 7, 2) := by decide +kernel
theorem dL_keyOf_18 : decode cL_keyOf 18 = .ok (.ifCond .le 51, 3) := by decide +kernel
theorem dL_keyOf_21 : decode cL_keyOf 21 = .ok (.aload_n 1, 1) := by decide +kernel
theorem dL_keyOf_22 : decode cL_keyOf 22 = .ok (.iload 6, 2) := by decide +kernel
theorem dL_keyOf_24 : decode cL_keyOf 24 = .ok (.iaload, 1) := by decide +kernel
theorem dL_keyOf_25 : decode cL_keyOf 25 = .ok (.i2l, 1) := by decide +kernel
theorem dL_keyOf_26 : decode cL_keyOf 26 = .ok (.lstore 8, 2) := by decide +kernel
theorem dL_keyOf_28 : decode cL_keyOf 28 = .ok (.iload 7, 2) := by decide +kernel
theorem dL_keyOf_30 : decode cL_keyOf 30 = .ok (.istore 10, 2) := by decide +kernel
theorem dL_keyOf_32 : decode cL_keyOf 32 = .ok (.iload 10, 2) := by decide +kernel
theorem dL_keyOf_34 : decode cL_keyOf 34 = .ok (.iconst 4, 1) := by decide +kernel
theorem dL_keyOf_35 : decode cL_keyOf 35 = .ok (.if_icmp .ge 17, 3) := by decide +kernel
theorem dL_keyOf_38 : decode cL_keyOf 38 = .ok (.lload 8, 2) := by decide +kernel
theorem dL_keyOf_40 : decode cL_keyOf 40 = .ok (.ldc2_w 45, 3) := by decide +kernel
theorem dL_keyOf_43 : decode cL_keyOf 43 = .ok (.lmul, 1) := by decide +kernel
theorem dL_keyOf_44 : decode cL_keyOf 44 = .ok (.lstore 8, 2) := by decide +kernel
theorem dL_keyOf_46 : decode cL_keyOf 46 = .ok (.iinc 10 1, 3) := by decide +kernel
theorem dL_keyOf_49 : decode cL_keyOf 49 = .ok (.goto (-17), 3) := by decide +kernel
theorem dL_keyOf_52 : decode cL_keyOf 52 = .ok (.lload_n 3, 1) := by decide +kernel
theorem dL_keyOf_53 : decode cL_keyOf 53 = .ok (.lload 8, 2) := by decide +kernel
theorem dL_keyOf_55 : decode cL_keyOf 55 = .ok (.ladd, 1) := by decide +kernel
theorem dL_keyOf_56 : decode cL_keyOf 56 = .ok (.lstore_n 3, 1) := by decide +kernel
theorem dL_keyOf_57 : decode cL_keyOf 57 = .ok (.aload_n 0, 1) := by decide +kernel
theorem dL_keyOf_58 : decode cL_keyOf 58 = .ok (.iload 6, 2) := by decide +kernel
theorem dL_keyOf_60 : decode cL_keyOf 60 = .ok (.iaload, 1) := by decide +kernel
theorem dL_keyOf_61 : decode cL_keyOf 61 = .ok (.istore 6, 2) := by decide +kernel
theorem dL_keyOf_63 : decode cL_keyOf 63 = .ok (.iinc 7 (-1), 3) := by decide +kernel
theorem dL_keyOf_66 : decode cL_keyOf 66 = .ok (.goto (-50), 3) := by decide +kernel
theorem dL_keyOf_69 : decode cL_keyOf 69 = .ok (.lload_n 3, 1) := by decide +kernel
theorem dL_keyOf_70 : decode cL_keyOf 70 = .ok (.lreturn, 1) := by decide +kernel
theorem dL_above_0 : decode cL_above 0 = .ok (.aload_n 3, 1) := by decide +kernel
theorem dL_above_1 : decode cL_above 1 = .ok (.iconst 0, 1) := by decide +kernel
theorem dL_above_2 : decode cL_above 2 = .ok (.bipush 100, 2) := by decide +kernel
theorem dL_above_4 : decode cL_above 4 = .ok (.iastore, 1) := by decide +kernel
theorem dL_above_5 : decode cL_above 5 = .ok (.aload_n 3, 1) := by decide +kernel
theorem dL_above_6 : decode cL_above 6 = .ok (.iconst 1, 1) := by decide +kernel
theorem dL_above_7 : decode cL_above 7 = .ok (.iconst 0, 1) := by decide +kernel
theorem dL_above_8 : decode cL_above 8 = .ok (.iastore, 1) := by decide +kernel
theorem dL_above_9 : decode cL_above 9 = .ok (.aload_n 3, 1) := by decide +kernel
theorem dL_above_10 : decode cL_above 10 = .ok (.iconst 2, 1) := by decide +kernel
theorem dL_above_11 : decode cL_above 11 = .ok (.iconst 0, 1) := by decide +kernel
theorem dL_above_12 : decode cL_above 12 = .ok (.iastore, 1) := by decide +kernel
theorem dL_above_13 : decode cL_above 13 = .ok (.aload_n 0, 1) := by decide +kernel
theorem dL_above_14 : decode cL_above 14 = .ok (.iload_n 2, 1) := by decide +kernel
theorem dL_above_15 : decode cL_above 15 = .ok (.invokestatic 16, 3) := by decide +kernel
theorem dL_above_18 : decode cL_above 18 = .ok (.istore 4, 2) := by decide +kernel
theorem dL_above_20 : decode cL_above 20 = .ok (.iconst 1, 1) := by decide +kernel
theorem dL_above_21 : decode cL_above 21 = .ok (.istore 5, 2) := by decide +kernel
theorem dL_above_23 : decode cL_above 23 = .ok (.iload 5, 2) := by decide +kernel
theorem dL_above_25 : decode cL_above 25 = .ok (.iload 4, 2) := by decide +kernel
theorem dL_above_27 : decode cL_above 27 = .ok (.if_icmp .ge 90, 3) := by decide +kernel
theorem dL_above_30 : decode cL_above 30 = .ok (.iload_n 2, 1) := by decide +kernel
theorem dL_above_31 : decode cL_above 31 = .ok (.istore 6, 2) := by decide +kernel
theorem dL_above_33 : decode cL_above 33 = .ok (.iload 4, 2) := by decide +kernel
theorem dL_above_35 : decode cL_above 35 = .ok (.istore 7, 2) := by decide +kernel
theorem dL_above_37 : decode cL_above 37 = .ok (.iload 7, 2) := by decide +kernel
theorem dL_above_39 : decode cL_above 39 = .ok (.iload 5, 2) := by decide +kernel
theorem dL_above_41 : decode cL_above 41 = .ok (.if_icmp .le 15, 3) := by decide +kernel
theorem dL_above_44 : decode cL_above 44 = .ok (.aload_n 0, 1) := by decide +kernel
theorem dL_above_45 : decode cL_above 45 = .ok (.iload 6, 2) := by decide +kernel
theorem dL_above_47 : decode cL_above 47 = .ok (.iaload, 1) := by decide +kernel
theorem dL_above_48 : decode cL_above 48 = .ok (.istore 6, 2) := by decide +kernel
theorem dL_above_50 : decode cL_above 50 = .ok (.iinc 7 (-1), 3) := by decide +kernel
theorem dL_above_53 : decode cL_above 53 = .ok (.goto (-16), 3) := by decide +kernel
theorem dL_above_56 : decode cL_above 56 = .ok (.aload_n 3, 1) := by decide +kernel
theorem dL_above_57 : decode cL_above 57 = .ok (.iconst 0, 1) := by decide +kernel
theorem dL_above_58 : decode cL_above 58 = .ok (.aload_n 3, 1) := by decide +kernel
theorem dL_above_59 : decode cL_above 59 = .ok (.iconst 0, 1) := by decide +kernel
theorem dL_above_60 : decode cL_above 60 = .ok (.iaload, 1) := by decide +kernel
theorem dL_above_61 : decode cL_above 61 = .ok (.aload_n 1, 1) := by decide +kernel
theorem dL_above_62 : decode cL_above 62 = .ok (.iload 6, 2) := by decide +kernel
theorem dL_above_64 : decode cL_above 64 = .ok (.iaload, 1) := by decide +kernel
theorem dL_above_65 : decode cL_above 65 = .ok (.sipush 128, 3) := by decide +kernel
theorem dL_above_68 : decode cL_above 68 = .ok (.irem, 1) := by decide +kernel
theorem dL_above_69 : decode cL_above 69 = .ok (.imul, 1) := by decide +kernel
theorem dL_above_70 : decode cL_above 70 = .ok (.bipush 100, 2) := by decide +kernel
theorem dL_above_72 : decode cL_above 72 = .ok (.idiv, 1) := by decide +kernel
theorem dL_above_73 : decode cL_above 73 = .ok (.iastore, 1) := by decide +kernel
theorem dL_above_74 : decode cL_above 74 = .ok (.aload_n 3, 1) := by decide +kernel
theorem dL_above_75 : decode cL_above 75 = .ok (.iconst 1, 1) := by decide +kernel
theorem dL_above_76 : decode cL_above 76 = .ok (.dup2, 1) := by decide +kernel
theorem dL_above_77 : decode cL_above 77 = .ok (.iaload, 1) := by decide +kernel
theorem dL_above_78 : decode cL_above 78 = .ok (.aload_n 1, 1) := by decide +kernel
theorem dL_above_79 : decode cL_above 79 = .ok (.iload 6, 2) := by decide +kernel
theorem dL_above_81 : decode cL_above 81 = .ok (.iaload, 1) := by decide +kernel
theorem dL_above_82 : decode cL_above 82 = .ok (.sipush 128, 3) := by decide +kernel
theorem dL_above_85 : decode cL_above 85 = .ok (.idiv, 1) := by decide +kernel
theorem dL_above_86 : decode cL_above 86 = .ok (.bipush 32, 2) := by decide +kernel
theorem dL_above_88 : decode cL_above 88 = .ok (.irem, 1) := by decide +kernel
theorem dL_above_89 : decode cL_above 89 = .ok (.bipush 12, 2) := by decide +kernel
theorem dL_above_91 : decode cL_above 91 = .ok (.isub, 1) := by decide +kernel
theorem dL_above_92 : decode cL_above 92 = .ok (.iadd, 1) := by decide +kernel
theorem dL_above_93 : decode cL_above 93 = .ok (.iastore, 1) := by decide +kernel
theorem dL_above_94 : decode cL_above 94 = .ok (.aload_n 3, 1) := by decide +kernel
theorem dL_above_95 : decode cL_above 95 = .ok (.iconst 2, 1) := by decide +kernel
theorem dL_above_96 : decode cL_above 96 = .ok (.dup2, 1) := by decide +kernel
theorem dL_above_97 : decode cL_above 97 = .ok (.iaload, 1) := by decide +kernel
theorem dL_above_98 : decode cL_above 98 = .ok (.aload_n 1, 1) := by decide +kernel
theorem dL_above_99 : decode cL_above 99 = .ok (.iload 6, 2) := by decide +kernel
theorem dL_above_101 : decode cL_above 101 = .ok (.iaload, 1) := by decide +kernel
theorem dL_above_102 : decode cL_above 102 = .ok (.sipush 4096, 3) := by decide +kernel
theorem dL_above_105 : decode cL_above 105 = .ok (.idiv, 1) := by decide +kernel
theorem dL_above_106 : decode cL_above 106 = .ok (.bipush 12, 2) := by decide +kernel
theorem dL_above_108 : decode cL_above 108 = .ok (.isub, 1) := by decide +kernel
theorem dL_above_109 : decode cL_above 109 = .ok (.iadd, 1) := by decide +kernel
theorem dL_above_110 : decode cL_above 110 = .ok (.iastore, 1) := by decide +kernel
theorem dL_above_111 : decode cL_above 111 = .ok (.iinc 5 1, 3) := by decide +kernel
theorem dL_above_114 : decode cL_above 114 = .ok (.goto (-91), 3) := by decide +kernel
theorem dL_above_117 : decode cL_above 117 = .ok (.return_, 1) := by decide +kernel
theorem dL_moves_0 : decode cL_moves 0 = .ok (.aload_n 0, 1) := by decide +kernel
theorem dL_moves_1 : decode cL_moves 1 = .ok (.iload_n 1, 1) := by decide +kernel
theorem dL_moves_2 : decode cL_moves 2 = .ok (.dup2, 1) := by decide +kernel
theorem dL_moves_3 : decode cL_moves 3 = .ok (.iaload, 1) := by decide +kernel
theorem dL_moves_4 : decode cL_moves 4 = .ok (.iload_n 2, 1) := by decide +kernel
theorem dL_moves_5 : decode cL_moves 5 = .ok (.aload_n 0, 1) := by decide +kernel
theorem dL_moves_6 : decode cL_moves 6 = .ok (.iload_n 1, 1) := by decide +kernel
theorem dL_moves_7 : decode cL_moves 7 = .ok (.iaload, 1) := by decide +kernel
theorem dL_moves_8 : decode cL_moves 8 = .ok (.isub, 1) := by decide +kernel
theorem dL_moves_9 : decode cL_moves 9 = .ok (.iload_n 3, 1) := by decide +kernel
theorem dL_moves_10 : decode cL_moves 10 = .ok (.imul, 1) := by decide +kernel
theorem dL_moves_11 : decode cL_moves 11 = .ok (.bipush 100, 2) := by decide +kernel
theorem dL_moves_13 : decode cL_moves 13 = .ok (.invokestatic 47, 3) := by decide +kernel
theorem dL_moves_16 : decode cL_moves 16 = .ok (.iadd, 1) := by decide +kernel
theorem dL_moves_17 : decode cL_moves 17 = .ok (.iastore, 1) := by decide +kernel
theorem dL_moves_18 : decode cL_moves 18 = .ok (.return_, 1) := by decide +kernel
theorem dL_renders_0 : decode cL_renders 0 = .ok (.iconst 3, 1) := by decide +kernel
theorem dL_renders_1 : decode cL_renders 1 = .ok (.newarray .int, 2) := by decide +kernel
theorem dL_renders_3 : decode cL_renders 3 = .ok (.astore 9, 2) := by decide +kernel
theorem dL_renders_5 : decode cL_renders 5 = .ok (.bipush (-4), 2) := by decide +kernel
theorem dL_renders_7 : decode cL_renders 7 = .ok (.istore 10, 2) := by decide +kernel
theorem dL_renders_9 : decode cL_renders 9 = .ok (.iconst 0, 1) := by decide +kernel
theorem dL_renders_10 : decode cL_renders 10 = .ok (.istore 11, 2) := by decide +kernel
theorem dL_renders_12 : decode cL_renders 12 = .ok (.iload 11, 2) := by decide +kernel
theorem dL_renders_14 : decode cL_renders 14 = .ok (.bipush 6, 2) := by decide +kernel
theorem dL_renders_16 : decode cL_renders 16 = .ok (.if_icmp .ge 27, 3) := by decide +kernel
theorem dL_renders_19 : decode cL_renders 19 = .ok (.aload 8, 2) := by decide +kernel
theorem dL_renders_21 : decode cL_renders 21 = .ok (.iload 11, 2) := by decide +kernel
theorem dL_renders_23 : decode cL_renders 23 = .ok (.iload 11, 2) := by decide +kernel
theorem dL_renders_25 : decode cL_renders 25 = .ok (.iconst 3, 1) := by decide +kernel
theorem dL_renders_26 : decode cL_renders 26 = .ok (.if_icmp .ge 9, 3) := by decide +kernel
theorem dL_renders_29 : decode cL_renders 29 = .ok (.sipush 255, 3) := by decide +kernel
theorem dL_renders_32 : decode cL_renders 32 = .ok (.goto 4, 3) := by decide +kernel
theorem dL_renders_35 : decode cL_renders 35 = .ok (.iconst 0, 1) := by decide +kernel
theorem dL_renders_36 : decode cL_renders 36 = .ok (.iastore, 1) := by decide +kernel
theorem dL_renders_37 : decode cL_renders 37 = .ok (.iinc 11 1, 3) := by decide +kernel
theorem dL_renders_40 : decode cL_renders 40 = .ok (.goto (-28), 3) := by decide +kernel
theorem dL_renders_43 : decode cL_renders 43 = .ok (.aload_n 0, 1) := by decide +kernel
theorem dL_renders_44 : decode cL_renders 44 = .ok (.aload_n 1, 1) := by decide +kernel
theorem dL_renders_45 : decode cL_renders 45 = .ok (.aload_n 2, 1) := by decide +kernel
theorem dL_renders_46 : decode cL_renders 46 = .ok (.lconst 0, 1) := by decide +kernel
theorem dL_renders_47 : decode cL_renders 47 = .ok (.invokestatic 50, 3) := by decide +kernel
theorem dL_renders_50 : decode cL_renders 50 = .ok (.istore 11, 2) := by decide +kernel
theorem dL_renders_52 : decode cL_renders 52 = .ok (.iload 11, 2) := by decide +kernel
theorem dL_renders_54 : decode cL_renders 54 = .ok (.ifCond .le 343, 3) := by decide +kernel
theorem dL_renders_57 : decode cL_renders 57 = .ok (.aload_n 1, 1) := by decide +kernel
theorem dL_renders_58 : decode cL_renders 58 = .ok (.aload_n 3, 1) := by decide +kernel
theorem dL_renders_59 : decode cL_renders 59 = .ok (.iload 11, 2) := by decide +kernel
theorem dL_renders_61 : decode cL_renders 61 = .ok (.aload 9, 2) := by decide +kernel
theorem dL_renders_63 : decode cL_renders 63 = .ok (.invokestatic 54, 3) := by decide +kernel
theorem dL_renders_66 : decode cL_renders 66 = .ok (.iload 6, 2) := by decide +kernel
theorem dL_renders_68 : decode cL_renders 68 = .ok (.aload 9, 2) := by decide +kernel
theorem dL_renders_70 : decode cL_renders 70 = .ok (.iconst 1, 1) := by decide +kernel
theorem dL_renders_71 : decode cL_renders 71 = .ok (.iaload, 1) := by decide +kernel
theorem dL_renders_72 : decode cL_renders 72 = .ok (.isub, 1) := by decide +kernel
theorem dL_renders_73 : decode cL_renders 73 = .ok (.aload_n 3, 1) := by decide +kernel
theorem dL_renders_74 : decode cL_renders 74 = .ok (.iload 11, 2) := by decide +kernel
theorem dL_renders_76 : decode cL_renders 76 = .ok (.iaload, 1) := by decide +kernel
theorem dL_renders_77 : decode cL_renders 77 = .ok (.bipush 32, 2) := by decide +kernel
theorem dL_renders_79 : decode cL_renders 79 = .ok (.irem, 1) := by decide +kernel
theorem dL_renders_80 : decode cL_renders 80 = .ok (.bipush 12, 2) := by decide +kernel
theorem dL_renders_82 : decode cL_renders 82 = .ok (.isub, 1) := by decide +kernel
theorem dL_renders_83 : decode cL_renders 83 = .ok (.isub, 1) := by decide +kernel
theorem dL_renders_84 : decode cL_renders 84 = .ok (.istore 12, 2) := by decide +kernel
theorem dL_renders_86 : decode cL_renders 86 = .ok (.iload 7, 2) := by decide +kernel
theorem dL_renders_88 : decode cL_renders 88 = .ok (.aload 9, 2) := by decide +kernel
theorem dL_renders_90 : decode cL_renders 90 = .ok (.iconst 2, 1) := by decide +kernel
theorem dL_renders_91 : decode cL_renders 91 = .ok (.iaload, 1) := by decide +kernel
theorem dL_renders_92 : decode cL_renders 92 = .ok (.isub, 1) := by decide +kernel
theorem dL_renders_93 : decode cL_renders 93 = .ok (.aload_n 3, 1) := by decide +kernel
theorem dL_renders_94 : decode cL_renders 94 = .ok (.iload 11, 2) := by decide +kernel
theorem dL_renders_96 : decode cL_renders 96 = .ok (.iaload, 1) := by decide +kernel
theorem dL_renders_97 : decode cL_renders 97 = .ok (.bipush 32, 2) := by decide +kernel
theorem dL_renders_99 : decode cL_renders 99 = .ok (.idiv, 1) := by decide +kernel
theorem dL_renders_100 : decode cL_renders 100 = .ok (.bipush 32, 2) := by decide +kernel
theorem dL_renders_102 : decode cL_renders 102 = .ok (.irem, 1) := by decide +kernel
theorem dL_renders_103 : decode cL_renders 103 = .ok (.bipush 12, 2) := by decide +kernel
theorem dL_renders_105 : decode cL_renders 105 = .ok (.isub, 1) := by decide +kernel
theorem dL_renders_106 : decode cL_renders 106 = .ok (.isub, 1) := by decide +kernel
theorem dL_renders_107 : decode cL_renders 107 = .ok (.istore 13, 2) := by decide +kernel
theorem dL_renders_109 : decode cL_renders 109 = .ok (.iload 12, 2) := by decide +kernel
theorem dL_renders_111 : decode cL_renders 111 = .ok (.ifCond .lt 268, 3) := by decide +kernel
theorem dL_renders_114 : decode cL_renders 114 = .ok (.iload 12, 2) := by decide +kernel
theorem dL_renders_116 : decode cL_renders 116 = .ok (.aload_n 3, 1) := by decide +kernel
theorem dL_renders_117 : decode cL_renders 117 = .ok (.iload 11, 2) := by decide +kernel
theorem dL_renders_119 : decode cL_renders 119 = .ok (.iaload, 1) := by decide +kernel
theorem dL_renders_120 : decode cL_renders 120 = .ok (.sipush 1024, 3) := by decide +kernel
theorem dL_renders_123 : decode cL_renders 123 = .ok (.idiv, 1) := by decide +kernel
theorem dL_renders_124 : decode cL_renders 124 = .ok (.bipush 16, 2) := by decide +kernel
theorem dL_renders_126 : decode cL_renders 126 = .ok (.irem, 1) := by decide +kernel
theorem dL_renders_127 : decode cL_renders 127 = .ok (.if_icmp .ge 252, 3) := by decide +kernel
theorem dL_renders_130 : decode cL_renders 130 = .ok (.iload 13, 2) := by decide +kernel
theorem dL_renders_132 : decode cL_renders 132 = .ok (.ifCond .lt 247, 3) := by decide +kernel
theorem dL_renders_135 : decode cL_renders 135 = .ok (.iload 13, 2) := by decide +kernel
theorem dL_renders_137 : decode cL_renders 137 = .ok (.aload_n 3, 1) := by decide +kernel
theorem dL_renders_138 : decode cL_renders 138 = .ok (.iload 11, 2) := by decide +kernel
theorem dL_renders_140 : decode cL_renders 140 = .ok (.iaload, 1) := by decide +kernel
theorem dL_renders_141 : decode cL_renders 141 = .ok (.sipush 16384, 3) := by decide +kernel
theorem dL_renders_144 : decode cL_renders 144 = .ok (.idiv, 1) := by decide +kernel
theorem dL_renders_145 : decode cL_renders 145 = .ok (.if_icmp .ge 234, 3) := by decide +kernel
theorem dL_renders_148 : decode cL_renders 148 = .ok (.aload 9, 2) := by decide +kernel
theorem dL_renders_150 : decode cL_renders 150 = .ok (.iconst 0, 1) := by decide +kernel
theorem dL_renders_151 : decode cL_renders 151 = .ok (.iaload, 1) := by decide +kernel
theorem dL_renders_152 : decode cL_renders 152 = .ok (.ifCond .le 8, 3) := by decide +kernel
theorem dL_renders_155 : decode cL_renders 155 = .ok (.iload 11, 2) := by decide +kernel
theorem dL_renders_157 : decode cL_renders 157 = .ok (.goto 5, 3) := by decide +kernel
theorem dL_renders_160 : decode cL_renders 160 = .ok (.iload 10, 2) := by decide +kernel
theorem dL_renders_162 : decode cL_renders 162 = .ok (.istore 10, 2) := by decide +kernel
theorem dL_renders_164 : decode cL_renders 164 = .ok (.iconst 0, 1) := by decide +kernel
theorem dL_renders_165 : decode cL_renders 165 = .ok (.istore 14, 2) := by decide +kernel
theorem dL_renders_167 : decode cL_renders 167 = .ok (.iload 14, 2) := by decide +kernel
theorem dL_renders_169 : decode cL_renders 169 = .ok (.iconst 3, 1) := by decide +kernel
theorem dL_renders_170 : decode cL_renders 170 = .ok (.if_icmp .ge 209, 3) := by decide +kernel
theorem dL_renders_173 : decode cL_renders 173 = .ok (.aload_n 0, 1) := by decide +kernel
theorem dL_renders_174 : decode cL_renders 174 = .ok (.iload 11, 2) := by decide +kernel
theorem dL_renders_176 : decode cL_renders 176 = .ok (.iaload, 1) := by decide +kernel
theorem dL_renders_177 : decode cL_renders 177 = .ok (.iconst 2, 1) := by decide +kernel
theorem dL_renders_178 : decode cL_renders 178 = .ok (.if_icmp .ne 21, 3) := by decide +kernel
theorem dL_renders_181 : decode cL_renders 181 = .ok (.aload 4, 2) := by decide +kernel
theorem dL_renders_183 : decode cL_renders 183 = .ok (.iload 11, 2) := by decide +kernel
theorem dL_renders_185 : decode cL_renders 185 = .ok (.iaload, 1) := by decide +kernel
theorem dL_renders_186 : decode cL_renders 186 = .ok (.sipush 256, 3) := by decide +kernel
theorem dL_renders_189 : decode cL_renders 189 = .ok (.idiv, 1) := by decide +kernel
theorem dL_renders_190 : decode cL_renders 190 = .ok (.iload 14, 2) := by decide +kernel
theorem dL_renders_192 : decode cL_renders 192 = .ok (.if_icmp .ne 7, 3) := by decide +kernel
theorem dL_renders_195 : decode cL_renders 195 = .ok (.iconst 1, 1) := by decide +kernel
theorem dL_renders_196 : decode cL_renders 196 = .ok (.goto 4, 3) := by decide +kernel
theorem dL_renders_199 : decode cL_renders 199 = .ok (.iconst 0, 1) := by decide +kernel
theorem dL_renders_200 : decode cL_renders 200 = .ok (.istore 15, 2) := by decide +kernel
theorem dL_renders_202 : decode cL_renders 202 = .ok (.aload_n 0, 1) := by decide +kernel
theorem dL_renders_203 : decode cL_renders 203 = .ok (.iload 11, 2) := by decide +kernel
theorem dL_renders_205 : decode cL_renders 205 = .ok (.iaload, 1) := by decide +kernel
theorem dL_renders_206 : decode cL_renders 206 = .ok (.iconst 1, 1) := by decide +kernel
theorem dL_renders_207 : decode cL_renders 207 = .ok (.if_icmp .eq 21, 3) := by decide +kernel
theorem dL_renders_210 : decode cL_renders 210 = .ok (.aload 5, 2) := by decide +kernel
theorem dL_renders_212 : decode cL_renders 212 = .ok (.aload 4, 2) := by decide +kernel
theorem dL_renders_214 : decode cL_renders 214 = .ok (.iload 11, 2) := by decide +kernel
theorem dL_renders_216 : decode cL_renders 216 = .ok (.iaload, 1) := by decide +kernel
theorem dL_renders_217 : decode cL_renders 217 = .ok (.sipush 256, 3) := by decide +kernel
theorem dL_renders_220 : decode cL_renders 220 = .ok (.idiv, 1) := by decide +kernel
theorem dL_renders_221 : decode cL_renders 221 = .ok (.iconst 3, 1) := by decide +kernel
theorem dL_renders_222 : decode cL_renders 222 = .ok (.irem, 1) := by decide +kernel
theorem dL_renders_223 : decode cL_renders 223 = .ok (.iaload, 1) := by decide +kernel
theorem dL_renders_224 : decode cL_renders 224 = .ok (.iconst 1, 1) := by decide +kernel
theorem dL_renders_225 : decode cL_renders 225 = .ok (.if_icmp .ne 7, 3) := by decide +kernel
theorem dL_renders_228 : decode cL_renders 228 = .ok (.iconst 1, 1) := by decide +kernel
theorem dL_renders_229 : decode cL_renders 229 = .ok (.goto 4, 3) := by decide +kernel
theorem dL_renders_232 : decode cL_renders 232 = .ok (.iconst 0, 1) := by decide +kernel
theorem dL_renders_233 : decode cL_renders 233 = .ok (.istore 16, 2) := by decide +kernel
theorem dL_renders_235 : decode cL_renders 235 = .ok (.iload 14, 2) := by decide +kernel
theorem dL_renders_237 : decode cL_renders 237 = .ok (.ifCond .ne 14, 3) := by decide +kernel
theorem dL_renders_240 : decode cL_renders 240 = .ok (.aload 4, 2) := by decide +kernel
theorem dL_renders_242 : decode cL_renders 242 = .ok (.iload 11, 2) := by decide +kernel
theorem dL_renders_244 : decode cL_renders 244 = .ok (.iaload, 1) := by decide +kernel
theorem dL_renders_245 : decode cL_renders 245 = .ok (.ldc 40, 2) := by decide +kernel
theorem dL_renders_247 : decode cL_renders 247 = .ok (.idiv, 1) := by decide +kernel
theorem dL_renders_248 : decode cL_renders 248 = .ok (.goto 34, 3) := by decide +kernel
theorem dL_renders_251 : decode cL_renders 251 = .ok (.iload 14, 2) := by decide +kernel
theorem dL_renders_253 : decode cL_renders 253 = .ok (.iconst 1, 1) := by decide +kernel
theorem dL_renders_254 : decode cL_renders 254 = .ok (.if_icmp .ne 19, 3) := by decide +kernel
theorem dL_renders_257 : decode cL_renders 257 = .ok (.aload 4, 2) := by decide +kernel
theorem dL_renders_259 : decode cL_renders 259 = .ok (.iload 11, 2) := by decide +kernel
theorem dL_renders_261 : decode cL_renders 261 = .ok (.iaload, 1) := by decide +kernel
theorem dL_renders_262 : decode cL_renders 262 = .ok (.sipush 256, 3) := by decide +kernel
theorem dL_renders_265 : decode cL_renders 265 = .ok (.idiv, 1) := by decide +kernel
theorem dL_renders_266 : decode cL_renders 266 = .ok (.sipush 256, 3) := by decide +kernel
theorem dL_renders_269 : decode cL_renders 269 = .ok (.irem, 1) := by decide +kernel
theorem dL_renders_270 : decode cL_renders 270 = .ok (.goto 12, 3) := by decide +kernel
theorem dL_renders_273 : decode cL_renders 273 = .ok (.aload 4, 2) := by decide +kernel
theorem dL_renders_275 : decode cL_renders 275 = .ok (.iload 11, 2) := by decide +kernel
theorem dL_renders_277 : decode cL_renders 277 = .ok (.iaload, 1) := by decide +kernel
theorem dL_renders_278 : decode cL_renders 278 = .ok (.sipush 256, 3) := by decide +kernel
theorem dL_renders_281 : decode cL_renders 281 = .ok (.irem, 1) := by decide +kernel
theorem dL_renders_282 : decode cL_renders 282 = .ok (.istore 17, 2) := by decide +kernel
theorem dL_renders_284 : decode cL_renders 284 = .ok (.aload 8, 2) := by decide +kernel
theorem dL_renders_286 : decode cL_renders 286 = .ok (.iload 14, 2) := by decide +kernel
theorem dL_renders_288 : decode cL_renders 288 = .ok (.aload_n 0, 1) := by decide +kernel
theorem dL_renders_289 : decode cL_renders 289 = .ok (.iload 11, 2) := by decide +kernel
theorem dL_renders_291 : decode cL_renders 291 = .ok (.iaload, 1) := by decide +kernel
theorem dL_renders_292 : decode cL_renders 292 = .ok (.iconst 1, 1) := by decide +kernel
theorem dL_renders_293 : decode cL_renders 293 = .ok (.if_icmp .ne 8, 3) := by decide +kernel
theorem dL_renders_296 : decode cL_renders 296 = .ok (.iload 17, 2) := by decide +kernel
theorem dL_renders_298 : decode cL_renders 298 = .ok (.goto 6, 3) := by decide +kernel
theorem dL_renders_301 : decode cL_renders 301 = .ok (.sipush 255, 3) := by decide +kernel
theorem dL_renders_304 : decode cL_renders 304 = .ok (.aload_n 0, 1) := by decide +kernel
theorem dL_renders_305 : decode cL_renders 305 = .ok (.iload 11, 2) := by decide +kernel
theorem dL_renders_307 : decode cL_renders 307 = .ok (.iaload, 1) := by decide +kernel
theorem dL_renders_308 : decode cL_renders 308 = .ok (.iconst 1, 1) := by decide +kernel
theorem dL_renders_309 : decode cL_renders 309 = .ok (.if_icmp .eq 8, 3) := by decide +kernel
theorem dL_renders_312 : decode cL_renders 312 = .ok (.iload 16, 2) := by decide +kernel
theorem dL_renders_314 : decode cL_renders 314 = .ok (.ifCond .eq 10, 3) := by decide +kernel
theorem dL_renders_317 : decode cL_renders 317 = .ok (.aload 9, 2) := by decide +kernel
theorem dL_renders_319 : decode cL_renders 319 = .ok (.iconst 0, 1) := by decide +kernel
theorem dL_renders_320 : decode cL_renders 320 = .ok (.iaload, 1) := by decide +kernel
theorem dL_renders_321 : decode cL_renders 321 = .ok (.goto 4, 3) := by decide +kernel
theorem dL_renders_324 : decode cL_renders 324 = .ok (.iconst 0, 1) := by decide +kernel
theorem dL_renders_325 : decode cL_renders 325 = .ok (.invokestatic 58, 3) := by decide +kernel
theorem dL_renders_328 : decode cL_renders 328 = .ok (.aload 8, 2) := by decide +kernel
theorem dL_renders_330 : decode cL_renders 330 = .ok (.iconst 3, 1) := by decide +kernel
theorem dL_renders_331 : decode cL_renders 331 = .ok (.iload 14, 2) := by decide +kernel
theorem dL_renders_333 : decode cL_renders 333 = .ok (.iadd, 1) := by decide +kernel
theorem dL_renders_334 : decode cL_renders 334 = .ok (.iload 15, 2) := by decide +kernel
theorem dL_renders_336 : decode cL_renders 336 = .ok (.ifCond .eq 15, 3) := by decide +kernel
theorem dL_renders_339 : decode cL_renders 339 = .ok (.aload 4, 2) := by decide +kernel
theorem dL_renders_341 : decode cL_renders 341 = .ok (.iload 11, 2) := by decide +kernel
theorem dL_renders_343 : decode cL_renders 343 = .ok (.iaload, 1) := by decide +kernel
theorem dL_renders_344 : decode cL_renders 344 = .ok (.sipush 256, 3) := by decide +kernel
theorem dL_renders_347 : decode cL_renders 347 = .ok (.irem, 1) := by decide +kernel
theorem dL_renders_348 : decode cL_renders 348 = .ok (.goto 4, 3) := by decide +kernel
theorem dL_renders_351 : decode cL_renders 351 = .ok (.iconst 0, 1) := by decide +kernel
theorem dL_renders_352 : decode cL_renders 352 = .ok (.iload 15, 2) := by decide +kernel
theorem dL_renders_354 : decode cL_renders 354 = .ok (.ifCond .ne 8, 3) := by decide +kernel
theorem dL_renders_357 : decode cL_renders 357 = .ok (.iload 16, 2) := by decide +kernel
theorem dL_renders_359 : decode cL_renders 359 = .ok (.ifCond .eq 10, 3) := by decide +kernel
theorem dL_renders_362 : decode cL_renders 362 = .ok (.aload 9, 2) := by decide +kernel
theorem dL_renders_364 : decode cL_renders 364 = .ok (.iconst 0, 1) := by decide +kernel
theorem dL_renders_365 : decode cL_renders 365 = .ok (.iaload, 1) := by decide +kernel
theorem dL_renders_366 : decode cL_renders 366 = .ok (.goto 4, 3) := by decide +kernel
theorem dL_renders_369 : decode cL_renders 369 = .ok (.iconst 0, 1) := by decide +kernel
theorem dL_renders_370 : decode cL_renders 370 = .ok (.invokestatic 58, 3) := by decide +kernel
theorem dL_renders_373 : decode cL_renders 373 = .ok (.iinc 14 1, 3) := by decide +kernel
theorem dL_renders_376 : decode cL_renders 376 = .ok (.goto (-209), 3) := by decide +kernel
theorem dL_renders_379 : decode cL_renders 379 = .ok (.aload_n 0, 1) := by decide +kernel
theorem dL_renders_380 : decode cL_renders 380 = .ok (.aload_n 1, 1) := by decide +kernel
theorem dL_renders_381 : decode cL_renders 381 = .ok (.aload_n 2, 1) := by decide +kernel
theorem dL_renders_382 : decode cL_renders 382 = .ok (.aload_n 1, 1) := by decide +kernel
theorem dL_renders_383 : decode cL_renders 383 = .ok (.aload_n 2, 1) := by decide +kernel
theorem dL_renders_384 : decode cL_renders 384 = .ok (.iload 11, 2) := by decide +kernel
theorem dL_renders_386 : decode cL_renders 386 = .ok (.invokestatic 41, 3) := by decide +kernel
theorem dL_renders_389 : decode cL_renders 389 = .ok (.invokestatic 50, 3) := by decide +kernel
theorem dL_renders_392 : decode cL_renders 392 = .ok (.istore 11, 2) := by decide +kernel
theorem dL_renders_394 : decode cL_renders 394 = .ok (.goto (-342), 3) := by decide +kernel
theorem dL_renders_397 : decode cL_renders 397 = .ok (.iload 10, 2) := by decide +kernel
theorem dL_renders_399 : decode cL_renders 399 = .ok (.ireturn, 1) := by decide +kernel
theorem dL_separates_0 : decode cL_separates 0 = .ok (.sipush 255, 3) := by decide +kernel
theorem dL_separates_3 : decode cL_separates 3 = .ok (.istore 4, 2) := by decide +kernel
theorem dL_separates_5 : decode cL_separates 5 = .ok (.iconst 0, 1) := by decide +kernel
theorem dL_separates_6 : decode cL_separates 6 = .ok (.istore 5, 2) := by decide +kernel
theorem dL_separates_8 : decode cL_separates 8 = .ok (.iload 5, 2) := by decide +kernel
theorem dL_separates_10 : decode cL_separates 10 = .ok (.iconst 3, 1) := by decide +kernel
theorem dL_separates_11 : decode cL_separates 11 = .ok (.if_icmp .ge 53, 3) := by decide +kernel
theorem dL_separates_14 : decode cL_separates 14 = .ok (.aload_n 2, 1) := by decide +kernel
theorem dL_separates_15 : decode cL_separates 15 = .ok (.iload 5, 2) := by decide +kernel
theorem dL_separates_17 : decode cL_separates 17 = .ok (.sipush 255, 3) := by decide +kernel
theorem dL_separates_20 : decode cL_separates 20 = .ok (.aload_n 0, 1) := by decide +kernel
theorem dL_separates_21 : decode cL_separates 21 = .ok (.iload 5, 2) := by decide +kernel
theorem dL_separates_23 : decode cL_separates 23 = .ok (.iaload, 1) := by decide +kernel
theorem dL_separates_24 : decode cL_separates 24 = .ok (.isub, 1) := by decide +kernel
theorem dL_separates_25 : decode cL_separates 25 = .ok (.iastore, 1) := by decide +kernel
theorem dL_separates_26 : decode cL_separates 26 = .ok (.aload_n 2, 1) := by decide +kernel
theorem dL_separates_27 : decode cL_separates 27 = .ok (.iconst 4, 1) := by decide +kernel
theorem dL_separates_28 : decode cL_separates 28 = .ok (.iload 5, 2) := by decide +kernel
theorem dL_separates_30 : decode cL_separates 30 = .ok (.iadd, 1) := by decide +kernel
theorem dL_separates_31 : decode cL_separates 31 = .ok (.aload_n 0, 1) := by decide +kernel
theorem dL_separates_32 : decode cL_separates 32 = .ok (.iconst 3, 1) := by decide +kernel
theorem dL_separates_33 : decode cL_separates 33 = .ok (.iload 5, 2) := by decide +kernel
theorem dL_separates_35 : decode cL_separates 35 = .ok (.iadd, 1) := by decide +kernel
theorem dL_separates_36 : decode cL_separates 36 = .ok (.iaload, 1) := by decide +kernel
theorem dL_separates_37 : decode cL_separates 37 = .ok (.iastore, 1) := by decide +kernel
theorem dL_separates_38 : decode cL_separates 38 = .ok (.aload_n 2, 1) := by decide +kernel
theorem dL_separates_39 : decode cL_separates 39 = .ok (.iload 5, 2) := by decide +kernel
theorem dL_separates_41 : decode cL_separates 41 = .ok (.iaload, 1) := by decide +kernel
theorem dL_separates_42 : decode cL_separates 42 = .ok (.iload 4, 2) := by decide +kernel
theorem dL_separates_44 : decode cL_separates 44 = .ok (.if_icmp .ge 10, 3) := by decide +kernel
theorem dL_separates_47 : decode cL_separates 47 = .ok (.aload_n 2, 1) := by decide +kernel
theorem dL_separates_48 : decode cL_separates 48 = .ok (.iload 5, 2) := by decide +kernel
theorem dL_separates_50 : decode cL_separates 50 = .ok (.iaload, 1) := by decide +kernel
theorem dL_separates_51 : decode cL_separates 51 = .ok (.goto 5, 3) := by decide +kernel
theorem dL_separates_54 : decode cL_separates 54 = .ok (.iload 4, 2) := by decide +kernel
theorem dL_separates_56 : decode cL_separates 56 = .ok (.istore 4, 2) := by decide +kernel
theorem dL_separates_58 : decode cL_separates 58 = .ok (.iinc 5 1, 3) := by decide +kernel
theorem dL_separates_61 : decode cL_separates 61 = .ok (.goto (-53), 3) := by decide +kernel
theorem dL_separates_64 : decode cL_separates 64 = .ok (.aload_n 2, 1) := by decide +kernel
theorem dL_separates_65 : decode cL_separates 65 = .ok (.iconst 3, 1) := by decide +kernel
theorem dL_separates_66 : decode cL_separates 66 = .ok (.iload 4, 2) := by decide +kernel
theorem dL_separates_68 : decode cL_separates 68 = .ok (.aload_n 1, 1) := by decide +kernel
theorem dL_separates_69 : decode cL_separates 69 = .ok (.iconst 1, 1) := by decide +kernel
theorem dL_separates_70 : decode cL_separates 70 = .ok (.iaload, 1) := by decide +kernel
theorem dL_separates_71 : decode cL_separates 71 = .ok (.if_icmp .le 19, 3) := by decide +kernel
theorem dL_separates_74 : decode cL_separates 74 = .ok (.iload 4, 2) := by decide +kernel
theorem dL_separates_76 : decode cL_separates 76 = .ok (.aload_n 1, 1) := by decide +kernel
theorem dL_separates_77 : decode cL_separates 77 = .ok (.iconst 1, 1) := by decide +kernel
theorem dL_separates_78 : decode cL_separates 78 = .ok (.iaload, 1) := by decide +kernel
theorem dL_separates_79 : decode cL_separates 79 = .ok (.isub, 1) := by decide +kernel
theorem dL_separates_80 : decode cL_separates 80 = .ok (.aload_n 1, 1) := by decide +kernel
theorem dL_separates_81 : decode cL_separates 81 = .ok (.iconst 0, 1) := by decide +kernel
theorem dL_separates_82 : decode cL_separates 82 = .ok (.iaload, 1) := by decide +kernel
theorem dL_separates_83 : decode cL_separates 83 = .ok (.imul, 1) := by decide +kernel
theorem dL_separates_84 : decode cL_separates 84 = .ok (.bipush 100, 2) := by decide +kernel
theorem dL_separates_86 : decode cL_separates 86 = .ok (.idiv, 1) := by decide +kernel
theorem dL_separates_87 : decode cL_separates 87 = .ok (.goto 4, 3) := by decide +kernel
theorem dL_separates_90 : decode cL_separates 90 = .ok (.iconst 0, 1) := by decide +kernel
theorem dL_separates_91 : decode cL_separates 91 = .ok (.iastore, 1) := by decide +kernel
theorem dL_separates_92 : decode cL_separates 92 = .ok (.iconst 0, 1) := by decide +kernel
theorem dL_separates_93 : decode cL_separates 93 = .ok (.istore 5, 2) := by decide +kernel
theorem dL_separates_95 : decode cL_separates 95 = .ok (.iload 5, 2) := by decide +kernel
theorem dL_separates_97 : decode cL_separates 97 = .ok (.iconst 3, 1) := by decide +kernel
theorem dL_separates_98 : decode cL_separates 98 = .ok (.if_icmp .ge 19, 3) := by decide +kernel
theorem dL_separates_101 : decode cL_separates 101 = .ok (.aload_n 2, 1) := by decide +kernel
theorem dL_separates_102 : decode cL_separates 102 = .ok (.iload 5, 2) := by decide +kernel
theorem dL_separates_104 : decode cL_separates 104 = .ok (.dup2, 1) := by decide +kernel
theorem dL_separates_105 : decode cL_separates 105 = .ok (.iaload, 1) := by decide +kernel
theorem dL_separates_106 : decode cL_separates 106 = .ok (.aload_n 2, 1) := by decide +kernel
theorem dL_separates_107 : decode cL_separates 107 = .ok (.iconst 3, 1) := by decide +kernel
theorem dL_separates_108 : decode cL_separates 108 = .ok (.iaload, 1) := by decide +kernel
theorem dL_separates_109 : decode cL_separates 109 = .ok (.isub, 1) := by decide +kernel
theorem dL_separates_110 : decode cL_separates 110 = .ok (.iastore, 1) := by decide +kernel
theorem dL_separates_111 : decode cL_separates 111 = .ok (.iinc 5 1, 3) := by decide +kernel
theorem dL_separates_114 : decode cL_separates 114 = .ok (.goto (-19), 3) := by decide +kernel
theorem dL_separates_117 : decode cL_separates 117 = .ok (.aload_n 2, 1) := by decide +kernel
theorem dL_separates_118 : decode cL_separates 118 = .ok (.iconst 4, 1) := by decide +kernel
theorem dL_separates_119 : decode cL_separates 119 = .ok (.iaload, 1) := by decide +kernel
theorem dL_separates_120 : decode cL_separates 120 = .ok (.aload_n 2, 1) := by decide +kernel
theorem dL_separates_121 : decode cL_separates 121 = .ok (.iconst 5, 1) := by decide +kernel
theorem dL_separates_122 : decode cL_separates 122 = .ok (.iaload, 1) := by decide +kernel
theorem dL_separates_123 : decode cL_separates 123 = .ok (.iadd, 1) := by decide +kernel
theorem dL_separates_124 : decode cL_separates 124 = .ok (.aload_n 2, 1) := by decide +kernel
theorem dL_separates_125 : decode cL_separates 125 = .ok (.bipush 6, 2) := by decide +kernel
theorem dL_separates_127 : decode cL_separates 127 = .ok (.iaload, 1) := by decide +kernel
theorem dL_separates_128 : decode cL_separates 128 = .ok (.iadd, 1) := by decide +kernel
theorem dL_separates_129 : decode cL_separates 129 = .ok (.istore 5, 2) := by decide +kernel
theorem dL_separates_131 : decode cL_separates 131 = .ok (.aload_n 2, 1) := by decide +kernel
theorem dL_separates_132 : decode cL_separates 132 = .ok (.iconst 0, 1) := by decide +kernel
theorem dL_separates_133 : decode cL_separates 133 = .ok (.iaload, 1) := by decide +kernel
theorem dL_separates_134 : decode cL_separates 134 = .ok (.aload_n 2, 1) := by decide +kernel
theorem dL_separates_135 : decode cL_separates 135 = .ok (.iconst 1, 1) := by decide +kernel
theorem dL_separates_136 : decode cL_separates 136 = .ok (.iaload, 1) := by decide +kernel
theorem dL_separates_137 : decode cL_separates 137 = .ok (.iadd, 1) := by decide +kernel
theorem dL_separates_138 : decode cL_separates 138 = .ok (.aload_n 2, 1) := by decide +kernel
theorem dL_separates_139 : decode cL_separates 139 = .ok (.iconst 2, 1) := by decide +kernel
theorem dL_separates_140 : decode cL_separates 140 = .ok (.iaload, 1) := by decide +kernel
theorem dL_separates_141 : decode cL_separates 141 = .ok (.iadd, 1) := by decide +kernel
theorem dL_separates_142 : decode cL_separates 142 = .ok (.istore 6, 2) := by decide +kernel
theorem dL_separates_144 : decode cL_separates 144 = .ok (.aload_n 1, 1) := by decide +kernel
theorem dL_separates_145 : decode cL_separates 145 = .ok (.iconst 2, 1) := by decide +kernel
theorem dL_separates_146 : decode cL_separates 146 = .ok (.iaload, 1) := by decide +kernel
theorem dL_separates_147 : decode cL_separates 147 = .ok (.iload 5, 2) := by decide +kernel
theorem dL_separates_149 : decode cL_separates 149 = .ok (.isub, 1) := by decide +kernel
theorem dL_separates_150 : decode cL_separates 150 = .ok (.aload_n 2, 1) := by decide +kernel
theorem dL_separates_151 : decode cL_separates 151 = .ok (.iconst 3, 1) := by decide +kernel
theorem dL_separates_152 : decode cL_separates 152 = .ok (.iaload, 1) := by decide +kernel
theorem dL_separates_153 : decode cL_separates 153 = .ok (.isub, 1) := by decide +kernel
theorem dL_separates_154 : decode cL_separates 154 = .ok (.istore 7, 2) := by decide +kernel
theorem dL_separates_156 : decode cL_separates 156 = .ok (.iconst 0, 1) := by decide +kernel
theorem dL_separates_157 : decode cL_separates 157 = .ok (.istore 8, 2) := by decide +kernel
theorem dL_separates_159 : decode cL_separates 159 = .ok (.iload 8, 2) := by decide +kernel
theorem dL_separates_161 : decode cL_separates 161 = .ok (.bipush 7, 2) := by decide +kernel
theorem dL_separates_163 : decode cL_separates 163 = .ok (.if_icmp .ge 115, 3) := by decide +kernel
theorem dL_separates_166 : decode cL_separates 166 = .ok (.aload_n 3, 1) := by decide +kernel
theorem dL_separates_167 : decode cL_separates 167 = .ok (.iload 8, 2) := by decide +kernel
theorem dL_separates_169 : decode cL_separates 169 = .ok (.aload_n 2, 1) := by decide +kernel
theorem dL_separates_170 : decode cL_separates 170 = .ok (.iload 8, 2) := by decide +kernel
theorem dL_separates_172 : decode cL_separates 172 = .ok (.iaload, 1) := by decide +kernel
theorem dL_separates_173 : decode cL_separates 173 = .ok (.iastore, 1) := by decide +kernel
theorem dL_separates_174 : decode cL_separates 174 = .ok (.iload 8, 2) := by decide +kernel
theorem dL_separates_176 : decode cL_separates 176 = .ok (.iconst 3, 1) := by decide +kernel
theorem dL_separates_177 : decode cL_separates 177 = .ok (.if_icmp .ge 33, 3) := by decide +kernel
theorem dL_separates_180 : decode cL_separates 180 = .ok (.iload 6, 2) := by decide +kernel
theorem dL_separates_182 : decode cL_separates 182 = .ok (.iload 7, 2) := by decide +kernel
theorem dL_separates_184 : decode cL_separates 184 = .ok (.if_icmp .le 26, 3) := by decide +kernel
theorem dL_separates_187 : decode cL_separates 187 = .ok (.aload_n 3, 1) := by decide +kernel
theorem dL_separates_188 : decode cL_separates 188 = .ok (.iload 8, 2) := by decide +kernel
theorem dL_separates_190 : decode cL_separates 190 = .ok (.iload 7, 2) := by decide +kernel
theorem dL_separates_192 : decode cL_separates 192 = .ok (.ifCond .ge 7, 3) := by decide +kernel
theorem dL_separates_195 : decode cL_separates 195 = .ok (.iconst 0, 1) := by decide +kernel
theorem dL_separates_196 : decode cL_separates 196 = .ok (.goto 13, 3) := by decide +kernel
theorem dL_separates_199 : decode cL_separates 199 = .ok (.aload_n 2, 1) := by decide +kernel
theorem dL_separates_200 : decode cL_separates 200 = .ok (.iload 8, 2) := by decide +kernel
theorem dL_separates_202 : decode cL_separates 202 = .ok (.iaload, 1) := by decide +kernel
theorem dL_separates_203 : decode cL_separates 203 = .ok (.iload 7, 2) := by decide +kernel
theorem dL_separates_205 : decode cL_separates 205 = .ok (.imul, 1) := by decide +kernel
theorem dL_separates_206 : decode cL_separates 206 = .ok (.iload 6, 2) := by decide +kernel
theorem dL_separates_208 : decode cL_separates 208 = .ok (.idiv, 1) := by decide +kernel
theorem dL_separates_209 : decode cL_separates 209 = .ok (.iastore, 1) := by decide +kernel
theorem dL_separates_210 : decode cL_separates 210 = .ok (.iload 8, 2) := by decide +kernel
theorem dL_separates_212 : decode cL_separates 212 = .ok (.iconst 3, 1) := by decide +kernel
theorem dL_separates_213 : decode cL_separates 213 = .ok (.if_icmp .ne 30, 3) := by decide +kernel
theorem dL_separates_216 : decode cL_separates 216 = .ok (.iload 7, 2) := by decide +kernel
theorem dL_separates_218 : decode cL_separates 218 = .ok (.ifCond .ge 25, 3) := by decide +kernel
theorem dL_separates_221 : decode cL_separates 221 = .ok (.aload_n 3, 1) := by decide +kernel
theorem dL_separates_222 : decode cL_separates 222 = .ok (.iload 8, 2) := by decide +kernel
theorem dL_separates_224 : decode cL_separates 224 = .ok (.aload_n 1, 1) := by decide +kernel
theorem dL_separates_225 : decode cL_separates 225 = .ok (.iconst 2, 1) := by decide +kernel
theorem dL_separates_226 : decode cL_separates 226 = .ok (.iaload, 1) := by decide +kernel
theorem dL_separates_227 : decode cL_separates 227 = .ok (.iload 5, 2) := by decide +kernel
theorem dL_separates_229 : decode cL_separates 229 = .ok (.if_icmp .ge 7, 3) := by decide +kernel
theorem dL_separates_232 : decode cL_separates 232 = .ok (.iconst 0, 1) := by decide +kernel
theorem dL_separates_233 : decode cL_separates 233 = .ok (.goto 9, 3) := by decide +kernel
theorem dL_separates_236 : decode cL_separates 236 = .ok (.aload_n 1, 1) := by decide +kernel
theorem dL_separates_237 : decode cL_separates 237 = .ok (.iconst 2, 1) := by decide +kernel
theorem dL_separates_238 : decode cL_separates 238 = .ok (.iaload, 1) := by decide +kernel
theorem dL_separates_239 : decode cL_separates 239 = .ok (.iload 5, 2) := by decide +kernel
theorem dL_separates_241 : decode cL_separates 241 = .ok (.isub, 1) := by decide +kernel
theorem dL_separates_242 : decode cL_separates 242 = .ok (.iastore, 1) := by decide +kernel
theorem dL_separates_243 : decode cL_separates 243 = .ok (.iload 8, 2) := by decide +kernel
theorem dL_separates_245 : decode cL_separates 245 = .ok (.iconst 3, 1) := by decide +kernel
theorem dL_separates_246 : decode cL_separates 246 = .ok (.if_icmp .le 26, 3) := by decide +kernel
theorem dL_separates_249 : decode cL_separates 249 = .ok (.iload 5, 2) := by decide +kernel
theorem dL_separates_251 : decode cL_separates 251 = .ok (.aload_n 1, 1) := by decide +kernel
theorem dL_separates_252 : decode cL_separates 252 = .ok (.iconst 2, 1) := by decide +kernel
theorem dL_separates_253 : decode cL_separates 253 = .ok (.iaload, 1) := by decide +kernel
theorem dL_separates_254 : decode cL_separates 254 = .ok (.if_icmp .le 18, 3) := by decide +kernel
theorem dL_separates_257 : decode cL_separates 257 = .ok (.aload_n 3, 1) := by decide +kernel
theorem dL_separates_258 : decode cL_separates 258 = .ok (.iload 8, 2) := by decide +kernel
theorem dL_separates_260 : decode cL_separates 260 = .ok (.aload_n 2, 1) := by decide +kernel
theorem dL_separates_261 : decode cL_separates 261 = .ok (.iload 8, 2) := by decide +kernel
theorem dL_separates_263 : decode cL_separates 263 = .ok (.iaload, 1) := by decide +kernel
theorem dL_separates_264 : decode cL_separates 264 = .ok (.aload_n 1, 1) := by decide +kernel
theorem dL_separates_265 : decode cL_separates 265 = .ok (.iconst 2, 1) := by decide +kernel
theorem dL_separates_266 : decode cL_separates 266 = .ok (.iaload, 1) := by decide +kernel
theorem dL_separates_267 : decode cL_separates 267 = .ok (.imul, 1) := by decide +kernel
theorem dL_separates_268 : decode cL_separates 268 = .ok (.iload 5, 2) := by decide +kernel
theorem dL_separates_270 : decode cL_separates 270 = .ok (.idiv, 1) := by decide +kernel
theorem dL_separates_271 : decode cL_separates 271 = .ok (.iastore, 1) := by decide +kernel
theorem dL_separates_272 : decode cL_separates 272 = .ok (.iinc 8 1, 3) := by decide +kernel
theorem dL_separates_275 : decode cL_separates 275 = .ok (.goto (-116), 3) := by decide +kernel
theorem dL_separates_278 : decode cL_separates 278 = .ok (.return_, 1) := by decide +kernel
theorem dL_law_0 : decode cL_law 0 = .ok (.new 21, 3) := by decide +kernel
theorem dL_law_3 : decode cL_law 3 = .ok (.dup, 1) := by decide +kernel
theorem dL_law_4 : decode cL_law 4 = .ok (.invokespecial 62, 3) := by decide +kernel
theorem dL_law_7 : decode cL_law 7 = .ok (.astore_n 1, 1) := by decide +kernel
theorem dL_law_8 : decode cL_law 8 = .ok (.bipush 24, 2) := by decide +kernel
theorem dL_law_10 : decode cL_law 10 = .ok (.newarray .int, 2) := by decide +kernel
theorem dL_law_12 : decode cL_law 12 = .ok (.astore_n 2, 1) := by decide +kernel
theorem dL_law_13 : decode cL_law 13 = .ok (.bipush 24, 2) := by decide +kernel
theorem dL_law_15 : decode cL_law 15 = .ok (.newarray .int, 2) := by decide +kernel
theorem dL_law_17 : decode cL_law 17 = .ok (.astore_n 3, 1) := by decide +kernel
theorem dL_law_18 : decode cL_law 18 = .ok (.bipush 24, 2) := by decide +kernel
theorem dL_law_20 : decode cL_law 20 = .ok (.newarray .int, 2) := by decide +kernel
theorem dL_law_22 : decode cL_law 22 = .ok (.astore 4, 2) := by decide +kernel
theorem dL_law_24 : decode cL_law 24 = .ok (.bipush 24, 2) := by decide +kernel
theorem dL_law_26 : decode cL_law 26 = .ok (.newarray .int, 2) := by decide +kernel
theorem dL_law_28 : decode cL_law 28 = .ok (.astore 5, 2) := by decide +kernel
theorem dL_law_30 : decode cL_law 30 = .ok (.bipush 24, 2) := by decide +kernel
theorem dL_law_32 : decode cL_law 32 = .ok (.newarray .int, 2) := by decide +kernel
theorem dL_law_34 : decode cL_law 34 = .ok (.astore 6, 2) := by decide +kernel
theorem dL_law_36 : decode cL_law 36 = .ok (.iconst 3, 1) := by decide +kernel
theorem dL_law_37 : decode cL_law 37 = .ok (.newarray .int, 2) := by decide +kernel
theorem dL_law_39 : decode cL_law 39 = .ok (.astore 7, 2) := by decide +kernel
theorem dL_law_41 : decode cL_law 41 = .ok (.iconst 3, 1) := by decide +kernel
theorem dL_law_42 : decode cL_law 42 = .ok (.newarray .int, 2) := by decide +kernel
theorem dL_law_44 : decode cL_law 44 = .ok (.astore 8, 2) := by decide +kernel
theorem dL_law_46 : decode cL_law 46 = .ok (.bipush 6, 2) := by decide +kernel
theorem dL_law_48 : decode cL_law 48 = .ok (.newarray .int, 2) := by decide +kernel
theorem dL_law_50 : decode cL_law 50 = .ok (.astore 9, 2) := by decide +kernel
theorem dL_law_52 : decode cL_law 52 = .ok (.bipush 7, 2) := by decide +kernel
theorem dL_law_54 : decode cL_law 54 = .ok (.newarray .int, 2) := by decide +kernel
theorem dL_law_56 : decode cL_law 56 = .ok (.astore 10, 2) := by decide +kernel
theorem dL_law_58 : decode cL_law 58 = .ok (.bipush 7, 2) := by decide +kernel
theorem dL_law_60 : decode cL_law 60 = .ok (.newarray .int, 2) := by decide +kernel
theorem dL_law_62 : decode cL_law 62 = .ok (.astore 11, 2) := by decide +kernel
theorem dL_law_64 : decode cL_law 64 = .ok (.aload_n 2, 1) := by decide +kernel
theorem dL_law_65 : decode cL_law 65 = .ok (.aload_n 3, 1) := by decide +kernel
theorem dL_law_66 : decode cL_law 66 = .ok (.aload 4, 2) := by decide +kernel
theorem dL_law_68 : decode cL_law 68 = .ok (.aload 5, 2) := by decide +kernel
theorem dL_law_70 : decode cL_law 70 = .ok (.aload 6, 2) := by decide +kernel
theorem dL_law_72 : decode cL_law 72 = .ok (.invokestatic 63, 3) := by decide +kernel
theorem dL_law_75 : decode cL_law 75 = .ok (.aload_n 1, 1) := by decide +kernel
theorem dL_law_76 : decode cL_law 76 = .ok (.iconst 0, 1) := by decide +kernel
theorem dL_law_77 : decode cL_law 77 = .ok (.iconst 0, 1) := by decide +kernel
theorem dL_law_78 : decode cL_law 78 = .ok (.bipush 7, 2) := by decide +kernel
theorem dL_law_80 : decode cL_law 80 = .ok (.invokevirtual 67, 3) := by decide +kernel
theorem dL_law_83 : decode cL_law 83 = .ok (.ifCond .ne 32, 3) := by decide +kernel
theorem dL_law_86 : decode cL_law 86 = .ok (.aload_n 1, 1) := by decide +kernel
theorem dL_law_87 : decode cL_law 87 = .ok (.bipush 7, 2) := by decide +kernel
theorem dL_law_89 : decode cL_law 89 = .ok (.iconst 5, 1) := by decide +kernel
theorem dL_law_90 : decode cL_law 90 = .ok (.iconst 0, 1) := by decide +kernel
theorem dL_law_91 : decode cL_law 91 = .ok (.invokevirtual 70, 3) := by decide +kernel
theorem dL_law_94 : decode cL_law 94 = .ok (.sipush 255, 3) := by decide +kernel
theorem dL_law_97 : decode cL_law 97 = .ok (.if_icmp .ne 18, 3) := by decide +kernel
theorem dL_law_100 : decode cL_law 100 = .ok (.aload_n 1, 1) := by decide +kernel
theorem dL_law_101 : decode cL_law 101 = .ok (.iconst 0, 1) := by decide +kernel
theorem dL_law_102 : decode cL_law 102 = .ok (.iconst 0, 1) := by decide +kernel
theorem dL_law_103 : decode cL_law 103 = .ok (.invokevirtual 73, 3) := by decide +kernel
theorem dL_law_106 : decode cL_law 106 = .ok (.bipush (-4), 2) := by decide +kernel
theorem dL_law_108 : decode cL_law 108 = .ok (.if_icmp .ne 7, 3) := by decide +kernel
theorem dL_law_111 : decode cL_law 111 = .ok (.iconst 1, 1) := by decide +kernel
theorem dL_law_112 : decode cL_law 112 = .ok (.goto 4, 3) := by decide +kernel
theorem dL_law_115 : decode cL_law 115 = .ok (.iconst 0, 1) := by decide +kernel
theorem dL_law_116 : decode cL_law 116 = .ok (.istore 12, 2) := by decide +kernel
theorem dL_law_118 : decode cL_law 118 = .ok (.iconst 0, 1) := by decide +kernel
theorem dL_law_119 : decode cL_law 119 = .ok (.istore 13, 2) := by decide +kernel
theorem dL_law_121 : decode cL_law 121 = .ok (.iload 13, 2) := by decide +kernel
theorem dL_law_123 : decode cL_law 123 = .ok (.iconst 3, 1) := by decide +kernel
theorem dL_law_124 : decode cL_law 124 = .ok (.if_icmp .ge 132, 3) := by decide +kernel
theorem dL_law_127 : decode cL_law 127 = .ok (.iload 12, 2) := by decide +kernel
theorem dL_law_129 : decode cL_law 129 = .ok (.ifCond .eq 127, 3) := by decide +kernel
theorem dL_law_132 : decode cL_law 132 = .ok (.aload 7, 2) := by decide +kernel
theorem dL_law_134 : decode cL_law 134 = .ok (.iload 13, 2) := by decide +kernel
theorem dL_law_136 : decode cL_law 136 = .ok (.aload_n 0, 1) := by decide +kernel
theorem dL_law_137 : decode cL_law 137 = .ok (.iconst 0, 1) := by decide +kernel
theorem dL_law_138 : decode cL_law 138 = .ok (.invokestatic 76, 3) := by decide +kernel
theorem dL_law_141 : decode cL_law 141 = .ok (.iload 13, 2) := by decide +kernel
theorem dL_law_143 : decode cL_law 143 = .ok (.ishr, 1) := by decide +kernel
theorem dL_law_144 : decode cL_law 144 = .ok (.iconst 2, 1) := by decide +kernel
theorem dL_law_145 : decode cL_law 145 = .ok (.invokestatic 10, 3) := by decide +kernel
theorem dL_law_148 : decode cL_law 148 = .ok (.iastore, 1) := by decide +kernel
theorem dL_law_149 : decode cL_law 149 = .ok (.aload 8, 2) := by decide +kernel
theorem dL_law_151 : decode cL_law 151 = .ok (.iload 13, 2) := by decide +kernel
theorem dL_law_153 : decode cL_law 153 = .ok (.aload_n 0, 1) := by decide +kernel
theorem dL_law_154 : decode cL_law 154 = .ok (.iconst 1, 1) := by decide +kernel
theorem dL_law_155 : decode cL_law 155 = .ok (.iload 13, 2) := by decide +kernel
theorem dL_law_157 : decode cL_law 157 = .ok (.iadd, 1) := by decide +kernel
theorem dL_law_158 : decode cL_law 158 = .ok (.invokestatic 76, 3) := by decide +kernel
theorem dL_law_161 : decode cL_law 161 = .ok (.iload 13, 2) := by decide +kernel
theorem dL_law_163 : decode cL_law 163 = .ok (.ifCond .ne 8, 3) := by decide +kernel
theorem dL_law_166 : decode cL_law 166 = .ok (.bipush 101, 2) := by decide +kernel
theorem dL_law_168 : decode cL_law 168 = .ok (.goto 18, 3) := by decide +kernel
theorem dL_law_171 : decode cL_law 171 = .ok (.iload 13, 2) := by decide +kernel
theorem dL_law_173 : decode cL_law 173 = .ok (.iconst 1, 1) := by decide +kernel
theorem dL_law_174 : decode cL_law 174 = .ok (.if_icmp .ne 9, 3) := by decide +kernel
theorem dL_law_177 : decode cL_law 177 = .ok (.sipush 256, 3) := by decide +kernel
theorem dL_law_180 : decode cL_law 180 = .ok (.goto 6, 3) := by decide +kernel
theorem dL_law_183 : decode cL_law 183 = .ok (.sipush 1786, 3) := by decide +kernel
theorem dL_law_186 : decode cL_law 186 = .ok (.invokestatic 10, 3) := by decide +kernel
theorem dL_law_189 : decode cL_law 189 = .ok (.iastore, 1) := by decide +kernel
theorem dL_law_190 : decode cL_law 190 = .ok (.aload_n 1, 1) := by decide +kernel
theorem dL_law_191 : decode cL_law 191 = .ok (.iload 13, 2) := by decide +kernel
theorem dL_law_193 : decode cL_law 193 = .ok (.aload 7, 2) := by decide +kernel
theorem dL_law_195 : decode cL_law 195 = .ok (.iload 13, 2) := by decide +kernel
theorem dL_law_197 : decode cL_law 197 = .ok (.iaload, 1) := by decide +kernel
theorem dL_law_198 : decode cL_law 198 = .ok (.invokevirtual 79, 3) := by decide +kernel
theorem dL_law_201 : decode cL_law 201 = .ok (.iconst 1, 1) := by decide +kernel
theorem dL_law_202 : decode cL_law 202 = .ok (.if_icmp .ne 45, 3) := by decide +kernel
theorem dL_law_205 : decode cL_law 205 = .ok (.aload_n 1, 1) := by decide +kernel
theorem dL_law_206 : decode cL_law 206 = .ok (.iload 13, 2) := by decide +kernel
theorem dL_law_208 : decode cL_law 208 = .ok (.aload 8, 2) := by decide +kernel
theorem dL_law_210 : decode cL_law 210 = .ok (.iload 13, 2) := by decide +kernel
theorem dL_law_212 : decode cL_law 212 = .ok (.iaload, 1) := by decide +kernel
theorem dL_law_213 : decode cL_law 213 = .ok (.invokevirtual 82, 3) := by decide +kernel
theorem dL_law_216 : decode cL_law 216 = .ok (.iload 13, 2) := by decide +kernel
theorem dL_law_218 : decode cL_law 218 = .ok (.ifCond .ne 8, 3) := by decide +kernel
theorem dL_law_221 : decode cL_law 221 = .ok (.bipush 50, 2) := by decide +kernel
theorem dL_law_223 : decode cL_law 223 = .ok (.goto 17, 3) := by decide +kernel
theorem dL_law_226 : decode cL_law 226 = .ok (.iload 13, 2) := by decide +kernel
theorem dL_law_228 : decode cL_law 228 = .ok (.iconst 1, 1) := by decide +kernel
theorem dL_law_229 : decode cL_law 229 = .ok (.if_icmp .ne 8, 3) := by decide +kernel
theorem dL_law_232 : decode cL_law 232 = .ok (.bipush 40, 2) := by decide +kernel
theorem dL_law_234 : decode cL_law 234 = .ok (.goto 6, 3) := by decide +kernel
theorem dL_law_237 : decode cL_law 237 = .ok (.sipush 700, 3) := by decide +kernel
theorem dL_law_240 : decode cL_law 240 = .ok (.if_icmp .ne 7, 3) := by decide +kernel
theorem dL_law_243 : decode cL_law 243 = .ok (.iconst 1, 1) := by decide +kernel
theorem dL_law_244 : decode cL_law 244 = .ok (.goto 4, 3) := by decide +kernel
theorem dL_law_247 : decode cL_law 247 = .ok (.iconst 0, 1) := by decide +kernel
theorem dL_law_248 : decode cL_law 248 = .ok (.istore 12, 2) := by decide +kernel
theorem dL_law_250 : decode cL_law 250 = .ok (.iinc 13 1, 3) := by decide +kernel
theorem dL_law_253 : decode cL_law 253 = .ok (.goto (-132), 3) := by decide +kernel
theorem dL_law_256 : decode cL_law 256 = .ok (.iconst 1, 1) := by decide +kernel
theorem dL_law_257 : decode cL_law 257 = .ok (.aload_n 0, 1) := by decide +kernel
theorem dL_law_258 : decode cL_law 258 = .ok (.iconst 4, 1) := by decide +kernel
theorem dL_law_259 : decode cL_law 259 = .ok (.invokestatic 76, 3) := by decide +kernel
theorem dL_law_262 : decode cL_law 262 = .ok (.bipush 12, 2) := by decide +kernel
theorem dL_law_264 : decode cL_law 264 = .ok (.invokestatic 10, 3) := by decide +kernel
theorem dL_law_267 : decode cL_law 267 = .ok (.iadd, 1) := by decide +kernel
theorem dL_law_268 : decode cL_law 268 = .ok (.istore 13, 2) := by decide +kernel
theorem dL_law_270 : decode cL_law 270 = .ok (.iconst 1, 1) := by decide +kernel
theorem dL_law_271 : decode cL_law 271 = .ok (.aload_n 0, 1) := by decide +kernel
theorem dL_law_272 : decode cL_law 272 = .ok (.iconst 4, 1) := by decide +kernel
theorem dL_law_273 : decode cL_law 273 = .ok (.invokestatic 76, 3) := by decide +kernel
theorem dL_law_276 : decode cL_law 276 = .ok (.iconst 5, 1) := by decide +kernel
theorem dL_law_277 : decode cL_law 277 = .ok (.ishr, 1) := by decide +kernel
theorem dL_law_278 : decode cL_law 278 = .ok (.bipush 12, 2) := by decide +kernel
theorem dL_law_280 : decode cL_law 280 = .ok (.invokestatic 10, 3) := by decide +kernel
theorem dL_law_283 : decode cL_law 283 = .ok (.iadd, 1) := by decide +kernel
theorem dL_law_284 : decode cL_law 284 = .ok (.istore 14, 2) := by decide +kernel
theorem dL_law_286 : decode cL_law 286 = .ok (.iload 12, 2) := by decide +kernel
theorem dL_law_288 : decode cL_law 288 = .ok (.ifCond .eq 21, 3) := by decide +kernel
theorem dL_law_291 : decode cL_law 291 = .ok (.aload_n 1, 1) := by decide +kernel
theorem dL_law_292 : decode cL_law 292 = .ok (.iload 13, 2) := by decide +kernel
theorem dL_law_294 : decode cL_law 294 = .ok (.iload 14, 2) := by decide +kernel
theorem dL_law_296 : decode cL_law 296 = .ok (.invokevirtual 85, 3) := by decide +kernel
theorem dL_law_299 : decode cL_law 299 = .ok (.sipush 806, 3) := by decide +kernel
theorem dL_law_302 : decode cL_law 302 = .ok (.if_icmp .ne 7, 3) := by decide +kernel
theorem dL_law_305 : decode cL_law 305 = .ok (.iconst 1, 1) := by decide +kernel
theorem dL_law_306 : decode cL_law 306 = .ok (.goto 4, 3) := by decide +kernel
theorem dL_law_309 : decode cL_law 309 = .ok (.iconst 0, 1) := by decide +kernel
theorem dL_law_310 : decode cL_law 310 = .ok (.istore 12, 2) := by decide +kernel
theorem dL_law_312 : decode cL_law 312 = .ok (.aload_n 0, 1) := by decide +kernel
theorem dL_law_313 : decode cL_law 313 = .ok (.iconst 5, 1) := by decide +kernel
theorem dL_law_314 : decode cL_law 314 = .ok (.invokestatic 76, 3) := by decide +kernel
theorem dL_law_317 : decode cL_law 317 = .ok (.bipush 26, 2) := by decide +kernel
theorem dL_law_319 : decode cL_law 319 = .ok (.invokestatic 10, 3) := by decide +kernel
theorem dL_law_322 : decode cL_law 322 = .ok (.istore 15, 2) := by decide +kernel
theorem dL_law_324 : decode cL_law 324 = .ok (.iconst 0, 1) := by decide +kernel
theorem dL_law_325 : decode cL_law 325 = .ok (.istore 16, 2) := by decide +kernel
theorem dL_law_327 : decode cL_law 327 = .ok (.iload 16, 2) := by decide +kernel
theorem dL_law_329 : decode cL_law 329 = .ok (.iload 15, 2) := by decide +kernel
theorem dL_law_331 : decode cL_law 331 = .ok (.if_icmp .ge 44, 3) := by decide +kernel
theorem dL_law_334 : decode cL_law 334 = .ok (.iload 12, 2) := by decide +kernel
theorem dL_law_336 : decode cL_law 336 = .ok (.ifCond .eq 39, 3) := by decide +kernel
theorem dL_law_339 : decode cL_law 339 = .ok (.aload_n 1, 1) := by decide +kernel
theorem dL_law_340 : decode cL_law 340 = .ok (.aload_n 2, 1) := by decide +kernel
theorem dL_law_341 : decode cL_law 341 = .ok (.aload_n 3, 1) := by decide +kernel
theorem dL_law_342 : decode cL_law 342 = .ok (.aload 4, 2) := by decide +kernel
theorem dL_law_344 : decode cL_law 344 = .ok (.aload 5, 2) := by decide +kernel
theorem dL_law_346 : decode cL_law 346 = .ok (.aload 6, 2) := by decide +kernel
theorem dL_law_348 : decode cL_law 348 = .ok (.aload_n 0, 1) := by decide +kernel
theorem dL_law_349 : decode cL_law 349 = .ok (.bipush 6, 2) := by decide +kernel
theorem dL_law_351 : decode cL_law 351 = .ok (.iload 16, 2) := by decide +kernel
theorem dL_law_353 : decode cL_law 353 = .ok (.iadd, 1) := by decide +kernel
theorem dL_law_354 : decode cL_law 354 = .ok (.invokestatic 76, 3) := by decide +kernel
theorem dL_law_357 : decode cL_law 357 = .ok (.sipush 7919, 3) := by decide +kernel
theorem dL_law_360 : decode cL_law 360 = .ok (.iload 16, 2) := by decide +kernel
theorem dL_law_362 : decode cL_law 362 = .ok (.imul, 1) := by decide +kernel
theorem dL_law_363 : decode cL_law 363 = .ok (.ixor, 1) := by decide +kernel
theorem dL_law_364 : decode cL_law 364 = .ok (.invokestatic 88, 3) := by decide +kernel
theorem dL_law_367 : decode cL_law 367 = .ok (.istore 12, 2) := by decide +kernel
theorem dL_law_369 : decode cL_law 369 = .ok (.iinc 16 1, 3) := by decide +kernel
theorem dL_law_372 : decode cL_law 372 = .ok (.goto (-45), 3) := by decide +kernel
theorem dL_law_375 : decode cL_law 375 = .ok (.bipush 8, 2) := by decide +kernel
theorem dL_law_377 : decode cL_law 377 = .ok (.newarray .int, 2) := by decide +kernel
theorem dL_law_379 : decode cL_law 379 = .ok (.astore 16, 2) := by decide +kernel
theorem dL_law_381 : decode cL_law 381 = .ok (.iconst 0, 1) := by decide +kernel
theorem dL_law_382 : decode cL_law 382 = .ok (.istore 17, 2) := by decide +kernel
theorem dL_law_384 : decode cL_law 384 = .ok (.iconst 0, 1) := by decide +kernel
theorem dL_law_385 : decode cL_law 385 = .ok (.istore 18, 2) := by decide +kernel
theorem dL_law_387 : decode cL_law 387 = .ok (.iconst 0, 1) := by decide +kernel
theorem dL_law_388 : decode cL_law 388 = .ok (.istore 19, 2) := by decide +kernel
theorem dL_law_390 : decode cL_law 390 = .ok (.iconst 0, 1) := by decide +kernel
theorem dL_law_391 : decode cL_law 391 = .ok (.istore 20, 2) := by decide +kernel
theorem dL_law_393 : decode cL_law 393 = .ok (.iload 20, 2) := by decide +kernel
theorem dL_law_395 : decode cL_law 395 = .ok (.iload 13, 2) := by decide +kernel
theorem dL_law_397 : decode cL_law 397 = .ok (.iload 14, 2) := by decide +kernel
theorem dL_law_399 : decode cL_law 399 = .ok (.imul, 1) := by decide +kernel
theorem dL_law_400 : decode cL_law 400 = .ok (.if_icmp .ge 301, 3) := by decide +kernel
theorem dL_law_403 : decode cL_law 403 = .ok (.iload 12, 2) := by decide +kernel
theorem dL_law_405 : decode cL_law 405 = .ok (.ifCond .eq 296, 3) := by decide +kernel
theorem dL_law_408 : decode cL_law 408 = .ok (.aload_n 2, 1) := by decide +kernel
theorem dL_law_409 : decode cL_law 409 = .ok (.aload_n 3, 1) := by decide +kernel
theorem dL_law_410 : decode cL_law 410 = .ok (.aload 4, 2) := by decide +kernel
theorem dL_law_412 : decode cL_law 412 = .ok (.aload 5, 2) := by decide +kernel
theorem dL_law_414 : decode cL_law 414 = .ok (.aload 6, 2) := by decide +kernel
theorem dL_law_416 : decode cL_law 416 = .ok (.aload 7, 2) := by decide +kernel
theorem dL_law_418 : decode cL_law 418 = .ok (.iload 20, 2) := by decide +kernel
theorem dL_law_420 : decode cL_law 420 = .ok (.iload 13, 2) := by decide +kernel
theorem dL_law_422 : decode cL_law 422 = .ok (.irem, 1) := by decide +kernel
theorem dL_law_423 : decode cL_law 423 = .ok (.iload 20, 2) := by decide +kernel
theorem dL_law_425 : decode cL_law 425 = .ok (.iload 13, 2) := by decide +kernel
theorem dL_law_427 : decode cL_law 427 = .ok (.idiv, 1) := by decide +kernel
theorem dL_law_428 : decode cL_law 428 = .ok (.aload 9, 2) := by decide +kernel
theorem dL_law_430 : decode cL_law 430 = .ok (.invokestatic 92, 3) := by decide +kernel
theorem dL_law_433 : decode cL_law 433 = .ok (.istore 21, 2) := by decide +kernel
theorem dL_law_435 : decode cL_law 435 = .ok (.aload 9, 2) := by decide +kernel
theorem dL_law_437 : decode cL_law 437 = .ok (.aload 8, 2) := by decide +kernel
theorem dL_law_439 : decode cL_law 439 = .ok (.aload 10, 2) := by decide +kernel
theorem dL_law_441 : decode cL_law 441 = .ok (.aload 11, 2) := by decide +kernel
theorem dL_law_443 : decode cL_law 443 = .ok (.invokestatic 96, 3) := by decide +kernel
theorem dL_law_446 : decode cL_law 446 = .ok (.aload_n 1, 1) := by decide +kernel
theorem dL_law_447 : decode cL_law 447 = .ok (.iload 20, 2) := by decide +kernel
theorem dL_law_449 : decode cL_law 449 = .ok (.iload 13, 2) := by decide +kernel
theorem dL_law_451 : decode cL_law 451 = .ok (.irem, 1) := by decide +kernel
theorem dL_law_452 : decode cL_law 452 = .ok (.iload 20, 2) := by decide +kernel
theorem dL_law_454 : decode cL_law 454 = .ok (.iload 13, 2) := by decide +kernel
theorem dL_law_456 : decode cL_law 456 = .ok (.idiv, 1) := by decide +kernel
theorem dL_law_457 : decode cL_law 457 = .ok (.invokevirtual 73, 3) := by decide +kernel
theorem dL_law_460 : decode cL_law 460 = .ok (.iload 21, 2) := by decide +kernel
theorem dL_law_462 : decode cL_law 462 = .ok (.if_icmp .ne 7, 3) := by decide +kernel
theorem dL_law_465 : decode cL_law 465 = .ok (.iconst 1, 1) := by decide +kernel
theorem dL_law_466 : decode cL_law 466 = .ok (.goto 4, 3) := by decide +kernel
theorem dL_law_469 : decode cL_law 469 = .ok (.iconst 0, 1) := by decide +kernel
theorem dL_law_470 : decode cL_law 470 = .ok (.istore 12, 2) := by decide +kernel
theorem dL_law_472 : decode cL_law 472 = .ok (.iconst 0, 1) := by decide +kernel
theorem dL_law_473 : decode cL_law 473 = .ok (.istore 22, 2) := by decide +kernel
theorem dL_law_475 : decode cL_law 475 = .ok (.iconst 0, 1) := by decide +kernel
theorem dL_law_476 : decode cL_law 476 = .ok (.istore 23, 2) := by decide +kernel
theorem dL_law_478 : decode cL_law 478 = .ok (.iconst 0, 1) := by decide +kernel
theorem dL_law_479 : decode cL_law 479 = .ok (.istore 24, 2) := by decide +kernel
theorem dL_law_481 : decode cL_law 481 = .ok (.iload 24, 2) := by decide +kernel
theorem dL_law_483 : decode cL_law 483 = .ok (.bipush 7, 2) := by decide +kernel
theorem dL_law_485 : decode cL_law 485 = .ok (.if_icmp .ge 109, 3) := by decide +kernel
theorem dL_law_488 : decode cL_law 488 = .ok (.iload 12, 2) := by decide +kernel
theorem dL_law_490 : decode cL_law 490 = .ok (.ifCond .eq 104, 3) := by decide +kernel
theorem dL_law_493 : decode cL_law 493 = .ok (.iload 24, 2) := by decide +kernel
theorem dL_law_495 : decode cL_law 495 = .ok (.bipush 6, 2) := by decide +kernel
theorem dL_law_497 : decode cL_law 497 = .ok (.if_icmp .eq 27, 3) := by decide +kernel
theorem dL_law_500 : decode cL_law 500 = .ok (.aload_n 1, 1) := by decide +kernel
theorem dL_law_501 : decode cL_law 501 = .ok (.iload 20, 2) := by decide +kernel
theorem dL_law_503 : decode cL_law 503 = .ok (.iload 13, 2) := by decide +kernel
theorem dL_law_505 : decode cL_law 505 = .ok (.irem, 1) := by decide +kernel
theorem dL_law_506 : decode cL_law 506 = .ok (.iload 20, 2) := by decide +kernel
theorem dL_law_508 : decode cL_law 508 = .ok (.iload 13, 2) := by decide +kernel
theorem dL_law_510 : decode cL_law 510 = .ok (.idiv, 1) := by decide +kernel
theorem dL_law_511 : decode cL_law 511 = .ok (.iload 24, 2) := by decide +kernel
theorem dL_law_513 : decode cL_law 513 = .ok (.invokevirtual 70, 3) := by decide +kernel
theorem dL_law_516 : decode cL_law 516 = .ok (.aload 9, 2) := by decide +kernel
theorem dL_law_518 : decode cL_law 518 = .ok (.iload 24, 2) := by decide +kernel
theorem dL_law_520 : decode cL_law 520 = .ok (.iaload, 1) := by decide +kernel
theorem dL_law_521 : decode cL_law 521 = .ok (.if_icmp .ne 31, 3) := by decide +kernel
theorem dL_law_524 : decode cL_law 524 = .ok (.aload_n 1, 1) := by decide +kernel
theorem dL_law_525 : decode cL_law 525 = .ok (.iload 20, 2) := by decide +kernel
theorem dL_law_527 : decode cL_law 527 = .ok (.iload 13, 2) := by decide +kernel
theorem dL_law_529 : decode cL_law 529 = .ok (.irem, 1) := by decide +kernel
theorem dL_law_530 : decode cL_law 530 = .ok (.iload 20, 2) := by decide +kernel
theorem dL_law_532 : decode cL_law 532 = .ok (.iload 13, 2) := by decide +kernel
theorem dL_law_534 : decode cL_law 534 = .ok (.idiv, 1) := by decide +kernel
theorem dL_law_535 : decode cL_law 535 = .ok (.iload 24, 2) := by decide +kernel
theorem dL_law_537 : decode cL_law 537 = .ok (.invokevirtual 67, 3) := by decide +kernel
theorem dL_law_540 : decode cL_law 540 = .ok (.aload 11, 2) := by decide +kernel
theorem dL_law_542 : decode cL_law 542 = .ok (.iload 24, 2) := by decide +kernel
theorem dL_law_544 : decode cL_law 544 = .ok (.iaload, 1) := by decide +kernel
theorem dL_law_545 : decode cL_law 545 = .ok (.if_icmp .ne 7, 3) := by decide +kernel
theorem dL_law_548 : decode cL_law 548 = .ok (.iconst 1, 1) := by decide +kernel
theorem dL_law_549 : decode cL_law 549 = .ok (.goto 4, 3) := by decide +kernel
theorem dL_law_552 : decode cL_law 552 = .ok (.iconst 0, 1) := by decide +kernel
theorem dL_law_553 : decode cL_law 553 = .ok (.istore 12, 2) := by decide +kernel
theorem dL_law_555 : decode cL_law 555 = .ok (.iload 22, 2) := by decide +kernel
theorem dL_law_557 : decode cL_law 557 = .ok (.aload 11, 2) := by decide +kernel
theorem dL_law_559 : decode cL_law 559 = .ok (.iload 24, 2) := by decide +kernel
theorem dL_law_561 : decode cL_law 561 = .ok (.iaload, 1) := by decide +kernel
theorem dL_law_562 : decode cL_law 562 = .ok (.iadd, 1) := by decide +kernel
theorem dL_law_563 : decode cL_law 563 = .ok (.istore 22, 2) := by decide +kernel
theorem dL_law_565 : decode cL_law 565 = .ok (.iload 23, 2) := by decide +kernel
theorem dL_law_567 : decode cL_law 567 = .ok (.aload 10, 2) := by decide +kernel
theorem dL_law_569 : decode cL_law 569 = .ok (.iload 24, 2) := by decide +kernel
theorem dL_law_571 : decode cL_law 571 = .ok (.iaload, 1) := by decide +kernel
theorem dL_law_572 : decode cL_law 572 = .ok (.iadd, 1) := by decide +kernel
theorem dL_law_573 : decode cL_law 573 = .ok (.istore 23, 2) := by decide +kernel
theorem dL_law_575 : decode cL_law 575 = .ok (.aload 16, 2) := by decide +kernel
theorem dL_law_577 : decode cL_law 577 = .ok (.iload 24, 2) := by decide +kernel
theorem dL_law_579 : decode cL_law 579 = .ok (.dup2, 1) := by decide +kernel
theorem dL_law_580 : decode cL_law 580 = .ok (.iaload, 1) := by decide +kernel
theorem dL_law_581 : decode cL_law 581 = .ok (.aload 11, 2) := by decide +kernel
theorem dL_law_583 : decode cL_law 583 = .ok (.iload 24, 2) := by decide +kernel
theorem dL_law_585 : decode cL_law 585 = .ok (.iaload, 1) := by decide +kernel
theorem dL_law_586 : decode cL_law 586 = .ok (.iadd, 1) := by decide +kernel
theorem dL_law_587 : decode cL_law 587 = .ok (.iastore, 1) := by decide +kernel
theorem dL_law_588 : decode cL_law 588 = .ok (.iinc 24 1, 3) := by decide +kernel
theorem dL_law_591 : decode cL_law 591 = .ok (.goto (-110), 3) := by decide +kernel
theorem dL_law_594 : decode cL_law 594 = .ok (.aload 16, 2) := by decide +kernel
theorem dL_law_596 : decode cL_law 596 = .ok (.bipush 7, 2) := by decide +kernel
theorem dL_law_598 : decode cL_law 598 = .ok (.dup2, 1) := by decide +kernel
theorem dL_law_599 : decode cL_law 599 = .ok (.iaload, 1) := by decide +kernel
theorem dL_law_600 : decode cL_law 600 = .ok (.iload 22, 2) := by decide +kernel
theorem dL_law_602 : decode cL_law 602 = .ok (.iadd, 1) := by decide +kernel
theorem dL_law_603 : decode cL_law 603 = .ok (.iastore, 1) := by decide +kernel
theorem dL_law_604 : decode cL_law 604 = .ok (.iload 22, 2) := by decide +kernel
theorem dL_law_606 : decode cL_law 606 = .ok (.iload 17, 2) := by decide +kernel
theorem dL_law_608 : decode cL_law 608 = .ok (.if_icmp .le 8, 3) := by decide +kernel
theorem dL_law_611 : decode cL_law 611 = .ok (.iload 22, 2) := by decide +kernel
theorem dL_law_613 : decode cL_law 613 = .ok (.goto 5, 3) := by decide +kernel
theorem dL_law_616 : decode cL_law 616 = .ok (.iload 17, 2) := by decide +kernel
theorem dL_law_618 : decode cL_law 618 = .ok (.istore 17, 2) := by decide +kernel
theorem dL_law_620 : decode cL_law 620 = .ok (.iload 23, 2) := by decide +kernel
theorem dL_law_622 : decode cL_law 622 = .ok (.iload 18, 2) := by decide +kernel
theorem dL_law_624 : decode cL_law 624 = .ok (.if_icmp .le 8, 3) := by decide +kernel
theorem dL_law_627 : decode cL_law 627 = .ok (.iload 23, 2) := by decide +kernel
theorem dL_law_629 : decode cL_law 629 = .ok (.goto 5, 3) := by decide +kernel
theorem dL_law_632 : decode cL_law 632 = .ok (.iload 18, 2) := by decide +kernel
theorem dL_law_634 : decode cL_law 634 = .ok (.istore 18, 2) := by decide +kernel
theorem dL_law_636 : decode cL_law 636 = .ok (.iload 19, 2) := by decide +kernel
theorem dL_law_638 : decode cL_law 638 = .ok (.iload 22, 2) := by decide +kernel
theorem dL_law_640 : decode cL_law 640 = .ok (.iload 23, 2) := by decide +kernel
theorem dL_law_642 : decode cL_law 642 = .ok (.if_icmp .ge 7, 3) := by decide +kernel
theorem dL_law_645 : decode cL_law 645 = .ok (.iconst 1, 1) := by decide +kernel
theorem dL_law_646 : decode cL_law 646 = .ok (.goto 4, 3) := by decide +kernel
theorem dL_law_649 : decode cL_law 649 = .ok (.iconst 0, 1) := by decide +kernel
theorem dL_law_650 : decode cL_law 650 = .ok (.iadd, 1) := by decide +kernel
theorem dL_law_651 : decode cL_law 651 = .ok (.istore 19, 2) := by decide +kernel
theorem dL_law_653 : decode cL_law 653 = .ok (.iload 12, 2) := by decide +kernel
theorem dL_law_655 : decode cL_law 655 = .ok (.ifCond .eq 37, 3) := by decide +kernel
theorem dL_law_658 : decode cL_law 658 = .ok (.aload_n 1, 1) := by decide +kernel
theorem dL_law_659 : decode cL_law 659 = .ok (.iload 20, 2) := by decide +kernel
theorem dL_law_661 : decode cL_law 661 = .ok (.iload 13, 2) := by decide +kernel
theorem dL_law_663 : decode cL_law 663 = .ok (.irem, 1) := by decide +kernel
theorem dL_law_664 : decode cL_law 664 = .ok (.iload 20, 2) := by decide +kernel
theorem dL_law_666 : decode cL_law 666 = .ok (.iload 13, 2) := by decide +kernel
theorem dL_law_668 : decode cL_law 668 = .ok (.idiv, 1) := by decide +kernel
theorem dL_law_669 : decode cL_law 669 = .ok (.bipush 7, 2) := by decide +kernel
theorem dL_law_671 : decode cL_law 671 = .ok (.invokevirtual 67, 3) := by decide +kernel
theorem dL_law_674 : decode cL_law 674 = .ok (.iload 22, 2) := by decide +kernel
theorem dL_law_676 : decode cL_law 676 = .ok (.if_icmp .ne 16, 3) := by decide +kernel
theorem dL_law_679 : decode cL_law 679 = .ok (.iload 22, 2) := by decide +kernel
theorem dL_law_681 : decode cL_law 681 = .ok (.aload 8, 2) := by decide +kernel
theorem dL_law_683 : decode cL_law 683 = .ok (.iconst 2, 1) := by decide +kernel
theorem dL_law_684 : decode cL_law 684 = .ok (.iaload, 1) := by decide +kernel
theorem dL_law_685 : decode cL_law 685 = .ok (.if_icmp .gt 7, 3) := by decide +kernel
theorem dL_law_688 : decode cL_law 688 = .ok (.iconst 1, 1) := by decide +kernel
theorem dL_law_689 : decode cL_law 689 = .ok (.goto 4, 3) := by decide +kernel
theorem dL_law_692 : decode cL_law 692 = .ok (.iconst 0, 1) := by decide +kernel
theorem dL_law_693 : decode cL_law 693 = .ok (.istore 12, 2) := by decide +kernel
theorem dL_law_695 : decode cL_law 695 = .ok (.iinc 20 1, 3) := by decide +kernel
theorem dL_law_698 : decode cL_law 698 = .ok (.goto (-305), 3) := by decide +kernel
theorem dL_law_701 : decode cL_law 701 = .ok (.iconst 0, 1) := by decide +kernel
theorem dL_law_702 : decode cL_law 702 = .ok (.istore 20, 2) := by decide +kernel
theorem dL_law_704 : decode cL_law 704 = .ok (.iload 20, 2) := by decide +kernel
theorem dL_law_706 : decode cL_law 706 = .ok (.bipush 8, 2) := by decide +kernel
theorem dL_law_708 : decode cL_law 708 = .ok (.if_icmp .ge 35, 3) := by decide +kernel
theorem dL_law_711 : decode cL_law 711 = .ok (.iload 12, 2) := by decide +kernel
theorem dL_law_713 : decode cL_law 713 = .ok (.ifCond .eq 21, 3) := by decide +kernel
theorem dL_law_716 : decode cL_law 716 = .ok (.aload_n 1, 1) := by decide +kernel
theorem dL_law_717 : decode cL_law 717 = .ok (.iload 20, 2) := by decide +kernel
theorem dL_law_719 : decode cL_law 719 = .ok (.invokevirtual 100, 3) := by decide +kernel
theorem dL_law_722 : decode cL_law 722 = .ok (.aload 16, 2) := by decide +kernel
theorem dL_law_724 : decode cL_law 724 = .ok (.iload 20, 2) := by decide +kernel
theorem dL_law_726 : decode cL_law 726 = .ok (.iaload, 1) := by decide +kernel
theorem dL_law_727 : decode cL_law 727 = .ok (.if_icmp .ne 7, 3) := by decide +kernel
theorem dL_law_730 : decode cL_law 730 = .ok (.iconst 1, 1) := by decide +kernel
theorem dL_law_731 : decode cL_law 731 = .ok (.goto 4, 3) := by decide +kernel
theorem dL_law_734 : decode cL_law 734 = .ok (.iconst 0, 1) := by decide +kernel
theorem dL_law_735 : decode cL_law 735 = .ok (.istore 12, 2) := by decide +kernel
theorem dL_law_737 : decode cL_law 737 = .ok (.iinc 20 1, 3) := by decide +kernel
theorem dL_law_740 : decode cL_law 740 = .ok (.goto (-36), 3) := by decide +kernel
theorem dL_law_743 : decode cL_law 743 = .ok (.iload 12, 2) := by decide +kernel
theorem dL_law_745 : decode cL_law 745 = .ok (.ifCond .eq 97, 3) := by decide +kernel
theorem dL_law_748 : decode cL_law 748 = .ok (.aload_n 1, 1) := by decide +kernel
theorem dL_law_749 : decode cL_law 749 = .ok (.invokevirtual 103, 3) := by decide +kernel
theorem dL_law_752 : decode cL_law 752 = .ok (.iload 17, 2) := by decide +kernel
theorem dL_law_754 : decode cL_law 754 = .ok (.if_icmp .ne 88, 3) := by decide +kernel
theorem dL_law_757 : decode cL_law 757 = .ok (.aload_n 1, 1) := by decide +kernel
theorem dL_law_758 : decode cL_law 758 = .ok (.invokevirtual 107, 3) := by decide +kernel
theorem dL_law_761 : decode cL_law 761 = .ok (.iload 18, 2) := by decide +kernel
theorem dL_law_763 : decode cL_law 763 = .ok (.if_icmp .ne 79, 3) := by decide +kernel
theorem dL_law_766 : decode cL_law 766 = .ok (.aload_n 1, 1) := by decide +kernel
theorem dL_law_767 : decode cL_law 767 = .ok (.invokevirtual 110, 3) := by decide +kernel
theorem dL_law_770 : decode cL_law 770 = .ok (.iload 19, 2) := by decide +kernel
theorem dL_law_772 : decode cL_law 772 = .ok (.if_icmp .ne 70, 3) := by decide +kernel
theorem dL_law_775 : decode cL_law 775 = .ok (.aload_n 1, 1) := by decide +kernel
theorem dL_law_776 : decode cL_law 776 = .ok (.invokevirtual 113, 3) := by decide +kernel
theorem dL_law_779 : decode cL_law 779 = .ok (.ifCond .ne 63, 3) := by decide +kernel
theorem dL_law_782 : decode cL_law 782 = .ok (.aload_n 1, 1) := by decide +kernel
theorem dL_law_783 : decode cL_law 783 = .ok (.iload 13, 2) := by decide +kernel
theorem dL_law_785 : decode cL_law 785 = .ok (.iconst 0, 1) := by decide +kernel
theorem dL_law_786 : decode cL_law 786 = .ok (.iconst 0, 1) := by decide +kernel
theorem dL_law_787 : decode cL_law 787 = .ok (.invokevirtual 70, 3) := by decide +kernel
theorem dL_law_790 : decode cL_law 790 = .ok (.iconst (-1), 1) := by decide +kernel
theorem dL_law_791 : decode cL_law 791 = .ok (.if_icmp .ne 51, 3) := by decide +kernel
theorem dL_law_794 : decode cL_law 794 = .ok (.aload_n 1, 1) := by decide +kernel
theorem dL_law_795 : decode cL_law 795 = .ok (.iconst 0, 1) := by decide +kernel
theorem dL_law_796 : decode cL_law 796 = .ok (.iload 14, 2) := by decide +kernel
theorem dL_law_798 : decode cL_law 798 = .ok (.iconst 0, 1) := by decide +kernel
theorem dL_law_799 : decode cL_law 799 = .ok (.invokevirtual 67, 3) := by decide +kernel
theorem dL_law_802 : decode cL_law 802 = .ok (.iconst (-1), 1) := by decide +kernel
theorem dL_law_803 : decode cL_law 803 = .ok (.if_icmp .ne 39, 3) := by decide +kernel
theorem dL_law_806 : decode cL_law 806 = .ok (.aload_n 1, 1) := by decide +kernel
theorem dL_law_807 : decode cL_law 807 = .ok (.iconst (-1), 1) := by decide +kernel
theorem dL_law_808 : decode cL_law 808 = .ok (.iconst 0, 1) := by decide +kernel
theorem dL_law_809 : decode cL_law 809 = .ok (.invokevirtual 73, 3) := by decide +kernel
theorem dL_law_812 : decode cL_law 812 = .ok (.iconst (-1), 1) := by decide +kernel
theorem dL_law_813 : decode cL_law 813 = .ok (.if_icmp .ne 29, 3) := by decide +kernel
theorem dL_law_816 : decode cL_law 816 = .ok (.aload_n 1, 1) := by decide +kernel
theorem dL_law_817 : decode cL_law 817 = .ok (.bipush 8, 2) := by decide +kernel
theorem dL_law_819 : decode cL_law 819 = .ok (.invokevirtual 100, 3) := by decide +kernel
theorem dL_law_822 : decode cL_law 822 = .ok (.iconst (-1), 1) := by decide +kernel
theorem dL_law_823 : decode cL_law 823 = .ok (.if_icmp .ne 19, 3) := by decide +kernel
theorem dL_law_826 : decode cL_law 826 = .ok (.aload_n 1, 1) := by decide +kernel
theorem dL_law_827 : decode cL_law 827 = .ok (.iconst 0, 1) := by decide +kernel
theorem dL_law_828 : decode cL_law 828 = .ok (.iconst 0, 1) := by decide +kernel
theorem dL_law_829 : decode cL_law 829 = .ok (.bipush 6, 2) := by decide +kernel
theorem dL_law_831 : decode cL_law 831 = .ok (.invokevirtual 70, 3) := by decide +kernel
theorem dL_law_834 : decode cL_law 834 = .ok (.iconst (-1), 1) := by decide +kernel
theorem dL_law_835 : decode cL_law 835 = .ok (.if_icmp .ne 7, 3) := by decide +kernel
theorem dL_law_838 : decode cL_law 838 = .ok (.iconst 1, 1) := by decide +kernel
theorem dL_law_839 : decode cL_law 839 = .ok (.goto 4, 3) := by decide +kernel
theorem dL_law_842 : decode cL_law 842 = .ok (.iconst 0, 1) := by decide +kernel
theorem dL_law_843 : decode cL_law 843 = .ok (.ireturn, 1) := by decide +kernel
abbrev vwCl : List vw_C := [(RX0, TX0, 3), (RX1, TX1, 2), (RX2, TX2, 18), (RX3, TX3, 3), (RX4, TX4, 8), (RX5, TX5, 4), (RX6, TX6, 8)]
end
section
/-! THE SMALL MACHINE: values are whole numbers and references (0: null, k+1: the cell k), the memory is two tables of numbers and of references by address and place, and the kinds of the addresses. zW: the machine at a place of a method, its memory seen so. -/
/-- the tables' words that stay true -/
def zT : List Cond := lw_tbl.filter goodWord
theorem zT_mem {w : Cond} (i : Nat) (h : lw_tbl[i]? = some w) (g : goodWord w = true) : w ∈ zT := List.mem_filter.mpr ⟨List.mem_of_getElem? h, g⟩
theorem zT_0 {w : Cond} (i : Nat) (h : (k2_sels lw_privs)[i]? = some w) (g : goodWord w = true) : w ∈ zT := List.mem_filter.mpr ⟨List.mem_append_left _ (List.mem_of_getElem? h), g⟩
theorem zT_1 {w : Cond} (i : Nat) (h : tables_1_1[i]? = some w) (g : goodWord w = true) : w ∈ zT := List.mem_filter.mpr ⟨List.mem_append_right _ (List.mem_append_left _ (List.mem_of_getElem? h)), g⟩
theorem zT_2 {w : Cond} (i : Nat) (h : tables_1_2[i]? = some w) (g : goodWord w = true) : w ∈ zT := List.mem_filter.mpr ⟨List.mem_append_right _ (List.mem_append_right _ (List.mem_append_left _ (List.mem_of_getElem? h))), g⟩
theorem zT_3 {w : Cond} (i : Nat) (h : tables_1_3[i]? = some w) (g : goodWord w = true) : w ∈ zT := List.mem_filter.mpr ⟨List.mem_append_right _ (List.mem_append_right _ (List.mem_append_right _ (List.mem_of_getElem? h))), g⟩
theorem zT_in {w : Cond} (h : w ∈ zT) : w ∈ lw_tbl := (List.mem_filter.mp h).1
theorem z_good : ∀ w ∈ zT, goodWord w = true := fun _ h => (List.mem_filter.mp h).2
abbrev Zv : Type := Int ⊕ (Nat ⊕ Int)
abbrev Zm : Type := ((Nat → Nat × Nat) × Nat) × ((Nat → Int → Int) × (Nat → Int → Nat))
abbrev Zd : Type := va_G × (Nat → ClassId)
abbrev InR (x : Int) : Prop := -2147483648 ≤ x ∧ x ≤ 2147483647
def zrf (a : Nat) : Value := match a with
  | 0 => .null
  | k + 1 => .ref k
def zen (v : Zv) : Value := match v with
  | .inl x => .int (Int32.ofInt x)
  | .inr (.inl a) => zrf a
  | .inr (.inr x) => .long (Int64.ofInt x)
def zkd (h : Zm) (a : Nat) : Nat × Nat := h.1.1 a
def zI (h : Zm) (a : Nat) (j : Int) : Int := h.2.1 a j
def zR (h : Zm) (a : Nat) (j : Int) : Nat := h.2.2 a j
def zsI (h : Zm) (a : Nat) (j v : Int) : Zm := (h.1, (fun b k => if b = a ∧ k = j then v else h.2.1 b k), h.2.2)
def zsR (h : Zm) (a : Nat) (j : Int) (v : Nat) : Zm := (h.1, h.2.1, (fun b k => if b = a ∧ k = j then v else h.2.2 b k))
/-- a new cell of kind t with n places at the next address: all 0 -/
def zal (h : Zm) (t n : Nat) : Zm := (((fun b => if b = h.1.2 then (t, n) else h.1.1 b), h.1.2 + 1), (fun b k => if b = h.1.2 then 0 else h.2.1 b k), (fun b k => if b = h.1.2 then 0 else h.2.2 b k))
def zty (c : Nat) : Nat → FieldType := match c with
  | 0 => tyX0
  | 1 => tyX1
  | 2 => tyX2
  | 3 => tyX3
  | 4 => tyX4
  | 5 => tyX5
  | 6 => tyX6
  | _ => tyX7
def zN (c : Nat) : Nat := match c with
  | 0 => 3
  | 1 => 2
  | 2 => 18
  | 3 => 3
  | 4 => 8
  | 5 => 4
  | 6 => 8
  | _ => 0
def zaty (t : Nat) : FieldType := match t with
  | 1 => .int
  | 2 => .int
  | 4 => .object RX0
  | 5 => .object RX2
  | 6 => .object RX4
  | _ => .array .int
def zF (c k : Nat) (i : Int) (r : Nat) : Value := if (zty c k).isReference = true then zrf r else .int (Int32.ofInt i)
def zCl (D : Zd) (s : State) (c : Nat) : Prop := ∀ q : vw_C, vwCl[c]? = some q → u_Kn s q.1 q.2.1 q.2.2 (D.1.1 c) (D.1.2 c)
def zKn (D : Zd) (s : State) : Prop := (∀ c : Nat, zCl D s c) ∧ ∀ t : Nat, 1 ≤ t → t ≤ 7 → ArrOfT s (D.2 t) (zaty t) ∧ va_RA s (D.2 t) (zaty t)
/-- the links from one class to another's private methods -/
def zNl : List (String × Nat × MethodName × String) := [(RX5, 42, yX6_within, "SeparationDesk"), (RX2, 73, yX6_within, "SeparationDesk"), (RX3, 88, yX6_within, "SeparationDesk"), (RX3, 134, yX6_sumOf, "SeparationDesk")]
theorem z_aoa {u U : State} (hvm : u.vm.Alike U.vm) (h : (Cond.arrayOver (.array .int)).before #[] u = true) : (Cond.arrayOver (.array .int)).before #[] U = true := by
  have e : (Cond.arrayOver (.array .int)).before #[] U = (Cond.arrayOver (.array .int)).before #[] (u.setVm U.vm) := rfl
  rw [e, Cond.arrayOver_setVmC (args := #[]) (s := u) hvm (.array .int)]
  exact h
def zAoc : List String := [RX0, RX2, RX4]
/-- links from one class to another's private methods, and what the tables say of arrays over our classes -/
def zNs (s : State) : Prop := (∀ q ∈ zNl, va_Nw (.methodLinkNest q.1 q.2.1 q.2.2.1 q.2.2.2) s) ∧ (∀ C ∈ zAoc, va_AO C s) ∧ (Cond.arrayOver (.array .int)).before #[] s = true
theorem zNs.warm {s U : State} (hW : s.WarmedH U.vm) (h : zNs s) : zNs U := ⟨fun q hq => va_Nw.warmM hW (h.1 q hq), fun C hC => va_AO.moved hW.alike (h.2.1 C hC), z_aoa hW.alike h.2.2⟩
theorem zNs.same {s U : State} (hW : s.vm = U.vm) (h : zNs s) : zNs U := ⟨fun q hq => va_Nw.same rfl hW (h.1 q hq), fun C hC => va_AO.moved (by rw [hW]; exact Vm.Alike.refl _) (h.2.1 C hC), z_aoa (by rw [hW]; exact Vm.Alike.refl _) h.2.2⟩
theorem zNl_in : ∀ q ∈ zNl, Cond.methodLinkNest q.1 q.2.1 q.2.2.1 q.2.2.2 ∈ lw_tbl := by
  have h : zNl.map (fun q => Cond.methodLinkNest q.1 q.2.1 q.2.2.1 q.2.2.2) = [329, 334, 354, 390].filterMap (fun i => lw_tbl[i]?) := by decide +kernel
  intro q hq
  have h2 := List.mem_map_of_mem (f := fun q : String × Nat × MethodName × String => Cond.methodLinkNest q.1 q.2.1 q.2.2.1 q.2.2.2) hq
  rw [h] at h2
  obtain ⟨i, -, hi⟩ := List.mem_filterMap.mp h2
  exact List.mem_of_getElem? hi
theorem zKn.moved {D : Zd} {u U : State} (hvm : u.vm.Alike U.vm) (h : zKn D u) : zKn D U := ⟨fun c q hq => u_Kn_moved hvm (h.1 c q hq), fun t h1 h2 => ⟨arrOfT_moved hvm (h.2 t h1 h2).1, (h.2 t h1 h2).2.moved hvm⟩⟩
/-- what the cell behind an address is, by its kind: 1, 2 an array of ints, of booleans; 4 to 7 one of references; 10 + c an object of class c -/
def zAt (D : Zd) (h : Zm) (a : Nat) (H : Heap) : Prop :=
  (((zkd h a).1 = 1 ∨ (zkd h a).1 = 2) → H[a - 1]? = some (arrV (D.2 (zkd h a).1) (zkd h a).2 (fun j => .int (Int32.ofInt (zI h a j)))) ∧ (zkd h a).2 < 2147483648) ∧
  ((4 ≤ (zkd h a).1 ∧ (zkd h a).1 ≤ 7) → H[a - 1]? = some (arrV (D.2 (zkd h a).1) (zkd h a).2 (fun j => zrf (zR h a j))) ∧ (zkd h a).2 < 2147483648) ∧
  (10 ≤ (zkd h a).1 → (zkd h a).1 < 18 ∧ t_OB (a - 1) (D.1.1 ((zkd h a).1 - 10)) (zN ((zkd h a).1 - 10)) (D.1.2 ((zkd h a).1 - 10)) H (fun k => zF ((zkd h a).1 - 10) k (zI h a k) (zR h a k)))
def zRep (D : Zd) (base : Nat) (h : Zm) (H : Heap) : Prop :=
  (H.size + 1 = h.1.2 ∧ base ≤ h.1.2) ∧ (∀ a, (zkd h a).1 ≠ 0 → 1 ≤ a ∧ base ≤ a ∧ a < h.1.2) ∧ (∀ a j, InR (zI h a j)) ∧ ∀ a, zAt D h a H
theorem zAt.kept {D : Zd} {h h' : Zm} {a : Nat} {H H' : Heap} (x : zAt D h a H) (hk : zkd h' a = zkd h a) (hi : ∀ j, zI h' a j = zI h a j) (hr : ∀ j, zR h' a j = zR h a j) (hH : H'[a - 1]? = H[a - 1]?) : zAt D h' a H' := by
  obtain ⟨x1, x2, x3⟩ := x
  unfold zAt
  rw [hk, hH]
  simp only [hi, hr]
  exact ⟨x1, x2, fun q => ⟨(x3 q).1, (x3 q).2.kept hH⟩⟩
/-- how many places a value takes -/
def zc (v : Zv) : Nat := match v with
  | .inr (.inr _) => 2
  | _ => 1
def zlen (st : List Zv) : Nat := (st.map zc).sum
theorem zen_cat (v : Zv) : (zen v).category = zc v := by
  match v with
  | .inl x => rfl
  | .inr (.inl a) => cases a <;> rfl
  | .inr (.inr x) => rfl
def zpv (ρ : List (Option Zv)) (i : Nat) : Bool := match i with
  | 0 => true
  | k + 1 => match ρ[k]? with
    | some (some w) => zc w == 1
    | _ => true
/-- the locals, by their places -/
def zL (ls : Array Slot) (nL : Nat) (ρ : List (Option Zv)) : Prop := ls.size = nL ∧ lv_wf ls ∧ ∀ (i : Nat) (v : Zv), ρ[i]? = some (some v) → ls[i]? = some (.val (zen v))
def zl (ρ : List (Option Zv)) : List (Nat × Value) := (List.range ρ.length).filterMap fun i => (ρ.getD i none).map fun v => (i, zen v)
theorem zl_mem {ρ : List (Option Zv)} {q : Nat × Value} : q ∈ zl ρ ↔ ∃ v : Zv, ρ[q.1]? = some (some v) ∧ q.2 = zen v := by
  unfold zl
  rw [List.mem_filterMap]
  constructor
  · rintro ⟨i, hi, e⟩
    rw [List.mem_range] at hi
    rw [Option.map_eq_some_iff] at e
    obtain ⟨v, e1, e2⟩ := e
    subst e2
    refine ⟨v, ?_, rfl⟩
    simp only [List.getD_eq_getElem?_getD] at e1
    cases hq : ρ[i]? with
    | none => rw [hq] at e1; cases e1
    | some w => rw [hq] at e1; simp at e1; rw [e1]
  · rintro ⟨v, e1, e2⟩
    have hi : q.1 < ρ.length := (List.getElem?_eq_some_iff.mp e1).1
    refine ⟨q.1, List.mem_range.mpr hi, ?_⟩
    simp only [List.getD_eq_getElem?_getD, e1, Option.getD_some, Option.map_some]
    rw [← e2]
theorem zL.has {ls : Array Slot} {nL : Nat} {ρ : List (Option Zv)} (h : zL ls nL ρ) : lv_has ls nL (zl ρ) := ⟨h.1, h.2.1, fun q hq => by
  obtain ⟨v, e1, e2⟩ := zl_mem.mp hq
  rw [e2]
  exact h.2.2 q.1 v e1⟩
theorem zpv_at {ρ : List (Option Zv)} {i j : Nat} {w : Zv} (hp : zpv ρ i = true) (hj : ρ[j]? = some (some w)) : j + 1 = i → ¬ zc w = 2 := fun q => by
  subst q
  have h9 : zpv ρ (j + 1) = true := hp
  unfold zpv at h9
  simp only [hj] at h9
  have := beq_iff_eq.mp h9
  omega
theorem zL.stored {ls' : Array Slot} {nL i : Nat} {v : Zv} {ρ : List (Option Zv)} (hp : zpv ρ i = true) (h : lv_has ls' nL ((i, zen v) :: (zl ρ).filter (fun q => !(q.1 == i) && !(q.1 + 1 == i && q.2.category == 2)))) : zL ls' nL (ρ.set i (some v)) := by
  refine ⟨h.1, h.2.1, fun j w hj => ?_⟩
  by_cases e : j = i
  · subst e
    have hl : j < ρ.length := by
      have := (List.getElem?_eq_some_iff.mp hj).1
      simpa using this
    rw [List.getElem?_set_self hl] at hj
    cases hj
    exact h.2.2 (j, zen v) List.mem_cons_self
  · rw [List.getElem?_set_ne (fun q => e q.symm)] at hj
    refine h.2.2 (j, zen w) (List.mem_cons_of_mem _ (List.mem_filter.mpr ⟨zl_mem.mpr ⟨w, hj, rfl⟩, ?_⟩))
    have hc := zen_cat w
    have hz := zpv_at hp hj
    simp [e, hc]
    by_cases z : j + 1 = i
    · exact Or.inr (hz z)
    · exact Or.inl z
theorem zL.storedL {ls' : Array Slot} {nL i : Nat} {v : Zv} {ρ : List (Option Zv)} (hp : zpv ρ i = true) (h : lv_has ls' nL ((i, zen v) :: (zl ρ).filter (fun q => !(q.1 == i) && (!(q.1 == i + 1) && !(q.1 + 1 == i && q.2.category == 2))))) : zL ls' nL ((ρ.set i (some v)).set (i + 1) none) := by
  refine ⟨h.1, h.2.1, fun j w hj => ?_⟩
  by_cases e1 : j = i + 1
  · subst e1
    have hl : i + 1 < ρ.length := by
      have := (List.getElem?_eq_some_iff.mp hj).1
      simpa using this
    rw [List.getElem?_set_self (by simpa using hl)] at hj
    cases hj
  rw [List.getElem?_set_ne (fun q => e1 q.symm)] at hj
  by_cases e : j = i
  · subst e
    have hl : j < ρ.length := by
      have := (List.getElem?_eq_some_iff.mp hj).1
      simpa using this
    rw [List.getElem?_set_self hl] at hj
    cases hj
    exact h.2.2 (j, zen v) List.mem_cons_self
  · rw [List.getElem?_set_ne (fun q => e q.symm)] at hj
    refine h.2.2 (j, zen w) (List.mem_cons_of_mem _ (List.mem_filter.mpr ⟨zl_mem.mpr ⟨w, hj, rfl⟩, ?_⟩))
    have hc := zen_cat w
    have hz := zpv_at hp hj
    simp [e, e1, hc]
    by_cases z : j + 1 = i
    · exact Or.inr (hz z)
    · exact Or.inl z
def zmask : List Bool → List (Option Zv) → List (Option Zv)
  | b :: bs, x :: xs => (if b = true then x else none) :: zmask bs xs
  | _, _ => []
theorem zL.mask {ls : Array Slot} {nL : Nat} : ∀ {ρ : List (Option Zv)} (bs : List Bool) {k : Nat}, (∀ (i : Nat) (v : Zv), ρ[i]? = some (some v) → ls[k + i]? = some (.val (zen v))) → ∀ (i : Nat) (v : Zv), (zmask bs ρ)[i]? = some (some v) → ls[k + i]? = some (.val (zen v))
  | [], bs, k, _ => by
    intro i v hi
    cases bs <;> simp [zmask] at hi
  | x :: xs, [], k, _ => by
    intro i v hi
    simp [zmask] at hi
  | x :: xs, b :: bs, k, h => by
    intro i v hi
    cases i with
    | zero =>
      simp only [zmask, List.getElem?_cons_zero, Option.some.injEq] at hi
      by_cases hb : b = true
      · rw [if_pos hb] at hi
        exact h 0 v (by simp [hi])
      · rw [if_neg hb] at hi
        cases hi
    | succ j =>
      have := zL.mask (ls := ls) (nL := nL) (ρ := xs) bs (k := k + 1) (fun i v hv => by
        have := h (i + 1) v (by simpa using hv)
        rw [show k + 1 + i = k + (i + 1) by omega]
        exact this) j v (by simpa [zmask] using hi)
      rw [show k + (j + 1) = k + 1 + j by omega]
      exact this
section ZW
variable {p : Program} {l : Launch} {e : Env} {R : Room} {s : State} {m : MethodId} {args : Array Value} {below : List Frame} {meth : Method} {c : Code} {D : Zd} {base nL : Nat} {Qf : State → Prop} {cells slots pc pc' : Nat} {ρ : List (Option Zv)} {st : List Zv} {h : Zm} {cc : ByteArray} {own : String} {ret : Option FieldType}
/-- the machine at place pc of a method, with locals ρ, stack st and memory h, comes to an end with Qf -/
def zW (p : Program) (l : Launch) (e : Env) (R : Room) (s : State) (m : MethodId) (args : Array Value) (below : List Frame) (meth : Method) (c : Code) (D : Zd) (base nL : Nat) (Qf : State → Prop) (cells slots pc : Nat) (ρ : List (Option Zv)) (st : List Zv) (h : Zm) : Prop :=
  ∀ (H : Heap) (locs : List Loc) (ls : Array Slot), zRep D base h H → (∀ q : Nat, q + 1 < base → H[q]? = s.heap[q]?) → (∀ q ∈ locs, base ≤ q.base + 1) → zL ls nL ρ → W p l e R s m args below meth c H locs cells slots Qf (F0 m pc ls (st.map zen))
/-- what stays true of a method's run -/
def zOk (p : Program) (s : State) (m : MethodId) (args : Array Value) (meth : Method) (c : Code) (D : Zd) (cc : ByteArray) (nL : Nat) (own : String) (ret : Option FieldType) : Prop :=
  p.tables.exec = Jvm.exec ∧ c.code = cc ∧ c.maxLocals = nL ∧ s.vm.findClass own = some m.cls ∧ (∀ w ∈ zT, w.before args s = true) ∧ (meth.locks = false ∧ zNs s) ∧ meth.sig.returnType = ret ∧ zKn D s
theorem z_mask (bs : List Bool) {ρ' : List (Option Zv)} (hρ : zmask bs ρ = ρ') (k : zW p l e R s m args below meth c D base nL Qf cells slots pc ρ' st h) : zW p l e R s m args below meth c D base nL Qf cells slots pc ρ st h := by
  subst hρ
  intro H locs ls h1 h2 h3 h4
  refine k H locs ls h1 h2 h3 ⟨h4.1, h4.2.1, fun i v hi => ?_⟩
  have := zL.mask (ls := ls) (nL := nL) bs (k := 0) (fun i v hv => by rw [Nat.zero_add]; exact h4.2.2 i v hv) i v hi
  rwa [Nat.zero_add] at this
theorem z_cells {cells' slots' : Nat} (h1 : cells = cells') (h2 : slots = slots') (k : zW p l e R s m args below meth c D base nL Qf cells' slots' pc ρ st h) : zW p l e R s m args below meth c D base nL Qf cells slots pc ρ st h := by
  subst h1
  subst h2
  exact k
theorem z_iconst (hc : zOk p s m args meth c D cc nL own ret) {n : Int} (hd : decode cc pc = .ok (.iconst n, 1)) (k : zW p l e R s m args below meth c D base nL Qf cells slots (pc + 1) ρ (.inl n :: st) h) : zW p l e R s m args below meth c D base nL Qf cells slots pc ρ st h :=
  fun H locs ls h1 h2 h3 h4 => lv_iconst hc.1 hc.2.1 hd rfl (k H locs ls h1 h2 h3 h4)
theorem z_bipush (hc : zOk p s m args meth c D cc nL own ret) {n : Int} (hd : decode cc pc = .ok (.bipush n, 2)) (hv : (Int8.ofInt n).toInt32 = Int32.ofInt n) (k : zW p l e R s m args below meth c D base nL Qf cells slots (pc + 2) ρ (.inl n :: st) h) : zW p l e R s m args below meth c D base nL Qf cells slots pc ρ st h :=
  fun H locs ls h1 h2 h3 h4 => lv_bipush hc.1 hc.2.1 hd hv (k H locs ls h1 h2 h3 h4)
theorem z_sipush (hc : zOk p s m args meth c D cc nL own ret) {n : Int} (hd : decode cc pc = .ok (.sipush n, 3)) (hv : (Int16.ofInt n).toInt32 = Int32.ofInt n) (k : zW p l e R s m args below meth c D base nL Qf cells slots (pc + 3) ρ (.inl n :: st) h) : zW p l e R s m args below meth c D base nL Qf cells slots pc ρ st h :=
  fun H locs ls h1 h2 h3 h4 => lv_sipush hc.1 hc.2.1 hd hv (k H locs ls h1 h2 h3 h4)
theorem z_ldc (hc : zOk p s m args meth c D cc nL own ret) {n : Int} {x : Nat} (hd : decode cc pc = .ok (.ldc x, 2)) (hw : Cond.constant own x (Int32.ofInt n) ∈ zT) (k : zW p l e R s m args below meth c D base nL Qf cells slots (pc + 2) ρ (.inl n :: st) h) : zW p l e R s m args below meth c D base nL Qf cells slots pc ρ st h :=
  fun H locs ls h1 h2 h3 h4 => lv_ldc hc.1 hc.2.1 hc.2.2.2.1 (hc.2.2.2.2.1 _ hw) hd (k H locs ls h1 h2 h3 h4)
theorem z_iload_n (hc : zOk p s m args meth c D cc nL own ret) {i : Fin 4} {x : Int} (hd : decode cc pc = .ok (.iload_n i, 1)) (hx : ρ[(i : Nat)]? = some (some (.inl x))) (k : zW p l e R s m args below meth c D base nL Qf cells slots (pc + 1) ρ (.inl x :: st) h) : zW p l e R s m args below meth c D base nL Qf cells slots pc ρ st h :=
  fun H locs ls h1 h2 h3 h4 => lv_iload_n hc.1 hc.2.1 hd rfl (h4.2.2 _ _ hx) (k H locs ls h1 h2 h3 h4)
theorem z_iload (hc : zOk p s m args meth c D cc nL own ret) {i : Nat} {x : Int} (hd : decode cc pc = .ok (.iload i, 2)) (hx : ρ[i]? = some (some (.inl x))) (k : zW p l e R s m args below meth c D base nL Qf cells slots (pc + 2) ρ (.inl x :: st) h) : zW p l e R s m args below meth c D base nL Qf cells slots pc ρ st h :=
  fun H locs ls h1 h2 h3 h4 => lv_iload hc.1 hc.2.1 hd (h4.2.2 _ _ hx) (k H locs ls h1 h2 h3 h4)
theorem z_aload_n (hc : zOk p s m args meth c D cc nL own ret) {i : Fin 4} {x : Nat} (hd : decode cc pc = .ok (.aload_n i, 1)) (hx : ρ[(i : Nat)]? = some (some (.inr (.inl x)))) (k : zW p l e R s m args below meth c D base nL Qf cells slots (pc + 1) ρ (.inr (.inl x) :: st) h) : zW p l e R s m args below meth c D base nL Qf cells slots pc ρ st h := by
  intro H locs ls h1 h2 h3 h4
  have h5 := k H locs ls h1 h2 h3 h4
  have h6 := h4.2.2 _ _ hx
  cases x with
  | zero => exact lv_aload_nN hc.1 hc.2.1 hd rfl h6 h5
  | succ x => exact lv_aload_n hc.1 hc.2.1 hd rfl h6 h5
theorem z_aload (hc : zOk p s m args meth c D cc nL own ret) {i x : Nat} (hd : decode cc pc = .ok (.aload i, 2)) (hx : ρ[i]? = some (some (.inr (.inl x)))) (k : zW p l e R s m args below meth c D base nL Qf cells slots (pc + 2) ρ (.inr (.inl x) :: st) h) : zW p l e R s m args below meth c D base nL Qf cells slots pc ρ st h := by
  intro H locs ls h1 h2 h3 h4
  have h5 := k H locs ls h1 h2 h3 h4
  have h6 := h4.2.2 _ _ hx
  cases x with
  | zero => exact lv_aloadN hc.1 hc.2.1 hd h6 h5
  | succ x => exact lv_aload hc.1 hc.2.1 hd h6 h5
theorem z_istore_n (hc : zOk p s m args meth c D cc nL own ret) {i : Fin 4} {x : Int} (hd : decode cc pc = .ok (.istore_n i, 1)) (hi : (i : Nat) < nL) {ρ' : List (Option Zv)} (hρ : ρ.set (i : Nat) (some (.inl x)) = ρ') (hp : zpv ρ i = true) (k : zW p l e R s m args below meth c D base nL Qf cells slots (pc + 1) ρ' st h) : zW p l e R s m args below meth c D base nL Qf cells slots pc ρ (.inl x :: st) h :=
  fun H locs ls h1 h2 h3 h4 => lv_istore_n hc.1 hc.2.1 hd rfl h4.has hi rfl (fun ls' h' => k H locs ls' h1 h2 h3 (hρ ▸ zL.stored hp (v := .inl x) h'))
theorem z_istore (hc : zOk p s m args meth c D cc nL own ret) {i : Nat} {x : Int} (hd : decode cc pc = .ok (.istore i, 2)) (hi : i < nL) {ρ' : List (Option Zv)} (hρ : ρ.set i (some (.inl x)) = ρ') (hp : zpv ρ i = true) (k : zW p l e R s m args below meth c D base nL Qf cells slots (pc + 2) ρ' st h) : zW p l e R s m args below meth c D base nL Qf cells slots pc ρ (.inl x :: st) h :=
  fun H locs ls h1 h2 h3 h4 => lv_istore hc.1 hc.2.1 hd h4.has hi rfl (fun ls' h' => k H locs ls' h1 h2 h3 (hρ ▸ zL.stored hp (v := .inl x) h'))
theorem z_astore_n (hc : zOk p s m args meth c D cc nL own ret) {i : Fin 4} {x : Nat} (hd : decode cc pc = .ok (.astore_n i, 1)) (hi : (i : Nat) < nL) {ρ' : List (Option Zv)} (hρ : ρ.set (i : Nat) (some (.inr (.inl x))) = ρ') (hp : zpv ρ i = true) (k : zW p l e R s m args below meth c D base nL Qf cells slots (pc + 1) ρ' st h) : zW p l e R s m args below meth c D base nL Qf cells slots pc ρ (.inr (.inl x) :: st) h := by
  intro H locs ls h1 h2 h3 h4
  cases x with
  | zero => exact lv_astore_nN hc.1 hc.2.1 hd rfl h4.has hi rfl (fun ls' h' => k H locs ls' h1 h2 h3 (hρ ▸ zL.stored hp (v := .inr (.inl 0)) h'))
  | succ x => exact lv_astore_n hc.1 hc.2.1 hd rfl h4.has hi rfl (fun ls' h' => k H locs ls' h1 h2 h3 (hρ ▸ zL.stored hp (v := .inr (.inl (x + 1))) h'))
theorem z_astore (hc : zOk p s m args meth c D cc nL own ret) {i x : Nat} (hd : decode cc pc = .ok (.astore i, 2)) (hi : i < nL) {ρ' : List (Option Zv)} (hρ : ρ.set i (some (.inr (.inl x))) = ρ') (hp : zpv ρ i = true) (k : zW p l e R s m args below meth c D base nL Qf cells slots (pc + 2) ρ' st h) : zW p l e R s m args below meth c D base nL Qf cells slots pc ρ (.inr (.inl x) :: st) h := by
  intro H locs ls h1 h2 h3 h4
  cases x with
  | zero => exact lv_astoreN hc.1 hc.2.1 hd h4.has hi rfl (fun ls' h' => k H locs ls' h1 h2 h3 (hρ ▸ zL.stored hp (v := .inr (.inl 0)) h'))
  | succ x => exact lv_astore hc.1 hc.2.1 hd h4.has hi rfl (fun ls' h' => k H locs ls' h1 h2 h3 (hρ ▸ zL.stored hp (v := .inr (.inl (x + 1))) h'))
end ZW
end
section
/-! one row an instruction, over the small machine -/
theorem InR.to {x : Int} (h : InR x) : (Int32.ofInt x).toInt = x := Int32.toInt_ofInt_of_le (by omega) (by omega)
theorem z_eq {a b : Int} (ha : InR a) (hb : InR b) : Int32.ofInt a = Int32.ofInt b ↔ a = b := by
  rw [← Int32.toInt_inj, ha.to, hb.to]
theorem z_lt {a b : Int} (ha : InR a) (hb : InR b) : Int32.ofInt a < Int32.ofInt b ↔ a < b := by
  rw [Int32.lt_iff_toInt_lt, ha.to, hb.to]
theorem z_le {a b : Int} (ha : InR a) (hb : InR b) : Int32.ofInt a ≤ Int32.ofInt b ↔ a ≤ b := by
  rw [Int32.le_iff_toInt_le, ha.to, hb.to]
theorem z_in0 : InR 0 := ⟨by decide, by decide⟩
theorem z_0 : (0 : Int32) = Int32.ofInt 0 := by decide
theorem z_clamp {i : Int} (h0 : 0 ≤ i) (h1 : i < 2147483648) : (Int32.ofInt i).toNatClampNeg = i.toNat := Int32.toNatClampNeg_ofInt_of_le (by omega) (by omega)
theorem z_vpin {i : Int} {n : Nat} (h0 : 0 ≤ i) (h1 : i < (n : Int)) (hn : n < 2147483648) : ¬ (Int32.ofInt i < 0 ∨ n ≤ (Int32.ofInt i).toNatClampNeg) := by
  rw [z_clamp h0 (by omega)]
  rintro (h | h)
  · rw [z_0, z_lt ⟨by omega, by omega⟩ z_in0] at h
    omega
  · omega
def cLt (a b : Int) (A B : Prop) : Prop := (InR a ∧ InR b) ∧ (a < b → A) ∧ (¬ a < b → B)
def cLe (a b : Int) (A B : Prop) : Prop := (InR a ∧ InR b) ∧ (a ≤ b → A) ∧ (¬ a ≤ b → B)
def cEq (a b : Int) (A B : Prop) : Prop := (InR a ∧ InR b) ∧ (a = b → A) ∧ (¬ a = b → B)
def cDiv (a b : Int) (Q : Int → Prop) : Prop := InR a ∧ (0 < b ∧ b ≤ 2147483647) ∧ Q (a.tdiv b)
def cRem (a b : Int) (Q : Int → Prop) : Prop := InR a ∧ (0 < b ∧ b ≤ 2147483647) ∧ Q (a.tmod b)
def cAnd (a n : Int) (Q : Int → Prop) : Prop := InR a ∧ Q (a % n)
def cShr (a n : Int) (Q : Int → Prop) : Prop := InR a ∧ Q (a / n)
def cXor (a b : Int) (Q : Int → Prop) : Prop := (InR a ∧ InR b) ∧ ∀ w : Int, InR w → (w < 0 ↔ ¬ (a < 0 ↔ b < 0)) → Q w
def cLd (h : Zm) (t a : Nat) (i : Int) (Q : Int → Prop) : Prop := ((zkd h a).1 = t ∧ 0 ≤ i ∧ i < ((zkd h a).2 : Int)) ∧ (InR (zI h a i) → Q (zI h a i))
def cSt (h : Zm) (a : Nat) (i v : Int) (Q : Zm → Prop) : Prop := ((zkd h a).1 = 1 ∧ 0 ≤ i ∧ i < ((zkd h a).2 : Int)) ∧ InR v ∧ Q (zsI h a i v)
def cStZ (h : Zm) (a : Nat) (i v : Int) (Q : Zm → Prop) : Prop := ((zkd h a).1 = 2 ∧ 0 ≤ i ∧ i < ((zkd h a).2 : Int)) ∧ (v = 0 ∨ v = 1) ∧ Q (zsI h a i v)
def cLdR (h : Zm) (a : Nat) (i : Int) (Q : Nat → Prop) : Prop := ((4 ≤ (zkd h a).1 ∧ (zkd h a).1 ≤ 7) ∧ 0 ≤ i ∧ i < ((zkd h a).2 : Int)) ∧ Q (zR h a i)
def cStR (h : Zm) (t d a : Nat) (i : Int) (v : Nat) (Q : Zm → Prop) : Prop := ((zkd h a).1 = t ∧ 0 ≤ i ∧ i < ((zkd h a).2 : Int)) ∧ (zkd h v).1 = d ∧ Q (zsR h a i v)
def cLen (h : Zm) (a : Nat) (Q : Int → Prop) : Prop := ((zkd h a).1 = 1 ∨ (zkd h a).1 = 2) ∧ Q ((zkd h a).2 : Int)
def cGi (h : Zm) (d a : Nat) (k : Int) (Q : Int → Prop) : Prop := (zkd h a).1 = d ∧ (InR (zI h a k) → Q (zI h a k))
def cGr (h : Zm) (d a : Nat) (k : Int) (Q : Nat → Prop) : Prop := (zkd h a).1 = d ∧ Q (zR h a k)
def cPi (h : Zm) (d a : Nat) (k v : Int) (Q : Zm → Prop) : Prop := (zkd h a).1 = d ∧ InR v ∧ Q (zsI h a k v)
def cPr (h : Zm) (d a : Nat) (k : Int) (v : Nat) (Q : Zm → Prop) : Prop := (zkd h a).1 = d ∧ Q (zsR h a k v)
def cRc (h : Zm) (d a : Nat) (P : Prop) : Prop := (zkd h a).1 = d ∧ P
def cNw (h : Zm) (t n : Nat) (Q : Nat → Zm → Prop) : Prop := Q h.1.2 (zal h t n)
def cBr (v : Int) (P : Prop) : Prop := (v = 0 ∨ v = 1) ∧ P
section ZO
variable {p : Program} {l : Launch} {e : Env} {R : Room} {s : State} {m : MethodId} {args : Array Value} {below : List Frame} {meth : Method} {c : Code} {D : Zd} {base nL : Nat} {Qf : State → Prop} {cells slots pc : Nat} {ρ : List (Option Zv)} {st : List Zv} {h : Zm} {cc : ByteArray} {own : String} {ret : Option FieldType}
theorem z_iinc (hc : zOk p s m args meth c D cc nL own ret) {i : Nat} {n x : Int} (hd : decode cc pc = .ok (.iinc i n, 3)) (hi : i < nL) (hx : ρ[i]? = some (some (.inl x))) {ρ' : List (Option Zv)} (hρ : ρ.set i (some (.inl (x + n))) = ρ') (hp : zpv ρ i = true) (k : zW p l e R s m args below meth c D base nL Qf cells slots (pc + 3) ρ' st h) : zW p l e R s m args below meth c D base nL Qf cells slots pc ρ st h := by
  intro H locs ls h1 h2 h3 h4
  have hm : (i, zen (.inl x)) ∈ zl ρ := zl_mem.mpr ⟨_, hx, rfl⟩
  obtain ⟨j, hj⟩ := List.getElem?_of_mem hm
  refine lv_iinc (k := j) (x := Int32.ofInt x) (v := Int32.ofInt (x + n)) hc.1 hc.2.1 hd h4.has hj (Int32.ofInt_add x n).symm hi rfl (fun ls' h' => k H locs ls' h1 h2 h3 (hρ ▸ zL.stored hp (v := .inl (x + n)) h'))
theorem z_iadd (hc : zOk p s m args meth c D cc nL own ret) {x y : Int} (hd : decode cc pc = .ok (.iadd, 1)) (k : zW p l e R s m args below meth c D base nL Qf cells slots (pc + 1) ρ (.inl (x + y) :: st) h) : zW p l e R s m args below meth c D base nL Qf cells slots pc ρ (.inl y :: .inl x :: st) h :=
  fun H locs ls h1 h2 h3 h4 => lv_iadd hc.1 hc.2.1 hd (by rw [← Int32.ofInt_add]; exact k H locs ls h1 h2 h3 h4)
theorem z_isub (hc : zOk p s m args meth c D cc nL own ret) {x y : Int} (hd : decode cc pc = .ok (.isub, 1)) (k : zW p l e R s m args below meth c D base nL Qf cells slots (pc + 1) ρ (.inl (x - y) :: st) h) : zW p l e R s m args below meth c D base nL Qf cells slots pc ρ (.inl y :: .inl x :: st) h :=
  fun H locs ls h1 h2 h3 h4 => lv_isub hc.1 hc.2.1 hd (by rw [← Int32.ofInt_sub]; exact k H locs ls h1 h2 h3 h4)
theorem z_imul (hc : zOk p s m args meth c D cc nL own ret) {x y : Int} (hd : decode cc pc = .ok (.imul, 1)) (k : zW p l e R s m args below meth c D base nL Qf cells slots (pc + 1) ρ (.inl (x * y) :: st) h) : zW p l e R s m args below meth c D base nL Qf cells slots pc ρ (.inl y :: .inl x :: st) h :=
  fun H locs ls h1 h2 h3 h4 => lv_imul hc.1 hc.2.1 hd (by rw [← Int32.ofInt_mul]; exact k H locs ls h1 h2 h3 h4)
theorem z_ineg (hc : zOk p s m args meth c D cc nL own ret) {x : Int} (hd : decode cc pc = .ok (.ineg, 1)) (k : zW p l e R s m args below meth c D base nL Qf cells slots (pc + 1) ρ (.inl (-x) :: st) h) : zW p l e R s m args below meth c D base nL Qf cells slots pc ρ (.inl x :: st) h :=
  fun H locs ls h1 h2 h3 h4 => lv_ineg hc.1 hc.2.1 hd (by rw [← Int32.ofInt_neg]; exact k H locs ls h1 h2 h3 h4)
theorem z_pos_ne {y : Int} (h : 0 < y ∧ y ≤ 2147483647) : ¬ Int32.ofInt y = 0 := by
  rw [z_0, z_eq ⟨by omega, by omega⟩ z_in0]
  omega
theorem z_divI {x y : Int} (hx : InR x) (hy : 0 < y ∧ y ≤ 2147483647) : Int32.ofInt x / Int32.ofInt y = Int32.ofInt (x.tdiv y) := by
  have hY : InR y := ⟨by omega, by omega⟩
  have hn : Int32.ofInt y ≠ -1 := by
    intro q
    have := hY.to
    rw [q] at this
    rw [show (-1 : Int32).toInt = -1 from by decide] at this
    omega
  have h1 := Int32.toInt_div_of_ne_right (Int32.ofInt x) (Int32.ofInt y) hn
  rw [hx.to, hY.to] at h1
  rw [← h1, Int32.ofInt_toInt]
theorem z_remI {x y : Int} (hx : InR x) (hy : 0 < y ∧ y ≤ 2147483647) : Int32.ofInt x - Int32.ofInt x / Int32.ofInt y * Int32.ofInt y = Int32.ofInt (x.tmod y) := by
  have hY : InR y := ⟨by omega, by omega⟩
  have h1 := rem_toInt (Int32.ofInt x) (Int32.ofInt y)
  rw [hx.to, hY.to] at h1
  rw [← h1, Int32.ofInt_toInt]
theorem z_idiv (hc : zOk p s m args meth c D cc nL own ret) {x y : Int} {Q : Int → Prop} (hd : decode cc pc = .ok (.idiv, 1)) (H : cDiv x y Q) (k : ∀ v : Int, Q v → zW p l e R s m args below meth c D base nL Qf cells slots (pc + 1) ρ (.inl v :: st) h) : zW p l e R s m args below meth c D base nL Qf cells slots pc ρ (.inl y :: .inl x :: st) h :=
  fun Hp locs ls h1 h2 h3 h4 => lv_idiv hc.1 hc.2.1 hd (z_pos_ne H.2.1) (by rw [z_divI H.1 H.2.1]; exact k _ H.2.2 Hp locs ls h1 h2 h3 h4)
theorem z_irem (hc : zOk p s m args meth c D cc nL own ret) {x y : Int} {Q : Int → Prop} (hd : decode cc pc = .ok (.irem, 1)) (H : cRem x y Q) (k : ∀ v : Int, Q v → zW p l e R s m args below meth c D base nL Qf cells slots (pc + 1) ρ (.inl v :: st) h) : zW p l e R s m args below meth c D base nL Qf cells slots pc ρ (.inl y :: .inl x :: st) h :=
  fun Hp locs ls h1 h2 h3 h4 => lv_irem hc.1 hc.2.1 hd (z_pos_ne H.2.1) (by rw [z_remI H.1 H.2.1]; exact k _ H.2.2 Hp locs ls h1 h2 h3 h4)
theorem z_andI {x : Int} {m0 : Int} (k : Nat) (hk : k ≤ 31) (hx : InR x) (hm : (Int32.ofInt m0).toBitVec.toNat = 2 ^ k - 1) : Int32.ofInt x &&& Int32.ofInt m0 = Int32.ofInt (x % (2 ^ k : Nat)) := by
  rw [pk_and _ k hm]
  have h1 : ((Int32.ofInt x).toBitVec.toNat : Int) % (2 ^ k : Nat) = x % (2 ^ k : Nat) := by
    have h2 : (Int32.ofInt x).toBitVec.toInt = x := by rw [Int32.toInt_toBitVec]; exact hx.to
    rw [BitVec.toInt_eq_toNat_cond] at h2
    have hdvd : ((2 ^ k : Nat) : Int) ∣ ((2 ^ 32 : Nat) : Int) := by
      refine Int.ofNat_dvd.mpr (Nat.pow_dvd_pow 2 (by omega))
    generalize (Int32.ofInt x).toBitVec.toNat = w at h2 ⊢
    split at h2
    · rw [h2]
    · rw [← h2]
      obtain ⟨q, hq⟩ := hdvd
      rw [hq, Int.sub_mul_emod_self_left]
  have h3 : x % (2 ^ k : Nat) = (((Int32.ofInt x).toBitVec.toNat % 2 ^ k : Nat) : Int) := by
    rw [← h1]
    rfl
  rw [h3, Int32.ofInt_eq_ofNat]
  rfl
theorem z_iand (hc : zOk p s m args meth c D cc nL own ret) {x m0 n : Int} {Q : Int → Prop} (k0 : Nat) (hk : k0 ≤ 31) (hn : n = ((2 ^ k0 : Nat) : Int)) (hm : (Int32.ofInt m0).toBitVec.toNat = 2 ^ k0 - 1) (hd : decode cc pc = .ok (.iand, 1)) (H : cAnd x n Q) (k : ∀ v : Int, Q v → zW p l e R s m args below meth c D base nL Qf cells slots (pc + 1) ρ (.inl v :: st) h) : zW p l e R s m args below meth c D base nL Qf cells slots pc ρ (.inl m0 :: .inl x :: st) h := by
  subst hn
  exact fun Hp locs ls h1 h2 h3 h4 => lv_iand hc.1 hc.2.1 hd (by rw [z_andI k0 hk H.1 hm]; exact k _ H.2 Hp locs ls h1 h2 h3 h4)
theorem z_shrI {x sh : Int} (k : Nat) (hx : InR x) (hs : ((Int32.ofInt sh &&& 31).toBitVec.smod 32).toNat = k) : Int32.ofInt x >>> (Int32.ofInt sh &&& 31) = Int32.ofInt (x / ((2 ^ k : Nat) : Int)) := by
  have h1 := pk_shr (Int32.ofInt x) (Int32.ofInt sh &&& 31) k hs
  rw [hx.to, Int.shiftRight_eq_div_pow] at h1
  rw [← h1, Int32.ofInt_toInt]
theorem z_ishr (hc : zOk p s m args meth c D cc nL own ret) {x sh n : Int} {Q : Int → Prop} (k0 : Nat) (hn : n = ((2 ^ k0 : Nat) : Int)) (hs : ((Int32.ofInt sh &&& 31).toBitVec.smod 32).toNat = k0) (hd : decode cc pc = .ok (.ishr, 1)) (H : cShr x n Q) (k : ∀ v : Int, Q v → zW p l e R s m args below meth c D base nL Qf cells slots (pc + 1) ρ (.inl v :: st) h) : zW p l e R s m args below meth c D base nL Qf cells slots pc ρ (.inl sh :: .inl x :: st) h := by
  subst hn
  exact fun Hp locs ls h1 h2 h3 h4 => lv_ishr hc.1 hc.2.1 hd (by rw [z_shrI k0 H.1 hs]; exact k _ H.2 Hp locs ls h1 h2 h3 h4)
theorem z_ixor (hc : zOk p s m args meth c D cc nL own ret) {x y : Int} {Q : Int → Prop} (hd : decode cc pc = .ok (.ixor, 1)) (H : cXor x y Q) (k : ∀ w, Q w → zW p l e R s m args below meth c D base nL Qf cells slots (pc + 1) ρ (.inl w :: st) h) : zW p l e R s m args below meth c D base nL Qf cells slots pc ρ (.inl y :: .inl x :: st) h := by
  intro Hp locs ls h1 h2 h3 h4
  refine lv_ixor hc.1 hc.2.1 hd ?_
  have h5 : Int32.ofInt x ^^^ Int32.ofInt y = Int32.ofInt (Int32.ofInt x ^^^ Int32.ofInt y).toInt := (Int32.ofInt_toInt _).symm
  rw [h5]
  refine k _ (H.2 _ ⟨by have := Int32.le_toInt (Int32.ofInt x ^^^ Int32.ofInt y); omega, by have := Int32.toInt_lt (Int32.ofInt x ^^^ Int32.ofInt y); omega⟩ ?_) Hp locs ls h1 h2 h3 h4
  have key : ∀ z : Int32, z.toInt < 0 ↔ z.toBitVec.msb = true := fun z => by
    rw [← Int32.toInt_toBitVec, BitVec.msb_eq_toInt]
    simp
  have hx : x < 0 ↔ (Int32.ofInt x).toBitVec.msb = true := by rw [← key, H.1.1.to]
  have hy : y < 0 ↔ (Int32.ofInt y).toBitVec.msb = true := by rw [← key, H.1.2.to]
  rw [key, hx, hy, Int32.toBitVec_xor, BitVec.msb_xor]
  cases (Int32.ofInt x).toBitVec.msb <;> cases (Int32.ofInt y).toBitVec.msb <;> simp
theorem z_dup (hc : zOk p s m args meth c D cc nL own ret) {x : Zv} (hd : decode cc pc = .ok (.dup, 1)) (hz : zc x = 1) (k : zW p l e R s m args below meth c D base nL Qf cells slots (pc + 1) ρ (x :: x :: st) h) : zW p l e R s m args below meth c D base nL Qf cells slots pc ρ (x :: st) h :=
  fun H locs ls h1 h2 h3 h4 => lv_dup hc.1 hc.2.1 hd ((zen_cat x).trans hz) (k H locs ls h1 h2 h3 h4)
theorem z_dup2 (hc : zOk p s m args meth c D cc nL own ret) {x y : Zv} (hd : decode cc pc = .ok (.dup2, 1)) (hz : zc x = 1) (hz2 : zc y = 1) (k : zW p l e R s m args below meth c D base nL Qf cells slots (pc + 1) ρ (x :: y :: x :: y :: st) h) : zW p l e R s m args below meth c D base nL Qf cells slots pc ρ (x :: y :: st) h :=
  fun H locs ls h1 h2 h3 h4 => lv_dup2_11 hc.1 hc.2.1 hd ((zen_cat x).trans hz) ((zen_cat y).trans hz2) (k H locs ls h1 h2 h3 h4)
theorem z_goto (hc : zOk p s m args meth c D cc nL own ret) {off : Int} {tgt : Nat} (hd : decode cc pc = .ok (.goto off, 3)) (ht : (pc : Int) + off = (tgt : Int)) (k : zW p l e R s m args below meth c D base nL Qf cells slots tgt ρ st h) : zW p l e R s m args below meth c D base nL Qf cells slots pc ρ st h :=
  fun H locs ls h1 h2 h3 h4 => lv_goto hc.1 hc.2.1 hd ht (k H locs ls h1 h2 h3 h4)
section ZB
variable {x y off : Int} {tgt : Nat} {A B : Prop}
theorem z_icmp_lt (hc : zOk p s m args meth c D cc nL own ret) (hd : decode cc pc = .ok (.if_icmp .lt off, 3)) (ht : (pc : Int) + off = (tgt : Int)) (H : cLt x y A B) (kt : A → zW p l e R s m args below meth c D base nL Qf cells slots tgt ρ st h) (kf : B → zW p l e R s m args below meth c D base nL Qf cells slots (pc + 3) ρ st h) : zW p l e R s m args below meth c D base nL Qf cells slots pc ρ (.inl y :: .inl x :: st) h :=
  fun Hp locs ls h1 h2 h3 h4 => lv_icmp_lt hc.1 hc.2.1 hd ht (fun q => kt (H.2.1 ((z_lt H.1.1 H.1.2).mp q)) Hp locs ls h1 h2 h3 h4) (fun q => kf (H.2.2 (fun z => q ((z_lt H.1.1 H.1.2).mpr z))) Hp locs ls h1 h2 h3 h4)
theorem z_icmp_ge (hc : zOk p s m args meth c D cc nL own ret) (hd : decode cc pc = .ok (.if_icmp .ge off, 3)) (ht : (pc : Int) + off = (tgt : Int)) (H : cLt x y A B) (kt : A → zW p l e R s m args below meth c D base nL Qf cells slots (pc + 3) ρ st h) (kf : B → zW p l e R s m args below meth c D base nL Qf cells slots tgt ρ st h) : zW p l e R s m args below meth c D base nL Qf cells slots pc ρ (.inl y :: .inl x :: st) h :=
  fun Hp locs ls h1 h2 h3 h4 => lv_icmp_ge hc.1 hc.2.1 hd ht (fun q => kf (H.2.2 (fun z => by have q2 : Int32.ofInt y ≤ Int32.ofInt x := q; rw [z_le H.1.2 H.1.1] at q2; omega)) Hp locs ls h1 h2 h3 h4) (fun q => kt (H.2.1 (by have q2 : ¬ Int32.ofInt y ≤ Int32.ofInt x := q; rw [z_le H.1.2 H.1.1] at q2; omega)) Hp locs ls h1 h2 h3 h4)
theorem z_icmp_le (hc : zOk p s m args meth c D cc nL own ret) (hd : decode cc pc = .ok (.if_icmp .le off, 3)) (ht : (pc : Int) + off = (tgt : Int)) (H : cLe x y A B) (kt : A → zW p l e R s m args below meth c D base nL Qf cells slots tgt ρ st h) (kf : B → zW p l e R s m args below meth c D base nL Qf cells slots (pc + 3) ρ st h) : zW p l e R s m args below meth c D base nL Qf cells slots pc ρ (.inl y :: .inl x :: st) h :=
  fun Hp locs ls h1 h2 h3 h4 => lv_icmp_le hc.1 hc.2.1 hd ht (fun q => kt (H.2.1 ((z_le H.1.1 H.1.2).mp q)) Hp locs ls h1 h2 h3 h4) (fun q => kf (H.2.2 (fun z => q ((z_le H.1.1 H.1.2).mpr z))) Hp locs ls h1 h2 h3 h4)
theorem z_icmp_gt (hc : zOk p s m args meth c D cc nL own ret) (hd : decode cc pc = .ok (.if_icmp .gt off, 3)) (ht : (pc : Int) + off = (tgt : Int)) (H : cLe x y A B) (kt : A → zW p l e R s m args below meth c D base nL Qf cells slots (pc + 3) ρ st h) (kf : B → zW p l e R s m args below meth c D base nL Qf cells slots tgt ρ st h) : zW p l e R s m args below meth c D base nL Qf cells slots pc ρ (.inl y :: .inl x :: st) h :=
  fun Hp locs ls h1 h2 h3 h4 => lv_icmp_gt hc.1 hc.2.1 hd ht (fun q => kf (H.2.2 (fun z => by have q2 : Int32.ofInt y < Int32.ofInt x := q; rw [z_lt H.1.2 H.1.1] at q2; omega)) Hp locs ls h1 h2 h3 h4) (fun q => kt (H.2.1 (by have q2 : ¬ Int32.ofInt y < Int32.ofInt x := q; rw [z_lt H.1.2 H.1.1] at q2; omega)) Hp locs ls h1 h2 h3 h4)
theorem z_icmp_eq (hc : zOk p s m args meth c D cc nL own ret) (hd : decode cc pc = .ok (.if_icmp .eq off, 3)) (ht : (pc : Int) + off = (tgt : Int)) (H : cEq x y A B) (kt : A → zW p l e R s m args below meth c D base nL Qf cells slots tgt ρ st h) (kf : B → zW p l e R s m args below meth c D base nL Qf cells slots (pc + 3) ρ st h) : zW p l e R s m args below meth c D base nL Qf cells slots pc ρ (.inl y :: .inl x :: st) h :=
  fun Hp locs ls h1 h2 h3 h4 => lv_icmp_eq hc.1 hc.2.1 hd ht (fun q => kt (H.2.1 ((z_eq H.1.1 H.1.2).mp q)) Hp locs ls h1 h2 h3 h4) (fun q => kf (H.2.2 (fun z => q ((z_eq H.1.1 H.1.2).mpr z))) Hp locs ls h1 h2 h3 h4)
theorem z_icmp_ne (hc : zOk p s m args meth c D cc nL own ret) (hd : decode cc pc = .ok (.if_icmp .ne off, 3)) (ht : (pc : Int) + off = (tgt : Int)) (H : cEq x y A B) (kt : A → zW p l e R s m args below meth c D base nL Qf cells slots (pc + 3) ρ st h) (kf : B → zW p l e R s m args below meth c D base nL Qf cells slots tgt ρ st h) : zW p l e R s m args below meth c D base nL Qf cells slots pc ρ (.inl y :: .inl x :: st) h :=
  fun Hp locs ls h1 h2 h3 h4 => lv_icmp_ne hc.1 hc.2.1 hd ht (fun q => kf (H.2.2 (fun z => q ((z_eq H.1.1 H.1.2).mpr z))) Hp locs ls h1 h2 h3 h4) (fun q => kt (H.2.1 ((z_eq H.1.1 H.1.2).mp q)) Hp locs ls h1 h2 h3 h4)
theorem z_if_lt (hc : zOk p s m args meth c D cc nL own ret) (hd : decode cc pc = .ok (.ifCond .lt off, 3)) (ht : (pc : Int) + off = (tgt : Int)) (H : cLt x 0 A B) (kt : A → zW p l e R s m args below meth c D base nL Qf cells slots tgt ρ st h) (kf : B → zW p l e R s m args below meth c D base nL Qf cells slots (pc + 3) ρ st h) : zW p l e R s m args below meth c D base nL Qf cells slots pc ρ (.inl x :: st) h :=
  fun Hp locs ls h1 h2 h3 h4 => lv_if_lt hc.1 hc.2.1 hd ht (fun q => kt (H.2.1 ((z_lt H.1.1 H.1.2).mp (z_0 ▸ q))) Hp locs ls h1 h2 h3 h4) (fun q => kf (H.2.2 (fun z => q (z_0.symm ▸ (z_lt H.1.1 H.1.2).mpr z))) Hp locs ls h1 h2 h3 h4)
theorem z_if_ge (hc : zOk p s m args meth c D cc nL own ret) (hd : decode cc pc = .ok (.ifCond .ge off, 3)) (ht : (pc : Int) + off = (tgt : Int)) (H : cLt x 0 A B) (kt : A → zW p l e R s m args below meth c D base nL Qf cells slots (pc + 3) ρ st h) (kf : B → zW p l e R s m args below meth c D base nL Qf cells slots tgt ρ st h) : zW p l e R s m args below meth c D base nL Qf cells slots pc ρ (.inl x :: st) h :=
  fun Hp locs ls h1 h2 h3 h4 => lv_if_ge hc.1 hc.2.1 hd ht (fun q => kf (H.2.2 (fun z => by have q2 : (0 : Int32) ≤ Int32.ofInt x := q; rw [z_0, z_le H.1.2 H.1.1] at q2; omega)) Hp locs ls h1 h2 h3 h4) (fun q => kt (H.2.1 (by have q2 : ¬ (0 : Int32) ≤ Int32.ofInt x := q; rw [z_0, z_le H.1.2 H.1.1] at q2; omega)) Hp locs ls h1 h2 h3 h4)
theorem z_if_le (hc : zOk p s m args meth c D cc nL own ret) (hd : decode cc pc = .ok (.ifCond .le off, 3)) (ht : (pc : Int) + off = (tgt : Int)) (H : cLe x 0 A B) (kt : A → zW p l e R s m args below meth c D base nL Qf cells slots tgt ρ st h) (kf : B → zW p l e R s m args below meth c D base nL Qf cells slots (pc + 3) ρ st h) : zW p l e R s m args below meth c D base nL Qf cells slots pc ρ (.inl x :: st) h :=
  fun Hp locs ls h1 h2 h3 h4 => lv_if_le hc.1 hc.2.1 hd ht (fun q => kt (H.2.1 ((z_le H.1.1 H.1.2).mp (z_0 ▸ q))) Hp locs ls h1 h2 h3 h4) (fun q => kf (H.2.2 (fun z => q (z_0.symm ▸ (z_le H.1.1 H.1.2).mpr z))) Hp locs ls h1 h2 h3 h4)
theorem z_if_gt (hc : zOk p s m args meth c D cc nL own ret) (hd : decode cc pc = .ok (.ifCond .gt off, 3)) (ht : (pc : Int) + off = (tgt : Int)) (H : cLe x 0 A B) (kt : A → zW p l e R s m args below meth c D base nL Qf cells slots (pc + 3) ρ st h) (kf : B → zW p l e R s m args below meth c D base nL Qf cells slots tgt ρ st h) : zW p l e R s m args below meth c D base nL Qf cells slots pc ρ (.inl x :: st) h :=
  fun Hp locs ls h1 h2 h3 h4 => lv_if_gt hc.1 hc.2.1 hd ht (fun q => kf (H.2.2 (fun z => by have q2 : (0 : Int32) < Int32.ofInt x := q; rw [z_0, z_lt H.1.2 H.1.1] at q2; omega)) Hp locs ls h1 h2 h3 h4) (fun q => kt (H.2.1 (by have q2 : ¬ (0 : Int32) < Int32.ofInt x := q; rw [z_0, z_lt H.1.2 H.1.1] at q2; omega)) Hp locs ls h1 h2 h3 h4)
theorem z_if_eq (hc : zOk p s m args meth c D cc nL own ret) (hd : decode cc pc = .ok (.ifCond .eq off, 3)) (ht : (pc : Int) + off = (tgt : Int)) (H : cEq x 0 A B) (kt : A → zW p l e R s m args below meth c D base nL Qf cells slots tgt ρ st h) (kf : B → zW p l e R s m args below meth c D base nL Qf cells slots (pc + 3) ρ st h) : zW p l e R s m args below meth c D base nL Qf cells slots pc ρ (.inl x :: st) h :=
  fun Hp locs ls h1 h2 h3 h4 => lv_if_eq hc.1 hc.2.1 hd ht (fun q => kt (H.2.1 ((z_eq H.1.1 H.1.2).mp (z_0 ▸ q))) Hp locs ls h1 h2 h3 h4) (fun q => kf (H.2.2 (fun z => q (z_0.symm ▸ (z_eq H.1.1 H.1.2).mpr z))) Hp locs ls h1 h2 h3 h4)
theorem z_if_ne (hc : zOk p s m args meth c D cc nL own ret) (hd : decode cc pc = .ok (.ifCond .ne off, 3)) (ht : (pc : Int) + off = (tgt : Int)) (H : cEq x 0 A B) (kt : A → zW p l e R s m args below meth c D base nL Qf cells slots (pc + 3) ρ st h) (kf : B → zW p l e R s m args below meth c D base nL Qf cells slots tgt ρ st h) : zW p l e R s m args below meth c D base nL Qf cells slots pc ρ (.inl x :: st) h :=
  fun Hp locs ls h1 h2 h3 h4 => lv_if_ne hc.1 hc.2.1 hd ht (fun q => kf (H.2.2 (fun z => q (z_0.symm ▸ (z_eq H.1.1 H.1.2).mpr z))) Hp locs ls h1 h2 h3 h4) (fun q => kt (H.2.1 ((z_eq H.1.1 H.1.2).mp (z_0 ▸ q))) Hp locs ls h1 h2 h3 h4)
theorem z_icmp_geF (hc : zOk p s m args meth c D cc nL own ret) (hd : decode cc pc = .ok (.if_icmp .ge off, 3)) (ht : (pc : Int) + off = (tgt : Int)) (H : cLt x y A B) (kt : x < y → A → zW p l e R s m args below meth c D base nL Qf cells slots (pc + 3) ρ st h) (kf : ¬ x < y → B → zW p l e R s m args below meth c D base nL Qf cells slots tgt ρ st h) : zW p l e R s m args below meth c D base nL Qf cells slots pc ρ (.inl y :: .inl x :: st) h :=
  fun Hp locs ls h1 h2 h3 h4 => lv_icmp_ge hc.1 hc.2.1 hd ht (fun q => by
    have q2 : Int32.ofInt y ≤ Int32.ofInt x := q
    rw [z_le H.1.2 H.1.1] at q2
    have q3 : ¬ x < y := by omega
    exact kf q3 (H.2.2 q3) Hp locs ls h1 h2 h3 h4) (fun q => by
    have q2 : ¬ Int32.ofInt y ≤ Int32.ofInt x := q
    rw [z_le H.1.2 H.1.1] at q2
    have q3 : x < y := by omega
    exact kt q3 (H.2.1 q3) Hp locs ls h1 h2 h3 h4)
end ZB
end ZO
end
section
/-! memory: fields, arrays, new cells -/
def zCf (ci : Nat) (C : String) (T : u_T) (N : Nat) : Prop := vwCl[ci]? = some (C, T, N) ∧ zN ci = N ∧ (∀ w ∈ u_ws C T N, w ∈ zT) ∧ (∀ k, k < N → parseFieldDescriptor (T k).2.2.1 = some (zty ci k)) ∧ (∀ a, a < N → ∀ b, b < N → a ≠ b → (T a).2.1 ≠ (T b).2.1)
def zFl (own : String) (x ci k : Nat) (fin : Bool) : Prop := ∃ (C : String) (T : u_T) (N : Nat), zCf ci C T N ∧ k < N ∧ (T k).1 = C ∧ (T k).2.2.2 = fin ∧ Cond.fieldLink own x C (T k).2.1 (T k).2.2.1 ∈ zT
theorem z_sub {ws : List Cond} (ps : List Nat) (hp : ws = ps.filterMap (fun i => lw_tbl[i]?)) (hg : ws.all goodWord = true) : ∀ w ∈ ws, w ∈ zT := by
  intro w hw
  have h2 := List.all_eq_true.mp hg w hw
  rw [hp] at hw
  obtain ⟨i, -, hi⟩ := List.mem_filterMap.mp hw
  exact zT_mem i hi h2
theorem zAt_none {D : Zd} {h : Zm} {a : Nat} {H : Heap} (x : (zkd h a).1 = 0) : zAt D h a H := by
  refine ⟨fun q => ?_, fun q => ?_, fun q => ?_⟩ <;> omega
theorem zrf_pos {a : Nat} (h : 1 ≤ a) : zrf a = .ref (a - 1) := by
  cases a with
  | zero => omega
  | succ k => rfl
theorem zkd_sI {h : Zm} {a b : Nat} {j v : Int} : zkd (zsI h a j v) b = zkd h b := rfl
theorem zkd_sR {h : Zm} {a b v : Nat} {j : Int} : zkd (zsR h a j v) b = zkd h b := rfl
theorem zR_sI {h : Zm} {a b : Nat} {i j v : Int} : zR (zsI h a j v) b i = zR h b i := rfl
theorem zI_sR {h : Zm} {a b v : Nat} {i j : Int} : zI (zsR h a j v) b i = zI h b i := rfl
theorem zI_sI {h : Zm} {a b : Nat} {i j v : Int} : zI (zsI h a j v) b i = if b = a ∧ i = j then v else zI h b i := rfl
theorem zR_sR {h : Zm} {a b v : Nat} {i j : Int} : zR (zsR h a j v) b i = if b = a ∧ i = j then v else zR h b i := rfl
theorem zRep.set {D : Zd} {base a : Nat} {h h' : Zm} {H H' : Heap} (hR : zRep D base h H) (h1 : h'.1 = h.1) (hv : ∀ b j, InR (zI h' b j)) (hb : ∀ b, b ≠ a → (∀ j, zI h' b j = zI h b j) ∧ (∀ j, zR h' b j = zR h b j)) (hz : H'.size = H.size) (ho : ∀ q : Nat, q ≠ a - 1 → H'[q]? = H[q]?) (h0 : 1 ≤ a) (ha : zAt D h' a H') : zRep D base h' H' := by
  have hk : ∀ b, zkd h' b = zkd h b := fun b => by unfold zkd; rw [h1]
  refine ⟨by rw [hz, h1]; exact hR.1, fun b hb => ?_, hv, fun b => ?_⟩
  · rw [h1]
    rw [hk] at hb
    exact hR.2.1 b hb
  · by_cases e : b = a
    · subst e
      exact ha
    · by_cases q : (zkd h b).1 = 0
      · exact zAt_none (by rw [hk]; exact q)
      · have := (hR.2.1 b q).1
        exact (hR.2.2.2 b).kept (hk b) (hb b e).1 (hb b e).2 (ho _ (by omega))
theorem zRep.inI {D : Zd} {base a : Nat} {h : Zm} {H : Heap} {i v : Int} (hR : zRep D base h H) (hv : InR v) : ∀ b j, InR (zI (zsI h a i v) b j) := by
  intro b j
  rw [zI_sI]
  split
  · exact hv
  · exact hR.2.2.1 b j
section ZM
variable {p : Program} {l : Launch} {e : Env} {R : Room} {s : State} {m : MethodId} {args : Array Value} {below : List Frame} {meth : Method} {c : Code} {D : Zd} {base nL : Nat} {Qf : State → Prop} {cells slots pc : Nat} {ρ : List (Option Zv)} {st : List Zv} {h : Zm} {cc : ByteArray} {own : String} {ret : Option FieldType}
theorem z_field (hc : zOk p s m args meth c D cc nL own ret) {x ci k d a : Nat} {fin : Bool} (hf : zFl own x ci k fin) (hk : (zkd h a).1 = d) (hd0 : d = 10 + ci) {H : Heap} (hR : zRep D base h H) : 1 ≤ a ∧ base ≤ a ∧ ∃ (C : String) (T : u_T) (N cf i : Nat) (kf : Class) (f : Field) (cell : Cell), zCf ci C T N ∧ k < N ∧ (T k).1 = C ∧ (T k).2.2.2 = fin ∧ (Cond.fieldLink own x C (T k).2.1 (T k).2.2.1).before args s = true ∧ s.fieldFound? C (T k).2.1 (T k).2.2.1 = some (cf, kf, i, f) ∧ f.slot = D.1.2 ci k ∧ f.isStatic = false ∧ H[a - 1]? = some cell ∧ cell.cls = D.1.1 ci ∧ cell.vm = .none ∧ (∀ j, j < N → cell.slots[D.1.2 ci j]? = some (zF ci j (zI h a j) (zR h a j))) ∧ (∃ kC : Class, s.vm.findClass C = some (D.1.1 ci) ∧ s.vm.classes[D.1.1 ci]? = some kC ∧ kC.kind = .ordinary) ∧ (∀ x y, x < N → y < N → x ≠ y → D.1.2 ci x ≠ D.1.2 ci y) := by
  subst hd0
  obtain ⟨C, T, N, hC, hkN, hT, hfin, hw⟩ := hf
  obtain ⟨hb1, hb2, -⟩ := hR.2.1 a (by omega)
  obtain ⟨hlt, cell, q1, q2, q3, q4⟩ := (hR.2.2.2 a).2.2 (by omega)
  have e0 : (zkd h a).1 - 10 = ci := by omega
  rw [e0] at q2 q4
  rw [hC.2.1] at q4
  have hKn : u_Kn s C T N (D.1.1 ci) (D.1.2 ci) := hc.2.2.2.2.2.2.2.1 ci _ hC.1
  obtain ⟨cf, kf, i, f, hi, hsl⟩ := hKn.1 k hkN
  obtain ⟨hfc, kC, hkC, hkind⟩ := hKn.2
  rw [hT] at hi
  refine ⟨hb1, hb2, C, T, N, cf, i, kf, f, cell, hC, hkN, hT, hfin, hc.2.2.2.2.1 _ hw, hi, hsl, ?_, q1, q2, q3, q4, ⟨kC, hfc, hkC, hkind⟩, ?_⟩
  · have hlay := u_lays hc.2.2.2.2.1 hC.2.2.1 hkN
    rw [hT] at hlay
    exact (u_facts hfc hkC hlay hi).1
  · exact va_apart (D := D.1) (cl := vwCl) (tys := []) (own := own) hc.2.2.2.2.1 hC.2.2.1 (zty ci) hC.2.2.2.1 hC.2.2.2.2 ⟨fun c q hq => hc.2.2.2.2.2.2.2.1 c q hq, fun k q h => by simp at h⟩ hC.1
theorem z_getI (hc : zOk p s m args meth c D cc nL own ret) {x ci k d a : Nat} {kI : Int} {fin : Bool} {Q : Int → Prop} (hd : decode cc pc = .ok (.getfield x, 3)) (hf : zFl own x ci k fin) (hd0 : d = 10 + ci) (hkI : kI = (k : Int)) (ht : (zty ci k).isReference = false) (H : cGi h d a kI Q) (kk : ∀ v : Int, Q v → zW p l e R s m args below meth c D base nL Qf cells slots (pc + 3) ρ (.inl v :: st) h) : zW p l e R s m args below meth c D base nL Qf cells slots pc ρ (.inr (.inl a) :: st) h := by
  intro Hp locs ls h1 h2 h3 h4
  obtain ⟨ha, -, C, T, N, cf, i, kf, f, cell, hC, hkN, hT, hfin, hl, hi, hsl, hst, q1, q2, q3, q4, -, -⟩ := z_field hc hf H.1 hd0 h1
  have h5 := kk _ (H.2 (h1.2.2.1 _ _)) Hp locs ls h1 h2 h3 h4
  show W p l e R s m args below meth c Hp locs cells slots Qf (F0 m pc ls (zrf a :: st.map zen))
  rw [zrf_pos ha]
  refine W.getf hc.1 hc.2.1 hc.2.2.2.1 hl hi hst q1 (by rw [q3]; exact fun h => by cases h) (v := .int (Int32.ofInt (zI h a kI))) ?_ rfl rfl hd h5
  rw [hsl, q4 k hkN, hkI]
  unfold zF
  rw [if_neg (by rw [ht]; decide)]
theorem z_getR (hc : zOk p s m args meth c D cc nL own ret) {x ci k d a : Nat} {kI : Int} {fin : Bool} {Q : Nat → Prop} (hd : decode cc pc = .ok (.getfield x, 3)) (hf : zFl own x ci k fin) (hd0 : d = 10 + ci) (hkI : kI = (k : Int)) (ht : (zty ci k).isReference = true) (H : cGr h d a kI Q) (kk : ∀ v : Nat, Q v → zW p l e R s m args below meth c D base nL Qf cells slots (pc + 3) ρ (.inr (.inl v) :: st) h) : zW p l e R s m args below meth c D base nL Qf cells slots pc ρ (.inr (.inl a) :: st) h := by
  intro Hp locs ls h1 h2 h3 h4
  obtain ⟨ha, -, C, T, N, cf, i, kf, f, cell, hC, hkN, hT, hfin, hl, hi, hsl, hst, q1, q2, q3, q4, -, -⟩ := z_field hc hf H.1 hd0 h1
  have h5 := kk _ H.2 Hp locs ls h1 h2 h3 h4
  show W p l e R s m args below meth c Hp locs cells slots Qf (F0 m pc ls (zrf a :: st.map zen))
  rw [zrf_pos ha]
  refine W.getf hc.1 hc.2.1 hc.2.2.2.1 hl hi hst q1 (by rw [q3]; exact fun h => by cases h) (v := zrf (zR h a kI)) ?_ rfl rfl hd h5
  rw [hsl, q4 k hkN, hkI]
  unfold zF
  rw [if_pos ht]
theorem z_objSet {ci k a : Nat} {N : Nat} {h' : Zm} {H' : Heap} {cell : Cell} (hN : zN ci = N) (hci : ci < 8) (hk : (zkd h' a).1 = 10 + ci) (hkN : k < N) (hap : ∀ x y, x < N → y < N → x ≠ y → D.1.2 ci x ≠ D.1.2 ci y) (e1 : H'[a - 1]? = some (cell.setSlot (D.1.2 ci k) (zF ci k (zI h' a k) (zR h' a k)))) (q2 : cell.cls = D.1.1 ci) (q3 : cell.vm = .none) (q4 : ∀ j, j < N → cell.slots[D.1.2 ci j]? = some (zF ci j (zI h a j) (zR h a j))) (ho : ∀ j : Nat, j ≠ k → zI h' a j = zI h a j ∧ zR h' a j = zR h a j) : zAt D h' a H' := by
  refine ⟨fun q => by omega, fun q => by omega, fun _ => ⟨by omega, ?_⟩⟩
  rw [hk, show 10 + ci - 10 = ci by omega, hN]
  refine ⟨_, e1, q2, q3, fun j hj => ?_⟩
  rw [t_set q4 hap hkN _ j hj]
  unfold updV
  by_cases e : j = k
  · subst e
    rw [if_pos rfl]
  · rw [if_neg e]
    show some (zF ci j (zI h a j) (zR h a j)) = some (zF ci j (zI h' a j) (zR h' a j))
    rw [(ho j e).1, (ho j e).2]
theorem z_ci {ci : Nat} {C : String} {T : u_T} {N : Nat} (h : zCf ci C T N) : ci < 8 := by
  have h7 := (List.getElem?_eq_some_iff.mp h.1).1
  have e : vwCl.length = 7 := rfl
  omega
theorem z_fitI {ci k : Nat} (h : zty ci k = .int) (v : Int) : narrow (zty ci k) (.int (Int32.ofInt v)) = .int (Int32.ofInt v) ∧ fits (zty ci k) (.int (Int32.ofInt v)) = true := by
  rw [h]
  exact ⟨rfl, rfl⟩
theorem z_fitR {t : FieldType} (h : t.isReference = true) (v : Nat) : narrow t (zrf v) = zrf v ∧ fits t (zrf v) = true := by
  cases t <;> first | (cases h; done) | (cases v <;> exact ⟨rfl, rfl⟩)
theorem z_putI (hc : zOk p s m args meth c D cc nL own ret) {x ci k d a : Nat} {kI v : Int} {Q : Zm → Prop} (hd : decode cc pc = .ok (.putfield x, 3)) (hf : zFl own x ci k false) (hd0 : d = 10 + ci) (hkI : kI = (k : Int)) (ht : zty ci k = .int) (H : cPi h d a kI v Q) (kk : ∀ h' : Zm, Q h' → zW p l e R s m args below meth c D base nL Qf cells slots (pc + 3) ρ st h') : zW p l e R s m args below meth c D base nL Qf cells slots pc ρ (.inl v :: .inr (.inl a) :: st) h := by
  intro Hp locs ls h1 h2 h3 h4
  obtain ⟨ha, hbs, C, T, N, cf, i, kf, f, cell, hC, hkN, hT, hfin, hl, hi, hsl, hst, q1, q2, q3, q4, ⟨kC, hfc, hkC, hkind⟩, hap⟩ := z_field hc hf H.1 hd0 h1
  have h5 := kk _ H.2.2
  have hlay := hc.2.2.2.2.1 _ (hC.2.2.1 _ (u_in_lay hkN))
  unfold u_lay at hlay
  rw [if_neg (by rw [hfin]; decide), hT] at hlay
  obtain ⟨n1, n2⟩ := z_fitI ht v
  have h6 := u_store hfc hkC hkind hlay hi (hC.2.2.2.1 k hkN) n1 n2
  show W p l e R s m args below meth c Hp locs cells slots Qf (F0 m pc ls (.int (Int32.ofInt v) :: zrf a :: st.map zen))
  rw [zrf_pos ha]
  refine W.putK hc.1 hc.2.1 (f := f) ⟨hc.2.2.2.1, hl, ⟨_, _, _, hi⟩, hst⟩ (by rw [q2]; exact h6) q1 q3 (by rw [hsl]; exact k2_hasslot (q4 k hkN)) rfl rfl hd fun H' e1 e2 e3 => ?_
  rw [hsl] at e1
  subst hkI
  refine h5 H' _ ls (h1.set rfl (h1.inI H.2.1) (fun b hb => ⟨fun j => by rw [zI_sI, if_neg (fun q => hb q.1)], fun j => rfl⟩) e2 e3 ha ?_) (fun q hq => by rw [e3 q (Nat.ne_of_lt (show (q : Nat) < a - 1 by omega))]; exact h2 q hq) (fun q hq => ?_) h4
  · refine z_objSet (h := h) (k := k) hC.2.1 (z_ci hC) (H.1.trans hd0) hkN hap ?_ q2 q3 q4 (fun j hj => ⟨by rw [zI_sI, if_neg (fun q => hj (by have := q.2; omega))], rfl⟩)
    rw [e1, zI_sI, if_pos ⟨rfl, rfl⟩]
    unfold zF
    rw [if_neg (by rw [ht]; decide)]
  · rcases List.mem_append.mp hq with h9 | h9
    · exact h3 q h9
    · rw [List.mem_singleton.mp h9]
      show base ≤ a - 1 + 1
      omega
theorem z_putR (hc : zOk p s m args meth c D cc nL own ret) {x ci k d a v : Nat} {kI : Int} {Q : Zm → Prop} (hd : decode cc pc = .ok (.putfield x, 3)) (hf : zFl own x ci k true) (hd0 : d = 10 + ci) (hkI : kI = (k : Int)) (ht : (zty ci k).isReference = true) (hin : meth.name = "<init>") (ho : ∀ C T N, vwCl[ci]? = some (C, T, N) → C = own) (H : cPr h d a kI v Q) (kk : ∀ h' : Zm, Q h' → zW p l e R s m args below meth c D base nL Qf cells slots (pc + 3) ρ st h') : zW p l e R s m args below meth c D base nL Qf cells slots pc ρ (.inr (.inl v) :: .inr (.inl a) :: st) h := by
  intro Hp locs ls h1 h2 h3 h4
  obtain ⟨ha, hbs, C, T, N, cf, i, kf, f, cell, hC, hkN, hT, hfin, hl, hi, hsl, hst, q1, q2, q3, q4, ⟨kC, hfc, hkC, hkind⟩, hap⟩ := z_field hc hf H.1 hd0 h1
  have h5 := kk _ H.2
  have hlay := hc.2.2.2.2.1 _ (hC.2.2.1 _ (u_in_lay hkN))
  unfold u_lay at hlay
  rw [if_pos hfin, hT] at hlay
  have hcf : m.cls = cf := by
    obtain ⟨_, _, c', _, _, _, -, -, hf', -, -, -, hown2, -⟩ := Cond.laysFinal_spec hlay
    have e1 : c' = cf := by have := hi.symm.trans hf'; simp at this; exact this.1.symm
    rw [ho C T N hC.1] at hown2
    rw [← e1]; exact Option.some.inj (hc.2.2.2.1.symm.trans hown2)
  obtain ⟨n1, n2⟩ := z_fitR ht v
  have h6 := u_fits hfc hkC hkind (Or.inr hlay) hi (hC.2.2.2.1 k hkN) n1 n2
  show W p l e R s m args below meth c Hp locs cells slots Qf (F0 m pc ls (zrf v :: zrf a :: st.map zen))
  rw [zrf_pos ha]
  refine W.putFinK hc.1 hc.2.1 hc.2.2.2.1 hl hi hst hcf hin (by rw [q2]; exact h6) q1 q3 (by rw [hsl]; exact k2_hasslot (q4 k hkN)) rfl rfl hd fun H' e1 e2 e3 => ?_
  rw [hsl] at e1
  subst hkI
  refine h5 H' _ ls (h1.set rfl (fun b j => h1.2.2.1 b j) (fun b hb => ⟨fun j => rfl, fun j => by rw [zR_sR, if_neg (fun q => hb q.1)]⟩) e2 e3 ha ?_) (fun q hq => by rw [e3 q (Nat.ne_of_lt (show (q : Nat) < a - 1 by omega))]; exact h2 q hq) (fun q hq => ?_) h4
  · refine z_objSet (h := h) (k := k) hC.2.1 (z_ci hC) (H.1.trans hd0) hkN hap ?_ q2 q3 q4 (fun j hj => ⟨rfl, by rw [zR_sR, if_neg (fun q => hj (by have := q.2; omega))]⟩)
    rw [e1, zR_sR, if_pos ⟨rfl, rfl⟩]
    unfold zF
    rw [if_pos ht]
  · rcases List.mem_append.mp hq with h9 | h9
    · exact h3 q h9
    · rw [List.mem_singleton.mp h9]
      show base ≤ a - 1 + 1
      omega
theorem z_arrOf (hc : zOk p s m args meth c D cc nL own ret) {t : Nat} (h1 : 1 ≤ t) (h2 : t ≤ 7) (n : Nat) (z : Nat → Value) : s.isArrayOf (arrV (D.2 t) n z) (zaty t) := (hc.2.2.2.2.2.2.2.2 t h1 h2).1 n z
theorem z_iaload (hc : zOk p s m args meth c D cc nL own ret) {a : Nat} {i : Int} {Q : Int → Prop} (hd : decode cc pc = .ok (.iaload, 1)) (H : cLd h 1 a i Q) (kk : ∀ v : Int, Q v → zW p l e R s m args below meth c D base nL Qf cells slots (pc + 1) ρ (.inl v :: st) h) : zW p l e R s m args below meth c D base nL Qf cells slots pc ρ (.inl i :: .inr (.inl a) :: st) h := by
  intro Hp locs ls h1 h2 h3 h4
  obtain ⟨⟨g1, g2, g3⟩, g4⟩ := H
  obtain ⟨ha, -, -⟩ := h1.2.1 a (by omega)
  obtain ⟨q1, q2⟩ := (h1.2.2.2 a).1 (Or.inl g1)
  have h5 := kk _ (g4 (h1.2.2.1 _ _)) Hp locs ls h1 h2 h3 h4
  show W p l e R s m args below meth c Hp locs cells slots Qf (F0 m pc ls (.int (Int32.ofInt i) :: zrf a :: st.map zen))
  rw [zrf_pos ha]
  rw [g1] at q1
  refine W.iald (v := .int (Int32.ofInt (zI h a i))) hc.1 hc.2.1 q1 (z_arrOf hc (t := 1) (by omega) (by omega) _ _) (fun q => by cases q) (by show ¬ (_ ∨ (arrV _ _ _).slots.size ≤ _); rw [arrV_size]; exact z_vpin g2 g3 q2) ?_ rfl rfl hd h5
  show (arrV _ _ _).slots[_]? = _
  rw [z_clamp g2 (by omega), arrV_read _ _ (by omega), Int.toNat_of_nonneg g2]
theorem z_aaload (hc : zOk p s m args meth c D cc nL own ret) {a : Nat} {i : Int} {Q : Nat → Prop} (hd : decode cc pc = .ok (.aaload, 1)) (H : cLdR h a i Q) (kk : ∀ v : Nat, Q v → zW p l e R s m args below meth c D base nL Qf cells slots (pc + 1) ρ (.inr (.inl v) :: st) h) : zW p l e R s m args below meth c D base nL Qf cells slots pc ρ (.inl i :: .inr (.inl a) :: st) h := by
  intro Hp locs ls h1 h2 h3 h4
  obtain ⟨⟨g1, g2, g3⟩, g4⟩ := H
  obtain ⟨ha, -, -⟩ := h1.2.1 a (by omega)
  obtain ⟨q1, q2⟩ := (h1.2.2.2 a).2.1 g1
  have h5 := kk _ g4 Hp locs ls h1 h2 h3 h4
  show W p l e R s m args below meth c Hp locs cells slots Qf (F0 m pc ls (.int (Int32.ofInt i) :: zrf a :: st.map zen))
  rw [zrf_pos ha]
  have hr : (zaty (zkd h a).1).isReference = true := by
    have h7 := g1
    generalize (zkd h a).1 = t at h7
    rcases (show t = 4 ∨ t = 5 ∨ t = 6 ∨ t = 7 by omega) with rfl | rfl | rfl | rfl <;> rfl
  refine W.aald (v := zrf (zR h a i)) hc.1 hc.2.1 q1 (z_arrOf hc (by omega) g1.2 _ _) hr (fun q => by cases q) (by show ¬ (_ ∨ (arrV _ _ _).slots.size ≤ _); rw [arrV_size]; exact z_vpin g2 g3 q2) ?_ rfl rfl hd h5
  show (arrV _ _ _).slots[_]? = _
  rw [z_clamp g2 (by omega), arrV_read _ _ (by omega), Int.toNat_of_nonneg g2]
theorem z_alen (hc : zOk p s m args meth c D cc nL own ret) {a : Nat} {Q : Int → Prop} (hd : decode cc pc = .ok (.arraylength, 1)) (H : cLen h a Q) (kk : ∀ v : Int, Q v → zW p l e R s m args below meth c D base nL Qf cells slots (pc + 1) ρ (.inl v :: st) h) : zW p l e R s m args below meth c D base nL Qf cells slots pc ρ (.inr (.inl a) :: st) h := by
  intro Hp locs ls h1 h2 h3 h4
  obtain ⟨g1, g4⟩ := H
  obtain ⟨ha, -, -⟩ := h1.2.1 a (by omega)
  obtain ⟨q1, q2⟩ := (h1.2.2.2 a).1 g1
  have h5 := kk _ g4 Hp locs ls h1 h2 h3 h4
  show W p l e R s m args below meth c Hp locs cells slots Qf (F0 m pc ls (zrf a :: st.map zen))
  rw [zrf_pos ha]
  refine W.alen (n := Int32.ofInt ((zkd h a).2 : Int)) hc.1 hc.2.1 q1 (z_arrOf hc (by omega) (by omega) _ _) (by rw [arrV_size]; exact (Int32.ofInt_eq_ofNat).symm) rfl rfl hd h5
theorem z_upd {f : Nat → Value} {k : Nat} {g : Nat → Value} {v : Value} (h1 : g k = v) (h2 : ∀ j, j ≠ k → g j = f j) : updV f k v = g := by
  funext j
  unfold updV
  by_cases e : j = k
  · subst e
    rw [if_pos rfl, h1]
  · rw [if_neg e, h2 j e]
theorem z_iastore (hc : zOk p s m args meth c D cc nL own ret) {a : Nat} {i v : Int} {Q : Zm → Prop} (hd : decode cc pc = .ok (.iastore, 1)) (H : cSt h a i v Q) (kk : ∀ h' : Zm, Q h' → zW p l e R s m args below meth c D base nL Qf cells slots (pc + 1) ρ st h') : zW p l e R s m args below meth c D base nL Qf cells slots pc ρ (.inl v :: .inl i :: .inr (.inl a) :: st) h := by
  intro Hp locs ls h1 h2 h3 h4
  obtain ⟨⟨g1, g2, g3⟩, hv, g4⟩ := H
  obtain ⟨ha, hbs, -⟩ := h1.2.1 a (by omega)
  obtain ⟨q1, q2⟩ := (h1.2.2.2 a).1 (Or.inl g1)
  have h5 := kk _ g4
  show W p l e R s m args below meth c Hp locs cells slots Qf (F0 m pc ls (.int (Int32.ofInt v) :: .int (Int32.ofInt i) :: zrf a :: st.map zen))
  rw [zrf_pos ha]
  rw [g1] at q1
  refine W.iast hc.1 hc.2.1 q1 (z_arrOf hc (t := 1) (by omega) (by omega) _ _) (fun q => by cases q) (by show ¬ (_ ∨ (arrV _ _ _).slots.size ≤ _); rw [arrV_size]; exact z_vpin g2 g3 q2) rfl rfl hd fun H' e1 e2 e3 => ?_
  refine h5 H' _ ls (h1.set rfl (h1.inI hv) (fun b hb => ⟨fun j => by rw [zI_sI, if_neg (fun q => hb q.1)], fun j => rfl⟩) e2 e3 ha ?_) (fun q hq => by rw [e3 q (Nat.ne_of_lt (show (q : Nat) < a - 1 by omega))]; exact h2 q hq) (fun q hq => ?_) h4
  · refine ⟨fun _ => ⟨?_, q2⟩, fun q => by rw [zkd_sI] at q; omega, fun q => by rw [zkd_sI] at q; omega⟩
    rw [e1, zkd_sI, g1, arrV_store, z_clamp g2 (by omega)]
    refine congrArg (fun z => some (arrV _ _ z)) (z_upd ?_ ?_)
    · show Value.int _ = _
      rw [zI_sI, Int.toNat_of_nonneg g2, if_pos ⟨rfl, rfl⟩]
    · intro j hj
      show Value.int _ = _
      rw [zI_sI, if_neg (fun q => hj (by omega))]
  · rcases List.mem_append.mp hq with h9 | h9
    · exact h3 q h9
    · rw [List.mem_singleton.mp h9]
      show base ≤ a - 1 + 1
      omega
theorem z_aastore (hc : zOk p s m args meth c D cc nL own ret) {t d ci a v : Nat} {C : String} {T : u_T} {N : Nat} {i : Int} {Q : Zm → Prop} (hd : decode cc pc = .ok (.aastore, 1)) (ht : 4 ≤ t ∧ t ≤ 7) (hd0 : d = 10 + ci) (hcl : vwCl[ci]? = some (C, T, N)) (hta : zaty t = .object C) (H : cStR h t d a i v Q) (kk : ∀ h' : Zm, Q h' → zW p l e R s m args below meth c D base nL Qf cells slots (pc + 1) ρ st h') : zW p l e R s m args below meth c D base nL Qf cells slots pc ρ (.inr (.inl v) :: .inl i :: .inr (.inl a) :: st) h := by
  intro Hp locs ls h1 h2 h3 h4
  obtain ⟨⟨g1, g2, g3⟩, hv, g4⟩ := H
  obtain ⟨ha, hbs, -⟩ := h1.2.1 a (by omega)
  obtain ⟨hav, -, -⟩ := h1.2.1 v (by omega)
  obtain ⟨q1, q2⟩ := (h1.2.2.2 a).2.1 (by omega)
  obtain ⟨-, cellV, r1, r2, r3, -⟩ := (h1.2.2.2 v).2.2 (by omega)
  have h5 := kk _ g4
  show W p l e R s m args below meth c Hp locs cells slots Qf (F0 m pc ls (zrf v :: .int (Int32.ofInt i) :: zrf a :: st.map zen))
  rw [zrf_pos ha, zrf_pos hav]
  have e0 : (zkd h v).1 - 10 = ci := by omega
  rw [e0] at r2
  have hcls : ClassAt s C (D.1.1 ci) := (hc.2.2.2.2.2.2.2.1 ci _ hcl).2
  have hRA := (hc.2.2.2.2.2.2.2.2 t (by omega) (by omega)).2
  rw [hta] at hRA
  obtain ⟨kA, comp, k1, k2, k3, -⟩ := hRA
  have hcomp : comp = D.1.1 ci := Option.some.inj (k3.symm.trans hcls.1)
  subst hcomp
  obtain ⟨kC, hkC, -⟩ := hcls.2
  rw [g1] at q1
  refine W.aast hc.1 hc.2.1 q1 (fun q h => by cases h) (fun h => by cases h) k1 k2 rfl hkC ⟨?_, by show _ < (arrV _ _ _).slots.size; rw [arrV_size, z_clamp g2 (by omega)]; omega⟩ r1 (fun q h => by rw [r3] at h; cases h) (by rw [r2]; exact hkC) (by rw [r2]; exact va_assign hcls) rfl rfl hd fun H' e1 e2 e3 => ?_
  · rw [z_0, z_lt ⟨by omega, by omega⟩ z_in0]
    omega
  refine h5 H' _ ls (h1.set rfl (fun b j => h1.2.2.1 b j) (fun b hb => ⟨fun j => rfl, fun j => by rw [zR_sR, if_neg (fun q => hb q.1)]⟩) e2 e3 ha ?_) (fun q hq => by rw [e3 q (Nat.ne_of_lt (show (q : Nat) < a - 1 by omega))]; exact h2 q hq) (fun q hq => ?_) h4
  · refine ⟨fun q => by rw [zkd_sR] at q; omega, fun _ => ⟨?_, q2⟩, fun q => by rw [zkd_sR] at q; omega⟩
    rw [e1, zkd_sR, g1, arrV_store, z_clamp g2 (by omega)]
    refine congrArg (fun z => some (arrV _ _ z)) (z_upd ?_ ?_)
    · show zrf _ = _
      rw [zR_sR, Int.toNat_of_nonneg g2, if_pos ⟨rfl, rfl⟩, zrf_pos hav]
    · intro j hj
      show zrf _ = _
      rw [zR_sR, if_neg (fun q => hj (by omega))]
  · rcases List.mem_append.mp hq with h9 | h9
    · exact h3 q h9
    · rw [List.mem_singleton.mp h9]
      show base ≤ a - 1 + 1
      omega
end ZM
end
section
/-! new cells, returns, calls, contracts -/
theorem zGoodIn {y : MethodName} {b : ByteArray} {n : Nat} {ret : Option FieldType} (h : Cond.code y b n ret ∈ zT) : GoodIn zT (Cond.code y b n ret :: zT) := by
  intro w hw
  rcases List.mem_cons.mp hw with rfl | h1
  · exact ⟨h, good_of_word (z_good _ h)⟩
  · exact ⟨h1, good_of_word (z_good _ h1)⟩
def zPc (D : Zd) (base : Nat) (av : List Zv) (h : Zm) : Array Value → State → Prop := fun a U => a = (av.map zen).toArray ∧ (zKn D U ∧ zNs U) ∧ zRep D base h U.heap
def zOld (base : Nat) (st t : State) : Prop := ∀ q : Nat, q + 1 < base → t.heap[q]? = st.heap[q]?
def zQi (D : Zd) (base : Nat) (Q : Int → Zm → Prop) : Array Value → State → Outcome → State → Prop := fun _ st o t => (∃ (v : Int) (h' : Zm), o = .returned (some (.int (Int32.ofInt v))) ∧ Q v h' ∧ zRep D base h' t.heap) ∧ zOld base st t
def zQr (D : Zd) (base : Nat) (Q : Nat → Zm → Prop) : Array Value → State → Outcome → State → Prop := fun _ st o t => (∃ (v : Nat) (h' : Zm), o = .returned (some (zrf v)) ∧ Q v h' ∧ zRep D base h' t.heap) ∧ zOld base st t
def zQv (D : Zd) (base : Nat) (Q : Zm → Prop) : Array Value → State → Outcome → State → Prop := fun _ st o t => (∃ h' : Zm, o = .returned none ∧ Q h' ∧ zRep D base h' t.heap) ∧ zOld base st t
def zFree (base : Nat) : Addr → Prop := fun q => base ≤ q + 1
/-- a method's contract over the small machine -/
def zMet (l : Launch) (D : Zd) (base : Nat) (y : MethodName) (b : ByteArray) (n : Nat) (ret : Option FieldType) (rm : Room) (av : List Zv) (h : Zm) (Qc : Array Value → State → Outcome → State → Prop) : Prop :=
  Met l y (Cond.code y b n ret :: zT) rm (zPc D base av h) Qc rm.cells rm.slots (zFree base)
theorem zPc_blind {D : Zd} {base : Nat} {av : List Zv} {h : Zm} : FrameBlind (zPc D base av h) := fun a U g mk q => ⟨q.1, ⟨zKn.moved (u := U) (U := U.calling g mk a) (Vm.Alike.refl _) q.2.1.1, zNs.same (s := U) (U := U.calling g mk a) rfl q.2.1.2⟩, q.2.2⟩
theorem zRep.new {D : Zd} {base t n : Nat} {h : Zm} {H H' : Heap} (hR : zRep D base h H) (hz : H'.size = H.size + 1) (ho : ∀ q : Nat, q < H.size → H'[q]? = H[q]?) (ha : zAt D (zal h t n) h.1.2 H') : zRep D base (zal h t n) H' := by
  obtain ⟨⟨r1, r0⟩, r2, r3, r4⟩ := hR
  have hne : ∀ b, b ≠ h.1.2 → zkd (zal h t n) b = zkd h b := fun b hb => if_neg hb
  refine ⟨⟨by rw [hz]; show _ = h.1.2 + 1; omega, by show base ≤ h.1.2 + 1; omega⟩, fun b hb => ?_, fun b j => ?_, fun b => ?_⟩
  · show 1 ≤ b ∧ base ≤ b ∧ b < h.1.2 + 1
    by_cases e : b = h.1.2
    · omega
    · rw [hne b e] at hb
      have := r2 b hb
      omega
  · show InR (if b = h.1.2 then 0 else h.2.1 b j)
    split
    · exact z_in0
    · exact r3 b j
  · by_cases e : b = h.1.2
    · subst e
      exact ha
    · by_cases q : (zkd h b).1 = 0
      · exact zAt_none (by rw [hne b e]; exact q)
      · have := r2 b q
        refine (r4 b).kept (hne b e) (fun j => if_neg e) (fun j => if_neg e) (ho _ ?_)
        omega
theorem zal_kd {h : Zm} {t n : Nat} : zkd (zal h t n) h.1.2 = (t, n) := if_pos rfl
theorem zal_I {h : Zm} {t n : Nat} {j : Int} : zI (zal h t n) h.1.2 j = 0 := if_pos rfl
theorem zal_R {h : Zm} {t n : Nat} {j : Int} : zR (zal h t n) h.1.2 j = 0 := if_pos rfl
section ZC
variable {p : Program} {l : Launch} {e : Env} {R : Room} {s : State} {m : MethodId} {args : Array Value} {below : List Frame} {meth : Method} {c : Code} {D : Zd} {base nL : Nat} {Qf : State → Prop} {cells slots pc : Nat} {ρ : List (Option Zv)} {st : List Zv} {h : Zm} {cc : ByteArray} {own : String} {ret : Option FieldType}
theorem z_new (hc : zOk p s m args meth c D cc nL own ret) {x ci N : Nat} {C : String} {T : u_T} (hd : decode cc pc = .ok (.new x, 3)) (hC : zCf ci C T N) (hdf : ∀ k, k < N → defaultValue (zty ci k) = zF ci k 0 0) (hw1 : Cond.classLink own x C ∈ zT) (hw2 : Cond.instantiable C N ∈ zT) (hw3 : Cond.initialized C ∈ zT) (hcells : cells + 1 ≤ R.cells) (hslots : slots + N ≤ R.slots) {Q : Nat → Zm → Prop} (H : cNw h (10 + ci) N Q) (kk : ∀ (a : Nat) (h' : Zm), Q a h' → zW p l e R s m args below meth c D base nL Qf (cells + 1) (slots + N) (pc + 3) ρ (.inr (.inl a) :: st) h') : zW p l e R s m args below meth c D base nL Qf cells slots pc ρ st h := by
  intro Hp locs ls h1 h2 h3 h4
  have hKn : u_Kn s C T N (D.1.1 ci) (D.1.2 ci) := hc.2.2.2.2.2.2.2.1 ci _ hC.1
  refine W.newcK hc.1 hc.2.1 hc.2.2.2.1 (hc.2.2.2.2.1 _ hw1) (hc.2.2.2.2.1 _ hw2) (hc.2.2.2.2.1 _ hw3) rfl hd hcells hslots hKn.2.1 rfl fun H1 kC hkC e1 z1 o1 => ?_
  have hs := h1.1.1
  have hb := u_born (zty ci) hc.2.2.2.2.1 hC.2.2.1 hKn hkC e1 hC.2.2.2.1
  have h5 := kk _ _ H H1 locs ls (h1.new z1 o1 ?_) (fun q hq => by rw [o1 q (by have := h1.1.2; omega)]; exact h2 q hq) h3 h4
  · have e2 : (Value.ref Hp.size : Value) = zen (.inr (.inl h.1.2)) := by
      show _ = zrf h.1.2
      rw [← hs]
      rfl
    show W p l e R s m args below meth c H1 locs (cells + 1) (slots + N) Qf (F0 m (pc + 3) ls (.ref Hp.size :: st.map zen))
    rw [e2]
    exact h5
  · refine ⟨fun q => by rw [zal_kd] at q; omega, fun q => by rw [zal_kd] at q; omega, fun q => ⟨by rw [zal_kd]; have := z_ci hC; show 10 + ci < 18; omega, ?_⟩⟩
    rw [zal_kd]
    show t_OB (h.1.2 - 1) (D.1.1 (10 + ci - 10)) (zN (10 + ci - 10)) (D.1.2 (10 + ci - 10)) H1 _
    rw [show 10 + ci - 10 = ci by omega, hC.2.1, show h.1.2 - 1 = Hp.size by omega]
    refine hb.to fun k hk => ?_
    rw [hdf k hk, zal_I, zal_R]
theorem z_newarr (hc : zOk p s m args meth c D cc nL own ret) {at0 : ArrayType} {t n : Nat} (hd : decode cc pc = .ok (.newarray at0, 2)) (ht : t = 1 ∨ t = 2) (hty : newarray.typeOf at0 = zaty t) (hw : Cond.arrayClass (zaty t) ∈ zT) (hn : n < 1000000) (hcells : cells + 1 ≤ R.cells) (hslots : slots + n ≤ R.slots) {Q : Nat → Zm → Prop} (H : cNw h t n Q) (kk : ∀ (a : Nat) (h' : Zm), Q a h' → zW p l e R s m args below meth c D base nL Qf (cells + 1) (slots + n) (pc + 2) ρ (.inr (.inl a) :: st) h') : zW p l e R s m args below meth c D base nL Qf cells slots pc ρ (.inl (n : Int) :: st) h := by
  intro Hp locs ls h1 h2 h3 h4
  have hN : (Int32.ofInt (n : Int)).toNatClampNeg = n := by
    rw [z_clamp (by omega) (by omega)]
    rfl
  have hneg : ¬ Int32.ofInt (n : Int) < 0 := by
    rw [z_0, z_lt ⟨by omega, by omega⟩ z_in0]
    omega
  have hcb : componentBytes (newarray.typeOf at0) ≤ 4 := by
    rw [hty]
    rcases ht with rfl | rfl <;> decide
  have hby : n * componentBytes (newarray.typeOf at0) ≤ 536870912 := Nat.le_trans (Nat.mul_le_mul_left n hcb) (by omega)
  refine va_newaK hc.1 hc.2.1 (by rw [hty]; exact hc.2.2.2.2.1 _ hw) rfl hd rfl hneg hN hby hcells hslots rfl fun H1 cA e1 z1 o1 hAr hNm => ?_
  have hs := h1.1.1
  have hcA : cA = D.2 t := by
    have hRA := (hc.2.2.2.2.2.2.2.2 t (by omega) (by omega)).2
    rw [hty] at hNm
    have : s.vm.findClass ("[" ++ (zaty t).toString) = some (D.2 t) := by
      rcases ht with rfl | rfl <;> exact hRA
    exact Option.some.inj (hNm.symm.trans this)
  subst hcA
  have h5 := kk _ _ H H1 locs ls (h1.new z1 o1 ?_) (fun q hq => by rw [o1 q (by have := h1.1.2; omega)]; exact h2 q hq) h3 h4
  · have e2 : (Value.ref Hp.size : Value) = zen (.inr (.inl h.1.2)) := by
      show _ = zrf h.1.2
      rw [← hs]
      rfl
    show W p l e R s m args below meth c H1 locs (cells + 1) (slots + n) Qf (F0 m (pc + 2) ls (.ref Hp.size :: st.map zen))
    rw [e2]
    exact h5
  · refine ⟨fun q => ⟨?_, by rw [zal_kd]; show n < _; omega⟩, fun q => by rw [zal_kd] at q; omega, fun q => by rw [zal_kd] at q; omega⟩
    rw [zal_kd, show h.1.2 - 1 = Hp.size by omega, e1, hty]
    refine congrArg (fun z => some (arrV _ _ z)) (funext fun j => ?_)
    rw [zal_I]
    rcases ht with rfl | rfl <;> rfl
theorem z_anew (hc : zOk p s m args meth c D cc nL own ret) {x t n : Nat} {C : String} (hd : decode cc pc = .ok (.anewarray x, 3)) (ht : 4 ≤ t ∧ t ≤ 6) (hty : zaty t = .object C) (hw1 : Cond.classLink own x C ∈ zT) (hw2 : C ∈ zAoc) (hn : n < 1000000) (hcells : cells + 1 ≤ R.cells) (hslots : slots + n ≤ R.slots) {Q : Nat → Zm → Prop} (H : cNw h t n Q) (kk : ∀ (a : Nat) (h' : Zm), Q a h' → zW p l e R s m args below meth c D base nL Qf (cells + 1) (slots + n) (pc + 3) ρ (.inr (.inl a) :: st) h') : zW p l e R s m args below meth c D base nL Qf cells slots pc ρ (.inl (n : Int) :: st) h := by
  intro Hp locs ls h1 h2 h3 h4
  have hN : (Int32.ofInt (n : Int)).toNatClampNeg = n := by
    rw [z_clamp (by omega) (by omega)]
    rfl
  have hneg : ¬ Int32.ofInt (n : Int) < 0 := by
    rw [z_0, z_lt ⟨by omega, by omega⟩ z_in0]
    omega
  refine W.anew hc.1 hc.2.1 hc.2.2.2.1 (hc.2.2.2.2.1 _ hw1) (va_AO.use (hc.2.2.2.2.2.1.2.2.1 _ hw2)) rfl hd rfl hneg (by rw [hN]; omega) hcells (by rw [hN]; exact hslots) fun cA kA comp f1 f2 f3 f4 => ?_
  rw [hN]
  generalize hH1 : Hp.push ({ cls := cA, slots := Array.replicate n .null, vm := .none } : Cell) = H1
  have z1 : H1.size = Hp.size + 1 := by rw [← hH1, Array.size_push]
  have e1 : H1[Hp.size]? = some (arrV cA n (fun _ => .null)) := by rw [← hH1, Array.getElem?_push_size, ← arrV_new]
  have o1 : ∀ q : Nat, q < Hp.size → H1[q]? = Hp[q]? := fun q hq => by rw [← hH1, Array.getElem?_push, if_neg (Nat.ne_of_lt hq)]
  have hs := h1.1.1
  have hcA : cA = D.2 t := by
    have hRA := (hc.2.2.2.2.2.2.2.2 t (by omega) (by omega)).2
    rw [hty] at hRA
    obtain ⟨_, _, _, _, _, h9⟩ := hRA
    exact Option.some.inj (f1.symm.trans h9)
  subst hcA
  have h5 := kk _ _ H H1 locs ls (h1.new z1 o1 ?_) (fun q hq => by rw [o1 q (by have := h1.1.2; omega)]; exact h2 q hq) h3 h4
  · have e2 : (Value.ref Hp.size : Value) = zen (.inr (.inl h.1.2)) := by
      show _ = zrf h.1.2
      rw [← hs]
      rfl
    show W p l e R s m args below meth c H1 locs (cells + 1) (slots + n) Qf (F0 m (pc + 3) ls (.ref Hp.size :: st.map zen))
    rw [e2]
    exact h5
  · refine ⟨fun q => by rw [zal_kd] at q; omega, fun q => ⟨?_, by rw [zal_kd]; show n < _; omega⟩, fun q => by rw [zal_kd] at q; omega⟩
    rw [zal_kd, show h.1.2 - 1 = Hp.size by omega, e1]
    refine congrArg (fun z => some (arrV _ _ z)) (funext fun j => ?_)
    rw [zal_R]
    rfl
theorem z_objInit (hc : zOk p s m args meth c D cc nL own ret) {x a : Nat} (hd : decode cc pc = .ok (.invokespecial x, 3)) (hw1 : Cond.methodLink own x objectInit ∈ zT) (hw2 : Cond.instanceMethod objectInit ∈ zT) (hw3 : Cond.code objectInit ⟨#[0xb1]⟩ 1 none ∈ zT) (hfr : 1 ≤ R.frames) (hlo : 20 ≤ R.locals) (h8 : zlen st ≤ 8) {d : Nat} (hd0 : 1 ≤ d) {P : Prop} (H : cRc h d a P) (kk : P → zW p l e R s m args below meth c D base nL Qf cells slots (pc + 3) ρ st h) : zW p l e R s m args below meth c D base nL Qf cells slots pc ρ (.inr (.inl a) :: st) h := by
  intro Hp locs ls h1 h2 h3 h4
  have h5 := kk H.2 Hp locs ls h1 h2 h3 h4
  have ha : 1 ≤ a := (h1.2.1 a (by rw [H.1]; omega)).1
  show W p l e R s m args below meth c Hp locs cells slots Qf (F0 m pc ls (zrf a :: st.map zen))
  rw [zrf_pos ha]
  have hcat : ((st.map zen).map fun v => v.category).sum ≤ 8 := by
    have : ∀ z : List Zv, ((z.map zen).map fun v => v.category).sum = zlen z := fun z => by
      induction z with
      | nil => rfl
      | cons x xs ih =>
        rw [List.map_cons, List.map_cons, List.sum_cons, ih, zen_cat]
        rfl
    rw [this]
    exact h8
  exact W.objInit hc.1 hc.2.1 hc.2.2.2.1 (hc.2.2.2.2.1 _ hw1) (hc.2.2.2.2.1 _ hw2) (hc.2.2.2.2.1 _ hw3) rfl (by rw [hc.2.2.1]; exact h4.1) rfl hd hfr (by have := lv_room (m := m) (pc := pc) (ls := ls) (rest := Value.ref (a - 1) :: st.map zen) (st := st.map zen) hcat; omega) h5
theorem z_ireturn (hc : zOk p s m args meth c D cc nL own (some .int)) {v : Int} {Q : Int → Zm → Prop} (hd : decode cc pc = .ok (.ireturn, 1)) (H : Q v h) : zW p l e R s m args below meth c D base nL (MQ below (zQi D base Q) args s cells slots (zFree base)) cells slots pc ρ [.inl v] h := by
  intro Hp locs ls h1 h2 h3 h4
  exact W.iret (v := Int32.ofInt v) hc.1 hc.2.1 hc.2.2.2.2.2.2.1 (fun t ht hW => ⟨⟨v, h, rfl, H, by rw [ht]; exact h1⟩, fun q hq => by rw [ht]; exact h2 q hq⟩) h3 hd (hlocks := hc.2.2.2.2.2.1.1)
theorem z_zreturn (hc : zOk p s m args meth c D cc nL own (some .boolean)) {v : Int} {Q : Int → Zm → Prop} (hd : decode cc pc = .ok (.ireturn, 1)) (H : cBr v (Q v h)) : zW p l e R s m args below meth c D base nL (MQ below (zQi D base Q) args s cells slots (zFree base)) cells slots pc ρ [.inl v] h := by
  intro Hp locs ls h1 h2 h3 h4
  have hn : narrow .boolean (.int (Int32.ofInt v)) = .int (Int32.ofInt v) := by
    rcases H.1 with rfl | rfl
    · exact narrow_b0
    · exact narrow_b1
  exact W.zret (v := Int32.ofInt v) hc.1 hc.2.1 hc.2.2.2.2.2.2.1 hn (fun t ht hW => ⟨⟨v, h, rfl, H.2, by rw [ht]; exact h1⟩, fun q hq => by rw [ht]; exact h2 q hq⟩) h3 hd (hlocks := hc.2.2.2.2.2.1.1)
theorem z_areturn {rt : FieldType} (hc : zOk p s m args meth c D cc nL own (some rt)) {v : Nat} {Q : Nat → Zm → Prop} (hrt : (∃ n, rt = .object n) ∨ ∃ t, rt = .array t) (hd : decode cc pc = .ok (.areturn, 1)) (H : Q v h) : zW p l e R s m args below meth c D base nL (MQ below (zQr D base Q) args s cells slots (zFree base)) cells slots pc ρ [.inr (.inl v)] h := by
  intro Hp locs ls h1 h2 h3 h4
  exact W.aret (v := zrf v) hc.1 hc.2.1 hc.2.2.2.2.2.2.1 hrt (by cases v; exact Or.inl rfl; exact Or.inr ⟨_, rfl⟩) (fun t ht hW => ⟨⟨v, h, rfl, H, by rw [ht]; exact h1⟩, fun q hq => by rw [ht]; exact h2 q hq⟩) h3 hd (hlocks := hc.2.2.2.2.2.1.1)
theorem z_return (hc : zOk p s m args meth c D cc nL own none) {Q : Zm → Prop} (hd : decode cc pc = .ok (.return_, 1)) (H : Q h) : zW p l e R s m args below meth c D base nL (MQ below (zQv D base Q) args s cells slots (zFree base)) cells slots pc ρ [] h := by
  intro Hp locs ls h1 h2 h3 h4
  exact W.vret hc.1 hc.2.1 hc.2.2.2.2.2.2.1 (fun t ht hW => ⟨⟨h, rfl, H, by rw [ht]; exact h1⟩, fun q hq => by rw [ht]; exact h2 q hq⟩) h3 hd (hlocks := hc.2.2.2.2.2.1.1)
/-- behind a call -/
theorem z_ran {Qc : Array Value → State → Outcome → State → Prop} {a : Array Value} {mc ms : Nat} {sts : List Value} {P : Option Value → Zm → Prop} (hr : ∀ (H : Heap) (locs : List Loc) (ls : Array Slot), zRep D base h H → zL ls nL ρ → va_Run p l e R s m args below meth c H locs cells slots mc ms (F0 m pc ls sts) (st.map zen) (Qc a) (zFree base))
    (hQ : ∀ (u : State) (v : Option Value) (t : State), Qc a u (.returned v) t → ∃ h' : Zm, P v h' ∧ zRep D base h' t.heap ∧ zOld base u t)
    (k : ∀ (v : Option Value) (h' : Zm), P v h' → ∀ (H : Heap) (locs : List Loc) (ls : Array Slot), zRep D base h' H → (∀ q : Nat, q + 1 < base → H[q]? = s.heap[q]?) → (∀ q ∈ locs, base ≤ q.base + 1) → zL ls nL ρ → W p l e R s m args below meth c H locs (cells + mc) (slots + ms) Qf (F0 m (pc + 3) ls (v.toList ++ st.map zen))) :
    ∀ (H : Heap) (locs : List Loc) (ls : Array Slot), zRep D base h H → (∀ q : Nat, q + 1 < base → H[q]? = s.heap[q]?) → (∀ q ∈ locs, base ≤ q.base + 1) → zL ls nL ρ → W p l e R s m args below meth c H locs cells slots Qf (F0 m pc ls sts) := by
  intro H locs ls h1 h2 h3 h4 T hT X
  obtain ⟨v, st₀, t, T', L, h0, X', hL, e1, e2, hq, stp⟩ := hr H locs ls h1 h4 T hT X
  obtain ⟨h', hP, hR', hO⟩ := hQ st₀ v t hq
  obtain ⟨t2, a1, b1⟩ := k v h' hP T'.heap (locs ++ L) ls (by rw [e1]; exact hR') (fun q hq => by rw [e1, hO q hq, h0]; exact h2 q hq) (fun q hq => by
    rcases List.mem_append.mp hq with h9 | h9
    · exact h3 q h9
    · exact hL q h9) h4 T' rfl X'
  exact ⟨t2, stp t2 a1, b1⟩
theorem z_pre {D : Zd} {base : Nat} {av : List Zv} {h : Zm} {H : Heap} (hK : zKn D s) (hN : zNs s) (hR : zRep D base h H) : ∀ U : State, U.heap = H → s.WarmedH U.vm → zPc D base av h (av.map zen).toArray U := fun U hU hW => ⟨rfl, ⟨hK.moved hW.alike, hN.warm hW⟩, by rw [hU]; exact hR⟩
theorem z_cat8 (h8 : zlen st ≤ 8) : ((st.map zen).map fun v => v.category).sum ≤ 8 := by
  have : ∀ z : List Zv, ((z.map zen).map fun v => v.category).sum = zlen z := fun z => by
    induction z with
    | nil => rfl
    | cons x xs ih =>
      rw [List.map_cons, List.map_cons, List.sum_cons, ih, zen_cat]
      rfl
  rw [this]
  exact h8
def zCs (own : String) (x : Nat) (y : MethodName) (b : ByteArray) (n : Nat) (ret : Option FieldType) (k : Nat) : Prop := (Cond.methodLink own x y ∈ zT ∧ Cond.static y ∈ zT ∧ Cond.initialized y.cls ∈ zT ∧ Cond.code y b n ret ∈ zT) ∧ y.cls ≠ "java/lang/invoke/MethodHandle" ∧ y.cls ≠ "java/lang/invoke/VarHandle" ∧ (parseMethodDescriptor y.desc).map (fun d => d.parameters.length) = some k
def zCn (own : String) (x : Nat) (y : MethodName) (host : String) (b : ByteArray) (n : Nat) (ret : Option FieldType) (k : Nat) : Prop := ((own, x, y, host) ∈ zNl ∧ Cond.static y ∈ zT ∧ Cond.initialized y.cls ∈ zT ∧ Cond.code y b n ret ∈ zT) ∧ y.cls ≠ "java/lang/invoke/MethodHandle" ∧ y.cls ≠ "java/lang/invoke/VarHandle" ∧ (parseMethodDescriptor y.desc).map (fun d => d.parameters.length) = some k
def zCv (own : String) (x : Nat) (y : MethodName) (b : ByteArray) (n : Nat) (ret : Option FieldType) (k : Nat) : Prop := (Cond.methodLink own x y ∈ zT ∧ Cond.instanceMethod y ∈ zT ∧ Cond.selects y.cls y y ∈ zT ∧ Cond.initialized y.cls ∈ zT ∧ Cond.code y b n ret ∈ zT) ∧ y.cls ≠ "java/lang/invoke/MethodHandle" ∧ y.cls ≠ "java/lang/invoke/VarHandle" ∧ (parseMethodDescriptor y.desc).map (fun d => d.parameters.length) = some k
def zCi (own : String) (x : Nat) (y : MethodName) (b : ByteArray) (n : Nat) (k : Nat) : Prop := (Cond.methodLink own x y ∈ zT ∧ Cond.instanceMethod y ∈ zT ∧ y.name = "<init>" ∧ Cond.initialized y.cls ∈ zT ∧ Cond.code y b n none ∈ zT) ∧ y.cls ≠ "java/lang/invoke/MethodHandle" ∧ y.cls ≠ "java/lang/invoke/VarHandle" ∧ (parseMethodDescriptor y.desc).map (fun d => d.parameters.length) = some k
def zRoom (rm R : Room) (n : Nat) : Prop := rm.frames + 1 ≤ R.frames ∧ 8 + (n + 11) + rm.locals ≤ R.locals
theorem z_runS (hc : zOk p s m args meth c D cc nL own ret) {x n k : Nat} {y : MethodName} {b : ByteArray} {rt : Option FieldType} {rm : Room} {av : List Zv} {Qc : Array Value → State → Outcome → State → Prop} (hd : decode cc pc = .ok (.invokestatic x, 3)) (hw : zCs own x y b n rt k) (hM : zMet l D base y b n rt rm av h Qc) (hk : av.length = k) (h8 : zlen st ≤ 8) (hR : zRoom rm R n) (hf : cells + rm.cells ≤ R.cells ∧ slots + rm.slots ≤ R.slots) : ∀ (H : Heap) (locs : List Loc) (ls : Array Slot), zRep D base h H → zL ls nL ρ → va_Run p l e R s m args below meth c H locs cells slots rm.cells rm.slots (F0 m pc ls ((av.map zen).reverse ++ st.map zen)) (st.map zen) (Qc (av.map zen).toArray) (zFree base) := by
  intro H locs ls h1 h4
  obtain ⟨⟨w1, w2, w3, w4⟩, w5⟩ := hw
  exact va_runS (As := av.map zen) (rest := st.map zen) ⟨hc.1, hc.2.1, hc.2.2.1, hc.2.2.2.1, hc.2.2.2.2.1⟩ hM ⟨callB_of k hc.2.2.2.2.1 (zGoodIn w4) rfl rfl rfl (hc.2.2.2.2.1 _ w3) (hc.2.2.2.2.1 _ w1) w5 hR, hc.2.2.2.2.1 _ w2⟩ ⟨zPc_blind, z_pre hc.2.2.2.2.2.2.2 hc.2.2.2.2.2.1.2 h1⟩ rfl (by rw [List.length_map]; exact hk) h4.1 rfl (lv_room (z_cat8 h8)) hd hf
theorem z_runN (hc : zOk p s m args meth c D cc nL own ret) {x n k : Nat} {y : MethodName} {host : String} {b : ByteArray} {rt : Option FieldType} {rm : Room} {av : List Zv} {Qc : Array Value → State → Outcome → State → Prop} (hd : decode cc pc = .ok (.invokestatic x, 3)) (hw : zCn own x y host b n rt k) (hM : zMet l D base y b n rt rm av h Qc) (hk : av.length = k) (h8 : zlen st ≤ 8) (hR : zRoom rm R n) (hf : cells + rm.cells ≤ R.cells ∧ slots + rm.slots ≤ R.slots) : ∀ (H : Heap) (locs : List Loc) (ls : Array Slot), zRep D base h H → zL ls nL ρ → va_Run p l e R s m args below meth c H locs cells slots rm.cells rm.slots (F0 m pc ls ((av.map zen).reverse ++ st.map zen)) (st.map zen) (Qc (av.map zen).toArray) (zFree base) := by
  intro H locs ls h1 h4
  obtain ⟨⟨w1, w2, w3, w4⟩, w5⟩ := hw
  exact va_runSN (As := av.map zen) (rest := st.map zen) ⟨hc.1, hc.2.1, hc.2.2.1, hc.2.2.2.1, hc.2.2.2.2.1⟩ hM ⟨va_cnB k hc.2.2.2.2.1 (zGoodIn w4) rfl rfl rfl (hc.2.2.2.2.2.1.2.1 _ w1) (hc.2.2.2.2.1 _ w3) w5 hR, hc.2.2.2.2.1 _ w2, trivial⟩ ⟨zPc_blind, z_pre hc.2.2.2.2.2.2.2 hc.2.2.2.2.2.1.2 h1⟩ rfl (by rw [List.length_map]; exact hk) h4.1 rfl (lv_room (z_cat8 h8)) hd hf
theorem z_runV (hc : zOk p s m args meth c D cc nL own ret) {x n k a ci N : Nat} {T : u_T} {y : MethodName} {b : ByteArray} {rt : Option FieldType} {rm : Room} {av : List Zv} {Qc : Array Value → State → Outcome → State → Prop} (hd : decode cc pc = .ok (.invokevirtual x, 3)) (hw : zCv own x y b n rt k) (hM : zMet l D base y b n rt rm (.inr (.inl a) :: av) h Qc) (hk : av.length = k) (h8 : zlen st ≤ 8) (hR : zRoom rm R n) (hf : cells + rm.cells ≤ R.cells ∧ slots + rm.slots ≤ R.slots) (hcl : vwCl[ci]? = some (y.cls, T, N)) (ha : (zkd h a).1 = 10 + ci) : ∀ (H : Heap) (locs : List Loc) (ls : Array Slot), zRep D base h H → zL ls nL ρ → va_Run p l e R s m args below meth c H locs cells slots rm.cells rm.slots (F0 m pc ls ((av.map zen).reverse ++ zrf a :: st.map zen)) (st.map zen) (Qc ((.inr (.inl a) :: av).map zen).toArray) (zFree base) := by
  intro H locs ls h1 h4
  obtain ⟨⟨w1, w2, w3, w4, w6⟩, w5⟩ := hw
  obtain ⟨ha1, -, -⟩ := h1.2.1 a (by omega)
  obtain ⟨-, cellB, r1, r2, r3, -⟩ := (h1.2.2.2 a).2.2 (by omega)
  rw [ha, show 10 + ci - 10 = ci by omega] at r2
  have hcls := hc.2.2.2.2.2.2.2.1 ci _ hcl
  have hfc : s.vm.findClass y.cls = some cellB.cls := by rw [r2]; exact hcls.2.1
  have e0 : (Qc ((.inr (.inl a) :: av).map zen).toArray) = Qc (Value.ref (a - 1) :: av.map zen).toArray := by
    rw [List.map_cons]
    show Qc (zrf a :: av.map zen).toArray = _
    rw [zrf_pos ha1]
  have hpre : ∀ U : State, U.heap = H → s.WarmedH U.vm → zPc D base (.inr (.inl a) :: av) h (Value.ref (a - 1) :: av.map zen).toArray U := fun U hU hW => by
    have := z_pre (s := s) (av := .inr (.inl a) :: av) hc.2.2.2.2.2.2.2 hc.2.2.2.2.2.1.2 h1 U hU hW
    rw [List.map_cons] at this
    have e : zen (.inr (.inl a)) = Value.ref (a - 1) := zrf_pos ha1
    rw [e] at this
    exact this
  rw [e0, zrf_pos ha1]
  exact va_runV (As := av.map zen) (rest := st.map zen) (C := y.cls) ⟨hc.1, hc.2.1, hc.2.2.1, hc.2.2.2.1, hc.2.2.2.2.1⟩ hM ⟨callB_of k hc.2.2.2.2.1 (zGoodIn w6) rfl rfl rfl (hc.2.2.2.2.1 _ w4) (hc.2.2.2.2.1 _ w1) w5 hR, hc.2.2.2.2.1 _ w2, hc.2.2.2.2.1 _ w3⟩ ⟨zPc_blind, ⟨cellB, r1, by rw [r3]; rfl, hfc⟩, hpre⟩ rfl (by rw [List.length_map]; exact hk) h4.1 rfl (lv_room (z_cat8 h8)) hd hf
theorem z_runI (hc : zOk p s m args meth c D cc nL own ret) {x n k a : Nat} {y : MethodName} {b : ByteArray} {rm : Room} {av : List Zv} {Qc : Array Value → State → Outcome → State → Prop} (hd : decode cc pc = .ok (.invokespecial x, 3)) (hw : zCi own x y b n k) (hM : zMet l D base y b n none rm (.inr (.inl a) :: av) h Qc) (hk : av.length = k) (h8 : zlen st ≤ 8) (hR : zRoom rm R n) (hf : cells + rm.cells ≤ R.cells ∧ slots + rm.slots ≤ R.slots) {d : Nat} (hd0 : 1 ≤ d) (ha0 : (zkd h a).1 = d) : ∀ (H : Heap) (locs : List Loc) (ls : Array Slot), zRep D base h H → zL ls nL ρ → va_Run p l e R s m args below meth c H locs cells slots rm.cells rm.slots (F0 m pc ls ((av.map zen).reverse ++ zrf a :: st.map zen)) (st.map zen) (Qc ((.inr (.inl a) :: av).map zen).toArray) (zFree base) := by
  intro H locs ls h1 h4
  have ha : 1 ≤ a := (h1.2.1 a (by rw [ha0]; omega)).1
  obtain ⟨⟨w1, w2, w3, w4, w6⟩, w5⟩ := hw
  have e0 : (Qc ((.inr (.inl a) :: av).map zen).toArray) = Qc (Value.ref (a - 1) :: av.map zen).toArray := by
    rw [List.map_cons]
    show Qc (zrf a :: av.map zen).toArray = _
    rw [zrf_pos ha]
  have hpre : ∀ U : State, U.heap = H → s.WarmedH U.vm → zPc D base (.inr (.inl a) :: av) h (Value.ref (a - 1) :: av.map zen).toArray U := fun U hU hW => by
    have := z_pre (s := s) (av := .inr (.inl a) :: av) hc.2.2.2.2.2.2.2 hc.2.2.2.2.2.1.2 h1 U hU hW
    rw [List.map_cons] at this
    have e : zen (.inr (.inl a)) = Value.ref (a - 1) := zrf_pos ha
    rw [e] at this
    exact this
  rw [e0, zrf_pos ha]
  exact va_runI (As := av.map zen) (rest := st.map zen) ⟨hc.1, hc.2.1, hc.2.2.1, hc.2.2.2.1, hc.2.2.2.2.1⟩ hM ⟨callB_of k hc.2.2.2.2.1 (zGoodIn w6) rfl rfl rfl (hc.2.2.2.2.1 _ w4) (hc.2.2.2.2.1 _ w1) w5 hR, w3, hc.2.2.2.2.1 _ w2⟩ ⟨zPc_blind, hpre⟩ rfl (by rw [List.length_map]; exact hk) h4.1 rfl (lv_room (z_cat8 h8)) hd hf
end ZC
end
section
/-! calls as steps, a method's contract out of its walk, new int[n][k], a switch, the script -/
section ZS
variable {p : Program} {l : Launch} {e : Env} {R : Room} {s : State} {m : MethodId} {args : Array Value} {below : List Frame} {meth : Method} {c : Code} {D : Zd} {base nL : Nat} {Qf : State → Prop} {cells slots pc : Nat} {ρ : List (Option Zv)} {st : List Zv} {h : Zm} {cc : ByteArray} {own : String} {ret : Option FieldType}
theorem z_calI {rm : Room} {sts : List Value} {stk : List Zv} {a : Array Value} {Q : Int → Zm → Prop} (hr : ∀ (H : Heap) (locs : List Loc) (ls : Array Slot), zRep D base h H → zL ls nL ρ → va_Run p l e R s m args below meth c H locs cells slots rm.cells rm.slots (F0 m pc ls sts) (st.map zen) (zQi D base Q a) (zFree base)) (hst : stk.map zen = sts) (hz : rm.cells = 0 ∧ rm.slots = 0) (k : ∀ r h', Q r h' → zW p l e R s m args below meth c D base nL Qf cells slots (pc + 3) ρ (.inl r :: st) h') : zW p l e R s m args below meth c D base nL Qf cells slots pc ρ stk h := by
  unfold zW
  rw [hst]
  refine z_ran (P := fun v h' => ∃ r : Int, v = some (.int (Int32.ofInt r)) ∧ Q r h') hr (fun u v t hq => ?_) (fun v h' hP H locs ls h1 h2 h3 h4 => ?_)
  · obtain ⟨⟨r, h', e1, e2, e3⟩, e4⟩ := hq
    cases e1
    exact ⟨h', ⟨r, rfl, e2⟩, e3, e4⟩
  · obtain ⟨r, rfl, hq⟩ := hP
    rw [hz.1, hz.2]
    exact k r h' hq H locs ls h1 h2 h3 h4
theorem z_calR {rm : Room} {sts : List Value} {stk : List Zv} {a : Array Value} {Q : Nat → Zm → Prop} (hr : ∀ (H : Heap) (locs : List Loc) (ls : Array Slot), zRep D base h H → zL ls nL ρ → va_Run p l e R s m args below meth c H locs cells slots rm.cells rm.slots (F0 m pc ls sts) (st.map zen) (zQr D base Q a) (zFree base)) (hst : stk.map zen = sts) (hz : rm.cells = 0 ∧ rm.slots = 0) (k : ∀ r h', Q r h' → zW p l e R s m args below meth c D base nL Qf cells slots (pc + 3) ρ (.inr (.inl r) :: st) h') : zW p l e R s m args below meth c D base nL Qf cells slots pc ρ stk h := by
  unfold zW
  rw [hst]
  refine z_ran (P := fun v h' => ∃ r : Nat, v = some (zrf r) ∧ Q r h') hr (fun u v t hq => ?_) (fun v h' hP H locs ls h1 h2 h3 h4 => ?_)
  · obtain ⟨⟨r, h', e1, e2, e3⟩, e4⟩ := hq
    cases e1
    exact ⟨h', ⟨r, rfl, e2⟩, e3, e4⟩
  · obtain ⟨r, rfl, hq⟩ := hP
    rw [hz.1, hz.2]
    exact k r h' hq H locs ls h1 h2 h3 h4
theorem z_calV {rm : Room} {sts : List Value} {stk : List Zv} {a : Array Value} {Q : Zm → Prop} {mc ms : Nat} (hr : ∀ (H : Heap) (locs : List Loc) (ls : Array Slot), zRep D base h H → zL ls nL ρ → va_Run p l e R s m args below meth c H locs cells slots rm.cells rm.slots (F0 m pc ls sts) (st.map zen) (zQv D base Q a) (zFree base)) (hst : stk.map zen = sts) (hz : rm.cells = mc ∧ rm.slots = ms) (k : ∀ h', Q h' → zW p l e R s m args below meth c D base nL Qf (cells + mc) (slots + ms) (pc + 3) ρ st h') : zW p l e R s m args below meth c D base nL Qf cells slots pc ρ stk h := by
  unfold zW
  rw [hst]
  refine z_ran (P := fun v h' => v = none ∧ Q h') hr (fun u v t hq => ?_) (fun v h' hP H locs ls h1 h2 h3 h4 => ?_)
  · obtain ⟨⟨h', e1, e2, e3⟩, e4⟩ := hq
    cases e1
    exact ⟨h', ⟨rfl, e2⟩, e3, e4⟩
  · obtain ⟨rfl, hq⟩ := hP
    rw [hz.1, hz.2]
    exact k h' hq H locs ls h1 h2 h3 h4
theorem z_calV0 {rm : Room} {sts : List Value} {stk : List Zv} {a : Array Value} {Q : Zm → Prop} (hr : ∀ (H : Heap) (locs : List Loc) (ls : Array Slot), zRep D base h H → zL ls nL ρ → va_Run p l e R s m args below meth c H locs cells slots rm.cells rm.slots (F0 m pc ls sts) (st.map zen) (zQv D base Q a) (zFree base)) (hst : stk.map zen = sts) (hz : rm.cells = 0 ∧ rm.slots = 0) (k : ∀ h', Q h' → zW p l e R s m args below meth c D base nL Qf cells slots (pc + 3) ρ st h') : zW p l e R s m args below meth c D base nL Qf cells slots pc ρ stk h := z_calV hr hst hz k
def lfp0 (F : (Zm → Prop) → Zm → Prop) (h : Zm) : Prop := ∀ X : Zm → Prop, (∀ h, F X h → X h) → X h
def lfp1 (F : (Int → Zm → Prop) → Int → Zm → Prop) (x : Int) (h : Zm) : Prop := ∀ X : Int → Zm → Prop, (∀ x h, F X x h → X x h) → X x h
def lfp2 (F : (Int → Int → Zm → Prop) → Int → Int → Zm → Prop) (x y : Int) (h : Zm) : Prop := ∀ X : Int → Int → Zm → Prop, (∀ x y h, F X x y h → X x y h) → X x y h
def lfp3 (F : (Int → Int → Int → Zm → Prop) → Int → Int → Int → Zm → Prop) (x y z : Int) (h : Zm) : Prop := ∀ X : Int → Int → Int → Zm → Prop, (∀ x y z h, F X x y z h → X x y z h) → X x y z h
def lfp4 (F : (Int → Int → Int → Int → Zm → Prop) → Int → Int → Int → Int → Zm → Prop) (x y z w : Int) (h : Zm) : Prop := ∀ X : Int → Int → Int → Int → Zm → Prop, (∀ x y z w h, F X x y z w h → X x y z w h) → X x y z w h
theorem zc_or (v : Zv) : zc v = 1 ∨ zc v = 2 := by
  match v with
  | .inl x => exact Or.inl rfl
  | .inr (.inl a) => exact Or.inl rfl
  | .inr (.inr x) => exact Or.inr rfl
theorem z_sl : ∀ av : List Zv, (lg_sl (av.map zen)).length = zlen av
  | [] => rfl
  | v :: vs => by
    have ih := z_sl vs
    unfold lg_sl at ih ⊢
    rw [List.map_cons, List.flatMap_cons, List.length_append, ih, zen_cat]
    show _ = zc v + zlen vs
    rcases zc_or v with q | q
    · rw [q, if_neg (by decide)]; rfl
    · rw [q, if_pos rfl]; rfl
/-- all but the last take one place -/
def zfl : List Zv → Bool
  | [] => true
  | [_] => true
  | v :: w :: vs => (zc v == 1) && zfl (w :: vs)
theorem z_args : ∀ (av : List Zv) (k i : Nat) (v : Zv), zfl av = true → av[i]? = some v → (k + i, zen v) ∈ lv_args k (av.map zen)
  | [], k, i, v, _, h => by simp at h
  | x :: xs, k, 0, v, _, h => by
    rw [List.map_cons]
    unfold lv_args
    simp at h
    subst h
    exact List.mem_cons_self
  | [x], k, j + 1, v, _, h => by simp at h
  | x :: y :: ys, k, j + 1, v, hz, h => by
    rw [List.map_cons]
    unfold lv_args
    have hz2 : (zc x == 1) = true ∧ zfl (y :: ys) = true := by
      rw [← Bool.and_eq_true]; exact hz
    rw [zen_cat, beq_iff_eq.mp hz2.1, if_neg (by decide)]
    have := z_args (y :: ys) (k + 1) j v hz2.2 (by simpa using h)
    rw [show k + (j + 1) = k + 1 + j by omega]
    exact List.mem_cons_of_mem _ this
theorem z_met {y : MethodName} {b : ByteArray} {n : Nat} {rm : Room} {av : List Zv} {Qc : Array Value → State → Outcome → State → Prop} (hy : plainFor y = true) (hb : zlen av ≤ n) (hz : zfl av = true)
    (body : ∀ (p : Program) (e : Env) (s : State) (m : MethodId) (args : Array Value) (below : List Frame) (meth : Method) (c : Code), zOk p s m args meth c D b n y.cls ret → meth.name = y.name → zW p l e rm s m args below meth c D base n (MQ below Qc args s rm.cells rm.slots (zFree base)) 0 0 0 (av.map some ++ List.replicate (n - av.length) none) [] h) : zMet l D base y b n ret rm av h Qc := by
  refine va_MetF (cc := b) (maxL := n) (ret := ret) hy rfl ?_
  intro p e s m args below meth c s₁ B hml hv
  obtain ⟨rfl, ⟨hK, hN⟩, hR⟩ := hv
  have hts := atoms_spec (ws := Cond.code y b n ret :: zT) B.pre
  have hk : zOk p s m (av.map zen).toArray meth c D b n y.cls ret := ⟨B.exec, B.bytes, hml, findClass_of_methodNamed B.named, fun w hw => hts w (List.mem_cons_of_mem _ hw), ⟨B.notSynchronized, hN⟩, B.returns, hK⟩
  have hbd := body p e s m _ below meth c hk (name_of_methodNamed B.named B.method).1
  rw [lg_entry_eq]
  have hl := lv_entry (av.map zen) (n := n) (by rw [z_sl]; exact hb)
  refine hbd s.heap [] _ hR (fun q hq => rfl) (fun q hq => by cases hq) ⟨hl.1, hl.2.1, fun i v hi => ?_⟩
  have hi2 : av[i]? = some v := by
    by_cases hlt : i < av.length
    · rw [List.getElem?_append_left (by simpa using hlt), List.getElem?_map] at hi
      cases hq : av[i]? with
      | none => rw [hq] at hi; cases hi
      | some w => rw [hq] at hi; simp at hi; rw [hi]
    · rw [List.getElem?_append_right (by simpa using hlt)] at hi
      have := List.mem_of_getElem? hi
      rw [List.mem_replicate] at this
      cases this.2
  have := z_args av 0 i v hz hi2
  rw [Nat.zero_add] at this
  exact hl.2.2 _ this
def zSw (G : Nat → Prop) (x : Int) : Int → List Nat → Prop
  | _, [] => True
  | lo, t :: ts => (x = lo → G t) ∧ zSw G x (lo + 1) ts
theorem zSw.at {G : Nat → Prop} {x : Int} : ∀ {lo : Int} {ts : List Nat} {j t : Nat}, zSw G x lo ts → ts[j]? = some t → x = lo + j → G t
  | lo, [], j, t, _, h, _ => by simp at h
  | lo, u :: us, 0, t, hz, h, e => by
    simp at h
    subst h
    exact hz.1 (by simpa using e)
  | lo, u :: us, j + 1, t, hz, h, e => zSw.at (lo := lo + 1) (j := j) hz.2 (by simpa using h) (by rw [e]; simp; omega)
theorem z_switch (hc : zOk p s m args meth c D cc nL own ret) {dflt lo hi : Int} {offs : Array Int} {len td : Nat} {x : Int} {tgts : List Nat} (hd : decode cc pc = .ok (.tableswitch dflt lo hi offs, len)) (hx : InR x) (htd : (pc : Int) + dflt = (td : Int)) (hn : hi - lo + 1 = (tgts.length : Int)) (ht : offs.toList.map (fun o => (pc : Int) + o) = tgts.map (fun t : Nat => (t : Int))) (kd : (x < lo ∨ hi < x) → zW p l e R s m args below meth c D base nL Qf cells slots td ρ st h) (kk : zSw (fun t => zW p l e R s m args below meth c D base nL Qf cells slots t ρ st h) x lo tgts) : zW p l e R s m args below meth c D base nL Qf cells slots pc ρ (.inl x :: st) h := by
  intro Hp locs ls h1 h2 h3 h4
  show W p l e R s m args below meth c Hp locs cells slots Qf (F0 m pc ls (.int (Int32.ofInt x) :: st.map zen))
  have hxt := hx.to
  by_cases hq : x < lo ∨ hi < x
  · exact lv_tableOut hc.1 hc.2.1 hd (by rw [hxt]; exact hq) htd (kd hq Hp locs ls h1 h2 h3 h4)
  · have hj : (x - lo).toNat < tgts.length := by omega
    obtain ⟨t, ht2⟩ : ∃ t, tgts[(x - lo).toNat]? = some t := ⟨_, List.getElem?_eq_getElem hj⟩
    have h5 := (zSw.at kk ht2 (by omega)) Hp locs ls h1 h2 h3 h4
    have h6 : (offs.toList.map (fun o => (pc : Int) + o))[(x - lo).toNat]? = some (t : Int) := by
      rw [ht, List.getElem?_map, ht2]
      rfl
    rw [List.getElem?_map] at h6
    cases ho : offs.toList[(x - lo).toNat]? with
    | none => rw [ho] at h6; cases h6
    | some off =>
      rw [ho] at h6
      simp at h6
      exact lv_tableIn (off := off) hc.1 hc.2.1 hd (by rw [hxt]; omega) (by rw [hxt]; omega) (by rw [hxt, ← Array.getElem?_toList]; exact ho) h6 h5
def cSld (L : Nat) (sc : Int → Int) (i : Int) (Q : Int → Prop) : Prop := (0 ≤ i ∧ i < (L : Int)) ∧ Q (sc i)
/-- the law's script: L ints sc, at the reference a0, below base -/
def zScr (s : State) (base L : Nat) (sc : Int → Int) (a0 : Nat) : Prop := ∃ (b : Nat) (xs : Nat → Int32), a0 = b + 1 ∧ (∀ i : Int, sc i = (xs i.toNat).toInt) ∧ va_X b L xs s s.heap ∧ b + 1 < base ∧ L < 2147483648
theorem z_sld (hc : zOk p s m args meth c D cc nL own ret) {a0 L : Nat} {sc : Int → Int} {i : Int} {Q : Int → Prop} (hX : zScr s base L sc a0) (hd : decode cc pc = .ok (.iaload, 1)) (H : cSld L sc i Q) (kk : ∀ v : Int, Q v → zW p l e R s m args below meth c D base nL Qf cells slots (pc + 1) ρ (.inl v :: st) h) : zW p l e R s m args below meth c D base nL Qf cells slots pc ρ (.inl i :: .inr (.inl a0) :: st) h := by
  intro Hp locs ls h1 h2 h3 h4
  obtain ⟨⟨g2, g3⟩, g4⟩ := H
  have h5 := kk _ g4 Hp locs ls h1 h2 h3 h4
  obtain ⟨b, xs, rfl, hsc, ⟨scr, x1, x2, x3, x4, x5⟩, hb, hL⟩ := hX
  show W p l e R s m args below meth c Hp locs cells slots Qf (F0 m pc ls (.int (Int32.ofInt i) :: .ref b :: st.map zen))
  refine W.iald (v := .int (xs i.toNat)) hc.1 hc.2.1 (by rw [h2 b hb]; exact x1) x2 x3 (by rw [x4]; exact z_vpin g2 g3 hL) ?_ rfl rfl hd ?_
  · rw [z_clamp g2 (by omega)]
    exact x5 _ (by omega)
  · have e0 : Value.int (xs i.toNat) = zen (.inl (sc i)) := by
      show _ = Value.int (Int32.ofInt _)
      rw [hsc, Int32.ofInt_toInt]
    rw [e0]
    exact h5
theorem z_slen (hc : zOk p s m args meth c D cc nL own ret) {a0 L : Nat} {sc : Int → Int} (hX : zScr s base L sc a0) (hd : decode cc pc = .ok (.arraylength, 1)) (kk : zW p l e R s m args below meth c D base nL Qf cells slots (pc + 1) ρ (.inl (L : Int) :: st) h) : zW p l e R s m args below meth c D base nL Qf cells slots pc ρ (.inr (.inl a0) :: st) h := by
  intro Hp locs ls h1 h2 h3 h4
  have h5 := kk Hp locs ls h1 h2 h3 h4
  obtain ⟨b, xs, rfl, -, ⟨scr, x1, x2, x3, x4, x5⟩, hb, hL⟩ := hX
  show W p l e R s m args below meth c Hp locs cells slots Qf (F0 m pc ls (.ref b :: st.map zen))
  exact W.alen (n := Int32.ofInt (L : Int)) hc.1 hc.2.1 (by rw [h2 b hb]; exact x1) x2 (by rw [x4]; exact (Int32.ofInt_eq_ofNat).symm) rfl rfl hd h5
/-- new int[n][k]: the outer row, then its rows -/
def zal2 (h : Zm) (n k : Nat) : Zm := (((fun b => if b = h.1.2 then (7, n) else if h.1.2 < b ∧ b ≤ h.1.2 + n then (1, k) else h.1.1 b), h.1.2 + 1 + n), (fun b j => if h.1.2 ≤ b ∧ b ≤ h.1.2 + n then 0 else h.2.1 b j), (fun b j => if b = h.1.2 then (if j.toNat < n then h.1.2 + 1 + j.toNat else 0) else if h.1.2 < b ∧ b ≤ h.1.2 + n then 0 else h.2.2 b j))
theorem z_outer (c : ClassId) (N h0 : Nat) : ∀ i : Nat, Jvm.Free.Multi.outerC c N h0 i = arrV c N (fun j => if j < i then .ref (h0 + 1 + j) else .null)
  | 0 => by
    show ({ cls := c, slots := Array.replicate N .null, vm := .none } : Cell) = _
    rw [arrV_new]
    rfl
  | i + 1 => by
    show (Jvm.Free.Multi.outerC c N h0 i).setSlot i (.ref (h0 + 1 + i)) = _
    rw [z_outer c N h0 i, arrV_store]
    refine congrArg (arrV c N) (z_upd ?_ ?_)
    · rw [if_pos (by omega)]
    · intro j hj
      by_cases q : j < i
      · rw [if_pos q, if_pos (by omega)]
      · rw [if_neg q, if_neg (by omega)]
def cNw2 (h : Zm) (n k : Nat) (Q : Nat → Zm → Prop) : Prop := Q h.1.2 (zal2 h n k)
theorem z_mna (hc : zOk p s m args meth c D cc nL own ret) {x n k : Nat} (hd : decode cc pc = .ok (.multianewarray x 2, 4)) (hw1 : Cond.classLink own x ("[" ++ (FieldType.array .int).toString) ∈ zT) (hw3 : Cond.arrayClass .int ∈ zT) (hn : n < 1000000) (hk : k < 1000000) (hcells : cells + (1 + n) ≤ R.cells) (hslots : slots + (n + n * k) ≤ R.slots) {Q : Nat → Zm → Prop} (H0 : cNw2 h n k Q) (kk : ∀ (a : Nat) (h' : Zm), Q a h' → zW p l e R s m args below meth c D base nL Qf (cells + 1 + n) (slots + n + n * k) (pc + 4) ρ (.inr (.inl a) :: st) h') : zW p l e R s m args below meth c D base nL Qf cells slots pc ρ (.inl (k : Int) :: .inl (n : Int) :: st) h := by
  intro H locs ls h1 h2 h3 h4 T hT Xs
  have hN : ∀ q : Nat, q < 1000000 → (Int32.ofInt (q : Int)).toNatClampNeg = q := fun q hq => by
    rw [z_clamp (by omega) (by omega)]
    rfl
  have hneg : ∀ q : Nat, q < 1000000 → ¬ Int32.ofInt (q : Int) < 0 := fun q hq => by
    rw [z_0, z_lt ⟨by omega, by omega⟩ z_in0]
    omega
  obtain ⟨vm₁, cA, comp, -, fA, fC, hO, -, X', step⟩ := Xs.multianewarray2F (ty := .int) hc.1 hc.2.2.2.1 (hc.2.2.2.2.1 _ hw1) hc.2.2.2.2.2.1.2.2.2 (hc.2.2.2.2.1 _ hw3) (g := F0 m pc ls ((.inl (k : Int) :: .inl (n : Int) :: st).map zen)) rfl (by rw [hc.2.1]; exact hd) (n := Int32.ofInt (n : Int)) (k := Int32.ofInt (k : Int)) rfl (hneg n hn) (hneg k hk) (by rw [hN n hn]; omega) (by rw [hN k hk]; show k * 4 ≤ _; omega) (by rw [hN k hk]; omega) rfl rfl (by rw [hN n hn]; exact hcells) (by rw [hN n hn, hN k hk]; exact hslots)
  rw [hN n hn, hN k hk] at X' step
  have hs := h1.1.1
  have hK := hc.2.2.2.2.2.2.2
  have ec : comp = D.2 1 := by
    have : s.vm.findClass ("[" ++ (zaty 1).toString) = some (D.2 1) := (hK.2 1 (by omega) (by omega)).2
    exact Option.some.inj (fC.symm.trans this)
  have ea : cA = D.2 7 := by
    have : s.vm.findClass ("[" ++ (zaty 7).toString) = some (D.2 7) := (hK.2 7 (by omega) (by omega)).2
    exact Option.some.inj (fA.symm.trans this)
  subst ec ea
  generalize hF : Jvm.Free.Multi.fill (T.setVm vm₁) (D.2 7) (D.2 1) n k (defaultValue .int) n = F at X' step
  have hTh : (T.setVm vm₁).heap = H := hT
  obtain ⟨f1, f2, -, -⟩ := Jvm.Free.Multi.fill_facts (T.setVm vm₁) (D.2 7) (D.2 1) n k (defaultValue .int) n
  rw [hF, hTh] at f1 f2
  have hold : ∀ x : Nat, x < H.size → F.heap[x]? = H[x]? := fun x hx => by
    have := Jvm.Free.Multi.fill_old (T.setVm vm₁) (D.2 7) (D.2 1) n k (defaultValue .int) (a := x) (by rw [hTh]; exact hx) n
    rw [hF, hTh] at this
    exact this
  have hrow : ∀ j : Nat, j < n → F.heap[H.size + 1 + j]? = some (arrV (D.2 1) k (fun _ => .int 0)) := fun j hj => by
    have := Jvm.Free.Multi.fill_inner (T.setVm vm₁) (D.2 7) (D.2 1) n k (defaultValue .int) n j hj
    rw [hF, hTh] at this
    rw [this, ← arrV_new]
    rfl
  rw [z_outer] at f2
  have hkd : ∀ b, zkd (zal2 h n k) b = if b = h.1.2 then (7, n) else if h.1.2 < b ∧ b ≤ h.1.2 + n then (1, k) else zkd h b := fun b => rfl
  have hI : ∀ b j, zI (zal2 h n k) b j = if h.1.2 ≤ b ∧ b ≤ h.1.2 + n then 0 else zI h b j := fun b j => rfl
  have hRr : ∀ b j, zR (zal2 h n k) b j = if b = h.1.2 then (if j.toNat < n then h.1.2 + 1 + j.toNat else 0) else if h.1.2 < b ∧ b ≤ h.1.2 + n then 0 else zR h b j := fun b j => rfl
  have hRep : zRep D base (zal2 h n k) F.heap := by
    obtain ⟨⟨r1, r0⟩, r2, r3, r4⟩ := h1
    refine ⟨⟨by rw [f1]; show _ = h.1.2 + 1 + n; omega, by show base ≤ h.1.2 + 1 + n; omega⟩, fun b hb => ?_, fun b j => ?_, fun b => ?_⟩
    · show 1 ≤ b ∧ base ≤ b ∧ b < h.1.2 + 1 + n
      by_cases e1 : b = h.1.2
      · omega
      · by_cases e2 : h.1.2 < b ∧ b ≤ h.1.2 + n
        · omega
        · rw [hkd, if_neg e1, if_neg e2] at hb
          have := r2 b hb
          omega
    · rw [hI]
      split
      · exact z_in0
      · exact r3 b j
    · by_cases e1 : b = h.1.2
      · subst e1
        have ek : zkd (zal2 h n k) h.1.2 = (7, n) := by rw [hkd, if_pos rfl]
        refine ⟨fun q => by rw [ek] at q; omega, fun _ => ⟨?_, by rw [ek]; show n < _; omega⟩, fun q => by rw [ek] at q; omega⟩
        rw [ek, show h.1.2 - 1 = H.size by omega, f2]
        refine congrArg (fun z => some (arrV _ _ z)) (funext fun j => ?_)
        rw [hRr, if_pos rfl, Int.toNat_natCast]
        by_cases hj : j < n
        · rw [if_pos hj, if_pos hj]
          show Value.ref (H.size + 1 + j) = _
          rw [show h.1.2 + 1 + j = (H.size + 1 + j) + 1 by omega]
          rfl
        · rw [if_neg hj, if_neg hj]
          rfl
      · by_cases e2 : h.1.2 < b ∧ b ≤ h.1.2 + n
        · have ek : zkd (zal2 h n k) b = (1, k) := by rw [hkd, if_neg e1, if_pos e2]
          refine ⟨fun _ => ⟨?_, by rw [ek]; show k < _; omega⟩, fun q => by rw [ek] at q; omega, fun q => by rw [ek] at q; omega⟩
          rw [ek, show b - 1 = H.size + 1 + (b - 1 - (H.size + 1)) by omega, hrow _ (by omega)]
          refine congrArg (fun z => some (arrV _ _ z)) (funext fun j => ?_)
          rw [hI, if_pos (by omega)]
          rfl
        · have ek : zkd (zal2 h n k) b = zkd h b := by rw [hkd, if_neg e1, if_neg e2]
          by_cases q : (zkd h b).1 = 0
          · exact zAt_none (by rw [ek]; exact q)
          · have := r2 b q
            exact (r4 b).kept ek (fun j => by rw [hI, if_neg (by omega)]) (fun j => by rw [hRr, if_neg e1, if_neg e2]) (hold _ (by omega))
  obtain ⟨t, a1, b1⟩ := kk _ _ H0 F.heap locs ls hRep (fun q hq => by rw [hold q (by have := h1.1.2; omega)]; exact h2 q hq) h3 h4 F rfl X'
  refine ⟨t, step t ?_, b1⟩
  have e2 : (Value.ref T.heap.size : Value) = zen (.inr (.inl h.1.2)) := by
    show _ = zrf h.1.2
    rw [← hs, hT]
    rfl
  rw [e2]
  exact a1
end ZS
end
section
/-! whole numbers of 64 bits, calls that make cells, the script in a method of its own -/
abbrev InL (x : Int) : Prop := -9223372036854775808 ≤ x ∧ x ≤ 9223372036854775807
theorem InL.to {x : Int} (h : InL x) : (Int64.ofInt x).toInt = x := Int64.toInt_ofInt_of_le (by omega) (by omega)
theorem zl_eq {a b : Int} (ha : InL a) (hb : InL b) : Int64.ofInt a = Int64.ofInt b ↔ a = b := by
  rw [← Int64.toInt_inj, ha.to, hb.to]
theorem zl_lt {a b : Int} (ha : InL a) (hb : InL b) : Int64.ofInt a < Int64.ofInt b ↔ a < b := by
  rw [Int64.lt_iff_toInt_lt, ha.to, hb.to]
def cI2l (x : Int) (Q : Int → Prop) : Prop := InR x ∧ Q x
def cLcmp (x y : Int) (Q : Int → Prop) : Prop := (InL x ∧ InL y) ∧ Q (if y < x then 1 else if x = y then 0 else -1)
def cShv (Q : Int → Prop) : Prop := ∀ w, InR w → Q w
theorem zl_cmp {x y : Int} (hx : InL x) (hy : InL y) : lg_cmp (Int64.ofInt x) (Int64.ofInt y) = Int32.ofInt (if y < x then 1 else if x = y then 0 else -1) := by
  unfold lg_cmp
  by_cases h : y < x
  · rw [if_pos h, if_pos (show Int64.ofInt x > Int64.ofInt y from (zl_lt hy hx).mpr h)]; rfl
  · rw [if_neg h, if_neg (show ¬ Int64.ofInt x > Int64.ofInt y from fun q => h ((zl_lt hy hx).mp q))]
    by_cases h2 : x = y
    · rw [if_pos h2, if_pos ((zl_eq hx hy).mpr h2)]; rfl
    · rw [if_neg h2, if_neg (fun q => h2 ((zl_eq hx hy).mp q))]; rfl
section ZLo
variable {p : Program} {l : Launch} {e : Env} {R : Room} {s : State} {m : MethodId} {args : Array Value} {below : List Frame} {meth : Method} {c : Code} {D : Zd} {base nL : Nat} {Qf : State → Prop} {cells slots pc : Nat} {ρ : List (Option Zv)} {st : List Zv} {h : Zm} {cc : ByteArray} {own : String} {ret : Option FieldType}
theorem z_lconst (hc : zOk p s m args meth c D cc nL own ret) {n : Fin 2} {v : Int} (hd : decode cc pc = .ok (.lconst n, 1)) (hv : Int64.ofNat (n : Nat) = Int64.ofInt v) (k : zW p l e R s m args below meth c D base nL Qf cells slots (pc + 1) ρ (.inr (.inr v) :: st) h) : zW p l e R s m args below meth c D base nL Qf cells slots pc ρ st h :=
  fun H locs ls h1 h2 h3 h4 => lv_lconst hc.1 hc.2.1 hd hv (k H locs ls h1 h2 h3 h4)
theorem z_lload_n (hc : zOk p s m args meth c D cc nL own ret) {i : Fin 4} {x : Int} (hd : decode cc pc = .ok (.lload_n i, 1)) (hx : ρ[(i : Nat)]? = some (some (.inr (.inr x)))) (k : zW p l e R s m args below meth c D base nL Qf cells slots (pc + 1) ρ (.inr (.inr x) :: st) h) : zW p l e R s m args below meth c D base nL Qf cells slots pc ρ st h :=
  fun H locs ls h1 h2 h3 h4 => lv_lload_n hc.1 hc.2.1 hd rfl (h4.2.2 _ _ hx) (k H locs ls h1 h2 h3 h4)
theorem z_lload (hc : zOk p s m args meth c D cc nL own ret) {i : Nat} {x : Int} (hd : decode cc pc = .ok (.lload i, 2)) (hx : ρ[i]? = some (some (.inr (.inr x)))) (k : zW p l e R s m args below meth c D base nL Qf cells slots (pc + 2) ρ (.inr (.inr x) :: st) h) : zW p l e R s m args below meth c D base nL Qf cells slots pc ρ st h :=
  fun H locs ls h1 h2 h3 h4 => lv_lload hc.1 hc.2.1 hd (h4.2.2 _ _ hx) (k H locs ls h1 h2 h3 h4)
theorem z_lstore_n (hc : zOk p s m args meth c D cc nL own ret) {i : Fin 4} {x : Int} (hd : decode cc pc = .ok (.lstore_n i, 1)) (hi : (i : Nat) + 1 < nL) {ρ' : List (Option Zv)} (hρ : (ρ.set (i : Nat) (some (.inr (.inr x)))).set ((i : Nat) + 1) none = ρ') (hp : zpv ρ (i : Nat) = true) (k : zW p l e R s m args below meth c D base nL Qf cells slots (pc + 1) ρ' st h) : zW p l e R s m args below meth c D base nL Qf cells slots pc ρ (.inr (.inr x) :: st) h :=
  fun H locs ls h1 h2 h3 h4 => lv_lstore_n hc.1 hc.2.1 hd rfl h4.has hi rfl (fun ls' h' => k H locs ls' h1 h2 h3 (hρ ▸ zL.storedL hp (v := .inr (.inr x)) h'))
theorem z_lstore (hc : zOk p s m args meth c D cc nL own ret) {i : Nat} {x : Int} (hd : decode cc pc = .ok (.lstore i, 2)) (hi : i + 1 < nL) {ρ' : List (Option Zv)} (hρ : (ρ.set i (some (.inr (.inr x)))).set (i + 1) none = ρ') (hp : zpv ρ i = true) (k : zW p l e R s m args below meth c D base nL Qf cells slots (pc + 2) ρ' st h) : zW p l e R s m args below meth c D base nL Qf cells slots pc ρ (.inr (.inr x) :: st) h :=
  fun H locs ls h1 h2 h3 h4 => lv_lstore hc.1 hc.2.1 hd h4.has hi rfl (fun ls' h' => k H locs ls' h1 h2 h3 (hρ ▸ zL.storedL hp (v := .inr (.inr x)) h'))
theorem z_i2l (hc : zOk p s m args meth c D cc nL own ret) {x : Int} {Q : Int → Prop} (hd : decode cc pc = .ok (.i2l, 1)) (H : cI2l x Q) (kk : ∀ v : Int, Q v → zW p l e R s m args below meth c D base nL Qf cells slots (pc + 1) ρ (.inr (.inr v) :: st) h) : zW p l e R s m args below meth c D base nL Qf cells slots pc ρ (.inl x :: st) h :=
  fun Hp locs ls h1 h2 h3 h4 => lv_i2l (v := Int64.ofInt x) hc.1 hc.2.1 hd (by rw [← Int64.toInt_inj, Int32.toInt_toInt64, H.1.to, InL.to ⟨by have := H.1; omega, by have := H.1; omega⟩]) (kk x H.2 Hp locs ls h1 h2 h3 h4)
theorem z_ladd (hc : zOk p s m args meth c D cc nL own ret) {x y : Int} (hd : decode cc pc = .ok (.ladd, 1)) (k : zW p l e R s m args below meth c D base nL Qf cells slots (pc + 1) ρ (.inr (.inr (x + y)) :: st) h) : zW p l e R s m args below meth c D base nL Qf cells slots pc ρ (.inr (.inr y) :: .inr (.inr x) :: st) h :=
  fun H locs ls h1 h2 h3 h4 => lv_ladd hc.1 hc.2.1 hd (by rw [← Int64.ofInt_add]; exact k H locs ls h1 h2 h3 h4)
theorem z_lmul (hc : zOk p s m args meth c D cc nL own ret) {x y : Int} (hd : decode cc pc = .ok (.lmul, 1)) (k : zW p l e R s m args below meth c D base nL Qf cells slots (pc + 1) ρ (.inr (.inr (x * y)) :: st) h) : zW p l e R s m args below meth c D base nL Qf cells slots pc ρ (.inr (.inr y) :: .inr (.inr x) :: st) h :=
  fun H locs ls h1 h2 h3 h4 => lv_lmul hc.1 hc.2.1 hd (by rw [← Int64.ofInt_mul]; exact k H locs ls h1 h2 h3 h4)
theorem z_ldc2 (hc : zOk p s m args meth c D cc nL own ret) {n : Int} {x : Nat} (hd : decode cc pc = .ok (.ldc2_w x, 3)) (hw : Cond.constantLong own x (Int64.ofInt n) ∈ zT) (k : zW p l e R s m args below meth c D base nL Qf cells slots (pc + 3) ρ (.inr (.inr n) :: st) h) : zW p l e R s m args below meth c D base nL Qf cells slots pc ρ st h :=
  fun H locs ls h1 h2 h3 h4 => lv_ldc2 hc.1 hc.2.1 hc.2.2.2.1 (hc.2.2.2.2.1 _ hw) hd (k H locs ls h1 h2 h3 h4)
theorem z_lcmp (hc : zOk p s m args meth c D cc nL own ret) {x y : Int} {Q : Int → Prop} (hd : decode cc pc = .ok (.lcmp, 1)) (H : cLcmp x y Q) (kk : ∀ v : Int, Q v → zW p l e R s m args below meth c D base nL Qf cells slots (pc + 1) ρ (.inl v :: st) h) : zW p l e R s m args below meth c D base nL Qf cells slots pc ρ (.inr (.inr y) :: .inr (.inr x) :: st) h :=
  fun Hp locs ls h1 h2 h3 h4 => W.lcmp hc.1 hc.2.1 hd (by rw [zl_cmp H.1.1 H.1.2]; exact kk _ H.2 Hp locs ls h1 h2 h3 h4)
theorem z_ishrv (hc : zOk p s m args meth c D cc nL own ret) {x y : Int} {Q : Int → Prop} (hd : decode cc pc = .ok (.ishr, 1)) (H : cShv Q) (kk : ∀ v : Int, Q v → zW p l e R s m args below meth c D base nL Qf cells slots (pc + 1) ρ (.inl v :: st) h) : zW p l e R s m args below meth c D base nL Qf cells slots pc ρ (.inl y :: .inl x :: st) h := by
  intro Hp locs ls h1 h2 h3 h4
  refine lv_ishr hc.1 hc.2.1 hd ?_
  have h5 : Int32.ofInt x >>> (Int32.ofInt y &&& 31) = Int32.ofInt (Int32.ofInt x >>> (Int32.ofInt y &&& 31)).toInt := (Int32.ofInt_toInt _).symm
  rw [h5]
  exact kk _ (H _ ⟨by have := Int32.le_toInt (Int32.ofInt x >>> (Int32.ofInt y &&& 31)); omega, by have := Int32.toInt_lt (Int32.ofInt x >>> (Int32.ofInt y &&& 31)); omega⟩) Hp locs ls h1 h2 h3 h4
theorem z_widen {cells' slots' : Nat} (h1 : cells ≤ cells') (h2 : slots ≤ slots') (k : zW p l e R s m args below meth c D base nL Qf cells' slots' pc ρ st h) : zW p l e R s m args below meth c D base nL Qf cells slots pc ρ st h :=
  fun H locs ls a1 a2 a3 a4 => W.widen h1 h2 (k H locs ls a1 a2 a3 a4)
/-- a long as an answer -/
def zQl (D : Zd) (base : Nat) (Q : Int → Zm → Prop) : Array Value → State → Outcome → State → Prop := fun _ st o t => (∃ (v : Int) (h' : Zm), o = .returned (some (.long (Int64.ofInt v))) ∧ Q v h' ∧ zRep D base h' t.heap) ∧ zOld base st t
theorem z_lreturn (hc : zOk p s m args meth c D cc nL own (some .long)) {v : Int} {Q : Int → Zm → Prop} (hd : decode cc pc = .ok (.lreturn, 1)) (H : Q v h) : zW p l e R s m args below meth c D base nL (MQ below (zQl D base Q) args s cells slots (zFree base)) cells slots pc ρ [.inr (.inr v)] h := by
  intro Hp locs ls h1 h2 h3 h4
  exact W.lret (v := Int64.ofInt v) hc.1 hc.2.1 hc.2.2.2.2.2.2.1 (fun t ht hW => ⟨⟨v, h, rfl, H, by rw [ht]; exact h1⟩, fun q hq => by rw [ht]; exact h2 q hq⟩) h3 hd (hlocks := hc.2.2.2.2.2.1.1)
theorem z_calL {rm : Room} {sts : List Value} {stk : List Zv} {a : Array Value} {Q : Int → Zm → Prop} (hr : ∀ (H : Heap) (locs : List Loc) (ls : Array Slot), zRep D base h H → zL ls nL ρ → va_Run p l e R s m args below meth c H locs cells slots rm.cells rm.slots (F0 m pc ls sts) (st.map zen) (zQl D base Q a) (zFree base)) (hst : stk.map zen = sts) (hz : rm.cells = 0 ∧ rm.slots = 0) (k : ∀ r h', Q r h' → zW p l e R s m args below meth c D base nL Qf cells slots (pc + 3) ρ (.inr (.inr r) :: st) h') : zW p l e R s m args below meth c D base nL Qf cells slots pc ρ stk h := by
  unfold zW
  rw [hst]
  refine z_ran (P := fun v h' => ∃ r : Int, v = some (.long (Int64.ofInt r)) ∧ Q r h') hr (fun u v t hq => ?_) (fun v h' hP H locs ls h1 h2 h3 h4 => ?_)
  · obtain ⟨⟨r, h', e1, e2, e3⟩, e4⟩ := hq
    cases e1
    exact ⟨h', ⟨r, rfl, e2⟩, e3, e4⟩
  · obtain ⟨r, rfl, hq⟩ := hP
    rw [hz.1, hz.2]
    exact k r h' hq H locs ls h1 h2 h3 h4
theorem z_calIc {rm : Room} {sts : List Value} {stk : List Zv} {a : Array Value} {Q : Int → Zm → Prop} {mc ms : Nat} (hr : ∀ (H : Heap) (locs : List Loc) (ls : Array Slot), zRep D base h H → zL ls nL ρ → va_Run p l e R s m args below meth c H locs cells slots rm.cells rm.slots (F0 m pc ls sts) (st.map zen) (zQi D base Q a) (zFree base)) (hst : stk.map zen = sts) (hz : rm.cells = mc ∧ rm.slots = ms) (k : ∀ r h', Q r h' → zW p l e R s m args below meth c D base nL Qf (cells + mc) (slots + ms) (pc + 3) ρ (.inl r :: st) h') : zW p l e R s m args below meth c D base nL Qf cells slots pc ρ stk h := by
  unfold zW
  rw [hst]
  refine z_ran (P := fun v h' => ∃ r : Int, v = some (.int (Int32.ofInt r)) ∧ Q r h') hr (fun u v t hq => ?_) (fun v h' hP H locs ls h1 h2 h3 h4 => ?_)
  · obtain ⟨⟨r, h', e1, e2, e3⟩, e4⟩ := hq
    cases e1
    exact ⟨h', ⟨r, rfl, e2⟩, e3, e4⟩
  · obtain ⟨r, rfl, hq⟩ := hP
    rw [hz.1, hz.2]
    exact k r h' hq H locs ls h1 h2 h3 h4
/-- a contract of a method that reads the script -/
def zPcX (D : Zd) (base L : Nat) (sc : Int → Int) (a0 : Nat) (av : List Zv) (h : Zm) : Array Value → State → Prop := fun a U => zPc D base av h a U ∧ zScr U base L sc a0
def zMetX (l : Launch) (D : Zd) (base L : Nat) (sc : Int → Int) (a0 : Nat) (y : MethodName) (b : ByteArray) (n : Nat) (ret : Option FieldType) (rm : Room) (av : List Zv) (h : Zm) (Qc : Array Value → State → Outcome → State → Prop) : Prop :=
  Met l y (Cond.code y b n ret :: zT) rm (zPcX D base L sc a0 av h) Qc rm.cells rm.slots (zFree base)
theorem zScr.to {s U : State} {base L : Nat} {sc : Int → Int} {a0 : Nat} (hX : zScr s base L sc a0) (hW : s.vm.Alike U.vm) (hH : ∀ q : Nat, q + 1 < base → U.heap[q]? = s.heap[q]?) : zScr U base L sc a0 := by
  obtain ⟨b, xs, x1, x2, x3, x4, x5⟩ := hX
  exact ⟨b, xs, x1, x2, va_X.moved hW (va_X.kept x3 (hH b x4)), x4, x5⟩
theorem zPcX_blind {D : Zd} {base L : Nat} {sc : Int → Int} {a0 : Nat} {av : List Zv} {h : Zm} : FrameBlind (zPcX D base L sc a0 av h) := fun a U g mk q => ⟨zPc_blind a U g mk q.1, zScr.to (s := U) (U := U.calling g mk a) q.2 (Vm.Alike.refl _) (fun _ _ => rfl)⟩
theorem z_metX {y : MethodName} {b : ByteArray} {n L : Nat} {sc : Int → Int} {a0 : Nat} {rm : Room} {av : List Zv} {Qc : Array Value → State → Outcome → State → Prop} (hy : plainFor y = true) (hb : zlen av ≤ n) (hz : zfl av = true)
    (body : ∀ (p : Program) (e : Env) (s : State) (m : MethodId) (args : Array Value) (below : List Frame) (meth : Method) (c : Code), zOk p s m args meth c D b n y.cls ret → zScr s base L sc a0 → zW p l e rm s m args below meth c D base n (MQ below Qc args s rm.cells rm.slots (zFree base)) 0 0 0 (av.map some ++ List.replicate (n - av.length) none) [] h) : zMetX l D base L sc a0 y b n ret rm av h Qc := by
  refine va_MetF (cc := b) (maxL := n) (ret := ret) hy rfl ?_
  intro p e s m args below meth c s₁ B hml hv
  obtain ⟨⟨rfl, ⟨hK, hN⟩, hR⟩, hX⟩ := hv
  have hts := atoms_spec (ws := Cond.code y b n ret :: zT) B.pre
  have hk : zOk p s m (av.map zen).toArray meth c D b n y.cls ret := ⟨B.exec, B.bytes, hml, findClass_of_methodNamed B.named, fun w hw => hts w (List.mem_cons_of_mem _ hw), ⟨B.notSynchronized, hN⟩, B.returns, hK⟩
  have hbd := body p e s m _ below meth c hk hX
  rw [lg_entry_eq]
  have hl := lv_entry (av.map zen) (n := n) (by rw [z_sl]; exact hb)
  refine hbd s.heap [] _ hR (fun q hq => rfl) (fun q hq => by cases hq) ⟨hl.1, hl.2.1, fun i v hi => ?_⟩
  have hi2 : av[i]? = some v := by
    by_cases hlt : i < av.length
    · rw [List.getElem?_append_left (by simpa using hlt), List.getElem?_map] at hi
      cases hq : av[i]? with
      | none => rw [hq] at hi; cases hi
      | some w => rw [hq] at hi; simp at hi; rw [hi]
    · rw [List.getElem?_append_right (by simpa using hlt)] at hi
      have := List.mem_of_getElem? hi
      rw [List.mem_replicate] at this
      cases this.2
  have := z_args av 0 i v hz hi2
  rw [Nat.zero_add] at this
  exact hl.2.2 _ this
theorem z_runX (hc : zOk p s m args meth c D cc nL own ret) {x n k L : Nat} {sc : Int → Int} {a0 : Nat} (hX : zScr s base L sc a0) {y : MethodName} {b : ByteArray} {rt : Option FieldType} {rm : Room} {av : List Zv} {Qc : Array Value → State → Outcome → State → Prop} (hd : decode cc pc = .ok (.invokestatic x, 3)) (hw : zCs own x y b n rt k) (hM : zMetX l D base L sc a0 y b n rt rm av h Qc) (hk : av.length = k) (h8 : zlen st ≤ 8) (hR : zRoom rm R n) (hf : cells + rm.cells ≤ R.cells ∧ slots + rm.slots ≤ R.slots) : ∀ (H : Heap) (locs : List Loc) (ls : Array Slot), zRep D base h H → (∀ q : Nat, q + 1 < base → H[q]? = s.heap[q]?) → zL ls nL ρ → va_Run p l e R s m args below meth c H locs cells slots rm.cells rm.slots (F0 m pc ls ((av.map zen).reverse ++ st.map zen)) (st.map zen) (Qc (av.map zen).toArray) (zFree base) := by
  intro H locs ls h1 h2 h4
  obtain ⟨⟨w1, w2, w3, w4⟩, w5⟩ := hw
  exact va_runS (As := av.map zen) (rest := st.map zen) ⟨hc.1, hc.2.1, hc.2.2.1, hc.2.2.2.1, hc.2.2.2.2.1⟩ hM ⟨callB_of k hc.2.2.2.2.1 (zGoodIn w4) rfl rfl rfl (hc.2.2.2.2.1 _ w3) (hc.2.2.2.2.1 _ w1) w5 hR, hc.2.2.2.2.1 _ w2⟩ ⟨zPcX_blind, fun U hU hW => ⟨z_pre hc.2.2.2.2.2.2.2 hc.2.2.2.2.2.1.2 h1 U hU hW, hX.to hW.alike (fun q hq => by rw [hU]; exact h2 q hq)⟩⟩ rfl (by rw [List.length_map]; exact hk) h4.1 rfl (lv_room (z_cat8 h8)) hd hf
theorem z_calIX {rm : Room} {sts : List Value} {stk : List Zv} {a : Array Value} {Q : Int → Zm → Prop} (hr : ∀ (H : Heap) (locs : List Loc) (ls : Array Slot), zRep D base h H → (∀ q : Nat, q + 1 < base → H[q]? = s.heap[q]?) → zL ls nL ρ → va_Run p l e R s m args below meth c H locs cells slots rm.cells rm.slots (F0 m pc ls sts) (st.map zen) (zQi D base Q a) (zFree base)) (hst : stk.map zen = sts) (hz : rm.cells = 0 ∧ rm.slots = 0) (k : ∀ r h', Q r h' → zW p l e R s m args below meth c D base nL Qf cells slots (pc + 3) ρ (.inl r :: st) h') : zW p l e R s m args below meth c D base nL Qf cells slots pc ρ stk h := by
  unfold zW
  rw [hst]
  intro H locs ls h1 h2 h3 h4 T hT X
  obtain ⟨v, st₀, t, T', L, h0, X', hL, e1, e2, hq, stp⟩ := hr H locs ls h1 h2 h4 T hT X
  obtain ⟨⟨r, h', g1, g2, g3⟩, g4⟩ := hq
  cases g1
  rw [hz.1, hz.2] at X'
  obtain ⟨t2, a1, b1⟩ := k r h' g2 T'.heap (locs ++ L) ls (by rw [e1]; exact g3) (fun q hq => by rw [e1, g4 q hq, h0]; exact h2 q hq) (fun q hq => by
    rcases List.mem_append.mp hq with h9 | h9
    · exact h3 q h9
    · exact hL q h9) h4 T' rfl X'
  exact ⟨t2, stp t2 a1, b1⟩
/-- loops with five numbers -/
def lfp5 (F : (Int → Int → Int → Int → Int → Zm → Prop) → Int → Int → Int → Int → Int → Zm → Prop) (x y z w u : Int) (h : Zm) : Prop := ∀ X : Int → Int → Int → Int → Int → Zm → Prop, (∀ x y z w u h, F X x y z w u h → X x y z w u h) → X x y z w u h
end ZLo
end
