-- ===== PART A: goes FIRST, ahead of the names: the tables' words, and 'selects' of the private methods out of them =====
/-- a private method of a class that the tables say can be made, by its rows of tables_1 -/
def lw_okq (q : MethodName × Nat) : Prop := (q.1.cls ≠ "java/lang/invoke/MethodHandle" ∧ q.1.cls ≠ "java/lang/invoke/VarHandle") ∧ Cond.instantiable q.1.cls q.2 ∈ tables_1 ∧ Cond.privateMethod q.1 ∈ tables_1 ∧ Cond.instanceMethod q.1 ∈ tables_1
def lw_privs : List (MethodName × Nat) := []
def lw_tbl : List Cond := k2_sels lw_privs ++ tables_1
theorem lw_privs_ok : ∀ q ∈ lw_privs, lw_okq q := fun _ h => absurd h List.not_mem_nil
-- ===== end of PART A; then your names; then what follows =====
def RX0 : String := "CrustBlocks$Column"
def TX0 : u_T := fun k => match k with
  | 0 => ("CrustBlocks$Column", "kinds", "[I", true)
  | 1 => ("CrustBlocks$Column", "densities", "[I", true)
  | 2 => ("CrustBlocks$Column", "thicknesses", "[I", true)
  | 3 => ("CrustBlocks$Column", "size", "I", false)
  | _ => ("CrustBlocks$Column", "base", "I", false)
def tyX0 : Nat → FieldType := fun k => match k with
  | 0 => .array .int
  | 1 => .array .int
  | 2 => .array .int
  | 3 => .int
  | _ => .int
abbrev wsX00 : List Cond := u_ws RX0 TX0 5
theorem nmX0 : ∀ a, a < 5 → ∀ b, b < 5 → a ≠ b → (TX0 a).2.1 ≠ (TX0 b).2.1 := by decide +kernel
theorem tyX0_ok : ∀ k, k < 5 → parseFieldDescriptor (TX0 k).2.2.1 = some (tyX0 k) := by decide +kernel
abbrev cX0_init : ByteArray := prog_2_method_1_code
def yX0_init : MethodName := ⟨RX0, "<init>", "()V"⟩
abbrev cX0_copyFrom : ByteArray := prog_2_method_2_code
def yX0_copyFrom : MethodName := ⟨RX0, "copyFrom", "(LCrustBlocks$Column;)V"⟩
abbrev cX0_hasLayer : ByteArray := prog_2_method_3_code
def yX0_hasLayer : MethodName := ⟨RX0, "hasLayer", "(I)Z"⟩
abbrev cX0_hasIceOnTop : ByteArray := prog_2_method_4_code
def yX0_hasIceOnTop : MethodName := ⟨RX0, "hasIceOnTop", "()Z"⟩
abbrev cX0_weightOf : ByteArray := prog_2_method_5_code
def yX0_weightOf : MethodName := ⟨RX0, "weightOf", "(I)I"⟩
abbrev cX0_weight : ByteArray := prog_2_method_6_code
def yX0_weight : MethodName := ⟨RX0, "weight", "()I"⟩
abbrev cX0_allThicknesses : ByteArray := prog_2_method_7_code
def yX0_allThicknesses : MethodName := ⟨RX0, "allThicknesses", "()I"⟩
abbrev cX0_iceThickness : ByteArray := prog_2_method_8_code
def yX0_iceThickness : MethodName := ⟨RX0, "iceThickness", "()I"⟩
abbrev cX0_balance : ByteArray := prog_2_method_9_code
def yX0_balance : MethodName := ⟨RX0, "balance", "()I"⟩
abbrev cX0_top : ByteArray := prog_2_method_10_code
def yX0_top : MethodName := ⟨RX0, "top", "()I"⟩
abbrev cX0_upperSide : ByteArray := prog_2_method_11_code
def yX0_upperSide : MethodName := ⟨RX0, "upperSide", "(I)I"⟩
abbrev cX0_firstBelowIce : ByteArray := prog_2_method_12_code
def yX0_firstBelowIce : MethodName := ⟨RX0, "firstBelowIce", "()I"⟩
abbrev cX0_insert : ByteArray := prog_2_method_13_code
def yX0_insert : MethodName := ⟨RX0, "insert", "(IIII)V"⟩
abbrev cX0_delete : ByteArray := prog_2_method_14_code
def yX0_delete : MethodName := ⟨RX0, "delete", "(I)V"⟩
abbrev cX0_moveLayer : ByteArray := prog_2_method_15_code
def yX0_moveLayer : MethodName := ⟨RX0, "moveLayer", "(II)V"⟩
abbrev cX0_deleteKind : ByteArray := prog_2_method_16_code
def yX0_deleteKind : MethodName := ⟨RX0, "deleteKind", "(I)V"⟩
abbrev cX0_thin : ByteArray := prog_2_method_17_code
def yX0_thin : MethodName := ⟨RX0, "thin", "(II)V"⟩
abbrev cX0_balanceBase : ByteArray := prog_2_method_18_code
def yX0_balanceBase : MethodName := ⟨RX0, "balanceBase", "()V"⟩
abbrev cX0_floatOnce : ByteArray := prog_2_method_19_code
def yX0_floatOnce : MethodName := ⟨RX0, "floatOnce", "(I)V"⟩
abbrev cX0_stepsOfFloating : ByteArray := prog_2_method_20_code
def yX0_stepsOfFloating : MethodName := ⟨RX0, "stepsOfFloating", "(I)I"⟩
abbrev cX0_floated : ByteArray := prog_2_method_21_code
def yX0_floated : MethodName := ⟨RX0, "floated", "(III)I"⟩
abbrev cX0_densityAt : ByteArray := prog_2_method_23_code
def yX0_densityAt : MethodName := ⟨RX0, "densityAt", "(I)I"⟩
abbrev cX0_pressureAt : ByteArray := prog_2_method_24_code
def yX0_pressureAt : MethodName := ⟨RX0, "pressureAt", "(I)I"⟩
def RX1 : String := "CrustBlocks$Crust"
def TX1 : u_T := fun k => match k with
  | _ => ("CrustBlocks$Crust", "columns", "[LCrustBlocks$Column;", true)
def tyX1 : Nat → FieldType := fun k => match k with
  | _ => .array (.object "CrustBlocks$Column")
abbrev wsX10 : List Cond := u_ws RX1 TX1 1
theorem nmX1 : ∀ a, a < 1 → ∀ b, b < 1 → a ≠ b → (TX1 a).2.1 ≠ (TX1 b).2.1 := by decide +kernel
theorem tyX1_ok : ∀ k, k < 1 → parseFieldDescriptor (TX1 k).2.2.1 = some (tyX1 k) := by decide +kernel
abbrev cX1_init : ByteArray := prog_3_method_1_code
def yX1_init : MethodName := ⟨RX1, "<init>", "()V"⟩
abbrev cX1_copyFrom : ByteArray := prog_3_method_2_code
def yX1_copyFrom : MethodName := ⟨RX1, "copyFrom", "(LCrustBlocks$Crust;)V"⟩
abbrev cX1_allLayers : ByteArray := prog_3_method_3_code
def yX1_allLayers : MethodName := ⟨RX1, "allLayers", "()I"⟩
abbrev cX1_allWeights : ByteArray := prog_3_method_4_code
def yX1_allWeights : MethodName := ⟨RX1, "allWeights", "()I"⟩
abbrev cX1_withLayers : ByteArray := prog_3_method_5_code
def yX1_withLayers : MethodName := ⟨RX1, "withLayers", "()I"⟩
abbrev cX1_withIceOnTop : ByteArray := prog_3_method_6_code
def yX1_withIceOnTop : MethodName := ⟨RX1, "withIceOnTop", "()I"⟩
abbrev cX1_unbalanced : ByteArray := prog_3_method_7_code
def yX1_unbalanced : MethodName := ⟨RX1, "unbalanced", "()I"⟩
abbrev cX1_highest : ByteArray := prog_3_method_8_code
def yX1_highest : MethodName := ⟨RX1, "highest", "()I"⟩
abbrev cX1_lowerNeighbor : ByteArray := prog_3_method_9_code
def yX1_lowerNeighbor : MethodName := ⟨RX1, "lowerNeighbor", "(I)I"⟩
abbrev cX1_reason : ByteArray := prog_3_method_10_code
def yX1_reason : MethodName := ⟨RX1, "reason", "(II)I"⟩
abbrev cX1_takenBetween : ByteArray := prog_3_method_11_code
def yX1_takenBetween : MethodName := ⟨RX1, "takenBetween", "(III)I"⟩
def RX2 : String := "CrustBlocks$History"
def TX2 : u_T := fun k => match k with
  | 0 => ("CrustBlocks$History", "states", "[LCrustBlocks$State;", true)
  | 1 => ("CrustBlocks$History", "oldest", "I", false)
  | _ => ("CrustBlocks$History", "size", "I", false)
def tyX2 : Nat → FieldType := fun k => match k with
  | 0 => .array (.object "CrustBlocks$State")
  | 1 => .int
  | _ => .int
abbrev wsX20 : List Cond := u_ws RX2 TX2 3
theorem nmX2 : ∀ a, a < 3 → ∀ b, b < 3 → a ≠ b → (TX2 a).2.1 ≠ (TX2 b).2.1 := by decide +kernel
theorem tyX2_ok : ∀ k, k < 3 → parseFieldDescriptor (TX2 k).2.2.1 = some (tyX2 k) := by decide +kernel
abbrev cX2_init : ByteArray := prog_4_method_1_code
def yX2_init : MethodName := ⟨RX2, "<init>", "()V"⟩
abbrev cX2_keep : ByteArray := prog_4_method_2_code
def yX2_keep : MethodName := ⟨RX2, "keep", "(LCrustBlocks$State;)V"⟩
abbrev cX2_giveBack : ByteArray := prog_4_method_3_code
def yX2_giveBack : MethodName := ⟨RX2, "giveBack", "(LCrustBlocks$State;)V"⟩
def RX3 : String := "CrustBlocks$State"
def TX3 : u_T := fun k => match k with
  | 0 => ("CrustBlocks$State", "crust", "LCrustBlocks$Crust;", true)
  | 1 => ("CrustBlocks$State", "snapshots", "[LCrustBlocks$Crust;", true)
  | 2 => ("CrustBlocks$State", "filled", "[I", true)
  | 3 => ("CrustBlocks$State", "settings", "[I", true)
  | 4 => ("CrustBlocks$State", "accounts", "[I", true)
  | _ => ("CrustBlocks$State", "steps", "I", false)
def tyX3 : Nat → FieldType := fun k => match k with
  | 0 => .object "CrustBlocks$Crust"
  | 1 => .array (.object "CrustBlocks$Crust")
  | 2 => .array .int
  | 3 => .array .int
  | 4 => .array .int
  | _ => .int
abbrev wsX30 : List Cond := u_ws RX3 TX3 6
theorem nmX3 : ∀ a, a < 6 → ∀ b, b < 6 → a ≠ b → (TX3 a).2.1 ≠ (TX3 b).2.1 := by decide +kernel
theorem tyX3_ok : ∀ k, k < 6 → parseFieldDescriptor (TX3 k).2.2.1 = some (tyX3 k) := by decide +kernel
abbrev cX3_init : ByteArray := prog_5_method_1_code
def yX3_init : MethodName := ⟨RX3, "<init>", "()V"⟩
abbrev cX3_copyFrom : ByteArray := prog_5_method_2_code
def yX3_copyFrom : MethodName := ⟨RX3, "copyFrom", "(LCrustBlocks$State;)V"⟩
abbrev cX3_filledPlaces : ByteArray := prog_5_method_3_code
def yX3_filledPlaces : MethodName := ⟨RX3, "filledPlaces", "()I"⟩
def RX4 : String := "CrustBlocks$Stepper"
def TX4 : u_T := fun k => match k with
  | 0 => ("CrustBlocks$Stepper", "valleys", "[I", true)
  | 1 => ("CrustBlocks$Stepper", "taken", "[I", true)
  | _ => ("CrustBlocks$Stepper", "places", "[I", true)
def tyX4 : Nat → FieldType := fun k => match k with
  | 0 => .array .int
  | 1 => .array .int
  | _ => .array .int
abbrev wsX40 : List Cond := u_ws RX4 TX4 3
theorem nmX4 : ∀ a, a < 3 → ∀ b, b < 3 → a ≠ b → (TX4 a).2.1 ≠ (TX4 b).2.1 := by decide +kernel
theorem tyX4_ok : ∀ k, k < 3 → parseFieldDescriptor (TX4 k).2.2.1 = some (tyX4 k) := by decide +kernel
abbrev cX4_init : ByteArray := prog_6_method_1_code
def yX4_init : MethodName := ⟨RX4, "<init>", "()V"⟩
abbrev cX4_makeStep : ByteArray := prog_6_method_2_code
def yX4_makeStep : MethodName := ⟨RX4, "makeStep", "(LCrustBlocks$State;)V"⟩
abbrev cX4_changeIce : ByteArray := prog_6_method_3_code
def yX4_changeIce : MethodName := ⟨RX4, "changeIce", "(LCrustBlocks$State;LCrustBlocks$Column;)V"⟩
abbrev cX4_growIce : ByteArray := prog_6_method_4_code
def yX4_growIce : MethodName := ⟨RX4, "growIce", "(LCrustBlocks$State;LCrustBlocks$Column;I)V"⟩
abbrev cX4_findErosion : ByteArray := prog_6_method_5_code
def yX4_findErosion : MethodName := ⟨RX4, "findErosion", "(LCrustBlocks$State;)V"⟩
abbrev cX4_erode : ByteArray := prog_6_method_6_code
def yX4_erode : MethodName := ⟨RX4, "erode", "(LCrustBlocks$State;I)V"⟩
abbrev cX4_laidDown : ByteArray := prog_6_method_7_code
def yX4_laidDown : MethodName := ⟨RX4, "laidDown", "(LCrustBlocks$Column;II)I"⟩
def RX5 : String := "CrustBlocks$Text"
def TX5 : u_T := fun k => match k with
  | 0 => ("CrustBlocks$Text", "characters", "[I", true)
  | 1 => ("CrustBlocks$Text", "length", "I", false)
  | 2 => ("CrustBlocks$Text", "position", "I", false)
  | _ => ("CrustBlocks$Text", "errorAt", "I", false)
def tyX5 : Nat → FieldType := fun k => match k with
  | 0 => .array .int
  | 1 => .int
  | 2 => .int
  | _ => .int
abbrev wsX50 : List Cond := u_ws RX5 TX5 4
theorem nmX5 : ∀ a, a < 4 → ∀ b, b < 4 → a ≠ b → (TX5 a).2.1 ≠ (TX5 b).2.1 := by decide +kernel
theorem tyX5_ok : ∀ k, k < 4 → parseFieldDescriptor (TX5 k).2.2.1 = some (tyX5 k) := by decide +kernel
abbrev cX5_init : ByteArray := prog_7_method_1_code
def yX5_init : MethodName := ⟨RX5, "<init>", "()V"⟩
abbrev cX5_isWrong : ByteArray := prog_7_method_2_code
def yX5_isWrong : MethodName := ⟨RX5, "isWrong", "()Z"⟩
abbrev cX5_readInto : ByteArray := prog_7_method_3_code
def yX5_readInto : MethodName := ⟨RX5, "readInto", "(LCrustBlocks$State;)I"⟩
abbrev cX5_readItem : ByteArray := prog_7_method_4_code
def yX5_readItem : MethodName := ⟨RX5, "readItem", "(LCrustBlocks$State;)V"⟩
abbrev cX5_readLayers : ByteArray := prog_7_method_5_code
def yX5_readLayers : MethodName := ⟨RX5, "readLayers", "(LCrustBlocks$Column;)V"⟩
abbrev cX5_readLayer : ByteArray := prog_7_method_6_code
def yX5_readLayer : MethodName := ⟨RX5, "readLayer", "(LCrustBlocks$Column;)V"⟩
abbrev cX5_readNumber : ByteArray := prog_7_method_7_code
def yX5_readNumber : MethodName := ⟨RX5, "readNumber", "(II)I"⟩
abbrev cX5_expect : ByteArray := prog_7_method_8_code
def yX5_expect : MethodName := ⟨RX5, "expect", "(I)V"⟩
abbrev cX5_fail : ByteArray := prog_7_method_9_code
def yX5_fail : MethodName := ⟨RX5, "fail", "(I)V"⟩
abbrev cX5_nextSign : ByteArray := prog_7_method_10_code
def yX5_nextSign : MethodName := ⟨RX5, "nextSign", "()I"⟩
abbrev cX5_kindOf : ByteArray := prog_7_method_11_code
def yX5_kindOf : MethodName := ⟨RX5, "kindOf", "(I)I"⟩
def RX6 : String := "CrustBlocks"
def TX6 : u_T := fun k => match k with
  | 0 => ("CrustBlocks", "state", "LCrustBlocks$State;", true)
  | 1 => ("CrustBlocks", "draft", "LCrustBlocks$State;", true)
  | 2 => ("CrustBlocks", "history", "LCrustBlocks$History;", true)
  | 3 => ("CrustBlocks", "text", "LCrustBlocks$Text;", true)
  | _ => ("CrustBlocks", "stepper", "LCrustBlocks$Stepper;", true)
def tyX6 : Nat → FieldType := fun k => match k with
  | 0 => .object "CrustBlocks$State"
  | 1 => .object "CrustBlocks$State"
  | 2 => .object "CrustBlocks$History"
  | 3 => .object "CrustBlocks$Text"
  | _ => .object "CrustBlocks$Stepper"
abbrev wsX60 : List Cond := u_ws RX6 TX6 5
theorem nmX6 : ∀ a, a < 5 → ∀ b, b < 5 → a ≠ b → (TX6 a).2.1 ≠ (TX6 b).2.1 := by decide +kernel
theorem tyX6_ok : ∀ k, k < 5 → parseFieldDescriptor (TX6 k).2.2.1 = some (tyX6 k) := by decide +kernel
abbrev cX6_init : ByteArray := prog_1_method_1_code
def yX6_init : MethodName := ⟨RX6, "<init>", "()V"⟩
abbrev cX6_addLayer : ByteArray := prog_1_method_2_code
def yX6_addLayer : MethodName := ⟨RX6, "addLayer", "(IIIII)I"⟩
abbrev cX6_removeLayer : ByteArray := prog_1_method_3_code
def yX6_removeLayer : MethodName := ⟨RX6, "removeLayer", "(II)I"⟩
abbrev cX6_strip : ByteArray := prog_1_method_4_code
def yX6_strip : MethodName := ⟨RX6, "strip", "(I)I"⟩
abbrev cX6_settle : ByteArray := prog_1_method_5_code
def yX6_settle : MethodName := ⟨RX6, "settle", "()I"⟩
abbrev cX6_set : ByteArray := prog_1_method_6_code
def yX6_set : MethodName := ⟨RX6, "set", "(II)I"⟩
abbrev cX6_run : ByteArray := prog_1_method_7_code
def yX6_run : MethodName := ⟨RX6, "run", "(I)I"⟩
abbrev cX6_take : ByteArray := prog_1_method_8_code
def yX6_take : MethodName := ⟨RX6, "take", "(I)I"⟩
abbrev cX6_restore : ByteArray := prog_1_method_9_code
def yX6_restore : MethodName := ⟨RX6, "restore", "(I)I"⟩
abbrev cX6_undo : ByteArray := prog_1_method_10_code
def yX6_undo : MethodName := ⟨RX6, "undo", "()I"⟩
abbrev cX6_load : ByteArray := prog_1_method_13_code
def yX6_load : MethodName := ⟨RX6, "load", "()I"⟩
abbrev cX6_count : ByteArray := prog_1_method_14_code
def yX6_count : MethodName := ⟨RX6, "count", "(I)I"⟩
abbrev cX6_block : ByteArray := prog_1_method_15_code
def yX6_block : MethodName := ⟨RX6, "block", "(II)I"⟩
abbrev cX6_layer : ByteArray := prog_1_method_16_code
def yX6_layer : MethodName := ⟨RX6, "layer", "(III)I"⟩
abbrev cX6_account : ByteArray := prog_1_method_17_code
def yX6_account : MethodName := ⟨RX6, "account", "(I)I"⟩
abbrev cX6_density : ByteArray := prog_1_method_18_code
def yX6_density : MethodName := ⟨RX6, "density", "(II)I"⟩
abbrev cX6_pressure : ByteArray := prog_1_method_19_code
def yX6_pressure : MethodName := ⟨RX6, "pressure", "(II)I"⟩
abbrev cX6_why : ByteArray := prog_1_method_20_code
def yX6_why : MethodName := ⟨RX6, "why", "(I)I"⟩
abbrev cX6_valley : ByteArray := prog_1_method_21_code
def yX6_valley : MethodName := ⟨RX6, "valley", "(I)I"⟩
abbrev cX6_stepsToBalance : ByteArray := prog_1_method_22_code
def yX6_stepsToBalance : MethodName := ⟨RX6, "stepsToBalance", "(I)I"⟩
abbrev cX6_topIn : ByteArray := prog_1_method_24_code
def yX6_topIn : MethodName := ⟨RX6, "topIn", "(II)I"⟩
abbrev cX6_uneven : ByteArray := prog_1_method_25_code
def yX6_uneven : MethodName := ⟨RX6, "uneven", "(II)I"⟩
abbrev cX6_isWithin : ByteArray := prog_1_method_26_code
def yX6_isWithin : MethodName := ⟨RX6, "isWithin", "(III)Z"⟩
abbrev cX6_isBlock : ByteArray := prog_1_method_27_code
def yX6_isBlock : MethodName := ⟨RX6, "isBlock", "(I)Z"⟩
abbrev cX6_isKind : ByteArray := prog_1_method_28_code
def yX6_isKind : MethodName := ⟨RX6, "isKind", "(I)Z"⟩
abbrev cX6_isPlace : ByteArray := prog_1_method_29_code
def yX6_isPlace : MethodName := ⟨RX6, "isPlace", "(I)Z"⟩
def RX7 : String := "CrustBlocksModel"
def TX7 : u_T := fun k => match k with
  | _ => ("", "", "", false)
def tyX7 : Nat → FieldType := fun k => match k with
  | _ => .int
abbrev wsX70 : List Cond := u_ws RX7 TX7 0
theorem nmX7 : ∀ a, a < 0 → ∀ b, b < 0 → a ≠ b → (TX7 a).2.1 ≠ (TX7 b).2.1 := by decide +kernel
theorem tyX7_ok : ∀ k, k < 0 → parseFieldDescriptor (TX7 k).2.2.1 = some (tyX7 k) := by decide +kernel
def RJ6 : String := "java/lang/Integer"
def TJ6 : u_T := fun k => match k with
  | _ => ("", "", "", false)
def tyJ6 : Nat → FieldType := fun k => match k with
  | _ => .int
abbrev wsJ60 : List Cond := u_ws RJ6 TJ6 0
theorem nmJ6 : ∀ a, a < 0 → ∀ b, b < 0 → a ≠ b → (TJ6 a).2.1 ≠ (TJ6 b).2.1 := by decide +kernel
theorem tyJ6_ok : ∀ k, k < 0 → parseFieldDescriptor (TJ6 k).2.2.1 = some (tyJ6 k) := by decide +kernel
abbrev cJ6_compare_7cf53 : ByteArray := prog_10_method_40_code
def yJ6_compare_7cf53 : MethodName := ⟨RJ6, "compare", "(II)I"⟩
def RJ9 : String := "java/lang/Math"
def TJ9 : u_T := fun k => match k with
  | _ => ("", "", "", false)
def tyJ9 : Nat → FieldType := fun k => match k with
  | _ => .int
abbrev wsJ90 : List Cond := u_ws RJ9 TJ9 0
theorem nmJ9 : ∀ a, a < 0 → ∀ b, b < 0 → a ≠ b → (TJ9 a).2.1 ≠ (TJ9 b).2.1 := by decide +kernel
theorem tyJ9_ok : ∀ k, k < 0 → parseFieldDescriptor (TJ9 k).2.2.1 = some (tyJ9 k) := by decide +kernel
abbrev cJ9_max_7cf53 : ByteArray := prog_11_method_65_code
def yJ9_max_7cf53 : MethodName := ⟨RJ9, "max", "(II)I"⟩
abbrev cJ9_min_7cf53 : ByteArray := prog_11_method_69_code
def yJ9_min_7cf53 : MethodName := ⟨RJ9, "min", "(II)I"⟩
abbrev cJ9_min_f86c9 : ByteArray := prog_11_method_70_code
def yJ9_min_f86c9 : MethodName := ⟨RJ9, "min", "(JJ)J"⟩
def RJ10 : String := "java/lang/System"
def TJ10 : u_T := fun k => match k with
  | _ => ("", "", "", false)
def tyJ10 : Nat → FieldType := fun k => match k with
  | _ => .int
abbrev wsJ100 : List Cond := u_ws RJ10 TJ10 0
theorem nmJ10 : ∀ a, a < 0 → ∀ b, b < 0 → a ≠ b → (TJ10 a).2.1 ≠ (TJ10 b).2.1 := by decide +kernel
theorem tyJ10_ok : ∀ k, k < 0 → parseFieldDescriptor (TJ10 k).2.2.1 = some (tyJ10 k) := by decide +kernel
def RL : String := "CrustBlocksLaw"
abbrev cL_cell : ByteArray := method_2_code
def yL_cell : MethodName := ⟨RL, "cell", "([II)I"⟩
abbrev cL_low : ByteArray := method_3_code
def yL_low : MethodName := ⟨RL, "low", "(II)I"⟩
abbrev cL_digest : ByteArray := method_4_code
def yL_digest : MethodName := ⟨RL, "digest", "(LCrustBlocks;)J"⟩
abbrev cL_act : ByteArray := method_5_code
def yL_act : MethodName := ⟨RL, "act", "(LCrustBlocks;I)I"⟩
abbrev cL_isRight : ByteArray := method_6_code
def yL_isRight : MethodName := ⟨RL, "isRight", "(LCrustBlocks;)Z"⟩
abbrev cL_law : ByteArray := code
def yL_law : MethodName := ⟨RL, "law", "([I)Z"⟩
abbrev vwCl : List vw_C := [(RX0, TX0, 5), (RX1, TX1, 1), (RX2, TX2, 3), (RX3, TX3, 6), (RX4, TX4, 3), (RX5, TX5, 4), (RX6, TX6, 5)]
/-- the words that may be handed to a callee -/
def gA : List Cond := lw_tbl.filter goodWord
theorem gA_good : ∀ w ∈ gA, w ∈ lw_tbl ∧ ((w.onTables && w.keeps) = true ∨ ∃ ty, w = .arrayClass ty) := fun w h => ⟨(List.mem_filter.mp h).1, good_of_word (List.mem_filter.mp h).2⟩
theorem tb_1 {w : Cond} (i : Nat) (h : tables_1_1[i]? = some w) : w ∈ lw_tbl := by
  have h1 := List.mem_of_getElem? h
  exact List.mem_append_right _ (List.mem_append_left _ h1)
theorem ga_1 {w : Cond} (i : Nat) (h : tables_1_1[i]? = some w) (hg : goodWord w = true) : w ∈ gA := List.mem_filter.mpr ⟨tb_1 i h, hg⟩
theorem tb_2 {w : Cond} (i : Nat) (h : tables_1_2[i]? = some w) : w ∈ lw_tbl := by
  have h1 := List.mem_of_getElem? h
  exact List.mem_append_right _ (List.mem_append_right _ (List.mem_append_left _ h1))
theorem ga_2 {w : Cond} (i : Nat) (h : tables_1_2[i]? = some w) (hg : goodWord w = true) : w ∈ gA := List.mem_filter.mpr ⟨tb_2 i h, hg⟩
theorem tb_3 {w : Cond} (i : Nat) (h : tables_1_3[i]? = some w) : w ∈ lw_tbl := by
  have h1 := List.mem_of_getElem? h
  exact List.mem_append_right _ (List.mem_append_right _ (List.mem_append_right _ (h1)))
theorem ga_3 {w : Cond} (i : Nat) (h : tables_1_3[i]? = some w) (hg : goodWord w = true) : w ∈ gA := List.mem_filter.mpr ⟨tb_3 i h, hg⟩
theorem tb_s {w : Cond} (i : Nat) (h : (k2_sels lw_privs)[i]? = some w) : w ∈ lw_tbl := List.mem_append_left _ (List.mem_of_getElem? h)
theorem ga_s {w : Cond} (i : Nat) (h : (k2_sels lw_privs)[i]? = some w) (hg : goodWord w = true) : w ∈ gA := List.mem_filter.mpr ⟨tb_s i h, hg⟩
