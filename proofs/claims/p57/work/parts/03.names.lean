def RX0 : String := "SnowLedger$FlakeTable"
def TX0 : u_T := fun k => match k with
  | 0 => ("SnowLedger$FlakeTable", "sizes", "LSnowLedger$Row;", true)
  | 1 => ("SnowLedger$FlakeTable", "flakes", "LSnowLedger$Row;", true)
  | _ => ("SnowLedger$FlakeTable", "list", "LSnowLedger$Row;", true)
def tyX0 : Nat → FieldType := fun k => match k with
  | 0 => .object "SnowLedger$Row"
  | 1 => .object "SnowLedger$Row"
  | _ => .object "SnowLedger$Row"
abbrev wsX00 : List Cond := u_ws RX0 TX0 3
theorem nmX0 : ∀ a, a < 3 → ∀ b, b < 3 → a ≠ b → (TX0 a).2.1 ≠ (TX0 b).2.1 := by decide +kernel
theorem tyX0_ok : ∀ k, k < 3 → parseFieldDescriptor (TX0 k).2.2.1 = some (tyX0 k) := by decide +kernel
abbrev cX0_init : ByteArray := prog_2_method_1_code
def yX0_init : MethodName := ⟨RX0, "<init>", "(I)V"⟩
abbrev cX0_size : ByteArray := prog_2_method_2_code
def yX0_size : MethodName := ⟨RX0, "size", "(I)I"⟩
abbrev cX0_hasPosition : ByteArray := prog_2_method_3_code
def yX0_hasPosition : MethodName := ⟨RX0, "hasPosition", "(II)Z"⟩
abbrev cX0_flake : ByteArray := prog_2_method_4_code
def yX0_flake : MethodName := ⟨RX0, "flake", "(II)I"⟩
abbrev cX0_replace : ByteArray := prog_2_method_6_code
def yX0_replace : MethodName := ⟨RX0, "replace", "(III)V"⟩
abbrev cX0_add : ByteArray := prog_2_method_7_code
def yX0_add : MethodName := ⟨RX0, "add", "(II)V"⟩
abbrev cX0_clear : ByteArray := prog_2_method_8_code
def yX0_clear : MethodName := ⟨RX0, "clear", "(I)V"⟩
abbrev cX0_takeList : ByteArray := prog_2_method_9_code
def yX0_takeList : MethodName := ⟨RX0, "takeList", "(ILSnowLedger$FlakeTable;I)V"⟩
abbrev cX0_copyFrom : ByteArray := prog_2_method_10_code
def yX0_copyFrom : MethodName := ⟨RX0, "copyFrom", "(LSnowLedger$FlakeTable;)V"⟩
abbrev cX0_rootByLists : ByteArray := prog_2_method_11_code
def yX0_rootByLists : MethodName := ⟨RX0, "rootByLists", "(I)I"⟩
abbrev cX0_rootByHalves : ByteArray := prog_2_method_12_code
def yX0_rootByHalves : MethodName := ⟨RX0, "rootByHalves", "(I)I"⟩
abbrev cX0_rootOfHalf : ByteArray := prog_2_method_13_code
def yX0_rootOfHalf : MethodName := ⟨RX0, "rootOfHalf", "(LSnowLedger$Row;III)I"⟩
def RX1 : String := "SnowLedger$History"
def TX1 : u_T := fun k => match k with
  | 0 => ("SnowLedger$History", "ring", "[LSnowLedger$State;", true)
  | 1 => ("SnowLedger$History", "next", "I", false)
  | _ => ("SnowLedger$History", "size", "I", false)
def tyX1 : Nat → FieldType := fun k => match k with
  | 0 => .array (.object "SnowLedger$State")
  | 1 => .int
  | _ => .int
abbrev wsX10 : List Cond := u_ws RX1 TX1 3
theorem nmX1 : ∀ a, a < 3 → ∀ b, b < 3 → a ≠ b → (TX1 a).2.1 ≠ (TX1 b).2.1 := by decide +kernel
theorem tyX1_ok : ∀ k, k < 3 → parseFieldDescriptor (TX1 k).2.2.1 = some (tyX1 k) := by decide +kernel
abbrev cX1_init : ByteArray := prog_3_method_1_code
def yX1_init : MethodName := ⟨RX1, "<init>", "()V"⟩
abbrev cX1_keep : ByteArray := prog_3_method_2_code
def yX1_keep : MethodName := ⟨RX1, "keep", "(LSnowLedger$State;)V"⟩
abbrev cX1_takeBack : ByteArray := prog_3_method_3_code
def yX1_takeBack : MethodName := ⟨RX1, "takeBack", "(LSnowLedger$State;)V"⟩
abbrev cX1_forget : ByteArray := prog_3_method_4_code
def yX1_forget : MethodName := ⟨RX1, "forget", "()V"⟩
def RX2 : String := "SnowLedger$Refusal"
def TX2 : u_T := fun k => match k with
  | _ => ("", "", "", false)
def tyX2 : Nat → FieldType := fun k => match k with
  | _ => .int
abbrev wsX20 : List Cond := u_ws RX2 TX2 0
theorem nmX2 : ∀ a, a < 0 → ∀ b, b < 0 → a ≠ b → (TX2 a).2.1 ≠ (TX2 b).2.1 := by decide +kernel
theorem tyX2_ok : ∀ k, k < 0 → parseFieldDescriptor (TX2 k).2.2.1 = some (tyX2 k) := by decide +kernel
def RX3 : String := "SnowLedger$Row"
def TX3 : u_T := fun k => match k with
  | _ => ("SnowLedger$Row", "cells", "[I", true)
def tyX3 : Nat → FieldType := fun k => match k with
  | _ => .array .int
abbrev wsX30 : List Cond := u_ws RX3 TX3 1
theorem nmX3 : ∀ a, a < 1 → ∀ b, b < 1 → a ≠ b → (TX3 a).2.1 ≠ (TX3 b).2.1 := by decide +kernel
theorem tyX3_ok : ∀ k, k < 1 → parseFieldDescriptor (TX3 k).2.2.1 = some (tyX3 k) := by decide +kernel
abbrev cX3_init : ByteArray := prog_5_method_1_code
def yX3_init : MethodName := ⟨RX3, "<init>", "(II)V"⟩
abbrev cX3_at : ByteArray := prog_5_method_2_code
def yX3_at : MethodName := ⟨RX3, "at", "(I)I"⟩
abbrev cX3_put : ByteArray := prog_5_method_3_code
def yX3_put : MethodName := ⟨RX3, "put", "(II)V"⟩
abbrev cX3_fill : ByteArray := prog_5_method_4_code
def yX3_fill : MethodName := ⟨RX3, "fill", "(I)V"⟩
abbrev cX3_copyFrom : ByteArray := prog_5_method_5_code
def yX3_copyFrom : MethodName := ⟨RX3, "copyFrom", "(LSnowLedger$Row;)V"⟩
def RX4 : String := "SnowLedger$Script"
def TX4 : u_T := fun k => match k with
  | 0 => ("SnowLedger$Script", "text", "Ljava/lang/StringBuilder;", true)
  | 1 => ("SnowLedger$Script", "kind", "LSnowLedger$Row;", true)
  | 2 => ("SnowLedger$Script", "first", "LSnowLedger$Row;", true)
  | 3 => ("SnowLedger$Script", "second", "LSnowLedger$Row;", true)
  | 4 => ("SnowLedger$Script", "third", "LSnowLedger$Row;", true)
  | 5 => ("SnowLedger$Script", "command", "LSnowLedger$Row;", true)
  | 6 => ("SnowLedger$Script", "steps", "I", false)
  | 7 => ("SnowLedger$Script", "commands", "I", false)
  | _ => ("SnowLedger$Script", "stoppedAt", "I", false)
def tyX4 : Nat → FieldType := fun k => match k with
  | 0 => .object "java/lang/StringBuilder"
  | 1 => .object "SnowLedger$Row"
  | 2 => .object "SnowLedger$Row"
  | 3 => .object "SnowLedger$Row"
  | 4 => .object "SnowLedger$Row"
  | 5 => .object "SnowLedger$Row"
  | 6 => .int
  | 7 => .int
  | _ => .int
abbrev wsX40 : List Cond := u_ws RX4 TX4 9
theorem nmX4 : ∀ a, a < 9 → ∀ b, b < 9 → a ≠ b → (TX4 a).2.1 ≠ (TX4 b).2.1 := by decide +kernel
theorem tyX4_ok : ∀ k, k < 9 → parseFieldDescriptor (TX4 k).2.2.1 = some (tyX4 k) := by decide +kernel
abbrev cX4_init : ByteArray := prog_6_method_1_code
def yX4_init : MethodName := ⟨RX4, "<init>", "()V"⟩
abbrev cX4_length : ByteArray := prog_6_method_2_code
def yX4_length : MethodName := ⟨RX4, "length", "()I"⟩
abbrev cX4_append : ByteArray := prog_6_method_3_code
def yX4_append : MethodName := ⟨RX4, "append", "(C)I"⟩
abbrev cX4_empty : ByteArray := prog_6_method_4_code
def yX4_empty : MethodName := ⟨RX4, "empty", "()V"⟩
abbrev cX4_parse : ByteArray := prog_6_method_5_code
def yX4_parse : MethodName := ⟨RX4, "parse", "()Z"⟩
abbrev cX4_readCommand : ByteArray := prog_6_method_6_code
def yX4_readCommand : MethodName := ⟨RX4, "readCommand", "()Z"⟩
abbrev cX4_readWriting : ByteArray := prog_6_method_7_code
def yX4_readWriting : MethodName := ⟨RX4, "readWriting", "()Z"⟩
abbrev cX4_readFollowing : ByteArray := prog_6_method_8_code
def yX4_readFollowing : MethodName := ⟨RX4, "readFollowing", "()Z"⟩
abbrev cX4_readSwapping : ByteArray := prog_6_method_9_code
def yX4_readSwapping : MethodName := ⟨RX4, "readSwapping", "()Z"⟩
abbrev cX4_readMeltingOrMending : ByteArray := prog_6_method_10_code
def yX4_readMeltingOrMending : MethodName := ⟨RX4, "readMeltingOrMending", "()Z"⟩
abbrev cX4_addStep : ByteArray := prog_6_method_11_code
def yX4_addStep : MethodName := ⟨RX4, "addStep", "(IIII)Z"⟩
abbrev cX4_readNumber : ByteArray := prog_6_method_12_code
def yX4_readNumber : MethodName := ⟨RX4, "readNumber", "()I"⟩
abbrev cX4_readDigit : ByteArray := prog_6_method_13_code
def yX4_readDigit : MethodName := ⟨RX4, "readDigit", "()I"⟩
abbrev cX4_readWord : ByteArray := prog_6_method_14_code
def yX4_readWord : MethodName := ⟨RX4, "readWord", "(Ljava/lang/String;)Z"⟩
abbrev cX4_readSign : ByteArray := prog_6_method_15_code
def yX4_readSign : MethodName := ⟨RX4, "readSign", "(C)Z"⟩
abbrev cX4_sign : ByteArray := prog_6_method_16_code
def yX4_sign : MethodName := ⟨RX4, "sign", "()I"⟩
def RX5 : String := "SnowLedger$State"
def TX5 : u_T := fun k => match k with
  | 0 => ("SnowLedger$State", "number", "LSnowLedger$Row;", true)
  | 1 => ("SnowLedger$State", "parent", "LSnowLedger$Row;", true)
  | 2 => ("SnowLedger$State", "writer", "LSnowLedger$Row;", true)
  | 3 => ("SnowLedger$State", "hash", "LSnowLedger$Row;", true)
  | 4 => ("SnowLedger$State", "nonce", "LSnowLedger$Row;", true)
  | 5 => ("SnowLedger$State", "blockFlakes", "LSnowLedger$FlakeTable;", true)
  | 6 => ("SnowLedger$State", "followed", "LSnowLedger$Row;", true)
  | 7 => ("SnowLedger$State", "hillFlakes", "LSnowLedger$FlakeTable;", true)
  | 8 => ("SnowLedger$State", "hills", "I", false)
  | 9 => ("SnowLedger$State", "nextNumber", "I", false)
  | 10 => ("SnowLedger$State", "written", "I", false)
  | _ => ("SnowLedger$State", "melted", "I", false)
def tyX5 : Nat → FieldType := fun k => match k with
  | 0 => .object "SnowLedger$Row"
  | 1 => .object "SnowLedger$Row"
  | 2 => .object "SnowLedger$Row"
  | 3 => .object "SnowLedger$Row"
  | 4 => .object "SnowLedger$Row"
  | 5 => .object "SnowLedger$FlakeTable"
  | 6 => .object "SnowLedger$Row"
  | 7 => .object "SnowLedger$FlakeTable"
  | 8 => .int
  | 9 => .int
  | 10 => .int
  | _ => .int
abbrev wsX50 : List Cond := u_ws RX5 TX5 12
theorem nmX5 : ∀ a, a < 12 → ∀ b, b < 12 → a ≠ b → (TX5 a).2.1 ≠ (TX5 b).2.1 := by decide +kernel
theorem tyX5_ok : ∀ k, k < 12 → parseFieldDescriptor (TX5 k).2.2.1 = some (tyX5 k) := by decide +kernel
abbrev cX5_init : ByteArray := prog_7_method_1_code
def yX5_init : MethodName := ⟨RX5, "<init>", "()V"⟩
abbrev cX5_copyFrom : ByteArray := prog_7_method_2_code
def yX5_copyFrom : MethodName := ⟨RX5, "copyFrom", "(LSnowLedger$State;)V"⟩
abbrev cX5_hasHill : ByteArray := prog_7_method_3_code
def yX5_hasHill : MethodName := ⟨RX5, "hasHill", "(I)Z"⟩
abbrev cX5_isUsed : ByteArray := prog_7_method_4_code
def yX5_isUsed : MethodName := ⟨RX5, "isUsed", "(I)Z"⟩
abbrev cX5_slotOf : ByteArray := prog_7_method_5_code
def yX5_slotOf : MethodName := ⟨RX5, "slotOf", "(I)I"⟩
abbrev cX5_freeSlot : ByteArray := prog_7_method_6_code
def yX5_freeSlot : MethodName := ⟨RX5, "freeSlot", "()I"⟩
abbrev cX5_free : ByteArray := prog_7_method_7_code
def yX5_free : MethodName := ⟨RX5, "free", "(I)V"⟩
def RX6 : String := "SnowLedger$Survey"
def TX6 : u_T := fun k => match k with
  | 0 => ("SnowLedger$Survey", "state", "LSnowLedger$State;", true)
  | _ => ("SnowLedger$Survey", "marks", "LSnowLedger$Row;", true)
def tyX6 : Nat → FieldType := fun k => match k with
  | 0 => .object "SnowLedger$State"
  | _ => .object "SnowLedger$Row"
abbrev wsX60 : List Cond := u_ws RX6 TX6 2
theorem nmX6 : ∀ a, a < 2 → ∀ b, b < 2 → a ≠ b → (TX6 a).2.1 ≠ (TX6 b).2.1 := by decide +kernel
theorem tyX6_ok : ∀ k, k < 2 → parseFieldDescriptor (TX6 k).2.2.1 = some (tyX6 k) := by decide +kernel
abbrev cX6_init : ByteArray := prog_8_method_1_code
def yX6_init : MethodName := ⟨RX6, "<init>", "(LSnowLedger$State;)V"⟩
abbrev cX6_countBlocks : ByteArray := prog_8_method_2_code
def yX6_countBlocks : MethodName := ⟨RX6, "countBlocks", "()I"⟩
abbrev cX6_countChildren : ByteArray := prog_8_method_3_code
def yX6_countChildren : MethodName := ⟨RX6, "countChildren", "(I)I"⟩
abbrev cX6_countWrittenBy : ByteArray := prog_8_method_4_code
def yX6_countWrittenBy : MethodName := ⟨RX6, "countWrittenBy", "(I)I"⟩
abbrev cX6_heightByWalk : ByteArray := prog_8_method_5_code
def yX6_heightByWalk : MethodName := ⟨RX6, "heightByWalk", "(I)I"⟩
abbrev cX6_heightBySearch : ByteArray := prog_8_method_6_code
def yX6_heightBySearch : MethodName := ⟨RX6, "heightBySearch", "(I)I"⟩
abbrev cX6_depthBelow : ByteArray := prog_8_method_7_code
def yX6_depthBelow : MethodName := ⟨RX6, "depthBelow", "(LSnowLedger$Row;III)I"⟩
abbrev cX6_countAtHeight : ByteArray := prog_8_method_8_code
def yX6_countAtHeight : MethodName := ⟨RX6, "countAtHeight", "(I)I"⟩
abbrev cX6_holds : ByteArray := prog_8_method_9_code
def yX6_holds : MethodName := ⟨RX6, "holds", "(I)Z"⟩
abbrev cX6_countHolding : ByteArray := prog_8_method_10_code
def yX6_countHolding : MethodName := ⟨RX6, "countHolding", "()I"⟩
abbrev cX6_lowestBroken : ByteArray := prog_8_method_11_code
def yX6_lowestBroken : MethodName := ⟨RX6, "lowestBroken", "(I)I"⟩
abbrev cX6_countRepairs : ByteArray := prog_8_method_12_code
def yX6_countRepairs : MethodName := ⟨RX6, "countRepairs", "(I)I"⟩
abbrev cX6_ancestor : ByteArray := prog_8_method_13_code
def yX6_ancestor : MethodName := ⟨RX6, "ancestor", "(II)I"⟩
abbrev cX6_reaches : ByteArray := prog_8_method_14_code
def yX6_reaches : MethodName := ⟨RX6, "reaches", "(II)Z"⟩
abbrev cX6_countReaching : ByteArray := prog_8_method_15_code
def yX6_countReaching : MethodName := ⟨RX6, "countReaching", "(I)I"⟩
abbrev cX6_fork : ByteArray := prog_8_method_16_code
def yX6_fork : MethodName := ⟨RX6, "fork", "(II)I"⟩
abbrev cX6_countCommonFlakes : ByteArray := prog_8_method_17_code
def yX6_countCommonFlakes : MethodName := ⟨RX6, "countCommonFlakes", "(II)I"⟩
abbrev cX6_markFlakes : ByteArray := prog_8_method_18_code
def yX6_markFlakes : MethodName := ⟨RX6, "markFlakes", "(II)V"⟩
abbrev cX6_isTip : ByteArray := prog_8_method_21_code
def yX6_isTip : MethodName := ⟨RX6, "isTip", "(I)Z"⟩
abbrev cX6_countTips : ByteArray := prog_8_method_22_code
def yX6_countTips : MethodName := ⟨RX6, "countTips", "()I"⟩
abbrev cX6_sumOfTipHeights : ByteArray := prog_8_method_23_code
def yX6_sumOfTipHeights : MethodName := ⟨RX6, "sumOfTipHeights", "()I"⟩
abbrev cX6_tipRanked : ByteArray := prog_8_method_24_code
def yX6_tipRanked : MethodName := ⟨RX6, "tipRanked", "(I)I"⟩
abbrev cX6_countTipsBefore : ByteArray := prog_8_method_25_code
def yX6_countTipsBefore : MethodName := ⟨RX6, "countTipsBefore", "(I)I"⟩
abbrev cX6_ranksBefore : ByteArray := prog_8_method_26_code
def yX6_ranksBefore : MethodName := ⟨RX6, "ranksBefore", "(II)Z"⟩
abbrev cX6_best : ByteArray := prog_8_method_27_code
def yX6_best : MethodName := ⟨RX6, "best", "()I"⟩
abbrev cX6_waysAgree : ByteArray := prog_8_method_28_code
def yX6_waysAgree : MethodName := ⟨RX6, "waysAgree", "()Z"⟩
abbrev cX6_hashesAreSteps : ByteArray := prog_8_method_29_code
def yX6_hashesAreSteps : MethodName := ⟨RX6, "hashesAreSteps", "()Z"⟩
def RX7 : String := "SnowLedger$Work"
def TX7 : u_T := fun k => match k with
  | 0 => ("SnowLedger$Work", "state", "LSnowLedger$State;", true)
  | 1 => ("SnowLedger$Work", "survey", "LSnowLedger$Survey;", true)
  | _ => ("SnowLedger$Work", "doomed", "LSnowLedger$Row;", true)
def tyX7 : Nat → FieldType := fun k => match k with
  | 0 => .object "SnowLedger$State"
  | 1 => .object "SnowLedger$Survey"
  | _ => .object "SnowLedger$Row"
abbrev wsX70 : List Cond := u_ws RX7 TX7 3
theorem nmX7 : ∀ a, a < 3 → ∀ b, b < 3 → a ≠ b → (TX7 a).2.1 ≠ (TX7 b).2.1 := by decide +kernel
theorem tyX7_ok : ∀ k, k < 3 → parseFieldDescriptor (TX7 k).2.2.1 = some (tyX7 k) := by decide +kernel
abbrev cX7_init : ByteArray := prog_9_method_1_code
def yX7_init : MethodName := ⟨RX7, "<init>", "(LSnowLedger$State;LSnowLedger$Survey;)V"⟩
abbrev cX7_refusalOf : ByteArray := prog_9_method_2_code
def yX7_refusalOf : MethodName := ⟨RX7, "refusalOf", "(IIII)LSnowLedger$Refusal;"⟩
abbrev cX7_carryOut : ByteArray := prog_9_method_3_code
def yX7_carryOut : MethodName := ⟨RX7, "carryOut", "(IIII)I"⟩
abbrev cX7_refusalToRaiseHill : ByteArray := prog_9_method_4_code
def yX7_refusalToRaiseHill : MethodName := ⟨RX7, "refusalToRaiseHill", "()LSnowLedger$Refusal;"⟩
abbrev cX7_raiseHill : ByteArray := prog_9_method_5_code
def yX7_raiseHill : MethodName := ⟨RX7, "raiseHill", "()I"⟩
abbrev cX7_refusalToHold : ByteArray := prog_9_method_6_code
def yX7_refusalToHold : MethodName := ⟨RX7, "refusalToHold", "(II)LSnowLedger$Refusal;"⟩
abbrev cX7_hold : ByteArray := prog_9_method_7_code
def yX7_hold : MethodName := ⟨RX7, "hold", "(II)I"⟩
abbrev cX7_refusalToAppend : ByteArray := prog_9_method_8_code
def yX7_refusalToAppend : MethodName := ⟨RX7, "refusalToAppend", "(I)LSnowLedger$Refusal;"⟩
abbrev cX7_append : ByteArray := prog_9_method_9_code
def yX7_append : MethodName := ⟨RX7, "append", "(I)I"⟩
abbrev cX7_seal : ByteArray := prog_9_method_10_code
def yX7_seal : MethodName := ⟨RX7, "seal", "(I)V"⟩
abbrev cX7_refusalToTurn : ByteArray := prog_9_method_11_code
def yX7_refusalToTurn : MethodName := ⟨RX7, "refusalToTurn", "(II)LSnowLedger$Refusal;"⟩
abbrev cX7_turn : ByteArray := prog_9_method_12_code
def yX7_turn : MethodName := ⟨RX7, "turn", "(II)I"⟩
abbrev cX7_refusalToRemove : ByteArray := prog_9_method_13_code
def yX7_refusalToRemove : MethodName := ⟨RX7, "refusalToRemove", "(I)LSnowLedger$Refusal;"⟩
abbrev cX7_remove : ByteArray := prog_9_method_14_code
def yX7_remove : MethodName := ⟨RX7, "remove", "(I)I"⟩
abbrev cX7_refusalToSwap : ByteArray := prog_9_method_15_code
def yX7_refusalToSwap : MethodName := ⟨RX7, "refusalToSwap", "(III)LSnowLedger$Refusal;"⟩
abbrev cX7_swap : ByteArray := prog_9_method_16_code
def yX7_swap : MethodName := ⟨RX7, "swap", "(III)I"⟩
abbrev cX7_refusalToMend : ByteArray := prog_9_method_17_code
def yX7_refusalToMend : MethodName := ⟨RX7, "refusalToMend", "(I)LSnowLedger$Refusal;"⟩
abbrev cX7_mend : ByteArray := prog_9_method_18_code
def yX7_mend : MethodName := ⟨RX7, "mend", "(I)I"⟩
def RX8 : String := "SnowLedger"
def TX8 : u_T := fun k => match k with
  | 0 => ("SnowLedger", "state", "LSnowLedger$State;", true)
  | 1 => ("SnowLedger", "survey", "LSnowLedger$Survey;", true)
  | 2 => ("SnowLedger", "work", "LSnowLedger$Work;", true)
  | 3 => ("SnowLedger", "history", "LSnowLedger$History;", true)
  | 4 => ("SnowLedger", "snapshot", "LSnowLedger$State;", true)
  | 5 => ("SnowLedger", "snapshotTaken", "Z", false)
  | 6 => ("SnowLedger", "beforeScript", "LSnowLedger$State;", true)
  | 7 => ("SnowLedger", "script", "LSnowLedger$Script;", true)
  | 8 => ("SnowLedger", "output", "Ljava/lang/StringBuilder;", true)
  | 9 => ("SnowLedger", "formError", "I", false)
  | _ => ("SnowLedger", "failedAt", "I", false)
def tyX8 : Nat → FieldType := fun k => match k with
  | 0 => .object "SnowLedger$State"
  | 1 => .object "SnowLedger$Survey"
  | 2 => .object "SnowLedger$Work"
  | 3 => .object "SnowLedger$History"
  | 4 => .object "SnowLedger$State"
  | 5 => .boolean
  | 6 => .object "SnowLedger$State"
  | 7 => .object "SnowLedger$Script"
  | 8 => .object "java/lang/StringBuilder"
  | 9 => .int
  | _ => .int
abbrev wsX80 : List Cond := u_ws RX8 TX8 11
theorem nmX8 : ∀ a, a < 11 → ∀ b, b < 11 → a ≠ b → (TX8 a).2.1 ≠ (TX8 b).2.1 := by decide +kernel
theorem tyX8_ok : ∀ k, k < 11 → parseFieldDescriptor (TX8 k).2.2.1 = some (tyX8 k) := by decide +kernel
abbrev cX8_init : ByteArray := prog_1_method_1_code
def yX8_init : MethodName := ⟨RX8, "<init>", "()V"⟩
abbrev cX8_addHill : ByteArray := prog_1_method_2_code
def yX8_addHill : MethodName := ⟨RX8, "addHill", "()I"⟩
abbrev cX8_collect : ByteArray := prog_1_method_3_code
def yX8_collect : MethodName := ⟨RX8, "collect", "(II)I"⟩
abbrev cX8_write : ByteArray := prog_1_method_4_code
def yX8_write : MethodName := ⟨RX8, "write", "(I)I"⟩
abbrev cX8_follow : ByteArray := prog_1_method_5_code
def yX8_follow : MethodName := ⟨RX8, "follow", "(II)I"⟩
abbrev cX8_melt : ByteArray := prog_1_method_6_code
def yX8_melt : MethodName := ⟨RX8, "melt", "(I)I"⟩
abbrev cX8_replaceFlake : ByteArray := prog_1_method_7_code
def yX8_replaceFlake : MethodName := ⟨RX8, "replaceFlake", "(III)I"⟩
abbrev cX8_repair : ByteArray := prog_1_method_8_code
def yX8_repair : MethodName := ⟨RX8, "repair", "(I)I"⟩
abbrev cX8_blockCount : ByteArray := prog_1_method_9_code
def yX8_blockCount : MethodName := ⟨RX8, "blockCount", "()I"⟩
abbrev cX8_exists : ByteArray := prog_1_method_10_code
def yX8_exists : MethodName := ⟨RX8, "exists", "(I)Z"⟩
abbrev cX8_parentOf : ByteArray := prog_1_method_11_code
def yX8_parentOf : MethodName := ⟨RX8, "parentOf", "(I)I"⟩
abbrev cX8_childCount : ByteArray := prog_1_method_12_code
def yX8_childCount : MethodName := ⟨RX8, "childCount", "(I)I"⟩
abbrev cX8_writerOf : ByteArray := prog_1_method_13_code
def yX8_writerOf : MethodName := ⟨RX8, "writerOf", "(I)I"⟩
abbrev cX8_flakeCount : ByteArray := prog_1_method_14_code
def yX8_flakeCount : MethodName := ⟨RX8, "flakeCount", "(I)I"⟩
abbrev cX8_flakeAt : ByteArray := prog_1_method_15_code
def yX8_flakeAt : MethodName := ⟨RX8, "flakeAt", "(II)I"⟩
abbrev cX8_hashOf : ByteArray := prog_1_method_16_code
def yX8_hashOf : MethodName := ⟨RX8, "hashOf", "(I)I"⟩
abbrev cX8_nonceOf : ByteArray := prog_1_method_17_code
def yX8_nonceOf : MethodName := ⟨RX8, "nonceOf", "(I)I"⟩
abbrev cX8_rootOfFlakes : ByteArray := prog_1_method_18_code
def yX8_rootOfFlakes : MethodName := ⟨RX8, "rootOfFlakes", "(I)I"⟩
abbrev cX8_rootOfFlakesByHalves : ByteArray := prog_1_method_19_code
def yX8_rootOfFlakesByHalves : MethodName := ⟨RX8, "rootOfFlakesByHalves", "(I)I"⟩
abbrev cX8_heightOf : ByteArray := prog_1_method_20_code
def yX8_heightOf : MethodName := ⟨RX8, "heightOf", "(I)I"⟩
abbrev cX8_heightFromRoot : ByteArray := prog_1_method_21_code
def yX8_heightFromRoot : MethodName := ⟨RX8, "heightFromRoot", "(I)I"⟩
abbrev cX8_isValid : ByteArray := prog_1_method_22_code
def yX8_isValid : MethodName := ⟨RX8, "isValid", "(I)Z"⟩
abbrev cX8_isBranchValid : ByteArray := prog_1_method_23_code
def yX8_isBranchValid : MethodName := ⟨RX8, "isBranchValid", "(I)Z"⟩
abbrev cX8_firstInvalid : ByteArray := prog_1_method_24_code
def yX8_firstInvalid : MethodName := ⟨RX8, "firstInvalid", "(I)I"⟩
abbrev cX8_isInBranch : ByteArray := prog_1_method_25_code
def yX8_isInBranch : MethodName := ⟨RX8, "isInBranch", "(II)Z"⟩
abbrev cX8_forkOf : ByteArray := prog_1_method_26_code
def yX8_forkOf : MethodName := ⟨RX8, "forkOf", "(II)I"⟩
abbrev cX8_meltSize : ByteArray := prog_1_method_27_code
def yX8_meltSize : MethodName := ⟨RX8, "meltSize", "(I)I"⟩
abbrev cX8_differentFlakes : ByteArray := prog_1_method_28_code
def yX8_differentFlakes : MethodName := ⟨RX8, "differentFlakes", "(I)I"⟩
abbrev cX8_commonFlakes : ByteArray := prog_1_method_29_code
def yX8_commonFlakes : MethodName := ⟨RX8, "commonFlakes", "(II)I"⟩
abbrev cX8_repairsNeeded : ByteArray := prog_1_method_30_code
def yX8_repairsNeeded : MethodName := ⟨RX8, "repairsNeeded", "(I)I"⟩
abbrev cX8_tipCount : ByteArray := prog_1_method_31_code
def yX8_tipCount : MethodName := ⟨RX8, "tipCount", "()I"⟩
abbrev cX8_tipAtRank : ByteArray := prog_1_method_32_code
def yX8_tipAtRank : MethodName := ⟨RX8, "tipAtRank", "(I)I"⟩
abbrev cX8_bestValidBlock : ByteArray := prog_1_method_33_code
def yX8_bestValidBlock : MethodName := ⟨RX8, "bestValidBlock", "()I"⟩
abbrev cX8_blocksAtHeight : ByteArray := prog_1_method_35_code
def yX8_blocksAtHeight : MethodName := ⟨RX8, "blocksAtHeight", "(I)I"⟩
abbrev cX8_writtenTotal : ByteArray := prog_1_method_36_code
def yX8_writtenTotal : MethodName := ⟨RX8, "writtenTotal", "()I"⟩
abbrev cX8_meltedTotal : ByteArray := prog_1_method_37_code
def yX8_meltedTotal : MethodName := ⟨RX8, "meltedTotal", "()I"⟩
abbrev cX8_meanTipHeight : ByteArray := prog_1_method_38_code
def yX8_meanTipHeight : MethodName := ⟨RX8, "meanTipHeight", "()D"⟩
abbrev cX8_validShare : ByteArray := prog_1_method_39_code
def yX8_validShare : MethodName := ⟨RX8, "validShare", "()F"⟩
abbrev cX8_isConsistent : ByteArray := prog_1_method_40_code
def yX8_isConsistent : MethodName := ⟨RX8, "isConsistent", "()Z"⟩
abbrev cX8_hillCount : ByteArray := prog_1_method_41_code
def yX8_hillCount : MethodName := ⟨RX8, "hillCount", "()I"⟩
abbrev cX8_followed : ByteArray := prog_1_method_42_code
def yX8_followed : MethodName := ⟨RX8, "followed", "(I)I"⟩
abbrev cX8_collected : ByteArray := prog_1_method_43_code
def yX8_collected : MethodName := ⟨RX8, "collected", "(I)I"⟩
abbrev cX8_blocksBy : ByteArray := prog_1_method_44_code
def yX8_blocksBy : MethodName := ⟨RX8, "blocksBy", "(I)I"⟩
abbrev cX8_nextHash : ByteArray := prog_1_method_45_code
def yX8_nextHash : MethodName := ⟨RX8, "nextHash", "(I)I"⟩
abbrev cX8_renderBlock : ByteArray := prog_1_method_46_code
def yX8_renderBlock : MethodName := ⟨RX8, "renderBlock", "(I)I"⟩
abbrev cX8_renderBranch : ByteArray := prog_1_method_47_code
def yX8_renderBranch : MethodName := ⟨RX8, "renderBranch", "(I)I"⟩
abbrev cX8_type : ByteArray := prog_1_method_49_code
def yX8_type : MethodName := ⟨RX8, "type", "(C)I"⟩
abbrev cX8_runScript : ByteArray := prog_1_method_50_code
def yX8_runScript : MethodName := ⟨RX8, "runScript", "()I"⟩
abbrev cX8_failedCommand : ByteArray := prog_1_method_52_code
def yX8_failedCommand : MethodName := ⟨RX8, "failedCommand", "()I"⟩
abbrev cX8_undo : ByteArray := prog_1_method_53_code
def yX8_undo : MethodName := ⟨RX8, "undo", "()I"⟩
abbrev cX8_save : ByteArray := prog_1_method_54_code
def yX8_save : MethodName := ⟨RX8, "save", "()I"⟩
abbrev cX8_restore : ByteArray := prog_1_method_55_code
def yX8_restore : MethodName := ⟨RX8, "restore", "()I"⟩
abbrev cX8_admit : ByteArray := prog_1_method_56_code
def yX8_admit : MethodName := ⟨RX8, nm_0, "(LSnowLedger$Refusal;)V"⟩
abbrev cX8_throwFor : ByteArray := prog_1_method_57_code
def yX8_throwFor : MethodName := ⟨RX8, "throwFor", "(LSnowLedger$Refusal;)V"⟩
abbrev cX8_requireBlock : ByteArray := prog_1_method_58_code
def yX8_requireBlock : MethodName := ⟨RX8, "requireBlock", "(I)I"⟩
abbrev cX8_requireWritten : ByteArray := prog_1_method_59_code
def yX8_requireWritten : MethodName := ⟨RX8, "requireWritten", "(I)I"⟩
abbrev cX8_requireHill : ByteArray := prog_1_method_60_code
def yX8_requireHill : MethodName := ⟨RX8, "requireHill", "(I)V"⟩
abbrev cX8_isFlake : ByteArray := prog_1_method_61_code
def yX8_isFlake : MethodName := ⟨RX8, "isFlake", "(I)Z"⟩
abbrev cX8_combine : ByteArray := prog_1_method_62_code
def yX8_combine : MethodName := ⟨RX8, "combine", "(II)I"⟩
abbrev cX8_hashWith : ByteArray := prog_1_method_63_code
def yX8_hashWith : MethodName := ⟨RX8, "hashWith", "(IIII)I"⟩
abbrev cX8_leastNonce : ByteArray := prog_1_method_64_code
def yX8_leastNonce : MethodName := ⟨RX8, "leastNonce", "(III)I"⟩
abbrev cX8_sealedHash : ByteArray := prog_1_method_65_code
def yX8_sealedHash : MethodName := ⟨RX8, "sealedHash", "(III)I"⟩
def RX9 : String := "SnowLedgerModel"
def TX9 : u_T := fun k => match k with
  | _ => ("", "", "", false)
def tyX9 : Nat → FieldType := fun k => match k with
  | _ => .int
abbrev wsX90 : List Cond := u_ws RX9 TX9 0
theorem nmX9 : ∀ a, a < 0 → ∀ b, b < 0 → a ≠ b → (TX9 a).2.1 ≠ (TX9 b).2.1 := by decide +kernel
theorem tyX9_ok : ∀ k, k < 0 → parseFieldDescriptor (TX9 k).2.2.1 = some (tyX9 k) := by decide +kernel
def RJx145de : String := "java/io/Serializable"
def TJx145de : u_T := fun k => match k with
  | _ => ("", "", "", false)
def tyJx145de : Nat → FieldType := fun k => match k with
  | _ => .int
abbrev wsJx145de0 : List Cond := u_ws RJx145de TJx145de 0
theorem nmJx145de : ∀ a, a < 0 → ∀ b, b < 0 → a ≠ b → (TJx145de a).2.1 ≠ (TJx145de b).2.1 := by decide +kernel
theorem tyJx145de_ok : ∀ k, k < 0 → parseFieldDescriptor (TJx145de k).2.2.1 = some (tyJx145de k) := by decide +kernel
def RJ5 : String := "java/lang/AbstractStringBuilder"
def TJ5 : u_T := fun k => match k with
  | _ => ("", "", "", false)
def tyJ5 : Nat → FieldType := fun k => match k with
  | _ => .int
abbrev wsJ50 : List Cond := u_ws RJ5 TJ5 0
theorem nmJ5 : ∀ a, a < 0 → ∀ b, b < 0 → a ≠ b → (TJ5 a).2.1 ≠ (TJ5 b).2.1 := by decide +kernel
theorem tyJ5_ok : ∀ k, k < 0 → parseFieldDescriptor (TJ5 k).2.2.1 = some (tyJ5 k) := by decide +kernel
abbrev cJ5_init_d00df : ByteArray := prog_13_method_2_code
def yJ5_init_d00df : MethodName := ⟨RJ5, "<init>", "(I)V"⟩
abbrev cJ5_length_8abf5 : ByteArray := prog_13_method_6_code
def yJ5_length_8abf5 : MethodName := ⟨RJ5, "length", "()I"⟩
abbrev cJ5_ensureCapacityInternal_d00df : ByteArray := prog_13_method_9_code
def yJ5_ensureCapacityInternal_d00df : MethodName := ⟨RJ5, "ensureCapacityInternal", "(I)V"⟩
abbrev cJ5_newCapacity_0f7a4 : ByteArray := prog_13_method_10_code
def yJ5_newCapacity_0f7a4 : MethodName := ⟨RJ5, "newCapacity", "(I)I"⟩
abbrev cJ5_inflate_da8c8 : ByteArray := prog_13_method_11_code
def yJ5_inflate_da8c8 : MethodName := ⟨RJ5, "inflate", "()V"⟩
abbrev cJ5_setLength_d00df : ByteArray := prog_13_method_13_code
def yJ5_setLength_d00df : MethodName := ⟨RJ5, "setLength", "(I)V"⟩
abbrev cJ5_charAt_5068e : ByteArray := prog_13_method_14_code
def yJ5_charAt_5068e : MethodName := ⟨RJ5, "charAt", "(I)C"⟩
abbrev cJ5_append_cf1ce : ByteArray := prog_13_method_22_code
def yJ5_append_cf1ce : MethodName := ⟨RJ5, "append", "(Ljava/lang/String;)Ljava/lang/AbstractStringBuilder;"⟩
abbrev cJ5_appendNull_278bc : ByteArray := prog_13_method_26_code
def yJ5_appendNull_278bc : MethodName := ⟨RJ5, "appendNull", "()Ljava/lang/AbstractStringBuilder;"⟩
abbrev cJ5_append_3fe6f : ByteArray := prog_13_method_31_code
def yJ5_append_3fe6f : MethodName := ⟨RJ5, "append", "(C)Ljava/lang/AbstractStringBuilder;"⟩
abbrev cJ5_append_c97b9 : ByteArray := prog_13_method_32_code
def yJ5_append_c97b9 : MethodName := ⟨RJ5, "append", "(I)Ljava/lang/AbstractStringBuilder;"⟩
abbrev cJ5_getValue_6d5f1 : ByteArray := prog_13_method_64_code
def yJ5_getValue_6d5f1 : MethodName := ⟨RJ5, "getValue", "()[B"⟩
abbrev cJ5_isLatin1_aae02 : ByteArray := prog_13_method_68_code
def yJ5_isLatin1_aae02 : MethodName := ⟨RJ5, "isLatin1", "()Z"⟩
abbrev cJ5_inflateIfNeededFor_a7421 : ByteArray := prog_13_method_71_code
def yJ5_inflateIfNeededFor_a7421 : MethodName := ⟨RJ5, "inflateIfNeededFor", "(Ljava/lang/String;)V"⟩
abbrev cJ5_putStringAt_47b60 : ByteArray := prog_13_method_73_code
def yJ5_putStringAt_47b60 : MethodName := ⟨RJ5, "putStringAt", "(ILjava/lang/String;)V"⟩
def RJx2cfe8 : String := "java/lang/Appendable"
def TJx2cfe8 : u_T := fun k => match k with
  | _ => ("", "", "", false)
def tyJx2cfe8 : Nat → FieldType := fun k => match k with
  | _ => .int
abbrev wsJx2cfe80 : List Cond := u_ws RJx2cfe8 TJx2cfe8 0
theorem nmJx2cfe8 : ∀ a, a < 0 → ∀ b, b < 0 → a ≠ b → (TJx2cfe8 a).2.1 ≠ (TJx2cfe8 b).2.1 := by decide +kernel
theorem tyJx2cfe8_ok : ∀ k, k < 0 → parseFieldDescriptor (TJx2cfe8 k).2.2.1 = some (tyJx2cfe8 k) := by decide +kernel
def RJx00060 : String := "java/lang/ArrayIndexOutOfBoundsException"
def TJx00060 : u_T := fun k => match k with
  | 0 => ("java/lang/Throwable", "cause", "Ljava/lang/Throwable;", false)
  | 1 => ("java/lang/Throwable", "stackTrace", "[Ljava/lang/StackTraceElement;", false)
  | 2 => ("java/lang/Throwable", "suppressedExceptions", "Ljava/util/List;", false)
  | 3 => ("java/lang/Throwable", "detailMessage", "Ljava/lang/String;", false)
  | 4 => ("java/lang/Throwable", "backtrace", "Ljava/lang/Object;", false)
  | _ => ("java/lang/Throwable", "depth", "I", false)
def tyJx00060 : Nat → FieldType := fun k => match k with
  | 0 => .object "java/lang/Throwable"
  | 1 => .array (.object "java/lang/StackTraceElement")
  | 2 => .object "java/util/List"
  | 3 => .object "java/lang/String"
  | 4 => .object "java/lang/Object"
  | _ => .int
abbrev wsJx000600 : List Cond := u_ws RJx00060 TJx00060 6
theorem nmJx00060 : ∀ a, a < 6 → ∀ b, b < 6 → a ≠ b → (TJx00060 a).2.1 ≠ (TJx00060 b).2.1 := by decide +kernel
theorem tyJx00060_ok : ∀ k, k < 6 → parseFieldDescriptor (TJx00060 k).2.2.1 = some (tyJx00060 k) := by decide +kernel
abbrev cJx00060_init_d00df : ByteArray := prog_15_method_3_code
def yJx00060_init_d00df : MethodName := ⟨RJx00060, "<init>", "(I)V"⟩
def RJx9f9b0 : String := "java/lang/CharSequence"
def TJx9f9b0 : u_T := fun k => match k with
  | _ => ("", "", "", false)
def tyJx9f9b0 : Nat → FieldType := fun k => match k with
  | _ => .int
abbrev wsJx9f9b00 : List Cond := u_ws RJx9f9b0 TJx9f9b0 0
theorem nmJx9f9b0 : ∀ a, a < 0 → ∀ b, b < 0 → a ≠ b → (TJx9f9b0 a).2.1 ≠ (TJx9f9b0 b).2.1 := by decide +kernel
theorem tyJx9f9b0_ok : ∀ k, k < 0 → parseFieldDescriptor (TJx9f9b0 k).2.2.1 = some (tyJx9f9b0 k) := by decide +kernel
def RJx8e188 : String := "java/lang/Cloneable"
def TJx8e188 : u_T := fun k => match k with
  | _ => ("", "", "", false)
def tyJx8e188 : Nat → FieldType := fun k => match k with
  | _ => .int
abbrev wsJx8e1880 : List Cond := u_ws RJx8e188 TJx8e188 0
theorem nmJx8e188 : ∀ a, a < 0 → ∀ b, b < 0 → a ≠ b → (TJx8e188 a).2.1 ≠ (TJx8e188 b).2.1 := by decide +kernel
theorem tyJx8e188_ok : ∀ k, k < 0 → parseFieldDescriptor (TJx8e188 k).2.2.1 = some (tyJx8e188 k) := by decide +kernel
def RJxb160c : String := "java/lang/Comparable"
def TJxb160c : u_T := fun k => match k with
  | _ => ("", "", "", false)
def tyJxb160c : Nat → FieldType := fun k => match k with
  | _ => .int
abbrev wsJxb160c0 : List Cond := u_ws RJxb160c TJxb160c 0
theorem nmJxb160c : ∀ a, a < 0 → ∀ b, b < 0 → a ≠ b → (TJxb160c a).2.1 ≠ (TJxb160c b).2.1 := by decide +kernel
theorem tyJxb160c_ok : ∀ k, k < 0 → parseFieldDescriptor (TJxb160c k).2.2.1 = some (tyJxb160c k) := by decide +kernel
def RJx29ce0 : String := "java/lang/Enum"
def TJx29ce0 : u_T := fun k => match k with
  | _ => ("", "", "", false)
def tyJx29ce0 : Nat → FieldType := fun k => match k with
  | _ => .int
abbrev wsJx29ce00 : List Cond := u_ws RJx29ce0 TJx29ce0 0
theorem nmJx29ce0 : ∀ a, a < 0 → ∀ b, b < 0 → a ≠ b → (TJx29ce0 a).2.1 ≠ (TJx29ce0 b).2.1 := by decide +kernel
theorem tyJx29ce0_ok : ∀ k, k < 0 → parseFieldDescriptor (TJx29ce0 k).2.2.1 = some (tyJx29ce0 k) := by decide +kernel
def RJ6 : String := "java/lang/Integer"
def TJ6 : u_T := fun k => match k with
  | _ => ("", "", "", false)
def tyJ6 : Nat → FieldType := fun k => match k with
  | _ => .int
abbrev wsJ60 : List Cond := u_ws RJ6 TJ6 0
theorem nmJ6 : ∀ a, a < 0 → ∀ b, b < 0 → a ≠ b → (TJ6 a).2.1 ≠ (TJ6 b).2.1 := by decide +kernel
theorem tyJ6_ok : ∀ k, k < 0 → parseFieldDescriptor (TJ6 k).2.2.1 = some (tyJ6 k) := by decide +kernel
abbrev cJ6_getChars_ba4f3 : ByteArray := prog_24_method_12_code
def yJ6_getChars_ba4f3 : MethodName := ⟨RJ6, "getChars", "(II[B)I"⟩
abbrev cJ6_stringSize_0f7a4 : ByteArray := prog_24_method_13_code
def yJ6_stringSize_0f7a4 : MethodName := ⟨RJ6, "stringSize", "(I)I"⟩
def RJ9 : String := "java/lang/Math"
def TJ9 : u_T := fun k => match k with
  | _ => ("", "", "", false)
def tyJ9 : Nat → FieldType := fun k => match k with
  | _ => .int
abbrev wsJ90 : List Cond := u_ws RJ9 TJ9 0
theorem nmJ9 : ∀ a, a < 0 → ∀ b, b < 0 → a ≠ b → (TJ9 a).2.1 ≠ (TJ9 b).2.1 := by decide +kernel
theorem tyJ9_ok : ∀ k, k < 0 → parseFieldDescriptor (TJ9 k).2.2.1 = some (tyJ9 k) := by decide +kernel
abbrev cJ9_max_7cf53 : ByteArray := prog_25_method_65_code
def yJ9_max_7cf53 : MethodName := ⟨RJ9, "max", "(II)I"⟩
abbrev cJ9_min_7cf53 : ByteArray := prog_25_method_69_code
def yJ9_min_7cf53 : MethodName := ⟨RJ9, "min", "(II)I"⟩
def RJxd2413 : String := "java/lang/Number"
def TJxd2413 : u_T := fun k => match k with
  | _ => ("", "", "", false)
def tyJxd2413 : Nat → FieldType := fun k => match k with
  | _ => .int
abbrev wsJxd24130 : List Cond := u_ws RJxd2413 TJxd2413 0
theorem nmJxd2413 : ∀ a, a < 0 → ∀ b, b < 0 → a ≠ b → (TJxd2413 a).2.1 ≠ (TJxd2413 b).2.1 := by decide +kernel
theorem tyJxd2413_ok : ∀ k, k < 0 → parseFieldDescriptor (TJxd2413 k).2.2.1 = some (tyJxd2413 k) := by decide +kernel
def RJ0 : String := "java/lang/String"
def TJ0 : u_T := fun k => match k with
  | 0 => ("java/lang/String", "value", "[B", true)
  | 1 => ("java/lang/String", "coder", "B", true)
  | 2 => ("java/lang/String", "hash", "I", false)
  | _ => ("java/lang/String", "hashIsZero", "Z", false)
def tyJ0 : Nat → FieldType := fun k => match k with
  | 0 => .array .byte
  | 1 => .byte
  | 2 => .int
  | _ => .boolean
abbrev wsJ00 : List Cond := u_ws RJ0 TJ0 4
theorem nmJ0 : ∀ a, a < 4 → ∀ b, b < 4 → a ≠ b → (TJ0 a).2.1 ≠ (TJ0 b).2.1 := by decide +kernel
theorem tyJ0_ok : ∀ k, k < 4 → parseFieldDescriptor (TJ0 k).2.2.1 = some (tyJ0 k) := by decide +kernel
abbrev cJ0_init_81219 : ByteArray := prog_28_method_53_code
def yJ0_init_81219 : MethodName := ⟨RJ0, "<init>", "(Ljava/lang/StringBuilder;)V"⟩
abbrev cJ0_length_8abf5 : ByteArray := prog_28_method_54_code
def yJ0_length_8abf5 : MethodName := ⟨RJ0, "length", "()I"⟩
abbrev cJ0_charAt_5068e : ByteArray := prog_28_method_56_code
def yJ0_charAt_5068e : MethodName := ⟨RJ0, "charAt", "(I)C"⟩
abbrev cJ0_getBytes_840e7 : ByteArray := prog_28_method_147_code
def yJ0_getBytes_840e7 : MethodName := ⟨RJ0, "getBytes", "([BIB)V"⟩
abbrev cJ0_init_db425 : ByteArray := prog_28_method_150_code
def yJ0_init_db425 : MethodName := ⟨RJ0, "<init>", "(Ljava/lang/AbstractStringBuilder;Ljava/lang/Void;)V"⟩
abbrev cJ0_coder_7d493 : ByteArray := prog_28_method_152_code
def yJ0_coder_7d493 : MethodName := ⟨RJ0, "coder", "()B"⟩
abbrev cJ0_isLatin1_aae02 : ByteArray := prog_28_method_154_code
def yJ0_isLatin1_aae02 : MethodName := ⟨RJ0, "isLatin1", "()Z"⟩
abbrev cJ0_checkIndex_df160 : ByteArray := prog_28_method_155_code
def yJ0_checkIndex_df160 : MethodName := ⟨RJ0, "checkIndex", "(II)V"⟩
abbrev cJ0_checkBoundsOffCount_cabcc : ByteArray := prog_28_method_157_code
def yJ0_checkBoundsOffCount_cabcc : MethodName := ⟨RJ0, "checkBoundsOffCount", "(III)I"⟩
abbrev cJ0_checkBoundsBeginEnd_23922 : ByteArray := prog_28_method_158_code
def yJ0_checkBoundsBeginEnd_23922 : MethodName := ⟨RJ0, "checkBoundsBeginEnd", "(III)V"⟩
def RJ4 : String := "java/lang/StringBuilder"
def TJ4 : u_T := fun k => match k with
  | 0 => ("java/lang/AbstractStringBuilder", "value", "[B", false)
  | 1 => ("java/lang/AbstractStringBuilder", "coder", "B", false)
  | 2 => ("java/lang/AbstractStringBuilder", "maybeLatin1", "Z", false)
  | _ => ("java/lang/AbstractStringBuilder", "count", "I", false)
def tyJ4 : Nat → FieldType := fun k => match k with
  | 0 => .array .byte
  | 1 => .byte
  | 2 => .boolean
  | _ => .int
abbrev wsJ40 : List Cond := u_ws RJ4 TJ4 4
theorem nmJ4 : ∀ a, a < 4 → ∀ b, b < 4 → a ≠ b → (TJ4 a).2.1 ≠ (TJ4 b).2.1 := by decide +kernel
theorem tyJ4_ok : ∀ k, k < 4 → parseFieldDescriptor (TJ4 k).2.2.1 = some (tyJ4 k) := by decide +kernel
abbrev cJ4_init_da8c8 : ByteArray := prog_29_method_1_code
def yJ4_init_da8c8 : MethodName := ⟨RJ4, "<init>", "()V"⟩
abbrev cJ4_append_15ec4 : ByteArray := prog_29_method_7_code
def yJ4_append_15ec4 : MethodName := ⟨RJ4, "append", "(Ljava/lang/String;)Ljava/lang/StringBuilder;"⟩
abbrev cJ4_append_cf468 : ByteArray := prog_29_method_14_code
def yJ4_append_cf468 : MethodName := ⟨RJ4, "append", "(C)Ljava/lang/StringBuilder;"⟩
abbrev cJ4_append_bf812 : ByteArray := prog_29_method_15_code
def yJ4_append_bf812 : MethodName := ⟨RJ4, "append", "(I)Ljava/lang/StringBuilder;"⟩
abbrev cJ4_toString_0e30d : ByteArray := prog_29_method_42_code
def yJ4_toString_0e30d : MethodName := ⟨RJ4, "toString", "()Ljava/lang/String;"⟩
abbrev cJ4_charAt_5068e : ByteArray := prog_29_method_88_code
def yJ4_charAt_5068e : MethodName := ⟨RJ4, "charAt", "(I)C"⟩
abbrev cJ4_setLength_d00df : ByteArray := prog_29_method_89_code
def yJ4_setLength_d00df : MethodName := ⟨RJ4, "setLength", "(I)V"⟩
abbrev cJ4_length_8abf5 : ByteArray := prog_29_method_93_code
def yJ4_length_8abf5 : MethodName := ⟨RJ4, "length", "()I"⟩
def RJx7c733 : String := "java/lang/StringIndexOutOfBoundsException"
def TJx7c733 : u_T := fun k => match k with
  | 0 => ("java/lang/Throwable", "backtrace", "Ljava/lang/Object;", false)
  | 1 => ("java/lang/Throwable", "detailMessage", "Ljava/lang/String;", false)
  | 2 => ("java/lang/Throwable", "cause", "Ljava/lang/Throwable;", false)
  | 3 => ("java/lang/Throwable", "stackTrace", "[Ljava/lang/StackTraceElement;", false)
  | 4 => ("java/lang/Throwable", "depth", "I", false)
  | _ => ("java/lang/Throwable", "suppressedExceptions", "Ljava/util/List;", false)
def tyJx7c733 : Nat → FieldType := fun k => match k with
  | 0 => .object "java/lang/Object"
  | 1 => .object "java/lang/String"
  | 2 => .object "java/lang/Throwable"
  | 3 => .array (.object "java/lang/StackTraceElement")
  | 4 => .int
  | _ => .object "java/util/List"
abbrev wsJx7c7330 : List Cond := u_ws RJx7c733 TJx7c733 6
theorem nmJx7c733 : ∀ a, a < 6 → ∀ b, b < 6 → a ≠ b → (TJx7c733 a).2.1 ≠ (TJx7c733 b).2.1 := by decide +kernel
theorem tyJx7c733_ok : ∀ k, k < 6 → parseFieldDescriptor (TJx7c733 k).2.2.1 = some (tyJx7c733 k) := by decide +kernel
abbrev cJx7c733_init_d00df : ByteArray := prog_30_method_3_code
def yJx7c733_init_d00df : MethodName := ⟨RJx7c733, "<init>", "(I)V"⟩
def RJ1 : String := "java/lang/StringLatin1"
def TJ1 : u_T := fun k => match k with
  | _ => ("", "", "", false)
def tyJ1 : Nat → FieldType := fun k => match k with
  | _ => .int
abbrev wsJ10 : List Cond := u_ws RJ1 TJ1 0
theorem nmJ1 : ∀ a, a < 0 → ∀ b, b < 0 → a ≠ b → (TJ1 a).2.1 ≠ (TJ1 b).2.1 := by decide +kernel
theorem tyJ1_ok : ∀ k, k < 0 → parseFieldDescriptor (TJ1 k).2.2.1 = some (tyJ1 k) := by decide +kernel
abbrev cJ1_charAt_3b067 : ByteArray := prog_31_method_2_code
def yJ1_charAt_3b067 : MethodName := ⟨RJ1, "charAt", "([BI)C"⟩
abbrev cJ1_canEncode_fc78d : ByteArray := prog_31_method_3_code
def yJ1_canEncode_fc78d : MethodName := ⟨RJ1, "canEncode", "(C)Z"⟩
abbrev cJ1_fillNull_b72d1 : ByteArray := prog_31_method_48_code
def yJ1_fillNull_b72d1 : MethodName := ⟨RJ1, "fillNull", "([BII)V"⟩
abbrev cJ1_inflate_0e8fd : ByteArray := prog_31_method_50_code
def yJ1_inflate_0e8fd : MethodName := ⟨RJ1, "inflate", "([BI[BII)V"⟩
def RJ2 : String := "java/lang/StringUTF16"
def TJ2 : u_T := fun k => match k with
  | _ => ("", "", "", false)
def tyJ2 : Nat → FieldType := fun k => match k with
  | _ => .int
abbrev wsJ20 : List Cond := u_ws RJ2 TJ2 0
theorem nmJ2 : ∀ a, a < 0 → ∀ b, b < 0 → a ≠ b → (TJ2 a).2.1 ≠ (TJ2 b).2.1 := by decide +kernel
theorem tyJ2_ok : ∀ k, k < 0 → parseFieldDescriptor (TJ2 k).2.2.1 = some (tyJ2 k) := by decide +kernel
abbrev cJ2_newBytesFor_77867 : ByteArray := prog_32_method_2_code
def yJ2_newBytesFor_77867 : MethodName := ⟨RJ2, "newBytesFor", "(I)[B"⟩
abbrev cJ2_newBytesLength_0f7a4 : ByteArray := prog_32_method_3_code
def yJ2_newBytesLength_0f7a4 : MethodName := ⟨RJ2, "newBytesLength", "(I)I"⟩
abbrev cJ2_putChar_b72d1 : ByteArray := prog_32_method_4_code
def yJ2_putChar_b72d1 : MethodName := ⟨RJ2, "putChar", "([BII)V"⟩
abbrev cJ2_getChar_3b067 : ByteArray := prog_32_method_5_code
def yJ2_getChar_3b067 : MethodName := ⟨RJ2, "getChar", "([BI)C"⟩
abbrev cJ2_length_9d52b : ByteArray := prog_32_method_6_code
def yJ2_length_9d52b : MethodName := ⟨RJ2, "length", "([B)I"⟩
abbrev cJ2_coderFromArrayLen_85cad : ByteArray := prog_32_method_15_code
def yJ2_coderFromArrayLen_85cad : MethodName := ⟨RJ2, "coderFromArrayLen", "([BI)B"⟩
abbrev cJ2_compress_39247 : ByteArray := prog_32_method_17_code
def yJ2_compress_39247 : MethodName := ⟨RJ2, "compress", "([BII)[B"⟩
abbrev cJ2_compress_5af95 : ByteArray := prog_32_method_22_code
def yJ2_compress_5af95 : MethodName := ⟨RJ2, "compress", "([BI[BII)I"⟩
abbrev cJ2_fillNull_b72d1 : ByteArray := prog_32_method_70_code
def yJ2_fillNull_b72d1 : MethodName := ⟨RJ2, "fillNull", "([BII)V"⟩
abbrev cJ2_putCharSB_b72d1 : ByteArray := prog_32_method_71_code
def yJ2_putCharSB_b72d1 : MethodName := ⟨RJ2, "putCharSB", "([BII)V"⟩
abbrev cJ2_getChars_46870 : ByteArray := prog_32_method_77_code
def yJ2_getChars_46870 : MethodName := ⟨RJ2, "getChars", "(III[B)I"⟩
abbrev cJ2_putCharsAt_cd4e5 : ByteArray := prog_32_method_81_code
def yJ2_putCharsAt_cd4e5 : MethodName := ⟨RJ2, "putCharsAt", "([BICCCC)I"⟩
abbrev cJ2_charAt_3b067 : ByteArray := prog_32_method_83_code
def yJ2_charAt_3b067 : MethodName := ⟨RJ2, "charAt", "([BI)C"⟩
abbrev cJ2_inflate_0e8fd : ByteArray := prog_32_method_86_code
def yJ2_inflate_0e8fd : MethodName := ⟨RJ2, "inflate", "([BI[BII)V"⟩
abbrev cJ2_getChars_ba4f3 : ByteArray := prog_32_method_89_code
def yJ2_getChars_ba4f3 : MethodName := ⟨RJ2, "getChars", "(II[B)I"⟩
abbrev cJ2_checkIndex_2214a : ByteArray := prog_32_method_91_code
def yJ2_checkIndex_2214a : MethodName := ⟨RJ2, "checkIndex", "(I[B)V"⟩
abbrev cJ2_checkBoundsBeginEnd_d044e : ByteArray := prog_32_method_93_code
def yJ2_checkBoundsBeginEnd_d044e : MethodName := ⟨RJ2, "checkBoundsBeginEnd", "(II[B)V"⟩
abbrev cJ2_checkBoundsOffCount_d044e : ByteArray := prog_32_method_94_code
def yJ2_checkBoundsOffCount_d044e : MethodName := ⟨RJ2, "checkBoundsOffCount", "(II[B)V"⟩
def RJ10 : String := "java/lang/System"
def TJ10 : u_T := fun k => match k with
  | _ => ("", "", "", false)
def tyJ10 : Nat → FieldType := fun k => match k with
  | _ => .int
abbrev wsJ100 : List Cond := u_ws RJ10 TJ10 0
theorem nmJ10 : ∀ a, a < 0 → ∀ b, b < 0 → a ≠ b → (TJ10 a).2.1 ≠ (TJ10 b).2.1 := by decide +kernel
theorem tyJ10_ok : ∀ k, k < 0 → parseFieldDescriptor (TJ10 k).2.2.1 = some (tyJ10 k) := by decide +kernel
def RJxfd54e : String := "java/lang/constant/Constable"
def TJxfd54e : u_T := fun k => match k with
  | _ => ("", "", "", false)
def tyJxfd54e : Nat → FieldType := fun k => match k with
  | _ => .int
abbrev wsJxfd54e0 : List Cond := u_ws RJxfd54e TJxfd54e 0
theorem nmJxfd54e : ∀ a, a < 0 → ∀ b, b < 0 → a ≠ b → (TJxfd54e a).2.1 ≠ (TJxfd54e b).2.1 := by decide +kernel
theorem tyJxfd54e_ok : ∀ k, k < 0 → parseFieldDescriptor (TJxfd54e k).2.2.1 = some (tyJxfd54e k) := by decide +kernel
def RJx3cf43 : String := "java/lang/constant/ConstantDesc"
def TJx3cf43 : u_T := fun k => match k with
  | _ => ("", "", "", false)
def tyJx3cf43 : Nat → FieldType := fun k => match k with
  | _ => .int
abbrev wsJx3cf430 : List Cond := u_ws RJx3cf43 TJx3cf43 0
theorem nmJx3cf43 : ∀ a, a < 0 → ∀ b, b < 0 → a ≠ b → (TJx3cf43 a).2.1 ≠ (TJx3cf43 b).2.1 := by decide +kernel
theorem tyJx3cf43_ok : ∀ k, k < 0 → parseFieldDescriptor (TJx3cf43 k).2.2.1 = some (tyJx3cf43 k) := by decide +kernel
def RJ7 : String := "java/util/Arrays"
def TJ7 : u_T := fun k => match k with
  | _ => ("", "", "", false)
def tyJ7 : Nat → FieldType := fun k => match k with
  | _ => .int
abbrev wsJ70 : List Cond := u_ws RJ7 TJ7 0
theorem nmJ7 : ∀ a, a < 0 → ∀ b, b < 0 → a ≠ b → (TJ7 a).2.1 ≠ (TJ7 b).2.1 := by decide +kernel
theorem tyJ7_ok : ∀ k, k < 0 → parseFieldDescriptor (TJ7 k).2.2.1 = some (tyJ7 k) := by decide +kernel
abbrev cJ7_rangeCheck_23922 : ByteArray := prog_38_method_30_code
def yJ7_rangeCheck_23922 : MethodName := ⟨RJ7, "rangeCheck", "(III)V"⟩
abbrev cJ7_fill_53178 : ByteArray := prog_38_method_103_code
def yJ7_fill_53178 : MethodName := ⟨RJ7, "fill", "([II)V"⟩
abbrev cJ7_fill_eb02e : ByteArray := prog_38_method_110_code
def yJ7_fill_eb02e : MethodName := ⟨RJ7, "fill", "([BIIB)V"⟩
abbrev cJ7_copyOf_9075b : ByteArray := prog_38_method_121_code
def yJ7_copyOf_9075b : MethodName := ⟨RJ7, "copyOf", "([BI)[B"⟩
abbrev cJ7_checkLength_df160 : ByteArray := prog_38_method_131_code
def yJ7_checkLength_df160 : MethodName := ⟨RJ7, "checkLength", "(II)V"⟩
abbrev cJ7_copyOfRange_39247 : ByteArray := prog_38_method_132_code
def yJ7_copyOfRange_39247 : MethodName := ⟨RJ7, "copyOfRange", "([BII)[B"⟩
abbrev cJ7_copyOfRangeByte_39247 : ByteArray := prog_38_method_133_code
def yJ7_copyOfRangeByte_39247 : MethodName := ⟨RJ7, "copyOfRangeByte", "([BII)[B"⟩
def RJ8 : String := "jdk/internal/util/ArraysSupport"
def TJ8 : u_T := fun k => match k with
  | _ => ("", "", "", false)
def tyJ8 : Nat → FieldType := fun k => match k with
  | _ => .int
abbrev wsJ80 : List Cond := u_ws RJ8 TJ8 0
theorem nmJ8 : ∀ a, a < 0 → ∀ b, b < 0 → a ≠ b → (TJ8 a).2.1 ≠ (TJ8 b).2.1 := by decide +kernel
theorem tyJ8_ok : ∀ k, k < 0 → parseFieldDescriptor (TJ8 k).2.2.1 = some (tyJ8 k) := by decide +kernel
abbrev cJ8_newLength_cabcc : ByteArray := prog_40_method_27_code
def yJ8_newLength_cabcc : MethodName := ⟨RJ8, "newLength", "(III)I"⟩
abbrev cJ8_hugeLength_7cf53 : ByteArray := prog_40_method_28_code
def yJ8_hugeLength_7cf53 : MethodName := ⟨RJ8, "hugeLength", "(II)I"⟩
def RJ3 : String := "jdk/internal/util/Preconditions"
def TJ3 : u_T := fun k => match k with
  | _ => ("", "", "", false)
def tyJ3 : Nat → FieldType := fun k => match k with
  | _ => .int
abbrev wsJ30 : List Cond := u_ws RJ3 TJ3 0
theorem nmJ3 : ∀ a, a < 0 → ∀ b, b < 0 → a ≠ b → (TJ3 a).2.1 ≠ (TJ3 b).2.1 := by decide +kernel
theorem tyJ3_ok : ∀ k, k < 0 → parseFieldDescriptor (TJ3 k).2.2.1 = some (tyJ3 k) := by decide +kernel
abbrev cJ3_checkIndex_8e157 : ByteArray := prog_41_method_11_code
def yJ3_checkIndex_8e157 : MethodName := ⟨RJ3, "checkIndex", "(IILjava/util/function/BiFunction;)I"⟩
abbrev cJ3_checkFromToIndex_8c36e : ByteArray := prog_41_method_12_code
def yJ3_checkFromToIndex_8c36e : MethodName := ⟨RJ3, "checkFromToIndex", "(IIILjava/util/function/BiFunction;)I"⟩
abbrev cJ3_checkFromIndexSize_8c36e : ByteArray := prog_41_method_13_code
def yJ3_checkFromIndexSize_8c36e : MethodName := ⟨RJ3, "checkFromIndexSize", "(IIILjava/util/function/BiFunction;)I"⟩
def RL : String := "SnowLedgerLaw"
abbrev cL_cell : ByteArray := method_2_code
def yL_cell : MethodName := ⟨RL, "cell", "([II)I"⟩
abbrev cL_addHill : ByteArray := method_3_code
def yL_addHill : MethodName := ⟨RL, "addHill", "(LSnowLedger;)I"⟩
abbrev cL_collect : ByteArray := method_4_code
def yL_collect : MethodName := ⟨RL, "collect", "(LSnowLedger;II)I"⟩
abbrev cL_writeBlock : ByteArray := method_5_code
def yL_writeBlock : MethodName := ⟨RL, "writeBlock", "(LSnowLedger;I)I"⟩
abbrev cL_follow : ByteArray := method_6_code
def yL_follow : MethodName := ⟨RL, "follow", "(LSnowLedger;II)I"⟩
abbrev cL_melt : ByteArray := method_7_code
def yL_melt : MethodName := ⟨RL, "melt", "(LSnowLedger;I)I"⟩
abbrev cL_replaceFlake : ByteArray := method_8_code
def yL_replaceFlake : MethodName := ⟨RL, "replaceFlake", "(LSnowLedger;III)I"⟩
abbrev cL_repair : ByteArray := method_9_code
def yL_repair : MethodName := ⟨RL, "repair", "(LSnowLedger;I)I"⟩
abbrev cL_parentOf : ByteArray := method_10_code
def yL_parentOf : MethodName := ⟨RL, "parentOf", "(LSnowLedger;I)I"⟩
abbrev cL_nonceOf : ByteArray := method_11_code
def yL_nonceOf : MethodName := ⟨RL, "nonceOf", "(LSnowLedger;I)I"⟩
abbrev cL_firstInvalid : ByteArray := method_12_code
def yL_firstInvalid : MethodName := ⟨RL, "firstInvalid", "(LSnowLedger;I)I"⟩
abbrev cL_tipAtRank : ByteArray := method_13_code
def yL_tipAtRank : MethodName := ⟨RL, "tipAtRank", "(LSnowLedger;I)I"⟩
abbrev cL_runScript : ByteArray := method_15_code
def yL_runScript : MethodName := ⟨RL, "runScript", "(LSnowLedger;)I"⟩
abbrev cL_failedCommand : ByteArray := method_16_code
def yL_failedCommand : MethodName := ⟨RL, "failedCommand", "(LSnowLedger;)I"⟩
abbrev cL_undo : ByteArray := method_17_code
def yL_undo : MethodName := ⟨RL, "undo", "(LSnowLedger;)I"⟩
abbrev cL_restore : ByteArray := method_18_code
def yL_restore : MethodName := ⟨RL, "restore", "(LSnowLedger;)I"⟩
abbrev cL_put : ByteArray := method_19_code
def yL_put : MethodName := ⟨RL, "put", "(LSnowLedger;C)Z"⟩
abbrev cL_typed : ByteArray := method_20_code
def yL_typed : MethodName := ⟨RL, "typed", "(LSnowLedger;Ljava/lang/String;)LSnowLedger;"⟩
abbrev cL_act : ByteArray := method_21_code
def yL_act : MethodName := ⟨RL, "act", "(LSnowLedger;I)I"⟩
abbrev cL_blockAt : ByteArray := method_22_code
def yL_blockAt : MethodName := ⟨RL, "blockAt", "(LSnowLedger;I)I"⟩
abbrev cL_digest : ByteArray := method_23_code
def yL_digest : MethodName := ⟨RL, "digest", "(LSnowLedger;)J"⟩
abbrev cL_combine : ByteArray := method_24_code
def yL_combine : MethodName := ⟨RL, "combine", "(II)I"⟩
abbrev cL_root : ByteArray := method_25_code
def yL_root : MethodName := ⟨RL, "root", "(LSnowLedger;I)I"⟩
abbrev cL_isBlock : ByteArray := method_26_code
def yL_isBlock : MethodName := ⟨RL, "isBlock", "(LSnowLedger;I)Z"⟩
abbrev cL_areBlocks : ByteArray := method_27_code
def yL_areBlocks : MethodName := ⟨RL, "areBlocks", "(LSnowLedger;)Z"⟩
abbrev cL_areTips : ByteArray := method_28_code
def yL_areTips : MethodName := ⟨RL, "areTips", "(LSnowLedger;I)Z"⟩
abbrev cL_isWritten : ByteArray := method_29_code
def yL_isWritten : MethodName := ⟨RL, "isWritten", "(LSnowLedger;I)Z"⟩
abbrev cL_isMelted : ByteArray := method_30_code
def yL_isMelted : MethodName := ⟨RL, "isMelted", "(LSnowLedger;I)Z"⟩
abbrev cL_isRepaired : ByteArray := method_31_code
def yL_isRepaired : MethodName := ⟨RL, "isRepaired", "(LSnowLedger;I)Z"⟩
abbrev cL_isFit : ByteArray := method_32_code
def yL_isFit : MethodName := ⟨RL, "isFit", "(LSnowLedger;)Z"⟩
abbrev cL_law : ByteArray := code
def yL_law : MethodName := ⟨RL, "law", "([I)Z"⟩
theorem inX0 : ∀ w ∈ wsX00, w ∈ lw_tbl := by decide +kernel
theorem inX1 : ∀ w ∈ wsX10, w ∈ lw_tbl := by decide +kernel
theorem inX2 : ∀ w ∈ wsX20, w ∈ lw_tbl := by decide +kernel
theorem inX3 : ∀ w ∈ wsX30, w ∈ lw_tbl := by decide +kernel
theorem inX4 : ∀ w ∈ wsX40, w ∈ lw_tbl := by decide +kernel
theorem inX5 : ∀ w ∈ wsX50, w ∈ lw_tbl := by decide +kernel
theorem inX6 : ∀ w ∈ wsX60, w ∈ lw_tbl := by decide +kernel
theorem inX7 : ∀ w ∈ wsX70, w ∈ lw_tbl := by decide +kernel
theorem inX8 : ∀ w ∈ wsX80, w ∈ lw_tbl := by decide +kernel
theorem inX9 : ∀ w ∈ wsX90, w ∈ lw_tbl := by decide +kernel
theorem inJx145de : ∀ w ∈ wsJx145de0, w ∈ lw_tbl := by decide +kernel
theorem inJ5 : ∀ w ∈ wsJ50, w ∈ lw_tbl := by decide +kernel
theorem inJx2cfe8 : ∀ w ∈ wsJx2cfe80, w ∈ lw_tbl := by decide +kernel
theorem inJx00060 : ∀ w ∈ wsJx000600, w ∈ lw_tbl := by decide +kernel
theorem inJx9f9b0 : ∀ w ∈ wsJx9f9b00, w ∈ lw_tbl := by decide +kernel
theorem inJx8e188 : ∀ w ∈ wsJx8e1880, w ∈ lw_tbl := by decide +kernel
theorem inJxb160c : ∀ w ∈ wsJxb160c0, w ∈ lw_tbl := by decide +kernel
theorem inJx29ce0 : ∀ w ∈ wsJx29ce00, w ∈ lw_tbl := by decide +kernel
theorem inJ6 : ∀ w ∈ wsJ60, w ∈ lw_tbl := by decide +kernel
theorem inJ9 : ∀ w ∈ wsJ90, w ∈ lw_tbl := by decide +kernel
theorem inJxd2413 : ∀ w ∈ wsJxd24130, w ∈ lw_tbl := by decide +kernel
theorem inJ0 : ∀ w ∈ wsJ00, w ∈ lw_tbl := by decide +kernel
theorem inJ4 : ∀ w ∈ wsJ40, w ∈ lw_tbl := by decide +kernel
theorem inJx7c733 : ∀ w ∈ wsJx7c7330, w ∈ lw_tbl := by decide +kernel
theorem inJ1 : ∀ w ∈ wsJ10, w ∈ lw_tbl := by decide +kernel
theorem inJ2 : ∀ w ∈ wsJ20, w ∈ lw_tbl := by decide +kernel
theorem inJ10 : ∀ w ∈ wsJ100, w ∈ lw_tbl := by decide +kernel
theorem inJxfd54e : ∀ w ∈ wsJxfd54e0, w ∈ lw_tbl := by decide +kernel
theorem inJx3cf43 : ∀ w ∈ wsJx3cf430, w ∈ lw_tbl := by decide +kernel
theorem inJ7 : ∀ w ∈ wsJ70, w ∈ lw_tbl := by decide +kernel
theorem inJ8 : ∀ w ∈ wsJ80, w ∈ lw_tbl := by decide +kernel
theorem inJ3 : ∀ w ∈ wsJ30, w ∈ lw_tbl := by decide +kernel
abbrev vwCl : List vw_C := [(RJ0, TJ0, 4), (RJ4, TJ4, 4), (RJx00060, TJx00060, 6), (RJx7c733, TJx7c733, 6), (RX0, TX0, 3), (RX1, TX1, 3), (RX3, TX3, 1), (RX4, TX4, 9), (RX5, TX5, 12), (RX6, TX6, 2), (RX7, TX7, 3), (RX8, TX8, 11)]
