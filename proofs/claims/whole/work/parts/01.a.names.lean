/-! ===== BEGIN printed: names, fields, word lists, decode rows ===== -/
def RX0 : String := "JointMoments$Balance"
def TX0 : u_T := fun k => match k with
  | 0 => ("JointMoments$Balance", "moments", "[I", true)
  | 1 => ("JointMoments$Balance", "gains", "[I", true)
  | 2 => ("JointMoments$Balance", "topped", "[Z", true)
  | 3 => ("JointMoments$Balance", "endStiffs", "[I", true)
  | 4 => ("JointMoments$Balance", "outs", "[I", true)
  | 5 => ("JointMoments$Balance", "endsAt", "[I", true)
  | 6 => ("JointMoments$Balance", "stiffAt", "[I", true)
  | 7 => ("JointMoments$Balance", "stepsAt", "[I", true)
  | 8 => ("JointMoments$Balance", "steps", "I", false)
  | _ => ("JointMoments$Balance", "latest", "I", false)
def tyX0 : Nat → FieldType := fun k => match k with
  | 0 => .array .int
  | 1 => .array .int
  | 2 => .array .boolean
  | 3 => .array .int
  | 4 => .array .int
  | 5 => .array .int
  | 6 => .array .int
  | 7 => .array .int
  | 8 => .int
  | _ => .int
abbrev wsX00 : List Cond := u_ws RX0 TX0 10
theorem nmX0 : ∀ a, a < 10 → ∀ b, b < 10 → a ≠ b → (TX0 a).2.1 ≠ (TX0 b).2.1 := by decide +kernel
theorem tyX0_ok : ∀ k, k < 10 → parseFieldDescriptor (TX0 k).2.2.1 = some (tyX0 k) := by decide +kernel
abbrev cX0_init : ByteArray := prog_2_method_1_code
def yX0_init : MethodName := ⟨RX0, "<init>", "()V"⟩
abbrev cX0_anew : ByteArray := prog_2_method_2_code
def yX0_anew : MethodName := ⟨RX0, "anew", "(LJointMoments$Frame;)V"⟩
abbrev cX0_canTurn : ByteArray := prog_2_method_3_code
def yX0_canTurn : MethodName := ⟨RX0, "canTurn", "(LJointMoments$Frame;I)Z"⟩
abbrev cX0_isLoose : ByteArray := prog_2_method_4_code
def yX0_isLoose : MethodName := ⟨RX0, "isLoose", "(LJointMoments$Frame;I)Z"⟩
abbrev cX0_loose : ByteArray := prog_2_method_5_code
def yX0_loose : MethodName := ⟨RX0, "loose", "(LJointMoments$Frame;)I"⟩
abbrev cX0_left : ByteArray := prog_2_method_6_code
def yX0_left : MethodName := ⟨RX0, "left", "(LJointMoments$Frame;)I"⟩
abbrev cX0_bare : ByteArray := prog_2_method_7_code
def yX0_bare : MethodName := ⟨RX0, "bare", "(LJointMoments$Frame;)I"⟩
abbrev cX0_chosen : ByteArray := prog_2_method_8_code
def yX0_chosen : MethodName := ⟨RX0, "chosen", "(LJointMoments$Frame;I)I"⟩
abbrev cX0_worst : ByteArray := prog_2_method_9_code
def yX0_worst : MethodName := ⟨RX0, "worst", "(LJointMoments$Frame;)I"⟩
abbrev cX0_byTurns : ByteArray := prog_2_method_10_code
def yX0_byTurns : MethodName := ⟨RX0, "byTurns", "(LJointMoments$Frame;)I"⟩
abbrev cX0_ranked : ByteArray := prog_2_method_11_code
def yX0_ranked : MethodName := ⟨RX0, "ranked", "(LJointMoments$Frame;I)I"⟩
abbrev cX0_looseAhead : ByteArray := prog_2_method_12_code
def yX0_looseAhead : MethodName := ⟨RX0, "looseAhead", "(LJointMoments$Frame;I)I"⟩
abbrev cX0_shareOut : ByteArray := prog_2_method_13_code
def yX0_shareOut : MethodName := ⟨RX0, "shareOut", "(LJointMoments$Frame;I)V"⟩
abbrev cX0_stiffestBare : ByteArray := prog_2_method_14_code
def yX0_stiffestBare : MethodName := ⟨RX0, "stiffestBare", "(LJointMoments$Frame;I)I"⟩
abbrev cX0_letGo : ByteArray := prog_2_method_15_code
def yX0_letGo : MethodName := ⟨RX0, "letGo", "(LJointMoments$Frame;I)V"⟩
abbrev cX0_comeTo : ByteArray := prog_2_method_16_code
def yX0_comeTo : MethodName := ⟨RX0, "comeTo", "(LJointMoments$Frame;II)V"⟩
def RX1 : String := "JointMoments$Equations"
def TX1 : u_T := fun k => match k with
  | 0 => ("JointMoments$Equations", "sides", "[[J", true)
  | 1 => ("JointMoments$Equations", "unknowns", "[I", true)
  | _ => ("JointMoments$Equations", "size", "I", false)
def tyX1 : Nat → FieldType := fun k => match k with
  | 0 => .array (.array .long)
  | 1 => .array .int
  | _ => .int
abbrev wsX10 : List Cond := u_ws RX1 TX1 3
theorem nmX1 : ∀ a, a < 3 → ∀ b, b < 3 → a ≠ b → (TX1 a).2.1 ≠ (TX1 b).2.1 := by decide +kernel
theorem tyX1_ok : ∀ k, k < 3 → parseFieldDescriptor (TX1 k).2.2.1 = some (tyX1 k) := by decide +kernel
abbrev cX1_init : ByteArray := prog_3_method_1_code
def yX1_init : MethodName := ⟨RX1, "<init>", "()V"⟩
abbrev cX1_sure : ByteArray := prog_3_method_2_code
def yX1_sure : MethodName := ⟨RX1, "sure", "(LJointMoments$Frame;I)I"⟩
abbrev cX1_write : ByteArray := prog_3_method_3_code
def yX1_write : MethodName := ⟨RX1, "write", "(LJointMoments$Frame;)V"⟩
abbrev cX1_number : ByteArray := prog_3_method_4_code
def yX1_number : MethodName := ⟨RX1, "number", "(LJointMoments$Frame;)V"⟩
abbrev cX1_hasEnds : ByteArray := prog_3_method_5_code
def yX1_hasEnds : MethodName := ⟨RX1, "hasEnds", "(LJointMoments$Frame;I)Z"⟩
abbrev cX1_numerator : ByteArray := prog_3_method_6_code
def yX1_numerator : MethodName := ⟨RX1, "numerator", "(I)J"⟩
abbrev cX1_determinant : ByteArray := prog_3_method_7_code
def yX1_determinant : MethodName := ⟨RX1, "determinant", "([[JIIII)J"⟩
def RX2 : String := "JointMoments$Frame"
def TX2 : u_T := fun k => match k with
  | 0 => ("JointMoments$Frame", "held", "[Z", true)
  | 1 => ("JointMoments$Frame", "couples", "[I", true)
  | 2 => ("JointMoments$Frame", "endJoints", "[I", true)
  | 3 => ("JointMoments$Frame", "lengths", "[I", true)
  | 4 => ("JointMoments$Frame", "stiffs", "[I", true)
  | 5 => ("JointMoments$Frame", "loadBeams", "[I", true)
  | 6 => ("JointMoments$Frame", "loadSizes", "[I", true)
  | 7 => ("JointMoments$Frame", "loadPlaces", "[I", true)
  | 8 => ("JointMoments$Frame", "joints", "I", false)
  | 9 => ("JointMoments$Frame", "beams", "I", false)
  | _ => ("JointMoments$Frame", "loads", "I", false)
def tyX2 : Nat → FieldType := fun k => match k with
  | 0 => .array .boolean
  | 1 => .array .int
  | 2 => .array .int
  | 3 => .array .int
  | 4 => .array .int
  | 5 => .array .int
  | 6 => .array .int
  | 7 => .array .int
  | 8 => .int
  | 9 => .int
  | _ => .int
abbrev wsX20 : List Cond := u_ws RX2 TX2 11
theorem nmX2 : ∀ a, a < 11 → ∀ b, b < 11 → a ≠ b → (TX2 a).2.1 ≠ (TX2 b).2.1 := by decide +kernel
theorem tyX2_ok : ∀ k, k < 11 → parseFieldDescriptor (TX2 k).2.2.1 = some (tyX2 k) := by decide +kernel
abbrev cX2_init : ByteArray := prog_4_method_1_code
def yX2_init : MethodName := ⟨RX2, "<init>", "()V"⟩
abbrev cX2_isJoint : ByteArray := prog_4_method_2_code
def yX2_isJoint : MethodName := ⟨RX2, "isJoint", "(I)Z"⟩
abbrev cX2_isBeam : ByteArray := prog_4_method_3_code
def yX2_isBeam : MethodName := ⟨RX2, "isBeam", "(I)Z"⟩
abbrev cX2_isEnd : ByteArray := prog_4_method_4_code
def yX2_isEnd : MethodName := ⟨RX2, "isEnd", "(I)Z"⟩
abbrev cX2_isLoad : ByteArray := prog_4_method_5_code
def yX2_isLoad : MethodName := ⟨RX2, "isLoad", "(I)Z"⟩
abbrev cX2_clear : ByteArray := prog_4_method_6_code
def yX2_clear : MethodName := ⟨RX2, "clear", "()V"⟩
abbrev cX2_copy : ByteArray := prog_4_method_7_code
def yX2_copy : MethodName := ⟨RX2, "copy", "(LJointMoments$Frame;)V"⟩
abbrev cX2_addJoint : ByteArray := prog_4_method_8_code
def yX2_addJoint : MethodName := ⟨RX2, "addJoint", "(ZI)V"⟩
abbrev cX2_addBeam : ByteArray := prog_4_method_9_code
def yX2_addBeam : MethodName := ⟨RX2, "addBeam", "(IIII)V"⟩
abbrev cX2_addLoad : ByteArray := prog_4_method_10_code
def yX2_addLoad : MethodName := ⟨RX2, "addLoad", "(III)V"⟩
abbrev cX2_removeLoad : ByteArray := prog_4_method_11_code
def yX2_removeLoad : MethodName := ⟨RX2, "removeLoad", "(I)V"⟩
abbrev cX2_drop : ByteArray := prog_4_method_12_code
def yX2_drop : MethodName := ⟨RX2, "drop", "(I)V"⟩
abbrev cX2_turning : ByteArray := prog_4_method_13_code
def yX2_turning : MethodName := ⟨RX2, "turning", "()I"⟩
abbrev cX2_jointOf : ByteArray := prog_4_method_14_code
def yX2_jointOf : MethodName := ⟨RX2, "jointOf", "(I)I"⟩
abbrev cX2_otherEnd : ByteArray := prog_4_method_15_code
def yX2_otherEnd : MethodName := ⟨RX2, "otherEnd", "(I)I"⟩
abbrev cX2_stiffness : ByteArray := prog_4_method_16_code
def yX2_stiffness : MethodName := ⟨RX2, "stiffness", "(I)I"⟩
abbrev cX2_loadsOn : ByteArray := prog_4_method_17_code
def yX2_loadsOn : MethodName := ⟨RX2, "loadsOn", "(I)I"⟩
abbrev cX2_first : ByteArray := prog_4_method_18_code
def yX2_first : MethodName := ⟨RX2, "first", "(I)I"⟩
abbrev cX2_pressed : ByteArray := prog_4_method_19_code
def yX2_pressed : MethodName := ⟨RX2, "pressed", "(IZ)I"⟩
abbrev cX2_isWhole : ByteArray := prog_4_method_20_code
def yX2_isWhole : MethodName := ⟨RX2, "isWhole", "()Z"⟩
def RX3 : String := "JointMoments$Sheet"
def TX3 : u_T := fun k => match k with
  | 0 => ("JointMoments$Sheet", "cells", "[I", true)
  | 1 => ("JointMoments$Sheet", "lane", "I", false)
  | _ => ("JointMoments$Sheet", "size", "I", false)
def tyX3 : Nat → FieldType := fun k => match k with
  | 0 => .array .int
  | 1 => .int
  | _ => .int
abbrev wsX30 : List Cond := u_ws RX3 TX3 3
theorem nmX3 : ∀ a, a < 3 → ∀ b, b < 3 → a ≠ b → (TX3 a).2.1 ≠ (TX3 b).2.1 := by decide +kernel
theorem tyX3_ok : ∀ k, k < 3 → parseFieldDescriptor (TX3 k).2.2.1 = some (tyX3 k) := by decide +kernel
abbrev cX3_init : ByteArray := prog_5_method_1_code
def yX3_init : MethodName := ⟨RX3, "<init>", "()V"⟩
abbrev cX3_renew : ByteArray := prog_5_method_2_code
def yX3_renew : MethodName := ⟨RX3, "renew", "(II)V"⟩
abbrev cX3_write : ByteArray := prog_5_method_3_code
def yX3_write : MethodName := ⟨RX3, "write", "(II)V"⟩
abbrev cX3_faultAt : ByteArray := prog_5_method_4_code
def yX3_faultAt : MethodName := ⟨RX3, "faultAt", "(II)I"⟩
abbrev cX3_faultOfTwo : ByteArray := prog_5_method_5_code
def yX3_faultOfTwo : MethodName := ⟨RX3, "faultOfTwo", "(II)I"⟩
def RX4 : String := "JointMoments$Tape"
def TX4 : u_T := fun k => match k with
  | 0 => ("JointMoments$Tape", "bytes", "[B", true)
  | _ => ("JointMoments$Tape", "size", "I", false)
def tyX4 : Nat → FieldType := fun k => match k with
  | 0 => .array .byte
  | _ => .int
abbrev wsX40 : List Cond := u_ws RX4 TX4 2
theorem nmX4 : ∀ a, a < 2 → ∀ b, b < 2 → a ≠ b → (TX4 a).2.1 ≠ (TX4 b).2.1 := by decide +kernel
theorem tyX4_ok : ∀ k, k < 2 → parseFieldDescriptor (TX4 k).2.2.1 = some (tyX4 k) := by decide +kernel
abbrev cX4_init : ByteArray := prog_6_method_1_code
def yX4_init : MethodName := ⟨RX4, "<init>", "()V"⟩
abbrev cX4_append : ByteArray := prog_6_method_2_code
def yX4_append : MethodName := ⟨RX4, "append", "(I)V"⟩
def RX5 : String := "JointMoments$Teller"
def TX5 : u_T := fun k => match k with
  | 0 => ("JointMoments$Teller", "tape", "LJointMoments$Tape;", true)
  | 1 => ("JointMoments$Teller", "lines", "I", false)
  | 2 => ("JointMoments$Teller", "fault", "I", false)
  | 3 => ("JointMoments$Teller", "faultPlace", "I", false)
  | 4 => ("JointMoments$Teller", "kind", "I", false)
  | 5 => ("JointMoments$Teller", "start", "I", false)
  | 6 => ("JointMoments$Teller", "stop", "I", false)
  | _ => ("JointMoments$Teller", "value", "I", false)
def tyX5 : Nat → FieldType := fun k => match k with
  | 0 => .object "JointMoments$Tape"
  | 1 => .int
  | 2 => .int
  | 3 => .int
  | 4 => .int
  | 5 => .int
  | 6 => .int
  | _ => .int
abbrev wsX50 : List Cond := u_ws RX5 TX5 8
theorem nmX5 : ∀ a, a < 8 → ∀ b, b < 8 → a ≠ b → (TX5 a).2.1 ≠ (TX5 b).2.1 := by decide +kernel
theorem tyX5_ok : ∀ k, k < 8 → parseFieldDescriptor (TX5 k).2.2.1 = some (tyX5 k) := by decide +kernel
abbrev cX5_init : ByteArray := prog_7_method_1_code
def yX5_init : MethodName := ⟨RX5, "<init>", "()V"⟩
abbrev cX5_tell : ByteArray := prog_7_method_2_code
def yX5_tell : MethodName := ⟨RX5, "tell", "(LJointMoments$Frame;)Z"⟩
abbrev cX5_fail : ByteArray := prog_7_method_3_code
def yX5_fail : MethodName := ⟨RX5, "fail", "(II)Z"⟩
abbrev cX5_line : ByteArray := prog_7_method_4_code
def yX5_line : MethodName := ⟨RX5, "line", "(LJointMoments$Frame;)Z"⟩
abbrev cX5_jointLine : ByteArray := prog_7_method_5_code
def yX5_jointLine : MethodName := ⟨RX5, "jointLine", "(LJointMoments$Frame;Z)Z"⟩
abbrev cX5_beamLine : ByteArray := prog_7_method_6_code
def yX5_beamLine : MethodName := ⟨RX5, "beamLine", "(LJointMoments$Frame;)Z"⟩
abbrev cX5_loadLine : ByteArray := prog_7_method_7_code
def yX5_loadLine : MethodName := ⟨RX5, "loadLine", "(LJointMoments$Frame;Z)Z"⟩
abbrev cX5_number : ByteArray := prog_7_method_8_code
def yX5_number : MethodName := ⟨RX5, "number", "(II)Z"⟩
abbrev cX5_semicolon : ByteArray := prog_7_method_9_code
def yX5_semicolon : MethodName := ⟨RX5, "semicolon", "()Z"⟩
abbrev cX5_isNumber : ByteArray := prog_7_method_10_code
def yX5_isNumber : MethodName := ⟨RX5, "isNumber", "(II)Z"⟩
abbrev cX5_scan : ByteArray := prog_7_method_11_code
def yX5_scan : MethodName := ⟨RX5, "scan", "()Z"⟩
abbrev cX5_behindRun : ByteArray := prog_7_method_12_code
def yX5_behindRun : MethodName := ⟨RX5, "behindRun", "(II)I"⟩
abbrev cX5_reckon : ByteArray := prog_7_method_13_code
def yX5_reckon : MethodName := ⟨RX5, "reckon", "()Z"⟩
abbrev cX5_isWord : ByteArray := prog_7_method_14_code
def yX5_isWord : MethodName := ⟨RX5, "isWord", "(Ljava/lang/String;)Z"⟩
def RX6 : String := "JointMoments"
def TX6 : u_T := fun k => match k with
  | 0 => ("JointMoments", "tape", "LJointMoments$Tape;", true)
  | 1 => ("JointMoments", "teller", "LJointMoments$Teller;", true)
  | 2 => ("JointMoments", "balance", "LJointMoments$Balance;", true)
  | 3 => ("JointMoments", "equations", "LJointMoments$Equations;", true)
  | 4 => ("JointMoments", "images", "[LJointMoments$Frame;", true)
  | 5 => ("JointMoments", "kept", "[Z", true)
  | 6 => ("JointMoments", "sheets", "[LJointMoments$Sheet;", true)
  | 7 => ("JointMoments", "frame", "LJointMoments$Frame;", false)
  | 8 => ("JointMoments", "draft", "LJointMoments$Frame;", false)
  | 9 => ("JointMoments", "textFault", "I", false)
  | _ => ("JointMoments", "readFault", "I", false)
def tyX6 : Nat → FieldType := fun k => match k with
  | 0 => .object "JointMoments$Tape"
  | 1 => .object "JointMoments$Teller"
  | 2 => .object "JointMoments$Balance"
  | 3 => .object "JointMoments$Equations"
  | 4 => .array (.object "JointMoments$Frame")
  | 5 => .array .boolean
  | 6 => .array (.object "JointMoments$Sheet")
  | 7 => .object "JointMoments$Frame"
  | 8 => .object "JointMoments$Frame"
  | 9 => .int
  | _ => .int
abbrev wsX60 : List Cond := u_ws RX6 TX6 11
theorem nmX6 : ∀ a, a < 11 → ∀ b, b < 11 → a ≠ b → (TX6 a).2.1 ≠ (TX6 b).2.1 := by decide +kernel
theorem tyX6_ok : ∀ k, k < 11 → parseFieldDescriptor (TX6 k).2.2.1 = some (tyX6 k) := by decide +kernel
abbrev cX6_init : ByteArray := prog_1_method_1_code
def yX6_init : MethodName := ⟨RX6, "<init>", "()V"⟩
abbrev cX6_feed : ByteArray := prog_1_method_2_code
def yX6_feed : MethodName := ⟨RX6, "feed", "(I)I"⟩
abbrev cX6_end : ByteArray := prog_1_method_3_code
def yX6_end : MethodName := ⟨RX6, "end", "(I)I"⟩
abbrev cX6_text : ByteArray := prog_1_method_4_code
def yX6_text : MethodName := ⟨RX6, "text", "()I"⟩
abbrev cX6_fault : ByteArray := prog_1_method_5_code
def yX6_fault : MethodName := ⟨RX6, "fault", "()I"⟩
abbrev cX6_rule : ByteArray := prog_1_method_6_code
def yX6_rule : MethodName := ⟨RX6, "rule", "(I)I"⟩
abbrev cX6_joint : ByteArray := prog_1_method_7_code
def yX6_joint : MethodName := ⟨RX6, "joint", "(II)I"⟩
abbrev cX6_out : ByteArray := prog_1_method_8_code
def yX6_out : MethodName := ⟨RX6, "out", "(II)I"⟩
abbrev cX6_at : ByteArray := prog_1_method_9_code
def yX6_at : MethodName := ⟨RX6, "at", "(II)I"⟩
abbrev cX6_beam : ByteArray := prog_1_method_10_code
def yX6_beam : MethodName := ⟨RX6, "beam", "(II)I"⟩
abbrev cX6_load : ByteArray := prog_1_method_11_code
def yX6_load : MethodName := ⟨RX6, "load", "(II)I"⟩
abbrev cX6_moment : ByteArray := prog_1_method_12_code
def yX6_moment : MethodName := ⟨RX6, "moment", "(II)I"⟩
abbrev cX6_share : ByteArray := prog_1_method_13_code
def yX6_share : MethodName := ⟨RX6, "share", "(II)I"⟩
abbrev cX6_rank : ByteArray := prog_1_method_14_code
def yX6_rank : MethodName := ⟨RX6, "rank", "(I)I"⟩
abbrev cX6_next : ByteArray := prog_1_method_15_code
def yX6_next : MethodName := ⟨RX6, "next", "(I)I"⟩
abbrev cX6_step : ByteArray := prog_1_method_16_code
def yX6_step : MethodName := ⟨RX6, "step", "(I)I"⟩
abbrev cX6_sweep : ByteArray := prog_1_method_17_code
def yX6_sweep : MethodName := ⟨RX6, "sweep", "(II)I"⟩
abbrev cX6_begin : ByteArray := prog_1_method_18_code
def yX6_begin : MethodName := ⟨RX6, "begin", "()I"⟩
abbrev cX6_couple : ByteArray := prog_1_method_19_code
def yX6_couple : MethodName := ⟨RX6, "couple", "(II)I"⟩
abbrev cX6_hold : ByteArray := prog_1_method_20_code
def yX6_hold : MethodName := ⟨RX6, "hold", "(II)I"⟩
abbrev cX6_stiffen : ByteArray := prog_1_method_21_code
def yX6_stiffen : MethodName := ⟨RX6, "stiffen", "(II)I"⟩
abbrev cX6_put : ByteArray := prog_1_method_22_code
def yX6_put : MethodName := ⟨RX6, "put", "(III)I"⟩
abbrev cX6_lift : ByteArray := prog_1_method_23_code
def yX6_lift : MethodName := ⟨RX6, "lift", "(I)I"⟩
abbrev cX6_fall : ByteArray := prog_1_method_24_code
def yX6_fall : MethodName := ⟨RX6, "fall", "(II)I"⟩
abbrev cX6_keep : ByteArray := prog_1_method_25_code
def yX6_keep : MethodName := ⟨RX6, "keep", "(I)I"⟩
abbrev cX6_back : ByteArray := prog_1_method_26_code
def yX6_back : MethodName := ⟨RX6, "back", "(I)I"⟩
abbrev cX6_sheet : ByteArray := prog_1_method_27_code
def yX6_sheet : MethodName := ⟨RX6, "sheet", "(III)I"⟩
abbrev cX6_lay : ByteArray := prog_1_method_28_code
def yX6_lay : MethodName := ⟨RX6, "lay", "(III)I"⟩
abbrev cX6_read : ByteArray := prog_1_method_29_code
def yX6_read : MethodName := ⟨RX6, "read", "(IIII)I"⟩
abbrev cX6_torn : ByteArray := prog_1_method_30_code
def yX6_torn : MethodName := ⟨RX6, "torn", "()I"⟩
abbrev cX6_count : ByteArray := prog_1_method_31_code
def yX6_count : MethodName := ⟨RX6, "count", "(I)I"⟩
abbrev cX6_mayCouple : ByteArray := prog_1_method_32_code
def yX6_mayCouple : MethodName := ⟨RX6, "mayCouple", "(II)Z"⟩
abbrev cX6_takeCouples : ByteArray := prog_1_method_33_code
def yX6_takeCouples : MethodName := ⟨RX6, "takeCouples", "(LJointMoments$Sheet;II)V"⟩
abbrev cX6_isWay : ByteArray := prog_1_method_34_code
def yX6_isWay : MethodName := ⟨RX6, "isWay", "(I)Z"⟩
abbrev cX6_isImage : ByteArray := prog_1_method_35_code
def yX6_isImage : MethodName := ⟨RX6, "isImage", "(I)Z"⟩
abbrev cX6_isSheet : ByteArray := prog_1_method_36_code
def yX6_isSheet : MethodName := ⟨RX6, "isSheet", "(I)Z"⟩
abbrev cX6_isLane : ByteArray := prog_1_method_37_code
def yX6_isLane : MethodName := ⟨RX6, "isLane", "(I)Z"⟩
def RX7 : String := "JointMomentsModel"
def TX7 : u_T := fun k => match k with
  | 0 => ("JointMomentsModel", "state", "[I", true)
  | 1 => ("JointMomentsModel", "tape", "[I", true)
  | 2 => ("JointMomentsModel", "taped", "I", false)
  | 3 => ("JointMomentsModel", "fault", "I", false)
  | 4 => ("JointMomentsModel", "broken", "I", false)
  | 5 => ("JointMomentsModel", "brokenAt", "I", false)
  | 6 => ("JointMomentsModel", "spot", "I", false)
  | 7 => ("JointMomentsModel", "here", "I", false)
  | 8 => ("JointMomentsModel", "token", "I", false)
  | 9 => ("JointMomentsModel", "value", "I", false)
  | 10 => ("JointMomentsModel", "ends", "[I", true)
  | 11 => ("JointMomentsModel", "letters", "[I", true)
  | 12 => ("JointMomentsModel", "moments", "[I", true)
  | 13 => ("JointMomentsModel", "stepsAt", "[I", true)
  | 14 => ("JointMomentsModel", "steps", "I", false)
  | 15 => ("JointMomentsModel", "latest", "I", false)
  | 16 => ("JointMomentsModel", "matrix", "[J", true)
  | 17 => ("JointMomentsModel", "sides", "[J", true)
  | 18 => ("JointMomentsModel", "tried", "[J", true)
  | 19 => ("JointMomentsModel", "answers", "[J", true)
  | 20 => ("JointMomentsModel", "rowOf", "[I", true)
  | 21 => ("JointMomentsModel", "whole", "J", false)
  | 22 => ("JointMomentsModel", "shares", "[I", true)
  | 23 => ("JointMomentsModel", "isKept", "[Z", true)
  | 24 => ("JointMomentsModel", "lanes", "[I", true)
  | 25 => ("JointMomentsModel", "lengths", "[I", true)
  | 26 => ("JointMomentsModel", "cells", "[I", true)
  | _ => ("JointMomentsModel", "torn", "I", false)
def tyX7 : Nat → FieldType := fun k => match k with
  | 0 => .array .int
  | 1 => .array .int
  | 2 => .int
  | 3 => .int
  | 4 => .int
  | 5 => .int
  | 6 => .int
  | 7 => .int
  | 8 => .int
  | 9 => .int
  | 10 => .array .int
  | 11 => .array .int
  | 12 => .array .int
  | 13 => .array .int
  | 14 => .int
  | 15 => .int
  | 16 => .array .long
  | 17 => .array .long
  | 18 => .array .long
  | 19 => .array .long
  | 20 => .array .int
  | 21 => .long
  | 22 => .array .int
  | 23 => .array .boolean
  | 24 => .array .int
  | 25 => .array .int
  | 26 => .array .int
  | _ => .int
abbrev wsX70 : List Cond := u_ws RX7 TX7 28
theorem nmX7 : ∀ a, a < 28 → ∀ b, b < 28 → a ≠ b → (TX7 a).2.1 ≠ (TX7 b).2.1 := by decide +kernel
theorem tyX7_ok : ∀ k, k < 28 → parseFieldDescriptor (TX7 k).2.2.1 = some (tyX7 k) := by decide +kernel
abbrev cX7_init : ByteArray := prog_9_method_1_code
def yX7_init : MethodName := ⟨RX7, "<init>", "()V"⟩
abbrev cX7_in : ByteArray := prog_9_method_3_code
def yX7_in : MethodName := ⟨RX7, "in", "(JJJ)Z"⟩
abbrev cX7_feed : ByteArray := prog_9_method_4_code
def yX7_feed : MethodName := ⟨RX7, "feed", "(I)I"⟩
abbrev cX7_end : ByteArray := prog_9_method_5_code
def yX7_end : MethodName := ⟨RX7, "end", "(I)I"⟩
abbrev cX7_byteAt : ByteArray := prog_9_method_6_code
def yX7_byteAt : MethodName := ⟨RX7, "byteAt", "(I)I"⟩
abbrev cX7_fails : ByteArray := prog_9_method_7_code
def yX7_fails : MethodName := ⟨RX7, "fails", "(I)V"⟩
abbrev cX7_nameHere : ByteArray := prog_9_method_8_code
def yX7_nameHere : MethodName := ⟨RX7, "nameHere", "()I"⟩
abbrev cX7_readsOn : ByteArray := prog_9_method_9_code
def yX7_readsOn : MethodName := ⟨RX7, "readsOn", "()V"⟩
abbrev cX7_numberRead : ByteArray := prog_9_method_10_code
def yX7_numberRead : MethodName := ⟨RX7, "numberRead", "(II)I"⟩
abbrev cX7_isLength : ByteArray := prog_9_method_11_code
def yX7_isLength : MethodName := ⟨RX7, "isLength", "(I)Z"⟩
abbrev cX7_turning : ByteArray := prog_9_method_12_code
def yX7_turning : MethodName := ⟨RX7, "turning", "(I)I"⟩
abbrev cX7_readJoint : ByteArray := prog_9_method_13_code
def yX7_readJoint : MethodName := ⟨RX7, "readJoint", "(I)V"⟩
abbrev cX7_readBeam : ByteArray := prog_9_method_14_code
def yX7_readBeam : MethodName := ⟨RX7, "readBeam", "()V"⟩
abbrev cX7_readLoad : ByteArray := prog_9_method_15_code
def yX7_readLoad : MethodName := ⟨RX7, "readLoad", "(Z)V"⟩
abbrev cX7_readLine : ByteArray := prog_9_method_16_code
def yX7_readLine : MethodName := ⟨RX7, "readLine", "()V"⟩
abbrev cX7_isWhole : ByteArray := prog_9_method_17_code
def yX7_isWhole : MethodName := ⟨RX7, "isWhole", "()Z"⟩
abbrev cX7_text : ByteArray := prog_9_method_18_code
def yX7_text : MethodName := ⟨RX7, "text", "()I"⟩
abbrev cX7_fault : ByteArray := prog_9_method_19_code
def yX7_fault : MethodName := ⟨RX7, "fault", "()I"⟩
abbrev cX7_copies : ByteArray := prog_9_method_20_code
def yX7_copies : MethodName := ⟨RX7, "copies", "(II)V"⟩
abbrev cX7_joints : ByteArray := prog_9_method_21_code
def yX7_joints : MethodName := ⟨RX7, "joints", "()I"⟩
abbrev cX7_beams : ByteArray := prog_9_method_22_code
def yX7_beams : MethodName := ⟨RX7, "beams", "()I"⟩
abbrev cX7_loads : ByteArray := prog_9_method_23_code
def yX7_loads : MethodName := ⟨RX7, "loads", "()I"⟩
abbrev cX7_jointOf : ByteArray := prog_9_method_24_code
def yX7_jointOf : MethodName := ⟨RX7, "jointOf", "(I)I"⟩
abbrev cX7_otherOf : ByteArray := prog_9_method_25_code
def yX7_otherOf : MethodName := ⟨RX7, "otherOf", "(I)I"⟩
abbrev cX7_stiffOf : ByteArray := prog_9_method_26_code
def yX7_stiffOf : MethodName := ⟨RX7, "stiffOf", "(I)I"⟩
abbrev cX7_pressed : ByteArray := prog_9_method_27_code
def yX7_pressed : MethodName := ⟨RX7, "pressed", "(IZ)I"⟩
abbrev cX7_firstOf : ByteArray := prog_9_method_28_code
def yX7_firstOf : MethodName := ⟨RX7, "firstOf", "(I)I"⟩
abbrev cX7_begins : ByteArray := prog_9_method_29_code
def yX7_begins : MethodName := ⟨RX7, "begins", "()I"⟩
abbrev cX7_outOf : ByteArray := prog_9_method_30_code
def yX7_outOf : MethodName := ⟨RX7, "outOf", "(I)I"⟩
abbrev cX7_endsAt : ByteArray := prog_9_method_31_code
def yX7_endsAt : MethodName := ⟨RX7, "endsAt", "(I)I"⟩
abbrev cX7_stiffAt : ByteArray := prog_9_method_32_code
def yX7_stiffAt : MethodName := ⟨RX7, "stiffAt", "(I)I"⟩
abbrev cX7_isTurning : ByteArray := prog_9_method_33_code
def yX7_isTurning : MethodName := ⟨RX7, "isTurning", "(I)Z"⟩
abbrev cX7_isLoose : ByteArray := prog_9_method_34_code
def yX7_isLoose : MethodName := ⟨RX7, "isLoose", "(I)Z"⟩
abbrev cX7_size : ByteArray := prog_9_method_35_code
def yX7_size : MethodName := ⟨RX7, "size", "(I)I"⟩
abbrev cX7_looseMany : ByteArray := prog_9_method_36_code
def yX7_looseMany : MethodName := ⟨RX7, "looseMany", "()I"⟩
abbrev cX7_outAll : ByteArray := prog_9_method_37_code
def yX7_outAll : MethodName := ⟨RX7, "outAll", "()I"⟩
abbrev cX7_rule : ByteArray := prog_9_method_38_code
def yX7_rule : MethodName := ⟨RX7, "rule", "(I)I"⟩
abbrev cX7_isJoint : ByteArray := prog_9_method_39_code
def yX7_isJoint : MethodName := ⟨RX7, "isJoint", "(I)Z"⟩
abbrev cX7_isBeam : ByteArray := prog_9_method_40_code
def yX7_isBeam : MethodName := ⟨RX7, "isBeam", "(I)Z"⟩
abbrev cX7_isEnd : ByteArray := prog_9_method_41_code
def yX7_isEnd : MethodName := ⟨RX7, "isEnd", "(I)Z"⟩
abbrev cX7_joint : ByteArray := prog_9_method_42_code
def yX7_joint : MethodName := ⟨RX7, "joint", "(II)I"⟩
abbrev cX7_out : ByteArray := prog_9_method_43_code
def yX7_out : MethodName := ⟨RX7, "out", "(II)I"⟩
abbrev cX7_at : ByteArray := prog_9_method_44_code
def yX7_at : MethodName := ⟨RX7, "at", "(II)I"⟩
abbrev cX7_loadsOn : ByteArray := prog_9_method_45_code
def yX7_loadsOn : MethodName := ⟨RX7, "loadsOn", "(I)I"⟩
abbrev cX7_beam : ByteArray := prog_9_method_46_code
def yX7_beam : MethodName := ⟨RX7, "beam", "(II)I"⟩
abbrev cX7_load : ByteArray := prog_9_method_47_code
def yX7_load : MethodName := ⟨RX7, "load", "(II)I"⟩
abbrev cX7_two : ByteArray := prog_9_method_48_code
def yX7_two : MethodName := ⟨RX7, "two", "(III)J"⟩
abbrev cX7_determinant : ByteArray := prog_9_method_49_code
def yX7_determinant : MethodName := ⟨RX7, "determinant", "()J"⟩
abbrev cX7_equations : ByteArray := prog_9_method_50_code
def yX7_equations : MethodName := ⟨RX7, "equations", "()V"⟩
abbrev cX7_solved : ByteArray := prog_9_method_51_code
def yX7_solved : MethodName := ⟨RX7, "solved", "(I)J"⟩
abbrev cX7_solves : ByteArray := prog_9_method_52_code
def yX7_solves : MethodName := ⟨RX7, "solves", "()V"⟩
abbrev cX7_down : ByteArray := prog_9_method_53_code
def yX7_down : MethodName := ⟨RX7, "down", "(JJ)J"⟩
abbrev cX7_sureOf : ByteArray := prog_9_method_54_code
def yX7_sureOf : MethodName := ⟨RX7, "sureOf", "(I)I"⟩
abbrev cX7_moment : ByteArray := prog_9_method_55_code
def yX7_moment : MethodName := ⟨RX7, "moment", "(II)I"⟩
abbrev cX7_sharesOf : ByteArray := prog_9_method_56_code
def yX7_sharesOf : MethodName := ⟨RX7, "sharesOf", "(I)V"⟩
abbrev cX7_nextStiff : ByteArray := prog_9_method_57_code
def yX7_nextStiff : MethodName := ⟨RX7, "nextStiff", "(II)I"⟩
abbrev cX7_share : ByteArray := prog_9_method_58_code
def yX7_share : MethodName := ⟨RX7, "share", "(II)I"⟩
abbrev cX7_rank : ByteArray := prog_9_method_59_code
def yX7_rank : MethodName := ⟨RX7, "rank", "(I)I"⟩
abbrev cX7_nextOf : ByteArray := prog_9_method_60_code
def yX7_nextOf : MethodName := ⟨RX7, "nextOf", "(I)I"⟩
abbrev cX7_next : ByteArray := prog_9_method_61_code
def yX7_next : MethodName := ⟨RX7, "next", "(I)I"⟩
abbrev cX7_doesStep : ByteArray := prog_9_method_62_code
def yX7_doesStep : MethodName := ⟨RX7, "doesStep", "(I)V"⟩
abbrev cX7_step : ByteArray := prog_9_method_63_code
def yX7_step : MethodName := ⟨RX7, "step", "(I)I"⟩
abbrev cX7_sweep : ByteArray := prog_9_method_64_code
def yX7_sweep : MethodName := ⟨RX7, "sweep", "(II)I"⟩
abbrev cX7_begin : ByteArray := prog_9_method_65_code
def yX7_begin : MethodName := ⟨RX7, "begin", "()I"⟩
abbrev cX7_isCouple : ByteArray := prog_9_method_66_code
def yX7_isCouple : MethodName := ⟨RX7, "isCouple", "(II)Z"⟩
abbrev cX7_couple : ByteArray := prog_9_method_67_code
def yX7_couple : MethodName := ⟨RX7, "couple", "(II)I"⟩
abbrev cX7_hold : ByteArray := prog_9_method_68_code
def yX7_hold : MethodName := ⟨RX7, "hold", "(II)I"⟩
abbrev cX7_stiffen : ByteArray := prog_9_method_69_code
def yX7_stiffen : MethodName := ⟨RX7, "stiffen", "(II)I"⟩
abbrev cX7_puts : ByteArray := prog_9_method_70_code
def yX7_puts : MethodName := ⟨RX7, "puts", "(III)V"⟩
abbrev cX7_put : ByteArray := prog_9_method_71_code
def yX7_put : MethodName := ⟨RX7, "put", "(III)I"⟩
abbrev cX7_lift : ByteArray := prog_9_method_72_code
def yX7_lift : MethodName := ⟨RX7, "lift", "(I)I"⟩
abbrev cX7_fall : ByteArray := prog_9_method_73_code
def yX7_fall : MethodName := ⟨RX7, "fall", "(II)I"⟩
abbrev cX7_keep : ByteArray := prog_9_method_74_code
def yX7_keep : MethodName := ⟨RX7, "keep", "(I)I"⟩
abbrev cX7_back : ByteArray := prog_9_method_75_code
def yX7_back : MethodName := ⟨RX7, "back", "(I)I"⟩
abbrev cX7_sheet : ByteArray := prog_9_method_76_code
def yX7_sheet : MethodName := ⟨RX7, "sheet", "(III)I"⟩
abbrev cX7_lay : ByteArray := prog_9_method_77_code
def yX7_lay : MethodName := ⟨RX7, "lay", "(III)I"⟩
abbrev cX7_read : ByteArray := prog_9_method_78_code
def yX7_read : MethodName := ⟨RX7, "read", "(IIII)I"⟩
abbrev cX7_torn : ByteArray := prog_9_method_79_code
def yX7_torn : MethodName := ⟨RX7, "torn", "()I"⟩
abbrev cX7_bare : ByteArray := prog_9_method_80_code
def yX7_bare : MethodName := ⟨RX7, "bare", "()I"⟩
abbrev cX7_count : ByteArray := prog_9_method_81_code
def yX7_count : MethodName := ⟨RX7, "count", "(I)I"⟩
def RJ9 : String := "java/lang/Math"
def TJ9 : u_T := fun k => match k with
  | _ => ("", "", "", false)
def tyJ9 : Nat → FieldType := fun k => match k with
  | _ => .int
abbrev wsJ90 : List Cond := u_ws RJ9 TJ9 0
theorem nmJ9 : ∀ a, a < 0 → ∀ b, b < 0 → a ≠ b → (TJ9 a).2.1 ≠ (TJ9 b).2.1 := by decide +kernel
theorem tyJ9_ok : ∀ k, k < 0 → parseFieldDescriptor (TJ9 k).2.2.1 = some (tyJ9 k) := by decide +kernel
abbrev cJ9_floorDiv_f86c9 : ByteArray := prog_10_method_49_code
def yJ9_floorDiv_f86c9 : MethodName := ⟨RJ9, "floorDiv", "(JJ)J"⟩
abbrev cJ9_abs_0f7a4 : ByteArray := prog_10_method_59_code
def yJ9_abs_0f7a4 : MethodName := ⟨RJ9, "abs", "(I)I"⟩
def RJ0 : String := "java/lang/String"
def TJ0 : u_T := fun k => match k with
  | _ => ("", "", "", false)
def tyJ0 : Nat → FieldType := fun k => match k with
  | _ => .int
abbrev wsJ00 : List Cond := u_ws RJ0 TJ0 0
theorem nmJ0 : ∀ a, a < 0 → ∀ b, b < 0 → a ≠ b → (TJ0 a).2.1 ≠ (TJ0 b).2.1 := by decide +kernel
theorem tyJ0_ok : ∀ k, k < 0 → parseFieldDescriptor (TJ0 k).2.2.1 = some (tyJ0 k) := by decide +kernel
abbrev cJ0_length_8abf5 : ByteArray := prog_11_method_54_code
def yJ0_length_8abf5 : MethodName := ⟨RJ0, "length", "()I"⟩
abbrev cJ0_charAt_5068e : ByteArray := prog_11_method_56_code
def yJ0_charAt_5068e : MethodName := ⟨RJ0, "charAt", "(I)C"⟩
abbrev cJ0_coder_7d493 : ByteArray := prog_11_method_152_code
def yJ0_coder_7d493 : MethodName := ⟨RJ0, "coder", "()B"⟩
abbrev cJ0_isLatin1_aae02 : ByteArray := prog_11_method_154_code
def yJ0_isLatin1_aae02 : MethodName := ⟨RJ0, "isLatin1", "()Z"⟩
abbrev cJ0_checkIndex_df160 : ByteArray := prog_11_method_155_code
def yJ0_checkIndex_df160 : MethodName := ⟨RJ0, "checkIndex", "(II)V"⟩
def RJ1 : String := "java/lang/StringLatin1"
def TJ1 : u_T := fun k => match k with
  | _ => ("", "", "", false)
def tyJ1 : Nat → FieldType := fun k => match k with
  | _ => .int
abbrev wsJ10 : List Cond := u_ws RJ1 TJ1 0
theorem nmJ1 : ∀ a, a < 0 → ∀ b, b < 0 → a ≠ b → (TJ1 a).2.1 ≠ (TJ1 b).2.1 := by decide +kernel
theorem tyJ1_ok : ∀ k, k < 0 → parseFieldDescriptor (TJ1 k).2.2.1 = some (tyJ1 k) := by decide +kernel
abbrev cJ1_charAt_3b067 : ByteArray := prog_12_method_2_code
def yJ1_charAt_3b067 : MethodName := ⟨RJ1, "charAt", "([BI)C"⟩
def RJ2 : String := "java/lang/StringUTF16"
def TJ2 : u_T := fun k => match k with
  | _ => ("", "", "", false)
def tyJ2 : Nat → FieldType := fun k => match k with
  | _ => .int
abbrev wsJ20 : List Cond := u_ws RJ2 TJ2 0
theorem nmJ2 : ∀ a, a < 0 → ∀ b, b < 0 → a ≠ b → (TJ2 a).2.1 ≠ (TJ2 b).2.1 := by decide +kernel
theorem tyJ2_ok : ∀ k, k < 0 → parseFieldDescriptor (TJ2 k).2.2.1 = some (tyJ2 k) := by decide +kernel
abbrev cJ2_getChar_3b067 : ByteArray := prog_13_method_5_code
def yJ2_getChar_3b067 : MethodName := ⟨RJ2, "getChar", "([BI)C"⟩
abbrev cJ2_length_9d52b : ByteArray := prog_13_method_6_code
def yJ2_length_9d52b : MethodName := ⟨RJ2, "length", "([B)I"⟩
abbrev cJ2_charAt_3b067 : ByteArray := prog_13_method_83_code
def yJ2_charAt_3b067 : MethodName := ⟨RJ2, "charAt", "([BI)C"⟩
abbrev cJ2_checkIndex_2214a : ByteArray := prog_13_method_91_code
def yJ2_checkIndex_2214a : MethodName := ⟨RJ2, "checkIndex", "(I[B)V"⟩
def RJ10 : String := "java/lang/System"
def TJ10 : u_T := fun k => match k with
  | _ => ("", "", "", false)
def tyJ10 : Nat → FieldType := fun k => match k with
  | _ => .int
abbrev wsJ100 : List Cond := u_ws RJ10 TJ10 0
theorem nmJ10 : ∀ a, a < 0 → ∀ b, b < 0 → a ≠ b → (TJ10 a).2.1 ≠ (TJ10 b).2.1 := by decide +kernel
theorem tyJ10_ok : ∀ k, k < 0 → parseFieldDescriptor (TJ10 k).2.2.1 = some (tyJ10 k) := by decide +kernel
def RJ3 : String := "jdk/internal/util/Preconditions"
def TJ3 : u_T := fun k => match k with
  | _ => ("", "", "", false)
def tyJ3 : Nat → FieldType := fun k => match k with
  | _ => .int
abbrev wsJ30 : List Cond := u_ws RJ3 TJ3 0
theorem nmJ3 : ∀ a, a < 0 → ∀ b, b < 0 → a ≠ b → (TJ3 a).2.1 ≠ (TJ3 b).2.1 := by decide +kernel
theorem tyJ3_ok : ∀ k, k < 0 → parseFieldDescriptor (TJ3 k).2.2.1 = some (tyJ3 k) := by decide +kernel
abbrev cJ3_checkIndex_8e157 : ByteArray := prog_15_method_11_code
def yJ3_checkIndex_8e157 : MethodName := ⟨RJ3, "checkIndex", "(IILjava/util/function/BiFunction;)I"⟩
def RL : String := "JointMomentsLaw"
abbrev cL_law : ByteArray := code
def yL_law : MethodName := ⟨RL, "law", "([I)Z"⟩
abbrev vwCl : List vw_C := [(RX0, TX0, 10), (RX1, TX1, 3), (RX2, TX2, 11), (RX3, TX3, 3), (RX4, TX4, 2), (RX5, TX5, 8), (RX6, TX6, 11), (RX7, TX7, 28)]
/-! ===== my own: the tables' good words, by their places ===== -/
def uw : List Cond := lw_tbl.filter goodWord
theorem goodU {w : Cond} (h : w ∈ uw) : goodWord w = true := (List.mem_filter.mp h).2
theorem uw_1 {w : Cond} (h : w ∈ tables_1_1) (g : goodWord w = true) : w ∈ uw := List.mem_filter.mpr ⟨List.mem_append_right _ (List.mem_append_left _ h), g⟩
theorem uw_2 {w : Cond} (h : w ∈ tables_1_2) (g : goodWord w = true) : w ∈ uw := List.mem_filter.mpr ⟨List.mem_append_right _ (List.mem_append_right _ (List.mem_append_left _ h)), g⟩
theorem uw_3 {w : Cond} (h : w ∈ tables_1_3) (g : goodWord w = true) : w ∈ uw := List.mem_filter.mpr ⟨List.mem_append_right _ (List.mem_append_right _ (List.mem_append_right _ (List.mem_append_left _ h))), g⟩
theorem uw_4 {w : Cond} (h : w ∈ tables_1_4) (g : goodWord w = true) : w ∈ uw := List.mem_filter.mpr ⟨List.mem_append_right _ (List.mem_append_right _ (List.mem_append_right _ (List.mem_append_right _ (List.mem_append_left _ h)))), g⟩
theorem uw_5 {w : Cond} (h : w ∈ tables_1_5) (g : goodWord w = true) : w ∈ uw := List.mem_filter.mpr ⟨List.mem_append_right _ (List.mem_append_right _ (List.mem_append_right _ (List.mem_append_right _ (List.mem_append_right _ (h))))), g⟩
theorem uw_0 {w : Cond} (h : w ∈ k2_sels lw_privs) (g : goodWord w = true) : w ∈ uw := List.mem_filter.mpr ⟨List.mem_append_left _ h, g⟩
theorem inl_of {big : List Cond} (ws : List Cond) (ps : List Nat) (hp : ws = ps.filterMap (fun i => big[i]?)) : ∀ w ∈ ws, w ∈ big := by
  intro w hw
  rw [hp] at hw
  obtain ⟨i, -, hi⟩ := List.mem_filterMap.mp hw
  first | exact List.mem_of_getElem? hi | exact List.getElem?_mem hi
set_option maxRecDepth 20000 in
theorem inX0 : ∀ w ∈ wsX00, w ∈ uw := fun w h => List.mem_filter.mpr ⟨List.mem_append_right _ (inl_of (big := tables_1) _ [99, 101, 103, 105, 107, 109, 111, 113, 115, 117] rfl w h), List.all_eq_true.mp (show wsX00.all goodWord = true by decide +kernel) w h⟩
set_option maxRecDepth 20000 in
theorem inX1 : ∀ w ∈ wsX10, w ∈ uw := fun w h => List.mem_filter.mpr ⟨List.mem_append_right _ (inl_of (big := tables_1) _ [133, 135, 137] rfl w h), List.all_eq_true.mp (show wsX10.all goodWord = true by decide +kernel) w h⟩
set_option maxRecDepth 20000 in
theorem inX2 : ∀ w ∈ wsX20, w ∈ uw := fun w h => List.mem_filter.mpr ⟨List.mem_append_right _ (inl_of (big := tables_1) _ [179, 181, 183, 185, 187, 189, 191, 193, 195, 197, 199] rfl w h), List.all_eq_true.mp (show wsX20.all goodWord = true by decide +kernel) w h⟩
set_option maxRecDepth 20000 in
theorem inX3 : ∀ w ∈ wsX30, w ∈ uw := fun w h => List.mem_filter.mpr ⟨List.mem_append_right _ (inl_of (big := tables_1) _ [216, 218, 220] rfl w h), List.all_eq_true.mp (show wsX30.all goodWord = true by decide +kernel) w h⟩
set_option maxRecDepth 20000 in
theorem inX4 : ∀ w ∈ wsX40, w ∈ uw := fun w h => List.mem_filter.mpr ⟨List.mem_append_right _ (inl_of (big := tables_1) _ [40, 42] rfl w h), List.all_eq_true.mp (show wsX40.all goodWord = true by decide +kernel) w h⟩
set_option maxRecDepth 20000 in
theorem inX5 : ∀ w ∈ wsX50, w ∈ uw := fun w h => List.mem_filter.mpr ⟨List.mem_append_right _ (inl_of (big := tables_1) _ [58, 60, 62, 64, 66, 68, 70, 72] rfl w h), List.all_eq_true.mp (show wsX50.all goodWord = true by decide +kernel) w h⟩
set_option maxRecDepth 20000 in
theorem inX6 : ∀ w ∈ wsX60, w ∈ uw := fun w h => List.mem_filter.mpr ⟨List.mem_append_right _ (inl_of (big := tables_1) _ [234, 236, 238, 240, 242, 244, 246, 248, 250, 252, 254] rfl w h), List.all_eq_true.mp (show wsX60.all goodWord = true by decide +kernel) w h⟩
set_option maxRecDepth 20000 in
theorem inX7 : ∀ w ∈ wsX70, w ∈ uw := fun w h => List.mem_filter.mpr ⟨List.mem_append_right _ (inl_of (big := tables_1) _ [742, 744, 746, 748, 750, 752, 754, 756, 758, 760, 762, 764, 766, 768, 770, 772, 774, 776, 778, 780, 782, 784, 786, 788, 790, 792, 794, 796] rfl w h), List.all_eq_true.mp (show wsX70.all goodWord = true by decide +kernel) w h⟩
