/-! ===== BEGIN printed: names, fields, word lists, decode rows ===== -/
def RX0 : String := "Couplet$Centre"
def TX0 : u_T := fun k => match k with
  | 0 => ("Couplet$Centre", "text", "LCouplet$Text;", true)
  | _ => ("Couplet$Centre", "history", "Ljava/util/ArrayList;", true)
def tyX0 : Nat → FieldType := fun k => match k with
  | 0 => .object "Couplet$Text"
  | _ => .object "java/util/ArrayList"
abbrev wsX00 : List Cond := u_ws RX0 TX0 2
theorem nmX0 : ∀ a, a < 2 → ∀ b, b < 2 → a ≠ b → (TX0 a).2.1 ≠ (TX0 b).2.1 := by decide +kernel
theorem tyX0_ok : ∀ k, k < 2 → parseFieldDescriptor (TX0 k).2.2.1 = some (tyX0 k) := by decide +kernel
abbrev cX0_init : ByteArray := prog_2_method_1_code
def yX0_init : MethodName := ⟨RX0, "<init>", "()V"⟩
abbrev cX0_enter : ByteArray := prog_2_method_2_code
def yX0_enter : MethodName := ⟨RX0, "enter", "(LCouplet$Message;)V"⟩
abbrev cX0_countOperations : ByteArray := prog_2_method_3_code
def yX0_countOperations : MethodName := ⟨RX0, "countOperations", "()I"⟩
abbrev cX0_transformAll : ByteArray := prog_2_method_4_code
def yX0_transformAll : MethodName := ⟨RX0, "transformAll", "(Ljava/util/ArrayList;Ljava/util/ArrayList;)V"⟩
def RX1 : String := "Couplet$Changes"
def TX1 : u_T := fun k => match k with
  | 0 => ("Couplet$Changes", "row", "[I", true)
  | _ => ("Couplet$Changes", "farthest", "[I", true)
def tyX1 : Nat → FieldType := fun k => match k with
  | 0 => .array .int
  | _ => .array .int
abbrev wsX10 : List Cond := u_ws RX1 TX1 2
theorem nmX1 : ∀ a, a < 2 → ∀ b, b < 2 → a ≠ b → (TX1 a).2.1 ≠ (TX1 b).2.1 := by decide +kernel
theorem tyX1_ok : ∀ k, k < 2 → parseFieldDescriptor (TX1 k).2.2.1 = some (tyX1 k) := by decide +kernel
abbrev cX1_init : ByteArray := prog_3_method_1_code
def yX1_init : MethodName := ⟨RX1, "<init>", "()V"⟩
abbrev cX1_byTable : ByteArray := prog_3_method_2_code
def yX1_byTable : MethodName := ⟨RX1, "byTable", "(LCouplet$Text;LCouplet$Text;)I"⟩
abbrev cX1_fillRow : ByteArray := prog_3_method_3_code
def yX1_fillRow : MethodName := ⟨RX1, "fillRow", "(LCouplet$Text;ILCouplet$Text;I)V"⟩
abbrev cX1_byWays : ByteArray := prog_3_method_4_code
def yX1_byWays : MethodName := ⟨RX1, "byWays", "(LCouplet$Text;LCouplet$Text;)I"⟩
abbrev cX1_reachesEnd : ByteArray := prog_3_method_5_code
def yX1_reachesEnd : MethodName := ⟨RX1, "reachesEnd", "(LCouplet$Text;LCouplet$Text;I)Z"⟩
abbrev cX1_firstOn : ByteArray := prog_3_method_6_code
def yX1_firstOn : MethodName := ⟨RX1, "firstOn", "(II)I"⟩
abbrev cX1_follow : ByteArray := prog_3_method_7_code
def yX1_follow : MethodName := ⟨RX1, "follow", "(LCouplet$Text;LCouplet$Text;II)I"⟩
def RX2 : String := "Couplet$End"
def TX2 : u_T := fun k => match k with
  | 0 => ("Couplet$End", "number", "I", true)
  | 1 => ("Couplet$End", "text", "LCouplet$Text;", true)
  | 2 => ("Couplet$End", "sent", "Ljava/util/ArrayList;", true)
  | 3 => ("Couplet$End", "waiting", "Ljava/util/ArrayList;", true)
  | 4 => ("Couplet$End", "up", "Ljava/util/ArrayList;", true)
  | 5 => ("Couplet$End", "down", "Ljava/util/ArrayList;", true)
  | 6 => ("Couplet$End", "kept", "Ljava/util/ArrayList;", true)
  | 7 => ("Couplet$End", "cursor", "I", false)
  | 8 => ("Couplet$End", "mark", "I", false)
  | _ => ("Couplet$End", "revision", "I", false)
def tyX2 : Nat → FieldType := fun k => match k with
  | 0 => .int
  | 1 => .object "Couplet$Text"
  | 2 => .object "java/util/ArrayList"
  | 3 => .object "java/util/ArrayList"
  | 4 => .object "java/util/ArrayList"
  | 5 => .object "java/util/ArrayList"
  | 6 => .object "java/util/ArrayList"
  | 7 => .int
  | 8 => .int
  | _ => .int
abbrev wsX20 : List Cond := u_ws RX2 TX2 10
theorem nmX2 : ∀ a, a < 10 → ∀ b, b < 10 → a ≠ b → (TX2 a).2.1 ≠ (TX2 b).2.1 := by decide +kernel
theorem tyX2_ok : ∀ k, k < 10 → parseFieldDescriptor (TX2 k).2.2.1 = some (tyX2 k) := by decide +kernel
abbrev cX2_init : ByteArray := prog_4_method_1_code
def yX2_init : MethodName := ⟨RX2, "<init>", "(I)V"⟩
abbrev cX2_make : ByteArray := prog_4_method_2_code
def yX2_make : MethodName := ⟨RX2, "make", "(LCouplet$Operation;)V"⟩
abbrev cX2_get : ByteArray := prog_4_method_3_code
def yX2_get : MethodName := ⟨RX2, "get", "(LCouplet$Message;)V"⟩
abbrev cX2_countRuns : ByteArray := prog_4_method_4_code
def yX2_countRuns : MethodName := ⟨RX2, "countRuns", "()I"⟩
abbrev cX2_carryOut : ByteArray := prog_4_method_5_code
def yX2_carryOut : MethodName := ⟨RX2, "carryOut", "(LCouplet$Operation;)V"⟩
abbrev cX2_follow : ByteArray := prog_4_method_6_code
def yX2_follow : MethodName := ⟨RX2, "follow", "(LCouplet$Operation;)V"⟩
abbrev cX2_dropNothings : ByteArray := prog_4_method_7_code
def yX2_dropNothings : MethodName := ⟨RX2, "dropNothings", "()V"⟩
abbrev cX2_beginsRun : ByteArray := prog_4_method_8_code
def yX2_beginsRun : MethodName := ⟨RX2, "beginsRun", "(I)Z"⟩
abbrev cX2_firstRunSize : ByteArray := prog_4_method_9_code
def yX2_firstRunSize : MethodName := ⟨RX2, "firstRunSize", "()I"⟩
abbrev cX2_sendRun : ByteArray := prog_4_method_10_code
def yX2_sendRun : MethodName := ⟨RX2, "sendRun", "()V"⟩
abbrev cX2_sendMessage : ByteArray := prog_4_method_11_code
def yX2_sendMessage : MethodName := ⟨RX2, "sendMessage", "()V"⟩
def RX3 : String := "Couplet$Kept"
def TX3 : u_T := fun k => match k with
  | 0 => ("Couplet$Kept", "inserted", "Z", true)
  | 1 => ("Couplet$Kept", "letter", "LCouplet$Letter;", true)
  | _ => ("Couplet$Kept", "place", "I", false)
def tyX3 : Nat → FieldType := fun k => match k with
  | 0 => .boolean
  | 1 => .object "Couplet$Letter"
  | _ => .int
abbrev wsX30 : List Cond := u_ws RX3 TX3 3
theorem nmX3 : ∀ a, a < 3 → ∀ b, b < 3 → a ≠ b → (TX3 a).2.1 ≠ (TX3 b).2.1 := by decide +kernel
theorem tyX3_ok : ∀ k, k < 3 → parseFieldDescriptor (TX3 k).2.2.1 = some (tyX3 k) := by decide +kernel
abbrev cX3_init : ByteArray := prog_5_method_1_code
def yX3_init : MethodName := ⟨RX3, "<init>", "(ZLCouplet$Letter;I)V"⟩
def RX4 : String := "Couplet$Letter"
def TX4 : u_T := fun k => match k with
  | 0 => ("Couplet$Letter", "look", "C", true)
  | _ => ("Couplet$Letter", "owner", "I", true)
def tyX4 : Nat → FieldType := fun k => match k with
  | 0 => .char
  | _ => .int
abbrev wsX40 : List Cond := u_ws RX4 TX4 2
theorem nmX4 : ∀ a, a < 2 → ∀ b, b < 2 → a ≠ b → (TX4 a).2.1 ≠ (TX4 b).2.1 := by decide +kernel
theorem tyX4_ok : ∀ k, k < 2 → parseFieldDescriptor (TX4 k).2.2.1 = some (tyX4 k) := by decide +kernel
abbrev cX4_init : ByteArray := prog_6_method_1_code
def yX4_init : MethodName := ⟨RX4, "<init>", "(CI)V"⟩
def RX5 : String := "Couplet$Message"
def TX5 : u_T := fun k => match k with
  | 0 => ("Couplet$Message", "end", "I", true)
  | 1 => ("Couplet$Message", "revision", "I", true)
  | _ => ("Couplet$Message", "operations", "Ljava/util/ArrayList;", true)
def tyX5 : Nat → FieldType := fun k => match k with
  | 0 => .int
  | 1 => .int
  | _ => .object "java/util/ArrayList"
abbrev wsX50 : List Cond := u_ws RX5 TX5 3
theorem nmX5 : ∀ a, a < 3 → ∀ b, b < 3 → a ≠ b → (TX5 a).2.1 ≠ (TX5 b).2.1 := by decide +kernel
theorem tyX5_ok : ∀ k, k < 3 → parseFieldDescriptor (TX5 k).2.2.1 = some (tyX5 k) := by decide +kernel
abbrev cX5_init : ByteArray := prog_7_method_1_code
def yX5_init : MethodName := ⟨RX5, "<init>", "(II)V"⟩
def RX6 : String := "Couplet$Operation"
def TX6 : u_T := fun k => match k with
  | 0 => ("Couplet$Operation", "end", "I", true)
  | 1 => ("Couplet$Operation", "letter", "LCouplet$Letter;", true)
  | 2 => ("Couplet$Operation", "kind", "C", false)
  | _ => ("Couplet$Operation", "position", "I", false)
def tyX6 : Nat → FieldType := fun k => match k with
  | 0 => .int
  | 1 => .object "Couplet$Letter"
  | 2 => .char
  | _ => .int
abbrev wsX60 : List Cond := u_ws RX6 TX6 4
theorem nmX6 : ∀ a, a < 4 → ∀ b, b < 4 → a ≠ b → (TX6 a).2.1 ≠ (TX6 b).2.1 := by decide +kernel
theorem tyX6_ok : ∀ k, k < 4 → parseFieldDescriptor (TX6 k).2.2.1 = some (tyX6 k) := by decide +kernel
abbrev cX6_init : ByteArray := prog_8_method_1_code
def yX6_init : MethodName := ⟨RX6, "<init>", "(ICILCouplet$Letter;)V"⟩
abbrev cX6_copy : ByteArray := prog_8_method_2_code
def yX6_copy : MethodName := ⟨RX6, "copy", "()LCouplet$Operation;"⟩
abbrev cX6_transformRow : ByteArray := prog_8_method_3_code
def yX6_transformRow : MethodName := ⟨RX6, "transformRow", "(Ljava/util/ArrayList;LCouplet$Operation;)V"⟩
abbrev cX6_transform : ByteArray := prog_8_method_4_code
def yX6_transform : MethodName := ⟨RX6, "transform", "(CII)V"⟩
abbrev cX6_transformByInsertion : ByteArray := prog_8_method_5_code
def yX6_transformByInsertion : MethodName := ⟨RX6, "transformByInsertion", "(II)V"⟩
abbrev cX6_transformByDeletion : ByteArray := prog_8_method_6_code
def yX6_transformByDeletion : MethodName := ⟨RX6, "transformByDeletion", "(I)V"⟩
abbrev cX6_move : ByteArray := prog_8_method_7_code
def yX6_move : MethodName := ⟨RX6, "move", "(I)I"⟩
abbrev cX6_placeBehind : ByteArray := prog_8_method_8_code
def yX6_placeBehind : MethodName := ⟨RX6, "placeBehind", "()I"⟩
abbrev cX6_goesOnFrom : ByteArray := prog_8_method_9_code
def yX6_goesOnFrom : MethodName := ⟨RX6, "goesOnFrom", "(LCouplet$Operation;)Z"⟩
def RX7 : String := "Couplet$Text"
def TX7 : u_T := fun k => match k with
  | _ => ("Couplet$Text", "letters", "Ljava/util/ArrayList;", true)
def tyX7 : Nat → FieldType := fun k => match k with
  | _ => .object "java/util/ArrayList"
abbrev wsX70 : List Cond := u_ws RX7 TX7 1
theorem nmX7 : ∀ a, a < 1 → ∀ b, b < 1 → a ≠ b → (TX7 a).2.1 ≠ (TX7 b).2.1 := by decide +kernel
theorem tyX7_ok : ∀ k, k < 1 → parseFieldDescriptor (TX7 k).2.2.1 = some (tyX7 k) := by decide +kernel
abbrev cX7_init : ByteArray := prog_9_method_1_code
def yX7_init : MethodName := ⟨RX7, "<init>", "()V"⟩
abbrev cX7_size : ByteArray := prog_9_method_2_code
def yX7_size : MethodName := ⟨RX7, "size", "()I"⟩
abbrev cX7_hasCharacter : ByteArray := prog_9_method_3_code
def yX7_hasCharacter : MethodName := ⟨RX7, "hasCharacter", "(I)Z"⟩
abbrev cX7_hasPlace : ByteArray := prog_9_method_4_code
def yX7_hasPlace : MethodName := ⟨RX7, "hasPlace", "(I)Z"⟩
abbrev cX7_carryOut : ByteArray := prog_9_method_5_code
def yX7_carryOut : MethodName := ⟨RX7, "carryOut", "(LCouplet$Operation;)V"⟩
abbrev cX7_carryOutAll : ByteArray := prog_9_method_6_code
def yX7_carryOutAll : MethodName := ⟨RX7, "carryOutAll", "(Ljava/util/ArrayList;)V"⟩
abbrev cX7_positionOf : ByteArray := prog_9_method_7_code
def yX7_positionOf : MethodName := ⟨RX7, "positionOf", "(LCouplet$Letter;)I"⟩
abbrev cX7_countOf : ByteArray := prog_9_method_8_code
def yX7_countOf : MethodName := ⟨RX7, "countOf", "(I)I"⟩
abbrev cX7_matches : ByteArray := prog_9_method_9_code
def yX7_matches : MethodName := ⟨RX7, "matches", "(ILCouplet$Text;I)Z"⟩
abbrev cX7_looksLike : ByteArray := prog_9_method_10_code
def yX7_looksLike : MethodName := ⟨RX7, "looksLike", "(LCouplet$Text;)Z"⟩
abbrev cX7_number : ByteArray := prog_9_method_11_code
def yX7_number : MethodName := ⟨RX7, "number", "()J"⟩
def RX8 : String := "Couplet"
def TX8 : u_T := fun k => match k with
  | 0 => ("Couplet", "first", "LCouplet$End;", true)
  | 1 => ("Couplet", "second", "LCouplet$End;", true)
  | 2 => ("Couplet", "centre", "LCouplet$Centre;", true)
  | 3 => ("Couplet", "rebuilt", "LCouplet$Text;", true)
  | 4 => ("Couplet", "changes", "LCouplet$Changes;", true)
  | _ => ("Couplet", "operationsMade", "I", false)
def tyX8 : Nat → FieldType := fun k => match k with
  | 0 => .object "Couplet$End"
  | 1 => .object "Couplet$End"
  | 2 => .object "Couplet$Centre"
  | 3 => .object "Couplet$Text"
  | 4 => .object "Couplet$Changes"
  | _ => .int
abbrev wsX80 : List Cond := u_ws RX8 TX8 6
theorem nmX8 : ∀ a, a < 6 → ∀ b, b < 6 → a ≠ b → (TX8 a).2.1 ≠ (TX8 b).2.1 := by decide +kernel
theorem tyX8_ok : ∀ k, k < 6 → parseFieldDescriptor (TX8 k).2.2.1 = some (tyX8 k) := by decide +kernel
abbrev cX8_init : ByteArray := prog_1_method_1_code
def yX8_init : MethodName := ⟨RX8, "<init>", "()V"⟩
abbrev cX8_insert : ByteArray := prog_1_method_2_code
def yX8_insert : MethodName := ⟨RX8, "insert", "(IIC)I"⟩
abbrev cX8_delete : ByteArray := prog_1_method_3_code
def yX8_delete : MethodName := ⟨RX8, "delete", "(II)C"⟩
abbrev cX8_type : ByteArray := prog_1_method_4_code
def yX8_type : MethodName := ⟨RX8, "type", "(IC)I"⟩
abbrev cX8_erase : ByteArray := prog_1_method_5_code
def yX8_erase : MethodName := ⟨RX8, "erase", "(I)C"⟩
abbrev cX8_moveCursor : ByteArray := prog_1_method_6_code
def yX8_moveCursor : MethodName := ⟨RX8, "moveCursor", "(II)I"⟩
abbrev cX8_undo : ByteArray := prog_1_method_7_code
def yX8_undo : MethodName := ⟨RX8, "undo", "(I)Z"⟩
abbrev cX8_deliverUp : ByteArray := prog_1_method_8_code
def yX8_deliverUp : MethodName := ⟨RX8, "deliverUp", "(I)I"⟩
abbrev cX8_deliverDown : ByteArray := prog_1_method_9_code
def yX8_deliverDown : MethodName := ⟨RX8, "deliverDown", "(I)C"⟩
abbrev cX8_deliverAll : ByteArray := prog_1_method_10_code
def yX8_deliverAll : MethodName := ⟨RX8, "deliverAll", "()I"⟩
abbrev cX8_length : ByteArray := prog_1_method_11_code
def yX8_length : MethodName := ⟨RX8, "length", "(I)I"⟩
abbrev cX8_charAt : ByteArray := prog_1_method_12_code
def yX8_charAt : MethodName := ⟨RX8, "charAt", "(II)C"⟩
abbrev cX8_ownerAt : ByteArray := prog_1_method_13_code
def yX8_ownerAt : MethodName := ⟨RX8, "ownerAt", "(II)I"⟩
abbrev cX8_lengthByHistory : ByteArray := prog_1_method_14_code
def yX8_lengthByHistory : MethodName := ⟨RX8, "lengthByHistory", "(I)I"⟩
abbrev cX8_charByHistory : ByteArray := prog_1_method_15_code
def yX8_charByHistory : MethodName := ⟨RX8, "charByHistory", "(II)C"⟩
abbrev cX8_centreLength : ByteArray := prog_1_method_16_code
def yX8_centreLength : MethodName := ⟨RX8, "centreLength", "()I"⟩
abbrev cX8_centreChar : ByteArray := prog_1_method_17_code
def yX8_centreChar : MethodName := ⟨RX8, "centreChar", "(I)C"⟩
abbrev cX8_cursor : ByteArray := prog_1_method_18_code
def yX8_cursor : MethodName := ⟨RX8, "cursor", "(I)I"⟩
abbrev cX8_mark : ByteArray := prog_1_method_19_code
def yX8_mark : MethodName := ⟨RX8, "mark", "(I)I"⟩
abbrev cX8_revision : ByteArray := prog_1_method_20_code
def yX8_revision : MethodName := ⟨RX8, "revision", "(I)I"⟩
abbrev cX8_sent : ByteArray := prog_1_method_21_code
def yX8_sent : MethodName := ⟨RX8, "sent", "(I)I"⟩
abbrev cX8_waiting : ByteArray := prog_1_method_22_code
def yX8_waiting : MethodName := ⟨RX8, "waiting", "(I)I"⟩
abbrev cX8_runs : ByteArray := prog_1_method_23_code
def yX8_runs : MethodName := ⟨RX8, "runs", "(I)I"⟩
abbrev cX8_up : ByteArray := prog_1_method_24_code
def yX8_up : MethodName := ⟨RX8, "up", "(I)I"⟩
abbrev cX8_down : ByteArray := prog_1_method_25_code
def yX8_down : MethodName := ⟨RX8, "down", "(I)I"⟩
abbrev cX8_kept : ByteArray := prog_1_method_26_code
def yX8_kept : MethodName := ⟨RX8, "kept", "(I)I"⟩
abbrev cX8_centreRevision : ByteArray := prog_1_method_27_code
def yX8_centreRevision : MethodName := ⟨RX8, "centreRevision", "()I"⟩
abbrev cX8_historyEnd : ByteArray := prog_1_method_28_code
def yX8_historyEnd : MethodName := ⟨RX8, "historyEnd", "(I)I"⟩
abbrev cX8_historySize : ByteArray := prog_1_method_29_code
def yX8_historySize : MethodName := ⟨RX8, "historySize", "(I)I"⟩
abbrev cX8_historyKind : ByteArray := prog_1_method_30_code
def yX8_historyKind : MethodName := ⟨RX8, "historyKind", "(II)C"⟩
abbrev cX8_historyPosition : ByteArray := prog_1_method_31_code
def yX8_historyPosition : MethodName := ⟨RX8, "historyPosition", "(II)I"⟩
abbrev cX8_agree : ByteArray := prog_1_method_32_code
def yX8_agree : MethodName := ⟨RX8, "agree", "()Z"⟩
abbrev cX8_distance : ByteArray := prog_1_method_33_code
def yX8_distance : MethodName := ⟨RX8, "distance", "()I"⟩
abbrev cX8_distanceByWays : ByteArray := prog_1_method_34_code
def yX8_distanceByWays : MethodName := ⟨RX8, "distanceByWays", "()I"⟩
abbrev cX8_ownShare : ByteArray := prog_1_method_35_code
def yX8_ownShare : MethodName := ⟨RX8, "ownShare", "(I)F"⟩
abbrev cX8_meanRun : ByteArray := prog_1_method_36_code
def yX8_meanRun : MethodName := ⟨RX8, "meanRun", "()D"⟩
abbrev cX8_textNumber : ByteArray := prog_1_method_37_code
def yX8_textNumber : MethodName := ⟨RX8, "textNumber", "(I)J"⟩
abbrev cX8_endNumbered : ByteArray := prog_1_method_38_code
def yX8_endNumbered : MethodName := ⟨RX8, "endNumbered", "(I)LCouplet$End;"⟩
abbrev cX8_requireWritable : ByteArray := prog_1_method_39_code
def yX8_requireWritable : MethodName := ⟨RX8, "requireWritable", "(C)V"⟩
abbrev cX8_requireOperationLeft : ByteArray := prog_1_method_40_code
def yX8_requireOperationLeft : MethodName := ⟨RX8, "requireOperationLeft", "()V"⟩
abbrev cX8_requireRoom : ByteArray := prog_1_method_41_code
def yX8_requireRoom : MethodName := ⟨RX8, "requireRoom", "(LCouplet$End;)V"⟩
abbrev cX8_letterOf : ByteArray := prog_1_method_42_code
def yX8_letterOf : MethodName := ⟨RX8, "letterOf", "(LCouplet$Text;I)LCouplet$Letter;"⟩
abbrev cX8_messageOf : ByteArray := prog_1_method_43_code
def yX8_messageOf : MethodName := ⟨RX8, "messageOf", "(I)LCouplet$Message;"⟩
abbrev cX8_operationOf : ByteArray := prog_1_method_44_code
def yX8_operationOf : MethodName := ⟨RX8, "operationOf", "(II)LCouplet$Operation;"⟩
abbrev cX8_writeKept : ByteArray := prog_1_method_45_code
def yX8_writeKept : MethodName := ⟨RX8, "writeKept", "(LCouplet$End;IC)V"⟩
abbrev cX8_removeKept : ByteArray := prog_1_method_46_code
def yX8_removeKept : MethodName := ⟨RX8, "removeKept", "(LCouplet$End;I)C"⟩
abbrev cX8_takeBack : ByteArray := prog_1_method_47_code
def yX8_takeBack : MethodName := ⟨RX8, "takeBack", "(LCouplet$End;ILCouplet$Letter;)Z"⟩
abbrev cX8_putBack : ByteArray := prog_1_method_48_code
def yX8_putBack : MethodName := ⟨RX8, "putBack", "(LCouplet$End;ILCouplet$Kept;)Z"⟩
abbrev cX8_rebuild : ByteArray := prog_1_method_49_code
def yX8_rebuild : MethodName := ⟨RX8, "rebuild", "(LCouplet$End;)V"⟩
def RX9 : String := "CoupletModel"
def TX9 : u_T := fun k => match k with
  | 0 => ("CoupletModel", "thrown", "I", false)
  | 1 => ("CoupletModel", "kinds", "[I", true)
  | 2 => ("CoupletModel", "places", "[I", true)
  | 3 => ("CoupletModel", "codes", "[I", true)
  | 4 => ("CoupletModel", "marks", "[I", true)
  | 5 => ("CoupletModel", "makers", "[I", true)
  | 6 => ("CoupletModel", "texts", "[I", true)
  | 7 => ("CoupletModel", "ids", "[I", true)
  | 8 => ("CoupletModel", "owners", "[I", true)
  | 9 => ("CoupletModel", "lengths", "[I", true)
  | 10 => ("CoupletModel", "sentMany", "[I", true)
  | 11 => ("CoupletModel", "waitingMany", "[I", true)
  | 12 => ("CoupletModel", "revisions", "[I", true)
  | 13 => ("CoupletModel", "cursors", "[I", true)
  | 14 => ("CoupletModel", "others", "[I", true)
  | 15 => ("CoupletModel", "upMany", "[I", true)
  | 16 => ("CoupletModel", "upRevisions", "[I", true)
  | 17 => ("CoupletModel", "isSent", "[Z", true)
  | 18 => ("CoupletModel", "isUp", "[Z", true)
  | 19 => ("CoupletModel", "keptKinds", "[I", true)
  | 20 => ("CoupletModel", "keptPlaces", "[I", true)
  | 21 => ("CoupletModel", "keptCodes", "[I", true)
  | 22 => ("CoupletModel", "keptMarks", "[I", true)
  | 23 => ("CoupletModel", "keptMany", "[I", true)
  | 24 => ("CoupletModel", "firsts", "[I", true)
  | 25 => ("CoupletModel", "fromEnds", "[I", true)
  | 26 => ("CoupletModel", "made", "I", false)
  | 27 => ("CoupletModel", "messages", "I", false)
  | 28 => ("CoupletModel", "entered", "I", false)
  | 29 => ("CoupletModel", "now", "[I", true)
  | _ => ("CoupletModel", "before", "[I", true)
def tyX9 : Nat → FieldType := fun k => match k with
  | 0 => .int
  | 1 => .array .int
  | 2 => .array .int
  | 3 => .array .int
  | 4 => .array .int
  | 5 => .array .int
  | 6 => .array .int
  | 7 => .array .int
  | 8 => .array .int
  | 9 => .array .int
  | 10 => .array .int
  | 11 => .array .int
  | 12 => .array .int
  | 13 => .array .int
  | 14 => .array .int
  | 15 => .array .int
  | 16 => .array .int
  | 17 => .array .boolean
  | 18 => .array .boolean
  | 19 => .array .int
  | 20 => .array .int
  | 21 => .array .int
  | 22 => .array .int
  | 23 => .array .int
  | 24 => .array .int
  | 25 => .array .int
  | 26 => .int
  | 27 => .int
  | 28 => .int
  | 29 => .array .int
  | _ => .array .int
abbrev wsX90 : List Cond := u_ws RX9 TX9 31
theorem nmX9 : ∀ a, a < 31 → ∀ b, b < 31 → a ≠ b → (TX9 a).2.1 ≠ (TX9 b).2.1 := by decide +kernel
theorem tyX9_ok : ∀ k, k < 31 → parseFieldDescriptor (TX9 k).2.2.1 = some (tyX9 k) := by decide +kernel
abbrev cX9_init : ByteArray := prog_11_method_1_code
def yX9_init : MethodName := ⟨RX9, "<init>", "()V"⟩
abbrev cX9_thrown : ByteArray := prog_11_method_2_code
def yX9_thrown : MethodName := ⟨RX9, "thrown", "()I"⟩
abbrev cX9_fails : ByteArray := prog_11_method_3_code
def yX9_fails : MethodName := ⟨RX9, "fails", "(I)I"⟩
abbrev cX9_isBetween : ByteArray := prog_11_method_4_code
def yX9_isBetween : MethodName := ⟨RX9, "isBetween", "(III)Z"⟩
abbrev cX9_isEnd : ByteArray := prog_11_method_5_code
def yX9_isEnd : MethodName := ⟨RX9, "isEnd", "(I)Z"⟩
abbrev cX9_sentAt : ByteArray := prog_11_method_6_code
def yX9_sentAt : MethodName := ⟨RX9, "sentAt", "(I)I"⟩
abbrev cX9_waitingAt : ByteArray := prog_11_method_7_code
def yX9_waitingAt : MethodName := ⟨RX9, "waitingAt", "(I)I"⟩
abbrev cX9_upAt : ByteArray := prog_11_method_8_code
def yX9_upAt : MethodName := ⟨RX9, "upAt", "(I)I"⟩
abbrev cX9_copies : ByteArray := prog_11_method_9_code
def yX9_copies : MethodName := ⟨RX9, "copies", "(II)V"⟩
abbrev cX9_moved : ByteArray := prog_11_method_10_code
def yX9_moved : MethodName := ⟨RX9, "moved", "(IIIIZ)I"⟩
abbrev cX9_crosses : ByteArray := prog_11_method_11_code
def yX9_crosses : MethodName := ⟨RX9, "crosses", "(II)V"⟩
abbrev cX9_shifts : ByteArray := prog_11_method_12_code
def yX9_shifts : MethodName := ⟨RX9, "shifts", "(II)V"⟩
abbrev cX9_carriesOut : ByteArray := prog_11_method_13_code
def yX9_carriesOut : MethodName := ⟨RX9, "carriesOut", "(II)V"⟩
abbrev cX9_follows : ByteArray := prog_11_method_14_code
def yX9_follows : MethodName := ⟨RX9, "follows", "(II)I"⟩
abbrev cX9_behind : ByteArray := prog_11_method_15_code
def yX9_behind : MethodName := ⟨RX9, "behind", "(I)I"⟩
abbrev cX9_movesKept : ByteArray := prog_11_method_16_code
def yX9_movesKept : MethodName := ⟨RX9, "movesKept", "(II)V"⟩
abbrev cX9_sends : ByteArray := prog_11_method_17_code
def yX9_sends : MethodName := ⟨RX9, "sends", "(II)V"⟩
abbrev cX9_makes : ByteArray := prog_11_method_18_code
def yX9_makes : MethodName := ⟨RX9, "makes", "(IIIIZ)V"⟩
abbrev cX9_isCharacter : ByteArray := prog_11_method_19_code
def yX9_isCharacter : MethodName := ⟨RX9, "isCharacter", "(I)Z"⟩
abbrev cX9_isFull : ByteArray := prog_11_method_20_code
def yX9_isFull : MethodName := ⟨RX9, "isFull", "(I)Z"⟩
abbrev cX9_insert : ByteArray := prog_11_method_21_code
def yX9_insert : MethodName := ⟨RX9, "insert", "(IIC)I"⟩
abbrev cX9_codeAt : ByteArray := prog_11_method_22_code
def yX9_codeAt : MethodName := ⟨RX9, "codeAt", "(II)I"⟩
abbrev cX9_delete : ByteArray := prog_11_method_23_code
def yX9_delete : MethodName := ⟨RX9, "delete", "(II)C"⟩
abbrev cX9_type : ByteArray := prog_11_method_24_code
def yX9_type : MethodName := ⟨RX9, "type", "(IC)I"⟩
abbrev cX9_erase : ByteArray := prog_11_method_25_code
def yX9_erase : MethodName := ⟨RX9, "erase", "(I)C"⟩
abbrev cX9_moveCursor : ByteArray := prog_11_method_26_code
def yX9_moveCursor : MethodName := ⟨RX9, "moveCursor", "(II)I"⟩
abbrev cX9_find : ByteArray := prog_11_method_27_code
def yX9_find : MethodName := ⟨RX9, "find", "(II)I"⟩
abbrev cX9_undo : ByteArray := prog_11_method_28_code
def yX9_undo : MethodName := ⟨RX9, "undo", "(I)Z"⟩
abbrev cX9_enters : ByteArray := prog_11_method_29_code
def yX9_enters : MethodName := ⟨RX9, "enters", "(I)V"⟩
abbrev cX9_deliverUp : ByteArray := prog_11_method_30_code
def yX9_deliverUp : MethodName := ⟨RX9, "deliverUp", "(I)I"⟩
abbrev cX9_goesOn : ByteArray := prog_11_method_31_code
def yX9_goesOn : MethodName := ⟨RX9, "goesOn", "(II)Z"⟩
abbrev cX9_run : ByteArray := prog_11_method_32_code
def yX9_run : MethodName := ⟨RX9, "run", "(II)I"⟩
abbrev cX9_forgetsNothings : ByteArray := prog_11_method_33_code
def yX9_forgetsNothings : MethodName := ⟨RX9, "forgetsNothings", "(I)V"⟩
abbrev cX9_gets : ByteArray := prog_11_method_34_code
def yX9_gets : MethodName := ⟨RX9, "gets", "(II)V"⟩
abbrev cX9_delivers : ByteArray := prog_11_method_35_code
def yX9_delivers : MethodName := ⟨RX9, "delivers", "(I)I"⟩
abbrev cX9_deliverDown : ByteArray := prog_11_method_36_code
def yX9_deliverDown : MethodName := ⟨RX9, "deliverDown", "(I)C"⟩
abbrev cX9_deliversOne : ByteArray := prog_11_method_37_code
def yX9_deliversOne : MethodName := ⟨RX9, "deliversOne", "()Z"⟩
abbrev cX9_deliverAll : ByteArray := prog_11_method_38_code
def yX9_deliverAll : MethodName := ⟨RX9, "deliverAll", "()I"⟩
abbrev cX9_length : ByteArray := prog_11_method_39_code
def yX9_length : MethodName := ⟨RX9, "length", "(I)I"⟩
abbrev cX9_notAt : ByteArray := prog_11_method_40_code
def yX9_notAt : MethodName := ⟨RX9, "notAt", "(II)I"⟩
abbrev cX9_charAt : ByteArray := prog_11_method_41_code
def yX9_charAt : MethodName := ⟨RX9, "charAt", "(II)C"⟩
abbrev cX9_ownerAt : ByteArray := prog_11_method_42_code
def yX9_ownerAt : MethodName := ⟨RX9, "ownerAt", "(II)I"⟩
abbrev cX9_lengthByHistory : ByteArray := prog_11_method_43_code
def yX9_lengthByHistory : MethodName := ⟨RX9, "lengthByHistory", "(I)I"⟩
abbrev cX9_charByHistory : ByteArray := prog_11_method_44_code
def yX9_charByHistory : MethodName := ⟨RX9, "charByHistory", "(II)C"⟩
abbrev cX9_centreLength : ByteArray := prog_11_method_45_code
def yX9_centreLength : MethodName := ⟨RX9, "centreLength", "()I"⟩
abbrev cX9_centreChar : ByteArray := prog_11_method_46_code
def yX9_centreChar : MethodName := ⟨RX9, "centreChar", "(I)C"⟩
abbrev cX9_cursor : ByteArray := prog_11_method_47_code
def yX9_cursor : MethodName := ⟨RX9, "cursor", "(I)I"⟩
abbrev cX9_mark : ByteArray := prog_11_method_48_code
def yX9_mark : MethodName := ⟨RX9, "mark", "(I)I"⟩
abbrev cX9_revision : ByteArray := prog_11_method_49_code
def yX9_revision : MethodName := ⟨RX9, "revision", "(I)I"⟩
abbrev cX9_sent : ByteArray := prog_11_method_50_code
def yX9_sent : MethodName := ⟨RX9, "sent", "(I)I"⟩
abbrev cX9_waiting : ByteArray := prog_11_method_51_code
def yX9_waiting : MethodName := ⟨RX9, "waiting", "(I)I"⟩
abbrev cX9_runs : ByteArray := prog_11_method_52_code
def yX9_runs : MethodName := ⟨RX9, "runs", "(I)I"⟩
abbrev cX9_up : ByteArray := prog_11_method_53_code
def yX9_up : MethodName := ⟨RX9, "up", "(I)I"⟩
abbrev cX9_down : ByteArray := prog_11_method_54_code
def yX9_down : MethodName := ⟨RX9, "down", "(I)I"⟩
abbrev cX9_kept : ByteArray := prog_11_method_55_code
def yX9_kept : MethodName := ⟨RX9, "kept", "(I)I"⟩
abbrev cX9_centreRevision : ByteArray := prog_11_method_56_code
def yX9_centreRevision : MethodName := ⟨RX9, "centreRevision", "()I"⟩
abbrev cX9_isMessage : ByteArray := prog_11_method_57_code
def yX9_isMessage : MethodName := ⟨RX9, "isMessage", "(I)Z"⟩
abbrev cX9_historyEnd : ByteArray := prog_11_method_58_code
def yX9_historyEnd : MethodName := ⟨RX9, "historyEnd", "(I)I"⟩
abbrev cX9_historySize : ByteArray := prog_11_method_59_code
def yX9_historySize : MethodName := ⟨RX9, "historySize", "(I)I"⟩
abbrev cX9_notOf : ByteArray := prog_11_method_60_code
def yX9_notOf : MethodName := ⟨RX9, "notOf", "(II)I"⟩
abbrev cX9_historyKind : ByteArray := prog_11_method_61_code
def yX9_historyKind : MethodName := ⟨RX9, "historyKind", "(II)C"⟩
abbrev cX9_historyPosition : ByteArray := prog_11_method_62_code
def yX9_historyPosition : MethodName := ⟨RX9, "historyPosition", "(II)I"⟩
abbrev cX9_areSame : ByteArray := prog_11_method_63_code
def yX9_areSame : MethodName := ⟨RX9, "areSame", "(II)Z"⟩
abbrev cX9_agree : ByteArray := prog_11_method_64_code
def yX9_agree : MethodName := ⟨RX9, "agree", "()Z"⟩
abbrev cX9_distance : ByteArray := prog_11_method_65_code
def yX9_distance : MethodName := ⟨RX9, "distance", "()I"⟩
abbrev cX9_distanceByWays : ByteArray := prog_11_method_66_code
def yX9_distanceByWays : MethodName := ⟨RX9, "distanceByWays", "()I"⟩
abbrev cX9_ownShare : ByteArray := prog_11_method_67_code
def yX9_ownShare : MethodName := ⟨RX9, "ownShare", "(I)F"⟩
abbrev cX9_meanRun : ByteArray := prog_11_method_68_code
def yX9_meanRun : MethodName := ⟨RX9, "meanRun", "()D"⟩
abbrev cX9_textNumber : ByteArray := prog_11_method_69_code
def yX9_textNumber : MethodName := ⟨RX9, "textNumber", "(I)J"⟩
def RJx145de : String := "java/io/Serializable"
def TJx145de : u_T := fun k => match k with
  | _ => ("", "", "", false)
def tyJx145de : Nat → FieldType := fun k => match k with
  | _ => .int
abbrev wsJx145de0 : List Cond := u_ws RJx145de TJx145de 0
theorem nmJx145de : ∀ a, a < 0 → ∀ b, b < 0 → a ≠ b → (TJx145de a).2.1 ≠ (TJx145de b).2.1 := by decide +kernel
theorem tyJx145de_ok : ∀ k, k < 0 → parseFieldDescriptor (TJx145de k).2.2.1 = some (tyJx145de k) := by decide +kernel
def RJ5 : String := "java/lang/AbstractStringBuilder"
def TJ5 : u_T := fun k => match k with
  | _ => ("", "", "", false)
def tyJ5 : Nat → FieldType := fun k => match k with
  | _ => .int
abbrev wsJ50 : List Cond := u_ws RJ5 TJ5 0
theorem nmJ5 : ∀ a, a < 0 → ∀ b, b < 0 → a ≠ b → (TJ5 a).2.1 ≠ (TJ5 b).2.1 := by decide +kernel
theorem tyJ5_ok : ∀ k, k < 0 → parseFieldDescriptor (TJ5 k).2.2.1 = some (tyJ5 k) := by decide +kernel
abbrev cJ5_init_d00df : ByteArray := prog_13_method_2_code
def yJ5_init_d00df : MethodName := ⟨RJ5, "<init>", "(I)V"⟩
abbrev cJ5_length_8abf5 : ByteArray := prog_13_method_6_code
def yJ5_length_8abf5 : MethodName := ⟨RJ5, "length", "()I"⟩
abbrev cJ5_ensureCapacityInternal_d00df : ByteArray := prog_13_method_9_code
def yJ5_ensureCapacityInternal_d00df : MethodName := ⟨RJ5, "ensureCapacityInternal", "(I)V"⟩
abbrev cJ5_newCapacity_0f7a4 : ByteArray := prog_13_method_10_code
def yJ5_newCapacity_0f7a4 : MethodName := ⟨RJ5, "newCapacity", "(I)I"⟩
abbrev cJ5_inflate_da8c8 : ByteArray := prog_13_method_11_code
def yJ5_inflate_da8c8 : MethodName := ⟨RJ5, "inflate", "()V"⟩
abbrev cJ5_append_cf1ce : ByteArray := prog_13_method_22_code
def yJ5_append_cf1ce : MethodName := ⟨RJ5, "append", "(Ljava/lang/String;)Ljava/lang/AbstractStringBuilder;"⟩
abbrev cJ5_appendNull_278bc : ByteArray := prog_13_method_26_code
def yJ5_appendNull_278bc : MethodName := ⟨RJ5, "appendNull", "()Ljava/lang/AbstractStringBuilder;"⟩
abbrev cJ5_append_c97b9 : ByteArray := prog_13_method_32_code
def yJ5_append_c97b9 : MethodName := ⟨RJ5, "append", "(I)Ljava/lang/AbstractStringBuilder;"⟩
abbrev cJ5_getValue_6d5f1 : ByteArray := prog_13_method_64_code
def yJ5_getValue_6d5f1 : MethodName := ⟨RJ5, "getValue", "()[B"⟩
abbrev cJ5_isLatin1_aae02 : ByteArray := prog_13_method_68_code
def yJ5_isLatin1_aae02 : MethodName := ⟨RJ5, "isLatin1", "()Z"⟩
abbrev cJ5_inflateIfNeededFor_a7421 : ByteArray := prog_13_method_71_code
def yJ5_inflateIfNeededFor_a7421 : MethodName := ⟨RJ5, "inflateIfNeededFor", "(Ljava/lang/String;)V"⟩
abbrev cJ5_putStringAt_47b60 : ByteArray := prog_13_method_73_code
def yJ5_putStringAt_47b60 : MethodName := ⟨RJ5, "putStringAt", "(ILjava/lang/String;)V"⟩
def RJx2cfe8 : String := "java/lang/Appendable"
def TJx2cfe8 : u_T := fun k => match k with
  | _ => ("", "", "", false)
def tyJx2cfe8 : Nat → FieldType := fun k => match k with
  | _ => .int
abbrev wsJx2cfe80 : List Cond := u_ws RJx2cfe8 TJx2cfe8 0
theorem nmJx2cfe8 : ∀ a, a < 0 → ∀ b, b < 0 → a ≠ b → (TJx2cfe8 a).2.1 ≠ (TJx2cfe8 b).2.1 := by decide +kernel
theorem tyJx2cfe8_ok : ∀ k, k < 0 → parseFieldDescriptor (TJx2cfe8 k).2.2.1 = some (tyJx2cfe8 k) := by decide +kernel
def RJx00060 : String := "java/lang/ArrayIndexOutOfBoundsException"
def TJx00060 : u_T := fun k => match k with
  | 0 => ("java/lang/Throwable", "backtrace", "Ljava/lang/Object;", false)
  | 1 => ("java/lang/Throwable", "detailMessage", "Ljava/lang/String;", false)
  | 2 => ("java/lang/Throwable", "cause", "Ljava/lang/Throwable;", false)
  | 3 => ("java/lang/Throwable", "stackTrace", "[Ljava/lang/StackTraceElement;", false)
  | 4 => ("java/lang/Throwable", "depth", "I", false)
  | _ => ("java/lang/Throwable", "suppressedExceptions", "Ljava/util/List;", false)
def tyJx00060 : Nat → FieldType := fun k => match k with
  | 0 => .object "java/lang/Object"
  | 1 => .object "java/lang/String"
  | 2 => .object "java/lang/Throwable"
  | 3 => .array (.object "java/lang/StackTraceElement")
  | 4 => .int
  | _ => .object "java/util/List"
abbrev wsJx000600 : List Cond := u_ws RJx00060 TJx00060 6
theorem nmJx00060 : ∀ a, a < 6 → ∀ b, b < 6 → a ≠ b → (TJx00060 a).2.1 ≠ (TJx00060 b).2.1 := by decide +kernel
theorem tyJx00060_ok : ∀ k, k < 6 → parseFieldDescriptor (TJx00060 k).2.2.1 = some (tyJx00060 k) := by decide +kernel
abbrev cJx00060_init_a7421 : ByteArray := prog_16_method_2_code
def yJx00060_init_a7421 : MethodName := ⟨RJx00060, "<init>", "(Ljava/lang/String;)V"⟩
def RJx9f9b0 : String := "java/lang/CharSequence"
def TJx9f9b0 : u_T := fun k => match k with
  | _ => ("", "", "", false)
def tyJx9f9b0 : Nat → FieldType := fun k => match k with
  | _ => .int
abbrev wsJx9f9b00 : List Cond := u_ws RJx9f9b0 TJx9f9b0 0
theorem nmJx9f9b0 : ∀ a, a < 0 → ∀ b, b < 0 → a ≠ b → (TJx9f9b0 a).2.1 ≠ (TJx9f9b0 b).2.1 := by decide +kernel
theorem tyJx9f9b0_ok : ∀ k, k < 0 → parseFieldDescriptor (TJx9f9b0 k).2.2.1 = some (tyJx9f9b0 k) := by decide +kernel
def RJx8e188 : String := "java/lang/Cloneable"
def TJx8e188 : u_T := fun k => match k with
  | _ => ("", "", "", false)
def tyJx8e188 : Nat → FieldType := fun k => match k with
  | _ => .int
abbrev wsJx8e1880 : List Cond := u_ws RJx8e188 TJx8e188 0
theorem nmJx8e188 : ∀ a, a < 0 → ∀ b, b < 0 → a ≠ b → (TJx8e188 a).2.1 ≠ (TJx8e188 b).2.1 := by decide +kernel
theorem tyJx8e188_ok : ∀ k, k < 0 → parseFieldDescriptor (TJx8e188 k).2.2.1 = some (tyJx8e188 k) := by decide +kernel
def RJxb160c : String := "java/lang/Comparable"
def TJxb160c : u_T := fun k => match k with
  | _ => ("", "", "", false)
def tyJxb160c : Nat → FieldType := fun k => match k with
  | _ => .int
abbrev wsJxb160c0 : List Cond := u_ws RJxb160c TJxb160c 0
theorem nmJxb160c : ∀ a, a < 0 → ∀ b, b < 0 → a ≠ b → (TJxb160c a).2.1 ≠ (TJxb160c b).2.1 := by decide +kernel
theorem tyJxb160c_ok : ∀ k, k < 0 → parseFieldDescriptor (TJxb160c k).2.2.1 = some (tyJxb160c k) := by decide +kernel
def RJ6 : String := "java/lang/Integer"
def TJ6 : u_T := fun k => match k with
  | _ => ("", "", "", false)
def tyJ6 : Nat → FieldType := fun k => match k with
  | _ => .int
abbrev wsJ60 : List Cond := u_ws RJ6 TJ6 0
theorem nmJ6 : ∀ a, a < 0 → ∀ b, b < 0 → a ≠ b → (TJ6 a).2.1 ≠ (TJ6 b).2.1 := by decide +kernel
theorem tyJ6_ok : ∀ k, k < 0 → parseFieldDescriptor (TJ6 k).2.2.1 = some (tyJ6 k) := by decide +kernel
abbrev cJ6_getChars_ba4f3 : ByteArray := prog_24_method_12_code
def yJ6_getChars_ba4f3 : MethodName := ⟨RJ6, "getChars", "(II[B)I"⟩
abbrev cJ6_stringSize_0f7a4 : ByteArray := prog_24_method_13_code
def yJ6_stringSize_0f7a4 : MethodName := ⟨RJ6, "stringSize", "(I)I"⟩
def RJxab1ab : String := "java/lang/Iterable"
def TJxab1ab : u_T := fun k => match k with
  | _ => ("", "", "", false)
def tyJxab1ab : Nat → FieldType := fun k => match k with
  | _ => .int
abbrev wsJxab1ab0 : List Cond := u_ws RJxab1ab TJxab1ab 0
theorem nmJxab1ab : ∀ a, a < 0 → ∀ b, b < 0 → a ≠ b → (TJxab1ab a).2.1 ≠ (TJxab1ab b).2.1 := by decide +kernel
theorem tyJxab1ab_ok : ∀ k, k < 0 → parseFieldDescriptor (TJxab1ab k).2.2.1 = some (tyJxab1ab k) := by decide +kernel
def RJ9 : String := "java/lang/Math"
def TJ9 : u_T := fun k => match k with
  | _ => ("", "", "", false)
def tyJ9 : Nat → FieldType := fun k => match k with
  | _ => .int
abbrev wsJ90 : List Cond := u_ws RJ9 TJ9 0
theorem nmJ9 : ∀ a, a < 0 → ∀ b, b < 0 → a ≠ b → (TJ9 a).2.1 ≠ (TJ9 b).2.1 := by decide +kernel
theorem tyJ9_ok : ∀ k, k < 0 → parseFieldDescriptor (TJ9 k).2.2.1 = some (tyJ9 k) := by decide +kernel
abbrev cJ9_max_7cf53 : ByteArray := prog_26_method_65_code
def yJ9_max_7cf53 : MethodName := ⟨RJ9, "max", "(II)I"⟩
abbrev cJ9_min_7cf53 : ByteArray := prog_26_method_69_code
def yJ9_min_7cf53 : MethodName := ⟨RJ9, "min", "(II)I"⟩
def RJxd2413 : String := "java/lang/Number"
def TJxd2413 : u_T := fun k => match k with
  | _ => ("", "", "", false)
def tyJxd2413 : Nat → FieldType := fun k => match k with
  | _ => .int
abbrev wsJxd24130 : List Cond := u_ws RJxd2413 TJxd2413 0
theorem nmJxd2413 : ∀ a, a < 0 → ∀ b, b < 0 → a ≠ b → (TJxd2413 a).2.1 ≠ (TJxd2413 b).2.1 := by decide +kernel
theorem tyJxd2413_ok : ∀ k, k < 0 → parseFieldDescriptor (TJxd2413 k).2.2.1 = some (tyJxd2413 k) := by decide +kernel
def RJ0 : String := "java/lang/String"
def TJ0 : u_T := fun k => match k with
  | 0 => ("java/lang/String", "value", "[B", true)
  | 1 => ("java/lang/String", "coder", "B", true)
  | 2 => ("java/lang/String", "hash", "I", false)
  | _ => ("java/lang/String", "hashIsZero", "Z", false)
def tyJ0 : Nat → FieldType := fun k => match k with
  | 0 => .array .byte
  | 1 => .byte
  | 2 => .int
  | _ => .boolean
abbrev wsJ00 : List Cond := u_ws RJ0 TJ0 4
theorem nmJ0 : ∀ a, a < 4 → ∀ b, b < 4 → a ≠ b → (TJ0 a).2.1 ≠ (TJ0 b).2.1 := by decide +kernel
theorem tyJ0_ok : ∀ k, k < 4 → parseFieldDescriptor (TJ0 k).2.2.1 = some (tyJ0 k) := by decide +kernel
abbrev cJ0_init_81219 : ByteArray := prog_29_method_53_code
def yJ0_init_81219 : MethodName := ⟨RJ0, "<init>", "(Ljava/lang/StringBuilder;)V"⟩
abbrev cJ0_length_8abf5 : ByteArray := prog_29_method_54_code
def yJ0_length_8abf5 : MethodName := ⟨RJ0, "length", "()I"⟩
abbrev cJ0_getBytes_840e7 : ByteArray := prog_29_method_147_code
def yJ0_getBytes_840e7 : MethodName := ⟨RJ0, "getBytes", "([BIB)V"⟩
abbrev cJ0_init_db425 : ByteArray := prog_29_method_150_code
def yJ0_init_db425 : MethodName := ⟨RJ0, "<init>", "(Ljava/lang/AbstractStringBuilder;Ljava/lang/Void;)V"⟩
abbrev cJ0_coder_7d493 : ByteArray := prog_29_method_152_code
def yJ0_coder_7d493 : MethodName := ⟨RJ0, "coder", "()B"⟩
abbrev cJ0_checkBoundsOffCount_cabcc : ByteArray := prog_29_method_157_code
def yJ0_checkBoundsOffCount_cabcc : MethodName := ⟨RJ0, "checkBoundsOffCount", "(III)I"⟩
abbrev cJ0_checkBoundsBeginEnd_23922 : ByteArray := prog_29_method_158_code
def yJ0_checkBoundsBeginEnd_23922 : MethodName := ⟨RJ0, "checkBoundsBeginEnd", "(III)V"⟩
def RJ4 : String := "java/lang/StringBuilder"
def TJ4 : u_T := fun k => match k with
  | 0 => ("java/lang/AbstractStringBuilder", "value", "[B", false)
  | 1 => ("java/lang/AbstractStringBuilder", "coder", "B", false)
  | 2 => ("java/lang/AbstractStringBuilder", "maybeLatin1", "Z", false)
  | _ => ("java/lang/AbstractStringBuilder", "count", "I", false)
def tyJ4 : Nat → FieldType := fun k => match k with
  | 0 => .array .byte
  | 1 => .byte
  | 2 => .boolean
  | _ => .int
abbrev wsJ40 : List Cond := u_ws RJ4 TJ4 4
theorem nmJ4 : ∀ a, a < 4 → ∀ b, b < 4 → a ≠ b → (TJ4 a).2.1 ≠ (TJ4 b).2.1 := by decide +kernel
theorem tyJ4_ok : ∀ k, k < 4 → parseFieldDescriptor (TJ4 k).2.2.1 = some (tyJ4 k) := by decide +kernel
abbrev cJ4_init_da8c8 : ByteArray := prog_30_method_1_code
def yJ4_init_da8c8 : MethodName := ⟨RJ4, "<init>", "()V"⟩
abbrev cJ4_append_15ec4 : ByteArray := prog_30_method_7_code
def yJ4_append_15ec4 : MethodName := ⟨RJ4, "append", "(Ljava/lang/String;)Ljava/lang/StringBuilder;"⟩
abbrev cJ4_append_bf812 : ByteArray := prog_30_method_15_code
def yJ4_append_bf812 : MethodName := ⟨RJ4, "append", "(I)Ljava/lang/StringBuilder;"⟩
abbrev cJ4_toString_0e30d : ByteArray := prog_30_method_42_code
def yJ4_toString_0e30d : MethodName := ⟨RJ4, "toString", "()Ljava/lang/String;"⟩
abbrev cJ4_length_8abf5 : ByteArray := prog_30_method_93_code
def yJ4_length_8abf5 : MethodName := ⟨RJ4, "length", "()I"⟩
def RJ1 : String := "java/lang/StringLatin1"
def TJ1 : u_T := fun k => match k with
  | _ => ("", "", "", false)
def tyJ1 : Nat → FieldType := fun k => match k with
  | _ => .int
abbrev wsJ10 : List Cond := u_ws RJ1 TJ1 0
theorem nmJ1 : ∀ a, a < 0 → ∀ b, b < 0 → a ≠ b → (TJ1 a).2.1 ≠ (TJ1 b).2.1 := by decide +kernel
theorem tyJ1_ok : ∀ k, k < 0 → parseFieldDescriptor (TJ1 k).2.2.1 = some (tyJ1 k) := by decide +kernel
abbrev cJ1_inflate_0e8fd : ByteArray := prog_31_method_50_code
def yJ1_inflate_0e8fd : MethodName := ⟨RJ1, "inflate", "([BI[BII)V"⟩
def RJ2 : String := "java/lang/StringUTF16"
def TJ2 : u_T := fun k => match k with
  | _ => ("", "", "", false)
def tyJ2 : Nat → FieldType := fun k => match k with
  | _ => .int
abbrev wsJ20 : List Cond := u_ws RJ2 TJ2 0
theorem nmJ2 : ∀ a, a < 0 → ∀ b, b < 0 → a ≠ b → (TJ2 a).2.1 ≠ (TJ2 b).2.1 := by decide +kernel
theorem tyJ2_ok : ∀ k, k < 0 → parseFieldDescriptor (TJ2 k).2.2.1 = some (tyJ2 k) := by decide +kernel
abbrev cJ2_newBytesFor_77867 : ByteArray := prog_32_method_2_code
def yJ2_newBytesFor_77867 : MethodName := ⟨RJ2, "newBytesFor", "(I)[B"⟩
abbrev cJ2_newBytesLength_0f7a4 : ByteArray := prog_32_method_3_code
def yJ2_newBytesLength_0f7a4 : MethodName := ⟨RJ2, "newBytesLength", "(I)I"⟩
abbrev cJ2_putChar_b72d1 : ByteArray := prog_32_method_4_code
def yJ2_putChar_b72d1 : MethodName := ⟨RJ2, "putChar", "([BII)V"⟩
abbrev cJ2_getChar_3b067 : ByteArray := prog_32_method_5_code
def yJ2_getChar_3b067 : MethodName := ⟨RJ2, "getChar", "([BI)C"⟩
abbrev cJ2_length_9d52b : ByteArray := prog_32_method_6_code
def yJ2_length_9d52b : MethodName := ⟨RJ2, "length", "([B)I"⟩
abbrev cJ2_coderFromArrayLen_85cad : ByteArray := prog_32_method_15_code
def yJ2_coderFromArrayLen_85cad : MethodName := ⟨RJ2, "coderFromArrayLen", "([BI)B"⟩
abbrev cJ2_compress_39247 : ByteArray := prog_32_method_17_code
def yJ2_compress_39247 : MethodName := ⟨RJ2, "compress", "([BII)[B"⟩
abbrev cJ2_compress_5af95 : ByteArray := prog_32_method_22_code
def yJ2_compress_5af95 : MethodName := ⟨RJ2, "compress", "([BI[BII)I"⟩
abbrev cJ2_getChars_46870 : ByteArray := prog_32_method_77_code
def yJ2_getChars_46870 : MethodName := ⟨RJ2, "getChars", "(III[B)I"⟩
abbrev cJ2_putCharsAt_cd4e5 : ByteArray := prog_32_method_81_code
def yJ2_putCharsAt_cd4e5 : MethodName := ⟨RJ2, "putCharsAt", "([BICCCC)I"⟩
abbrev cJ2_inflate_0e8fd : ByteArray := prog_32_method_86_code
def yJ2_inflate_0e8fd : MethodName := ⟨RJ2, "inflate", "([BI[BII)V"⟩
abbrev cJ2_getChars_ba4f3 : ByteArray := prog_32_method_89_code
def yJ2_getChars_ba4f3 : MethodName := ⟨RJ2, "getChars", "(II[B)I"⟩
abbrev cJ2_checkBoundsBeginEnd_d044e : ByteArray := prog_32_method_93_code
def yJ2_checkBoundsBeginEnd_d044e : MethodName := ⟨RJ2, "checkBoundsBeginEnd", "(II[B)V"⟩
abbrev cJ2_checkBoundsOffCount_d044e : ByteArray := prog_32_method_94_code
def yJ2_checkBoundsOffCount_d044e : MethodName := ⟨RJ2, "checkBoundsOffCount", "(II[B)V"⟩
def RJ10 : String := "java/lang/System"
def TJ10 : u_T := fun k => match k with
  | _ => ("", "", "", false)
def tyJ10 : Nat → FieldType := fun k => match k with
  | _ => .int
abbrev wsJ100 : List Cond := u_ws RJ10 TJ10 0
theorem nmJ10 : ∀ a, a < 0 → ∀ b, b < 0 → a ≠ b → (TJ10 a).2.1 ≠ (TJ10 b).2.1 := by decide +kernel
theorem tyJ10_ok : ∀ k, k < 0 → parseFieldDescriptor (TJ10 k).2.2.1 = some (tyJ10 k) := by decide +kernel
def RJxfd54e : String := "java/lang/constant/Constable"
def TJxfd54e : u_T := fun k => match k with
  | _ => ("", "", "", false)
def tyJxfd54e : Nat → FieldType := fun k => match k with
  | _ => .int
abbrev wsJxfd54e0 : List Cond := u_ws RJxfd54e TJxfd54e 0
theorem nmJxfd54e : ∀ a, a < 0 → ∀ b, b < 0 → a ≠ b → (TJxfd54e a).2.1 ≠ (TJxfd54e b).2.1 := by decide +kernel
theorem tyJxfd54e_ok : ∀ k, k < 0 → parseFieldDescriptor (TJxfd54e k).2.2.1 = some (tyJxfd54e k) := by decide +kernel
def RJx3cf43 : String := "java/lang/constant/ConstantDesc"
def TJx3cf43 : u_T := fun k => match k with
  | _ => ("", "", "", false)
def tyJx3cf43 : Nat → FieldType := fun k => match k with
  | _ => .int
abbrev wsJx3cf430 : List Cond := u_ws RJx3cf43 TJx3cf43 0
theorem nmJx3cf43 : ∀ a, a < 0 → ∀ b, b < 0 → a ≠ b → (TJx3cf43 a).2.1 ≠ (TJx3cf43 b).2.1 := by decide +kernel
theorem tyJx3cf43_ok : ∀ k, k < 0 → parseFieldDescriptor (TJx3cf43 k).2.2.1 = some (tyJx3cf43 k) := by decide +kernel
def RJxa1e45 : String := "java/util/AbstractCollection"
def TJxa1e45 : u_T := fun k => match k with
  | _ => ("", "", "", false)
def tyJxa1e45 : Nat → FieldType := fun k => match k with
  | _ => .int
abbrev wsJxa1e450 : List Cond := u_ws RJxa1e45 TJxa1e45 0
theorem nmJxa1e45 : ∀ a, a < 0 → ∀ b, b < 0 → a ≠ b → (TJxa1e45 a).2.1 ≠ (TJxa1e45 b).2.1 := by decide +kernel
theorem tyJxa1e45_ok : ∀ k, k < 0 → parseFieldDescriptor (TJxa1e45 k).2.2.1 = some (tyJxa1e45 k) := by decide +kernel
abbrev cJxa1e45_init_da8c8 : ByteArray := prog_37_method_1_code
def yJxa1e45_init_da8c8 : MethodName := ⟨RJxa1e45, "<init>", "()V"⟩
def RJxc12de : String := "java/util/AbstractList"
def TJxc12de : u_T := fun k => match k with
  | _ => ("", "", "", false)
def tyJxc12de : Nat → FieldType := fun k => match k with
  | _ => .int
abbrev wsJxc12de0 : List Cond := u_ws RJxc12de TJxc12de 0
theorem nmJxc12de : ∀ a, a < 0 → ∀ b, b < 0 → a ≠ b → (TJxc12de a).2.1 ≠ (TJxc12de b).2.1 := by decide +kernel
theorem tyJxc12de_ok : ∀ k, k < 0 → parseFieldDescriptor (TJxc12de k).2.2.1 = some (tyJxc12de k) := by decide +kernel
abbrev cJxc12de_init_da8c8 : ByteArray := prog_38_method_1_code
def yJxc12de_init_da8c8 : MethodName := ⟨RJxc12de, "<init>", "()V"⟩
def RJx4a65c : String := "java/util/ArrayList"
def TJx4a65c : u_T := fun k => match k with
  | 0 => ("java/util/AbstractList", "modCount", "I", false)
  | 1 => ("java/util/ArrayList", "elementData", "[Ljava/lang/Object;", false)
  | _ => ("java/util/ArrayList", "size", "I", false)
def tyJx4a65c : Nat → FieldType := fun k => match k with
  | 0 => .int
  | 1 => .array (.object "java/lang/Object")
  | _ => .int
abbrev wsJx4a65c0 : List Cond := u_ws RJx4a65c TJx4a65c 3
theorem nmJx4a65c : ∀ a, a < 3 → ∀ b, b < 3 → a ≠ b → (TJx4a65c a).2.1 ≠ (TJx4a65c b).2.1 := by decide +kernel
theorem tyJx4a65c_ok : ∀ k, k < 3 → parseFieldDescriptor (TJx4a65c k).2.2.1 = some (tyJx4a65c k) := by decide +kernel
abbrev cJx4a65c_init_da8c8 : ByteArray := prog_39_method_2_code
def yJx4a65c_init_da8c8 : MethodName := ⟨RJx4a65c, "<init>", "()V"⟩
abbrev cJx4a65c_grow_92f84 : ByteArray := prog_39_method_6_code
def yJx4a65c_grow_92f84 : MethodName := ⟨RJx4a65c, "grow", "(I)[Ljava/lang/Object;"⟩
abbrev cJx4a65c_grow_d5877 : ByteArray := prog_39_method_7_code
def yJx4a65c_grow_d5877 : MethodName := ⟨RJx4a65c, "grow", "()[Ljava/lang/Object;"⟩
abbrev cJx4a65c_size_8abf5 : ByteArray := prog_39_method_8_code
def yJx4a65c_size_8abf5 : MethodName := ⟨RJx4a65c, "size", "()I"⟩
abbrev cJx4a65c_isEmpty_aae02 : ByteArray := prog_39_method_9_code
def yJx4a65c_isEmpty_aae02 : MethodName := ⟨RJx4a65c, "isEmpty", "()Z"⟩
abbrev cJx4a65c_elementData_915e3 : ByteArray := prog_39_method_18_code
def yJx4a65c_elementData_915e3 : MethodName := ⟨RJx4a65c, "elementData", "(I)Ljava/lang/Object;"⟩
abbrev cJx4a65c_get_915e3 : ByteArray := prog_39_method_20_code
def yJx4a65c_get_915e3 : MethodName := ⟨RJx4a65c, "get", "(I)Ljava/lang/Object;"⟩
abbrev cJx4a65c_add_72be8 : ByteArray := prog_39_method_24_code
def yJx4a65c_add_72be8 : MethodName := ⟨RJx4a65c, "add", "(Ljava/lang/Object;[Ljava/lang/Object;I)V"⟩
abbrev cJx4a65c_add_9ea2d : ByteArray := prog_39_method_25_code
def yJx4a65c_add_9ea2d : MethodName := ⟨RJx4a65c, "add", "(Ljava/lang/Object;)Z"⟩
abbrev cJx4a65c_add_7a177 : ByteArray := prog_39_method_26_code
def yJx4a65c_add_7a177 : MethodName := ⟨RJx4a65c, "add", "(ILjava/lang/Object;)V"⟩
abbrev cJx4a65c_remove_915e3 : ByteArray := prog_39_method_29_code
def yJx4a65c_remove_915e3 : MethodName := ⟨RJx4a65c, "remove", "(I)Ljava/lang/Object;"⟩
abbrev cJx4a65c_fastRemove_b59b0 : ByteArray := prog_39_method_39_code
def yJx4a65c_fastRemove_b59b0 : MethodName := ⟨RJx4a65c, "fastRemove", "([Ljava/lang/Object;I)V"⟩
abbrev cJx4a65c_clear_da8c8 : ByteArray := prog_39_method_40_code
def yJx4a65c_clear_da8c8 : MethodName := ⟨RJx4a65c, "clear", "()V"⟩
abbrev cJx4a65c_rangeCheckForAdd_d00df : ByteArray := prog_39_method_45_code
def yJx4a65c_rangeCheckForAdd_d00df : MethodName := ⟨RJx4a65c, "rangeCheckForAdd", "(I)V"⟩
abbrev cJx4a65c_outOfBoundsMsg_b52d3 : ByteArray := prog_39_method_46_code
def yJx4a65c_outOfBoundsMsg_b52d3 : MethodName := ⟨RJx4a65c, "outOfBoundsMsg", "(I)Ljava/lang/String;"⟩
def RJ7 : String := "java/util/Arrays"
def TJ7 : u_T := fun k => match k with
  | _ => ("", "", "", false)
def tyJ7 : Nat → FieldType := fun k => match k with
  | _ => .int
abbrev wsJ70 : List Cond := u_ws RJ7 TJ7 0
theorem nmJ7 : ∀ a, a < 0 → ∀ b, b < 0 → a ≠ b → (TJ7 a).2.1 ≠ (TJ7 b).2.1 := by decide +kernel
theorem tyJ7_ok : ∀ k, k < 0 → parseFieldDescriptor (TJ7 k).2.2.1 = some (tyJ7 k) := by decide +kernel
abbrev cJ7_copyOf_1904c : ByteArray := prog_40_method_119_code
def yJ7_copyOf_1904c : MethodName := ⟨RJ7, "copyOf", "([Ljava/lang/Object;I)[Ljava/lang/Object;"⟩
abbrev cJ7_copyOf_6403c : ByteArray := prog_40_method_120_code
def yJ7_copyOf_6403c : MethodName := ⟨RJ7, "copyOf", "([Ljava/lang/Object;ILjava/lang/Class;)[Ljava/lang/Object;"⟩
abbrev cJ7_copyOf_9075b : ByteArray := prog_40_method_121_code
def yJ7_copyOf_9075b : MethodName := ⟨RJ7, "copyOf", "([BI)[B"⟩
abbrev cJ7_checkLength_df160 : ByteArray := prog_40_method_131_code
def yJ7_checkLength_df160 : MethodName := ⟨RJ7, "checkLength", "(II)V"⟩
abbrev cJ7_copyOfRange_39247 : ByteArray := prog_40_method_132_code
def yJ7_copyOfRange_39247 : MethodName := ⟨RJ7, "copyOfRange", "([BII)[B"⟩
abbrev cJ7_copyOfRangeByte_39247 : ByteArray := prog_40_method_133_code
def yJ7_copyOfRangeByte_39247 : MethodName := ⟨RJ7, "copyOfRangeByte", "([BII)[B"⟩
def RJx5ef63 : String := "java/util/Collection"
def TJx5ef63 : u_T := fun k => match k with
  | _ => ("", "", "", false)
def tyJx5ef63 : Nat → FieldType := fun k => match k with
  | _ => .int
abbrev wsJx5ef630 : List Cond := u_ws RJx5ef63 TJx5ef63 0
theorem nmJx5ef63 : ∀ a, a < 0 → ∀ b, b < 0 → a ≠ b → (TJx5ef63 a).2.1 ≠ (TJx5ef63 b).2.1 := by decide +kernel
theorem tyJx5ef63_ok : ∀ k, k < 0 → parseFieldDescriptor (TJx5ef63 k).2.2.1 = some (tyJx5ef63 k) := by decide +kernel
def RJxbd725 : String := "java/util/List"
def TJxbd725 : u_T := fun k => match k with
  | _ => ("", "", "", false)
def tyJxbd725 : Nat → FieldType := fun k => match k with
  | _ => .int
abbrev wsJxbd7250 : List Cond := u_ws RJxbd725 TJxbd725 0
theorem nmJxbd725 : ∀ a, a < 0 → ∀ b, b < 0 → a ≠ b → (TJxbd725 a).2.1 ≠ (TJxbd725 b).2.1 := by decide +kernel
theorem tyJxbd725_ok : ∀ k, k < 0 → parseFieldDescriptor (TJxbd725 k).2.2.1 = some (tyJxbd725 k) := by decide +kernel
def RJ15 : String := "java/util/Objects"
def TJ15 : u_T := fun k => match k with
  | _ => ("", "", "", false)
def tyJ15 : Nat → FieldType := fun k => match k with
  | _ => .int
abbrev wsJ150 : List Cond := u_ws RJ15 TJ15 0
theorem nmJ15 : ∀ a, a < 0 → ∀ b, b < 0 → a ≠ b → (TJ15 a).2.1 ≠ (TJ15 b).2.1 := by decide +kernel
theorem tyJ15_ok : ∀ k, k < 0 → parseFieldDescriptor (TJ15 k).2.2.1 = some (tyJ15 k) := by decide +kernel
abbrev cJ15_checkIndex_7cf53 : ByteArray := prog_44_method_17_code
def yJ15_checkIndex_7cf53 : MethodName := ⟨RJ15, "checkIndex", "(II)I"⟩
def RJxf0a74 : String := "java/util/RandomAccess"
def TJxf0a74 : u_T := fun k => match k with
  | _ => ("", "", "", false)
def tyJxf0a74 : Nat → FieldType := fun k => match k with
  | _ => .int
abbrev wsJxf0a740 : List Cond := u_ws RJxf0a74 TJxf0a74 0
theorem nmJxf0a74 : ∀ a, a < 0 → ∀ b, b < 0 → a ≠ b → (TJxf0a74 a).2.1 ≠ (TJxf0a74 b).2.1 := by decide +kernel
theorem tyJxf0a74_ok : ∀ k, k < 0 → parseFieldDescriptor (TJxf0a74 k).2.2.1 = some (tyJxf0a74 k) := by decide +kernel
def RJxa66e6 : String := "java/util/SequencedCollection"
def TJxa66e6 : u_T := fun k => match k with
  | _ => ("", "", "", false)
def tyJxa66e6 : Nat → FieldType := fun k => match k with
  | _ => .int
abbrev wsJxa66e60 : List Cond := u_ws RJxa66e6 TJxa66e6 0
theorem nmJxa66e6 : ∀ a, a < 0 → ∀ b, b < 0 → a ≠ b → (TJxa66e6 a).2.1 ≠ (TJxa66e6 b).2.1 := by decide +kernel
theorem tyJxa66e6_ok : ∀ k, k < 0 → parseFieldDescriptor (TJxa66e6 k).2.2.1 = some (tyJxa66e6 k) := by decide +kernel
def RJ8 : String := "jdk/internal/util/ArraysSupport"
def TJ8 : u_T := fun k => match k with
  | _ => ("", "", "", false)
def tyJ8 : Nat → FieldType := fun k => match k with
  | _ => .int
abbrev wsJ80 : List Cond := u_ws RJ8 TJ8 0
theorem nmJ8 : ∀ a, a < 0 → ∀ b, b < 0 → a ≠ b → (TJ8 a).2.1 ≠ (TJ8 b).2.1 := by decide +kernel
theorem tyJ8_ok : ∀ k, k < 0 → parseFieldDescriptor (TJ8 k).2.2.1 = some (tyJ8 k) := by decide +kernel
abbrev cJ8_newLength_cabcc : ByteArray := prog_47_method_27_code
def yJ8_newLength_cabcc : MethodName := ⟨RJ8, "newLength", "(III)I"⟩
abbrev cJ8_hugeLength_7cf53 : ByteArray := prog_47_method_28_code
def yJ8_hugeLength_7cf53 : MethodName := ⟨RJ8, "hugeLength", "(II)I"⟩
def RJ3 : String := "jdk/internal/util/Preconditions"
def TJ3 : u_T := fun k => match k with
  | _ => ("", "", "", false)
def tyJ3 : Nat → FieldType := fun k => match k with
  | _ => .int
abbrev wsJ30 : List Cond := u_ws RJ3 TJ3 0
theorem nmJ3 : ∀ a, a < 0 → ∀ b, b < 0 → a ≠ b → (TJ3 a).2.1 ≠ (TJ3 b).2.1 := by decide +kernel
theorem tyJ3_ok : ∀ k, k < 0 → parseFieldDescriptor (TJ3 k).2.2.1 = some (tyJ3 k) := by decide +kernel
abbrev cJ3_checkIndex_8e157 : ByteArray := prog_48_method_11_code
def yJ3_checkIndex_8e157 : MethodName := ⟨RJ3, "checkIndex", "(IILjava/util/function/BiFunction;)I"⟩
abbrev cJ3_checkFromToIndex_8c36e : ByteArray := prog_48_method_12_code
def yJ3_checkFromToIndex_8c36e : MethodName := ⟨RJ3, "checkFromToIndex", "(IIILjava/util/function/BiFunction;)I"⟩
abbrev cJ3_checkFromIndexSize_8c36e : ByteArray := prog_48_method_13_code
def yJ3_checkFromIndexSize_8c36e : MethodName := ⟨RJ3, "checkFromIndexSize", "(IIILjava/util/function/BiFunction;)I"⟩
def RL : String := "CoupletLaw"
abbrev cL_insert : ByteArray := method_3_code
def yL_insert : MethodName := ⟨RL, "insert", "(LCouplet;IIC[J)I"⟩
abbrev cL_delete : ByteArray := method_4_code
def yL_delete : MethodName := ⟨RL, "delete", "(LCouplet;II[J)I"⟩
abbrev cL_type : ByteArray := method_5_code
def yL_type : MethodName := ⟨RL, "type", "(LCouplet;IC[J)I"⟩
abbrev cL_erase : ByteArray := method_6_code
def yL_erase : MethodName := ⟨RL, "erase", "(LCouplet;I[J)I"⟩
abbrev cL_moveCursor : ByteArray := method_7_code
def yL_moveCursor : MethodName := ⟨RL, "moveCursor", "(LCouplet;II[J)I"⟩
abbrev cL_undo : ByteArray := method_8_code
def yL_undo : MethodName := ⟨RL, "undo", "(LCouplet;I[J)I"⟩
abbrev cL_deliverUp : ByteArray := method_9_code
def yL_deliverUp : MethodName := ⟨RL, "deliverUp", "(LCouplet;I[J)I"⟩
abbrev cL_deliverDown : ByteArray := method_10_code
def yL_deliverDown : MethodName := ⟨RL, "deliverDown", "(LCouplet;I[J)I"⟩
abbrev cL_length : ByteArray := method_11_code
def yL_length : MethodName := ⟨RL, "length", "(LCouplet;I[J)I"⟩
abbrev cL_charAt : ByteArray := method_12_code
def yL_charAt : MethodName := ⟨RL, "charAt", "(LCouplet;II[J)I"⟩
abbrev cL_ownerAt : ByteArray := method_13_code
def yL_ownerAt : MethodName := ⟨RL, "ownerAt", "(LCouplet;II[J)I"⟩
abbrev cL_lengthByHistory : ByteArray := method_14_code
def yL_lengthByHistory : MethodName := ⟨RL, "lengthByHistory", "(LCouplet;I[J)I"⟩
abbrev cL_charByHistory : ByteArray := method_15_code
def yL_charByHistory : MethodName := ⟨RL, "charByHistory", "(LCouplet;II[J)I"⟩
abbrev cL_centreChar : ByteArray := method_16_code
def yL_centreChar : MethodName := ⟨RL, "centreChar", "(LCouplet;I[J)I"⟩
abbrev cL_cursor : ByteArray := method_17_code
def yL_cursor : MethodName := ⟨RL, "cursor", "(LCouplet;I[J)I"⟩
abbrev cL_mark : ByteArray := method_18_code
def yL_mark : MethodName := ⟨RL, "mark", "(LCouplet;I[J)I"⟩
abbrev cL_revision : ByteArray := method_19_code
def yL_revision : MethodName := ⟨RL, "revision", "(LCouplet;I[J)I"⟩
abbrev cL_sent : ByteArray := method_20_code
def yL_sent : MethodName := ⟨RL, "sent", "(LCouplet;I[J)I"⟩
abbrev cL_waiting : ByteArray := method_21_code
def yL_waiting : MethodName := ⟨RL, "waiting", "(LCouplet;I[J)I"⟩
abbrev cL_runs : ByteArray := method_22_code
def yL_runs : MethodName := ⟨RL, "runs", "(LCouplet;I[J)I"⟩
abbrev cL_up : ByteArray := method_23_code
def yL_up : MethodName := ⟨RL, "up", "(LCouplet;I[J)I"⟩
abbrev cL_down : ByteArray := method_24_code
def yL_down : MethodName := ⟨RL, "down", "(LCouplet;I[J)I"⟩
abbrev cL_kept : ByteArray := method_25_code
def yL_kept : MethodName := ⟨RL, "kept", "(LCouplet;I[J)I"⟩
abbrev cL_historyEnd : ByteArray := method_26_code
def yL_historyEnd : MethodName := ⟨RL, "historyEnd", "(LCouplet;I[J)I"⟩
abbrev cL_historySize : ByteArray := method_27_code
def yL_historySize : MethodName := ⟨RL, "historySize", "(LCouplet;I[J)I"⟩
abbrev cL_historyKind : ByteArray := method_28_code
def yL_historyKind : MethodName := ⟨RL, "historyKind", "(LCouplet;II[J)I"⟩
abbrev cL_historyPosition : ByteArray := method_29_code
def yL_historyPosition : MethodName := ⟨RL, "historyPosition", "(LCouplet;II[J)I"⟩
abbrev cL_ownShare : ByteArray := method_30_code
def yL_ownShare : MethodName := ⟨RL, "ownShare", "(LCouplet;I[D)I"⟩
abbrev cL_meanRun : ByteArray := method_31_code
def yL_meanRun : MethodName := ⟨RL, "meanRun", "(LCouplet;[D)I"⟩
abbrev cL_textNumber : ByteArray := method_32_code
def yL_textNumber : MethodName := ⟨RL, "textNumber", "(LCouplet;I[J)I"⟩
abbrev cL_law : ByteArray := code
def yL_law : MethodName := ⟨RL, "law", "([I)Z"⟩
