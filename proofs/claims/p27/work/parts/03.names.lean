def RX0 : String := "TestSlots$Examiner"
def TX0 : u_T := fun k => match k with
  | 0 => ("TestSlots$Examiner", "testsOnRoute", "[I", true)
  | 1 => ("TestSlots$Examiner", "passed", "I", false)
  | _ => ("TestSlots$Examiner", "cancelled", "I", false)
def tyX0 : Nat → FieldType := fun k => match k with
  | 0 => .array .int
  | 1 => .int
  | _ => .int
abbrev wsX00 : List Cond := u_ws RX0 TX0 3
theorem nmX0 : ∀ a, a < 3 → ∀ b, b < 3 → a ≠ b → (TX0 a).2.1 ≠ (TX0 b).2.1 := by decide +kernel
theorem tyX0_ok : ∀ k, k < 3 → parseFieldDescriptor (TX0 k).2.2.1 = some (tyX0 k) := by decide +kernel
abbrev cX0_init : ByteArray := prog_2_method_1_code
def yX0_init : MethodName := ⟨RX0, "<init>", "()V"⟩
abbrev cX0_copyFrom : ByteArray := prog_2_method_2_code
def yX0_copyFrom : MethodName := ⟨RX0, "copyFrom", "(LTestSlots$Examiner;)V"⟩
abbrev cX0_tests : ByteArray := prog_2_method_3_code
def yX0_tests : MethodName := ⟨RX0, "tests", "()I"⟩
abbrev cX0_leastUsedRouteBut : ByteArray := prog_2_method_4_code
def yX0_leastUsedRouteBut : MethodName := ⟨RX0, "leastUsedRouteBut", "(I)I"⟩
def RX1 : String := "TestSlots$Office"
def TX1 : u_T := fun k => match k with
  | 0 => ("TestSlots$Office", "day", "I", false)
  | 1 => ("TestSlots$Office", "examinerCount", "I", false)
  | 2 => ("TestSlots$Office", "pupilCount", "I", false)
  | 3 => ("TestSlots$Office", "beginnings", "I", false)
  | 4 => ("TestSlots$Office", "stayedAway", "I", false)
  | 5 => ("TestSlots$Office", "settings", "[I", true)
  | 6 => ("TestSlots$Office", "diary", "[I", true)
  | 7 => ("TestSlots$Office", "pupils", "[LTestSlots$Pupil;", true)
  | 8 => ("TestSlots$Office", "examiners", "[LTestSlots$Examiner;", true)
  | _ => ("TestSlots$Office", "queue", "[I", true)
def tyX1 : Nat → FieldType := fun k => match k with
  | 0 => .int
  | 1 => .int
  | 2 => .int
  | 3 => .int
  | 4 => .int
  | 5 => .array .int
  | 6 => .array .int
  | 7 => .array (.object "TestSlots$Pupil")
  | 8 => .array (.object "TestSlots$Examiner")
  | _ => .array .int
abbrev wsX10 : List Cond := u_ws RX1 TX1 10
theorem nmX1 : ∀ a, a < 10 → ∀ b, b < 10 → a ≠ b → (TX1 a).2.1 ≠ (TX1 b).2.1 := by decide +kernel
theorem tyX1_ok : ∀ k, k < 10 → parseFieldDescriptor (TX1 k).2.2.1 = some (tyX1 k) := by decide +kernel
abbrev cX1_init : ByteArray := prog_3_method_1_code
def yX1_init : MethodName := ⟨RX1, "<init>", "()V"⟩
abbrev cX1_copyFrom : ByteArray := prog_3_method_2_code
def yX1_copyFrom : MethodName := ⟨RX1, "copyFrom", "(LTestSlots$Office;)V"⟩
abbrev cX1_hasPupil : ByteArray := prog_3_method_3_code
def yX1_hasPupil : MethodName := ⟨RX1, "hasPupil", "(I)Z"⟩
abbrev cX1_hasExaminer : ByteArray := prog_3_method_4_code
def yX1_hasExaminer : MethodName := ⟨RX1, "hasExaminer", "(I)Z"⟩
abbrev cX1_takeOnExaminer : ByteArray := prog_3_method_5_code
def yX1_takeOnExaminer : MethodName := ⟨RX1, "takeOnExaminer", "()I"⟩
abbrev cX1_takeOnPupil : ByteArray := prog_3_method_6_code
def yX1_takeOnPupil : MethodName := ⟨RX1, "takeOnPupil", "()I"⟩
abbrev cX1_mayAsk : ByteArray := prog_3_method_7_code
def yX1_mayAsk : MethodName := ⟨RX1, "mayAsk", "(I)Z"⟩
abbrev cX1_letAsk : ByteArray := prog_3_method_8_code
def yX1_letAsk : MethodName := ⟨RX1, "letAsk", "(I)I"⟩
abbrev cX1_mayQuit : ByteArray := prog_3_method_9_code
def yX1_mayQuit : MethodName := ⟨RX1, "mayQuit", "(I)Z"⟩
abbrev cX1_letQuit : ByteArray := prog_3_method_10_code
def yX1_letQuit : MethodName := ⟨RX1, "letQuit", "(I)I"⟩
abbrev cX1_cancelMorning : ByteArray := prog_3_method_11_code
def yX1_cancelMorning : MethodName := ⟨RX1, "cancelMorning", "(II)I"⟩
abbrev cX1_mayBeTested : ByteArray := prog_3_method_12_code
def yX1_mayBeTested : MethodName := ⟨RX1, "mayBeTested", "(I)Z"⟩
abbrev cX1_holdTest : ByteArray := prog_3_method_13_code
def yX1_holdTest : MethodName := ⟨RX1, "holdTest", "(IZ)I"⟩
abbrev cX1_mayGoOn : ByteArray := prog_3_method_14_code
def yX1_mayGoOn : MethodName := ⟨RX1, "mayGoOn", "()Z"⟩
abbrev cX1_goOn : ByteArray := prog_3_method_15_code
def yX1_goOn : MethodName := ⟨RX1, "goOn", "()I"⟩
abbrev cX1_freeSlotsOf : ByteArray := prog_3_method_16_code
def yX1_freeSlotsOf : MethodName := ⟨RX1, "freeSlotsOf", "(II)V"⟩
abbrev cX1_beginToWait : ByteArray := prog_3_method_17_code
def yX1_beginToWait : MethodName := ⟨RX1, "beginToWait", "(LTestSlots$Pupil;)V"⟩
abbrev cX1_giveSlotsOut : ByteArray := prog_3_method_18_code
def yX1_giveSlotsOut : MethodName := ⟨RX1, "giveSlotsOut", "()V"⟩
abbrev cX1_placeInQueue : ByteArray := prog_3_method_19_code
def yX1_placeInQueue : MethodName := ⟨RX1, "placeInQueue", "(I)I"⟩
abbrev cX1_cellOf : ByteArray := prog_3_method_20_code
def yX1_cellOf : MethodName := ⟨RX1, "cellOf", "(I)I"⟩
abbrev cX1_earliestCell : ByteArray := prog_3_method_21_code
def yX1_earliestCell : MethodName := ⟨RX1, "earliestCell", "(I)I"⟩
abbrev cX1_couldCome : ByteArray := prog_3_method_22_code
def yX1_couldCome : MethodName := ⟨RX1, "couldCome", "(II)Z"⟩
abbrev cX1_mayMeet : ByteArray := prog_3_method_23_code
def yX1_mayMeet : MethodName := ⟨RX1, "mayMeet", "(II)Z"⟩
abbrev cX1_routeFor : ByteArray := prog_3_method_24_code
def yX1_routeFor : MethodName := ⟨RX1, "routeFor", "(II)I"⟩
abbrev cX1_mostWithSlotsOf : ByteArray := prog_3_method_25_code
def yX1_mostWithSlotsOf : MethodName := ⟨RX1, "mostWithSlotsOf", "(I)I"⟩
abbrev cX1_freeSlotsOfGroup : ByteArray := prog_3_method_26_code
def yX1_freeSlotsOfGroup : MethodName := ⟨RX1, "freeSlotsOfGroup", "(II)I"⟩
abbrev cX1_pupilsNotKeptTo : ByteArray := prog_3_method_27_code
def yX1_pupilsNotKeptTo : MethodName := ⟨RX1, "pupilsNotKeptTo", "(II)I"⟩
abbrev cX1_mayMeetOutside : ByteArray := prog_3_method_28_code
def yX1_mayMeetOutside : MethodName := ⟨RX1, "mayMeetOutside", "(II)Z"⟩
abbrev cX1_isInGroup : ByteArray := prog_3_method_29_code
def yX1_isInGroup : MethodName := ⟨RX1, "isInGroup", "(II)Z"⟩
abbrev cX1_pupilProperty : ByteArray := prog_3_method_30_code
def yX1_pupilProperty : MethodName := ⟨RX1, "pupilProperty", "(II)I"⟩
abbrev cX1_examinerProperty : ByteArray := prog_3_method_31_code
def yX1_examinerProperty : MethodName := ⟨RX1, "examinerProperty", "(II)I"⟩
abbrev cX1_cellsOfExaminer : ByteArray := prog_3_method_32_code
def yX1_cellsOfExaminer : MethodName := ⟨RX1, "cellsOfExaminer", "(II)I"⟩
abbrev cX1_number : ByteArray := prog_3_method_33_code
def yX1_number : MethodName := ⟨RX1, "number", "(I)I"⟩
abbrev cX1_pupilsWho : ByteArray := prog_3_method_34_code
def yX1_pupilsWho : MethodName := ⟨RX1, "pupilsWho", "(I)I"⟩
abbrev cX1_testsSoFar : ByteArray := prog_3_method_35_code
def yX1_testsSoFar : MethodName := ⟨RX1, "testsSoFar", "()I"⟩
abbrev cX1_passedSoFar : ByteArray := prog_3_method_36_code
def yX1_passedSoFar : MethodName := ⟨RX1, "passedSoFar", "()I"⟩
abbrev cX1_movedSoFar : ByteArray := prog_3_method_37_code
def yX1_movedSoFar : MethodName := ⟨RX1, "movedSoFar", "()I"⟩
abbrev cX1_moneyTaken : ByteArray := prog_3_method_38_code
def yX1_moneyTaken : MethodName := ⟨RX1, "moneyTaken", "()I"⟩
abbrev cX1_freeSlots : ByteArray := prog_3_method_39_code
def yX1_freeSlots : MethodName := ⟨RX1, "freeSlots", "()I"⟩
abbrev cX1_daysToAllSlots : ByteArray := prog_3_method_40_code
def yX1_daysToAllSlots : MethodName := ⟨RX1, "daysToAllSlots", "()I"⟩
def RX2 : String := "TestSlots$OrderText"
def TX2 : u_T := fun k => match k with
  | 0 => ("TestSlots$OrderText", "codes", "[I", true)
  | 1 => ("TestSlots$OrderText", "length", "I", false)
  | 2 => ("TestSlots$OrderText", "at", "I", false)
  | 3 => ("TestSlots$OrderText", "orders", "I", false)
  | 4 => ("TestSlots$OrderText", "kinds", "[I", true)
  | 5 => ("TestSlots$OrderText", "numbers", "[I", true)
  | _ => ("TestSlots$OrderText", "days", "[I", true)
def tyX2 : Nat → FieldType := fun k => match k with
  | 0 => .array .int
  | 1 => .int
  | 2 => .int
  | 3 => .int
  | 4 => .array .int
  | 5 => .array .int
  | _ => .array .int
abbrev wsX20 : List Cond := u_ws RX2 TX2 7
theorem nmX2 : ∀ a, a < 7 → ∀ b, b < 7 → a ≠ b → (TX2 a).2.1 ≠ (TX2 b).2.1 := by decide +kernel
theorem tyX2_ok : ∀ k, k < 7 → parseFieldDescriptor (TX2 k).2.2.1 = some (tyX2 k) := by decide +kernel
abbrev cX2_init : ByteArray := prog_4_method_1_code
def yX2_init : MethodName := ⟨RX2, "<init>", "()V"⟩
def RX3 : String := "TestSlots$Pupil"
def TX3 : u_T := fun k => match k with
  | 0 => ("TestSlots$Pupil", "status", "I", false)
  | 1 => ("TestSlots$Pupil", "failed", "I", false)
  | 2 => ("TestSlots$Pupil", "testableFrom", "I", false)
  | 3 => ("TestSlots$Pupil", "latestRoute", "I", false)
  | 4 => ("TestSlots$Pupil", "latestExaminer", "I", false)
  | 5 => ("TestSlots$Pupil", "moved", "I", false)
  | 6 => ("TestSlots$Pupil", "began", "I", false)
  | 7 => ("TestSlots$Pupil", "paid", "I", false)
  | _ => ("TestSlots$Pupil", "fee", "I", false)
def tyX3 : Nat → FieldType := fun k => match k with
  | 0 => .int
  | 1 => .int
  | 2 => .int
  | 3 => .int
  | 4 => .int
  | 5 => .int
  | 6 => .int
  | 7 => .int
  | _ => .int
abbrev wsX30 : List Cond := u_ws RX3 TX3 9
theorem nmX3 : ∀ a, a < 9 → ∀ b, b < 9 → a ≠ b → (TX3 a).2.1 ≠ (TX3 b).2.1 := by decide +kernel
theorem tyX3_ok : ∀ k, k < 9 → parseFieldDescriptor (TX3 k).2.2.1 = some (tyX3 k) := by decide +kernel
abbrev cX3_init : ByteArray := prog_5_method_1_code
def yX3_init : MethodName := ⟨RX3, "<init>", "()V"⟩
abbrev cX3_copyFrom : ByteArray := prog_5_method_2_code
def yX3_copyFrom : MethodName := ⟨RX3, "copyFrom", "(LTestSlots$Pupil;)V"⟩
abbrev cX3_comesAheadOf : ByteArray := prog_5_method_3_code
def yX3_comesAheadOf : MethodName := ⟨RX3, "comesAheadOf", "(LTestSlots$Pupil;)Z"⟩
def RX4 : String := "TestSlots"
def TX4 : u_T := fun k => match k with
  | 0 => ("TestSlots", "office", "LTestSlots$Office;", true)
  | 1 => ("TestSlots", "trial", "LTestSlots$Office;", true)
  | 2 => ("TestSlots", "saves", "[LTestSlots$Office;", true)
  | 3 => ("TestSlots", "saved", "I", false)
  | _ => ("TestSlots", "text", "LTestSlots$OrderText;", true)
def tyX4 : Nat → FieldType := fun k => match k with
  | 0 => .object "TestSlots$Office"
  | 1 => .object "TestSlots$Office"
  | 2 => .array (.object "TestSlots$Office")
  | 3 => .int
  | _ => .object "TestSlots$OrderText"
abbrev wsX40 : List Cond := u_ws RX4 TX4 5
theorem nmX4 : ∀ a, a < 5 → ∀ b, b < 5 → a ≠ b → (TX4 a).2.1 ≠ (TX4 b).2.1 := by decide +kernel
theorem tyX4_ok : ∀ k, k < 5 → parseFieldDescriptor (TX4 k).2.2.1 = some (tyX4 k) := by decide +kernel
abbrev cX4_init : ByteArray := prog_1_method_1_code
def yX4_init : MethodName := ⟨RX4, "<init>", "()V"⟩
abbrev cX4_addExaminer : ByteArray := prog_1_method_2_code
def yX4_addExaminer : MethodName := ⟨RX4, "addExaminer", "()I"⟩
abbrev cX4_addPupil : ByteArray := prog_1_method_3_code
def yX4_addPupil : MethodName := ⟨RX4, "addPupil", "()I"⟩
abbrev cX4_ask : ByteArray := prog_1_method_4_code
def yX4_ask : MethodName := ⟨RX4, "ask", "(I)I"⟩
abbrev cX4_quit : ByteArray := prog_1_method_5_code
def yX4_quit : MethodName := ⟨RX4, "quit", "(I)I"⟩
abbrev cX4_cancel : ByteArray := prog_1_method_6_code
def yX4_cancel : MethodName := ⟨RX4, "cancel", "(II)I"⟩
abbrev cX4_test : ByteArray := prog_1_method_7_code
def yX4_test : MethodName := ⟨RX4, "test", "(IZ)I"⟩
abbrev cX4_next : ByteArray := prog_1_method_8_code
def yX4_next : MethodName := ⟨RX4, "next", "()I"⟩
abbrev cX4_set : ByteArray := prog_1_method_9_code
def yX4_set : MethodName := ⟨RX4, "set", "(II)I"⟩
abbrev cX4_undo : ByteArray := prog_1_method_14_code
def yX4_undo : MethodName := ⟨RX4, "undo", "()I"⟩
abbrev cX4_pupil : ByteArray := prog_1_method_15_code
def yX4_pupil : MethodName := ⟨RX4, "pupil", "(II)I"⟩
abbrev cX4_examiner : ByteArray := prog_1_method_16_code
def yX4_examiner : MethodName := ⟨RX4, "examiner", "(II)I"⟩
abbrev cX4_slot : ByteArray := prog_1_method_17_code
def yX4_slot : MethodName := ⟨RX4, "slot", "(III)I"⟩
abbrev cX4_count : ByteArray := prog_1_method_18_code
def yX4_count : MethodName := ⟨RX4, "count", "(I)I"⟩
abbrev cX4_setting : ByteArray := prog_1_method_19_code
def yX4_setting : MethodName := ⟨RX4, "setting", "(I)I"⟩
abbrev cX4_earliest : ByteArray := prog_1_method_20_code
def yX4_earliest : MethodName := ⟨RX4, "earliest", "(II)I"⟩
abbrev cX4_ifCancelled : ByteArray := prog_1_method_21_code
def yX4_ifCancelled : MethodName := ⟨RX4, "ifCancelled", "(III)I"⟩
abbrev cX4_ifTested : ByteArray := prog_1_method_22_code
def yX4_ifTested : MethodName := ⟨RX4, "ifTested", "(II)I"⟩
abbrev cX4_couldHave : ByteArray := prog_1_method_23_code
def yX4_couldHave : MethodName := ⟨RX4, "couldHave", "(I)I"⟩
abbrev cX4_isFromTo : ByteArray := prog_1_method_26_code
def yX4_isFromTo : MethodName := ⟨RX4, "isFromTo", "(III)Z"⟩
abbrev cX4_isSetting : ByteArray := prog_1_method_27_code
def yX4_isSetting : MethodName := ⟨RX4, "isSetting", "(I)Z"⟩
abbrev cX4_cellAt : ByteArray := prog_1_method_28_code
def yX4_cellAt : MethodName := ⟨RX4, "cellAt", "(III)I"⟩
abbrev cX4_daysTo : ByteArray := prog_1_method_29_code
def yX4_daysTo : MethodName := ⟨RX4, "daysTo", "(I)I"⟩
abbrev cX4_examinerAt : ByteArray := prog_1_method_30_code
def yX4_examinerAt : MethodName := ⟨RX4, "examinerAt", "(I)I"⟩
abbrev cX4_partOfCell : ByteArray := prog_1_method_31_code
def yX4_partOfCell : MethodName := ⟨RX4, "partOfCell", "(II)I"⟩
abbrev cX4_save : ByteArray := prog_1_method_32_code
def yX4_save : MethodName := ⟨RX4, "save", "()V"⟩
abbrev cX4_dropOldestSave : ByteArray := prog_1_method_33_code
def yX4_dropOldestSave : MethodName := ⟨RX4, "dropOldestSave", "()V"⟩
def RX5 : String := "TestSlotsModel"
def TX5 : u_T := fun k => match k with
  | _ => ("", "", "", false)
def tyX5 : Nat → FieldType := fun k => match k with
  | _ => .int
abbrev wsX50 : List Cond := u_ws RX5 TX5 0
theorem nmX5 : ∀ a, a < 0 → ∀ b, b < 0 → a ≠ b → (TX5 a).2.1 ≠ (TX5 b).2.1 := by decide +kernel
theorem tyX5_ok : ∀ k, k < 0 → parseFieldDescriptor (TX5 k).2.2.1 = some (tyX5 k) := by decide +kernel
def RJx145de : String := "java/io/Serializable"
def TJx145de : u_T := fun k => match k with
  | _ => ("", "", "", false)
def tyJx145de : Nat → FieldType := fun k => match k with
  | _ => .int
theorem nmJx145de : ∀ a, a < 0 → ∀ b, b < 0 → a ≠ b → (TJx145de a).2.1 ≠ (TJx145de b).2.1 := by decide +kernel
theorem tyJx145de_ok : ∀ k, k < 0 → parseFieldDescriptor (TJx145de k).2.2.1 = some (tyJx145de k) := by decide +kernel
def RJ9 : String := "java/lang/Math"
def TJ9 : u_T := fun k => match k with
  | _ => ("", "", "", false)
def tyJ9 : Nat → FieldType := fun k => match k with
  | _ => .int
abbrev wsJ90 : List Cond := u_ws RJ9 TJ9 0
theorem nmJ9 : ∀ a, a < 0 → ∀ b, b < 0 → a ≠ b → (TJ9 a).2.1 ≠ (TJ9 b).2.1 := by decide +kernel
theorem tyJ9_ok : ∀ k, k < 0 → parseFieldDescriptor (TJ9 k).2.2.1 = some (tyJ9 k) := by decide +kernel
abbrev cJ9_min_7cf53 : ByteArray := prog_12_method_69_code
def yJ9_min_7cf53 : MethodName := ⟨RJ9, "min", "(II)I"⟩
def RJ0 : String := "java/lang/String"
def TJ0 : u_T := fun k => match k with
  | _ => ("", "", "", false)
def tyJ0 : Nat → FieldType := fun k => match k with
  | _ => .int
abbrev wsJ00 : List Cond := u_ws RJ0 TJ0 0
theorem nmJ0 : ∀ a, a < 0 → ∀ b, b < 0 → a ≠ b → (TJ0 a).2.1 ≠ (TJ0 b).2.1 := by decide +kernel
theorem tyJ0_ok : ∀ k, k < 0 → parseFieldDescriptor (TJ0 k).2.2.1 = some (tyJ0 k) := by decide +kernel
def RJ10 : String := "java/lang/System"
def TJ10 : u_T := fun k => match k with
  | _ => ("", "", "", false)
def tyJ10 : Nat → FieldType := fun k => match k with
  | _ => .int
abbrev wsJ100 : List Cond := u_ws RJ10 TJ10 0
theorem nmJ10 : ∀ a, a < 0 → ∀ b, b < 0 → a ≠ b → (TJ10 a).2.1 ≠ (TJ10 b).2.1 := by decide +kernel
theorem tyJ10_ok : ∀ k, k < 0 → parseFieldDescriptor (TJ10 k).2.2.1 = some (tyJ10 k) := by decide +kernel
def RJ7 : String := "java/util/Arrays"
def TJ7 : u_T := fun k => match k with
  | _ => ("", "", "", false)
def tyJ7 : Nat → FieldType := fun k => match k with
  | _ => .int
abbrev wsJ70 : List Cond := u_ws RJ7 TJ7 0
theorem nmJ7 : ∀ a, a < 0 → ∀ b, b < 0 → a ≠ b → (TJ7 a).2.1 ≠ (TJ7 b).2.1 := by decide +kernel
theorem tyJ7_ok : ∀ k, k < 0 → parseFieldDescriptor (TJ7 k).2.2.1 = some (tyJ7 k) := by decide +kernel
abbrev cJ7_fill_53178 : ByteArray := prog_17_method_103_code
def yJ7_fill_53178 : MethodName := ⟨RJ7, "fill", "([II)V"⟩
def RL : String := "TestSlotsLaw"
abbrev cL_cell : ByteArray := method_2_code
def yL_cell : MethodName := ⟨RL, "cell", "([II)I"⟩
abbrev cL_low : ByteArray := method_3_code
def yL_low : MethodName := ⟨RL, "low", "(II)I"⟩
abbrev cL_does : ByteArray := method_4_code
def yL_does : MethodName := ⟨RL, "does", "(LTestSlots;I)I"⟩
abbrev cL_arePupilsSo : ByteArray := method_5_code
def yL_arePupilsSo : MethodName := ⟨RL, "arePupilsSo", "(LTestSlots;)Z"⟩
abbrev cL_areExaminersSo : ByteArray := method_6_code
def yL_areExaminersSo : MethodName := ⟨RL, "areExaminersSo", "(LTestSlots;)Z"⟩
abbrev cL_isCancelSo : ByteArray := method_7_code
def yL_isCancelSo : MethodName := ⟨RL, "isCancelSo", "(LTestSlots;II)Z"⟩
abbrev cL_isAskSo : ByteArray := method_8_code
def yL_isAskSo : MethodName := ⟨RL, "isAskSo", "(LTestSlots;I)Z"⟩
abbrev cL_couldSo : ByteArray := method_9_code
def yL_couldSo : MethodName := ⟨RL, "couldSo", "(LTestSlots;I)Z"⟩
abbrev cL_law : ByteArray := code
def yL_law : MethodName := ⟨RL, "law", "([I)Z"⟩
abbrev vwCl : List vw_C := [(RX0, TX0, 3), (RX1, TX1, 10), (RX2, TX2, 7), (RX3, TX3, 9), (RX4, TX4, 5)]
