/-! names, fields, codes -/
def RX0 : String := "BirdParlour$Bird"
def TX0 : u_T := fun k => match k with
  | 0 => ("BirdParlour$Bird", "spring", "I", true)
  | 1 => ("BirdParlour$Bird", "weight", "I", true)
  | 2 => ("BirdParlour$Bird", "places", "I", true)
  | 3 => ("BirdParlour$Bird", "p", "I", true)
  | 4 => ("BirdParlour$Bird", "q", "I", true)
  | 5 => ("BirdParlour$Bird", "levers", "[I", true)
  | 6 => ("BirdParlour$Bird", "notes", "[I", true)
  | 7 => ("BirdParlour$Bird", "cams", "[LBirdParlour$Cam;", true)
  | 8 => ("BirdParlour$Bird", "pins", "I", false)
  | 9 => ("BirdParlour$Bird", "isEngaged", "Z", false)
  | 10 => ("BirdParlour$Bird", "shaftAtStart", "J", false)
  | 11 => ("BirdParlour$Bird", "gone", "J", false)
  | 12 => ("BirdParlour$Bird", "sounded", "I", false)
  | 13 => ("BirdParlour$Bird", "goneBefore", "J", false)
  | _ => ("BirdParlour$Bird", "soundedBefore", "I", false)
def tyX0 : Nat → FieldType := fun k => match k with
  | 0 => .int
  | 1 => .int
  | 2 => .int
  | 3 => .int
  | 4 => .int
  | 5 => .array .int
  | 6 => .array .int
  | 7 => .array (.object "BirdParlour$Cam")
  | 8 => .int
  | 9 => .boolean
  | 10 => .long
  | 11 => .long
  | 12 => .int
  | 13 => .long
  | _ => .int
abbrev wsX00 : List Cond := u_ws RX0 TX0 15
theorem nmX0 : ∀ a, a < 15 → ∀ b, b < 15 → a ≠ b → (TX0 a).2.1 ≠ (TX0 b).2.1 := by decide +kernel
theorem tyX0_ok : ∀ k, k < 15 → parseFieldDescriptor (TX0 k).2.2.1 = some (tyX0 k) := by decide +kernel
abbrev cX0_init : ByteArray := prog_2_method_1_code
def yX0_init : MethodName := ⟨RX0, "<init>", "(IIIIIJ)V"⟩
abbrev cX0_isDrivenBy : ByteArray := prog_2_method_4_code
def yX0_isDrivenBy : MethodName := ⟨RX0, "isDrivenBy", "(I)Z"⟩
abbrev cX0_goneWhen : ByteArray := prog_2_method_6_code
def yX0_goneWhen : MethodName := ⟨RX0, "goneWhen", "(J)J"⟩
abbrev cX0_placeWhenGone : ByteArray := prog_2_method_7_code
def yX0_placeWhenGone : MethodName := ⟨RX0, "placeWhenGone", "(J)I"⟩
abbrev cX0_placeNow : ByteArray := prog_2_method_8_code
def yX0_placeNow : MethodName := ⟨RX0, "placeNow", "()I"⟩
abbrev cX0_hasPlace : ByteArray := prog_2_method_9_code
def yX0_hasPlace : MethodName := ⟨RX0, "hasPlace", "(I)Z"⟩
abbrev cX0_hasPin : ByteArray := prog_2_method_10_code
def yX0_hasPin : MethodName := ⟨RX0, "hasPin", "(II)Z"⟩
abbrev cX0_turnPin : ByteArray := prog_2_method_11_code
def yX0_turnPin : MethodName := ⟨RX0, "turnPin", "(II)V"⟩
abbrev cX0_camAt : ByteArray := prog_2_method_12_code
def yX0_camAt : MethodName := ⟨RX0, "camAt", "(I)LBirdParlour$Cam;"⟩
abbrev cX0_burden : ByteArray := prog_2_method_13_code
def yX0_burden : MethodName := ⟨RX0, "burden", "()I"⟩
def RX1 : String := "BirdParlour$Cam"
def TX1 : u_T := fun k => match k with
  | 0 => ("BirdParlour$Cam", "marks", "[I", true)
  | 1 => ("BirdParlour$Cam", "lifts", "[I", true)
  | _ => ("BirdParlour$Cam", "points", "I", false)
def tyX1 : Nat → FieldType := fun k => match k with
  | 0 => .array .int
  | 1 => .array .int
  | _ => .int
abbrev wsX10 : List Cond := u_ws RX1 TX1 3
theorem nmX1 : ∀ a, a < 3 → ∀ b, b < 3 → a ≠ b → (TX1 a).2.1 ≠ (TX1 b).2.1 := by decide +kernel
theorem tyX1_ok : ∀ k, k < 3 → parseFieldDescriptor (TX1 k).2.2.1 = some (tyX1 k) := by decide +kernel
abbrev cX1_init : ByteArray := prog_3_method_1_code
def yX1_init : MethodName := ⟨RX1, "<init>", "()V"⟩
abbrev cX1_hasPoint : ByteArray := prog_3_method_2_code
def yX1_hasPoint : MethodName := ⟨RX1, "hasPoint", "(I)Z"⟩
abbrev cX1_layPoint : ByteArray := prog_3_method_3_code
def yX1_layPoint : MethodName := ⟨RX1, "layPoint", "(III)V"⟩
abbrev cX1_takePoint : ByteArray := prog_3_method_4_code
def yX1_takePoint : MethodName := ⟨RX1, "takePoint", "(II)V"⟩
abbrev cX1_draw : ByteArray := prog_3_method_5_code
def yX1_draw : MethodName := ⟨RX1, "draw", "(I)V"⟩
abbrev cX1_drawBehind : ByteArray := prog_3_method_6_code
def yX1_drawBehind : MethodName := ⟨RX1, "drawBehind", "(II)V"⟩
def RX2 : String := "BirdParlour$Songs"
def TX2 : u_T := fun k => match k with
  | 0 => ("BirdParlour$Songs", "kept", "[I", true)
  | 1 => ("BirdParlour$Songs", "keptNotes", "I", false)
  | 2 => ("BirdParlour$Songs", "allNotes", "I", false)
  | 3 => ("BirdParlour$Songs", "keptBefore", "I", false)
  | _ => ("BirdParlour$Songs", "allBefore", "I", false)
def tyX2 : Nat → FieldType := fun k => match k with
  | 0 => .array .int
  | 1 => .int
  | 2 => .int
  | 3 => .int
  | _ => .int
abbrev wsX20 : List Cond := u_ws RX2 TX2 5
theorem nmX2 : ∀ a, a < 5 → ∀ b, b < 5 → a ≠ b → (TX2 a).2.1 ≠ (TX2 b).2.1 := by decide +kernel
theorem tyX2_ok : ∀ k, k < 5 → parseFieldDescriptor (TX2 k).2.2.1 = some (tyX2 k) := by decide +kernel
abbrev cX2_init : ByteArray := prog_4_method_1_code
def yX2_init : MethodName := ⟨RX2, "<init>", "()V"⟩
abbrev cX2_hear : ByteArray := prog_4_method_4_code
def yX2_hear : MethodName := ⟨RX2, "hear", "(IIII)V"⟩
abbrev cX2_told : ByteArray := prog_4_method_5_code
def yX2_told : MethodName := ⟨RX2, "told", "(II)I"⟩
abbrev cX2_clearAll : ByteArray := prog_4_method_6_code
def yX2_clearAll : MethodName := ⟨RX2, "clearAll", "()V"⟩
def RX3 : String := "BirdParlour$Spring"
def TX3 : u_T := fun k => match k with
  | 0 => ("BirdParlour$Spring", "strength", "I", true)
  | 1 => ("BirdParlour$Spring", "held", "I", false)
  | 2 => ("BirdParlour$Spring", "shaft", "J", false)
  | 3 => ("BirdParlour$Spring", "speed", "I", false)
  | 4 => ("BirdParlour$Spring", "isBraked", "Z", false)
  | 5 => ("BirdParlour$Spring", "heldBefore", "I", false)
  | 6 => ("BirdParlour$Spring", "shaftBefore", "J", false)
  | _ => ("BirdParlour$Spring", "speedBefore", "I", false)
def tyX3 : Nat → FieldType := fun k => match k with
  | 0 => .int
  | 1 => .int
  | 2 => .long
  | 3 => .int
  | 4 => .boolean
  | 5 => .int
  | 6 => .long
  | _ => .int
abbrev wsX30 : List Cond := u_ws RX3 TX3 8
theorem nmX3 : ∀ a, a < 8 → ∀ b, b < 8 → a ≠ b → (TX3 a).2.1 ≠ (TX3 b).2.1 := by decide +kernel
theorem tyX3_ok : ∀ k, k < 8 → parseFieldDescriptor (TX3 k).2.2.1 = some (tyX3 k) := by decide +kernel
abbrev cX3_init : ByteArray := prog_5_method_1_code
def yX3_init : MethodName := ⟨RX3, "<init>", "(I)V"⟩
abbrev cX3_speedUnder : ByteArray := prog_5_method_4_code
def yX3_speedUnder : MethodName := ⟨RX3, "speedUnder", "(I)I"⟩
abbrev cX3_turn : ByteArray := prog_5_method_5_code
def yX3_turn : MethodName := ⟨RX3, "turn", "(I)V"⟩
abbrev cX3_payForNote : ByteArray := prog_5_method_6_code
def yX3_payForNote : MethodName := ⟨RX3, "payForNote", "()V"⟩
def RX4 : String := "BirdParlour"
def TX4 : u_T := fun k => match k with
  | 0 => ("BirdParlour", "springs", "[LBirdParlour$Spring;", true)
  | 1 => ("BirdParlour", "birds", "[LBirdParlour$Bird;", true)
  | 2 => ("BirdParlour", "songs", "LBirdParlour$Songs;", true)
  | 3 => ("BirdParlour", "springCount", "I", false)
  | 4 => ("BirdParlour", "birdCount", "I", false)
  | 5 => ("BirdParlour", "couplings", "I", false)
  | _ => ("BirdParlour", "tick", "I", false)
def tyX4 : Nat → FieldType := fun k => match k with
  | 0 => .array (.object "BirdParlour$Spring")
  | 1 => .array (.object "BirdParlour$Bird")
  | 2 => .object "BirdParlour$Songs"
  | 3 => .int
  | 4 => .int
  | 5 => .int
  | _ => .int
abbrev wsX40 : List Cond := u_ws RX4 TX4 7
theorem nmX4 : ∀ a, a < 7 → ∀ b, b < 7 → a ≠ b → (TX4 a).2.1 ≠ (TX4 b).2.1 := by decide +kernel
theorem tyX4_ok : ∀ k, k < 7 → parseFieldDescriptor (TX4 k).2.2.1 = some (tyX4 k) := by decide +kernel
abbrev cX4_init : ByteArray := prog_1_method_1_code
def yX4_init : MethodName := ⟨RX4, "<init>", "()V"⟩
abbrev cX4_addSpring : ByteArray := prog_1_method_2_code
def yX4_addSpring : MethodName := ⟨RX4, "addSpring", "(I)I"⟩
abbrev cX4_wind : ByteArray := prog_1_method_3_code
def yX4_wind : MethodName := ⟨RX4, "wind", "(II)I"⟩
abbrev cX4_couple : ByteArray := prog_1_method_5_code
def yX4_couple : MethodName := ⟨RX4, "couple", "(IIZ)I"⟩
abbrev cX4_spring : ByteArray := prog_1_method_6_code
def yX4_spring : MethodName := ⟨RX4, "spring", "(II)I"⟩
abbrev cX4_addBird : ByteArray := prog_1_method_7_code
def yX4_addBird : MethodName := ⟨RX4, "addBird", "(IIIII)I"⟩
abbrev cX4_pin : ByteArray := prog_1_method_9_code
def yX4_pin : MethodName := ⟨RX4, "pin", "(III)I"⟩
abbrev cX4_tune : ByteArray := prog_1_method_10_code
def yX4_tune : MethodName := ⟨RX4, "tune", "(III)I"⟩
abbrev cX4_point : ByteArray := prog_1_method_11_code
def yX4_point : MethodName := ⟨RX4, "point", "(IIII)I"⟩
abbrev cX4_bird : ByteArray := prog_1_method_12_code
def yX4_bird : MethodName := ⟨RX4, "bird", "(II)I"⟩
abbrev cX4_lift : ByteArray := prog_1_method_13_code
def yX4_lift : MethodName := ⟨RX4, "lift", "(III)I"⟩
abbrev cX4_run : ByteArray := prog_1_method_14_code
def yX4_run : MethodName := ⟨RX4, "run", "(I)I"⟩
abbrev cX4_count : ByteArray := prog_1_method_15_code
def yX4_count : MethodName := ⟨RX4, "count", "(I)I"⟩
abbrev cX4_sung : ByteArray := prog_1_method_16_code
def yX4_sung : MethodName := ⟨RX4, "sung", "(II)I"⟩
abbrev cX4_chord : ByteArray := prog_1_method_17_code
def yX4_chord : MethodName := ⟨RX4, "chord", "(I)I"⟩
abbrev cX4_longest : ByteArray := prog_1_method_18_code
def yX4_longest : MethodName := ⟨RX4, "longest", "()I"⟩
abbrev cX4_emptySongs : ByteArray := prog_1_method_19_code
def yX4_emptySongs : MethodName := ⟨RX4, "emptySongs", "()I"⟩
abbrev cX4_goOneTick : ByteArray := prog_1_method_23_code
def yX4_goOneTick : MethodName := ⟨RX4, "goOneTick", "()I"⟩
abbrev cX4_shareBetweenCoupled : ByteArray := prog_1_method_24_code
def yX4_shareBetweenCoupled : MethodName := ⟨RX4, "shareBetweenCoupled", "()V"⟩
abbrev cX4_shareBetween : ByteArray := prog_1_method_25_code
def yX4_shareBetween : MethodName := ⟨RX4, "shareBetween", "(LBirdParlour$Spring;LBirdParlour$Spring;)V"⟩
abbrev cX4_goShaft : ByteArray := prog_1_method_26_code
def yX4_goShaft : MethodName := ⟨RX4, "goShaft", "(ILBirdParlour$Spring;)I"⟩
abbrev cX4_goBarrel : ByteArray := prog_1_method_27_code
def yX4_goBarrel : MethodName := ⟨RX4, "goBarrel", "(ILBirdParlour$Bird;LBirdParlour$Spring;)I"⟩
abbrev cX4_soundPlace : ByteArray := prog_1_method_28_code
def yX4_soundPlace : MethodName := ⟨RX4, "soundPlace", "(ILBirdParlour$Bird;LBirdParlour$Spring;I)I"⟩
abbrev cX4_springAt : ByteArray := prog_1_method_29_code
def yX4_springAt : MethodName := ⟨RX4, "springAt", "(I)LBirdParlour$Spring;"⟩
abbrev cX4_birdAt : ByteArray := prog_1_method_30_code
def yX4_birdAt : MethodName := ⟨RX4, "birdAt", "(I)LBirdParlour$Bird;"⟩
abbrev cX4_birdsDrivenBy : ByteArray := prog_1_method_31_code
def yX4_birdsDrivenBy : MethodName := ⟨RX4, "birdsDrivenBy", "(I)I"⟩
abbrev cX4_loadOn : ByteArray := prog_1_method_32_code
def yX4_loadOn : MethodName := ⟨RX4, "loadOn", "(I)I"⟩
abbrev cX4_heldByAll : ByteArray := prog_1_method_33_code
def yX4_heldByAll : MethodName := ⟨RX4, "heldByAll", "()I"⟩
abbrev cX4_pairBit : ByteArray := prog_1_method_39_code
def yX4_pairBit : MethodName := ⟨RX4, "pairBit", "(II)I"⟩
abbrev cX4_isIn : ByteArray := prog_1_method_40_code
def yX4_isIn : MethodName := ⟨RX4, "isIn", "(III)Z"⟩
abbrev cX4_remainder : ByteArray := prog_1_method_41_code
def yX4_remainder : MethodName := ⟨RX4, "remainder", "(II)I"⟩
abbrev cX4_at : ByteArray := prog_1_method_42_code
def yX4_at : MethodName := ⟨RX4, "at", "([II)I"⟩
abbrev cX4_put : ByteArray := prog_1_method_43_code
def yX4_put : MethodName := ⟨RX4, "put", "([III)V"⟩
def RX5 : String := "BirdParlourLaw$Bird"
def TX5 : u_T := fun k => match k with
  | 0 => ("BirdParlourLaw$Bird", "spring", "I", false)
  | 1 => ("BirdParlourLaw$Bird", "weight", "I", false)
  | 2 => ("BirdParlourLaw$Bird", "n", "I", false)
  | 3 => ("BirdParlourLaw$Bird", "p", "I", false)
  | 4 => ("BirdParlourLaw$Bird", "q", "I", false)
  | 5 => ("BirdParlourLaw$Bird", "isOn", "Z", false)
  | 6 => ("BirdParlourLaw$Bird", "from", "J", false)
  | 7 => ("BirdParlourLaw$Bird", "come", "J", false)
  | 8 => ("BirdParlourLaw$Bird", "sounded", "I", false)
  | 9 => ("BirdParlourLaw$Bird", "pins", "[[I", false)
  | 10 => ("BirdParlourLaw$Bird", "cams", "[[[I", false)
  | _ => ("BirdParlourLaw$Bird", "notes", "[I", false)
def tyX5 : Nat → FieldType := fun k => match k with
  | 0 => .int
  | 1 => .int
  | 2 => .int
  | 3 => .int
  | 4 => .int
  | 5 => .boolean
  | 6 => .long
  | 7 => .long
  | 8 => .int
  | 9 => .array (.array .int)
  | 10 => .array (.array (.array .int))
  | _ => .array .int
abbrev wsX50 : List Cond := u_ws RX5 TX5 12
theorem nmX5 : ∀ a, a < 12 → ∀ b, b < 12 → a ≠ b → (TX5 a).2.1 ≠ (TX5 b).2.1 := by decide +kernel
theorem tyX5_ok : ∀ k, k < 12 → parseFieldDescriptor (TX5 k).2.2.1 = some (tyX5 k) := by decide +kernel
abbrev cX5_init : ByteArray := prog_7_method_1_code
def yX5_init : MethodName := ⟨RX5, "<init>", "()V"⟩
abbrev cX5_with : ByteArray := prog_7_method_3_code
def yX5_with : MethodName := ⟨RX5, "with", "([[I[I)[[I"⟩
def RX6 : String := "BirdParlourLaw$Sim"
def TX6 : u_T := fun k => match k with
  | 0 => ("BirdParlourLaw$Sim", "tick", "I", false)
  | 1 => ("BirdParlourLaw$Sim", "springs", "[[I", false)
  | 2 => ("BirdParlourLaw$Sim", "coupled", "[[Z", false)
  | 3 => ("BirdParlourLaw$Sim", "birds", "[LBirdParlourLaw$Bird;", false)
  | 4 => ("BirdParlourLaw$Sim", "songs", "[[I", false)
  | _ => ("BirdParlourLaw$Sim", "sounded", "I", false)
def tyX6 : Nat → FieldType := fun k => match k with
  | 0 => .int
  | 1 => .array (.array .int)
  | 2 => .array (.array .boolean)
  | 3 => .array (.object "BirdParlourLaw$Bird")
  | 4 => .array (.array .int)
  | _ => .int
abbrev wsX60 : List Cond := u_ws RX6 TX6 6
theorem nmX6 : ∀ a, a < 6 → ∀ b, b < 6 → a ≠ b → (TX6 a).2.1 ≠ (TX6 b).2.1 := by decide +kernel
theorem tyX6_ok : ∀ k, k < 6 → parseFieldDescriptor (TX6 k).2.2.1 = some (tyX6 k) := by decide +kernel
abbrev cX6_init : ByteArray := prog_8_method_1_code
def yX6_init : MethodName := ⟨RX6, "<init>", "()V"⟩
def RX7 : String := "BirdParlourModel"
def TX7 : u_T := fun k => match k with
  | _ => ("", "", "", false)
def tyX7 : Nat → FieldType := fun k => match k with
  | _ => .int
abbrev wsX70 : List Cond := u_ws RX7 TX7 0
theorem nmX7 : ∀ a, a < 0 → ∀ b, b < 0 → a ≠ b → (TX7 a).2.1 ≠ (TX7 b).2.1 := by decide +kernel
theorem tyX7_ok : ∀ k, k < 0 → parseFieldDescriptor (TX7 k).2.2.1 = some (tyX7 k) := by decide +kernel
def RJ6 : String := "java/lang/Integer"
def TJ6 : u_T := fun k => match k with
  | _ => ("", "", "", false)
def tyJ6 : Nat → FieldType := fun k => match k with
  | _ => .int
abbrev wsJ60 : List Cond := u_ws RJ6 TJ6 0
theorem nmJ6 : ∀ a, a < 0 → ∀ b, b < 0 → a ≠ b → (TJ6 a).2.1 ≠ (TJ6 b).2.1 := by decide +kernel
theorem tyJ6_ok : ∀ k, k < 0 → parseFieldDescriptor (TJ6 k).2.2.1 = some (tyJ6 k) := by decide +kernel
abbrev cJ6_bitCount_0f7a4 : ByteArray := prog_14_method_49_code
def yJ6_bitCount_0f7a4 : MethodName := ⟨RJ6, "bitCount", "(I)I"⟩
def RJ13 : String := "java/lang/Long"
def TJ13 : u_T := fun k => match k with
  | _ => ("", "", "", false)
def tyJ13 : Nat → FieldType := fun k => match k with
  | _ => .int
abbrev wsJ130 : List Cond := u_ws RJ13 TJ13 0
theorem nmJ13 : ∀ a, a < 0 → ∀ b, b < 0 → a ≠ b → (TJ13 a).2.1 ≠ (TJ13 b).2.1 := by decide +kernel
theorem tyJ13_ok : ∀ k, k < 0 → parseFieldDescriptor (TJ13 k).2.2.1 = some (tyJ13 k) := by decide +kernel
abbrev cJ13_bitCount_95d88 : ByteArray := prog_15_method_50_code
def yJ13_bitCount_95d88 : MethodName := ⟨RJ13, "bitCount", "(J)I"⟩
def RJ9 : String := "java/lang/Math"
def TJ9 : u_T := fun k => match k with
  | _ => ("", "", "", false)
def tyJ9 : Nat → FieldType := fun k => match k with
  | _ => .int
abbrev wsJ90 : List Cond := u_ws RJ9 TJ9 0
theorem nmJ9 : ∀ a, a < 0 → ∀ b, b < 0 → a ≠ b → (TJ9 a).2.1 ≠ (TJ9 b).2.1 := by decide +kernel
theorem tyJ9_ok : ∀ k, k < 0 → parseFieldDescriptor (TJ9 k).2.2.1 = some (tyJ9 k) := by decide +kernel
abbrev cJ9_floorDiv_7cf53 : ByteArray := prog_16_method_47_code
def yJ9_floorDiv_7cf53 : MethodName := ⟨RJ9, "floorDiv", "(II)I"⟩
abbrev cJ9_max_7cf53 : ByteArray := prog_16_method_65_code
def yJ9_max_7cf53 : MethodName := ⟨RJ9, "max", "(II)I"⟩
abbrev cJ9_min_7cf53 : ByteArray := prog_16_method_69_code
def yJ9_min_7cf53 : MethodName := ⟨RJ9, "min", "(II)I"⟩
abbrev cJ9_min_f86c9 : ByteArray := prog_16_method_70_code
def yJ9_min_f86c9 : MethodName := ⟨RJ9, "min", "(JJ)J"⟩
def RJ0 : String := "java/lang/String"
def TJ0 : u_T := fun k => match k with
  | _ => ("", "", "", false)
def tyJ0 : Nat → FieldType := fun k => match k with
  | _ => .int
abbrev wsJ00 : List Cond := u_ws RJ0 TJ0 0
theorem nmJ0 : ∀ a, a < 0 → ∀ b, b < 0 → a ≠ b → (TJ0 a).2.1 ≠ (TJ0 b).2.1 := by decide +kernel
theorem tyJ0_ok : ∀ k, k < 0 → parseFieldDescriptor (TJ0 k).2.2.1 = some (tyJ0 k) := by decide +kernel
def RL : String := "BirdParlourLaw"
abbrev cL_below : ByteArray := method_2_code
def yL_below : MethodName := ⟨RL, "below", "(II)I"⟩
abbrev cL_cell : ByteArray := method_3_code
def yL_cell : MethodName := ⟨RL, "cell", "([II)I"⟩
abbrev cL_build : ByteArray := method_4_code
def yL_build : MethodName := ⟨RL, "build", "(LBirdParlour;[II)LBirdParlourLaw$Sim;"⟩
abbrev cL_law : ByteArray := code
def yL_law : MethodName := ⟨RL, "law", "([I)Z"⟩
abbrev vwCl : List vw_C := [(RX0, TX0, 15), (RX1, TX1, 3), (RX2, TX2, 5), (RX3, TX3, 8), (RX4, TX4, 7), (RX5, TX5, 12), (RX6, TX6, 6)]
