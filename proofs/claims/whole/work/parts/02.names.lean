def RX0 : String := "OneWhistle$Chase"
def TX0 : u_T := fun k => match k with
  | 0 => ("OneWhistle$Chase", "lanes", "[LOneWhistle$Lane;", true)
  | 1 => ("OneWhistle$Chase", "seen", "LOneWhistle$Seen;", true)
  | 2 => ("OneWhistle$Chase", "laneCount", "I", false)
  | 3 => ("OneWhistle$Chase", "startPack", "I", false)
  | 4 => ("OneWhistle$Chase", "heedsOdd", "Z", false)
  | 5 => ("OneWhistle$Chase", "entries", "[J", false)
  | 6 => ("OneWhistle$Chase", "later", "[J", false)
  | 7 => ("OneWhistle$Chase", "laterCount", "I", false)
  | 8 => ("OneWhistle$Chase", "leastBreath", "I", false)
  | 9 => ("OneWhistle$Chase", "foundBreath", "I", false)
  | _ => ("OneWhistle$Chase", "foundTune", "I", false)
def tyX0 : Nat → FieldType := fun k => match k with
  | 0 => .array (.object "OneWhistle$Lane")
  | 1 => .object "OneWhistle$Seen"
  | 2 => .int
  | 3 => .int
  | 4 => .boolean
  | 5 => .array .long
  | 6 => .array .long
  | 7 => .int
  | 8 => .int
  | 9 => .int
  | _ => .int
abbrev wsX00 : List Cond := u_ws RX0 TX0 11
theorem nmX0 : ∀ a, a < 11 → ∀ b, b < 11 → a ≠ b → (TX0 a).2.1 ≠ (TX0 b).2.1 := by decide +kernel
theorem tyX0_ok : ∀ k, k < 11 → parseFieldDescriptor (TX0 k).2.2.1 = some (tyX0 k) := by decide +kernel
abbrev cX0_init : ByteArray := prog_2_method_1_code
def yX0_init : MethodName := ⟨RX0, "<init>", "()V"⟩
abbrev cX0_follow : ByteArray := prog_2_method_2_code
def yX0_follow : MethodName := ⟨RX0, "follow", "(LOneWhistle$Hill;II)V"⟩
abbrev cX0_addLane : ByteArray := prog_2_method_3_code
def yX0_addLane : MethodName := ⟨RX0, "addLane", "(LOneWhistle$Plain;LOneWhistle$Hill;III)V"⟩
abbrev cX0_seek : ByteArray := prog_2_method_4_code
def yX0_seek : MethodName := ⟨RX0, "seek", "(II)Z"⟩
abbrev cX0_leastBreathFound : ByteArray := prog_2_method_5_code
def yX0_leastBreathFound : MethodName := ⟨RX0, "leastBreathFound", "()I"⟩
abbrev cX0_shortest : ByteArray := prog_2_method_6_code
def yX0_shortest : MethodName := ⟨RX0, "shortest", "(I)I"⟩
abbrev cX0_takeLater : ByteArray := prog_2_method_7_code
def yX0_takeLater : MethodName := ⟨RX0, "takeLater", "(I)I"⟩
abbrev cX0_whistleOn : ByteArray := prog_2_method_8_code
def yX0_whistleOn : MethodName := ⟨RX0, "whistleOn", "(IJII)V"⟩
abbrev cX0_packOf : ByteArray := prog_2_method_9_code
def yX0_packOf : MethodName := ⟨RX0, "packOf", "(J)I"⟩
abbrev cX0_tuneOf : ByteArray := prog_2_method_10_code
def yX0_tuneOf : MethodName := ⟨RX0, "tuneOf", "(J)I"⟩
abbrev cX0_breathOf : ByteArray := prog_2_method_11_code
def yX0_breathOf : MethodName := ⟨RX0, "breathOf", "(J)I"⟩
abbrev cX0_packBehind : ByteArray := prog_2_method_12_code
def yX0_packBehind : MethodName := ⟨RX0, "packBehind", "(III)I"⟩
abbrev cX0_offer : ByteArray := prog_2_method_13_code
def yX0_offer : MethodName := ⟨RX0, "offer", "(IIII)V"⟩
abbrev cX0_keyOf : ByteArray := prog_2_method_14_code
def yX0_keyOf : MethodName := ⟨RX0, "keyOf", "(II)I"⟩
abbrev cX0_keep : ByteArray := prog_2_method_15_code
def yX0_keep : MethodName := ⟨RX0, "keep", "(III)V"⟩
def RX1 : String := "OneWhistle$Deaf"
def TX1 : u_T := fun k => match k with
  | 0 => ("OneWhistle$Plain", "kind", "I", true)
  | 1 => ("OneWhistle$Plain", "row0", "I", true)
  | _ => ("OneWhistle$Plain", "row1", "I", true)
def tyX1 : Nat → FieldType := fun k => match k with
  | 0 => .int
  | 1 => .int
  | _ => .int
abbrev wsX10 : List Cond := u_ws RX1 TX1 3
theorem nmX1 : ∀ a, a < 3 → ∀ b, b < 3 → a ≠ b → (TX1 a).2.1 ≠ (TX1 b).2.1 := by decide +kernel
theorem tyX1_ok : ∀ k, k < 3 → parseFieldDescriptor (TX1 k).2.2.1 = some (tyX1 k) := by decide +kernel
abbrev cX1_init : ByteArray := prog_3_method_1_code
def yX1_init : MethodName := ⟨RX1, "<init>", "(III)V"⟩
abbrev cX1_next : ByteArray := prog_3_method_2_code
def yX1_next : MethodName := ⟨RX1, "next", "(IIII)I"⟩
abbrev cX1_heedsOdd : ByteArray := prog_3_method_3_code
def yX1_heedsOdd : MethodName := ⟨RX1, "heedsOdd", "()Z"⟩
def RX2 : String := "OneWhistle$Hill"
def TX2 : u_T := fun k => match k with
  | 0 => ("OneWhistle$Hill", "placeCount", "I", false)
  | 1 => ("OneWhistle$Hill", "shutBits", "I", false)
  | 2 => ("OneWhistle$Hill", "goal", "I", false)
  | 3 => ("OneWhistle$Hill", "barkBits", "I", false)
  | 4 => ("OneWhistle$Hill", "breath0", "I", false)
  | 5 => ("OneWhistle$Hill", "breath1", "I", false)
  | 6 => ("OneWhistle$Hill", "dogCount", "I", false)
  | _ => ("OneWhistle$Hill", "dogs", "[LOneWhistle$Plain;", true)
def tyX2 : Nat → FieldType := fun k => match k with
  | 0 => .int
  | 1 => .int
  | 2 => .int
  | 3 => .int
  | 4 => .int
  | 5 => .int
  | 6 => .int
  | _ => .array (.object "OneWhistle$Plain")
abbrev wsX20 : List Cond := u_ws RX2 TX2 8
theorem nmX2 : ∀ a, a < 8 → ∀ b, b < 8 → a ≠ b → (TX2 a).2.1 ≠ (TX2 b).2.1 := by decide +kernel
theorem tyX2_ok : ∀ k, k < 8 → parseFieldDescriptor (TX2 k).2.2.1 = some (tyX2 k) := by decide +kernel
abbrev cX2_init : ByteArray := prog_4_method_1_code
def yX2_init : MethodName := ⟨RX2, "<init>", "()V"⟩
abbrev cX2_copy : ByteArray := prog_4_method_2_code
def yX2_copy : MethodName := ⟨RX2, "copy", "()LOneWhistle$Hill;"⟩
abbrev cX2_settle : ByteArray := prog_4_method_3_code
def yX2_settle : MethodName := ⟨RX2, "settle", "(I)V"⟩
abbrev cX2_isPlace : ByteArray := prog_4_method_4_code
def yX2_isPlace : MethodName := ⟨RX2, "isPlace", "(I)Z"⟩
abbrev cX2_allPlaces : ByteArray := prog_4_method_5_code
def yX2_allPlaces : MethodName := ⟨RX2, "allPlaces", "()I"⟩
abbrev cX2_isRow : ByteArray := prog_4_method_6_code
def yX2_isRow : MethodName := ⟨RX2, "isRow", "(I)Z"⟩
abbrev cX2_isFull : ByteArray := prog_4_method_7_code
def yX2_isFull : MethodName := ⟨RX2, "isFull", "()Z"⟩
abbrev cX2_addDog : ByteArray := prog_4_method_8_code
def yX2_addDog : MethodName := ⟨RX2, "addDog", "(LOneWhistle$Plain;)I"⟩
abbrev cX2_dogAt : ByteArray := prog_4_method_9_code
def yX2_dogAt : MethodName := ⟨RX2, "dogAt", "(I)LOneWhistle$Plain;"⟩
abbrev cX2_areDogs : ByteArray := prog_4_method_10_code
def yX2_areDogs : MethodName := ⟨RX2, "areDogs", "(I)Z"⟩
def RX3 : String := "OneWhistle$Keen"
def TX3 : u_T := fun k => match k with
  | 0 => ("OneWhistle$Plain", "kind", "I", true)
  | 1 => ("OneWhistle$Plain", "row0", "I", true)
  | 2 => ("OneWhistle$Plain", "row1", "I", true)
  | 3 => ("OneWhistle$Pup", "then0", "I", true)
  | 4 => ("OneWhistle$Pup", "then1", "I", true)
  | _ => ("OneWhistle$Pup", "m", "I", true)
def tyX3 : Nat → FieldType := fun k => match k with
  | 0 => .int
  | 1 => .int
  | 2 => .int
  | 3 => .int
  | 4 => .int
  | _ => .int
abbrev wsX30 : List Cond := u_ws RX3 TX3 6
theorem nmX3 : ∀ a, a < 6 → ∀ b, b < 6 → a ≠ b → (TX3 a).2.1 ≠ (TX3 b).2.1 := by decide +kernel
theorem tyX3_ok : ∀ k, k < 6 → parseFieldDescriptor (TX3 k).2.2.1 = some (tyX3 k) := by decide +kernel
abbrev cX3_init : ByteArray := prog_5_method_1_code
def yX3_init : MethodName := ⟨RX3, "<init>", "(IIIIII)V"⟩
abbrev cX3_next : ByteArray := prog_5_method_2_code
def yX3_next : MethodName := ⟨RX3, "next", "(IIII)I"⟩
def RX4 : String := "OneWhistle$Lane"
def TX4 : u_T := fun k => match k with
  | 0 => ("OneWhistle$Lane", "steps", "[I", true)
  | 1 => ("OneWhistle$Lane", "ends", "[I", true)
  | 2 => ("OneWhistle$Lane", "meetings", "[I", true)
  | _ => ("OneWhistle$Lane", "setCount", "I", false)
def tyX4 : Nat → FieldType := fun k => match k with
  | 0 => .array .int
  | 1 => .array .int
  | 2 => .array .int
  | _ => .int
abbrev wsX40 : List Cond := u_ws RX4 TX4 4
theorem nmX4 : ∀ a, a < 4 → ∀ b, b < 4 → a ≠ b → (TX4 a).2.1 ≠ (TX4 b).2.1 := by decide +kernel
theorem tyX4_ok : ∀ k, k < 4 → parseFieldDescriptor (TX4 k).2.2.1 = some (tyX4 k) := by decide +kernel
abbrev cX4_init : ByteArray := prog_6_method_1_code
def yX4_init : MethodName := ⟨RX4, "<init>", "()V"⟩
abbrev cX4_learn : ByteArray := prog_6_method_2_code
def yX4_learn : MethodName := ⟨RX4, "learn", "(LOneWhistle$Plain;II)V"⟩
abbrev cX4_joinSets : ByteArray := prog_6_method_3_code
def yX4_joinSets : MethodName := ⟨RX4, "joinSets", "(I)V"⟩
abbrev cX4_rowOf : ByteArray := prog_6_method_4_code
def yX4_rowOf : MethodName := ⟨RX4, "rowOf", "(II)I"⟩
abbrev cX4_behind : ByteArray := prog_6_method_5_code
def yX4_behind : MethodName := ⟨RX4, "behind", "(III)I"⟩
abbrev cX4_findEnds : ByteArray := prog_6_method_6_code
def yX4_findEnds : MethodName := ⟨RX4, "findEnds", "(I)V"⟩
abbrev cX4_endsFrom : ByteArray := prog_6_method_7_code
def yX4_endsFrom : MethodName := ⟨RX4, "endsFrom", "(II)I"⟩
abbrev cX4_findMeetings : ByteArray := prog_6_method_8_code
def yX4_findMeetings : MethodName := ⟨RX4, "findMeetings", "()V"⟩
abbrev cX4_growMeetings : ByteArray := prog_6_method_9_code
def yX4_growMeetings : MethodName := ⟨RX4, "growMeetings", "()Z"⟩
abbrev cX4_canMeet : ByteArray := prog_6_method_10_code
def yX4_canMeet : MethodName := ⟨RX4, "canMeet", "(II)Z"⟩
def RX5 : String := "OneWhistle$Plain"
def TX5 : u_T := fun k => match k with
  | 0 => ("OneWhistle$Plain", "kind", "I", true)
  | 1 => ("OneWhistle$Plain", "row0", "I", true)
  | _ => ("OneWhistle$Plain", "row1", "I", true)
def tyX5 : Nat → FieldType := fun k => match k with
  | 0 => .int
  | 1 => .int
  | _ => .int
abbrev wsX50 : List Cond := u_ws RX5 TX5 3
theorem nmX5 : ∀ a, a < 3 → ∀ b, b < 3 → a ≠ b → (TX5 a).2.1 ≠ (TX5 b).2.1 := by decide +kernel
theorem tyX5_ok : ∀ k, k < 3 → parseFieldDescriptor (TX5 k).2.2.1 = some (tyX5 k) := by decide +kernel
abbrev cX5_init : ByteArray := prog_7_method_1_code
def yX5_init : MethodName := ⟨RX5, "<init>", "(III)V"⟩
abbrev cX5_next : ByteArray := prog_7_method_2_code
def yX5_next : MethodName := ⟨RX5, "next", "(IIII)I"⟩
abbrev cX5_byRows : ByteArray := prog_7_method_3_code
def yX5_byRows : MethodName := ⟨RX5, "byRows", "(IIII)I"⟩
abbrev cX5_rowFor : ByteArray := prog_7_method_4_code
def yX5_rowFor : MethodName := ⟨RX5, "rowFor", "(II)I"⟩
abbrev cX5_heedsOdd : ByteArray := prog_7_method_5_code
def yX5_heedsOdd : MethodName := ⟨RX5, "heedsOdd", "()Z"⟩
abbrev cX5_behind : ByteArray := prog_7_method_6_code
def yX5_behind : MethodName := ⟨RX5, "behind", "(IIII)I"⟩
abbrev cX5_digested : ByteArray := prog_7_method_7_code
def yX5_digested : MethodName := ⟨RX5, "digested", "(J)J"⟩
abbrev cX5_withRows : ByteArray := prog_7_method_8_code
def yX5_withRows : MethodName := ⟨RX5, "withRows", "(J)J"⟩
abbrev cX5_withLearnt : ByteArray := prog_7_method_9_code
def yX5_withLearnt : MethodName := ⟨RX5, "withLearnt", "(JIII)J"⟩
def RX6 : String := "OneWhistle$Pup"
def TX6 : u_T := fun k => match k with
  | 0 => ("OneWhistle$Plain", "kind", "I", true)
  | 1 => ("OneWhistle$Plain", "row0", "I", true)
  | 2 => ("OneWhistle$Plain", "row1", "I", true)
  | 3 => ("OneWhistle$Pup", "then0", "I", true)
  | 4 => ("OneWhistle$Pup", "then1", "I", true)
  | _ => ("OneWhistle$Pup", "m", "I", true)
def tyX6 : Nat → FieldType := fun k => match k with
  | 0 => .int
  | 1 => .int
  | 2 => .int
  | 3 => .int
  | 4 => .int
  | _ => .int
abbrev wsX60 : List Cond := u_ws RX6 TX6 6
theorem nmX6 : ∀ a, a < 6 → ∀ b, b < 6 → a ≠ b → (TX6 a).2.1 ≠ (TX6 b).2.1 := by decide +kernel
theorem tyX6_ok : ∀ k, k < 6 → parseFieldDescriptor (TX6 k).2.2.1 = some (tyX6 k) := by decide +kernel
abbrev cX6_init : ByteArray := prog_8_method_1_code
def yX6_init : MethodName := ⟨RX6, "<init>", "(IIIIII)V"⟩
abbrev cX6_rowFor : ByteArray := prog_8_method_2_code
def yX6_rowFor : MethodName := ⟨RX6, "rowFor", "(II)I"⟩
abbrev cX6_digested : ByteArray := prog_8_method_3_code
def yX6_digested : MethodName := ⟨RX6, "digested", "(J)J"⟩
def RX7 : String := "OneWhistle$Reader"
def TX7 : u_T := fun k => match k with
  | 0 => ("OneWhistle$Reader", "told", "LOneWhistle$Hill;", true)
  | 1 => ("OneWhistle$Reader", "fault", "I", false)
  | 2 => ("OneWhistle$Reader", "text", "[B", true)
  | 3 => ("OneWhistle$Reader", "length", "I", true)
  | 4 => ("OneWhistle$Reader", "kind", "I", false)
  | 5 => ("OneWhistle$Reader", "start", "I", false)
  | _ => ("OneWhistle$Reader", "end", "I", false)
def tyX7 : Nat → FieldType := fun k => match k with
  | 0 => .object "OneWhistle$Hill"
  | 1 => .int
  | 2 => .array .byte
  | 3 => .int
  | 4 => .int
  | 5 => .int
  | _ => .int
abbrev wsX70 : List Cond := u_ws RX7 TX7 7
theorem nmX7 : ∀ a, a < 7 → ∀ b, b < 7 → a ≠ b → (TX7 a).2.1 ≠ (TX7 b).2.1 := by decide +kernel
theorem tyX7_ok : ∀ k, k < 7 → parseFieldDescriptor (TX7 k).2.2.1 = some (tyX7 k) := by decide +kernel
abbrev cX7_init : ByteArray := prog_9_method_1_code
def yX7_init : MethodName := ⟨RX7, "<init>", "([BI)V"⟩
abbrev cX7_readHill : ByteArray := prog_9_method_2_code
def yX7_readHill : MethodName := ⟨RX7, "readHill", "()V"⟩
abbrev cX7_readItem : ByteArray := prog_9_method_3_code
def yX7_readItem : MethodName := ⟨RX7, "readItem", "()V"⟩
abbrev cX7_readBreath : ByteArray := prog_9_method_4_code
def yX7_readBreath : MethodName := ⟨RX7, "readBreath", "()V"⟩
abbrev cX7_readDog : ByteArray := prog_9_method_5_code
def yX7_readDog : MethodName := ⟨RX7, "readDog", "()V"⟩
abbrev cX7_takeNumber : ByteArray := prog_9_method_6_code
def yX7_takeNumber : MethodName := ⟨RX7, "takeNumber", "(II)I"⟩
abbrev cX7_takePlaceBit : ByteArray := prog_9_method_7_code
def yX7_takePlaceBit : MethodName := ⟨RX7, "takePlaceBit", "()I"⟩
abbrev cX7_takeRow : ByteArray := prog_9_method_8_code
def yX7_takeRow : MethodName := ⟨RX7, "takeRow", "()I"⟩
abbrev cX7_takeMark : ByteArray := prog_9_method_9_code
def yX7_takeMark : MethodName := ⟨RX7, "takeMark", "()V"⟩
abbrev cX7_fail : ByteArray := prog_9_method_10_code
def yX7_fail : MethodName := ⟨RX7, "fail", "()V"⟩
abbrev cX7_isWord : ByteArray := prog_9_method_11_code
def yX7_isWord : MethodName := ⟨RX7, "isWord", "(Ljava/lang/String;)Z"⟩
abbrev cX7_advance : ByteArray := prog_9_method_12_code
def yX7_advance : MethodName := ⟨RX7, "advance", "()V"⟩
abbrev cX7_kindOf : ByteArray := prog_9_method_13_code
def yX7_kindOf : MethodName := ⟨RX7, "kindOf", "(I)I"⟩
abbrev cX7_byteAt : ByteArray := prog_9_method_14_code
def yX7_byteAt : MethodName := ⟨RX7, "byteAt", "(I)I"⟩
def RX8 : String := "OneWhistle$Seen"
def TX8 : u_T := fun k => match k with
  | 0 => ("OneWhistle$Seen", "slots", "[J", false)
  | 1 => ("OneWhistle$Seen", "used", "I", false)
  | _ => ("OneWhistle$Seen", "search", "J", false)
def tyX8 : Nat → FieldType := fun k => match k with
  | 0 => .array .long
  | 1 => .int
  | _ => .long
abbrev wsX80 : List Cond := u_ws RX8 TX8 3
theorem nmX8 : ∀ a, a < 3 → ∀ b, b < 3 → a ≠ b → (TX8 a).2.1 ≠ (TX8 b).2.1 := by decide +kernel
theorem tyX8_ok : ∀ k, k < 3 → parseFieldDescriptor (TX8 k).2.2.1 = some (tyX8 k) := by decide +kernel
abbrev cX8_init : ByteArray := prog_10_method_1_code
def yX8_init : MethodName := ⟨RX8, "<init>", "()V"⟩
abbrev cX8_forget : ByteArray := prog_10_method_2_code
def yX8_forget : MethodName := ⟨RX8, "forget", "()V"⟩
abbrev cX8_leastFor : ByteArray := prog_10_method_3_code
def yX8_leastFor : MethodName := ⟨RX8, "leastFor", "(I)I"⟩
abbrev cX8_isLess : ByteArray := prog_10_method_4_code
def yX8_isLess : MethodName := ⟨RX8, "isLess", "(II)Z"⟩
abbrev cX8_isOurs : ByteArray := prog_10_method_5_code
def yX8_isOurs : MethodName := ⟨RX8, "isOurs", "(J)Z"⟩
abbrev cX8_breathOf : ByteArray := prog_10_method_6_code
def yX8_breathOf : MethodName := ⟨RX8, "breathOf", "(J)I"⟩
abbrev cX8_keyOf : ByteArray := prog_10_method_7_code
def yX8_keyOf : MethodName := ⟨RX8, "keyOf", "(J)I"⟩
abbrev cX8_slotFor : ByteArray := prog_10_method_8_code
def yX8_slotFor : MethodName := ⟨RX8, "slotFor", "(I)I"⟩
abbrev cX8_grow : ByteArray := prog_10_method_9_code
def yX8_grow : MethodName := ⟨RX8, "grow", "()V"⟩
def RX9 : String := "OneWhistle$Stubborn"
def TX9 : u_T := fun k => match k with
  | 0 => ("OneWhistle$Plain", "kind", "I", true)
  | 1 => ("OneWhistle$Plain", "row0", "I", true)
  | _ => ("OneWhistle$Plain", "row1", "I", true)
def tyX9 : Nat → FieldType := fun k => match k with
  | 0 => .int
  | 1 => .int
  | _ => .int
abbrev wsX90 : List Cond := u_ws RX9 TX9 3
theorem nmX9 : ∀ a, a < 3 → ∀ b, b < 3 → a ≠ b → (TX9 a).2.1 ≠ (TX9 b).2.1 := by decide +kernel
theorem tyX9_ok : ∀ k, k < 3 → parseFieldDescriptor (TX9 k).2.2.1 = some (tyX9 k) := by decide +kernel
abbrev cX9_init : ByteArray := prog_11_method_1_code
def yX9_init : MethodName := ⟨RX9, "<init>", "(III)V"⟩
abbrev cX9_next : ByteArray := prog_11_method_2_code
def yX9_next : MethodName := ⟨RX9, "next", "(IIII)I"⟩
def RX10 : String := "OneWhistle$Teller"
def TX10 : u_T := fun k => match k with
  | 0 => ("OneWhistle$Teller", "fewest", "[I", true)
  | _ => ("OneWhistle$Teller", "barkBits", "I", false)
def tyX10 : Nat → FieldType := fun k => match k with
  | 0 => .array .int
  | _ => .int
abbrev wsX100 : List Cond := u_ws RX10 TX10 2
theorem nmX10 : ∀ a, a < 2 → ∀ b, b < 2 → a ≠ b → (TX10 a).2.1 ≠ (TX10 b).2.1 := by decide +kernel
theorem tyX10_ok : ∀ k, k < 2 → parseFieldDescriptor (TX10 k).2.2.1 = some (tyX10 k) := by decide +kernel
abbrev cX10_init : ByteArray := prog_12_method_1_code
def yX10_init : MethodName := ⟨RX10, "<init>", "()V"⟩
abbrev cX10_weigh : ByteArray := prog_12_method_2_code
def yX10_weigh : MethodName := ⟨RX10, "weigh", "(LOneWhistle$Lane;II)V"⟩
abbrev cX10_fewestFor : ByteArray := prog_12_method_3_code
def yX10_fewestFor : MethodName := ⟨RX10, "fewestFor", "(II)I"⟩
abbrev cX10_neededBy : ByteArray := prog_12_method_4_code
def yX10_neededBy : MethodName := ⟨RX10, "neededBy", "(LOneWhistle$Lane;III)I"⟩
abbrev cX10_firstWhistle : ByteArray := prog_12_method_5_code
def yX10_firstWhistle : MethodName := ⟨RX10, "firstWhistle", "(LOneWhistle$Lane;I)I"⟩
def RX11 : String := "OneWhistle"
def TX11 : u_T := fun k => match k with
  | 0 => ("OneWhistle", "hill", "LOneWhistle$Hill;", false)
  | 1 => ("OneWhistle", "images", "[LOneWhistle$Hill;", true)
  | 2 => ("OneWhistle", "text", "[B", true)
  | 3 => ("OneWhistle", "textLength", "I", false)
  | 4 => ("OneWhistle", "above", "J", false)
  | 5 => ("OneWhistle", "below", "J", false)
  | 6 => ("OneWhistle", "badCount", "I", false)
  | 7 => ("OneWhistle", "noCount", "I", false)
  | 8 => ("OneWhistle", "fullCount", "I", false)
  | 9 => ("OneWhistle", "chase", "LOneWhistle$Chase;", true)
  | 10 => ("OneWhistle", "lane", "LOneWhistle$Lane;", true)
  | 11 => ("OneWhistle", "teller", "LOneWhistle$Teller;", true)
  | 12 => ("OneWhistle", "weights", "[J", true)
  | _ => ("OneWhistle", "laterWeights", "[J", true)
def tyX11 : Nat → FieldType := fun k => match k with
  | 0 => .object "OneWhistle$Hill"
  | 1 => .array (.object "OneWhistle$Hill")
  | 2 => .array .byte
  | 3 => .int
  | 4 => .long
  | 5 => .long
  | 6 => .int
  | 7 => .int
  | 8 => .int
  | 9 => .object "OneWhistle$Chase"
  | 10 => .object "OneWhistle$Lane"
  | 11 => .object "OneWhistle$Teller"
  | 12 => .array .long
  | _ => .array .long
abbrev wsX110 : List Cond := u_ws RX11 TX11 14
theorem nmX11 : ∀ a, a < 14 → ∀ b, b < 14 → a ≠ b → (TX11 a).2.1 ≠ (TX11 b).2.1 := by decide +kernel
theorem tyX11_ok : ∀ k, k < 14 → parseFieldDescriptor (TX11 k).2.2.1 = some (tyX11 k) := by decide +kernel
abbrev cX11_init : ByteArray := prog_1_method_1_code
def yX11_init : MethodName := ⟨RX11, "<init>", "()V"⟩
abbrev cX11_places : ByteArray := prog_1_method_2_code
def yX11_places : MethodName := ⟨RX11, "places", "(I)I"⟩
abbrev cX11_dog : ByteArray := prog_1_method_3_code
def yX11_dog : MethodName := ⟨RX11, "dog", "(III)I"⟩
abbrev cX11_pup : ByteArray := prog_1_method_4_code
def yX11_pup : MethodName := ⟨RX11, "pup", "(IIIIII)I"⟩
abbrev cX11_shut : ByteArray := prog_1_method_5_code
def yX11_shut : MethodName := ⟨RX11, "shut", "(IZ)I"⟩
abbrev cX11_put : ByteArray := prog_1_method_6_code
def yX11_put : MethodName := ⟨RX11, "put", "(II)I"⟩
abbrev cX11_type : ByteArray := prog_1_method_7_code
def yX11_type : MethodName := ⟨RX11, "type", "(JI)I"⟩
abbrev cX11_clear : ByteArray := prog_1_method_8_code
def yX11_clear : MethodName := ⟨RX11, "clear", "()I"⟩
abbrev cX11_read : ByteArray := prog_1_method_9_code
def yX11_read : MethodName := ⟨RX11, "read", "()I"⟩
abbrev cX11_goes : ByteArray := prog_1_method_10_code
def yX11_goes : MethodName := ⟨RX11, "goes", "(IIII)I"⟩
abbrev cX11_run : ByteArray := prog_1_method_11_code
def yX11_run : MethodName := ⟨RX11, "run", "(IIII)I"⟩
abbrev cX11_meets : ByteArray := prog_1_method_12_code
def yX11_meets : MethodName := ⟨RX11, "meets", "(III)I"⟩
abbrev cX11_tame : ByteArray := prog_1_method_13_code
def yX11_tame : MethodName := ⟨RX11, "tame", "(II)I"⟩
abbrev cX11_quiet : ByteArray := prog_1_method_14_code
def yX11_quiet : MethodName := ⟨RX11, "quiet", "(I)I"⟩
abbrev cX11_apart : ByteArray := prog_1_method_15_code
def yX11_apart : MethodName := ⟨RX11, "apart", "(I)I"⟩
abbrev cX11_shuts : ByteArray := prog_1_method_16_code
def yX11_shuts : MethodName := ⟨RX11, "shuts", "(I)I"⟩
abbrev cX11_neighbour : ByteArray := prog_1_method_17_code
def yX11_neighbour : MethodName := ⟨RX11, "neighbour", "(IIII)I"⟩
abbrev cX11_tells : ByteArray := prog_1_method_18_code
def yX11_tells : MethodName := ⟨RX11, "tells", "(III)I"⟩
abbrev cX11_which : ByteArray := prog_1_method_19_code
def yX11_which : MethodName := ⟨RX11, "which", "(III)I"⟩
abbrev cX11_starts : ByteArray := prog_1_method_20_code
def yX11_starts : MethodName := ⟨RX11, "starts", "(IIII)I"⟩
abbrev cX11_drawn : ByteArray := prog_1_method_21_code
def yX11_drawn : MethodName := ⟨RX11, "drawn", "(III)I"⟩
abbrev cX11_part : ByteArray := prog_1_method_22_code
def yX11_part : MethodName := ⟨RX11, "part", "(I)J"⟩
abbrev cX11_image : ByteArray := prog_1_method_23_code
def yX11_image : MethodName := ⟨RX11, "image", "(I)I"⟩
abbrev cX11_from : ByteArray := prog_1_method_24_code
def yX11_from : MethodName := ⟨RX11, "from", "(I)I"⟩
abbrev cX11_status : ByteArray := prog_1_method_25_code
def yX11_status : MethodName := ⟨RX11, "status", "(I)I"⟩
abbrev cX11_count : ByteArray := prog_1_method_26_code
def yX11_count : MethodName := ⟨RX11, "count", "(I)I"⟩
abbrev cX11_digest : ByteArray := prog_1_method_27_code
def yX11_digest : MethodName := ⟨RX11, "digest", "()J"⟩
abbrev cX11_refusedBad : ByteArray := prog_1_method_28_code
def yX11_refusedBad : MethodName := ⟨RX11, "refusedBad", "(I)I"⟩
abbrev cX11_refusedNo : ByteArray := prog_1_method_29_code
def yX11_refusedNo : MethodName := ⟨RX11, "refusedNo", "()I"⟩
abbrev cX11_refusedFull : ByteArray := prog_1_method_30_code
def yX11_refusedFull : MethodName := ⟨RX11, "refusedFull", "()I"⟩
abbrev cX11_canPut : ByteArray := prog_1_method_31_code
def yX11_canPut : MethodName := ⟨RX11, "canPut", "(II)Z"⟩
abbrev cX11_isTune : ByteArray := prog_1_method_32_code
def yX11_isTune : MethodName := ⟨RX11, "isTune", "(II)Z"⟩
abbrev cX11_isHeard : ByteArray := prog_1_method_33_code
def yX11_isHeard : MethodName := ⟨RX11, "isHeard", "(III)Z"⟩
abbrev cX11_areBits : ByteArray := prog_1_method_34_code
def yX11_areBits : MethodName := ⟨RX11, "areBits", "(II)Z"⟩
abbrev cX11_holds : ByteArray := prog_1_method_35_code
def yX11_holds : MethodName := ⟨RX11, "holds", "(II)Z"⟩
abbrev cX11_origins : ByteArray := prog_1_method_36_code
def yX11_origins : MethodName := ⟨RX11, "origins", "(LOneWhistle$Plain;III)I"⟩
abbrev cX11_soundsSo : ByteArray := prog_1_method_37_code
def yX11_soundsSo : MethodName := ⟨RX11, "soundsSo", "(LOneWhistle$Plain;IIII)Z"⟩
abbrev cX11_drawOne : ByteArray := prog_1_method_38_code
def yX11_drawOne : MethodName := ⟨RX11, "drawOne", "(LOneWhistle$Plain;II)V"⟩
abbrev cX11_keepFraction : ByteArray := prog_1_method_39_code
def yX11_keepFraction : MethodName := ⟨RX11, "keepFraction", "(JJ)V"⟩
abbrev cX11_commonDivisor : ByteArray := prog_1_method_40_code
def yX11_commonDivisor : MethodName := ⟨RX11, "commonDivisor", "(JJ)J"⟩
abbrev cX11_isRowsKind : ByteArray := prog_1_method_41_code
def yX11_isRowsKind : MethodName := ⟨RX11, "isRowsKind", "(I)Z"⟩
abbrev cX11_isLearningKind : ByteArray := prog_1_method_42_code
def yX11_isLearningKind : MethodName := ⟨RX11, "isLearningKind", "(I)Z"⟩
abbrev cX11_bred : ByteArray := prog_1_method_43_code
def yX11_bred : MethodName := ⟨RX11, "bred", "(III)LOneWhistle$Plain;"⟩
abbrev cX11_bredLearning : ByteArray := prog_1_method_44_code
def yX11_bredLearning : MethodName := ⟨RX11, "bredLearning", "(IIIIII)LOneWhistle$Plain;"⟩
abbrev cX11_phaseOf : ByteArray := prog_1_method_45_code
def yX11_phaseOf : MethodName := ⟨RX11, "phaseOf", "(I)I"⟩
abbrev cX11_lowestBitIndex : ByteArray := prog_1_method_46_code
def yX11_lowestBitIndex : MethodName := ⟨RX11, "lowestBitIndex", "(I)I"⟩
def RX12 : String := "OneWhistleModel"
def TX12 : u_T := fun k => match k with
  | 0 => ("OneWhistleModel", "book", "[I", true)
  | 1 => ("OneWhistleModel", "draft", "[I", true)
  | 2 => ("OneWhistleModel", "images", "[I", true)
  | 3 => ("OneWhistleModel", "kept", "[Z", true)
  | 4 => ("OneWhistleModel", "text", "[I", true)
  | 5 => ("OneWhistleModel", "length", "I", false)
  | 6 => ("OneWhistleModel", "refused", "[I", true)
  | 7 => ("OneWhistleModel", "above", "J", false)
  | 8 => ("OneWhistleModel", "below", "J", false)
  | 9 => ("OneWhistleModel", "at", "I", false)
  | 10 => ("OneWhistleModel", "sort", "I", false)
  | 11 => ("OneWhistleModel", "start", "I", false)
  | 12 => ("OneWhistleModel", "size", "I", false)
  | 13 => ("OneWhistleModel", "best", "[I", true)
  | 14 => ("OneWhistleModel", "waits", "[I", true)
  | 15 => ("OneWhistleModel", "many", "[I", true)
  | 16 => ("OneWhistleModel", "reachedBy", "I", false)
  | 17 => ("OneWhistleModel", "reachedWorth", "I", false)
  | 18 => ("OneWhistleModel", "meet", "[Z", true)
  | 19 => ("OneWhistleModel", "takes", "[I", true)
  | _ => ("OneWhistleModel", "ends", "[J", true)
def tyX12 : Nat → FieldType := fun k => match k with
  | 0 => .array .int
  | 1 => .array .int
  | 2 => .array .int
  | 3 => .array .boolean
  | 4 => .array .int
  | 5 => .int
  | 6 => .array .int
  | 7 => .long
  | 8 => .long
  | 9 => .int
  | 10 => .int
  | 11 => .int
  | 12 => .int
  | 13 => .array .int
  | 14 => .array .int
  | 15 => .array .int
  | 16 => .int
  | 17 => .int
  | 18 => .array .boolean
  | 19 => .array .int
  | _ => .array .long
abbrev wsX120 : List Cond := u_ws RX12 TX12 21
theorem nmX12 : ∀ a, a < 21 → ∀ b, b < 21 → a ≠ b → (TX12 a).2.1 ≠ (TX12 b).2.1 := by decide +kernel
theorem tyX12_ok : ∀ k, k < 21 → parseFieldDescriptor (TX12 k).2.2.1 = some (tyX12 k) := by decide +kernel
abbrev cX12_init : ByteArray := prog_14_method_1_code
def yX12_init : MethodName := ⟨RX12, "<init>", "()V"⟩
abbrev cX12_in : ByteArray := prog_14_method_3_code
def yX12_in : MethodName := ⟨RX12, "in", "(III)Z"⟩
abbrev cX12_refuses : ByteArray := prog_14_method_4_code
def yX12_refuses : MethodName := ⟨RX12, "refuses", "(II)I"⟩
abbrev cX12_bad : ByteArray := prog_14_method_5_code
def yX12_bad : MethodName := ⟨RX12, "bad", "()I"⟩
abbrev cX12_isPlace : ByteArray := prog_14_method_6_code
def yX12_isPlace : MethodName := ⟨RX12, "isPlace", "(I)Z"⟩
abbrev cX12_isDog : ByteArray := prog_14_method_7_code
def yX12_isDog : MethodName := ⟨RX12, "isDog", "(I)Z"⟩
abbrev cX12_isSet : ByteArray := prog_14_method_8_code
def yX12_isSet : MethodName := ⟨RX12, "isSet", "(I)Z"⟩
abbrev cX12_isTune : ByteArray := prog_14_method_9_code
def yX12_isTune : MethodName := ⟨RX12, "isTune", "(II)Z"⟩
abbrev cX12_places : ByteArray := prog_14_method_10_code
def yX12_places : MethodName := ⟨RX12, "places", "(I)I"⟩
abbrev cX12_isRow : ByteArray := prog_14_method_11_code
def yX12_isRow : MethodName := ⟨RX12, "isRow", "(I)Z"⟩
abbrev cX12_comes : ByteArray := prog_14_method_12_code
def yX12_comes : MethodName := ⟨RX12, "comes", "(IIIIII)I"⟩
abbrev cX12_dog : ByteArray := prog_14_method_13_code
def yX12_dog : MethodName := ⟨RX12, "dog", "(III)I"⟩
abbrev cX12_pup : ByteArray := prog_14_method_14_code
def yX12_pup : MethodName := ⟨RX12, "pup", "(IIIIII)I"⟩
abbrev cX12_shut : ByteArray := prog_14_method_15_code
def yX12_shut : MethodName := ⟨RX12, "shut", "(IZ)I"⟩
abbrev cX12_put : ByteArray := prog_14_method_16_code
def yX12_put : MethodName := ⟨RX12, "put", "(II)I"⟩
abbrev cX12_type : ByteArray := prog_14_method_17_code
def yX12_type : MethodName := ⟨RX12, "type", "(JI)I"⟩
abbrev cX12_clear : ByteArray := prog_14_method_18_code
def yX12_clear : MethodName := ⟨RX12, "clear", "()I"⟩
abbrev cX12_byteAt : ByteArray := prog_14_method_19_code
def yX12_byteAt : MethodName := ⟨RX12, "byteAt", "(I)I"⟩
abbrev cX12_sortOf : ByteArray := prog_14_method_20_code
def yX12_sortOf : MethodName := ⟨RX12, "sortOf", "(I)I"⟩
abbrev cX12_token : ByteArray := prog_14_method_21_code
def yX12_token : MethodName := ⟨RX12, "token", "()V"⟩
abbrev cX12_verb : ByteArray := prog_14_method_22_code
def yX12_verb : MethodName := ⟨RX12, "verb", "()I"⟩
abbrev cX12_figure : ByteArray := prog_14_method_23_code
def yX12_figure : MethodName := ⟨RX12, "figure", "(II)I"⟩
abbrev cX12_row : ByteArray := prog_14_method_24_code
def yX12_row : MethodName := ⟨RX12, "row", "()I"⟩
abbrev cX12_readsDog : ByteArray := prog_14_method_25_code
def yX12_readsDog : MethodName := ⟨RX12, "readsDog", "()Z"⟩
abbrev cX12_readsItem : ByteArray := prog_14_method_26_code
def yX12_readsItem : MethodName := ⟨RX12, "readsItem", "(I)Z"⟩
abbrev cX12_reads : ByteArray := prog_14_method_27_code
def yX12_reads : MethodName := ⟨RX12, "reads", "()Z"⟩
abbrev cX12_read : ByteArray := prog_14_method_28_code
def yX12_read : MethodName := ⟨RX12, "read", "()I"⟩
abbrev cX12_step : ByteArray := prog_14_method_29_code
def yX12_step : MethodName := ⟨RX12, "step", "(II)I"⟩
abbrev cX12_go : ByteArray := prog_14_method_30_code
def yX12_go : MethodName := ⟨RX12, "go", "(IIII)I"⟩
abbrev cX12_goes : ByteArray := prog_14_method_31_code
def yX12_goes : MethodName := ⟨RX12, "goes", "(IIII)I"⟩
abbrev cX12_ran : ByteArray := prog_14_method_32_code
def yX12_ran : MethodName := ⟨RX12, "ran", "(IIII)I"⟩
abbrev cX12_run : ByteArray := prog_14_method_33_code
def yX12_run : MethodName := ⟨RX12, "run", "(IIII)I"⟩
abbrev cX12_meets : ByteArray := prog_14_method_34_code
def yX12_meets : MethodName := ⟨RX12, "meets", "(III)I"⟩
abbrev cX12_after : ByteArray := prog_14_method_35_code
def yX12_after : MethodName := ⟨RX12, "after", "(III)I"⟩
abbrev cX12_comesTo : ByteArray := prog_14_method_36_code
def yX12_comesTo : MethodName := ⟨RX12, "comesTo", "(III)V"⟩
abbrev cX12_layer : ByteArray := prog_14_method_37_code
def yX12_layer : MethodName := ⟨RX12, "layer", "(IZ)V"⟩
abbrev cX12_empties : ByteArray := prog_14_method_38_code
def yX12_empties : MethodName := ⟨RX12, "empties", "()V"⟩
abbrev cX12_leads : ByteArray := prog_14_method_39_code
def yX12_leads : MethodName := ⟨RX12, "leads", "(IIZ)Z"⟩
abbrev cX12_all : ByteArray := prog_14_method_40_code
def yX12_all : MethodName := ⟨RX12, "all", "(II)I"⟩
abbrev cX12_tames : ByteArray := prog_14_method_41_code
def yX12_tames : MethodName := ⟨RX12, "tames", "(IZ)Z"⟩
abbrev cX12_tune : ByteArray := prog_14_method_42_code
def yX12_tune : MethodName := ⟨RX12, "tune", "()I"⟩
abbrev cX12_tame : ByteArray := prog_14_method_43_code
def yX12_tame : MethodName := ⟨RX12, "tame", "(II)I"⟩
abbrev cX12_quiet : ByteArray := prog_14_method_44_code
def yX12_quiet : MethodName := ⟨RX12, "quiet", "(I)I"⟩
abbrev cX12_shuts : ByteArray := prog_14_method_45_code
def yX12_shuts : MethodName := ⟨RX12, "shuts", "(I)I"⟩
abbrev cX12_neighbour : ByteArray := prog_14_method_46_code
def yX12_neighbour : MethodName := ⟨RX12, "neighbour", "(IIII)I"⟩
abbrev cX12_bits : ByteArray := prog_14_method_47_code
def yX12_bits : MethodName := ⟨RX12, "bits", "(I)I"⟩
abbrev cX12_apart : ByteArray := prog_14_method_48_code
def yX12_apart : MethodName := ⟨RX12, "apart", "(I)I"⟩
abbrev cX12_takesBy : ByteArray := prog_14_method_49_code
def yX12_takesBy : MethodName := ⟨RX12, "takesBy", "(IIII)I"⟩
abbrev cX12_allTakes : ByteArray := prog_14_method_50_code
def yX12_allTakes : MethodName := ⟨RX12, "allTakes", "(I)V"⟩
abbrev cX12_tells : ByteArray := prog_14_method_51_code
def yX12_tells : MethodName := ⟨RX12, "tells", "(III)I"⟩
abbrev cX12_heard : ByteArray := prog_14_method_52_code
def yX12_heard : MethodName := ⟨RX12, "heard", "(IIIII)Z"⟩
abbrev cX12_begins : ByteArray := prog_14_method_53_code
def yX12_begins : MethodName := ⟨RX12, "begins", "(IIII)I"⟩
abbrev cX12_which : ByteArray := prog_14_method_54_code
def yX12_which : MethodName := ⟨RX12, "which", "(III)I"⟩
abbrev cX12_starts : ByteArray := prog_14_method_55_code
def yX12_starts : MethodName := ⟨RX12, "starts", "(IIII)I"⟩
abbrev cX12_drawn : ByteArray := prog_14_method_56_code
def yX12_drawn : MethodName := ⟨RX12, "drawn", "(III)I"⟩
abbrev cX12_part : ByteArray := prog_14_method_57_code
def yX12_part : MethodName := ⟨RX12, "part", "(I)J"⟩
abbrev cX12_image : ByteArray := prog_14_method_58_code
def yX12_image : MethodName := ⟨RX12, "image", "(I)I"⟩
abbrev cX12_from : ByteArray := prog_14_method_59_code
def yX12_from : MethodName := ⟨RX12, "from", "(I)I"⟩
abbrev cX12_status : ByteArray := prog_14_method_60_code
def yX12_status : MethodName := ⟨RX12, "status", "(I)I"⟩
abbrev cX12_counted : ByteArray := prog_14_method_61_code
def yX12_counted : MethodName := ⟨RX12, "counted", "(I)I"⟩
abbrev cX12_count : ByteArray := prog_14_method_62_code
def yX12_count : MethodName := ⟨RX12, "count", "(I)I"⟩
abbrev cX12_digest : ByteArray := prog_14_method_63_code
def yX12_digest : MethodName := ⟨RX12, "digest", "()J"⟩
def RJx145de : String := "java/io/Serializable"
def TJx145de : u_T := fun k => match k with
  | _ => ("", "", "", false)
def tyJx145de : Nat → FieldType := fun k => match k with
  | _ => .int
theorem nmJx145de : ∀ a, a < 0 → ∀ b, b < 0 → a ≠ b → (TJx145de a).2.1 ≠ (TJx145de b).2.1 := by decide +kernel
theorem tyJx145de_ok : ∀ k, k < 0 → parseFieldDescriptor (TJx145de k).2.2.1 = some (tyJx145de k) := by decide +kernel
def RJx9f9b0 : String := "java/lang/CharSequence"
def TJx9f9b0 : u_T := fun k => match k with
  | _ => ("", "", "", false)
def tyJx9f9b0 : Nat → FieldType := fun k => match k with
  | _ => .int
theorem nmJx9f9b0 : ∀ a, a < 0 → ∀ b, b < 0 → a ≠ b → (TJx9f9b0 a).2.1 ≠ (TJx9f9b0 b).2.1 := by decide +kernel
theorem tyJx9f9b0_ok : ∀ k, k < 0 → parseFieldDescriptor (TJx9f9b0 k).2.2.1 = some (tyJx9f9b0 k) := by decide +kernel
def RJx8e188 : String := "java/lang/Cloneable"
def TJx8e188 : u_T := fun k => match k with
  | _ => ("", "", "", false)
def tyJx8e188 : Nat → FieldType := fun k => match k with
  | _ => .int
theorem nmJx8e188 : ∀ a, a < 0 → ∀ b, b < 0 → a ≠ b → (TJx8e188 a).2.1 ≠ (TJx8e188 b).2.1 := by decide +kernel
theorem tyJx8e188_ok : ∀ k, k < 0 → parseFieldDescriptor (TJx8e188 k).2.2.1 = some (tyJx8e188 k) := by decide +kernel
def RJxb160c : String := "java/lang/Comparable"
def TJxb160c : u_T := fun k => match k with
  | _ => ("", "", "", false)
def tyJxb160c : Nat → FieldType := fun k => match k with
  | _ => .int
theorem nmJxb160c : ∀ a, a < 0 → ∀ b, b < 0 → a ≠ b → (TJxb160c a).2.1 ≠ (TJxb160c b).2.1 := by decide +kernel
theorem tyJxb160c_ok : ∀ k, k < 0 → parseFieldDescriptor (TJxb160c k).2.2.1 = some (tyJxb160c k) := by decide +kernel
def RJ6 : String := "java/lang/Integer"
def TJ6 : u_T := fun k => match k with
  | _ => ("", "", "", false)
def tyJ6 : Nat → FieldType := fun k => match k with
  | _ => .int
theorem nmJ6 : ∀ a, a < 0 → ∀ b, b < 0 → a ≠ b → (TJ6 a).2.1 ≠ (TJ6 b).2.1 := by decide +kernel
theorem tyJ6_ok : ∀ k, k < 0 → parseFieldDescriptor (TJ6 k).2.2.1 = some (tyJ6 k) := by decide +kernel
abbrev cJ6_bitCount_0f7a4 : ByteArray := prog_16_method_49_code
def yJ6_bitCount_0f7a4 : MethodName := ⟨RJ6, "bitCount", "(I)I"⟩
def RJ9 : String := "java/lang/Math"
def TJ9 : u_T := fun k => match k with
  | _ => ("", "", "", false)
def tyJ9 : Nat → FieldType := fun k => match k with
  | _ => .int
theorem nmJ9 : ∀ a, a < 0 → ∀ b, b < 0 → a ≠ b → (TJ9 a).2.1 ≠ (TJ9 b).2.1 := by decide +kernel
theorem tyJ9_ok : ∀ k, k < 0 → parseFieldDescriptor (TJ9 k).2.2.1 = some (tyJ9 k) := by decide +kernel
abbrev cJ9_max_7cf53 : ByteArray := prog_17_method_65_code
def yJ9_max_7cf53 : MethodName := ⟨RJ9, "max", "(II)I"⟩
abbrev cJ9_min_7cf53 : ByteArray := prog_17_method_69_code
def yJ9_min_7cf53 : MethodName := ⟨RJ9, "min", "(II)I"⟩
def RJ0 : String := "java/lang/String"
def TJ0 : u_T := fun k => match k with
  | _ => ("", "", "", false)
def tyJ0 : Nat → FieldType := fun k => match k with
  | _ => .int
theorem nmJ0 : ∀ a, a < 0 → ∀ b, b < 0 → a ≠ b → (TJ0 a).2.1 ≠ (TJ0 b).2.1 := by decide +kernel
theorem tyJ0_ok : ∀ k, k < 0 → parseFieldDescriptor (TJ0 k).2.2.1 = some (tyJ0 k) := by decide +kernel
abbrev cJ0_length_8abf5 : ByteArray := prog_18_method_54_code
def yJ0_length_8abf5 : MethodName := ⟨RJ0, "length", "()I"⟩
abbrev cJ0_charAt_5068e : ByteArray := prog_18_method_56_code
def yJ0_charAt_5068e : MethodName := ⟨RJ0, "charAt", "(I)C"⟩
abbrev cJ0_coder_7d493 : ByteArray := prog_18_method_152_code
def yJ0_coder_7d493 : MethodName := ⟨RJ0, "coder", "()B"⟩
abbrev cJ0_isLatin1_aae02 : ByteArray := prog_18_method_154_code
def yJ0_isLatin1_aae02 : MethodName := ⟨RJ0, "isLatin1", "()Z"⟩
abbrev cJ0_checkIndex_df160 : ByteArray := prog_18_method_155_code
def yJ0_checkIndex_df160 : MethodName := ⟨RJ0, "checkIndex", "(II)V"⟩
def RJ1 : String := "java/lang/StringLatin1"
def TJ1 : u_T := fun k => match k with
  | _ => ("", "", "", false)
def tyJ1 : Nat → FieldType := fun k => match k with
  | _ => .int
theorem nmJ1 : ∀ a, a < 0 → ∀ b, b < 0 → a ≠ b → (TJ1 a).2.1 ≠ (TJ1 b).2.1 := by decide +kernel
theorem tyJ1_ok : ∀ k, k < 0 → parseFieldDescriptor (TJ1 k).2.2.1 = some (tyJ1 k) := by decide +kernel
abbrev cJ1_charAt_3b067 : ByteArray := prog_19_method_2_code
def yJ1_charAt_3b067 : MethodName := ⟨RJ1, "charAt", "([BI)C"⟩
def RJ2 : String := "java/lang/StringUTF16"
def TJ2 : u_T := fun k => match k with
  | _ => ("", "", "", false)
def tyJ2 : Nat → FieldType := fun k => match k with
  | _ => .int
theorem nmJ2 : ∀ a, a < 0 → ∀ b, b < 0 → a ≠ b → (TJ2 a).2.1 ≠ (TJ2 b).2.1 := by decide +kernel
theorem tyJ2_ok : ∀ k, k < 0 → parseFieldDescriptor (TJ2 k).2.2.1 = some (tyJ2 k) := by decide +kernel
abbrev cJ2_getChar_3b067 : ByteArray := prog_20_method_5_code
def yJ2_getChar_3b067 : MethodName := ⟨RJ2, "getChar", "([BI)C"⟩
abbrev cJ2_length_9d52b : ByteArray := prog_20_method_6_code
def yJ2_length_9d52b : MethodName := ⟨RJ2, "length", "([B)I"⟩
abbrev cJ2_charAt_3b067 : ByteArray := prog_20_method_83_code
def yJ2_charAt_3b067 : MethodName := ⟨RJ2, "charAt", "([BI)C"⟩
abbrev cJ2_checkIndex_2214a : ByteArray := prog_20_method_91_code
def yJ2_checkIndex_2214a : MethodName := ⟨RJ2, "checkIndex", "(I[B)V"⟩
def RJ10 : String := "java/lang/System"
def TJ10 : u_T := fun k => match k with
  | _ => ("", "", "", false)
def tyJ10 : Nat → FieldType := fun k => match k with
  | _ => .int
theorem nmJ10 : ∀ a, a < 0 → ∀ b, b < 0 → a ≠ b → (TJ10 a).2.1 ≠ (TJ10 b).2.1 := by decide +kernel
theorem tyJ10_ok : ∀ k, k < 0 → parseFieldDescriptor (TJ10 k).2.2.1 = some (tyJ10 k) := by decide +kernel
def RJxfd54e : String := "java/lang/constant/Constable"
def TJxfd54e : u_T := fun k => match k with
  | _ => ("", "", "", false)
def tyJxfd54e : Nat → FieldType := fun k => match k with
  | _ => .int
theorem nmJxfd54e : ∀ a, a < 0 → ∀ b, b < 0 → a ≠ b → (TJxfd54e a).2.1 ≠ (TJxfd54e b).2.1 := by decide +kernel
theorem tyJxfd54e_ok : ∀ k, k < 0 → parseFieldDescriptor (TJxfd54e k).2.2.1 = some (tyJxfd54e k) := by decide +kernel
def RJx3cf43 : String := "java/lang/constant/ConstantDesc"
def TJx3cf43 : u_T := fun k => match k with
  | _ => ("", "", "", false)
def tyJx3cf43 : Nat → FieldType := fun k => match k with
  | _ => .int
theorem nmJx3cf43 : ∀ a, a < 0 → ∀ b, b < 0 → a ≠ b → (TJx3cf43 a).2.1 ≠ (TJx3cf43 b).2.1 := by decide +kernel
theorem tyJx3cf43_ok : ∀ k, k < 0 → parseFieldDescriptor (TJx3cf43 k).2.2.1 = some (tyJx3cf43 k) := by decide +kernel
def RJ7 : String := "java/util/Arrays"
def TJ7 : u_T := fun k => match k with
  | _ => ("", "", "", false)
def tyJ7 : Nat → FieldType := fun k => match k with
  | _ => .int
theorem nmJ7 : ∀ a, a < 0 → ∀ b, b < 0 → a ≠ b → (TJ7 a).2.1 ≠ (TJ7 b).2.1 := by decide +kernel
theorem tyJ7_ok : ∀ k, k < 0 → parseFieldDescriptor (TJ7 k).2.2.1 = some (tyJ7 k) := by decide +kernel
abbrev cJ7_fill_d0a16 : ByteArray := prog_22_method_101_code
def yJ7_fill_d0a16 : MethodName := ⟨RJ7, "fill", "([JJ)V"⟩
abbrev cJ7_fill_53178 : ByteArray := prog_22_method_103_code
def yJ7_fill_53178 : MethodName := ⟨RJ7, "fill", "([II)V"⟩
abbrev cJ7_copyOf_c38d5 : ByteArray := prog_22_method_124_code
def yJ7_copyOf_c38d5 : MethodName := ⟨RJ7, "copyOf", "([JI)[J"⟩
def RJ3 : String := "jdk/internal/util/Preconditions"
def TJ3 : u_T := fun k => match k with
  | _ => ("", "", "", false)
def tyJ3 : Nat → FieldType := fun k => match k with
  | _ => .int
theorem nmJ3 : ∀ a, a < 0 → ∀ b, b < 0 → a ≠ b → (TJ3 a).2.1 ≠ (TJ3 b).2.1 := by decide +kernel
theorem tyJ3_ok : ∀ k, k < 0 → parseFieldDescriptor (TJ3 k).2.2.1 = some (tyJ3 k) := by decide +kernel
abbrev cJ3_checkIndex_8e157 : ByteArray := prog_23_method_11_code
def yJ3_checkIndex_8e157 : MethodName := ⟨RJ3, "checkIndex", "(IILjava/util/function/BiFunction;)I"⟩
def RL : String := "OneWhistleLaw"
abbrev cL_law : ByteArray := code
def yL_law : MethodName := ⟨RL, "law", "([I)Z"⟩
abbrev vwCl : List vw_C := [(RX0, TX0, 11), (RX1, TX1, 3), (RX2, TX2, 8), (RX3, TX3, 6), (RX4, TX4, 4), (RX5, TX5, 3), (RX6, TX6, 6), (RX7, TX7, 7), (RX8, TX8, 3), (RX9, TX9, 3), (RX10, TX10, 2), (RX11, TX11, 14), (RX12, TX12, 21)]
