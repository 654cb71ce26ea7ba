def RX0 : String := "FishingKites$Chart"
def TX0 : u_T := fun k => match k with
  | 0 => ("FishingKites$Chart", "freeHours", "[I", true)
  | 1 => ("FishingKites$Chart", "shoalsMet", "[I", true)
  | _ => ("FishingKites$Chart", "kitesCrossed", "[I", true)
def tyX0 : Nat → FieldType := fun k => match k with
  | 0 => .array .int
  | 1 => .array .int
  | _ => .array .int
abbrev wsX00 : List Cond := u_ws RX0 TX0 3
theorem nmX0 : ∀ a, a < 3 → ∀ b, b < 3 → a ≠ b → (TX0 a).2.1 ≠ (TX0 b).2.1 := by decide +kernel
theorem tyX0_ok : ∀ k, k < 3 → parseFieldDescriptor (TX0 k).2.2.1 = some (tyX0 k) := by decide +kernel
abbrev cX0_init : ByteArray := prog_2_method_1_code
def yX0_init : MethodName := ⟨RX0, "<init>", "()V"⟩
abbrev cX0_draw : ByteArray := prog_2_method_2_code
def yX0_draw : MethodName := ⟨RX0, "draw", "(LFishingKites$Sea;)V"⟩
abbrev cX0_drawKite : ByteArray := prog_2_method_3_code
def yX0_drawKite : MethodName := ⟨RX0, "drawKite", "(LFishingKites$Sea;II)V"⟩
abbrev cX0_shoalsAt : ByteArray := prog_2_method_4_code
def yX0_shoalsAt : MethodName := ⟨RX0, "shoalsAt", "(LFishingKites$Sea;III)I"⟩
abbrev cX0_kitesAcross : ByteArray := prog_2_method_5_code
def yX0_kitesAcross : MethodName := ⟨RX0, "kitesAcross", "(LFishingKites$Sea;III)I"⟩
abbrev cX0_isFree : ByteArray := prog_2_method_6_code
def yX0_isFree : MethodName := ⟨RX0, "isFree", "(III)Z"⟩
abbrev cX0_met : ByteArray := prog_2_method_7_code
def yX0_met : MethodName := ⟨RX0, "met", "(III)I"⟩
abbrev cX0_crossed : ByteArray := prog_2_method_8_code
def yX0_crossed : MethodName := ⟨RX0, "crossed", "(III)I"⟩
def RX1 : String := "FishingKites$Day"
def TX1 : u_T := fun k => match k with
  | 0 => ("FishingKites$Day", "hours", "I", false)
  | 1 => ("FishingKites$Day", "up", "I", false)
  | 2 => ("FishingKites$Day", "caught", "I", false)
  | 3 => ("FishingKites$Day", "gullsHave", "I", false)
  | 4 => ("FishingKites$Day", "takings", "I", false)
  | 5 => ("FishingKites$Day", "asked", "[I", true)
  | 6 => ("FishingKites$Day", "catches", "[I", true)
  | 7 => ("FishingKites$Day", "upHours", "[I", true)
  | 8 => ("FishingKites$Day", "gaveWay", "[I", true)
  | 9 => ("FishingKites$Day", "left", "[I", true)
  | _ => ("FishingKites$Day", "notes", "[I", true)
def tyX1 : Nat → FieldType := fun k => match k with
  | 0 => .int
  | 1 => .int
  | 2 => .int
  | 3 => .int
  | 4 => .int
  | 5 => .array .int
  | 6 => .array .int
  | 7 => .array .int
  | 8 => .array .int
  | 9 => .array .int
  | _ => .array .int
abbrev wsX10 : List Cond := u_ws RX1 TX1 11
theorem nmX1 : ∀ a, a < 11 → ∀ b, b < 11 → a ≠ b → (TX1 a).2.1 ≠ (TX1 b).2.1 := by decide +kernel
theorem tyX1_ok : ∀ k, k < 11 → parseFieldDescriptor (TX1 k).2.2.1 = some (tyX1 k) := by decide +kernel
abbrev cX1_init : ByteArray := prog_3_method_1_code
def yX1_init : MethodName := ⟨RX1, "<init>", "()V"⟩
abbrev cX1_stockShoals : ByteArray := prog_3_method_2_code
def yX1_stockShoals : MethodName := ⟨RX1, "stockShoals", "(LFishingKites$Sea;)V"⟩
abbrev cX1_become : ByteArray := prog_3_method_3_code
def yX1_become : MethodName := ⟨RX1, "become", "(LFishingKites$Day;)V"⟩
abbrev cX1_resume : ByteArray := prog_3_method_4_code
def yX1_resume : MethodName := ⟨RX1, "resume", "(LFishingKites$Day;)V"⟩
abbrev cX1_pass : ByteArray := prog_3_method_5_code
def yX1_pass : MethodName := ⟨RX1, "pass", "(ILFishingKites$Sea;LFishingKites$Chart;I)V"⟩
abbrev cX1_risen : ByteArray := prog_3_method_6_code
def yX1_risen : MethodName := ⟨RX1, "risen", "(LFishingKites$Sea;LFishingKites$Chart;)I"⟩
abbrev cX1_untangled : ByteArray := prog_3_method_7_code
def yX1_untangled : MethodName := ⟨RX1, "untangled", "(ILFishingKites$Sea;LFishingKites$Chart;I)I"⟩
abbrev cX1_fish : ByteArray := prog_3_method_8_code
def yX1_fish : MethodName := ⟨RX1, "fish", "(ILFishingKites$Sea;LFishingKites$Chart;)V"⟩
abbrev cX1_fishIn : ByteArray := prog_3_method_9_code
def yX1_fishIn : MethodName := ⟨RX1, "fishIn", "(I)I"⟩
abbrev cX1_note : ByteArray := prog_3_method_10_code
def yX1_note : MethodName := ⟨RX1, "note", "(III)V"⟩
def RX2 : String := "FishingKites$Kite"
def TX2 : u_T := fun k => match k with
  | 0 => ("FishingKites$Kite", "told", "Z", false)
  | 1 => ("FishingKites$Kite", "post", "I", false)
  | 2 => ("FishingKites$Kite", "size", "I", false)
  | 3 => ("FishingKites$Kite", "string", "I", false)
  | 4 => ("FishingKites$Kite", "net", "I", false)
  | _ => ("FishingKites$Kite", "clan", "I", false)
def tyX2 : Nat → FieldType := fun k => match k with
  | 0 => .boolean
  | 1 => .int
  | 2 => .int
  | 3 => .int
  | 4 => .int
  | _ => .int
abbrev wsX20 : List Cond := u_ws RX2 TX2 6
theorem nmX2 : ∀ a, a < 6 → ∀ b, b < 6 → a ≠ b → (TX2 a).2.1 ≠ (TX2 b).2.1 := by decide +kernel
theorem tyX2_ok : ∀ k, k < 6 → parseFieldDescriptor (TX2 k).2.2.1 = some (tyX2 k) := by decide +kernel
abbrev cX2_init : ByteArray := prog_4_method_1_code
def yX2_init : MethodName := ⟨RX2, "<init>", "()V"⟩
def RX3 : String := "FishingKites$Odds"
def TX3 : u_T := fun k => match k with
  | 0 => ("FishingKites$Odds", "weights", "[J", true)
  | _ => ("FishingKites$Odds", "drifted", "[J", true)
def tyX3 : Nat → FieldType := fun k => match k with
  | 0 => .array .long
  | _ => .array .long
abbrev wsX30 : List Cond := u_ws RX3 TX3 2
theorem nmX3 : ∀ a, a < 2 → ∀ b, b < 2 → a ≠ b → (TX3 a).2.1 ≠ (TX3 b).2.1 := by decide +kernel
theorem tyX3_ok : ∀ k, k < 2 → parseFieldDescriptor (TX3 k).2.2.1 = some (tyX3 k) := by decide +kernel
abbrev cX3_init : ByteArray := prog_5_method_1_code
def yX3_init : MethodName := ⟨RX3, "<init>", "()V"⟩
abbrev cX3_begin : ByteArray := prog_5_method_2_code
def yX3_begin : MethodName := ⟨RX3, "begin", "(I)V"⟩
abbrev cX3_enough : ByteArray := prog_5_method_3_code
def yX3_enough : MethodName := ⟨RX3, "enough", "(IIIII)J"⟩
abbrev cX3_drift : ByteArray := prog_5_method_4_code
def yX3_drift : MethodName := ⟨RX3, "drift", "(II)V"⟩
abbrev cX3_sumFrom : ByteArray := prog_5_method_5_code
def yX3_sumFrom : MethodName := ⟨RX3, "sumFrom", "(I)J"⟩
def RX4 : String := "FishingKites$Sea"
def TX4 : u_T := fun k => match k with
  | 0 => ("FishingKites$Sea", "kites", "[LFishingKites$Kite;", true)
  | 1 => ("FishingKites$Sea", "shoals", "[LFishingKites$Shoal;", true)
  | 2 => ("FishingKites$Sea", "strength", "[I", true)
  | 3 => ("FishingKites$Sea", "drift", "[I", true)
  | 4 => ("FishingKites$Sea", "law", "I", false)
  | 5 => ("FishingKites$Sea", "stock", "I", false)
  | 6 => ("FishingKites$Sea", "fog", "I", false)
  | _ => ("FishingKites$Sea", "gulls", "I", false)
def tyX4 : Nat → FieldType := fun k => match k with
  | 0 => .array (.object "FishingKites$Kite")
  | 1 => .array (.object "FishingKites$Shoal")
  | 2 => .array .int
  | 3 => .array .int
  | 4 => .int
  | 5 => .int
  | 6 => .int
  | _ => .int
abbrev wsX40 : List Cond := u_ws RX4 TX4 8
theorem nmX4 : ∀ a, a < 8 → ∀ b, b < 8 → a ≠ b → (TX4 a).2.1 ≠ (TX4 b).2.1 := by decide +kernel
theorem tyX4_ok : ∀ k, k < 8 → parseFieldDescriptor (TX4 k).2.2.1 = some (tyX4 k) := by decide +kernel
abbrev cX4_init : ByteArray := prog_6_method_1_code
def yX4_init : MethodName := ⟨RX4, "<init>", "()V"⟩
abbrev cX4_tell : ByteArray := prog_6_method_2_code
def yX4_tell : MethodName := ⟨RX4, "tell", "(I[I)V"⟩
abbrev cX4_tellWind : ByteArray := prog_6_method_3_code
def yX4_tellWind : MethodName := ⟨RX4, "tellWind", "([I)V"⟩
abbrev cX4_tellKite : ByteArray := prog_6_method_4_code
def yX4_tellKite : MethodName := ⟨RX4, "tellKite", "([I)V"⟩
abbrev cX4_tellShoal : ByteArray := prog_6_method_5_code
def yX4_tellShoal : MethodName := ⟨RX4, "tellShoal", "([I)V"⟩
abbrev cX4_tellFog : ByteArray := prog_6_method_6_code
def yX4_tellFog : MethodName := ⟨RX4, "tellFog", "(II)V"⟩
abbrev cX4_tellCalm : ByteArray := prog_6_method_7_code
def yX4_tellCalm : MethodName := ⟨RX4, "tellCalm", "()V"⟩
abbrev cX4_tellLost : ByteArray := prog_6_method_8_code
def yX4_tellLost : MethodName := ⟨RX4, "tellLost", "(I)V"⟩
abbrev cX4_windAt : ByteArray := prog_6_method_9_code
def yX4_windAt : MethodName := ⟨RX4, "windAt", "([III)I"⟩
abbrev cX4_isToldKite : ByteArray := prog_6_method_10_code
def yX4_isToldKite : MethodName := ⟨RX4, "isToldKite", "(I)Z"⟩
abbrev cX4_isToldShoal : ByteArray := prog_6_method_11_code
def yX4_isToldShoal : MethodName := ⟨RX4, "isToldShoal", "(I)Z"⟩
abbrev cX4_isFoggy : ByteArray := prog_6_method_12_code
def yX4_isFoggy : MethodName := ⟨RX4, "isFoggy", "(I)Z"⟩
abbrev cX4_kiteBits : ByteArray := prog_6_method_13_code
def yX4_kiteBits : MethodName := ⟨RX4, "kiteBits", "()I"⟩
abbrev cX4_shoalBits : ByteArray := prog_6_method_14_code
def yX4_shoalBits : MethodName := ⟨RX4, "shoalBits", "()I"⟩
abbrev cX4_shoalX : ByteArray := prog_6_method_15_code
def yX4_shoalX : MethodName := ⟨RX4, "shoalX", "(II)I"⟩
abbrev cX4_shoalY : ByteArray := prog_6_method_16_code
def yX4_shoalY : MethodName := ⟨RX4, "shoalY", "(II)I"⟩
abbrev cX4_kiteX : ByteArray := prog_6_method_17_code
def yX4_kiteX : MethodName := ⟨RX4, "kiteX", "(III)I"⟩
abbrev cX4_kiteY : ByteArray := prog_6_method_18_code
def yX4_kiteY : MethodName := ⟨RX4, "kiteY", "(II)I"⟩
abbrev cX4_isInSea : ByteArray := prog_6_method_19_code
def yX4_isInSea : MethodName := ⟨RX4, "isInSea", "(III)Z"⟩
abbrev cX4_hasLift : ByteArray := prog_6_method_20_code
def yX4_hasLift : MethodName := ⟨RX4, "hasLift", "(III)Z"⟩
abbrev cX4_wouldCross : ByteArray := prog_6_method_21_code
def yX4_wouldCross : MethodName := ⟨RX4, "wouldCross", "(IIII)Z"⟩
abbrev cX4_givingWay : ByteArray := prog_6_method_22_code
def yX4_givingWay : MethodName := ⟨RX4, "givingWay", "(III)I"⟩
abbrev cX4_afterGulls : ByteArray := prog_6_method_23_code
def yX4_afterGulls : MethodName := ⟨RX4, "afterGulls", "(I)I"⟩
abbrev cX4_shareOf : ByteArray := prog_6_method_24_code
def yX4_shareOf : MethodName := ⟨RX4, "shareOf", "(II)I"⟩
def RX5 : String := "FishingKites$Search"
def TX5 : u_T := fun k => match k with
  | 0 => ("FishingKites$Search", "found", "Z", false)
  | 1 => ("FishingKites$Search", "most", "I", false)
  | 2 => ("FishingKites$Search", "plan", "I", false)
  | 3 => ("FishingKites$Search", "bound", "[I", true)
  | _ => ("FishingKites$Search", "boundBehind", "[I", true)
def tyX5 : Nat → FieldType := fun k => match k with
  | 0 => .boolean
  | 1 => .int
  | 2 => .int
  | 3 => .array .int
  | _ => .array .int
abbrev wsX50 : List Cond := u_ws RX5 TX5 5
theorem nmX5 : ∀ a, a < 5 → ∀ b, b < 5 → a ≠ b → (TX5 a).2.1 ≠ (TX5 b).2.1 := by decide +kernel
theorem tyX5_ok : ∀ k, k < 5 → parseFieldDescriptor (TX5 k).2.2.1 = some (tyX5 k) := by decide +kernel
abbrev cX5_init : ByteArray := prog_7_method_1_code
def yX5_init : MethodName := ⟨RX5, "<init>", "()V"⟩
abbrev cX5_forget : ByteArray := prog_7_method_2_code
def yX5_forget : MethodName := ⟨RX5, "forget", "()V"⟩
abbrev cX5_heightOf : ByteArray := prog_7_method_3_code
def yX5_heightOf : MethodName := ⟨RX5, "heightOf", "(I)I"⟩
abbrev cX5_heightIn : ByteArray := prog_7_method_4_code
def yX5_heightIn : MethodName := ⟨RX5, "heightIn", "(II)I"⟩
abbrev cX5_shiftOf : ByteArray := prog_7_method_5_code
def yX5_shiftOf : MethodName := ⟨RX5, "shiftOf", "(I)I"⟩
abbrev cX5_find : ByteArray := prog_7_method_6_code
def yX5_find : MethodName := ⟨RX5, "find", "(LFishingKites$Day;ILFishingKites$Day;LFishingKites$Sea;LFishingKites$Chart;)V"⟩
abbrev cX5_tryPlan : ByteArray := prog_7_method_7_code
def yX5_tryPlan : MethodName := ⟨RX5, "tryPlan", "(ILFishingKites$Day;ILFishingKites$Day;LFishingKites$Sea;LFishingKites$Chart;)V"⟩
abbrev cX5_firstHopeless : ByteArray := prog_7_method_8_code
def yX5_firstHopeless : MethodName := ⟨RX5, "firstHopeless", "(I)I"⟩
abbrev cX5_setBounds : ByteArray := prog_7_method_9_code
def yX5_setBounds : MethodName := ⟨RX5, "setBounds", "(LFishingKites$Day;ILFishingKites$Sea;LFishingKites$Chart;)V"⟩
abbrev cX5_boundOf : ByteArray := prog_7_method_10_code
def yX5_boundOf : MethodName := ⟨RX5, "boundOf", "(IILFishingKites$Day;ILFishingKites$Sea;LFishingKites$Chart;)I"⟩
def RX6 : String := "FishingKites$Shoal"
def TX6 : u_T := fun k => match k with
  | 0 => ("FishingKites$Shoal", "told", "Z", false)
  | 1 => ("FishingKites$Shoal", "x", "I", false)
  | 2 => ("FishingKites$Shoal", "y", "I", false)
  | 3 => ("FishingKites$Shoal", "moveX", "I", false)
  | 4 => ("FishingKites$Shoal", "moveY", "I", false)
  | _ => ("FishingKites$Shoal", "many", "I", false)
def tyX6 : Nat → FieldType := fun k => match k with
  | 0 => .boolean
  | 1 => .int
  | 2 => .int
  | 3 => .int
  | 4 => .int
  | _ => .int
abbrev wsX60 : List Cond := u_ws RX6 TX6 6
theorem nmX6 : ∀ a, a < 6 → ∀ b, b < 6 → a ≠ b → (TX6 a).2.1 ≠ (TX6 b).2.1 := by decide +kernel
theorem tyX6_ok : ∀ k, k < 6 → parseFieldDescriptor (TX6 k).2.2.1 = some (tyX6 k) := by decide +kernel
abbrev cX6_init : ByteArray := prog_8_method_1_code
def yX6_init : MethodName := ⟨RX6, "<init>", "()V"⟩
def RX7 : String := "FishingKites$Text"
def TX7 : u_T := fun k => match k with
  | 0 => ("FishingKites$Text", "bytes", "[I", true)
  | 1 => ("FishingKites$Text", "numbers", "[I", true)
  | 2 => ("FishingKites$Text", "length", "I", false)
  | 3 => ("FishingKites$Text", "lines", "I", false)
  | _ => ("FishingKites$Text", "at", "I", false)
def tyX7 : Nat → FieldType := fun k => match k with
  | 0 => .array .int
  | 1 => .array .int
  | 2 => .int
  | 3 => .int
  | _ => .int
abbrev wsX70 : List Cond := u_ws RX7 TX7 5
theorem nmX7 : ∀ a, a < 5 → ∀ b, b < 5 → a ≠ b → (TX7 a).2.1 ≠ (TX7 b).2.1 := by decide +kernel
theorem tyX7_ok : ∀ k, k < 5 → parseFieldDescriptor (TX7 k).2.2.1 = some (tyX7 k) := by decide +kernel
abbrev cX7_init : ByteArray := prog_9_method_1_code
def yX7_init : MethodName := ⟨RX7, "<init>", "()V"⟩
abbrev cX7_hasRoom : ByteArray := prog_9_method_2_code
def yX7_hasRoom : MethodName := ⟨RX7, "hasRoom", "(I)Z"⟩
abbrev cX7_append : ByteArray := prog_9_method_3_code
def yX7_append : MethodName := ⟨RX7, "append", "(JI)V"⟩
abbrev cX7_readInto : ByteArray := prog_9_method_4_code
def yX7_readInto : MethodName := ⟨RX7, "readInto", "(LFishingKites$Sea;)I"⟩
abbrev cX7_peek : ByteArray := prog_9_method_5_code
def yX7_peek : MethodName := ⟨RX7, "peek", "(I)I"⟩
abbrev cX7_skipBlanks : ByteArray := prog_9_method_6_code
def yX7_skipBlanks : MethodName := ⟨RX7, "skipBlanks", "()V"⟩
abbrev cX7_readWord : ByteArray := prog_9_method_7_code
def yX7_readWord : MethodName := ⟨RX7, "readWord", "()I"⟩
abbrev cX7_isSpelled : ByteArray := prog_9_method_8_code
def yX7_isSpelled : MethodName := ⟨RX7, "isSpelled", "(Ljava/lang/String;I)Z"⟩
abbrev cX7_readNumbers : ByteArray := prog_9_method_9_code
def yX7_readNumbers : MethodName := ⟨RX7, "readNumbers", "(I)Z"⟩
abbrev cX7_readNumber : ByteArray := prog_9_method_10_code
def yX7_readNumber : MethodName := ⟨RX7, "readNumber", "(II)I"⟩
abbrev cX7_isEndOfHours : ByteArray := prog_9_method_11_code
def yX7_isEndOfHours : MethodName := ⟨RX7, "isEndOfHours", "(II)Z"⟩
abbrev cX7_isLetter : ByteArray := prog_9_method_12_code
def yX7_isLetter : MethodName := ⟨RX7, "isLetter", "(I)Z"⟩
abbrev cX7_isDigit : ByteArray := prog_9_method_13_code
def yX7_isDigit : MethodName := ⟨RX7, "isDigit", "(I)Z"⟩
abbrev cX7_nameOf : ByteArray := prog_9_method_14_code
def yX7_nameOf : MethodName := ⟨RX7, "nameOf", "(I)Ljava/lang/String;"⟩
def RX8 : String := "FishingKites"
def TX8 : u_T := fun k => match k with
  | 0 => ("FishingKites", "text", "LFishingKites$Text;", true)
  | 1 => ("FishingKites", "sea", "LFishingKites$Sea;", true)
  | 2 => ("FishingKites", "chart", "LFishingKites$Chart;", true)
  | 3 => ("FishingKites", "day", "LFishingKites$Day;", true)
  | 4 => ("FishingKites", "morning", "LFishingKites$Day;", true)
  | 5 => ("FishingKites", "trial", "LFishingKites$Day;", true)
  | 6 => ("FishingKites", "kept", "[LFishingKites$Day;", true)
  | 7 => ("FishingKites", "keptBits", "I", false)
  | 8 => ("FishingKites", "hourSearch", "LFishingKites$Search;", true)
  | 9 => ("FishingKites", "daySearch", "LFishingKites$Search;", true)
  | _ => ("FishingKites", "odds", "LFishingKites$Odds;", true)
def tyX8 : Nat → FieldType := fun k => match k with
  | 0 => .object "FishingKites$Text"
  | 1 => .object "FishingKites$Sea"
  | 2 => .object "FishingKites$Chart"
  | 3 => .object "FishingKites$Day"
  | 4 => .object "FishingKites$Day"
  | 5 => .object "FishingKites$Day"
  | 6 => .array (.object "FishingKites$Day")
  | 7 => .int
  | 8 => .object "FishingKites$Search"
  | 9 => .object "FishingKites$Search"
  | _ => .object "FishingKites$Odds"
abbrev wsX80 : List Cond := u_ws RX8 TX8 11
theorem nmX8 : ∀ a, a < 11 → ∀ b, b < 11 → a ≠ b → (TX8 a).2.1 ≠ (TX8 b).2.1 := by decide +kernel
theorem tyX8_ok : ∀ k, k < 11 → parseFieldDescriptor (TX8 k).2.2.1 = some (tyX8 k) := by decide +kernel
abbrev cX8_init : ByteArray := prog_1_method_1_code
def yX8_init : MethodName := ⟨RX8, "<init>", "()V"⟩
abbrev cX8_write : ByteArray := prog_1_method_2_code
def yX8_write : MethodName := ⟨RX8, "write", "(JI)I"⟩
abbrev cX8_erase : ByteArray := prog_1_method_3_code
def yX8_erase : MethodName := ⟨RX8, "erase", "()I"⟩
abbrev cX8_fault : ByteArray := prog_1_method_4_code
def yX8_fault : MethodName := ⟨RX8, "fault", "()I"⟩
abbrev cX8_cliff : ByteArray := prog_1_method_5_code
def yX8_cliff : MethodName := ⟨RX8, "cliff", "()I"⟩
abbrev cX8_wind : ByteArray := prog_1_method_6_code
def yX8_wind : MethodName := ⟨RX8, "wind", "(III)I"⟩
abbrev cX8_shoal : ByteArray := prog_1_method_7_code
def yX8_shoal : MethodName := ⟨RX8, "shoal", "(II)I"⟩
abbrev cX8_ask : ByteArray := prog_1_method_8_code
def yX8_ask : MethodName := ⟨RX8, "ask", "(II)I"⟩
abbrev cX8_go : ByteArray := prog_1_method_9_code
def yX8_go : MethodName := ⟨RX8, "go", "(I)I"⟩
abbrev cX8_kite : ByteArray := prog_1_method_10_code
def yX8_kite : MethodName := ⟨RX8, "kite", "(II)I"⟩
abbrev cX8_where : ByteArray := prog_1_method_11_code
def yX8_where : MethodName := ⟨RX8, "where", "(III)I"⟩
abbrev cX8_hinders : ByteArray := prog_1_method_12_code
def yX8_hinders : MethodName := ⟨RX8, "hinders", "(III)I"⟩
abbrev cX8_tangle : ByteArray := prog_1_method_13_code
def yX8_tangle : MethodName := ⟨RX8, "tangle", "(IIII)I"⟩
abbrev cX8_taking : ByteArray := prog_1_method_14_code
def yX8_taking : MethodName := ⟨RX8, "taking", "(II)I"⟩
abbrev cX8_keep : ByteArray := prog_1_method_15_code
def yX8_keep : MethodName := ⟨RX8, "keep", "(I)I"⟩
abbrev cX8_back : ByteArray := prog_1_method_16_code
def yX8_back : MethodName := ⟨RX8, "back", "(I)I"⟩
abbrev cX8_best : ByteArray := prog_1_method_17_code
def yX8_best : MethodName := ⟨RX8, "best", "(I)I"⟩
abbrev cX8_allDay : ByteArray := prog_1_method_18_code
def yX8_allDay : MethodName := ⟨RX8, "allDay", "(I)I"⟩
abbrev cX8_laws : ByteArray := prog_1_method_19_code
def yX8_laws : MethodName := ⟨RX8, "laws", "(I)I"⟩
abbrev cX8_food : ByteArray := prog_1_method_20_code
def yX8_food : MethodName := ⟨RX8, "food", "(IIIIII)J"⟩
abbrev cX8_cut : ByteArray := prog_1_method_21_code
def yX8_cut : MethodName := ⟨RX8, "cut", "(IIIII)J"⟩
abbrev cX8_share : ByteArray := prog_1_method_22_code
def yX8_share : MethodName := ⟨RX8, "share", "(II)I"⟩
abbrev cX8_count : ByteArray := prog_1_method_23_code
def yX8_count : MethodName := ⟨RX8, "count", "(I)I"⟩
abbrev cX8_caughtAllDayBy : ByteArray := prog_1_method_24_code
def yX8_caughtAllDayBy : MethodName := ⟨RX8, "caughtAllDayBy", "(I)I"⟩
abbrev cX8_isPlace : ByteArray := prog_1_method_25_code
def yX8_isPlace : MethodName := ⟨RX8, "isPlace", "(III)Z"⟩
abbrev cX8_isHeight : ByteArray := prog_1_method_26_code
def yX8_isHeight : MethodName := ⟨RX8, "isHeight", "(I)Z"⟩
abbrev cX8_isHour : ByteArray := prog_1_method_27_code
def yX8_isHour : MethodName := ⟨RX8, "isHour", "(I)Z"⟩
abbrev cX8_isIn : ByteArray := prog_1_method_28_code
def yX8_isIn : MethodName := ⟨RX8, "isIn", "(II)Z"⟩
abbrev cX8_tenToThe : ByteArray := prog_1_method_29_code
def yX8_tenToThe : MethodName := ⟨RX8, "tenToThe", "(I)J"⟩
abbrev cX8_lowestTerm : ByteArray := prog_1_method_30_code
def yX8_lowestTerm : MethodName := ⟨RX8, "lowestTerm", "(JJI)J"⟩
def RX9 : String := "FishingKitesModel"
def TX9 : u_T := fun k => match k with
  | 0 => ("FishingKitesModel", "wind", "[I", true)
  | 1 => ("FishingKitesModel", "kites", "I", false)
  | 2 => ("FishingKitesModel", "kite", "[I", true)
  | 3 => ("FishingKitesModel", "shoals", "I", false)
  | 4 => ("FishingKitesModel", "shoal", "[I", true)
  | 5 => ("FishingKitesModel", "law", "I", false)
  | 6 => ("FishingKitesModel", "stock", "I", false)
  | 7 => ("FishingKitesModel", "fog", "I", false)
  | 8 => ("FishingKitesModel", "gulls", "I", false)
  | 9 => ("FishingKitesModel", "bytes", "I", false)
  | 10 => ("FishingKitesModel", "text", "[I", true)
  | 11 => ("FishingKitesModel", "position", "I", false)
  | 12 => ("FishingKitesModel", "tokenAt", "I", false)
  | 13 => ("FishingKitesModel", "token", "J", false)
  | 14 => ("FishingKitesModel", "digits", "I", false)
  | 15 => ("FishingKitesModel", "number", "I", false)
  | 16 => ("FishingKitesModel", "faultAt", "I", false)
  | 17 => ("FishingKitesModel", "readMany", "I", false)
  | 18 => ("FishingKitesModel", "read", "[I", true)
  | 19 => ("FishingKitesModel", "now", "[I", true)
  | 20 => ("FishingKitesModel", "aside", "[I", true)
  | 21 => ("FishingKitesModel", "image", "[I", true)
  | 22 => ("FishingKitesModel", "isKept", "[Z", true)
  | _ => ("FishingKitesModel", "triedMost", "I", false)
def tyX9 : Nat → FieldType := fun k => match k with
  | 0 => .array .int
  | 1 => .int
  | 2 => .array .int
  | 3 => .int
  | 4 => .array .int
  | 5 => .int
  | 6 => .int
  | 7 => .int
  | 8 => .int
  | 9 => .int
  | 10 => .array .int
  | 11 => .int
  | 12 => .int
  | 13 => .long
  | 14 => .int
  | 15 => .int
  | 16 => .int
  | 17 => .int
  | 18 => .array .int
  | 19 => .array .int
  | 20 => .array .int
  | 21 => .array .int
  | 22 => .array .boolean
  | _ => .int
abbrev wsX90 : List Cond := u_ws RX9 TX9 24
theorem nmX9 : ∀ a, a < 24 → ∀ b, b < 24 → a ≠ b → (TX9 a).2.1 ≠ (TX9 b).2.1 := by decide +kernel
theorem tyX9_ok : ∀ k, k < 24 → parseFieldDescriptor (TX9 k).2.2.1 = some (tyX9 k) := by decide +kernel
abbrev cX9_init : ByteArray := prog_11_method_1_code
def yX9_init : MethodName := ⟨RX9, "<init>", "()V"⟩
abbrev cX9_in : ByteArray := prog_11_method_2_code
def yX9_in : MethodName := ⟨RX9, "in", "(III)Z"⟩
abbrev cX9_has : ByteArray := prog_11_method_3_code
def yX9_has : MethodName := ⟨RX9, "has", "(II)Z"⟩
abbrev cX9_isKite : ByteArray := prog_11_method_4_code
def yX9_isKite : MethodName := ⟨RX9, "isKite", "(I)Z"⟩
abbrev cX9_isHeight : ByteArray := prog_11_method_5_code
def yX9_isHeight : MethodName := ⟨RX9, "isHeight", "(I)Z"⟩
abbrev cX9_isHour : ByteArray := prog_11_method_6_code
def yX9_isHour : MethodName := ⟨RX9, "isHour", "(I)Z"⟩
abbrev cX9_write : ByteArray := prog_11_method_7_code
def yX9_write : MethodName := ⟨RX9, "write", "(JI)I"⟩
abbrev cX9_erase : ByteArray := prog_11_method_8_code
def yX9_erase : MethodName := ⟨RX9, "erase", "()I"⟩
abbrev cX9_nextToken : ByteArray := prog_11_method_9_code
def yX9_nextToken : MethodName := ⟨RX9, "nextToken", "()V"⟩
abbrev cX9_fails : ByteArray := prog_11_method_10_code
def yX9_fails : MethodName := ⟨RX9, "fails", "()Z"⟩
abbrev cX9_isNumber : ByteArray := prog_11_method_11_code
def yX9_isNumber : MethodName := ⟨RX9, "isNumber", "(III)Z"⟩
abbrev cX9_areHours : ByteArray := prog_11_method_12_code
def yX9_areHours : MethodName := ⟨RX9, "areHours", "(I)Z"⟩
abbrev cX9_isKiteLine : ByteArray := prog_11_method_13_code
def yX9_isKiteLine : MethodName := ⟨RX9, "isKiteLine", "(I)Z"⟩
abbrev cX9_isShoalLine : ByteArray := prog_11_method_14_code
def yX9_isShoalLine : MethodName := ⟨RX9, "isShoalLine", "(I)Z"⟩
abbrev cX9_isLine : ByteArray := prog_11_method_15_code
def yX9_isLine : MethodName := ⟨RX9, "isLine", "(I)Z"⟩
abbrev cX9_isRead : ByteArray := prog_11_method_16_code
def yX9_isRead : MethodName := ⟨RX9, "isRead", "()Z"⟩
abbrev cX9_fault : ByteArray := prog_11_method_17_code
def yX9_fault : MethodName := ⟨RX9, "fault", "()I"⟩
abbrev cX9_putWind : ByteArray := prog_11_method_18_code
def yX9_putWind : MethodName := ⟨RX9, "putWind", "(IIIII)V"⟩
abbrev cX9_calm : ByteArray := prog_11_method_19_code
def yX9_calm : MethodName := ⟨RX9, "calm", "()V"⟩
abbrev cX9_doLine : ByteArray := prog_11_method_20_code
def yX9_doLine : MethodName := ⟨RX9, "doLine", "(I)V"⟩
abbrev cX9_anew : ByteArray := prog_11_method_21_code
def yX9_anew : MethodName := ⟨RX9, "anew", "()V"⟩
abbrev cX9_begin : ByteArray := prog_11_method_22_code
def yX9_begin : MethodName := ⟨RX9, "begin", "()V"⟩
abbrev cX9_cliff : ByteArray := prog_11_method_23_code
def yX9_cliff : MethodName := ⟨RX9, "cliff", "()I"⟩
abbrev cX9_wind : ByteArray := prog_11_method_24_code
def yX9_wind : MethodName := ⟨RX9, "wind", "(III)I"⟩
abbrev cX9_shoal : ByteArray := prog_11_method_25_code
def yX9_shoal : MethodName := ⟨RX9, "shoal", "(II)I"⟩
abbrev cX9_ask : ByteArray := prog_11_method_26_code
def yX9_ask : MethodName := ⟨RX9, "ask", "(II)I"⟩
abbrev cX9_xOf : ByteArray := prog_11_method_27_code
def yX9_xOf : MethodName := ⟨RX9, "xOf", "(III)I"⟩
abbrev cX9_yOf : ByteArray := prog_11_method_28_code
def yX9_yOf : MethodName := ⟨RX9, "yOf", "(II)I"⟩
abbrev cX9_isInSea : ByteArray := prog_11_method_29_code
def yX9_isInSea : MethodName := ⟨RX9, "isInSea", "(III)Z"⟩
abbrev cX9_hasLift : ByteArray := prog_11_method_30_code
def yX9_hasLift : MethodName := ⟨RX9, "hasLift", "(III)Z"⟩
abbrev cX9_doTangle : ByteArray := prog_11_method_31_code
def yX9_doTangle : MethodName := ⟨RX9, "doTangle", "(IIII)Z"⟩
abbrev cX9_givesWay : ByteArray := prog_11_method_32_code
def yX9_givesWay : MethodName := ⟨RX9, "givesWay", "(II)I"⟩
abbrev cX9_findUp : ByteArray := prog_11_method_33_code
def yX9_findUp : MethodName := ⟨RX9, "findUp", "(I)V"⟩
abbrev cX9_take : ByteArray := prog_11_method_34_code
def yX9_take : MethodName := ⟨RX9, "take", "(II)V"⟩
abbrev cX9_goHour : ByteArray := prog_11_method_35_code
def yX9_goHour : MethodName := ⟨RX9, "goHour", "()V"⟩
abbrev cX9_go : ByteArray := prog_11_method_36_code
def yX9_go : MethodName := ⟨RX9, "go", "(I)I"⟩
abbrev cX9_kite : ByteArray := prog_11_method_37_code
def yX9_kite : MethodName := ⟨RX9, "kite", "(II)I"⟩
abbrev cX9_where : ByteArray := prog_11_method_38_code
def yX9_where : MethodName := ⟨RX9, "where", "(III)I"⟩
abbrev cX9_hinders : ByteArray := prog_11_method_39_code
def yX9_hinders : MethodName := ⟨RX9, "hinders", "(III)I"⟩
abbrev cX9_tangle : ByteArray := prog_11_method_40_code
def yX9_tangle : MethodName := ⟨RX9, "tangle", "(IIII)I"⟩
abbrev cX9_taking : ByteArray := prog_11_method_41_code
def yX9_taking : MethodName := ⟨RX9, "taking", "(II)I"⟩
abbrev cX9_copy : ByteArray := prog_11_method_42_code
def yX9_copy : MethodName := ⟨RX9, "copy", "([II[II)V"⟩
abbrev cX9_keep : ByteArray := prog_11_method_43_code
def yX9_keep : MethodName := ⟨RX9, "keep", "(I)I"⟩
abbrev cX9_back : ByteArray := prog_11_method_44_code
def yX9_back : MethodName := ⟨RX9, "back", "(I)I"⟩
abbrev cX9_caught : ByteArray := prog_11_method_45_code
def yX9_caught : MethodName := ⟨RX9, "caught", "()I"⟩
abbrev cX9_toldMany : ByteArray := prog_11_method_46_code
def yX9_toldMany : MethodName := ⟨RX9, "toldMany", "()I"⟩
abbrev cX9_askAll : ByteArray := prog_11_method_47_code
def yX9_askAll : MethodName := ⟨RX9, "askAll", "(I)V"⟩
abbrev cX9_bestOf : ByteArray := prog_11_method_48_code
def yX9_bestOf : MethodName := ⟨RX9, "bestOf", "(Z)I"⟩
abbrev cX9_copyState : ByteArray := prog_11_method_49_code
def yX9_copyState : MethodName := ⟨RX9, "copyState", "()V"⟩
abbrev cX9_heightIn : ByteArray := prog_11_method_50_code
def yX9_heightIn : MethodName := ⟨RX9, "heightIn", "(II)I"⟩
abbrev cX9_best : ByteArray := prog_11_method_51_code
def yX9_best : MethodName := ⟨RX9, "best", "(I)I"⟩
abbrev cX9_allDay : ByteArray := prog_11_method_52_code
def yX9_allDay : MethodName := ⟨RX9, "allDay", "(I)I"⟩
abbrev cX9_laws : ByteArray := prog_11_method_53_code
def yX9_laws : MethodName := ⟨RX9, "laws", "(I)I"⟩
abbrev cX9_part : ByteArray := prog_11_method_54_code
def yX9_part : MethodName := ⟨RX9, "part", "(JJI)J"⟩
abbrev cX9_food : ByteArray := prog_11_method_55_code
def yX9_food : MethodName := ⟨RX9, "food", "(IIIIII)J"⟩
abbrev cX9_cut : ByteArray := prog_11_method_56_code
def yX9_cut : MethodName := ⟨RX9, "cut", "(IIIII)J"⟩
abbrev cX9_share : ByteArray := prog_11_method_57_code
def yX9_share : MethodName := ⟨RX9, "share", "(II)I"⟩
abbrev cX9_count : ByteArray := prog_11_method_58_code
def yX9_count : MethodName := ⟨RX9, "count", "(I)I"⟩
def RJ9 : String := "java/lang/Math"
def TJ9 : u_T := fun k => match k with
  | _ => ("", "", "", false)
def tyJ9 : Nat → FieldType := fun k => match k with
  | _ => .int
abbrev wsJ90 : List Cond := u_ws RJ9 TJ9 0
theorem nmJ9 : ∀ a, a < 0 → ∀ b, b < 0 → a ≠ b → (TJ9 a).2.1 ≠ (TJ9 b).2.1 := by decide +kernel
theorem tyJ9_ok : ∀ k, k < 0 → parseFieldDescriptor (TJ9 k).2.2.1 = some (tyJ9 k) := by decide +kernel
abbrev cJ9_max_7cf53 : ByteArray := prog_12_method_65_code
def yJ9_max_7cf53 : MethodName := ⟨RJ9, "max", "(II)I"⟩
abbrev cJ9_min_7cf53 : ByteArray := prog_12_method_69_code
def yJ9_min_7cf53 : MethodName := ⟨RJ9, "min", "(II)I"⟩
def RJ0 : String := "java/lang/String"
def TJ0 : u_T := fun k => match k with
  | _ => ("", "", "", false)
def tyJ0 : Nat → FieldType := fun k => match k with
  | _ => .int
abbrev wsJ00 : List Cond := u_ws RJ0 TJ0 0
theorem nmJ0 : ∀ a, a < 0 → ∀ b, b < 0 → a ≠ b → (TJ0 a).2.1 ≠ (TJ0 b).2.1 := by decide +kernel
theorem tyJ0_ok : ∀ k, k < 0 → parseFieldDescriptor (TJ0 k).2.2.1 = some (tyJ0 k) := by decide +kernel
abbrev cJ0_length_8abf5 : ByteArray := prog_13_method_54_code
def yJ0_length_8abf5 : MethodName := ⟨RJ0, "length", "()I"⟩
abbrev cJ0_charAt_5068e : ByteArray := prog_13_method_56_code
def yJ0_charAt_5068e : MethodName := ⟨RJ0, "charAt", "(I)C"⟩
abbrev cJ0_coder_7d493 : ByteArray := prog_13_method_152_code
def yJ0_coder_7d493 : MethodName := ⟨RJ0, "coder", "()B"⟩
abbrev cJ0_isLatin1_aae02 : ByteArray := prog_13_method_154_code
def yJ0_isLatin1_aae02 : MethodName := ⟨RJ0, "isLatin1", "()Z"⟩
abbrev cJ0_checkIndex_df160 : ByteArray := prog_13_method_155_code
def yJ0_checkIndex_df160 : MethodName := ⟨RJ0, "checkIndex", "(II)V"⟩
def RJ1 : String := "java/lang/StringLatin1"
def TJ1 : u_T := fun k => match k with
  | _ => ("", "", "", false)
def tyJ1 : Nat → FieldType := fun k => match k with
  | _ => .int
abbrev wsJ10 : List Cond := u_ws RJ1 TJ1 0
theorem nmJ1 : ∀ a, a < 0 → ∀ b, b < 0 → a ≠ b → (TJ1 a).2.1 ≠ (TJ1 b).2.1 := by decide +kernel
theorem tyJ1_ok : ∀ k, k < 0 → parseFieldDescriptor (TJ1 k).2.2.1 = some (tyJ1 k) := by decide +kernel
abbrev cJ1_charAt_3b067 : ByteArray := prog_14_method_2_code
def yJ1_charAt_3b067 : MethodName := ⟨RJ1, "charAt", "([BI)C"⟩
def RJ2 : String := "java/lang/StringUTF16"
def TJ2 : u_T := fun k => match k with
  | _ => ("", "", "", false)
def tyJ2 : Nat → FieldType := fun k => match k with
  | _ => .int
abbrev wsJ20 : List Cond := u_ws RJ2 TJ2 0
theorem nmJ2 : ∀ a, a < 0 → ∀ b, b < 0 → a ≠ b → (TJ2 a).2.1 ≠ (TJ2 b).2.1 := by decide +kernel
theorem tyJ2_ok : ∀ k, k < 0 → parseFieldDescriptor (TJ2 k).2.2.1 = some (tyJ2 k) := by decide +kernel
abbrev cJ2_getChar_3b067 : ByteArray := prog_15_method_5_code
def yJ2_getChar_3b067 : MethodName := ⟨RJ2, "getChar", "([BI)C"⟩
abbrev cJ2_length_9d52b : ByteArray := prog_15_method_6_code
def yJ2_length_9d52b : MethodName := ⟨RJ2, "length", "([B)I"⟩
abbrev cJ2_charAt_3b067 : ByteArray := prog_15_method_83_code
def yJ2_charAt_3b067 : MethodName := ⟨RJ2, "charAt", "([BI)C"⟩
abbrev cJ2_checkIndex_2214a : ByteArray := prog_15_method_91_code
def yJ2_checkIndex_2214a : MethodName := ⟨RJ2, "checkIndex", "(I[B)V"⟩
def RJ10 : String := "java/lang/System"
def TJ10 : u_T := fun k => match k with
  | _ => ("", "", "", false)
def tyJ10 : Nat → FieldType := fun k => match k with
  | _ => .int
abbrev wsJ100 : List Cond := u_ws RJ10 TJ10 0
theorem nmJ10 : ∀ a, a < 0 → ∀ b, b < 0 → a ≠ b → (TJ10 a).2.1 ≠ (TJ10 b).2.1 := by decide +kernel
theorem tyJ10_ok : ∀ k, k < 0 → parseFieldDescriptor (TJ10 k).2.2.1 = some (tyJ10 k) := by decide +kernel
def RJ7 : String := "java/util/Arrays"
def TJ7 : u_T := fun k => match k with
  | _ => ("", "", "", false)
def tyJ7 : Nat → FieldType := fun k => match k with
  | _ => .int
abbrev wsJ70 : List Cond := u_ws RJ7 TJ7 0
theorem nmJ7 : ∀ a, a < 0 → ∀ b, b < 0 → a ≠ b → (TJ7 a).2.1 ≠ (TJ7 b).2.1 := by decide +kernel
theorem tyJ7_ok : ∀ k, k < 0 → parseFieldDescriptor (TJ7 k).2.2.1 = some (tyJ7 k) := by decide +kernel
abbrev cJ7_fill_d0a16 : ByteArray := prog_17_method_101_code
def yJ7_fill_d0a16 : MethodName := ⟨RJ7, "fill", "([JJ)V"⟩
abbrev cJ7_fill_53178 : ByteArray := prog_17_method_103_code
def yJ7_fill_53178 : MethodName := ⟨RJ7, "fill", "([II)V"⟩
def RJ3 : String := "jdk/internal/util/Preconditions"
def TJ3 : u_T := fun k => match k with
  | _ => ("", "", "", false)
def tyJ3 : Nat → FieldType := fun k => match k with
  | _ => .int
abbrev wsJ30 : List Cond := u_ws RJ3 TJ3 0
theorem nmJ3 : ∀ a, a < 0 → ∀ b, b < 0 → a ≠ b → (TJ3 a).2.1 ≠ (TJ3 b).2.1 := by decide +kernel
theorem tyJ3_ok : ∀ k, k < 0 → parseFieldDescriptor (TJ3 k).2.2.1 = some (tyJ3 k) := by decide +kernel
abbrev cJ3_checkIndex_8e157 : ByteArray := prog_18_method_11_code
def yJ3_checkIndex_8e157 : MethodName := ⟨RJ3, "checkIndex", "(IILjava/util/function/BiFunction;)I"⟩
def RL : String := "FishingKitesLaw"
abbrev cL_law : ByteArray := code
def yL_law : MethodName := ⟨RL, "law", "([I)Z"⟩
abbrev vwCl : List vw_C := [(RX0, TX0, 3), (RX1, TX1, 11), (RX2, TX2, 6), (RX3, TX3, 2), (RX4, TX4, 8), (RX5, TX5, 5), (RX6, TX6, 6), (RX7, TX7, 5), (RX8, TX8, 11), (RX9, TX9, 24)]
/-- the words that every method is given -/
def BIG : List Cond := lw_tbl.filter goodWord
theorem mB_sel {w : Cond} (h : w ∈ k2_sels lw_privs) (g : goodWord w = true) : w ∈ BIG := List.mem_filter.mpr ⟨List.mem_append_left _ h, g⟩
theorem mB_tab {w : Cond} (h : w ∈ tables_1) (g : goodWord w = true) : w ∈ BIG := List.mem_filter.mpr ⟨List.mem_append_right _ h, g⟩
theorem mB_1 {w : Cond} (h : w ∈ tables_1_1) (g : goodWord w = true) : w ∈ BIG := mB_tab (List.mem_append_left _ h) g
theorem mT_1 {w : Cond} (h : w ∈ tables_1_1) : w ∈ lw_tbl := List.mem_append_right _ (List.mem_append_left _ h)
theorem mB_2 {w : Cond} (h : w ∈ tables_1_2) (g : goodWord w = true) : w ∈ BIG := mB_tab (List.mem_append_right _ (List.mem_append_left _ h)) g
theorem mT_2 {w : Cond} (h : w ∈ tables_1_2) : w ∈ lw_tbl := List.mem_append_right _ (List.mem_append_right _ (List.mem_append_left _ h))
theorem mB_3 {w : Cond} (h : w ∈ tables_1_3) (g : goodWord w = true) : w ∈ BIG := mB_tab (List.mem_append_right _ (List.mem_append_right _ (List.mem_append_left _ h))) g
theorem mT_3 {w : Cond} (h : w ∈ tables_1_3) : w ∈ lw_tbl := List.mem_append_right _ (List.mem_append_right _ (List.mem_append_right _ (List.mem_append_left _ h)))
theorem mB_4 {w : Cond} (h : w ∈ tables_1_4) (g : goodWord w = true) : w ∈ BIG := mB_tab (List.mem_append_right _ (List.mem_append_right _ (List.mem_append_right _ (List.mem_append_left _ h)))) g
theorem mT_4 {w : Cond} (h : w ∈ tables_1_4) : w ∈ lw_tbl := List.mem_append_right _ (List.mem_append_right _ (List.mem_append_right _ (List.mem_append_right _ (List.mem_append_left _ h))))
theorem mB_5 {w : Cond} (h : w ∈ tables_1_5) (g : goodWord w = true) : w ∈ BIG := mB_tab (List.mem_append_right _ (List.mem_append_right _ (List.mem_append_right _ (List.mem_append_right _ h)))) g
theorem mT_5 {w : Cond} (h : w ∈ tables_1_5) : w ∈ lw_tbl := List.mem_append_right _ (List.mem_append_right _ (List.mem_append_right _ (List.mem_append_right _ (List.mem_append_right _ h))))
theorem BIG_good {X : List Cond} (c : Cond) (hX : ∀ w ∈ BIG, w ∈ X) : GoodIn X BIG := fun w h => ⟨hX w h, good_of_word (List.mem_filter.mp h).2⟩
theorem BIG_in : ∀ w ∈ BIG, w ∈ lw_tbl := fun w h => (List.mem_filter.mp h).1
theorem kIN_L : Cond.initialized RL ∈ BIG := mB_1 (List.mem_of_getElem? (i := 0) rfl) rfl
theorem kIN_X8 : Cond.initialized RX8 ∈ BIG := mB_1 (List.mem_of_getElem? (i := 1) rfl) rfl
theorem kIN_X7 : Cond.initialized RX7 ∈ BIG := mB_1 (List.mem_of_getElem? (i := 2) rfl) rfl
theorem kIN_X4 : Cond.initialized RX4 ∈ BIG := mB_1 (List.mem_of_getElem? (i := 3) rfl) rfl
theorem kIN_X2 : Cond.initialized RX2 ∈ BIG := mB_1 (List.mem_of_getElem? (i := 4) rfl) rfl
theorem kIN_X6 : Cond.initialized RX6 ∈ BIG := mB_1 (List.mem_of_getElem? (i := 5) rfl) rfl
theorem kIN_X0 : Cond.initialized RX0 ∈ BIG := mB_1 (List.mem_of_getElem? (i := 6) rfl) rfl
theorem kIN_X1 : Cond.initialized RX1 ∈ BIG := mB_1 (List.mem_of_getElem? (i := 7) rfl) rfl
theorem kIN_X5 : Cond.initialized RX5 ∈ BIG := mB_1 (List.mem_of_getElem? (i := 8) rfl) rfl
theorem kIN_X3 : Cond.initialized RX3 ∈ BIG := mB_1 (List.mem_of_getElem? (i := 9) rfl) rfl
theorem kIN_X9 : Cond.initialized RX9 ∈ BIG := mB_1 (List.mem_of_getElem? (i := 10) rfl) rfl
theorem kIN_J0 : Cond.initialized RJ0 ∈ BIG := mB_1 (List.mem_of_getElem? (i := 11) rfl) rfl
theorem kIN_J1 : Cond.initialized RJ1 ∈ BIG := mB_1 (List.mem_of_getElem? (i := 12) rfl) rfl
theorem kIN_J3 : Cond.initialized RJ3 ∈ BIG := mB_1 (List.mem_of_getElem? (i := 13) rfl) rfl
theorem kIN_J2 : Cond.initialized RJ2 ∈ BIG := mB_1 (List.mem_of_getElem? (i := 14) rfl) rfl
theorem kIN_J7 : Cond.initialized RJ7 ∈ BIG := mB_1 (List.mem_of_getElem? (i := 15) rfl) rfl
theorem kIN_J10 : Cond.initialized RJ10 ∈ BIG := mB_1 (List.mem_of_getElem? (i := 16) rfl) rfl
theorem kIN_J9 : Cond.initialized RJ9 ∈ BIG := mB_1 (List.mem_of_getElem? (i := 17) rfl) rfl
theorem kCL_L_7 : Cond.classLink RL 7 RX8 ∈ BIG := mB_1 (List.mem_of_getElem? (i := 18) rfl) rfl
theorem kIS_X8 : Cond.instantiable RX8 11 ∈ BIG := mB_1 (List.mem_of_getElem? (i := 19) rfl) rfl
theorem kML_L_9 : Cond.methodLink RL 9 yX8_init ∈ BIG := mB_1 (List.mem_of_getElem? (i := 20) rfl) rfl
theorem kIM_X8_init : Cond.instanceMethod yX8_init ∈ BIG := mB_1 (List.mem_of_getElem? (i := 21) rfl) rfl
theorem kCD_X8_init : Cond.code yX8_init cX8_init 2 none ∈ BIG := mB_1 (List.mem_of_getElem? (i := 22) rfl) rfl
theorem kML_X8_3 : Cond.methodLink RX8 3 objectInit ∈ BIG := mB_1 (List.mem_of_getElem? (i := 23) rfl) rfl
theorem kIM_objectInit : Cond.instanceMethod objectInit ∈ BIG := mB_1 (List.mem_of_getElem? (i := 24) rfl) rfl
theorem kCD_objectInit : Cond.code objectInit ⟨#[0xb1]⟩ 1 none ∈ BIG := mB_1 (List.mem_of_getElem? (i := 25) rfl) rfl
theorem kCL_X8_9 : Cond.classLink RX8 9 RX7 ∈ BIG := mB_1 (List.mem_of_getElem? (i := 26) rfl) rfl
theorem kIS_X7 : Cond.instantiable RX7 5 ∈ BIG := mB_1 (List.mem_of_getElem? (i := 27) rfl) rfl
theorem kNM_X8_11 : Cond.methodLinkNest RX8 11 yX7_init "FishingKites" ∈ lw_tbl := mT_1 (List.mem_of_getElem? (i := 28) rfl)
theorem kIM_X7_init : Cond.instanceMethod yX7_init ∈ BIG := mB_1 (List.mem_of_getElem? (i := 29) rfl) rfl
theorem kCD_X7_init : Cond.code yX7_init cX7_init 1 none ∈ BIG := mB_1 (List.mem_of_getElem? (i := 30) rfl) rfl
theorem kML_X7_3 : Cond.methodLink RX7 3 objectInit ∈ BIG := mB_1 (List.mem_of_getElem? (i := 31) rfl) rfl
theorem kFL_X7_9 : Cond.fieldLink RX7 9 "FishingKites$Text" "bytes" "[I" ∈ BIG := mB_1 (List.mem_of_getElem? (i := 32) rfl) rfl
theorem kFL_X7_15 : Cond.fieldLink RX7 15 "FishingKites$Text" "numbers" "[I" ∈ BIG := mB_1 (List.mem_of_getElem? (i := 33) rfl) rfl
theorem kFL_X7_18 : Cond.fieldLink RX7 18 "FishingKites$Text" "length" "I" ∈ BIG := mB_1 (List.mem_of_getElem? (i := 34) rfl) rfl
theorem kFL_X8_72 : Cond.fieldLink RX8 72 "FishingKites$Text" "length" "I" ∈ BIG := mB_1 (List.mem_of_getElem? (i := 35) rfl) rfl
theorem kFL_X7_27 : Cond.fieldLink RX7 27 "FishingKites$Text" "lines" "I" ∈ BIG := mB_1 (List.mem_of_getElem? (i := 36) rfl) rfl
theorem kFL_X8_97 : Cond.fieldLink RX8 97 "FishingKites$Text" "lines" "I" ∈ BIG := mB_1 (List.mem_of_getElem? (i := 37) rfl) rfl
theorem kFL_X7_24 : Cond.fieldLink RX7 24 "FishingKites$Text" "at" "I" ∈ BIG := mB_1 (List.mem_of_getElem? (i := 38) rfl) rfl
theorem kAC_int : Cond.arrayClass .int ∈ BIG := mB_1 (List.mem_of_getElem? (i := 50) rfl) rfl
theorem kCL_X8_16 : Cond.classLink RX8 16 RX4 ∈ BIG := mB_1 (List.mem_of_getElem? (i := 51) rfl) rfl
theorem kIS_X4 : Cond.instantiable RX4 8 ∈ BIG := mB_1 (List.mem_of_getElem? (i := 52) rfl) rfl
theorem kML_X8_18 : Cond.methodLink RX8 18 yX4_init ∈ BIG := mB_1 (List.mem_of_getElem? (i := 53) rfl) rfl
theorem kIM_X4_init : Cond.instanceMethod yX4_init ∈ BIG := mB_1 (List.mem_of_getElem? (i := 54) rfl) rfl
theorem kCD_X4_init : Cond.code yX4_init cX4_init 2 none ∈ BIG := mB_1 (List.mem_of_getElem? (i := 55) rfl) rfl
theorem kML_X4_3 : Cond.methodLink RX4 3 objectInit ∈ BIG := mB_1 (List.mem_of_getElem? (i := 56) rfl) rfl
theorem kCL_X4_9 : Cond.classLink RX4 9 RX2 ∈ BIG := mB_1 (List.mem_of_getElem? (i := 57) rfl) rfl
theorem kAO_X2 : Cond.arrayOver (.object "FishingKites$Kite") ∈ lw_tbl := mT_1 (List.mem_of_getElem? (i := 58) rfl)
theorem kCL_X4_17 : Cond.classLink RX4 17 RX6 ∈ BIG := mB_1 (List.mem_of_getElem? (i := 59) rfl) rfl
theorem kAO_X6 : Cond.arrayOver (.object "FishingKites$Shoal") ∈ lw_tbl := mT_1 (List.mem_of_getElem? (i := 60) rfl)
theorem kIS_X2 : Cond.instantiable RX2 6 ∈ BIG := mB_1 (List.mem_of_getElem? (i := 61) rfl) rfl
theorem kNM_X4_34 : Cond.methodLinkNest RX4 34 yX2_init "FishingKites" ∈ lw_tbl := mT_1 (List.mem_of_getElem? (i := 62) rfl)
theorem kIM_X2_init : Cond.instanceMethod yX2_init ∈ BIG := mB_1 (List.mem_of_getElem? (i := 63) rfl) rfl
theorem kCD_X2_init : Cond.code yX2_init cX2_init 1 none ∈ BIG := mB_1 (List.mem_of_getElem? (i := 64) rfl) rfl
theorem kML_X2_1 : Cond.methodLink RX2 1 objectInit ∈ BIG := mB_1 (List.mem_of_getElem? (i := 65) rfl) rfl
theorem kFL_X4_67 : Cond.fieldLink RX4 67 "FishingKites$Kite" "told" "Z" ∈ BIG := mB_1 (List.mem_of_getElem? (i := 66) rfl) rfl
theorem kFL_X4_71 : Cond.fieldLink RX4 71 "FishingKites$Kite" "post" "I" ∈ BIG := mB_1 (List.mem_of_getElem? (i := 67) rfl) rfl
theorem kFL_X4_74 : Cond.fieldLink RX4 74 "FishingKites$Kite" "size" "I" ∈ BIG := mB_1 (List.mem_of_getElem? (i := 68) rfl) rfl
theorem kFL_X4_77 : Cond.fieldLink RX4 77 "FishingKites$Kite" "string" "I" ∈ BIG := mB_1 (List.mem_of_getElem? (i := 69) rfl) rfl
theorem kFL_X1_100 : Cond.fieldLink RX1 100 "FishingKites$Kite" "string" "I" ∈ BIG := mB_1 (List.mem_of_getElem? (i := 70) rfl) rfl
theorem kFL_X5_107 : Cond.fieldLink RX5 107 "FishingKites$Kite" "string" "I" ∈ BIG := mB_1 (List.mem_of_getElem? (i := 71) rfl) rfl
theorem kFL_X4_80 : Cond.fieldLink RX4 80 "FishingKites$Kite" "net" "I" ∈ BIG := mB_1 (List.mem_of_getElem? (i := 72) rfl) rfl
theorem kFL_X1_118 : Cond.fieldLink RX1 118 "FishingKites$Kite" "net" "I" ∈ BIG := mB_1 (List.mem_of_getElem? (i := 73) rfl) rfl
theorem kFL_X5_89 : Cond.fieldLink RX5 89 "FishingKites$Kite" "net" "I" ∈ BIG := mB_1 (List.mem_of_getElem? (i := 74) rfl) rfl
theorem kFL_X4_83 : Cond.fieldLink RX4 83 "FishingKites$Kite" "clan" "I" ∈ BIG := mB_1 (List.mem_of_getElem? (i := 75) rfl) rfl
theorem kIS_X6 : Cond.instantiable RX6 6 ∈ BIG := mB_1 (List.mem_of_getElem? (i := 89) rfl) rfl
theorem kNM_X4_35 : Cond.methodLinkNest RX4 35 yX6_init "FishingKites" ∈ lw_tbl := mT_1 (List.mem_of_getElem? (i := 90) rfl)
theorem kIM_X6_init : Cond.instanceMethod yX6_init ∈ BIG := mB_1 (List.mem_of_getElem? (i := 91) rfl) rfl
theorem kCD_X6_init : Cond.code yX6_init cX6_init 1 none ∈ BIG := mB_1 (List.mem_of_getElem? (i := 92) rfl) rfl
theorem kML_X6_1 : Cond.methodLink RX6 1 objectInit ∈ BIG := mB_1 (List.mem_of_getElem? (i := 93) rfl) rfl
theorem kFL_X4_86 : Cond.fieldLink RX4 86 "FishingKites$Shoal" "told" "Z" ∈ BIG := mB_1 (List.mem_of_getElem? (i := 94) rfl) rfl
theorem kFL_X4_87 : Cond.fieldLink RX4 87 "FishingKites$Shoal" "x" "I" ∈ BIG := mB_1 (List.mem_of_getElem? (i := 95) rfl) rfl
theorem kFL_X4_90 : Cond.fieldLink RX4 90 "FishingKites$Shoal" "y" "I" ∈ BIG := mB_1 (List.mem_of_getElem? (i := 96) rfl) rfl
theorem kFL_X4_93 : Cond.fieldLink RX4 93 "FishingKites$Shoal" "moveX" "I" ∈ BIG := mB_1 (List.mem_of_getElem? (i := 97) rfl) rfl
theorem kFL_X4_96 : Cond.fieldLink RX4 96 "FishingKites$Shoal" "moveY" "I" ∈ BIG := mB_1 (List.mem_of_getElem? (i := 98) rfl) rfl
theorem kFL_X1_40 : Cond.fieldLink RX1 40 "FishingKites$Shoal" "many" "I" ∈ BIG := mB_1 (List.mem_of_getElem? (i := 99) rfl) rfl
theorem kFL_X4_99 : Cond.fieldLink RX4 99 "FishingKites$Shoal" "many" "I" ∈ BIG := mB_1 (List.mem_of_getElem? (i := 100) rfl) rfl
theorem kFL_X4_11 : Cond.fieldLink RX4 11 "FishingKites$Sea" "kites" "[LFishingKites$Kite;" ∈ BIG := mB_1 (List.mem_of_getElem? (i := 114) rfl) rfl
theorem kFL_X1_96 : Cond.fieldLink RX1 96 "FishingKites$Sea" "kites" "[LFishingKites$Kite;" ∈ BIG := mB_1 (List.mem_of_getElem? (i := 115) rfl) rfl
theorem kFL_X5_85 : Cond.fieldLink RX5 85 "FishingKites$Sea" "kites" "[LFishingKites$Kite;" ∈ BIG := mB_1 (List.mem_of_getElem? (i := 116) rfl) rfl
theorem kFL_X4_19 : Cond.fieldLink RX4 19 "FishingKites$Sea" "shoals" "[LFishingKites$Shoal;" ∈ BIG := mB_1 (List.mem_of_getElem? (i := 117) rfl) rfl
theorem kFL_X1_36 : Cond.fieldLink RX1 36 "FishingKites$Sea" "shoals" "[LFishingKites$Shoal;" ∈ BIG := mB_1 (List.mem_of_getElem? (i := 118) rfl) rfl
theorem kFL_X4_23 : Cond.fieldLink RX4 23 "FishingKites$Sea" "strength" "[I" ∈ BIG := mB_1 (List.mem_of_getElem? (i := 119) rfl) rfl
theorem kFL_X8_106 : Cond.fieldLink RX8 106 "FishingKites$Sea" "strength" "[I" ∈ BIG := mB_1 (List.mem_of_getElem? (i := 120) rfl) rfl
theorem kFL_X4_27 : Cond.fieldLink RX4 27 "FishingKites$Sea" "drift" "[I" ∈ BIG := mB_1 (List.mem_of_getElem? (i := 121) rfl) rfl
theorem kFL_X8_114 : Cond.fieldLink RX8 114 "FishingKites$Sea" "drift" "[I" ∈ BIG := mB_1 (List.mem_of_getElem? (i := 122) rfl) rfl
theorem kFL_X4_46 : Cond.fieldLink RX4 46 "FishingKites$Sea" "law" "I" ∈ BIG := mB_1 (List.mem_of_getElem? (i := 123) rfl) rfl
theorem kFL_X5_57 : Cond.fieldLink RX5 57 "FishingKites$Sea" "law" "I" ∈ BIG := mB_1 (List.mem_of_getElem? (i := 124) rfl) rfl
theorem kFL_X8_139 : Cond.fieldLink RX8 139 "FishingKites$Sea" "law" "I" ∈ BIG := mB_1 (List.mem_of_getElem? (i := 125) rfl) rfl
theorem kFL_X4_30 : Cond.fieldLink RX4 30 "FishingKites$Sea" "stock" "I" ∈ BIG := mB_1 (List.mem_of_getElem? (i := 126) rfl) rfl
theorem kFL_X1_105 : Cond.fieldLink RX1 105 "FishingKites$Sea" "stock" "I" ∈ BIG := mB_1 (List.mem_of_getElem? (i := 127) rfl) rfl
theorem kFL_X5_110 : Cond.fieldLink RX5 110 "FishingKites$Sea" "stock" "I" ∈ BIG := mB_1 (List.mem_of_getElem? (i := 128) rfl) rfl
theorem kFL_X8_252 : Cond.fieldLink RX8 252 "FishingKites$Sea" "stock" "I" ∈ BIG := mB_1 (List.mem_of_getElem? (i := 129) rfl) rfl
theorem kFL_X4_102 : Cond.fieldLink RX4 102 "FishingKites$Sea" "fog" "I" ∈ BIG := mB_1 (List.mem_of_getElem? (i := 130) rfl) rfl
theorem kFL_X8_255 : Cond.fieldLink RX8 255 "FishingKites$Sea" "fog" "I" ∈ BIG := mB_1 (List.mem_of_getElem? (i := 131) rfl) rfl
theorem kFL_X4_53 : Cond.fieldLink RX4 53 "FishingKites$Sea" "gulls" "I" ∈ BIG := mB_1 (List.mem_of_getElem? (i := 132) rfl) rfl
theorem kFL_X8_258 : Cond.fieldLink RX8 258 "FishingKites$Sea" "gulls" "I" ∈ BIG := mB_1 (List.mem_of_getElem? (i := 133) rfl) rfl
theorem kCL_X8_23 : Cond.classLink RX8 23 RX0 ∈ BIG := mB_1 (List.mem_of_getElem? (i := 151) rfl) rfl
theorem kIS_X0 : Cond.instantiable RX0 3 ∈ BIG := mB_1 (List.mem_of_getElem? (i := 152) rfl) rfl
theorem kNM_X8_25 : Cond.methodLinkNest RX8 25 yX0_init "FishingKites" ∈ lw_tbl := mT_1 (List.mem_of_getElem? (i := 153) rfl)
theorem kIM_X0_init : Cond.instanceMethod yX0_init ∈ BIG := mB_1 (List.mem_of_getElem? (i := 154) rfl) rfl
theorem kCD_X0_init : Cond.code yX0_init cX0_init 1 none ∈ BIG := mB_1 (List.mem_of_getElem? (i := 155) rfl) rfl
theorem kML_X0_3 : Cond.methodLink RX0 3 objectInit ∈ BIG := mB_1 (List.mem_of_getElem? (i := 156) rfl) rfl
theorem kFL_X0_9 : Cond.fieldLink RX0 9 "FishingKites$Chart" "freeHours" "[I" ∈ BIG := mB_1 (List.mem_of_getElem? (i := 157) rfl) rfl
theorem kFL_X0_15 : Cond.fieldLink RX0 15 "FishingKites$Chart" "shoalsMet" "[I" ∈ BIG := mB_1 (List.mem_of_getElem? (i := 158) rfl) rfl
theorem kFL_X0_18 : Cond.fieldLink RX0 18 "FishingKites$Chart" "kitesCrossed" "[I" ∈ BIG := mB_1 (List.mem_of_getElem? (i := 159) rfl) rfl
theorem kCL_X8_30 : Cond.classLink RX8 30 RX1 ∈ BIG := mB_1 (List.mem_of_getElem? (i := 167) rfl) rfl
theorem kIS_X1 : Cond.instantiable RX1 11 ∈ BIG := mB_1 (List.mem_of_getElem? (i := 168) rfl) rfl
theorem kNM_X8_32 : Cond.methodLinkNest RX8 32 yX1_init "FishingKites" ∈ lw_tbl := mT_1 (List.mem_of_getElem? (i := 169) rfl)
theorem kIM_X1_init : Cond.instanceMethod yX1_init ∈ BIG := mB_1 (List.mem_of_getElem? (i := 170) rfl) rfl
theorem kCD_X1_init : Cond.code yX1_init cX1_init 1 none ∈ BIG := mB_1 (List.mem_of_getElem? (i := 171) rfl) rfl
theorem kML_X1_3 : Cond.methodLink RX1 3 objectInit ∈ BIG := mB_1 (List.mem_of_getElem? (i := 172) rfl) rfl
theorem kFL_X1_65 : Cond.fieldLink RX1 65 "FishingKites$Day" "hours" "I" ∈ BIG := mB_1 (List.mem_of_getElem? (i := 173) rfl) rfl
theorem kFL_X8_120 : Cond.fieldLink RX8 120 "FishingKites$Day" "hours" "I" ∈ BIG := mB_1 (List.mem_of_getElem? (i := 174) rfl) rfl
theorem kFL_X5_94 : Cond.fieldLink RX5 94 "FishingKites$Day" "hours" "I" ∈ BIG := mB_1 (List.mem_of_getElem? (i := 175) rfl) rfl
theorem kFL_X1_68 : Cond.fieldLink RX1 68 "FishingKites$Day" "up" "I" ∈ BIG := mB_1 (List.mem_of_getElem? (i := 176) rfl) rfl
theorem kFL_X5_78 : Cond.fieldLink RX5 78 "FishingKites$Day" "up" "I" ∈ BIG := mB_1 (List.mem_of_getElem? (i := 177) rfl) rfl
theorem kFL_X8_146 : Cond.fieldLink RX8 146 "FishingKites$Day" "up" "I" ∈ BIG := mB_1 (List.mem_of_getElem? (i := 178) rfl) rfl
theorem kFL_X1_50 : Cond.fieldLink RX1 50 "FishingKites$Day" "caught" "I" ∈ BIG := mB_1 (List.mem_of_getElem? (i := 179) rfl) rfl
theorem kFL_X5_66 : Cond.fieldLink RX5 66 "FishingKites$Day" "caught" "I" ∈ BIG := mB_1 (List.mem_of_getElem? (i := 180) rfl) rfl
theorem kFL_X8_261 : Cond.fieldLink RX8 261 "FishingKites$Day" "caught" "I" ∈ BIG := mB_1 (List.mem_of_getElem? (i := 181) rfl) rfl
theorem kFL_X1_53 : Cond.fieldLink RX1 53 "FishingKites$Day" "gullsHave" "I" ∈ BIG := mB_1 (List.mem_of_getElem? (i := 182) rfl) rfl
theorem kFL_X8_264 : Cond.fieldLink RX8 264 "FishingKites$Day" "gullsHave" "I" ∈ BIG := mB_1 (List.mem_of_getElem? (i := 183) rfl) rfl
theorem kFL_X1_56 : Cond.fieldLink RX1 56 "FishingKites$Day" "takings" "I" ∈ BIG := mB_1 (List.mem_of_getElem? (i := 184) rfl) rfl
theorem kFL_X8_194 : Cond.fieldLink RX8 194 "FishingKites$Day" "takings" "I" ∈ BIG := mB_1 (List.mem_of_getElem? (i := 185) rfl) rfl
theorem kFL_X1_9 : Cond.fieldLink RX1 9 "FishingKites$Day" "asked" "[I" ∈ BIG := mB_1 (List.mem_of_getElem? (i := 186) rfl) rfl
theorem kFL_X5_54 : Cond.fieldLink RX5 54 "FishingKites$Day" "asked" "[I" ∈ BIG := mB_1 (List.mem_of_getElem? (i := 187) rfl) rfl
theorem kFL_X8_136 : Cond.fieldLink RX8 136 "FishingKites$Day" "asked" "[I" ∈ BIG := mB_1 (List.mem_of_getElem? (i := 188) rfl) rfl
theorem kFL_X1_15 : Cond.fieldLink RX1 15 "FishingKites$Day" "catches" "[I" ∈ BIG := mB_1 (List.mem_of_getElem? (i := 189) rfl) rfl
theorem kFL_X8_153 : Cond.fieldLink RX8 153 "FishingKites$Day" "catches" "[I" ∈ BIG := mB_1 (List.mem_of_getElem? (i := 190) rfl) rfl
theorem kFL_X1_18 : Cond.fieldLink RX1 18 "FishingKites$Day" "upHours" "[I" ∈ BIG := mB_1 (List.mem_of_getElem? (i := 191) rfl) rfl
theorem kFL_X8_156 : Cond.fieldLink RX8 156 "FishingKites$Day" "upHours" "[I" ∈ BIG := mB_1 (List.mem_of_getElem? (i := 192) rfl) rfl
theorem kFL_X1_21 : Cond.fieldLink RX1 21 "FishingKites$Day" "gaveWay" "[I" ∈ BIG := mB_1 (List.mem_of_getElem? (i := 193) rfl) rfl
theorem kFL_X8_159 : Cond.fieldLink RX8 159 "FishingKites$Day" "gaveWay" "[I" ∈ BIG := mB_1 (List.mem_of_getElem? (i := 194) rfl) rfl
theorem kFL_X1_24 : Cond.fieldLink RX1 24 "FishingKites$Day" "left" "[I" ∈ BIG := mB_1 (List.mem_of_getElem? (i := 195) rfl) rfl
theorem kFL_X8_130 : Cond.fieldLink RX8 130 "FishingKites$Day" "left" "[I" ∈ BIG := mB_1 (List.mem_of_getElem? (i := 196) rfl) rfl
theorem kFL_X1_27 : Cond.fieldLink RX1 27 "FishingKites$Day" "notes" "[I" ∈ BIG := mB_1 (List.mem_of_getElem? (i := 197) rfl) rfl
theorem kFL_X8_197 : Cond.fieldLink RX8 197 "FishingKites$Day" "notes" "[I" ∈ BIG := mB_1 (List.mem_of_getElem? (i := 198) rfl) rfl
theorem kAO_X1 : Cond.arrayOver (.object "FishingKites$Day") ∈ lw_tbl := mT_1 (List.mem_of_getElem? (i := 222) rfl)
theorem kCL_X8_47 : Cond.classLink RX8 47 RX5 ∈ BIG := mB_1 (List.mem_of_getElem? (i := 223) rfl) rfl
theorem kIS_X5 : Cond.instantiable RX5 5 ∈ BIG := mB_1 (List.mem_of_getElem? (i := 224) rfl) rfl
theorem kNM_X8_49 : Cond.methodLinkNest RX8 49 yX5_init "FishingKites" ∈ lw_tbl := mT_1 (List.mem_of_getElem? (i := 225) rfl)
theorem kIM_X5_init : Cond.instanceMethod yX5_init ∈ BIG := mB_1 (List.mem_of_getElem? (i := 226) rfl) rfl
theorem kCD_X5_init : Cond.code yX5_init cX5_init 1 none ∈ BIG := mB_1 (List.mem_of_getElem? (i := 227) rfl) rfl
theorem kML_X5_3 : Cond.methodLink RX5 3 objectInit ∈ BIG := mB_1 (List.mem_of_getElem? (i := 228) rfl) rfl
theorem kFL_X5_18 : Cond.fieldLink RX5 18 "FishingKites$Search" "found" "Z" ∈ BIG := mB_1 (List.mem_of_getElem? (i := 229) rfl) rfl
theorem kFL_X5_38 : Cond.fieldLink RX5 38 "FishingKites$Search" "most" "I" ∈ BIG := mB_1 (List.mem_of_getElem? (i := 230) rfl) rfl
theorem kFL_X8_204 : Cond.fieldLink RX8 204 "FishingKites$Search" "most" "I" ∈ BIG := mB_1 (List.mem_of_getElem? (i := 231) rfl) rfl
theorem kFL_X5_22 : Cond.fieldLink RX5 22 "FishingKites$Search" "plan" "I" ∈ BIG := mB_1 (List.mem_of_getElem? (i := 232) rfl) rfl
theorem kFL_X5_9 : Cond.fieldLink RX5 9 "FishingKites$Search" "bound" "[I" ∈ BIG := mB_1 (List.mem_of_getElem? (i := 233) rfl) rfl
theorem kFL_X5_15 : Cond.fieldLink RX5 15 "FishingKites$Search" "boundBehind" "[I" ∈ BIG := mB_1 (List.mem_of_getElem? (i := 234) rfl) rfl
theorem kCL_X8_57 : Cond.classLink RX8 57 RX3 ∈ BIG := mB_2 (List.mem_of_getElem? (i := 6) rfl) rfl
theorem kIS_X3 : Cond.instantiable RX3 2 ∈ BIG := mB_2 (List.mem_of_getElem? (i := 7) rfl) rfl
theorem kNM_X8_59 : Cond.methodLinkNest RX8 59 yX3_init "FishingKites" ∈ lw_tbl := mT_2 (List.mem_of_getElem? (i := 8) rfl)
theorem kIM_X3_init : Cond.instanceMethod yX3_init ∈ BIG := mB_2 (List.mem_of_getElem? (i := 9) rfl) rfl
theorem kCD_X3_init : Cond.code yX3_init cX3_init 1 none ∈ BIG := mB_2 (List.mem_of_getElem? (i := 10) rfl) rfl
theorem kML_X3_3 : Cond.methodLink RX3 3 objectInit ∈ BIG := mB_2 (List.mem_of_getElem? (i := 11) rfl) rfl
theorem kFL_X3_9 : Cond.fieldLink RX3 9 "FishingKites$Odds" "weights" "[J" ∈ BIG := mB_2 (List.mem_of_getElem? (i := 12) rfl) rfl
theorem kFL_X3_15 : Cond.fieldLink RX3 15 "FishingKites$Odds" "drifted" "[J" ∈ BIG := mB_2 (List.mem_of_getElem? (i := 13) rfl) rfl
theorem kAC_long : Cond.arrayClass .long ∈ BIG := mB_2 (List.mem_of_getElem? (i := 19) rfl) rfl
theorem kFL_X8_12 : Cond.fieldLink RX8 12 "FishingKites" "text" "LFishingKites$Text;" ∈ BIG := mB_2 (List.mem_of_getElem? (i := 20) rfl) rfl
theorem kFL_X8_19 : Cond.fieldLink RX8 19 "FishingKites" "sea" "LFishingKites$Sea;" ∈ BIG := mB_2 (List.mem_of_getElem? (i := 21) rfl) rfl
theorem kFL_X8_26 : Cond.fieldLink RX8 26 "FishingKites" "chart" "LFishingKites$Chart;" ∈ BIG := mB_2 (List.mem_of_getElem? (i := 22) rfl) rfl
theorem kFL_X8_33 : Cond.fieldLink RX8 33 "FishingKites" "day" "LFishingKites$Day;" ∈ BIG := mB_2 (List.mem_of_getElem? (i := 23) rfl) rfl
theorem kFL_X8_37 : Cond.fieldLink RX8 37 "FishingKites" "morning" "LFishingKites$Day;" ∈ BIG := mB_2 (List.mem_of_getElem? (i := 24) rfl) rfl
theorem kFL_X8_40 : Cond.fieldLink RX8 40 "FishingKites" "trial" "LFishingKites$Day;" ∈ BIG := mB_2 (List.mem_of_getElem? (i := 25) rfl) rfl
theorem kFL_X8_43 : Cond.fieldLink RX8 43 "FishingKites" "kept" "[LFishingKites$Day;" ∈ BIG := mB_2 (List.mem_of_getElem? (i := 26) rfl) rfl
theorem kFL_X8_91 : Cond.fieldLink RX8 91 "FishingKites" "keptBits" "I" ∈ BIG := mB_2 (List.mem_of_getElem? (i := 27) rfl) rfl
theorem kFL_X8_50 : Cond.fieldLink RX8 50 "FishingKites" "hourSearch" "LFishingKites$Search;" ∈ BIG := mB_2 (List.mem_of_getElem? (i := 28) rfl) rfl
theorem kFL_X8_54 : Cond.fieldLink RX8 54 "FishingKites" "daySearch" "LFishingKites$Search;" ∈ BIG := mB_2 (List.mem_of_getElem? (i := 29) rfl) rfl
theorem kFL_X8_60 : Cond.fieldLink RX8 60 "FishingKites" "odds" "LFishingKites$Odds;" ∈ BIG := mB_2 (List.mem_of_getElem? (i := 30) rfl) rfl
theorem kML_L_15 : Cond.methodLink RL 15 yX8_write ∈ BIG := mB_2 (List.mem_of_getElem? (i := 54) rfl) rfl
theorem kIM_X8_write : Cond.instanceMethod yX8_write ∈ BIG := mB_2 (List.mem_of_getElem? (i := 55) rfl) rfl
theorem kSE_X8_write : Cond.selects RX8 yX8_write yX8_write ∈ BIG := mB_2 (List.mem_of_getElem? (i := 56) rfl) rfl
theorem kCD_X8_write : Cond.code yX8_write cX8_write 4 (Option.some .int) ∈ BIG := mB_2 (List.mem_of_getElem? (i := 57) rfl) rfl
theorem kML_X8_64 : Cond.methodLink RX8 64 yX7_hasRoom ∈ BIG := mB_2 (List.mem_of_getElem? (i := 58) rfl) rfl
theorem kIM_X7_hasRoom : Cond.instanceMethod yX7_hasRoom ∈ BIG := mB_2 (List.mem_of_getElem? (i := 59) rfl) rfl
theorem kSE_X7_hasRoom : Cond.selects RX7 yX7_hasRoom yX7_hasRoom ∈ BIG := mB_2 (List.mem_of_getElem? (i := 60) rfl) rfl
theorem kCD_X7_hasRoom : Cond.code yX7_hasRoom cX7_hasRoom 2 (Option.some .boolean) ∈ BIG := mB_2 (List.mem_of_getElem? (i := 61) rfl) rfl
theorem kML_X8_68 : Cond.methodLink RX8 68 yX7_append ∈ BIG := mB_2 (List.mem_of_getElem? (i := 62) rfl) rfl
theorem kIM_X7_append : Cond.instanceMethod yX7_append ∈ BIG := mB_2 (List.mem_of_getElem? (i := 63) rfl) rfl
theorem kSE_X7_append : Cond.selects RX7 yX7_append yX7_append ∈ BIG := mB_2 (List.mem_of_getElem? (i := 64) rfl) rfl
theorem kCD_X7_append : Cond.code yX7_append cX7_append 5 none ∈ BIG := mB_2 (List.mem_of_getElem? (i := 65) rfl) rfl
theorem kCO_X7_22 : Cond.constantLong RX7 22 255 ∈ BIG := mB_2 (List.mem_of_getElem? (i := 66) rfl) rfl
theorem kML_L_20 : Cond.methodLink RL 20 yX8_erase ∈ BIG := mB_2 (List.mem_of_getElem? (i := 67) rfl) rfl
theorem kIM_X8_erase : Cond.instanceMethod yX8_erase ∈ BIG := mB_2 (List.mem_of_getElem? (i := 68) rfl) rfl
theorem kSE_X8_erase : Cond.selects RX8 yX8_erase yX8_erase ∈ BIG := mB_2 (List.mem_of_getElem? (i := 69) rfl) rfl
theorem kCD_X8_erase : Cond.code yX8_erase cX8_erase 2 (Option.some .int) ∈ BIG := mB_2 (List.mem_of_getElem? (i := 70) rfl) rfl
theorem kML_L_25 : Cond.methodLink RL 25 yX8_fault ∈ BIG := mB_2 (List.mem_of_getElem? (i := 71) rfl) rfl
theorem kIM_X8_fault : Cond.instanceMethod yX8_fault ∈ BIG := mB_2 (List.mem_of_getElem? (i := 72) rfl) rfl
theorem kSE_X8_fault : Cond.selects RX8 yX8_fault yX8_fault ∈ BIG := mB_2 (List.mem_of_getElem? (i := 73) rfl) rfl
theorem kCD_X8_fault : Cond.code yX8_fault cX8_fault 1 (Option.some .int) ∈ BIG := mB_2 (List.mem_of_getElem? (i := 74) rfl) rfl
theorem kML_X8_76 : Cond.methodLink RX8 76 yX7_readInto ∈ BIG := mB_2 (List.mem_of_getElem? (i := 75) rfl) rfl
theorem kIM_X7_readInto : Cond.instanceMethod yX7_readInto ∈ BIG := mB_2 (List.mem_of_getElem? (i := 76) rfl) rfl
theorem kSE_X7_readInto : Cond.selects RX7 yX7_readInto yX7_readInto ∈ BIG := mB_2 (List.mem_of_getElem? (i := 77) rfl) rfl
theorem kCD_X7_readInto : Cond.code yX7_readInto cX7_readInto 4 (Option.some .int) ∈ BIG := mB_2 (List.mem_of_getElem? (i := 78) rfl) rfl
theorem kML_X7_30 : Cond.methodLink RX7 30 yX7_skipBlanks ∈ BIG := mB_2 (List.mem_of_getElem? (i := 79) rfl) rfl
theorem kIM_X7_skipBlanks : Cond.instanceMethod yX7_skipBlanks ∈ BIG := mB_2 (List.mem_of_getElem? (i := 80) rfl) rfl
theorem kSE_X7_skipBlanks : Cond.selects RX7 yX7_skipBlanks yX7_skipBlanks ∈ BIG := mB_2 (List.mem_of_getElem? (i := 81) rfl) rfl
theorem kCD_X7_skipBlanks : Cond.code yX7_skipBlanks cX7_skipBlanks 2 none ∈ BIG := mB_2 (List.mem_of_getElem? (i := 82) rfl) rfl
theorem kML_X7_47 : Cond.methodLink RX7 47 yX7_peek ∈ BIG := mB_2 (List.mem_of_getElem? (i := 83) rfl) rfl
theorem kIM_X7_peek : Cond.instanceMethod yX7_peek ∈ BIG := mB_2 (List.mem_of_getElem? (i := 84) rfl) rfl
theorem kSE_X7_peek : Cond.selects RX7 yX7_peek yX7_peek ∈ BIG := mB_2 (List.mem_of_getElem? (i := 85) rfl) rfl
theorem kCD_X7_peek : Cond.code yX7_peek cX7_peek 2 (Option.some .int) ∈ BIG := mB_2 (List.mem_of_getElem? (i := 86) rfl) rfl
theorem kML_X7_33 : Cond.methodLink RX7 33 yX7_readWord ∈ BIG := mB_2 (List.mem_of_getElem? (i := 87) rfl) rfl
theorem kIM_X7_readWord : Cond.instanceMethod yX7_readWord ∈ BIG := mB_2 (List.mem_of_getElem? (i := 88) rfl) rfl
theorem kSE_X7_readWord : Cond.selects RX7 yX7_readWord yX7_readWord ∈ BIG := mB_2 (List.mem_of_getElem? (i := 89) rfl) rfl
theorem kCD_X7_readWord : Cond.code yX7_readWord cX7_readWord 3 (Option.some .int) ∈ BIG := mB_2 (List.mem_of_getElem? (i := 90) rfl) rfl
theorem kML_X7_51 : Cond.methodLink RX7 51 yX7_isLetter ∈ BIG := mB_2 (List.mem_of_getElem? (i := 91) rfl) rfl
theorem kST_X7_isLetter : Cond.static yX7_isLetter ∈ BIG := mB_2 (List.mem_of_getElem? (i := 92) rfl) rfl
theorem kCD_X7_isLetter : Cond.code yX7_isLetter cX7_isLetter 1 (Option.some .boolean) ∈ BIG := mB_2 (List.mem_of_getElem? (i := 93) rfl) rfl
theorem kML_X7_54 : Cond.methodLink RX7 54 yX7_nameOf ∈ BIG := mB_2 (List.mem_of_getElem? (i := 94) rfl) rfl
theorem kST_X7_nameOf : Cond.static yX7_nameOf ∈ BIG := mB_2 (List.mem_of_getElem? (i := 95) rfl) rfl
theorem kCD_X7_nameOf : Cond.code yX7_nameOf cX7_nameOf 1 (Option.some (.object "java/lang/String")) ∈ BIG := mB_2 (List.mem_of_getElem? (i := 96) rfl) rfl
theorem kSR_X7_90 : Cond.stringRef RX7 90 "wind" ∈ lw_tbl := mT_2 (List.mem_of_getElem? (i := 97) rfl)
theorem kSR_X7_92 : Cond.stringRef RX7 92 "kite" ∈ lw_tbl := mT_2 (List.mem_of_getElem? (i := 98) rfl)
theorem kSR_X7_94 : Cond.stringRef RX7 94 "shoal" ∈ lw_tbl := mT_2 (List.mem_of_getElem? (i := 99) rfl)
theorem kSR_X7_96 : Cond.stringRef RX7 96 "law" ∈ lw_tbl := mT_2 (List.mem_of_getElem? (i := 100) rfl)
theorem kSR_X7_98 : Cond.stringRef RX7 98 "stock" ∈ lw_tbl := mT_2 (List.mem_of_getElem? (i := 101) rfl)
theorem kSR_X7_100 : Cond.stringRef RX7 100 "fog" ∈ lw_tbl := mT_2 (List.mem_of_getElem? (i := 102) rfl)
theorem kSR_X7_102 : Cond.stringRef RX7 102 "gulls" ∈ lw_tbl := mT_2 (List.mem_of_getElem? (i := 103) rfl)
theorem kSR_X7_104 : Cond.stringRef RX7 104 "calm" ∈ lw_tbl := mT_2 (List.mem_of_getElem? (i := 104) rfl)
theorem kSR_X7_106 : Cond.stringRef RX7 106 "lost" ∈ lw_tbl := mT_2 (List.mem_of_getElem? (i := 105) rfl)
theorem kML_X7_58 : Cond.methodLink RX7 58 yX7_isSpelled ∈ BIG := mB_2 (List.mem_of_getElem? (i := 106) rfl) rfl
theorem kIM_X7_isSpelled : Cond.instanceMethod yX7_isSpelled ∈ BIG := mB_2 (List.mem_of_getElem? (i := 107) rfl) rfl
theorem kSE_X7_isSpelled : Cond.selects RX7 yX7_isSpelled yX7_isSpelled ∈ BIG := mB_2 (List.mem_of_getElem? (i := 108) rfl) rfl
theorem kCD_X7_isSpelled : Cond.code yX7_isSpelled cX7_isSpelled 4 (Option.some .boolean) ∈ BIG := mB_2 (List.mem_of_getElem? (i := 109) rfl) rfl
theorem kML_X7_62 : Cond.methodLink RX7 62 yJ0_length_8abf5 ∈ BIG := mB_2 (List.mem_of_getElem? (i := 110) rfl) rfl
theorem kIM_J0_length_8abf5 : Cond.instanceMethod yJ0_length_8abf5 ∈ BIG := mB_2 (List.mem_of_getElem? (i := 111) rfl) rfl
theorem kSE_J0_length_8abf5 : Cond.selects RJ0 yJ0_length_8abf5 yJ0_length_8abf5 ∈ BIG := mB_2 (List.mem_of_getElem? (i := 112) rfl) rfl
theorem kCD_J0_length_8abf5 : Cond.code yJ0_length_8abf5 cJ0_length_8abf5 1 (Option.some .int) ∈ BIG := mB_2 (List.mem_of_getElem? (i := 113) rfl) rfl
theorem kML_J0_335 : Cond.methodLink RJ0 335 yJ0_coder_7d493 ∈ BIG := mB_2 (List.mem_of_getElem? (i := 114) rfl) rfl
theorem kIM_J0_coder_7d493 : Cond.instanceMethod yJ0_coder_7d493 ∈ BIG := mB_2 (List.mem_of_getElem? (i := 115) rfl) rfl
theorem kSE_J0_coder_7d493 : Cond.selects RJ0 yJ0_coder_7d493 yJ0_coder_7d493 ∈ BIG := mB_2 (List.mem_of_getElem? (i := 116) rfl) rfl
theorem kCD_J0_coder_7d493 : Cond.code yJ0_coder_7d493 cJ0_coder_7d493 1 (Option.some .byte) ∈ BIG := mB_2 (List.mem_of_getElem? (i := 117) rfl) rfl
theorem kFL_J0_38 : Cond.fieldLink RJ0 38 "java/lang/String" "COMPACT_STRINGS" "Z" ∈ BIG := mB_2 (List.mem_of_getElem? (i := 118) rfl) rfl
theorem kLS_COMPACT_STRINGS : Cond.laysStatic "java/lang/String" "COMPACT_STRINGS" "Z" ∈ lw_tbl := mT_2 (List.mem_of_getElem? (i := 119) rfl)
theorem kML_X7_66 : Cond.methodLink RX7 66 yJ0_charAt_5068e ∈ BIG := mB_2 (List.mem_of_getElem? (i := 120) rfl) rfl
theorem kIM_J0_charAt_5068e : Cond.instanceMethod yJ0_charAt_5068e ∈ BIG := mB_2 (List.mem_of_getElem? (i := 121) rfl) rfl
theorem kSE_J0_charAt_5068e : Cond.selects RJ0 yJ0_charAt_5068e yJ0_charAt_5068e ∈ BIG := mB_2 (List.mem_of_getElem? (i := 122) rfl) rfl
theorem kCD_J0_charAt_5068e : Cond.code yJ0_charAt_5068e cJ0_charAt_5068e 2 (Option.some .char) ∈ BIG := mB_2 (List.mem_of_getElem? (i := 123) rfl) rfl
theorem kML_J0_492 : Cond.methodLink RJ0 492 yJ0_isLatin1_aae02 ∈ BIG := mB_2 (List.mem_of_getElem? (i := 124) rfl) rfl
theorem kIM_J0_isLatin1_aae02 : Cond.instanceMethod yJ0_isLatin1_aae02 ∈ BIG := mB_2 (List.mem_of_getElem? (i := 125) rfl) rfl
theorem kSE_J0_isLatin1_aae02 : Cond.selects RJ0 yJ0_isLatin1_aae02 yJ0_isLatin1_aae02 ∈ BIG := mB_2 (List.mem_of_getElem? (i := 126) rfl) rfl
theorem kCD_J0_isLatin1_aae02 : Cond.code yJ0_isLatin1_aae02 cJ0_isLatin1_aae02 1 (Option.some .boolean) ∈ BIG := mB_2 (List.mem_of_getElem? (i := 127) rfl) rfl
theorem kML_J0_495 : Cond.methodLink RJ0 495 yJ1_charAt_3b067 ∈ BIG := mB_2 (List.mem_of_getElem? (i := 128) rfl) rfl
theorem kST_J1_charAt_3b067 : Cond.static yJ1_charAt_3b067 ∈ BIG := mB_2 (List.mem_of_getElem? (i := 129) rfl) rfl
theorem kCD_J1_charAt_3b067 : Cond.code yJ1_charAt_3b067 cJ1_charAt_3b067 2 (Option.some .char) ∈ BIG := mB_2 (List.mem_of_getElem? (i := 130) rfl) rfl
theorem kML_J1_9 : Cond.methodLink RJ1 9 yJ0_checkIndex_df160 ∈ BIG := mB_2 (List.mem_of_getElem? (i := 131) rfl) rfl
theorem kST_J0_checkIndex_df160 : Cond.static yJ0_checkIndex_df160 ∈ BIG := mB_2 (List.mem_of_getElem? (i := 132) rfl) rfl
theorem kCD_J0_checkIndex_df160 : Cond.code yJ0_checkIndex_df160 cJ0_checkIndex_df160 2 none ∈ BIG := mB_2 (List.mem_of_getElem? (i := 133) rfl) rfl
theorem kFL_J0_1053 : Cond.fieldLink RJ0 1053 "jdk/internal/util/Preconditions" "SIOOBE_FORMATTER" "Ljava/util/function/BiFunction;" ∈ BIG := mB_2 (List.mem_of_getElem? (i := 134) rfl) rfl
theorem kLS_SIOOBE_FORMATTER : Cond.laysStatic "jdk/internal/util/Preconditions" "SIOOBE_FORMATTER" "Ljava/util/function/BiFunction;" ∈ lw_tbl := mT_2 (List.mem_of_getElem? (i := 135) rfl)
theorem kML_J0_1059 : Cond.methodLink RJ0 1059 yJ3_checkIndex_8e157 ∈ BIG := mB_2 (List.mem_of_getElem? (i := 136) rfl) rfl
theorem kST_J3_checkIndex_8e157 : Cond.static yJ3_checkIndex_8e157 ∈ BIG := mB_2 (List.mem_of_getElem? (i := 137) rfl) rfl
theorem kCD_J3_checkIndex_8e157 : Cond.code yJ3_checkIndex_8e157 cJ3_checkIndex_8e157 3 (Option.some .int) ∈ BIG := mB_2 (List.mem_of_getElem? (i := 138) rfl) rfl
theorem kML_J0_498 : Cond.methodLink RJ0 498 yJ2_charAt_3b067 ∈ BIG := mB_2 (List.mem_of_getElem? (i := 139) rfl) rfl
theorem kST_J2_charAt_3b067 : Cond.static yJ2_charAt_3b067 ∈ BIG := mB_2 (List.mem_of_getElem? (i := 140) rfl) rfl
theorem kCD_J2_charAt_3b067 : Cond.code yJ2_charAt_3b067 cJ2_charAt_3b067 2 (Option.some .char) ∈ BIG := mB_2 (List.mem_of_getElem? (i := 141) rfl) rfl
theorem kML_J2_67 : Cond.methodLink RJ2 67 yJ2_checkIndex_2214a ∈ BIG := mB_2 (List.mem_of_getElem? (i := 142) rfl) rfl
theorem kST_J2_checkIndex_2214a : Cond.static yJ2_checkIndex_2214a ∈ BIG := mB_2 (List.mem_of_getElem? (i := 143) rfl) rfl
theorem kCD_J2_checkIndex_2214a : Cond.code yJ2_checkIndex_2214a cJ2_checkIndex_2214a 2 none ∈ BIG := mB_2 (List.mem_of_getElem? (i := 144) rfl) rfl
theorem kML_J2_48 : Cond.methodLink RJ2 48 yJ2_length_9d52b ∈ BIG := mB_2 (List.mem_of_getElem? (i := 145) rfl) rfl
theorem kST_J2_length_9d52b : Cond.static yJ2_length_9d52b ∈ BIG := mB_2 (List.mem_of_getElem? (i := 146) rfl) rfl
theorem kCD_J2_length_9d52b : Cond.code yJ2_length_9d52b cJ2_length_9d52b 1 (Option.some .int) ∈ BIG := mB_2 (List.mem_of_getElem? (i := 147) rfl) rfl
theorem kML_J2_414 : Cond.methodLink RJ2 414 yJ0_checkIndex_df160 ∈ BIG := mB_2 (List.mem_of_getElem? (i := 148) rfl) rfl
theorem kML_J2_71 : Cond.methodLink RJ2 71 yJ2_getChar_3b067 ∈ BIG := mB_2 (List.mem_of_getElem? (i := 149) rfl) rfl
theorem kST_J2_getChar_3b067 : Cond.static yJ2_getChar_3b067 ∈ BIG := mB_2 (List.mem_of_getElem? (i := 150) rfl) rfl
theorem kCD_J2_getChar_3b067 : Cond.code yJ2_getChar_3b067 cJ2_getChar_3b067 2 (Option.some .char) ∈ BIG := mB_2 (List.mem_of_getElem? (i := 151) rfl) rfl
theorem kFL_J2_44 : Cond.fieldLink RJ2 44 "java/lang/StringUTF16" "$assertionsDisabled" "Z" ∈ BIG := mB_2 (List.mem_of_getElem? (i := 152) rfl) rfl
theorem kLS__assertionsDisabled : Cond.laysStatic "java/lang/StringUTF16" "$assertionsDisabled" "Z" ∈ lw_tbl := mT_2 (List.mem_of_getElem? (i := 153) rfl)
theorem kFL_J2_59 : Cond.fieldLink RJ2 59 "java/lang/StringUTF16" "HI_BYTE_SHIFT" "I" ∈ BIG := mB_2 (List.mem_of_getElem? (i := 154) rfl) rfl
theorem kLS_HI_BYTE_SHIFT : Cond.laysStatic "java/lang/StringUTF16" "HI_BYTE_SHIFT" "I" ∈ lw_tbl := mT_2 (List.mem_of_getElem? (i := 155) rfl)
theorem kFL_J2_63 : Cond.fieldLink RJ2 63 "java/lang/StringUTF16" "LO_BYTE_SHIFT" "I" ∈ BIG := mB_2 (List.mem_of_getElem? (i := 156) rfl) rfl
theorem kLS_LO_BYTE_SHIFT : Cond.laysStatic "java/lang/StringUTF16" "LO_BYTE_SHIFT" "I" ∈ lw_tbl := mT_2 (List.mem_of_getElem? (i := 157) rfl)
theorem kML_X7_37 : Cond.methodLink RX7 37 yX7_readNumbers ∈ BIG := mB_2 (List.mem_of_getElem? (i := 158) rfl) rfl
theorem kIM_X7_readNumbers : Cond.instanceMethod yX7_readNumbers ∈ BIG := mB_2 (List.mem_of_getElem? (i := 159) rfl) rfl
theorem kSE_X7_readNumbers : Cond.selects RX7 yX7_readNumbers yX7_readNumbers ∈ BIG := mB_2 (List.mem_of_getElem? (i := 160) rfl) rfl
theorem kCD_X7_readNumbers : Cond.code yX7_readNumbers cX7_readNumbers 7 (Option.some .boolean) ∈ BIG := mB_2 (List.mem_of_getElem? (i := 161) rfl) rfl
theorem kNF_X7_70 : Cond.fieldLinkNest RX7 70 "FishingKites" "NUMBERS_FROM" "[I" "FishingKites" ∈ lw_tbl := mT_2 (List.mem_of_getElem? (i := 162) rfl)
theorem kLS_NUMBERS_FROM : Cond.laysStatic "FishingKites" "NUMBERS_FROM" "[I" ∈ lw_tbl := mT_2 (List.mem_of_getElem? (i := 163) rfl)
theorem kML_X7_73 : Cond.methodLink RX7 73 yX7_isEndOfHours ∈ BIG := mB_2 (List.mem_of_getElem? (i := 164) rfl) rfl
theorem kST_X7_isEndOfHours : Cond.static yX7_isEndOfHours ∈ BIG := mB_2 (List.mem_of_getElem? (i := 165) rfl) rfl
theorem kCD_X7_isEndOfHours : Cond.code yX7_isEndOfHours cX7_isEndOfHours 2 (Option.some .boolean) ∈ BIG := mB_2 (List.mem_of_getElem? (i := 166) rfl) rfl
theorem kNF_X7_77 : Cond.fieldLinkNest RX7 77 "FishingKites" "LEAST" "[I" "FishingKites" ∈ lw_tbl := mT_2 (List.mem_of_getElem? (i := 167) rfl)
theorem kLS_LEAST : Cond.laysStatic "FishingKites" "LEAST" "[I" ∈ lw_tbl := mT_2 (List.mem_of_getElem? (i := 168) rfl)
theorem kNF_X7_80 : Cond.fieldLinkNest RX7 80 "FishingKites" "MOST" "[I" "FishingKites" ∈ lw_tbl := mT_2 (List.mem_of_getElem? (i := 169) rfl)
theorem kLS_MOST : Cond.laysStatic "FishingKites" "MOST" "[I" ∈ lw_tbl := mT_2 (List.mem_of_getElem? (i := 170) rfl)
theorem kML_X7_83 : Cond.methodLink RX7 83 yX7_readNumber ∈ BIG := mB_2 (List.mem_of_getElem? (i := 171) rfl) rfl
theorem kIM_X7_readNumber : Cond.instanceMethod yX7_readNumber ∈ BIG := mB_2 (List.mem_of_getElem? (i := 172) rfl) rfl
theorem kSE_X7_readNumber : Cond.selects RX7 yX7_readNumber yX7_readNumber ∈ BIG := mB_2 (List.mem_of_getElem? (i := 173) rfl) rfl
theorem kCD_X7_readNumber : Cond.code yX7_readNumber cX7_readNumber 6 (Option.some .int) ∈ BIG := mB_2 (List.mem_of_getElem? (i := 174) rfl) rfl
theorem kML_X7_87 : Cond.methodLink RX7 87 yX7_isDigit ∈ BIG := mB_2 (List.mem_of_getElem? (i := 175) rfl) rfl
theorem kST_X7_isDigit : Cond.static yX7_isDigit ∈ BIG := mB_2 (List.mem_of_getElem? (i := 176) rfl) rfl
theorem kCD_X7_isDigit : Cond.code yX7_isDigit cX7_isDigit 1 (Option.some .boolean) ∈ BIG := mB_2 (List.mem_of_getElem? (i := 177) rfl) rfl
theorem kML_X7_41 : Cond.methodLink RX7 41 yX4_tell ∈ BIG := mB_2 (List.mem_of_getElem? (i := 178) rfl) rfl
theorem kIM_X4_tell : Cond.instanceMethod yX4_tell ∈ BIG := mB_2 (List.mem_of_getElem? (i := 179) rfl) rfl
theorem kSE_X4_tell : Cond.selects RX4 yX4_tell yX4_tell ∈ BIG := mB_2 (List.mem_of_getElem? (i := 180) rfl) rfl
theorem kCD_X4_tell : Cond.code yX4_tell cX4_tell 3 none ∈ BIG := mB_2 (List.mem_of_getElem? (i := 181) rfl) rfl
theorem kML_X4_36 : Cond.methodLink RX4 36 yX4_tellWind ∈ BIG := mB_2 (List.mem_of_getElem? (i := 182) rfl) rfl
theorem kIM_X4_tellWind : Cond.instanceMethod yX4_tellWind ∈ BIG := mB_2 (List.mem_of_getElem? (i := 183) rfl) rfl
theorem kSE_X4_tellWind : Cond.selects RX4 yX4_tellWind yX4_tellWind ∈ BIG := mB_2 (List.mem_of_getElem? (i := 184) rfl) rfl
theorem kCD_X4_tellWind : Cond.code yX4_tellWind cX4_tellWind 4 none ∈ BIG := mB_2 (List.mem_of_getElem? (i := 185) rfl) rfl
theorem kNM_X4_63 : Cond.methodLinkNest RX4 63 yX8_isHeight "FishingKites" ∈ lw_tbl := mT_2 (List.mem_of_getElem? (i := 186) rfl)
theorem kST_X8_isHeight : Cond.static yX8_isHeight ∈ BIG := mB_2 (List.mem_of_getElem? (i := 187) rfl) rfl
theorem kCD_X8_isHeight : Cond.code yX8_isHeight cX8_isHeight 1 (Option.some .boolean) ∈ BIG := mB_2 (List.mem_of_getElem? (i := 188) rfl) rfl
theorem kML_X4_40 : Cond.methodLink RX4 40 yX4_tellKite ∈ BIG := mB_2 (List.mem_of_getElem? (i := 189) rfl) rfl
theorem kIM_X4_tellKite : Cond.instanceMethod yX4_tellKite ∈ BIG := mB_2 (List.mem_of_getElem? (i := 190) rfl) rfl
theorem kSE_X4_tellKite : Cond.selects RX4 yX4_tellKite yX4_tellKite ∈ BIG := mB_2 (List.mem_of_getElem? (i := 191) rfl) rfl
theorem kCD_X4_tellKite : Cond.code yX4_tellKite cX4_tellKite 3 none ∈ BIG := mB_2 (List.mem_of_getElem? (i := 192) rfl) rfl
theorem kML_X4_43 : Cond.methodLink RX4 43 yX4_tellShoal ∈ BIG := mB_2 (List.mem_of_getElem? (i := 193) rfl) rfl
theorem kIM_X4_tellShoal : Cond.instanceMethod yX4_tellShoal ∈ BIG := mB_2 (List.mem_of_getElem? (i := 194) rfl) rfl
theorem kSE_X4_tellShoal : Cond.selects RX4 yX4_tellShoal yX4_tellShoal ∈ BIG := mB_2 (List.mem_of_getElem? (i := 195) rfl) rfl
theorem kCD_X4_tellShoal : Cond.code yX4_tellShoal cX4_tellShoal 3 none ∈ BIG := mB_2 (List.mem_of_getElem? (i := 196) rfl) rfl
theorem kML_X4_49 : Cond.methodLink RX4 49 yX4_tellFog ∈ BIG := mB_2 (List.mem_of_getElem? (i := 197) rfl) rfl
theorem kIM_X4_tellFog : Cond.instanceMethod yX4_tellFog ∈ BIG := mB_2 (List.mem_of_getElem? (i := 198) rfl) rfl
theorem kSE_X4_tellFog : Cond.selects RX4 yX4_tellFog yX4_tellFog ∈ BIG := mB_2 (List.mem_of_getElem? (i := 199) rfl) rfl
theorem kCD_X4_tellFog : Cond.code yX4_tellFog cX4_tellFog 4 none ∈ BIG := mB_2 (List.mem_of_getElem? (i := 200) rfl) rfl
theorem kML_X4_56 : Cond.methodLink RX4 56 yX4_tellCalm ∈ BIG := mB_2 (List.mem_of_getElem? (i := 201) rfl) rfl
theorem kIM_X4_tellCalm : Cond.instanceMethod yX4_tellCalm ∈ BIG := mB_2 (List.mem_of_getElem? (i := 202) rfl) rfl
theorem kSE_X4_tellCalm : Cond.selects RX4 yX4_tellCalm yX4_tellCalm ∈ BIG := mB_2 (List.mem_of_getElem? (i := 203) rfl) rfl
theorem kCD_X4_tellCalm : Cond.code yX4_tellCalm cX4_tellCalm 1 none ∈ BIG := mB_2 (List.mem_of_getElem? (i := 204) rfl) rfl
theorem kML_X4_105 : Cond.methodLink RX4 105 yJ7_fill_53178 ∈ BIG := mB_2 (List.mem_of_getElem? (i := 205) rfl) rfl
theorem kST_J7_fill_53178 : Cond.static yJ7_fill_53178 ∈ BIG := mB_2 (List.mem_of_getElem? (i := 206) rfl) rfl
theorem kCD_J7_fill_53178 : Cond.code yJ7_fill_53178 cJ7_fill_53178 4 none ∈ BIG := mB_2 (List.mem_of_getElem? (i := 207) rfl) rfl
theorem kML_X4_59 : Cond.methodLink RX4 59 yX4_tellLost ∈ BIG := mB_2 (List.mem_of_getElem? (i := 208) rfl) rfl
theorem kIM_X4_tellLost : Cond.instanceMethod yX4_tellLost ∈ BIG := mB_2 (List.mem_of_getElem? (i := 209) rfl) rfl
theorem kSE_X4_tellLost : Cond.selects RX4 yX4_tellLost yX4_tellLost ∈ BIG := mB_2 (List.mem_of_getElem? (i := 210) rfl) rfl
theorem kCD_X4_tellLost : Cond.code yX4_tellLost cX4_tellLost 2 none ∈ BIG := mB_2 (List.mem_of_getElem? (i := 211) rfl) rfl
theorem kAC_byte : Cond.arrayClass .byte ∈ BIG := mB_2 (List.mem_of_getElem? (i := 212) rfl) rfl
theorem kML_L_29 : Cond.methodLink RL 29 yX8_cliff ∈ BIG := mB_2 (List.mem_of_getElem? (i := 213) rfl) rfl
theorem kIM_X8_cliff : Cond.instanceMethod yX8_cliff ∈ BIG := mB_2 (List.mem_of_getElem? (i := 214) rfl) rfl
theorem kSE_X8_cliff : Cond.selects RX8 yX8_cliff yX8_cliff ∈ BIG := mB_2 (List.mem_of_getElem? (i := 215) rfl) rfl
theorem kCD_X8_cliff : Cond.code yX8_cliff cX8_cliff 1 (Option.some .int) ∈ BIG := mB_2 (List.mem_of_getElem? (i := 216) rfl) rfl
theorem kML_X8_80 : Cond.methodLink RX8 80 yX0_draw ∈ BIG := mB_2 (List.mem_of_getElem? (i := 217) rfl) rfl
theorem kIM_X0_draw : Cond.instanceMethod yX0_draw ∈ BIG := mB_2 (List.mem_of_getElem? (i := 218) rfl) rfl
theorem kSE_X0_draw : Cond.selects RX0 yX0_draw yX0_draw ∈ BIG := mB_2 (List.mem_of_getElem? (i := 219) rfl) rfl
theorem kCD_X0_draw : Cond.code yX0_draw cX0_draw 4 none ∈ BIG := mB_2 (List.mem_of_getElem? (i := 220) rfl) rfl
theorem kML_X0_21 : Cond.methodLink RX0 21 yX0_drawKite ∈ BIG := mB_2 (List.mem_of_getElem? (i := 221) rfl) rfl
theorem kIM_X0_drawKite : Cond.instanceMethod yX0_drawKite ∈ BIG := mB_2 (List.mem_of_getElem? (i := 222) rfl) rfl
theorem kSE_X0_drawKite : Cond.selects RX0 yX0_drawKite yX0_drawKite ∈ BIG := mB_2 (List.mem_of_getElem? (i := 223) rfl) rfl
theorem kCD_X0_drawKite : Cond.code yX0_drawKite cX0_drawKite 8 none ∈ BIG := mB_2 (List.mem_of_getElem? (i := 224) rfl) rfl
theorem kML_X0_25 : Cond.methodLink RX0 25 yX4_isInSea ∈ BIG := mB_2 (List.mem_of_getElem? (i := 225) rfl) rfl
theorem kIM_X4_isInSea : Cond.instanceMethod yX4_isInSea ∈ BIG := mB_2 (List.mem_of_getElem? (i := 226) rfl) rfl
theorem kSE_X4_isInSea : Cond.selects RX4 yX4_isInSea yX4_isInSea ∈ BIG := mB_2 (List.mem_of_getElem? (i := 227) rfl) rfl
theorem kCD_X4_isInSea : Cond.code yX4_isInSea cX4_isInSea 6 (Option.some .boolean) ∈ BIG := mB_2 (List.mem_of_getElem? (i := 228) rfl) rfl
theorem kML_X4_125 : Cond.methodLink RX4 125 yX4_kiteX ∈ BIG := mB_2 (List.mem_of_getElem? (i := 229) rfl) rfl
theorem kIM_X4_kiteX : Cond.instanceMethod yX4_kiteX ∈ BIG := mB_2 (List.mem_of_getElem? (i := 230) rfl) rfl
theorem kSE_X4_kiteX : Cond.selects RX4 yX4_kiteX yX4_kiteX ∈ BIG := mB_2 (List.mem_of_getElem? (i := 231) rfl) rfl
theorem kCD_X4_kiteX : Cond.code yX4_kiteX cX4_kiteX 4 (Option.some .int) ∈ BIG := mB_2 (List.mem_of_getElem? (i := 232) rfl) rfl
theorem kML_X4_118 : Cond.methodLink RX4 118 yX4_isToldKite ∈ BIG := mB_2 (List.mem_of_getElem? (i := 233) rfl) rfl
theorem kIM_X4_isToldKite : Cond.instanceMethod yX4_isToldKite ∈ BIG := mB_2 (List.mem_of_getElem? (i := 234) rfl) rfl
theorem kSE_X4_isToldKite : Cond.selects RX4 yX4_isToldKite yX4_isToldKite ∈ BIG := mB_2 (List.mem_of_getElem? (i := 235) rfl) rfl
theorem kCD_X4_isToldKite : Cond.code yX4_isToldKite cX4_isToldKite 2 (Option.some .boolean) ∈ BIG := mB_2 (List.mem_of_getElem? (i := 236) rfl) rfl
theorem kML_X4_121 : Cond.methodLink RX4 121 yX4_windAt ∈ BIG := mB_2 (List.mem_of_getElem? (i := 237) rfl) rfl
theorem kST_X4_windAt : Cond.static yX4_windAt ∈ BIG := mB_2 (List.mem_of_getElem? (i := 238) rfl) rfl
theorem kCD_X4_windAt : Cond.code yX4_windAt cX4_windAt 4 (Option.some .int) ∈ BIG := mB_2 (List.mem_of_getElem? (i := 239) rfl) rfl
theorem kML_X4_129 : Cond.methodLink RX4 129 yX4_kiteY ∈ BIG := mB_3 (List.mem_of_getElem? (i := 0) rfl) rfl
theorem kIM_X4_kiteY : Cond.instanceMethod yX4_kiteY ∈ BIG := mB_3 (List.mem_of_getElem? (i := 1) rfl) rfl
theorem kSE_X4_kiteY : Cond.selects RX4 yX4_kiteY yX4_kiteY ∈ BIG := mB_3 (List.mem_of_getElem? (i := 2) rfl) rfl
theorem kCD_X4_kiteY : Cond.code yX4_kiteY cX4_kiteY 3 (Option.some .int) ∈ BIG := mB_3 (List.mem_of_getElem? (i := 3) rfl) rfl
theorem kML_X0_31 : Cond.methodLink RX0 31 yX4_hasLift ∈ BIG := mB_3 (List.mem_of_getElem? (i := 4) rfl) rfl
theorem kIM_X4_hasLift : Cond.instanceMethod yX4_hasLift ∈ BIG := mB_3 (List.mem_of_getElem? (i := 5) rfl) rfl
theorem kSE_X4_hasLift : Cond.selects RX4 yX4_hasLift yX4_hasLift ∈ BIG := mB_3 (List.mem_of_getElem? (i := 6) rfl) rfl
theorem kCD_X4_hasLift : Cond.code yX4_hasLift cX4_hasLift 4 (Option.some .boolean) ∈ BIG := mB_3 (List.mem_of_getElem? (i := 7) rfl) rfl
theorem kML_X0_34 : Cond.methodLink RX0 34 yX0_shoalsAt ∈ BIG := mB_3 (List.mem_of_getElem? (i := 8) rfl) rfl
theorem kST_X0_shoalsAt : Cond.static yX0_shoalsAt ∈ BIG := mB_3 (List.mem_of_getElem? (i := 9) rfl) rfl
theorem kCD_X0_shoalsAt : Cond.code yX0_shoalsAt cX0_shoalsAt 9 (Option.some .int) ∈ BIG := mB_3 (List.mem_of_getElem? (i := 10) rfl) rfl
theorem kML_X0_41 : Cond.methodLink RX0 41 yX4_kiteX ∈ BIG := mB_3 (List.mem_of_getElem? (i := 11) rfl) rfl
theorem kML_X0_45 : Cond.methodLink RX0 45 yX4_kiteY ∈ BIG := mB_3 (List.mem_of_getElem? (i := 12) rfl) rfl
theorem kML_X0_49 : Cond.methodLink RX0 49 yX4_isToldShoal ∈ BIG := mB_3 (List.mem_of_getElem? (i := 13) rfl) rfl
theorem kIM_X4_isToldShoal : Cond.instanceMethod yX4_isToldShoal ∈ BIG := mB_3 (List.mem_of_getElem? (i := 14) rfl) rfl
theorem kSE_X4_isToldShoal : Cond.selects RX4 yX4_isToldShoal yX4_isToldShoal ∈ BIG := mB_3 (List.mem_of_getElem? (i := 15) rfl) rfl
theorem kCD_X4_isToldShoal : Cond.code yX4_isToldShoal cX4_isToldShoal 2 (Option.some .boolean) ∈ BIG := mB_3 (List.mem_of_getElem? (i := 16) rfl) rfl
theorem kML_X0_53 : Cond.methodLink RX0 53 yX4_shoalX ∈ BIG := mB_3 (List.mem_of_getElem? (i := 17) rfl) rfl
theorem kIM_X4_shoalX : Cond.instanceMethod yX4_shoalX ∈ BIG := mB_3 (List.mem_of_getElem? (i := 18) rfl) rfl
theorem kSE_X4_shoalX : Cond.selects RX4 yX4_shoalX yX4_shoalX ∈ BIG := mB_3 (List.mem_of_getElem? (i := 19) rfl) rfl
theorem kCD_X4_shoalX : Cond.code yX4_shoalX cX4_shoalX 3 (Option.some .int) ∈ BIG := mB_3 (List.mem_of_getElem? (i := 20) rfl) rfl
theorem kML_X4_115 : Cond.methodLink RX4 115 yX4_isToldShoal ∈ BIG := mB_3 (List.mem_of_getElem? (i := 21) rfl) rfl
theorem kML_X0_56 : Cond.methodLink RX0 56 yX4_shoalY ∈ BIG := mB_3 (List.mem_of_getElem? (i := 22) rfl) rfl
theorem kIM_X4_shoalY : Cond.instanceMethod yX4_shoalY ∈ BIG := mB_3 (List.mem_of_getElem? (i := 23) rfl) rfl
theorem kSE_X4_shoalY : Cond.selects RX4 yX4_shoalY yX4_shoalY ∈ BIG := mB_3 (List.mem_of_getElem? (i := 24) rfl) rfl
theorem kCD_X4_shoalY : Cond.code yX4_shoalY cX4_shoalY 3 (Option.some .int) ∈ BIG := mB_3 (List.mem_of_getElem? (i := 25) rfl) rfl
theorem kML_X0_38 : Cond.methodLink RX0 38 yX0_kitesAcross ∈ BIG := mB_3 (List.mem_of_getElem? (i := 26) rfl) rfl
theorem kST_X0_kitesAcross : Cond.static yX0_kitesAcross ∈ BIG := mB_3 (List.mem_of_getElem? (i := 27) rfl) rfl
theorem kCD_X0_kitesAcross : Cond.code yX0_kitesAcross cX0_kitesAcross 6 (Option.some .int) ∈ BIG := mB_3 (List.mem_of_getElem? (i := 28) rfl) rfl
theorem kML_X0_59 : Cond.methodLink RX0 59 yX4_wouldCross ∈ BIG := mB_3 (List.mem_of_getElem? (i := 29) rfl) rfl
theorem kIM_X4_wouldCross : Cond.instanceMethod yX4_wouldCross ∈ BIG := mB_3 (List.mem_of_getElem? (i := 30) rfl) rfl
theorem kSE_X4_wouldCross : Cond.selects RX4 yX4_wouldCross yX4_wouldCross ∈ BIG := mB_3 (List.mem_of_getElem? (i := 31) rfl) rfl
theorem kCD_X4_wouldCross : Cond.code yX4_wouldCross cX4_wouldCross 7 (Option.some .boolean) ∈ BIG := mB_3 (List.mem_of_getElem? (i := 32) rfl) rfl
theorem kML_X8_84 : Cond.methodLink RX8 84 yX1_stockShoals ∈ BIG := mB_3 (List.mem_of_getElem? (i := 33) rfl) rfl
theorem kIM_X1_stockShoals : Cond.instanceMethod yX1_stockShoals ∈ BIG := mB_3 (List.mem_of_getElem? (i := 34) rfl) rfl
theorem kSE_X1_stockShoals : Cond.selects RX1 yX1_stockShoals yX1_stockShoals ∈ BIG := mB_3 (List.mem_of_getElem? (i := 35) rfl) rfl
theorem kCD_X1_stockShoals : Cond.code yX1_stockShoals cX1_stockShoals 3 none ∈ BIG := mB_3 (List.mem_of_getElem? (i := 36) rfl) rfl
theorem kML_X1_30 : Cond.methodLink RX1 30 yX4_isToldShoal ∈ BIG := mB_3 (List.mem_of_getElem? (i := 37) rfl) rfl
theorem kML_X8_87 : Cond.methodLink RX8 87 yX1_become ∈ BIG := mB_3 (List.mem_of_getElem? (i := 38) rfl) rfl
theorem kIM_X1_become : Cond.instanceMethod yX1_become ∈ BIG := mB_3 (List.mem_of_getElem? (i := 39) rfl) rfl
theorem kSE_X1_become : Cond.selects RX1 yX1_become yX1_become ∈ BIG := mB_3 (List.mem_of_getElem? (i := 40) rfl) rfl
theorem kCD_X1_become : Cond.code yX1_become cX1_become 2 none ∈ BIG := mB_3 (List.mem_of_getElem? (i := 41) rfl) rfl
theorem kML_X1_46 : Cond.methodLink RX1 46 yX1_resume ∈ BIG := mB_3 (List.mem_of_getElem? (i := 42) rfl) rfl
theorem kIM_X1_resume : Cond.instanceMethod yX1_resume ∈ BIG := mB_3 (List.mem_of_getElem? (i := 43) rfl) rfl
theorem kSE_X1_resume : Cond.selects RX1 yX1_resume yX1_resume ∈ BIG := mB_3 (List.mem_of_getElem? (i := 44) rfl) rfl
theorem kCD_X1_resume : Cond.code yX1_resume cX1_resume 2 none ∈ BIG := mB_3 (List.mem_of_getElem? (i := 45) rfl) rfl
theorem kML_X1_59 : Cond.methodLink RX1 59 arraycopyName ∈ BIG := mB_3 (List.mem_of_getElem? (i := 46) rfl) rfl
theorem kST_arraycopyName : Cond.static arraycopyName ∈ BIG := mB_3 (List.mem_of_getElem? (i := 47) rfl) rfl
theorem kNA_arraycopyName : Cond.native arraycopyName ∈ BIG := mB_3 (List.mem_of_getElem? (i := 48) rfl) rfl
theorem kML_X8_94 : Cond.methodLink RX8 94 yX5_forget ∈ BIG := mB_3 (List.mem_of_getElem? (i := 49) rfl) rfl
theorem kIM_X5_forget : Cond.instanceMethod yX5_forget ∈ BIG := mB_3 (List.mem_of_getElem? (i := 50) rfl) rfl
theorem kSE_X5_forget : Cond.selects RX5 yX5_forget yX5_forget ∈ BIG := mB_3 (List.mem_of_getElem? (i := 51) rfl) rfl
theorem kCD_X5_forget : Cond.code yX5_forget cX5_forget 1 none ∈ BIG := mB_3 (List.mem_of_getElem? (i := 52) rfl) rfl
theorem kML_L_33 : Cond.methodLink RL 33 yX8_wind ∈ BIG := mB_3 (List.mem_of_getElem? (i := 53) rfl) rfl
theorem kIM_X8_wind : Cond.instanceMethod yX8_wind ∈ BIG := mB_3 (List.mem_of_getElem? (i := 54) rfl) rfl
theorem kSE_X8_wind : Cond.selects RX8 yX8_wind yX8_wind ∈ BIG := mB_3 (List.mem_of_getElem? (i := 55) rfl) rfl
theorem kCD_X8_wind : Cond.code yX8_wind cX8_wind 4 (Option.some .int) ∈ BIG := mB_3 (List.mem_of_getElem? (i := 56) rfl) rfl
theorem kML_X8_100 : Cond.methodLink RX8 100 yX8_isHeight ∈ BIG := mB_3 (List.mem_of_getElem? (i := 57) rfl) rfl
theorem kML_X8_103 : Cond.methodLink RX8 103 yX8_isHour ∈ BIG := mB_3 (List.mem_of_getElem? (i := 58) rfl) rfl
theorem kST_X8_isHour : Cond.static yX8_isHour ∈ BIG := mB_3 (List.mem_of_getElem? (i := 59) rfl) rfl
theorem kCD_X8_isHour : Cond.code yX8_isHour cX8_isHour 1 (Option.some .boolean) ∈ BIG := mB_3 (List.mem_of_getElem? (i := 60) rfl) rfl
theorem kML_X8_110 : Cond.methodLink RX8 110 yX4_windAt ∈ BIG := mB_3 (List.mem_of_getElem? (i := 61) rfl) rfl
theorem kML_L_38 : Cond.methodLink RL 38 yX8_shoal ∈ BIG := mB_3 (List.mem_of_getElem? (i := 62) rfl) rfl
theorem kIM_X8_shoal : Cond.instanceMethod yX8_shoal ∈ BIG := mB_3 (List.mem_of_getElem? (i := 63) rfl) rfl
theorem kSE_X8_shoal : Cond.selects RX8 yX8_shoal yX8_shoal ∈ BIG := mB_3 (List.mem_of_getElem? (i := 64) rfl) rfl
theorem kCD_X8_shoal : Cond.code yX8_shoal cX8_shoal 3 (Option.some .int) ∈ BIG := mB_3 (List.mem_of_getElem? (i := 65) rfl) rfl
theorem kML_X8_117 : Cond.methodLink RX8 117 yX4_isToldShoal ∈ BIG := mB_3 (List.mem_of_getElem? (i := 66) rfl) rfl
theorem kML_X8_123 : Cond.methodLink RX8 123 yX4_shoalX ∈ BIG := mB_3 (List.mem_of_getElem? (i := 67) rfl) rfl
theorem kML_X8_127 : Cond.methodLink RX8 127 yX4_shoalY ∈ BIG := mB_3 (List.mem_of_getElem? (i := 68) rfl) rfl
theorem kML_L_43 : Cond.methodLink RL 43 yX8_ask ∈ BIG := mB_3 (List.mem_of_getElem? (i := 69) rfl) rfl
theorem kIM_X8_ask : Cond.instanceMethod yX8_ask ∈ BIG := mB_3 (List.mem_of_getElem? (i := 70) rfl) rfl
theorem kSE_X8_ask : Cond.selects RX8 yX8_ask yX8_ask ∈ BIG := mB_3 (List.mem_of_getElem? (i := 71) rfl) rfl
theorem kCD_X8_ask : Cond.code yX8_ask cX8_ask 4 (Option.some .int) ∈ BIG := mB_3 (List.mem_of_getElem? (i := 72) rfl) rfl
theorem kML_X8_133 : Cond.methodLink RX8 133 yX4_isToldKite ∈ BIG := mB_3 (List.mem_of_getElem? (i := 73) rfl) rfl
theorem kML_L_47 : Cond.methodLink RL 47 yX8_go ∈ BIG := mB_3 (List.mem_of_getElem? (i := 74) rfl) rfl
theorem kIM_X8_go : Cond.instanceMethod yX8_go ∈ BIG := mB_3 (List.mem_of_getElem? (i := 75) rfl) rfl
theorem kSE_X8_go : Cond.selects RX8 yX8_go yX8_go ∈ BIG := mB_3 (List.mem_of_getElem? (i := 76) rfl) rfl
theorem kCD_X8_go : Cond.code yX8_go cX8_go 2 (Option.some .int) ∈ BIG := mB_3 (List.mem_of_getElem? (i := 77) rfl) rfl
theorem kML_X8_142 : Cond.methodLink RX8 142 yX1_pass ∈ BIG := mB_3 (List.mem_of_getElem? (i := 78) rfl) rfl
theorem kIM_X1_pass : Cond.instanceMethod yX1_pass ∈ BIG := mB_3 (List.mem_of_getElem? (i := 79) rfl) rfl
theorem kSE_X1_pass : Cond.selects RX1 yX1_pass yX1_pass ∈ BIG := mB_3 (List.mem_of_getElem? (i := 80) rfl) rfl
theorem kCD_X1_pass : Cond.code yX1_pass cX1_pass 7 none ∈ BIG := mB_3 (List.mem_of_getElem? (i := 81) rfl) rfl
theorem kML_X1_71 : Cond.methodLink RX1 71 yX1_risen ∈ BIG := mB_3 (List.mem_of_getElem? (i := 82) rfl) rfl
theorem kIM_X1_risen : Cond.instanceMethod yX1_risen ∈ BIG := mB_3 (List.mem_of_getElem? (i := 83) rfl) rfl
theorem kSE_X1_risen : Cond.selects RX1 yX1_risen yX1_risen ∈ BIG := mB_3 (List.mem_of_getElem? (i := 84) rfl) rfl
theorem kCD_X1_risen : Cond.code yX1_risen cX1_risen 8 (Option.some .int) ∈ BIG := mB_3 (List.mem_of_getElem? (i := 85) rfl) rfl
theorem kML_X1_87 : Cond.methodLink RX1 87 yX4_isFoggy ∈ BIG := mB_3 (List.mem_of_getElem? (i := 86) rfl) rfl
theorem kIM_X4_isFoggy : Cond.instanceMethod yX4_isFoggy ∈ BIG := mB_3 (List.mem_of_getElem? (i := 87) rfl) rfl
theorem kSE_X4_isFoggy : Cond.selects RX4 yX4_isFoggy yX4_isFoggy ∈ BIG := mB_3 (List.mem_of_getElem? (i := 88) rfl) rfl
theorem kCD_X4_isFoggy : Cond.code yX4_isFoggy cX4_isFoggy 2 (Option.some .boolean) ∈ BIG := mB_3 (List.mem_of_getElem? (i := 89) rfl) rfl
theorem kNM_X4_111 : Cond.methodLinkNest RX4 111 yX8_isIn "FishingKites" ∈ lw_tbl := mT_3 (List.mem_of_getElem? (i := 90) rfl)
theorem kST_X8_isIn : Cond.static yX8_isIn ∈ BIG := mB_3 (List.mem_of_getElem? (i := 91) rfl) rfl
theorem kCD_X8_isIn : Cond.code yX8_isIn cX8_isIn 2 (Option.some .boolean) ∈ BIG := mB_3 (List.mem_of_getElem? (i := 92) rfl) rfl
theorem kML_X1_90 : Cond.methodLink RX1 90 yX0_isFree ∈ BIG := mB_3 (List.mem_of_getElem? (i := 93) rfl) rfl
theorem kIM_X0_isFree : Cond.instanceMethod yX0_isFree ∈ BIG := mB_3 (List.mem_of_getElem? (i := 94) rfl) rfl
theorem kSE_X0_isFree : Cond.selects RX0 yX0_isFree yX0_isFree ∈ BIG := mB_3 (List.mem_of_getElem? (i := 95) rfl) rfl
theorem kCD_X0_isFree : Cond.code yX0_isFree cX0_isFree 5 (Option.some .boolean) ∈ BIG := mB_3 (List.mem_of_getElem? (i := 96) rfl) rfl
theorem kNM_X0_63 : Cond.methodLinkNest RX0 63 yX8_isIn "FishingKites" ∈ lw_tbl := mT_3 (List.mem_of_getElem? (i := 97) rfl)
theorem kNM_X1_79 : Cond.methodLinkNest RX1 79 yX8_isIn "FishingKites" ∈ lw_tbl := mT_3 (List.mem_of_getElem? (i := 98) rfl)
theorem kML_X1_75 : Cond.methodLink RX1 75 yX1_untangled ∈ BIG := mB_3 (List.mem_of_getElem? (i := 99) rfl) rfl
theorem kIM_X1_untangled : Cond.instanceMethod yX1_untangled ∈ BIG := mB_3 (List.mem_of_getElem? (i := 100) rfl) rfl
theorem kSE_X1_untangled : Cond.selects RX1 yX1_untangled yX1_untangled ∈ BIG := mB_3 (List.mem_of_getElem? (i := 101) rfl) rfl
theorem kCD_X1_untangled : Cond.code yX1_untangled cX1_untangled 11 (Option.some .int) ∈ BIG := mB_3 (List.mem_of_getElem? (i := 102) rfl) rfl
theorem kML_X1_108 : Cond.methodLink RX1 108 yX0_crossed ∈ BIG := mB_3 (List.mem_of_getElem? (i := 103) rfl) rfl
theorem kIM_X0_crossed : Cond.instanceMethod yX0_crossed ∈ BIG := mB_3 (List.mem_of_getElem? (i := 104) rfl) rfl
theorem kSE_X0_crossed : Cond.selects RX0 yX0_crossed yX0_crossed ∈ BIG := mB_3 (List.mem_of_getElem? (i := 105) rfl) rfl
theorem kCD_X0_crossed : Cond.code yX0_crossed cX0_crossed 5 (Option.some .int) ∈ BIG := mB_3 (List.mem_of_getElem? (i := 106) rfl) rfl
theorem kML_X1_112 : Cond.methodLink RX1 112 yX4_givingWay ∈ BIG := mB_3 (List.mem_of_getElem? (i := 107) rfl) rfl
theorem kIM_X4_givingWay : Cond.instanceMethod yX4_givingWay ∈ BIG := mB_3 (List.mem_of_getElem? (i := 108) rfl) rfl
theorem kSE_X4_givingWay : Cond.selects RX4 yX4_givingWay yX4_givingWay ∈ BIG := mB_3 (List.mem_of_getElem? (i := 109) rfl) rfl
theorem kCD_X4_givingWay : Cond.code yX4_givingWay cX4_givingWay 7 (Option.some .int) ∈ BIG := mB_3 (List.mem_of_getElem? (i := 110) rfl) rfl
theorem kML_X1_83 : Cond.methodLink RX1 83 yX1_fish ∈ BIG := mB_3 (List.mem_of_getElem? (i := 111) rfl) rfl
theorem kIM_X1_fish : Cond.instanceMethod yX1_fish ∈ BIG := mB_3 (List.mem_of_getElem? (i := 112) rfl) rfl
theorem kSE_X1_fish : Cond.selects RX1 yX1_fish yX1_fish ∈ BIG := mB_3 (List.mem_of_getElem? (i := 113) rfl) rfl
theorem kCD_X1_fish : Cond.code yX1_fish cX1_fish 9 none ∈ BIG := mB_3 (List.mem_of_getElem? (i := 114) rfl) rfl
theorem kML_X1_115 : Cond.methodLink RX1 115 yX0_met ∈ BIG := mB_3 (List.mem_of_getElem? (i := 115) rfl) rfl
theorem kIM_X0_met : Cond.instanceMethod yX0_met ∈ BIG := mB_3 (List.mem_of_getElem? (i := 116) rfl) rfl
theorem kSE_X0_met : Cond.selects RX0 yX0_met yX0_met ∈ BIG := mB_3 (List.mem_of_getElem? (i := 117) rfl) rfl
theorem kCD_X0_met : Cond.code yX0_met cX0_met 5 (Option.some .int) ∈ BIG := mB_3 (List.mem_of_getElem? (i := 118) rfl) rfl
theorem kML_X1_121 : Cond.methodLink RX1 121 yJ9_min_7cf53 ∈ BIG := mB_3 (List.mem_of_getElem? (i := 119) rfl) rfl
theorem kST_J9_min_7cf53 : Cond.static yJ9_min_7cf53 ∈ BIG := mB_3 (List.mem_of_getElem? (i := 120) rfl) rfl
theorem kCD_J9_min_7cf53 : Cond.code yJ9_min_7cf53 cJ9_min_7cf53 2 (Option.some .int) ∈ BIG := mB_3 (List.mem_of_getElem? (i := 121) rfl) rfl
theorem kML_X1_127 : Cond.methodLink RX1 127 yX1_note ∈ BIG := mB_3 (List.mem_of_getElem? (i := 122) rfl) rfl
theorem kIM_X1_note : Cond.instanceMethod yX1_note ∈ BIG := mB_3 (List.mem_of_getElem? (i := 123) rfl) rfl
theorem kSE_X1_note : Cond.selects RX1 yX1_note yX1_note ∈ BIG := mB_3 (List.mem_of_getElem? (i := 124) rfl) rfl
theorem kCD_X1_note : Cond.code yX1_note cX1_note 4 none ∈ BIG := mB_3 (List.mem_of_getElem? (i := 125) rfl) rfl
theorem kML_X1_131 : Cond.methodLink RX1 131 yX4_afterGulls ∈ BIG := mB_3 (List.mem_of_getElem? (i := 126) rfl) rfl
theorem kIM_X4_afterGulls : Cond.instanceMethod yX4_afterGulls ∈ BIG := mB_3 (List.mem_of_getElem? (i := 127) rfl) rfl
theorem kSE_X4_afterGulls : Cond.selects RX4 yX4_afterGulls yX4_afterGulls ∈ BIG := mB_3 (List.mem_of_getElem? (i := 128) rfl) rfl
theorem kCD_X4_afterGulls : Cond.code yX4_afterGulls cX4_afterGulls 2 (Option.some .int) ∈ BIG := mB_3 (List.mem_of_getElem? (i := 129) rfl) rfl
theorem kML_L_52 : Cond.methodLink RL 52 yX8_kite ∈ BIG := mB_3 (List.mem_of_getElem? (i := 130) rfl) rfl
theorem kIM_X8_kite : Cond.instanceMethod yX8_kite ∈ BIG := mB_3 (List.mem_of_getElem? (i := 131) rfl) rfl
theorem kSE_X8_kite : Cond.selects RX8 yX8_kite yX8_kite ∈ BIG := mB_3 (List.mem_of_getElem? (i := 132) rfl) rfl
theorem kCD_X8_kite : Cond.code yX8_kite cX8_kite 3 (Option.some .int) ∈ BIG := mB_3 (List.mem_of_getElem? (i := 133) rfl) rfl
theorem kML_X8_149 : Cond.methodLink RX8 149 yX8_isIn ∈ BIG := mB_3 (List.mem_of_getElem? (i := 134) rfl) rfl
theorem kML_L_56 : Cond.methodLink RL 56 yX8_where ∈ BIG := mB_3 (List.mem_of_getElem? (i := 135) rfl) rfl
theorem kIM_X8_where : Cond.instanceMethod yX8_where ∈ BIG := mB_3 (List.mem_of_getElem? (i := 136) rfl) rfl
theorem kSE_X8_where : Cond.selects RX8 yX8_where yX8_where ∈ BIG := mB_3 (List.mem_of_getElem? (i := 137) rfl) rfl
theorem kCD_X8_where : Cond.code yX8_where cX8_where 4 (Option.some .int) ∈ BIG := mB_3 (List.mem_of_getElem? (i := 138) rfl) rfl
theorem kML_X8_162 : Cond.methodLink RX8 162 yX8_isPlace ∈ BIG := mB_3 (List.mem_of_getElem? (i := 139) rfl) rfl
theorem kIM_X8_isPlace : Cond.instanceMethod yX8_isPlace ∈ BIG := mB_3 (List.mem_of_getElem? (i := 141) rfl) rfl
theorem kCD_X8_isPlace : Cond.code yX8_isPlace cX8_isPlace 4 (Option.some .boolean) ∈ BIG := mB_3 (List.mem_of_getElem? (i := 142) rfl) rfl
theorem kML_X8_166 : Cond.methodLink RX8 166 yX4_isInSea ∈ BIG := mB_3 (List.mem_of_getElem? (i := 143) rfl) rfl
theorem kML_X8_169 : Cond.methodLink RX8 169 yX4_kiteX ∈ BIG := mB_3 (List.mem_of_getElem? (i := 144) rfl) rfl
theorem kML_X8_173 : Cond.methodLink RX8 173 yX4_kiteY ∈ BIG := mB_3 (List.mem_of_getElem? (i := 145) rfl) rfl
theorem kML_L_60 : Cond.methodLink RL 60 yX8_hinders ∈ BIG := mB_3 (List.mem_of_getElem? (i := 146) rfl) rfl
theorem kIM_X8_hinders : Cond.instanceMethod yX8_hinders ∈ BIG := mB_3 (List.mem_of_getElem? (i := 147) rfl) rfl
theorem kSE_X8_hinders : Cond.selects RX8 yX8_hinders yX8_hinders ∈ BIG := mB_3 (List.mem_of_getElem? (i := 148) rfl) rfl
theorem kCD_X8_hinders : Cond.code yX8_hinders cX8_hinders 4 (Option.some .int) ∈ BIG := mB_3 (List.mem_of_getElem? (i := 149) rfl) rfl
theorem kML_X8_176 : Cond.methodLink RX8 176 yX4_hasLift ∈ BIG := mB_3 (List.mem_of_getElem? (i := 150) rfl) rfl
theorem kML_L_64 : Cond.methodLink RL 64 yX8_tangle ∈ BIG := mB_3 (List.mem_of_getElem? (i := 151) rfl) rfl
theorem kIM_X8_tangle : Cond.instanceMethod yX8_tangle ∈ BIG := mB_3 (List.mem_of_getElem? (i := 152) rfl) rfl
theorem kSE_X8_tangle : Cond.selects RX8 yX8_tangle yX8_tangle ∈ BIG := mB_3 (List.mem_of_getElem? (i := 153) rfl) rfl
theorem kCD_X8_tangle : Cond.code yX8_tangle cX8_tangle 5 (Option.some .int) ∈ BIG := mB_3 (List.mem_of_getElem? (i := 154) rfl) rfl
theorem kML_X8_179 : Cond.methodLink RX8 179 yX4_wouldCross ∈ BIG := mB_3 (List.mem_of_getElem? (i := 155) rfl) rfl
theorem kML_X8_183 : Cond.methodLink RX8 183 yJ9_min_7cf53 ∈ BIG := mB_3 (List.mem_of_getElem? (i := 156) rfl) rfl
theorem kML_X8_188 : Cond.methodLink RX8 188 yJ9_max_7cf53 ∈ BIG := mB_3 (List.mem_of_getElem? (i := 157) rfl) rfl
theorem kST_J9_max_7cf53 : Cond.static yJ9_max_7cf53 ∈ BIG := mB_3 (List.mem_of_getElem? (i := 158) rfl) rfl
theorem kCD_J9_max_7cf53 : Cond.code yJ9_max_7cf53 cJ9_max_7cf53 2 (Option.some .int) ∈ BIG := mB_3 (List.mem_of_getElem? (i := 159) rfl) rfl
theorem kML_X8_191 : Cond.methodLink RX8 191 yX4_givingWay ∈ BIG := mB_3 (List.mem_of_getElem? (i := 160) rfl) rfl
theorem kML_L_69 : Cond.methodLink RL 69 yX8_taking ∈ BIG := mB_3 (List.mem_of_getElem? (i := 161) rfl) rfl
theorem kIM_X8_taking : Cond.instanceMethod yX8_taking ∈ BIG := mB_3 (List.mem_of_getElem? (i := 162) rfl) rfl
theorem kSE_X8_taking : Cond.selects RX8 yX8_taking yX8_taking ∈ BIG := mB_3 (List.mem_of_getElem? (i := 163) rfl) rfl
theorem kCD_X8_taking : Cond.code yX8_taking cX8_taking 4 (Option.some .int) ∈ BIG := mB_3 (List.mem_of_getElem? (i := 164) rfl) rfl
theorem kML_L_73 : Cond.methodLink RL 73 yX8_keep ∈ BIG := mB_3 (List.mem_of_getElem? (i := 165) rfl) rfl
theorem kIM_X8_keep : Cond.instanceMethod yX8_keep ∈ BIG := mB_3 (List.mem_of_getElem? (i := 166) rfl) rfl
theorem kSE_X8_keep : Cond.selects RX8 yX8_keep yX8_keep ∈ BIG := mB_3 (List.mem_of_getElem? (i := 167) rfl) rfl
theorem kCD_X8_keep : Cond.code yX8_keep cX8_keep 2 (Option.some .int) ∈ BIG := mB_3 (List.mem_of_getElem? (i := 168) rfl) rfl
theorem kML_L_77 : Cond.methodLink RL 77 yX8_back ∈ BIG := mB_3 (List.mem_of_getElem? (i := 169) rfl) rfl
theorem kIM_X8_back : Cond.instanceMethod yX8_back ∈ BIG := mB_3 (List.mem_of_getElem? (i := 170) rfl) rfl
theorem kSE_X8_back : Cond.selects RX8 yX8_back yX8_back ∈ BIG := mB_3 (List.mem_of_getElem? (i := 171) rfl) rfl
theorem kCD_X8_back : Cond.code yX8_back cX8_back 2 (Option.some .int) ∈ BIG := mB_3 (List.mem_of_getElem? (i := 172) rfl) rfl
theorem kML_L_81 : Cond.methodLink RL 81 yX8_best ∈ BIG := mB_3 (List.mem_of_getElem? (i := 173) rfl) rfl
theorem kIM_X8_best : Cond.instanceMethod yX8_best ∈ BIG := mB_3 (List.mem_of_getElem? (i := 174) rfl) rfl
theorem kSE_X8_best : Cond.selects RX8 yX8_best yX8_best ∈ BIG := mB_3 (List.mem_of_getElem? (i := 175) rfl) rfl
theorem kCD_X8_best : Cond.code yX8_best cX8_best 2 (Option.some .int) ∈ BIG := mB_3 (List.mem_of_getElem? (i := 176) rfl) rfl
theorem kML_X8_200 : Cond.methodLink RX8 200 yX5_find ∈ BIG := mB_3 (List.mem_of_getElem? (i := 177) rfl) rfl
theorem kIM_X5_find : Cond.instanceMethod yX5_find ∈ BIG := mB_3 (List.mem_of_getElem? (i := 178) rfl) rfl
theorem kSE_X5_find : Cond.selects RX5 yX5_find yX5_find ∈ BIG := mB_3 (List.mem_of_getElem? (i := 179) rfl) rfl
theorem kCD_X5_find : Cond.code yX5_find cX5_find 9 none ∈ BIG := mB_3 (List.mem_of_getElem? (i := 180) rfl) rfl
theorem kML_X5_34 : Cond.methodLink RX5 34 yX5_setBounds ∈ BIG := mB_3 (List.mem_of_getElem? (i := 181) rfl) rfl
theorem kIM_X5_setBounds : Cond.instanceMethod yX5_setBounds ∈ BIG := mB_3 (List.mem_of_getElem? (i := 182) rfl) rfl
theorem kSE_X5_setBounds : Cond.selects RX5 yX5_setBounds yX5_setBounds ∈ BIG := mB_3 (List.mem_of_getElem? (i := 183) rfl) rfl
theorem kCD_X5_setBounds : Cond.code yX5_setBounds cX5_setBounds 9 none ∈ BIG := mB_3 (List.mem_of_getElem? (i := 184) rfl) rfl
theorem kML_X5_69 : Cond.methodLink RX5 69 yX5_boundOf ∈ BIG := mB_3 (List.mem_of_getElem? (i := 185) rfl) rfl
theorem kST_X5_boundOf : Cond.static yX5_boundOf ∈ BIG := mB_3 (List.mem_of_getElem? (i := 186) rfl) rfl
theorem kCD_X5_boundOf : Cond.code yX5_boundOf cX5_boundOf 14 (Option.some .int) ∈ BIG := mB_3 (List.mem_of_getElem? (i := 187) rfl) rfl
theorem kNM_X5_81 : Cond.methodLinkNest RX5 81 yX8_isIn "FishingKites" ∈ lw_tbl := mT_3 (List.mem_of_getElem? (i := 188) rfl)
theorem kML_X5_97 : Cond.methodLink RX5 97 yX0_isFree ∈ BIG := mB_3 (List.mem_of_getElem? (i := 189) rfl) rfl
theorem kML_X5_103 : Cond.methodLink RX5 103 yX4_isFoggy ∈ BIG := mB_3 (List.mem_of_getElem? (i := 190) rfl) rfl
theorem kML_X5_113 : Cond.methodLink RX5 113 yX0_met ∈ BIG := mB_3 (List.mem_of_getElem? (i := 191) rfl) rfl
theorem kML_X5_117 : Cond.methodLink RX5 117 yX1_fishIn ∈ BIG := mB_3 (List.mem_of_getElem? (i := 192) rfl) rfl
theorem kIM_X1_fishIn : Cond.instanceMethod yX1_fishIn ∈ BIG := mB_3 (List.mem_of_getElem? (i := 193) rfl) rfl
theorem kSE_X1_fishIn : Cond.selects RX1 yX1_fishIn yX1_fishIn ∈ BIG := mB_3 (List.mem_of_getElem? (i := 194) rfl) rfl
theorem kCD_X1_fishIn : Cond.code yX1_fishIn cX1_fishIn 4 (Option.some .int) ∈ BIG := mB_3 (List.mem_of_getElem? (i := 195) rfl) rfl
theorem kML_X5_120 : Cond.methodLink RX5 120 yJ9_min_7cf53 ∈ BIG := mB_3 (List.mem_of_getElem? (i := 196) rfl) rfl
theorem kML_X5_123 : Cond.methodLink RX5 123 yX4_afterGulls ∈ BIG := mB_3 (List.mem_of_getElem? (i := 197) rfl) rfl
theorem kML_X5_73 : Cond.methodLink RX5 73 yJ9_max_7cf53 ∈ BIG := mB_3 (List.mem_of_getElem? (i := 198) rfl) rfl
theorem kML_X5_41 : Cond.methodLink RX5 41 yX5_firstHopeless ∈ BIG := mB_3 (List.mem_of_getElem? (i := 199) rfl) rfl
theorem kIM_X5_firstHopeless : Cond.instanceMethod yX5_firstHopeless ∈ BIG := mB_3 (List.mem_of_getElem? (i := 200) rfl) rfl
theorem kSE_X5_firstHopeless : Cond.selects RX5 yX5_firstHopeless yX5_firstHopeless ∈ BIG := mB_3 (List.mem_of_getElem? (i := 201) rfl) rfl
theorem kCD_X5_firstHopeless : Cond.code yX5_firstHopeless cX5_firstHopeless 5 (Option.some .int) ∈ BIG := mB_3 (List.mem_of_getElem? (i := 202) rfl) rfl
theorem kML_X5_26 : Cond.methodLink RX5 26 yX5_heightIn ∈ BIG := mB_3 (List.mem_of_getElem? (i := 203) rfl) rfl
theorem kST_X5_heightIn : Cond.static yX5_heightIn ∈ BIG := mB_3 (List.mem_of_getElem? (i := 204) rfl) rfl
theorem kCD_X5_heightIn : Cond.code yX5_heightIn cX5_heightIn 2 (Option.some .int) ∈ BIG := mB_3 (List.mem_of_getElem? (i := 205) rfl) rfl
theorem kML_X5_30 : Cond.methodLink RX5 30 yX5_shiftOf ∈ BIG := mB_3 (List.mem_of_getElem? (i := 206) rfl) rfl
theorem kST_X5_shiftOf : Cond.static yX5_shiftOf ∈ BIG := mB_3 (List.mem_of_getElem? (i := 207) rfl) rfl
theorem kCD_X5_shiftOf : Cond.code yX5_shiftOf cX5_shiftOf 1 (Option.some .int) ∈ BIG := mB_3 (List.mem_of_getElem? (i := 208) rfl) rfl
theorem kML_X5_44 : Cond.methodLink RX5 44 yX5_tryPlan ∈ BIG := mB_3 (List.mem_of_getElem? (i := 209) rfl) rfl
theorem kIM_X5_tryPlan : Cond.instanceMethod yX5_tryPlan ∈ BIG := mB_3 (List.mem_of_getElem? (i := 210) rfl) rfl
theorem kSE_X5_tryPlan : Cond.selects RX5 yX5_tryPlan yX5_tryPlan ∈ BIG := mB_3 (List.mem_of_getElem? (i := 211) rfl) rfl
theorem kCD_X5_tryPlan : Cond.code yX5_tryPlan cX5_tryPlan 8 none ∈ BIG := mB_3 (List.mem_of_getElem? (i := 212) rfl) rfl
theorem kML_X5_48 : Cond.methodLink RX5 48 yX1_resume ∈ BIG := mB_3 (List.mem_of_getElem? (i := 213) rfl) rfl
theorem kML_X5_62 : Cond.methodLink RX5 62 yX1_pass ∈ BIG := mB_3 (List.mem_of_getElem? (i := 214) rfl) rfl
theorem kML_X8_207 : Cond.methodLink RX8 207 yX5_heightOf ∈ BIG := mB_3 (List.mem_of_getElem? (i := 215) rfl) rfl
theorem kIM_X5_heightOf : Cond.instanceMethod yX5_heightOf ∈ BIG := mB_3 (List.mem_of_getElem? (i := 216) rfl) rfl
theorem kSE_X5_heightOf : Cond.selects RX5 yX5_heightOf yX5_heightOf ∈ BIG := mB_3 (List.mem_of_getElem? (i := 217) rfl) rfl
theorem kCD_X5_heightOf : Cond.code yX5_heightOf cX5_heightOf 2 (Option.some .int) ∈ BIG := mB_3 (List.mem_of_getElem? (i := 218) rfl) rfl
theorem kML_L_85 : Cond.methodLink RL 85 yX8_allDay ∈ BIG := mB_3 (List.mem_of_getElem? (i := 219) rfl) rfl
theorem kIM_X8_allDay : Cond.instanceMethod yX8_allDay ∈ BIG := mB_3 (List.mem_of_getElem? (i := 220) rfl) rfl
theorem kSE_X8_allDay : Cond.selects RX8 yX8_allDay yX8_allDay ∈ BIG := mB_3 (List.mem_of_getElem? (i := 221) rfl) rfl
theorem kCD_X8_allDay : Cond.code yX8_allDay cX8_allDay 2 (Option.some .int) ∈ BIG := mB_3 (List.mem_of_getElem? (i := 222) rfl) rfl
theorem kML_L_89 : Cond.methodLink RL 89 yX8_laws ∈ BIG := mB_3 (List.mem_of_getElem? (i := 223) rfl) rfl
theorem kIM_X8_laws : Cond.instanceMethod yX8_laws ∈ BIG := mB_3 (List.mem_of_getElem? (i := 224) rfl) rfl
theorem kSE_X8_laws : Cond.selects RX8 yX8_laws yX8_laws ∈ BIG := mB_3 (List.mem_of_getElem? (i := 225) rfl) rfl
theorem kCD_X8_laws : Cond.code yX8_laws cX8_laws 6 (Option.some .int) ∈ BIG := mB_3 (List.mem_of_getElem? (i := 226) rfl) rfl
theorem kML_X8_211 : Cond.methodLink RX8 211 yX8_caughtAllDayBy ∈ BIG := mB_3 (List.mem_of_getElem? (i := 227) rfl) rfl
theorem kIM_X8_caughtAllDayBy : Cond.instanceMethod yX8_caughtAllDayBy ∈ BIG := mB_3 (List.mem_of_getElem? (i := 229) rfl) rfl
theorem kCD_X8_caughtAllDayBy : Cond.code yX8_caughtAllDayBy cX8_caughtAllDayBy 3 (Option.some .int) ∈ BIG := mB_3 (List.mem_of_getElem? (i := 230) rfl) rfl
theorem kML_X8_267 : Cond.methodLink RX8 267 yX1_resume ∈ BIG := mB_3 (List.mem_of_getElem? (i := 231) rfl) rfl
theorem kML_L_93 : Cond.methodLink RL 93 yX8_food ∈ BIG := mB_3 (List.mem_of_getElem? (i := 232) rfl) rfl
theorem kIM_X8_food : Cond.instanceMethod yX8_food ∈ BIG := mB_3 (List.mem_of_getElem? (i := 233) rfl) rfl
theorem kSE_X8_food : Cond.selects RX8 yX8_food yX8_food ∈ BIG := mB_3 (List.mem_of_getElem? (i := 234) rfl) rfl
theorem kCD_X8_food : Cond.code yX8_food cX8_food 7 (Option.some .long) ∈ BIG := mB_3 (List.mem_of_getElem? (i := 235) rfl) rfl
theorem kCO_X8_214 : Cond.constantLong RX8 214 (-3) ∈ BIG := mB_3 (List.mem_of_getElem? (i := 236) rfl) rfl
theorem kML_X8_216 : Cond.methodLink RX8 216 yX3_enough ∈ BIG := mB_3 (List.mem_of_getElem? (i := 237) rfl) rfl
theorem kIM_X3_enough : Cond.instanceMethod yX3_enough ∈ BIG := mB_3 (List.mem_of_getElem? (i := 238) rfl) rfl
theorem kSE_X3_enough : Cond.selects RX3 yX3_enough yX3_enough ∈ BIG := mB_3 (List.mem_of_getElem? (i := 239) rfl) rfl
theorem kCD_X3_enough : Cond.code yX3_enough cX3_enough 10 (Option.some .long) ∈ BIG := mB_4 (List.mem_of_getElem? (i := 0) rfl) rfl
theorem kML_X3_24 : Cond.methodLink RX3 24 yX3_begin ∈ BIG := mB_4 (List.mem_of_getElem? (i := 1) rfl) rfl
theorem kIM_X3_begin : Cond.instanceMethod yX3_begin ∈ BIG := mB_4 (List.mem_of_getElem? (i := 2) rfl) rfl
theorem kSE_X3_begin : Cond.selects RX3 yX3_begin yX3_begin ∈ BIG := mB_4 (List.mem_of_getElem? (i := 3) rfl) rfl
theorem kCD_X3_begin : Cond.code yX3_begin cX3_begin 2 none ∈ BIG := mB_4 (List.mem_of_getElem? (i := 4) rfl) rfl
theorem kML_X3_18 : Cond.methodLink RX3 18 yJ7_fill_d0a16 ∈ BIG := mB_4 (List.mem_of_getElem? (i := 5) rfl) rfl
theorem kST_J7_fill_d0a16 : Cond.static yJ7_fill_d0a16 ∈ BIG := mB_4 (List.mem_of_getElem? (i := 6) rfl) rfl
theorem kCD_J7_fill_d0a16 : Cond.code yJ7_fill_d0a16 cJ7_fill_d0a16 5 none ∈ BIG := mB_4 (List.mem_of_getElem? (i := 7) rfl) rfl
theorem kML_X3_28 : Cond.methodLink RX3 28 yX3_sumFrom ∈ BIG := mB_4 (List.mem_of_getElem? (i := 8) rfl) rfl
theorem kIM_X3_sumFrom : Cond.instanceMethod yX3_sumFrom ∈ BIG := mB_4 (List.mem_of_getElem? (i := 9) rfl) rfl
theorem kSE_X3_sumFrom : Cond.selects RX3 yX3_sumFrom yX3_sumFrom ∈ BIG := mB_4 (List.mem_of_getElem? (i := 10) rfl) rfl
theorem kCD_X3_sumFrom : Cond.code yX3_sumFrom cX3_sumFrom 5 (Option.some .long) ∈ BIG := mB_4 (List.mem_of_getElem? (i := 11) rfl) rfl
theorem kML_X3_38 : Cond.methodLink RX3 38 yJ9_max_7cf53 ∈ BIG := mB_4 (List.mem_of_getElem? (i := 12) rfl) rfl
theorem kML_X8_220 : Cond.methodLink RX8 220 yX8_tenToThe ∈ BIG := mB_4 (List.mem_of_getElem? (i := 13) rfl) rfl
theorem kST_X8_tenToThe : Cond.static yX8_tenToThe ∈ BIG := mB_4 (List.mem_of_getElem? (i := 14) rfl) rfl
theorem kCD_X8_tenToThe : Cond.code yX8_tenToThe cX8_tenToThe 4 (Option.some .long) ∈ BIG := mB_4 (List.mem_of_getElem? (i := 15) rfl) rfl
theorem kCO_X8_270 : Cond.constantLong RX8 270 10 ∈ BIG := mB_4 (List.mem_of_getElem? (i := 16) rfl) rfl
theorem kML_X8_224 : Cond.methodLink RX8 224 yX8_lowestTerm ∈ BIG := mB_4 (List.mem_of_getElem? (i := 17) rfl) rfl
theorem kST_X8_lowestTerm : Cond.static yX8_lowestTerm ∈ BIG := mB_4 (List.mem_of_getElem? (i := 18) rfl) rfl
theorem kCD_X8_lowestTerm : Cond.code yX8_lowestTerm cX8_lowestTerm 12 (Option.some .long) ∈ BIG := mB_4 (List.mem_of_getElem? (i := 19) rfl) rfl
theorem kML_L_98 : Cond.methodLink RL 98 yX8_cut ∈ BIG := mB_4 (List.mem_of_getElem? (i := 20) rfl) rfl
theorem kIM_X8_cut : Cond.instanceMethod yX8_cut ∈ BIG := mB_4 (List.mem_of_getElem? (i := 21) rfl) rfl
theorem kSE_X8_cut : Cond.selects RX8 yX8_cut yX8_cut ∈ BIG := mB_4 (List.mem_of_getElem? (i := 22) rfl) rfl
theorem kCD_X8_cut : Cond.code yX8_cut cX8_cut 9 (Option.some .long) ∈ BIG := mB_4 (List.mem_of_getElem? (i := 23) rfl) rfl
theorem kCO_X8_228 : Cond.constantLong RX8 228 (-2) ∈ BIG := mB_4 (List.mem_of_getElem? (i := 24) rfl) rfl
theorem kCO_X8_230 : Cond.constantLong RX8 230 (-4) ∈ BIG := mB_4 (List.mem_of_getElem? (i := 25) rfl) rfl
theorem kML_X8_232 : Cond.methodLink RX8 232 yX3_begin ∈ BIG := mB_4 (List.mem_of_getElem? (i := 26) rfl) rfl
theorem kML_X8_236 : Cond.methodLink RX8 236 yX3_drift ∈ BIG := mB_4 (List.mem_of_getElem? (i := 27) rfl) rfl
theorem kIM_X3_drift : Cond.instanceMethod yX3_drift ∈ BIG := mB_4 (List.mem_of_getElem? (i := 28) rfl) rfl
theorem kSE_X3_drift : Cond.selects RX3 yX3_drift yX3_drift ∈ BIG := mB_4 (List.mem_of_getElem? (i := 29) rfl) rfl
theorem kCD_X3_drift : Cond.code yX3_drift cX3_drift 7 none ∈ BIG := mB_4 (List.mem_of_getElem? (i := 30) rfl) rfl
theorem kML_X3_32 : Cond.methodLink RX3 32 arraycopyName ∈ BIG := mB_4 (List.mem_of_getElem? (i := 31) rfl) rfl
theorem kML_X8_239 : Cond.methodLink RX8 239 yX3_sumFrom ∈ BIG := mB_4 (List.mem_of_getElem? (i := 32) rfl) rfl
theorem kML_L_103 : Cond.methodLink RL 103 yX8_share ∈ BIG := mB_4 (List.mem_of_getElem? (i := 33) rfl) rfl
theorem kIM_X8_share : Cond.instanceMethod yX8_share ∈ BIG := mB_4 (List.mem_of_getElem? (i := 34) rfl) rfl
theorem kSE_X8_share : Cond.selects RX8 yX8_share yX8_share ∈ BIG := mB_4 (List.mem_of_getElem? (i := 35) rfl) rfl
theorem kCD_X8_share : Cond.code yX8_share cX8_share 3 (Option.some .int) ∈ BIG := mB_4 (List.mem_of_getElem? (i := 36) rfl) rfl
theorem kML_X8_242 : Cond.methodLink RX8 242 yX4_shareOf ∈ BIG := mB_4 (List.mem_of_getElem? (i := 37) rfl) rfl
theorem kIM_X4_shareOf : Cond.instanceMethod yX4_shareOf ∈ BIG := mB_4 (List.mem_of_getElem? (i := 38) rfl) rfl
theorem kSE_X4_shareOf : Cond.selects RX4 yX4_shareOf yX4_shareOf ∈ BIG := mB_4 (List.mem_of_getElem? (i := 39) rfl) rfl
theorem kCD_X4_shareOf : Cond.code yX4_shareOf cX4_shareOf 9 (Option.some .int) ∈ BIG := mB_4 (List.mem_of_getElem? (i := 40) rfl) rfl
theorem kML_L_107 : Cond.methodLink RL 107 yX8_count ∈ BIG := mB_4 (List.mem_of_getElem? (i := 41) rfl) rfl
theorem kIM_X8_count : Cond.instanceMethod yX8_count ∈ BIG := mB_4 (List.mem_of_getElem? (i := 42) rfl) rfl
theorem kSE_X8_count : Cond.selects RX8 yX8_count yX8_count ∈ BIG := mB_4 (List.mem_of_getElem? (i := 43) rfl) rfl
theorem kCD_X8_count : Cond.code yX8_count cX8_count 2 (Option.some .int) ∈ BIG := mB_4 (List.mem_of_getElem? (i := 44) rfl) rfl
theorem kML_X8_245 : Cond.methodLink RX8 245 yX4_kiteBits ∈ BIG := mB_4 (List.mem_of_getElem? (i := 45) rfl) rfl
theorem kIM_X4_kiteBits : Cond.instanceMethod yX4_kiteBits ∈ BIG := mB_4 (List.mem_of_getElem? (i := 46) rfl) rfl
theorem kSE_X4_kiteBits : Cond.selects RX4 yX4_kiteBits yX4_kiteBits ∈ BIG := mB_4 (List.mem_of_getElem? (i := 47) rfl) rfl
theorem kCD_X4_kiteBits : Cond.code yX4_kiteBits cX4_kiteBits 3 (Option.some .int) ∈ BIG := mB_4 (List.mem_of_getElem? (i := 48) rfl) rfl
theorem kML_X8_249 : Cond.methodLink RX8 249 yX4_shoalBits ∈ BIG := mB_4 (List.mem_of_getElem? (i := 49) rfl) rfl
theorem kIM_X4_shoalBits : Cond.instanceMethod yX4_shoalBits ∈ BIG := mB_4 (List.mem_of_getElem? (i := 50) rfl) rfl
theorem kSE_X4_shoalBits : Cond.selects RX4 yX4_shoalBits yX4_shoalBits ∈ BIG := mB_4 (List.mem_of_getElem? (i := 51) rfl) rfl
theorem kCD_X4_shoalBits : Cond.code yX4_shoalBits cX4_shoalBits 3 (Option.some .int) ∈ BIG := mB_4 (List.mem_of_getElem? (i := 52) rfl) rfl
theorem kCL_L_10 : Cond.classLink RL 10 RX9 ∈ BIG := mB_4 (List.mem_of_getElem? (i := 53) rfl) rfl
theorem kIS_X9 : Cond.instantiable RX9 24 ∈ BIG := mB_4 (List.mem_of_getElem? (i := 54) rfl) rfl
theorem kML_L_12 : Cond.methodLink RL 12 yX9_init ∈ BIG := mB_4 (List.mem_of_getElem? (i := 55) rfl) rfl
theorem kIM_X9_init : Cond.instanceMethod yX9_init ∈ BIG := mB_4 (List.mem_of_getElem? (i := 56) rfl) rfl
theorem kCD_X9_init : Cond.code yX9_init cX9_init 1 none ∈ BIG := mB_4 (List.mem_of_getElem? (i := 57) rfl) rfl
theorem kML_X9_1 : Cond.methodLink RX9 1 objectInit ∈ BIG := mB_4 (List.mem_of_getElem? (i := 58) rfl) rfl
theorem kML_X9_42 : Cond.methodLink RX9 42 yX9_begin ∈ BIG := mB_4 (List.mem_of_getElem? (i := 59) rfl) rfl
theorem kIM_X9_begin : Cond.instanceMethod yX9_begin ∈ BIG := mB_4 (List.mem_of_getElem? (i := 61) rfl) rfl
theorem kCD_X9_begin : Cond.code yX9_begin cX9_begin 2 none ∈ BIG := mB_4 (List.mem_of_getElem? (i := 62) rfl) rfl
theorem kML_X9_158 : Cond.methodLink RX9 158 yX9_anew ∈ BIG := mB_4 (List.mem_of_getElem? (i := 63) rfl) rfl
theorem kIM_X9_anew : Cond.instanceMethod yX9_anew ∈ BIG := mB_4 (List.mem_of_getElem? (i := 65) rfl) rfl
theorem kCD_X9_anew : Cond.code yX9_anew cX9_anew 2 none ∈ BIG := mB_4 (List.mem_of_getElem? (i := 66) rfl) rfl
theorem kML_X9_45 : Cond.methodLink RX9 45 yX9_in ∈ BIG := mB_4 (List.mem_of_getElem? (i := 67) rfl) rfl
theorem kST_X9_in : Cond.static yX9_in ∈ BIG := mB_4 (List.mem_of_getElem? (i := 68) rfl) rfl
theorem kCD_X9_in : Cond.code yX9_in cX9_in 3 (Option.some .boolean) ∈ BIG := mB_4 (List.mem_of_getElem? (i := 69) rfl) rfl
theorem kFL_X9_7 : Cond.fieldLink RX9 7 "FishingKitesModel" "wind" "[I" ∈ BIG := mB_4 (List.mem_of_getElem? (i := 70) rfl) rfl
theorem kFL_X9_49 : Cond.fieldLink RX9 49 "FishingKitesModel" "kites" "I" ∈ BIG := mB_4 (List.mem_of_getElem? (i := 71) rfl) rfl
theorem kFL_X9_13 : Cond.fieldLink RX9 13 "FishingKitesModel" "kite" "[I" ∈ BIG := mB_4 (List.mem_of_getElem? (i := 72) rfl) rfl
theorem kFL_X9_149 : Cond.fieldLink RX9 149 "FishingKitesModel" "shoals" "I" ∈ BIG := mB_4 (List.mem_of_getElem? (i := 73) rfl) rfl
theorem kFL_X9_16 : Cond.fieldLink RX9 16 "FishingKitesModel" "shoal" "[I" ∈ BIG := mB_4 (List.mem_of_getElem? (i := 74) rfl) rfl
theorem kFL_X9_152 : Cond.fieldLink RX9 152 "FishingKitesModel" "law" "I" ∈ BIG := mB_4 (List.mem_of_getElem? (i := 75) rfl) rfl
theorem kFL_X9_19 : Cond.fieldLink RX9 19 "FishingKitesModel" "stock" "I" ∈ BIG := mB_4 (List.mem_of_getElem? (i := 76) rfl) rfl
theorem kFL_X9_143 : Cond.fieldLink RX9 143 "FishingKitesModel" "fog" "I" ∈ BIG := mB_4 (List.mem_of_getElem? (i := 77) rfl) rfl
theorem kFL_X9_146 : Cond.fieldLink RX9 146 "FishingKitesModel" "gulls" "I" ∈ BIG := mB_4 (List.mem_of_getElem? (i := 78) rfl) rfl
theorem kFL_X9_56 : Cond.fieldLink RX9 56 "FishingKitesModel" "bytes" "I" ∈ BIG := mB_4 (List.mem_of_getElem? (i := 79) rfl) rfl
theorem kFL_X9_23 : Cond.fieldLink RX9 23 "FishingKitesModel" "text" "[I" ∈ BIG := mB_4 (List.mem_of_getElem? (i := 80) rfl) rfl
theorem kFL_X9_61 : Cond.fieldLink RX9 61 "FishingKitesModel" "position" "I" ∈ BIG := mB_4 (List.mem_of_getElem? (i := 81) rfl) rfl
theorem kFL_X9_64 : Cond.fieldLink RX9 64 "FishingKitesModel" "tokenAt" "I" ∈ BIG := mB_4 (List.mem_of_getElem? (i := 82) rfl) rfl
theorem kFL_X9_75 : Cond.fieldLink RX9 75 "FishingKitesModel" "token" "J" ∈ BIG := mB_4 (List.mem_of_getElem? (i := 83) rfl) rfl
theorem kFL_X9_67 : Cond.fieldLink RX9 67 "FishingKitesModel" "digits" "I" ∈ BIG := mB_4 (List.mem_of_getElem? (i := 84) rfl) rfl
theorem kFL_X9_70 : Cond.fieldLink RX9 70 "FishingKitesModel" "number" "I" ∈ BIG := mB_4 (List.mem_of_getElem? (i := 85) rfl) rfl
theorem kFL_X9_89 : Cond.fieldLink RX9 89 "FishingKitesModel" "faultAt" "I" ∈ BIG := mB_4 (List.mem_of_getElem? (i := 86) rfl) rfl
theorem kFL_X9_130 : Cond.fieldLink RX9 130 "FishingKitesModel" "readMany" "I" ∈ BIG := mB_4 (List.mem_of_getElem? (i := 87) rfl) rfl
theorem kFL_X9_26 : Cond.fieldLink RX9 26 "FishingKitesModel" "read" "[I" ∈ BIG := mB_4 (List.mem_of_getElem? (i := 88) rfl) rfl
theorem kFL_X9_29 : Cond.fieldLink RX9 29 "FishingKitesModel" "now" "[I" ∈ BIG := mB_4 (List.mem_of_getElem? (i := 89) rfl) rfl
theorem kFL_X9_32 : Cond.fieldLink RX9 32 "FishingKitesModel" "aside" "[I" ∈ BIG := mB_4 (List.mem_of_getElem? (i := 90) rfl) rfl
theorem kFL_X9_35 : Cond.fieldLink RX9 35 "FishingKitesModel" "image" "[I" ∈ BIG := mB_4 (List.mem_of_getElem? (i := 91) rfl) rfl
theorem kFL_X9_38 : Cond.fieldLink RX9 38 "FishingKitesModel" "isKept" "[Z" ∈ BIG := mB_4 (List.mem_of_getElem? (i := 92) rfl) rfl
theorem kFL_X9_213 : Cond.fieldLink RX9 213 "FishingKitesModel" "triedMost" "I" ∈ BIG := mB_4 (List.mem_of_getElem? (i := 93) rfl) rfl
theorem kAC_boolean : Cond.arrayClass .boolean ∈ BIG := mB_4 (List.mem_of_getElem? (i := 143) rfl) rfl
theorem kML_L_19 : Cond.methodLink RL 19 yX9_write ∈ BIG := mB_4 (List.mem_of_getElem? (i := 144) rfl) rfl
theorem kIM_X9_write : Cond.instanceMethod yX9_write ∈ BIG := mB_4 (List.mem_of_getElem? (i := 145) rfl) rfl
theorem kSE_X9_write : Cond.selects RX9 yX9_write yX9_write ∈ BIG := mB_4 (List.mem_of_getElem? (i := 146) rfl) rfl
theorem kCD_X9_write : Cond.code yX9_write cX9_write 5 (Option.some .int) ∈ BIG := mB_4 (List.mem_of_getElem? (i := 147) rfl) rfl
theorem kCO_X9_59 : Cond.constantLong RX9 59 255 ∈ BIG := mB_4 (List.mem_of_getElem? (i := 148) rfl) rfl
theorem kML_L_24 : Cond.methodLink RL 24 yX9_erase ∈ BIG := mB_4 (List.mem_of_getElem? (i := 149) rfl) rfl
theorem kIM_X9_erase : Cond.instanceMethod yX9_erase ∈ BIG := mB_4 (List.mem_of_getElem? (i := 150) rfl) rfl
theorem kSE_X9_erase : Cond.selects RX9 yX9_erase yX9_erase ∈ BIG := mB_4 (List.mem_of_getElem? (i := 151) rfl) rfl
theorem kCD_X9_erase : Cond.code yX9_erase cX9_erase 2 (Option.some .int) ∈ BIG := mB_4 (List.mem_of_getElem? (i := 152) rfl) rfl
theorem kML_L_28 : Cond.methodLink RL 28 yX9_fault ∈ BIG := mB_4 (List.mem_of_getElem? (i := 153) rfl) rfl
theorem kIM_X9_fault : Cond.instanceMethod yX9_fault ∈ BIG := mB_4 (List.mem_of_getElem? (i := 154) rfl) rfl
theorem kSE_X9_fault : Cond.selects RX9 yX9_fault yX9_fault ∈ BIG := mB_4 (List.mem_of_getElem? (i := 155) rfl) rfl
theorem kCD_X9_fault : Cond.code yX9_fault cX9_fault 1 (Option.some .int) ∈ BIG := mB_4 (List.mem_of_getElem? (i := 156) rfl) rfl
theorem kML_X9_136 : Cond.methodLink RX9 136 yX9_isRead ∈ BIG := mB_4 (List.mem_of_getElem? (i := 157) rfl) rfl
theorem kIM_X9_isRead : Cond.instanceMethod yX9_isRead ∈ BIG := mB_4 (List.mem_of_getElem? (i := 159) rfl) rfl
theorem kCD_X9_isRead : Cond.code yX9_isRead cX9_isRead 2 (Option.some .boolean) ∈ BIG := mB_4 (List.mem_of_getElem? (i := 160) rfl) rfl
theorem kML_X9_133 : Cond.methodLink RX9 133 yX9_isLine ∈ BIG := mB_4 (List.mem_of_getElem? (i := 161) rfl) rfl
theorem kIM_X9_isLine : Cond.instanceMethod yX9_isLine ∈ BIG := mB_4 (List.mem_of_getElem? (i := 163) rfl) rfl
theorem kCD_X9_isLine : Cond.code yX9_isLine cX9_isLine 4 (Option.some .boolean) ∈ BIG := mB_4 (List.mem_of_getElem? (i := 164) rfl) rfl
theorem kML_X9_92 : Cond.methodLink RX9 92 yX9_nextToken ∈ BIG := mB_4 (List.mem_of_getElem? (i := 165) rfl) rfl
theorem kIM_X9_nextToken : Cond.instanceMethod yX9_nextToken ∈ BIG := mB_4 (List.mem_of_getElem? (i := 167) rfl) rfl
theorem kCD_X9_nextToken : Cond.code yX9_nextToken cX9_nextToken 1 none ∈ BIG := mB_4 (List.mem_of_getElem? (i := 168) rfl) rfl
theorem kCO_X9_73 : Cond.constantLong RX9 73 (-2) ∈ BIG := mB_4 (List.mem_of_getElem? (i := 169) rfl) rfl
theorem kCO_X9_79 : Cond.constantLong RX9 79 27 ∈ BIG := mB_4 (List.mem_of_getElem? (i := 170) rfl) rfl
theorem kCO_X9_81 : Cond.constantLong RX9 81 96 ∈ BIG := mB_4 (List.mem_of_getElem? (i := 171) rfl) rfl
theorem kCO_X9_83 : Cond.constantLong RX9 83 (-4) ∈ BIG := mB_4 (List.mem_of_getElem? (i := 172) rfl) rfl
theorem kCO_X9_85 : Cond.constantLong RX9 85 (-1) ∈ BIG := mB_4 (List.mem_of_getElem? (i := 173) rfl) rfl
theorem kCO_X9_87 : Cond.constantLong RX9 87 (-3) ∈ BIG := mB_4 (List.mem_of_getElem? (i := 174) rfl) rfl
theorem kCO_X9_102 : Cond.constantLong RX9 102 459652 ∈ BIG := mB_4 (List.mem_of_getElem? (i := 175) rfl) rfl
theorem kCO_X9_104 : Cond.constantLong RX9 104 223619 ∈ BIG := mB_4 (List.mem_of_getElem? (i := 176) rfl) rfl
theorem kCO_X9_106 : Cond.constantLong RX9 106 10265817 ∈ BIG := mB_4 (List.mem_of_getElem? (i := 177) rfl) rfl
theorem kCO_X9_108 : Cond.constantLong RX9 108 8798 ∈ BIG := mB_4 (List.mem_of_getElem? (i := 178) rfl) rfl
theorem kCO_X9_110 : Cond.constantLong RX9 110 10502066 ∈ BIG := mB_4 (List.mem_of_getElem? (i := 179) rfl) rfl
theorem kCO_X9_112 : Cond.constantLong RX9 112 4786 ∈ BIG := mB_4 (List.mem_of_getElem? (i := 180) rfl) rfl
theorem kCO_X9_114 : Cond.constantLong RX9 114 4142521 ∈ BIG := mB_4 (List.mem_of_getElem? (i := 181) rfl) rfl
theorem kCO_X9_116 : Cond.constantLong RX9 116 60115 ∈ BIG := mB_4 (List.mem_of_getElem? (i := 182) rfl) rfl
theorem kCO_X9_118 : Cond.constantLong RX9 118 247664 ∈ BIG := mB_4 (List.mem_of_getElem? (i := 183) rfl) rfl
theorem kML_X9_99 : Cond.methodLink RX9 99 yX9_isNumber ∈ BIG := mB_4 (List.mem_of_getElem? (i := 184) rfl) rfl
theorem kIM_X9_isNumber : Cond.instanceMethod yX9_isNumber ∈ BIG := mB_4 (List.mem_of_getElem? (i := 186) rfl) rfl
theorem kCD_X9_isNumber : Cond.code yX9_isNumber cX9_isNumber 4 (Option.some .boolean) ∈ BIG := mB_4 (List.mem_of_getElem? (i := 187) rfl) rfl
theorem kML_X9_95 : Cond.methodLink RX9 95 yX9_fails ∈ BIG := mB_4 (List.mem_of_getElem? (i := 188) rfl) rfl
theorem kIM_X9_fails : Cond.instanceMethod yX9_fails ∈ BIG := mB_4 (List.mem_of_getElem? (i := 190) rfl) rfl
theorem kCD_X9_fails : Cond.code yX9_fails cX9_fails 1 (Option.some .boolean) ∈ BIG := mB_4 (List.mem_of_getElem? (i := 191) rfl) rfl
theorem kML_X9_120 : Cond.methodLink RX9 120 yX9_areHours ∈ BIG := mB_4 (List.mem_of_getElem? (i := 192) rfl) rfl
theorem kIM_X9_areHours : Cond.instanceMethod yX9_areHours ∈ BIG := mB_4 (List.mem_of_getElem? (i := 194) rfl) rfl
theorem kCD_X9_areHours : Cond.code yX9_areHours cX9_areHours 2 (Option.some .boolean) ∈ BIG := mB_4 (List.mem_of_getElem? (i := 195) rfl) rfl
theorem kML_X9_124 : Cond.methodLink RX9 124 yX9_isKiteLine ∈ BIG := mB_4 (List.mem_of_getElem? (i := 196) rfl) rfl
theorem kIM_X9_isKiteLine : Cond.instanceMethod yX9_isKiteLine ∈ BIG := mB_4 (List.mem_of_getElem? (i := 198) rfl) rfl
theorem kCD_X9_isKiteLine : Cond.code yX9_isKiteLine cX9_isKiteLine 2 (Option.some .boolean) ∈ BIG := mB_4 (List.mem_of_getElem? (i := 199) rfl) rfl
theorem kML_X9_127 : Cond.methodLink RX9 127 yX9_isShoalLine ∈ BIG := mB_4 (List.mem_of_getElem? (i := 200) rfl) rfl
theorem kIM_X9_isShoalLine : Cond.instanceMethod yX9_isShoalLine ∈ BIG := mB_4 (List.mem_of_getElem? (i := 202) rfl) rfl
theorem kCD_X9_isShoalLine : Cond.code yX9_isShoalLine cX9_isShoalLine 2 (Option.some .boolean) ∈ BIG := mB_4 (List.mem_of_getElem? (i := 203) rfl) rfl
theorem kML_L_32 : Cond.methodLink RL 32 yX9_cliff ∈ BIG := mB_4 (List.mem_of_getElem? (i := 204) rfl) rfl
theorem kIM_X9_cliff : Cond.instanceMethod yX9_cliff ∈ BIG := mB_4 (List.mem_of_getElem? (i := 205) rfl) rfl
theorem kSE_X9_cliff : Cond.selects RX9 yX9_cliff yX9_cliff ∈ BIG := mB_4 (List.mem_of_getElem? (i := 206) rfl) rfl
theorem kCD_X9_cliff : Cond.code yX9_cliff cX9_cliff 2 (Option.some .int) ∈ BIG := mB_4 (List.mem_of_getElem? (i := 207) rfl) rfl
theorem kML_X9_161 : Cond.methodLink RX9 161 yX9_doLine ∈ BIG := mB_4 (List.mem_of_getElem? (i := 208) rfl) rfl
theorem kIM_X9_doLine : Cond.instanceMethod yX9_doLine ∈ BIG := mB_4 (List.mem_of_getElem? (i := 210) rfl) rfl
theorem kCD_X9_doLine : Cond.code yX9_doLine cX9_doLine 4 none ∈ BIG := mB_4 (List.mem_of_getElem? (i := 211) rfl) rfl
theorem kML_X9_139 : Cond.methodLink RX9 139 yX9_putWind ∈ BIG := mB_4 (List.mem_of_getElem? (i := 212) rfl) rfl
theorem kIM_X9_putWind : Cond.instanceMethod yX9_putWind ∈ BIG := mB_4 (List.mem_of_getElem? (i := 214) rfl) rfl
theorem kCD_X9_putWind : Cond.code yX9_putWind cX9_putWind 7 none ∈ BIG := mB_4 (List.mem_of_getElem? (i := 215) rfl) rfl
theorem kML_X9_155 : Cond.methodLink RX9 155 yX9_calm ∈ BIG := mB_4 (List.mem_of_getElem? (i := 216) rfl) rfl
theorem kIM_X9_calm : Cond.instanceMethod yX9_calm ∈ BIG := mB_4 (List.mem_of_getElem? (i := 218) rfl) rfl
theorem kCD_X9_calm : Cond.code yX9_calm cX9_calm 2 none ∈ BIG := mB_4 (List.mem_of_getElem? (i := 219) rfl) rfl
theorem kML_L_37 : Cond.methodLink RL 37 yX9_wind ∈ BIG := mB_4 (List.mem_of_getElem? (i := 220) rfl) rfl
theorem kIM_X9_wind : Cond.instanceMethod yX9_wind ∈ BIG := mB_4 (List.mem_of_getElem? (i := 221) rfl) rfl
theorem kSE_X9_wind : Cond.selects RX9 yX9_wind yX9_wind ∈ BIG := mB_4 (List.mem_of_getElem? (i := 222) rfl) rfl
theorem kCD_X9_wind : Cond.code yX9_wind cX9_wind 4 (Option.some .int) ∈ BIG := mB_4 (List.mem_of_getElem? (i := 223) rfl) rfl
theorem kML_X9_165 : Cond.methodLink RX9 165 yX9_isHeight ∈ BIG := mB_4 (List.mem_of_getElem? (i := 224) rfl) rfl
theorem kST_X9_isHeight : Cond.static yX9_isHeight ∈ BIG := mB_4 (List.mem_of_getElem? (i := 225) rfl) rfl
theorem kCD_X9_isHeight : Cond.code yX9_isHeight cX9_isHeight 1 (Option.some .boolean) ∈ BIG := mB_4 (List.mem_of_getElem? (i := 226) rfl) rfl
theorem kML_X9_168 : Cond.methodLink RX9 168 yX9_isHour ∈ BIG := mB_4 (List.mem_of_getElem? (i := 227) rfl) rfl
theorem kST_X9_isHour : Cond.static yX9_isHour ∈ BIG := mB_4 (List.mem_of_getElem? (i := 228) rfl) rfl
theorem kCD_X9_isHour : Cond.code yX9_isHour cX9_isHour 1 (Option.some .boolean) ∈ BIG := mB_4 (List.mem_of_getElem? (i := 229) rfl) rfl
theorem kML_L_42 : Cond.methodLink RL 42 yX9_shoal ∈ BIG := mB_4 (List.mem_of_getElem? (i := 230) rfl) rfl
theorem kIM_X9_shoal : Cond.instanceMethod yX9_shoal ∈ BIG := mB_4 (List.mem_of_getElem? (i := 231) rfl) rfl
theorem kSE_X9_shoal : Cond.selects RX9 yX9_shoal yX9_shoal ∈ BIG := mB_4 (List.mem_of_getElem? (i := 232) rfl) rfl
theorem kCD_X9_shoal : Cond.code yX9_shoal cX9_shoal 3 (Option.some .int) ∈ BIG := mB_4 (List.mem_of_getElem? (i := 233) rfl) rfl
theorem kML_X9_52 : Cond.methodLink RX9 52 yX9_has ∈ BIG := mB_4 (List.mem_of_getElem? (i := 234) rfl) rfl
theorem kST_X9_has : Cond.static yX9_has ∈ BIG := mB_4 (List.mem_of_getElem? (i := 235) rfl) rfl
theorem kCD_X9_has : Cond.code yX9_has cX9_has 2 (Option.some .boolean) ∈ BIG := mB_4 (List.mem_of_getElem? (i := 236) rfl) rfl
theorem kML_L_46 : Cond.methodLink RL 46 yX9_ask ∈ BIG := mB_4 (List.mem_of_getElem? (i := 237) rfl) rfl
theorem kIM_X9_ask : Cond.instanceMethod yX9_ask ∈ BIG := mB_4 (List.mem_of_getElem? (i := 238) rfl) rfl
theorem kSE_X9_ask : Cond.selects RX9 yX9_ask yX9_ask ∈ BIG := mB_4 (List.mem_of_getElem? (i := 239) rfl) rfl
theorem kCD_X9_ask : Cond.code yX9_ask cX9_ask 4 (Option.some .int) ∈ BIG := mB_5 (List.mem_of_getElem? (i := 0) rfl) rfl
theorem kML_X9_171 : Cond.methodLink RX9 171 yX9_isKite ∈ BIG := mB_5 (List.mem_of_getElem? (i := 1) rfl) rfl
theorem kIM_X9_isKite : Cond.instanceMethod yX9_isKite ∈ BIG := mB_5 (List.mem_of_getElem? (i := 3) rfl) rfl
theorem kCD_X9_isKite : Cond.code yX9_isKite cX9_isKite 2 (Option.some .boolean) ∈ BIG := mB_5 (List.mem_of_getElem? (i := 4) rfl) rfl
theorem kML_L_51 : Cond.methodLink RL 51 yX9_go ∈ BIG := mB_5 (List.mem_of_getElem? (i := 5) rfl) rfl
theorem kIM_X9_go : Cond.instanceMethod yX9_go ∈ BIG := mB_5 (List.mem_of_getElem? (i := 6) rfl) rfl
theorem kSE_X9_go : Cond.selects RX9 yX9_go yX9_go ∈ BIG := mB_5 (List.mem_of_getElem? (i := 7) rfl) rfl
theorem kCD_X9_go : Cond.code yX9_go cX9_go 3 (Option.some .int) ∈ BIG := mB_5 (List.mem_of_getElem? (i := 8) rfl) rfl
theorem kML_X9_202 : Cond.methodLink RX9 202 yX9_goHour ∈ BIG := mB_5 (List.mem_of_getElem? (i := 9) rfl) rfl
theorem kIM_X9_goHour : Cond.instanceMethod yX9_goHour ∈ BIG := mB_5 (List.mem_of_getElem? (i := 11) rfl) rfl
theorem kCD_X9_goHour : Cond.code yX9_goHour cX9_goHour 3 none ∈ BIG := mB_5 (List.mem_of_getElem? (i := 12) rfl) rfl
theorem kML_X9_195 : Cond.methodLink RX9 195 yX9_findUp ∈ BIG := mB_5 (List.mem_of_getElem? (i := 13) rfl) rfl
theorem kIM_X9_findUp : Cond.instanceMethod yX9_findUp ∈ BIG := mB_5 (List.mem_of_getElem? (i := 15) rfl) rfl
theorem kCD_X9_findUp : Cond.code yX9_findUp cX9_findUp 7 none ∈ BIG := mB_5 (List.mem_of_getElem? (i := 16) rfl) rfl
theorem kML_X9_182 : Cond.methodLink RX9 182 yX9_hasLift ∈ BIG := mB_5 (List.mem_of_getElem? (i := 17) rfl) rfl
theorem kIM_X9_hasLift : Cond.instanceMethod yX9_hasLift ∈ BIG := mB_5 (List.mem_of_getElem? (i := 19) rfl) rfl
theorem kCD_X9_hasLift : Cond.code yX9_hasLift cX9_hasLift 4 (Option.some .boolean) ∈ BIG := mB_5 (List.mem_of_getElem? (i := 20) rfl) rfl
theorem kML_X9_185 : Cond.methodLink RX9 185 yX9_isInSea ∈ BIG := mB_5 (List.mem_of_getElem? (i := 21) rfl) rfl
theorem kIM_X9_isInSea : Cond.instanceMethod yX9_isInSea ∈ BIG := mB_5 (List.mem_of_getElem? (i := 23) rfl) rfl
theorem kCD_X9_isInSea : Cond.code yX9_isInSea cX9_isInSea 4 (Option.some .boolean) ∈ BIG := mB_5 (List.mem_of_getElem? (i := 24) rfl) rfl
theorem kML_X9_174 : Cond.methodLink RX9 174 yX9_xOf ∈ BIG := mB_5 (List.mem_of_getElem? (i := 25) rfl) rfl
theorem kIM_X9_xOf : Cond.instanceMethod yX9_xOf ∈ BIG := mB_5 (List.mem_of_getElem? (i := 27) rfl) rfl
theorem kCD_X9_xOf : Cond.code yX9_xOf cX9_xOf 4 (Option.some .int) ∈ BIG := mB_5 (List.mem_of_getElem? (i := 28) rfl) rfl
theorem kML_X9_178 : Cond.methodLink RX9 178 yX9_yOf ∈ BIG := mB_5 (List.mem_of_getElem? (i := 29) rfl) rfl
theorem kIM_X9_yOf : Cond.instanceMethod yX9_yOf ∈ BIG := mB_5 (List.mem_of_getElem? (i := 31) rfl) rfl
theorem kCD_X9_yOf : Cond.code yX9_yOf cX9_yOf 3 (Option.some .int) ∈ BIG := mB_5 (List.mem_of_getElem? (i := 32) rfl) rfl
theorem kML_X9_188 : Cond.methodLink RX9 188 yX9_doTangle ∈ BIG := mB_5 (List.mem_of_getElem? (i := 33) rfl) rfl
theorem kIM_X9_doTangle : Cond.instanceMethod yX9_doTangle ∈ BIG := mB_5 (List.mem_of_getElem? (i := 35) rfl) rfl
theorem kCD_X9_doTangle : Cond.code yX9_doTangle cX9_doTangle 7 (Option.some .boolean) ∈ BIG := mB_5 (List.mem_of_getElem? (i := 36) rfl) rfl
theorem kML_X9_192 : Cond.methodLink RX9 192 yX9_givesWay ∈ BIG := mB_5 (List.mem_of_getElem? (i := 37) rfl) rfl
theorem kIM_X9_givesWay : Cond.instanceMethod yX9_givesWay ∈ BIG := mB_5 (List.mem_of_getElem? (i := 39) rfl) rfl
theorem kCD_X9_givesWay : Cond.code yX9_givesWay cX9_givesWay 4 (Option.some .int) ∈ BIG := mB_5 (List.mem_of_getElem? (i := 40) rfl) rfl
theorem kML_X9_198 : Cond.methodLink RX9 198 yX9_take ∈ BIG := mB_5 (List.mem_of_getElem? (i := 41) rfl) rfl
theorem kIM_X9_take : Cond.instanceMethod yX9_take ∈ BIG := mB_5 (List.mem_of_getElem? (i := 43) rfl) rfl
theorem kCD_X9_take : Cond.code yX9_take cX9_take 9 none ∈ BIG := mB_5 (List.mem_of_getElem? (i := 44) rfl) rfl
theorem kML_L_55 : Cond.methodLink RL 55 yX9_kite ∈ BIG := mB_5 (List.mem_of_getElem? (i := 45) rfl) rfl
theorem kIM_X9_kite : Cond.instanceMethod yX9_kite ∈ BIG := mB_5 (List.mem_of_getElem? (i := 46) rfl) rfl
theorem kSE_X9_kite : Cond.selects RX9 yX9_kite yX9_kite ∈ BIG := mB_5 (List.mem_of_getElem? (i := 47) rfl) rfl
theorem kCD_X9_kite : Cond.code yX9_kite cX9_kite 3 (Option.some .int) ∈ BIG := mB_5 (List.mem_of_getElem? (i := 48) rfl) rfl
theorem kML_L_59 : Cond.methodLink RL 59 yX9_where ∈ BIG := mB_5 (List.mem_of_getElem? (i := 49) rfl) rfl
theorem kIM_X9_where : Cond.instanceMethod yX9_where ∈ BIG := mB_5 (List.mem_of_getElem? (i := 50) rfl) rfl
theorem kSE_X9_where : Cond.selects RX9 yX9_where yX9_where ∈ BIG := mB_5 (List.mem_of_getElem? (i := 51) rfl) rfl
theorem kCD_X9_where : Cond.code yX9_where cX9_where 4 (Option.some .int) ∈ BIG := mB_5 (List.mem_of_getElem? (i := 52) rfl) rfl
theorem kML_L_63 : Cond.methodLink RL 63 yX9_hinders ∈ BIG := mB_5 (List.mem_of_getElem? (i := 53) rfl) rfl
theorem kIM_X9_hinders : Cond.instanceMethod yX9_hinders ∈ BIG := mB_5 (List.mem_of_getElem? (i := 54) rfl) rfl
theorem kSE_X9_hinders : Cond.selects RX9 yX9_hinders yX9_hinders ∈ BIG := mB_5 (List.mem_of_getElem? (i := 55) rfl) rfl
theorem kCD_X9_hinders : Cond.code yX9_hinders cX9_hinders 4 (Option.some .int) ∈ BIG := mB_5 (List.mem_of_getElem? (i := 56) rfl) rfl
theorem kML_L_68 : Cond.methodLink RL 68 yX9_tangle ∈ BIG := mB_5 (List.mem_of_getElem? (i := 57) rfl) rfl
theorem kIM_X9_tangle : Cond.instanceMethod yX9_tangle ∈ BIG := mB_5 (List.mem_of_getElem? (i := 58) rfl) rfl
theorem kSE_X9_tangle : Cond.selects RX9 yX9_tangle yX9_tangle ∈ BIG := mB_5 (List.mem_of_getElem? (i := 59) rfl) rfl
theorem kCD_X9_tangle : Cond.code yX9_tangle cX9_tangle 5 (Option.some .int) ∈ BIG := mB_5 (List.mem_of_getElem? (i := 60) rfl) rfl
theorem kML_L_72 : Cond.methodLink RL 72 yX9_taking ∈ BIG := mB_5 (List.mem_of_getElem? (i := 61) rfl) rfl
theorem kIM_X9_taking : Cond.instanceMethod yX9_taking ∈ BIG := mB_5 (List.mem_of_getElem? (i := 62) rfl) rfl
theorem kSE_X9_taking : Cond.selects RX9 yX9_taking yX9_taking ∈ BIG := mB_5 (List.mem_of_getElem? (i := 63) rfl) rfl
theorem kCD_X9_taking : Cond.code yX9_taking cX9_taking 3 (Option.some .int) ∈ BIG := mB_5 (List.mem_of_getElem? (i := 64) rfl) rfl
theorem kML_L_76 : Cond.methodLink RL 76 yX9_keep ∈ BIG := mB_5 (List.mem_of_getElem? (i := 65) rfl) rfl
theorem kIM_X9_keep : Cond.instanceMethod yX9_keep ∈ BIG := mB_5 (List.mem_of_getElem? (i := 66) rfl) rfl
theorem kSE_X9_keep : Cond.selects RX9 yX9_keep yX9_keep ∈ BIG := mB_5 (List.mem_of_getElem? (i := 67) rfl) rfl
theorem kCD_X9_keep : Cond.code yX9_keep cX9_keep 2 (Option.some .int) ∈ BIG := mB_5 (List.mem_of_getElem? (i := 68) rfl) rfl
theorem kML_X9_205 : Cond.methodLink RX9 205 yX9_copy ∈ BIG := mB_5 (List.mem_of_getElem? (i := 69) rfl) rfl
theorem kST_X9_copy : Cond.static yX9_copy ∈ BIG := mB_5 (List.mem_of_getElem? (i := 70) rfl) rfl
theorem kCD_X9_copy : Cond.code yX9_copy cX9_copy 5 none ∈ BIG := mB_5 (List.mem_of_getElem? (i := 71) rfl) rfl
theorem kML_L_80 : Cond.methodLink RL 80 yX9_back ∈ BIG := mB_5 (List.mem_of_getElem? (i := 72) rfl) rfl
theorem kIM_X9_back : Cond.instanceMethod yX9_back ∈ BIG := mB_5 (List.mem_of_getElem? (i := 73) rfl) rfl
theorem kSE_X9_back : Cond.selects RX9 yX9_back yX9_back ∈ BIG := mB_5 (List.mem_of_getElem? (i := 74) rfl) rfl
theorem kCD_X9_back : Cond.code yX9_back cX9_back 2 (Option.some .int) ∈ BIG := mB_5 (List.mem_of_getElem? (i := 75) rfl) rfl
theorem kML_L_84 : Cond.methodLink RL 84 yX9_best ∈ BIG := mB_5 (List.mem_of_getElem? (i := 76) rfl) rfl
theorem kIM_X9_best : Cond.instanceMethod yX9_best ∈ BIG := mB_5 (List.mem_of_getElem? (i := 77) rfl) rfl
theorem kSE_X9_best : Cond.selects RX9 yX9_best yX9_best ∈ BIG := mB_5 (List.mem_of_getElem? (i := 78) rfl) rfl
theorem kCD_X9_best : Cond.code yX9_best cX9_best 3 (Option.some .int) ∈ BIG := mB_5 (List.mem_of_getElem? (i := 79) rfl) rfl
theorem kML_X9_225 : Cond.methodLink RX9 225 yX9_bestOf ∈ BIG := mB_5 (List.mem_of_getElem? (i := 80) rfl) rfl
theorem kIM_X9_bestOf : Cond.instanceMethod yX9_bestOf ∈ BIG := mB_5 (List.mem_of_getElem? (i := 82) rfl) rfl
theorem kCD_X9_bestOf : Cond.code yX9_bestOf cX9_bestOf 7 (Option.some .int) ∈ BIG := mB_5 (List.mem_of_getElem? (i := 83) rfl) rfl
theorem kML_X9_209 : Cond.methodLink RX9 209 yX9_toldMany ∈ BIG := mB_5 (List.mem_of_getElem? (i := 84) rfl) rfl
theorem kIM_X9_toldMany : Cond.instanceMethod yX9_toldMany ∈ BIG := mB_5 (List.mem_of_getElem? (i := 86) rfl) rfl
theorem kCD_X9_toldMany : Cond.code yX9_toldMany cX9_toldMany 3 (Option.some .int) ∈ BIG := mB_5 (List.mem_of_getElem? (i := 87) rfl) rfl
theorem kML_X9_216 : Cond.methodLink RX9 216 yX9_copyState ∈ BIG := mB_5 (List.mem_of_getElem? (i := 88) rfl) rfl
theorem kIM_X9_copyState : Cond.instanceMethod yX9_copyState ∈ BIG := mB_5 (List.mem_of_getElem? (i := 90) rfl) rfl
theorem kCD_X9_copyState : Cond.code yX9_copyState cX9_copyState 2 none ∈ BIG := mB_5 (List.mem_of_getElem? (i := 91) rfl) rfl
theorem kML_X9_219 : Cond.methodLink RX9 219 yX9_askAll ∈ BIG := mB_5 (List.mem_of_getElem? (i := 92) rfl) rfl
theorem kIM_X9_askAll : Cond.instanceMethod yX9_askAll ∈ BIG := mB_5 (List.mem_of_getElem? (i := 94) rfl) rfl
theorem kCD_X9_askAll : Cond.code yX9_askAll cX9_askAll 4 none ∈ BIG := mB_5 (List.mem_of_getElem? (i := 95) rfl) rfl
theorem kML_X9_222 : Cond.methodLink RX9 222 yX9_caught ∈ BIG := mB_5 (List.mem_of_getElem? (i := 96) rfl) rfl
theorem kIM_X9_caught : Cond.instanceMethod yX9_caught ∈ BIG := mB_5 (List.mem_of_getElem? (i := 98) rfl) rfl
theorem kCD_X9_caught : Cond.code yX9_caught cX9_caught 3 (Option.some .int) ∈ BIG := mB_5 (List.mem_of_getElem? (i := 99) rfl) rfl
theorem kML_X9_229 : Cond.methodLink RX9 229 yX9_heightIn ∈ BIG := mB_5 (List.mem_of_getElem? (i := 100) rfl) rfl
theorem kIM_X9_heightIn : Cond.instanceMethod yX9_heightIn ∈ BIG := mB_5 (List.mem_of_getElem? (i := 102) rfl) rfl
theorem kCD_X9_heightIn : Cond.code yX9_heightIn cX9_heightIn 5 (Option.some .int) ∈ BIG := mB_5 (List.mem_of_getElem? (i := 103) rfl) rfl
theorem kML_L_88 : Cond.methodLink RL 88 yX9_allDay ∈ BIG := mB_5 (List.mem_of_getElem? (i := 104) rfl) rfl
theorem kIM_X9_allDay : Cond.instanceMethod yX9_allDay ∈ BIG := mB_5 (List.mem_of_getElem? (i := 105) rfl) rfl
theorem kSE_X9_allDay : Cond.selects RX9 yX9_allDay yX9_allDay ∈ BIG := mB_5 (List.mem_of_getElem? (i := 106) rfl) rfl
theorem kCD_X9_allDay : Cond.code yX9_allDay cX9_allDay 3 (Option.some .int) ∈ BIG := mB_5 (List.mem_of_getElem? (i := 107) rfl) rfl
theorem kML_L_92 : Cond.methodLink RL 92 yX9_laws ∈ BIG := mB_5 (List.mem_of_getElem? (i := 108) rfl) rfl
theorem kIM_X9_laws : Cond.instanceMethod yX9_laws ∈ BIG := mB_5 (List.mem_of_getElem? (i := 109) rfl) rfl
theorem kSE_X9_laws : Cond.selects RX9 yX9_laws yX9_laws ∈ BIG := mB_5 (List.mem_of_getElem? (i := 110) rfl) rfl
theorem kCD_X9_laws : Cond.code yX9_laws cX9_laws 6 (Option.some .int) ∈ BIG := mB_5 (List.mem_of_getElem? (i := 111) rfl) rfl
theorem kML_L_97 : Cond.methodLink RL 97 yX9_food ∈ BIG := mB_5 (List.mem_of_getElem? (i := 112) rfl) rfl
theorem kIM_X9_food : Cond.instanceMethod yX9_food ∈ BIG := mB_5 (List.mem_of_getElem? (i := 113) rfl) rfl
theorem kSE_X9_food : Cond.selects RX9 yX9_food yX9_food ∈ BIG := mB_5 (List.mem_of_getElem? (i := 114) rfl) rfl
theorem kCD_X9_food : Cond.code yX9_food cX9_food 17 (Option.some .long) ∈ BIG := mB_5 (List.mem_of_getElem? (i := 115) rfl) rfl
theorem kCO_X9_232 : Cond.constantLong RX9 232 10 ∈ BIG := mB_5 (List.mem_of_getElem? (i := 116) rfl) rfl
theorem kML_X9_234 : Cond.methodLink RX9 234 yX9_part ∈ BIG := mB_5 (List.mem_of_getElem? (i := 117) rfl) rfl
theorem kST_X9_part : Cond.static yX9_part ∈ BIG := mB_5 (List.mem_of_getElem? (i := 118) rfl) rfl
theorem kCD_X9_part : Cond.code yX9_part cX9_part 11 (Option.some .long) ∈ BIG := mB_5 (List.mem_of_getElem? (i := 119) rfl) rfl
theorem kML_L_102 : Cond.methodLink RL 102 yX9_cut ∈ BIG := mB_5 (List.mem_of_getElem? (i := 120) rfl) rfl
theorem kIM_X9_cut : Cond.instanceMethod yX9_cut ∈ BIG := mB_5 (List.mem_of_getElem? (i := 121) rfl) rfl
theorem kSE_X9_cut : Cond.selects RX9 yX9_cut yX9_cut ∈ BIG := mB_5 (List.mem_of_getElem? (i := 122) rfl) rfl
theorem kCD_X9_cut : Cond.code yX9_cut cX9_cut 17 (Option.some .long) ∈ BIG := mB_5 (List.mem_of_getElem? (i := 123) rfl) rfl
theorem kML_L_106 : Cond.methodLink RL 106 yX9_share ∈ BIG := mB_5 (List.mem_of_getElem? (i := 124) rfl) rfl
theorem kIM_X9_share : Cond.instanceMethod yX9_share ∈ BIG := mB_5 (List.mem_of_getElem? (i := 125) rfl) rfl
theorem kSE_X9_share : Cond.selects RX9 yX9_share yX9_share ∈ BIG := mB_5 (List.mem_of_getElem? (i := 126) rfl) rfl
theorem kCD_X9_share : Cond.code yX9_share cX9_share 10 (Option.some .int) ∈ BIG := mB_5 (List.mem_of_getElem? (i := 127) rfl) rfl
theorem kML_L_110 : Cond.methodLink RL 110 yX9_count ∈ BIG := mB_5 (List.mem_of_getElem? (i := 128) rfl) rfl
theorem kIM_X9_count : Cond.instanceMethod yX9_count ∈ BIG := mB_5 (List.mem_of_getElem? (i := 129) rfl) rfl
theorem kSE_X9_count : Cond.selects RX9 yX9_count yX9_count ∈ BIG := mB_5 (List.mem_of_getElem? (i := 130) rfl) rfl
theorem kCD_X9_count : Cond.code yX9_count cX9_count 2 (Option.some .int) ∈ BIG := mB_5 (List.mem_of_getElem? (i := 131) rfl) rfl
theorem kCO_L_13 : Cond.constantLong RL 13 4294967295 ∈ BIG := mB_5 (List.mem_of_getElem? (i := 132) rfl) rfl
theorem kFL_J0_9 : Cond.fieldLink RJ0 9 "java/lang/String" "value" "[B" ∈ BIG := mB_5 (List.mem_of_getElem? (i := 133) rfl) rfl
theorem kFL_J0_15 : Cond.fieldLink RJ0 15 "java/lang/String" "coder" "B" ∈ BIG := mB_5 (List.mem_of_getElem? (i := 134) rfl) rfl
theorem kSE_X8_isPlace : Cond.selects RX8 yX8_isPlace yX8_isPlace ∈ BIG := mB_sel (List.mem_map.mpr ⟨(⟨"FishingKites", "isPlace", "(III)Z"⟩, 11), List.mem_append_left _ (List.mem_of_getElem? (i := 0) rfl), rfl⟩) rfl
theorem kSE_X8_caughtAllDayBy : Cond.selects RX8 yX8_caughtAllDayBy yX8_caughtAllDayBy ∈ BIG := mB_sel (List.mem_map.mpr ⟨(⟨"FishingKites", "caughtAllDayBy", "(I)I"⟩, 11), List.mem_append_left _ (List.mem_of_getElem? (i := 1) rfl), rfl⟩) rfl
theorem kSE_X9_begin : Cond.selects RX9 yX9_begin yX9_begin ∈ BIG := mB_sel (List.mem_map.mpr ⟨(⟨"FishingKitesModel", "begin", "()V"⟩, 24), List.mem_append_left _ (List.mem_of_getElem? (i := 2) rfl), rfl⟩) rfl
theorem kSE_X9_anew : Cond.selects RX9 yX9_anew yX9_anew ∈ BIG := mB_sel (List.mem_map.mpr ⟨(⟨"FishingKitesModel", "anew", "()V"⟩, 24), List.mem_append_left _ (List.mem_of_getElem? (i := 3) rfl), rfl⟩) rfl
theorem kSE_X9_isRead : Cond.selects RX9 yX9_isRead yX9_isRead ∈ BIG := mB_sel (List.mem_map.mpr ⟨(⟨"FishingKitesModel", "isRead", "()Z"⟩, 24), List.mem_append_left _ (List.mem_of_getElem? (i := 4) rfl), rfl⟩) rfl
theorem kSE_X9_isLine : Cond.selects RX9 yX9_isLine yX9_isLine ∈ BIG := mB_sel (List.mem_map.mpr ⟨(⟨"FishingKitesModel", "isLine", "(I)Z"⟩, 24), List.mem_append_left _ (List.mem_of_getElem? (i := 5) rfl), rfl⟩) rfl
theorem kSE_X9_nextToken : Cond.selects RX9 yX9_nextToken yX9_nextToken ∈ BIG := mB_sel (List.mem_map.mpr ⟨(⟨"FishingKitesModel", "nextToken", "()V"⟩, 24), List.mem_append_left _ (List.mem_of_getElem? (i := 6) rfl), rfl⟩) rfl
theorem kSE_X9_isNumber : Cond.selects RX9 yX9_isNumber yX9_isNumber ∈ BIG := mB_sel (List.mem_map.mpr ⟨(⟨"FishingKitesModel", "isNumber", "(III)Z"⟩, 24), List.mem_append_left _ (List.mem_of_getElem? (i := 7) rfl), rfl⟩) rfl
theorem kSE_X9_fails : Cond.selects RX9 yX9_fails yX9_fails ∈ BIG := mB_sel (List.mem_map.mpr ⟨(⟨"FishingKitesModel", "fails", "()Z"⟩, 24), List.mem_append_left _ (List.mem_of_getElem? (i := 8) rfl), rfl⟩) rfl
theorem kSE_X9_areHours : Cond.selects RX9 yX9_areHours yX9_areHours ∈ BIG := mB_sel (List.mem_map.mpr ⟨(⟨"FishingKitesModel", "areHours", "(I)Z"⟩, 24), List.mem_append_left _ (List.mem_of_getElem? (i := 9) rfl), rfl⟩) rfl
theorem kSE_X9_isKiteLine : Cond.selects RX9 yX9_isKiteLine yX9_isKiteLine ∈ BIG := mB_sel (List.mem_map.mpr ⟨(⟨"FishingKitesModel", "isKiteLine", "(I)Z"⟩, 24), List.mem_append_left _ (List.mem_of_getElem? (i := 10) rfl), rfl⟩) rfl
theorem kSE_X9_isShoalLine : Cond.selects RX9 yX9_isShoalLine yX9_isShoalLine ∈ BIG := mB_sel (List.mem_map.mpr ⟨(⟨"FishingKitesModel", "isShoalLine", "(I)Z"⟩, 24), List.mem_append_left _ (List.mem_of_getElem? (i := 11) rfl), rfl⟩) rfl
theorem kSE_X9_doLine : Cond.selects RX9 yX9_doLine yX9_doLine ∈ BIG := mB_sel (List.mem_map.mpr ⟨(⟨"FishingKitesModel", "doLine", "(I)V"⟩, 24), List.mem_append_left _ (List.mem_of_getElem? (i := 12) rfl), rfl⟩) rfl
theorem kSE_X9_putWind : Cond.selects RX9 yX9_putWind yX9_putWind ∈ BIG := mB_sel (List.mem_map.mpr ⟨(⟨"FishingKitesModel", "putWind", "(IIIII)V"⟩, 24), List.mem_append_left _ (List.mem_of_getElem? (i := 13) rfl), rfl⟩) rfl
theorem kSE_X9_calm : Cond.selects RX9 yX9_calm yX9_calm ∈ BIG := mB_sel (List.mem_map.mpr ⟨(⟨"FishingKitesModel", "calm", "()V"⟩, 24), List.mem_append_left _ (List.mem_of_getElem? (i := 14) rfl), rfl⟩) rfl
theorem kSE_X9_isKite : Cond.selects RX9 yX9_isKite yX9_isKite ∈ BIG := mB_sel (List.mem_map.mpr ⟨(⟨"FishingKitesModel", "isKite", "(I)Z"⟩, 24), List.mem_append_left _ (List.mem_of_getElem? (i := 15) rfl), rfl⟩) rfl
theorem kSE_X9_goHour : Cond.selects RX9 yX9_goHour yX9_goHour ∈ BIG := mB_sel (List.mem_map.mpr ⟨(⟨"FishingKitesModel", "goHour", "()V"⟩, 24), List.mem_append_right _ (List.mem_of_getElem? (i := 0) rfl), rfl⟩) rfl
theorem kSE_X9_findUp : Cond.selects RX9 yX9_findUp yX9_findUp ∈ BIG := mB_sel (List.mem_map.mpr ⟨(⟨"FishingKitesModel", "findUp", "(I)V"⟩, 24), List.mem_append_right _ (List.mem_of_getElem? (i := 1) rfl), rfl⟩) rfl
theorem kSE_X9_hasLift : Cond.selects RX9 yX9_hasLift yX9_hasLift ∈ BIG := mB_sel (List.mem_map.mpr ⟨(⟨"FishingKitesModel", "hasLift", "(III)Z"⟩, 24), List.mem_append_right _ (List.mem_of_getElem? (i := 2) rfl), rfl⟩) rfl
theorem kSE_X9_isInSea : Cond.selects RX9 yX9_isInSea yX9_isInSea ∈ BIG := mB_sel (List.mem_map.mpr ⟨(⟨"FishingKitesModel", "isInSea", "(III)Z"⟩, 24), List.mem_append_right _ (List.mem_of_getElem? (i := 3) rfl), rfl⟩) rfl
theorem kSE_X9_xOf : Cond.selects RX9 yX9_xOf yX9_xOf ∈ BIG := mB_sel (List.mem_map.mpr ⟨(⟨"FishingKitesModel", "xOf", "(III)I"⟩, 24), List.mem_append_right _ (List.mem_of_getElem? (i := 4) rfl), rfl⟩) rfl
theorem kSE_X9_yOf : Cond.selects RX9 yX9_yOf yX9_yOf ∈ BIG := mB_sel (List.mem_map.mpr ⟨(⟨"FishingKitesModel", "yOf", "(II)I"⟩, 24), List.mem_append_right _ (List.mem_of_getElem? (i := 5) rfl), rfl⟩) rfl
theorem kSE_X9_doTangle : Cond.selects RX9 yX9_doTangle yX9_doTangle ∈ BIG := mB_sel (List.mem_map.mpr ⟨(⟨"FishingKitesModel", "doTangle", "(IIII)Z"⟩, 24), List.mem_append_right _ (List.mem_of_getElem? (i := 6) rfl), rfl⟩) rfl
theorem kSE_X9_givesWay : Cond.selects RX9 yX9_givesWay yX9_givesWay ∈ BIG := mB_sel (List.mem_map.mpr ⟨(⟨"FishingKitesModel", "givesWay", "(II)I"⟩, 24), List.mem_append_right _ (List.mem_of_getElem? (i := 7) rfl), rfl⟩) rfl
theorem kSE_X9_take : Cond.selects RX9 yX9_take yX9_take ∈ BIG := mB_sel (List.mem_map.mpr ⟨(⟨"FishingKitesModel", "take", "(II)V"⟩, 24), List.mem_append_right _ (List.mem_of_getElem? (i := 8) rfl), rfl⟩) rfl
theorem kSE_X9_bestOf : Cond.selects RX9 yX9_bestOf yX9_bestOf ∈ BIG := mB_sel (List.mem_map.mpr ⟨(⟨"FishingKitesModel", "bestOf", "(Z)I"⟩, 24), List.mem_append_right _ (List.mem_of_getElem? (i := 9) rfl), rfl⟩) rfl
theorem kSE_X9_toldMany : Cond.selects RX9 yX9_toldMany yX9_toldMany ∈ BIG := mB_sel (List.mem_map.mpr ⟨(⟨"FishingKitesModel", "toldMany", "()I"⟩, 24), List.mem_append_right _ (List.mem_of_getElem? (i := 10) rfl), rfl⟩) rfl
theorem kSE_X9_copyState : Cond.selects RX9 yX9_copyState yX9_copyState ∈ BIG := mB_sel (List.mem_map.mpr ⟨(⟨"FishingKitesModel", "copyState", "()V"⟩, 24), List.mem_append_right _ (List.mem_of_getElem? (i := 11) rfl), rfl⟩) rfl
theorem kSE_X9_askAll : Cond.selects RX9 yX9_askAll yX9_askAll ∈ BIG := mB_sel (List.mem_map.mpr ⟨(⟨"FishingKitesModel", "askAll", "(I)V"⟩, 24), List.mem_append_right _ (List.mem_of_getElem? (i := 12) rfl), rfl⟩) rfl
theorem kSE_X9_caught : Cond.selects RX9 yX9_caught yX9_caught ∈ BIG := mB_sel (List.mem_map.mpr ⟨(⟨"FishingKitesModel", "caught", "()I"⟩, 24), List.mem_append_right _ (List.mem_of_getElem? (i := 13) rfl), rfl⟩) rfl
theorem kSE_X9_heightIn : Cond.selects RX9 yX9_heightIn yX9_heightIn ∈ BIG := mB_sel (List.mem_map.mpr ⟨(⟨"FishingKitesModel", "heightIn", "(II)I"⟩, 24), List.mem_append_right _ (List.mem_of_getElem? (i := 14) rfl), rfl⟩) rfl
theorem kLY_X0_0 : u_lay RX0 TX0 0 ∈ BIG := mB_1 (List.mem_of_getElem? (i := 160) rfl) rfl
theorem kLY_X0_1 : u_lay RX0 TX0 1 ∈ BIG := mB_1 (List.mem_of_getElem? (i := 162) rfl) rfl
theorem kLY_X0_2 : u_lay RX0 TX0 2 ∈ BIG := mB_1 (List.mem_of_getElem? (i := 164) rfl) rfl
theorem inBX0 : ∀ w ∈ u_ws RX0 TX0 3, w ∈ BIG := fun w h => by
  obtain ⟨k, hk, rfl⟩ := List.mem_map.mp h
  have hk := List.mem_range.mp hk
  exact (match k, hk with
    | 0, _ => kLY_X0_0
    | 1, _ => kLY_X0_1
    | 2, _ => kLY_X0_2
    | k + 3, h => absurd h (by omega))
theorem kLY_X1_0 : u_lay RX1 TX1 0 ∈ BIG := mB_1 (List.mem_of_getElem? (i := 199) rfl) rfl
theorem kLY_X1_1 : u_lay RX1 TX1 1 ∈ BIG := mB_1 (List.mem_of_getElem? (i := 201) rfl) rfl
theorem kLY_X1_2 : u_lay RX1 TX1 2 ∈ BIG := mB_1 (List.mem_of_getElem? (i := 203) rfl) rfl
theorem kLY_X1_3 : u_lay RX1 TX1 3 ∈ BIG := mB_1 (List.mem_of_getElem? (i := 205) rfl) rfl
theorem kLY_X1_4 : u_lay RX1 TX1 4 ∈ BIG := mB_1 (List.mem_of_getElem? (i := 207) rfl) rfl
theorem kLY_X1_5 : u_lay RX1 TX1 5 ∈ BIG := mB_1 (List.mem_of_getElem? (i := 209) rfl) rfl
theorem kLY_X1_6 : u_lay RX1 TX1 6 ∈ BIG := mB_1 (List.mem_of_getElem? (i := 211) rfl) rfl
theorem kLY_X1_7 : u_lay RX1 TX1 7 ∈ BIG := mB_1 (List.mem_of_getElem? (i := 213) rfl) rfl
theorem kLY_X1_8 : u_lay RX1 TX1 8 ∈ BIG := mB_1 (List.mem_of_getElem? (i := 215) rfl) rfl
theorem kLY_X1_9 : u_lay RX1 TX1 9 ∈ BIG := mB_1 (List.mem_of_getElem? (i := 217) rfl) rfl
theorem kLY_X1_10 : u_lay RX1 TX1 10 ∈ BIG := mB_1 (List.mem_of_getElem? (i := 219) rfl) rfl
theorem inBX1 : ∀ w ∈ u_ws RX1 TX1 11, w ∈ BIG := fun w h => by
  obtain ⟨k, hk, rfl⟩ := List.mem_map.mp h
  have hk := List.mem_range.mp hk
  exact (match k, hk with
    | 0, _ => kLY_X1_0
    | 1, _ => kLY_X1_1
    | 2, _ => kLY_X1_2
    | 3, _ => kLY_X1_3
    | 4, _ => kLY_X1_4
    | 5, _ => kLY_X1_5
    | 6, _ => kLY_X1_6
    | 7, _ => kLY_X1_7
    | 8, _ => kLY_X1_8
    | 9, _ => kLY_X1_9
    | 10, _ => kLY_X1_10
    | k + 11, h => absurd h (by omega))
theorem kLY_X2_0 : u_lay RX2 TX2 0 ∈ BIG := mB_1 (List.mem_of_getElem? (i := 76) rfl) rfl
theorem kLY_X2_1 : u_lay RX2 TX2 1 ∈ BIG := mB_1 (List.mem_of_getElem? (i := 78) rfl) rfl
theorem kLY_X2_2 : u_lay RX2 TX2 2 ∈ BIG := mB_1 (List.mem_of_getElem? (i := 80) rfl) rfl
theorem kLY_X2_3 : u_lay RX2 TX2 3 ∈ BIG := mB_1 (List.mem_of_getElem? (i := 82) rfl) rfl
theorem kLY_X2_4 : u_lay RX2 TX2 4 ∈ BIG := mB_1 (List.mem_of_getElem? (i := 84) rfl) rfl
theorem kLY_X2_5 : u_lay RX2 TX2 5 ∈ BIG := mB_1 (List.mem_of_getElem? (i := 86) rfl) rfl
theorem inBX2 : ∀ w ∈ u_ws RX2 TX2 6, w ∈ BIG := fun w h => by
  obtain ⟨k, hk, rfl⟩ := List.mem_map.mp h
  have hk := List.mem_range.mp hk
  exact (match k, hk with
    | 0, _ => kLY_X2_0
    | 1, _ => kLY_X2_1
    | 2, _ => kLY_X2_2
    | 3, _ => kLY_X2_3
    | 4, _ => kLY_X2_4
    | 5, _ => kLY_X2_5
    | k + 6, h => absurd h (by omega))
theorem kLY_X3_0 : u_lay RX3 TX3 0 ∈ BIG := mB_2 (List.mem_of_getElem? (i := 14) rfl) rfl
theorem kLY_X3_1 : u_lay RX3 TX3 1 ∈ BIG := mB_2 (List.mem_of_getElem? (i := 16) rfl) rfl
theorem inBX3 : ∀ w ∈ u_ws RX3 TX3 2, w ∈ BIG := fun w h => by
  obtain ⟨k, hk, rfl⟩ := List.mem_map.mp h
  have hk := List.mem_range.mp hk
  exact (match k, hk with
    | 0, _ => kLY_X3_0
    | 1, _ => kLY_X3_1
    | k + 2, h => absurd h (by omega))
theorem kLY_X4_0 : u_lay RX4 TX4 0 ∈ BIG := mB_1 (List.mem_of_getElem? (i := 134) rfl) rfl
theorem kLY_X4_1 : u_lay RX4 TX4 1 ∈ BIG := mB_1 (List.mem_of_getElem? (i := 136) rfl) rfl
theorem kLY_X4_2 : u_lay RX4 TX4 2 ∈ BIG := mB_1 (List.mem_of_getElem? (i := 138) rfl) rfl
theorem kLY_X4_3 : u_lay RX4 TX4 3 ∈ BIG := mB_1 (List.mem_of_getElem? (i := 140) rfl) rfl
theorem kLY_X4_4 : u_lay RX4 TX4 4 ∈ BIG := mB_1 (List.mem_of_getElem? (i := 142) rfl) rfl
theorem kLY_X4_5 : u_lay RX4 TX4 5 ∈ BIG := mB_1 (List.mem_of_getElem? (i := 144) rfl) rfl
theorem kLY_X4_6 : u_lay RX4 TX4 6 ∈ BIG := mB_1 (List.mem_of_getElem? (i := 146) rfl) rfl
theorem kLY_X4_7 : u_lay RX4 TX4 7 ∈ BIG := mB_1 (List.mem_of_getElem? (i := 148) rfl) rfl
theorem inBX4 : ∀ w ∈ u_ws RX4 TX4 8, w ∈ BIG := fun w h => by
  obtain ⟨k, hk, rfl⟩ := List.mem_map.mp h
  have hk := List.mem_range.mp hk
  exact (match k, hk with
    | 0, _ => kLY_X4_0
    | 1, _ => kLY_X4_1
    | 2, _ => kLY_X4_2
    | 3, _ => kLY_X4_3
    | 4, _ => kLY_X4_4
    | 5, _ => kLY_X4_5
    | 6, _ => kLY_X4_6
    | 7, _ => kLY_X4_7
    | k + 8, h => absurd h (by omega))
theorem kLY_X5_0 : u_lay RX5 TX5 0 ∈ BIG := mB_1 (List.mem_of_getElem? (i := 235) rfl) rfl
theorem kLY_X5_1 : u_lay RX5 TX5 1 ∈ BIG := mB_1 (List.mem_of_getElem? (i := 237) rfl) rfl
theorem kLY_X5_2 : u_lay RX5 TX5 2 ∈ BIG := mB_1 (List.mem_of_getElem? (i := 239) rfl) rfl
theorem kLY_X5_3 : u_lay RX5 TX5 3 ∈ BIG := mB_2 (List.mem_of_getElem? (i := 1) rfl) rfl
theorem kLY_X5_4 : u_lay RX5 TX5 4 ∈ BIG := mB_2 (List.mem_of_getElem? (i := 3) rfl) rfl
theorem inBX5 : ∀ w ∈ u_ws RX5 TX5 5, w ∈ BIG := fun w h => by
  obtain ⟨k, hk, rfl⟩ := List.mem_map.mp h
  have hk := List.mem_range.mp hk
  exact (match k, hk with
    | 0, _ => kLY_X5_0
    | 1, _ => kLY_X5_1
    | 2, _ => kLY_X5_2
    | 3, _ => kLY_X5_3
    | 4, _ => kLY_X5_4
    | k + 5, h => absurd h (by omega))
theorem kLY_X6_0 : u_lay RX6 TX6 0 ∈ BIG := mB_1 (List.mem_of_getElem? (i := 101) rfl) rfl
theorem kLY_X6_1 : u_lay RX6 TX6 1 ∈ BIG := mB_1 (List.mem_of_getElem? (i := 103) rfl) rfl
theorem kLY_X6_2 : u_lay RX6 TX6 2 ∈ BIG := mB_1 (List.mem_of_getElem? (i := 105) rfl) rfl
theorem kLY_X6_3 : u_lay RX6 TX6 3 ∈ BIG := mB_1 (List.mem_of_getElem? (i := 107) rfl) rfl
theorem kLY_X6_4 : u_lay RX6 TX6 4 ∈ BIG := mB_1 (List.mem_of_getElem? (i := 109) rfl) rfl
theorem kLY_X6_5 : u_lay RX6 TX6 5 ∈ BIG := mB_1 (List.mem_of_getElem? (i := 111) rfl) rfl
theorem inBX6 : ∀ w ∈ u_ws RX6 TX6 6, w ∈ BIG := fun w h => by
  obtain ⟨k, hk, rfl⟩ := List.mem_map.mp h
  have hk := List.mem_range.mp hk
  exact (match k, hk with
    | 0, _ => kLY_X6_0
    | 1, _ => kLY_X6_1
    | 2, _ => kLY_X6_2
    | 3, _ => kLY_X6_3
    | 4, _ => kLY_X6_4
    | 5, _ => kLY_X6_5
    | k + 6, h => absurd h (by omega))
theorem kLY_X7_0 : u_lay RX7 TX7 0 ∈ BIG := mB_1 (List.mem_of_getElem? (i := 39) rfl) rfl
theorem kLY_X7_1 : u_lay RX7 TX7 1 ∈ BIG := mB_1 (List.mem_of_getElem? (i := 41) rfl) rfl
theorem kLY_X7_2 : u_lay RX7 TX7 2 ∈ BIG := mB_1 (List.mem_of_getElem? (i := 43) rfl) rfl
theorem kLY_X7_3 : u_lay RX7 TX7 3 ∈ BIG := mB_1 (List.mem_of_getElem? (i := 45) rfl) rfl
theorem kLY_X7_4 : u_lay RX7 TX7 4 ∈ BIG := mB_1 (List.mem_of_getElem? (i := 47) rfl) rfl
theorem inBX7 : ∀ w ∈ u_ws RX7 TX7 5, w ∈ BIG := fun w h => by
  obtain ⟨k, hk, rfl⟩ := List.mem_map.mp h
  have hk := List.mem_range.mp hk
  exact (match k, hk with
    | 0, _ => kLY_X7_0
    | 1, _ => kLY_X7_1
    | 2, _ => kLY_X7_2
    | 3, _ => kLY_X7_3
    | 4, _ => kLY_X7_4
    | k + 5, h => absurd h (by omega))
theorem kLY_X8_0 : u_lay RX8 TX8 0 ∈ BIG := mB_2 (List.mem_of_getElem? (i := 31) rfl) rfl
theorem kLY_X8_1 : u_lay RX8 TX8 1 ∈ BIG := mB_2 (List.mem_of_getElem? (i := 33) rfl) rfl
theorem kLY_X8_2 : u_lay RX8 TX8 2 ∈ BIG := mB_2 (List.mem_of_getElem? (i := 35) rfl) rfl
theorem kLY_X8_3 : u_lay RX8 TX8 3 ∈ BIG := mB_2 (List.mem_of_getElem? (i := 37) rfl) rfl
theorem kLY_X8_4 : u_lay RX8 TX8 4 ∈ BIG := mB_2 (List.mem_of_getElem? (i := 39) rfl) rfl
theorem kLY_X8_5 : u_lay RX8 TX8 5 ∈ BIG := mB_2 (List.mem_of_getElem? (i := 41) rfl) rfl
theorem kLY_X8_6 : u_lay RX8 TX8 6 ∈ BIG := mB_2 (List.mem_of_getElem? (i := 43) rfl) rfl
theorem kLY_X8_7 : u_lay RX8 TX8 7 ∈ BIG := mB_2 (List.mem_of_getElem? (i := 45) rfl) rfl
theorem kLY_X8_8 : u_lay RX8 TX8 8 ∈ BIG := mB_2 (List.mem_of_getElem? (i := 47) rfl) rfl
theorem kLY_X8_9 : u_lay RX8 TX8 9 ∈ BIG := mB_2 (List.mem_of_getElem? (i := 49) rfl) rfl
theorem kLY_X8_10 : u_lay RX8 TX8 10 ∈ BIG := mB_2 (List.mem_of_getElem? (i := 51) rfl) rfl
theorem inBX8 : ∀ w ∈ u_ws RX8 TX8 11, w ∈ BIG := fun w h => by
  obtain ⟨k, hk, rfl⟩ := List.mem_map.mp h
  have hk := List.mem_range.mp hk
  exact (match k, hk with
    | 0, _ => kLY_X8_0
    | 1, _ => kLY_X8_1
    | 2, _ => kLY_X8_2
    | 3, _ => kLY_X8_3
    | 4, _ => kLY_X8_4
    | 5, _ => kLY_X8_5
    | 6, _ => kLY_X8_6
    | 7, _ => kLY_X8_7
    | 8, _ => kLY_X8_8
    | 9, _ => kLY_X8_9
    | 10, _ => kLY_X8_10
    | k + 11, h => absurd h (by omega))
theorem kLY_X9_0 : u_lay RX9 TX9 0 ∈ BIG := mB_4 (List.mem_of_getElem? (i := 94) rfl) rfl
theorem kLY_X9_1 : u_lay RX9 TX9 1 ∈ BIG := mB_4 (List.mem_of_getElem? (i := 96) rfl) rfl
theorem kLY_X9_2 : u_lay RX9 TX9 2 ∈ BIG := mB_4 (List.mem_of_getElem? (i := 98) rfl) rfl
theorem kLY_X9_3 : u_lay RX9 TX9 3 ∈ BIG := mB_4 (List.mem_of_getElem? (i := 100) rfl) rfl
theorem kLY_X9_4 : u_lay RX9 TX9 4 ∈ BIG := mB_4 (List.mem_of_getElem? (i := 102) rfl) rfl
theorem kLY_X9_5 : u_lay RX9 TX9 5 ∈ BIG := mB_4 (List.mem_of_getElem? (i := 104) rfl) rfl
theorem kLY_X9_6 : u_lay RX9 TX9 6 ∈ BIG := mB_4 (List.mem_of_getElem? (i := 106) rfl) rfl
theorem kLY_X9_7 : u_lay RX9 TX9 7 ∈ BIG := mB_4 (List.mem_of_getElem? (i := 108) rfl) rfl
theorem kLY_X9_8 : u_lay RX9 TX9 8 ∈ BIG := mB_4 (List.mem_of_getElem? (i := 110) rfl) rfl
theorem kLY_X9_9 : u_lay RX9 TX9 9 ∈ BIG := mB_4 (List.mem_of_getElem? (i := 112) rfl) rfl
theorem kLY_X9_10 : u_lay RX9 TX9 10 ∈ BIG := mB_4 (List.mem_of_getElem? (i := 114) rfl) rfl
theorem kLY_X9_11 : u_lay RX9 TX9 11 ∈ BIG := mB_4 (List.mem_of_getElem? (i := 116) rfl) rfl
theorem kLY_X9_12 : u_lay RX9 TX9 12 ∈ BIG := mB_4 (List.mem_of_getElem? (i := 118) rfl) rfl
theorem kLY_X9_13 : u_lay RX9 TX9 13 ∈ BIG := mB_4 (List.mem_of_getElem? (i := 120) rfl) rfl
theorem kLY_X9_14 : u_lay RX9 TX9 14 ∈ BIG := mB_4 (List.mem_of_getElem? (i := 122) rfl) rfl
theorem kLY_X9_15 : u_lay RX9 TX9 15 ∈ BIG := mB_4 (List.mem_of_getElem? (i := 124) rfl) rfl
theorem kLY_X9_16 : u_lay RX9 TX9 16 ∈ BIG := mB_4 (List.mem_of_getElem? (i := 126) rfl) rfl
theorem kLY_X9_17 : u_lay RX9 TX9 17 ∈ BIG := mB_4 (List.mem_of_getElem? (i := 128) rfl) rfl
theorem kLY_X9_18 : u_lay RX9 TX9 18 ∈ BIG := mB_4 (List.mem_of_getElem? (i := 130) rfl) rfl
theorem kLY_X9_19 : u_lay RX9 TX9 19 ∈ BIG := mB_4 (List.mem_of_getElem? (i := 132) rfl) rfl
theorem kLY_X9_20 : u_lay RX9 TX9 20 ∈ BIG := mB_4 (List.mem_of_getElem? (i := 134) rfl) rfl
theorem kLY_X9_21 : u_lay RX9 TX9 21 ∈ BIG := mB_4 (List.mem_of_getElem? (i := 136) rfl) rfl
theorem kLY_X9_22 : u_lay RX9 TX9 22 ∈ BIG := mB_4 (List.mem_of_getElem? (i := 138) rfl) rfl
theorem kLY_X9_23 : u_lay RX9 TX9 23 ∈ BIG := mB_4 (List.mem_of_getElem? (i := 140) rfl) rfl
theorem inBX9 : ∀ w ∈ u_ws RX9 TX9 24, w ∈ BIG := fun w h => by
  obtain ⟨k, hk, rfl⟩ := List.mem_map.mp h
  have hk := List.mem_range.mp hk
  exact (match k, hk with
    | 0, _ => kLY_X9_0
    | 1, _ => kLY_X9_1
    | 2, _ => kLY_X9_2
    | 3, _ => kLY_X9_3
    | 4, _ => kLY_X9_4
    | 5, _ => kLY_X9_5
    | 6, _ => kLY_X9_6
    | 7, _ => kLY_X9_7
    | 8, _ => kLY_X9_8
    | 9, _ => kLY_X9_9
    | 10, _ => kLY_X9_10
    | 11, _ => kLY_X9_11
    | 12, _ => kLY_X9_12
    | 13, _ => kLY_X9_13
    | 14, _ => kLY_X9_14
    | 15, _ => kLY_X9_15
    | 16, _ => kLY_X9_16
    | 17, _ => kLY_X9_17
    | 18, _ => kLY_X9_18
    | 19, _ => kLY_X9_19
    | 20, _ => kLY_X9_20
    | 21, _ => kLY_X9_21
    | 22, _ => kLY_X9_22
    | 23, _ => kLY_X9_23
    | k + 24, h => absurd h (by omega))
