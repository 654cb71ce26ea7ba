section
-- ===== PART A: goes FIRST, ahead of the names: the tables' words, and 'selects' of the private methods out of them =====
/-- a private method of a class that the tables say can be made, by its rows of tables_1 -/
def lw_okq (q : MethodName × Nat) : Prop := (q.1.cls ≠ "java/lang/invoke/MethodHandle" ∧ q.1.cls ≠ "java/lang/invoke/VarHandle") ∧ Cond.instantiable q.1.cls q.2 ∈ tables_1 ∧ Cond.privateMethod q.1 ∈ tables_1 ∧ Cond.instanceMethod q.1 ∈ tables_1
theorem lw_p0 : lw_okq (⟨"FishingKites", "isPlace", "(III)Z"⟩, 11) := ⟨⟨by decide +kernel, by decide +kernel⟩, List.mem_of_getElem? (i := 19) (by decide +kernel), List.mem_of_getElem? (i := 620) (by decide +kernel), List.mem_of_getElem? (i := 621) (by decide +kernel)⟩
theorem lw_p1 : lw_okq (⟨"FishingKites", "caughtAllDayBy", "(I)I"⟩, 11) := ⟨⟨by decide +kernel, by decide +kernel⟩, List.mem_of_getElem? (i := 19) (by decide +kernel), List.mem_of_getElem? (i := 708) (by decide +kernel), List.mem_of_getElem? (i := 709) (by decide +kernel)⟩
theorem lw_p2 : lw_okq (⟨"FishingKitesModel", "begin", "()V"⟩, 24) := ⟨⟨by decide +kernel, by decide +kernel⟩, List.mem_of_getElem? (i := 774) (by decide +kernel), List.mem_of_getElem? (i := 780) (by decide +kernel), List.mem_of_getElem? (i := 781) (by decide +kernel)⟩
theorem lw_p3 : lw_okq (⟨"FishingKitesModel", "anew", "()V"⟩, 24) := ⟨⟨by decide +kernel, by decide +kernel⟩, List.mem_of_getElem? (i := 774) (by decide +kernel), List.mem_of_getElem? (i := 784) (by decide +kernel), List.mem_of_getElem? (i := 785) (by decide +kernel)⟩
theorem lw_p4 : lw_okq (⟨"FishingKitesModel", "isRead", "()Z"⟩, 24) := ⟨⟨by decide +kernel, by decide +kernel⟩, List.mem_of_getElem? (i := 774) (by decide +kernel), List.mem_of_getElem? (i := 878) (by decide +kernel), List.mem_of_getElem? (i := 879) (by decide +kernel)⟩
theorem lw_p5 : lw_okq (⟨"FishingKitesModel", "isLine", "(I)Z"⟩, 24) := ⟨⟨by decide +kernel, by decide +kernel⟩, List.mem_of_getElem? (i := 774) (by decide +kernel), List.mem_of_getElem? (i := 882) (by decide +kernel), List.mem_of_getElem? (i := 883) (by decide +kernel)⟩
theorem lw_p6 : lw_okq (⟨"FishingKitesModel", "nextToken", "()V"⟩, 24) := ⟨⟨by decide +kernel, by decide +kernel⟩, List.mem_of_getElem? (i := 774) (by decide +kernel), List.mem_of_getElem? (i := 886) (by decide +kernel), List.mem_of_getElem? (i := 887) (by decide +kernel)⟩
theorem lw_p7 : lw_okq (⟨"FishingKitesModel", "isNumber", "(III)Z"⟩, 24) := ⟨⟨by decide +kernel, by decide +kernel⟩, List.mem_of_getElem? (i := 774) (by decide +kernel), List.mem_of_getElem? (i := 905) (by decide +kernel), List.mem_of_getElem? (i := 906) (by decide +kernel)⟩
theorem lw_p8 : lw_okq (⟨"FishingKitesModel", "fails", "()Z"⟩, 24) := ⟨⟨by decide +kernel, by decide +kernel⟩, List.mem_of_getElem? (i := 774) (by decide +kernel), List.mem_of_getElem? (i := 909) (by decide +kernel), List.mem_of_getElem? (i := 910) (by decide +kernel)⟩
theorem lw_p9 : lw_okq (⟨"FishingKitesModel", "areHours", "(I)Z"⟩, 24) := ⟨⟨by decide +kernel, by decide +kernel⟩, List.mem_of_getElem? (i := 774) (by decide +kernel), List.mem_of_getElem? (i := 913) (by decide +kernel), List.mem_of_getElem? (i := 914) (by decide +kernel)⟩
theorem lw_p10 : lw_okq (⟨"FishingKitesModel", "isKiteLine", "(I)Z"⟩, 24) := ⟨⟨by decide +kernel, by decide +kernel⟩, List.mem_of_getElem? (i := 774) (by decide +kernel), List.mem_of_getElem? (i := 917) (by decide +kernel), List.mem_of_getElem? (i := 918) (by decide +kernel)⟩
theorem lw_p11 : lw_okq (⟨"FishingKitesModel", "isShoalLine", "(I)Z"⟩, 24) := ⟨⟨by decide +kernel, by decide +kernel⟩, List.mem_of_getElem? (i := 774) (by decide +kernel), List.mem_of_getElem? (i := 921) (by decide +kernel), List.mem_of_getElem? (i := 922) (by decide +kernel)⟩
theorem lw_p12 : lw_okq (⟨"FishingKitesModel", "doLine", "(I)V"⟩, 24) := ⟨⟨by decide +kernel, by decide +kernel⟩, List.mem_of_getElem? (i := 774) (by decide +kernel), List.mem_of_getElem? (i := 929) (by decide +kernel), List.mem_of_getElem? (i := 930) (by decide +kernel)⟩
theorem lw_p13 : lw_okq (⟨"FishingKitesModel", "putWind", "(IIIII)V"⟩, 24) := ⟨⟨by decide +kernel, by decide +kernel⟩, List.mem_of_getElem? (i := 774) (by decide +kernel), List.mem_of_getElem? (i := 933) (by decide +kernel), List.mem_of_getElem? (i := 934) (by decide +kernel)⟩
theorem lw_p14 : lw_okq (⟨"FishingKitesModel", "calm", "()V"⟩, 24) := ⟨⟨by decide +kernel, by decide +kernel⟩, List.mem_of_getElem? (i := 774) (by decide +kernel), List.mem_of_getElem? (i := 937) (by decide +kernel), List.mem_of_getElem? (i := 938) (by decide +kernel)⟩
theorem lw_p15 : lw_okq (⟨"FishingKitesModel", "isKite", "(I)Z"⟩, 24) := ⟨⟨by decide +kernel, by decide +kernel⟩, List.mem_of_getElem? (i := 774) (by decide +kernel), List.mem_of_getElem? (i := 962) (by decide +kernel), List.mem_of_getElem? (i := 963) (by decide +kernel)⟩
def lw_privs_1 : List (MethodName × Nat) := [(⟨"FishingKites", "isPlace", "(III)Z"⟩, 11), (⟨"FishingKites", "caughtAllDayBy", "(I)I"⟩, 11), (⟨"FishingKitesModel", "begin", "()V"⟩, 24), (⟨"FishingKitesModel", "anew", "()V"⟩, 24), (⟨"FishingKitesModel", "isRead", "()Z"⟩, 24), (⟨"FishingKitesModel", "isLine", "(I)Z"⟩, 24), (⟨"FishingKitesModel", "nextToken", "()V"⟩, 24), (⟨"FishingKitesModel", "isNumber", "(III)Z"⟩, 24), (⟨"FishingKitesModel", "fails", "()Z"⟩, 24), (⟨"FishingKitesModel", "areHours", "(I)Z"⟩, 24), (⟨"FishingKitesModel", "isKiteLine", "(I)Z"⟩, 24), (⟨"FishingKitesModel", "isShoalLine", "(I)Z"⟩, 24), (⟨"FishingKitesModel", "doLine", "(I)V"⟩, 24), (⟨"FishingKitesModel", "putWind", "(IIIII)V"⟩, 24), (⟨"FishingKitesModel", "calm", "()V"⟩, 24), (⟨"FishingKitesModel", "isKite", "(I)Z"⟩, 24)]
theorem lw_r1 : ∀ q ∈ lw_privs_1, lw_okq q := List.forall_mem_cons.mpr ⟨lw_p0, List.forall_mem_cons.mpr ⟨lw_p1, List.forall_mem_cons.mpr ⟨lw_p2, List.forall_mem_cons.mpr ⟨lw_p3, List.forall_mem_cons.mpr ⟨lw_p4, List.forall_mem_cons.mpr ⟨lw_p5, List.forall_mem_cons.mpr ⟨lw_p6, List.forall_mem_cons.mpr ⟨lw_p7, List.forall_mem_cons.mpr ⟨lw_p8, List.forall_mem_cons.mpr ⟨lw_p9, List.forall_mem_cons.mpr ⟨lw_p10, List.forall_mem_cons.mpr ⟨lw_p11, List.forall_mem_cons.mpr ⟨lw_p12, List.forall_mem_cons.mpr ⟨lw_p13, List.forall_mem_cons.mpr ⟨lw_p14, List.forall_mem_cons.mpr ⟨lw_p15, fun _ h => absurd h List.not_mem_nil⟩⟩⟩⟩⟩⟩⟩⟩⟩⟩⟩⟩⟩⟩⟩⟩
theorem lw_p16 : lw_okq (⟨"FishingKitesModel", "goHour", "()V"⟩, 24) := ⟨⟨by decide +kernel, by decide +kernel⟩, List.mem_of_getElem? (i := 774) (by decide +kernel), List.mem_of_getElem? (i := 970) (by decide +kernel), List.mem_of_getElem? (i := 971) (by decide +kernel)⟩
theorem lw_p17 : lw_okq (⟨"FishingKitesModel", "findUp", "(I)V"⟩, 24) := ⟨⟨by decide +kernel, by decide +kernel⟩, List.mem_of_getElem? (i := 774) (by decide +kernel), List.mem_of_getElem? (i := 974) (by decide +kernel), List.mem_of_getElem? (i := 975) (by decide +kernel)⟩
theorem lw_p18 : lw_okq (⟨"FishingKitesModel", "hasLift", "(III)Z"⟩, 24) := ⟨⟨by decide +kernel, by decide +kernel⟩, List.mem_of_getElem? (i := 774) (by decide +kernel), List.mem_of_getElem? (i := 978) (by decide +kernel), List.mem_of_getElem? (i := 979) (by decide +kernel)⟩
theorem lw_p19 : lw_okq (⟨"FishingKitesModel", "isInSea", "(III)Z"⟩, 24) := ⟨⟨by decide +kernel, by decide +kernel⟩, List.mem_of_getElem? (i := 774) (by decide +kernel), List.mem_of_getElem? (i := 982) (by decide +kernel), List.mem_of_getElem? (i := 983) (by decide +kernel)⟩
theorem lw_p20 : lw_okq (⟨"FishingKitesModel", "xOf", "(III)I"⟩, 24) := ⟨⟨by decide +kernel, by decide +kernel⟩, List.mem_of_getElem? (i := 774) (by decide +kernel), List.mem_of_getElem? (i := 986) (by decide +kernel), List.mem_of_getElem? (i := 987) (by decide +kernel)⟩
theorem lw_p21 : lw_okq (⟨"FishingKitesModel", "yOf", "(II)I"⟩, 24) := ⟨⟨by decide +kernel, by decide +kernel⟩, List.mem_of_getElem? (i := 774) (by decide +kernel), List.mem_of_getElem? (i := 990) (by decide +kernel), List.mem_of_getElem? (i := 991) (by decide +kernel)⟩
theorem lw_p22 : lw_okq (⟨"FishingKitesModel", "doTangle", "(IIII)Z"⟩, 24) := ⟨⟨by decide +kernel, by decide +kernel⟩, List.mem_of_getElem? (i := 774) (by decide +kernel), List.mem_of_getElem? (i := 994) (by decide +kernel), List.mem_of_getElem? (i := 995) (by decide +kernel)⟩
theorem lw_p23 : lw_okq (⟨"FishingKitesModel", "givesWay", "(II)I"⟩, 24) := ⟨⟨by decide +kernel, by decide +kernel⟩, List.mem_of_getElem? (i := 774) (by decide +kernel), List.mem_of_getElem? (i := 998) (by decide +kernel), List.mem_of_getElem? (i := 999) (by decide +kernel)⟩
theorem lw_p24 : lw_okq (⟨"FishingKitesModel", "take", "(II)V"⟩, 24) := ⟨⟨by decide +kernel, by decide +kernel⟩, List.mem_of_getElem? (i := 774) (by decide +kernel), List.mem_of_getElem? (i := 1002) (by decide +kernel), List.mem_of_getElem? (i := 1003) (by decide +kernel)⟩
theorem lw_p25 : lw_okq (⟨"FishingKitesModel", "bestOf", "(Z)I"⟩, 24) := ⟨⟨by decide +kernel, by decide +kernel⟩, List.mem_of_getElem? (i := 774) (by decide +kernel), List.mem_of_getElem? (i := 1041) (by decide +kernel), List.mem_of_getElem? (i := 1042) (by decide +kernel)⟩
theorem lw_p26 : lw_okq (⟨"FishingKitesModel", "toldMany", "()I"⟩, 24) := ⟨⟨by decide +kernel, by decide +kernel⟩, List.mem_of_getElem? (i := 774) (by decide +kernel), List.mem_of_getElem? (i := 1045) (by decide +kernel), List.mem_of_getElem? (i := 1046) (by decide +kernel)⟩
theorem lw_p27 : lw_okq (⟨"FishingKitesModel", "copyState", "()V"⟩, 24) := ⟨⟨by decide +kernel, by decide +kernel⟩, List.mem_of_getElem? (i := 774) (by decide +kernel), List.mem_of_getElem? (i := 1049) (by decide +kernel), List.mem_of_getElem? (i := 1050) (by decide +kernel)⟩
theorem lw_p28 : lw_okq (⟨"FishingKitesModel", "askAll", "(I)V"⟩, 24) := ⟨⟨by decide +kernel, by decide +kernel⟩, List.mem_of_getElem? (i := 774) (by decide +kernel), List.mem_of_getElem? (i := 1053) (by decide +kernel), List.mem_of_getElem? (i := 1054) (by decide +kernel)⟩
theorem lw_p29 : lw_okq (⟨"FishingKitesModel", "caught", "()I"⟩, 24) := ⟨⟨by decide +kernel, by decide +kernel⟩, List.mem_of_getElem? (i := 774) (by decide +kernel), List.mem_of_getElem? (i := 1057) (by decide +kernel), List.mem_of_getElem? (i := 1058) (by decide +kernel)⟩
theorem lw_p30 : lw_okq (⟨"FishingKitesModel", "heightIn", "(II)I"⟩, 24) := ⟨⟨by decide +kernel, by decide +kernel⟩, List.mem_of_getElem? (i := 774) (by decide +kernel), List.mem_of_getElem? (i := 1061) (by decide +kernel), List.mem_of_getElem? (i := 1062) (by decide +kernel)⟩
def lw_privs_2 : List (MethodName × Nat) := [(⟨"FishingKitesModel", "goHour", "()V"⟩, 24), (⟨"FishingKitesModel", "findUp", "(I)V"⟩, 24), (⟨"FishingKitesModel", "hasLift", "(III)Z"⟩, 24), (⟨"FishingKitesModel", "isInSea", "(III)Z"⟩, 24), (⟨"FishingKitesModel", "xOf", "(III)I"⟩, 24), (⟨"FishingKitesModel", "yOf", "(II)I"⟩, 24), (⟨"FishingKitesModel", "doTangle", "(IIII)Z"⟩, 24), (⟨"FishingKitesModel", "givesWay", "(II)I"⟩, 24), (⟨"FishingKitesModel", "take", "(II)V"⟩, 24), (⟨"FishingKitesModel", "bestOf", "(Z)I"⟩, 24), (⟨"FishingKitesModel", "toldMany", "()I"⟩, 24), (⟨"FishingKitesModel", "copyState", "()V"⟩, 24), (⟨"FishingKitesModel", "askAll", "(I)V"⟩, 24), (⟨"FishingKitesModel", "caught", "()I"⟩, 24), (⟨"FishingKitesModel", "heightIn", "(II)I"⟩, 24)]
theorem lw_r2 : ∀ q ∈ lw_privs_2, lw_okq q := List.forall_mem_cons.mpr ⟨lw_p16, List.forall_mem_cons.mpr ⟨lw_p17, List.forall_mem_cons.mpr ⟨lw_p18, List.forall_mem_cons.mpr ⟨lw_p19, List.forall_mem_cons.mpr ⟨lw_p20, List.forall_mem_cons.mpr ⟨lw_p21, List.forall_mem_cons.mpr ⟨lw_p22, List.forall_mem_cons.mpr ⟨lw_p23, List.forall_mem_cons.mpr ⟨lw_p24, List.forall_mem_cons.mpr ⟨lw_p25, List.forall_mem_cons.mpr ⟨lw_p26, List.forall_mem_cons.mpr ⟨lw_p27, List.forall_mem_cons.mpr ⟨lw_p28, List.forall_mem_cons.mpr ⟨lw_p29, List.forall_mem_cons.mpr ⟨lw_p30, fun _ h => absurd h List.not_mem_nil⟩⟩⟩⟩⟩⟩⟩⟩⟩⟩⟩⟩⟩⟩⟩
def lw_privs : List (MethodName × Nat) := lw_privs_1 ++ (lw_privs_2)
def lw_tbl : List Cond := k2_sels lw_privs ++ tables_1
theorem lw_privs_ok : ∀ q ∈ lw_privs, lw_okq q := by
  show ∀ q ∈ lw_privs_1 ++ (lw_privs_2), lw_okq q
  exact List.forall_mem_append.mpr ⟨lw_r1, lw_r2⟩
end
section
def RX0 : String := "FishingKites$Chart"
def TX0 : u_T := fun k => match k with
  | 0 => ("FishingKites$Chart", "freeHours", "[I", true)
  | 1 => ("FishingKites$Chart", "shoalsMet", "[I", true)
  | _ => ("FishingKites$Chart", "kitesCrossed", "[I", true)
def tyX0 : Nat → FieldType := fun k => match k with
  | 0 => .array .int
  | 1 => .array .int
  | _ => .array .int
abbrev wsX00 : List Cond := u_ws RX0 TX0 3
theorem nmX0 : ∀ a, a < 3 → ∀ b, b < 3 → a ≠ b → (TX0 a).2.1 ≠ (TX0 b).2.1 := by decide +kernel
theorem tyX0_ok : ∀ k, k < 3 → parseFieldDescriptor (TX0 k).2.2.1 = some (tyX0 k) := by decide +kernel
abbrev cX0_init : ByteArray := prog_2_method_1_code
def yX0_init : MethodName := ⟨RX0, "<init>", "()V"⟩
abbrev cX0_draw : ByteArray := prog_2_method_2_code
def yX0_draw : MethodName := ⟨RX0, "draw", "(LFishingKites$Sea;)V"⟩
abbrev cX0_drawKite : ByteArray := prog_2_method_3_code
def yX0_drawKite : MethodName := ⟨RX0, "drawKite", "(LFishingKites$Sea;II)V"⟩
abbrev cX0_shoalsAt : ByteArray := prog_2_method_4_code
def yX0_shoalsAt : MethodName := ⟨RX0, "shoalsAt", "(LFishingKites$Sea;III)I"⟩
abbrev cX0_kitesAcross : ByteArray := prog_2_method_5_code
def yX0_kitesAcross : MethodName := ⟨RX0, "kitesAcross", "(LFishingKites$Sea;III)I"⟩
abbrev cX0_isFree : ByteArray := prog_2_method_6_code
def yX0_isFree : MethodName := ⟨RX0, "isFree", "(III)Z"⟩
abbrev cX0_met : ByteArray := prog_2_method_7_code
def yX0_met : MethodName := ⟨RX0, "met", "(III)I"⟩
abbrev cX0_crossed : ByteArray := prog_2_method_8_code
def yX0_crossed : MethodName := ⟨RX0, "crossed", "(III)I"⟩
def RX1 : String := "FishingKites$Day"
def TX1 : u_T := fun k => match k with
  | 0 => ("FishingKites$Day", "hours", "I", false)
  | 1 => ("FishingKites$Day", "up", "I", false)
  | 2 => ("FishingKites$Day", "caught", "I", false)
  | 3 => ("FishingKites$Day", "gullsHave", "I", false)
  | 4 => ("FishingKites$Day", "takings", "I", false)
  | 5 => ("FishingKites$Day", "asked", "[I", true)
  | 6 => ("FishingKites$Day", "catches", "[I", true)
  | 7 => ("FishingKites$Day", "upHours", "[I", true)
  | 8 => ("FishingKites$Day", "gaveWay", "[I", true)
  | 9 => ("FishingKites$Day", "left", "[I", true)
  | _ => ("FishingKites$Day", "notes", "[I", true)
def tyX1 : Nat → FieldType := fun k => match k with
  | 0 => .int
  | 1 => .int
  | 2 => .int
  | 3 => .int
  | 4 => .int
  | 5 => .array .int
  | 6 => .array .int
  | 7 => .array .int
  | 8 => .array .int
  | 9 => .array .int
  | _ => .array .int
abbrev wsX10 : List Cond := u_ws RX1 TX1 11
theorem nmX1 : ∀ a, a < 11 → ∀ b, b < 11 → a ≠ b → (TX1 a).2.1 ≠ (TX1 b).2.1 := by decide +kernel
theorem tyX1_ok : ∀ k, k < 11 → parseFieldDescriptor (TX1 k).2.2.1 = some (tyX1 k) := by decide +kernel
abbrev cX1_init : ByteArray := prog_3_method_1_code
def yX1_init : MethodName := ⟨RX1, "<init>", "()V"⟩
abbrev cX1_stockShoals : ByteArray := prog_3_method_2_code
def yX1_stockShoals : MethodName := ⟨RX1, "stockShoals", "(LFishingKites$Sea;)V"⟩
abbrev cX1_become : ByteArray := prog_3_method_3_code
def yX1_become : MethodName := ⟨RX1, "become", "(LFishingKites$Day;)V"⟩
abbrev cX1_resume : ByteArray := prog_3_method_4_code
def yX1_resume : MethodName := ⟨RX1, "resume", "(LFishingKites$Day;)V"⟩
abbrev cX1_pass : ByteArray := prog_3_method_5_code
def yX1_pass : MethodName := ⟨RX1, "pass", "(ILFishingKites$Sea;LFishingKites$Chart;I)V"⟩
abbrev cX1_risen : ByteArray := prog_3_method_6_code
def yX1_risen : MethodName := ⟨RX1, "risen", "(LFishingKites$Sea;LFishingKites$Chart;)I"⟩
abbrev cX1_untangled : ByteArray := prog_3_method_7_code
def yX1_untangled : MethodName := ⟨RX1, "untangled", "(ILFishingKites$Sea;LFishingKites$Chart;I)I"⟩
abbrev cX1_fish : ByteArray := prog_3_method_8_code
def yX1_fish : MethodName := ⟨RX1, "fish", "(ILFishingKites$Sea;LFishingKites$Chart;)V"⟩
abbrev cX1_fishIn : ByteArray := prog_3_method_9_code
def yX1_fishIn : MethodName := ⟨RX1, "fishIn", "(I)I"⟩
abbrev cX1_note : ByteArray := prog_3_method_10_code
def yX1_note : MethodName := ⟨RX1, "note", "(III)V"⟩
def RX2 : String := "FishingKites$Kite"
def TX2 : u_T := fun k => match k with
  | 0 => ("FishingKites$Kite", "told", "Z", false)
  | 1 => ("FishingKites$Kite", "post", "I", false)
  | 2 => ("FishingKites$Kite", "size", "I", false)
  | 3 => ("FishingKites$Kite", "string", "I", false)
  | 4 => ("FishingKites$Kite", "net", "I", false)
  | _ => ("FishingKites$Kite", "clan", "I", false)
def tyX2 : Nat → FieldType := fun k => match k with
  | 0 => .boolean
  | 1 => .int
  | 2 => .int
  | 3 => .int
  | 4 => .int
  | _ => .int
abbrev wsX20 : List Cond := u_ws RX2 TX2 6
theorem nmX2 : ∀ a, a < 6 → ∀ b, b < 6 → a ≠ b → (TX2 a).2.1 ≠ (TX2 b).2.1 := by decide +kernel
theorem tyX2_ok : ∀ k, k < 6 → parseFieldDescriptor (TX2 k).2.2.1 = some (tyX2 k) := by decide +kernel
abbrev cX2_init : ByteArray := prog_4_method_1_code
def yX2_init : MethodName := ⟨RX2, "<init>", "()V"⟩
def RX3 : String := "FishingKites$Odds"
def TX3 : u_T := fun k => match k with
  | 0 => ("FishingKites$Odds", "weights", "[J", true)
  | _ => ("FishingKites$Odds", "drifted", "[J", true)
def tyX3 : Nat → FieldType := fun k => match k with
  | 0 => .array .long
  | _ => .array .long
abbrev wsX30 : List Cond := u_ws RX3 TX3 2
theorem nmX3 : ∀ a, a < 2 → ∀ b, b < 2 → a ≠ b → (TX3 a).2.1 ≠ (TX3 b).2.1 := by decide +kernel
theorem tyX3_ok : ∀ k, k < 2 → parseFieldDescriptor (TX3 k).2.2.1 = some (tyX3 k) := by decide +kernel
abbrev cX3_init : ByteArray := prog_5_method_1_code
def yX3_init : MethodName := ⟨RX3, "<init>", "()V"⟩
abbrev cX3_begin : ByteArray := prog_5_method_2_code
def yX3_begin : MethodName := ⟨RX3, "begin", "(I)V"⟩
abbrev cX3_enough : ByteArray := prog_5_method_3_code
def yX3_enough : MethodName := ⟨RX3, "enough", "(IIIII)J"⟩
abbrev cX3_drift : ByteArray := prog_5_method_4_code
def yX3_drift : MethodName := ⟨RX3, "drift", "(II)V"⟩
abbrev cX3_sumFrom : ByteArray := prog_5_method_5_code
def yX3_sumFrom : MethodName := ⟨RX3, "sumFrom", "(I)J"⟩
def RX4 : String := "FishingKites$Sea"
def TX4 : u_T := fun k => match k with
  | 0 => ("FishingKites$Sea", "kites", "[LFishingKites$Kite;", true)
  | 1 => ("FishingKites$Sea", "shoals", "[LFishingKites$Shoal;", true)
  | 2 => ("FishingKites$Sea", "strength", "[I", true)
  | 3 => ("FishingKites$Sea", "drift", "[I", true)
  | 4 => ("FishingKites$Sea", "law", "I", false)
  | 5 => ("FishingKites$Sea", "stock", "I", false)
  | 6 => ("FishingKites$Sea", "fog", "I", false)
  | _ => ("FishingKites$Sea", "gulls", "I", false)
def tyX4 : Nat → FieldType := fun k => match k with
  | 0 => .array (.object "FishingKites$Kite")
  | 1 => .array (.object "FishingKites$Shoal")
  | 2 => .array .int
  | 3 => .array .int
  | 4 => .int
  | 5 => .int
  | 6 => .int
  | _ => .int
abbrev wsX40 : List Cond := u_ws RX4 TX4 8
theorem nmX4 : ∀ a, a < 8 → ∀ b, b < 8 → a ≠ b → (TX4 a).2.1 ≠ (TX4 b).2.1 := by decide +kernel
theorem tyX4_ok : ∀ k, k < 8 → parseFieldDescriptor (TX4 k).2.2.1 = some (tyX4 k) := by decide +kernel
abbrev cX4_init : ByteArray := prog_6_method_1_code
def yX4_init : MethodName := ⟨RX4, "<init>", "()V"⟩
abbrev cX4_tell : ByteArray := prog_6_method_2_code
def yX4_tell : MethodName := ⟨RX4, "tell", "(I[I)V"⟩
abbrev cX4_tellWind : ByteArray := prog_6_method_3_code
def yX4_tellWind : MethodName := ⟨RX4, "tellWind", "([I)V"⟩
abbrev cX4_tellKite : ByteArray := prog_6_method_4_code
def yX4_tellKite : MethodName := ⟨RX4, "tellKite", "([I)V"⟩
abbrev cX4_tellShoal : ByteArray := prog_6_method_5_code
def yX4_tellShoal : MethodName := ⟨RX4, "tellShoal", "([I)V"⟩
abbrev cX4_tellFog : ByteArray := prog_6_method_6_code
def yX4_tellFog : MethodName := ⟨RX4, "tellFog", "(II)V"⟩
abbrev cX4_tellCalm : ByteArray := prog_6_method_7_code
def yX4_tellCalm : MethodName := ⟨RX4, "tellCalm", "()V"⟩
abbrev cX4_tellLost : ByteArray := prog_6_method_8_code
def yX4_tellLost : MethodName := ⟨RX4, "tellLost", "(I)V"⟩
abbrev cX4_windAt : ByteArray := prog_6_method_9_code
def yX4_windAt : MethodName := ⟨RX4, "windAt", "([III)I"⟩
abbrev cX4_isToldKite : ByteArray := prog_6_method_10_code
def yX4_isToldKite : MethodName := ⟨RX4, "isToldKite", "(I)Z"⟩
abbrev cX4_isToldShoal : ByteArray := prog_6_method_11_code
def yX4_isToldShoal : MethodName := ⟨RX4, "isToldShoal", "(I)Z"⟩
abbrev cX4_isFoggy : ByteArray := prog_6_method_12_code
def yX4_isFoggy : MethodName := ⟨RX4, "isFoggy", "(I)Z"⟩
abbrev cX4_kiteBits : ByteArray := prog_6_method_13_code
def yX4_kiteBits : MethodName := ⟨RX4, "kiteBits", "()I"⟩
abbrev cX4_shoalBits : ByteArray := prog_6_method_14_code
def yX4_shoalBits : MethodName := ⟨RX4, "shoalBits", "()I"⟩
abbrev cX4_shoalX : ByteArray := prog_6_method_15_code
def yX4_shoalX : MethodName := ⟨RX4, "shoalX", "(II)I"⟩
abbrev cX4_shoalY : ByteArray := prog_6_method_16_code
def yX4_shoalY : MethodName := ⟨RX4, "shoalY", "(II)I"⟩
abbrev cX4_kiteX : ByteArray := prog_6_method_17_code
def yX4_kiteX : MethodName := ⟨RX4, "kiteX", "(III)I"⟩
abbrev cX4_kiteY : ByteArray := prog_6_method_18_code
def yX4_kiteY : MethodName := ⟨RX4, "kiteY", "(II)I"⟩
abbrev cX4_isInSea : ByteArray := prog_6_method_19_code
def yX4_isInSea : MethodName := ⟨RX4, "isInSea", "(III)Z"⟩
abbrev cX4_hasLift : ByteArray := prog_6_method_20_code
def yX4_hasLift : MethodName := ⟨RX4, "hasLift", "(III)Z"⟩
abbrev cX4_wouldCross : ByteArray := prog_6_method_21_code
def yX4_wouldCross : MethodName := ⟨RX4, "wouldCross", "(IIII)Z"⟩
abbrev cX4_givingWay : ByteArray := prog_6_method_22_code
def yX4_givingWay : MethodName := ⟨RX4, "givingWay", "(III)I"⟩
abbrev cX4_afterGulls : ByteArray := prog_6_method_23_code
def yX4_afterGulls : MethodName := ⟨RX4, "afterGulls", "(I)I"⟩
abbrev cX4_shareOf : ByteArray := prog_6_method_24_code
def yX4_shareOf : MethodName := ⟨RX4, "shareOf", "(II)I"⟩
def RX5 : String := "FishingKites$Search"
def TX5 : u_T := fun k => match k with
  | 0 => ("FishingKites$Search", "found", "Z", false)
  | 1 => ("FishingKites$Search", "most", "I", false)
  | 2 => ("FishingKites$Search", "plan", "I", false)
  | 3 => ("FishingKites$Search", "bound", "[I", true)
  | _ => ("FishingKites$Search", "boundBehind", "[I", true)
def tyX5 : Nat → FieldType := fun k => match k with
  | 0 => .boolean
  | 1 => .int
  | 2 => .int
  | 3 => .array .int
  | _ => .array .int
abbrev wsX50 : List Cond := u_ws RX5 TX5 5
theorem nmX5 : ∀ a, a < 5 → ∀ b, b < 5 → a ≠ b → (TX5 a).2.1 ≠ (TX5 b).2.1 := by decide +kernel
theorem tyX5_ok : ∀ k, k < 5 → parseFieldDescriptor (TX5 k).2.2.1 = some (tyX5 k) := by decide +kernel
abbrev cX5_init : ByteArray := prog_7_method_1_code
def yX5_init : MethodName := ⟨RX5, "<init>", "()V"⟩
abbrev cX5_forget : ByteArray := prog_7_method_2_code
def yX5_forget : MethodName := ⟨RX5, "forget", "()V"⟩
abbrev cX5_heightOf : ByteArray := prog_7_method_3_code
def yX5_heightOf : MethodName := ⟨RX5, "heightOf", "(I)I"⟩
abbrev cX5_heightIn : ByteArray := prog_7_method_4_code
def yX5_heightIn : MethodName := ⟨RX5, "heightIn", "(II)I"⟩
abbrev cX5_shiftOf : ByteArray := prog_7_method_5_code
def yX5_shiftOf : MethodName := ⟨RX5, "shiftOf", "(I)I"⟩
abbrev cX5_find : ByteArray := prog_7_method_6_code
def yX5_find : MethodName := ⟨RX5, "find", "(LFishingKites$Day;ILFishingKites$Day;LFishingKites$Sea;LFishingKites$Chart;)V"⟩
abbrev cX5_tryPlan : ByteArray := prog_7_method_7_code
def yX5_tryPlan : MethodName := ⟨RX5, "tryPlan", "(ILFishingKites$Day;ILFishingKites$Day;LFishingKites$Sea;LFishingKites$Chart;)V"⟩
abbrev cX5_firstHopeless : ByteArray := prog_7_method_8_code
def yX5_firstHopeless : MethodName := ⟨RX5, "firstHopeless", "(I)I"⟩
abbrev cX5_setBounds : ByteArray := prog_7_method_9_code
def yX5_setBounds : MethodName := ⟨RX5, "setBounds", "(LFishingKites$Day;ILFishingKites$Sea;LFishingKites$Chart;)V"⟩
abbrev cX5_boundOf : ByteArray := prog_7_method_10_code
def yX5_boundOf : MethodName := ⟨RX5, "boundOf", "(IILFishingKites$Day;ILFishingKites$Sea;LFishingKites$Chart;)I"⟩
def RX6 : String := "FishingKites$Shoal"
def TX6 : u_T := fun k => match k with
  | 0 => ("FishingKites$Shoal", "told", "Z", false)
  | 1 => ("FishingKites$Shoal", "x", "I", false)
  | 2 => ("FishingKites$Shoal", "y", "I", false)
  | 3 => ("FishingKites$Shoal", "moveX", "I", false)
  | 4 => ("FishingKites$Shoal", "moveY", "I", false)
  | _ => ("FishingKites$Shoal", "many", "I", false)
def tyX6 : Nat → FieldType := fun k => match k with
  | 0 => .boolean
  | 1 => .int
  | 2 => .int
  | 3 => .int
  | 4 => .int
  | _ => .int
abbrev wsX60 : List Cond := u_ws RX6 TX6 6
theorem nmX6 : ∀ a, a < 6 → ∀ b, b < 6 → a ≠ b → (TX6 a).2.1 ≠ (TX6 b).2.1 := by decide +kernel
theorem tyX6_ok : ∀ k, k < 6 → parseFieldDescriptor (TX6 k).2.2.1 = some (tyX6 k) := by decide +kernel
abbrev cX6_init : ByteArray := prog_8_method_1_code
def yX6_init : MethodName := ⟨RX6, "<init>", "()V"⟩
def RX7 : String := "FishingKites$Text"
def TX7 : u_T := fun k => match k with
  | 0 => ("FishingKites$Text", "bytes", "[I", true)
  | 1 => ("FishingKites$Text", "numbers", "[I", true)
  | 2 => ("FishingKites$Text", "length", "I", false)
  | 3 => ("FishingKites$Text", "lines", "I", false)
  | _ => ("FishingKites$Text", "at", "I", false)
def tyX7 : Nat → FieldType := fun k => match k with
  | 0 => .array .int
  | 1 => .array .int
  | 2 => .int
  | 3 => .int
  | _ => .int
abbrev wsX70 : List Cond := u_ws RX7 TX7 5
theorem nmX7 : ∀ a, a < 5 → ∀ b, b < 5 → a ≠ b → (TX7 a).2.1 ≠ (TX7 b).2.1 := by decide +kernel
theorem tyX7_ok : ∀ k, k < 5 → parseFieldDescriptor (TX7 k).2.2.1 = some (tyX7 k) := by decide +kernel
abbrev cX7_init : ByteArray := prog_9_method_1_code
def yX7_init : MethodName := ⟨RX7, "<init>", "()V"⟩
abbrev cX7_hasRoom : ByteArray := prog_9_method_2_code
def yX7_hasRoom : MethodName := ⟨RX7, "hasRoom", "(I)Z"⟩
abbrev cX7_append : ByteArray := prog_9_method_3_code
def yX7_append : MethodName := ⟨RX7, "append", "(JI)V"⟩
abbrev cX7_readInto : ByteArray := prog_9_method_4_code
def yX7_readInto : MethodName := ⟨RX7, "readInto", "(LFishingKites$Sea;)I"⟩
abbrev cX7_peek : ByteArray := prog_9_method_5_code
def yX7_peek : MethodName := ⟨RX7, "peek", "(I)I"⟩
abbrev cX7_skipBlanks : ByteArray := prog_9_method_6_code
def yX7_skipBlanks : MethodName := ⟨RX7, "skipBlanks", "()V"⟩
abbrev cX7_readWord : ByteArray := prog_9_method_7_code
def yX7_readWord : MethodName := ⟨RX7, "readWord", "()I"⟩
abbrev cX7_isSpelled : ByteArray := prog_9_method_8_code
def yX7_isSpelled : MethodName := ⟨RX7, "isSpelled", "(Ljava/lang/String;I)Z"⟩
abbrev cX7_readNumbers : ByteArray := prog_9_method_9_code
def yX7_readNumbers : MethodName := ⟨RX7, "readNumbers", "(I)Z"⟩
abbrev cX7_readNumber : ByteArray := prog_9_method_10_code
def yX7_readNumber : MethodName := ⟨RX7, "readNumber", "(II)I"⟩
abbrev cX7_isEndOfHours : ByteArray := prog_9_method_11_code
def yX7_isEndOfHours : MethodName := ⟨RX7, "isEndOfHours", "(II)Z"⟩
abbrev cX7_isLetter : ByteArray := prog_9_method_12_code
def yX7_isLetter : MethodName := ⟨RX7, "isLetter", "(I)Z"⟩
abbrev cX7_isDigit : ByteArray := prog_9_method_13_code
def yX7_isDigit : MethodName := ⟨RX7, "isDigit", "(I)Z"⟩
abbrev cX7_nameOf : ByteArray := prog_9_method_14_code
def yX7_nameOf : MethodName := ⟨RX7, "nameOf", "(I)Ljava/lang/String;"⟩
def RX8 : String := "FishingKites"
def TX8 : u_T := fun k => match k with
  | 0 => ("FishingKites", "text", "LFishingKites$Text;", true)
  | 1 => ("FishingKites", "sea", "LFishingKites$Sea;", true)
  | 2 => ("FishingKites", "chart", "LFishingKites$Chart;", true)
  | 3 => ("FishingKites", "day", "LFishingKites$Day;", true)
  | 4 => ("FishingKites", "morning", "LFishingKites$Day;", true)
  | 5 => ("FishingKites", "trial", "LFishingKites$Day;", true)
  | 6 => ("FishingKites", "kept", "[LFishingKites$Day;", true)
  | 7 => ("FishingKites", "keptBits", "I", false)
  | 8 => ("FishingKites", "hourSearch", "LFishingKites$Search;", true)
  | 9 => ("FishingKites", "daySearch", "LFishingKites$Search;", true)
  | _ => ("FishingKites", "odds", "LFishingKites$Odds;", true)
def tyX8 : Nat → FieldType := fun k => match k with
  | 0 => .object "FishingKites$Text"
  | 1 => .object "FishingKites$Sea"
  | 2 => .object "FishingKites$Chart"
  | 3 => .object "FishingKites$Day"
  | 4 => .object "FishingKites$Day"
  | 5 => .object "FishingKites$Day"
  | 6 => .array (.object "FishingKites$Day")
  | 7 => .int
  | 8 => .object "FishingKites$Search"
  | 9 => .object "FishingKites$Search"
  | _ => .object "FishingKites$Odds"
abbrev wsX80 : List Cond := u_ws RX8 TX8 11
theorem nmX8 : ∀ a, a < 11 → ∀ b, b < 11 → a ≠ b → (TX8 a).2.1 ≠ (TX8 b).2.1 := by decide +kernel
theorem tyX8_ok : ∀ k, k < 11 → parseFieldDescriptor (TX8 k).2.2.1 = some (tyX8 k) := by decide +kernel
abbrev cX8_init : ByteArray := prog_1_method_1_code
def yX8_init : MethodName := ⟨RX8, "<init>", "()V"⟩
abbrev cX8_write : ByteArray := prog_1_method_2_code
def yX8_write : MethodName := ⟨RX8, "write", "(JI)I"⟩
abbrev cX8_erase : ByteArray := prog_1_method_3_code
def yX8_erase : MethodName := ⟨RX8, "erase", "()I"⟩
abbrev cX8_fault : ByteArray := prog_1_method_4_code
def yX8_fault : MethodName := ⟨RX8, "fault", "()I"⟩
abbrev cX8_cliff : ByteArray := prog_1_method_5_code
def yX8_cliff : MethodName := ⟨RX8, "cliff", "()I"⟩
abbrev cX8_wind : ByteArray := prog_1_method_6_code
def yX8_wind : MethodName := ⟨RX8, "wind", "(III)I"⟩
abbrev cX8_shoal : ByteArray := prog_1_method_7_code
def yX8_shoal : MethodName := ⟨RX8, "shoal", "(II)I"⟩
abbrev cX8_ask : ByteArray := prog_1_method_8_code
def yX8_ask : MethodName := ⟨RX8, "ask", "(II)I"⟩
abbrev cX8_go : ByteArray := prog_1_method_9_code
def yX8_go : MethodName := ⟨RX8, "go", "(I)I"⟩
abbrev cX8_kite : ByteArray := prog_1_method_10_code
def yX8_kite : MethodName := ⟨RX8, "kite", "(II)I"⟩
abbrev cX8_where : ByteArray := prog_1_method_11_code
def yX8_where : MethodName := ⟨RX8, "where", "(III)I"⟩
abbrev cX8_hinders : ByteArray := prog_1_method_12_code
def yX8_hinders : MethodName := ⟨RX8, "hinders", "(III)I"⟩
abbrev cX8_tangle : ByteArray := prog_1_method_13_code
def yX8_tangle : MethodName := ⟨RX8, "tangle", "(IIII)I"⟩
abbrev cX8_taking : ByteArray := prog_1_method_14_code
def yX8_taking : MethodName := ⟨RX8, "taking", "(II)I"⟩
abbrev cX8_keep : ByteArray := prog_1_method_15_code
def yX8_keep : MethodName := ⟨RX8, "keep", "(I)I"⟩
abbrev cX8_back : ByteArray := prog_1_method_16_code
def yX8_back : MethodName := ⟨RX8, "back", "(I)I"⟩
abbrev cX8_best : ByteArray := prog_1_method_17_code
def yX8_best : MethodName := ⟨RX8, "best", "(I)I"⟩
abbrev cX8_allDay : ByteArray := prog_1_method_18_code
def yX8_allDay : MethodName := ⟨RX8, "allDay", "(I)I"⟩
abbrev cX8_laws : ByteArray := prog_1_method_19_code
def yX8_laws : MethodName := ⟨RX8, "laws", "(I)I"⟩
abbrev cX8_food : ByteArray := prog_1_method_20_code
def yX8_food : MethodName := ⟨RX8, "food", "(IIIIII)J"⟩
abbrev cX8_cut : ByteArray := prog_1_method_21_code
def yX8_cut : MethodName := ⟨RX8, "cut", "(IIIII)J"⟩
abbrev cX8_share : ByteArray := prog_1_method_22_code
def yX8_share : MethodName := ⟨RX8, "share", "(II)I"⟩
abbrev cX8_count : ByteArray := prog_1_method_23_code
def yX8_count : MethodName := ⟨RX8, "count", "(I)I"⟩
abbrev cX8_caughtAllDayBy : ByteArray := prog_1_method_24_code
def yX8_caughtAllDayBy : MethodName := ⟨RX8, "caughtAllDayBy", "(I)I"⟩
abbrev cX8_isPlace : ByteArray := prog_1_method_25_code
def yX8_isPlace : MethodName := ⟨RX8, "isPlace", "(III)Z"⟩
abbrev cX8_isHeight : ByteArray := prog_1_method_26_code
def yX8_isHeight : MethodName := ⟨RX8, "isHeight", "(I)Z"⟩
abbrev cX8_isHour : ByteArray := prog_1_method_27_code
def yX8_isHour : MethodName := ⟨RX8, "isHour", "(I)Z"⟩
abbrev cX8_isIn : ByteArray := prog_1_method_28_code
def yX8_isIn : MethodName := ⟨RX8, "isIn", "(II)Z"⟩
abbrev cX8_tenToThe : ByteArray := prog_1_method_29_code
def yX8_tenToThe : MethodName := ⟨RX8, "tenToThe", "(I)J"⟩
abbrev cX8_lowestTerm : ByteArray := prog_1_method_30_code
def yX8_lowestTerm : MethodName := ⟨RX8, "lowestTerm", "(JJI)J"⟩
def RX9 : String := "FishingKitesModel"
def TX9 : u_T := fun k => match k with
  | 0 => ("FishingKitesModel", "wind", "[I", true)
  | 1 => ("FishingKitesModel", "kites", "I", false)
  | 2 => ("FishingKitesModel", "kite", "[I", true)
  | 3 => ("FishingKitesModel", "shoals", "I", false)
  | 4 => ("FishingKitesModel", "shoal", "[I", true)
  | 5 => ("FishingKitesModel", "law", "I", false)
  | 6 => ("FishingKitesModel", "stock", "I", false)
  | 7 => ("FishingKitesModel", "fog", "I", false)
  | 8 => ("FishingKitesModel", "gulls", "I", false)
  | 9 => ("FishingKitesModel", "bytes", "I", false)
  | 10 => ("FishingKitesModel", "text", "[I", true)
  | 11 => ("FishingKitesModel", "position", "I", false)
  | 12 => ("FishingKitesModel", "tokenAt", "I", false)
  | 13 => ("FishingKitesModel", "token", "J", false)
  | 14 => ("FishingKitesModel", "digits", "I", false)
  | 15 => ("FishingKitesModel", "number", "I", false)
  | 16 => ("FishingKitesModel", "faultAt", "I", false)
  | 17 => ("FishingKitesModel", "readMany", "I", false)
  | 18 => ("FishingKitesModel", "read", "[I", true)
  | 19 => ("FishingKitesModel", "now", "[I", true)
  | 20 => ("FishingKitesModel", "aside", "[I", true)
  | 21 => ("FishingKitesModel", "image", "[I", true)
  | 22 => ("FishingKitesModel", "isKept", "[Z", true)
  | _ => ("FishingKitesModel", "triedMost", "I", false)
def tyX9 : Nat → FieldType := fun k => match k with
  | 0 => .array .int
  | 1 => .int
  | 2 => .array .int
  | 3 => .int
  | 4 => .array .int
  | 5 => .int
  | 6 => .int
  | 7 => .int
  | 8 => .int
  | 9 => .int
  | 10 => .array .int
  | 11 => .int
  | 12 => .int
  | 13 => .long
  | 14 => .int
  | 15 => .int
  | 16 => .int
  | 17 => .int
  | 18 => .array .int
  | 19 => .array .int
  | 20 => .array .int
  | 21 => .array .int
  | 22 => .array .boolean
  | _ => .int
abbrev wsX90 : List Cond := u_ws RX9 TX9 24
theorem nmX9 : ∀ a, a < 24 → ∀ b, b < 24 → a ≠ b → (TX9 a).2.1 ≠ (TX9 b).2.1 := by decide +kernel
theorem tyX9_ok : ∀ k, k < 24 → parseFieldDescriptor (TX9 k).2.2.1 = some (tyX9 k) := by decide +kernel
abbrev cX9_init : ByteArray := prog_11_method_1_code
def yX9_init : MethodName := ⟨RX9, "<init>", "()V"⟩
abbrev cX9_in : ByteArray := prog_11_method_2_code
def yX9_in : MethodName := ⟨RX9, "in", "(III)Z"⟩
abbrev cX9_has : ByteArray := prog_11_method_3_code
def yX9_has : MethodName := ⟨RX9, "has", "(II)Z"⟩
abbrev cX9_isKite : ByteArray := prog_11_method_4_code
def yX9_isKite : MethodName := ⟨RX9, "isKite", "(I)Z"⟩
abbrev cX9_isHeight : ByteArray := prog_11_method_5_code
def yX9_isHeight : MethodName := ⟨RX9, "isHeight", "(I)Z"⟩
abbrev cX9_isHour : ByteArray := prog_11_method_6_code
def yX9_isHour : MethodName := ⟨RX9, "isHour", "(I)Z"⟩
abbrev cX9_write : ByteArray := prog_11_method_7_code
def yX9_write : MethodName := ⟨RX9, "write", "(JI)I"⟩
abbrev cX9_erase : ByteArray := prog_11_method_8_code
def yX9_erase : MethodName := ⟨RX9, "erase", "()I"⟩
abbrev cX9_nextToken : ByteArray := prog_11_method_9_code
def yX9_nextToken : MethodName := ⟨RX9, "nextToken", "()V"⟩
abbrev cX9_fails : ByteArray := prog_11_method_10_code
def yX9_fails : MethodName := ⟨RX9, "fails", "()Z"⟩
abbrev cX9_isNumber : ByteArray := prog_11_method_11_code
def yX9_isNumber : MethodName := ⟨RX9, "isNumber", "(III)Z"⟩
abbrev cX9_areHours : ByteArray := prog_11_method_12_code
def yX9_areHours : MethodName := ⟨RX9, "areHours", "(I)Z"⟩
abbrev cX9_isKiteLine : ByteArray := prog_11_method_13_code
def yX9_isKiteLine : MethodName := ⟨RX9, "isKiteLine", "(I)Z"⟩
abbrev cX9_isShoalLine : ByteArray := prog_11_method_14_code
def yX9_isShoalLine : MethodName := ⟨RX9, "isShoalLine", "(I)Z"⟩
abbrev cX9_isLine : ByteArray := prog_11_method_15_code
def yX9_isLine : MethodName := ⟨RX9, "isLine", "(I)Z"⟩
abbrev cX9_isRead : ByteArray := prog_11_method_16_code
def yX9_isRead : MethodName := ⟨RX9, "isRead", "()Z"⟩
abbrev cX9_fault : ByteArray := prog_11_method_17_code
def yX9_fault : MethodName := ⟨RX9, "fault", "()I"⟩
abbrev cX9_putWind : ByteArray := prog_11_method_18_code
def yX9_putWind : MethodName := ⟨RX9, "putWind", "(IIIII)V"⟩
abbrev cX9_calm : ByteArray := prog_11_method_19_code
def yX9_calm : MethodName := ⟨RX9, "calm", "()V"⟩
abbrev cX9_doLine : ByteArray := prog_11_method_20_code
def yX9_doLine : MethodName := ⟨RX9, "doLine", "(I)V"⟩
abbrev cX9_anew : ByteArray := prog_11_method_21_code
def yX9_anew : MethodName := ⟨RX9, "anew", "()V"⟩
abbrev cX9_begin : ByteArray := prog_11_method_22_code
def yX9_begin : MethodName := ⟨RX9, "begin", "()V"⟩
abbrev cX9_cliff : ByteArray := prog_11_method_23_code
def yX9_cliff : MethodName := ⟨RX9, "cliff", "()I"⟩
abbrev cX9_wind : ByteArray := prog_11_method_24_code
def yX9_wind : MethodName := ⟨RX9, "wind", "(III)I"⟩
abbrev cX9_shoal : ByteArray := prog_11_method_25_code
def yX9_shoal : MethodName := ⟨RX9, "shoal", "(II)I"⟩
abbrev cX9_ask : ByteArray := prog_11_method_26_code
def yX9_ask : MethodName := ⟨RX9, "ask", "(II)I"⟩
abbrev cX9_xOf : ByteArray := prog_11_method_27_code
def yX9_xOf : MethodName := ⟨RX9, "xOf", "(III)I"⟩
abbrev cX9_yOf : ByteArray := prog_11_method_28_code
def yX9_yOf : MethodName := ⟨RX9, "yOf", "(II)I"⟩
abbrev cX9_isInSea : ByteArray := prog_11_method_29_code
def yX9_isInSea : MethodName := ⟨RX9, "isInSea", "(III)Z"⟩
abbrev cX9_hasLift : ByteArray := prog_11_method_30_code
def yX9_hasLift : MethodName := ⟨RX9, "hasLift", "(III)Z"⟩
abbrev cX9_doTangle : ByteArray := prog_11_method_31_code
def yX9_doTangle : MethodName := ⟨RX9, "doTangle", "(IIII)Z"⟩
abbrev cX9_givesWay : ByteArray := prog_11_method_32_code
def yX9_givesWay : MethodName := ⟨RX9, "givesWay", "(II)I"⟩
abbrev cX9_findUp : ByteArray := prog_11_method_33_code
def yX9_findUp : MethodName := ⟨RX9, "findUp", "(I)V"⟩
abbrev cX9_take : ByteArray := prog_11_method_34_code
def yX9_take : MethodName := ⟨RX9, "take", "(II)V"⟩
abbrev cX9_goHour : ByteArray := prog_11_method_35_code
def yX9_goHour : MethodName := ⟨RX9, "goHour", "()V"⟩
abbrev cX9_go : ByteArray := prog_11_method_36_code
def yX9_go : MethodName := ⟨RX9, "go", "(I)I"⟩
abbrev cX9_kite : ByteArray := prog_11_method_37_code
def yX9_kite : MethodName := ⟨RX9, "kite", "(II)I"⟩
abbrev cX9_where : ByteArray := prog_11_method_38_code
def yX9_where : MethodName := ⟨RX9, "where", "(III)I"⟩
abbrev cX9_hinders : ByteArray := prog_11_method_39_code
def yX9_hinders : MethodName := ⟨RX9, "hinders", "(III)I"⟩
abbrev cX9_tangle : ByteArray := prog_11_method_40_code
def yX9_tangle : MethodName := ⟨RX9, "tangle", "(IIII)I"⟩
abbrev cX9_taking : ByteArray := prog_11_method_41_code
def yX9_taking : MethodName := ⟨RX9, "taking", "(II)I"⟩
abbrev cX9_copy : ByteArray := prog_11_method_42_code
def yX9_copy : MethodName := ⟨RX9, "copy", "([II[II)V"⟩
abbrev cX9_keep : ByteArray := prog_11_method_43_code
def yX9_keep : MethodName := ⟨RX9, "keep", "(I)I"⟩
abbrev cX9_back : ByteArray := prog_11_method_44_code
def yX9_back : MethodName := ⟨RX9, "back", "(I)I"⟩
abbrev cX9_caught : ByteArray := prog_11_method_45_code
def yX9_caught : MethodName := ⟨RX9, "caught", "()I"⟩
abbrev cX9_toldMany : ByteArray := prog_11_method_46_code
def yX9_toldMany : MethodName := ⟨RX9, "toldMany", "()I"⟩
abbrev cX9_askAll : ByteArray := prog_11_method_47_code
def yX9_askAll : MethodName := ⟨RX9, "askAll", "(I)V"⟩
abbrev cX9_bestOf : ByteArray := prog_11_method_48_code
def yX9_bestOf : MethodName := ⟨RX9, "bestOf", "(Z)I"⟩
abbrev cX9_copyState : ByteArray := prog_11_method_49_code
def yX9_copyState : MethodName := ⟨RX9, "copyState", "()V"⟩
abbrev cX9_heightIn : ByteArray := prog_11_method_50_code
def yX9_heightIn : MethodName := ⟨RX9, "heightIn", "(II)I"⟩
abbrev cX9_best : ByteArray := prog_11_method_51_code
def yX9_best : MethodName := ⟨RX9, "best", "(I)I"⟩
abbrev cX9_allDay : ByteArray := prog_11_method_52_code
def yX9_allDay : MethodName := ⟨RX9, "allDay", "(I)I"⟩
abbrev cX9_laws : ByteArray := prog_11_method_53_code
def yX9_laws : MethodName := ⟨RX9, "laws", "(I)I"⟩
abbrev cX9_part : ByteArray := prog_11_method_54_code
def yX9_part : MethodName := ⟨RX9, "part", "(JJI)J"⟩
abbrev cX9_food : ByteArray := prog_11_method_55_code
def yX9_food : MethodName := ⟨RX9, "food", "(IIIIII)J"⟩
abbrev cX9_cut : ByteArray := prog_11_method_56_code
def yX9_cut : MethodName := ⟨RX9, "cut", "(IIIII)J"⟩
abbrev cX9_share : ByteArray := prog_11_method_57_code
def yX9_share : MethodName := ⟨RX9, "share", "(II)I"⟩
abbrev cX9_count : ByteArray := prog_11_method_58_code
def yX9_count : MethodName := ⟨RX9, "count", "(I)I"⟩
def RJ9 : String := "java/lang/Math"
def TJ9 : u_T := fun k => match k with
  | _ => ("", "", "", false)
def tyJ9 : Nat → FieldType := fun k => match k with
  | _ => .int
abbrev wsJ90 : List Cond := u_ws RJ9 TJ9 0
theorem nmJ9 : ∀ a, a < 0 → ∀ b, b < 0 → a ≠ b → (TJ9 a).2.1 ≠ (TJ9 b).2.1 := by decide +kernel
theorem tyJ9_ok : ∀ k, k < 0 → parseFieldDescriptor (TJ9 k).2.2.1 = some (tyJ9 k) := by decide +kernel
abbrev cJ9_max_7cf53 : ByteArray := prog_12_method_65_code
def yJ9_max_7cf53 : MethodName := ⟨RJ9, "max", "(II)I"⟩
abbrev cJ9_min_7cf53 : ByteArray := prog_12_method_69_code
def yJ9_min_7cf53 : MethodName := ⟨RJ9, "min", "(II)I"⟩
def RJ0 : String := "java/lang/String"
def TJ0 : u_T := fun k => match k with
  | _ => ("", "", "", false)
def tyJ0 : Nat → FieldType := fun k => match k with
  | _ => .int
abbrev wsJ00 : List Cond := u_ws RJ0 TJ0 0
theorem nmJ0 : ∀ a, a < 0 → ∀ b, b < 0 → a ≠ b → (TJ0 a).2.1 ≠ (TJ0 b).2.1 := by decide +kernel
theorem tyJ0_ok : ∀ k, k < 0 → parseFieldDescriptor (TJ0 k).2.2.1 = some (tyJ0 k) := by decide +kernel
abbrev cJ0_length_8abf5 : ByteArray := prog_13_method_54_code
def yJ0_length_8abf5 : MethodName := ⟨RJ0, "length", "()I"⟩
abbrev cJ0_charAt_5068e : ByteArray := prog_13_method_56_code
def yJ0_charAt_5068e : MethodName := ⟨RJ0, "charAt", "(I)C"⟩
abbrev cJ0_coder_7d493 : ByteArray := prog_13_method_152_code
def yJ0_coder_7d493 : MethodName := ⟨RJ0, "coder", "()B"⟩
abbrev cJ0_isLatin1_aae02 : ByteArray := prog_13_method_154_code
def yJ0_isLatin1_aae02 : MethodName := ⟨RJ0, "isLatin1", "()Z"⟩
abbrev cJ0_checkIndex_df160 : ByteArray := prog_13_method_155_code
def yJ0_checkIndex_df160 : MethodName := ⟨RJ0, "checkIndex", "(II)V"⟩
def RJ1 : String := "java/lang/StringLatin1"
def TJ1 : u_T := fun k => match k with
  | _ => ("", "", "", false)
def tyJ1 : Nat → FieldType := fun k => match k with
  | _ => .int
abbrev wsJ10 : List Cond := u_ws RJ1 TJ1 0
theorem nmJ1 : ∀ a, a < 0 → ∀ b, b < 0 → a ≠ b → (TJ1 a).2.1 ≠ (TJ1 b).2.1 := by decide +kernel
theorem tyJ1_ok : ∀ k, k < 0 → parseFieldDescriptor (TJ1 k).2.2.1 = some (tyJ1 k) := by decide +kernel
abbrev cJ1_charAt_3b067 : ByteArray := prog_14_method_2_code
def yJ1_charAt_3b067 : MethodName := ⟨RJ1, "charAt", "([BI)C"⟩
def RJ2 : String := "java/lang/StringUTF16"
def TJ2 : u_T := fun k => match k with
  | _ => ("", "", "", false)
def tyJ2 : Nat → FieldType := fun k => match k with
  | _ => .int
abbrev wsJ20 : List Cond := u_ws RJ2 TJ2 0
theorem nmJ2 : ∀ a, a < 0 → ∀ b, b < 0 → a ≠ b → (TJ2 a).2.1 ≠ (TJ2 b).2.1 := by decide +kernel
theorem tyJ2_ok : ∀ k, k < 0 → parseFieldDescriptor (TJ2 k).2.2.1 = some (tyJ2 k) := by decide +kernel
abbrev cJ2_getChar_3b067 : ByteArray := prog_15_method_5_code
def yJ2_getChar_3b067 : MethodName := ⟨RJ2, "getChar", "([BI)C"⟩
abbrev cJ2_length_9d52b : ByteArray := prog_15_method_6_code
def yJ2_length_9d52b : MethodName := ⟨RJ2, "length", "([B)I"⟩
abbrev cJ2_charAt_3b067 : ByteArray := prog_15_method_83_code
def yJ2_charAt_3b067 : MethodName := ⟨RJ2, "charAt", "([BI)C"⟩
abbrev cJ2_checkIndex_2214a : ByteArray := prog_15_method_91_code
def yJ2_checkIndex_2214a : MethodName := ⟨RJ2, "checkIndex", "(I[B)V"⟩
def RJ10 : String := "java/lang/System"
def TJ10 : u_T := fun k => match k with
  | _ => ("", "", "", false)
def tyJ10 : Nat → FieldType := fun k => match k with
  | _ => .int
abbrev wsJ100 : List Cond := u_ws RJ10 TJ10 0
theorem nmJ10 : ∀ a, a < 0 → ∀ b, b < 0 → a ≠ b → (TJ10 a).2.1 ≠ (TJ10 b).2.1 := by decide +kernel
theorem tyJ10_ok : ∀ k, k < 0 → parseFieldDescriptor (TJ10 k).2.2.1 = some (tyJ10 k) := by decide +kernel
def RJ7 : String := "java/util/Arrays"
def TJ7 : u_T := fun k => match k with
  | _ => ("", "", "", false)
def tyJ7 : Nat → FieldType := fun k => match k with
  | _ => .int
abbrev wsJ70 : List Cond := u_ws RJ7 TJ7 0
theorem nmJ7 : ∀ a, a < 0 → ∀ b, b < 0 → a ≠ b → (TJ7 a).2.1 ≠ (TJ7 b).2.1 := by decide +kernel
theorem tyJ7_ok : ∀ k, k < 0 → parseFieldDescriptor (TJ7 k).2.2.1 = some (tyJ7 k) := by decide +kernel
abbrev cJ7_fill_d0a16 : ByteArray := prog_17_method_101_code
def yJ7_fill_d0a16 : MethodName := ⟨RJ7, "fill", "([JJ)V"⟩
abbrev cJ7_fill_53178 : ByteArray := prog_17_method_103_code
def yJ7_fill_53178 : MethodName := ⟨RJ7, "fill", "([II)V"⟩
def RJ3 : String := "jdk/internal/util/Preconditions"
def TJ3 : u_T := fun k => match k with
  | _ => ("", "", "", false)
def tyJ3 : Nat → FieldType := fun k => match k with
  | _ => .int
abbrev wsJ30 : List Cond := u_ws RJ3 TJ3 0
theorem nmJ3 : ∀ a, a < 0 → ∀ b, b < 0 → a ≠ b → (TJ3 a).2.1 ≠ (TJ3 b).2.1 := by decide +kernel
theorem tyJ3_ok : ∀ k, k < 0 → parseFieldDescriptor (TJ3 k).2.2.1 = some (tyJ3 k) := by decide +kernel
abbrev cJ3_checkIndex_8e157 : ByteArray := prog_18_method_11_code
def yJ3_checkIndex_8e157 : MethodName := ⟨RJ3, "checkIndex", "(IILjava/util/function/BiFunction;)I"⟩
def RL : String := "FishingKitesLaw"
abbrev cL_law : ByteArray := code
def yL_law : MethodName := ⟨RL, "law", "([I)Z"⟩
abbrev vwCl : List vw_C := [(RX0, TX0, 3), (RX1, TX1, 11), (RX2, TX2, 6), (RX3, TX3, 2), (RX4, TX4, 8), (RX5, TX5, 5), (RX6, TX6, 6), (RX7, TX7, 5), (RX8, TX8, 11), (RX9, TX9, 24)]
/-- the words that every method is given -/
def BIG : List Cond := lw_tbl.filter goodWord
theorem mB_sel {w : Cond} (h : w ∈ k2_sels lw_privs) (g : goodWord w = true) : w ∈ BIG := List.mem_filter.mpr ⟨List.mem_append_left _ h, g⟩
theorem mB_tab {w : Cond} (h : w ∈ tables_1) (g : goodWord w = true) : w ∈ BIG := List.mem_filter.mpr ⟨List.mem_append_right _ h, g⟩
theorem mB_1 {w : Cond} (h : w ∈ tables_1_1) (g : goodWord w = true) : w ∈ BIG := mB_tab (List.mem_append_left _ h) g
theorem mT_1 {w : Cond} (h : w ∈ tables_1_1) : w ∈ lw_tbl := List.mem_append_right _ (List.mem_append_left _ h)
theorem mB_2 {w : Cond} (h : w ∈ tables_1_2) (g : goodWord w = true) : w ∈ BIG := mB_tab (List.mem_append_right _ (List.mem_append_left _ h)) g
theorem mT_2 {w : Cond} (h : w ∈ tables_1_2) : w ∈ lw_tbl := List.mem_append_right _ (List.mem_append_right _ (List.mem_append_left _ h))
theorem mB_3 {w : Cond} (h : w ∈ tables_1_3) (g : goodWord w = true) : w ∈ BIG := mB_tab (List.mem_append_right _ (List.mem_append_right _ (List.mem_append_left _ h))) g
theorem mT_3 {w : Cond} (h : w ∈ tables_1_3) : w ∈ lw_tbl := List.mem_append_right _ (List.mem_append_right _ (List.mem_append_right _ (List.mem_append_left _ h)))
theorem mB_4 {w : Cond} (h : w ∈ tables_1_4) (g : goodWord w = true) : w ∈ BIG := mB_tab (List.mem_append_right _ (List.mem_append_right _ (List.mem_append_right _ (List.mem_append_left _ h)))) g
theorem mT_4 {w : Cond} (h : w ∈ tables_1_4) : w ∈ lw_tbl := List.mem_append_right _ (List.mem_append_right _ (List.mem_append_right _ (List.mem_append_right _ (List.mem_append_left _ h))))
theorem mB_5 {w : Cond} (h : w ∈ tables_1_5) (g : goodWord w = true) : w ∈ BIG := mB_tab (List.mem_append_right _ (List.mem_append_right _ (List.mem_append_right _ (List.mem_append_right _ h)))) g
theorem mT_5 {w : Cond} (h : w ∈ tables_1_5) : w ∈ lw_tbl := List.mem_append_right _ (List.mem_append_right _ (List.mem_append_right _ (List.mem_append_right _ (List.mem_append_right _ h))))
theorem BIG_good {X : List Cond} (c : Cond) (hX : ∀ w ∈ BIG, w ∈ X) : GoodIn X BIG := fun w h => ⟨hX w h, good_of_word (List.mem_filter.mp h).2⟩
theorem BIG_in : ∀ w ∈ BIG, w ∈ lw_tbl := fun w h => (List.mem_filter.mp h).1
theorem kIN_L : Cond.initialized RL ∈ BIG := mB_1 (List.mem_of_getElem? (i := 0) rfl) rfl
theorem kIN_X8 : Cond.initialized RX8 ∈ BIG := mB_1 (List.mem_of_getElem? (i := 1) rfl) rfl
theorem kIN_X7 : Cond.initialized RX7 ∈ BIG := mB_1 (List.mem_of_getElem? (i := 2) rfl) rfl
theorem kIN_X4 : Cond.initialized RX4 ∈ BIG := mB_1 (List.mem_of_getElem? (i := 3) rfl) rfl
theorem kIN_X2 : Cond.initialized RX2 ∈ BIG := mB_1 (List.mem_of_getElem? (i := 4) rfl) rfl
theorem kIN_X6 : Cond.initialized RX6 ∈ BIG := mB_1 (List.mem_of_getElem? (i := 5) rfl) rfl
theorem kIN_X0 : Cond.initialized RX0 ∈ BIG := mB_1 (List.mem_of_getElem? (i := 6) rfl) rfl
theorem kIN_X1 : Cond.initialized RX1 ∈ BIG := mB_1 (List.mem_of_getElem? (i := 7) rfl) rfl
theorem kIN_X5 : Cond.initialized RX5 ∈ BIG := mB_1 (List.mem_of_getElem? (i := 8) rfl) rfl
theorem kIN_X3 : Cond.initialized RX3 ∈ BIG := mB_1 (List.mem_of_getElem? (i := 9) rfl) rfl
theorem kIN_X9 : Cond.initialized RX9 ∈ BIG := mB_1 (List.mem_of_getElem? (i := 10) rfl) rfl
theorem kIN_J0 : Cond.initialized RJ0 ∈ BIG := mB_1 (List.mem_of_getElem? (i := 11) rfl) rfl
theorem kIN_J1 : Cond.initialized RJ1 ∈ BIG := mB_1 (List.mem_of_getElem? (i := 12) rfl) rfl
theorem kIN_J3 : Cond.initialized RJ3 ∈ BIG := mB_1 (List.mem_of_getElem? (i := 13) rfl) rfl
theorem kIN_J2 : Cond.initialized RJ2 ∈ BIG := mB_1 (List.mem_of_getElem? (i := 14) rfl) rfl
theorem kIN_J7 : Cond.initialized RJ7 ∈ BIG := mB_1 (List.mem_of_getElem? (i := 15) rfl) rfl
theorem kIN_J10 : Cond.initialized RJ10 ∈ BIG := mB_1 (List.mem_of_getElem? (i := 16) rfl) rfl
theorem kIN_J9 : Cond.initialized RJ9 ∈ BIG := mB_1 (List.mem_of_getElem? (i := 17) rfl) rfl
theorem kCL_L_7 : Cond.classLink RL 7 RX8 ∈ BIG := mB_1 (List.mem_of_getElem? (i := 18) rfl) rfl
theorem kIS_X8 : Cond.instantiable RX8 11 ∈ BIG := mB_1 (List.mem_of_getElem? (i := 19) rfl) rfl
theorem kML_L_9 : Cond.methodLink RL 9 yX8_init ∈ BIG := mB_1 (List.mem_of_getElem? (i := 20) rfl) rfl
theorem kIM_X8_init : Cond.instanceMethod yX8_init ∈ BIG := mB_1 (List.mem_of_getElem? (i := 21) rfl) rfl
theorem kCD_X8_init : Cond.code yX8_init cX8_init 2 none ∈ BIG := mB_1 (List.mem_of_getElem? (i := 22) rfl) rfl
theorem kML_X8_3 : Cond.methodLink RX8 3 objectInit ∈ BIG := mB_1 (List.mem_of_getElem? (i := 23) rfl) rfl
theorem kIM_objectInit : Cond.instanceMethod objectInit ∈ BIG := mB_1 (List.mem_of_getElem? (i := 24) rfl) rfl
theorem kCD_objectInit : Cond.code objectInit ⟨#[0xb1]⟩ 1 none ∈ BIG := mB_1 (List.mem_of_getElem? (i := 25) rfl) rfl
theorem kCL_X8_9 : Cond.classLink RX8 9 RX7 ∈ BIG := mB_1 (List.mem_of_getElem? (i := 26) rfl) rfl
theorem kIS_X7 : Cond.instantiable RX7 5 ∈ BIG := mB_1 (List.mem_of_getElem? (i := 27) rfl) rfl
theorem kNM_X8_11 : Cond.methodLinkNest RX8 11 yX7_init "FishingKites" ∈ lw_tbl := mT_1 (List.mem_of_getElem? (i := 28) rfl)
theorem kIM_X7_init : Cond.instanceMethod yX7_init ∈ BIG := mB_1 (List.mem_of_getElem? (i := 29) rfl) rfl
theorem kCD_X7_init : Cond.code yX7_init cX7_init 1 none ∈ BIG := mB_1 (List.mem_of_getElem? (i := 30) rfl) rfl
theorem kML_X7_3 : Cond.methodLink RX7 3 objectInit ∈ BIG := mB_1 (List.mem_of_getElem? (i := 31) rfl) rfl
theorem kFL_X7_9 : Cond.fieldLink RX7 9 "FishingKites$Text" "bytes" "[I" ∈ BIG := mB_1 (List.mem_of_getElem? (i := 32) rfl) rfl
theorem kFL_X7_15 : Cond.fieldLink RX7 15 "FishingKites$Text" "numbers" "[I" ∈ BIG := mB_1 (List.mem_of_getElem? (i := 33) rfl) rfl
theorem kFL_X7_18 : Cond.fieldLink RX7 18 "FishingKites$Text" "length" "I" ∈ BIG := mB_1 (List.mem_of_getElem? (i := 34) rfl) rfl
theorem kFL_X8_72 : Cond.fieldLink RX8 72 "FishingKites$Text" "length" "I" ∈ BIG := mB_1 (List.mem_of_getElem? (i := 35) rfl) rfl
theorem kFL_X7_27 : Cond.fieldLink RX7 27 "FishingKites$Text" "lines" "I" ∈ BIG := mB_1 (List.mem_of_getElem? (i := 36) rfl) rfl
theorem kFL_X8_97 : Cond.fieldLink RX8 97 "FishingKites$Text" "lines" "I" ∈ BIG := mB_1 (List.mem_of_getElem? (i := 37) rfl) rfl
theorem kFL_X7_24 : Cond.fieldLink RX7 24 "FishingKites$Text" "at" "I" ∈ BIG := mB_1 (List.mem_of_getElem? (i := 38) rfl) rfl
theorem kAC_int : Cond.arrayClass .int ∈ BIG := mB_1 (List.mem_of_getElem? (i := 50) rfl) rfl
theorem kCL_X8_16 : Cond.classLink RX8 16 RX4 ∈ BIG := mB_1 (List.mem_of_getElem? (i := 51) rfl) rfl
theorem kIS_X4 : Cond.instantiable RX4 8 ∈ BIG := mB_1 (List.mem_of_getElem? (i := 52) rfl) rfl
theorem kML_X8_18 : Cond.methodLink RX8 18 yX4_init ∈ BIG := mB_1 (List.mem_of_getElem? (i := 53) rfl) rfl
theorem kIM_X4_init : Cond.instanceMethod yX4_init ∈ BIG := mB_1 (List.mem_of_getElem? (i := 54) rfl) rfl
theorem kCD_X4_init : Cond.code yX4_init cX4_init 2 none ∈ BIG := mB_1 (List.mem_of_getElem? (i := 55) rfl) rfl
theorem kML_X4_3 : Cond.methodLink RX4 3 objectInit ∈ BIG := mB_1 (List.mem_of_getElem? (i := 56) rfl) rfl
theorem kCL_X4_9 : Cond.classLink RX4 9 RX2 ∈ BIG := mB_1 (List.mem_of_getElem? (i := 57) rfl) rfl
theorem kAO_X2 : Cond.arrayOver (.object "FishingKites$Kite") ∈ lw_tbl := mT_1 (List.mem_of_getElem? (i := 58) rfl)
theorem kCL_X4_17 : Cond.classLink RX4 17 RX6 ∈ BIG := mB_1 (List.mem_of_getElem? (i := 59) rfl) rfl
theorem kAO_X6 : Cond.arrayOver (.object "FishingKites$Shoal") ∈ lw_tbl := mT_1 (List.mem_of_getElem? (i := 60) rfl)
theorem kIS_X2 : Cond.instantiable RX2 6 ∈ BIG := mB_1 (List.mem_of_getElem? (i := 61) rfl) rfl
theorem kNM_X4_34 : Cond.methodLinkNest RX4 34 yX2_init "FishingKites" ∈ lw_tbl := mT_1 (List.mem_of_getElem? (i := 62) rfl)
theorem kIM_X2_init : Cond.instanceMethod yX2_init ∈ BIG := mB_1 (List.mem_of_getElem? (i := 63) rfl) rfl
theorem kCD_X2_init : Cond.code yX2_init cX2_init 1 none ∈ BIG := mB_1 (List.mem_of_getElem? (i := 64) rfl) rfl
theorem kML_X2_1 : Cond.methodLink RX2 1 objectInit ∈ BIG := mB_1 (List.mem_of_getElem? (i := 65) rfl) rfl
theorem kFL_X4_67 : Cond.fieldLink RX4 67 "FishingKites$Kite" "told" "Z" ∈ BIG := mB_1 (List.mem_of_getElem? (i := 66) rfl) rfl
theorem kFL_X4_71 : Cond.fieldLink RX4 71 "FishingKites$Kite" "post" "I" ∈ BIG := mB_1 (List.mem_of_getElem? (i := 67) rfl) rfl
theorem kFL_X4_74 : Cond.fieldLink RX4 74 "FishingKites$Kite" "size" "I" ∈ BIG := mB_1 (List.mem_of_getElem? (i := 68) rfl) rfl
theorem kFL_X4_77 : Cond.fieldLink RX4 77 "FishingKites$Kite" "string" "I" ∈ BIG := mB_1 (List.mem_of_getElem? (i := 69) rfl) rfl
theorem kFL_X1_100 : Cond.fieldLink RX1 100 "FishingKites$Kite" "string" "I" ∈ BIG := mB_1 (List.mem_of_getElem? (i := 70) rfl) rfl
theorem kFL_X5_107 : Cond.fieldLink RX5 107 "FishingKites$Kite" "string" "I" ∈ BIG := mB_1 (List.mem_of_getElem? (i := 71) rfl) rfl
theorem kFL_X4_80 : Cond.fieldLink RX4 80 "FishingKites$Kite" "net" "I" ∈ BIG := mB_1 (List.mem_of_getElem? (i := 72) rfl) rfl
theorem kFL_X1_118 : Cond.fieldLink RX1 118 "FishingKites$Kite" "net" "I" ∈ BIG := mB_1 (List.mem_of_getElem? (i := 73) rfl) rfl
theorem kFL_X5_89 : Cond.fieldLink RX5 89 "FishingKites$Kite" "net" "I" ∈ BIG := mB_1 (List.mem_of_getElem? (i := 74) rfl) rfl
theorem kFL_X4_83 : Cond.fieldLink RX4 83 "FishingKites$Kite" "clan" "I" ∈ BIG := mB_1 (List.mem_of_getElem? (i := 75) rfl) rfl
theorem kIS_X6 : Cond.instantiable RX6 6 ∈ BIG := mB_1 (List.mem_of_getElem? (i := 89) rfl) rfl
theorem kNM_X4_35 : Cond.methodLinkNest RX4 35 yX6_init "FishingKites" ∈ lw_tbl := mT_1 (List.mem_of_getElem? (i := 90) rfl)
theorem kIM_X6_init : Cond.instanceMethod yX6_init ∈ BIG := mB_1 (List.mem_of_getElem? (i := 91) rfl) rfl
theorem kCD_X6_init : Cond.code yX6_init cX6_init 1 none ∈ BIG := mB_1 (List.mem_of_getElem? (i := 92) rfl) rfl
theorem kML_X6_1 : Cond.methodLink RX6 1 objectInit ∈ BIG := mB_1 (List.mem_of_getElem? (i := 93) rfl) rfl
theorem kFL_X4_86 : Cond.fieldLink RX4 86 "FishingKites$Shoal" "told" "Z" ∈ BIG := mB_1 (List.mem_of_getElem? (i := 94) rfl) rfl
theorem kFL_X4_87 : Cond.fieldLink RX4 87 "FishingKites$Shoal" "x" "I" ∈ BIG := mB_1 (List.mem_of_getElem? (i := 95) rfl) rfl
theorem kFL_X4_90 : Cond.fieldLink RX4 90 "FishingKites$Shoal" "y" "I" ∈ BIG := mB_1 (List.mem_of_getElem? (i := 96) rfl) rfl
theorem kFL_X4_93 : Cond.fieldLink RX4 93 "FishingKites$Shoal" "moveX" "I" ∈ BIG := mB_1 (List.mem_of_getElem? (i := 97) rfl) rfl
theorem kFL_X4_96 : Cond.fieldLink RX4 96 "FishingKites$Shoal" "moveY" "I" ∈ BIG := mB_1 (List.mem_of_getElem? (i := 98) rfl) rfl
theorem kFL_X1_40 : Cond.fieldLink RX1 40 "FishingKites$Shoal" "many" "I" ∈ BIG := mB_1 (List.mem_of_getElem? (i := 99) rfl) rfl
theorem kFL_X4_99 : Cond.fieldLink RX4 99 "FishingKites$Shoal" "many" "I" ∈ BIG := mB_1 (List.mem_of_getElem? (i := 100) rfl) rfl
theorem kFL_X4_11 : Cond.fieldLink RX4 11 "FishingKites$Sea" "kites" "[LFishingKites$Kite;" ∈ BIG := mB_1 (List.mem_of_getElem? (i := 114) rfl) rfl
theorem kFL_X1_96 : Cond.fieldLink RX1 96 "FishingKites$Sea" "kites" "[LFishingKites$Kite;" ∈ BIG := mB_1 (List.mem_of_getElem? (i := 115) rfl) rfl
theorem kFL_X5_85 : Cond.fieldLink RX5 85 "FishingKites$Sea" "kites" "[LFishingKites$Kite;" ∈ BIG := mB_1 (List.mem_of_getElem? (i := 116) rfl) rfl
theorem kFL_X4_19 : Cond.fieldLink RX4 19 "FishingKites$Sea" "shoals" "[LFishingKites$Shoal;" ∈ BIG := mB_1 (List.mem_of_getElem? (i := 117) rfl) rfl
theorem kFL_X1_36 : Cond.fieldLink RX1 36 "FishingKites$Sea" "shoals" "[LFishingKites$Shoal;" ∈ BIG := mB_1 (List.mem_of_getElem? (i := 118) rfl) rfl
theorem kFL_X4_23 : Cond.fieldLink RX4 23 "FishingKites$Sea" "strength" "[I" ∈ BIG := mB_1 (List.mem_of_getElem? (i := 119) rfl) rfl
theorem kFL_X8_106 : Cond.fieldLink RX8 106 "FishingKites$Sea" "strength" "[I" ∈ BIG := mB_1 (List.mem_of_getElem? (i := 120) rfl) rfl
theorem kFL_X4_27 : Cond.fieldLink RX4 27 "FishingKites$Sea" "drift" "[I" ∈ BIG := mB_1 (List.mem_of_getElem? (i := 121) rfl) rfl
theorem kFL_X8_114 : Cond.fieldLink RX8 114 "FishingKites$Sea" "drift" "[I" ∈ BIG := mB_1 (List.mem_of_getElem? (i := 122) rfl) rfl
theorem kFL_X4_46 : Cond.fieldLink RX4 46 "FishingKites$Sea" "law" "I" ∈ BIG := mB_1 (List.mem_of_getElem? (i := 123) rfl) rfl
theorem kFL_X5_57 : Cond.fieldLink RX5 57 "FishingKites$Sea" "law" "I" ∈ BIG := mB_1 (List.mem_of_getElem? (i := 124) rfl) rfl
theorem kFL_X8_139 : Cond.fieldLink RX8 139 "FishingKites$Sea" "law" "I" ∈ BIG := mB_1 (List.mem_of_getElem? (i := 125) rfl) rfl
theorem kFL_X4_30 : Cond.fieldLink RX4 30 "FishingKites$Sea" "stock" "I" ∈ BIG := mB_1 (List.mem_of_getElem? (i := 126) rfl) rfl
theorem kFL_X1_105 : Cond.fieldLink RX1 105 "FishingKites$Sea" "stock" "I" ∈ BIG := mB_1 (List.mem_of_getElem? (i := 127) rfl) rfl
theorem kFL_X5_110 : Cond.fieldLink RX5 110 "FishingKites$Sea" "stock" "I" ∈ BIG := mB_1 (List.mem_of_getElem? (i := 128) rfl) rfl
theorem kFL_X8_252 : Cond.fieldLink RX8 252 "FishingKites$Sea" "stock" "I" ∈ BIG := mB_1 (List.mem_of_getElem? (i := 129) rfl) rfl
theorem kFL_X4_102 : Cond.fieldLink RX4 102 "FishingKites$Sea" "fog" "I" ∈ BIG := mB_1 (List.mem_of_getElem? (i := 130) rfl) rfl
theorem kFL_X8_255 : Cond.fieldLink RX8 255 "FishingKites$Sea" "fog" "I" ∈ BIG := mB_1 (List.mem_of_getElem? (i := 131) rfl) rfl
theorem kFL_X4_53 : Cond.fieldLink RX4 53 "FishingKites$Sea" "gulls" "I" ∈ BIG := mB_1 (List.mem_of_getElem? (i := 132) rfl) rfl
theorem kFL_X8_258 : Cond.fieldLink RX8 258 "FishingKites$Sea" "gulls" "I" ∈ BIG := mB_1 (List.mem_of_getElem? (i := 133) rfl) rfl
theorem kCL_X8_23 : Cond.classLink RX8 23 RX0 ∈ BIG := mB_1 (List.mem_of_getElem? (i := 151) rfl) rfl
theorem kIS_X0 : Cond.instantiable RX0 3 ∈ BIG := mB_1 (List.mem_of_getElem? (i := 152) rfl) rfl
theorem kNM_X8_25 : Cond.methodLinkNest RX8 25 yX0_init "FishingKites" ∈ lw_tbl := mT_1 (List.mem_of_getElem? (i := 153) rfl)
theorem kIM_X0_init : Cond.instanceMethod yX0_init ∈ BIG := mB_1 (List.mem_of_getElem? (i := 154) rfl) rfl
theorem kCD_X0_init : Cond.code yX0_init cX0_init 1 none ∈ BIG := mB_1 (List.mem_of_getElem? (i := 155) rfl) rfl
theorem kML_X0_3 : Cond.methodLink RX0 3 objectInit ∈ BIG := mB_1 (List.mem_of_getElem? (i := 156) rfl) rfl
theorem kFL_X0_9 : Cond.fieldLink RX0 9 "FishingKites$Chart" "freeHours" "[I" ∈ BIG := mB_1 (List.mem_of_getElem? (i := 157) rfl) rfl
theorem kFL_X0_15 : Cond.fieldLink RX0 15 "FishingKites$Chart" "shoalsMet" "[I" ∈ BIG := mB_1 (List.mem_of_getElem? (i := 158) rfl) rfl
theorem kFL_X0_18 : Cond.fieldLink RX0 18 "FishingKites$Chart" "kitesCrossed" "[I" ∈ BIG := mB_1 (List.mem_of_getElem? (i := 159) rfl) rfl
theorem kCL_X8_30 : Cond.classLink RX8 30 RX1 ∈ BIG := mB_1 (List.mem_of_getElem? (i := 167) rfl) rfl
theorem kIS_X1 : Cond.instantiable RX1 11 ∈ BIG := mB_1 (List.mem_of_getElem? (i := 168) rfl) rfl
theorem kNM_X8_32 : Cond.methodLinkNest RX8 32 yX1_init "FishingKites" ∈ lw_tbl := mT_1 (List.mem_of_getElem? (i := 169) rfl)
theorem kIM_X1_init : Cond.instanceMethod yX1_init ∈ BIG := mB_1 (List.mem_of_getElem? (i := 170) rfl) rfl
theorem kCD_X1_init : Cond.code yX1_init cX1_init 1 none ∈ BIG := mB_1 (List.mem_of_getElem? (i := 171) rfl) rfl
theorem kML_X1_3 : Cond.methodLink RX1 3 objectInit ∈ BIG := mB_1 (List.mem_of_getElem? (i := 172) rfl) rfl
theorem kFL_X1_65 : Cond.fieldLink RX1 65 "FishingKites$Day" "hours" "I" ∈ BIG := mB_1 (List.mem_of_getElem? (i := 173) rfl) rfl
theorem kFL_X8_120 : Cond.fieldLink RX8 120 "FishingKites$Day" "hours" "I" ∈ BIG := mB_1 (List.mem_of_getElem? (i := 174) rfl) rfl
theorem kFL_X5_94 : Cond.fieldLink RX5 94 "FishingKites$Day" "hours" "I" ∈ BIG := mB_1 (List.mem_of_getElem? (i := 175) rfl) rfl
theorem kFL_X1_68 : Cond.fieldLink RX1 68 "FishingKites$Day" "up" "I" ∈ BIG := mB_1 (List.mem_of_getElem? (i := 176) rfl) rfl
theorem kFL_X5_78 : Cond.fieldLink RX5 78 "FishingKites$Day" "up" "I" ∈ BIG := mB_1 (List.mem_of_getElem? (i := 177) rfl) rfl
theorem kFL_X8_146 : Cond.fieldLink RX8 146 "FishingKites$Day" "up" "I" ∈ BIG := mB_1 (List.mem_of_getElem? (i := 178) rfl) rfl
theorem kFL_X1_50 : Cond.fieldLink RX1 50 "FishingKites$Day" "caught" "I" ∈ BIG := mB_1 (List.mem_of_getElem? (i := 179) rfl) rfl
theorem kFL_X5_66 : Cond.fieldLink RX5 66 "FishingKites$Day" "caught" "I" ∈ BIG := mB_1 (List.mem_of_getElem? (i := 180) rfl) rfl
theorem kFL_X8_261 : Cond.fieldLink RX8 261 "FishingKites$Day" "caught" "I" ∈ BIG := mB_1 (List.mem_of_getElem? (i := 181) rfl) rfl
theorem kFL_X1_53 : Cond.fieldLink RX1 53 "FishingKites$Day" "gullsHave" "I" ∈ BIG := mB_1 (List.mem_of_getElem? (i := 182) rfl) rfl
theorem kFL_X8_264 : Cond.fieldLink RX8 264 "FishingKites$Day" "gullsHave" "I" ∈ BIG := mB_1 (List.mem_of_getElem? (i := 183) rfl) rfl
theorem kFL_X1_56 : Cond.fieldLink RX1 56 "FishingKites$Day" "takings" "I" ∈ BIG := mB_1 (List.mem_of_getElem? (i := 184) rfl) rfl
theorem kFL_X8_194 : Cond.fieldLink RX8 194 "FishingKites$Day" "takings" "I" ∈ BIG := mB_1 (List.mem_of_getElem? (i := 185) rfl) rfl
theorem kFL_X1_9 : Cond.fieldLink RX1 9 "FishingKites$Day" "asked" "[I" ∈ BIG := mB_1 (List.mem_of_getElem? (i := 186) rfl) rfl
theorem kFL_X5_54 : Cond.fieldLink RX5 54 "FishingKites$Day" "asked" "[I" ∈ BIG := mB_1 (List.mem_of_getElem? (i := 187) rfl) rfl
theorem kFL_X8_136 : Cond.fieldLink RX8 136 "FishingKites$Day" "asked" "[I" ∈ BIG := mB_1 (List.mem_of_getElem? (i := 188) rfl) rfl
theorem kFL_X1_15 : Cond.fieldLink RX1 15 "FishingKites$Day" "catches" "[I" ∈ BIG := mB_1 (List.mem_of_getElem? (i := 189) rfl) rfl
theorem kFL_X8_153 : Cond.fieldLink RX8 153 "FishingKites$Day" "catches" "[I" ∈ BIG := mB_1 (List.mem_of_getElem? (i := 190) rfl) rfl
theorem kFL_X1_18 : Cond.fieldLink RX1 18 "FishingKites$Day" "upHours" "[I" ∈ BIG := mB_1 (List.mem_of_getElem? (i := 191) rfl) rfl
theorem kFL_X8_156 : Cond.fieldLink RX8 156 "FishingKites$Day" "upHours" "[I" ∈ BIG := mB_1 (List.mem_of_getElem? (i := 192) rfl) rfl
theorem kFL_X1_21 : Cond.fieldLink RX1 21 "FishingKites$Day" "gaveWay" "[I" ∈ BIG := mB_1 (List.mem_of_getElem? (i := 193) rfl) rfl
theorem kFL_X8_159 : Cond.fieldLink RX8 159 "FishingKites$Day" "gaveWay" "[I" ∈ BIG := mB_1 (List.mem_of_getElem? (i := 194) rfl) rfl
theorem kFL_X1_24 : Cond.fieldLink RX1 24 "FishingKites$Day" "left" "[I" ∈ BIG := mB_1 (List.mem_of_getElem? (i := 195) rfl) rfl
theorem kFL_X8_130 : Cond.fieldLink RX8 130 "FishingKites$Day" "left" "[I" ∈ BIG := mB_1 (List.mem_of_getElem? (i := 196) rfl) rfl
theorem kFL_X1_27 : Cond.fieldLink RX1 27 "FishingKites$Day" "notes" "[I" ∈ BIG := mB_1 (List.mem_of_getElem? (i := 197) rfl) rfl
theorem kFL_X8_197 : Cond.fieldLink RX8 197 "FishingKites$Day" "notes" "[I" ∈ BIG := mB_1 (List.mem_of_getElem? (i := 198) rfl) rfl
theorem kAO_X1 : Cond.arrayOver (.object "FishingKites$Day") ∈ lw_tbl := mT_1 (List.mem_of_getElem? (i := 222) rfl)
theorem kCL_X8_47 : Cond.classLink RX8 47 RX5 ∈ BIG := mB_1 (List.mem_of_getElem? (i := 223) rfl) rfl
theorem kIS_X5 : Cond.instantiable RX5 5 ∈ BIG := mB_1 (List.mem_of_getElem? (i := 224) rfl) rfl
theorem kNM_X8_49 : Cond.methodLinkNest RX8 49 yX5_init "FishingKites" ∈ lw_tbl := mT_1 (List.mem_of_getElem? (i := 225) rfl)
theorem kIM_X5_init : Cond.instanceMethod yX5_init ∈ BIG := mB_1 (List.mem_of_getElem? (i := 226) rfl) rfl
theorem kCD_X5_init : Cond.code yX5_init cX5_init 1 none ∈ BIG := mB_1 (List.mem_of_getElem? (i := 227) rfl) rfl
theorem kML_X5_3 : Cond.methodLink RX5 3 objectInit ∈ BIG := mB_1 (List.mem_of_getElem? (i := 228) rfl) rfl
theorem kFL_X5_18 : Cond.fieldLink RX5 18 "FishingKites$Search" "found" "Z" ∈ BIG := mB_1 (List.mem_of_getElem? (i := 229) rfl) rfl
theorem kFL_X5_38 : Cond.fieldLink RX5 38 "FishingKites$Search" "most" "I" ∈ BIG := mB_1 (List.mem_of_getElem? (i := 230) rfl) rfl
theorem kFL_X8_204 : Cond.fieldLink RX8 204 "FishingKites$Search" "most" "I" ∈ BIG := mB_1 (List.mem_of_getElem? (i := 231) rfl) rfl
theorem kFL_X5_22 : Cond.fieldLink RX5 22 "FishingKites$Search" "plan" "I" ∈ BIG := mB_1 (List.mem_of_getElem? (i := 232) rfl) rfl
theorem kFL_X5_9 : Cond.fieldLink RX5 9 "FishingKites$Search" "bound" "[I" ∈ BIG := mB_1 (List.mem_of_getElem? (i := 233) rfl) rfl
theorem kFL_X5_15 : Cond.fieldLink RX5 15 "FishingKites$Search" "boundBehind" "[I" ∈ BIG := mB_1 (List.mem_of_getElem? (i := 234) rfl) rfl
theorem kCL_X8_57 : Cond.classLink RX8 57 RX3 ∈ BIG := mB_2 (List.mem_of_getElem? (i := 6) rfl) rfl
theorem kIS_X3 : Cond.instantiable RX3 2 ∈ BIG := mB_2 (List.mem_of_getElem? (i := 7) rfl) rfl
theorem kNM_X8_59 : Cond.methodLinkNest RX8 59 yX3_init "FishingKites" ∈ lw_tbl := mT_2 (List.mem_of_getElem? (i := 8) rfl)
theorem kIM_X3_init : Cond.instanceMethod yX3_init ∈ BIG := mB_2 (List.mem_of_getElem? (i := 9) rfl) rfl
theorem kCD_X3_init : Cond.code yX3_init cX3_init 1 none ∈ BIG := mB_2 (List.mem_of_getElem? (i := 10) rfl) rfl
theorem kML_X3_3 : Cond.methodLink RX3 3 objectInit ∈ BIG := mB_2 (List.mem_of_getElem? (i := 11) rfl) rfl
theorem kFL_X3_9 : Cond.fieldLink RX3 9 "FishingKites$Odds" "weights" "[J" ∈ BIG := mB_2 (List.mem_of_getElem? (i := 12) rfl) rfl
theorem kFL_X3_15 : Cond.fieldLink RX3 15 "FishingKites$Odds" "drifted" "[J" ∈ BIG := mB_2 (List.mem_of_getElem? (i := 13) rfl) rfl
theorem kAC_long : Cond.arrayClass .long ∈ BIG := mB_2 (List.mem_of_getElem? (i := 19) rfl) rfl
theorem kFL_X8_12 : Cond.fieldLink RX8 12 "FishingKites" "text" "LFishingKites$Text;" ∈ BIG := mB_2 (List.mem_of_getElem? (i := 20) rfl) rfl
theorem kFL_X8_19 : Cond.fieldLink RX8 19 "FishingKites" "sea" "LFishingKites$Sea;" ∈ BIG := mB_2 (List.mem_of_getElem? (i := 21) rfl) rfl
theorem kFL_X8_26 : Cond.fieldLink RX8 26 "FishingKites" "chart" "LFishingKites$Chart;" ∈ BIG := mB_2 (List.mem_of_getElem? (i := 22) rfl) rfl
theorem kFL_X8_33 : Cond.fieldLink RX8 33 "FishingKites" "day" "LFishingKites$Day;" ∈ BIG := mB_2 (List.mem_of_getElem? (i := 23) rfl) rfl
theorem kFL_X8_37 : Cond.fieldLink RX8 37 "FishingKites" "morning" "LFishingKites$Day;" ∈ BIG := mB_2 (List.mem_of_getElem? (i := 24) rfl) rfl
theorem kFL_X8_40 : Cond.fieldLink RX8 40 "FishingKites" "trial" "LFishingKites$Day;" ∈ BIG := mB_2 (List.mem_of_getElem? (i := 25) rfl) rfl
theorem kFL_X8_43 : Cond.fieldLink RX8 43 "FishingKites" "kept" "[LFishingKites$Day;" ∈ BIG := mB_2 (List.mem_of_getElem? (i := 26) rfl) rfl
theorem kFL_X8_91 : Cond.fieldLink RX8 91 "FishingKites" "keptBits" "I" ∈ BIG := mB_2 (List.mem_of_getElem? (i := 27) rfl) rfl
theorem kFL_X8_50 : Cond.fieldLink RX8 50 "FishingKites" "hourSearch" "LFishingKites$Search;" ∈ BIG := mB_2 (List.mem_of_getElem? (i := 28) rfl) rfl
theorem kFL_X8_54 : Cond.fieldLink RX8 54 "FishingKites" "daySearch" "LFishingKites$Search;" ∈ BIG := mB_2 (List.mem_of_getElem? (i := 29) rfl) rfl
theorem kFL_X8_60 : Cond.fieldLink RX8 60 "FishingKites" "odds" "LFishingKites$Odds;" ∈ BIG := mB_2 (List.mem_of_getElem? (i := 30) rfl) rfl
theorem kML_L_15 : Cond.methodLink RL 15 yX8_write ∈ BIG := mB_2 (List.mem_of_getElem? (i := 54) rfl) rfl
theorem kIM_X8_write : Cond.instanceMethod yX8_write ∈ BIG := mB_2 (List.mem_of_getElem? (i := 55) rfl) rfl
theorem kSE_X8_write : Cond.selects RX8 yX8_write yX8_write ∈ BIG := mB_2 (List.mem_of_getElem? (i := 56) rfl) rfl
theorem kCD_X8_write : Cond.code yX8_write cX8_write 4 (Option.some .int) ∈ BIG := mB_2 (List.mem_of_getElem? (i := 57) rfl) rfl
theorem kML_X8_64 : Cond.methodLink RX8 64 yX7_hasRoom ∈ BIG := mB_2 (List.mem_of_getElem? (i := 58) rfl) rfl
theorem kIM_X7_hasRoom : Cond.instanceMethod yX7_hasRoom ∈ BIG := mB_2 (List.mem_of_getElem? (i := 59) rfl) rfl
theorem kSE_X7_hasRoom : Cond.selects RX7 yX7_hasRoom yX7_hasRoom ∈ BIG := mB_2 (List.mem_of_getElem? (i := 60) rfl) rfl
theorem kCD_X7_hasRoom : Cond.code yX7_hasRoom cX7_hasRoom 2 (Option.some .boolean) ∈ BIG := mB_2 (List.mem_of_getElem? (i := 61) rfl) rfl
theorem kML_X8_68 : Cond.methodLink RX8 68 yX7_append ∈ BIG := mB_2 (List.mem_of_getElem? (i := 62) rfl) rfl
theorem kIM_X7_append : Cond.instanceMethod yX7_append ∈ BIG := mB_2 (List.mem_of_getElem? (i := 63) rfl) rfl
theorem kSE_X7_append : Cond.selects RX7 yX7_append yX7_append ∈ BIG := mB_2 (List.mem_of_getElem? (i := 64) rfl) rfl
theorem kCD_X7_append : Cond.code yX7_append cX7_append 5 none ∈ BIG := mB_2 (List.mem_of_getElem? (i := 65) rfl) rfl
theorem kCO_X7_22 : Cond.constantLong RX7 22 255 ∈ BIG := mB_2 (List.mem_of_getElem? (i := 66) rfl) rfl
theorem kML_L_20 : Cond.methodLink RL 20 yX8_erase ∈ BIG := mB_2 (List.mem_of_getElem? (i := 67) rfl) rfl
theorem kIM_X8_erase : Cond.instanceMethod yX8_erase ∈ BIG := mB_2 (List.mem_of_getElem? (i := 68) rfl) rfl
theorem kSE_X8_erase : Cond.selects RX8 yX8_erase yX8_erase ∈ BIG := mB_2 (List.mem_of_getElem? (i := 69) rfl) rfl
theorem kCD_X8_erase : Cond.code yX8_erase cX8_erase 2 (Option.some .int) ∈ BIG := mB_2 (List.mem_of_getElem? (i := 70) rfl) rfl
theorem kML_L_25 : Cond.methodLink RL 25 yX8_fault ∈ BIG := mB_2 (List.mem_of_getElem? (i := 71) rfl) rfl
theorem kIM_X8_fault : Cond.instanceMethod yX8_fault ∈ BIG := mB_2 (List.mem_of_getElem? (i := 72) rfl) rfl
theorem kSE_X8_fault : Cond.selects RX8 yX8_fault yX8_fault ∈ BIG := mB_2 (List.mem_of_getElem? (i := 73) rfl) rfl
theorem kCD_X8_fault : Cond.code yX8_fault cX8_fault 1 (Option.some .int) ∈ BIG := mB_2 (List.mem_of_getElem? (i := 74) rfl) rfl
theorem kML_X8_76 : Cond.methodLink RX8 76 yX7_readInto ∈ BIG := mB_2 (List.mem_of_getElem? (i := 75) rfl) rfl
theorem kIM_X7_readInto : Cond.instanceMethod yX7_readInto ∈ BIG := mB_2 (List.mem_of_getElem? (i := 76) rfl) rfl
theorem kSE_X7_readInto : Cond.selects RX7 yX7_readInto yX7_readInto ∈ BIG := mB_2 (List.mem_of_getElem? (i := 77) rfl) rfl
theorem kCD_X7_readInto : Cond.code yX7_readInto cX7_readInto 4 (Option.some .int) ∈ BIG := mB_2 (List.mem_of_getElem? (i := 78) rfl) rfl
theorem kML_X7_30 : Cond.methodLink RX7 30 yX7_skipBlanks ∈ BIG := mB_2 (List.mem_of_getElem? (i := 79) rfl) rfl
theorem kIM_X7_skipBlanks : Cond.instanceMethod yX7_skipBlanks ∈ BIG := mB_2 (List.mem_of_getElem? (i := 80) rfl) rfl
theorem kSE_X7_skipBlanks : Cond.selects RX7 yX7_skipBlanks yX7_skipBlanks ∈ BIG := mB_2 (List.mem_of_getElem? (i := 81) rfl) rfl
theorem kCD_X7_skipBlanks : Cond.code yX7_skipBlanks cX7_skipBlanks 2 none ∈ BIG := mB_2 (List.mem_of_getElem? (i := 82) rfl) rfl
theorem kML_X7_47 : Cond.methodLink RX7 47 yX7_peek ∈ BIG := mB_2 (List.mem_of_getElem? (i := 83) rfl) rfl
theorem kIM_X7_peek : Cond.instanceMethod yX7_peek ∈ BIG := mB_2 (List.mem_of_getElem? (i := 84) rfl) rfl
theorem kSE_X7_peek : Cond.selects RX7 yX7_peek yX7_peek ∈ BIG := mB_2 (List.mem_of_getElem? (i := 85) rfl) rfl
theorem kCD_X7_peek : Cond.code yX7_peek cX7_peek 2 (Option.some .int) ∈ BIG := mB_2 (List.mem_of_getElem? (i := 86) rfl) rfl
theorem kML_X7_33 : Cond.methodLink RX7 33 yX7_readWord ∈ BIG := mB_2 (List.mem_of_getElem? (i := 87) rfl) rfl
theorem kIM_X7_readWord : Cond.instanceMethod yX7_readWord ∈ BIG := mB_2 (List.mem_of_getElem? (i := 88) rfl) rfl
theorem kSE_X7_readWord : Cond.selects RX7 yX7_readWord yX7_readWord ∈ BIG := mB_2 (List.mem_of_getElem? (i := 89) rfl) rfl
theorem kCD_X7_readWord : Cond.code yX7_readWord cX7_readWord 3 (Option.some .int) ∈ BIG := mB_2 (List.mem_of_getElem? (i := 90) rfl) rfl
theorem kML_X7_51 : Cond.methodLink RX7 51 yX7_isLetter ∈ BIG := mB_2 (List.mem_of_getElem? (i := 91) rfl) rfl
theorem kST_X7_isLetter : Cond.static yX7_isLetter ∈ BIG := mB_2 (List.mem_of_getElem? (i := 92) rfl) rfl
theorem kCD_X7_isLetter : Cond.code yX7_isLetter cX7_isLetter 1 (Option.some .boolean) ∈ BIG := mB_2 (List.mem_of_getElem? (i := 93) rfl) rfl
theorem kML_X7_54 : Cond.methodLink RX7 54 yX7_nameOf ∈ BIG := mB_2 (List.mem_of_getElem? (i := 94) rfl) rfl
theorem kST_X7_nameOf : Cond.static yX7_nameOf ∈ BIG := mB_2 (List.mem_of_getElem? (i := 95) rfl) rfl
theorem kCD_X7_nameOf : Cond.code yX7_nameOf cX7_nameOf 1 (Option.some (.object "java/lang/String")) ∈ BIG := mB_2 (List.mem_of_getElem? (i := 96) rfl) rfl
theorem kSR_X7_90 : Cond.stringRef RX7 90 "wind" ∈ lw_tbl := mT_2 (List.mem_of_getElem? (i := 97) rfl)
theorem kSR_X7_92 : Cond.stringRef RX7 92 "kite" ∈ lw_tbl := mT_2 (List.mem_of_getElem? (i := 98) rfl)
theorem kSR_X7_94 : Cond.stringRef RX7 94 "shoal" ∈ lw_tbl := mT_2 (List.mem_of_getElem? (i := 99) rfl)
theorem kSR_X7_96 : Cond.stringRef RX7 96 "law" ∈ lw_tbl := mT_2 (List.mem_of_getElem? (i := 100) rfl)
theorem kSR_X7_98 : Cond.stringRef RX7 98 "stock" ∈ lw_tbl := mT_2 (List.mem_of_getElem? (i := 101) rfl)
theorem kSR_X7_100 : Cond.stringRef RX7 100 "fog" ∈ lw_tbl := mT_2 (List.mem_of_getElem? (i := 102) rfl)
theorem kSR_X7_102 : Cond.stringRef RX7 102 "gulls" ∈ lw_tbl := mT_2 (List.mem_of_getElem? (i := 103) rfl)
theorem kSR_X7_104 : Cond.stringRef RX7 104 "calm" ∈ lw_tbl := mT_2 (List.mem_of_getElem? (i := 104) rfl)
theorem kSR_X7_106 : Cond.stringRef RX7 106 "lost" ∈ lw_tbl := mT_2 (List.mem_of_getElem? (i := 105) rfl)
theorem kML_X7_58 : Cond.methodLink RX7 58 yX7_isSpelled ∈ BIG := mB_2 (List.mem_of_getElem? (i := 106) rfl) rfl
theorem kIM_X7_isSpelled : Cond.instanceMethod yX7_isSpelled ∈ BIG := mB_2 (List.mem_of_getElem? (i := 107) rfl) rfl
theorem kSE_X7_isSpelled : Cond.selects RX7 yX7_isSpelled yX7_isSpelled ∈ BIG := mB_2 (List.mem_of_getElem? (i := 108) rfl) rfl
theorem kCD_X7_isSpelled : Cond.code yX7_isSpelled cX7_isSpelled 4 (Option.some .boolean) ∈ BIG := mB_2 (List.mem_of_getElem? (i := 109) rfl) rfl
theorem kML_X7_62 : Cond.methodLink RX7 62 yJ0_length_8abf5 ∈ BIG := mB_2 (List.mem_of_getElem? (i := 110) rfl) rfl
theorem kIM_J0_length_8abf5 : Cond.instanceMethod yJ0_length_8abf5 ∈ BIG := mB_2 (List.mem_of_getElem? (i := 111) rfl) rfl
theorem kSE_J0_length_8abf5 : Cond.selects RJ0 yJ0_length_8abf5 yJ0_length_8abf5 ∈ BIG := mB_2 (List.mem_of_getElem? (i := 112) rfl) rfl
theorem kCD_J0_length_8abf5 : Cond.code yJ0_length_8abf5 cJ0_length_8abf5 1 (Option.some .int) ∈ BIG := mB_2 (List.mem_of_getElem? (i := 113) rfl) rfl
theorem kML_J0_335 : Cond.methodLink RJ0 335 yJ0_coder_7d493 ∈ BIG := mB_2 (List.mem_of_getElem? (i := 114) rfl) rfl
theorem kIM_J0_coder_7d493 : Cond.instanceMethod yJ0_coder_7d493 ∈ BIG := mB_2 (List.mem_of_getElem? (i := 115) rfl) rfl
theorem kSE_J0_coder_7d493 : Cond.selects RJ0 yJ0_coder_7d493 yJ0_coder_7d493 ∈ BIG := mB_2 (List.mem_of_getElem? (i := 116) rfl) rfl
theorem kCD_J0_coder_7d493 : Cond.code yJ0_coder_7d493 cJ0_coder_7d493 1 (Option.some .byte) ∈ BIG := mB_2 (List.mem_of_getElem? (i := 117) rfl) rfl
theorem kFL_J0_38 : Cond.fieldLink RJ0 38 "java/lang/String" "COMPACT_STRINGS" "Z" ∈ BIG := mB_2 (List.mem_of_getElem? (i := 118) rfl) rfl
theorem kLS_COMPACT_STRINGS : Cond.laysStatic "java/lang/String" "COMPACT_STRINGS" "Z" ∈ lw_tbl := mT_2 (List.mem_of_getElem? (i := 119) rfl)
theorem kML_X7_66 : Cond.methodLink RX7 66 yJ0_charAt_5068e ∈ BIG := mB_2 (List.mem_of_getElem? (i := 120) rfl) rfl
theorem kIM_J0_charAt_5068e : Cond.instanceMethod yJ0_charAt_5068e ∈ BIG := mB_2 (List.mem_of_getElem? (i := 121) rfl) rfl
theorem kSE_J0_charAt_5068e : Cond.selects RJ0 yJ0_charAt_5068e yJ0_charAt_5068e ∈ BIG := mB_2 (List.mem_of_getElem? (i := 122) rfl) rfl
theorem kCD_J0_charAt_5068e : Cond.code yJ0_charAt_5068e cJ0_charAt_5068e 2 (Option.some .char) ∈ BIG := mB_2 (List.mem_of_getElem? (i := 123) rfl) rfl
theorem kML_J0_492 : Cond.methodLink RJ0 492 yJ0_isLatin1_aae02 ∈ BIG := mB_2 (List.mem_of_getElem? (i := 124) rfl) rfl
theorem kIM_J0_isLatin1_aae02 : Cond.instanceMethod yJ0_isLatin1_aae02 ∈ BIG := mB_2 (List.mem_of_getElem? (i := 125) rfl) rfl
theorem kSE_J0_isLatin1_aae02 : Cond.selects RJ0 yJ0_isLatin1_aae02 yJ0_isLatin1_aae02 ∈ BIG := mB_2 (List.mem_of_getElem? (i := 126) rfl) rfl
theorem kCD_J0_isLatin1_aae02 : Cond.code yJ0_isLatin1_aae02 cJ0_isLatin1_aae02 1 (Option.some .boolean) ∈ BIG := mB_2 (List.mem_of_getElem? (i := 127) rfl) rfl
theorem kML_J0_495 : Cond.methodLink RJ0 495 yJ1_charAt_3b067 ∈ BIG := mB_2 (List.mem_of_getElem? (i := 128) rfl) rfl
theorem kST_J1_charAt_3b067 : Cond.static yJ1_charAt_3b067 ∈ BIG := mB_2 (List.mem_of_getElem? (i := 129) rfl) rfl
theorem kCD_J1_charAt_3b067 : Cond.code yJ1_charAt_3b067 cJ1_charAt_3b067 2 (Option.some .char) ∈ BIG := mB_2 (List.mem_of_getElem? (i := 130) rfl) rfl
theorem kML_J1_9 : Cond.methodLink RJ1 9 yJ0_checkIndex_df160 ∈ BIG := mB_2 (List.mem_of_getElem? (i := 131) rfl) rfl
theorem kST_J0_checkIndex_df160 : Cond.static yJ0_checkIndex_df160 ∈ BIG := mB_2 (List.mem_of_getElem? (i := 132) rfl) rfl
theorem kCD_J0_checkIndex_df160 : Cond.code yJ0_checkIndex_df160 cJ0_checkIndex_df160 2 none ∈ BIG := mB_2 (List.mem_of_getElem? (i := 133) rfl) rfl
theorem kFL_J0_1053 : Cond.fieldLink RJ0 1053 "jdk/internal/util/Preconditions" "SIOOBE_FORMATTER" "Ljava/util/function/BiFunction;" ∈ BIG := mB_2 (List.mem_of_getElem? (i := 134) rfl) rfl
theorem kLS_SIOOBE_FORMATTER : Cond.laysStatic "jdk/internal/util/Preconditions" "SIOOBE_FORMATTER" "Ljava/util/function/BiFunction;" ∈ lw_tbl := mT_2 (List.mem_of_getElem? (i := 135) rfl)
theorem kML_J0_1059 : Cond.methodLink RJ0 1059 yJ3_checkIndex_8e157 ∈ BIG := mB_2 (List.mem_of_getElem? (i := 136) rfl) rfl
theorem kST_J3_checkIndex_8e157 : Cond.static yJ3_checkIndex_8e157 ∈ BIG := mB_2 (List.mem_of_getElem? (i := 137) rfl) rfl
theorem kCD_J3_checkIndex_8e157 : Cond.code yJ3_checkIndex_8e157 cJ3_checkIndex_8e157 3 (Option.some .int) ∈ BIG := mB_2 (List.mem_of_getElem? (i := 138) rfl) rfl
theorem kML_J0_498 : Cond.methodLink RJ0 498 yJ2_charAt_3b067 ∈ BIG := mB_2 (List.mem_of_getElem? (i := 139) rfl) rfl
theorem kST_J2_charAt_3b067 : Cond.static yJ2_charAt_3b067 ∈ BIG := mB_2 (List.mem_of_getElem? (i := 140) rfl) rfl
theorem kCD_J2_charAt_3b067 : Cond.code yJ2_charAt_3b067 cJ2_charAt_3b067 2 (Option.some .char) ∈ BIG := mB_2 (List.mem_of_getElem? (i := 141) rfl) rfl
theorem kML_J2_67 : Cond.methodLink RJ2 67 yJ2_checkIndex_2214a ∈ BIG := mB_2 (List.mem_of_getElem? (i := 142) rfl) rfl
theorem kST_J2_checkIndex_2214a : Cond.static yJ2_checkIndex_2214a ∈ BIG := mB_2 (List.mem_of_getElem? (i := 143) rfl) rfl
theorem kCD_J2_checkIndex_2214a : Cond.code yJ2_checkIndex_2214a cJ2_checkIndex_2214a 2 none ∈ BIG := mB_2 (List.mem_of_getElem? (i := 144) rfl) rfl
theorem kML_J2_48 : Cond.methodLink RJ2 48 yJ2_length_9d52b ∈ BIG := mB_2 (List.mem_of_getElem? (i := 145) rfl) rfl
theorem kST_J2_length_9d52b : Cond.static yJ2_length_9d52b ∈ BIG := mB_2 (List.mem_of_getElem? (i := 146) rfl) rfl
theorem kCD_J2_length_9d52b : Cond.code yJ2_length_9d52b cJ2_length_9d52b 1 (Option.some .int) ∈ BIG := mB_2 (List.mem_of_getElem? (i := 147) rfl) rfl
theorem kML_J2_414 : Cond.methodLink RJ2 414 yJ0_checkIndex_df160 ∈ BIG := mB_2 (List.mem_of_getElem? (i := 148) rfl) rfl
theorem kML_J2_71 : Cond.methodLink RJ2 71 yJ2_getChar_3b067 ∈ BIG := mB_2 (List.mem_of_getElem? (i := 149) rfl) rfl
theorem kST_J2_getChar_3b067 : Cond.static yJ2_getChar_3b067 ∈ BIG := mB_2 (List.mem_of_getElem? (i := 150) rfl) rfl
theorem kCD_J2_getChar_3b067 : Cond.code yJ2_getChar_3b067 cJ2_getChar_3b067 2 (Option.some .char) ∈ BIG := mB_2 (List.mem_of_getElem? (i := 151) rfl) rfl
theorem kFL_J2_44 : Cond.fieldLink RJ2 44 "java/lang/StringUTF16" "$assertionsDisabled" "Z" ∈ BIG := mB_2 (List.mem_of_getElem? (i := 152) rfl) rfl
theorem kLS__assertionsDisabled : Cond.laysStatic "java/lang/StringUTF16" "$assertionsDisabled" "Z" ∈ lw_tbl := mT_2 (List.mem_of_getElem? (i := 153) rfl)
theorem kFL_J2_59 : Cond.fieldLink RJ2 59 "java/lang/StringUTF16" "HI_BYTE_SHIFT" "I" ∈ BIG := mB_2 (List.mem_of_getElem? (i := 154) rfl) rfl
theorem kLS_HI_BYTE_SHIFT : Cond.laysStatic "java/lang/StringUTF16" "HI_BYTE_SHIFT" "I" ∈ lw_tbl := mT_2 (List.mem_of_getElem? (i := 155) rfl)
theorem kFL_J2_63 : Cond.fieldLink RJ2 63 "java/lang/StringUTF16" "LO_BYTE_SHIFT" "I" ∈ BIG := mB_2 (List.mem_of_getElem? (i := 156) rfl) rfl
theorem kLS_LO_BYTE_SHIFT : Cond.laysStatic "java/lang/StringUTF16" "LO_BYTE_SHIFT" "I" ∈ lw_tbl := mT_2 (List.mem_of_getElem? (i := 157) rfl)
theorem kML_X7_37 : Cond.methodLink RX7 37 yX7_readNumbers ∈ BIG := mB_2 (List.mem_of_getElem? (i := 158) rfl) rfl
theorem kIM_X7_readNumbers : Cond.instanceMethod yX7_readNumbers ∈ BIG := mB_2 (List.mem_of_getElem? (i := 159) rfl) rfl
theorem kSE_X7_readNumbers : Cond.selects RX7 yX7_readNumbers yX7_readNumbers ∈ BIG := mB_2 (List.mem_of_getElem? (i := 160) rfl) rfl
theorem kCD_X7_readNumbers : Cond.code yX7_readNumbers cX7_readNumbers 7 (Option.some .boolean) ∈ BIG := mB_2 (List.mem_of_getElem? (i := 161) rfl) rfl
theorem kNF_X7_70 : Cond.fieldLinkNest RX7 70 "FishingKites" "NUMBERS_FROM" "[I" "FishingKites" ∈ lw_tbl := mT_2 (List.mem_of_getElem? (i := 162) rfl)
theorem kLS_NUMBERS_FROM : Cond.laysStatic "FishingKites" "NUMBERS_FROM" "[I" ∈ lw_tbl := mT_2 (List.mem_of_getElem? (i := 163) rfl)
theorem kML_X7_73 : Cond.methodLink RX7 73 yX7_isEndOfHours ∈ BIG := mB_2 (List.mem_of_getElem? (i := 164) rfl) rfl
theorem kST_X7_isEndOfHours : Cond.static yX7_isEndOfHours ∈ BIG := mB_2 (List.mem_of_getElem? (i := 165) rfl) rfl
theorem kCD_X7_isEndOfHours : Cond.code yX7_isEndOfHours cX7_isEndOfHours 2 (Option.some .boolean) ∈ BIG := mB_2 (List.mem_of_getElem? (i := 166) rfl) rfl
theorem kNF_X7_77 : Cond.fieldLinkNest RX7 77 "FishingKites" "LEAST" "[I" "FishingKites" ∈ lw_tbl := mT_2 (List.mem_of_getElem? (i := 167) rfl)
theorem kLS_LEAST : Cond.laysStatic "FishingKites" "LEAST" "[I" ∈ lw_tbl := mT_2 (List.mem_of_getElem? (i := 168) rfl)
theorem kNF_X7_80 : Cond.fieldLinkNest RX7 80 "FishingKites" "MOST" "[I" "FishingKites" ∈ lw_tbl := mT_2 (List.mem_of_getElem? (i := 169) rfl)
theorem kLS_MOST : Cond.laysStatic "FishingKites" "MOST" "[I" ∈ lw_tbl := mT_2 (List.mem_of_getElem? (i := 170) rfl)
theorem kML_X7_83 : Cond.methodLink RX7 83 yX7_readNumber ∈ BIG := mB_2 (List.mem_of_getElem? (i := 171) rfl) rfl
theorem kIM_X7_readNumber : Cond.instanceMethod yX7_readNumber ∈ BIG := mB_2 (List.mem_of_getElem? (i := 172) rfl) rfl
theorem kSE_X7_readNumber : Cond.selects RX7 yX7_readNumber yX7_readNumber ∈ BIG := mB_2 (List.mem_of_getElem? (i := 173) rfl) rfl
theorem kCD_X7_readNumber : Cond.code yX7_readNumber cX7_readNumber 6 (Option.some .int) ∈ BIG := mB_2 (List.mem_of_getElem? (i := 174) rfl) rfl
theorem kML_X7_87 : Cond.methodLink RX7 87 yX7_isDigit ∈ BIG := mB_2 (List.mem_of_getElem? (i := 175) rfl) rfl
theorem kST_X7_isDigit : Cond.static yX7_isDigit ∈ BIG := mB_2 (List.mem_of_getElem? (i := 176) rfl) rfl
theorem kCD_X7_isDigit : Cond.code yX7_isDigit cX7_isDigit 1 (Option.some .boolean) ∈ BIG := mB_2 (List.mem_of_getElem? (i := 177) rfl) rfl
theorem kML_X7_41 : Cond.methodLink RX7 41 yX4_tell ∈ BIG := mB_2 (List.mem_of_getElem? (i := 178) rfl) rfl
theorem kIM_X4_tell : Cond.instanceMethod yX4_tell ∈ BIG := mB_2 (List.mem_of_getElem? (i := 179) rfl) rfl
theorem kSE_X4_tell : Cond.selects RX4 yX4_tell yX4_tell ∈ BIG := mB_2 (List.mem_of_getElem? (i := 180) rfl) rfl
theorem kCD_X4_tell : Cond.code yX4_tell cX4_tell 3 none ∈ BIG := mB_2 (List.mem_of_getElem? (i := 181) rfl) rfl
theorem kML_X4_36 : Cond.methodLink RX4 36 yX4_tellWind ∈ BIG := mB_2 (List.mem_of_getElem? (i := 182) rfl) rfl
theorem kIM_X4_tellWind : Cond.instanceMethod yX4_tellWind ∈ BIG := mB_2 (List.mem_of_getElem? (i := 183) rfl) rfl
theorem kSE_X4_tellWind : Cond.selects RX4 yX4_tellWind yX4_tellWind ∈ BIG := mB_2 (List.mem_of_getElem? (i := 184) rfl) rfl
theorem kCD_X4_tellWind : Cond.code yX4_tellWind cX4_tellWind 4 none ∈ BIG := mB_2 (List.mem_of_getElem? (i := 185) rfl) rfl
theorem kNM_X4_63 : Cond.methodLinkNest RX4 63 yX8_isHeight "FishingKites" ∈ lw_tbl := mT_2 (List.mem_of_getElem? (i := 186) rfl)
theorem kST_X8_isHeight : Cond.static yX8_isHeight ∈ BIG := mB_2 (List.mem_of_getElem? (i := 187) rfl) rfl
theorem kCD_X8_isHeight : Cond.code yX8_isHeight cX8_isHeight 1 (Option.some .boolean) ∈ BIG := mB_2 (List.mem_of_getElem? (i := 188) rfl) rfl
theorem kML_X4_40 : Cond.methodLink RX4 40 yX4_tellKite ∈ BIG := mB_2 (List.mem_of_getElem? (i := 189) rfl) rfl
theorem kIM_X4_tellKite : Cond.instanceMethod yX4_tellKite ∈ BIG := mB_2 (List.mem_of_getElem? (i := 190) rfl) rfl
theorem kSE_X4_tellKite : Cond.selects RX4 yX4_tellKite yX4_tellKite ∈ BIG := mB_2 (List.mem_of_getElem? (i := 191) rfl) rfl
theorem kCD_X4_tellKite : Cond.code yX4_tellKite cX4_tellKite 3 none ∈ BIG := mB_2 (List.mem_of_getElem? (i := 192) rfl) rfl
theorem kML_X4_43 : Cond.methodLink RX4 43 yX4_tellShoal ∈ BIG := mB_2 (List.mem_of_getElem? (i := 193) rfl) rfl
theorem kIM_X4_tellShoal : Cond.instanceMethod yX4_tellShoal ∈ BIG := mB_2 (List.mem_of_getElem? (i := 194) rfl) rfl
theorem kSE_X4_tellShoal : Cond.selects RX4 yX4_tellShoal yX4_tellShoal ∈ BIG := mB_2 (List.mem_of_getElem? (i := 195) rfl) rfl
theorem kCD_X4_tellShoal : Cond.code yX4_tellShoal cX4_tellShoal 3 none ∈ BIG := mB_2 (List.mem_of_getElem? (i := 196) rfl) rfl
theorem kML_X4_49 : Cond.methodLink RX4 49 yX4_tellFog ∈ BIG := mB_2 (List.mem_of_getElem? (i := 197) rfl) rfl
theorem kIM_X4_tellFog : Cond.instanceMethod yX4_tellFog ∈ BIG := mB_2 (List.mem_of_getElem? (i := 198) rfl) rfl
theorem kSE_X4_tellFog : Cond.selects RX4 yX4_tellFog yX4_tellFog ∈ BIG := mB_2 (List.mem_of_getElem? (i := 199) rfl) rfl
theorem kCD_X4_tellFog : Cond.code yX4_tellFog cX4_tellFog 4 none ∈ BIG := mB_2 (List.mem_of_getElem? (i := 200) rfl) rfl
theorem kML_X4_56 : Cond.methodLink RX4 56 yX4_tellCalm ∈ BIG := mB_2 (List.mem_of_getElem? (i := 201) rfl) rfl
theorem kIM_X4_tellCalm : Cond.instanceMethod yX4_tellCalm ∈ BIG := mB_2 (List.mem_of_getElem? (i := 202) rfl) rfl
theorem kSE_X4_tellCalm : Cond.selects RX4 yX4_tellCalm yX4_tellCalm ∈ BIG := mB_2 (List.mem_of_getElem? (i := 203) rfl) rfl
theorem kCD_X4_tellCalm : Cond.code yX4_tellCalm cX4_tellCalm 1 none ∈ BIG := mB_2 (List.mem_of_getElem? (i := 204) rfl) rfl
theorem kML_X4_105 : Cond.methodLink RX4 105 yJ7_fill_53178 ∈ BIG := mB_2 (List.mem_of_getElem? (i := 205) rfl) rfl
theorem kST_J7_fill_53178 : Cond.static yJ7_fill_53178 ∈ BIG := mB_2 (List.mem_of_getElem? (i := 206) rfl) rfl
theorem kCD_J7_fill_53178 : Cond.code yJ7_fill_53178 cJ7_fill_53178 4 none ∈ BIG := mB_2 (List.mem_of_getElem? (i := 207) rfl) rfl
theorem kML_X4_59 : Cond.methodLink RX4 59 yX4_tellLost ∈ BIG := mB_2 (List.mem_of_getElem? (i := 208) rfl) rfl
theorem kIM_X4_tellLost : Cond.instanceMethod yX4_tellLost ∈ BIG := mB_2 (List.mem_of_getElem? (i := 209) rfl) rfl
theorem kSE_X4_tellLost : Cond.selects RX4 yX4_tellLost yX4_tellLost ∈ BIG := mB_2 (List.mem_of_getElem? (i := 210) rfl) rfl
theorem kCD_X4_tellLost : Cond.code yX4_tellLost cX4_tellLost 2 none ∈ BIG := mB_2 (List.mem_of_getElem? (i := 211) rfl) rfl
theorem kAC_byte : Cond.arrayClass .byte ∈ BIG := mB_2 (List.mem_of_getElem? (i := 212) rfl) rfl
theorem kML_L_29 : Cond.methodLink RL 29 yX8_cliff ∈ BIG := mB_2 (List.mem_of_getElem? (i := 213) rfl) rfl
theorem kIM_X8_cliff : Cond.instanceMethod yX8_cliff ∈ BIG := mB_2 (List.mem_of_getElem? (i := 214) rfl) rfl
theorem kSE_X8_cliff : Cond.selects RX8 yX8_cliff yX8_cliff ∈ BIG := mB_2 (List.mem_of_getElem? (i := 215) rfl) rfl
theorem kCD_X8_cliff : Cond.code yX8_cliff cX8_cliff 1 (Option.some .int) ∈ BIG := mB_2 (List.mem_of_getElem? (i := 216) rfl) rfl
theorem kML_X8_80 : Cond.methodLink RX8 80 yX0_draw ∈ BIG := mB_2 (List.mem_of_getElem? (i := 217) rfl) rfl
theorem kIM_X0_draw : Cond.instanceMethod yX0_draw ∈ BIG := mB_2 (List.mem_of_getElem? (i := 218) rfl) rfl
theorem kSE_X0_draw : Cond.selects RX0 yX0_draw yX0_draw ∈ BIG := mB_2 (List.mem_of_getElem? (i := 219) rfl) rfl
theorem kCD_X0_draw : Cond.code yX0_draw cX0_draw 4 none ∈ BIG := mB_2 (List.mem_of_getElem? (i := 220) rfl) rfl
theorem kML_X0_21 : Cond.methodLink RX0 21 yX0_drawKite ∈ BIG := mB_2 (List.mem_of_getElem? (i := 221) rfl) rfl
theorem kIM_X0_drawKite : Cond.instanceMethod yX0_drawKite ∈ BIG := mB_2 (List.mem_of_getElem? (i := 222) rfl) rfl
theorem kSE_X0_drawKite : Cond.selects RX0 yX0_drawKite yX0_drawKite ∈ BIG := mB_2 (List.mem_of_getElem? (i := 223) rfl) rfl
theorem kCD_X0_drawKite : Cond.code yX0_drawKite cX0_drawKite 8 none ∈ BIG := mB_2 (List.mem_of_getElem? (i := 224) rfl) rfl
theorem kML_X0_25 : Cond.methodLink RX0 25 yX4_isInSea ∈ BIG := mB_2 (List.mem_of_getElem? (i := 225) rfl) rfl
theorem kIM_X4_isInSea : Cond.instanceMethod yX4_isInSea ∈ BIG := mB_2 (List.mem_of_getElem? (i := 226) rfl) rfl
theorem kSE_X4_isInSea : Cond.selects RX4 yX4_isInSea yX4_isInSea ∈ BIG := mB_2 (List.mem_of_getElem? (i := 227) rfl) rfl
theorem kCD_X4_isInSea : Cond.code yX4_isInSea cX4_isInSea 6 (Option.some .boolean) ∈ BIG := mB_2 (List.mem_of_getElem? (i := 228) rfl) rfl
theorem kML_X4_125 : Cond.methodLink RX4 125 yX4_kiteX ∈ BIG := mB_2 (List.mem_of_getElem? (i := 229) rfl) rfl
theorem kIM_X4_kiteX : Cond.instanceMethod yX4_kiteX ∈ BIG := mB_2 (List.mem_of_getElem? (i := 230) rfl) rfl
theorem kSE_X4_kiteX : Cond.selects RX4 yX4_kiteX yX4_kiteX ∈ BIG := mB_2 (List.mem_of_getElem? (i := 231) rfl) rfl
theorem kCD_X4_kiteX : Cond.code yX4_kiteX cX4_kiteX 4 (Option.some .int) ∈ BIG := mB_2 (List.mem_of_getElem? (i := 232) rfl) rfl
theorem kML_X4_118 : Cond.methodLink RX4 118 yX4_isToldKite ∈ BIG := mB_2 (List.mem_of_getElem? (i := 233) rfl) rfl
theorem kIM_X4_isToldKite : Cond.instanceMethod yX4_isToldKite ∈ BIG := mB_2 (List.mem_of_getElem? (i := 234) rfl) rfl
theorem kSE_X4_isToldKite : Cond.selects RX4 yX4_isToldKite yX4_isToldKite ∈ BIG := mB_2 (List.mem_of_getElem? (i := 235) rfl) rfl
theorem kCD_X4_isToldKite : Cond.code yX4_isToldKite cX4_isToldKite 2 (Option.some .boolean) ∈ BIG := mB_2 (List.mem_of_getElem? (i := 236) rfl) rfl
theorem kML_X4_121 : Cond.methodLink RX4 121 yX4_windAt ∈ BIG := mB_2 (List.mem_of_getElem? (i := 237) rfl) rfl
theorem kST_X4_windAt : Cond.static yX4_windAt ∈ BIG := mB_2 (List.mem_of_getElem? (i := 238) rfl) rfl
theorem kCD_X4_windAt : Cond.code yX4_windAt cX4_windAt 4 (Option.some .int) ∈ BIG := mB_2 (List.mem_of_getElem? (i := 239) rfl) rfl
theorem kML_X4_129 : Cond.methodLink RX4 129 yX4_kiteY ∈ BIG := mB_3 (List.mem_of_getElem? (i := 0) rfl) rfl
theorem kIM_X4_kiteY : Cond.instanceMethod yX4_kiteY ∈ BIG := mB_3 (List.mem_of_getElem? (i := 1) rfl) rfl
theorem kSE_X4_kiteY : Cond.selects RX4 yX4_kiteY yX4_kiteY ∈ BIG := mB_3 (List.mem_of_getElem? (i := 2) rfl) rfl
theorem kCD_X4_kiteY : Cond.code yX4_kiteY cX4_kiteY 3 (Option.some .int) ∈ BIG := mB_3 (List.mem_of_getElem? (i := 3) rfl) rfl
theorem kML_X0_31 : Cond.methodLink RX0 31 yX4_hasLift ∈ BIG := mB_3 (List.mem_of_getElem? (i := 4) rfl) rfl
theorem kIM_X4_hasLift : Cond.instanceMethod yX4_hasLift ∈ BIG := mB_3 (List.mem_of_getElem? (i := 5) rfl) rfl
theorem kSE_X4_hasLift : Cond.selects RX4 yX4_hasLift yX4_hasLift ∈ BIG := mB_3 (List.mem_of_getElem? (i := 6) rfl) rfl
theorem kCD_X4_hasLift : Cond.code yX4_hasLift cX4_hasLift 4 (Option.some .boolean) ∈ BIG := mB_3 (List.mem_of_getElem? (i := 7) rfl) rfl
theorem kML_X0_34 : Cond.methodLink RX0 34 yX0_shoalsAt ∈ BIG := mB_3 (List.mem_of_getElem? (i := 8) rfl) rfl
theorem kST_X0_shoalsAt : Cond.static yX0_shoalsAt ∈ BIG := mB_3 (List.mem_of_getElem? (i := 9) rfl) rfl
theorem kCD_X0_shoalsAt : Cond.code yX0_shoalsAt cX0_shoalsAt 9 (Option.some .int) ∈ BIG := mB_3 (List.mem_of_getElem? (i := 10) rfl) rfl
theorem kML_X0_41 : Cond.methodLink RX0 41 yX4_kiteX ∈ BIG := mB_3 (List.mem_of_getElem? (i := 11) rfl) rfl
theorem kML_X0_45 : Cond.methodLink RX0 45 yX4_kiteY ∈ BIG := mB_3 (List.mem_of_getElem? (i := 12) rfl) rfl
theorem kML_X0_49 : Cond.methodLink RX0 49 yX4_isToldShoal ∈ BIG := mB_3 (List.mem_of_getElem? (i := 13) rfl) rfl
theorem kIM_X4_isToldShoal : Cond.instanceMethod yX4_isToldShoal ∈ BIG := mB_3 (List.mem_of_getElem? (i := 14) rfl) rfl
theorem kSE_X4_isToldShoal : Cond.selects RX4 yX4_isToldShoal yX4_isToldShoal ∈ BIG := mB_3 (List.mem_of_getElem? (i := 15) rfl) rfl
theorem kCD_X4_isToldShoal : Cond.code yX4_isToldShoal cX4_isToldShoal 2 (Option.some .boolean) ∈ BIG := mB_3 (List.mem_of_getElem? (i := 16) rfl) rfl
theorem kML_X0_53 : Cond.methodLink RX0 53 yX4_shoalX ∈ BIG := mB_3 (List.mem_of_getElem? (i := 17) rfl) rfl
theorem kIM_X4_shoalX : Cond.instanceMethod yX4_shoalX ∈ BIG := mB_3 (List.mem_of_getElem? (i := 18) rfl) rfl
theorem kSE_X4_shoalX : Cond.selects RX4 yX4_shoalX yX4_shoalX ∈ BIG := mB_3 (List.mem_of_getElem? (i := 19) rfl) rfl
theorem kCD_X4_shoalX : Cond.code yX4_shoalX cX4_shoalX 3 (Option.some .int) ∈ BIG := mB_3 (List.mem_of_getElem? (i := 20) rfl) rfl
theorem kML_X4_115 : Cond.methodLink RX4 115 yX4_isToldShoal ∈ BIG := mB_3 (List.mem_of_getElem? (i := 21) rfl) rfl
theorem kML_X0_56 : Cond.methodLink RX0 56 yX4_shoalY ∈ BIG := mB_3 (List.mem_of_getElem? (i := 22) rfl) rfl
theorem kIM_X4_shoalY : Cond.instanceMethod yX4_shoalY ∈ BIG := mB_3 (List.mem_of_getElem? (i := 23) rfl) rfl
theorem kSE_X4_shoalY : Cond.selects RX4 yX4_shoalY yX4_shoalY ∈ BIG := mB_3 (List.mem_of_getElem? (i := 24) rfl) rfl
theorem kCD_X4_shoalY : Cond.code yX4_shoalY cX4_shoalY 3 (Option.some .int) ∈ BIG := mB_3 (List.mem_of_getElem? (i := 25) rfl) rfl
theorem kML_X0_38 : Cond.methodLink RX0 38 yX0_kitesAcross ∈ BIG := mB_3 (List.mem_of_getElem? (i := 26) rfl) rfl
theorem kST_X0_kitesAcross : Cond.static yX0_kitesAcross ∈ BIG := mB_3 (List.mem_of_getElem? (i := 27) rfl) rfl
theorem kCD_X0_kitesAcross : Cond.code yX0_kitesAcross cX0_kitesAcross 6 (Option.some .int) ∈ BIG := mB_3 (List.mem_of_getElem? (i := 28) rfl) rfl
theorem kML_X0_59 : Cond.methodLink RX0 59 yX4_wouldCross ∈ BIG := mB_3 (List.mem_of_getElem? (i := 29) rfl) rfl
theorem kIM_X4_wouldCross : Cond.instanceMethod yX4_wouldCross ∈ BIG := mB_3 (List.mem_of_getElem? (i := 30) rfl) rfl
theorem kSE_X4_wouldCross : Cond.selects RX4 yX4_wouldCross yX4_wouldCross ∈ BIG := mB_3 (List.mem_of_getElem? (i := 31) rfl) rfl
theorem kCD_X4_wouldCross : Cond.code yX4_wouldCross cX4_wouldCross 7 (Option.some .boolean) ∈ BIG := mB_3 (List.mem_of_getElem? (i := 32) rfl) rfl
theorem kML_X8_84 : Cond.methodLink RX8 84 yX1_stockShoals ∈ BIG := mB_3 (List.mem_of_getElem? (i := 33) rfl) rfl
theorem kIM_X1_stockShoals : Cond.instanceMethod yX1_stockShoals ∈ BIG := mB_3 (List.mem_of_getElem? (i := 34) rfl) rfl
theorem kSE_X1_stockShoals : Cond.selects RX1 yX1_stockShoals yX1_stockShoals ∈ BIG := mB_3 (List.mem_of_getElem? (i := 35) rfl) rfl
theorem kCD_X1_stockShoals : Cond.code yX1_stockShoals cX1_stockShoals 3 none ∈ BIG := mB_3 (List.mem_of_getElem? (i := 36) rfl) rfl
theorem kML_X1_30 : Cond.methodLink RX1 30 yX4_isToldShoal ∈ BIG := mB_3 (List.mem_of_getElem? (i := 37) rfl) rfl
theorem kML_X8_87 : Cond.methodLink RX8 87 yX1_become ∈ BIG := mB_3 (List.mem_of_getElem? (i := 38) rfl) rfl
theorem kIM_X1_become : Cond.instanceMethod yX1_become ∈ BIG := mB_3 (List.mem_of_getElem? (i := 39) rfl) rfl
theorem kSE_X1_become : Cond.selects RX1 yX1_become yX1_become ∈ BIG := mB_3 (List.mem_of_getElem? (i := 40) rfl) rfl
theorem kCD_X1_become : Cond.code yX1_become cX1_become 2 none ∈ BIG := mB_3 (List.mem_of_getElem? (i := 41) rfl) rfl
theorem kML_X1_46 : Cond.methodLink RX1 46 yX1_resume ∈ BIG := mB_3 (List.mem_of_getElem? (i := 42) rfl) rfl
theorem kIM_X1_resume : Cond.instanceMethod yX1_resume ∈ BIG := mB_3 (List.mem_of_getElem? (i := 43) rfl) rfl
theorem kSE_X1_resume : Cond.selects RX1 yX1_resume yX1_resume ∈ BIG := mB_3 (List.mem_of_getElem? (i := 44) rfl) rfl
theorem kCD_X1_resume : Cond.code yX1_resume cX1_resume 2 none ∈ BIG := mB_3 (List.mem_of_getElem? (i := 45) rfl) rfl
theorem kML_X1_59 : Cond.methodLink RX1 59 arraycopyName ∈ BIG := mB_3 (List.mem_of_getElem? (i := 46) rfl) rfl
theorem kST_arraycopyName : Cond.static arraycopyName ∈ BIG := mB_3 (List.mem_of_getElem? (i := 47) rfl) rfl
theorem kNA_arraycopyName : Cond.native arraycopyName ∈ BIG := mB_3 (List.mem_of_getElem? (i := 48) rfl) rfl
theorem kML_X8_94 : Cond.methodLink RX8 94 yX5_forget ∈ BIG := mB_3 (List.mem_of_getElem? (i := 49) rfl) rfl
theorem kIM_X5_forget : Cond.instanceMethod yX5_forget ∈ BIG := mB_3 (List.mem_of_getElem? (i := 50) rfl) rfl
theorem kSE_X5_forget : Cond.selects RX5 yX5_forget yX5_forget ∈ BIG := mB_3 (List.mem_of_getElem? (i := 51) rfl) rfl
theorem kCD_X5_forget : Cond.code yX5_forget cX5_forget 1 none ∈ BIG := mB_3 (List.mem_of_getElem? (i := 52) rfl) rfl
theorem kML_L_33 : Cond.methodLink RL 33 yX8_wind ∈ BIG := mB_3 (List.mem_of_getElem? (i := 53) rfl) rfl
theorem kIM_X8_wind : Cond.instanceMethod yX8_wind ∈ BIG := mB_3 (List.mem_of_getElem? (i := 54) rfl) rfl
theorem kSE_X8_wind : Cond.selects RX8 yX8_wind yX8_wind ∈ BIG := mB_3 (List.mem_of_getElem? (i := 55) rfl) rfl
theorem kCD_X8_wind : Cond.code yX8_wind cX8_wind 4 (Option.some .int) ∈ BIG := mB_3 (List.mem_of_getElem? (i := 56) rfl) rfl
theorem kML_X8_100 : Cond.methodLink RX8 100 yX8_isHeight ∈ BIG := mB_3 (List.mem_of_getElem? (i := 57) rfl) rfl
theorem kML_X8_103 : Cond.methodLink RX8 103 yX8_isHour ∈ BIG := mB_3 (List.mem_of_getElem? (i := 58) rfl) rfl
theorem kST_X8_isHour : Cond.static yX8_isHour ∈ BIG := mB_3 (List.mem_of_getElem? (i := 59) rfl) rfl
theorem kCD_X8_isHour : Cond.code yX8_isHour cX8_isHour 1 (Option.some .boolean) ∈ BIG := mB_3 (List.mem_of_getElem? (i := 60) rfl) rfl
theorem kML_X8_110 : Cond.methodLink RX8 110 yX4_windAt ∈ BIG := mB_3 (List.mem_of_getElem? (i := 61) rfl) rfl
theorem kML_L_38 : Cond.methodLink RL 38 yX8_shoal ∈ BIG := mB_3 (List.mem_of_getElem? (i := 62) rfl) rfl
theorem kIM_X8_shoal : Cond.instanceMethod yX8_shoal ∈ BIG := mB_3 (List.mem_of_getElem? (i := 63) rfl) rfl
theorem kSE_X8_shoal : Cond.selects RX8 yX8_shoal yX8_shoal ∈ BIG := mB_3 (List.mem_of_getElem? (i := 64) rfl) rfl
theorem kCD_X8_shoal : Cond.code yX8_shoal cX8_shoal 3 (Option.some .int) ∈ BIG := mB_3 (List.mem_of_getElem? (i := 65) rfl) rfl
theorem kML_X8_117 : Cond.methodLink RX8 117 yX4_isToldShoal ∈ BIG := mB_3 (List.mem_of_getElem? (i := 66) rfl) rfl
theorem kML_X8_123 : Cond.methodLink RX8 123 yX4_shoalX ∈ BIG := mB_3 (List.mem_of_getElem? (i := 67) rfl) rfl
theorem kML_X8_127 : Cond.methodLink RX8 127 yX4_shoalY ∈ BIG := mB_3 (List.mem_of_getElem? (i := 68) rfl) rfl
theorem kML_L_43 : Cond.methodLink RL 43 yX8_ask ∈ BIG := mB_3 (List.mem_of_getElem? (i := 69) rfl) rfl
theorem kIM_X8_ask : Cond.instanceMethod yX8_ask ∈ BIG := mB_3 (List.mem_of_getElem? (i := 70) rfl) rfl
theorem kSE_X8_ask : Cond.selects RX8 yX8_ask yX8_ask ∈ BIG := mB_3 (List.mem_of_getElem? (i := 71) rfl) rfl
theorem kCD_X8_ask : Cond.code yX8_ask cX8_ask 4 (Option.some .int) ∈ BIG := mB_3 (List.mem_of_getElem? (i := 72) rfl) rfl
theorem kML_X8_133 : Cond.methodLink RX8 133 yX4_isToldKite ∈ BIG := mB_3 (List.mem_of_getElem? (i := 73) rfl) rfl
theorem kML_L_47 : Cond.methodLink RL 47 yX8_go ∈ BIG := mB_3 (List.mem_of_getElem? (i := 74) rfl) rfl
theorem kIM_X8_go : Cond.instanceMethod yX8_go ∈ BIG := mB_3 (List.mem_of_getElem? (i := 75) rfl) rfl
theorem kSE_X8_go : Cond.selects RX8 yX8_go yX8_go ∈ BIG := mB_3 (List.mem_of_getElem? (i := 76) rfl) rfl
theorem kCD_X8_go : Cond.code yX8_go cX8_go 2 (Option.some .int) ∈ BIG := mB_3 (List.mem_of_getElem? (i := 77) rfl) rfl
theorem kML_X8_142 : Cond.methodLink RX8 142 yX1_pass ∈ BIG := mB_3 (List.mem_of_getElem? (i := 78) rfl) rfl
theorem kIM_X1_pass : Cond.instanceMethod yX1_pass ∈ BIG := mB_3 (List.mem_of_getElem? (i := 79) rfl) rfl
theorem kSE_X1_pass : Cond.selects RX1 yX1_pass yX1_pass ∈ BIG := mB_3 (List.mem_of_getElem? (i := 80) rfl) rfl
theorem kCD_X1_pass : Cond.code yX1_pass cX1_pass 7 none ∈ BIG := mB_3 (List.mem_of_getElem? (i := 81) rfl) rfl
theorem kML_X1_71 : Cond.methodLink RX1 71 yX1_risen ∈ BIG := mB_3 (List.mem_of_getElem? (i := 82) rfl) rfl
theorem kIM_X1_risen : Cond.instanceMethod yX1_risen ∈ BIG := mB_3 (List.mem_of_getElem? (i := 83) rfl) rfl
theorem kSE_X1_risen : Cond.selects RX1 yX1_risen yX1_risen ∈ BIG := mB_3 (List.mem_of_getElem? (i := 84) rfl) rfl
theorem kCD_X1_risen : Cond.code yX1_risen cX1_risen 8 (Option.some .int) ∈ BIG := mB_3 (List.mem_of_getElem? (i := 85) rfl) rfl
theorem kML_X1_87 : Cond.methodLink RX1 87 yX4_isFoggy ∈ BIG := mB_3 (List.mem_of_getElem? (i := 86) rfl) rfl
theorem kIM_X4_isFoggy : Cond.instanceMethod yX4_isFoggy ∈ BIG := mB_3 (List.mem_of_getElem? (i := 87) rfl) rfl
theorem kSE_X4_isFoggy : Cond.selects RX4 yX4_isFoggy yX4_isFoggy ∈ BIG := mB_3 (List.mem_of_getElem? (i := 88) rfl) rfl
theorem kCD_X4_isFoggy : Cond.code yX4_isFoggy cX4_isFoggy 2 (Option.some .boolean) ∈ BIG := mB_3 (List.mem_of_getElem? (i := 89) rfl) rfl
theorem kNM_X4_111 : Cond.methodLinkNest RX4 111 yX8_isIn "FishingKites" ∈ lw_tbl := mT_3 (List.mem_of_getElem? (i := 90) rfl)
theorem kST_X8_isIn : Cond.static yX8_isIn ∈ BIG := mB_3 (List.mem_of_getElem? (i := 91) rfl) rfl
theorem kCD_X8_isIn : Cond.code yX8_isIn cX8_isIn 2 (Option.some .boolean) ∈ BIG := mB_3 (List.mem_of_getElem? (i := 92) rfl) rfl
theorem kML_X1_90 : Cond.methodLink RX1 90 yX0_isFree ∈ BIG := mB_3 (List.mem_of_getElem? (i := 93) rfl) rfl
theorem kIM_X0_isFree : Cond.instanceMethod yX0_isFree ∈ BIG := mB_3 (List.mem_of_getElem? (i := 94) rfl) rfl
theorem kSE_X0_isFree : Cond.selects RX0 yX0_isFree yX0_isFree ∈ BIG := mB_3 (List.mem_of_getElem? (i := 95) rfl) rfl
theorem kCD_X0_isFree : Cond.code yX0_isFree cX0_isFree 5 (Option.some .boolean) ∈ BIG := mB_3 (List.mem_of_getElem? (i := 96) rfl) rfl
theorem kNM_X0_63 : Cond.methodLinkNest RX0 63 yX8_isIn "FishingKites" ∈ lw_tbl := mT_3 (List.mem_of_getElem? (i := 97) rfl)
theorem kNM_X1_79 : Cond.methodLinkNest RX1 79 yX8_isIn "FishingKites" ∈ lw_tbl := mT_3 (List.mem_of_getElem? (i := 98) rfl)
theorem kML_X1_75 : Cond.methodLink RX1 75 yX1_untangled ∈ BIG := mB_3 (List.mem_of_getElem? (i := 99) rfl) rfl
theorem kIM_X1_untangled : Cond.instanceMethod yX1_untangled ∈ BIG := mB_3 (List.mem_of_getElem? (i := 100) rfl) rfl
theorem kSE_X1_untangled : Cond.selects RX1 yX1_untangled yX1_untangled ∈ BIG := mB_3 (List.mem_of_getElem? (i := 101) rfl) rfl
theorem kCD_X1_untangled : Cond.code yX1_untangled cX1_untangled 11 (Option.some .int) ∈ BIG := mB_3 (List.mem_of_getElem? (i := 102) rfl) rfl
theorem kML_X1_108 : Cond.methodLink RX1 108 yX0_crossed ∈ BIG := mB_3 (List.mem_of_getElem? (i := 103) rfl) rfl
theorem kIM_X0_crossed : Cond.instanceMethod yX0_crossed ∈ BIG := mB_3 (List.mem_of_getElem? (i := 104) rfl) rfl
theorem kSE_X0_crossed : Cond.selects RX0 yX0_crossed yX0_crossed ∈ BIG := mB_3 (List.mem_of_getElem? (i := 105) rfl) rfl
theorem kCD_X0_crossed : Cond.code yX0_crossed cX0_crossed 5 (Option.some .int) ∈ BIG := mB_3 (List.mem_of_getElem? (i := 106) rfl) rfl
theorem kML_X1_112 : Cond.methodLink RX1 112 yX4_givingWay ∈ BIG := mB_3 (List.mem_of_getElem? (i := 107) rfl) rfl
theorem kIM_X4_givingWay : Cond.instanceMethod yX4_givingWay ∈ BIG := mB_3 (List.mem_of_getElem? (i := 108) rfl) rfl
theorem kSE_X4_givingWay : Cond.selects RX4 yX4_givingWay yX4_givingWay ∈ BIG := mB_3 (List.mem_of_getElem? (i := 109) rfl) rfl
theorem kCD_X4_givingWay : Cond.code yX4_givingWay cX4_givingWay 7 (Option.some .int) ∈ BIG := mB_3 (List.mem_of_getElem? (i := 110) rfl) rfl
theorem kML_X1_83 : Cond.methodLink RX1 83 yX1_fish ∈ BIG := mB_3 (List.mem_of_getElem? (i := 111) rfl) rfl
theorem kIM_X1_fish : Cond.instanceMethod yX1_fish ∈ BIG := mB_3 (List.mem_of_getElem? (i := 112) rfl) rfl
theorem kSE_X1_fish : Cond.selects RX1 yX1_fish yX1_fish ∈ BIG := mB_3 (List.mem_of_getElem? (i := 113) rfl) rfl
theorem kCD_X1_fish : Cond.code yX1_fish cX1_fish 9 none ∈ BIG := mB_3 (List.mem_of_getElem? (i := 114) rfl) rfl
theorem kML_X1_115 : Cond.methodLink RX1 115 yX0_met ∈ BIG := mB_3 (List.mem_of_getElem? (i := 115) rfl) rfl
theorem kIM_X0_met : Cond.instanceMethod yX0_met ∈ BIG := mB_3 (List.mem_of_getElem? (i := 116) rfl) rfl
theorem kSE_X0_met : Cond.selects RX0 yX0_met yX0_met ∈ BIG := mB_3 (List.mem_of_getElem? (i := 117) rfl) rfl
theorem kCD_X0_met : Cond.code yX0_met cX0_met 5 (Option.some .int) ∈ BIG := mB_3 (List.mem_of_getElem? (i := 118) rfl) rfl
theorem kML_X1_121 : Cond.methodLink RX1 121 yJ9_min_7cf53 ∈ BIG := mB_3 (List.mem_of_getElem? (i := 119) rfl) rfl
theorem kST_J9_min_7cf53 : Cond.static yJ9_min_7cf53 ∈ BIG := mB_3 (List.mem_of_getElem? (i := 120) rfl) rfl
theorem kCD_J9_min_7cf53 : Cond.code yJ9_min_7cf53 cJ9_min_7cf53 2 (Option.some .int) ∈ BIG := mB_3 (List.mem_of_getElem? (i := 121) rfl) rfl
theorem kML_X1_127 : Cond.methodLink RX1 127 yX1_note ∈ BIG := mB_3 (List.mem_of_getElem? (i := 122) rfl) rfl
theorem kIM_X1_note : Cond.instanceMethod yX1_note ∈ BIG := mB_3 (List.mem_of_getElem? (i := 123) rfl) rfl
theorem kSE_X1_note : Cond.selects RX1 yX1_note yX1_note ∈ BIG := mB_3 (List.mem_of_getElem? (i := 124) rfl) rfl
theorem kCD_X1_note : Cond.code yX1_note cX1_note 4 none ∈ BIG := mB_3 (List.mem_of_getElem? (i := 125) rfl) rfl
theorem kML_X1_131 : Cond.methodLink RX1 131 yX4_afterGulls ∈ BIG := mB_3 (List.mem_of_getElem? (i := 126) rfl) rfl
theorem kIM_X4_afterGulls : Cond.instanceMethod yX4_afterGulls ∈ BIG := mB_3 (List.mem_of_getElem? (i := 127) rfl) rfl
theorem kSE_X4_afterGulls : Cond.selects RX4 yX4_afterGulls yX4_afterGulls ∈ BIG := mB_3 (List.mem_of_getElem? (i := 128) rfl) rfl
theorem kCD_X4_afterGulls : Cond.code yX4_afterGulls cX4_afterGulls 2 (Option.some .int) ∈ BIG := mB_3 (List.mem_of_getElem? (i := 129) rfl) rfl
theorem kML_L_52 : Cond.methodLink RL 52 yX8_kite ∈ BIG := mB_3 (List.mem_of_getElem? (i := 130) rfl) rfl
theorem kIM_X8_kite : Cond.instanceMethod yX8_kite ∈ BIG := mB_3 (List.mem_of_getElem? (i := 131) rfl) rfl
theorem kSE_X8_kite : Cond.selects RX8 yX8_kite yX8_kite ∈ BIG := mB_3 (List.mem_of_getElem? (i := 132) rfl) rfl
theorem kCD_X8_kite : Cond.code yX8_kite cX8_kite 3 (Option.some .int) ∈ BIG := mB_3 (List.mem_of_getElem? (i := 133) rfl) rfl
theorem kML_X8_149 : Cond.methodLink RX8 149 yX8_isIn ∈ BIG := mB_3 (List.mem_of_getElem? (i := 134) rfl) rfl
theorem kML_L_56 : Cond.methodLink RL 56 yX8_where ∈ BIG := mB_3 (List.mem_of_getElem? (i := 135) rfl) rfl
theorem kIM_X8_where : Cond.instanceMethod yX8_where ∈ BIG := mB_3 (List.mem_of_getElem? (i := 136) rfl) rfl
theorem kSE_X8_where : Cond.selects RX8 yX8_where yX8_where ∈ BIG := mB_3 (List.mem_of_getElem? (i := 137) rfl) rfl
theorem kCD_X8_where : Cond.code yX8_where cX8_where 4 (Option.some .int) ∈ BIG := mB_3 (List.mem_of_getElem? (i := 138) rfl) rfl
theorem kML_X8_162 : Cond.methodLink RX8 162 yX8_isPlace ∈ BIG := mB_3 (List.mem_of_getElem? (i := 139) rfl) rfl
theorem kIM_X8_isPlace : Cond.instanceMethod yX8_isPlace ∈ BIG := mB_3 (List.mem_of_getElem? (i := 141) rfl) rfl
theorem kCD_X8_isPlace : Cond.code yX8_isPlace cX8_isPlace 4 (Option.some .boolean) ∈ BIG := mB_3 (List.mem_of_getElem? (i := 142) rfl) rfl
theorem kML_X8_166 : Cond.methodLink RX8 166 yX4_isInSea ∈ BIG := mB_3 (List.mem_of_getElem? (i := 143) rfl) rfl
theorem kML_X8_169 : Cond.methodLink RX8 169 yX4_kiteX ∈ BIG := mB_3 (List.mem_of_getElem? (i := 144) rfl) rfl
theorem kML_X8_173 : Cond.methodLink RX8 173 yX4_kiteY ∈ BIG := mB_3 (List.mem_of_getElem? (i := 145) rfl) rfl
theorem kML_L_60 : Cond.methodLink RL 60 yX8_hinders ∈ BIG := mB_3 (List.mem_of_getElem? (i := 146) rfl) rfl
theorem kIM_X8_hinders : Cond.instanceMethod yX8_hinders ∈ BIG := mB_3 (List.mem_of_getElem? (i := 147) rfl) rfl
theorem kSE_X8_hinders : Cond.selects RX8 yX8_hinders yX8_hinders ∈ BIG := mB_3 (List.mem_of_getElem? (i := 148) rfl) rfl
theorem kCD_X8_hinders : Cond.code yX8_hinders cX8_hinders 4 (Option.some .int) ∈ BIG := mB_3 (List.mem_of_getElem? (i := 149) rfl) rfl
theorem kML_X8_176 : Cond.methodLink RX8 176 yX4_hasLift ∈ BIG := mB_3 (List.mem_of_getElem? (i := 150) rfl) rfl
theorem kML_L_64 : Cond.methodLink RL 64 yX8_tangle ∈ BIG := mB_3 (List.mem_of_getElem? (i := 151) rfl) rfl
theorem kIM_X8_tangle : Cond.instanceMethod yX8_tangle ∈ BIG := mB_3 (List.mem_of_getElem? (i := 152) rfl) rfl
theorem kSE_X8_tangle : Cond.selects RX8 yX8_tangle yX8_tangle ∈ BIG := mB_3 (List.mem_of_getElem? (i := 153) rfl) rfl
theorem kCD_X8_tangle : Cond.code yX8_tangle cX8_tangle 5 (Option.some .int) ∈ BIG := mB_3 (List.mem_of_getElem? (i := 154) rfl) rfl
theorem kML_X8_179 : Cond.methodLink RX8 179 yX4_wouldCross ∈ BIG := mB_3 (List.mem_of_getElem? (i := 155) rfl) rfl
theorem kML_X8_183 : Cond.methodLink RX8 183 yJ9_min_7cf53 ∈ BIG := mB_3 (List.mem_of_getElem? (i := 156) rfl) rfl
theorem kML_X8_188 : Cond.methodLink RX8 188 yJ9_max_7cf53 ∈ BIG := mB_3 (List.mem_of_getElem? (i := 157) rfl) rfl
theorem kST_J9_max_7cf53 : Cond.static yJ9_max_7cf53 ∈ BIG := mB_3 (List.mem_of_getElem? (i := 158) rfl) rfl
theorem kCD_J9_max_7cf53 : Cond.code yJ9_max_7cf53 cJ9_max_7cf53 2 (Option.some .int) ∈ BIG := mB_3 (List.mem_of_getElem? (i := 159) rfl) rfl
theorem kML_X8_191 : Cond.methodLink RX8 191 yX4_givingWay ∈ BIG := mB_3 (List.mem_of_getElem? (i := 160) rfl) rfl
theorem kML_L_69 : Cond.methodLink RL 69 yX8_taking ∈ BIG := mB_3 (List.mem_of_getElem? (i := 161) rfl) rfl
theorem kIM_X8_taking : Cond.instanceMethod yX8_taking ∈ BIG := mB_3 (List.mem_of_getElem? (i := 162) rfl) rfl
theorem kSE_X8_taking : Cond.selects RX8 yX8_taking yX8_taking ∈ BIG := mB_3 (List.mem_of_getElem? (i := 163) rfl) rfl
theorem kCD_X8_taking : Cond.code yX8_taking cX8_taking 4 (Option.some .int) ∈ BIG := mB_3 (List.mem_of_getElem? (i := 164) rfl) rfl
theorem kML_L_73 : Cond.methodLink RL 73 yX8_keep ∈ BIG := mB_3 (List.mem_of_getElem? (i := 165) rfl) rfl
theorem kIM_X8_keep : Cond.instanceMethod yX8_keep ∈ BIG := mB_3 (List.mem_of_getElem? (i := 166) rfl) rfl
theorem kSE_X8_keep : Cond.selects RX8 yX8_keep yX8_keep ∈ BIG := mB_3 (List.mem_of_getElem? (i := 167) rfl) rfl
theorem kCD_X8_keep : Cond.code yX8_keep cX8_keep 2 (Option.some .int) ∈ BIG := mB_3 (List.mem_of_getElem? (i := 168) rfl) rfl
theorem kML_L_77 : Cond.methodLink RL 77 yX8_back ∈ BIG := mB_3 (List.mem_of_getElem? (i := 169) rfl) rfl
theorem kIM_X8_back : Cond.instanceMethod yX8_back ∈ BIG := mB_3 (List.mem_of_getElem? (i := 170) rfl) rfl
theorem kSE_X8_back : Cond.selects RX8 yX8_back yX8_back ∈ BIG := mB_3 (List.mem_of_getElem? (i := 171) rfl) rfl
theorem kCD_X8_back : Cond.code yX8_back cX8_back 2 (Option.some .int) ∈ BIG := mB_3 (List.mem_of_getElem? (i := 172) rfl) rfl
theorem kML_L_81 : Cond.methodLink RL 81 yX8_best ∈ BIG := mB_3 (List.mem_of_getElem? (i := 173) rfl) rfl
theorem kIM_X8_best : Cond.instanceMethod yX8_best ∈ BIG := mB_3 (List.mem_of_getElem? (i := 174) rfl) rfl
theorem kSE_X8_best : Cond.selects RX8 yX8_best yX8_best ∈ BIG := mB_3 (List.mem_of_getElem? (i := 175) rfl) rfl
theorem kCD_X8_best : Cond.code yX8_best cX8_best 2 (Option.some .int) ∈ BIG := mB_3 (List.mem_of_getElem? (i := 176) rfl) rfl
theorem kML_X8_200 : Cond.methodLink RX8 200 yX5_find ∈ BIG := mB_3 (List.mem_of_getElem? (i := 177) rfl) rfl
theorem kIM_X5_find : Cond.instanceMethod yX5_find ∈ BIG := mB_3 (List.mem_of_getElem? (i := 178) rfl) rfl
theorem kSE_X5_find : Cond.selects RX5 yX5_find yX5_find ∈ BIG := mB_3 (List.mem_of_getElem? (i := 179) rfl) rfl
theorem kCD_X5_find : Cond.code yX5_find cX5_find 9 none ∈ BIG := mB_3 (List.mem_of_getElem? (i := 180) rfl) rfl
theorem kML_X5_34 : Cond.methodLink RX5 34 yX5_setBounds ∈ BIG := mB_3 (List.mem_of_getElem? (i := 181) rfl) rfl
theorem kIM_X5_setBounds : Cond.instanceMethod yX5_setBounds ∈ BIG := mB_3 (List.mem_of_getElem? (i := 182) rfl) rfl
theorem kSE_X5_setBounds : Cond.selects RX5 yX5_setBounds yX5_setBounds ∈ BIG := mB_3 (List.mem_of_getElem? (i := 183) rfl) rfl
theorem kCD_X5_setBounds : Cond.code yX5_setBounds cX5_setBounds 9 none ∈ BIG := mB_3 (List.mem_of_getElem? (i := 184) rfl) rfl
theorem kML_X5_69 : Cond.methodLink RX5 69 yX5_boundOf ∈ BIG := mB_3 (List.mem_of_getElem? (i := 185) rfl) rfl
theorem kST_X5_boundOf : Cond.static yX5_boundOf ∈ BIG := mB_3 (List.mem_of_getElem? (i := 186) rfl) rfl
theorem kCD_X5_boundOf : Cond.code yX5_boundOf cX5_boundOf 14 (Option.some .int) ∈ BIG := mB_3 (List.mem_of_getElem? (i := 187) rfl) rfl
theorem kNM_X5_81 : Cond.methodLinkNest RX5 81 yX8_isIn "FishingKites" ∈ lw_tbl := mT_3 (List.mem_of_getElem? (i := 188) rfl)
theorem kML_X5_97 : Cond.methodLink RX5 97 yX0_isFree ∈ BIG := mB_3 (List.mem_of_getElem? (i := 189) rfl) rfl
theorem kML_X5_103 : Cond.methodLink RX5 103 yX4_isFoggy ∈ BIG := mB_3 (List.mem_of_getElem? (i := 190) rfl) rfl
theorem kML_X5_113 : Cond.methodLink RX5 113 yX0_met ∈ BIG := mB_3 (List.mem_of_getElem? (i := 191) rfl) rfl
theorem kML_X5_117 : Cond.methodLink RX5 117 yX1_fishIn ∈ BIG := mB_3 (List.mem_of_getElem? (i := 192) rfl) rfl
theorem kIM_X1_fishIn : Cond.instanceMethod yX1_fishIn ∈ BIG := mB_3 (List.mem_of_getElem? (i := 193) rfl) rfl
theorem kSE_X1_fishIn : Cond.selects RX1 yX1_fishIn yX1_fishIn ∈ BIG := mB_3 (List.mem_of_getElem? (i := 194) rfl) rfl
theorem kCD_X1_fishIn : Cond.code yX1_fishIn cX1_fishIn 4 (Option.some .int) ∈ BIG := mB_3 (List.mem_of_getElem? (i := 195) rfl) rfl
theorem kML_X5_120 : Cond.methodLink RX5 120 yJ9_min_7cf53 ∈ BIG := mB_3 (List.mem_of_getElem? (i := 196) rfl) rfl
theorem kML_X5_123 : Cond.methodLink RX5 123 yX4_afterGulls ∈ BIG := mB_3 (List.mem_of_getElem? (i := 197) rfl) rfl
theorem kML_X5_73 : Cond.methodLink RX5 73 yJ9_max_7cf53 ∈ BIG := mB_3 (List.mem_of_getElem? (i := 198) rfl) rfl
theorem kML_X5_41 : Cond.methodLink RX5 41 yX5_firstHopeless ∈ BIG := mB_3 (List.mem_of_getElem? (i := 199) rfl) rfl
theorem kIM_X5_firstHopeless : Cond.instanceMethod yX5_firstHopeless ∈ BIG := mB_3 (List.mem_of_getElem? (i := 200) rfl) rfl
theorem kSE_X5_firstHopeless : Cond.selects RX5 yX5_firstHopeless yX5_firstHopeless ∈ BIG := mB_3 (List.mem_of_getElem? (i := 201) rfl) rfl
theorem kCD_X5_firstHopeless : Cond.code yX5_firstHopeless cX5_firstHopeless 5 (Option.some .int) ∈ BIG := mB_3 (List.mem_of_getElem? (i := 202) rfl) rfl
theorem kML_X5_26 : Cond.methodLink RX5 26 yX5_heightIn ∈ BIG := mB_3 (List.mem_of_getElem? (i := 203) rfl) rfl
theorem kST_X5_heightIn : Cond.static yX5_heightIn ∈ BIG := mB_3 (List.mem_of_getElem? (i := 204) rfl) rfl
theorem kCD_X5_heightIn : Cond.code yX5_heightIn cX5_heightIn 2 (Option.some .int) ∈ BIG := mB_3 (List.mem_of_getElem? (i := 205) rfl) rfl
theorem kML_X5_30 : Cond.methodLink RX5 30 yX5_shiftOf ∈ BIG := mB_3 (List.mem_of_getElem? (i := 206) rfl) rfl
theorem kST_X5_shiftOf : Cond.static yX5_shiftOf ∈ BIG := mB_3 (List.mem_of_getElem? (i := 207) rfl) rfl
theorem kCD_X5_shiftOf : Cond.code yX5_shiftOf cX5_shiftOf 1 (Option.some .int) ∈ BIG := mB_3 (List.mem_of_getElem? (i := 208) rfl) rfl
theorem kML_X5_44 : Cond.methodLink RX5 44 yX5_tryPlan ∈ BIG := mB_3 (List.mem_of_getElem? (i := 209) rfl) rfl
theorem kIM_X5_tryPlan : Cond.instanceMethod yX5_tryPlan ∈ BIG := mB_3 (List.mem_of_getElem? (i := 210) rfl) rfl
theorem kSE_X5_tryPlan : Cond.selects RX5 yX5_tryPlan yX5_tryPlan ∈ BIG := mB_3 (List.mem_of_getElem? (i := 211) rfl) rfl
theorem kCD_X5_tryPlan : Cond.code yX5_tryPlan cX5_tryPlan 8 none ∈ BIG := mB_3 (List.mem_of_getElem? (i := 212) rfl) rfl
theorem kML_X5_48 : Cond.methodLink RX5 48 yX1_resume ∈ BIG := mB_3 (List.mem_of_getElem? (i := 213) rfl) rfl
theorem kML_X5_62 : Cond.methodLink RX5 62 yX1_pass ∈ BIG := mB_3 (List.mem_of_getElem? (i := 214) rfl) rfl
theorem kML_X8_207 : Cond.methodLink RX8 207 yX5_heightOf ∈ BIG := mB_3 (List.mem_of_getElem? (i := 215) rfl) rfl
theorem kIM_X5_heightOf : Cond.instanceMethod yX5_heightOf ∈ BIG := mB_3 (List.mem_of_getElem? (i := 216) rfl) rfl
theorem kSE_X5_heightOf : Cond.selects RX5 yX5_heightOf yX5_heightOf ∈ BIG := mB_3 (List.mem_of_getElem? (i := 217) rfl) rfl
theorem kCD_X5_heightOf : Cond.code yX5_heightOf cX5_heightOf 2 (Option.some .int) ∈ BIG := mB_3 (List.mem_of_getElem? (i := 218) rfl) rfl
theorem kML_L_85 : Cond.methodLink RL 85 yX8_allDay ∈ BIG := mB_3 (List.mem_of_getElem? (i := 219) rfl) rfl
theorem kIM_X8_allDay : Cond.instanceMethod yX8_allDay ∈ BIG := mB_3 (List.mem_of_getElem? (i := 220) rfl) rfl
theorem kSE_X8_allDay : Cond.selects RX8 yX8_allDay yX8_allDay ∈ BIG := mB_3 (List.mem_of_getElem? (i := 221) rfl) rfl
theorem kCD_X8_allDay : Cond.code yX8_allDay cX8_allDay 2 (Option.some .int) ∈ BIG := mB_3 (List.mem_of_getElem? (i := 222) rfl) rfl
theorem kML_L_89 : Cond.methodLink RL 89 yX8_laws ∈ BIG := mB_3 (List.mem_of_getElem? (i := 223) rfl) rfl
theorem kIM_X8_laws : Cond.instanceMethod yX8_laws ∈ BIG := mB_3 (List.mem_of_getElem? (i := 224) rfl) rfl
theorem kSE_X8_laws : Cond.selects RX8 yX8_laws yX8_laws ∈ BIG := mB_3 (List.mem_of_getElem? (i := 225) rfl) rfl
theorem kCD_X8_laws : Cond.code yX8_laws cX8_laws 6 (Option.some .int) ∈ BIG := mB_3 (List.mem_of_getElem? (i := 226) rfl) rfl
theorem kML_X8_211 : Cond.methodLink RX8 211 yX8_caughtAllDayBy ∈ BIG := mB_3 (List.mem_of_getElem? (i := 227) rfl) rfl
theorem kIM_X8_caughtAllDayBy : Cond.instanceMethod yX8_caughtAllDayBy ∈ BIG := mB_3 (List.mem_of_getElem? (i := 229) rfl) rfl
theorem kCD_X8_caughtAllDayBy : Cond.code yX8_caughtAllDayBy cX8_caughtAllDayBy 3 (Option.some .int) ∈ BIG := mB_3 (List.mem_of_getElem? (i := 230) rfl) rfl
theorem kML_X8_267 : Cond.methodLink RX8 267 yX1_resume ∈ BIG := mB_3 (List.mem_of_getElem? (i := 231) rfl) rfl
theorem kML_L_93 : Cond.methodLink RL 93 yX8_food ∈ BIG := mB_3 (List.mem_of_getElem? (i := 232) rfl) rfl
theorem kIM_X8_food : Cond.instanceMethod yX8_food ∈ BIG := mB_3 (List.mem_of_getElem? (i := 233) rfl) rfl
theorem kSE_X8_food : Cond.selects RX8 yX8_food yX8_food ∈ BIG := mB_3 (List.mem_of_getElem? (i := 234) rfl) rfl
theorem kCD_X8_food : Cond.code yX8_food cX8_food 7 (Option.some .long) ∈ BIG := mB_3 (List.mem_of_getElem? (i := 235) rfl) rfl
theorem kCO_X8_214 : Cond.constantLong RX8 214 (-3) ∈ BIG := mB_3 (List.mem_of_getElem? (i := 236) rfl) rfl
theorem kML_X8_216 : Cond.methodLink RX8 216 yX3_enough ∈ BIG := mB_3 (List.mem_of_getElem? (i := 237) rfl) rfl
theorem kIM_X3_enough : Cond.instanceMethod yX3_enough ∈ BIG := mB_3 (List.mem_of_getElem? (i := 238) rfl) rfl
theorem kSE_X3_enough : Cond.selects RX3 yX3_enough yX3_enough ∈ BIG := mB_3 (List.mem_of_getElem? (i := 239) rfl) rfl
theorem kCD_X3_enough : Cond.code yX3_enough cX3_enough 10 (Option.some .long) ∈ BIG := mB_4 (List.mem_of_getElem? (i := 0) rfl) rfl
theorem kML_X3_24 : Cond.methodLink RX3 24 yX3_begin ∈ BIG := mB_4 (List.mem_of_getElem? (i := 1) rfl) rfl
theorem kIM_X3_begin : Cond.instanceMethod yX3_begin ∈ BIG := mB_4 (List.mem_of_getElem? (i := 2) rfl) rfl
theorem kSE_X3_begin : Cond.selects RX3 yX3_begin yX3_begin ∈ BIG := mB_4 (List.mem_of_getElem? (i := 3) rfl) rfl
theorem kCD_X3_begin : Cond.code yX3_begin cX3_begin 2 none ∈ BIG := mB_4 (List.mem_of_getElem? (i := 4) rfl) rfl
theorem kML_X3_18 : Cond.methodLink RX3 18 yJ7_fill_d0a16 ∈ BIG := mB_4 (List.mem_of_getElem? (i := 5) rfl) rfl
theorem kST_J7_fill_d0a16 : Cond.static yJ7_fill_d0a16 ∈ BIG := mB_4 (List.mem_of_getElem? (i := 6) rfl) rfl
theorem kCD_J7_fill_d0a16 : Cond.code yJ7_fill_d0a16 cJ7_fill_d0a16 5 none ∈ BIG := mB_4 (List.mem_of_getElem? (i := 7) rfl) rfl
theorem kML_X3_28 : Cond.methodLink RX3 28 yX3_sumFrom ∈ BIG := mB_4 (List.mem_of_getElem? (i := 8) rfl) rfl
theorem kIM_X3_sumFrom : Cond.instanceMethod yX3_sumFrom ∈ BIG := mB_4 (List.mem_of_getElem? (i := 9) rfl) rfl
theorem kSE_X3_sumFrom : Cond.selects RX3 yX3_sumFrom yX3_sumFrom ∈ BIG := mB_4 (List.mem_of_getElem? (i := 10) rfl) rfl
theorem kCD_X3_sumFrom : Cond.code yX3_sumFrom cX3_sumFrom 5 (Option.some .long) ∈ BIG := mB_4 (List.mem_of_getElem? (i := 11) rfl) rfl
theorem kML_X3_38 : Cond.methodLink RX3 38 yJ9_max_7cf53 ∈ BIG := mB_4 (List.mem_of_getElem? (i := 12) rfl) rfl
theorem kML_X8_220 : Cond.methodLink RX8 220 yX8_tenToThe ∈ BIG := mB_4 (List.mem_of_getElem? (i := 13) rfl) rfl
theorem kST_X8_tenToThe : Cond.static yX8_tenToThe ∈ BIG := mB_4 (List.mem_of_getElem? (i := 14) rfl) rfl
theorem kCD_X8_tenToThe : Cond.code yX8_tenToThe cX8_tenToThe 4 (Option.some .long) ∈ BIG := mB_4 (List.mem_of_getElem? (i := 15) rfl) rfl
theorem kCO_X8_270 : Cond.constantLong RX8 270 10 ∈ BIG := mB_4 (List.mem_of_getElem? (i := 16) rfl) rfl
theorem kML_X8_224 : Cond.methodLink RX8 224 yX8_lowestTerm ∈ BIG := mB_4 (List.mem_of_getElem? (i := 17) rfl) rfl
theorem kST_X8_lowestTerm : Cond.static yX8_lowestTerm ∈ BIG := mB_4 (List.mem_of_getElem? (i := 18) rfl) rfl
theorem kCD_X8_lowestTerm : Cond.code yX8_lowestTerm cX8_lowestTerm 12 (Option.some .long) ∈ BIG := mB_4 (List.mem_of_getElem? (i := 19) rfl) rfl
theorem kML_L_98 : Cond.methodLink RL 98 yX8_cut ∈ BIG := mB_4 (List.mem_of_getElem? (i := 20) rfl) rfl
theorem kIM_X8_cut : Cond.instanceMethod yX8_cut ∈ BIG := mB_4 (List.mem_of_getElem? (i := 21) rfl) rfl
theorem kSE_X8_cut : Cond.selects RX8 yX8_cut yX8_cut ∈ BIG := mB_4 (List.mem_of_getElem? (i := 22) rfl) rfl
theorem kCD_X8_cut : Cond.code yX8_cut cX8_cut 9 (Option.some .long) ∈ BIG := mB_4 (List.mem_of_getElem? (i := 23) rfl) rfl
theorem kCO_X8_228 : Cond.constantLong RX8 228 (-2) ∈ BIG := mB_4 (List.mem_of_getElem? (i := 24) rfl) rfl
theorem kCO_X8_230 : Cond.constantLong RX8 230 (-4) ∈ BIG := mB_4 (List.mem_of_getElem? (i := 25) rfl) rfl
theorem kML_X8_232 : Cond.methodLink RX8 232 yX3_begin ∈ BIG := mB_4 (List.mem_of_getElem? (i := 26) rfl) rfl
theorem kML_X8_236 : Cond.methodLink RX8 236 yX3_drift ∈ BIG := mB_4 (List.mem_of_getElem? (i := 27) rfl) rfl
theorem kIM_X3_drift : Cond.instanceMethod yX3_drift ∈ BIG := mB_4 (List.mem_of_getElem? (i := 28) rfl) rfl
theorem kSE_X3_drift : Cond.selects RX3 yX3_drift yX3_drift ∈ BIG := mB_4 (List.mem_of_getElem? (i := 29) rfl) rfl
theorem kCD_X3_drift : Cond.code yX3_drift cX3_drift 7 none ∈ BIG := mB_4 (List.mem_of_getElem? (i := 30) rfl) rfl
theorem kML_X3_32 : Cond.methodLink RX3 32 arraycopyName ∈ BIG := mB_4 (List.mem_of_getElem? (i := 31) rfl) rfl
theorem kML_X8_239 : Cond.methodLink RX8 239 yX3_sumFrom ∈ BIG := mB_4 (List.mem_of_getElem? (i := 32) rfl) rfl
theorem kML_L_103 : Cond.methodLink RL 103 yX8_share ∈ BIG := mB_4 (List.mem_of_getElem? (i := 33) rfl) rfl
theorem kIM_X8_share : Cond.instanceMethod yX8_share ∈ BIG := mB_4 (List.mem_of_getElem? (i := 34) rfl) rfl
theorem kSE_X8_share : Cond.selects RX8 yX8_share yX8_share ∈ BIG := mB_4 (List.mem_of_getElem? (i := 35) rfl) rfl
theorem kCD_X8_share : Cond.code yX8_share cX8_share 3 (Option.some .int) ∈ BIG := mB_4 (List.mem_of_getElem? (i := 36) rfl) rfl
theorem kML_X8_242 : Cond.methodLink RX8 242 yX4_shareOf ∈ BIG := mB_4 (List.mem_of_getElem? (i := 37) rfl) rfl
theorem kIM_X4_shareOf : Cond.instanceMethod yX4_shareOf ∈ BIG := mB_4 (List.mem_of_getElem? (i := 38) rfl) rfl
theorem kSE_X4_shareOf : Cond.selects RX4 yX4_shareOf yX4_shareOf ∈ BIG := mB_4 (List.mem_of_getElem? (i := 39) rfl) rfl
theorem kCD_X4_shareOf : Cond.code yX4_shareOf cX4_shareOf 9 (Option.some .int) ∈ BIG := mB_4 (List.mem_of_getElem? (i := 40) rfl) rfl
theorem kML_L_107 : Cond.methodLink RL 107 yX8_count ∈ BIG := mB_4 (List.mem_of_getElem? (i := 41) rfl) rfl
theorem kIM_X8_count : Cond.instanceMethod yX8_count ∈ BIG := mB_4 (List.mem_of_getElem? (i := 42) rfl) rfl
theorem kSE_X8_count : Cond.selects RX8 yX8_count yX8_count ∈ BIG := mB_4 (List.mem_of_getElem? (i := 43) rfl) rfl
theorem kCD_X8_count : Cond.code yX8_count cX8_count 2 (Option.some .int) ∈ BIG := mB_4 (List.mem_of_getElem? (i := 44) rfl) rfl
theorem kML_X8_245 : Cond.methodLink RX8 245 yX4_kiteBits ∈ BIG := mB_4 (List.mem_of_getElem? (i := 45) rfl) rfl
theorem kIM_X4_kiteBits : Cond.instanceMethod yX4_kiteBits ∈ BIG := mB_4 (List.mem_of_getElem? (i := 46) rfl) rfl
theorem kSE_X4_kiteBits : Cond.selects RX4 yX4_kiteBits yX4_kiteBits ∈ BIG := mB_4 (List.mem_of_getElem? (i := 47) rfl) rfl
theorem kCD_X4_kiteBits : Cond.code yX4_kiteBits cX4_kiteBits 3 (Option.some .int) ∈ BIG := mB_4 (List.mem_of_getElem? (i := 48) rfl) rfl
theorem kML_X8_249 : Cond.methodLink RX8 249 yX4_shoalBits ∈ BIG := mB_4 (List.mem_of_getElem? (i := 49) rfl) rfl
theorem kIM_X4_shoalBits : Cond.instanceMethod yX4_shoalBits ∈ BIG := mB_4 (List.mem_of_getElem? (i := 50) rfl) rfl
theorem kSE_X4_shoalBits : Cond.selects RX4 yX4_shoalBits yX4_shoalBits ∈ BIG := mB_4 (List.mem_of_getElem? (i := 51) rfl) rfl
theorem kCD_X4_shoalBits : Cond.code yX4_shoalBits cX4_shoalBits 3 (Option.some .int) ∈ BIG := mB_4 (List.mem_of_getElem? (i := 52) rfl) rfl
theorem kCL_L_10 : Cond.classLink RL 10 RX9 ∈ BIG := mB_4 (List.mem_of_getElem? (i := 53) rfl) rfl
theorem kIS_X9 : Cond.instantiable RX9 24 ∈ BIG := mB_4 (List.mem_of_getElem? (i := 54) rfl) rfl
theorem kML_L_12 : Cond.methodLink RL 12 yX9_init ∈ BIG := mB_4 (List.mem_of_getElem? (i := 55) rfl) rfl
theorem kIM_X9_init : Cond.instanceMethod yX9_init ∈ BIG := mB_4 (List.mem_of_getElem? (i := 56) rfl) rfl
theorem kCD_X9_init : Cond.code yX9_init cX9_init 1 none ∈ BIG := mB_4 (List.mem_of_getElem? (i := 57) rfl) rfl
theorem kML_X9_1 : Cond.methodLink RX9 1 objectInit ∈ BIG := mB_4 (List.mem_of_getElem? (i := 58) rfl) rfl
theorem kML_X9_42 : Cond.methodLink RX9 42 yX9_begin ∈ BIG := mB_4 (List.mem_of_getElem? (i := 59) rfl) rfl
theorem kIM_X9_begin : Cond.instanceMethod yX9_begin ∈ BIG := mB_4 (List.mem_of_getElem? (i := 61) rfl) rfl
theorem kCD_X9_begin : Cond.code yX9_begin cX9_begin 2 none ∈ BIG := mB_4 (List.mem_of_getElem? (i := 62) rfl) rfl
theorem kML_X9_158 : Cond.methodLink RX9 158 yX9_anew ∈ BIG := mB_4 (List.mem_of_getElem? (i := 63) rfl) rfl
theorem kIM_X9_anew : Cond.instanceMethod yX9_anew ∈ BIG := mB_4 (List.mem_of_getElem? (i := 65) rfl) rfl
theorem kCD_X9_anew : Cond.code yX9_anew cX9_anew 2 none ∈ BIG := mB_4 (List.mem_of_getElem? (i := 66) rfl) rfl
theorem kML_X9_45 : Cond.methodLink RX9 45 yX9_in ∈ BIG := mB_4 (List.mem_of_getElem? (i := 67) rfl) rfl
theorem kST_X9_in : Cond.static yX9_in ∈ BIG := mB_4 (List.mem_of_getElem? (i := 68) rfl) rfl
theorem kCD_X9_in : Cond.code yX9_in cX9_in 3 (Option.some .boolean) ∈ BIG := mB_4 (List.mem_of_getElem? (i := 69) rfl) rfl
theorem kFL_X9_7 : Cond.fieldLink RX9 7 "FishingKitesModel" "wind" "[I" ∈ BIG := mB_4 (List.mem_of_getElem? (i := 70) rfl) rfl
theorem kFL_X9_49 : Cond.fieldLink RX9 49 "FishingKitesModel" "kites" "I" ∈ BIG := mB_4 (List.mem_of_getElem? (i := 71) rfl) rfl
theorem kFL_X9_13 : Cond.fieldLink RX9 13 "FishingKitesModel" "kite" "[I" ∈ BIG := mB_4 (List.mem_of_getElem? (i := 72) rfl) rfl
theorem kFL_X9_149 : Cond.fieldLink RX9 149 "FishingKitesModel" "shoals" "I" ∈ BIG := mB_4 (List.mem_of_getElem? (i := 73) rfl) rfl
theorem kFL_X9_16 : Cond.fieldLink RX9 16 "FishingKitesModel" "shoal" "[I" ∈ BIG := mB_4 (List.mem_of_getElem? (i := 74) rfl) rfl
theorem kFL_X9_152 : Cond.fieldLink RX9 152 "FishingKitesModel" "law" "I" ∈ BIG := mB_4 (List.mem_of_getElem? (i := 75) rfl) rfl
theorem kFL_X9_19 : Cond.fieldLink RX9 19 "FishingKitesModel" "stock" "I" ∈ BIG := mB_4 (List.mem_of_getElem? (i := 76) rfl) rfl
theorem kFL_X9_143 : Cond.fieldLink RX9 143 "FishingKitesModel" "fog" "I" ∈ BIG := mB_4 (List.mem_of_getElem? (i := 77) rfl) rfl
theorem kFL_X9_146 : Cond.fieldLink RX9 146 "FishingKitesModel" "gulls" "I" ∈ BIG := mB_4 (List.mem_of_getElem? (i := 78) rfl) rfl
theorem kFL_X9_56 : Cond.fieldLink RX9 56 "FishingKitesModel" "bytes" "I" ∈ BIG := mB_4 (List.mem_of_getElem? (i := 79) rfl) rfl
theorem kFL_X9_23 : Cond.fieldLink RX9 23 "FishingKitesModel" "text" "[I" ∈ BIG := mB_4 (List.mem_of_getElem? (i := 80) rfl) rfl
theorem kFL_X9_61 : Cond.fieldLink RX9 61 "FishingKitesModel" "position" "I" ∈ BIG := mB_4 (List.mem_of_getElem? (i := 81) rfl) rfl
theorem kFL_X9_64 : Cond.fieldLink RX9 64 "FishingKitesModel" "tokenAt" "I" ∈ BIG := mB_4 (List.mem_of_getElem? (i := 82) rfl) rfl
theorem kFL_X9_75 : Cond.fieldLink RX9 75 "FishingKitesModel" "token" "J" ∈ BIG := mB_4 (List.mem_of_getElem? (i := 83) rfl) rfl
theorem kFL_X9_67 : Cond.fieldLink RX9 67 "FishingKitesModel" "digits" "I" ∈ BIG := mB_4 (List.mem_of_getElem? (i := 84) rfl) rfl
theorem kFL_X9_70 : Cond.fieldLink RX9 70 "FishingKitesModel" "number" "I" ∈ BIG := mB_4 (List.mem_of_getElem? (i := 85) rfl) rfl
theorem kFL_X9_89 : Cond.fieldLink RX9 89 "FishingKitesModel" "faultAt" "I" ∈ BIG := mB_4 (List.mem_of_getElem? (i := 86) rfl) rfl
theorem kFL_X9_130 : Cond.fieldLink RX9 130 "FishingKitesModel" "readMany" "I" ∈ BIG := mB_4 (List.mem_of_getElem? (i := 87) rfl) rfl
theorem kFL_X9_26 : Cond.fieldLink RX9 26 "FishingKitesModel" "read" "[I" ∈ BIG := mB_4 (List.mem_of_getElem? (i := 88) rfl) rfl
theorem kFL_X9_29 : Cond.fieldLink RX9 29 "FishingKitesModel" "now" "[I" ∈ BIG := mB_4 (List.mem_of_getElem? (i := 89) rfl) rfl
theorem kFL_X9_32 : Cond.fieldLink RX9 32 "FishingKitesModel" "aside" "[I" ∈ BIG := mB_4 (List.mem_of_getElem? (i := 90) rfl) rfl
theorem kFL_X9_35 : Cond.fieldLink RX9 35 "FishingKitesModel" "image" "[I" ∈ BIG := mB_4 (List.mem_of_getElem? (i := 91) rfl) rfl
theorem kFL_X9_38 : Cond.fieldLink RX9 38 "FishingKitesModel" "isKept" "[Z" ∈ BIG := mB_4 (List.mem_of_getElem? (i := 92) rfl) rfl
theorem kFL_X9_213 : Cond.fieldLink RX9 213 "FishingKitesModel" "triedMost" "I" ∈ BIG := mB_4 (List.mem_of_getElem? (i := 93) rfl) rfl
theorem kAC_boolean : Cond.arrayClass .boolean ∈ BIG := mB_4 (List.mem_of_getElem? (i := 143) rfl) rfl
theorem kML_L_19 : Cond.methodLink RL 19 yX9_write ∈ BIG := mB_4 (List.mem_of_getElem? (i := 144) rfl) rfl
theorem kIM_X9_write : Cond.instanceMethod yX9_write ∈ BIG := mB_4 (List.mem_of_getElem? (i := 145) rfl) rfl
theorem kSE_X9_write : Cond.selects RX9 yX9_write yX9_write ∈ BIG := mB_4 (List.mem_of_getElem? (i := 146) rfl) rfl
theorem kCD_X9_write : Cond.code yX9_write cX9_write 5 (Option.some .int) ∈ BIG := mB_4 (List.mem_of_getElem? (i := 147) rfl) rfl
theorem kCO_X9_59 : Cond.constantLong RX9 59 255 ∈ BIG := mB_4 (List.mem_of_getElem? (i := 148) rfl) rfl
theorem kML_L_24 : Cond.methodLink RL 24 yX9_erase ∈ BIG := mB_4 (List.mem_of_getElem? (i := 149) rfl) rfl
theorem kIM_X9_erase : Cond.instanceMethod yX9_erase ∈ BIG := mB_4 (List.mem_of_getElem? (i := 150) rfl) rfl
theorem kSE_X9_erase : Cond.selects RX9 yX9_erase yX9_erase ∈ BIG := mB_4 (List.mem_of_getElem? (i := 151) rfl) rfl
theorem kCD_X9_erase : Cond.code yX9_erase cX9_erase 2 (Option.some .int) ∈ BIG := mB_4 (List.mem_of_getElem? (i := 152) rfl) rfl
theorem kML_L_28 : Cond.methodLink RL 28 yX9_fault ∈ BIG := mB_4 (List.mem_of_getElem? (i := 153) rfl) rfl
theorem kIM_X9_fault : Cond.instanceMethod yX9_fault ∈ BIG := mB_4 (List.mem_of_getElem? (i := 154) rfl) rfl
theorem kSE_X9_fault : Cond.selects RX9 yX9_fault yX9_fault ∈ BIG := mB_4 (List.mem_of_getElem? (i := 155) rfl) rfl
theorem kCD_X9_fault : Cond.code yX9_fault cX9_fault 1 (Option.some .int) ∈ BIG := mB_4 (List.mem_of_getElem? (i := 156) rfl) rfl
theorem kML_X9_136 : Cond.methodLink RX9 136 yX9_isRead ∈ BIG := mB_4 (List.mem_of_getElem? (i := 157) rfl) rfl
theorem kIM_X9_isRead : Cond.instanceMethod yX9_isRead ∈ BIG := mB_4 (List.mem_of_getElem? (i := 159) rfl) rfl
theorem kCD_X9_isRead : Cond.code yX9_isRead cX9_isRead 2 (Option.some .boolean) ∈ BIG := mB_4 (List.mem_of_getElem? (i := 160) rfl) rfl
theorem kML_X9_133 : Cond.methodLink RX9 133 yX9_isLine ∈ BIG := mB_4 (List.mem_of_getElem? (i := 161) rfl) rfl
theorem kIM_X9_isLine : Cond.instanceMethod yX9_isLine ∈ BIG := mB_4 (List.mem_of_getElem? (i := 163) rfl) rfl
theorem kCD_X9_isLine : Cond.code yX9_isLine cX9_isLine 4 (Option.some .boolean) ∈ BIG := mB_4 (List.mem_of_getElem? (i := 164) rfl) rfl
theorem kML_X9_92 : Cond.methodLink RX9 92 yX9_nextToken ∈ BIG := mB_4 (List.mem_of_getElem? (i := 165) rfl) rfl
theorem kIM_X9_nextToken : Cond.instanceMethod yX9_nextToken ∈ BIG := mB_4 (List.mem_of_getElem? (i := 167) rfl) rfl
theorem kCD_X9_nextToken : Cond.code yX9_nextToken cX9_nextToken 1 none ∈ BIG := mB_4 (List.mem_of_getElem? (i := 168) rfl) rfl
theorem kCO_X9_73 : Cond.constantLong RX9 73 (-2) ∈ BIG := mB_4 (List.mem_of_getElem? (i := 169) rfl) rfl
theorem kCO_X9_79 : Cond.constantLong RX9 79 27 ∈ BIG := mB_4 (List.mem_of_getElem? (i := 170) rfl) rfl
theorem kCO_X9_81 : Cond.constantLong RX9 81 96 ∈ BIG := mB_4 (List.mem_of_getElem? (i := 171) rfl) rfl
theorem kCO_X9_83 : Cond.constantLong RX9 83 (-4) ∈ BIG := mB_4 (List.mem_of_getElem? (i := 172) rfl) rfl
theorem kCO_X9_85 : Cond.constantLong RX9 85 (-1) ∈ BIG := mB_4 (List.mem_of_getElem? (i := 173) rfl) rfl
theorem kCO_X9_87 : Cond.constantLong RX9 87 (-3) ∈ BIG := mB_4 (List.mem_of_getElem? (i := 174) rfl) rfl
theorem kCO_X9_102 : Cond.constantLong RX9 102 459652 ∈ BIG := mB_4 (List.mem_of_getElem? (i := 175) rfl) rfl
theorem kCO_X9_104 : Cond.constantLong RX9 104 223619 ∈ BIG := mB_4 (List.mem_of_getElem? (i := 176) rfl) rfl
theorem kCO_X9_106 : Cond.constantLong RX9 106 10265817 ∈ BIG := mB_4 (List.mem_of_getElem? (i := 177) rfl) rfl
theorem kCO_X9_108 : Cond.constantLong RX9 108 8798 ∈ BIG := mB_4 (List.mem_of_getElem? (i := 178) rfl) rfl
theorem kCO_X9_110 : Cond.constantLong RX9 110 10502066 ∈ BIG := mB_4 (List.mem_of_getElem? (i := 179) rfl) rfl
theorem kCO_X9_112 : Cond.constantLong RX9 112 4786 ∈ BIG := mB_4 (List.mem_of_getElem? (i := 180) rfl) rfl
theorem kCO_X9_114 : Cond.constantLong RX9 114 4142521 ∈ BIG := mB_4 (List.mem_of_getElem? (i := 181) rfl) rfl
theorem kCO_X9_116 : Cond.constantLong RX9 116 60115 ∈ BIG := mB_4 (List.mem_of_getElem? (i := 182) rfl) rfl
theorem kCO_X9_118 : Cond.constantLong RX9 118 247664 ∈ BIG := mB_4 (List.mem_of_getElem? (i := 183) rfl) rfl
theorem kML_X9_99 : Cond.methodLink RX9 99 yX9_isNumber ∈ BIG := mB_4 (List.mem_of_getElem? (i := 184) rfl) rfl
theorem kIM_X9_isNumber : Cond.instanceMethod yX9_isNumber ∈ BIG := mB_4 (List.mem_of_getElem? (i := 186) rfl) rfl
theorem kCD_X9_isNumber : Cond.code yX9_isNumber cX9_isNumber 4 (Option.some .boolean) ∈ BIG := mB_4 (List.mem_of_getElem? (i := 187) rfl) rfl
theorem kML_X9_95 : Cond.methodLink RX9 95 yX9_fails ∈ BIG := mB_4 (List.mem_of_getElem? (i := 188) rfl) rfl
theorem kIM_X9_fails : Cond.instanceMethod yX9_fails ∈ BIG := mB_4 (List.mem_of_getElem? (i := 190) rfl) rfl
theorem kCD_X9_fails : Cond.code yX9_fails cX9_fails 1 (Option.some .boolean) ∈ BIG := mB_4 (List.mem_of_getElem? (i := 191) rfl) rfl
theorem kML_X9_120 : Cond.methodLink RX9 120 yX9_areHours ∈ BIG := mB_4 (List.mem_of_getElem? (i := 192) rfl) rfl
theorem kIM_X9_areHours : Cond.instanceMethod yX9_areHours ∈ BIG := mB_4 (List.mem_of_getElem? (i := 194) rfl) rfl
theorem kCD_X9_areHours : Cond.code yX9_areHours cX9_areHours 2 (Option.some .boolean) ∈ BIG := mB_4 (List.mem_of_getElem? (i := 195) rfl) rfl
theorem kML_X9_124 : Cond.methodLink RX9 124 yX9_isKiteLine ∈ BIG := mB_4 (List.mem_of_getElem? (i := 196) rfl) rfl
theorem kIM_X9_isKiteLine : Cond.instanceMethod yX9_isKiteLine ∈ BIG := mB_4 (List.mem_of_getElem? (i := 198) rfl) rfl
theorem kCD_X9_isKiteLine : Cond.code yX9_isKiteLine cX9_isKiteLine 2 (Option.some .boolean) ∈ BIG := mB_4 (List.mem_of_getElem? (i := 199) rfl) rfl
theorem kML_X9_127 : Cond.methodLink RX9 127 yX9_isShoalLine ∈ BIG := mB_4 (List.mem_of_getElem? (i := 200) rfl) rfl
theorem kIM_X9_isShoalLine : Cond.instanceMethod yX9_isShoalLine ∈ BIG := mB_4 (List.mem_of_getElem? (i := 202) rfl) rfl
theorem kCD_X9_isShoalLine : Cond.code yX9_isShoalLine cX9_isShoalLine 2 (Option.some .boolean) ∈ BIG := mB_4 (List.mem_of_getElem? (i := 203) rfl) rfl
theorem kML_L_32 : Cond.methodLink RL 32 yX9_cliff ∈ BIG := mB_4 (List.mem_of_getElem? (i := 204) rfl) rfl
theorem kIM_X9_cliff : Cond.instanceMethod yX9_cliff ∈ BIG := mB_4 (List.mem_of_getElem? (i := 205) rfl) rfl
theorem kSE_X9_cliff : Cond.selects RX9 yX9_cliff yX9_cliff ∈ BIG := mB_4 (List.mem_of_getElem? (i := 206) rfl) rfl
theorem kCD_X9_cliff : Cond.code yX9_cliff cX9_cliff 2 (Option.some .int) ∈ BIG := mB_4 (List.mem_of_getElem? (i := 207) rfl) rfl
theorem kML_X9_161 : Cond.methodLink RX9 161 yX9_doLine ∈ BIG := mB_4 (List.mem_of_getElem? (i := 208) rfl) rfl
theorem kIM_X9_doLine : Cond.instanceMethod yX9_doLine ∈ BIG := mB_4 (List.mem_of_getElem? (i := 210) rfl) rfl
theorem kCD_X9_doLine : Cond.code yX9_doLine cX9_doLine 4 none ∈ BIG := mB_4 (List.mem_of_getElem? (i := 211) rfl) rfl
theorem kML_X9_139 : Cond.methodLink RX9 139 yX9_putWind ∈ BIG := mB_4 (List.mem_of_getElem? (i := 212) rfl) rfl
theorem kIM_X9_putWind : Cond.instanceMethod yX9_putWind ∈ BIG := mB_4 (List.mem_of_getElem? (i := 214) rfl) rfl
theorem kCD_X9_putWind : Cond.code yX9_putWind cX9_putWind 7 none ∈ BIG := mB_4 (List.mem_of_getElem? (i := 215) rfl) rfl
theorem kML_X9_155 : Cond.methodLink RX9 155 yX9_calm ∈ BIG := mB_4 (List.mem_of_getElem? (i := 216) rfl) rfl
theorem kIM_X9_calm : Cond.instanceMethod yX9_calm ∈ BIG := mB_4 (List.mem_of_getElem? (i := 218) rfl) rfl
theorem kCD_X9_calm : Cond.code yX9_calm cX9_calm 2 none ∈ BIG := mB_4 (List.mem_of_getElem? (i := 219) rfl) rfl
theorem kML_L_37 : Cond.methodLink RL 37 yX9_wind ∈ BIG := mB_4 (List.mem_of_getElem? (i := 220) rfl) rfl
theorem kIM_X9_wind : Cond.instanceMethod yX9_wind ∈ BIG := mB_4 (List.mem_of_getElem? (i := 221) rfl) rfl
theorem kSE_X9_wind : Cond.selects RX9 yX9_wind yX9_wind ∈ BIG := mB_4 (List.mem_of_getElem? (i := 222) rfl) rfl
theorem kCD_X9_wind : Cond.code yX9_wind cX9_wind 4 (Option.some .int) ∈ BIG := mB_4 (List.mem_of_getElem? (i := 223) rfl) rfl
theorem kML_X9_165 : Cond.methodLink RX9 165 yX9_isHeight ∈ BIG := mB_4 (List.mem_of_getElem? (i := 224) rfl) rfl
theorem kST_X9_isHeight : Cond.static yX9_isHeight ∈ BIG := mB_4 (List.mem_of_getElem? (i := 225) rfl) rfl
theorem kCD_X9_isHeight : Cond.code yX9_isHeight cX9_isHeight 1 (Option.some .boolean) ∈ BIG := mB_4 (List.mem_of_getElem? (i := 226) rfl) rfl
theorem kML_X9_168 : Cond.methodLink RX9 168 yX9_isHour ∈ BIG := mB_4 (List.mem_of_getElem? (i := 227) rfl) rfl
theorem kST_X9_isHour : Cond.static yX9_isHour ∈ BIG := mB_4 (List.mem_of_getElem? (i := 228) rfl) rfl
theorem kCD_X9_isHour : Cond.code yX9_isHour cX9_isHour 1 (Option.some .boolean) ∈ BIG := mB_4 (List.mem_of_getElem? (i := 229) rfl) rfl
theorem kML_L_42 : Cond.methodLink RL 42 yX9_shoal ∈ BIG := mB_4 (List.mem_of_getElem? (i := 230) rfl) rfl
theorem kIM_X9_shoal : Cond.instanceMethod yX9_shoal ∈ BIG := mB_4 (List.mem_of_getElem? (i := 231) rfl) rfl
theorem kSE_X9_shoal : Cond.selects RX9 yX9_shoal yX9_shoal ∈ BIG := mB_4 (List.mem_of_getElem? (i := 232) rfl) rfl
theorem kCD_X9_shoal : Cond.code yX9_shoal cX9_shoal 3 (Option.some .int) ∈ BIG := mB_4 (List.mem_of_getElem? (i := 233) rfl) rfl
theorem kML_X9_52 : Cond.methodLink RX9 52 yX9_has ∈ BIG := mB_4 (List.mem_of_getElem? (i := 234) rfl) rfl
theorem kST_X9_has : Cond.static yX9_has ∈ BIG := mB_4 (List.mem_of_getElem? (i := 235) rfl) rfl
theorem kCD_X9_has : Cond.code yX9_has cX9_has 2 (Option.some .boolean) ∈ BIG := mB_4 (List.mem_of_getElem? (i := 236) rfl) rfl
theorem kML_L_46 : Cond.methodLink RL 46 yX9_ask ∈ BIG := mB_4 (List.mem_of_getElem? (i := 237) rfl) rfl
theorem kIM_X9_ask : Cond.instanceMethod yX9_ask ∈ BIG := mB_4 (List.mem_of_getElem? (i := 238) rfl) rfl
theorem kSE_X9_ask : Cond.selects RX9 yX9_ask yX9_ask ∈ BIG := mB_4 (List.mem_of_getElem? (i := 239) rfl) rfl
theorem kCD_X9_ask : Cond.code yX9_ask cX9_ask 4 (Option.some .int) ∈ BIG := mB_5 (List.mem_of_getElem? (i := 0) rfl) rfl
theorem kML_X9_171 : Cond.methodLink RX9 171 yX9_isKite ∈ BIG := mB_5 (List.mem_of_getElem? (i := 1) rfl) rfl
theorem kIM_X9_isKite : Cond.instanceMethod yX9_isKite ∈ BIG := mB_5 (List.mem_of_getElem? (i := 3) rfl) rfl
theorem kCD_X9_isKite : Cond.code yX9_isKite cX9_isKite 2 (Option.some .boolean) ∈ BIG := mB_5 (List.mem_of_getElem? (i := 4) rfl) rfl
theorem kML_L_51 : Cond.methodLink RL 51 yX9_go ∈ BIG := mB_5 (List.mem_of_getElem? (i := 5) rfl) rfl
theorem kIM_X9_go : Cond.instanceMethod yX9_go ∈ BIG := mB_5 (List.mem_of_getElem? (i := 6) rfl) rfl
theorem kSE_X9_go : Cond.selects RX9 yX9_go yX9_go ∈ BIG := mB_5 (List.mem_of_getElem? (i := 7) rfl) rfl
theorem kCD_X9_go : Cond.code yX9_go cX9_go 3 (Option.some .int) ∈ BIG := mB_5 (List.mem_of_getElem? (i := 8) rfl) rfl
theorem kML_X9_202 : Cond.methodLink RX9 202 yX9_goHour ∈ BIG := mB_5 (List.mem_of_getElem? (i := 9) rfl) rfl
theorem kIM_X9_goHour : Cond.instanceMethod yX9_goHour ∈ BIG := mB_5 (List.mem_of_getElem? (i := 11) rfl) rfl
theorem kCD_X9_goHour : Cond.code yX9_goHour cX9_goHour 3 none ∈ BIG := mB_5 (List.mem_of_getElem? (i := 12) rfl) rfl
theorem kML_X9_195 : Cond.methodLink RX9 195 yX9_findUp ∈ BIG := mB_5 (List.mem_of_getElem? (i := 13) rfl) rfl
theorem kIM_X9_findUp : Cond.instanceMethod yX9_findUp ∈ BIG := mB_5 (List.mem_of_getElem? (i := 15) rfl) rfl
theorem kCD_X9_findUp : Cond.code yX9_findUp cX9_findUp 7 none ∈ BIG := mB_5 (List.mem_of_getElem? (i := 16) rfl) rfl
theorem kML_X9_182 : Cond.methodLink RX9 182 yX9_hasLift ∈ BIG := mB_5 (List.mem_of_getElem? (i := 17) rfl) rfl
theorem kIM_X9_hasLift : Cond.instanceMethod yX9_hasLift ∈ BIG := mB_5 (List.mem_of_getElem? (i := 19) rfl) rfl
theorem kCD_X9_hasLift : Cond.code yX9_hasLift cX9_hasLift 4 (Option.some .boolean) ∈ BIG := mB_5 (List.mem_of_getElem? (i := 20) rfl) rfl
theorem kML_X9_185 : Cond.methodLink RX9 185 yX9_isInSea ∈ BIG := mB_5 (List.mem_of_getElem? (i := 21) rfl) rfl
theorem kIM_X9_isInSea : Cond.instanceMethod yX9_isInSea ∈ BIG := mB_5 (List.mem_of_getElem? (i := 23) rfl) rfl
theorem kCD_X9_isInSea : Cond.code yX9_isInSea cX9_isInSea 4 (Option.some .boolean) ∈ BIG := mB_5 (List.mem_of_getElem? (i := 24) rfl) rfl
theorem kML_X9_174 : Cond.methodLink RX9 174 yX9_xOf ∈ BIG := mB_5 (List.mem_of_getElem? (i := 25) rfl) rfl
theorem kIM_X9_xOf : Cond.instanceMethod yX9_xOf ∈ BIG := mB_5 (List.mem_of_getElem? (i := 27) rfl) rfl
theorem kCD_X9_xOf : Cond.code yX9_xOf cX9_xOf 4 (Option.some .int) ∈ BIG := mB_5 (List.mem_of_getElem? (i := 28) rfl) rfl
theorem kML_X9_178 : Cond.methodLink RX9 178 yX9_yOf ∈ BIG := mB_5 (List.mem_of_getElem? (i := 29) rfl) rfl
theorem kIM_X9_yOf : Cond.instanceMethod yX9_yOf ∈ BIG := mB_5 (List.mem_of_getElem? (i := 31) rfl) rfl
theorem kCD_X9_yOf : Cond.code yX9_yOf cX9_yOf 3 (Option.some .int) ∈ BIG := mB_5 (List.mem_of_getElem? (i := 32) rfl) rfl
theorem kML_X9_188 : Cond.methodLink RX9 188 yX9_doTangle ∈ BIG := mB_5 (List.mem_of_getElem? (i := 33) rfl) rfl
theorem kIM_X9_doTangle : Cond.instanceMethod yX9_doTangle ∈ BIG := mB_5 (List.mem_of_getElem? (i := 35) rfl) rfl
theorem kCD_X9_doTangle : Cond.code yX9_doTangle cX9_doTangle 7 (Option.some .boolean) ∈ BIG := mB_5 (List.mem_of_getElem? (i := 36) rfl) rfl
theorem kML_X9_192 : Cond.methodLink RX9 192 yX9_givesWay ∈ BIG := mB_5 (List.mem_of_getElem? (i := 37) rfl) rfl
theorem kIM_X9_givesWay : Cond.instanceMethod yX9_givesWay ∈ BIG := mB_5 (List.mem_of_getElem? (i := 39) rfl) rfl
theorem kCD_X9_givesWay : Cond.code yX9_givesWay cX9_givesWay 4 (Option.some .int) ∈ BIG := mB_5 (List.mem_of_getElem? (i := 40) rfl) rfl
theorem kML_X9_198 : Cond.methodLink RX9 198 yX9_take ∈ BIG := mB_5 (List.mem_of_getElem? (i := 41) rfl) rfl
theorem kIM_X9_take : Cond.instanceMethod yX9_take ∈ BIG := mB_5 (List.mem_of_getElem? (i := 43) rfl) rfl
theorem kCD_X9_take : Cond.code yX9_take cX9_take 9 none ∈ BIG := mB_5 (List.mem_of_getElem? (i := 44) rfl) rfl
theorem kML_L_55 : Cond.methodLink RL 55 yX9_kite ∈ BIG := mB_5 (List.mem_of_getElem? (i := 45) rfl) rfl
theorem kIM_X9_kite : Cond.instanceMethod yX9_kite ∈ BIG := mB_5 (List.mem_of_getElem? (i := 46) rfl) rfl
theorem kSE_X9_kite : Cond.selects RX9 yX9_kite yX9_kite ∈ BIG := mB_5 (List.mem_of_getElem? (i := 47) rfl) rfl
theorem kCD_X9_kite : Cond.code yX9_kite cX9_kite 3 (Option.some .int) ∈ BIG := mB_5 (List.mem_of_getElem? (i := 48) rfl) rfl
theorem kML_L_59 : Cond.methodLink RL 59 yX9_where ∈ BIG := mB_5 (List.mem_of_getElem? (i := 49) rfl) rfl
theorem kIM_X9_where : Cond.instanceMethod yX9_where ∈ BIG := mB_5 (List.mem_of_getElem? (i := 50) rfl) rfl
theorem kSE_X9_where : Cond.selects RX9 yX9_where yX9_where ∈ BIG := mB_5 (List.mem_of_getElem? (i := 51) rfl) rfl
theorem kCD_X9_where : Cond.code yX9_where cX9_where 4 (Option.some .int) ∈ BIG := mB_5 (List.mem_of_getElem? (i := 52) rfl) rfl
theorem kML_L_63 : Cond.methodLink RL 63 yX9_hinders ∈ BIG := mB_5 (List.mem_of_getElem? (i := 53) rfl) rfl
theorem kIM_X9_hinders : Cond.instanceMethod yX9_hinders ∈ BIG := mB_5 (List.mem_of_getElem? (i := 54) rfl) rfl
theorem kSE_X9_hinders : Cond.selects RX9 yX9_hinders yX9_hinders ∈ BIG := mB_5 (List.mem_of_getElem? (i := 55) rfl) rfl
theorem kCD_X9_hinders : Cond.code yX9_hinders cX9_hinders 4 (Option.some .int) ∈ BIG := mB_5 (List.mem_of_getElem? (i := 56) rfl) rfl
theorem kML_L_68 : Cond.methodLink RL 68 yX9_tangle ∈ BIG := mB_5 (List.mem_of_getElem? (i := 57) rfl) rfl
theorem kIM_X9_tangle : Cond.instanceMethod yX9_tangle ∈ BIG := mB_5 (List.mem_of_getElem? (i := 58) rfl) rfl
theorem kSE_X9_tangle : Cond.selects RX9 yX9_tangle yX9_tangle ∈ BIG := mB_5 (List.mem_of_getElem? (i := 59) rfl) rfl
theorem kCD_X9_tangle : Cond.code yX9_tangle cX9_tangle 5 (Option.some .int) ∈ BIG := mB_5 (List.mem_of_getElem? (i := 60) rfl) rfl
theorem kML_L_72 : Cond.methodLink RL 72 yX9_taking ∈ BIG := mB_5 (List.mem_of_getElem? (i := 61) rfl) rfl
theorem kIM_X9_taking : Cond.instanceMethod yX9_taking ∈ BIG := mB_5 (List.mem_of_getElem? (i := 62) rfl) rfl
theorem kSE_X9_taking : Cond.selects RX9 yX9_taking yX9_taking ∈ BIG := mB_5 (List.mem_of_getElem? (i := 63) rfl) rfl
theorem kCD_X9_taking : Cond.code yX9_taking cX9_taking 3 (Option.some .int) ∈ BIG := mB_5 (List.mem_of_getElem? (i := 64) rfl) rfl
theorem kML_L_76 : Cond.methodLink RL 76 yX9_keep ∈ BIG := mB_5 (List.mem_of_getElem? (i := 65) rfl) rfl
theorem kIM_X9_keep : Cond.instanceMethod yX9_keep ∈ BIG := mB_5 (List.mem_of_getElem? (i := 66) rfl) rfl
theorem kSE_X9_keep : Cond.selects RX9 yX9_keep yX9_keep ∈ BIG := mB_5 (List.mem_of_getElem? (i := 67) rfl) rfl
theorem kCD_X9_keep : Cond.code yX9_keep cX9_keep 2 (Option.some .int) ∈ BIG := mB_5 (List.mem_of_getElem? (i := 68) rfl) rfl
theorem kML_X9_205 : Cond.methodLink RX9 205 yX9_copy ∈ BIG := mB_5 (List.mem_of_getElem? (i := 69) rfl) rfl
theorem kST_X9_copy : Cond.static yX9_copy ∈ BIG := mB_5 (List.mem_of_getElem? (i := 70) rfl) rfl
theorem kCD_X9_copy : Cond.code yX9_copy cX9_copy 5 none ∈ BIG := mB_5 (List.mem_of_getElem? (i := 71) rfl) rfl
theorem kML_L_80 : Cond.methodLink RL 80 yX9_back ∈ BIG := mB_5 (List.mem_of_getElem? (i := 72) rfl) rfl
theorem kIM_X9_back : Cond.instanceMethod yX9_back ∈ BIG := mB_5 (List.mem_of_getElem? (i := 73) rfl) rfl
theorem kSE_X9_back : Cond.selects RX9 yX9_back yX9_back ∈ BIG := mB_5 (List.mem_of_getElem? (i := 74) rfl) rfl
theorem kCD_X9_back : Cond.code yX9_back cX9_back 2 (Option.some .int) ∈ BIG := mB_5 (List.mem_of_getElem? (i := 75) rfl) rfl
theorem kML_L_84 : Cond.methodLink RL 84 yX9_best ∈ BIG := mB_5 (List.mem_of_getElem? (i := 76) rfl) rfl
theorem kIM_X9_best : Cond.instanceMethod yX9_best ∈ BIG := mB_5 (List.mem_of_getElem? (i := 77) rfl) rfl
theorem kSE_X9_best : Cond.selects RX9 yX9_best yX9_best ∈ BIG := mB_5 (List.mem_of_getElem? (i := 78) rfl) rfl
theorem kCD_X9_best : Cond.code yX9_best cX9_best 3 (Option.some .int) ∈ BIG := mB_5 (List.mem_of_getElem? (i := 79) rfl) rfl
theorem kML_X9_225 : Cond.methodLink RX9 225 yX9_bestOf ∈ BIG := mB_5 (List.mem_of_getElem? (i := 80) rfl) rfl
theorem kIM_X9_bestOf : Cond.instanceMethod yX9_bestOf ∈ BIG := mB_5 (List.mem_of_getElem? (i := 82) rfl) rfl
theorem kCD_X9_bestOf : Cond.code yX9_bestOf cX9_bestOf 7 (Option.some .int) ∈ BIG := mB_5 (List.mem_of_getElem? (i := 83) rfl) rfl
theorem kML_X9_209 : Cond.methodLink RX9 209 yX9_toldMany ∈ BIG := mB_5 (List.mem_of_getElem? (i := 84) rfl) rfl
theorem kIM_X9_toldMany : Cond.instanceMethod yX9_toldMany ∈ BIG := mB_5 (List.mem_of_getElem? (i := 86) rfl) rfl
theorem kCD_X9_toldMany : Cond.code yX9_toldMany cX9_toldMany 3 (Option.some .int) ∈ BIG := mB_5 (List.mem_of_getElem? (i := 87) rfl) rfl
theorem kML_X9_216 : Cond.methodLink RX9 216 yX9_copyState ∈ BIG := mB_5 (List.mem_of_getElem? (i := 88) rfl) rfl
theorem kIM_X9_copyState : Cond.instanceMethod yX9_copyState ∈ BIG := mB_5 (List.mem_of_getElem? (i := 90) rfl) rfl
theorem kCD_X9_copyState : Cond.code yX9_copyState cX9_copyState 2 none ∈ BIG := mB_5 (List.mem_of_getElem? (i := 91) rfl) rfl
theorem kML_X9_219 : Cond.methodLink RX9 219 yX9_askAll ∈ BIG := mB_5 (List.mem_of_getElem? (i := 92) rfl) rfl
theorem kIM_X9_askAll : Cond.instanceMethod yX9_askAll ∈ BIG := mB_5 (List.mem_of_getElem? (i := 94) rfl) rfl
theorem kCD_X9_askAll : Cond.code yX9_askAll cX9_askAll 4 none ∈ BIG := mB_5 (List.mem_of_getElem? (i := 95) rfl) rfl
theorem kML_X9_222 : Cond.methodLink RX9 222 yX9_caught ∈ BIG := mB_5 (List.mem_of_getElem? (i := 96) rfl) rfl
theorem kIM_X9_caught : Cond.instanceMethod yX9_caught ∈ BIG := mB_5 (List.mem_of_getElem? (i := 98) rfl) rfl
theorem kCD_X9_caught : Cond.code yX9_caught cX9_caught 3 (Option.some .int) ∈ BIG := mB_5 (List.mem_of_getElem? (i := 99) rfl) rfl
theorem kML_X9_229 : Cond.methodLink RX9 229 yX9_heightIn ∈ BIG := mB_5 (List.mem_of_getElem? (i := 100) rfl) rfl
theorem kIM_X9_heightIn : Cond.instanceMethod yX9_heightIn ∈ BIG := mB_5 (List.mem_of_getElem? (i := 102) rfl) rfl
theorem kCD_X9_heightIn : Cond.code yX9_heightIn cX9_heightIn 5 (Option.some .int) ∈ BIG := mB_5 (List.mem_of_getElem? (i := 103) rfl) rfl
theorem kML_L_88 : Cond.methodLink RL 88 yX9_allDay ∈ BIG := mB_5 (List.mem_of_getElem? (i := 104) rfl) rfl
theorem kIM_X9_allDay : Cond.instanceMethod yX9_allDay ∈ BIG := mB_5 (List.mem_of_getElem? (i := 105) rfl) rfl
theorem kSE_X9_allDay : Cond.selects RX9 yX9_allDay yX9_allDay ∈ BIG := mB_5 (List.mem_of_getElem? (i := 106) rfl) rfl
theorem kCD_X9_allDay : Cond.code yX9_allDay cX9_allDay 3 (Option.some .int) ∈ BIG := mB_5 (List.mem_of_getElem? (i := 107) rfl) rfl
theorem kML_L_92 : Cond.methodLink RL 92 yX9_laws ∈ BIG := mB_5 (List.mem_of_getElem? (i := 108) rfl) rfl
theorem kIM_X9_laws : Cond.instanceMethod yX9_laws ∈ BIG := mB_5 (List.mem_of_getElem? (i := 109) rfl) rfl
theorem kSE_X9_laws : Cond.selects RX9 yX9_laws yX9_laws ∈ BIG := mB_5 (List.mem_of_getElem? (i := 110) rfl) rfl
theorem kCD_X9_laws : Cond.code yX9_laws cX9_laws 6 (Option.some .int) ∈ BIG := mB_5 (List.mem_of_getElem? (i := 111) rfl) rfl
theorem kML_L_97 : Cond.methodLink RL 97 yX9_food ∈ BIG := mB_5 (List.mem_of_getElem? (i := 112) rfl) rfl
theorem kIM_X9_food : Cond.instanceMethod yX9_food ∈ BIG := mB_5 (List.mem_of_getElem? (i := 113) rfl) rfl
theorem kSE_X9_food : Cond.selects RX9 yX9_food yX9_food ∈ BIG := mB_5 (List.mem_of_getElem? (i := 114) rfl) rfl
theorem kCD_X9_food : Cond.code yX9_food cX9_food 17 (Option.some .long) ∈ BIG := mB_5 (List.mem_of_getElem? (i := 115) rfl) rfl
theorem kCO_X9_232 : Cond.constantLong RX9 232 10 ∈ BIG := mB_5 (List.mem_of_getElem? (i := 116) rfl) rfl
theorem kML_X9_234 : Cond.methodLink RX9 234 yX9_part ∈ BIG := mB_5 (List.mem_of_getElem? (i := 117) rfl) rfl
theorem kST_X9_part : Cond.static yX9_part ∈ BIG := mB_5 (List.mem_of_getElem? (i := 118) rfl) rfl
theorem kCD_X9_part : Cond.code yX9_part cX9_part 11 (Option.some .long) ∈ BIG := mB_5 (List.mem_of_getElem? (i := 119) rfl) rfl
theorem kML_L_102 : Cond.methodLink RL 102 yX9_cut ∈ BIG := mB_5 (List.mem_of_getElem? (i := 120) rfl) rfl
theorem kIM_X9_cut : Cond.instanceMethod yX9_cut ∈ BIG := mB_5 (List.mem_of_getElem? (i := 121) rfl) rfl
theorem kSE_X9_cut : Cond.selects RX9 yX9_cut yX9_cut ∈ BIG := mB_5 (List.mem_of_getElem? (i := 122) rfl) rfl
theorem kCD_X9_cut : Cond.code yX9_cut cX9_cut 17 (Option.some .long) ∈ BIG := mB_5 (List.mem_of_getElem? (i := 123) rfl) rfl
theorem kML_L_106 : Cond.methodLink RL 106 yX9_share ∈ BIG := mB_5 (List.mem_of_getElem? (i := 124) rfl) rfl
theorem kIM_X9_share : Cond.instanceMethod yX9_share ∈ BIG := mB_5 (List.mem_of_getElem? (i := 125) rfl) rfl
theorem kSE_X9_share : Cond.selects RX9 yX9_share yX9_share ∈ BIG := mB_5 (List.mem_of_getElem? (i := 126) rfl) rfl
theorem kCD_X9_share : Cond.code yX9_share cX9_share 10 (Option.some .int) ∈ BIG := mB_5 (List.mem_of_getElem? (i := 127) rfl) rfl
theorem kML_L_110 : Cond.methodLink RL 110 yX9_count ∈ BIG := mB_5 (List.mem_of_getElem? (i := 128) rfl) rfl
theorem kIM_X9_count : Cond.instanceMethod yX9_count ∈ BIG := mB_5 (List.mem_of_getElem? (i := 129) rfl) rfl
theorem kSE_X9_count : Cond.selects RX9 yX9_count yX9_count ∈ BIG := mB_5 (List.mem_of_getElem? (i := 130) rfl) rfl
theorem kCD_X9_count : Cond.code yX9_count cX9_count 2 (Option.some .int) ∈ BIG := mB_5 (List.mem_of_getElem? (i := 131) rfl) rfl
theorem kCO_L_13 : Cond.constantLong RL 13 4294967295 ∈ BIG := mB_5 (List.mem_of_getElem? (i := 132) rfl) rfl
theorem kFL_J0_9 : Cond.fieldLink RJ0 9 "java/lang/String" "value" "[B" ∈ BIG := mB_5 (List.mem_of_getElem? (i := 133) rfl) rfl
theorem kFL_J0_15 : Cond.fieldLink RJ0 15 "java/lang/String" "coder" "B" ∈ BIG := mB_5 (List.mem_of_getElem? (i := 134) rfl) rfl
theorem kSE_X8_isPlace : Cond.selects RX8 yX8_isPlace yX8_isPlace ∈ BIG := mB_sel (List.mem_map.mpr ⟨(⟨"FishingKites", "isPlace", "(III)Z"⟩, 11), List.mem_append_left _ (List.mem_of_getElem? (i := 0) rfl), rfl⟩) rfl
theorem kSE_X8_caughtAllDayBy : Cond.selects RX8 yX8_caughtAllDayBy yX8_caughtAllDayBy ∈ BIG := mB_sel (List.mem_map.mpr ⟨(⟨"FishingKites", "caughtAllDayBy", "(I)I"⟩, 11), List.mem_append_left _ (List.mem_of_getElem? (i := 1) rfl), rfl⟩) rfl
theorem kSE_X9_begin : Cond.selects RX9 yX9_begin yX9_begin ∈ BIG := mB_sel (List.mem_map.mpr ⟨(⟨"FishingKitesModel", "begin", "()V"⟩, 24), List.mem_append_left _ (List.mem_of_getElem? (i := 2) rfl), rfl⟩) rfl
theorem kSE_X9_anew : Cond.selects RX9 yX9_anew yX9_anew ∈ BIG := mB_sel (List.mem_map.mpr ⟨(⟨"FishingKitesModel", "anew", "()V"⟩, 24), List.mem_append_left _ (List.mem_of_getElem? (i := 3) rfl), rfl⟩) rfl
theorem kSE_X9_isRead : Cond.selects RX9 yX9_isRead yX9_isRead ∈ BIG := mB_sel (List.mem_map.mpr ⟨(⟨"FishingKitesModel", "isRead", "()Z"⟩, 24), List.mem_append_left _ (List.mem_of_getElem? (i := 4) rfl), rfl⟩) rfl
theorem kSE_X9_isLine : Cond.selects RX9 yX9_isLine yX9_isLine ∈ BIG := mB_sel (List.mem_map.mpr ⟨(⟨"FishingKitesModel", "isLine", "(I)Z"⟩, 24), List.mem_append_left _ (List.mem_of_getElem? (i := 5) rfl), rfl⟩) rfl
theorem kSE_X9_nextToken : Cond.selects RX9 yX9_nextToken yX9_nextToken ∈ BIG := mB_sel (List.mem_map.mpr ⟨(⟨"FishingKitesModel", "nextToken", "()V"⟩, 24), List.mem_append_left _ (List.mem_of_getElem? (i := 6) rfl), rfl⟩) rfl
theorem kSE_X9_isNumber : Cond.selects RX9 yX9_isNumber yX9_isNumber ∈ BIG := mB_sel (List.mem_map.mpr ⟨(⟨"FishingKitesModel", "isNumber", "(III)Z"⟩, 24), List.mem_append_left _ (List.mem_of_getElem? (i := 7) rfl), rfl⟩) rfl
theorem kSE_X9_fails : Cond.selects RX9 yX9_fails yX9_fails ∈ BIG := mB_sel (List.mem_map.mpr ⟨(⟨"FishingKitesModel", "fails", "()Z"⟩, 24), List.mem_append_left _ (List.mem_of_getElem? (i := 8) rfl), rfl⟩) rfl
theorem kSE_X9_areHours : Cond.selects RX9 yX9_areHours yX9_areHours ∈ BIG := mB_sel (List.mem_map.mpr ⟨(⟨"FishingKitesModel", "areHours", "(I)Z"⟩, 24), List.mem_append_left _ (List.mem_of_getElem? (i := 9) rfl), rfl⟩) rfl
theorem kSE_X9_isKiteLine : Cond.selects RX9 yX9_isKiteLine yX9_isKiteLine ∈ BIG := mB_sel (List.mem_map.mpr ⟨(⟨"FishingKitesModel", "isKiteLine", "(I)Z"⟩, 24), List.mem_append_left _ (List.mem_of_getElem? (i := 10) rfl), rfl⟩) rfl
theorem kSE_X9_isShoalLine : Cond.selects RX9 yX9_isShoalLine yX9_isShoalLine ∈ BIG := mB_sel (List.mem_map.mpr ⟨(⟨"FishingKitesModel", "isShoalLine", "(I)Z"⟩, 24), List.mem_append_left _ (List.mem_of_getElem? (i := 11) rfl), rfl⟩) rfl
theorem kSE_X9_doLine : Cond.selects RX9 yX9_doLine yX9_doLine ∈ BIG := mB_sel (List.mem_map.mpr ⟨(⟨"FishingKitesModel", "doLine", "(I)V"⟩, 24), List.mem_append_left _ (List.mem_of_getElem? (i := 12) rfl), rfl⟩) rfl
theorem kSE_X9_putWind : Cond.selects RX9 yX9_putWind yX9_putWind ∈ BIG := mB_sel (List.mem_map.mpr ⟨(⟨"FishingKitesModel", "putWind", "(IIIII)V"⟩, 24), List.mem_append_left _ (List.mem_of_getElem? (i := 13) rfl), rfl⟩) rfl
theorem kSE_X9_calm : Cond.selects RX9 yX9_calm yX9_calm ∈ BIG := mB_sel (List.mem_map.mpr ⟨(⟨"FishingKitesModel", "calm", "()V"⟩, 24), List.mem_append_left _ (List.mem_of_getElem? (i := 14) rfl), rfl⟩) rfl
theorem kSE_X9_isKite : Cond.selects RX9 yX9_isKite yX9_isKite ∈ BIG := mB_sel (List.mem_map.mpr ⟨(⟨"FishingKitesModel", "isKite", "(I)Z"⟩, 24), List.mem_append_left _ (List.mem_of_getElem? (i := 15) rfl), rfl⟩) rfl
theorem kSE_X9_goHour : Cond.selects RX9 yX9_goHour yX9_goHour ∈ BIG := mB_sel (List.mem_map.mpr ⟨(⟨"FishingKitesModel", "goHour", "()V"⟩, 24), List.mem_append_right _ (List.mem_of_getElem? (i := 0) rfl), rfl⟩) rfl
theorem kSE_X9_findUp : Cond.selects RX9 yX9_findUp yX9_findUp ∈ BIG := mB_sel (List.mem_map.mpr ⟨(⟨"FishingKitesModel", "findUp", "(I)V"⟩, 24), List.mem_append_right _ (List.mem_of_getElem? (i := 1) rfl), rfl⟩) rfl
theorem kSE_X9_hasLift : Cond.selects RX9 yX9_hasLift yX9_hasLift ∈ BIG := mB_sel (List.mem_map.mpr ⟨(⟨"FishingKitesModel", "hasLift", "(III)Z"⟩, 24), List.mem_append_right _ (List.mem_of_getElem? (i := 2) rfl), rfl⟩) rfl
theorem kSE_X9_isInSea : Cond.selects RX9 yX9_isInSea yX9_isInSea ∈ BIG := mB_sel (List.mem_map.mpr ⟨(⟨"FishingKitesModel", "isInSea", "(III)Z"⟩, 24), List.mem_append_right _ (List.mem_of_getElem? (i := 3) rfl), rfl⟩) rfl
theorem kSE_X9_xOf : Cond.selects RX9 yX9_xOf yX9_xOf ∈ BIG := mB_sel (List.mem_map.mpr ⟨(⟨"FishingKitesModel", "xOf", "(III)I"⟩, 24), List.mem_append_right _ (List.mem_of_getElem? (i := 4) rfl), rfl⟩) rfl
theorem kSE_X9_yOf : Cond.selects RX9 yX9_yOf yX9_yOf ∈ BIG := mB_sel (List.mem_map.mpr ⟨(⟨"FishingKitesModel", "yOf", "(II)I"⟩, 24), List.mem_append_right _ (List.mem_of_getElem? (i := 5) rfl), rfl⟩) rfl
theorem kSE_X9_doTangle : Cond.selects RX9 yX9_doTangle yX9_doTangle ∈ BIG := mB_sel (List.mem_map.mpr ⟨(⟨"FishingKitesModel", "doTangle", "(IIII)Z"⟩, 24), List.mem_append_right _ (List.mem_of_getElem? (i := 6) rfl), rfl⟩) rfl
theorem kSE_X9_givesWay : Cond.selects RX9 yX9_givesWay yX9_givesWay ∈ BIG := mB_sel (List.mem_map.mpr ⟨(⟨"FishingKitesModel", "givesWay", "(II)I"⟩, 24), List.mem_append_right _ (List.mem_of_getElem? (i := 7) rfl), rfl⟩) rfl
theorem kSE_X9_take : Cond.selects RX9 yX9_take yX9_take ∈ BIG := mB_sel (List.mem_map.mpr ⟨(⟨"FishingKitesModel", "take", "(II)V"⟩, 24), List.mem_append_right _ (List.mem_of_getElem? (i := 8) rfl), rfl⟩) rfl
theorem kSE_X9_bestOf : Cond.selects RX9 yX9_bestOf yX9_bestOf ∈ BIG := mB_sel (List.mem_map.mpr ⟨(⟨"FishingKitesModel", "bestOf", "(Z)I"⟩, 24), List.mem_append_right _ (List.mem_of_getElem? (i := 9) rfl), rfl⟩) rfl
theorem kSE_X9_toldMany : Cond.selects RX9 yX9_toldMany yX9_toldMany ∈ BIG := mB_sel (List.mem_map.mpr ⟨(⟨"FishingKitesModel", "toldMany", "()I"⟩, 24), List.mem_append_right _ (List.mem_of_getElem? (i := 10) rfl), rfl⟩) rfl
theorem kSE_X9_copyState : Cond.selects RX9 yX9_copyState yX9_copyState ∈ BIG := mB_sel (List.mem_map.mpr ⟨(⟨"FishingKitesModel", "copyState", "()V"⟩, 24), List.mem_append_right _ (List.mem_of_getElem? (i := 11) rfl), rfl⟩) rfl
theorem kSE_X9_askAll : Cond.selects RX9 yX9_askAll yX9_askAll ∈ BIG := mB_sel (List.mem_map.mpr ⟨(⟨"FishingKitesModel", "askAll", "(I)V"⟩, 24), List.mem_append_right _ (List.mem_of_getElem? (i := 12) rfl), rfl⟩) rfl
theorem kSE_X9_caught : Cond.selects RX9 yX9_caught yX9_caught ∈ BIG := mB_sel (List.mem_map.mpr ⟨(⟨"FishingKitesModel", "caught", "()I"⟩, 24), List.mem_append_right _ (List.mem_of_getElem? (i := 13) rfl), rfl⟩) rfl
theorem kSE_X9_heightIn : Cond.selects RX9 yX9_heightIn yX9_heightIn ∈ BIG := mB_sel (List.mem_map.mpr ⟨(⟨"FishingKitesModel", "heightIn", "(II)I"⟩, 24), List.mem_append_right _ (List.mem_of_getElem? (i := 14) rfl), rfl⟩) rfl
theorem kLY_X0_0 : u_lay RX0 TX0 0 ∈ BIG := mB_1 (List.mem_of_getElem? (i := 160) rfl) rfl
theorem kLY_X0_1 : u_lay RX0 TX0 1 ∈ BIG := mB_1 (List.mem_of_getElem? (i := 162) rfl) rfl
theorem kLY_X0_2 : u_lay RX0 TX0 2 ∈ BIG := mB_1 (List.mem_of_getElem? (i := 164) rfl) rfl
theorem inBX0 : ∀ w ∈ u_ws RX0 TX0 3, w ∈ BIG := fun w h => by
  obtain ⟨k, hk, rfl⟩ := List.mem_map.mp h
  have hk := List.mem_range.mp hk
  exact (match k, hk with
    | 0, _ => kLY_X0_0
    | 1, _ => kLY_X0_1
    | 2, _ => kLY_X0_2
    | k + 3, h => absurd h (by omega))
theorem kLY_X1_0 : u_lay RX1 TX1 0 ∈ BIG := mB_1 (List.mem_of_getElem? (i := 199) rfl) rfl
theorem kLY_X1_1 : u_lay RX1 TX1 1 ∈ BIG := mB_1 (List.mem_of_getElem? (i := 201) rfl) rfl
theorem kLY_X1_2 : u_lay RX1 TX1 2 ∈ BIG := mB_1 (List.mem_of_getElem? (i := 203) rfl) rfl
theorem kLY_X1_3 : u_lay RX1 TX1 3 ∈ BIG := mB_1 (List.mem_of_getElem? (i := 205) rfl) rfl
theorem kLY_X1_4 : u_lay RX1 TX1 4 ∈ BIG := mB_1 (List.mem_of_getElem? (i := 207) rfl) rfl
theorem kLY_X1_5 : u_lay RX1 TX1 5 ∈ BIG := mB_1 (List.mem_of_getElem? (i := 209) rfl) rfl
theorem kLY_X1_6 : u_lay RX1 TX1 6 ∈ BIG := mB_1 (List.mem_of_getElem? (i := 211) rfl) rfl
theorem kLY_X1_7 : u_lay RX1 TX1 7 ∈ BIG := mB_1 (List.mem_of_getElem? (i := 213) rfl) rfl
theorem kLY_X1_8 : u_lay RX1 TX1 8 ∈ BIG := mB_1 (List.mem_of_getElem? (i := 215) rfl) rfl
theorem kLY_X1_9 : u_lay RX1 TX1 9 ∈ BIG := mB_1 (List.mem_of_getElem? (i := 217) rfl) rfl
theorem kLY_X1_10 : u_lay RX1 TX1 10 ∈ BIG := mB_1 (List.mem_of_getElem? (i := 219) rfl) rfl
theorem inBX1 : ∀ w ∈ u_ws RX1 TX1 11, w ∈ BIG := fun w h => by
  obtain ⟨k, hk, rfl⟩ := List.mem_map.mp h
  have hk := List.mem_range.mp hk
  exact (match k, hk with
    | 0, _ => kLY_X1_0
    | 1, _ => kLY_X1_1
    | 2, _ => kLY_X1_2
    | 3, _ => kLY_X1_3
    | 4, _ => kLY_X1_4
    | 5, _ => kLY_X1_5
    | 6, _ => kLY_X1_6
    | 7, _ => kLY_X1_7
    | 8, _ => kLY_X1_8
    | 9, _ => kLY_X1_9
    | 10, _ => kLY_X1_10
    | k + 11, h => absurd h (by omega))
theorem kLY_X2_0 : u_lay RX2 TX2 0 ∈ BIG := mB_1 (List.mem_of_getElem? (i := 76) rfl) rfl
theorem kLY_X2_1 : u_lay RX2 TX2 1 ∈ BIG := mB_1 (List.mem_of_getElem? (i := 78) rfl) rfl
theorem kLY_X2_2 : u_lay RX2 TX2 2 ∈ BIG := mB_1 (List.mem_of_getElem? (i := 80) rfl) rfl
theorem kLY_X2_3 : u_lay RX2 TX2 3 ∈ BIG := mB_1 (List.mem_of_getElem? (i := 82) rfl) rfl
theorem kLY_X2_4 : u_lay RX2 TX2 4 ∈ BIG := mB_1 (List.mem_of_getElem? (i := 84) rfl) rfl
theorem kLY_X2_5 : u_lay RX2 TX2 5 ∈ BIG := mB_1 (List.mem_of_getElem? (i := 86) rfl) rfl
theorem inBX2 : ∀ w ∈ u_ws RX2 TX2 6, w ∈ BIG := fun w h => by
  obtain ⟨k, hk, rfl⟩ := List.mem_map.mp h
  have hk := List.mem_range.mp hk
  exact (match k, hk with
    | 0, _ => kLY_X2_0
    | 1, _ => kLY_X2_1
    | 2, _ => kLY_X2_2
    | 3, _ => kLY_X2_3
    | 4, _ => kLY_X2_4
    | 5, _ => kLY_X2_5
    | k + 6, h => absurd h (by omega))
theorem kLY_X3_0 : u_lay RX3 TX3 0 ∈ BIG := mB_2 (List.mem_of_getElem? (i := 14) rfl) rfl
theorem kLY_X3_1 : u_lay RX3 TX3 1 ∈ BIG := mB_2 (List.mem_of_getElem? (i := 16) rfl) rfl
theorem inBX3 : ∀ w ∈ u_ws RX3 TX3 2, w ∈ BIG := fun w h => by
  obtain ⟨k, hk, rfl⟩ := List.mem_map.mp h
  have hk := List.mem_range.mp hk
  exact (match k, hk with
    | 0, _ => kLY_X3_0
    | 1, _ => kLY_X3_1
    | k + 2, h => absurd h (by omega))
theorem kLY_X4_0 : u_lay RX4 TX4 0 ∈ BIG := mB_1 (List.mem_of_getElem? (i := 134) rfl) rfl
theorem kLY_X4_1 : u_lay RX4 TX4 1 ∈ BIG := mB_1 (List.mem_of_getElem? (i := 136) rfl) rfl
theorem kLY_X4_2 : u_lay RX4 TX4 2 ∈ BIG := mB_1 (List.mem_of_getElem? (i := 138) rfl) rfl
theorem kLY_X4_3 : u_lay RX4 TX4 3 ∈ BIG := mB_1 (List.mem_of_getElem? (i := 140) rfl) rfl
theorem kLY_X4_4 : u_lay RX4 TX4 4 ∈ BIG := mB_1 (List.mem_of_getElem? (i := 142) rfl) rfl
theorem kLY_X4_5 : u_lay RX4 TX4 5 ∈ BIG := mB_1 (List.mem_of_getElem? (i := 144) rfl) rfl
theorem kLY_X4_6 : u_lay RX4 TX4 6 ∈ BIG := mB_1 (List.mem_of_getElem? (i := 146) rfl) rfl
theorem kLY_X4_7 : u_lay RX4 TX4 7 ∈ BIG := mB_1 (List.mem_of_getElem? (i := 148) rfl) rfl
theorem inBX4 : ∀ w ∈ u_ws RX4 TX4 8, w ∈ BIG := fun w h => by
  obtain ⟨k, hk, rfl⟩ := List.mem_map.mp h
  have hk := List.mem_range.mp hk
  exact (match k, hk with
    | 0, _ => kLY_X4_0
    | 1, _ => kLY_X4_1
    | 2, _ => kLY_X4_2
    | 3, _ => kLY_X4_3
    | 4, _ => kLY_X4_4
    | 5, _ => kLY_X4_5
    | 6, _ => kLY_X4_6
    | 7, _ => kLY_X4_7
    | k + 8, h => absurd h (by omega))
theorem kLY_X5_0 : u_lay RX5 TX5 0 ∈ BIG := mB_1 (List.mem_of_getElem? (i := 235) rfl) rfl
theorem kLY_X5_1 : u_lay RX5 TX5 1 ∈ BIG := mB_1 (List.mem_of_getElem? (i := 237) rfl) rfl
theorem kLY_X5_2 : u_lay RX5 TX5 2 ∈ BIG := mB_1 (List.mem_of_getElem? (i := 239) rfl) rfl
theorem kLY_X5_3 : u_lay RX5 TX5 3 ∈ BIG := mB_2 (List.mem_of_getElem? (i := 1) rfl) rfl
theorem kLY_X5_4 : u_lay RX5 TX5 4 ∈ BIG := mB_2 (List.mem_of_getElem? (i := 3) rfl) rfl
theorem inBX5 : ∀ w ∈ u_ws RX5 TX5 5, w ∈ BIG := fun w h => by
  obtain ⟨k, hk, rfl⟩ := List.mem_map.mp h
  have hk := List.mem_range.mp hk
  exact (match k, hk with
    | 0, _ => kLY_X5_0
    | 1, _ => kLY_X5_1
    | 2, _ => kLY_X5_2
    | 3, _ => kLY_X5_3
    | 4, _ => kLY_X5_4
    | k + 5, h => absurd h (by omega))
theorem kLY_X6_0 : u_lay RX6 TX6 0 ∈ BIG := mB_1 (List.mem_of_getElem? (i := 101) rfl) rfl
theorem kLY_X6_1 : u_lay RX6 TX6 1 ∈ BIG := mB_1 (List.mem_of_getElem? (i := 103) rfl) rfl
theorem kLY_X6_2 : u_lay RX6 TX6 2 ∈ BIG := mB_1 (List.mem_of_getElem? (i := 105) rfl) rfl
theorem kLY_X6_3 : u_lay RX6 TX6 3 ∈ BIG := mB_1 (List.mem_of_getElem? (i := 107) rfl) rfl
theorem kLY_X6_4 : u_lay RX6 TX6 4 ∈ BIG := mB_1 (List.mem_of_getElem? (i := 109) rfl) rfl
theorem kLY_X6_5 : u_lay RX6 TX6 5 ∈ BIG := mB_1 (List.mem_of_getElem? (i := 111) rfl) rfl
theorem inBX6 : ∀ w ∈ u_ws RX6 TX6 6, w ∈ BIG := fun w h => by
  obtain ⟨k, hk, rfl⟩ := List.mem_map.mp h
  have hk := List.mem_range.mp hk
  exact (match k, hk with
    | 0, _ => kLY_X6_0
    | 1, _ => kLY_X6_1
    | 2, _ => kLY_X6_2
    | 3, _ => kLY_X6_3
    | 4, _ => kLY_X6_4
    | 5, _ => kLY_X6_5
    | k + 6, h => absurd h (by omega))
theorem kLY_X7_0 : u_lay RX7 TX7 0 ∈ BIG := mB_1 (List.mem_of_getElem? (i := 39) rfl) rfl
theorem kLY_X7_1 : u_lay RX7 TX7 1 ∈ BIG := mB_1 (List.mem_of_getElem? (i := 41) rfl) rfl
theorem kLY_X7_2 : u_lay RX7 TX7 2 ∈ BIG := mB_1 (List.mem_of_getElem? (i := 43) rfl) rfl
theorem kLY_X7_3 : u_lay RX7 TX7 3 ∈ BIG := mB_1 (List.mem_of_getElem? (i := 45) rfl) rfl
theorem kLY_X7_4 : u_lay RX7 TX7 4 ∈ BIG := mB_1 (List.mem_of_getElem? (i := 47) rfl) rfl
theorem inBX7 : ∀ w ∈ u_ws RX7 TX7 5, w ∈ BIG := fun w h => by
  obtain ⟨k, hk, rfl⟩ := List.mem_map.mp h
  have hk := List.mem_range.mp hk
  exact (match k, hk with
    | 0, _ => kLY_X7_0
    | 1, _ => kLY_X7_1
    | 2, _ => kLY_X7_2
    | 3, _ => kLY_X7_3
    | 4, _ => kLY_X7_4
    | k + 5, h => absurd h (by omega))
theorem kLY_X8_0 : u_lay RX8 TX8 0 ∈ BIG := mB_2 (List.mem_of_getElem? (i := 31) rfl) rfl
theorem kLY_X8_1 : u_lay RX8 TX8 1 ∈ BIG := mB_2 (List.mem_of_getElem? (i := 33) rfl) rfl
theorem kLY_X8_2 : u_lay RX8 TX8 2 ∈ BIG := mB_2 (List.mem_of_getElem? (i := 35) rfl) rfl
theorem kLY_X8_3 : u_lay RX8 TX8 3 ∈ BIG := mB_2 (List.mem_of_getElem? (i := 37) rfl) rfl
theorem kLY_X8_4 : u_lay RX8 TX8 4 ∈ BIG := mB_2 (List.mem_of_getElem? (i := 39) rfl) rfl
theorem kLY_X8_5 : u_lay RX8 TX8 5 ∈ BIG := mB_2 (List.mem_of_getElem? (i := 41) rfl) rfl
theorem kLY_X8_6 : u_lay RX8 TX8 6 ∈ BIG := mB_2 (List.mem_of_getElem? (i := 43) rfl) rfl
theorem kLY_X8_7 : u_lay RX8 TX8 7 ∈ BIG := mB_2 (List.mem_of_getElem? (i := 45) rfl) rfl
theorem kLY_X8_8 : u_lay RX8 TX8 8 ∈ BIG := mB_2 (List.mem_of_getElem? (i := 47) rfl) rfl
theorem kLY_X8_9 : u_lay RX8 TX8 9 ∈ BIG := mB_2 (List.mem_of_getElem? (i := 49) rfl) rfl
theorem kLY_X8_10 : u_lay RX8 TX8 10 ∈ BIG := mB_2 (List.mem_of_getElem? (i := 51) rfl) rfl
theorem inBX8 : ∀ w ∈ u_ws RX8 TX8 11, w ∈ BIG := fun w h => by
  obtain ⟨k, hk, rfl⟩ := List.mem_map.mp h
  have hk := List.mem_range.mp hk
  exact (match k, hk with
    | 0, _ => kLY_X8_0
    | 1, _ => kLY_X8_1
    | 2, _ => kLY_X8_2
    | 3, _ => kLY_X8_3
    | 4, _ => kLY_X8_4
    | 5, _ => kLY_X8_5
    | 6, _ => kLY_X8_6
    | 7, _ => kLY_X8_7
    | 8, _ => kLY_X8_8
    | 9, _ => kLY_X8_9
    | 10, _ => kLY_X8_10
    | k + 11, h => absurd h (by omega))
theorem kLY_X9_0 : u_lay RX9 TX9 0 ∈ BIG := mB_4 (List.mem_of_getElem? (i := 94) rfl) rfl
theorem kLY_X9_1 : u_lay RX9 TX9 1 ∈ BIG := mB_4 (List.mem_of_getElem? (i := 96) rfl) rfl
theorem kLY_X9_2 : u_lay RX9 TX9 2 ∈ BIG := mB_4 (List.mem_of_getElem? (i := 98) rfl) rfl
theorem kLY_X9_3 : u_lay RX9 TX9 3 ∈ BIG := mB_4 (List.mem_of_getElem? (i := 100) rfl) rfl
theorem kLY_X9_4 : u_lay RX9 TX9 4 ∈ BIG := mB_4 (List.mem_of_getElem? (i := 102) rfl) rfl
theorem kLY_X9_5 : u_lay RX9 TX9 5 ∈ BIG := mB_4 (List.mem_of_getElem? (i := 104) rfl) rfl
theorem kLY_X9_6 : u_lay RX9 TX9 6 ∈ BIG := mB_4 (List.mem_of_getElem? (i := 106) rfl) rfl
theorem kLY_X9_7 : u_lay RX9 TX9 7 ∈ BIG := mB_4 (List.mem_of_getElem? (i := 108) rfl) rfl
theorem kLY_X9_8 : u_lay RX9 TX9 8 ∈ BIG := mB_4 (List.mem_of_getElem? (i := 110) rfl) rfl
theorem kLY_X9_9 : u_lay RX9 TX9 9 ∈ BIG := mB_4 (List.mem_of_getElem? (i := 112) rfl) rfl
theorem kLY_X9_10 : u_lay RX9 TX9 10 ∈ BIG := mB_4 (List.mem_of_getElem? (i := 114) rfl) rfl
theorem kLY_X9_11 : u_lay RX9 TX9 11 ∈ BIG := mB_4 (List.mem_of_getElem? (i := 116) rfl) rfl
theorem kLY_X9_12 : u_lay RX9 TX9 12 ∈ BIG := mB_4 (List.mem_of_getElem? (i := 118) rfl) rfl
theorem kLY_X9_13 : u_lay RX9 TX9 13 ∈ BIG := mB_4 (List.mem_of_getElem? (i := 120) rfl) rfl
theorem kLY_X9_14 : u_lay RX9 TX9 14 ∈ BIG := mB_4 (List.mem_of_getElem? (i := 122) rfl) rfl
theorem kLY_X9_15 : u_lay RX9 TX9 15 ∈ BIG := mB_4 (List.mem_of_getElem? (i := 124) rfl) rfl
theorem kLY_X9_16 : u_lay RX9 TX9 16 ∈ BIG := mB_4 (List.mem_of_getElem? (i := 126) rfl) rfl
theorem kLY_X9_17 : u_lay RX9 TX9 17 ∈ BIG := mB_4 (List.mem_of_getElem? (i := 128) rfl) rfl
theorem kLY_X9_18 : u_lay RX9 TX9 18 ∈ BIG := mB_4 (List.mem_of_getElem? (i := 130) rfl) rfl
theorem kLY_X9_19 : u_lay RX9 TX9 19 ∈ BIG := mB_4 (List.mem_of_getElem? (i := 132) rfl) rfl
theorem kLY_X9_20 : u_lay RX9 TX9 20 ∈ BIG := mB_4 (List.mem_of_getElem? (i := 134) rfl) rfl
theorem kLY_X9_21 : u_lay RX9 TX9 21 ∈ BIG := mB_4 (List.mem_of_getElem? (i := 136) rfl) rfl
theorem kLY_X9_22 : u_lay RX9 TX9 22 ∈ BIG := mB_4 (List.mem_of_getElem? (i := 138) rfl) rfl
theorem kLY_X9_23 : u_lay RX9 TX9 23 ∈ BIG := mB_4 (List.mem_of_getElem? (i := 140) rfl) rfl
theorem inBX9 : ∀ w ∈ u_ws RX9 TX9 24, w ∈ BIG := fun w h => by
  obtain ⟨k, hk, rfl⟩ := List.mem_map.mp h
  have hk := List.mem_range.mp hk
  exact (match k, hk with
    | 0, _ => kLY_X9_0
    | 1, _ => kLY_X9_1
    | 2, _ => kLY_X9_2
    | 3, _ => kLY_X9_3
    | 4, _ => kLY_X9_4
    | 5, _ => kLY_X9_5
    | 6, _ => kLY_X9_6
    | 7, _ => kLY_X9_7
    | 8, _ => kLY_X9_8
    | 9, _ => kLY_X9_9
    | 10, _ => kLY_X9_10
    | 11, _ => kLY_X9_11
    | 12, _ => kLY_X9_12
    | 13, _ => kLY_X9_13
    | 14, _ => kLY_X9_14
    | 15, _ => kLY_X9_15
    | 16, _ => kLY_X9_16
    | 17, _ => kLY_X9_17
    | 18, _ => kLY_X9_18
    | 19, _ => kLY_X9_19
    | 20, _ => kLY_X9_20
    | 21, _ => kLY_X9_21
    | 22, _ => kLY_X9_22
    | 23, _ => kLY_X9_23
    | k + 24, h => absurd h (by omega))
end
section
theorem dX0_init_0 : decode cX0_init 0 = .ok (.aload_n 0, 1) := by decide +kernel
theorem dX0_init_1 : decode cX0_init 1 = .ok (.invokespecial 3, 3) := by decide +kernel
theorem dX0_init_4 : decode cX0_init 4 = .ok (.aload_n 0, 1) := by decide +kernel
theorem dX0_init_5 : decode cX0_init 5 = .ok (.bipush 24, 2) := by decide +kernel
theorem dX0_init_7 : decode cX0_init 7 = .ok (.newarray .int, 2) := by decide +kernel
theorem dX0_init_9 : decode cX0_init 9 = .ok (.putfield 9, 3) := by decide +kernel
theorem dX0_init_12 : decode cX0_init 12 = .ok (.aload_n 0, 1) := by decide +kernel
theorem dX0_init_13 : decode cX0_init 13 = .ok (.sipush 288, 3) := by decide +kernel
theorem dX0_init_16 : decode cX0_init 16 = .ok (.newarray .int, 2) := by decide +kernel
theorem dX0_init_18 : decode cX0_init 18 = .ok (.putfield 15, 3) := by decide +kernel
theorem dX0_init_21 : decode cX0_init 21 = .ok (.aload_n 0, 1) := by decide +kernel
theorem dX0_init_22 : decode cX0_init 22 = .ok (.sipush 288, 3) := by decide +kernel
theorem dX0_init_25 : decode cX0_init 25 = .ok (.newarray .int, 2) := by decide +kernel
theorem dX0_init_27 : decode cX0_init 27 = .ok (.putfield 18, 3) := by decide +kernel
theorem dX0_init_30 : decode cX0_init 30 = .ok (.return_, 1) := by decide +kernel
theorem dX0_draw_0 : decode cX0_draw 0 = .ok (.iconst 0, 1) := by decide +kernel
theorem dX0_draw_1 : decode cX0_draw 1 = .ok (.istore_n 2, 1) := by decide +kernel
theorem dX0_draw_2 : decode cX0_draw 2 = .ok (.iload_n 2, 1) := by decide +kernel
theorem dX0_draw_3 : decode cX0_draw 3 = .ok (.bipush 6, 2) := by decide +kernel
theorem dX0_draw_5 : decode cX0_draw 5 = .ok (.if_icmp .ge 29, 3) := by decide +kernel
theorem dX0_draw_8 : decode cX0_draw 8 = .ok (.iconst 1, 1) := by decide +kernel
theorem dX0_draw_9 : decode cX0_draw 9 = .ok (.istore_n 3, 1) := by decide +kernel
theorem dX0_draw_10 : decode cX0_draw 10 = .ok (.iload_n 3, 1) := by decide +kernel
theorem dX0_draw_11 : decode cX0_draw 11 = .ok (.iconst 4, 1) := by decide +kernel
theorem dX0_draw_12 : decode cX0_draw 12 = .ok (.if_icmp .ge 16, 3) := by decide +kernel
theorem dX0_draw_15 : decode cX0_draw 15 = .ok (.aload_n 0, 1) := by decide +kernel
theorem dX0_draw_16 : decode cX0_draw 16 = .ok (.aload_n 1, 1) := by decide +kernel
theorem dX0_draw_17 : decode cX0_draw 17 = .ok (.iload_n 2, 1) := by decide +kernel
theorem dX0_draw_18 : decode cX0_draw 18 = .ok (.iload_n 3, 1) := by decide +kernel
theorem dX0_draw_19 : decode cX0_draw 19 = .ok (.invokevirtual 21, 3) := by decide +kernel
theorem dX0_draw_22 : decode cX0_draw 22 = .ok (.iinc 3 1, 3) := by decide +kernel
theorem dX0_draw_25 : decode cX0_draw 25 = .ok (.goto (-15), 3) := by decide +kernel
theorem dX0_draw_28 : decode cX0_draw 28 = .ok (.iinc 2 1, 3) := by decide +kernel
theorem dX0_draw_31 : decode cX0_draw 31 = .ok (.goto (-29), 3) := by decide +kernel
theorem dX0_draw_34 : decode cX0_draw 34 = .ok (.return_, 1) := by decide +kernel
theorem dX0_drawKite_0 : decode cX0_drawKite 0 = .ok (.iload_n 2, 1) := by decide +kernel
theorem dX0_drawKite_1 : decode cX0_drawKite 1 = .ok (.iconst 4, 1) := by decide +kernel
theorem dX0_drawKite_2 : decode cX0_drawKite 2 = .ok (.imul, 1) := by decide +kernel
theorem dX0_drawKite_3 : decode cX0_drawKite 3 = .ok (.iload_n 3, 1) := by decide +kernel
theorem dX0_drawKite_4 : decode cX0_drawKite 4 = .ok (.iadd, 1) := by decide +kernel
theorem dX0_drawKite_5 : decode cX0_drawKite 5 = .ok (.istore 4, 2) := by decide +kernel
theorem dX0_drawKite_7 : decode cX0_drawKite 7 = .ok (.iconst 0, 1) := by decide +kernel
theorem dX0_drawKite_8 : decode cX0_drawKite 8 = .ok (.istore 5, 2) := by decide +kernel
theorem dX0_drawKite_10 : decode cX0_drawKite 10 = .ok (.iconst 0, 1) := by decide +kernel
theorem dX0_drawKite_11 : decode cX0_drawKite 11 = .ok (.istore 6, 2) := by decide +kernel
theorem dX0_drawKite_13 : decode cX0_drawKite 13 = .ok (.iload 6, 2) := by decide +kernel
theorem dX0_drawKite_15 : decode cX0_drawKite 15 = .ok (.bipush 12, 2) := by decide +kernel
theorem dX0_drawKite_17 : decode cX0_drawKite 17 = .ok (.if_icmp .ge 116, 3) := by decide +kernel
theorem dX0_drawKite_20 : decode cX0_drawKite 20 = .ok (.aload_n 1, 1) := by decide +kernel
theorem dX0_drawKite_21 : decode cX0_drawKite 21 = .ok (.iload_n 2, 1) := by decide +kernel
theorem dX0_drawKite_22 : decode cX0_drawKite 22 = .ok (.iload_n 3, 1) := by decide +kernel
theorem dX0_drawKite_23 : decode cX0_drawKite 23 = .ok (.iload 6, 2) := by decide +kernel
theorem dX0_drawKite_25 : decode cX0_drawKite 25 = .ok (.invokevirtual 25, 3) := by decide +kernel
theorem dX0_drawKite_28 : decode cX0_drawKite 28 = .ok (.ifCond .eq 18, 3) := by decide +kernel
theorem dX0_drawKite_31 : decode cX0_drawKite 31 = .ok (.aload_n 1, 1) := by decide +kernel
theorem dX0_drawKite_32 : decode cX0_drawKite 32 = .ok (.iload_n 2, 1) := by decide +kernel
theorem dX0_drawKite_33 : decode cX0_drawKite 33 = .ok (.iload_n 3, 1) := by decide +kernel
theorem dX0_drawKite_34 : decode cX0_drawKite 34 = .ok (.iload 6, 2) := by decide +kernel
theorem dX0_drawKite_36 : decode cX0_drawKite 36 = .ok (.invokevirtual 31, 3) := by decide +kernel
theorem dX0_drawKite_39 : decode cX0_drawKite 39 = .ok (.ifCond .eq 7, 3) := by decide +kernel
theorem dX0_drawKite_42 : decode cX0_drawKite 42 = .ok (.iconst 1, 1) := by decide +kernel
theorem dX0_drawKite_43 : decode cX0_drawKite 43 = .ok (.goto 4, 3) := by decide +kernel
theorem dX0_drawKite_46 : decode cX0_drawKite 46 = .ok (.iconst 0, 1) := by decide +kernel
theorem dX0_drawKite_47 : decode cX0_drawKite 47 = .ok (.istore 7, 2) := by decide +kernel
theorem dX0_drawKite_49 : decode cX0_drawKite 49 = .ok (.iload 5, 2) := by decide +kernel
theorem dX0_drawKite_51 : decode cX0_drawKite 51 = .ok (.iload 7, 2) := by decide +kernel
theorem dX0_drawKite_53 : decode cX0_drawKite 53 = .ok (.ifCond .eq 10, 3) := by decide +kernel
theorem dX0_drawKite_56 : decode cX0_drawKite 56 = .ok (.iconst 1, 1) := by decide +kernel
theorem dX0_drawKite_57 : decode cX0_drawKite 57 = .ok (.iload 6, 2) := by decide +kernel
theorem dX0_drawKite_59 : decode cX0_drawKite 59 = .ok (.ishl, 1) := by decide +kernel
theorem dX0_drawKite_60 : decode cX0_drawKite 60 = .ok (.goto 4, 3) := by decide +kernel
theorem dX0_drawKite_63 : decode cX0_drawKite 63 = .ok (.iconst 0, 1) := by decide +kernel
theorem dX0_drawKite_64 : decode cX0_drawKite 64 = .ok (.ior, 1) := by decide +kernel
theorem dX0_drawKite_65 : decode cX0_drawKite 65 = .ok (.istore 5, 2) := by decide +kernel
theorem dX0_drawKite_67 : decode cX0_drawKite 67 = .ok (.aload_n 0, 1) := by decide +kernel
theorem dX0_drawKite_68 : decode cX0_drawKite 68 = .ok (.getfield 15, 3) := by decide +kernel
theorem dX0_drawKite_71 : decode cX0_drawKite 71 = .ok (.iload 4, 2) := by decide +kernel
theorem dX0_drawKite_73 : decode cX0_drawKite 73 = .ok (.bipush 12, 2) := by decide +kernel
theorem dX0_drawKite_75 : decode cX0_drawKite 75 = .ok (.imul, 1) := by decide +kernel
theorem dX0_drawKite_76 : decode cX0_drawKite 76 = .ok (.iload 6, 2) := by decide +kernel
theorem dX0_drawKite_78 : decode cX0_drawKite 78 = .ok (.iadd, 1) := by decide +kernel
theorem dX0_drawKite_79 : decode cX0_drawKite 79 = .ok (.iload 7, 2) := by decide +kernel
theorem dX0_drawKite_81 : decode cX0_drawKite 81 = .ok (.ifCond .eq 14, 3) := by decide +kernel
theorem dX0_drawKite_84 : decode cX0_drawKite 84 = .ok (.aload_n 1, 1) := by decide +kernel
theorem dX0_drawKite_85 : decode cX0_drawKite 85 = .ok (.iload_n 2, 1) := by decide +kernel
theorem dX0_drawKite_86 : decode cX0_drawKite 86 = .ok (.iload_n 3, 1) := by decide +kernel
theorem dX0_drawKite_87 : decode cX0_drawKite 87 = .ok (.iload 6, 2) := by decide +kernel
theorem dX0_drawKite_89 : decode cX0_drawKite 89 = .ok (.invokestatic 34, 3) := by decide +kernel
theorem dX0_drawKite_92 : decode cX0_drawKite 92 = .ok (.goto 4, 3) := by decide +kernel
theorem dX0_drawKite_95 : decode cX0_drawKite 95 = .ok (.iconst 0, 1) := by decide +kernel
theorem dX0_drawKite_96 : decode cX0_drawKite 96 = .ok (.iastore, 1) := by decide +kernel
theorem dX0_drawKite_97 : decode cX0_drawKite 97 = .ok (.aload_n 0, 1) := by decide +kernel
theorem dX0_drawKite_98 : decode cX0_drawKite 98 = .ok (.getfield 18, 3) := by decide +kernel
theorem dX0_drawKite_101 : decode cX0_drawKite 101 = .ok (.iload 4, 2) := by decide +kernel
theorem dX0_drawKite_103 : decode cX0_drawKite 103 = .ok (.bipush 12, 2) := by decide +kernel
theorem dX0_drawKite_105 : decode cX0_drawKite 105 = .ok (.imul, 1) := by decide +kernel
theorem dX0_drawKite_106 : decode cX0_drawKite 106 = .ok (.iload 6, 2) := by decide +kernel
theorem dX0_drawKite_108 : decode cX0_drawKite 108 = .ok (.iadd, 1) := by decide +kernel
theorem dX0_drawKite_109 : decode cX0_drawKite 109 = .ok (.iload 7, 2) := by decide +kernel
theorem dX0_drawKite_111 : decode cX0_drawKite 111 = .ok (.ifCond .eq 14, 3) := by decide +kernel
theorem dX0_drawKite_114 : decode cX0_drawKite 114 = .ok (.aload_n 1, 1) := by decide +kernel
theorem dX0_drawKite_115 : decode cX0_drawKite 115 = .ok (.iload_n 2, 1) := by decide +kernel
theorem dX0_drawKite_116 : decode cX0_drawKite 116 = .ok (.iload_n 3, 1) := by decide +kernel
theorem dX0_drawKite_117 : decode cX0_drawKite 117 = .ok (.iload 6, 2) := by decide +kernel
theorem dX0_drawKite_119 : decode cX0_drawKite 119 = .ok (.invokestatic 38, 3) := by decide +kernel
theorem dX0_drawKite_122 : decode cX0_drawKite 122 = .ok (.goto 4, 3) := by decide +kernel
theorem dX0_drawKite_125 : decode cX0_drawKite 125 = .ok (.iconst 0, 1) := by decide +kernel
theorem dX0_drawKite_126 : decode cX0_drawKite 126 = .ok (.iastore, 1) := by decide +kernel
theorem dX0_drawKite_127 : decode cX0_drawKite 127 = .ok (.iinc 6 1, 3) := by decide +kernel
theorem dX0_drawKite_130 : decode cX0_drawKite 130 = .ok (.goto (-117), 3) := by decide +kernel
theorem dX0_drawKite_133 : decode cX0_drawKite 133 = .ok (.aload_n 0, 1) := by decide +kernel
theorem dX0_drawKite_134 : decode cX0_drawKite 134 = .ok (.getfield 9, 3) := by decide +kernel
theorem dX0_drawKite_137 : decode cX0_drawKite 137 = .ok (.iload 4, 2) := by decide +kernel
theorem dX0_drawKite_139 : decode cX0_drawKite 139 = .ok (.iload 5, 2) := by decide +kernel
theorem dX0_drawKite_141 : decode cX0_drawKite 141 = .ok (.iastore, 1) := by decide +kernel
theorem dX0_drawKite_142 : decode cX0_drawKite 142 = .ok (.return_, 1) := by decide +kernel
theorem dX0_shoalsAt_0 : decode cX0_shoalsAt 0 = .ok (.aload_n 0, 1) := by decide +kernel
theorem dX0_shoalsAt_1 : decode cX0_shoalsAt 1 = .ok (.iload_n 1, 1) := by decide +kernel
theorem dX0_shoalsAt_2 : decode cX0_shoalsAt 2 = .ok (.iload_n 2, 1) := by decide +kernel
theorem dX0_shoalsAt_3 : decode cX0_shoalsAt 3 = .ok (.iload_n 3, 1) := by decide +kernel
theorem dX0_shoalsAt_4 : decode cX0_shoalsAt 4 = .ok (.invokevirtual 41, 3) := by decide +kernel
theorem dX0_shoalsAt_7 : decode cX0_shoalsAt 7 = .ok (.istore 4, 2) := by decide +kernel
theorem dX0_shoalsAt_9 : decode cX0_shoalsAt 9 = .ok (.aload_n 0, 1) := by decide +kernel
theorem dX0_shoalsAt_10 : decode cX0_shoalsAt 10 = .ok (.iload_n 1, 1) := by decide +kernel
theorem dX0_shoalsAt_11 : decode cX0_shoalsAt 11 = .ok (.iload_n 2, 1) := by decide +kernel
theorem dX0_shoalsAt_12 : decode cX0_shoalsAt 12 = .ok (.invokevirtual 45, 3) := by decide +kernel
theorem dX0_shoalsAt_15 : decode cX0_shoalsAt 15 = .ok (.istore 5, 2) := by decide +kernel
theorem dX0_shoalsAt_17 : decode cX0_shoalsAt 17 = .ok (.iconst 0, 1) := by decide +kernel
theorem dX0_shoalsAt_18 : decode cX0_shoalsAt 18 = .ok (.istore 6, 2) := by decide +kernel
theorem dX0_shoalsAt_20 : decode cX0_shoalsAt 20 = .ok (.iconst 0, 1) := by decide +kernel
theorem dX0_shoalsAt_21 : decode cX0_shoalsAt 21 = .ok (.istore 7, 2) := by decide +kernel
theorem dX0_shoalsAt_23 : decode cX0_shoalsAt 23 = .ok (.iload 7, 2) := by decide +kernel
theorem dX0_shoalsAt_25 : decode cX0_shoalsAt 25 = .ok (.iconst 4, 1) := by decide +kernel
theorem dX0_shoalsAt_26 : decode cX0_shoalsAt 26 = .ok (.if_icmp .ge 67, 3) := by decide +kernel
theorem dX0_shoalsAt_29 : decode cX0_shoalsAt 29 = .ok (.aload_n 0, 1) := by decide +kernel
theorem dX0_shoalsAt_30 : decode cX0_shoalsAt 30 = .ok (.iload 7, 2) := by decide +kernel
theorem dX0_shoalsAt_32 : decode cX0_shoalsAt 32 = .ok (.invokevirtual 49, 3) := by decide +kernel
theorem dX0_shoalsAt_35 : decode cX0_shoalsAt 35 = .ok (.ifCond .eq 31, 3) := by decide +kernel
theorem dX0_shoalsAt_38 : decode cX0_shoalsAt 38 = .ok (.aload_n 0, 1) := by decide +kernel
theorem dX0_shoalsAt_39 : decode cX0_shoalsAt 39 = .ok (.iload 7, 2) := by decide +kernel
theorem dX0_shoalsAt_41 : decode cX0_shoalsAt 41 = .ok (.iload_n 3, 1) := by decide +kernel
theorem dX0_shoalsAt_42 : decode cX0_shoalsAt 42 = .ok (.invokevirtual 53, 3) := by decide +kernel
theorem dX0_shoalsAt_45 : decode cX0_shoalsAt 45 = .ok (.iload 4, 2) := by decide +kernel
theorem dX0_shoalsAt_47 : decode cX0_shoalsAt 47 = .ok (.if_icmp .ne 19, 3) := by decide +kernel
theorem dX0_shoalsAt_50 : decode cX0_shoalsAt 50 = .ok (.aload_n 0, 1) := by decide +kernel
theorem dX0_shoalsAt_51 : decode cX0_shoalsAt 51 = .ok (.iload 7, 2) := by decide +kernel
theorem dX0_shoalsAt_53 : decode cX0_shoalsAt 53 = .ok (.iload_n 3, 1) := by decide +kernel
theorem dX0_shoalsAt_54 : decode cX0_shoalsAt 54 = .ok (.invokevirtual 56, 3) := by decide +kernel
theorem dX0_shoalsAt_57 : decode cX0_shoalsAt 57 = .ok (.iload 5, 2) := by decide +kernel
theorem dX0_shoalsAt_59 : decode cX0_shoalsAt 59 = .ok (.if_icmp .ne 7, 3) := by decide +kernel
theorem dX0_shoalsAt_62 : decode cX0_shoalsAt 62 = .ok (.iconst 1, 1) := by decide +kernel
theorem dX0_shoalsAt_63 : decode cX0_shoalsAt 63 = .ok (.goto 4, 3) := by decide +kernel
theorem dX0_shoalsAt_66 : decode cX0_shoalsAt 66 = .ok (.iconst 0, 1) := by decide +kernel
theorem dX0_shoalsAt_67 : decode cX0_shoalsAt 67 = .ok (.istore 8, 2) := by decide +kernel
theorem dX0_shoalsAt_69 : decode cX0_shoalsAt 69 = .ok (.iload 6, 2) := by decide +kernel
theorem dX0_shoalsAt_71 : decode cX0_shoalsAt 71 = .ok (.iload 8, 2) := by decide +kernel
theorem dX0_shoalsAt_73 : decode cX0_shoalsAt 73 = .ok (.ifCond .eq 10, 3) := by decide +kernel
theorem dX0_shoalsAt_76 : decode cX0_shoalsAt 76 = .ok (.iconst 1, 1) := by decide +kernel
theorem dX0_shoalsAt_77 : decode cX0_shoalsAt 77 = .ok (.iload 7, 2) := by decide +kernel
theorem dX0_shoalsAt_79 : decode cX0_shoalsAt 79 = .ok (.ishl, 1) := by decide +kernel
theorem dX0_shoalsAt_80 : decode cX0_shoalsAt 80 = .ok (.goto 4, 3) := by decide +kernel
theorem dX0_shoalsAt_83 : decode cX0_shoalsAt 83 = .ok (.iconst 0, 1) := by decide +kernel
theorem dX0_shoalsAt_84 : decode cX0_shoalsAt 84 = .ok (.ior, 1) := by decide +kernel
theorem dX0_shoalsAt_85 : decode cX0_shoalsAt 85 = .ok (.istore 6, 2) := by decide +kernel
theorem dX0_shoalsAt_87 : decode cX0_shoalsAt 87 = .ok (.iinc 7 1, 3) := by decide +kernel
theorem dX0_shoalsAt_90 : decode cX0_shoalsAt 90 = .ok (.goto (-67), 3) := by decide +kernel
theorem dX0_shoalsAt_93 : decode cX0_shoalsAt 93 = .ok (.iload 6, 2) := by decide +kernel
theorem dX0_shoalsAt_95 : decode cX0_shoalsAt 95 = .ok (.ireturn, 1) := by decide +kernel
theorem dX0_kitesAcross_0 : decode cX0_kitesAcross 0 = .ok (.iconst 0, 1) := by decide +kernel
theorem dX0_kitesAcross_1 : decode cX0_kitesAcross 1 = .ok (.istore 4, 2) := by decide +kernel
theorem dX0_kitesAcross_3 : decode cX0_kitesAcross 3 = .ok (.iload_n 1, 1) := by decide +kernel
theorem dX0_kitesAcross_4 : decode cX0_kitesAcross 4 = .ok (.iconst 1, 1) := by decide +kernel
theorem dX0_kitesAcross_5 : decode cX0_kitesAcross 5 = .ok (.iadd, 1) := by decide +kernel
theorem dX0_kitesAcross_6 : decode cX0_kitesAcross 6 = .ok (.istore 5, 2) := by decide +kernel
theorem dX0_kitesAcross_8 : decode cX0_kitesAcross 8 = .ok (.iload 5, 2) := by decide +kernel
theorem dX0_kitesAcross_10 : decode cX0_kitesAcross 10 = .ok (.bipush 6, 2) := by decide +kernel
theorem dX0_kitesAcross_12 : decode cX0_kitesAcross 12 = .ok (.if_icmp .ge 34, 3) := by decide +kernel
theorem dX0_kitesAcross_15 : decode cX0_kitesAcross 15 = .ok (.iload 4, 2) := by decide +kernel
theorem dX0_kitesAcross_17 : decode cX0_kitesAcross 17 = .ok (.aload_n 0, 1) := by decide +kernel
theorem dX0_kitesAcross_18 : decode cX0_kitesAcross 18 = .ok (.iload_n 1, 1) := by decide +kernel
theorem dX0_kitesAcross_19 : decode cX0_kitesAcross 19 = .ok (.iload 5, 2) := by decide +kernel
theorem dX0_kitesAcross_21 : decode cX0_kitesAcross 21 = .ok (.iload_n 2, 1) := by decide +kernel
theorem dX0_kitesAcross_22 : decode cX0_kitesAcross 22 = .ok (.iload_n 3, 1) := by decide +kernel
theorem dX0_kitesAcross_23 : decode cX0_kitesAcross 23 = .ok (.invokevirtual 59, 3) := by decide +kernel
theorem dX0_kitesAcross_26 : decode cX0_kitesAcross 26 = .ok (.ifCond .eq 10, 3) := by decide +kernel
theorem dX0_kitesAcross_29 : decode cX0_kitesAcross 29 = .ok (.iconst 1, 1) := by decide +kernel
theorem dX0_kitesAcross_30 : decode cX0_kitesAcross 30 = .ok (.iload 5, 2) := by decide +kernel
theorem dX0_kitesAcross_32 : decode cX0_kitesAcross 32 = .ok (.ishl, 1) := by decide +kernel
theorem dX0_kitesAcross_33 : decode cX0_kitesAcross 33 = .ok (.goto 4, 3) := by decide +kernel
theorem dX0_kitesAcross_36 : decode cX0_kitesAcross 36 = .ok (.iconst 0, 1) := by decide +kernel
theorem dX0_kitesAcross_37 : decode cX0_kitesAcross 37 = .ok (.ior, 1) := by decide +kernel
theorem dX0_kitesAcross_38 : decode cX0_kitesAcross 38 = .ok (.istore 4, 2) := by decide +kernel
theorem dX0_kitesAcross_40 : decode cX0_kitesAcross 40 = .ok (.iinc 5 1, 3) := by decide +kernel
theorem dX0_kitesAcross_43 : decode cX0_kitesAcross 43 = .ok (.goto (-35), 3) := by decide +kernel
theorem dX0_kitesAcross_46 : decode cX0_kitesAcross 46 = .ok (.iload 4, 2) := by decide +kernel
theorem dX0_kitesAcross_48 : decode cX0_kitesAcross 48 = .ok (.ireturn, 1) := by decide +kernel
theorem dX0_isFree_0 : decode cX0_isFree 0 = .ok (.iload_n 1, 1) := by decide +kernel
theorem dX0_isFree_1 : decode cX0_isFree 1 = .ok (.iconst 4, 1) := by decide +kernel
theorem dX0_isFree_2 : decode cX0_isFree 2 = .ok (.imul, 1) := by decide +kernel
theorem dX0_isFree_3 : decode cX0_isFree 3 = .ok (.iload_n 2, 1) := by decide +kernel
theorem dX0_isFree_4 : decode cX0_isFree 4 = .ok (.iadd, 1) := by decide +kernel
theorem dX0_isFree_5 : decode cX0_isFree 5 = .ok (.istore 4, 2) := by decide +kernel
theorem dX0_isFree_7 : decode cX0_isFree 7 = .ok (.iload 4, 2) := by decide +kernel
theorem dX0_isFree_9 : decode cX0_isFree 9 = .ok (.ifCond .lt 28, 3) := by decide +kernel
theorem dX0_isFree_12 : decode cX0_isFree 12 = .ok (.iload 4, 2) := by decide +kernel
theorem dX0_isFree_14 : decode cX0_isFree 14 = .ok (.bipush 24, 2) := by decide +kernel
theorem dX0_isFree_16 : decode cX0_isFree 16 = .ok (.if_icmp .ge 21, 3) := by decide +kernel
theorem dX0_isFree_19 : decode cX0_isFree 19 = .ok (.aload_n 0, 1) := by decide +kernel
theorem dX0_isFree_20 : decode cX0_isFree 20 = .ok (.getfield 9, 3) := by decide +kernel
theorem dX0_isFree_23 : decode cX0_isFree 23 = .ok (.iload 4, 2) := by decide +kernel
theorem dX0_isFree_25 : decode cX0_isFree 25 = .ok (.iaload, 1) := by decide +kernel
theorem dX0_isFree_26 : decode cX0_isFree 26 = .ok (.iload_n 3, 1) := by decide +kernel
theorem dX0_isFree_27 : decode cX0_isFree 27 = .ok (.invokestatic 63, 3) := by decide +kernel
theorem dX0_isFree_30 : decode cX0_isFree 30 = .ok (.ifCond .eq 7, 3) := by decide +kernel
theorem dX0_isFree_33 : decode cX0_isFree 33 = .ok (.iconst 1, 1) := by decide +kernel
theorem dX0_isFree_34 : decode cX0_isFree 34 = .ok (.goto 4, 3) := by decide +kernel
theorem dX0_isFree_37 : decode cX0_isFree 37 = .ok (.iconst 0, 1) := by decide +kernel
theorem dX0_isFree_38 : decode cX0_isFree 38 = .ok (.ireturn, 1) := by decide +kernel
theorem dX0_met_0 : decode cX0_met 0 = .ok (.iload_n 1, 1) := by decide +kernel
theorem dX0_met_1 : decode cX0_met 1 = .ok (.iconst 4, 1) := by decide +kernel
theorem dX0_met_2 : decode cX0_met 2 = .ok (.imul, 1) := by decide +kernel
theorem dX0_met_3 : decode cX0_met 3 = .ok (.iload_n 2, 1) := by decide +kernel
theorem dX0_met_4 : decode cX0_met 4 = .ok (.iadd, 1) := by decide +kernel
theorem dX0_met_5 : decode cX0_met 5 = .ok (.bipush 12, 2) := by decide +kernel
theorem dX0_met_7 : decode cX0_met 7 = .ok (.imul, 1) := by decide +kernel
theorem dX0_met_8 : decode cX0_met 8 = .ok (.iload_n 3, 1) := by decide +kernel
theorem dX0_met_9 : decode cX0_met 9 = .ok (.iadd, 1) := by decide +kernel
theorem dX0_met_10 : decode cX0_met 10 = .ok (.istore 4, 2) := by decide +kernel
theorem dX0_met_12 : decode cX0_met 12 = .ok (.iload 4, 2) := by decide +kernel
theorem dX0_met_14 : decode cX0_met 14 = .ok (.ifCond .lt 21, 3) := by decide +kernel
theorem dX0_met_17 : decode cX0_met 17 = .ok (.iload 4, 2) := by decide +kernel
theorem dX0_met_19 : decode cX0_met 19 = .ok (.sipush 288, 3) := by decide +kernel
theorem dX0_met_22 : decode cX0_met 22 = .ok (.if_icmp .ge 13, 3) := by decide +kernel
theorem dX0_met_25 : decode cX0_met 25 = .ok (.aload_n 0, 1) := by decide +kernel
theorem dX0_met_26 : decode cX0_met 26 = .ok (.getfield 15, 3) := by decide +kernel
theorem dX0_met_29 : decode cX0_met 29 = .ok (.iload 4, 2) := by decide +kernel
theorem dX0_met_31 : decode cX0_met 31 = .ok (.iaload, 1) := by decide +kernel
theorem dX0_met_32 : decode cX0_met 32 = .ok (.goto 4, 3) := by decide +kernel
theorem dX0_met_35 : decode cX0_met 35 = .ok (.iconst 0, 1) := by decide +kernel
theorem dX0_met_36 : decode cX0_met 36 = .ok (.ireturn, 1) := by decide +kernel
theorem dX0_crossed_0 : decode cX0_crossed 0 = .ok (.iload_n 1, 1) := by decide +kernel
theorem dX0_crossed_1 : decode cX0_crossed 1 = .ok (.iconst 4, 1) := by decide +kernel
theorem dX0_crossed_2 : decode cX0_crossed 2 = .ok (.imul, 1) := by decide +kernel
theorem dX0_crossed_3 : decode cX0_crossed 3 = .ok (.iload_n 2, 1) := by decide +kernel
theorem dX0_crossed_4 : decode cX0_crossed 4 = .ok (.iadd, 1) := by decide +kernel
theorem dX0_crossed_5 : decode cX0_crossed 5 = .ok (.bipush 12, 2) := by decide +kernel
theorem dX0_crossed_7 : decode cX0_crossed 7 = .ok (.imul, 1) := by decide +kernel
theorem dX0_crossed_8 : decode cX0_crossed 8 = .ok (.iload_n 3, 1) := by decide +kernel
theorem dX0_crossed_9 : decode cX0_crossed 9 = .ok (.iadd, 1) := by decide +kernel
theorem dX0_crossed_10 : decode cX0_crossed 10 = .ok (.istore 4, 2) := by decide +kernel
theorem dX0_crossed_12 : decode cX0_crossed 12 = .ok (.iload 4, 2) := by decide +kernel
theorem dX0_crossed_14 : decode cX0_crossed 14 = .ok (.ifCond .lt 21, 3) := by decide +kernel
theorem dX0_crossed_17 : decode cX0_crossed 17 = .ok (.iload 4, 2) := by decide +kernel
theorem dX0_crossed_19 : decode cX0_crossed 19 = .ok (.sipush 288, 3) := by decide +kernel
theorem dX0_crossed_22 : decode cX0_crossed 22 = .ok (.if_icmp .ge 13, 3) := by decide +kernel
theorem dX0_crossed_25 : decode cX0_crossed 25 = .ok (.aload_n 0, 1) := by decide +kernel
theorem dX0_crossed_26 : decode cX0_crossed 26 = .ok (.getfield 18, 3) := by decide +kernel
theorem dX0_crossed_29 : decode cX0_crossed 29 = .ok (.iload 4, 2) := by decide +kernel
theorem dX0_crossed_31 : decode cX0_crossed 31 = .ok (.iaload, 1) := by decide +kernel
theorem dX0_crossed_32 : decode cX0_crossed 32 = .ok (.goto 4, 3) := by decide +kernel
theorem dX0_crossed_35 : decode cX0_crossed 35 = .ok (.iconst 0, 1) := by decide +kernel
theorem dX0_crossed_36 : decode cX0_crossed 36 = .ok (.ireturn, 1) := by decide +kernel
theorem dX1_init_0 : decode cX1_init 0 = .ok (.aload_n 0, 1) := by decide +kernel
theorem dX1_init_1 : decode cX1_init 1 = .ok (.invokespecial 3, 3) := by decide +kernel
theorem dX1_init_4 : decode cX1_init 4 = .ok (.aload_n 0, 1) := by decide +kernel
theorem dX1_init_5 : decode cX1_init 5 = .ok (.bipush 6, 2) := by decide +kernel
theorem dX1_init_7 : decode cX1_init 7 = .ok (.newarray .int, 2) := by decide +kernel
theorem dX1_init_9 : decode cX1_init 9 = .ok (.putfield 9, 3) := by decide +kernel
theorem dX1_init_12 : decode cX1_init 12 = .ok (.aload_n 0, 1) := by decide +kernel
theorem dX1_init_13 : decode cX1_init 13 = .ok (.bipush 6, 2) := by decide +kernel
theorem dX1_init_15 : decode cX1_init 15 = .ok (.newarray .int, 2) := by decide +kernel
theorem dX1_init_17 : decode cX1_init 17 = .ok (.putfield 15, 3) := by decide +kernel
theorem dX1_init_20 : decode cX1_init 20 = .ok (.aload_n 0, 1) := by decide +kernel
theorem dX1_init_21 : decode cX1_init 21 = .ok (.bipush 6, 2) := by decide +kernel
theorem dX1_init_23 : decode cX1_init 23 = .ok (.newarray .int, 2) := by decide +kernel
theorem dX1_init_25 : decode cX1_init 25 = .ok (.putfield 18, 3) := by decide +kernel
theorem dX1_init_28 : decode cX1_init 28 = .ok (.aload_n 0, 1) := by decide +kernel
theorem dX1_init_29 : decode cX1_init 29 = .ok (.bipush 6, 2) := by decide +kernel
theorem dX1_init_31 : decode cX1_init 31 = .ok (.newarray .int, 2) := by decide +kernel
theorem dX1_init_33 : decode cX1_init 33 = .ok (.putfield 21, 3) := by decide +kernel
theorem dX1_init_36 : decode cX1_init 36 = .ok (.aload_n 0, 1) := by decide +kernel
theorem dX1_init_37 : decode cX1_init 37 = .ok (.iconst 4, 1) := by decide +kernel
theorem dX1_init_38 : decode cX1_init 38 = .ok (.newarray .int, 2) := by decide +kernel
theorem dX1_init_40 : decode cX1_init 40 = .ok (.putfield 24, 3) := by decide +kernel
theorem dX1_init_43 : decode cX1_init 43 = .ok (.aload_n 0, 1) := by decide +kernel
theorem dX1_init_44 : decode cX1_init 44 = .ok (.sipush 288, 3) := by decide +kernel
theorem dX1_init_47 : decode cX1_init 47 = .ok (.newarray .int, 2) := by decide +kernel
theorem dX1_init_49 : decode cX1_init 49 = .ok (.putfield 27, 3) := by decide +kernel
theorem dX1_init_52 : decode cX1_init 52 = .ok (.return_, 1) := by decide +kernel
theorem dX1_stockShoals_0 : decode cX1_stockShoals 0 = .ok (.iconst 0, 1) := by decide +kernel
theorem dX1_stockShoals_1 : decode cX1_stockShoals 1 = .ok (.istore_n 2, 1) := by decide +kernel
theorem dX1_stockShoals_2 : decode cX1_stockShoals 2 = .ok (.iload_n 2, 1) := by decide +kernel
theorem dX1_stockShoals_3 : decode cX1_stockShoals 3 = .ok (.iconst 4, 1) := by decide +kernel
theorem dX1_stockShoals_4 : decode cX1_stockShoals 4 = .ok (.if_icmp .ge 36, 3) := by decide +kernel
theorem dX1_stockShoals_7 : decode cX1_stockShoals 7 = .ok (.aload_n 0, 1) := by decide +kernel
theorem dX1_stockShoals_8 : decode cX1_stockShoals 8 = .ok (.getfield 24, 3) := by decide +kernel
theorem dX1_stockShoals_11 : decode cX1_stockShoals 11 = .ok (.iload_n 2, 1) := by decide +kernel
theorem dX1_stockShoals_12 : decode cX1_stockShoals 12 = .ok (.aload_n 1, 1) := by decide +kernel
theorem dX1_stockShoals_13 : decode cX1_stockShoals 13 = .ok (.iload_n 2, 1) := by decide +kernel
theorem dX1_stockShoals_14 : decode cX1_stockShoals 14 = .ok (.invokevirtual 30, 3) := by decide +kernel
theorem dX1_stockShoals_17 : decode cX1_stockShoals 17 = .ok (.ifCond .eq 15, 3) := by decide +kernel
theorem dX1_stockShoals_20 : decode cX1_stockShoals 20 = .ok (.aload_n 1, 1) := by decide +kernel
theorem dX1_stockShoals_21 : decode cX1_stockShoals 21 = .ok (.getfield 36, 3) := by decide +kernel
theorem dX1_stockShoals_24 : decode cX1_stockShoals 24 = .ok (.iload_n 2, 1) := by decide +kernel
theorem dX1_stockShoals_25 : decode cX1_stockShoals 25 = .ok (.aaload, 1) := by decide +kernel
theorem dX1_stockShoals_26 : decode cX1_stockShoals 26 = .ok (.getfield 40, 3) := by decide +kernel
theorem dX1_stockShoals_29 : decode cX1_stockShoals 29 = .ok (.goto 4, 3) := by decide +kernel
theorem dX1_stockShoals_32 : decode cX1_stockShoals 32 = .ok (.iconst 0, 1) := by decide +kernel
theorem dX1_stockShoals_33 : decode cX1_stockShoals 33 = .ok (.iastore, 1) := by decide +kernel
theorem dX1_stockShoals_34 : decode cX1_stockShoals 34 = .ok (.iinc 2 1, 3) := by decide +kernel
theorem dX1_stockShoals_37 : decode cX1_stockShoals 37 = .ok (.goto (-35), 3) := by decide +kernel
theorem dX1_stockShoals_40 : decode cX1_stockShoals 40 = .ok (.return_, 1) := by decide +kernel
theorem dX1_become_0 : decode cX1_become 0 = .ok (.aload_n 0, 1) := by decide +kernel
theorem dX1_become_1 : decode cX1_become 1 = .ok (.aload_n 1, 1) := by decide +kernel
theorem dX1_become_2 : decode cX1_become 2 = .ok (.invokevirtual 46, 3) := by decide +kernel
theorem dX1_become_5 : decode cX1_become 5 = .ok (.aload_n 0, 1) := by decide +kernel
theorem dX1_become_6 : decode cX1_become 6 = .ok (.aload_n 1, 1) := by decide +kernel
theorem dX1_become_7 : decode cX1_become 7 = .ok (.getfield 50, 3) := by decide +kernel
theorem dX1_become_10 : decode cX1_become 10 = .ok (.putfield 50, 3) := by decide +kernel
theorem dX1_become_13 : decode cX1_become 13 = .ok (.aload_n 0, 1) := by decide +kernel
theorem dX1_become_14 : decode cX1_become 14 = .ok (.aload_n 1, 1) := by decide +kernel
theorem dX1_become_15 : decode cX1_become 15 = .ok (.getfield 53, 3) := by decide +kernel
theorem dX1_become_18 : decode cX1_become 18 = .ok (.putfield 53, 3) := by decide +kernel
theorem dX1_become_21 : decode cX1_become 21 = .ok (.aload_n 0, 1) := by decide +kernel
theorem dX1_become_22 : decode cX1_become 22 = .ok (.aload_n 1, 1) := by decide +kernel
theorem dX1_become_23 : decode cX1_become 23 = .ok (.getfield 56, 3) := by decide +kernel
theorem dX1_become_26 : decode cX1_become 26 = .ok (.putfield 56, 3) := by decide +kernel
theorem dX1_become_29 : decode cX1_become 29 = .ok (.aload_n 1, 1) := by decide +kernel
theorem dX1_become_30 : decode cX1_become 30 = .ok (.getfield 9, 3) := by decide +kernel
theorem dX1_become_33 : decode cX1_become 33 = .ok (.iconst 0, 1) := by decide +kernel
theorem dX1_become_34 : decode cX1_become 34 = .ok (.aload_n 0, 1) := by decide +kernel
theorem dX1_become_35 : decode cX1_become 35 = .ok (.getfield 9, 3) := by decide +kernel
theorem dX1_become_38 : decode cX1_become 38 = .ok (.iconst 0, 1) := by decide +kernel
theorem dX1_become_39 : decode cX1_become 39 = .ok (.bipush 6, 2) := by decide +kernel
theorem dX1_become_41 : decode cX1_become 41 = .ok (.invokestatic 59, 3) := by decide +kernel
theorem dX1_become_44 : decode cX1_become 44 = .ok (.aload_n 1, 1) := by decide +kernel
theorem dX1_become_45 : decode cX1_become 45 = .ok (.getfield 15, 3) := by decide +kernel
theorem dX1_become_48 : decode cX1_become 48 = .ok (.iconst 0, 1) := by decide +kernel
theorem dX1_become_49 : decode cX1_become 49 = .ok (.aload_n 0, 1) := by decide +kernel
theorem dX1_become_50 : decode cX1_become 50 = .ok (.getfield 15, 3) := by decide +kernel
theorem dX1_become_53 : decode cX1_become 53 = .ok (.iconst 0, 1) := by decide +kernel
theorem dX1_become_54 : decode cX1_become 54 = .ok (.bipush 6, 2) := by decide +kernel
theorem dX1_become_56 : decode cX1_become 56 = .ok (.invokestatic 59, 3) := by decide +kernel
theorem dX1_become_59 : decode cX1_become 59 = .ok (.aload_n 1, 1) := by decide +kernel
theorem dX1_become_60 : decode cX1_become 60 = .ok (.getfield 18, 3) := by decide +kernel
theorem dX1_become_63 : decode cX1_become 63 = .ok (.iconst 0, 1) := by decide +kernel
theorem dX1_become_64 : decode cX1_become 64 = .ok (.aload_n 0, 1) := by decide +kernel
theorem dX1_become_65 : decode cX1_become 65 = .ok (.getfield 18, 3) := by decide +kernel
theorem dX1_become_68 : decode cX1_become 68 = .ok (.iconst 0, 1) := by decide +kernel
theorem dX1_become_69 : decode cX1_become 69 = .ok (.bipush 6, 2) := by decide +kernel
theorem dX1_become_71 : decode cX1_become 71 = .ok (.invokestatic 59, 3) := by decide +kernel
theorem dX1_become_74 : decode cX1_become 74 = .ok (.aload_n 1, 1) := by decide +kernel
theorem dX1_become_75 : decode cX1_become 75 = .ok (.getfield 21, 3) := by decide +kernel
theorem dX1_become_78 : decode cX1_become 78 = .ok (.iconst 0, 1) := by decide +kernel
theorem dX1_become_79 : decode cX1_become 79 = .ok (.aload_n 0, 1) := by decide +kernel
theorem dX1_become_80 : decode cX1_become 80 = .ok (.getfield 21, 3) := by decide +kernel
theorem dX1_become_83 : decode cX1_become 83 = .ok (.iconst 0, 1) := by decide +kernel
theorem dX1_become_84 : decode cX1_become 84 = .ok (.bipush 6, 2) := by decide +kernel
theorem dX1_become_86 : decode cX1_become 86 = .ok (.invokestatic 59, 3) := by decide +kernel
theorem dX1_become_89 : decode cX1_become 89 = .ok (.aload_n 1, 1) := by decide +kernel
theorem dX1_become_90 : decode cX1_become 90 = .ok (.getfield 27, 3) := by decide +kernel
theorem dX1_become_93 : decode cX1_become 93 = .ok (.iconst 0, 1) := by decide +kernel
theorem dX1_become_94 : decode cX1_become 94 = .ok (.aload_n 0, 1) := by decide +kernel
theorem dX1_become_95 : decode cX1_become 95 = .ok (.getfield 27, 3) := by decide +kernel
theorem dX1_become_98 : decode cX1_become 98 = .ok (.iconst 0, 1) := by decide +kernel
theorem dX1_become_99 : decode cX1_become 99 = .ok (.sipush 288, 3) := by decide +kernel
theorem dX1_become_102 : decode cX1_become 102 = .ok (.invokestatic 59, 3) := by decide +kernel
theorem dX1_become_105 : decode cX1_become 105 = .ok (.return_, 1) := by decide +kernel
theorem dX1_resume_0 : decode cX1_resume 0 = .ok (.aload_n 0, 1) := by decide +kernel
theorem dX1_resume_1 : decode cX1_resume 1 = .ok (.aload_n 1, 1) := by decide +kernel
theorem dX1_resume_2 : decode cX1_resume 2 = .ok (.getfield 65, 3) := by decide +kernel
theorem dX1_resume_5 : decode cX1_resume 5 = .ok (.putfield 65, 3) := by decide +kernel
theorem dX1_resume_8 : decode cX1_resume 8 = .ok (.aload_n 0, 1) := by decide +kernel
theorem dX1_resume_9 : decode cX1_resume 9 = .ok (.aload_n 1, 1) := by decide +kernel
theorem dX1_resume_10 : decode cX1_resume 10 = .ok (.getfield 68, 3) := by decide +kernel
theorem dX1_resume_13 : decode cX1_resume 13 = .ok (.putfield 68, 3) := by decide +kernel
theorem dX1_resume_16 : decode cX1_resume 16 = .ok (.aload_n 0, 1) := by decide +kernel
theorem dX1_resume_17 : decode cX1_resume 17 = .ok (.iconst 0, 1) := by decide +kernel
theorem dX1_resume_18 : decode cX1_resume 18 = .ok (.putfield 50, 3) := by decide +kernel
theorem dX1_resume_21 : decode cX1_resume 21 = .ok (.aload_n 0, 1) := by decide +kernel
theorem dX1_resume_22 : decode cX1_resume 22 = .ok (.iconst 0, 1) := by decide +kernel
theorem dX1_resume_23 : decode cX1_resume 23 = .ok (.putfield 53, 3) := by decide +kernel
theorem dX1_resume_26 : decode cX1_resume 26 = .ok (.aload_n 0, 1) := by decide +kernel
theorem dX1_resume_27 : decode cX1_resume 27 = .ok (.iconst 0, 1) := by decide +kernel
theorem dX1_resume_28 : decode cX1_resume 28 = .ok (.putfield 56, 3) := by decide +kernel
theorem dX1_resume_31 : decode cX1_resume 31 = .ok (.aload_n 1, 1) := by decide +kernel
theorem dX1_resume_32 : decode cX1_resume 32 = .ok (.getfield 24, 3) := by decide +kernel
theorem dX1_resume_35 : decode cX1_resume 35 = .ok (.iconst 0, 1) := by decide +kernel
theorem dX1_resume_36 : decode cX1_resume 36 = .ok (.aload_n 0, 1) := by decide +kernel
theorem dX1_resume_37 : decode cX1_resume 37 = .ok (.getfield 24, 3) := by decide +kernel
theorem dX1_resume_40 : decode cX1_resume 40 = .ok (.iconst 0, 1) := by decide +kernel
theorem dX1_resume_41 : decode cX1_resume 41 = .ok (.iconst 4, 1) := by decide +kernel
theorem dX1_resume_42 : decode cX1_resume 42 = .ok (.invokestatic 59, 3) := by decide +kernel
theorem dX1_resume_45 : decode cX1_resume 45 = .ok (.return_, 1) := by decide +kernel
theorem dX1_pass_0 : decode cX1_pass 0 = .ok (.iconst 0, 1) := by decide +kernel
theorem dX1_pass_1 : decode cX1_pass 1 = .ok (.istore 5, 2) := by decide +kernel
theorem dX1_pass_3 : decode cX1_pass 3 = .ok (.iload 5, 2) := by decide +kernel
theorem dX1_pass_5 : decode cX1_pass 5 = .ok (.iload_n 1, 1) := by decide +kernel
theorem dX1_pass_6 : decode cX1_pass 6 = .ok (.if_icmp .ge 93, 3) := by decide +kernel
theorem dX1_pass_9 : decode cX1_pass 9 = .ok (.aload_n 0, 1) := by decide +kernel
theorem dX1_pass_10 : decode cX1_pass 10 = .ok (.getfield 65, 3) := by decide +kernel
theorem dX1_pass_13 : decode cX1_pass 13 = .ok (.bipush 12, 2) := by decide +kernel
theorem dX1_pass_15 : decode cX1_pass 15 = .ok (.if_icmp .ge 84, 3) := by decide +kernel
theorem dX1_pass_18 : decode cX1_pass 18 = .ok (.aload_n 0, 1) := by decide +kernel
theorem dX1_pass_19 : decode cX1_pass 19 = .ok (.aload_n 0, 1) := by decide +kernel
theorem dX1_pass_20 : decode cX1_pass 20 = .ok (.aload_n 0, 1) := by decide +kernel
theorem dX1_pass_21 : decode cX1_pass 21 = .ok (.aload_n 2, 1) := by decide +kernel
theorem dX1_pass_22 : decode cX1_pass 22 = .ok (.aload_n 3, 1) := by decide +kernel
theorem dX1_pass_23 : decode cX1_pass 23 = .ok (.invokevirtual 71, 3) := by decide +kernel
theorem dX1_pass_26 : decode cX1_pass 26 = .ok (.aload_n 2, 1) := by decide +kernel
theorem dX1_pass_27 : decode cX1_pass 27 = .ok (.aload_n 3, 1) := by decide +kernel
theorem dX1_pass_28 : decode cX1_pass 28 = .ok (.iload 4, 2) := by decide +kernel
theorem dX1_pass_30 : decode cX1_pass 30 = .ok (.invokevirtual 75, 3) := by decide +kernel
theorem dX1_pass_33 : decode cX1_pass 33 = .ok (.putfield 68, 3) := by decide +kernel
theorem dX1_pass_36 : decode cX1_pass 36 = .ok (.iconst 0, 1) := by decide +kernel
theorem dX1_pass_37 : decode cX1_pass 37 = .ok (.istore 6, 2) := by decide +kernel
theorem dX1_pass_39 : decode cX1_pass 39 = .ok (.iload 6, 2) := by decide +kernel
theorem dX1_pass_41 : decode cX1_pass 41 = .ok (.bipush 6, 2) := by decide +kernel
theorem dX1_pass_43 : decode cX1_pass 43 = .ok (.if_icmp .ge 40, 3) := by decide +kernel
theorem dX1_pass_46 : decode cX1_pass 46 = .ok (.aload_n 0, 1) := by decide +kernel
theorem dX1_pass_47 : decode cX1_pass 47 = .ok (.getfield 68, 3) := by decide +kernel
theorem dX1_pass_50 : decode cX1_pass 50 = .ok (.iload 6, 2) := by decide +kernel
theorem dX1_pass_52 : decode cX1_pass 52 = .ok (.invokestatic 79, 3) := by decide +kernel
theorem dX1_pass_55 : decode cX1_pass 55 = .ok (.ifCond .eq 22, 3) := by decide +kernel
theorem dX1_pass_58 : decode cX1_pass 58 = .ok (.aload_n 0, 1) := by decide +kernel
theorem dX1_pass_59 : decode cX1_pass 59 = .ok (.getfield 18, 3) := by decide +kernel
theorem dX1_pass_62 : decode cX1_pass 62 = .ok (.iload 6, 2) := by decide +kernel
theorem dX1_pass_64 : decode cX1_pass 64 = .ok (.dup2, 1) := by decide +kernel
theorem dX1_pass_65 : decode cX1_pass 65 = .ok (.iaload, 1) := by decide +kernel
theorem dX1_pass_66 : decode cX1_pass 66 = .ok (.iconst 1, 1) := by decide +kernel
theorem dX1_pass_67 : decode cX1_pass 67 = .ok (.iadd, 1) := by decide +kernel
theorem dX1_pass_68 : decode cX1_pass 68 = .ok (.iastore, 1) := by decide +kernel
theorem dX1_pass_69 : decode cX1_pass 69 = .ok (.aload_n 0, 1) := by decide +kernel
theorem dX1_pass_70 : decode cX1_pass 70 = .ok (.iload 6, 2) := by decide +kernel
theorem dX1_pass_72 : decode cX1_pass 72 = .ok (.aload_n 2, 1) := by decide +kernel
theorem dX1_pass_73 : decode cX1_pass 73 = .ok (.aload_n 3, 1) := by decide +kernel
theorem dX1_pass_74 : decode cX1_pass 74 = .ok (.invokevirtual 83, 3) := by decide +kernel
theorem dX1_pass_77 : decode cX1_pass 77 = .ok (.iinc 6 1, 3) := by decide +kernel
theorem dX1_pass_80 : decode cX1_pass 80 = .ok (.goto (-41), 3) := by decide +kernel
theorem dX1_pass_83 : decode cX1_pass 83 = .ok (.aload_n 0, 1) := by decide +kernel
theorem dX1_pass_84 : decode cX1_pass 84 = .ok (.dup, 1) := by decide +kernel
theorem dX1_pass_85 : decode cX1_pass 85 = .ok (.getfield 65, 3) := by decide +kernel
theorem dX1_pass_88 : decode cX1_pass 88 = .ok (.iconst 1, 1) := by decide +kernel
theorem dX1_pass_89 : decode cX1_pass 89 = .ok (.iadd, 1) := by decide +kernel
theorem dX1_pass_90 : decode cX1_pass 90 = .ok (.putfield 65, 3) := by decide +kernel
theorem dX1_pass_93 : decode cX1_pass 93 = .ok (.iinc 5 1, 3) := by decide +kernel
theorem dX1_pass_96 : decode cX1_pass 96 = .ok (.goto (-93), 3) := by decide +kernel
theorem dX1_pass_99 : decode cX1_pass 99 = .ok (.return_, 1) := by decide +kernel
theorem dX1_risen_0 : decode cX1_risen 0 = .ok (.aload_n 1, 1) := by decide +kernel
theorem dX1_risen_1 : decode cX1_risen 1 = .ok (.aload_n 0, 1) := by decide +kernel
theorem dX1_risen_2 : decode cX1_risen 2 = .ok (.getfield 65, 3) := by decide +kernel
theorem dX1_risen_5 : decode cX1_risen 5 = .ok (.invokevirtual 87, 3) := by decide +kernel
theorem dX1_risen_8 : decode cX1_risen 8 = .ok (.istore_n 3, 1) := by decide +kernel
theorem dX1_risen_9 : decode cX1_risen 9 = .ok (.iconst 0, 1) := by decide +kernel
theorem dX1_risen_10 : decode cX1_risen 10 = .ok (.istore 4, 2) := by decide +kernel
theorem dX1_risen_12 : decode cX1_risen 12 = .ok (.iconst 0, 1) := by decide +kernel
theorem dX1_risen_13 : decode cX1_risen 13 = .ok (.istore 5, 2) := by decide +kernel
theorem dX1_risen_15 : decode cX1_risen 15 = .ok (.iconst 0, 1) := by decide +kernel
theorem dX1_risen_16 : decode cX1_risen 16 = .ok (.istore 6, 2) := by decide +kernel
theorem dX1_risen_18 : decode cX1_risen 18 = .ok (.iload 6, 2) := by decide +kernel
theorem dX1_risen_20 : decode cX1_risen 20 = .ok (.bipush 6, 2) := by decide +kernel
theorem dX1_risen_22 : decode cX1_risen 22 = .ok (.if_icmp .ge 85, 3) := by decide +kernel
theorem dX1_risen_25 : decode cX1_risen 25 = .ok (.aload_n 2, 1) := by decide +kernel
theorem dX1_risen_26 : decode cX1_risen 26 = .ok (.iload 6, 2) := by decide +kernel
theorem dX1_risen_28 : decode cX1_risen 28 = .ok (.aload_n 0, 1) := by decide +kernel
theorem dX1_risen_29 : decode cX1_risen 29 = .ok (.getfield 9, 3) := by decide +kernel
theorem dX1_risen_32 : decode cX1_risen 32 = .ok (.iload 6, 2) := by decide +kernel
theorem dX1_risen_34 : decode cX1_risen 34 = .ok (.iaload, 1) := by decide +kernel
theorem dX1_risen_35 : decode cX1_risen 35 = .ok (.aload_n 0, 1) := by decide +kernel
theorem dX1_risen_36 : decode cX1_risen 36 = .ok (.getfield 65, 3) := by decide +kernel
theorem dX1_risen_39 : decode cX1_risen 39 = .ok (.invokevirtual 90, 3) := by decide +kernel
theorem dX1_risen_42 : decode cX1_risen 42 = .ok (.ifCond .eq 59, 3) := by decide +kernel
theorem dX1_risen_45 : decode cX1_risen 45 = .ok (.iload_n 3, 1) := by decide +kernel
theorem dX1_risen_46 : decode cX1_risen 46 = .ok (.ifCond .eq 18, 3) := by decide +kernel
theorem dX1_risen_49 : decode cX1_risen 49 = .ok (.aload_n 0, 1) := by decide +kernel
theorem dX1_risen_50 : decode cX1_risen 50 = .ok (.getfield 68, 3) := by decide +kernel
theorem dX1_risen_53 : decode cX1_risen 53 = .ok (.iload 6, 2) := by decide +kernel
theorem dX1_risen_55 : decode cX1_risen 55 = .ok (.invokestatic 79, 3) := by decide +kernel
theorem dX1_risen_58 : decode cX1_risen 58 = .ok (.ifCond .ne 6, 3) := by decide +kernel
theorem dX1_risen_61 : decode cX1_risen 61 = .ok (.goto 40, 3) := by decide +kernel
theorem dX1_risen_64 : decode cX1_risen 64 = .ok (.iload 5, 2) := by decide +kernel
theorem dX1_risen_66 : decode cX1_risen 66 = .ok (.aload_n 1, 1) := by decide +kernel
theorem dX1_risen_67 : decode cX1_risen 67 = .ok (.getfield 96, 3) := by decide +kernel
theorem dX1_risen_70 : decode cX1_risen 70 = .ok (.iload 6, 2) := by decide +kernel
theorem dX1_risen_72 : decode cX1_risen 72 = .ok (.aaload, 1) := by decide +kernel
theorem dX1_risen_73 : decode cX1_risen 73 = .ok (.getfield 100, 3) := by decide +kernel
theorem dX1_risen_76 : decode cX1_risen 76 = .ok (.iadd, 1) := by decide +kernel
theorem dX1_risen_77 : decode cX1_risen 77 = .ok (.istore 7, 2) := by decide +kernel
theorem dX1_risen_79 : decode cX1_risen 79 = .ok (.iload 7, 2) := by decide +kernel
theorem dX1_risen_81 : decode cX1_risen 81 = .ok (.aload_n 1, 1) := by decide +kernel
theorem dX1_risen_82 : decode cX1_risen 82 = .ok (.getfield 105, 3) := by decide +kernel
theorem dX1_risen_85 : decode cX1_risen 85 = .ok (.if_icmp .gt 16, 3) := by decide +kernel
theorem dX1_risen_88 : decode cX1_risen 88 = .ok (.iload 7, 2) := by decide +kernel
theorem dX1_risen_90 : decode cX1_risen 90 = .ok (.istore 5, 2) := by decide +kernel
theorem dX1_risen_92 : decode cX1_risen 92 = .ok (.iload 4, 2) := by decide +kernel
theorem dX1_risen_94 : decode cX1_risen 94 = .ok (.iconst 1, 1) := by decide +kernel
theorem dX1_risen_95 : decode cX1_risen 95 = .ok (.iload 6, 2) := by decide +kernel
theorem dX1_risen_97 : decode cX1_risen 97 = .ok (.ishl, 1) := by decide +kernel
theorem dX1_risen_98 : decode cX1_risen 98 = .ok (.ior, 1) := by decide +kernel
theorem dX1_risen_99 : decode cX1_risen 99 = .ok (.istore 4, 2) := by decide +kernel
theorem dX1_risen_101 : decode cX1_risen 101 = .ok (.iinc 6 1, 3) := by decide +kernel
theorem dX1_risen_104 : decode cX1_risen 104 = .ok (.goto (-86), 3) := by decide +kernel
theorem dX1_risen_107 : decode cX1_risen 107 = .ok (.iload 4, 2) := by decide +kernel
theorem dX1_risen_109 : decode cX1_risen 109 = .ok (.ireturn, 1) := by decide +kernel
theorem dX1_untangled_0 : decode cX1_untangled 0 = .ok (.iload_n 1, 1) := by decide +kernel
theorem dX1_untangled_1 : decode cX1_untangled 1 = .ok (.istore 5, 2) := by decide +kernel
theorem dX1_untangled_3 : decode cX1_untangled 3 = .ok (.iconst 0, 1) := by decide +kernel
theorem dX1_untangled_4 : decode cX1_untangled 4 = .ok (.istore 6, 2) := by decide +kernel
theorem dX1_untangled_6 : decode cX1_untangled 6 = .ok (.iload 6, 2) := by decide +kernel
theorem dX1_untangled_8 : decode cX1_untangled 8 = .ok (.bipush 6, 2) := by decide +kernel
theorem dX1_untangled_10 : decode cX1_untangled 10 = .ok (.if_icmp .ge 162, 3) := by decide +kernel
theorem dX1_untangled_13 : decode cX1_untangled 13 = .ok (.iload 5, 2) := by decide +kernel
theorem dX1_untangled_15 : decode cX1_untangled 15 = .ok (.iload 6, 2) := by decide +kernel
theorem dX1_untangled_17 : decode cX1_untangled 17 = .ok (.invokestatic 79, 3) := by decide +kernel
theorem dX1_untangled_20 : decode cX1_untangled 20 = .ok (.ifCond .eq 23, 3) := by decide +kernel
theorem dX1_untangled_23 : decode cX1_untangled 23 = .ok (.aload_n 3, 1) := by decide +kernel
theorem dX1_untangled_24 : decode cX1_untangled 24 = .ok (.iload 6, 2) := by decide +kernel
theorem dX1_untangled_26 : decode cX1_untangled 26 = .ok (.aload_n 0, 1) := by decide +kernel
theorem dX1_untangled_27 : decode cX1_untangled 27 = .ok (.getfield 9, 3) := by decide +kernel
theorem dX1_untangled_30 : decode cX1_untangled 30 = .ok (.iload 6, 2) := by decide +kernel
theorem dX1_untangled_32 : decode cX1_untangled 32 = .ok (.iaload, 1) := by decide +kernel
theorem dX1_untangled_33 : decode cX1_untangled 33 = .ok (.aload_n 0, 1) := by decide +kernel
theorem dX1_untangled_34 : decode cX1_untangled 34 = .ok (.getfield 65, 3) := by decide +kernel
theorem dX1_untangled_37 : decode cX1_untangled 37 = .ok (.invokevirtual 108, 3) := by decide +kernel
theorem dX1_untangled_40 : decode cX1_untangled 40 = .ok (.goto 4, 3) := by decide +kernel
theorem dX1_untangled_43 : decode cX1_untangled 43 = .ok (.iconst 0, 1) := by decide +kernel
theorem dX1_untangled_44 : decode cX1_untangled 44 = .ok (.istore 7, 2) := by decide +kernel
theorem dX1_untangled_46 : decode cX1_untangled 46 = .ok (.iload 6, 2) := by decide +kernel
theorem dX1_untangled_48 : decode cX1_untangled 48 = .ok (.iconst 1, 1) := by decide +kernel
theorem dX1_untangled_49 : decode cX1_untangled 49 = .ok (.iadd, 1) := by decide +kernel
theorem dX1_untangled_50 : decode cX1_untangled 50 = .ok (.istore 8, 2) := by decide +kernel
theorem dX1_untangled_52 : decode cX1_untangled 52 = .ok (.iload 8, 2) := by decide +kernel
theorem dX1_untangled_54 : decode cX1_untangled 54 = .ok (.bipush 6, 2) := by decide +kernel
theorem dX1_untangled_56 : decode cX1_untangled 56 = .ok (.if_icmp .ge 110, 3) := by decide +kernel
theorem dX1_untangled_59 : decode cX1_untangled 59 = .ok (.iload 7, 2) := by decide +kernel
theorem dX1_untangled_61 : decode cX1_untangled 61 = .ok (.iload 8, 2) := by decide +kernel
theorem dX1_untangled_63 : decode cX1_untangled 63 = .ok (.ishr, 1) := by decide +kernel
theorem dX1_untangled_64 : decode cX1_untangled 64 = .ok (.ifCond .eq 102, 3) := by decide +kernel
theorem dX1_untangled_67 : decode cX1_untangled 67 = .ok (.iload 5, 2) := by decide +kernel
theorem dX1_untangled_69 : decode cX1_untangled 69 = .ok (.iload 6, 2) := by decide +kernel
theorem dX1_untangled_71 : decode cX1_untangled 71 = .ok (.invokestatic 79, 3) := by decide +kernel
theorem dX1_untangled_74 : decode cX1_untangled 74 = .ok (.ifCond .eq 17, 3) := by decide +kernel
theorem dX1_untangled_77 : decode cX1_untangled 77 = .ok (.iload 5, 2) := by decide +kernel
theorem dX1_untangled_79 : decode cX1_untangled 79 = .ok (.iload 8, 2) := by decide +kernel
theorem dX1_untangled_81 : decode cX1_untangled 81 = .ok (.invokestatic 79, 3) := by decide +kernel
theorem dX1_untangled_84 : decode cX1_untangled 84 = .ok (.ifCond .eq 7, 3) := by decide +kernel
theorem dX1_untangled_87 : decode cX1_untangled 87 = .ok (.iconst 1, 1) := by decide +kernel
theorem dX1_untangled_88 : decode cX1_untangled 88 = .ok (.goto 4, 3) := by decide +kernel
theorem dX1_untangled_91 : decode cX1_untangled 91 = .ok (.iconst 0, 1) := by decide +kernel
theorem dX1_untangled_92 : decode cX1_untangled 92 = .ok (.istore 9, 2) := by decide +kernel
theorem dX1_untangled_94 : decode cX1_untangled 94 = .ok (.iload 9, 2) := by decide +kernel
theorem dX1_untangled_96 : decode cX1_untangled 96 = .ok (.ifCond .eq 64, 3) := by decide +kernel
theorem dX1_untangled_99 : decode cX1_untangled 99 = .ok (.iload 7, 2) := by decide +kernel
theorem dX1_untangled_101 : decode cX1_untangled 101 = .ok (.iload 8, 2) := by decide +kernel
theorem dX1_untangled_103 : decode cX1_untangled 103 = .ok (.invokestatic 79, 3) := by decide +kernel
theorem dX1_untangled_106 : decode cX1_untangled 106 = .ok (.ifCond .eq 54, 3) := by decide +kernel
theorem dX1_untangled_109 : decode cX1_untangled 109 = .ok (.aload_n 0, 1) := by decide +kernel
theorem dX1_untangled_110 : decode cX1_untangled 110 = .ok (.getfield 9, 3) := by decide +kernel
theorem dX1_untangled_113 : decode cX1_untangled 113 = .ok (.iload 6, 2) := by decide +kernel
theorem dX1_untangled_115 : decode cX1_untangled 115 = .ok (.iaload, 1) := by decide +kernel
theorem dX1_untangled_116 : decode cX1_untangled 116 = .ok (.aload_n 0, 1) := by decide +kernel
theorem dX1_untangled_117 : decode cX1_untangled 117 = .ok (.getfield 9, 3) := by decide +kernel
theorem dX1_untangled_120 : decode cX1_untangled 120 = .ok (.iload 8, 2) := by decide +kernel
theorem dX1_untangled_122 : decode cX1_untangled 122 = .ok (.iaload, 1) := by decide +kernel
theorem dX1_untangled_123 : decode cX1_untangled 123 = .ok (.if_icmp .ne 37, 3) := by decide +kernel
theorem dX1_untangled_126 : decode cX1_untangled 126 = .ok (.aload_n 2, 1) := by decide +kernel
theorem dX1_untangled_127 : decode cX1_untangled 127 = .ok (.iload 6, 2) := by decide +kernel
theorem dX1_untangled_129 : decode cX1_untangled 129 = .ok (.iload 8, 2) := by decide +kernel
theorem dX1_untangled_131 : decode cX1_untangled 131 = .ok (.iload 4, 2) := by decide +kernel
theorem dX1_untangled_133 : decode cX1_untangled 133 = .ok (.invokevirtual 112, 3) := by decide +kernel
theorem dX1_untangled_136 : decode cX1_untangled 136 = .ok (.istore 10, 2) := by decide +kernel
theorem dX1_untangled_138 : decode cX1_untangled 138 = .ok (.iload 5, 2) := by decide +kernel
theorem dX1_untangled_140 : decode cX1_untangled 140 = .ok (.iconst 1, 1) := by decide +kernel
theorem dX1_untangled_141 : decode cX1_untangled 141 = .ok (.iload 10, 2) := by decide +kernel
theorem dX1_untangled_143 : decode cX1_untangled 143 = .ok (.ishl, 1) := by decide +kernel
theorem dX1_untangled_144 : decode cX1_untangled 144 = .ok (.iconst (-1), 1) := by decide +kernel
theorem dX1_untangled_145 : decode cX1_untangled 145 = .ok (.ixor, 1) := by decide +kernel
theorem dX1_untangled_146 : decode cX1_untangled 146 = .ok (.iand, 1) := by decide +kernel
theorem dX1_untangled_147 : decode cX1_untangled 147 = .ok (.istore 5, 2) := by decide +kernel
theorem dX1_untangled_149 : decode cX1_untangled 149 = .ok (.aload_n 0, 1) := by decide +kernel
theorem dX1_untangled_150 : decode cX1_untangled 150 = .ok (.getfield 21, 3) := by decide +kernel
theorem dX1_untangled_153 : decode cX1_untangled 153 = .ok (.iload 10, 2) := by decide +kernel
theorem dX1_untangled_155 : decode cX1_untangled 155 = .ok (.dup2, 1) := by decide +kernel
theorem dX1_untangled_156 : decode cX1_untangled 156 = .ok (.iaload, 1) := by decide +kernel
theorem dX1_untangled_157 : decode cX1_untangled 157 = .ok (.iconst 1, 1) := by decide +kernel
theorem dX1_untangled_158 : decode cX1_untangled 158 = .ok (.iadd, 1) := by decide +kernel
theorem dX1_untangled_159 : decode cX1_untangled 159 = .ok (.iastore, 1) := by decide +kernel
theorem dX1_untangled_160 : decode cX1_untangled 160 = .ok (.iinc 8 1, 3) := by decide +kernel
theorem dX1_untangled_163 : decode cX1_untangled 163 = .ok (.goto (-111), 3) := by decide +kernel
theorem dX1_untangled_166 : decode cX1_untangled 166 = .ok (.iinc 6 1, 3) := by decide +kernel
theorem dX1_untangled_169 : decode cX1_untangled 169 = .ok (.goto (-163), 3) := by decide +kernel
theorem dX1_untangled_172 : decode cX1_untangled 172 = .ok (.iload 5, 2) := by decide +kernel
theorem dX1_untangled_174 : decode cX1_untangled 174 = .ok (.ireturn, 1) := by decide +kernel
theorem dX1_fish_0 : decode cX1_fish 0 = .ok (.aload_n 3, 1) := by decide +kernel
theorem dX1_fish_1 : decode cX1_fish 1 = .ok (.iload_n 1, 1) := by decide +kernel
theorem dX1_fish_2 : decode cX1_fish 2 = .ok (.aload_n 0, 1) := by decide +kernel
theorem dX1_fish_3 : decode cX1_fish 3 = .ok (.getfield 9, 3) := by decide +kernel
theorem dX1_fish_6 : decode cX1_fish 6 = .ok (.iload_n 1, 1) := by decide +kernel
theorem dX1_fish_7 : decode cX1_fish 7 = .ok (.iaload, 1) := by decide +kernel
theorem dX1_fish_8 : decode cX1_fish 8 = .ok (.aload_n 0, 1) := by decide +kernel
theorem dX1_fish_9 : decode cX1_fish 9 = .ok (.getfield 65, 3) := by decide +kernel
theorem dX1_fish_12 : decode cX1_fish 12 = .ok (.invokevirtual 115, 3) := by decide +kernel
theorem dX1_fish_15 : decode cX1_fish 15 = .ok (.istore 4, 2) := by decide +kernel
theorem dX1_fish_17 : decode cX1_fish 17 = .ok (.iload 4, 2) := by decide +kernel
theorem dX1_fish_19 : decode cX1_fish 19 = .ok (.ifCond .ne 4, 3) := by decide +kernel
theorem dX1_fish_22 : decode cX1_fish 22 = .ok (.return_, 1) := by decide +kernel
theorem dX1_fish_23 : decode cX1_fish 23 = .ok (.iconst 3, 1) := by decide +kernel
theorem dX1_fish_24 : decode cX1_fish 24 = .ok (.aload_n 2, 1) := by decide +kernel
theorem dX1_fish_25 : decode cX1_fish 25 = .ok (.getfield 96, 3) := by decide +kernel
theorem dX1_fish_28 : decode cX1_fish 28 = .ok (.iload_n 1, 1) := by decide +kernel
theorem dX1_fish_29 : decode cX1_fish 29 = .ok (.aaload, 1) := by decide +kernel
theorem dX1_fish_30 : decode cX1_fish 30 = .ok (.getfield 118, 3) := by decide +kernel
theorem dX1_fish_33 : decode cX1_fish 33 = .ok (.imul, 1) := by decide +kernel
theorem dX1_fish_34 : decode cX1_fish 34 = .ok (.istore 5, 2) := by decide +kernel
theorem dX1_fish_36 : decode cX1_fish 36 = .ok (.iconst 0, 1) := by decide +kernel
theorem dX1_fish_37 : decode cX1_fish 37 = .ok (.istore 6, 2) := by decide +kernel
theorem dX1_fish_39 : decode cX1_fish 39 = .ok (.iconst 0, 1) := by decide +kernel
theorem dX1_fish_40 : decode cX1_fish 40 = .ok (.istore 7, 2) := by decide +kernel
theorem dX1_fish_42 : decode cX1_fish 42 = .ok (.iload 7, 2) := by decide +kernel
theorem dX1_fish_44 : decode cX1_fish 44 = .ok (.iconst 4, 1) := by decide +kernel
theorem dX1_fish_45 : decode cX1_fish 45 = .ok (.if_icmp .ge 73, 3) := by decide +kernel
theorem dX1_fish_48 : decode cX1_fish 48 = .ok (.iload 4, 2) := by decide +kernel
theorem dX1_fish_50 : decode cX1_fish 50 = .ok (.iload 7, 2) := by decide +kernel
theorem dX1_fish_52 : decode cX1_fish 52 = .ok (.invokestatic 79, 3) := by decide +kernel
theorem dX1_fish_55 : decode cX1_fish 55 = .ok (.ifCond .eq 21, 3) := by decide +kernel
theorem dX1_fish_58 : decode cX1_fish 58 = .ok (.aload_n 0, 1) := by decide +kernel
theorem dX1_fish_59 : decode cX1_fish 59 = .ok (.getfield 24, 3) := by decide +kernel
theorem dX1_fish_62 : decode cX1_fish 62 = .ok (.iload 7, 2) := by decide +kernel
theorem dX1_fish_64 : decode cX1_fish 64 = .ok (.iaload, 1) := by decide +kernel
theorem dX1_fish_65 : decode cX1_fish 65 = .ok (.iload 5, 2) := by decide +kernel
theorem dX1_fish_67 : decode cX1_fish 67 = .ok (.iload 6, 2) := by decide +kernel
theorem dX1_fish_69 : decode cX1_fish 69 = .ok (.isub, 1) := by decide +kernel
theorem dX1_fish_70 : decode cX1_fish 70 = .ok (.invokestatic 121, 3) := by decide +kernel
theorem dX1_fish_73 : decode cX1_fish 73 = .ok (.goto 4, 3) := by decide +kernel
theorem dX1_fish_76 : decode cX1_fish 76 = .ok (.iconst 0, 1) := by decide +kernel
theorem dX1_fish_77 : decode cX1_fish 77 = .ok (.istore 8, 2) := by decide +kernel
theorem dX1_fish_79 : decode cX1_fish 79 = .ok (.iload 8, 2) := by decide +kernel
theorem dX1_fish_81 : decode cX1_fish 81 = .ok (.ifCond .le 31, 3) := by decide +kernel
theorem dX1_fish_84 : decode cX1_fish 84 = .ok (.aload_n 0, 1) := by decide +kernel
theorem dX1_fish_85 : decode cX1_fish 85 = .ok (.getfield 24, 3) := by decide +kernel
theorem dX1_fish_88 : decode cX1_fish 88 = .ok (.iload 7, 2) := by decide +kernel
theorem dX1_fish_90 : decode cX1_fish 90 = .ok (.dup2, 1) := by decide +kernel
theorem dX1_fish_91 : decode cX1_fish 91 = .ok (.iaload, 1) := by decide +kernel
theorem dX1_fish_92 : decode cX1_fish 92 = .ok (.iload 8, 2) := by decide +kernel
theorem dX1_fish_94 : decode cX1_fish 94 = .ok (.isub, 1) := by decide +kernel
theorem dX1_fish_95 : decode cX1_fish 95 = .ok (.iastore, 1) := by decide +kernel
theorem dX1_fish_96 : decode cX1_fish 96 = .ok (.iload 6, 2) := by decide +kernel
theorem dX1_fish_98 : decode cX1_fish 98 = .ok (.iload 8, 2) := by decide +kernel
theorem dX1_fish_100 : decode cX1_fish 100 = .ok (.iadd, 1) := by decide +kernel
theorem dX1_fish_101 : decode cX1_fish 101 = .ok (.istore 6, 2) := by decide +kernel
theorem dX1_fish_103 : decode cX1_fish 103 = .ok (.aload_n 0, 1) := by decide +kernel
theorem dX1_fish_104 : decode cX1_fish 104 = .ok (.iload_n 1, 1) := by decide +kernel
theorem dX1_fish_105 : decode cX1_fish 105 = .ok (.iload 7, 2) := by decide +kernel
theorem dX1_fish_107 : decode cX1_fish 107 = .ok (.iload 8, 2) := by decide +kernel
theorem dX1_fish_109 : decode cX1_fish 109 = .ok (.invokevirtual 127, 3) := by decide +kernel
theorem dX1_fish_112 : decode cX1_fish 112 = .ok (.iinc 7 1, 3) := by decide +kernel
theorem dX1_fish_115 : decode cX1_fish 115 = .ok (.goto (-73), 3) := by decide +kernel
theorem dX1_fish_118 : decode cX1_fish 118 = .ok (.aload_n 2, 1) := by decide +kernel
theorem dX1_fish_119 : decode cX1_fish 119 = .ok (.iload 6, 2) := by decide +kernel
theorem dX1_fish_121 : decode cX1_fish 121 = .ok (.invokevirtual 131, 3) := by decide +kernel
theorem dX1_fish_124 : decode cX1_fish 124 = .ok (.istore 7, 2) := by decide +kernel
theorem dX1_fish_126 : decode cX1_fish 126 = .ok (.aload_n 0, 1) := by decide +kernel
theorem dX1_fish_127 : decode cX1_fish 127 = .ok (.getfield 15, 3) := by decide +kernel
theorem dX1_fish_130 : decode cX1_fish 130 = .ok (.iload_n 1, 1) := by decide +kernel
theorem dX1_fish_131 : decode cX1_fish 131 = .ok (.dup2, 1) := by decide +kernel
theorem dX1_fish_132 : decode cX1_fish 132 = .ok (.iaload, 1) := by decide +kernel
theorem dX1_fish_133 : decode cX1_fish 133 = .ok (.iload 7, 2) := by decide +kernel
theorem dX1_fish_135 : decode cX1_fish 135 = .ok (.iadd, 1) := by decide +kernel
theorem dX1_fish_136 : decode cX1_fish 136 = .ok (.iastore, 1) := by decide +kernel
theorem dX1_fish_137 : decode cX1_fish 137 = .ok (.aload_n 0, 1) := by decide +kernel
theorem dX1_fish_138 : decode cX1_fish 138 = .ok (.dup, 1) := by decide +kernel
theorem dX1_fish_139 : decode cX1_fish 139 = .ok (.getfield 50, 3) := by decide +kernel
theorem dX1_fish_142 : decode cX1_fish 142 = .ok (.iload 7, 2) := by decide +kernel
theorem dX1_fish_144 : decode cX1_fish 144 = .ok (.iadd, 1) := by decide +kernel
theorem dX1_fish_145 : decode cX1_fish 145 = .ok (.putfield 50, 3) := by decide +kernel
theorem dX1_fish_148 : decode cX1_fish 148 = .ok (.aload_n 0, 1) := by decide +kernel
theorem dX1_fish_149 : decode cX1_fish 149 = .ok (.dup, 1) := by decide +kernel
theorem dX1_fish_150 : decode cX1_fish 150 = .ok (.getfield 53, 3) := by decide +kernel
theorem dX1_fish_153 : decode cX1_fish 153 = .ok (.iload 6, 2) := by decide +kernel
theorem dX1_fish_155 : decode cX1_fish 155 = .ok (.iload 7, 2) := by decide +kernel
theorem dX1_fish_157 : decode cX1_fish 157 = .ok (.isub, 1) := by decide +kernel
theorem dX1_fish_158 : decode cX1_fish 158 = .ok (.iadd, 1) := by decide +kernel
theorem dX1_fish_159 : decode cX1_fish 159 = .ok (.putfield 53, 3) := by decide +kernel
theorem dX1_fish_162 : decode cX1_fish 162 = .ok (.return_, 1) := by decide +kernel
theorem dX1_fishIn_0 : decode cX1_fishIn 0 = .ok (.iconst 0, 1) := by decide +kernel
theorem dX1_fishIn_1 : decode cX1_fishIn 1 = .ok (.istore_n 2, 1) := by decide +kernel
theorem dX1_fishIn_2 : decode cX1_fishIn 2 = .ok (.iconst 0, 1) := by decide +kernel
theorem dX1_fishIn_3 : decode cX1_fishIn 3 = .ok (.istore_n 3, 1) := by decide +kernel
theorem dX1_fishIn_4 : decode cX1_fishIn 4 = .ok (.iload_n 3, 1) := by decide +kernel
theorem dX1_fishIn_5 : decode cX1_fishIn 5 = .ok (.iconst 4, 1) := by decide +kernel
theorem dX1_fishIn_6 : decode cX1_fishIn 6 = .ok (.if_icmp .ge 30, 3) := by decide +kernel
theorem dX1_fishIn_9 : decode cX1_fishIn 9 = .ok (.iload_n 2, 1) := by decide +kernel
theorem dX1_fishIn_10 : decode cX1_fishIn 10 = .ok (.iload_n 1, 1) := by decide +kernel
theorem dX1_fishIn_11 : decode cX1_fishIn 11 = .ok (.iload_n 3, 1) := by decide +kernel
theorem dX1_fishIn_12 : decode cX1_fishIn 12 = .ok (.invokestatic 79, 3) := by decide +kernel
theorem dX1_fishIn_15 : decode cX1_fishIn 15 = .ok (.ifCond .eq 12, 3) := by decide +kernel
theorem dX1_fishIn_18 : decode cX1_fishIn 18 = .ok (.aload_n 0, 1) := by decide +kernel
theorem dX1_fishIn_19 : decode cX1_fishIn 19 = .ok (.getfield 24, 3) := by decide +kernel
theorem dX1_fishIn_22 : decode cX1_fishIn 22 = .ok (.iload_n 3, 1) := by decide +kernel
theorem dX1_fishIn_23 : decode cX1_fishIn 23 = .ok (.iaload, 1) := by decide +kernel
theorem dX1_fishIn_24 : decode cX1_fishIn 24 = .ok (.goto 4, 3) := by decide +kernel
theorem dX1_fishIn_27 : decode cX1_fishIn 27 = .ok (.iconst 0, 1) := by decide +kernel
theorem dX1_fishIn_28 : decode cX1_fishIn 28 = .ok (.iadd, 1) := by decide +kernel
theorem dX1_fishIn_29 : decode cX1_fishIn 29 = .ok (.istore_n 2, 1) := by decide +kernel
theorem dX1_fishIn_30 : decode cX1_fishIn 30 = .ok (.iinc 3 1, 3) := by decide +kernel
theorem dX1_fishIn_33 : decode cX1_fishIn 33 = .ok (.goto (-29), 3) := by decide +kernel
theorem dX1_fishIn_36 : decode cX1_fishIn 36 = .ok (.iload_n 2, 1) := by decide +kernel
theorem dX1_fishIn_37 : decode cX1_fishIn 37 = .ok (.ireturn, 1) := by decide +kernel
theorem dX1_note_0 : decode cX1_note 0 = .ok (.aload_n 0, 1) := by decide +kernel
theorem dX1_note_1 : decode cX1_note 1 = .ok (.getfield 56, 3) := by decide +kernel
theorem dX1_note_4 : decode cX1_note 4 = .ok (.sipush 288, 3) := by decide +kernel
theorem dX1_note_7 : decode cX1_note 7 = .ok (.if_icmp .ge 38, 3) := by decide +kernel
theorem dX1_note_10 : decode cX1_note 10 = .ok (.aload_n 0, 1) := by decide +kernel
theorem dX1_note_11 : decode cX1_note 11 = .ok (.getfield 27, 3) := by decide +kernel
theorem dX1_note_14 : decode cX1_note 14 = .ok (.aload_n 0, 1) := by decide +kernel
theorem dX1_note_15 : decode cX1_note 15 = .ok (.getfield 56, 3) := by decide +kernel
theorem dX1_note_18 : decode cX1_note 18 = .ok (.iload_n 3, 1) := by decide +kernel
theorem dX1_note_19 : decode cX1_note 19 = .ok (.iconst 4, 1) := by decide +kernel
theorem dX1_note_20 : decode cX1_note 20 = .ok (.ishl, 1) := by decide +kernel
theorem dX1_note_21 : decode cX1_note 21 = .ok (.aload_n 0, 1) := by decide +kernel
theorem dX1_note_22 : decode cX1_note 22 = .ok (.getfield 65, 3) := by decide +kernel
theorem dX1_note_25 : decode cX1_note 25 = .ok (.ior, 1) := by decide +kernel
theorem dX1_note_26 : decode cX1_note 26 = .ok (.iconst 4, 1) := by decide +kernel
theorem dX1_note_27 : decode cX1_note 27 = .ok (.ishl, 1) := by decide +kernel
theorem dX1_note_28 : decode cX1_note 28 = .ok (.iload_n 2, 1) := by decide +kernel
theorem dX1_note_29 : decode cX1_note 29 = .ok (.ior, 1) := by decide +kernel
theorem dX1_note_30 : decode cX1_note 30 = .ok (.iconst 4, 1) := by decide +kernel
theorem dX1_note_31 : decode cX1_note 31 = .ok (.ishl, 1) := by decide +kernel
theorem dX1_note_32 : decode cX1_note 32 = .ok (.iload_n 1, 1) := by decide +kernel
theorem dX1_note_33 : decode cX1_note 33 = .ok (.ior, 1) := by decide +kernel
theorem dX1_note_34 : decode cX1_note 34 = .ok (.iastore, 1) := by decide +kernel
theorem dX1_note_35 : decode cX1_note 35 = .ok (.aload_n 0, 1) := by decide +kernel
theorem dX1_note_36 : decode cX1_note 36 = .ok (.dup, 1) := by decide +kernel
theorem dX1_note_37 : decode cX1_note 37 = .ok (.getfield 56, 3) := by decide +kernel
theorem dX1_note_40 : decode cX1_note 40 = .ok (.iconst 1, 1) := by decide +kernel
theorem dX1_note_41 : decode cX1_note 41 = .ok (.iadd, 1) := by decide +kernel
theorem dX1_note_42 : decode cX1_note 42 = .ok (.putfield 56, 3) := by decide +kernel
theorem dX1_note_45 : decode cX1_note 45 = .ok (.return_, 1) := by decide +kernel
theorem dX2_init_0 : decode cX2_init 0 = .ok (.aload_n 0, 1) := by decide +kernel
theorem dX2_init_1 : decode cX2_init 1 = .ok (.invokespecial 1, 3) := by decide +kernel
theorem dX2_init_4 : decode cX2_init 4 = .ok (.return_, 1) := by decide +kernel
theorem dX3_init_0 : decode cX3_init 0 = .ok (.aload_n 0, 1) := by decide +kernel
theorem dX3_init_1 : decode cX3_init 1 = .ok (.invokespecial 3, 3) := by decide +kernel
theorem dX3_init_4 : decode cX3_init 4 = .ok (.aload_n 0, 1) := by decide +kernel
theorem dX3_init_5 : decode cX3_init 5 = .ok (.bipush 100, 2) := by decide +kernel
theorem dX3_init_7 : decode cX3_init 7 = .ok (.newarray .long, 2) := by decide +kernel
theorem dX3_init_9 : decode cX3_init 9 = .ok (.putfield 9, 3) := by decide +kernel
theorem dX3_init_12 : decode cX3_init 12 = .ok (.aload_n 0, 1) := by decide +kernel
theorem dX3_init_13 : decode cX3_init 13 = .ok (.bipush 100, 2) := by decide +kernel
theorem dX3_init_15 : decode cX3_init 15 = .ok (.newarray .long, 2) := by decide +kernel
theorem dX3_init_17 : decode cX3_init 17 = .ok (.putfield 15, 3) := by decide +kernel
theorem dX3_init_20 : decode cX3_init 20 = .ok (.return_, 1) := by decide +kernel
theorem dX3_begin_0 : decode cX3_begin 0 = .ok (.aload_n 0, 1) := by decide +kernel
theorem dX3_begin_1 : decode cX3_begin 1 = .ok (.getfield 9, 3) := by decide +kernel
theorem dX3_begin_4 : decode cX3_begin 4 = .ok (.lconst 0, 1) := by decide +kernel
theorem dX3_begin_5 : decode cX3_begin 5 = .ok (.invokestatic 18, 3) := by decide +kernel
theorem dX3_begin_8 : decode cX3_begin 8 = .ok (.iload_n 1, 1) := by decide +kernel
theorem dX3_begin_9 : decode cX3_begin 9 = .ok (.ifCond .lt 16, 3) := by decide +kernel
theorem dX3_begin_12 : decode cX3_begin 12 = .ok (.iload_n 1, 1) := by decide +kernel
theorem dX3_begin_13 : decode cX3_begin 13 = .ok (.bipush 100, 2) := by decide +kernel
theorem dX3_begin_15 : decode cX3_begin 15 = .ok (.if_icmp .ge 10, 3) := by decide +kernel
theorem dX3_begin_18 : decode cX3_begin 18 = .ok (.aload_n 0, 1) := by decide +kernel
theorem dX3_begin_19 : decode cX3_begin 19 = .ok (.getfield 9, 3) := by decide +kernel
theorem dX3_begin_22 : decode cX3_begin 22 = .ok (.iload_n 1, 1) := by decide +kernel
theorem dX3_begin_23 : decode cX3_begin 23 = .ok (.lconst 1, 1) := by decide +kernel
theorem dX3_begin_24 : decode cX3_begin 24 = .ok (.lastore, 1) := by decide +kernel
theorem dX3_begin_25 : decode cX3_begin 25 = .ok (.return_, 1) := by decide +kernel
theorem dX3_enough_0 : decode cX3_enough 0 = .ok (.aload_n 0, 1) := by decide +kernel
theorem dX3_enough_1 : decode cX3_enough 1 = .ok (.iconst 0, 1) := by decide +kernel
theorem dX3_enough_2 : decode cX3_enough 2 = .ok (.invokevirtual 24, 3) := by decide +kernel
theorem dX3_enough_5 : decode cX3_enough 5 = .ok (.iconst 1, 1) := by decide +kernel
theorem dX3_enough_6 : decode cX3_enough 6 = .ok (.istore 6, 2) := by decide +kernel
theorem dX3_enough_8 : decode cX3_enough 8 = .ok (.iload 6, 2) := by decide +kernel
theorem dX3_enough_10 : decode cX3_enough 10 = .ok (.iload 5, 2) := by decide +kernel
theorem dX3_enough_12 : decode cX3_enough 12 = .ok (.if_icmp .gt 97, 3) := by decide +kernel
theorem dX3_enough_15 : decode cX3_enough 15 = .ok (.iload 6, 2) := by decide +kernel
theorem dX3_enough_17 : decode cX3_enough 17 = .ok (.bipush 100, 2) := by decide +kernel
theorem dX3_enough_19 : decode cX3_enough 19 = .ok (.if_icmp .ge 90, 3) := by decide +kernel
theorem dX3_enough_22 : decode cX3_enough 22 = .ok (.iload 6, 2) := by decide +kernel
theorem dX3_enough_24 : decode cX3_enough 24 = .ok (.istore 7, 2) := by decide +kernel
theorem dX3_enough_26 : decode cX3_enough 26 = .ok (.iload 7, 2) := by decide +kernel
theorem dX3_enough_28 : decode cX3_enough 28 = .ok (.ifCond .lt 75, 3) := by decide +kernel
theorem dX3_enough_31 : decode cX3_enough 31 = .ok (.aload_n 0, 1) := by decide +kernel
theorem dX3_enough_32 : decode cX3_enough 32 = .ok (.getfield 9, 3) := by decide +kernel
theorem dX3_enough_35 : decode cX3_enough 35 = .ok (.iload 7, 2) := by decide +kernel
theorem dX3_enough_37 : decode cX3_enough 37 = .ok (.laload, 1) := by decide +kernel
theorem dX3_enough_38 : decode cX3_enough 38 = .ok (.iload 4, 2) := by decide +kernel
theorem dX3_enough_40 : decode cX3_enough 40 = .ok (.i2l, 1) := by decide +kernel
theorem dX3_enough_41 : decode cX3_enough 41 = .ok (.lmul, 1) := by decide +kernel
theorem dX3_enough_42 : decode cX3_enough 42 = .ok (.lstore 8, 2) := by decide +kernel
theorem dX3_enough_44 : decode cX3_enough 44 = .ok (.iload 7, 2) := by decide +kernel
theorem dX3_enough_46 : decode cX3_enough 46 = .ok (.ifCond .le 24, 3) := by decide +kernel
theorem dX3_enough_49 : decode cX3_enough 49 = .ok (.lload 8, 2) := by decide +kernel
theorem dX3_enough_51 : decode cX3_enough 51 = .ok (.aload_n 0, 1) := by decide +kernel
theorem dX3_enough_52 : decode cX3_enough 52 = .ok (.getfield 9, 3) := by decide +kernel
theorem dX3_enough_55 : decode cX3_enough 55 = .ok (.iload 7, 2) := by decide +kernel
theorem dX3_enough_57 : decode cX3_enough 57 = .ok (.iconst 1, 1) := by decide +kernel
theorem dX3_enough_58 : decode cX3_enough 58 = .ok (.isub, 1) := by decide +kernel
theorem dX3_enough_59 : decode cX3_enough 59 = .ok (.laload, 1) := by decide +kernel
theorem dX3_enough_60 : decode cX3_enough 60 = .ok (.bipush 10, 2) := by decide +kernel
theorem dX3_enough_62 : decode cX3_enough 62 = .ok (.iload 4, 2) := by decide +kernel
theorem dX3_enough_64 : decode cX3_enough 64 = .ok (.isub, 1) := by decide +kernel
theorem dX3_enough_65 : decode cX3_enough 65 = .ok (.i2l, 1) := by decide +kernel
theorem dX3_enough_66 : decode cX3_enough 66 = .ok (.lmul, 1) := by decide +kernel
theorem dX3_enough_67 : decode cX3_enough 67 = .ok (.ladd, 1) := by decide +kernel
theorem dX3_enough_68 : decode cX3_enough 68 = .ok (.lstore 8, 2) := by decide +kernel
theorem dX3_enough_70 : decode cX3_enough 70 = .ok (.aload_n 0, 1) := by decide +kernel
theorem dX3_enough_71 : decode cX3_enough 71 = .ok (.getfield 9, 3) := by decide +kernel
theorem dX3_enough_74 : decode cX3_enough 74 = .ok (.iload 7, 2) := by decide +kernel
theorem dX3_enough_76 : decode cX3_enough 76 = .ok (.iload_n 1, 1) := by decide +kernel
theorem dX3_enough_77 : decode cX3_enough 77 = .ok (.iload_n 3, 1) := by decide +kernel
theorem dX3_enough_78 : decode cX3_enough 78 = .ok (.iload 7, 2) := by decide +kernel
theorem dX3_enough_80 : decode cX3_enough 80 = .ok (.imul, 1) := by decide +kernel
theorem dX3_enough_81 : decode cX3_enough 81 = .ok (.iadd, 1) := by decide +kernel
theorem dX3_enough_82 : decode cX3_enough 82 = .ok (.iload_n 2, 1) := by decide +kernel
theorem dX3_enough_83 : decode cX3_enough 83 = .ok (.iload 6, 2) := by decide +kernel
theorem dX3_enough_85 : decode cX3_enough 85 = .ok (.imul, 1) := by decide +kernel
theorem dX3_enough_86 : decode cX3_enough 86 = .ok (.isub, 1) := by decide +kernel
theorem dX3_enough_87 : decode cX3_enough 87 = .ok (.ifCond .lt 8, 3) := by decide +kernel
theorem dX3_enough_90 : decode cX3_enough 90 = .ok (.lload 8, 2) := by decide +kernel
theorem dX3_enough_92 : decode cX3_enough 92 = .ok (.goto 4, 3) := by decide +kernel
theorem dX3_enough_95 : decode cX3_enough 95 = .ok (.lconst 0, 1) := by decide +kernel
theorem dX3_enough_96 : decode cX3_enough 96 = .ok (.lastore, 1) := by decide +kernel
theorem dX3_enough_97 : decode cX3_enough 97 = .ok (.iinc 7 (-1), 3) := by decide +kernel
theorem dX3_enough_100 : decode cX3_enough 100 = .ok (.goto (-74), 3) := by decide +kernel
theorem dX3_enough_103 : decode cX3_enough 103 = .ok (.iinc 6 1, 3) := by decide +kernel
theorem dX3_enough_106 : decode cX3_enough 106 = .ok (.goto (-98), 3) := by decide +kernel
theorem dX3_enough_109 : decode cX3_enough 109 = .ok (.aload_n 0, 1) := by decide +kernel
theorem dX3_enough_110 : decode cX3_enough 110 = .ok (.iconst 0, 1) := by decide +kernel
theorem dX3_enough_111 : decode cX3_enough 111 = .ok (.invokevirtual 28, 3) := by decide +kernel
theorem dX3_enough_114 : decode cX3_enough 114 = .ok (.lreturn, 1) := by decide +kernel
theorem dX3_drift_0 : decode cX3_drift 0 = .ok (.iconst 0, 1) := by decide +kernel
theorem dX3_drift_1 : decode cX3_drift 1 = .ok (.istore_n 3, 1) := by decide +kernel
theorem dX3_drift_2 : decode cX3_drift 2 = .ok (.iload_n 3, 1) := by decide +kernel
theorem dX3_drift_3 : decode cX3_drift 3 = .ok (.bipush 100, 2) := by decide +kernel
theorem dX3_drift_5 : decode cX3_drift 5 = .ok (.if_icmp .ge 63, 3) := by decide +kernel
theorem dX3_drift_8 : decode cX3_drift 8 = .ok (.iload_n 3, 1) := by decide +kernel
theorem dX3_drift_9 : decode cX3_drift 9 = .ok (.iload_n 1, 1) := by decide +kernel
theorem dX3_drift_10 : decode cX3_drift 10 = .ok (.isub, 1) := by decide +kernel
theorem dX3_drift_11 : decode cX3_drift 11 = .ok (.istore 4, 2) := by decide +kernel
theorem dX3_drift_13 : decode cX3_drift 13 = .ok (.iload 4, 2) := by decide +kernel
theorem dX3_drift_15 : decode cX3_drift 15 = .ok (.ifCond .lt 20, 3) := by decide +kernel
theorem dX3_drift_18 : decode cX3_drift 18 = .ok (.iload 4, 2) := by decide +kernel
theorem dX3_drift_20 : decode cX3_drift 20 = .ok (.bipush 100, 2) := by decide +kernel
theorem dX3_drift_22 : decode cX3_drift 22 = .ok (.if_icmp .ge 13, 3) := by decide +kernel
theorem dX3_drift_25 : decode cX3_drift 25 = .ok (.aload_n 0, 1) := by decide +kernel
theorem dX3_drift_26 : decode cX3_drift 26 = .ok (.getfield 9, 3) := by decide +kernel
theorem dX3_drift_29 : decode cX3_drift 29 = .ok (.iload 4, 2) := by decide +kernel
theorem dX3_drift_31 : decode cX3_drift 31 = .ok (.laload, 1) := by decide +kernel
theorem dX3_drift_32 : decode cX3_drift 32 = .ok (.goto 4, 3) := by decide +kernel
theorem dX3_drift_35 : decode cX3_drift 35 = .ok (.lconst 0, 1) := by decide +kernel
theorem dX3_drift_36 : decode cX3_drift 36 = .ok (.lstore 5, 2) := by decide +kernel
theorem dX3_drift_38 : decode cX3_drift 38 = .ok (.aload_n 0, 1) := by decide +kernel
theorem dX3_drift_39 : decode cX3_drift 39 = .ok (.getfield 15, 3) := by decide +kernel
theorem dX3_drift_42 : decode cX3_drift 42 = .ok (.iload_n 3, 1) := by decide +kernel
theorem dX3_drift_43 : decode cX3_drift 43 = .ok (.aload_n 0, 1) := by decide +kernel
theorem dX3_drift_44 : decode cX3_drift 44 = .ok (.getfield 9, 3) := by decide +kernel
theorem dX3_drift_47 : decode cX3_drift 47 = .ok (.iload_n 3, 1) := by decide +kernel
theorem dX3_drift_48 : decode cX3_drift 48 = .ok (.laload, 1) := by decide +kernel
theorem dX3_drift_49 : decode cX3_drift 49 = .ok (.bipush 10, 2) := by decide +kernel
theorem dX3_drift_51 : decode cX3_drift 51 = .ok (.iload_n 2, 1) := by decide +kernel
theorem dX3_drift_52 : decode cX3_drift 52 = .ok (.isub, 1) := by decide +kernel
theorem dX3_drift_53 : decode cX3_drift 53 = .ok (.i2l, 1) := by decide +kernel
theorem dX3_drift_54 : decode cX3_drift 54 = .ok (.lmul, 1) := by decide +kernel
theorem dX3_drift_55 : decode cX3_drift 55 = .ok (.lload 5, 2) := by decide +kernel
theorem dX3_drift_57 : decode cX3_drift 57 = .ok (.iload_n 2, 1) := by decide +kernel
theorem dX3_drift_58 : decode cX3_drift 58 = .ok (.i2l, 1) := by decide +kernel
theorem dX3_drift_59 : decode cX3_drift 59 = .ok (.lmul, 1) := by decide +kernel
theorem dX3_drift_60 : decode cX3_drift 60 = .ok (.ladd, 1) := by decide +kernel
theorem dX3_drift_61 : decode cX3_drift 61 = .ok (.lastore, 1) := by decide +kernel
theorem dX3_drift_62 : decode cX3_drift 62 = .ok (.iinc 3 1, 3) := by decide +kernel
theorem dX3_drift_65 : decode cX3_drift 65 = .ok (.goto (-63), 3) := by decide +kernel
theorem dX3_drift_68 : decode cX3_drift 68 = .ok (.aload_n 0, 1) := by decide +kernel
theorem dX3_drift_69 : decode cX3_drift 69 = .ok (.getfield 15, 3) := by decide +kernel
theorem dX3_drift_72 : decode cX3_drift 72 = .ok (.iconst 0, 1) := by decide +kernel
theorem dX3_drift_73 : decode cX3_drift 73 = .ok (.aload_n 0, 1) := by decide +kernel
theorem dX3_drift_74 : decode cX3_drift 74 = .ok (.getfield 9, 3) := by decide +kernel
theorem dX3_drift_77 : decode cX3_drift 77 = .ok (.iconst 0, 1) := by decide +kernel
theorem dX3_drift_78 : decode cX3_drift 78 = .ok (.bipush 100, 2) := by decide +kernel
theorem dX3_drift_80 : decode cX3_drift 80 = .ok (.invokestatic 32, 3) := by decide +kernel
theorem dX3_drift_83 : decode cX3_drift 83 = .ok (.return_, 1) := by decide +kernel
theorem dX3_sumFrom_0 : decode cX3_sumFrom 0 = .ok (.lconst 0, 1) := by decide +kernel
theorem dX3_sumFrom_1 : decode cX3_sumFrom 1 = .ok (.lstore_n 2, 1) := by decide +kernel
theorem dX3_sumFrom_2 : decode cX3_sumFrom 2 = .ok (.iload_n 1, 1) := by decide +kernel
theorem dX3_sumFrom_3 : decode cX3_sumFrom 3 = .ok (.iconst 0, 1) := by decide +kernel
theorem dX3_sumFrom_4 : decode cX3_sumFrom 4 = .ok (.invokestatic 38, 3) := by decide +kernel
theorem dX3_sumFrom_7 : decode cX3_sumFrom 7 = .ok (.istore 4, 2) := by decide +kernel
theorem dX3_sumFrom_9 : decode cX3_sumFrom 9 = .ok (.iload 4, 2) := by decide +kernel
theorem dX3_sumFrom_11 : decode cX3_sumFrom 11 = .ok (.bipush 100, 2) := by decide +kernel
theorem dX3_sumFrom_13 : decode cX3_sumFrom 13 = .ok (.if_icmp .ge 19, 3) := by decide +kernel
theorem dX3_sumFrom_16 : decode cX3_sumFrom 16 = .ok (.lload_n 2, 1) := by decide +kernel
theorem dX3_sumFrom_17 : decode cX3_sumFrom 17 = .ok (.aload_n 0, 1) := by decide +kernel
theorem dX3_sumFrom_18 : decode cX3_sumFrom 18 = .ok (.getfield 9, 3) := by decide +kernel
theorem dX3_sumFrom_21 : decode cX3_sumFrom 21 = .ok (.iload 4, 2) := by decide +kernel
theorem dX3_sumFrom_23 : decode cX3_sumFrom 23 = .ok (.laload, 1) := by decide +kernel
theorem dX3_sumFrom_24 : decode cX3_sumFrom 24 = .ok (.ladd, 1) := by decide +kernel
theorem dX3_sumFrom_25 : decode cX3_sumFrom 25 = .ok (.lstore_n 2, 1) := by decide +kernel
theorem dX3_sumFrom_26 : decode cX3_sumFrom 26 = .ok (.iinc 4 1, 3) := by decide +kernel
theorem dX3_sumFrom_29 : decode cX3_sumFrom 29 = .ok (.goto (-20), 3) := by decide +kernel
theorem dX3_sumFrom_32 : decode cX3_sumFrom 32 = .ok (.lload_n 2, 1) := by decide +kernel
theorem dX3_sumFrom_33 : decode cX3_sumFrom 33 = .ok (.lreturn, 1) := by decide +kernel
end
section
theorem dX4_init_0 : decode cX4_init 0 = .ok (.aload_n 0, 1) := by decide +kernel
theorem dX4_init_1 : decode cX4_init 1 = .ok (.invokespecial 3, 3) := by decide +kernel
theorem dX4_init_4 : decode cX4_init 4 = .ok (.aload_n 0, 1) := by decide +kernel
theorem dX4_init_5 : decode cX4_init 5 = .ok (.bipush 6, 2) := by decide +kernel
theorem dX4_init_7 : decode cX4_init 7 = .ok (.anewarray 9, 3) := by decide +kernel
theorem dX4_init_10 : decode cX4_init 10 = .ok (.putfield 11, 3) := by decide +kernel
theorem dX4_init_13 : decode cX4_init 13 = .ok (.aload_n 0, 1) := by decide +kernel
theorem dX4_init_14 : decode cX4_init 14 = .ok (.iconst 4, 1) := by decide +kernel
theorem dX4_init_15 : decode cX4_init 15 = .ok (.anewarray 17, 3) := by decide +kernel
theorem dX4_init_18 : decode cX4_init 18 = .ok (.putfield 19, 3) := by decide +kernel
theorem dX4_init_21 : decode cX4_init 21 = .ok (.aload_n 0, 1) := by decide +kernel
theorem dX4_init_22 : decode cX4_init 22 = .ok (.bipush 36, 2) := by decide +kernel
theorem dX4_init_24 : decode cX4_init 24 = .ok (.newarray .int, 2) := by decide +kernel
theorem dX4_init_26 : decode cX4_init 26 = .ok (.putfield 23, 3) := by decide +kernel
theorem dX4_init_29 : decode cX4_init 29 = .ok (.aload_n 0, 1) := by decide +kernel
theorem dX4_init_30 : decode cX4_init 30 = .ok (.bipush 36, 2) := by decide +kernel
theorem dX4_init_32 : decode cX4_init 32 = .ok (.newarray .int, 2) := by decide +kernel
theorem dX4_init_34 : decode cX4_init 34 = .ok (.putfield 27, 3) := by decide +kernel
theorem dX4_init_37 : decode cX4_init 37 = .ok (.aload_n 0, 1) := by decide +kernel
theorem dX4_init_38 : decode cX4_init 38 = .ok (.bipush 30, 2) := by decide +kernel
theorem dX4_init_40 : decode cX4_init 40 = .ok (.putfield 30, 3) := by decide +kernel
theorem dX4_init_43 : decode cX4_init 43 = .ok (.iconst 0, 1) := by decide +kernel
theorem dX4_init_44 : decode cX4_init 44 = .ok (.istore_n 1, 1) := by decide +kernel
theorem dX4_init_45 : decode cX4_init 45 = .ok (.iload_n 1, 1) := by decide +kernel
theorem dX4_init_46 : decode cX4_init 46 = .ok (.bipush 6, 2) := by decide +kernel
theorem dX4_init_48 : decode cX4_init 48 = .ok (.if_icmp .ge 22, 3) := by decide +kernel
theorem dX4_init_51 : decode cX4_init 51 = .ok (.aload_n 0, 1) := by decide +kernel
theorem dX4_init_52 : decode cX4_init 52 = .ok (.getfield 11, 3) := by decide +kernel
theorem dX4_init_55 : decode cX4_init 55 = .ok (.iload_n 1, 1) := by decide +kernel
theorem dX4_init_56 : decode cX4_init 56 = .ok (.new 9, 3) := by decide +kernel
theorem dX4_init_59 : decode cX4_init 59 = .ok (.dup, 1) := by decide +kernel
theorem dX4_init_60 : decode cX4_init 60 = .ok (.invokespecial 34, 3) := by decide +kernel
theorem dX4_init_63 : decode cX4_init 63 = .ok (.aastore, 1) := by decide +kernel
theorem dX4_init_64 : decode cX4_init 64 = .ok (.iinc 1 1, 3) := by decide +kernel
theorem dX4_init_67 : decode cX4_init 67 = .ok (.goto (-22), 3) := by decide +kernel
theorem dX4_init_70 : decode cX4_init 70 = .ok (.iconst 0, 1) := by decide +kernel
theorem dX4_init_71 : decode cX4_init 71 = .ok (.istore_n 1, 1) := by decide +kernel
theorem dX4_init_72 : decode cX4_init 72 = .ok (.iload_n 1, 1) := by decide +kernel
theorem dX4_init_73 : decode cX4_init 73 = .ok (.iconst 4, 1) := by decide +kernel
theorem dX4_init_74 : decode cX4_init 74 = .ok (.if_icmp .ge 22, 3) := by decide +kernel
theorem dX4_init_77 : decode cX4_init 77 = .ok (.aload_n 0, 1) := by decide +kernel
theorem dX4_init_78 : decode cX4_init 78 = .ok (.getfield 19, 3) := by decide +kernel
theorem dX4_init_81 : decode cX4_init 81 = .ok (.iload_n 1, 1) := by decide +kernel
theorem dX4_init_82 : decode cX4_init 82 = .ok (.new 17, 3) := by decide +kernel
theorem dX4_init_85 : decode cX4_init 85 = .ok (.dup, 1) := by decide +kernel
theorem dX4_init_86 : decode cX4_init 86 = .ok (.invokespecial 35, 3) := by decide +kernel
theorem dX4_init_89 : decode cX4_init 89 = .ok (.aastore, 1) := by decide +kernel
theorem dX4_init_90 : decode cX4_init 90 = .ok (.iinc 1 1, 3) := by decide +kernel
theorem dX4_init_93 : decode cX4_init 93 = .ok (.goto (-21), 3) := by decide +kernel
theorem dX4_init_96 : decode cX4_init 96 = .ok (.return_, 1) := by decide +kernel
theorem dX4_tell_0 : decode cX4_tell 0 = .ok (.iload_n 1, 1) := by decide +kernel
theorem dX4_tell_1 : decode cX4_tell 1 = .ok (.tableswitch 121 0 7 #[47, 55, 63, 71, 81, 91, 104, 114], 47) := by decide +kernel
theorem dX4_tell_48 : decode cX4_tell 48 = .ok (.aload_n 0, 1) := by decide +kernel
theorem dX4_tell_49 : decode cX4_tell 49 = .ok (.aload_n 2, 1) := by decide +kernel
theorem dX4_tell_50 : decode cX4_tell 50 = .ok (.invokevirtual 36, 3) := by decide +kernel
theorem dX4_tell_53 : decode cX4_tell 53 = .ok (.goto 76, 3) := by decide +kernel
theorem dX4_tell_56 : decode cX4_tell 56 = .ok (.aload_n 0, 1) := by decide +kernel
theorem dX4_tell_57 : decode cX4_tell 57 = .ok (.aload_n 2, 1) := by decide +kernel
theorem dX4_tell_58 : decode cX4_tell 58 = .ok (.invokevirtual 40, 3) := by decide +kernel
theorem dX4_tell_61 : decode cX4_tell 61 = .ok (.goto 68, 3) := by decide +kernel
theorem dX4_tell_64 : decode cX4_tell 64 = .ok (.aload_n 0, 1) := by decide +kernel
theorem dX4_tell_65 : decode cX4_tell 65 = .ok (.aload_n 2, 1) := by decide +kernel
theorem dX4_tell_66 : decode cX4_tell 66 = .ok (.invokevirtual 43, 3) := by decide +kernel
theorem dX4_tell_69 : decode cX4_tell 69 = .ok (.goto 60, 3) := by decide +kernel
theorem dX4_tell_72 : decode cX4_tell 72 = .ok (.aload_n 0, 1) := by decide +kernel
theorem dX4_tell_73 : decode cX4_tell 73 = .ok (.aload_n 2, 1) := by decide +kernel
theorem dX4_tell_74 : decode cX4_tell 74 = .ok (.iconst 0, 1) := by decide +kernel
theorem dX4_tell_75 : decode cX4_tell 75 = .ok (.iaload, 1) := by decide +kernel
theorem dX4_tell_76 : decode cX4_tell 76 = .ok (.putfield 46, 3) := by decide +kernel
theorem dX4_tell_79 : decode cX4_tell 79 = .ok (.goto 50, 3) := by decide +kernel
theorem dX4_tell_82 : decode cX4_tell 82 = .ok (.aload_n 0, 1) := by decide +kernel
theorem dX4_tell_83 : decode cX4_tell 83 = .ok (.aload_n 2, 1) := by decide +kernel
theorem dX4_tell_84 : decode cX4_tell 84 = .ok (.iconst 0, 1) := by decide +kernel
theorem dX4_tell_85 : decode cX4_tell 85 = .ok (.iaload, 1) := by decide +kernel
theorem dX4_tell_86 : decode cX4_tell 86 = .ok (.putfield 30, 3) := by decide +kernel
theorem dX4_tell_89 : decode cX4_tell 89 = .ok (.goto 40, 3) := by decide +kernel
theorem dX4_tell_92 : decode cX4_tell 92 = .ok (.aload_n 0, 1) := by decide +kernel
theorem dX4_tell_93 : decode cX4_tell 93 = .ok (.aload_n 2, 1) := by decide +kernel
theorem dX4_tell_94 : decode cX4_tell 94 = .ok (.iconst 0, 1) := by decide +kernel
theorem dX4_tell_95 : decode cX4_tell 95 = .ok (.iaload, 1) := by decide +kernel
theorem dX4_tell_96 : decode cX4_tell 96 = .ok (.aload_n 2, 1) := by decide +kernel
theorem dX4_tell_97 : decode cX4_tell 97 = .ok (.iconst 1, 1) := by decide +kernel
theorem dX4_tell_98 : decode cX4_tell 98 = .ok (.iaload, 1) := by decide +kernel
theorem dX4_tell_99 : decode cX4_tell 99 = .ok (.invokevirtual 49, 3) := by decide +kernel
theorem dX4_tell_102 : decode cX4_tell 102 = .ok (.goto 27, 3) := by decide +kernel
theorem dX4_tell_105 : decode cX4_tell 105 = .ok (.aload_n 0, 1) := by decide +kernel
theorem dX4_tell_106 : decode cX4_tell 106 = .ok (.aload_n 2, 1) := by decide +kernel
theorem dX4_tell_107 : decode cX4_tell 107 = .ok (.iconst 0, 1) := by decide +kernel
theorem dX4_tell_108 : decode cX4_tell 108 = .ok (.iaload, 1) := by decide +kernel
theorem dX4_tell_109 : decode cX4_tell 109 = .ok (.putfield 53, 3) := by decide +kernel
theorem dX4_tell_112 : decode cX4_tell 112 = .ok (.goto 17, 3) := by decide +kernel
theorem dX4_tell_115 : decode cX4_tell 115 = .ok (.aload_n 0, 1) := by decide +kernel
theorem dX4_tell_116 : decode cX4_tell 116 = .ok (.invokevirtual 56, 3) := by decide +kernel
theorem dX4_tell_119 : decode cX4_tell 119 = .ok (.goto 10, 3) := by decide +kernel
theorem dX4_tell_122 : decode cX4_tell 122 = .ok (.aload_n 0, 1) := by decide +kernel
theorem dX4_tell_123 : decode cX4_tell 123 = .ok (.aload_n 2, 1) := by decide +kernel
theorem dX4_tell_124 : decode cX4_tell 124 = .ok (.iconst 0, 1) := by decide +kernel
theorem dX4_tell_125 : decode cX4_tell 125 = .ok (.iaload, 1) := by decide +kernel
theorem dX4_tell_126 : decode cX4_tell 126 = .ok (.invokevirtual 59, 3) := by decide +kernel
theorem dX4_tell_129 : decode cX4_tell 129 = .ok (.return_, 1) := by decide +kernel
theorem dX4_tellWind_0 : decode cX4_tellWind 0 = .ok (.aload_n 1, 1) := by decide +kernel
theorem dX4_tellWind_1 : decode cX4_tellWind 1 = .ok (.iconst 0, 1) := by decide +kernel
theorem dX4_tellWind_2 : decode cX4_tellWind 2 = .ok (.iaload, 1) := by decide +kernel
theorem dX4_tellWind_3 : decode cX4_tellWind 3 = .ok (.invokestatic 63, 3) := by decide +kernel
theorem dX4_tellWind_6 : decode cX4_tellWind 6 = .ok (.ifCond .ne 4, 3) := by decide +kernel
theorem dX4_tellWind_9 : decode cX4_tellWind 9 = .ok (.return_, 1) := by decide +kernel
theorem dX4_tellWind_10 : decode cX4_tellWind 10 = .ok (.aload_n 1, 1) := by decide +kernel
theorem dX4_tellWind_11 : decode cX4_tellWind 11 = .ok (.iconst 0, 1) := by decide +kernel
theorem dX4_tellWind_12 : decode cX4_tellWind 12 = .ok (.iaload, 1) := by decide +kernel
theorem dX4_tellWind_13 : decode cX4_tellWind 13 = .ok (.iconst 1, 1) := by decide +kernel
theorem dX4_tellWind_14 : decode cX4_tellWind 14 = .ok (.isub, 1) := by decide +kernel
theorem dX4_tellWind_15 : decode cX4_tellWind 15 = .ok (.bipush 12, 2) := by decide +kernel
theorem dX4_tellWind_17 : decode cX4_tellWind 17 = .ok (.imul, 1) := by decide +kernel
theorem dX4_tellWind_18 : decode cX4_tellWind 18 = .ok (.istore_n 2, 1) := by decide +kernel
theorem dX4_tellWind_19 : decode cX4_tellWind 19 = .ok (.iconst 0, 1) := by decide +kernel
theorem dX4_tellWind_20 : decode cX4_tellWind 20 = .ok (.istore_n 3, 1) := by decide +kernel
theorem dX4_tellWind_21 : decode cX4_tellWind 21 = .ok (.iload_n 3, 1) := by decide +kernel
theorem dX4_tellWind_22 : decode cX4_tellWind 22 = .ok (.bipush 12, 2) := by decide +kernel
theorem dX4_tellWind_24 : decode cX4_tellWind 24 = .ok (.if_icmp .ge 47, 3) := by decide +kernel
theorem dX4_tellWind_27 : decode cX4_tellWind 27 = .ok (.iload_n 3, 1) := by decide +kernel
theorem dX4_tellWind_28 : decode cX4_tellWind 28 = .ok (.aload_n 1, 1) := by decide +kernel
theorem dX4_tellWind_29 : decode cX4_tellWind 29 = .ok (.iconst 1, 1) := by decide +kernel
theorem dX4_tellWind_30 : decode cX4_tellWind 30 = .ok (.iaload, 1) := by decide +kernel
theorem dX4_tellWind_31 : decode cX4_tellWind 31 = .ok (.if_icmp .lt 34, 3) := by decide +kernel
theorem dX4_tellWind_34 : decode cX4_tellWind 34 = .ok (.iload_n 3, 1) := by decide +kernel
theorem dX4_tellWind_35 : decode cX4_tellWind 35 = .ok (.aload_n 1, 1) := by decide +kernel
theorem dX4_tellWind_36 : decode cX4_tellWind 36 = .ok (.iconst 2, 1) := by decide +kernel
theorem dX4_tellWind_37 : decode cX4_tellWind 37 = .ok (.iaload, 1) := by decide +kernel
theorem dX4_tellWind_38 : decode cX4_tellWind 38 = .ok (.if_icmp .gt 27, 3) := by decide +kernel
theorem dX4_tellWind_41 : decode cX4_tellWind 41 = .ok (.aload_n 0, 1) := by decide +kernel
theorem dX4_tellWind_42 : decode cX4_tellWind 42 = .ok (.getfield 23, 3) := by decide +kernel
theorem dX4_tellWind_45 : decode cX4_tellWind 45 = .ok (.iload_n 2, 1) := by decide +kernel
theorem dX4_tellWind_46 : decode cX4_tellWind 46 = .ok (.iload_n 3, 1) := by decide +kernel
theorem dX4_tellWind_47 : decode cX4_tellWind 47 = .ok (.iadd, 1) := by decide +kernel
theorem dX4_tellWind_48 : decode cX4_tellWind 48 = .ok (.aload_n 1, 1) := by decide +kernel
theorem dX4_tellWind_49 : decode cX4_tellWind 49 = .ok (.iconst 3, 1) := by decide +kernel
theorem dX4_tellWind_50 : decode cX4_tellWind 50 = .ok (.iaload, 1) := by decide +kernel
theorem dX4_tellWind_51 : decode cX4_tellWind 51 = .ok (.iastore, 1) := by decide +kernel
theorem dX4_tellWind_52 : decode cX4_tellWind 52 = .ok (.aload_n 0, 1) := by decide +kernel
theorem dX4_tellWind_53 : decode cX4_tellWind 53 = .ok (.getfield 27, 3) := by decide +kernel
theorem dX4_tellWind_56 : decode cX4_tellWind 56 = .ok (.iload_n 2, 1) := by decide +kernel
theorem dX4_tellWind_57 : decode cX4_tellWind 57 = .ok (.iload_n 3, 1) := by decide +kernel
theorem dX4_tellWind_58 : decode cX4_tellWind 58 = .ok (.iadd, 1) := by decide +kernel
theorem dX4_tellWind_59 : decode cX4_tellWind 59 = .ok (.aload_n 1, 1) := by decide +kernel
theorem dX4_tellWind_60 : decode cX4_tellWind 60 = .ok (.iconst 4, 1) := by decide +kernel
theorem dX4_tellWind_61 : decode cX4_tellWind 61 = .ok (.iaload, 1) := by decide +kernel
theorem dX4_tellWind_62 : decode cX4_tellWind 62 = .ok (.iconst 3, 1) := by decide +kernel
theorem dX4_tellWind_63 : decode cX4_tellWind 63 = .ok (.isub, 1) := by decide +kernel
theorem dX4_tellWind_64 : decode cX4_tellWind 64 = .ok (.iastore, 1) := by decide +kernel
theorem dX4_tellWind_65 : decode cX4_tellWind 65 = .ok (.iinc 3 1, 3) := by decide +kernel
theorem dX4_tellWind_68 : decode cX4_tellWind 68 = .ok (.goto (-47), 3) := by decide +kernel
theorem dX4_tellWind_71 : decode cX4_tellWind 71 = .ok (.return_, 1) := by decide +kernel
theorem dX4_tellKite_0 : decode cX4_tellKite 0 = .ok (.aload_n 1, 1) := by decide +kernel
theorem dX4_tellKite_1 : decode cX4_tellKite 1 = .ok (.iconst 0, 1) := by decide +kernel
theorem dX4_tellKite_2 : decode cX4_tellKite 2 = .ok (.iaload, 1) := by decide +kernel
theorem dX4_tellKite_3 : decode cX4_tellKite 3 = .ok (.ifCond .lt 11, 3) := by decide +kernel
theorem dX4_tellKite_6 : decode cX4_tellKite 6 = .ok (.aload_n 1, 1) := by decide +kernel
theorem dX4_tellKite_7 : decode cX4_tellKite 7 = .ok (.iconst 0, 1) := by decide +kernel
theorem dX4_tellKite_8 : decode cX4_tellKite 8 = .ok (.iaload, 1) := by decide +kernel
theorem dX4_tellKite_9 : decode cX4_tellKite 9 = .ok (.bipush 6, 2) := by decide +kernel
theorem dX4_tellKite_11 : decode cX4_tellKite 11 = .ok (.if_icmp .lt 4, 3) := by decide +kernel
theorem dX4_tellKite_14 : decode cX4_tellKite 14 = .ok (.return_, 1) := by decide +kernel
theorem dX4_tellKite_15 : decode cX4_tellKite 15 = .ok (.aload_n 0, 1) := by decide +kernel
theorem dX4_tellKite_16 : decode cX4_tellKite 16 = .ok (.getfield 11, 3) := by decide +kernel
theorem dX4_tellKite_19 : decode cX4_tellKite 19 = .ok (.aload_n 1, 1) := by decide +kernel
theorem dX4_tellKite_20 : decode cX4_tellKite 20 = .ok (.iconst 0, 1) := by decide +kernel
theorem dX4_tellKite_21 : decode cX4_tellKite 21 = .ok (.iaload, 1) := by decide +kernel
theorem dX4_tellKite_22 : decode cX4_tellKite 22 = .ok (.aaload, 1) := by decide +kernel
theorem dX4_tellKite_23 : decode cX4_tellKite 23 = .ok (.astore_n 2, 1) := by decide +kernel
theorem dX4_tellKite_24 : decode cX4_tellKite 24 = .ok (.aload_n 2, 1) := by decide +kernel
theorem dX4_tellKite_25 : decode cX4_tellKite 25 = .ok (.iconst 1, 1) := by decide +kernel
theorem dX4_tellKite_26 : decode cX4_tellKite 26 = .ok (.putfield 67, 3) := by decide +kernel
theorem dX4_tellKite_29 : decode cX4_tellKite 29 = .ok (.aload_n 2, 1) := by decide +kernel
theorem dX4_tellKite_30 : decode cX4_tellKite 30 = .ok (.aload_n 1, 1) := by decide +kernel
theorem dX4_tellKite_31 : decode cX4_tellKite 31 = .ok (.iconst 1, 1) := by decide +kernel
theorem dX4_tellKite_32 : decode cX4_tellKite 32 = .ok (.iaload, 1) := by decide +kernel
theorem dX4_tellKite_33 : decode cX4_tellKite 33 = .ok (.putfield 71, 3) := by decide +kernel
theorem dX4_tellKite_36 : decode cX4_tellKite 36 = .ok (.aload_n 2, 1) := by decide +kernel
theorem dX4_tellKite_37 : decode cX4_tellKite 37 = .ok (.aload_n 1, 1) := by decide +kernel
theorem dX4_tellKite_38 : decode cX4_tellKite 38 = .ok (.iconst 2, 1) := by decide +kernel
theorem dX4_tellKite_39 : decode cX4_tellKite 39 = .ok (.iaload, 1) := by decide +kernel
theorem dX4_tellKite_40 : decode cX4_tellKite 40 = .ok (.putfield 74, 3) := by decide +kernel
theorem dX4_tellKite_43 : decode cX4_tellKite 43 = .ok (.aload_n 2, 1) := by decide +kernel
theorem dX4_tellKite_44 : decode cX4_tellKite 44 = .ok (.aload_n 1, 1) := by decide +kernel
theorem dX4_tellKite_45 : decode cX4_tellKite 45 = .ok (.iconst 3, 1) := by decide +kernel
theorem dX4_tellKite_46 : decode cX4_tellKite 46 = .ok (.iaload, 1) := by decide +kernel
theorem dX4_tellKite_47 : decode cX4_tellKite 47 = .ok (.putfield 77, 3) := by decide +kernel
theorem dX4_tellKite_50 : decode cX4_tellKite 50 = .ok (.aload_n 2, 1) := by decide +kernel
theorem dX4_tellKite_51 : decode cX4_tellKite 51 = .ok (.aload_n 1, 1) := by decide +kernel
theorem dX4_tellKite_52 : decode cX4_tellKite 52 = .ok (.iconst 4, 1) := by decide +kernel
theorem dX4_tellKite_53 : decode cX4_tellKite 53 = .ok (.iaload, 1) := by decide +kernel
theorem dX4_tellKite_54 : decode cX4_tellKite 54 = .ok (.putfield 80, 3) := by decide +kernel
theorem dX4_tellKite_57 : decode cX4_tellKite 57 = .ok (.aload_n 2, 1) := by decide +kernel
theorem dX4_tellKite_58 : decode cX4_tellKite 58 = .ok (.aload_n 1, 1) := by decide +kernel
theorem dX4_tellKite_59 : decode cX4_tellKite 59 = .ok (.iconst 5, 1) := by decide +kernel
theorem dX4_tellKite_60 : decode cX4_tellKite 60 = .ok (.iaload, 1) := by decide +kernel
theorem dX4_tellKite_61 : decode cX4_tellKite 61 = .ok (.putfield 83, 3) := by decide +kernel
theorem dX4_tellKite_64 : decode cX4_tellKite 64 = .ok (.return_, 1) := by decide +kernel
theorem dX4_tellShoal_0 : decode cX4_tellShoal 0 = .ok (.aload_n 1, 1) := by decide +kernel
theorem dX4_tellShoal_1 : decode cX4_tellShoal 1 = .ok (.iconst 0, 1) := by decide +kernel
theorem dX4_tellShoal_2 : decode cX4_tellShoal 2 = .ok (.iaload, 1) := by decide +kernel
theorem dX4_tellShoal_3 : decode cX4_tellShoal 3 = .ok (.ifCond .lt 10, 3) := by decide +kernel
theorem dX4_tellShoal_6 : decode cX4_tellShoal 6 = .ok (.aload_n 1, 1) := by decide +kernel
theorem dX4_tellShoal_7 : decode cX4_tellShoal 7 = .ok (.iconst 0, 1) := by decide +kernel
theorem dX4_tellShoal_8 : decode cX4_tellShoal 8 = .ok (.iaload, 1) := by decide +kernel
theorem dX4_tellShoal_9 : decode cX4_tellShoal 9 = .ok (.iconst 4, 1) := by decide +kernel
theorem dX4_tellShoal_10 : decode cX4_tellShoal 10 = .ok (.if_icmp .lt 4, 3) := by decide +kernel
theorem dX4_tellShoal_13 : decode cX4_tellShoal 13 = .ok (.return_, 1) := by decide +kernel
theorem dX4_tellShoal_14 : decode cX4_tellShoal 14 = .ok (.aload_n 0, 1) := by decide +kernel
theorem dX4_tellShoal_15 : decode cX4_tellShoal 15 = .ok (.getfield 19, 3) := by decide +kernel
theorem dX4_tellShoal_18 : decode cX4_tellShoal 18 = .ok (.aload_n 1, 1) := by decide +kernel
theorem dX4_tellShoal_19 : decode cX4_tellShoal 19 = .ok (.iconst 0, 1) := by decide +kernel
theorem dX4_tellShoal_20 : decode cX4_tellShoal 20 = .ok (.iaload, 1) := by decide +kernel
theorem dX4_tellShoal_21 : decode cX4_tellShoal 21 = .ok (.aaload, 1) := by decide +kernel
theorem dX4_tellShoal_22 : decode cX4_tellShoal 22 = .ok (.astore_n 2, 1) := by decide +kernel
theorem dX4_tellShoal_23 : decode cX4_tellShoal 23 = .ok (.aload_n 2, 1) := by decide +kernel
theorem dX4_tellShoal_24 : decode cX4_tellShoal 24 = .ok (.iconst 1, 1) := by decide +kernel
theorem dX4_tellShoal_25 : decode cX4_tellShoal 25 = .ok (.putfield 86, 3) := by decide +kernel
theorem dX4_tellShoal_28 : decode cX4_tellShoal 28 = .ok (.aload_n 2, 1) := by decide +kernel
theorem dX4_tellShoal_29 : decode cX4_tellShoal 29 = .ok (.aload_n 1, 1) := by decide +kernel
theorem dX4_tellShoal_30 : decode cX4_tellShoal 30 = .ok (.iconst 1, 1) := by decide +kernel
theorem dX4_tellShoal_31 : decode cX4_tellShoal 31 = .ok (.iaload, 1) := by decide +kernel
theorem dX4_tellShoal_32 : decode cX4_tellShoal 32 = .ok (.putfield 87, 3) := by decide +kernel
theorem dX4_tellShoal_35 : decode cX4_tellShoal 35 = .ok (.aload_n 2, 1) := by decide +kernel
theorem dX4_tellShoal_36 : decode cX4_tellShoal 36 = .ok (.aload_n 1, 1) := by decide +kernel
theorem dX4_tellShoal_37 : decode cX4_tellShoal 37 = .ok (.iconst 2, 1) := by decide +kernel
theorem dX4_tellShoal_38 : decode cX4_tellShoal 38 = .ok (.iaload, 1) := by decide +kernel
theorem dX4_tellShoal_39 : decode cX4_tellShoal 39 = .ok (.putfield 90, 3) := by decide +kernel
theorem dX4_tellShoal_42 : decode cX4_tellShoal 42 = .ok (.aload_n 2, 1) := by decide +kernel
theorem dX4_tellShoal_43 : decode cX4_tellShoal 43 = .ok (.aload_n 1, 1) := by decide +kernel
theorem dX4_tellShoal_44 : decode cX4_tellShoal 44 = .ok (.iconst 3, 1) := by decide +kernel
theorem dX4_tellShoal_45 : decode cX4_tellShoal 45 = .ok (.iaload, 1) := by decide +kernel
theorem dX4_tellShoal_46 : decode cX4_tellShoal 46 = .ok (.iconst 1, 1) := by decide +kernel
theorem dX4_tellShoal_47 : decode cX4_tellShoal 47 = .ok (.isub, 1) := by decide +kernel
theorem dX4_tellShoal_48 : decode cX4_tellShoal 48 = .ok (.putfield 93, 3) := by decide +kernel
theorem dX4_tellShoal_51 : decode cX4_tellShoal 51 = .ok (.aload_n 2, 1) := by decide +kernel
theorem dX4_tellShoal_52 : decode cX4_tellShoal 52 = .ok (.aload_n 1, 1) := by decide +kernel
theorem dX4_tellShoal_53 : decode cX4_tellShoal 53 = .ok (.iconst 4, 1) := by decide +kernel
theorem dX4_tellShoal_54 : decode cX4_tellShoal 54 = .ok (.iaload, 1) := by decide +kernel
theorem dX4_tellShoal_55 : decode cX4_tellShoal 55 = .ok (.iconst 1, 1) := by decide +kernel
theorem dX4_tellShoal_56 : decode cX4_tellShoal 56 = .ok (.isub, 1) := by decide +kernel
theorem dX4_tellShoal_57 : decode cX4_tellShoal 57 = .ok (.putfield 96, 3) := by decide +kernel
theorem dX4_tellShoal_60 : decode cX4_tellShoal 60 = .ok (.aload_n 2, 1) := by decide +kernel
theorem dX4_tellShoal_61 : decode cX4_tellShoal 61 = .ok (.aload_n 1, 1) := by decide +kernel
theorem dX4_tellShoal_62 : decode cX4_tellShoal 62 = .ok (.iconst 5, 1) := by decide +kernel
theorem dX4_tellShoal_63 : decode cX4_tellShoal 63 = .ok (.iaload, 1) := by decide +kernel
theorem dX4_tellShoal_64 : decode cX4_tellShoal 64 = .ok (.putfield 99, 3) := by decide +kernel
theorem dX4_tellShoal_67 : decode cX4_tellShoal 67 = .ok (.return_, 1) := by decide +kernel
theorem dX4_tellFog_0 : decode cX4_tellFog 0 = .ok (.iconst 0, 1) := by decide +kernel
theorem dX4_tellFog_1 : decode cX4_tellFog 1 = .ok (.istore_n 3, 1) := by decide +kernel
theorem dX4_tellFog_2 : decode cX4_tellFog 2 = .ok (.iload_n 3, 1) := by decide +kernel
theorem dX4_tellFog_3 : decode cX4_tellFog 3 = .ok (.bipush 12, 2) := by decide +kernel
theorem dX4_tellFog_5 : decode cX4_tellFog 5 = .ok (.if_icmp .ge 31, 3) := by decide +kernel
theorem dX4_tellFog_8 : decode cX4_tellFog 8 = .ok (.iload_n 3, 1) := by decide +kernel
theorem dX4_tellFog_9 : decode cX4_tellFog 9 = .ok (.iload_n 1, 1) := by decide +kernel
theorem dX4_tellFog_10 : decode cX4_tellFog 10 = .ok (.if_icmp .lt 20, 3) := by decide +kernel
theorem dX4_tellFog_13 : decode cX4_tellFog 13 = .ok (.iload_n 3, 1) := by decide +kernel
theorem dX4_tellFog_14 : decode cX4_tellFog 14 = .ok (.iload_n 2, 1) := by decide +kernel
theorem dX4_tellFog_15 : decode cX4_tellFog 15 = .ok (.if_icmp .gt 15, 3) := by decide +kernel
theorem dX4_tellFog_18 : decode cX4_tellFog 18 = .ok (.aload_n 0, 1) := by decide +kernel
theorem dX4_tellFog_19 : decode cX4_tellFog 19 = .ok (.dup, 1) := by decide +kernel
theorem dX4_tellFog_20 : decode cX4_tellFog 20 = .ok (.getfield 102, 3) := by decide +kernel
theorem dX4_tellFog_23 : decode cX4_tellFog 23 = .ok (.iconst 1, 1) := by decide +kernel
theorem dX4_tellFog_24 : decode cX4_tellFog 24 = .ok (.iload_n 3, 1) := by decide +kernel
theorem dX4_tellFog_25 : decode cX4_tellFog 25 = .ok (.ishl, 1) := by decide +kernel
theorem dX4_tellFog_26 : decode cX4_tellFog 26 = .ok (.ior, 1) := by decide +kernel
theorem dX4_tellFog_27 : decode cX4_tellFog 27 = .ok (.putfield 102, 3) := by decide +kernel
theorem dX4_tellFog_30 : decode cX4_tellFog 30 = .ok (.iinc 3 1, 3) := by decide +kernel
theorem dX4_tellFog_33 : decode cX4_tellFog 33 = .ok (.goto (-31), 3) := by decide +kernel
theorem dX4_tellFog_36 : decode cX4_tellFog 36 = .ok (.return_, 1) := by decide +kernel
theorem dX4_tellCalm_0 : decode cX4_tellCalm 0 = .ok (.aload_n 0, 1) := by decide +kernel
theorem dX4_tellCalm_1 : decode cX4_tellCalm 1 = .ok (.getfield 23, 3) := by decide +kernel
theorem dX4_tellCalm_4 : decode cX4_tellCalm 4 = .ok (.iconst 0, 1) := by decide +kernel
theorem dX4_tellCalm_5 : decode cX4_tellCalm 5 = .ok (.invokestatic 105, 3) := by decide +kernel
theorem dX4_tellCalm_8 : decode cX4_tellCalm 8 = .ok (.aload_n 0, 1) := by decide +kernel
theorem dX4_tellCalm_9 : decode cX4_tellCalm 9 = .ok (.getfield 27, 3) := by decide +kernel
theorem dX4_tellCalm_12 : decode cX4_tellCalm 12 = .ok (.iconst 0, 1) := by decide +kernel
theorem dX4_tellCalm_13 : decode cX4_tellCalm 13 = .ok (.invokestatic 105, 3) := by decide +kernel
theorem dX4_tellCalm_16 : decode cX4_tellCalm 16 = .ok (.aload_n 0, 1) := by decide +kernel
theorem dX4_tellCalm_17 : decode cX4_tellCalm 17 = .ok (.iconst 0, 1) := by decide +kernel
theorem dX4_tellCalm_18 : decode cX4_tellCalm 18 = .ok (.putfield 102, 3) := by decide +kernel
theorem dX4_tellCalm_21 : decode cX4_tellCalm 21 = .ok (.aload_n 0, 1) := by decide +kernel
theorem dX4_tellCalm_22 : decode cX4_tellCalm 22 = .ok (.iconst 0, 1) := by decide +kernel
theorem dX4_tellCalm_23 : decode cX4_tellCalm 23 = .ok (.putfield 53, 3) := by decide +kernel
theorem dX4_tellCalm_26 : decode cX4_tellCalm 26 = .ok (.return_, 1) := by decide +kernel
theorem dX4_tellLost_0 : decode cX4_tellLost 0 = .ok (.iload_n 1, 1) := by decide +kernel
theorem dX4_tellLost_1 : decode cX4_tellLost 1 = .ok (.ifCond .lt 19, 3) := by decide +kernel
theorem dX4_tellLost_4 : decode cX4_tellLost 4 = .ok (.iload_n 1, 1) := by decide +kernel
theorem dX4_tellLost_5 : decode cX4_tellLost 5 = .ok (.bipush 6, 2) := by decide +kernel
theorem dX4_tellLost_7 : decode cX4_tellLost 7 = .ok (.if_icmp .ge 13, 3) := by decide +kernel
theorem dX4_tellLost_10 : decode cX4_tellLost 10 = .ok (.aload_n 0, 1) := by decide +kernel
theorem dX4_tellLost_11 : decode cX4_tellLost 11 = .ok (.getfield 11, 3) := by decide +kernel
theorem dX4_tellLost_14 : decode cX4_tellLost 14 = .ok (.iload_n 1, 1) := by decide +kernel
theorem dX4_tellLost_15 : decode cX4_tellLost 15 = .ok (.aaload, 1) := by decide +kernel
theorem dX4_tellLost_16 : decode cX4_tellLost 16 = .ok (.iconst 0, 1) := by decide +kernel
theorem dX4_tellLost_17 : decode cX4_tellLost 17 = .ok (.putfield 67, 3) := by decide +kernel
theorem dX4_tellLost_20 : decode cX4_tellLost 20 = .ok (.return_, 1) := by decide +kernel
theorem dX4_windAt_0 : decode cX4_windAt 0 = .ok (.iload_n 1, 1) := by decide +kernel
theorem dX4_windAt_1 : decode cX4_windAt 1 = .ok (.iconst 1, 1) := by decide +kernel
theorem dX4_windAt_2 : decode cX4_windAt 2 = .ok (.isub, 1) := by decide +kernel
theorem dX4_windAt_3 : decode cX4_windAt 3 = .ok (.bipush 12, 2) := by decide +kernel
theorem dX4_windAt_5 : decode cX4_windAt 5 = .ok (.imul, 1) := by decide +kernel
theorem dX4_windAt_6 : decode cX4_windAt 6 = .ok (.iload_n 2, 1) := by decide +kernel
theorem dX4_windAt_7 : decode cX4_windAt 7 = .ok (.iadd, 1) := by decide +kernel
theorem dX4_windAt_8 : decode cX4_windAt 8 = .ok (.istore_n 3, 1) := by decide +kernel
theorem dX4_windAt_9 : decode cX4_windAt 9 = .ok (.iload_n 3, 1) := by decide +kernel
theorem dX4_windAt_10 : decode cX4_windAt 10 = .ok (.ifCond .lt 15, 3) := by decide +kernel
theorem dX4_windAt_13 : decode cX4_windAt 13 = .ok (.iload_n 3, 1) := by decide +kernel
theorem dX4_windAt_14 : decode cX4_windAt 14 = .ok (.aload_n 0, 1) := by decide +kernel
theorem dX4_windAt_15 : decode cX4_windAt 15 = .ok (.arraylength, 1) := by decide +kernel
theorem dX4_windAt_16 : decode cX4_windAt 16 = .ok (.if_icmp .ge 9, 3) := by decide +kernel
theorem dX4_windAt_19 : decode cX4_windAt 19 = .ok (.aload_n 0, 1) := by decide +kernel
theorem dX4_windAt_20 : decode cX4_windAt 20 = .ok (.iload_n 3, 1) := by decide +kernel
theorem dX4_windAt_21 : decode cX4_windAt 21 = .ok (.iaload, 1) := by decide +kernel
theorem dX4_windAt_22 : decode cX4_windAt 22 = .ok (.goto 4, 3) := by decide +kernel
theorem dX4_windAt_25 : decode cX4_windAt 25 = .ok (.iconst 0, 1) := by decide +kernel
theorem dX4_windAt_26 : decode cX4_windAt 26 = .ok (.ireturn, 1) := by decide +kernel
theorem dX4_isToldKite_0 : decode cX4_isToldKite 0 = .ok (.iload_n 1, 1) := by decide +kernel
theorem dX4_isToldKite_1 : decode cX4_isToldKite 1 = .ok (.ifCond .lt 25, 3) := by decide +kernel
theorem dX4_isToldKite_4 : decode cX4_isToldKite 4 = .ok (.iload_n 1, 1) := by decide +kernel
theorem dX4_isToldKite_5 : decode cX4_isToldKite 5 = .ok (.bipush 6, 2) := by decide +kernel
theorem dX4_isToldKite_7 : decode cX4_isToldKite 7 = .ok (.if_icmp .ge 19, 3) := by decide +kernel
theorem dX4_isToldKite_10 : decode cX4_isToldKite 10 = .ok (.aload_n 0, 1) := by decide +kernel
theorem dX4_isToldKite_11 : decode cX4_isToldKite 11 = .ok (.getfield 11, 3) := by decide +kernel
theorem dX4_isToldKite_14 : decode cX4_isToldKite 14 = .ok (.iload_n 1, 1) := by decide +kernel
theorem dX4_isToldKite_15 : decode cX4_isToldKite 15 = .ok (.aaload, 1) := by decide +kernel
theorem dX4_isToldKite_16 : decode cX4_isToldKite 16 = .ok (.getfield 67, 3) := by decide +kernel
theorem dX4_isToldKite_19 : decode cX4_isToldKite 19 = .ok (.ifCond .eq 7, 3) := by decide +kernel
theorem dX4_isToldKite_22 : decode cX4_isToldKite 22 = .ok (.iconst 1, 1) := by decide +kernel
theorem dX4_isToldKite_23 : decode cX4_isToldKite 23 = .ok (.goto 4, 3) := by decide +kernel
theorem dX4_isToldKite_26 : decode cX4_isToldKite 26 = .ok (.iconst 0, 1) := by decide +kernel
theorem dX4_isToldKite_27 : decode cX4_isToldKite 27 = .ok (.ireturn, 1) := by decide +kernel
theorem dX4_isToldShoal_0 : decode cX4_isToldShoal 0 = .ok (.iload_n 1, 1) := by decide +kernel
theorem dX4_isToldShoal_1 : decode cX4_isToldShoal 1 = .ok (.ifCond .lt 24, 3) := by decide +kernel
theorem dX4_isToldShoal_4 : decode cX4_isToldShoal 4 = .ok (.iload_n 1, 1) := by decide +kernel
theorem dX4_isToldShoal_5 : decode cX4_isToldShoal 5 = .ok (.iconst 4, 1) := by decide +kernel
theorem dX4_isToldShoal_6 : decode cX4_isToldShoal 6 = .ok (.if_icmp .ge 19, 3) := by decide +kernel
theorem dX4_isToldShoal_9 : decode cX4_isToldShoal 9 = .ok (.aload_n 0, 1) := by decide +kernel
theorem dX4_isToldShoal_10 : decode cX4_isToldShoal 10 = .ok (.getfield 19, 3) := by decide +kernel
theorem dX4_isToldShoal_13 : decode cX4_isToldShoal 13 = .ok (.iload_n 1, 1) := by decide +kernel
theorem dX4_isToldShoal_14 : decode cX4_isToldShoal 14 = .ok (.aaload, 1) := by decide +kernel
theorem dX4_isToldShoal_15 : decode cX4_isToldShoal 15 = .ok (.getfield 86, 3) := by decide +kernel
theorem dX4_isToldShoal_18 : decode cX4_isToldShoal 18 = .ok (.ifCond .eq 7, 3) := by decide +kernel
theorem dX4_isToldShoal_21 : decode cX4_isToldShoal 21 = .ok (.iconst 1, 1) := by decide +kernel
theorem dX4_isToldShoal_22 : decode cX4_isToldShoal 22 = .ok (.goto 4, 3) := by decide +kernel
theorem dX4_isToldShoal_25 : decode cX4_isToldShoal 25 = .ok (.iconst 0, 1) := by decide +kernel
theorem dX4_isToldShoal_26 : decode cX4_isToldShoal 26 = .ok (.ireturn, 1) := by decide +kernel
theorem dX4_isFoggy_0 : decode cX4_isFoggy 0 = .ok (.aload_n 0, 1) := by decide +kernel
theorem dX4_isFoggy_1 : decode cX4_isFoggy 1 = .ok (.getfield 102, 3) := by decide +kernel
theorem dX4_isFoggy_4 : decode cX4_isFoggy 4 = .ok (.iload_n 1, 1) := by decide +kernel
theorem dX4_isFoggy_5 : decode cX4_isFoggy 5 = .ok (.invokestatic 111, 3) := by decide +kernel
theorem dX4_isFoggy_8 : decode cX4_isFoggy 8 = .ok (.ireturn, 1) := by decide +kernel
theorem dX4_kiteBits_0 : decode cX4_kiteBits 0 = .ok (.iconst 0, 1) := by decide +kernel
theorem dX4_kiteBits_1 : decode cX4_kiteBits 1 = .ok (.istore_n 1, 1) := by decide +kernel
theorem dX4_kiteBits_2 : decode cX4_kiteBits 2 = .ok (.iconst 0, 1) := by decide +kernel
theorem dX4_kiteBits_3 : decode cX4_kiteBits 3 = .ok (.istore_n 2, 1) := by decide +kernel
theorem dX4_kiteBits_4 : decode cX4_kiteBits 4 = .ok (.iload_n 2, 1) := by decide +kernel
theorem dX4_kiteBits_5 : decode cX4_kiteBits 5 = .ok (.bipush 6, 2) := by decide +kernel
theorem dX4_kiteBits_7 : decode cX4_kiteBits 7 = .ok (.if_icmp .ge 31, 3) := by decide +kernel
theorem dX4_kiteBits_10 : decode cX4_kiteBits 10 = .ok (.iload_n 1, 1) := by decide +kernel
theorem dX4_kiteBits_11 : decode cX4_kiteBits 11 = .ok (.aload_n 0, 1) := by decide +kernel
theorem dX4_kiteBits_12 : decode cX4_kiteBits 12 = .ok (.getfield 11, 3) := by decide +kernel
theorem dX4_kiteBits_15 : decode cX4_kiteBits 15 = .ok (.iload_n 2, 1) := by decide +kernel
theorem dX4_kiteBits_16 : decode cX4_kiteBits 16 = .ok (.aaload, 1) := by decide +kernel
theorem dX4_kiteBits_17 : decode cX4_kiteBits 17 = .ok (.getfield 67, 3) := by decide +kernel
theorem dX4_kiteBits_20 : decode cX4_kiteBits 20 = .ok (.ifCond .eq 9, 3) := by decide +kernel
theorem dX4_kiteBits_23 : decode cX4_kiteBits 23 = .ok (.iconst 1, 1) := by decide +kernel
theorem dX4_kiteBits_24 : decode cX4_kiteBits 24 = .ok (.iload_n 2, 1) := by decide +kernel
theorem dX4_kiteBits_25 : decode cX4_kiteBits 25 = .ok (.ishl, 1) := by decide +kernel
theorem dX4_kiteBits_26 : decode cX4_kiteBits 26 = .ok (.goto 4, 3) := by decide +kernel
theorem dX4_kiteBits_29 : decode cX4_kiteBits 29 = .ok (.iconst 0, 1) := by decide +kernel
theorem dX4_kiteBits_30 : decode cX4_kiteBits 30 = .ok (.ior, 1) := by decide +kernel
theorem dX4_kiteBits_31 : decode cX4_kiteBits 31 = .ok (.istore_n 1, 1) := by decide +kernel
theorem dX4_kiteBits_32 : decode cX4_kiteBits 32 = .ok (.iinc 2 1, 3) := by decide +kernel
theorem dX4_kiteBits_35 : decode cX4_kiteBits 35 = .ok (.goto (-31), 3) := by decide +kernel
theorem dX4_kiteBits_38 : decode cX4_kiteBits 38 = .ok (.iload_n 1, 1) := by decide +kernel
theorem dX4_kiteBits_39 : decode cX4_kiteBits 39 = .ok (.ireturn, 1) := by decide +kernel
theorem dX4_shoalBits_0 : decode cX4_shoalBits 0 = .ok (.iconst 0, 1) := by decide +kernel
theorem dX4_shoalBits_1 : decode cX4_shoalBits 1 = .ok (.istore_n 1, 1) := by decide +kernel
theorem dX4_shoalBits_2 : decode cX4_shoalBits 2 = .ok (.iconst 0, 1) := by decide +kernel
theorem dX4_shoalBits_3 : decode cX4_shoalBits 3 = .ok (.istore_n 2, 1) := by decide +kernel
theorem dX4_shoalBits_4 : decode cX4_shoalBits 4 = .ok (.iload_n 2, 1) := by decide +kernel
theorem dX4_shoalBits_5 : decode cX4_shoalBits 5 = .ok (.iconst 4, 1) := by decide +kernel
theorem dX4_shoalBits_6 : decode cX4_shoalBits 6 = .ok (.if_icmp .ge 31, 3) := by decide +kernel
theorem dX4_shoalBits_9 : decode cX4_shoalBits 9 = .ok (.iload_n 1, 1) := by decide +kernel
theorem dX4_shoalBits_10 : decode cX4_shoalBits 10 = .ok (.aload_n 0, 1) := by decide +kernel
theorem dX4_shoalBits_11 : decode cX4_shoalBits 11 = .ok (.getfield 19, 3) := by decide +kernel
theorem dX4_shoalBits_14 : decode cX4_shoalBits 14 = .ok (.iload_n 2, 1) := by decide +kernel
theorem dX4_shoalBits_15 : decode cX4_shoalBits 15 = .ok (.aaload, 1) := by decide +kernel
theorem dX4_shoalBits_16 : decode cX4_shoalBits 16 = .ok (.getfield 86, 3) := by decide +kernel
theorem dX4_shoalBits_19 : decode cX4_shoalBits 19 = .ok (.ifCond .eq 9, 3) := by decide +kernel
theorem dX4_shoalBits_22 : decode cX4_shoalBits 22 = .ok (.iconst 1, 1) := by decide +kernel
theorem dX4_shoalBits_23 : decode cX4_shoalBits 23 = .ok (.iload_n 2, 1) := by decide +kernel
theorem dX4_shoalBits_24 : decode cX4_shoalBits 24 = .ok (.ishl, 1) := by decide +kernel
theorem dX4_shoalBits_25 : decode cX4_shoalBits 25 = .ok (.goto 4, 3) := by decide +kernel
theorem dX4_shoalBits_28 : decode cX4_shoalBits 28 = .ok (.iconst 0, 1) := by decide +kernel
theorem dX4_shoalBits_29 : decode cX4_shoalBits 29 = .ok (.ior, 1) := by decide +kernel
theorem dX4_shoalBits_30 : decode cX4_shoalBits 30 = .ok (.istore_n 1, 1) := by decide +kernel
theorem dX4_shoalBits_31 : decode cX4_shoalBits 31 = .ok (.iinc 2 1, 3) := by decide +kernel
theorem dX4_shoalBits_34 : decode cX4_shoalBits 34 = .ok (.goto (-30), 3) := by decide +kernel
theorem dX4_shoalBits_37 : decode cX4_shoalBits 37 = .ok (.iload_n 1, 1) := by decide +kernel
theorem dX4_shoalBits_38 : decode cX4_shoalBits 38 = .ok (.ireturn, 1) := by decide +kernel
theorem dX4_shoalX_0 : decode cX4_shoalX 0 = .ok (.aload_n 0, 1) := by decide +kernel
theorem dX4_shoalX_1 : decode cX4_shoalX 1 = .ok (.iload_n 1, 1) := by decide +kernel
theorem dX4_shoalX_2 : decode cX4_shoalX 2 = .ok (.invokevirtual 115, 3) := by decide +kernel
theorem dX4_shoalX_5 : decode cX4_shoalX 5 = .ok (.ifCond .eq 27, 3) := by decide +kernel
theorem dX4_shoalX_8 : decode cX4_shoalX 8 = .ok (.aload_n 0, 1) := by decide +kernel
theorem dX4_shoalX_9 : decode cX4_shoalX 9 = .ok (.getfield 19, 3) := by decide +kernel
theorem dX4_shoalX_12 : decode cX4_shoalX 12 = .ok (.iload_n 1, 1) := by decide +kernel
theorem dX4_shoalX_13 : decode cX4_shoalX 13 = .ok (.aaload, 1) := by decide +kernel
theorem dX4_shoalX_14 : decode cX4_shoalX 14 = .ok (.getfield 87, 3) := by decide +kernel
theorem dX4_shoalX_17 : decode cX4_shoalX 17 = .ok (.iload_n 2, 1) := by decide +kernel
theorem dX4_shoalX_18 : decode cX4_shoalX 18 = .ok (.aload_n 0, 1) := by decide +kernel
theorem dX4_shoalX_19 : decode cX4_shoalX 19 = .ok (.getfield 19, 3) := by decide +kernel
theorem dX4_shoalX_22 : decode cX4_shoalX 22 = .ok (.iload_n 1, 1) := by decide +kernel
theorem dX4_shoalX_23 : decode cX4_shoalX 23 = .ok (.aaload, 1) := by decide +kernel
theorem dX4_shoalX_24 : decode cX4_shoalX 24 = .ok (.getfield 93, 3) := by decide +kernel
theorem dX4_shoalX_27 : decode cX4_shoalX 27 = .ok (.imul, 1) := by decide +kernel
theorem dX4_shoalX_28 : decode cX4_shoalX 28 = .ok (.iadd, 1) := by decide +kernel
theorem dX4_shoalX_29 : decode cX4_shoalX 29 = .ok (.goto 4, 3) := by decide +kernel
theorem dX4_shoalX_32 : decode cX4_shoalX 32 = .ok (.iconst (-1), 1) := by decide +kernel
theorem dX4_shoalX_33 : decode cX4_shoalX 33 = .ok (.ireturn, 1) := by decide +kernel
theorem dX4_shoalY_0 : decode cX4_shoalY 0 = .ok (.aload_n 0, 1) := by decide +kernel
theorem dX4_shoalY_1 : decode cX4_shoalY 1 = .ok (.iload_n 1, 1) := by decide +kernel
theorem dX4_shoalY_2 : decode cX4_shoalY 2 = .ok (.invokevirtual 115, 3) := by decide +kernel
theorem dX4_shoalY_5 : decode cX4_shoalY 5 = .ok (.ifCond .eq 27, 3) := by decide +kernel
theorem dX4_shoalY_8 : decode cX4_shoalY 8 = .ok (.aload_n 0, 1) := by decide +kernel
theorem dX4_shoalY_9 : decode cX4_shoalY 9 = .ok (.getfield 19, 3) := by decide +kernel
theorem dX4_shoalY_12 : decode cX4_shoalY 12 = .ok (.iload_n 1, 1) := by decide +kernel
theorem dX4_shoalY_13 : decode cX4_shoalY 13 = .ok (.aaload, 1) := by decide +kernel
theorem dX4_shoalY_14 : decode cX4_shoalY 14 = .ok (.getfield 90, 3) := by decide +kernel
theorem dX4_shoalY_17 : decode cX4_shoalY 17 = .ok (.iload_n 2, 1) := by decide +kernel
theorem dX4_shoalY_18 : decode cX4_shoalY 18 = .ok (.aload_n 0, 1) := by decide +kernel
theorem dX4_shoalY_19 : decode cX4_shoalY 19 = .ok (.getfield 19, 3) := by decide +kernel
theorem dX4_shoalY_22 : decode cX4_shoalY 22 = .ok (.iload_n 1, 1) := by decide +kernel
theorem dX4_shoalY_23 : decode cX4_shoalY 23 = .ok (.aaload, 1) := by decide +kernel
theorem dX4_shoalY_24 : decode cX4_shoalY 24 = .ok (.getfield 96, 3) := by decide +kernel
theorem dX4_shoalY_27 : decode cX4_shoalY 27 = .ok (.imul, 1) := by decide +kernel
theorem dX4_shoalY_28 : decode cX4_shoalY 28 = .ok (.iadd, 1) := by decide +kernel
theorem dX4_shoalY_29 : decode cX4_shoalY 29 = .ok (.goto 4, 3) := by decide +kernel
theorem dX4_shoalY_32 : decode cX4_shoalY 32 = .ok (.iconst (-1), 1) := by decide +kernel
theorem dX4_shoalY_33 : decode cX4_shoalY 33 = .ok (.ireturn, 1) := by decide +kernel
theorem dX4_kiteX_0 : decode cX4_kiteX 0 = .ok (.aload_n 0, 1) := by decide +kernel
theorem dX4_kiteX_1 : decode cX4_kiteX 1 = .ok (.iload_n 1, 1) := by decide +kernel
theorem dX4_kiteX_2 : decode cX4_kiteX 2 = .ok (.invokevirtual 118, 3) := by decide +kernel
theorem dX4_kiteX_5 : decode cX4_kiteX 5 = .ok (.ifCond .eq 37, 3) := by decide +kernel
theorem dX4_kiteX_8 : decode cX4_kiteX 8 = .ok (.aload_n 0, 1) := by decide +kernel
theorem dX4_kiteX_9 : decode cX4_kiteX 9 = .ok (.getfield 11, 3) := by decide +kernel
theorem dX4_kiteX_12 : decode cX4_kiteX 12 = .ok (.iload_n 1, 1) := by decide +kernel
theorem dX4_kiteX_13 : decode cX4_kiteX 13 = .ok (.aaload, 1) := by decide +kernel
theorem dX4_kiteX_14 : decode cX4_kiteX 14 = .ok (.getfield 71, 3) := by decide +kernel
theorem dX4_kiteX_17 : decode cX4_kiteX 17 = .ok (.aload_n 0, 1) := by decide +kernel
theorem dX4_kiteX_18 : decode cX4_kiteX 18 = .ok (.getfield 27, 3) := by decide +kernel
theorem dX4_kiteX_21 : decode cX4_kiteX 21 = .ok (.iload_n 2, 1) := by decide +kernel
theorem dX4_kiteX_22 : decode cX4_kiteX 22 = .ok (.iload_n 3, 1) := by decide +kernel
theorem dX4_kiteX_23 : decode cX4_kiteX 23 = .ok (.invokestatic 121, 3) := by decide +kernel
theorem dX4_kiteX_26 : decode cX4_kiteX 26 = .ok (.aload_n 0, 1) := by decide +kernel
theorem dX4_kiteX_27 : decode cX4_kiteX 27 = .ok (.getfield 11, 3) := by decide +kernel
theorem dX4_kiteX_30 : decode cX4_kiteX 30 = .ok (.iload_n 1, 1) := by decide +kernel
theorem dX4_kiteX_31 : decode cX4_kiteX 31 = .ok (.aaload, 1) := by decide +kernel
theorem dX4_kiteX_32 : decode cX4_kiteX 32 = .ok (.getfield 77, 3) := by decide +kernel
theorem dX4_kiteX_35 : decode cX4_kiteX 35 = .ok (.imul, 1) := by decide +kernel
theorem dX4_kiteX_36 : decode cX4_kiteX 36 = .ok (.iconst 3, 1) := by decide +kernel
theorem dX4_kiteX_37 : decode cX4_kiteX 37 = .ok (.idiv, 1) := by decide +kernel
theorem dX4_kiteX_38 : decode cX4_kiteX 38 = .ok (.iadd, 1) := by decide +kernel
theorem dX4_kiteX_39 : decode cX4_kiteX 39 = .ok (.goto 4, 3) := by decide +kernel
theorem dX4_kiteX_42 : decode cX4_kiteX 42 = .ok (.iconst (-1), 1) := by decide +kernel
theorem dX4_kiteX_43 : decode cX4_kiteX 43 = .ok (.ireturn, 1) := by decide +kernel
theorem dX4_kiteY_0 : decode cX4_kiteY 0 = .ok (.aload_n 0, 1) := by decide +kernel
theorem dX4_kiteY_1 : decode cX4_kiteY 1 = .ok (.iload_n 1, 1) := by decide +kernel
theorem dX4_kiteY_2 : decode cX4_kiteY 2 = .ok (.invokevirtual 118, 3) := by decide +kernel
theorem dX4_kiteY_5 : decode cX4_kiteY 5 = .ok (.ifCond .eq 17, 3) := by decide +kernel
theorem dX4_kiteY_8 : decode cX4_kiteY 8 = .ok (.aload_n 0, 1) := by decide +kernel
theorem dX4_kiteY_9 : decode cX4_kiteY 9 = .ok (.getfield 11, 3) := by decide +kernel
theorem dX4_kiteY_12 : decode cX4_kiteY 12 = .ok (.iload_n 1, 1) := by decide +kernel
theorem dX4_kiteY_13 : decode cX4_kiteY 13 = .ok (.aaload, 1) := by decide +kernel
theorem dX4_kiteY_14 : decode cX4_kiteY 14 = .ok (.getfield 77, 3) := by decide +kernel
theorem dX4_kiteY_17 : decode cX4_kiteY 17 = .ok (.iload_n 2, 1) := by decide +kernel
theorem dX4_kiteY_18 : decode cX4_kiteY 18 = .ok (.isub, 1) := by decide +kernel
theorem dX4_kiteY_19 : decode cX4_kiteY 19 = .ok (.goto 4, 3) := by decide +kernel
theorem dX4_kiteY_22 : decode cX4_kiteY 22 = .ok (.iconst (-1), 1) := by decide +kernel
theorem dX4_kiteY_23 : decode cX4_kiteY 23 = .ok (.ireturn, 1) := by decide +kernel
theorem dX4_isInSea_0 : decode cX4_isInSea 0 = .ok (.aload_n 0, 1) := by decide +kernel
theorem dX4_isInSea_1 : decode cX4_isInSea 1 = .ok (.iload_n 1, 1) := by decide +kernel
theorem dX4_isInSea_2 : decode cX4_isInSea 2 = .ok (.iload_n 2, 1) := by decide +kernel
theorem dX4_isInSea_3 : decode cX4_isInSea 3 = .ok (.iload_n 3, 1) := by decide +kernel
theorem dX4_isInSea_4 : decode cX4_isInSea 4 = .ok (.invokevirtual 125, 3) := by decide +kernel
theorem dX4_isInSea_7 : decode cX4_isInSea 7 = .ok (.istore 4, 2) := by decide +kernel
theorem dX4_isInSea_9 : decode cX4_isInSea 9 = .ok (.aload_n 0, 1) := by decide +kernel
theorem dX4_isInSea_10 : decode cX4_isInSea 10 = .ok (.iload_n 1, 1) := by decide +kernel
theorem dX4_isInSea_11 : decode cX4_isInSea 11 = .ok (.iload_n 2, 1) := by decide +kernel
theorem dX4_isInSea_12 : decode cX4_isInSea 12 = .ok (.invokevirtual 129, 3) := by decide +kernel
theorem dX4_isInSea_15 : decode cX4_isInSea 15 = .ok (.istore 5, 2) := by decide +kernel
theorem dX4_isInSea_17 : decode cX4_isInSea 17 = .ok (.iload 4, 2) := by decide +kernel
theorem dX4_isInSea_19 : decode cX4_isInSea 19 = .ok (.ifCond .lt 27, 3) := by decide +kernel
theorem dX4_isInSea_22 : decode cX4_isInSea 22 = .ok (.iload 4, 2) := by decide +kernel
theorem dX4_isInSea_24 : decode cX4_isInSea 24 = .ok (.bipush 9, 2) := by decide +kernel
theorem dX4_isInSea_26 : decode cX4_isInSea 26 = .ok (.if_icmp .gt 20, 3) := by decide +kernel
theorem dX4_isInSea_29 : decode cX4_isInSea 29 = .ok (.iload 5, 2) := by decide +kernel
theorem dX4_isInSea_31 : decode cX4_isInSea 31 = .ok (.iconst 1, 1) := by decide +kernel
theorem dX4_isInSea_32 : decode cX4_isInSea 32 = .ok (.if_icmp .lt 14, 3) := by decide +kernel
theorem dX4_isInSea_35 : decode cX4_isInSea 35 = .ok (.iload 5, 2) := by decide +kernel
theorem dX4_isInSea_37 : decode cX4_isInSea 37 = .ok (.bipush 6, 2) := by decide +kernel
theorem dX4_isInSea_39 : decode cX4_isInSea 39 = .ok (.if_icmp .gt 7, 3) := by decide +kernel
theorem dX4_isInSea_42 : decode cX4_isInSea 42 = .ok (.iconst 1, 1) := by decide +kernel
theorem dX4_isInSea_43 : decode cX4_isInSea 43 = .ok (.goto 4, 3) := by decide +kernel
theorem dX4_isInSea_46 : decode cX4_isInSea 46 = .ok (.iconst 0, 1) := by decide +kernel
theorem dX4_isInSea_47 : decode cX4_isInSea 47 = .ok (.ireturn, 1) := by decide +kernel
theorem dX4_hasLift_0 : decode cX4_hasLift 0 = .ok (.aload_n 0, 1) := by decide +kernel
theorem dX4_hasLift_1 : decode cX4_hasLift 1 = .ok (.iload_n 1, 1) := by decide +kernel
theorem dX4_hasLift_2 : decode cX4_hasLift 2 = .ok (.invokevirtual 118, 3) := by decide +kernel
theorem dX4_hasLift_5 : decode cX4_hasLift 5 = .ok (.ifCond .eq 38, 3) := by decide +kernel
theorem dX4_hasLift_8 : decode cX4_hasLift 8 = .ok (.aload_n 0, 1) := by decide +kernel
theorem dX4_hasLift_9 : decode cX4_hasLift 9 = .ok (.getfield 11, 3) := by decide +kernel
theorem dX4_hasLift_12 : decode cX4_hasLift 12 = .ok (.iload_n 1, 1) := by decide +kernel
theorem dX4_hasLift_13 : decode cX4_hasLift 13 = .ok (.aaload, 1) := by decide +kernel
theorem dX4_hasLift_14 : decode cX4_hasLift 14 = .ok (.getfield 74, 3) := by decide +kernel
theorem dX4_hasLift_17 : decode cX4_hasLift 17 = .ok (.aload_n 0, 1) := by decide +kernel
theorem dX4_hasLift_18 : decode cX4_hasLift 18 = .ok (.getfield 23, 3) := by decide +kernel
theorem dX4_hasLift_21 : decode cX4_hasLift 21 = .ok (.iload_n 2, 1) := by decide +kernel
theorem dX4_hasLift_22 : decode cX4_hasLift 22 = .ok (.iload_n 3, 1) := by decide +kernel
theorem dX4_hasLift_23 : decode cX4_hasLift 23 = .ok (.invokestatic 121, 3) := by decide +kernel
theorem dX4_hasLift_26 : decode cX4_hasLift 26 = .ok (.imul, 1) := by decide +kernel
theorem dX4_hasLift_27 : decode cX4_hasLift 27 = .ok (.aload_n 0, 1) := by decide +kernel
theorem dX4_hasLift_28 : decode cX4_hasLift 28 = .ok (.getfield 11, 3) := by decide +kernel
theorem dX4_hasLift_31 : decode cX4_hasLift 31 = .ok (.iload_n 1, 1) := by decide +kernel
theorem dX4_hasLift_32 : decode cX4_hasLift 32 = .ok (.aaload, 1) := by decide +kernel
theorem dX4_hasLift_33 : decode cX4_hasLift 33 = .ok (.getfield 80, 3) := by decide +kernel
theorem dX4_hasLift_36 : decode cX4_hasLift 36 = .ok (.if_icmp .lt 7, 3) := by decide +kernel
theorem dX4_hasLift_39 : decode cX4_hasLift 39 = .ok (.iconst 1, 1) := by decide +kernel
theorem dX4_hasLift_40 : decode cX4_hasLift 40 = .ok (.goto 4, 3) := by decide +kernel
theorem dX4_hasLift_43 : decode cX4_hasLift 43 = .ok (.iconst 0, 1) := by decide +kernel
theorem dX4_hasLift_44 : decode cX4_hasLift 44 = .ok (.ireturn, 1) := by decide +kernel
theorem dX4_wouldCross_0 : decode cX4_wouldCross 0 = .ok (.aload_n 0, 1) := by decide +kernel
theorem dX4_wouldCross_1 : decode cX4_wouldCross 1 = .ok (.iload_n 1, 1) := by decide +kernel
theorem dX4_wouldCross_2 : decode cX4_wouldCross 2 = .ok (.invokevirtual 118, 3) := by decide +kernel
theorem dX4_wouldCross_5 : decode cX4_wouldCross 5 = .ok (.ifCond .eq 11, 3) := by decide +kernel
theorem dX4_wouldCross_8 : decode cX4_wouldCross 8 = .ok (.aload_n 0, 1) := by decide +kernel
theorem dX4_wouldCross_9 : decode cX4_wouldCross 9 = .ok (.iload_n 2, 1) := by decide +kernel
theorem dX4_wouldCross_10 : decode cX4_wouldCross 10 = .ok (.invokevirtual 118, 3) := by decide +kernel
theorem dX4_wouldCross_13 : decode cX4_wouldCross 13 = .ok (.ifCond .ne 5, 3) := by decide +kernel
theorem dX4_wouldCross_16 : decode cX4_wouldCross 16 = .ok (.iconst 0, 1) := by decide +kernel
theorem dX4_wouldCross_17 : decode cX4_wouldCross 17 = .ok (.ireturn, 1) := by decide +kernel
theorem dX4_wouldCross_18 : decode cX4_wouldCross 18 = .ok (.aload_n 0, 1) := by decide +kernel
theorem dX4_wouldCross_19 : decode cX4_wouldCross 19 = .ok (.getfield 11, 3) := by decide +kernel
theorem dX4_wouldCross_22 : decode cX4_wouldCross 22 = .ok (.iload_n 1, 1) := by decide +kernel
theorem dX4_wouldCross_23 : decode cX4_wouldCross 23 = .ok (.aaload, 1) := by decide +kernel
theorem dX4_wouldCross_24 : decode cX4_wouldCross 24 = .ok (.getfield 71, 3) := by decide +kernel
theorem dX4_wouldCross_27 : decode cX4_wouldCross 27 = .ok (.aload_n 0, 1) := by decide +kernel
theorem dX4_wouldCross_28 : decode cX4_wouldCross 28 = .ok (.getfield 11, 3) := by decide +kernel
theorem dX4_wouldCross_31 : decode cX4_wouldCross 31 = .ok (.iload_n 2, 1) := by decide +kernel
theorem dX4_wouldCross_32 : decode cX4_wouldCross 32 = .ok (.aaload, 1) := by decide +kernel
theorem dX4_wouldCross_33 : decode cX4_wouldCross 33 = .ok (.getfield 71, 3) := by decide +kernel
theorem dX4_wouldCross_36 : decode cX4_wouldCross 36 = .ok (.isub, 1) := by decide +kernel
theorem dX4_wouldCross_37 : decode cX4_wouldCross 37 = .ok (.istore 5, 2) := by decide +kernel
theorem dX4_wouldCross_39 : decode cX4_wouldCross 39 = .ok (.aload_n 0, 1) := by decide +kernel
theorem dX4_wouldCross_40 : decode cX4_wouldCross 40 = .ok (.iload_n 1, 1) := by decide +kernel
theorem dX4_wouldCross_41 : decode cX4_wouldCross 41 = .ok (.iload_n 3, 1) := by decide +kernel
theorem dX4_wouldCross_42 : decode cX4_wouldCross 42 = .ok (.iload 4, 2) := by decide +kernel
theorem dX4_wouldCross_44 : decode cX4_wouldCross 44 = .ok (.invokevirtual 125, 3) := by decide +kernel
theorem dX4_wouldCross_47 : decode cX4_wouldCross 47 = .ok (.aload_n 0, 1) := by decide +kernel
theorem dX4_wouldCross_48 : decode cX4_wouldCross 48 = .ok (.iload_n 2, 1) := by decide +kernel
theorem dX4_wouldCross_49 : decode cX4_wouldCross 49 = .ok (.iload_n 3, 1) := by decide +kernel
theorem dX4_wouldCross_50 : decode cX4_wouldCross 50 = .ok (.iload 4, 2) := by decide +kernel
theorem dX4_wouldCross_52 : decode cX4_wouldCross 52 = .ok (.invokevirtual 125, 3) := by decide +kernel
theorem dX4_wouldCross_55 : decode cX4_wouldCross 55 = .ok (.isub, 1) := by decide +kernel
theorem dX4_wouldCross_56 : decode cX4_wouldCross 56 = .ok (.istore 6, 2) := by decide +kernel
theorem dX4_wouldCross_58 : decode cX4_wouldCross 58 = .ok (.iload 5, 2) := by decide +kernel
theorem dX4_wouldCross_60 : decode cX4_wouldCross 60 = .ok (.ifCond .ne 5, 3) := by decide +kernel
theorem dX4_wouldCross_63 : decode cX4_wouldCross 63 = .ok (.iconst 1, 1) := by decide +kernel
theorem dX4_wouldCross_64 : decode cX4_wouldCross 64 = .ok (.ireturn, 1) := by decide +kernel
theorem dX4_wouldCross_65 : decode cX4_wouldCross 65 = .ok (.iload 5, 2) := by decide +kernel
theorem dX4_wouldCross_67 : decode cX4_wouldCross 67 = .ok (.ifCond .ge 16, 3) := by decide +kernel
theorem dX4_wouldCross_70 : decode cX4_wouldCross 70 = .ok (.iload 6, 2) := by decide +kernel
theorem dX4_wouldCross_72 : decode cX4_wouldCross 72 = .ok (.ifCond .lt 7, 3) := by decide +kernel
theorem dX4_wouldCross_75 : decode cX4_wouldCross 75 = .ok (.iconst 1, 1) := by decide +kernel
theorem dX4_wouldCross_76 : decode cX4_wouldCross 76 = .ok (.goto 17, 3) := by decide +kernel
theorem dX4_wouldCross_79 : decode cX4_wouldCross 79 = .ok (.iconst 0, 1) := by decide +kernel
theorem dX4_wouldCross_80 : decode cX4_wouldCross 80 = .ok (.goto 13, 3) := by decide +kernel
theorem dX4_wouldCross_83 : decode cX4_wouldCross 83 = .ok (.iload 6, 2) := by decide +kernel
theorem dX4_wouldCross_85 : decode cX4_wouldCross 85 = .ok (.ifCond .gt 7, 3) := by decide +kernel
theorem dX4_wouldCross_88 : decode cX4_wouldCross 88 = .ok (.iconst 1, 1) := by decide +kernel
theorem dX4_wouldCross_89 : decode cX4_wouldCross 89 = .ok (.goto 4, 3) := by decide +kernel
theorem dX4_wouldCross_92 : decode cX4_wouldCross 92 = .ok (.iconst 0, 1) := by decide +kernel
theorem dX4_wouldCross_93 : decode cX4_wouldCross 93 = .ok (.ireturn, 1) := by decide +kernel
theorem dX4_givingWay_0 : decode cX4_givingWay 0 = .ok (.aload_n 0, 1) := by decide +kernel
theorem dX4_givingWay_1 : decode cX4_givingWay 1 = .ok (.iload_n 1, 1) := by decide +kernel
theorem dX4_givingWay_2 : decode cX4_givingWay 2 = .ok (.invokevirtual 118, 3) := by decide +kernel
theorem dX4_givingWay_5 : decode cX4_givingWay 5 = .ok (.ifCond .eq 11, 3) := by decide +kernel
theorem dX4_givingWay_8 : decode cX4_givingWay 8 = .ok (.aload_n 0, 1) := by decide +kernel
theorem dX4_givingWay_9 : decode cX4_givingWay 9 = .ok (.iload_n 2, 1) := by decide +kernel
theorem dX4_givingWay_10 : decode cX4_givingWay 10 = .ok (.invokevirtual 118, 3) := by decide +kernel
theorem dX4_givingWay_13 : decode cX4_givingWay 13 = .ok (.ifCond .ne 5, 3) := by decide +kernel
theorem dX4_givingWay_16 : decode cX4_givingWay 16 = .ok (.iload_n 2, 1) := by decide +kernel
theorem dX4_givingWay_17 : decode cX4_givingWay 17 = .ok (.ireturn, 1) := by decide +kernel
theorem dX4_givingWay_18 : decode cX4_givingWay 18 = .ok (.aload_n 0, 1) := by decide +kernel
theorem dX4_givingWay_19 : decode cX4_givingWay 19 = .ok (.getfield 11, 3) := by decide +kernel
theorem dX4_givingWay_22 : decode cX4_givingWay 22 = .ok (.iload_n 1, 1) := by decide +kernel
theorem dX4_givingWay_23 : decode cX4_givingWay 23 = .ok (.aaload, 1) := by decide +kernel
theorem dX4_givingWay_24 : decode cX4_givingWay 24 = .ok (.getfield 74, 3) := by decide +kernel
theorem dX4_givingWay_27 : decode cX4_givingWay 27 = .ok (.aload_n 0, 1) := by decide +kernel
theorem dX4_givingWay_28 : decode cX4_givingWay 28 = .ok (.getfield 11, 3) := by decide +kernel
theorem dX4_givingWay_31 : decode cX4_givingWay 31 = .ok (.iload_n 2, 1) := by decide +kernel
theorem dX4_givingWay_32 : decode cX4_givingWay 32 = .ok (.aaload, 1) := by decide +kernel
theorem dX4_givingWay_33 : decode cX4_givingWay 33 = .ok (.getfield 74, 3) := by decide +kernel
theorem dX4_givingWay_36 : decode cX4_givingWay 36 = .ok (.if_icmp .ge 7, 3) := by decide +kernel
theorem dX4_givingWay_39 : decode cX4_givingWay 39 = .ok (.iconst 1, 1) := by decide +kernel
theorem dX4_givingWay_40 : decode cX4_givingWay 40 = .ok (.goto 4, 3) := by decide +kernel
theorem dX4_givingWay_43 : decode cX4_givingWay 43 = .ok (.iconst 0, 1) := by decide +kernel
theorem dX4_givingWay_44 : decode cX4_givingWay 44 = .ok (.istore 4, 2) := by decide +kernel
theorem dX4_givingWay_46 : decode cX4_givingWay 46 = .ok (.aload_n 0, 1) := by decide +kernel
theorem dX4_givingWay_47 : decode cX4_givingWay 47 = .ok (.getfield 11, 3) := by decide +kernel
theorem dX4_givingWay_50 : decode cX4_givingWay 50 = .ok (.iload_n 1, 1) := by decide +kernel
theorem dX4_givingWay_51 : decode cX4_givingWay 51 = .ok (.aaload, 1) := by decide +kernel
theorem dX4_givingWay_52 : decode cX4_givingWay 52 = .ok (.getfield 83, 3) := by decide +kernel
theorem dX4_givingWay_55 : decode cX4_givingWay 55 = .ok (.aload_n 0, 1) := by decide +kernel
theorem dX4_givingWay_56 : decode cX4_givingWay 56 = .ok (.getfield 11, 3) := by decide +kernel
theorem dX4_givingWay_59 : decode cX4_givingWay 59 = .ok (.iload_n 2, 1) := by decide +kernel
theorem dX4_givingWay_60 : decode cX4_givingWay 60 = .ok (.aaload, 1) := by decide +kernel
theorem dX4_givingWay_61 : decode cX4_givingWay 61 = .ok (.getfield 83, 3) := by decide +kernel
theorem dX4_givingWay_64 : decode cX4_givingWay 64 = .ok (.if_icmp .le 7, 3) := by decide +kernel
theorem dX4_givingWay_67 : decode cX4_givingWay 67 = .ok (.iconst 1, 1) := by decide +kernel
theorem dX4_givingWay_68 : decode cX4_givingWay 68 = .ok (.goto 4, 3) := by decide +kernel
theorem dX4_givingWay_71 : decode cX4_givingWay 71 = .ok (.iconst 0, 1) := by decide +kernel
theorem dX4_givingWay_72 : decode cX4_givingWay 72 = .ok (.istore 5, 2) := by decide +kernel
theorem dX4_givingWay_74 : decode cX4_givingWay 74 = .ok (.iload_n 3, 1) := by decide +kernel
theorem dX4_givingWay_75 : decode cX4_givingWay 75 = .ok (.ifCond .ne 8, 3) := by decide +kernel
theorem dX4_givingWay_78 : decode cX4_givingWay 78 = .ok (.iload 4, 2) := by decide +kernel
theorem dX4_givingWay_80 : decode cX4_givingWay 80 = .ok (.ifCond .ne 13, 3) := by decide +kernel
theorem dX4_givingWay_83 : decode cX4_givingWay 83 = .ok (.iload_n 3, 1) := by decide +kernel
theorem dX4_givingWay_84 : decode cX4_givingWay 84 = .ok (.iconst 1, 1) := by decide +kernel
theorem dX4_givingWay_85 : decode cX4_givingWay 85 = .ok (.if_icmp .ne 12, 3) := by decide +kernel
theorem dX4_givingWay_88 : decode cX4_givingWay 88 = .ok (.iload 5, 2) := by decide +kernel
theorem dX4_givingWay_90 : decode cX4_givingWay 90 = .ok (.ifCond .eq 7, 3) := by decide +kernel
theorem dX4_givingWay_93 : decode cX4_givingWay 93 = .ok (.iconst 1, 1) := by decide +kernel
theorem dX4_givingWay_94 : decode cX4_givingWay 94 = .ok (.goto 4, 3) := by decide +kernel
theorem dX4_givingWay_97 : decode cX4_givingWay 97 = .ok (.iconst 0, 1) := by decide +kernel
theorem dX4_givingWay_98 : decode cX4_givingWay 98 = .ok (.istore 6, 2) := by decide +kernel
theorem dX4_givingWay_100 : decode cX4_givingWay 100 = .ok (.iload 6, 2) := by decide +kernel
theorem dX4_givingWay_102 : decode cX4_givingWay 102 = .ok (.ifCond .eq 7, 3) := by decide +kernel
theorem dX4_givingWay_105 : decode cX4_givingWay 105 = .ok (.iload_n 1, 1) := by decide +kernel
theorem dX4_givingWay_106 : decode cX4_givingWay 106 = .ok (.goto 4, 3) := by decide +kernel
theorem dX4_givingWay_109 : decode cX4_givingWay 109 = .ok (.iload_n 2, 1) := by decide +kernel
theorem dX4_givingWay_110 : decode cX4_givingWay 110 = .ok (.ireturn, 1) := by decide +kernel
theorem dX4_afterGulls_0 : decode cX4_afterGulls 0 = .ok (.aload_n 0, 1) := by decide +kernel
theorem dX4_afterGulls_1 : decode cX4_afterGulls 1 = .ok (.getfield 53, 3) := by decide +kernel
theorem dX4_afterGulls_4 : decode cX4_afterGulls 4 = .ok (.ifCond .le 14, 3) := by decide +kernel
theorem dX4_afterGulls_7 : decode cX4_afterGulls 7 = .ok (.iload_n 1, 1) := by decide +kernel
theorem dX4_afterGulls_8 : decode cX4_afterGulls 8 = .ok (.iload_n 1, 1) := by decide +kernel
theorem dX4_afterGulls_9 : decode cX4_afterGulls 9 = .ok (.aload_n 0, 1) := by decide +kernel
theorem dX4_afterGulls_10 : decode cX4_afterGulls 10 = .ok (.getfield 53, 3) := by decide +kernel
theorem dX4_afterGulls_13 : decode cX4_afterGulls 13 = .ok (.idiv, 1) := by decide +kernel
theorem dX4_afterGulls_14 : decode cX4_afterGulls 14 = .ok (.isub, 1) := by decide +kernel
theorem dX4_afterGulls_15 : decode cX4_afterGulls 15 = .ok (.goto 4, 3) := by decide +kernel
theorem dX4_afterGulls_18 : decode cX4_afterGulls 18 = .ok (.iload_n 1, 1) := by decide +kernel
theorem dX4_afterGulls_19 : decode cX4_afterGulls 19 = .ok (.ireturn, 1) := by decide +kernel
theorem dX4_shareOf_0 : decode cX4_shareOf 0 = .ok (.iconst 0, 1) := by decide +kernel
theorem dX4_shareOf_1 : decode cX4_shareOf 1 = .ok (.istore_n 3, 1) := by decide +kernel
theorem dX4_shareOf_2 : decode cX4_shareOf 2 = .ok (.iconst 0, 1) := by decide +kernel
theorem dX4_shareOf_3 : decode cX4_shareOf 3 = .ok (.istore 4, 2) := by decide +kernel
theorem dX4_shareOf_5 : decode cX4_shareOf 5 = .ok (.iload 4, 2) := by decide +kernel
theorem dX4_shareOf_7 : decode cX4_shareOf 7 = .ok (.bipush 6, 2) := by decide +kernel
theorem dX4_shareOf_9 : decode cX4_shareOf 9 = .ok (.if_icmp .ge 35, 3) := by decide +kernel
theorem dX4_shareOf_12 : decode cX4_shareOf 12 = .ok (.iload_n 3, 1) := by decide +kernel
theorem dX4_shareOf_13 : decode cX4_shareOf 13 = .ok (.aload_n 0, 1) := by decide +kernel
theorem dX4_shareOf_14 : decode cX4_shareOf 14 = .ok (.iload 4, 2) := by decide +kernel
theorem dX4_shareOf_16 : decode cX4_shareOf 16 = .ok (.invokevirtual 118, 3) := by decide +kernel
theorem dX4_shareOf_19 : decode cX4_shareOf 19 = .ok (.ifCond .eq 16, 3) := by decide +kernel
theorem dX4_shareOf_22 : decode cX4_shareOf 22 = .ok (.aload_n 0, 1) := by decide +kernel
theorem dX4_shareOf_23 : decode cX4_shareOf 23 = .ok (.getfield 11, 3) := by decide +kernel
theorem dX4_shareOf_26 : decode cX4_shareOf 26 = .ok (.iload 4, 2) := by decide +kernel
theorem dX4_shareOf_28 : decode cX4_shareOf 28 = .ok (.aaload, 1) := by decide +kernel
theorem dX4_shareOf_29 : decode cX4_shareOf 29 = .ok (.getfield 77, 3) := by decide +kernel
theorem dX4_shareOf_32 : decode cX4_shareOf 32 = .ok (.goto 4, 3) := by decide +kernel
theorem dX4_shareOf_35 : decode cX4_shareOf 35 = .ok (.iconst 0, 1) := by decide +kernel
theorem dX4_shareOf_36 : decode cX4_shareOf 36 = .ok (.iadd, 1) := by decide +kernel
theorem dX4_shareOf_37 : decode cX4_shareOf 37 = .ok (.istore_n 3, 1) := by decide +kernel
theorem dX4_shareOf_38 : decode cX4_shareOf 38 = .ok (.iinc 4 1, 3) := by decide +kernel
theorem dX4_shareOf_41 : decode cX4_shareOf 41 = .ok (.goto (-36), 3) := by decide +kernel
theorem dX4_shareOf_44 : decode cX4_shareOf 44 = .ok (.iload_n 3, 1) := by decide +kernel
theorem dX4_shareOf_45 : decode cX4_shareOf 45 = .ok (.ifCond .le 11, 3) := by decide +kernel
theorem dX4_shareOf_48 : decode cX4_shareOf 48 = .ok (.aload_n 0, 1) := by decide +kernel
theorem dX4_shareOf_49 : decode cX4_shareOf 49 = .ok (.iload_n 2, 1) := by decide +kernel
theorem dX4_shareOf_50 : decode cX4_shareOf 50 = .ok (.invokevirtual 118, 3) := by decide +kernel
theorem dX4_shareOf_53 : decode cX4_shareOf 53 = .ok (.ifCond .ne 5, 3) := by decide +kernel
theorem dX4_shareOf_56 : decode cX4_shareOf 56 = .ok (.iconst 0, 1) := by decide +kernel
theorem dX4_shareOf_57 : decode cX4_shareOf 57 = .ok (.ireturn, 1) := by decide +kernel
theorem dX4_shareOf_58 : decode cX4_shareOf 58 = .ok (.iload_n 1, 1) := by decide +kernel
theorem dX4_shareOf_59 : decode cX4_shareOf 59 = .ok (.aload_n 0, 1) := by decide +kernel
theorem dX4_shareOf_60 : decode cX4_shareOf 60 = .ok (.getfield 11, 3) := by decide +kernel
theorem dX4_shareOf_63 : decode cX4_shareOf 63 = .ok (.iload_n 2, 1) := by decide +kernel
theorem dX4_shareOf_64 : decode cX4_shareOf 64 = .ok (.aaload, 1) := by decide +kernel
theorem dX4_shareOf_65 : decode cX4_shareOf 65 = .ok (.getfield 77, 3) := by decide +kernel
theorem dX4_shareOf_68 : decode cX4_shareOf 68 = .ok (.imul, 1) := by decide +kernel
theorem dX4_shareOf_69 : decode cX4_shareOf 69 = .ok (.iload_n 3, 1) := by decide +kernel
theorem dX4_shareOf_70 : decode cX4_shareOf 70 = .ok (.irem, 1) := by decide +kernel
theorem dX4_shareOf_71 : decode cX4_shareOf 71 = .ok (.istore 4, 2) := by decide +kernel
theorem dX4_shareOf_73 : decode cX4_shareOf 73 = .ok (.iload_n 1, 1) := by decide +kernel
theorem dX4_shareOf_74 : decode cX4_shareOf 74 = .ok (.istore 5, 2) := by decide +kernel
theorem dX4_shareOf_76 : decode cX4_shareOf 76 = .ok (.iconst 0, 1) := by decide +kernel
theorem dX4_shareOf_77 : decode cX4_shareOf 77 = .ok (.istore 6, 2) := by decide +kernel
theorem dX4_shareOf_79 : decode cX4_shareOf 79 = .ok (.iconst 0, 1) := by decide +kernel
theorem dX4_shareOf_80 : decode cX4_shareOf 80 = .ok (.istore 7, 2) := by decide +kernel
theorem dX4_shareOf_82 : decode cX4_shareOf 82 = .ok (.iload 7, 2) := by decide +kernel
theorem dX4_shareOf_84 : decode cX4_shareOf 84 = .ok (.bipush 6, 2) := by decide +kernel
theorem dX4_shareOf_86 : decode cX4_shareOf 86 = .ok (.if_icmp .ge 83, 3) := by decide +kernel
theorem dX4_shareOf_89 : decode cX4_shareOf 89 = .ok (.aload_n 0, 1) := by decide +kernel
theorem dX4_shareOf_90 : decode cX4_shareOf 90 = .ok (.iload 7, 2) := by decide +kernel
theorem dX4_shareOf_92 : decode cX4_shareOf 92 = .ok (.invokevirtual 118, 3) := by decide +kernel
theorem dX4_shareOf_95 : decode cX4_shareOf 95 = .ok (.ifCond .eq 68, 3) := by decide +kernel
theorem dX4_shareOf_98 : decode cX4_shareOf 98 = .ok (.iload_n 1, 1) := by decide +kernel
theorem dX4_shareOf_99 : decode cX4_shareOf 99 = .ok (.aload_n 0, 1) := by decide +kernel
theorem dX4_shareOf_100 : decode cX4_shareOf 100 = .ok (.getfield 11, 3) := by decide +kernel
theorem dX4_shareOf_103 : decode cX4_shareOf 103 = .ok (.iload 7, 2) := by decide +kernel
theorem dX4_shareOf_105 : decode cX4_shareOf 105 = .ok (.aaload, 1) := by decide +kernel
theorem dX4_shareOf_106 : decode cX4_shareOf 106 = .ok (.getfield 77, 3) := by decide +kernel
theorem dX4_shareOf_109 : decode cX4_shareOf 109 = .ok (.imul, 1) := by decide +kernel
theorem dX4_shareOf_110 : decode cX4_shareOf 110 = .ok (.iload_n 3, 1) := by decide +kernel
theorem dX4_shareOf_111 : decode cX4_shareOf 111 = .ok (.irem, 1) := by decide +kernel
theorem dX4_shareOf_112 : decode cX4_shareOf 112 = .ok (.istore 8, 2) := by decide +kernel
theorem dX4_shareOf_114 : decode cX4_shareOf 114 = .ok (.iload 5, 2) := by decide +kernel
theorem dX4_shareOf_116 : decode cX4_shareOf 116 = .ok (.iload_n 1, 1) := by decide +kernel
theorem dX4_shareOf_117 : decode cX4_shareOf 117 = .ok (.aload_n 0, 1) := by decide +kernel
theorem dX4_shareOf_118 : decode cX4_shareOf 118 = .ok (.getfield 11, 3) := by decide +kernel
theorem dX4_shareOf_121 : decode cX4_shareOf 121 = .ok (.iload 7, 2) := by decide +kernel
theorem dX4_shareOf_123 : decode cX4_shareOf 123 = .ok (.aaload, 1) := by decide +kernel
theorem dX4_shareOf_124 : decode cX4_shareOf 124 = .ok (.getfield 77, 3) := by decide +kernel
theorem dX4_shareOf_127 : decode cX4_shareOf 127 = .ok (.imul, 1) := by decide +kernel
theorem dX4_shareOf_128 : decode cX4_shareOf 128 = .ok (.iload_n 3, 1) := by decide +kernel
theorem dX4_shareOf_129 : decode cX4_shareOf 129 = .ok (.idiv, 1) := by decide +kernel
theorem dX4_shareOf_130 : decode cX4_shareOf 130 = .ok (.isub, 1) := by decide +kernel
theorem dX4_shareOf_131 : decode cX4_shareOf 131 = .ok (.istore 5, 2) := by decide +kernel
theorem dX4_shareOf_133 : decode cX4_shareOf 133 = .ok (.iload 6, 2) := by decide +kernel
theorem dX4_shareOf_135 : decode cX4_shareOf 135 = .ok (.iload 8, 2) := by decide +kernel
theorem dX4_shareOf_137 : decode cX4_shareOf 137 = .ok (.iload 4, 2) := by decide +kernel
theorem dX4_shareOf_139 : decode cX4_shareOf 139 = .ok (.if_icmp .gt 16, 3) := by decide +kernel
theorem dX4_shareOf_142 : decode cX4_shareOf 142 = .ok (.iload 8, 2) := by decide +kernel
theorem dX4_shareOf_144 : decode cX4_shareOf 144 = .ok (.iload 4, 2) := by decide +kernel
theorem dX4_shareOf_146 : decode cX4_shareOf 146 = .ok (.if_icmp .ne 13, 3) := by decide +kernel
theorem dX4_shareOf_149 : decode cX4_shareOf 149 = .ok (.iload 7, 2) := by decide +kernel
theorem dX4_shareOf_151 : decode cX4_shareOf 151 = .ok (.iload_n 2, 1) := by decide +kernel
theorem dX4_shareOf_152 : decode cX4_shareOf 152 = .ok (.if_icmp .ge 7, 3) := by decide +kernel
theorem dX4_shareOf_155 : decode cX4_shareOf 155 = .ok (.iconst 1, 1) := by decide +kernel
theorem dX4_shareOf_156 : decode cX4_shareOf 156 = .ok (.goto 4, 3) := by decide +kernel
theorem dX4_shareOf_159 : decode cX4_shareOf 159 = .ok (.iconst 0, 1) := by decide +kernel
theorem dX4_shareOf_160 : decode cX4_shareOf 160 = .ok (.iadd, 1) := by decide +kernel
theorem dX4_shareOf_161 : decode cX4_shareOf 161 = .ok (.istore 6, 2) := by decide +kernel
theorem dX4_shareOf_163 : decode cX4_shareOf 163 = .ok (.iinc 7 1, 3) := by decide +kernel
theorem dX4_shareOf_166 : decode cX4_shareOf 166 = .ok (.goto (-84), 3) := by decide +kernel
theorem dX4_shareOf_169 : decode cX4_shareOf 169 = .ok (.iload_n 1, 1) := by decide +kernel
theorem dX4_shareOf_170 : decode cX4_shareOf 170 = .ok (.aload_n 0, 1) := by decide +kernel
theorem dX4_shareOf_171 : decode cX4_shareOf 171 = .ok (.getfield 11, 3) := by decide +kernel
theorem dX4_shareOf_174 : decode cX4_shareOf 174 = .ok (.iload_n 2, 1) := by decide +kernel
theorem dX4_shareOf_175 : decode cX4_shareOf 175 = .ok (.aaload, 1) := by decide +kernel
theorem dX4_shareOf_176 : decode cX4_shareOf 176 = .ok (.getfield 77, 3) := by decide +kernel
theorem dX4_shareOf_179 : decode cX4_shareOf 179 = .ok (.imul, 1) := by decide +kernel
theorem dX4_shareOf_180 : decode cX4_shareOf 180 = .ok (.iload_n 3, 1) := by decide +kernel
theorem dX4_shareOf_181 : decode cX4_shareOf 181 = .ok (.idiv, 1) := by decide +kernel
theorem dX4_shareOf_182 : decode cX4_shareOf 182 = .ok (.iload 6, 2) := by decide +kernel
theorem dX4_shareOf_184 : decode cX4_shareOf 184 = .ok (.iload 5, 2) := by decide +kernel
theorem dX4_shareOf_186 : decode cX4_shareOf 186 = .ok (.if_icmp .ge 7, 3) := by decide +kernel
theorem dX4_shareOf_189 : decode cX4_shareOf 189 = .ok (.iconst 1, 1) := by decide +kernel
theorem dX4_shareOf_190 : decode cX4_shareOf 190 = .ok (.goto 4, 3) := by decide +kernel
theorem dX4_shareOf_193 : decode cX4_shareOf 193 = .ok (.iconst 0, 1) := by decide +kernel
theorem dX4_shareOf_194 : decode cX4_shareOf 194 = .ok (.iadd, 1) := by decide +kernel
theorem dX4_shareOf_195 : decode cX4_shareOf 195 = .ok (.ireturn, 1) := by decide +kernel
theorem dX5_init_0 : decode cX5_init 0 = .ok (.aload_n 0, 1) := by decide +kernel
theorem dX5_init_1 : decode cX5_init 1 = .ok (.invokespecial 3, 3) := by decide +kernel
theorem dX5_init_4 : decode cX5_init 4 = .ok (.aload_n 0, 1) := by decide +kernel
theorem dX5_init_5 : decode cX5_init 5 = .ok (.bipush 24, 2) := by decide +kernel
theorem dX5_init_7 : decode cX5_init 7 = .ok (.newarray .int, 2) := by decide +kernel
theorem dX5_init_9 : decode cX5_init 9 = .ok (.putfield 9, 3) := by decide +kernel
theorem dX5_init_12 : decode cX5_init 12 = .ok (.aload_n 0, 1) := by decide +kernel
theorem dX5_init_13 : decode cX5_init 13 = .ok (.bipush 7, 2) := by decide +kernel
theorem dX5_init_15 : decode cX5_init 15 = .ok (.newarray .int, 2) := by decide +kernel
theorem dX5_init_17 : decode cX5_init 17 = .ok (.putfield 15, 3) := by decide +kernel
theorem dX5_init_20 : decode cX5_init 20 = .ok (.return_, 1) := by decide +kernel
theorem dX5_forget_0 : decode cX5_forget 0 = .ok (.aload_n 0, 1) := by decide +kernel
theorem dX5_forget_1 : decode cX5_forget 1 = .ok (.iconst 0, 1) := by decide +kernel
theorem dX5_forget_2 : decode cX5_forget 2 = .ok (.putfield 18, 3) := by decide +kernel
theorem dX5_forget_5 : decode cX5_forget 5 = .ok (.return_, 1) := by decide +kernel
theorem dX5_heightOf_0 : decode cX5_heightOf 0 = .ok (.aload_n 0, 1) := by decide +kernel
theorem dX5_heightOf_1 : decode cX5_heightOf 1 = .ok (.getfield 22, 3) := by decide +kernel
theorem dX5_heightOf_4 : decode cX5_heightOf 4 = .ok (.iload_n 1, 1) := by decide +kernel
theorem dX5_heightOf_5 : decode cX5_heightOf 5 = .ok (.invokestatic 26, 3) := by decide +kernel
theorem dX5_heightOf_8 : decode cX5_heightOf 8 = .ok (.ireturn, 1) := by decide +kernel
theorem dX5_heightIn_0 : decode cX5_heightIn 0 = .ok (.iload_n 1, 1) := by decide +kernel
theorem dX5_heightIn_1 : decode cX5_heightIn 1 = .ok (.ifCond .lt 20, 3) := by decide +kernel
theorem dX5_heightIn_4 : decode cX5_heightIn 4 = .ok (.iload_n 1, 1) := by decide +kernel
theorem dX5_heightIn_5 : decode cX5_heightIn 5 = .ok (.bipush 6, 2) := by decide +kernel
theorem dX5_heightIn_7 : decode cX5_heightIn 7 = .ok (.if_icmp .ge 14, 3) := by decide +kernel
theorem dX5_heightIn_10 : decode cX5_heightIn 10 = .ok (.iload_n 0, 1) := by decide +kernel
theorem dX5_heightIn_11 : decode cX5_heightIn 11 = .ok (.iload_n 1, 1) := by decide +kernel
theorem dX5_heightIn_12 : decode cX5_heightIn 12 = .ok (.invokestatic 30, 3) := by decide +kernel
theorem dX5_heightIn_15 : decode cX5_heightIn 15 = .ok (.ishr, 1) := by decide +kernel
theorem dX5_heightIn_16 : decode cX5_heightIn 16 = .ok (.iconst 3, 1) := by decide +kernel
theorem dX5_heightIn_17 : decode cX5_heightIn 17 = .ok (.iand, 1) := by decide +kernel
theorem dX5_heightIn_18 : decode cX5_heightIn 18 = .ok (.goto 4, 3) := by decide +kernel
theorem dX5_heightIn_21 : decode cX5_heightIn 21 = .ok (.iconst 0, 1) := by decide +kernel
theorem dX5_heightIn_22 : decode cX5_heightIn 22 = .ok (.ireturn, 1) := by decide +kernel
theorem dX5_shiftOf_0 : decode cX5_shiftOf 0 = .ok (.iconst 2, 1) := by decide +kernel
theorem dX5_shiftOf_1 : decode cX5_shiftOf 1 = .ok (.iconst 5, 1) := by decide +kernel
theorem dX5_shiftOf_2 : decode cX5_shiftOf 2 = .ok (.iload_n 0, 1) := by decide +kernel
theorem dX5_shiftOf_3 : decode cX5_shiftOf 3 = .ok (.isub, 1) := by decide +kernel
theorem dX5_shiftOf_4 : decode cX5_shiftOf 4 = .ok (.imul, 1) := by decide +kernel
theorem dX5_shiftOf_5 : decode cX5_shiftOf 5 = .ok (.ireturn, 1) := by decide +kernel
theorem dX5_find_0 : decode cX5_find 0 = .ok (.aload_n 0, 1) := by decide +kernel
theorem dX5_find_1 : decode cX5_find 1 = .ok (.getfield 18, 3) := by decide +kernel
theorem dX5_find_4 : decode cX5_find 4 = .ok (.ifCond .eq 4, 3) := by decide +kernel
theorem dX5_find_7 : decode cX5_find 7 = .ok (.return_, 1) := by decide +kernel
theorem dX5_find_8 : decode cX5_find 8 = .ok (.aload_n 0, 1) := by decide +kernel
theorem dX5_find_9 : decode cX5_find 9 = .ok (.aload_n 1, 1) := by decide +kernel
theorem dX5_find_10 : decode cX5_find 10 = .ok (.iload_n 2, 1) := by decide +kernel
theorem dX5_find_11 : decode cX5_find 11 = .ok (.aload 4, 2) := by decide +kernel
theorem dX5_find_13 : decode cX5_find 13 = .ok (.aload 5, 2) := by decide +kernel
theorem dX5_find_15 : decode cX5_find 15 = .ok (.invokevirtual 34, 3) := by decide +kernel
theorem dX5_find_18 : decode cX5_find 18 = .ok (.aload_n 0, 1) := by decide +kernel
theorem dX5_find_19 : decode cX5_find 19 = .ok (.iconst (-1), 1) := by decide +kernel
theorem dX5_find_20 : decode cX5_find 20 = .ok (.putfield 38, 3) := by decide +kernel
theorem dX5_find_23 : decode cX5_find 23 = .ok (.iconst 0, 1) := by decide +kernel
theorem dX5_find_24 : decode cX5_find 24 = .ok (.istore 6, 2) := by decide +kernel
theorem dX5_find_26 : decode cX5_find 26 = .ok (.iconst 0, 1) := by decide +kernel
theorem dX5_find_27 : decode cX5_find 27 = .ok (.istore 7, 2) := by decide +kernel
theorem dX5_find_29 : decode cX5_find 29 = .ok (.iload 7, 2) := by decide +kernel
theorem dX5_find_31 : decode cX5_find 31 = .ok (.sipush 4096, 3) := by decide +kernel
theorem dX5_find_34 : decode cX5_find 34 = .ok (.if_icmp .ge 69, 3) := by decide +kernel
theorem dX5_find_37 : decode cX5_find 37 = .ok (.iload 6, 2) := by decide +kernel
theorem dX5_find_39 : decode cX5_find 39 = .ok (.sipush 4096, 3) := by decide +kernel
theorem dX5_find_42 : decode cX5_find 42 = .ok (.if_icmp .ge 61, 3) := by decide +kernel
theorem dX5_find_45 : decode cX5_find 45 = .ok (.aload_n 0, 1) := by decide +kernel
theorem dX5_find_46 : decode cX5_find 46 = .ok (.iload 6, 2) := by decide +kernel
theorem dX5_find_48 : decode cX5_find 48 = .ok (.invokevirtual 41, 3) := by decide +kernel
theorem dX5_find_51 : decode cX5_find 51 = .ok (.istore 8, 2) := by decide +kernel
theorem dX5_find_53 : decode cX5_find 53 = .ok (.iload 8, 2) := by decide +kernel
theorem dX5_find_55 : decode cX5_find 55 = .ok (.bipush 6, 2) := by decide +kernel
theorem dX5_find_57 : decode cX5_find 57 = .ok (.if_icmp .ge 24, 3) := by decide +kernel
theorem dX5_find_60 : decode cX5_find 60 = .ok (.iload 6, 2) := by decide +kernel
theorem dX5_find_62 : decode cX5_find 62 = .ok (.iload 8, 2) := by decide +kernel
theorem dX5_find_64 : decode cX5_find 64 = .ok (.invokestatic 30, 3) := by decide +kernel
theorem dX5_find_67 : decode cX5_find 67 = .ok (.ishr, 1) := by decide +kernel
theorem dX5_find_68 : decode cX5_find 68 = .ok (.iconst 1, 1) := by decide +kernel
theorem dX5_find_69 : decode cX5_find 69 = .ok (.iadd, 1) := by decide +kernel
theorem dX5_find_70 : decode cX5_find 70 = .ok (.iload 8, 2) := by decide +kernel
theorem dX5_find_72 : decode cX5_find 72 = .ok (.invokestatic 30, 3) := by decide +kernel
theorem dX5_find_75 : decode cX5_find 75 = .ok (.ishl, 1) := by decide +kernel
theorem dX5_find_76 : decode cX5_find 76 = .ok (.istore 6, 2) := by decide +kernel
theorem dX5_find_78 : decode cX5_find 78 = .ok (.goto 19, 3) := by decide +kernel
theorem dX5_find_81 : decode cX5_find 81 = .ok (.aload_n 0, 1) := by decide +kernel
theorem dX5_find_82 : decode cX5_find 82 = .ok (.iload 6, 2) := by decide +kernel
theorem dX5_find_84 : decode cX5_find 84 = .ok (.aload_n 1, 1) := by decide +kernel
theorem dX5_find_85 : decode cX5_find 85 = .ok (.iload_n 2, 1) := by decide +kernel
theorem dX5_find_86 : decode cX5_find 86 = .ok (.aload_n 3, 1) := by decide +kernel
theorem dX5_find_87 : decode cX5_find 87 = .ok (.aload 4, 2) := by decide +kernel
theorem dX5_find_89 : decode cX5_find 89 = .ok (.aload 5, 2) := by decide +kernel
theorem dX5_find_91 : decode cX5_find 91 = .ok (.invokevirtual 44, 3) := by decide +kernel
theorem dX5_find_94 : decode cX5_find 94 = .ok (.iinc 6 1, 3) := by decide +kernel
theorem dX5_find_97 : decode cX5_find 97 = .ok (.iinc 7 1, 3) := by decide +kernel
theorem dX5_find_100 : decode cX5_find 100 = .ok (.goto (-71), 3) := by decide +kernel
theorem dX5_find_103 : decode cX5_find 103 = .ok (.aload_n 0, 1) := by decide +kernel
theorem dX5_find_104 : decode cX5_find 104 = .ok (.iconst 1, 1) := by decide +kernel
theorem dX5_find_105 : decode cX5_find 105 = .ok (.putfield 18, 3) := by decide +kernel
theorem dX5_find_108 : decode cX5_find 108 = .ok (.return_, 1) := by decide +kernel
theorem dX5_tryPlan_0 : decode cX5_tryPlan 0 = .ok (.aload 4, 2) := by decide +kernel
theorem dX5_tryPlan_2 : decode cX5_tryPlan 2 = .ok (.aload_n 2, 1) := by decide +kernel
theorem dX5_tryPlan_3 : decode cX5_tryPlan 3 = .ok (.invokevirtual 48, 3) := by decide +kernel
theorem dX5_tryPlan_6 : decode cX5_tryPlan 6 = .ok (.iconst 0, 1) := by decide +kernel
theorem dX5_tryPlan_7 : decode cX5_tryPlan 7 = .ok (.istore 7, 2) := by decide +kernel
theorem dX5_tryPlan_9 : decode cX5_tryPlan 9 = .ok (.iload 7, 2) := by decide +kernel
theorem dX5_tryPlan_11 : decode cX5_tryPlan 11 = .ok (.bipush 6, 2) := by decide +kernel
theorem dX5_tryPlan_13 : decode cX5_tryPlan 13 = .ok (.if_icmp .ge 23, 3) := by decide +kernel
theorem dX5_tryPlan_16 : decode cX5_tryPlan 16 = .ok (.aload 4, 2) := by decide +kernel
theorem dX5_tryPlan_18 : decode cX5_tryPlan 18 = .ok (.getfield 54, 3) := by decide +kernel
theorem dX5_tryPlan_21 : decode cX5_tryPlan 21 = .ok (.iload 7, 2) := by decide +kernel
theorem dX5_tryPlan_23 : decode cX5_tryPlan 23 = .ok (.iload_n 1, 1) := by decide +kernel
theorem dX5_tryPlan_24 : decode cX5_tryPlan 24 = .ok (.iload 7, 2) := by decide +kernel
theorem dX5_tryPlan_26 : decode cX5_tryPlan 26 = .ok (.invokestatic 26, 3) := by decide +kernel
theorem dX5_tryPlan_29 : decode cX5_tryPlan 29 = .ok (.iastore, 1) := by decide +kernel
theorem dX5_tryPlan_30 : decode cX5_tryPlan 30 = .ok (.iinc 7 1, 3) := by decide +kernel
theorem dX5_tryPlan_33 : decode cX5_tryPlan 33 = .ok (.goto (-24), 3) := by decide +kernel
theorem dX5_tryPlan_36 : decode cX5_tryPlan 36 = .ok (.aload 4, 2) := by decide +kernel
theorem dX5_tryPlan_38 : decode cX5_tryPlan 38 = .ok (.iload_n 3, 1) := by decide +kernel
theorem dX5_tryPlan_39 : decode cX5_tryPlan 39 = .ok (.aload 5, 2) := by decide +kernel
theorem dX5_tryPlan_41 : decode cX5_tryPlan 41 = .ok (.aload 6, 2) := by decide +kernel
theorem dX5_tryPlan_43 : decode cX5_tryPlan 43 = .ok (.aload 5, 2) := by decide +kernel
theorem dX5_tryPlan_45 : decode cX5_tryPlan 45 = .ok (.getfield 57, 3) := by decide +kernel
theorem dX5_tryPlan_48 : decode cX5_tryPlan 48 = .ok (.invokevirtual 62, 3) := by decide +kernel
theorem dX5_tryPlan_51 : decode cX5_tryPlan 51 = .ok (.aload 4, 2) := by decide +kernel
theorem dX5_tryPlan_53 : decode cX5_tryPlan 53 = .ok (.getfield 66, 3) := by decide +kernel
theorem dX5_tryPlan_56 : decode cX5_tryPlan 56 = .ok (.aload_n 0, 1) := by decide +kernel
theorem dX5_tryPlan_57 : decode cX5_tryPlan 57 = .ok (.getfield 38, 3) := by decide +kernel
theorem dX5_tryPlan_60 : decode cX5_tryPlan 60 = .ok (.if_icmp .le 17, 3) := by decide +kernel
theorem dX5_tryPlan_63 : decode cX5_tryPlan 63 = .ok (.aload_n 0, 1) := by decide +kernel
theorem dX5_tryPlan_64 : decode cX5_tryPlan 64 = .ok (.aload 4, 2) := by decide +kernel
theorem dX5_tryPlan_66 : decode cX5_tryPlan 66 = .ok (.getfield 66, 3) := by decide +kernel
theorem dX5_tryPlan_69 : decode cX5_tryPlan 69 = .ok (.putfield 38, 3) := by decide +kernel
theorem dX5_tryPlan_72 : decode cX5_tryPlan 72 = .ok (.aload_n 0, 1) := by decide +kernel
theorem dX5_tryPlan_73 : decode cX5_tryPlan 73 = .ok (.iload_n 1, 1) := by decide +kernel
theorem dX5_tryPlan_74 : decode cX5_tryPlan 74 = .ok (.putfield 22, 3) := by decide +kernel
theorem dX5_tryPlan_77 : decode cX5_tryPlan 77 = .ok (.return_, 1) := by decide +kernel
theorem dX5_firstHopeless_0 : decode cX5_firstHopeless 0 = .ok (.iconst 0, 1) := by decide +kernel
theorem dX5_firstHopeless_1 : decode cX5_firstHopeless 1 = .ok (.istore_n 2, 1) := by decide +kernel
theorem dX5_firstHopeless_2 : decode cX5_firstHopeless 2 = .ok (.iconst 0, 1) := by decide +kernel
theorem dX5_firstHopeless_3 : decode cX5_firstHopeless 3 = .ok (.istore_n 3, 1) := by decide +kernel
theorem dX5_firstHopeless_4 : decode cX5_firstHopeless 4 = .ok (.iload_n 3, 1) := by decide +kernel
theorem dX5_firstHopeless_5 : decode cX5_firstHopeless 5 = .ok (.bipush 6, 2) := by decide +kernel
theorem dX5_firstHopeless_7 : decode cX5_firstHopeless 7 = .ok (.if_icmp .ge 55, 3) := by decide +kernel
theorem dX5_firstHopeless_10 : decode cX5_firstHopeless 10 = .ok (.aload_n 0, 1) := by decide +kernel
theorem dX5_firstHopeless_11 : decode cX5_firstHopeless 11 = .ok (.getfield 9, 3) := by decide +kernel
theorem dX5_firstHopeless_14 : decode cX5_firstHopeless 14 = .ok (.iload_n 3, 1) := by decide +kernel
theorem dX5_firstHopeless_15 : decode cX5_firstHopeless 15 = .ok (.iconst 4, 1) := by decide +kernel
theorem dX5_firstHopeless_16 : decode cX5_firstHopeless 16 = .ok (.imul, 1) := by decide +kernel
theorem dX5_firstHopeless_17 : decode cX5_firstHopeless 17 = .ok (.iload_n 1, 1) := by decide +kernel
theorem dX5_firstHopeless_18 : decode cX5_firstHopeless 18 = .ok (.iload_n 3, 1) := by decide +kernel
theorem dX5_firstHopeless_19 : decode cX5_firstHopeless 19 = .ok (.invokestatic 26, 3) := by decide +kernel
theorem dX5_firstHopeless_22 : decode cX5_firstHopeless 22 = .ok (.iadd, 1) := by decide +kernel
theorem dX5_firstHopeless_23 : decode cX5_firstHopeless 23 = .ok (.iaload, 1) := by decide +kernel
theorem dX5_firstHopeless_24 : decode cX5_firstHopeless 24 = .ok (.istore 4, 2) := by decide +kernel
theorem dX5_firstHopeless_26 : decode cX5_firstHopeless 26 = .ok (.iload_n 2, 1) := by decide +kernel
theorem dX5_firstHopeless_27 : decode cX5_firstHopeless 27 = .ok (.iload 4, 2) := by decide +kernel
theorem dX5_firstHopeless_29 : decode cX5_firstHopeless 29 = .ok (.iadd, 1) := by decide +kernel
theorem dX5_firstHopeless_30 : decode cX5_firstHopeless 30 = .ok (.istore_n 2, 1) := by decide +kernel
theorem dX5_firstHopeless_31 : decode cX5_firstHopeless 31 = .ok (.iload 4, 2) := by decide +kernel
theorem dX5_firstHopeless_33 : decode cX5_firstHopeless 33 = .ok (.iconst (-1), 1) := by decide +kernel
theorem dX5_firstHopeless_34 : decode cX5_firstHopeless 34 = .ok (.if_icmp .eq 20, 3) := by decide +kernel
theorem dX5_firstHopeless_37 : decode cX5_firstHopeless 37 = .ok (.iload_n 2, 1) := by decide +kernel
theorem dX5_firstHopeless_38 : decode cX5_firstHopeless 38 = .ok (.aload_n 0, 1) := by decide +kernel
theorem dX5_firstHopeless_39 : decode cX5_firstHopeless 39 = .ok (.getfield 15, 3) := by decide +kernel
theorem dX5_firstHopeless_42 : decode cX5_firstHopeless 42 = .ok (.iload_n 3, 1) := by decide +kernel
theorem dX5_firstHopeless_43 : decode cX5_firstHopeless 43 = .ok (.iconst 1, 1) := by decide +kernel
theorem dX5_firstHopeless_44 : decode cX5_firstHopeless 44 = .ok (.iadd, 1) := by decide +kernel
theorem dX5_firstHopeless_45 : decode cX5_firstHopeless 45 = .ok (.iaload, 1) := by decide +kernel
theorem dX5_firstHopeless_46 : decode cX5_firstHopeless 46 = .ok (.iadd, 1) := by decide +kernel
theorem dX5_firstHopeless_47 : decode cX5_firstHopeless 47 = .ok (.aload_n 0, 1) := by decide +kernel
theorem dX5_firstHopeless_48 : decode cX5_firstHopeless 48 = .ok (.getfield 38, 3) := by decide +kernel
theorem dX5_firstHopeless_51 : decode cX5_firstHopeless 51 = .ok (.if_icmp .gt 5, 3) := by decide +kernel
theorem dX5_firstHopeless_54 : decode cX5_firstHopeless 54 = .ok (.iload_n 3, 1) := by decide +kernel
theorem dX5_firstHopeless_55 : decode cX5_firstHopeless 55 = .ok (.ireturn, 1) := by decide +kernel
theorem dX5_firstHopeless_56 : decode cX5_firstHopeless 56 = .ok (.iinc 3 1, 3) := by decide +kernel
theorem dX5_firstHopeless_59 : decode cX5_firstHopeless 59 = .ok (.goto (-55), 3) := by decide +kernel
theorem dX5_firstHopeless_62 : decode cX5_firstHopeless 62 = .ok (.bipush 6, 2) := by decide +kernel
theorem dX5_firstHopeless_64 : decode cX5_firstHopeless 64 = .ok (.ireturn, 1) := by decide +kernel
theorem dX5_setBounds_0 : decode cX5_setBounds 0 = .ok (.aload_n 0, 1) := by decide +kernel
theorem dX5_setBounds_1 : decode cX5_setBounds 1 = .ok (.getfield 15, 3) := by decide +kernel
theorem dX5_setBounds_4 : decode cX5_setBounds 4 = .ok (.bipush 6, 2) := by decide +kernel
theorem dX5_setBounds_6 : decode cX5_setBounds 6 = .ok (.iconst 0, 1) := by decide +kernel
theorem dX5_setBounds_7 : decode cX5_setBounds 7 = .ok (.iastore, 1) := by decide +kernel
theorem dX5_setBounds_8 : decode cX5_setBounds 8 = .ok (.iconst 5, 1) := by decide +kernel
theorem dX5_setBounds_9 : decode cX5_setBounds 9 = .ok (.istore 5, 2) := by decide +kernel
theorem dX5_setBounds_11 : decode cX5_setBounds 11 = .ok (.iload 5, 2) := by decide +kernel
theorem dX5_setBounds_13 : decode cX5_setBounds 13 = .ok (.ifCond .lt 93, 3) := by decide +kernel
theorem dX5_setBounds_16 : decode cX5_setBounds 16 = .ok (.iconst 0, 1) := by decide +kernel
theorem dX5_setBounds_17 : decode cX5_setBounds 17 = .ok (.istore 6, 2) := by decide +kernel
theorem dX5_setBounds_19 : decode cX5_setBounds 19 = .ok (.aload_n 0, 1) := by decide +kernel
theorem dX5_setBounds_20 : decode cX5_setBounds 20 = .ok (.getfield 9, 3) := by decide +kernel
theorem dX5_setBounds_23 : decode cX5_setBounds 23 = .ok (.iload 5, 2) := by decide +kernel
theorem dX5_setBounds_25 : decode cX5_setBounds 25 = .ok (.iconst 4, 1) := by decide +kernel
theorem dX5_setBounds_26 : decode cX5_setBounds 26 = .ok (.imul, 1) := by decide +kernel
theorem dX5_setBounds_27 : decode cX5_setBounds 27 = .ok (.iconst 0, 1) := by decide +kernel
theorem dX5_setBounds_28 : decode cX5_setBounds 28 = .ok (.iastore, 1) := by decide +kernel
theorem dX5_setBounds_29 : decode cX5_setBounds 29 = .ok (.iconst 1, 1) := by decide +kernel
theorem dX5_setBounds_30 : decode cX5_setBounds 30 = .ok (.istore 7, 2) := by decide +kernel
theorem dX5_setBounds_32 : decode cX5_setBounds 32 = .ok (.iload 7, 2) := by decide +kernel
theorem dX5_setBounds_34 : decode cX5_setBounds 34 = .ok (.iconst 4, 1) := by decide +kernel
theorem dX5_setBounds_35 : decode cX5_setBounds 35 = .ok (.if_icmp .ge 46, 3) := by decide +kernel
theorem dX5_setBounds_38 : decode cX5_setBounds 38 = .ok (.iload 5, 2) := by decide +kernel
theorem dX5_setBounds_40 : decode cX5_setBounds 40 = .ok (.iload 7, 2) := by decide +kernel
theorem dX5_setBounds_42 : decode cX5_setBounds 42 = .ok (.aload_n 1, 1) := by decide +kernel
theorem dX5_setBounds_43 : decode cX5_setBounds 43 = .ok (.iload_n 2, 1) := by decide +kernel
theorem dX5_setBounds_44 : decode cX5_setBounds 44 = .ok (.aload_n 3, 1) := by decide +kernel
theorem dX5_setBounds_45 : decode cX5_setBounds 45 = .ok (.aload 4, 2) := by decide +kernel
theorem dX5_setBounds_47 : decode cX5_setBounds 47 = .ok (.invokestatic 69, 3) := by decide +kernel
theorem dX5_setBounds_50 : decode cX5_setBounds 50 = .ok (.istore 8, 2) := by decide +kernel
theorem dX5_setBounds_52 : decode cX5_setBounds 52 = .ok (.aload_n 0, 1) := by decide +kernel
theorem dX5_setBounds_53 : decode cX5_setBounds 53 = .ok (.getfield 9, 3) := by decide +kernel
theorem dX5_setBounds_56 : decode cX5_setBounds 56 = .ok (.iload 5, 2) := by decide +kernel
theorem dX5_setBounds_58 : decode cX5_setBounds 58 = .ok (.iconst 4, 1) := by decide +kernel
theorem dX5_setBounds_59 : decode cX5_setBounds 59 = .ok (.imul, 1) := by decide +kernel
theorem dX5_setBounds_60 : decode cX5_setBounds 60 = .ok (.iload 7, 2) := by decide +kernel
theorem dX5_setBounds_62 : decode cX5_setBounds 62 = .ok (.iadd, 1) := by decide +kernel
theorem dX5_setBounds_63 : decode cX5_setBounds 63 = .ok (.iload 8, 2) := by decide +kernel
theorem dX5_setBounds_65 : decode cX5_setBounds 65 = .ok (.iastore, 1) := by decide +kernel
theorem dX5_setBounds_66 : decode cX5_setBounds 66 = .ok (.iload 6, 2) := by decide +kernel
theorem dX5_setBounds_68 : decode cX5_setBounds 68 = .ok (.iload 8, 2) := by decide +kernel
theorem dX5_setBounds_70 : decode cX5_setBounds 70 = .ok (.invokestatic 73, 3) := by decide +kernel
theorem dX5_setBounds_73 : decode cX5_setBounds 73 = .ok (.istore 6, 2) := by decide +kernel
theorem dX5_setBounds_75 : decode cX5_setBounds 75 = .ok (.iinc 7 1, 3) := by decide +kernel
theorem dX5_setBounds_78 : decode cX5_setBounds 78 = .ok (.goto (-46), 3) := by decide +kernel
theorem dX5_setBounds_81 : decode cX5_setBounds 81 = .ok (.aload_n 0, 1) := by decide +kernel
theorem dX5_setBounds_82 : decode cX5_setBounds 82 = .ok (.getfield 15, 3) := by decide +kernel
theorem dX5_setBounds_85 : decode cX5_setBounds 85 = .ok (.iload 5, 2) := by decide +kernel
theorem dX5_setBounds_87 : decode cX5_setBounds 87 = .ok (.aload_n 0, 1) := by decide +kernel
theorem dX5_setBounds_88 : decode cX5_setBounds 88 = .ok (.getfield 15, 3) := by decide +kernel
theorem dX5_setBounds_91 : decode cX5_setBounds 91 = .ok (.iload 5, 2) := by decide +kernel
theorem dX5_setBounds_93 : decode cX5_setBounds 93 = .ok (.iconst 1, 1) := by decide +kernel
theorem dX5_setBounds_94 : decode cX5_setBounds 94 = .ok (.iadd, 1) := by decide +kernel
theorem dX5_setBounds_95 : decode cX5_setBounds 95 = .ok (.iaload, 1) := by decide +kernel
theorem dX5_setBounds_96 : decode cX5_setBounds 96 = .ok (.iload 6, 2) := by decide +kernel
theorem dX5_setBounds_98 : decode cX5_setBounds 98 = .ok (.iadd, 1) := by decide +kernel
theorem dX5_setBounds_99 : decode cX5_setBounds 99 = .ok (.iastore, 1) := by decide +kernel
theorem dX5_setBounds_100 : decode cX5_setBounds 100 = .ok (.iinc 5 (-1), 3) := by decide +kernel
theorem dX5_setBounds_103 : decode cX5_setBounds 103 = .ok (.goto (-92), 3) := by decide +kernel
theorem dX5_setBounds_106 : decode cX5_setBounds 106 = .ok (.return_, 1) := by decide +kernel
theorem dX5_boundOf_0 : decode cX5_boundOf 0 = .ok (.aload_n 2, 1) := by decide +kernel
theorem dX5_boundOf_1 : decode cX5_boundOf 1 = .ok (.getfield 78, 3) := by decide +kernel
theorem dX5_boundOf_4 : decode cX5_boundOf 4 = .ok (.iload_n 0, 1) := by decide +kernel
theorem dX5_boundOf_5 : decode cX5_boundOf 5 = .ok (.invokestatic 81, 3) := by decide +kernel
theorem dX5_boundOf_8 : decode cX5_boundOf 8 = .ok (.istore 6, 2) := by decide +kernel
theorem dX5_boundOf_10 : decode cX5_boundOf 10 = .ok (.iconst 0, 1) := by decide +kernel
theorem dX5_boundOf_11 : decode cX5_boundOf 11 = .ok (.istore 7, 2) := by decide +kernel
theorem dX5_boundOf_13 : decode cX5_boundOf 13 = .ok (.iconst 0, 1) := by decide +kernel
theorem dX5_boundOf_14 : decode cX5_boundOf 14 = .ok (.istore 8, 2) := by decide +kernel
theorem dX5_boundOf_16 : decode cX5_boundOf 16 = .ok (.iconst 0, 1) := by decide +kernel
theorem dX5_boundOf_17 : decode cX5_boundOf 17 = .ok (.istore 9, 2) := by decide +kernel
theorem dX5_boundOf_19 : decode cX5_boundOf 19 = .ok (.iconst 3, 1) := by decide +kernel
theorem dX5_boundOf_20 : decode cX5_boundOf 20 = .ok (.aload 4, 2) := by decide +kernel
theorem dX5_boundOf_22 : decode cX5_boundOf 22 = .ok (.getfield 85, 3) := by decide +kernel
theorem dX5_boundOf_25 : decode cX5_boundOf 25 = .ok (.iload_n 0, 1) := by decide +kernel
theorem dX5_boundOf_26 : decode cX5_boundOf 26 = .ok (.aaload, 1) := by decide +kernel
theorem dX5_boundOf_27 : decode cX5_boundOf 27 = .ok (.getfield 89, 3) := by decide +kernel
theorem dX5_boundOf_30 : decode cX5_boundOf 30 = .ok (.imul, 1) := by decide +kernel
theorem dX5_boundOf_31 : decode cX5_boundOf 31 = .ok (.istore 10, 2) := by decide +kernel
theorem dX5_boundOf_33 : decode cX5_boundOf 33 = .ok (.iconst 0, 1) := by decide +kernel
theorem dX5_boundOf_34 : decode cX5_boundOf 34 = .ok (.istore 11, 2) := by decide +kernel
theorem dX5_boundOf_36 : decode cX5_boundOf 36 = .ok (.iload 11, 2) := by decide +kernel
theorem dX5_boundOf_38 : decode cX5_boundOf 38 = .ok (.iload_n 3, 1) := by decide +kernel
theorem dX5_boundOf_39 : decode cX5_boundOf 39 = .ok (.if_icmp .ge 129, 3) := by decide +kernel
theorem dX5_boundOf_42 : decode cX5_boundOf 42 = .ok (.aload_n 2, 1) := by decide +kernel
theorem dX5_boundOf_43 : decode cX5_boundOf 43 = .ok (.getfield 94, 3) := by decide +kernel
theorem dX5_boundOf_46 : decode cX5_boundOf 46 = .ok (.iload 11, 2) := by decide +kernel
theorem dX5_boundOf_48 : decode cX5_boundOf 48 = .ok (.iadd, 1) := by decide +kernel
theorem dX5_boundOf_49 : decode cX5_boundOf 49 = .ok (.bipush 12, 2) := by decide +kernel
theorem dX5_boundOf_51 : decode cX5_boundOf 51 = .ok (.if_icmp .ge 117, 3) := by decide +kernel
theorem dX5_boundOf_54 : decode cX5_boundOf 54 = .ok (.aload_n 2, 1) := by decide +kernel
theorem dX5_boundOf_55 : decode cX5_boundOf 55 = .ok (.getfield 94, 3) := by decide +kernel
theorem dX5_boundOf_58 : decode cX5_boundOf 58 = .ok (.iload 11, 2) := by decide +kernel
theorem dX5_boundOf_60 : decode cX5_boundOf 60 = .ok (.iadd, 1) := by decide +kernel
theorem dX5_boundOf_61 : decode cX5_boundOf 61 = .ok (.istore 12, 2) := by decide +kernel
theorem dX5_boundOf_63 : decode cX5_boundOf 63 = .ok (.aload 5, 2) := by decide +kernel
theorem dX5_boundOf_65 : decode cX5_boundOf 65 = .ok (.iload_n 0, 1) := by decide +kernel
theorem dX5_boundOf_66 : decode cX5_boundOf 66 = .ok (.iload_n 1, 1) := by decide +kernel
theorem dX5_boundOf_67 : decode cX5_boundOf 67 = .ok (.iload 12, 2) := by decide +kernel
theorem dX5_boundOf_69 : decode cX5_boundOf 69 = .ok (.invokevirtual 97, 3) := by decide +kernel
theorem dX5_boundOf_72 : decode cX5_boundOf 72 = .ok (.ifCond .eq 40, 3) := by decide +kernel
theorem dX5_boundOf_75 : decode cX5_boundOf 75 = .ok (.iload 6, 2) := by decide +kernel
theorem dX5_boundOf_77 : decode cX5_boundOf 77 = .ok (.ifCond .ne 13, 3) := by decide +kernel
theorem dX5_boundOf_80 : decode cX5_boundOf 80 = .ok (.aload 4, 2) := by decide +kernel
theorem dX5_boundOf_82 : decode cX5_boundOf 82 = .ok (.iload 12, 2) := by decide +kernel
theorem dX5_boundOf_84 : decode cX5_boundOf 84 = .ok (.invokevirtual 103, 3) := by decide +kernel
theorem dX5_boundOf_87 : decode cX5_boundOf 87 = .ok (.ifCond .ne 25, 3) := by decide +kernel
theorem dX5_boundOf_90 : decode cX5_boundOf 90 = .ok (.aload 4, 2) := by decide +kernel
theorem dX5_boundOf_92 : decode cX5_boundOf 92 = .ok (.getfield 85, 3) := by decide +kernel
theorem dX5_boundOf_95 : decode cX5_boundOf 95 = .ok (.iload_n 0, 1) := by decide +kernel
theorem dX5_boundOf_96 : decode cX5_boundOf 96 = .ok (.aaload, 1) := by decide +kernel
theorem dX5_boundOf_97 : decode cX5_boundOf 97 = .ok (.getfield 107, 3) := by decide +kernel
theorem dX5_boundOf_100 : decode cX5_boundOf 100 = .ok (.aload 4, 2) := by decide +kernel
theorem dX5_boundOf_102 : decode cX5_boundOf 102 = .ok (.getfield 110, 3) := by decide +kernel
theorem dX5_boundOf_105 : decode cX5_boundOf 105 = .ok (.if_icmp .gt 7, 3) := by decide +kernel
theorem dX5_boundOf_108 : decode cX5_boundOf 108 = .ok (.iconst 1, 1) := by decide +kernel
theorem dX5_boundOf_109 : decode cX5_boundOf 109 = .ok (.goto 4, 3) := by decide +kernel
theorem dX5_boundOf_112 : decode cX5_boundOf 112 = .ok (.iconst 0, 1) := by decide +kernel
theorem dX5_boundOf_113 : decode cX5_boundOf 113 = .ok (.istore 6, 2) := by decide +kernel
theorem dX5_boundOf_115 : decode cX5_boundOf 115 = .ok (.iload 6, 2) := by decide +kernel
theorem dX5_boundOf_117 : decode cX5_boundOf 117 = .ok (.ifCond .eq 45, 3) := by decide +kernel
theorem dX5_boundOf_120 : decode cX5_boundOf 120 = .ok (.aload 5, 2) := by decide +kernel
theorem dX5_boundOf_122 : decode cX5_boundOf 122 = .ok (.iload_n 0, 1) := by decide +kernel
theorem dX5_boundOf_123 : decode cX5_boundOf 123 = .ok (.iload_n 1, 1) := by decide +kernel
theorem dX5_boundOf_124 : decode cX5_boundOf 124 = .ok (.iload 12, 2) := by decide +kernel
theorem dX5_boundOf_126 : decode cX5_boundOf 126 = .ok (.invokevirtual 113, 3) := by decide +kernel
theorem dX5_boundOf_129 : decode cX5_boundOf 129 = .ok (.istore 13, 2) := by decide +kernel
theorem dX5_boundOf_131 : decode cX5_boundOf 131 = .ok (.iconst 1, 1) := by decide +kernel
theorem dX5_boundOf_132 : decode cX5_boundOf 132 = .ok (.istore 7, 2) := by decide +kernel
theorem dX5_boundOf_134 : decode cX5_boundOf 134 = .ok (.iload 9, 2) := by decide +kernel
theorem dX5_boundOf_136 : decode cX5_boundOf 136 = .ok (.iload 13, 2) := by decide +kernel
theorem dX5_boundOf_138 : decode cX5_boundOf 138 = .ok (.ior, 1) := by decide +kernel
theorem dX5_boundOf_139 : decode cX5_boundOf 139 = .ok (.istore 9, 2) := by decide +kernel
theorem dX5_boundOf_141 : decode cX5_boundOf 141 = .ok (.iload 8, 2) := by decide +kernel
theorem dX5_boundOf_143 : decode cX5_boundOf 143 = .ok (.aload 4, 2) := by decide +kernel
theorem dX5_boundOf_145 : decode cX5_boundOf 145 = .ok (.aload_n 2, 1) := by decide +kernel
theorem dX5_boundOf_146 : decode cX5_boundOf 146 = .ok (.iload 13, 2) := by decide +kernel
theorem dX5_boundOf_148 : decode cX5_boundOf 148 = .ok (.invokevirtual 117, 3) := by decide +kernel
theorem dX5_boundOf_151 : decode cX5_boundOf 151 = .ok (.iload 10, 2) := by decide +kernel
theorem dX5_boundOf_153 : decode cX5_boundOf 153 = .ok (.invokestatic 120, 3) := by decide +kernel
theorem dX5_boundOf_156 : decode cX5_boundOf 156 = .ok (.invokevirtual 123, 3) := by decide +kernel
theorem dX5_boundOf_159 : decode cX5_boundOf 159 = .ok (.iadd, 1) := by decide +kernel
theorem dX5_boundOf_160 : decode cX5_boundOf 160 = .ok (.istore 8, 2) := by decide +kernel
theorem dX5_boundOf_162 : decode cX5_boundOf 162 = .ok (.iinc 11 1, 3) := by decide +kernel
theorem dX5_boundOf_165 : decode cX5_boundOf 165 = .ok (.goto (-129), 3) := by decide +kernel
theorem dX5_boundOf_168 : decode cX5_boundOf 168 = .ok (.iload 7, 2) := by decide +kernel
theorem dX5_boundOf_170 : decode cX5_boundOf 170 = .ok (.ifCond .eq 17, 3) := by decide +kernel
theorem dX5_boundOf_173 : decode cX5_boundOf 173 = .ok (.iload 8, 2) := by decide +kernel
theorem dX5_boundOf_175 : decode cX5_boundOf 175 = .ok (.aload_n 2, 1) := by decide +kernel
theorem dX5_boundOf_176 : decode cX5_boundOf 176 = .ok (.iload 9, 2) := by decide +kernel
theorem dX5_boundOf_178 : decode cX5_boundOf 178 = .ok (.invokevirtual 117, 3) := by decide +kernel
theorem dX5_boundOf_181 : decode cX5_boundOf 181 = .ok (.invokestatic 120, 3) := by decide +kernel
theorem dX5_boundOf_184 : decode cX5_boundOf 184 = .ok (.goto 4, 3) := by decide +kernel
theorem dX5_boundOf_187 : decode cX5_boundOf 187 = .ok (.iconst (-1), 1) := by decide +kernel
theorem dX5_boundOf_188 : decode cX5_boundOf 188 = .ok (.ireturn, 1) := by decide +kernel
theorem dX6_init_0 : decode cX6_init 0 = .ok (.aload_n 0, 1) := by decide +kernel
theorem dX6_init_1 : decode cX6_init 1 = .ok (.invokespecial 1, 3) := by decide +kernel
theorem dX6_init_4 : decode cX6_init 4 = .ok (.return_, 1) := by decide +kernel
theorem dX7_init_0 : decode cX7_init 0 = .ok (.aload_n 0, 1) := by decide +kernel
theorem dX7_init_1 : decode cX7_init 1 = .ok (.invokespecial 3, 3) := by decide +kernel
theorem dX7_init_4 : decode cX7_init 4 = .ok (.aload_n 0, 1) := by decide +kernel
theorem dX7_init_5 : decode cX7_init 5 = .ok (.sipush 200, 3) := by decide +kernel
theorem dX7_init_8 : decode cX7_init 8 = .ok (.newarray .int, 2) := by decide +kernel
theorem dX7_init_10 : decode cX7_init 10 = .ok (.putfield 9, 3) := by decide +kernel
theorem dX7_init_13 : decode cX7_init 13 = .ok (.aload_n 0, 1) := by decide +kernel
theorem dX7_init_14 : decode cX7_init 14 = .ok (.bipush 6, 2) := by decide +kernel
theorem dX7_init_16 : decode cX7_init 16 = .ok (.newarray .int, 2) := by decide +kernel
theorem dX7_init_18 : decode cX7_init 18 = .ok (.putfield 15, 3) := by decide +kernel
theorem dX7_init_21 : decode cX7_init 21 = .ok (.return_, 1) := by decide +kernel
theorem dX7_hasRoom_0 : decode cX7_hasRoom 0 = .ok (.aload_n 0, 1) := by decide +kernel
theorem dX7_hasRoom_1 : decode cX7_hasRoom 1 = .ok (.getfield 18, 3) := by decide +kernel
theorem dX7_hasRoom_4 : decode cX7_hasRoom 4 = .ok (.iload_n 1, 1) := by decide +kernel
theorem dX7_hasRoom_5 : decode cX7_hasRoom 5 = .ok (.iadd, 1) := by decide +kernel
theorem dX7_hasRoom_6 : decode cX7_hasRoom 6 = .ok (.sipush 200, 3) := by decide +kernel
theorem dX7_hasRoom_9 : decode cX7_hasRoom 9 = .ok (.if_icmp .gt 7, 3) := by decide +kernel
theorem dX7_hasRoom_12 : decode cX7_hasRoom 12 = .ok (.iconst 1, 1) := by decide +kernel
theorem dX7_hasRoom_13 : decode cX7_hasRoom 13 = .ok (.goto 4, 3) := by decide +kernel
theorem dX7_hasRoom_16 : decode cX7_hasRoom 16 = .ok (.iconst 0, 1) := by decide +kernel
theorem dX7_hasRoom_17 : decode cX7_hasRoom 17 = .ok (.ireturn, 1) := by decide +kernel
theorem dX7_append_0 : decode cX7_append 0 = .ok (.iconst 0, 1) := by decide +kernel
theorem dX7_append_1 : decode cX7_append 1 = .ok (.istore 4, 2) := by decide +kernel
theorem dX7_append_3 : decode cX7_append 3 = .ok (.iload 4, 2) := by decide +kernel
theorem dX7_append_5 : decode cX7_append 5 = .ok (.iload_n 3, 1) := by decide +kernel
theorem dX7_append_6 : decode cX7_append 6 = .ok (.if_icmp .ge 50, 3) := by decide +kernel
theorem dX7_append_9 : decode cX7_append 9 = .ok (.aload_n 0, 1) := by decide +kernel
theorem dX7_append_10 : decode cX7_append 10 = .ok (.getfield 18, 3) := by decide +kernel
theorem dX7_append_13 : decode cX7_append 13 = .ok (.sipush 200, 3) := by decide +kernel
theorem dX7_append_16 : decode cX7_append 16 = .ok (.if_icmp .ge 40, 3) := by decide +kernel
theorem dX7_append_19 : decode cX7_append 19 = .ok (.aload_n 0, 1) := by decide +kernel
theorem dX7_append_20 : decode cX7_append 20 = .ok (.getfield 9, 3) := by decide +kernel
theorem dX7_append_23 : decode cX7_append 23 = .ok (.aload_n 0, 1) := by decide +kernel
theorem dX7_append_24 : decode cX7_append 24 = .ok (.getfield 18, 3) := by decide +kernel
theorem dX7_append_27 : decode cX7_append 27 = .ok (.lload_n 1, 1) := by decide +kernel
theorem dX7_append_28 : decode cX7_append 28 = .ok (.bipush 8, 2) := by decide +kernel
theorem dX7_append_30 : decode cX7_append 30 = .ok (.iload 4, 2) := by decide +kernel
theorem dX7_append_32 : decode cX7_append 32 = .ok (.imul, 1) := by decide +kernel
theorem dX7_append_33 : decode cX7_append 33 = .ok (.lshr, 1) := by decide +kernel
theorem dX7_append_34 : decode cX7_append 34 = .ok (.ldc2_w 22, 3) := by decide +kernel
theorem dX7_append_37 : decode cX7_append 37 = .ok (.land, 1) := by decide +kernel
theorem dX7_append_38 : decode cX7_append 38 = .ok (.l2i, 1) := by decide +kernel
theorem dX7_append_39 : decode cX7_append 39 = .ok (.iastore, 1) := by decide +kernel
theorem dX7_append_40 : decode cX7_append 40 = .ok (.aload_n 0, 1) := by decide +kernel
theorem dX7_append_41 : decode cX7_append 41 = .ok (.dup, 1) := by decide +kernel
theorem dX7_append_42 : decode cX7_append 42 = .ok (.getfield 18, 3) := by decide +kernel
theorem dX7_append_45 : decode cX7_append 45 = .ok (.iconst 1, 1) := by decide +kernel
theorem dX7_append_46 : decode cX7_append 46 = .ok (.iadd, 1) := by decide +kernel
theorem dX7_append_47 : decode cX7_append 47 = .ok (.putfield 18, 3) := by decide +kernel
theorem dX7_append_50 : decode cX7_append 50 = .ok (.iinc 4 1, 3) := by decide +kernel
theorem dX7_append_53 : decode cX7_append 53 = .ok (.goto (-50), 3) := by decide +kernel
theorem dX7_append_56 : decode cX7_append 56 = .ok (.return_, 1) := by decide +kernel
theorem dX7_readInto_0 : decode cX7_readInto 0 = .ok (.aload_n 0, 1) := by decide +kernel
theorem dX7_readInto_1 : decode cX7_readInto 1 = .ok (.iconst 0, 1) := by decide +kernel
theorem dX7_readInto_2 : decode cX7_readInto 2 = .ok (.putfield 24, 3) := by decide +kernel
theorem dX7_readInto_5 : decode cX7_readInto 5 = .ok (.aload_n 0, 1) := by decide +kernel
theorem dX7_readInto_6 : decode cX7_readInto 6 = .ok (.iconst 0, 1) := by decide +kernel
theorem dX7_readInto_7 : decode cX7_readInto 7 = .ok (.putfield 27, 3) := by decide +kernel
theorem dX7_readInto_10 : decode cX7_readInto 10 = .ok (.iconst 0, 1) := by decide +kernel
theorem dX7_readInto_11 : decode cX7_readInto 11 = .ok (.istore_n 2, 1) := by decide +kernel
theorem dX7_readInto_12 : decode cX7_readInto 12 = .ok (.iload_n 2, 1) := by decide +kernel
theorem dX7_readInto_13 : decode cX7_readInto 13 = .ok (.bipush 10, 2) := by decide +kernel
theorem dX7_readInto_15 : decode cX7_readInto 15 = .ok (.if_icmp .ge 99, 3) := by decide +kernel
theorem dX7_readInto_18 : decode cX7_readInto 18 = .ok (.aload_n 0, 1) := by decide +kernel
theorem dX7_readInto_19 : decode cX7_readInto 19 = .ok (.invokevirtual 30, 3) := by decide +kernel
theorem dX7_readInto_22 : decode cX7_readInto 22 = .ok (.aload_n 0, 1) := by decide +kernel
theorem dX7_readInto_23 : decode cX7_readInto 23 = .ok (.invokevirtual 33, 3) := by decide +kernel
theorem dX7_readInto_26 : decode cX7_readInto 26 = .ok (.istore_n 3, 1) := by decide +kernel
theorem dX7_readInto_27 : decode cX7_readInto 27 = .ok (.aload_n 0, 1) := by decide +kernel
theorem dX7_readInto_28 : decode cX7_readInto 28 = .ok (.iload_n 3, 1) := by decide +kernel
theorem dX7_readInto_29 : decode cX7_readInto 29 = .ok (.invokevirtual 37, 3) := by decide +kernel
theorem dX7_readInto_32 : decode cX7_readInto 32 = .ok (.ifCond .ne 8, 3) := by decide +kernel
theorem dX7_readInto_35 : decode cX7_readInto 35 = .ok (.aload_n 0, 1) := by decide +kernel
theorem dX7_readInto_36 : decode cX7_readInto 36 = .ok (.getfield 24, 3) := by decide +kernel
theorem dX7_readInto_39 : decode cX7_readInto 39 = .ok (.ireturn, 1) := by decide +kernel
theorem dX7_readInto_40 : decode cX7_readInto 40 = .ok (.aload_n 0, 1) := by decide +kernel
theorem dX7_readInto_41 : decode cX7_readInto 41 = .ok (.dup, 1) := by decide +kernel
theorem dX7_readInto_42 : decode cX7_readInto 42 = .ok (.getfield 27, 3) := by decide +kernel
theorem dX7_readInto_45 : decode cX7_readInto 45 = .ok (.iconst 1, 1) := by decide +kernel
theorem dX7_readInto_46 : decode cX7_readInto 46 = .ok (.iadd, 1) := by decide +kernel
theorem dX7_readInto_47 : decode cX7_readInto 47 = .ok (.putfield 27, 3) := by decide +kernel
theorem dX7_readInto_50 : decode cX7_readInto 50 = .ok (.aload_n 1, 1) := by decide +kernel
theorem dX7_readInto_51 : decode cX7_readInto 51 = .ok (.ifnull 12, 3) := by decide +kernel
theorem dX7_readInto_54 : decode cX7_readInto 54 = .ok (.aload_n 1, 1) := by decide +kernel
theorem dX7_readInto_55 : decode cX7_readInto 55 = .ok (.iload_n 3, 1) := by decide +kernel
theorem dX7_readInto_56 : decode cX7_readInto 56 = .ok (.aload_n 0, 1) := by decide +kernel
theorem dX7_readInto_57 : decode cX7_readInto 57 = .ok (.getfield 15, 3) := by decide +kernel
theorem dX7_readInto_60 : decode cX7_readInto 60 = .ok (.invokevirtual 41, 3) := by decide +kernel
theorem dX7_readInto_63 : decode cX7_readInto 63 = .ok (.aload_n 0, 1) := by decide +kernel
theorem dX7_readInto_64 : decode cX7_readInto 64 = .ok (.invokevirtual 30, 3) := by decide +kernel
theorem dX7_readInto_67 : decode cX7_readInto 67 = .ok (.aload_n 0, 1) := by decide +kernel
theorem dX7_readInto_68 : decode cX7_readInto 68 = .ok (.getfield 24, 3) := by decide +kernel
theorem dX7_readInto_71 : decode cX7_readInto 71 = .ok (.aload_n 0, 1) := by decide +kernel
theorem dX7_readInto_72 : decode cX7_readInto 72 = .ok (.getfield 18, 3) := by decide +kernel
theorem dX7_readInto_75 : decode cX7_readInto 75 = .ok (.if_icmp .lt 5, 3) := by decide +kernel
theorem dX7_readInto_78 : decode cX7_readInto 78 = .ok (.iconst (-1), 1) := by decide +kernel
theorem dX7_readInto_79 : decode cX7_readInto 79 = .ok (.ireturn, 1) := by decide +kernel
theorem dX7_readInto_80 : decode cX7_readInto 80 = .ok (.aload_n 0, 1) := by decide +kernel
theorem dX7_readInto_81 : decode cX7_readInto 81 = .ok (.aload_n 0, 1) := by decide +kernel
theorem dX7_readInto_82 : decode cX7_readInto 82 = .ok (.getfield 24, 3) := by decide +kernel
theorem dX7_readInto_85 : decode cX7_readInto 85 = .ok (.invokevirtual 47, 3) := by decide +kernel
theorem dX7_readInto_88 : decode cX7_readInto 88 = .ok (.bipush 59, 2) := by decide +kernel
theorem dX7_readInto_90 : decode cX7_readInto 90 = .ok (.if_icmp .eq 8, 3) := by decide +kernel
theorem dX7_readInto_93 : decode cX7_readInto 93 = .ok (.aload_n 0, 1) := by decide +kernel
theorem dX7_readInto_94 : decode cX7_readInto 94 = .ok (.getfield 24, 3) := by decide +kernel
theorem dX7_readInto_97 : decode cX7_readInto 97 = .ok (.ireturn, 1) := by decide +kernel
theorem dX7_readInto_98 : decode cX7_readInto 98 = .ok (.aload_n 0, 1) := by decide +kernel
theorem dX7_readInto_99 : decode cX7_readInto 99 = .ok (.dup, 1) := by decide +kernel
theorem dX7_readInto_100 : decode cX7_readInto 100 = .ok (.getfield 24, 3) := by decide +kernel
theorem dX7_readInto_103 : decode cX7_readInto 103 = .ok (.iconst 1, 1) := by decide +kernel
theorem dX7_readInto_104 : decode cX7_readInto 104 = .ok (.iadd, 1) := by decide +kernel
theorem dX7_readInto_105 : decode cX7_readInto 105 = .ok (.putfield 24, 3) := by decide +kernel
theorem dX7_readInto_108 : decode cX7_readInto 108 = .ok (.iinc 2 1, 3) := by decide +kernel
theorem dX7_readInto_111 : decode cX7_readInto 111 = .ok (.goto (-99), 3) := by decide +kernel
theorem dX7_readInto_114 : decode cX7_readInto 114 = .ok (.aload_n 0, 1) := by decide +kernel
theorem dX7_readInto_115 : decode cX7_readInto 115 = .ok (.getfield 24, 3) := by decide +kernel
theorem dX7_readInto_118 : decode cX7_readInto 118 = .ok (.iconst 1, 1) := by decide +kernel
theorem dX7_readInto_119 : decode cX7_readInto 119 = .ok (.isub, 1) := by decide +kernel
theorem dX7_readInto_120 : decode cX7_readInto 120 = .ok (.ireturn, 1) := by decide +kernel
theorem dX7_peek_0 : decode cX7_peek 0 = .ok (.iload_n 1, 1) := by decide +kernel
theorem dX7_peek_1 : decode cX7_peek 1 = .ok (.ifCond .lt 27, 3) := by decide +kernel
theorem dX7_peek_4 : decode cX7_peek 4 = .ok (.iload_n 1, 1) := by decide +kernel
theorem dX7_peek_5 : decode cX7_peek 5 = .ok (.aload_n 0, 1) := by decide +kernel
theorem dX7_peek_6 : decode cX7_peek 6 = .ok (.getfield 18, 3) := by decide +kernel
theorem dX7_peek_9 : decode cX7_peek 9 = .ok (.if_icmp .ge 19, 3) := by decide +kernel
theorem dX7_peek_12 : decode cX7_peek 12 = .ok (.iload_n 1, 1) := by decide +kernel
theorem dX7_peek_13 : decode cX7_peek 13 = .ok (.sipush 200, 3) := by decide +kernel
theorem dX7_peek_16 : decode cX7_peek 16 = .ok (.if_icmp .ge 12, 3) := by decide +kernel
theorem dX7_peek_19 : decode cX7_peek 19 = .ok (.aload_n 0, 1) := by decide +kernel
theorem dX7_peek_20 : decode cX7_peek 20 = .ok (.getfield 9, 3) := by decide +kernel
theorem dX7_peek_23 : decode cX7_peek 23 = .ok (.iload_n 1, 1) := by decide +kernel
theorem dX7_peek_24 : decode cX7_peek 24 = .ok (.iaload, 1) := by decide +kernel
theorem dX7_peek_25 : decode cX7_peek 25 = .ok (.goto 4, 3) := by decide +kernel
theorem dX7_peek_28 : decode cX7_peek 28 = .ok (.iconst (-1), 1) := by decide +kernel
theorem dX7_peek_29 : decode cX7_peek 29 = .ok (.ireturn, 1) := by decide +kernel
theorem dX7_skipBlanks_0 : decode cX7_skipBlanks 0 = .ok (.iconst 0, 1) := by decide +kernel
theorem dX7_skipBlanks_1 : decode cX7_skipBlanks 1 = .ok (.istore_n 1, 1) := by decide +kernel
theorem dX7_skipBlanks_2 : decode cX7_skipBlanks 2 = .ok (.iload_n 1, 1) := by decide +kernel
theorem dX7_skipBlanks_3 : decode cX7_skipBlanks 3 = .ok (.sipush 200, 3) := by decide +kernel
theorem dX7_skipBlanks_6 : decode cX7_skipBlanks 6 = .ok (.if_icmp .ge 32, 3) := by decide +kernel
theorem dX7_skipBlanks_9 : decode cX7_skipBlanks 9 = .ok (.aload_n 0, 1) := by decide +kernel
theorem dX7_skipBlanks_10 : decode cX7_skipBlanks 10 = .ok (.aload_n 0, 1) := by decide +kernel
theorem dX7_skipBlanks_11 : decode cX7_skipBlanks 11 = .ok (.getfield 24, 3) := by decide +kernel
theorem dX7_skipBlanks_14 : decode cX7_skipBlanks 14 = .ok (.invokevirtual 47, 3) := by decide +kernel
theorem dX7_skipBlanks_17 : decode cX7_skipBlanks 17 = .ok (.bipush 32, 2) := by decide +kernel
theorem dX7_skipBlanks_19 : decode cX7_skipBlanks 19 = .ok (.if_icmp .ne 19, 3) := by decide +kernel
theorem dX7_skipBlanks_22 : decode cX7_skipBlanks 22 = .ok (.aload_n 0, 1) := by decide +kernel
theorem dX7_skipBlanks_23 : decode cX7_skipBlanks 23 = .ok (.dup, 1) := by decide +kernel
theorem dX7_skipBlanks_24 : decode cX7_skipBlanks 24 = .ok (.getfield 24, 3) := by decide +kernel
theorem dX7_skipBlanks_27 : decode cX7_skipBlanks 27 = .ok (.iconst 1, 1) := by decide +kernel
theorem dX7_skipBlanks_28 : decode cX7_skipBlanks 28 = .ok (.iadd, 1) := by decide +kernel
theorem dX7_skipBlanks_29 : decode cX7_skipBlanks 29 = .ok (.putfield 24, 3) := by decide +kernel
theorem dX7_skipBlanks_32 : decode cX7_skipBlanks 32 = .ok (.iinc 1 1, 3) := by decide +kernel
theorem dX7_skipBlanks_35 : decode cX7_skipBlanks 35 = .ok (.goto (-33), 3) := by decide +kernel
theorem dX7_skipBlanks_38 : decode cX7_skipBlanks 38 = .ok (.return_, 1) := by decide +kernel
theorem dX7_readWord_0 : decode cX7_readWord 0 = .ok (.aload_n 0, 1) := by decide +kernel
theorem dX7_readWord_1 : decode cX7_readWord 1 = .ok (.getfield 24, 3) := by decide +kernel
theorem dX7_readWord_4 : decode cX7_readWord 4 = .ok (.istore_n 1, 1) := by decide +kernel
theorem dX7_readWord_5 : decode cX7_readWord 5 = .ok (.iconst 0, 1) := by decide +kernel
theorem dX7_readWord_6 : decode cX7_readWord 6 = .ok (.istore_n 2, 1) := by decide +kernel
theorem dX7_readWord_7 : decode cX7_readWord 7 = .ok (.iload_n 2, 1) := by decide +kernel
theorem dX7_readWord_8 : decode cX7_readWord 8 = .ok (.sipush 200, 3) := by decide +kernel
theorem dX7_readWord_11 : decode cX7_readWord 11 = .ok (.if_icmp .ge 23, 3) := by decide +kernel
theorem dX7_readWord_14 : decode cX7_readWord 14 = .ok (.aload_n 0, 1) := by decide +kernel
theorem dX7_readWord_15 : decode cX7_readWord 15 = .ok (.iload_n 1, 1) := by decide +kernel
theorem dX7_readWord_16 : decode cX7_readWord 16 = .ok (.invokevirtual 47, 3) := by decide +kernel
theorem dX7_readWord_19 : decode cX7_readWord 19 = .ok (.invokestatic 51, 3) := by decide +kernel
theorem dX7_readWord_22 : decode cX7_readWord 22 = .ok (.ifCond .eq 12, 3) := by decide +kernel
theorem dX7_readWord_25 : decode cX7_readWord 25 = .ok (.iinc 1 1, 3) := by decide +kernel
theorem dX7_readWord_28 : decode cX7_readWord 28 = .ok (.iinc 2 1, 3) := by decide +kernel
theorem dX7_readWord_31 : decode cX7_readWord 31 = .ok (.goto (-24), 3) := by decide +kernel
theorem dX7_readWord_34 : decode cX7_readWord 34 = .ok (.iconst 0, 1) := by decide +kernel
theorem dX7_readWord_35 : decode cX7_readWord 35 = .ok (.istore_n 2, 1) := by decide +kernel
theorem dX7_readWord_36 : decode cX7_readWord 36 = .ok (.iload_n 2, 1) := by decide +kernel
theorem dX7_readWord_37 : decode cX7_readWord 37 = .ok (.bipush 9, 2) := by decide +kernel
theorem dX7_readWord_39 : decode cX7_readWord 39 = .ok (.if_icmp .ge 28, 3) := by decide +kernel
theorem dX7_readWord_42 : decode cX7_readWord 42 = .ok (.aload_n 0, 1) := by decide +kernel
theorem dX7_readWord_43 : decode cX7_readWord 43 = .ok (.iload_n 2, 1) := by decide +kernel
theorem dX7_readWord_44 : decode cX7_readWord 44 = .ok (.invokestatic 54, 3) := by decide +kernel
theorem dX7_readWord_47 : decode cX7_readWord 47 = .ok (.iload_n 1, 1) := by decide +kernel
theorem dX7_readWord_48 : decode cX7_readWord 48 = .ok (.invokevirtual 58, 3) := by decide +kernel
theorem dX7_readWord_51 : decode cX7_readWord 51 = .ok (.ifCond .eq 10, 3) := by decide +kernel
theorem dX7_readWord_54 : decode cX7_readWord 54 = .ok (.aload_n 0, 1) := by decide +kernel
theorem dX7_readWord_55 : decode cX7_readWord 55 = .ok (.iload_n 1, 1) := by decide +kernel
theorem dX7_readWord_56 : decode cX7_readWord 56 = .ok (.putfield 24, 3) := by decide +kernel
theorem dX7_readWord_59 : decode cX7_readWord 59 = .ok (.iload_n 2, 1) := by decide +kernel
theorem dX7_readWord_60 : decode cX7_readWord 60 = .ok (.ireturn, 1) := by decide +kernel
theorem dX7_readWord_61 : decode cX7_readWord 61 = .ok (.iinc 2 1, 3) := by decide +kernel
theorem dX7_readWord_64 : decode cX7_readWord 64 = .ok (.goto (-28), 3) := by decide +kernel
theorem dX7_readWord_67 : decode cX7_readWord 67 = .ok (.iconst (-1), 1) := by decide +kernel
theorem dX7_readWord_68 : decode cX7_readWord 68 = .ok (.ireturn, 1) := by decide +kernel
theorem dX7_isSpelled_0 : decode cX7_isSpelled 0 = .ok (.aload_n 1, 1) := by decide +kernel
theorem dX7_isSpelled_1 : decode cX7_isSpelled 1 = .ok (.invokevirtual 62, 3) := by decide +kernel
theorem dX7_isSpelled_4 : decode cX7_isSpelled 4 = .ok (.iload_n 2, 1) := by decide +kernel
theorem dX7_isSpelled_5 : decode cX7_isSpelled 5 = .ok (.aload_n 0, 1) := by decide +kernel
theorem dX7_isSpelled_6 : decode cX7_isSpelled 6 = .ok (.getfield 24, 3) := by decide +kernel
theorem dX7_isSpelled_9 : decode cX7_isSpelled 9 = .ok (.isub, 1) := by decide +kernel
theorem dX7_isSpelled_10 : decode cX7_isSpelled 10 = .ok (.if_icmp .eq 5, 3) := by decide +kernel
theorem dX7_isSpelled_13 : decode cX7_isSpelled 13 = .ok (.iconst 0, 1) := by decide +kernel
theorem dX7_isSpelled_14 : decode cX7_isSpelled 14 = .ok (.ireturn, 1) := by decide +kernel
theorem dX7_isSpelled_15 : decode cX7_isSpelled 15 = .ok (.iconst 0, 1) := by decide +kernel
theorem dX7_isSpelled_16 : decode cX7_isSpelled 16 = .ok (.istore_n 3, 1) := by decide +kernel
theorem dX7_isSpelled_17 : decode cX7_isSpelled 17 = .ok (.iload_n 3, 1) := by decide +kernel
theorem dX7_isSpelled_18 : decode cX7_isSpelled 18 = .ok (.aload_n 1, 1) := by decide +kernel
theorem dX7_isSpelled_19 : decode cX7_isSpelled 19 = .ok (.invokevirtual 62, 3) := by decide +kernel
theorem dX7_isSpelled_22 : decode cX7_isSpelled 22 = .ok (.if_icmp .ge 29, 3) := by decide +kernel
theorem dX7_isSpelled_25 : decode cX7_isSpelled 25 = .ok (.aload_n 1, 1) := by decide +kernel
theorem dX7_isSpelled_26 : decode cX7_isSpelled 26 = .ok (.iload_n 3, 1) := by decide +kernel
theorem dX7_isSpelled_27 : decode cX7_isSpelled 27 = .ok (.invokevirtual 66, 3) := by decide +kernel
theorem dX7_isSpelled_30 : decode cX7_isSpelled 30 = .ok (.aload_n 0, 1) := by decide +kernel
theorem dX7_isSpelled_31 : decode cX7_isSpelled 31 = .ok (.aload_n 0, 1) := by decide +kernel
theorem dX7_isSpelled_32 : decode cX7_isSpelled 32 = .ok (.getfield 24, 3) := by decide +kernel
theorem dX7_isSpelled_35 : decode cX7_isSpelled 35 = .ok (.iload_n 3, 1) := by decide +kernel
theorem dX7_isSpelled_36 : decode cX7_isSpelled 36 = .ok (.iadd, 1) := by decide +kernel
theorem dX7_isSpelled_37 : decode cX7_isSpelled 37 = .ok (.invokevirtual 47, 3) := by decide +kernel
theorem dX7_isSpelled_40 : decode cX7_isSpelled 40 = .ok (.if_icmp .eq 5, 3) := by decide +kernel
theorem dX7_isSpelled_43 : decode cX7_isSpelled 43 = .ok (.iconst 0, 1) := by decide +kernel
theorem dX7_isSpelled_44 : decode cX7_isSpelled 44 = .ok (.ireturn, 1) := by decide +kernel
theorem dX7_isSpelled_45 : decode cX7_isSpelled 45 = .ok (.iinc 3 1, 3) := by decide +kernel
theorem dX7_isSpelled_48 : decode cX7_isSpelled 48 = .ok (.goto (-31), 3) := by decide +kernel
theorem dX7_isSpelled_51 : decode cX7_isSpelled 51 = .ok (.iconst 1, 1) := by decide +kernel
theorem dX7_isSpelled_52 : decode cX7_isSpelled 52 = .ok (.ireturn, 1) := by decide +kernel
theorem dX7_readNumbers_0 : decode cX7_readNumbers 0 = .ok (.iload_n 1, 1) := by decide +kernel
theorem dX7_readNumbers_1 : decode cX7_readNumbers 1 = .ok (.ifCond .lt 9, 3) := by decide +kernel
theorem dX7_readNumbers_4 : decode cX7_readNumbers 4 = .ok (.iload_n 1, 1) := by decide +kernel
theorem dX7_readNumbers_5 : decode cX7_readNumbers 5 = .ok (.bipush 9, 2) := by decide +kernel
theorem dX7_readNumbers_7 : decode cX7_readNumbers 7 = .ok (.if_icmp .lt 5, 3) := by decide +kernel
theorem dX7_readNumbers_10 : decode cX7_readNumbers 10 = .ok (.iconst 0, 1) := by decide +kernel
theorem dX7_readNumbers_11 : decode cX7_readNumbers 11 = .ok (.ireturn, 1) := by decide +kernel
theorem dX7_readNumbers_12 : decode cX7_readNumbers 12 = .ok (.getstatic 70, 3) := by decide +kernel
theorem dX7_readNumbers_15 : decode cX7_readNumbers 15 = .ok (.iload_n 1, 1) := by decide +kernel
theorem dX7_readNumbers_16 : decode cX7_readNumbers 16 = .ok (.iaload, 1) := by decide +kernel
theorem dX7_readNumbers_17 : decode cX7_readNumbers 17 = .ok (.istore_n 2, 1) := by decide +kernel
theorem dX7_readNumbers_18 : decode cX7_readNumbers 18 = .ok (.getstatic 70, 3) := by decide +kernel
theorem dX7_readNumbers_21 : decode cX7_readNumbers 21 = .ok (.iload_n 1, 1) := by decide +kernel
theorem dX7_readNumbers_22 : decode cX7_readNumbers 22 = .ok (.iconst 1, 1) := by decide +kernel
theorem dX7_readNumbers_23 : decode cX7_readNumbers 23 = .ok (.iadd, 1) := by decide +kernel
theorem dX7_readNumbers_24 : decode cX7_readNumbers 24 = .ok (.iaload, 1) := by decide +kernel
theorem dX7_readNumbers_25 : decode cX7_readNumbers 25 = .ok (.iload_n 2, 1) := by decide +kernel
theorem dX7_readNumbers_26 : decode cX7_readNumbers 26 = .ok (.isub, 1) := by decide +kernel
theorem dX7_readNumbers_27 : decode cX7_readNumbers 27 = .ok (.istore_n 3, 1) := by decide +kernel
theorem dX7_readNumbers_28 : decode cX7_readNumbers 28 = .ok (.iconst 0, 1) := by decide +kernel
theorem dX7_readNumbers_29 : decode cX7_readNumbers 29 = .ok (.istore 4, 2) := by decide +kernel
theorem dX7_readNumbers_31 : decode cX7_readNumbers 31 = .ok (.iload 4, 2) := by decide +kernel
theorem dX7_readNumbers_33 : decode cX7_readNumbers 33 = .ok (.iload_n 3, 1) := by decide +kernel
theorem dX7_readNumbers_34 : decode cX7_readNumbers 34 = .ok (.if_icmp .ge 84, 3) := by decide +kernel
theorem dX7_readNumbers_37 : decode cX7_readNumbers 37 = .ok (.iload 4, 2) := by decide +kernel
theorem dX7_readNumbers_39 : decode cX7_readNumbers 39 = .ok (.bipush 6, 2) := by decide +kernel
theorem dX7_readNumbers_41 : decode cX7_readNumbers 41 = .ok (.if_icmp .ge 77, 3) := by decide +kernel
theorem dX7_readNumbers_44 : decode cX7_readNumbers 44 = .ok (.aload_n 0, 1) := by decide +kernel
theorem dX7_readNumbers_45 : decode cX7_readNumbers 45 = .ok (.invokevirtual 30, 3) := by decide +kernel
theorem dX7_readNumbers_48 : decode cX7_readNumbers 48 = .ok (.iload_n 1, 1) := by decide +kernel
theorem dX7_readNumbers_49 : decode cX7_readNumbers 49 = .ok (.iload 4, 2) := by decide +kernel
theorem dX7_readNumbers_51 : decode cX7_readNumbers 51 = .ok (.invokestatic 73, 3) := by decide +kernel
theorem dX7_readNumbers_54 : decode cX7_readNumbers 54 = .ok (.ifCond .eq 15, 3) := by decide +kernel
theorem dX7_readNumbers_57 : decode cX7_readNumbers 57 = .ok (.aload_n 0, 1) := by decide +kernel
theorem dX7_readNumbers_58 : decode cX7_readNumbers 58 = .ok (.getfield 15, 3) := by decide +kernel
theorem dX7_readNumbers_61 : decode cX7_readNumbers 61 = .ok (.iload 4, 2) := by decide +kernel
theorem dX7_readNumbers_63 : decode cX7_readNumbers 63 = .ok (.iconst 1, 1) := by decide +kernel
theorem dX7_readNumbers_64 : decode cX7_readNumbers 64 = .ok (.isub, 1) := by decide +kernel
theorem dX7_readNumbers_65 : decode cX7_readNumbers 65 = .ok (.iaload, 1) := by decide +kernel
theorem dX7_readNumbers_66 : decode cX7_readNumbers 66 = .ok (.goto 11, 3) := by decide +kernel
theorem dX7_readNumbers_69 : decode cX7_readNumbers 69 = .ok (.getstatic 77, 3) := by decide +kernel
theorem dX7_readNumbers_72 : decode cX7_readNumbers 72 = .ok (.iload_n 2, 1) := by decide +kernel
theorem dX7_readNumbers_73 : decode cX7_readNumbers 73 = .ok (.iload 4, 2) := by decide +kernel
theorem dX7_readNumbers_75 : decode cX7_readNumbers 75 = .ok (.iadd, 1) := by decide +kernel
theorem dX7_readNumbers_76 : decode cX7_readNumbers 76 = .ok (.iaload, 1) := by decide +kernel
theorem dX7_readNumbers_77 : decode cX7_readNumbers 77 = .ok (.istore 5, 2) := by decide +kernel
theorem dX7_readNumbers_79 : decode cX7_readNumbers 79 = .ok (.aload_n 0, 1) := by decide +kernel
theorem dX7_readNumbers_80 : decode cX7_readNumbers 80 = .ok (.iload 5, 2) := by decide +kernel
theorem dX7_readNumbers_82 : decode cX7_readNumbers 82 = .ok (.getstatic 80, 3) := by decide +kernel
theorem dX7_readNumbers_85 : decode cX7_readNumbers 85 = .ok (.iload_n 2, 1) := by decide +kernel
theorem dX7_readNumbers_86 : decode cX7_readNumbers 86 = .ok (.iload 4, 2) := by decide +kernel
theorem dX7_readNumbers_88 : decode cX7_readNumbers 88 = .ok (.iadd, 1) := by decide +kernel
theorem dX7_readNumbers_89 : decode cX7_readNumbers 89 = .ok (.iaload, 1) := by decide +kernel
theorem dX7_readNumbers_90 : decode cX7_readNumbers 90 = .ok (.invokevirtual 83, 3) := by decide +kernel
theorem dX7_readNumbers_93 : decode cX7_readNumbers 93 = .ok (.istore 6, 2) := by decide +kernel
theorem dX7_readNumbers_95 : decode cX7_readNumbers 95 = .ok (.iload 6, 2) := by decide +kernel
theorem dX7_readNumbers_97 : decode cX7_readNumbers 97 = .ok (.iconst (-1), 1) := by decide +kernel
theorem dX7_readNumbers_98 : decode cX7_readNumbers 98 = .ok (.if_icmp .ne 5, 3) := by decide +kernel
theorem dX7_readNumbers_101 : decode cX7_readNumbers 101 = .ok (.iconst 0, 1) := by decide +kernel
theorem dX7_readNumbers_102 : decode cX7_readNumbers 102 = .ok (.ireturn, 1) := by decide +kernel
theorem dX7_readNumbers_103 : decode cX7_readNumbers 103 = .ok (.aload_n 0, 1) := by decide +kernel
theorem dX7_readNumbers_104 : decode cX7_readNumbers 104 = .ok (.getfield 15, 3) := by decide +kernel
theorem dX7_readNumbers_107 : decode cX7_readNumbers 107 = .ok (.iload 4, 2) := by decide +kernel
theorem dX7_readNumbers_109 : decode cX7_readNumbers 109 = .ok (.iload 6, 2) := by decide +kernel
theorem dX7_readNumbers_111 : decode cX7_readNumbers 111 = .ok (.iastore, 1) := by decide +kernel
theorem dX7_readNumbers_112 : decode cX7_readNumbers 112 = .ok (.iinc 4 1, 3) := by decide +kernel
theorem dX7_readNumbers_115 : decode cX7_readNumbers 115 = .ok (.goto (-84), 3) := by decide +kernel
theorem dX7_readNumbers_118 : decode cX7_readNumbers 118 = .ok (.iconst 1, 1) := by decide +kernel
theorem dX7_readNumbers_119 : decode cX7_readNumbers 119 = .ok (.ireturn, 1) := by decide +kernel
theorem dX7_readNumber_0 : decode cX7_readNumber 0 = .ok (.aload_n 0, 1) := by decide +kernel
theorem dX7_readNumber_1 : decode cX7_readNumber 1 = .ok (.getfield 24, 3) := by decide +kernel
theorem dX7_readNumber_4 : decode cX7_readNumber 4 = .ok (.istore_n 3, 1) := by decide +kernel
theorem dX7_readNumber_5 : decode cX7_readNumber 5 = .ok (.iconst 0, 1) := by decide +kernel
theorem dX7_readNumber_6 : decode cX7_readNumber 6 = .ok (.istore 4, 2) := by decide +kernel
theorem dX7_readNumber_8 : decode cX7_readNumber 8 = .ok (.iconst 0, 1) := by decide +kernel
theorem dX7_readNumber_9 : decode cX7_readNumber 9 = .ok (.istore 5, 2) := by decide +kernel
theorem dX7_readNumber_11 : decode cX7_readNumber 11 = .ok (.iload 5, 2) := by decide +kernel
theorem dX7_readNumber_13 : decode cX7_readNumber 13 = .ok (.sipush 200, 3) := by decide +kernel
theorem dX7_readNumber_16 : decode cX7_readNumber 16 = .ok (.if_icmp .ge 45, 3) := by decide +kernel
theorem dX7_readNumber_19 : decode cX7_readNumber 19 = .ok (.aload_n 0, 1) := by decide +kernel
theorem dX7_readNumber_20 : decode cX7_readNumber 20 = .ok (.iload_n 3, 1) := by decide +kernel
theorem dX7_readNumber_21 : decode cX7_readNumber 21 = .ok (.invokevirtual 47, 3) := by decide +kernel
theorem dX7_readNumber_24 : decode cX7_readNumber 24 = .ok (.invokestatic 87, 3) := by decide +kernel
theorem dX7_readNumber_27 : decode cX7_readNumber 27 = .ok (.ifCond .eq 34, 3) := by decide +kernel
theorem dX7_readNumber_30 : decode cX7_readNumber 30 = .ok (.iload 5, 2) := by decide +kernel
theorem dX7_readNumber_32 : decode cX7_readNumber 32 = .ok (.iconst 2, 1) := by decide +kernel
theorem dX7_readNumber_33 : decode cX7_readNumber 33 = .ok (.if_icmp .ge 19, 3) := by decide +kernel
theorem dX7_readNumber_36 : decode cX7_readNumber 36 = .ok (.bipush 10, 2) := by decide +kernel
theorem dX7_readNumber_38 : decode cX7_readNumber 38 = .ok (.iload 4, 2) := by decide +kernel
theorem dX7_readNumber_40 : decode cX7_readNumber 40 = .ok (.imul, 1) := by decide +kernel
theorem dX7_readNumber_41 : decode cX7_readNumber 41 = .ok (.aload_n 0, 1) := by decide +kernel
theorem dX7_readNumber_42 : decode cX7_readNumber 42 = .ok (.iload_n 3, 1) := by decide +kernel
theorem dX7_readNumber_43 : decode cX7_readNumber 43 = .ok (.invokevirtual 47, 3) := by decide +kernel
theorem dX7_readNumber_46 : decode cX7_readNumber 46 = .ok (.iadd, 1) := by decide +kernel
theorem dX7_readNumber_47 : decode cX7_readNumber 47 = .ok (.bipush 48, 2) := by decide +kernel
theorem dX7_readNumber_49 : decode cX7_readNumber 49 = .ok (.isub, 1) := by decide +kernel
theorem dX7_readNumber_50 : decode cX7_readNumber 50 = .ok (.istore 4, 2) := by decide +kernel
theorem dX7_readNumber_52 : decode cX7_readNumber 52 = .ok (.iinc 3 1, 3) := by decide +kernel
theorem dX7_readNumber_55 : decode cX7_readNumber 55 = .ok (.iinc 5 1, 3) := by decide +kernel
theorem dX7_readNumber_58 : decode cX7_readNumber 58 = .ok (.goto (-47), 3) := by decide +kernel
theorem dX7_readNumber_61 : decode cX7_readNumber 61 = .ok (.iload_n 3, 1) := by decide +kernel
theorem dX7_readNumber_62 : decode cX7_readNumber 62 = .ok (.aload_n 0, 1) := by decide +kernel
theorem dX7_readNumber_63 : decode cX7_readNumber 63 = .ok (.getfield 24, 3) := by decide +kernel
theorem dX7_readNumber_66 : decode cX7_readNumber 66 = .ok (.isub, 1) := by decide +kernel
theorem dX7_readNumber_67 : decode cX7_readNumber 67 = .ok (.istore 5, 2) := by decide +kernel
theorem dX7_readNumber_69 : decode cX7_readNumber 69 = .ok (.iload 5, 2) := by decide +kernel
theorem dX7_readNumber_71 : decode cX7_readNumber 71 = .ok (.ifCond .eq 21, 3) := by decide +kernel
theorem dX7_readNumber_74 : decode cX7_readNumber 74 = .ok (.iload 5, 2) := by decide +kernel
theorem dX7_readNumber_76 : decode cX7_readNumber 76 = .ok (.iconst 2, 1) := by decide +kernel
theorem dX7_readNumber_77 : decode cX7_readNumber 77 = .ok (.if_icmp .gt 15, 3) := by decide +kernel
theorem dX7_readNumber_80 : decode cX7_readNumber 80 = .ok (.iload 4, 2) := by decide +kernel
theorem dX7_readNumber_82 : decode cX7_readNumber 82 = .ok (.iload_n 1, 1) := by decide +kernel
theorem dX7_readNumber_83 : decode cX7_readNumber 83 = .ok (.if_icmp .lt 9, 3) := by decide +kernel
theorem dX7_readNumber_86 : decode cX7_readNumber 86 = .ok (.iload 4, 2) := by decide +kernel
theorem dX7_readNumber_88 : decode cX7_readNumber 88 = .ok (.iload_n 2, 1) := by decide +kernel
theorem dX7_readNumber_89 : decode cX7_readNumber 89 = .ok (.if_icmp .le 5, 3) := by decide +kernel
theorem dX7_readNumber_92 : decode cX7_readNumber 92 = .ok (.iconst (-1), 1) := by decide +kernel
theorem dX7_readNumber_93 : decode cX7_readNumber 93 = .ok (.ireturn, 1) := by decide +kernel
theorem dX7_readNumber_94 : decode cX7_readNumber 94 = .ok (.aload_n 0, 1) := by decide +kernel
theorem dX7_readNumber_95 : decode cX7_readNumber 95 = .ok (.iload_n 3, 1) := by decide +kernel
theorem dX7_readNumber_96 : decode cX7_readNumber 96 = .ok (.putfield 24, 3) := by decide +kernel
theorem dX7_readNumber_99 : decode cX7_readNumber 99 = .ok (.iload 4, 2) := by decide +kernel
theorem dX7_readNumber_101 : decode cX7_readNumber 101 = .ok (.ireturn, 1) := by decide +kernel
theorem dX7_isEndOfHours_0 : decode cX7_isEndOfHours 0 = .ok (.iload_n 0, 1) := by decide +kernel
theorem dX7_isEndOfHours_1 : decode cX7_isEndOfHours 1 = .ok (.ifCond .ne 8, 3) := by decide +kernel
theorem dX7_isEndOfHours_4 : decode cX7_isEndOfHours 4 = .ok (.iload_n 1, 1) := by decide +kernel
theorem dX7_isEndOfHours_5 : decode cX7_isEndOfHours 5 = .ok (.iconst 2, 1) := by decide +kernel
theorem dX7_isEndOfHours_6 : decode cX7_isEndOfHours 6 = .ok (.if_icmp .eq 13, 3) := by decide +kernel
theorem dX7_isEndOfHours_9 : decode cX7_isEndOfHours 9 = .ok (.iload_n 0, 1) := by decide +kernel
theorem dX7_isEndOfHours_10 : decode cX7_isEndOfHours 10 = .ok (.iconst 5, 1) := by decide +kernel
theorem dX7_isEndOfHours_11 : decode cX7_isEndOfHours 11 = .ok (.if_icmp .ne 12, 3) := by decide +kernel
theorem dX7_isEndOfHours_14 : decode cX7_isEndOfHours 14 = .ok (.iload_n 1, 1) := by decide +kernel
theorem dX7_isEndOfHours_15 : decode cX7_isEndOfHours 15 = .ok (.iconst 1, 1) := by decide +kernel
theorem dX7_isEndOfHours_16 : decode cX7_isEndOfHours 16 = .ok (.if_icmp .ne 7, 3) := by decide +kernel
theorem dX7_isEndOfHours_19 : decode cX7_isEndOfHours 19 = .ok (.iconst 1, 1) := by decide +kernel
theorem dX7_isEndOfHours_20 : decode cX7_isEndOfHours 20 = .ok (.goto 4, 3) := by decide +kernel
theorem dX7_isEndOfHours_23 : decode cX7_isEndOfHours 23 = .ok (.iconst 0, 1) := by decide +kernel
theorem dX7_isEndOfHours_24 : decode cX7_isEndOfHours 24 = .ok (.ireturn, 1) := by decide +kernel
theorem dX7_isLetter_0 : decode cX7_isLetter 0 = .ok (.iload_n 0, 1) := by decide +kernel
theorem dX7_isLetter_1 : decode cX7_isLetter 1 = .ok (.bipush 97, 2) := by decide +kernel
theorem dX7_isLetter_3 : decode cX7_isLetter 3 = .ok (.if_icmp .lt 13, 3) := by decide +kernel
theorem dX7_isLetter_6 : decode cX7_isLetter 6 = .ok (.iload_n 0, 1) := by decide +kernel
theorem dX7_isLetter_7 : decode cX7_isLetter 7 = .ok (.bipush 122, 2) := by decide +kernel
theorem dX7_isLetter_9 : decode cX7_isLetter 9 = .ok (.if_icmp .gt 7, 3) := by decide +kernel
theorem dX7_isLetter_12 : decode cX7_isLetter 12 = .ok (.iconst 1, 1) := by decide +kernel
theorem dX7_isLetter_13 : decode cX7_isLetter 13 = .ok (.goto 4, 3) := by decide +kernel
theorem dX7_isLetter_16 : decode cX7_isLetter 16 = .ok (.iconst 0, 1) := by decide +kernel
theorem dX7_isLetter_17 : decode cX7_isLetter 17 = .ok (.ireturn, 1) := by decide +kernel
theorem dX7_isDigit_0 : decode cX7_isDigit 0 = .ok (.iload_n 0, 1) := by decide +kernel
theorem dX7_isDigit_1 : decode cX7_isDigit 1 = .ok (.bipush 48, 2) := by decide +kernel
theorem dX7_isDigit_3 : decode cX7_isDigit 3 = .ok (.if_icmp .lt 13, 3) := by decide +kernel
theorem dX7_isDigit_6 : decode cX7_isDigit 6 = .ok (.iload_n 0, 1) := by decide +kernel
theorem dX7_isDigit_7 : decode cX7_isDigit 7 = .ok (.bipush 57, 2) := by decide +kernel
theorem dX7_isDigit_9 : decode cX7_isDigit 9 = .ok (.if_icmp .gt 7, 3) := by decide +kernel
theorem dX7_isDigit_12 : decode cX7_isDigit 12 = .ok (.iconst 1, 1) := by decide +kernel
theorem dX7_isDigit_13 : decode cX7_isDigit 13 = .ok (.goto 4, 3) := by decide +kernel
theorem dX7_isDigit_16 : decode cX7_isDigit 16 = .ok (.iconst 0, 1) := by decide +kernel
theorem dX7_isDigit_17 : decode cX7_isDigit 17 = .ok (.ireturn, 1) := by decide +kernel
theorem dX7_nameOf_0 : decode cX7_nameOf 0 = .ok (.iload_n 0, 1) := by decide +kernel
theorem dX7_nameOf_1 : decode cX7_nameOf 1 = .ok (.tableswitch 71 0 7 #[47, 50, 53, 56, 59, 62, 65, 68], 47) := by decide +kernel
theorem dX7_nameOf_48 : decode cX7_nameOf 48 = .ok (.ldc 90, 2) := by decide +kernel
theorem dX7_nameOf_50 : decode cX7_nameOf 50 = .ok (.areturn, 1) := by decide +kernel
theorem dX7_nameOf_51 : decode cX7_nameOf 51 = .ok (.ldc 92, 2) := by decide +kernel
theorem dX7_nameOf_53 : decode cX7_nameOf 53 = .ok (.areturn, 1) := by decide +kernel
theorem dX7_nameOf_54 : decode cX7_nameOf 54 = .ok (.ldc 94, 2) := by decide +kernel
theorem dX7_nameOf_56 : decode cX7_nameOf 56 = .ok (.areturn, 1) := by decide +kernel
theorem dX7_nameOf_57 : decode cX7_nameOf 57 = .ok (.ldc 96, 2) := by decide +kernel
theorem dX7_nameOf_59 : decode cX7_nameOf 59 = .ok (.areturn, 1) := by decide +kernel
theorem dX7_nameOf_60 : decode cX7_nameOf 60 = .ok (.ldc 98, 2) := by decide +kernel
theorem dX7_nameOf_62 : decode cX7_nameOf 62 = .ok (.areturn, 1) := by decide +kernel
theorem dX7_nameOf_63 : decode cX7_nameOf 63 = .ok (.ldc 100, 2) := by decide +kernel
theorem dX7_nameOf_65 : decode cX7_nameOf 65 = .ok (.areturn, 1) := by decide +kernel
theorem dX7_nameOf_66 : decode cX7_nameOf 66 = .ok (.ldc 102, 2) := by decide +kernel
theorem dX7_nameOf_68 : decode cX7_nameOf 68 = .ok (.areturn, 1) := by decide +kernel
theorem dX7_nameOf_69 : decode cX7_nameOf 69 = .ok (.ldc 104, 2) := by decide +kernel
theorem dX7_nameOf_71 : decode cX7_nameOf 71 = .ok (.areturn, 1) := by decide +kernel
theorem dX7_nameOf_72 : decode cX7_nameOf 72 = .ok (.ldc 106, 2) := by decide +kernel
theorem dX7_nameOf_74 : decode cX7_nameOf 74 = .ok (.areturn, 1) := by decide +kernel
end
section
theorem dX8_init_0 : decode cX8_init 0 = .ok (.aload_n 0, 1) := by decide +kernel
theorem dX8_init_1 : decode cX8_init 1 = .ok (.invokespecial 3, 3) := by decide +kernel
theorem dX8_init_4 : decode cX8_init 4 = .ok (.aload_n 0, 1) := by decide +kernel
theorem dX8_init_5 : decode cX8_init 5 = .ok (.new 9, 3) := by decide +kernel
theorem dX8_init_8 : decode cX8_init 8 = .ok (.dup, 1) := by decide +kernel
theorem dX8_init_9 : decode cX8_init 9 = .ok (.invokespecial 11, 3) := by decide +kernel
theorem dX8_init_12 : decode cX8_init 12 = .ok (.putfield 12, 3) := by decide +kernel
theorem dX8_init_15 : decode cX8_init 15 = .ok (.aload_n 0, 1) := by decide +kernel
theorem dX8_init_16 : decode cX8_init 16 = .ok (.new 16, 3) := by decide +kernel
theorem dX8_init_19 : decode cX8_init 19 = .ok (.dup, 1) := by decide +kernel
theorem dX8_init_20 : decode cX8_init 20 = .ok (.invokespecial 18, 3) := by decide +kernel
theorem dX8_init_23 : decode cX8_init 23 = .ok (.putfield 19, 3) := by decide +kernel
theorem dX8_init_26 : decode cX8_init 26 = .ok (.aload_n 0, 1) := by decide +kernel
theorem dX8_init_27 : decode cX8_init 27 = .ok (.new 23, 3) := by decide +kernel
theorem dX8_init_30 : decode cX8_init 30 = .ok (.dup, 1) := by decide +kernel
theorem dX8_init_31 : decode cX8_init 31 = .ok (.invokespecial 25, 3) := by decide +kernel
theorem dX8_init_34 : decode cX8_init 34 = .ok (.putfield 26, 3) := by decide +kernel
theorem dX8_init_37 : decode cX8_init 37 = .ok (.aload_n 0, 1) := by decide +kernel
theorem dX8_init_38 : decode cX8_init 38 = .ok (.new 30, 3) := by decide +kernel
theorem dX8_init_41 : decode cX8_init 41 = .ok (.dup, 1) := by decide +kernel
theorem dX8_init_42 : decode cX8_init 42 = .ok (.invokespecial 32, 3) := by decide +kernel
theorem dX8_init_45 : decode cX8_init 45 = .ok (.putfield 33, 3) := by decide +kernel
theorem dX8_init_48 : decode cX8_init 48 = .ok (.aload_n 0, 1) := by decide +kernel
theorem dX8_init_49 : decode cX8_init 49 = .ok (.new 30, 3) := by decide +kernel
theorem dX8_init_52 : decode cX8_init 52 = .ok (.dup, 1) := by decide +kernel
theorem dX8_init_53 : decode cX8_init 53 = .ok (.invokespecial 32, 3) := by decide +kernel
theorem dX8_init_56 : decode cX8_init 56 = .ok (.putfield 37, 3) := by decide +kernel
theorem dX8_init_59 : decode cX8_init 59 = .ok (.aload_n 0, 1) := by decide +kernel
theorem dX8_init_60 : decode cX8_init 60 = .ok (.new 30, 3) := by decide +kernel
theorem dX8_init_63 : decode cX8_init 63 = .ok (.dup, 1) := by decide +kernel
theorem dX8_init_64 : decode cX8_init 64 = .ok (.invokespecial 32, 3) := by decide +kernel
theorem dX8_init_67 : decode cX8_init 67 = .ok (.putfield 40, 3) := by decide +kernel
theorem dX8_init_70 : decode cX8_init 70 = .ok (.aload_n 0, 1) := by decide +kernel
theorem dX8_init_71 : decode cX8_init 71 = .ok (.iconst 2, 1) := by decide +kernel
theorem dX8_init_72 : decode cX8_init 72 = .ok (.anewarray 30, 3) := by decide +kernel
theorem dX8_init_75 : decode cX8_init 75 = .ok (.putfield 43, 3) := by decide +kernel
theorem dX8_init_78 : decode cX8_init 78 = .ok (.aload_n 0, 1) := by decide +kernel
theorem dX8_init_79 : decode cX8_init 79 = .ok (.new 47, 3) := by decide +kernel
theorem dX8_init_82 : decode cX8_init 82 = .ok (.dup, 1) := by decide +kernel
theorem dX8_init_83 : decode cX8_init 83 = .ok (.invokespecial 49, 3) := by decide +kernel
theorem dX8_init_86 : decode cX8_init 86 = .ok (.putfield 50, 3) := by decide +kernel
theorem dX8_init_89 : decode cX8_init 89 = .ok (.aload_n 0, 1) := by decide +kernel
theorem dX8_init_90 : decode cX8_init 90 = .ok (.new 47, 3) := by decide +kernel
theorem dX8_init_93 : decode cX8_init 93 = .ok (.dup, 1) := by decide +kernel
theorem dX8_init_94 : decode cX8_init 94 = .ok (.invokespecial 49, 3) := by decide +kernel
theorem dX8_init_97 : decode cX8_init 97 = .ok (.putfield 54, 3) := by decide +kernel
theorem dX8_init_100 : decode cX8_init 100 = .ok (.aload_n 0, 1) := by decide +kernel
theorem dX8_init_101 : decode cX8_init 101 = .ok (.new 57, 3) := by decide +kernel
theorem dX8_init_104 : decode cX8_init 104 = .ok (.dup, 1) := by decide +kernel
theorem dX8_init_105 : decode cX8_init 105 = .ok (.invokespecial 59, 3) := by decide +kernel
theorem dX8_init_108 : decode cX8_init 108 = .ok (.putfield 60, 3) := by decide +kernel
theorem dX8_init_111 : decode cX8_init 111 = .ok (.iconst 0, 1) := by decide +kernel
theorem dX8_init_112 : decode cX8_init 112 = .ok (.istore_n 1, 1) := by decide +kernel
theorem dX8_init_113 : decode cX8_init 113 = .ok (.iload_n 1, 1) := by decide +kernel
theorem dX8_init_114 : decode cX8_init 114 = .ok (.iconst 2, 1) := by decide +kernel
theorem dX8_init_115 : decode cX8_init 115 = .ok (.if_icmp .ge 22, 3) := by decide +kernel
theorem dX8_init_118 : decode cX8_init 118 = .ok (.aload_n 0, 1) := by decide +kernel
theorem dX8_init_119 : decode cX8_init 119 = .ok (.getfield 43, 3) := by decide +kernel
theorem dX8_init_122 : decode cX8_init 122 = .ok (.iload_n 1, 1) := by decide +kernel
theorem dX8_init_123 : decode cX8_init 123 = .ok (.new 30, 3) := by decide +kernel
theorem dX8_init_126 : decode cX8_init 126 = .ok (.dup, 1) := by decide +kernel
theorem dX8_init_127 : decode cX8_init 127 = .ok (.invokespecial 32, 3) := by decide +kernel
theorem dX8_init_130 : decode cX8_init 130 = .ok (.aastore, 1) := by decide +kernel
theorem dX8_init_131 : decode cX8_init 131 = .ok (.iinc 1 1, 3) := by decide +kernel
theorem dX8_init_134 : decode cX8_init 134 = .ok (.goto (-21), 3) := by decide +kernel
theorem dX8_init_137 : decode cX8_init 137 = .ok (.return_, 1) := by decide +kernel
theorem dX8_write_0 : decode cX8_write 0 = .ok (.iload_n 3, 1) := by decide +kernel
theorem dX8_write_1 : decode cX8_write 1 = .ok (.iconst 1, 1) := by decide +kernel
theorem dX8_write_2 : decode cX8_write 2 = .ok (.if_icmp .lt 9, 3) := by decide +kernel
theorem dX8_write_5 : decode cX8_write 5 = .ok (.iload_n 3, 1) := by decide +kernel
theorem dX8_write_6 : decode cX8_write 6 = .ok (.bipush 8, 2) := by decide +kernel
theorem dX8_write_8 : decode cX8_write 8 = .ok (.if_icmp .le 6, 3) := by decide +kernel
theorem dX8_write_11 : decode cX8_write 11 = .ok (.bipush (-3), 2) := by decide +kernel
theorem dX8_write_13 : decode cX8_write 13 = .ok (.ireturn, 1) := by decide +kernel
theorem dX8_write_14 : decode cX8_write 14 = .ok (.aload_n 0, 1) := by decide +kernel
theorem dX8_write_15 : decode cX8_write 15 = .ok (.getfield 12, 3) := by decide +kernel
theorem dX8_write_18 : decode cX8_write 18 = .ok (.iload_n 3, 1) := by decide +kernel
theorem dX8_write_19 : decode cX8_write 19 = .ok (.invokevirtual 64, 3) := by decide +kernel
theorem dX8_write_22 : decode cX8_write 22 = .ok (.ifCond .ne 6, 3) := by decide +kernel
theorem dX8_write_25 : decode cX8_write 25 = .ok (.bipush (-5), 2) := by decide +kernel
theorem dX8_write_27 : decode cX8_write 27 = .ok (.ireturn, 1) := by decide +kernel
theorem dX8_write_28 : decode cX8_write 28 = .ok (.aload_n 0, 1) := by decide +kernel
theorem dX8_write_29 : decode cX8_write 29 = .ok (.getfield 12, 3) := by decide +kernel
theorem dX8_write_32 : decode cX8_write 32 = .ok (.lload_n 1, 1) := by decide +kernel
theorem dX8_write_33 : decode cX8_write 33 = .ok (.iload_n 3, 1) := by decide +kernel
theorem dX8_write_34 : decode cX8_write 34 = .ok (.invokevirtual 68, 3) := by decide +kernel
theorem dX8_write_37 : decode cX8_write 37 = .ok (.aload_n 0, 1) := by decide +kernel
theorem dX8_write_38 : decode cX8_write 38 = .ok (.getfield 12, 3) := by decide +kernel
theorem dX8_write_41 : decode cX8_write 41 = .ok (.getfield 72, 3) := by decide +kernel
theorem dX8_write_44 : decode cX8_write 44 = .ok (.ireturn, 1) := by decide +kernel
theorem dX8_erase_0 : decode cX8_erase 0 = .ok (.aload_n 0, 1) := by decide +kernel
theorem dX8_erase_1 : decode cX8_erase 1 = .ok (.getfield 12, 3) := by decide +kernel
theorem dX8_erase_4 : decode cX8_erase 4 = .ok (.getfield 72, 3) := by decide +kernel
theorem dX8_erase_7 : decode cX8_erase 7 = .ok (.istore_n 1, 1) := by decide +kernel
theorem dX8_erase_8 : decode cX8_erase 8 = .ok (.aload_n 0, 1) := by decide +kernel
theorem dX8_erase_9 : decode cX8_erase 9 = .ok (.getfield 12, 3) := by decide +kernel
theorem dX8_erase_12 : decode cX8_erase 12 = .ok (.iconst 0, 1) := by decide +kernel
theorem dX8_erase_13 : decode cX8_erase 13 = .ok (.putfield 72, 3) := by decide +kernel
theorem dX8_erase_16 : decode cX8_erase 16 = .ok (.iload_n 1, 1) := by decide +kernel
theorem dX8_erase_17 : decode cX8_erase 17 = .ok (.ireturn, 1) := by decide +kernel
theorem dX8_fault_0 : decode cX8_fault 0 = .ok (.aload_n 0, 1) := by decide +kernel
theorem dX8_fault_1 : decode cX8_fault 1 = .ok (.getfield 12, 3) := by decide +kernel
theorem dX8_fault_4 : decode cX8_fault 4 = .ok (.aconst_null, 1) := by decide +kernel
theorem dX8_fault_5 : decode cX8_fault 5 = .ok (.invokevirtual 76, 3) := by decide +kernel
theorem dX8_fault_8 : decode cX8_fault 8 = .ok (.ireturn, 1) := by decide +kernel
theorem dX8_cliff_0 : decode cX8_cliff 0 = .ok (.aload_n 0, 1) := by decide +kernel
theorem dX8_cliff_1 : decode cX8_cliff 1 = .ok (.getfield 12, 3) := by decide +kernel
theorem dX8_cliff_4 : decode cX8_cliff 4 = .ok (.aconst_null, 1) := by decide +kernel
theorem dX8_cliff_5 : decode cX8_cliff 5 = .ok (.invokevirtual 76, 3) := by decide +kernel
theorem dX8_cliff_8 : decode cX8_cliff 8 = .ok (.iconst (-1), 1) := by decide +kernel
theorem dX8_cliff_9 : decode cX8_cliff 9 = .ok (.if_icmp .eq 6, 3) := by decide +kernel
theorem dX8_cliff_12 : decode cX8_cliff 12 = .ok (.bipush (-4), 2) := by decide +kernel
theorem dX8_cliff_14 : decode cX8_cliff 14 = .ok (.ireturn, 1) := by decide +kernel
theorem dX8_cliff_15 : decode cX8_cliff 15 = .ok (.aload_n 0, 1) := by decide +kernel
theorem dX8_cliff_16 : decode cX8_cliff 16 = .ok (.getfield 12, 3) := by decide +kernel
theorem dX8_cliff_19 : decode cX8_cliff 19 = .ok (.aload_n 0, 1) := by decide +kernel
theorem dX8_cliff_20 : decode cX8_cliff 20 = .ok (.getfield 19, 3) := by decide +kernel
theorem dX8_cliff_23 : decode cX8_cliff 23 = .ok (.invokevirtual 76, 3) := by decide +kernel
theorem dX8_cliff_26 : decode cX8_cliff 26 = .ok (.pop, 1) := by decide +kernel
theorem dX8_cliff_27 : decode cX8_cliff 27 = .ok (.aload_n 0, 1) := by decide +kernel
theorem dX8_cliff_28 : decode cX8_cliff 28 = .ok (.getfield 12, 3) := by decide +kernel
theorem dX8_cliff_31 : decode cX8_cliff 31 = .ok (.iconst 0, 1) := by decide +kernel
theorem dX8_cliff_32 : decode cX8_cliff 32 = .ok (.putfield 72, 3) := by decide +kernel
theorem dX8_cliff_35 : decode cX8_cliff 35 = .ok (.aload_n 0, 1) := by decide +kernel
theorem dX8_cliff_36 : decode cX8_cliff 36 = .ok (.getfield 26, 3) := by decide +kernel
theorem dX8_cliff_39 : decode cX8_cliff 39 = .ok (.aload_n 0, 1) := by decide +kernel
theorem dX8_cliff_40 : decode cX8_cliff 40 = .ok (.getfield 19, 3) := by decide +kernel
theorem dX8_cliff_43 : decode cX8_cliff 43 = .ok (.invokevirtual 80, 3) := by decide +kernel
theorem dX8_cliff_46 : decode cX8_cliff 46 = .ok (.aload_n 0, 1) := by decide +kernel
theorem dX8_cliff_47 : decode cX8_cliff 47 = .ok (.getfield 37, 3) := by decide +kernel
theorem dX8_cliff_50 : decode cX8_cliff 50 = .ok (.aload_n 0, 1) := by decide +kernel
theorem dX8_cliff_51 : decode cX8_cliff 51 = .ok (.getfield 19, 3) := by decide +kernel
theorem dX8_cliff_54 : decode cX8_cliff 54 = .ok (.invokevirtual 84, 3) := by decide +kernel
theorem dX8_cliff_57 : decode cX8_cliff 57 = .ok (.aload_n 0, 1) := by decide +kernel
theorem dX8_cliff_58 : decode cX8_cliff 58 = .ok (.getfield 33, 3) := by decide +kernel
theorem dX8_cliff_61 : decode cX8_cliff 61 = .ok (.aload_n 0, 1) := by decide +kernel
theorem dX8_cliff_62 : decode cX8_cliff 62 = .ok (.getfield 37, 3) := by decide +kernel
theorem dX8_cliff_65 : decode cX8_cliff 65 = .ok (.invokevirtual 87, 3) := by decide +kernel
theorem dX8_cliff_68 : decode cX8_cliff 68 = .ok (.aload_n 0, 1) := by decide +kernel
theorem dX8_cliff_69 : decode cX8_cliff 69 = .ok (.iconst 0, 1) := by decide +kernel
theorem dX8_cliff_70 : decode cX8_cliff 70 = .ok (.putfield 91, 3) := by decide +kernel
theorem dX8_cliff_73 : decode cX8_cliff 73 = .ok (.aload_n 0, 1) := by decide +kernel
theorem dX8_cliff_74 : decode cX8_cliff 74 = .ok (.getfield 50, 3) := by decide +kernel
theorem dX8_cliff_77 : decode cX8_cliff 77 = .ok (.invokevirtual 94, 3) := by decide +kernel
theorem dX8_cliff_80 : decode cX8_cliff 80 = .ok (.aload_n 0, 1) := by decide +kernel
theorem dX8_cliff_81 : decode cX8_cliff 81 = .ok (.getfield 54, 3) := by decide +kernel
theorem dX8_cliff_84 : decode cX8_cliff 84 = .ok (.invokevirtual 94, 3) := by decide +kernel
theorem dX8_cliff_87 : decode cX8_cliff 87 = .ok (.aload_n 0, 1) := by decide +kernel
theorem dX8_cliff_88 : decode cX8_cliff 88 = .ok (.getfield 12, 3) := by decide +kernel
theorem dX8_cliff_91 : decode cX8_cliff 91 = .ok (.getfield 97, 3) := by decide +kernel
theorem dX8_cliff_94 : decode cX8_cliff 94 = .ok (.ireturn, 1) := by decide +kernel
theorem dX8_wind_0 : decode cX8_wind 0 = .ok (.iload_n 1, 1) := by decide +kernel
theorem dX8_wind_1 : decode cX8_wind 1 = .ok (.invokestatic 100, 3) := by decide +kernel
theorem dX8_wind_4 : decode cX8_wind 4 = .ok (.ifCond .eq 10, 3) := by decide +kernel
theorem dX8_wind_7 : decode cX8_wind 7 = .ok (.iload_n 2, 1) := by decide +kernel
theorem dX8_wind_8 : decode cX8_wind 8 = .ok (.invokestatic 103, 3) := by decide +kernel
theorem dX8_wind_11 : decode cX8_wind 11 = .ok (.ifCond .ne 6, 3) := by decide +kernel
theorem dX8_wind_14 : decode cX8_wind 14 = .ok (.bipush (-2), 2) := by decide +kernel
theorem dX8_wind_16 : decode cX8_wind 16 = .ok (.ireturn, 1) := by decide +kernel
theorem dX8_wind_17 : decode cX8_wind 17 = .ok (.iload_n 3, 1) := by decide +kernel
theorem dX8_wind_18 : decode cX8_wind 18 = .ok (.lookupswitch 54 #[(0, 26), (1, 39)], 26) := by decide +kernel
theorem dX8_wind_44 : decode cX8_wind 44 = .ok (.aload_n 0, 1) := by decide +kernel
theorem dX8_wind_45 : decode cX8_wind 45 = .ok (.getfield 19, 3) := by decide +kernel
theorem dX8_wind_48 : decode cX8_wind 48 = .ok (.getfield 106, 3) := by decide +kernel
theorem dX8_wind_51 : decode cX8_wind 51 = .ok (.iload_n 1, 1) := by decide +kernel
theorem dX8_wind_52 : decode cX8_wind 52 = .ok (.iload_n 2, 1) := by decide +kernel
theorem dX8_wind_53 : decode cX8_wind 53 = .ok (.invokestatic 110, 3) := by decide +kernel
theorem dX8_wind_56 : decode cX8_wind 56 = .ok (.ireturn, 1) := by decide +kernel
theorem dX8_wind_57 : decode cX8_wind 57 = .ok (.aload_n 0, 1) := by decide +kernel
theorem dX8_wind_58 : decode cX8_wind 58 = .ok (.getfield 19, 3) := by decide +kernel
theorem dX8_wind_61 : decode cX8_wind 61 = .ok (.getfield 114, 3) := by decide +kernel
theorem dX8_wind_64 : decode cX8_wind 64 = .ok (.iload_n 1, 1) := by decide +kernel
theorem dX8_wind_65 : decode cX8_wind 65 = .ok (.iload_n 2, 1) := by decide +kernel
theorem dX8_wind_66 : decode cX8_wind 66 = .ok (.invokestatic 110, 3) := by decide +kernel
theorem dX8_wind_69 : decode cX8_wind 69 = .ok (.iconst 3, 1) := by decide +kernel
theorem dX8_wind_70 : decode cX8_wind 70 = .ok (.iadd, 1) := by decide +kernel
theorem dX8_wind_71 : decode cX8_wind 71 = .ok (.ireturn, 1) := by decide +kernel
theorem dX8_wind_72 : decode cX8_wind 72 = .ok (.bipush (-3), 2) := by decide +kernel
theorem dX8_wind_74 : decode cX8_wind 74 = .ok (.ireturn, 1) := by decide +kernel
theorem dX8_shoal_0 : decode cX8_shoal 0 = .ok (.aload_n 0, 1) := by decide +kernel
theorem dX8_shoal_1 : decode cX8_shoal 1 = .ok (.getfield 19, 3) := by decide +kernel
theorem dX8_shoal_4 : decode cX8_shoal 4 = .ok (.iload_n 1, 1) := by decide +kernel
theorem dX8_shoal_5 : decode cX8_shoal 5 = .ok (.invokevirtual 117, 3) := by decide +kernel
theorem dX8_shoal_8 : decode cX8_shoal 8 = .ok (.ifCond .ne 6, 3) := by decide +kernel
theorem dX8_shoal_11 : decode cX8_shoal 11 = .ok (.bipush (-2), 2) := by decide +kernel
theorem dX8_shoal_13 : decode cX8_shoal 13 = .ok (.ireturn, 1) := by decide +kernel
theorem dX8_shoal_14 : decode cX8_shoal 14 = .ok (.iload_n 2, 1) := by decide +kernel
theorem dX8_shoal_15 : decode cX8_shoal 15 = .ok (.tableswitch 73 0 2 #[25, 44, 63], 25) := by decide +kernel
theorem dX8_shoal_40 : decode cX8_shoal 40 = .ok (.aload_n 0, 1) := by decide +kernel
theorem dX8_shoal_41 : decode cX8_shoal 41 = .ok (.getfield 19, 3) := by decide +kernel
theorem dX8_shoal_44 : decode cX8_shoal 44 = .ok (.iload_n 1, 1) := by decide +kernel
theorem dX8_shoal_45 : decode cX8_shoal 45 = .ok (.aload_n 0, 1) := by decide +kernel
theorem dX8_shoal_46 : decode cX8_shoal 46 = .ok (.getfield 33, 3) := by decide +kernel
theorem dX8_shoal_49 : decode cX8_shoal 49 = .ok (.getfield 120, 3) := by decide +kernel
theorem dX8_shoal_52 : decode cX8_shoal 52 = .ok (.invokevirtual 123, 3) := by decide +kernel
theorem dX8_shoal_55 : decode cX8_shoal 55 = .ok (.bipush 100, 2) := by decide +kernel
theorem dX8_shoal_57 : decode cX8_shoal 57 = .ok (.iadd, 1) := by decide +kernel
theorem dX8_shoal_58 : decode cX8_shoal 58 = .ok (.ireturn, 1) := by decide +kernel
theorem dX8_shoal_59 : decode cX8_shoal 59 = .ok (.aload_n 0, 1) := by decide +kernel
theorem dX8_shoal_60 : decode cX8_shoal 60 = .ok (.getfield 19, 3) := by decide +kernel
theorem dX8_shoal_63 : decode cX8_shoal 63 = .ok (.iload_n 1, 1) := by decide +kernel
theorem dX8_shoal_64 : decode cX8_shoal 64 = .ok (.aload_n 0, 1) := by decide +kernel
theorem dX8_shoal_65 : decode cX8_shoal 65 = .ok (.getfield 33, 3) := by decide +kernel
theorem dX8_shoal_68 : decode cX8_shoal 68 = .ok (.getfield 120, 3) := by decide +kernel
theorem dX8_shoal_71 : decode cX8_shoal 71 = .ok (.invokevirtual 127, 3) := by decide +kernel
theorem dX8_shoal_74 : decode cX8_shoal 74 = .ok (.bipush 100, 2) := by decide +kernel
theorem dX8_shoal_76 : decode cX8_shoal 76 = .ok (.iadd, 1) := by decide +kernel
theorem dX8_shoal_77 : decode cX8_shoal 77 = .ok (.ireturn, 1) := by decide +kernel
theorem dX8_shoal_78 : decode cX8_shoal 78 = .ok (.aload_n 0, 1) := by decide +kernel
theorem dX8_shoal_79 : decode cX8_shoal 79 = .ok (.getfield 33, 3) := by decide +kernel
theorem dX8_shoal_82 : decode cX8_shoal 82 = .ok (.getfield 130, 3) := by decide +kernel
theorem dX8_shoal_85 : decode cX8_shoal 85 = .ok (.iload_n 1, 1) := by decide +kernel
theorem dX8_shoal_86 : decode cX8_shoal 86 = .ok (.iaload, 1) := by decide +kernel
theorem dX8_shoal_87 : decode cX8_shoal 87 = .ok (.ireturn, 1) := by decide +kernel
theorem dX8_shoal_88 : decode cX8_shoal 88 = .ok (.bipush (-3), 2) := by decide +kernel
theorem dX8_shoal_90 : decode cX8_shoal 90 = .ok (.ireturn, 1) := by decide +kernel
theorem dX8_ask_0 : decode cX8_ask 0 = .ok (.aload_n 0, 1) := by decide +kernel
theorem dX8_ask_1 : decode cX8_ask 1 = .ok (.getfield 19, 3) := by decide +kernel
theorem dX8_ask_4 : decode cX8_ask 4 = .ok (.iload_n 1, 1) := by decide +kernel
theorem dX8_ask_5 : decode cX8_ask 5 = .ok (.invokevirtual 133, 3) := by decide +kernel
theorem dX8_ask_8 : decode cX8_ask 8 = .ok (.ifCond .ne 6, 3) := by decide +kernel
theorem dX8_ask_11 : decode cX8_ask 11 = .ok (.bipush (-2), 2) := by decide +kernel
theorem dX8_ask_13 : decode cX8_ask 13 = .ok (.ireturn, 1) := by decide +kernel
theorem dX8_ask_14 : decode cX8_ask 14 = .ok (.iload_n 2, 1) := by decide +kernel
theorem dX8_ask_15 : decode cX8_ask 15 = .ok (.ifCond .lt 8, 3) := by decide +kernel
theorem dX8_ask_18 : decode cX8_ask 18 = .ok (.iload_n 2, 1) := by decide +kernel
theorem dX8_ask_19 : decode cX8_ask 19 = .ok (.iconst 4, 1) := by decide +kernel
theorem dX8_ask_20 : decode cX8_ask 20 = .ok (.if_icmp .lt 6, 3) := by decide +kernel
theorem dX8_ask_23 : decode cX8_ask 23 = .ok (.bipush (-3), 2) := by decide +kernel
theorem dX8_ask_25 : decode cX8_ask 25 = .ok (.ireturn, 1) := by decide +kernel
theorem dX8_ask_26 : decode cX8_ask 26 = .ok (.aload_n 0, 1) := by decide +kernel
theorem dX8_ask_27 : decode cX8_ask 27 = .ok (.getfield 33, 3) := by decide +kernel
theorem dX8_ask_30 : decode cX8_ask 30 = .ok (.getfield 136, 3) := by decide +kernel
theorem dX8_ask_33 : decode cX8_ask 33 = .ok (.iload_n 1, 1) := by decide +kernel
theorem dX8_ask_34 : decode cX8_ask 34 = .ok (.iaload, 1) := by decide +kernel
theorem dX8_ask_35 : decode cX8_ask 35 = .ok (.istore_n 3, 1) := by decide +kernel
theorem dX8_ask_36 : decode cX8_ask 36 = .ok (.aload_n 0, 1) := by decide +kernel
theorem dX8_ask_37 : decode cX8_ask 37 = .ok (.getfield 33, 3) := by decide +kernel
theorem dX8_ask_40 : decode cX8_ask 40 = .ok (.getfield 136, 3) := by decide +kernel
theorem dX8_ask_43 : decode cX8_ask 43 = .ok (.iload_n 1, 1) := by decide +kernel
theorem dX8_ask_44 : decode cX8_ask 44 = .ok (.iload_n 2, 1) := by decide +kernel
theorem dX8_ask_45 : decode cX8_ask 45 = .ok (.iastore, 1) := by decide +kernel
theorem dX8_ask_46 : decode cX8_ask 46 = .ok (.iload_n 3, 1) := by decide +kernel
theorem dX8_ask_47 : decode cX8_ask 47 = .ok (.ireturn, 1) := by decide +kernel
theorem dX8_go_0 : decode cX8_go 0 = .ok (.iload_n 1, 1) := by decide +kernel
theorem dX8_go_1 : decode cX8_go 1 = .ok (.iconst 1, 1) := by decide +kernel
theorem dX8_go_2 : decode cX8_go 2 = .ok (.if_icmp .lt 9, 3) := by decide +kernel
theorem dX8_go_5 : decode cX8_go 5 = .ok (.iload_n 1, 1) := by decide +kernel
theorem dX8_go_6 : decode cX8_go 6 = .ok (.bipush 12, 2) := by decide +kernel
theorem dX8_go_8 : decode cX8_go 8 = .ok (.if_icmp .le 6, 3) := by decide +kernel
theorem dX8_go_11 : decode cX8_go 11 = .ok (.bipush (-3), 2) := by decide +kernel
theorem dX8_go_13 : decode cX8_go 13 = .ok (.ireturn, 1) := by decide +kernel
theorem dX8_go_14 : decode cX8_go 14 = .ok (.aload_n 0, 1) := by decide +kernel
theorem dX8_go_15 : decode cX8_go 15 = .ok (.getfield 33, 3) := by decide +kernel
theorem dX8_go_18 : decode cX8_go 18 = .ok (.iload_n 1, 1) := by decide +kernel
theorem dX8_go_19 : decode cX8_go 19 = .ok (.aload_n 0, 1) := by decide +kernel
theorem dX8_go_20 : decode cX8_go 20 = .ok (.getfield 19, 3) := by decide +kernel
theorem dX8_go_23 : decode cX8_go 23 = .ok (.aload_n 0, 1) := by decide +kernel
theorem dX8_go_24 : decode cX8_go 24 = .ok (.getfield 26, 3) := by decide +kernel
theorem dX8_go_27 : decode cX8_go 27 = .ok (.aload_n 0, 1) := by decide +kernel
theorem dX8_go_28 : decode cX8_go 28 = .ok (.getfield 19, 3) := by decide +kernel
theorem dX8_go_31 : decode cX8_go 31 = .ok (.getfield 139, 3) := by decide +kernel
theorem dX8_go_34 : decode cX8_go 34 = .ok (.invokevirtual 142, 3) := by decide +kernel
theorem dX8_go_37 : decode cX8_go 37 = .ok (.aload_n 0, 1) := by decide +kernel
theorem dX8_go_38 : decode cX8_go 38 = .ok (.getfield 50, 3) := by decide +kernel
theorem dX8_go_41 : decode cX8_go 41 = .ok (.invokevirtual 94, 3) := by decide +kernel
theorem dX8_go_44 : decode cX8_go 44 = .ok (.aload_n 0, 1) := by decide +kernel
theorem dX8_go_45 : decode cX8_go 45 = .ok (.getfield 33, 3) := by decide +kernel
theorem dX8_go_48 : decode cX8_go 48 = .ok (.getfield 120, 3) := by decide +kernel
theorem dX8_go_51 : decode cX8_go 51 = .ok (.ireturn, 1) := by decide +kernel
theorem dX8_kite_0 : decode cX8_kite 0 = .ok (.aload_n 0, 1) := by decide +kernel
theorem dX8_kite_1 : decode cX8_kite 1 = .ok (.getfield 19, 3) := by decide +kernel
theorem dX8_kite_4 : decode cX8_kite 4 = .ok (.iload_n 1, 1) := by decide +kernel
theorem dX8_kite_5 : decode cX8_kite 5 = .ok (.invokevirtual 133, 3) := by decide +kernel
theorem dX8_kite_8 : decode cX8_kite 8 = .ok (.ifCond .ne 6, 3) := by decide +kernel
theorem dX8_kite_11 : decode cX8_kite 11 = .ok (.bipush (-2), 2) := by decide +kernel
theorem dX8_kite_13 : decode cX8_kite 13 = .ok (.ireturn, 1) := by decide +kernel
theorem dX8_kite_14 : decode cX8_kite 14 = .ok (.iload_n 2, 1) := by decide +kernel
theorem dX8_kite_15 : decode cX8_kite 15 = .ok (.tableswitch 93 0 4 #[33, 53, 63, 73, 83], 33) := by decide +kernel
theorem dX8_kite_48 : decode cX8_kite 48 = .ok (.aload_n 0, 1) := by decide +kernel
theorem dX8_kite_49 : decode cX8_kite 49 = .ok (.getfield 33, 3) := by decide +kernel
theorem dX8_kite_52 : decode cX8_kite 52 = .ok (.getfield 146, 3) := by decide +kernel
theorem dX8_kite_55 : decode cX8_kite 55 = .ok (.iload_n 1, 1) := by decide +kernel
theorem dX8_kite_56 : decode cX8_kite 56 = .ok (.invokestatic 149, 3) := by decide +kernel
theorem dX8_kite_59 : decode cX8_kite 59 = .ok (.ifCond .eq 7, 3) := by decide +kernel
theorem dX8_kite_62 : decode cX8_kite 62 = .ok (.iconst 1, 1) := by decide +kernel
theorem dX8_kite_63 : decode cX8_kite 63 = .ok (.goto 4, 3) := by decide +kernel
theorem dX8_kite_66 : decode cX8_kite 66 = .ok (.iconst 0, 1) := by decide +kernel
theorem dX8_kite_67 : decode cX8_kite 67 = .ok (.ireturn, 1) := by decide +kernel
theorem dX8_kite_68 : decode cX8_kite 68 = .ok (.aload_n 0, 1) := by decide +kernel
theorem dX8_kite_69 : decode cX8_kite 69 = .ok (.getfield 33, 3) := by decide +kernel
theorem dX8_kite_72 : decode cX8_kite 72 = .ok (.getfield 136, 3) := by decide +kernel
theorem dX8_kite_75 : decode cX8_kite 75 = .ok (.iload_n 1, 1) := by decide +kernel
theorem dX8_kite_76 : decode cX8_kite 76 = .ok (.iaload, 1) := by decide +kernel
theorem dX8_kite_77 : decode cX8_kite 77 = .ok (.ireturn, 1) := by decide +kernel
theorem dX8_kite_78 : decode cX8_kite 78 = .ok (.aload_n 0, 1) := by decide +kernel
theorem dX8_kite_79 : decode cX8_kite 79 = .ok (.getfield 33, 3) := by decide +kernel
theorem dX8_kite_82 : decode cX8_kite 82 = .ok (.getfield 153, 3) := by decide +kernel
theorem dX8_kite_85 : decode cX8_kite 85 = .ok (.iload_n 1, 1) := by decide +kernel
theorem dX8_kite_86 : decode cX8_kite 86 = .ok (.iaload, 1) := by decide +kernel
theorem dX8_kite_87 : decode cX8_kite 87 = .ok (.ireturn, 1) := by decide +kernel
theorem dX8_kite_88 : decode cX8_kite 88 = .ok (.aload_n 0, 1) := by decide +kernel
theorem dX8_kite_89 : decode cX8_kite 89 = .ok (.getfield 33, 3) := by decide +kernel
theorem dX8_kite_92 : decode cX8_kite 92 = .ok (.getfield 156, 3) := by decide +kernel
theorem dX8_kite_95 : decode cX8_kite 95 = .ok (.iload_n 1, 1) := by decide +kernel
theorem dX8_kite_96 : decode cX8_kite 96 = .ok (.iaload, 1) := by decide +kernel
theorem dX8_kite_97 : decode cX8_kite 97 = .ok (.ireturn, 1) := by decide +kernel
theorem dX8_kite_98 : decode cX8_kite 98 = .ok (.aload_n 0, 1) := by decide +kernel
theorem dX8_kite_99 : decode cX8_kite 99 = .ok (.getfield 33, 3) := by decide +kernel
theorem dX8_kite_102 : decode cX8_kite 102 = .ok (.getfield 159, 3) := by decide +kernel
theorem dX8_kite_105 : decode cX8_kite 105 = .ok (.iload_n 1, 1) := by decide +kernel
theorem dX8_kite_106 : decode cX8_kite 106 = .ok (.iaload, 1) := by decide +kernel
theorem dX8_kite_107 : decode cX8_kite 107 = .ok (.ireturn, 1) := by decide +kernel
theorem dX8_kite_108 : decode cX8_kite 108 = .ok (.bipush (-3), 2) := by decide +kernel
theorem dX8_kite_110 : decode cX8_kite 110 = .ok (.ireturn, 1) := by decide +kernel
theorem dX8_where_0 : decode cX8_where 0 = .ok (.aload_n 0, 1) := by decide +kernel
theorem dX8_where_1 : decode cX8_where 1 = .ok (.iload_n 1, 1) := by decide +kernel
theorem dX8_where_2 : decode cX8_where 2 = .ok (.iload_n 2, 1) := by decide +kernel
theorem dX8_where_3 : decode cX8_where 3 = .ok (.iload_n 3, 1) := by decide +kernel
theorem dX8_where_4 : decode cX8_where 4 = .ok (.invokevirtual 162, 3) := by decide +kernel
theorem dX8_where_7 : decode cX8_where 7 = .ok (.ifCond .ne 6, 3) := by decide +kernel
theorem dX8_where_10 : decode cX8_where 10 = .ok (.bipush (-2), 2) := by decide +kernel
theorem dX8_where_12 : decode cX8_where 12 = .ok (.ireturn, 1) := by decide +kernel
theorem dX8_where_13 : decode cX8_where 13 = .ok (.aload_n 0, 1) := by decide +kernel
theorem dX8_where_14 : decode cX8_where 14 = .ok (.getfield 19, 3) := by decide +kernel
theorem dX8_where_17 : decode cX8_where 17 = .ok (.iload_n 1, 1) := by decide +kernel
theorem dX8_where_18 : decode cX8_where 18 = .ok (.iload_n 2, 1) := by decide +kernel
theorem dX8_where_19 : decode cX8_where 19 = .ok (.iload_n 3, 1) := by decide +kernel
theorem dX8_where_20 : decode cX8_where 20 = .ok (.invokevirtual 166, 3) := by decide +kernel
theorem dX8_where_23 : decode cX8_where 23 = .ok (.ifCond .ne 5, 3) := by decide +kernel
theorem dX8_where_26 : decode cX8_where 26 = .ok (.iconst (-1), 1) := by decide +kernel
theorem dX8_where_27 : decode cX8_where 27 = .ok (.ireturn, 1) := by decide +kernel
theorem dX8_where_28 : decode cX8_where 28 = .ok (.aload_n 0, 1) := by decide +kernel
theorem dX8_where_29 : decode cX8_where 29 = .ok (.getfield 19, 3) := by decide +kernel
theorem dX8_where_32 : decode cX8_where 32 = .ok (.iload_n 1, 1) := by decide +kernel
theorem dX8_where_33 : decode cX8_where 33 = .ok (.iload_n 2, 1) := by decide +kernel
theorem dX8_where_34 : decode cX8_where 34 = .ok (.iload_n 3, 1) := by decide +kernel
theorem dX8_where_35 : decode cX8_where 35 = .ok (.invokevirtual 169, 3) := by decide +kernel
theorem dX8_where_38 : decode cX8_where 38 = .ok (.bipush 10, 2) := by decide +kernel
theorem dX8_where_40 : decode cX8_where 40 = .ok (.aload_n 0, 1) := by decide +kernel
theorem dX8_where_41 : decode cX8_where 41 = .ok (.getfield 19, 3) := by decide +kernel
theorem dX8_where_44 : decode cX8_where 44 = .ok (.iload_n 1, 1) := by decide +kernel
theorem dX8_where_45 : decode cX8_where 45 = .ok (.iload_n 2, 1) := by decide +kernel
theorem dX8_where_46 : decode cX8_where 46 = .ok (.invokevirtual 173, 3) := by decide +kernel
theorem dX8_where_49 : decode cX8_where 49 = .ok (.imul, 1) := by decide +kernel
theorem dX8_where_50 : decode cX8_where 50 = .ok (.iadd, 1) := by decide +kernel
theorem dX8_where_51 : decode cX8_where 51 = .ok (.ireturn, 1) := by decide +kernel
theorem dX8_hinders_0 : decode cX8_hinders 0 = .ok (.aload_n 0, 1) := by decide +kernel
theorem dX8_hinders_1 : decode cX8_hinders 1 = .ok (.iload_n 1, 1) := by decide +kernel
theorem dX8_hinders_2 : decode cX8_hinders 2 = .ok (.iload_n 2, 1) := by decide +kernel
theorem dX8_hinders_3 : decode cX8_hinders 3 = .ok (.iload_n 3, 1) := by decide +kernel
theorem dX8_hinders_4 : decode cX8_hinders 4 = .ok (.invokevirtual 162, 3) := by decide +kernel
theorem dX8_hinders_7 : decode cX8_hinders 7 = .ok (.ifCond .ne 6, 3) := by decide +kernel
theorem dX8_hinders_10 : decode cX8_hinders 10 = .ok (.bipush (-2), 2) := by decide +kernel
theorem dX8_hinders_12 : decode cX8_hinders 12 = .ok (.ireturn, 1) := by decide +kernel
theorem dX8_hinders_13 : decode cX8_hinders 13 = .ok (.aload_n 0, 1) := by decide +kernel
theorem dX8_hinders_14 : decode cX8_hinders 14 = .ok (.getfield 19, 3) := by decide +kernel
theorem dX8_hinders_17 : decode cX8_hinders 17 = .ok (.iload_n 1, 1) := by decide +kernel
theorem dX8_hinders_18 : decode cX8_hinders 18 = .ok (.iload_n 2, 1) := by decide +kernel
theorem dX8_hinders_19 : decode cX8_hinders 19 = .ok (.iload_n 3, 1) := by decide +kernel
theorem dX8_hinders_20 : decode cX8_hinders 20 = .ok (.invokevirtual 166, 3) := by decide +kernel
theorem dX8_hinders_23 : decode cX8_hinders 23 = .ok (.ifCond .ne 5, 3) := by decide +kernel
theorem dX8_hinders_26 : decode cX8_hinders 26 = .ok (.iconst 2, 1) := by decide +kernel
theorem dX8_hinders_27 : decode cX8_hinders 27 = .ok (.ireturn, 1) := by decide +kernel
theorem dX8_hinders_28 : decode cX8_hinders 28 = .ok (.aload_n 0, 1) := by decide +kernel
theorem dX8_hinders_29 : decode cX8_hinders 29 = .ok (.getfield 19, 3) := by decide +kernel
theorem dX8_hinders_32 : decode cX8_hinders 32 = .ok (.iload_n 1, 1) := by decide +kernel
theorem dX8_hinders_33 : decode cX8_hinders 33 = .ok (.iload_n 2, 1) := by decide +kernel
theorem dX8_hinders_34 : decode cX8_hinders 34 = .ok (.iload_n 3, 1) := by decide +kernel
theorem dX8_hinders_35 : decode cX8_hinders 35 = .ok (.invokevirtual 176, 3) := by decide +kernel
theorem dX8_hinders_38 : decode cX8_hinders 38 = .ok (.ifCond .eq 7, 3) := by decide +kernel
theorem dX8_hinders_41 : decode cX8_hinders 41 = .ok (.iconst 0, 1) := by decide +kernel
theorem dX8_hinders_42 : decode cX8_hinders 42 = .ok (.goto 4, 3) := by decide +kernel
theorem dX8_hinders_45 : decode cX8_hinders 45 = .ok (.iconst 1, 1) := by decide +kernel
theorem dX8_hinders_46 : decode cX8_hinders 46 = .ok (.ireturn, 1) := by decide +kernel
theorem dX8_tangle_0 : decode cX8_tangle 0 = .ok (.aload_n 0, 1) := by decide +kernel
theorem dX8_tangle_1 : decode cX8_tangle 1 = .ok (.iload_n 1, 1) := by decide +kernel
theorem dX8_tangle_2 : decode cX8_tangle 2 = .ok (.iload_n 3, 1) := by decide +kernel
theorem dX8_tangle_3 : decode cX8_tangle 3 = .ok (.iload 4, 2) := by decide +kernel
theorem dX8_tangle_5 : decode cX8_tangle 5 = .ok (.invokevirtual 162, 3) := by decide +kernel
theorem dX8_tangle_8 : decode cX8_tangle 8 = .ok (.ifCond .eq 14, 3) := by decide +kernel
theorem dX8_tangle_11 : decode cX8_tangle 11 = .ok (.aload_n 0, 1) := by decide +kernel
theorem dX8_tangle_12 : decode cX8_tangle 12 = .ok (.getfield 19, 3) := by decide +kernel
theorem dX8_tangle_15 : decode cX8_tangle 15 = .ok (.iload_n 2, 1) := by decide +kernel
theorem dX8_tangle_16 : decode cX8_tangle 16 = .ok (.invokevirtual 133, 3) := by decide +kernel
theorem dX8_tangle_19 : decode cX8_tangle 19 = .ok (.ifCond .ne 6, 3) := by decide +kernel
theorem dX8_tangle_22 : decode cX8_tangle 22 = .ok (.bipush (-2), 2) := by decide +kernel
theorem dX8_tangle_24 : decode cX8_tangle 24 = .ok (.ireturn, 1) := by decide +kernel
theorem dX8_tangle_25 : decode cX8_tangle 25 = .ok (.iload_n 1, 1) := by decide +kernel
theorem dX8_tangle_26 : decode cX8_tangle 26 = .ok (.iload_n 2, 1) := by decide +kernel
theorem dX8_tangle_27 : decode cX8_tangle 27 = .ok (.if_icmp .ne 6, 3) := by decide +kernel
theorem dX8_tangle_30 : decode cX8_tangle 30 = .ok (.bipush (-3), 2) := by decide +kernel
theorem dX8_tangle_32 : decode cX8_tangle 32 = .ok (.ireturn, 1) := by decide +kernel
theorem dX8_tangle_33 : decode cX8_tangle 33 = .ok (.aload_n 0, 1) := by decide +kernel
theorem dX8_tangle_34 : decode cX8_tangle 34 = .ok (.getfield 19, 3) := by decide +kernel
theorem dX8_tangle_37 : decode cX8_tangle 37 = .ok (.iload_n 1, 1) := by decide +kernel
theorem dX8_tangle_38 : decode cX8_tangle 38 = .ok (.iload_n 2, 1) := by decide +kernel
theorem dX8_tangle_39 : decode cX8_tangle 39 = .ok (.iload_n 3, 1) := by decide +kernel
theorem dX8_tangle_40 : decode cX8_tangle 40 = .ok (.iload 4, 2) := by decide +kernel
theorem dX8_tangle_42 : decode cX8_tangle 42 = .ok (.invokevirtual 179, 3) := by decide +kernel
theorem dX8_tangle_45 : decode cX8_tangle 45 = .ok (.ifCond .ne 5, 3) := by decide +kernel
theorem dX8_tangle_48 : decode cX8_tangle 48 = .ok (.iconst (-1), 1) := by decide +kernel
theorem dX8_tangle_49 : decode cX8_tangle 49 = .ok (.ireturn, 1) := by decide +kernel
theorem dX8_tangle_50 : decode cX8_tangle 50 = .ok (.aload_n 0, 1) := by decide +kernel
theorem dX8_tangle_51 : decode cX8_tangle 51 = .ok (.getfield 19, 3) := by decide +kernel
theorem dX8_tangle_54 : decode cX8_tangle 54 = .ok (.iload_n 1, 1) := by decide +kernel
theorem dX8_tangle_55 : decode cX8_tangle 55 = .ok (.iload_n 2, 1) := by decide +kernel
theorem dX8_tangle_56 : decode cX8_tangle 56 = .ok (.invokestatic 183, 3) := by decide +kernel
theorem dX8_tangle_59 : decode cX8_tangle 59 = .ok (.iload_n 1, 1) := by decide +kernel
theorem dX8_tangle_60 : decode cX8_tangle 60 = .ok (.iload_n 2, 1) := by decide +kernel
theorem dX8_tangle_61 : decode cX8_tangle 61 = .ok (.invokestatic 188, 3) := by decide +kernel
theorem dX8_tangle_64 : decode cX8_tangle 64 = .ok (.aload_n 0, 1) := by decide +kernel
theorem dX8_tangle_65 : decode cX8_tangle 65 = .ok (.getfield 19, 3) := by decide +kernel
theorem dX8_tangle_68 : decode cX8_tangle 68 = .ok (.getfield 139, 3) := by decide +kernel
theorem dX8_tangle_71 : decode cX8_tangle 71 = .ok (.invokevirtual 191, 3) := by decide +kernel
theorem dX8_tangle_74 : decode cX8_tangle 74 = .ok (.ireturn, 1) := by decide +kernel
theorem dX8_taking_0 : decode cX8_taking 0 = .ok (.iload_n 1, 1) := by decide +kernel
theorem dX8_taking_1 : decode cX8_taking 1 = .ok (.ifCond .lt 12, 3) := by decide +kernel
theorem dX8_taking_4 : decode cX8_taking 4 = .ok (.iload_n 2, 1) := by decide +kernel
theorem dX8_taking_5 : decode cX8_taking 5 = .ok (.ifCond .lt 8, 3) := by decide +kernel
theorem dX8_taking_8 : decode cX8_taking 8 = .ok (.iload_n 2, 1) := by decide +kernel
theorem dX8_taking_9 : decode cX8_taking 9 = .ok (.iconst 3, 1) := by decide +kernel
theorem dX8_taking_10 : decode cX8_taking 10 = .ok (.if_icmp .le 6, 3) := by decide +kernel
theorem dX8_taking_13 : decode cX8_taking 13 = .ok (.bipush (-3), 2) := by decide +kernel
theorem dX8_taking_15 : decode cX8_taking 15 = .ok (.ireturn, 1) := by decide +kernel
theorem dX8_taking_16 : decode cX8_taking 16 = .ok (.iload_n 1, 1) := by decide +kernel
theorem dX8_taking_17 : decode cX8_taking 17 = .ok (.aload_n 0, 1) := by decide +kernel
theorem dX8_taking_18 : decode cX8_taking 18 = .ok (.getfield 33, 3) := by decide +kernel
theorem dX8_taking_21 : decode cX8_taking 21 = .ok (.getfield 194, 3) := by decide +kernel
theorem dX8_taking_24 : decode cX8_taking 24 = .ok (.if_icmp .ge 10, 3) := by decide +kernel
theorem dX8_taking_27 : decode cX8_taking 27 = .ok (.iload_n 1, 1) := by decide +kernel
theorem dX8_taking_28 : decode cX8_taking 28 = .ok (.sipush 288, 3) := by decide +kernel
theorem dX8_taking_31 : decode cX8_taking 31 = .ok (.if_icmp .lt 5, 3) := by decide +kernel
theorem dX8_taking_34 : decode cX8_taking 34 = .ok (.iconst (-1), 1) := by decide +kernel
theorem dX8_taking_35 : decode cX8_taking 35 = .ok (.ireturn, 1) := by decide +kernel
theorem dX8_taking_36 : decode cX8_taking 36 = .ok (.aload_n 0, 1) := by decide +kernel
theorem dX8_taking_37 : decode cX8_taking 37 = .ok (.getfield 33, 3) := by decide +kernel
theorem dX8_taking_40 : decode cX8_taking 40 = .ok (.getfield 197, 3) := by decide +kernel
theorem dX8_taking_43 : decode cX8_taking 43 = .ok (.iload_n 1, 1) := by decide +kernel
theorem dX8_taking_44 : decode cX8_taking 44 = .ok (.iaload, 1) := by decide +kernel
theorem dX8_taking_45 : decode cX8_taking 45 = .ok (.iconst 4, 1) := by decide +kernel
theorem dX8_taking_46 : decode cX8_taking 46 = .ok (.iload_n 2, 1) := by decide +kernel
theorem dX8_taking_47 : decode cX8_taking 47 = .ok (.imul, 1) := by decide +kernel
theorem dX8_taking_48 : decode cX8_taking 48 = .ok (.ishr, 1) := by decide +kernel
theorem dX8_taking_49 : decode cX8_taking 49 = .ok (.istore_n 3, 1) := by decide +kernel
theorem dX8_taking_50 : decode cX8_taking 50 = .ok (.iload_n 2, 1) := by decide +kernel
theorem dX8_taking_51 : decode cX8_taking 51 = .ok (.iconst 3, 1) := by decide +kernel
theorem dX8_taking_52 : decode cX8_taking 52 = .ok (.if_icmp .ne 7, 3) := by decide +kernel
theorem dX8_taking_55 : decode cX8_taking 55 = .ok (.iload_n 3, 1) := by decide +kernel
theorem dX8_taking_56 : decode cX8_taking 56 = .ok (.goto 7, 3) := by decide +kernel
theorem dX8_taking_59 : decode cX8_taking 59 = .ok (.iload_n 3, 1) := by decide +kernel
theorem dX8_taking_60 : decode cX8_taking 60 = .ok (.bipush 15, 2) := by decide +kernel
theorem dX8_taking_62 : decode cX8_taking 62 = .ok (.iand, 1) := by decide +kernel
theorem dX8_taking_63 : decode cX8_taking 63 = .ok (.ireturn, 1) := by decide +kernel
theorem dX8_keep_0 : decode cX8_keep 0 = .ok (.iload_n 1, 1) := by decide +kernel
theorem dX8_keep_1 : decode cX8_keep 1 = .ok (.ifCond .lt 8, 3) := by decide +kernel
theorem dX8_keep_4 : decode cX8_keep 4 = .ok (.iload_n 1, 1) := by decide +kernel
theorem dX8_keep_5 : decode cX8_keep 5 = .ok (.iconst 2, 1) := by decide +kernel
theorem dX8_keep_6 : decode cX8_keep 6 = .ok (.if_icmp .lt 6, 3) := by decide +kernel
theorem dX8_keep_9 : decode cX8_keep 9 = .ok (.bipush (-2), 2) := by decide +kernel
theorem dX8_keep_11 : decode cX8_keep 11 = .ok (.ireturn, 1) := by decide +kernel
theorem dX8_keep_12 : decode cX8_keep 12 = .ok (.aload_n 0, 1) := by decide +kernel
theorem dX8_keep_13 : decode cX8_keep 13 = .ok (.getfield 43, 3) := by decide +kernel
theorem dX8_keep_16 : decode cX8_keep 16 = .ok (.iload_n 1, 1) := by decide +kernel
theorem dX8_keep_17 : decode cX8_keep 17 = .ok (.aaload, 1) := by decide +kernel
theorem dX8_keep_18 : decode cX8_keep 18 = .ok (.aload_n 0, 1) := by decide +kernel
theorem dX8_keep_19 : decode cX8_keep 19 = .ok (.getfield 33, 3) := by decide +kernel
theorem dX8_keep_22 : decode cX8_keep 22 = .ok (.invokevirtual 87, 3) := by decide +kernel
theorem dX8_keep_25 : decode cX8_keep 25 = .ok (.aload_n 0, 1) := by decide +kernel
theorem dX8_keep_26 : decode cX8_keep 26 = .ok (.dup, 1) := by decide +kernel
theorem dX8_keep_27 : decode cX8_keep 27 = .ok (.getfield 91, 3) := by decide +kernel
theorem dX8_keep_30 : decode cX8_keep 30 = .ok (.iconst 1, 1) := by decide +kernel
theorem dX8_keep_31 : decode cX8_keep 31 = .ok (.iload_n 1, 1) := by decide +kernel
theorem dX8_keep_32 : decode cX8_keep 32 = .ok (.ishl, 1) := by decide +kernel
theorem dX8_keep_33 : decode cX8_keep 33 = .ok (.ior, 1) := by decide +kernel
theorem dX8_keep_34 : decode cX8_keep 34 = .ok (.putfield 91, 3) := by decide +kernel
theorem dX8_keep_37 : decode cX8_keep 37 = .ok (.aload_n 0, 1) := by decide +kernel
theorem dX8_keep_38 : decode cX8_keep 38 = .ok (.getfield 33, 3) := by decide +kernel
theorem dX8_keep_41 : decode cX8_keep 41 = .ok (.getfield 120, 3) := by decide +kernel
theorem dX8_keep_44 : decode cX8_keep 44 = .ok (.ireturn, 1) := by decide +kernel
theorem dX8_back_0 : decode cX8_back 0 = .ok (.iload_n 1, 1) := by decide +kernel
theorem dX8_back_1 : decode cX8_back 1 = .ok (.ifCond .lt 8, 3) := by decide +kernel
theorem dX8_back_4 : decode cX8_back 4 = .ok (.iload_n 1, 1) := by decide +kernel
theorem dX8_back_5 : decode cX8_back 5 = .ok (.iconst 2, 1) := by decide +kernel
theorem dX8_back_6 : decode cX8_back 6 = .ok (.if_icmp .lt 6, 3) := by decide +kernel
theorem dX8_back_9 : decode cX8_back 9 = .ok (.bipush (-2), 2) := by decide +kernel
theorem dX8_back_11 : decode cX8_back 11 = .ok (.ireturn, 1) := by decide +kernel
theorem dX8_back_12 : decode cX8_back 12 = .ok (.aload_n 0, 1) := by decide +kernel
theorem dX8_back_13 : decode cX8_back 13 = .ok (.getfield 91, 3) := by decide +kernel
theorem dX8_back_16 : decode cX8_back 16 = .ok (.iload_n 1, 1) := by decide +kernel
theorem dX8_back_17 : decode cX8_back 17 = .ok (.invokestatic 149, 3) := by decide +kernel
theorem dX8_back_20 : decode cX8_back 20 = .ok (.ifCond .ne 6, 3) := by decide +kernel
theorem dX8_back_23 : decode cX8_back 23 = .ok (.bipush (-4), 2) := by decide +kernel
theorem dX8_back_25 : decode cX8_back 25 = .ok (.ireturn, 1) := by decide +kernel
theorem dX8_back_26 : decode cX8_back 26 = .ok (.aload_n 0, 1) := by decide +kernel
theorem dX8_back_27 : decode cX8_back 27 = .ok (.getfield 33, 3) := by decide +kernel
theorem dX8_back_30 : decode cX8_back 30 = .ok (.aload_n 0, 1) := by decide +kernel
theorem dX8_back_31 : decode cX8_back 31 = .ok (.getfield 43, 3) := by decide +kernel
theorem dX8_back_34 : decode cX8_back 34 = .ok (.iload_n 1, 1) := by decide +kernel
theorem dX8_back_35 : decode cX8_back 35 = .ok (.aaload, 1) := by decide +kernel
theorem dX8_back_36 : decode cX8_back 36 = .ok (.invokevirtual 87, 3) := by decide +kernel
theorem dX8_back_39 : decode cX8_back 39 = .ok (.aload_n 0, 1) := by decide +kernel
theorem dX8_back_40 : decode cX8_back 40 = .ok (.getfield 50, 3) := by decide +kernel
theorem dX8_back_43 : decode cX8_back 43 = .ok (.invokevirtual 94, 3) := by decide +kernel
theorem dX8_back_46 : decode cX8_back 46 = .ok (.aload_n 0, 1) := by decide +kernel
theorem dX8_back_47 : decode cX8_back 47 = .ok (.getfield 33, 3) := by decide +kernel
theorem dX8_back_50 : decode cX8_back 50 = .ok (.getfield 120, 3) := by decide +kernel
theorem dX8_back_53 : decode cX8_back 53 = .ok (.ireturn, 1) := by decide +kernel
theorem dX8_best_0 : decode cX8_best 0 = .ok (.iload_n 1, 1) := by decide +kernel
theorem dX8_best_1 : decode cX8_best 1 = .ok (.iconst (-1), 1) := by decide +kernel
theorem dX8_best_2 : decode cX8_best 2 = .ok (.if_icmp .eq 17, 3) := by decide +kernel
theorem dX8_best_5 : decode cX8_best 5 = .ok (.aload_n 0, 1) := by decide +kernel
theorem dX8_best_6 : decode cX8_best 6 = .ok (.getfield 19, 3) := by decide +kernel
theorem dX8_best_9 : decode cX8_best 9 = .ok (.iload_n 1, 1) := by decide +kernel
theorem dX8_best_10 : decode cX8_best 10 = .ok (.invokevirtual 133, 3) := by decide +kernel
theorem dX8_best_13 : decode cX8_best 13 = .ok (.ifCond .ne 6, 3) := by decide +kernel
theorem dX8_best_16 : decode cX8_best 16 = .ok (.bipush (-2), 2) := by decide +kernel
theorem dX8_best_18 : decode cX8_best 18 = .ok (.ireturn, 1) := by decide +kernel
theorem dX8_best_19 : decode cX8_best 19 = .ok (.aload_n 0, 1) := by decide +kernel
theorem dX8_best_20 : decode cX8_best 20 = .ok (.getfield 33, 3) := by decide +kernel
theorem dX8_best_23 : decode cX8_best 23 = .ok (.getfield 120, 3) := by decide +kernel
theorem dX8_best_26 : decode cX8_best 26 = .ok (.bipush 12, 2) := by decide +kernel
theorem dX8_best_28 : decode cX8_best 28 = .ok (.if_icmp .lt 6, 3) := by decide +kernel
theorem dX8_best_31 : decode cX8_best 31 = .ok (.bipush (-4), 2) := by decide +kernel
theorem dX8_best_33 : decode cX8_best 33 = .ok (.ireturn, 1) := by decide +kernel
theorem dX8_best_34 : decode cX8_best 34 = .ok (.aload_n 0, 1) := by decide +kernel
theorem dX8_best_35 : decode cX8_best 35 = .ok (.getfield 50, 3) := by decide +kernel
theorem dX8_best_38 : decode cX8_best 38 = .ok (.aload_n 0, 1) := by decide +kernel
theorem dX8_best_39 : decode cX8_best 39 = .ok (.getfield 33, 3) := by decide +kernel
theorem dX8_best_42 : decode cX8_best 42 = .ok (.iconst 1, 1) := by decide +kernel
theorem dX8_best_43 : decode cX8_best 43 = .ok (.aload_n 0, 1) := by decide +kernel
theorem dX8_best_44 : decode cX8_best 44 = .ok (.getfield 40, 3) := by decide +kernel
theorem dX8_best_47 : decode cX8_best 47 = .ok (.aload_n 0, 1) := by decide +kernel
theorem dX8_best_48 : decode cX8_best 48 = .ok (.getfield 19, 3) := by decide +kernel
theorem dX8_best_51 : decode cX8_best 51 = .ok (.aload_n 0, 1) := by decide +kernel
theorem dX8_best_52 : decode cX8_best 52 = .ok (.getfield 26, 3) := by decide +kernel
theorem dX8_best_55 : decode cX8_best 55 = .ok (.invokevirtual 200, 3) := by decide +kernel
theorem dX8_best_58 : decode cX8_best 58 = .ok (.iload_n 1, 1) := by decide +kernel
theorem dX8_best_59 : decode cX8_best 59 = .ok (.iconst (-1), 1) := by decide +kernel
theorem dX8_best_60 : decode cX8_best 60 = .ok (.if_icmp .ne 13, 3) := by decide +kernel
theorem dX8_best_63 : decode cX8_best 63 = .ok (.aload_n 0, 1) := by decide +kernel
theorem dX8_best_64 : decode cX8_best 64 = .ok (.getfield 50, 3) := by decide +kernel
theorem dX8_best_67 : decode cX8_best 67 = .ok (.getfield 204, 3) := by decide +kernel
theorem dX8_best_70 : decode cX8_best 70 = .ok (.goto 11, 3) := by decide +kernel
theorem dX8_best_73 : decode cX8_best 73 = .ok (.aload_n 0, 1) := by decide +kernel
theorem dX8_best_74 : decode cX8_best 74 = .ok (.getfield 50, 3) := by decide +kernel
theorem dX8_best_77 : decode cX8_best 77 = .ok (.iload_n 1, 1) := by decide +kernel
theorem dX8_best_78 : decode cX8_best 78 = .ok (.invokevirtual 207, 3) := by decide +kernel
theorem dX8_best_81 : decode cX8_best 81 = .ok (.ireturn, 1) := by decide +kernel
theorem dX8_allDay_0 : decode cX8_allDay 0 = .ok (.iload_n 1, 1) := by decide +kernel
theorem dX8_allDay_1 : decode cX8_allDay 1 = .ok (.iconst (-1), 1) := by decide +kernel
theorem dX8_allDay_2 : decode cX8_allDay 2 = .ok (.if_icmp .eq 17, 3) := by decide +kernel
theorem dX8_allDay_5 : decode cX8_allDay 5 = .ok (.aload_n 0, 1) := by decide +kernel
theorem dX8_allDay_6 : decode cX8_allDay 6 = .ok (.getfield 19, 3) := by decide +kernel
theorem dX8_allDay_9 : decode cX8_allDay 9 = .ok (.iload_n 1, 1) := by decide +kernel
theorem dX8_allDay_10 : decode cX8_allDay 10 = .ok (.invokevirtual 133, 3) := by decide +kernel
theorem dX8_allDay_13 : decode cX8_allDay 13 = .ok (.ifCond .ne 6, 3) := by decide +kernel
theorem dX8_allDay_16 : decode cX8_allDay 16 = .ok (.bipush (-2), 2) := by decide +kernel
theorem dX8_allDay_18 : decode cX8_allDay 18 = .ok (.ireturn, 1) := by decide +kernel
theorem dX8_allDay_19 : decode cX8_allDay 19 = .ok (.aload_n 0, 1) := by decide +kernel
theorem dX8_allDay_20 : decode cX8_allDay 20 = .ok (.getfield 54, 3) := by decide +kernel
theorem dX8_allDay_23 : decode cX8_allDay 23 = .ok (.aload_n 0, 1) := by decide +kernel
theorem dX8_allDay_24 : decode cX8_allDay 24 = .ok (.getfield 37, 3) := by decide +kernel
theorem dX8_allDay_27 : decode cX8_allDay 27 = .ok (.bipush 12, 2) := by decide +kernel
theorem dX8_allDay_29 : decode cX8_allDay 29 = .ok (.aload_n 0, 1) := by decide +kernel
theorem dX8_allDay_30 : decode cX8_allDay 30 = .ok (.getfield 40, 3) := by decide +kernel
theorem dX8_allDay_33 : decode cX8_allDay 33 = .ok (.aload_n 0, 1) := by decide +kernel
theorem dX8_allDay_34 : decode cX8_allDay 34 = .ok (.getfield 19, 3) := by decide +kernel
theorem dX8_allDay_37 : decode cX8_allDay 37 = .ok (.aload_n 0, 1) := by decide +kernel
theorem dX8_allDay_38 : decode cX8_allDay 38 = .ok (.getfield 26, 3) := by decide +kernel
theorem dX8_allDay_41 : decode cX8_allDay 41 = .ok (.invokevirtual 200, 3) := by decide +kernel
theorem dX8_allDay_44 : decode cX8_allDay 44 = .ok (.iload_n 1, 1) := by decide +kernel
theorem dX8_allDay_45 : decode cX8_allDay 45 = .ok (.iconst (-1), 1) := by decide +kernel
theorem dX8_allDay_46 : decode cX8_allDay 46 = .ok (.if_icmp .ne 13, 3) := by decide +kernel
theorem dX8_allDay_49 : decode cX8_allDay 49 = .ok (.aload_n 0, 1) := by decide +kernel
theorem dX8_allDay_50 : decode cX8_allDay 50 = .ok (.getfield 54, 3) := by decide +kernel
theorem dX8_allDay_53 : decode cX8_allDay 53 = .ok (.getfield 204, 3) := by decide +kernel
theorem dX8_allDay_56 : decode cX8_allDay 56 = .ok (.goto 11, 3) := by decide +kernel
theorem dX8_allDay_59 : decode cX8_allDay 59 = .ok (.aload_n 0, 1) := by decide +kernel
theorem dX8_allDay_60 : decode cX8_allDay 60 = .ok (.getfield 54, 3) := by decide +kernel
theorem dX8_allDay_63 : decode cX8_allDay 63 = .ok (.iload_n 1, 1) := by decide +kernel
theorem dX8_allDay_64 : decode cX8_allDay 64 = .ok (.invokevirtual 207, 3) := by decide +kernel
theorem dX8_allDay_67 : decode cX8_allDay 67 = .ok (.ireturn, 1) := by decide +kernel
theorem dX8_laws_0 : decode cX8_laws 0 = .ok (.iload_n 1, 1) := by decide +kernel
theorem dX8_laws_1 : decode cX8_laws 1 = .ok (.ifCond .lt 8, 3) := by decide +kernel
theorem dX8_laws_4 : decode cX8_laws 4 = .ok (.iload_n 1, 1) := by decide +kernel
theorem dX8_laws_5 : decode cX8_laws 5 = .ok (.iconst 1, 1) := by decide +kernel
theorem dX8_laws_6 : decode cX8_laws 6 = .ok (.if_icmp .le 6, 3) := by decide +kernel
theorem dX8_laws_9 : decode cX8_laws 9 = .ok (.bipush (-3), 2) := by decide +kernel
theorem dX8_laws_11 : decode cX8_laws 11 = .ok (.ireturn, 1) := by decide +kernel
theorem dX8_laws_12 : decode cX8_laws 12 = .ok (.iconst 0, 1) := by decide +kernel
theorem dX8_laws_13 : decode cX8_laws 13 = .ok (.istore_n 2, 1) := by decide +kernel
theorem dX8_laws_14 : decode cX8_laws 14 = .ok (.iconst (-1), 1) := by decide +kernel
theorem dX8_laws_15 : decode cX8_laws 15 = .ok (.istore_n 3, 1) := by decide +kernel
theorem dX8_laws_16 : decode cX8_laws 16 = .ok (.iconst 0, 1) := by decide +kernel
theorem dX8_laws_17 : decode cX8_laws 17 = .ok (.istore 4, 2) := by decide +kernel
theorem dX8_laws_19 : decode cX8_laws 19 = .ok (.iload 4, 2) := by decide +kernel
theorem dX8_laws_21 : decode cX8_laws 21 = .ok (.iconst 3, 1) := by decide +kernel
theorem dX8_laws_22 : decode cX8_laws 22 = .ok (.if_icmp .ge 29, 3) := by decide +kernel
theorem dX8_laws_25 : decode cX8_laws 25 = .ok (.aload_n 0, 1) := by decide +kernel
theorem dX8_laws_26 : decode cX8_laws 26 = .ok (.iload 4, 2) := by decide +kernel
theorem dX8_laws_28 : decode cX8_laws 28 = .ok (.invokevirtual 211, 3) := by decide +kernel
theorem dX8_laws_31 : decode cX8_laws 31 = .ok (.istore 5, 2) := by decide +kernel
theorem dX8_laws_33 : decode cX8_laws 33 = .ok (.iload 5, 2) := by decide +kernel
theorem dX8_laws_35 : decode cX8_laws 35 = .ok (.iload_n 3, 1) := by decide +kernel
theorem dX8_laws_36 : decode cX8_laws 36 = .ok (.if_icmp .le 9, 3) := by decide +kernel
theorem dX8_laws_39 : decode cX8_laws 39 = .ok (.iload 5, 2) := by decide +kernel
theorem dX8_laws_41 : decode cX8_laws 41 = .ok (.istore_n 3, 1) := by decide +kernel
theorem dX8_laws_42 : decode cX8_laws 42 = .ok (.iload 4, 2) := by decide +kernel
theorem dX8_laws_44 : decode cX8_laws 44 = .ok (.istore_n 2, 1) := by decide +kernel
theorem dX8_laws_45 : decode cX8_laws 45 = .ok (.iinc 4 1, 3) := by decide +kernel
theorem dX8_laws_48 : decode cX8_laws 48 = .ok (.goto (-29), 3) := by decide +kernel
theorem dX8_laws_51 : decode cX8_laws 51 = .ok (.iload_n 1, 1) := by decide +kernel
theorem dX8_laws_52 : decode cX8_laws 52 = .ok (.ifCond .ne 7, 3) := by decide +kernel
theorem dX8_laws_55 : decode cX8_laws 55 = .ok (.iload_n 2, 1) := by decide +kernel
theorem dX8_laws_56 : decode cX8_laws 56 = .ok (.goto 4, 3) := by decide +kernel
theorem dX8_laws_59 : decode cX8_laws 59 = .ok (.iload_n 3, 1) := by decide +kernel
theorem dX8_laws_60 : decode cX8_laws 60 = .ok (.ireturn, 1) := by decide +kernel
theorem dX8_food_0 : decode cX8_food 0 = .ok (.iload_n 1, 1) := by decide +kernel
theorem dX8_food_1 : decode cX8_food 1 = .ok (.ifCond .lt 31, 3) := by decide +kernel
theorem dX8_food_4 : decode cX8_food 4 = .ok (.iload_n 1, 1) := by decide +kernel
theorem dX8_food_5 : decode cX8_food 5 = .ok (.sipush 999, 3) := by decide +kernel
theorem dX8_food_8 : decode cX8_food 8 = .ok (.if_icmp .gt 24, 3) := by decide +kernel
theorem dX8_food_11 : decode cX8_food 11 = .ok (.iload_n 2, 1) := by decide +kernel
theorem dX8_food_12 : decode cX8_food 12 = .ok (.iconst 1, 1) := by decide +kernel
theorem dX8_food_13 : decode cX8_food 13 = .ok (.if_icmp .lt 19, 3) := by decide +kernel
theorem dX8_food_16 : decode cX8_food 16 = .ok (.iload_n 2, 1) := by decide +kernel
theorem dX8_food_17 : decode cX8_food 17 = .ok (.bipush 99, 2) := by decide +kernel
theorem dX8_food_19 : decode cX8_food 19 = .ok (.if_icmp .gt 13, 3) := by decide +kernel
theorem dX8_food_22 : decode cX8_food 22 = .ok (.iload_n 3, 1) := by decide +kernel
theorem dX8_food_23 : decode cX8_food 23 = .ok (.ifCond .lt 9, 3) := by decide +kernel
theorem dX8_food_26 : decode cX8_food 26 = .ok (.iload_n 3, 1) := by decide +kernel
theorem dX8_food_27 : decode cX8_food 27 = .ok (.bipush 99, 2) := by decide +kernel
theorem dX8_food_29 : decode cX8_food 29 = .ok (.if_icmp .le 7, 3) := by decide +kernel
theorem dX8_food_32 : decode cX8_food 32 = .ok (.ldc2_w 214, 3) := by decide +kernel
theorem dX8_food_35 : decode cX8_food 35 = .ok (.lreturn, 1) := by decide +kernel
theorem dX8_food_36 : decode cX8_food 36 = .ok (.iload 4, 2) := by decide +kernel
theorem dX8_food_38 : decode cX8_food 38 = .ok (.ifCond .lt 33, 3) := by decide +kernel
theorem dX8_food_41 : decode cX8_food 41 = .ok (.iload 4, 2) := by decide +kernel
theorem dX8_food_43 : decode cX8_food 43 = .ok (.bipush 10, 2) := by decide +kernel
theorem dX8_food_45 : decode cX8_food 45 = .ok (.if_icmp .gt 26, 3) := by decide +kernel
theorem dX8_food_48 : decode cX8_food 48 = .ok (.iload 5, 2) := by decide +kernel
theorem dX8_food_50 : decode cX8_food 50 = .ok (.ifCond .lt 21, 3) := by decide +kernel
theorem dX8_food_53 : decode cX8_food 53 = .ok (.iload 5, 2) := by decide +kernel
theorem dX8_food_55 : decode cX8_food 55 = .ok (.bipush 8, 2) := by decide +kernel
theorem dX8_food_57 : decode cX8_food 57 = .ok (.if_icmp .gt 14, 3) := by decide +kernel
theorem dX8_food_60 : decode cX8_food 60 = .ok (.iload 6, 2) := by decide +kernel
theorem dX8_food_62 : decode cX8_food 62 = .ok (.ifCond .lt 9, 3) := by decide +kernel
theorem dX8_food_65 : decode cX8_food 65 = .ok (.iload 6, 2) := by decide +kernel
theorem dX8_food_67 : decode cX8_food 67 = .ok (.iconst 1, 1) := by decide +kernel
theorem dX8_food_68 : decode cX8_food 68 = .ok (.if_icmp .le 7, 3) := by decide +kernel
theorem dX8_food_71 : decode cX8_food 71 = .ok (.ldc2_w 214, 3) := by decide +kernel
theorem dX8_food_74 : decode cX8_food 74 = .ok (.lreturn, 1) := by decide +kernel
theorem dX8_food_75 : decode cX8_food 75 = .ok (.aload_n 0, 1) := by decide +kernel
theorem dX8_food_76 : decode cX8_food 76 = .ok (.getfield 60, 3) := by decide +kernel
theorem dX8_food_79 : decode cX8_food 79 = .ok (.iload_n 1, 1) := by decide +kernel
theorem dX8_food_80 : decode cX8_food 80 = .ok (.iload_n 2, 1) := by decide +kernel
theorem dX8_food_81 : decode cX8_food 81 = .ok (.iload_n 3, 1) := by decide +kernel
theorem dX8_food_82 : decode cX8_food 82 = .ok (.iload 4, 2) := by decide +kernel
theorem dX8_food_84 : decode cX8_food 84 = .ok (.iload 5, 2) := by decide +kernel
theorem dX8_food_86 : decode cX8_food 86 = .ok (.invokevirtual 216, 3) := by decide +kernel
theorem dX8_food_89 : decode cX8_food 89 = .ok (.iload 5, 2) := by decide +kernel
theorem dX8_food_91 : decode cX8_food 91 = .ok (.invokestatic 220, 3) := by decide +kernel
theorem dX8_food_94 : decode cX8_food 94 = .ok (.iload 6, 2) := by decide +kernel
theorem dX8_food_96 : decode cX8_food 96 = .ok (.invokestatic 224, 3) := by decide +kernel
theorem dX8_food_99 : decode cX8_food 99 = .ok (.lreturn, 1) := by decide +kernel
theorem dX8_cut_0 : decode cX8_cut 0 = .ok (.aload_n 0, 1) := by decide +kernel
theorem dX8_cut_1 : decode cX8_cut 1 = .ok (.getfield 19, 3) := by decide +kernel
theorem dX8_cut_4 : decode cX8_cut 4 = .ok (.iload_n 1, 1) := by decide +kernel
theorem dX8_cut_5 : decode cX8_cut 5 = .ok (.invokevirtual 133, 3) := by decide +kernel
theorem dX8_cut_8 : decode cX8_cut 8 = .ok (.ifCond .eq 10, 3) := by decide +kernel
theorem dX8_cut_11 : decode cX8_cut 11 = .ok (.iload_n 2, 1) := by decide +kernel
theorem dX8_cut_12 : decode cX8_cut 12 = .ok (.invokestatic 103, 3) := by decide +kernel
theorem dX8_cut_15 : decode cX8_cut 15 = .ok (.ifCond .ne 7, 3) := by decide +kernel
theorem dX8_cut_18 : decode cX8_cut 18 = .ok (.ldc2_w 228, 3) := by decide +kernel
theorem dX8_cut_21 : decode cX8_cut 21 = .ok (.lreturn, 1) := by decide +kernel
theorem dX8_cut_22 : decode cX8_cut 22 = .ok (.iload_n 3, 1) := by decide +kernel
theorem dX8_cut_23 : decode cX8_cut 23 = .ok (.ifCond .lt 32, 3) := by decide +kernel
theorem dX8_cut_26 : decode cX8_cut 26 = .ok (.iload_n 3, 1) := by decide +kernel
theorem dX8_cut_27 : decode cX8_cut 27 = .ok (.bipush 40, 2) := by decide +kernel
theorem dX8_cut_29 : decode cX8_cut 29 = .ok (.if_icmp .gt 26, 3) := by decide +kernel
theorem dX8_cut_32 : decode cX8_cut 32 = .ok (.iload 4, 2) := by decide +kernel
theorem dX8_cut_34 : decode cX8_cut 34 = .ok (.ifCond .lt 21, 3) := by decide +kernel
theorem dX8_cut_37 : decode cX8_cut 37 = .ok (.iload 4, 2) := by decide +kernel
theorem dX8_cut_39 : decode cX8_cut 39 = .ok (.bipush 10, 2) := by decide +kernel
theorem dX8_cut_41 : decode cX8_cut 41 = .ok (.if_icmp .gt 14, 3) := by decide +kernel
theorem dX8_cut_44 : decode cX8_cut 44 = .ok (.iload 5, 2) := by decide +kernel
theorem dX8_cut_46 : decode cX8_cut 46 = .ok (.ifCond .lt 9, 3) := by decide +kernel
theorem dX8_cut_49 : decode cX8_cut 49 = .ok (.iload 5, 2) := by decide +kernel
theorem dX8_cut_51 : decode cX8_cut 51 = .ok (.iconst 1, 1) := by decide +kernel
theorem dX8_cut_52 : decode cX8_cut 52 = .ok (.if_icmp .le 7, 3) := by decide +kernel
theorem dX8_cut_55 : decode cX8_cut 55 = .ok (.ldc2_w 214, 3) := by decide +kernel
theorem dX8_cut_58 : decode cX8_cut 58 = .ok (.lreturn, 1) := by decide +kernel
theorem dX8_cut_59 : decode cX8_cut 59 = .ok (.aload_n 0, 1) := by decide +kernel
theorem dX8_cut_60 : decode cX8_cut 60 = .ok (.getfield 33, 3) := by decide +kernel
theorem dX8_cut_63 : decode cX8_cut 63 = .ok (.getfield 136, 3) := by decide +kernel
theorem dX8_cut_66 : decode cX8_cut 66 = .ok (.iload_n 1, 1) := by decide +kernel
theorem dX8_cut_67 : decode cX8_cut 67 = .ok (.iaload, 1) := by decide +kernel
theorem dX8_cut_68 : decode cX8_cut 68 = .ok (.istore 6, 2) := by decide +kernel
theorem dX8_cut_70 : decode cX8_cut 70 = .ok (.iload 6, 2) := by decide +kernel
theorem dX8_cut_72 : decode cX8_cut 72 = .ok (.ifCond .ne 7, 3) := by decide +kernel
theorem dX8_cut_75 : decode cX8_cut 75 = .ok (.ldc2_w 230, 3) := by decide +kernel
theorem dX8_cut_78 : decode cX8_cut 78 = .ok (.lreturn, 1) := by decide +kernel
theorem dX8_cut_79 : decode cX8_cut 79 = .ok (.aload_n 0, 1) := by decide +kernel
theorem dX8_cut_80 : decode cX8_cut 80 = .ok (.getfield 19, 3) := by decide +kernel
theorem dX8_cut_83 : decode cX8_cut 83 = .ok (.iload_n 1, 1) := by decide +kernel
theorem dX8_cut_84 : decode cX8_cut 84 = .ok (.iload 6, 2) := by decide +kernel
theorem dX8_cut_86 : decode cX8_cut 86 = .ok (.iload_n 2, 1) := by decide +kernel
theorem dX8_cut_87 : decode cX8_cut 87 = .ok (.invokevirtual 169, 3) := by decide +kernel
theorem dX8_cut_90 : decode cX8_cut 90 = .ok (.istore 7, 2) := by decide +kernel
theorem dX8_cut_92 : decode cX8_cut 92 = .ok (.aload_n 0, 1) := by decide +kernel
theorem dX8_cut_93 : decode cX8_cut 93 = .ok (.getfield 60, 3) := by decide +kernel
theorem dX8_cut_96 : decode cX8_cut 96 = .ok (.iload 7, 2) := by decide +kernel
theorem dX8_cut_98 : decode cX8_cut 98 = .ok (.bipush (-45), 2) := by decide +kernel
theorem dX8_cut_100 : decode cX8_cut 100 = .ok (.isub, 1) := by decide +kernel
theorem dX8_cut_101 : decode cX8_cut 101 = .ok (.invokevirtual 232, 3) := by decide +kernel
theorem dX8_cut_104 : decode cX8_cut 104 = .ok (.iload_n 2, 1) := by decide +kernel
theorem dX8_cut_105 : decode cX8_cut 105 = .ok (.istore 8, 2) := by decide +kernel
theorem dX8_cut_107 : decode cX8_cut 107 = .ok (.iload 8, 2) := by decide +kernel
theorem dX8_cut_109 : decode cX8_cut 109 = .ok (.bipush 12, 2) := by decide +kernel
theorem dX8_cut_111 : decode cX8_cut 111 = .ok (.if_icmp .ge 32, 3) := by decide +kernel
theorem dX8_cut_114 : decode cX8_cut 114 = .ok (.aload_n 0, 1) := by decide +kernel
theorem dX8_cut_115 : decode cX8_cut 115 = .ok (.getfield 60, 3) := by decide +kernel
theorem dX8_cut_118 : decode cX8_cut 118 = .ok (.aload_n 0, 1) := by decide +kernel
theorem dX8_cut_119 : decode cX8_cut 119 = .ok (.getfield 19, 3) := by decide +kernel
theorem dX8_cut_122 : decode cX8_cut 122 = .ok (.getfield 114, 3) := by decide +kernel
theorem dX8_cut_125 : decode cX8_cut 125 = .ok (.iload 6, 2) := by decide +kernel
theorem dX8_cut_127 : decode cX8_cut 127 = .ok (.iload 8, 2) := by decide +kernel
theorem dX8_cut_129 : decode cX8_cut 129 = .ok (.invokestatic 110, 3) := by decide +kernel
theorem dX8_cut_132 : decode cX8_cut 132 = .ok (.iload 4, 2) := by decide +kernel
theorem dX8_cut_134 : decode cX8_cut 134 = .ok (.invokevirtual 236, 3) := by decide +kernel
theorem dX8_cut_137 : decode cX8_cut 137 = .ok (.iinc 8 1, 3) := by decide +kernel
theorem dX8_cut_140 : decode cX8_cut 140 = .ok (.goto (-33), 3) := by decide +kernel
theorem dX8_cut_143 : decode cX8_cut 143 = .ok (.aload_n 0, 1) := by decide +kernel
theorem dX8_cut_144 : decode cX8_cut 144 = .ok (.getfield 60, 3) := by decide +kernel
theorem dX8_cut_147 : decode cX8_cut 147 = .ok (.iload_n 3, 1) := by decide +kernel
theorem dX8_cut_148 : decode cX8_cut 148 = .ok (.bipush (-45), 2) := by decide +kernel
theorem dX8_cut_150 : decode cX8_cut 150 = .ok (.isub, 1) := by decide +kernel
theorem dX8_cut_151 : decode cX8_cut 151 = .ok (.invokevirtual 239, 3) := by decide +kernel
theorem dX8_cut_154 : decode cX8_cut 154 = .ok (.bipush 12, 2) := by decide +kernel
theorem dX8_cut_156 : decode cX8_cut 156 = .ok (.iload_n 2, 1) := by decide +kernel
theorem dX8_cut_157 : decode cX8_cut 157 = .ok (.isub, 1) := by decide +kernel
theorem dX8_cut_158 : decode cX8_cut 158 = .ok (.invokestatic 220, 3) := by decide +kernel
theorem dX8_cut_161 : decode cX8_cut 161 = .ok (.iload 5, 2) := by decide +kernel
theorem dX8_cut_163 : decode cX8_cut 163 = .ok (.invokestatic 224, 3) := by decide +kernel
theorem dX8_cut_166 : decode cX8_cut 166 = .ok (.lreturn, 1) := by decide +kernel
theorem dX8_share_0 : decode cX8_share 0 = .ok (.aload_n 0, 1) := by decide +kernel
theorem dX8_share_1 : decode cX8_share 1 = .ok (.getfield 19, 3) := by decide +kernel
theorem dX8_share_4 : decode cX8_share 4 = .ok (.iload_n 2, 1) := by decide +kernel
theorem dX8_share_5 : decode cX8_share 5 = .ok (.invokevirtual 133, 3) := by decide +kernel
theorem dX8_share_8 : decode cX8_share 8 = .ok (.ifCond .ne 6, 3) := by decide +kernel
theorem dX8_share_11 : decode cX8_share 11 = .ok (.bipush (-2), 2) := by decide +kernel
theorem dX8_share_13 : decode cX8_share 13 = .ok (.ireturn, 1) := by decide +kernel
theorem dX8_share_14 : decode cX8_share 14 = .ok (.iload_n 1, 1) := by decide +kernel
theorem dX8_share_15 : decode cX8_share 15 = .ok (.ifCond .lt 10, 3) := by decide +kernel
theorem dX8_share_18 : decode cX8_share 18 = .ok (.iload_n 1, 1) := by decide +kernel
theorem dX8_share_19 : decode cX8_share 19 = .ok (.sipush 999, 3) := by decide +kernel
theorem dX8_share_22 : decode cX8_share 22 = .ok (.if_icmp .le 6, 3) := by decide +kernel
theorem dX8_share_25 : decode cX8_share 25 = .ok (.bipush (-3), 2) := by decide +kernel
theorem dX8_share_27 : decode cX8_share 27 = .ok (.ireturn, 1) := by decide +kernel
theorem dX8_share_28 : decode cX8_share 28 = .ok (.aload_n 0, 1) := by decide +kernel
theorem dX8_share_29 : decode cX8_share 29 = .ok (.getfield 19, 3) := by decide +kernel
theorem dX8_share_32 : decode cX8_share 32 = .ok (.iload_n 1, 1) := by decide +kernel
theorem dX8_share_33 : decode cX8_share 33 = .ok (.iload_n 2, 1) := by decide +kernel
theorem dX8_share_34 : decode cX8_share 34 = .ok (.invokevirtual 242, 3) := by decide +kernel
theorem dX8_share_37 : decode cX8_share 37 = .ok (.ireturn, 1) := by decide +kernel
theorem dX8_count_0 : decode cX8_count 0 = .ok (.iload_n 1, 1) := by decide +kernel
theorem dX8_count_1 : decode cX8_count 1 = .ok (.tableswitch 147 0 10 #[59, 67, 75, 83, 91, 99, 107, 115, 123, 131, 139], 59) := by decide +kernel
theorem dX8_count_60 : decode cX8_count 60 = .ok (.aload_n 0, 1) := by decide +kernel
theorem dX8_count_61 : decode cX8_count 61 = .ok (.getfield 19, 3) := by decide +kernel
theorem dX8_count_64 : decode cX8_count 64 = .ok (.invokevirtual 245, 3) := by decide +kernel
theorem dX8_count_67 : decode cX8_count 67 = .ok (.ireturn, 1) := by decide +kernel
theorem dX8_count_68 : decode cX8_count 68 = .ok (.aload_n 0, 1) := by decide +kernel
theorem dX8_count_69 : decode cX8_count 69 = .ok (.getfield 19, 3) := by decide +kernel
theorem dX8_count_72 : decode cX8_count 72 = .ok (.invokevirtual 249, 3) := by decide +kernel
theorem dX8_count_75 : decode cX8_count 75 = .ok (.ireturn, 1) := by decide +kernel
theorem dX8_count_76 : decode cX8_count 76 = .ok (.aload_n 0, 1) := by decide +kernel
theorem dX8_count_77 : decode cX8_count 77 = .ok (.getfield 19, 3) := by decide +kernel
theorem dX8_count_80 : decode cX8_count 80 = .ok (.getfield 139, 3) := by decide +kernel
theorem dX8_count_83 : decode cX8_count 83 = .ok (.ireturn, 1) := by decide +kernel
theorem dX8_count_84 : decode cX8_count 84 = .ok (.aload_n 0, 1) := by decide +kernel
theorem dX8_count_85 : decode cX8_count 85 = .ok (.getfield 19, 3) := by decide +kernel
theorem dX8_count_88 : decode cX8_count 88 = .ok (.getfield 252, 3) := by decide +kernel
theorem dX8_count_91 : decode cX8_count 91 = .ok (.ireturn, 1) := by decide +kernel
theorem dX8_count_92 : decode cX8_count 92 = .ok (.aload_n 0, 1) := by decide +kernel
theorem dX8_count_93 : decode cX8_count 93 = .ok (.getfield 19, 3) := by decide +kernel
theorem dX8_count_96 : decode cX8_count 96 = .ok (.getfield 255, 3) := by decide +kernel
theorem dX8_count_99 : decode cX8_count 99 = .ok (.ireturn, 1) := by decide +kernel
theorem dX8_count_100 : decode cX8_count 100 = .ok (.aload_n 0, 1) := by decide +kernel
theorem dX8_count_101 : decode cX8_count 101 = .ok (.getfield 19, 3) := by decide +kernel
theorem dX8_count_104 : decode cX8_count 104 = .ok (.getfield 258, 3) := by decide +kernel
theorem dX8_count_107 : decode cX8_count 107 = .ok (.ireturn, 1) := by decide +kernel
theorem dX8_count_108 : decode cX8_count 108 = .ok (.aload_n 0, 1) := by decide +kernel
theorem dX8_count_109 : decode cX8_count 109 = .ok (.getfield 33, 3) := by decide +kernel
theorem dX8_count_112 : decode cX8_count 112 = .ok (.getfield 120, 3) := by decide +kernel
theorem dX8_count_115 : decode cX8_count 115 = .ok (.ireturn, 1) := by decide +kernel
theorem dX8_count_116 : decode cX8_count 116 = .ok (.aload_n 0, 1) := by decide +kernel
theorem dX8_count_117 : decode cX8_count 117 = .ok (.getfield 33, 3) := by decide +kernel
theorem dX8_count_120 : decode cX8_count 120 = .ok (.getfield 194, 3) := by decide +kernel
theorem dX8_count_123 : decode cX8_count 123 = .ok (.ireturn, 1) := by decide +kernel
theorem dX8_count_124 : decode cX8_count 124 = .ok (.aload_n 0, 1) := by decide +kernel
theorem dX8_count_125 : decode cX8_count 125 = .ok (.getfield 33, 3) := by decide +kernel
theorem dX8_count_128 : decode cX8_count 128 = .ok (.getfield 261, 3) := by decide +kernel
theorem dX8_count_131 : decode cX8_count 131 = .ok (.ireturn, 1) := by decide +kernel
theorem dX8_count_132 : decode cX8_count 132 = .ok (.aload_n 0, 1) := by decide +kernel
theorem dX8_count_133 : decode cX8_count 133 = .ok (.getfield 33, 3) := by decide +kernel
theorem dX8_count_136 : decode cX8_count 136 = .ok (.getfield 264, 3) := by decide +kernel
theorem dX8_count_139 : decode cX8_count 139 = .ok (.ireturn, 1) := by decide +kernel
theorem dX8_count_140 : decode cX8_count 140 = .ok (.aload_n 0, 1) := by decide +kernel
theorem dX8_count_141 : decode cX8_count 141 = .ok (.getfield 12, 3) := by decide +kernel
theorem dX8_count_144 : decode cX8_count 144 = .ok (.getfield 72, 3) := by decide +kernel
theorem dX8_count_147 : decode cX8_count 147 = .ok (.ireturn, 1) := by decide +kernel
theorem dX8_count_148 : decode cX8_count 148 = .ok (.bipush (-3), 2) := by decide +kernel
theorem dX8_count_150 : decode cX8_count 150 = .ok (.ireturn, 1) := by decide +kernel
theorem dX8_caughtAllDayBy_0 : decode cX8_caughtAllDayBy 0 = .ok (.aload_n 0, 1) := by decide +kernel
theorem dX8_caughtAllDayBy_1 : decode cX8_caughtAllDayBy 1 = .ok (.getfield 40, 3) := by decide +kernel
theorem dX8_caughtAllDayBy_4 : decode cX8_caughtAllDayBy 4 = .ok (.aload_n 0, 1) := by decide +kernel
theorem dX8_caughtAllDayBy_5 : decode cX8_caughtAllDayBy 5 = .ok (.getfield 37, 3) := by decide +kernel
theorem dX8_caughtAllDayBy_8 : decode cX8_caughtAllDayBy 8 = .ok (.invokevirtual 267, 3) := by decide +kernel
theorem dX8_caughtAllDayBy_11 : decode cX8_caughtAllDayBy 11 = .ok (.iconst 0, 1) := by decide +kernel
theorem dX8_caughtAllDayBy_12 : decode cX8_caughtAllDayBy 12 = .ok (.istore_n 2, 1) := by decide +kernel
theorem dX8_caughtAllDayBy_13 : decode cX8_caughtAllDayBy 13 = .ok (.iload_n 2, 1) := by decide +kernel
theorem dX8_caughtAllDayBy_14 : decode cX8_caughtAllDayBy 14 = .ok (.bipush 6, 2) := by decide +kernel
theorem dX8_caughtAllDayBy_16 : decode cX8_caughtAllDayBy 16 = .ok (.if_icmp .ge 27, 3) := by decide +kernel
theorem dX8_caughtAllDayBy_19 : decode cX8_caughtAllDayBy 19 = .ok (.aload_n 0, 1) := by decide +kernel
theorem dX8_caughtAllDayBy_20 : decode cX8_caughtAllDayBy 20 = .ok (.getfield 40, 3) := by decide +kernel
theorem dX8_caughtAllDayBy_23 : decode cX8_caughtAllDayBy 23 = .ok (.getfield 136, 3) := by decide +kernel
theorem dX8_caughtAllDayBy_26 : decode cX8_caughtAllDayBy 26 = .ok (.iload_n 2, 1) := by decide +kernel
theorem dX8_caughtAllDayBy_27 : decode cX8_caughtAllDayBy 27 = .ok (.aload_n 0, 1) := by decide +kernel
theorem dX8_caughtAllDayBy_28 : decode cX8_caughtAllDayBy 28 = .ok (.getfield 33, 3) := by decide +kernel
theorem dX8_caughtAllDayBy_31 : decode cX8_caughtAllDayBy 31 = .ok (.getfield 136, 3) := by decide +kernel
theorem dX8_caughtAllDayBy_34 : decode cX8_caughtAllDayBy 34 = .ok (.iload_n 2, 1) := by decide +kernel
theorem dX8_caughtAllDayBy_35 : decode cX8_caughtAllDayBy 35 = .ok (.iaload, 1) := by decide +kernel
theorem dX8_caughtAllDayBy_36 : decode cX8_caughtAllDayBy 36 = .ok (.iastore, 1) := by decide +kernel
theorem dX8_caughtAllDayBy_37 : decode cX8_caughtAllDayBy 37 = .ok (.iinc 2 1, 3) := by decide +kernel
theorem dX8_caughtAllDayBy_40 : decode cX8_caughtAllDayBy 40 = .ok (.goto (-27), 3) := by decide +kernel
theorem dX8_caughtAllDayBy_43 : decode cX8_caughtAllDayBy 43 = .ok (.aload_n 0, 1) := by decide +kernel
theorem dX8_caughtAllDayBy_44 : decode cX8_caughtAllDayBy 44 = .ok (.getfield 40, 3) := by decide +kernel
theorem dX8_caughtAllDayBy_47 : decode cX8_caughtAllDayBy 47 = .ok (.bipush 12, 2) := by decide +kernel
theorem dX8_caughtAllDayBy_49 : decode cX8_caughtAllDayBy 49 = .ok (.aload_n 0, 1) := by decide +kernel
theorem dX8_caughtAllDayBy_50 : decode cX8_caughtAllDayBy 50 = .ok (.getfield 19, 3) := by decide +kernel
theorem dX8_caughtAllDayBy_53 : decode cX8_caughtAllDayBy 53 = .ok (.aload_n 0, 1) := by decide +kernel
theorem dX8_caughtAllDayBy_54 : decode cX8_caughtAllDayBy 54 = .ok (.getfield 26, 3) := by decide +kernel
theorem dX8_caughtAllDayBy_57 : decode cX8_caughtAllDayBy 57 = .ok (.iload_n 1, 1) := by decide +kernel
theorem dX8_caughtAllDayBy_58 : decode cX8_caughtAllDayBy 58 = .ok (.invokevirtual 142, 3) := by decide +kernel
theorem dX8_caughtAllDayBy_61 : decode cX8_caughtAllDayBy 61 = .ok (.aload_n 0, 1) := by decide +kernel
theorem dX8_caughtAllDayBy_62 : decode cX8_caughtAllDayBy 62 = .ok (.getfield 40, 3) := by decide +kernel
theorem dX8_caughtAllDayBy_65 : decode cX8_caughtAllDayBy 65 = .ok (.getfield 261, 3) := by decide +kernel
theorem dX8_caughtAllDayBy_68 : decode cX8_caughtAllDayBy 68 = .ok (.ireturn, 1) := by decide +kernel
theorem dX8_isPlace_0 : decode cX8_isPlace 0 = .ok (.aload_n 0, 1) := by decide +kernel
theorem dX8_isPlace_1 : decode cX8_isPlace 1 = .ok (.getfield 19, 3) := by decide +kernel
theorem dX8_isPlace_4 : decode cX8_isPlace 4 = .ok (.iload_n 1, 1) := by decide +kernel
theorem dX8_isPlace_5 : decode cX8_isPlace 5 = .ok (.invokevirtual 133, 3) := by decide +kernel
theorem dX8_isPlace_8 : decode cX8_isPlace 8 = .ok (.ifCond .eq 21, 3) := by decide +kernel
theorem dX8_isPlace_11 : decode cX8_isPlace 11 = .ok (.iload_n 2, 1) := by decide +kernel
theorem dX8_isPlace_12 : decode cX8_isPlace 12 = .ok (.invokestatic 100, 3) := by decide +kernel
theorem dX8_isPlace_15 : decode cX8_isPlace 15 = .ok (.ifCond .eq 14, 3) := by decide +kernel
theorem dX8_isPlace_18 : decode cX8_isPlace 18 = .ok (.iload_n 3, 1) := by decide +kernel
theorem dX8_isPlace_19 : decode cX8_isPlace 19 = .ok (.invokestatic 103, 3) := by decide +kernel
theorem dX8_isPlace_22 : decode cX8_isPlace 22 = .ok (.ifCond .eq 7, 3) := by decide +kernel
theorem dX8_isPlace_25 : decode cX8_isPlace 25 = .ok (.iconst 1, 1) := by decide +kernel
theorem dX8_isPlace_26 : decode cX8_isPlace 26 = .ok (.goto 4, 3) := by decide +kernel
theorem dX8_isPlace_29 : decode cX8_isPlace 29 = .ok (.iconst 0, 1) := by decide +kernel
theorem dX8_isPlace_30 : decode cX8_isPlace 30 = .ok (.ireturn, 1) := by decide +kernel
theorem dX8_isHeight_0 : decode cX8_isHeight 0 = .ok (.iload_n 0, 1) := by decide +kernel
theorem dX8_isHeight_1 : decode cX8_isHeight 1 = .ok (.iconst 1, 1) := by decide +kernel
theorem dX8_isHeight_2 : decode cX8_isHeight 2 = .ok (.if_icmp .lt 12, 3) := by decide +kernel
theorem dX8_isHeight_5 : decode cX8_isHeight 5 = .ok (.iload_n 0, 1) := by decide +kernel
theorem dX8_isHeight_6 : decode cX8_isHeight 6 = .ok (.iconst 3, 1) := by decide +kernel
theorem dX8_isHeight_7 : decode cX8_isHeight 7 = .ok (.if_icmp .gt 7, 3) := by decide +kernel
theorem dX8_isHeight_10 : decode cX8_isHeight 10 = .ok (.iconst 1, 1) := by decide +kernel
theorem dX8_isHeight_11 : decode cX8_isHeight 11 = .ok (.goto 4, 3) := by decide +kernel
theorem dX8_isHeight_14 : decode cX8_isHeight 14 = .ok (.iconst 0, 1) := by decide +kernel
theorem dX8_isHeight_15 : decode cX8_isHeight 15 = .ok (.ireturn, 1) := by decide +kernel
theorem dX8_isHour_0 : decode cX8_isHour 0 = .ok (.iload_n 0, 1) := by decide +kernel
theorem dX8_isHour_1 : decode cX8_isHour 1 = .ok (.ifCond .lt 13, 3) := by decide +kernel
theorem dX8_isHour_4 : decode cX8_isHour 4 = .ok (.iload_n 0, 1) := by decide +kernel
theorem dX8_isHour_5 : decode cX8_isHour 5 = .ok (.bipush 12, 2) := by decide +kernel
theorem dX8_isHour_7 : decode cX8_isHour 7 = .ok (.if_icmp .ge 7, 3) := by decide +kernel
theorem dX8_isHour_10 : decode cX8_isHour 10 = .ok (.iconst 1, 1) := by decide +kernel
theorem dX8_isHour_11 : decode cX8_isHour 11 = .ok (.goto 4, 3) := by decide +kernel
theorem dX8_isHour_14 : decode cX8_isHour 14 = .ok (.iconst 0, 1) := by decide +kernel
theorem dX8_isHour_15 : decode cX8_isHour 15 = .ok (.ireturn, 1) := by decide +kernel
theorem dX8_isIn_0 : decode cX8_isIn 0 = .ok (.iload_n 0, 1) := by decide +kernel
theorem dX8_isIn_1 : decode cX8_isIn 1 = .ok (.iload_n 1, 1) := by decide +kernel
theorem dX8_isIn_2 : decode cX8_isIn 2 = .ok (.ishr, 1) := by decide +kernel
theorem dX8_isIn_3 : decode cX8_isIn 3 = .ok (.iconst 1, 1) := by decide +kernel
theorem dX8_isIn_4 : decode cX8_isIn 4 = .ok (.iand, 1) := by decide +kernel
theorem dX8_isIn_5 : decode cX8_isIn 5 = .ok (.iconst 1, 1) := by decide +kernel
theorem dX8_isIn_6 : decode cX8_isIn 6 = .ok (.if_icmp .ne 7, 3) := by decide +kernel
theorem dX8_isIn_9 : decode cX8_isIn 9 = .ok (.iconst 1, 1) := by decide +kernel
theorem dX8_isIn_10 : decode cX8_isIn 10 = .ok (.goto 4, 3) := by decide +kernel
theorem dX8_isIn_13 : decode cX8_isIn 13 = .ok (.iconst 0, 1) := by decide +kernel
theorem dX8_isIn_14 : decode cX8_isIn 14 = .ok (.ireturn, 1) := by decide +kernel
theorem dX8_tenToThe_0 : decode cX8_tenToThe 0 = .ok (.lconst 1, 1) := by decide +kernel
theorem dX8_tenToThe_1 : decode cX8_tenToThe 1 = .ok (.lstore_n 1, 1) := by decide +kernel
theorem dX8_tenToThe_2 : decode cX8_tenToThe 2 = .ok (.iconst 0, 1) := by decide +kernel
theorem dX8_tenToThe_3 : decode cX8_tenToThe 3 = .ok (.istore_n 3, 1) := by decide +kernel
theorem dX8_tenToThe_4 : decode cX8_tenToThe 4 = .ok (.iload_n 3, 1) := by decide +kernel
theorem dX8_tenToThe_5 : decode cX8_tenToThe 5 = .ok (.iload_n 0, 1) := by decide +kernel
theorem dX8_tenToThe_6 : decode cX8_tenToThe 6 = .ok (.if_icmp .ge 15, 3) := by decide +kernel
theorem dX8_tenToThe_9 : decode cX8_tenToThe 9 = .ok (.lload_n 1, 1) := by decide +kernel
theorem dX8_tenToThe_10 : decode cX8_tenToThe 10 = .ok (.ldc2_w 270, 3) := by decide +kernel
theorem dX8_tenToThe_13 : decode cX8_tenToThe 13 = .ok (.lmul, 1) := by decide +kernel
theorem dX8_tenToThe_14 : decode cX8_tenToThe 14 = .ok (.lstore_n 1, 1) := by decide +kernel
theorem dX8_tenToThe_15 : decode cX8_tenToThe 15 = .ok (.iinc 3 1, 3) := by decide +kernel
theorem dX8_tenToThe_18 : decode cX8_tenToThe 18 = .ok (.goto (-14), 3) := by decide +kernel
theorem dX8_tenToThe_21 : decode cX8_tenToThe 21 = .ok (.lload_n 1, 1) := by decide +kernel
theorem dX8_tenToThe_22 : decode cX8_tenToThe 22 = .ok (.lreturn, 1) := by decide +kernel
theorem dX8_lowestTerm_0 : decode cX8_lowestTerm 0 = .ok (.lload_n 2, 1) := by decide +kernel
theorem dX8_lowestTerm_1 : decode cX8_lowestTerm 1 = .ok (.lstore 5, 2) := by decide +kernel
theorem dX8_lowestTerm_3 : decode cX8_lowestTerm 3 = .ok (.lload_n 0, 1) := by decide +kernel
theorem dX8_lowestTerm_4 : decode cX8_lowestTerm 4 = .ok (.lstore 7, 2) := by decide +kernel
theorem dX8_lowestTerm_6 : decode cX8_lowestTerm 6 = .ok (.iconst 0, 1) := by decide +kernel
theorem dX8_lowestTerm_7 : decode cX8_lowestTerm 7 = .ok (.istore 9, 2) := by decide +kernel
theorem dX8_lowestTerm_9 : decode cX8_lowestTerm 9 = .ok (.iload 9, 2) := by decide +kernel
theorem dX8_lowestTerm_11 : decode cX8_lowestTerm 11 = .ok (.sipush 1000, 3) := by decide +kernel
theorem dX8_lowestTerm_14 : decode cX8_lowestTerm 14 = .ok (.if_icmp .ge 31, 3) := by decide +kernel
theorem dX8_lowestTerm_17 : decode cX8_lowestTerm 17 = .ok (.lload 7, 2) := by decide +kernel
theorem dX8_lowestTerm_19 : decode cX8_lowestTerm 19 = .ok (.lconst 0, 1) := by decide +kernel
theorem dX8_lowestTerm_20 : decode cX8_lowestTerm 20 = .ok (.lcmp, 1) := by decide +kernel
theorem dX8_lowestTerm_21 : decode cX8_lowestTerm 21 = .ok (.ifCond .eq 24, 3) := by decide +kernel
theorem dX8_lowestTerm_24 : decode cX8_lowestTerm 24 = .ok (.lload 5, 2) := by decide +kernel
theorem dX8_lowestTerm_26 : decode cX8_lowestTerm 26 = .ok (.lload 7, 2) := by decide +kernel
theorem dX8_lowestTerm_28 : decode cX8_lowestTerm 28 = .ok (.lrem, 1) := by decide +kernel
theorem dX8_lowestTerm_29 : decode cX8_lowestTerm 29 = .ok (.lstore 10, 2) := by decide +kernel
theorem dX8_lowestTerm_31 : decode cX8_lowestTerm 31 = .ok (.lload 7, 2) := by decide +kernel
theorem dX8_lowestTerm_33 : decode cX8_lowestTerm 33 = .ok (.lstore 5, 2) := by decide +kernel
theorem dX8_lowestTerm_35 : decode cX8_lowestTerm 35 = .ok (.lload 10, 2) := by decide +kernel
theorem dX8_lowestTerm_37 : decode cX8_lowestTerm 37 = .ok (.lstore 7, 2) := by decide +kernel
theorem dX8_lowestTerm_39 : decode cX8_lowestTerm 39 = .ok (.iinc 9 1, 3) := by decide +kernel
theorem dX8_lowestTerm_42 : decode cX8_lowestTerm 42 = .ok (.goto (-33), 3) := by decide +kernel
theorem dX8_lowestTerm_45 : decode cX8_lowestTerm 45 = .ok (.iload 4, 2) := by decide +kernel
theorem dX8_lowestTerm_47 : decode cX8_lowestTerm 47 = .ok (.ifCond .ne 7, 3) := by decide +kernel
theorem dX8_lowestTerm_50 : decode cX8_lowestTerm 50 = .ok (.lload_n 0, 1) := by decide +kernel
theorem dX8_lowestTerm_51 : decode cX8_lowestTerm 51 = .ok (.goto 4, 3) := by decide +kernel
theorem dX8_lowestTerm_54 : decode cX8_lowestTerm 54 = .ok (.lload_n 2, 1) := by decide +kernel
theorem dX8_lowestTerm_55 : decode cX8_lowestTerm 55 = .ok (.lstore 9, 2) := by decide +kernel
theorem dX8_lowestTerm_57 : decode cX8_lowestTerm 57 = .ok (.lload 5, 2) := by decide +kernel
theorem dX8_lowestTerm_59 : decode cX8_lowestTerm 59 = .ok (.lconst 0, 1) := by decide +kernel
theorem dX8_lowestTerm_60 : decode cX8_lowestTerm 60 = .ok (.lcmp, 1) := by decide +kernel
theorem dX8_lowestTerm_61 : decode cX8_lowestTerm 61 = .ok (.ifCond .le 11, 3) := by decide +kernel
theorem dX8_lowestTerm_64 : decode cX8_lowestTerm 64 = .ok (.lload 9, 2) := by decide +kernel
theorem dX8_lowestTerm_66 : decode cX8_lowestTerm 66 = .ok (.lload 5, 2) := by decide +kernel
theorem dX8_lowestTerm_68 : decode cX8_lowestTerm 68 = .ok (.ldiv, 1) := by decide +kernel
theorem dX8_lowestTerm_69 : decode cX8_lowestTerm 69 = .ok (.goto 5, 3) := by decide +kernel
theorem dX8_lowestTerm_72 : decode cX8_lowestTerm 72 = .ok (.lload 9, 2) := by decide +kernel
theorem dX8_lowestTerm_74 : decode cX8_lowestTerm 74 = .ok (.lreturn, 1) := by decide +kernel
end
section
theorem dX9_init_0 : decode cX9_init 0 = .ok (.aload_n 0, 1) := by decide +kernel
theorem dX9_init_1 : decode cX9_init 1 = .ok (.invokespecial 1, 3) := by decide +kernel
theorem dX9_init_4 : decode cX9_init 4 = .ok (.aload_n 0, 1) := by decide +kernel
theorem dX9_init_5 : decode cX9_init 5 = .ok (.bipush 96, 2) := by decide +kernel
theorem dX9_init_7 : decode cX9_init 7 = .ok (.newarray .int, 2) := by decide +kernel
theorem dX9_init_9 : decode cX9_init 9 = .ok (.putfield 7, 3) := by decide +kernel
theorem dX9_init_12 : decode cX9_init 12 = .ok (.aload_n 0, 1) := by decide +kernel
theorem dX9_init_13 : decode cX9_init 13 = .ok (.bipush 30, 2) := by decide +kernel
theorem dX9_init_15 : decode cX9_init 15 = .ok (.newarray .int, 2) := by decide +kernel
theorem dX9_init_17 : decode cX9_init 17 = .ok (.putfield 13, 3) := by decide +kernel
theorem dX9_init_20 : decode cX9_init 20 = .ok (.aload_n 0, 1) := by decide +kernel
theorem dX9_init_21 : decode cX9_init 21 = .ok (.bipush 20, 2) := by decide +kernel
theorem dX9_init_23 : decode cX9_init 23 = .ok (.newarray .int, 2) := by decide +kernel
theorem dX9_init_25 : decode cX9_init 25 = .ok (.putfield 16, 3) := by decide +kernel
theorem dX9_init_28 : decode cX9_init 28 = .ok (.aload_n 0, 1) := by decide +kernel
theorem dX9_init_29 : decode cX9_init 29 = .ok (.bipush 30, 2) := by decide +kernel
theorem dX9_init_31 : decode cX9_init 31 = .ok (.putfield 19, 3) := by decide +kernel
theorem dX9_init_34 : decode cX9_init 34 = .ok (.aload_n 0, 1) := by decide +kernel
theorem dX9_init_35 : decode cX9_init 35 = .ok (.sipush 200, 3) := by decide +kernel
theorem dX9_init_38 : decode cX9_init 38 = .ok (.newarray .int, 2) := by decide +kernel
theorem dX9_init_40 : decode cX9_init 40 = .ok (.putfield 23, 3) := by decide +kernel
theorem dX9_init_43 : decode cX9_init 43 = .ok (.aload_n 0, 1) := by decide +kernel
theorem dX9_init_44 : decode cX9_init 44 = .ok (.bipush 70, 2) := by decide +kernel
theorem dX9_init_46 : decode cX9_init 46 = .ok (.newarray .int, 2) := by decide +kernel
theorem dX9_init_48 : decode cX9_init 48 = .ok (.putfield 26, 3) := by decide +kernel
theorem dX9_init_51 : decode cX9_init 51 = .ok (.aload_n 0, 1) := by decide +kernel
theorem dX9_init_52 : decode cX9_init 52 = .ok (.sipush 1197, 3) := by decide +kernel
theorem dX9_init_55 : decode cX9_init 55 = .ok (.newarray .int, 2) := by decide +kernel
theorem dX9_init_57 : decode cX9_init 57 = .ok (.putfield 29, 3) := by decide +kernel
theorem dX9_init_60 : decode cX9_init 60 = .ok (.aload_n 0, 1) := by decide +kernel
theorem dX9_init_61 : decode cX9_init 61 = .ok (.sipush 1197, 3) := by decide +kernel
theorem dX9_init_64 : decode cX9_init 64 = .ok (.newarray .int, 2) := by decide +kernel
theorem dX9_init_66 : decode cX9_init 66 = .ok (.putfield 32, 3) := by decide +kernel
theorem dX9_init_69 : decode cX9_init 69 = .ok (.aload_n 0, 1) := by decide +kernel
theorem dX9_init_70 : decode cX9_init 70 = .ok (.sipush 2394, 3) := by decide +kernel
theorem dX9_init_73 : decode cX9_init 73 = .ok (.newarray .int, 2) := by decide +kernel
theorem dX9_init_75 : decode cX9_init 75 = .ok (.putfield 35, 3) := by decide +kernel
theorem dX9_init_78 : decode cX9_init 78 = .ok (.aload_n 0, 1) := by decide +kernel
theorem dX9_init_79 : decode cX9_init 79 = .ok (.iconst 2, 1) := by decide +kernel
theorem dX9_init_80 : decode cX9_init 80 = .ok (.newarray .boolean, 2) := by decide +kernel
theorem dX9_init_82 : decode cX9_init 82 = .ok (.putfield 38, 3) := by decide +kernel
theorem dX9_init_85 : decode cX9_init 85 = .ok (.aload_n 0, 1) := by decide +kernel
theorem dX9_init_86 : decode cX9_init 86 = .ok (.invokevirtual 42, 3) := by decide +kernel
theorem dX9_init_89 : decode cX9_init 89 = .ok (.return_, 1) := by decide +kernel
theorem dX9_in_0 : decode cX9_in 0 = .ok (.iload_n 0, 1) := by decide +kernel
theorem dX9_in_1 : decode cX9_in 1 = .ok (.iload_n 1, 1) := by decide +kernel
theorem dX9_in_2 : decode cX9_in 2 = .ok (.if_icmp .lt 12, 3) := by decide +kernel
theorem dX9_in_5 : decode cX9_in 5 = .ok (.iload_n 0, 1) := by decide +kernel
theorem dX9_in_6 : decode cX9_in 6 = .ok (.iload_n 2, 1) := by decide +kernel
theorem dX9_in_7 : decode cX9_in 7 = .ok (.if_icmp .gt 7, 3) := by decide +kernel
theorem dX9_in_10 : decode cX9_in 10 = .ok (.iconst 1, 1) := by decide +kernel
theorem dX9_in_11 : decode cX9_in 11 = .ok (.goto 4, 3) := by decide +kernel
theorem dX9_in_14 : decode cX9_in 14 = .ok (.iconst 0, 1) := by decide +kernel
theorem dX9_in_15 : decode cX9_in 15 = .ok (.ireturn, 1) := by decide +kernel
theorem dX9_has_0 : decode cX9_has 0 = .ok (.iload_n 0, 1) := by decide +kernel
theorem dX9_has_1 : decode cX9_has 1 = .ok (.iload_n 1, 1) := by decide +kernel
theorem dX9_has_2 : decode cX9_has 2 = .ok (.ishr, 1) := by decide +kernel
theorem dX9_has_3 : decode cX9_has 3 = .ok (.iconst 1, 1) := by decide +kernel
theorem dX9_has_4 : decode cX9_has 4 = .ok (.iand, 1) := by decide +kernel
theorem dX9_has_5 : decode cX9_has 5 = .ok (.iconst 1, 1) := by decide +kernel
theorem dX9_has_6 : decode cX9_has 6 = .ok (.if_icmp .ne 7, 3) := by decide +kernel
theorem dX9_has_9 : decode cX9_has 9 = .ok (.iconst 1, 1) := by decide +kernel
theorem dX9_has_10 : decode cX9_has 10 = .ok (.goto 4, 3) := by decide +kernel
theorem dX9_has_13 : decode cX9_has 13 = .ok (.iconst 0, 1) := by decide +kernel
theorem dX9_has_14 : decode cX9_has 14 = .ok (.ireturn, 1) := by decide +kernel
theorem dX9_isKite_0 : decode cX9_isKite 0 = .ok (.iload_n 1, 1) := by decide +kernel
theorem dX9_isKite_1 : decode cX9_isKite 1 = .ok (.iconst 0, 1) := by decide +kernel
theorem dX9_isKite_2 : decode cX9_isKite 2 = .ok (.iconst 5, 1) := by decide +kernel
theorem dX9_isKite_3 : decode cX9_isKite 3 = .ok (.invokestatic 45, 3) := by decide +kernel
theorem dX9_isKite_6 : decode cX9_isKite 6 = .ok (.ifCond .eq 18, 3) := by decide +kernel
theorem dX9_isKite_9 : decode cX9_isKite 9 = .ok (.aload_n 0, 1) := by decide +kernel
theorem dX9_isKite_10 : decode cX9_isKite 10 = .ok (.getfield 49, 3) := by decide +kernel
theorem dX9_isKite_13 : decode cX9_isKite 13 = .ok (.iload_n 1, 1) := by decide +kernel
theorem dX9_isKite_14 : decode cX9_isKite 14 = .ok (.invokestatic 52, 3) := by decide +kernel
theorem dX9_isKite_17 : decode cX9_isKite 17 = .ok (.ifCond .eq 7, 3) := by decide +kernel
theorem dX9_isKite_20 : decode cX9_isKite 20 = .ok (.iconst 1, 1) := by decide +kernel
theorem dX9_isKite_21 : decode cX9_isKite 21 = .ok (.goto 4, 3) := by decide +kernel
theorem dX9_isKite_24 : decode cX9_isKite 24 = .ok (.iconst 0, 1) := by decide +kernel
theorem dX9_isKite_25 : decode cX9_isKite 25 = .ok (.ireturn, 1) := by decide +kernel
theorem dX9_isHeight_0 : decode cX9_isHeight 0 = .ok (.iload_n 0, 1) := by decide +kernel
theorem dX9_isHeight_1 : decode cX9_isHeight 1 = .ok (.iconst 1, 1) := by decide +kernel
theorem dX9_isHeight_2 : decode cX9_isHeight 2 = .ok (.iconst 3, 1) := by decide +kernel
theorem dX9_isHeight_3 : decode cX9_isHeight 3 = .ok (.invokestatic 45, 3) := by decide +kernel
theorem dX9_isHeight_6 : decode cX9_isHeight 6 = .ok (.ireturn, 1) := by decide +kernel
theorem dX9_isHour_0 : decode cX9_isHour 0 = .ok (.iload_n 0, 1) := by decide +kernel
theorem dX9_isHour_1 : decode cX9_isHour 1 = .ok (.iconst 0, 1) := by decide +kernel
theorem dX9_isHour_2 : decode cX9_isHour 2 = .ok (.bipush 11, 2) := by decide +kernel
theorem dX9_isHour_4 : decode cX9_isHour 4 = .ok (.invokestatic 45, 3) := by decide +kernel
theorem dX9_isHour_7 : decode cX9_isHour 7 = .ok (.ireturn, 1) := by decide +kernel
theorem dX9_write_0 : decode cX9_write 0 = .ok (.iload_n 3, 1) := by decide +kernel
theorem dX9_write_1 : decode cX9_write 1 = .ok (.iconst 1, 1) := by decide +kernel
theorem dX9_write_2 : decode cX9_write 2 = .ok (.bipush 8, 2) := by decide +kernel
theorem dX9_write_4 : decode cX9_write 4 = .ok (.invokestatic 45, 3) := by decide +kernel
theorem dX9_write_7 : decode cX9_write 7 = .ok (.ifCond .ne 6, 3) := by decide +kernel
theorem dX9_write_10 : decode cX9_write 10 = .ok (.bipush (-3), 2) := by decide +kernel
theorem dX9_write_12 : decode cX9_write 12 = .ok (.ireturn, 1) := by decide +kernel
theorem dX9_write_13 : decode cX9_write 13 = .ok (.aload_n 0, 1) := by decide +kernel
theorem dX9_write_14 : decode cX9_write 14 = .ok (.getfield 56, 3) := by decide +kernel
theorem dX9_write_17 : decode cX9_write 17 = .ok (.iload_n 3, 1) := by decide +kernel
theorem dX9_write_18 : decode cX9_write 18 = .ok (.iadd, 1) := by decide +kernel
theorem dX9_write_19 : decode cX9_write 19 = .ok (.sipush 200, 3) := by decide +kernel
theorem dX9_write_22 : decode cX9_write 22 = .ok (.if_icmp .le 6, 3) := by decide +kernel
theorem dX9_write_25 : decode cX9_write 25 = .ok (.bipush (-5), 2) := by decide +kernel
theorem dX9_write_27 : decode cX9_write 27 = .ok (.ireturn, 1) := by decide +kernel
theorem dX9_write_28 : decode cX9_write 28 = .ok (.iconst 0, 1) := by decide +kernel
theorem dX9_write_29 : decode cX9_write 29 = .ok (.istore 4, 2) := by decide +kernel
theorem dX9_write_31 : decode cX9_write 31 = .ok (.iload 4, 2) := by decide +kernel
theorem dX9_write_33 : decode cX9_write 33 = .ok (.iload_n 3, 1) := by decide +kernel
theorem dX9_write_34 : decode cX9_write 34 = .ok (.if_icmp .ge 33, 3) := by decide +kernel
theorem dX9_write_37 : decode cX9_write 37 = .ok (.aload_n 0, 1) := by decide +kernel
theorem dX9_write_38 : decode cX9_write 38 = .ok (.getfield 23, 3) := by decide +kernel
theorem dX9_write_41 : decode cX9_write 41 = .ok (.aload_n 0, 1) := by decide +kernel
theorem dX9_write_42 : decode cX9_write 42 = .ok (.getfield 56, 3) := by decide +kernel
theorem dX9_write_45 : decode cX9_write 45 = .ok (.iload 4, 2) := by decide +kernel
theorem dX9_write_47 : decode cX9_write 47 = .ok (.iadd, 1) := by decide +kernel
theorem dX9_write_48 : decode cX9_write 48 = .ok (.lload_n 1, 1) := by decide +kernel
theorem dX9_write_49 : decode cX9_write 49 = .ok (.bipush 8, 2) := by decide +kernel
theorem dX9_write_51 : decode cX9_write 51 = .ok (.iload 4, 2) := by decide +kernel
theorem dX9_write_53 : decode cX9_write 53 = .ok (.imul, 1) := by decide +kernel
theorem dX9_write_54 : decode cX9_write 54 = .ok (.lshr, 1) := by decide +kernel
theorem dX9_write_55 : decode cX9_write 55 = .ok (.ldc2_w 59, 3) := by decide +kernel
theorem dX9_write_58 : decode cX9_write 58 = .ok (.land, 1) := by decide +kernel
theorem dX9_write_59 : decode cX9_write 59 = .ok (.l2i, 1) := by decide +kernel
theorem dX9_write_60 : decode cX9_write 60 = .ok (.iastore, 1) := by decide +kernel
theorem dX9_write_61 : decode cX9_write 61 = .ok (.iinc 4 1, 3) := by decide +kernel
theorem dX9_write_64 : decode cX9_write 64 = .ok (.goto (-33), 3) := by decide +kernel
theorem dX9_write_67 : decode cX9_write 67 = .ok (.aload_n 0, 1) := by decide +kernel
theorem dX9_write_68 : decode cX9_write 68 = .ok (.dup, 1) := by decide +kernel
theorem dX9_write_69 : decode cX9_write 69 = .ok (.getfield 56, 3) := by decide +kernel
theorem dX9_write_72 : decode cX9_write 72 = .ok (.iload_n 3, 1) := by decide +kernel
theorem dX9_write_73 : decode cX9_write 73 = .ok (.iadd, 1) := by decide +kernel
theorem dX9_write_74 : decode cX9_write 74 = .ok (.putfield 56, 3) := by decide +kernel
theorem dX9_write_77 : decode cX9_write 77 = .ok (.aload_n 0, 1) := by decide +kernel
theorem dX9_write_78 : decode cX9_write 78 = .ok (.getfield 56, 3) := by decide +kernel
theorem dX9_write_81 : decode cX9_write 81 = .ok (.ireturn, 1) := by decide +kernel
theorem dX9_erase_0 : decode cX9_erase 0 = .ok (.aload_n 0, 1) := by decide +kernel
theorem dX9_erase_1 : decode cX9_erase 1 = .ok (.getfield 56, 3) := by decide +kernel
theorem dX9_erase_4 : decode cX9_erase 4 = .ok (.istore_n 1, 1) := by decide +kernel
theorem dX9_erase_5 : decode cX9_erase 5 = .ok (.aload_n 0, 1) := by decide +kernel
theorem dX9_erase_6 : decode cX9_erase 6 = .ok (.iconst 0, 1) := by decide +kernel
theorem dX9_erase_7 : decode cX9_erase 7 = .ok (.putfield 56, 3) := by decide +kernel
theorem dX9_erase_10 : decode cX9_erase 10 = .ok (.iload_n 1, 1) := by decide +kernel
theorem dX9_erase_11 : decode cX9_erase 11 = .ok (.ireturn, 1) := by decide +kernel
theorem dX9_nextToken_0 : decode cX9_nextToken 0 = .ok (.aload_n 0, 1) := by decide +kernel
theorem dX9_nextToken_1 : decode cX9_nextToken 1 = .ok (.getfield 61, 3) := by decide +kernel
theorem dX9_nextToken_4 : decode cX9_nextToken 4 = .ok (.aload_n 0, 1) := by decide +kernel
theorem dX9_nextToken_5 : decode cX9_nextToken 5 = .ok (.getfield 56, 3) := by decide +kernel
theorem dX9_nextToken_8 : decode cX9_nextToken 8 = .ok (.if_icmp .ge 30, 3) := by decide +kernel
theorem dX9_nextToken_11 : decode cX9_nextToken 11 = .ok (.aload_n 0, 1) := by decide +kernel
theorem dX9_nextToken_12 : decode cX9_nextToken 12 = .ok (.getfield 23, 3) := by decide +kernel
theorem dX9_nextToken_15 : decode cX9_nextToken 15 = .ok (.aload_n 0, 1) := by decide +kernel
theorem dX9_nextToken_16 : decode cX9_nextToken 16 = .ok (.getfield 61, 3) := by decide +kernel
theorem dX9_nextToken_19 : decode cX9_nextToken 19 = .ok (.iaload, 1) := by decide +kernel
theorem dX9_nextToken_20 : decode cX9_nextToken 20 = .ok (.bipush 32, 2) := by decide +kernel
theorem dX9_nextToken_22 : decode cX9_nextToken 22 = .ok (.if_icmp .ne 16, 3) := by decide +kernel
theorem dX9_nextToken_25 : decode cX9_nextToken 25 = .ok (.aload_n 0, 1) := by decide +kernel
theorem dX9_nextToken_26 : decode cX9_nextToken 26 = .ok (.dup, 1) := by decide +kernel
theorem dX9_nextToken_27 : decode cX9_nextToken 27 = .ok (.getfield 61, 3) := by decide +kernel
theorem dX9_nextToken_30 : decode cX9_nextToken 30 = .ok (.iconst 1, 1) := by decide +kernel
theorem dX9_nextToken_31 : decode cX9_nextToken 31 = .ok (.iadd, 1) := by decide +kernel
theorem dX9_nextToken_32 : decode cX9_nextToken 32 = .ok (.putfield 61, 3) := by decide +kernel
theorem dX9_nextToken_35 : decode cX9_nextToken 35 = .ok (.goto (-35), 3) := by decide +kernel
theorem dX9_nextToken_38 : decode cX9_nextToken 38 = .ok (.aload_n 0, 1) := by decide +kernel
theorem dX9_nextToken_39 : decode cX9_nextToken 39 = .ok (.aload_n 0, 1) := by decide +kernel
theorem dX9_nextToken_40 : decode cX9_nextToken 40 = .ok (.getfield 61, 3) := by decide +kernel
theorem dX9_nextToken_43 : decode cX9_nextToken 43 = .ok (.putfield 64, 3) := by decide +kernel
theorem dX9_nextToken_46 : decode cX9_nextToken 46 = .ok (.aload_n 0, 1) := by decide +kernel
theorem dX9_nextToken_47 : decode cX9_nextToken 47 = .ok (.iconst 0, 1) := by decide +kernel
theorem dX9_nextToken_48 : decode cX9_nextToken 48 = .ok (.putfield 67, 3) := by decide +kernel
theorem dX9_nextToken_51 : decode cX9_nextToken 51 = .ok (.aload_n 0, 1) := by decide +kernel
theorem dX9_nextToken_52 : decode cX9_nextToken 52 = .ok (.iconst 0, 1) := by decide +kernel
theorem dX9_nextToken_53 : decode cX9_nextToken 53 = .ok (.putfield 70, 3) := by decide +kernel
theorem dX9_nextToken_56 : decode cX9_nextToken 56 = .ok (.aload_n 0, 1) := by decide +kernel
theorem dX9_nextToken_57 : decode cX9_nextToken 57 = .ok (.getfield 61, 3) := by decide +kernel
theorem dX9_nextToken_60 : decode cX9_nextToken 60 = .ok (.aload_n 0, 1) := by decide +kernel
theorem dX9_nextToken_61 : decode cX9_nextToken 61 = .ok (.getfield 56, 3) := by decide +kernel
theorem dX9_nextToken_64 : decode cX9_nextToken 64 = .ok (.if_icmp .ne 13, 3) := by decide +kernel
theorem dX9_nextToken_67 : decode cX9_nextToken 67 = .ok (.aload_n 0, 1) := by decide +kernel
theorem dX9_nextToken_68 : decode cX9_nextToken 68 = .ok (.ldc2_w 73, 3) := by decide +kernel
theorem dX9_nextToken_71 : decode cX9_nextToken 71 = .ok (.putfield 75, 3) := by decide +kernel
theorem dX9_nextToken_74 : decode cX9_nextToken 74 = .ok (.goto 320, 3) := by decide +kernel
theorem dX9_nextToken_77 : decode cX9_nextToken 77 = .ok (.aload_n 0, 1) := by decide +kernel
theorem dX9_nextToken_78 : decode cX9_nextToken 78 = .ok (.getfield 23, 3) := by decide +kernel
theorem dX9_nextToken_81 : decode cX9_nextToken 81 = .ok (.aload_n 0, 1) := by decide +kernel
theorem dX9_nextToken_82 : decode cX9_nextToken 82 = .ok (.getfield 61, 3) := by decide +kernel
theorem dX9_nextToken_85 : decode cX9_nextToken 85 = .ok (.iaload, 1) := by decide +kernel
theorem dX9_nextToken_86 : decode cX9_nextToken 86 = .ok (.bipush 97, 2) := by decide +kernel
theorem dX9_nextToken_88 : decode cX9_nextToken 88 = .ok (.bipush 122, 2) := by decide +kernel
theorem dX9_nextToken_90 : decode cX9_nextToken 90 = .ok (.invokestatic 45, 3) := by decide +kernel
theorem dX9_nextToken_93 : decode cX9_nextToken 93 = .ok (.ifCond .eq 129, 3) := by decide +kernel
theorem dX9_nextToken_96 : decode cX9_nextToken 96 = .ok (.aload_n 0, 1) := by decide +kernel
theorem dX9_nextToken_97 : decode cX9_nextToken 97 = .ok (.lconst 0, 1) := by decide +kernel
theorem dX9_nextToken_98 : decode cX9_nextToken 98 = .ok (.putfield 75, 3) := by decide +kernel
theorem dX9_nextToken_101 : decode cX9_nextToken 101 = .ok (.aload_n 0, 1) := by decide +kernel
theorem dX9_nextToken_102 : decode cX9_nextToken 102 = .ok (.getfield 61, 3) := by decide +kernel
theorem dX9_nextToken_105 : decode cX9_nextToken 105 = .ok (.aload_n 0, 1) := by decide +kernel
theorem dX9_nextToken_106 : decode cX9_nextToken 106 = .ok (.getfield 56, 3) := by decide +kernel
theorem dX9_nextToken_109 : decode cX9_nextToken 109 = .ok (.if_icmp .ge 82, 3) := by decide +kernel
theorem dX9_nextToken_112 : decode cX9_nextToken 112 = .ok (.aload_n 0, 1) := by decide +kernel
theorem dX9_nextToken_113 : decode cX9_nextToken 113 = .ok (.getfield 23, 3) := by decide +kernel
theorem dX9_nextToken_116 : decode cX9_nextToken 116 = .ok (.aload_n 0, 1) := by decide +kernel
theorem dX9_nextToken_117 : decode cX9_nextToken 117 = .ok (.getfield 61, 3) := by decide +kernel
theorem dX9_nextToken_120 : decode cX9_nextToken 120 = .ok (.iaload, 1) := by decide +kernel
theorem dX9_nextToken_121 : decode cX9_nextToken 121 = .ok (.bipush 97, 2) := by decide +kernel
theorem dX9_nextToken_123 : decode cX9_nextToken 123 = .ok (.bipush 122, 2) := by decide +kernel
theorem dX9_nextToken_125 : decode cX9_nextToken 125 = .ok (.invokestatic 45, 3) := by decide +kernel
theorem dX9_nextToken_128 : decode cX9_nextToken 128 = .ok (.ifCond .eq 63, 3) := by decide +kernel
theorem dX9_nextToken_131 : decode cX9_nextToken 131 = .ok (.aload_n 0, 1) := by decide +kernel
theorem dX9_nextToken_132 : decode cX9_nextToken 132 = .ok (.aload_n 0, 1) := by decide +kernel
theorem dX9_nextToken_133 : decode cX9_nextToken 133 = .ok (.getfield 61, 3) := by decide +kernel
theorem dX9_nextToken_136 : decode cX9_nextToken 136 = .ok (.aload_n 0, 1) := by decide +kernel
theorem dX9_nextToken_137 : decode cX9_nextToken 137 = .ok (.getfield 64, 3) := by decide +kernel
theorem dX9_nextToken_140 : decode cX9_nextToken 140 = .ok (.isub, 1) := by decide +kernel
theorem dX9_nextToken_141 : decode cX9_nextToken 141 = .ok (.bipush 9, 2) := by decide +kernel
theorem dX9_nextToken_143 : decode cX9_nextToken 143 = .ok (.if_icmp .ge 29, 3) := by decide +kernel
theorem dX9_nextToken_146 : decode cX9_nextToken 146 = .ok (.ldc2_w 79, 3) := by decide +kernel
theorem dX9_nextToken_149 : decode cX9_nextToken 149 = .ok (.aload_n 0, 1) := by decide +kernel
theorem dX9_nextToken_150 : decode cX9_nextToken 150 = .ok (.getfield 75, 3) := by decide +kernel
theorem dX9_nextToken_153 : decode cX9_nextToken 153 = .ok (.lmul, 1) := by decide +kernel
theorem dX9_nextToken_154 : decode cX9_nextToken 154 = .ok (.aload_n 0, 1) := by decide +kernel
theorem dX9_nextToken_155 : decode cX9_nextToken 155 = .ok (.getfield 23, 3) := by decide +kernel
theorem dX9_nextToken_158 : decode cX9_nextToken 158 = .ok (.aload_n 0, 1) := by decide +kernel
theorem dX9_nextToken_159 : decode cX9_nextToken 159 = .ok (.getfield 61, 3) := by decide +kernel
theorem dX9_nextToken_162 : decode cX9_nextToken 162 = .ok (.iaload, 1) := by decide +kernel
theorem dX9_nextToken_163 : decode cX9_nextToken 163 = .ok (.i2l, 1) := by decide +kernel
theorem dX9_nextToken_164 : decode cX9_nextToken 164 = .ok (.ladd, 1) := by decide +kernel
theorem dX9_nextToken_165 : decode cX9_nextToken 165 = .ok (.ldc2_w 81, 3) := by decide +kernel
theorem dX9_nextToken_168 : decode cX9_nextToken 168 = .ok (.lsub, 1) := by decide +kernel
theorem dX9_nextToken_169 : decode cX9_nextToken 169 = .ok (.goto 6, 3) := by decide +kernel
theorem dX9_nextToken_172 : decode cX9_nextToken 172 = .ok (.ldc2_w 83, 3) := by decide +kernel
theorem dX9_nextToken_175 : decode cX9_nextToken 175 = .ok (.putfield 75, 3) := by decide +kernel
theorem dX9_nextToken_178 : decode cX9_nextToken 178 = .ok (.aload_n 0, 1) := by decide +kernel
theorem dX9_nextToken_179 : decode cX9_nextToken 179 = .ok (.dup, 1) := by decide +kernel
theorem dX9_nextToken_180 : decode cX9_nextToken 180 = .ok (.getfield 61, 3) := by decide +kernel
theorem dX9_nextToken_183 : decode cX9_nextToken 183 = .ok (.iconst 1, 1) := by decide +kernel
theorem dX9_nextToken_184 : decode cX9_nextToken 184 = .ok (.iadd, 1) := by decide +kernel
theorem dX9_nextToken_185 : decode cX9_nextToken 185 = .ok (.putfield 61, 3) := by decide +kernel
theorem dX9_nextToken_188 : decode cX9_nextToken 188 = .ok (.goto (-87), 3) := by decide +kernel
theorem dX9_nextToken_191 : decode cX9_nextToken 191 = .ok (.aload_n 0, 1) := by decide +kernel
theorem dX9_nextToken_192 : decode cX9_nextToken 192 = .ok (.aload_n 0, 1) := by decide +kernel
theorem dX9_nextToken_193 : decode cX9_nextToken 193 = .ok (.getfield 61, 3) := by decide +kernel
theorem dX9_nextToken_196 : decode cX9_nextToken 196 = .ok (.aload_n 0, 1) := by decide +kernel
theorem dX9_nextToken_197 : decode cX9_nextToken 197 = .ok (.getfield 64, 3) := by decide +kernel
theorem dX9_nextToken_200 : decode cX9_nextToken 200 = .ok (.isub, 1) := by decide +kernel
theorem dX9_nextToken_201 : decode cX9_nextToken 201 = .ok (.bipush 9, 2) := by decide +kernel
theorem dX9_nextToken_203 : decode cX9_nextToken 203 = .ok (.if_icmp .le 9, 3) := by decide +kernel
theorem dX9_nextToken_206 : decode cX9_nextToken 206 = .ok (.ldc2_w 83, 3) := by decide +kernel
theorem dX9_nextToken_209 : decode cX9_nextToken 209 = .ok (.goto 7, 3) := by decide +kernel
theorem dX9_nextToken_212 : decode cX9_nextToken 212 = .ok (.aload_n 0, 1) := by decide +kernel
theorem dX9_nextToken_213 : decode cX9_nextToken 213 = .ok (.getfield 75, 3) := by decide +kernel
theorem dX9_nextToken_216 : decode cX9_nextToken 216 = .ok (.putfield 75, 3) := by decide +kernel
theorem dX9_nextToken_219 : decode cX9_nextToken 219 = .ok (.goto 175, 3) := by decide +kernel
theorem dX9_nextToken_222 : decode cX9_nextToken 222 = .ok (.aload_n 0, 1) := by decide +kernel
theorem dX9_nextToken_223 : decode cX9_nextToken 223 = .ok (.getfield 23, 3) := by decide +kernel
theorem dX9_nextToken_226 : decode cX9_nextToken 226 = .ok (.aload_n 0, 1) := by decide +kernel
theorem dX9_nextToken_227 : decode cX9_nextToken 227 = .ok (.getfield 61, 3) := by decide +kernel
theorem dX9_nextToken_230 : decode cX9_nextToken 230 = .ok (.iaload, 1) := by decide +kernel
theorem dX9_nextToken_231 : decode cX9_nextToken 231 = .ok (.bipush 48, 2) := by decide +kernel
theorem dX9_nextToken_233 : decode cX9_nextToken 233 = .ok (.bipush 57, 2) := by decide +kernel
theorem dX9_nextToken_235 : decode cX9_nextToken 235 = .ok (.invokestatic 45, 3) := by decide +kernel
theorem dX9_nextToken_238 : decode cX9_nextToken 238 = .ok (.ifCond .eq 119, 3) := by decide +kernel
theorem dX9_nextToken_241 : decode cX9_nextToken 241 = .ok (.aload_n 0, 1) := by decide +kernel
theorem dX9_nextToken_242 : decode cX9_nextToken 242 = .ok (.getfield 61, 3) := by decide +kernel
theorem dX9_nextToken_245 : decode cX9_nextToken 245 = .ok (.aload_n 0, 1) := by decide +kernel
theorem dX9_nextToken_246 : decode cX9_nextToken 246 = .ok (.getfield 56, 3) := by decide +kernel
theorem dX9_nextToken_249 : decode cX9_nextToken 249 = .ok (.if_icmp .ge 84, 3) := by decide +kernel
theorem dX9_nextToken_252 : decode cX9_nextToken 252 = .ok (.aload_n 0, 1) := by decide +kernel
theorem dX9_nextToken_253 : decode cX9_nextToken 253 = .ok (.getfield 23, 3) := by decide +kernel
theorem dX9_nextToken_256 : decode cX9_nextToken 256 = .ok (.aload_n 0, 1) := by decide +kernel
theorem dX9_nextToken_257 : decode cX9_nextToken 257 = .ok (.getfield 61, 3) := by decide +kernel
theorem dX9_nextToken_260 : decode cX9_nextToken 260 = .ok (.iaload, 1) := by decide +kernel
theorem dX9_nextToken_261 : decode cX9_nextToken 261 = .ok (.bipush 48, 2) := by decide +kernel
theorem dX9_nextToken_263 : decode cX9_nextToken 263 = .ok (.bipush 57, 2) := by decide +kernel
theorem dX9_nextToken_265 : decode cX9_nextToken 265 = .ok (.invokestatic 45, 3) := by decide +kernel
theorem dX9_nextToken_268 : decode cX9_nextToken 268 = .ok (.ifCond .eq 65, 3) := by decide +kernel
theorem dX9_nextToken_271 : decode cX9_nextToken 271 = .ok (.aload_n 0, 1) := by decide +kernel
theorem dX9_nextToken_272 : decode cX9_nextToken 272 = .ok (.aload_n 0, 1) := by decide +kernel
theorem dX9_nextToken_273 : decode cX9_nextToken 273 = .ok (.getfield 67, 3) := by decide +kernel
theorem dX9_nextToken_276 : decode cX9_nextToken 276 = .ok (.iconst 2, 1) := by decide +kernel
theorem dX9_nextToken_277 : decode cX9_nextToken 277 = .ok (.if_icmp .ge 26, 3) := by decide +kernel
theorem dX9_nextToken_280 : decode cX9_nextToken 280 = .ok (.bipush 10, 2) := by decide +kernel
theorem dX9_nextToken_282 : decode cX9_nextToken 282 = .ok (.aload_n 0, 1) := by decide +kernel
theorem dX9_nextToken_283 : decode cX9_nextToken 283 = .ok (.getfield 70, 3) := by decide +kernel
theorem dX9_nextToken_286 : decode cX9_nextToken 286 = .ok (.imul, 1) := by decide +kernel
theorem dX9_nextToken_287 : decode cX9_nextToken 287 = .ok (.aload_n 0, 1) := by decide +kernel
theorem dX9_nextToken_288 : decode cX9_nextToken 288 = .ok (.getfield 23, 3) := by decide +kernel
theorem dX9_nextToken_291 : decode cX9_nextToken 291 = .ok (.aload_n 0, 1) := by decide +kernel
theorem dX9_nextToken_292 : decode cX9_nextToken 292 = .ok (.getfield 61, 3) := by decide +kernel
theorem dX9_nextToken_295 : decode cX9_nextToken 295 = .ok (.iaload, 1) := by decide +kernel
theorem dX9_nextToken_296 : decode cX9_nextToken 296 = .ok (.iadd, 1) := by decide +kernel
theorem dX9_nextToken_297 : decode cX9_nextToken 297 = .ok (.bipush 48, 2) := by decide +kernel
theorem dX9_nextToken_299 : decode cX9_nextToken 299 = .ok (.isub, 1) := by decide +kernel
theorem dX9_nextToken_300 : decode cX9_nextToken 300 = .ok (.goto 7, 3) := by decide +kernel
theorem dX9_nextToken_303 : decode cX9_nextToken 303 = .ok (.aload_n 0, 1) := by decide +kernel
theorem dX9_nextToken_304 : decode cX9_nextToken 304 = .ok (.getfield 70, 3) := by decide +kernel
theorem dX9_nextToken_307 : decode cX9_nextToken 307 = .ok (.putfield 70, 3) := by decide +kernel
theorem dX9_nextToken_310 : decode cX9_nextToken 310 = .ok (.aload_n 0, 1) := by decide +kernel
theorem dX9_nextToken_311 : decode cX9_nextToken 311 = .ok (.dup, 1) := by decide +kernel
theorem dX9_nextToken_312 : decode cX9_nextToken 312 = .ok (.getfield 67, 3) := by decide +kernel
theorem dX9_nextToken_315 : decode cX9_nextToken 315 = .ok (.iconst 1, 1) := by decide +kernel
theorem dX9_nextToken_316 : decode cX9_nextToken 316 = .ok (.iadd, 1) := by decide +kernel
theorem dX9_nextToken_317 : decode cX9_nextToken 317 = .ok (.putfield 67, 3) := by decide +kernel
theorem dX9_nextToken_320 : decode cX9_nextToken 320 = .ok (.aload_n 0, 1) := by decide +kernel
theorem dX9_nextToken_321 : decode cX9_nextToken 321 = .ok (.dup, 1) := by decide +kernel
theorem dX9_nextToken_322 : decode cX9_nextToken 322 = .ok (.getfield 61, 3) := by decide +kernel
theorem dX9_nextToken_325 : decode cX9_nextToken 325 = .ok (.iconst 1, 1) := by decide +kernel
theorem dX9_nextToken_326 : decode cX9_nextToken 326 = .ok (.iadd, 1) := by decide +kernel
theorem dX9_nextToken_327 : decode cX9_nextToken 327 = .ok (.putfield 61, 3) := by decide +kernel
theorem dX9_nextToken_330 : decode cX9_nextToken 330 = .ok (.goto (-89), 3) := by decide +kernel
theorem dX9_nextToken_333 : decode cX9_nextToken 333 = .ok (.aload_n 0, 1) := by decide +kernel
theorem dX9_nextToken_334 : decode cX9_nextToken 334 = .ok (.aload_n 0, 1) := by decide +kernel
theorem dX9_nextToken_335 : decode cX9_nextToken 335 = .ok (.getfield 67, 3) := by decide +kernel
theorem dX9_nextToken_338 : decode cX9_nextToken 338 = .ok (.iconst 2, 1) := by decide +kernel
theorem dX9_nextToken_339 : decode cX9_nextToken 339 = .ok (.if_icmp .le 9, 3) := by decide +kernel
theorem dX9_nextToken_342 : decode cX9_nextToken 342 = .ok (.ldc2_w 83, 3) := by decide +kernel
theorem dX9_nextToken_345 : decode cX9_nextToken 345 = .ok (.goto 6, 3) := by decide +kernel
theorem dX9_nextToken_348 : decode cX9_nextToken 348 = .ok (.ldc2_w 85, 3) := by decide +kernel
theorem dX9_nextToken_351 : decode cX9_nextToken 351 = .ok (.putfield 75, 3) := by decide +kernel
theorem dX9_nextToken_354 : decode cX9_nextToken 354 = .ok (.goto 40, 3) := by decide +kernel
theorem dX9_nextToken_357 : decode cX9_nextToken 357 = .ok (.aload_n 0, 1) := by decide +kernel
theorem dX9_nextToken_358 : decode cX9_nextToken 358 = .ok (.aload_n 0, 1) := by decide +kernel
theorem dX9_nextToken_359 : decode cX9_nextToken 359 = .ok (.getfield 23, 3) := by decide +kernel
theorem dX9_nextToken_362 : decode cX9_nextToken 362 = .ok (.aload_n 0, 1) := by decide +kernel
theorem dX9_nextToken_363 : decode cX9_nextToken 363 = .ok (.getfield 61, 3) := by decide +kernel
theorem dX9_nextToken_366 : decode cX9_nextToken 366 = .ok (.iaload, 1) := by decide +kernel
theorem dX9_nextToken_367 : decode cX9_nextToken 367 = .ok (.bipush 59, 2) := by decide +kernel
theorem dX9_nextToken_369 : decode cX9_nextToken 369 = .ok (.if_icmp .ne 9, 3) := by decide +kernel
theorem dX9_nextToken_372 : decode cX9_nextToken 372 = .ok (.ldc2_w 87, 3) := by decide +kernel
theorem dX9_nextToken_375 : decode cX9_nextToken 375 = .ok (.goto 6, 3) := by decide +kernel
theorem dX9_nextToken_378 : decode cX9_nextToken 378 = .ok (.ldc2_w 83, 3) := by decide +kernel
theorem dX9_nextToken_381 : decode cX9_nextToken 381 = .ok (.putfield 75, 3) := by decide +kernel
theorem dX9_nextToken_384 : decode cX9_nextToken 384 = .ok (.aload_n 0, 1) := by decide +kernel
theorem dX9_nextToken_385 : decode cX9_nextToken 385 = .ok (.dup, 1) := by decide +kernel
theorem dX9_nextToken_386 : decode cX9_nextToken 386 = .ok (.getfield 61, 3) := by decide +kernel
theorem dX9_nextToken_389 : decode cX9_nextToken 389 = .ok (.iconst 1, 1) := by decide +kernel
theorem dX9_nextToken_390 : decode cX9_nextToken 390 = .ok (.iadd, 1) := by decide +kernel
theorem dX9_nextToken_391 : decode cX9_nextToken 391 = .ok (.putfield 61, 3) := by decide +kernel
theorem dX9_nextToken_394 : decode cX9_nextToken 394 = .ok (.return_, 1) := by decide +kernel
theorem dX9_fails_0 : decode cX9_fails 0 = .ok (.aload_n 0, 1) := by decide +kernel
theorem dX9_fails_1 : decode cX9_fails 1 = .ok (.aload_n 0, 1) := by decide +kernel
theorem dX9_fails_2 : decode cX9_fails 2 = .ok (.getfield 64, 3) := by decide +kernel
theorem dX9_fails_5 : decode cX9_fails 5 = .ok (.putfield 89, 3) := by decide +kernel
theorem dX9_fails_8 : decode cX9_fails 8 = .ok (.iconst 0, 1) := by decide +kernel
theorem dX9_fails_9 : decode cX9_fails 9 = .ok (.ireturn, 1) := by decide +kernel
theorem dX9_isNumber_0 : decode cX9_isNumber 0 = .ok (.aload_n 0, 1) := by decide +kernel
theorem dX9_isNumber_1 : decode cX9_isNumber 1 = .ok (.invokevirtual 92, 3) := by decide +kernel
theorem dX9_isNumber_4 : decode cX9_isNumber 4 = .ok (.aload_n 0, 1) := by decide +kernel
theorem dX9_isNumber_5 : decode cX9_isNumber 5 = .ok (.getfield 75, 3) := by decide +kernel
theorem dX9_isNumber_8 : decode cX9_isNumber 8 = .ok (.ldc2_w 85, 3) := by decide +kernel
theorem dX9_isNumber_11 : decode cX9_isNumber 11 = .ok (.lcmp, 1) := by decide +kernel
theorem dX9_isNumber_12 : decode cX9_isNumber 12 = .ok (.ifCond .ne 15, 3) := by decide +kernel
theorem dX9_isNumber_15 : decode cX9_isNumber 15 = .ok (.aload_n 0, 1) := by decide +kernel
theorem dX9_isNumber_16 : decode cX9_isNumber 16 = .ok (.getfield 70, 3) := by decide +kernel
theorem dX9_isNumber_19 : decode cX9_isNumber 19 = .ok (.iload_n 2, 1) := by decide +kernel
theorem dX9_isNumber_20 : decode cX9_isNumber 20 = .ok (.iload_n 3, 1) := by decide +kernel
theorem dX9_isNumber_21 : decode cX9_isNumber 21 = .ok (.invokestatic 45, 3) := by decide +kernel
theorem dX9_isNumber_24 : decode cX9_isNumber 24 = .ok (.ifCond .ne 8, 3) := by decide +kernel
theorem dX9_isNumber_27 : decode cX9_isNumber 27 = .ok (.aload_n 0, 1) := by decide +kernel
theorem dX9_isNumber_28 : decode cX9_isNumber 28 = .ok (.invokevirtual 95, 3) := by decide +kernel
theorem dX9_isNumber_31 : decode cX9_isNumber 31 = .ok (.ireturn, 1) := by decide +kernel
theorem dX9_isNumber_32 : decode cX9_isNumber 32 = .ok (.aload_n 0, 1) := by decide +kernel
theorem dX9_isNumber_33 : decode cX9_isNumber 33 = .ok (.getfield 26, 3) := by decide +kernel
theorem dX9_isNumber_36 : decode cX9_isNumber 36 = .ok (.iload_n 1, 1) := by decide +kernel
theorem dX9_isNumber_37 : decode cX9_isNumber 37 = .ok (.aload_n 0, 1) := by decide +kernel
theorem dX9_isNumber_38 : decode cX9_isNumber 38 = .ok (.getfield 70, 3) := by decide +kernel
theorem dX9_isNumber_41 : decode cX9_isNumber 41 = .ok (.iastore, 1) := by decide +kernel
theorem dX9_isNumber_42 : decode cX9_isNumber 42 = .ok (.iconst 1, 1) := by decide +kernel
theorem dX9_isNumber_43 : decode cX9_isNumber 43 = .ok (.ireturn, 1) := by decide +kernel
theorem dX9_areHours_0 : decode cX9_areHours 0 = .ok (.aload_n 0, 1) := by decide +kernel
theorem dX9_areHours_1 : decode cX9_areHours 1 = .ok (.iload_n 1, 1) := by decide +kernel
theorem dX9_areHours_2 : decode cX9_areHours 2 = .ok (.iconst 0, 1) := by decide +kernel
theorem dX9_areHours_3 : decode cX9_areHours 3 = .ok (.bipush 11, 2) := by decide +kernel
theorem dX9_areHours_5 : decode cX9_areHours 5 = .ok (.invokevirtual 99, 3) := by decide +kernel
theorem dX9_areHours_8 : decode cX9_areHours 8 = .ok (.ifCond .eq 25, 3) := by decide +kernel
theorem dX9_areHours_11 : decode cX9_areHours 11 = .ok (.aload_n 0, 1) := by decide +kernel
theorem dX9_areHours_12 : decode cX9_areHours 12 = .ok (.iload_n 1, 1) := by decide +kernel
theorem dX9_areHours_13 : decode cX9_areHours 13 = .ok (.iconst 1, 1) := by decide +kernel
theorem dX9_areHours_14 : decode cX9_areHours 14 = .ok (.iadd, 1) := by decide +kernel
theorem dX9_areHours_15 : decode cX9_areHours 15 = .ok (.aload_n 0, 1) := by decide +kernel
theorem dX9_areHours_16 : decode cX9_areHours 16 = .ok (.getfield 26, 3) := by decide +kernel
theorem dX9_areHours_19 : decode cX9_areHours 19 = .ok (.iload_n 1, 1) := by decide +kernel
theorem dX9_areHours_20 : decode cX9_areHours 20 = .ok (.iaload, 1) := by decide +kernel
theorem dX9_areHours_21 : decode cX9_areHours 21 = .ok (.bipush 11, 2) := by decide +kernel
theorem dX9_areHours_23 : decode cX9_areHours 23 = .ok (.invokevirtual 99, 3) := by decide +kernel
theorem dX9_areHours_26 : decode cX9_areHours 26 = .ok (.ifCond .eq 7, 3) := by decide +kernel
theorem dX9_areHours_29 : decode cX9_areHours 29 = .ok (.iconst 1, 1) := by decide +kernel
theorem dX9_areHours_30 : decode cX9_areHours 30 = .ok (.goto 4, 3) := by decide +kernel
theorem dX9_areHours_33 : decode cX9_areHours 33 = .ok (.iconst 0, 1) := by decide +kernel
theorem dX9_areHours_34 : decode cX9_areHours 34 = .ok (.ireturn, 1) := by decide +kernel
theorem dX9_isKiteLine_0 : decode cX9_isKiteLine 0 = .ok (.aload_n 0, 1) := by decide +kernel
theorem dX9_isKiteLine_1 : decode cX9_isKiteLine 1 = .ok (.iload_n 1, 1) := by decide +kernel
theorem dX9_isKiteLine_2 : decode cX9_isKiteLine 2 = .ok (.iconst 1, 1) := by decide +kernel
theorem dX9_isKiteLine_3 : decode cX9_isKiteLine 3 = .ok (.iadd, 1) := by decide +kernel
theorem dX9_isKiteLine_4 : decode cX9_isKiteLine 4 = .ok (.iconst 0, 1) := by decide +kernel
theorem dX9_isKiteLine_5 : decode cX9_isKiteLine 5 = .ok (.iconst 5, 1) := by decide +kernel
theorem dX9_isKiteLine_6 : decode cX9_isKiteLine 6 = .ok (.invokevirtual 99, 3) := by decide +kernel
theorem dX9_isKiteLine_9 : decode cX9_isKiteLine 9 = .ok (.ifCond .eq 71, 3) := by decide +kernel
theorem dX9_isKiteLine_12 : decode cX9_isKiteLine 12 = .ok (.aload_n 0, 1) := by decide +kernel
theorem dX9_isKiteLine_13 : decode cX9_isKiteLine 13 = .ok (.iload_n 1, 1) := by decide +kernel
theorem dX9_isKiteLine_14 : decode cX9_isKiteLine 14 = .ok (.iconst 2, 1) := by decide +kernel
theorem dX9_isKiteLine_15 : decode cX9_isKiteLine 15 = .ok (.iadd, 1) := by decide +kernel
theorem dX9_isKiteLine_16 : decode cX9_isKiteLine 16 = .ok (.iconst 0, 1) := by decide +kernel
theorem dX9_isKiteLine_17 : decode cX9_isKiteLine 17 = .ok (.bipush 9, 2) := by decide +kernel
theorem dX9_isKiteLine_19 : decode cX9_isKiteLine 19 = .ok (.invokevirtual 99, 3) := by decide +kernel
theorem dX9_isKiteLine_22 : decode cX9_isKiteLine 22 = .ok (.ifCond .eq 58, 3) := by decide +kernel
theorem dX9_isKiteLine_25 : decode cX9_isKiteLine 25 = .ok (.aload_n 0, 1) := by decide +kernel
theorem dX9_isKiteLine_26 : decode cX9_isKiteLine 26 = .ok (.iload_n 1, 1) := by decide +kernel
theorem dX9_isKiteLine_27 : decode cX9_isKiteLine 27 = .ok (.iconst 3, 1) := by decide +kernel
theorem dX9_isKiteLine_28 : decode cX9_isKiteLine 28 = .ok (.iadd, 1) := by decide +kernel
theorem dX9_isKiteLine_29 : decode cX9_isKiteLine 29 = .ok (.iconst 1, 1) := by decide +kernel
theorem dX9_isKiteLine_30 : decode cX9_isKiteLine 30 = .ok (.iconst 5, 1) := by decide +kernel
theorem dX9_isKiteLine_31 : decode cX9_isKiteLine 31 = .ok (.invokevirtual 99, 3) := by decide +kernel
theorem dX9_isKiteLine_34 : decode cX9_isKiteLine 34 = .ok (.ifCond .eq 46, 3) := by decide +kernel
theorem dX9_isKiteLine_37 : decode cX9_isKiteLine 37 = .ok (.aload_n 0, 1) := by decide +kernel
theorem dX9_isKiteLine_38 : decode cX9_isKiteLine 38 = .ok (.iload_n 1, 1) := by decide +kernel
theorem dX9_isKiteLine_39 : decode cX9_isKiteLine 39 = .ok (.iconst 4, 1) := by decide +kernel
theorem dX9_isKiteLine_40 : decode cX9_isKiteLine 40 = .ok (.iadd, 1) := by decide +kernel
theorem dX9_isKiteLine_41 : decode cX9_isKiteLine 41 = .ok (.iconst 1, 1) := by decide +kernel
theorem dX9_isKiteLine_42 : decode cX9_isKiteLine 42 = .ok (.bipush 9, 2) := by decide +kernel
theorem dX9_isKiteLine_44 : decode cX9_isKiteLine 44 = .ok (.invokevirtual 99, 3) := by decide +kernel
theorem dX9_isKiteLine_47 : decode cX9_isKiteLine 47 = .ok (.ifCond .eq 33, 3) := by decide +kernel
theorem dX9_isKiteLine_50 : decode cX9_isKiteLine 50 = .ok (.aload_n 0, 1) := by decide +kernel
theorem dX9_isKiteLine_51 : decode cX9_isKiteLine 51 = .ok (.iload_n 1, 1) := by decide +kernel
theorem dX9_isKiteLine_52 : decode cX9_isKiteLine 52 = .ok (.iconst 5, 1) := by decide +kernel
theorem dX9_isKiteLine_53 : decode cX9_isKiteLine 53 = .ok (.iadd, 1) := by decide +kernel
theorem dX9_isKiteLine_54 : decode cX9_isKiteLine 54 = .ok (.iconst 0, 1) := by decide +kernel
theorem dX9_isKiteLine_55 : decode cX9_isKiteLine 55 = .ok (.bipush 9, 2) := by decide +kernel
theorem dX9_isKiteLine_57 : decode cX9_isKiteLine 57 = .ok (.invokevirtual 99, 3) := by decide +kernel
theorem dX9_isKiteLine_60 : decode cX9_isKiteLine 60 = .ok (.ifCond .eq 20, 3) := by decide +kernel
theorem dX9_isKiteLine_63 : decode cX9_isKiteLine 63 = .ok (.aload_n 0, 1) := by decide +kernel
theorem dX9_isKiteLine_64 : decode cX9_isKiteLine 64 = .ok (.iload_n 1, 1) := by decide +kernel
theorem dX9_isKiteLine_65 : decode cX9_isKiteLine 65 = .ok (.bipush 6, 2) := by decide +kernel
theorem dX9_isKiteLine_67 : decode cX9_isKiteLine 67 = .ok (.iadd, 1) := by decide +kernel
theorem dX9_isKiteLine_68 : decode cX9_isKiteLine 68 = .ok (.iconst 0, 1) := by decide +kernel
theorem dX9_isKiteLine_69 : decode cX9_isKiteLine 69 = .ok (.iconst 2, 1) := by decide +kernel
theorem dX9_isKiteLine_70 : decode cX9_isKiteLine 70 = .ok (.invokevirtual 99, 3) := by decide +kernel
theorem dX9_isKiteLine_73 : decode cX9_isKiteLine 73 = .ok (.ifCond .eq 7, 3) := by decide +kernel
theorem dX9_isKiteLine_76 : decode cX9_isKiteLine 76 = .ok (.iconst 1, 1) := by decide +kernel
theorem dX9_isKiteLine_77 : decode cX9_isKiteLine 77 = .ok (.goto 4, 3) := by decide +kernel
theorem dX9_isKiteLine_80 : decode cX9_isKiteLine 80 = .ok (.iconst 0, 1) := by decide +kernel
theorem dX9_isKiteLine_81 : decode cX9_isKiteLine 81 = .ok (.ireturn, 1) := by decide +kernel
theorem dX9_isShoalLine_0 : decode cX9_isShoalLine 0 = .ok (.aload_n 0, 1) := by decide +kernel
theorem dX9_isShoalLine_1 : decode cX9_isShoalLine 1 = .ok (.iload_n 1, 1) := by decide +kernel
theorem dX9_isShoalLine_2 : decode cX9_isShoalLine 2 = .ok (.iconst 1, 1) := by decide +kernel
theorem dX9_isShoalLine_3 : decode cX9_isShoalLine 3 = .ok (.iadd, 1) := by decide +kernel
theorem dX9_isShoalLine_4 : decode cX9_isShoalLine 4 = .ok (.iconst 0, 1) := by decide +kernel
theorem dX9_isShoalLine_5 : decode cX9_isShoalLine 5 = .ok (.iconst 3, 1) := by decide +kernel
theorem dX9_isShoalLine_6 : decode cX9_isShoalLine 6 = .ok (.invokevirtual 99, 3) := by decide +kernel
theorem dX9_isShoalLine_9 : decode cX9_isShoalLine 9 = .ok (.ifCond .eq 71, 3) := by decide +kernel
theorem dX9_isShoalLine_12 : decode cX9_isShoalLine 12 = .ok (.aload_n 0, 1) := by decide +kernel
theorem dX9_isShoalLine_13 : decode cX9_isShoalLine 13 = .ok (.iload_n 1, 1) := by decide +kernel
theorem dX9_isShoalLine_14 : decode cX9_isShoalLine 14 = .ok (.iconst 2, 1) := by decide +kernel
theorem dX9_isShoalLine_15 : decode cX9_isShoalLine 15 = .ok (.iadd, 1) := by decide +kernel
theorem dX9_isShoalLine_16 : decode cX9_isShoalLine 16 = .ok (.iconst 0, 1) := by decide +kernel
theorem dX9_isShoalLine_17 : decode cX9_isShoalLine 17 = .ok (.bipush 9, 2) := by decide +kernel
theorem dX9_isShoalLine_19 : decode cX9_isShoalLine 19 = .ok (.invokevirtual 99, 3) := by decide +kernel
theorem dX9_isShoalLine_22 : decode cX9_isShoalLine 22 = .ok (.ifCond .eq 58, 3) := by decide +kernel
theorem dX9_isShoalLine_25 : decode cX9_isShoalLine 25 = .ok (.aload_n 0, 1) := by decide +kernel
theorem dX9_isShoalLine_26 : decode cX9_isShoalLine 26 = .ok (.iload_n 1, 1) := by decide +kernel
theorem dX9_isShoalLine_27 : decode cX9_isShoalLine 27 = .ok (.iconst 3, 1) := by decide +kernel
theorem dX9_isShoalLine_28 : decode cX9_isShoalLine 28 = .ok (.iadd, 1) := by decide +kernel
theorem dX9_isShoalLine_29 : decode cX9_isShoalLine 29 = .ok (.iconst 1, 1) := by decide +kernel
theorem dX9_isShoalLine_30 : decode cX9_isShoalLine 30 = .ok (.bipush 6, 2) := by decide +kernel
theorem dX9_isShoalLine_32 : decode cX9_isShoalLine 32 = .ok (.invokevirtual 99, 3) := by decide +kernel
theorem dX9_isShoalLine_35 : decode cX9_isShoalLine 35 = .ok (.ifCond .eq 45, 3) := by decide +kernel
theorem dX9_isShoalLine_38 : decode cX9_isShoalLine 38 = .ok (.aload_n 0, 1) := by decide +kernel
theorem dX9_isShoalLine_39 : decode cX9_isShoalLine 39 = .ok (.iload_n 1, 1) := by decide +kernel
theorem dX9_isShoalLine_40 : decode cX9_isShoalLine 40 = .ok (.iconst 4, 1) := by decide +kernel
theorem dX9_isShoalLine_41 : decode cX9_isShoalLine 41 = .ok (.iadd, 1) := by decide +kernel
theorem dX9_isShoalLine_42 : decode cX9_isShoalLine 42 = .ok (.iconst 0, 1) := by decide +kernel
theorem dX9_isShoalLine_43 : decode cX9_isShoalLine 43 = .ok (.iconst 2, 1) := by decide +kernel
theorem dX9_isShoalLine_44 : decode cX9_isShoalLine 44 = .ok (.invokevirtual 99, 3) := by decide +kernel
theorem dX9_isShoalLine_47 : decode cX9_isShoalLine 47 = .ok (.ifCond .eq 33, 3) := by decide +kernel
theorem dX9_isShoalLine_50 : decode cX9_isShoalLine 50 = .ok (.aload_n 0, 1) := by decide +kernel
theorem dX9_isShoalLine_51 : decode cX9_isShoalLine 51 = .ok (.iload_n 1, 1) := by decide +kernel
theorem dX9_isShoalLine_52 : decode cX9_isShoalLine 52 = .ok (.iconst 5, 1) := by decide +kernel
theorem dX9_isShoalLine_53 : decode cX9_isShoalLine 53 = .ok (.iadd, 1) := by decide +kernel
theorem dX9_isShoalLine_54 : decode cX9_isShoalLine 54 = .ok (.iconst 0, 1) := by decide +kernel
theorem dX9_isShoalLine_55 : decode cX9_isShoalLine 55 = .ok (.iconst 2, 1) := by decide +kernel
theorem dX9_isShoalLine_56 : decode cX9_isShoalLine 56 = .ok (.invokevirtual 99, 3) := by decide +kernel
theorem dX9_isShoalLine_59 : decode cX9_isShoalLine 59 = .ok (.ifCond .eq 21, 3) := by decide +kernel
theorem dX9_isShoalLine_62 : decode cX9_isShoalLine 62 = .ok (.aload_n 0, 1) := by decide +kernel
theorem dX9_isShoalLine_63 : decode cX9_isShoalLine 63 = .ok (.iload_n 1, 1) := by decide +kernel
theorem dX9_isShoalLine_64 : decode cX9_isShoalLine 64 = .ok (.bipush 6, 2) := by decide +kernel
theorem dX9_isShoalLine_66 : decode cX9_isShoalLine 66 = .ok (.iadd, 1) := by decide +kernel
theorem dX9_isShoalLine_67 : decode cX9_isShoalLine 67 = .ok (.iconst 0, 1) := by decide +kernel
theorem dX9_isShoalLine_68 : decode cX9_isShoalLine 68 = .ok (.bipush 99, 2) := by decide +kernel
theorem dX9_isShoalLine_70 : decode cX9_isShoalLine 70 = .ok (.invokevirtual 99, 3) := by decide +kernel
theorem dX9_isShoalLine_73 : decode cX9_isShoalLine 73 = .ok (.ifCond .eq 7, 3) := by decide +kernel
theorem dX9_isShoalLine_76 : decode cX9_isShoalLine 76 = .ok (.iconst 1, 1) := by decide +kernel
theorem dX9_isShoalLine_77 : decode cX9_isShoalLine 77 = .ok (.goto 4, 3) := by decide +kernel
theorem dX9_isShoalLine_80 : decode cX9_isShoalLine 80 = .ok (.iconst 0, 1) := by decide +kernel
theorem dX9_isShoalLine_81 : decode cX9_isShoalLine 81 = .ok (.ireturn, 1) := by decide +kernel
theorem dX9_isLine_0 : decode cX9_isLine 0 = .ok (.aload_n 0, 1) := by decide +kernel
theorem dX9_isLine_1 : decode cX9_isLine 1 = .ok (.invokevirtual 92, 3) := by decide +kernel
theorem dX9_isLine_4 : decode cX9_isLine 4 = .ok (.aload_n 0, 1) := by decide +kernel
theorem dX9_isLine_5 : decode cX9_isLine 5 = .ok (.getfield 75, 3) := by decide +kernel
theorem dX9_isLine_8 : decode cX9_isLine 8 = .ok (.ldc2_w 102, 3) := by decide +kernel
theorem dX9_isLine_11 : decode cX9_isLine 11 = .ok (.lcmp, 1) := by decide +kernel
theorem dX9_isLine_12 : decode cX9_isLine 12 = .ok (.ifCond .ne 7, 3) := by decide +kernel
theorem dX9_isLine_15 : decode cX9_isLine 15 = .ok (.iconst 0, 1) := by decide +kernel
theorem dX9_isLine_16 : decode cX9_isLine 16 = .ok (.goto 64, 3) := by decide +kernel
theorem dX9_isLine_19 : decode cX9_isLine 19 = .ok (.aload_n 0, 1) := by decide +kernel
theorem dX9_isLine_20 : decode cX9_isLine 20 = .ok (.getfield 75, 3) := by decide +kernel
theorem dX9_isLine_23 : decode cX9_isLine 23 = .ok (.ldc2_w 104, 3) := by decide +kernel
theorem dX9_isLine_26 : decode cX9_isLine 26 = .ok (.lcmp, 1) := by decide +kernel
theorem dX9_isLine_27 : decode cX9_isLine 27 = .ok (.ifCond .ne 7, 3) := by decide +kernel
theorem dX9_isLine_30 : decode cX9_isLine 30 = .ok (.iconst 1, 1) := by decide +kernel
theorem dX9_isLine_31 : decode cX9_isLine 31 = .ok (.goto 49, 3) := by decide +kernel
theorem dX9_isLine_34 : decode cX9_isLine 34 = .ok (.aload_n 0, 1) := by decide +kernel
theorem dX9_isLine_35 : decode cX9_isLine 35 = .ok (.getfield 75, 3) := by decide +kernel
theorem dX9_isLine_38 : decode cX9_isLine 38 = .ok (.ldc2_w 106, 3) := by decide +kernel
theorem dX9_isLine_41 : decode cX9_isLine 41 = .ok (.lcmp, 1) := by decide +kernel
theorem dX9_isLine_42 : decode cX9_isLine 42 = .ok (.ifCond .ne 7, 3) := by decide +kernel
theorem dX9_isLine_45 : decode cX9_isLine 45 = .ok (.iconst 2, 1) := by decide +kernel
theorem dX9_isLine_46 : decode cX9_isLine 46 = .ok (.goto 34, 3) := by decide +kernel
theorem dX9_isLine_49 : decode cX9_isLine 49 = .ok (.aload_n 0, 1) := by decide +kernel
theorem dX9_isLine_50 : decode cX9_isLine 50 = .ok (.getfield 75, 3) := by decide +kernel
theorem dX9_isLine_53 : decode cX9_isLine 53 = .ok (.ldc2_w 108, 3) := by decide +kernel
theorem dX9_isLine_56 : decode cX9_isLine 56 = .ok (.lcmp, 1) := by decide +kernel
theorem dX9_isLine_57 : decode cX9_isLine 57 = .ok (.ifCond .ne 7, 3) := by decide +kernel
theorem dX9_isLine_60 : decode cX9_isLine 60 = .ok (.iconst 3, 1) := by decide +kernel
theorem dX9_isLine_61 : decode cX9_isLine 61 = .ok (.goto 19, 3) := by decide +kernel
theorem dX9_isLine_64 : decode cX9_isLine 64 = .ok (.aload_n 0, 1) := by decide +kernel
theorem dX9_isLine_65 : decode cX9_isLine 65 = .ok (.getfield 75, 3) := by decide +kernel
theorem dX9_isLine_68 : decode cX9_isLine 68 = .ok (.ldc2_w 110, 3) := by decide +kernel
theorem dX9_isLine_71 : decode cX9_isLine 71 = .ok (.lcmp, 1) := by decide +kernel
theorem dX9_isLine_72 : decode cX9_isLine 72 = .ok (.ifCond .ne 7, 3) := by decide +kernel
theorem dX9_isLine_75 : decode cX9_isLine 75 = .ok (.iconst 4, 1) := by decide +kernel
theorem dX9_isLine_76 : decode cX9_isLine 76 = .ok (.goto 4, 3) := by decide +kernel
theorem dX9_isLine_79 : decode cX9_isLine 79 = .ok (.iconst (-1), 1) := by decide +kernel
theorem dX9_isLine_80 : decode cX9_isLine 80 = .ok (.istore_n 2, 1) := by decide +kernel
theorem dX9_isLine_81 : decode cX9_isLine 81 = .ok (.aload_n 0, 1) := by decide +kernel
theorem dX9_isLine_82 : decode cX9_isLine 82 = .ok (.getfield 75, 3) := by decide +kernel
theorem dX9_isLine_85 : decode cX9_isLine 85 = .ok (.ldc2_w 112, 3) := by decide +kernel
theorem dX9_isLine_88 : decode cX9_isLine 88 = .ok (.lcmp, 1) := by decide +kernel
theorem dX9_isLine_89 : decode cX9_isLine 89 = .ok (.ifCond .ne 7, 3) := by decide +kernel
theorem dX9_isLine_92 : decode cX9_isLine 92 = .ok (.iconst 5, 1) := by decide +kernel
theorem dX9_isLine_93 : decode cX9_isLine 93 = .ok (.goto 52, 3) := by decide +kernel
theorem dX9_isLine_96 : decode cX9_isLine 96 = .ok (.aload_n 0, 1) := by decide +kernel
theorem dX9_isLine_97 : decode cX9_isLine 97 = .ok (.getfield 75, 3) := by decide +kernel
theorem dX9_isLine_100 : decode cX9_isLine 100 = .ok (.ldc2_w 114, 3) := by decide +kernel
theorem dX9_isLine_103 : decode cX9_isLine 103 = .ok (.lcmp, 1) := by decide +kernel
theorem dX9_isLine_104 : decode cX9_isLine 104 = .ok (.ifCond .ne 8, 3) := by decide +kernel
theorem dX9_isLine_107 : decode cX9_isLine 107 = .ok (.bipush 6, 2) := by decide +kernel
theorem dX9_isLine_109 : decode cX9_isLine 109 = .ok (.goto 36, 3) := by decide +kernel
theorem dX9_isLine_112 : decode cX9_isLine 112 = .ok (.aload_n 0, 1) := by decide +kernel
theorem dX9_isLine_113 : decode cX9_isLine 113 = .ok (.getfield 75, 3) := by decide +kernel
theorem dX9_isLine_116 : decode cX9_isLine 116 = .ok (.ldc2_w 116, 3) := by decide +kernel
theorem dX9_isLine_119 : decode cX9_isLine 119 = .ok (.lcmp, 1) := by decide +kernel
theorem dX9_isLine_120 : decode cX9_isLine 120 = .ok (.ifCond .ne 8, 3) := by decide +kernel
theorem dX9_isLine_123 : decode cX9_isLine 123 = .ok (.bipush 7, 2) := by decide +kernel
theorem dX9_isLine_125 : decode cX9_isLine 125 = .ok (.goto 20, 3) := by decide +kernel
theorem dX9_isLine_128 : decode cX9_isLine 128 = .ok (.aload_n 0, 1) := by decide +kernel
theorem dX9_isLine_129 : decode cX9_isLine 129 = .ok (.getfield 75, 3) := by decide +kernel
theorem dX9_isLine_132 : decode cX9_isLine 132 = .ok (.ldc2_w 118, 3) := by decide +kernel
theorem dX9_isLine_135 : decode cX9_isLine 135 = .ok (.lcmp, 1) := by decide +kernel
theorem dX9_isLine_136 : decode cX9_isLine 136 = .ok (.ifCond .ne 8, 3) := by decide +kernel
theorem dX9_isLine_139 : decode cX9_isLine 139 = .ok (.bipush 8, 2) := by decide +kernel
theorem dX9_isLine_141 : decode cX9_isLine 141 = .ok (.goto 4, 3) := by decide +kernel
theorem dX9_isLine_144 : decode cX9_isLine 144 = .ok (.iconst (-1), 1) := by decide +kernel
theorem dX9_isLine_145 : decode cX9_isLine 145 = .ok (.istore_n 3, 1) := by decide +kernel
theorem dX9_isLine_146 : decode cX9_isLine 146 = .ok (.aload_n 0, 1) := by decide +kernel
theorem dX9_isLine_147 : decode cX9_isLine 147 = .ok (.getfield 26, 3) := by decide +kernel
theorem dX9_isLine_150 : decode cX9_isLine 150 = .ok (.iload_n 1, 1) := by decide +kernel
theorem dX9_isLine_151 : decode cX9_isLine 151 = .ok (.iload_n 2, 1) := by decide +kernel
theorem dX9_isLine_152 : decode cX9_isLine 152 = .ok (.iconst (-1), 1) := by decide +kernel
theorem dX9_isLine_153 : decode cX9_isLine 153 = .ok (.if_icmp .ne 7, 3) := by decide +kernel
theorem dX9_isLine_156 : decode cX9_isLine 156 = .ok (.iload_n 3, 1) := by decide +kernel
theorem dX9_isLine_157 : decode cX9_isLine 157 = .ok (.goto 4, 3) := by decide +kernel
theorem dX9_isLine_160 : decode cX9_isLine 160 = .ok (.iload_n 2, 1) := by decide +kernel
theorem dX9_isLine_161 : decode cX9_isLine 161 = .ok (.iastore, 1) := by decide +kernel
theorem dX9_isLine_162 : decode cX9_isLine 162 = .ok (.aload_n 0, 1) := by decide +kernel
theorem dX9_isLine_163 : decode cX9_isLine 163 = .ok (.getfield 26, 3) := by decide +kernel
theorem dX9_isLine_166 : decode cX9_isLine 166 = .ok (.iload_n 1, 1) := by decide +kernel
theorem dX9_isLine_167 : decode cX9_isLine 167 = .ok (.iaload, 1) := by decide +kernel
theorem dX9_isLine_168 : decode cX9_isLine 168 = .ok (.tableswitch 170 0 8 #[52, 106, 112, 118, 128, 139, 147, 158, 160], 52) := by decide +kernel
theorem dX9_isLine_220 : decode cX9_isLine 220 = .ok (.aload_n 0, 1) := by decide +kernel
theorem dX9_isLine_221 : decode cX9_isLine 221 = .ok (.iload_n 1, 1) := by decide +kernel
theorem dX9_isLine_222 : decode cX9_isLine 222 = .ok (.iconst 1, 1) := by decide +kernel
theorem dX9_isLine_223 : decode cX9_isLine 223 = .ok (.iadd, 1) := by decide +kernel
theorem dX9_isLine_224 : decode cX9_isLine 224 = .ok (.iconst 1, 1) := by decide +kernel
theorem dX9_isLine_225 : decode cX9_isLine 225 = .ok (.iconst 3, 1) := by decide +kernel
theorem dX9_isLine_226 : decode cX9_isLine 226 = .ok (.invokevirtual 99, 3) := by decide +kernel
theorem dX9_isLine_229 : decode cX9_isLine 229 = .ok (.ifCond .eq 43, 3) := by decide +kernel
theorem dX9_isLine_232 : decode cX9_isLine 232 = .ok (.aload_n 0, 1) := by decide +kernel
theorem dX9_isLine_233 : decode cX9_isLine 233 = .ok (.iload_n 1, 1) := by decide +kernel
theorem dX9_isLine_234 : decode cX9_isLine 234 = .ok (.iconst 2, 1) := by decide +kernel
theorem dX9_isLine_235 : decode cX9_isLine 235 = .ok (.iadd, 1) := by decide +kernel
theorem dX9_isLine_236 : decode cX9_isLine 236 = .ok (.invokevirtual 120, 3) := by decide +kernel
theorem dX9_isLine_239 : decode cX9_isLine 239 = .ok (.ifCond .eq 33, 3) := by decide +kernel
theorem dX9_isLine_242 : decode cX9_isLine 242 = .ok (.aload_n 0, 1) := by decide +kernel
theorem dX9_isLine_243 : decode cX9_isLine 243 = .ok (.iload_n 1, 1) := by decide +kernel
theorem dX9_isLine_244 : decode cX9_isLine 244 = .ok (.iconst 4, 1) := by decide +kernel
theorem dX9_isLine_245 : decode cX9_isLine 245 = .ok (.iadd, 1) := by decide +kernel
theorem dX9_isLine_246 : decode cX9_isLine 246 = .ok (.iconst 0, 1) := by decide +kernel
theorem dX9_isLine_247 : decode cX9_isLine 247 = .ok (.bipush 9, 2) := by decide +kernel
theorem dX9_isLine_249 : decode cX9_isLine 249 = .ok (.invokevirtual 99, 3) := by decide +kernel
theorem dX9_isLine_252 : decode cX9_isLine 252 = .ok (.ifCond .eq 20, 3) := by decide +kernel
theorem dX9_isLine_255 : decode cX9_isLine 255 = .ok (.aload_n 0, 1) := by decide +kernel
theorem dX9_isLine_256 : decode cX9_isLine 256 = .ok (.iload_n 1, 1) := by decide +kernel
theorem dX9_isLine_257 : decode cX9_isLine 257 = .ok (.iconst 5, 1) := by decide +kernel
theorem dX9_isLine_258 : decode cX9_isLine 258 = .ok (.iadd, 1) := by decide +kernel
theorem dX9_isLine_259 : decode cX9_isLine 259 = .ok (.iconst 0, 1) := by decide +kernel
theorem dX9_isLine_260 : decode cX9_isLine 260 = .ok (.bipush 6, 2) := by decide +kernel
theorem dX9_isLine_262 : decode cX9_isLine 262 = .ok (.invokevirtual 99, 3) := by decide +kernel
theorem dX9_isLine_265 : decode cX9_isLine 265 = .ok (.ifCond .eq 7, 3) := by decide +kernel
theorem dX9_isLine_268 : decode cX9_isLine 268 = .ok (.iconst 1, 1) := by decide +kernel
theorem dX9_isLine_269 : decode cX9_isLine 269 = .ok (.goto 4, 3) := by decide +kernel
theorem dX9_isLine_272 : decode cX9_isLine 272 = .ok (.iconst 0, 1) := by decide +kernel
theorem dX9_isLine_273 : decode cX9_isLine 273 = .ok (.ireturn, 1) := by decide +kernel
theorem dX9_isLine_274 : decode cX9_isLine 274 = .ok (.aload_n 0, 1) := by decide +kernel
theorem dX9_isLine_275 : decode cX9_isLine 275 = .ok (.iload_n 1, 1) := by decide +kernel
theorem dX9_isLine_276 : decode cX9_isLine 276 = .ok (.invokevirtual 124, 3) := by decide +kernel
theorem dX9_isLine_279 : decode cX9_isLine 279 = .ok (.ireturn, 1) := by decide +kernel
theorem dX9_isLine_280 : decode cX9_isLine 280 = .ok (.aload_n 0, 1) := by decide +kernel
theorem dX9_isLine_281 : decode cX9_isLine 281 = .ok (.iload_n 1, 1) := by decide +kernel
theorem dX9_isLine_282 : decode cX9_isLine 282 = .ok (.invokevirtual 127, 3) := by decide +kernel
theorem dX9_isLine_285 : decode cX9_isLine 285 = .ok (.ireturn, 1) := by decide +kernel
theorem dX9_isLine_286 : decode cX9_isLine 286 = .ok (.aload_n 0, 1) := by decide +kernel
theorem dX9_isLine_287 : decode cX9_isLine 287 = .ok (.iload_n 1, 1) := by decide +kernel
theorem dX9_isLine_288 : decode cX9_isLine 288 = .ok (.iconst 1, 1) := by decide +kernel
theorem dX9_isLine_289 : decode cX9_isLine 289 = .ok (.iadd, 1) := by decide +kernel
theorem dX9_isLine_290 : decode cX9_isLine 290 = .ok (.iconst 0, 1) := by decide +kernel
theorem dX9_isLine_291 : decode cX9_isLine 291 = .ok (.iconst 2, 1) := by decide +kernel
theorem dX9_isLine_292 : decode cX9_isLine 292 = .ok (.invokevirtual 99, 3) := by decide +kernel
theorem dX9_isLine_295 : decode cX9_isLine 295 = .ok (.ireturn, 1) := by decide +kernel
theorem dX9_isLine_296 : decode cX9_isLine 296 = .ok (.aload_n 0, 1) := by decide +kernel
theorem dX9_isLine_297 : decode cX9_isLine 297 = .ok (.iload_n 1, 1) := by decide +kernel
theorem dX9_isLine_298 : decode cX9_isLine 298 = .ok (.iconst 1, 1) := by decide +kernel
theorem dX9_isLine_299 : decode cX9_isLine 299 = .ok (.iadd, 1) := by decide +kernel
theorem dX9_isLine_300 : decode cX9_isLine 300 = .ok (.iconst 0, 1) := by decide +kernel
theorem dX9_isLine_301 : decode cX9_isLine 301 = .ok (.bipush 99, 2) := by decide +kernel
theorem dX9_isLine_303 : decode cX9_isLine 303 = .ok (.invokevirtual 99, 3) := by decide +kernel
theorem dX9_isLine_306 : decode cX9_isLine 306 = .ok (.ireturn, 1) := by decide +kernel
theorem dX9_isLine_307 : decode cX9_isLine 307 = .ok (.aload_n 0, 1) := by decide +kernel
theorem dX9_isLine_308 : decode cX9_isLine 308 = .ok (.iload_n 1, 1) := by decide +kernel
theorem dX9_isLine_309 : decode cX9_isLine 309 = .ok (.iconst 1, 1) := by decide +kernel
theorem dX9_isLine_310 : decode cX9_isLine 310 = .ok (.iadd, 1) := by decide +kernel
theorem dX9_isLine_311 : decode cX9_isLine 311 = .ok (.invokevirtual 120, 3) := by decide +kernel
theorem dX9_isLine_314 : decode cX9_isLine 314 = .ok (.ireturn, 1) := by decide +kernel
theorem dX9_isLine_315 : decode cX9_isLine 315 = .ok (.aload_n 0, 1) := by decide +kernel
theorem dX9_isLine_316 : decode cX9_isLine 316 = .ok (.iload_n 1, 1) := by decide +kernel
theorem dX9_isLine_317 : decode cX9_isLine 317 = .ok (.iconst 1, 1) := by decide +kernel
theorem dX9_isLine_318 : decode cX9_isLine 318 = .ok (.iadd, 1) := by decide +kernel
theorem dX9_isLine_319 : decode cX9_isLine 319 = .ok (.iconst 0, 1) := by decide +kernel
theorem dX9_isLine_320 : decode cX9_isLine 320 = .ok (.bipush 9, 2) := by decide +kernel
theorem dX9_isLine_322 : decode cX9_isLine 322 = .ok (.invokevirtual 99, 3) := by decide +kernel
theorem dX9_isLine_325 : decode cX9_isLine 325 = .ok (.ireturn, 1) := by decide +kernel
theorem dX9_isLine_326 : decode cX9_isLine 326 = .ok (.iconst 1, 1) := by decide +kernel
theorem dX9_isLine_327 : decode cX9_isLine 327 = .ok (.ireturn, 1) := by decide +kernel
theorem dX9_isLine_328 : decode cX9_isLine 328 = .ok (.aload_n 0, 1) := by decide +kernel
theorem dX9_isLine_329 : decode cX9_isLine 329 = .ok (.iload_n 1, 1) := by decide +kernel
theorem dX9_isLine_330 : decode cX9_isLine 330 = .ok (.iconst 1, 1) := by decide +kernel
theorem dX9_isLine_331 : decode cX9_isLine 331 = .ok (.iadd, 1) := by decide +kernel
theorem dX9_isLine_332 : decode cX9_isLine 332 = .ok (.iconst 0, 1) := by decide +kernel
theorem dX9_isLine_333 : decode cX9_isLine 333 = .ok (.iconst 5, 1) := by decide +kernel
theorem dX9_isLine_334 : decode cX9_isLine 334 = .ok (.invokevirtual 99, 3) := by decide +kernel
theorem dX9_isLine_337 : decode cX9_isLine 337 = .ok (.ireturn, 1) := by decide +kernel
theorem dX9_isLine_338 : decode cX9_isLine 338 = .ok (.aload_n 0, 1) := by decide +kernel
theorem dX9_isLine_339 : decode cX9_isLine 339 = .ok (.invokevirtual 95, 3) := by decide +kernel
theorem dX9_isLine_342 : decode cX9_isLine 342 = .ok (.ireturn, 1) := by decide +kernel
theorem dX9_isRead_0 : decode cX9_isRead 0 = .ok (.aload_n 0, 1) := by decide +kernel
theorem dX9_isRead_1 : decode cX9_isRead 1 = .ok (.iconst 0, 1) := by decide +kernel
theorem dX9_isRead_2 : decode cX9_isRead 2 = .ok (.putfield 61, 3) := by decide +kernel
theorem dX9_isRead_5 : decode cX9_isRead 5 = .ok (.aload_n 0, 1) := by decide +kernel
theorem dX9_isRead_6 : decode cX9_isRead 6 = .ok (.iconst 0, 1) := by decide +kernel
theorem dX9_isRead_7 : decode cX9_isRead 7 = .ok (.putfield 130, 3) := by decide +kernel
theorem dX9_isRead_10 : decode cX9_isRead 10 = .ok (.iconst 1, 1) := by decide +kernel
theorem dX9_isRead_11 : decode cX9_isRead 11 = .ok (.istore_n 1, 1) := by decide +kernel
theorem dX9_isRead_12 : decode cX9_isRead 12 = .ok (.iload_n 1, 1) := by decide +kernel
theorem dX9_isRead_13 : decode cX9_isRead 13 = .ok (.ifCond .eq 62, 3) := by decide +kernel
theorem dX9_isRead_16 : decode cX9_isRead 16 = .ok (.aload_n 0, 1) := by decide +kernel
theorem dX9_isRead_17 : decode cX9_isRead 17 = .ok (.bipush 7, 2) := by decide +kernel
theorem dX9_isRead_19 : decode cX9_isRead 19 = .ok (.aload_n 0, 1) := by decide +kernel
theorem dX9_isRead_20 : decode cX9_isRead 20 = .ok (.getfield 130, 3) := by decide +kernel
theorem dX9_isRead_23 : decode cX9_isRead 23 = .ok (.imul, 1) := by decide +kernel
theorem dX9_isRead_24 : decode cX9_isRead 24 = .ok (.invokevirtual 133, 3) := by decide +kernel
theorem dX9_isRead_27 : decode cX9_isRead 27 = .ok (.ifCond .ne 5, 3) := by decide +kernel
theorem dX9_isRead_30 : decode cX9_isRead 30 = .ok (.iconst 0, 1) := by decide +kernel
theorem dX9_isRead_31 : decode cX9_isRead 31 = .ok (.ireturn, 1) := by decide +kernel
theorem dX9_isRead_32 : decode cX9_isRead 32 = .ok (.aload_n 0, 1) := by decide +kernel
theorem dX9_isRead_33 : decode cX9_isRead 33 = .ok (.dup, 1) := by decide +kernel
theorem dX9_isRead_34 : decode cX9_isRead 34 = .ok (.getfield 130, 3) := by decide +kernel
theorem dX9_isRead_37 : decode cX9_isRead 37 = .ok (.iconst 1, 1) := by decide +kernel
theorem dX9_isRead_38 : decode cX9_isRead 38 = .ok (.iadd, 1) := by decide +kernel
theorem dX9_isRead_39 : decode cX9_isRead 39 = .ok (.putfield 130, 3) := by decide +kernel
theorem dX9_isRead_42 : decode cX9_isRead 42 = .ok (.aload_n 0, 1) := by decide +kernel
theorem dX9_isRead_43 : decode cX9_isRead 43 = .ok (.invokevirtual 92, 3) := by decide +kernel
theorem dX9_isRead_46 : decode cX9_isRead 46 = .ok (.aload_n 0, 1) := by decide +kernel
theorem dX9_isRead_47 : decode cX9_isRead 47 = .ok (.getfield 75, 3) := by decide +kernel
theorem dX9_isRead_50 : decode cX9_isRead 50 = .ok (.ldc2_w 87, 3) := by decide +kernel
theorem dX9_isRead_53 : decode cX9_isRead 53 = .ok (.lcmp, 1) := by decide +kernel
theorem dX9_isRead_54 : decode cX9_isRead 54 = .ok (.ifCond .ne 16, 3) := by decide +kernel
theorem dX9_isRead_57 : decode cX9_isRead 57 = .ok (.aload_n 0, 1) := by decide +kernel
theorem dX9_isRead_58 : decode cX9_isRead 58 = .ok (.getfield 130, 3) := by decide +kernel
theorem dX9_isRead_61 : decode cX9_isRead 61 = .ok (.bipush 10, 2) := by decide +kernel
theorem dX9_isRead_63 : decode cX9_isRead 63 = .ok (.if_icmp .ge 7, 3) := by decide +kernel
theorem dX9_isRead_66 : decode cX9_isRead 66 = .ok (.iconst 1, 1) := by decide +kernel
theorem dX9_isRead_67 : decode cX9_isRead 67 = .ok (.goto 4, 3) := by decide +kernel
theorem dX9_isRead_70 : decode cX9_isRead 70 = .ok (.iconst 0, 1) := by decide +kernel
theorem dX9_isRead_71 : decode cX9_isRead 71 = .ok (.istore_n 1, 1) := by decide +kernel
theorem dX9_isRead_72 : decode cX9_isRead 72 = .ok (.goto (-60), 3) := by decide +kernel
theorem dX9_isRead_75 : decode cX9_isRead 75 = .ok (.aload_n 0, 1) := by decide +kernel
theorem dX9_isRead_76 : decode cX9_isRead 76 = .ok (.getfield 75, 3) := by decide +kernel
theorem dX9_isRead_79 : decode cX9_isRead 79 = .ok (.ldc2_w 73, 3) := by decide +kernel
theorem dX9_isRead_82 : decode cX9_isRead 82 = .ok (.lcmp, 1) := by decide +kernel
theorem dX9_isRead_83 : decode cX9_isRead 83 = .ok (.ifCond .eq 10, 3) := by decide +kernel
theorem dX9_isRead_86 : decode cX9_isRead 86 = .ok (.aload_n 0, 1) := by decide +kernel
theorem dX9_isRead_87 : decode cX9_isRead 87 = .ok (.invokevirtual 95, 3) := by decide +kernel
theorem dX9_isRead_90 : decode cX9_isRead 90 = .ok (.ifCond .eq 7, 3) := by decide +kernel
theorem dX9_isRead_93 : decode cX9_isRead 93 = .ok (.iconst 1, 1) := by decide +kernel
theorem dX9_isRead_94 : decode cX9_isRead 94 = .ok (.goto 4, 3) := by decide +kernel
theorem dX9_isRead_97 : decode cX9_isRead 97 = .ok (.iconst 0, 1) := by decide +kernel
theorem dX9_isRead_98 : decode cX9_isRead 98 = .ok (.ireturn, 1) := by decide +kernel
theorem dX9_fault_0 : decode cX9_fault 0 = .ok (.aload_n 0, 1) := by decide +kernel
theorem dX9_fault_1 : decode cX9_fault 1 = .ok (.invokevirtual 136, 3) := by decide +kernel
theorem dX9_fault_4 : decode cX9_fault 4 = .ok (.ifCond .eq 7, 3) := by decide +kernel
theorem dX9_fault_7 : decode cX9_fault 7 = .ok (.iconst (-1), 1) := by decide +kernel
theorem dX9_fault_8 : decode cX9_fault 8 = .ok (.goto 7, 3) := by decide +kernel
theorem dX9_fault_11 : decode cX9_fault 11 = .ok (.aload_n 0, 1) := by decide +kernel
theorem dX9_fault_12 : decode cX9_fault 12 = .ok (.getfield 89, 3) := by decide +kernel
theorem dX9_fault_15 : decode cX9_fault 15 = .ok (.ireturn, 1) := by decide +kernel
theorem dX9_putWind_0 : decode cX9_putWind 0 = .ok (.iload_n 2, 1) := by decide +kernel
theorem dX9_putWind_1 : decode cX9_putWind 1 = .ok (.istore 6, 2) := by decide +kernel
theorem dX9_putWind_3 : decode cX9_putWind 3 = .ok (.iload 6, 2) := by decide +kernel
theorem dX9_putWind_5 : decode cX9_putWind 5 = .ok (.iload_n 3, 1) := by decide +kernel
theorem dX9_putWind_6 : decode cX9_putWind 6 = .ok (.if_icmp .gt 43, 3) := by decide +kernel
theorem dX9_putWind_9 : decode cX9_putWind 9 = .ok (.aload_n 0, 1) := by decide +kernel
theorem dX9_putWind_10 : decode cX9_putWind 10 = .ok (.getfield 7, 3) := by decide +kernel
theorem dX9_putWind_13 : decode cX9_putWind 13 = .ok (.bipush 24, 2) := by decide +kernel
theorem dX9_putWind_15 : decode cX9_putWind 15 = .ok (.iload_n 1, 1) := by decide +kernel
theorem dX9_putWind_16 : decode cX9_putWind 16 = .ok (.imul, 1) := by decide +kernel
theorem dX9_putWind_17 : decode cX9_putWind 17 = .ok (.iconst 2, 1) := by decide +kernel
theorem dX9_putWind_18 : decode cX9_putWind 18 = .ok (.iload 6, 2) := by decide +kernel
theorem dX9_putWind_20 : decode cX9_putWind 20 = .ok (.imul, 1) := by decide +kernel
theorem dX9_putWind_21 : decode cX9_putWind 21 = .ok (.iadd, 1) := by decide +kernel
theorem dX9_putWind_22 : decode cX9_putWind 22 = .ok (.iload 4, 2) := by decide +kernel
theorem dX9_putWind_24 : decode cX9_putWind 24 = .ok (.iastore, 1) := by decide +kernel
theorem dX9_putWind_25 : decode cX9_putWind 25 = .ok (.aload_n 0, 1) := by decide +kernel
theorem dX9_putWind_26 : decode cX9_putWind 26 = .ok (.getfield 7, 3) := by decide +kernel
theorem dX9_putWind_29 : decode cX9_putWind 29 = .ok (.bipush 24, 2) := by decide +kernel
theorem dX9_putWind_31 : decode cX9_putWind 31 = .ok (.iload_n 1, 1) := by decide +kernel
theorem dX9_putWind_32 : decode cX9_putWind 32 = .ok (.imul, 1) := by decide +kernel
theorem dX9_putWind_33 : decode cX9_putWind 33 = .ok (.iconst 2, 1) := by decide +kernel
theorem dX9_putWind_34 : decode cX9_putWind 34 = .ok (.iload 6, 2) := by decide +kernel
theorem dX9_putWind_36 : decode cX9_putWind 36 = .ok (.imul, 1) := by decide +kernel
theorem dX9_putWind_37 : decode cX9_putWind 37 = .ok (.iadd, 1) := by decide +kernel
theorem dX9_putWind_38 : decode cX9_putWind 38 = .ok (.iconst 1, 1) := by decide +kernel
theorem dX9_putWind_39 : decode cX9_putWind 39 = .ok (.iadd, 1) := by decide +kernel
theorem dX9_putWind_40 : decode cX9_putWind 40 = .ok (.iload 5, 2) := by decide +kernel
theorem dX9_putWind_42 : decode cX9_putWind 42 = .ok (.iastore, 1) := by decide +kernel
theorem dX9_putWind_43 : decode cX9_putWind 43 = .ok (.iinc 6 1, 3) := by decide +kernel
theorem dX9_putWind_46 : decode cX9_putWind 46 = .ok (.goto (-43), 3) := by decide +kernel
theorem dX9_putWind_49 : decode cX9_putWind 49 = .ok (.return_, 1) := by decide +kernel
theorem dX9_calm_0 : decode cX9_calm 0 = .ok (.iconst 1, 1) := by decide +kernel
theorem dX9_calm_1 : decode cX9_calm 1 = .ok (.istore_n 1, 1) := by decide +kernel
theorem dX9_calm_2 : decode cX9_calm 2 = .ok (.iload_n 1, 1) := by decide +kernel
theorem dX9_calm_3 : decode cX9_calm 3 = .ok (.iconst 4, 1) := by decide +kernel
theorem dX9_calm_4 : decode cX9_calm 4 = .ok (.if_icmp .ge 19, 3) := by decide +kernel
theorem dX9_calm_7 : decode cX9_calm 7 = .ok (.aload_n 0, 1) := by decide +kernel
theorem dX9_calm_8 : decode cX9_calm 8 = .ok (.iload_n 1, 1) := by decide +kernel
theorem dX9_calm_9 : decode cX9_calm 9 = .ok (.iconst 0, 1) := by decide +kernel
theorem dX9_calm_10 : decode cX9_calm 10 = .ok (.bipush 11, 2) := by decide +kernel
theorem dX9_calm_12 : decode cX9_calm 12 = .ok (.iconst 0, 1) := by decide +kernel
theorem dX9_calm_13 : decode cX9_calm 13 = .ok (.iconst 0, 1) := by decide +kernel
theorem dX9_calm_14 : decode cX9_calm 14 = .ok (.invokevirtual 139, 3) := by decide +kernel
theorem dX9_calm_17 : decode cX9_calm 17 = .ok (.iinc 1 1, 3) := by decide +kernel
theorem dX9_calm_20 : decode cX9_calm 20 = .ok (.goto (-18), 3) := by decide +kernel
theorem dX9_calm_23 : decode cX9_calm 23 = .ok (.aload_n 0, 1) := by decide +kernel
theorem dX9_calm_24 : decode cX9_calm 24 = .ok (.iconst 0, 1) := by decide +kernel
theorem dX9_calm_25 : decode cX9_calm 25 = .ok (.putfield 143, 3) := by decide +kernel
theorem dX9_calm_28 : decode cX9_calm 28 = .ok (.aload_n 0, 1) := by decide +kernel
theorem dX9_calm_29 : decode cX9_calm 29 = .ok (.iconst 0, 1) := by decide +kernel
theorem dX9_calm_30 : decode cX9_calm 30 = .ok (.putfield 146, 3) := by decide +kernel
theorem dX9_calm_33 : decode cX9_calm 33 = .ok (.return_, 1) := by decide +kernel
theorem dX9_doLine_0 : decode cX9_doLine 0 = .ok (.aload_n 0, 1) := by decide +kernel
theorem dX9_doLine_1 : decode cX9_doLine 1 = .ok (.getfield 26, 3) := by decide +kernel
theorem dX9_doLine_4 : decode cX9_doLine 4 = .ok (.iload_n 1, 1) := by decide +kernel
theorem dX9_doLine_5 : decode cX9_doLine 5 = .ok (.iconst 1, 1) := by decide +kernel
theorem dX9_doLine_6 : decode cX9_doLine 6 = .ok (.iadd, 1) := by decide +kernel
theorem dX9_doLine_7 : decode cX9_doLine 7 = .ok (.iaload, 1) := by decide +kernel
theorem dX9_doLine_8 : decode cX9_doLine 8 = .ok (.istore_n 2, 1) := by decide +kernel
theorem dX9_doLine_9 : decode cX9_doLine 9 = .ok (.aload_n 0, 1) := by decide +kernel
theorem dX9_doLine_10 : decode cX9_doLine 10 = .ok (.getfield 26, 3) := by decide +kernel
theorem dX9_doLine_13 : decode cX9_doLine 13 = .ok (.iload_n 1, 1) := by decide +kernel
theorem dX9_doLine_14 : decode cX9_doLine 14 = .ok (.iaload, 1) := by decide +kernel
theorem dX9_doLine_15 : decode cX9_doLine 15 = .ok (.tableswitch 265 0 7 #[45, 87, 135, 199, 207, 215, 250, 258], 45) := by decide +kernel
theorem dX9_doLine_60 : decode cX9_doLine 60 = .ok (.aload_n 0, 1) := by decide +kernel
theorem dX9_doLine_61 : decode cX9_doLine 61 = .ok (.iload_n 2, 1) := by decide +kernel
theorem dX9_doLine_62 : decode cX9_doLine 62 = .ok (.aload_n 0, 1) := by decide +kernel
theorem dX9_doLine_63 : decode cX9_doLine 63 = .ok (.getfield 26, 3) := by decide +kernel
theorem dX9_doLine_66 : decode cX9_doLine 66 = .ok (.iload_n 1, 1) := by decide +kernel
theorem dX9_doLine_67 : decode cX9_doLine 67 = .ok (.iconst 2, 1) := by decide +kernel
theorem dX9_doLine_68 : decode cX9_doLine 68 = .ok (.iadd, 1) := by decide +kernel
theorem dX9_doLine_69 : decode cX9_doLine 69 = .ok (.iaload, 1) := by decide +kernel
theorem dX9_doLine_70 : decode cX9_doLine 70 = .ok (.aload_n 0, 1) := by decide +kernel
theorem dX9_doLine_71 : decode cX9_doLine 71 = .ok (.getfield 26, 3) := by decide +kernel
theorem dX9_doLine_74 : decode cX9_doLine 74 = .ok (.iload_n 1, 1) := by decide +kernel
theorem dX9_doLine_75 : decode cX9_doLine 75 = .ok (.iconst 3, 1) := by decide +kernel
theorem dX9_doLine_76 : decode cX9_doLine 76 = .ok (.iadd, 1) := by decide +kernel
theorem dX9_doLine_77 : decode cX9_doLine 77 = .ok (.iaload, 1) := by decide +kernel
theorem dX9_doLine_78 : decode cX9_doLine 78 = .ok (.aload_n 0, 1) := by decide +kernel
theorem dX9_doLine_79 : decode cX9_doLine 79 = .ok (.getfield 26, 3) := by decide +kernel
theorem dX9_doLine_82 : decode cX9_doLine 82 = .ok (.iload_n 1, 1) := by decide +kernel
theorem dX9_doLine_83 : decode cX9_doLine 83 = .ok (.iconst 4, 1) := by decide +kernel
theorem dX9_doLine_84 : decode cX9_doLine 84 = .ok (.iadd, 1) := by decide +kernel
theorem dX9_doLine_85 : decode cX9_doLine 85 = .ok (.iaload, 1) := by decide +kernel
theorem dX9_doLine_86 : decode cX9_doLine 86 = .ok (.aload_n 0, 1) := by decide +kernel
theorem dX9_doLine_87 : decode cX9_doLine 87 = .ok (.getfield 26, 3) := by decide +kernel
theorem dX9_doLine_90 : decode cX9_doLine 90 = .ok (.iload_n 1, 1) := by decide +kernel
theorem dX9_doLine_91 : decode cX9_doLine 91 = .ok (.iconst 5, 1) := by decide +kernel
theorem dX9_doLine_92 : decode cX9_doLine 92 = .ok (.iadd, 1) := by decide +kernel
theorem dX9_doLine_93 : decode cX9_doLine 93 = .ok (.iaload, 1) := by decide +kernel
theorem dX9_doLine_94 : decode cX9_doLine 94 = .ok (.iconst 3, 1) := by decide +kernel
theorem dX9_doLine_95 : decode cX9_doLine 95 = .ok (.isub, 1) := by decide +kernel
theorem dX9_doLine_96 : decode cX9_doLine 96 = .ok (.invokevirtual 139, 3) := by decide +kernel
theorem dX9_doLine_99 : decode cX9_doLine 99 = .ok (.goto 195, 3) := by decide +kernel
theorem dX9_doLine_102 : decode cX9_doLine 102 = .ok (.aload_n 0, 1) := by decide +kernel
theorem dX9_doLine_103 : decode cX9_doLine 103 = .ok (.aload_n 0, 1) := by decide +kernel
theorem dX9_doLine_104 : decode cX9_doLine 104 = .ok (.getfield 49, 3) := by decide +kernel
theorem dX9_doLine_107 : decode cX9_doLine 107 = .ok (.iconst 1, 1) := by decide +kernel
theorem dX9_doLine_108 : decode cX9_doLine 108 = .ok (.iload_n 2, 1) := by decide +kernel
theorem dX9_doLine_109 : decode cX9_doLine 109 = .ok (.ishl, 1) := by decide +kernel
theorem dX9_doLine_110 : decode cX9_doLine 110 = .ok (.ior, 1) := by decide +kernel
theorem dX9_doLine_111 : decode cX9_doLine 111 = .ok (.putfield 49, 3) := by decide +kernel
theorem dX9_doLine_114 : decode cX9_doLine 114 = .ok (.iconst 0, 1) := by decide +kernel
theorem dX9_doLine_115 : decode cX9_doLine 115 = .ok (.istore_n 3, 1) := by decide +kernel
theorem dX9_doLine_116 : decode cX9_doLine 116 = .ok (.iload_n 3, 1) := by decide +kernel
theorem dX9_doLine_117 : decode cX9_doLine 117 = .ok (.iconst 5, 1) := by decide +kernel
theorem dX9_doLine_118 : decode cX9_doLine 118 = .ok (.if_icmp .ge 29, 3) := by decide +kernel
theorem dX9_doLine_121 : decode cX9_doLine 121 = .ok (.aload_n 0, 1) := by decide +kernel
theorem dX9_doLine_122 : decode cX9_doLine 122 = .ok (.getfield 13, 3) := by decide +kernel
theorem dX9_doLine_125 : decode cX9_doLine 125 = .ok (.iconst 5, 1) := by decide +kernel
theorem dX9_doLine_126 : decode cX9_doLine 126 = .ok (.iload_n 2, 1) := by decide +kernel
theorem dX9_doLine_127 : decode cX9_doLine 127 = .ok (.imul, 1) := by decide +kernel
theorem dX9_doLine_128 : decode cX9_doLine 128 = .ok (.iload_n 3, 1) := by decide +kernel
theorem dX9_doLine_129 : decode cX9_doLine 129 = .ok (.iadd, 1) := by decide +kernel
theorem dX9_doLine_130 : decode cX9_doLine 130 = .ok (.aload_n 0, 1) := by decide +kernel
theorem dX9_doLine_131 : decode cX9_doLine 131 = .ok (.getfield 26, 3) := by decide +kernel
theorem dX9_doLine_134 : decode cX9_doLine 134 = .ok (.iload_n 1, 1) := by decide +kernel
theorem dX9_doLine_135 : decode cX9_doLine 135 = .ok (.iconst 2, 1) := by decide +kernel
theorem dX9_doLine_136 : decode cX9_doLine 136 = .ok (.iadd, 1) := by decide +kernel
theorem dX9_doLine_137 : decode cX9_doLine 137 = .ok (.iload_n 3, 1) := by decide +kernel
theorem dX9_doLine_138 : decode cX9_doLine 138 = .ok (.iadd, 1) := by decide +kernel
theorem dX9_doLine_139 : decode cX9_doLine 139 = .ok (.iaload, 1) := by decide +kernel
theorem dX9_doLine_140 : decode cX9_doLine 140 = .ok (.iastore, 1) := by decide +kernel
theorem dX9_doLine_141 : decode cX9_doLine 141 = .ok (.iinc 3 1, 3) := by decide +kernel
theorem dX9_doLine_144 : decode cX9_doLine 144 = .ok (.goto (-28), 3) := by decide +kernel
theorem dX9_doLine_147 : decode cX9_doLine 147 = .ok (.goto 147, 3) := by decide +kernel
theorem dX9_doLine_150 : decode cX9_doLine 150 = .ok (.aload_n 0, 1) := by decide +kernel
theorem dX9_doLine_151 : decode cX9_doLine 151 = .ok (.aload_n 0, 1) := by decide +kernel
theorem dX9_doLine_152 : decode cX9_doLine 152 = .ok (.getfield 149, 3) := by decide +kernel
theorem dX9_doLine_155 : decode cX9_doLine 155 = .ok (.iconst 1, 1) := by decide +kernel
theorem dX9_doLine_156 : decode cX9_doLine 156 = .ok (.iload_n 2, 1) := by decide +kernel
theorem dX9_doLine_157 : decode cX9_doLine 157 = .ok (.ishl, 1) := by decide +kernel
theorem dX9_doLine_158 : decode cX9_doLine 158 = .ok (.ior, 1) := by decide +kernel
theorem dX9_doLine_159 : decode cX9_doLine 159 = .ok (.putfield 149, 3) := by decide +kernel
theorem dX9_doLine_162 : decode cX9_doLine 162 = .ok (.iconst 0, 1) := by decide +kernel
theorem dX9_doLine_163 : decode cX9_doLine 163 = .ok (.istore_n 3, 1) := by decide +kernel
theorem dX9_doLine_164 : decode cX9_doLine 164 = .ok (.iload_n 3, 1) := by decide +kernel
theorem dX9_doLine_165 : decode cX9_doLine 165 = .ok (.iconst 5, 1) := by decide +kernel
theorem dX9_doLine_166 : decode cX9_doLine 166 = .ok (.if_icmp .ge 45, 3) := by decide +kernel
theorem dX9_doLine_169 : decode cX9_doLine 169 = .ok (.aload_n 0, 1) := by decide +kernel
theorem dX9_doLine_170 : decode cX9_doLine 170 = .ok (.getfield 16, 3) := by decide +kernel
theorem dX9_doLine_173 : decode cX9_doLine 173 = .ok (.iconst 5, 1) := by decide +kernel
theorem dX9_doLine_174 : decode cX9_doLine 174 = .ok (.iload_n 2, 1) := by decide +kernel
theorem dX9_doLine_175 : decode cX9_doLine 175 = .ok (.imul, 1) := by decide +kernel
theorem dX9_doLine_176 : decode cX9_doLine 176 = .ok (.iload_n 3, 1) := by decide +kernel
theorem dX9_doLine_177 : decode cX9_doLine 177 = .ok (.iadd, 1) := by decide +kernel
theorem dX9_doLine_178 : decode cX9_doLine 178 = .ok (.aload_n 0, 1) := by decide +kernel
theorem dX9_doLine_179 : decode cX9_doLine 179 = .ok (.getfield 26, 3) := by decide +kernel
theorem dX9_doLine_182 : decode cX9_doLine 182 = .ok (.iload_n 1, 1) := by decide +kernel
theorem dX9_doLine_183 : decode cX9_doLine 183 = .ok (.iconst 2, 1) := by decide +kernel
theorem dX9_doLine_184 : decode cX9_doLine 184 = .ok (.iadd, 1) := by decide +kernel
theorem dX9_doLine_185 : decode cX9_doLine 185 = .ok (.iload_n 3, 1) := by decide +kernel
theorem dX9_doLine_186 : decode cX9_doLine 186 = .ok (.iadd, 1) := by decide +kernel
theorem dX9_doLine_187 : decode cX9_doLine 187 = .ok (.iaload, 1) := by decide +kernel
theorem dX9_doLine_188 : decode cX9_doLine 188 = .ok (.iload_n 3, 1) := by decide +kernel
theorem dX9_doLine_189 : decode cX9_doLine 189 = .ok (.iconst 2, 1) := by decide +kernel
theorem dX9_doLine_190 : decode cX9_doLine 190 = .ok (.if_icmp .eq 8, 3) := by decide +kernel
theorem dX9_doLine_193 : decode cX9_doLine 193 = .ok (.iload_n 3, 1) := by decide +kernel
theorem dX9_doLine_194 : decode cX9_doLine 194 = .ok (.iconst 3, 1) := by decide +kernel
theorem dX9_doLine_195 : decode cX9_doLine 195 = .ok (.if_icmp .ne 7, 3) := by decide +kernel
theorem dX9_doLine_198 : decode cX9_doLine 198 = .ok (.iconst 1, 1) := by decide +kernel
theorem dX9_doLine_199 : decode cX9_doLine 199 = .ok (.goto 4, 3) := by decide +kernel
theorem dX9_doLine_202 : decode cX9_doLine 202 = .ok (.iconst 0, 1) := by decide +kernel
theorem dX9_doLine_203 : decode cX9_doLine 203 = .ok (.isub, 1) := by decide +kernel
theorem dX9_doLine_204 : decode cX9_doLine 204 = .ok (.iastore, 1) := by decide +kernel
theorem dX9_doLine_205 : decode cX9_doLine 205 = .ok (.iinc 3 1, 3) := by decide +kernel
theorem dX9_doLine_208 : decode cX9_doLine 208 = .ok (.goto (-44), 3) := by decide +kernel
theorem dX9_doLine_211 : decode cX9_doLine 211 = .ok (.goto 83, 3) := by decide +kernel
theorem dX9_doLine_214 : decode cX9_doLine 214 = .ok (.aload_n 0, 1) := by decide +kernel
theorem dX9_doLine_215 : decode cX9_doLine 215 = .ok (.iload_n 2, 1) := by decide +kernel
theorem dX9_doLine_216 : decode cX9_doLine 216 = .ok (.putfield 152, 3) := by decide +kernel
theorem dX9_doLine_219 : decode cX9_doLine 219 = .ok (.goto 75, 3) := by decide +kernel
theorem dX9_doLine_222 : decode cX9_doLine 222 = .ok (.aload_n 0, 1) := by decide +kernel
theorem dX9_doLine_223 : decode cX9_doLine 223 = .ok (.iload_n 2, 1) := by decide +kernel
theorem dX9_doLine_224 : decode cX9_doLine 224 = .ok (.putfield 19, 3) := by decide +kernel
theorem dX9_doLine_227 : decode cX9_doLine 227 = .ok (.goto 67, 3) := by decide +kernel
theorem dX9_doLine_230 : decode cX9_doLine 230 = .ok (.iload_n 2, 1) := by decide +kernel
theorem dX9_doLine_231 : decode cX9_doLine 231 = .ok (.istore_n 3, 1) := by decide +kernel
theorem dX9_doLine_232 : decode cX9_doLine 232 = .ok (.iload_n 3, 1) := by decide +kernel
theorem dX9_doLine_233 : decode cX9_doLine 233 = .ok (.aload_n 0, 1) := by decide +kernel
theorem dX9_doLine_234 : decode cX9_doLine 234 = .ok (.getfield 26, 3) := by decide +kernel
theorem dX9_doLine_237 : decode cX9_doLine 237 = .ok (.iload_n 1, 1) := by decide +kernel
theorem dX9_doLine_238 : decode cX9_doLine 238 = .ok (.iconst 2, 1) := by decide +kernel
theorem dX9_doLine_239 : decode cX9_doLine 239 = .ok (.iadd, 1) := by decide +kernel
theorem dX9_doLine_240 : decode cX9_doLine 240 = .ok (.iaload, 1) := by decide +kernel
theorem dX9_doLine_241 : decode cX9_doLine 241 = .ok (.if_icmp .gt 21, 3) := by decide +kernel
theorem dX9_doLine_244 : decode cX9_doLine 244 = .ok (.aload_n 0, 1) := by decide +kernel
theorem dX9_doLine_245 : decode cX9_doLine 245 = .ok (.aload_n 0, 1) := by decide +kernel
theorem dX9_doLine_246 : decode cX9_doLine 246 = .ok (.getfield 143, 3) := by decide +kernel
theorem dX9_doLine_249 : decode cX9_doLine 249 = .ok (.iconst 1, 1) := by decide +kernel
theorem dX9_doLine_250 : decode cX9_doLine 250 = .ok (.iload_n 3, 1) := by decide +kernel
theorem dX9_doLine_251 : decode cX9_doLine 251 = .ok (.ishl, 1) := by decide +kernel
theorem dX9_doLine_252 : decode cX9_doLine 252 = .ok (.ior, 1) := by decide +kernel
theorem dX9_doLine_253 : decode cX9_doLine 253 = .ok (.putfield 143, 3) := by decide +kernel
theorem dX9_doLine_256 : decode cX9_doLine 256 = .ok (.iinc 3 1, 3) := by decide +kernel
theorem dX9_doLine_259 : decode cX9_doLine 259 = .ok (.goto (-27), 3) := by decide +kernel
theorem dX9_doLine_262 : decode cX9_doLine 262 = .ok (.goto 32, 3) := by decide +kernel
theorem dX9_doLine_265 : decode cX9_doLine 265 = .ok (.aload_n 0, 1) := by decide +kernel
theorem dX9_doLine_266 : decode cX9_doLine 266 = .ok (.iload_n 2, 1) := by decide +kernel
theorem dX9_doLine_267 : decode cX9_doLine 267 = .ok (.putfield 146, 3) := by decide +kernel
theorem dX9_doLine_270 : decode cX9_doLine 270 = .ok (.goto 24, 3) := by decide +kernel
theorem dX9_doLine_273 : decode cX9_doLine 273 = .ok (.aload_n 0, 1) := by decide +kernel
theorem dX9_doLine_274 : decode cX9_doLine 274 = .ok (.invokevirtual 155, 3) := by decide +kernel
theorem dX9_doLine_277 : decode cX9_doLine 277 = .ok (.goto 17, 3) := by decide +kernel
theorem dX9_doLine_280 : decode cX9_doLine 280 = .ok (.aload_n 0, 1) := by decide +kernel
theorem dX9_doLine_281 : decode cX9_doLine 281 = .ok (.aload_n 0, 1) := by decide +kernel
theorem dX9_doLine_282 : decode cX9_doLine 282 = .ok (.getfield 49, 3) := by decide +kernel
theorem dX9_doLine_285 : decode cX9_doLine 285 = .ok (.iconst 1, 1) := by decide +kernel
theorem dX9_doLine_286 : decode cX9_doLine 286 = .ok (.iload_n 2, 1) := by decide +kernel
theorem dX9_doLine_287 : decode cX9_doLine 287 = .ok (.ishl, 1) := by decide +kernel
theorem dX9_doLine_288 : decode cX9_doLine 288 = .ok (.iconst (-1), 1) := by decide +kernel
theorem dX9_doLine_289 : decode cX9_doLine 289 = .ok (.ixor, 1) := by decide +kernel
theorem dX9_doLine_290 : decode cX9_doLine 290 = .ok (.iand, 1) := by decide +kernel
theorem dX9_doLine_291 : decode cX9_doLine 291 = .ok (.putfield 49, 3) := by decide +kernel
theorem dX9_doLine_294 : decode cX9_doLine 294 = .ok (.return_, 1) := by decide +kernel
theorem dX9_anew_0 : decode cX9_anew 0 = .ok (.iconst 0, 1) := by decide +kernel
theorem dX9_anew_1 : decode cX9_anew 1 = .ok (.istore_n 1, 1) := by decide +kernel
theorem dX9_anew_2 : decode cX9_anew 2 = .ok (.iload_n 1, 1) := by decide +kernel
theorem dX9_anew_3 : decode cX9_anew 3 = .ok (.sipush 1197, 3) := by decide +kernel
theorem dX9_anew_6 : decode cX9_anew 6 = .ok (.if_icmp .ge 36, 3) := by decide +kernel
theorem dX9_anew_9 : decode cX9_anew 9 = .ok (.aload_n 0, 1) := by decide +kernel
theorem dX9_anew_10 : decode cX9_anew 10 = .ok (.getfield 29, 3) := by decide +kernel
theorem dX9_anew_13 : decode cX9_anew 13 = .ok (.iload_n 1, 1) := by decide +kernel
theorem dX9_anew_14 : decode cX9_anew 14 = .ok (.iload_n 1, 1) := by decide +kernel
theorem dX9_anew_15 : decode cX9_anew 15 = .ok (.bipush 7, 2) := by decide +kernel
theorem dX9_anew_17 : decode cX9_anew 17 = .ok (.bipush 12, 2) := by decide +kernel
theorem dX9_anew_19 : decode cX9_anew 19 = .ok (.invokestatic 45, 3) := by decide +kernel
theorem dX9_anew_22 : decode cX9_anew 22 = .ok (.ifCond .eq 12, 3) := by decide +kernel
theorem dX9_anew_25 : decode cX9_anew 25 = .ok (.aload_n 0, 1) := by decide +kernel
theorem dX9_anew_26 : decode cX9_anew 26 = .ok (.getfield 29, 3) := by decide +kernel
theorem dX9_anew_29 : decode cX9_anew 29 = .ok (.iload_n 1, 1) := by decide +kernel
theorem dX9_anew_30 : decode cX9_anew 30 = .ok (.iaload, 1) := by decide +kernel
theorem dX9_anew_31 : decode cX9_anew 31 = .ok (.goto 4, 3) := by decide +kernel
theorem dX9_anew_34 : decode cX9_anew 34 = .ok (.iconst 0, 1) := by decide +kernel
theorem dX9_anew_35 : decode cX9_anew 35 = .ok (.iastore, 1) := by decide +kernel
theorem dX9_anew_36 : decode cX9_anew 36 = .ok (.iinc 1 1, 3) := by decide +kernel
theorem dX9_anew_39 : decode cX9_anew 39 = .ok (.goto (-37), 3) := by decide +kernel
theorem dX9_anew_42 : decode cX9_anew 42 = .ok (.iconst 0, 1) := by decide +kernel
theorem dX9_anew_43 : decode cX9_anew 43 = .ok (.istore_n 1, 1) := by decide +kernel
theorem dX9_anew_44 : decode cX9_anew 44 = .ok (.iload_n 1, 1) := by decide +kernel
theorem dX9_anew_45 : decode cX9_anew 45 = .ok (.iconst 4, 1) := by decide +kernel
theorem dX9_anew_46 : decode cX9_anew 46 = .ok (.if_icmp .ge 64, 3) := by decide +kernel
theorem dX9_anew_49 : decode cX9_anew 49 = .ok (.aload_n 0, 1) := by decide +kernel
theorem dX9_anew_50 : decode cX9_anew 50 = .ok (.getfield 29, 3) := by decide +kernel
theorem dX9_anew_53 : decode cX9_anew 53 = .ok (.bipush 31, 2) := by decide +kernel
theorem dX9_anew_55 : decode cX9_anew 55 = .ok (.iload_n 1, 1) := by decide +kernel
theorem dX9_anew_56 : decode cX9_anew 56 = .ok (.iadd, 1) := by decide +kernel
theorem dX9_anew_57 : decode cX9_anew 57 = .ok (.aload_n 0, 1) := by decide +kernel
theorem dX9_anew_58 : decode cX9_anew 58 = .ok (.getfield 16, 3) := by decide +kernel
theorem dX9_anew_61 : decode cX9_anew 61 = .ok (.iconst 5, 1) := by decide +kernel
theorem dX9_anew_62 : decode cX9_anew 62 = .ok (.iload_n 1, 1) := by decide +kernel
theorem dX9_anew_63 : decode cX9_anew 63 = .ok (.imul, 1) := by decide +kernel
theorem dX9_anew_64 : decode cX9_anew 64 = .ok (.iaload, 1) := by decide +kernel
theorem dX9_anew_65 : decode cX9_anew 65 = .ok (.iastore, 1) := by decide +kernel
theorem dX9_anew_66 : decode cX9_anew 66 = .ok (.aload_n 0, 1) := by decide +kernel
theorem dX9_anew_67 : decode cX9_anew 67 = .ok (.getfield 29, 3) := by decide +kernel
theorem dX9_anew_70 : decode cX9_anew 70 = .ok (.bipush 35, 2) := by decide +kernel
theorem dX9_anew_72 : decode cX9_anew 72 = .ok (.iload_n 1, 1) := by decide +kernel
theorem dX9_anew_73 : decode cX9_anew 73 = .ok (.iadd, 1) := by decide +kernel
theorem dX9_anew_74 : decode cX9_anew 74 = .ok (.aload_n 0, 1) := by decide +kernel
theorem dX9_anew_75 : decode cX9_anew 75 = .ok (.getfield 16, 3) := by decide +kernel
theorem dX9_anew_78 : decode cX9_anew 78 = .ok (.iconst 5, 1) := by decide +kernel
theorem dX9_anew_79 : decode cX9_anew 79 = .ok (.iload_n 1, 1) := by decide +kernel
theorem dX9_anew_80 : decode cX9_anew 80 = .ok (.imul, 1) := by decide +kernel
theorem dX9_anew_81 : decode cX9_anew 81 = .ok (.iconst 1, 1) := by decide +kernel
theorem dX9_anew_82 : decode cX9_anew 82 = .ok (.iadd, 1) := by decide +kernel
theorem dX9_anew_83 : decode cX9_anew 83 = .ok (.iaload, 1) := by decide +kernel
theorem dX9_anew_84 : decode cX9_anew 84 = .ok (.iastore, 1) := by decide +kernel
theorem dX9_anew_85 : decode cX9_anew 85 = .ok (.aload_n 0, 1) := by decide +kernel
theorem dX9_anew_86 : decode cX9_anew 86 = .ok (.getfield 29, 3) := by decide +kernel
theorem dX9_anew_89 : decode cX9_anew 89 = .ok (.bipush 39, 2) := by decide +kernel
theorem dX9_anew_91 : decode cX9_anew 91 = .ok (.iload_n 1, 1) := by decide +kernel
theorem dX9_anew_92 : decode cX9_anew 92 = .ok (.iadd, 1) := by decide +kernel
theorem dX9_anew_93 : decode cX9_anew 93 = .ok (.aload_n 0, 1) := by decide +kernel
theorem dX9_anew_94 : decode cX9_anew 94 = .ok (.getfield 16, 3) := by decide +kernel
theorem dX9_anew_97 : decode cX9_anew 97 = .ok (.iconst 5, 1) := by decide +kernel
theorem dX9_anew_98 : decode cX9_anew 98 = .ok (.iload_n 1, 1) := by decide +kernel
theorem dX9_anew_99 : decode cX9_anew 99 = .ok (.imul, 1) := by decide +kernel
theorem dX9_anew_100 : decode cX9_anew 100 = .ok (.iconst 4, 1) := by decide +kernel
theorem dX9_anew_101 : decode cX9_anew 101 = .ok (.iadd, 1) := by decide +kernel
theorem dX9_anew_102 : decode cX9_anew 102 = .ok (.iaload, 1) := by decide +kernel
theorem dX9_anew_103 : decode cX9_anew 103 = .ok (.iastore, 1) := by decide +kernel
theorem dX9_anew_104 : decode cX9_anew 104 = .ok (.iinc 1 1, 3) := by decide +kernel
theorem dX9_anew_107 : decode cX9_anew 107 = .ok (.goto (-63), 3) := by decide +kernel
theorem dX9_anew_110 : decode cX9_anew 110 = .ok (.return_, 1) := by decide +kernel
theorem dX9_begin_0 : decode cX9_begin 0 = .ok (.iconst 0, 1) := by decide +kernel
theorem dX9_begin_1 : decode cX9_begin 1 = .ok (.istore_n 1, 1) := by decide +kernel
theorem dX9_begin_2 : decode cX9_begin 2 = .ok (.iload_n 1, 1) := by decide +kernel
theorem dX9_begin_3 : decode cX9_begin 3 = .ok (.bipush 6, 2) := by decide +kernel
theorem dX9_begin_5 : decode cX9_begin 5 = .ok (.if_icmp .ge 19, 3) := by decide +kernel
theorem dX9_begin_8 : decode cX9_begin 8 = .ok (.aload_n 0, 1) := by decide +kernel
theorem dX9_begin_9 : decode cX9_begin 9 = .ok (.getfield 29, 3) := by decide +kernel
theorem dX9_begin_12 : decode cX9_begin 12 = .ok (.bipush 7, 2) := by decide +kernel
theorem dX9_begin_14 : decode cX9_begin 14 = .ok (.iload_n 1, 1) := by decide +kernel
theorem dX9_begin_15 : decode cX9_begin 15 = .ok (.iadd, 1) := by decide +kernel
theorem dX9_begin_16 : decode cX9_begin 16 = .ok (.iconst 0, 1) := by decide +kernel
theorem dX9_begin_17 : decode cX9_begin 17 = .ok (.iastore, 1) := by decide +kernel
theorem dX9_begin_18 : decode cX9_begin 18 = .ok (.iinc 1 1, 3) := by decide +kernel
theorem dX9_begin_21 : decode cX9_begin 21 = .ok (.goto (-19), 3) := by decide +kernel
theorem dX9_begin_24 : decode cX9_begin 24 = .ok (.aload_n 0, 1) := by decide +kernel
theorem dX9_begin_25 : decode cX9_begin 25 = .ok (.invokevirtual 158, 3) := by decide +kernel
theorem dX9_begin_28 : decode cX9_begin 28 = .ok (.return_, 1) := by decide +kernel
theorem dX9_cliff_0 : decode cX9_cliff 0 = .ok (.aload_n 0, 1) := by decide +kernel
theorem dX9_cliff_1 : decode cX9_cliff 1 = .ok (.invokevirtual 136, 3) := by decide +kernel
theorem dX9_cliff_4 : decode cX9_cliff 4 = .ok (.ifCond .ne 6, 3) := by decide +kernel
theorem dX9_cliff_7 : decode cX9_cliff 7 = .ok (.bipush (-4), 2) := by decide +kernel
theorem dX9_cliff_9 : decode cX9_cliff 9 = .ok (.ireturn, 1) := by decide +kernel
theorem dX9_cliff_10 : decode cX9_cliff 10 = .ok (.iconst 0, 1) := by decide +kernel
theorem dX9_cliff_11 : decode cX9_cliff 11 = .ok (.istore_n 1, 1) := by decide +kernel
theorem dX9_cliff_12 : decode cX9_cliff 12 = .ok (.iload_n 1, 1) := by decide +kernel
theorem dX9_cliff_13 : decode cX9_cliff 13 = .ok (.aload_n 0, 1) := by decide +kernel
theorem dX9_cliff_14 : decode cX9_cliff 14 = .ok (.getfield 130, 3) := by decide +kernel
theorem dX9_cliff_17 : decode cX9_cliff 17 = .ok (.if_icmp .ge 17, 3) := by decide +kernel
theorem dX9_cliff_20 : decode cX9_cliff 20 = .ok (.aload_n 0, 1) := by decide +kernel
theorem dX9_cliff_21 : decode cX9_cliff 21 = .ok (.bipush 7, 2) := by decide +kernel
theorem dX9_cliff_23 : decode cX9_cliff 23 = .ok (.iload_n 1, 1) := by decide +kernel
theorem dX9_cliff_24 : decode cX9_cliff 24 = .ok (.imul, 1) := by decide +kernel
theorem dX9_cliff_25 : decode cX9_cliff 25 = .ok (.invokevirtual 161, 3) := by decide +kernel
theorem dX9_cliff_28 : decode cX9_cliff 28 = .ok (.iinc 1 1, 3) := by decide +kernel
theorem dX9_cliff_31 : decode cX9_cliff 31 = .ok (.goto (-19), 3) := by decide +kernel
theorem dX9_cliff_34 : decode cX9_cliff 34 = .ok (.aload_n 0, 1) := by decide +kernel
theorem dX9_cliff_35 : decode cX9_cliff 35 = .ok (.iconst 0, 1) := by decide +kernel
theorem dX9_cliff_36 : decode cX9_cliff 36 = .ok (.putfield 56, 3) := by decide +kernel
theorem dX9_cliff_39 : decode cX9_cliff 39 = .ok (.aload_n 0, 1) := by decide +kernel
theorem dX9_cliff_40 : decode cX9_cliff 40 = .ok (.invokevirtual 42, 3) := by decide +kernel
theorem dX9_cliff_43 : decode cX9_cliff 43 = .ok (.aload_n 0, 1) := by decide +kernel
theorem dX9_cliff_44 : decode cX9_cliff 44 = .ok (.getfield 38, 3) := by decide +kernel
theorem dX9_cliff_47 : decode cX9_cliff 47 = .ok (.iconst 0, 1) := by decide +kernel
theorem dX9_cliff_48 : decode cX9_cliff 48 = .ok (.iconst 0, 1) := by decide +kernel
theorem dX9_cliff_49 : decode cX9_cliff 49 = .ok (.bastore, 1) := by decide +kernel
theorem dX9_cliff_50 : decode cX9_cliff 50 = .ok (.aload_n 0, 1) := by decide +kernel
theorem dX9_cliff_51 : decode cX9_cliff 51 = .ok (.getfield 38, 3) := by decide +kernel
theorem dX9_cliff_54 : decode cX9_cliff 54 = .ok (.iconst 1, 1) := by decide +kernel
theorem dX9_cliff_55 : decode cX9_cliff 55 = .ok (.iconst 0, 1) := by decide +kernel
theorem dX9_cliff_56 : decode cX9_cliff 56 = .ok (.bastore, 1) := by decide +kernel
theorem dX9_cliff_57 : decode cX9_cliff 57 = .ok (.aload_n 0, 1) := by decide +kernel
theorem dX9_cliff_58 : decode cX9_cliff 58 = .ok (.getfield 130, 3) := by decide +kernel
theorem dX9_cliff_61 : decode cX9_cliff 61 = .ok (.ireturn, 1) := by decide +kernel
theorem dX9_wind_0 : decode cX9_wind 0 = .ok (.iload_n 1, 1) := by decide +kernel
theorem dX9_wind_1 : decode cX9_wind 1 = .ok (.invokestatic 165, 3) := by decide +kernel
theorem dX9_wind_4 : decode cX9_wind 4 = .ok (.ifCond .eq 10, 3) := by decide +kernel
theorem dX9_wind_7 : decode cX9_wind 7 = .ok (.iload_n 2, 1) := by decide +kernel
theorem dX9_wind_8 : decode cX9_wind 8 = .ok (.invokestatic 168, 3) := by decide +kernel
theorem dX9_wind_11 : decode cX9_wind 11 = .ok (.ifCond .ne 6, 3) := by decide +kernel
theorem dX9_wind_14 : decode cX9_wind 14 = .ok (.bipush (-2), 2) := by decide +kernel
theorem dX9_wind_16 : decode cX9_wind 16 = .ok (.ireturn, 1) := by decide +kernel
theorem dX9_wind_17 : decode cX9_wind 17 = .ok (.iload_n 3, 1) := by decide +kernel
theorem dX9_wind_18 : decode cX9_wind 18 = .ok (.ifCond .ne 19, 3) := by decide +kernel
theorem dX9_wind_21 : decode cX9_wind 21 = .ok (.aload_n 0, 1) := by decide +kernel
theorem dX9_wind_22 : decode cX9_wind 22 = .ok (.getfield 7, 3) := by decide +kernel
theorem dX9_wind_25 : decode cX9_wind 25 = .ok (.bipush 24, 2) := by decide +kernel
theorem dX9_wind_27 : decode cX9_wind 27 = .ok (.iload_n 1, 1) := by decide +kernel
theorem dX9_wind_28 : decode cX9_wind 28 = .ok (.imul, 1) := by decide +kernel
theorem dX9_wind_29 : decode cX9_wind 29 = .ok (.iconst 2, 1) := by decide +kernel
theorem dX9_wind_30 : decode cX9_wind 30 = .ok (.iload_n 2, 1) := by decide +kernel
theorem dX9_wind_31 : decode cX9_wind 31 = .ok (.imul, 1) := by decide +kernel
theorem dX9_wind_32 : decode cX9_wind 32 = .ok (.iadd, 1) := by decide +kernel
theorem dX9_wind_33 : decode cX9_wind 33 = .ok (.iaload, 1) := by decide +kernel
theorem dX9_wind_34 : decode cX9_wind 34 = .ok (.goto 30, 3) := by decide +kernel
theorem dX9_wind_37 : decode cX9_wind 37 = .ok (.iload_n 3, 1) := by decide +kernel
theorem dX9_wind_38 : decode cX9_wind 38 = .ok (.iconst 1, 1) := by decide +kernel
theorem dX9_wind_39 : decode cX9_wind 39 = .ok (.if_icmp .ne 23, 3) := by decide +kernel
theorem dX9_wind_42 : decode cX9_wind 42 = .ok (.aload_n 0, 1) := by decide +kernel
theorem dX9_wind_43 : decode cX9_wind 43 = .ok (.getfield 7, 3) := by decide +kernel
theorem dX9_wind_46 : decode cX9_wind 46 = .ok (.bipush 24, 2) := by decide +kernel
theorem dX9_wind_48 : decode cX9_wind 48 = .ok (.iload_n 1, 1) := by decide +kernel
theorem dX9_wind_49 : decode cX9_wind 49 = .ok (.imul, 1) := by decide +kernel
theorem dX9_wind_50 : decode cX9_wind 50 = .ok (.iconst 2, 1) := by decide +kernel
theorem dX9_wind_51 : decode cX9_wind 51 = .ok (.iload_n 2, 1) := by decide +kernel
theorem dX9_wind_52 : decode cX9_wind 52 = .ok (.imul, 1) := by decide +kernel
theorem dX9_wind_53 : decode cX9_wind 53 = .ok (.iadd, 1) := by decide +kernel
theorem dX9_wind_54 : decode cX9_wind 54 = .ok (.iconst 1, 1) := by decide +kernel
theorem dX9_wind_55 : decode cX9_wind 55 = .ok (.iadd, 1) := by decide +kernel
theorem dX9_wind_56 : decode cX9_wind 56 = .ok (.iaload, 1) := by decide +kernel
theorem dX9_wind_57 : decode cX9_wind 57 = .ok (.iconst 3, 1) := by decide +kernel
theorem dX9_wind_58 : decode cX9_wind 58 = .ok (.iadd, 1) := by decide +kernel
theorem dX9_wind_59 : decode cX9_wind 59 = .ok (.goto 5, 3) := by decide +kernel
theorem dX9_wind_62 : decode cX9_wind 62 = .ok (.bipush (-3), 2) := by decide +kernel
theorem dX9_wind_64 : decode cX9_wind 64 = .ok (.ireturn, 1) := by decide +kernel
theorem dX9_shoal_0 : decode cX9_shoal 0 = .ok (.iload_n 1, 1) := by decide +kernel
theorem dX9_shoal_1 : decode cX9_shoal 1 = .ok (.iconst 0, 1) := by decide +kernel
theorem dX9_shoal_2 : decode cX9_shoal 2 = .ok (.iconst 3, 1) := by decide +kernel
theorem dX9_shoal_3 : decode cX9_shoal 3 = .ok (.invokestatic 45, 3) := by decide +kernel
theorem dX9_shoal_6 : decode cX9_shoal 6 = .ok (.ifCond .eq 14, 3) := by decide +kernel
theorem dX9_shoal_9 : decode cX9_shoal 9 = .ok (.aload_n 0, 1) := by decide +kernel
theorem dX9_shoal_10 : decode cX9_shoal 10 = .ok (.getfield 149, 3) := by decide +kernel
theorem dX9_shoal_13 : decode cX9_shoal 13 = .ok (.iload_n 1, 1) := by decide +kernel
theorem dX9_shoal_14 : decode cX9_shoal 14 = .ok (.invokestatic 52, 3) := by decide +kernel
theorem dX9_shoal_17 : decode cX9_shoal 17 = .ok (.ifCond .ne 6, 3) := by decide +kernel
theorem dX9_shoal_20 : decode cX9_shoal 20 = .ok (.bipush (-2), 2) := by decide +kernel
theorem dX9_shoal_22 : decode cX9_shoal 22 = .ok (.ireturn, 1) := by decide +kernel
theorem dX9_shoal_23 : decode cX9_shoal 23 = .ok (.iload_n 2, 1) := by decide +kernel
theorem dX9_shoal_24 : decode cX9_shoal 24 = .ok (.ifCond .ne 18, 3) := by decide +kernel
theorem dX9_shoal_27 : decode cX9_shoal 27 = .ok (.aload_n 0, 1) := by decide +kernel
theorem dX9_shoal_28 : decode cX9_shoal 28 = .ok (.getfield 29, 3) := by decide +kernel
theorem dX9_shoal_31 : decode cX9_shoal 31 = .ok (.bipush 31, 2) := by decide +kernel
theorem dX9_shoal_33 : decode cX9_shoal 33 = .ok (.iload_n 1, 1) := by decide +kernel
theorem dX9_shoal_34 : decode cX9_shoal 34 = .ok (.iadd, 1) := by decide +kernel
theorem dX9_shoal_35 : decode cX9_shoal 35 = .ok (.iaload, 1) := by decide +kernel
theorem dX9_shoal_36 : decode cX9_shoal 36 = .ok (.bipush 100, 2) := by decide +kernel
theorem dX9_shoal_38 : decode cX9_shoal 38 = .ok (.iadd, 1) := by decide +kernel
theorem dX9_shoal_39 : decode cX9_shoal 39 = .ok (.goto 42, 3) := by decide +kernel
theorem dX9_shoal_42 : decode cX9_shoal 42 = .ok (.iload_n 2, 1) := by decide +kernel
theorem dX9_shoal_43 : decode cX9_shoal 43 = .ok (.iconst 1, 1) := by decide +kernel
theorem dX9_shoal_44 : decode cX9_shoal 44 = .ok (.if_icmp .ne 18, 3) := by decide +kernel
theorem dX9_shoal_47 : decode cX9_shoal 47 = .ok (.aload_n 0, 1) := by decide +kernel
theorem dX9_shoal_48 : decode cX9_shoal 48 = .ok (.getfield 29, 3) := by decide +kernel
theorem dX9_shoal_51 : decode cX9_shoal 51 = .ok (.bipush 35, 2) := by decide +kernel
theorem dX9_shoal_53 : decode cX9_shoal 53 = .ok (.iload_n 1, 1) := by decide +kernel
theorem dX9_shoal_54 : decode cX9_shoal 54 = .ok (.iadd, 1) := by decide +kernel
theorem dX9_shoal_55 : decode cX9_shoal 55 = .ok (.iaload, 1) := by decide +kernel
theorem dX9_shoal_56 : decode cX9_shoal 56 = .ok (.bipush 100, 2) := by decide +kernel
theorem dX9_shoal_58 : decode cX9_shoal 58 = .ok (.iadd, 1) := by decide +kernel
theorem dX9_shoal_59 : decode cX9_shoal 59 = .ok (.goto 22, 3) := by decide +kernel
theorem dX9_shoal_62 : decode cX9_shoal 62 = .ok (.iload_n 2, 1) := by decide +kernel
theorem dX9_shoal_63 : decode cX9_shoal 63 = .ok (.iconst 2, 1) := by decide +kernel
theorem dX9_shoal_64 : decode cX9_shoal 64 = .ok (.if_icmp .ne 15, 3) := by decide +kernel
theorem dX9_shoal_67 : decode cX9_shoal 67 = .ok (.aload_n 0, 1) := by decide +kernel
theorem dX9_shoal_68 : decode cX9_shoal 68 = .ok (.getfield 29, 3) := by decide +kernel
theorem dX9_shoal_71 : decode cX9_shoal 71 = .ok (.bipush 39, 2) := by decide +kernel
theorem dX9_shoal_73 : decode cX9_shoal 73 = .ok (.iload_n 1, 1) := by decide +kernel
theorem dX9_shoal_74 : decode cX9_shoal 74 = .ok (.iadd, 1) := by decide +kernel
theorem dX9_shoal_75 : decode cX9_shoal 75 = .ok (.iaload, 1) := by decide +kernel
theorem dX9_shoal_76 : decode cX9_shoal 76 = .ok (.goto 5, 3) := by decide +kernel
theorem dX9_shoal_79 : decode cX9_shoal 79 = .ok (.bipush (-3), 2) := by decide +kernel
theorem dX9_shoal_81 : decode cX9_shoal 81 = .ok (.ireturn, 1) := by decide +kernel
theorem dX9_ask_0 : decode cX9_ask 0 = .ok (.aload_n 0, 1) := by decide +kernel
theorem dX9_ask_1 : decode cX9_ask 1 = .ok (.iload_n 1, 1) := by decide +kernel
theorem dX9_ask_2 : decode cX9_ask 2 = .ok (.invokevirtual 171, 3) := by decide +kernel
theorem dX9_ask_5 : decode cX9_ask 5 = .ok (.ifCond .ne 6, 3) := by decide +kernel
theorem dX9_ask_8 : decode cX9_ask 8 = .ok (.bipush (-2), 2) := by decide +kernel
theorem dX9_ask_10 : decode cX9_ask 10 = .ok (.ireturn, 1) := by decide +kernel
theorem dX9_ask_11 : decode cX9_ask 11 = .ok (.iload_n 2, 1) := by decide +kernel
theorem dX9_ask_12 : decode cX9_ask 12 = .ok (.iconst 0, 1) := by decide +kernel
theorem dX9_ask_13 : decode cX9_ask 13 = .ok (.iconst 3, 1) := by decide +kernel
theorem dX9_ask_14 : decode cX9_ask 14 = .ok (.invokestatic 45, 3) := by decide +kernel
theorem dX9_ask_17 : decode cX9_ask 17 = .ok (.ifCond .ne 6, 3) := by decide +kernel
theorem dX9_ask_20 : decode cX9_ask 20 = .ok (.bipush (-3), 2) := by decide +kernel
theorem dX9_ask_22 : decode cX9_ask 22 = .ok (.ireturn, 1) := by decide +kernel
theorem dX9_ask_23 : decode cX9_ask 23 = .ok (.aload_n 0, 1) := by decide +kernel
theorem dX9_ask_24 : decode cX9_ask 24 = .ok (.getfield 29, 3) := by decide +kernel
theorem dX9_ask_27 : decode cX9_ask 27 = .ok (.bipush 7, 2) := by decide +kernel
theorem dX9_ask_29 : decode cX9_ask 29 = .ok (.iload_n 1, 1) := by decide +kernel
theorem dX9_ask_30 : decode cX9_ask 30 = .ok (.iadd, 1) := by decide +kernel
theorem dX9_ask_31 : decode cX9_ask 31 = .ok (.iaload, 1) := by decide +kernel
theorem dX9_ask_32 : decode cX9_ask 32 = .ok (.istore_n 3, 1) := by decide +kernel
theorem dX9_ask_33 : decode cX9_ask 33 = .ok (.aload_n 0, 1) := by decide +kernel
theorem dX9_ask_34 : decode cX9_ask 34 = .ok (.getfield 29, 3) := by decide +kernel
theorem dX9_ask_37 : decode cX9_ask 37 = .ok (.bipush 7, 2) := by decide +kernel
theorem dX9_ask_39 : decode cX9_ask 39 = .ok (.iload_n 1, 1) := by decide +kernel
theorem dX9_ask_40 : decode cX9_ask 40 = .ok (.iadd, 1) := by decide +kernel
theorem dX9_ask_41 : decode cX9_ask 41 = .ok (.iload_n 2, 1) := by decide +kernel
theorem dX9_ask_42 : decode cX9_ask 42 = .ok (.iastore, 1) := by decide +kernel
theorem dX9_ask_43 : decode cX9_ask 43 = .ok (.iload_n 3, 1) := by decide +kernel
theorem dX9_ask_44 : decode cX9_ask 44 = .ok (.ireturn, 1) := by decide +kernel
theorem dX9_xOf_0 : decode cX9_xOf 0 = .ok (.aload_n 0, 1) := by decide +kernel
theorem dX9_xOf_1 : decode cX9_xOf 1 = .ok (.getfield 13, 3) := by decide +kernel
theorem dX9_xOf_4 : decode cX9_xOf 4 = .ok (.iconst 5, 1) := by decide +kernel
theorem dX9_xOf_5 : decode cX9_xOf 5 = .ok (.iload_n 1, 1) := by decide +kernel
theorem dX9_xOf_6 : decode cX9_xOf 6 = .ok (.imul, 1) := by decide +kernel
theorem dX9_xOf_7 : decode cX9_xOf 7 = .ok (.iaload, 1) := by decide +kernel
theorem dX9_xOf_8 : decode cX9_xOf 8 = .ok (.aload_n 0, 1) := by decide +kernel
theorem dX9_xOf_9 : decode cX9_xOf 9 = .ok (.getfield 7, 3) := by decide +kernel
theorem dX9_xOf_12 : decode cX9_xOf 12 = .ok (.bipush 24, 2) := by decide +kernel
theorem dX9_xOf_14 : decode cX9_xOf 14 = .ok (.iload_n 2, 1) := by decide +kernel
theorem dX9_xOf_15 : decode cX9_xOf 15 = .ok (.imul, 1) := by decide +kernel
theorem dX9_xOf_16 : decode cX9_xOf 16 = .ok (.iconst 2, 1) := by decide +kernel
theorem dX9_xOf_17 : decode cX9_xOf 17 = .ok (.iload_n 3, 1) := by decide +kernel
theorem dX9_xOf_18 : decode cX9_xOf 18 = .ok (.imul, 1) := by decide +kernel
theorem dX9_xOf_19 : decode cX9_xOf 19 = .ok (.iadd, 1) := by decide +kernel
theorem dX9_xOf_20 : decode cX9_xOf 20 = .ok (.iconst 1, 1) := by decide +kernel
theorem dX9_xOf_21 : decode cX9_xOf 21 = .ok (.iadd, 1) := by decide +kernel
theorem dX9_xOf_22 : decode cX9_xOf 22 = .ok (.iaload, 1) := by decide +kernel
theorem dX9_xOf_23 : decode cX9_xOf 23 = .ok (.aload_n 0, 1) := by decide +kernel
theorem dX9_xOf_24 : decode cX9_xOf 24 = .ok (.getfield 13, 3) := by decide +kernel
theorem dX9_xOf_27 : decode cX9_xOf 27 = .ok (.iconst 5, 1) := by decide +kernel
theorem dX9_xOf_28 : decode cX9_xOf 28 = .ok (.iload_n 1, 1) := by decide +kernel
theorem dX9_xOf_29 : decode cX9_xOf 29 = .ok (.imul, 1) := by decide +kernel
theorem dX9_xOf_30 : decode cX9_xOf 30 = .ok (.iconst 2, 1) := by decide +kernel
theorem dX9_xOf_31 : decode cX9_xOf 31 = .ok (.iadd, 1) := by decide +kernel
theorem dX9_xOf_32 : decode cX9_xOf 32 = .ok (.iaload, 1) := by decide +kernel
theorem dX9_xOf_33 : decode cX9_xOf 33 = .ok (.imul, 1) := by decide +kernel
theorem dX9_xOf_34 : decode cX9_xOf 34 = .ok (.iconst 3, 1) := by decide +kernel
theorem dX9_xOf_35 : decode cX9_xOf 35 = .ok (.idiv, 1) := by decide +kernel
theorem dX9_xOf_36 : decode cX9_xOf 36 = .ok (.iadd, 1) := by decide +kernel
theorem dX9_xOf_37 : decode cX9_xOf 37 = .ok (.ireturn, 1) := by decide +kernel
theorem dX9_yOf_0 : decode cX9_yOf 0 = .ok (.aload_n 0, 1) := by decide +kernel
theorem dX9_yOf_1 : decode cX9_yOf 1 = .ok (.getfield 13, 3) := by decide +kernel
theorem dX9_yOf_4 : decode cX9_yOf 4 = .ok (.iconst 5, 1) := by decide +kernel
theorem dX9_yOf_5 : decode cX9_yOf 5 = .ok (.iload_n 1, 1) := by decide +kernel
theorem dX9_yOf_6 : decode cX9_yOf 6 = .ok (.imul, 1) := by decide +kernel
theorem dX9_yOf_7 : decode cX9_yOf 7 = .ok (.iconst 2, 1) := by decide +kernel
theorem dX9_yOf_8 : decode cX9_yOf 8 = .ok (.iadd, 1) := by decide +kernel
theorem dX9_yOf_9 : decode cX9_yOf 9 = .ok (.iaload, 1) := by decide +kernel
theorem dX9_yOf_10 : decode cX9_yOf 10 = .ok (.iload_n 2, 1) := by decide +kernel
theorem dX9_yOf_11 : decode cX9_yOf 11 = .ok (.isub, 1) := by decide +kernel
theorem dX9_yOf_12 : decode cX9_yOf 12 = .ok (.ireturn, 1) := by decide +kernel
theorem dX9_isInSea_0 : decode cX9_isInSea 0 = .ok (.aload_n 0, 1) := by decide +kernel
theorem dX9_isInSea_1 : decode cX9_isInSea 1 = .ok (.iload_n 1, 1) := by decide +kernel
theorem dX9_isInSea_2 : decode cX9_isInSea 2 = .ok (.iload_n 2, 1) := by decide +kernel
theorem dX9_isInSea_3 : decode cX9_isInSea 3 = .ok (.iload_n 3, 1) := by decide +kernel
theorem dX9_isInSea_4 : decode cX9_isInSea 4 = .ok (.invokevirtual 174, 3) := by decide +kernel
theorem dX9_isInSea_7 : decode cX9_isInSea 7 = .ok (.iconst 0, 1) := by decide +kernel
theorem dX9_isInSea_8 : decode cX9_isInSea 8 = .ok (.bipush 9, 2) := by decide +kernel
theorem dX9_isInSea_10 : decode cX9_isInSea 10 = .ok (.invokestatic 45, 3) := by decide +kernel
theorem dX9_isInSea_13 : decode cX9_isInSea 13 = .ok (.ifCond .eq 22, 3) := by decide +kernel
theorem dX9_isInSea_16 : decode cX9_isInSea 16 = .ok (.aload_n 0, 1) := by decide +kernel
theorem dX9_isInSea_17 : decode cX9_isInSea 17 = .ok (.iload_n 1, 1) := by decide +kernel
theorem dX9_isInSea_18 : decode cX9_isInSea 18 = .ok (.iload_n 2, 1) := by decide +kernel
theorem dX9_isInSea_19 : decode cX9_isInSea 19 = .ok (.invokevirtual 178, 3) := by decide +kernel
theorem dX9_isInSea_22 : decode cX9_isInSea 22 = .ok (.iconst 1, 1) := by decide +kernel
theorem dX9_isInSea_23 : decode cX9_isInSea 23 = .ok (.bipush 6, 2) := by decide +kernel
theorem dX9_isInSea_25 : decode cX9_isInSea 25 = .ok (.invokestatic 45, 3) := by decide +kernel
theorem dX9_isInSea_28 : decode cX9_isInSea 28 = .ok (.ifCond .eq 7, 3) := by decide +kernel
theorem dX9_isInSea_31 : decode cX9_isInSea 31 = .ok (.iconst 1, 1) := by decide +kernel
theorem dX9_isInSea_32 : decode cX9_isInSea 32 = .ok (.goto 4, 3) := by decide +kernel
theorem dX9_isInSea_35 : decode cX9_isInSea 35 = .ok (.iconst 0, 1) := by decide +kernel
theorem dX9_isInSea_36 : decode cX9_isInSea 36 = .ok (.ireturn, 1) := by decide +kernel
theorem dX9_hasLift_0 : decode cX9_hasLift 0 = .ok (.aload_n 0, 1) := by decide +kernel
theorem dX9_hasLift_1 : decode cX9_hasLift 1 = .ok (.getfield 13, 3) := by decide +kernel
theorem dX9_hasLift_4 : decode cX9_hasLift 4 = .ok (.iconst 5, 1) := by decide +kernel
theorem dX9_hasLift_5 : decode cX9_hasLift 5 = .ok (.iload_n 1, 1) := by decide +kernel
theorem dX9_hasLift_6 : decode cX9_hasLift 6 = .ok (.imul, 1) := by decide +kernel
theorem dX9_hasLift_7 : decode cX9_hasLift 7 = .ok (.iconst 1, 1) := by decide +kernel
theorem dX9_hasLift_8 : decode cX9_hasLift 8 = .ok (.iadd, 1) := by decide +kernel
theorem dX9_hasLift_9 : decode cX9_hasLift 9 = .ok (.iaload, 1) := by decide +kernel
theorem dX9_hasLift_10 : decode cX9_hasLift 10 = .ok (.aload_n 0, 1) := by decide +kernel
theorem dX9_hasLift_11 : decode cX9_hasLift 11 = .ok (.getfield 7, 3) := by decide +kernel
theorem dX9_hasLift_14 : decode cX9_hasLift 14 = .ok (.bipush 24, 2) := by decide +kernel
theorem dX9_hasLift_16 : decode cX9_hasLift 16 = .ok (.iload_n 2, 1) := by decide +kernel
theorem dX9_hasLift_17 : decode cX9_hasLift 17 = .ok (.imul, 1) := by decide +kernel
theorem dX9_hasLift_18 : decode cX9_hasLift 18 = .ok (.iconst 2, 1) := by decide +kernel
theorem dX9_hasLift_19 : decode cX9_hasLift 19 = .ok (.iload_n 3, 1) := by decide +kernel
theorem dX9_hasLift_20 : decode cX9_hasLift 20 = .ok (.imul, 1) := by decide +kernel
theorem dX9_hasLift_21 : decode cX9_hasLift 21 = .ok (.iadd, 1) := by decide +kernel
theorem dX9_hasLift_22 : decode cX9_hasLift 22 = .ok (.iaload, 1) := by decide +kernel
theorem dX9_hasLift_23 : decode cX9_hasLift 23 = .ok (.imul, 1) := by decide +kernel
theorem dX9_hasLift_24 : decode cX9_hasLift 24 = .ok (.aload_n 0, 1) := by decide +kernel
theorem dX9_hasLift_25 : decode cX9_hasLift 25 = .ok (.getfield 13, 3) := by decide +kernel
theorem dX9_hasLift_28 : decode cX9_hasLift 28 = .ok (.iconst 5, 1) := by decide +kernel
theorem dX9_hasLift_29 : decode cX9_hasLift 29 = .ok (.iload_n 1, 1) := by decide +kernel
theorem dX9_hasLift_30 : decode cX9_hasLift 30 = .ok (.imul, 1) := by decide +kernel
theorem dX9_hasLift_31 : decode cX9_hasLift 31 = .ok (.iconst 3, 1) := by decide +kernel
theorem dX9_hasLift_32 : decode cX9_hasLift 32 = .ok (.iadd, 1) := by decide +kernel
theorem dX9_hasLift_33 : decode cX9_hasLift 33 = .ok (.iaload, 1) := by decide +kernel
theorem dX9_hasLift_34 : decode cX9_hasLift 34 = .ok (.if_icmp .lt 7, 3) := by decide +kernel
theorem dX9_hasLift_37 : decode cX9_hasLift 37 = .ok (.iconst 1, 1) := by decide +kernel
theorem dX9_hasLift_38 : decode cX9_hasLift 38 = .ok (.goto 4, 3) := by decide +kernel
theorem dX9_hasLift_41 : decode cX9_hasLift 41 = .ok (.iconst 0, 1) := by decide +kernel
theorem dX9_hasLift_42 : decode cX9_hasLift 42 = .ok (.ireturn, 1) := by decide +kernel
theorem dX9_doTangle_0 : decode cX9_doTangle 0 = .ok (.aload_n 0, 1) := by decide +kernel
theorem dX9_doTangle_1 : decode cX9_doTangle 1 = .ok (.getfield 13, 3) := by decide +kernel
theorem dX9_doTangle_4 : decode cX9_doTangle 4 = .ok (.iconst 5, 1) := by decide +kernel
theorem dX9_doTangle_5 : decode cX9_doTangle 5 = .ok (.iload_n 1, 1) := by decide +kernel
theorem dX9_doTangle_6 : decode cX9_doTangle 6 = .ok (.imul, 1) := by decide +kernel
theorem dX9_doTangle_7 : decode cX9_doTangle 7 = .ok (.iaload, 1) := by decide +kernel
theorem dX9_doTangle_8 : decode cX9_doTangle 8 = .ok (.aload_n 0, 1) := by decide +kernel
theorem dX9_doTangle_9 : decode cX9_doTangle 9 = .ok (.getfield 13, 3) := by decide +kernel
theorem dX9_doTangle_12 : decode cX9_doTangle 12 = .ok (.iconst 5, 1) := by decide +kernel
theorem dX9_doTangle_13 : decode cX9_doTangle 13 = .ok (.iload_n 2, 1) := by decide +kernel
theorem dX9_doTangle_14 : decode cX9_doTangle 14 = .ok (.imul, 1) := by decide +kernel
theorem dX9_doTangle_15 : decode cX9_doTangle 15 = .ok (.iaload, 1) := by decide +kernel
theorem dX9_doTangle_16 : decode cX9_doTangle 16 = .ok (.isub, 1) := by decide +kernel
theorem dX9_doTangle_17 : decode cX9_doTangle 17 = .ok (.istore 5, 2) := by decide +kernel
theorem dX9_doTangle_19 : decode cX9_doTangle 19 = .ok (.aload_n 0, 1) := by decide +kernel
theorem dX9_doTangle_20 : decode cX9_doTangle 20 = .ok (.iload_n 1, 1) := by decide +kernel
theorem dX9_doTangle_21 : decode cX9_doTangle 21 = .ok (.iload_n 3, 1) := by decide +kernel
theorem dX9_doTangle_22 : decode cX9_doTangle 22 = .ok (.iload 4, 2) := by decide +kernel
theorem dX9_doTangle_24 : decode cX9_doTangle 24 = .ok (.invokevirtual 174, 3) := by decide +kernel
theorem dX9_doTangle_27 : decode cX9_doTangle 27 = .ok (.aload_n 0, 1) := by decide +kernel
theorem dX9_doTangle_28 : decode cX9_doTangle 28 = .ok (.iload_n 2, 1) := by decide +kernel
theorem dX9_doTangle_29 : decode cX9_doTangle 29 = .ok (.iload_n 3, 1) := by decide +kernel
theorem dX9_doTangle_30 : decode cX9_doTangle 30 = .ok (.iload 4, 2) := by decide +kernel
theorem dX9_doTangle_32 : decode cX9_doTangle 32 = .ok (.invokevirtual 174, 3) := by decide +kernel
theorem dX9_doTangle_35 : decode cX9_doTangle 35 = .ok (.isub, 1) := by decide +kernel
theorem dX9_doTangle_36 : decode cX9_doTangle 36 = .ok (.istore 6, 2) := by decide +kernel
theorem dX9_doTangle_38 : decode cX9_doTangle 38 = .ok (.iload 5, 2) := by decide +kernel
theorem dX9_doTangle_40 : decode cX9_doTangle 40 = .ok (.ifCond .eq 21, 3) := by decide +kernel
theorem dX9_doTangle_43 : decode cX9_doTangle 43 = .ok (.iload 5, 2) := by decide +kernel
theorem dX9_doTangle_45 : decode cX9_doTangle 45 = .ok (.ifCond .ge 11, 3) := by decide +kernel
theorem dX9_doTangle_48 : decode cX9_doTangle 48 = .ok (.iload 6, 2) := by decide +kernel
theorem dX9_doTangle_50 : decode cX9_doTangle 50 = .ok (.ifCond .lt 15, 3) := by decide +kernel
theorem dX9_doTangle_53 : decode cX9_doTangle 53 = .ok (.goto 8, 3) := by decide +kernel
theorem dX9_doTangle_56 : decode cX9_doTangle 56 = .ok (.iload 6, 2) := by decide +kernel
theorem dX9_doTangle_58 : decode cX9_doTangle 58 = .ok (.ifCond .gt 7, 3) := by decide +kernel
theorem dX9_doTangle_61 : decode cX9_doTangle 61 = .ok (.iconst 1, 1) := by decide +kernel
theorem dX9_doTangle_62 : decode cX9_doTangle 62 = .ok (.goto 4, 3) := by decide +kernel
theorem dX9_doTangle_65 : decode cX9_doTangle 65 = .ok (.iconst 0, 1) := by decide +kernel
theorem dX9_doTangle_66 : decode cX9_doTangle 66 = .ok (.ireturn, 1) := by decide +kernel
theorem dX9_givesWay_0 : decode cX9_givesWay 0 = .ok (.aload_n 0, 1) := by decide +kernel
theorem dX9_givesWay_1 : decode cX9_givesWay 1 = .ok (.getfield 152, 3) := by decide +kernel
theorem dX9_givesWay_4 : decode cX9_givesWay 4 = .ok (.ifCond .ne 27, 3) := by decide +kernel
theorem dX9_givesWay_7 : decode cX9_givesWay 7 = .ok (.aload_n 0, 1) := by decide +kernel
theorem dX9_givesWay_8 : decode cX9_givesWay 8 = .ok (.getfield 13, 3) := by decide +kernel
theorem dX9_givesWay_11 : decode cX9_givesWay 11 = .ok (.iconst 5, 1) := by decide +kernel
theorem dX9_givesWay_12 : decode cX9_givesWay 12 = .ok (.iload_n 1, 1) := by decide +kernel
theorem dX9_givesWay_13 : decode cX9_givesWay 13 = .ok (.imul, 1) := by decide +kernel
theorem dX9_givesWay_14 : decode cX9_givesWay 14 = .ok (.iconst 1, 1) := by decide +kernel
theorem dX9_givesWay_15 : decode cX9_givesWay 15 = .ok (.iadd, 1) := by decide +kernel
theorem dX9_givesWay_16 : decode cX9_givesWay 16 = .ok (.iaload, 1) := by decide +kernel
theorem dX9_givesWay_17 : decode cX9_givesWay 17 = .ok (.aload_n 0, 1) := by decide +kernel
theorem dX9_givesWay_18 : decode cX9_givesWay 18 = .ok (.getfield 13, 3) := by decide +kernel
theorem dX9_givesWay_21 : decode cX9_givesWay 21 = .ok (.iconst 5, 1) := by decide +kernel
theorem dX9_givesWay_22 : decode cX9_givesWay 22 = .ok (.iload_n 2, 1) := by decide +kernel
theorem dX9_givesWay_23 : decode cX9_givesWay 23 = .ok (.imul, 1) := by decide +kernel
theorem dX9_givesWay_24 : decode cX9_givesWay 24 = .ok (.iconst 1, 1) := by decide +kernel
theorem dX9_givesWay_25 : decode cX9_givesWay 25 = .ok (.iadd, 1) := by decide +kernel
theorem dX9_givesWay_26 : decode cX9_givesWay 26 = .ok (.iaload, 1) := by decide +kernel
theorem dX9_givesWay_27 : decode cX9_givesWay 27 = .ok (.isub, 1) := by decide +kernel
theorem dX9_givesWay_28 : decode cX9_givesWay 28 = .ok (.goto 36, 3) := by decide +kernel
theorem dX9_givesWay_31 : decode cX9_givesWay 31 = .ok (.aload_n 0, 1) := by decide +kernel
theorem dX9_givesWay_32 : decode cX9_givesWay 32 = .ok (.getfield 152, 3) := by decide +kernel
theorem dX9_givesWay_35 : decode cX9_givesWay 35 = .ok (.iconst 1, 1) := by decide +kernel
theorem dX9_givesWay_36 : decode cX9_givesWay 36 = .ok (.if_icmp .ne 27, 3) := by decide +kernel
theorem dX9_givesWay_39 : decode cX9_givesWay 39 = .ok (.aload_n 0, 1) := by decide +kernel
theorem dX9_givesWay_40 : decode cX9_givesWay 40 = .ok (.getfield 13, 3) := by decide +kernel
theorem dX9_givesWay_43 : decode cX9_givesWay 43 = .ok (.iconst 5, 1) := by decide +kernel
theorem dX9_givesWay_44 : decode cX9_givesWay 44 = .ok (.iload_n 2, 1) := by decide +kernel
theorem dX9_givesWay_45 : decode cX9_givesWay 45 = .ok (.imul, 1) := by decide +kernel
theorem dX9_givesWay_46 : decode cX9_givesWay 46 = .ok (.iconst 4, 1) := by decide +kernel
theorem dX9_givesWay_47 : decode cX9_givesWay 47 = .ok (.iadd, 1) := by decide +kernel
theorem dX9_givesWay_48 : decode cX9_givesWay 48 = .ok (.iaload, 1) := by decide +kernel
theorem dX9_givesWay_49 : decode cX9_givesWay 49 = .ok (.aload_n 0, 1) := by decide +kernel
theorem dX9_givesWay_50 : decode cX9_givesWay 50 = .ok (.getfield 13, 3) := by decide +kernel
theorem dX9_givesWay_53 : decode cX9_givesWay 53 = .ok (.iconst 5, 1) := by decide +kernel
theorem dX9_givesWay_54 : decode cX9_givesWay 54 = .ok (.iload_n 1, 1) := by decide +kernel
theorem dX9_givesWay_55 : decode cX9_givesWay 55 = .ok (.imul, 1) := by decide +kernel
theorem dX9_givesWay_56 : decode cX9_givesWay 56 = .ok (.iconst 4, 1) := by decide +kernel
theorem dX9_givesWay_57 : decode cX9_givesWay 57 = .ok (.iadd, 1) := by decide +kernel
theorem dX9_givesWay_58 : decode cX9_givesWay 58 = .ok (.iaload, 1) := by decide +kernel
theorem dX9_givesWay_59 : decode cX9_givesWay 59 = .ok (.isub, 1) := by decide +kernel
theorem dX9_givesWay_60 : decode cX9_givesWay 60 = .ok (.goto 4, 3) := by decide +kernel
theorem dX9_givesWay_63 : decode cX9_givesWay 63 = .ok (.iconst 0, 1) := by decide +kernel
theorem dX9_givesWay_64 : decode cX9_givesWay 64 = .ok (.istore_n 3, 1) := by decide +kernel
theorem dX9_givesWay_65 : decode cX9_givesWay 65 = .ok (.iload_n 3, 1) := by decide +kernel
theorem dX9_givesWay_66 : decode cX9_givesWay 66 = .ok (.ifCond .ge 7, 3) := by decide +kernel
theorem dX9_givesWay_69 : decode cX9_givesWay 69 = .ok (.iload_n 1, 1) := by decide +kernel
theorem dX9_givesWay_70 : decode cX9_givesWay 70 = .ok (.goto 4, 3) := by decide +kernel
theorem dX9_givesWay_73 : decode cX9_givesWay 73 = .ok (.iload_n 2, 1) := by decide +kernel
theorem dX9_givesWay_74 : decode cX9_givesWay 74 = .ok (.ireturn, 1) := by decide +kernel
theorem dX9_findUp_0 : decode cX9_findUp 0 = .ok (.iconst 0, 1) := by decide +kernel
theorem dX9_findUp_1 : decode cX9_findUp 1 = .ok (.istore_n 2, 1) := by decide +kernel
theorem dX9_findUp_2 : decode cX9_findUp 2 = .ok (.iconst 0, 1) := by decide +kernel
theorem dX9_findUp_3 : decode cX9_findUp 3 = .ok (.istore_n 3, 1) := by decide +kernel
theorem dX9_findUp_4 : decode cX9_findUp 4 = .ok (.iload_n 3, 1) := by decide +kernel
theorem dX9_findUp_5 : decode cX9_findUp 5 = .ok (.bipush 6, 2) := by decide +kernel
theorem dX9_findUp_7 : decode cX9_findUp 7 = .ok (.if_icmp .ge 159, 3) := by decide +kernel
theorem dX9_findUp_10 : decode cX9_findUp 10 = .ok (.aload_n 0, 1) := by decide +kernel
theorem dX9_findUp_11 : decode cX9_findUp 11 = .ok (.getfield 29, 3) := by decide +kernel
theorem dX9_findUp_14 : decode cX9_findUp 14 = .ok (.bipush 7, 2) := by decide +kernel
theorem dX9_findUp_16 : decode cX9_findUp 16 = .ok (.iload_n 3, 1) := by decide +kernel
theorem dX9_findUp_17 : decode cX9_findUp 17 = .ok (.iadd, 1) := by decide +kernel
theorem dX9_findUp_18 : decode cX9_findUp 18 = .ok (.iaload, 1) := by decide +kernel
theorem dX9_findUp_19 : decode cX9_findUp 19 = .ok (.istore 4, 2) := by decide +kernel
theorem dX9_findUp_21 : decode cX9_findUp 21 = .ok (.aload_n 0, 1) := by decide +kernel
theorem dX9_findUp_22 : decode cX9_findUp 22 = .ok (.getfield 49, 3) := by decide +kernel
theorem dX9_findUp_25 : decode cX9_findUp 25 = .ok (.iload_n 3, 1) := by decide +kernel
theorem dX9_findUp_26 : decode cX9_findUp 26 = .ok (.invokestatic 52, 3) := by decide +kernel
theorem dX9_findUp_29 : decode cX9_findUp 29 = .ok (.ifCond .eq 34, 3) := by decide +kernel
theorem dX9_findUp_32 : decode cX9_findUp 32 = .ok (.iload 4, 2) := by decide +kernel
theorem dX9_findUp_34 : decode cX9_findUp 34 = .ok (.ifCond .le 29, 3) := by decide +kernel
theorem dX9_findUp_37 : decode cX9_findUp 37 = .ok (.aload_n 0, 1) := by decide +kernel
theorem dX9_findUp_38 : decode cX9_findUp 38 = .ok (.iload_n 3, 1) := by decide +kernel
theorem dX9_findUp_39 : decode cX9_findUp 39 = .ok (.iload 4, 2) := by decide +kernel
theorem dX9_findUp_41 : decode cX9_findUp 41 = .ok (.iload_n 1, 1) := by decide +kernel
theorem dX9_findUp_42 : decode cX9_findUp 42 = .ok (.invokevirtual 182, 3) := by decide +kernel
theorem dX9_findUp_45 : decode cX9_findUp 45 = .ok (.ifCond .eq 18, 3) := by decide +kernel
theorem dX9_findUp_48 : decode cX9_findUp 48 = .ok (.aload_n 0, 1) := by decide +kernel
theorem dX9_findUp_49 : decode cX9_findUp 49 = .ok (.iload_n 3, 1) := by decide +kernel
theorem dX9_findUp_50 : decode cX9_findUp 50 = .ok (.iload 4, 2) := by decide +kernel
theorem dX9_findUp_52 : decode cX9_findUp 52 = .ok (.iload_n 1, 1) := by decide +kernel
theorem dX9_findUp_53 : decode cX9_findUp 53 = .ok (.invokevirtual 185, 3) := by decide +kernel
theorem dX9_findUp_56 : decode cX9_findUp 56 = .ok (.ifCond .eq 7, 3) := by decide +kernel
theorem dX9_findUp_59 : decode cX9_findUp 59 = .ok (.iconst 1, 1) := by decide +kernel
theorem dX9_findUp_60 : decode cX9_findUp 60 = .ok (.goto 4, 3) := by decide +kernel
theorem dX9_findUp_63 : decode cX9_findUp 63 = .ok (.iconst 0, 1) := by decide +kernel
theorem dX9_findUp_64 : decode cX9_findUp 64 = .ok (.istore 5, 2) := by decide +kernel
theorem dX9_findUp_66 : decode cX9_findUp 66 = .ok (.iload 5, 2) := by decide +kernel
theorem dX9_findUp_68 : decode cX9_findUp 68 = .ok (.ifCond .eq 49, 3) := by decide +kernel
theorem dX9_findUp_71 : decode cX9_findUp 71 = .ok (.aload_n 0, 1) := by decide +kernel
theorem dX9_findUp_72 : decode cX9_findUp 72 = .ok (.getfield 143, 3) := by decide +kernel
theorem dX9_findUp_75 : decode cX9_findUp 75 = .ok (.iload_n 1, 1) := by decide +kernel
theorem dX9_findUp_76 : decode cX9_findUp 76 = .ok (.invokestatic 52, 3) := by decide +kernel
theorem dX9_findUp_79 : decode cX9_findUp 79 = .ok (.ifCond .eq 15, 3) := by decide +kernel
theorem dX9_findUp_82 : decode cX9_findUp 82 = .ok (.aload_n 0, 1) := by decide +kernel
theorem dX9_findUp_83 : decode cX9_findUp 83 = .ok (.getfield 29, 3) := by decide +kernel
theorem dX9_findUp_86 : decode cX9_findUp 86 = .ok (.iconst 1, 1) := by decide +kernel
theorem dX9_findUp_87 : decode cX9_findUp 87 = .ok (.iload_n 3, 1) := by decide +kernel
theorem dX9_findUp_88 : decode cX9_findUp 88 = .ok (.iadd, 1) := by decide +kernel
theorem dX9_findUp_89 : decode cX9_findUp 89 = .ok (.iaload, 1) := by decide +kernel
theorem dX9_findUp_90 : decode cX9_findUp 90 = .ok (.iconst 1, 1) := by decide +kernel
theorem dX9_findUp_91 : decode cX9_findUp 91 = .ok (.if_icmp .ne 26, 3) := by decide +kernel
theorem dX9_findUp_94 : decode cX9_findUp 94 = .ok (.iload_n 2, 1) := by decide +kernel
theorem dX9_findUp_95 : decode cX9_findUp 95 = .ok (.aload_n 0, 1) := by decide +kernel
theorem dX9_findUp_96 : decode cX9_findUp 96 = .ok (.getfield 13, 3) := by decide +kernel
theorem dX9_findUp_99 : decode cX9_findUp 99 = .ok (.iconst 5, 1) := by decide +kernel
theorem dX9_findUp_100 : decode cX9_findUp 100 = .ok (.iload_n 3, 1) := by decide +kernel
theorem dX9_findUp_101 : decode cX9_findUp 101 = .ok (.imul, 1) := by decide +kernel
theorem dX9_findUp_102 : decode cX9_findUp 102 = .ok (.iconst 2, 1) := by decide +kernel
theorem dX9_findUp_103 : decode cX9_findUp 103 = .ok (.iadd, 1) := by decide +kernel
theorem dX9_findUp_104 : decode cX9_findUp 104 = .ok (.iaload, 1) := by decide +kernel
theorem dX9_findUp_105 : decode cX9_findUp 105 = .ok (.iadd, 1) := by decide +kernel
theorem dX9_findUp_106 : decode cX9_findUp 106 = .ok (.aload_n 0, 1) := by decide +kernel
theorem dX9_findUp_107 : decode cX9_findUp 107 = .ok (.getfield 19, 3) := by decide +kernel
theorem dX9_findUp_110 : decode cX9_findUp 110 = .ok (.if_icmp .gt 7, 3) := by decide +kernel
theorem dX9_findUp_113 : decode cX9_findUp 113 = .ok (.iconst 1, 1) := by decide +kernel
theorem dX9_findUp_114 : decode cX9_findUp 114 = .ok (.goto 4, 3) := by decide +kernel
theorem dX9_findUp_117 : decode cX9_findUp 117 = .ok (.iconst 0, 1) := by decide +kernel
theorem dX9_findUp_118 : decode cX9_findUp 118 = .ok (.istore 5, 2) := by decide +kernel
theorem dX9_findUp_120 : decode cX9_findUp 120 = .ok (.aload_n 0, 1) := by decide +kernel
theorem dX9_findUp_121 : decode cX9_findUp 121 = .ok (.getfield 29, 3) := by decide +kernel
theorem dX9_findUp_124 : decode cX9_findUp 124 = .ok (.iconst 1, 1) := by decide +kernel
theorem dX9_findUp_125 : decode cX9_findUp 125 = .ok (.iload_n 3, 1) := by decide +kernel
theorem dX9_findUp_126 : decode cX9_findUp 126 = .ok (.iadd, 1) := by decide +kernel
theorem dX9_findUp_127 : decode cX9_findUp 127 = .ok (.iload 5, 2) := by decide +kernel
theorem dX9_findUp_129 : decode cX9_findUp 129 = .ok (.ifCond .eq 7, 3) := by decide +kernel
theorem dX9_findUp_132 : decode cX9_findUp 132 = .ok (.iconst 1, 1) := by decide +kernel
theorem dX9_findUp_133 : decode cX9_findUp 133 = .ok (.goto 4, 3) := by decide +kernel
theorem dX9_findUp_136 : decode cX9_findUp 136 = .ok (.iconst 0, 1) := by decide +kernel
theorem dX9_findUp_137 : decode cX9_findUp 137 = .ok (.iastore, 1) := by decide +kernel
theorem dX9_findUp_138 : decode cX9_findUp 138 = .ok (.iload_n 2, 1) := by decide +kernel
theorem dX9_findUp_139 : decode cX9_findUp 139 = .ok (.iload 5, 2) := by decide +kernel
theorem dX9_findUp_141 : decode cX9_findUp 141 = .ok (.ifCond .eq 16, 3) := by decide +kernel
theorem dX9_findUp_144 : decode cX9_findUp 144 = .ok (.aload_n 0, 1) := by decide +kernel
theorem dX9_findUp_145 : decode cX9_findUp 145 = .ok (.getfield 13, 3) := by decide +kernel
theorem dX9_findUp_148 : decode cX9_findUp 148 = .ok (.iconst 5, 1) := by decide +kernel
theorem dX9_findUp_149 : decode cX9_findUp 149 = .ok (.iload_n 3, 1) := by decide +kernel
theorem dX9_findUp_150 : decode cX9_findUp 150 = .ok (.imul, 1) := by decide +kernel
theorem dX9_findUp_151 : decode cX9_findUp 151 = .ok (.iconst 2, 1) := by decide +kernel
theorem dX9_findUp_152 : decode cX9_findUp 152 = .ok (.iadd, 1) := by decide +kernel
theorem dX9_findUp_153 : decode cX9_findUp 153 = .ok (.iaload, 1) := by decide +kernel
theorem dX9_findUp_154 : decode cX9_findUp 154 = .ok (.goto 4, 3) := by decide +kernel
theorem dX9_findUp_157 : decode cX9_findUp 157 = .ok (.iconst 0, 1) := by decide +kernel
theorem dX9_findUp_158 : decode cX9_findUp 158 = .ok (.iadd, 1) := by decide +kernel
theorem dX9_findUp_159 : decode cX9_findUp 159 = .ok (.istore_n 2, 1) := by decide +kernel
theorem dX9_findUp_160 : decode cX9_findUp 160 = .ok (.iinc 3 1, 3) := by decide +kernel
theorem dX9_findUp_163 : decode cX9_findUp 163 = .ok (.goto (-159), 3) := by decide +kernel
theorem dX9_findUp_166 : decode cX9_findUp 166 = .ok (.iconst 0, 1) := by decide +kernel
theorem dX9_findUp_167 : decode cX9_findUp 167 = .ok (.istore_n 3, 1) := by decide +kernel
theorem dX9_findUp_168 : decode cX9_findUp 168 = .ok (.iload_n 3, 1) := by decide +kernel
theorem dX9_findUp_169 : decode cX9_findUp 169 = .ok (.bipush 6, 2) := by decide +kernel
theorem dX9_findUp_171 : decode cX9_findUp 171 = .ok (.if_icmp .ge 124, 3) := by decide +kernel
theorem dX9_findUp_174 : decode cX9_findUp 174 = .ok (.iload_n 3, 1) := by decide +kernel
theorem dX9_findUp_175 : decode cX9_findUp 175 = .ok (.iconst 1, 1) := by decide +kernel
theorem dX9_findUp_176 : decode cX9_findUp 176 = .ok (.iadd, 1) := by decide +kernel
theorem dX9_findUp_177 : decode cX9_findUp 177 = .ok (.istore 4, 2) := by decide +kernel
theorem dX9_findUp_179 : decode cX9_findUp 179 = .ok (.iload 4, 2) := by decide +kernel
theorem dX9_findUp_181 : decode cX9_findUp 181 = .ok (.bipush 6, 2) := by decide +kernel
theorem dX9_findUp_183 : decode cX9_findUp 183 = .ok (.if_icmp .ge 106, 3) := by decide +kernel
theorem dX9_findUp_186 : decode cX9_findUp 186 = .ok (.aload_n 0, 1) := by decide +kernel
theorem dX9_findUp_187 : decode cX9_findUp 187 = .ok (.getfield 29, 3) := by decide +kernel
theorem dX9_findUp_190 : decode cX9_findUp 190 = .ok (.bipush 7, 2) := by decide +kernel
theorem dX9_findUp_192 : decode cX9_findUp 192 = .ok (.iload_n 3, 1) := by decide +kernel
theorem dX9_findUp_193 : decode cX9_findUp 193 = .ok (.iadd, 1) := by decide +kernel
theorem dX9_findUp_194 : decode cX9_findUp 194 = .ok (.iaload, 1) := by decide +kernel
theorem dX9_findUp_195 : decode cX9_findUp 195 = .ok (.istore 5, 2) := by decide +kernel
theorem dX9_findUp_197 : decode cX9_findUp 197 = .ok (.aload_n 0, 1) := by decide +kernel
theorem dX9_findUp_198 : decode cX9_findUp 198 = .ok (.getfield 29, 3) := by decide +kernel
theorem dX9_findUp_201 : decode cX9_findUp 201 = .ok (.iconst 1, 1) := by decide +kernel
theorem dX9_findUp_202 : decode cX9_findUp 202 = .ok (.iload_n 3, 1) := by decide +kernel
theorem dX9_findUp_203 : decode cX9_findUp 203 = .ok (.iadd, 1) := by decide +kernel
theorem dX9_findUp_204 : decode cX9_findUp 204 = .ok (.iaload, 1) := by decide +kernel
theorem dX9_findUp_205 : decode cX9_findUp 205 = .ok (.iconst 1, 1) := by decide +kernel
theorem dX9_findUp_206 : decode cX9_findUp 206 = .ok (.if_icmp .ne 77, 3) := by decide +kernel
theorem dX9_findUp_209 : decode cX9_findUp 209 = .ok (.aload_n 0, 1) := by decide +kernel
theorem dX9_findUp_210 : decode cX9_findUp 210 = .ok (.getfield 29, 3) := by decide +kernel
theorem dX9_findUp_213 : decode cX9_findUp 213 = .ok (.iconst 1, 1) := by decide +kernel
theorem dX9_findUp_214 : decode cX9_findUp 214 = .ok (.iload 4, 2) := by decide +kernel
theorem dX9_findUp_216 : decode cX9_findUp 216 = .ok (.iadd, 1) := by decide +kernel
theorem dX9_findUp_217 : decode cX9_findUp 217 = .ok (.iaload, 1) := by decide +kernel
theorem dX9_findUp_218 : decode cX9_findUp 218 = .ok (.iconst 1, 1) := by decide +kernel
theorem dX9_findUp_219 : decode cX9_findUp 219 = .ok (.if_icmp .ne 64, 3) := by decide +kernel
theorem dX9_findUp_222 : decode cX9_findUp 222 = .ok (.iload 5, 2) := by decide +kernel
theorem dX9_findUp_224 : decode cX9_findUp 224 = .ok (.aload_n 0, 1) := by decide +kernel
theorem dX9_findUp_225 : decode cX9_findUp 225 = .ok (.getfield 29, 3) := by decide +kernel
theorem dX9_findUp_228 : decode cX9_findUp 228 = .ok (.bipush 7, 2) := by decide +kernel
theorem dX9_findUp_230 : decode cX9_findUp 230 = .ok (.iload 4, 2) := by decide +kernel
theorem dX9_findUp_232 : decode cX9_findUp 232 = .ok (.iadd, 1) := by decide +kernel
theorem dX9_findUp_233 : decode cX9_findUp 233 = .ok (.iaload, 1) := by decide +kernel
theorem dX9_findUp_234 : decode cX9_findUp 234 = .ok (.if_icmp .ne 49, 3) := by decide +kernel
theorem dX9_findUp_237 : decode cX9_findUp 237 = .ok (.aload_n 0, 1) := by decide +kernel
theorem dX9_findUp_238 : decode cX9_findUp 238 = .ok (.iload_n 3, 1) := by decide +kernel
theorem dX9_findUp_239 : decode cX9_findUp 239 = .ok (.iload 4, 2) := by decide +kernel
theorem dX9_findUp_241 : decode cX9_findUp 241 = .ok (.iload 5, 2) := by decide +kernel
theorem dX9_findUp_243 : decode cX9_findUp 243 = .ok (.iload_n 1, 1) := by decide +kernel
theorem dX9_findUp_244 : decode cX9_findUp 244 = .ok (.invokevirtual 188, 3) := by decide +kernel
theorem dX9_findUp_247 : decode cX9_findUp 247 = .ok (.ifCond .eq 36, 3) := by decide +kernel
theorem dX9_findUp_250 : decode cX9_findUp 250 = .ok (.aload_n 0, 1) := by decide +kernel
theorem dX9_findUp_251 : decode cX9_findUp 251 = .ok (.iload_n 3, 1) := by decide +kernel
theorem dX9_findUp_252 : decode cX9_findUp 252 = .ok (.iload 4, 2) := by decide +kernel
theorem dX9_findUp_254 : decode cX9_findUp 254 = .ok (.invokevirtual 192, 3) := by decide +kernel
theorem dX9_findUp_257 : decode cX9_findUp 257 = .ok (.istore 6, 2) := by decide +kernel
theorem dX9_findUp_259 : decode cX9_findUp 259 = .ok (.aload_n 0, 1) := by decide +kernel
theorem dX9_findUp_260 : decode cX9_findUp 260 = .ok (.getfield 29, 3) := by decide +kernel
theorem dX9_findUp_263 : decode cX9_findUp 263 = .ok (.iconst 1, 1) := by decide +kernel
theorem dX9_findUp_264 : decode cX9_findUp 264 = .ok (.iload 6, 2) := by decide +kernel
theorem dX9_findUp_266 : decode cX9_findUp 266 = .ok (.iadd, 1) := by decide +kernel
theorem dX9_findUp_267 : decode cX9_findUp 267 = .ok (.iconst 0, 1) := by decide +kernel
theorem dX9_findUp_268 : decode cX9_findUp 268 = .ok (.iastore, 1) := by decide +kernel
theorem dX9_findUp_269 : decode cX9_findUp 269 = .ok (.aload_n 0, 1) := by decide +kernel
theorem dX9_findUp_270 : decode cX9_findUp 270 = .ok (.getfield 29, 3) := by decide +kernel
theorem dX9_findUp_273 : decode cX9_findUp 273 = .ok (.bipush 25, 2) := by decide +kernel
theorem dX9_findUp_275 : decode cX9_findUp 275 = .ok (.iload 6, 2) := by decide +kernel
theorem dX9_findUp_277 : decode cX9_findUp 277 = .ok (.iadd, 1) := by decide +kernel
theorem dX9_findUp_278 : decode cX9_findUp 278 = .ok (.dup2, 1) := by decide +kernel
theorem dX9_findUp_279 : decode cX9_findUp 279 = .ok (.iaload, 1) := by decide +kernel
theorem dX9_findUp_280 : decode cX9_findUp 280 = .ok (.iconst 1, 1) := by decide +kernel
theorem dX9_findUp_281 : decode cX9_findUp 281 = .ok (.iadd, 1) := by decide +kernel
theorem dX9_findUp_282 : decode cX9_findUp 282 = .ok (.iastore, 1) := by decide +kernel
theorem dX9_findUp_283 : decode cX9_findUp 283 = .ok (.iinc 4 1, 3) := by decide +kernel
theorem dX9_findUp_286 : decode cX9_findUp 286 = .ok (.goto (-107), 3) := by decide +kernel
theorem dX9_findUp_289 : decode cX9_findUp 289 = .ok (.iinc 3 1, 3) := by decide +kernel
theorem dX9_findUp_292 : decode cX9_findUp 292 = .ok (.goto (-124), 3) := by decide +kernel
theorem dX9_findUp_295 : decode cX9_findUp 295 = .ok (.return_, 1) := by decide +kernel
theorem dX9_take_0 : decode cX9_take 0 = .ok (.iconst 3, 1) := by decide +kernel
theorem dX9_take_1 : decode cX9_take 1 = .ok (.aload_n 0, 1) := by decide +kernel
theorem dX9_take_2 : decode cX9_take 2 = .ok (.getfield 13, 3) := by decide +kernel
theorem dX9_take_5 : decode cX9_take 5 = .ok (.iconst 5, 1) := by decide +kernel
theorem dX9_take_6 : decode cX9_take 6 = .ok (.iload_n 1, 1) := by decide +kernel
theorem dX9_take_7 : decode cX9_take 7 = .ok (.imul, 1) := by decide +kernel
theorem dX9_take_8 : decode cX9_take 8 = .ok (.iconst 3, 1) := by decide +kernel
theorem dX9_take_9 : decode cX9_take 9 = .ok (.iadd, 1) := by decide +kernel
theorem dX9_take_10 : decode cX9_take 10 = .ok (.iaload, 1) := by decide +kernel
theorem dX9_take_11 : decode cX9_take 11 = .ok (.imul, 1) := by decide +kernel
theorem dX9_take_12 : decode cX9_take 12 = .ok (.istore_n 3, 1) := by decide +kernel
theorem dX9_take_13 : decode cX9_take 13 = .ok (.iconst 0, 1) := by decide +kernel
theorem dX9_take_14 : decode cX9_take 14 = .ok (.istore 4, 2) := by decide +kernel
theorem dX9_take_16 : decode cX9_take 16 = .ok (.iconst 0, 1) := by decide +kernel
theorem dX9_take_17 : decode cX9_take 17 = .ok (.istore 5, 2) := by decide +kernel
theorem dX9_take_19 : decode cX9_take 19 = .ok (.iload 5, 2) := by decide +kernel
theorem dX9_take_21 : decode cX9_take 21 = .ok (.iconst 4, 1) := by decide +kernel
theorem dX9_take_22 : decode cX9_take 22 = .ok (.if_icmp .ge 219, 3) := by decide +kernel
theorem dX9_take_25 : decode cX9_take 25 = .ok (.aload_n 0, 1) := by decide +kernel
theorem dX9_take_26 : decode cX9_take 26 = .ok (.getfield 149, 3) := by decide +kernel
theorem dX9_take_29 : decode cX9_take 29 = .ok (.iload 5, 2) := by decide +kernel
theorem dX9_take_31 : decode cX9_take 31 = .ok (.invokestatic 52, 3) := by decide +kernel
theorem dX9_take_34 : decode cX9_take 34 = .ok (.ifCond .eq 62, 3) := by decide +kernel
theorem dX9_take_37 : decode cX9_take 37 = .ok (.aload_n 0, 1) := by decide +kernel
theorem dX9_take_38 : decode cX9_take 38 = .ok (.getfield 29, 3) := by decide +kernel
theorem dX9_take_41 : decode cX9_take 41 = .ok (.bipush 31, 2) := by decide +kernel
theorem dX9_take_43 : decode cX9_take 43 = .ok (.iload 5, 2) := by decide +kernel
theorem dX9_take_45 : decode cX9_take 45 = .ok (.iadd, 1) := by decide +kernel
theorem dX9_take_46 : decode cX9_take 46 = .ok (.iaload, 1) := by decide +kernel
theorem dX9_take_47 : decode cX9_take 47 = .ok (.aload_n 0, 1) := by decide +kernel
theorem dX9_take_48 : decode cX9_take 48 = .ok (.iload_n 1, 1) := by decide +kernel
theorem dX9_take_49 : decode cX9_take 49 = .ok (.aload_n 0, 1) := by decide +kernel
theorem dX9_take_50 : decode cX9_take 50 = .ok (.getfield 29, 3) := by decide +kernel
theorem dX9_take_53 : decode cX9_take 53 = .ok (.bipush 7, 2) := by decide +kernel
theorem dX9_take_55 : decode cX9_take 55 = .ok (.iload_n 1, 1) := by decide +kernel
theorem dX9_take_56 : decode cX9_take 56 = .ok (.iadd, 1) := by decide +kernel
theorem dX9_take_57 : decode cX9_take 57 = .ok (.iaload, 1) := by decide +kernel
theorem dX9_take_58 : decode cX9_take 58 = .ok (.iload_n 2, 1) := by decide +kernel
theorem dX9_take_59 : decode cX9_take 59 = .ok (.invokevirtual 174, 3) := by decide +kernel
theorem dX9_take_62 : decode cX9_take 62 = .ok (.if_icmp .ne 34, 3) := by decide +kernel
theorem dX9_take_65 : decode cX9_take 65 = .ok (.aload_n 0, 1) := by decide +kernel
theorem dX9_take_66 : decode cX9_take 66 = .ok (.getfield 29, 3) := by decide +kernel
theorem dX9_take_69 : decode cX9_take 69 = .ok (.bipush 35, 2) := by decide +kernel
theorem dX9_take_71 : decode cX9_take 71 = .ok (.iload 5, 2) := by decide +kernel
theorem dX9_take_73 : decode cX9_take 73 = .ok (.iadd, 1) := by decide +kernel
theorem dX9_take_74 : decode cX9_take 74 = .ok (.iaload, 1) := by decide +kernel
theorem dX9_take_75 : decode cX9_take 75 = .ok (.aload_n 0, 1) := by decide +kernel
theorem dX9_take_76 : decode cX9_take 76 = .ok (.iload_n 1, 1) := by decide +kernel
theorem dX9_take_77 : decode cX9_take 77 = .ok (.aload_n 0, 1) := by decide +kernel
theorem dX9_take_78 : decode cX9_take 78 = .ok (.getfield 29, 3) := by decide +kernel
theorem dX9_take_81 : decode cX9_take 81 = .ok (.bipush 7, 2) := by decide +kernel
theorem dX9_take_83 : decode cX9_take 83 = .ok (.iload_n 1, 1) := by decide +kernel
theorem dX9_take_84 : decode cX9_take 84 = .ok (.iadd, 1) := by decide +kernel
theorem dX9_take_85 : decode cX9_take 85 = .ok (.iaload, 1) := by decide +kernel
theorem dX9_take_86 : decode cX9_take 86 = .ok (.invokevirtual 178, 3) := by decide +kernel
theorem dX9_take_89 : decode cX9_take 89 = .ok (.if_icmp .ne 7, 3) := by decide +kernel
theorem dX9_take_92 : decode cX9_take 92 = .ok (.iconst 1, 1) := by decide +kernel
theorem dX9_take_93 : decode cX9_take 93 = .ok (.goto 4, 3) := by decide +kernel
theorem dX9_take_96 : decode cX9_take 96 = .ok (.iconst 0, 1) := by decide +kernel
theorem dX9_take_97 : decode cX9_take 97 = .ok (.istore 6, 2) := by decide +kernel
theorem dX9_take_99 : decode cX9_take 99 = .ok (.iload 6, 2) := by decide +kernel
theorem dX9_take_101 : decode cX9_take 101 = .ok (.ifCond .ne 7, 3) := by decide +kernel
theorem dX9_take_104 : decode cX9_take 104 = .ok (.iconst 0, 1) := by decide +kernel
theorem dX9_take_105 : decode cX9_take 105 = .ok (.goto 31, 3) := by decide +kernel
theorem dX9_take_108 : decode cX9_take 108 = .ok (.aload_n 0, 1) := by decide +kernel
theorem dX9_take_109 : decode cX9_take 109 = .ok (.getfield 29, 3) := by decide +kernel
theorem dX9_take_112 : decode cX9_take 112 = .ok (.bipush 39, 2) := by decide +kernel
theorem dX9_take_114 : decode cX9_take 114 = .ok (.iload 5, 2) := by decide +kernel
theorem dX9_take_116 : decode cX9_take 116 = .ok (.iadd, 1) := by decide +kernel
theorem dX9_take_117 : decode cX9_take 117 = .ok (.iaload, 1) := by decide +kernel
theorem dX9_take_118 : decode cX9_take 118 = .ok (.iload_n 3, 1) := by decide +kernel
theorem dX9_take_119 : decode cX9_take 119 = .ok (.if_icmp .ge 16, 3) := by decide +kernel
theorem dX9_take_122 : decode cX9_take 122 = .ok (.aload_n 0, 1) := by decide +kernel
theorem dX9_take_123 : decode cX9_take 123 = .ok (.getfield 29, 3) := by decide +kernel
theorem dX9_take_126 : decode cX9_take 126 = .ok (.bipush 39, 2) := by decide +kernel
theorem dX9_take_128 : decode cX9_take 128 = .ok (.iload 5, 2) := by decide +kernel
theorem dX9_take_130 : decode cX9_take 130 = .ok (.iadd, 1) := by decide +kernel
theorem dX9_take_131 : decode cX9_take 131 = .ok (.iaload, 1) := by decide +kernel
theorem dX9_take_132 : decode cX9_take 132 = .ok (.goto 4, 3) := by decide +kernel
theorem dX9_take_135 : decode cX9_take 135 = .ok (.iload_n 3, 1) := by decide +kernel
theorem dX9_take_136 : decode cX9_take 136 = .ok (.istore 7, 2) := by decide +kernel
theorem dX9_take_138 : decode cX9_take 138 = .ok (.iload 7, 2) := by decide +kernel
theorem dX9_take_140 : decode cX9_take 140 = .ok (.ifCond .le 95, 3) := by decide +kernel
theorem dX9_take_143 : decode cX9_take 143 = .ok (.bipush 45, 2) := by decide +kernel
theorem dX9_take_145 : decode cX9_take 145 = .ok (.iconst 4, 1) := by decide +kernel
theorem dX9_take_146 : decode cX9_take 146 = .ok (.aload_n 0, 1) := by decide +kernel
theorem dX9_take_147 : decode cX9_take 147 = .ok (.getfield 29, 3) := by decide +kernel
theorem dX9_take_150 : decode cX9_take 150 = .ok (.bipush 44, 2) := by decide +kernel
theorem dX9_take_152 : decode cX9_take 152 = .ok (.iaload, 1) := by decide +kernel
theorem dX9_take_153 : decode cX9_take 153 = .ok (.imul, 1) := by decide +kernel
theorem dX9_take_154 : decode cX9_take 154 = .ok (.iadd, 1) := by decide +kernel
theorem dX9_take_155 : decode cX9_take 155 = .ok (.istore 8, 2) := by decide +kernel
theorem dX9_take_157 : decode cX9_take 157 = .ok (.aload_n 0, 1) := by decide +kernel
theorem dX9_take_158 : decode cX9_take 158 = .ok (.getfield 29, 3) := by decide +kernel
theorem dX9_take_161 : decode cX9_take 161 = .ok (.iload 8, 2) := by decide +kernel
theorem dX9_take_163 : decode cX9_take 163 = .ok (.iload_n 1, 1) := by decide +kernel
theorem dX9_take_164 : decode cX9_take 164 = .ok (.iastore, 1) := by decide +kernel
theorem dX9_take_165 : decode cX9_take 165 = .ok (.aload_n 0, 1) := by decide +kernel
theorem dX9_take_166 : decode cX9_take 166 = .ok (.getfield 29, 3) := by decide +kernel
theorem dX9_take_169 : decode cX9_take 169 = .ok (.iload 8, 2) := by decide +kernel
theorem dX9_take_171 : decode cX9_take 171 = .ok (.iconst 1, 1) := by decide +kernel
theorem dX9_take_172 : decode cX9_take 172 = .ok (.iadd, 1) := by decide +kernel
theorem dX9_take_173 : decode cX9_take 173 = .ok (.iload 5, 2) := by decide +kernel
theorem dX9_take_175 : decode cX9_take 175 = .ok (.iastore, 1) := by decide +kernel
theorem dX9_take_176 : decode cX9_take 176 = .ok (.aload_n 0, 1) := by decide +kernel
theorem dX9_take_177 : decode cX9_take 177 = .ok (.getfield 29, 3) := by decide +kernel
theorem dX9_take_180 : decode cX9_take 180 = .ok (.iload 8, 2) := by decide +kernel
theorem dX9_take_182 : decode cX9_take 182 = .ok (.iconst 2, 1) := by decide +kernel
theorem dX9_take_183 : decode cX9_take 183 = .ok (.iadd, 1) := by decide +kernel
theorem dX9_take_184 : decode cX9_take 184 = .ok (.iload_n 2, 1) := by decide +kernel
theorem dX9_take_185 : decode cX9_take 185 = .ok (.iastore, 1) := by decide +kernel
theorem dX9_take_186 : decode cX9_take 186 = .ok (.aload_n 0, 1) := by decide +kernel
theorem dX9_take_187 : decode cX9_take 187 = .ok (.getfield 29, 3) := by decide +kernel
theorem dX9_take_190 : decode cX9_take 190 = .ok (.iload 8, 2) := by decide +kernel
theorem dX9_take_192 : decode cX9_take 192 = .ok (.iconst 3, 1) := by decide +kernel
theorem dX9_take_193 : decode cX9_take 193 = .ok (.iadd, 1) := by decide +kernel
theorem dX9_take_194 : decode cX9_take 194 = .ok (.iload 7, 2) := by decide +kernel
theorem dX9_take_196 : decode cX9_take 196 = .ok (.iastore, 1) := by decide +kernel
theorem dX9_take_197 : decode cX9_take 197 = .ok (.aload_n 0, 1) := by decide +kernel
theorem dX9_take_198 : decode cX9_take 198 = .ok (.getfield 29, 3) := by decide +kernel
theorem dX9_take_201 : decode cX9_take 201 = .ok (.bipush 44, 2) := by decide +kernel
theorem dX9_take_203 : decode cX9_take 203 = .ok (.dup2, 1) := by decide +kernel
theorem dX9_take_204 : decode cX9_take 204 = .ok (.iaload, 1) := by decide +kernel
theorem dX9_take_205 : decode cX9_take 205 = .ok (.iconst 1, 1) := by decide +kernel
theorem dX9_take_206 : decode cX9_take 206 = .ok (.iadd, 1) := by decide +kernel
theorem dX9_take_207 : decode cX9_take 207 = .ok (.iastore, 1) := by decide +kernel
theorem dX9_take_208 : decode cX9_take 208 = .ok (.aload_n 0, 1) := by decide +kernel
theorem dX9_take_209 : decode cX9_take 209 = .ok (.getfield 29, 3) := by decide +kernel
theorem dX9_take_212 : decode cX9_take 212 = .ok (.bipush 39, 2) := by decide +kernel
theorem dX9_take_214 : decode cX9_take 214 = .ok (.iload 5, 2) := by decide +kernel
theorem dX9_take_216 : decode cX9_take 216 = .ok (.iadd, 1) := by decide +kernel
theorem dX9_take_217 : decode cX9_take 217 = .ok (.dup2, 1) := by decide +kernel
theorem dX9_take_218 : decode cX9_take 218 = .ok (.iaload, 1) := by decide +kernel
theorem dX9_take_219 : decode cX9_take 219 = .ok (.iload 7, 2) := by decide +kernel
theorem dX9_take_221 : decode cX9_take 221 = .ok (.isub, 1) := by decide +kernel
theorem dX9_take_222 : decode cX9_take 222 = .ok (.iastore, 1) := by decide +kernel
theorem dX9_take_223 : decode cX9_take 223 = .ok (.iload_n 3, 1) := by decide +kernel
theorem dX9_take_224 : decode cX9_take 224 = .ok (.iload 7, 2) := by decide +kernel
theorem dX9_take_226 : decode cX9_take 226 = .ok (.isub, 1) := by decide +kernel
theorem dX9_take_227 : decode cX9_take 227 = .ok (.istore_n 3, 1) := by decide +kernel
theorem dX9_take_228 : decode cX9_take 228 = .ok (.iload 4, 2) := by decide +kernel
theorem dX9_take_230 : decode cX9_take 230 = .ok (.iload 7, 2) := by decide +kernel
theorem dX9_take_232 : decode cX9_take 232 = .ok (.iadd, 1) := by decide +kernel
theorem dX9_take_233 : decode cX9_take 233 = .ok (.istore 4, 2) := by decide +kernel
theorem dX9_take_235 : decode cX9_take 235 = .ok (.iinc 5 1, 3) := by decide +kernel
theorem dX9_take_238 : decode cX9_take 238 = .ok (.goto (-219), 3) := by decide +kernel
theorem dX9_take_241 : decode cX9_take 241 = .ok (.aload_n 0, 1) := by decide +kernel
theorem dX9_take_242 : decode cX9_take 242 = .ok (.getfield 146, 3) := by decide +kernel
theorem dX9_take_245 : decode cX9_take 245 = .ok (.ifCond .ne 7, 3) := by decide +kernel
theorem dX9_take_248 : decode cX9_take 248 = .ok (.iconst 0, 1) := by decide +kernel
theorem dX9_take_249 : decode cX9_take 249 = .ok (.goto 10, 3) := by decide +kernel
theorem dX9_take_252 : decode cX9_take 252 = .ok (.iload 4, 2) := by decide +kernel
theorem dX9_take_254 : decode cX9_take 254 = .ok (.aload_n 0, 1) := by decide +kernel
theorem dX9_take_255 : decode cX9_take 255 = .ok (.getfield 146, 3) := by decide +kernel
theorem dX9_take_258 : decode cX9_take 258 = .ok (.idiv, 1) := by decide +kernel
theorem dX9_take_259 : decode cX9_take 259 = .ok (.istore 5, 2) := by decide +kernel
theorem dX9_take_261 : decode cX9_take 261 = .ok (.aload_n 0, 1) := by decide +kernel
theorem dX9_take_262 : decode cX9_take 262 = .ok (.getfield 29, 3) := by decide +kernel
theorem dX9_take_265 : decode cX9_take 265 = .ok (.bipush 43, 2) := by decide +kernel
theorem dX9_take_267 : decode cX9_take 267 = .ok (.dup2, 1) := by decide +kernel
theorem dX9_take_268 : decode cX9_take 268 = .ok (.iaload, 1) := by decide +kernel
theorem dX9_take_269 : decode cX9_take 269 = .ok (.iload 5, 2) := by decide +kernel
theorem dX9_take_271 : decode cX9_take 271 = .ok (.iadd, 1) := by decide +kernel
theorem dX9_take_272 : decode cX9_take 272 = .ok (.iastore, 1) := by decide +kernel
theorem dX9_take_273 : decode cX9_take 273 = .ok (.aload_n 0, 1) := by decide +kernel
theorem dX9_take_274 : decode cX9_take 274 = .ok (.getfield 29, 3) := by decide +kernel
theorem dX9_take_277 : decode cX9_take 277 = .ok (.bipush 13, 2) := by decide +kernel
theorem dX9_take_279 : decode cX9_take 279 = .ok (.iload_n 1, 1) := by decide +kernel
theorem dX9_take_280 : decode cX9_take 280 = .ok (.iadd, 1) := by decide +kernel
theorem dX9_take_281 : decode cX9_take 281 = .ok (.dup2, 1) := by decide +kernel
theorem dX9_take_282 : decode cX9_take 282 = .ok (.iaload, 1) := by decide +kernel
theorem dX9_take_283 : decode cX9_take 283 = .ok (.iload 4, 2) := by decide +kernel
theorem dX9_take_285 : decode cX9_take 285 = .ok (.iload 5, 2) := by decide +kernel
theorem dX9_take_287 : decode cX9_take 287 = .ok (.isub, 1) := by decide +kernel
theorem dX9_take_288 : decode cX9_take 288 = .ok (.iadd, 1) := by decide +kernel
theorem dX9_take_289 : decode cX9_take 289 = .ok (.iastore, 1) := by decide +kernel
theorem dX9_take_290 : decode cX9_take 290 = .ok (.return_, 1) := by decide +kernel
theorem dX9_goHour_0 : decode cX9_goHour 0 = .ok (.aload_n 0, 1) := by decide +kernel
theorem dX9_goHour_1 : decode cX9_goHour 1 = .ok (.getfield 29, 3) := by decide +kernel
theorem dX9_goHour_4 : decode cX9_goHour 4 = .ok (.iconst 0, 1) := by decide +kernel
theorem dX9_goHour_5 : decode cX9_goHour 5 = .ok (.iaload, 1) := by decide +kernel
theorem dX9_goHour_6 : decode cX9_goHour 6 = .ok (.istore_n 1, 1) := by decide +kernel
theorem dX9_goHour_7 : decode cX9_goHour 7 = .ok (.aload_n 0, 1) := by decide +kernel
theorem dX9_goHour_8 : decode cX9_goHour 8 = .ok (.iload_n 1, 1) := by decide +kernel
theorem dX9_goHour_9 : decode cX9_goHour 9 = .ok (.invokevirtual 195, 3) := by decide +kernel
theorem dX9_goHour_12 : decode cX9_goHour 12 = .ok (.iconst 0, 1) := by decide +kernel
theorem dX9_goHour_13 : decode cX9_goHour 13 = .ok (.istore_n 2, 1) := by decide +kernel
theorem dX9_goHour_14 : decode cX9_goHour 14 = .ok (.iload_n 2, 1) := by decide +kernel
theorem dX9_goHour_15 : decode cX9_goHour 15 = .ok (.bipush 6, 2) := by decide +kernel
theorem dX9_goHour_17 : decode cX9_goHour 17 = .ok (.if_icmp .ge 40, 3) := by decide +kernel
theorem dX9_goHour_20 : decode cX9_goHour 20 = .ok (.aload_n 0, 1) := by decide +kernel
theorem dX9_goHour_21 : decode cX9_goHour 21 = .ok (.getfield 29, 3) := by decide +kernel
theorem dX9_goHour_24 : decode cX9_goHour 24 = .ok (.iconst 1, 1) := by decide +kernel
theorem dX9_goHour_25 : decode cX9_goHour 25 = .ok (.iload_n 2, 1) := by decide +kernel
theorem dX9_goHour_26 : decode cX9_goHour 26 = .ok (.iadd, 1) := by decide +kernel
theorem dX9_goHour_27 : decode cX9_goHour 27 = .ok (.iaload, 1) := by decide +kernel
theorem dX9_goHour_28 : decode cX9_goHour 28 = .ok (.iconst 1, 1) := by decide +kernel
theorem dX9_goHour_29 : decode cX9_goHour 29 = .ok (.if_icmp .ne 22, 3) := by decide +kernel
theorem dX9_goHour_32 : decode cX9_goHour 32 = .ok (.aload_n 0, 1) := by decide +kernel
theorem dX9_goHour_33 : decode cX9_goHour 33 = .ok (.getfield 29, 3) := by decide +kernel
theorem dX9_goHour_36 : decode cX9_goHour 36 = .ok (.bipush 19, 2) := by decide +kernel
theorem dX9_goHour_38 : decode cX9_goHour 38 = .ok (.iload_n 2, 1) := by decide +kernel
theorem dX9_goHour_39 : decode cX9_goHour 39 = .ok (.iadd, 1) := by decide +kernel
theorem dX9_goHour_40 : decode cX9_goHour 40 = .ok (.dup2, 1) := by decide +kernel
theorem dX9_goHour_41 : decode cX9_goHour 41 = .ok (.iaload, 1) := by decide +kernel
theorem dX9_goHour_42 : decode cX9_goHour 42 = .ok (.iconst 1, 1) := by decide +kernel
theorem dX9_goHour_43 : decode cX9_goHour 43 = .ok (.iadd, 1) := by decide +kernel
theorem dX9_goHour_44 : decode cX9_goHour 44 = .ok (.iastore, 1) := by decide +kernel
theorem dX9_goHour_45 : decode cX9_goHour 45 = .ok (.aload_n 0, 1) := by decide +kernel
theorem dX9_goHour_46 : decode cX9_goHour 46 = .ok (.iload_n 2, 1) := by decide +kernel
theorem dX9_goHour_47 : decode cX9_goHour 47 = .ok (.iload_n 1, 1) := by decide +kernel
theorem dX9_goHour_48 : decode cX9_goHour 48 = .ok (.invokevirtual 198, 3) := by decide +kernel
theorem dX9_goHour_51 : decode cX9_goHour 51 = .ok (.iinc 2 1, 3) := by decide +kernel
theorem dX9_goHour_54 : decode cX9_goHour 54 = .ok (.goto (-40), 3) := by decide +kernel
theorem dX9_goHour_57 : decode cX9_goHour 57 = .ok (.iconst 0, 1) := by decide +kernel
theorem dX9_goHour_58 : decode cX9_goHour 58 = .ok (.istore_n 2, 1) := by decide +kernel
theorem dX9_goHour_59 : decode cX9_goHour 59 = .ok (.iload_n 2, 1) := by decide +kernel
theorem dX9_goHour_60 : decode cX9_goHour 60 = .ok (.iconst 4, 1) := by decide +kernel
theorem dX9_goHour_61 : decode cX9_goHour 61 = .ok (.if_icmp .ge 53, 3) := by decide +kernel
theorem dX9_goHour_64 : decode cX9_goHour 64 = .ok (.aload_n 0, 1) := by decide +kernel
theorem dX9_goHour_65 : decode cX9_goHour 65 = .ok (.getfield 29, 3) := by decide +kernel
theorem dX9_goHour_68 : decode cX9_goHour 68 = .ok (.bipush 31, 2) := by decide +kernel
theorem dX9_goHour_70 : decode cX9_goHour 70 = .ok (.iload_n 2, 1) := by decide +kernel
theorem dX9_goHour_71 : decode cX9_goHour 71 = .ok (.iadd, 1) := by decide +kernel
theorem dX9_goHour_72 : decode cX9_goHour 72 = .ok (.dup2, 1) := by decide +kernel
theorem dX9_goHour_73 : decode cX9_goHour 73 = .ok (.iaload, 1) := by decide +kernel
theorem dX9_goHour_74 : decode cX9_goHour 74 = .ok (.aload_n 0, 1) := by decide +kernel
theorem dX9_goHour_75 : decode cX9_goHour 75 = .ok (.getfield 16, 3) := by decide +kernel
theorem dX9_goHour_78 : decode cX9_goHour 78 = .ok (.iconst 5, 1) := by decide +kernel
theorem dX9_goHour_79 : decode cX9_goHour 79 = .ok (.iload_n 2, 1) := by decide +kernel
theorem dX9_goHour_80 : decode cX9_goHour 80 = .ok (.imul, 1) := by decide +kernel
theorem dX9_goHour_81 : decode cX9_goHour 81 = .ok (.iconst 2, 1) := by decide +kernel
theorem dX9_goHour_82 : decode cX9_goHour 82 = .ok (.iadd, 1) := by decide +kernel
theorem dX9_goHour_83 : decode cX9_goHour 83 = .ok (.iaload, 1) := by decide +kernel
theorem dX9_goHour_84 : decode cX9_goHour 84 = .ok (.iadd, 1) := by decide +kernel
theorem dX9_goHour_85 : decode cX9_goHour 85 = .ok (.iastore, 1) := by decide +kernel
theorem dX9_goHour_86 : decode cX9_goHour 86 = .ok (.aload_n 0, 1) := by decide +kernel
theorem dX9_goHour_87 : decode cX9_goHour 87 = .ok (.getfield 29, 3) := by decide +kernel
theorem dX9_goHour_90 : decode cX9_goHour 90 = .ok (.bipush 35, 2) := by decide +kernel
theorem dX9_goHour_92 : decode cX9_goHour 92 = .ok (.iload_n 2, 1) := by decide +kernel
theorem dX9_goHour_93 : decode cX9_goHour 93 = .ok (.iadd, 1) := by decide +kernel
theorem dX9_goHour_94 : decode cX9_goHour 94 = .ok (.dup2, 1) := by decide +kernel
theorem dX9_goHour_95 : decode cX9_goHour 95 = .ok (.iaload, 1) := by decide +kernel
theorem dX9_goHour_96 : decode cX9_goHour 96 = .ok (.aload_n 0, 1) := by decide +kernel
theorem dX9_goHour_97 : decode cX9_goHour 97 = .ok (.getfield 16, 3) := by decide +kernel
theorem dX9_goHour_100 : decode cX9_goHour 100 = .ok (.iconst 5, 1) := by decide +kernel
theorem dX9_goHour_101 : decode cX9_goHour 101 = .ok (.iload_n 2, 1) := by decide +kernel
theorem dX9_goHour_102 : decode cX9_goHour 102 = .ok (.imul, 1) := by decide +kernel
theorem dX9_goHour_103 : decode cX9_goHour 103 = .ok (.iconst 3, 1) := by decide +kernel
theorem dX9_goHour_104 : decode cX9_goHour 104 = .ok (.iadd, 1) := by decide +kernel
theorem dX9_goHour_105 : decode cX9_goHour 105 = .ok (.iaload, 1) := by decide +kernel
theorem dX9_goHour_106 : decode cX9_goHour 106 = .ok (.iadd, 1) := by decide +kernel
theorem dX9_goHour_107 : decode cX9_goHour 107 = .ok (.iastore, 1) := by decide +kernel
theorem dX9_goHour_108 : decode cX9_goHour 108 = .ok (.iinc 2 1, 3) := by decide +kernel
theorem dX9_goHour_111 : decode cX9_goHour 111 = .ok (.goto (-52), 3) := by decide +kernel
theorem dX9_goHour_114 : decode cX9_goHour 114 = .ok (.aload_n 0, 1) := by decide +kernel
theorem dX9_goHour_115 : decode cX9_goHour 115 = .ok (.getfield 29, 3) := by decide +kernel
theorem dX9_goHour_118 : decode cX9_goHour 118 = .ok (.iconst 0, 1) := by decide +kernel
theorem dX9_goHour_119 : decode cX9_goHour 119 = .ok (.dup2, 1) := by decide +kernel
theorem dX9_goHour_120 : decode cX9_goHour 120 = .ok (.iaload, 1) := by decide +kernel
theorem dX9_goHour_121 : decode cX9_goHour 121 = .ok (.iconst 1, 1) := by decide +kernel
theorem dX9_goHour_122 : decode cX9_goHour 122 = .ok (.iadd, 1) := by decide +kernel
theorem dX9_goHour_123 : decode cX9_goHour 123 = .ok (.iastore, 1) := by decide +kernel
theorem dX9_goHour_124 : decode cX9_goHour 124 = .ok (.return_, 1) := by decide +kernel
theorem dX9_go_0 : decode cX9_go 0 = .ok (.iload_n 1, 1) := by decide +kernel
theorem dX9_go_1 : decode cX9_go 1 = .ok (.iconst 1, 1) := by decide +kernel
theorem dX9_go_2 : decode cX9_go 2 = .ok (.bipush 12, 2) := by decide +kernel
theorem dX9_go_4 : decode cX9_go 4 = .ok (.invokestatic 45, 3) := by decide +kernel
theorem dX9_go_7 : decode cX9_go 7 = .ok (.ifCond .ne 6, 3) := by decide +kernel
theorem dX9_go_10 : decode cX9_go 10 = .ok (.bipush (-3), 2) := by decide +kernel
theorem dX9_go_12 : decode cX9_go 12 = .ok (.ireturn, 1) := by decide +kernel
theorem dX9_go_13 : decode cX9_go 13 = .ok (.iconst 0, 1) := by decide +kernel
theorem dX9_go_14 : decode cX9_go 14 = .ok (.istore_n 2, 1) := by decide +kernel
theorem dX9_go_15 : decode cX9_go 15 = .ok (.iload_n 2, 1) := by decide +kernel
theorem dX9_go_16 : decode cX9_go 16 = .ok (.iload_n 1, 1) := by decide +kernel
theorem dX9_go_17 : decode cX9_go 17 = .ok (.if_icmp .ge 24, 3) := by decide +kernel
theorem dX9_go_20 : decode cX9_go 20 = .ok (.aload_n 0, 1) := by decide +kernel
theorem dX9_go_21 : decode cX9_go 21 = .ok (.getfield 29, 3) := by decide +kernel
theorem dX9_go_24 : decode cX9_go 24 = .ok (.iconst 0, 1) := by decide +kernel
theorem dX9_go_25 : decode cX9_go 25 = .ok (.iaload, 1) := by decide +kernel
theorem dX9_go_26 : decode cX9_go 26 = .ok (.bipush 12, 2) := by decide +kernel
theorem dX9_go_28 : decode cX9_go 28 = .ok (.if_icmp .ge 13, 3) := by decide +kernel
theorem dX9_go_31 : decode cX9_go 31 = .ok (.aload_n 0, 1) := by decide +kernel
theorem dX9_go_32 : decode cX9_go 32 = .ok (.invokevirtual 202, 3) := by decide +kernel
theorem dX9_go_35 : decode cX9_go 35 = .ok (.iinc 2 1, 3) := by decide +kernel
theorem dX9_go_38 : decode cX9_go 38 = .ok (.goto (-23), 3) := by decide +kernel
theorem dX9_go_41 : decode cX9_go 41 = .ok (.aload_n 0, 1) := by decide +kernel
theorem dX9_go_42 : decode cX9_go 42 = .ok (.getfield 29, 3) := by decide +kernel
theorem dX9_go_45 : decode cX9_go 45 = .ok (.iconst 0, 1) := by decide +kernel
theorem dX9_go_46 : decode cX9_go 46 = .ok (.iaload, 1) := by decide +kernel
theorem dX9_go_47 : decode cX9_go 47 = .ok (.ireturn, 1) := by decide +kernel
theorem dX9_kite_0 : decode cX9_kite 0 = .ok (.aload_n 0, 1) := by decide +kernel
theorem dX9_kite_1 : decode cX9_kite 1 = .ok (.iload_n 1, 1) := by decide +kernel
theorem dX9_kite_2 : decode cX9_kite 2 = .ok (.invokevirtual 171, 3) := by decide +kernel
theorem dX9_kite_5 : decode cX9_kite 5 = .ok (.ifCond .ne 6, 3) := by decide +kernel
theorem dX9_kite_8 : decode cX9_kite 8 = .ok (.bipush (-2), 2) := by decide +kernel
theorem dX9_kite_10 : decode cX9_kite 10 = .ok (.ireturn, 1) := by decide +kernel
theorem dX9_kite_11 : decode cX9_kite 11 = .ok (.iload_n 2, 1) := by decide +kernel
theorem dX9_kite_12 : decode cX9_kite 12 = .ok (.iconst 0, 1) := by decide +kernel
theorem dX9_kite_13 : decode cX9_kite 13 = .ok (.iconst 4, 1) := by decide +kernel
theorem dX9_kite_14 : decode cX9_kite 14 = .ok (.invokestatic 45, 3) := by decide +kernel
theorem dX9_kite_17 : decode cX9_kite 17 = .ok (.ifCond .eq 19, 3) := by decide +kernel
theorem dX9_kite_20 : decode cX9_kite 20 = .ok (.aload_n 0, 1) := by decide +kernel
theorem dX9_kite_21 : decode cX9_kite 21 = .ok (.getfield 29, 3) := by decide +kernel
theorem dX9_kite_24 : decode cX9_kite 24 = .ok (.iconst 1, 1) := by decide +kernel
theorem dX9_kite_25 : decode cX9_kite 25 = .ok (.bipush 6, 2) := by decide +kernel
theorem dX9_kite_27 : decode cX9_kite 27 = .ok (.iload_n 2, 1) := by decide +kernel
theorem dX9_kite_28 : decode cX9_kite 28 = .ok (.imul, 1) := by decide +kernel
theorem dX9_kite_29 : decode cX9_kite 29 = .ok (.iadd, 1) := by decide +kernel
theorem dX9_kite_30 : decode cX9_kite 30 = .ok (.iload_n 1, 1) := by decide +kernel
theorem dX9_kite_31 : decode cX9_kite 31 = .ok (.iadd, 1) := by decide +kernel
theorem dX9_kite_32 : decode cX9_kite 32 = .ok (.iaload, 1) := by decide +kernel
theorem dX9_kite_33 : decode cX9_kite 33 = .ok (.goto 5, 3) := by decide +kernel
theorem dX9_kite_36 : decode cX9_kite 36 = .ok (.bipush (-3), 2) := by decide +kernel
theorem dX9_kite_38 : decode cX9_kite 38 = .ok (.ireturn, 1) := by decide +kernel
theorem dX9_where_0 : decode cX9_where 0 = .ok (.aload_n 0, 1) := by decide +kernel
theorem dX9_where_1 : decode cX9_where 1 = .ok (.iload_n 1, 1) := by decide +kernel
theorem dX9_where_2 : decode cX9_where 2 = .ok (.invokevirtual 171, 3) := by decide +kernel
theorem dX9_where_5 : decode cX9_where 5 = .ok (.ifCond .eq 17, 3) := by decide +kernel
theorem dX9_where_8 : decode cX9_where 8 = .ok (.iload_n 2, 1) := by decide +kernel
theorem dX9_where_9 : decode cX9_where 9 = .ok (.invokestatic 165, 3) := by decide +kernel
theorem dX9_where_12 : decode cX9_where 12 = .ok (.ifCond .eq 10, 3) := by decide +kernel
theorem dX9_where_15 : decode cX9_where 15 = .ok (.iload_n 3, 1) := by decide +kernel
theorem dX9_where_16 : decode cX9_where 16 = .ok (.invokestatic 168, 3) := by decide +kernel
theorem dX9_where_19 : decode cX9_where 19 = .ok (.ifCond .ne 6, 3) := by decide +kernel
theorem dX9_where_22 : decode cX9_where 22 = .ok (.bipush (-2), 2) := by decide +kernel
theorem dX9_where_24 : decode cX9_where 24 = .ok (.ireturn, 1) := by decide +kernel
theorem dX9_where_25 : decode cX9_where 25 = .ok (.aload_n 0, 1) := by decide +kernel
theorem dX9_where_26 : decode cX9_where 26 = .ok (.iload_n 1, 1) := by decide +kernel
theorem dX9_where_27 : decode cX9_where 27 = .ok (.iload_n 2, 1) := by decide +kernel
theorem dX9_where_28 : decode cX9_where 28 = .ok (.iload_n 3, 1) := by decide +kernel
theorem dX9_where_29 : decode cX9_where 29 = .ok (.invokevirtual 185, 3) := by decide +kernel
theorem dX9_where_32 : decode cX9_where 32 = .ok (.ifCond .eq 23, 3) := by decide +kernel
theorem dX9_where_35 : decode cX9_where 35 = .ok (.aload_n 0, 1) := by decide +kernel
theorem dX9_where_36 : decode cX9_where 36 = .ok (.iload_n 1, 1) := by decide +kernel
theorem dX9_where_37 : decode cX9_where 37 = .ok (.iload_n 2, 1) := by decide +kernel
theorem dX9_where_38 : decode cX9_where 38 = .ok (.iload_n 3, 1) := by decide +kernel
theorem dX9_where_39 : decode cX9_where 39 = .ok (.invokevirtual 174, 3) := by decide +kernel
theorem dX9_where_42 : decode cX9_where 42 = .ok (.bipush 10, 2) := by decide +kernel
theorem dX9_where_44 : decode cX9_where 44 = .ok (.aload_n 0, 1) := by decide +kernel
theorem dX9_where_45 : decode cX9_where 45 = .ok (.iload_n 1, 1) := by decide +kernel
theorem dX9_where_46 : decode cX9_where 46 = .ok (.iload_n 2, 1) := by decide +kernel
theorem dX9_where_47 : decode cX9_where 47 = .ok (.invokevirtual 178, 3) := by decide +kernel
theorem dX9_where_50 : decode cX9_where 50 = .ok (.imul, 1) := by decide +kernel
theorem dX9_where_51 : decode cX9_where 51 = .ok (.iadd, 1) := by decide +kernel
theorem dX9_where_52 : decode cX9_where 52 = .ok (.goto 4, 3) := by decide +kernel
theorem dX9_where_55 : decode cX9_where 55 = .ok (.iconst (-1), 1) := by decide +kernel
theorem dX9_where_56 : decode cX9_where 56 = .ok (.ireturn, 1) := by decide +kernel
theorem dX9_hinders_0 : decode cX9_hinders 0 = .ok (.aload_n 0, 1) := by decide +kernel
theorem dX9_hinders_1 : decode cX9_hinders 1 = .ok (.iload_n 1, 1) := by decide +kernel
theorem dX9_hinders_2 : decode cX9_hinders 2 = .ok (.invokevirtual 171, 3) := by decide +kernel
theorem dX9_hinders_5 : decode cX9_hinders 5 = .ok (.ifCond .eq 17, 3) := by decide +kernel
theorem dX9_hinders_8 : decode cX9_hinders 8 = .ok (.iload_n 2, 1) := by decide +kernel
theorem dX9_hinders_9 : decode cX9_hinders 9 = .ok (.invokestatic 165, 3) := by decide +kernel
theorem dX9_hinders_12 : decode cX9_hinders 12 = .ok (.ifCond .eq 10, 3) := by decide +kernel
theorem dX9_hinders_15 : decode cX9_hinders 15 = .ok (.iload_n 3, 1) := by decide +kernel
theorem dX9_hinders_16 : decode cX9_hinders 16 = .ok (.invokestatic 168, 3) := by decide +kernel
theorem dX9_hinders_19 : decode cX9_hinders 19 = .ok (.ifCond .ne 6, 3) := by decide +kernel
theorem dX9_hinders_22 : decode cX9_hinders 22 = .ok (.bipush (-2), 2) := by decide +kernel
theorem dX9_hinders_24 : decode cX9_hinders 24 = .ok (.ireturn, 1) := by decide +kernel
theorem dX9_hinders_25 : decode cX9_hinders 25 = .ok (.aload_n 0, 1) := by decide +kernel
theorem dX9_hinders_26 : decode cX9_hinders 26 = .ok (.iload_n 1, 1) := by decide +kernel
theorem dX9_hinders_27 : decode cX9_hinders 27 = .ok (.iload_n 2, 1) := by decide +kernel
theorem dX9_hinders_28 : decode cX9_hinders 28 = .ok (.iload_n 3, 1) := by decide +kernel
theorem dX9_hinders_29 : decode cX9_hinders 29 = .ok (.invokevirtual 185, 3) := by decide +kernel
theorem dX9_hinders_32 : decode cX9_hinders 32 = .ok (.ifCond .ne 7, 3) := by decide +kernel
theorem dX9_hinders_35 : decode cX9_hinders 35 = .ok (.iconst 2, 1) := by decide +kernel
theorem dX9_hinders_36 : decode cX9_hinders 36 = .ok (.goto 18, 3) := by decide +kernel
theorem dX9_hinders_39 : decode cX9_hinders 39 = .ok (.aload_n 0, 1) := by decide +kernel
theorem dX9_hinders_40 : decode cX9_hinders 40 = .ok (.iload_n 1, 1) := by decide +kernel
theorem dX9_hinders_41 : decode cX9_hinders 41 = .ok (.iload_n 2, 1) := by decide +kernel
theorem dX9_hinders_42 : decode cX9_hinders 42 = .ok (.iload_n 3, 1) := by decide +kernel
theorem dX9_hinders_43 : decode cX9_hinders 43 = .ok (.invokevirtual 182, 3) := by decide +kernel
theorem dX9_hinders_46 : decode cX9_hinders 46 = .ok (.ifCond .eq 7, 3) := by decide +kernel
theorem dX9_hinders_49 : decode cX9_hinders 49 = .ok (.iconst 0, 1) := by decide +kernel
theorem dX9_hinders_50 : decode cX9_hinders 50 = .ok (.goto 4, 3) := by decide +kernel
theorem dX9_hinders_53 : decode cX9_hinders 53 = .ok (.iconst 1, 1) := by decide +kernel
theorem dX9_hinders_54 : decode cX9_hinders 54 = .ok (.ireturn, 1) := by decide +kernel
theorem dX9_tangle_0 : decode cX9_tangle 0 = .ok (.aload_n 0, 1) := by decide +kernel
theorem dX9_tangle_1 : decode cX9_tangle 1 = .ok (.iload_n 1, 1) := by decide +kernel
theorem dX9_tangle_2 : decode cX9_tangle 2 = .ok (.invokevirtual 171, 3) := by decide +kernel
theorem dX9_tangle_5 : decode cX9_tangle 5 = .ok (.ifCond .eq 26, 3) := by decide +kernel
theorem dX9_tangle_8 : decode cX9_tangle 8 = .ok (.aload_n 0, 1) := by decide +kernel
theorem dX9_tangle_9 : decode cX9_tangle 9 = .ok (.iload_n 2, 1) := by decide +kernel
theorem dX9_tangle_10 : decode cX9_tangle 10 = .ok (.invokevirtual 171, 3) := by decide +kernel
theorem dX9_tangle_13 : decode cX9_tangle 13 = .ok (.ifCond .eq 18, 3) := by decide +kernel
theorem dX9_tangle_16 : decode cX9_tangle 16 = .ok (.iload_n 3, 1) := by decide +kernel
theorem dX9_tangle_17 : decode cX9_tangle 17 = .ok (.invokestatic 165, 3) := by decide +kernel
theorem dX9_tangle_20 : decode cX9_tangle 20 = .ok (.ifCond .eq 11, 3) := by decide +kernel
theorem dX9_tangle_23 : decode cX9_tangle 23 = .ok (.iload 4, 2) := by decide +kernel
theorem dX9_tangle_25 : decode cX9_tangle 25 = .ok (.invokestatic 168, 3) := by decide +kernel
theorem dX9_tangle_28 : decode cX9_tangle 28 = .ok (.ifCond .ne 6, 3) := by decide +kernel
theorem dX9_tangle_31 : decode cX9_tangle 31 = .ok (.bipush (-2), 2) := by decide +kernel
theorem dX9_tangle_33 : decode cX9_tangle 33 = .ok (.ireturn, 1) := by decide +kernel
theorem dX9_tangle_34 : decode cX9_tangle 34 = .ok (.iload_n 1, 1) := by decide +kernel
theorem dX9_tangle_35 : decode cX9_tangle 35 = .ok (.iload_n 2, 1) := by decide +kernel
theorem dX9_tangle_36 : decode cX9_tangle 36 = .ok (.if_icmp .ne 6, 3) := by decide +kernel
theorem dX9_tangle_39 : decode cX9_tangle 39 = .ok (.bipush (-3), 2) := by decide +kernel
theorem dX9_tangle_41 : decode cX9_tangle 41 = .ok (.ireturn, 1) := by decide +kernel
theorem dX9_tangle_42 : decode cX9_tangle 42 = .ok (.aload_n 0, 1) := by decide +kernel
theorem dX9_tangle_43 : decode cX9_tangle 43 = .ok (.iload_n 1, 1) := by decide +kernel
theorem dX9_tangle_44 : decode cX9_tangle 44 = .ok (.iload_n 2, 1) := by decide +kernel
theorem dX9_tangle_45 : decode cX9_tangle 45 = .ok (.iload_n 3, 1) := by decide +kernel
theorem dX9_tangle_46 : decode cX9_tangle 46 = .ok (.iload 4, 2) := by decide +kernel
theorem dX9_tangle_48 : decode cX9_tangle 48 = .ok (.invokevirtual 188, 3) := by decide +kernel
theorem dX9_tangle_51 : decode cX9_tangle 51 = .ok (.ifCond .eq 26, 3) := by decide +kernel
theorem dX9_tangle_54 : decode cX9_tangle 54 = .ok (.iload_n 1, 1) := by decide +kernel
theorem dX9_tangle_55 : decode cX9_tangle 55 = .ok (.iload_n 2, 1) := by decide +kernel
theorem dX9_tangle_56 : decode cX9_tangle 56 = .ok (.if_icmp .ge 12, 3) := by decide +kernel
theorem dX9_tangle_59 : decode cX9_tangle 59 = .ok (.aload_n 0, 1) := by decide +kernel
theorem dX9_tangle_60 : decode cX9_tangle 60 = .ok (.iload_n 1, 1) := by decide +kernel
theorem dX9_tangle_61 : decode cX9_tangle 61 = .ok (.iload_n 2, 1) := by decide +kernel
theorem dX9_tangle_62 : decode cX9_tangle 62 = .ok (.invokevirtual 192, 3) := by decide +kernel
theorem dX9_tangle_65 : decode cX9_tangle 65 = .ok (.goto 13, 3) := by decide +kernel
theorem dX9_tangle_68 : decode cX9_tangle 68 = .ok (.aload_n 0, 1) := by decide +kernel
theorem dX9_tangle_69 : decode cX9_tangle 69 = .ok (.iload_n 2, 1) := by decide +kernel
theorem dX9_tangle_70 : decode cX9_tangle 70 = .ok (.iload_n 1, 1) := by decide +kernel
theorem dX9_tangle_71 : decode cX9_tangle 71 = .ok (.invokevirtual 192, 3) := by decide +kernel
theorem dX9_tangle_74 : decode cX9_tangle 74 = .ok (.goto 4, 3) := by decide +kernel
theorem dX9_tangle_77 : decode cX9_tangle 77 = .ok (.iconst (-1), 1) := by decide +kernel
theorem dX9_tangle_78 : decode cX9_tangle 78 = .ok (.ireturn, 1) := by decide +kernel
theorem dX9_taking_0 : decode cX9_taking 0 = .ok (.iload_n 1, 1) := by decide +kernel
theorem dX9_taking_1 : decode cX9_taking 1 = .ok (.ifCond .lt 12, 3) := by decide +kernel
theorem dX9_taking_4 : decode cX9_taking 4 = .ok (.iload_n 2, 1) := by decide +kernel
theorem dX9_taking_5 : decode cX9_taking 5 = .ok (.iconst 0, 1) := by decide +kernel
theorem dX9_taking_6 : decode cX9_taking 6 = .ok (.iconst 3, 1) := by decide +kernel
theorem dX9_taking_7 : decode cX9_taking 7 = .ok (.invokestatic 45, 3) := by decide +kernel
theorem dX9_taking_10 : decode cX9_taking 10 = .ok (.ifCond .ne 6, 3) := by decide +kernel
theorem dX9_taking_13 : decode cX9_taking 13 = .ok (.bipush (-3), 2) := by decide +kernel
theorem dX9_taking_15 : decode cX9_taking 15 = .ok (.ireturn, 1) := by decide +kernel
theorem dX9_taking_16 : decode cX9_taking 16 = .ok (.iload_n 1, 1) := by decide +kernel
theorem dX9_taking_17 : decode cX9_taking 17 = .ok (.aload_n 0, 1) := by decide +kernel
theorem dX9_taking_18 : decode cX9_taking 18 = .ok (.getfield 29, 3) := by decide +kernel
theorem dX9_taking_21 : decode cX9_taking 21 = .ok (.bipush 44, 2) := by decide +kernel
theorem dX9_taking_23 : decode cX9_taking 23 = .ok (.iaload, 1) := by decide +kernel
theorem dX9_taking_24 : decode cX9_taking 24 = .ok (.if_icmp .ge 19, 3) := by decide +kernel
theorem dX9_taking_27 : decode cX9_taking 27 = .ok (.aload_n 0, 1) := by decide +kernel
theorem dX9_taking_28 : decode cX9_taking 28 = .ok (.getfield 29, 3) := by decide +kernel
theorem dX9_taking_31 : decode cX9_taking 31 = .ok (.bipush 45, 2) := by decide +kernel
theorem dX9_taking_33 : decode cX9_taking 33 = .ok (.iconst 4, 1) := by decide +kernel
theorem dX9_taking_34 : decode cX9_taking 34 = .ok (.iload_n 1, 1) := by decide +kernel
theorem dX9_taking_35 : decode cX9_taking 35 = .ok (.imul, 1) := by decide +kernel
theorem dX9_taking_36 : decode cX9_taking 36 = .ok (.iadd, 1) := by decide +kernel
theorem dX9_taking_37 : decode cX9_taking 37 = .ok (.iload_n 2, 1) := by decide +kernel
theorem dX9_taking_38 : decode cX9_taking 38 = .ok (.iadd, 1) := by decide +kernel
theorem dX9_taking_39 : decode cX9_taking 39 = .ok (.iaload, 1) := by decide +kernel
theorem dX9_taking_40 : decode cX9_taking 40 = .ok (.goto 4, 3) := by decide +kernel
theorem dX9_taking_43 : decode cX9_taking 43 = .ok (.iconst (-1), 1) := by decide +kernel
theorem dX9_taking_44 : decode cX9_taking 44 = .ok (.ireturn, 1) := by decide +kernel
theorem dX9_copy_0 : decode cX9_copy 0 = .ok (.iconst 0, 1) := by decide +kernel
theorem dX9_copy_1 : decode cX9_copy 1 = .ok (.istore 4, 2) := by decide +kernel
theorem dX9_copy_3 : decode cX9_copy 3 = .ok (.iload 4, 2) := by decide +kernel
theorem dX9_copy_5 : decode cX9_copy 5 = .ok (.sipush 1197, 3) := by decide +kernel
theorem dX9_copy_8 : decode cX9_copy 8 = .ok (.if_icmp .ge 21, 3) := by decide +kernel
theorem dX9_copy_11 : decode cX9_copy 11 = .ok (.aload_n 2, 1) := by decide +kernel
theorem dX9_copy_12 : decode cX9_copy 12 = .ok (.iload_n 3, 1) := by decide +kernel
theorem dX9_copy_13 : decode cX9_copy 13 = .ok (.iload 4, 2) := by decide +kernel
theorem dX9_copy_15 : decode cX9_copy 15 = .ok (.iadd, 1) := by decide +kernel
theorem dX9_copy_16 : decode cX9_copy 16 = .ok (.aload_n 0, 1) := by decide +kernel
theorem dX9_copy_17 : decode cX9_copy 17 = .ok (.iload_n 1, 1) := by decide +kernel
theorem dX9_copy_18 : decode cX9_copy 18 = .ok (.iload 4, 2) := by decide +kernel
theorem dX9_copy_20 : decode cX9_copy 20 = .ok (.iadd, 1) := by decide +kernel
theorem dX9_copy_21 : decode cX9_copy 21 = .ok (.iaload, 1) := by decide +kernel
theorem dX9_copy_22 : decode cX9_copy 22 = .ok (.iastore, 1) := by decide +kernel
theorem dX9_copy_23 : decode cX9_copy 23 = .ok (.iinc 4 1, 3) := by decide +kernel
theorem dX9_copy_26 : decode cX9_copy 26 = .ok (.goto (-23), 3) := by decide +kernel
theorem dX9_copy_29 : decode cX9_copy 29 = .ok (.return_, 1) := by decide +kernel
theorem dX9_keep_0 : decode cX9_keep 0 = .ok (.iload_n 1, 1) := by decide +kernel
theorem dX9_keep_1 : decode cX9_keep 1 = .ok (.iconst 0, 1) := by decide +kernel
theorem dX9_keep_2 : decode cX9_keep 2 = .ok (.iconst 1, 1) := by decide +kernel
theorem dX9_keep_3 : decode cX9_keep 3 = .ok (.invokestatic 45, 3) := by decide +kernel
theorem dX9_keep_6 : decode cX9_keep 6 = .ok (.ifCond .ne 6, 3) := by decide +kernel
theorem dX9_keep_9 : decode cX9_keep 9 = .ok (.bipush (-2), 2) := by decide +kernel
theorem dX9_keep_11 : decode cX9_keep 11 = .ok (.ireturn, 1) := by decide +kernel
theorem dX9_keep_12 : decode cX9_keep 12 = .ok (.aload_n 0, 1) := by decide +kernel
theorem dX9_keep_13 : decode cX9_keep 13 = .ok (.getfield 29, 3) := by decide +kernel
theorem dX9_keep_16 : decode cX9_keep 16 = .ok (.iconst 0, 1) := by decide +kernel
theorem dX9_keep_17 : decode cX9_keep 17 = .ok (.aload_n 0, 1) := by decide +kernel
theorem dX9_keep_18 : decode cX9_keep 18 = .ok (.getfield 35, 3) := by decide +kernel
theorem dX9_keep_21 : decode cX9_keep 21 = .ok (.sipush 1197, 3) := by decide +kernel
theorem dX9_keep_24 : decode cX9_keep 24 = .ok (.iload_n 1, 1) := by decide +kernel
theorem dX9_keep_25 : decode cX9_keep 25 = .ok (.imul, 1) := by decide +kernel
theorem dX9_keep_26 : decode cX9_keep 26 = .ok (.invokestatic 205, 3) := by decide +kernel
theorem dX9_keep_29 : decode cX9_keep 29 = .ok (.aload_n 0, 1) := by decide +kernel
theorem dX9_keep_30 : decode cX9_keep 30 = .ok (.getfield 38, 3) := by decide +kernel
theorem dX9_keep_33 : decode cX9_keep 33 = .ok (.iload_n 1, 1) := by decide +kernel
theorem dX9_keep_34 : decode cX9_keep 34 = .ok (.iconst 1, 1) := by decide +kernel
theorem dX9_keep_35 : decode cX9_keep 35 = .ok (.bastore, 1) := by decide +kernel
theorem dX9_keep_36 : decode cX9_keep 36 = .ok (.aload_n 0, 1) := by decide +kernel
theorem dX9_keep_37 : decode cX9_keep 37 = .ok (.getfield 29, 3) := by decide +kernel
theorem dX9_keep_40 : decode cX9_keep 40 = .ok (.iconst 0, 1) := by decide +kernel
theorem dX9_keep_41 : decode cX9_keep 41 = .ok (.iaload, 1) := by decide +kernel
theorem dX9_keep_42 : decode cX9_keep 42 = .ok (.ireturn, 1) := by decide +kernel
theorem dX9_back_0 : decode cX9_back 0 = .ok (.iload_n 1, 1) := by decide +kernel
theorem dX9_back_1 : decode cX9_back 1 = .ok (.iconst 0, 1) := by decide +kernel
theorem dX9_back_2 : decode cX9_back 2 = .ok (.iconst 1, 1) := by decide +kernel
theorem dX9_back_3 : decode cX9_back 3 = .ok (.invokestatic 45, 3) := by decide +kernel
theorem dX9_back_6 : decode cX9_back 6 = .ok (.ifCond .ne 6, 3) := by decide +kernel
theorem dX9_back_9 : decode cX9_back 9 = .ok (.bipush (-2), 2) := by decide +kernel
theorem dX9_back_11 : decode cX9_back 11 = .ok (.ireturn, 1) := by decide +kernel
theorem dX9_back_12 : decode cX9_back 12 = .ok (.aload_n 0, 1) := by decide +kernel
theorem dX9_back_13 : decode cX9_back 13 = .ok (.getfield 38, 3) := by decide +kernel
theorem dX9_back_16 : decode cX9_back 16 = .ok (.iload_n 1, 1) := by decide +kernel
theorem dX9_back_17 : decode cX9_back 17 = .ok (.baload, 1) := by decide +kernel
theorem dX9_back_18 : decode cX9_back 18 = .ok (.ifCond .ne 6, 3) := by decide +kernel
theorem dX9_back_21 : decode cX9_back 21 = .ok (.bipush (-4), 2) := by decide +kernel
theorem dX9_back_23 : decode cX9_back 23 = .ok (.ireturn, 1) := by decide +kernel
theorem dX9_back_24 : decode cX9_back 24 = .ok (.aload_n 0, 1) := by decide +kernel
theorem dX9_back_25 : decode cX9_back 25 = .ok (.getfield 35, 3) := by decide +kernel
theorem dX9_back_28 : decode cX9_back 28 = .ok (.sipush 1197, 3) := by decide +kernel
theorem dX9_back_31 : decode cX9_back 31 = .ok (.iload_n 1, 1) := by decide +kernel
theorem dX9_back_32 : decode cX9_back 32 = .ok (.imul, 1) := by decide +kernel
theorem dX9_back_33 : decode cX9_back 33 = .ok (.aload_n 0, 1) := by decide +kernel
theorem dX9_back_34 : decode cX9_back 34 = .ok (.getfield 29, 3) := by decide +kernel
theorem dX9_back_37 : decode cX9_back 37 = .ok (.iconst 0, 1) := by decide +kernel
theorem dX9_back_38 : decode cX9_back 38 = .ok (.invokestatic 205, 3) := by decide +kernel
theorem dX9_back_41 : decode cX9_back 41 = .ok (.aload_n 0, 1) := by decide +kernel
theorem dX9_back_42 : decode cX9_back 42 = .ok (.getfield 29, 3) := by decide +kernel
theorem dX9_back_45 : decode cX9_back 45 = .ok (.iconst 0, 1) := by decide +kernel
theorem dX9_back_46 : decode cX9_back 46 = .ok (.iaload, 1) := by decide +kernel
theorem dX9_back_47 : decode cX9_back 47 = .ok (.ireturn, 1) := by decide +kernel
theorem dX9_caught_0 : decode cX9_caught 0 = .ok (.iconst 0, 1) := by decide +kernel
theorem dX9_caught_1 : decode cX9_caught 1 = .ok (.istore_n 1, 1) := by decide +kernel
theorem dX9_caught_2 : decode cX9_caught 2 = .ok (.iconst 0, 1) := by decide +kernel
theorem dX9_caught_3 : decode cX9_caught 3 = .ok (.istore_n 2, 1) := by decide +kernel
theorem dX9_caught_4 : decode cX9_caught 4 = .ok (.iload_n 2, 1) := by decide +kernel
theorem dX9_caught_5 : decode cX9_caught 5 = .ok (.bipush 6, 2) := by decide +kernel
theorem dX9_caught_7 : decode cX9_caught 7 = .ok (.if_icmp .ge 21, 3) := by decide +kernel
theorem dX9_caught_10 : decode cX9_caught 10 = .ok (.iload_n 1, 1) := by decide +kernel
theorem dX9_caught_11 : decode cX9_caught 11 = .ok (.aload_n 0, 1) := by decide +kernel
theorem dX9_caught_12 : decode cX9_caught 12 = .ok (.getfield 29, 3) := by decide +kernel
theorem dX9_caught_15 : decode cX9_caught 15 = .ok (.bipush 13, 2) := by decide +kernel
theorem dX9_caught_17 : decode cX9_caught 17 = .ok (.iload_n 2, 1) := by decide +kernel
theorem dX9_caught_18 : decode cX9_caught 18 = .ok (.iadd, 1) := by decide +kernel
theorem dX9_caught_19 : decode cX9_caught 19 = .ok (.iaload, 1) := by decide +kernel
theorem dX9_caught_20 : decode cX9_caught 20 = .ok (.iadd, 1) := by decide +kernel
theorem dX9_caught_21 : decode cX9_caught 21 = .ok (.istore_n 1, 1) := by decide +kernel
theorem dX9_caught_22 : decode cX9_caught 22 = .ok (.iinc 2 1, 3) := by decide +kernel
theorem dX9_caught_25 : decode cX9_caught 25 = .ok (.goto (-21), 3) := by decide +kernel
theorem dX9_caught_28 : decode cX9_caught 28 = .ok (.iload_n 1, 1) := by decide +kernel
theorem dX9_caught_29 : decode cX9_caught 29 = .ok (.ireturn, 1) := by decide +kernel
theorem dX9_toldMany_0 : decode cX9_toldMany 0 = .ok (.iconst 0, 1) := by decide +kernel
theorem dX9_toldMany_1 : decode cX9_toldMany 1 = .ok (.istore_n 1, 1) := by decide +kernel
theorem dX9_toldMany_2 : decode cX9_toldMany 2 = .ok (.iconst 0, 1) := by decide +kernel
theorem dX9_toldMany_3 : decode cX9_toldMany 3 = .ok (.istore_n 2, 1) := by decide +kernel
theorem dX9_toldMany_4 : decode cX9_toldMany 4 = .ok (.iload_n 2, 1) := by decide +kernel
theorem dX9_toldMany_5 : decode cX9_toldMany 5 = .ok (.bipush 6, 2) := by decide +kernel
theorem dX9_toldMany_7 : decode cX9_toldMany 7 = .ok (.if_icmp .ge 28, 3) := by decide +kernel
theorem dX9_toldMany_10 : decode cX9_toldMany 10 = .ok (.iload_n 1, 1) := by decide +kernel
theorem dX9_toldMany_11 : decode cX9_toldMany 11 = .ok (.aload_n 0, 1) := by decide +kernel
theorem dX9_toldMany_12 : decode cX9_toldMany 12 = .ok (.getfield 49, 3) := by decide +kernel
theorem dX9_toldMany_15 : decode cX9_toldMany 15 = .ok (.iload_n 2, 1) := by decide +kernel
theorem dX9_toldMany_16 : decode cX9_toldMany 16 = .ok (.invokestatic 52, 3) := by decide +kernel
theorem dX9_toldMany_19 : decode cX9_toldMany 19 = .ok (.ifCond .eq 7, 3) := by decide +kernel
theorem dX9_toldMany_22 : decode cX9_toldMany 22 = .ok (.iconst 1, 1) := by decide +kernel
theorem dX9_toldMany_23 : decode cX9_toldMany 23 = .ok (.goto 4, 3) := by decide +kernel
theorem dX9_toldMany_26 : decode cX9_toldMany 26 = .ok (.iconst 0, 1) := by decide +kernel
theorem dX9_toldMany_27 : decode cX9_toldMany 27 = .ok (.iadd, 1) := by decide +kernel
theorem dX9_toldMany_28 : decode cX9_toldMany 28 = .ok (.istore_n 1, 1) := by decide +kernel
theorem dX9_toldMany_29 : decode cX9_toldMany 29 = .ok (.iinc 2 1, 3) := by decide +kernel
theorem dX9_toldMany_32 : decode cX9_toldMany 32 = .ok (.goto (-28), 3) := by decide +kernel
theorem dX9_toldMany_35 : decode cX9_toldMany 35 = .ok (.iload_n 1, 1) := by decide +kernel
theorem dX9_toldMany_36 : decode cX9_toldMany 36 = .ok (.ireturn, 1) := by decide +kernel
theorem dX9_askAll_0 : decode cX9_askAll 0 = .ok (.iload_n 1, 1) := by decide +kernel
theorem dX9_askAll_1 : decode cX9_askAll 1 = .ok (.istore_n 2, 1) := by decide +kernel
theorem dX9_askAll_2 : decode cX9_askAll 2 = .ok (.iconst 5, 1) := by decide +kernel
theorem dX9_askAll_3 : decode cX9_askAll 3 = .ok (.istore_n 3, 1) := by decide +kernel
theorem dX9_askAll_4 : decode cX9_askAll 4 = .ok (.iload_n 3, 1) := by decide +kernel
theorem dX9_askAll_5 : decode cX9_askAll 5 = .ok (.ifCond .lt 36, 3) := by decide +kernel
theorem dX9_askAll_8 : decode cX9_askAll 8 = .ok (.aload_n 0, 1) := by decide +kernel
theorem dX9_askAll_9 : decode cX9_askAll 9 = .ok (.getfield 49, 3) := by decide +kernel
theorem dX9_askAll_12 : decode cX9_askAll 12 = .ok (.iload_n 3, 1) := by decide +kernel
theorem dX9_askAll_13 : decode cX9_askAll 13 = .ok (.invokestatic 52, 3) := by decide +kernel
theorem dX9_askAll_16 : decode cX9_askAll 16 = .ok (.ifCond .eq 19, 3) := by decide +kernel
theorem dX9_askAll_19 : decode cX9_askAll 19 = .ok (.aload_n 0, 1) := by decide +kernel
theorem dX9_askAll_20 : decode cX9_askAll 20 = .ok (.getfield 29, 3) := by decide +kernel
theorem dX9_askAll_23 : decode cX9_askAll 23 = .ok (.bipush 7, 2) := by decide +kernel
theorem dX9_askAll_25 : decode cX9_askAll 25 = .ok (.iload_n 3, 1) := by decide +kernel
theorem dX9_askAll_26 : decode cX9_askAll 26 = .ok (.iadd, 1) := by decide +kernel
theorem dX9_askAll_27 : decode cX9_askAll 27 = .ok (.iload_n 2, 1) := by decide +kernel
theorem dX9_askAll_28 : decode cX9_askAll 28 = .ok (.iconst 4, 1) := by decide +kernel
theorem dX9_askAll_29 : decode cX9_askAll 29 = .ok (.irem, 1) := by decide +kernel
theorem dX9_askAll_30 : decode cX9_askAll 30 = .ok (.iastore, 1) := by decide +kernel
theorem dX9_askAll_31 : decode cX9_askAll 31 = .ok (.iload_n 2, 1) := by decide +kernel
theorem dX9_askAll_32 : decode cX9_askAll 32 = .ok (.iconst 4, 1) := by decide +kernel
theorem dX9_askAll_33 : decode cX9_askAll 33 = .ok (.idiv, 1) := by decide +kernel
theorem dX9_askAll_34 : decode cX9_askAll 34 = .ok (.istore_n 2, 1) := by decide +kernel
theorem dX9_askAll_35 : decode cX9_askAll 35 = .ok (.iinc 3 (-1), 3) := by decide +kernel
theorem dX9_askAll_38 : decode cX9_askAll 38 = .ok (.goto (-34), 3) := by decide +kernel
theorem dX9_askAll_41 : decode cX9_askAll 41 = .ok (.return_, 1) := by decide +kernel
theorem dX9_bestOf_0 : decode cX9_bestOf 0 = .ok (.iconst 1, 1) := by decide +kernel
theorem dX9_bestOf_1 : decode cX9_bestOf 1 = .ok (.iconst 2, 1) := by decide +kernel
theorem dX9_bestOf_2 : decode cX9_bestOf 2 = .ok (.aload_n 0, 1) := by decide +kernel
theorem dX9_bestOf_3 : decode cX9_bestOf 3 = .ok (.invokevirtual 209, 3) := by decide +kernel
theorem dX9_bestOf_6 : decode cX9_bestOf 6 = .ok (.imul, 1) := by decide +kernel
theorem dX9_bestOf_7 : decode cX9_bestOf 7 = .ok (.ishl, 1) := by decide +kernel
theorem dX9_bestOf_8 : decode cX9_bestOf 8 = .ok (.istore_n 2, 1) := by decide +kernel
theorem dX9_bestOf_9 : decode cX9_bestOf 9 = .ok (.iconst (-1), 1) := by decide +kernel
theorem dX9_bestOf_10 : decode cX9_bestOf 10 = .ok (.istore_n 3, 1) := by decide +kernel
theorem dX9_bestOf_11 : decode cX9_bestOf 11 = .ok (.aload_n 0, 1) := by decide +kernel
theorem dX9_bestOf_12 : decode cX9_bestOf 12 = .ok (.iconst (-1), 1) := by decide +kernel
theorem dX9_bestOf_13 : decode cX9_bestOf 13 = .ok (.putfield 213, 3) := by decide +kernel
theorem dX9_bestOf_16 : decode cX9_bestOf 16 = .ok (.aload_n 0, 1) := by decide +kernel
theorem dX9_bestOf_17 : decode cX9_bestOf 17 = .ok (.getfield 29, 3) := by decide +kernel
theorem dX9_bestOf_20 : decode cX9_bestOf 20 = .ok (.iconst 0, 1) := by decide +kernel
theorem dX9_bestOf_21 : decode cX9_bestOf 21 = .ok (.aload_n 0, 1) := by decide +kernel
theorem dX9_bestOf_22 : decode cX9_bestOf 22 = .ok (.getfield 32, 3) := by decide +kernel
theorem dX9_bestOf_25 : decode cX9_bestOf 25 = .ok (.iconst 0, 1) := by decide +kernel
theorem dX9_bestOf_26 : decode cX9_bestOf 26 = .ok (.invokestatic 205, 3) := by decide +kernel
theorem dX9_bestOf_29 : decode cX9_bestOf 29 = .ok (.iconst 0, 1) := by decide +kernel
theorem dX9_bestOf_30 : decode cX9_bestOf 30 = .ok (.istore 4, 2) := by decide +kernel
theorem dX9_bestOf_32 : decode cX9_bestOf 32 = .ok (.iload 4, 2) := by decide +kernel
theorem dX9_bestOf_34 : decode cX9_bestOf 34 = .ok (.iload_n 2, 1) := by decide +kernel
theorem dX9_bestOf_35 : decode cX9_bestOf 35 = .ok (.if_icmp .ge 105, 3) := by decide +kernel
theorem dX9_bestOf_38 : decode cX9_bestOf 38 = .ok (.aload_n 0, 1) := by decide +kernel
theorem dX9_bestOf_39 : decode cX9_bestOf 39 = .ok (.invokevirtual 216, 3) := by decide +kernel
theorem dX9_bestOf_42 : decode cX9_bestOf 42 = .ok (.aload_n 0, 1) := by decide +kernel
theorem dX9_bestOf_43 : decode cX9_bestOf 43 = .ok (.iload 4, 2) := by decide +kernel
theorem dX9_bestOf_45 : decode cX9_bestOf 45 = .ok (.invokevirtual 219, 3) := by decide +kernel
theorem dX9_bestOf_48 : decode cX9_bestOf 48 = .ok (.aload_n 0, 1) := by decide +kernel
theorem dX9_bestOf_49 : decode cX9_bestOf 49 = .ok (.invokevirtual 222, 3) := by decide +kernel
theorem dX9_bestOf_52 : decode cX9_bestOf 52 = .ok (.istore 5, 2) := by decide +kernel
theorem dX9_bestOf_54 : decode cX9_bestOf 54 = .ok (.iload_n 1, 1) := by decide +kernel
theorem dX9_bestOf_55 : decode cX9_bestOf 55 = .ok (.ifCond .eq 28, 3) := by decide +kernel
theorem dX9_bestOf_58 : decode cX9_bestOf 58 = .ok (.aload_n 0, 1) := by decide +kernel
theorem dX9_bestOf_59 : decode cX9_bestOf 59 = .ok (.invokevirtual 158, 3) := by decide +kernel
theorem dX9_bestOf_62 : decode cX9_bestOf 62 = .ok (.iconst 0, 1) := by decide +kernel
theorem dX9_bestOf_63 : decode cX9_bestOf 63 = .ok (.istore 5, 2) := by decide +kernel
theorem dX9_bestOf_65 : decode cX9_bestOf 65 = .ok (.aload_n 0, 1) := by decide +kernel
theorem dX9_bestOf_66 : decode cX9_bestOf 66 = .ok (.getfield 29, 3) := by decide +kernel
theorem dX9_bestOf_69 : decode cX9_bestOf 69 = .ok (.iconst 0, 1) := by decide +kernel
theorem dX9_bestOf_70 : decode cX9_bestOf 70 = .ok (.iaload, 1) := by decide +kernel
theorem dX9_bestOf_71 : decode cX9_bestOf 71 = .ok (.bipush 12, 2) := by decide +kernel
theorem dX9_bestOf_73 : decode cX9_bestOf 73 = .ok (.if_icmp .ge 14, 3) := by decide +kernel
theorem dX9_bestOf_76 : decode cX9_bestOf 76 = .ok (.aload_n 0, 1) := by decide +kernel
theorem dX9_bestOf_77 : decode cX9_bestOf 77 = .ok (.invokevirtual 202, 3) := by decide +kernel
theorem dX9_bestOf_80 : decode cX9_bestOf 80 = .ok (.goto (-15), 3) := by decide +kernel
theorem dX9_bestOf_83 : decode cX9_bestOf 83 = .ok (.aload_n 0, 1) := by decide +kernel
theorem dX9_bestOf_84 : decode cX9_bestOf 84 = .ok (.invokevirtual 202, 3) := by decide +kernel
theorem dX9_bestOf_87 : decode cX9_bestOf 87 = .ok (.aload_n 0, 1) := by decide +kernel
theorem dX9_bestOf_88 : decode cX9_bestOf 88 = .ok (.invokevirtual 222, 3) := by decide +kernel
theorem dX9_bestOf_91 : decode cX9_bestOf 91 = .ok (.iload 5, 2) := by decide +kernel
theorem dX9_bestOf_93 : decode cX9_bestOf 93 = .ok (.isub, 1) := by decide +kernel
theorem dX9_bestOf_94 : decode cX9_bestOf 94 = .ok (.istore 6, 2) := by decide +kernel
theorem dX9_bestOf_96 : decode cX9_bestOf 96 = .ok (.iload 6, 2) := by decide +kernel
theorem dX9_bestOf_98 : decode cX9_bestOf 98 = .ok (.aload_n 0, 1) := by decide +kernel
theorem dX9_bestOf_99 : decode cX9_bestOf 99 = .ok (.getfield 213, 3) := by decide +kernel
theorem dX9_bestOf_102 : decode cX9_bestOf 102 = .ok (.if_icmp .le 8, 3) := by decide +kernel
theorem dX9_bestOf_105 : decode cX9_bestOf 105 = .ok (.iload 4, 2) := by decide +kernel
theorem dX9_bestOf_107 : decode cX9_bestOf 107 = .ok (.goto 4, 3) := by decide +kernel
theorem dX9_bestOf_110 : decode cX9_bestOf 110 = .ok (.iload_n 3, 1) := by decide +kernel
theorem dX9_bestOf_111 : decode cX9_bestOf 111 = .ok (.istore_n 3, 1) := by decide +kernel
theorem dX9_bestOf_112 : decode cX9_bestOf 112 = .ok (.aload_n 0, 1) := by decide +kernel
theorem dX9_bestOf_113 : decode cX9_bestOf 113 = .ok (.iload 6, 2) := by decide +kernel
theorem dX9_bestOf_115 : decode cX9_bestOf 115 = .ok (.aload_n 0, 1) := by decide +kernel
theorem dX9_bestOf_116 : decode cX9_bestOf 116 = .ok (.getfield 213, 3) := by decide +kernel
theorem dX9_bestOf_119 : decode cX9_bestOf 119 = .ok (.if_icmp .le 8, 3) := by decide +kernel
theorem dX9_bestOf_122 : decode cX9_bestOf 122 = .ok (.iload 6, 2) := by decide +kernel
theorem dX9_bestOf_124 : decode cX9_bestOf 124 = .ok (.goto 7, 3) := by decide +kernel
theorem dX9_bestOf_127 : decode cX9_bestOf 127 = .ok (.aload_n 0, 1) := by decide +kernel
theorem dX9_bestOf_128 : decode cX9_bestOf 128 = .ok (.getfield 213, 3) := by decide +kernel
theorem dX9_bestOf_131 : decode cX9_bestOf 131 = .ok (.putfield 213, 3) := by decide +kernel
theorem dX9_bestOf_134 : decode cX9_bestOf 134 = .ok (.iinc 4 1, 3) := by decide +kernel
theorem dX9_bestOf_137 : decode cX9_bestOf 137 = .ok (.goto (-105), 3) := by decide +kernel
theorem dX9_bestOf_140 : decode cX9_bestOf 140 = .ok (.aload_n 0, 1) := by decide +kernel
theorem dX9_bestOf_141 : decode cX9_bestOf 141 = .ok (.getfield 32, 3) := by decide +kernel
theorem dX9_bestOf_144 : decode cX9_bestOf 144 = .ok (.iconst 0, 1) := by decide +kernel
theorem dX9_bestOf_145 : decode cX9_bestOf 145 = .ok (.aload_n 0, 1) := by decide +kernel
theorem dX9_bestOf_146 : decode cX9_bestOf 146 = .ok (.getfield 29, 3) := by decide +kernel
theorem dX9_bestOf_149 : decode cX9_bestOf 149 = .ok (.iconst 0, 1) := by decide +kernel
theorem dX9_bestOf_150 : decode cX9_bestOf 150 = .ok (.invokestatic 205, 3) := by decide +kernel
theorem dX9_bestOf_153 : decode cX9_bestOf 153 = .ok (.iload_n 3, 1) := by decide +kernel
theorem dX9_bestOf_154 : decode cX9_bestOf 154 = .ok (.ireturn, 1) := by decide +kernel
theorem dX9_copyState_0 : decode cX9_copyState 0 = .ok (.iconst 0, 1) := by decide +kernel
theorem dX9_copyState_1 : decode cX9_copyState 1 = .ok (.istore_n 1, 1) := by decide +kernel
theorem dX9_copyState_2 : decode cX9_copyState 2 = .ok (.iload_n 1, 1) := by decide +kernel
theorem dX9_copyState_3 : decode cX9_copyState 3 = .ok (.bipush 45, 2) := by decide +kernel
theorem dX9_copyState_5 : decode cX9_copyState 5 = .ok (.if_icmp .ge 21, 3) := by decide +kernel
theorem dX9_copyState_8 : decode cX9_copyState 8 = .ok (.aload_n 0, 1) := by decide +kernel
theorem dX9_copyState_9 : decode cX9_copyState 9 = .ok (.getfield 29, 3) := by decide +kernel
theorem dX9_copyState_12 : decode cX9_copyState 12 = .ok (.iload_n 1, 1) := by decide +kernel
theorem dX9_copyState_13 : decode cX9_copyState 13 = .ok (.aload_n 0, 1) := by decide +kernel
theorem dX9_copyState_14 : decode cX9_copyState 14 = .ok (.getfield 32, 3) := by decide +kernel
theorem dX9_copyState_17 : decode cX9_copyState 17 = .ok (.iload_n 1, 1) := by decide +kernel
theorem dX9_copyState_18 : decode cX9_copyState 18 = .ok (.iaload, 1) := by decide +kernel
theorem dX9_copyState_19 : decode cX9_copyState 19 = .ok (.iastore, 1) := by decide +kernel
theorem dX9_copyState_20 : decode cX9_copyState 20 = .ok (.iinc 1 1, 3) := by decide +kernel
theorem dX9_copyState_23 : decode cX9_copyState 23 = .ok (.goto (-21), 3) := by decide +kernel
theorem dX9_copyState_26 : decode cX9_copyState 26 = .ok (.return_, 1) := by decide +kernel
theorem dX9_heightIn_0 : decode cX9_heightIn 0 = .ok (.iconst 0, 1) := by decide +kernel
theorem dX9_heightIn_1 : decode cX9_heightIn 1 = .ok (.istore_n 3, 1) := by decide +kernel
theorem dX9_heightIn_2 : decode cX9_heightIn 2 = .ok (.iload_n 2, 1) := by decide +kernel
theorem dX9_heightIn_3 : decode cX9_heightIn 3 = .ok (.iconst 1, 1) := by decide +kernel
theorem dX9_heightIn_4 : decode cX9_heightIn 4 = .ok (.iadd, 1) := by decide +kernel
theorem dX9_heightIn_5 : decode cX9_heightIn 5 = .ok (.istore 4, 2) := by decide +kernel
theorem dX9_heightIn_7 : decode cX9_heightIn 7 = .ok (.iload 4, 2) := by decide +kernel
theorem dX9_heightIn_9 : decode cX9_heightIn 9 = .ok (.bipush 6, 2) := by decide +kernel
theorem dX9_heightIn_11 : decode cX9_heightIn 11 = .ok (.if_icmp .ge 29, 3) := by decide +kernel
theorem dX9_heightIn_14 : decode cX9_heightIn 14 = .ok (.iload_n 3, 1) := by decide +kernel
theorem dX9_heightIn_15 : decode cX9_heightIn 15 = .ok (.aload_n 0, 1) := by decide +kernel
theorem dX9_heightIn_16 : decode cX9_heightIn 16 = .ok (.getfield 49, 3) := by decide +kernel
theorem dX9_heightIn_19 : decode cX9_heightIn 19 = .ok (.iload 4, 2) := by decide +kernel
theorem dX9_heightIn_21 : decode cX9_heightIn 21 = .ok (.invokestatic 52, 3) := by decide +kernel
theorem dX9_heightIn_24 : decode cX9_heightIn 24 = .ok (.ifCond .eq 7, 3) := by decide +kernel
theorem dX9_heightIn_27 : decode cX9_heightIn 27 = .ok (.iconst 1, 1) := by decide +kernel
theorem dX9_heightIn_28 : decode cX9_heightIn 28 = .ok (.goto 4, 3) := by decide +kernel
theorem dX9_heightIn_31 : decode cX9_heightIn 31 = .ok (.iconst 0, 1) := by decide +kernel
theorem dX9_heightIn_32 : decode cX9_heightIn 32 = .ok (.iadd, 1) := by decide +kernel
theorem dX9_heightIn_33 : decode cX9_heightIn 33 = .ok (.istore_n 3, 1) := by decide +kernel
theorem dX9_heightIn_34 : decode cX9_heightIn 34 = .ok (.iinc 4 1, 3) := by decide +kernel
theorem dX9_heightIn_37 : decode cX9_heightIn 37 = .ok (.goto (-30), 3) := by decide +kernel
theorem dX9_heightIn_40 : decode cX9_heightIn 40 = .ok (.iload_n 1, 1) := by decide +kernel
theorem dX9_heightIn_41 : decode cX9_heightIn 41 = .ok (.iconst 2, 1) := by decide +kernel
theorem dX9_heightIn_42 : decode cX9_heightIn 42 = .ok (.iload_n 3, 1) := by decide +kernel
theorem dX9_heightIn_43 : decode cX9_heightIn 43 = .ok (.imul, 1) := by decide +kernel
theorem dX9_heightIn_44 : decode cX9_heightIn 44 = .ok (.ishr, 1) := by decide +kernel
theorem dX9_heightIn_45 : decode cX9_heightIn 45 = .ok (.iconst 3, 1) := by decide +kernel
theorem dX9_heightIn_46 : decode cX9_heightIn 46 = .ok (.iand, 1) := by decide +kernel
theorem dX9_heightIn_47 : decode cX9_heightIn 47 = .ok (.ireturn, 1) := by decide +kernel
theorem dX9_best_0 : decode cX9_best 0 = .ok (.iload_n 1, 1) := by decide +kernel
theorem dX9_best_1 : decode cX9_best 1 = .ok (.iconst (-1), 1) := by decide +kernel
theorem dX9_best_2 : decode cX9_best 2 = .ok (.if_icmp .eq 14, 3) := by decide +kernel
theorem dX9_best_5 : decode cX9_best 5 = .ok (.aload_n 0, 1) := by decide +kernel
theorem dX9_best_6 : decode cX9_best 6 = .ok (.iload_n 1, 1) := by decide +kernel
theorem dX9_best_7 : decode cX9_best 7 = .ok (.invokevirtual 171, 3) := by decide +kernel
theorem dX9_best_10 : decode cX9_best 10 = .ok (.ifCond .ne 6, 3) := by decide +kernel
theorem dX9_best_13 : decode cX9_best 13 = .ok (.bipush (-2), 2) := by decide +kernel
theorem dX9_best_15 : decode cX9_best 15 = .ok (.ireturn, 1) := by decide +kernel
theorem dX9_best_16 : decode cX9_best 16 = .ok (.aload_n 0, 1) := by decide +kernel
theorem dX9_best_17 : decode cX9_best 17 = .ok (.getfield 29, 3) := by decide +kernel
theorem dX9_best_20 : decode cX9_best 20 = .ok (.iconst 0, 1) := by decide +kernel
theorem dX9_best_21 : decode cX9_best 21 = .ok (.iaload, 1) := by decide +kernel
theorem dX9_best_22 : decode cX9_best 22 = .ok (.bipush 12, 2) := by decide +kernel
theorem dX9_best_24 : decode cX9_best 24 = .ok (.if_icmp .ne 6, 3) := by decide +kernel
theorem dX9_best_27 : decode cX9_best 27 = .ok (.bipush (-4), 2) := by decide +kernel
theorem dX9_best_29 : decode cX9_best 29 = .ok (.ireturn, 1) := by decide +kernel
theorem dX9_best_30 : decode cX9_best 30 = .ok (.aload_n 0, 1) := by decide +kernel
theorem dX9_best_31 : decode cX9_best 31 = .ok (.iconst 0, 1) := by decide +kernel
theorem dX9_best_32 : decode cX9_best 32 = .ok (.invokevirtual 225, 3) := by decide +kernel
theorem dX9_best_35 : decode cX9_best 35 = .ok (.istore_n 2, 1) := by decide +kernel
theorem dX9_best_36 : decode cX9_best 36 = .ok (.iload_n 1, 1) := by decide +kernel
theorem dX9_best_37 : decode cX9_best 37 = .ok (.iconst (-1), 1) := by decide +kernel
theorem dX9_best_38 : decode cX9_best 38 = .ok (.if_icmp .ne 10, 3) := by decide +kernel
theorem dX9_best_41 : decode cX9_best 41 = .ok (.aload_n 0, 1) := by decide +kernel
theorem dX9_best_42 : decode cX9_best 42 = .ok (.getfield 213, 3) := by decide +kernel
theorem dX9_best_45 : decode cX9_best 45 = .ok (.goto 9, 3) := by decide +kernel
theorem dX9_best_48 : decode cX9_best 48 = .ok (.aload_n 0, 1) := by decide +kernel
theorem dX9_best_49 : decode cX9_best 49 = .ok (.iload_n 2, 1) := by decide +kernel
theorem dX9_best_50 : decode cX9_best 50 = .ok (.iload_n 1, 1) := by decide +kernel
theorem dX9_best_51 : decode cX9_best 51 = .ok (.invokevirtual 229, 3) := by decide +kernel
theorem dX9_best_54 : decode cX9_best 54 = .ok (.ireturn, 1) := by decide +kernel
theorem dX9_allDay_0 : decode cX9_allDay 0 = .ok (.iload_n 1, 1) := by decide +kernel
theorem dX9_allDay_1 : decode cX9_allDay 1 = .ok (.iconst (-1), 1) := by decide +kernel
theorem dX9_allDay_2 : decode cX9_allDay 2 = .ok (.if_icmp .eq 14, 3) := by decide +kernel
theorem dX9_allDay_5 : decode cX9_allDay 5 = .ok (.aload_n 0, 1) := by decide +kernel
theorem dX9_allDay_6 : decode cX9_allDay 6 = .ok (.iload_n 1, 1) := by decide +kernel
theorem dX9_allDay_7 : decode cX9_allDay 7 = .ok (.invokevirtual 171, 3) := by decide +kernel
theorem dX9_allDay_10 : decode cX9_allDay 10 = .ok (.ifCond .ne 6, 3) := by decide +kernel
theorem dX9_allDay_13 : decode cX9_allDay 13 = .ok (.bipush (-2), 2) := by decide +kernel
theorem dX9_allDay_15 : decode cX9_allDay 15 = .ok (.ireturn, 1) := by decide +kernel
theorem dX9_allDay_16 : decode cX9_allDay 16 = .ok (.aload_n 0, 1) := by decide +kernel
theorem dX9_allDay_17 : decode cX9_allDay 17 = .ok (.iconst 1, 1) := by decide +kernel
theorem dX9_allDay_18 : decode cX9_allDay 18 = .ok (.invokevirtual 225, 3) := by decide +kernel
theorem dX9_allDay_21 : decode cX9_allDay 21 = .ok (.istore_n 2, 1) := by decide +kernel
theorem dX9_allDay_22 : decode cX9_allDay 22 = .ok (.iload_n 1, 1) := by decide +kernel
theorem dX9_allDay_23 : decode cX9_allDay 23 = .ok (.iconst (-1), 1) := by decide +kernel
theorem dX9_allDay_24 : decode cX9_allDay 24 = .ok (.if_icmp .ne 10, 3) := by decide +kernel
theorem dX9_allDay_27 : decode cX9_allDay 27 = .ok (.aload_n 0, 1) := by decide +kernel
theorem dX9_allDay_28 : decode cX9_allDay 28 = .ok (.getfield 213, 3) := by decide +kernel
theorem dX9_allDay_31 : decode cX9_allDay 31 = .ok (.goto 9, 3) := by decide +kernel
theorem dX9_allDay_34 : decode cX9_allDay 34 = .ok (.aload_n 0, 1) := by decide +kernel
theorem dX9_allDay_35 : decode cX9_allDay 35 = .ok (.iload_n 2, 1) := by decide +kernel
theorem dX9_allDay_36 : decode cX9_allDay 36 = .ok (.iload_n 1, 1) := by decide +kernel
theorem dX9_allDay_37 : decode cX9_allDay 37 = .ok (.invokevirtual 229, 3) := by decide +kernel
theorem dX9_allDay_40 : decode cX9_allDay 40 = .ok (.ireturn, 1) := by decide +kernel
theorem dX9_laws_0 : decode cX9_laws 0 = .ok (.iload_n 1, 1) := by decide +kernel
theorem dX9_laws_1 : decode cX9_laws 1 = .ok (.iconst 0, 1) := by decide +kernel
theorem dX9_laws_2 : decode cX9_laws 2 = .ok (.iconst 1, 1) := by decide +kernel
theorem dX9_laws_3 : decode cX9_laws 3 = .ok (.invokestatic 45, 3) := by decide +kernel
theorem dX9_laws_6 : decode cX9_laws 6 = .ok (.ifCond .ne 6, 3) := by decide +kernel
theorem dX9_laws_9 : decode cX9_laws 9 = .ok (.bipush (-3), 2) := by decide +kernel
theorem dX9_laws_11 : decode cX9_laws 11 = .ok (.ireturn, 1) := by decide +kernel
theorem dX9_laws_12 : decode cX9_laws 12 = .ok (.aload_n 0, 1) := by decide +kernel
theorem dX9_laws_13 : decode cX9_laws 13 = .ok (.getfield 152, 3) := by decide +kernel
theorem dX9_laws_16 : decode cX9_laws 16 = .ok (.istore_n 2, 1) := by decide +kernel
theorem dX9_laws_17 : decode cX9_laws 17 = .ok (.iconst (-1), 1) := by decide +kernel
theorem dX9_laws_18 : decode cX9_laws 18 = .ok (.istore_n 3, 1) := by decide +kernel
theorem dX9_laws_19 : decode cX9_laws 19 = .ok (.iconst (-1), 1) := by decide +kernel
theorem dX9_laws_20 : decode cX9_laws 20 = .ok (.istore 4, 2) := by decide +kernel
theorem dX9_laws_22 : decode cX9_laws 22 = .ok (.aload_n 0, 1) := by decide +kernel
theorem dX9_laws_23 : decode cX9_laws 23 = .ok (.getfield 29, 3) := by decide +kernel
theorem dX9_laws_26 : decode cX9_laws 26 = .ok (.iconst 0, 1) := by decide +kernel
theorem dX9_laws_27 : decode cX9_laws 27 = .ok (.aload_n 0, 1) := by decide +kernel
theorem dX9_laws_28 : decode cX9_laws 28 = .ok (.getfield 32, 3) := by decide +kernel
theorem dX9_laws_31 : decode cX9_laws 31 = .ok (.iconst 0, 1) := by decide +kernel
theorem dX9_laws_32 : decode cX9_laws 32 = .ok (.invokestatic 205, 3) := by decide +kernel
theorem dX9_laws_35 : decode cX9_laws 35 = .ok (.iconst 0, 1) := by decide +kernel
theorem dX9_laws_36 : decode cX9_laws 36 = .ok (.istore 5, 2) := by decide +kernel
theorem dX9_laws_38 : decode cX9_laws 38 = .ok (.iload 5, 2) := by decide +kernel
theorem dX9_laws_40 : decode cX9_laws 40 = .ok (.iconst 3, 1) := by decide +kernel
theorem dX9_laws_41 : decode cX9_laws 41 = .ok (.if_icmp .ge 77, 3) := by decide +kernel
theorem dX9_laws_44 : decode cX9_laws 44 = .ok (.aload_n 0, 1) := by decide +kernel
theorem dX9_laws_45 : decode cX9_laws 45 = .ok (.iload 5, 2) := by decide +kernel
theorem dX9_laws_47 : decode cX9_laws 47 = .ok (.putfield 152, 3) := by decide +kernel
theorem dX9_laws_50 : decode cX9_laws 50 = .ok (.aload_n 0, 1) := by decide +kernel
theorem dX9_laws_51 : decode cX9_laws 51 = .ok (.invokevirtual 216, 3) := by decide +kernel
theorem dX9_laws_54 : decode cX9_laws 54 = .ok (.aload_n 0, 1) := by decide +kernel
theorem dX9_laws_55 : decode cX9_laws 55 = .ok (.invokevirtual 158, 3) := by decide +kernel
theorem dX9_laws_58 : decode cX9_laws 58 = .ok (.aload_n 0, 1) := by decide +kernel
theorem dX9_laws_59 : decode cX9_laws 59 = .ok (.getfield 29, 3) := by decide +kernel
theorem dX9_laws_62 : decode cX9_laws 62 = .ok (.iconst 0, 1) := by decide +kernel
theorem dX9_laws_63 : decode cX9_laws 63 = .ok (.iaload, 1) := by decide +kernel
theorem dX9_laws_64 : decode cX9_laws 64 = .ok (.bipush 12, 2) := by decide +kernel
theorem dX9_laws_66 : decode cX9_laws 66 = .ok (.if_icmp .ge 10, 3) := by decide +kernel
theorem dX9_laws_69 : decode cX9_laws 69 = .ok (.aload_n 0, 1) := by decide +kernel
theorem dX9_laws_70 : decode cX9_laws 70 = .ok (.invokevirtual 202, 3) := by decide +kernel
theorem dX9_laws_73 : decode cX9_laws 73 = .ok (.goto (-15), 3) := by decide +kernel
theorem dX9_laws_76 : decode cX9_laws 76 = .ok (.aload_n 0, 1) := by decide +kernel
theorem dX9_laws_77 : decode cX9_laws 77 = .ok (.invokevirtual 222, 3) := by decide +kernel
theorem dX9_laws_80 : decode cX9_laws 80 = .ok (.iload 4, 2) := by decide +kernel
theorem dX9_laws_82 : decode cX9_laws 82 = .ok (.if_icmp .le 8, 3) := by decide +kernel
theorem dX9_laws_85 : decode cX9_laws 85 = .ok (.iload 5, 2) := by decide +kernel
theorem dX9_laws_87 : decode cX9_laws 87 = .ok (.goto 4, 3) := by decide +kernel
theorem dX9_laws_90 : decode cX9_laws 90 = .ok (.iload_n 3, 1) := by decide +kernel
theorem dX9_laws_91 : decode cX9_laws 91 = .ok (.istore_n 3, 1) := by decide +kernel
theorem dX9_laws_92 : decode cX9_laws 92 = .ok (.aload_n 0, 1) := by decide +kernel
theorem dX9_laws_93 : decode cX9_laws 93 = .ok (.invokevirtual 222, 3) := by decide +kernel
theorem dX9_laws_96 : decode cX9_laws 96 = .ok (.iload 4, 2) := by decide +kernel
theorem dX9_laws_98 : decode cX9_laws 98 = .ok (.if_icmp .le 10, 3) := by decide +kernel
theorem dX9_laws_101 : decode cX9_laws 101 = .ok (.aload_n 0, 1) := by decide +kernel
theorem dX9_laws_102 : decode cX9_laws 102 = .ok (.invokevirtual 222, 3) := by decide +kernel
theorem dX9_laws_105 : decode cX9_laws 105 = .ok (.goto 5, 3) := by decide +kernel
theorem dX9_laws_108 : decode cX9_laws 108 = .ok (.iload 4, 2) := by decide +kernel
theorem dX9_laws_110 : decode cX9_laws 110 = .ok (.istore 4, 2) := by decide +kernel
theorem dX9_laws_112 : decode cX9_laws 112 = .ok (.iinc 5 1, 3) := by decide +kernel
theorem dX9_laws_115 : decode cX9_laws 115 = .ok (.goto (-77), 3) := by decide +kernel
theorem dX9_laws_118 : decode cX9_laws 118 = .ok (.aload_n 0, 1) := by decide +kernel
theorem dX9_laws_119 : decode cX9_laws 119 = .ok (.getfield 32, 3) := by decide +kernel
theorem dX9_laws_122 : decode cX9_laws 122 = .ok (.iconst 0, 1) := by decide +kernel
theorem dX9_laws_123 : decode cX9_laws 123 = .ok (.aload_n 0, 1) := by decide +kernel
theorem dX9_laws_124 : decode cX9_laws 124 = .ok (.getfield 29, 3) := by decide +kernel
theorem dX9_laws_127 : decode cX9_laws 127 = .ok (.iconst 0, 1) := by decide +kernel
theorem dX9_laws_128 : decode cX9_laws 128 = .ok (.invokestatic 205, 3) := by decide +kernel
theorem dX9_laws_131 : decode cX9_laws 131 = .ok (.aload_n 0, 1) := by decide +kernel
theorem dX9_laws_132 : decode cX9_laws 132 = .ok (.iload_n 2, 1) := by decide +kernel
theorem dX9_laws_133 : decode cX9_laws 133 = .ok (.putfield 152, 3) := by decide +kernel
theorem dX9_laws_136 : decode cX9_laws 136 = .ok (.iload_n 1, 1) := by decide +kernel
theorem dX9_laws_137 : decode cX9_laws 137 = .ok (.ifCond .ne 7, 3) := by decide +kernel
theorem dX9_laws_140 : decode cX9_laws 140 = .ok (.iload_n 3, 1) := by decide +kernel
theorem dX9_laws_141 : decode cX9_laws 141 = .ok (.goto 5, 3) := by decide +kernel
theorem dX9_laws_144 : decode cX9_laws 144 = .ok (.iload 4, 2) := by decide +kernel
theorem dX9_laws_146 : decode cX9_laws 146 = .ok (.ireturn, 1) := by decide +kernel
theorem dX9_part_0 : decode cX9_part 0 = .ok (.lload_n 0, 1) := by decide +kernel
theorem dX9_part_1 : decode cX9_part 1 = .ok (.lstore 5, 2) := by decide +kernel
theorem dX9_part_3 : decode cX9_part 3 = .ok (.lload_n 2, 1) := by decide +kernel
theorem dX9_part_4 : decode cX9_part 4 = .ok (.lstore 7, 2) := by decide +kernel
theorem dX9_part_6 : decode cX9_part 6 = .ok (.lload 7, 2) := by decide +kernel
theorem dX9_part_8 : decode cX9_part 8 = .ok (.lconst 0, 1) := by decide +kernel
theorem dX9_part_9 : decode cX9_part 9 = .ok (.lcmp, 1) := by decide +kernel
theorem dX9_part_10 : decode cX9_part 10 = .ok (.ifCond .eq 21, 3) := by decide +kernel
theorem dX9_part_13 : decode cX9_part 13 = .ok (.lload 5, 2) := by decide +kernel
theorem dX9_part_15 : decode cX9_part 15 = .ok (.lload 7, 2) := by decide +kernel
theorem dX9_part_17 : decode cX9_part 17 = .ok (.lrem, 1) := by decide +kernel
theorem dX9_part_18 : decode cX9_part 18 = .ok (.lstore 9, 2) := by decide +kernel
theorem dX9_part_20 : decode cX9_part 20 = .ok (.lload 7, 2) := by decide +kernel
theorem dX9_part_22 : decode cX9_part 22 = .ok (.lstore 5, 2) := by decide +kernel
theorem dX9_part_24 : decode cX9_part 24 = .ok (.lload 9, 2) := by decide +kernel
theorem dX9_part_26 : decode cX9_part 26 = .ok (.lstore 7, 2) := by decide +kernel
theorem dX9_part_28 : decode cX9_part 28 = .ok (.goto (-22), 3) := by decide +kernel
theorem dX9_part_31 : decode cX9_part 31 = .ok (.iload 4, 2) := by decide +kernel
theorem dX9_part_33 : decode cX9_part 33 = .ok (.ifCond .ne 7, 3) := by decide +kernel
theorem dX9_part_36 : decode cX9_part 36 = .ok (.lload_n 0, 1) := by decide +kernel
theorem dX9_part_37 : decode cX9_part 37 = .ok (.goto 4, 3) := by decide +kernel
theorem dX9_part_40 : decode cX9_part 40 = .ok (.lload_n 2, 1) := by decide +kernel
theorem dX9_part_41 : decode cX9_part 41 = .ok (.lload 5, 2) := by decide +kernel
theorem dX9_part_43 : decode cX9_part 43 = .ok (.ldiv, 1) := by decide +kernel
theorem dX9_part_44 : decode cX9_part 44 = .ok (.lreturn, 1) := by decide +kernel
theorem dX9_food_0 : decode cX9_food 0 = .ok (.iload_n 1, 1) := by decide +kernel
theorem dX9_food_1 : decode cX9_food 1 = .ok (.iconst 0, 1) := by decide +kernel
theorem dX9_food_2 : decode cX9_food 2 = .ok (.sipush 999, 3) := by decide +kernel
theorem dX9_food_5 : decode cX9_food 5 = .ok (.invokestatic 45, 3) := by decide +kernel
theorem dX9_food_8 : decode cX9_food 8 = .ok (.ifCond .eq 55, 3) := by decide +kernel
theorem dX9_food_11 : decode cX9_food 11 = .ok (.iload_n 2, 1) := by decide +kernel
theorem dX9_food_12 : decode cX9_food 12 = .ok (.iconst 1, 1) := by decide +kernel
theorem dX9_food_13 : decode cX9_food 13 = .ok (.bipush 99, 2) := by decide +kernel
theorem dX9_food_15 : decode cX9_food 15 = .ok (.invokestatic 45, 3) := by decide +kernel
theorem dX9_food_18 : decode cX9_food 18 = .ok (.ifCond .eq 45, 3) := by decide +kernel
theorem dX9_food_21 : decode cX9_food 21 = .ok (.iload_n 3, 1) := by decide +kernel
theorem dX9_food_22 : decode cX9_food 22 = .ok (.iconst 0, 1) := by decide +kernel
theorem dX9_food_23 : decode cX9_food 23 = .ok (.bipush 99, 2) := by decide +kernel
theorem dX9_food_25 : decode cX9_food 25 = .ok (.invokestatic 45, 3) := by decide +kernel
theorem dX9_food_28 : decode cX9_food 28 = .ok (.ifCond .eq 35, 3) := by decide +kernel
theorem dX9_food_31 : decode cX9_food 31 = .ok (.iload 4, 2) := by decide +kernel
theorem dX9_food_33 : decode cX9_food 33 = .ok (.iconst 0, 1) := by decide +kernel
theorem dX9_food_34 : decode cX9_food 34 = .ok (.bipush 10, 2) := by decide +kernel
theorem dX9_food_36 : decode cX9_food 36 = .ok (.invokestatic 45, 3) := by decide +kernel
theorem dX9_food_39 : decode cX9_food 39 = .ok (.ifCond .eq 24, 3) := by decide +kernel
theorem dX9_food_42 : decode cX9_food 42 = .ok (.iload 5, 2) := by decide +kernel
theorem dX9_food_44 : decode cX9_food 44 = .ok (.iconst 0, 1) := by decide +kernel
theorem dX9_food_45 : decode cX9_food 45 = .ok (.bipush 8, 2) := by decide +kernel
theorem dX9_food_47 : decode cX9_food 47 = .ok (.invokestatic 45, 3) := by decide +kernel
theorem dX9_food_50 : decode cX9_food 50 = .ok (.ifCond .eq 13, 3) := by decide +kernel
theorem dX9_food_53 : decode cX9_food 53 = .ok (.iload 6, 2) := by decide +kernel
theorem dX9_food_55 : decode cX9_food 55 = .ok (.iconst 0, 1) := by decide +kernel
theorem dX9_food_56 : decode cX9_food 56 = .ok (.iconst 1, 1) := by decide +kernel
theorem dX9_food_57 : decode cX9_food 57 = .ok (.invokestatic 45, 3) := by decide +kernel
theorem dX9_food_60 : decode cX9_food 60 = .ok (.ifCond .ne 7, 3) := by decide +kernel
theorem dX9_food_63 : decode cX9_food 63 = .ok (.ldc2_w 87, 3) := by decide +kernel
theorem dX9_food_66 : decode cX9_food 66 = .ok (.lreturn, 1) := by decide +kernel
theorem dX9_food_67 : decode cX9_food 67 = .ok (.lconst 0, 1) := by decide +kernel
theorem dX9_food_68 : decode cX9_food 68 = .ok (.lstore 7, 2) := by decide +kernel
theorem dX9_food_70 : decode cX9_food 70 = .ok (.lconst 1, 1) := by decide +kernel
theorem dX9_food_71 : decode cX9_food 71 = .ok (.lstore 9, 2) := by decide +kernel
theorem dX9_food_73 : decode cX9_food 73 = .ok (.iconst 0, 1) := by decide +kernel
theorem dX9_food_74 : decode cX9_food 74 = .ok (.istore 11, 2) := by decide +kernel
theorem dX9_food_76 : decode cX9_food 76 = .ok (.iload 11, 2) := by decide +kernel
theorem dX9_food_78 : decode cX9_food 78 = .ok (.iconst 1, 1) := by decide +kernel
theorem dX9_food_79 : decode cX9_food 79 = .ok (.iload 5, 2) := by decide +kernel
theorem dX9_food_81 : decode cX9_food 81 = .ok (.ishl, 1) := by decide +kernel
theorem dX9_food_82 : decode cX9_food 82 = .ok (.if_icmp .ge 113, 3) := by decide +kernel
theorem dX9_food_85 : decode cX9_food 85 = .ok (.iload_n 1, 1) := by decide +kernel
theorem dX9_food_86 : decode cX9_food 86 = .ok (.istore 12, 2) := by decide +kernel
theorem dX9_food_88 : decode cX9_food 88 = .ok (.lconst 1, 1) := by decide +kernel
theorem dX9_food_89 : decode cX9_food 89 = .ok (.lstore 13, 2) := by decide +kernel
theorem dX9_food_91 : decode cX9_food 91 = .ok (.iconst 0, 1) := by decide +kernel
theorem dX9_food_92 : decode cX9_food 92 = .ok (.istore 15, 2) := by decide +kernel
theorem dX9_food_94 : decode cX9_food 94 = .ok (.iload 15, 2) := by decide +kernel
theorem dX9_food_96 : decode cX9_food 96 = .ok (.iload 5, 2) := by decide +kernel
theorem dX9_food_98 : decode cX9_food 98 = .ok (.if_icmp .ge 75, 3) := by decide +kernel
theorem dX9_food_101 : decode cX9_food 101 = .ok (.iload 11, 2) := by decide +kernel
theorem dX9_food_103 : decode cX9_food 103 = .ok (.iload 15, 2) := by decide +kernel
theorem dX9_food_105 : decode cX9_food 105 = .ok (.invokestatic 52, 3) := by decide +kernel
theorem dX9_food_108 : decode cX9_food 108 = .ok (.istore 16, 2) := by decide +kernel
theorem dX9_food_110 : decode cX9_food 110 = .ok (.lload 13, 2) := by decide +kernel
theorem dX9_food_112 : decode cX9_food 112 = .ok (.iload 16, 2) := by decide +kernel
theorem dX9_food_114 : decode cX9_food 114 = .ok (.ifCond .eq 9, 3) := by decide +kernel
theorem dX9_food_117 : decode cX9_food 117 = .ok (.iload 4, 2) := by decide +kernel
theorem dX9_food_119 : decode cX9_food 119 = .ok (.i2l, 1) := by decide +kernel
theorem dX9_food_120 : decode cX9_food 120 = .ok (.goto 9, 3) := by decide +kernel
theorem dX9_food_123 : decode cX9_food 123 = .ok (.bipush 10, 2) := by decide +kernel
theorem dX9_food_125 : decode cX9_food 125 = .ok (.iload 4, 2) := by decide +kernel
theorem dX9_food_127 : decode cX9_food 127 = .ok (.isub, 1) := by decide +kernel
theorem dX9_food_128 : decode cX9_food 128 = .ok (.i2l, 1) := by decide +kernel
theorem dX9_food_129 : decode cX9_food 129 = .ok (.lmul, 1) := by decide +kernel
theorem dX9_food_130 : decode cX9_food 130 = .ok (.lstore 13, 2) := by decide +kernel
theorem dX9_food_132 : decode cX9_food 132 = .ok (.iload 12, 2) := by decide +kernel
theorem dX9_food_134 : decode cX9_food 134 = .ok (.iload 12, 2) := by decide +kernel
theorem dX9_food_136 : decode cX9_food 136 = .ok (.ifCond .lt 8, 3) := by decide +kernel
theorem dX9_food_139 : decode cX9_food 139 = .ok (.iload 16, 2) := by decide +kernel
theorem dX9_food_141 : decode cX9_food 141 = .ok (.ifCond .eq 7, 3) := by decide +kernel
theorem dX9_food_144 : decode cX9_food 144 = .ok (.iconst 0, 1) := by decide +kernel
theorem dX9_food_145 : decode cX9_food 145 = .ok (.goto 4, 3) := by decide +kernel
theorem dX9_food_148 : decode cX9_food 148 = .ok (.iload_n 3, 1) := by decide +kernel
theorem dX9_food_149 : decode cX9_food 149 = .ok (.iadd, 1) := by decide +kernel
theorem dX9_food_150 : decode cX9_food 150 = .ok (.istore 12, 2) := by decide +kernel
theorem dX9_food_152 : decode cX9_food 152 = .ok (.iload 12, 2) := by decide +kernel
theorem dX9_food_154 : decode cX9_food 154 = .ok (.iload 12, 2) := by decide +kernel
theorem dX9_food_156 : decode cX9_food 156 = .ok (.ifCond .ge 7, 3) := by decide +kernel
theorem dX9_food_159 : decode cX9_food 159 = .ok (.iconst 0, 1) := by decide +kernel
theorem dX9_food_160 : decode cX9_food 160 = .ok (.goto 4, 3) := by decide +kernel
theorem dX9_food_163 : decode cX9_food 163 = .ok (.iload_n 2, 1) := by decide +kernel
theorem dX9_food_164 : decode cX9_food 164 = .ok (.isub, 1) := by decide +kernel
theorem dX9_food_165 : decode cX9_food 165 = .ok (.istore 12, 2) := by decide +kernel
theorem dX9_food_167 : decode cX9_food 167 = .ok (.iinc 15 1, 3) := by decide +kernel
theorem dX9_food_170 : decode cX9_food 170 = .ok (.goto (-76), 3) := by decide +kernel
theorem dX9_food_173 : decode cX9_food 173 = .ok (.lload 7, 2) := by decide +kernel
theorem dX9_food_175 : decode cX9_food 175 = .ok (.iload 12, 2) := by decide +kernel
theorem dX9_food_177 : decode cX9_food 177 = .ok (.ifCond .ge 7, 3) := by decide +kernel
theorem dX9_food_180 : decode cX9_food 180 = .ok (.lconst 0, 1) := by decide +kernel
theorem dX9_food_181 : decode cX9_food 181 = .ok (.goto 5, 3) := by decide +kernel
theorem dX9_food_184 : decode cX9_food 184 = .ok (.lload 13, 2) := by decide +kernel
theorem dX9_food_186 : decode cX9_food 186 = .ok (.ladd, 1) := by decide +kernel
theorem dX9_food_187 : decode cX9_food 187 = .ok (.lstore 7, 2) := by decide +kernel
theorem dX9_food_189 : decode cX9_food 189 = .ok (.iinc 11 1, 3) := by decide +kernel
theorem dX9_food_192 : decode cX9_food 192 = .ok (.goto (-116), 3) := by decide +kernel
theorem dX9_food_195 : decode cX9_food 195 = .ok (.iconst 0, 1) := by decide +kernel
theorem dX9_food_196 : decode cX9_food 196 = .ok (.istore 11, 2) := by decide +kernel
theorem dX9_food_198 : decode cX9_food 198 = .ok (.iload 11, 2) := by decide +kernel
theorem dX9_food_200 : decode cX9_food 200 = .ok (.iload 5, 2) := by decide +kernel
theorem dX9_food_202 : decode cX9_food 202 = .ok (.if_icmp .ge 17, 3) := by decide +kernel
theorem dX9_food_205 : decode cX9_food 205 = .ok (.lload 9, 2) := by decide +kernel
theorem dX9_food_207 : decode cX9_food 207 = .ok (.ldc2_w 232, 3) := by decide +kernel
theorem dX9_food_210 : decode cX9_food 210 = .ok (.lmul, 1) := by decide +kernel
theorem dX9_food_211 : decode cX9_food 211 = .ok (.lstore 9, 2) := by decide +kernel
theorem dX9_food_213 : decode cX9_food 213 = .ok (.iinc 11 1, 3) := by decide +kernel
theorem dX9_food_216 : decode cX9_food 216 = .ok (.goto (-18), 3) := by decide +kernel
theorem dX9_food_219 : decode cX9_food 219 = .ok (.lload 7, 2) := by decide +kernel
theorem dX9_food_221 : decode cX9_food 221 = .ok (.lload 9, 2) := by decide +kernel
theorem dX9_food_223 : decode cX9_food 223 = .ok (.iload 6, 2) := by decide +kernel
theorem dX9_food_225 : decode cX9_food 225 = .ok (.invokestatic 234, 3) := by decide +kernel
theorem dX9_food_228 : decode cX9_food 228 = .ok (.lreturn, 1) := by decide +kernel
theorem dX9_cut_0 : decode cX9_cut 0 = .ok (.aload_n 0, 1) := by decide +kernel
theorem dX9_cut_1 : decode cX9_cut 1 = .ok (.iload_n 1, 1) := by decide +kernel
theorem dX9_cut_2 : decode cX9_cut 2 = .ok (.invokevirtual 171, 3) := by decide +kernel
theorem dX9_cut_5 : decode cX9_cut 5 = .ok (.ifCond .eq 10, 3) := by decide +kernel
theorem dX9_cut_8 : decode cX9_cut 8 = .ok (.iload_n 2, 1) := by decide +kernel
theorem dX9_cut_9 : decode cX9_cut 9 = .ok (.invokestatic 168, 3) := by decide +kernel
theorem dX9_cut_12 : decode cX9_cut 12 = .ok (.ifCond .ne 7, 3) := by decide +kernel
theorem dX9_cut_15 : decode cX9_cut 15 = .ok (.ldc2_w 73, 3) := by decide +kernel
theorem dX9_cut_18 : decode cX9_cut 18 = .ok (.lreturn, 1) := by decide +kernel
theorem dX9_cut_19 : decode cX9_cut 19 = .ok (.iload_n 3, 1) := by decide +kernel
theorem dX9_cut_20 : decode cX9_cut 20 = .ok (.iconst 0, 1) := by decide +kernel
theorem dX9_cut_21 : decode cX9_cut 21 = .ok (.bipush 40, 2) := by decide +kernel
theorem dX9_cut_23 : decode cX9_cut 23 = .ok (.invokestatic 45, 3) := by decide +kernel
theorem dX9_cut_26 : decode cX9_cut 26 = .ok (.ifCond .eq 24, 3) := by decide +kernel
theorem dX9_cut_29 : decode cX9_cut 29 = .ok (.iload 4, 2) := by decide +kernel
theorem dX9_cut_31 : decode cX9_cut 31 = .ok (.iconst 0, 1) := by decide +kernel
theorem dX9_cut_32 : decode cX9_cut 32 = .ok (.bipush 10, 2) := by decide +kernel
theorem dX9_cut_34 : decode cX9_cut 34 = .ok (.invokestatic 45, 3) := by decide +kernel
theorem dX9_cut_37 : decode cX9_cut 37 = .ok (.ifCond .eq 13, 3) := by decide +kernel
theorem dX9_cut_40 : decode cX9_cut 40 = .ok (.iload 5, 2) := by decide +kernel
theorem dX9_cut_42 : decode cX9_cut 42 = .ok (.iconst 0, 1) := by decide +kernel
theorem dX9_cut_43 : decode cX9_cut 43 = .ok (.iconst 1, 1) := by decide +kernel
theorem dX9_cut_44 : decode cX9_cut 44 = .ok (.invokestatic 45, 3) := by decide +kernel
theorem dX9_cut_47 : decode cX9_cut 47 = .ok (.ifCond .ne 7, 3) := by decide +kernel
theorem dX9_cut_50 : decode cX9_cut 50 = .ok (.ldc2_w 87, 3) := by decide +kernel
theorem dX9_cut_53 : decode cX9_cut 53 = .ok (.lreturn, 1) := by decide +kernel
theorem dX9_cut_54 : decode cX9_cut 54 = .ok (.aload_n 0, 1) := by decide +kernel
theorem dX9_cut_55 : decode cX9_cut 55 = .ok (.getfield 29, 3) := by decide +kernel
theorem dX9_cut_58 : decode cX9_cut 58 = .ok (.bipush 7, 2) := by decide +kernel
theorem dX9_cut_60 : decode cX9_cut 60 = .ok (.iload_n 1, 1) := by decide +kernel
theorem dX9_cut_61 : decode cX9_cut 61 = .ok (.iadd, 1) := by decide +kernel
theorem dX9_cut_62 : decode cX9_cut 62 = .ok (.iaload, 1) := by decide +kernel
theorem dX9_cut_63 : decode cX9_cut 63 = .ok (.istore 6, 2) := by decide +kernel
theorem dX9_cut_65 : decode cX9_cut 65 = .ok (.iload 6, 2) := by decide +kernel
theorem dX9_cut_67 : decode cX9_cut 67 = .ok (.ifCond .ne 7, 3) := by decide +kernel
theorem dX9_cut_70 : decode cX9_cut 70 = .ok (.ldc2_w 83, 3) := by decide +kernel
theorem dX9_cut_73 : decode cX9_cut 73 = .ok (.lreturn, 1) := by decide +kernel
theorem dX9_cut_74 : decode cX9_cut 74 = .ok (.lconst 0, 1) := by decide +kernel
theorem dX9_cut_75 : decode cX9_cut 75 = .ok (.lstore 7, 2) := by decide +kernel
theorem dX9_cut_77 : decode cX9_cut 77 = .ok (.lconst 1, 1) := by decide +kernel
theorem dX9_cut_78 : decode cX9_cut 78 = .ok (.lstore 9, 2) := by decide +kernel
theorem dX9_cut_80 : decode cX9_cut 80 = .ok (.iconst 0, 1) := by decide +kernel
theorem dX9_cut_81 : decode cX9_cut 81 = .ok (.istore 11, 2) := by decide +kernel
theorem dX9_cut_83 : decode cX9_cut 83 = .ok (.iload 11, 2) := by decide +kernel
theorem dX9_cut_85 : decode cX9_cut 85 = .ok (.iconst 1, 1) := by decide +kernel
theorem dX9_cut_86 : decode cX9_cut 86 = .ok (.bipush 12, 2) := by decide +kernel
theorem dX9_cut_88 : decode cX9_cut 88 = .ok (.iload_n 2, 1) := by decide +kernel
theorem dX9_cut_89 : decode cX9_cut 89 = .ok (.isub, 1) := by decide +kernel
theorem dX9_cut_90 : decode cX9_cut 90 = .ok (.ishl, 1) := by decide +kernel
theorem dX9_cut_91 : decode cX9_cut 91 = .ok (.if_icmp .ge 119, 3) := by decide +kernel
theorem dX9_cut_94 : decode cX9_cut 94 = .ok (.aload_n 0, 1) := by decide +kernel
theorem dX9_cut_95 : decode cX9_cut 95 = .ok (.iload_n 1, 1) := by decide +kernel
theorem dX9_cut_96 : decode cX9_cut 96 = .ok (.iload 6, 2) := by decide +kernel
theorem dX9_cut_98 : decode cX9_cut 98 = .ok (.iload_n 2, 1) := by decide +kernel
theorem dX9_cut_99 : decode cX9_cut 99 = .ok (.invokevirtual 174, 3) := by decide +kernel
theorem dX9_cut_102 : decode cX9_cut 102 = .ok (.istore 12, 2) := by decide +kernel
theorem dX9_cut_104 : decode cX9_cut 104 = .ok (.lconst 1, 1) := by decide +kernel
theorem dX9_cut_105 : decode cX9_cut 105 = .ok (.lstore 13, 2) := by decide +kernel
theorem dX9_cut_107 : decode cX9_cut 107 = .ok (.iload_n 2, 1) := by decide +kernel
theorem dX9_cut_108 : decode cX9_cut 108 = .ok (.istore 15, 2) := by decide +kernel
theorem dX9_cut_110 : decode cX9_cut 110 = .ok (.iload 15, 2) := by decide +kernel
theorem dX9_cut_112 : decode cX9_cut 112 = .ok (.bipush 12, 2) := by decide +kernel
theorem dX9_cut_114 : decode cX9_cut 114 = .ok (.if_icmp .ge 73, 3) := by decide +kernel
theorem dX9_cut_117 : decode cX9_cut 117 = .ok (.iload 11, 2) := by decide +kernel
theorem dX9_cut_119 : decode cX9_cut 119 = .ok (.iload 15, 2) := by decide +kernel
theorem dX9_cut_121 : decode cX9_cut 121 = .ok (.iload_n 2, 1) := by decide +kernel
theorem dX9_cut_122 : decode cX9_cut 122 = .ok (.isub, 1) := by decide +kernel
theorem dX9_cut_123 : decode cX9_cut 123 = .ok (.invokestatic 52, 3) := by decide +kernel
theorem dX9_cut_126 : decode cX9_cut 126 = .ok (.istore 16, 2) := by decide +kernel
theorem dX9_cut_128 : decode cX9_cut 128 = .ok (.lload 13, 2) := by decide +kernel
theorem dX9_cut_130 : decode cX9_cut 130 = .ok (.iload 16, 2) := by decide +kernel
theorem dX9_cut_132 : decode cX9_cut 132 = .ok (.ifCond .eq 9, 3) := by decide +kernel
theorem dX9_cut_135 : decode cX9_cut 135 = .ok (.iload 4, 2) := by decide +kernel
theorem dX9_cut_137 : decode cX9_cut 137 = .ok (.i2l, 1) := by decide +kernel
theorem dX9_cut_138 : decode cX9_cut 138 = .ok (.goto 9, 3) := by decide +kernel
theorem dX9_cut_141 : decode cX9_cut 141 = .ok (.bipush 10, 2) := by decide +kernel
theorem dX9_cut_143 : decode cX9_cut 143 = .ok (.iload 4, 2) := by decide +kernel
theorem dX9_cut_145 : decode cX9_cut 145 = .ok (.isub, 1) := by decide +kernel
theorem dX9_cut_146 : decode cX9_cut 146 = .ok (.i2l, 1) := by decide +kernel
theorem dX9_cut_147 : decode cX9_cut 147 = .ok (.lmul, 1) := by decide +kernel
theorem dX9_cut_148 : decode cX9_cut 148 = .ok (.lstore 13, 2) := by decide +kernel
theorem dX9_cut_150 : decode cX9_cut 150 = .ok (.iload 12, 2) := by decide +kernel
theorem dX9_cut_152 : decode cX9_cut 152 = .ok (.iload 16, 2) := by decide +kernel
theorem dX9_cut_154 : decode cX9_cut 154 = .ok (.ifCond .eq 23, 3) := by decide +kernel
theorem dX9_cut_157 : decode cX9_cut 157 = .ok (.aload_n 0, 1) := by decide +kernel
theorem dX9_cut_158 : decode cX9_cut 158 = .ok (.getfield 7, 3) := by decide +kernel
theorem dX9_cut_161 : decode cX9_cut 161 = .ok (.bipush 24, 2) := by decide +kernel
theorem dX9_cut_163 : decode cX9_cut 163 = .ok (.iload 6, 2) := by decide +kernel
theorem dX9_cut_165 : decode cX9_cut 165 = .ok (.imul, 1) := by decide +kernel
theorem dX9_cut_166 : decode cX9_cut 166 = .ok (.iconst 2, 1) := by decide +kernel
theorem dX9_cut_167 : decode cX9_cut 167 = .ok (.iload 15, 2) := by decide +kernel
theorem dX9_cut_169 : decode cX9_cut 169 = .ok (.imul, 1) := by decide +kernel
theorem dX9_cut_170 : decode cX9_cut 170 = .ok (.iadd, 1) := by decide +kernel
theorem dX9_cut_171 : decode cX9_cut 171 = .ok (.iconst 1, 1) := by decide +kernel
theorem dX9_cut_172 : decode cX9_cut 172 = .ok (.iadd, 1) := by decide +kernel
theorem dX9_cut_173 : decode cX9_cut 173 = .ok (.iaload, 1) := by decide +kernel
theorem dX9_cut_174 : decode cX9_cut 174 = .ok (.goto 4, 3) := by decide +kernel
theorem dX9_cut_177 : decode cX9_cut 177 = .ok (.iconst 0, 1) := by decide +kernel
theorem dX9_cut_178 : decode cX9_cut 178 = .ok (.iadd, 1) := by decide +kernel
theorem dX9_cut_179 : decode cX9_cut 179 = .ok (.istore 12, 2) := by decide +kernel
theorem dX9_cut_181 : decode cX9_cut 181 = .ok (.iinc 15 1, 3) := by decide +kernel
theorem dX9_cut_184 : decode cX9_cut 184 = .ok (.goto (-74), 3) := by decide +kernel
theorem dX9_cut_187 : decode cX9_cut 187 = .ok (.lload 7, 2) := by decide +kernel
theorem dX9_cut_189 : decode cX9_cut 189 = .ok (.iload 12, 2) := by decide +kernel
theorem dX9_cut_191 : decode cX9_cut 191 = .ok (.iload_n 3, 1) := by decide +kernel
theorem dX9_cut_192 : decode cX9_cut 192 = .ok (.if_icmp .lt 8, 3) := by decide +kernel
theorem dX9_cut_195 : decode cX9_cut 195 = .ok (.lload 13, 2) := by decide +kernel
theorem dX9_cut_197 : decode cX9_cut 197 = .ok (.goto 4, 3) := by decide +kernel
theorem dX9_cut_200 : decode cX9_cut 200 = .ok (.lconst 0, 1) := by decide +kernel
theorem dX9_cut_201 : decode cX9_cut 201 = .ok (.ladd, 1) := by decide +kernel
theorem dX9_cut_202 : decode cX9_cut 202 = .ok (.lstore 7, 2) := by decide +kernel
theorem dX9_cut_204 : decode cX9_cut 204 = .ok (.iinc 11 1, 3) := by decide +kernel
theorem dX9_cut_207 : decode cX9_cut 207 = .ok (.goto (-124), 3) := by decide +kernel
theorem dX9_cut_210 : decode cX9_cut 210 = .ok (.iload_n 2, 1) := by decide +kernel
theorem dX9_cut_211 : decode cX9_cut 211 = .ok (.istore 11, 2) := by decide +kernel
theorem dX9_cut_213 : decode cX9_cut 213 = .ok (.iload 11, 2) := by decide +kernel
theorem dX9_cut_215 : decode cX9_cut 215 = .ok (.bipush 12, 2) := by decide +kernel
theorem dX9_cut_217 : decode cX9_cut 217 = .ok (.if_icmp .ge 17, 3) := by decide +kernel
theorem dX9_cut_220 : decode cX9_cut 220 = .ok (.lload 9, 2) := by decide +kernel
theorem dX9_cut_222 : decode cX9_cut 222 = .ok (.ldc2_w 232, 3) := by decide +kernel
theorem dX9_cut_225 : decode cX9_cut 225 = .ok (.lmul, 1) := by decide +kernel
theorem dX9_cut_226 : decode cX9_cut 226 = .ok (.lstore 9, 2) := by decide +kernel
theorem dX9_cut_228 : decode cX9_cut 228 = .ok (.iinc 11 1, 3) := by decide +kernel
theorem dX9_cut_231 : decode cX9_cut 231 = .ok (.goto (-18), 3) := by decide +kernel
theorem dX9_cut_234 : decode cX9_cut 234 = .ok (.lload 7, 2) := by decide +kernel
theorem dX9_cut_236 : decode cX9_cut 236 = .ok (.lload 9, 2) := by decide +kernel
theorem dX9_cut_238 : decode cX9_cut 238 = .ok (.iload 5, 2) := by decide +kernel
theorem dX9_cut_240 : decode cX9_cut 240 = .ok (.invokestatic 234, 3) := by decide +kernel
theorem dX9_cut_243 : decode cX9_cut 243 = .ok (.lreturn, 1) := by decide +kernel
theorem dX9_share_0 : decode cX9_share 0 = .ok (.aload_n 0, 1) := by decide +kernel
theorem dX9_share_1 : decode cX9_share 1 = .ok (.iload_n 2, 1) := by decide +kernel
theorem dX9_share_2 : decode cX9_share 2 = .ok (.invokevirtual 171, 3) := by decide +kernel
theorem dX9_share_5 : decode cX9_share 5 = .ok (.ifCond .ne 6, 3) := by decide +kernel
theorem dX9_share_8 : decode cX9_share 8 = .ok (.bipush (-2), 2) := by decide +kernel
theorem dX9_share_10 : decode cX9_share 10 = .ok (.ireturn, 1) := by decide +kernel
theorem dX9_share_11 : decode cX9_share 11 = .ok (.iload_n 1, 1) := by decide +kernel
theorem dX9_share_12 : decode cX9_share 12 = .ok (.iconst 0, 1) := by decide +kernel
theorem dX9_share_13 : decode cX9_share 13 = .ok (.sipush 999, 3) := by decide +kernel
theorem dX9_share_16 : decode cX9_share 16 = .ok (.invokestatic 45, 3) := by decide +kernel
theorem dX9_share_19 : decode cX9_share 19 = .ok (.ifCond .ne 6, 3) := by decide +kernel
theorem dX9_share_22 : decode cX9_share 22 = .ok (.bipush (-3), 2) := by decide +kernel
theorem dX9_share_24 : decode cX9_share 24 = .ok (.ireturn, 1) := by decide +kernel
theorem dX9_share_25 : decode cX9_share 25 = .ok (.iconst 0, 1) := by decide +kernel
theorem dX9_share_26 : decode cX9_share 26 = .ok (.istore_n 3, 1) := by decide +kernel
theorem dX9_share_27 : decode cX9_share 27 = .ok (.iconst 0, 1) := by decide +kernel
theorem dX9_share_28 : decode cX9_share 28 = .ok (.istore 4, 2) := by decide +kernel
theorem dX9_share_30 : decode cX9_share 30 = .ok (.iconst 0, 1) := by decide +kernel
theorem dX9_share_31 : decode cX9_share 31 = .ok (.istore 5, 2) := by decide +kernel
theorem dX9_share_33 : decode cX9_share 33 = .ok (.iload 5, 2) := by decide +kernel
theorem dX9_share_35 : decode cX9_share 35 = .ok (.bipush 6, 2) := by decide +kernel
theorem dX9_share_37 : decode cX9_share 37 = .ok (.if_icmp .ge 39, 3) := by decide +kernel
theorem dX9_share_40 : decode cX9_share 40 = .ok (.iload_n 3, 1) := by decide +kernel
theorem dX9_share_41 : decode cX9_share 41 = .ok (.aload_n 0, 1) := by decide +kernel
theorem dX9_share_42 : decode cX9_share 42 = .ok (.getfield 49, 3) := by decide +kernel
theorem dX9_share_45 : decode cX9_share 45 = .ok (.iload 5, 2) := by decide +kernel
theorem dX9_share_47 : decode cX9_share 47 = .ok (.invokestatic 52, 3) := by decide +kernel
theorem dX9_share_50 : decode cX9_share 50 = .ok (.ifCond .eq 17, 3) := by decide +kernel
theorem dX9_share_53 : decode cX9_share 53 = .ok (.aload_n 0, 1) := by decide +kernel
theorem dX9_share_54 : decode cX9_share 54 = .ok (.getfield 13, 3) := by decide +kernel
theorem dX9_share_57 : decode cX9_share 57 = .ok (.iconst 5, 1) := by decide +kernel
theorem dX9_share_58 : decode cX9_share 58 = .ok (.iload 5, 2) := by decide +kernel
theorem dX9_share_60 : decode cX9_share 60 = .ok (.imul, 1) := by decide +kernel
theorem dX9_share_61 : decode cX9_share 61 = .ok (.iconst 2, 1) := by decide +kernel
theorem dX9_share_62 : decode cX9_share 62 = .ok (.iadd, 1) := by decide +kernel
theorem dX9_share_63 : decode cX9_share 63 = .ok (.iaload, 1) := by decide +kernel
theorem dX9_share_64 : decode cX9_share 64 = .ok (.goto 4, 3) := by decide +kernel
theorem dX9_share_67 : decode cX9_share 67 = .ok (.iconst 0, 1) := by decide +kernel
theorem dX9_share_68 : decode cX9_share 68 = .ok (.iadd, 1) := by decide +kernel
theorem dX9_share_69 : decode cX9_share 69 = .ok (.istore_n 3, 1) := by decide +kernel
theorem dX9_share_70 : decode cX9_share 70 = .ok (.iinc 5 1, 3) := by decide +kernel
theorem dX9_share_73 : decode cX9_share 73 = .ok (.goto (-40), 3) := by decide +kernel
theorem dX9_share_76 : decode cX9_share 76 = .ok (.iload_n 1, 1) := by decide +kernel
theorem dX9_share_77 : decode cX9_share 77 = .ok (.aload_n 0, 1) := by decide +kernel
theorem dX9_share_78 : decode cX9_share 78 = .ok (.getfield 13, 3) := by decide +kernel
theorem dX9_share_81 : decode cX9_share 81 = .ok (.iconst 5, 1) := by decide +kernel
theorem dX9_share_82 : decode cX9_share 82 = .ok (.iload_n 2, 1) := by decide +kernel
theorem dX9_share_83 : decode cX9_share 83 = .ok (.imul, 1) := by decide +kernel
theorem dX9_share_84 : decode cX9_share 84 = .ok (.iconst 2, 1) := by decide +kernel
theorem dX9_share_85 : decode cX9_share 85 = .ok (.iadd, 1) := by decide +kernel
theorem dX9_share_86 : decode cX9_share 86 = .ok (.iaload, 1) := by decide +kernel
theorem dX9_share_87 : decode cX9_share 87 = .ok (.imul, 1) := by decide +kernel
theorem dX9_share_88 : decode cX9_share 88 = .ok (.iload_n 3, 1) := by decide +kernel
theorem dX9_share_89 : decode cX9_share 89 = .ok (.idiv, 1) := by decide +kernel
theorem dX9_share_90 : decode cX9_share 90 = .ok (.istore 5, 2) := by decide +kernel
theorem dX9_share_92 : decode cX9_share 92 = .ok (.iload_n 1, 1) := by decide +kernel
theorem dX9_share_93 : decode cX9_share 93 = .ok (.aload_n 0, 1) := by decide +kernel
theorem dX9_share_94 : decode cX9_share 94 = .ok (.getfield 13, 3) := by decide +kernel
theorem dX9_share_97 : decode cX9_share 97 = .ok (.iconst 5, 1) := by decide +kernel
theorem dX9_share_98 : decode cX9_share 98 = .ok (.iload_n 2, 1) := by decide +kernel
theorem dX9_share_99 : decode cX9_share 99 = .ok (.imul, 1) := by decide +kernel
theorem dX9_share_100 : decode cX9_share 100 = .ok (.iconst 2, 1) := by decide +kernel
theorem dX9_share_101 : decode cX9_share 101 = .ok (.iadd, 1) := by decide +kernel
theorem dX9_share_102 : decode cX9_share 102 = .ok (.iaload, 1) := by decide +kernel
theorem dX9_share_103 : decode cX9_share 103 = .ok (.imul, 1) := by decide +kernel
theorem dX9_share_104 : decode cX9_share 104 = .ok (.iload_n 3, 1) := by decide +kernel
theorem dX9_share_105 : decode cX9_share 105 = .ok (.irem, 1) := by decide +kernel
theorem dX9_share_106 : decode cX9_share 106 = .ok (.istore 6, 2) := by decide +kernel
theorem dX9_share_108 : decode cX9_share 108 = .ok (.iconst 0, 1) := by decide +kernel
theorem dX9_share_109 : decode cX9_share 109 = .ok (.istore 7, 2) := by decide +kernel
theorem dX9_share_111 : decode cX9_share 111 = .ok (.iconst 0, 1) := by decide +kernel
theorem dX9_share_112 : decode cX9_share 112 = .ok (.istore 8, 2) := by decide +kernel
theorem dX9_share_114 : decode cX9_share 114 = .ok (.iload 8, 2) := by decide +kernel
theorem dX9_share_116 : decode cX9_share 116 = .ok (.bipush 6, 2) := by decide +kernel
theorem dX9_share_118 : decode cX9_share 118 = .ok (.if_icmp .ge 88, 3) := by decide +kernel
theorem dX9_share_121 : decode cX9_share 121 = .ok (.aload_n 0, 1) := by decide +kernel
theorem dX9_share_122 : decode cX9_share 122 = .ok (.getfield 49, 3) := by decide +kernel
theorem dX9_share_125 : decode cX9_share 125 = .ok (.iload 8, 2) := by decide +kernel
theorem dX9_share_127 : decode cX9_share 127 = .ok (.invokestatic 52, 3) := by decide +kernel
theorem dX9_share_130 : decode cX9_share 130 = .ok (.ifCond .eq 70, 3) := by decide +kernel
theorem dX9_share_133 : decode cX9_share 133 = .ok (.iload_n 1, 1) := by decide +kernel
theorem dX9_share_134 : decode cX9_share 134 = .ok (.aload_n 0, 1) := by decide +kernel
theorem dX9_share_135 : decode cX9_share 135 = .ok (.getfield 13, 3) := by decide +kernel
theorem dX9_share_138 : decode cX9_share 138 = .ok (.iconst 5, 1) := by decide +kernel
theorem dX9_share_139 : decode cX9_share 139 = .ok (.iload 8, 2) := by decide +kernel
theorem dX9_share_141 : decode cX9_share 141 = .ok (.imul, 1) := by decide +kernel
theorem dX9_share_142 : decode cX9_share 142 = .ok (.iconst 2, 1) := by decide +kernel
theorem dX9_share_143 : decode cX9_share 143 = .ok (.iadd, 1) := by decide +kernel
theorem dX9_share_144 : decode cX9_share 144 = .ok (.iaload, 1) := by decide +kernel
theorem dX9_share_145 : decode cX9_share 145 = .ok (.imul, 1) := by decide +kernel
theorem dX9_share_146 : decode cX9_share 146 = .ok (.iload_n 3, 1) := by decide +kernel
theorem dX9_share_147 : decode cX9_share 147 = .ok (.irem, 1) := by decide +kernel
theorem dX9_share_148 : decode cX9_share 148 = .ok (.istore 9, 2) := by decide +kernel
theorem dX9_share_150 : decode cX9_share 150 = .ok (.iload 4, 2) := by decide +kernel
theorem dX9_share_152 : decode cX9_share 152 = .ok (.iload_n 1, 1) := by decide +kernel
theorem dX9_share_153 : decode cX9_share 153 = .ok (.aload_n 0, 1) := by decide +kernel
theorem dX9_share_154 : decode cX9_share 154 = .ok (.getfield 13, 3) := by decide +kernel
theorem dX9_share_157 : decode cX9_share 157 = .ok (.iconst 5, 1) := by decide +kernel
theorem dX9_share_158 : decode cX9_share 158 = .ok (.iload 8, 2) := by decide +kernel
theorem dX9_share_160 : decode cX9_share 160 = .ok (.imul, 1) := by decide +kernel
theorem dX9_share_161 : decode cX9_share 161 = .ok (.iconst 2, 1) := by decide +kernel
theorem dX9_share_162 : decode cX9_share 162 = .ok (.iadd, 1) := by decide +kernel
theorem dX9_share_163 : decode cX9_share 163 = .ok (.iaload, 1) := by decide +kernel
theorem dX9_share_164 : decode cX9_share 164 = .ok (.imul, 1) := by decide +kernel
theorem dX9_share_165 : decode cX9_share 165 = .ok (.iload_n 3, 1) := by decide +kernel
theorem dX9_share_166 : decode cX9_share 166 = .ok (.idiv, 1) := by decide +kernel
theorem dX9_share_167 : decode cX9_share 167 = .ok (.iadd, 1) := by decide +kernel
theorem dX9_share_168 : decode cX9_share 168 = .ok (.istore 4, 2) := by decide +kernel
theorem dX9_share_170 : decode cX9_share 170 = .ok (.iload 7, 2) := by decide +kernel
theorem dX9_share_172 : decode cX9_share 172 = .ok (.iload 9, 2) := by decide +kernel
theorem dX9_share_174 : decode cX9_share 174 = .ok (.iload 6, 2) := by decide +kernel
theorem dX9_share_176 : decode cX9_share 176 = .ok (.if_icmp .gt 16, 3) := by decide +kernel
theorem dX9_share_179 : decode cX9_share 179 = .ok (.iload 9, 2) := by decide +kernel
theorem dX9_share_181 : decode cX9_share 181 = .ok (.iload 6, 2) := by decide +kernel
theorem dX9_share_183 : decode cX9_share 183 = .ok (.if_icmp .ne 13, 3) := by decide +kernel
theorem dX9_share_186 : decode cX9_share 186 = .ok (.iload 8, 2) := by decide +kernel
theorem dX9_share_188 : decode cX9_share 188 = .ok (.iload_n 2, 1) := by decide +kernel
theorem dX9_share_189 : decode cX9_share 189 = .ok (.if_icmp .ge 7, 3) := by decide +kernel
theorem dX9_share_192 : decode cX9_share 192 = .ok (.iconst 1, 1) := by decide +kernel
theorem dX9_share_193 : decode cX9_share 193 = .ok (.goto 4, 3) := by decide +kernel
theorem dX9_share_196 : decode cX9_share 196 = .ok (.iconst 0, 1) := by decide +kernel
theorem dX9_share_197 : decode cX9_share 197 = .ok (.iadd, 1) := by decide +kernel
theorem dX9_share_198 : decode cX9_share 198 = .ok (.istore 7, 2) := by decide +kernel
theorem dX9_share_200 : decode cX9_share 200 = .ok (.iinc 8 1, 3) := by decide +kernel
theorem dX9_share_203 : decode cX9_share 203 = .ok (.goto (-89), 3) := by decide +kernel
theorem dX9_share_206 : decode cX9_share 206 = .ok (.iload 7, 2) := by decide +kernel
theorem dX9_share_208 : decode cX9_share 208 = .ok (.iload_n 1, 1) := by decide +kernel
theorem dX9_share_209 : decode cX9_share 209 = .ok (.iload 4, 2) := by decide +kernel
theorem dX9_share_211 : decode cX9_share 211 = .ok (.isub, 1) := by decide +kernel
theorem dX9_share_212 : decode cX9_share 212 = .ok (.if_icmp .ge 10, 3) := by decide +kernel
theorem dX9_share_215 : decode cX9_share 215 = .ok (.iload 5, 2) := by decide +kernel
theorem dX9_share_217 : decode cX9_share 217 = .ok (.iconst 1, 1) := by decide +kernel
theorem dX9_share_218 : decode cX9_share 218 = .ok (.iadd, 1) := by decide +kernel
theorem dX9_share_219 : decode cX9_share 219 = .ok (.goto 5, 3) := by decide +kernel
theorem dX9_share_222 : decode cX9_share 222 = .ok (.iload 5, 2) := by decide +kernel
theorem dX9_share_224 : decode cX9_share 224 = .ok (.ireturn, 1) := by decide +kernel
theorem dX9_count_0 : decode cX9_count 0 = .ok (.iload_n 1, 1) := by decide +kernel
theorem dX9_count_1 : decode cX9_count 1 = .ok (.tableswitch 122 0 10 #[59, 64, 69, 74, 79, 84, 89, 96, 104, 109, 117], 59) := by decide +kernel
theorem dX9_count_60 : decode cX9_count 60 = .ok (.aload_n 0, 1) := by decide +kernel
theorem dX9_count_61 : decode cX9_count 61 = .ok (.getfield 49, 3) := by decide +kernel
theorem dX9_count_64 : decode cX9_count 64 = .ok (.ireturn, 1) := by decide +kernel
theorem dX9_count_65 : decode cX9_count 65 = .ok (.aload_n 0, 1) := by decide +kernel
theorem dX9_count_66 : decode cX9_count 66 = .ok (.getfield 149, 3) := by decide +kernel
theorem dX9_count_69 : decode cX9_count 69 = .ok (.ireturn, 1) := by decide +kernel
theorem dX9_count_70 : decode cX9_count 70 = .ok (.aload_n 0, 1) := by decide +kernel
theorem dX9_count_71 : decode cX9_count 71 = .ok (.getfield 152, 3) := by decide +kernel
theorem dX9_count_74 : decode cX9_count 74 = .ok (.ireturn, 1) := by decide +kernel
theorem dX9_count_75 : decode cX9_count 75 = .ok (.aload_n 0, 1) := by decide +kernel
theorem dX9_count_76 : decode cX9_count 76 = .ok (.getfield 19, 3) := by decide +kernel
theorem dX9_count_79 : decode cX9_count 79 = .ok (.ireturn, 1) := by decide +kernel
theorem dX9_count_80 : decode cX9_count 80 = .ok (.aload_n 0, 1) := by decide +kernel
theorem dX9_count_81 : decode cX9_count 81 = .ok (.getfield 143, 3) := by decide +kernel
theorem dX9_count_84 : decode cX9_count 84 = .ok (.ireturn, 1) := by decide +kernel
theorem dX9_count_85 : decode cX9_count 85 = .ok (.aload_n 0, 1) := by decide +kernel
theorem dX9_count_86 : decode cX9_count 86 = .ok (.getfield 146, 3) := by decide +kernel
theorem dX9_count_89 : decode cX9_count 89 = .ok (.ireturn, 1) := by decide +kernel
theorem dX9_count_90 : decode cX9_count 90 = .ok (.aload_n 0, 1) := by decide +kernel
theorem dX9_count_91 : decode cX9_count 91 = .ok (.getfield 29, 3) := by decide +kernel
theorem dX9_count_94 : decode cX9_count 94 = .ok (.iconst 0, 1) := by decide +kernel
theorem dX9_count_95 : decode cX9_count 95 = .ok (.iaload, 1) := by decide +kernel
theorem dX9_count_96 : decode cX9_count 96 = .ok (.ireturn, 1) := by decide +kernel
theorem dX9_count_97 : decode cX9_count 97 = .ok (.aload_n 0, 1) := by decide +kernel
theorem dX9_count_98 : decode cX9_count 98 = .ok (.getfield 29, 3) := by decide +kernel
theorem dX9_count_101 : decode cX9_count 101 = .ok (.bipush 44, 2) := by decide +kernel
theorem dX9_count_103 : decode cX9_count 103 = .ok (.iaload, 1) := by decide +kernel
theorem dX9_count_104 : decode cX9_count 104 = .ok (.ireturn, 1) := by decide +kernel
theorem dX9_count_105 : decode cX9_count 105 = .ok (.aload_n 0, 1) := by decide +kernel
theorem dX9_count_106 : decode cX9_count 106 = .ok (.invokevirtual 222, 3) := by decide +kernel
theorem dX9_count_109 : decode cX9_count 109 = .ok (.ireturn, 1) := by decide +kernel
theorem dX9_count_110 : decode cX9_count 110 = .ok (.aload_n 0, 1) := by decide +kernel
theorem dX9_count_111 : decode cX9_count 111 = .ok (.getfield 29, 3) := by decide +kernel
theorem dX9_count_114 : decode cX9_count 114 = .ok (.bipush 43, 2) := by decide +kernel
theorem dX9_count_116 : decode cX9_count 116 = .ok (.iaload, 1) := by decide +kernel
theorem dX9_count_117 : decode cX9_count 117 = .ok (.ireturn, 1) := by decide +kernel
theorem dX9_count_118 : decode cX9_count 118 = .ok (.aload_n 0, 1) := by decide +kernel
theorem dX9_count_119 : decode cX9_count 119 = .ok (.getfield 56, 3) := by decide +kernel
theorem dX9_count_122 : decode cX9_count 122 = .ok (.ireturn, 1) := by decide +kernel
theorem dX9_count_123 : decode cX9_count 123 = .ok (.bipush (-3), 2) := by decide +kernel
theorem dX9_count_125 : decode cX9_count 125 = .ok (.ireturn, 1) := by decide +kernel
end
section
theorem dJ9_max_7cf53_0 : decode cJ9_max_7cf53 0 = .ok (.iload_n 0, 1) := by decide +kernel
theorem dJ9_max_7cf53_1 : decode cJ9_max_7cf53 1 = .ok (.iload_n 1, 1) := by decide +kernel
theorem dJ9_max_7cf53_2 : decode cJ9_max_7cf53 2 = .ok (.if_icmp .lt 7, 3) := by decide +kernel
theorem dJ9_max_7cf53_5 : decode cJ9_max_7cf53 5 = .ok (.iload_n 0, 1) := by decide +kernel
theorem dJ9_max_7cf53_6 : decode cJ9_max_7cf53 6 = .ok (.goto 4, 3) := by decide +kernel
theorem dJ9_max_7cf53_9 : decode cJ9_max_7cf53 9 = .ok (.iload_n 1, 1) := by decide +kernel
theorem dJ9_max_7cf53_10 : decode cJ9_max_7cf53 10 = .ok (.ireturn, 1) := by decide +kernel
theorem dJ9_min_7cf53_0 : decode cJ9_min_7cf53 0 = .ok (.iload_n 0, 1) := by decide +kernel
theorem dJ9_min_7cf53_1 : decode cJ9_min_7cf53 1 = .ok (.iload_n 1, 1) := by decide +kernel
theorem dJ9_min_7cf53_2 : decode cJ9_min_7cf53 2 = .ok (.if_icmp .gt 7, 3) := by decide +kernel
theorem dJ9_min_7cf53_5 : decode cJ9_min_7cf53 5 = .ok (.iload_n 0, 1) := by decide +kernel
theorem dJ9_min_7cf53_6 : decode cJ9_min_7cf53 6 = .ok (.goto 4, 3) := by decide +kernel
theorem dJ9_min_7cf53_9 : decode cJ9_min_7cf53 9 = .ok (.iload_n 1, 1) := by decide +kernel
theorem dJ9_min_7cf53_10 : decode cJ9_min_7cf53 10 = .ok (.ireturn, 1) := by decide +kernel
theorem dJ0_length_8abf5_0 : decode cJ0_length_8abf5 0 = .ok (.aload_n 0, 1) := by decide +kernel
theorem dJ0_length_8abf5_1 : decode cJ0_length_8abf5 1 = .ok (.getfield 9, 3) := by decide +kernel
theorem dJ0_length_8abf5_4 : decode cJ0_length_8abf5 4 = .ok (.arraylength, 1) := by decide +kernel
theorem dJ0_length_8abf5_5 : decode cJ0_length_8abf5 5 = .ok (.aload_n 0, 1) := by decide +kernel
theorem dJ0_length_8abf5_6 : decode cJ0_length_8abf5 6 = .ok (.invokevirtual 335, 3) := by decide +kernel
theorem dJ0_length_8abf5_9 : decode cJ0_length_8abf5 9 = .ok (.ishr, 1) := by decide +kernel
theorem dJ0_length_8abf5_10 : decode cJ0_length_8abf5 10 = .ok (.ireturn, 1) := by decide +kernel
theorem dJ0_charAt_5068e_0 : decode cJ0_charAt_5068e 0 = .ok (.aload_n 0, 1) := by decide +kernel
theorem dJ0_charAt_5068e_1 : decode cJ0_charAt_5068e 1 = .ok (.invokevirtual 492, 3) := by decide +kernel
theorem dJ0_charAt_5068e_4 : decode cJ0_charAt_5068e 4 = .ok (.ifCond .eq 12, 3) := by decide +kernel
theorem dJ0_charAt_5068e_7 : decode cJ0_charAt_5068e 7 = .ok (.aload_n 0, 1) := by decide +kernel
theorem dJ0_charAt_5068e_8 : decode cJ0_charAt_5068e 8 = .ok (.getfield 9, 3) := by decide +kernel
theorem dJ0_charAt_5068e_11 : decode cJ0_charAt_5068e 11 = .ok (.iload_n 1, 1) := by decide +kernel
theorem dJ0_charAt_5068e_12 : decode cJ0_charAt_5068e 12 = .ok (.invokestatic 495, 3) := by decide +kernel
theorem dJ0_charAt_5068e_15 : decode cJ0_charAt_5068e 15 = .ok (.ireturn, 1) := by decide +kernel
theorem dJ0_charAt_5068e_16 : decode cJ0_charAt_5068e 16 = .ok (.aload_n 0, 1) := by decide +kernel
theorem dJ0_charAt_5068e_17 : decode cJ0_charAt_5068e 17 = .ok (.getfield 9, 3) := by decide +kernel
theorem dJ0_charAt_5068e_20 : decode cJ0_charAt_5068e 20 = .ok (.iload_n 1, 1) := by decide +kernel
theorem dJ0_charAt_5068e_21 : decode cJ0_charAt_5068e 21 = .ok (.invokestatic 498, 3) := by decide +kernel
theorem dJ0_charAt_5068e_24 : decode cJ0_charAt_5068e 24 = .ok (.ireturn, 1) := by decide +kernel
theorem dJ0_coder_7d493_0 : decode cJ0_coder_7d493 0 = .ok (.getstatic 38, 3) := by decide +kernel
theorem dJ0_coder_7d493_3 : decode cJ0_coder_7d493 3 = .ok (.ifCond .eq 10, 3) := by decide +kernel
theorem dJ0_coder_7d493_6 : decode cJ0_coder_7d493 6 = .ok (.aload_n 0, 1) := by decide +kernel
theorem dJ0_coder_7d493_7 : decode cJ0_coder_7d493 7 = .ok (.getfield 15, 3) := by decide +kernel
theorem dJ0_coder_7d493_10 : decode cJ0_coder_7d493 10 = .ok (.goto 4, 3) := by decide +kernel
theorem dJ0_coder_7d493_13 : decode cJ0_coder_7d493 13 = .ok (.iconst 1, 1) := by decide +kernel
theorem dJ0_coder_7d493_14 : decode cJ0_coder_7d493 14 = .ok (.ireturn, 1) := by decide +kernel
theorem dJ0_isLatin1_aae02_0 : decode cJ0_isLatin1_aae02 0 = .ok (.getstatic 38, 3) := by decide +kernel
theorem dJ0_isLatin1_aae02_3 : decode cJ0_isLatin1_aae02 3 = .ok (.ifCond .eq 14, 3) := by decide +kernel
theorem dJ0_isLatin1_aae02_6 : decode cJ0_isLatin1_aae02 6 = .ok (.aload_n 0, 1) := by decide +kernel
theorem dJ0_isLatin1_aae02_7 : decode cJ0_isLatin1_aae02 7 = .ok (.getfield 15, 3) := by decide +kernel
theorem dJ0_isLatin1_aae02_10 : decode cJ0_isLatin1_aae02 10 = .ok (.ifCond .ne 7, 3) := by decide +kernel
theorem dJ0_isLatin1_aae02_13 : decode cJ0_isLatin1_aae02 13 = .ok (.iconst 1, 1) := by decide +kernel
theorem dJ0_isLatin1_aae02_14 : decode cJ0_isLatin1_aae02 14 = .ok (.goto 4, 3) := by decide +kernel
theorem dJ0_isLatin1_aae02_17 : decode cJ0_isLatin1_aae02 17 = .ok (.iconst 0, 1) := by decide +kernel
theorem dJ0_isLatin1_aae02_18 : decode cJ0_isLatin1_aae02 18 = .ok (.ireturn, 1) := by decide +kernel
theorem dJ0_checkIndex_df160_0 : decode cJ0_checkIndex_df160 0 = .ok (.iload_n 0, 1) := by decide +kernel
theorem dJ0_checkIndex_df160_1 : decode cJ0_checkIndex_df160 1 = .ok (.iload_n 1, 1) := by decide +kernel
theorem dJ0_checkIndex_df160_2 : decode cJ0_checkIndex_df160 2 = .ok (.getstatic 1053, 3) := by decide +kernel
theorem dJ0_checkIndex_df160_5 : decode cJ0_checkIndex_df160 5 = .ok (.invokestatic 1059, 3) := by decide +kernel
theorem dJ0_checkIndex_df160_8 : decode cJ0_checkIndex_df160 8 = .ok (.pop, 1) := by decide +kernel
theorem dJ0_checkIndex_df160_9 : decode cJ0_checkIndex_df160 9 = .ok (.return_, 1) := by decide +kernel
theorem dJ1_charAt_3b067_0 : decode cJ1_charAt_3b067 0 = .ok (.iload_n 1, 1) := by decide +kernel
theorem dJ1_charAt_3b067_1 : decode cJ1_charAt_3b067 1 = .ok (.aload_n 0, 1) := by decide +kernel
theorem dJ1_charAt_3b067_2 : decode cJ1_charAt_3b067 2 = .ok (.arraylength, 1) := by decide +kernel
theorem dJ1_charAt_3b067_3 : decode cJ1_charAt_3b067 3 = .ok (.invokestatic 9, 3) := by decide +kernel
theorem dJ1_charAt_3b067_6 : decode cJ1_charAt_3b067 6 = .ok (.aload_n 0, 1) := by decide +kernel
theorem dJ1_charAt_3b067_7 : decode cJ1_charAt_3b067 7 = .ok (.iload_n 1, 1) := by decide +kernel
theorem dJ1_charAt_3b067_8 : decode cJ1_charAt_3b067 8 = .ok (.baload, 1) := by decide +kernel
theorem dJ1_charAt_3b067_9 : decode cJ1_charAt_3b067 9 = .ok (.sipush 255, 3) := by decide +kernel
theorem dJ1_charAt_3b067_12 : decode cJ1_charAt_3b067 12 = .ok (.iand, 1) := by decide +kernel
theorem dJ1_charAt_3b067_13 : decode cJ1_charAt_3b067 13 = .ok (.i2c, 1) := by decide +kernel
theorem dJ1_charAt_3b067_14 : decode cJ1_charAt_3b067 14 = .ok (.ireturn, 1) := by decide +kernel
theorem dJ2_getChar_3b067_0 : decode cJ2_getChar_3b067 0 = .ok (.getstatic 44, 3) := by decide +kernel
theorem dJ2_getChar_3b067_3 : decode cJ2_getChar_3b067 3 = .ok (.ifCond .ne 25, 3) := by decide +kernel
theorem dJ2_getChar_3b067_6 : decode cJ2_getChar_3b067 6 = .ok (.iload_n 1, 1) := by decide +kernel
theorem dJ2_getChar_3b067_7 : decode cJ2_getChar_3b067 7 = .ok (.ifCond .lt 11, 3) := by decide +kernel
theorem dJ2_getChar_3b067_10 : decode cJ2_getChar_3b067 10 = .ok (.iload_n 1, 1) := by decide +kernel
theorem dJ2_getChar_3b067_11 : decode cJ2_getChar_3b067 11 = .ok (.aload_n 0, 1) := by decide +kernel
theorem dJ2_getChar_3b067_12 : decode cJ2_getChar_3b067 12 = .ok (.invokestatic 48, 3) := by decide +kernel
theorem dJ2_getChar_3b067_15 : decode cJ2_getChar_3b067 15 = .ok (.if_icmp .lt 13, 3) := by decide +kernel
theorem dJ2_getChar_3b067_18 : decode cJ2_getChar_3b067 18 = .ok (.new 52, 3) := by decide +kernel
theorem dJ2_getChar_3b067_21 : decode cJ2_getChar_3b067 21 = .ok (.dup, 1) := by decide +kernel
theorem dJ2_getChar_3b067_22 : decode cJ2_getChar_3b067 22 = .ok (.ldc 54, 2) := by decide +kernel
theorem dJ2_getChar_3b067_24 : decode cJ2_getChar_3b067 24 = .ok (.invokespecial 56, 3) := by decide +kernel
theorem dJ2_getChar_3b067_27 : decode cJ2_getChar_3b067 27 = .ok (.athrow, 1) := by decide +kernel
theorem dJ2_getChar_3b067_28 : decode cJ2_getChar_3b067 28 = .ok (.iload_n 1, 1) := by decide +kernel
theorem dJ2_getChar_3b067_29 : decode cJ2_getChar_3b067 29 = .ok (.iconst 1, 1) := by decide +kernel
theorem dJ2_getChar_3b067_30 : decode cJ2_getChar_3b067 30 = .ok (.ishl, 1) := by decide +kernel
theorem dJ2_getChar_3b067_31 : decode cJ2_getChar_3b067 31 = .ok (.istore_n 1, 1) := by decide +kernel
theorem dJ2_getChar_3b067_32 : decode cJ2_getChar_3b067 32 = .ok (.aload_n 0, 1) := by decide +kernel
theorem dJ2_getChar_3b067_33 : decode cJ2_getChar_3b067 33 = .ok (.iload_n 1, 1) := by decide +kernel
theorem dJ2_getChar_3b067_34 : decode cJ2_getChar_3b067 34 = .ok (.iinc 1 1, 3) := by decide +kernel
theorem dJ2_getChar_3b067_37 : decode cJ2_getChar_3b067 37 = .ok (.baload, 1) := by decide +kernel
theorem dJ2_getChar_3b067_38 : decode cJ2_getChar_3b067 38 = .ok (.sipush 255, 3) := by decide +kernel
theorem dJ2_getChar_3b067_41 : decode cJ2_getChar_3b067 41 = .ok (.iand, 1) := by decide +kernel
theorem dJ2_getChar_3b067_42 : decode cJ2_getChar_3b067 42 = .ok (.getstatic 59, 3) := by decide +kernel
theorem dJ2_getChar_3b067_45 : decode cJ2_getChar_3b067 45 = .ok (.ishl, 1) := by decide +kernel
theorem dJ2_getChar_3b067_46 : decode cJ2_getChar_3b067 46 = .ok (.aload_n 0, 1) := by decide +kernel
theorem dJ2_getChar_3b067_47 : decode cJ2_getChar_3b067 47 = .ok (.iload_n 1, 1) := by decide +kernel
theorem dJ2_getChar_3b067_48 : decode cJ2_getChar_3b067 48 = .ok (.baload, 1) := by decide +kernel
theorem dJ2_getChar_3b067_49 : decode cJ2_getChar_3b067 49 = .ok (.sipush 255, 3) := by decide +kernel
theorem dJ2_getChar_3b067_52 : decode cJ2_getChar_3b067 52 = .ok (.iand, 1) := by decide +kernel
theorem dJ2_getChar_3b067_53 : decode cJ2_getChar_3b067 53 = .ok (.getstatic 63, 3) := by decide +kernel
theorem dJ2_getChar_3b067_56 : decode cJ2_getChar_3b067 56 = .ok (.ishl, 1) := by decide +kernel
theorem dJ2_getChar_3b067_57 : decode cJ2_getChar_3b067 57 = .ok (.ior, 1) := by decide +kernel
theorem dJ2_getChar_3b067_58 : decode cJ2_getChar_3b067 58 = .ok (.i2c, 1) := by decide +kernel
theorem dJ2_getChar_3b067_59 : decode cJ2_getChar_3b067 59 = .ok (.ireturn, 1) := by decide +kernel
theorem dJ2_length_9d52b_0 : decode cJ2_length_9d52b 0 = .ok (.aload_n 0, 1) := by decide +kernel
theorem dJ2_length_9d52b_1 : decode cJ2_length_9d52b 1 = .ok (.arraylength, 1) := by decide +kernel
theorem dJ2_length_9d52b_2 : decode cJ2_length_9d52b 2 = .ok (.iconst 1, 1) := by decide +kernel
theorem dJ2_length_9d52b_3 : decode cJ2_length_9d52b 3 = .ok (.ishr, 1) := by decide +kernel
theorem dJ2_length_9d52b_4 : decode cJ2_length_9d52b 4 = .ok (.ireturn, 1) := by decide +kernel
theorem dJ2_charAt_3b067_0 : decode cJ2_charAt_3b067 0 = .ok (.iload_n 1, 1) := by decide +kernel
theorem dJ2_charAt_3b067_1 : decode cJ2_charAt_3b067 1 = .ok (.aload_n 0, 1) := by decide +kernel
theorem dJ2_charAt_3b067_2 : decode cJ2_charAt_3b067 2 = .ok (.invokestatic 67, 3) := by decide +kernel
theorem dJ2_charAt_3b067_5 : decode cJ2_charAt_3b067 5 = .ok (.aload_n 0, 1) := by decide +kernel
theorem dJ2_charAt_3b067_6 : decode cJ2_charAt_3b067 6 = .ok (.iload_n 1, 1) := by decide +kernel
theorem dJ2_charAt_3b067_7 : decode cJ2_charAt_3b067 7 = .ok (.invokestatic 71, 3) := by decide +kernel
theorem dJ2_charAt_3b067_10 : decode cJ2_charAt_3b067 10 = .ok (.ireturn, 1) := by decide +kernel
theorem dJ2_checkIndex_2214a_0 : decode cJ2_checkIndex_2214a 0 = .ok (.iload_n 0, 1) := by decide +kernel
theorem dJ2_checkIndex_2214a_1 : decode cJ2_checkIndex_2214a 1 = .ok (.aload_n 1, 1) := by decide +kernel
theorem dJ2_checkIndex_2214a_2 : decode cJ2_checkIndex_2214a 2 = .ok (.invokestatic 48, 3) := by decide +kernel
theorem dJ2_checkIndex_2214a_5 : decode cJ2_checkIndex_2214a 5 = .ok (.invokestatic 414, 3) := by decide +kernel
theorem dJ2_checkIndex_2214a_8 : decode cJ2_checkIndex_2214a 8 = .ok (.return_, 1) := by decide +kernel
theorem dJ7_fill_d0a16_0 : decode cJ7_fill_d0a16 0 = .ok (.iconst 0, 1) := by decide +kernel
theorem dJ7_fill_d0a16_1 : decode cJ7_fill_d0a16 1 = .ok (.istore_n 3, 1) := by decide +kernel
theorem dJ7_fill_d0a16_2 : decode cJ7_fill_d0a16 2 = .ok (.aload_n 0, 1) := by decide +kernel
theorem dJ7_fill_d0a16_3 : decode cJ7_fill_d0a16 3 = .ok (.arraylength, 1) := by decide +kernel
theorem dJ7_fill_d0a16_4 : decode cJ7_fill_d0a16 4 = .ok (.istore 4, 2) := by decide +kernel
theorem dJ7_fill_d0a16_6 : decode cJ7_fill_d0a16 6 = .ok (.iload_n 3, 1) := by decide +kernel
theorem dJ7_fill_d0a16_7 : decode cJ7_fill_d0a16 7 = .ok (.iload 4, 2) := by decide +kernel
theorem dJ7_fill_d0a16_9 : decode cJ7_fill_d0a16 9 = .ok (.if_icmp .ge 13, 3) := by decide +kernel
theorem dJ7_fill_d0a16_12 : decode cJ7_fill_d0a16 12 = .ok (.aload_n 0, 1) := by decide +kernel
theorem dJ7_fill_d0a16_13 : decode cJ7_fill_d0a16 13 = .ok (.iload_n 3, 1) := by decide +kernel
theorem dJ7_fill_d0a16_14 : decode cJ7_fill_d0a16 14 = .ok (.lload_n 1, 1) := by decide +kernel
theorem dJ7_fill_d0a16_15 : decode cJ7_fill_d0a16 15 = .ok (.lastore, 1) := by decide +kernel
theorem dJ7_fill_d0a16_16 : decode cJ7_fill_d0a16 16 = .ok (.iinc 3 1, 3) := by decide +kernel
theorem dJ7_fill_d0a16_19 : decode cJ7_fill_d0a16 19 = .ok (.goto (-13), 3) := by decide +kernel
theorem dJ7_fill_d0a16_22 : decode cJ7_fill_d0a16 22 = .ok (.return_, 1) := by decide +kernel
theorem dJ7_fill_53178_0 : decode cJ7_fill_53178 0 = .ok (.iconst 0, 1) := by decide +kernel
theorem dJ7_fill_53178_1 : decode cJ7_fill_53178 1 = .ok (.istore_n 2, 1) := by decide +kernel
theorem dJ7_fill_53178_2 : decode cJ7_fill_53178 2 = .ok (.aload_n 0, 1) := by decide +kernel
theorem dJ7_fill_53178_3 : decode cJ7_fill_53178 3 = .ok (.arraylength, 1) := by decide +kernel
theorem dJ7_fill_53178_4 : decode cJ7_fill_53178 4 = .ok (.istore_n 3, 1) := by decide +kernel
theorem dJ7_fill_53178_5 : decode cJ7_fill_53178 5 = .ok (.iload_n 2, 1) := by decide +kernel
theorem dJ7_fill_53178_6 : decode cJ7_fill_53178 6 = .ok (.iload_n 3, 1) := by decide +kernel
theorem dJ7_fill_53178_7 : decode cJ7_fill_53178 7 = .ok (.if_icmp .ge 13, 3) := by decide +kernel
theorem dJ7_fill_53178_10 : decode cJ7_fill_53178 10 = .ok (.aload_n 0, 1) := by decide +kernel
theorem dJ7_fill_53178_11 : decode cJ7_fill_53178 11 = .ok (.iload_n 2, 1) := by decide +kernel
theorem dJ7_fill_53178_12 : decode cJ7_fill_53178 12 = .ok (.iload_n 1, 1) := by decide +kernel
theorem dJ7_fill_53178_13 : decode cJ7_fill_53178 13 = .ok (.iastore, 1) := by decide +kernel
theorem dJ7_fill_53178_14 : decode cJ7_fill_53178 14 = .ok (.iinc 2 1, 3) := by decide +kernel
theorem dJ7_fill_53178_17 : decode cJ7_fill_53178 17 = .ok (.goto (-12), 3) := by decide +kernel
theorem dJ7_fill_53178_20 : decode cJ7_fill_53178 20 = .ok (.return_, 1) := by decide +kernel
theorem dJ3_checkIndex_8e157_0 : decode cJ3_checkIndex_8e157 0 = .ok (.iload_n 0, 1) := by decide +kernel
theorem dJ3_checkIndex_8e157_1 : decode cJ3_checkIndex_8e157 1 = .ok (.ifCond .lt 8, 3) := by decide +kernel
theorem dJ3_checkIndex_8e157_4 : decode cJ3_checkIndex_8e157 4 = .ok (.iload_n 0, 1) := by decide +kernel
theorem dJ3_checkIndex_8e157_5 : decode cJ3_checkIndex_8e157 5 = .ok (.iload_n 1, 1) := by decide +kernel
theorem dJ3_checkIndex_8e157_6 : decode cJ3_checkIndex_8e157 6 = .ok (.if_icmp .lt 10, 3) := by decide +kernel
theorem dJ3_checkIndex_8e157_9 : decode cJ3_checkIndex_8e157 9 = .ok (.aload_n 2, 1) := by decide +kernel
theorem dJ3_checkIndex_8e157_10 : decode cJ3_checkIndex_8e157 10 = .ok (.iload_n 0, 1) := by decide +kernel
theorem dJ3_checkIndex_8e157_11 : decode cJ3_checkIndex_8e157 11 = .ok (.iload_n 1, 1) := by decide +kernel
theorem dJ3_checkIndex_8e157_12 : decode cJ3_checkIndex_8e157 12 = .ok (.invokestatic 95, 3) := by decide +kernel
theorem dJ3_checkIndex_8e157_15 : decode cJ3_checkIndex_8e157 15 = .ok (.athrow, 1) := by decide +kernel
theorem dJ3_checkIndex_8e157_16 : decode cJ3_checkIndex_8e157 16 = .ok (.iload_n 0, 1) := by decide +kernel
theorem dJ3_checkIndex_8e157_17 : decode cJ3_checkIndex_8e157 17 = .ok (.ireturn, 1) := by decide +kernel
theorem dL_law_0 : decode cL_law 0 = .ok (.new 7, 3) := by decide +kernel
theorem dL_law_3 : decode cL_law 3 = .ok (.dup, 1) := by decide +kernel
theorem dL_law_4 : decode cL_law 4 = .ok (.invokespecial 9, 3) := by decide +kernel
theorem dL_law_7 : decode cL_law 7 = .ok (.astore_n 1, 1) := by decide +kernel
theorem dL_law_8 : decode cL_law 8 = .ok (.new 10, 3) := by decide +kernel
theorem dL_law_11 : decode cL_law 11 = .ok (.dup, 1) := by decide +kernel
theorem dL_law_12 : decode cL_law 12 = .ok (.invokespecial 12, 3) := by decide +kernel
theorem dL_law_15 : decode cL_law 15 = .ok (.astore_n 2, 1) := by decide +kernel
theorem dL_law_16 : decode cL_law 16 = .ok (.iconst 0, 1) := by decide +kernel
theorem dL_law_17 : decode cL_law 17 = .ok (.istore_n 3, 1) := by decide +kernel
theorem dL_law_18 : decode cL_law 18 = .ok (.iload_n 3, 1) := by decide +kernel
theorem dL_law_19 : decode cL_law 19 = .ok (.aload_n 0, 1) := by decide +kernel
theorem dL_law_20 : decode cL_law 20 = .ok (.arraylength, 1) := by decide +kernel
theorem dL_law_21 : decode cL_law 21 = .ok (.bipush 7, 2) := by decide +kernel
theorem dL_law_23 : decode cL_law 23 = .ok (.isub, 1) := by decide +kernel
theorem dL_law_24 : decode cL_law 24 = .ok (.if_icmp .gt 868, 3) := by decide +kernel
theorem dL_law_27 : decode cL_law 27 = .ok (.aload_n 0, 1) := by decide +kernel
theorem dL_law_28 : decode cL_law 28 = .ok (.iload_n 3, 1) := by decide +kernel
theorem dL_law_29 : decode cL_law 29 = .ok (.iaload, 1) := by decide +kernel
theorem dL_law_30 : decode cL_law 30 = .ok (.bipush 31, 2) := by decide +kernel
theorem dL_law_32 : decode cL_law 32 = .ok (.iand, 1) := by decide +kernel
theorem dL_law_33 : decode cL_law 33 = .ok (.tableswitch 853 0 21 #[103, 166, 179, 192, 205, 248, 281, 314, 337, 370, 413, 456, 509, 542, 565, 588, 611, 634, 657, 733, 797, 830], 103) := by decide +kernel
theorem dL_law_136 : decode cL_law 136 = .ok (.aload_n 1, 1) := by decide +kernel
theorem dL_law_137 : decode cL_law 137 = .ok (.aload_n 0, 1) := by decide +kernel
theorem dL_law_138 : decode cL_law 138 = .ok (.iload_n 3, 1) := by decide +kernel
theorem dL_law_139 : decode cL_law 139 = .ok (.iconst 1, 1) := by decide +kernel
theorem dL_law_140 : decode cL_law 140 = .ok (.iadd, 1) := by decide +kernel
theorem dL_law_141 : decode cL_law 141 = .ok (.iaload, 1) := by decide +kernel
theorem dL_law_142 : decode cL_law 142 = .ok (.i2l, 1) := by decide +kernel
theorem dL_law_143 : decode cL_law 143 = .ok (.bipush 32, 2) := by decide +kernel
theorem dL_law_145 : decode cL_law 145 = .ok (.lshl, 1) := by decide +kernel
theorem dL_law_146 : decode cL_law 146 = .ok (.aload_n 0, 1) := by decide +kernel
theorem dL_law_147 : decode cL_law 147 = .ok (.iload_n 3, 1) := by decide +kernel
theorem dL_law_148 : decode cL_law 148 = .ok (.iconst 2, 1) := by decide +kernel
theorem dL_law_149 : decode cL_law 149 = .ok (.iadd, 1) := by decide +kernel
theorem dL_law_150 : decode cL_law 150 = .ok (.iaload, 1) := by decide +kernel
theorem dL_law_151 : decode cL_law 151 = .ok (.i2l, 1) := by decide +kernel
theorem dL_law_152 : decode cL_law 152 = .ok (.ldc2_w 13, 3) := by decide +kernel
theorem dL_law_155 : decode cL_law 155 = .ok (.land, 1) := by decide +kernel
theorem dL_law_156 : decode cL_law 156 = .ok (.lor, 1) := by decide +kernel
theorem dL_law_157 : decode cL_law 157 = .ok (.aload_n 0, 1) := by decide +kernel
theorem dL_law_158 : decode cL_law 158 = .ok (.iload_n 3, 1) := by decide +kernel
theorem dL_law_159 : decode cL_law 159 = .ok (.iconst 3, 1) := by decide +kernel
theorem dL_law_160 : decode cL_law 160 = .ok (.iadd, 1) := by decide +kernel
theorem dL_law_161 : decode cL_law 161 = .ok (.iaload, 1) := by decide +kernel
theorem dL_law_162 : decode cL_law 162 = .ok (.invokevirtual 15, 3) := by decide +kernel
theorem dL_law_165 : decode cL_law 165 = .ok (.aload_n 2, 1) := by decide +kernel
theorem dL_law_166 : decode cL_law 166 = .ok (.aload_n 0, 1) := by decide +kernel
theorem dL_law_167 : decode cL_law 167 = .ok (.iload_n 3, 1) := by decide +kernel
theorem dL_law_168 : decode cL_law 168 = .ok (.iconst 1, 1) := by decide +kernel
theorem dL_law_169 : decode cL_law 169 = .ok (.iadd, 1) := by decide +kernel
theorem dL_law_170 : decode cL_law 170 = .ok (.iaload, 1) := by decide +kernel
theorem dL_law_171 : decode cL_law 171 = .ok (.i2l, 1) := by decide +kernel
theorem dL_law_172 : decode cL_law 172 = .ok (.bipush 32, 2) := by decide +kernel
theorem dL_law_174 : decode cL_law 174 = .ok (.lshl, 1) := by decide +kernel
theorem dL_law_175 : decode cL_law 175 = .ok (.aload_n 0, 1) := by decide +kernel
theorem dL_law_176 : decode cL_law 176 = .ok (.iload_n 3, 1) := by decide +kernel
theorem dL_law_177 : decode cL_law 177 = .ok (.iconst 2, 1) := by decide +kernel
theorem dL_law_178 : decode cL_law 178 = .ok (.iadd, 1) := by decide +kernel
theorem dL_law_179 : decode cL_law 179 = .ok (.iaload, 1) := by decide +kernel
theorem dL_law_180 : decode cL_law 180 = .ok (.i2l, 1) := by decide +kernel
theorem dL_law_181 : decode cL_law 181 = .ok (.ldc2_w 13, 3) := by decide +kernel
theorem dL_law_184 : decode cL_law 184 = .ok (.land, 1) := by decide +kernel
theorem dL_law_185 : decode cL_law 185 = .ok (.lor, 1) := by decide +kernel
theorem dL_law_186 : decode cL_law 186 = .ok (.aload_n 0, 1) := by decide +kernel
theorem dL_law_187 : decode cL_law 187 = .ok (.iload_n 3, 1) := by decide +kernel
theorem dL_law_188 : decode cL_law 188 = .ok (.iconst 3, 1) := by decide +kernel
theorem dL_law_189 : decode cL_law 189 = .ok (.iadd, 1) := by decide +kernel
theorem dL_law_190 : decode cL_law 190 = .ok (.iaload, 1) := by decide +kernel
theorem dL_law_191 : decode cL_law 191 = .ok (.invokevirtual 19, 3) := by decide +kernel
theorem dL_law_194 : decode cL_law 194 = .ok (.if_icmp .eq 692, 3) := by decide +kernel
theorem dL_law_197 : decode cL_law 197 = .ok (.iconst 0, 1) := by decide +kernel
theorem dL_law_198 : decode cL_law 198 = .ok (.ireturn, 1) := by decide +kernel
theorem dL_law_199 : decode cL_law 199 = .ok (.aload_n 1, 1) := by decide +kernel
theorem dL_law_200 : decode cL_law 200 = .ok (.invokevirtual 20, 3) := by decide +kernel
theorem dL_law_203 : decode cL_law 203 = .ok (.aload_n 2, 1) := by decide +kernel
theorem dL_law_204 : decode cL_law 204 = .ok (.invokevirtual 24, 3) := by decide +kernel
theorem dL_law_207 : decode cL_law 207 = .ok (.if_icmp .eq 679, 3) := by decide +kernel
theorem dL_law_210 : decode cL_law 210 = .ok (.iconst 0, 1) := by decide +kernel
theorem dL_law_211 : decode cL_law 211 = .ok (.ireturn, 1) := by decide +kernel
theorem dL_law_212 : decode cL_law 212 = .ok (.aload_n 1, 1) := by decide +kernel
theorem dL_law_213 : decode cL_law 213 = .ok (.invokevirtual 25, 3) := by decide +kernel
theorem dL_law_216 : decode cL_law 216 = .ok (.aload_n 2, 1) := by decide +kernel
theorem dL_law_217 : decode cL_law 217 = .ok (.invokevirtual 28, 3) := by decide +kernel
theorem dL_law_220 : decode cL_law 220 = .ok (.if_icmp .eq 666, 3) := by decide +kernel
theorem dL_law_223 : decode cL_law 223 = .ok (.iconst 0, 1) := by decide +kernel
theorem dL_law_224 : decode cL_law 224 = .ok (.ireturn, 1) := by decide +kernel
theorem dL_law_225 : decode cL_law 225 = .ok (.aload_n 1, 1) := by decide +kernel
theorem dL_law_226 : decode cL_law 226 = .ok (.invokevirtual 29, 3) := by decide +kernel
theorem dL_law_229 : decode cL_law 229 = .ok (.aload_n 2, 1) := by decide +kernel
theorem dL_law_230 : decode cL_law 230 = .ok (.invokevirtual 32, 3) := by decide +kernel
theorem dL_law_233 : decode cL_law 233 = .ok (.if_icmp .eq 653, 3) := by decide +kernel
theorem dL_law_236 : decode cL_law 236 = .ok (.iconst 0, 1) := by decide +kernel
theorem dL_law_237 : decode cL_law 237 = .ok (.ireturn, 1) := by decide +kernel
theorem dL_law_238 : decode cL_law 238 = .ok (.aload_n 1, 1) := by decide +kernel
theorem dL_law_239 : decode cL_law 239 = .ok (.aload_n 0, 1) := by decide +kernel
theorem dL_law_240 : decode cL_law 240 = .ok (.iload_n 3, 1) := by decide +kernel
theorem dL_law_241 : decode cL_law 241 = .ok (.iconst 1, 1) := by decide +kernel
theorem dL_law_242 : decode cL_law 242 = .ok (.iadd, 1) := by decide +kernel
theorem dL_law_243 : decode cL_law 243 = .ok (.iaload, 1) := by decide +kernel
theorem dL_law_244 : decode cL_law 244 = .ok (.aload_n 0, 1) := by decide +kernel
theorem dL_law_245 : decode cL_law 245 = .ok (.iload_n 3, 1) := by decide +kernel
theorem dL_law_246 : decode cL_law 246 = .ok (.iconst 2, 1) := by decide +kernel
theorem dL_law_247 : decode cL_law 247 = .ok (.iadd, 1) := by decide +kernel
theorem dL_law_248 : decode cL_law 248 = .ok (.iaload, 1) := by decide +kernel
theorem dL_law_249 : decode cL_law 249 = .ok (.aload_n 0, 1) := by decide +kernel
theorem dL_law_250 : decode cL_law 250 = .ok (.iload_n 3, 1) := by decide +kernel
theorem dL_law_251 : decode cL_law 251 = .ok (.iconst 3, 1) := by decide +kernel
theorem dL_law_252 : decode cL_law 252 = .ok (.iadd, 1) := by decide +kernel
theorem dL_law_253 : decode cL_law 253 = .ok (.iaload, 1) := by decide +kernel
theorem dL_law_254 : decode cL_law 254 = .ok (.invokevirtual 33, 3) := by decide +kernel
theorem dL_law_257 : decode cL_law 257 = .ok (.aload_n 2, 1) := by decide +kernel
theorem dL_law_258 : decode cL_law 258 = .ok (.aload_n 0, 1) := by decide +kernel
theorem dL_law_259 : decode cL_law 259 = .ok (.iload_n 3, 1) := by decide +kernel
theorem dL_law_260 : decode cL_law 260 = .ok (.iconst 1, 1) := by decide +kernel
theorem dL_law_261 : decode cL_law 261 = .ok (.iadd, 1) := by decide +kernel
theorem dL_law_262 : decode cL_law 262 = .ok (.iaload, 1) := by decide +kernel
theorem dL_law_263 : decode cL_law 263 = .ok (.aload_n 0, 1) := by decide +kernel
theorem dL_law_264 : decode cL_law 264 = .ok (.iload_n 3, 1) := by decide +kernel
theorem dL_law_265 : decode cL_law 265 = .ok (.iconst 2, 1) := by decide +kernel
theorem dL_law_266 : decode cL_law 266 = .ok (.iadd, 1) := by decide +kernel
theorem dL_law_267 : decode cL_law 267 = .ok (.iaload, 1) := by decide +kernel
theorem dL_law_268 : decode cL_law 268 = .ok (.aload_n 0, 1) := by decide +kernel
theorem dL_law_269 : decode cL_law 269 = .ok (.iload_n 3, 1) := by decide +kernel
theorem dL_law_270 : decode cL_law 270 = .ok (.iconst 3, 1) := by decide +kernel
theorem dL_law_271 : decode cL_law 271 = .ok (.iadd, 1) := by decide +kernel
theorem dL_law_272 : decode cL_law 272 = .ok (.iaload, 1) := by decide +kernel
theorem dL_law_273 : decode cL_law 273 = .ok (.invokevirtual 37, 3) := by decide +kernel
theorem dL_law_276 : decode cL_law 276 = .ok (.if_icmp .eq 610, 3) := by decide +kernel
theorem dL_law_279 : decode cL_law 279 = .ok (.iconst 0, 1) := by decide +kernel
theorem dL_law_280 : decode cL_law 280 = .ok (.ireturn, 1) := by decide +kernel
theorem dL_law_281 : decode cL_law 281 = .ok (.aload_n 1, 1) := by decide +kernel
theorem dL_law_282 : decode cL_law 282 = .ok (.aload_n 0, 1) := by decide +kernel
theorem dL_law_283 : decode cL_law 283 = .ok (.iload_n 3, 1) := by decide +kernel
theorem dL_law_284 : decode cL_law 284 = .ok (.iconst 1, 1) := by decide +kernel
theorem dL_law_285 : decode cL_law 285 = .ok (.iadd, 1) := by decide +kernel
theorem dL_law_286 : decode cL_law 286 = .ok (.iaload, 1) := by decide +kernel
theorem dL_law_287 : decode cL_law 287 = .ok (.aload_n 0, 1) := by decide +kernel
theorem dL_law_288 : decode cL_law 288 = .ok (.iload_n 3, 1) := by decide +kernel
theorem dL_law_289 : decode cL_law 289 = .ok (.iconst 2, 1) := by decide +kernel
theorem dL_law_290 : decode cL_law 290 = .ok (.iadd, 1) := by decide +kernel
theorem dL_law_291 : decode cL_law 291 = .ok (.iaload, 1) := by decide +kernel
theorem dL_law_292 : decode cL_law 292 = .ok (.invokevirtual 38, 3) := by decide +kernel
theorem dL_law_295 : decode cL_law 295 = .ok (.aload_n 2, 1) := by decide +kernel
theorem dL_law_296 : decode cL_law 296 = .ok (.aload_n 0, 1) := by decide +kernel
theorem dL_law_297 : decode cL_law 297 = .ok (.iload_n 3, 1) := by decide +kernel
theorem dL_law_298 : decode cL_law 298 = .ok (.iconst 1, 1) := by decide +kernel
theorem dL_law_299 : decode cL_law 299 = .ok (.iadd, 1) := by decide +kernel
theorem dL_law_300 : decode cL_law 300 = .ok (.iaload, 1) := by decide +kernel
theorem dL_law_301 : decode cL_law 301 = .ok (.aload_n 0, 1) := by decide +kernel
theorem dL_law_302 : decode cL_law 302 = .ok (.iload_n 3, 1) := by decide +kernel
theorem dL_law_303 : decode cL_law 303 = .ok (.iconst 2, 1) := by decide +kernel
theorem dL_law_304 : decode cL_law 304 = .ok (.iadd, 1) := by decide +kernel
theorem dL_law_305 : decode cL_law 305 = .ok (.iaload, 1) := by decide +kernel
theorem dL_law_306 : decode cL_law 306 = .ok (.invokevirtual 42, 3) := by decide +kernel
theorem dL_law_309 : decode cL_law 309 = .ok (.if_icmp .eq 577, 3) := by decide +kernel
theorem dL_law_312 : decode cL_law 312 = .ok (.iconst 0, 1) := by decide +kernel
theorem dL_law_313 : decode cL_law 313 = .ok (.ireturn, 1) := by decide +kernel
theorem dL_law_314 : decode cL_law 314 = .ok (.aload_n 1, 1) := by decide +kernel
theorem dL_law_315 : decode cL_law 315 = .ok (.aload_n 0, 1) := by decide +kernel
theorem dL_law_316 : decode cL_law 316 = .ok (.iload_n 3, 1) := by decide +kernel
theorem dL_law_317 : decode cL_law 317 = .ok (.iconst 1, 1) := by decide +kernel
theorem dL_law_318 : decode cL_law 318 = .ok (.iadd, 1) := by decide +kernel
theorem dL_law_319 : decode cL_law 319 = .ok (.iaload, 1) := by decide +kernel
theorem dL_law_320 : decode cL_law 320 = .ok (.aload_n 0, 1) := by decide +kernel
theorem dL_law_321 : decode cL_law 321 = .ok (.iload_n 3, 1) := by decide +kernel
theorem dL_law_322 : decode cL_law 322 = .ok (.iconst 2, 1) := by decide +kernel
theorem dL_law_323 : decode cL_law 323 = .ok (.iadd, 1) := by decide +kernel
theorem dL_law_324 : decode cL_law 324 = .ok (.iaload, 1) := by decide +kernel
theorem dL_law_325 : decode cL_law 325 = .ok (.invokevirtual 43, 3) := by decide +kernel
theorem dL_law_328 : decode cL_law 328 = .ok (.aload_n 2, 1) := by decide +kernel
theorem dL_law_329 : decode cL_law 329 = .ok (.aload_n 0, 1) := by decide +kernel
theorem dL_law_330 : decode cL_law 330 = .ok (.iload_n 3, 1) := by decide +kernel
theorem dL_law_331 : decode cL_law 331 = .ok (.iconst 1, 1) := by decide +kernel
theorem dL_law_332 : decode cL_law 332 = .ok (.iadd, 1) := by decide +kernel
theorem dL_law_333 : decode cL_law 333 = .ok (.iaload, 1) := by decide +kernel
theorem dL_law_334 : decode cL_law 334 = .ok (.aload_n 0, 1) := by decide +kernel
theorem dL_law_335 : decode cL_law 335 = .ok (.iload_n 3, 1) := by decide +kernel
theorem dL_law_336 : decode cL_law 336 = .ok (.iconst 2, 1) := by decide +kernel
theorem dL_law_337 : decode cL_law 337 = .ok (.iadd, 1) := by decide +kernel
theorem dL_law_338 : decode cL_law 338 = .ok (.iaload, 1) := by decide +kernel
theorem dL_law_339 : decode cL_law 339 = .ok (.invokevirtual 46, 3) := by decide +kernel
theorem dL_law_342 : decode cL_law 342 = .ok (.if_icmp .eq 544, 3) := by decide +kernel
theorem dL_law_345 : decode cL_law 345 = .ok (.iconst 0, 1) := by decide +kernel
theorem dL_law_346 : decode cL_law 346 = .ok (.ireturn, 1) := by decide +kernel
theorem dL_law_347 : decode cL_law 347 = .ok (.aload_n 1, 1) := by decide +kernel
theorem dL_law_348 : decode cL_law 348 = .ok (.aload_n 0, 1) := by decide +kernel
theorem dL_law_349 : decode cL_law 349 = .ok (.iload_n 3, 1) := by decide +kernel
theorem dL_law_350 : decode cL_law 350 = .ok (.iconst 1, 1) := by decide +kernel
theorem dL_law_351 : decode cL_law 351 = .ok (.iadd, 1) := by decide +kernel
theorem dL_law_352 : decode cL_law 352 = .ok (.iaload, 1) := by decide +kernel
theorem dL_law_353 : decode cL_law 353 = .ok (.invokevirtual 47, 3) := by decide +kernel
theorem dL_law_356 : decode cL_law 356 = .ok (.aload_n 2, 1) := by decide +kernel
theorem dL_law_357 : decode cL_law 357 = .ok (.aload_n 0, 1) := by decide +kernel
theorem dL_law_358 : decode cL_law 358 = .ok (.iload_n 3, 1) := by decide +kernel
theorem dL_law_359 : decode cL_law 359 = .ok (.iconst 1, 1) := by decide +kernel
theorem dL_law_360 : decode cL_law 360 = .ok (.iadd, 1) := by decide +kernel
theorem dL_law_361 : decode cL_law 361 = .ok (.iaload, 1) := by decide +kernel
theorem dL_law_362 : decode cL_law 362 = .ok (.invokevirtual 51, 3) := by decide +kernel
theorem dL_law_365 : decode cL_law 365 = .ok (.if_icmp .eq 521, 3) := by decide +kernel
theorem dL_law_368 : decode cL_law 368 = .ok (.iconst 0, 1) := by decide +kernel
theorem dL_law_369 : decode cL_law 369 = .ok (.ireturn, 1) := by decide +kernel
theorem dL_law_370 : decode cL_law 370 = .ok (.aload_n 1, 1) := by decide +kernel
theorem dL_law_371 : decode cL_law 371 = .ok (.aload_n 0, 1) := by decide +kernel
theorem dL_law_372 : decode cL_law 372 = .ok (.iload_n 3, 1) := by decide +kernel
theorem dL_law_373 : decode cL_law 373 = .ok (.iconst 1, 1) := by decide +kernel
theorem dL_law_374 : decode cL_law 374 = .ok (.iadd, 1) := by decide +kernel
theorem dL_law_375 : decode cL_law 375 = .ok (.iaload, 1) := by decide +kernel
theorem dL_law_376 : decode cL_law 376 = .ok (.aload_n 0, 1) := by decide +kernel
theorem dL_law_377 : decode cL_law 377 = .ok (.iload_n 3, 1) := by decide +kernel
theorem dL_law_378 : decode cL_law 378 = .ok (.iconst 2, 1) := by decide +kernel
theorem dL_law_379 : decode cL_law 379 = .ok (.iadd, 1) := by decide +kernel
theorem dL_law_380 : decode cL_law 380 = .ok (.iaload, 1) := by decide +kernel
theorem dL_law_381 : decode cL_law 381 = .ok (.invokevirtual 52, 3) := by decide +kernel
theorem dL_law_384 : decode cL_law 384 = .ok (.aload_n 2, 1) := by decide +kernel
theorem dL_law_385 : decode cL_law 385 = .ok (.aload_n 0, 1) := by decide +kernel
theorem dL_law_386 : decode cL_law 386 = .ok (.iload_n 3, 1) := by decide +kernel
theorem dL_law_387 : decode cL_law 387 = .ok (.iconst 1, 1) := by decide +kernel
theorem dL_law_388 : decode cL_law 388 = .ok (.iadd, 1) := by decide +kernel
theorem dL_law_389 : decode cL_law 389 = .ok (.iaload, 1) := by decide +kernel
theorem dL_law_390 : decode cL_law 390 = .ok (.aload_n 0, 1) := by decide +kernel
theorem dL_law_391 : decode cL_law 391 = .ok (.iload_n 3, 1) := by decide +kernel
theorem dL_law_392 : decode cL_law 392 = .ok (.iconst 2, 1) := by decide +kernel
theorem dL_law_393 : decode cL_law 393 = .ok (.iadd, 1) := by decide +kernel
theorem dL_law_394 : decode cL_law 394 = .ok (.iaload, 1) := by decide +kernel
theorem dL_law_395 : decode cL_law 395 = .ok (.invokevirtual 55, 3) := by decide +kernel
theorem dL_law_398 : decode cL_law 398 = .ok (.if_icmp .eq 488, 3) := by decide +kernel
theorem dL_law_401 : decode cL_law 401 = .ok (.iconst 0, 1) := by decide +kernel
theorem dL_law_402 : decode cL_law 402 = .ok (.ireturn, 1) := by decide +kernel
theorem dL_law_403 : decode cL_law 403 = .ok (.aload_n 1, 1) := by decide +kernel
theorem dL_law_404 : decode cL_law 404 = .ok (.aload_n 0, 1) := by decide +kernel
theorem dL_law_405 : decode cL_law 405 = .ok (.iload_n 3, 1) := by decide +kernel
theorem dL_law_406 : decode cL_law 406 = .ok (.iconst 1, 1) := by decide +kernel
theorem dL_law_407 : decode cL_law 407 = .ok (.iadd, 1) := by decide +kernel
theorem dL_law_408 : decode cL_law 408 = .ok (.iaload, 1) := by decide +kernel
theorem dL_law_409 : decode cL_law 409 = .ok (.aload_n 0, 1) := by decide +kernel
theorem dL_law_410 : decode cL_law 410 = .ok (.iload_n 3, 1) := by decide +kernel
theorem dL_law_411 : decode cL_law 411 = .ok (.iconst 2, 1) := by decide +kernel
theorem dL_law_412 : decode cL_law 412 = .ok (.iadd, 1) := by decide +kernel
theorem dL_law_413 : decode cL_law 413 = .ok (.iaload, 1) := by decide +kernel
theorem dL_law_414 : decode cL_law 414 = .ok (.aload_n 0, 1) := by decide +kernel
theorem dL_law_415 : decode cL_law 415 = .ok (.iload_n 3, 1) := by decide +kernel
theorem dL_law_416 : decode cL_law 416 = .ok (.iconst 3, 1) := by decide +kernel
theorem dL_law_417 : decode cL_law 417 = .ok (.iadd, 1) := by decide +kernel
theorem dL_law_418 : decode cL_law 418 = .ok (.iaload, 1) := by decide +kernel
theorem dL_law_419 : decode cL_law 419 = .ok (.invokevirtual 56, 3) := by decide +kernel
theorem dL_law_422 : decode cL_law 422 = .ok (.aload_n 2, 1) := by decide +kernel
theorem dL_law_423 : decode cL_law 423 = .ok (.aload_n 0, 1) := by decide +kernel
theorem dL_law_424 : decode cL_law 424 = .ok (.iload_n 3, 1) := by decide +kernel
theorem dL_law_425 : decode cL_law 425 = .ok (.iconst 1, 1) := by decide +kernel
theorem dL_law_426 : decode cL_law 426 = .ok (.iadd, 1) := by decide +kernel
theorem dL_law_427 : decode cL_law 427 = .ok (.iaload, 1) := by decide +kernel
theorem dL_law_428 : decode cL_law 428 = .ok (.aload_n 0, 1) := by decide +kernel
theorem dL_law_429 : decode cL_law 429 = .ok (.iload_n 3, 1) := by decide +kernel
theorem dL_law_430 : decode cL_law 430 = .ok (.iconst 2, 1) := by decide +kernel
theorem dL_law_431 : decode cL_law 431 = .ok (.iadd, 1) := by decide +kernel
theorem dL_law_432 : decode cL_law 432 = .ok (.iaload, 1) := by decide +kernel
theorem dL_law_433 : decode cL_law 433 = .ok (.aload_n 0, 1) := by decide +kernel
theorem dL_law_434 : decode cL_law 434 = .ok (.iload_n 3, 1) := by decide +kernel
theorem dL_law_435 : decode cL_law 435 = .ok (.iconst 3, 1) := by decide +kernel
theorem dL_law_436 : decode cL_law 436 = .ok (.iadd, 1) := by decide +kernel
theorem dL_law_437 : decode cL_law 437 = .ok (.iaload, 1) := by decide +kernel
theorem dL_law_438 : decode cL_law 438 = .ok (.invokevirtual 59, 3) := by decide +kernel
theorem dL_law_441 : decode cL_law 441 = .ok (.if_icmp .eq 445, 3) := by decide +kernel
theorem dL_law_444 : decode cL_law 444 = .ok (.iconst 0, 1) := by decide +kernel
theorem dL_law_445 : decode cL_law 445 = .ok (.ireturn, 1) := by decide +kernel
theorem dL_law_446 : decode cL_law 446 = .ok (.aload_n 1, 1) := by decide +kernel
theorem dL_law_447 : decode cL_law 447 = .ok (.aload_n 0, 1) := by decide +kernel
theorem dL_law_448 : decode cL_law 448 = .ok (.iload_n 3, 1) := by decide +kernel
theorem dL_law_449 : decode cL_law 449 = .ok (.iconst 1, 1) := by decide +kernel
theorem dL_law_450 : decode cL_law 450 = .ok (.iadd, 1) := by decide +kernel
theorem dL_law_451 : decode cL_law 451 = .ok (.iaload, 1) := by decide +kernel
theorem dL_law_452 : decode cL_law 452 = .ok (.aload_n 0, 1) := by decide +kernel
theorem dL_law_453 : decode cL_law 453 = .ok (.iload_n 3, 1) := by decide +kernel
theorem dL_law_454 : decode cL_law 454 = .ok (.iconst 2, 1) := by decide +kernel
theorem dL_law_455 : decode cL_law 455 = .ok (.iadd, 1) := by decide +kernel
theorem dL_law_456 : decode cL_law 456 = .ok (.iaload, 1) := by decide +kernel
theorem dL_law_457 : decode cL_law 457 = .ok (.aload_n 0, 1) := by decide +kernel
theorem dL_law_458 : decode cL_law 458 = .ok (.iload_n 3, 1) := by decide +kernel
theorem dL_law_459 : decode cL_law 459 = .ok (.iconst 3, 1) := by decide +kernel
theorem dL_law_460 : decode cL_law 460 = .ok (.iadd, 1) := by decide +kernel
theorem dL_law_461 : decode cL_law 461 = .ok (.iaload, 1) := by decide +kernel
theorem dL_law_462 : decode cL_law 462 = .ok (.invokevirtual 60, 3) := by decide +kernel
theorem dL_law_465 : decode cL_law 465 = .ok (.aload_n 2, 1) := by decide +kernel
theorem dL_law_466 : decode cL_law 466 = .ok (.aload_n 0, 1) := by decide +kernel
theorem dL_law_467 : decode cL_law 467 = .ok (.iload_n 3, 1) := by decide +kernel
theorem dL_law_468 : decode cL_law 468 = .ok (.iconst 1, 1) := by decide +kernel
theorem dL_law_469 : decode cL_law 469 = .ok (.iadd, 1) := by decide +kernel
theorem dL_law_470 : decode cL_law 470 = .ok (.iaload, 1) := by decide +kernel
theorem dL_law_471 : decode cL_law 471 = .ok (.aload_n 0, 1) := by decide +kernel
theorem dL_law_472 : decode cL_law 472 = .ok (.iload_n 3, 1) := by decide +kernel
theorem dL_law_473 : decode cL_law 473 = .ok (.iconst 2, 1) := by decide +kernel
theorem dL_law_474 : decode cL_law 474 = .ok (.iadd, 1) := by decide +kernel
theorem dL_law_475 : decode cL_law 475 = .ok (.iaload, 1) := by decide +kernel
theorem dL_law_476 : decode cL_law 476 = .ok (.aload_n 0, 1) := by decide +kernel
theorem dL_law_477 : decode cL_law 477 = .ok (.iload_n 3, 1) := by decide +kernel
theorem dL_law_478 : decode cL_law 478 = .ok (.iconst 3, 1) := by decide +kernel
theorem dL_law_479 : decode cL_law 479 = .ok (.iadd, 1) := by decide +kernel
theorem dL_law_480 : decode cL_law 480 = .ok (.iaload, 1) := by decide +kernel
theorem dL_law_481 : decode cL_law 481 = .ok (.invokevirtual 63, 3) := by decide +kernel
theorem dL_law_484 : decode cL_law 484 = .ok (.if_icmp .eq 402, 3) := by decide +kernel
theorem dL_law_487 : decode cL_law 487 = .ok (.iconst 0, 1) := by decide +kernel
theorem dL_law_488 : decode cL_law 488 = .ok (.ireturn, 1) := by decide +kernel
theorem dL_law_489 : decode cL_law 489 = .ok (.aload_n 1, 1) := by decide +kernel
theorem dL_law_490 : decode cL_law 490 = .ok (.aload_n 0, 1) := by decide +kernel
theorem dL_law_491 : decode cL_law 491 = .ok (.iload_n 3, 1) := by decide +kernel
theorem dL_law_492 : decode cL_law 492 = .ok (.iconst 1, 1) := by decide +kernel
theorem dL_law_493 : decode cL_law 493 = .ok (.iadd, 1) := by decide +kernel
theorem dL_law_494 : decode cL_law 494 = .ok (.iaload, 1) := by decide +kernel
theorem dL_law_495 : decode cL_law 495 = .ok (.aload_n 0, 1) := by decide +kernel
theorem dL_law_496 : decode cL_law 496 = .ok (.iload_n 3, 1) := by decide +kernel
theorem dL_law_497 : decode cL_law 497 = .ok (.iconst 2, 1) := by decide +kernel
theorem dL_law_498 : decode cL_law 498 = .ok (.iadd, 1) := by decide +kernel
theorem dL_law_499 : decode cL_law 499 = .ok (.iaload, 1) := by decide +kernel
theorem dL_law_500 : decode cL_law 500 = .ok (.aload_n 0, 1) := by decide +kernel
theorem dL_law_501 : decode cL_law 501 = .ok (.iload_n 3, 1) := by decide +kernel
theorem dL_law_502 : decode cL_law 502 = .ok (.iconst 3, 1) := by decide +kernel
theorem dL_law_503 : decode cL_law 503 = .ok (.iadd, 1) := by decide +kernel
theorem dL_law_504 : decode cL_law 504 = .ok (.iaload, 1) := by decide +kernel
theorem dL_law_505 : decode cL_law 505 = .ok (.aload_n 0, 1) := by decide +kernel
theorem dL_law_506 : decode cL_law 506 = .ok (.iload_n 3, 1) := by decide +kernel
theorem dL_law_507 : decode cL_law 507 = .ok (.iconst 4, 1) := by decide +kernel
theorem dL_law_508 : decode cL_law 508 = .ok (.iadd, 1) := by decide +kernel
theorem dL_law_509 : decode cL_law 509 = .ok (.iaload, 1) := by decide +kernel
theorem dL_law_510 : decode cL_law 510 = .ok (.invokevirtual 64, 3) := by decide +kernel
theorem dL_law_513 : decode cL_law 513 = .ok (.aload_n 2, 1) := by decide +kernel
theorem dL_law_514 : decode cL_law 514 = .ok (.aload_n 0, 1) := by decide +kernel
theorem dL_law_515 : decode cL_law 515 = .ok (.iload_n 3, 1) := by decide +kernel
theorem dL_law_516 : decode cL_law 516 = .ok (.iconst 1, 1) := by decide +kernel
theorem dL_law_517 : decode cL_law 517 = .ok (.iadd, 1) := by decide +kernel
theorem dL_law_518 : decode cL_law 518 = .ok (.iaload, 1) := by decide +kernel
theorem dL_law_519 : decode cL_law 519 = .ok (.aload_n 0, 1) := by decide +kernel
theorem dL_law_520 : decode cL_law 520 = .ok (.iload_n 3, 1) := by decide +kernel
theorem dL_law_521 : decode cL_law 521 = .ok (.iconst 2, 1) := by decide +kernel
theorem dL_law_522 : decode cL_law 522 = .ok (.iadd, 1) := by decide +kernel
theorem dL_law_523 : decode cL_law 523 = .ok (.iaload, 1) := by decide +kernel
theorem dL_law_524 : decode cL_law 524 = .ok (.aload_n 0, 1) := by decide +kernel
theorem dL_law_525 : decode cL_law 525 = .ok (.iload_n 3, 1) := by decide +kernel
theorem dL_law_526 : decode cL_law 526 = .ok (.iconst 3, 1) := by decide +kernel
theorem dL_law_527 : decode cL_law 527 = .ok (.iadd, 1) := by decide +kernel
theorem dL_law_528 : decode cL_law 528 = .ok (.iaload, 1) := by decide +kernel
theorem dL_law_529 : decode cL_law 529 = .ok (.aload_n 0, 1) := by decide +kernel
theorem dL_law_530 : decode cL_law 530 = .ok (.iload_n 3, 1) := by decide +kernel
theorem dL_law_531 : decode cL_law 531 = .ok (.iconst 4, 1) := by decide +kernel
theorem dL_law_532 : decode cL_law 532 = .ok (.iadd, 1) := by decide +kernel
theorem dL_law_533 : decode cL_law 533 = .ok (.iaload, 1) := by decide +kernel
theorem dL_law_534 : decode cL_law 534 = .ok (.invokevirtual 68, 3) := by decide +kernel
theorem dL_law_537 : decode cL_law 537 = .ok (.if_icmp .eq 349, 3) := by decide +kernel
theorem dL_law_540 : decode cL_law 540 = .ok (.iconst 0, 1) := by decide +kernel
theorem dL_law_541 : decode cL_law 541 = .ok (.ireturn, 1) := by decide +kernel
theorem dL_law_542 : decode cL_law 542 = .ok (.aload_n 1, 1) := by decide +kernel
theorem dL_law_543 : decode cL_law 543 = .ok (.aload_n 0, 1) := by decide +kernel
theorem dL_law_544 : decode cL_law 544 = .ok (.iload_n 3, 1) := by decide +kernel
theorem dL_law_545 : decode cL_law 545 = .ok (.iconst 1, 1) := by decide +kernel
theorem dL_law_546 : decode cL_law 546 = .ok (.iadd, 1) := by decide +kernel
theorem dL_law_547 : decode cL_law 547 = .ok (.iaload, 1) := by decide +kernel
theorem dL_law_548 : decode cL_law 548 = .ok (.aload_n 0, 1) := by decide +kernel
theorem dL_law_549 : decode cL_law 549 = .ok (.iload_n 3, 1) := by decide +kernel
theorem dL_law_550 : decode cL_law 550 = .ok (.iconst 2, 1) := by decide +kernel
theorem dL_law_551 : decode cL_law 551 = .ok (.iadd, 1) := by decide +kernel
theorem dL_law_552 : decode cL_law 552 = .ok (.iaload, 1) := by decide +kernel
theorem dL_law_553 : decode cL_law 553 = .ok (.invokevirtual 69, 3) := by decide +kernel
theorem dL_law_556 : decode cL_law 556 = .ok (.aload_n 2, 1) := by decide +kernel
theorem dL_law_557 : decode cL_law 557 = .ok (.aload_n 0, 1) := by decide +kernel
theorem dL_law_558 : decode cL_law 558 = .ok (.iload_n 3, 1) := by decide +kernel
theorem dL_law_559 : decode cL_law 559 = .ok (.iconst 1, 1) := by decide +kernel
theorem dL_law_560 : decode cL_law 560 = .ok (.iadd, 1) := by decide +kernel
theorem dL_law_561 : decode cL_law 561 = .ok (.iaload, 1) := by decide +kernel
theorem dL_law_562 : decode cL_law 562 = .ok (.aload_n 0, 1) := by decide +kernel
theorem dL_law_563 : decode cL_law 563 = .ok (.iload_n 3, 1) := by decide +kernel
theorem dL_law_564 : decode cL_law 564 = .ok (.iconst 2, 1) := by decide +kernel
theorem dL_law_565 : decode cL_law 565 = .ok (.iadd, 1) := by decide +kernel
theorem dL_law_566 : decode cL_law 566 = .ok (.iaload, 1) := by decide +kernel
theorem dL_law_567 : decode cL_law 567 = .ok (.invokevirtual 72, 3) := by decide +kernel
theorem dL_law_570 : decode cL_law 570 = .ok (.if_icmp .eq 316, 3) := by decide +kernel
theorem dL_law_573 : decode cL_law 573 = .ok (.iconst 0, 1) := by decide +kernel
theorem dL_law_574 : decode cL_law 574 = .ok (.ireturn, 1) := by decide +kernel
theorem dL_law_575 : decode cL_law 575 = .ok (.aload_n 1, 1) := by decide +kernel
theorem dL_law_576 : decode cL_law 576 = .ok (.aload_n 0, 1) := by decide +kernel
theorem dL_law_577 : decode cL_law 577 = .ok (.iload_n 3, 1) := by decide +kernel
theorem dL_law_578 : decode cL_law 578 = .ok (.iconst 1, 1) := by decide +kernel
theorem dL_law_579 : decode cL_law 579 = .ok (.iadd, 1) := by decide +kernel
theorem dL_law_580 : decode cL_law 580 = .ok (.iaload, 1) := by decide +kernel
theorem dL_law_581 : decode cL_law 581 = .ok (.invokevirtual 73, 3) := by decide +kernel
theorem dL_law_584 : decode cL_law 584 = .ok (.aload_n 2, 1) := by decide +kernel
theorem dL_law_585 : decode cL_law 585 = .ok (.aload_n 0, 1) := by decide +kernel
theorem dL_law_586 : decode cL_law 586 = .ok (.iload_n 3, 1) := by decide +kernel
theorem dL_law_587 : decode cL_law 587 = .ok (.iconst 1, 1) := by decide +kernel
theorem dL_law_588 : decode cL_law 588 = .ok (.iadd, 1) := by decide +kernel
theorem dL_law_589 : decode cL_law 589 = .ok (.iaload, 1) := by decide +kernel
theorem dL_law_590 : decode cL_law 590 = .ok (.invokevirtual 76, 3) := by decide +kernel
theorem dL_law_593 : decode cL_law 593 = .ok (.if_icmp .eq 293, 3) := by decide +kernel
theorem dL_law_596 : decode cL_law 596 = .ok (.iconst 0, 1) := by decide +kernel
theorem dL_law_597 : decode cL_law 597 = .ok (.ireturn, 1) := by decide +kernel
theorem dL_law_598 : decode cL_law 598 = .ok (.aload_n 1, 1) := by decide +kernel
theorem dL_law_599 : decode cL_law 599 = .ok (.aload_n 0, 1) := by decide +kernel
theorem dL_law_600 : decode cL_law 600 = .ok (.iload_n 3, 1) := by decide +kernel
theorem dL_law_601 : decode cL_law 601 = .ok (.iconst 1, 1) := by decide +kernel
theorem dL_law_602 : decode cL_law 602 = .ok (.iadd, 1) := by decide +kernel
theorem dL_law_603 : decode cL_law 603 = .ok (.iaload, 1) := by decide +kernel
theorem dL_law_604 : decode cL_law 604 = .ok (.invokevirtual 77, 3) := by decide +kernel
theorem dL_law_607 : decode cL_law 607 = .ok (.aload_n 2, 1) := by decide +kernel
theorem dL_law_608 : decode cL_law 608 = .ok (.aload_n 0, 1) := by decide +kernel
theorem dL_law_609 : decode cL_law 609 = .ok (.iload_n 3, 1) := by decide +kernel
theorem dL_law_610 : decode cL_law 610 = .ok (.iconst 1, 1) := by decide +kernel
theorem dL_law_611 : decode cL_law 611 = .ok (.iadd, 1) := by decide +kernel
theorem dL_law_612 : decode cL_law 612 = .ok (.iaload, 1) := by decide +kernel
theorem dL_law_613 : decode cL_law 613 = .ok (.invokevirtual 80, 3) := by decide +kernel
theorem dL_law_616 : decode cL_law 616 = .ok (.if_icmp .eq 270, 3) := by decide +kernel
theorem dL_law_619 : decode cL_law 619 = .ok (.iconst 0, 1) := by decide +kernel
theorem dL_law_620 : decode cL_law 620 = .ok (.ireturn, 1) := by decide +kernel
theorem dL_law_621 : decode cL_law 621 = .ok (.aload_n 1, 1) := by decide +kernel
theorem dL_law_622 : decode cL_law 622 = .ok (.aload_n 0, 1) := by decide +kernel
theorem dL_law_623 : decode cL_law 623 = .ok (.iload_n 3, 1) := by decide +kernel
theorem dL_law_624 : decode cL_law 624 = .ok (.iconst 1, 1) := by decide +kernel
theorem dL_law_625 : decode cL_law 625 = .ok (.iadd, 1) := by decide +kernel
theorem dL_law_626 : decode cL_law 626 = .ok (.iaload, 1) := by decide +kernel
theorem dL_law_627 : decode cL_law 627 = .ok (.invokevirtual 81, 3) := by decide +kernel
theorem dL_law_630 : decode cL_law 630 = .ok (.aload_n 2, 1) := by decide +kernel
theorem dL_law_631 : decode cL_law 631 = .ok (.aload_n 0, 1) := by decide +kernel
theorem dL_law_632 : decode cL_law 632 = .ok (.iload_n 3, 1) := by decide +kernel
theorem dL_law_633 : decode cL_law 633 = .ok (.iconst 1, 1) := by decide +kernel
theorem dL_law_634 : decode cL_law 634 = .ok (.iadd, 1) := by decide +kernel
theorem dL_law_635 : decode cL_law 635 = .ok (.iaload, 1) := by decide +kernel
theorem dL_law_636 : decode cL_law 636 = .ok (.invokevirtual 84, 3) := by decide +kernel
theorem dL_law_639 : decode cL_law 639 = .ok (.if_icmp .eq 247, 3) := by decide +kernel
theorem dL_law_642 : decode cL_law 642 = .ok (.iconst 0, 1) := by decide +kernel
theorem dL_law_643 : decode cL_law 643 = .ok (.ireturn, 1) := by decide +kernel
theorem dL_law_644 : decode cL_law 644 = .ok (.aload_n 1, 1) := by decide +kernel
theorem dL_law_645 : decode cL_law 645 = .ok (.aload_n 0, 1) := by decide +kernel
theorem dL_law_646 : decode cL_law 646 = .ok (.iload_n 3, 1) := by decide +kernel
theorem dL_law_647 : decode cL_law 647 = .ok (.iconst 1, 1) := by decide +kernel
theorem dL_law_648 : decode cL_law 648 = .ok (.iadd, 1) := by decide +kernel
theorem dL_law_649 : decode cL_law 649 = .ok (.iaload, 1) := by decide +kernel
theorem dL_law_650 : decode cL_law 650 = .ok (.invokevirtual 85, 3) := by decide +kernel
theorem dL_law_653 : decode cL_law 653 = .ok (.aload_n 2, 1) := by decide +kernel
theorem dL_law_654 : decode cL_law 654 = .ok (.aload_n 0, 1) := by decide +kernel
theorem dL_law_655 : decode cL_law 655 = .ok (.iload_n 3, 1) := by decide +kernel
theorem dL_law_656 : decode cL_law 656 = .ok (.iconst 1, 1) := by decide +kernel
theorem dL_law_657 : decode cL_law 657 = .ok (.iadd, 1) := by decide +kernel
theorem dL_law_658 : decode cL_law 658 = .ok (.iaload, 1) := by decide +kernel
theorem dL_law_659 : decode cL_law 659 = .ok (.invokevirtual 88, 3) := by decide +kernel
theorem dL_law_662 : decode cL_law 662 = .ok (.if_icmp .eq 224, 3) := by decide +kernel
theorem dL_law_665 : decode cL_law 665 = .ok (.iconst 0, 1) := by decide +kernel
theorem dL_law_666 : decode cL_law 666 = .ok (.ireturn, 1) := by decide +kernel
theorem dL_law_667 : decode cL_law 667 = .ok (.aload_n 1, 1) := by decide +kernel
theorem dL_law_668 : decode cL_law 668 = .ok (.aload_n 0, 1) := by decide +kernel
theorem dL_law_669 : decode cL_law 669 = .ok (.iload_n 3, 1) := by decide +kernel
theorem dL_law_670 : decode cL_law 670 = .ok (.iconst 1, 1) := by decide +kernel
theorem dL_law_671 : decode cL_law 671 = .ok (.iadd, 1) := by decide +kernel
theorem dL_law_672 : decode cL_law 672 = .ok (.iaload, 1) := by decide +kernel
theorem dL_law_673 : decode cL_law 673 = .ok (.invokevirtual 89, 3) := by decide +kernel
theorem dL_law_676 : decode cL_law 676 = .ok (.aload_n 2, 1) := by decide +kernel
theorem dL_law_677 : decode cL_law 677 = .ok (.aload_n 0, 1) := by decide +kernel
theorem dL_law_678 : decode cL_law 678 = .ok (.iload_n 3, 1) := by decide +kernel
theorem dL_law_679 : decode cL_law 679 = .ok (.iconst 1, 1) := by decide +kernel
theorem dL_law_680 : decode cL_law 680 = .ok (.iadd, 1) := by decide +kernel
theorem dL_law_681 : decode cL_law 681 = .ok (.iaload, 1) := by decide +kernel
theorem dL_law_682 : decode cL_law 682 = .ok (.invokevirtual 92, 3) := by decide +kernel
theorem dL_law_685 : decode cL_law 685 = .ok (.if_icmp .eq 201, 3) := by decide +kernel
theorem dL_law_688 : decode cL_law 688 = .ok (.iconst 0, 1) := by decide +kernel
theorem dL_law_689 : decode cL_law 689 = .ok (.ireturn, 1) := by decide +kernel
theorem dL_law_690 : decode cL_law 690 = .ok (.aload_n 1, 1) := by decide +kernel
theorem dL_law_691 : decode cL_law 691 = .ok (.aload_n 0, 1) := by decide +kernel
theorem dL_law_692 : decode cL_law 692 = .ok (.iload_n 3, 1) := by decide +kernel
theorem dL_law_693 : decode cL_law 693 = .ok (.iconst 1, 1) := by decide +kernel
theorem dL_law_694 : decode cL_law 694 = .ok (.iadd, 1) := by decide +kernel
theorem dL_law_695 : decode cL_law 695 = .ok (.iaload, 1) := by decide +kernel
theorem dL_law_696 : decode cL_law 696 = .ok (.aload_n 0, 1) := by decide +kernel
theorem dL_law_697 : decode cL_law 697 = .ok (.iload_n 3, 1) := by decide +kernel
theorem dL_law_698 : decode cL_law 698 = .ok (.iconst 2, 1) := by decide +kernel
theorem dL_law_699 : decode cL_law 699 = .ok (.iadd, 1) := by decide +kernel
theorem dL_law_700 : decode cL_law 700 = .ok (.iaload, 1) := by decide +kernel
theorem dL_law_701 : decode cL_law 701 = .ok (.aload_n 0, 1) := by decide +kernel
theorem dL_law_702 : decode cL_law 702 = .ok (.iload_n 3, 1) := by decide +kernel
theorem dL_law_703 : decode cL_law 703 = .ok (.iconst 3, 1) := by decide +kernel
theorem dL_law_704 : decode cL_law 704 = .ok (.iadd, 1) := by decide +kernel
theorem dL_law_705 : decode cL_law 705 = .ok (.iaload, 1) := by decide +kernel
theorem dL_law_706 : decode cL_law 706 = .ok (.aload_n 0, 1) := by decide +kernel
theorem dL_law_707 : decode cL_law 707 = .ok (.iload_n 3, 1) := by decide +kernel
theorem dL_law_708 : decode cL_law 708 = .ok (.iconst 4, 1) := by decide +kernel
theorem dL_law_709 : decode cL_law 709 = .ok (.iadd, 1) := by decide +kernel
theorem dL_law_710 : decode cL_law 710 = .ok (.iaload, 1) := by decide +kernel
theorem dL_law_711 : decode cL_law 711 = .ok (.aload_n 0, 1) := by decide +kernel
theorem dL_law_712 : decode cL_law 712 = .ok (.iload_n 3, 1) := by decide +kernel
theorem dL_law_713 : decode cL_law 713 = .ok (.iconst 5, 1) := by decide +kernel
theorem dL_law_714 : decode cL_law 714 = .ok (.iadd, 1) := by decide +kernel
theorem dL_law_715 : decode cL_law 715 = .ok (.iaload, 1) := by decide +kernel
theorem dL_law_716 : decode cL_law 716 = .ok (.aload_n 0, 1) := by decide +kernel
theorem dL_law_717 : decode cL_law 717 = .ok (.iload_n 3, 1) := by decide +kernel
theorem dL_law_718 : decode cL_law 718 = .ok (.bipush 6, 2) := by decide +kernel
theorem dL_law_720 : decode cL_law 720 = .ok (.iadd, 1) := by decide +kernel
theorem dL_law_721 : decode cL_law 721 = .ok (.iaload, 1) := by decide +kernel
theorem dL_law_722 : decode cL_law 722 = .ok (.invokevirtual 93, 3) := by decide +kernel
theorem dL_law_725 : decode cL_law 725 = .ok (.aload_n 2, 1) := by decide +kernel
theorem dL_law_726 : decode cL_law 726 = .ok (.aload_n 0, 1) := by decide +kernel
theorem dL_law_727 : decode cL_law 727 = .ok (.iload_n 3, 1) := by decide +kernel
theorem dL_law_728 : decode cL_law 728 = .ok (.iconst 1, 1) := by decide +kernel
theorem dL_law_729 : decode cL_law 729 = .ok (.iadd, 1) := by decide +kernel
theorem dL_law_730 : decode cL_law 730 = .ok (.iaload, 1) := by decide +kernel
theorem dL_law_731 : decode cL_law 731 = .ok (.aload_n 0, 1) := by decide +kernel
theorem dL_law_732 : decode cL_law 732 = .ok (.iload_n 3, 1) := by decide +kernel
theorem dL_law_733 : decode cL_law 733 = .ok (.iconst 2, 1) := by decide +kernel
theorem dL_law_734 : decode cL_law 734 = .ok (.iadd, 1) := by decide +kernel
theorem dL_law_735 : decode cL_law 735 = .ok (.iaload, 1) := by decide +kernel
theorem dL_law_736 : decode cL_law 736 = .ok (.aload_n 0, 1) := by decide +kernel
theorem dL_law_737 : decode cL_law 737 = .ok (.iload_n 3, 1) := by decide +kernel
theorem dL_law_738 : decode cL_law 738 = .ok (.iconst 3, 1) := by decide +kernel
theorem dL_law_739 : decode cL_law 739 = .ok (.iadd, 1) := by decide +kernel
theorem dL_law_740 : decode cL_law 740 = .ok (.iaload, 1) := by decide +kernel
theorem dL_law_741 : decode cL_law 741 = .ok (.aload_n 0, 1) := by decide +kernel
theorem dL_law_742 : decode cL_law 742 = .ok (.iload_n 3, 1) := by decide +kernel
theorem dL_law_743 : decode cL_law 743 = .ok (.iconst 4, 1) := by decide +kernel
theorem dL_law_744 : decode cL_law 744 = .ok (.iadd, 1) := by decide +kernel
theorem dL_law_745 : decode cL_law 745 = .ok (.iaload, 1) := by decide +kernel
theorem dL_law_746 : decode cL_law 746 = .ok (.aload_n 0, 1) := by decide +kernel
theorem dL_law_747 : decode cL_law 747 = .ok (.iload_n 3, 1) := by decide +kernel
theorem dL_law_748 : decode cL_law 748 = .ok (.iconst 5, 1) := by decide +kernel
theorem dL_law_749 : decode cL_law 749 = .ok (.iadd, 1) := by decide +kernel
theorem dL_law_750 : decode cL_law 750 = .ok (.iaload, 1) := by decide +kernel
theorem dL_law_751 : decode cL_law 751 = .ok (.aload_n 0, 1) := by decide +kernel
theorem dL_law_752 : decode cL_law 752 = .ok (.iload_n 3, 1) := by decide +kernel
theorem dL_law_753 : decode cL_law 753 = .ok (.bipush 6, 2) := by decide +kernel
theorem dL_law_755 : decode cL_law 755 = .ok (.iadd, 1) := by decide +kernel
theorem dL_law_756 : decode cL_law 756 = .ok (.iaload, 1) := by decide +kernel
theorem dL_law_757 : decode cL_law 757 = .ok (.invokevirtual 97, 3) := by decide +kernel
theorem dL_law_760 : decode cL_law 760 = .ok (.lcmp, 1) := by decide +kernel
theorem dL_law_761 : decode cL_law 761 = .ok (.ifCond .eq 125, 3) := by decide +kernel
theorem dL_law_764 : decode cL_law 764 = .ok (.iconst 0, 1) := by decide +kernel
theorem dL_law_765 : decode cL_law 765 = .ok (.ireturn, 1) := by decide +kernel
theorem dL_law_766 : decode cL_law 766 = .ok (.aload_n 1, 1) := by decide +kernel
theorem dL_law_767 : decode cL_law 767 = .ok (.aload_n 0, 1) := by decide +kernel
theorem dL_law_768 : decode cL_law 768 = .ok (.iload_n 3, 1) := by decide +kernel
theorem dL_law_769 : decode cL_law 769 = .ok (.iconst 1, 1) := by decide +kernel
theorem dL_law_770 : decode cL_law 770 = .ok (.iadd, 1) := by decide +kernel
theorem dL_law_771 : decode cL_law 771 = .ok (.iaload, 1) := by decide +kernel
theorem dL_law_772 : decode cL_law 772 = .ok (.aload_n 0, 1) := by decide +kernel
theorem dL_law_773 : decode cL_law 773 = .ok (.iload_n 3, 1) := by decide +kernel
theorem dL_law_774 : decode cL_law 774 = .ok (.iconst 2, 1) := by decide +kernel
theorem dL_law_775 : decode cL_law 775 = .ok (.iadd, 1) := by decide +kernel
theorem dL_law_776 : decode cL_law 776 = .ok (.iaload, 1) := by decide +kernel
theorem dL_law_777 : decode cL_law 777 = .ok (.aload_n 0, 1) := by decide +kernel
theorem dL_law_778 : decode cL_law 778 = .ok (.iload_n 3, 1) := by decide +kernel
theorem dL_law_779 : decode cL_law 779 = .ok (.iconst 3, 1) := by decide +kernel
theorem dL_law_780 : decode cL_law 780 = .ok (.iadd, 1) := by decide +kernel
theorem dL_law_781 : decode cL_law 781 = .ok (.iaload, 1) := by decide +kernel
theorem dL_law_782 : decode cL_law 782 = .ok (.aload_n 0, 1) := by decide +kernel
theorem dL_law_783 : decode cL_law 783 = .ok (.iload_n 3, 1) := by decide +kernel
theorem dL_law_784 : decode cL_law 784 = .ok (.iconst 4, 1) := by decide +kernel
theorem dL_law_785 : decode cL_law 785 = .ok (.iadd, 1) := by decide +kernel
theorem dL_law_786 : decode cL_law 786 = .ok (.iaload, 1) := by decide +kernel
theorem dL_law_787 : decode cL_law 787 = .ok (.aload_n 0, 1) := by decide +kernel
theorem dL_law_788 : decode cL_law 788 = .ok (.iload_n 3, 1) := by decide +kernel
theorem dL_law_789 : decode cL_law 789 = .ok (.iconst 5, 1) := by decide +kernel
theorem dL_law_790 : decode cL_law 790 = .ok (.iadd, 1) := by decide +kernel
theorem dL_law_791 : decode cL_law 791 = .ok (.iaload, 1) := by decide +kernel
theorem dL_law_792 : decode cL_law 792 = .ok (.invokevirtual 98, 3) := by decide +kernel
theorem dL_law_795 : decode cL_law 795 = .ok (.aload_n 2, 1) := by decide +kernel
theorem dL_law_796 : decode cL_law 796 = .ok (.aload_n 0, 1) := by decide +kernel
theorem dL_law_797 : decode cL_law 797 = .ok (.iload_n 3, 1) := by decide +kernel
theorem dL_law_798 : decode cL_law 798 = .ok (.iconst 1, 1) := by decide +kernel
theorem dL_law_799 : decode cL_law 799 = .ok (.iadd, 1) := by decide +kernel
theorem dL_law_800 : decode cL_law 800 = .ok (.iaload, 1) := by decide +kernel
theorem dL_law_801 : decode cL_law 801 = .ok (.aload_n 0, 1) := by decide +kernel
theorem dL_law_802 : decode cL_law 802 = .ok (.iload_n 3, 1) := by decide +kernel
theorem dL_law_803 : decode cL_law 803 = .ok (.iconst 2, 1) := by decide +kernel
theorem dL_law_804 : decode cL_law 804 = .ok (.iadd, 1) := by decide +kernel
theorem dL_law_805 : decode cL_law 805 = .ok (.iaload, 1) := by decide +kernel
theorem dL_law_806 : decode cL_law 806 = .ok (.aload_n 0, 1) := by decide +kernel
theorem dL_law_807 : decode cL_law 807 = .ok (.iload_n 3, 1) := by decide +kernel
theorem dL_law_808 : decode cL_law 808 = .ok (.iconst 3, 1) := by decide +kernel
theorem dL_law_809 : decode cL_law 809 = .ok (.iadd, 1) := by decide +kernel
theorem dL_law_810 : decode cL_law 810 = .ok (.iaload, 1) := by decide +kernel
theorem dL_law_811 : decode cL_law 811 = .ok (.aload_n 0, 1) := by decide +kernel
theorem dL_law_812 : decode cL_law 812 = .ok (.iload_n 3, 1) := by decide +kernel
theorem dL_law_813 : decode cL_law 813 = .ok (.iconst 4, 1) := by decide +kernel
theorem dL_law_814 : decode cL_law 814 = .ok (.iadd, 1) := by decide +kernel
theorem dL_law_815 : decode cL_law 815 = .ok (.iaload, 1) := by decide +kernel
theorem dL_law_816 : decode cL_law 816 = .ok (.aload_n 0, 1) := by decide +kernel
theorem dL_law_817 : decode cL_law 817 = .ok (.iload_n 3, 1) := by decide +kernel
theorem dL_law_818 : decode cL_law 818 = .ok (.iconst 5, 1) := by decide +kernel
theorem dL_law_819 : decode cL_law 819 = .ok (.iadd, 1) := by decide +kernel
theorem dL_law_820 : decode cL_law 820 = .ok (.iaload, 1) := by decide +kernel
theorem dL_law_821 : decode cL_law 821 = .ok (.invokevirtual 102, 3) := by decide +kernel
theorem dL_law_824 : decode cL_law 824 = .ok (.lcmp, 1) := by decide +kernel
theorem dL_law_825 : decode cL_law 825 = .ok (.ifCond .eq 61, 3) := by decide +kernel
theorem dL_law_828 : decode cL_law 828 = .ok (.iconst 0, 1) := by decide +kernel
theorem dL_law_829 : decode cL_law 829 = .ok (.ireturn, 1) := by decide +kernel
theorem dL_law_830 : decode cL_law 830 = .ok (.aload_n 1, 1) := by decide +kernel
theorem dL_law_831 : decode cL_law 831 = .ok (.aload_n 0, 1) := by decide +kernel
theorem dL_law_832 : decode cL_law 832 = .ok (.iload_n 3, 1) := by decide +kernel
theorem dL_law_833 : decode cL_law 833 = .ok (.iconst 1, 1) := by decide +kernel
theorem dL_law_834 : decode cL_law 834 = .ok (.iadd, 1) := by decide +kernel
theorem dL_law_835 : decode cL_law 835 = .ok (.iaload, 1) := by decide +kernel
theorem dL_law_836 : decode cL_law 836 = .ok (.aload_n 0, 1) := by decide +kernel
theorem dL_law_837 : decode cL_law 837 = .ok (.iload_n 3, 1) := by decide +kernel
theorem dL_law_838 : decode cL_law 838 = .ok (.iconst 2, 1) := by decide +kernel
theorem dL_law_839 : decode cL_law 839 = .ok (.iadd, 1) := by decide +kernel
theorem dL_law_840 : decode cL_law 840 = .ok (.iaload, 1) := by decide +kernel
theorem dL_law_841 : decode cL_law 841 = .ok (.invokevirtual 103, 3) := by decide +kernel
theorem dL_law_844 : decode cL_law 844 = .ok (.aload_n 2, 1) := by decide +kernel
theorem dL_law_845 : decode cL_law 845 = .ok (.aload_n 0, 1) := by decide +kernel
theorem dL_law_846 : decode cL_law 846 = .ok (.iload_n 3, 1) := by decide +kernel
theorem dL_law_847 : decode cL_law 847 = .ok (.iconst 1, 1) := by decide +kernel
theorem dL_law_848 : decode cL_law 848 = .ok (.iadd, 1) := by decide +kernel
theorem dL_law_849 : decode cL_law 849 = .ok (.iaload, 1) := by decide +kernel
theorem dL_law_850 : decode cL_law 850 = .ok (.aload_n 0, 1) := by decide +kernel
theorem dL_law_851 : decode cL_law 851 = .ok (.iload_n 3, 1) := by decide +kernel
theorem dL_law_852 : decode cL_law 852 = .ok (.iconst 2, 1) := by decide +kernel
theorem dL_law_853 : decode cL_law 853 = .ok (.iadd, 1) := by decide +kernel
theorem dL_law_854 : decode cL_law 854 = .ok (.iaload, 1) := by decide +kernel
theorem dL_law_855 : decode cL_law 855 = .ok (.invokevirtual 106, 3) := by decide +kernel
theorem dL_law_858 : decode cL_law 858 = .ok (.if_icmp .eq 28, 3) := by decide +kernel
theorem dL_law_861 : decode cL_law 861 = .ok (.iconst 0, 1) := by decide +kernel
theorem dL_law_862 : decode cL_law 862 = .ok (.ireturn, 1) := by decide +kernel
theorem dL_law_863 : decode cL_law 863 = .ok (.aload_n 1, 1) := by decide +kernel
theorem dL_law_864 : decode cL_law 864 = .ok (.aload_n 0, 1) := by decide +kernel
theorem dL_law_865 : decode cL_law 865 = .ok (.iload_n 3, 1) := by decide +kernel
theorem dL_law_866 : decode cL_law 866 = .ok (.iconst 1, 1) := by decide +kernel
theorem dL_law_867 : decode cL_law 867 = .ok (.iadd, 1) := by decide +kernel
theorem dL_law_868 : decode cL_law 868 = .ok (.iaload, 1) := by decide +kernel
theorem dL_law_869 : decode cL_law 869 = .ok (.invokevirtual 107, 3) := by decide +kernel
theorem dL_law_872 : decode cL_law 872 = .ok (.aload_n 2, 1) := by decide +kernel
theorem dL_law_873 : decode cL_law 873 = .ok (.aload_n 0, 1) := by decide +kernel
theorem dL_law_874 : decode cL_law 874 = .ok (.iload_n 3, 1) := by decide +kernel
theorem dL_law_875 : decode cL_law 875 = .ok (.iconst 1, 1) := by decide +kernel
theorem dL_law_876 : decode cL_law 876 = .ok (.iadd, 1) := by decide +kernel
theorem dL_law_877 : decode cL_law 877 = .ok (.iaload, 1) := by decide +kernel
theorem dL_law_878 : decode cL_law 878 = .ok (.invokevirtual 110, 3) := by decide +kernel
theorem dL_law_881 : decode cL_law 881 = .ok (.if_icmp .eq 5, 3) := by decide +kernel
theorem dL_law_884 : decode cL_law 884 = .ok (.iconst 0, 1) := by decide +kernel
theorem dL_law_885 : decode cL_law 885 = .ok (.ireturn, 1) := by decide +kernel
theorem dL_law_886 : decode cL_law 886 = .ok (.iinc 3 7, 3) := by decide +kernel
theorem dL_law_889 : decode cL_law 889 = .ok (.goto (-871), 3) := by decide +kernel
theorem dL_law_892 : decode cL_law 892 = .ok (.iconst 1, 1) := by decide +kernel
theorem dL_law_893 : decode cL_law 893 = .ok (.ireturn, 1) := by decide +kernel
end
section
/-! ===== the picture of one side: cells by number; what they hold ===== -/
abbrev St : Type := (Nat → Nat → Int32) × (Nat → Nat → Int64)
abbrev Dsc : Type := (Nat × List Nat) ⊕ (Nat × Nat × Nat)
abbrev ZT : Type := va_G × (Nat → ClassId) × (Nat → Nat) × (Nat → Nat)
/-- a field: 0 an int, 1 a long, r + 2 the cell r -/
def fvl (ad : Nat → Nat) (S : St) (c k f : Nat) : Value := match f with
  | 0 => .int (S.1 c k)
  | 1 => .long (S.2 c k)
  | r + 2 => .ref (ad r)
def fls (ad : Nat → Nat) (S : St) (c : Nat) : Nat → List Nat → List Value
  | _, [] => []
  | k, f :: l => fvl ad S c k f :: fls ad S c (k + 1) l
/-- what an array of kind kd holds: 0 ints, 1 longs, 2 booleans, 3 the cells 33 + 7 (b + j), others cells from b on -/
def acl (ad : Nat → Nat) (S : St) (c b : Nat) (kd : Nat) : (Nat → Int32) ⊕ (Nat → Int64) ⊕ (Nat → UInt32) ⊕ (Nat → UInt64) ⊕ (Nat → Option Nat) := match kd with
  | 0 => .inl (S.1 c)
  | 1 => .inr (.inl (S.2 c))
  | 2 => .inl (S.1 c)
  | 3 => .inr (.inr (.inr (.inr (fun j => some (ad (33 + 7 * (b + j)))))))
  | _ + 4 => .inr (.inr (.inr (.inr (fun j => some (ad (b + j))))))
def cel (cy : Nat → ClassId) (ad : Nat → Nat) (S : St) (c : Nat) (d : Dsc) : va_E := match d with
  | .inl o => .inr (o.1, fls ad S c 0 o.2)
  | .inr a => .inl (cy a.1, a.2.1, acl ad S c a.2.2 a.1)
def wl (sh : Nat → Dsc) (N : Nat) (Z : ZT) (S : St) : va_W := (List.range N).map (fun c => (Z.2.2.1 c, cel Z.2.1 Z.2.2.1 S c (sh c)))
def aa (N : Nat) (Z : ZT) : Nat → Prop := fun q => ∃ c, c < N ∧ Z.2.2.1 c = q
abbrev tysG (cy : Nat → ClassId) : List (ClassId × FieldType) := [(cy 0, .int), (cy 1, .long), (cy 2, .boolean), (cy 3, .object "FishingKites$Day"), (cy 4, .object "FishingKites$Kite"), (cy 5, .object "FishingKites$Shoal")]
def GOK (N : Nat) (Z : ZT) (G : State → Prop) : Prop :=
  (∀ U, G U → va_K Z.1 vwCl (tysG Z.2.1) U) ∧ (∀ i j, i < N → j < N → Z.2.2.1 i = Z.2.2.1 j → i = j) ∧
  (∀ (s U : State) (H : Heap) (locs : List Loc), G s → va_S (aa N Z) s.heap H locs → U.heap = H → s.WarmedH U.vm → G U) ∧ (∀ (U : State) (g : JFrame) (mk : MethodId) (a : Array Value), G U → G (State.calling U g mk a))
def ClsF (ci : Nat) (Cn : String) (T : u_T) (n : Nat) (ty : Nat → FieldType) : Prop :=
  vwCl[ci]? = some (Cn, T, n) ∧ (∀ w ∈ u_ws Cn T n, w ∈ BIG) ∧ (∀ k, k < n → parseFieldDescriptor (T k).2.2.1 = some (ty k)) ∧ (∀ a, a < n → ∀ b, b < n → a ≠ b → (T a).2.1 ≠ (T b).2.1)
def Cxt (G : State → Prop) (p : Program) (s : State) (m : MethodId) (meth : Method) (c : Code) (args : Array Value) (y : MethodName) (cc : ByteArray) (nL : Nat) (ret : Option FieldType) : Prop :=
  CallFix p m c cc nL s args (.code y cc nL ret :: BIG) y.cls ∧ meth.sig.returnType = ret ∧ meth.locks = false ∧ G s
/-! what is written -/
def sF (S : St) (c : Nat) (f : Nat → Int32) : St := (va_up S.1 c f, S.2)
def sG (S : St) (c : Nat) (f : Nat → Int64) : St := (S.1, va_up S.2 c f)
def sI (S : St) (c k : Nat) (v : Int32) : St := sF S c (upd (S.1 c) k v)
def sJ (S : St) (c k : Nat) (v : Int64) : St := sG S c (vp_updL (S.2 c) k v)
theorem fls_get (ad : Nat → Nat) (S : St) (c : Nat) : ∀ (fl : List Nat) (k0 k : Nat), (fls ad S c k0 fl)[k]? = (fl[k]?).map (fun f => fvl ad S c (k0 + k) f) := by
  intro fl
  induction fl with
  | nil => intro k0 k; simp [fls]
  | cons f l ih =>
    intro k0 k
    cases k with
    | zero => simp [fls]
    | succ k => simp only [fls, List.getElem?_cons_succ, ih]; rw [show k0 + 1 + k = k0 + (k + 1) by omega]
theorem fls_congr (ad : Nat → Nat) {S S' : St} {c : Nat} (h1 : S'.1 c = S.1 c) (h2 : S'.2 c = S.2 c) : ∀ (fl : List Nat) (k : Nat), fls ad S' c k fl = fls ad S c k fl := by
  intro fl
  induction fl with
  | nil => intro k; rfl
  | cons f l ih =>
    intro k
    simp only [fls, ih]
    congr 1
    match f with
    | 0 => simp only [fvl, h1]
    | 1 => simp only [fvl, h2]
    | r + 2 => rfl
theorem cel_congr (cy : Nat → ClassId) (ad : Nat → Nat) {S S' : St} {c : Nat} (h1 : S'.1 c = S.1 c) (h2 : S'.2 c = S.2 c) (d : Dsc) : cel cy ad S' c d = cel cy ad S c d := by
  match d with
  | .inl o => simp only [cel, fls_congr ad h1 h2]
  | .inr (kd, n, b) =>
    match kd with
    | 0 => simp only [cel, acl, h1]
    | 1 => simp only [cel, acl, h2]
    | 2 => simp only [cel, acl, h1]
    | 3 => simp only [cel, acl]
    | k + 4 => simp only [cel, acl]
theorem wl_get {sh : Nat → Dsc} {N : Nat} {Z : ZT} {S : St} {c : Nat} (h : c < N) : (wl sh N Z S)[c]? = some (Z.2.2.1 c, cel Z.2.1 Z.2.2.1 S c (sh c)) := by
  simp [wl, h]
theorem wl_set {sh : Nat → Dsc} {N : Nat} {Z : ZT} {S S' : St} {c : Nat} (h : c < N) {e : va_E} (he : e = cel Z.2.1 Z.2.2.1 S' c (sh c)) (h1 : ∀ j, j ≠ c → S'.1 j = S.1 j) (h2 : ∀ j, j ≠ c → S'.2 j = S.2 j) : (wl sh N Z S).set c (Z.2.2.1 c, e) = wl sh N Z S' := by
  apply List.ext_getElem?
  intro i
  have hl : c < (wl sh N Z S).length := by simp [wl, h]
  by_cases hi : i = c
  · subst hi
    rw [List.getElem?_set_self hl, wl_get h, he]
  · rw [List.getElem?_set_ne (Ne.symm hi)]
    by_cases hN : i < N
    · rw [wl_get hN, wl_get hN, cel_congr _ _ (h1 i hi) (h2 i hi)]
    · rw [List.getElem?_eq_none (by simp [wl]; omega), List.getElem?_eq_none (by simp [wl]; omega)]
theorem wl_D {sh : Nat → Dsc} {N : Nat} {Z : ZT} {S : St} (hi : ∀ i j, i < N → j < N → Z.2.2.1 i = Z.2.2.1 j → i = j) : va_D (aa N Z) (wl sh N Z S) := by
  have key : ∀ (k : Nat) (q : Nat × va_E), (wl sh N Z S)[k]? = some q → k < N ∧ q.1 = Z.2.2.1 k := by
    intro k q h
    have hk : k < N := by
      have := (List.getElem?_eq_some_iff.mp h).1
      simpa [wl] using this
    rw [wl_get hk] at h
    cases h
    exact ⟨hk, rfl⟩
  refine ⟨fun i j p q h1 h2 h3 => ?_, fun k q h => ?_⟩
  · obtain ⟨a1, a2⟩ := key i p h1
    obtain ⟨b1, b2⟩ := key j q h2
    exact hi i j a1 b1 (by rw [← a2, ← b2, h3])
  · obtain ⟨a1, a2⟩ := key k q h
    exact ⟨k, a1, a2.symm⟩
theorem sF_1 {S : St} {c : Nat} {f : Nat → Int32} (j : Nat) (h : j ≠ c) : (sF S c f).1 j = S.1 j := va_up_ne _ _ h
theorem sF_2 {S : St} {c : Nat} {f : Nat → Int32} (j : Nat) (_ : j ≠ c) : (sF S c f).2 j = S.2 j := rfl
theorem sG_1 {S : St} {c : Nat} {f : Nat → Int64} (j : Nat) (_ : j ≠ c) : (sG S c f).1 j = S.1 j := rfl
theorem sG_2 {S : St} {c : Nat} {f : Nat → Int64} (j : Nat) (h : j ≠ c) : (sG S c f).2 j = S.2 j := va_up_ne _ _ h
theorem fls_setI (ad : Nat → Nat) (S : St) (c k : Nat) (v : Int32) (fl : List Nat) (hf : fl[k]? = some 0) : (fls ad S c 0 fl).set k (.int v) = fls ad (sI S c k v) c 0 fl := by
  have hl : k < (fls ad S c 0 fl).length := by
    have h := fls_get ad S c fl 0 k
    rw [hf] at h
    exact (List.getElem?_eq_some_iff.mp h).1
  apply List.ext_getElem?
  intro i
  by_cases hi : i = k
  · subst hi
    rw [List.getElem?_set_self hl, fls_get, hf]
    simp [fvl, sI, sF, va_up, upd]
  · rw [List.getElem?_set_ne (Ne.symm hi), fls_get, fls_get]
    congr 1
    funext f
    match f with
    | 0 => simp [fvl, sI, sF, va_up, upd, hi]
    | 1 => rfl
    | r + 2 => rfl
theorem fls_setJ (ad : Nat → Nat) (S : St) (c k : Nat) (v : Int64) (fl : List Nat) (hf : fl[k]? = some 1) : (fls ad S c 0 fl).set k (.long v) = fls ad (sJ S c k v) c 0 fl := by
  have hl : k < (fls ad S c 0 fl).length := by
    have h := fls_get ad S c fl 0 k
    rw [hf] at h
    exact (List.getElem?_eq_some_iff.mp h).1
  apply List.ext_getElem?
  intro i
  by_cases hi : i = k
  · subst hi
    rw [List.getElem?_set_self hl, fls_get, hf]
    simp [fvl, sJ, sG, va_up, vp_updL]
  · rw [List.getElem?_set_ne (Ne.symm hi), fls_get, fls_get]
    congr 1
    funext f
    match f with
    | 0 => rfl
    | 1 => simp [fvl, sJ, sG, va_up, vp_updL, hi]
    | r + 2 => rfl
section FR
variable {p : Program} {l : Launch} {e : Env} {R : Room} {s : State} {m : MethodId} {args : Array Value} {below : List Frame} {meth : Method} {c : Code} {H : Heap} {locs : List Loc} {cells slots : Nat} {Q : State → Prop}
variable {cc : ByteArray} {pc nL : Nat} {ls : Array Slot} {rest : List Value} {G : State → Prop} {y : MethodName} {ret : Option FieldType} {sh : Nat → Dsc} {N : Nat} {Z : ZT} {S : St}
/-! fields -/
theorem s_gI (g : GOK N Z G) (C : Cxt G p s m meth c args y cc nL ret) (hP : va_P Z.1 vwCl (wl sh N Z S) H) (c0 k : Nat) {ci n index : Nat} {fl : List Nat} {Cn : String} {T : u_T} {ty : Nat → FieldType} (hc : c0 < N) (hs : sh c0 = .inl (ci, fl)) (hf : fl[k]? = some 0) (cf : ClsF ci Cn T n ty) (hk : k < n) (hlk : Cond.fieldLink y.cls index (T k).1 (T k).2.1 (T k).2.2.1 ∈ BIG) (hdg : decode cc pc = .ok (.getfield index, 3))
    (kk : W p l e R s m args below meth c H locs cells slots Q (F0 m (pc + 3) ls (.int (S.1 c0 k) :: rest))) : W p l e R s m args below meth c H locs cells slots Q (F0 m pc ls (.ref (Z.2.2.1 c0) :: rest)) := by
  obtain ⟨⟨hx, hb, hml, ho, hts⟩, hr, hlo, hg⟩ := C
  exact va_get hx hb hts (fun w h => List.mem_cons_of_mem _ (cf.2.1 w h)) ho (g.1 _ hg) hP c0 (by rw [wl_get hc, hs]; rfl) cf.1 k hk (hts _ (List.mem_cons_of_mem _ hlk)) (fun _ h => h) (by rw [fls_get, hf, Nat.zero_add]; rfl) hdg kk
theorem s_gJ (g : GOK N Z G) (C : Cxt G p s m meth c args y cc nL ret) (hP : va_P Z.1 vwCl (wl sh N Z S) H) (c0 k : Nat) {ci n index : Nat} {fl : List Nat} {Cn : String} {T : u_T} {ty : Nat → FieldType} (hc : c0 < N) (hs : sh c0 = .inl (ci, fl)) (hf : fl[k]? = some 1) (cf : ClsF ci Cn T n ty) (hk : k < n) (hlk : Cond.fieldLink y.cls index (T k).1 (T k).2.1 (T k).2.2.1 ∈ BIG) (hdg : decode cc pc = .ok (.getfield index, 3))
    (kk : W p l e R s m args below meth c H locs cells slots Q (F0 m (pc + 3) ls (.long (S.2 c0 k) :: rest))) : W p l e R s m args below meth c H locs cells slots Q (F0 m pc ls (.ref (Z.2.2.1 c0) :: rest)) := by
  obtain ⟨⟨hx, hb, hml, ho, hts⟩, hr, hlo, hg⟩ := C
  exact va_get hx hb hts (fun w h => List.mem_cons_of_mem _ (cf.2.1 w h)) ho (g.1 _ hg) hP c0 (by rw [wl_get hc, hs]; rfl) cf.1 k hk (hts _ (List.mem_cons_of_mem _ hlk)) (fun _ h => h) (by rw [fls_get, hf, Nat.zero_add]; rfl) hdg kk
theorem s_gR (g : GOK N Z G) (C : Cxt G p s m meth c args y cc nL ret) (hP : va_P Z.1 vwCl (wl sh N Z S) H) (c0 k r : Nat) {ci n index : Nat} {fl : List Nat} {Cn : String} {T : u_T} {ty : Nat → FieldType} (hc : c0 < N) (hs : sh c0 = .inl (ci, fl)) (hf : fl[k]? = some (r + 2)) (cf : ClsF ci Cn T n ty) (hk : k < n) (hlk : Cond.fieldLink y.cls index (T k).1 (T k).2.1 (T k).2.2.1 ∈ BIG) (hdg : decode cc pc = .ok (.getfield index, 3))
    (kk : W p l e R s m args below meth c H locs cells slots Q (F0 m (pc + 3) ls (.ref (Z.2.2.1 r) :: rest))) : W p l e R s m args below meth c H locs cells slots Q (F0 m pc ls (.ref (Z.2.2.1 c0) :: rest)) := by
  obtain ⟨⟨hx, hb, hml, ho, hts⟩, hr, hlo, hg⟩ := C
  exact va_get hx hb hts (fun w h => List.mem_cons_of_mem _ (cf.2.1 w h)) ho (g.1 _ hg) hP c0 (by rw [wl_get hc, hs]; rfl) cf.1 k hk (hts _ (List.mem_cons_of_mem _ hlk)) (fun _ h => h) (by rw [fls_get, hf]; rfl) hdg kk
theorem s_pI (g : GOK N Z G) (C : Cxt G p s m meth c args y cc nL ret) (hP : va_P Z.1 vwCl (wl sh N Z S) H) (hS : va_S (aa N Z) s.heap H locs) (c0 k : Nat) {ci n index : Nat} {fl : List Nat} {Cn : String} {T : u_T} {ty : Nat → FieldType} {v : Int32} (hc : c0 < N) (hs : sh c0 = .inl (ci, fl)) (hf : fl[k]? = some 0) (cf : ClsF ci Cn T n ty) (hk : k < n) (hfin : (T k).2.2.2 = false) (hn : narrow (ty k) (.int v) = .int v) (hfit : fits (ty k) (.int v) = true) (hlk : Cond.fieldLink y.cls index (T k).1 (T k).2.1 (T k).2.2.1 ∈ BIG) (hdg : decode cc pc = .ok (.putfield index, 3))
    (kk : ∀ (H : Heap) (locs : List Loc), va_P Z.1 vwCl (wl sh N Z (sI S c0 k v)) H → va_S (aa N Z) s.heap H locs → W p l e R s m args below meth c H locs cells slots Q (F0 m (pc + 3) ls rest)) : W p l e R s m args below meth c H locs cells slots Q (F0 m pc ls (.int v :: .ref (Z.2.2.1 c0) :: rest)) := by
  obtain ⟨⟨hx, hb, hml, ho, hts⟩, hr, hlo, hg⟩ := C
  have hl : k < (fls Z.2.2.1 S c0 0 fl).length := by
    have h := fls_get Z.2.2.1 S c0 fl 0 k
    rw [hf] at h
    exact (List.getElem?_eq_some_iff.mp h).1
  refine va_put hx hb hts (fun w h => List.mem_cons_of_mem _ (cf.2.1 w h)) ty cf.2.2.1 cf.2.2.2 ho (g.1 _ hg) hP (wl_D g.2.1) hS c0 (by rw [wl_get hc, hs]; rfl) cf.1 k hk (hts _ (List.mem_cons_of_mem _ hlk)) (fun _ h => h) hfin (cf.2.2.1 k hk) hn hfit hl hdg (fun H1 locs1 hP1 _ hS1 => kk H1 locs1 ?_ hS1)
  rw [fls_setI _ _ _ _ _ _ hf, wl_set (S' := sI S c0 k v) hc (by rw [hs]; rfl) (fun j h => sF_1 j h) (fun j h => sF_2 j h)] at hP1
  exact hP1
theorem s_pJ (g : GOK N Z G) (C : Cxt G p s m meth c args y cc nL ret) (hP : va_P Z.1 vwCl (wl sh N Z S) H) (hS : va_S (aa N Z) s.heap H locs) (c0 k : Nat) {ci n index : Nat} {fl : List Nat} {Cn : String} {T : u_T} {ty : Nat → FieldType} {v : Int64} (hc : c0 < N) (hs : sh c0 = .inl (ci, fl)) (hf : fl[k]? = some 1) (cf : ClsF ci Cn T n ty) (hk : k < n) (hfin : (T k).2.2.2 = false) (hn : narrow (ty k) (.long v) = .long v) (hfit : fits (ty k) (.long v) = true) (hlk : Cond.fieldLink y.cls index (T k).1 (T k).2.1 (T k).2.2.1 ∈ BIG) (hdg : decode cc pc = .ok (.putfield index, 3))
    (kk : ∀ (H : Heap) (locs : List Loc), va_P Z.1 vwCl (wl sh N Z (sJ S c0 k v)) H → va_S (aa N Z) s.heap H locs → W p l e R s m args below meth c H locs cells slots Q (F0 m (pc + 3) ls rest)) : W p l e R s m args below meth c H locs cells slots Q (F0 m pc ls (.long v :: .ref (Z.2.2.1 c0) :: rest)) := by
  obtain ⟨⟨hx, hb, hml, ho, hts⟩, hr, hlo, hg⟩ := C
  have hl : k < (fls Z.2.2.1 S c0 0 fl).length := by
    have h := fls_get Z.2.2.1 S c0 fl 0 k
    rw [hf] at h
    exact (List.getElem?_eq_some_iff.mp h).1
  refine va_put hx hb hts (fun w h => List.mem_cons_of_mem _ (cf.2.1 w h)) ty cf.2.2.1 cf.2.2.2 ho (g.1 _ hg) hP (wl_D g.2.1) hS c0 (by rw [wl_get hc, hs]; rfl) cf.1 k hk (hts _ (List.mem_cons_of_mem _ hlk)) (fun _ h => h) hfin (cf.2.2.1 k hk) hn hfit hl hdg (fun H1 locs1 hP1 _ hS1 => kk H1 locs1 ?_ hS1)
  rw [fls_setJ _ _ _ _ _ _ hf, wl_set (S' := sJ S c0 k v) hc (by rw [hs]; rfl) (fun j h => sG_1 j h) (fun j h => sG_2 j h)] at hP1
  exact hP1
/-! arrays -/
theorem s_aI (g : GOK N Z G) (C : Cxt G p s m meth c args y cc nL ret) (hP : va_P Z.1 vwCl (wl sh N Z S) H) (c0 : Nat) {n b : Nat} (hc : c0 < N) (hs : sh c0 = .inr (0, n, b)) {i : Int32} (hin : vp_in i n) (hdg : decode cc pc = .ok (.iaload, 1))
    (kk : W p l e R s m args below meth c H locs cells slots Q (F0 m (pc + 1) ls (.int (S.1 c0 i.toNatClampNeg) :: rest))) : W p l e R s m args below meth c H locs cells slots Q (F0 m pc ls (.int i :: .ref (Z.2.2.1 c0) :: rest)) := by
  obtain ⟨⟨hx, hb, hml, ho, hts⟩, hr, hlo, hg⟩ := C
  exact va_iald hx hb (g.1 _ hg) hP c0 0 (f := S.1 c0) (by rw [wl_get hc, hs]; rfl) rfl hin hdg kk
theorem s_aJ (g : GOK N Z G) (C : Cxt G p s m meth c args y cc nL ret) (hP : va_P Z.1 vwCl (wl sh N Z S) H) (c0 : Nat) {n b : Nat} (hc : c0 < N) (hs : sh c0 = .inr (1, n, b)) {i : Int32} (hin : vp_in i n) (hdg : decode cc pc = .ok (.laload, 1))
    (kk : W p l e R s m args below meth c H locs cells slots Q (F0 m (pc + 1) ls (.long (S.2 c0 i.toNatClampNeg) :: rest))) : W p l e R s m args below meth c H locs cells slots Q (F0 m pc ls (.int i :: .ref (Z.2.2.1 c0) :: rest)) := by
  obtain ⟨⟨hx, hb, hml, ho, hts⟩, hr, hlo, hg⟩ := C
  exact va_lald hx hb (g.1 _ hg) hP c0 1 (f := S.2 c0) (by rw [wl_get hc, hs]; rfl) rfl hin hdg kk
theorem s_aZ (g : GOK N Z G) (C : Cxt G p s m meth c args y cc nL ret) (hP : va_P Z.1 vwCl (wl sh N Z S) H) (c0 : Nat) {n b : Nat} (hc : c0 < N) (hs : sh c0 = .inr (2, n, b)) {i : Int32} (hin : vp_in i n) (hdg : decode cc pc = .ok (.baload, 1))
    (kk : W p l e R s m args below meth c H locs cells slots Q (F0 m (pc + 1) ls (.int (S.1 c0 i.toNatClampNeg) :: rest))) : W p l e R s m args below meth c H locs cells slots Q (F0 m pc ls (.int i :: .ref (Z.2.2.1 c0) :: rest)) := by
  obtain ⟨⟨hx, hb, hml, ho, hts⟩, hr, hlo, hg⟩ := C
  exact va_zald hx hb (g.1 _ hg) hP c0 2 (f := S.1 c0) (by rw [wl_get hc, hs]; rfl) rfl hin hdg kk
theorem s_aR (g : GOK N Z G) (C : Cxt G p s m meth c args y cc nL ret) (hP : va_P Z.1 vwCl (wl sh N Z S) H) (c0 : Nat) {n b t : Nat} {Cn : String} (hc : c0 < N) (hs : sh c0 = .inr (t + 4, n, b)) (ht : (tysG Z.2.1)[t + 4]? = some (Z.2.1 (t + 4), .object Cn)) {i : Int32} (hin : vp_in i n) (hdg : decode cc pc = .ok (.aaload, 1))
    (kk : W p l e R s m args below meth c H locs cells slots Q (F0 m (pc + 1) ls (.ref (Z.2.2.1 (b + i.toNatClampNeg)) :: rest))) : W p l e R s m args below meth c H locs cells slots Q (F0 m pc ls (.int i :: .ref (Z.2.2.1 c0) :: rest)) := by
  obtain ⟨⟨hx, hb, hml, ho, hts⟩, hr, hlo, hg⟩ := C
  exact va_aldq hx hb (g.1 _ hg) hP c0 (t + 4) (f := fun j => some (Z.2.2.1 (b + j))) (by rw [wl_get hc, hs]; rfl) ht hin hdg kk
theorem s_aD (g : GOK N Z G) (C : Cxt G p s m meth c args y cc nL ret) (hP : va_P Z.1 vwCl (wl sh N Z S) H) (c0 : Nat) {n b : Nat} (hc : c0 < N) (hs : sh c0 = .inr (3, n, b)) {i : Int32} (hin : vp_in i n) (hdg : decode cc pc = .ok (.aaload, 1))
    (kk : W p l e R s m args below meth c H locs cells slots Q (F0 m (pc + 1) ls (.ref (Z.2.2.1 (33 + 7 * (b + i.toNatClampNeg))) :: rest))) : W p l e R s m args below meth c H locs cells slots Q (F0 m pc ls (.int i :: .ref (Z.2.2.1 c0) :: rest)) := by
  obtain ⟨⟨hx, hb, hml, ho, hts⟩, hr, hlo, hg⟩ := C
  exact va_aldq hx hb (g.1 _ hg) hP c0 3 (C := "FishingKites$Day") (f := fun j => some (Z.2.2.1 (33 + 7 * (b + j)))) (by rw [wl_get hc, hs]; rfl) rfl hin hdg kk
theorem s_len (g : GOK N Z G) (C : Cxt G p s m meth c args y cc nL ret) (hP : va_P Z.1 vwCl (wl sh N Z S) H) (c0 : Nat) {n b : Nat} (hc : c0 < N) (hs : sh c0 = .inr (0, n, b)) {v : Int32} (hv : Int32.ofNat n = v) (hdg : decode cc pc = .ok (.arraylength, 1))
    (kk : W p l e R s m args below meth c H locs cells slots Q (F0 m (pc + 1) ls (.int v :: rest))) : W p l e R s m args below meth c H locs cells slots Q (F0 m pc ls (.ref (Z.2.2.1 c0) :: rest)) := by
  obtain ⟨⟨hx, hb, hml, ho, hts⟩, hr, hlo, hg⟩ := C
  exact va_alen hx hb (g.1 _ hg) hP c0 0 (x := (n, .inl (S.1 c0))) (by rw [wl_get hc, hs]; rfl) (ty := .int) rfl hv hdg kk
theorem s_lenJ (g : GOK N Z G) (C : Cxt G p s m meth c args y cc nL ret) (hP : va_P Z.1 vwCl (wl sh N Z S) H) (c0 : Nat) {n b : Nat} (hc : c0 < N) (hs : sh c0 = .inr (1, n, b)) {v : Int32} (hv : Int32.ofNat n = v) (hdg : decode cc pc = .ok (.arraylength, 1))
    (kk : W p l e R s m args below meth c H locs cells slots Q (F0 m (pc + 1) ls (.int v :: rest))) : W p l e R s m args below meth c H locs cells slots Q (F0 m pc ls (.ref (Z.2.2.1 c0) :: rest)) := by
  obtain ⟨⟨hx, hb, hml, ho, hts⟩, hr, hlo, hg⟩ := C
  exact va_alen hx hb (g.1 _ hg) hP c0 1 (x := (n, .inr (.inl (S.2 c0)))) (by rw [wl_get hc, hs]; rfl) (ty := .long) rfl hv hdg kk
theorem s_stI (g : GOK N Z G) (C : Cxt G p s m meth c args y cc nL ret) (hP : va_P Z.1 vwCl (wl sh N Z S) H) (hS : va_S (aa N Z) s.heap H locs) (c0 : Nat) {n b : Nat} (hc : c0 < N) (hs : sh c0 = .inr (0, n, b)) {i v : Int32} (hin : vp_in i n) (hdg : decode cc pc = .ok (.iastore, 1))
    (kk : ∀ (H : Heap) (locs : List Loc), va_P Z.1 vwCl (wl sh N Z (sI S c0 i.toNatClampNeg v)) H → va_S (aa N Z) s.heap H locs → W p l e R s m args below meth c H locs cells slots Q (F0 m (pc + 1) ls rest)) : W p l e R s m args below meth c H locs cells slots Q (F0 m pc ls (.int v :: .int i :: .ref (Z.2.2.1 c0) :: rest)) := by
  obtain ⟨⟨hx, hb, hml, ho, hts⟩, hr, hlo, hg⟩ := C
  refine va_iast hx hb (g.1 _ hg) hP (wl_D g.2.1) hS c0 0 (f := S.1 c0) (by rw [wl_get hc, hs]; rfl) rfl hin hdg (fun H1 locs1 hP1 _ hS1 => kk H1 locs1 ?_ hS1)
  rw [wl_set (S' := sI S c0 i.toNatClampNeg v) hc (by rw [hs]; simp [cel, acl, sI, sF, va_up]) (fun j h => sF_1 j h) (fun j h => sF_2 j h)] at hP1
  exact hP1
theorem s_stZ (g : GOK N Z G) (C : Cxt G p s m meth c args y cc nL ret) (hP : va_P Z.1 vwCl (wl sh N Z S) H) (hS : va_S (aa N Z) s.heap H locs) (c0 : Nat) {n b : Nat} (hc : c0 < N) (hs : sh c0 = .inr (2, n, b)) {i v : Int32} (hin : vp_in i n) (hv : vp_nar .boolean v = v) (hdg : decode cc pc = .ok (.bastore, 1))
    (kk : ∀ (H : Heap) (locs : List Loc), va_P Z.1 vwCl (wl sh N Z (sI S c0 i.toNatClampNeg v)) H → va_S (aa N Z) s.heap H locs → W p l e R s m args below meth c H locs cells slots Q (F0 m (pc + 1) ls rest)) : W p l e R s m args below meth c H locs cells slots Q (F0 m pc ls (.int v :: .int i :: .ref (Z.2.2.1 c0) :: rest)) := by
  obtain ⟨⟨hx, hb, hml, ho, hts⟩, hr, hlo, hg⟩ := C
  refine va_zast hx hb (g.1 _ hg) hP (wl_D g.2.1) hS c0 2 (f := S.1 c0) (by rw [wl_get hc, hs]; rfl) rfl hin hdg (fun H1 locs1 hP1 _ hS1 => kk H1 locs1 ?_ hS1)
  rw [wl_set (S' := sI S c0 i.toNatClampNeg v) hc (by rw [hs, hv]; simp [cel, acl, sI, sF, va_up]) (fun j h => sF_1 j h) (fun j h => sF_2 j h)] at hP1
  exact hP1
theorem s_stJ (g : GOK N Z G) (C : Cxt G p s m meth c args y cc nL ret) (hP : va_P Z.1 vwCl (wl sh N Z S) H) (hS : va_S (aa N Z) s.heap H locs) (c0 : Nat) {n b : Nat} (hc : c0 < N) (hs : sh c0 = .inr (1, n, b)) {i : Int32} {v : Int64} (hin : vp_in i n) (hdg : decode cc pc = .ok (.lastore, 1))
    (kk : ∀ (H : Heap) (locs : List Loc), va_P Z.1 vwCl (wl sh N Z (sJ S c0 i.toNatClampNeg v)) H → va_S (aa N Z) s.heap H locs → W p l e R s m args below meth c H locs cells slots Q (F0 m (pc + 1) ls rest)) : W p l e R s m args below meth c H locs cells slots Q (F0 m pc ls (.long v :: .int i :: .ref (Z.2.2.1 c0) :: rest)) := by
  obtain ⟨⟨hx, hb, hml, ho, hts⟩, hr, hlo, hg⟩ := C
  refine va_last hx hb (g.1 _ hg) hP (wl_D g.2.1) hS c0 1 (f := S.2 c0) (by rw [wl_get hc, hs]; rfl) rfl hin hdg (fun H1 locs1 hP1 _ hS1 => kk H1 locs1 ?_ hS1)
  rw [wl_set (S' := sJ S c0 i.toNatClampNeg v) hc (by rw [hs]; simp [cel, acl, sJ, sG, va_up]) (fun j h => sG_1 j h) (fun j h => sG_2 j h)] at hP1
  exact hP1
end FR
end
section
/-! ===== contracts of methods of one side, over the whole picture; calls ===== -/
def Bd (sh : Nat → Dsc) (N : Nat) (Z : ZT) (S : St) (t : State) : Prop := va_P Z.1 vwCl (wl sh N Z S) t.heap
def Pd (sh : Nat → Dsc) (N : Nat) (Z : ZT) (G : State → Prop) (av : List Value) (S : St) : Array Value → State → Prop := va_Pc av (fun U => va_P Z.1 vwCl (wl sh N Z S) U.heap ∧ G U)
def wy (y : MethodName) (cc : ByteArray) (nL : Nat) (ret : Option FieldType) : List Cond := .code y cc nL ret :: BIG
def Mi (l : Launch) (sh : Nat → Dsc) (N : Nat) (Z : ZT) (G : State → Prop) (y : MethodName) (cc : ByteArray) (nL : Nat) (ret : Option FieldType) (rm : Room) (av : List Value) (S : St) (k : Int32 → St → Prop) : Prop :=
  Met l y (wy y cc nL ret) rm (Pd sh N Z G av S) (va_Qi k (Bd sh N Z) (aa N Z)) 0 0 (aa N Z)
def Ml (l : Launch) (sh : Nat → Dsc) (N : Nat) (Z : ZT) (G : State → Prop) (y : MethodName) (cc : ByteArray) (nL : Nat) (ret : Option FieldType) (rm : Room) (av : List Value) (S : St) (k : Int64 → St → Prop) : Prop :=
  Met l y (wy y cc nL ret) rm (Pd sh N Z G av S) (va_Ql k (Bd sh N Z) (aa N Z)) 0 0 (aa N Z)
def Mv (l : Launch) (sh : Nat → Dsc) (N : Nat) (Z : ZT) (G : State → Prop) (y : MethodName) (cc : ByteArray) (nL : Nat) (ret : Option FieldType) (rm : Room) (av : List Value) (S : St) (k : St → Prop) : Prop :=
  Met l y (wy y cc nL ret) rm (Pd sh N Z G av S) (va_Qv k (Bd sh N Z) (aa N Z)) 0 0 (aa N Z)
abbrev Qi (below : List Frame) (sh : Nat → Dsc) (N : Nat) (Z : ZT) (args : Array Value) (s : State) (k : Int32 → St → Prop) : State → Prop := MQ below (va_Qi k (Bd sh N Z) (aa N Z)) args s 0 0 (aa N Z)
abbrev Ql (below : List Frame) (sh : Nat → Dsc) (N : Nat) (Z : ZT) (args : Array Value) (s : State) (k : Int64 → St → Prop) : State → Prop := MQ below (va_Ql k (Bd sh N Z) (aa N Z)) args s 0 0 (aa N Z)
abbrev Qv (below : List Frame) (sh : Nat → Dsc) (N : Nat) (Z : ZT) (args : Array Value) (s : State) (k : St → Prop) : State → Prop := MQ below (va_Qv k (Bd sh N Z) (aa N Z)) args s 0 0 (aa N Z)
abbrev rmk (f l : Nat) : Room := { frames := f, cells := 0, slots := 0, locals := l }
section EN
variable {l : Launch} {sh : Nat → Dsc} {N : Nat} {Z : ZT} {G : State → Prop} {y : MethodName} {cc : ByteArray} {nL : Nat} {ret : Option FieldType} {rm : Room} {av : List Value} {S : St}
theorem e_i {k : Int32 → St → Prop} (hy : plainName y.cls = true) {lv : List (Nat × Value)} (hn : (lg_sl av).length ≤ nL) (hlv : lv_args 0 av = lv)
    (body : ∀ (p : Program) (e : Env) (s : State) (m : MethodId) (args : Array Value) (below : List Frame) (meth : Method) (c : Code), Cxt G p s m meth c args y cc nL ret → va_P Z.1 vwCl (wl sh N Z S) s.heap → va_S (aa N Z) s.heap s.heap [] → ∀ ls : Array Slot, lv_has ls nL lv →
      W p l e rm s m args below meth c s.heap [] 0 0 (Qi below sh N Z args s k) (F0 m 0 ls [])) : Mi l sh N Z G y cc nL ret rm av S k := by
  refine Met.ofW (cc := cc) (maxL := nL) (ret := ret) hy rfl ?_
  intro p e s m args below meth c s₁ B hml hv
  obtain ⟨rfl, hP, hG⟩ := hv
  rw [lg_entry_eq]
  refine body p e s m _ below meth c ⟨⟨B.exec, B.bytes, hml, findClass_of_methodNamed B.named, atoms_spec (ws := wy y cc nL ret) B.pre⟩, B.returns, B.notSynchronized, hG⟩ hP va_S.rf _ ?_
  rw [← hlv]
  exact lv_entry av hn
theorem e_l {k : Int64 → St → Prop} (hy : plainName y.cls = true) {lv : List (Nat × Value)} (hn : (lg_sl av).length ≤ nL) (hlv : lv_args 0 av = lv)
    (body : ∀ (p : Program) (e : Env) (s : State) (m : MethodId) (args : Array Value) (below : List Frame) (meth : Method) (c : Code), Cxt G p s m meth c args y cc nL ret → va_P Z.1 vwCl (wl sh N Z S) s.heap → va_S (aa N Z) s.heap s.heap [] → ∀ ls : Array Slot, lv_has ls nL lv →
      W p l e rm s m args below meth c s.heap [] 0 0 (Ql below sh N Z args s k) (F0 m 0 ls [])) : Ml l sh N Z G y cc nL ret rm av S k := by
  refine Met.ofW (cc := cc) (maxL := nL) (ret := ret) hy rfl ?_
  intro p e s m args below meth c s₁ B hml hv
  obtain ⟨rfl, hP, hG⟩ := hv
  rw [lg_entry_eq]
  refine body p e s m _ below meth c ⟨⟨B.exec, B.bytes, hml, findClass_of_methodNamed B.named, atoms_spec (ws := wy y cc nL ret) B.pre⟩, B.returns, B.notSynchronized, hG⟩ hP va_S.rf _ ?_
  rw [← hlv]
  exact lv_entry av hn
theorem e_v {k : St → Prop} (hy : plainName y.cls = true) {lv : List (Nat × Value)} (hn : (lg_sl av).length ≤ nL) (hlv : lv_args 0 av = lv)
    (body : ∀ (p : Program) (e : Env) (s : State) (m : MethodId) (args : Array Value) (below : List Frame) (meth : Method) (c : Code), Cxt G p s m meth c args y cc nL ret → va_P Z.1 vwCl (wl sh N Z S) s.heap → va_S (aa N Z) s.heap s.heap [] → ∀ ls : Array Slot, lv_has ls nL lv →
      W p l e rm s m args below meth c s.heap [] 0 0 (Qv below sh N Z args s k) (F0 m 0 ls [])) : Mv l sh N Z G y cc nL ret rm av S k := by
  refine Met.ofW (cc := cc) (maxL := nL) (ret := ret) hy rfl ?_
  intro p e s m args below meth c s₁ B hml hv
  obtain ⟨rfl, hP, hG⟩ := hv
  rw [lg_entry_eq]
  refine body p e s m _ below meth c ⟨⟨B.exec, B.bytes, hml, findClass_of_methodNamed B.named, atoms_spec (ws := wy y cc nL ret) B.pre⟩, B.returns, B.notSynchronized, hG⟩ hP va_S.rf _ ?_
  rw [← hlv]
  exact lv_entry av hn
end EN
/-- what a callee brings: its code, how it is found -/
def CalV (y : MethodName) (cc : ByteArray) (nL : Nat) (ret : Option FieldType) (n : Nat) : Prop :=
  Cond.code y cc nL ret ∈ BIG ∧ Cond.instanceMethod y ∈ BIG ∧ Cond.selects y.cls y y ∈ BIG ∧ Cond.initialized y.cls ∈ BIG ∧ (y.cls ≠ "java/lang/invoke/MethodHandle" ∧ y.cls ≠ "java/lang/invoke/VarHandle" ∧ (parseMethodDescriptor y.desc).map (fun d => d.parameters.length) = some n)
def CalS (y : MethodName) (cc : ByteArray) (nL : Nat) (ret : Option FieldType) (n : Nat) : Prop :=
  Cond.code y cc nL ret ∈ BIG ∧ Cond.static y ∈ BIG ∧ Cond.initialized y.cls ∈ BIG ∧ (y.cls ≠ "java/lang/invoke/MethodHandle" ∧ y.cls ≠ "java/lang/invoke/VarHandle" ∧ (parseMethodDescriptor y.desc).map (fun d => d.parameters.length) = some n)
def Rms (rm2 R : Room) (nL2 : Nat) : Prop := rm2.cells = 0 ∧ rm2.slots = 0 ∧ rm2.frames + 1 ≤ R.frames ∧ 8 + (nL2 + 11) + rm2.locals ≤ R.locals
theorem good_wy {y y2 : MethodName} {cc cc2 : ByteArray} {nL nL2 : Nat} {ret ret2 : Option FieldType} (h : Cond.code y2 cc2 nL2 ret2 ∈ BIG) : GoodIn (.code y cc nL ret :: BIG) (wy y2 cc2 nL2 ret2) := by
  intro w hw
  rcases List.mem_cons.mp hw with rfl | hw
  · exact ⟨List.mem_cons_of_mem _ h, good_of_word (List.mem_filter.mp h).2⟩
  · exact ⟨List.mem_cons_of_mem _ hw, good_of_word (List.mem_filter.mp hw).2⟩
section CA
variable {p : Program} {l : Launch} {e : Env} {R : Room} {s : State} {m : MethodId} {args : Array Value} {below : List Frame} {meth : Method} {c : Code} {H : Heap} {locs : List Loc} {Q : State → Prop}
variable {cc : ByteArray} {pc nL index : Nat} {ls : Array Slot} {rest st0 As : List Value} {G : State → Prop} {y : MethodName} {ret : Option FieldType} {sh : Nat → Dsc} {N : Nat} {Z : ZT} {S : St}
variable {y2 : MethodName} {cc2 : ByteArray} {nL2 n2 c0 ci n : Nat} {ret2 : Option FieldType} {rm2 : Room} {fl : List Nat} {T : u_T} {ty : Nat → FieldType}
/-! returns -/
theorem s_ri {k : Int32 → St → Prop} {v : Int32} (C : Cxt G p s m meth c args y cc nL (some .int)) (hP : va_P Z.1 vwCl (wl sh N Z S) H) (hS : va_S (aa N Z) s.heap H locs) (hk : k v S) (hdg : decode cc pc = .ok (.ireturn, 1)) : W p l e R s m args below meth c H locs 0 0 (Qi below sh N Z args s k) (F0 m pc ls [.int v]) := by
  obtain ⟨⟨hx, hb, hml, ho, hts⟩, hr, hlo, hg⟩ := C
  exact W.iret hx hb hr (fun t ht hW => ⟨⟨v, S, rfl, hk, by unfold Bd; rw [ht]; exact hP⟩, hS.F ht⟩) hS.2.2 hdg hlo
theorem s_rz {k : Int32 → St → Prop} {v : Int32} (C : Cxt G p s m meth c args y cc nL (some .boolean)) (hP : va_P Z.1 vwCl (wl sh N Z S) H) (hS : va_S (aa N Z) s.heap H locs) (hn : narrow .boolean (.int v) = .int v) (hk : k v S) (hdg : decode cc pc = .ok (.ireturn, 1)) : W p l e R s m args below meth c H locs 0 0 (Qi below sh N Z args s k) (F0 m pc ls [.int v]) := by
  obtain ⟨⟨hx, hb, hml, ho, hts⟩, hr, hlo, hg⟩ := C
  exact W.zret hx hb hr hn (fun t ht hW => ⟨⟨v, S, rfl, hk, by unfold Bd; rw [ht]; exact hP⟩, hS.F ht⟩) hS.2.2 hdg hlo
theorem s_rl {k : Int64 → St → Prop} {v : Int64} (C : Cxt G p s m meth c args y cc nL (some .long)) (hP : va_P Z.1 vwCl (wl sh N Z S) H) (hS : va_S (aa N Z) s.heap H locs) (hk : k v S) (hdg : decode cc pc = .ok (.lreturn, 1)) : W p l e R s m args below meth c H locs 0 0 (Ql below sh N Z args s k) (F0 m pc ls [.long v]) := by
  obtain ⟨⟨hx, hb, hml, ho, hts⟩, hr, hlo, hg⟩ := C
  exact W.lret hx hb hr (fun t ht hW => ⟨⟨v, S, rfl, hk, by unfold Bd; rw [ht]; exact hP⟩, hS.F ht⟩) hS.2.2 hdg hlo
theorem s_rv {k : St → Prop} (C : Cxt G p s m meth c args y cc nL none) (hP : va_P Z.1 vwCl (wl sh N Z S) H) (hS : va_S (aa N Z) s.heap H locs) (hk : k S) (hdg : decode cc pc = .ok (.return_, 1)) : W p l e R s m args below meth c H locs 0 0 (Qv below sh N Z args s k) (F0 m pc ls []) := by
  obtain ⟨⟨hx, hb, hml, ho, hts⟩, hr, hlo, hg⟩ := C
  exact W.vret hx hb hr (fun t ht hW => ⟨⟨S, rfl, hk, by unfold Bd; rw [ht]; exact hP⟩, hS.F ht⟩) hS.2.2 hdg hlo
/-! calls -/
theorem preS_of (g : GOK N Z G) {av : List Value} (hg : G s) (hP : va_P Z.1 vwCl (wl sh N Z S) H) (hS : va_S (aa N Z) s.heap H locs) : PreS s H (Pd sh N Z G av S) av :=
  ⟨fun a U gg mk h => ⟨h.1, h.2.1, g.2.2.2 U gg mk a h.2.2⟩, fun U hU hW => ⟨rfl, by rw [hU]; exact hP, g.2.2.1 s U H locs hg hS hU hW⟩⟩
theorem run_V {Qc : Array Value → State → Outcome → State → Prop} (g : GOK N Z G) (C : Cxt G p s m meth c args y cc nL ret) (hP : va_P Z.1 vwCl (wl sh N Z S) H) (hS : va_S (aa N Z) s.heap H locs) (hM : Met l y2 (wy y2 cc2 nL2 ret2) rm2 (Pd sh N Z G (.ref (Z.2.2.1 c0) :: As) S) Qc 0 0 (aa N Z))
    (cv : CalV y2 cc2 nL2 ret2 n2) (hlk : Cond.methodLink y.cls index y2 ∈ BIG) (hc : c0 < N) (hs : sh c0 = .inl (ci, fl)) (cf : ClsF ci y2.cls T n ty) (hrm : Rms rm2 R nL2) (hn : As.length = n2) (hst : st0 = As.reverse ++ .ref (Z.2.2.1 c0) :: rest) (hl : ls.size = nL) (hw : (rest.map fun v => v.category).sum ≤ 8) (hdg : decode cc pc = .ok (.invokevirtual index, 3)) :
    va_Run p l e R s m args below meth c H locs 0 0 0 0 (F0 m pc ls st0) rest (Qc (Value.ref (Z.2.2.1 c0) :: As).toArray) (aa N Z) := by
  obtain ⟨⟨hx, hb, hml, ho, hts⟩, hr, hlo, hg⟩ := C
  obtain ⟨a1, a2, a3, a4, a5⟩ := cv
  obtain ⟨r1, r2, r3, r4⟩ := hrm
  have hin : ∀ w ∈ BIG, w.before args s = true := fun w h => hts w (List.mem_cons_of_mem _ h)
  have hB : CallB R s args y.cls index y2 cc2 nL2 ret2 (wy y2 cc2 nL2 ret2) rm2 0 0 n2 := callB_of n2 hts (good_wy a1) rfl r1 r2 (hin _ a4) (hin _ hlk) a5 ⟨r3, r4⟩
  have hp := preS_of g (av := .ref (Z.2.2.1 c0) :: As) hg hP hS
  exact va_runV (C := y2.cls) ⟨hx, hb, hml, ho, hts⟩ hM ⟨hB, hin _ a2, hin _ a3⟩ ⟨hp.1, va_recv (g.1 _ hg) hP cf.1 (by rw [wl_get hc, hs]; rfl), hp.2⟩ rfl hn hl hst (lv_room hw) hdg ⟨Nat.zero_le _, Nat.zero_le _⟩
theorem run_S {Qc : Array Value → State → Outcome → State → Prop} (g : GOK N Z G) (C : Cxt G p s m meth c args y cc nL ret) (hP : va_P Z.1 vwCl (wl sh N Z S) H) (hS : va_S (aa N Z) s.heap H locs) (hM : Met l y2 (wy y2 cc2 nL2 ret2) rm2 (Pd sh N Z G As S) Qc 0 0 (aa N Z))
    (cv : CalS y2 cc2 nL2 ret2 n2) (hlk : Cond.methodLink y.cls index y2 ∈ BIG) (hrm : Rms rm2 R nL2) (hn : As.length = n2) (hst : st0 = As.reverse ++ rest) (hl : ls.size = nL) (hw : (rest.map fun v => v.category).sum ≤ 8) (hdg : decode cc pc = .ok (.invokestatic index, 3)) :
    va_Run p l e R s m args below meth c H locs 0 0 0 0 (F0 m pc ls st0) rest (Qc As.toArray) (aa N Z) := by
  obtain ⟨⟨hx, hb, hml, ho, hts⟩, hr, hlo, hg⟩ := C
  obtain ⟨a1, a2, a4, a5⟩ := cv
  obtain ⟨r1, r2, r3, r4⟩ := hrm
  have hin : ∀ w ∈ BIG, w.before args s = true := fun w h => hts w (List.mem_cons_of_mem _ h)
  have hB : CallB R s args y.cls index y2 cc2 nL2 ret2 (wy y2 cc2 nL2 ret2) rm2 0 0 n2 := callB_of n2 hts (good_wy a1) rfl r1 r2 (hin _ a4) (hin _ hlk) a5 ⟨r3, r4⟩
  exact va_runS ⟨hx, hb, hml, ho, hts⟩ hM ⟨hB, hin _ a2⟩ (preS_of g hg hP hS) rfl hn hl hst (lv_room hw) hdg ⟨Nat.zero_le _, Nat.zero_le _⟩
theorem run_SN {Qc : Array Value → State → Outcome → State → Prop} {host : String} (g : GOK N Z G) (C : Cxt G p s m meth c args y cc nL ret) (hP : va_P Z.1 vwCl (wl sh N Z S) H) (hS : va_S (aa N Z) s.heap H locs) (hM : Met l y2 (wy y2 cc2 nL2 ret2) rm2 (Pd sh N Z G As S) Qc 0 0 (aa N Z))
    (cv : CalS y2 cc2 nL2 ret2 n2) (hlk : va_Nw (.methodLinkNest y.cls index y2 host) s) (hrm : Rms rm2 R nL2) (hn : As.length = n2) (hst : st0 = As.reverse ++ rest) (hl : ls.size = nL) (hw : (rest.map fun v => v.category).sum ≤ 8) (hdg : decode cc pc = .ok (.invokestatic index, 3)) :
    va_Run p l e R s m args below meth c H locs 0 0 0 0 (F0 m pc ls st0) rest (Qc As.toArray) (aa N Z) := by
  obtain ⟨⟨hx, hb, hml, ho, hts⟩, hr, hlo, hg⟩ := C
  obtain ⟨a1, a2, a4, a5⟩ := cv
  obtain ⟨r1, r2, r3, r4⟩ := hrm
  have hin : ∀ w ∈ BIG, w.before args s = true := fun w h => hts w (List.mem_cons_of_mem _ h)
  exact va_runSN ⟨hx, hb, hml, ho, hts⟩ hM ⟨va_cnB n2 hts (good_wy a1) rfl r1 r2 hlk (hin _ a4) a5 ⟨r3, r4⟩, hin _ a2, trivial⟩ (preS_of g hg hP hS) rfl hn hl hst (lv_room hw) hdg ⟨Nat.zero_le _, Nat.zero_le _⟩
theorem go_i {k : Int32 → St → Prop} {a : Array Value} (hr : va_Run p l e R s m args below meth c H locs 0 0 0 0 (F0 m pc ls st0) rest (va_Qi k (Bd sh N Z) (aa N Z) a) (aa N Z)) (hS : va_S (aa N Z) s.heap H locs)
    (kk : ∀ (r : Int32) (S : St) (H : Heap) (locs : List Loc), k r S → va_P Z.1 vwCl (wl sh N Z S) H → va_S (aa N Z) s.heap H locs → W p l e R s m args below meth c H locs 0 0 Q (F0 m (pc + 3) ls (.int r :: rest))) : W p l e R s m args below meth c H locs 0 0 Q (F0 m pc ls st0) :=
  va_calli hr hS (fun _ _ h => h) (fun _ h => h) (fun r u t H1 locs1 ht _ hp hB _ _ hS1 => kk r u H1 locs1 hp (by unfold Bd at hB; rw [ht] at hB; exact hB) hS1)
theorem go_l {k : Int64 → St → Prop} {a : Array Value} (hr : va_Run p l e R s m args below meth c H locs 0 0 0 0 (F0 m pc ls st0) rest (va_Ql k (Bd sh N Z) (aa N Z) a) (aa N Z)) (hS : va_S (aa N Z) s.heap H locs)
    (kk : ∀ (r : Int64) (S : St) (H : Heap) (locs : List Loc), k r S → va_P Z.1 vwCl (wl sh N Z S) H → va_S (aa N Z) s.heap H locs → W p l e R s m args below meth c H locs 0 0 Q (F0 m (pc + 3) ls (.long r :: rest))) : W p l e R s m args below meth c H locs 0 0 Q (F0 m pc ls st0) :=
  va_calll hr hS (fun _ _ h => h) (fun _ h => h) (fun r u t H1 locs1 ht _ hp hB _ _ hS1 => kk r u H1 locs1 hp (by unfold Bd at hB; rw [ht] at hB; exact hB) hS1)
theorem go_v {k : St → Prop} {a : Array Value} (hr : va_Run p l e R s m args below meth c H locs 0 0 0 0 (F0 m pc ls st0) rest (va_Qv k (Bd sh N Z) (aa N Z) a) (aa N Z)) (hS : va_S (aa N Z) s.heap H locs)
    (kk : ∀ (S : St) (H : Heap) (locs : List Loc), k S → va_P Z.1 vwCl (wl sh N Z S) H → va_S (aa N Z) s.heap H locs → W p l e R s m args below meth c H locs 0 0 Q (F0 m (pc + 3) ls rest)) : W p l e R s m args below meth c H locs 0 0 Q (F0 m pc ls st0) :=
  va_callv hr hS (fun _ _ h => h) (fun _ h => h) (fun u t H1 locs1 ht _ hp hB _ _ hS1 => kk u H1 locs1 hp (by unfold Bd at hB; rw [ht] at hB; exact hB) hS1)
theorem go_ip {k : Int32 → Prop} {a : Array Value} (hr : va_Run p l e R s m args below meth c H locs 0 0 0 0 (F0 m pc ls st0) rest (va_Qi (fun r S' => S' = S ∧ k r) (Bd sh N Z) (aa N Z) a) (aa N Z)) (hS : va_S (aa N Z) s.heap H locs)
    (kk : ∀ (r : Int32) (H : Heap) (locs : List Loc), k r → va_P Z.1 vwCl (wl sh N Z S) H → va_S (aa N Z) s.heap H locs → W p l e R s m args below meth c H locs 0 0 Q (F0 m (pc + 3) ls (.int r :: rest))) : W p l e R s m args below meth c H locs 0 0 Q (F0 m pc ls st0) :=
  go_i hr hS (fun r S1 H locs h hP hS => by obtain ⟨e1, h⟩ := h; rw [e1] at hP; exact kk r H locs h hP hS)
theorem go_lp {k : Int64 → Prop} {a : Array Value} (hr : va_Run p l e R s m args below meth c H locs 0 0 0 0 (F0 m pc ls st0) rest (va_Ql (fun r S' => S' = S ∧ k r) (Bd sh N Z) (aa N Z) a) (aa N Z)) (hS : va_S (aa N Z) s.heap H locs)
    (kk : ∀ (r : Int64) (H : Heap) (locs : List Loc), k r → va_P Z.1 vwCl (wl sh N Z S) H → va_S (aa N Z) s.heap H locs → W p l e R s m args below meth c H locs 0 0 Q (F0 m (pc + 3) ls (.long r :: rest))) : W p l e R s m args below meth c H locs 0 0 Q (F0 m pc ls st0) :=
  go_l hr hS (fun r S1 H locs h hP hS => by obtain ⟨e1, h⟩ := h; rw [e1] at hP; exact kk r H locs h hP hS)
/-! Math.min, Math.max, System.arraycopy -/
theorem s_max (C : Cxt G p s m meth c args y cc nL ret) (hl : ls.size = nL) (hlk : Cond.methodLink y.cls index yJ9_max_7cf53 ∈ BIG) (hR : 1 ≤ R.frames ∧ (rest.map fun v => v.category).sum + 13 ≤ R.locals) {x1 x2 : Int32} (hdg : decode cc pc = .ok (.invokestatic index, 3))
    (kk : W p l e R s m args below meth c H locs 0 0 Q (F0 m (pc + 3) ls (.int (if x1 < x2 then x2 else x1) :: rest))) : W p l e R s m args below meth c H locs 0 0 Q (F0 m pc ls (.int x2 :: .int x1 :: rest)) := by
  obtain ⟨⟨hx, hb, hml, ho, hts⟩, hr, hlo, hg⟩ := C
  have hin : ∀ w ∈ BIG, w.before args s = true := fun w h => hts w (List.mem_cons_of_mem _ h)
  exact va_mmax hx hb (hml.trans hl.symm) ho (hin _ hlk) (hin _ kST_J9_max_7cf53) (hin _ kIN_J9) (hin _ kCD_J9_max_7cf53) hR.1 hR.2 (Nat.zero_le _) (Nat.zero_le _) hdg kk
theorem s_min (C : Cxt G p s m meth c args y cc nL ret) (hl : ls.size = nL) (hlk : Cond.methodLink y.cls index yJ9_min_7cf53 ∈ BIG) (hR : 1 ≤ R.frames ∧ (rest.map fun v => v.category).sum + 13 ≤ R.locals) {x1 x2 : Int32} (hdg : decode cc pc = .ok (.invokestatic index, 3))
    (kk : W p l e R s m args below meth c H locs 0 0 Q (F0 m (pc + 3) ls (.int (if x2 < x1 then x2 else x1) :: rest))) : W p l e R s m args below meth c H locs 0 0 Q (F0 m pc ls (.int x2 :: .int x1 :: rest)) := by
  obtain ⟨⟨hx, hb, hml, ho, hts⟩, hr, hlo, hg⟩ := C
  have hin : ∀ w ∈ BIG, w.before args s = true := fun w h => hts w (List.mem_cons_of_mem _ h)
  exact va_mmin hx hb (hml.trans hl.symm) ho (hin _ hlk) (hin _ kST_J9_min_7cf53) (hin _ kIN_J9) (hin _ kCD_J9_min_7cf53) hR.1 hR.2 (Nat.zero_le _) (Nat.zero_le _) hdg kk
theorem s_cpI (g : GOK N Z G) (C : Cxt G p s m meth c args y cc nL ret) (hP : va_P Z.1 vwCl (wl sh N Z S) H) (hS : va_S (aa N Z) s.heap H locs) (hl : ls.size = nL) (hlk : Cond.methodLink y.cls index arraycopyName ∈ BIG) (cs cd : Nat) {ns nd bs bd : Nat} (hcs : cs < N) (hcd : cd < N) (hss : sh cs = .inr (0, ns, bs)) (hsd : sh cd = .inr (0, nd, bd)) {k : Int32}
    (h3 : ¬ k < 0) (h4 : k.toNatClampNeg ≤ ns) (h5 : k.toNatClampNeg ≤ nd) (hR : 1 ≤ R.frames ∧ (rest.map fun v => v.category).sum + (nativeFrameWords "java/lang/System" "arraycopy" 5 + 11) ≤ R.locals) (hdg : decode cc pc = .ok (.invokestatic index, 3))
    (kk : ∀ (H : Heap) (locs : List Loc), va_P Z.1 vwCl (wl sh N Z (sF S cd (va_cpy (S.1 cs) (S.1 cd) 0 0 k.toNatClampNeg))) H → va_S (aa N Z) s.heap H locs → W p l e R s m args below meth c H locs 0 0 Q (F0 m (pc + 3) ls rest)) : W p l e R s m args below meth c H locs 0 0 Q (F0 m pc ls (.int k :: .int 0 :: .ref (Z.2.2.1 cd) :: .int 0 :: .ref (Z.2.2.1 cs) :: rest)) := by
  obtain ⟨⟨hx, hb, hml, ho, hts⟩, hr, hlo, hg⟩ := C
  have hin : ∀ w ∈ BIG, w.before args s = true := fun w h => hts w (List.mem_cons_of_mem _ h)
  have h0 : (0 : Int32).toNatClampNeg = 0 := rfl
  refine va_copyi hx hb (hml.trans hl.symm) ho (hin _ hlk) (hin _ kNA_arraycopyName) (hin _ kST_arraycopyName) (hin _ kIN_J10) (g.1 _ hg) hP (wl_D g.2.1) hS cs cd 0 0 (f := S.1 cs) (g := S.1 cd) (ty := .int) (by rw [wl_get hcs, hss]; rfl) (by rw [wl_get hcd, hsd]; rfl) rfl rfl rfl (by decide) (by decide) h3 (by rw [h0, Nat.zero_add]; exact h4) (by rw [h0, Nat.zero_add]; exact h5) (fun _ _ => rfl) hR.1 hR.2 hdg (fun H1 locs1 hP1 _ hS1 => kk H1 locs1 ?_ hS1)
  rw [h0, wl_set (S' := sF S cd (va_cpy (S.1 cs) (S.1 cd) 0 0 k.toNatClampNeg)) hcd (by rw [hsd]; simp [cel, acl, sF, va_up]) (fun j h => sF_1 j h) (fun j h => sF_2 j h)] at hP1
  exact hP1
theorem s_cpJ (g : GOK N Z G) (C : Cxt G p s m meth c args y cc nL ret) (hP : va_P Z.1 vwCl (wl sh N Z S) H) (hS : va_S (aa N Z) s.heap H locs) (hl : ls.size = nL) (hlk : Cond.methodLink y.cls index arraycopyName ∈ BIG) (cs cd : Nat) {ns nd bs bd : Nat} (hcs : cs < N) (hcd : cd < N) (hss : sh cs = .inr (1, ns, bs)) (hsd : sh cd = .inr (1, nd, bd)) {k : Int32}
    (h3 : ¬ k < 0) (h4 : k.toNatClampNeg ≤ ns) (h5 : k.toNatClampNeg ≤ nd) (hR : 1 ≤ R.frames ∧ (rest.map fun v => v.category).sum + (nativeFrameWords "java/lang/System" "arraycopy" 5 + 11) ≤ R.locals) (hdg : decode cc pc = .ok (.invokestatic index, 3))
    (kk : ∀ (H : Heap) (locs : List Loc), va_P Z.1 vwCl (wl sh N Z (sG S cd (va_cpy (S.2 cs) (S.2 cd) 0 0 k.toNatClampNeg))) H → va_S (aa N Z) s.heap H locs → W p l e R s m args below meth c H locs 0 0 Q (F0 m (pc + 3) ls rest)) : W p l e R s m args below meth c H locs 0 0 Q (F0 m pc ls (.int k :: .int 0 :: .ref (Z.2.2.1 cd) :: .int 0 :: .ref (Z.2.2.1 cs) :: rest)) := by
  obtain ⟨⟨hx, hb, hml, ho, hts⟩, hr, hlo, hg⟩ := C
  have hin : ∀ w ∈ BIG, w.before args s = true := fun w h => hts w (List.mem_cons_of_mem _ h)
  have h0 : (0 : Int32).toNatClampNeg = 0 := rfl
  refine va_copyl hx hb (hml.trans hl.symm) ho (hin _ hlk) (hin _ kNA_arraycopyName) (hin _ kST_arraycopyName) (hin _ kIN_J10) (g.1 _ hg) hP (wl_D g.2.1) hS cs cd 1 1 (f := S.2 cs) (g := S.2 cd) (ty := .long) (by rw [wl_get hcs, hss]; rfl) (by rw [wl_get hcd, hsd]; rfl) rfl rfl rfl (by decide) (by decide) h3 (by rw [h0, Nat.zero_add]; exact h4) (by rw [h0, Nat.zero_add]; exact h5) (fun _ _ => rfl) hR.1 hR.2 hdg (fun H1 locs1 hP1 _ hS1 => kk H1 locs1 ?_ hS1)
  rw [h0, wl_set (S' := sG S cd (va_cpy (S.2 cs) (S.2 cd) 0 0 k.toNatClampNeg)) hcd (by rw [hsd]; simp [cel, acl, sG, va_up]) (fun j h => sG_1 j h) (fun j h => sG_2 j h)] at hP1
  exact hP1
end CA
end
section
/-! ===== the two shapes: which cells there are ===== -/
def shXl : List Dsc := [.inl (8, [3, 6, 21, 35, 42, 49, 25, 0, 26, 29, 32]), .inl (7, [4, 5, 0, 0, 0]), .inr (0, 200, 0), .inr (0, 6, 0), .inl (4, [7, 8, 9, 10, 0, 0, 0, 0]), .inr (4, 6, 9), .inr (5, 4, 15), .inr (0, 36, 0), .inr (0, 36, 0), .inl (2, [0, 0, 0, 0, 0, 0]), .inl (2, [0, 0, 0, 0, 0, 0]), .inl (2, [0, 0, 0, 0, 0, 0]), .inl (2, [0, 0, 0, 0, 0, 0]), .inl (2, [0, 0, 0, 0, 0, 0]), .inl (2, [0, 0, 0, 0, 0, 0]), .inl (6, [0, 0, 0, 0, 0, 0]), .inl (6, [0, 0, 0, 0, 0, 0]), .inl (6, [0, 0, 0, 0, 0, 0]), .inl (6, [0, 0, 0, 0, 0, 0]), .inl (0, [22, 23, 24]), .inr (0, 24, 0), .inr (0, 288, 0), .inr (0, 288, 0), .inr (3, 2, 3), .inl (5, [0, 0, 0, 27, 28]), .inr (0, 24, 0), .inr (0, 7, 0), .inl (5, [0, 0, 0, 30, 31]), .inr (0, 24, 0), .inr (0, 7, 0), .inl (3, [33, 34]), .inr (1, 100, 0), .inr (1, 100, 0), .inl (1, [0, 0, 0, 0, 0, 36, 37, 38, 39, 40, 41]), .inr (0, 6, 0), .inr (0, 6, 0), .inr (0, 6, 0), .inr (0, 6, 0), .inr (0, 4, 0), .inr (0, 288, 0), .inl (1, [0, 0, 0, 0, 0, 43, 44, 45, 46, 47, 48]), .inr (0, 6, 0), .inr (0, 6, 0), .inr (0, 6, 0), .inr (0, 6, 0), .inr (0, 4, 0), .inr (0, 288, 0), .inl (1, [0, 0, 0, 0, 0, 50, 51, 52, 53, 54, 55]), .inr (0, 6, 0), .inr (0, 6, 0), .inr (0, 6, 0), .inr (0, 6, 0), .inr (0, 4, 0), .inr (0, 288, 0), .inl (1, [0, 0, 0, 0, 0, 57, 58, 59, 60, 61, 62]), .inr (0, 6, 0), .inr (0, 6, 0), .inr (0, 6, 0), .inr (0, 6, 0), .inr (0, 4, 0), .inr (0, 288, 0), .inl (1, [0, 0, 0, 0, 0, 64, 65, 66, 67, 68, 69]), .inr (0, 6, 0), .inr (0, 6, 0), .inr (0, 6, 0), .inr (0, 6, 0), .inr (0, 4, 0), .inr (0, 288, 0)]
def shX (c : Nat) : Dsc := shXl.getD c (.inr (0, 0, 0))
def shMl : List Dsc := [.inl (9, [3, 0, 4, 0, 5, 0, 0, 0, 0, 0, 6, 0, 0, 1, 0, 0, 0, 0, 7, 8, 9, 10, 11, 0]), .inr (0, 96, 0), .inr (0, 30, 0), .inr (0, 20, 0), .inr (0, 200, 0), .inr (0, 70, 0), .inr (0, 1197, 0), .inr (0, 1197, 0), .inr (0, 2394, 0), .inr (2, 2, 0)]
def shM (c : Nat) : Dsc := shMl.getD c (.inr (0, 0, 0))
theorem cfX0 : ClsF 0 RX0 TX0 3 tyX0 := ⟨rfl, inBX0, tyX0_ok, nmX0⟩
theorem cfX1 : ClsF 1 RX1 TX1 11 tyX1 := ⟨rfl, inBX1, tyX1_ok, nmX1⟩
theorem cfX2 : ClsF 2 RX2 TX2 6 tyX2 := ⟨rfl, inBX2, tyX2_ok, nmX2⟩
theorem cfX3 : ClsF 3 RX3 TX3 2 tyX3 := ⟨rfl, inBX3, tyX3_ok, nmX3⟩
theorem cfX4 : ClsF 4 RX4 TX4 8 tyX4 := ⟨rfl, inBX4, tyX4_ok, nmX4⟩
theorem cfX5 : ClsF 5 RX5 TX5 5 tyX5 := ⟨rfl, inBX5, tyX5_ok, nmX5⟩
theorem cfX6 : ClsF 6 RX6 TX6 6 tyX6 := ⟨rfl, inBX6, tyX6_ok, nmX6⟩
theorem cfX7 : ClsF 7 RX7 TX7 5 tyX7 := ⟨rfl, inBX7, tyX7_ok, nmX7⟩
theorem cfX8 : ClsF 8 RX8 TX8 11 tyX8 := ⟨rfl, inBX8, tyX8_ok, nmX8⟩
theorem cfX9 : ClsF 9 RX9 TX9 24 tyX9 := ⟨rfl, inBX9, tyX9_ok, nmX9⟩
theorem shX_day {d : Nat} (h : d < 5) : shX (33 + 7 * d) = .inl (1, [0, 0, 0, 0, 0, 33 + 7 * d + 1 + 2, 33 + 7 * d + 2 + 2, 33 + 7 * d + 3 + 2, 33 + 7 * d + 4 + 2, 33 + 7 * d + 5 + 2, 33 + 7 * d + 6 + 2]) := by
  match d, h with
  | 0, _ => rfl
  | 1, _ => rfl
  | 2, _ => rfl
  | 3, _ => rfl
  | 4, _ => rfl
  | d + 5, h => exact absurd h (by omega)
theorem shX_day1 {d : Nat} (h : d < 5) : shX (33 + 7 * d + 1) = .inr (0, 6, 0) := by
  match d, h with
  | 0, _ => rfl
  | 1, _ => rfl
  | 2, _ => rfl
  | 3, _ => rfl
  | 4, _ => rfl
  | d + 5, h => exact absurd h (by omega)
theorem shX_day2 {d : Nat} (h : d < 5) : shX (33 + 7 * d + 2) = .inr (0, 6, 0) := by
  match d, h with
  | 0, _ => rfl
  | 1, _ => rfl
  | 2, _ => rfl
  | 3, _ => rfl
  | 4, _ => rfl
  | d + 5, h => exact absurd h (by omega)
theorem shX_day3 {d : Nat} (h : d < 5) : shX (33 + 7 * d + 3) = .inr (0, 6, 0) := by
  match d, h with
  | 0, _ => rfl
  | 1, _ => rfl
  | 2, _ => rfl
  | 3, _ => rfl
  | 4, _ => rfl
  | d + 5, h => exact absurd h (by omega)
theorem shX_day4 {d : Nat} (h : d < 5) : shX (33 + 7 * d + 4) = .inr (0, 6, 0) := by
  match d, h with
  | 0, _ => rfl
  | 1, _ => rfl
  | 2, _ => rfl
  | 3, _ => rfl
  | 4, _ => rfl
  | d + 5, h => exact absurd h (by omega)
theorem shX_day5 {d : Nat} (h : d < 5) : shX (33 + 7 * d + 5) = .inr (0, 4, 0) := by
  match d, h with
  | 0, _ => rfl
  | 1, _ => rfl
  | 2, _ => rfl
  | 3, _ => rfl
  | 4, _ => rfl
  | d + 5, h => exact absurd h (by omega)
theorem shX_day6 {d : Nat} (h : d < 5) : shX (33 + 7 * d + 6) = .inr (0, 288, 0) := by
  match d, h with
  | 0, _ => rfl
  | 1, _ => rfl
  | 2, _ => rfl
  | 3, _ => rfl
  | 4, _ => rfl
  | d + 5, h => exact absurd h (by omega)
theorem ltX_day0 {d : Nat} (h : d < 5) : 33 + 7 * d + 0 < 68 := by omega
theorem ltX_day1 {d : Nat} (h : d < 5) : 33 + 7 * d + 1 < 68 := by omega
theorem ltX_day2 {d : Nat} (h : d < 5) : 33 + 7 * d + 2 < 68 := by omega
theorem ltX_day3 {d : Nat} (h : d < 5) : 33 + 7 * d + 3 < 68 := by omega
theorem ltX_day4 {d : Nat} (h : d < 5) : 33 + 7 * d + 4 < 68 := by omega
theorem ltX_day5 {d : Nat} (h : d < 5) : 33 + 7 * d + 5 < 68 := by omega
theorem ltX_day6 {d : Nat} (h : d < 5) : 33 + 7 * d + 6 < 68 := by omega
theorem ltX_day {d : Nat} (h : d < 5) : 33 + 7 * d < 68 := by omega
theorem shX_kite {k : Nat} (h : k < 6) : shX (9 + k) = .inl (2, [0, 0, 0, 0, 0, 0]) := by
  match k, h with
  | 0, _ => rfl
  | 1, _ => rfl
  | 2, _ => rfl
  | 3, _ => rfl
  | 4, _ => rfl
  | 5, _ => rfl
  | k + 6, h => exact absurd h (by omega)
theorem shX_shoal {k : Nat} (h : k < 4) : shX (15 + k) = .inl (6, [0, 0, 0, 0, 0, 0]) := by
  match k, h with
  | 0, _ => rfl
  | 1, _ => rfl
  | 2, _ => rfl
  | 3, _ => rfl
  | k + 4, h => exact absurd h (by omega)
theorem ltX_kite {k : Nat} (h : k < 6) : 9 + k < 68 := by omega
theorem ltX_shoal {k : Nat} (h : k < 4) : 15 + k < 68 := by omega
theorem vin_lt {i : Int32} {n : Nat} (h : vp_in i n) : i.toNatClampNeg < n := Nat.not_le.mp fun q => h (Or.inr q)
theorem shX_se {q : Nat} (h : q < 2) : shX (24 + 3 * q) = .inl (5, [0, 0, 0, 24 + 3 * q + 1 + 2, 24 + 3 * q + 2 + 2]) := by
  match q, h with
  | 0, _ => rfl
  | 1, _ => rfl
  | q + 2, h => exact absurd h (by omega)
theorem shX_se1 {q : Nat} (h : q < 2) : shX (24 + 3 * q + 1) = .inr (0, 24, 0) := by
  match q, h with
  | 0, _ => rfl
  | 1, _ => rfl
  | q + 2, h => exact absurd h (by omega)
theorem ltX_se1 {q : Nat} (h : q < 2) : 24 + 3 * q + 1 < 68 := by omega
theorem shX_se2 {q : Nat} (h : q < 2) : shX (24 + 3 * q + 2) = .inr (0, 7, 0) := by
  match q, h with
  | 0, _ => rfl
  | 1, _ => rfl
  | q + 2, h => exact absurd h (by omega)
theorem ltX_se2 {q : Nat} (h : q < 2) : 24 + 3 * q + 2 < 68 := by omega
theorem ltX_se {q : Nat} (h : q < 2) : 24 + 3 * q < 68 := by omega
/-! ===== what holds of the rest of the machine ===== -/
def nestX : List Cond := [Cond.methodLinkNest RX8 11 yX7_init "FishingKites", Cond.methodLinkNest RX4 34 yX2_init "FishingKites", Cond.methodLinkNest RX4 35 yX6_init "FishingKites", Cond.methodLinkNest RX8 25 yX0_init "FishingKites", Cond.methodLinkNest RX8 32 yX1_init "FishingKites", Cond.methodLinkNest RX8 49 yX5_init "FishingKites", Cond.methodLinkNest RX8 59 yX3_init "FishingKites", Cond.fieldLinkNest RX7 70 "FishingKites" "NUMBERS_FROM" "[I" "FishingKites", Cond.fieldLinkNest RX7 77 "FishingKites" "LEAST" "[I" "FishingKites", Cond.fieldLinkNest RX7 80 "FishingKites" "MOST" "[I" "FishingKites", Cond.methodLinkNest RX4 63 yX8_isHeight "FishingKites", Cond.methodLinkNest RX4 111 yX8_isIn "FishingKites", Cond.methodLinkNest RX0 63 yX8_isIn "FishingKites", Cond.methodLinkNest RX1 79 yX8_isIn "FishingKites", Cond.methodLinkNest RX5 81 yX8_isIn "FishingKites"]
def txL : List Nat := [4, 4, 5, 3, 5, 3, 5, 4, 4]
def txB : List (List Int32) := [[119, 105, 110, 100], [107, 105, 116, 101], [115, 104, 111, 97, 108], [108, 97, 119], [115, 116, 111, 99, 107], [102, 111, 103], [103, 117, 108, 108, 115], [99, 97, 108, 109], [108, 111, 115, 116]]
def txN : List String := ["wind", "kite", "shoal", "law", "stock", "fog", "gulls", "calm", "lost"]
def txI : List Nat := [90, 92, 94, 96, 98, 100, 102, 104, 106]
def tbN : List Int32 := [0, 5, 11, 17, 18, 19, 21, 22, 22, 23]
def tbL : List Int32 := [1, 0, 0, 0, 0, 0, 0, 1, 1, 0, 0, 0, 0, 1, 0, 0, 0, 0, 0, 0, 0, 0, 0]
def tbM : List Int32 := [3, 11, 11, 9, 6, 5, 9, 5, 9, 9, 2, 3, 9, 6, 2, 2, 99, 2, 99, 11, 11, 9, 5]
def tabX (Z : ZT) (U : State) (f : String) (i n : Nat) (tb : List Int32) : Prop := va_Z RX8 f "[I" (.ref (Z.2.2.2 i)) (aa 68 Z) U U.heap ∧ va_T .int (Z.2.2.2 i) n (fun j => .int (tb.getD j 0)) (aa 68 Z) U U.heap
def gX (Z : ZT) (U : State) : Prop :=
  va_K Z.1 vwCl (tysG Z.2.1) U ∧ (∀ w ∈ nestX, va_Nw w U) ∧ tabX Z U "NUMBERS_FROM" 0 10 tbN ∧ tabX Z U "LEAST" 1 23 tbL ∧ tabX Z U "MOST" 2 23 tbM ∧
  va_Z RJ0 "COMPACT_STRINGS" "Z" (.int 1) (aa 68 Z) U U.heap ∧ vk_S 9 txL txB (fun i => Z.2.2.2 (10 + i)) (fun i => Z.2.2.2 (20 + i)) (aa 68 Z) U U.heap ∧ ∀ i, i < 9 → vk_R RX7 (txI.getD i 0) (txN.getD i "") (Z.2.2.2 (10 + i)) U
def gM (Z : ZT) (U : State) : Prop := va_K Z.1 vwCl (tysG Z.2.1) U
def injZ (N : Nat) (Z : ZT) : Prop := ∀ i j, i < N → j < N → Z.2.2.1 i = Z.2.2.1 j → i = j
theorem tabX.to {Z : ZT} {s U : State} {f : String} {i n : Nat} {tb : List Int32} {H : Heap} {locs : List Loc} (h : tabX Z s f i n tb) (hS : va_S (aa 68 Z) s.heap H locs) (hU : U.heap = H) (hW : s.vm.Alike U.vm) : tabX Z U f i n tb := by
  subst hU
  exact ⟨(h.1.kept hS.2.1).moved hW, (h.2.kept hS.2.1).moved hW⟩
theorem nest_warm {s U : State} (hW : s.WarmedH U.vm) (h : ∀ w ∈ nestX, va_Nw w s) : ∀ w ∈ nestX, va_Nw w U := by
  intro w hw
  have h1 := h w hw
  simp only [nestX, List.mem_cons, List.not_mem_nil, or_false] at hw
  rcases hw with rfl | rfl | rfl | rfl | rfl | rfl | rfl | rfl | rfl | rfl | rfl | rfl | rfl | rfl | rfl <;> first | exact va_Nw.warmM hW h1 | exact va_Nw.warmF hW h1
theorem nest_same {s U : State} (hW : s.vm = U.vm) (h : ∀ w ∈ nestX, va_Nw w s) : ∀ w ∈ nestX, va_Nw w U := by
  intro w hw
  have h1 := h w hw
  simp only [nestX, List.mem_cons, List.not_mem_nil, or_false] at hw
  rcases hw with rfl | rfl | rfl | rfl | rfl | rfl | rfl | rfl | rfl | rfl | rfl | rfl | rfl | rfl | rfl <;> exact va_Nw.same rfl hW h1
theorem gokX {Z : ZT} (hi : injZ 68 Z) : GOK 68 Z (gX Z) := by
  refine ⟨fun U h => h.1, hi, ?_, ?_⟩
  · intro s U H locs h hS hU hW
    obtain ⟨h1, h2, h3, h4, h5, h6, h7, h8⟩ := h
    refine ⟨va_K.moved hW.alike h1, nest_warm hW h2, h3.to hS hU hW.alike, h4.to hS hU hW.alike, h5.to hS hU hW.alike, ?_, ?_, fun i hi => (h8 i hi).warm hW⟩
    · subst hU
      exact (h6.kept hS.2.1).moved hW.alike
    · subst hU
      exact (h7.kept hS.2.1).moved hW.alike
  · intro U g mk a h
    obtain ⟨h1, h2, h3, h4, h5, h6, h7, h8⟩ := h
    have e : U.vm.Alike (State.calling U g mk a).vm := Vm.Alike.refl U.vm
    exact ⟨va_K.moved e h1, nest_same (s := U) rfl h2, ⟨va_Z.moved e h3.1, va_T.moved e h3.2⟩, ⟨va_Z.moved e h4.1, va_T.moved e h4.2⟩, ⟨va_Z.moved e h5.1, va_T.moved e h5.2⟩, va_Z.moved e h6, vk_S.moved e h7, fun i hi => vk_R.same rfl (h8 i hi)⟩
theorem gokM {Z : ZT} (hi : injZ 10 Z) : GOK 10 Z (gM Z) :=
  ⟨fun U h => h, hi, fun s U H locs h hS hU hW => va_K.moved (U := U) hW.alike h, fun U g mk a h => va_K.moved (U := State.calling U g mk a) (Vm.Alike.refl U.vm) h⟩
theorem nstX {Z : ZT} {s : State} (h : gX Z s) (i : Nat) {w : Cond} (hw : nestX[i]? = some w) : va_Nw w s := h.2.1 w (List.mem_of_getElem? hw)
theorem vinL {i : Int32} {n : Nat} (h : (decide (i < 0) || Nat.ble n i.toNatClampNeg) = false) : vp_in i n := by
  simp only [Bool.or_eq_false_iff, decide_eq_false_iff_not] at h
  intro q
  rcases q with q | q
  · exact h.1 q
  · have h2 := Nat.ble_eq_true_of_le q
    rw [h.2] at h2
    cases h2
theorem nar_b {r : Int32} (h : r = 0 ∨ r = 1) : narrow .boolean (.int r) = .int r := by
  rcases h with rfl | rfl <;> rfl
theorem tIne {x v : Int32} {z : Int} (h : ¬ x = v) (e : v.toInt = z) : x.toInt ≠ z := fun h2 => h (Int32.toInt_inj.mp (h2.trans e.symm))
theorem cal_X0_draw : CalV yX0_draw cX0_draw 4 none 1 := ⟨kCD_X0_draw, kIM_X0_draw, kSE_X0_draw, kIN_X0, by decide +kernel⟩
theorem cal_X0_drawKite : CalV yX0_drawKite cX0_drawKite 8 none 3 := ⟨kCD_X0_drawKite, kIM_X0_drawKite, kSE_X0_drawKite, kIN_X0, by decide +kernel⟩
theorem cal_X0_shoalsAt : CalS yX0_shoalsAt cX0_shoalsAt 9 (Option.some .int) 4 := ⟨kCD_X0_shoalsAt, kST_X0_shoalsAt, kIN_X0, by decide +kernel⟩
theorem cal_X0_kitesAcross : CalS yX0_kitesAcross cX0_kitesAcross 6 (Option.some .int) 4 := ⟨kCD_X0_kitesAcross, kST_X0_kitesAcross, kIN_X0, by decide +kernel⟩
theorem cal_X0_isFree : CalV yX0_isFree cX0_isFree 5 (Option.some .boolean) 3 := ⟨kCD_X0_isFree, kIM_X0_isFree, kSE_X0_isFree, kIN_X0, by decide +kernel⟩
theorem cal_X0_met : CalV yX0_met cX0_met 5 (Option.some .int) 3 := ⟨kCD_X0_met, kIM_X0_met, kSE_X0_met, kIN_X0, by decide +kernel⟩
theorem cal_X0_crossed : CalV yX0_crossed cX0_crossed 5 (Option.some .int) 3 := ⟨kCD_X0_crossed, kIM_X0_crossed, kSE_X0_crossed, kIN_X0, by decide +kernel⟩
theorem cal_X1_stockShoals : CalV yX1_stockShoals cX1_stockShoals 3 none 1 := ⟨kCD_X1_stockShoals, kIM_X1_stockShoals, kSE_X1_stockShoals, kIN_X1, by decide +kernel⟩
theorem cal_X1_become : CalV yX1_become cX1_become 2 none 1 := ⟨kCD_X1_become, kIM_X1_become, kSE_X1_become, kIN_X1, by decide +kernel⟩
theorem cal_X1_resume : CalV yX1_resume cX1_resume 2 none 1 := ⟨kCD_X1_resume, kIM_X1_resume, kSE_X1_resume, kIN_X1, by decide +kernel⟩
theorem cal_X1_pass : CalV yX1_pass cX1_pass 7 none 4 := ⟨kCD_X1_pass, kIM_X1_pass, kSE_X1_pass, kIN_X1, by decide +kernel⟩
theorem cal_X1_risen : CalV yX1_risen cX1_risen 8 (Option.some .int) 2 := ⟨kCD_X1_risen, kIM_X1_risen, kSE_X1_risen, kIN_X1, by decide +kernel⟩
theorem cal_X1_untangled : CalV yX1_untangled cX1_untangled 11 (Option.some .int) 4 := ⟨kCD_X1_untangled, kIM_X1_untangled, kSE_X1_untangled, kIN_X1, by decide +kernel⟩
theorem cal_X1_fish : CalV yX1_fish cX1_fish 9 none 3 := ⟨kCD_X1_fish, kIM_X1_fish, kSE_X1_fish, kIN_X1, by decide +kernel⟩
theorem cal_X1_fishIn : CalV yX1_fishIn cX1_fishIn 4 (Option.some .int) 1 := ⟨kCD_X1_fishIn, kIM_X1_fishIn, kSE_X1_fishIn, kIN_X1, by decide +kernel⟩
theorem cal_X1_note : CalV yX1_note cX1_note 4 none 3 := ⟨kCD_X1_note, kIM_X1_note, kSE_X1_note, kIN_X1, by decide +kernel⟩
theorem cal_X3_begin : CalV yX3_begin cX3_begin 2 none 1 := ⟨kCD_X3_begin, kIM_X3_begin, kSE_X3_begin, kIN_X3, by decide +kernel⟩
theorem cal_X3_enough : CalV yX3_enough cX3_enough 10 (Option.some .long) 5 := ⟨kCD_X3_enough, kIM_X3_enough, kSE_X3_enough, kIN_X3, by decide +kernel⟩
theorem cal_X3_drift : CalV yX3_drift cX3_drift 7 none 2 := ⟨kCD_X3_drift, kIM_X3_drift, kSE_X3_drift, kIN_X3, by decide +kernel⟩
theorem cal_X3_sumFrom : CalV yX3_sumFrom cX3_sumFrom 5 (Option.some .long) 1 := ⟨kCD_X3_sumFrom, kIM_X3_sumFrom, kSE_X3_sumFrom, kIN_X3, by decide +kernel⟩
theorem cal_X4_tell : CalV yX4_tell cX4_tell 3 none 2 := ⟨kCD_X4_tell, kIM_X4_tell, kSE_X4_tell, kIN_X4, by decide +kernel⟩
theorem cal_X4_tellWind : CalV yX4_tellWind cX4_tellWind 4 none 1 := ⟨kCD_X4_tellWind, kIM_X4_tellWind, kSE_X4_tellWind, kIN_X4, by decide +kernel⟩
theorem cal_X4_tellKite : CalV yX4_tellKite cX4_tellKite 3 none 1 := ⟨kCD_X4_tellKite, kIM_X4_tellKite, kSE_X4_tellKite, kIN_X4, by decide +kernel⟩
theorem cal_X4_tellShoal : CalV yX4_tellShoal cX4_tellShoal 3 none 1 := ⟨kCD_X4_tellShoal, kIM_X4_tellShoal, kSE_X4_tellShoal, kIN_X4, by decide +kernel⟩
theorem cal_X4_tellFog : CalV yX4_tellFog cX4_tellFog 4 none 2 := ⟨kCD_X4_tellFog, kIM_X4_tellFog, kSE_X4_tellFog, kIN_X4, by decide +kernel⟩
theorem cal_X4_tellCalm : CalV yX4_tellCalm cX4_tellCalm 1 none 0 := ⟨kCD_X4_tellCalm, kIM_X4_tellCalm, kSE_X4_tellCalm, kIN_X4, by decide +kernel⟩
theorem cal_X4_tellLost : CalV yX4_tellLost cX4_tellLost 2 none 1 := ⟨kCD_X4_tellLost, kIM_X4_tellLost, kSE_X4_tellLost, kIN_X4, by decide +kernel⟩
theorem cal_X4_windAt : CalS yX4_windAt cX4_windAt 4 (Option.some .int) 3 := ⟨kCD_X4_windAt, kST_X4_windAt, kIN_X4, by decide +kernel⟩
theorem cal_X4_isToldKite : CalV yX4_isToldKite cX4_isToldKite 2 (Option.some .boolean) 1 := ⟨kCD_X4_isToldKite, kIM_X4_isToldKite, kSE_X4_isToldKite, kIN_X4, by decide +kernel⟩
theorem cal_X4_isToldShoal : CalV yX4_isToldShoal cX4_isToldShoal 2 (Option.some .boolean) 1 := ⟨kCD_X4_isToldShoal, kIM_X4_isToldShoal, kSE_X4_isToldShoal, kIN_X4, by decide +kernel⟩
theorem cal_X4_isFoggy : CalV yX4_isFoggy cX4_isFoggy 2 (Option.some .boolean) 1 := ⟨kCD_X4_isFoggy, kIM_X4_isFoggy, kSE_X4_isFoggy, kIN_X4, by decide +kernel⟩
theorem cal_X4_kiteBits : CalV yX4_kiteBits cX4_kiteBits 3 (Option.some .int) 0 := ⟨kCD_X4_kiteBits, kIM_X4_kiteBits, kSE_X4_kiteBits, kIN_X4, by decide +kernel⟩
theorem cal_X4_shoalBits : CalV yX4_shoalBits cX4_shoalBits 3 (Option.some .int) 0 := ⟨kCD_X4_shoalBits, kIM_X4_shoalBits, kSE_X4_shoalBits, kIN_X4, by decide +kernel⟩
theorem cal_X4_shoalX : CalV yX4_shoalX cX4_shoalX 3 (Option.some .int) 2 := ⟨kCD_X4_shoalX, kIM_X4_shoalX, kSE_X4_shoalX, kIN_X4, by decide +kernel⟩
theorem cal_X4_shoalY : CalV yX4_shoalY cX4_shoalY 3 (Option.some .int) 2 := ⟨kCD_X4_shoalY, kIM_X4_shoalY, kSE_X4_shoalY, kIN_X4, by decide +kernel⟩
theorem cal_X4_kiteX : CalV yX4_kiteX cX4_kiteX 4 (Option.some .int) 3 := ⟨kCD_X4_kiteX, kIM_X4_kiteX, kSE_X4_kiteX, kIN_X4, by decide +kernel⟩
theorem cal_X4_kiteY : CalV yX4_kiteY cX4_kiteY 3 (Option.some .int) 2 := ⟨kCD_X4_kiteY, kIM_X4_kiteY, kSE_X4_kiteY, kIN_X4, by decide +kernel⟩
theorem cal_X4_isInSea : CalV yX4_isInSea cX4_isInSea 6 (Option.some .boolean) 3 := ⟨kCD_X4_isInSea, kIM_X4_isInSea, kSE_X4_isInSea, kIN_X4, by decide +kernel⟩
theorem cal_X4_hasLift : CalV yX4_hasLift cX4_hasLift 4 (Option.some .boolean) 3 := ⟨kCD_X4_hasLift, kIM_X4_hasLift, kSE_X4_hasLift, kIN_X4, by decide +kernel⟩
theorem cal_X4_wouldCross : CalV yX4_wouldCross cX4_wouldCross 7 (Option.some .boolean) 4 := ⟨kCD_X4_wouldCross, kIM_X4_wouldCross, kSE_X4_wouldCross, kIN_X4, by decide +kernel⟩
theorem cal_X4_givingWay : CalV yX4_givingWay cX4_givingWay 7 (Option.some .int) 3 := ⟨kCD_X4_givingWay, kIM_X4_givingWay, kSE_X4_givingWay, kIN_X4, by decide +kernel⟩
theorem cal_X4_afterGulls : CalV yX4_afterGulls cX4_afterGulls 2 (Option.some .int) 1 := ⟨kCD_X4_afterGulls, kIM_X4_afterGulls, kSE_X4_afterGulls, kIN_X4, by decide +kernel⟩
theorem cal_X4_shareOf : CalV yX4_shareOf cX4_shareOf 9 (Option.some .int) 2 := ⟨kCD_X4_shareOf, kIM_X4_shareOf, kSE_X4_shareOf, kIN_X4, by decide +kernel⟩
theorem cal_X5_forget : CalV yX5_forget cX5_forget 1 none 0 := ⟨kCD_X5_forget, kIM_X5_forget, kSE_X5_forget, kIN_X5, by decide +kernel⟩
theorem cal_X5_heightOf : CalV yX5_heightOf cX5_heightOf 2 (Option.some .int) 1 := ⟨kCD_X5_heightOf, kIM_X5_heightOf, kSE_X5_heightOf, kIN_X5, by decide +kernel⟩
theorem cal_X5_heightIn : CalS yX5_heightIn cX5_heightIn 2 (Option.some .int) 2 := ⟨kCD_X5_heightIn, kST_X5_heightIn, kIN_X5, by decide +kernel⟩
theorem cal_X5_shiftOf : CalS yX5_shiftOf cX5_shiftOf 1 (Option.some .int) 1 := ⟨kCD_X5_shiftOf, kST_X5_shiftOf, kIN_X5, by decide +kernel⟩
theorem cal_X5_find : CalV yX5_find cX5_find 9 none 5 := ⟨kCD_X5_find, kIM_X5_find, kSE_X5_find, kIN_X5, by decide +kernel⟩
theorem cal_X5_tryPlan : CalV yX5_tryPlan cX5_tryPlan 8 none 6 := ⟨kCD_X5_tryPlan, kIM_X5_tryPlan, kSE_X5_tryPlan, kIN_X5, by decide +kernel⟩
theorem cal_X5_firstHopeless : CalV yX5_firstHopeless cX5_firstHopeless 5 (Option.some .int) 1 := ⟨kCD_X5_firstHopeless, kIM_X5_firstHopeless, kSE_X5_firstHopeless, kIN_X5, by decide +kernel⟩
theorem cal_X5_setBounds : CalV yX5_setBounds cX5_setBounds 9 none 4 := ⟨kCD_X5_setBounds, kIM_X5_setBounds, kSE_X5_setBounds, kIN_X5, by decide +kernel⟩
theorem cal_X5_boundOf : CalS yX5_boundOf cX5_boundOf 14 (Option.some .int) 6 := ⟨kCD_X5_boundOf, kST_X5_boundOf, kIN_X5, by decide +kernel⟩
theorem cal_X7_hasRoom : CalV yX7_hasRoom cX7_hasRoom 2 (Option.some .boolean) 1 := ⟨kCD_X7_hasRoom, kIM_X7_hasRoom, kSE_X7_hasRoom, kIN_X7, by decide +kernel⟩
theorem cal_X7_append : CalV yX7_append cX7_append 5 none 2 := ⟨kCD_X7_append, kIM_X7_append, kSE_X7_append, kIN_X7, by decide +kernel⟩
theorem cal_X7_readInto : CalV yX7_readInto cX7_readInto 4 (Option.some .int) 1 := ⟨kCD_X7_readInto, kIM_X7_readInto, kSE_X7_readInto, kIN_X7, by decide +kernel⟩
theorem cal_X7_peek : CalV yX7_peek cX7_peek 2 (Option.some .int) 1 := ⟨kCD_X7_peek, kIM_X7_peek, kSE_X7_peek, kIN_X7, by decide +kernel⟩
theorem cal_X7_skipBlanks : CalV yX7_skipBlanks cX7_skipBlanks 2 none 0 := ⟨kCD_X7_skipBlanks, kIM_X7_skipBlanks, kSE_X7_skipBlanks, kIN_X7, by decide +kernel⟩
theorem cal_X7_readWord : CalV yX7_readWord cX7_readWord 3 (Option.some .int) 0 := ⟨kCD_X7_readWord, kIM_X7_readWord, kSE_X7_readWord, kIN_X7, by decide +kernel⟩
theorem cal_X7_isSpelled : CalV yX7_isSpelled cX7_isSpelled 4 (Option.some .boolean) 2 := ⟨kCD_X7_isSpelled, kIM_X7_isSpelled, kSE_X7_isSpelled, kIN_X7, by decide +kernel⟩
theorem cal_X7_readNumbers : CalV yX7_readNumbers cX7_readNumbers 7 (Option.some .boolean) 1 := ⟨kCD_X7_readNumbers, kIM_X7_readNumbers, kSE_X7_readNumbers, kIN_X7, by decide +kernel⟩
theorem cal_X7_readNumber : CalV yX7_readNumber cX7_readNumber 6 (Option.some .int) 2 := ⟨kCD_X7_readNumber, kIM_X7_readNumber, kSE_X7_readNumber, kIN_X7, by decide +kernel⟩
theorem cal_X7_isEndOfHours : CalS yX7_isEndOfHours cX7_isEndOfHours 2 (Option.some .boolean) 2 := ⟨kCD_X7_isEndOfHours, kST_X7_isEndOfHours, kIN_X7, by decide +kernel⟩
theorem cal_X7_isLetter : CalS yX7_isLetter cX7_isLetter 1 (Option.some .boolean) 1 := ⟨kCD_X7_isLetter, kST_X7_isLetter, kIN_X7, by decide +kernel⟩
theorem cal_X7_isDigit : CalS yX7_isDigit cX7_isDigit 1 (Option.some .boolean) 1 := ⟨kCD_X7_isDigit, kST_X7_isDigit, kIN_X7, by decide +kernel⟩
theorem cal_X7_nameOf : CalS yX7_nameOf cX7_nameOf 1 (Option.some (.object "java/lang/String")) 1 := ⟨kCD_X7_nameOf, kST_X7_nameOf, kIN_X7, by decide +kernel⟩
theorem cal_X8_write : CalV yX8_write cX8_write 4 (Option.some .int) 2 := ⟨kCD_X8_write, kIM_X8_write, kSE_X8_write, kIN_X8, by decide +kernel⟩
theorem cal_X8_erase : CalV yX8_erase cX8_erase 2 (Option.some .int) 0 := ⟨kCD_X8_erase, kIM_X8_erase, kSE_X8_erase, kIN_X8, by decide +kernel⟩
theorem cal_X8_fault : CalV yX8_fault cX8_fault 1 (Option.some .int) 0 := ⟨kCD_X8_fault, kIM_X8_fault, kSE_X8_fault, kIN_X8, by decide +kernel⟩
theorem cal_X8_cliff : CalV yX8_cliff cX8_cliff 1 (Option.some .int) 0 := ⟨kCD_X8_cliff, kIM_X8_cliff, kSE_X8_cliff, kIN_X8, by decide +kernel⟩
theorem cal_X8_wind : CalV yX8_wind cX8_wind 4 (Option.some .int) 3 := ⟨kCD_X8_wind, kIM_X8_wind, kSE_X8_wind, kIN_X8, by decide +kernel⟩
theorem cal_X8_shoal : CalV yX8_shoal cX8_shoal 3 (Option.some .int) 2 := ⟨kCD_X8_shoal, kIM_X8_shoal, kSE_X8_shoal, kIN_X8, by decide +kernel⟩
theorem cal_X8_ask : CalV yX8_ask cX8_ask 4 (Option.some .int) 2 := ⟨kCD_X8_ask, kIM_X8_ask, kSE_X8_ask, kIN_X8, by decide +kernel⟩
theorem cal_X8_go : CalV yX8_go cX8_go 2 (Option.some .int) 1 := ⟨kCD_X8_go, kIM_X8_go, kSE_X8_go, kIN_X8, by decide +kernel⟩
theorem cal_X8_kite : CalV yX8_kite cX8_kite 3 (Option.some .int) 2 := ⟨kCD_X8_kite, kIM_X8_kite, kSE_X8_kite, kIN_X8, by decide +kernel⟩
theorem cal_X8_where : CalV yX8_where cX8_where 4 (Option.some .int) 3 := ⟨kCD_X8_where, kIM_X8_where, kSE_X8_where, kIN_X8, by decide +kernel⟩
theorem cal_X8_hinders : CalV yX8_hinders cX8_hinders 4 (Option.some .int) 3 := ⟨kCD_X8_hinders, kIM_X8_hinders, kSE_X8_hinders, kIN_X8, by decide +kernel⟩
theorem cal_X8_tangle : CalV yX8_tangle cX8_tangle 5 (Option.some .int) 4 := ⟨kCD_X8_tangle, kIM_X8_tangle, kSE_X8_tangle, kIN_X8, by decide +kernel⟩
theorem cal_X8_taking : CalV yX8_taking cX8_taking 4 (Option.some .int) 2 := ⟨kCD_X8_taking, kIM_X8_taking, kSE_X8_taking, kIN_X8, by decide +kernel⟩
theorem cal_X8_keep : CalV yX8_keep cX8_keep 2 (Option.some .int) 1 := ⟨kCD_X8_keep, kIM_X8_keep, kSE_X8_keep, kIN_X8, by decide +kernel⟩
theorem cal_X8_back : CalV yX8_back cX8_back 2 (Option.some .int) 1 := ⟨kCD_X8_back, kIM_X8_back, kSE_X8_back, kIN_X8, by decide +kernel⟩
theorem cal_X8_best : CalV yX8_best cX8_best 2 (Option.some .int) 1 := ⟨kCD_X8_best, kIM_X8_best, kSE_X8_best, kIN_X8, by decide +kernel⟩
theorem cal_X8_allDay : CalV yX8_allDay cX8_allDay 2 (Option.some .int) 1 := ⟨kCD_X8_allDay, kIM_X8_allDay, kSE_X8_allDay, kIN_X8, by decide +kernel⟩
theorem cal_X8_laws : CalV yX8_laws cX8_laws 6 (Option.some .int) 1 := ⟨kCD_X8_laws, kIM_X8_laws, kSE_X8_laws, kIN_X8, by decide +kernel⟩
theorem cal_X8_food : CalV yX8_food cX8_food 7 (Option.some .long) 6 := ⟨kCD_X8_food, kIM_X8_food, kSE_X8_food, kIN_X8, by decide +kernel⟩
theorem cal_X8_cut : CalV yX8_cut cX8_cut 9 (Option.some .long) 5 := ⟨kCD_X8_cut, kIM_X8_cut, kSE_X8_cut, kIN_X8, by decide +kernel⟩
theorem cal_X8_share : CalV yX8_share cX8_share 3 (Option.some .int) 2 := ⟨kCD_X8_share, kIM_X8_share, kSE_X8_share, kIN_X8, by decide +kernel⟩
theorem cal_X8_count : CalV yX8_count cX8_count 2 (Option.some .int) 1 := ⟨kCD_X8_count, kIM_X8_count, kSE_X8_count, kIN_X8, by decide +kernel⟩
theorem cal_X8_caughtAllDayBy : CalV yX8_caughtAllDayBy cX8_caughtAllDayBy 3 (Option.some .int) 1 := ⟨kCD_X8_caughtAllDayBy, kIM_X8_caughtAllDayBy, kSE_X8_caughtAllDayBy, kIN_X8, by decide +kernel⟩
theorem cal_X8_isPlace : CalV yX8_isPlace cX8_isPlace 4 (Option.some .boolean) 3 := ⟨kCD_X8_isPlace, kIM_X8_isPlace, kSE_X8_isPlace, kIN_X8, by decide +kernel⟩
theorem cal_X8_isHeight : CalS yX8_isHeight cX8_isHeight 1 (Option.some .boolean) 1 := ⟨kCD_X8_isHeight, kST_X8_isHeight, kIN_X8, by decide +kernel⟩
theorem cal_X8_isHour : CalS yX8_isHour cX8_isHour 1 (Option.some .boolean) 1 := ⟨kCD_X8_isHour, kST_X8_isHour, kIN_X8, by decide +kernel⟩
theorem cal_X8_isIn : CalS yX8_isIn cX8_isIn 2 (Option.some .boolean) 2 := ⟨kCD_X8_isIn, kST_X8_isIn, kIN_X8, by decide +kernel⟩
theorem cal_X8_tenToThe : CalS yX8_tenToThe cX8_tenToThe 4 (Option.some .long) 1 := ⟨kCD_X8_tenToThe, kST_X8_tenToThe, kIN_X8, by decide +kernel⟩
theorem cal_X8_lowestTerm : CalS yX8_lowestTerm cX8_lowestTerm 12 (Option.some .long) 3 := ⟨kCD_X8_lowestTerm, kST_X8_lowestTerm, kIN_X8, by decide +kernel⟩
theorem cal_X9_in : CalS yX9_in cX9_in 3 (Option.some .boolean) 3 := ⟨kCD_X9_in, kST_X9_in, kIN_X9, by decide +kernel⟩
theorem cal_X9_has : CalS yX9_has cX9_has 2 (Option.some .boolean) 2 := ⟨kCD_X9_has, kST_X9_has, kIN_X9, by decide +kernel⟩
theorem cal_X9_isKite : CalV yX9_isKite cX9_isKite 2 (Option.some .boolean) 1 := ⟨kCD_X9_isKite, kIM_X9_isKite, kSE_X9_isKite, kIN_X9, by decide +kernel⟩
theorem cal_X9_isHeight : CalS yX9_isHeight cX9_isHeight 1 (Option.some .boolean) 1 := ⟨kCD_X9_isHeight, kST_X9_isHeight, kIN_X9, by decide +kernel⟩
theorem cal_X9_isHour : CalS yX9_isHour cX9_isHour 1 (Option.some .boolean) 1 := ⟨kCD_X9_isHour, kST_X9_isHour, kIN_X9, by decide +kernel⟩
theorem cal_X9_write : CalV yX9_write cX9_write 5 (Option.some .int) 2 := ⟨kCD_X9_write, kIM_X9_write, kSE_X9_write, kIN_X9, by decide +kernel⟩
theorem cal_X9_erase : CalV yX9_erase cX9_erase 2 (Option.some .int) 0 := ⟨kCD_X9_erase, kIM_X9_erase, kSE_X9_erase, kIN_X9, by decide +kernel⟩
theorem cal_X9_nextToken : CalV yX9_nextToken cX9_nextToken 1 none 0 := ⟨kCD_X9_nextToken, kIM_X9_nextToken, kSE_X9_nextToken, kIN_X9, by decide +kernel⟩
theorem cal_X9_fails : CalV yX9_fails cX9_fails 1 (Option.some .boolean) 0 := ⟨kCD_X9_fails, kIM_X9_fails, kSE_X9_fails, kIN_X9, by decide +kernel⟩
theorem cal_X9_isNumber : CalV yX9_isNumber cX9_isNumber 4 (Option.some .boolean) 3 := ⟨kCD_X9_isNumber, kIM_X9_isNumber, kSE_X9_isNumber, kIN_X9, by decide +kernel⟩
theorem cal_X9_areHours : CalV yX9_areHours cX9_areHours 2 (Option.some .boolean) 1 := ⟨kCD_X9_areHours, kIM_X9_areHours, kSE_X9_areHours, kIN_X9, by decide +kernel⟩
theorem cal_X9_isKiteLine : CalV yX9_isKiteLine cX9_isKiteLine 2 (Option.some .boolean) 1 := ⟨kCD_X9_isKiteLine, kIM_X9_isKiteLine, kSE_X9_isKiteLine, kIN_X9, by decide +kernel⟩
theorem cal_X9_isShoalLine : CalV yX9_isShoalLine cX9_isShoalLine 2 (Option.some .boolean) 1 := ⟨kCD_X9_isShoalLine, kIM_X9_isShoalLine, kSE_X9_isShoalLine, kIN_X9, by decide +kernel⟩
theorem cal_X9_isLine : CalV yX9_isLine cX9_isLine 4 (Option.some .boolean) 1 := ⟨kCD_X9_isLine, kIM_X9_isLine, kSE_X9_isLine, kIN_X9, by decide +kernel⟩
theorem cal_X9_isRead : CalV yX9_isRead cX9_isRead 2 (Option.some .boolean) 0 := ⟨kCD_X9_isRead, kIM_X9_isRead, kSE_X9_isRead, kIN_X9, by decide +kernel⟩
theorem cal_X9_fault : CalV yX9_fault cX9_fault 1 (Option.some .int) 0 := ⟨kCD_X9_fault, kIM_X9_fault, kSE_X9_fault, kIN_X9, by decide +kernel⟩
theorem cal_X9_putWind : CalV yX9_putWind cX9_putWind 7 none 5 := ⟨kCD_X9_putWind, kIM_X9_putWind, kSE_X9_putWind, kIN_X9, by decide +kernel⟩
theorem cal_X9_calm : CalV yX9_calm cX9_calm 2 none 0 := ⟨kCD_X9_calm, kIM_X9_calm, kSE_X9_calm, kIN_X9, by decide +kernel⟩
theorem cal_X9_doLine : CalV yX9_doLine cX9_doLine 4 none 1 := ⟨kCD_X9_doLine, kIM_X9_doLine, kSE_X9_doLine, kIN_X9, by decide +kernel⟩
theorem cal_X9_anew : CalV yX9_anew cX9_anew 2 none 0 := ⟨kCD_X9_anew, kIM_X9_anew, kSE_X9_anew, kIN_X9, by decide +kernel⟩
theorem cal_X9_begin : CalV yX9_begin cX9_begin 2 none 0 := ⟨kCD_X9_begin, kIM_X9_begin, kSE_X9_begin, kIN_X9, by decide +kernel⟩
theorem cal_X9_cliff : CalV yX9_cliff cX9_cliff 2 (Option.some .int) 0 := ⟨kCD_X9_cliff, kIM_X9_cliff, kSE_X9_cliff, kIN_X9, by decide +kernel⟩
theorem cal_X9_wind : CalV yX9_wind cX9_wind 4 (Option.some .int) 3 := ⟨kCD_X9_wind, kIM_X9_wind, kSE_X9_wind, kIN_X9, by decide +kernel⟩
theorem cal_X9_shoal : CalV yX9_shoal cX9_shoal 3 (Option.some .int) 2 := ⟨kCD_X9_shoal, kIM_X9_shoal, kSE_X9_shoal, kIN_X9, by decide +kernel⟩
theorem cal_X9_ask : CalV yX9_ask cX9_ask 4 (Option.some .int) 2 := ⟨kCD_X9_ask, kIM_X9_ask, kSE_X9_ask, kIN_X9, by decide +kernel⟩
theorem cal_X9_xOf : CalV yX9_xOf cX9_xOf 4 (Option.some .int) 3 := ⟨kCD_X9_xOf, kIM_X9_xOf, kSE_X9_xOf, kIN_X9, by decide +kernel⟩
theorem cal_X9_yOf : CalV yX9_yOf cX9_yOf 3 (Option.some .int) 2 := ⟨kCD_X9_yOf, kIM_X9_yOf, kSE_X9_yOf, kIN_X9, by decide +kernel⟩
theorem cal_X9_isInSea : CalV yX9_isInSea cX9_isInSea 4 (Option.some .boolean) 3 := ⟨kCD_X9_isInSea, kIM_X9_isInSea, kSE_X9_isInSea, kIN_X9, by decide +kernel⟩
theorem cal_X9_hasLift : CalV yX9_hasLift cX9_hasLift 4 (Option.some .boolean) 3 := ⟨kCD_X9_hasLift, kIM_X9_hasLift, kSE_X9_hasLift, kIN_X9, by decide +kernel⟩
theorem cal_X9_doTangle : CalV yX9_doTangle cX9_doTangle 7 (Option.some .boolean) 4 := ⟨kCD_X9_doTangle, kIM_X9_doTangle, kSE_X9_doTangle, kIN_X9, by decide +kernel⟩
theorem cal_X9_givesWay : CalV yX9_givesWay cX9_givesWay 4 (Option.some .int) 2 := ⟨kCD_X9_givesWay, kIM_X9_givesWay, kSE_X9_givesWay, kIN_X9, by decide +kernel⟩
theorem cal_X9_findUp : CalV yX9_findUp cX9_findUp 7 none 1 := ⟨kCD_X9_findUp, kIM_X9_findUp, kSE_X9_findUp, kIN_X9, by decide +kernel⟩
theorem cal_X9_take : CalV yX9_take cX9_take 9 none 2 := ⟨kCD_X9_take, kIM_X9_take, kSE_X9_take, kIN_X9, by decide +kernel⟩
theorem cal_X9_goHour : CalV yX9_goHour cX9_goHour 3 none 0 := ⟨kCD_X9_goHour, kIM_X9_goHour, kSE_X9_goHour, kIN_X9, by decide +kernel⟩
theorem cal_X9_go : CalV yX9_go cX9_go 3 (Option.some .int) 1 := ⟨kCD_X9_go, kIM_X9_go, kSE_X9_go, kIN_X9, by decide +kernel⟩
theorem cal_X9_kite : CalV yX9_kite cX9_kite 3 (Option.some .int) 2 := ⟨kCD_X9_kite, kIM_X9_kite, kSE_X9_kite, kIN_X9, by decide +kernel⟩
theorem cal_X9_where : CalV yX9_where cX9_where 4 (Option.some .int) 3 := ⟨kCD_X9_where, kIM_X9_where, kSE_X9_where, kIN_X9, by decide +kernel⟩
theorem cal_X9_hinders : CalV yX9_hinders cX9_hinders 4 (Option.some .int) 3 := ⟨kCD_X9_hinders, kIM_X9_hinders, kSE_X9_hinders, kIN_X9, by decide +kernel⟩
theorem cal_X9_tangle : CalV yX9_tangle cX9_tangle 5 (Option.some .int) 4 := ⟨kCD_X9_tangle, kIM_X9_tangle, kSE_X9_tangle, kIN_X9, by decide +kernel⟩
theorem cal_X9_taking : CalV yX9_taking cX9_taking 3 (Option.some .int) 2 := ⟨kCD_X9_taking, kIM_X9_taking, kSE_X9_taking, kIN_X9, by decide +kernel⟩
theorem cal_X9_copy : CalS yX9_copy cX9_copy 5 none 4 := ⟨kCD_X9_copy, kST_X9_copy, kIN_X9, by decide +kernel⟩
theorem cal_X9_keep : CalV yX9_keep cX9_keep 2 (Option.some .int) 1 := ⟨kCD_X9_keep, kIM_X9_keep, kSE_X9_keep, kIN_X9, by decide +kernel⟩
theorem cal_X9_back : CalV yX9_back cX9_back 2 (Option.some .int) 1 := ⟨kCD_X9_back, kIM_X9_back, kSE_X9_back, kIN_X9, by decide +kernel⟩
theorem cal_X9_caught : CalV yX9_caught cX9_caught 3 (Option.some .int) 0 := ⟨kCD_X9_caught, kIM_X9_caught, kSE_X9_caught, kIN_X9, by decide +kernel⟩
theorem cal_X9_toldMany : CalV yX9_toldMany cX9_toldMany 3 (Option.some .int) 0 := ⟨kCD_X9_toldMany, kIM_X9_toldMany, kSE_X9_toldMany, kIN_X9, by decide +kernel⟩
theorem cal_X9_askAll : CalV yX9_askAll cX9_askAll 4 none 1 := ⟨kCD_X9_askAll, kIM_X9_askAll, kSE_X9_askAll, kIN_X9, by decide +kernel⟩
theorem cal_X9_bestOf : CalV yX9_bestOf cX9_bestOf 7 (Option.some .int) 1 := ⟨kCD_X9_bestOf, kIM_X9_bestOf, kSE_X9_bestOf, kIN_X9, by decide +kernel⟩
theorem cal_X9_copyState : CalV yX9_copyState cX9_copyState 2 none 0 := ⟨kCD_X9_copyState, kIM_X9_copyState, kSE_X9_copyState, kIN_X9, by decide +kernel⟩
theorem cal_X9_heightIn : CalV yX9_heightIn cX9_heightIn 5 (Option.some .int) 2 := ⟨kCD_X9_heightIn, kIM_X9_heightIn, kSE_X9_heightIn, kIN_X9, by decide +kernel⟩
theorem cal_X9_best : CalV yX9_best cX9_best 3 (Option.some .int) 1 := ⟨kCD_X9_best, kIM_X9_best, kSE_X9_best, kIN_X9, by decide +kernel⟩
theorem cal_X9_allDay : CalV yX9_allDay cX9_allDay 3 (Option.some .int) 1 := ⟨kCD_X9_allDay, kIM_X9_allDay, kSE_X9_allDay, kIN_X9, by decide +kernel⟩
theorem cal_X9_laws : CalV yX9_laws cX9_laws 6 (Option.some .int) 1 := ⟨kCD_X9_laws, kIM_X9_laws, kSE_X9_laws, kIN_X9, by decide +kernel⟩
theorem cal_X9_part : CalS yX9_part cX9_part 11 (Option.some .long) 3 := ⟨kCD_X9_part, kST_X9_part, kIN_X9, by decide +kernel⟩
theorem cal_X9_food : CalV yX9_food cX9_food 17 (Option.some .long) 6 := ⟨kCD_X9_food, kIM_X9_food, kSE_X9_food, kIN_X9, by decide +kernel⟩
theorem cal_X9_cut : CalV yX9_cut cX9_cut 17 (Option.some .long) 5 := ⟨kCD_X9_cut, kIM_X9_cut, kSE_X9_cut, kIN_X9, by decide +kernel⟩
theorem cal_X9_share : CalV yX9_share cX9_share 10 (Option.some .int) 2 := ⟨kCD_X9_share, kIM_X9_share, kSE_X9_share, kIN_X9, by decide +kernel⟩
theorem cal_X9_count : CalV yX9_count cX9_count 2 (Option.some .int) 1 := ⟨kCD_X9_count, kIM_X9_count, kSE_X9_count, kIN_X9, by decide +kernel⟩
theorem cal_J9_max_7cf53 : CalS yJ9_max_7cf53 cJ9_max_7cf53 2 (Option.some .int) 2 := ⟨kCD_J9_max_7cf53, kST_J9_max_7cf53, kIN_J9, by decide +kernel⟩
theorem cal_J9_min_7cf53 : CalS yJ9_min_7cf53 cJ9_min_7cf53 2 (Option.some .int) 2 := ⟨kCD_J9_min_7cf53, kST_J9_min_7cf53, kIN_J9, by decide +kernel⟩
theorem cal_J0_length_8abf5 : CalV yJ0_length_8abf5 cJ0_length_8abf5 1 (Option.some .int) 0 := ⟨kCD_J0_length_8abf5, kIM_J0_length_8abf5, kSE_J0_length_8abf5, kIN_J0, by decide +kernel⟩
theorem cal_J0_charAt_5068e : CalV yJ0_charAt_5068e cJ0_charAt_5068e 2 (Option.some .char) 1 := ⟨kCD_J0_charAt_5068e, kIM_J0_charAt_5068e, kSE_J0_charAt_5068e, kIN_J0, by decide +kernel⟩
theorem cal_J0_coder_7d493 : CalV yJ0_coder_7d493 cJ0_coder_7d493 1 (Option.some .byte) 0 := ⟨kCD_J0_coder_7d493, kIM_J0_coder_7d493, kSE_J0_coder_7d493, kIN_J0, by decide +kernel⟩
theorem cal_J0_isLatin1_aae02 : CalV yJ0_isLatin1_aae02 cJ0_isLatin1_aae02 1 (Option.some .boolean) 0 := ⟨kCD_J0_isLatin1_aae02, kIM_J0_isLatin1_aae02, kSE_J0_isLatin1_aae02, kIN_J0, by decide +kernel⟩
theorem cal_J0_checkIndex_df160 : CalS yJ0_checkIndex_df160 cJ0_checkIndex_df160 2 none 2 := ⟨kCD_J0_checkIndex_df160, kST_J0_checkIndex_df160, kIN_J0, by decide +kernel⟩
theorem cal_J1_charAt_3b067 : CalS yJ1_charAt_3b067 cJ1_charAt_3b067 2 (Option.some .char) 2 := ⟨kCD_J1_charAt_3b067, kST_J1_charAt_3b067, kIN_J1, by decide +kernel⟩
theorem cal_J2_getChar_3b067 : CalS yJ2_getChar_3b067 cJ2_getChar_3b067 2 (Option.some .char) 2 := ⟨kCD_J2_getChar_3b067, kST_J2_getChar_3b067, kIN_J2, by decide +kernel⟩
theorem cal_J2_length_9d52b : CalS yJ2_length_9d52b cJ2_length_9d52b 1 (Option.some .int) 1 := ⟨kCD_J2_length_9d52b, kST_J2_length_9d52b, kIN_J2, by decide +kernel⟩
theorem cal_J2_charAt_3b067 : CalS yJ2_charAt_3b067 cJ2_charAt_3b067 2 (Option.some .char) 2 := ⟨kCD_J2_charAt_3b067, kST_J2_charAt_3b067, kIN_J2, by decide +kernel⟩
theorem cal_J2_checkIndex_2214a : CalS yJ2_checkIndex_2214a cJ2_checkIndex_2214a 2 none 2 := ⟨kCD_J2_checkIndex_2214a, kST_J2_checkIndex_2214a, kIN_J2, by decide +kernel⟩
theorem cal_J7_fill_d0a16 : CalS yJ7_fill_d0a16 cJ7_fill_d0a16 5 none 2 := ⟨kCD_J7_fill_d0a16, kST_J7_fill_d0a16, kIN_J7, by decide +kernel⟩
theorem cal_J7_fill_53178 : CalS yJ7_fill_53178 cJ7_fill_53178 4 none 2 := ⟨kCD_J7_fill_53178, kST_J7_fill_53178, kIN_J7, by decide +kernel⟩
theorem cal_J3_checkIndex_8e157 : CalS yJ3_checkIndex_8e157 cJ3_checkIndex_8e157 3 (Option.some .int) 3 := ⟨kCD_J3_checkIndex_8e157, kST_J3_checkIndex_8e157, kIN_J3, by decide +kernel⟩
end
