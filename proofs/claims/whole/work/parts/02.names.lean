def RX0 : String := "GrainPit$Day"
def TX0 : u_T := fun k => match k with
  | 0 => ("GrainPit$Day", "settles", "[LGrainPit$Settle;", true)
  | 1 => ("GrainPit$Day", "positions", "[I", true)
  | _ => ("GrainPit$Day", "balances", "[J", true)
def tyX0 : Nat → FieldType := fun k => match k with
  | 0 => .array (.object "GrainPit$Settle")
  | 1 => .array .int
  | _ => .array .long
abbrev wsX00 : List Cond := u_ws RX0 TX0 3
theorem nmX0 : ∀ a, a < 3 → ∀ b, b < 3 → a ≠ b → (TX0 a).2.1 ≠ (TX0 b).2.1 := by decide +kernel
theorem tyX0_ok : ∀ k, k < 3 → parseFieldDescriptor (TX0 k).2.2.1 = some (tyX0 k) := by decide +kernel
abbrev cX0_init : ByteArray := prog_2_method_1_code
def yX0_init : MethodName := ⟨RX0, "<init>", "(I)V"⟩
def RX1 : String := "GrainPit$Member"
def TX1 : u_T := fun k => match k with
  | 0 => ("GrainPit$Member", "positions", "[I", true)
  | 1 => ("GrainPit$Member", "cost", "J", false)
  | 2 => ("GrainPit$Member", "paid", "J", false)
  | 3 => ("GrainPit$Member", "called", "Z", false)
  | _ => ("GrainPit$Member", "failed", "Z", false)
def tyX1 : Nat → FieldType := fun k => match k with
  | 0 => .array .int
  | 1 => .long
  | 2 => .long
  | 3 => .boolean
  | _ => .boolean
abbrev wsX10 : List Cond := u_ws RX1 TX1 5
theorem nmX1 : ∀ a, a < 5 → ∀ b, b < 5 → a ≠ b → (TX1 a).2.1 ≠ (TX1 b).2.1 := by decide +kernel
theorem tyX1_ok : ∀ k, k < 5 → parseFieldDescriptor (TX1 k).2.2.1 = some (tyX1 k) := by decide +kernel
abbrev cX1_init : ByteArray := prog_3_method_1_code
def yX1_init : MethodName := ⟨RX1, "<init>", "()V"⟩
abbrev cX1_gain : ByteArray := prog_3_method_2_code
def yX1_gain : MethodName := ⟨RX1, "gain", "(III)V"⟩
def RX2 : String := "GrainPit$Month"
def TX2 : u_T := fun k => match k with
  | 0 => ("GrainPit$Month", "bids", "Ljava/util/ArrayList;", true)
  | 1 => ("GrainPit$Month", "offers", "Ljava/util/ArrayList;", true)
  | 2 => ("GrainPit$Month", "longs", "Ljava/util/ArrayList;", true)
  | _ => ("GrainPit$Month", "closed", "Z", false)
def tyX2 : Nat → FieldType := fun k => match k with
  | 0 => .object "java/util/ArrayList"
  | 1 => .object "java/util/ArrayList"
  | 2 => .object "java/util/ArrayList"
  | _ => .boolean
abbrev wsX20 : List Cond := u_ws RX2 TX2 4
theorem nmX2 : ∀ a, a < 4 → ∀ b, b < 4 → a ≠ b → (TX2 a).2.1 ≠ (TX2 b).2.1 := by decide +kernel
theorem tyX2_ok : ∀ k, k < 4 → parseFieldDescriptor (TX2 k).2.2.1 = some (tyX2 k) := by decide +kernel
abbrev cX2_init : ByteArray := prog_4_method_1_code
def yX2_init : MethodName := ⟨RX2, "<init>", "()V"⟩
abbrev cX2_side : ByteArray := prog_4_method_2_code
def yX2_side : MethodName := ⟨RX2, "side", "(Z)Ljava/util/ArrayList;"⟩
abbrev cX2_queue : ByteArray := prog_4_method_3_code
def yX2_queue : MethodName := ⟨RX2, "queue", "(ZLGrainPit$Stake;)V"⟩
abbrev cX2_isBetter : ByteArray := prog_4_method_4_code
def yX2_isBetter : MethodName := ⟨RX2, "isBetter", "(ZII)Z"⟩
abbrev cX2_lotsWaiting : ByteArray := prog_4_method_5_code
def yX2_lotsWaiting : MethodName := ⟨RX2, "lotsWaiting", "(ZI)I"⟩
abbrev cX2_dropAll : ByteArray := prog_4_method_6_code
def yX2_dropAll : MethodName := ⟨RX2, "dropAll", "()V"⟩
abbrev cX2_dropLatest : ByteArray := prog_4_method_7_code
def yX2_dropLatest : MethodName := ⟨RX2, "dropLatest", "(I)I"⟩
abbrev cX2_numberAt : ByteArray := prog_4_method_8_code
def yX2_numberAt : MethodName := ⟨RX2, "numberAt", "(Ljava/util/ArrayList;I)I"⟩
abbrev cX2_latestOf : ByteArray := prog_4_method_9_code
def yX2_latestOf : MethodName := ⟨RX2, "latestOf", "(Ljava/util/ArrayList;I)I"⟩
abbrev cX2_takeLongs : ByteArray := prog_4_method_10_code
def yX2_takeLongs : MethodName := ⟨RX2, "takeLongs", "(II)V"⟩
abbrev cX2_firstLongOf : ByteArray := prog_4_method_11_code
def yX2_firstLongOf : MethodName := ⟨RX2, "firstLongOf", "(I)I"⟩
def RX3 : String := "GrainPit$Notice"
def TX3 : u_T := fun k => match k with
  | 0 => ("GrainPit$Notice", "giver", "I", true)
  | 1 => ("GrainPit$Notice", "month", "I", true)
  | 2 => ("GrainPit$Notice", "receipt", "I", true)
  | 3 => ("GrainPit$Notice", "holder", "I", false)
  | 4 => ("GrainPit$Notice", "passed", "I", false)
  | 5 => ("GrainPit$Notice", "state", "I", false)
  | _ => ("GrainPit$Notice", "had", "I", false)
def tyX3 : Nat → FieldType := fun k => match k with
  | 0 => .int
  | 1 => .int
  | 2 => .int
  | 3 => .int
  | 4 => .int
  | 5 => .int
  | _ => .int
abbrev wsX30 : List Cond := u_ws RX3 TX3 7
theorem nmX3 : ∀ a, a < 7 → ∀ b, b < 7 → a ≠ b → (TX3 a).2.1 ≠ (TX3 b).2.1 := by decide +kernel
theorem tyX3_ok : ∀ k, k < 7 → parseFieldDescriptor (TX3 k).2.2.1 = some (tyX3 k) := by decide +kernel
abbrev cX3_init : ByteArray := prog_5_method_1_code
def yX3_init : MethodName := ⟨RX3, "<init>", "(IIII)V"⟩
abbrev cX3_wasWith : ByteArray := prog_5_method_2_code
def yX3_wasWith : MethodName := ⟨RX3, "wasWith", "(I)Z"⟩
abbrev cX3_handTo : ByteArray := prog_5_method_3_code
def yX3_handTo : MethodName := ⟨RX3, "handTo", "(I)V"⟩
def RX4 : String := "GrainPit$Reader"
def TX4 : u_T := fun k => match k with
  | 0 => ("GrainPit$Reader", "tape", "[C", true)
  | 1 => ("GrainPit$Reader", "length", "I", false)
  | 2 => ("GrainPit$Reader", "faultNumber", "I", false)
  | 3 => ("GrainPit$Reader", "faultPlace", "I", false)
  | 4 => ("GrainPit$Reader", "at", "I", false)
  | 5 => ("GrainPit$Reader", "place", "I", false)
  | 6 => ("GrainPit$Reader", "kind", "I", false)
  | 7 => ("GrainPit$Reader", "number", "I", false)
  | 8 => ("GrainPit$Reader", "tokens", "I", false)
  | 9 => ("GrainPit$Reader", "code", "[I", true)
  | _ => ("GrainPit$Reader", "codeLength", "I", false)
def tyX4 : Nat → FieldType := fun k => match k with
  | 0 => .array .char
  | 1 => .int
  | 2 => .int
  | 3 => .int
  | 4 => .int
  | 5 => .int
  | 6 => .int
  | 7 => .int
  | 8 => .int
  | 9 => .array .int
  | _ => .int
abbrev wsX40 : List Cond := u_ws RX4 TX4 11
theorem nmX4 : ∀ a, a < 11 → ∀ b, b < 11 → a ≠ b → (TX4 a).2.1 ≠ (TX4 b).2.1 := by decide +kernel
theorem tyX4_ok : ∀ k, k < 11 → parseFieldDescriptor (TX4 k).2.2.1 = some (tyX4 k) := by decide +kernel
abbrev cX4_init : ByteArray := prog_6_method_1_code
def yX4_init : MethodName := ⟨RX4, "<init>", "()V"⟩
abbrev cX4_hasRoomForFive : ByteArray := prog_6_method_2_code
def yX4_hasRoomForFive : MethodName := ⟨RX4, "hasRoomForFive", "()Z"⟩
abbrev cX4_append : ByteArray := prog_6_method_3_code
def yX4_append : MethodName := ⟨RX4, "append", "(I)V"⟩
abbrev cX4_readText : ByteArray := prog_6_method_4_code
def yX4_readText : MethodName := ⟨RX4, "readText", "(Ljava/util/ArrayList;)I"⟩
abbrev cX4_readRule : ByteArray := prog_6_method_5_code
def yX4_readRule : MethodName := ⟨RX4, "readRule", "(Ljava/util/ArrayList;)V"⟩
abbrev cX4_readExpr : ByteArray := prog_6_method_6_code
def yX4_readExpr : MethodName := ⟨RX4, "readExpr", "(I)V"⟩
abbrev cX4_readCond : ByteArray := prog_6_method_7_code
def yX4_readCond : MethodName := ⟨RX4, "readCond", "(I)V"⟩
abbrev cX4_readSum : ByteArray := prog_6_method_8_code
def yX4_readSum : MethodName := ⟨RX4, "readSum", "(I)V"⟩
abbrev cX4_readPart : ByteArray := prog_6_method_9_code
def yX4_readPart : MethodName := ⟨RX4, "readPart", "(I)V"⟩
abbrev cX4_readFactor : ByteArray := prog_6_method_10_code
def yX4_readFactor : MethodName := ⟨RX4, "readFactor", "(I)V"⟩
abbrev cX4_readBracket : ByteArray := prog_6_method_11_code
def yX4_readBracket : MethodName := ⟨RX4, "readBracket", "(IZ)V"⟩
abbrev cX4_emit : ByteArray := prog_6_method_12_code
def yX4_emit : MethodName := ⟨RX4, "emit", "(I)V"⟩
abbrev cX4_readOnly : ByteArray := prog_6_method_13_code
def yX4_readOnly : MethodName := ⟨RX4, "readOnly", "(I)V"⟩
abbrev cX4_take : ByteArray := prog_6_method_14_code
def yX4_take : MethodName := ⟨RX4, "take", "()V"⟩
abbrev cX4_refuseIf : ByteArray := prog_6_method_15_code
def yX4_refuseIf : MethodName := ⟨RX4, "refuseIf", "(ZI)V"⟩
abbrev cX4_advance : ByteArray := prog_6_method_16_code
def yX4_advance : MethodName := ⟨RX4, "advance", "()V"⟩
abbrev cX4_readNumber : ByteArray := prog_6_method_17_code
def yX4_readNumber : MethodName := ⟨RX4, "readNumber", "()V"⟩
abbrev cX4_wordFrom : ByteArray := prog_6_method_18_code
def yX4_wordFrom : MethodName := ⟨RX4, "wordFrom", "(II)I"⟩
abbrev cX4_isLetter : ByteArray := prog_6_method_19_code
def yX4_isLetter : MethodName := ⟨RX4, "isLetter", "(I)Z"⟩
abbrev cX4_isDigit : ByteArray := prog_6_method_20_code
def yX4_isDigit : MethodName := ⟨RX4, "isDigit", "(I)Z"⟩
def RX5 : String := "GrainPit$Receipt"
def TX5 : u_T := fun k => match k with
  | 0 => ("GrainPit$Receipt", "grade", "I", true)
  | 1 => ("GrainPit$Receipt", "place", "I", true)
  | 2 => ("GrainPit$Receipt", "owner", "I", false)
  | _ => ("GrainPit$Receipt", "free", "Z", false)
def tyX5 : Nat → FieldType := fun k => match k with
  | 0 => .int
  | 1 => .int
  | 2 => .int
  | _ => .boolean
abbrev wsX50 : List Cond := u_ws RX5 TX5 4
theorem nmX5 : ∀ a, a < 4 → ∀ b, b < 4 → a ≠ b → (TX5 a).2.1 ≠ (TX5 b).2.1 := by decide +kernel
theorem tyX5_ok : ∀ k, k < 4 → parseFieldDescriptor (TX5 k).2.2.1 = some (tyX5 k) := by decide +kernel
abbrev cX5_init : ByteArray := prog_7_method_1_code
def yX5_init : MethodName := ⟨RX5, "<init>", "(III)V"⟩
def RX6 : String := "GrainPit$Rule"
def TX6 : u_T := fun k => match k with
  | 0 => ("GrainPit$Rule", "name", "I", true)
  | 1 => ("GrainPit$Rule", "from", "I", true)
  | _ => ("GrainPit$Rule", "code", "[I", true)
def tyX6 : Nat → FieldType := fun k => match k with
  | 0 => .int
  | 1 => .int
  | _ => .array .int
abbrev wsX60 : List Cond := u_ws RX6 TX6 3
theorem nmX6 : ∀ a, a < 3 → ∀ b, b < 3 → a ≠ b → (TX6 a).2.1 ≠ (TX6 b).2.1 := by decide +kernel
theorem tyX6_ok : ∀ k, k < 3 → parseFieldDescriptor (TX6 k).2.2.1 = some (tyX6 k) := by decide +kernel
abbrev cX6_init : ByteArray := prog_8_method_1_code
def yX6_init : MethodName := ⟨RX6, "<init>", "(II[I)V"⟩
def RX7 : String := "GrainPit$Rulebook"
def TX7 : u_T := fun k => match k with
  | 0 => ("GrainPit$Rulebook", "all", "Ljava/util/ArrayList;", true)
  | 1 => ("GrainPit$Rulebook", "words", "[I", true)
  | 2 => ("GrainPit$Rulebook", "stack", "[I", true)
  | _ => ("GrainPit$Rulebook", "depth", "I", false)
def tyX7 : Nat → FieldType := fun k => match k with
  | 0 => .object "java/util/ArrayList"
  | 1 => .array .int
  | 2 => .array .int
  | _ => .int
abbrev wsX70 : List Cond := u_ws RX7 TX7 4
theorem nmX7 : ∀ a, a < 4 → ∀ b, b < 4 → a ≠ b → (TX7 a).2.1 ≠ (TX7 b).2.1 := by decide +kernel
theorem tyX7_ok : ∀ k, k < 4 → parseFieldDescriptor (TX7 k).2.2.1 = some (tyX7 k) := by decide +kernel
abbrev cX7_init : ByteArray := prog_9_method_1_code
def yX7_init : MethodName := ⟨RX7, "<init>", "()V"⟩
abbrev cX7_valueOf : ByteArray := prog_9_method_2_code
def yX7_valueOf : MethodName := ⟨RX7, "valueOf", "(IIIIIII)I"⟩
abbrev cX7_inForce : ByteArray := prog_9_method_3_code
def yX7_inForce : MethodName := ⟨RX7, "inForce", "(II)LGrainPit$Rule;"⟩
abbrev cX7_work : ByteArray := prog_9_method_4_code
def yX7_work : MethodName := ⟨RX7, "work", "([I)I"⟩
abbrev cX7_apply : ByteArray := prog_9_method_5_code
def yX7_apply : MethodName := ⟨RX7, "apply", "(I)V"⟩
abbrev cX7_combine : ByteArray := prog_9_method_6_code
def yX7_combine : MethodName := ⟨RX7, "combine", "(III)I"⟩
abbrev cX7_push : ByteArray := prog_9_method_7_code
def yX7_push : MethodName := ⟨RX7, "push", "(I)V"⟩
abbrev cX7_pop : ByteArray := prog_9_method_8_code
def yX7_pop : MethodName := ⟨RX7, "pop", "()I"⟩
def RX8 : String := "GrainPit$Settle"
def TX8 : u_T := fun k => match k with
  | 0 => ("GrainPit$Settle", "price", "I", true)
  | 1 => ("GrainPit$Settle", "told", "I", true)
  | _ => ("GrainPit$Settle", "before", "LGrainPit$Settle;", true)
def tyX8 : Nat → FieldType := fun k => match k with
  | 0 => .int
  | 1 => .int
  | _ => .object "GrainPit$Settle"
abbrev wsX80 : List Cond := u_ws RX8 TX8 3
theorem nmX8 : ∀ a, a < 3 → ∀ b, b < 3 → a ≠ b → (TX8 a).2.1 ≠ (TX8 b).2.1 := by decide +kernel
theorem tyX8_ok : ∀ k, k < 3 → parseFieldDescriptor (TX8 k).2.2.1 = some (tyX8 k) := by decide +kernel
abbrev cX8_init : ByteArray := prog_10_method_1_code
def yX8_init : MethodName := ⟨RX8, "<init>", "(IILGrainPit$Settle;)V"⟩
def RX9 : String := "GrainPit$Stake"
def TX9 : u_T := fun k => match k with
  | 0 => ("GrainPit$Stake", "member", "I", true)
  | 1 => ("GrainPit$Stake", "price", "I", true)
  | 2 => ("GrainPit$Stake", "number", "I", true)
  | _ => ("GrainPit$Stake", "lots", "I", false)
def tyX9 : Nat → FieldType := fun k => match k with
  | 0 => .int
  | 1 => .int
  | 2 => .int
  | _ => .int
abbrev wsX90 : List Cond := u_ws RX9 TX9 4
theorem nmX9 : ∀ a, a < 4 → ∀ b, b < 4 → a ≠ b → (TX9 a).2.1 ≠ (TX9 b).2.1 := by decide +kernel
theorem tyX9_ok : ∀ k, k < 4 → parseFieldDescriptor (TX9 k).2.2.1 = some (tyX9 k) := by decide +kernel
abbrev cX9_init : ByteArray := prog_11_method_1_code
def yX9_init : MethodName := ⟨RX9, "<init>", "(IIII)V"⟩
def RX10 : String := "GrainPit$Trade"
def TX10 : u_T := fun k => match k with
  | 0 => ("GrainPit$Trade", "month", "I", true)
  | 1 => ("GrainPit$Trade", "price", "I", true)
  | 2 => ("GrainPit$Trade", "lots", "I", true)
  | 3 => ("GrainPit$Trade", "buyer", "I", true)
  | 4 => ("GrainPit$Trade", "seller", "I", true)
  | 5 => ("GrainPit$Trade", "day", "I", true)
  | _ => ("GrainPit$Trade", "struck", "Z", false)
def tyX10 : Nat → FieldType := fun k => match k with
  | 0 => .int
  | 1 => .int
  | 2 => .int
  | 3 => .int
  | 4 => .int
  | 5 => .int
  | _ => .boolean
abbrev wsX100 : List Cond := u_ws RX10 TX10 7
theorem nmX10 : ∀ a, a < 7 → ∀ b, b < 7 → a ≠ b → (TX10 a).2.1 ≠ (TX10 b).2.1 := by decide +kernel
theorem tyX10_ok : ∀ k, k < 7 → parseFieldDescriptor (TX10 k).2.2.1 = some (tyX10 k) := by decide +kernel
abbrev cX10_init : ByteArray := prog_12_method_1_code
def yX10_init : MethodName := ⟨RX10, "<init>", "(IIIIII)V"⟩
def RX11 : String := "GrainPit"
def TX11 : u_T := fun k => match k with
  | 0 => ("GrainPit", "reader", "LGrainPit$Reader;", true)
  | 1 => ("GrainPit", "rulebook", "LGrainPit$Rulebook;", true)
  | 2 => ("GrainPit", "months", "[LGrainPit$Month;", true)
  | 3 => ("GrainPit", "members", "Ljava/util/ArrayList;", true)
  | 4 => ("GrainPit", "trades", "Ljava/util/ArrayList;", true)
  | 5 => ("GrainPit", "receipts", "Ljava/util/ArrayList;", true)
  | 6 => ("GrainPit", "notices", "Ljava/util/ArrayList;", true)
  | 7 => ("GrainPit", "days", "Ljava/util/ArrayList;", true)
  | 8 => ("GrainPit", "today", "I", false)
  | 9 => ("GrainPit", "ordersSoFar", "I", false)
  | _ => ("GrainPit", "rightedSoFar", "I", false)
def tyX11 : Nat → FieldType := fun k => match k with
  | 0 => .object "GrainPit$Reader"
  | 1 => .object "GrainPit$Rulebook"
  | 2 => .array (.object "GrainPit$Month")
  | 3 => .object "java/util/ArrayList"
  | 4 => .object "java/util/ArrayList"
  | 5 => .object "java/util/ArrayList"
  | 6 => .object "java/util/ArrayList"
  | 7 => .object "java/util/ArrayList"
  | 8 => .int
  | 9 => .int
  | _ => .int
abbrev wsX110 : List Cond := u_ws RX11 TX11 11
theorem nmX11 : ∀ a, a < 11 → ∀ b, b < 11 → a ≠ b → (TX11 a).2.1 ≠ (TX11 b).2.1 := by decide +kernel
theorem tyX11_ok : ∀ k, k < 11 → parseFieldDescriptor (TX11 k).2.2.1 = some (tyX11 k) := by decide +kernel
abbrev cX11_init : ByteArray := prog_1_method_1_code
def yX11_init : MethodName := ⟨RX11, "<init>", "()V"⟩
abbrev cX11_feed : ByteArray := prog_1_method_2_code
def yX11_feed : MethodName := ⟨RX11, "feed", "(IIIII)I"⟩
abbrev cX11_end : ByteArray := prog_1_method_3_code
def yX11_end : MethodName := ⟨RX11, "end", "(I)Z"⟩
abbrev cX11_rules : ByteArray := prog_1_method_4_code
def yX11_rules : MethodName := ⟨RX11, "rules", "()I"⟩
abbrev cX11_fault : ByteArray := prog_1_method_5_code
def yX11_fault : MethodName := ⟨RX11, "fault", "(I)I"⟩
abbrev cX11_rule : ByteArray := prog_1_method_6_code
def yX11_rule : MethodName := ⟨RX11, "rule", "(IIIIIII)I"⟩
abbrev cX11_member : ByteArray := prog_1_method_7_code
def yX11_member : MethodName := ⟨RX11, "member", "()I"⟩
abbrev cX11_pay : ByteArray := prog_1_method_8_code
def yX11_pay : MethodName := ⟨RX11, "pay", "(II)J"⟩
abbrev cX11_order : ByteArray := prog_1_method_9_code
def yX11_order : MethodName := ⟨RX11, "order", "(IZIII)I"⟩
abbrev cX11_cancel : ByteArray := prog_1_method_10_code
def yX11_cancel : MethodName := ⟨RX11, "cancel", "(II)I"⟩
abbrev cX11_waiting : ByteArray := prog_1_method_11_code
def yX11_waiting : MethodName := ⟨RX11, "waiting", "(ZIII)I"⟩
abbrev cX11_trade : ByteArray := prog_1_method_12_code
def yX11_trade : MethodName := ⟨RX11, "trade", "(II)I"⟩
abbrev cX11_strike : ByteArray := prog_1_method_13_code
def yX11_strike : MethodName := ⟨RX11, "strike", "(I)Z"⟩
abbrev cX11_night : ByteArray := prog_1_method_14_code
def yX11_night : MethodName := ⟨RX11, "night", "()I"⟩
abbrev cX11_money : ByteArray := prog_1_method_15_code
def yX11_money : MethodName := ⟨RX11, "money", "(II)J"⟩
abbrev cX11_position : ByteArray := prog_1_method_16_code
def yX11_position : MethodName := ⟨RX11, "position", "(II)I"⟩
abbrev cX11_longOf : ByteArray := prog_1_method_17_code
def yX11_longOf : MethodName := ⟨RX11, "longOf", "(III)I"⟩
abbrev cX11_count : ByteArray := prog_1_method_18_code
def yX11_count : MethodName := ⟨RX11, "count", "(I)I"⟩
abbrev cX11_deliver : ByteArray := prog_1_method_19_code
def yX11_deliver : MethodName := ⟨RX11, "deliver", "(I)Z"⟩
abbrev cX11_receipt : ByteArray := prog_1_method_20_code
def yX11_receipt : MethodName := ⟨RX11, "receipt", "(III)I"⟩
abbrev cX11_notice : ByteArray := prog_1_method_21_code
def yX11_notice : MethodName := ⟨RX11, "notice", "(III)I"⟩
abbrev cX11_pass : ByteArray := prog_1_method_22_code
def yX11_pass : MethodName := ⟨RX11, "pass", "(I)I"⟩
abbrev cX11_keep : ByteArray := prog_1_method_23_code
def yX11_keep : MethodName := ⟨RX11, "keep", "(I)I"⟩
abbrev cX11_told : ByteArray := prog_1_method_24_code
def yX11_told : MethodName := ⟨RX11, "told", "(II)I"⟩
abbrev cX11_stored : ByteArray := prog_1_method_25_code
def yX11_stored : MethodName := ⟨RX11, "stored", "(II)I"⟩
abbrev cX11_squeeze : ByteArray := prog_1_method_26_code
def yX11_squeeze : MethodName := ⟨RX11, "squeeze", "(II)I"⟩
abbrev cX11_right : ByteArray := prog_1_method_27_code
def yX11_right : MethodName := ⟨RX11, "right", "(III)Z"⟩
abbrev cX11_settle : ByteArray := prog_1_method_28_code
def yX11_settle : MethodName := ⟨RX11, "settle", "(III)I"⟩
abbrev cX11_equity : ByteArray := prog_1_method_29_code
def yX11_equity : MethodName := ⟨RX11, "equity", "(III)J"⟩
abbrev cX11_isMonth : ByteArray := prog_1_method_30_code
def yX11_isMonth : MethodName := ⟨RX11, "isMonth", "(I)Z"⟩
abbrev cX11_isPrice : ByteArray := prog_1_method_31_code
def yX11_isPrice : MethodName := ⟨RX11, "isPrice", "(I)Z"⟩
abbrev cX11_isOver : ByteArray := prog_1_method_32_code
def yX11_isOver : MethodName := ⟨RX11, "isOver", "(I)Z"⟩
abbrev cX11_isKnown : ByteArray := prog_1_method_33_code
def yX11_isKnown : MethodName := ⟨RX11, "isKnown", "(II)Z"⟩
abbrev cX11_memberOf : ByteArray := prog_1_method_34_code
def yX11_memberOf : MethodName := ⟨RX11, "memberOf", "(I)LGrainPit$Member;"⟩
abbrev cX11_tradeOf : ByteArray := prog_1_method_35_code
def yX11_tradeOf : MethodName := ⟨RX11, "tradeOf", "(I)LGrainPit$Trade;"⟩
abbrev cX11_receiptOf : ByteArray := prog_1_method_36_code
def yX11_receiptOf : MethodName := ⟨RX11, "receiptOf", "(I)LGrainPit$Receipt;"⟩
abbrev cX11_noticeOf : ByteArray := prog_1_method_37_code
def yX11_noticeOf : MethodName := ⟨RX11, "noticeOf", "(I)LGrainPit$Notice;"⟩
abbrev cX11_heldNotice : ByteArray := prog_1_method_38_code
def yX11_heldNotice : MethodName := ⟨RX11, "heldNotice", "(I)LGrainPit$Notice;"⟩
abbrev cX11_inDefault : ByteArray := prog_1_method_39_code
def yX11_inDefault : MethodName := ⟨RX11, "inDefault", "(I)Z"⟩
abbrev cX11_allWaiting : ByteArray := prog_1_method_40_code
def yX11_allWaiting : MethodName := ⟨RX11, "allWaiting", "()I"⟩
abbrev cX11_allHeld : ByteArray := prog_1_method_41_code
def yX11_allHeld : MethodName := ⟨RX11, "allHeld", "()I"⟩
abbrev cX11_latestPrice : ByteArray := prog_1_method_42_code
def yX11_latestPrice : MethodName := ⟨RX11, "latestPrice", "(I)I"⟩
abbrev cX11_priceOn : ByteArray := prog_1_method_43_code
def yX11_priceOn : MethodName := ⟨RX11, "priceOn", "(III)I"⟩
abbrev cX11_worthOf : ByteArray := prog_1_method_44_code
def yX11_worthOf : MethodName := ⟨RX11, "worthOf", "(LGrainPit$Member;)J"⟩
abbrev cX11_needOf : ByteArray := prog_1_method_45_code
def yX11_needOf : MethodName := ⟨RX11, "needOf", "(LGrainPit$Member;I)J"⟩
abbrev cX11_reasonAgainst : ByteArray := prog_1_method_46_code
def yX11_reasonAgainst : MethodName := ⟨RX11, "reasonAgainst", "(IZIII)I"⟩
abbrev cX11_isTooFar : ByteArray := prog_1_method_47_code
def yX11_isTooFar : MethodName := ⟨RX11, "isTooFar", "(II)Z"⟩
abbrev cX11_fill : ByteArray := prog_1_method_48_code
def yX11_fill : MethodName := ⟨RX11, "fill", "(IZIII)I"⟩
abbrev cX11_exchange : ByteArray := prog_1_method_49_code
def yX11_exchange : MethodName := ⟨RX11, "exchange", "(IIIII)V"⟩
abbrev cX11_endPrice : ByteArray := prog_1_method_50_code
def yX11_endPrice : MethodName := ⟨RX11, "endPrice", "(I)I"⟩
abbrev cX11_fallsTonight : ByteArray := prog_1_method_51_code
def yX11_fallsTonight : MethodName := ⟨RX11, "fallsTonight", "(LGrainPit$Member;)Z"⟩
abbrev cX11_closeOut : ByteArray := prog_1_method_52_code
def yX11_closeOut : MethodName := ⟨RX11, "closeOut", "(I)V"⟩
abbrev cX11_nextOpposite : ByteArray := prog_1_method_53_code
def yX11_nextOpposite : MethodName := ⟨RX11, "nextOpposite", "(IIZ)I"⟩
abbrev cX11_rememberMembers : ByteArray := prog_1_method_54_code
def yX11_rememberMembers : MethodName := ⟨RX11, "rememberMembers", "(LGrainPit$Day;)V"⟩
abbrev cX11_freeReceiptsOf : ByteArray := prog_1_method_55_code
def yX11_freeReceiptsOf : MethodName := ⟨RX11, "freeReceiptsOf", "(I)I"⟩
abbrev cX11_receiptsBut : ByteArray := prog_1_method_56_code
def yX11_receiptsBut : MethodName := ⟨RX11, "receiptsBut", "(I)I"⟩
abbrev cX11_heldOf : ByteArray := prog_1_method_57_code
def yX11_heldOf : MethodName := ⟨RX11, "heldOf", "(II)I"⟩
abbrev cX11_nextHolder : ByteArray := prog_1_method_58_code
def yX11_nextHolder : MethodName := ⟨RX11, "nextHolder", "(LGrainPit$Notice;)I"⟩
abbrev cX11_dueIn : ByteArray := prog_1_method_59_code
def yX11_dueIn : MethodName := ⟨RX11, "dueIn", "(I)I"⟩
abbrev cX11_cornerOf : ByteArray := prog_1_method_60_code
def yX11_cornerOf : MethodName := ⟨RX11, "cornerOf", "(I)I"⟩
abbrev cX11_isSqueezed : ByteArray := prog_1_method_61_code
def yX11_isSqueezed : MethodName := ⟨RX11, "isSqueezed", "(I)Z"⟩
def RX12 : String := "GrainPitModel"
def TX12 : u_T := fun k => match k with
  | 0 => ("GrainPitModel", "tape", "[I", true)
  | 1 => ("GrainPitModel", "taped", "I", false)
  | 2 => ("GrainPitModel", "faultKind", "I", false)
  | 3 => ("GrainPitModel", "faultPlace", "I", false)
  | 4 => ("GrainPitModel", "ruleName", "[I", true)
  | 5 => ("GrainPitModel", "ruleDay", "[I", true)
  | 6 => ("GrainPitModel", "ruleMany", "[I", true)
  | 7 => ("GrainPitModel", "tokenKind", "[I", true)
  | 8 => ("GrainPitModel", "tokenValue", "[I", true)
  | 9 => ("GrainPitModel", "rules", "I", false)
  | 10 => ("GrainPitModel", "members", "I", false)
  | 11 => ("GrainPitModel", "paid", "[J", true)
  | 12 => ("GrainPitModel", "called", "[Z", true)
  | 13 => ("GrainPitModel", "failed", "[Z", true)
  | 14 => ("GrainPitModel", "position", "[I", true)
  | 15 => ("GrainPitModel", "cost", "[J", true)
  | 16 => ("GrainPitModel", "longMember", "[I", true)
  | 17 => ("GrainPitModel", "longLots", "[I", true)
  | 18 => ("GrainPitModel", "longMany", "[I", true)
  | 19 => ("GrainPitModel", "closed", "[Z", true)
  | 20 => ("GrainPitModel", "orders", "[I", true)
  | 21 => ("GrainPitModel", "orderMany", "I", false)
  | 22 => ("GrainPitModel", "trades", "[I", true)
  | 23 => ("GrainPitModel", "tradeMany", "I", false)
  | 24 => ("GrainPitModel", "today", "I", false)
  | 25 => ("GrainPitModel", "settles", "[I", true)
  | 26 => ("GrainPitModel", "dayPaid", "[J", true)
  | 27 => ("GrainPitModel", "dayPosition", "[I", true)
  | 28 => ("GrainPitModel", "dayCost", "[J", true)
  | 29 => ("GrainPitModel", "rights", "[I", true)
  | 30 => ("GrainPitModel", "rightMany", "I", false)
  | 31 => ("GrainPitModel", "receipts", "[I", true)
  | 32 => ("GrainPitModel", "receiptMany", "I", false)
  | 33 => ("GrainPitModel", "notices", "[I", true)
  | 34 => ("GrainPitModel", "noticeMany", "I", false)
  | 35 => ("GrainPitModel", "thrown", "I", false)
  | 36 => ("GrainPitModel", "from", "I", false)
  | 37 => ("GrainPitModel", "to", "I", false)
  | 38 => ("GrainPitModel", "kind", "I", false)
  | 39 => ("GrainPitModel", "value", "I", false)
  | 40 => ("GrainPitModel", "length", "I", false)
  | 41 => ("GrainPitModel", "reading", "I", false)
  | 42 => ("GrainPitModel", "tokens", "I", false)
  | 43 => ("GrainPitModel", "open", "I", false)
  | 44 => ("GrainPitModel", "at", "I", false)
  | 45 => ("GrainPitModel", "askedRule", "I", false)
  | 46 => ("GrainPitModel", "asked", "[I", true)
  | _ => ("GrainPitModel", "price", "[I", true)
def tyX12 : Nat → FieldType := fun k => match k with
  | 0 => .array .int
  | 1 => .int
  | 2 => .int
  | 3 => .int
  | 4 => .array .int
  | 5 => .array .int
  | 6 => .array .int
  | 7 => .array .int
  | 8 => .array .int
  | 9 => .int
  | 10 => .int
  | 11 => .array .long
  | 12 => .array .boolean
  | 13 => .array .boolean
  | 14 => .array .int
  | 15 => .array .long
  | 16 => .array .int
  | 17 => .array .int
  | 18 => .array .int
  | 19 => .array .boolean
  | 20 => .array .int
  | 21 => .int
  | 22 => .array .int
  | 23 => .int
  | 24 => .int
  | 25 => .array .int
  | 26 => .array .long
  | 27 => .array .int
  | 28 => .array .long
  | 29 => .array .int
  | 30 => .int
  | 31 => .array .int
  | 32 => .int
  | 33 => .array .int
  | 34 => .int
  | 35 => .int
  | 36 => .int
  | 37 => .int
  | 38 => .int
  | 39 => .int
  | 40 => .int
  | 41 => .int
  | 42 => .int
  | 43 => .int
  | 44 => .int
  | 45 => .int
  | 46 => .array .int
  | _ => .array .int
abbrev wsX120 : List Cond := u_ws RX12 TX12 48
theorem nmX12 : ∀ a, a < 48 → ∀ b, b < 48 → a ≠ b → (TX12 a).2.1 ≠ (TX12 b).2.1 := by decide +kernel
theorem tyX12_ok : ∀ k, k < 48 → parseFieldDescriptor (TX12 k).2.2.1 = some (tyX12 k) := by decide +kernel
abbrev cX12_init : ByteArray := prog_14_method_1_code
def yX12_init : MethodName := ⟨RX12, "<init>", "()V"⟩
abbrev cX12_thrown : ByteArray := prog_14_method_2_code
def yX12_thrown : MethodName := ⟨RX12, "thrown", "()I"⟩
abbrev cX12_in : ByteArray := prog_14_method_3_code
def yX12_in : MethodName := ⟨RX12, "in", "(JJJ)Z"⟩
abbrev cX12_isMember : ByteArray := prog_14_method_4_code
def yX12_isMember : MethodName := ⟨RX12, "isMember", "(I)Z"⟩
abbrev cX12_isMonth : ByteArray := prog_14_method_5_code
def yX12_isMonth : MethodName := ⟨RX12, "isMonth", "(I)Z"⟩
abbrev cX12_lay : ByteArray := prog_14_method_6_code
def yX12_lay : MethodName := ⟨RX12, "lay", "(I)V"⟩
abbrev cX12_feed : ByteArray := prog_14_method_7_code
def yX12_feed : MethodName := ⟨RX12, "feed", "(IIIII)I"⟩
abbrev cX12_end : ByteArray := prog_14_method_8_code
def yX12_end : MethodName := ⟨RX12, "end", "(I)Z"⟩
abbrev cX12_isLetter : ByteArray := prog_14_method_9_code
def yX12_isLetter : MethodName := ⟨RX12, "isLetter", "(I)Z"⟩
abbrev cX12_isDigit : ByteArray := prog_14_method_10_code
def yX12_isDigit : MethodName := ⟨RX12, "isDigit", "(I)Z"⟩
abbrev cX12_wordAt : ByteArray := prog_14_method_11_code
def yX12_wordAt : MethodName := ⟨RX12, "wordAt", "(II)I"⟩
abbrev cX12_next : ByteArray := prog_14_method_12_code
def yX12_next : MethodName := ⟨RX12, "next", "()V"⟩
abbrev cX12_fails : ByteArray := prog_14_method_13_code
def yX12_fails : MethodName := ⟨RX12, "fails", "(I)Z"⟩
abbrev cX12_isSign : ByteArray := prog_14_method_14_code
def yX12_isSign : MethodName := ⟨RX12, "isSign", "(I)Z"⟩
abbrev cX12_take : ByteArray := prog_14_method_15_code
def yX12_take : MethodName := ⟨RX12, "take", "()Z"⟩
abbrev cX12_takeSign : ByteArray := prog_14_method_16_code
def yX12_takeSign : MethodName := ⟨RX12, "takeSign", "(I)Z"⟩
abbrev cX12_opens : ByteArray := prog_14_method_17_code
def yX12_opens : MethodName := ⟨RX12, "opens", "()Z"⟩
abbrev cX12_readExpr : ByteArray := prog_14_method_18_code
def yX12_readExpr : MethodName := ⟨RX12, "readExpr", "()Z"⟩
abbrev cX12_readSum : ByteArray := prog_14_method_19_code
def yX12_readSum : MethodName := ⟨RX12, "readSum", "()Z"⟩
abbrev cX12_readPart : ByteArray := prog_14_method_20_code
def yX12_readPart : MethodName := ⟨RX12, "readPart", "()Z"⟩
abbrev cX12_readFactor : ByteArray := prog_14_method_21_code
def yX12_readFactor : MethodName := ⟨RX12, "readFactor", "()Z"⟩
abbrev cX12_readRule : ByteArray := prog_14_method_22_code
def yX12_readRule : MethodName := ⟨RX12, "readRule", "()Z"⟩
abbrev cX12_rules : ByteArray := prog_14_method_23_code
def yX12_rules : MethodName := ⟨RX12, "rules", "()I"⟩
abbrev cX12_fault : ByteArray := prog_14_method_24_code
def yX12_fault : MethodName := ⟨RX12, "fault", "(I)I"⟩
abbrev cX12_isNext : ByteArray := prog_14_method_25_code
def yX12_isNext : MethodName := ⟨RX12, "isNext", "(I)Z"⟩
abbrev cX12_expr : ByteArray := prog_14_method_26_code
def yX12_expr : MethodName := ⟨RX12, "expr", "()I"⟩
abbrev cX12_sum : ByteArray := prog_14_method_27_code
def yX12_sum : MethodName := ⟨RX12, "sum", "()I"⟩
abbrev cX12_part : ByteArray := prog_14_method_28_code
def yX12_part : MethodName := ⟨RX12, "part", "()I"⟩
abbrev cX12_factor : ByteArray := prog_14_method_29_code
def yX12_factor : MethodName := ⟨RX12, "factor", "()I"⟩
abbrev cX12_ruleOf : ByteArray := prog_14_method_30_code
def yX12_ruleOf : MethodName := ⟨RX12, "ruleOf", "(IIIIIII)I"⟩
abbrev cX12_rule : ByteArray := prog_14_method_31_code
def yX12_rule : MethodName := ⟨RX12, "rule", "(IIIIIII)I"⟩
abbrev cX12_settleOf : ByteArray := prog_14_method_32_code
def yX12_settleOf : MethodName := ⟨RX12, "settleOf", "(III)I"⟩
abbrev cX12_latest : ByteArray := prog_14_method_33_code
def yX12_latest : MethodName := ⟨RX12, "latest", "(I)I"⟩
abbrev cX12_move : ByteArray := prog_14_method_34_code
def yX12_move : MethodName := ⟨RX12, "move", "(IIIII)V"⟩
abbrev cX12_dropOrder : ByteArray := prog_14_method_35_code
def yX12_dropOrder : MethodName := ⟨RX12, "dropOrder", "(I)V"⟩
abbrev cX12_ranked : ByteArray := prog_14_method_36_code
def yX12_ranked : MethodName := ⟨RX12, "ranked", "(ZII)I"⟩
abbrev cX12_isBehind : ByteArray := prog_14_method_37_code
def yX12_isBehind : MethodName := ⟨RX12, "isBehind", "(IIZ)Z"⟩
abbrev cX12_reason : ByteArray := prog_14_method_38_code
def yX12_reason : MethodName := ⟨RX12, "reason", "(IZIII)I"⟩
abbrev cX12_order : ByteArray := prog_14_method_39_code
def yX12_order : MethodName := ⟨RX12, "order", "(IZIII)I"⟩
abbrev cX12_cancel : ByteArray := prog_14_method_40_code
def yX12_cancel : MethodName := ⟨RX12, "cancel", "(II)I"⟩
abbrev cX12_waiting : ByteArray := prog_14_method_41_code
def yX12_waiting : MethodName := ⟨RX12, "waiting", "(ZIII)I"⟩
abbrev cX12_trade : ByteArray := prog_14_method_42_code
def yX12_trade : MethodName := ⟨RX12, "trade", "(II)I"⟩
abbrev cX12_strike : ByteArray := prog_14_method_43_code
def yX12_strike : MethodName := ⟨RX12, "strike", "(I)Z"⟩
abbrev cX12_equityOf : ByteArray := prog_14_method_44_code
def yX12_equityOf : MethodName := ⟨RX12, "equityOf", "(I)J"⟩
abbrev cX12_need : ByteArray := prog_14_method_45_code
def yX12_need : MethodName := ⟨RX12, "need", "(II)J"⟩
abbrev cX12_latestPrices : ByteArray := prog_14_method_46_code
def yX12_latestPrices : MethodName := ⟨RX12, "latestPrices", "()V"⟩
abbrev cX12_fail : ByteArray := prog_14_method_47_code
def yX12_fail : MethodName := ⟨RX12, "fail", "(I)V"⟩
abbrev cX12_night : ByteArray := prog_14_method_48_code
def yX12_night : MethodName := ⟨RX12, "night", "()I"⟩
abbrev cX12_member : ByteArray := prog_14_method_49_code
def yX12_member : MethodName := ⟨RX12, "member", "()I"⟩
abbrev cX12_pay : ByteArray := prog_14_method_50_code
def yX12_pay : MethodName := ⟨RX12, "pay", "(II)J"⟩
abbrev cX12_money : ByteArray := prog_14_method_51_code
def yX12_money : MethodName := ⟨RX12, "money", "(II)J"⟩
abbrev cX12_position : ByteArray := prog_14_method_52_code
def yX12_position : MethodName := ⟨RX12, "position", "(II)I"⟩
abbrev cX12_longOf : ByteArray := prog_14_method_53_code
def yX12_longOf : MethodName := ⟨RX12, "longOf", "(III)I"⟩
abbrev cX12_count : ByteArray := prog_14_method_54_code
def yX12_count : MethodName := ⟨RX12, "count", "(I)I"⟩
abbrev cX12_deliver : ByteArray := prog_14_method_55_code
def yX12_deliver : MethodName := ⟨RX12, "deliver", "(I)Z"⟩
abbrev cX12_receipt : ByteArray := prog_14_method_56_code
def yX12_receipt : MethodName := ⟨RX12, "receipt", "(III)I"⟩
abbrev cX12_notice : ByteArray := prog_14_method_57_code
def yX12_notice : MethodName := ⟨RX12, "notice", "(III)I"⟩
abbrev cX12_isHeld : ByteArray := prog_14_method_58_code
def yX12_isHeld : MethodName := ⟨RX12, "isHeld", "(I)Z"⟩
abbrev cX12_pass : ByteArray := prog_14_method_59_code
def yX12_pass : MethodName := ⟨RX12, "pass", "(I)I"⟩
abbrev cX12_keep : ByteArray := prog_14_method_60_code
def yX12_keep : MethodName := ⟨RX12, "keep", "(I)I"⟩
abbrev cX12_told : ByteArray := prog_14_method_61_code
def yX12_told : MethodName := ⟨RX12, "told", "(II)I"⟩
abbrev cX12_stored : ByteArray := prog_14_method_62_code
def yX12_stored : MethodName := ⟨RX12, "stored", "(II)I"⟩
abbrev cX12_squeeze : ByteArray := prog_14_method_63_code
def yX12_squeeze : MethodName := ⟨RX12, "squeeze", "(II)I"⟩
abbrev cX12_right : ByteArray := prog_14_method_64_code
def yX12_right : MethodName := ⟨RX12, "right", "(III)Z"⟩
abbrev cX12_settle : ByteArray := prog_14_method_65_code
def yX12_settle : MethodName := ⟨RX12, "settle", "(III)I"⟩
abbrev cX12_equity : ByteArray := prog_14_method_66_code
def yX12_equity : MethodName := ⟨RX12, "equity", "(III)J"⟩
def RJx145de : String := "java/io/Serializable"
def TJx145de : u_T := fun k => match k with
  | _ => ("", "", "", false)
def tyJx145de : Nat → FieldType := fun k => match k with
  | _ => .int
abbrev wsJx145de0 : List Cond := u_ws RJx145de TJx145de 0
theorem nmJx145de : ∀ a, a < 0 → ∀ b, b < 0 → a ≠ b → (TJx145de a).2.1 ≠ (TJx145de b).2.1 := by decide +kernel
theorem tyJx145de_ok : ∀ k, k < 0 → parseFieldDescriptor (TJx145de k).2.2.1 = some (tyJx145de k) := by decide +kernel
def RJ11 : String := "java/lang/Character"
def TJ11 : u_T := fun k => match k with
  | _ => ("", "", "", false)
def tyJ11 : Nat → FieldType := fun k => match k with
  | _ => .int
abbrev wsJ110 : List Cond := u_ws RJ11 TJ11 0
theorem nmJ11 : ∀ a, a < 0 → ∀ b, b < 0 → a ≠ b → (TJ11 a).2.1 ≠ (TJ11 b).2.1 := by decide +kernel
theorem tyJ11_ok : ∀ k, k < 0 → parseFieldDescriptor (TJ11 k).2.2.1 = some (tyJ11 k) := by decide +kernel
abbrev cJ11_isValidCodePoint_9a6ad : ByteArray := prog_16_method_11_code
def yJ11_isValidCodePoint_9a6ad : MethodName := ⟨RJ11, "isValidCodePoint", "(I)Z"⟩
abbrev cJ11_highSurrogate_5068e : ByteArray := prog_16_method_28_code
def yJ11_highSurrogate_5068e : MethodName := ⟨RJ11, "highSurrogate", "(I)C"⟩
abbrev cJ11_lowSurrogate_5068e : ByteArray := prog_16_method_29_code
def yJ11_lowSurrogate_5068e : MethodName := ⟨RJ11, "lowSurrogate", "(I)C"⟩
def RJx8e188 : String := "java/lang/Cloneable"
def TJx8e188 : u_T := fun k => match k with
  | _ => ("", "", "", false)
def tyJx8e188 : Nat → FieldType := fun k => match k with
  | _ => .int
abbrev wsJx8e1880 : List Cond := u_ws RJx8e188 TJx8e188 0
theorem nmJx8e188 : ∀ a, a < 0 → ∀ b, b < 0 → a ≠ b → (TJx8e188 a).2.1 ≠ (TJx8e188 b).2.1 := by decide +kernel
theorem tyJx8e188_ok : ∀ k, k < 0 → parseFieldDescriptor (TJx8e188 k).2.2.1 = some (tyJx8e188 k) := by decide +kernel
def RJxab1ab : String := "java/lang/Iterable"
def TJxab1ab : u_T := fun k => match k with
  | _ => ("", "", "", false)
def tyJxab1ab : Nat → FieldType := fun k => match k with
  | _ => .int
abbrev wsJxab1ab0 : List Cond := u_ws RJxab1ab TJxab1ab 0
theorem nmJxab1ab : ∀ a, a < 0 → ∀ b, b < 0 → a ≠ b → (TJxab1ab a).2.1 ≠ (TJxab1ab b).2.1 := by decide +kernel
theorem tyJxab1ab_ok : ∀ k, k < 0 → parseFieldDescriptor (TJxab1ab k).2.2.1 = some (tyJxab1ab k) := by decide +kernel
def RJ9 : String := "java/lang/Math"
def TJ9 : u_T := fun k => match k with
  | _ => ("", "", "", false)
def tyJ9 : Nat → FieldType := fun k => match k with
  | _ => .int
abbrev wsJ90 : List Cond := u_ws RJ9 TJ9 0
theorem nmJ9 : ∀ a, a < 0 → ∀ b, b < 0 → a ≠ b → (TJ9 a).2.1 ≠ (TJ9 b).2.1 := by decide +kernel
theorem tyJ9_ok : ∀ k, k < 0 → parseFieldDescriptor (TJ9 k).2.2.1 = some (tyJ9 k) := by decide +kernel
abbrev cJ9_abs_0f7a4 : ByteArray := prog_20_method_59_code
def yJ9_abs_0f7a4 : MethodName := ⟨RJ9, "abs", "(I)I"⟩
abbrev cJ9_max_7cf53 : ByteArray := prog_20_method_65_code
def yJ9_max_7cf53 : MethodName := ⟨RJ9, "max", "(II)I"⟩
abbrev cJ9_min_7cf53 : ByteArray := prog_20_method_69_code
def yJ9_min_7cf53 : MethodName := ⟨RJ9, "min", "(II)I"⟩
def RJ0 : String := "java/lang/String"
def TJ0 : u_T := fun k => match k with
  | _ => ("", "", "", false)
def tyJ0 : Nat → FieldType := fun k => match k with
  | _ => .int
abbrev wsJ00 : List Cond := u_ws RJ0 TJ0 0
theorem nmJ0 : ∀ a, a < 0 → ∀ b, b < 0 → a ≠ b → (TJ0 a).2.1 ≠ (TJ0 b).2.1 := by decide +kernel
theorem tyJ0_ok : ∀ k, k < 0 → parseFieldDescriptor (TJ0 k).2.2.1 = some (tyJ0 k) := by decide +kernel
abbrev cJ0_length_8abf5 : ByteArray := prog_22_method_54_code
def yJ0_length_8abf5 : MethodName := ⟨RJ0, "length", "()I"⟩
abbrev cJ0_charAt_5068e : ByteArray := prog_22_method_56_code
def yJ0_charAt_5068e : MethodName := ⟨RJ0, "charAt", "(I)C"⟩
abbrev cJ0_indexOf_0f7a4 : ByteArray := prog_22_method_79_code
def yJ0_indexOf_0f7a4 : MethodName := ⟨RJ0, "indexOf", "(I)I"⟩
abbrev cJ0_indexOf_7cf53 : ByteArray := prog_22_method_80_code
def yJ0_indexOf_7cf53 : MethodName := ⟨RJ0, "indexOf", "(II)I"⟩
abbrev cJ0_coder_7d493 : ByteArray := prog_22_method_152_code
def yJ0_coder_7d493 : MethodName := ⟨RJ0, "coder", "()B"⟩
abbrev cJ0_isLatin1_aae02 : ByteArray := prog_22_method_154_code
def yJ0_isLatin1_aae02 : MethodName := ⟨RJ0, "isLatin1", "()Z"⟩
abbrev cJ0_checkIndex_df160 : ByteArray := prog_22_method_155_code
def yJ0_checkIndex_df160 : MethodName := ⟨RJ0, "checkIndex", "(II)V"⟩
abbrev cJ0_checkBoundsBeginEnd_23922 : ByteArray := prog_22_method_158_code
def yJ0_checkBoundsBeginEnd_23922 : MethodName := ⟨RJ0, "checkBoundsBeginEnd", "(III)V"⟩
def RJ1 : String := "java/lang/StringLatin1"
def TJ1 : u_T := fun k => match k with
  | _ => ("", "", "", false)
def tyJ1 : Nat → FieldType := fun k => match k with
  | _ => .int
abbrev wsJ10 : List Cond := u_ws RJ1 TJ1 0
theorem nmJ1 : ∀ a, a < 0 → ∀ b, b < 0 → a ≠ b → (TJ1 a).2.1 ≠ (TJ1 b).2.1 := by decide +kernel
theorem tyJ1_ok : ∀ k, k < 0 → parseFieldDescriptor (TJ1 k).2.2.1 = some (tyJ1 k) := by decide +kernel
abbrev cJ1_charAt_3b067 : ByteArray := prog_23_method_2_code
def yJ1_charAt_3b067 : MethodName := ⟨RJ1, "charAt", "([BI)C"⟩
abbrev cJ1_canEncode_9a6ad : ByteArray := prog_23_method_4_code
def yJ1_canEncode_9a6ad : MethodName := ⟨RJ1, "canEncode", "(I)Z"⟩
abbrev cJ1_indexOf_4cfef : ByteArray := prog_23_method_22_code
def yJ1_indexOf_4cfef : MethodName := ⟨RJ1, "indexOf", "([BIII)I"⟩
abbrev cJ1_indexOfChar_4cfef : ByteArray := prog_23_method_23_code
def yJ1_indexOfChar_4cfef : MethodName := ⟨RJ1, "indexOfChar", "([BIII)I"⟩
def RJ2 : String := "java/lang/StringUTF16"
def TJ2 : u_T := fun k => match k with
  | _ => ("", "", "", false)
def tyJ2 : Nat → FieldType := fun k => match k with
  | _ => .int
abbrev wsJ20 : List Cond := u_ws RJ2 TJ2 0
theorem nmJ2 : ∀ a, a < 0 → ∀ b, b < 0 → a ≠ b → (TJ2 a).2.1 ≠ (TJ2 b).2.1 := by decide +kernel
theorem tyJ2_ok : ∀ k, k < 0 → parseFieldDescriptor (TJ2 k).2.2.1 = some (tyJ2 k) := by decide +kernel
abbrev cJ2_getChar_3b067 : ByteArray := prog_24_method_5_code
def yJ2_getChar_3b067 : MethodName := ⟨RJ2, "getChar", "([BI)C"⟩
abbrev cJ2_length_9d52b : ByteArray := prog_24_method_6_code
def yJ2_length_9d52b : MethodName := ⟨RJ2, "length", "([B)I"⟩
abbrev cJ2_indexOf_4cfef : ByteArray := prog_24_method_40_code
def yJ2_indexOf_4cfef : MethodName := ⟨RJ2, "indexOf", "([BIII)I"⟩
abbrev cJ2_indexOfChar_4cfef : ByteArray := prog_24_method_47_code
def yJ2_indexOfChar_4cfef : MethodName := ⟨RJ2, "indexOfChar", "([BIII)I"⟩
abbrev cJ2_indexOfCharUnsafe_4cfef : ByteArray := prog_24_method_48_code
def yJ2_indexOfCharUnsafe_4cfef : MethodName := ⟨RJ2, "indexOfCharUnsafe", "([BIII)I"⟩
abbrev cJ2_indexOfSupplementary_4cfef : ByteArray := prog_24_method_49_code
def yJ2_indexOfSupplementary_4cfef : MethodName := ⟨RJ2, "indexOfSupplementary", "([BIII)I"⟩
abbrev cJ2_charAt_3b067 : ByteArray := prog_24_method_83_code
def yJ2_charAt_3b067 : MethodName := ⟨RJ2, "charAt", "([BI)C"⟩
abbrev cJ2_checkIndex_2214a : ByteArray := prog_24_method_91_code
def yJ2_checkIndex_2214a : MethodName := ⟨RJ2, "checkIndex", "(I[B)V"⟩
abbrev cJ2_checkBoundsBeginEnd_d044e : ByteArray := prog_24_method_93_code
def yJ2_checkBoundsBeginEnd_d044e : MethodName := ⟨RJ2, "checkBoundsBeginEnd", "(II[B)V"⟩
def RJ10 : String := "java/lang/System"
def TJ10 : u_T := fun k => match k with
  | _ => ("", "", "", false)
def tyJ10 : Nat → FieldType := fun k => match k with
  | _ => .int
abbrev wsJ100 : List Cond := u_ws RJ10 TJ10 0
theorem nmJ10 : ∀ a, a < 0 → ∀ b, b < 0 → a ≠ b → (TJ10 a).2.1 ≠ (TJ10 b).2.1 := by decide +kernel
theorem tyJ10_ok : ∀ k, k < 0 → parseFieldDescriptor (TJ10 k).2.2.1 = some (tyJ10 k) := by decide +kernel
def RJxa1e45 : String := "java/util/AbstractCollection"
def TJxa1e45 : u_T := fun k => match k with
  | _ => ("", "", "", false)
def tyJxa1e45 : Nat → FieldType := fun k => match k with
  | _ => .int
abbrev wsJxa1e450 : List Cond := u_ws RJxa1e45 TJxa1e45 0
theorem nmJxa1e45 : ∀ a, a < 0 → ∀ b, b < 0 → a ≠ b → (TJxa1e45 a).2.1 ≠ (TJxa1e45 b).2.1 := by decide +kernel
theorem tyJxa1e45_ok : ∀ k, k < 0 → parseFieldDescriptor (TJxa1e45 k).2.2.1 = some (tyJxa1e45 k) := by decide +kernel
abbrev cJxa1e45_init_da8c8 : ByteArray := prog_27_method_1_code
def yJxa1e45_init_da8c8 : MethodName := ⟨RJxa1e45, "<init>", "()V"⟩
def RJxc12de : String := "java/util/AbstractList"
def TJxc12de : u_T := fun k => match k with
  | _ => ("", "", "", false)
def tyJxc12de : Nat → FieldType := fun k => match k with
  | _ => .int
abbrev wsJxc12de0 : List Cond := u_ws RJxc12de TJxc12de 0
theorem nmJxc12de : ∀ a, a < 0 → ∀ b, b < 0 → a ≠ b → (TJxc12de a).2.1 ≠ (TJxc12de b).2.1 := by decide +kernel
theorem tyJxc12de_ok : ∀ k, k < 0 → parseFieldDescriptor (TJxc12de k).2.2.1 = some (tyJxc12de k) := by decide +kernel
abbrev cJxc12de_init_da8c8 : ByteArray := prog_28_method_1_code
def yJxc12de_init_da8c8 : MethodName := ⟨RJxc12de, "<init>", "()V"⟩
def RJx4a65c : String := "java/util/ArrayList"
def TJx4a65c : u_T := fun k => match k with
  | 0 => ("java/util/AbstractList", "modCount", "I", false)
  | 1 => ("java/util/ArrayList", "elementData", "[Ljava/lang/Object;", false)
  | _ => ("java/util/ArrayList", "size", "I", false)
def tyJx4a65c : Nat → FieldType := fun k => match k with
  | 0 => .int
  | 1 => .array (.object "java/lang/Object")
  | _ => .int
abbrev wsJx4a65c0 : List Cond := u_ws RJx4a65c TJx4a65c 3
theorem nmJx4a65c : ∀ a, a < 3 → ∀ b, b < 3 → a ≠ b → (TJx4a65c a).2.1 ≠ (TJx4a65c b).2.1 := by decide +kernel
theorem tyJx4a65c_ok : ∀ k, k < 3 → parseFieldDescriptor (TJx4a65c k).2.2.1 = some (tyJx4a65c k) := by decide +kernel
abbrev cJx4a65c_init_da8c8 : ByteArray := prog_29_method_2_code
def yJx4a65c_init_da8c8 : MethodName := ⟨RJx4a65c, "<init>", "()V"⟩
abbrev cJx4a65c_grow_92f84 : ByteArray := prog_29_method_6_code
def yJx4a65c_grow_92f84 : MethodName := ⟨RJx4a65c, "grow", "(I)[Ljava/lang/Object;"⟩
abbrev cJx4a65c_grow_d5877 : ByteArray := prog_29_method_7_code
def yJx4a65c_grow_d5877 : MethodName := ⟨RJx4a65c, "grow", "()[Ljava/lang/Object;"⟩
abbrev cJx4a65c_size_8abf5 : ByteArray := prog_29_method_8_code
def yJx4a65c_size_8abf5 : MethodName := ⟨RJx4a65c, "size", "()I"⟩
abbrev cJx4a65c_isEmpty_aae02 : ByteArray := prog_29_method_9_code
def yJx4a65c_isEmpty_aae02 : MethodName := ⟨RJx4a65c, "isEmpty", "()Z"⟩
abbrev cJx4a65c_elementData_915e3 : ByteArray := prog_29_method_18_code
def yJx4a65c_elementData_915e3 : MethodName := ⟨RJx4a65c, "elementData", "(I)Ljava/lang/Object;"⟩
abbrev cJx4a65c_get_915e3 : ByteArray := prog_29_method_20_code
def yJx4a65c_get_915e3 : MethodName := ⟨RJx4a65c, "get", "(I)Ljava/lang/Object;"⟩
abbrev cJx4a65c_add_72be8 : ByteArray := prog_29_method_24_code
def yJx4a65c_add_72be8 : MethodName := ⟨RJx4a65c, "add", "(Ljava/lang/Object;[Ljava/lang/Object;I)V"⟩
abbrev cJx4a65c_add_9ea2d : ByteArray := prog_29_method_25_code
def yJx4a65c_add_9ea2d : MethodName := ⟨RJx4a65c, "add", "(Ljava/lang/Object;)Z"⟩
abbrev cJx4a65c_add_7a177 : ByteArray := prog_29_method_26_code
def yJx4a65c_add_7a177 : MethodName := ⟨RJx4a65c, "add", "(ILjava/lang/Object;)V"⟩
abbrev cJx4a65c_remove_915e3 : ByteArray := prog_29_method_29_code
def yJx4a65c_remove_915e3 : MethodName := ⟨RJx4a65c, "remove", "(I)Ljava/lang/Object;"⟩
abbrev cJx4a65c_fastRemove_b59b0 : ByteArray := prog_29_method_39_code
def yJx4a65c_fastRemove_b59b0 : MethodName := ⟨RJx4a65c, "fastRemove", "([Ljava/lang/Object;I)V"⟩
abbrev cJx4a65c_clear_da8c8 : ByteArray := prog_29_method_40_code
def yJx4a65c_clear_da8c8 : MethodName := ⟨RJx4a65c, "clear", "()V"⟩
abbrev cJx4a65c_rangeCheckForAdd_d00df : ByteArray := prog_29_method_45_code
def yJx4a65c_rangeCheckForAdd_d00df : MethodName := ⟨RJx4a65c, "rangeCheckForAdd", "(I)V"⟩
def RJ7 : String := "java/util/Arrays"
def TJ7 : u_T := fun k => match k with
  | _ => ("", "", "", false)
def tyJ7 : Nat → FieldType := fun k => match k with
  | _ => .int
abbrev wsJ70 : List Cond := u_ws RJ7 TJ7 0
theorem nmJ7 : ∀ a, a < 0 → ∀ b, b < 0 → a ≠ b → (TJ7 a).2.1 ≠ (TJ7 b).2.1 := by decide +kernel
theorem tyJ7_ok : ∀ k, k < 0 → parseFieldDescriptor (TJ7 k).2.2.1 = some (tyJ7 k) := by decide +kernel
abbrev cJ7_copyOf_1904c : ByteArray := prog_30_method_119_code
def yJ7_copyOf_1904c : MethodName := ⟨RJ7, "copyOf", "([Ljava/lang/Object;I)[Ljava/lang/Object;"⟩
abbrev cJ7_copyOf_6403c : ByteArray := prog_30_method_120_code
def yJ7_copyOf_6403c : MethodName := ⟨RJ7, "copyOf", "([Ljava/lang/Object;ILjava/lang/Class;)[Ljava/lang/Object;"⟩
abbrev cJ7_copyOf_59c91 : ByteArray := prog_30_method_123_code
def yJ7_copyOf_59c91 : MethodName := ⟨RJ7, "copyOf", "([II)[I"⟩
def RJx5ef63 : String := "java/util/Collection"
def TJx5ef63 : u_T := fun k => match k with
  | _ => ("", "", "", false)
def tyJx5ef63 : Nat → FieldType := fun k => match k with
  | _ => .int
abbrev wsJx5ef630 : List Cond := u_ws RJx5ef63 TJx5ef63 0
theorem nmJx5ef63 : ∀ a, a < 0 → ∀ b, b < 0 → a ≠ b → (TJx5ef63 a).2.1 ≠ (TJx5ef63 b).2.1 := by decide +kernel
theorem tyJx5ef63_ok : ∀ k, k < 0 → parseFieldDescriptor (TJx5ef63 k).2.2.1 = some (tyJx5ef63 k) := by decide +kernel
def RJxbd725 : String := "java/util/List"
def TJxbd725 : u_T := fun k => match k with
  | _ => ("", "", "", false)
def tyJxbd725 : Nat → FieldType := fun k => match k with
  | _ => .int
abbrev wsJxbd7250 : List Cond := u_ws RJxbd725 TJxbd725 0
theorem nmJxbd725 : ∀ a, a < 0 → ∀ b, b < 0 → a ≠ b → (TJxbd725 a).2.1 ≠ (TJxbd725 b).2.1 := by decide +kernel
theorem tyJxbd725_ok : ∀ k, k < 0 → parseFieldDescriptor (TJxbd725 k).2.2.1 = some (tyJxbd725 k) := by decide +kernel
def RJ15 : String := "java/util/Objects"
def TJ15 : u_T := fun k => match k with
  | _ => ("", "", "", false)
def tyJ15 : Nat → FieldType := fun k => match k with
  | _ => .int
abbrev wsJ150 : List Cond := u_ws RJ15 TJ15 0
theorem nmJ15 : ∀ a, a < 0 → ∀ b, b < 0 → a ≠ b → (TJ15 a).2.1 ≠ (TJ15 b).2.1 := by decide +kernel
theorem tyJ15_ok : ∀ k, k < 0 → parseFieldDescriptor (TJ15 k).2.2.1 = some (tyJ15 k) := by decide +kernel
abbrev cJ15_checkIndex_7cf53 : ByteArray := prog_34_method_17_code
def yJ15_checkIndex_7cf53 : MethodName := ⟨RJ15, "checkIndex", "(II)I"⟩
def RJxf0a74 : String := "java/util/RandomAccess"
def TJxf0a74 : u_T := fun k => match k with
  | _ => ("", "", "", false)
def tyJxf0a74 : Nat → FieldType := fun k => match k with
  | _ => .int
abbrev wsJxf0a740 : List Cond := u_ws RJxf0a74 TJxf0a74 0
theorem nmJxf0a74 : ∀ a, a < 0 → ∀ b, b < 0 → a ≠ b → (TJxf0a74 a).2.1 ≠ (TJxf0a74 b).2.1 := by decide +kernel
theorem tyJxf0a74_ok : ∀ k, k < 0 → parseFieldDescriptor (TJxf0a74 k).2.2.1 = some (tyJxf0a74 k) := by decide +kernel
def RJxa66e6 : String := "java/util/SequencedCollection"
def TJxa66e6 : u_T := fun k => match k with
  | _ => ("", "", "", false)
def tyJxa66e6 : Nat → FieldType := fun k => match k with
  | _ => .int
abbrev wsJxa66e60 : List Cond := u_ws RJxa66e6 TJxa66e6 0
theorem nmJxa66e6 : ∀ a, a < 0 → ∀ b, b < 0 → a ≠ b → (TJxa66e6 a).2.1 ≠ (TJxa66e6 b).2.1 := by decide +kernel
theorem tyJxa66e6_ok : ∀ k, k < 0 → parseFieldDescriptor (TJxa66e6 k).2.2.1 = some (tyJxa66e6 k) := by decide +kernel
def RJ8 : String := "jdk/internal/util/ArraysSupport"
def TJ8 : u_T := fun k => match k with
  | _ => ("", "", "", false)
def tyJ8 : Nat → FieldType := fun k => match k with
  | _ => .int
abbrev wsJ80 : List Cond := u_ws RJ8 TJ8 0
theorem nmJ8 : ∀ a, a < 0 → ∀ b, b < 0 → a ≠ b → (TJ8 a).2.1 ≠ (TJ8 b).2.1 := by decide +kernel
theorem tyJ8_ok : ∀ k, k < 0 → parseFieldDescriptor (TJ8 k).2.2.1 = some (tyJ8 k) := by decide +kernel
abbrev cJ8_newLength_cabcc : ByteArray := prog_37_method_27_code
def yJ8_newLength_cabcc : MethodName := ⟨RJ8, "newLength", "(III)I"⟩
abbrev cJ8_hugeLength_7cf53 : ByteArray := prog_37_method_28_code
def yJ8_hugeLength_7cf53 : MethodName := ⟨RJ8, "hugeLength", "(II)I"⟩
def RJ3 : String := "jdk/internal/util/Preconditions"
def TJ3 : u_T := fun k => match k with
  | _ => ("", "", "", false)
def tyJ3 : Nat → FieldType := fun k => match k with
  | _ => .int
abbrev wsJ30 : List Cond := u_ws RJ3 TJ3 0
theorem nmJ3 : ∀ a, a < 0 → ∀ b, b < 0 → a ≠ b → (TJ3 a).2.1 ≠ (TJ3 b).2.1 := by decide +kernel
theorem tyJ3_ok : ∀ k, k < 0 → parseFieldDescriptor (TJ3 k).2.2.1 = some (tyJ3 k) := by decide +kernel
abbrev cJ3_checkIndex_8e157 : ByteArray := prog_38_method_11_code
def yJ3_checkIndex_8e157 : MethodName := ⟨RJ3, "checkIndex", "(IILjava/util/function/BiFunction;)I"⟩
abbrev cJ3_checkFromToIndex_8c36e : ByteArray := prog_38_method_12_code
def yJ3_checkFromToIndex_8c36e : MethodName := ⟨RJ3, "checkFromToIndex", "(IIILjava/util/function/BiFunction;)I"⟩
def RL : String := "GrainPitLaw"
abbrev cL_rule : ByteArray := method_3_code
def yL_rule : MethodName := ⟨RL, "rule", "(LGrainPit;IIIIIII[J)I"⟩
abbrev cL_pay : ByteArray := method_4_code
def yL_pay : MethodName := ⟨RL, "pay", "(LGrainPit;II[J)I"⟩
abbrev cL_money : ByteArray := method_5_code
def yL_money : MethodName := ⟨RL, "money", "(LGrainPit;II[J)I"⟩
abbrev cL_position : ByteArray := method_6_code
def yL_position : MethodName := ⟨RL, "position", "(LGrainPit;II[J)I"⟩
abbrev cL_equity : ByteArray := method_7_code
def yL_equity : MethodName := ⟨RL, "equity", "(LGrainPit;III[J)I"⟩
abbrev cL_law : ByteArray := code
def yL_law : MethodName := ⟨RL, "law", "([I)Z"⟩
