/-! ===== BEGIN words of one list among another's, by their places ===== -/
theorem goodIn_r {big : List Cond} (ws : List Cond) (ps : List Nat) (hp : ws = ps.filterMap (fun i => big[i]?)) (h : ws.all goodWord = true) : GoodIn big ws := by
  intro w hw
  have h1 := List.all_eq_true.mp h w hw
  rw [hp] at hw
  obtain ⟨i, -, hi⟩ := List.mem_filterMap.mp hw
  have hm : w ∈ big := by first | exact List.mem_of_getElem? hi | exact List.getElem?_mem hi
  exact ⟨hm, good_of_word h1⟩
theorem goodIn_app {big a b : List Cond} (ha : GoodIn big a) (hb : GoodIn big b) : GoodIn big (a ++ b) := fun w h => (List.mem_append.mp h).elim (ha w) (hb w)
theorem goodIn_ca {big a b : List Cond} {c : Cond} (ha : GoodIn big (c :: a)) (hb : GoodIn big b) : GoodIn big (c :: (a ++ b)) := fun w h => (List.mem_cons.mp h).elim (fun e => ha w (List.mem_cons.mpr (Or.inl e))) (fun h => (List.mem_append.mp h).elim (fun h => ha w (List.mem_cons.mpr (Or.inr h))) (hb w))
theorem goodIn_sub {big ws : List Cond} (hm : ∀ w ∈ ws, w ∈ big) (h : ws.all goodWord = true) : GoodIn big ws := fun w hw => ⟨hm w hw, good_of_word (List.all_eq_true.mp h w hw)⟩
/-! ===== END ===== -/

/-! ===== BEGIN printed: names, fields, word lists, decode rows ===== -/
def RX0 : String := "RungRights$Act"
def TX0 : u_T := fun k => match k with
  | 0 => ("RungRights$Act", "kind", "I", false)
  | 1 => ("RungRights$Act", "man", "I", false)
  | _ => ("RungRights$Act", "place", "I", false)
def tyX0 : Nat → FieldType := fun k => match k with
  | 0 => .int
  | 1 => .int
  | _ => .int
abbrev wsX00 : List Cond := u_ws RX0 TX0 3
theorem nmX0 : ∀ a, a < 3 → ∀ b, b < 3 → a ≠ b → (TX0 a).2.1 ≠ (TX0 b).2.1 := by decide +kernel
theorem tyX0_ok : ∀ k, k < 3 → parseFieldDescriptor (TX0 k).2.2.1 = some (tyX0 k) := by decide +kernel
abbrev cX0_init : ByteArray := prog_2_method_1_code
def yX0_init : MethodName := ⟨RX0, "<init>", "()V"⟩
abbrev cX0_become : ByteArray := prog_2_method_2_code
def yX0_become : MethodName := ⟨RX0, "become", "(III)V"⟩
abbrev cX0_kindOf : ByteArray := prog_2_method_3_code
def yX0_kindOf : MethodName := ⟨RX0, "kindOf", "()I"⟩
abbrev cX0_doer : ByteArray := prog_2_method_4_code
def yX0_doer : MethodName := ⟨RX0, "doer", "()I"⟩
abbrev cX0_target : ByteArray := prog_2_method_5_code
def yX0_target : MethodName := ⟨RX0, "target", "()I"⟩
abbrev cX0_draw : ByteArray := prog_2_method_6_code
def yX0_draw : MethodName := ⟨RX0, "draw", "(ILRungRights$Brigade;)V"⟩
abbrev cX0_drawnPlace : ByteArray := prog_2_method_7_code
def yX0_drawnPlace : MethodName := ⟨RX0, "drawnPlace", "(IILRungRights$Brigade;)I"⟩
def RX1 : String := "RungRights$Brigade"
def TX1 : u_T := fun k => match k with
  | 0 => ("RungRights$Brigade", "owner", "[I", true)
  | 1 => ("RungRights$Brigade", "leaser", "[I", true)
  | 2 => ("RungRights$Brigade", "missing", "I", false)
  | 3 => ("RungRights$Brigade", "stride", "[I", true)
  | 4 => ("RungRights$Brigade", "coins", "[I", true)
  | 5 => ("RungRights$Brigade", "place", "[I", true)
  | 6 => ("RungRights$Brigade", "stepped", "I", false)
  | 7 => ("RungRights$Brigade", "beat", "I", false)
  | 8 => ("RungRights$Brigade", "sights", "I", false)
  | 9 => ("RungRights$Brigade", "wet", "I", false)
  | _ => ("RungRights$Brigade", "dry", "I", false)
def tyX1 : Nat → FieldType := fun k => match k with
  | 0 => .array .int
  | 1 => .array .int
  | 2 => .int
  | 3 => .array .int
  | 4 => .array .int
  | 5 => .array .int
  | 6 => .int
  | 7 => .int
  | 8 => .int
  | 9 => .int
  | _ => .int
abbrev wsX10 : List Cond := u_ws RX1 TX1 11
theorem nmX1 : ∀ a, a < 11 → ∀ b, b < 11 → a ≠ b → (TX1 a).2.1 ≠ (TX1 b).2.1 := by decide +kernel
theorem tyX1_ok : ∀ k, k < 11 → parseFieldDescriptor (TX1 k).2.2.1 = some (tyX1 k) := by decide +kernel
abbrev cX1_init : ByteArray := prog_3_method_1_code
def yX1_init : MethodName := ⟨RX1, "<init>", "()V"⟩
abbrev cX1_copyFrom : ByteArray := prog_3_method_2_code
def yX1_copyFrom : MethodName := ⟨RX1, "copyFrom", "(LRungRights$Brigade;)V"⟩
abbrev cX1_ownerOf : ByteArray := prog_3_method_3_code
def yX1_ownerOf : MethodName := ⟨RX1, "ownerOf", "(I)I"⟩
abbrev cX1_leaserOf : ByteArray := prog_3_method_4_code
def yX1_leaserOf : MethodName := ⟨RX1, "leaserOf", "(I)I"⟩
abbrev cX1_isMissing : ByteArray := prog_3_method_5_code
def yX1_isMissing : MethodName := ⟨RX1, "isMissing", "(I)Z"⟩
abbrev cX1_rungsMissing : ByteArray := prog_3_method_6_code
def yX1_rungsMissing : MethodName := ⟨RX1, "rungsMissing", "()I"⟩
abbrev cX1_setRung : ByteArray := prog_3_method_7_code
def yX1_setRung : MethodName := ⟨RX1, "setRung", "(IIIZ)V"⟩
abbrev cX1_strideOf : ByteArray := prog_3_method_8_code
def yX1_strideOf : MethodName := ⟨RX1, "strideOf", "(I)I"⟩
abbrev cX1_coinsOf : ByteArray := prog_3_method_9_code
def yX1_coinsOf : MethodName := ⟨RX1, "coinsOf", "(I)I"⟩
abbrev cX1_placeOf : ByteArray := prog_3_method_10_code
def yX1_placeOf : MethodName := ⟨RX1, "placeOf", "(I)I"⟩
abbrev cX1_hasStepped : ByteArray := prog_3_method_11_code
def yX1_hasStepped : MethodName := ⟨RX1, "hasStepped", "(I)Z"⟩
abbrev cX1_menStepped : ByteArray := prog_3_method_12_code
def yX1_menStepped : MethodName := ⟨RX1, "menStepped", "()I"⟩
abbrev cX1_setMan : ByteArray := prog_3_method_13_code
def yX1_setMan : MethodName := ⟨RX1, "setMan", "(IIII)V"⟩
abbrev cX1_beatNow : ByteArray := prog_3_method_14_code
def yX1_beatNow : MethodName := ⟨RX1, "beatNow", "()I"⟩
abbrev cX1_menOnRoof : ByteArray := prog_3_method_15_code
def yX1_menOnRoof : MethodName := ⟨RX1, "menOnRoof", "()I"⟩
abbrev cX1_firstManOn : ByteArray := prog_3_method_16_code
def yX1_firstManOn : MethodName := ⟨RX1, "firstManOn", "(I)I"⟩
abbrev cX1_mayBeOn : ByteArray := prog_3_method_17_code
def yX1_mayBeOn : MethodName := ⟨RX1, "mayBeOn", "(II)Z"⟩
abbrev cX1_rungsOpenTo : ByteArray := prog_3_method_18_code
def yX1_rungsOpenTo : MethodName := ⟨RX1, "rungsOpenTo", "(I)I"⟩
abbrev cX1_rungsToLease : ByteArray := prog_3_method_19_code
def yX1_rungsToLease : MethodName := ⟨RX1, "rungsToLease", "()I"⟩
abbrev cX1_reasonAgainst : ByteArray := prog_3_method_20_code
def yX1_reasonAgainst : MethodName := ⟨RX1, "reasonAgainst", "(LRungRights$Act;)I"⟩
abbrev cX1_reasonAgainstStep : ByteArray := prog_3_method_21_code
def yX1_reasonAgainstStep : MethodName := ⟨RX1, "reasonAgainstStep", "(II)I"⟩
abbrev cX1_reasonAgainstLease : ByteArray := prog_3_method_22_code
def yX1_reasonAgainstLease : MethodName := ⟨RX1, "reasonAgainstLease", "(II)I"⟩
abbrev cX1_perform : ByteArray := prog_3_method_23_code
def yX1_perform : MethodName := ⟨RX1, "perform", "(LRungRights$Act;)V"⟩
abbrev cX1_moveTo : ByteArray := prog_3_method_24_code
def yX1_moveTo : MethodName := ⟨RX1, "moveTo", "(II)V"⟩
abbrev cX1_leaseTo : ByteArray := prog_3_method_25_code
def yX1_leaseTo : MethodName := ⟨RX1, "leaseTo", "(II)V"⟩
abbrev cX1_addSight : ByteArray := prog_3_method_26_code
def yX1_addSight : MethodName := ⟨RX1, "addSight", "(IZ)Z"⟩
abbrev cX1_clearSights : ByteArray := prog_3_method_27_code
def yX1_clearSights : MethodName := ⟨RX1, "clearSights", "()V"⟩
abbrev cX1_sightCount : ByteArray := prog_3_method_28_code
def yX1_sightCount : MethodName := ⟨RX1, "sightCount", "()I"⟩
abbrev cX1_sightsFit : ByteArray := prog_3_method_29_code
def yX1_sightsFit : MethodName := ⟨RX1, "sightsFit", "(I)Z"⟩
def RX2 : String := "RungRights$Descents"
def TX2 : u_T := fun k => match k with
  | _ => ("", "", "", false)
def tyX2 : Nat → FieldType := fun k => match k with
  | _ => .int
abbrev wsX20 : List Cond := u_ws RX2 TX2 0
theorem nmX2 : ∀ a, a < 0 → ∀ b, b < 0 → a ≠ b → (TX2 a).2.1 ≠ (TX2 b).2.1 := by decide +kernel
theorem tyX2_ok : ∀ k, k < 0 → parseFieldDescriptor (TX2 k).2.2.1 = some (tyX2 k) := by decide +kernel
abbrev cX2_canWin : ByteArray := prog_4_method_2_code
def yX2_canWin : MethodName := ⟨RX2, "canWin", "(I)Z"⟩
abbrev cX2_leastWinningMove : ByteArray := prog_4_method_3_code
def yX2_leastWinningMove : MethodName := ⟨RX2, "leastWinningMove", "(I)I"⟩
abbrev cX2_heapsOf : ByteArray := prog_4_method_4_code
def yX2_heapsOf : MethodName := ⟨RX2, "heapsOf", "(I)I"⟩
def RX3 : String := "RungRights$Feet"
def TX3 : u_T := fun k => match k with
  | 0 => ("RungRights$Feet", "chances", "[J", true)
  | 1 => ("RungRights$Feet", "upper", "J", false)
  | _ => ("RungRights$Feet", "lower", "J", false)
def tyX3 : Nat → FieldType := fun k => match k with
  | 0 => .array .long
  | 1 => .long
  | _ => .long
abbrev wsX30 : List Cond := u_ws RX3 TX3 3
theorem nmX3 : ∀ a, a < 3 → ∀ b, b < 3 → a ≠ b → (TX3 a).2.1 ≠ (TX3 b).2.1 := by decide +kernel
theorem tyX3_ok : ∀ k, k < 3 → parseFieldDescriptor (TX3 k).2.2.1 = some (tyX3 k) := by decide +kernel
abbrev cX3_init : ByteArray := prog_5_method_1_code
def yX3_init : MethodName := ⟨RX3, "<init>", "()V"⟩
abbrev cX3_chanceOn : ByteArray := prog_5_method_2_code
def yX3_chanceOn : MethodName := ⟨RX3, "chanceOn", "(II)V"⟩
abbrev cX3_meanStepsTo : ByteArray := prog_5_method_3_code
def yX3_meanStepsTo : MethodName := ⟨RX3, "meanStepsTo", "(II)V"⟩
abbrev cX3_reckonChances : ByteArray := prog_5_method_4_code
def yX3_reckonChances : MethodName := ⟨RX3, "reckonChances", "(I)V"⟩
abbrev cX3_power : ByteArray := prog_5_method_5_code
def yX3_power : MethodName := ⟨RX3, "power", "(II)J"⟩
abbrev cX3_upperNumber : ByteArray := prog_5_method_6_code
def yX3_upperNumber : MethodName := ⟨RX3, "upperNumber", "()J"⟩
abbrev cX3_lowerNumber : ByteArray := prog_5_method_7_code
def yX3_lowerNumber : MethodName := ⟨RX3, "lowerNumber", "()J"⟩
def RX4 : String := "RungRights$Fire"
def TX4 : u_T := fun k => match k with
  | 0 => ("RungRights$Fire", "after", "LRungRights$Brigade;", true)
  | 1 => ("RungRights$Fire", "act", "LRungRights$Act;", true)
  | 2 => ("RungRights$Fire", "acts", "I", false)
  | 3 => ("RungRights$Fire", "steps", "I", false)
  | 4 => ("RungRights$Fire", "paid", "I", false)
  | 5 => ("RungRights$Fire", "actUp", "I", false)
  | 6 => ("RungRights$Fire", "manUp", "I", false)
  | _ => ("RungRights$Fire", "why", "I", false)
def tyX4 : Nat → FieldType := fun k => match k with
  | 0 => .object "RungRights$Brigade"
  | 1 => .object "RungRights$Act"
  | 2 => .int
  | 3 => .int
  | 4 => .int
  | 5 => .int
  | 6 => .int
  | _ => .int
abbrev wsX40 : List Cond := u_ws RX4 TX4 8
theorem nmX4 : ∀ a, a < 8 → ∀ b, b < 8 → a ≠ b → (TX4 a).2.1 ≠ (TX4 b).2.1 := by decide +kernel
theorem tyX4_ok : ∀ k, k < 8 → parseFieldDescriptor (TX4 k).2.2.1 = some (tyX4 k) := by decide +kernel
abbrev cX4_init : ByteArray := prog_6_method_1_code
def yX4_init : MethodName := ⟨RX4, "<init>", "()V"⟩
abbrev cX4_begin : ByteArray := prog_6_method_2_code
def yX4_begin : MethodName := ⟨RX4, "begin", "(LRungRights$Brigade;)V"⟩
abbrev cX4_burn : ByteArray := prog_6_method_3_code
def yX4_burn : MethodName := ⟨RX4, "burn", "(LRungRights$Pad;LRungRights$Brigade;)Z"⟩
abbrev cX4_attempt : ByteArray := prog_6_method_4_code
def yX4_attempt : MethodName := ⟨RX4, "attempt", "(LRungRights$Act;)Z"⟩
abbrev cX4_count : ByteArray := prog_6_method_5_code
def yX4_count : MethodName := ⟨RX4, "count", "(LRungRights$Act;)V"⟩
abbrev cX4_reason : ByteArray := prog_6_method_6_code
def yX4_reason : MethodName := ⟨RX4, "reason", "()I"⟩
abbrev cX4_actsDone : ByteArray := prog_6_method_7_code
def yX4_actsDone : MethodName := ⟨RX4, "actsDone", "()I"⟩
abbrev cX4_stepsMade : ByteArray := prog_6_method_8_code
def yX4_stepsMade : MethodName := ⟨RX4, "stepsMade", "()I"⟩
abbrev cX4_coinsPaid : ByteArray := prog_6_method_9_code
def yX4_coinsPaid : MethodName := ⟨RX4, "coinsPaid", "()I"⟩
abbrev cX4_firstActUp : ByteArray := prog_6_method_10_code
def yX4_firstActUp : MethodName := ⟨RX4, "firstActUp", "()I"⟩
abbrev cX4_firstManUp : ByteArray := prog_6_method_11_code
def yX4_firstManUp : MethodName := ⟨RX4, "firstManUp", "()I"⟩
abbrev cX4_behindIt : ByteArray := prog_6_method_12_code
def yX4_behindIt : MethodName := ⟨RX4, "behindIt", "()LRungRights$Brigade;"⟩
def RX5 : String := "RungRights$Pad"
def TX5 : u_T := fun k => match k with
  | 0 => ("RungRights$Pad", "signs", "[C", true)
  | _ => ("RungRights$Pad", "count", "I", false)
def tyX5 : Nat → FieldType := fun k => match k with
  | 0 => .array .char
  | _ => .int
abbrev wsX50 : List Cond := u_ws RX5 TX5 2
theorem nmX5 : ∀ a, a < 2 → ∀ b, b < 2 → a ≠ b → (TX5 a).2.1 ≠ (TX5 b).2.1 := by decide +kernel
theorem tyX5_ok : ∀ k, k < 2 → parseFieldDescriptor (TX5 k).2.2.1 = some (tyX5 k) := by decide +kernel
abbrev cX5_init : ByteArray := prog_7_method_1_code
def yX5_init : MethodName := ⟨RX5, "<init>", "()V"⟩
abbrev cX5_add : ByteArray := prog_7_method_2_code
def yX5_add : MethodName := ⟨RX5, "add", "(I)Z"⟩
abbrev cX5_clear : ByteArray := prog_7_method_3_code
def yX5_clear : MethodName := ⟨RX5, "clear", "()V"⟩
abbrev cX5_size : ByteArray := prog_7_method_4_code
def yX5_size : MethodName := ⟨RX5, "size", "()I"⟩
abbrev cX5_signAt : ByteArray := prog_7_method_5_code
def yX5_signAt : MethodName := ⟨RX5, "signAt", "(I)C"⟩
abbrev cX5_firstFault : ByteArray := prog_7_method_6_code
def yX5_firstFault : MethodName := ⟨RX5, "firstFault", "()I"⟩
abbrev cX5_endOfAct : ByteArray := prog_7_method_7_code
def yX5_endOfAct : MethodName := ⟨RX5, "endOfAct", "(I)I"⟩
abbrev cX5_firstWrongSign : ByteArray := prog_7_method_8_code
def yX5_firstWrongSign : MethodName := ⟨RX5, "firstWrongSign", "(II)I"⟩
abbrev cX5_needsMore : ByteArray := prog_7_method_9_code
def yX5_needsMore : MethodName := ⟨RX5, "needsMore", "(C)Z"⟩
abbrev cX5_read : ByteArray := prog_7_method_10_code
def yX5_read : MethodName := ⟨RX5, "read", "(IILRungRights$Act;)V"⟩
abbrev cX5_placeOfSign : ByteArray := prog_7_method_11_code
def yX5_placeOfSign : MethodName := ⟨RX5, "placeOfSign", "(C)I"⟩
abbrev cX5_isManSign : ByteArray := prog_7_method_12_code
def yX5_isManSign : MethodName := ⟨RX5, "isManSign", "(C)Z"⟩
abbrev cX5_isRungSign : ByteArray := prog_7_method_13_code
def yX5_isRungSign : MethodName := ⟨RX5, "isRungSign", "(C)Z"⟩
abbrev cX5_isEndOfLadder : ByteArray := prog_7_method_14_code
def yX5_isEndOfLadder : MethodName := ⟨RX5, "isEndOfLadder", "(C)Z"⟩
def RX6 : String := "RungRights$Posts"
def TX6 : u_T := fun k => match k with
  | 0 => ("RungRights$Posts", "open", "[I", true)
  | 1 => ("RungRights$Posts", "post", "[I", true)
  | _ => ("RungRights$Posts", "posted", "I", false)
def tyX6 : Nat → FieldType := fun k => match k with
  | 0 => .array .int
  | 1 => .array .int
  | _ => .int
abbrev wsX60 : List Cond := u_ws RX6 TX6 3
theorem nmX6 : ∀ a, a < 3 → ∀ b, b < 3 → a ≠ b → (TX6 a).2.1 ≠ (TX6 b).2.1 := by decide +kernel
theorem tyX6_ok : ∀ k, k < 3 → parseFieldDescriptor (TX6 k).2.2.1 = some (tyX6 k) := by decide +kernel
abbrev cX6_init : ByteArray := prog_8_method_1_code
def yX6_init : MethodName := ⟨RX6, "<init>", "()V"⟩
abbrev cX6_assign : ByteArray := prog_8_method_2_code
def yX6_assign : MethodName := ⟨RX6, "assign", "(LRungRights$Brigade;)V"⟩
abbrev cX6_lowestPost : ByteArray := prog_8_method_3_code
def yX6_lowestPost : MethodName := ⟨RX6, "lowestPost", "(II)I"⟩
abbrev cX6_mostFrom : ByteArray := prog_8_method_4_code
def yX6_mostFrom : MethodName := ⟨RX6, "mostFrom", "(II)I"⟩
abbrev cX6_menPosted : ByteArray := prog_8_method_5_code
def yX6_menPosted : MethodName := ⟨RX6, "menPosted", "()I"⟩
abbrev cX6_rungOf : ByteArray := prog_8_method_6_code
def yX6_rungOf : MethodName := ⟨RX6, "rungOf", "(I)I"⟩
def RX7 : String := "RungRights$Routes"
def TX7 : u_T := fun k => match k with
  | _ => ("RungRights$Routes", "settled", "[I", true)
def tyX7 : Nat → FieldType := fun k => match k with
  | _ => .array .int
abbrev wsX70 : List Cond := u_ws RX7 TX7 1
theorem nmX7 : ∀ a, a < 1 → ∀ b, b < 1 → a ≠ b → (TX7 a).2.1 ≠ (TX7 b).2.1 := by decide +kernel
theorem tyX7_ok : ∀ k, k < 1 → parseFieldDescriptor (TX7 k).2.2.1 = some (tyX7 k) := by decide +kernel
abbrev cX7_init : ByteArray := prog_9_method_1_code
def yX7_init : MethodName := ⟨RX7, "<init>", "()V"⟩
abbrev cX7_fewestSteps : ByteArray := prog_9_method_2_code
def yX7_fewestSteps : MethodName := ⟨RX7, "fewestSteps", "(LRungRights$Brigade;I)I"⟩
abbrev cX7_firstStep : ByteArray := prog_9_method_3_code
def yX7_firstStep : MethodName := ⟨RX7, "firstStep", "(LRungRights$Brigade;I)I"⟩
abbrev cX7_settleSteps : ByteArray := prog_9_method_4_code
def yX7_settleSteps : MethodName := ⟨RX7, "settleSteps", "(LRungRights$Brigade;I)V"⟩
abbrev cX7_countUp : ByteArray := prog_9_method_5_code
def yX7_countUp : MethodName := ⟨RX7, "countUp", "(LRungRights$Brigade;I)I"⟩
abbrev cX7_fewestLeases : ByteArray := prog_9_method_6_code
def yX7_fewestLeases : MethodName := ⟨RX7, "fewestLeases", "(LRungRights$Brigade;I)I"⟩
abbrev cX7_leastLeased : ByteArray := prog_9_method_7_code
def yX7_leastLeased : MethodName := ⟨RX7, "leastLeased", "(LRungRights$Brigade;I)I"⟩
abbrev cX7_leaseCost : ByteArray := prog_9_method_8_code
def yX7_leaseCost : MethodName := ⟨RX7, "leaseCost", "(LRungRights$Brigade;I)I"⟩
abbrev cX7_settledAt : ByteArray := prog_9_method_9_code
def yX7_settledAt : MethodName := ⟨RX7, "settledAt", "(I)I"⟩
abbrev cX7_isOpen : ByteArray := prog_9_method_10_code
def yX7_isOpen : MethodName := ⟨RX7, "isOpen", "(II)Z"⟩
def RX8 : String := "RungRights$Trails"
def TX8 : u_T := fun k => match k with
  | 0 => ("RungRights$Trails", "codes", "[I", true)
  | 1 => ("RungRights$Trails", "wetRungs", "[I", true)
  | _ => ("RungRights$Trails", "count", "I", false)
def tyX8 : Nat → FieldType := fun k => match k with
  | 0 => .array .int
  | 1 => .array .int
  | _ => .int
abbrev wsX80 : List Cond := u_ws RX8 TX8 3
theorem nmX8 : ∀ a, a < 3 → ∀ b, b < 3 → a ≠ b → (TX8 a).2.1 ≠ (TX8 b).2.1 := by decide +kernel
theorem tyX8_ok : ∀ k, k < 3 → parseFieldDescriptor (TX8 k).2.2.1 = some (tyX8 k) := by decide +kernel
abbrev cX8_init : ByteArray := prog_10_method_1_code
def yX8_init : MethodName := ⟨RX8, "<init>", "()V"⟩
abbrev cX8_find : ByteArray := prog_10_method_2_code
def yX8_find : MethodName := ⟨RX8, "find", "(LRungRights$Brigade;)V"⟩
abbrev cX8_trailOf : ByteArray := prog_10_method_3_code
def yX8_trailOf : MethodName := ⟨RX8, "trailOf", "(LRungRights$Brigade;II)I"⟩
abbrev cX8_nextPlace : ByteArray := prog_10_method_4_code
def yX8_nextPlace : MethodName := ⟨RX8, "nextPlace", "(LRungRights$Brigade;III)I"⟩
abbrev cX8_size : ByteArray := prog_10_method_5_code
def yX8_size : MethodName := ⟨RX8, "size", "()I"⟩
abbrev cX8_codeAt : ByteArray := prog_10_method_6_code
def yX8_codeAt : MethodName := ⟨RX8, "codeAt", "(I)I"⟩
abbrev cX8_rungToFeel : ByteArray := prog_10_method_7_code
def yX8_rungToFeel : MethodName := ⟨RX8, "rungToFeel", "()I"⟩
abbrev cX8_mostLeftBy : ByteArray := prog_10_method_8_code
def yX8_mostLeftBy : MethodName := ⟨RX8, "mostLeftBy", "(I)I"⟩
def RX9 : String := "RungRights"
def TX9 : u_T := fun k => match k with
  | 0 => ("RungRights", "brigade", "LRungRights$Brigade;", true)
  | 1 => ("RungRights", "pad", "LRungRights$Pad;", true)
  | 2 => ("RungRights", "act", "LRungRights$Act;", true)
  | 3 => ("RungRights", "fire", "LRungRights$Fire;", true)
  | 4 => ("RungRights", "routes", "LRungRights$Routes;", true)
  | 5 => ("RungRights", "posts", "LRungRights$Posts;", true)
  | 6 => ("RungRights", "trails", "LRungRights$Trails;", true)
  | 7 => ("RungRights", "feet", "LRungRights$Feet;", true)
  | _ => ("RungRights", "images", "[LRungRights$Brigade;", true)
def tyX9 : Nat → FieldType := fun k => match k with
  | 0 => .object "RungRights$Brigade"
  | 1 => .object "RungRights$Pad"
  | 2 => .object "RungRights$Act"
  | 3 => .object "RungRights$Fire"
  | 4 => .object "RungRights$Routes"
  | 5 => .object "RungRights$Posts"
  | 6 => .object "RungRights$Trails"
  | 7 => .object "RungRights$Feet"
  | _ => .array (.object "RungRights$Brigade")
abbrev wsX90 : List Cond := u_ws RX9 TX9 9
theorem nmX9 : ∀ a, a < 9 → ∀ b, b < 9 → a ≠ b → (TX9 a).2.1 ≠ (TX9 b).2.1 := by decide +kernel
theorem tyX9_ok : ∀ k, k < 9 → parseFieldDescriptor (TX9 k).2.2.1 = some (tyX9 k) := by decide +kernel
abbrev cX9_init : ByteArray := prog_1_method_1_code
def yX9_init : MethodName := ⟨RX9, "<init>", "()V"⟩
abbrev cX9_rung : ByteArray := prog_1_method_2_code
def yX9_rung : MethodName := ⟨RX9, "rung", "(IIII)I"⟩
abbrev cX9_man : ByteArray := prog_1_method_3_code
def yX9_man : MethodName := ⟨RX9, "man", "(IIII)I"⟩
abbrev cX9_say : ByteArray := prog_1_method_4_code
def yX9_say : MethodName := ⟨RX9, "say", "(I)I"⟩
abbrev cX9_wipe : ByteArray := prog_1_method_5_code
def yX9_wipe : MethodName := ⟨RX9, "wipe", "()I"⟩
abbrev cX9_fault : ByteArray := prog_1_method_6_code
def yX9_fault : MethodName := ⟨RX9, "fault", "()I"⟩
abbrev cX9_judge : ByteArray := prog_1_method_7_code
def yX9_judge : MethodName := ⟨RX9, "judge", "(I)I"⟩
abbrev cX9_done : ByteArray := prog_1_method_8_code
def yX9_done : MethodName := ⟨RX9, "done", "()I"⟩
abbrev cX9_behind : ByteArray := prog_1_method_9_code
def yX9_behind : MethodName := ⟨RX9, "behind", "(II)I"⟩
abbrev cX9_bears : ByteArray := prog_1_method_10_code
def yX9_bears : MethodName := ⟨RX9, "bears", "(II)I"⟩
abbrev cX9_then : ByteArray := prog_1_method_11_code
def yX9_then : MethodName := ⟨RX9, "then", "(I)I"⟩
abbrev cX9_climb : ByteArray := prog_1_method_12_code
def yX9_climb : MethodName := ⟨RX9, "climb", "(II)I"⟩
abbrev cX9_ways : ByteArray := prog_1_method_13_code
def yX9_ways : MethodName := ⟨RX9, "ways", "(I)I"⟩
abbrev cX9_leases : ByteArray := prog_1_method_14_code
def yX9_leases : MethodName := ⟨RX9, "leases", "(II)I"⟩
abbrev cX9_stand : ByteArray := prog_1_method_15_code
def yX9_stand : MethodName := ⟨RX9, "stand", "(I)I"⟩
abbrev cX9_felt : ByteArray := prog_1_method_16_code
def yX9_felt : MethodName := ⟨RX9, "felt", "(IZ)I"⟩
abbrev cX9_forget : ByteArray := prog_1_method_17_code
def yX9_forget : MethodName := ⟨RX9, "forget", "()I"⟩
abbrev cX9_ups : ByteArray := prog_1_method_18_code
def yX9_ups : MethodName := ⟨RX9, "ups", "(I)I"⟩
abbrev cX9_ask : ByteArray := prog_1_method_19_code
def yX9_ask : MethodName := ⟨RX9, "ask", "(I)I"⟩
abbrev cX9_down : ByteArray := prog_1_method_20_code
def yX9_down : MethodName := ⟨RX9, "down", "(II)I"⟩
abbrev cX9_foot : ByteArray := prog_1_method_21_code
def yX9_foot : MethodName := ⟨RX9, "foot", "(IIII)J"⟩
abbrev cX9_year : ByteArray := prog_1_method_22_code
def yX9_year : MethodName := ⟨RX9, "year", "(III)I"⟩
abbrev cX9_image : ByteArray := prog_1_method_23_code
def yX9_image : MethodName := ⟨RX9, "image", "(I)I"⟩
abbrev cX9_restore : ByteArray := prog_1_method_24_code
def yX9_restore : MethodName := ⟨RX9, "restore", "(I)I"⟩
abbrev cX9_told : ByteArray := prog_1_method_25_code
def yX9_told : MethodName := ⟨RX9, "told", "(I)I"⟩
abbrev cX9_toldOfMan : ByteArray := prog_1_method_26_code
def yX9_toldOfMan : MethodName := ⟨RX9, "toldOfMan", "(II)I"⟩
abbrev cX9_toldOfRung : ByteArray := prog_1_method_27_code
def yX9_toldOfRung : MethodName := ⟨RX9, "toldOfRung", "(I)I"⟩
abbrev cX9_passYear : ByteArray := prog_1_method_28_code
def yX9_passYear : MethodName := ⟨RX9, "passYear", "(II)V"⟩
abbrev cX9_within : ByteArray := prog_1_method_29_code
def yX9_within : MethodName := ⟨RX9, "within", "(III)Z"⟩
abbrev cX9_isRung : ByteArray := prog_1_method_30_code
def yX9_isRung : MethodName := ⟨RX9, "isRung", "(I)Z"⟩
abbrev cX9_isPlace : ByteArray := prog_1_method_31_code
def yX9_isPlace : MethodName := ⟨RX9, "isPlace", "(I)Z"⟩
abbrev cX9_isMan : ByteArray := prog_1_method_32_code
def yX9_isMan : MethodName := ⟨RX9, "isMan", "(I)Z"⟩
abbrev cX9_isManOrNobody : ByteArray := prog_1_method_33_code
def yX9_isManOrNobody : MethodName := ⟨RX9, "isManOrNobody", "(I)Z"⟩
abbrev cX9_isImage : ByteArray := prog_1_method_34_code
def yX9_isImage : MethodName := ⟨RX9, "isImage", "(I)Z"⟩
abbrev cX9_orNone : ByteArray := prog_1_method_35_code
def yX9_orNone : MethodName := ⟨RX9, "orNone", "(I)I"⟩
abbrev cX9_bitOf : ByteArray := prog_1_method_36_code
def yX9_bitOf : MethodName := ⟨RX9, "bitOf", "(I)I"⟩
abbrev cX9_rightsFit : ByteArray := prog_1_method_37_code
def yX9_rightsFit : MethodName := ⟨RX9, "rightsFit", "(III)Z"⟩
def RX10 : String := "RungRightsModel"
def TX10 : u_T := fun k => match k with
  | 0 => ("RungRightsModel", "book", "[I", true)
  | 1 => ("RungRightsModel", "now", "[I", true)
  | 2 => ("RungRightsModel", "sights", "I", false)
  | 3 => ("RungRightsModel", "sight", "[I", true)
  | 4 => ("RungRightsModel", "signs", "I", false)
  | 5 => ("RungRightsModel", "pad", "[I", true)
  | 6 => ("RungRightsModel", "steps", "I", false)
  | 7 => ("RungRightsModel", "paid", "I", false)
  | 8 => ("RungRightsModel", "roofAt", "I", false)
  | 9 => ("RungRightsModel", "roofWho", "I", false)
  | 10 => ("RungRightsModel", "reason", "I", false)
  | 11 => ("RungRightsModel", "acts", "I", false)
  | 12 => ("RungRightsModel", "few", "[I", true)
  | 13 => ("RungRightsModel", "rows", "[I", true)
  | 14 => ("RungRightsModel", "can", "[Z", true)
  | 15 => ("RungRightsModel", "wins", "[Z", true)
  | 16 => ("RungRightsModel", "odds", "[J", true)
  | 17 => ("RungRightsModel", "means", "[J", true)
  | 18 => ("RungRightsModel", "image", "[I", true)
  | _ => ("RungRightsModel", "isKept", "[Z", true)
def tyX10 : Nat → FieldType := fun k => match k with
  | 0 => .array .int
  | 1 => .array .int
  | 2 => .int
  | 3 => .array .int
  | 4 => .int
  | 5 => .array .int
  | 6 => .int
  | 7 => .int
  | 8 => .int
  | 9 => .int
  | 10 => .int
  | 11 => .int
  | 12 => .array .int
  | 13 => .array .int
  | 14 => .array .boolean
  | 15 => .array .boolean
  | 16 => .array .long
  | 17 => .array .long
  | 18 => .array .int
  | _ => .array .boolean
abbrev wsX100 : List Cond := u_ws RX10 TX10 20
theorem nmX10 : ∀ a, a < 20 → ∀ b, b < 20 → a ≠ b → (TX10 a).2.1 ≠ (TX10 b).2.1 := by decide +kernel
theorem tyX10_ok : ∀ k, k < 20 → parseFieldDescriptor (TX10 k).2.2.1 = some (tyX10 k) := by decide +kernel
abbrev cX10_init : ByteArray := prog_12_method_1_code
def yX10_init : MethodName := ⟨RX10, "<init>", "()V"⟩
abbrev cX10_in : ByteArray := prog_12_method_2_code
def yX10_in : MethodName := ⟨RX10, "in", "(III)Z"⟩
abbrev cX10_has : ByteArray := prog_12_method_3_code
def yX10_has : MethodName := ⟨RX10, "has", "(II)Z"⟩
abbrev cX10_bits : ByteArray := prog_12_method_4_code
def yX10_bits : MethodName := ⟨RX10, "bits", "(I)I"⟩
abbrev cX10_isRung : ByteArray := prog_12_method_5_code
def yX10_isRung : MethodName := ⟨RX10, "isRung", "(I)Z"⟩
abbrev cX10_isMan : ByteArray := prog_12_method_6_code
def yX10_isMan : MethodName := ⟨RX10, "isMan", "(I)Z"⟩
abbrev cX10_asNow : ByteArray := prog_12_method_7_code
def yX10_asNow : MethodName := ⟨RX10, "asNow", "()V"⟩
abbrev cX10_isMissing : ByteArray := prog_12_method_8_code
def yX10_isMissing : MethodName := ⟨RX10, "isMissing", "(I)Z"⟩
abbrev cX10_may : ByteArray := prog_12_method_9_code
def yX10_may : MethodName := ⟨RX10, "may", "(II)Z"⟩
abbrev cX10_standing : ByteArray := prog_12_method_10_code
def yX10_standing : MethodName := ⟨RX10, "standing", "(I)I"⟩
abbrev cX10_rung : ByteArray := prog_12_method_11_code
def yX10_rung : MethodName := ⟨RX10, "rung", "(IIII)I"⟩
abbrev cX10_man : ByteArray := prog_12_method_12_code
def yX10_man : MethodName := ⟨RX10, "man", "(IIII)I"⟩
abbrev cX10_say : ByteArray := prog_12_method_13_code
def yX10_say : MethodName := ⟨RX10, "say", "(I)I"⟩
abbrev cX10_wipe : ByteArray := prog_12_method_14_code
def yX10_wipe : MethodName := ⟨RX10, "wipe", "()I"⟩
abbrev cX10_step : ByteArray := prog_12_method_15_code
def yX10_step : MethodName := ⟨RX10, "step", "(II)I"⟩
abbrev cX10_faultOf : ByteArray := prog_12_method_16_code
def yX10_faultOf : MethodName := ⟨RX10, "faultOf", "()I"⟩
abbrev cX10_fault : ByteArray := prog_12_method_17_code
def yX10_fault : MethodName := ⟨RX10, "fault", "()I"⟩
abbrev cX10_goTo : ByteArray := prog_12_method_18_code
def yX10_goTo : MethodName := ⟨RX10, "goTo", "(II)I"⟩
abbrev cX10_leaseTo : ByteArray := prog_12_method_19_code
def yX10_leaseTo : MethodName := ⟨RX10, "leaseTo", "(II)I"⟩
abbrev cX10_lose : ByteArray := prog_12_method_20_code
def yX10_lose : MethodName := ⟨RX10, "lose", "(IZ)I"⟩
abbrev cX10_endBeat : ByteArray := prog_12_method_21_code
def yX10_endBeat : MethodName := ⟨RX10, "endBeat", "()I"⟩
abbrev cX10_oneAct : ByteArray := prog_12_method_22_code
def yX10_oneAct : MethodName := ⟨RX10, "oneAct", "(I)I"⟩
abbrev cX10_roof : ByteArray := prog_12_method_23_code
def yX10_roof : MethodName := ⟨RX10, "roof", "()I"⟩
abbrev cX10_goFires : ByteArray := prog_12_method_24_code
def yX10_goFires : MethodName := ⟨RX10, "goFires", "()I"⟩
abbrev cX10_judge : ByteArray := prog_12_method_25_code
def yX10_judge : MethodName := ⟨RX10, "judge", "(I)I"⟩
abbrev cX10_barOfFires : ByteArray := prog_12_method_26_code
def yX10_barOfFires : MethodName := ⟨RX10, "barOfFires", "()I"⟩
abbrev cX10_done : ByteArray := prog_12_method_27_code
def yX10_done : MethodName := ⟨RX10, "done", "()I"⟩
abbrev cX10_mayOnes : ByteArray := prog_12_method_28_code
def yX10_mayOnes : MethodName := ⟨RX10, "mayOnes", "(I)I"⟩
abbrev cX10_behind : ByteArray := prog_12_method_29_code
def yX10_behind : MethodName := ⟨RX10, "behind", "(II)I"⟩
abbrev cX10_bears : ByteArray := prog_12_method_30_code
def yX10_bears : MethodName := ⟨RX10, "bears", "(II)I"⟩
abbrev cX10_then : ByteArray := prog_12_method_31_code
def yX10_then : MethodName := ⟨RX10, "then", "(I)I"⟩
abbrev cX10_layClimb : ByteArray := prog_12_method_32_code
def yX10_layClimb : MethodName := ⟨RX10, "layClimb", "(II)V"⟩
abbrev cX10_climb : ByteArray := prog_12_method_33_code
def yX10_climb : MethodName := ⟨RX10, "climb", "(II)I"⟩
abbrev cX10_ways : ByteArray := prog_12_method_34_code
def yX10_ways : MethodName := ⟨RX10, "ways", "(I)I"⟩
abbrev cX10_leases : ByteArray := prog_12_method_35_code
def yX10_leases : MethodName := ⟨RX10, "leases", "(II)I"⟩
abbrev cX10_most : ByteArray := prog_12_method_36_code
def yX10_most : MethodName := ⟨RX10, "most", "(II)I"⟩
abbrev cX10_stand : ByteArray := prog_12_method_37_code
def yX10_stand : MethodName := ⟨RX10, "stand", "(I)I"⟩
abbrev cX10_wetOnes : ByteArray := prog_12_method_38_code
def yX10_wetOnes : MethodName := ⟨RX10, "wetOnes", "(I)I"⟩
abbrev cX10_felt : ByteArray := prog_12_method_39_code
def yX10_felt : MethodName := ⟨RX10, "felt", "(IZ)I"⟩
abbrev cX10_forget : ByteArray := prog_12_method_40_code
def yX10_forget : MethodName := ⟨RX10, "forget", "()I"⟩
abbrev cX10_isFit : ByteArray := prog_12_method_41_code
def yX10_isFit : MethodName := ⟨RX10, "isFit", "(I)Z"⟩
abbrev cX10_ups : ByteArray := prog_12_method_42_code
def yX10_ups : MethodName := ⟨RX10, "ups", "(I)I"⟩
abbrev cX10_ask : ByteArray := prog_12_method_43_code
def yX10_ask : MethodName := ⟨RX10, "ask", "(I)I"⟩
abbrev cX10_firstDown : ByteArray := prog_12_method_44_code
def yX10_firstDown : MethodName := ⟨RX10, "firstDown", "(I)I"⟩
abbrev cX10_down : ByteArray := prog_12_method_45_code
def yX10_down : MethodName := ⟨RX10, "down", "(II)I"⟩
abbrev cX10_foot : ByteArray := prog_12_method_46_code
def yX10_foot : MethodName := ⟨RX10, "foot", "(IIII)J"⟩
abbrev cX10_year : ByteArray := prog_12_method_47_code
def yX10_year : MethodName := ⟨RX10, "year", "(III)I"⟩
abbrev cX10_image : ByteArray := prog_12_method_48_code
def yX10_image : MethodName := ⟨RX10, "image", "(I)I"⟩
abbrev cX10_restore : ByteArray := prog_12_method_49_code
def yX10_restore : MethodName := ⟨RX10, "restore", "(I)I"⟩
abbrev cX10_told : ByteArray := prog_12_method_50_code
def yX10_told : MethodName := ⟨RX10, "told", "(I)I"⟩
def RJ6 : String := "java/lang/Integer"
def TJ6 : u_T := fun k => match k with
  | _ => ("", "", "", false)
def tyJ6 : Nat → FieldType := fun k => match k with
  | _ => .int
abbrev wsJ60 : List Cond := u_ws RJ6 TJ6 0
theorem nmJ6 : ∀ a, a < 0 → ∀ b, b < 0 → a ≠ b → (TJ6 a).2.1 ≠ (TJ6 b).2.1 := by decide +kernel
theorem tyJ6_ok : ∀ k, k < 0 → parseFieldDescriptor (TJ6 k).2.2.1 = some (tyJ6 k) := by decide +kernel
abbrev cJ6_bitCount_0f7a4 : ByteArray := prog_13_method_49_code
def yJ6_bitCount_0f7a4 : MethodName := ⟨RJ6, "bitCount", "(I)I"⟩
def RJ9 : String := "java/lang/Math"
def TJ9 : u_T := fun k => match k with
  | _ => ("", "", "", false)
def tyJ9 : Nat → FieldType := fun k => match k with
  | _ => .int
abbrev wsJ90 : List Cond := u_ws RJ9 TJ9 0
theorem nmJ9 : ∀ a, a < 0 → ∀ b, b < 0 → a ≠ b → (TJ9 a).2.1 ≠ (TJ9 b).2.1 := by decide +kernel
theorem tyJ9_ok : ∀ k, k < 0 → parseFieldDescriptor (TJ9 k).2.2.1 = some (tyJ9 k) := by decide +kernel
abbrev cJ9_abs_0f7a4 : ByteArray := prog_14_method_59_code
def yJ9_abs_0f7a4 : MethodName := ⟨RJ9, "abs", "(I)I"⟩
abbrev cJ9_max_7cf53 : ByteArray := prog_14_method_65_code
def yJ9_max_7cf53 : MethodName := ⟨RJ9, "max", "(II)I"⟩
abbrev cJ9_min_7cf53 : ByteArray := prog_14_method_69_code
def yJ9_min_7cf53 : MethodName := ⟨RJ9, "min", "(II)I"⟩
def RJ10 : String := "java/lang/System"
def TJ10 : u_T := fun k => match k with
  | _ => ("", "", "", false)
def tyJ10 : Nat → FieldType := fun k => match k with
  | _ => .int
abbrev wsJ100 : List Cond := u_ws RJ10 TJ10 0
theorem nmJ10 : ∀ a, a < 0 → ∀ b, b < 0 → a ≠ b → (TJ10 a).2.1 ≠ (TJ10 b).2.1 := by decide +kernel
theorem tyJ10_ok : ∀ k, k < 0 → parseFieldDescriptor (TJ10 k).2.2.1 = some (tyJ10 k) := by decide +kernel
def RJ7 : String := "java/util/Arrays"
def TJ7 : u_T := fun k => match k with
  | _ => ("", "", "", false)
def tyJ7 : Nat → FieldType := fun k => match k with
  | _ => .int
abbrev wsJ70 : List Cond := u_ws RJ7 TJ7 0
theorem nmJ7 : ∀ a, a < 0 → ∀ b, b < 0 → a ≠ b → (TJ7 a).2.1 ≠ (TJ7 b).2.1 := by decide +kernel
theorem tyJ7_ok : ∀ k, k < 0 → parseFieldDescriptor (TJ7 k).2.2.1 = some (tyJ7 k) := by decide +kernel
abbrev cJ7_fill_53178 : ByteArray := prog_16_method_103_code
def yJ7_fill_53178 : MethodName := ⟨RJ7, "fill", "([II)V"⟩
def RL : String := "RungRightsLaw"
abbrev cL_law : ByteArray := code
def yL_law : MethodName := ⟨RL, "law", "([I)Z"⟩
def wsL_law_r1 : List Cond := [Cond.classLink RL 7 RX9, Cond.instantiable RX9 9, Cond.initialized RX9, Cond.classLink RL 10 RX10, Cond.instantiable RX10 20, Cond.initialized RX10, Cond.methodLink RL 9 yX9_init, Cond.instanceMethod yX9_init, Cond.code yX9_init cX9_init 1 none, Cond.methodLink RX9 3 objectInit, Cond.instanceMethod objectInit, Cond.code objectInit ⟨#[0xb1]⟩ 1 none, Cond.classLink RX9 9 RX1, Cond.instantiable RX1 11, Cond.initialized RX1, Cond.fieldLink RX9 12 "RungRights" "brigade" "LRungRights$Brigade;", Cond.classLink RX9 16 RX5, Cond.instantiable RX5 2, Cond.initialized RX5, Cond.fieldLink RX9 19 "RungRights" "pad" "LRungRights$Pad;", Cond.classLink RX9 23 RX0, Cond.instantiable RX0 3, Cond.initialized RX0, Cond.fieldLink RX9 26 "RungRights" "act" "LRungRights$Act;"]
def wsL_law_r2 : List Cond := [Cond.classLink RX9 30 RX4, Cond.instantiable RX4 8, Cond.initialized RX4, Cond.fieldLink RX9 33 "RungRights" "fire" "LRungRights$Fire;", Cond.classLink RX9 37 RX7, Cond.instantiable RX7 1, Cond.initialized RX7, Cond.fieldLink RX9 40 "RungRights" "routes" "LRungRights$Routes;", Cond.classLink RX9 44 RX6, Cond.instantiable RX6 3, Cond.initialized RX6, Cond.fieldLink RX9 47 "RungRights" "posts" "LRungRights$Posts;", Cond.classLink RX9 51 RX8, Cond.instantiable RX8 3, Cond.initialized RX8, Cond.fieldLink RX9 54 "RungRights" "trails" "LRungRights$Trails;", Cond.classLink RX9 58 RX3, Cond.instantiable RX3 3, Cond.initialized RX3, Cond.fieldLink RX9 61 "RungRights" "feet" "LRungRights$Feet;", Cond.fieldLink RX9 65 "RungRights" "images" "[LRungRights$Brigade;", Cond.methodLink RX9 11 yX1_init, Cond.instanceMethod yX1_init, Cond.code yX1_init cX1_init 1 none]
def wsL_law_r3 : List Cond := [Cond.methodLink RX1 3 objectInit, Cond.arrayClass .int, Cond.fieldLink RX1 9 "RungRights$Brigade" "owner" "[I", Cond.fieldLink RX1 15 "RungRights$Brigade" "leaser" "[I", Cond.fieldLink RX1 18 "RungRights$Brigade" "missing" "I", Cond.fieldLink RX1 22 "RungRights$Brigade" "stride" "[I", Cond.fieldLink RX1 25 "RungRights$Brigade" "coins" "[I", Cond.fieldLink RX1 28 "RungRights$Brigade" "place" "[I", Cond.fieldLink RX1 31 "RungRights$Brigade" "stepped" "I", Cond.fieldLink RX1 34 "RungRights$Brigade" "beat" "I", Cond.fieldLink RX1 37 "RungRights$Brigade" "sights" "I", Cond.fieldLink RX1 40 "RungRights$Brigade" "wet" "I", Cond.fieldLink RX1 43 "RungRights$Brigade" "dry" "I", Cond.methodLink RX1 46 yJ7_fill_53178, Cond.static yJ7_fill_53178, Cond.initialized RJ7, Cond.code yJ7_fill_53178 cJ7_fill_53178 4 none, Cond.instanceMethod yX5_init, Cond.code yX5_init cX5_init 1 none, Cond.methodLink RX5 3 objectInit, Cond.arrayClass .char, Cond.fieldLink RX5 9 "RungRights$Pad" "signs" "[C", Cond.fieldLink RX5 15 "RungRights$Pad" "count" "I", Cond.instanceMethod yX0_init]
def wsL_law_r4 : List Cond := [Cond.code yX0_init cX0_init 1 none, Cond.methodLink RX0 3 objectInit, Cond.fieldLink RX0 11 "RungRights$Act" "kind" "I", Cond.fieldLink RX0 15 "RungRights$Act" "man" "I", Cond.fieldLink RX0 18 "RungRights$Act" "place" "I", Cond.instanceMethod yX4_init, Cond.code yX4_init cX4_init 1 none, Cond.methodLink RX4 3 objectInit, Cond.classLink RX4 9 RX1, Cond.fieldLink RX4 12 "RungRights$Fire" "after" "LRungRights$Brigade;", Cond.classLink RX4 18 RX0, Cond.fieldLink RX4 21 "RungRights$Fire" "act" "LRungRights$Act;", Cond.fieldLink RX4 25 "RungRights$Fire" "acts" "I", Cond.fieldLink RX4 29 "RungRights$Fire" "steps" "I", Cond.fieldLink RX4 32 "RungRights$Fire" "paid" "I", Cond.fieldLink RX4 35 "RungRights$Fire" "actUp" "I", Cond.fieldLink RX4 38 "RungRights$Fire" "manUp" "I", Cond.fieldLink RX4 41 "RungRights$Fire" "why" "I", Cond.methodLink RX4 11 yX1_init, Cond.instanceMethod yX7_init, Cond.code yX7_init cX7_init 1 none, Cond.methodLink RX7 3 objectInit, Cond.fieldLink RX7 9 "RungRights$Routes" "settled" "[I", Cond.instanceMethod yX6_init]
def wsL_law_r5 : List Cond := [Cond.code yX6_init cX6_init 1 none, Cond.methodLink RX6 3 objectInit, Cond.fieldLink RX6 9 "RungRights$Posts" "open" "[I", Cond.fieldLink RX6 15 "RungRights$Posts" "post" "[I", Cond.fieldLink RX6 18 "RungRights$Posts" "posted" "I", Cond.instanceMethod yX8_init, Cond.code yX8_init cX8_init 1 none, Cond.methodLink RX8 3 objectInit, Cond.fieldLink RX8 9 "RungRights$Trails" "codes" "[I", Cond.fieldLink RX8 15 "RungRights$Trails" "wetRungs" "[I", Cond.fieldLink RX8 18 "RungRights$Trails" "count" "I", Cond.instanceMethod yX3_init, Cond.code yX3_init cX3_init 1 none, Cond.methodLink RX3 3 objectInit, Cond.arrayClass .long, Cond.fieldLink RX3 9 "RungRights$Feet" "chances" "[J", Cond.fieldLink RX3 15 "RungRights$Feet" "upper" "J", Cond.fieldLink RX3 19 "RungRights$Feet" "lower" "J", Cond.methodLink RL 12 yX10_init, Cond.instanceMethod yX10_init, Cond.code yX10_init cX10_init 2 none, Cond.methodLink RX10 1 objectInit, Cond.fieldLink RX10 7 "RungRightsModel" "book" "[I", Cond.fieldLink RX10 13 "RungRightsModel" "now" "[I"]
def wsL_law_r6 : List Cond := [Cond.fieldLink RX10 16 "RungRightsModel" "sight" "[I", Cond.fieldLink RX10 19 "RungRightsModel" "pad" "[I", Cond.fieldLink RX10 22 "RungRightsModel" "few" "[I", Cond.fieldLink RX10 25 "RungRightsModel" "rows" "[I", Cond.arrayClass .boolean, Cond.fieldLink RX10 28 "RungRightsModel" "can" "[Z", Cond.fieldLink RX10 32 "RungRightsModel" "wins" "[Z", Cond.fieldLink RX10 35 "RungRightsModel" "odds" "[J", Cond.fieldLink RX10 39 "RungRightsModel" "means" "[J", Cond.fieldLink RX10 42 "RungRightsModel" "image" "[I", Cond.fieldLink RX10 45 "RungRightsModel" "isKept" "[Z", Cond.methodLink RL 13 yX9_rung, Cond.instanceMethod yX9_rung, Cond.selects RX9 yX9_rung yX9_rung, Cond.code yX9_rung cX9_rung 6 (some .int), Cond.methodLink RX9 69 yX9_isRung, Cond.static yX9_isRung, Cond.code yX9_isRung cX9_isRung 1 (some .boolean), Cond.methodLink RX9 73 yX9_isManOrNobody, Cond.static yX9_isManOrNobody, Cond.code yX9_isManOrNobody cX9_isManOrNobody 1 (some .boolean), Cond.methodLink RX9 91 yX9_isMan, Cond.static yX9_isMan, Cond.code yX9_isMan cX9_isMan 1 (some .boolean)]
def wsL_law_r7 : List Cond := [Cond.methodLink RX9 76 yX9_rightsFit, Cond.static yX9_rightsFit, Cond.code yX9_rightsFit cX9_rightsFit 3 (some .boolean), Cond.methodLink RX9 94 yX9_within, Cond.static yX9_within, Cond.code yX9_within cX9_within 3 (some .boolean), Cond.methodLink RX9 80 yX1_ownerOf, Cond.instanceMethod yX1_ownerOf, Cond.selects RX1 yX1_ownerOf yX1_ownerOf, Cond.code yX1_ownerOf cX1_ownerOf 2 (some .int), Cond.methodLink RX9 84 yX1_setRung, Cond.instanceMethod yX1_setRung, Cond.selects RX1 yX1_setRung yX1_setRung, Cond.code yX1_setRung cX1_setRung 5 none, Cond.static yX9_bitOf, Cond.code yX9_bitOf cX9_bitOf 1 (some .int), Cond.methodLink RX9 88 yX9_orNone, Cond.static yX9_orNone, Cond.code yX9_orNone cX9_orNone 1 (some .int), Cond.methodLink RL 17 yX10_rung, Cond.instanceMethod yX10_rung, Cond.selects RX10 yX10_rung yX10_rung, Cond.code yX10_rung cX10_rung 7 (some .int), Cond.methodLink RX10 73 yX10_isRung]
def wsL_law_r8 : List Cond := [Cond.static yX10_isRung, Cond.code yX10_isRung cX10_isRung 1 (some .boolean), Cond.methodLink RX10 48 yX10_in, Cond.static yX10_in, Cond.code yX10_in cX10_in 3 (some .boolean), Cond.methodLink RL 18 yX9_man, Cond.instanceMethod yX9_man, Cond.selects RX9 yX9_man yX9_man, Cond.code yX9_man cX9_man 6 (some .int), Cond.methodLink RX9 97 yX9_isPlace, Cond.static yX9_isPlace, Cond.code yX9_isPlace cX9_isPlace 1 (some .boolean), Cond.methodLink RX9 100 yX1_placeOf, Cond.instanceMethod yX1_placeOf, Cond.selects RX1 yX1_placeOf yX1_placeOf, Cond.code yX1_placeOf cX1_placeOf 2 (some .int), Cond.methodLink RX9 103 yX1_coinsOf, Cond.instanceMethod yX1_coinsOf, Cond.selects RX1 yX1_coinsOf yX1_coinsOf, Cond.code yX1_coinsOf cX1_coinsOf 2 (some .int), Cond.methodLink RX9 106 yX1_setMan, Cond.instanceMethod yX1_setMan, Cond.selects RX1 yX1_setMan yX1_setMan, Cond.code yX1_setMan cX1_setMan 5 none]
def wsL_law_r9 : List Cond := [Cond.methodLink RL 21 yX10_man, Cond.instanceMethod yX10_man, Cond.selects RX10 yX10_man yX10_man, Cond.code yX10_man cX10_man 6 (some .int), Cond.methodLink RX10 76 yX10_isMan, Cond.static yX10_isMan, Cond.code yX10_isMan cX10_isMan 1 (some .boolean), Cond.methodLink RL 22 yX9_say, Cond.instanceMethod yX9_say, Cond.selects RX9 yX9_say yX9_say, Cond.code yX9_say cX9_say 2 (some .int), Cond.methodLink RX9 110 yX5_add, Cond.instanceMethod yX5_add, Cond.selects RX5 yX5_add yX5_add, Cond.code yX5_add cX5_add 2 (some .boolean), Cond.methodLink RX9 113 yX5_size, Cond.instanceMethod yX5_size, Cond.selects RX5 yX5_size yX5_size, Cond.code yX5_size cX5_size 1 (some .int), Cond.methodLink RL 26 yX10_say, Cond.instanceMethod yX10_say, Cond.selects RX10 yX10_say yX10_say, Cond.code yX10_say cX10_say 2 (some .int), Cond.fieldLink RX10 79 "RungRightsModel" "signs" "I"]
def wsL_law_r10 : List Cond := [Cond.methodLink RL 27 yX9_wipe, Cond.instanceMethod yX9_wipe, Cond.selects RX9 yX9_wipe yX9_wipe, Cond.code yX9_wipe cX9_wipe 2 (some .int), Cond.methodLink RX9 117 yX5_clear, Cond.instanceMethod yX5_clear, Cond.selects RX5 yX5_clear yX5_clear, Cond.code yX5_clear cX5_clear 1 none, Cond.methodLink RL 31 yX10_wipe, Cond.instanceMethod yX10_wipe, Cond.selects RX10 yX10_wipe yX10_wipe, Cond.code yX10_wipe cX10_wipe 2 (some .int), Cond.methodLink RL 32 yX9_fault, Cond.instanceMethod yX9_fault, Cond.selects RX9 yX9_fault yX9_fault, Cond.code yX9_fault cX9_fault 1 (some .int), Cond.methodLink RX9 120 yX5_firstFault, Cond.instanceMethod yX5_firstFault, Cond.selects RX5 yX5_firstFault yX5_firstFault, Cond.code yX5_firstFault cX5_firstFault 5 (some .int), Cond.methodLink RX5 19 yX5_endOfAct, Cond.instanceMethod yX5_endOfAct, Cond.selects RX5 yX5_endOfAct yX5_endOfAct, Cond.code yX5_endOfAct cX5_endOfAct 2 (some .int)]
def wsL_law_r11 : List Cond := [Cond.methodLink RX5 27 yX5_signAt, Cond.instanceMethod yX5_signAt, Cond.selects RX5 yX5_signAt yX5_signAt, Cond.code yX5_signAt cX5_signAt 2 (some .char), Cond.methodLink RX5 31 yX5_needsMore, Cond.static yX5_needsMore, Cond.code yX5_needsMore cX5_needsMore 1 (some .boolean), Cond.methodLink RX5 35 yX5_isManSign, Cond.static yX5_isManSign, Cond.code yX5_isManSign cX5_isManSign 1 (some .boolean), Cond.methodLink RX5 23 yX5_firstWrongSign, Cond.instanceMethod yX5_firstWrongSign, Cond.selects RX5 yX5_firstWrongSign yX5_firstWrongSign, Cond.code yX5_firstWrongSign cX5_firstWrongSign 6 (some .int), Cond.methodLink RX5 38 yX5_isRungSign, Cond.static yX5_isRungSign, Cond.code yX5_isRungSign cX5_isRungSign 1 (some .boolean), Cond.methodLink RX5 41 yX5_isEndOfLadder, Cond.static yX5_isEndOfLadder, Cond.code yX5_isEndOfLadder cX5_isEndOfLadder 1 (some .boolean), Cond.methodLink RL 35 yX10_fault, Cond.instanceMethod yX10_fault, Cond.selects RX10 yX10_fault yX10_fault, Cond.code yX10_fault cX10_fault 1 (some .int)]
def wsL_law_r12 : List Cond := [Cond.methodLink RX10 86 yX10_faultOf, Cond.instanceMethod yX10_faultOf, Cond.selects RX10 yX10_faultOf yX10_faultOf, Cond.code yX10_faultOf cX10_faultOf 3 (some .int), Cond.methodLink RX10 82 yX10_step, Cond.static yX10_step, Cond.code yX10_step cX10_step 3 (some .int), Cond.methodLink RL 36 yX9_judge, Cond.instanceMethod yX9_judge, Cond.selects RX9 yX9_judge yX9_judge, Cond.code yX9_judge cX9_judge 2 (some .int), Cond.methodLink RX9 123 yX4_burn, Cond.instanceMethod yX4_burn, Cond.selects RX4 yX4_burn yX4_burn, Cond.code yX4_burn cX4_burn 6 (some .boolean), Cond.methodLink RX4 48 yX4_begin, Cond.instanceMethod yX4_begin, Cond.selects RX4 yX4_begin yX4_begin, Cond.code yX4_begin cX4_begin 2 none, Cond.methodLink RX4 44 yX1_copyFrom, Cond.instanceMethod yX1_copyFrom, Cond.selects RX1 yX1_copyFrom yX1_copyFrom, Cond.code yX1_copyFrom cX1_copyFrom 2 none, Cond.methodLink RX1 52 arraycopyName]
def wsL_law_r13 : List Cond := [Cond.native arraycopyName, Cond.static arraycopyName, Cond.initialized "java/lang/System", Cond.methodLink RX4 51 yX5_firstFault, Cond.methodLink RX4 57 yX5_size, Cond.methodLink RX4 60 yX5_endOfAct, Cond.methodLink RX4 64 yX5_read, Cond.instanceMethod yX5_read, Cond.selects RX5 yX5_read yX5_read, Cond.code yX5_read cX5_read 7 none, Cond.methodLink RX5 46 yX0_become, Cond.instanceMethod yX0_become, Cond.selects RX0 yX0_become yX0_become, Cond.code yX0_become cX0_become 4 none, Cond.methodLink RX5 50 yX5_placeOfSign, Cond.static yX5_placeOfSign, Cond.code yX5_placeOfSign cX5_placeOfSign 1 (some .int), Cond.methodLink RX4 68 yX4_attempt, Cond.instanceMethod yX4_attempt, Cond.selects RX4 yX4_attempt yX4_attempt, Cond.code yX4_attempt cX4_attempt 2 (some .boolean), Cond.methodLink RX4 72 yX1_reasonAgainst, Cond.instanceMethod yX1_reasonAgainst, Cond.selects RX1 yX1_reasonAgainst yX1_reasonAgainst]
def wsL_law_r14 : List Cond := [Cond.code yX1_reasonAgainst cX1_reasonAgainst 2 (some .int), Cond.methodLink RX1 76 yX0_kindOf, Cond.instanceMethod yX0_kindOf, Cond.selects RX0 yX0_kindOf yX0_kindOf, Cond.code yX0_kindOf cX0_kindOf 1 (some .int), Cond.methodLink RX1 82 yX0_doer, Cond.instanceMethod yX0_doer, Cond.selects RX0 yX0_doer yX0_doer, Cond.code yX0_doer cX0_doer 1 (some .int), Cond.methodLink RX1 85 yX0_target, Cond.instanceMethod yX0_target, Cond.selects RX0 yX0_target yX0_target, Cond.code yX0_target cX0_target 1 (some .int), Cond.methodLink RX1 88 yX1_reasonAgainstStep, Cond.instanceMethod yX1_reasonAgainstStep, Cond.selects RX1 yX1_reasonAgainstStep yX1_reasonAgainstStep, Cond.code yX1_reasonAgainstStep cX1_reasonAgainstStep 4 (some .int), Cond.methodLink RX1 101 Lib.Math.abs.name, Cond.static Lib.Math.abs.name, Cond.initialized "java/lang/Math", Cond.code Lib.Math.abs.name Lib.Math.abs.code 1 (some .int), Cond.methodLink RX1 95 yX1_hasStepped, Cond.instanceMethod yX1_hasStepped, Cond.selects RX1 yX1_hasStepped yX1_hasStepped]
def wsL_law_r15 : List Cond := [Cond.code yX1_hasStepped cX1_hasStepped 2 (some .boolean), Cond.methodLink RX1 98 yX1_placeOf, Cond.methodLink RX1 106 yX1_strideOf, Cond.instanceMethod yX1_strideOf, Cond.selects RX1 yX1_strideOf yX1_strideOf, Cond.code yX1_strideOf cX1_strideOf 2 (some .int), Cond.methodLink RX1 73 yX1_isMissing, Cond.instanceMethod yX1_isMissing, Cond.selects RX1 yX1_isMissing yX1_isMissing, Cond.code yX1_isMissing cX1_isMissing 2 (some .boolean), Cond.methodLink RX1 69 yX1_mayBeOn, Cond.instanceMethod yX1_mayBeOn, Cond.selects RX1 yX1_mayBeOn yX1_mayBeOn, Cond.code yX1_mayBeOn cX1_mayBeOn 3 (some .boolean), Cond.methodLink RX1 109 yX1_firstManOn, Cond.instanceMethod yX1_firstManOn, Cond.selects RX1 yX1_firstManOn yX1_firstManOn, Cond.code yX1_firstManOn cX1_firstManOn 3 (some .int), Cond.methodLink RX1 92 yX1_reasonAgainstLease, Cond.instanceMethod yX1_reasonAgainstLease, Cond.selects RX1 yX1_reasonAgainstLease yX1_reasonAgainstLease, Cond.code yX1_reasonAgainstLease cX1_reasonAgainstLease 3 (some .int), Cond.methodLink RX1 112 yX1_ownerOf, Cond.methodLink RX1 115 yX1_leaserOf]
def wsL_law_r16 : List Cond := [Cond.instanceMethod yX1_leaserOf, Cond.selects RX1 yX1_leaserOf yX1_leaserOf, Cond.code yX1_leaserOf cX1_leaserOf 2 (some .int), Cond.methodLink RX1 118 yX1_coinsOf, Cond.methodLink RX4 76 yX1_perform, Cond.instanceMethod yX1_perform, Cond.selects RX1 yX1_perform yX1_perform, Cond.code yX1_perform cX1_perform 2 none, Cond.methodLink RX1 121 yX1_moveTo, Cond.instanceMethod yX1_moveTo, Cond.selects RX1 yX1_moveTo yX1_moveTo, Cond.code yX1_moveTo cX1_moveTo 3 none, Cond.methodLink RX1 125 yX1_leaseTo, Cond.instanceMethod yX1_leaseTo, Cond.selects RX1 yX1_leaseTo yX1_leaseTo, Cond.code yX1_leaseTo cX1_leaseTo 4 none, Cond.methodLink RX1 128 yX1_setRung, Cond.methodLink RX4 80 yX4_count, Cond.instanceMethod yX4_count, Cond.selects RX4 yX4_count yX4_count, Cond.code yX4_count cX4_count 2 none, Cond.methodLink RX4 83 yX0_kindOf, Cond.methodLink RX4 86 yX0_target, Cond.methodLink RX4 89 yX0_doer]
def wsL_law_r17 : List Cond := [Cond.methodLink RX9 127 yX4_actsDone, Cond.instanceMethod yX4_actsDone, Cond.selects RX4 yX4_actsDone yX4_actsDone, Cond.code yX4_actsDone cX4_actsDone 1 (some .int), Cond.methodLink RX9 130 yX4_reason, Cond.instanceMethod yX4_reason, Cond.selects RX4 yX4_reason yX4_reason, Cond.code yX4_reason cX4_reason 1 (some .int), Cond.methodLink RL 39 yX10_judge, Cond.instanceMethod yX10_judge, Cond.selects RX10 yX10_judge yX10_judge, Cond.code yX10_judge cX10_judge 3 (some .int), Cond.fieldLink RX10 122 "RungRightsModel" "reason" "I", Cond.methodLink RX10 125 yX10_goFires, Cond.instanceMethod yX10_goFires, Cond.selects RX10 yX10_goFires yX10_goFires, Cond.code yX10_goFires cX10_goFires 5 (some .int), Cond.fieldLink RX10 113 "RungRightsModel" "acts" "I", Cond.fieldLink RX10 59 "RungRightsModel" "roofAt" "I", Cond.fieldLink RX10 62 "RungRightsModel" "roofWho" "I", Cond.methodLink RX10 110 yX10_asNow, Cond.instanceMethod yX10_asNow, Cond.selects RX10 yX10_asNow yX10_asNow, Cond.code yX10_asNow cX10_asNow 2 none]
def wsL_law_r18 : List Cond := [Cond.fieldLink RX10 52 "RungRightsModel" "steps" "I", Cond.fieldLink RX10 56 "RungRightsModel" "paid" "I", Cond.methodLink RX10 116 yX10_roof, Cond.instanceMethod yX10_roof, Cond.selects RX10 yX10_roof yX10_roof, Cond.code yX10_roof cX10_roof 3 (some .int), Cond.methodLink RX10 119 yX10_oneAct, Cond.instanceMethod yX10_oneAct, Cond.selects RX10 yX10_oneAct yX10_oneAct, Cond.code yX10_oneAct cX10_oneAct 5 (some .int), Cond.methodLink RX10 97 yX10_endBeat, Cond.instanceMethod yX10_endBeat, Cond.selects RX10 yX10_endBeat yX10_endBeat, Cond.code yX10_endBeat cX10_endBeat 1 (some .int), Cond.methodLink RX10 100 yX10_lose, Cond.instanceMethod yX10_lose, Cond.selects RX10 yX10_lose yX10_lose, Cond.code yX10_lose cX10_lose 3 (some .int), Cond.methodLink RX10 69 yX10_isMissing, Cond.instanceMethod yX10_isMissing, Cond.selects RX10 yX10_isMissing yX10_isMissing, Cond.code yX10_isMissing cX10_isMissing 2 (some .boolean), Cond.methodLink RX10 65 yX10_has, Cond.static yX10_has]
def wsL_law_r19 : List Cond := [Cond.code yX10_has cX10_has 2 (some .boolean), Cond.methodLink RX10 104 yX10_leaseTo, Cond.instanceMethod yX10_leaseTo, Cond.selects RX10 yX10_leaseTo yX10_leaseTo, Cond.code yX10_leaseTo cX10_leaseTo 3 (some .int), Cond.methodLink RX10 107 yX10_goTo, Cond.instanceMethod yX10_goTo, Cond.selects RX10 yX10_goTo yX10_goTo, Cond.code yX10_goTo cX10_goTo 4 (some .int), Cond.methodLink RX10 90 yX10_may, Cond.instanceMethod yX10_may, Cond.selects RX10 yX10_may yX10_may, Cond.code yX10_may cX10_may 3 (some .boolean), Cond.methodLink RX10 93 yX10_standing, Cond.instanceMethod yX10_standing, Cond.selects RX10 yX10_standing yX10_standing, Cond.code yX10_standing cX10_standing 3 (some .int), Cond.methodLink RL 40 yX9_done, Cond.instanceMethod yX9_done, Cond.selects RX9 yX9_done yX9_done, Cond.code yX9_done cX9_done 1 (some .int), Cond.methodLink RX9 133 yX4_behindIt, Cond.instanceMethod yX4_behindIt, Cond.selects RX4 yX4_behindIt yX4_behindIt]
def wsL_law_r20 : List Cond := [Cond.code yX4_behindIt cX4_behindIt 1 (some (.object "RungRights$Brigade")), Cond.methodLink RX9 137 yX1_copyFrom, Cond.methodLink RL 43 yX10_done, Cond.instanceMethod yX10_done, Cond.selects RX10 yX10_done yX10_done, Cond.code yX10_done cX10_done 2 (some .int), Cond.methodLink RX10 128 yX10_barOfFires, Cond.instanceMethod yX10_barOfFires, Cond.selects RX10 yX10_barOfFires yX10_barOfFires, Cond.code yX10_barOfFires cX10_barOfFires 1 (some .int), Cond.methodLink RL 44 yX9_behind, Cond.instanceMethod yX9_behind, Cond.selects RX9 yX9_behind yX9_behind, Cond.code yX9_behind cX9_behind 4 (some .int), Cond.methodLink RX9 141 yX1_rungsOpenTo, Cond.instanceMethod yX1_rungsOpenTo, Cond.selects RX1 yX1_rungsOpenTo yX1_rungsOpenTo, Cond.code yX1_rungsOpenTo cX1_rungsOpenTo 4 (some .int), Cond.methodLink RX9 144 yX1_hasStepped, Cond.methodLink RL 48 yX10_behind, Cond.instanceMethod yX10_behind, Cond.selects RX10 yX10_behind yX10_behind, Cond.code yX10_behind cX10_behind 3 (some .int), Cond.methodLink RX10 131 yX10_mayOnes]
def wsL_law_r21 : List Cond := [Cond.instanceMethod yX10_mayOnes, Cond.selects RX10 yX10_mayOnes yX10_mayOnes, Cond.code yX10_mayOnes cX10_mayOnes 4 (some .int), Cond.methodLink RL 49 yX9_bears, Cond.instanceMethod yX9_bears, Cond.selects RX9 yX9_bears yX9_bears, Cond.code yX9_bears cX9_bears 4 (some .int), Cond.methodLink RX9 147 yX1_leaserOf, Cond.methodLink RX9 150 yX1_firstManOn, Cond.methodLink RX9 153 yX1_isMissing, Cond.methodLink RL 52 yX10_bears, Cond.instanceMethod yX10_bears, Cond.selects RX10 yX10_bears yX10_bears, Cond.code yX10_bears cX10_bears 3 (some .int), Cond.methodLink RL 53 yX9_then, Cond.instanceMethod yX9_then, Cond.selects RX9 yX9_then yX9_then, Cond.code yX9_then cX9_then 2 (some .int), Cond.methodLink RX9 156 yX1_beatNow, Cond.instanceMethod yX1_beatNow, Cond.selects RX1 yX1_beatNow yX1_beatNow, Cond.code yX1_beatNow cX1_beatNow 1 (some .int), Cond.methodLink RX9 159 yX1_menOnRoof, Cond.instanceMethod yX1_menOnRoof]
def wsL_law_r22 : List Cond := [Cond.selects RX1 yX1_menOnRoof yX1_menOnRoof, Cond.code yX1_menOnRoof cX1_menOnRoof 3 (some .int), Cond.methodLink RX9 162 yX4_stepsMade, Cond.instanceMethod yX4_stepsMade, Cond.selects RX4 yX4_stepsMade yX4_stepsMade, Cond.code yX4_stepsMade cX4_stepsMade 1 (some .int), Cond.methodLink RX9 165 yX4_coinsPaid, Cond.instanceMethod yX4_coinsPaid, Cond.selects RX4 yX4_coinsPaid yX4_coinsPaid, Cond.code yX4_coinsPaid cX4_coinsPaid 1 (some .int), Cond.methodLink RX9 168 yX4_firstActUp, Cond.instanceMethod yX4_firstActUp, Cond.selects RX4 yX4_firstActUp yX4_firstActUp, Cond.code yX4_firstActUp cX4_firstActUp 1 (some .int), Cond.methodLink RX9 171 yX4_firstManUp, Cond.instanceMethod yX4_firstManUp, Cond.selects RX4 yX4_firstManUp yX4_firstManUp, Cond.code yX4_firstManUp cX4_firstManUp 1 (some .int), Cond.methodLink RL 56 yX10_then, Cond.instanceMethod yX10_then, Cond.selects RX10 yX10_then yX10_then, Cond.code yX10_then cX10_then 2 (some .int), Cond.methodLink RL 57 yX9_climb, Cond.instanceMethod yX9_climb]
def wsL_law_r23 : List Cond := [Cond.selects RX9 yX9_climb yX9_climb, Cond.code yX9_climb cX9_climb 3 (some .int), Cond.methodLink RX9 174 yX7_fewestSteps, Cond.instanceMethod yX7_fewestSteps, Cond.selects RX7 yX7_fewestSteps yX7_fewestSteps, Cond.code yX7_fewestSteps cX7_fewestSteps 4 (some .int), Cond.constant RX7 28 (1000000), Cond.methodLink RX7 15 yX7_settleSteps, Cond.instanceMethod yX7_settleSteps, Cond.selects RX7 yX7_settleSteps yX7_settleSteps, Cond.code yX7_settleSteps cX7_settleSteps 9 none, Cond.methodLink RX7 35 Lib.Math.min.name, Cond.static Lib.Math.min.name, Cond.code Lib.Math.min.name Lib.Math.min.code 2 (some .int), Cond.methodLink RX7 29 yX1_rungsOpenTo, Cond.methodLink RX7 32 yX1_strideOf, Cond.methodLink RX7 41 yX7_isOpen, Cond.static yX7_isOpen, Cond.code yX7_isOpen cX7_isOpen 2 (some .boolean), Cond.methodLink RX7 25 yX7_settledAt, Cond.instanceMethod yX7_settledAt, Cond.selects RX7 yX7_settledAt yX7_settledAt, Cond.code yX7_settledAt cX7_settledAt 2 (some .int), Cond.methodLink RX7 19 yX1_placeOf]
def wsL_law_r24 : List Cond := [Cond.methodLink RX9 178 yX7_firstStep, Cond.instanceMethod yX7_firstStep, Cond.selects RX7 yX7_firstStep yX7_firstStep, Cond.code yX7_firstStep cX7_firstStep 8 (some .int), Cond.methodLink RL 60 yX10_climb, Cond.instanceMethod yX10_climb, Cond.selects RX10 yX10_climb yX10_climb, Cond.code yX10_climb cX10_climb 5 (some .int), Cond.constant RX10 134 (1000000), Cond.methodLink RX10 135 yX10_layClimb, Cond.instanceMethod yX10_layClimb, Cond.selects RX10 yX10_layClimb yX10_layClimb, Cond.code yX10_layClimb cX10_layClimb 5 none, Cond.methodLink RL 61 yX9_ways, Cond.instanceMethod yX9_ways, Cond.selects RX9 yX9_ways yX9_ways, Cond.code yX9_ways cX9_ways 2 (some .int), Cond.methodLink RX9 181 yX7_countUp, Cond.instanceMethod yX7_countUp, Cond.selects RX7 yX7_countUp yX7_countUp, Cond.code yX7_countUp cX7_countUp 9 (some .int), Cond.methodLink RL 64 yX10_ways, Cond.instanceMethod yX10_ways, Cond.selects RX10 yX10_ways yX10_ways]
def wsL_law_r25 : List Cond := [Cond.code yX10_ways cX10_ways 2 (some .int), Cond.methodLink RL 65 yX9_leases, Cond.instanceMethod yX9_leases, Cond.selects RX9 yX9_leases yX9_leases, Cond.code yX9_leases cX9_leases 3 (some .int), Cond.methodLink RX9 184 yX7_fewestLeases, Cond.instanceMethod yX7_fewestLeases, Cond.selects RX7 yX7_fewestLeases yX7_fewestLeases, Cond.code yX7_fewestLeases cX7_fewestLeases 4 (some .int), Cond.methodLink RX7 45 yX7_leaseCost, Cond.instanceMethod yX7_leaseCost, Cond.selects RX7 yX7_leaseCost yX7_leaseCost, Cond.code yX7_leaseCost cX7_leaseCost 10 (some .int), Cond.methodLink RX7 49 yX1_rungsToLease, Cond.instanceMethod yX1_rungsToLease, Cond.selects RX1 yX1_rungsToLease yX1_rungsToLease, Cond.code yX1_rungsToLease cX1_rungsToLease 3 (some .int), Cond.methodLink RX9 187 yX7_leastLeased, Cond.instanceMethod yX7_leastLeased, Cond.selects RX7 yX7_leastLeased yX7_leastLeased, Cond.code yX7_leastLeased cX7_leastLeased 4 (some .int), Cond.methodLink RL 68 yX10_leases, Cond.instanceMethod yX10_leases, Cond.selects RX10 yX10_leases yX10_leases]
def wsL_law_r26 : List Cond := [Cond.code yX10_leases cX10_leases 6 (some .int), Cond.methodLink RX10 139 yX10_bits, Cond.static yX10_bits, Cond.code yX10_bits cX10_bits 3 (some .int), Cond.methodLink RL 69 yX9_stand, Cond.instanceMethod yX9_stand, Cond.selects RX9 yX9_stand yX9_stand, Cond.code yX9_stand cX9_stand 2 (some .int), Cond.methodLink RX9 190 yX6_assign, Cond.instanceMethod yX6_assign, Cond.selects RX6 yX6_assign yX6_assign, Cond.code yX6_assign cX6_assign 4 none, Cond.methodLink RX6 22 yX1_rungsOpenTo, Cond.methodLink RX6 28 yX6_mostFrom, Cond.instanceMethod yX6_mostFrom, Cond.selects RX6 yX6_mostFrom yX6_mostFrom, Cond.code yX6_mostFrom cX6_mostFrom 8 (some .int), Cond.methodLink RX6 47 Lib.Math.min.name, Cond.methodLink RX6 42 yJ6_bitCount_0f7a4, Cond.static yJ6_bitCount_0f7a4, Cond.initialized RJ6, Cond.code yJ6_bitCount_0f7a4 cJ6_bitCount_0f7a4 1 (some .int), Cond.constant RJ6 265 (1431655765), Cond.constant RJ6 266 (858993459)]
def wsL_law_r27 : List Cond := [Cond.constant RJ6 267 (252645135), Cond.methodLink RX6 32 yX6_lowestPost, Cond.instanceMethod yX6_lowestPost, Cond.selects RX6 yX6_lowestPost yX6_lowestPost, Cond.code yX6_lowestPost cX6_lowestPost 5 (some .int), Cond.methodLink RX9 193 yX6_menPosted, Cond.instanceMethod yX6_menPosted, Cond.selects RX6 yX6_menPosted yX6_menPosted, Cond.code yX6_menPosted cX6_menPosted 1 (some .int), Cond.methodLink RX9 196 yX6_rungOf, Cond.instanceMethod yX6_rungOf, Cond.selects RX6 yX6_rungOf yX6_rungOf, Cond.code yX6_rungOf cX6_rungOf 2 (some .int), Cond.methodLink RL 72 yX10_stand, Cond.instanceMethod yX10_stand, Cond.selects RX10 yX10_stand yX10_stand, Cond.code yX10_stand cX10_stand 7 (some .int), Cond.methodLink RX10 142 yX10_most, Cond.instanceMethod yX10_most, Cond.selects RX10 yX10_most yX10_most, Cond.code yX10_most cX10_most 6 (some .int), Cond.methodLink RL 73 yX9_felt, Cond.instanceMethod yX9_felt, Cond.selects RX9 yX9_felt yX9_felt]
def wsL_law_r28 : List Cond := [Cond.code yX9_felt cX9_felt 3 (some .int), Cond.methodLink RX9 199 yX1_addSight, Cond.instanceMethod yX1_addSight, Cond.selects RX1 yX1_addSight yX1_addSight, Cond.code yX1_addSight cX1_addSight 3 (some .boolean), Cond.methodLink RX9 203 yX1_sightCount, Cond.instanceMethod yX1_sightCount, Cond.selects RX1 yX1_sightCount yX1_sightCount, Cond.code yX1_sightCount cX1_sightCount 1 (some .int), Cond.methodLink RL 77 yX10_felt, Cond.instanceMethod yX10_felt, Cond.selects RX10 yX10_felt yX10_felt, Cond.code yX10_felt cX10_felt 3 (some .int), Cond.fieldLink RX10 145 "RungRightsModel" "sights" "I", Cond.methodLink RL 78 yX9_forget, Cond.instanceMethod yX9_forget, Cond.selects RX9 yX9_forget yX9_forget, Cond.code yX9_forget cX9_forget 2 (some .int), Cond.methodLink RX9 206 yX1_clearSights, Cond.instanceMethod yX1_clearSights, Cond.selects RX1 yX1_clearSights yX1_clearSights, Cond.code yX1_clearSights cX1_clearSights 1 none, Cond.methodLink RL 81 yX10_forget, Cond.instanceMethod yX10_forget]
def wsL_law_r29 : List Cond := [Cond.selects RX10 yX10_forget yX10_forget, Cond.code yX10_forget cX10_forget 2 (some .int), Cond.methodLink RL 82 yX9_ups, Cond.instanceMethod yX9_ups, Cond.selects RX9 yX9_ups yX9_ups, Cond.code yX9_ups cX9_ups 2 (some .int), Cond.methodLink RX9 209 yX8_find, Cond.instanceMethod yX8_find, Cond.selects RX8 yX8_find yX8_find, Cond.code yX8_find cX8_find 5 none, Cond.methodLink RX8 22 yX8_trailOf, Cond.static yX8_trailOf, Cond.code yX8_trailOf cX8_trailOf 7 (some .int), Cond.methodLink RX8 32 yX8_nextPlace, Cond.static yX8_nextPlace, Cond.code yX8_nextPlace cX8_nextPlace 7 (some .int), Cond.methodLink RX8 40 yX1_strideOf, Cond.methodLink RX8 43 yX1_mayBeOn, Cond.methodLink RX8 26 yX1_sightsFit, Cond.instanceMethod yX1_sightsFit, Cond.selects RX1 yX1_sightsFit yX1_sightsFit, Cond.code yX1_sightsFit cX1_sightsFit 2 (some .boolean), Cond.methodLink RX9 212 yX8_size, Cond.instanceMethod yX8_size]
def wsL_law_r30 : List Cond := [Cond.selects RX8 yX8_size yX8_size, Cond.code yX8_size cX8_size 1 (some .int), Cond.methodLink RX9 213 yX8_codeAt, Cond.instanceMethod yX8_codeAt, Cond.selects RX8 yX8_codeAt yX8_codeAt, Cond.code yX8_codeAt cX8_codeAt 2 (some .int), Cond.methodLink RL 85 yX10_ups, Cond.instanceMethod yX10_ups, Cond.selects RX10 yX10_ups yX10_ups, Cond.code yX10_ups cX10_ups 4 (some .int), Cond.methodLink RX10 151 yX10_isFit, Cond.instanceMethod yX10_isFit, Cond.selects RX10 yX10_isFit yX10_isFit, Cond.code yX10_isFit cX10_isFit 4 (some .boolean), Cond.methodLink RX10 148 yX10_wetOnes, Cond.instanceMethod yX10_wetOnes, Cond.selects RX10 yX10_wetOnes yX10_wetOnes, Cond.code yX10_wetOnes cX10_wetOnes 9 (some .int), Cond.methodLink RL 86 yX9_ask, Cond.instanceMethod yX9_ask, Cond.selects RX9 yX9_ask yX9_ask, Cond.code yX9_ask cX9_ask 3 (some .int), Cond.methodLink RX9 216 yX8_rungToFeel, Cond.instanceMethod yX8_rungToFeel]
def wsL_law_r31 : List Cond := [Cond.selects RX8 yX8_rungToFeel yX8_rungToFeel, Cond.code yX8_rungToFeel cX8_rungToFeel 3 (some .int), Cond.methodLink RX8 47 yX8_mostLeftBy, Cond.instanceMethod yX8_mostLeftBy, Cond.selects RX8 yX8_mostLeftBy yX8_mostLeftBy, Cond.code yX8_mostLeftBy cX8_mostLeftBy 4 (some .int), Cond.methodLink RX8 50 Lib.Math.max.name, Cond.static Lib.Math.max.name, Cond.code Lib.Math.max.name Lib.Math.max.code 2 (some .int), Cond.methodLink RX9 219 yX8_mostLeftBy, Cond.methodLink RL 89 yX10_ask, Cond.instanceMethod yX10_ask, Cond.selects RX10 yX10_ask yX10_ask, Cond.code yX10_ask cX10_ask 9 (some .int), Cond.methodLink RL 90 yX9_down, Cond.instanceMethod yX9_down, Cond.selects RX9 yX9_down yX9_down, Cond.code yX9_down cX9_down 3 (some .int), Cond.methodLink RX9 222 yX2_canWin, Cond.static yX2_canWin, Cond.initialized RX2, Cond.code yX2_canWin cX2_canWin 1 (some .boolean), Cond.methodLink RX2 9 yX2_heapsOf, Cond.static yX2_heapsOf]
def wsL_law_r32 : List Cond := [Cond.code yX2_heapsOf cX2_heapsOf 4 (some .int), Cond.methodLink RX9 227 yX2_leastWinningMove, Cond.static yX2_leastWinningMove, Cond.code yX2_leastWinningMove cX2_leastWinningMove 4 (some .int), Cond.methodLink RX2 15 yX2_canWin, Cond.methodLink RL 93 yX10_down, Cond.instanceMethod yX10_down, Cond.selects RX10 yX10_down yX10_down, Cond.code yX10_down cX10_down 4 (some .int), Cond.methodLink RX10 154 yX10_firstDown, Cond.instanceMethod yX10_firstDown, Cond.selects RX10 yX10_firstDown yX10_firstDown, Cond.code yX10_firstDown cX10_firstDown 5 (some .int), Cond.methodLink RL 94 yX9_foot, Cond.instanceMethod yX9_foot, Cond.selects RX9 yX9_foot yX9_foot, Cond.code yX9_foot cX9_foot 5 (some .long), Cond.constantLong RX9 230 (-1000000000000000001), Cond.constantLong RX9 232 (-1000000000000000002), Cond.methodLink RX9 234 yX3_chanceOn, Cond.instanceMethod yX3_chanceOn, Cond.selects RX3 yX3_chanceOn yX3_chanceOn, Cond.code yX3_chanceOn cX3_chanceOn 3 none, Cond.methodLink RX3 22 yX3_reckonChances]
def wsL_law_r33 : List Cond := [Cond.instanceMethod yX3_reckonChances, Cond.selects RX3 yX3_reckonChances yX3_reckonChances, Cond.code yX3_reckonChances cX3_reckonChances 6 none, Cond.methodLink RX3 30 yX3_power, Cond.static yX3_power, Cond.code yX3_power cX3_power 5 (some .long), Cond.methodLink RX9 238 yX3_meanStepsTo, Cond.instanceMethod yX3_meanStepsTo, Cond.selects RX3 yX3_meanStepsTo yX3_meanStepsTo, Cond.code yX3_meanStepsTo cX3_meanStepsTo 4 none, Cond.methodLink RX9 241 yX3_upperNumber, Cond.instanceMethod yX3_upperNumber, Cond.selects RX3 yX3_upperNumber yX3_upperNumber, Cond.code yX3_upperNumber cX3_upperNumber 1 (some .long), Cond.methodLink RX9 245 yX3_lowerNumber, Cond.instanceMethod yX3_lowerNumber, Cond.selects RX3 yX3_lowerNumber yX3_lowerNumber, Cond.code yX3_lowerNumber cX3_lowerNumber 1 (some .long), Cond.methodLink RL 98 yX10_foot, Cond.instanceMethod yX10_foot, Cond.selects RX10 yX10_foot yX10_foot, Cond.code yX10_foot cX10_foot 15 (some .long), Cond.constantLong RX10 157 (-1000000000000000001), Cond.constantLong RX10 159 (-1000000000000000002)]
def wsL_law_r34 : List Cond := [Cond.methodLink RL 99 yX9_year, Cond.instanceMethod yX9_year, Cond.selects RX9 yX9_year yX9_year, Cond.code yX9_year cX9_year 4 (some .int), Cond.methodLink RX9 248 yX9_passYear, Cond.instanceMethod yX9_passYear, Cond.selects RX9 yX9_passYear yX9_passYear, Cond.code yX9_passYear cX9_passYear 5 none, Cond.constant RX9 273 (65537), Cond.methodLink RX9 270 yX4_begin, Cond.methodLink RX9 274 yX0_draw, Cond.instanceMethod yX0_draw, Cond.selects RX0 yX0_draw yX0_draw, Cond.code yX0_draw cX0_draw 6 none, Cond.methodLink RX0 21 yX0_drawnPlace, Cond.static yX0_drawnPlace, Cond.code yX0_drawnPlace cX0_drawnPlace 5 (some .int), Cond.methodLink RX0 38 Lib.Math.min.name, Cond.methodLink RX0 44 Lib.Math.max.name, Cond.methodLink RX0 29 yX1_strideOf, Cond.methodLink RX0 35 yX1_placeOf, Cond.methodLink RX0 25 yX0_become, Cond.methodLink RX9 278 yX4_attempt, Cond.methodLink RL 103 yX10_year]
def wsL_law_r35 : List Cond := [Cond.instanceMethod yX10_year, Cond.selects RX10 yX10_year yX10_year, Cond.code yX10_year cX10_year 11 (some .int), Cond.constant RX10 161 (65537), Cond.methodLink RL 104 yX9_image, Cond.instanceMethod yX9_image, Cond.selects RX9 yX9_image yX9_image, Cond.code yX9_image cX9_image 2 (some .int), Cond.methodLink RX9 251 yX9_isImage, Cond.static yX9_isImage, Cond.code yX9_isImage cX9_isImage 1 (some .boolean), Cond.methodLink RL 107 yX10_image, Cond.instanceMethod yX10_image, Cond.selects RX10 yX10_image yX10_image, Cond.code yX10_image cX10_image 4 (some .int), Cond.methodLink RL 108 yX9_restore, Cond.instanceMethod yX9_restore, Cond.selects RX9 yX9_restore yX9_restore, Cond.code yX9_restore cX9_restore 2 (some .int), Cond.methodLink RL 111 yX10_restore, Cond.instanceMethod yX10_restore, Cond.selects RX10 yX10_restore yX10_restore, Cond.code yX10_restore cX10_restore 4 (some .int), Cond.methodLink RL 112 yX9_told]
def wsL_law_r36 : List Cond := [Cond.instanceMethod yX9_told, Cond.selects RX9 yX9_told yX9_told, Cond.code yX9_told cX9_told 2 (some .int), Cond.methodLink RX9 254 yX1_menStepped, Cond.instanceMethod yX1_menStepped, Cond.selects RX1 yX1_menStepped yX1_menStepped, Cond.code yX1_menStepped cX1_menStepped 1 (some .int), Cond.methodLink RX9 257 yX1_rungsMissing, Cond.instanceMethod yX1_rungsMissing, Cond.selects RX1 yX1_rungsMissing yX1_rungsMissing, Cond.code yX1_rungsMissing cX1_rungsMissing 1 (some .int), Cond.methodLink RX9 260 yX9_toldOfMan, Cond.instanceMethod yX9_toldOfMan, Cond.selects RX9 yX9_toldOfMan yX9_toldOfMan, Cond.code yX9_toldOfMan cX9_toldOfMan 3 (some .int), Cond.methodLink RX9 267 yX1_strideOf, Cond.methodLink RX9 264 yX9_toldOfRung, Cond.instanceMethod yX9_toldOfRung, Cond.selects RX9 yX9_toldOfRung yX9_toldOfRung, Cond.code yX9_toldOfRung cX9_toldOfRung 2 (some .int), Cond.methodLink RL 115 yX10_told, Cond.instanceMethod yX10_told, Cond.selects RX10 yX10_told yX10_told, Cond.code yX10_told cX10_told 3 (some .int)]
def wsL_law : List Cond := (wsL_law_r1 ++ (wsL_law_r2 ++ (wsL_law_r3 ++ (wsL_law_r4 ++ (wsL_law_r5 ++ (wsL_law_r6 ++ (wsL_law_r7 ++ (wsL_law_r8 ++ (wsL_law_r9 ++ (wsL_law_r10 ++ (wsL_law_r11 ++ (wsL_law_r12 ++ (wsL_law_r13 ++ (wsL_law_r14 ++ (wsL_law_r15 ++ (wsL_law_r16 ++ (wsL_law_r17 ++ (wsL_law_r18 ++ (wsL_law_r19 ++ (wsL_law_r20 ++ (wsL_law_r21 ++ (wsL_law_r22 ++ (wsL_law_r23 ++ (wsL_law_r24 ++ (wsL_law_r25 ++ (wsL_law_r26 ++ (wsL_law_r27 ++ (wsL_law_r28 ++ (wsL_law_r29 ++ (wsL_law_r30 ++ (wsL_law_r31 ++ (wsL_law_r32 ++ (wsL_law_r33 ++ (wsL_law_r34 ++ (wsL_law_r35 ++ wsL_law_r36))))))))))))))))))))))))))))))))))) ++ wsX90 ++ wsX100 ++ wsX10 ++ wsX50 ++ wsX00 ++ wsX40 ++ wsX70 ++ wsX60 ++ wsX80 ++ wsX30 ++ ([] : List Cond)
theorem inlX0 : ∀ w ∈ wsX00, w ∈ wsL_law := fun _ h => List.mem_append_left _ (List.mem_append_left _ (List.mem_append_left _ (List.mem_append_left _ (List.mem_append_left _ (List.mem_append_left _ (List.mem_append_right _ h))))))
theorem inlX1 : ∀ w ∈ wsX10, w ∈ wsL_law := fun _ h => List.mem_append_left _ (List.mem_append_left _ (List.mem_append_left _ (List.mem_append_left _ (List.mem_append_left _ (List.mem_append_left _ (List.mem_append_left _ (List.mem_append_left _ (List.mem_append_right _ h))))))))
theorem inlX3 : ∀ w ∈ wsX30, w ∈ wsL_law := fun _ h => List.mem_append_left _ (List.mem_append_right _ h)
theorem inlX4 : ∀ w ∈ wsX40, w ∈ wsL_law := fun _ h => List.mem_append_left _ (List.mem_append_left _ (List.mem_append_left _ (List.mem_append_left _ (List.mem_append_left _ (List.mem_append_right _ h)))))
theorem inlX5 : ∀ w ∈ wsX50, w ∈ wsL_law := fun _ h => List.mem_append_left _ (List.mem_append_left _ (List.mem_append_left _ (List.mem_append_left _ (List.mem_append_left _ (List.mem_append_left _ (List.mem_append_left _ (List.mem_append_right _ h)))))))
theorem inlX6 : ∀ w ∈ wsX60, w ∈ wsL_law := fun _ h => List.mem_append_left _ (List.mem_append_left _ (List.mem_append_left _ (List.mem_append_right _ h)))
theorem inlX7 : ∀ w ∈ wsX70, w ∈ wsL_law := fun _ h => List.mem_append_left _ (List.mem_append_left _ (List.mem_append_left _ (List.mem_append_left _ (List.mem_append_right _ h))))
theorem inlX8 : ∀ w ∈ wsX80, w ∈ wsL_law := fun _ h => List.mem_append_left _ (List.mem_append_left _ (List.mem_append_right _ h))
theorem inlX9 : ∀ w ∈ wsX90, w ∈ wsL_law := fun _ h => List.mem_append_left _ (List.mem_append_left _ (List.mem_append_left _ (List.mem_append_left _ (List.mem_append_left _ (List.mem_append_left _ (List.mem_append_left _ (List.mem_append_left _ (List.mem_append_left _ (List.mem_append_left _ (List.mem_append_right _ h))))))))))
theorem inlX10 : ∀ w ∈ wsX100, w ∈ wsL_law := fun _ h => List.mem_append_left _ (List.mem_append_left _ (List.mem_append_left _ (List.mem_append_left _ (List.mem_append_left _ (List.mem_append_left _ (List.mem_append_left _ (List.mem_append_left _ (List.mem_append_left _ (List.mem_append_right _ h)))))))))
abbrev vwCl : List vw_C := [(RX0, TX0, 3), (RX1, TX1, 11), (RX3, TX3, 3), (RX4, TX4, 8), (RX5, TX5, 2), (RX6, TX6, 3), (RX7, TX7, 1), (RX8, TX8, 3), (RX9, TX9, 9), (RX10, TX10, 20)]
