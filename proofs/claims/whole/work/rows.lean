section
/-! ===== BEGIN words of one list among another's, by their places ===== -/
theorem goodIn_r {big : List Cond} (ws : List Cond) (ps : List Nat) (hp : ws = ps.filterMap (fun i => big[i]?)) (h : ws.all goodWord = true) : GoodIn big ws := by
  intro w hw
  have h1 := List.all_eq_true.mp h w hw
  rw [hp] at hw
  obtain ⟨i, -, hi⟩ := List.mem_filterMap.mp hw
  have hm : w ∈ big := by first | exact List.mem_of_getElem? hi | exact List.getElem?_mem hi
  exact ⟨hm, good_of_word h1⟩
theorem goodIn_app {big a b : List Cond} (ha : GoodIn big a) (hb : GoodIn big b) : GoodIn big (a ++ b) := fun w h => (List.mem_append.mp h).elim (ha w) (hb w)
theorem goodIn_ca {big a b : List Cond} {c : Cond} (ha : GoodIn big (c :: a)) (hb : GoodIn big b) : GoodIn big (c :: (a ++ b)) := fun w h => (List.mem_cons.mp h).elim (fun e => ha w (List.mem_cons.mpr (Or.inl e))) (fun h => (List.mem_append.mp h).elim (fun h => ha w (List.mem_cons.mpr (Or.inr h))) (hb w))
theorem goodIn_sub {big ws : List Cond} (hm : ∀ w ∈ ws, w ∈ big) (h : ws.all goodWord = true) : GoodIn big ws := fun w hw => ⟨hm w hw, good_of_word (List.all_eq_true.mp h w hw)⟩
/-! ===== END ===== -/

/-! ===== BEGIN printed: names, fields, word lists, decode rows ===== -/
def RX0 : String := "RungRights$Act"
def TX0 : u_T := fun k => match k with
  | 0 => ("RungRights$Act", "kind", "I", false)
  | 1 => ("RungRights$Act", "man", "I", false)
  | _ => ("RungRights$Act", "place", "I", false)
def tyX0 : Nat → FieldType := fun k => match k with
  | 0 => .int
  | 1 => .int
  | _ => .int
abbrev wsX00 : List Cond := u_ws RX0 TX0 3
theorem nmX0 : ∀ a, a < 3 → ∀ b, b < 3 → a ≠ b → (TX0 a).2.1 ≠ (TX0 b).2.1 := by decide +kernel
theorem tyX0_ok : ∀ k, k < 3 → parseFieldDescriptor (TX0 k).2.2.1 = some (tyX0 k) := by decide +kernel
abbrev cX0_init : ByteArray := prog_2_method_1_code
def yX0_init : MethodName := ⟨RX0, "<init>", "()V"⟩
abbrev cX0_become : ByteArray := prog_2_method_2_code
def yX0_become : MethodName := ⟨RX0, "become", "(III)V"⟩
abbrev cX0_kindOf : ByteArray := prog_2_method_3_code
def yX0_kindOf : MethodName := ⟨RX0, "kindOf", "()I"⟩
abbrev cX0_doer : ByteArray := prog_2_method_4_code
def yX0_doer : MethodName := ⟨RX0, "doer", "()I"⟩
abbrev cX0_target : ByteArray := prog_2_method_5_code
def yX0_target : MethodName := ⟨RX0, "target", "()I"⟩
abbrev cX0_draw : ByteArray := prog_2_method_6_code
def yX0_draw : MethodName := ⟨RX0, "draw", "(ILRungRights$Brigade;)V"⟩
abbrev cX0_drawnPlace : ByteArray := prog_2_method_7_code
def yX0_drawnPlace : MethodName := ⟨RX0, "drawnPlace", "(IILRungRights$Brigade;)I"⟩
def RX1 : String := "RungRights$Brigade"
def TX1 : u_T := fun k => match k with
  | 0 => ("RungRights$Brigade", "owner", "[I", true)
  | 1 => ("RungRights$Brigade", "leaser", "[I", true)
  | 2 => ("RungRights$Brigade", "missing", "I", false)
  | 3 => ("RungRights$Brigade", "stride", "[I", true)
  | 4 => ("RungRights$Brigade", "coins", "[I", true)
  | 5 => ("RungRights$Brigade", "place", "[I", true)
  | 6 => ("RungRights$Brigade", "stepped", "I", false)
  | 7 => ("RungRights$Brigade", "beat", "I", false)
  | 8 => ("RungRights$Brigade", "sights", "I", false)
  | 9 => ("RungRights$Brigade", "wet", "I", false)
  | _ => ("RungRights$Brigade", "dry", "I", false)
def tyX1 : Nat → FieldType := fun k => match k with
  | 0 => .array .int
  | 1 => .array .int
  | 2 => .int
  | 3 => .array .int
  | 4 => .array .int
  | 5 => .array .int
  | 6 => .int
  | 7 => .int
  | 8 => .int
  | 9 => .int
  | _ => .int
abbrev wsX10 : List Cond := u_ws RX1 TX1 11
theorem nmX1 : ∀ a, a < 11 → ∀ b, b < 11 → a ≠ b → (TX1 a).2.1 ≠ (TX1 b).2.1 := by decide +kernel
theorem tyX1_ok : ∀ k, k < 11 → parseFieldDescriptor (TX1 k).2.2.1 = some (tyX1 k) := by decide +kernel
abbrev cX1_init : ByteArray := prog_3_method_1_code
def yX1_init : MethodName := ⟨RX1, "<init>", "()V"⟩
abbrev cX1_copyFrom : ByteArray := prog_3_method_2_code
def yX1_copyFrom : MethodName := ⟨RX1, "copyFrom", "(LRungRights$Brigade;)V"⟩
abbrev cX1_ownerOf : ByteArray := prog_3_method_3_code
def yX1_ownerOf : MethodName := ⟨RX1, "ownerOf", "(I)I"⟩
abbrev cX1_leaserOf : ByteArray := prog_3_method_4_code
def yX1_leaserOf : MethodName := ⟨RX1, "leaserOf", "(I)I"⟩
abbrev cX1_isMissing : ByteArray := prog_3_method_5_code
def yX1_isMissing : MethodName := ⟨RX1, "isMissing", "(I)Z"⟩
abbrev cX1_rungsMissing : ByteArray := prog_3_method_6_code
def yX1_rungsMissing : MethodName := ⟨RX1, "rungsMissing", "()I"⟩
abbrev cX1_setRung : ByteArray := prog_3_method_7_code
def yX1_setRung : MethodName := ⟨RX1, "setRung", "(IIIZ)V"⟩
abbrev cX1_strideOf : ByteArray := prog_3_method_8_code
def yX1_strideOf : MethodName := ⟨RX1, "strideOf", "(I)I"⟩
abbrev cX1_coinsOf : ByteArray := prog_3_method_9_code
def yX1_coinsOf : MethodName := ⟨RX1, "coinsOf", "(I)I"⟩
abbrev cX1_placeOf : ByteArray := prog_3_method_10_code
def yX1_placeOf : MethodName := ⟨RX1, "placeOf", "(I)I"⟩
abbrev cX1_hasStepped : ByteArray := prog_3_method_11_code
def yX1_hasStepped : MethodName := ⟨RX1, "hasStepped", "(I)Z"⟩
abbrev cX1_menStepped : ByteArray := prog_3_method_12_code
def yX1_menStepped : MethodName := ⟨RX1, "menStepped", "()I"⟩
abbrev cX1_setMan : ByteArray := prog_3_method_13_code
def yX1_setMan : MethodName := ⟨RX1, "setMan", "(IIII)V"⟩
abbrev cX1_beatNow : ByteArray := prog_3_method_14_code
def yX1_beatNow : MethodName := ⟨RX1, "beatNow", "()I"⟩
abbrev cX1_menOnRoof : ByteArray := prog_3_method_15_code
def yX1_menOnRoof : MethodName := ⟨RX1, "menOnRoof", "()I"⟩
abbrev cX1_firstManOn : ByteArray := prog_3_method_16_code
def yX1_firstManOn : MethodName := ⟨RX1, "firstManOn", "(I)I"⟩
abbrev cX1_mayBeOn : ByteArray := prog_3_method_17_code
def yX1_mayBeOn : MethodName := ⟨RX1, "mayBeOn", "(II)Z"⟩
abbrev cX1_rungsOpenTo : ByteArray := prog_3_method_18_code
def yX1_rungsOpenTo : MethodName := ⟨RX1, "rungsOpenTo", "(I)I"⟩
abbrev cX1_rungsToLease : ByteArray := prog_3_method_19_code
def yX1_rungsToLease : MethodName := ⟨RX1, "rungsToLease", "()I"⟩
abbrev cX1_reasonAgainst : ByteArray := prog_3_method_20_code
def yX1_reasonAgainst : MethodName := ⟨RX1, "reasonAgainst", "(LRungRights$Act;)I"⟩
abbrev cX1_reasonAgainstStep : ByteArray := prog_3_method_21_code
def yX1_reasonAgainstStep : MethodName := ⟨RX1, "reasonAgainstStep", "(II)I"⟩
abbrev cX1_reasonAgainstLease : ByteArray := prog_3_method_22_code
def yX1_reasonAgainstLease : MethodName := ⟨RX1, "reasonAgainstLease", "(II)I"⟩
abbrev cX1_perform : ByteArray := prog_3_method_23_code
def yX1_perform : MethodName := ⟨RX1, "perform", "(LRungRights$Act;)V"⟩
abbrev cX1_moveTo : ByteArray := prog_3_method_24_code
def yX1_moveTo : MethodName := ⟨RX1, "moveTo", "(II)V"⟩
abbrev cX1_leaseTo : ByteArray := prog_3_method_25_code
def yX1_leaseTo : MethodName := ⟨RX1, "leaseTo", "(II)V"⟩
abbrev cX1_addSight : ByteArray := prog_3_method_26_code
def yX1_addSight : MethodName := ⟨RX1, "addSight", "(IZ)Z"⟩
abbrev cX1_clearSights : ByteArray := prog_3_method_27_code
def yX1_clearSights : MethodName := ⟨RX1, "clearSights", "()V"⟩
abbrev cX1_sightCount : ByteArray := prog_3_method_28_code
def yX1_sightCount : MethodName := ⟨RX1, "sightCount", "()I"⟩
abbrev cX1_sightsFit : ByteArray := prog_3_method_29_code
def yX1_sightsFit : MethodName := ⟨RX1, "sightsFit", "(I)Z"⟩
def RX2 : String := "RungRights$Descents"
def TX2 : u_T := fun k => match k with
  | _ => ("", "", "", false)
def tyX2 : Nat → FieldType := fun k => match k with
  | _ => .int
abbrev wsX20 : List Cond := u_ws RX2 TX2 0
theorem nmX2 : ∀ a, a < 0 → ∀ b, b < 0 → a ≠ b → (TX2 a).2.1 ≠ (TX2 b).2.1 := by decide +kernel
theorem tyX2_ok : ∀ k, k < 0 → parseFieldDescriptor (TX2 k).2.2.1 = some (tyX2 k) := by decide +kernel
abbrev cX2_canWin : ByteArray := prog_4_method_2_code
def yX2_canWin : MethodName := ⟨RX2, "canWin", "(I)Z"⟩
abbrev cX2_leastWinningMove : ByteArray := prog_4_method_3_code
def yX2_leastWinningMove : MethodName := ⟨RX2, "leastWinningMove", "(I)I"⟩
abbrev cX2_heapsOf : ByteArray := prog_4_method_4_code
def yX2_heapsOf : MethodName := ⟨RX2, "heapsOf", "(I)I"⟩
def RX3 : String := "RungRights$Feet"
def TX3 : u_T := fun k => match k with
  | 0 => ("RungRights$Feet", "chances", "[J", true)
  | 1 => ("RungRights$Feet", "upper", "J", false)
  | _ => ("RungRights$Feet", "lower", "J", false)
def tyX3 : Nat → FieldType := fun k => match k with
  | 0 => .array .long
  | 1 => .long
  | _ => .long
abbrev wsX30 : List Cond := u_ws RX3 TX3 3
theorem nmX3 : ∀ a, a < 3 → ∀ b, b < 3 → a ≠ b → (TX3 a).2.1 ≠ (TX3 b).2.1 := by decide +kernel
theorem tyX3_ok : ∀ k, k < 3 → parseFieldDescriptor (TX3 k).2.2.1 = some (tyX3 k) := by decide +kernel
abbrev cX3_init : ByteArray := prog_5_method_1_code
def yX3_init : MethodName := ⟨RX3, "<init>", "()V"⟩
abbrev cX3_chanceOn : ByteArray := prog_5_method_2_code
def yX3_chanceOn : MethodName := ⟨RX3, "chanceOn", "(II)V"⟩
abbrev cX3_meanStepsTo : ByteArray := prog_5_method_3_code
def yX3_meanStepsTo : MethodName := ⟨RX3, "meanStepsTo", "(II)V"⟩
abbrev cX3_reckonChances : ByteArray := prog_5_method_4_code
def yX3_reckonChances : MethodName := ⟨RX3, "reckonChances", "(I)V"⟩
abbrev cX3_power : ByteArray := prog_5_method_5_code
def yX3_power : MethodName := ⟨RX3, "power", "(II)J"⟩
abbrev cX3_upperNumber : ByteArray := prog_5_method_6_code
def yX3_upperNumber : MethodName := ⟨RX3, "upperNumber", "()J"⟩
abbrev cX3_lowerNumber : ByteArray := prog_5_method_7_code
def yX3_lowerNumber : MethodName := ⟨RX3, "lowerNumber", "()J"⟩
def RX4 : String := "RungRights$Fire"
def TX4 : u_T := fun k => match k with
  | 0 => ("RungRights$Fire", "after", "LRungRights$Brigade;", true)
  | 1 => ("RungRights$Fire", "act", "LRungRights$Act;", true)
  | 2 => ("RungRights$Fire", "acts", "I", false)
  | 3 => ("RungRights$Fire", "steps", "I", false)
  | 4 => ("RungRights$Fire", "paid", "I", false)
  | 5 => ("RungRights$Fire", "actUp", "I", false)
  | 6 => ("RungRights$Fire", "manUp", "I", false)
  | _ => ("RungRights$Fire", "why", "I", false)
def tyX4 : Nat → FieldType := fun k => match k with
  | 0 => .object "RungRights$Brigade"
  | 1 => .object "RungRights$Act"
  | 2 => .int
  | 3 => .int
  | 4 => .int
  | 5 => .int
  | 6 => .int
  | _ => .int
abbrev wsX40 : List Cond := u_ws RX4 TX4 8
theorem nmX4 : ∀ a, a < 8 → ∀ b, b < 8 → a ≠ b → (TX4 a).2.1 ≠ (TX4 b).2.1 := by decide +kernel
theorem tyX4_ok : ∀ k, k < 8 → parseFieldDescriptor (TX4 k).2.2.1 = some (tyX4 k) := by decide +kernel
abbrev cX4_init : ByteArray := prog_6_method_1_code
def yX4_init : MethodName := ⟨RX4, "<init>", "()V"⟩
abbrev cX4_begin : ByteArray := prog_6_method_2_code
def yX4_begin : MethodName := ⟨RX4, "begin", "(LRungRights$Brigade;)V"⟩
abbrev cX4_burn : ByteArray := prog_6_method_3_code
def yX4_burn : MethodName := ⟨RX4, "burn", "(LRungRights$Pad;LRungRights$Brigade;)Z"⟩
abbrev cX4_attempt : ByteArray := prog_6_method_4_code
def yX4_attempt : MethodName := ⟨RX4, "attempt", "(LRungRights$Act;)Z"⟩
abbrev cX4_count : ByteArray := prog_6_method_5_code
def yX4_count : MethodName := ⟨RX4, "count", "(LRungRights$Act;)V"⟩
abbrev cX4_reason : ByteArray := prog_6_method_6_code
def yX4_reason : MethodName := ⟨RX4, "reason", "()I"⟩
abbrev cX4_actsDone : ByteArray := prog_6_method_7_code
def yX4_actsDone : MethodName := ⟨RX4, "actsDone", "()I"⟩
abbrev cX4_stepsMade : ByteArray := prog_6_method_8_code
def yX4_stepsMade : MethodName := ⟨RX4, "stepsMade", "()I"⟩
abbrev cX4_coinsPaid : ByteArray := prog_6_method_9_code
def yX4_coinsPaid : MethodName := ⟨RX4, "coinsPaid", "()I"⟩
abbrev cX4_firstActUp : ByteArray := prog_6_method_10_code
def yX4_firstActUp : MethodName := ⟨RX4, "firstActUp", "()I"⟩
abbrev cX4_firstManUp : ByteArray := prog_6_method_11_code
def yX4_firstManUp : MethodName := ⟨RX4, "firstManUp", "()I"⟩
abbrev cX4_behindIt : ByteArray := prog_6_method_12_code
def yX4_behindIt : MethodName := ⟨RX4, "behindIt", "()LRungRights$Brigade;"⟩
def RX5 : String := "RungRights$Pad"
def TX5 : u_T := fun k => match k with
  | 0 => ("RungRights$Pad", "signs", "[C", true)
  | _ => ("RungRights$Pad", "count", "I", false)
def tyX5 : Nat → FieldType := fun k => match k with
  | 0 => .array .char
  | _ => .int
abbrev wsX50 : List Cond := u_ws RX5 TX5 2
theorem nmX5 : ∀ a, a < 2 → ∀ b, b < 2 → a ≠ b → (TX5 a).2.1 ≠ (TX5 b).2.1 := by decide +kernel
theorem tyX5_ok : ∀ k, k < 2 → parseFieldDescriptor (TX5 k).2.2.1 = some (tyX5 k) := by decide +kernel
abbrev cX5_init : ByteArray := prog_7_method_1_code
def yX5_init : MethodName := ⟨RX5, "<init>", "()V"⟩
abbrev cX5_add : ByteArray := prog_7_method_2_code
def yX5_add : MethodName := ⟨RX5, "add", "(I)Z"⟩
abbrev cX5_clear : ByteArray := prog_7_method_3_code
def yX5_clear : MethodName := ⟨RX5, "clear", "()V"⟩
abbrev cX5_size : ByteArray := prog_7_method_4_code
def yX5_size : MethodName := ⟨RX5, "size", "()I"⟩
abbrev cX5_signAt : ByteArray := prog_7_method_5_code
def yX5_signAt : MethodName := ⟨RX5, "signAt", "(I)C"⟩
abbrev cX5_firstFault : ByteArray := prog_7_method_6_code
def yX5_firstFault : MethodName := ⟨RX5, "firstFault", "()I"⟩
abbrev cX5_endOfAct : ByteArray := prog_7_method_7_code
def yX5_endOfAct : MethodName := ⟨RX5, "endOfAct", "(I)I"⟩
abbrev cX5_firstWrongSign : ByteArray := prog_7_method_8_code
def yX5_firstWrongSign : MethodName := ⟨RX5, "firstWrongSign", "(II)I"⟩
abbrev cX5_needsMore : ByteArray := prog_7_method_9_code
def yX5_needsMore : MethodName := ⟨RX5, "needsMore", "(C)Z"⟩
abbrev cX5_read : ByteArray := prog_7_method_10_code
def yX5_read : MethodName := ⟨RX5, "read", "(IILRungRights$Act;)V"⟩
abbrev cX5_placeOfSign : ByteArray := prog_7_method_11_code
def yX5_placeOfSign : MethodName := ⟨RX5, "placeOfSign", "(C)I"⟩
abbrev cX5_isManSign : ByteArray := prog_7_method_12_code
def yX5_isManSign : MethodName := ⟨RX5, "isManSign", "(C)Z"⟩
abbrev cX5_isRungSign : ByteArray := prog_7_method_13_code
def yX5_isRungSign : MethodName := ⟨RX5, "isRungSign", "(C)Z"⟩
abbrev cX5_isEndOfLadder : ByteArray := prog_7_method_14_code
def yX5_isEndOfLadder : MethodName := ⟨RX5, "isEndOfLadder", "(C)Z"⟩
def RX6 : String := "RungRights$Posts"
def TX6 : u_T := fun k => match k with
  | 0 => ("RungRights$Posts", "open", "[I", true)
  | 1 => ("RungRights$Posts", "post", "[I", true)
  | _ => ("RungRights$Posts", "posted", "I", false)
def tyX6 : Nat → FieldType := fun k => match k with
  | 0 => .array .int
  | 1 => .array .int
  | _ => .int
abbrev wsX60 : List Cond := u_ws RX6 TX6 3
theorem nmX6 : ∀ a, a < 3 → ∀ b, b < 3 → a ≠ b → (TX6 a).2.1 ≠ (TX6 b).2.1 := by decide +kernel
theorem tyX6_ok : ∀ k, k < 3 → parseFieldDescriptor (TX6 k).2.2.1 = some (tyX6 k) := by decide +kernel
abbrev cX6_init : ByteArray := prog_8_method_1_code
def yX6_init : MethodName := ⟨RX6, "<init>", "()V"⟩
abbrev cX6_assign : ByteArray := prog_8_method_2_code
def yX6_assign : MethodName := ⟨RX6, "assign", "(LRungRights$Brigade;)V"⟩
abbrev cX6_lowestPost : ByteArray := prog_8_method_3_code
def yX6_lowestPost : MethodName := ⟨RX6, "lowestPost", "(II)I"⟩
abbrev cX6_mostFrom : ByteArray := prog_8_method_4_code
def yX6_mostFrom : MethodName := ⟨RX6, "mostFrom", "(II)I"⟩
abbrev cX6_menPosted : ByteArray := prog_8_method_5_code
def yX6_menPosted : MethodName := ⟨RX6, "menPosted", "()I"⟩
abbrev cX6_rungOf : ByteArray := prog_8_method_6_code
def yX6_rungOf : MethodName := ⟨RX6, "rungOf", "(I)I"⟩
def RX7 : String := "RungRights$Routes"
def TX7 : u_T := fun k => match k with
  | _ => ("RungRights$Routes", "settled", "[I", true)
def tyX7 : Nat → FieldType := fun k => match k with
  | _ => .array .int
abbrev wsX70 : List Cond := u_ws RX7 TX7 1
theorem nmX7 : ∀ a, a < 1 → ∀ b, b < 1 → a ≠ b → (TX7 a).2.1 ≠ (TX7 b).2.1 := by decide +kernel
theorem tyX7_ok : ∀ k, k < 1 → parseFieldDescriptor (TX7 k).2.2.1 = some (tyX7 k) := by decide +kernel
abbrev cX7_init : ByteArray := prog_9_method_1_code
def yX7_init : MethodName := ⟨RX7, "<init>", "()V"⟩
abbrev cX7_fewestSteps : ByteArray := prog_9_method_2_code
def yX7_fewestSteps : MethodName := ⟨RX7, "fewestSteps", "(LRungRights$Brigade;I)I"⟩
abbrev cX7_firstStep : ByteArray := prog_9_method_3_code
def yX7_firstStep : MethodName := ⟨RX7, "firstStep", "(LRungRights$Brigade;I)I"⟩
abbrev cX7_settleSteps : ByteArray := prog_9_method_4_code
def yX7_settleSteps : MethodName := ⟨RX7, "settleSteps", "(LRungRights$Brigade;I)V"⟩
abbrev cX7_countUp : ByteArray := prog_9_method_5_code
def yX7_countUp : MethodName := ⟨RX7, "countUp", "(LRungRights$Brigade;I)I"⟩
abbrev cX7_fewestLeases : ByteArray := prog_9_method_6_code
def yX7_fewestLeases : MethodName := ⟨RX7, "fewestLeases", "(LRungRights$Brigade;I)I"⟩
abbrev cX7_leastLeased : ByteArray := prog_9_method_7_code
def yX7_leastLeased : MethodName := ⟨RX7, "leastLeased", "(LRungRights$Brigade;I)I"⟩
abbrev cX7_leaseCost : ByteArray := prog_9_method_8_code
def yX7_leaseCost : MethodName := ⟨RX7, "leaseCost", "(LRungRights$Brigade;I)I"⟩
abbrev cX7_settledAt : ByteArray := prog_9_method_9_code
def yX7_settledAt : MethodName := ⟨RX7, "settledAt", "(I)I"⟩
abbrev cX7_isOpen : ByteArray := prog_9_method_10_code
def yX7_isOpen : MethodName := ⟨RX7, "isOpen", "(II)Z"⟩
def RX8 : String := "RungRights$Trails"
def TX8 : u_T := fun k => match k with
  | 0 => ("RungRights$Trails", "codes", "[I", true)
  | 1 => ("RungRights$Trails", "wetRungs", "[I", true)
  | _ => ("RungRights$Trails", "count", "I", false)
def tyX8 : Nat → FieldType := fun k => match k with
  | 0 => .array .int
  | 1 => .array .int
  | _ => .int
abbrev wsX80 : List Cond := u_ws RX8 TX8 3
theorem nmX8 : ∀ a, a < 3 → ∀ b, b < 3 → a ≠ b → (TX8 a).2.1 ≠ (TX8 b).2.1 := by decide +kernel
theorem tyX8_ok : ∀ k, k < 3 → parseFieldDescriptor (TX8 k).2.2.1 = some (tyX8 k) := by decide +kernel
abbrev cX8_init : ByteArray := prog_10_method_1_code
def yX8_init : MethodName := ⟨RX8, "<init>", "()V"⟩
abbrev cX8_find : ByteArray := prog_10_method_2_code
def yX8_find : MethodName := ⟨RX8, "find", "(LRungRights$Brigade;)V"⟩
abbrev cX8_trailOf : ByteArray := prog_10_method_3_code
def yX8_trailOf : MethodName := ⟨RX8, "trailOf", "(LRungRights$Brigade;II)I"⟩
abbrev cX8_nextPlace : ByteArray := prog_10_method_4_code
def yX8_nextPlace : MethodName := ⟨RX8, "nextPlace", "(LRungRights$Brigade;III)I"⟩
abbrev cX8_size : ByteArray := prog_10_method_5_code
def yX8_size : MethodName := ⟨RX8, "size", "()I"⟩
abbrev cX8_codeAt : ByteArray := prog_10_method_6_code
def yX8_codeAt : MethodName := ⟨RX8, "codeAt", "(I)I"⟩
abbrev cX8_rungToFeel : ByteArray := prog_10_method_7_code
def yX8_rungToFeel : MethodName := ⟨RX8, "rungToFeel", "()I"⟩
abbrev cX8_mostLeftBy : ByteArray := prog_10_method_8_code
def yX8_mostLeftBy : MethodName := ⟨RX8, "mostLeftBy", "(I)I"⟩
def RX9 : String := "RungRights"
def TX9 : u_T := fun k => match k with
  | 0 => ("RungRights", "brigade", "LRungRights$Brigade;", true)
  | 1 => ("RungRights", "pad", "LRungRights$Pad;", true)
  | 2 => ("RungRights", "act", "LRungRights$Act;", true)
  | 3 => ("RungRights", "fire", "LRungRights$Fire;", true)
  | 4 => ("RungRights", "routes", "LRungRights$Routes;", true)
  | 5 => ("RungRights", "posts", "LRungRights$Posts;", true)
  | 6 => ("RungRights", "trails", "LRungRights$Trails;", true)
  | 7 => ("RungRights", "feet", "LRungRights$Feet;", true)
  | _ => ("RungRights", "images", "[LRungRights$Brigade;", true)
def tyX9 : Nat → FieldType := fun k => match k with
  | 0 => .object "RungRights$Brigade"
  | 1 => .object "RungRights$Pad"
  | 2 => .object "RungRights$Act"
  | 3 => .object "RungRights$Fire"
  | 4 => .object "RungRights$Routes"
  | 5 => .object "RungRights$Posts"
  | 6 => .object "RungRights$Trails"
  | 7 => .object "RungRights$Feet"
  | _ => .array (.object "RungRights$Brigade")
abbrev wsX90 : List Cond := u_ws RX9 TX9 9
theorem nmX9 : ∀ a, a < 9 → ∀ b, b < 9 → a ≠ b → (TX9 a).2.1 ≠ (TX9 b).2.1 := by decide +kernel
theorem tyX9_ok : ∀ k, k < 9 → parseFieldDescriptor (TX9 k).2.2.1 = some (tyX9 k) := by decide +kernel
abbrev cX9_init : ByteArray := prog_1_method_1_code
def yX9_init : MethodName := ⟨RX9, "<init>", "()V"⟩
abbrev cX9_rung : ByteArray := prog_1_method_2_code
def yX9_rung : MethodName := ⟨RX9, "rung", "(IIII)I"⟩
abbrev cX9_man : ByteArray := prog_1_method_3_code
def yX9_man : MethodName := ⟨RX9, "man", "(IIII)I"⟩
abbrev cX9_say : ByteArray := prog_1_method_4_code
def yX9_say : MethodName := ⟨RX9, "say", "(I)I"⟩
abbrev cX9_wipe : ByteArray := prog_1_method_5_code
def yX9_wipe : MethodName := ⟨RX9, "wipe", "()I"⟩
abbrev cX9_fault : ByteArray := prog_1_method_6_code
def yX9_fault : MethodName := ⟨RX9, "fault", "()I"⟩
abbrev cX9_judge : ByteArray := prog_1_method_7_code
def yX9_judge : MethodName := ⟨RX9, "judge", "(I)I"⟩
abbrev cX9_done : ByteArray := prog_1_method_8_code
def yX9_done : MethodName := ⟨RX9, "done", "()I"⟩
abbrev cX9_behind : ByteArray := prog_1_method_9_code
def yX9_behind : MethodName := ⟨RX9, "behind", "(II)I"⟩
abbrev cX9_bears : ByteArray := prog_1_method_10_code
def yX9_bears : MethodName := ⟨RX9, "bears", "(II)I"⟩
abbrev cX9_then : ByteArray := prog_1_method_11_code
def yX9_then : MethodName := ⟨RX9, "then", "(I)I"⟩
abbrev cX9_climb : ByteArray := prog_1_method_12_code
def yX9_climb : MethodName := ⟨RX9, "climb", "(II)I"⟩
abbrev cX9_ways : ByteArray := prog_1_method_13_code
def yX9_ways : MethodName := ⟨RX9, "ways", "(I)I"⟩
abbrev cX9_leases : ByteArray := prog_1_method_14_code
def yX9_leases : MethodName := ⟨RX9, "leases", "(II)I"⟩
abbrev cX9_stand : ByteArray := prog_1_method_15_code
def yX9_stand : MethodName := ⟨RX9, "stand", "(I)I"⟩
abbrev cX9_felt : ByteArray := prog_1_method_16_code
def yX9_felt : MethodName := ⟨RX9, "felt", "(IZ)I"⟩
abbrev cX9_forget : ByteArray := prog_1_method_17_code
def yX9_forget : MethodName := ⟨RX9, "forget", "()I"⟩
abbrev cX9_ups : ByteArray := prog_1_method_18_code
def yX9_ups : MethodName := ⟨RX9, "ups", "(I)I"⟩
abbrev cX9_ask : ByteArray := prog_1_method_19_code
def yX9_ask : MethodName := ⟨RX9, "ask", "(I)I"⟩
abbrev cX9_down : ByteArray := prog_1_method_20_code
def yX9_down : MethodName := ⟨RX9, "down", "(II)I"⟩
abbrev cX9_foot : ByteArray := prog_1_method_21_code
def yX9_foot : MethodName := ⟨RX9, "foot", "(IIII)J"⟩
abbrev cX9_year : ByteArray := prog_1_method_22_code
def yX9_year : MethodName := ⟨RX9, "year", "(III)I"⟩
abbrev cX9_image : ByteArray := prog_1_method_23_code
def yX9_image : MethodName := ⟨RX9, "image", "(I)I"⟩
abbrev cX9_restore : ByteArray := prog_1_method_24_code
def yX9_restore : MethodName := ⟨RX9, "restore", "(I)I"⟩
abbrev cX9_told : ByteArray := prog_1_method_25_code
def yX9_told : MethodName := ⟨RX9, "told", "(I)I"⟩
abbrev cX9_toldOfMan : ByteArray := prog_1_method_26_code
def yX9_toldOfMan : MethodName := ⟨RX9, "toldOfMan", "(II)I"⟩
abbrev cX9_toldOfRung : ByteArray := prog_1_method_27_code
def yX9_toldOfRung : MethodName := ⟨RX9, "toldOfRung", "(I)I"⟩
abbrev cX9_passYear : ByteArray := prog_1_method_28_code
def yX9_passYear : MethodName := ⟨RX9, "passYear", "(II)V"⟩
abbrev cX9_within : ByteArray := prog_1_method_29_code
def yX9_within : MethodName := ⟨RX9, "within", "(III)Z"⟩
abbrev cX9_isRung : ByteArray := prog_1_method_30_code
def yX9_isRung : MethodName := ⟨RX9, "isRung", "(I)Z"⟩
abbrev cX9_isPlace : ByteArray := prog_1_method_31_code
def yX9_isPlace : MethodName := ⟨RX9, "isPlace", "(I)Z"⟩
abbrev cX9_isMan : ByteArray := prog_1_method_32_code
def yX9_isMan : MethodName := ⟨RX9, "isMan", "(I)Z"⟩
abbrev cX9_isManOrNobody : ByteArray := prog_1_method_33_code
def yX9_isManOrNobody : MethodName := ⟨RX9, "isManOrNobody", "(I)Z"⟩
abbrev cX9_isImage : ByteArray := prog_1_method_34_code
def yX9_isImage : MethodName := ⟨RX9, "isImage", "(I)Z"⟩
abbrev cX9_orNone : ByteArray := prog_1_method_35_code
def yX9_orNone : MethodName := ⟨RX9, "orNone", "(I)I"⟩
abbrev cX9_bitOf : ByteArray := prog_1_method_36_code
def yX9_bitOf : MethodName := ⟨RX9, "bitOf", "(I)I"⟩
abbrev cX9_rightsFit : ByteArray := prog_1_method_37_code
def yX9_rightsFit : MethodName := ⟨RX9, "rightsFit", "(III)Z"⟩
def RX10 : String := "RungRightsModel"
def TX10 : u_T := fun k => match k with
  | 0 => ("RungRightsModel", "book", "[I", true)
  | 1 => ("RungRightsModel", "now", "[I", true)
  | 2 => ("RungRightsModel", "sights", "I", false)
  | 3 => ("RungRightsModel", "sight", "[I", true)
  | 4 => ("RungRightsModel", "signs", "I", false)
  | 5 => ("RungRightsModel", "pad", "[I", true)
  | 6 => ("RungRightsModel", "steps", "I", false)
  | 7 => ("RungRightsModel", "paid", "I", false)
  | 8 => ("RungRightsModel", "roofAt", "I", false)
  | 9 => ("RungRightsModel", "roofWho", "I", false)
  | 10 => ("RungRightsModel", "reason", "I", false)
  | 11 => ("RungRightsModel", "acts", "I", false)
  | 12 => ("RungRightsModel", "few", "[I", true)
  | 13 => ("RungRightsModel", "rows", "[I", true)
  | 14 => ("RungRightsModel", "can", "[Z", true)
  | 15 => ("RungRightsModel", "wins", "[Z", true)
  | 16 => ("RungRightsModel", "odds", "[J", true)
  | 17 => ("RungRightsModel", "means", "[J", true)
  | 18 => ("RungRightsModel", "image", "[I", true)
  | _ => ("RungRightsModel", "isKept", "[Z", true)
def tyX10 : Nat → FieldType := fun k => match k with
  | 0 => .array .int
  | 1 => .array .int
  | 2 => .int
  | 3 => .array .int
  | 4 => .int
  | 5 => .array .int
  | 6 => .int
  | 7 => .int
  | 8 => .int
  | 9 => .int
  | 10 => .int
  | 11 => .int
  | 12 => .array .int
  | 13 => .array .int
  | 14 => .array .boolean
  | 15 => .array .boolean
  | 16 => .array .long
  | 17 => .array .long
  | 18 => .array .int
  | _ => .array .boolean
abbrev wsX100 : List Cond := u_ws RX10 TX10 20
theorem nmX10 : ∀ a, a < 20 → ∀ b, b < 20 → a ≠ b → (TX10 a).2.1 ≠ (TX10 b).2.1 := by decide +kernel
theorem tyX10_ok : ∀ k, k < 20 → parseFieldDescriptor (TX10 k).2.2.1 = some (tyX10 k) := by decide +kernel
abbrev cX10_init : ByteArray := prog_12_method_1_code
def yX10_init : MethodName := ⟨RX10, "<init>", "()V"⟩
abbrev cX10_in : ByteArray := prog_12_method_2_code
def yX10_in : MethodName := ⟨RX10, "in", "(III)Z"⟩
abbrev cX10_has : ByteArray := prog_12_method_3_code
def yX10_has : MethodName := ⟨RX10, "has", "(II)Z"⟩
abbrev cX10_bits : ByteArray := prog_12_method_4_code
def yX10_bits : MethodName := ⟨RX10, "bits", "(I)I"⟩
abbrev cX10_isRung : ByteArray := prog_12_method_5_code
def yX10_isRung : MethodName := ⟨RX10, "isRung", "(I)Z"⟩
abbrev cX10_isMan : ByteArray := prog_12_method_6_code
def yX10_isMan : MethodName := ⟨RX10, "isMan", "(I)Z"⟩
abbrev cX10_asNow : ByteArray := prog_12_method_7_code
def yX10_asNow : MethodName := ⟨RX10, "asNow", "()V"⟩
abbrev cX10_isMissing : ByteArray := prog_12_method_8_code
def yX10_isMissing : MethodName := ⟨RX10, "isMissing", "(I)Z"⟩
abbrev cX10_may : ByteArray := prog_12_method_9_code
def yX10_may : MethodName := ⟨RX10, "may", "(II)Z"⟩
abbrev cX10_standing : ByteArray := prog_12_method_10_code
def yX10_standing : MethodName := ⟨RX10, "standing", "(I)I"⟩
abbrev cX10_rung : ByteArray := prog_12_method_11_code
def yX10_rung : MethodName := ⟨RX10, "rung", "(IIII)I"⟩
abbrev cX10_man : ByteArray := prog_12_method_12_code
def yX10_man : MethodName := ⟨RX10, "man", "(IIII)I"⟩
abbrev cX10_say : ByteArray := prog_12_method_13_code
def yX10_say : MethodName := ⟨RX10, "say", "(I)I"⟩
abbrev cX10_wipe : ByteArray := prog_12_method_14_code
def yX10_wipe : MethodName := ⟨RX10, "wipe", "()I"⟩
abbrev cX10_step : ByteArray := prog_12_method_15_code
def yX10_step : MethodName := ⟨RX10, "step", "(II)I"⟩
abbrev cX10_faultOf : ByteArray := prog_12_method_16_code
def yX10_faultOf : MethodName := ⟨RX10, "faultOf", "()I"⟩
abbrev cX10_fault : ByteArray := prog_12_method_17_code
def yX10_fault : MethodName := ⟨RX10, "fault", "()I"⟩
abbrev cX10_goTo : ByteArray := prog_12_method_18_code
def yX10_goTo : MethodName := ⟨RX10, "goTo", "(II)I"⟩
abbrev cX10_leaseTo : ByteArray := prog_12_method_19_code
def yX10_leaseTo : MethodName := ⟨RX10, "leaseTo", "(II)I"⟩
abbrev cX10_lose : ByteArray := prog_12_method_20_code
def yX10_lose : MethodName := ⟨RX10, "lose", "(IZ)I"⟩
abbrev cX10_endBeat : ByteArray := prog_12_method_21_code
def yX10_endBeat : MethodName := ⟨RX10, "endBeat", "()I"⟩
abbrev cX10_oneAct : ByteArray := prog_12_method_22_code
def yX10_oneAct : MethodName := ⟨RX10, "oneAct", "(I)I"⟩
abbrev cX10_roof : ByteArray := prog_12_method_23_code
def yX10_roof : MethodName := ⟨RX10, "roof", "()I"⟩
abbrev cX10_goFires : ByteArray := prog_12_method_24_code
def yX10_goFires : MethodName := ⟨RX10, "goFires", "()I"⟩
abbrev cX10_judge : ByteArray := prog_12_method_25_code
def yX10_judge : MethodName := ⟨RX10, "judge", "(I)I"⟩
abbrev cX10_barOfFires : ByteArray := prog_12_method_26_code
def yX10_barOfFires : MethodName := ⟨RX10, "barOfFires", "()I"⟩
abbrev cX10_done : ByteArray := prog_12_method_27_code
def yX10_done : MethodName := ⟨RX10, "done", "()I"⟩
abbrev cX10_mayOnes : ByteArray := prog_12_method_28_code
def yX10_mayOnes : MethodName := ⟨RX10, "mayOnes", "(I)I"⟩
abbrev cX10_behind : ByteArray := prog_12_method_29_code
def yX10_behind : MethodName := ⟨RX10, "behind", "(II)I"⟩
abbrev cX10_bears : ByteArray := prog_12_method_30_code
def yX10_bears : MethodName := ⟨RX10, "bears", "(II)I"⟩
abbrev cX10_then : ByteArray := prog_12_method_31_code
def yX10_then : MethodName := ⟨RX10, "then", "(I)I"⟩
abbrev cX10_layClimb : ByteArray := prog_12_method_32_code
def yX10_layClimb : MethodName := ⟨RX10, "layClimb", "(II)V"⟩
abbrev cX10_climb : ByteArray := prog_12_method_33_code
def yX10_climb : MethodName := ⟨RX10, "climb", "(II)I"⟩
abbrev cX10_ways : ByteArray := prog_12_method_34_code
def yX10_ways : MethodName := ⟨RX10, "ways", "(I)I"⟩
abbrev cX10_leases : ByteArray := prog_12_method_35_code
def yX10_leases : MethodName := ⟨RX10, "leases", "(II)I"⟩
abbrev cX10_most : ByteArray := prog_12_method_36_code
def yX10_most : MethodName := ⟨RX10, "most", "(II)I"⟩
abbrev cX10_stand : ByteArray := prog_12_method_37_code
def yX10_stand : MethodName := ⟨RX10, "stand", "(I)I"⟩
abbrev cX10_wetOnes : ByteArray := prog_12_method_38_code
def yX10_wetOnes : MethodName := ⟨RX10, "wetOnes", "(I)I"⟩
abbrev cX10_felt : ByteArray := prog_12_method_39_code
def yX10_felt : MethodName := ⟨RX10, "felt", "(IZ)I"⟩
abbrev cX10_forget : ByteArray := prog_12_method_40_code
def yX10_forget : MethodName := ⟨RX10, "forget", "()I"⟩
abbrev cX10_isFit : ByteArray := prog_12_method_41_code
def yX10_isFit : MethodName := ⟨RX10, "isFit", "(I)Z"⟩
abbrev cX10_ups : ByteArray := prog_12_method_42_code
def yX10_ups : MethodName := ⟨RX10, "ups", "(I)I"⟩
abbrev cX10_ask : ByteArray := prog_12_method_43_code
def yX10_ask : MethodName := ⟨RX10, "ask", "(I)I"⟩
abbrev cX10_firstDown : ByteArray := prog_12_method_44_code
def yX10_firstDown : MethodName := ⟨RX10, "firstDown", "(I)I"⟩
abbrev cX10_down : ByteArray := prog_12_method_45_code
def yX10_down : MethodName := ⟨RX10, "down", "(II)I"⟩
abbrev cX10_foot : ByteArray := prog_12_method_46_code
def yX10_foot : MethodName := ⟨RX10, "foot", "(IIII)J"⟩
abbrev cX10_year : ByteArray := prog_12_method_47_code
def yX10_year : MethodName := ⟨RX10, "year", "(III)I"⟩
abbrev cX10_image : ByteArray := prog_12_method_48_code
def yX10_image : MethodName := ⟨RX10, "image", "(I)I"⟩
abbrev cX10_restore : ByteArray := prog_12_method_49_code
def yX10_restore : MethodName := ⟨RX10, "restore", "(I)I"⟩
abbrev cX10_told : ByteArray := prog_12_method_50_code
def yX10_told : MethodName := ⟨RX10, "told", "(I)I"⟩
def RJ6 : String := "java/lang/Integer"
def TJ6 : u_T := fun k => match k with
  | _ => ("", "", "", false)
def tyJ6 : Nat → FieldType := fun k => match k with
  | _ => .int
abbrev wsJ60 : List Cond := u_ws RJ6 TJ6 0
theorem nmJ6 : ∀ a, a < 0 → ∀ b, b < 0 → a ≠ b → (TJ6 a).2.1 ≠ (TJ6 b).2.1 := by decide +kernel
theorem tyJ6_ok : ∀ k, k < 0 → parseFieldDescriptor (TJ6 k).2.2.1 = some (tyJ6 k) := by decide +kernel
abbrev cJ6_bitCount_0f7a4 : ByteArray := prog_13_method_49_code
def yJ6_bitCount_0f7a4 : MethodName := ⟨RJ6, "bitCount", "(I)I"⟩
def RJ9 : String := "java/lang/Math"
def TJ9 : u_T := fun k => match k with
  | _ => ("", "", "", false)
def tyJ9 : Nat → FieldType := fun k => match k with
  | _ => .int
abbrev wsJ90 : List Cond := u_ws RJ9 TJ9 0
theorem nmJ9 : ∀ a, a < 0 → ∀ b, b < 0 → a ≠ b → (TJ9 a).2.1 ≠ (TJ9 b).2.1 := by decide +kernel
theorem tyJ9_ok : ∀ k, k < 0 → parseFieldDescriptor (TJ9 k).2.2.1 = some (tyJ9 k) := by decide +kernel
abbrev cJ9_abs_0f7a4 : ByteArray := prog_14_method_59_code
def yJ9_abs_0f7a4 : MethodName := ⟨RJ9, "abs", "(I)I"⟩
abbrev cJ9_max_7cf53 : ByteArray := prog_14_method_65_code
def yJ9_max_7cf53 : MethodName := ⟨RJ9, "max", "(II)I"⟩
abbrev cJ9_min_7cf53 : ByteArray := prog_14_method_69_code
def yJ9_min_7cf53 : MethodName := ⟨RJ9, "min", "(II)I"⟩
def RJ10 : String := "java/lang/System"
def TJ10 : u_T := fun k => match k with
  | _ => ("", "", "", false)
def tyJ10 : Nat → FieldType := fun k => match k with
  | _ => .int
abbrev wsJ100 : List Cond := u_ws RJ10 TJ10 0
theorem nmJ10 : ∀ a, a < 0 → ∀ b, b < 0 → a ≠ b → (TJ10 a).2.1 ≠ (TJ10 b).2.1 := by decide +kernel
theorem tyJ10_ok : ∀ k, k < 0 → parseFieldDescriptor (TJ10 k).2.2.1 = some (tyJ10 k) := by decide +kernel
def RJ7 : String := "java/util/Arrays"
def TJ7 : u_T := fun k => match k with
  | _ => ("", "", "", false)
def tyJ7 : Nat → FieldType := fun k => match k with
  | _ => .int
abbrev wsJ70 : List Cond := u_ws RJ7 TJ7 0
theorem nmJ7 : ∀ a, a < 0 → ∀ b, b < 0 → a ≠ b → (TJ7 a).2.1 ≠ (TJ7 b).2.1 := by decide +kernel
theorem tyJ7_ok : ∀ k, k < 0 → parseFieldDescriptor (TJ7 k).2.2.1 = some (tyJ7 k) := by decide +kernel
abbrev cJ7_fill_53178 : ByteArray := prog_16_method_103_code
def yJ7_fill_53178 : MethodName := ⟨RJ7, "fill", "([II)V"⟩
def RL : String := "RungRightsLaw"
abbrev cL_law : ByteArray := code
def yL_law : MethodName := ⟨RL, "law", "([I)Z"⟩
def wsL_law_r1 : List Cond := [Cond.classLink RL 7 RX9, Cond.instantiable RX9 9, Cond.initialized RX9, Cond.classLink RL 10 RX10, Cond.instantiable RX10 20, Cond.initialized RX10, Cond.methodLink RL 9 yX9_init, Cond.instanceMethod yX9_init, Cond.code yX9_init cX9_init 1 none, Cond.methodLink RX9 3 objectInit, Cond.instanceMethod objectInit, Cond.code objectInit ⟨#[0xb1]⟩ 1 none, Cond.classLink RX9 9 RX1, Cond.instantiable RX1 11, Cond.initialized RX1, Cond.fieldLink RX9 12 "RungRights" "brigade" "LRungRights$Brigade;", Cond.classLink RX9 16 RX5, Cond.instantiable RX5 2, Cond.initialized RX5, Cond.fieldLink RX9 19 "RungRights" "pad" "LRungRights$Pad;", Cond.classLink RX9 23 RX0, Cond.instantiable RX0 3, Cond.initialized RX0, Cond.fieldLink RX9 26 "RungRights" "act" "LRungRights$Act;"]
def wsL_law_r2 : List Cond := [Cond.classLink RX9 30 RX4, Cond.instantiable RX4 8, Cond.initialized RX4, Cond.fieldLink RX9 33 "RungRights" "fire" "LRungRights$Fire;", Cond.classLink RX9 37 RX7, Cond.instantiable RX7 1, Cond.initialized RX7, Cond.fieldLink RX9 40 "RungRights" "routes" "LRungRights$Routes;", Cond.classLink RX9 44 RX6, Cond.instantiable RX6 3, Cond.initialized RX6, Cond.fieldLink RX9 47 "RungRights" "posts" "LRungRights$Posts;", Cond.classLink RX9 51 RX8, Cond.instantiable RX8 3, Cond.initialized RX8, Cond.fieldLink RX9 54 "RungRights" "trails" "LRungRights$Trails;", Cond.classLink RX9 58 RX3, Cond.instantiable RX3 3, Cond.initialized RX3, Cond.fieldLink RX9 61 "RungRights" "feet" "LRungRights$Feet;", Cond.fieldLink RX9 65 "RungRights" "images" "[LRungRights$Brigade;", Cond.methodLink RX9 11 yX1_init, Cond.instanceMethod yX1_init, Cond.code yX1_init cX1_init 1 none]
def wsL_law_r3 : List Cond := [Cond.methodLink RX1 3 objectInit, Cond.arrayClass .int, Cond.fieldLink RX1 9 "RungRights$Brigade" "owner" "[I", Cond.fieldLink RX1 15 "RungRights$Brigade" "leaser" "[I", Cond.fieldLink RX1 18 "RungRights$Brigade" "missing" "I", Cond.fieldLink RX1 22 "RungRights$Brigade" "stride" "[I", Cond.fieldLink RX1 25 "RungRights$Brigade" "coins" "[I", Cond.fieldLink RX1 28 "RungRights$Brigade" "place" "[I", Cond.fieldLink RX1 31 "RungRights$Brigade" "stepped" "I", Cond.fieldLink RX1 34 "RungRights$Brigade" "beat" "I", Cond.fieldLink RX1 37 "RungRights$Brigade" "sights" "I", Cond.fieldLink RX1 40 "RungRights$Brigade" "wet" "I", Cond.fieldLink RX1 43 "RungRights$Brigade" "dry" "I", Cond.methodLink RX1 46 yJ7_fill_53178, Cond.static yJ7_fill_53178, Cond.initialized RJ7, Cond.code yJ7_fill_53178 cJ7_fill_53178 4 none, Cond.instanceMethod yX5_init, Cond.code yX5_init cX5_init 1 none, Cond.methodLink RX5 3 objectInit, Cond.arrayClass .char, Cond.fieldLink RX5 9 "RungRights$Pad" "signs" "[C", Cond.fieldLink RX5 15 "RungRights$Pad" "count" "I", Cond.instanceMethod yX0_init]
def wsL_law_r4 : List Cond := [Cond.code yX0_init cX0_init 1 none, Cond.methodLink RX0 3 objectInit, Cond.fieldLink RX0 11 "RungRights$Act" "kind" "I", Cond.fieldLink RX0 15 "RungRights$Act" "man" "I", Cond.fieldLink RX0 18 "RungRights$Act" "place" "I", Cond.instanceMethod yX4_init, Cond.code yX4_init cX4_init 1 none, Cond.methodLink RX4 3 objectInit, Cond.classLink RX4 9 RX1, Cond.fieldLink RX4 12 "RungRights$Fire" "after" "LRungRights$Brigade;", Cond.classLink RX4 18 RX0, Cond.fieldLink RX4 21 "RungRights$Fire" "act" "LRungRights$Act;", Cond.fieldLink RX4 25 "RungRights$Fire" "acts" "I", Cond.fieldLink RX4 29 "RungRights$Fire" "steps" "I", Cond.fieldLink RX4 32 "RungRights$Fire" "paid" "I", Cond.fieldLink RX4 35 "RungRights$Fire" "actUp" "I", Cond.fieldLink RX4 38 "RungRights$Fire" "manUp" "I", Cond.fieldLink RX4 41 "RungRights$Fire" "why" "I", Cond.methodLink RX4 11 yX1_init, Cond.instanceMethod yX7_init, Cond.code yX7_init cX7_init 1 none, Cond.methodLink RX7 3 objectInit, Cond.fieldLink RX7 9 "RungRights$Routes" "settled" "[I", Cond.instanceMethod yX6_init]
def wsL_law_r5 : List Cond := [Cond.code yX6_init cX6_init 1 none, Cond.methodLink RX6 3 objectInit, Cond.fieldLink RX6 9 "RungRights$Posts" "open" "[I", Cond.fieldLink RX6 15 "RungRights$Posts" "post" "[I", Cond.fieldLink RX6 18 "RungRights$Posts" "posted" "I", Cond.instanceMethod yX8_init, Cond.code yX8_init cX8_init 1 none, Cond.methodLink RX8 3 objectInit, Cond.fieldLink RX8 9 "RungRights$Trails" "codes" "[I", Cond.fieldLink RX8 15 "RungRights$Trails" "wetRungs" "[I", Cond.fieldLink RX8 18 "RungRights$Trails" "count" "I", Cond.instanceMethod yX3_init, Cond.code yX3_init cX3_init 1 none, Cond.methodLink RX3 3 objectInit, Cond.arrayClass .long, Cond.fieldLink RX3 9 "RungRights$Feet" "chances" "[J", Cond.fieldLink RX3 15 "RungRights$Feet" "upper" "J", Cond.fieldLink RX3 19 "RungRights$Feet" "lower" "J", Cond.methodLink RL 12 yX10_init, Cond.instanceMethod yX10_init, Cond.code yX10_init cX10_init 2 none, Cond.methodLink RX10 1 objectInit, Cond.fieldLink RX10 7 "RungRightsModel" "book" "[I", Cond.fieldLink RX10 13 "RungRightsModel" "now" "[I"]
def wsL_law_r6 : List Cond := [Cond.fieldLink RX10 16 "RungRightsModel" "sight" "[I", Cond.fieldLink RX10 19 "RungRightsModel" "pad" "[I", Cond.fieldLink RX10 22 "RungRightsModel" "few" "[I", Cond.fieldLink RX10 25 "RungRightsModel" "rows" "[I", Cond.arrayClass .boolean, Cond.fieldLink RX10 28 "RungRightsModel" "can" "[Z", Cond.fieldLink RX10 32 "RungRightsModel" "wins" "[Z", Cond.fieldLink RX10 35 "RungRightsModel" "odds" "[J", Cond.fieldLink RX10 39 "RungRightsModel" "means" "[J", Cond.fieldLink RX10 42 "RungRightsModel" "image" "[I", Cond.fieldLink RX10 45 "RungRightsModel" "isKept" "[Z", Cond.methodLink RL 13 yX9_rung, Cond.instanceMethod yX9_rung, Cond.selects RX9 yX9_rung yX9_rung, Cond.code yX9_rung cX9_rung 6 (some .int), Cond.methodLink RX9 69 yX9_isRung, Cond.static yX9_isRung, Cond.code yX9_isRung cX9_isRung 1 (some .boolean), Cond.methodLink RX9 73 yX9_isManOrNobody, Cond.static yX9_isManOrNobody, Cond.code yX9_isManOrNobody cX9_isManOrNobody 1 (some .boolean), Cond.methodLink RX9 91 yX9_isMan, Cond.static yX9_isMan, Cond.code yX9_isMan cX9_isMan 1 (some .boolean)]
def wsL_law_r7 : List Cond := [Cond.methodLink RX9 76 yX9_rightsFit, Cond.static yX9_rightsFit, Cond.code yX9_rightsFit cX9_rightsFit 3 (some .boolean), Cond.methodLink RX9 94 yX9_within, Cond.static yX9_within, Cond.code yX9_within cX9_within 3 (some .boolean), Cond.methodLink RX9 80 yX1_ownerOf, Cond.instanceMethod yX1_ownerOf, Cond.selects RX1 yX1_ownerOf yX1_ownerOf, Cond.code yX1_ownerOf cX1_ownerOf 2 (some .int), Cond.methodLink RX9 84 yX1_setRung, Cond.instanceMethod yX1_setRung, Cond.selects RX1 yX1_setRung yX1_setRung, Cond.code yX1_setRung cX1_setRung 5 none, Cond.static yX9_bitOf, Cond.code yX9_bitOf cX9_bitOf 1 (some .int), Cond.methodLink RX9 88 yX9_orNone, Cond.static yX9_orNone, Cond.code yX9_orNone cX9_orNone 1 (some .int), Cond.methodLink RL 17 yX10_rung, Cond.instanceMethod yX10_rung, Cond.selects RX10 yX10_rung yX10_rung, Cond.code yX10_rung cX10_rung 7 (some .int), Cond.methodLink RX10 73 yX10_isRung]
def wsL_law_r8 : List Cond := [Cond.static yX10_isRung, Cond.code yX10_isRung cX10_isRung 1 (some .boolean), Cond.methodLink RX10 48 yX10_in, Cond.static yX10_in, Cond.code yX10_in cX10_in 3 (some .boolean), Cond.methodLink RL 18 yX9_man, Cond.instanceMethod yX9_man, Cond.selects RX9 yX9_man yX9_man, Cond.code yX9_man cX9_man 6 (some .int), Cond.methodLink RX9 97 yX9_isPlace, Cond.static yX9_isPlace, Cond.code yX9_isPlace cX9_isPlace 1 (some .boolean), Cond.methodLink RX9 100 yX1_placeOf, Cond.instanceMethod yX1_placeOf, Cond.selects RX1 yX1_placeOf yX1_placeOf, Cond.code yX1_placeOf cX1_placeOf 2 (some .int), Cond.methodLink RX9 103 yX1_coinsOf, Cond.instanceMethod yX1_coinsOf, Cond.selects RX1 yX1_coinsOf yX1_coinsOf, Cond.code yX1_coinsOf cX1_coinsOf 2 (some .int), Cond.methodLink RX9 106 yX1_setMan, Cond.instanceMethod yX1_setMan, Cond.selects RX1 yX1_setMan yX1_setMan, Cond.code yX1_setMan cX1_setMan 5 none]
def wsL_law_r9 : List Cond := [Cond.methodLink RL 21 yX10_man, Cond.instanceMethod yX10_man, Cond.selects RX10 yX10_man yX10_man, Cond.code yX10_man cX10_man 6 (some .int), Cond.methodLink RX10 76 yX10_isMan, Cond.static yX10_isMan, Cond.code yX10_isMan cX10_isMan 1 (some .boolean), Cond.methodLink RL 22 yX9_say, Cond.instanceMethod yX9_say, Cond.selects RX9 yX9_say yX9_say, Cond.code yX9_say cX9_say 2 (some .int), Cond.methodLink RX9 110 yX5_add, Cond.instanceMethod yX5_add, Cond.selects RX5 yX5_add yX5_add, Cond.code yX5_add cX5_add 2 (some .boolean), Cond.methodLink RX9 113 yX5_size, Cond.instanceMethod yX5_size, Cond.selects RX5 yX5_size yX5_size, Cond.code yX5_size cX5_size 1 (some .int), Cond.methodLink RL 26 yX10_say, Cond.instanceMethod yX10_say, Cond.selects RX10 yX10_say yX10_say, Cond.code yX10_say cX10_say 2 (some .int), Cond.fieldLink RX10 79 "RungRightsModel" "signs" "I"]
def wsL_law_r10 : List Cond := [Cond.methodLink RL 27 yX9_wipe, Cond.instanceMethod yX9_wipe, Cond.selects RX9 yX9_wipe yX9_wipe, Cond.code yX9_wipe cX9_wipe 2 (some .int), Cond.methodLink RX9 117 yX5_clear, Cond.instanceMethod yX5_clear, Cond.selects RX5 yX5_clear yX5_clear, Cond.code yX5_clear cX5_clear 1 none, Cond.methodLink RL 31 yX10_wipe, Cond.instanceMethod yX10_wipe, Cond.selects RX10 yX10_wipe yX10_wipe, Cond.code yX10_wipe cX10_wipe 2 (some .int), Cond.methodLink RL 32 yX9_fault, Cond.instanceMethod yX9_fault, Cond.selects RX9 yX9_fault yX9_fault, Cond.code yX9_fault cX9_fault 1 (some .int), Cond.methodLink RX9 120 yX5_firstFault, Cond.instanceMethod yX5_firstFault, Cond.selects RX5 yX5_firstFault yX5_firstFault, Cond.code yX5_firstFault cX5_firstFault 5 (some .int), Cond.methodLink RX5 19 yX5_endOfAct, Cond.instanceMethod yX5_endOfAct, Cond.selects RX5 yX5_endOfAct yX5_endOfAct, Cond.code yX5_endOfAct cX5_endOfAct 2 (some .int)]
def wsL_law_r11 : List Cond := [Cond.methodLink RX5 27 yX5_signAt, Cond.instanceMethod yX5_signAt, Cond.selects RX5 yX5_signAt yX5_signAt, Cond.code yX5_signAt cX5_signAt 2 (some .char), Cond.methodLink RX5 31 yX5_needsMore, Cond.static yX5_needsMore, Cond.code yX5_needsMore cX5_needsMore 1 (some .boolean), Cond.methodLink RX5 35 yX5_isManSign, Cond.static yX5_isManSign, Cond.code yX5_isManSign cX5_isManSign 1 (some .boolean), Cond.methodLink RX5 23 yX5_firstWrongSign, Cond.instanceMethod yX5_firstWrongSign, Cond.selects RX5 yX5_firstWrongSign yX5_firstWrongSign, Cond.code yX5_firstWrongSign cX5_firstWrongSign 6 (some .int), Cond.methodLink RX5 38 yX5_isRungSign, Cond.static yX5_isRungSign, Cond.code yX5_isRungSign cX5_isRungSign 1 (some .boolean), Cond.methodLink RX5 41 yX5_isEndOfLadder, Cond.static yX5_isEndOfLadder, Cond.code yX5_isEndOfLadder cX5_isEndOfLadder 1 (some .boolean), Cond.methodLink RL 35 yX10_fault, Cond.instanceMethod yX10_fault, Cond.selects RX10 yX10_fault yX10_fault, Cond.code yX10_fault cX10_fault 1 (some .int)]
def wsL_law_r12 : List Cond := [Cond.methodLink RX10 86 yX10_faultOf, Cond.instanceMethod yX10_faultOf, Cond.selects RX10 yX10_faultOf yX10_faultOf, Cond.code yX10_faultOf cX10_faultOf 3 (some .int), Cond.methodLink RX10 82 yX10_step, Cond.static yX10_step, Cond.code yX10_step cX10_step 3 (some .int), Cond.methodLink RL 36 yX9_judge, Cond.instanceMethod yX9_judge, Cond.selects RX9 yX9_judge yX9_judge, Cond.code yX9_judge cX9_judge 2 (some .int), Cond.methodLink RX9 123 yX4_burn, Cond.instanceMethod yX4_burn, Cond.selects RX4 yX4_burn yX4_burn, Cond.code yX4_burn cX4_burn 6 (some .boolean), Cond.methodLink RX4 48 yX4_begin, Cond.instanceMethod yX4_begin, Cond.selects RX4 yX4_begin yX4_begin, Cond.code yX4_begin cX4_begin 2 none, Cond.methodLink RX4 44 yX1_copyFrom, Cond.instanceMethod yX1_copyFrom, Cond.selects RX1 yX1_copyFrom yX1_copyFrom, Cond.code yX1_copyFrom cX1_copyFrom 2 none, Cond.methodLink RX1 52 arraycopyName]
def wsL_law_r13 : List Cond := [Cond.native arraycopyName, Cond.static arraycopyName, Cond.initialized "java/lang/System", Cond.methodLink RX4 51 yX5_firstFault, Cond.methodLink RX4 57 yX5_size, Cond.methodLink RX4 60 yX5_endOfAct, Cond.methodLink RX4 64 yX5_read, Cond.instanceMethod yX5_read, Cond.selects RX5 yX5_read yX5_read, Cond.code yX5_read cX5_read 7 none, Cond.methodLink RX5 46 yX0_become, Cond.instanceMethod yX0_become, Cond.selects RX0 yX0_become yX0_become, Cond.code yX0_become cX0_become 4 none, Cond.methodLink RX5 50 yX5_placeOfSign, Cond.static yX5_placeOfSign, Cond.code yX5_placeOfSign cX5_placeOfSign 1 (some .int), Cond.methodLink RX4 68 yX4_attempt, Cond.instanceMethod yX4_attempt, Cond.selects RX4 yX4_attempt yX4_attempt, Cond.code yX4_attempt cX4_attempt 2 (some .boolean), Cond.methodLink RX4 72 yX1_reasonAgainst, Cond.instanceMethod yX1_reasonAgainst, Cond.selects RX1 yX1_reasonAgainst yX1_reasonAgainst]
def wsL_law_r14 : List Cond := [Cond.code yX1_reasonAgainst cX1_reasonAgainst 2 (some .int), Cond.methodLink RX1 76 yX0_kindOf, Cond.instanceMethod yX0_kindOf, Cond.selects RX0 yX0_kindOf yX0_kindOf, Cond.code yX0_kindOf cX0_kindOf 1 (some .int), Cond.methodLink RX1 82 yX0_doer, Cond.instanceMethod yX0_doer, Cond.selects RX0 yX0_doer yX0_doer, Cond.code yX0_doer cX0_doer 1 (some .int), Cond.methodLink RX1 85 yX0_target, Cond.instanceMethod yX0_target, Cond.selects RX0 yX0_target yX0_target, Cond.code yX0_target cX0_target 1 (some .int), Cond.methodLink RX1 88 yX1_reasonAgainstStep, Cond.instanceMethod yX1_reasonAgainstStep, Cond.selects RX1 yX1_reasonAgainstStep yX1_reasonAgainstStep, Cond.code yX1_reasonAgainstStep cX1_reasonAgainstStep 4 (some .int), Cond.methodLink RX1 101 Lib.Math.abs.name, Cond.static Lib.Math.abs.name, Cond.initialized "java/lang/Math", Cond.code Lib.Math.abs.name Lib.Math.abs.code 1 (some .int), Cond.methodLink RX1 95 yX1_hasStepped, Cond.instanceMethod yX1_hasStepped, Cond.selects RX1 yX1_hasStepped yX1_hasStepped]
def wsL_law_r15 : List Cond := [Cond.code yX1_hasStepped cX1_hasStepped 2 (some .boolean), Cond.methodLink RX1 98 yX1_placeOf, Cond.methodLink RX1 106 yX1_strideOf, Cond.instanceMethod yX1_strideOf, Cond.selects RX1 yX1_strideOf yX1_strideOf, Cond.code yX1_strideOf cX1_strideOf 2 (some .int), Cond.methodLink RX1 73 yX1_isMissing, Cond.instanceMethod yX1_isMissing, Cond.selects RX1 yX1_isMissing yX1_isMissing, Cond.code yX1_isMissing cX1_isMissing 2 (some .boolean), Cond.methodLink RX1 69 yX1_mayBeOn, Cond.instanceMethod yX1_mayBeOn, Cond.selects RX1 yX1_mayBeOn yX1_mayBeOn, Cond.code yX1_mayBeOn cX1_mayBeOn 3 (some .boolean), Cond.methodLink RX1 109 yX1_firstManOn, Cond.instanceMethod yX1_firstManOn, Cond.selects RX1 yX1_firstManOn yX1_firstManOn, Cond.code yX1_firstManOn cX1_firstManOn 3 (some .int), Cond.methodLink RX1 92 yX1_reasonAgainstLease, Cond.instanceMethod yX1_reasonAgainstLease, Cond.selects RX1 yX1_reasonAgainstLease yX1_reasonAgainstLease, Cond.code yX1_reasonAgainstLease cX1_reasonAgainstLease 3 (some .int), Cond.methodLink RX1 112 yX1_ownerOf, Cond.methodLink RX1 115 yX1_leaserOf]
def wsL_law_r16 : List Cond := [Cond.instanceMethod yX1_leaserOf, Cond.selects RX1 yX1_leaserOf yX1_leaserOf, Cond.code yX1_leaserOf cX1_leaserOf 2 (some .int), Cond.methodLink RX1 118 yX1_coinsOf, Cond.methodLink RX4 76 yX1_perform, Cond.instanceMethod yX1_perform, Cond.selects RX1 yX1_perform yX1_perform, Cond.code yX1_perform cX1_perform 2 none, Cond.methodLink RX1 121 yX1_moveTo, Cond.instanceMethod yX1_moveTo, Cond.selects RX1 yX1_moveTo yX1_moveTo, Cond.code yX1_moveTo cX1_moveTo 3 none, Cond.methodLink RX1 125 yX1_leaseTo, Cond.instanceMethod yX1_leaseTo, Cond.selects RX1 yX1_leaseTo yX1_leaseTo, Cond.code yX1_leaseTo cX1_leaseTo 4 none, Cond.methodLink RX1 128 yX1_setRung, Cond.methodLink RX4 80 yX4_count, Cond.instanceMethod yX4_count, Cond.selects RX4 yX4_count yX4_count, Cond.code yX4_count cX4_count 2 none, Cond.methodLink RX4 83 yX0_kindOf, Cond.methodLink RX4 86 yX0_target, Cond.methodLink RX4 89 yX0_doer]
def wsL_law_r17 : List Cond := [Cond.methodLink RX9 127 yX4_actsDone, Cond.instanceMethod yX4_actsDone, Cond.selects RX4 yX4_actsDone yX4_actsDone, Cond.code yX4_actsDone cX4_actsDone 1 (some .int), Cond.methodLink RX9 130 yX4_reason, Cond.instanceMethod yX4_reason, Cond.selects RX4 yX4_reason yX4_reason, Cond.code yX4_reason cX4_reason 1 (some .int), Cond.methodLink RL 39 yX10_judge, Cond.instanceMethod yX10_judge, Cond.selects RX10 yX10_judge yX10_judge, Cond.code yX10_judge cX10_judge 3 (some .int), Cond.fieldLink RX10 122 "RungRightsModel" "reason" "I", Cond.methodLink RX10 125 yX10_goFires, Cond.instanceMethod yX10_goFires, Cond.selects RX10 yX10_goFires yX10_goFires, Cond.code yX10_goFires cX10_goFires 5 (some .int), Cond.fieldLink RX10 113 "RungRightsModel" "acts" "I", Cond.fieldLink RX10 59 "RungRightsModel" "roofAt" "I", Cond.fieldLink RX10 62 "RungRightsModel" "roofWho" "I", Cond.methodLink RX10 110 yX10_asNow, Cond.instanceMethod yX10_asNow, Cond.selects RX10 yX10_asNow yX10_asNow, Cond.code yX10_asNow cX10_asNow 2 none]
def wsL_law_r18 : List Cond := [Cond.fieldLink RX10 52 "RungRightsModel" "steps" "I", Cond.fieldLink RX10 56 "RungRightsModel" "paid" "I", Cond.methodLink RX10 116 yX10_roof, Cond.instanceMethod yX10_roof, Cond.selects RX10 yX10_roof yX10_roof, Cond.code yX10_roof cX10_roof 3 (some .int), Cond.methodLink RX10 119 yX10_oneAct, Cond.instanceMethod yX10_oneAct, Cond.selects RX10 yX10_oneAct yX10_oneAct, Cond.code yX10_oneAct cX10_oneAct 5 (some .int), Cond.methodLink RX10 97 yX10_endBeat, Cond.instanceMethod yX10_endBeat, Cond.selects RX10 yX10_endBeat yX10_endBeat, Cond.code yX10_endBeat cX10_endBeat 1 (some .int), Cond.methodLink RX10 100 yX10_lose, Cond.instanceMethod yX10_lose, Cond.selects RX10 yX10_lose yX10_lose, Cond.code yX10_lose cX10_lose 3 (some .int), Cond.methodLink RX10 69 yX10_isMissing, Cond.instanceMethod yX10_isMissing, Cond.selects RX10 yX10_isMissing yX10_isMissing, Cond.code yX10_isMissing cX10_isMissing 2 (some .boolean), Cond.methodLink RX10 65 yX10_has, Cond.static yX10_has]
def wsL_law_r19 : List Cond := [Cond.code yX10_has cX10_has 2 (some .boolean), Cond.methodLink RX10 104 yX10_leaseTo, Cond.instanceMethod yX10_leaseTo, Cond.selects RX10 yX10_leaseTo yX10_leaseTo, Cond.code yX10_leaseTo cX10_leaseTo 3 (some .int), Cond.methodLink RX10 107 yX10_goTo, Cond.instanceMethod yX10_goTo, Cond.selects RX10 yX10_goTo yX10_goTo, Cond.code yX10_goTo cX10_goTo 4 (some .int), Cond.methodLink RX10 90 yX10_may, Cond.instanceMethod yX10_may, Cond.selects RX10 yX10_may yX10_may, Cond.code yX10_may cX10_may 3 (some .boolean), Cond.methodLink RX10 93 yX10_standing, Cond.instanceMethod yX10_standing, Cond.selects RX10 yX10_standing yX10_standing, Cond.code yX10_standing cX10_standing 3 (some .int), Cond.methodLink RL 40 yX9_done, Cond.instanceMethod yX9_done, Cond.selects RX9 yX9_done yX9_done, Cond.code yX9_done cX9_done 1 (some .int), Cond.methodLink RX9 133 yX4_behindIt, Cond.instanceMethod yX4_behindIt, Cond.selects RX4 yX4_behindIt yX4_behindIt]
def wsL_law_r20 : List Cond := [Cond.code yX4_behindIt cX4_behindIt 1 (some (.object "RungRights$Brigade")), Cond.methodLink RX9 137 yX1_copyFrom, Cond.methodLink RL 43 yX10_done, Cond.instanceMethod yX10_done, Cond.selects RX10 yX10_done yX10_done, Cond.code yX10_done cX10_done 2 (some .int), Cond.methodLink RX10 128 yX10_barOfFires, Cond.instanceMethod yX10_barOfFires, Cond.selects RX10 yX10_barOfFires yX10_barOfFires, Cond.code yX10_barOfFires cX10_barOfFires 1 (some .int), Cond.methodLink RL 44 yX9_behind, Cond.instanceMethod yX9_behind, Cond.selects RX9 yX9_behind yX9_behind, Cond.code yX9_behind cX9_behind 4 (some .int), Cond.methodLink RX9 141 yX1_rungsOpenTo, Cond.instanceMethod yX1_rungsOpenTo, Cond.selects RX1 yX1_rungsOpenTo yX1_rungsOpenTo, Cond.code yX1_rungsOpenTo cX1_rungsOpenTo 4 (some .int), Cond.methodLink RX9 144 yX1_hasStepped, Cond.methodLink RL 48 yX10_behind, Cond.instanceMethod yX10_behind, Cond.selects RX10 yX10_behind yX10_behind, Cond.code yX10_behind cX10_behind 3 (some .int), Cond.methodLink RX10 131 yX10_mayOnes]
def wsL_law_r21 : List Cond := [Cond.instanceMethod yX10_mayOnes, Cond.selects RX10 yX10_mayOnes yX10_mayOnes, Cond.code yX10_mayOnes cX10_mayOnes 4 (some .int), Cond.methodLink RL 49 yX9_bears, Cond.instanceMethod yX9_bears, Cond.selects RX9 yX9_bears yX9_bears, Cond.code yX9_bears cX9_bears 4 (some .int), Cond.methodLink RX9 147 yX1_leaserOf, Cond.methodLink RX9 150 yX1_firstManOn, Cond.methodLink RX9 153 yX1_isMissing, Cond.methodLink RL 52 yX10_bears, Cond.instanceMethod yX10_bears, Cond.selects RX10 yX10_bears yX10_bears, Cond.code yX10_bears cX10_bears 3 (some .int), Cond.methodLink RL 53 yX9_then, Cond.instanceMethod yX9_then, Cond.selects RX9 yX9_then yX9_then, Cond.code yX9_then cX9_then 2 (some .int), Cond.methodLink RX9 156 yX1_beatNow, Cond.instanceMethod yX1_beatNow, Cond.selects RX1 yX1_beatNow yX1_beatNow, Cond.code yX1_beatNow cX1_beatNow 1 (some .int), Cond.methodLink RX9 159 yX1_menOnRoof, Cond.instanceMethod yX1_menOnRoof]
def wsL_law_r22 : List Cond := [Cond.selects RX1 yX1_menOnRoof yX1_menOnRoof, Cond.code yX1_menOnRoof cX1_menOnRoof 3 (some .int), Cond.methodLink RX9 162 yX4_stepsMade, Cond.instanceMethod yX4_stepsMade, Cond.selects RX4 yX4_stepsMade yX4_stepsMade, Cond.code yX4_stepsMade cX4_stepsMade 1 (some .int), Cond.methodLink RX9 165 yX4_coinsPaid, Cond.instanceMethod yX4_coinsPaid, Cond.selects RX4 yX4_coinsPaid yX4_coinsPaid, Cond.code yX4_coinsPaid cX4_coinsPaid 1 (some .int), Cond.methodLink RX9 168 yX4_firstActUp, Cond.instanceMethod yX4_firstActUp, Cond.selects RX4 yX4_firstActUp yX4_firstActUp, Cond.code yX4_firstActUp cX4_firstActUp 1 (some .int), Cond.methodLink RX9 171 yX4_firstManUp, Cond.instanceMethod yX4_firstManUp, Cond.selects RX4 yX4_firstManUp yX4_firstManUp, Cond.code yX4_firstManUp cX4_firstManUp 1 (some .int), Cond.methodLink RL 56 yX10_then, Cond.instanceMethod yX10_then, Cond.selects RX10 yX10_then yX10_then, Cond.code yX10_then cX10_then 2 (some .int), Cond.methodLink RL 57 yX9_climb, Cond.instanceMethod yX9_climb]
def wsL_law_r23 : List Cond := [Cond.selects RX9 yX9_climb yX9_climb, Cond.code yX9_climb cX9_climb 3 (some .int), Cond.methodLink RX9 174 yX7_fewestSteps, Cond.instanceMethod yX7_fewestSteps, Cond.selects RX7 yX7_fewestSteps yX7_fewestSteps, Cond.code yX7_fewestSteps cX7_fewestSteps 4 (some .int), Cond.constant RX7 28 (1000000), Cond.methodLink RX7 15 yX7_settleSteps, Cond.instanceMethod yX7_settleSteps, Cond.selects RX7 yX7_settleSteps yX7_settleSteps, Cond.code yX7_settleSteps cX7_settleSteps 9 none, Cond.methodLink RX7 35 Lib.Math.min.name, Cond.static Lib.Math.min.name, Cond.code Lib.Math.min.name Lib.Math.min.code 2 (some .int), Cond.methodLink RX7 29 yX1_rungsOpenTo, Cond.methodLink RX7 32 yX1_strideOf, Cond.methodLink RX7 41 yX7_isOpen, Cond.static yX7_isOpen, Cond.code yX7_isOpen cX7_isOpen 2 (some .boolean), Cond.methodLink RX7 25 yX7_settledAt, Cond.instanceMethod yX7_settledAt, Cond.selects RX7 yX7_settledAt yX7_settledAt, Cond.code yX7_settledAt cX7_settledAt 2 (some .int), Cond.methodLink RX7 19 yX1_placeOf]
def wsL_law_r24 : List Cond := [Cond.methodLink RX9 178 yX7_firstStep, Cond.instanceMethod yX7_firstStep, Cond.selects RX7 yX7_firstStep yX7_firstStep, Cond.code yX7_firstStep cX7_firstStep 8 (some .int), Cond.methodLink RL 60 yX10_climb, Cond.instanceMethod yX10_climb, Cond.selects RX10 yX10_climb yX10_climb, Cond.code yX10_climb cX10_climb 5 (some .int), Cond.constant RX10 134 (1000000), Cond.methodLink RX10 135 yX10_layClimb, Cond.instanceMethod yX10_layClimb, Cond.selects RX10 yX10_layClimb yX10_layClimb, Cond.code yX10_layClimb cX10_layClimb 5 none, Cond.methodLink RL 61 yX9_ways, Cond.instanceMethod yX9_ways, Cond.selects RX9 yX9_ways yX9_ways, Cond.code yX9_ways cX9_ways 2 (some .int), Cond.methodLink RX9 181 yX7_countUp, Cond.instanceMethod yX7_countUp, Cond.selects RX7 yX7_countUp yX7_countUp, Cond.code yX7_countUp cX7_countUp 9 (some .int), Cond.methodLink RL 64 yX10_ways, Cond.instanceMethod yX10_ways, Cond.selects RX10 yX10_ways yX10_ways]
def wsL_law_r25 : List Cond := [Cond.code yX10_ways cX10_ways 2 (some .int), Cond.methodLink RL 65 yX9_leases, Cond.instanceMethod yX9_leases, Cond.selects RX9 yX9_leases yX9_leases, Cond.code yX9_leases cX9_leases 3 (some .int), Cond.methodLink RX9 184 yX7_fewestLeases, Cond.instanceMethod yX7_fewestLeases, Cond.selects RX7 yX7_fewestLeases yX7_fewestLeases, Cond.code yX7_fewestLeases cX7_fewestLeases 4 (some .int), Cond.methodLink RX7 45 yX7_leaseCost, Cond.instanceMethod yX7_leaseCost, Cond.selects RX7 yX7_leaseCost yX7_leaseCost, Cond.code yX7_leaseCost cX7_leaseCost 10 (some .int), Cond.methodLink RX7 49 yX1_rungsToLease, Cond.instanceMethod yX1_rungsToLease, Cond.selects RX1 yX1_rungsToLease yX1_rungsToLease, Cond.code yX1_rungsToLease cX1_rungsToLease 3 (some .int), Cond.methodLink RX9 187 yX7_leastLeased, Cond.instanceMethod yX7_leastLeased, Cond.selects RX7 yX7_leastLeased yX7_leastLeased, Cond.code yX7_leastLeased cX7_leastLeased 4 (some .int), Cond.methodLink RL 68 yX10_leases, Cond.instanceMethod yX10_leases, Cond.selects RX10 yX10_leases yX10_leases]
def wsL_law_r26 : List Cond := [Cond.code yX10_leases cX10_leases 6 (some .int), Cond.methodLink RX10 139 yX10_bits, Cond.static yX10_bits, Cond.code yX10_bits cX10_bits 3 (some .int), Cond.methodLink RL 69 yX9_stand, Cond.instanceMethod yX9_stand, Cond.selects RX9 yX9_stand yX9_stand, Cond.code yX9_stand cX9_stand 2 (some .int), Cond.methodLink RX9 190 yX6_assign, Cond.instanceMethod yX6_assign, Cond.selects RX6 yX6_assign yX6_assign, Cond.code yX6_assign cX6_assign 4 none, Cond.methodLink RX6 22 yX1_rungsOpenTo, Cond.methodLink RX6 28 yX6_mostFrom, Cond.instanceMethod yX6_mostFrom, Cond.selects RX6 yX6_mostFrom yX6_mostFrom, Cond.code yX6_mostFrom cX6_mostFrom 8 (some .int), Cond.methodLink RX6 43 Lib.Math.min.name, Cond.methodLink RX6 38 yJ6_bitCount_0f7a4, Cond.static yJ6_bitCount_0f7a4, Cond.initialized RJ6, Cond.code yJ6_bitCount_0f7a4 cJ6_bitCount_0f7a4 1 (some .int), Cond.constant RJ6 265 (1431655765), Cond.constant RJ6 266 (858993459)]
def wsL_law_r27 : List Cond := [Cond.constant RJ6 267 (252645135), Cond.methodLink RX6 32 yX6_lowestPost, Cond.instanceMethod yX6_lowestPost, Cond.selects RX6 yX6_lowestPost yX6_lowestPost, Cond.code yX6_lowestPost cX6_lowestPost 5 (some .int), Cond.methodLink RX9 193 yX6_menPosted, Cond.instanceMethod yX6_menPosted, Cond.selects RX6 yX6_menPosted yX6_menPosted, Cond.code yX6_menPosted cX6_menPosted 1 (some .int), Cond.methodLink RX9 196 yX6_rungOf, Cond.instanceMethod yX6_rungOf, Cond.selects RX6 yX6_rungOf yX6_rungOf, Cond.code yX6_rungOf cX6_rungOf 2 (some .int), Cond.methodLink RL 72 yX10_stand, Cond.instanceMethod yX10_stand, Cond.selects RX10 yX10_stand yX10_stand, Cond.code yX10_stand cX10_stand 7 (some .int), Cond.methodLink RX10 142 yX10_most, Cond.instanceMethod yX10_most, Cond.selects RX10 yX10_most yX10_most, Cond.code yX10_most cX10_most 6 (some .int), Cond.methodLink RL 73 yX9_felt, Cond.instanceMethod yX9_felt, Cond.selects RX9 yX9_felt yX9_felt]
def wsL_law_r28 : List Cond := [Cond.code yX9_felt cX9_felt 3 (some .int), Cond.methodLink RX9 199 yX1_addSight, Cond.instanceMethod yX1_addSight, Cond.selects RX1 yX1_addSight yX1_addSight, Cond.code yX1_addSight cX1_addSight 3 (some .boolean), Cond.methodLink RX9 203 yX1_sightCount, Cond.instanceMethod yX1_sightCount, Cond.selects RX1 yX1_sightCount yX1_sightCount, Cond.code yX1_sightCount cX1_sightCount 1 (some .int), Cond.methodLink RL 77 yX10_felt, Cond.instanceMethod yX10_felt, Cond.selects RX10 yX10_felt yX10_felt, Cond.code yX10_felt cX10_felt 3 (some .int), Cond.fieldLink RX10 145 "RungRightsModel" "sights" "I", Cond.methodLink RL 78 yX9_forget, Cond.instanceMethod yX9_forget, Cond.selects RX9 yX9_forget yX9_forget, Cond.code yX9_forget cX9_forget 2 (some .int), Cond.methodLink RX9 206 yX1_clearSights, Cond.instanceMethod yX1_clearSights, Cond.selects RX1 yX1_clearSights yX1_clearSights, Cond.code yX1_clearSights cX1_clearSights 1 none, Cond.methodLink RL 81 yX10_forget, Cond.instanceMethod yX10_forget]
def wsL_law_r29 : List Cond := [Cond.selects RX10 yX10_forget yX10_forget, Cond.code yX10_forget cX10_forget 2 (some .int), Cond.methodLink RL 82 yX9_ups, Cond.instanceMethod yX9_ups, Cond.selects RX9 yX9_ups yX9_ups, Cond.code yX9_ups cX9_ups 2 (some .int), Cond.methodLink RX9 209 yX8_find, Cond.instanceMethod yX8_find, Cond.selects RX8 yX8_find yX8_find, Cond.code yX8_find cX8_find 5 none, Cond.methodLink RX8 22 yX8_trailOf, Cond.static yX8_trailOf, Cond.code yX8_trailOf cX8_trailOf 7 (some .int), Cond.methodLink RX8 32 yX8_nextPlace, Cond.static yX8_nextPlace, Cond.code yX8_nextPlace cX8_nextPlace 7 (some .int), Cond.methodLink RX8 40 yX1_strideOf, Cond.methodLink RX8 43 yX1_mayBeOn, Cond.methodLink RX8 26 yX1_sightsFit, Cond.instanceMethod yX1_sightsFit, Cond.selects RX1 yX1_sightsFit yX1_sightsFit, Cond.code yX1_sightsFit cX1_sightsFit 2 (some .boolean), Cond.methodLink RX9 212 yX8_size, Cond.instanceMethod yX8_size]
def wsL_law_r30 : List Cond := [Cond.selects RX8 yX8_size yX8_size, Cond.code yX8_size cX8_size 1 (some .int), Cond.methodLink RX9 213 yX8_codeAt, Cond.instanceMethod yX8_codeAt, Cond.selects RX8 yX8_codeAt yX8_codeAt, Cond.code yX8_codeAt cX8_codeAt 2 (some .int), Cond.methodLink RL 85 yX10_ups, Cond.instanceMethod yX10_ups, Cond.selects RX10 yX10_ups yX10_ups, Cond.code yX10_ups cX10_ups 4 (some .int), Cond.methodLink RX10 151 yX10_isFit, Cond.instanceMethod yX10_isFit, Cond.selects RX10 yX10_isFit yX10_isFit, Cond.code yX10_isFit cX10_isFit 4 (some .boolean), Cond.methodLink RX10 148 yX10_wetOnes, Cond.instanceMethod yX10_wetOnes, Cond.selects RX10 yX10_wetOnes yX10_wetOnes, Cond.code yX10_wetOnes cX10_wetOnes 9 (some .int), Cond.methodLink RL 86 yX9_ask, Cond.instanceMethod yX9_ask, Cond.selects RX9 yX9_ask yX9_ask, Cond.code yX9_ask cX9_ask 3 (some .int), Cond.methodLink RX9 216 yX8_rungToFeel, Cond.instanceMethod yX8_rungToFeel]
def wsL_law_r31 : List Cond := [Cond.selects RX8 yX8_rungToFeel yX8_rungToFeel, Cond.code yX8_rungToFeel cX8_rungToFeel 3 (some .int), Cond.methodLink RX8 47 yX8_mostLeftBy, Cond.instanceMethod yX8_mostLeftBy, Cond.selects RX8 yX8_mostLeftBy yX8_mostLeftBy, Cond.code yX8_mostLeftBy cX8_mostLeftBy 4 (some .int), Cond.methodLink RX8 50 Lib.Math.max.name, Cond.static Lib.Math.max.name, Cond.code Lib.Math.max.name Lib.Math.max.code 2 (some .int), Cond.methodLink RX9 219 yX8_mostLeftBy, Cond.methodLink RL 89 yX10_ask, Cond.instanceMethod yX10_ask, Cond.selects RX10 yX10_ask yX10_ask, Cond.code yX10_ask cX10_ask 9 (some .int), Cond.methodLink RL 90 yX9_down, Cond.instanceMethod yX9_down, Cond.selects RX9 yX9_down yX9_down, Cond.code yX9_down cX9_down 3 (some .int), Cond.methodLink RX9 222 yX2_canWin, Cond.static yX2_canWin, Cond.initialized RX2, Cond.code yX2_canWin cX2_canWin 1 (some .boolean), Cond.methodLink RX2 9 yX2_heapsOf, Cond.static yX2_heapsOf]
def wsL_law_r32 : List Cond := [Cond.code yX2_heapsOf cX2_heapsOf 4 (some .int), Cond.methodLink RX9 227 yX2_leastWinningMove, Cond.static yX2_leastWinningMove, Cond.code yX2_leastWinningMove cX2_leastWinningMove 4 (some .int), Cond.methodLink RX2 15 yX2_canWin, Cond.methodLink RL 93 yX10_down, Cond.instanceMethod yX10_down, Cond.selects RX10 yX10_down yX10_down, Cond.code yX10_down cX10_down 4 (some .int), Cond.methodLink RX10 154 yX10_firstDown, Cond.instanceMethod yX10_firstDown, Cond.selects RX10 yX10_firstDown yX10_firstDown, Cond.code yX10_firstDown cX10_firstDown 5 (some .int), Cond.methodLink RL 94 yX9_foot, Cond.instanceMethod yX9_foot, Cond.selects RX9 yX9_foot yX9_foot, Cond.code yX9_foot cX9_foot 5 (some .long), Cond.constantLong RX9 230 (-1000000000000000001), Cond.constantLong RX9 232 (-1000000000000000002), Cond.methodLink RX9 234 yX3_chanceOn, Cond.instanceMethod yX3_chanceOn, Cond.selects RX3 yX3_chanceOn yX3_chanceOn, Cond.code yX3_chanceOn cX3_chanceOn 3 none, Cond.methodLink RX3 22 yX3_reckonChances]
def wsL_law_r33 : List Cond := [Cond.instanceMethod yX3_reckonChances, Cond.selects RX3 yX3_reckonChances yX3_reckonChances, Cond.code yX3_reckonChances cX3_reckonChances 6 none, Cond.methodLink RX3 30 yX3_power, Cond.static yX3_power, Cond.code yX3_power cX3_power 5 (some .long), Cond.methodLink RX9 238 yX3_meanStepsTo, Cond.instanceMethod yX3_meanStepsTo, Cond.selects RX3 yX3_meanStepsTo yX3_meanStepsTo, Cond.code yX3_meanStepsTo cX3_meanStepsTo 4 none, Cond.methodLink RX9 241 yX3_upperNumber, Cond.instanceMethod yX3_upperNumber, Cond.selects RX3 yX3_upperNumber yX3_upperNumber, Cond.code yX3_upperNumber cX3_upperNumber 1 (some .long), Cond.methodLink RX9 245 yX3_lowerNumber, Cond.instanceMethod yX3_lowerNumber, Cond.selects RX3 yX3_lowerNumber yX3_lowerNumber, Cond.code yX3_lowerNumber cX3_lowerNumber 1 (some .long), Cond.methodLink RL 98 yX10_foot, Cond.instanceMethod yX10_foot, Cond.selects RX10 yX10_foot yX10_foot, Cond.code yX10_foot cX10_foot 15 (some .long), Cond.constantLong RX10 157 (-1000000000000000001), Cond.constantLong RX10 159 (-1000000000000000002)]
def wsL_law_r34 : List Cond := [Cond.methodLink RL 99 yX9_year, Cond.instanceMethod yX9_year, Cond.selects RX9 yX9_year yX9_year, Cond.code yX9_year cX9_year 4 (some .int), Cond.methodLink RX9 248 yX9_passYear, Cond.instanceMethod yX9_passYear, Cond.selects RX9 yX9_passYear yX9_passYear, Cond.code yX9_passYear cX9_passYear 5 none, Cond.constant RX9 273 (65537), Cond.methodLink RX9 270 yX4_begin, Cond.methodLink RX9 274 yX0_draw, Cond.instanceMethod yX0_draw, Cond.selects RX0 yX0_draw yX0_draw, Cond.code yX0_draw cX0_draw 6 none, Cond.methodLink RX0 21 yX0_drawnPlace, Cond.static yX0_drawnPlace, Cond.code yX0_drawnPlace cX0_drawnPlace 5 (some .int), Cond.methodLink RX0 38 Lib.Math.min.name, Cond.methodLink RX0 44 Lib.Math.max.name, Cond.methodLink RX0 29 yX1_strideOf, Cond.methodLink RX0 35 yX1_placeOf, Cond.methodLink RX0 25 yX0_become, Cond.methodLink RX9 278 yX4_attempt, Cond.methodLink RL 103 yX10_year]
def wsL_law_r35 : List Cond := [Cond.instanceMethod yX10_year, Cond.selects RX10 yX10_year yX10_year, Cond.code yX10_year cX10_year 11 (some .int), Cond.constant RX10 161 (65537), Cond.methodLink RL 104 yX9_image, Cond.instanceMethod yX9_image, Cond.selects RX9 yX9_image yX9_image, Cond.code yX9_image cX9_image 2 (some .int), Cond.methodLink RX9 251 yX9_isImage, Cond.static yX9_isImage, Cond.code yX9_isImage cX9_isImage 1 (some .boolean), Cond.methodLink RL 107 yX10_image, Cond.instanceMethod yX10_image, Cond.selects RX10 yX10_image yX10_image, Cond.code yX10_image cX10_image 4 (some .int), Cond.methodLink RL 108 yX9_restore, Cond.instanceMethod yX9_restore, Cond.selects RX9 yX9_restore yX9_restore, Cond.code yX9_restore cX9_restore 2 (some .int), Cond.methodLink RL 111 yX10_restore, Cond.instanceMethod yX10_restore, Cond.selects RX10 yX10_restore yX10_restore, Cond.code yX10_restore cX10_restore 4 (some .int), Cond.methodLink RL 112 yX9_told]
def wsL_law_r36 : List Cond := [Cond.instanceMethod yX9_told, Cond.selects RX9 yX9_told yX9_told, Cond.code yX9_told cX9_told 2 (some .int), Cond.methodLink RX9 254 yX1_menStepped, Cond.instanceMethod yX1_menStepped, Cond.selects RX1 yX1_menStepped yX1_menStepped, Cond.code yX1_menStepped cX1_menStepped 1 (some .int), Cond.methodLink RX9 257 yX1_rungsMissing, Cond.instanceMethod yX1_rungsMissing, Cond.selects RX1 yX1_rungsMissing yX1_rungsMissing, Cond.code yX1_rungsMissing cX1_rungsMissing 1 (some .int), Cond.methodLink RX9 260 yX9_toldOfMan, Cond.instanceMethod yX9_toldOfMan, Cond.selects RX9 yX9_toldOfMan yX9_toldOfMan, Cond.code yX9_toldOfMan cX9_toldOfMan 3 (some .int), Cond.methodLink RX9 267 yX1_strideOf, Cond.methodLink RX9 264 yX9_toldOfRung, Cond.instanceMethod yX9_toldOfRung, Cond.selects RX9 yX9_toldOfRung yX9_toldOfRung, Cond.code yX9_toldOfRung cX9_toldOfRung 2 (some .int), Cond.methodLink RL 115 yX10_told, Cond.instanceMethod yX10_told, Cond.selects RX10 yX10_told yX10_told, Cond.code yX10_told cX10_told 3 (some .int)]
def wsL_law : List Cond := (wsL_law_r1 ++ (wsL_law_r2 ++ (wsL_law_r3 ++ (wsL_law_r4 ++ (wsL_law_r5 ++ (wsL_law_r6 ++ (wsL_law_r7 ++ (wsL_law_r8 ++ (wsL_law_r9 ++ (wsL_law_r10 ++ (wsL_law_r11 ++ (wsL_law_r12 ++ (wsL_law_r13 ++ (wsL_law_r14 ++ (wsL_law_r15 ++ (wsL_law_r16 ++ (wsL_law_r17 ++ (wsL_law_r18 ++ (wsL_law_r19 ++ (wsL_law_r20 ++ (wsL_law_r21 ++ (wsL_law_r22 ++ (wsL_law_r23 ++ (wsL_law_r24 ++ (wsL_law_r25 ++ (wsL_law_r26 ++ (wsL_law_r27 ++ (wsL_law_r28 ++ (wsL_law_r29 ++ (wsL_law_r30 ++ (wsL_law_r31 ++ (wsL_law_r32 ++ (wsL_law_r33 ++ (wsL_law_r34 ++ (wsL_law_r35 ++ wsL_law_r36))))))))))))))))))))))))))))))))))) ++ wsX90 ++ wsX100 ++ wsX10 ++ wsX50 ++ wsX00 ++ wsX40 ++ wsX70 ++ wsX60 ++ wsX80 ++ wsX30 ++ ([] : List Cond)
theorem inlX0 : ∀ w ∈ wsX00, w ∈ wsL_law := fun _ h => List.mem_append_left _ (List.mem_append_left _ (List.mem_append_left _ (List.mem_append_left _ (List.mem_append_left _ (List.mem_append_left _ (List.mem_append_right _ h))))))
theorem inlX1 : ∀ w ∈ wsX10, w ∈ wsL_law := fun _ h => List.mem_append_left _ (List.mem_append_left _ (List.mem_append_left _ (List.mem_append_left _ (List.mem_append_left _ (List.mem_append_left _ (List.mem_append_left _ (List.mem_append_left _ (List.mem_append_right _ h))))))))
theorem inlX3 : ∀ w ∈ wsX30, w ∈ wsL_law := fun _ h => List.mem_append_left _ (List.mem_append_right _ h)
theorem inlX4 : ∀ w ∈ wsX40, w ∈ wsL_law := fun _ h => List.mem_append_left _ (List.mem_append_left _ (List.mem_append_left _ (List.mem_append_left _ (List.mem_append_left _ (List.mem_append_right _ h)))))
theorem inlX5 : ∀ w ∈ wsX50, w ∈ wsL_law := fun _ h => List.mem_append_left _ (List.mem_append_left _ (List.mem_append_left _ (List.mem_append_left _ (List.mem_append_left _ (List.mem_append_left _ (List.mem_append_left _ (List.mem_append_right _ h)))))))
theorem inlX6 : ∀ w ∈ wsX60, w ∈ wsL_law := fun _ h => List.mem_append_left _ (List.mem_append_left _ (List.mem_append_left _ (List.mem_append_right _ h)))
theorem inlX7 : ∀ w ∈ wsX70, w ∈ wsL_law := fun _ h => List.mem_append_left _ (List.mem_append_left _ (List.mem_append_left _ (List.mem_append_left _ (List.mem_append_right _ h))))
theorem inlX8 : ∀ w ∈ wsX80, w ∈ wsL_law := fun _ h => List.mem_append_left _ (List.mem_append_left _ (List.mem_append_right _ h))
theorem inlX9 : ∀ w ∈ wsX90, w ∈ wsL_law := fun _ h => List.mem_append_left _ (List.mem_append_left _ (List.mem_append_left _ (List.mem_append_left _ (List.mem_append_left _ (List.mem_append_left _ (List.mem_append_left _ (List.mem_append_left _ (List.mem_append_left _ (List.mem_append_left _ (List.mem_append_right _ h))))))))))
theorem inlX10 : ∀ w ∈ wsX100, w ∈ wsL_law := fun _ h => List.mem_append_left _ (List.mem_append_left _ (List.mem_append_left _ (List.mem_append_left _ (List.mem_append_left _ (List.mem_append_left _ (List.mem_append_left _ (List.mem_append_left _ (List.mem_append_left _ (List.mem_append_right _ h)))))))))
abbrev vwCl : List vw_C := [(RX0, TX0, 3), (RX1, TX1, 11), (RX3, TX3, 3), (RX4, TX4, 8), (RX5, TX5, 2), (RX6, TX6, 3), (RX7, TX7, 1), (RX8, TX8, 3), (RX9, TX9, 9), (RX10, TX10, 20)]
end
section
/-! the walk in short rows: trees of what a method answers, a place in a method (Gq), contracts (KK) -/
def tgd {α : Type} (b : Bool) (t : Option α) : Option α := if b = true then t else none
def tnm {α β : Type} (x : α) (k : α → Option β) : Option β := k x
def tbd {α β : Type} (o : Option α) (k : α → Option β) : Option β := match o with
  | none => none
  | some a => k a
def tit {S E : Type} (F : (S → Option E) → S → Option E) : Nat → S → Option E
  | 0, _ => none
  | n + 1, s => F (tit F n) s
def tin (i : Int32) (n : Nat) : Bool := decide (¬ (i < 0 ∨ n ≤ i.toNatClampNeg))
def tbl (v : Int32) : Bool := decide (v = 0 ∨ v = 1)
def tch (v : Int32) : Bool := decide (narrow .char (.int v) = .int v)
def tnz (v : Int32) : Bool := decide (¬ v = 0)
def tnzl (v : Int64) : Bool := decide (¬ v = 0)
def imin (x y : Int32) : Int32 := if y < x then y else x
def imax (x y : Int32) : Int32 := if x < y then y else x
def iabs (x : Int32) : Int32 := if 0 ≤ x then x else 0 - x
def iushr (x y : Int32) : Int32 := (x.toUInt32 >>> (y.toUInt32 &&& Int32.toUInt32 31)).toInt32
def irem (x y : Int32) : Int32 := x - x / y * y
def lrem (x y : Int64) : Int64 := x - x / y * y
def i2c (x : Int32) : Int32 := (x.toUInt32 % 65536).toInt32
theorem tgd_e {α : Type} {b : Bool} {t : Option α} {r : α} (h : tgd b t = some r) : b = true ∧ t = some r := by
  unfold tgd at h
  by_cases hb : b = true
  · rw [if_pos hb] at h; exact ⟨hb, h⟩
  · rw [if_neg hb] at h; cases h
theorem tbd_e {α β : Type} {o : Option α} {k : α → Option β} {r : β} (h : tbd o k = some r) : ∃ v, o = some v ∧ k v = some r := by
  cases o with
  | none => cases h
  | some a => exact ⟨a, rfl, h⟩
theorem tin_e {i : Int32} {n : Nat} (h : tin i n = true) : vp_in i n := by
  have h1 : ¬ (i < 0 ∨ n ≤ i.toNatClampNeg) := of_decide_eq_true h
  exact h1
abbrev gG : Type := va_G × ClassId × ClassId × ClassId × ClassId × ClassId
abbrev gC (G : gG) : ClassId := G.2.1
abbrev gI (G : gG) : ClassId := G.2.2.1
abbrev gJ (G : gG) : ClassId := G.2.2.2.1
abbrev gZ (G : gG) : ClassId := G.2.2.2.2.1
abbrev gO (G : gG) : ClassId := G.2.2.2.2.2
def gty (G : gG) : List (ClassId × FieldType) := [(gC G, .char), (gI G, .int), (gJ G, .long), (gZ G, .boolean), (gO G, .object RX1)]
/-- the links to private members of nest mates: they don't ride with the words, they are carried beside the classes -/
def nwl : List (String × Nat × MethodName) := [(RX9, 18, yX5_init), (RX9, 25, yX0_init), (RX9, 32, yX4_init), (RX4, 20, yX0_init), (RX9, 39, yX7_init), (RX9, 46, yX6_init), (RX9, 53, yX8_init), (RX9, 60, yX3_init), (RX1, 58, yX9_isRung), (RX1, 62, yX9_bitOf), (RX1, 66, yX9_isMan), (RX7, 56, yX9_bitOf), (RX7, 53, yX9_isPlace), (RX6, 35, yX9_bitOf), (RX6, 48, yX9_isMan), (RX8, 36, yX9_bitOf), (RX2, 19, yX9_bitOf), (RX3, 26, yX9_isRung)]
def EV (G : gG) (U : State) : Prop := va_K G.1 vwCl (gty G) U ∧ ∀ q ∈ nwl, va_Nw (.methodLinkNest q.1 q.2.1 q.2.2 RX9) U
theorem EV.warm {G : gG} {s U : State} (hW : s.WarmedH U.vm) (h : EV G s) : EV G U := ⟨va_K.moved hW.alike h.1, fun q hq => va_Nw.warmM hW (h.2 q hq)⟩
theorem EV.call {G : gG} {U : State} {g : JFrame} {mk : MethodId} {a : Array Value} (h : EV G U) : EV G (U.calling g mk a) := ⟨va_K.moved (u := U) (U := U.calling g mk a) (Vm.Alike.refl U.vm) h.1, fun q hq => va_Nw.same rfl (show U.vm = (U.calling g mk a).vm from rfl) (h.2 q hq)⟩
set_option maxRecDepth 20000 in
theorem wL_good : wsL_law.all goodWord = true := by decide +kernel
def wq (y : MethodName) (cc : ByteArray) (nL : Nat) (ret : Option FieldType) : List Cond := Cond.code y cc nL ret :: wsL_law
theorem wq_in {y : MethodName} {cc : ByteArray} {nL : Nat} {ret : Option FieldType} (h : Cond.code y cc nL ret ∈ wsL_law) : GoodIn wsL_law (wq y cc nL ret) := by
  intro w hw
  have hm : w ∈ wsL_law := by
    rcases List.mem_cons.mp hw with rfl | h1
    · exact h
    · exact h1
  exact ⟨hm, good_of_word (List.all_eq_true.mp wL_good w hm)⟩
abbrev rq (fr lo : Nat) : Room := { frames := fr, cells := 0, slots := 0, locals := lo }
abbrev rqa (fr lo mc ms : Nat) : Room := { frames := fr, cells := mc, slots := ms, locals := lo }
def Cx (p : Program) (e : Env) (s : State) (m : MethodId) (args : Array Value) (meth : Method) (c : Code) (G : gG) (own : String) (cc : ByteArray) (nL : Nat) (ret : Option FieldType) (A : Nat → Prop) : Prop :=
  p.tables.exec = Jvm.exec ∧ c.code = cc ∧ c.maxLocals = nL ∧ s.vm.findClass own = some m.cls ∧ (∀ w ∈ wsL_law, w.before args s = true) ∧ EV G s ∧ (∀ q : Nat, s.heap.size ≤ q → A q) ∧ meth.sig.returnType = ret ∧ meth.locks = false
/-- a place in a method: at pc, with these locals, this stack and this world, the machine comes to Q -/
def Gq (p : Program) (l : Launch) (e : Env) (R : Room) (s : State) (m : MethodId) (args : Array Value) (below : List Frame) (meth : Method) (c : Code) (G : gG) (A : Nat → Prop) (nL cs sl : Nat) (Q : State → Prop) (pc : Nat) (lv : List (Nat × Value)) (st : List Value) (w : va_W) : Prop :=
  ∀ (H : Heap) (locs : List Loc) (ls : Array Slot), va_P G.1 vwCl w H → va_D A w → va_S A s.heap H locs → lv_has ls nL lv → W p l e R s m args below meth c H locs cs sl Q (F0 m pc ls st)
/-- a method's end: its answer, its world -/
def QK (G : gG) (v : Option Value) (w' : va_W) (A : Nat → Prop) : Array Value → State → Outcome → State → Prop := fun _ st oc t => (oc = .returned v ∧ va_P G.1 vwCl w' t.heap ∧ va_D A w') ∧ va_F A st t
def Pk (G : gG) (av : List Value) (w : va_W) (sz : Nat) : Array Value → State → Prop := va_Pc av (fun U => U.heap.size = sz ∧ va_P G.1 vwCl w U.heap ∧ EV G U ∧ va_D (fun _ => True) w)
/-- a contract: from the world w with these arguments the method answers v and leaves the world w' -/
def KK (l : Launch) (G : gG) (y : MethodName) (cc : ByteArray) (nL : Nat) (ret : Option FieldType) (fr lo : Nat) (av : List Value) (w : va_W) (v : Option Value) (w' : va_W) : Prop :=
  ∀ sz : Nat, Met l y (wq y cc nL ret) (rq fr lo) (Pk G av w sz) (QK G v w' (va_A w sz)) 0 0 (va_A w sz)
theorem Pk_blind {G : gG} {av : List Value} {w : va_W} {sz : Nat} : FrameBlind (Pk G av w sz) := by
  intro a U g mk q
  obtain ⟨q0, q1, qP, qK, qD⟩ := q
  exact ⟨q0, q1, qP, qK.call, qD⟩
theorem fm_of {α β : Type} {f : α → Option β} {l : List α} {l' : List β} (h : l.map f = l'.map some) : l.filterMap f = l' := by
  have h1 : l.filterMap f = (l.map f).filterMap id := by rw [List.filterMap_map]; rfl
  rw [h1, h, List.filterMap_map]
  show List.filterMap some l' = l'
  exact List.filterMap_some
section
variable {p : Program} {l : Launch} {e : Env} {R : Room} {s : State} {m : MethodId} {args : Array Value} {below : List Frame} {meth : Method} {c : Code} {G : gG} {A : Nat → Prop} {own : String} {cc : ByteArray} {nL cs sl : Nat} {ret : Option FieldType} {Q : State → Prop} {pc : Nat} {lv : List (Nat × Value)} {st : List Value} {w : va_W}
theorem KK_intro {y : MethodName} {fr lo : Nat} {av : List Value} {v : Option Value} {w' : va_W} {lv0 : List (Nat × Value)} (hy : plainName y.cls = true) (hown : y.cls = own) (hn : (lg_sl av).length ≤ nL) (hlv : lv_args 0 av = lv0)
    (body : ∀ (p : Program) (e : Env) (s : State) (m : MethodId) (args : Array Value) (below : List Frame) (meth : Method) (c : Code) (A : Nat → Prop), Cx p e s m args meth c G own cc nL ret A → Gq p l e (rq fr lo) s m args below meth c G A nL 0 0 (MQ below (QK G v w' A) args s 0 0 A) 0 lv0 [] w) :
    KK l G y cc nL ret fr lo av w v w' := by
  intro sz
  refine Met.ofW (cc := cc) (maxL := nL) (ret := ret) hy rfl ?_
  intro p e s m args below meth c s₁ B hml hv
  obtain ⟨rfl, hsz, hP, hK, hD0⟩ := hv
  have hown1 : s.vm.findClass y.cls = some m.cls := findClass_of_methodNamed B.named
  have hts := atoms_spec (ws := wq y cc nL ret) B.pre
  subst hsz
  have C : Cx p e s m av.toArray meth c G own cc nL ret (va_A w s.heap.size) := ⟨B.exec, B.bytes, hml, by rw [← hown]; exact hown1, fun x hx => hts x (List.mem_cons_of_mem _ hx), hK, fun q h => Or.inr h, B.returns, B.notSynchronized⟩
  have hl := lv_entry av (n := nL) hn
  rw [lg_entry_eq]
  generalize (lg_sl av ++ List.replicate (nL - (lg_sl av).length) Slot.unset).toArray = ls at hl ⊢
  rw [hlv] at hl
  exact body p e s m av.toArray below meth c _ C s.heap [] ls hP (hD0.self) va_S.rf hl
-- locals in another order, fewer
theorem go_lv {lv' : List (Nat × Value)} (ks : List Nat) (hl : lv_pick lv ks = lv') (kk : Gq p l e R s m args below meth c G A nL cs sl Q pc lv' st w) : Gq p l e R s m args below meth c G A nL cs sl Q pc lv st w :=
  fun H locs ls hP hD hS h => kk H locs ls hP hD hS (lv_sub h ks hl)
theorem go_iconst (C : Cx p e s m args meth c G own cc nL ret A) {n : Int} {v : Int32} (hd : decode cc pc = .ok (.iconst n, 1)) (hv : Int32.ofInt n = v) (kk : Gq p l e R s m args below meth c G A nL cs sl Q (pc + 1) lv (.int v :: st) w) : Gq p l e R s m args below meth c G A nL cs sl Q pc lv st w :=
  fun H locs ls hP hD hS h => lv_iconst C.1 C.2.1 hd hv (kk H locs ls hP hD hS h)
theorem go_bipush (C : Cx p e s m args meth c G own cc nL ret A) {n : Int} {v : Int32} (hd : decode cc pc = .ok (.bipush n, 2)) (hv : (Int8.ofInt n).toInt32 = v) (kk : Gq p l e R s m args below meth c G A nL cs sl Q (pc + 2) lv (.int v :: st) w) : Gq p l e R s m args below meth c G A nL cs sl Q pc lv st w :=
  fun H locs ls hP hD hS h => lv_bipush C.1 C.2.1 hd hv (kk H locs ls hP hD hS h)
theorem go_sipush (C : Cx p e s m args meth c G own cc nL ret A) {n : Int} {v : Int32} (hd : decode cc pc = .ok (.sipush n, 3)) (hv : (Int16.ofInt n).toInt32 = v) (kk : Gq p l e R s m args below meth c G A nL cs sl Q (pc + 3) lv (.int v :: st) w) : Gq p l e R s m args below meth c G A nL cs sl Q pc lv st w :=
  fun H locs ls hP hD hS h => lv_sipush C.1 C.2.1 hd hv (kk H locs ls hP hD hS h)
theorem go_lconst (C : Cx p e s m args meth c G own cc nL ret A) {n : Fin 2} {v : Int64} (hd : decode cc pc = .ok (.lconst n, 1)) (hv : Int64.ofNat (n : Nat) = v) (kk : Gq p l e R s m args below meth c G A nL cs sl Q (pc + 1) lv (.long v :: st) w) : Gq p l e R s m args below meth c G A nL cs sl Q pc lv st w :=
  fun H locs ls hP hD hS h => lv_lconst C.1 C.2.1 hd hv (kk H locs ls hP hD hS h)
theorem go_ldc (C : Cx p e s m args meth c G own cc nL ret A) {i : Nat} {v : Int32} (hd : decode cc pc = .ok (.ldc i, 2)) (hw : Cond.constant own i v ∈ wsL_law) (kk : Gq p l e R s m args below meth c G A nL cs sl Q (pc + 2) lv (.int v :: st) w) : Gq p l e R s m args below meth c G A nL cs sl Q pc lv st w :=
  fun H locs ls hP hD hS h => lv_ldc C.1 C.2.1 C.2.2.2.1 (C.2.2.2.2.1 _ hw) hd (kk H locs ls hP hD hS h)
theorem go_ldcw (C : Cx p e s m args meth c G own cc nL ret A) {i : Nat} {v : Int32} (hd : decode cc pc = .ok (.ldc_w i, 3)) (hw : Cond.constant own i v ∈ wsL_law) (kk : Gq p l e R s m args below meth c G A nL cs sl Q (pc + 3) lv (.int v :: st) w) : Gq p l e R s m args below meth c G A nL cs sl Q pc lv st w :=
  fun H locs ls hP hD hS h => lv_ldcw C.1 C.2.1 C.2.2.2.1 (C.2.2.2.2.1 _ hw) hd (kk H locs ls hP hD hS h)
theorem go_ldc2 (C : Cx p e s m args meth c G own cc nL ret A) {i : Nat} {v : Int64} (hd : decode cc pc = .ok (.ldc2_w i, 3)) (hw : Cond.constantLong own i v ∈ wsL_law) (kk : Gq p l e R s m args below meth c G A nL cs sl Q (pc + 3) lv (.long v :: st) w) : Gq p l e R s m args below meth c G A nL cs sl Q pc lv st w :=
  fun H locs ls hP hD hS h => lv_ldc2 C.1 C.2.1 C.2.2.2.1 (C.2.2.2.2.1 _ hw) hd (kk H locs ls hP hD hS h)
-- locals
theorem go_iload_n (C : Cx p e s m args meth c G own cc nL ret A) {kf : Fin 4} {x : Int32} (hd : decode cc pc = .ok (.iload_n kf, 1)) (j : Nat) (hk : lv[j]? = some ((kf : Nat), .int x)) (kk : Gq p l e R s m args below meth c G A nL cs sl Q (pc + 1) lv (.int x :: st) w) : Gq p l e R s m args below meth c G A nL cs sl Q pc lv st w :=
  fun H locs ls hP hD hS h => lv_iload_n C.1 C.2.1 hd rfl (lv_at h j hk) (kk H locs ls hP hD hS h)
theorem go_iload (C : Cx p e s m args meth c G own cc nL ret A) {i : Nat} {x : Int32} (hd : decode cc pc = .ok (.iload i, 2)) (j : Nat) (hk : lv[j]? = some (i, .int x)) (kk : Gq p l e R s m args below meth c G A nL cs sl Q (pc + 2) lv (.int x :: st) w) : Gq p l e R s m args below meth c G A nL cs sl Q pc lv st w :=
  fun H locs ls hP hD hS h => lv_iload C.1 C.2.1 hd (lv_at h j hk) (kk H locs ls hP hD hS h)
theorem go_lload_n (C : Cx p e s m args meth c G own cc nL ret A) {kf : Fin 4} {x : Int64} (hd : decode cc pc = .ok (.lload_n kf, 1)) (j : Nat) (hk : lv[j]? = some ((kf : Nat), .long x)) (kk : Gq p l e R s m args below meth c G A nL cs sl Q (pc + 1) lv (.long x :: st) w) : Gq p l e R s m args below meth c G A nL cs sl Q pc lv st w :=
  fun H locs ls hP hD hS h => lv_lload_n C.1 C.2.1 hd rfl (lv_at h j hk) (kk H locs ls hP hD hS h)
theorem go_lload (C : Cx p e s m args meth c G own cc nL ret A) {i : Nat} {x : Int64} (hd : decode cc pc = .ok (.lload i, 2)) (j : Nat) (hk : lv[j]? = some (i, .long x)) (kk : Gq p l e R s m args below meth c G A nL cs sl Q (pc + 2) lv (.long x :: st) w) : Gq p l e R s m args below meth c G A nL cs sl Q pc lv st w :=
  fun H locs ls hP hD hS h => lv_lload C.1 C.2.1 hd (lv_at h j hk) (kk H locs ls hP hD hS h)
theorem go_aload_n (C : Cx p e s m args meth c G own cc nL ret A) {kf : Fin 4} {x : Nat} (hd : decode cc pc = .ok (.aload_n kf, 1)) (j : Nat) (hk : lv[j]? = some ((kf : Nat), .ref x)) (kk : Gq p l e R s m args below meth c G A nL cs sl Q (pc + 1) lv (.ref x :: st) w) : Gq p l e R s m args below meth c G A nL cs sl Q pc lv st w :=
  fun H locs ls hP hD hS h => lv_aload_n C.1 C.2.1 hd rfl (lv_at h j hk) (kk H locs ls hP hD hS h)
-- stores: the plain ones, and those that name what is stored
theorem go_istore_n (C : Cx p e s m args meth c G own cc nL ret A) {kf : Fin 4} {x : Int32} {lv' : List (Nat × Value)} (hd : decode cc pc = .ok (.istore_n kf, 1)) (hn : (kf : Nat) < nL) (hl : ((kf : Nat), Value.int x) :: lv.filter (fun q => !(q.1 == (kf : Nat)) && !(q.1 + 1 == (kf : Nat) && q.2.category == 2)) = lv') (kk : Gq p l e R s m args below meth c G A nL cs sl Q (pc + 1) lv' st w) : Gq p l e R s m args below meth c G A nL cs sl Q pc lv (.int x :: st) w :=
  fun H locs ls hP hD hS h => lv_istore_n C.1 C.2.1 hd rfl h hn hl (fun ls' h' => kk H locs ls' hP hD hS h')
theorem go_istore (C : Cx p e s m args meth c G own cc nL ret A) {i : Nat} {x : Int32} {lv' : List (Nat × Value)} (hd : decode cc pc = .ok (.istore i, 2)) (hn : i < nL) (hl : (i, Value.int x) :: lv.filter (fun q => !(q.1 == i) && !(q.1 + 1 == i && q.2.category == 2)) = lv') (kk : Gq p l e R s m args below meth c G A nL cs sl Q (pc + 2) lv' st w) : Gq p l e R s m args below meth c G A nL cs sl Q pc lv (.int x :: st) w :=
  fun H locs ls hP hD hS h => lv_istore C.1 C.2.1 hd h hn hl (fun ls' h' => kk H locs ls' hP hD hS h')
theorem go_istore_nN (C : Cx p e s m args meth c G own cc nL ret A) {β : Type} {r : β} {k : Int32 → Option β} {kf : Fin 4} {x : Int32} {lf : Int32 → List (Nat × Value)} (h : tnm x k = some r) (hd : decode cc pc = .ok (.istore_n kf, 1)) (hn : (kf : Nat) < nL) (hl : ∀ x : Int32, ((kf : Nat), Value.int x) :: lv.filter (fun q => !(q.1 == (kf : Nat)) && !(q.1 + 1 == (kf : Nat) && q.2.category == 2)) = lf x) (kk : ∀ x : Int32, k x = some r → Gq p l e R s m args below meth c G A nL cs sl Q (pc + 1) (lf x) st w) : Gq p l e R s m args below meth c G A nL cs sl Q pc lv (.int x :: st) w :=
  go_istore_n C hd hn (hl x) (kk x h)
theorem go_istoreN (C : Cx p e s m args meth c G own cc nL ret A) {β : Type} {r : β} {k : Int32 → Option β} {i : Nat} {x : Int32} {lf : Int32 → List (Nat × Value)} (h : tnm x k = some r) (hd : decode cc pc = .ok (.istore i, 2)) (hn : i < nL) (hl : ∀ x : Int32, (i, Value.int x) :: lv.filter (fun q => !(q.1 == i) && !(q.1 + 1 == i && q.2.category == 2)) = lf x) (kk : ∀ x : Int32, k x = some r → Gq p l e R s m args below meth c G A nL cs sl Q (pc + 2) (lf x) st w) : Gq p l e R s m args below meth c G A nL cs sl Q pc lv (.int x :: st) w :=
  go_istore C hd hn (hl x) (kk x h)
theorem go_iincN (C : Cx p e s m args meth c G own cc nL ret A) {β : Type} {r : β} {k : Int32 → Option β} {i : Nat} {n : Int} {x y : Int32} {lf : Int32 → List (Nat × Value)} (h : tnm y k = some r) (hd : decode cc pc = .ok (.iinc i n, 3)) (j : Nat) (hk : lv[j]? = some (i, .int x)) (hy : x + Int32.ofInt n = y) (hn : i < nL) (hl : ∀ x : Int32, (i, Value.int x) :: lv.filter (fun q => !(q.1 == i) && !(q.1 + 1 == i && q.2.category == 2)) = lf x) (kk : ∀ x : Int32, k x = some r → Gq p l e R s m args below meth c G A nL cs sl Q (pc + 3) (lf x) st w) : Gq p l e R s m args below meth c G A nL cs sl Q pc lv st w :=
  fun H locs ls hP hD hS hh => lv_iinc C.1 C.2.1 hd hh hk hy hn (hl y) (fun ls' h' => kk y h H locs ls' hP hD hS h')
theorem go_lstore_nN (C : Cx p e s m args meth c G own cc nL ret A) {β : Type} {r : β} {k : Int64 → Option β} {kf : Fin 4} {x : Int64} {lf : Int64 → List (Nat × Value)} (h : tnm x k = some r) (hd : decode cc pc = .ok (.lstore_n kf, 1)) (hn : (kf : Nat) + 1 < nL) (hl : ∀ x : Int64, ((kf : Nat), Value.long x) :: lv.filter (fun q => !(q.1 == (kf : Nat)) && (!(q.1 == (kf : Nat) + 1) && !(q.1 + 1 == (kf : Nat) && q.2.category == 2))) = lf x) (kk : ∀ x : Int64, k x = some r → Gq p l e R s m args below meth c G A nL cs sl Q (pc + 1) (lf x) st w) : Gq p l e R s m args below meth c G A nL cs sl Q pc lv (.long x :: st) w :=
  fun H locs ls hP hD hS hh => lv_lstore_n C.1 C.2.1 hd rfl hh hn (hl x) (fun ls' h' => kk x h H locs ls' hP hD hS h')
theorem go_lstoreN (C : Cx p e s m args meth c G own cc nL ret A) {β : Type} {r : β} {k : Int64 → Option β} {i : Nat} {x : Int64} {lf : Int64 → List (Nat × Value)} (h : tnm x k = some r) (hd : decode cc pc = .ok (.lstore i, 2)) (hn : i + 1 < nL) (hl : ∀ x : Int64, (i, Value.long x) :: lv.filter (fun q => !(q.1 == i) && (!(q.1 == i + 1) && !(q.1 + 1 == i && q.2.category == 2))) = lf x) (kk : ∀ x : Int64, k x = some r → Gq p l e R s m args below meth c G A nL cs sl Q (pc + 2) (lf x) st w) : Gq p l e R s m args below meth c G A nL cs sl Q pc lv (.long x :: st) w :=
  fun H locs ls hP hD hS hh => lv_lstore C.1 C.2.1 hd hh hn (hl x) (fun ls' h' => kk x h H locs ls' hP hD hS h')
theorem go_astore_n (C : Cx p e s m args meth c G own cc nL ret A) {kf : Fin 4} {x : Nat} {lv' : List (Nat × Value)} (hd : decode cc pc = .ok (.astore_n kf, 1)) (hn : (kf : Nat) < nL) (hl : ((kf : Nat), Value.ref x) :: lv.filter (fun q => !(q.1 == (kf : Nat)) && !(q.1 + 1 == (kf : Nat) && q.2.category == 2)) = lv') (kk : Gq p l e R s m args below meth c G A nL cs sl Q (pc + 1) lv' st w) : Gq p l e R s m args below meth c G A nL cs sl Q pc lv (.ref x :: st) w :=
  fun H locs ls hP hD hS h => lv_astore_n C.1 C.2.1 hd rfl h hn hl (fun ls' h' => kk H locs ls' hP hD hS h')
-- stack
theorem go_dup (C : Cx p e s m args meth c G own cc nL ret A) {v : Value} (hd : decode cc pc = .ok (.dup, 1)) (hv : v.category = 1) (kk : Gq p l e R s m args below meth c G A nL cs sl Q (pc + 1) lv (v :: v :: st) w) : Gq p l e R s m args below meth c G A nL cs sl Q pc lv (v :: st) w :=
  fun H locs ls hP hD hS h => lv_dup C.1 C.2.1 hd hv (kk H locs ls hP hD hS h)
theorem go_dup2 (C : Cx p e s m args meth c G own cc nL ret A) {v u : Value} (hd : decode cc pc = .ok (.dup2, 1)) (hv : v.category = 1) (hu : u.category = 1) (kk : Gq p l e R s m args below meth c G A nL cs sl Q (pc + 1) lv (v :: u :: v :: u :: st) w) : Gq p l e R s m args below meth c G A nL cs sl Q pc lv (v :: u :: st) w :=
  fun H locs ls hP hD hS h => lv_dup2_11 C.1 C.2.1 hd hv hu (kk H locs ls hP hD hS h)
theorem go_pop (C : Cx p e s m args meth c G own cc nL ret A) {v : Value} (hd : decode cc pc = .ok (.pop, 1)) (hv : v.category = 1) (kk : Gq p l e R s m args below meth c G A nL cs sl Q (pc + 1) lv st w) : Gq p l e R s m args below meth c G A nL cs sl Q pc lv (v :: st) w :=
  fun H locs ls hP hD hS h => lv_pop C.1 C.2.1 hd hv (kk H locs ls hP hD hS h)
theorem go_iadd (C : Cx p e s m args meth c G own cc nL ret A) {x y : Int32} (hd : decode cc pc = .ok (.iadd, 1)) (kk : Gq p l e R s m args below meth c G A nL cs sl Q (pc + 1) lv (.int (x + y) :: st) w) : Gq p l e R s m args below meth c G A nL cs sl Q pc lv (.int y :: .int x :: st) w :=
  fun H locs ls hP hD hS h => lv_iadd C.1 C.2.1 hd (kk H locs ls hP hD hS h)
theorem go_isub (C : Cx p e s m args meth c G own cc nL ret A) {x y : Int32} (hd : decode cc pc = .ok (.isub, 1)) (kk : Gq p l e R s m args below meth c G A nL cs sl Q (pc + 1) lv (.int (x - y) :: st) w) : Gq p l e R s m args below meth c G A nL cs sl Q pc lv (.int y :: .int x :: st) w :=
  fun H locs ls hP hD hS h => lv_isub C.1 C.2.1 hd (kk H locs ls hP hD hS h)
theorem go_imul (C : Cx p e s m args meth c G own cc nL ret A) {x y : Int32} (hd : decode cc pc = .ok (.imul, 1)) (kk : Gq p l e R s m args below meth c G A nL cs sl Q (pc + 1) lv (.int (x * y) :: st) w) : Gq p l e R s m args below meth c G A nL cs sl Q pc lv (.int y :: .int x :: st) w :=
  fun H locs ls hP hD hS h => lv_imul C.1 C.2.1 hd (kk H locs ls hP hD hS h)
theorem go_iand (C : Cx p e s m args meth c G own cc nL ret A) {x y : Int32} (hd : decode cc pc = .ok (.iand, 1)) (kk : Gq p l e R s m args below meth c G A nL cs sl Q (pc + 1) lv (.int (x &&& y) :: st) w) : Gq p l e R s m args below meth c G A nL cs sl Q pc lv (.int y :: .int x :: st) w :=
  fun H locs ls hP hD hS h => lv_iand C.1 C.2.1 hd (kk H locs ls hP hD hS h)
theorem go_ior (C : Cx p e s m args meth c G own cc nL ret A) {x y : Int32} (hd : decode cc pc = .ok (.ior, 1)) (kk : Gq p l e R s m args below meth c G A nL cs sl Q (pc + 1) lv (.int (x ||| y) :: st) w) : Gq p l e R s m args below meth c G A nL cs sl Q pc lv (.int y :: .int x :: st) w :=
  fun H locs ls hP hD hS h => lv_ior C.1 C.2.1 hd (kk H locs ls hP hD hS h)
theorem go_ixor (C : Cx p e s m args meth c G own cc nL ret A) {x y : Int32} (hd : decode cc pc = .ok (.ixor, 1)) (kk : Gq p l e R s m args below meth c G A nL cs sl Q (pc + 1) lv (.int (x ^^^ y) :: st) w) : Gq p l e R s m args below meth c G A nL cs sl Q pc lv (.int y :: .int x :: st) w :=
  fun H locs ls hP hD hS h => lv_ixor C.1 C.2.1 hd (kk H locs ls hP hD hS h)
theorem go_ishl (C : Cx p e s m args meth c G own cc nL ret A) {x y : Int32} (hd : decode cc pc = .ok (.ishl, 1)) (kk : Gq p l e R s m args below meth c G A nL cs sl Q (pc + 1) lv (.int (x <<< (y &&& 31)) :: st) w) : Gq p l e R s m args below meth c G A nL cs sl Q pc lv (.int y :: .int x :: st) w :=
  fun H locs ls hP hD hS h => lv_ishl C.1 C.2.1 hd (kk H locs ls hP hD hS h)
theorem go_ishr (C : Cx p e s m args meth c G own cc nL ret A) {x y : Int32} (hd : decode cc pc = .ok (.ishr, 1)) (kk : Gq p l e R s m args below meth c G A nL cs sl Q (pc + 1) lv (.int (x >>> (y &&& 31)) :: st) w) : Gq p l e R s m args below meth c G A nL cs sl Q pc lv (.int y :: .int x :: st) w :=
  fun H locs ls hP hD hS h => lv_ishr C.1 C.2.1 hd (kk H locs ls hP hD hS h)
theorem go_ladd (C : Cx p e s m args meth c G own cc nL ret A) {x y : Int64} (hd : decode cc pc = .ok (.ladd, 1)) (kk : Gq p l e R s m args below meth c G A nL cs sl Q (pc + 1) lv (.long (x + y) :: st) w) : Gq p l e R s m args below meth c G A nL cs sl Q pc lv (.long y :: .long x :: st) w :=
  fun H locs ls hP hD hS h => lv_ladd C.1 C.2.1 hd (kk H locs ls hP hD hS h)
theorem go_lsub (C : Cx p e s m args meth c G own cc nL ret A) {x y : Int64} (hd : decode cc pc = .ok (.lsub, 1)) (kk : Gq p l e R s m args below meth c G A nL cs sl Q (pc + 1) lv (.long (x - y) :: st) w) : Gq p l e R s m args below meth c G A nL cs sl Q pc lv (.long y :: .long x :: st) w :=
  fun H locs ls hP hD hS h => lv_lsub C.1 C.2.1 hd (kk H locs ls hP hD hS h)
theorem go_lmul (C : Cx p e s m args meth c G own cc nL ret A) {x y : Int64} (hd : decode cc pc = .ok (.lmul, 1)) (kk : Gq p l e R s m args below meth c G A nL cs sl Q (pc + 1) lv (.long (x * y) :: st) w) : Gq p l e R s m args below meth c G A nL cs sl Q pc lv (.long y :: .long x :: st) w :=
  fun H locs ls hP hD hS h => lv_lmul C.1 C.2.1 hd (kk H locs ls hP hD hS h)
theorem go_lcmp (C : Cx p e s m args meth c G own cc nL ret A) {x y : Int64} (hd : decode cc pc = .ok (.lcmp, 1)) (kk : Gq p l e R s m args below meth c G A nL cs sl Q (pc + 1) lv (.int (lg_cmp x y) :: st) w) : Gq p l e R s m args below meth c G A nL cs sl Q pc lv (.long y :: .long x :: st) w :=
  fun H locs ls hP hD hS h => W.lcmp C.1 C.2.1 hd (kk H locs ls hP hD hS h)
theorem go_iushr (C : Cx p e s m args meth c G own cc nL ret A) {x y : Int32} (hd : decode cc pc = .ok (.iushr, 1)) (kk : Gq p l e R s m args below meth c G A nL cs sl Q (pc + 1) lv (.int (iushr x y) :: st) w) : Gq p l e R s m args below meth c G A nL cs sl Q pc lv (.int y :: .int x :: st) w :=
  fun H locs ls hP hD hS h => lv_iushr C.1 C.2.1 hd rfl (kk H locs ls hP hD hS h)
theorem go_ineg (C : Cx p e s m args meth c G own cc nL ret A) {x : Int32} (hd : decode cc pc = .ok (.ineg, 1)) (kk : Gq p l e R s m args below meth c G A nL cs sl Q (pc + 1) lv (.int (-x) :: st) w) : Gq p l e R s m args below meth c G A nL cs sl Q pc lv (.int x :: st) w :=
  fun H locs ls hP hD hS h => lv_ineg C.1 C.2.1 hd (kk H locs ls hP hD hS h)
theorem go_i2l (C : Cx p e s m args meth c G own cc nL ret A) {x : Int32} (hd : decode cc pc = .ok (.i2l, 1)) (kk : Gq p l e R s m args below meth c G A nL cs sl Q (pc + 1) lv (.long x.toInt64 :: st) w) : Gq p l e R s m args below meth c G A nL cs sl Q pc lv (.int x :: st) w :=
  fun H locs ls hP hD hS h => lv_i2l C.1 C.2.1 hd rfl (kk H locs ls hP hD hS h)
theorem go_i2c (C : Cx p e s m args meth c G own cc nL ret A) {x : Int32} (hd : decode cc pc = .ok (.i2c, 1)) (kk : Gq p l e R s m args below meth c G A nL cs sl Q (pc + 1) lv (.int (i2c x) :: st) w) : Gq p l e R s m args below meth c G A nL cs sl Q pc lv (.int x :: st) w :=
  fun H locs ls hP hD hS h => lv_i2c C.1 C.2.1 hd rfl (kk H locs ls hP hD hS h)
theorem go_idiv (C : Cx p e s m args meth c G own cc nL ret A) {x y : Int32} (hd : decode cc pc = .ok (.idiv, 1)) (hne : ¬ y = 0) (kk : Gq p l e R s m args below meth c G A nL cs sl Q (pc + 1) lv (.int (x / y) :: st) w) : Gq p l e R s m args below meth c G A nL cs sl Q pc lv (.int y :: .int x :: st) w :=
  fun H locs ls hP hD hS h => lv_idiv C.1 C.2.1 hd hne (kk H locs ls hP hD hS h)
theorem go_idivG (C : Cx p e s m args meth c G own cc nL ret A) {β : Type} {r : β} {t : Option β} {x y : Int32} (h : tgd (tnz y) t = some r) (hd : decode cc pc = .ok (.idiv, 1)) (kk : t = some r → Gq p l e R s m args below meth c G A nL cs sl Q (pc + 1) lv (.int (x / y) :: st) w) : Gq p l e R s m args below meth c G A nL cs sl Q pc lv (.int y :: .int x :: st) w :=
  go_idiv C hd (of_decide_eq_true (tgd_e h).1) (kk (tgd_e h).2)
theorem go_irem (C : Cx p e s m args meth c G own cc nL ret A) {x y : Int32} (hd : decode cc pc = .ok (.irem, 1)) (hne : ¬ y = 0) (kk : Gq p l e R s m args below meth c G A nL cs sl Q (pc + 1) lv (.int (irem x y) :: st) w) : Gq p l e R s m args below meth c G A nL cs sl Q pc lv (.int y :: .int x :: st) w :=
  fun H locs ls hP hD hS h => lv_irem C.1 C.2.1 hd hne (kk H locs ls hP hD hS h)
theorem go_iremG (C : Cx p e s m args meth c G own cc nL ret A) {β : Type} {r : β} {t : Option β} {x y : Int32} (h : tgd (tnz y) t = some r) (hd : decode cc pc = .ok (.irem, 1)) (kk : t = some r → Gq p l e R s m args below meth c G A nL cs sl Q (pc + 1) lv (.int (irem x y) :: st) w) : Gq p l e R s m args below meth c G A nL cs sl Q pc lv (.int y :: .int x :: st) w :=
  go_irem C hd (of_decide_eq_true (tgd_e h).1) (kk (tgd_e h).2)
theorem go_ldiv (C : Cx p e s m args meth c G own cc nL ret A) {x y : Int64} (hd : decode cc pc = .ok (.ldiv, 1)) (hne : ¬ y = 0) (kk : Gq p l e R s m args below meth c G A nL cs sl Q (pc + 1) lv (.long (x / y) :: st) w) : Gq p l e R s m args below meth c G A nL cs sl Q pc lv (.long y :: .long x :: st) w :=
  fun H locs ls hP hD hS h => lv_ldiv C.1 C.2.1 hd hne (kk H locs ls hP hD hS h)
theorem go_ldivG (C : Cx p e s m args meth c G own cc nL ret A) {β : Type} {r : β} {t : Option β} {x y : Int64} (h : tgd (tnzl y) t = some r) (hd : decode cc pc = .ok (.ldiv, 1)) (kk : t = some r → Gq p l e R s m args below meth c G A nL cs sl Q (pc + 1) lv (.long (x / y) :: st) w) : Gq p l e R s m args below meth c G A nL cs sl Q pc lv (.long y :: .long x :: st) w :=
  go_ldiv C hd (of_decide_eq_true (tgd_e h).1) (kk (tgd_e h).2)
theorem go_lrem (C : Cx p e s m args meth c G own cc nL ret A) {x y : Int64} (hd : decode cc pc = .ok (.lrem, 1)) (hne : ¬ y = 0) (kk : Gq p l e R s m args below meth c G A nL cs sl Q (pc + 1) lv (.long (lrem x y) :: st) w) : Gq p l e R s m args below meth c G A nL cs sl Q pc lv (.long y :: .long x :: st) w :=
  fun H locs ls hP hD hS h => lv_lrem C.1 C.2.1 hd hne (kk H locs ls hP hD hS h)
theorem go_lremG (C : Cx p e s m args meth c G own cc nL ret A) {β : Type} {r : β} {t : Option β} {x y : Int64} (h : tgd (tnzl y) t = some r) (hd : decode cc pc = .ok (.lrem, 1)) (kk : t = some r → Gq p l e R s m args below meth c G A nL cs sl Q (pc + 1) lv (.long (lrem x y) :: st) w) : Gq p l e R s m args below meth c G A nL cs sl Q pc lv (.long y :: .long x :: st) w :=
  go_lrem C hd (of_decide_eq_true (tgd_e h).1) (kk (tgd_e h).2)
theorem go_if_eq (C : Cx p e s m args meth c G own cc nL ret A) {β : Type} {r : β} {t1 t2 : Option β} {x : Int32} {off : Int} {tgt : Nat} (h : (if x = 0 then t1 else t2) = some r) (hd : decode cc pc = .ok (.ifCond .eq off, 3)) (ht : (pc : Int) + off = (tgt : Int)) (kt : t1 = some r → Gq p l e R s m args below meth c G A nL cs sl Q tgt lv st w) (kf : t2 = some r → Gq p l e R s m args below meth c G A nL cs sl Q (pc + 3) lv st w) : Gq p l e R s m args below meth c G A nL cs sl Q pc lv (.int x :: st) w :=
  fun H locs ls hP hD hS hh => lv_if_eq C.1 C.2.1 hd ht (fun q => kt (by rw [if_pos q] at h; exact h) H locs ls hP hD hS hh) (fun q => kf (by rw [if_neg q] at h; exact h) H locs ls hP hD hS hh)
theorem go_icmp_eq (C : Cx p e s m args meth c G own cc nL ret A) {β : Type} {r : β} {t1 t2 : Option β} {x y : Int32} {off : Int} {tgt : Nat} (h : (if x = y then t1 else t2) = some r) (hd : decode cc pc = .ok (.if_icmp .eq off, 3)) (ht : (pc : Int) + off = (tgt : Int)) (kt : t1 = some r → Gq p l e R s m args below meth c G A nL cs sl Q tgt lv st w) (kf : t2 = some r → Gq p l e R s m args below meth c G A nL cs sl Q (pc + 3) lv st w) : Gq p l e R s m args below meth c G A nL cs sl Q pc lv (.int y :: .int x :: st) w :=
  fun H locs ls hP hD hS hh => lv_icmp_eq C.1 C.2.1 hd ht (fun q => kt (by rw [if_pos q] at h; exact h) H locs ls hP hD hS hh) (fun q => kf (by rw [if_neg q] at h; exact h) H locs ls hP hD hS hh)
theorem go_if_ne (C : Cx p e s m args meth c G own cc nL ret A) {β : Type} {r : β} {t1 t2 : Option β} {x : Int32} {off : Int} {tgt : Nat} (h : (if x = 0 then t1 else t2) = some r) (hd : decode cc pc = .ok (.ifCond .ne off, 3)) (ht : (pc : Int) + off = (tgt : Int)) (kt : t2 = some r → Gq p l e R s m args below meth c G A nL cs sl Q tgt lv st w) (kf : t1 = some r → Gq p l e R s m args below meth c G A nL cs sl Q (pc + 3) lv st w) : Gq p l e R s m args below meth c G A nL cs sl Q pc lv (.int x :: st) w :=
  fun H locs ls hP hD hS hh => lv_if_ne C.1 C.2.1 hd ht (fun q => kt (by rw [if_neg q] at h; exact h) H locs ls hP hD hS hh) (fun q => kf (by rw [if_pos q] at h; exact h) H locs ls hP hD hS hh)
theorem go_icmp_ne (C : Cx p e s m args meth c G own cc nL ret A) {β : Type} {r : β} {t1 t2 : Option β} {x y : Int32} {off : Int} {tgt : Nat} (h : (if x = y then t1 else t2) = some r) (hd : decode cc pc = .ok (.if_icmp .ne off, 3)) (ht : (pc : Int) + off = (tgt : Int)) (kt : t2 = some r → Gq p l e R s m args below meth c G A nL cs sl Q tgt lv st w) (kf : t1 = some r → Gq p l e R s m args below meth c G A nL cs sl Q (pc + 3) lv st w) : Gq p l e R s m args below meth c G A nL cs sl Q pc lv (.int y :: .int x :: st) w :=
  fun H locs ls hP hD hS hh => lv_icmp_ne C.1 C.2.1 hd ht (fun q => kt (by rw [if_neg q] at h; exact h) H locs ls hP hD hS hh) (fun q => kf (by rw [if_pos q] at h; exact h) H locs ls hP hD hS hh)
theorem go_if_lt (C : Cx p e s m args meth c G own cc nL ret A) {β : Type} {r : β} {t1 t2 : Option β} {x : Int32} {off : Int} {tgt : Nat} (h : (if x < 0 then t1 else t2) = some r) (hd : decode cc pc = .ok (.ifCond .lt off, 3)) (ht : (pc : Int) + off = (tgt : Int)) (kt : t1 = some r → Gq p l e R s m args below meth c G A nL cs sl Q tgt lv st w) (kf : t2 = some r → Gq p l e R s m args below meth c G A nL cs sl Q (pc + 3) lv st w) : Gq p l e R s m args below meth c G A nL cs sl Q pc lv (.int x :: st) w :=
  fun H locs ls hP hD hS hh => lv_if_lt C.1 C.2.1 hd ht (fun q => kt (by rw [if_pos q] at h; exact h) H locs ls hP hD hS hh) (fun q => kf (by rw [if_neg q] at h; exact h) H locs ls hP hD hS hh)
theorem go_icmp_lt (C : Cx p e s m args meth c G own cc nL ret A) {β : Type} {r : β} {t1 t2 : Option β} {x y : Int32} {off : Int} {tgt : Nat} (h : (if x < y then t1 else t2) = some r) (hd : decode cc pc = .ok (.if_icmp .lt off, 3)) (ht : (pc : Int) + off = (tgt : Int)) (kt : t1 = some r → Gq p l e R s m args below meth c G A nL cs sl Q tgt lv st w) (kf : t2 = some r → Gq p l e R s m args below meth c G A nL cs sl Q (pc + 3) lv st w) : Gq p l e R s m args below meth c G A nL cs sl Q pc lv (.int y :: .int x :: st) w :=
  fun H locs ls hP hD hS hh => lv_icmp_lt C.1 C.2.1 hd ht (fun q => kt (by rw [if_pos q] at h; exact h) H locs ls hP hD hS hh) (fun q => kf (by rw [if_neg q] at h; exact h) H locs ls hP hD hS hh)
theorem go_if_ge (C : Cx p e s m args meth c G own cc nL ret A) {β : Type} {r : β} {t1 t2 : Option β} {x : Int32} {off : Int} {tgt : Nat} (h : (if 0 ≤ x then t1 else t2) = some r) (hd : decode cc pc = .ok (.ifCond .ge off, 3)) (ht : (pc : Int) + off = (tgt : Int)) (kt : t1 = some r → Gq p l e R s m args below meth c G A nL cs sl Q tgt lv st w) (kf : t2 = some r → Gq p l e R s m args below meth c G A nL cs sl Q (pc + 3) lv st w) : Gq p l e R s m args below meth c G A nL cs sl Q pc lv (.int x :: st) w :=
  fun H locs ls hP hD hS hh => lv_if_ge C.1 C.2.1 hd ht (fun q => kt (by rw [if_pos q] at h; exact h) H locs ls hP hD hS hh) (fun q => kf (by rw [if_neg q] at h; exact h) H locs ls hP hD hS hh)
theorem go_icmp_ge (C : Cx p e s m args meth c G own cc nL ret A) {β : Type} {r : β} {t1 t2 : Option β} {x y : Int32} {off : Int} {tgt : Nat} (h : (if y ≤ x then t1 else t2) = some r) (hd : decode cc pc = .ok (.if_icmp .ge off, 3)) (ht : (pc : Int) + off = (tgt : Int)) (kt : t1 = some r → Gq p l e R s m args below meth c G A nL cs sl Q tgt lv st w) (kf : t2 = some r → Gq p l e R s m args below meth c G A nL cs sl Q (pc + 3) lv st w) : Gq p l e R s m args below meth c G A nL cs sl Q pc lv (.int y :: .int x :: st) w :=
  fun H locs ls hP hD hS hh => lv_icmp_ge C.1 C.2.1 hd ht (fun q => kt (by rw [if_pos q] at h; exact h) H locs ls hP hD hS hh) (fun q => kf (by rw [if_neg q] at h; exact h) H locs ls hP hD hS hh)
theorem go_if_gt (C : Cx p e s m args meth c G own cc nL ret A) {β : Type} {r : β} {t1 t2 : Option β} {x : Int32} {off : Int} {tgt : Nat} (h : (if 0 < x then t1 else t2) = some r) (hd : decode cc pc = .ok (.ifCond .gt off, 3)) (ht : (pc : Int) + off = (tgt : Int)) (kt : t1 = some r → Gq p l e R s m args below meth c G A nL cs sl Q tgt lv st w) (kf : t2 = some r → Gq p l e R s m args below meth c G A nL cs sl Q (pc + 3) lv st w) : Gq p l e R s m args below meth c G A nL cs sl Q pc lv (.int x :: st) w :=
  fun H locs ls hP hD hS hh => lv_if_gt C.1 C.2.1 hd ht (fun q => kt (by rw [if_pos q] at h; exact h) H locs ls hP hD hS hh) (fun q => kf (by rw [if_neg q] at h; exact h) H locs ls hP hD hS hh)
theorem go_icmp_gt (C : Cx p e s m args meth c G own cc nL ret A) {β : Type} {r : β} {t1 t2 : Option β} {x y : Int32} {off : Int} {tgt : Nat} (h : (if y < x then t1 else t2) = some r) (hd : decode cc pc = .ok (.if_icmp .gt off, 3)) (ht : (pc : Int) + off = (tgt : Int)) (kt : t1 = some r → Gq p l e R s m args below meth c G A nL cs sl Q tgt lv st w) (kf : t2 = some r → Gq p l e R s m args below meth c G A nL cs sl Q (pc + 3) lv st w) : Gq p l e R s m args below meth c G A nL cs sl Q pc lv (.int y :: .int x :: st) w :=
  fun H locs ls hP hD hS hh => lv_icmp_gt C.1 C.2.1 hd ht (fun q => kt (by rw [if_pos q] at h; exact h) H locs ls hP hD hS hh) (fun q => kf (by rw [if_neg q] at h; exact h) H locs ls hP hD hS hh)
theorem go_if_le (C : Cx p e s m args meth c G own cc nL ret A) {β : Type} {r : β} {t1 t2 : Option β} {x : Int32} {off : Int} {tgt : Nat} (h : (if x ≤ 0 then t1 else t2) = some r) (hd : decode cc pc = .ok (.ifCond .le off, 3)) (ht : (pc : Int) + off = (tgt : Int)) (kt : t1 = some r → Gq p l e R s m args below meth c G A nL cs sl Q tgt lv st w) (kf : t2 = some r → Gq p l e R s m args below meth c G A nL cs sl Q (pc + 3) lv st w) : Gq p l e R s m args below meth c G A nL cs sl Q pc lv (.int x :: st) w :=
  fun H locs ls hP hD hS hh => lv_if_le C.1 C.2.1 hd ht (fun q => kt (by rw [if_pos q] at h; exact h) H locs ls hP hD hS hh) (fun q => kf (by rw [if_neg q] at h; exact h) H locs ls hP hD hS hh)
theorem go_icmp_le (C : Cx p e s m args meth c G own cc nL ret A) {β : Type} {r : β} {t1 t2 : Option β} {x y : Int32} {off : Int} {tgt : Nat} (h : (if x ≤ y then t1 else t2) = some r) (hd : decode cc pc = .ok (.if_icmp .le off, 3)) (ht : (pc : Int) + off = (tgt : Int)) (kt : t1 = some r → Gq p l e R s m args below meth c G A nL cs sl Q tgt lv st w) (kf : t2 = some r → Gq p l e R s m args below meth c G A nL cs sl Q (pc + 3) lv st w) : Gq p l e R s m args below meth c G A nL cs sl Q pc lv (.int y :: .int x :: st) w :=
  fun H locs ls hP hD hS hh => lv_icmp_le C.1 C.2.1 hd ht (fun q => kt (by rw [if_pos q] at h; exact h) H locs ls hP hD hS hh) (fun q => kf (by rw [if_neg q] at h; exact h) H locs ls hP hD hS hh)
theorem go_goto (C : Cx p e s m args meth c G own cc nL ret A) {off : Int} {tgt : Nat} (hd : decode cc pc = .ok (.goto off, 3)) (ht : (pc : Int) + off = (tgt : Int)) (kk : Gq p l e R s m args below meth c G A nL cs sl Q tgt lv st w) : Gq p l e R s m args below meth c G A nL cs sl Q pc lv st w :=
  fun H locs ls hP hD hS h => lv_goto C.1 C.2.1 hd ht (kk H locs ls hP hD hS h)
theorem go_ite {β : Type} {r : β} {P cnd : Prop} {t1 t2 : Option β} [Decidable cnd] (h : (if cnd then t1 else t2) = some r) (k1 : cnd → t1 = some r → P) (k2 : ¬ cnd → t2 = some r → P) : P := by
  by_cases q : cnd
  · rw [if_pos q] at h; exact k1 q h
  · rw [if_neg q] at h; exact k2 q h
theorem go_tabIn (C : Cx p e s m args meth c G own cc nL ret A) {dflt lo hi : Int} {offs : Array Int} {len : Nat} {x v : Int32} {off : Int} {tgt : Nat} (hd : decode cc pc = .ok (.tableswitch dflt lo hi offs, len)) (hx : x = v) (hv : (decide (v.toInt < lo) || decide (hi < v.toInt)) = false) (ho : offs[(v.toInt - lo).toNat]? = some off) (ht : (pc : Int) + off = (tgt : Int)) (kk : Gq p l e R s m args below meth c G A nL cs sl Q tgt lv st w) : Gq p l e R s m args below meth c G A nL cs sl Q pc lv (.int x :: st) w := by
  subst hx
  rw [Bool.or_eq_false_iff, decide_eq_false_iff_not, decide_eq_false_iff_not] at hv
  exact fun H locs ls hP hD hS h => lv_tableIn C.1 C.2.1 hd hv.1 hv.2 ho ht (kk H locs ls hP hD hS h)
theorem go_tabOut (C : Cx p e s m args meth c G own cc nL ret A) {dflt lo hi : Int} {offs : Array Int} {len : Nat} {x : Int32} {tgt : Nat} (hd : decode cc pc = .ok (.tableswitch dflt lo hi offs, len)) (hx : x.toInt < lo ∨ hi < x.toInt) (ht : (pc : Int) + dflt = (tgt : Int)) (kk : Gq p l e R s m args below meth c G A nL cs sl Q tgt lv st w) : Gq p l e R s m args below meth c G A nL cs sl Q pc lv (.int x :: st) w :=
  fun H locs ls hP hD hS h => lv_tableOut C.1 C.2.1 hd hx ht (kk H locs ls hP hD hS h)
theorem go_look (C : Cx p e s m args meth c G own cc nL ret A) {dflt : Int} {ps : Array (Int × Int)} {len : Nat} {x : Int32} {off : Int} {tgt : Nat} (hd : decode cc pc = .ok (.lookupswitch dflt ps, len)) (hp : (ps.toList.zip (ps.toList.drop 1)).all (fun (a, next) => a.1 < next.1) = true) (ho : Op.lookupswitch.offset ps.toList dflt x.toInt = off) (ht : (pc : Int) + off = (tgt : Int)) (kk : Gq p l e R s m args below meth c G A nL cs sl Q tgt lv st w) : Gq p l e R s m args below meth c G A nL cs sl Q pc lv (.int x :: st) w :=
  fun H locs ls hP hD hS h => lv_lookup C.1 C.2.1 hd hp ho ht (kk H locs ls hP hD hS h)
/-- a field as one class's pool entry names it: class ci of the worlds' classes, its k-th field -/
def FF (own : String) (index ci k : Nat) : Prop := ∃ (Cn : String) (T : u_T) (N : Nat), vwCl[ci]? = some (Cn, T, N) ∧ (∀ x ∈ u_ws Cn T N, x ∈ wsL_law) ∧ k < N ∧ Cond.fieldLink own index (T k).1 (T k).2.1 (T k).2.2.1 ∈ wsL_law
/-- .. and that it may be written, with values of a type -/
def FP (own : String) (index ci k : Nat) (ty : FieldType) (fin : Bool) : Prop := ∃ (Cn : String) (T : u_T) (N : Nat) (ty0 : Nat → FieldType), vwCl[ci]? = some (Cn, T, N) ∧ (∀ x ∈ u_ws Cn T N, x ∈ wsL_law) ∧ k < N ∧ Cond.fieldLink own index (T k).1 (T k).2.1 (T k).2.2.1 ∈ wsL_law ∧ (∀ k, k < N → parseFieldDescriptor (T k).2.2.1 = some (ty0 k)) ∧ (∀ a, a < N → ∀ b, b < N → a ≠ b → (T a).2.1 ≠ (T b).2.1) ∧ (T k).2.2.2 = fin ∧ parseFieldDescriptor (T k).2.2.1 = some ty ∧ (T k).1 = own
theorem go_get (C : Cx p e s m args meth c G own cc nL ret A) {index ci k a : Nat} {fs : List Value} {v : Value} (F : FF own index ci k) (hd : decode cc pc = .ok (.getfield index, 3)) (q0 : Nat) (he : w[q0]? = some (a, .inr (ci, fs))) (hv : fs[k]? = some v) (kk : Gq p l e R s m args below meth c G A nL cs sl Q (pc + 3) lv (v :: st) w) : Gq p l e R s m args below meth c G A nL cs sl Q pc lv (.ref a :: st) w := by
  obtain ⟨Cn, T, N, h1, h2, h3, h4⟩ := F
  exact fun H locs ls hP hD hS h => va_get C.1 C.2.1 C.2.2.2.2.1 h2 C.2.2.2.1 C.2.2.2.2.2.1.1 hP q0 he h1 k h3 (C.2.2.2.2.1 _ h4) (fun _ h9 => h9) hv hd (kk H locs ls hP hD hS h)
theorem go_puti (C : Cx p e s m args meth c G own cc nL ret A) {index ci k a : Nat} {fs : List Value} {x : Int32} {w' : va_W} (F : FP own index ci k .int false) (hd : decode cc pc = .ok (.putfield index, 3)) (q0 : Nat) (he : w[q0]? = some (a, .inr (ci, fs))) (hl : k < fs.length) (hw : w.set q0 (a, .inr (ci, fs.set k (.int x))) = w') (kk : Gq p l e R s m args below meth c G A nL cs sl Q (pc + 3) lv st w') : Gq p l e R s m args below meth c G A nL cs sl Q pc lv (.int x :: .ref a :: st) w := by
  obtain ⟨Cn, T, N, ty0, h1, h2, h3, h4, h5, h6, h7, h8, -⟩ := F
  subst hw
  exact fun H locs ls hP hD hS h => va_put C.1 C.2.1 C.2.2.2.2.1 h2 ty0 h5 h6 C.2.2.2.1 C.2.2.2.2.2.1.1 hP hD hS q0 he h1 k h3 (C.2.2.2.2.1 _ h4) (fun _ h9 => h9) h7 h8 rfl rfl hl hd (fun H1 locs1 hP hD hS => kk H1 locs1 ls hP hD hS h)
theorem go_putl (C : Cx p e s m args meth c G own cc nL ret A) {index ci k a : Nat} {fs : List Value} {x : Int64} {w' : va_W} (F : FP own index ci k .long false) (hd : decode cc pc = .ok (.putfield index, 3)) (q0 : Nat) (he : w[q0]? = some (a, .inr (ci, fs))) (hl : k < fs.length) (hw : w.set q0 (a, .inr (ci, fs.set k (.long x))) = w') (kk : Gq p l e R s m args below meth c G A nL cs sl Q (pc + 3) lv st w') : Gq p l e R s m args below meth c G A nL cs sl Q pc lv (.long x :: .ref a :: st) w := by
  obtain ⟨Cn, T, N, ty0, h1, h2, h3, h4, h5, h6, h7, h8, -⟩ := F
  subst hw
  exact fun H locs ls hP hD hS h => va_put C.1 C.2.1 C.2.2.2.2.1 h2 ty0 h5 h6 C.2.2.2.1 C.2.2.2.2.2.1.1 hP hD hS q0 he h1 k h3 (C.2.2.2.2.1 _ h4) (fun _ h9 => h9) h7 h8 rfl rfl hl hd (fun H1 locs1 hP hD hS => kk H1 locs1 ls hP hD hS h)
theorem go_iaload (C : Cx p e s m args meth c G own cc nL ret A) {a n : Nat} {f : Nat → Int32} {i : Int32} (hd : decode cc pc = .ok (.iaload, 1)) (q0 : Nat) (ha : w[q0]? = some (a, .inl (gI G, n, .inl f))) (hi : tin i n = true) (kk : Gq p l e R s m args below meth c G A nL cs sl Q (pc + 1) lv (.int (f i.toNatClampNeg) :: st) w) : Gq p l e R s m args below meth c G A nL cs sl Q pc lv (.int i :: .ref a :: st) w :=
  fun H locs ls hP hD hS h => va_iald C.1 C.2.1 C.2.2.2.2.2.1.1 hP q0 1 ha rfl (tin_e hi) hd (kk H locs ls hP hD hS h)
theorem go_ialoadG (C : Cx p e s m args meth c G own cc nL ret A) {β : Type} {r : β} {t : Option β} {a n : Nat} {f : Nat → Int32} {i : Int32} (h : tgd (tin i n) t = some r) (hd : decode cc pc = .ok (.iaload, 1)) (q0 : Nat) (ha : w[q0]? = some (a, .inl (gI G, n, .inl f))) (kk : t = some r → Gq p l e R s m args below meth c G A nL cs sl Q (pc + 1) lv (.int (f i.toNatClampNeg) :: st) w) : Gq p l e R s m args below meth c G A nL cs sl Q pc lv (.int i :: .ref a :: st) w :=
  go_iaload C hd q0 ha (tgd_e h).1 (kk (tgd_e h).2)
theorem go_caload (C : Cx p e s m args meth c G own cc nL ret A) {a n : Nat} {f : Nat → Int32} {i : Int32} (hd : decode cc pc = .ok (.caload, 1)) (q0 : Nat) (ha : w[q0]? = some (a, .inl (gC G, n, .inl f))) (hi : tin i n = true) (kk : Gq p l e R s m args below meth c G A nL cs sl Q (pc + 1) lv (.int (f i.toNatClampNeg) :: st) w) : Gq p l e R s m args below meth c G A nL cs sl Q pc lv (.int i :: .ref a :: st) w :=
  fun H locs ls hP hD hS h => va_cald C.1 C.2.1 C.2.2.2.2.2.1.1 hP q0 0 ha rfl (tin_e hi) hd (kk H locs ls hP hD hS h)
theorem go_caloadG (C : Cx p e s m args meth c G own cc nL ret A) {β : Type} {r : β} {t : Option β} {a n : Nat} {f : Nat → Int32} {i : Int32} (h : tgd (tin i n) t = some r) (hd : decode cc pc = .ok (.caload, 1)) (q0 : Nat) (ha : w[q0]? = some (a, .inl (gC G, n, .inl f))) (kk : t = some r → Gq p l e R s m args below meth c G A nL cs sl Q (pc + 1) lv (.int (f i.toNatClampNeg) :: st) w) : Gq p l e R s m args below meth c G A nL cs sl Q pc lv (.int i :: .ref a :: st) w :=
  go_caload C hd q0 ha (tgd_e h).1 (kk (tgd_e h).2)
theorem go_zaload (C : Cx p e s m args meth c G own cc nL ret A) {a n : Nat} {f : Nat → Int32} {i : Int32} (hd : decode cc pc = .ok (.baload, 1)) (q0 : Nat) (ha : w[q0]? = some (a, .inl (gZ G, n, .inl f))) (hi : tin i n = true) (kk : Gq p l e R s m args below meth c G A nL cs sl Q (pc + 1) lv (.int (f i.toNatClampNeg) :: st) w) : Gq p l e R s m args below meth c G A nL cs sl Q pc lv (.int i :: .ref a :: st) w :=
  fun H locs ls hP hD hS h => va_zald C.1 C.2.1 C.2.2.2.2.2.1.1 hP q0 3 ha rfl (tin_e hi) hd (kk H locs ls hP hD hS h)
theorem go_zaloadG (C : Cx p e s m args meth c G own cc nL ret A) {β : Type} {r : β} {t : Option β} {a n : Nat} {f : Nat → Int32} {i : Int32} (h : tgd (tin i n) t = some r) (hd : decode cc pc = .ok (.baload, 1)) (q0 : Nat) (ha : w[q0]? = some (a, .inl (gZ G, n, .inl f))) (kk : t = some r → Gq p l e R s m args below meth c G A nL cs sl Q (pc + 1) lv (.int (f i.toNatClampNeg) :: st) w) : Gq p l e R s m args below meth c G A nL cs sl Q pc lv (.int i :: .ref a :: st) w :=
  go_zaload C hd q0 ha (tgd_e h).1 (kk (tgd_e h).2)
theorem go_laload (C : Cx p e s m args meth c G own cc nL ret A) {a n : Nat} {f : Nat → Int64} {i : Int32} (hd : decode cc pc = .ok (.laload, 1)) (q0 : Nat) (ha : w[q0]? = some (a, .inl (gJ G, n, .inr (.inl f)))) (hi : tin i n = true) (kk : Gq p l e R s m args below meth c G A nL cs sl Q (pc + 1) lv (.long (f i.toNatClampNeg) :: st) w) : Gq p l e R s m args below meth c G A nL cs sl Q pc lv (.int i :: .ref a :: st) w :=
  fun H locs ls hP hD hS h => va_lald C.1 C.2.1 C.2.2.2.2.2.1.1 hP q0 2 ha rfl (tin_e hi) hd (kk H locs ls hP hD hS h)
theorem go_laloadG (C : Cx p e s m args meth c G own cc nL ret A) {β : Type} {r : β} {t : Option β} {a n : Nat} {f : Nat → Int64} {i : Int32} (h : tgd (tin i n) t = some r) (hd : decode cc pc = .ok (.laload, 1)) (q0 : Nat) (ha : w[q0]? = some (a, .inl (gJ G, n, .inr (.inl f)))) (kk : t = some r → Gq p l e R s m args below meth c G A nL cs sl Q (pc + 1) lv (.long (f i.toNatClampNeg) :: st) w) : Gq p l e R s m args below meth c G A nL cs sl Q pc lv (.int i :: .ref a :: st) w :=
  go_laload C hd q0 ha (tgd_e h).1 (kk (tgd_e h).2)
theorem go_iastore (C : Cx p e s m args meth c G own cc nL ret A) {a n : Nat} {f : Nat → Int32} {i : Int32} {x : Int32} {w' : va_W} (hd : decode cc pc = .ok (.iastore, 1)) (q0 : Nat) (ha : w[q0]? = some (a, .inl (gI G, n, .inl f))) (hi : tin i n = true) (hw : w.set q0 (a, .inl (gI G, n, .inl (upd f i.toNatClampNeg x))) = w') (kk : Gq p l e R s m args below meth c G A nL cs sl Q (pc + 1) lv st w') : Gq p l e R s m args below meth c G A nL cs sl Q pc lv (.int x :: .int i :: .ref a :: st) w := by
  subst hw
  exact fun H locs ls hP hD hS h => va_iast C.1 C.2.1 C.2.2.2.2.2.1.1 hP hD hS q0 1 ha rfl (tin_e hi) hd (fun H1 locs1 hP hD hS => kk H1 locs1 ls hP hD hS h)
theorem go_iastoreG (C : Cx p e s m args meth c G own cc nL ret A) {β : Type} {r : β} {t : Option β} {a n : Nat} {f : Nat → Int32} {i : Int32} {x : Int32} {w' : va_W} (h : tgd (tin i n) t = some r) (hd : decode cc pc = .ok (.iastore, 1)) (q0 : Nat) (ha : w[q0]? = some (a, .inl (gI G, n, .inl f))) (hw : w.set q0 (a, .inl (gI G, n, .inl (upd f i.toNatClampNeg x))) = w') (kk : t = some r → Gq p l e R s m args below meth c G A nL cs sl Q (pc + 1) lv st w') : Gq p l e R s m args below meth c G A nL cs sl Q pc lv (.int x :: .int i :: .ref a :: st) w :=
  go_iastore C hd q0 ha (tgd_e h).1 hw (kk (tgd_e h).2)
theorem go_castore (C : Cx p e s m args meth c G own cc nL ret A) {a n : Nat} {f : Nat → Int32} {i : Int32} {x : Int32} {w' : va_W} (hd : decode cc pc = .ok (.castore, 1)) (q0 : Nat) (ha : w[q0]? = some (a, .inl (gC G, n, .inl f))) (hi : tin i n = true) (hw : w.set q0 (a, .inl (gC G, n, .inl (upd f i.toNatClampNeg (vp_nar .char x)))) = w') (kk : Gq p l e R s m args below meth c G A nL cs sl Q (pc + 1) lv st w') : Gq p l e R s m args below meth c G A nL cs sl Q pc lv (.int x :: .int i :: .ref a :: st) w := by
  subst hw
  exact fun H locs ls hP hD hS h => va_cast C.1 C.2.1 C.2.2.2.2.2.1.1 hP hD hS q0 0 ha rfl (tin_e hi) hd (fun H1 locs1 hP hD hS => kk H1 locs1 ls hP hD hS h)
theorem go_castoreG (C : Cx p e s m args meth c G own cc nL ret A) {β : Type} {r : β} {t : Option β} {a n : Nat} {f : Nat → Int32} {i : Int32} {x : Int32} {w' : va_W} (h : tgd (tin i n) t = some r) (hd : decode cc pc = .ok (.castore, 1)) (q0 : Nat) (ha : w[q0]? = some (a, .inl (gC G, n, .inl f))) (hw : w.set q0 (a, .inl (gC G, n, .inl (upd f i.toNatClampNeg (vp_nar .char x)))) = w') (kk : t = some r → Gq p l e R s m args below meth c G A nL cs sl Q (pc + 1) lv st w') : Gq p l e R s m args below meth c G A nL cs sl Q pc lv (.int x :: .int i :: .ref a :: st) w :=
  go_castore C hd q0 ha (tgd_e h).1 hw (kk (tgd_e h).2)
theorem go_zastore (C : Cx p e s m args meth c G own cc nL ret A) {a n : Nat} {f : Nat → Int32} {i : Int32} {x : Int32} {w' : va_W} (hd : decode cc pc = .ok (.bastore, 1)) (q0 : Nat) (ha : w[q0]? = some (a, .inl (gZ G, n, .inl f))) (hi : tin i n = true) (hw : w.set q0 (a, .inl (gZ G, n, .inl (upd f i.toNatClampNeg (vp_nar .boolean x)))) = w') (kk : Gq p l e R s m args below meth c G A nL cs sl Q (pc + 1) lv st w') : Gq p l e R s m args below meth c G A nL cs sl Q pc lv (.int x :: .int i :: .ref a :: st) w := by
  subst hw
  exact fun H locs ls hP hD hS h => va_zast C.1 C.2.1 C.2.2.2.2.2.1.1 hP hD hS q0 3 ha rfl (tin_e hi) hd (fun H1 locs1 hP hD hS => kk H1 locs1 ls hP hD hS h)
theorem go_zastoreG (C : Cx p e s m args meth c G own cc nL ret A) {β : Type} {r : β} {t : Option β} {a n : Nat} {f : Nat → Int32} {i : Int32} {x : Int32} {w' : va_W} (h : tgd (tin i n) t = some r) (hd : decode cc pc = .ok (.bastore, 1)) (q0 : Nat) (ha : w[q0]? = some (a, .inl (gZ G, n, .inl f))) (hw : w.set q0 (a, .inl (gZ G, n, .inl (upd f i.toNatClampNeg (vp_nar .boolean x)))) = w') (kk : t = some r → Gq p l e R s m args below meth c G A nL cs sl Q (pc + 1) lv st w') : Gq p l e R s m args below meth c G A nL cs sl Q pc lv (.int x :: .int i :: .ref a :: st) w :=
  go_zastore C hd q0 ha (tgd_e h).1 hw (kk (tgd_e h).2)
theorem go_lastore (C : Cx p e s m args meth c G own cc nL ret A) {a n : Nat} {f : Nat → Int64} {i : Int32} {x : Int64} {w' : va_W} (hd : decode cc pc = .ok (.lastore, 1)) (q0 : Nat) (ha : w[q0]? = some (a, .inl (gJ G, n, .inr (.inl f)))) (hi : tin i n = true) (hw : w.set q0 (a, .inl (gJ G, n, .inr (.inl (vp_updL f i.toNatClampNeg x)))) = w') (kk : Gq p l e R s m args below meth c G A nL cs sl Q (pc + 1) lv st w') : Gq p l e R s m args below meth c G A nL cs sl Q pc lv (.long x :: .int i :: .ref a :: st) w := by
  subst hw
  exact fun H locs ls hP hD hS h => va_last C.1 C.2.1 C.2.2.2.2.2.1.1 hP hD hS q0 2 ha rfl (tin_e hi) hd (fun H1 locs1 hP hD hS => kk H1 locs1 ls hP hD hS h)
theorem go_lastoreG (C : Cx p e s m args meth c G own cc nL ret A) {β : Type} {r : β} {t : Option β} {a n : Nat} {f : Nat → Int64} {i : Int32} {x : Int64} {w' : va_W} (h : tgd (tin i n) t = some r) (hd : decode cc pc = .ok (.lastore, 1)) (q0 : Nat) (ha : w[q0]? = some (a, .inl (gJ G, n, .inr (.inl f)))) (hw : w.set q0 (a, .inl (gJ G, n, .inr (.inl (vp_updL f i.toNatClampNeg x)))) = w') (kk : t = some r → Gq p l e R s m args below meth c G A nL cs sl Q (pc + 1) lv st w') : Gq p l e R s m args below meth c G A nL cs sl Q pc lv (.long x :: .int i :: .ref a :: st) w :=
  go_lastore C hd q0 ha (tgd_e h).1 hw (kk (tgd_e h).2)
theorem go_iret (C : Cx p e s m args meth c G own cc nL (some .int) A) {x : Int32} {r : Option Value} {w' : va_W} (hd : decode cc pc = .ok (.ireturn, 1)) (hr : r = some (.int x)) (hw : w = w') : Gq p l e R s m args below meth c G A nL cs sl (MQ below (QK G r w' A) args s cs sl A) pc lv [.int x] w := by
  subst hr; subst hw
  have hlocks := C.2.2.2.2.2.2.2.2
  exact fun H locs ls hP hD hS h => W.iret C.1 C.2.1 C.2.2.2.2.2.2.2.1 (fun t ht hW => ⟨⟨rfl, by rw [ht]; exact hP, hD⟩, hS.F ht⟩) hS.2.2 hd
theorem go_lret (C : Cx p e s m args meth c G own cc nL (some .long) A) {x : Int64} {r : Option Value} {w' : va_W} (hd : decode cc pc = .ok (.lreturn, 1)) (hr : r = some (.long x)) (hw : w = w') : Gq p l e R s m args below meth c G A nL cs sl (MQ below (QK G r w' A) args s cs sl A) pc lv [.long x] w := by
  subst hr; subst hw
  have hlocks := C.2.2.2.2.2.2.2.2
  exact fun H locs ls hP hD hS h => W.lret C.1 C.2.1 C.2.2.2.2.2.2.2.1 (fun t ht hW => ⟨⟨rfl, by rw [ht]; exact hP, hD⟩, hS.F ht⟩) hS.2.2 hd
theorem go_zret (C : Cx p e s m args meth c G own cc nL (some .boolean) A) {x : Int32} {r : Option Value} {w' : va_W} (hd : decode cc pc = .ok (.ireturn, 1)) (hx : tbl x = true) (hr : r = some (.int x)) (hw : w = w') : Gq p l e R s m args below meth c G A nL cs sl (MQ below (QK G r w' A) args s cs sl A) pc lv [.int x] w := by
  subst hr; subst hw
  have hlocks := C.2.2.2.2.2.2.2.2
  have hn : narrow .boolean (.int x) = .int x := by
    rcases of_decide_eq_true hx with rfl | rfl <;> rfl
  exact fun H locs ls hP hD hS h => W.zret C.1 C.2.1 C.2.2.2.2.2.2.2.1 hn (fun t ht hW => ⟨⟨rfl, by rw [ht]; exact hP, hD⟩, hS.F ht⟩) hS.2.2 hd
theorem go_cret (C : Cx p e s m args meth c G own cc nL (some .char) A) {x : Int32} {r : Option Value} {w' : va_W} (hd : decode cc pc = .ok (.ireturn, 1)) (hx : tch x = true) (hr : r = some (.int x)) (hw : w = w') : Gq p l e R s m args below meth c G A nL cs sl (MQ below (QK G r w' A) args s cs sl A) pc lv [.int x] w := by
  subst hr; subst hw
  have hlocks := C.2.2.2.2.2.2.2.2
  exact fun H locs ls hP hD hS h => W.zret C.1 C.2.1 C.2.2.2.2.2.2.2.1 (of_decide_eq_true hx) (fun t ht hW => ⟨⟨rfl, by rw [ht]; exact hP, hD⟩, hS.F ht⟩) hS.2.2 hd
theorem go_vret (C : Cx p e s m args meth c G own cc nL none A) {r : Option Value} {w' : va_W} (hd : decode cc pc = .ok (.return_, 1)) (hr : r = none) (hw : w = w') : Gq p l e R s m args below meth c G A nL cs sl (MQ below (QK G r w' A) args s cs sl A) pc lv [] w := by
  subst hr; subst hw
  have hlocks := C.2.2.2.2.2.2.2.2
  exact fun H locs ls hP hD hS h => W.vret C.1 C.2.1 C.2.2.2.2.2.2.2.1 (fun t ht hW => ⟨⟨rfl, by rw [ht]; exact hP, hD⟩, hS.F ht⟩) hS.2.2 hd
theorem go_aret {cn : String} (C : Cx p e s m args meth c G own cc nL (some (.object cn)) A) {a : Nat} {r : Option Value} {w' : va_W} (hd : decode cc pc = .ok (.areturn, 1)) (hr : r = some (.ref a)) (hw : w = w') : Gq p l e R s m args below meth c G A nL cs sl (MQ below (QK G r w' A) args s cs sl A) pc lv [.ref a] w := by
  subst hr; subst hw
  have hlocks := C.2.2.2.2.2.2.2.2
  exact fun H locs ls hP hD hS h => W.aret C.1 C.2.1 C.2.2.2.2.2.2.2.1 (Or.inl ⟨_, rfl⟩) (Or.inr ⟨_, rfl⟩) (fun t ht hW => ⟨⟨rfl, by rw [ht]; exact hP, hD⟩, hS.F ht⟩) hS.2.2 hd
theorem go_mmin (C : Cx p e s m args meth c G own cc nL ret A) {index : Nat} {x y : Int32} (F : Cond.methodLink own index Lib.Math.min.name ∈ wsL_law ∧ Cond.static Lib.Math.min.name ∈ wsL_law ∧ Cond.initialized "java/lang/Math" ∈ wsL_law ∧ Cond.code Lib.Math.min.name Lib.Math.min.code 2 (some .int) ∈ wsL_law) (hd : decode cc pc = .ok (.invokestatic index, 3)) (hf : 1 ≤ R.frames) (hlo : (st.map fun v => v.category).sum + 13 ≤ R.locals) (hc : cs ≤ R.cells) (hs : sl ≤ R.slots) (kk : Gq p l e R s m args below meth c G A nL cs sl Q (pc + 3) lv (.int (imin x y) :: st) w) : Gq p l e R s m args below meth c G A nL cs sl Q pc lv (.int y :: .int x :: st) w :=
  fun H locs ls hP hD hS h => va_mmin C.1 C.2.1 (by rw [C.2.2.1]; exact h.1.symm) C.2.2.2.1 (C.2.2.2.2.1 _ F.1) (C.2.2.2.2.1 _ F.2.1) (C.2.2.2.2.1 _ F.2.2.1) (C.2.2.2.2.1 _ F.2.2.2) hf hlo hc hs hd (kk H locs ls hP hD hS h)
theorem go_mmax (C : Cx p e s m args meth c G own cc nL ret A) {index : Nat} {x y : Int32} (F : Cond.methodLink own index Lib.Math.max.name ∈ wsL_law ∧ Cond.static Lib.Math.max.name ∈ wsL_law ∧ Cond.initialized "java/lang/Math" ∈ wsL_law ∧ Cond.code Lib.Math.max.name Lib.Math.max.code 2 (some .int) ∈ wsL_law) (hd : decode cc pc = .ok (.invokestatic index, 3)) (hf : 1 ≤ R.frames) (hlo : (st.map fun v => v.category).sum + 13 ≤ R.locals) (hc : cs ≤ R.cells) (hs : sl ≤ R.slots) (kk : Gq p l e R s m args below meth c G A nL cs sl Q (pc + 3) lv (.int (imax x y) :: st) w) : Gq p l e R s m args below meth c G A nL cs sl Q pc lv (.int y :: .int x :: st) w :=
  fun H locs ls hP hD hS h => va_mmax C.1 C.2.1 (by rw [C.2.2.1]; exact h.1.symm) C.2.2.2.1 (C.2.2.2.2.1 _ F.1) (C.2.2.2.2.1 _ F.2.1) (C.2.2.2.2.1 _ F.2.2.1) (C.2.2.2.2.1 _ F.2.2.2) hf hlo hc hs hd (kk H locs ls hP hD hS h)
theorem go_mabs (C : Cx p e s m args meth c G own cc nL ret A) {index : Nat} {x : Int32} (F : Cond.methodLink own index Lib.Math.abs.name ∈ wsL_law ∧ Cond.static Lib.Math.abs.name ∈ wsL_law ∧ Cond.initialized "java/lang/Math" ∈ wsL_law ∧ Cond.code Lib.Math.abs.name Lib.Math.abs.code 1 (some .int) ∈ wsL_law) (hd : decode cc pc = .ok (.invokestatic index, 3)) (hf : 1 ≤ R.frames) (hlo : (st.map fun v => v.category).sum + 13 ≤ R.locals) (hc : cs ≤ R.cells) (hs : sl ≤ R.slots) (kk : Gq p l e R s m args below meth c G A nL cs sl Q (pc + 3) lv (.int (iabs x) :: st) w) : Gq p l e R s m args below meth c G A nL cs sl Q pc lv (.int x :: st) w :=
  fun H locs ls hP hD hS h => va_mabs C.1 C.2.1 (by rw [C.2.2.1]; exact h.1.symm) C.2.2.2.1 (C.2.2.2.2.1 _ F.1) (C.2.2.2.2.1 _ F.2.1) (C.2.2.2.2.1 _ F.2.2.1) (C.2.2.2.2.1 _ F.2.2.2) hf hlo hc hs hd (kk H locs ls hP hD hS h)
theorem go_copyi (C : Cx p e s m args meth c G own cc nL ret A) {index : Nat} {a a0 n n0 n1 : Nat} {f g : Nat → Int32} {i : Int32} {w' : va_W} (F : Cond.methodLink own index arraycopyName ∈ wsL_law ∧ Cond.native arraycopyName ∈ wsL_law ∧ Cond.static arraycopyName ∈ wsL_law ∧ Cond.initialized "java/lang/System" ∈ wsL_law) (hd : decode cc pc = .ok (.invokestatic index, 3)) (q0 q1 : Nat) (ha0 : w[q0]? = some (a0, .inl (gI G, n0, .inl f))) (ha1 : w[q1]? = some (a, .inl (gI G, n1, .inl g))) (hi : ¬ i < 0 ∧ i.toNatClampNeg = n ∧ n ≤ n0 ∧ n ≤ n1) (hf : 1 ≤ R.frames) (hlo : (st.map fun v => v.category).sum + (nativeFrameWords "java/lang/System" "arraycopy" 5 + 11) ≤ R.locals) (hw : w.set q1 (a, .inl (gI G, n1, .inl (va_cpy f g 0 0 n))) = w') (kk : Gq p l e R s m args below meth c G A nL cs sl Q (pc + 3) lv st w') : Gq p l e R s m args below meth c G A nL cs sl Q pc lv (.int i :: .int 0 :: .ref a :: .int 0 :: .ref a0 :: st) w := by
  obtain ⟨h1, h2, h3, h4⟩ := hi
  subst h2; subst hw
  exact fun H locs ls hP hD hS h => va_copyi C.1 C.2.1 (by rw [C.2.2.1]; exact h.1.symm) C.2.2.2.1 (C.2.2.2.2.1 _ F.1) (C.2.2.2.2.1 _ F.2.1) (C.2.2.2.2.1 _ F.2.2.1) (C.2.2.2.2.1 _ F.2.2.2) C.2.2.2.2.2.1.1 hP hD hS q0 q1 1 1 ha0 ha1 rfl rfl rfl (by decide) (by decide) h1 (by show 0 + _ ≤ _; omega) (by show 0 + _ ≤ _; omega) (fun _ _ => rfl) hf hlo hd (fun H1 locs1 hP hD hS => kk H1 locs1 ls hP hD hS h)
end
end
section
/-! calls: by contract, the rest of the world beside it -/
def CfB (own : String) (idx : Nat) (y : MethodName) (cy : ByteArray) (ny : Nat) (rt : Option FieldType) (np : Nat) : Prop :=
  Cond.methodLink own idx y ∈ wsL_law ∧ Cond.initialized y.cls ∈ wsL_law ∧ Cond.code y cy ny rt ∈ wsL_law ∧ (y.cls ≠ "java/lang/invoke/MethodHandle" ∧ y.cls ≠ "java/lang/invoke/VarHandle" ∧ (parseMethodDescriptor y.desc).map (fun d => d.parameters.length) = some np)
def CfN (own : String) (idx : Nat) (y : MethodName) (cy : ByteArray) (ny : Nat) (rt : Option FieldType) (np : Nat) : Prop :=
  (own, idx, y) ∈ nwl ∧ Cond.initialized y.cls ∈ wsL_law ∧ Cond.code y cy ny rt ∈ wsL_law ∧ (y.cls ≠ "java/lang/invoke/MethodHandle" ∧ y.cls ≠ "java/lang/invoke/VarHandle" ∧ (parseMethodDescriptor y.desc).map (fun d => d.parameters.length) = some np)
section
variable {p : Program} {l : Launch} {e : Env} {R : Room} {s : State} {m : MethodId} {args : Array Value} {below : List Frame} {meth : Method} {c : Code} {G : gG} {A : Nat → Prop} {own : String} {cc : ByteArray} {nL cs sl : Nat} {ret : Option FieldType} {Q : State → Prop} {pc : Nat} {lv : List (Nat × Value)} {st st0 : List Value} {w : va_W}
  {y : MethodName} {cy : ByteArray} {ny : Nat} {rt : Option FieldType} {np fr lo idx : Nat} {av : List Value} {wc w1 wr w' : va_W} {v : Option Value}
/-- behind a call that meets a contract: any part of the world is the callee's, the rest stays; isW: the order in which the world goes on -/
theorem go_run (C : Cx p e s m args meth c G own cc nL ret A) {a : Array Value} (isC isR isW : List Nat) (hC : isC.map (fun i => w[i]?) = wc.map some) (hR : isR.map (fun i => w[i]?) = wr.map some) (hn : (va_nd isC && va_nd isR && va_nd isW && isR.all (fun i => !(isC.contains i))) = true) (hW : isW.map (fun i => (wr ++ w1)[i]?) = w'.map some)
    (hr : ∀ (H : Heap) (locs : List Loc) (ls : Array Slot), va_P G.1 vwCl w H → lv_has ls nL lv → va_P G.1 vwCl wc H → va_D (fun _ => True) wc → va_Run p l e R s m args below meth c H locs cs sl 0 0 (F0 m pc ls st0) st (QK G v w1 (va_A wc H.size) a) (va_A wc H.size))
    (kk : Gq p l e R s m args below meth c G A nL cs sl Q (pc + 3) lv (v.toList ++ st) w') : Gq p l e R s m args below meth c G A nL cs sl Q pc lv st0 w := by
  intro H locs ls hP hD hS hl
  simp only [Bool.and_eq_true, List.all_eq_true, Bool.not_eq_true', List.contains_eq_mem, decide_eq_false_iff_not] at hn
  obtain ⟨⟨⟨n1, n2⟩, n3⟩, n4⟩ := hn
  have hPc := hP.sub (ws' := wc) isC (fm_of hC)
  have hDc := hD.sub (ws' := wc) isC n1 hC
  have hFc := va_free (wc := wc) hD hS C.2.2.2.2.2.2.1 isC hC
  intro T hT X
  obtain ⟨v', st₀, t, T', L, h0, X', hL, e1, e2, ⟨⟨hv, hP1, hD1⟩, hz, hk⟩, stp⟩ := hr H locs ls hP hl hPc (hDc.weaken (fun _ _ _ _ => trivial)) T hT X
  cases hv
  rw [h0] at hz hk
  obtain ⟨hP2, hD2⟩ := va_join hP hD isC isR hC hR n2 n4 hk hFc hP1 hD1
  rw [← e1] at hP2 hz hk
  have hS2 : va_S A s.heap T'.heap (locs ++ L) := ⟨Nat.le_trans hS.1 hz, fun q h1 h2 => by rw [hk q (Nat.lt_of_lt_of_le h1 hS.1) (fun z => h2 (hFc q z))]; exact hS.2.1 q h1 h2, fun q hq => by
      rcases List.mem_append.mp hq with h | h
      · exact hS.2.2 q h
      · exact hFc _ (hL q h)⟩
  obtain ⟨t2, a1, b1⟩ := kk T'.heap (locs ++ L) ls (hP2.sub isW (fm_of hW)) (hD2.sub isW n3 hW) hS2 hl T' rfl X'
  exact ⟨t2, stp t2 a1, b1⟩
/-- a call that needs no cell -/
theorem go_run0 {a : Array Value}
    (hr : ∀ (H : Heap) (locs : List Loc) (ls : Array Slot), lv_has ls nL lv → va_Run p l e R s m args below meth c H locs cs sl 0 0 (F0 m pc ls st0) st (QK G v [] (va_A [] H.size) a) (va_A [] H.size)) (C : Cx p e s m args meth c G own cc nL ret A)
    (kk : Gq p l e R s m args below meth c G A nL cs sl Q (pc + 3) lv (v.toList ++ st) w) : Gq p l e R s m args below meth c G A nL cs sl Q pc lv st0 w := by
  intro H locs ls hP hD hS hl T hT X
  obtain ⟨v', st₀, t, T', L, h0, X', hL, e1, e2, ⟨⟨hv, hP1, hD1⟩, hz, hk⟩, stp⟩ := hr H locs ls hl T hT X
  cases hv
  rw [h0] at hz hk
  rw [← e1] at hz hk
  have hno : ∀ q, q < H.size → ¬ va_A [] H.size q := by
    intro q hq h
    rcases h with ⟨k, x, h⟩ | h
    · simp at h
    · omega
  have hkeep : ∀ q, q < H.size → T'.heap[q]? = H[q]? := fun q hq => hk q hq (hno q hq)
  have hge : ∀ q, va_A [] H.size q → A q := by
    intro q h
    rcases h with ⟨k, x, h⟩ | h
    · simp at h
    · exact C.2.2.2.2.2.2.1 q (Nat.le_trans hS.1 h)
  have hP2 : va_P G.1 vwCl w T'.heap := hP.kept (fun k q hq => hkeep q.1 ((hP k q hq).lt))
  have hS2 : va_S A s.heap T'.heap (locs ++ L) := ⟨Nat.le_trans hS.1 hz, fun q h1 h2 => by rw [hkeep q (Nat.lt_of_lt_of_le h1 hS.1)]; exact hS.2.1 q h1 h2, fun q hq => by
      rcases List.mem_append.mp hq with h | h
      · exact hS.2.2 q h
      · exact hge _ (hL q h)⟩
  obtain ⟨t2, a1, b1⟩ := kk T'.heap (locs ++ L) ls hP2 hD hS2 hl T' rfl X'
  exact ⟨t2, stp t2 a1, b1⟩
theorem cfB_run (C : Cx p e s m args meth c G own cc nL ret A) (F : CfB own idx y cy ny rt np) (hR : fr + 1 ≤ R.frames ∧ 8 + (ny + 11) + lo ≤ R.locals) : CallB R s args own idx y cy ny rt (wq y cy ny rt) (rq fr lo) 0 0 np :=
  callB_of np C.2.2.2.2.1 (wq_in F.2.2.1) rfl rfl rfl (C.2.2.2.2.1 _ F.2.1) (C.2.2.2.2.1 _ F.1) F.2.2.2 hR
theorem cfN_run (C : Cx p e s m args meth c G own cc nL ret A) (F : CfN own idx y cy ny rt np) (hR : fr + 1 ≤ R.frames ∧ 8 + (ny + 11) + lo ≤ R.locals) : va_CN R s args own idx y RX9 cy ny rt (wq y cy ny rt) (rq fr lo) 0 0 np :=
  va_cnB np C.2.2.2.2.1 (wq_in F.2.2.1) rfl rfl rfl (C.2.2.2.2.2.1.2 _ F.1) (C.2.2.2.2.1 _ F.2.1) F.2.2.2 hR
/-- a static method, no cell -/
theorem go_callS0 (C : Cx p e s m args meth c G own cc nL ret A) (F : CfB own idx y cy ny rt np) (hs : Cond.static y ∈ wsL_law) (K : KK l G y cy ny rt fr lo av [] v []) (hd : decode cc pc = .ok (.invokestatic idx, 3)) (hR : fr + 1 ≤ R.frames ∧ 8 + (ny + 11) + lo ≤ R.locals) (hc : cs ≤ R.cells ∧ sl ≤ R.slots) (ha : av.length = np) (hst : st0 = av.reverse ++ st) (hro : (st.map fun v => v.category).sum ≤ 8)
    (kk : Gq p l e R s m args below meth c G A nL cs sl Q (pc + 3) lv (v.toList ++ st) w) : Gq p l e R s m args below meth c G A nL cs sl Q pc lv st0 w :=
  go_run0 (fun H locs ls hl => va_runS ⟨C.1, C.2.1, C.2.2.1, C.2.2.2.1, C.2.2.2.2.1⟩ (K H.size) ⟨cfB_run C F hR, C.2.2.2.2.1 _ hs⟩ ⟨Pk_blind, fun U hU hW => ⟨rfl, by rw [hU], fun k q h => by simp at h, C.2.2.2.2.2.1.warm hW, ⟨fun i j x y h => by simp at h, fun k q h => by simp at h⟩⟩⟩ rfl ha hl.1 hst (lv_room hro) hd hc) C kk
theorem go_callSN0 (C : Cx p e s m args meth c G own cc nL ret A) (F : CfN own idx y cy ny rt np) (hs : Cond.static y ∈ wsL_law) (K : KK l G y cy ny rt fr lo av [] v []) (hd : decode cc pc = .ok (.invokestatic idx, 3)) (hR : fr + 1 ≤ R.frames ∧ 8 + (ny + 11) + lo ≤ R.locals) (hc : cs ≤ R.cells ∧ sl ≤ R.slots) (ha : av.length = np) (hst : st0 = av.reverse ++ st) (hro : (st.map fun v => v.category).sum ≤ 8)
    (kk : Gq p l e R s m args below meth c G A nL cs sl Q (pc + 3) lv (v.toList ++ st) w) : Gq p l e R s m args below meth c G A nL cs sl Q pc lv st0 w :=
  go_run0 (fun H locs ls hl => va_runSN ⟨C.1, C.2.1, C.2.2.1, C.2.2.2.1, C.2.2.2.2.1⟩ (K H.size) ⟨cfN_run C F hR, C.2.2.2.2.1 _ hs, trivial⟩ ⟨Pk_blind, fun U hU hW => ⟨rfl, by rw [hU], fun k q h => by simp at h, C.2.2.2.2.2.1.warm hW, ⟨fun i j x y h => by simp at h, fun k q h => by simp at h⟩⟩⟩ rfl ha hl.1 hst (lv_room hro) hd hc) C kk
/-- a static method over some cells -/
theorem go_callS (C : Cx p e s m args meth c G own cc nL ret A) (F : CfB own idx y cy ny rt np) (hs : Cond.static y ∈ wsL_law) (K : KK l G y cy ny rt fr lo av wc v w1) (hd : decode cc pc = .ok (.invokestatic idx, 3)) (hR : fr + 1 ≤ R.frames ∧ 8 + (ny + 11) + lo ≤ R.locals) (hc : cs ≤ R.cells ∧ sl ≤ R.slots) (ha : av.length = np) (hst : st0 = av.reverse ++ st) (hro : (st.map fun v => v.category).sum ≤ 8)
    (isC isR isW : List Nat) (hC : isC.map (fun i => w[i]?) = wc.map some) (hRr : isR.map (fun i => w[i]?) = wr.map some) (hn : (va_nd isC && va_nd isR && va_nd isW && isR.all (fun i => !(isC.contains i))) = true) (hW : isW.map (fun i => (wr ++ w1)[i]?) = w'.map some)
    (kk : Gq p l e R s m args below meth c G A nL cs sl Q (pc + 3) lv (v.toList ++ st) w') : Gq p l e R s m args below meth c G A nL cs sl Q pc lv st0 w :=
  go_run C isC isR isW hC hRr hn hW (fun H locs ls hP hl hPc hDc => va_runS ⟨C.1, C.2.1, C.2.2.1, C.2.2.2.1, C.2.2.2.2.1⟩ (K H.size) ⟨cfB_run C F hR, C.2.2.2.2.1 _ hs⟩ ⟨Pk_blind, fun U hU hW => ⟨rfl, by rw [hU], by rw [hU]; exact hPc, C.2.2.2.2.2.1.warm hW, hDc⟩⟩ rfl ha hl.1 hst (lv_room hro) hd hc) kk
/-- a method of an object -/
theorem go_callV (C : Cx p e s m args meth c G own cc nL ret A) (F : CfB own idx y cy ny rt np) {b ci q0 : Nat} {fs : List Value} {Cn : String} {T : u_T} {N : Nat} (hi : Cond.instanceMethod y ∈ wsL_law ∧ Cond.selects Cn y y ∈ wsL_law ∧ vwCl[ci]? = some (Cn, T, N)) (K : KK l G y cy ny rt fr lo (.ref b :: av) wc v w1) (hd : decode cc pc = .ok (.invokevirtual idx, 3)) (hR : fr + 1 ≤ R.frames ∧ 8 + (ny + 11) + lo ≤ R.locals) (hc : cs ≤ R.cells ∧ sl ≤ R.slots) (ha : av.length = np) (hst : st0 = av.reverse ++ .ref b :: st) (hro : (st.map fun v => v.category).sum ≤ 8) (hq : w[q0]? = some (b, .inr (ci, fs)))
    (isC isR isW : List Nat) (hC : isC.map (fun i => w[i]?) = wc.map some) (hRr : isR.map (fun i => w[i]?) = wr.map some) (hn : (va_nd isC && va_nd isR && va_nd isW && isR.all (fun i => !(isC.contains i))) = true) (hW : isW.map (fun i => (wr ++ w1)[i]?) = w'.map some)
    (kk : Gq p l e R s m args below meth c G A nL cs sl Q (pc + 3) lv (v.toList ++ st) w') : Gq p l e R s m args below meth c G A nL cs sl Q pc lv st0 w :=
  go_run C isC isR isW hC hRr hn hW (fun H locs ls hP hl hPc hDc => va_runV ⟨C.1, C.2.1, C.2.2.1, C.2.2.2.1, C.2.2.2.2.1⟩ (K H.size) ⟨cfB_run C F hR, C.2.2.2.2.1 _ hi.1, C.2.2.2.2.1 _ hi.2.1⟩ ⟨Pk_blind, va_recv C.2.2.2.2.2.1.1 hP hi.2.2 hq, fun U hU hW => ⟨rfl, by rw [hU], by rw [hU]; exact hPc, C.2.2.2.2.2.1.warm hW, hDc⟩⟩ rfl ha hl.1 hst (lv_room hro) hd hc) kk
end
end
