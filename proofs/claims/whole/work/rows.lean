section
/-! ===== BEGIN words of one list among another's, by their places ===== -/
theorem goodIn_r {big : List Cond} (ws : List Cond) (ps : List Nat) (hp : ws = ps.filterMap (fun i => big[i]?)) (h : ws.all goodWord = true) : GoodIn big ws := by
  intro w hw
  have h1 := List.all_eq_true.mp h w hw
  rw [hp] at hw
  obtain ⟨i, -, hi⟩ := List.mem_filterMap.mp hw
  have hm : w ∈ big := by first | exact List.mem_of_getElem? hi | exact List.getElem?_mem hi
  exact ⟨hm, good_of_word h1⟩
theorem goodIn_app {big a b : List Cond} (ha : GoodIn big a) (hb : GoodIn big b) : GoodIn big (a ++ b) := fun w h => (List.mem_append.mp h).elim (ha w) (hb w)
theorem goodIn_ca {big a b : List Cond} {c : Cond} (ha : GoodIn big (c :: a)) (hb : GoodIn big b) : GoodIn big (c :: (a ++ b)) := fun w h => (List.mem_cons.mp h).elim (fun e => ha w (List.mem_cons.mpr (Or.inl e))) (fun h => (List.mem_append.mp h).elim (fun h => ha w (List.mem_cons.mpr (Or.inr h))) (hb w))
theorem goodIn_sub {big ws : List Cond} (hm : ∀ w ∈ ws, w ∈ big) (h : ws.all goodWord = true) : GoodIn big ws := fun w hw => ⟨hm w hw, good_of_word (List.all_eq_true.mp h w hw)⟩
/-! ===== END ===== -/

/-! ===== BEGIN printed: names, fields, word lists, decode rows ===== -/
def RX0 : String := "RungRights$Act"
def TX0 : u_T := fun k => match k with
  | 0 => ("RungRights$Act", "kind", "I", false)
  | 1 => ("RungRights$Act", "man", "I", false)
  | _ => ("RungRights$Act", "place", "I", false)
def tyX0 : Nat → FieldType := fun k => match k with
  | 0 => .int
  | 1 => .int
  | _ => .int
abbrev wsX00 : List Cond := u_ws RX0 TX0 3
theorem nmX0 : ∀ a, a < 3 → ∀ b, b < 3 → a ≠ b → (TX0 a).2.1 ≠ (TX0 b).2.1 := by decide +kernel
theorem tyX0_ok : ∀ k, k < 3 → parseFieldDescriptor (TX0 k).2.2.1 = some (tyX0 k) := by decide +kernel
abbrev cX0_init : ByteArray := prog_2_method_1_code
def yX0_init : MethodName := ⟨RX0, "<init>", "()V"⟩
abbrev cX0_become : ByteArray := prog_2_method_2_code
def yX0_become : MethodName := ⟨RX0, "become", "(III)V"⟩
abbrev cX0_kindOf : ByteArray := prog_2_method_3_code
def yX0_kindOf : MethodName := ⟨RX0, "kindOf", "()I"⟩
abbrev cX0_doer : ByteArray := prog_2_method_4_code
def yX0_doer : MethodName := ⟨RX0, "doer", "()I"⟩
abbrev cX0_target : ByteArray := prog_2_method_5_code
def yX0_target : MethodName := ⟨RX0, "target", "()I"⟩
abbrev cX0_draw : ByteArray := prog_2_method_6_code
def yX0_draw : MethodName := ⟨RX0, "draw", "(ILRungRights$Brigade;)V"⟩
abbrev cX0_drawnPlace : ByteArray := prog_2_method_7_code
def yX0_drawnPlace : MethodName := ⟨RX0, "drawnPlace", "(IILRungRights$Brigade;)I"⟩
def RX1 : String := "RungRights$Brigade"
def TX1 : u_T := fun k => match k with
  | 0 => ("RungRights$Brigade", "owner", "[I", true)
  | 1 => ("RungRights$Brigade", "leaser", "[I", true)
  | 2 => ("RungRights$Brigade", "missing", "I", false)
  | 3 => ("RungRights$Brigade", "stride", "[I", true)
  | 4 => ("RungRights$Brigade", "coins", "[I", true)
  | 5 => ("RungRights$Brigade", "place", "[I", true)
  | 6 => ("RungRights$Brigade", "stepped", "I", false)
  | 7 => ("RungRights$Brigade", "beat", "I", false)
  | 8 => ("RungRights$Brigade", "sights", "I", false)
  | 9 => ("RungRights$Brigade", "wet", "I", false)
  | _ => ("RungRights$Brigade", "dry", "I", false)
def tyX1 : Nat → FieldType := fun k => match k with
  | 0 => .array .int
  | 1 => .array .int
  | 2 => .int
  | 3 => .array .int
  | 4 => .array .int
  | 5 => .array .int
  | 6 => .int
  | 7 => .int
  | 8 => .int
  | 9 => .int
  | _ => .int
abbrev wsX10 : List Cond := u_ws RX1 TX1 11
theorem nmX1 : ∀ a, a < 11 → ∀ b, b < 11 → a ≠ b → (TX1 a).2.1 ≠ (TX1 b).2.1 := by decide +kernel
theorem tyX1_ok : ∀ k, k < 11 → parseFieldDescriptor (TX1 k).2.2.1 = some (tyX1 k) := by decide +kernel
abbrev cX1_init : ByteArray := prog_3_method_1_code
def yX1_init : MethodName := ⟨RX1, "<init>", "()V"⟩
abbrev cX1_copyFrom : ByteArray := prog_3_method_2_code
def yX1_copyFrom : MethodName := ⟨RX1, "copyFrom", "(LRungRights$Brigade;)V"⟩
abbrev cX1_ownerOf : ByteArray := prog_3_method_3_code
def yX1_ownerOf : MethodName := ⟨RX1, "ownerOf", "(I)I"⟩
abbrev cX1_leaserOf : ByteArray := prog_3_method_4_code
def yX1_leaserOf : MethodName := ⟨RX1, "leaserOf", "(I)I"⟩
abbrev cX1_isMissing : ByteArray := prog_3_method_5_code
def yX1_isMissing : MethodName := ⟨RX1, "isMissing", "(I)Z"⟩
abbrev cX1_rungsMissing : ByteArray := prog_3_method_6_code
def yX1_rungsMissing : MethodName := ⟨RX1, "rungsMissing", "()I"⟩
abbrev cX1_setRung : ByteArray := prog_3_method_7_code
def yX1_setRung : MethodName := ⟨RX1, "setRung", "(IIIZ)V"⟩
abbrev cX1_strideOf : ByteArray := prog_3_method_8_code
def yX1_strideOf : MethodName := ⟨RX1, "strideOf", "(I)I"⟩
abbrev cX1_coinsOf : ByteArray := prog_3_method_9_code
def yX1_coinsOf : MethodName := ⟨RX1, "coinsOf", "(I)I"⟩
abbrev cX1_placeOf : ByteArray := prog_3_method_10_code
def yX1_placeOf : MethodName := ⟨RX1, "placeOf", "(I)I"⟩
abbrev cX1_hasStepped : ByteArray := prog_3_method_11_code
def yX1_hasStepped : MethodName := ⟨RX1, "hasStepped", "(I)Z"⟩
abbrev cX1_menStepped : ByteArray := prog_3_method_12_code
def yX1_menStepped : MethodName := ⟨RX1, "menStepped", "()I"⟩
abbrev cX1_setMan : ByteArray := prog_3_method_13_code
def yX1_setMan : MethodName := ⟨RX1, "setMan", "(IIII)V"⟩
abbrev cX1_beatNow : ByteArray := prog_3_method_14_code
def yX1_beatNow : MethodName := ⟨RX1, "beatNow", "()I"⟩
abbrev cX1_menOnRoof : ByteArray := prog_3_method_15_code
def yX1_menOnRoof : MethodName := ⟨RX1, "menOnRoof", "()I"⟩
abbrev cX1_firstManOn : ByteArray := prog_3_method_16_code
def yX1_firstManOn : MethodName := ⟨RX1, "firstManOn", "(I)I"⟩
abbrev cX1_mayBeOn : ByteArray := prog_3_method_17_code
def yX1_mayBeOn : MethodName := ⟨RX1, "mayBeOn", "(II)Z"⟩
abbrev cX1_rungsOpenTo : ByteArray := prog_3_method_18_code
def yX1_rungsOpenTo : MethodName := ⟨RX1, "rungsOpenTo", "(I)I"⟩
abbrev cX1_rungsToLease : ByteArray := prog_3_method_19_code
def yX1_rungsToLease : MethodName := ⟨RX1, "rungsToLease", "()I"⟩
abbrev cX1_reasonAgainst : ByteArray := prog_3_method_20_code
def yX1_reasonAgainst : MethodName := ⟨RX1, "reasonAgainst", "(LRungRights$Act;)I"⟩
abbrev cX1_reasonAgainstStep : ByteArray := prog_3_method_21_code
def yX1_reasonAgainstStep : MethodName := ⟨RX1, "reasonAgainstStep", "(II)I"⟩
abbrev cX1_reasonAgainstLease : ByteArray := prog_3_method_22_code
def yX1_reasonAgainstLease : MethodName := ⟨RX1, "reasonAgainstLease", "(II)I"⟩
abbrev cX1_perform : ByteArray := prog_3_method_23_code
def yX1_perform : MethodName := ⟨RX1, "perform", "(LRungRights$Act;)V"⟩
abbrev cX1_moveTo : ByteArray := prog_3_method_24_code
def yX1_moveTo : MethodName := ⟨RX1, "moveTo", "(II)V"⟩
abbrev cX1_leaseTo : ByteArray := prog_3_method_25_code
def yX1_leaseTo : MethodName := ⟨RX1, "leaseTo", "(II)V"⟩
abbrev cX1_addSight : ByteArray := prog_3_method_26_code
def yX1_addSight : MethodName := ⟨RX1, "addSight", "(IZ)Z"⟩
abbrev cX1_clearSights : ByteArray := prog_3_method_27_code
def yX1_clearSights : MethodName := ⟨RX1, "clearSights", "()V"⟩
abbrev cX1_sightCount : ByteArray := prog_3_method_28_code
def yX1_sightCount : MethodName := ⟨RX1, "sightCount", "()I"⟩
abbrev cX1_sightsFit : ByteArray := prog_3_method_29_code
def yX1_sightsFit : MethodName := ⟨RX1, "sightsFit", "(I)Z"⟩
def RX2 : String := "RungRights$Descents"
def TX2 : u_T := fun k => match k with
  | _ => ("", "", "", false)
def tyX2 : Nat → FieldType := fun k => match k with
  | _ => .int
abbrev wsX20 : List Cond := u_ws RX2 TX2 0
theorem nmX2 : ∀ a, a < 0 → ∀ b, b < 0 → a ≠ b → (TX2 a).2.1 ≠ (TX2 b).2.1 := by decide +kernel
theorem tyX2_ok : ∀ k, k < 0 → parseFieldDescriptor (TX2 k).2.2.1 = some (tyX2 k) := by decide +kernel
abbrev cX2_canWin : ByteArray := prog_4_method_2_code
def yX2_canWin : MethodName := ⟨RX2, "canWin", "(I)Z"⟩
abbrev cX2_leastWinningMove : ByteArray := prog_4_method_3_code
def yX2_leastWinningMove : MethodName := ⟨RX2, "leastWinningMove", "(I)I"⟩
abbrev cX2_heapsOf : ByteArray := prog_4_method_4_code
def yX2_heapsOf : MethodName := ⟨RX2, "heapsOf", "(I)I"⟩
def RX3 : String := "RungRights$Feet"
def TX3 : u_T := fun k => match k with
  | 0 => ("RungRights$Feet", "chances", "[J", true)
  | 1 => ("RungRights$Feet", "upper", "J", false)
  | _ => ("RungRights$Feet", "lower", "J", false)
def tyX3 : Nat → FieldType := fun k => match k with
  | 0 => .array .long
  | 1 => .long
  | _ => .long
abbrev wsX30 : List Cond := u_ws RX3 TX3 3
theorem nmX3 : ∀ a, a < 3 → ∀ b, b < 3 → a ≠ b → (TX3 a).2.1 ≠ (TX3 b).2.1 := by decide +kernel
theorem tyX3_ok : ∀ k, k < 3 → parseFieldDescriptor (TX3 k).2.2.1 = some (tyX3 k) := by decide +kernel
abbrev cX3_init : ByteArray := prog_5_method_1_code
def yX3_init : MethodName := ⟨RX3, "<init>", "()V"⟩
abbrev cX3_chanceOn : ByteArray := prog_5_method_2_code
def yX3_chanceOn : MethodName := ⟨RX3, "chanceOn", "(II)V"⟩
abbrev cX3_meanStepsTo : ByteArray := prog_5_method_3_code
def yX3_meanStepsTo : MethodName := ⟨RX3, "meanStepsTo", "(II)V"⟩
abbrev cX3_reckonChances : ByteArray := prog_5_method_4_code
def yX3_reckonChances : MethodName := ⟨RX3, "reckonChances", "(I)V"⟩
abbrev cX3_power : ByteArray := prog_5_method_5_code
def yX3_power : MethodName := ⟨RX3, "power", "(II)J"⟩
abbrev cX3_upperNumber : ByteArray := prog_5_method_6_code
def yX3_upperNumber : MethodName := ⟨RX3, "upperNumber", "()J"⟩
abbrev cX3_lowerNumber : ByteArray := prog_5_method_7_code
def yX3_lowerNumber : MethodName := ⟨RX3, "lowerNumber", "()J"⟩
def RX4 : String := "RungRights$Fire"
def TX4 : u_T := fun k => match k with
  | 0 => ("RungRights$Fire", "after", "LRungRights$Brigade;", true)
  | 1 => ("RungRights$Fire", "act", "LRungRights$Act;", true)
  | 2 => ("RungRights$Fire", "acts", "I", false)
  | 3 => ("RungRights$Fire", "steps", "I", false)
  | 4 => ("RungRights$Fire", "paid", "I", false)
  | 5 => ("RungRights$Fire", "actUp", "I", false)
  | 6 => ("RungRights$Fire", "manUp", "I", false)
  | _ => ("RungRights$Fire", "why", "I", false)
def tyX4 : Nat → FieldType := fun k => match k with
  | 0 => .object "RungRights$Brigade"
  | 1 => .object "RungRights$Act"
  | 2 => .int
  | 3 => .int
  | 4 => .int
  | 5 => .int
  | 6 => .int
  | _ => .int
abbrev wsX40 : List Cond := u_ws RX4 TX4 8
theorem nmX4 : ∀ a, a < 8 → ∀ b, b < 8 → a ≠ b → (TX4 a).2.1 ≠ (TX4 b).2.1 := by decide +kernel
theorem tyX4_ok : ∀ k, k < 8 → parseFieldDescriptor (TX4 k).2.2.1 = some (tyX4 k) := by decide +kernel
abbrev cX4_init : ByteArray := prog_6_method_1_code
def yX4_init : MethodName := ⟨RX4, "<init>", "()V"⟩
abbrev cX4_begin : ByteArray := prog_6_method_2_code
def yX4_begin : MethodName := ⟨RX4, "begin", "(LRungRights$Brigade;)V"⟩
abbrev cX4_burn : ByteArray := prog_6_method_3_code
def yX4_burn : MethodName := ⟨RX4, "burn", "(LRungRights$Pad;LRungRights$Brigade;)Z"⟩
abbrev cX4_attempt : ByteArray := prog_6_method_4_code
def yX4_attempt : MethodName := ⟨RX4, "attempt", "(LRungRights$Act;)Z"⟩
abbrev cX4_count : ByteArray := prog_6_method_5_code
def yX4_count : MethodName := ⟨RX4, "count", "(LRungRights$Act;)V"⟩
abbrev cX4_reason : ByteArray := prog_6_method_6_code
def yX4_reason : MethodName := ⟨RX4, "reason", "()I"⟩
abbrev cX4_actsDone : ByteArray := prog_6_method_7_code
def yX4_actsDone : MethodName := ⟨RX4, "actsDone", "()I"⟩
abbrev cX4_stepsMade : ByteArray := prog_6_method_8_code
def yX4_stepsMade : MethodName := ⟨RX4, "stepsMade", "()I"⟩
abbrev cX4_coinsPaid : ByteArray := prog_6_method_9_code
def yX4_coinsPaid : MethodName := ⟨RX4, "coinsPaid", "()I"⟩
abbrev cX4_firstActUp : ByteArray := prog_6_method_10_code
def yX4_firstActUp : MethodName := ⟨RX4, "firstActUp", "()I"⟩
abbrev cX4_firstManUp : ByteArray := prog_6_method_11_code
def yX4_firstManUp : MethodName := ⟨RX4, "firstManUp", "()I"⟩
abbrev cX4_behindIt : ByteArray := prog_6_method_12_code
def yX4_behindIt : MethodName := ⟨RX4, "behindIt", "()LRungRights$Brigade;"⟩
def RX5 : String := "RungRights$Pad"
def TX5 : u_T := fun k => match k with
  | 0 => ("RungRights$Pad", "signs", "[C", true)
  | _ => ("RungRights$Pad", "count", "I", false)
def tyX5 : Nat → FieldType := fun k => match k with
  | 0 => .array .char
  | _ => .int
abbrev wsX50 : List Cond := u_ws RX5 TX5 2
theorem nmX5 : ∀ a, a < 2 → ∀ b, b < 2 → a ≠ b → (TX5 a).2.1 ≠ (TX5 b).2.1 := by decide +kernel
theorem tyX5_ok : ∀ k, k < 2 → parseFieldDescriptor (TX5 k).2.2.1 = some (tyX5 k) := by decide +kernel
abbrev cX5_init : ByteArray := prog_7_method_1_code
def yX5_init : MethodName := ⟨RX5, "<init>", "()V"⟩
abbrev cX5_add : ByteArray := prog_7_method_2_code
def yX5_add : MethodName := ⟨RX5, "add", "(I)Z"⟩
abbrev cX5_clear : ByteArray := prog_7_method_3_code
def yX5_clear : MethodName := ⟨RX5, "clear", "()V"⟩
abbrev cX5_size : ByteArray := prog_7_method_4_code
def yX5_size : MethodName := ⟨RX5, "size", "()I"⟩
abbrev cX5_signAt : ByteArray := prog_7_method_5_code
def yX5_signAt : MethodName := ⟨RX5, "signAt", "(I)C"⟩
abbrev cX5_firstFault : ByteArray := prog_7_method_6_code
def yX5_firstFault : MethodName := ⟨RX5, "firstFault", "()I"⟩
abbrev cX5_endOfAct : ByteArray := prog_7_method_7_code
def yX5_endOfAct : MethodName := ⟨RX5, "endOfAct", "(I)I"⟩
abbrev cX5_firstWrongSign : ByteArray := prog_7_method_8_code
def yX5_firstWrongSign : MethodName := ⟨RX5, "firstWrongSign", "(II)I"⟩
abbrev cX5_needsMore : ByteArray := prog_7_method_9_code
def yX5_needsMore : MethodName := ⟨RX5, "needsMore", "(C)Z"⟩
abbrev cX5_read : ByteArray := prog_7_method_10_code
def yX5_read : MethodName := ⟨RX5, "read", "(IILRungRights$Act;)V"⟩
abbrev cX5_placeOfSign : ByteArray := prog_7_method_11_code
def yX5_placeOfSign : MethodName := ⟨RX5, "placeOfSign", "(C)I"⟩
abbrev cX5_isManSign : ByteArray := prog_7_method_12_code
def yX5_isManSign : MethodName := ⟨RX5, "isManSign", "(C)Z"⟩
abbrev cX5_isRungSign : ByteArray := prog_7_method_13_code
def yX5_isRungSign : MethodName := ⟨RX5, "isRungSign", "(C)Z"⟩
abbrev cX5_isEndOfLadder : ByteArray := prog_7_method_14_code
def yX5_isEndOfLadder : MethodName := ⟨RX5, "isEndOfLadder", "(C)Z"⟩
def RX6 : String := "RungRights$Posts"
def TX6 : u_T := fun k => match k with
  | 0 => ("RungRights$Posts", "open", "[I", true)
  | 1 => ("RungRights$Posts", "post", "[I", true)
  | _ => ("RungRights$Posts", "posted", "I", false)
def tyX6 : Nat → FieldType := fun k => match k with
  | 0 => .array .int
  | 1 => .array .int
  | _ => .int
abbrev wsX60 : List Cond := u_ws RX6 TX6 3
theorem nmX6 : ∀ a, a < 3 → ∀ b, b < 3 → a ≠ b → (TX6 a).2.1 ≠ (TX6 b).2.1 := by decide +kernel
theorem tyX6_ok : ∀ k, k < 3 → parseFieldDescriptor (TX6 k).2.2.1 = some (tyX6 k) := by decide +kernel
abbrev cX6_init : ByteArray := prog_8_method_1_code
def yX6_init : MethodName := ⟨RX6, "<init>", "()V"⟩
abbrev cX6_assign : ByteArray := prog_8_method_2_code
def yX6_assign : MethodName := ⟨RX6, "assign", "(LRungRights$Brigade;)V"⟩
abbrev cX6_lowestPost : ByteArray := prog_8_method_3_code
def yX6_lowestPost : MethodName := ⟨RX6, "lowestPost", "(II)I"⟩
abbrev cX6_mostFrom : ByteArray := prog_8_method_4_code
def yX6_mostFrom : MethodName := ⟨RX6, "mostFrom", "(II)I"⟩
abbrev cX6_menPosted : ByteArray := prog_8_method_5_code
def yX6_menPosted : MethodName := ⟨RX6, "menPosted", "()I"⟩
abbrev cX6_rungOf : ByteArray := prog_8_method_6_code
def yX6_rungOf : MethodName := ⟨RX6, "rungOf", "(I)I"⟩
def RX7 : String := "RungRights$Routes"
def TX7 : u_T := fun k => match k with
  | _ => ("RungRights$Routes", "settled", "[I", true)
def tyX7 : Nat → FieldType := fun k => match k with
  | _ => .array .int
abbrev wsX70 : List Cond := u_ws RX7 TX7 1
theorem nmX7 : ∀ a, a < 1 → ∀ b, b < 1 → a ≠ b → (TX7 a).2.1 ≠ (TX7 b).2.1 := by decide +kernel
theorem tyX7_ok : ∀ k, k < 1 → parseFieldDescriptor (TX7 k).2.2.1 = some (tyX7 k) := by decide +kernel
abbrev cX7_init : ByteArray := prog_9_method_1_code
def yX7_init : MethodName := ⟨RX7, "<init>", "()V"⟩
abbrev cX7_fewestSteps : ByteArray := prog_9_method_2_code
def yX7_fewestSteps : MethodName := ⟨RX7, "fewestSteps", "(LRungRights$Brigade;I)I"⟩
abbrev cX7_firstStep : ByteArray := prog_9_method_3_code
def yX7_firstStep : MethodName := ⟨RX7, "firstStep", "(LRungRights$Brigade;I)I"⟩
abbrev cX7_settleSteps : ByteArray := prog_9_method_4_code
def yX7_settleSteps : MethodName := ⟨RX7, "settleSteps", "(LRungRights$Brigade;I)V"⟩
abbrev cX7_countUp : ByteArray := prog_9_method_5_code
def yX7_countUp : MethodName := ⟨RX7, "countUp", "(LRungRights$Brigade;I)I"⟩
abbrev cX7_fewestLeases : ByteArray := prog_9_method_6_code
def yX7_fewestLeases : MethodName := ⟨RX7, "fewestLeases", "(LRungRights$Brigade;I)I"⟩
abbrev cX7_leastLeased : ByteArray := prog_9_method_7_code
def yX7_leastLeased : MethodName := ⟨RX7, "leastLeased", "(LRungRights$Brigade;I)I"⟩
abbrev cX7_leaseCost : ByteArray := prog_9_method_8_code
def yX7_leaseCost : MethodName := ⟨RX7, "leaseCost", "(LRungRights$Brigade;I)I"⟩
abbrev cX7_settledAt : ByteArray := prog_9_method_9_code
def yX7_settledAt : MethodName := ⟨RX7, "settledAt", "(I)I"⟩
abbrev cX7_isOpen : ByteArray := prog_9_method_10_code
def yX7_isOpen : MethodName := ⟨RX7, "isOpen", "(II)Z"⟩
def RX8 : String := "RungRights$Trails"
def TX8 : u_T := fun k => match k with
  | 0 => ("RungRights$Trails", "codes", "[I", true)
  | 1 => ("RungRights$Trails", "wetRungs", "[I", true)
  | _ => ("RungRights$Trails", "count", "I", false)
def tyX8 : Nat → FieldType := fun k => match k with
  | 0 => .array .int
  | 1 => .array .int
  | _ => .int
abbrev wsX80 : List Cond := u_ws RX8 TX8 3
theorem nmX8 : ∀ a, a < 3 → ∀ b, b < 3 → a ≠ b → (TX8 a).2.1 ≠ (TX8 b).2.1 := by decide +kernel
theorem tyX8_ok : ∀ k, k < 3 → parseFieldDescriptor (TX8 k).2.2.1 = some (tyX8 k) := by decide +kernel
abbrev cX8_init : ByteArray := prog_10_method_1_code
def yX8_init : MethodName := ⟨RX8, "<init>", "()V"⟩
abbrev cX8_find : ByteArray := prog_10_method_2_code
def yX8_find : MethodName := ⟨RX8, "find", "(LRungRights$Brigade;)V"⟩
abbrev cX8_trailOf : ByteArray := prog_10_method_3_code
def yX8_trailOf : MethodName := ⟨RX8, "trailOf", "(LRungRights$Brigade;II)I"⟩
abbrev cX8_nextPlace : ByteArray := prog_10_method_4_code
def yX8_nextPlace : MethodName := ⟨RX8, "nextPlace", "(LRungRights$Brigade;III)I"⟩
abbrev cX8_size : ByteArray := prog_10_method_5_code
def yX8_size : MethodName := ⟨RX8, "size", "()I"⟩
abbrev cX8_codeAt : ByteArray := prog_10_method_6_code
def yX8_codeAt : MethodName := ⟨RX8, "codeAt", "(I)I"⟩
abbrev cX8_rungToFeel : ByteArray := prog_10_method_7_code
def yX8_rungToFeel : MethodName := ⟨RX8, "rungToFeel", "()I"⟩
abbrev cX8_mostLeftBy : ByteArray := prog_10_method_8_code
def yX8_mostLeftBy : MethodName := ⟨RX8, "mostLeftBy", "(I)I"⟩
def RX9 : String := "RungRights"
def TX9 : u_T := fun k => match k with
  | 0 => ("RungRights", "brigade", "LRungRights$Brigade;", true)
  | 1 => ("RungRights", "pad", "LRungRights$Pad;", true)
  | 2 => ("RungRights", "act", "LRungRights$Act;", true)
  | 3 => ("RungRights", "fire", "LRungRights$Fire;", true)
  | 4 => ("RungRights", "routes", "LRungRights$Routes;", true)
  | 5 => ("RungRights", "posts", "LRungRights$Posts;", true)
  | 6 => ("RungRights", "trails", "LRungRights$Trails;", true)
  | 7 => ("RungRights", "feet", "LRungRights$Feet;", true)
  | _ => ("RungRights", "images", "[LRungRights$Brigade;", true)
def tyX9 : Nat → FieldType := fun k => match k with
  | 0 => .object "RungRights$Brigade"
  | 1 => .object "RungRights$Pad"
  | 2 => .object "RungRights$Act"
  | 3 => .object "RungRights$Fire"
  | 4 => .object "RungRights$Routes"
  | 5 => .object "RungRights$Posts"
  | 6 => .object "RungRights$Trails"
  | 7 => .object "RungRights$Feet"
  | _ => .array (.object "RungRights$Brigade")
abbrev wsX90 : List Cond := u_ws RX9 TX9 9
theorem nmX9 : ∀ a, a < 9 → ∀ b, b < 9 → a ≠ b → (TX9 a).2.1 ≠ (TX9 b).2.1 := by decide +kernel
theorem tyX9_ok : ∀ k, k < 9 → parseFieldDescriptor (TX9 k).2.2.1 = some (tyX9 k) := by decide +kernel
abbrev cX9_init : ByteArray := prog_1_method_1_code
def yX9_init : MethodName := ⟨RX9, "<init>", "()V"⟩
abbrev cX9_rung : ByteArray := prog_1_method_2_code
def yX9_rung : MethodName := ⟨RX9, "rung", "(IIII)I"⟩
abbrev cX9_man : ByteArray := prog_1_method_3_code
def yX9_man : MethodName := ⟨RX9, "man", "(IIII)I"⟩
abbrev cX9_say : ByteArray := prog_1_method_4_code
def yX9_say : MethodName := ⟨RX9, "say", "(I)I"⟩
abbrev cX9_wipe : ByteArray := prog_1_method_5_code
def yX9_wipe : MethodName := ⟨RX9, "wipe", "()I"⟩
abbrev cX9_fault : ByteArray := prog_1_method_6_code
def yX9_fault : MethodName := ⟨RX9, "fault", "()I"⟩
abbrev cX9_judge : ByteArray := prog_1_method_7_code
def yX9_judge : MethodName := ⟨RX9, "judge", "(I)I"⟩
abbrev cX9_done : ByteArray := prog_1_method_8_code
def yX9_done : MethodName := ⟨RX9, "done", "()I"⟩
abbrev cX9_behind : ByteArray := prog_1_method_9_code
def yX9_behind : MethodName := ⟨RX9, "behind", "(II)I"⟩
abbrev cX9_bears : ByteArray := prog_1_method_10_code
def yX9_bears : MethodName := ⟨RX9, "bears", "(II)I"⟩
abbrev cX9_then : ByteArray := prog_1_method_11_code
def yX9_then : MethodName := ⟨RX9, "then", "(I)I"⟩
abbrev cX9_climb : ByteArray := prog_1_method_12_code
def yX9_climb : MethodName := ⟨RX9, "climb", "(II)I"⟩
abbrev cX9_ways : ByteArray := prog_1_method_13_code
def yX9_ways : MethodName := ⟨RX9, "ways", "(I)I"⟩
abbrev cX9_leases : ByteArray := prog_1_method_14_code
def yX9_leases : MethodName := ⟨RX9, "leases", "(II)I"⟩
abbrev cX9_stand : ByteArray := prog_1_method_15_code
def yX9_stand : MethodName := ⟨RX9, "stand", "(I)I"⟩
abbrev cX9_felt : ByteArray := prog_1_method_16_code
def yX9_felt : MethodName := ⟨RX9, "felt", "(IZ)I"⟩
abbrev cX9_forget : ByteArray := prog_1_method_17_code
def yX9_forget : MethodName := ⟨RX9, "forget", "()I"⟩
abbrev cX9_ups : ByteArray := prog_1_method_18_code
def yX9_ups : MethodName := ⟨RX9, "ups", "(I)I"⟩
abbrev cX9_ask : ByteArray := prog_1_method_19_code
def yX9_ask : MethodName := ⟨RX9, "ask", "(I)I"⟩
abbrev cX9_down : ByteArray := prog_1_method_20_code
def yX9_down : MethodName := ⟨RX9, "down", "(II)I"⟩
abbrev cX9_foot : ByteArray := prog_1_method_21_code
def yX9_foot : MethodName := ⟨RX9, "foot", "(IIII)J"⟩
abbrev cX9_year : ByteArray := prog_1_method_22_code
def yX9_year : MethodName := ⟨RX9, "year", "(III)I"⟩
abbrev cX9_image : ByteArray := prog_1_method_23_code
def yX9_image : MethodName := ⟨RX9, "image", "(I)I"⟩
abbrev cX9_restore : ByteArray := prog_1_method_24_code
def yX9_restore : MethodName := ⟨RX9, "restore", "(I)I"⟩
abbrev cX9_told : ByteArray := prog_1_method_25_code
def yX9_told : MethodName := ⟨RX9, "told", "(I)I"⟩
abbrev cX9_toldOfMan : ByteArray := prog_1_method_26_code
def yX9_toldOfMan : MethodName := ⟨RX9, "toldOfMan", "(II)I"⟩
abbrev cX9_toldOfRung : ByteArray := prog_1_method_27_code
def yX9_toldOfRung : MethodName := ⟨RX9, "toldOfRung", "(I)I"⟩
abbrev cX9_passYear : ByteArray := prog_1_method_28_code
def yX9_passYear : MethodName := ⟨RX9, "passYear", "(II)V"⟩
abbrev cX9_within : ByteArray := prog_1_method_29_code
def yX9_within : MethodName := ⟨RX9, "within", "(III)Z"⟩
abbrev cX9_isRung : ByteArray := prog_1_method_30_code
def yX9_isRung : MethodName := ⟨RX9, "isRung", "(I)Z"⟩
abbrev cX9_isPlace : ByteArray := prog_1_method_31_code
def yX9_isPlace : MethodName := ⟨RX9, "isPlace", "(I)Z"⟩
abbrev cX9_isMan : ByteArray := prog_1_method_32_code
def yX9_isMan : MethodName := ⟨RX9, "isMan", "(I)Z"⟩
abbrev cX9_isManOrNobody : ByteArray := prog_1_method_33_code
def yX9_isManOrNobody : MethodName := ⟨RX9, "isManOrNobody", "(I)Z"⟩
abbrev cX9_isImage : ByteArray := prog_1_method_34_code
def yX9_isImage : MethodName := ⟨RX9, "isImage", "(I)Z"⟩
abbrev cX9_orNone : ByteArray := prog_1_method_35_code
def yX9_orNone : MethodName := ⟨RX9, "orNone", "(I)I"⟩
abbrev cX9_bitOf : ByteArray := prog_1_method_36_code
def yX9_bitOf : MethodName := ⟨RX9, "bitOf", "(I)I"⟩
abbrev cX9_rightsFit : ByteArray := prog_1_method_37_code
def yX9_rightsFit : MethodName := ⟨RX9, "rightsFit", "(III)Z"⟩
def RX10 : String := "RungRightsModel"
def TX10 : u_T := fun k => match k with
  | 0 => ("RungRightsModel", "book", "[I", true)
  | 1 => ("RungRightsModel", "now", "[I", true)
  | 2 => ("RungRightsModel", "sights", "I", false)
  | 3 => ("RungRightsModel", "sight", "[I", true)
  | 4 => ("RungRightsModel", "signs", "I", false)
  | 5 => ("RungRightsModel", "pad", "[I", true)
  | 6 => ("RungRightsModel", "steps", "I", false)
  | 7 => ("RungRightsModel", "paid", "I", false)
  | 8 => ("RungRightsModel", "roofAt", "I", false)
  | 9 => ("RungRightsModel", "roofWho", "I", false)
  | 10 => ("RungRightsModel", "reason", "I", false)
  | 11 => ("RungRightsModel", "acts", "I", false)
  | 12 => ("RungRightsModel", "few", "[I", true)
  | 13 => ("RungRightsModel", "rows", "[I", true)
  | 14 => ("RungRightsModel", "can", "[Z", true)
  | 15 => ("RungRightsModel", "wins", "[Z", true)
  | 16 => ("RungRightsModel", "odds", "[J", true)
  | 17 => ("RungRightsModel", "means", "[J", true)
  | 18 => ("RungRightsModel", "image", "[I", true)
  | _ => ("RungRightsModel", "isKept", "[Z", true)
def tyX10 : Nat → FieldType := fun k => match k with
  | 0 => .array .int
  | 1 => .array .int
  | 2 => .int
  | 3 => .array .int
  | 4 => .int
  | 5 => .array .int
  | 6 => .int
  | 7 => .int
  | 8 => .int
  | 9 => .int
  | 10 => .int
  | 11 => .int
  | 12 => .array .int
  | 13 => .array .int
  | 14 => .array .boolean
  | 15 => .array .boolean
  | 16 => .array .long
  | 17 => .array .long
  | 18 => .array .int
  | _ => .array .boolean
abbrev wsX100 : List Cond := u_ws RX10 TX10 20
theorem nmX10 : ∀ a, a < 20 → ∀ b, b < 20 → a ≠ b → (TX10 a).2.1 ≠ (TX10 b).2.1 := by decide +kernel
theorem tyX10_ok : ∀ k, k < 20 → parseFieldDescriptor (TX10 k).2.2.1 = some (tyX10 k) := by decide +kernel
abbrev cX10_init : ByteArray := prog_12_method_1_code
def yX10_init : MethodName := ⟨RX10, "<init>", "()V"⟩
abbrev cX10_in : ByteArray := prog_12_method_2_code
def yX10_in : MethodName := ⟨RX10, "in", "(III)Z"⟩
abbrev cX10_has : ByteArray := prog_12_method_3_code
def yX10_has : MethodName := ⟨RX10, "has", "(II)Z"⟩
abbrev cX10_bits : ByteArray := prog_12_method_4_code
def yX10_bits : MethodName := ⟨RX10, "bits", "(I)I"⟩
abbrev cX10_isRung : ByteArray := prog_12_method_5_code
def yX10_isRung : MethodName := ⟨RX10, "isRung", "(I)Z"⟩
abbrev cX10_isMan : ByteArray := prog_12_method_6_code
def yX10_isMan : MethodName := ⟨RX10, "isMan", "(I)Z"⟩
abbrev cX10_asNow : ByteArray := prog_12_method_7_code
def yX10_asNow : MethodName := ⟨RX10, "asNow", "()V"⟩
abbrev cX10_isMissing : ByteArray := prog_12_method_8_code
def yX10_isMissing : MethodName := ⟨RX10, "isMissing", "(I)Z"⟩
abbrev cX10_may : ByteArray := prog_12_method_9_code
def yX10_may : MethodName := ⟨RX10, "may", "(II)Z"⟩
abbrev cX10_standing : ByteArray := prog_12_method_10_code
def yX10_standing : MethodName := ⟨RX10, "standing", "(I)I"⟩
abbrev cX10_rung : ByteArray := prog_12_method_11_code
def yX10_rung : MethodName := ⟨RX10, "rung", "(IIII)I"⟩
abbrev cX10_man : ByteArray := prog_12_method_12_code
def yX10_man : MethodName := ⟨RX10, "man", "(IIII)I"⟩
abbrev cX10_say : ByteArray := prog_12_method_13_code
def yX10_say : MethodName := ⟨RX10, "say", "(I)I"⟩
abbrev cX10_wipe : ByteArray := prog_12_method_14_code
def yX10_wipe : MethodName := ⟨RX10, "wipe", "()I"⟩
abbrev cX10_step : ByteArray := prog_12_method_15_code
def yX10_step : MethodName := ⟨RX10, "step", "(II)I"⟩
abbrev cX10_faultOf : ByteArray := prog_12_method_16_code
def yX10_faultOf : MethodName := ⟨RX10, "faultOf", "()I"⟩
abbrev cX10_fault : ByteArray := prog_12_method_17_code
def yX10_fault : MethodName := ⟨RX10, "fault", "()I"⟩
abbrev cX10_goTo : ByteArray := prog_12_method_18_code
def yX10_goTo : MethodName := ⟨RX10, "goTo", "(II)I"⟩
abbrev cX10_leaseTo : ByteArray := prog_12_method_19_code
def yX10_leaseTo : MethodName := ⟨RX10, "leaseTo", "(II)I"⟩
abbrev cX10_lose : ByteArray := prog_12_method_20_code
def yX10_lose : MethodName := ⟨RX10, "lose", "(IZ)I"⟩
abbrev cX10_endBeat : ByteArray := prog_12_method_21_code
def yX10_endBeat : MethodName := ⟨RX10, "endBeat", "()I"⟩
abbrev cX10_oneAct : ByteArray := prog_12_method_22_code
def yX10_oneAct : MethodName := ⟨RX10, "oneAct", "(I)I"⟩
abbrev cX10_roof : ByteArray := prog_12_method_23_code
def yX10_roof : MethodName := ⟨RX10, "roof", "()I"⟩
abbrev cX10_goFires : ByteArray := prog_12_method_24_code
def yX10_goFires : MethodName := ⟨RX10, "goFires", "()I"⟩
abbrev cX10_judge : ByteArray := prog_12_method_25_code
def yX10_judge : MethodName := ⟨RX10, "judge", "(I)I"⟩
abbrev cX10_barOfFires : ByteArray := prog_12_method_26_code
def yX10_barOfFires : MethodName := ⟨RX10, "barOfFires", "()I"⟩
abbrev cX10_done : ByteArray := prog_12_method_27_code
def yX10_done : MethodName := ⟨RX10, "done", "()I"⟩
abbrev cX10_mayOnes : ByteArray := prog_12_method_28_code
def yX10_mayOnes : MethodName := ⟨RX10, "mayOnes", "(I)I"⟩
abbrev cX10_behind : ByteArray := prog_12_method_29_code
def yX10_behind : MethodName := ⟨RX10, "behind", "(II)I"⟩
abbrev cX10_bears : ByteArray := prog_12_method_30_code
def yX10_bears : MethodName := ⟨RX10, "bears", "(II)I"⟩
abbrev cX10_then : ByteArray := prog_12_method_31_code
def yX10_then : MethodName := ⟨RX10, "then", "(I)I"⟩
abbrev cX10_layClimb : ByteArray := prog_12_method_32_code
def yX10_layClimb : MethodName := ⟨RX10, "layClimb", "(II)V"⟩
abbrev cX10_climb : ByteArray := prog_12_method_33_code
def yX10_climb : MethodName := ⟨RX10, "climb", "(II)I"⟩
abbrev cX10_ways : ByteArray := prog_12_method_34_code
def yX10_ways : MethodName := ⟨RX10, "ways", "(I)I"⟩
abbrev cX10_leases : ByteArray := prog_12_method_35_code
def yX10_leases : MethodName := ⟨RX10, "leases", "(II)I"⟩
abbrev cX10_most : ByteArray := prog_12_method_36_code
def yX10_most : MethodName := ⟨RX10, "most", "(II)I"⟩
abbrev cX10_stand : ByteArray := prog_12_method_37_code
def yX10_stand : MethodName := ⟨RX10, "stand", "(I)I"⟩
abbrev cX10_wetOnes : ByteArray := prog_12_method_38_code
def yX10_wetOnes : MethodName := ⟨RX10, "wetOnes", "(I)I"⟩
abbrev cX10_felt : ByteArray := prog_12_method_39_code
def yX10_felt : MethodName := ⟨RX10, "felt", "(IZ)I"⟩
abbrev cX10_forget : ByteArray := prog_12_method_40_code
def yX10_forget : MethodName := ⟨RX10, "forget", "()I"⟩
abbrev cX10_isFit : ByteArray := prog_12_method_41_code
def yX10_isFit : MethodName := ⟨RX10, "isFit", "(I)Z"⟩
abbrev cX10_ups : ByteArray := prog_12_method_42_code
def yX10_ups : MethodName := ⟨RX10, "ups", "(I)I"⟩
abbrev cX10_ask : ByteArray := prog_12_method_43_code
def yX10_ask : MethodName := ⟨RX10, "ask", "(I)I"⟩
abbrev cX10_firstDown : ByteArray := prog_12_method_44_code
def yX10_firstDown : MethodName := ⟨RX10, "firstDown", "(I)I"⟩
abbrev cX10_down : ByteArray := prog_12_method_45_code
def yX10_down : MethodName := ⟨RX10, "down", "(II)I"⟩
abbrev cX10_foot : ByteArray := prog_12_method_46_code
def yX10_foot : MethodName := ⟨RX10, "foot", "(IIII)J"⟩
abbrev cX10_year : ByteArray := prog_12_method_47_code
def yX10_year : MethodName := ⟨RX10, "year", "(III)I"⟩
abbrev cX10_image : ByteArray := prog_12_method_48_code
def yX10_image : MethodName := ⟨RX10, "image", "(I)I"⟩
abbrev cX10_restore : ByteArray := prog_12_method_49_code
def yX10_restore : MethodName := ⟨RX10, "restore", "(I)I"⟩
abbrev cX10_told : ByteArray := prog_12_method_50_code
def yX10_told : MethodName := ⟨RX10, "told", "(I)I"⟩
def RJ6 : String := "java/lang/Integer"
def TJ6 : u_T := fun k => match k with
  | _ => ("", "", "", false)
def tyJ6 : Nat → FieldType := fun k => match k with
  | _ => .int
abbrev wsJ60 : List Cond := u_ws RJ6 TJ6 0
theorem nmJ6 : ∀ a, a < 0 → ∀ b, b < 0 → a ≠ b → (TJ6 a).2.1 ≠ (TJ6 b).2.1 := by decide +kernel
theorem tyJ6_ok : ∀ k, k < 0 → parseFieldDescriptor (TJ6 k).2.2.1 = some (tyJ6 k) := by decide +kernel
abbrev cJ6_bitCount_0f7a4 : ByteArray := prog_13_method_49_code
def yJ6_bitCount_0f7a4 : MethodName := ⟨RJ6, "bitCount", "(I)I"⟩
def RJ9 : String := "java/lang/Math"
def TJ9 : u_T := fun k => match k with
  | _ => ("", "", "", false)
def tyJ9 : Nat → FieldType := fun k => match k with
  | _ => .int
abbrev wsJ90 : List Cond := u_ws RJ9 TJ9 0
theorem nmJ9 : ∀ a, a < 0 → ∀ b, b < 0 → a ≠ b → (TJ9 a).2.1 ≠ (TJ9 b).2.1 := by decide +kernel
theorem tyJ9_ok : ∀ k, k < 0 → parseFieldDescriptor (TJ9 k).2.2.1 = some (tyJ9 k) := by decide +kernel
abbrev cJ9_abs_0f7a4 : ByteArray := prog_14_method_59_code
def yJ9_abs_0f7a4 : MethodName := ⟨RJ9, "abs", "(I)I"⟩
abbrev cJ9_max_7cf53 : ByteArray := prog_14_method_65_code
def yJ9_max_7cf53 : MethodName := ⟨RJ9, "max", "(II)I"⟩
abbrev cJ9_min_7cf53 : ByteArray := prog_14_method_69_code
def yJ9_min_7cf53 : MethodName := ⟨RJ9, "min", "(II)I"⟩
def RJ10 : String := "java/lang/System"
def TJ10 : u_T := fun k => match k with
  | _ => ("", "", "", false)
def tyJ10 : Nat → FieldType := fun k => match k with
  | _ => .int
abbrev wsJ100 : List Cond := u_ws RJ10 TJ10 0
theorem nmJ10 : ∀ a, a < 0 → ∀ b, b < 0 → a ≠ b → (TJ10 a).2.1 ≠ (TJ10 b).2.1 := by decide +kernel
theorem tyJ10_ok : ∀ k, k < 0 → parseFieldDescriptor (TJ10 k).2.2.1 = some (tyJ10 k) := by decide +kernel
def RJ7 : String := "java/util/Arrays"
def TJ7 : u_T := fun k => match k with
  | _ => ("", "", "", false)
def tyJ7 : Nat → FieldType := fun k => match k with
  | _ => .int
abbrev wsJ70 : List Cond := u_ws RJ7 TJ7 0
theorem nmJ7 : ∀ a, a < 0 → ∀ b, b < 0 → a ≠ b → (TJ7 a).2.1 ≠ (TJ7 b).2.1 := by decide +kernel
theorem tyJ7_ok : ∀ k, k < 0 → parseFieldDescriptor (TJ7 k).2.2.1 = some (tyJ7 k) := by decide +kernel
abbrev cJ7_fill_53178 : ByteArray := prog_16_method_103_code
def yJ7_fill_53178 : MethodName := ⟨RJ7, "fill", "([II)V"⟩
def RL : String := "RungRightsLaw"
abbrev cL_law : ByteArray := code
def yL_law : MethodName := ⟨RL, "law", "([I)Z"⟩
def wsL_law_r1 : List Cond := [Cond.classLink RL 7 RX9, Cond.instantiable RX9 9, Cond.initialized RX9, Cond.classLink RL 10 RX10, Cond.instantiable RX10 20, Cond.initialized RX10, Cond.methodLink RL 9 yX9_init, Cond.instanceMethod yX9_init, Cond.code yX9_init cX9_init 1 none, Cond.methodLink RX9 3 objectInit, Cond.instanceMethod objectInit, Cond.code objectInit ⟨#[0xb1]⟩ 1 none, Cond.classLink RX9 9 RX1, Cond.instantiable RX1 11, Cond.initialized RX1, Cond.fieldLink RX9 12 "RungRights" "brigade" "LRungRights$Brigade;", Cond.classLink RX9 16 RX5, Cond.instantiable RX5 2, Cond.initialized RX5, Cond.fieldLink RX9 19 "RungRights" "pad" "LRungRights$Pad;", Cond.classLink RX9 23 RX0, Cond.instantiable RX0 3, Cond.initialized RX0, Cond.fieldLink RX9 26 "RungRights" "act" "LRungRights$Act;"]
def wsL_law_r2 : List Cond := [Cond.classLink RX9 30 RX4, Cond.instantiable RX4 8, Cond.initialized RX4, Cond.fieldLink RX9 33 "RungRights" "fire" "LRungRights$Fire;", Cond.classLink RX9 37 RX7, Cond.instantiable RX7 1, Cond.initialized RX7, Cond.fieldLink RX9 40 "RungRights" "routes" "LRungRights$Routes;", Cond.classLink RX9 44 RX6, Cond.instantiable RX6 3, Cond.initialized RX6, Cond.fieldLink RX9 47 "RungRights" "posts" "LRungRights$Posts;", Cond.classLink RX9 51 RX8, Cond.instantiable RX8 3, Cond.initialized RX8, Cond.fieldLink RX9 54 "RungRights" "trails" "LRungRights$Trails;", Cond.classLink RX9 58 RX3, Cond.instantiable RX3 3, Cond.initialized RX3, Cond.fieldLink RX9 61 "RungRights" "feet" "LRungRights$Feet;", Cond.fieldLink RX9 65 "RungRights" "images" "[LRungRights$Brigade;", Cond.methodLink RX9 11 yX1_init, Cond.instanceMethod yX1_init, Cond.code yX1_init cX1_init 1 none]
def wsL_law_r3 : List Cond := [Cond.methodLink RX1 3 objectInit, Cond.arrayClass .int, Cond.fieldLink RX1 9 "RungRights$Brigade" "owner" "[I", Cond.fieldLink RX1 15 "RungRights$Brigade" "leaser" "[I", Cond.fieldLink RX1 18 "RungRights$Brigade" "missing" "I", Cond.fieldLink RX1 22 "RungRights$Brigade" "stride" "[I", Cond.fieldLink RX1 25 "RungRights$Brigade" "coins" "[I", Cond.fieldLink RX1 28 "RungRights$Brigade" "place" "[I", Cond.fieldLink RX1 31 "RungRights$Brigade" "stepped" "I", Cond.fieldLink RX1 34 "RungRights$Brigade" "beat" "I", Cond.fieldLink RX1 37 "RungRights$Brigade" "sights" "I", Cond.fieldLink RX1 40 "RungRights$Brigade" "wet" "I", Cond.fieldLink RX1 43 "RungRights$Brigade" "dry" "I", Cond.methodLink RX1 46 yJ7_fill_53178, Cond.static yJ7_fill_53178, Cond.initialized RJ7, Cond.code yJ7_fill_53178 cJ7_fill_53178 4 none, Cond.instanceMethod yX5_init, Cond.code yX5_init cX5_init 1 none, Cond.methodLink RX5 3 objectInit, Cond.arrayClass .char, Cond.fieldLink RX5 9 "RungRights$Pad" "signs" "[C", Cond.fieldLink RX5 15 "RungRights$Pad" "count" "I", Cond.instanceMethod yX0_init]
def wsL_law_r4 : List Cond := [Cond.code yX0_init cX0_init 1 none, Cond.methodLink RX0 3 objectInit, Cond.fieldLink RX0 11 "RungRights$Act" "kind" "I", Cond.fieldLink RX0 15 "RungRights$Act" "man" "I", Cond.fieldLink RX0 18 "RungRights$Act" "place" "I", Cond.instanceMethod yX4_init, Cond.code yX4_init cX4_init 1 none, Cond.methodLink RX4 3 objectInit, Cond.classLink RX4 9 RX1, Cond.fieldLink RX4 12 "RungRights$Fire" "after" "LRungRights$Brigade;", Cond.classLink RX4 18 RX0, Cond.fieldLink RX4 21 "RungRights$Fire" "act" "LRungRights$Act;", Cond.fieldLink RX4 25 "RungRights$Fire" "acts" "I", Cond.fieldLink RX4 29 "RungRights$Fire" "steps" "I", Cond.fieldLink RX4 32 "RungRights$Fire" "paid" "I", Cond.fieldLink RX4 35 "RungRights$Fire" "actUp" "I", Cond.fieldLink RX4 38 "RungRights$Fire" "manUp" "I", Cond.fieldLink RX4 41 "RungRights$Fire" "why" "I", Cond.methodLink RX4 11 yX1_init, Cond.instanceMethod yX7_init, Cond.code yX7_init cX7_init 1 none, Cond.methodLink RX7 3 objectInit, Cond.fieldLink RX7 9 "RungRights$Routes" "settled" "[I", Cond.instanceMethod yX6_init]
def wsL_law_r5 : List Cond := [Cond.code yX6_init cX6_init 1 none, Cond.methodLink RX6 3 objectInit, Cond.fieldLink RX6 9 "RungRights$Posts" "open" "[I", Cond.fieldLink RX6 15 "RungRights$Posts" "post" "[I", Cond.fieldLink RX6 18 "RungRights$Posts" "posted" "I", Cond.instanceMethod yX8_init, Cond.code yX8_init cX8_init 1 none, Cond.methodLink RX8 3 objectInit, Cond.fieldLink RX8 9 "RungRights$Trails" "codes" "[I", Cond.fieldLink RX8 15 "RungRights$Trails" "wetRungs" "[I", Cond.fieldLink RX8 18 "RungRights$Trails" "count" "I", Cond.instanceMethod yX3_init, Cond.code yX3_init cX3_init 1 none, Cond.methodLink RX3 3 objectInit, Cond.arrayClass .long, Cond.fieldLink RX3 9 "RungRights$Feet" "chances" "[J", Cond.fieldLink RX3 15 "RungRights$Feet" "upper" "J", Cond.fieldLink RX3 19 "RungRights$Feet" "lower" "J", Cond.methodLink RL 12 yX10_init, Cond.instanceMethod yX10_init, Cond.code yX10_init cX10_init 2 none, Cond.methodLink RX10 1 objectInit, Cond.fieldLink RX10 7 "RungRightsModel" "book" "[I", Cond.fieldLink RX10 13 "RungRightsModel" "now" "[I"]
def wsL_law_r6 : List Cond := [Cond.fieldLink RX10 16 "RungRightsModel" "sight" "[I", Cond.fieldLink RX10 19 "RungRightsModel" "pad" "[I", Cond.fieldLink RX10 22 "RungRightsModel" "few" "[I", Cond.fieldLink RX10 25 "RungRightsModel" "rows" "[I", Cond.arrayClass .boolean, Cond.fieldLink RX10 28 "RungRightsModel" "can" "[Z", Cond.fieldLink RX10 32 "RungRightsModel" "wins" "[Z", Cond.fieldLink RX10 35 "RungRightsModel" "odds" "[J", Cond.fieldLink RX10 39 "RungRightsModel" "means" "[J", Cond.fieldLink RX10 42 "RungRightsModel" "image" "[I", Cond.fieldLink RX10 45 "RungRightsModel" "isKept" "[Z", Cond.methodLink RL 13 yX9_rung, Cond.instanceMethod yX9_rung, Cond.selects RX9 yX9_rung yX9_rung, Cond.code yX9_rung cX9_rung 6 (some .int), Cond.methodLink RX9 69 yX9_isRung, Cond.static yX9_isRung, Cond.code yX9_isRung cX9_isRung 1 (some .boolean), Cond.methodLink RX9 73 yX9_isManOrNobody, Cond.static yX9_isManOrNobody, Cond.code yX9_isManOrNobody cX9_isManOrNobody 1 (some .boolean), Cond.methodLink RX9 91 yX9_isMan, Cond.static yX9_isMan, Cond.code yX9_isMan cX9_isMan 1 (some .boolean)]
def wsL_law_r7 : List Cond := [Cond.methodLink RX9 76 yX9_rightsFit, Cond.static yX9_rightsFit, Cond.code yX9_rightsFit cX9_rightsFit 3 (some .boolean), Cond.methodLink RX9 94 yX9_within, Cond.static yX9_within, Cond.code yX9_within cX9_within 3 (some .boolean), Cond.methodLink RX9 80 yX1_ownerOf, Cond.instanceMethod yX1_ownerOf, Cond.selects RX1 yX1_ownerOf yX1_ownerOf, Cond.code yX1_ownerOf cX1_ownerOf 2 (some .int), Cond.methodLink RX9 84 yX1_setRung, Cond.instanceMethod yX1_setRung, Cond.selects RX1 yX1_setRung yX1_setRung, Cond.code yX1_setRung cX1_setRung 5 none, Cond.static yX9_bitOf, Cond.code yX9_bitOf cX9_bitOf 1 (some .int), Cond.methodLink RX9 88 yX9_orNone, Cond.static yX9_orNone, Cond.code yX9_orNone cX9_orNone 1 (some .int), Cond.methodLink RL 17 yX10_rung, Cond.instanceMethod yX10_rung, Cond.selects RX10 yX10_rung yX10_rung, Cond.code yX10_rung cX10_rung 7 (some .int), Cond.methodLink RX10 73 yX10_isRung]
def wsL_law_r8 : List Cond := [Cond.static yX10_isRung, Cond.code yX10_isRung cX10_isRung 1 (some .boolean), Cond.methodLink RX10 48 yX10_in, Cond.static yX10_in, Cond.code yX10_in cX10_in 3 (some .boolean), Cond.methodLink RL 18 yX9_man, Cond.instanceMethod yX9_man, Cond.selects RX9 yX9_man yX9_man, Cond.code yX9_man cX9_man 6 (some .int), Cond.methodLink RX9 97 yX9_isPlace, Cond.static yX9_isPlace, Cond.code yX9_isPlace cX9_isPlace 1 (some .boolean), Cond.methodLink RX9 100 yX1_placeOf, Cond.instanceMethod yX1_placeOf, Cond.selects RX1 yX1_placeOf yX1_placeOf, Cond.code yX1_placeOf cX1_placeOf 2 (some .int), Cond.methodLink RX9 103 yX1_coinsOf, Cond.instanceMethod yX1_coinsOf, Cond.selects RX1 yX1_coinsOf yX1_coinsOf, Cond.code yX1_coinsOf cX1_coinsOf 2 (some .int), Cond.methodLink RX9 106 yX1_setMan, Cond.instanceMethod yX1_setMan, Cond.selects RX1 yX1_setMan yX1_setMan, Cond.code yX1_setMan cX1_setMan 5 none]
def wsL_law_r9 : List Cond := [Cond.methodLink RL 21 yX10_man, Cond.instanceMethod yX10_man, Cond.selects RX10 yX10_man yX10_man, Cond.code yX10_man cX10_man 6 (some .int), Cond.methodLink RX10 76 yX10_isMan, Cond.static yX10_isMan, Cond.code yX10_isMan cX10_isMan 1 (some .boolean), Cond.methodLink RL 22 yX9_say, Cond.instanceMethod yX9_say, Cond.selects RX9 yX9_say yX9_say, Cond.code yX9_say cX9_say 2 (some .int), Cond.methodLink RX9 110 yX5_add, Cond.instanceMethod yX5_add, Cond.selects RX5 yX5_add yX5_add, Cond.code yX5_add cX5_add 2 (some .boolean), Cond.methodLink RX9 113 yX5_size, Cond.instanceMethod yX5_size, Cond.selects RX5 yX5_size yX5_size, Cond.code yX5_size cX5_size 1 (some .int), Cond.methodLink RL 26 yX10_say, Cond.instanceMethod yX10_say, Cond.selects RX10 yX10_say yX10_say, Cond.code yX10_say cX10_say 2 (some .int), Cond.fieldLink RX10 79 "RungRightsModel" "signs" "I"]
def wsL_law_r10 : List Cond := [Cond.methodLink RL 27 yX9_wipe, Cond.instanceMethod yX9_wipe, Cond.selects RX9 yX9_wipe yX9_wipe, Cond.code yX9_wipe cX9_wipe 2 (some .int), Cond.methodLink RX9 117 yX5_clear, Cond.instanceMethod yX5_clear, Cond.selects RX5 yX5_clear yX5_clear, Cond.code yX5_clear cX5_clear 1 none, Cond.methodLink RL 31 yX10_wipe, Cond.instanceMethod yX10_wipe, Cond.selects RX10 yX10_wipe yX10_wipe, Cond.code yX10_wipe cX10_wipe 2 (some .int), Cond.methodLink RL 32 yX9_fault, Cond.instanceMethod yX9_fault, Cond.selects RX9 yX9_fault yX9_fault, Cond.code yX9_fault cX9_fault 1 (some .int), Cond.methodLink RX9 120 yX5_firstFault, Cond.instanceMethod yX5_firstFault, Cond.selects RX5 yX5_firstFault yX5_firstFault, Cond.code yX5_firstFault cX5_firstFault 5 (some .int), Cond.methodLink RX5 19 yX5_endOfAct, Cond.instanceMethod yX5_endOfAct, Cond.selects RX5 yX5_endOfAct yX5_endOfAct, Cond.code yX5_endOfAct cX5_endOfAct 2 (some .int)]
def wsL_law_r11 : List Cond := [Cond.methodLink RX5 27 yX5_signAt, Cond.instanceMethod yX5_signAt, Cond.selects RX5 yX5_signAt yX5_signAt, Cond.code yX5_signAt cX5_signAt 2 (some .char), Cond.methodLink RX5 31 yX5_needsMore, Cond.static yX5_needsMore, Cond.code yX5_needsMore cX5_needsMore 1 (some .boolean), Cond.methodLink RX5 35 yX5_isManSign, Cond.static yX5_isManSign, Cond.code yX5_isManSign cX5_isManSign 1 (some .boolean), Cond.methodLink RX5 23 yX5_firstWrongSign, Cond.instanceMethod yX5_firstWrongSign, Cond.selects RX5 yX5_firstWrongSign yX5_firstWrongSign, Cond.code yX5_firstWrongSign cX5_firstWrongSign 6 (some .int), Cond.methodLink RX5 38 yX5_isRungSign, Cond.static yX5_isRungSign, Cond.code yX5_isRungSign cX5_isRungSign 1 (some .boolean), Cond.methodLink RX5 41 yX5_isEndOfLadder, Cond.static yX5_isEndOfLadder, Cond.code yX5_isEndOfLadder cX5_isEndOfLadder 1 (some .boolean), Cond.methodLink RL 35 yX10_fault, Cond.instanceMethod yX10_fault, Cond.selects RX10 yX10_fault yX10_fault, Cond.code yX10_fault cX10_fault 1 (some .int)]
def wsL_law_r12 : List Cond := [Cond.methodLink RX10 86 yX10_faultOf, Cond.instanceMethod yX10_faultOf, Cond.selects RX10 yX10_faultOf yX10_faultOf, Cond.code yX10_faultOf cX10_faultOf 3 (some .int), Cond.methodLink RX10 82 yX10_step, Cond.static yX10_step, Cond.code yX10_step cX10_step 3 (some .int), Cond.methodLink RL 36 yX9_judge, Cond.instanceMethod yX9_judge, Cond.selects RX9 yX9_judge yX9_judge, Cond.code yX9_judge cX9_judge 2 (some .int), Cond.methodLink RX9 123 yX4_burn, Cond.instanceMethod yX4_burn, Cond.selects RX4 yX4_burn yX4_burn, Cond.code yX4_burn cX4_burn 6 (some .boolean), Cond.methodLink RX4 48 yX4_begin, Cond.instanceMethod yX4_begin, Cond.selects RX4 yX4_begin yX4_begin, Cond.code yX4_begin cX4_begin 2 none, Cond.methodLink RX4 44 yX1_copyFrom, Cond.instanceMethod yX1_copyFrom, Cond.selects RX1 yX1_copyFrom yX1_copyFrom, Cond.code yX1_copyFrom cX1_copyFrom 2 none, Cond.methodLink RX1 52 arraycopyName]
def wsL_law_r13 : List Cond := [Cond.native arraycopyName, Cond.static arraycopyName, Cond.initialized "java/lang/System", Cond.methodLink RX4 51 yX5_firstFault, Cond.methodLink RX4 57 yX5_size, Cond.methodLink RX4 60 yX5_endOfAct, Cond.methodLink RX4 64 yX5_read, Cond.instanceMethod yX5_read, Cond.selects RX5 yX5_read yX5_read, Cond.code yX5_read cX5_read 7 none, Cond.methodLink RX5 46 yX0_become, Cond.instanceMethod yX0_become, Cond.selects RX0 yX0_become yX0_become, Cond.code yX0_become cX0_become 4 none, Cond.methodLink RX5 50 yX5_placeOfSign, Cond.static yX5_placeOfSign, Cond.code yX5_placeOfSign cX5_placeOfSign 1 (some .int), Cond.methodLink RX4 68 yX4_attempt, Cond.instanceMethod yX4_attempt, Cond.selects RX4 yX4_attempt yX4_attempt, Cond.code yX4_attempt cX4_attempt 2 (some .boolean), Cond.methodLink RX4 72 yX1_reasonAgainst, Cond.instanceMethod yX1_reasonAgainst, Cond.selects RX1 yX1_reasonAgainst yX1_reasonAgainst]
def wsL_law_r14 : List Cond := [Cond.code yX1_reasonAgainst cX1_reasonAgainst 2 (some .int), Cond.methodLink RX1 76 yX0_kindOf, Cond.instanceMethod yX0_kindOf, Cond.selects RX0 yX0_kindOf yX0_kindOf, Cond.code yX0_kindOf cX0_kindOf 1 (some .int), Cond.methodLink RX1 82 yX0_doer, Cond.instanceMethod yX0_doer, Cond.selects RX0 yX0_doer yX0_doer, Cond.code yX0_doer cX0_doer 1 (some .int), Cond.methodLink RX1 85 yX0_target, Cond.instanceMethod yX0_target, Cond.selects RX0 yX0_target yX0_target, Cond.code yX0_target cX0_target 1 (some .int), Cond.methodLink RX1 88 yX1_reasonAgainstStep, Cond.instanceMethod yX1_reasonAgainstStep, Cond.selects RX1 yX1_reasonAgainstStep yX1_reasonAgainstStep, Cond.code yX1_reasonAgainstStep cX1_reasonAgainstStep 4 (some .int), Cond.methodLink RX1 101 Lib.Math.abs.name, Cond.static Lib.Math.abs.name, Cond.initialized "java/lang/Math", Cond.code Lib.Math.abs.name Lib.Math.abs.code 1 (some .int), Cond.methodLink RX1 95 yX1_hasStepped, Cond.instanceMethod yX1_hasStepped, Cond.selects RX1 yX1_hasStepped yX1_hasStepped]
def wsL_law_r15 : List Cond := [Cond.code yX1_hasStepped cX1_hasStepped 2 (some .boolean), Cond.methodLink RX1 98 yX1_placeOf, Cond.methodLink RX1 106 yX1_strideOf, Cond.instanceMethod yX1_strideOf, Cond.selects RX1 yX1_strideOf yX1_strideOf, Cond.code yX1_strideOf cX1_strideOf 2 (some .int), Cond.methodLink RX1 73 yX1_isMissing, Cond.instanceMethod yX1_isMissing, Cond.selects RX1 yX1_isMissing yX1_isMissing, Cond.code yX1_isMissing cX1_isMissing 2 (some .boolean), Cond.methodLink RX1 69 yX1_mayBeOn, Cond.instanceMethod yX1_mayBeOn, Cond.selects RX1 yX1_mayBeOn yX1_mayBeOn, Cond.code yX1_mayBeOn cX1_mayBeOn 3 (some .boolean), Cond.methodLink RX1 109 yX1_firstManOn, Cond.instanceMethod yX1_firstManOn, Cond.selects RX1 yX1_firstManOn yX1_firstManOn, Cond.code yX1_firstManOn cX1_firstManOn 3 (some .int), Cond.methodLink RX1 92 yX1_reasonAgainstLease, Cond.instanceMethod yX1_reasonAgainstLease, Cond.selects RX1 yX1_reasonAgainstLease yX1_reasonAgainstLease, Cond.code yX1_reasonAgainstLease cX1_reasonAgainstLease 3 (some .int), Cond.methodLink RX1 112 yX1_ownerOf, Cond.methodLink RX1 115 yX1_leaserOf]
def wsL_law_r16 : List Cond := [Cond.instanceMethod yX1_leaserOf, Cond.selects RX1 yX1_leaserOf yX1_leaserOf, Cond.code yX1_leaserOf cX1_leaserOf 2 (some .int), Cond.methodLink RX1 118 yX1_coinsOf, Cond.methodLink RX4 76 yX1_perform, Cond.instanceMethod yX1_perform, Cond.selects RX1 yX1_perform yX1_perform, Cond.code yX1_perform cX1_perform 2 none, Cond.methodLink RX1 121 yX1_moveTo, Cond.instanceMethod yX1_moveTo, Cond.selects RX1 yX1_moveTo yX1_moveTo, Cond.code yX1_moveTo cX1_moveTo 3 none, Cond.methodLink RX1 125 yX1_leaseTo, Cond.instanceMethod yX1_leaseTo, Cond.selects RX1 yX1_leaseTo yX1_leaseTo, Cond.code yX1_leaseTo cX1_leaseTo 4 none, Cond.methodLink RX1 128 yX1_setRung, Cond.methodLink RX4 80 yX4_count, Cond.instanceMethod yX4_count, Cond.selects RX4 yX4_count yX4_count, Cond.code yX4_count cX4_count 2 none, Cond.methodLink RX4 83 yX0_kindOf, Cond.methodLink RX4 86 yX0_target, Cond.methodLink RX4 89 yX0_doer]
def wsL_law_r17 : List Cond := [Cond.methodLink RX9 127 yX4_actsDone, Cond.instanceMethod yX4_actsDone, Cond.selects RX4 yX4_actsDone yX4_actsDone, Cond.code yX4_actsDone cX4_actsDone 1 (some .int), Cond.methodLink RX9 130 yX4_reason, Cond.instanceMethod yX4_reason, Cond.selects RX4 yX4_reason yX4_reason, Cond.code yX4_reason cX4_reason 1 (some .int), Cond.methodLink RL 39 yX10_judge, Cond.instanceMethod yX10_judge, Cond.selects RX10 yX10_judge yX10_judge, Cond.code yX10_judge cX10_judge 3 (some .int), Cond.fieldLink RX10 122 "RungRightsModel" "reason" "I", Cond.methodLink RX10 125 yX10_goFires, Cond.instanceMethod yX10_goFires, Cond.selects RX10 yX10_goFires yX10_goFires, Cond.code yX10_goFires cX10_goFires 5 (some .int), Cond.fieldLink RX10 113 "RungRightsModel" "acts" "I", Cond.fieldLink RX10 59 "RungRightsModel" "roofAt" "I", Cond.fieldLink RX10 62 "RungRightsModel" "roofWho" "I", Cond.methodLink RX10 110 yX10_asNow, Cond.instanceMethod yX10_asNow, Cond.selects RX10 yX10_asNow yX10_asNow, Cond.code yX10_asNow cX10_asNow 2 none]
def wsL_law_r18 : List Cond := [Cond.fieldLink RX10 52 "RungRightsModel" "steps" "I", Cond.fieldLink RX10 56 "RungRightsModel" "paid" "I", Cond.methodLink RX10 116 yX10_roof, Cond.instanceMethod yX10_roof, Cond.selects RX10 yX10_roof yX10_roof, Cond.code yX10_roof cX10_roof 3 (some .int), Cond.methodLink RX10 119 yX10_oneAct, Cond.instanceMethod yX10_oneAct, Cond.selects RX10 yX10_oneAct yX10_oneAct, Cond.code yX10_oneAct cX10_oneAct 5 (some .int), Cond.methodLink RX10 97 yX10_endBeat, Cond.instanceMethod yX10_endBeat, Cond.selects RX10 yX10_endBeat yX10_endBeat, Cond.code yX10_endBeat cX10_endBeat 1 (some .int), Cond.methodLink RX10 100 yX10_lose, Cond.instanceMethod yX10_lose, Cond.selects RX10 yX10_lose yX10_lose, Cond.code yX10_lose cX10_lose 3 (some .int), Cond.methodLink RX10 69 yX10_isMissing, Cond.instanceMethod yX10_isMissing, Cond.selects RX10 yX10_isMissing yX10_isMissing, Cond.code yX10_isMissing cX10_isMissing 2 (some .boolean), Cond.methodLink RX10 65 yX10_has, Cond.static yX10_has]
def wsL_law_r19 : List Cond := [Cond.code yX10_has cX10_has 2 (some .boolean), Cond.methodLink RX10 104 yX10_leaseTo, Cond.instanceMethod yX10_leaseTo, Cond.selects RX10 yX10_leaseTo yX10_leaseTo, Cond.code yX10_leaseTo cX10_leaseTo 3 (some .int), Cond.methodLink RX10 107 yX10_goTo, Cond.instanceMethod yX10_goTo, Cond.selects RX10 yX10_goTo yX10_goTo, Cond.code yX10_goTo cX10_goTo 4 (some .int), Cond.methodLink RX10 90 yX10_may, Cond.instanceMethod yX10_may, Cond.selects RX10 yX10_may yX10_may, Cond.code yX10_may cX10_may 3 (some .boolean), Cond.methodLink RX10 93 yX10_standing, Cond.instanceMethod yX10_standing, Cond.selects RX10 yX10_standing yX10_standing, Cond.code yX10_standing cX10_standing 3 (some .int), Cond.methodLink RL 40 yX9_done, Cond.instanceMethod yX9_done, Cond.selects RX9 yX9_done yX9_done, Cond.code yX9_done cX9_done 1 (some .int), Cond.methodLink RX9 133 yX4_behindIt, Cond.instanceMethod yX4_behindIt, Cond.selects RX4 yX4_behindIt yX4_behindIt]
def wsL_law_r20 : List Cond := [Cond.code yX4_behindIt cX4_behindIt 1 (some (.object "RungRights$Brigade")), Cond.methodLink RX9 137 yX1_copyFrom, Cond.methodLink RL 43 yX10_done, Cond.instanceMethod yX10_done, Cond.selects RX10 yX10_done yX10_done, Cond.code yX10_done cX10_done 2 (some .int), Cond.methodLink RX10 128 yX10_barOfFires, Cond.instanceMethod yX10_barOfFires, Cond.selects RX10 yX10_barOfFires yX10_barOfFires, Cond.code yX10_barOfFires cX10_barOfFires 1 (some .int), Cond.methodLink RL 44 yX9_behind, Cond.instanceMethod yX9_behind, Cond.selects RX9 yX9_behind yX9_behind, Cond.code yX9_behind cX9_behind 4 (some .int), Cond.methodLink RX9 141 yX1_rungsOpenTo, Cond.instanceMethod yX1_rungsOpenTo, Cond.selects RX1 yX1_rungsOpenTo yX1_rungsOpenTo, Cond.code yX1_rungsOpenTo cX1_rungsOpenTo 4 (some .int), Cond.methodLink RX9 144 yX1_hasStepped, Cond.methodLink RL 48 yX10_behind, Cond.instanceMethod yX10_behind, Cond.selects RX10 yX10_behind yX10_behind, Cond.code yX10_behind cX10_behind 3 (some .int), Cond.methodLink RX10 131 yX10_mayOnes]
def wsL_law_r21 : List Cond := [Cond.instanceMethod yX10_mayOnes, Cond.selects RX10 yX10_mayOnes yX10_mayOnes, Cond.code yX10_mayOnes cX10_mayOnes 4 (some .int), Cond.methodLink RL 49 yX9_bears, Cond.instanceMethod yX9_bears, Cond.selects RX9 yX9_bears yX9_bears, Cond.code yX9_bears cX9_bears 4 (some .int), Cond.methodLink RX9 147 yX1_leaserOf, Cond.methodLink RX9 150 yX1_firstManOn, Cond.methodLink RX9 153 yX1_isMissing, Cond.methodLink RL 52 yX10_bears, Cond.instanceMethod yX10_bears, Cond.selects RX10 yX10_bears yX10_bears, Cond.code yX10_bears cX10_bears 3 (some .int), Cond.methodLink RL 53 yX9_then, Cond.instanceMethod yX9_then, Cond.selects RX9 yX9_then yX9_then, Cond.code yX9_then cX9_then 2 (some .int), Cond.methodLink RX9 156 yX1_beatNow, Cond.instanceMethod yX1_beatNow, Cond.selects RX1 yX1_beatNow yX1_beatNow, Cond.code yX1_beatNow cX1_beatNow 1 (some .int), Cond.methodLink RX9 159 yX1_menOnRoof, Cond.instanceMethod yX1_menOnRoof]
def wsL_law_r22 : List Cond := [Cond.selects RX1 yX1_menOnRoof yX1_menOnRoof, Cond.code yX1_menOnRoof cX1_menOnRoof 3 (some .int), Cond.methodLink RX9 162 yX4_stepsMade, Cond.instanceMethod yX4_stepsMade, Cond.selects RX4 yX4_stepsMade yX4_stepsMade, Cond.code yX4_stepsMade cX4_stepsMade 1 (some .int), Cond.methodLink RX9 165 yX4_coinsPaid, Cond.instanceMethod yX4_coinsPaid, Cond.selects RX4 yX4_coinsPaid yX4_coinsPaid, Cond.code yX4_coinsPaid cX4_coinsPaid 1 (some .int), Cond.methodLink RX9 168 yX4_firstActUp, Cond.instanceMethod yX4_firstActUp, Cond.selects RX4 yX4_firstActUp yX4_firstActUp, Cond.code yX4_firstActUp cX4_firstActUp 1 (some .int), Cond.methodLink RX9 171 yX4_firstManUp, Cond.instanceMethod yX4_firstManUp, Cond.selects RX4 yX4_firstManUp yX4_firstManUp, Cond.code yX4_firstManUp cX4_firstManUp 1 (some .int), Cond.methodLink RL 56 yX10_then, Cond.instanceMethod yX10_then, Cond.selects RX10 yX10_then yX10_then, Cond.code yX10_then cX10_then 2 (some .int), Cond.methodLink RL 57 yX9_climb, Cond.instanceMethod yX9_climb]
def wsL_law_r23 : List Cond := [Cond.selects RX9 yX9_climb yX9_climb, Cond.code yX9_climb cX9_climb 3 (some .int), Cond.methodLink RX9 174 yX7_fewestSteps, Cond.instanceMethod yX7_fewestSteps, Cond.selects RX7 yX7_fewestSteps yX7_fewestSteps, Cond.code yX7_fewestSteps cX7_fewestSteps 4 (some .int), Cond.constant RX7 28 (1000000), Cond.methodLink RX7 15 yX7_settleSteps, Cond.instanceMethod yX7_settleSteps, Cond.selects RX7 yX7_settleSteps yX7_settleSteps, Cond.code yX7_settleSteps cX7_settleSteps 9 none, Cond.methodLink RX7 35 Lib.Math.min.name, Cond.static Lib.Math.min.name, Cond.code Lib.Math.min.name Lib.Math.min.code 2 (some .int), Cond.methodLink RX7 29 yX1_rungsOpenTo, Cond.methodLink RX7 32 yX1_strideOf, Cond.methodLink RX7 41 yX7_isOpen, Cond.static yX7_isOpen, Cond.code yX7_isOpen cX7_isOpen 2 (some .boolean), Cond.methodLink RX7 25 yX7_settledAt, Cond.instanceMethod yX7_settledAt, Cond.selects RX7 yX7_settledAt yX7_settledAt, Cond.code yX7_settledAt cX7_settledAt 2 (some .int), Cond.methodLink RX7 19 yX1_placeOf]
def wsL_law_r24 : List Cond := [Cond.methodLink RX9 178 yX7_firstStep, Cond.instanceMethod yX7_firstStep, Cond.selects RX7 yX7_firstStep yX7_firstStep, Cond.code yX7_firstStep cX7_firstStep 8 (some .int), Cond.methodLink RL 60 yX10_climb, Cond.instanceMethod yX10_climb, Cond.selects RX10 yX10_climb yX10_climb, Cond.code yX10_climb cX10_climb 5 (some .int), Cond.constant RX10 134 (1000000), Cond.methodLink RX10 135 yX10_layClimb, Cond.instanceMethod yX10_layClimb, Cond.selects RX10 yX10_layClimb yX10_layClimb, Cond.code yX10_layClimb cX10_layClimb 5 none, Cond.methodLink RL 61 yX9_ways, Cond.instanceMethod yX9_ways, Cond.selects RX9 yX9_ways yX9_ways, Cond.code yX9_ways cX9_ways 2 (some .int), Cond.methodLink RX9 181 yX7_countUp, Cond.instanceMethod yX7_countUp, Cond.selects RX7 yX7_countUp yX7_countUp, Cond.code yX7_countUp cX7_countUp 9 (some .int), Cond.methodLink RL 64 yX10_ways, Cond.instanceMethod yX10_ways, Cond.selects RX10 yX10_ways yX10_ways]
def wsL_law_r25 : List Cond := [Cond.code yX10_ways cX10_ways 2 (some .int), Cond.methodLink RL 65 yX9_leases, Cond.instanceMethod yX9_leases, Cond.selects RX9 yX9_leases yX9_leases, Cond.code yX9_leases cX9_leases 3 (some .int), Cond.methodLink RX9 184 yX7_fewestLeases, Cond.instanceMethod yX7_fewestLeases, Cond.selects RX7 yX7_fewestLeases yX7_fewestLeases, Cond.code yX7_fewestLeases cX7_fewestLeases 4 (some .int), Cond.methodLink RX7 45 yX7_leaseCost, Cond.instanceMethod yX7_leaseCost, Cond.selects RX7 yX7_leaseCost yX7_leaseCost, Cond.code yX7_leaseCost cX7_leaseCost 10 (some .int), Cond.methodLink RX7 49 yX1_rungsToLease, Cond.instanceMethod yX1_rungsToLease, Cond.selects RX1 yX1_rungsToLease yX1_rungsToLease, Cond.code yX1_rungsToLease cX1_rungsToLease 3 (some .int), Cond.methodLink RX9 187 yX7_leastLeased, Cond.instanceMethod yX7_leastLeased, Cond.selects RX7 yX7_leastLeased yX7_leastLeased, Cond.code yX7_leastLeased cX7_leastLeased 4 (some .int), Cond.methodLink RL 68 yX10_leases, Cond.instanceMethod yX10_leases, Cond.selects RX10 yX10_leases yX10_leases]
def wsL_law_r26 : List Cond := [Cond.code yX10_leases cX10_leases 6 (some .int), Cond.methodLink RX10 139 yX10_bits, Cond.static yX10_bits, Cond.code yX10_bits cX10_bits 3 (some .int), Cond.methodLink RL 69 yX9_stand, Cond.instanceMethod yX9_stand, Cond.selects RX9 yX9_stand yX9_stand, Cond.code yX9_stand cX9_stand 2 (some .int), Cond.methodLink RX9 190 yX6_assign, Cond.instanceMethod yX6_assign, Cond.selects RX6 yX6_assign yX6_assign, Cond.code yX6_assign cX6_assign 4 none, Cond.methodLink RX6 22 yX1_rungsOpenTo, Cond.methodLink RX6 28 yX6_mostFrom, Cond.instanceMethod yX6_mostFrom, Cond.selects RX6 yX6_mostFrom yX6_mostFrom, Cond.code yX6_mostFrom cX6_mostFrom 8 (some .int), Cond.methodLink RX6 43 Lib.Math.min.name, Cond.methodLink RX6 38 yJ6_bitCount_0f7a4, Cond.static yJ6_bitCount_0f7a4, Cond.initialized RJ6, Cond.code yJ6_bitCount_0f7a4 cJ6_bitCount_0f7a4 1 (some .int), Cond.constant RJ6 265 (1431655765), Cond.constant RJ6 266 (858993459)]
def wsL_law_r27 : List Cond := [Cond.constant RJ6 267 (252645135), Cond.methodLink RX6 32 yX6_lowestPost, Cond.instanceMethod yX6_lowestPost, Cond.selects RX6 yX6_lowestPost yX6_lowestPost, Cond.code yX6_lowestPost cX6_lowestPost 5 (some .int), Cond.methodLink RX9 193 yX6_menPosted, Cond.instanceMethod yX6_menPosted, Cond.selects RX6 yX6_menPosted yX6_menPosted, Cond.code yX6_menPosted cX6_menPosted 1 (some .int), Cond.methodLink RX9 196 yX6_rungOf, Cond.instanceMethod yX6_rungOf, Cond.selects RX6 yX6_rungOf yX6_rungOf, Cond.code yX6_rungOf cX6_rungOf 2 (some .int), Cond.methodLink RL 72 yX10_stand, Cond.instanceMethod yX10_stand, Cond.selects RX10 yX10_stand yX10_stand, Cond.code yX10_stand cX10_stand 7 (some .int), Cond.methodLink RX10 142 yX10_most, Cond.instanceMethod yX10_most, Cond.selects RX10 yX10_most yX10_most, Cond.code yX10_most cX10_most 6 (some .int), Cond.methodLink RL 73 yX9_felt, Cond.instanceMethod yX9_felt, Cond.selects RX9 yX9_felt yX9_felt]
def wsL_law_r28 : List Cond := [Cond.code yX9_felt cX9_felt 3 (some .int), Cond.methodLink RX9 199 yX1_addSight, Cond.instanceMethod yX1_addSight, Cond.selects RX1 yX1_addSight yX1_addSight, Cond.code yX1_addSight cX1_addSight 3 (some .boolean), Cond.methodLink RX9 203 yX1_sightCount, Cond.instanceMethod yX1_sightCount, Cond.selects RX1 yX1_sightCount yX1_sightCount, Cond.code yX1_sightCount cX1_sightCount 1 (some .int), Cond.methodLink RL 77 yX10_felt, Cond.instanceMethod yX10_felt, Cond.selects RX10 yX10_felt yX10_felt, Cond.code yX10_felt cX10_felt 3 (some .int), Cond.fieldLink RX10 145 "RungRightsModel" "sights" "I", Cond.methodLink RL 78 yX9_forget, Cond.instanceMethod yX9_forget, Cond.selects RX9 yX9_forget yX9_forget, Cond.code yX9_forget cX9_forget 2 (some .int), Cond.methodLink RX9 206 yX1_clearSights, Cond.instanceMethod yX1_clearSights, Cond.selects RX1 yX1_clearSights yX1_clearSights, Cond.code yX1_clearSights cX1_clearSights 1 none, Cond.methodLink RL 81 yX10_forget, Cond.instanceMethod yX10_forget]
def wsL_law_r29 : List Cond := [Cond.selects RX10 yX10_forget yX10_forget, Cond.code yX10_forget cX10_forget 2 (some .int), Cond.methodLink RL 82 yX9_ups, Cond.instanceMethod yX9_ups, Cond.selects RX9 yX9_ups yX9_ups, Cond.code yX9_ups cX9_ups 2 (some .int), Cond.methodLink RX9 209 yX8_find, Cond.instanceMethod yX8_find, Cond.selects RX8 yX8_find yX8_find, Cond.code yX8_find cX8_find 5 none, Cond.methodLink RX8 22 yX8_trailOf, Cond.static yX8_trailOf, Cond.code yX8_trailOf cX8_trailOf 7 (some .int), Cond.methodLink RX8 32 yX8_nextPlace, Cond.static yX8_nextPlace, Cond.code yX8_nextPlace cX8_nextPlace 7 (some .int), Cond.methodLink RX8 40 yX1_strideOf, Cond.methodLink RX8 43 yX1_mayBeOn, Cond.methodLink RX8 26 yX1_sightsFit, Cond.instanceMethod yX1_sightsFit, Cond.selects RX1 yX1_sightsFit yX1_sightsFit, Cond.code yX1_sightsFit cX1_sightsFit 2 (some .boolean), Cond.methodLink RX9 212 yX8_size, Cond.instanceMethod yX8_size]
def wsL_law_r30 : List Cond := [Cond.selects RX8 yX8_size yX8_size, Cond.code yX8_size cX8_size 1 (some .int), Cond.methodLink RX9 213 yX8_codeAt, Cond.instanceMethod yX8_codeAt, Cond.selects RX8 yX8_codeAt yX8_codeAt, Cond.code yX8_codeAt cX8_codeAt 2 (some .int), Cond.methodLink RL 85 yX10_ups, Cond.instanceMethod yX10_ups, Cond.selects RX10 yX10_ups yX10_ups, Cond.code yX10_ups cX10_ups 4 (some .int), Cond.methodLink RX10 151 yX10_isFit, Cond.instanceMethod yX10_isFit, Cond.selects RX10 yX10_isFit yX10_isFit, Cond.code yX10_isFit cX10_isFit 4 (some .boolean), Cond.methodLink RX10 148 yX10_wetOnes, Cond.instanceMethod yX10_wetOnes, Cond.selects RX10 yX10_wetOnes yX10_wetOnes, Cond.code yX10_wetOnes cX10_wetOnes 9 (some .int), Cond.methodLink RL 86 yX9_ask, Cond.instanceMethod yX9_ask, Cond.selects RX9 yX9_ask yX9_ask, Cond.code yX9_ask cX9_ask 3 (some .int), Cond.methodLink RX9 216 yX8_rungToFeel, Cond.instanceMethod yX8_rungToFeel]
def wsL_law_r31 : List Cond := [Cond.selects RX8 yX8_rungToFeel yX8_rungToFeel, Cond.code yX8_rungToFeel cX8_rungToFeel 3 (some .int), Cond.methodLink RX8 47 yX8_mostLeftBy, Cond.instanceMethod yX8_mostLeftBy, Cond.selects RX8 yX8_mostLeftBy yX8_mostLeftBy, Cond.code yX8_mostLeftBy cX8_mostLeftBy 4 (some .int), Cond.methodLink RX8 50 Lib.Math.max.name, Cond.static Lib.Math.max.name, Cond.code Lib.Math.max.name Lib.Math.max.code 2 (some .int), Cond.methodLink RX9 219 yX8_mostLeftBy, Cond.methodLink RL 89 yX10_ask, Cond.instanceMethod yX10_ask, Cond.selects RX10 yX10_ask yX10_ask, Cond.code yX10_ask cX10_ask 9 (some .int), Cond.methodLink RL 90 yX9_down, Cond.instanceMethod yX9_down, Cond.selects RX9 yX9_down yX9_down, Cond.code yX9_down cX9_down 3 (some .int), Cond.methodLink RX9 222 yX2_canWin, Cond.static yX2_canWin, Cond.initialized RX2, Cond.code yX2_canWin cX2_canWin 1 (some .boolean), Cond.methodLink RX2 9 yX2_heapsOf, Cond.static yX2_heapsOf]
def wsL_law_r32 : List Cond := [Cond.code yX2_heapsOf cX2_heapsOf 4 (some .int), Cond.methodLink RX9 227 yX2_leastWinningMove, Cond.static yX2_leastWinningMove, Cond.code yX2_leastWinningMove cX2_leastWinningMove 4 (some .int), Cond.methodLink RX2 15 yX2_canWin, Cond.methodLink RL 93 yX10_down, Cond.instanceMethod yX10_down, Cond.selects RX10 yX10_down yX10_down, Cond.code yX10_down cX10_down 4 (some .int), Cond.methodLink RX10 154 yX10_firstDown, Cond.instanceMethod yX10_firstDown, Cond.selects RX10 yX10_firstDown yX10_firstDown, Cond.code yX10_firstDown cX10_firstDown 5 (some .int), Cond.methodLink RL 94 yX9_foot, Cond.instanceMethod yX9_foot, Cond.selects RX9 yX9_foot yX9_foot, Cond.code yX9_foot cX9_foot 5 (some .long), Cond.constantLong RX9 230 (-1000000000000000001), Cond.constantLong RX9 232 (-1000000000000000002), Cond.methodLink RX9 234 yX3_chanceOn, Cond.instanceMethod yX3_chanceOn, Cond.selects RX3 yX3_chanceOn yX3_chanceOn, Cond.code yX3_chanceOn cX3_chanceOn 3 none, Cond.methodLink RX3 22 yX3_reckonChances]
def wsL_law_r33 : List Cond := [Cond.instanceMethod yX3_reckonChances, Cond.selects RX3 yX3_reckonChances yX3_reckonChances, Cond.code yX3_reckonChances cX3_reckonChances 6 none, Cond.methodLink RX3 30 yX3_power, Cond.static yX3_power, Cond.code yX3_power cX3_power 5 (some .long), Cond.methodLink RX9 238 yX3_meanStepsTo, Cond.instanceMethod yX3_meanStepsTo, Cond.selects RX3 yX3_meanStepsTo yX3_meanStepsTo, Cond.code yX3_meanStepsTo cX3_meanStepsTo 4 none, Cond.methodLink RX9 241 yX3_upperNumber, Cond.instanceMethod yX3_upperNumber, Cond.selects RX3 yX3_upperNumber yX3_upperNumber, Cond.code yX3_upperNumber cX3_upperNumber 1 (some .long), Cond.methodLink RX9 245 yX3_lowerNumber, Cond.instanceMethod yX3_lowerNumber, Cond.selects RX3 yX3_lowerNumber yX3_lowerNumber, Cond.code yX3_lowerNumber cX3_lowerNumber 1 (some .long), Cond.methodLink RL 98 yX10_foot, Cond.instanceMethod yX10_foot, Cond.selects RX10 yX10_foot yX10_foot, Cond.code yX10_foot cX10_foot 15 (some .long), Cond.constantLong RX10 157 (-1000000000000000001), Cond.constantLong RX10 159 (-1000000000000000002)]
def wsL_law_r34 : List Cond := [Cond.methodLink RL 99 yX9_year, Cond.instanceMethod yX9_year, Cond.selects RX9 yX9_year yX9_year, Cond.code yX9_year cX9_year 4 (some .int), Cond.methodLink RX9 248 yX9_passYear, Cond.instanceMethod yX9_passYear, Cond.selects RX9 yX9_passYear yX9_passYear, Cond.code yX9_passYear cX9_passYear 5 none, Cond.constant RX9 273 (65537), Cond.methodLink RX9 270 yX4_begin, Cond.methodLink RX9 274 yX0_draw, Cond.instanceMethod yX0_draw, Cond.selects RX0 yX0_draw yX0_draw, Cond.code yX0_draw cX0_draw 6 none, Cond.methodLink RX0 21 yX0_drawnPlace, Cond.static yX0_drawnPlace, Cond.code yX0_drawnPlace cX0_drawnPlace 5 (some .int), Cond.methodLink RX0 38 Lib.Math.min.name, Cond.methodLink RX0 44 Lib.Math.max.name, Cond.methodLink RX0 29 yX1_strideOf, Cond.methodLink RX0 35 yX1_placeOf, Cond.methodLink RX0 25 yX0_become, Cond.methodLink RX9 278 yX4_attempt, Cond.methodLink RL 103 yX10_year]
def wsL_law_r35 : List Cond := [Cond.instanceMethod yX10_year, Cond.selects RX10 yX10_year yX10_year, Cond.code yX10_year cX10_year 11 (some .int), Cond.constant RX10 161 (65537), Cond.methodLink RL 104 yX9_image, Cond.instanceMethod yX9_image, Cond.selects RX9 yX9_image yX9_image, Cond.code yX9_image cX9_image 2 (some .int), Cond.methodLink RX9 251 yX9_isImage, Cond.static yX9_isImage, Cond.code yX9_isImage cX9_isImage 1 (some .boolean), Cond.methodLink RL 107 yX10_image, Cond.instanceMethod yX10_image, Cond.selects RX10 yX10_image yX10_image, Cond.code yX10_image cX10_image 4 (some .int), Cond.methodLink RL 108 yX9_restore, Cond.instanceMethod yX9_restore, Cond.selects RX9 yX9_restore yX9_restore, Cond.code yX9_restore cX9_restore 2 (some .int), Cond.methodLink RL 111 yX10_restore, Cond.instanceMethod yX10_restore, Cond.selects RX10 yX10_restore yX10_restore, Cond.code yX10_restore cX10_restore 4 (some .int), Cond.methodLink RL 112 yX9_told]
def wsL_law_r36 : List Cond := [Cond.instanceMethod yX9_told, Cond.selects RX9 yX9_told yX9_told, Cond.code yX9_told cX9_told 2 (some .int), Cond.methodLink RX9 254 yX1_menStepped, Cond.instanceMethod yX1_menStepped, Cond.selects RX1 yX1_menStepped yX1_menStepped, Cond.code yX1_menStepped cX1_menStepped 1 (some .int), Cond.methodLink RX9 257 yX1_rungsMissing, Cond.instanceMethod yX1_rungsMissing, Cond.selects RX1 yX1_rungsMissing yX1_rungsMissing, Cond.code yX1_rungsMissing cX1_rungsMissing 1 (some .int), Cond.methodLink RX9 260 yX9_toldOfMan, Cond.instanceMethod yX9_toldOfMan, Cond.selects RX9 yX9_toldOfMan yX9_toldOfMan, Cond.code yX9_toldOfMan cX9_toldOfMan 3 (some .int), Cond.methodLink RX9 267 yX1_strideOf, Cond.methodLink RX9 264 yX9_toldOfRung, Cond.instanceMethod yX9_toldOfRung, Cond.selects RX9 yX9_toldOfRung yX9_toldOfRung, Cond.code yX9_toldOfRung cX9_toldOfRung 2 (some .int), Cond.methodLink RL 115 yX10_told, Cond.instanceMethod yX10_told, Cond.selects RX10 yX10_told yX10_told, Cond.code yX10_told cX10_told 3 (some .int)]
def wsL_law : List Cond := (wsL_law_r1 ++ (wsL_law_r2 ++ (wsL_law_r3 ++ (wsL_law_r4 ++ (wsL_law_r5 ++ (wsL_law_r6 ++ (wsL_law_r7 ++ (wsL_law_r8 ++ (wsL_law_r9 ++ (wsL_law_r10 ++ (wsL_law_r11 ++ (wsL_law_r12 ++ (wsL_law_r13 ++ (wsL_law_r14 ++ (wsL_law_r15 ++ (wsL_law_r16 ++ (wsL_law_r17 ++ (wsL_law_r18 ++ (wsL_law_r19 ++ (wsL_law_r20 ++ (wsL_law_r21 ++ (wsL_law_r22 ++ (wsL_law_r23 ++ (wsL_law_r24 ++ (wsL_law_r25 ++ (wsL_law_r26 ++ (wsL_law_r27 ++ (wsL_law_r28 ++ (wsL_law_r29 ++ (wsL_law_r30 ++ (wsL_law_r31 ++ (wsL_law_r32 ++ (wsL_law_r33 ++ (wsL_law_r34 ++ (wsL_law_r35 ++ wsL_law_r36))))))))))))))))))))))))))))))))))) ++ wsX90 ++ wsX100 ++ wsX10 ++ wsX50 ++ wsX00 ++ wsX40 ++ wsX70 ++ wsX60 ++ wsX80 ++ wsX30 ++ ([] : List Cond)
theorem inlX0 : ∀ w ∈ wsX00, w ∈ wsL_law := fun _ h => List.mem_append_left _ (List.mem_append_left _ (List.mem_append_left _ (List.mem_append_left _ (List.mem_append_left _ (List.mem_append_left _ (List.mem_append_right _ h))))))
theorem inlX1 : ∀ w ∈ wsX10, w ∈ wsL_law := fun _ h => List.mem_append_left _ (List.mem_append_left _ (List.mem_append_left _ (List.mem_append_left _ (List.mem_append_left _ (List.mem_append_left _ (List.mem_append_left _ (List.mem_append_left _ (List.mem_append_right _ h))))))))
theorem inlX3 : ∀ w ∈ wsX30, w ∈ wsL_law := fun _ h => List.mem_append_left _ (List.mem_append_right _ h)
theorem inlX4 : ∀ w ∈ wsX40, w ∈ wsL_law := fun _ h => List.mem_append_left _ (List.mem_append_left _ (List.mem_append_left _ (List.mem_append_left _ (List.mem_append_left _ (List.mem_append_right _ h)))))
theorem inlX5 : ∀ w ∈ wsX50, w ∈ wsL_law := fun _ h => List.mem_append_left _ (List.mem_append_left _ (List.mem_append_left _ (List.mem_append_left _ (List.mem_append_left _ (List.mem_append_left _ (List.mem_append_left _ (List.mem_append_right _ h)))))))
theorem inlX6 : ∀ w ∈ wsX60, w ∈ wsL_law := fun _ h => List.mem_append_left _ (List.mem_append_left _ (List.mem_append_left _ (List.mem_append_right _ h)))
theorem inlX7 : ∀ w ∈ wsX70, w ∈ wsL_law := fun _ h => List.mem_append_left _ (List.mem_append_left _ (List.mem_append_left _ (List.mem_append_left _ (List.mem_append_right _ h))))
theorem inlX8 : ∀ w ∈ wsX80, w ∈ wsL_law := fun _ h => List.mem_append_left _ (List.mem_append_left _ (List.mem_append_right _ h))
theorem inlX9 : ∀ w ∈ wsX90, w ∈ wsL_law := fun _ h => List.mem_append_left _ (List.mem_append_left _ (List.mem_append_left _ (List.mem_append_left _ (List.mem_append_left _ (List.mem_append_left _ (List.mem_append_left _ (List.mem_append_left _ (List.mem_append_left _ (List.mem_append_left _ (List.mem_append_right _ h))))))))))
theorem inlX10 : ∀ w ∈ wsX100, w ∈ wsL_law := fun _ h => List.mem_append_left _ (List.mem_append_left _ (List.mem_append_left _ (List.mem_append_left _ (List.mem_append_left _ (List.mem_append_left _ (List.mem_append_left _ (List.mem_append_left _ (List.mem_append_left _ (List.mem_append_right _ h)))))))))
abbrev vwCl : List vw_C := [(RX0, TX0, 3), (RX1, TX1, 11), (RX3, TX3, 3), (RX4, TX4, 8), (RX5, TX5, 2), (RX6, TX6, 3), (RX7, TX7, 1), (RX8, TX8, 3), (RX9, TX9, 9), (RX10, TX10, 20)]
end
section
theorem dX0_init_0 : decode cX0_init 0 = .ok (.aload_n 0, 1) := by decide +kernel
theorem dX0_init_1 : decode cX0_init 1 = .ok (.invokespecial 3, 3) := by decide +kernel
theorem dX0_init_4 : decode cX0_init 4 = .ok (.aload_n 0, 1) := by decide +kernel
theorem dX0_init_5 : decode cX0_init 5 = .ok (.iconst 4, 1) := by decide +kernel
theorem dX0_init_6 : decode cX0_init 6 = .ok (.putfield 11, 3) := by decide +kernel
theorem dX0_init_9 : decode cX0_init 9 = .ok (.aload_n 0, 1) := by decide +kernel
theorem dX0_init_10 : decode cX0_init 10 = .ok (.iconst 0, 1) := by decide +kernel
theorem dX0_init_11 : decode cX0_init 11 = .ok (.putfield 15, 3) := by decide +kernel
theorem dX0_init_14 : decode cX0_init 14 = .ok (.aload_n 0, 1) := by decide +kernel
theorem dX0_init_15 : decode cX0_init 15 = .ok (.iconst 0, 1) := by decide +kernel
theorem dX0_init_16 : decode cX0_init 16 = .ok (.putfield 18, 3) := by decide +kernel
theorem dX0_init_19 : decode cX0_init 19 = .ok (.return_, 1) := by decide +kernel
theorem dX0_become_0 : decode cX0_become 0 = .ok (.aload_n 0, 1) := by decide +kernel
theorem dX0_become_1 : decode cX0_become 1 = .ok (.iload_n 1, 1) := by decide +kernel
theorem dX0_become_2 : decode cX0_become 2 = .ok (.putfield 11, 3) := by decide +kernel
theorem dX0_become_5 : decode cX0_become 5 = .ok (.aload_n 0, 1) := by decide +kernel
theorem dX0_become_6 : decode cX0_become 6 = .ok (.iload_n 2, 1) := by decide +kernel
theorem dX0_become_7 : decode cX0_become 7 = .ok (.putfield 15, 3) := by decide +kernel
theorem dX0_become_10 : decode cX0_become 10 = .ok (.aload_n 0, 1) := by decide +kernel
theorem dX0_become_11 : decode cX0_become 11 = .ok (.iload_n 3, 1) := by decide +kernel
theorem dX0_become_12 : decode cX0_become 12 = .ok (.putfield 18, 3) := by decide +kernel
theorem dX0_become_15 : decode cX0_become 15 = .ok (.return_, 1) := by decide +kernel
theorem dX0_kindOf_0 : decode cX0_kindOf 0 = .ok (.aload_n 0, 1) := by decide +kernel
theorem dX0_kindOf_1 : decode cX0_kindOf 1 = .ok (.getfield 11, 3) := by decide +kernel
theorem dX0_kindOf_4 : decode cX0_kindOf 4 = .ok (.ireturn, 1) := by decide +kernel
theorem dX0_doer_0 : decode cX0_doer 0 = .ok (.aload_n 0, 1) := by decide +kernel
theorem dX0_doer_1 : decode cX0_doer 1 = .ok (.getfield 15, 3) := by decide +kernel
theorem dX0_doer_4 : decode cX0_doer 4 = .ok (.ireturn, 1) := by decide +kernel
theorem dX0_target_0 : decode cX0_target 0 = .ok (.aload_n 0, 1) := by decide +kernel
theorem dX0_target_1 : decode cX0_target 1 = .ok (.getfield 18, 3) := by decide +kernel
theorem dX0_target_4 : decode cX0_target 4 = .ok (.ireturn, 1) := by decide +kernel
theorem dX0_draw_0 : decode cX0_draw 0 = .ok (.iload_n 1, 1) := by decide +kernel
theorem dX0_draw_1 : decode cX0_draw 1 = .ok (.bipush 6, 2) := by decide +kernel
theorem dX0_draw_3 : decode cX0_draw 3 = .ok (.irem, 1) := by decide +kernel
theorem dX0_draw_4 : decode cX0_draw 4 = .ok (.istore_n 3, 1) := by decide +kernel
theorem dX0_draw_5 : decode cX0_draw 5 = .ok (.iload_n 1, 1) := by decide +kernel
theorem dX0_draw_6 : decode cX0_draw 6 = .ok (.bipush 48, 2) := by decide +kernel
theorem dX0_draw_8 : decode cX0_draw 8 = .ok (.idiv, 1) := by decide +kernel
theorem dX0_draw_9 : decode cX0_draw 9 = .ok (.istore 4, 2) := by decide +kernel
theorem dX0_draw_11 : decode cX0_draw 11 = .ok (.iconst 1, 1) := by decide +kernel
theorem dX0_draw_12 : decode cX0_draw 12 = .ok (.iload 4, 2) := by decide +kernel
theorem dX0_draw_14 : decode cX0_draw 14 = .ok (.bipush 12, 2) := by decide +kernel
theorem dX0_draw_16 : decode cX0_draw 16 = .ok (.irem, 1) := by decide +kernel
theorem dX0_draw_17 : decode cX0_draw 17 = .ok (.iadd, 1) := by decide +kernel
theorem dX0_draw_18 : decode cX0_draw 18 = .ok (.istore 5, 2) := by decide +kernel
theorem dX0_draw_20 : decode cX0_draw 20 = .ok (.iload_n 1, 1) := by decide +kernel
theorem dX0_draw_21 : decode cX0_draw 21 = .ok (.bipush 6, 2) := by decide +kernel
theorem dX0_draw_23 : decode cX0_draw 23 = .ok (.idiv, 1) := by decide +kernel
theorem dX0_draw_24 : decode cX0_draw 24 = .ok (.bipush 8, 2) := by decide +kernel
theorem dX0_draw_26 : decode cX0_draw 26 = .ok (.irem, 1) := by decide +kernel
theorem dX0_draw_27 : decode cX0_draw 27 = .ok (.tableswitch 89 0 5 #[37, 37, 37, 37, 53, 64], 37) := by decide +kernel
theorem dX0_draw_64 : decode cX0_draw 64 = .ok (.aload_n 0, 1) := by decide +kernel
theorem dX0_draw_65 : decode cX0_draw 65 = .ok (.iconst 0, 1) := by decide +kernel
theorem dX0_draw_66 : decode cX0_draw 66 = .ok (.iload_n 3, 1) := by decide +kernel
theorem dX0_draw_67 : decode cX0_draw 67 = .ok (.iload 4, 2) := by decide +kernel
theorem dX0_draw_69 : decode cX0_draw 69 = .ok (.iload_n 3, 1) := by decide +kernel
theorem dX0_draw_70 : decode cX0_draw 70 = .ok (.aload_n 2, 1) := by decide +kernel
theorem dX0_draw_71 : decode cX0_draw 71 = .ok (.invokestatic 21, 3) := by decide +kernel
theorem dX0_draw_74 : decode cX0_draw 74 = .ok (.invokevirtual 25, 3) := by decide +kernel
theorem dX0_draw_77 : decode cX0_draw 77 = .ok (.goto 46, 3) := by decide +kernel
theorem dX0_draw_80 : decode cX0_draw 80 = .ok (.aload_n 0, 1) := by decide +kernel
theorem dX0_draw_81 : decode cX0_draw 81 = .ok (.iconst 1, 1) := by decide +kernel
theorem dX0_draw_82 : decode cX0_draw 82 = .ok (.iload_n 3, 1) := by decide +kernel
theorem dX0_draw_83 : decode cX0_draw 83 = .ok (.iload 5, 2) := by decide +kernel
theorem dX0_draw_85 : decode cX0_draw 85 = .ok (.invokevirtual 25, 3) := by decide +kernel
theorem dX0_draw_88 : decode cX0_draw 88 = .ok (.goto 35, 3) := by decide +kernel
theorem dX0_draw_91 : decode cX0_draw 91 = .ok (.aload_n 0, 1) := by decide +kernel
theorem dX0_draw_92 : decode cX0_draw 92 = .ok (.iload 4, 2) := by decide +kernel
theorem dX0_draw_94 : decode cX0_draw 94 = .ok (.bipush 12, 2) := by decide +kernel
theorem dX0_draw_96 : decode cX0_draw 96 = .ok (.idiv, 1) := by decide +kernel
theorem dX0_draw_97 : decode cX0_draw 97 = .ok (.iconst 2, 1) := by decide +kernel
theorem dX0_draw_98 : decode cX0_draw 98 = .ok (.irem, 1) := by decide +kernel
theorem dX0_draw_99 : decode cX0_draw 99 = .ok (.ifCond .ne 7, 3) := by decide +kernel
theorem dX0_draw_102 : decode cX0_draw 102 = .ok (.iconst 2, 1) := by decide +kernel
theorem dX0_draw_103 : decode cX0_draw 103 = .ok (.goto 4, 3) := by decide +kernel
theorem dX0_draw_106 : decode cX0_draw 106 = .ok (.iconst 3, 1) := by decide +kernel
theorem dX0_draw_107 : decode cX0_draw 107 = .ok (.iload_n 3, 1) := by decide +kernel
theorem dX0_draw_108 : decode cX0_draw 108 = .ok (.iload 5, 2) := by decide +kernel
theorem dX0_draw_110 : decode cX0_draw 110 = .ok (.invokevirtual 25, 3) := by decide +kernel
theorem dX0_draw_113 : decode cX0_draw 113 = .ok (.goto 10, 3) := by decide +kernel
theorem dX0_draw_116 : decode cX0_draw 116 = .ok (.aload_n 0, 1) := by decide +kernel
theorem dX0_draw_117 : decode cX0_draw 117 = .ok (.iconst 4, 1) := by decide +kernel
theorem dX0_draw_118 : decode cX0_draw 118 = .ok (.iload_n 3, 1) := by decide +kernel
theorem dX0_draw_119 : decode cX0_draw 119 = .ok (.iconst 0, 1) := by decide +kernel
theorem dX0_draw_120 : decode cX0_draw 120 = .ok (.invokevirtual 25, 3) := by decide +kernel
theorem dX0_draw_123 : decode cX0_draw 123 = .ok (.return_, 1) := by decide +kernel
theorem dX0_drawnPlace_0 : decode cX0_drawnPlace 0 = .ok (.aload_n 2, 1) := by decide +kernel
theorem dX0_drawnPlace_1 : decode cX0_drawnPlace 1 = .ok (.iload_n 1, 1) := by decide +kernel
theorem dX0_drawnPlace_2 : decode cX0_drawnPlace 2 = .ok (.invokevirtual 29, 3) := by decide +kernel
theorem dX0_drawnPlace_5 : decode cX0_drawnPlace 5 = .ok (.istore_n 3, 1) := by decide +kernel
theorem dX0_drawnPlace_6 : decode cX0_drawnPlace 6 = .ok (.iload_n 3, 1) := by decide +kernel
theorem dX0_drawnPlace_7 : decode cX0_drawnPlace 7 = .ok (.ifCond .le 11, 3) := by decide +kernel
theorem dX0_drawnPlace_10 : decode cX0_drawnPlace 10 = .ok (.iconst 1, 1) := by decide +kernel
theorem dX0_drawnPlace_11 : decode cX0_drawnPlace 11 = .ok (.iload_n 0, 1) := by decide +kernel
theorem dX0_drawnPlace_12 : decode cX0_drawnPlace 12 = .ok (.iload_n 3, 1) := by decide +kernel
theorem dX0_drawnPlace_13 : decode cX0_drawnPlace 13 = .ok (.irem, 1) := by decide +kernel
theorem dX0_drawnPlace_14 : decode cX0_drawnPlace 14 = .ok (.iadd, 1) := by decide +kernel
theorem dX0_drawnPlace_15 : decode cX0_drawnPlace 15 = .ok (.goto 4, 3) := by decide +kernel
theorem dX0_drawnPlace_18 : decode cX0_drawnPlace 18 = .ok (.iconst 1, 1) := by decide +kernel
theorem dX0_drawnPlace_19 : decode cX0_drawnPlace 19 = .ok (.istore 4, 2) := by decide +kernel
theorem dX0_drawnPlace_21 : decode cX0_drawnPlace 21 = .ok (.iload_n 0, 1) := by decide +kernel
theorem dX0_drawnPlace_22 : decode cX0_drawnPlace 22 = .ok (.iconst 4, 1) := by decide +kernel
theorem dX0_drawnPlace_23 : decode cX0_drawnPlace 23 = .ok (.idiv, 1) := by decide +kernel
theorem dX0_drawnPlace_24 : decode cX0_drawnPlace 24 = .ok (.iconst 4, 1) := by decide +kernel
theorem dX0_drawnPlace_25 : decode cX0_drawnPlace 25 = .ok (.irem, 1) := by decide +kernel
theorem dX0_drawnPlace_26 : decode cX0_drawnPlace 26 = .ok (.ifCond .eq 17, 3) := by decide +kernel
theorem dX0_drawnPlace_29 : decode cX0_drawnPlace 29 = .ok (.aload_n 2, 1) := by decide +kernel
theorem dX0_drawnPlace_30 : decode cX0_drawnPlace 30 = .ok (.iload_n 1, 1) := by decide +kernel
theorem dX0_drawnPlace_31 : decode cX0_drawnPlace 31 = .ok (.invokevirtual 35, 3) := by decide +kernel
theorem dX0_drawnPlace_34 : decode cX0_drawnPlace 34 = .ok (.iload 4, 2) := by decide +kernel
theorem dX0_drawnPlace_36 : decode cX0_drawnPlace 36 = .ok (.iadd, 1) := by decide +kernel
theorem dX0_drawnPlace_37 : decode cX0_drawnPlace 37 = .ok (.bipush 13, 2) := by decide +kernel
theorem dX0_drawnPlace_39 : decode cX0_drawnPlace 39 = .ok (.invokestatic 38, 3) := by decide +kernel
theorem dX0_drawnPlace_42 : decode cX0_drawnPlace 42 = .ok (.ireturn, 1) := by decide +kernel
theorem dX0_drawnPlace_43 : decode cX0_drawnPlace 43 = .ok (.aload_n 2, 1) := by decide +kernel
theorem dX0_drawnPlace_44 : decode cX0_drawnPlace 44 = .ok (.iload_n 1, 1) := by decide +kernel
theorem dX0_drawnPlace_45 : decode cX0_drawnPlace 45 = .ok (.invokevirtual 35, 3) := by decide +kernel
theorem dX0_drawnPlace_48 : decode cX0_drawnPlace 48 = .ok (.iload 4, 2) := by decide +kernel
theorem dX0_drawnPlace_50 : decode cX0_drawnPlace 50 = .ok (.isub, 1) := by decide +kernel
theorem dX0_drawnPlace_51 : decode cX0_drawnPlace 51 = .ok (.iconst 0, 1) := by decide +kernel
theorem dX0_drawnPlace_52 : decode cX0_drawnPlace 52 = .ok (.invokestatic 44, 3) := by decide +kernel
theorem dX0_drawnPlace_55 : decode cX0_drawnPlace 55 = .ok (.ireturn, 1) := by decide +kernel
theorem dX1_init_0 : decode cX1_init 0 = .ok (.aload_n 0, 1) := by decide +kernel
theorem dX1_init_1 : decode cX1_init 1 = .ok (.invokespecial 3, 3) := by decide +kernel
theorem dX1_init_4 : decode cX1_init 4 = .ok (.aload_n 0, 1) := by decide +kernel
theorem dX1_init_5 : decode cX1_init 5 = .ok (.bipush 13, 2) := by decide +kernel
theorem dX1_init_7 : decode cX1_init 7 = .ok (.newarray .int, 2) := by decide +kernel
theorem dX1_init_9 : decode cX1_init 9 = .ok (.putfield 9, 3) := by decide +kernel
theorem dX1_init_12 : decode cX1_init 12 = .ok (.aload_n 0, 1) := by decide +kernel
theorem dX1_init_13 : decode cX1_init 13 = .ok (.bipush 13, 2) := by decide +kernel
theorem dX1_init_15 : decode cX1_init 15 = .ok (.newarray .int, 2) := by decide +kernel
theorem dX1_init_17 : decode cX1_init 17 = .ok (.putfield 15, 3) := by decide +kernel
theorem dX1_init_20 : decode cX1_init 20 = .ok (.aload_n 0, 1) := by decide +kernel
theorem dX1_init_21 : decode cX1_init 21 = .ok (.iconst 0, 1) := by decide +kernel
theorem dX1_init_22 : decode cX1_init 22 = .ok (.putfield 18, 3) := by decide +kernel
theorem dX1_init_25 : decode cX1_init 25 = .ok (.aload_n 0, 1) := by decide +kernel
theorem dX1_init_26 : decode cX1_init 26 = .ok (.bipush 6, 2) := by decide +kernel
theorem dX1_init_28 : decode cX1_init 28 = .ok (.newarray .int, 2) := by decide +kernel
theorem dX1_init_30 : decode cX1_init 30 = .ok (.putfield 22, 3) := by decide +kernel
theorem dX1_init_33 : decode cX1_init 33 = .ok (.aload_n 0, 1) := by decide +kernel
theorem dX1_init_34 : decode cX1_init 34 = .ok (.bipush 6, 2) := by decide +kernel
theorem dX1_init_36 : decode cX1_init 36 = .ok (.newarray .int, 2) := by decide +kernel
theorem dX1_init_38 : decode cX1_init 38 = .ok (.putfield 25, 3) := by decide +kernel
theorem dX1_init_41 : decode cX1_init 41 = .ok (.aload_n 0, 1) := by decide +kernel
theorem dX1_init_42 : decode cX1_init 42 = .ok (.bipush 6, 2) := by decide +kernel
theorem dX1_init_44 : decode cX1_init 44 = .ok (.newarray .int, 2) := by decide +kernel
theorem dX1_init_46 : decode cX1_init 46 = .ok (.putfield 28, 3) := by decide +kernel
theorem dX1_init_49 : decode cX1_init 49 = .ok (.aload_n 0, 1) := by decide +kernel
theorem dX1_init_50 : decode cX1_init 50 = .ok (.iconst 0, 1) := by decide +kernel
theorem dX1_init_51 : decode cX1_init 51 = .ok (.putfield 31, 3) := by decide +kernel
theorem dX1_init_54 : decode cX1_init 54 = .ok (.aload_n 0, 1) := by decide +kernel
theorem dX1_init_55 : decode cX1_init 55 = .ok (.iconst 0, 1) := by decide +kernel
theorem dX1_init_56 : decode cX1_init 56 = .ok (.putfield 34, 3) := by decide +kernel
theorem dX1_init_59 : decode cX1_init 59 = .ok (.aload_n 0, 1) := by decide +kernel
theorem dX1_init_60 : decode cX1_init 60 = .ok (.iconst 0, 1) := by decide +kernel
theorem dX1_init_61 : decode cX1_init 61 = .ok (.putfield 37, 3) := by decide +kernel
theorem dX1_init_64 : decode cX1_init 64 = .ok (.aload_n 0, 1) := by decide +kernel
theorem dX1_init_65 : decode cX1_init 65 = .ok (.iconst 0, 1) := by decide +kernel
theorem dX1_init_66 : decode cX1_init 66 = .ok (.putfield 40, 3) := by decide +kernel
theorem dX1_init_69 : decode cX1_init 69 = .ok (.aload_n 0, 1) := by decide +kernel
theorem dX1_init_70 : decode cX1_init 70 = .ok (.iconst 0, 1) := by decide +kernel
theorem dX1_init_71 : decode cX1_init 71 = .ok (.putfield 43, 3) := by decide +kernel
theorem dX1_init_74 : decode cX1_init 74 = .ok (.aload_n 0, 1) := by decide +kernel
theorem dX1_init_75 : decode cX1_init 75 = .ok (.getfield 9, 3) := by decide +kernel
theorem dX1_init_78 : decode cX1_init 78 = .ok (.iconst (-1), 1) := by decide +kernel
theorem dX1_init_79 : decode cX1_init 79 = .ok (.invokestatic 46, 3) := by decide +kernel
theorem dX1_init_82 : decode cX1_init 82 = .ok (.aload_n 0, 1) := by decide +kernel
theorem dX1_init_83 : decode cX1_init 83 = .ok (.getfield 15, 3) := by decide +kernel
theorem dX1_init_86 : decode cX1_init 86 = .ok (.iconst (-1), 1) := by decide +kernel
theorem dX1_init_87 : decode cX1_init 87 = .ok (.invokestatic 46, 3) := by decide +kernel
theorem dX1_init_90 : decode cX1_init 90 = .ok (.aload_n 0, 1) := by decide +kernel
theorem dX1_init_91 : decode cX1_init 91 = .ok (.getfield 22, 3) := by decide +kernel
theorem dX1_init_94 : decode cX1_init 94 = .ok (.iconst 2, 1) := by decide +kernel
theorem dX1_init_95 : decode cX1_init 95 = .ok (.invokestatic 46, 3) := by decide +kernel
theorem dX1_init_98 : decode cX1_init 98 = .ok (.aload_n 0, 1) := by decide +kernel
theorem dX1_init_99 : decode cX1_init 99 = .ok (.getfield 25, 3) := by decide +kernel
theorem dX1_init_102 : decode cX1_init 102 = .ok (.iconst 5, 1) := by decide +kernel
theorem dX1_init_103 : decode cX1_init 103 = .ok (.invokestatic 46, 3) := by decide +kernel
theorem dX1_init_106 : decode cX1_init 106 = .ok (.return_, 1) := by decide +kernel
theorem dX1_copyFrom_0 : decode cX1_copyFrom 0 = .ok (.aload_n 1, 1) := by decide +kernel
theorem dX1_copyFrom_1 : decode cX1_copyFrom 1 = .ok (.getfield 9, 3) := by decide +kernel
theorem dX1_copyFrom_4 : decode cX1_copyFrom 4 = .ok (.iconst 0, 1) := by decide +kernel
theorem dX1_copyFrom_5 : decode cX1_copyFrom 5 = .ok (.aload_n 0, 1) := by decide +kernel
theorem dX1_copyFrom_6 : decode cX1_copyFrom 6 = .ok (.getfield 9, 3) := by decide +kernel
theorem dX1_copyFrom_9 : decode cX1_copyFrom 9 = .ok (.iconst 0, 1) := by decide +kernel
theorem dX1_copyFrom_10 : decode cX1_copyFrom 10 = .ok (.bipush 13, 2) := by decide +kernel
theorem dX1_copyFrom_12 : decode cX1_copyFrom 12 = .ok (.invokestatic 52, 3) := by decide +kernel
theorem dX1_copyFrom_15 : decode cX1_copyFrom 15 = .ok (.aload_n 1, 1) := by decide +kernel
theorem dX1_copyFrom_16 : decode cX1_copyFrom 16 = .ok (.getfield 15, 3) := by decide +kernel
theorem dX1_copyFrom_19 : decode cX1_copyFrom 19 = .ok (.iconst 0, 1) := by decide +kernel
theorem dX1_copyFrom_20 : decode cX1_copyFrom 20 = .ok (.aload_n 0, 1) := by decide +kernel
theorem dX1_copyFrom_21 : decode cX1_copyFrom 21 = .ok (.getfield 15, 3) := by decide +kernel
theorem dX1_copyFrom_24 : decode cX1_copyFrom 24 = .ok (.iconst 0, 1) := by decide +kernel
theorem dX1_copyFrom_25 : decode cX1_copyFrom 25 = .ok (.bipush 13, 2) := by decide +kernel
theorem dX1_copyFrom_27 : decode cX1_copyFrom 27 = .ok (.invokestatic 52, 3) := by decide +kernel
theorem dX1_copyFrom_30 : decode cX1_copyFrom 30 = .ok (.aload_n 1, 1) := by decide +kernel
theorem dX1_copyFrom_31 : decode cX1_copyFrom 31 = .ok (.getfield 22, 3) := by decide +kernel
theorem dX1_copyFrom_34 : decode cX1_copyFrom 34 = .ok (.iconst 0, 1) := by decide +kernel
theorem dX1_copyFrom_35 : decode cX1_copyFrom 35 = .ok (.aload_n 0, 1) := by decide +kernel
theorem dX1_copyFrom_36 : decode cX1_copyFrom 36 = .ok (.getfield 22, 3) := by decide +kernel
theorem dX1_copyFrom_39 : decode cX1_copyFrom 39 = .ok (.iconst 0, 1) := by decide +kernel
theorem dX1_copyFrom_40 : decode cX1_copyFrom 40 = .ok (.bipush 6, 2) := by decide +kernel
theorem dX1_copyFrom_42 : decode cX1_copyFrom 42 = .ok (.invokestatic 52, 3) := by decide +kernel
theorem dX1_copyFrom_45 : decode cX1_copyFrom 45 = .ok (.aload_n 1, 1) := by decide +kernel
theorem dX1_copyFrom_46 : decode cX1_copyFrom 46 = .ok (.getfield 25, 3) := by decide +kernel
theorem dX1_copyFrom_49 : decode cX1_copyFrom 49 = .ok (.iconst 0, 1) := by decide +kernel
theorem dX1_copyFrom_50 : decode cX1_copyFrom 50 = .ok (.aload_n 0, 1) := by decide +kernel
theorem dX1_copyFrom_51 : decode cX1_copyFrom 51 = .ok (.getfield 25, 3) := by decide +kernel
theorem dX1_copyFrom_54 : decode cX1_copyFrom 54 = .ok (.iconst 0, 1) := by decide +kernel
theorem dX1_copyFrom_55 : decode cX1_copyFrom 55 = .ok (.bipush 6, 2) := by decide +kernel
theorem dX1_copyFrom_57 : decode cX1_copyFrom 57 = .ok (.invokestatic 52, 3) := by decide +kernel
theorem dX1_copyFrom_60 : decode cX1_copyFrom 60 = .ok (.aload_n 1, 1) := by decide +kernel
theorem dX1_copyFrom_61 : decode cX1_copyFrom 61 = .ok (.getfield 28, 3) := by decide +kernel
theorem dX1_copyFrom_64 : decode cX1_copyFrom 64 = .ok (.iconst 0, 1) := by decide +kernel
theorem dX1_copyFrom_65 : decode cX1_copyFrom 65 = .ok (.aload_n 0, 1) := by decide +kernel
theorem dX1_copyFrom_66 : decode cX1_copyFrom 66 = .ok (.getfield 28, 3) := by decide +kernel
theorem dX1_copyFrom_69 : decode cX1_copyFrom 69 = .ok (.iconst 0, 1) := by decide +kernel
theorem dX1_copyFrom_70 : decode cX1_copyFrom 70 = .ok (.bipush 6, 2) := by decide +kernel
theorem dX1_copyFrom_72 : decode cX1_copyFrom 72 = .ok (.invokestatic 52, 3) := by decide +kernel
theorem dX1_copyFrom_75 : decode cX1_copyFrom 75 = .ok (.aload_n 0, 1) := by decide +kernel
theorem dX1_copyFrom_76 : decode cX1_copyFrom 76 = .ok (.aload_n 1, 1) := by decide +kernel
theorem dX1_copyFrom_77 : decode cX1_copyFrom 77 = .ok (.getfield 18, 3) := by decide +kernel
theorem dX1_copyFrom_80 : decode cX1_copyFrom 80 = .ok (.putfield 18, 3) := by decide +kernel
theorem dX1_copyFrom_83 : decode cX1_copyFrom 83 = .ok (.aload_n 0, 1) := by decide +kernel
theorem dX1_copyFrom_84 : decode cX1_copyFrom 84 = .ok (.aload_n 1, 1) := by decide +kernel
theorem dX1_copyFrom_85 : decode cX1_copyFrom 85 = .ok (.getfield 31, 3) := by decide +kernel
theorem dX1_copyFrom_88 : decode cX1_copyFrom 88 = .ok (.putfield 31, 3) := by decide +kernel
theorem dX1_copyFrom_91 : decode cX1_copyFrom 91 = .ok (.aload_n 0, 1) := by decide +kernel
theorem dX1_copyFrom_92 : decode cX1_copyFrom 92 = .ok (.aload_n 1, 1) := by decide +kernel
theorem dX1_copyFrom_93 : decode cX1_copyFrom 93 = .ok (.getfield 34, 3) := by decide +kernel
theorem dX1_copyFrom_96 : decode cX1_copyFrom 96 = .ok (.putfield 34, 3) := by decide +kernel
theorem dX1_copyFrom_99 : decode cX1_copyFrom 99 = .ok (.aload_n 0, 1) := by decide +kernel
theorem dX1_copyFrom_100 : decode cX1_copyFrom 100 = .ok (.aload_n 1, 1) := by decide +kernel
theorem dX1_copyFrom_101 : decode cX1_copyFrom 101 = .ok (.getfield 37, 3) := by decide +kernel
theorem dX1_copyFrom_104 : decode cX1_copyFrom 104 = .ok (.putfield 37, 3) := by decide +kernel
theorem dX1_copyFrom_107 : decode cX1_copyFrom 107 = .ok (.aload_n 0, 1) := by decide +kernel
theorem dX1_copyFrom_108 : decode cX1_copyFrom 108 = .ok (.aload_n 1, 1) := by decide +kernel
theorem dX1_copyFrom_109 : decode cX1_copyFrom 109 = .ok (.getfield 40, 3) := by decide +kernel
theorem dX1_copyFrom_112 : decode cX1_copyFrom 112 = .ok (.putfield 40, 3) := by decide +kernel
theorem dX1_copyFrom_115 : decode cX1_copyFrom 115 = .ok (.aload_n 0, 1) := by decide +kernel
theorem dX1_copyFrom_116 : decode cX1_copyFrom 116 = .ok (.aload_n 1, 1) := by decide +kernel
theorem dX1_copyFrom_117 : decode cX1_copyFrom 117 = .ok (.getfield 43, 3) := by decide +kernel
theorem dX1_copyFrom_120 : decode cX1_copyFrom 120 = .ok (.putfield 43, 3) := by decide +kernel
theorem dX1_copyFrom_123 : decode cX1_copyFrom 123 = .ok (.return_, 1) := by decide +kernel
theorem dX1_ownerOf_0 : decode cX1_ownerOf 0 = .ok (.iload_n 1, 1) := by decide +kernel
theorem dX1_ownerOf_1 : decode cX1_ownerOf 1 = .ok (.invokestatic 58, 3) := by decide +kernel
theorem dX1_ownerOf_4 : decode cX1_ownerOf 4 = .ok (.ifCond .eq 12, 3) := by decide +kernel
theorem dX1_ownerOf_7 : decode cX1_ownerOf 7 = .ok (.aload_n 0, 1) := by decide +kernel
theorem dX1_ownerOf_8 : decode cX1_ownerOf 8 = .ok (.getfield 9, 3) := by decide +kernel
theorem dX1_ownerOf_11 : decode cX1_ownerOf 11 = .ok (.iload_n 1, 1) := by decide +kernel
theorem dX1_ownerOf_12 : decode cX1_ownerOf 12 = .ok (.iaload, 1) := by decide +kernel
theorem dX1_ownerOf_13 : decode cX1_ownerOf 13 = .ok (.goto 4, 3) := by decide +kernel
theorem dX1_ownerOf_16 : decode cX1_ownerOf 16 = .ok (.iconst (-1), 1) := by decide +kernel
theorem dX1_ownerOf_17 : decode cX1_ownerOf 17 = .ok (.ireturn, 1) := by decide +kernel
theorem dX1_leaserOf_0 : decode cX1_leaserOf 0 = .ok (.iload_n 1, 1) := by decide +kernel
theorem dX1_leaserOf_1 : decode cX1_leaserOf 1 = .ok (.invokestatic 58, 3) := by decide +kernel
theorem dX1_leaserOf_4 : decode cX1_leaserOf 4 = .ok (.ifCond .eq 12, 3) := by decide +kernel
theorem dX1_leaserOf_7 : decode cX1_leaserOf 7 = .ok (.aload_n 0, 1) := by decide +kernel
theorem dX1_leaserOf_8 : decode cX1_leaserOf 8 = .ok (.getfield 15, 3) := by decide +kernel
theorem dX1_leaserOf_11 : decode cX1_leaserOf 11 = .ok (.iload_n 1, 1) := by decide +kernel
theorem dX1_leaserOf_12 : decode cX1_leaserOf 12 = .ok (.iaload, 1) := by decide +kernel
theorem dX1_leaserOf_13 : decode cX1_leaserOf 13 = .ok (.goto 4, 3) := by decide +kernel
theorem dX1_leaserOf_16 : decode cX1_leaserOf 16 = .ok (.iconst (-1), 1) := by decide +kernel
theorem dX1_leaserOf_17 : decode cX1_leaserOf 17 = .ok (.ireturn, 1) := by decide +kernel
theorem dX1_isMissing_0 : decode cX1_isMissing 0 = .ok (.aload_n 0, 1) := by decide +kernel
theorem dX1_isMissing_1 : decode cX1_isMissing 1 = .ok (.getfield 18, 3) := by decide +kernel
theorem dX1_isMissing_4 : decode cX1_isMissing 4 = .ok (.iload_n 1, 1) := by decide +kernel
theorem dX1_isMissing_5 : decode cX1_isMissing 5 = .ok (.invokestatic 62, 3) := by decide +kernel
theorem dX1_isMissing_8 : decode cX1_isMissing 8 = .ok (.iand, 1) := by decide +kernel
theorem dX1_isMissing_9 : decode cX1_isMissing 9 = .ok (.ifCond .eq 7, 3) := by decide +kernel
theorem dX1_isMissing_12 : decode cX1_isMissing 12 = .ok (.iconst 1, 1) := by decide +kernel
theorem dX1_isMissing_13 : decode cX1_isMissing 13 = .ok (.goto 4, 3) := by decide +kernel
theorem dX1_isMissing_16 : decode cX1_isMissing 16 = .ok (.iconst 0, 1) := by decide +kernel
theorem dX1_isMissing_17 : decode cX1_isMissing 17 = .ok (.ireturn, 1) := by decide +kernel
theorem dX1_rungsMissing_0 : decode cX1_rungsMissing 0 = .ok (.aload_n 0, 1) := by decide +kernel
theorem dX1_rungsMissing_1 : decode cX1_rungsMissing 1 = .ok (.getfield 18, 3) := by decide +kernel
theorem dX1_rungsMissing_4 : decode cX1_rungsMissing 4 = .ok (.ireturn, 1) := by decide +kernel
theorem dX1_setRung_0 : decode cX1_setRung 0 = .ok (.iload_n 1, 1) := by decide +kernel
theorem dX1_setRung_1 : decode cX1_setRung 1 = .ok (.invokestatic 58, 3) := by decide +kernel
theorem dX1_setRung_4 : decode cX1_setRung 4 = .ok (.ifCond .eq 49, 3) := by decide +kernel
theorem dX1_setRung_7 : decode cX1_setRung 7 = .ok (.aload_n 0, 1) := by decide +kernel
theorem dX1_setRung_8 : decode cX1_setRung 8 = .ok (.getfield 9, 3) := by decide +kernel
theorem dX1_setRung_11 : decode cX1_setRung 11 = .ok (.iload_n 1, 1) := by decide +kernel
theorem dX1_setRung_12 : decode cX1_setRung 12 = .ok (.iload_n 2, 1) := by decide +kernel
theorem dX1_setRung_13 : decode cX1_setRung 13 = .ok (.iastore, 1) := by decide +kernel
theorem dX1_setRung_14 : decode cX1_setRung 14 = .ok (.aload_n 0, 1) := by decide +kernel
theorem dX1_setRung_15 : decode cX1_setRung 15 = .ok (.getfield 15, 3) := by decide +kernel
theorem dX1_setRung_18 : decode cX1_setRung 18 = .ok (.iload_n 1, 1) := by decide +kernel
theorem dX1_setRung_19 : decode cX1_setRung 19 = .ok (.iload_n 3, 1) := by decide +kernel
theorem dX1_setRung_20 : decode cX1_setRung 20 = .ok (.iastore, 1) := by decide +kernel
theorem dX1_setRung_21 : decode cX1_setRung 21 = .ok (.aload_n 0, 1) := by decide +kernel
theorem dX1_setRung_22 : decode cX1_setRung 22 = .ok (.iload 4, 2) := by decide +kernel
theorem dX1_setRung_24 : decode cX1_setRung 24 = .ok (.ifCond .eq 15, 3) := by decide +kernel
theorem dX1_setRung_27 : decode cX1_setRung 27 = .ok (.aload_n 0, 1) := by decide +kernel
theorem dX1_setRung_28 : decode cX1_setRung 28 = .ok (.getfield 18, 3) := by decide +kernel
theorem dX1_setRung_31 : decode cX1_setRung 31 = .ok (.iload_n 1, 1) := by decide +kernel
theorem dX1_setRung_32 : decode cX1_setRung 32 = .ok (.invokestatic 62, 3) := by decide +kernel
theorem dX1_setRung_35 : decode cX1_setRung 35 = .ok (.ior, 1) := by decide +kernel
theorem dX1_setRung_36 : decode cX1_setRung 36 = .ok (.goto 14, 3) := by decide +kernel
theorem dX1_setRung_39 : decode cX1_setRung 39 = .ok (.aload_n 0, 1) := by decide +kernel
theorem dX1_setRung_40 : decode cX1_setRung 40 = .ok (.getfield 18, 3) := by decide +kernel
theorem dX1_setRung_43 : decode cX1_setRung 43 = .ok (.iload_n 1, 1) := by decide +kernel
theorem dX1_setRung_44 : decode cX1_setRung 44 = .ok (.invokestatic 62, 3) := by decide +kernel
theorem dX1_setRung_47 : decode cX1_setRung 47 = .ok (.iconst (-1), 1) := by decide +kernel
theorem dX1_setRung_48 : decode cX1_setRung 48 = .ok (.ixor, 1) := by decide +kernel
theorem dX1_setRung_49 : decode cX1_setRung 49 = .ok (.iand, 1) := by decide +kernel
theorem dX1_setRung_50 : decode cX1_setRung 50 = .ok (.putfield 18, 3) := by decide +kernel
theorem dX1_setRung_53 : decode cX1_setRung 53 = .ok (.return_, 1) := by decide +kernel
theorem dX1_strideOf_0 : decode cX1_strideOf 0 = .ok (.iload_n 1, 1) := by decide +kernel
theorem dX1_strideOf_1 : decode cX1_strideOf 1 = .ok (.invokestatic 66, 3) := by decide +kernel
theorem dX1_strideOf_4 : decode cX1_strideOf 4 = .ok (.ifCond .eq 12, 3) := by decide +kernel
theorem dX1_strideOf_7 : decode cX1_strideOf 7 = .ok (.aload_n 0, 1) := by decide +kernel
theorem dX1_strideOf_8 : decode cX1_strideOf 8 = .ok (.getfield 22, 3) := by decide +kernel
theorem dX1_strideOf_11 : decode cX1_strideOf 11 = .ok (.iload_n 1, 1) := by decide +kernel
theorem dX1_strideOf_12 : decode cX1_strideOf 12 = .ok (.iaload, 1) := by decide +kernel
theorem dX1_strideOf_13 : decode cX1_strideOf 13 = .ok (.goto 4, 3) := by decide +kernel
theorem dX1_strideOf_16 : decode cX1_strideOf 16 = .ok (.iconst 1, 1) := by decide +kernel
theorem dX1_strideOf_17 : decode cX1_strideOf 17 = .ok (.ireturn, 1) := by decide +kernel
theorem dX1_coinsOf_0 : decode cX1_coinsOf 0 = .ok (.iload_n 1, 1) := by decide +kernel
theorem dX1_coinsOf_1 : decode cX1_coinsOf 1 = .ok (.invokestatic 66, 3) := by decide +kernel
theorem dX1_coinsOf_4 : decode cX1_coinsOf 4 = .ok (.ifCond .eq 12, 3) := by decide +kernel
theorem dX1_coinsOf_7 : decode cX1_coinsOf 7 = .ok (.aload_n 0, 1) := by decide +kernel
theorem dX1_coinsOf_8 : decode cX1_coinsOf 8 = .ok (.getfield 25, 3) := by decide +kernel
theorem dX1_coinsOf_11 : decode cX1_coinsOf 11 = .ok (.iload_n 1, 1) := by decide +kernel
theorem dX1_coinsOf_12 : decode cX1_coinsOf 12 = .ok (.iaload, 1) := by decide +kernel
theorem dX1_coinsOf_13 : decode cX1_coinsOf 13 = .ok (.goto 4, 3) := by decide +kernel
theorem dX1_coinsOf_16 : decode cX1_coinsOf 16 = .ok (.iconst 0, 1) := by decide +kernel
theorem dX1_coinsOf_17 : decode cX1_coinsOf 17 = .ok (.ireturn, 1) := by decide +kernel
theorem dX1_placeOf_0 : decode cX1_placeOf 0 = .ok (.iload_n 1, 1) := by decide +kernel
theorem dX1_placeOf_1 : decode cX1_placeOf 1 = .ok (.invokestatic 66, 3) := by decide +kernel
theorem dX1_placeOf_4 : decode cX1_placeOf 4 = .ok (.ifCond .eq 12, 3) := by decide +kernel
theorem dX1_placeOf_7 : decode cX1_placeOf 7 = .ok (.aload_n 0, 1) := by decide +kernel
theorem dX1_placeOf_8 : decode cX1_placeOf 8 = .ok (.getfield 28, 3) := by decide +kernel
theorem dX1_placeOf_11 : decode cX1_placeOf 11 = .ok (.iload_n 1, 1) := by decide +kernel
theorem dX1_placeOf_12 : decode cX1_placeOf 12 = .ok (.iaload, 1) := by decide +kernel
theorem dX1_placeOf_13 : decode cX1_placeOf 13 = .ok (.goto 4, 3) := by decide +kernel
theorem dX1_placeOf_16 : decode cX1_placeOf 16 = .ok (.iconst 0, 1) := by decide +kernel
theorem dX1_placeOf_17 : decode cX1_placeOf 17 = .ok (.ireturn, 1) := by decide +kernel
theorem dX1_hasStepped_0 : decode cX1_hasStepped 0 = .ok (.iload_n 1, 1) := by decide +kernel
theorem dX1_hasStepped_1 : decode cX1_hasStepped 1 = .ok (.invokestatic 66, 3) := by decide +kernel
theorem dX1_hasStepped_4 : decode cX1_hasStepped 4 = .ok (.ifCond .eq 18, 3) := by decide +kernel
theorem dX1_hasStepped_7 : decode cX1_hasStepped 7 = .ok (.aload_n 0, 1) := by decide +kernel
theorem dX1_hasStepped_8 : decode cX1_hasStepped 8 = .ok (.getfield 31, 3) := by decide +kernel
theorem dX1_hasStepped_11 : decode cX1_hasStepped 11 = .ok (.iconst 1, 1) := by decide +kernel
theorem dX1_hasStepped_12 : decode cX1_hasStepped 12 = .ok (.iload_n 1, 1) := by decide +kernel
theorem dX1_hasStepped_13 : decode cX1_hasStepped 13 = .ok (.ishl, 1) := by decide +kernel
theorem dX1_hasStepped_14 : decode cX1_hasStepped 14 = .ok (.iand, 1) := by decide +kernel
theorem dX1_hasStepped_15 : decode cX1_hasStepped 15 = .ok (.ifCond .eq 7, 3) := by decide +kernel
theorem dX1_hasStepped_18 : decode cX1_hasStepped 18 = .ok (.iconst 1, 1) := by decide +kernel
theorem dX1_hasStepped_19 : decode cX1_hasStepped 19 = .ok (.goto 4, 3) := by decide +kernel
theorem dX1_hasStepped_22 : decode cX1_hasStepped 22 = .ok (.iconst 0, 1) := by decide +kernel
theorem dX1_hasStepped_23 : decode cX1_hasStepped 23 = .ok (.ireturn, 1) := by decide +kernel
theorem dX1_menStepped_0 : decode cX1_menStepped 0 = .ok (.aload_n 0, 1) := by decide +kernel
theorem dX1_menStepped_1 : decode cX1_menStepped 1 = .ok (.getfield 31, 3) := by decide +kernel
theorem dX1_menStepped_4 : decode cX1_menStepped 4 = .ok (.ireturn, 1) := by decide +kernel
theorem dX1_setMan_0 : decode cX1_setMan 0 = .ok (.iload_n 1, 1) := by decide +kernel
theorem dX1_setMan_1 : decode cX1_setMan 1 = .ok (.invokestatic 66, 3) := by decide +kernel
theorem dX1_setMan_4 : decode cX1_setMan 4 = .ok (.ifCond .eq 39, 3) := by decide +kernel
theorem dX1_setMan_7 : decode cX1_setMan 7 = .ok (.aload_n 0, 1) := by decide +kernel
theorem dX1_setMan_8 : decode cX1_setMan 8 = .ok (.getfield 22, 3) := by decide +kernel
theorem dX1_setMan_11 : decode cX1_setMan 11 = .ok (.iload_n 1, 1) := by decide +kernel
theorem dX1_setMan_12 : decode cX1_setMan 12 = .ok (.iload_n 2, 1) := by decide +kernel
theorem dX1_setMan_13 : decode cX1_setMan 13 = .ok (.iastore, 1) := by decide +kernel
theorem dX1_setMan_14 : decode cX1_setMan 14 = .ok (.aload_n 0, 1) := by decide +kernel
theorem dX1_setMan_15 : decode cX1_setMan 15 = .ok (.getfield 25, 3) := by decide +kernel
theorem dX1_setMan_18 : decode cX1_setMan 18 = .ok (.iload_n 1, 1) := by decide +kernel
theorem dX1_setMan_19 : decode cX1_setMan 19 = .ok (.iload_n 3, 1) := by decide +kernel
theorem dX1_setMan_20 : decode cX1_setMan 20 = .ok (.iastore, 1) := by decide +kernel
theorem dX1_setMan_21 : decode cX1_setMan 21 = .ok (.aload_n 0, 1) := by decide +kernel
theorem dX1_setMan_22 : decode cX1_setMan 22 = .ok (.getfield 28, 3) := by decide +kernel
theorem dX1_setMan_25 : decode cX1_setMan 25 = .ok (.iload_n 1, 1) := by decide +kernel
theorem dX1_setMan_26 : decode cX1_setMan 26 = .ok (.iload 4, 2) := by decide +kernel
theorem dX1_setMan_28 : decode cX1_setMan 28 = .ok (.iastore, 1) := by decide +kernel
theorem dX1_setMan_29 : decode cX1_setMan 29 = .ok (.aload_n 0, 1) := by decide +kernel
theorem dX1_setMan_30 : decode cX1_setMan 30 = .ok (.dup, 1) := by decide +kernel
theorem dX1_setMan_31 : decode cX1_setMan 31 = .ok (.getfield 31, 3) := by decide +kernel
theorem dX1_setMan_34 : decode cX1_setMan 34 = .ok (.iconst 1, 1) := by decide +kernel
theorem dX1_setMan_35 : decode cX1_setMan 35 = .ok (.iload_n 1, 1) := by decide +kernel
theorem dX1_setMan_36 : decode cX1_setMan 36 = .ok (.ishl, 1) := by decide +kernel
theorem dX1_setMan_37 : decode cX1_setMan 37 = .ok (.iconst (-1), 1) := by decide +kernel
theorem dX1_setMan_38 : decode cX1_setMan 38 = .ok (.ixor, 1) := by decide +kernel
theorem dX1_setMan_39 : decode cX1_setMan 39 = .ok (.iand, 1) := by decide +kernel
theorem dX1_setMan_40 : decode cX1_setMan 40 = .ok (.putfield 31, 3) := by decide +kernel
theorem dX1_setMan_43 : decode cX1_setMan 43 = .ok (.return_, 1) := by decide +kernel
theorem dX1_beatNow_0 : decode cX1_beatNow 0 = .ok (.aload_n 0, 1) := by decide +kernel
theorem dX1_beatNow_1 : decode cX1_beatNow 1 = .ok (.getfield 34, 3) := by decide +kernel
theorem dX1_beatNow_4 : decode cX1_beatNow 4 = .ok (.ireturn, 1) := by decide +kernel
theorem dX1_menOnRoof_0 : decode cX1_menOnRoof 0 = .ok (.iconst 0, 1) := by decide +kernel
theorem dX1_menOnRoof_1 : decode cX1_menOnRoof 1 = .ok (.istore_n 1, 1) := by decide +kernel
theorem dX1_menOnRoof_2 : decode cX1_menOnRoof 2 = .ok (.iconst 0, 1) := by decide +kernel
theorem dX1_menOnRoof_3 : decode cX1_menOnRoof 3 = .ok (.istore_n 2, 1) := by decide +kernel
theorem dX1_menOnRoof_4 : decode cX1_menOnRoof 4 = .ok (.iload_n 2, 1) := by decide +kernel
theorem dX1_menOnRoof_5 : decode cX1_menOnRoof 5 = .ok (.bipush 6, 2) := by decide +kernel
theorem dX1_menOnRoof_7 : decode cX1_menOnRoof 7 = .ok (.if_icmp .ge 26, 3) := by decide +kernel
theorem dX1_menOnRoof_10 : decode cX1_menOnRoof 10 = .ok (.aload_n 0, 1) := by decide +kernel
theorem dX1_menOnRoof_11 : decode cX1_menOnRoof 11 = .ok (.getfield 28, 3) := by decide +kernel
theorem dX1_menOnRoof_14 : decode cX1_menOnRoof 14 = .ok (.iload_n 2, 1) := by decide +kernel
theorem dX1_menOnRoof_15 : decode cX1_menOnRoof 15 = .ok (.iaload, 1) := by decide +kernel
theorem dX1_menOnRoof_16 : decode cX1_menOnRoof 16 = .ok (.bipush 13, 2) := by decide +kernel
theorem dX1_menOnRoof_18 : decode cX1_menOnRoof 18 = .ok (.if_icmp .ne 9, 3) := by decide +kernel
theorem dX1_menOnRoof_21 : decode cX1_menOnRoof 21 = .ok (.iload_n 1, 1) := by decide +kernel
theorem dX1_menOnRoof_22 : decode cX1_menOnRoof 22 = .ok (.iconst 1, 1) := by decide +kernel
theorem dX1_menOnRoof_23 : decode cX1_menOnRoof 23 = .ok (.iload_n 2, 1) := by decide +kernel
theorem dX1_menOnRoof_24 : decode cX1_menOnRoof 24 = .ok (.ishl, 1) := by decide +kernel
theorem dX1_menOnRoof_25 : decode cX1_menOnRoof 25 = .ok (.ior, 1) := by decide +kernel
theorem dX1_menOnRoof_26 : decode cX1_menOnRoof 26 = .ok (.istore_n 1, 1) := by decide +kernel
theorem dX1_menOnRoof_27 : decode cX1_menOnRoof 27 = .ok (.iinc 2 1, 3) := by decide +kernel
theorem dX1_menOnRoof_30 : decode cX1_menOnRoof 30 = .ok (.goto (-26), 3) := by decide +kernel
theorem dX1_menOnRoof_33 : decode cX1_menOnRoof 33 = .ok (.iload_n 1, 1) := by decide +kernel
theorem dX1_menOnRoof_34 : decode cX1_menOnRoof 34 = .ok (.ireturn, 1) := by decide +kernel
theorem dX1_firstManOn_0 : decode cX1_firstManOn 0 = .ok (.iconst 0, 1) := by decide +kernel
theorem dX1_firstManOn_1 : decode cX1_firstManOn 1 = .ok (.istore_n 2, 1) := by decide +kernel
theorem dX1_firstManOn_2 : decode cX1_firstManOn 2 = .ok (.iload_n 2, 1) := by decide +kernel
theorem dX1_firstManOn_3 : decode cX1_firstManOn 3 = .ok (.bipush 6, 2) := by decide +kernel
theorem dX1_firstManOn_5 : decode cX1_firstManOn 5 = .ok (.if_icmp .ge 21, 3) := by decide +kernel
theorem dX1_firstManOn_8 : decode cX1_firstManOn 8 = .ok (.aload_n 0, 1) := by decide +kernel
theorem dX1_firstManOn_9 : decode cX1_firstManOn 9 = .ok (.getfield 28, 3) := by decide +kernel
theorem dX1_firstManOn_12 : decode cX1_firstManOn 12 = .ok (.iload_n 2, 1) := by decide +kernel
theorem dX1_firstManOn_13 : decode cX1_firstManOn 13 = .ok (.iaload, 1) := by decide +kernel
theorem dX1_firstManOn_14 : decode cX1_firstManOn 14 = .ok (.iload_n 1, 1) := by decide +kernel
theorem dX1_firstManOn_15 : decode cX1_firstManOn 15 = .ok (.if_icmp .ne 5, 3) := by decide +kernel
theorem dX1_firstManOn_18 : decode cX1_firstManOn 18 = .ok (.iload_n 2, 1) := by decide +kernel
theorem dX1_firstManOn_19 : decode cX1_firstManOn 19 = .ok (.ireturn, 1) := by decide +kernel
theorem dX1_firstManOn_20 : decode cX1_firstManOn 20 = .ok (.iinc 2 1, 3) := by decide +kernel
theorem dX1_firstManOn_23 : decode cX1_firstManOn 23 = .ok (.goto (-21), 3) := by decide +kernel
theorem dX1_firstManOn_26 : decode cX1_firstManOn 26 = .ok (.iconst (-1), 1) := by decide +kernel
theorem dX1_firstManOn_27 : decode cX1_firstManOn 27 = .ok (.ireturn, 1) := by decide +kernel
theorem dX1_mayBeOn_0 : decode cX1_mayBeOn 0 = .ok (.iload_n 2, 1) := by decide +kernel
theorem dX1_mayBeOn_1 : decode cX1_mayBeOn 1 = .ok (.iconst 1, 1) := by decide +kernel
theorem dX1_mayBeOn_2 : decode cX1_mayBeOn 2 = .ok (.if_icmp .lt 22, 3) := by decide +kernel
theorem dX1_mayBeOn_5 : decode cX1_mayBeOn 5 = .ok (.iload_n 2, 1) := by decide +kernel
theorem dX1_mayBeOn_6 : decode cX1_mayBeOn 6 = .ok (.bipush 12, 2) := by decide +kernel
theorem dX1_mayBeOn_8 : decode cX1_mayBeOn 8 = .ok (.if_icmp .gt 16, 3) := by decide +kernel
theorem dX1_mayBeOn_11 : decode cX1_mayBeOn 11 = .ok (.aload_n 0, 1) := by decide +kernel
theorem dX1_mayBeOn_12 : decode cX1_mayBeOn 12 = .ok (.getfield 18, 3) := by decide +kernel
theorem dX1_mayBeOn_15 : decode cX1_mayBeOn 15 = .ok (.iload_n 2, 1) := by decide +kernel
theorem dX1_mayBeOn_16 : decode cX1_mayBeOn 16 = .ok (.iconst 1, 1) := by decide +kernel
theorem dX1_mayBeOn_17 : decode cX1_mayBeOn 17 = .ok (.isub, 1) := by decide +kernel
theorem dX1_mayBeOn_18 : decode cX1_mayBeOn 18 = .ok (.ishr, 1) := by decide +kernel
theorem dX1_mayBeOn_19 : decode cX1_mayBeOn 19 = .ok (.iconst 1, 1) := by decide +kernel
theorem dX1_mayBeOn_20 : decode cX1_mayBeOn 20 = .ok (.iand, 1) := by decide +kernel
theorem dX1_mayBeOn_21 : decode cX1_mayBeOn 21 = .ok (.ifCond .eq 5, 3) := by decide +kernel
theorem dX1_mayBeOn_24 : decode cX1_mayBeOn 24 = .ok (.iconst 0, 1) := by decide +kernel
theorem dX1_mayBeOn_25 : decode cX1_mayBeOn 25 = .ok (.ireturn, 1) := by decide +kernel
theorem dX1_mayBeOn_26 : decode cX1_mayBeOn 26 = .ok (.aload_n 0, 1) := by decide +kernel
theorem dX1_mayBeOn_27 : decode cX1_mayBeOn 27 = .ok (.getfield 9, 3) := by decide +kernel
theorem dX1_mayBeOn_30 : decode cX1_mayBeOn 30 = .ok (.iload_n 2, 1) := by decide +kernel
theorem dX1_mayBeOn_31 : decode cX1_mayBeOn 31 = .ok (.iaload, 1) := by decide +kernel
theorem dX1_mayBeOn_32 : decode cX1_mayBeOn 32 = .ok (.iconst (-1), 1) := by decide +kernel
theorem dX1_mayBeOn_33 : decode cX1_mayBeOn 33 = .ok (.if_icmp .eq 23, 3) := by decide +kernel
theorem dX1_mayBeOn_36 : decode cX1_mayBeOn 36 = .ok (.aload_n 0, 1) := by decide +kernel
theorem dX1_mayBeOn_37 : decode cX1_mayBeOn 37 = .ok (.getfield 9, 3) := by decide +kernel
theorem dX1_mayBeOn_40 : decode cX1_mayBeOn 40 = .ok (.iload_n 2, 1) := by decide +kernel
theorem dX1_mayBeOn_41 : decode cX1_mayBeOn 41 = .ok (.iaload, 1) := by decide +kernel
theorem dX1_mayBeOn_42 : decode cX1_mayBeOn 42 = .ok (.iload_n 1, 1) := by decide +kernel
theorem dX1_mayBeOn_43 : decode cX1_mayBeOn 43 = .ok (.if_icmp .eq 13, 3) := by decide +kernel
theorem dX1_mayBeOn_46 : decode cX1_mayBeOn 46 = .ok (.aload_n 0, 1) := by decide +kernel
theorem dX1_mayBeOn_47 : decode cX1_mayBeOn 47 = .ok (.getfield 15, 3) := by decide +kernel
theorem dX1_mayBeOn_50 : decode cX1_mayBeOn 50 = .ok (.iload_n 2, 1) := by decide +kernel
theorem dX1_mayBeOn_51 : decode cX1_mayBeOn 51 = .ok (.iaload, 1) := by decide +kernel
theorem dX1_mayBeOn_52 : decode cX1_mayBeOn 52 = .ok (.iload_n 1, 1) := by decide +kernel
theorem dX1_mayBeOn_53 : decode cX1_mayBeOn 53 = .ok (.if_icmp .ne 7, 3) := by decide +kernel
theorem dX1_mayBeOn_56 : decode cX1_mayBeOn 56 = .ok (.iconst 1, 1) := by decide +kernel
theorem dX1_mayBeOn_57 : decode cX1_mayBeOn 57 = .ok (.goto 4, 3) := by decide +kernel
theorem dX1_mayBeOn_60 : decode cX1_mayBeOn 60 = .ok (.iconst 0, 1) := by decide +kernel
theorem dX1_mayBeOn_61 : decode cX1_mayBeOn 61 = .ok (.ireturn, 1) := by decide +kernel
theorem dX1_rungsOpenTo_0 : decode cX1_rungsOpenTo 0 = .ok (.iconst 0, 1) := by decide +kernel
theorem dX1_rungsOpenTo_1 : decode cX1_rungsOpenTo 1 = .ok (.istore_n 2, 1) := by decide +kernel
theorem dX1_rungsOpenTo_2 : decode cX1_rungsOpenTo 2 = .ok (.iconst 1, 1) := by decide +kernel
theorem dX1_rungsOpenTo_3 : decode cX1_rungsOpenTo 3 = .ok (.istore_n 3, 1) := by decide +kernel
theorem dX1_rungsOpenTo_4 : decode cX1_rungsOpenTo 4 = .ok (.iload_n 3, 1) := by decide +kernel
theorem dX1_rungsOpenTo_5 : decode cX1_rungsOpenTo 5 = .ok (.bipush 12, 2) := by decide +kernel
theorem dX1_rungsOpenTo_7 : decode cX1_rungsOpenTo 7 = .ok (.if_icmp .gt 25, 3) := by decide +kernel
theorem dX1_rungsOpenTo_10 : decode cX1_rungsOpenTo 10 = .ok (.aload_n 0, 1) := by decide +kernel
theorem dX1_rungsOpenTo_11 : decode cX1_rungsOpenTo 11 = .ok (.iload_n 1, 1) := by decide +kernel
theorem dX1_rungsOpenTo_12 : decode cX1_rungsOpenTo 12 = .ok (.iload_n 3, 1) := by decide +kernel
theorem dX1_rungsOpenTo_13 : decode cX1_rungsOpenTo 13 = .ok (.invokevirtual 69, 3) := by decide +kernel
theorem dX1_rungsOpenTo_16 : decode cX1_rungsOpenTo 16 = .ok (.ifCond .eq 10, 3) := by decide +kernel
theorem dX1_rungsOpenTo_19 : decode cX1_rungsOpenTo 19 = .ok (.iload_n 2, 1) := by decide +kernel
theorem dX1_rungsOpenTo_20 : decode cX1_rungsOpenTo 20 = .ok (.iload_n 3, 1) := by decide +kernel
theorem dX1_rungsOpenTo_21 : decode cX1_rungsOpenTo 21 = .ok (.invokestatic 62, 3) := by decide +kernel
theorem dX1_rungsOpenTo_24 : decode cX1_rungsOpenTo 24 = .ok (.ior, 1) := by decide +kernel
theorem dX1_rungsOpenTo_25 : decode cX1_rungsOpenTo 25 = .ok (.istore_n 2, 1) := by decide +kernel
theorem dX1_rungsOpenTo_26 : decode cX1_rungsOpenTo 26 = .ok (.iinc 3 1, 3) := by decide +kernel
theorem dX1_rungsOpenTo_29 : decode cX1_rungsOpenTo 29 = .ok (.goto (-25), 3) := by decide +kernel
theorem dX1_rungsOpenTo_32 : decode cX1_rungsOpenTo 32 = .ok (.iload_n 2, 1) := by decide +kernel
theorem dX1_rungsOpenTo_33 : decode cX1_rungsOpenTo 33 = .ok (.ireturn, 1) := by decide +kernel
theorem dX1_rungsToLease_0 : decode cX1_rungsToLease 0 = .ok (.iconst 0, 1) := by decide +kernel
theorem dX1_rungsToLease_1 : decode cX1_rungsToLease 1 = .ok (.istore_n 1, 1) := by decide +kernel
theorem dX1_rungsToLease_2 : decode cX1_rungsToLease 2 = .ok (.iconst 1, 1) := by decide +kernel
theorem dX1_rungsToLease_3 : decode cX1_rungsToLease 3 = .ok (.istore_n 2, 1) := by decide +kernel
theorem dX1_rungsToLease_4 : decode cX1_rungsToLease 4 = .ok (.iload_n 2, 1) := by decide +kernel
theorem dX1_rungsToLease_5 : decode cX1_rungsToLease 5 = .ok (.bipush 12, 2) := by decide +kernel
theorem dX1_rungsToLease_7 : decode cX1_rungsToLease 7 = .ok (.if_icmp .gt 44, 3) := by decide +kernel
theorem dX1_rungsToLease_10 : decode cX1_rungsToLease 10 = .ok (.aload_n 0, 1) := by decide +kernel
theorem dX1_rungsToLease_11 : decode cX1_rungsToLease 11 = .ok (.iload_n 2, 1) := by decide +kernel
theorem dX1_rungsToLease_12 : decode cX1_rungsToLease 12 = .ok (.invokevirtual 73, 3) := by decide +kernel
theorem dX1_rungsToLease_15 : decode cX1_rungsToLease 15 = .ok (.ifCond .ne 30, 3) := by decide +kernel
theorem dX1_rungsToLease_18 : decode cX1_rungsToLease 18 = .ok (.aload_n 0, 1) := by decide +kernel
theorem dX1_rungsToLease_19 : decode cX1_rungsToLease 19 = .ok (.getfield 9, 3) := by decide +kernel
theorem dX1_rungsToLease_22 : decode cX1_rungsToLease 22 = .ok (.iload_n 2, 1) := by decide +kernel
theorem dX1_rungsToLease_23 : decode cX1_rungsToLease 23 = .ok (.iaload, 1) := by decide +kernel
theorem dX1_rungsToLease_24 : decode cX1_rungsToLease 24 = .ok (.iconst (-1), 1) := by decide +kernel
theorem dX1_rungsToLease_25 : decode cX1_rungsToLease 25 = .ok (.if_icmp .eq 20, 3) := by decide +kernel
theorem dX1_rungsToLease_28 : decode cX1_rungsToLease 28 = .ok (.aload_n 0, 1) := by decide +kernel
theorem dX1_rungsToLease_29 : decode cX1_rungsToLease 29 = .ok (.getfield 15, 3) := by decide +kernel
theorem dX1_rungsToLease_32 : decode cX1_rungsToLease 32 = .ok (.iload_n 2, 1) := by decide +kernel
theorem dX1_rungsToLease_33 : decode cX1_rungsToLease 33 = .ok (.iaload, 1) := by decide +kernel
theorem dX1_rungsToLease_34 : decode cX1_rungsToLease 34 = .ok (.iconst (-1), 1) := by decide +kernel
theorem dX1_rungsToLease_35 : decode cX1_rungsToLease 35 = .ok (.if_icmp .ne 10, 3) := by decide +kernel
theorem dX1_rungsToLease_38 : decode cX1_rungsToLease 38 = .ok (.iload_n 1, 1) := by decide +kernel
theorem dX1_rungsToLease_39 : decode cX1_rungsToLease 39 = .ok (.iload_n 2, 1) := by decide +kernel
theorem dX1_rungsToLease_40 : decode cX1_rungsToLease 40 = .ok (.invokestatic 62, 3) := by decide +kernel
theorem dX1_rungsToLease_43 : decode cX1_rungsToLease 43 = .ok (.ior, 1) := by decide +kernel
theorem dX1_rungsToLease_44 : decode cX1_rungsToLease 44 = .ok (.istore_n 1, 1) := by decide +kernel
theorem dX1_rungsToLease_45 : decode cX1_rungsToLease 45 = .ok (.iinc 2 1, 3) := by decide +kernel
theorem dX1_rungsToLease_48 : decode cX1_rungsToLease 48 = .ok (.goto (-44), 3) := by decide +kernel
theorem dX1_rungsToLease_51 : decode cX1_rungsToLease 51 = .ok (.iload_n 1, 1) := by decide +kernel
theorem dX1_rungsToLease_52 : decode cX1_rungsToLease 52 = .ok (.ireturn, 1) := by decide +kernel
theorem dX1_reasonAgainst_0 : decode cX1_reasonAgainst 0 = .ok (.aload_n 1, 1) := by decide +kernel
theorem dX1_reasonAgainst_1 : decode cX1_reasonAgainst 1 = .ok (.invokevirtual 76, 3) := by decide +kernel
theorem dX1_reasonAgainst_4 : decode cX1_reasonAgainst 4 = .ok (.tableswitch 94 0 3 #[32, 45, 58, 76], 32) := by decide +kernel
theorem dX1_reasonAgainst_36 : decode cX1_reasonAgainst 36 = .ok (.aload_n 0, 1) := by decide +kernel
theorem dX1_reasonAgainst_37 : decode cX1_reasonAgainst 37 = .ok (.aload_n 1, 1) := by decide +kernel
theorem dX1_reasonAgainst_38 : decode cX1_reasonAgainst 38 = .ok (.invokevirtual 82, 3) := by decide +kernel
theorem dX1_reasonAgainst_41 : decode cX1_reasonAgainst 41 = .ok (.aload_n 1, 1) := by decide +kernel
theorem dX1_reasonAgainst_42 : decode cX1_reasonAgainst 42 = .ok (.invokevirtual 85, 3) := by decide +kernel
theorem dX1_reasonAgainst_45 : decode cX1_reasonAgainst 45 = .ok (.invokevirtual 88, 3) := by decide +kernel
theorem dX1_reasonAgainst_48 : decode cX1_reasonAgainst 48 = .ok (.ireturn, 1) := by decide +kernel
theorem dX1_reasonAgainst_49 : decode cX1_reasonAgainst 49 = .ok (.aload_n 0, 1) := by decide +kernel
theorem dX1_reasonAgainst_50 : decode cX1_reasonAgainst 50 = .ok (.aload_n 1, 1) := by decide +kernel
theorem dX1_reasonAgainst_51 : decode cX1_reasonAgainst 51 = .ok (.invokevirtual 82, 3) := by decide +kernel
theorem dX1_reasonAgainst_54 : decode cX1_reasonAgainst 54 = .ok (.aload_n 1, 1) := by decide +kernel
theorem dX1_reasonAgainst_55 : decode cX1_reasonAgainst 55 = .ok (.invokevirtual 85, 3) := by decide +kernel
theorem dX1_reasonAgainst_58 : decode cX1_reasonAgainst 58 = .ok (.invokevirtual 92, 3) := by decide +kernel
theorem dX1_reasonAgainst_61 : decode cX1_reasonAgainst 61 = .ok (.ireturn, 1) := by decide +kernel
theorem dX1_reasonAgainst_62 : decode cX1_reasonAgainst 62 = .ok (.aload_n 0, 1) := by decide +kernel
theorem dX1_reasonAgainst_63 : decode cX1_reasonAgainst 63 = .ok (.aload_n 1, 1) := by decide +kernel
theorem dX1_reasonAgainst_64 : decode cX1_reasonAgainst 64 = .ok (.invokevirtual 85, 3) := by decide +kernel
theorem dX1_reasonAgainst_67 : decode cX1_reasonAgainst 67 = .ok (.invokevirtual 73, 3) := by decide +kernel
theorem dX1_reasonAgainst_70 : decode cX1_reasonAgainst 70 = .ok (.ifCond .eq 8, 3) := by decide +kernel
theorem dX1_reasonAgainst_73 : decode cX1_reasonAgainst 73 = .ok (.bipush 9, 2) := by decide +kernel
theorem dX1_reasonAgainst_75 : decode cX1_reasonAgainst 75 = .ok (.goto 4, 3) := by decide +kernel
theorem dX1_reasonAgainst_78 : decode cX1_reasonAgainst 78 = .ok (.iconst 0, 1) := by decide +kernel
theorem dX1_reasonAgainst_79 : decode cX1_reasonAgainst 79 = .ok (.ireturn, 1) := by decide +kernel
theorem dX1_reasonAgainst_80 : decode cX1_reasonAgainst 80 = .ok (.aload_n 0, 1) := by decide +kernel
theorem dX1_reasonAgainst_81 : decode cX1_reasonAgainst 81 = .ok (.aload_n 1, 1) := by decide +kernel
theorem dX1_reasonAgainst_82 : decode cX1_reasonAgainst 82 = .ok (.invokevirtual 85, 3) := by decide +kernel
theorem dX1_reasonAgainst_85 : decode cX1_reasonAgainst 85 = .ok (.invokevirtual 73, 3) := by decide +kernel
theorem dX1_reasonAgainst_88 : decode cX1_reasonAgainst 88 = .ok (.ifCond .eq 7, 3) := by decide +kernel
theorem dX1_reasonAgainst_91 : decode cX1_reasonAgainst 91 = .ok (.iconst 0, 1) := by decide +kernel
theorem dX1_reasonAgainst_92 : decode cX1_reasonAgainst 92 = .ok (.goto 5, 3) := by decide +kernel
theorem dX1_reasonAgainst_95 : decode cX1_reasonAgainst 95 = .ok (.bipush 9, 2) := by decide +kernel
theorem dX1_reasonAgainst_97 : decode cX1_reasonAgainst 97 = .ok (.ireturn, 1) := by decide +kernel
theorem dX1_reasonAgainst_98 : decode cX1_reasonAgainst 98 = .ok (.aload_n 0, 1) := by decide +kernel
theorem dX1_reasonAgainst_99 : decode cX1_reasonAgainst 99 = .ok (.getfield 34, 3) := by decide +kernel
theorem dX1_reasonAgainst_102 : decode cX1_reasonAgainst 102 = .ok (.bipush 99, 2) := by decide +kernel
theorem dX1_reasonAgainst_104 : decode cX1_reasonAgainst 104 = .ok (.if_icmp .lt 8, 3) := by decide +kernel
theorem dX1_reasonAgainst_107 : decode cX1_reasonAgainst 107 = .ok (.bipush 10, 2) := by decide +kernel
theorem dX1_reasonAgainst_109 : decode cX1_reasonAgainst 109 = .ok (.goto 4, 3) := by decide +kernel
theorem dX1_reasonAgainst_112 : decode cX1_reasonAgainst 112 = .ok (.iconst 0, 1) := by decide +kernel
theorem dX1_reasonAgainst_113 : decode cX1_reasonAgainst 113 = .ok (.ireturn, 1) := by decide +kernel
theorem dX1_reasonAgainstStep_0 : decode cX1_reasonAgainstStep 0 = .ok (.aload_n 0, 1) := by decide +kernel
theorem dX1_reasonAgainstStep_1 : decode cX1_reasonAgainstStep 1 = .ok (.iload_n 1, 1) := by decide +kernel
theorem dX1_reasonAgainstStep_2 : decode cX1_reasonAgainstStep 2 = .ok (.invokevirtual 95, 3) := by decide +kernel
theorem dX1_reasonAgainstStep_5 : decode cX1_reasonAgainstStep 5 = .ok (.ifCond .eq 5, 3) := by decide +kernel
theorem dX1_reasonAgainstStep_8 : decode cX1_reasonAgainstStep 8 = .ok (.iconst 1, 1) := by decide +kernel
theorem dX1_reasonAgainstStep_9 : decode cX1_reasonAgainstStep 9 = .ok (.ireturn, 1) := by decide +kernel
theorem dX1_reasonAgainstStep_10 : decode cX1_reasonAgainstStep 10 = .ok (.iload_n 2, 1) := by decide +kernel
theorem dX1_reasonAgainstStep_11 : decode cX1_reasonAgainstStep 11 = .ok (.aload_n 0, 1) := by decide +kernel
theorem dX1_reasonAgainstStep_12 : decode cX1_reasonAgainstStep 12 = .ok (.iload_n 1, 1) := by decide +kernel
theorem dX1_reasonAgainstStep_13 : decode cX1_reasonAgainstStep 13 = .ok (.invokevirtual 98, 3) := by decide +kernel
theorem dX1_reasonAgainstStep_16 : decode cX1_reasonAgainstStep 16 = .ok (.isub, 1) := by decide +kernel
theorem dX1_reasonAgainstStep_17 : decode cX1_reasonAgainstStep 17 = .ok (.invokestatic 101, 3) := by decide +kernel
theorem dX1_reasonAgainstStep_20 : decode cX1_reasonAgainstStep 20 = .ok (.istore_n 3, 1) := by decide +kernel
theorem dX1_reasonAgainstStep_21 : decode cX1_reasonAgainstStep 21 = .ok (.iload_n 3, 1) := by decide +kernel
theorem dX1_reasonAgainstStep_22 : decode cX1_reasonAgainstStep 22 = .ok (.ifCond .eq 12, 3) := by decide +kernel
theorem dX1_reasonAgainstStep_25 : decode cX1_reasonAgainstStep 25 = .ok (.iload_n 3, 1) := by decide +kernel
theorem dX1_reasonAgainstStep_26 : decode cX1_reasonAgainstStep 26 = .ok (.aload_n 0, 1) := by decide +kernel
theorem dX1_reasonAgainstStep_27 : decode cX1_reasonAgainstStep 27 = .ok (.iload_n 1, 1) := by decide +kernel
theorem dX1_reasonAgainstStep_28 : decode cX1_reasonAgainstStep 28 = .ok (.invokevirtual 106, 3) := by decide +kernel
theorem dX1_reasonAgainstStep_31 : decode cX1_reasonAgainstStep 31 = .ok (.if_icmp .le 5, 3) := by decide +kernel
theorem dX1_reasonAgainstStep_34 : decode cX1_reasonAgainstStep 34 = .ok (.iconst 2, 1) := by decide +kernel
theorem dX1_reasonAgainstStep_35 : decode cX1_reasonAgainstStep 35 = .ok (.ireturn, 1) := by decide +kernel
theorem dX1_reasonAgainstStep_36 : decode cX1_reasonAgainstStep 36 = .ok (.iload_n 2, 1) := by decide +kernel
theorem dX1_reasonAgainstStep_37 : decode cX1_reasonAgainstStep 37 = .ok (.invokestatic 58, 3) := by decide +kernel
theorem dX1_reasonAgainstStep_40 : decode cX1_reasonAgainstStep 40 = .ok (.ifCond .ne 5, 3) := by decide +kernel
theorem dX1_reasonAgainstStep_43 : decode cX1_reasonAgainstStep 43 = .ok (.iconst 0, 1) := by decide +kernel
theorem dX1_reasonAgainstStep_44 : decode cX1_reasonAgainstStep 44 = .ok (.ireturn, 1) := by decide +kernel
theorem dX1_reasonAgainstStep_45 : decode cX1_reasonAgainstStep 45 = .ok (.aload_n 0, 1) := by decide +kernel
theorem dX1_reasonAgainstStep_46 : decode cX1_reasonAgainstStep 46 = .ok (.iload_n 2, 1) := by decide +kernel
theorem dX1_reasonAgainstStep_47 : decode cX1_reasonAgainstStep 47 = .ok (.invokevirtual 73, 3) := by decide +kernel
theorem dX1_reasonAgainstStep_50 : decode cX1_reasonAgainstStep 50 = .ok (.ifCond .eq 5, 3) := by decide +kernel
theorem dX1_reasonAgainstStep_53 : decode cX1_reasonAgainstStep 53 = .ok (.iconst 3, 1) := by decide +kernel
theorem dX1_reasonAgainstStep_54 : decode cX1_reasonAgainstStep 54 = .ok (.ireturn, 1) := by decide +kernel
theorem dX1_reasonAgainstStep_55 : decode cX1_reasonAgainstStep 55 = .ok (.aload_n 0, 1) := by decide +kernel
theorem dX1_reasonAgainstStep_56 : decode cX1_reasonAgainstStep 56 = .ok (.iload_n 1, 1) := by decide +kernel
theorem dX1_reasonAgainstStep_57 : decode cX1_reasonAgainstStep 57 = .ok (.iload_n 2, 1) := by decide +kernel
theorem dX1_reasonAgainstStep_58 : decode cX1_reasonAgainstStep 58 = .ok (.invokevirtual 69, 3) := by decide +kernel
theorem dX1_reasonAgainstStep_61 : decode cX1_reasonAgainstStep 61 = .ok (.ifCond .ne 5, 3) := by decide +kernel
theorem dX1_reasonAgainstStep_64 : decode cX1_reasonAgainstStep 64 = .ok (.iconst 4, 1) := by decide +kernel
theorem dX1_reasonAgainstStep_65 : decode cX1_reasonAgainstStep 65 = .ok (.ireturn, 1) := by decide +kernel
theorem dX1_reasonAgainstStep_66 : decode cX1_reasonAgainstStep 66 = .ok (.aload_n 0, 1) := by decide +kernel
theorem dX1_reasonAgainstStep_67 : decode cX1_reasonAgainstStep 67 = .ok (.iload_n 2, 1) := by decide +kernel
theorem dX1_reasonAgainstStep_68 : decode cX1_reasonAgainstStep 68 = .ok (.invokevirtual 109, 3) := by decide +kernel
theorem dX1_reasonAgainstStep_71 : decode cX1_reasonAgainstStep 71 = .ok (.iconst (-1), 1) := by decide +kernel
theorem dX1_reasonAgainstStep_72 : decode cX1_reasonAgainstStep 72 = .ok (.if_icmp .eq 7, 3) := by decide +kernel
theorem dX1_reasonAgainstStep_75 : decode cX1_reasonAgainstStep 75 = .ok (.iconst 5, 1) := by decide +kernel
theorem dX1_reasonAgainstStep_76 : decode cX1_reasonAgainstStep 76 = .ok (.goto 4, 3) := by decide +kernel
theorem dX1_reasonAgainstStep_79 : decode cX1_reasonAgainstStep 79 = .ok (.iconst 0, 1) := by decide +kernel
theorem dX1_reasonAgainstStep_80 : decode cX1_reasonAgainstStep 80 = .ok (.ireturn, 1) := by decide +kernel
theorem dX1_reasonAgainstLease_0 : decode cX1_reasonAgainstLease 0 = .ok (.aload_n 0, 1) := by decide +kernel
theorem dX1_reasonAgainstLease_1 : decode cX1_reasonAgainstLease 1 = .ok (.iload_n 2, 1) := by decide +kernel
theorem dX1_reasonAgainstLease_2 : decode cX1_reasonAgainstLease 2 = .ok (.invokevirtual 73, 3) := by decide +kernel
theorem dX1_reasonAgainstLease_5 : decode cX1_reasonAgainstLease 5 = .ok (.ifCond .eq 5, 3) := by decide +kernel
theorem dX1_reasonAgainstLease_8 : decode cX1_reasonAgainstLease 8 = .ok (.iconst 3, 1) := by decide +kernel
theorem dX1_reasonAgainstLease_9 : decode cX1_reasonAgainstLease 9 = .ok (.ireturn, 1) := by decide +kernel
theorem dX1_reasonAgainstLease_10 : decode cX1_reasonAgainstLease 10 = .ok (.aload_n 0, 1) := by decide +kernel
theorem dX1_reasonAgainstLease_11 : decode cX1_reasonAgainstLease 11 = .ok (.iload_n 2, 1) := by decide +kernel
theorem dX1_reasonAgainstLease_12 : decode cX1_reasonAgainstLease 12 = .ok (.invokevirtual 112, 3) := by decide +kernel
theorem dX1_reasonAgainstLease_15 : decode cX1_reasonAgainstLease 15 = .ok (.iload_n 1, 1) := by decide +kernel
theorem dX1_reasonAgainstLease_16 : decode cX1_reasonAgainstLease 16 = .ok (.if_icmp .eq 12, 3) := by decide +kernel
theorem dX1_reasonAgainstLease_19 : decode cX1_reasonAgainstLease 19 = .ok (.aload_n 0, 1) := by decide +kernel
theorem dX1_reasonAgainstLease_20 : decode cX1_reasonAgainstLease 20 = .ok (.iload_n 2, 1) := by decide +kernel
theorem dX1_reasonAgainstLease_21 : decode cX1_reasonAgainstLease 21 = .ok (.invokevirtual 112, 3) := by decide +kernel
theorem dX1_reasonAgainstLease_24 : decode cX1_reasonAgainstLease 24 = .ok (.iconst (-1), 1) := by decide +kernel
theorem dX1_reasonAgainstLease_25 : decode cX1_reasonAgainstLease 25 = .ok (.if_icmp .ne 6, 3) := by decide +kernel
theorem dX1_reasonAgainstLease_28 : decode cX1_reasonAgainstLease 28 = .ok (.bipush 6, 2) := by decide +kernel
theorem dX1_reasonAgainstLease_30 : decode cX1_reasonAgainstLease 30 = .ok (.ireturn, 1) := by decide +kernel
theorem dX1_reasonAgainstLease_31 : decode cX1_reasonAgainstLease 31 = .ok (.aload_n 0, 1) := by decide +kernel
theorem dX1_reasonAgainstLease_32 : decode cX1_reasonAgainstLease 32 = .ok (.iload_n 2, 1) := by decide +kernel
theorem dX1_reasonAgainstLease_33 : decode cX1_reasonAgainstLease 33 = .ok (.invokevirtual 115, 3) := by decide +kernel
theorem dX1_reasonAgainstLease_36 : decode cX1_reasonAgainstLease 36 = .ok (.iconst (-1), 1) := by decide +kernel
theorem dX1_reasonAgainstLease_37 : decode cX1_reasonAgainstLease 37 = .ok (.if_icmp .eq 6, 3) := by decide +kernel
theorem dX1_reasonAgainstLease_40 : decode cX1_reasonAgainstLease 40 = .ok (.bipush 7, 2) := by decide +kernel
theorem dX1_reasonAgainstLease_42 : decode cX1_reasonAgainstLease 42 = .ok (.ireturn, 1) := by decide +kernel
theorem dX1_reasonAgainstLease_43 : decode cX1_reasonAgainstLease 43 = .ok (.aload_n 0, 1) := by decide +kernel
theorem dX1_reasonAgainstLease_44 : decode cX1_reasonAgainstLease 44 = .ok (.iload_n 1, 1) := by decide +kernel
theorem dX1_reasonAgainstLease_45 : decode cX1_reasonAgainstLease 45 = .ok (.invokevirtual 118, 3) := by decide +kernel
theorem dX1_reasonAgainstLease_48 : decode cX1_reasonAgainstLease 48 = .ok (.ifCond .gt 8, 3) := by decide +kernel
theorem dX1_reasonAgainstLease_51 : decode cX1_reasonAgainstLease 51 = .ok (.bipush 8, 2) := by decide +kernel
theorem dX1_reasonAgainstLease_53 : decode cX1_reasonAgainstLease 53 = .ok (.goto 4, 3) := by decide +kernel
theorem dX1_reasonAgainstLease_56 : decode cX1_reasonAgainstLease 56 = .ok (.iconst 0, 1) := by decide +kernel
theorem dX1_reasonAgainstLease_57 : decode cX1_reasonAgainstLease 57 = .ok (.ireturn, 1) := by decide +kernel
theorem dX1_perform_0 : decode cX1_perform 0 = .ok (.aload_n 1, 1) := by decide +kernel
theorem dX1_perform_1 : decode cX1_perform 1 = .ok (.invokevirtual 76, 3) := by decide +kernel
theorem dX1_perform_4 : decode cX1_perform 4 = .ok (.tableswitch 90 0 3 #[32, 47, 62, 76], 32) := by decide +kernel
theorem dX1_perform_36 : decode cX1_perform 36 = .ok (.aload_n 0, 1) := by decide +kernel
theorem dX1_perform_37 : decode cX1_perform 37 = .ok (.aload_n 1, 1) := by decide +kernel
theorem dX1_perform_38 : decode cX1_perform 38 = .ok (.invokevirtual 82, 3) := by decide +kernel
theorem dX1_perform_41 : decode cX1_perform 41 = .ok (.aload_n 1, 1) := by decide +kernel
theorem dX1_perform_42 : decode cX1_perform 42 = .ok (.invokevirtual 85, 3) := by decide +kernel
theorem dX1_perform_45 : decode cX1_perform 45 = .ok (.invokevirtual 121, 3) := by decide +kernel
theorem dX1_perform_48 : decode cX1_perform 48 = .ok (.goto 61, 3) := by decide +kernel
theorem dX1_perform_51 : decode cX1_perform 51 = .ok (.aload_n 0, 1) := by decide +kernel
theorem dX1_perform_52 : decode cX1_perform 52 = .ok (.aload_n 1, 1) := by decide +kernel
theorem dX1_perform_53 : decode cX1_perform 53 = .ok (.invokevirtual 82, 3) := by decide +kernel
theorem dX1_perform_56 : decode cX1_perform 56 = .ok (.aload_n 1, 1) := by decide +kernel
theorem dX1_perform_57 : decode cX1_perform 57 = .ok (.invokevirtual 85, 3) := by decide +kernel
theorem dX1_perform_60 : decode cX1_perform 60 = .ok (.invokevirtual 125, 3) := by decide +kernel
theorem dX1_perform_63 : decode cX1_perform 63 = .ok (.goto 46, 3) := by decide +kernel
theorem dX1_perform_66 : decode cX1_perform 66 = .ok (.aload_n 0, 1) := by decide +kernel
theorem dX1_perform_67 : decode cX1_perform 67 = .ok (.aload_n 1, 1) := by decide +kernel
theorem dX1_perform_68 : decode cX1_perform 68 = .ok (.invokevirtual 85, 3) := by decide +kernel
theorem dX1_perform_71 : decode cX1_perform 71 = .ok (.iconst (-1), 1) := by decide +kernel
theorem dX1_perform_72 : decode cX1_perform 72 = .ok (.iconst (-1), 1) := by decide +kernel
theorem dX1_perform_73 : decode cX1_perform 73 = .ok (.iconst 1, 1) := by decide +kernel
theorem dX1_perform_74 : decode cX1_perform 74 = .ok (.invokevirtual 128, 3) := by decide +kernel
theorem dX1_perform_77 : decode cX1_perform 77 = .ok (.goto 32, 3) := by decide +kernel
theorem dX1_perform_80 : decode cX1_perform 80 = .ok (.aload_n 0, 1) := by decide +kernel
theorem dX1_perform_81 : decode cX1_perform 81 = .ok (.aload_n 1, 1) := by decide +kernel
theorem dX1_perform_82 : decode cX1_perform 82 = .ok (.invokevirtual 85, 3) := by decide +kernel
theorem dX1_perform_85 : decode cX1_perform 85 = .ok (.iconst (-1), 1) := by decide +kernel
theorem dX1_perform_86 : decode cX1_perform 86 = .ok (.iconst (-1), 1) := by decide +kernel
theorem dX1_perform_87 : decode cX1_perform 87 = .ok (.iconst 0, 1) := by decide +kernel
theorem dX1_perform_88 : decode cX1_perform 88 = .ok (.invokevirtual 128, 3) := by decide +kernel
theorem dX1_perform_91 : decode cX1_perform 91 = .ok (.goto 18, 3) := by decide +kernel
theorem dX1_perform_94 : decode cX1_perform 94 = .ok (.aload_n 0, 1) := by decide +kernel
theorem dX1_perform_95 : decode cX1_perform 95 = .ok (.dup, 1) := by decide +kernel
theorem dX1_perform_96 : decode cX1_perform 96 = .ok (.getfield 34, 3) := by decide +kernel
theorem dX1_perform_99 : decode cX1_perform 99 = .ok (.iconst 1, 1) := by decide +kernel
theorem dX1_perform_100 : decode cX1_perform 100 = .ok (.iadd, 1) := by decide +kernel
theorem dX1_perform_101 : decode cX1_perform 101 = .ok (.putfield 34, 3) := by decide +kernel
theorem dX1_perform_104 : decode cX1_perform 104 = .ok (.aload_n 0, 1) := by decide +kernel
theorem dX1_perform_105 : decode cX1_perform 105 = .ok (.iconst 0, 1) := by decide +kernel
theorem dX1_perform_106 : decode cX1_perform 106 = .ok (.putfield 31, 3) := by decide +kernel
theorem dX1_perform_109 : decode cX1_perform 109 = .ok (.return_, 1) := by decide +kernel
theorem dX1_moveTo_0 : decode cX1_moveTo 0 = .ok (.iload_n 1, 1) := by decide +kernel
theorem dX1_moveTo_1 : decode cX1_moveTo 1 = .ok (.invokestatic 66, 3) := by decide +kernel
theorem dX1_moveTo_4 : decode cX1_moveTo 4 = .ok (.ifCond .eq 22, 3) := by decide +kernel
theorem dX1_moveTo_7 : decode cX1_moveTo 7 = .ok (.aload_n 0, 1) := by decide +kernel
theorem dX1_moveTo_8 : decode cX1_moveTo 8 = .ok (.getfield 28, 3) := by decide +kernel
theorem dX1_moveTo_11 : decode cX1_moveTo 11 = .ok (.iload_n 1, 1) := by decide +kernel
theorem dX1_moveTo_12 : decode cX1_moveTo 12 = .ok (.iload_n 2, 1) := by decide +kernel
theorem dX1_moveTo_13 : decode cX1_moveTo 13 = .ok (.iastore, 1) := by decide +kernel
theorem dX1_moveTo_14 : decode cX1_moveTo 14 = .ok (.aload_n 0, 1) := by decide +kernel
theorem dX1_moveTo_15 : decode cX1_moveTo 15 = .ok (.dup, 1) := by decide +kernel
theorem dX1_moveTo_16 : decode cX1_moveTo 16 = .ok (.getfield 31, 3) := by decide +kernel
theorem dX1_moveTo_19 : decode cX1_moveTo 19 = .ok (.iconst 1, 1) := by decide +kernel
theorem dX1_moveTo_20 : decode cX1_moveTo 20 = .ok (.iload_n 1, 1) := by decide +kernel
theorem dX1_moveTo_21 : decode cX1_moveTo 21 = .ok (.ishl, 1) := by decide +kernel
theorem dX1_moveTo_22 : decode cX1_moveTo 22 = .ok (.ior, 1) := by decide +kernel
theorem dX1_moveTo_23 : decode cX1_moveTo 23 = .ok (.putfield 31, 3) := by decide +kernel
theorem dX1_moveTo_26 : decode cX1_moveTo 26 = .ok (.return_, 1) := by decide +kernel
theorem dX1_leaseTo_0 : decode cX1_leaseTo 0 = .ok (.iload_n 2, 1) := by decide +kernel
theorem dX1_leaseTo_1 : decode cX1_leaseTo 1 = .ok (.invokestatic 58, 3) := by decide +kernel
theorem dX1_leaseTo_4 : decode cX1_leaseTo 4 = .ok (.ifCond .eq 12, 3) := by decide +kernel
theorem dX1_leaseTo_7 : decode cX1_leaseTo 7 = .ok (.aload_n 0, 1) := by decide +kernel
theorem dX1_leaseTo_8 : decode cX1_leaseTo 8 = .ok (.getfield 9, 3) := by decide +kernel
theorem dX1_leaseTo_11 : decode cX1_leaseTo 11 = .ok (.iload_n 2, 1) := by decide +kernel
theorem dX1_leaseTo_12 : decode cX1_leaseTo 12 = .ok (.iaload, 1) := by decide +kernel
theorem dX1_leaseTo_13 : decode cX1_leaseTo 13 = .ok (.goto 4, 3) := by decide +kernel
theorem dX1_leaseTo_16 : decode cX1_leaseTo 16 = .ok (.iconst (-1), 1) := by decide +kernel
theorem dX1_leaseTo_17 : decode cX1_leaseTo 17 = .ok (.istore_n 3, 1) := by decide +kernel
theorem dX1_leaseTo_18 : decode cX1_leaseTo 18 = .ok (.iload_n 2, 1) := by decide +kernel
theorem dX1_leaseTo_19 : decode cX1_leaseTo 19 = .ok (.invokestatic 58, 3) := by decide +kernel
theorem dX1_leaseTo_22 : decode cX1_leaseTo 22 = .ok (.ifCond .eq 44, 3) := by decide +kernel
theorem dX1_leaseTo_25 : decode cX1_leaseTo 25 = .ok (.iload_n 1, 1) := by decide +kernel
theorem dX1_leaseTo_26 : decode cX1_leaseTo 26 = .ok (.invokestatic 66, 3) := by decide +kernel
theorem dX1_leaseTo_29 : decode cX1_leaseTo 29 = .ok (.ifCond .eq 37, 3) := by decide +kernel
theorem dX1_leaseTo_32 : decode cX1_leaseTo 32 = .ok (.iload_n 3, 1) := by decide +kernel
theorem dX1_leaseTo_33 : decode cX1_leaseTo 33 = .ok (.invokestatic 66, 3) := by decide +kernel
theorem dX1_leaseTo_36 : decode cX1_leaseTo 36 = .ok (.ifCond .eq 30, 3) := by decide +kernel
theorem dX1_leaseTo_39 : decode cX1_leaseTo 39 = .ok (.aload_n 0, 1) := by decide +kernel
theorem dX1_leaseTo_40 : decode cX1_leaseTo 40 = .ok (.getfield 15, 3) := by decide +kernel
theorem dX1_leaseTo_43 : decode cX1_leaseTo 43 = .ok (.iload_n 2, 1) := by decide +kernel
theorem dX1_leaseTo_44 : decode cX1_leaseTo 44 = .ok (.iload_n 1, 1) := by decide +kernel
theorem dX1_leaseTo_45 : decode cX1_leaseTo 45 = .ok (.iastore, 1) := by decide +kernel
theorem dX1_leaseTo_46 : decode cX1_leaseTo 46 = .ok (.aload_n 0, 1) := by decide +kernel
theorem dX1_leaseTo_47 : decode cX1_leaseTo 47 = .ok (.getfield 25, 3) := by decide +kernel
theorem dX1_leaseTo_50 : decode cX1_leaseTo 50 = .ok (.iload_n 1, 1) := by decide +kernel
theorem dX1_leaseTo_51 : decode cX1_leaseTo 51 = .ok (.dup2, 1) := by decide +kernel
theorem dX1_leaseTo_52 : decode cX1_leaseTo 52 = .ok (.iaload, 1) := by decide +kernel
theorem dX1_leaseTo_53 : decode cX1_leaseTo 53 = .ok (.iconst 1, 1) := by decide +kernel
theorem dX1_leaseTo_54 : decode cX1_leaseTo 54 = .ok (.isub, 1) := by decide +kernel
theorem dX1_leaseTo_55 : decode cX1_leaseTo 55 = .ok (.iastore, 1) := by decide +kernel
theorem dX1_leaseTo_56 : decode cX1_leaseTo 56 = .ok (.aload_n 0, 1) := by decide +kernel
theorem dX1_leaseTo_57 : decode cX1_leaseTo 57 = .ok (.getfield 25, 3) := by decide +kernel
theorem dX1_leaseTo_60 : decode cX1_leaseTo 60 = .ok (.iload_n 3, 1) := by decide +kernel
theorem dX1_leaseTo_61 : decode cX1_leaseTo 61 = .ok (.dup2, 1) := by decide +kernel
theorem dX1_leaseTo_62 : decode cX1_leaseTo 62 = .ok (.iaload, 1) := by decide +kernel
theorem dX1_leaseTo_63 : decode cX1_leaseTo 63 = .ok (.iconst 1, 1) := by decide +kernel
theorem dX1_leaseTo_64 : decode cX1_leaseTo 64 = .ok (.iadd, 1) := by decide +kernel
theorem dX1_leaseTo_65 : decode cX1_leaseTo 65 = .ok (.iastore, 1) := by decide +kernel
theorem dX1_leaseTo_66 : decode cX1_leaseTo 66 = .ok (.return_, 1) := by decide +kernel
theorem dX1_addSight_0 : decode cX1_addSight 0 = .ok (.aload_n 0, 1) := by decide +kernel
theorem dX1_addSight_1 : decode cX1_addSight 1 = .ok (.getfield 37, 3) := by decide +kernel
theorem dX1_addSight_4 : decode cX1_addSight 4 = .ok (.bipush 8, 2) := by decide +kernel
theorem dX1_addSight_6 : decode cX1_addSight 6 = .ok (.if_icmp .lt 5, 3) := by decide +kernel
theorem dX1_addSight_9 : decode cX1_addSight 9 = .ok (.iconst 0, 1) := by decide +kernel
theorem dX1_addSight_10 : decode cX1_addSight 10 = .ok (.ireturn, 1) := by decide +kernel
theorem dX1_addSight_11 : decode cX1_addSight 11 = .ok (.iload_n 2, 1) := by decide +kernel
theorem dX1_addSight_12 : decode cX1_addSight 12 = .ok (.ifCond .eq 19, 3) := by decide +kernel
theorem dX1_addSight_15 : decode cX1_addSight 15 = .ok (.aload_n 0, 1) := by decide +kernel
theorem dX1_addSight_16 : decode cX1_addSight 16 = .ok (.dup, 1) := by decide +kernel
theorem dX1_addSight_17 : decode cX1_addSight 17 = .ok (.getfield 40, 3) := by decide +kernel
theorem dX1_addSight_20 : decode cX1_addSight 20 = .ok (.iload_n 1, 1) := by decide +kernel
theorem dX1_addSight_21 : decode cX1_addSight 21 = .ok (.invokestatic 62, 3) := by decide +kernel
theorem dX1_addSight_24 : decode cX1_addSight 24 = .ok (.ior, 1) := by decide +kernel
theorem dX1_addSight_25 : decode cX1_addSight 25 = .ok (.putfield 40, 3) := by decide +kernel
theorem dX1_addSight_28 : decode cX1_addSight 28 = .ok (.goto 16, 3) := by decide +kernel
theorem dX1_addSight_31 : decode cX1_addSight 31 = .ok (.aload_n 0, 1) := by decide +kernel
theorem dX1_addSight_32 : decode cX1_addSight 32 = .ok (.dup, 1) := by decide +kernel
theorem dX1_addSight_33 : decode cX1_addSight 33 = .ok (.getfield 43, 3) := by decide +kernel
theorem dX1_addSight_36 : decode cX1_addSight 36 = .ok (.iload_n 1, 1) := by decide +kernel
theorem dX1_addSight_37 : decode cX1_addSight 37 = .ok (.invokestatic 62, 3) := by decide +kernel
theorem dX1_addSight_40 : decode cX1_addSight 40 = .ok (.ior, 1) := by decide +kernel
theorem dX1_addSight_41 : decode cX1_addSight 41 = .ok (.putfield 43, 3) := by decide +kernel
theorem dX1_addSight_44 : decode cX1_addSight 44 = .ok (.aload_n 0, 1) := by decide +kernel
theorem dX1_addSight_45 : decode cX1_addSight 45 = .ok (.dup, 1) := by decide +kernel
theorem dX1_addSight_46 : decode cX1_addSight 46 = .ok (.getfield 37, 3) := by decide +kernel
theorem dX1_addSight_49 : decode cX1_addSight 49 = .ok (.iconst 1, 1) := by decide +kernel
theorem dX1_addSight_50 : decode cX1_addSight 50 = .ok (.iadd, 1) := by decide +kernel
theorem dX1_addSight_51 : decode cX1_addSight 51 = .ok (.putfield 37, 3) := by decide +kernel
theorem dX1_addSight_54 : decode cX1_addSight 54 = .ok (.iconst 1, 1) := by decide +kernel
theorem dX1_addSight_55 : decode cX1_addSight 55 = .ok (.ireturn, 1) := by decide +kernel
theorem dX1_clearSights_0 : decode cX1_clearSights 0 = .ok (.aload_n 0, 1) := by decide +kernel
theorem dX1_clearSights_1 : decode cX1_clearSights 1 = .ok (.iconst 0, 1) := by decide +kernel
theorem dX1_clearSights_2 : decode cX1_clearSights 2 = .ok (.putfield 37, 3) := by decide +kernel
theorem dX1_clearSights_5 : decode cX1_clearSights 5 = .ok (.aload_n 0, 1) := by decide +kernel
theorem dX1_clearSights_6 : decode cX1_clearSights 6 = .ok (.iconst 0, 1) := by decide +kernel
theorem dX1_clearSights_7 : decode cX1_clearSights 7 = .ok (.putfield 40, 3) := by decide +kernel
theorem dX1_clearSights_10 : decode cX1_clearSights 10 = .ok (.aload_n 0, 1) := by decide +kernel
theorem dX1_clearSights_11 : decode cX1_clearSights 11 = .ok (.iconst 0, 1) := by decide +kernel
theorem dX1_clearSights_12 : decode cX1_clearSights 12 = .ok (.putfield 43, 3) := by decide +kernel
theorem dX1_clearSights_15 : decode cX1_clearSights 15 = .ok (.return_, 1) := by decide +kernel
theorem dX1_sightCount_0 : decode cX1_sightCount 0 = .ok (.aload_n 0, 1) := by decide +kernel
theorem dX1_sightCount_1 : decode cX1_sightCount 1 = .ok (.getfield 37, 3) := by decide +kernel
theorem dX1_sightCount_4 : decode cX1_sightCount 4 = .ok (.ireturn, 1) := by decide +kernel
theorem dX1_sightsFit_0 : decode cX1_sightsFit 0 = .ok (.iload_n 1, 1) := by decide +kernel
theorem dX1_sightsFit_1 : decode cX1_sightsFit 1 = .ok (.aload_n 0, 1) := by decide +kernel
theorem dX1_sightsFit_2 : decode cX1_sightsFit 2 = .ok (.getfield 40, 3) := by decide +kernel
theorem dX1_sightsFit_5 : decode cX1_sightsFit 5 = .ok (.iand, 1) := by decide +kernel
theorem dX1_sightsFit_6 : decode cX1_sightsFit 6 = .ok (.aload_n 0, 1) := by decide +kernel
theorem dX1_sightsFit_7 : decode cX1_sightsFit 7 = .ok (.getfield 40, 3) := by decide +kernel
theorem dX1_sightsFit_10 : decode cX1_sightsFit 10 = .ok (.if_icmp .ne 16, 3) := by decide +kernel
theorem dX1_sightsFit_13 : decode cX1_sightsFit 13 = .ok (.iload_n 1, 1) := by decide +kernel
theorem dX1_sightsFit_14 : decode cX1_sightsFit 14 = .ok (.aload_n 0, 1) := by decide +kernel
theorem dX1_sightsFit_15 : decode cX1_sightsFit 15 = .ok (.getfield 43, 3) := by decide +kernel
theorem dX1_sightsFit_18 : decode cX1_sightsFit 18 = .ok (.iand, 1) := by decide +kernel
theorem dX1_sightsFit_19 : decode cX1_sightsFit 19 = .ok (.ifCond .ne 7, 3) := by decide +kernel
theorem dX1_sightsFit_22 : decode cX1_sightsFit 22 = .ok (.iconst 1, 1) := by decide +kernel
theorem dX1_sightsFit_23 : decode cX1_sightsFit 23 = .ok (.goto 4, 3) := by decide +kernel
theorem dX1_sightsFit_26 : decode cX1_sightsFit 26 = .ok (.iconst 0, 1) := by decide +kernel
theorem dX1_sightsFit_27 : decode cX1_sightsFit 27 = .ok (.ireturn, 1) := by decide +kernel
theorem dX2_canWin_0 : decode cX2_canWin 0 = .ok (.iload_n 0, 1) := by decide +kernel
theorem dX2_canWin_1 : decode cX2_canWin 1 = .ok (.invokestatic 9, 3) := by decide +kernel
theorem dX2_canWin_4 : decode cX2_canWin 4 = .ok (.ifCond .eq 7, 3) := by decide +kernel
theorem dX2_canWin_7 : decode cX2_canWin 7 = .ok (.iconst 1, 1) := by decide +kernel
theorem dX2_canWin_8 : decode cX2_canWin 8 = .ok (.goto 4, 3) := by decide +kernel
theorem dX2_canWin_11 : decode cX2_canWin 11 = .ok (.iconst 0, 1) := by decide +kernel
theorem dX2_canWin_12 : decode cX2_canWin 12 = .ok (.ireturn, 1) := by decide +kernel
theorem dX2_leastWinningMove_0 : decode cX2_leastWinningMove 0 = .ok (.iload_n 0, 1) := by decide +kernel
theorem dX2_leastWinningMove_1 : decode cX2_leastWinningMove 1 = .ok (.invokestatic 15, 3) := by decide +kernel
theorem dX2_leastWinningMove_4 : decode cX2_leastWinningMove 4 = .ok (.ifCond .ne 6, 3) := by decide +kernel
theorem dX2_leastWinningMove_7 : decode cX2_leastWinningMove 7 = .ok (.bipush (-6), 2) := by decide +kernel
theorem dX2_leastWinningMove_9 : decode cX2_leastWinningMove 9 = .ok (.ireturn, 1) := by decide +kernel
theorem dX2_leastWinningMove_10 : decode cX2_leastWinningMove 10 = .ok (.iconst 0, 1) := by decide +kernel
theorem dX2_leastWinningMove_11 : decode cX2_leastWinningMove 11 = .ok (.istore_n 1, 1) := by decide +kernel
theorem dX2_leastWinningMove_12 : decode cX2_leastWinningMove 12 = .ok (.iconst 1, 1) := by decide +kernel
theorem dX2_leastWinningMove_13 : decode cX2_leastWinningMove 13 = .ok (.istore_n 2, 1) := by decide +kernel
theorem dX2_leastWinningMove_14 : decode cX2_leastWinningMove 14 = .ok (.iload_n 2, 1) := by decide +kernel
theorem dX2_leastWinningMove_15 : decode cX2_leastWinningMove 15 = .ok (.bipush 12, 2) := by decide +kernel
theorem dX2_leastWinningMove_17 : decode cX2_leastWinningMove 17 = .ok (.if_icmp .gt 64, 3) := by decide +kernel
theorem dX2_leastWinningMove_20 : decode cX2_leastWinningMove 20 = .ok (.iload_n 0, 1) := by decide +kernel
theorem dX2_leastWinningMove_21 : decode cX2_leastWinningMove 21 = .ok (.iload_n 2, 1) := by decide +kernel
theorem dX2_leastWinningMove_22 : decode cX2_leastWinningMove 22 = .ok (.invokestatic 19, 3) := by decide +kernel
theorem dX2_leastWinningMove_25 : decode cX2_leastWinningMove 25 = .ok (.iand, 1) := by decide +kernel
theorem dX2_leastWinningMove_26 : decode cX2_leastWinningMove 26 = .ok (.ifCond .ne 6, 3) := by decide +kernel
theorem dX2_leastWinningMove_29 : decode cX2_leastWinningMove 29 = .ok (.goto 46, 3) := by decide +kernel
theorem dX2_leastWinningMove_32 : decode cX2_leastWinningMove 32 = .ok (.iload_n 1, 1) := by decide +kernel
theorem dX2_leastWinningMove_33 : decode cX2_leastWinningMove 33 = .ok (.iconst 1, 1) := by decide +kernel
theorem dX2_leastWinningMove_34 : decode cX2_leastWinningMove 34 = .ok (.iadd, 1) := by decide +kernel
theorem dX2_leastWinningMove_35 : decode cX2_leastWinningMove 35 = .ok (.istore_n 3, 1) := by decide +kernel
theorem dX2_leastWinningMove_36 : decode cX2_leastWinningMove 36 = .ok (.iload_n 3, 1) := by decide +kernel
theorem dX2_leastWinningMove_37 : decode cX2_leastWinningMove 37 = .ok (.iload_n 2, 1) := by decide +kernel
theorem dX2_leastWinningMove_38 : decode cX2_leastWinningMove 38 = .ok (.if_icmp .ge 35, 3) := by decide +kernel
theorem dX2_leastWinningMove_41 : decode cX2_leastWinningMove 41 = .ok (.iload_n 0, 1) := by decide +kernel
theorem dX2_leastWinningMove_42 : decode cX2_leastWinningMove 42 = .ok (.iload_n 2, 1) := by decide +kernel
theorem dX2_leastWinningMove_43 : decode cX2_leastWinningMove 43 = .ok (.invokestatic 19, 3) := by decide +kernel
theorem dX2_leastWinningMove_46 : decode cX2_leastWinningMove 46 = .ok (.iconst (-1), 1) := by decide +kernel
theorem dX2_leastWinningMove_47 : decode cX2_leastWinningMove 47 = .ok (.ixor, 1) := by decide +kernel
theorem dX2_leastWinningMove_48 : decode cX2_leastWinningMove 48 = .ok (.iand, 1) := by decide +kernel
theorem dX2_leastWinningMove_49 : decode cX2_leastWinningMove 49 = .ok (.iload_n 3, 1) := by decide +kernel
theorem dX2_leastWinningMove_50 : decode cX2_leastWinningMove 50 = .ok (.invokestatic 19, 3) := by decide +kernel
theorem dX2_leastWinningMove_53 : decode cX2_leastWinningMove 53 = .ok (.ior, 1) := by decide +kernel
theorem dX2_leastWinningMove_54 : decode cX2_leastWinningMove 54 = .ok (.invokestatic 15, 3) := by decide +kernel
theorem dX2_leastWinningMove_57 : decode cX2_leastWinningMove 57 = .ok (.ifCond .ne 10, 3) := by decide +kernel
theorem dX2_leastWinningMove_60 : decode cX2_leastWinningMove 60 = .ok (.bipush 100, 2) := by decide +kernel
theorem dX2_leastWinningMove_62 : decode cX2_leastWinningMove 62 = .ok (.iload_n 2, 1) := by decide +kernel
theorem dX2_leastWinningMove_63 : decode cX2_leastWinningMove 63 = .ok (.imul, 1) := by decide +kernel
theorem dX2_leastWinningMove_64 : decode cX2_leastWinningMove 64 = .ok (.iload_n 3, 1) := by decide +kernel
theorem dX2_leastWinningMove_65 : decode cX2_leastWinningMove 65 = .ok (.iadd, 1) := by decide +kernel
theorem dX2_leastWinningMove_66 : decode cX2_leastWinningMove 66 = .ok (.ireturn, 1) := by decide +kernel
theorem dX2_leastWinningMove_67 : decode cX2_leastWinningMove 67 = .ok (.iinc 3 1, 3) := by decide +kernel
theorem dX2_leastWinningMove_70 : decode cX2_leastWinningMove 70 = .ok (.goto (-34), 3) := by decide +kernel
theorem dX2_leastWinningMove_73 : decode cX2_leastWinningMove 73 = .ok (.iload_n 2, 1) := by decide +kernel
theorem dX2_leastWinningMove_74 : decode cX2_leastWinningMove 74 = .ok (.istore_n 1, 1) := by decide +kernel
theorem dX2_leastWinningMove_75 : decode cX2_leastWinningMove 75 = .ok (.iinc 2 1, 3) := by decide +kernel
theorem dX2_leastWinningMove_78 : decode cX2_leastWinningMove 78 = .ok (.goto (-64), 3) := by decide +kernel
theorem dX2_leastWinningMove_81 : decode cX2_leastWinningMove 81 = .ok (.bipush (-6), 2) := by decide +kernel
theorem dX2_leastWinningMove_83 : decode cX2_leastWinningMove 83 = .ok (.ireturn, 1) := by decide +kernel
theorem dX2_heapsOf_0 : decode cX2_heapsOf 0 = .ok (.iconst 0, 1) := by decide +kernel
theorem dX2_heapsOf_1 : decode cX2_heapsOf 1 = .ok (.istore_n 1, 1) := by decide +kernel
theorem dX2_heapsOf_2 : decode cX2_heapsOf 2 = .ok (.iconst 0, 1) := by decide +kernel
theorem dX2_heapsOf_3 : decode cX2_heapsOf 3 = .ok (.istore_n 2, 1) := by decide +kernel
theorem dX2_heapsOf_4 : decode cX2_heapsOf 4 = .ok (.bipush 12, 2) := by decide +kernel
theorem dX2_heapsOf_6 : decode cX2_heapsOf 6 = .ok (.istore_n 3, 1) := by decide +kernel
theorem dX2_heapsOf_7 : decode cX2_heapsOf 7 = .ok (.iload_n 3, 1) := by decide +kernel
theorem dX2_heapsOf_8 : decode cX2_heapsOf 8 = .ok (.iconst 1, 1) := by decide +kernel
theorem dX2_heapsOf_9 : decode cX2_heapsOf 9 = .ok (.if_icmp .lt 40, 3) := by decide +kernel
theorem dX2_heapsOf_12 : decode cX2_heapsOf 12 = .ok (.iload_n 0, 1) := by decide +kernel
theorem dX2_heapsOf_13 : decode cX2_heapsOf 13 = .ok (.iload_n 3, 1) := by decide +kernel
theorem dX2_heapsOf_14 : decode cX2_heapsOf 14 = .ok (.invokestatic 19, 3) := by decide +kernel
theorem dX2_heapsOf_17 : decode cX2_heapsOf 17 = .ok (.iand, 1) := by decide +kernel
theorem dX2_heapsOf_18 : decode cX2_heapsOf 18 = .ok (.ifCond .ne 6, 3) := by decide +kernel
theorem dX2_heapsOf_21 : decode cX2_heapsOf 21 = .ok (.goto 22, 3) := by decide +kernel
theorem dX2_heapsOf_24 : decode cX2_heapsOf 24 = .ok (.iload_n 2, 1) := by decide +kernel
theorem dX2_heapsOf_25 : decode cX2_heapsOf 25 = .ok (.ifCond .ne 8, 3) := by decide +kernel
theorem dX2_heapsOf_28 : decode cX2_heapsOf 28 = .ok (.iload_n 3, 1) := by decide +kernel
theorem dX2_heapsOf_29 : decode cX2_heapsOf 29 = .ok (.istore_n 2, 1) := by decide +kernel
theorem dX2_heapsOf_30 : decode cX2_heapsOf 30 = .ok (.goto 13, 3) := by decide +kernel
theorem dX2_heapsOf_33 : decode cX2_heapsOf 33 = .ok (.iload_n 1, 1) := by decide +kernel
theorem dX2_heapsOf_34 : decode cX2_heapsOf 34 = .ok (.iload_n 2, 1) := by decide +kernel
theorem dX2_heapsOf_35 : decode cX2_heapsOf 35 = .ok (.iload_n 3, 1) := by decide +kernel
theorem dX2_heapsOf_36 : decode cX2_heapsOf 36 = .ok (.isub, 1) := by decide +kernel
theorem dX2_heapsOf_37 : decode cX2_heapsOf 37 = .ok (.iconst 1, 1) := by decide +kernel
theorem dX2_heapsOf_38 : decode cX2_heapsOf 38 = .ok (.isub, 1) := by decide +kernel
theorem dX2_heapsOf_39 : decode cX2_heapsOf 39 = .ok (.ixor, 1) := by decide +kernel
theorem dX2_heapsOf_40 : decode cX2_heapsOf 40 = .ok (.istore_n 1, 1) := by decide +kernel
theorem dX2_heapsOf_41 : decode cX2_heapsOf 41 = .ok (.iconst 0, 1) := by decide +kernel
theorem dX2_heapsOf_42 : decode cX2_heapsOf 42 = .ok (.istore_n 2, 1) := by decide +kernel
theorem dX2_heapsOf_43 : decode cX2_heapsOf 43 = .ok (.iinc 3 (-1), 3) := by decide +kernel
theorem dX2_heapsOf_46 : decode cX2_heapsOf 46 = .ok (.goto (-39), 3) := by decide +kernel
theorem dX2_heapsOf_49 : decode cX2_heapsOf 49 = .ok (.iload_n 2, 1) := by decide +kernel
theorem dX2_heapsOf_50 : decode cX2_heapsOf 50 = .ok (.ifCond .ne 7, 3) := by decide +kernel
theorem dX2_heapsOf_53 : decode cX2_heapsOf 53 = .ok (.iload_n 1, 1) := by decide +kernel
theorem dX2_heapsOf_54 : decode cX2_heapsOf 54 = .ok (.goto 8, 3) := by decide +kernel
theorem dX2_heapsOf_57 : decode cX2_heapsOf 57 = .ok (.iload_n 1, 1) := by decide +kernel
theorem dX2_heapsOf_58 : decode cX2_heapsOf 58 = .ok (.iload_n 2, 1) := by decide +kernel
theorem dX2_heapsOf_59 : decode cX2_heapsOf 59 = .ok (.iconst 1, 1) := by decide +kernel
theorem dX2_heapsOf_60 : decode cX2_heapsOf 60 = .ok (.isub, 1) := by decide +kernel
theorem dX2_heapsOf_61 : decode cX2_heapsOf 61 = .ok (.ixor, 1) := by decide +kernel
theorem dX2_heapsOf_62 : decode cX2_heapsOf 62 = .ok (.ireturn, 1) := by decide +kernel
theorem dX3_init_0 : decode cX3_init 0 = .ok (.aload_n 0, 1) := by decide +kernel
theorem dX3_init_1 : decode cX3_init 1 = .ok (.invokespecial 3, 3) := by decide +kernel
theorem dX3_init_4 : decode cX3_init 4 = .ok (.aload_n 0, 1) := by decide +kernel
theorem dX3_init_5 : decode cX3_init 5 = .ok (.bipush 13, 2) := by decide +kernel
theorem dX3_init_7 : decode cX3_init 7 = .ok (.newarray .long, 2) := by decide +kernel
theorem dX3_init_9 : decode cX3_init 9 = .ok (.putfield 9, 3) := by decide +kernel
theorem dX3_init_12 : decode cX3_init 12 = .ok (.aload_n 0, 1) := by decide +kernel
theorem dX3_init_13 : decode cX3_init 13 = .ok (.lconst 0, 1) := by decide +kernel
theorem dX3_init_14 : decode cX3_init 14 = .ok (.putfield 15, 3) := by decide +kernel
theorem dX3_init_17 : decode cX3_init 17 = .ok (.aload_n 0, 1) := by decide +kernel
theorem dX3_init_18 : decode cX3_init 18 = .ok (.lconst 1, 1) := by decide +kernel
theorem dX3_init_19 : decode cX3_init 19 = .ok (.putfield 19, 3) := by decide +kernel
theorem dX3_init_22 : decode cX3_init 22 = .ok (.return_, 1) := by decide +kernel
theorem dX3_chanceOn_0 : decode cX3_chanceOn 0 = .ok (.aload_n 0, 1) := by decide +kernel
theorem dX3_chanceOn_1 : decode cX3_chanceOn 1 = .ok (.iload_n 1, 1) := by decide +kernel
theorem dX3_chanceOn_2 : decode cX3_chanceOn 2 = .ok (.invokevirtual 22, 3) := by decide +kernel
theorem dX3_chanceOn_5 : decode cX3_chanceOn 5 = .ok (.aload_n 0, 1) := by decide +kernel
theorem dX3_chanceOn_6 : decode cX3_chanceOn 6 = .ok (.iload_n 2, 1) := by decide +kernel
theorem dX3_chanceOn_7 : decode cX3_chanceOn 7 = .ok (.invokestatic 26, 3) := by decide +kernel
theorem dX3_chanceOn_10 : decode cX3_chanceOn 10 = .ok (.ifCond .eq 12, 3) := by decide +kernel
theorem dX3_chanceOn_13 : decode cX3_chanceOn 13 = .ok (.aload_n 0, 1) := by decide +kernel
theorem dX3_chanceOn_14 : decode cX3_chanceOn 14 = .ok (.getfield 9, 3) := by decide +kernel
theorem dX3_chanceOn_17 : decode cX3_chanceOn 17 = .ok (.iload_n 2, 1) := by decide +kernel
theorem dX3_chanceOn_18 : decode cX3_chanceOn 18 = .ok (.laload, 1) := by decide +kernel
theorem dX3_chanceOn_19 : decode cX3_chanceOn 19 = .ok (.goto 4, 3) := by decide +kernel
theorem dX3_chanceOn_22 : decode cX3_chanceOn 22 = .ok (.lconst 0, 1) := by decide +kernel
theorem dX3_chanceOn_23 : decode cX3_chanceOn 23 = .ok (.putfield 15, 3) := by decide +kernel
theorem dX3_chanceOn_26 : decode cX3_chanceOn 26 = .ok (.aload_n 0, 1) := by decide +kernel
theorem dX3_chanceOn_27 : decode cX3_chanceOn 27 = .ok (.iload_n 1, 1) := by decide +kernel
theorem dX3_chanceOn_28 : decode cX3_chanceOn 28 = .ok (.iload_n 2, 1) := by decide +kernel
theorem dX3_chanceOn_29 : decode cX3_chanceOn 29 = .ok (.invokestatic 30, 3) := by decide +kernel
theorem dX3_chanceOn_32 : decode cX3_chanceOn 32 = .ok (.putfield 19, 3) := by decide +kernel
theorem dX3_chanceOn_35 : decode cX3_chanceOn 35 = .ok (.return_, 1) := by decide +kernel
theorem dX3_meanStepsTo_0 : decode cX3_meanStepsTo 0 = .ok (.aload_n 0, 1) := by decide +kernel
theorem dX3_meanStepsTo_1 : decode cX3_meanStepsTo 1 = .ok (.iload_n 1, 1) := by decide +kernel
theorem dX3_meanStepsTo_2 : decode cX3_meanStepsTo 2 = .ok (.invokevirtual 22, 3) := by decide +kernel
theorem dX3_meanStepsTo_5 : decode cX3_meanStepsTo 5 = .ok (.aload_n 0, 1) := by decide +kernel
theorem dX3_meanStepsTo_6 : decode cX3_meanStepsTo 6 = .ok (.lconst 0, 1) := by decide +kernel
theorem dX3_meanStepsTo_7 : decode cX3_meanStepsTo 7 = .ok (.putfield 15, 3) := by decide +kernel
theorem dX3_meanStepsTo_10 : decode cX3_meanStepsTo 10 = .ok (.iconst 0, 1) := by decide +kernel
theorem dX3_meanStepsTo_11 : decode cX3_meanStepsTo 11 = .ok (.istore_n 3, 1) := by decide +kernel
theorem dX3_meanStepsTo_12 : decode cX3_meanStepsTo 12 = .ok (.iload_n 3, 1) := by decide +kernel
theorem dX3_meanStepsTo_13 : decode cX3_meanStepsTo 13 = .ok (.iload_n 2, 1) := by decide +kernel
theorem dX3_meanStepsTo_14 : decode cX3_meanStepsTo 14 = .ok (.if_icmp .ge 40, 3) := by decide +kernel
theorem dX3_meanStepsTo_17 : decode cX3_meanStepsTo 17 = .ok (.iload_n 3, 1) := by decide +kernel
theorem dX3_meanStepsTo_18 : decode cX3_meanStepsTo 18 = .ok (.bipush 12, 2) := by decide +kernel
theorem dX3_meanStepsTo_20 : decode cX3_meanStepsTo 20 = .ok (.if_icmp .gt 34, 3) := by decide +kernel
theorem dX3_meanStepsTo_23 : decode cX3_meanStepsTo 23 = .ok (.aload_n 0, 1) := by decide +kernel
theorem dX3_meanStepsTo_24 : decode cX3_meanStepsTo 24 = .ok (.dup, 1) := by decide +kernel
theorem dX3_meanStepsTo_25 : decode cX3_meanStepsTo 25 = .ok (.getfield 15, 3) := by decide +kernel
theorem dX3_meanStepsTo_28 : decode cX3_meanStepsTo 28 = .ok (.aload_n 0, 1) := by decide +kernel
theorem dX3_meanStepsTo_29 : decode cX3_meanStepsTo 29 = .ok (.getfield 9, 3) := by decide +kernel
theorem dX3_meanStepsTo_32 : decode cX3_meanStepsTo 32 = .ok (.iload_n 3, 1) := by decide +kernel
theorem dX3_meanStepsTo_33 : decode cX3_meanStepsTo 33 = .ok (.laload, 1) := by decide +kernel
theorem dX3_meanStepsTo_34 : decode cX3_meanStepsTo 34 = .ok (.iload_n 1, 1) := by decide +kernel
theorem dX3_meanStepsTo_35 : decode cX3_meanStepsTo 35 = .ok (.iload_n 2, 1) := by decide +kernel
theorem dX3_meanStepsTo_36 : decode cX3_meanStepsTo 36 = .ok (.iconst 1, 1) := by decide +kernel
theorem dX3_meanStepsTo_37 : decode cX3_meanStepsTo 37 = .ok (.isub, 1) := by decide +kernel
theorem dX3_meanStepsTo_38 : decode cX3_meanStepsTo 38 = .ok (.iload_n 3, 1) := by decide +kernel
theorem dX3_meanStepsTo_39 : decode cX3_meanStepsTo 39 = .ok (.isub, 1) := by decide +kernel
theorem dX3_meanStepsTo_40 : decode cX3_meanStepsTo 40 = .ok (.invokestatic 30, 3) := by decide +kernel
theorem dX3_meanStepsTo_43 : decode cX3_meanStepsTo 43 = .ok (.lmul, 1) := by decide +kernel
theorem dX3_meanStepsTo_44 : decode cX3_meanStepsTo 44 = .ok (.ladd, 1) := by decide +kernel
theorem dX3_meanStepsTo_45 : decode cX3_meanStepsTo 45 = .ok (.putfield 15, 3) := by decide +kernel
theorem dX3_meanStepsTo_48 : decode cX3_meanStepsTo 48 = .ok (.iinc 3 1, 3) := by decide +kernel
theorem dX3_meanStepsTo_51 : decode cX3_meanStepsTo 51 = .ok (.goto (-39), 3) := by decide +kernel
theorem dX3_meanStepsTo_54 : decode cX3_meanStepsTo 54 = .ok (.aload_n 0, 1) := by decide +kernel
theorem dX3_meanStepsTo_55 : decode cX3_meanStepsTo 55 = .ok (.iload_n 1, 1) := by decide +kernel
theorem dX3_meanStepsTo_56 : decode cX3_meanStepsTo 56 = .ok (.iload_n 2, 1) := by decide +kernel
theorem dX3_meanStepsTo_57 : decode cX3_meanStepsTo 57 = .ok (.iconst 1, 1) := by decide +kernel
theorem dX3_meanStepsTo_58 : decode cX3_meanStepsTo 58 = .ok (.isub, 1) := by decide +kernel
theorem dX3_meanStepsTo_59 : decode cX3_meanStepsTo 59 = .ok (.invokestatic 30, 3) := by decide +kernel
theorem dX3_meanStepsTo_62 : decode cX3_meanStepsTo 62 = .ok (.putfield 19, 3) := by decide +kernel
theorem dX3_meanStepsTo_65 : decode cX3_meanStepsTo 65 = .ok (.return_, 1) := by decide +kernel
theorem dX3_reckonChances_0 : decode cX3_reckonChances 0 = .ok (.aload_n 0, 1) := by decide +kernel
theorem dX3_reckonChances_1 : decode cX3_reckonChances 1 = .ok (.getfield 9, 3) := by decide +kernel
theorem dX3_reckonChances_4 : decode cX3_reckonChances 4 = .ok (.iconst 0, 1) := by decide +kernel
theorem dX3_reckonChances_5 : decode cX3_reckonChances 5 = .ok (.lconst 1, 1) := by decide +kernel
theorem dX3_reckonChances_6 : decode cX3_reckonChances 6 = .ok (.lastore, 1) := by decide +kernel
theorem dX3_reckonChances_7 : decode cX3_reckonChances 7 = .ok (.iconst 1, 1) := by decide +kernel
theorem dX3_reckonChances_8 : decode cX3_reckonChances 8 = .ok (.istore_n 2, 1) := by decide +kernel
theorem dX3_reckonChances_9 : decode cX3_reckonChances 9 = .ok (.iload_n 2, 1) := by decide +kernel
theorem dX3_reckonChances_10 : decode cX3_reckonChances 10 = .ok (.bipush 12, 2) := by decide +kernel
theorem dX3_reckonChances_12 : decode cX3_reckonChances 12 = .ok (.if_icmp .gt 60, 3) := by decide +kernel
theorem dX3_reckonChances_15 : decode cX3_reckonChances 15 = .ok (.lconst 0, 1) := by decide +kernel
theorem dX3_reckonChances_16 : decode cX3_reckonChances 16 = .ok (.lstore_n 3, 1) := by decide +kernel
theorem dX3_reckonChances_17 : decode cX3_reckonChances 17 = .ok (.iconst 1, 1) := by decide +kernel
theorem dX3_reckonChances_18 : decode cX3_reckonChances 18 = .ok (.istore 5, 2) := by decide +kernel
theorem dX3_reckonChances_20 : decode cX3_reckonChances 20 = .ok (.iload 5, 2) := by decide +kernel
theorem dX3_reckonChances_22 : decode cX3_reckonChances 22 = .ok (.iload_n 1, 1) := by decide +kernel
theorem dX3_reckonChances_23 : decode cX3_reckonChances 23 = .ok (.if_icmp .gt 36, 3) := by decide +kernel
theorem dX3_reckonChances_26 : decode cX3_reckonChances 26 = .ok (.iload 5, 2) := by decide +kernel
theorem dX3_reckonChances_28 : decode cX3_reckonChances 28 = .ok (.iload_n 2, 1) := by decide +kernel
theorem dX3_reckonChances_29 : decode cX3_reckonChances 29 = .ok (.if_icmp .gt 30, 3) := by decide +kernel
theorem dX3_reckonChances_32 : decode cX3_reckonChances 32 = .ok (.lload_n 3, 1) := by decide +kernel
theorem dX3_reckonChances_33 : decode cX3_reckonChances 33 = .ok (.aload_n 0, 1) := by decide +kernel
theorem dX3_reckonChances_34 : decode cX3_reckonChances 34 = .ok (.getfield 9, 3) := by decide +kernel
theorem dX3_reckonChances_37 : decode cX3_reckonChances 37 = .ok (.iload_n 2, 1) := by decide +kernel
theorem dX3_reckonChances_38 : decode cX3_reckonChances 38 = .ok (.iload 5, 2) := by decide +kernel
theorem dX3_reckonChances_40 : decode cX3_reckonChances 40 = .ok (.isub, 1) := by decide +kernel
theorem dX3_reckonChances_41 : decode cX3_reckonChances 41 = .ok (.laload, 1) := by decide +kernel
theorem dX3_reckonChances_42 : decode cX3_reckonChances 42 = .ok (.iload_n 1, 1) := by decide +kernel
theorem dX3_reckonChances_43 : decode cX3_reckonChances 43 = .ok (.iload 5, 2) := by decide +kernel
theorem dX3_reckonChances_45 : decode cX3_reckonChances 45 = .ok (.iconst 1, 1) := by decide +kernel
theorem dX3_reckonChances_46 : decode cX3_reckonChances 46 = .ok (.isub, 1) := by decide +kernel
theorem dX3_reckonChances_47 : decode cX3_reckonChances 47 = .ok (.invokestatic 30, 3) := by decide +kernel
theorem dX3_reckonChances_50 : decode cX3_reckonChances 50 = .ok (.lmul, 1) := by decide +kernel
theorem dX3_reckonChances_51 : decode cX3_reckonChances 51 = .ok (.ladd, 1) := by decide +kernel
theorem dX3_reckonChances_52 : decode cX3_reckonChances 52 = .ok (.lstore_n 3, 1) := by decide +kernel
theorem dX3_reckonChances_53 : decode cX3_reckonChances 53 = .ok (.iinc 5 1, 3) := by decide +kernel
theorem dX3_reckonChances_56 : decode cX3_reckonChances 56 = .ok (.goto (-36), 3) := by decide +kernel
theorem dX3_reckonChances_59 : decode cX3_reckonChances 59 = .ok (.aload_n 0, 1) := by decide +kernel
theorem dX3_reckonChances_60 : decode cX3_reckonChances 60 = .ok (.getfield 9, 3) := by decide +kernel
theorem dX3_reckonChances_63 : decode cX3_reckonChances 63 = .ok (.iload_n 2, 1) := by decide +kernel
theorem dX3_reckonChances_64 : decode cX3_reckonChances 64 = .ok (.lload_n 3, 1) := by decide +kernel
theorem dX3_reckonChances_65 : decode cX3_reckonChances 65 = .ok (.lastore, 1) := by decide +kernel
theorem dX3_reckonChances_66 : decode cX3_reckonChances 66 = .ok (.iinc 2 1, 3) := by decide +kernel
theorem dX3_reckonChances_69 : decode cX3_reckonChances 69 = .ok (.goto (-60), 3) := by decide +kernel
theorem dX3_reckonChances_72 : decode cX3_reckonChances 72 = .ok (.return_, 1) := by decide +kernel
theorem dX3_power_0 : decode cX3_power 0 = .ok (.lconst 1, 1) := by decide +kernel
theorem dX3_power_1 : decode cX3_power 1 = .ok (.lstore_n 2, 1) := by decide +kernel
theorem dX3_power_2 : decode cX3_power 2 = .ok (.iconst 0, 1) := by decide +kernel
theorem dX3_power_3 : decode cX3_power 3 = .ok (.istore 4, 2) := by decide +kernel
theorem dX3_power_5 : decode cX3_power 5 = .ok (.iload 4, 2) := by decide +kernel
theorem dX3_power_7 : decode cX3_power 7 = .ok (.iload_n 1, 1) := by decide +kernel
theorem dX3_power_8 : decode cX3_power 8 = .ok (.if_icmp .ge 21, 3) := by decide +kernel
theorem dX3_power_11 : decode cX3_power 11 = .ok (.iload 4, 2) := by decide +kernel
theorem dX3_power_13 : decode cX3_power 13 = .ok (.bipush 12, 2) := by decide +kernel
theorem dX3_power_15 : decode cX3_power 15 = .ok (.if_icmp .ge 14, 3) := by decide +kernel
theorem dX3_power_18 : decode cX3_power 18 = .ok (.lload_n 2, 1) := by decide +kernel
theorem dX3_power_19 : decode cX3_power 19 = .ok (.iload_n 0, 1) := by decide +kernel
theorem dX3_power_20 : decode cX3_power 20 = .ok (.i2l, 1) := by decide +kernel
theorem dX3_power_21 : decode cX3_power 21 = .ok (.lmul, 1) := by decide +kernel
theorem dX3_power_22 : decode cX3_power 22 = .ok (.lstore_n 2, 1) := by decide +kernel
theorem dX3_power_23 : decode cX3_power 23 = .ok (.iinc 4 1, 3) := by decide +kernel
theorem dX3_power_26 : decode cX3_power 26 = .ok (.goto (-21), 3) := by decide +kernel
theorem dX3_power_29 : decode cX3_power 29 = .ok (.lload_n 2, 1) := by decide +kernel
theorem dX3_power_30 : decode cX3_power 30 = .ok (.lreturn, 1) := by decide +kernel
theorem dX3_upperNumber_0 : decode cX3_upperNumber 0 = .ok (.aload_n 0, 1) := by decide +kernel
theorem dX3_upperNumber_1 : decode cX3_upperNumber 1 = .ok (.getfield 15, 3) := by decide +kernel
theorem dX3_upperNumber_4 : decode cX3_upperNumber 4 = .ok (.lreturn, 1) := by decide +kernel
theorem dX3_lowerNumber_0 : decode cX3_lowerNumber 0 = .ok (.aload_n 0, 1) := by decide +kernel
theorem dX3_lowerNumber_1 : decode cX3_lowerNumber 1 = .ok (.getfield 19, 3) := by decide +kernel
theorem dX3_lowerNumber_4 : decode cX3_lowerNumber 4 = .ok (.lreturn, 1) := by decide +kernel
theorem dX4_init_0 : decode cX4_init 0 = .ok (.aload_n 0, 1) := by decide +kernel
theorem dX4_init_1 : decode cX4_init 1 = .ok (.invokespecial 3, 3) := by decide +kernel
theorem dX4_init_4 : decode cX4_init 4 = .ok (.aload_n 0, 1) := by decide +kernel
theorem dX4_init_5 : decode cX4_init 5 = .ok (.new 9, 3) := by decide +kernel
theorem dX4_init_8 : decode cX4_init 8 = .ok (.dup, 1) := by decide +kernel
theorem dX4_init_9 : decode cX4_init 9 = .ok (.invokespecial 11, 3) := by decide +kernel
theorem dX4_init_12 : decode cX4_init 12 = .ok (.putfield 12, 3) := by decide +kernel
theorem dX4_init_15 : decode cX4_init 15 = .ok (.aload_n 0, 1) := by decide +kernel
theorem dX4_init_16 : decode cX4_init 16 = .ok (.new 18, 3) := by decide +kernel
theorem dX4_init_19 : decode cX4_init 19 = .ok (.dup, 1) := by decide +kernel
theorem dX4_init_20 : decode cX4_init 20 = .ok (.invokespecial 20, 3) := by decide +kernel
theorem dX4_init_23 : decode cX4_init 23 = .ok (.putfield 21, 3) := by decide +kernel
theorem dX4_init_26 : decode cX4_init 26 = .ok (.aload_n 0, 1) := by decide +kernel
theorem dX4_init_27 : decode cX4_init 27 = .ok (.iconst 0, 1) := by decide +kernel
theorem dX4_init_28 : decode cX4_init 28 = .ok (.putfield 25, 3) := by decide +kernel
theorem dX4_init_31 : decode cX4_init 31 = .ok (.aload_n 0, 1) := by decide +kernel
theorem dX4_init_32 : decode cX4_init 32 = .ok (.iconst 0, 1) := by decide +kernel
theorem dX4_init_33 : decode cX4_init 33 = .ok (.putfield 29, 3) := by decide +kernel
theorem dX4_init_36 : decode cX4_init 36 = .ok (.aload_n 0, 1) := by decide +kernel
theorem dX4_init_37 : decode cX4_init 37 = .ok (.iconst 0, 1) := by decide +kernel
theorem dX4_init_38 : decode cX4_init 38 = .ok (.putfield 32, 3) := by decide +kernel
theorem dX4_init_41 : decode cX4_init 41 = .ok (.aload_n 0, 1) := by decide +kernel
theorem dX4_init_42 : decode cX4_init 42 = .ok (.bipush (-6), 2) := by decide +kernel
theorem dX4_init_44 : decode cX4_init 44 = .ok (.putfield 35, 3) := by decide +kernel
theorem dX4_init_47 : decode cX4_init 47 = .ok (.aload_n 0, 1) := by decide +kernel
theorem dX4_init_48 : decode cX4_init 48 = .ok (.bipush (-6), 2) := by decide +kernel
theorem dX4_init_50 : decode cX4_init 50 = .ok (.putfield 38, 3) := by decide +kernel
theorem dX4_init_53 : decode cX4_init 53 = .ok (.aload_n 0, 1) := by decide +kernel
theorem dX4_init_54 : decode cX4_init 54 = .ok (.iconst 0, 1) := by decide +kernel
theorem dX4_init_55 : decode cX4_init 55 = .ok (.putfield 41, 3) := by decide +kernel
theorem dX4_init_58 : decode cX4_init 58 = .ok (.return_, 1) := by decide +kernel
theorem dX4_begin_0 : decode cX4_begin 0 = .ok (.aload_n 0, 1) := by decide +kernel
theorem dX4_begin_1 : decode cX4_begin 1 = .ok (.getfield 12, 3) := by decide +kernel
theorem dX4_begin_4 : decode cX4_begin 4 = .ok (.aload_n 1, 1) := by decide +kernel
theorem dX4_begin_5 : decode cX4_begin 5 = .ok (.invokevirtual 44, 3) := by decide +kernel
theorem dX4_begin_8 : decode cX4_begin 8 = .ok (.aload_n 0, 1) := by decide +kernel
theorem dX4_begin_9 : decode cX4_begin 9 = .ok (.iconst 0, 1) := by decide +kernel
theorem dX4_begin_10 : decode cX4_begin 10 = .ok (.putfield 25, 3) := by decide +kernel
theorem dX4_begin_13 : decode cX4_begin 13 = .ok (.aload_n 0, 1) := by decide +kernel
theorem dX4_begin_14 : decode cX4_begin 14 = .ok (.iconst 0, 1) := by decide +kernel
theorem dX4_begin_15 : decode cX4_begin 15 = .ok (.putfield 29, 3) := by decide +kernel
theorem dX4_begin_18 : decode cX4_begin 18 = .ok (.aload_n 0, 1) := by decide +kernel
theorem dX4_begin_19 : decode cX4_begin 19 = .ok (.iconst 0, 1) := by decide +kernel
theorem dX4_begin_20 : decode cX4_begin 20 = .ok (.putfield 32, 3) := by decide +kernel
theorem dX4_begin_23 : decode cX4_begin 23 = .ok (.aload_n 0, 1) := by decide +kernel
theorem dX4_begin_24 : decode cX4_begin 24 = .ok (.bipush (-6), 2) := by decide +kernel
theorem dX4_begin_26 : decode cX4_begin 26 = .ok (.putfield 35, 3) := by decide +kernel
theorem dX4_begin_29 : decode cX4_begin 29 = .ok (.aload_n 0, 1) := by decide +kernel
theorem dX4_begin_30 : decode cX4_begin 30 = .ok (.bipush (-6), 2) := by decide +kernel
theorem dX4_begin_32 : decode cX4_begin 32 = .ok (.putfield 38, 3) := by decide +kernel
theorem dX4_begin_35 : decode cX4_begin 35 = .ok (.aload_n 0, 1) := by decide +kernel
theorem dX4_begin_36 : decode cX4_begin 36 = .ok (.iconst 0, 1) := by decide +kernel
theorem dX4_begin_37 : decode cX4_begin 37 = .ok (.putfield 41, 3) := by decide +kernel
theorem dX4_begin_40 : decode cX4_begin 40 = .ok (.return_, 1) := by decide +kernel
theorem dX4_burn_0 : decode cX4_burn 0 = .ok (.aload_n 0, 1) := by decide +kernel
theorem dX4_burn_1 : decode cX4_burn 1 = .ok (.aload_n 2, 1) := by decide +kernel
theorem dX4_burn_2 : decode cX4_burn 2 = .ok (.invokevirtual 48, 3) := by decide +kernel
theorem dX4_burn_5 : decode cX4_burn 5 = .ok (.aload_n 1, 1) := by decide +kernel
theorem dX4_burn_6 : decode cX4_burn 6 = .ok (.invokevirtual 51, 3) := by decide +kernel
theorem dX4_burn_9 : decode cX4_burn 9 = .ok (.bipush (-6), 2) := by decide +kernel
theorem dX4_burn_11 : decode cX4_burn 11 = .ok (.if_icmp .eq 5, 3) := by decide +kernel
theorem dX4_burn_14 : decode cX4_burn 14 = .ok (.iconst 0, 1) := by decide +kernel
theorem dX4_burn_15 : decode cX4_burn 15 = .ok (.ireturn, 1) := by decide +kernel
theorem dX4_burn_16 : decode cX4_burn 16 = .ok (.iconst 0, 1) := by decide +kernel
theorem dX4_burn_17 : decode cX4_burn 17 = .ok (.istore_n 3, 1) := by decide +kernel
theorem dX4_burn_18 : decode cX4_burn 18 = .ok (.iconst 0, 1) := by decide +kernel
theorem dX4_burn_19 : decode cX4_burn 19 = .ok (.istore 4, 2) := by decide +kernel
theorem dX4_burn_21 : decode cX4_burn 21 = .ok (.iload 4, 2) := by decide +kernel
theorem dX4_burn_23 : decode cX4_burn 23 = .ok (.bipush 60, 2) := by decide +kernel
theorem dX4_burn_25 : decode cX4_burn 25 = .ok (.if_icmp .ge 51, 3) := by decide +kernel
theorem dX4_burn_28 : decode cX4_burn 28 = .ok (.iload_n 3, 1) := by decide +kernel
theorem dX4_burn_29 : decode cX4_burn 29 = .ok (.aload_n 1, 1) := by decide +kernel
theorem dX4_burn_30 : decode cX4_burn 30 = .ok (.invokevirtual 57, 3) := by decide +kernel
theorem dX4_burn_33 : decode cX4_burn 33 = .ok (.if_icmp .ge 43, 3) := by decide +kernel
theorem dX4_burn_36 : decode cX4_burn 36 = .ok (.aload_n 1, 1) := by decide +kernel
theorem dX4_burn_37 : decode cX4_burn 37 = .ok (.iload_n 3, 1) := by decide +kernel
theorem dX4_burn_38 : decode cX4_burn 38 = .ok (.invokevirtual 60, 3) := by decide +kernel
theorem dX4_burn_41 : decode cX4_burn 41 = .ok (.istore 5, 2) := by decide +kernel
theorem dX4_burn_43 : decode cX4_burn 43 = .ok (.aload_n 1, 1) := by decide +kernel
theorem dX4_burn_44 : decode cX4_burn 44 = .ok (.iload_n 3, 1) := by decide +kernel
theorem dX4_burn_45 : decode cX4_burn 45 = .ok (.iload 5, 2) := by decide +kernel
theorem dX4_burn_47 : decode cX4_burn 47 = .ok (.aload_n 0, 1) := by decide +kernel
theorem dX4_burn_48 : decode cX4_burn 48 = .ok (.getfield 21, 3) := by decide +kernel
theorem dX4_burn_51 : decode cX4_burn 51 = .ok (.invokevirtual 64, 3) := by decide +kernel
theorem dX4_burn_54 : decode cX4_burn 54 = .ok (.aload_n 0, 1) := by decide +kernel
theorem dX4_burn_55 : decode cX4_burn 55 = .ok (.aload_n 0, 1) := by decide +kernel
theorem dX4_burn_56 : decode cX4_burn 56 = .ok (.getfield 21, 3) := by decide +kernel
theorem dX4_burn_59 : decode cX4_burn 59 = .ok (.invokevirtual 68, 3) := by decide +kernel
theorem dX4_burn_62 : decode cX4_burn 62 = .ok (.ifCond .ne 5, 3) := by decide +kernel
theorem dX4_burn_65 : decode cX4_burn 65 = .ok (.iconst 0, 1) := by decide +kernel
theorem dX4_burn_66 : decode cX4_burn 66 = .ok (.ireturn, 1) := by decide +kernel
theorem dX4_burn_67 : decode cX4_burn 67 = .ok (.iload 5, 2) := by decide +kernel
theorem dX4_burn_69 : decode cX4_burn 69 = .ok (.istore_n 3, 1) := by decide +kernel
theorem dX4_burn_70 : decode cX4_burn 70 = .ok (.iinc 4 1, 3) := by decide +kernel
theorem dX4_burn_73 : decode cX4_burn 73 = .ok (.goto (-52), 3) := by decide +kernel
theorem dX4_burn_76 : decode cX4_burn 76 = .ok (.iconst 1, 1) := by decide +kernel
theorem dX4_burn_77 : decode cX4_burn 77 = .ok (.ireturn, 1) := by decide +kernel
theorem dX4_attempt_0 : decode cX4_attempt 0 = .ok (.aload_n 0, 1) := by decide +kernel
theorem dX4_attempt_1 : decode cX4_attempt 1 = .ok (.aload_n 0, 1) := by decide +kernel
theorem dX4_attempt_2 : decode cX4_attempt 2 = .ok (.getfield 12, 3) := by decide +kernel
theorem dX4_attempt_5 : decode cX4_attempt 5 = .ok (.aload_n 1, 1) := by decide +kernel
theorem dX4_attempt_6 : decode cX4_attempt 6 = .ok (.invokevirtual 72, 3) := by decide +kernel
theorem dX4_attempt_9 : decode cX4_attempt 9 = .ok (.putfield 41, 3) := by decide +kernel
theorem dX4_attempt_12 : decode cX4_attempt 12 = .ok (.aload_n 0, 1) := by decide +kernel
theorem dX4_attempt_13 : decode cX4_attempt 13 = .ok (.getfield 41, 3) := by decide +kernel
theorem dX4_attempt_16 : decode cX4_attempt 16 = .ok (.ifCond .eq 5, 3) := by decide +kernel
theorem dX4_attempt_19 : decode cX4_attempt 19 = .ok (.iconst 0, 1) := by decide +kernel
theorem dX4_attempt_20 : decode cX4_attempt 20 = .ok (.ireturn, 1) := by decide +kernel
theorem dX4_attempt_21 : decode cX4_attempt 21 = .ok (.aload_n 0, 1) := by decide +kernel
theorem dX4_attempt_22 : decode cX4_attempt 22 = .ok (.getfield 12, 3) := by decide +kernel
theorem dX4_attempt_25 : decode cX4_attempt 25 = .ok (.aload_n 1, 1) := by decide +kernel
theorem dX4_attempt_26 : decode cX4_attempt 26 = .ok (.invokevirtual 76, 3) := by decide +kernel
theorem dX4_attempt_29 : decode cX4_attempt 29 = .ok (.aload_n 0, 1) := by decide +kernel
theorem dX4_attempt_30 : decode cX4_attempt 30 = .ok (.aload_n 1, 1) := by decide +kernel
theorem dX4_attempt_31 : decode cX4_attempt 31 = .ok (.invokevirtual 80, 3) := by decide +kernel
theorem dX4_attempt_34 : decode cX4_attempt 34 = .ok (.aload_n 0, 1) := by decide +kernel
theorem dX4_attempt_35 : decode cX4_attempt 35 = .ok (.dup, 1) := by decide +kernel
theorem dX4_attempt_36 : decode cX4_attempt 36 = .ok (.getfield 25, 3) := by decide +kernel
theorem dX4_attempt_39 : decode cX4_attempt 39 = .ok (.iconst 1, 1) := by decide +kernel
theorem dX4_attempt_40 : decode cX4_attempt 40 = .ok (.iadd, 1) := by decide +kernel
theorem dX4_attempt_41 : decode cX4_attempt 41 = .ok (.putfield 25, 3) := by decide +kernel
theorem dX4_attempt_44 : decode cX4_attempt 44 = .ok (.iconst 1, 1) := by decide +kernel
theorem dX4_attempt_45 : decode cX4_attempt 45 = .ok (.ireturn, 1) := by decide +kernel
theorem dX4_count_0 : decode cX4_count 0 = .ok (.aload_n 1, 1) := by decide +kernel
theorem dX4_count_1 : decode cX4_count 1 = .ok (.invokevirtual 83, 3) := by decide +kernel
theorem dX4_count_4 : decode cX4_count 4 = .ok (.iconst 1, 1) := by decide +kernel
theorem dX4_count_5 : decode cX4_count 5 = .ok (.if_icmp .ne 13, 3) := by decide +kernel
theorem dX4_count_8 : decode cX4_count 8 = .ok (.aload_n 0, 1) := by decide +kernel
theorem dX4_count_9 : decode cX4_count 9 = .ok (.dup, 1) := by decide +kernel
theorem dX4_count_10 : decode cX4_count 10 = .ok (.getfield 32, 3) := by decide +kernel
theorem dX4_count_13 : decode cX4_count 13 = .ok (.iconst 1, 1) := by decide +kernel
theorem dX4_count_14 : decode cX4_count 14 = .ok (.iadd, 1) := by decide +kernel
theorem dX4_count_15 : decode cX4_count 15 = .ok (.putfield 32, 3) := by decide +kernel
theorem dX4_count_18 : decode cX4_count 18 = .ok (.aload_n 1, 1) := by decide +kernel
theorem dX4_count_19 : decode cX4_count 19 = .ok (.invokevirtual 83, 3) := by decide +kernel
theorem dX4_count_22 : decode cX4_count 22 = .ok (.ifCond .eq 4, 3) := by decide +kernel
theorem dX4_count_25 : decode cX4_count 25 = .ok (.return_, 1) := by decide +kernel
theorem dX4_count_26 : decode cX4_count 26 = .ok (.aload_n 0, 1) := by decide +kernel
theorem dX4_count_27 : decode cX4_count 27 = .ok (.dup, 1) := by decide +kernel
theorem dX4_count_28 : decode cX4_count 28 = .ok (.getfield 29, 3) := by decide +kernel
theorem dX4_count_31 : decode cX4_count 31 = .ok (.iconst 1, 1) := by decide +kernel
theorem dX4_count_32 : decode cX4_count 32 = .ok (.iadd, 1) := by decide +kernel
theorem dX4_count_33 : decode cX4_count 33 = .ok (.putfield 29, 3) := by decide +kernel
theorem dX4_count_36 : decode cX4_count 36 = .ok (.aload_n 1, 1) := by decide +kernel
theorem dX4_count_37 : decode cX4_count 37 = .ok (.invokevirtual 86, 3) := by decide +kernel
theorem dX4_count_40 : decode cX4_count 40 = .ok (.bipush 13, 2) := by decide +kernel
theorem dX4_count_42 : decode cX4_count 42 = .ok (.if_icmp .ne 28, 3) := by decide +kernel
theorem dX4_count_45 : decode cX4_count 45 = .ok (.aload_n 0, 1) := by decide +kernel
theorem dX4_count_46 : decode cX4_count 46 = .ok (.getfield 35, 3) := by decide +kernel
theorem dX4_count_49 : decode cX4_count 49 = .ok (.bipush (-6), 2) := by decide +kernel
theorem dX4_count_51 : decode cX4_count 51 = .ok (.if_icmp .ne 19, 3) := by decide +kernel
theorem dX4_count_54 : decode cX4_count 54 = .ok (.aload_n 0, 1) := by decide +kernel
theorem dX4_count_55 : decode cX4_count 55 = .ok (.aload_n 0, 1) := by decide +kernel
theorem dX4_count_56 : decode cX4_count 56 = .ok (.getfield 25, 3) := by decide +kernel
theorem dX4_count_59 : decode cX4_count 59 = .ok (.putfield 35, 3) := by decide +kernel
theorem dX4_count_62 : decode cX4_count 62 = .ok (.aload_n 0, 1) := by decide +kernel
theorem dX4_count_63 : decode cX4_count 63 = .ok (.aload_n 1, 1) := by decide +kernel
theorem dX4_count_64 : decode cX4_count 64 = .ok (.invokevirtual 89, 3) := by decide +kernel
theorem dX4_count_67 : decode cX4_count 67 = .ok (.putfield 38, 3) := by decide +kernel
theorem dX4_count_70 : decode cX4_count 70 = .ok (.return_, 1) := by decide +kernel
theorem dX4_reason_0 : decode cX4_reason 0 = .ok (.aload_n 0, 1) := by decide +kernel
theorem dX4_reason_1 : decode cX4_reason 1 = .ok (.getfield 41, 3) := by decide +kernel
theorem dX4_reason_4 : decode cX4_reason 4 = .ok (.ireturn, 1) := by decide +kernel
theorem dX4_actsDone_0 : decode cX4_actsDone 0 = .ok (.aload_n 0, 1) := by decide +kernel
theorem dX4_actsDone_1 : decode cX4_actsDone 1 = .ok (.getfield 25, 3) := by decide +kernel
theorem dX4_actsDone_4 : decode cX4_actsDone 4 = .ok (.ireturn, 1) := by decide +kernel
theorem dX4_stepsMade_0 : decode cX4_stepsMade 0 = .ok (.aload_n 0, 1) := by decide +kernel
theorem dX4_stepsMade_1 : decode cX4_stepsMade 1 = .ok (.getfield 29, 3) := by decide +kernel
theorem dX4_stepsMade_4 : decode cX4_stepsMade 4 = .ok (.ireturn, 1) := by decide +kernel
theorem dX4_coinsPaid_0 : decode cX4_coinsPaid 0 = .ok (.aload_n 0, 1) := by decide +kernel
theorem dX4_coinsPaid_1 : decode cX4_coinsPaid 1 = .ok (.getfield 32, 3) := by decide +kernel
theorem dX4_coinsPaid_4 : decode cX4_coinsPaid 4 = .ok (.ireturn, 1) := by decide +kernel
theorem dX4_firstActUp_0 : decode cX4_firstActUp 0 = .ok (.aload_n 0, 1) := by decide +kernel
theorem dX4_firstActUp_1 : decode cX4_firstActUp 1 = .ok (.getfield 35, 3) := by decide +kernel
theorem dX4_firstActUp_4 : decode cX4_firstActUp 4 = .ok (.ireturn, 1) := by decide +kernel
theorem dX4_firstManUp_0 : decode cX4_firstManUp 0 = .ok (.aload_n 0, 1) := by decide +kernel
theorem dX4_firstManUp_1 : decode cX4_firstManUp 1 = .ok (.getfield 38, 3) := by decide +kernel
theorem dX4_firstManUp_4 : decode cX4_firstManUp 4 = .ok (.ireturn, 1) := by decide +kernel
theorem dX4_behindIt_0 : decode cX4_behindIt 0 = .ok (.aload_n 0, 1) := by decide +kernel
theorem dX4_behindIt_1 : decode cX4_behindIt 1 = .ok (.getfield 12, 3) := by decide +kernel
theorem dX4_behindIt_4 : decode cX4_behindIt 4 = .ok (.areturn, 1) := by decide +kernel
theorem dX5_init_0 : decode cX5_init 0 = .ok (.aload_n 0, 1) := by decide +kernel
theorem dX5_init_1 : decode cX5_init 1 = .ok (.invokespecial 3, 3) := by decide +kernel
theorem dX5_init_4 : decode cX5_init 4 = .ok (.aload_n 0, 1) := by decide +kernel
theorem dX5_init_5 : decode cX5_init 5 = .ok (.bipush 60, 2) := by decide +kernel
theorem dX5_init_7 : decode cX5_init 7 = .ok (.newarray .char, 2) := by decide +kernel
theorem dX5_init_9 : decode cX5_init 9 = .ok (.putfield 9, 3) := by decide +kernel
theorem dX5_init_12 : decode cX5_init 12 = .ok (.aload_n 0, 1) := by decide +kernel
theorem dX5_init_13 : decode cX5_init 13 = .ok (.iconst 0, 1) := by decide +kernel
theorem dX5_init_14 : decode cX5_init 14 = .ok (.putfield 15, 3) := by decide +kernel
theorem dX5_init_17 : decode cX5_init 17 = .ok (.return_, 1) := by decide +kernel
theorem dX5_add_0 : decode cX5_add 0 = .ok (.aload_n 0, 1) := by decide +kernel
theorem dX5_add_1 : decode cX5_add 1 = .ok (.getfield 15, 3) := by decide +kernel
theorem dX5_add_4 : decode cX5_add 4 = .ok (.ifCond .lt 12, 3) := by decide +kernel
theorem dX5_add_7 : decode cX5_add 7 = .ok (.aload_n 0, 1) := by decide +kernel
theorem dX5_add_8 : decode cX5_add 8 = .ok (.getfield 15, 3) := by decide +kernel
theorem dX5_add_11 : decode cX5_add 11 = .ok (.bipush 60, 2) := by decide +kernel
theorem dX5_add_13 : decode cX5_add 13 = .ok (.if_icmp .lt 5, 3) := by decide +kernel
theorem dX5_add_16 : decode cX5_add 16 = .ok (.iconst 0, 1) := by decide +kernel
theorem dX5_add_17 : decode cX5_add 17 = .ok (.ireturn, 1) := by decide +kernel
theorem dX5_add_18 : decode cX5_add 18 = .ok (.aload_n 0, 1) := by decide +kernel
theorem dX5_add_19 : decode cX5_add 19 = .ok (.getfield 9, 3) := by decide +kernel
theorem dX5_add_22 : decode cX5_add 22 = .ok (.aload_n 0, 1) := by decide +kernel
theorem dX5_add_23 : decode cX5_add 23 = .ok (.getfield 15, 3) := by decide +kernel
theorem dX5_add_26 : decode cX5_add 26 = .ok (.iload_n 1, 1) := by decide +kernel
theorem dX5_add_27 : decode cX5_add 27 = .ok (.i2c, 1) := by decide +kernel
theorem dX5_add_28 : decode cX5_add 28 = .ok (.castore, 1) := by decide +kernel
theorem dX5_add_29 : decode cX5_add 29 = .ok (.aload_n 0, 1) := by decide +kernel
theorem dX5_add_30 : decode cX5_add 30 = .ok (.dup, 1) := by decide +kernel
theorem dX5_add_31 : decode cX5_add 31 = .ok (.getfield 15, 3) := by decide +kernel
theorem dX5_add_34 : decode cX5_add 34 = .ok (.iconst 1, 1) := by decide +kernel
theorem dX5_add_35 : decode cX5_add 35 = .ok (.iadd, 1) := by decide +kernel
theorem dX5_add_36 : decode cX5_add 36 = .ok (.putfield 15, 3) := by decide +kernel
theorem dX5_add_39 : decode cX5_add 39 = .ok (.iconst 1, 1) := by decide +kernel
theorem dX5_add_40 : decode cX5_add 40 = .ok (.ireturn, 1) := by decide +kernel
theorem dX5_clear_0 : decode cX5_clear 0 = .ok (.aload_n 0, 1) := by decide +kernel
theorem dX5_clear_1 : decode cX5_clear 1 = .ok (.iconst 0, 1) := by decide +kernel
theorem dX5_clear_2 : decode cX5_clear 2 = .ok (.putfield 15, 3) := by decide +kernel
theorem dX5_clear_5 : decode cX5_clear 5 = .ok (.return_, 1) := by decide +kernel
theorem dX5_size_0 : decode cX5_size 0 = .ok (.aload_n 0, 1) := by decide +kernel
theorem dX5_size_1 : decode cX5_size 1 = .ok (.getfield 15, 3) := by decide +kernel
theorem dX5_size_4 : decode cX5_size 4 = .ok (.ireturn, 1) := by decide +kernel
theorem dX5_signAt_0 : decode cX5_signAt 0 = .ok (.iload_n 1, 1) := by decide +kernel
theorem dX5_signAt_1 : decode cX5_signAt 1 = .ok (.ifCond .lt 26, 3) := by decide +kernel
theorem dX5_signAt_4 : decode cX5_signAt 4 = .ok (.iload_n 1, 1) := by decide +kernel
theorem dX5_signAt_5 : decode cX5_signAt 5 = .ok (.aload_n 0, 1) := by decide +kernel
theorem dX5_signAt_6 : decode cX5_signAt 6 = .ok (.getfield 15, 3) := by decide +kernel
theorem dX5_signAt_9 : decode cX5_signAt 9 = .ok (.if_icmp .ge 18, 3) := by decide +kernel
theorem dX5_signAt_12 : decode cX5_signAt 12 = .ok (.iload_n 1, 1) := by decide +kernel
theorem dX5_signAt_13 : decode cX5_signAt 13 = .ok (.bipush 60, 2) := by decide +kernel
theorem dX5_signAt_15 : decode cX5_signAt 15 = .ok (.if_icmp .ge 12, 3) := by decide +kernel
theorem dX5_signAt_18 : decode cX5_signAt 18 = .ok (.aload_n 0, 1) := by decide +kernel
theorem dX5_signAt_19 : decode cX5_signAt 19 = .ok (.getfield 9, 3) := by decide +kernel
theorem dX5_signAt_22 : decode cX5_signAt 22 = .ok (.iload_n 1, 1) := by decide +kernel
theorem dX5_signAt_23 : decode cX5_signAt 23 = .ok (.caload, 1) := by decide +kernel
theorem dX5_signAt_24 : decode cX5_signAt 24 = .ok (.goto 4, 3) := by decide +kernel
theorem dX5_signAt_27 : decode cX5_signAt 27 = .ok (.iconst 0, 1) := by decide +kernel
theorem dX5_signAt_28 : decode cX5_signAt 28 = .ok (.ireturn, 1) := by decide +kernel
theorem dX5_firstFault_0 : decode cX5_firstFault 0 = .ok (.iconst 0, 1) := by decide +kernel
theorem dX5_firstFault_1 : decode cX5_firstFault 1 = .ok (.istore_n 1, 1) := by decide +kernel
theorem dX5_firstFault_2 : decode cX5_firstFault 2 = .ok (.iconst 0, 1) := by decide +kernel
theorem dX5_firstFault_3 : decode cX5_firstFault 3 = .ok (.istore_n 2, 1) := by decide +kernel
theorem dX5_firstFault_4 : decode cX5_firstFault 4 = .ok (.iload_n 2, 1) := by decide +kernel
theorem dX5_firstFault_5 : decode cX5_firstFault 5 = .ok (.bipush 60, 2) := by decide +kernel
theorem dX5_firstFault_7 : decode cX5_firstFault 7 = .ok (.if_icmp .ge 43, 3) := by decide +kernel
theorem dX5_firstFault_10 : decode cX5_firstFault 10 = .ok (.iload_n 1, 1) := by decide +kernel
theorem dX5_firstFault_11 : decode cX5_firstFault 11 = .ok (.aload_n 0, 1) := by decide +kernel
theorem dX5_firstFault_12 : decode cX5_firstFault 12 = .ok (.getfield 15, 3) := by decide +kernel
theorem dX5_firstFault_15 : decode cX5_firstFault 15 = .ok (.if_icmp .ge 35, 3) := by decide +kernel
theorem dX5_firstFault_18 : decode cX5_firstFault 18 = .ok (.aload_n 0, 1) := by decide +kernel
theorem dX5_firstFault_19 : decode cX5_firstFault 19 = .ok (.iload_n 1, 1) := by decide +kernel
theorem dX5_firstFault_20 : decode cX5_firstFault 20 = .ok (.invokevirtual 19, 3) := by decide +kernel
theorem dX5_firstFault_23 : decode cX5_firstFault 23 = .ok (.istore_n 3, 1) := by decide +kernel
theorem dX5_firstFault_24 : decode cX5_firstFault 24 = .ok (.aload_n 0, 1) := by decide +kernel
theorem dX5_firstFault_25 : decode cX5_firstFault 25 = .ok (.iload_n 1, 1) := by decide +kernel
theorem dX5_firstFault_26 : decode cX5_firstFault 26 = .ok (.iload_n 3, 1) := by decide +kernel
theorem dX5_firstFault_27 : decode cX5_firstFault 27 = .ok (.invokevirtual 23, 3) := by decide +kernel
theorem dX5_firstFault_30 : decode cX5_firstFault 30 = .ok (.istore 4, 2) := by decide +kernel
theorem dX5_firstFault_32 : decode cX5_firstFault 32 = .ok (.iload 4, 2) := by decide +kernel
theorem dX5_firstFault_34 : decode cX5_firstFault 34 = .ok (.bipush (-6), 2) := by decide +kernel
theorem dX5_firstFault_36 : decode cX5_firstFault 36 = .ok (.if_icmp .eq 6, 3) := by decide +kernel
theorem dX5_firstFault_39 : decode cX5_firstFault 39 = .ok (.iload 4, 2) := by decide +kernel
theorem dX5_firstFault_41 : decode cX5_firstFault 41 = .ok (.ireturn, 1) := by decide +kernel
theorem dX5_firstFault_42 : decode cX5_firstFault 42 = .ok (.iload_n 3, 1) := by decide +kernel
theorem dX5_firstFault_43 : decode cX5_firstFault 43 = .ok (.istore_n 1, 1) := by decide +kernel
theorem dX5_firstFault_44 : decode cX5_firstFault 44 = .ok (.iinc 2 1, 3) := by decide +kernel
theorem dX5_firstFault_47 : decode cX5_firstFault 47 = .ok (.goto (-43), 3) := by decide +kernel
theorem dX5_firstFault_50 : decode cX5_firstFault 50 = .ok (.bipush (-6), 2) := by decide +kernel
theorem dX5_firstFault_52 : decode cX5_firstFault 52 = .ok (.ireturn, 1) := by decide +kernel
theorem dX5_endOfAct_0 : decode cX5_endOfAct 0 = .ok (.aload_n 0, 1) := by decide +kernel
theorem dX5_endOfAct_1 : decode cX5_endOfAct 1 = .ok (.iload_n 1, 1) := by decide +kernel
theorem dX5_endOfAct_2 : decode cX5_endOfAct 2 = .ok (.invokevirtual 27, 3) := by decide +kernel
theorem dX5_endOfAct_5 : decode cX5_endOfAct 5 = .ok (.invokestatic 31, 3) := by decide +kernel
theorem dX5_endOfAct_8 : decode cX5_endOfAct 8 = .ok (.ifCond .ne 7, 3) := by decide +kernel
theorem dX5_endOfAct_11 : decode cX5_endOfAct 11 = .ok (.iload_n 1, 1) := by decide +kernel
theorem dX5_endOfAct_12 : decode cX5_endOfAct 12 = .ok (.iconst 1, 1) := by decide +kernel
theorem dX5_endOfAct_13 : decode cX5_endOfAct 13 = .ok (.iadd, 1) := by decide +kernel
theorem dX5_endOfAct_14 : decode cX5_endOfAct 14 = .ok (.ireturn, 1) := by decide +kernel
theorem dX5_endOfAct_15 : decode cX5_endOfAct 15 = .ok (.aload_n 0, 1) := by decide +kernel
theorem dX5_endOfAct_16 : decode cX5_endOfAct 16 = .ok (.iload_n 1, 1) := by decide +kernel
theorem dX5_endOfAct_17 : decode cX5_endOfAct 17 = .ok (.iconst 1, 1) := by decide +kernel
theorem dX5_endOfAct_18 : decode cX5_endOfAct 18 = .ok (.iadd, 1) := by decide +kernel
theorem dX5_endOfAct_19 : decode cX5_endOfAct 19 = .ok (.invokevirtual 27, 3) := by decide +kernel
theorem dX5_endOfAct_22 : decode cX5_endOfAct 22 = .ok (.bipush 37, 2) := by decide +kernel
theorem dX5_endOfAct_24 : decode cX5_endOfAct 24 = .ok (.if_icmp .ne 20, 3) := by decide +kernel
theorem dX5_endOfAct_27 : decode cX5_endOfAct 27 = .ok (.aload_n 0, 1) := by decide +kernel
theorem dX5_endOfAct_28 : decode cX5_endOfAct 28 = .ok (.iload_n 1, 1) := by decide +kernel
theorem dX5_endOfAct_29 : decode cX5_endOfAct 29 = .ok (.invokevirtual 27, 3) := by decide +kernel
theorem dX5_endOfAct_32 : decode cX5_endOfAct 32 = .ok (.invokestatic 35, 3) := by decide +kernel
theorem dX5_endOfAct_35 : decode cX5_endOfAct 35 = .ok (.ifCond .eq 9, 3) := by decide +kernel
theorem dX5_endOfAct_38 : decode cX5_endOfAct 38 = .ok (.iload_n 1, 1) := by decide +kernel
theorem dX5_endOfAct_39 : decode cX5_endOfAct 39 = .ok (.iconst 3, 1) := by decide +kernel
theorem dX5_endOfAct_40 : decode cX5_endOfAct 40 = .ok (.iadd, 1) := by decide +kernel
theorem dX5_endOfAct_41 : decode cX5_endOfAct 41 = .ok (.goto 6, 3) := by decide +kernel
theorem dX5_endOfAct_44 : decode cX5_endOfAct 44 = .ok (.iload_n 1, 1) := by decide +kernel
theorem dX5_endOfAct_45 : decode cX5_endOfAct 45 = .ok (.iconst 2, 1) := by decide +kernel
theorem dX5_endOfAct_46 : decode cX5_endOfAct 46 = .ok (.iadd, 1) := by decide +kernel
theorem dX5_endOfAct_47 : decode cX5_endOfAct 47 = .ok (.ireturn, 1) := by decide +kernel
theorem dX5_firstWrongSign_0 : decode cX5_firstWrongSign 0 = .ok (.aload_n 0, 1) := by decide +kernel
theorem dX5_firstWrongSign_1 : decode cX5_firstWrongSign 1 = .ok (.iload_n 1, 1) := by decide +kernel
theorem dX5_firstWrongSign_2 : decode cX5_firstWrongSign 2 = .ok (.invokevirtual 27, 3) := by decide +kernel
theorem dX5_firstWrongSign_5 : decode cX5_firstWrongSign 5 = .ok (.istore_n 3, 1) := by decide +kernel
theorem dX5_firstWrongSign_6 : decode cX5_firstWrongSign 6 = .ok (.iload_n 3, 1) := by decide +kernel
theorem dX5_firstWrongSign_7 : decode cX5_firstWrongSign 7 = .ok (.bipush 46, 2) := by decide +kernel
theorem dX5_firstWrongSign_9 : decode cX5_firstWrongSign 9 = .ok (.if_icmp .ne 6, 3) := by decide +kernel
theorem dX5_firstWrongSign_12 : decode cX5_firstWrongSign 12 = .ok (.bipush (-6), 2) := by decide +kernel
theorem dX5_firstWrongSign_14 : decode cX5_firstWrongSign 14 = .ok (.ireturn, 1) := by decide +kernel
theorem dX5_firstWrongSign_15 : decode cX5_firstWrongSign 15 = .ok (.iload_n 3, 1) := by decide +kernel
theorem dX5_firstWrongSign_16 : decode cX5_firstWrongSign 16 = .ok (.invokestatic 31, 3) := by decide +kernel
theorem dX5_firstWrongSign_19 : decode cX5_firstWrongSign 19 = .ok (.ifCond .ne 5, 3) := by decide +kernel
theorem dX5_firstWrongSign_22 : decode cX5_firstWrongSign 22 = .ok (.iload_n 1, 1) := by decide +kernel
theorem dX5_firstWrongSign_23 : decode cX5_firstWrongSign 23 = .ok (.ireturn, 1) := by decide +kernel
theorem dX5_firstWrongSign_24 : decode cX5_firstWrongSign 24 = .ok (.iload_n 3, 1) := by decide +kernel
theorem dX5_firstWrongSign_25 : decode cX5_firstWrongSign 25 = .ok (.invokestatic 35, 3) := by decide +kernel
theorem dX5_firstWrongSign_28 : decode cX5_firstWrongSign 28 = .ok (.ifCond .eq 14, 3) := by decide +kernel
theorem dX5_firstWrongSign_31 : decode cX5_firstWrongSign 31 = .ok (.iload_n 2, 1) := by decide +kernel
theorem dX5_firstWrongSign_32 : decode cX5_firstWrongSign 32 = .ok (.iload_n 1, 1) := by decide +kernel
theorem dX5_firstWrongSign_33 : decode cX5_firstWrongSign 33 = .ok (.isub, 1) := by decide +kernel
theorem dX5_firstWrongSign_34 : decode cX5_firstWrongSign 34 = .ok (.iconst 2, 1) := by decide +kernel
theorem dX5_firstWrongSign_35 : decode cX5_firstWrongSign 35 = .ok (.if_icmp .ne 7, 3) := by decide +kernel
theorem dX5_firstWrongSign_38 : decode cX5_firstWrongSign 38 = .ok (.iconst 1, 1) := by decide +kernel
theorem dX5_firstWrongSign_39 : decode cX5_firstWrongSign 39 = .ok (.goto 4, 3) := by decide +kernel
theorem dX5_firstWrongSign_42 : decode cX5_firstWrongSign 42 = .ok (.iconst 0, 1) := by decide +kernel
theorem dX5_firstWrongSign_43 : decode cX5_firstWrongSign 43 = .ok (.istore 4, 2) := by decide +kernel
theorem dX5_firstWrongSign_45 : decode cX5_firstWrongSign 45 = .ok (.aload_n 0, 1) := by decide +kernel
theorem dX5_firstWrongSign_46 : decode cX5_firstWrongSign 46 = .ok (.iload_n 2, 1) := by decide +kernel
theorem dX5_firstWrongSign_47 : decode cX5_firstWrongSign 47 = .ok (.iconst 1, 1) := by decide +kernel
theorem dX5_firstWrongSign_48 : decode cX5_firstWrongSign 48 = .ok (.isub, 1) := by decide +kernel
theorem dX5_firstWrongSign_49 : decode cX5_firstWrongSign 49 = .ok (.invokevirtual 27, 3) := by decide +kernel
theorem dX5_firstWrongSign_52 : decode cX5_firstWrongSign 52 = .ok (.istore 5, 2) := by decide +kernel
theorem dX5_firstWrongSign_54 : decode cX5_firstWrongSign 54 = .ok (.iload 5, 2) := by decide +kernel
theorem dX5_firstWrongSign_56 : decode cX5_firstWrongSign 56 = .ok (.invokestatic 38, 3) := by decide +kernel
theorem dX5_firstWrongSign_59 : decode cX5_firstWrongSign 59 = .ok (.ifCond .ne 16, 3) := by decide +kernel
theorem dX5_firstWrongSign_62 : decode cX5_firstWrongSign 62 = .ok (.iload 4, 2) := by decide +kernel
theorem dX5_firstWrongSign_64 : decode cX5_firstWrongSign 64 = .ok (.ifCond .eq 16, 3) := by decide +kernel
theorem dX5_firstWrongSign_67 : decode cX5_firstWrongSign 67 = .ok (.iload 5, 2) := by decide +kernel
theorem dX5_firstWrongSign_69 : decode cX5_firstWrongSign 69 = .ok (.invokestatic 41, 3) := by decide +kernel
theorem dX5_firstWrongSign_72 : decode cX5_firstWrongSign 72 = .ok (.ifCond .eq 8, 3) := by decide +kernel
theorem dX5_firstWrongSign_75 : decode cX5_firstWrongSign 75 = .ok (.bipush (-6), 2) := by decide +kernel
theorem dX5_firstWrongSign_77 : decode cX5_firstWrongSign 77 = .ok (.goto 6, 3) := by decide +kernel
theorem dX5_firstWrongSign_80 : decode cX5_firstWrongSign 80 = .ok (.iload_n 2, 1) := by decide +kernel
theorem dX5_firstWrongSign_81 : decode cX5_firstWrongSign 81 = .ok (.iconst 1, 1) := by decide +kernel
theorem dX5_firstWrongSign_82 : decode cX5_firstWrongSign 82 = .ok (.isub, 1) := by decide +kernel
theorem dX5_firstWrongSign_83 : decode cX5_firstWrongSign 83 = .ok (.ireturn, 1) := by decide +kernel
theorem dX5_needsMore_0 : decode cX5_needsMore 0 = .ok (.iload_n 0, 1) := by decide +kernel
theorem dX5_needsMore_1 : decode cX5_needsMore 1 = .ok (.invokestatic 35, 3) := by decide +kernel
theorem dX5_needsMore_4 : decode cX5_needsMore 4 = .ok (.ifCond .ne 15, 3) := by decide +kernel
theorem dX5_needsMore_7 : decode cX5_needsMore 7 = .ok (.iload_n 0, 1) := by decide +kernel
theorem dX5_needsMore_8 : decode cX5_needsMore 8 = .ok (.bipush 107, 2) := by decide +kernel
theorem dX5_needsMore_10 : decode cX5_needsMore 10 = .ok (.if_icmp .eq 9, 3) := by decide +kernel
theorem dX5_needsMore_13 : decode cX5_needsMore 13 = .ok (.iload_n 0, 1) := by decide +kernel
theorem dX5_needsMore_14 : decode cX5_needsMore 14 = .ok (.bipush 43, 2) := by decide +kernel
theorem dX5_needsMore_16 : decode cX5_needsMore 16 = .ok (.if_icmp .ne 7, 3) := by decide +kernel
theorem dX5_needsMore_19 : decode cX5_needsMore 19 = .ok (.iconst 1, 1) := by decide +kernel
theorem dX5_needsMore_20 : decode cX5_needsMore 20 = .ok (.goto 4, 3) := by decide +kernel
theorem dX5_needsMore_23 : decode cX5_needsMore 23 = .ok (.iconst 0, 1) := by decide +kernel
theorem dX5_needsMore_24 : decode cX5_needsMore 24 = .ok (.ireturn, 1) := by decide +kernel
theorem dX5_read_0 : decode cX5_read 0 = .ok (.aload_n 0, 1) := by decide +kernel
theorem dX5_read_1 : decode cX5_read 1 = .ok (.iload_n 1, 1) := by decide +kernel
theorem dX5_read_2 : decode cX5_read 2 = .ok (.invokevirtual 27, 3) := by decide +kernel
theorem dX5_read_5 : decode cX5_read 5 = .ok (.istore 4, 2) := by decide +kernel
theorem dX5_read_7 : decode cX5_read 7 = .ok (.aload_n 0, 1) := by decide +kernel
theorem dX5_read_8 : decode cX5_read 8 = .ok (.iload_n 2, 1) := by decide +kernel
theorem dX5_read_9 : decode cX5_read 9 = .ok (.iconst 1, 1) := by decide +kernel
theorem dX5_read_10 : decode cX5_read 10 = .ok (.isub, 1) := by decide +kernel
theorem dX5_read_11 : decode cX5_read 11 = .ok (.invokevirtual 27, 3) := by decide +kernel
theorem dX5_read_14 : decode cX5_read 14 = .ok (.istore 5, 2) := by decide +kernel
theorem dX5_read_16 : decode cX5_read 16 = .ok (.iload 4, 2) := by decide +kernel
theorem dX5_read_18 : decode cX5_read 18 = .ok (.bipush 46, 2) := by decide +kernel
theorem dX5_read_20 : decode cX5_read 20 = .ok (.if_icmp .ne 13, 3) := by decide +kernel
theorem dX5_read_23 : decode cX5_read 23 = .ok (.aload_n 3, 1) := by decide +kernel
theorem dX5_read_24 : decode cX5_read 24 = .ok (.iconst 4, 1) := by decide +kernel
theorem dX5_read_25 : decode cX5_read 25 = .ok (.iconst 0, 1) := by decide +kernel
theorem dX5_read_26 : decode cX5_read 26 = .ok (.iconst 0, 1) := by decide +kernel
theorem dX5_read_27 : decode cX5_read 27 = .ok (.invokevirtual 46, 3) := by decide +kernel
theorem dX5_read_30 : decode cX5_read 30 = .ok (.goto 75, 3) := by decide +kernel
theorem dX5_read_33 : decode cX5_read 33 = .ok (.iload 4, 2) := by decide +kernel
theorem dX5_read_35 : decode cX5_read 35 = .ok (.bipush 107, 2) := by decide +kernel
theorem dX5_read_37 : decode cX5_read 37 = .ok (.if_icmp .ne 17, 3) := by decide +kernel
theorem dX5_read_40 : decode cX5_read 40 = .ok (.aload_n 3, 1) := by decide +kernel
theorem dX5_read_41 : decode cX5_read 41 = .ok (.iconst 2, 1) := by decide +kernel
theorem dX5_read_42 : decode cX5_read 42 = .ok (.iconst 0, 1) := by decide +kernel
theorem dX5_read_43 : decode cX5_read 43 = .ok (.iload 5, 2) := by decide +kernel
theorem dX5_read_45 : decode cX5_read 45 = .ok (.invokestatic 50, 3) := by decide +kernel
theorem dX5_read_48 : decode cX5_read 48 = .ok (.invokevirtual 46, 3) := by decide +kernel
theorem dX5_read_51 : decode cX5_read 51 = .ok (.goto 54, 3) := by decide +kernel
theorem dX5_read_54 : decode cX5_read 54 = .ok (.iload 4, 2) := by decide +kernel
theorem dX5_read_56 : decode cX5_read 56 = .ok (.bipush 43, 2) := by decide +kernel
theorem dX5_read_58 : decode cX5_read 58 = .ok (.if_icmp .ne 17, 3) := by decide +kernel
theorem dX5_read_61 : decode cX5_read 61 = .ok (.aload_n 3, 1) := by decide +kernel
theorem dX5_read_62 : decode cX5_read 62 = .ok (.iconst 3, 1) := by decide +kernel
theorem dX5_read_63 : decode cX5_read 63 = .ok (.iconst 0, 1) := by decide +kernel
theorem dX5_read_64 : decode cX5_read 64 = .ok (.iload 5, 2) := by decide +kernel
theorem dX5_read_66 : decode cX5_read 66 = .ok (.invokestatic 50, 3) := by decide +kernel
theorem dX5_read_69 : decode cX5_read 69 = .ok (.invokevirtual 46, 3) := by decide +kernel
theorem dX5_read_72 : decode cX5_read 72 = .ok (.goto 33, 3) := by decide +kernel
theorem dX5_read_75 : decode cX5_read 75 = .ok (.iload_n 2, 1) := by decide +kernel
theorem dX5_read_76 : decode cX5_read 76 = .ok (.iload_n 1, 1) := by decide +kernel
theorem dX5_read_77 : decode cX5_read 77 = .ok (.isub, 1) := by decide +kernel
theorem dX5_read_78 : decode cX5_read 78 = .ok (.iconst 3, 1) := by decide +kernel
theorem dX5_read_79 : decode cX5_read 79 = .ok (.if_icmp .ne 7, 3) := by decide +kernel
theorem dX5_read_82 : decode cX5_read 82 = .ok (.iconst 1, 1) := by decide +kernel
theorem dX5_read_83 : decode cX5_read 83 = .ok (.goto 4, 3) := by decide +kernel
theorem dX5_read_86 : decode cX5_read 86 = .ok (.iconst 0, 1) := by decide +kernel
theorem dX5_read_87 : decode cX5_read 87 = .ok (.istore 6, 2) := by decide +kernel
theorem dX5_read_89 : decode cX5_read 89 = .ok (.aload_n 3, 1) := by decide +kernel
theorem dX5_read_90 : decode cX5_read 90 = .ok (.iload 6, 2) := by decide +kernel
theorem dX5_read_92 : decode cX5_read 92 = .ok (.iload 4, 2) := by decide +kernel
theorem dX5_read_94 : decode cX5_read 94 = .ok (.bipush 65, 2) := by decide +kernel
theorem dX5_read_96 : decode cX5_read 96 = .ok (.isub, 1) := by decide +kernel
theorem dX5_read_97 : decode cX5_read 97 = .ok (.iload 5, 2) := by decide +kernel
theorem dX5_read_99 : decode cX5_read 99 = .ok (.invokestatic 50, 3) := by decide +kernel
theorem dX5_read_102 : decode cX5_read 102 = .ok (.invokevirtual 46, 3) := by decide +kernel
theorem dX5_read_105 : decode cX5_read 105 = .ok (.return_, 1) := by decide +kernel
theorem dX5_placeOfSign_0 : decode cX5_placeOfSign 0 = .ok (.iload_n 0, 1) := by decide +kernel
theorem dX5_placeOfSign_1 : decode cX5_placeOfSign 1 = .ok (.bipush 94, 2) := by decide +kernel
theorem dX5_placeOfSign_3 : decode cX5_placeOfSign 3 = .ok (.if_icmp .ne 6, 3) := by decide +kernel
theorem dX5_placeOfSign_6 : decode cX5_placeOfSign 6 = .ok (.bipush 13, 2) := by decide +kernel
theorem dX5_placeOfSign_8 : decode cX5_placeOfSign 8 = .ok (.ireturn, 1) := by decide +kernel
theorem dX5_placeOfSign_9 : decode cX5_placeOfSign 9 = .ok (.iload_n 0, 1) := by decide +kernel
theorem dX5_placeOfSign_10 : decode cX5_placeOfSign 10 = .ok (.invokestatic 38, 3) := by decide +kernel
theorem dX5_placeOfSign_13 : decode cX5_placeOfSign 13 = .ok (.ifCond .eq 12, 3) := by decide +kernel
theorem dX5_placeOfSign_16 : decode cX5_placeOfSign 16 = .ok (.iload_n 0, 1) := by decide +kernel
theorem dX5_placeOfSign_17 : decode cX5_placeOfSign 17 = .ok (.bipush 97, 2) := by decide +kernel
theorem dX5_placeOfSign_19 : decode cX5_placeOfSign 19 = .ok (.isub, 1) := by decide +kernel
theorem dX5_placeOfSign_20 : decode cX5_placeOfSign 20 = .ok (.iconst 1, 1) := by decide +kernel
theorem dX5_placeOfSign_21 : decode cX5_placeOfSign 21 = .ok (.iadd, 1) := by decide +kernel
theorem dX5_placeOfSign_22 : decode cX5_placeOfSign 22 = .ok (.goto 4, 3) := by decide +kernel
theorem dX5_placeOfSign_25 : decode cX5_placeOfSign 25 = .ok (.iconst 0, 1) := by decide +kernel
theorem dX5_placeOfSign_26 : decode cX5_placeOfSign 26 = .ok (.ireturn, 1) := by decide +kernel
theorem dX5_isManSign_0 : decode cX5_isManSign 0 = .ok (.iload_n 0, 1) := by decide +kernel
theorem dX5_isManSign_1 : decode cX5_isManSign 1 = .ok (.bipush 65, 2) := by decide +kernel
theorem dX5_isManSign_3 : decode cX5_isManSign 3 = .ok (.if_icmp .lt 13, 3) := by decide +kernel
theorem dX5_isManSign_6 : decode cX5_isManSign 6 = .ok (.iload_n 0, 1) := by decide +kernel
theorem dX5_isManSign_7 : decode cX5_isManSign 7 = .ok (.bipush 70, 2) := by decide +kernel
theorem dX5_isManSign_9 : decode cX5_isManSign 9 = .ok (.if_icmp .gt 7, 3) := by decide +kernel
theorem dX5_isManSign_12 : decode cX5_isManSign 12 = .ok (.iconst 1, 1) := by decide +kernel
theorem dX5_isManSign_13 : decode cX5_isManSign 13 = .ok (.goto 4, 3) := by decide +kernel
theorem dX5_isManSign_16 : decode cX5_isManSign 16 = .ok (.iconst 0, 1) := by decide +kernel
theorem dX5_isManSign_17 : decode cX5_isManSign 17 = .ok (.ireturn, 1) := by decide +kernel
theorem dX5_isRungSign_0 : decode cX5_isRungSign 0 = .ok (.iload_n 0, 1) := by decide +kernel
theorem dX5_isRungSign_1 : decode cX5_isRungSign 1 = .ok (.bipush 97, 2) := by decide +kernel
theorem dX5_isRungSign_3 : decode cX5_isRungSign 3 = .ok (.if_icmp .lt 13, 3) := by decide +kernel
theorem dX5_isRungSign_6 : decode cX5_isRungSign 6 = .ok (.iload_n 0, 1) := by decide +kernel
theorem dX5_isRungSign_7 : decode cX5_isRungSign 7 = .ok (.bipush 108, 2) := by decide +kernel
theorem dX5_isRungSign_9 : decode cX5_isRungSign 9 = .ok (.if_icmp .gt 7, 3) := by decide +kernel
theorem dX5_isRungSign_12 : decode cX5_isRungSign 12 = .ok (.iconst 1, 1) := by decide +kernel
theorem dX5_isRungSign_13 : decode cX5_isRungSign 13 = .ok (.goto 4, 3) := by decide +kernel
theorem dX5_isRungSign_16 : decode cX5_isRungSign 16 = .ok (.iconst 0, 1) := by decide +kernel
theorem dX5_isRungSign_17 : decode cX5_isRungSign 17 = .ok (.ireturn, 1) := by decide +kernel
theorem dX5_isEndOfLadder_0 : decode cX5_isEndOfLadder 0 = .ok (.iload_n 0, 1) := by decide +kernel
theorem dX5_isEndOfLadder_1 : decode cX5_isEndOfLadder 1 = .ok (.bipush 94, 2) := by decide +kernel
theorem dX5_isEndOfLadder_3 : decode cX5_isEndOfLadder 3 = .ok (.if_icmp .eq 9, 3) := by decide +kernel
theorem dX5_isEndOfLadder_6 : decode cX5_isEndOfLadder 6 = .ok (.iload_n 0, 1) := by decide +kernel
theorem dX5_isEndOfLadder_7 : decode cX5_isEndOfLadder 7 = .ok (.bipush 95, 2) := by decide +kernel
theorem dX5_isEndOfLadder_9 : decode cX5_isEndOfLadder 9 = .ok (.if_icmp .ne 7, 3) := by decide +kernel
theorem dX5_isEndOfLadder_12 : decode cX5_isEndOfLadder 12 = .ok (.iconst 1, 1) := by decide +kernel
theorem dX5_isEndOfLadder_13 : decode cX5_isEndOfLadder 13 = .ok (.goto 4, 3) := by decide +kernel
theorem dX5_isEndOfLadder_16 : decode cX5_isEndOfLadder 16 = .ok (.iconst 0, 1) := by decide +kernel
theorem dX5_isEndOfLadder_17 : decode cX5_isEndOfLadder 17 = .ok (.ireturn, 1) := by decide +kernel
theorem dX6_init_0 : decode cX6_init 0 = .ok (.aload_n 0, 1) := by decide +kernel
theorem dX6_init_1 : decode cX6_init 1 = .ok (.invokespecial 3, 3) := by decide +kernel
theorem dX6_init_4 : decode cX6_init 4 = .ok (.aload_n 0, 1) := by decide +kernel
theorem dX6_init_5 : decode cX6_init 5 = .ok (.bipush 6, 2) := by decide +kernel
theorem dX6_init_7 : decode cX6_init 7 = .ok (.newarray .int, 2) := by decide +kernel
theorem dX6_init_9 : decode cX6_init 9 = .ok (.putfield 9, 3) := by decide +kernel
theorem dX6_init_12 : decode cX6_init 12 = .ok (.aload_n 0, 1) := by decide +kernel
theorem dX6_init_13 : decode cX6_init 13 = .ok (.bipush 6, 2) := by decide +kernel
theorem dX6_init_15 : decode cX6_init 15 = .ok (.newarray .int, 2) := by decide +kernel
theorem dX6_init_17 : decode cX6_init 17 = .ok (.putfield 15, 3) := by decide +kernel
theorem dX6_init_20 : decode cX6_init 20 = .ok (.aload_n 0, 1) := by decide +kernel
theorem dX6_init_21 : decode cX6_init 21 = .ok (.iconst 0, 1) := by decide +kernel
theorem dX6_init_22 : decode cX6_init 22 = .ok (.putfield 18, 3) := by decide +kernel
theorem dX6_init_25 : decode cX6_init 25 = .ok (.return_, 1) := by decide +kernel
theorem dX6_assign_0 : decode cX6_assign 0 = .ok (.iconst 0, 1) := by decide +kernel
theorem dX6_assign_1 : decode cX6_assign 1 = .ok (.istore_n 2, 1) := by decide +kernel
theorem dX6_assign_2 : decode cX6_assign 2 = .ok (.iload_n 2, 1) := by decide +kernel
theorem dX6_assign_3 : decode cX6_assign 3 = .ok (.bipush 6, 2) := by decide +kernel
theorem dX6_assign_5 : decode cX6_assign 5 = .ok (.if_icmp .ge 20, 3) := by decide +kernel
theorem dX6_assign_8 : decode cX6_assign 8 = .ok (.aload_n 0, 1) := by decide +kernel
theorem dX6_assign_9 : decode cX6_assign 9 = .ok (.getfield 9, 3) := by decide +kernel
theorem dX6_assign_12 : decode cX6_assign 12 = .ok (.iload_n 2, 1) := by decide +kernel
theorem dX6_assign_13 : decode cX6_assign 13 = .ok (.aload_n 1, 1) := by decide +kernel
theorem dX6_assign_14 : decode cX6_assign 14 = .ok (.iload_n 2, 1) := by decide +kernel
theorem dX6_assign_15 : decode cX6_assign 15 = .ok (.invokevirtual 22, 3) := by decide +kernel
theorem dX6_assign_18 : decode cX6_assign 18 = .ok (.iastore, 1) := by decide +kernel
theorem dX6_assign_19 : decode cX6_assign 19 = .ok (.iinc 2 1, 3) := by decide +kernel
theorem dX6_assign_22 : decode cX6_assign 22 = .ok (.goto (-20), 3) := by decide +kernel
theorem dX6_assign_25 : decode cX6_assign 25 = .ok (.aload_n 0, 1) := by decide +kernel
theorem dX6_assign_26 : decode cX6_assign 26 = .ok (.aload_n 0, 1) := by decide +kernel
theorem dX6_assign_27 : decode cX6_assign 27 = .ok (.iconst 0, 1) := by decide +kernel
theorem dX6_assign_28 : decode cX6_assign 28 = .ok (.sipush 4095, 3) := by decide +kernel
theorem dX6_assign_31 : decode cX6_assign 31 = .ok (.invokevirtual 28, 3) := by decide +kernel
theorem dX6_assign_34 : decode cX6_assign 34 = .ok (.putfield 18, 3) := by decide +kernel
theorem dX6_assign_37 : decode cX6_assign 37 = .ok (.sipush 4095, 3) := by decide +kernel
theorem dX6_assign_40 : decode cX6_assign 40 = .ok (.istore_n 2, 1) := by decide +kernel
theorem dX6_assign_41 : decode cX6_assign 41 = .ok (.iconst 0, 1) := by decide +kernel
theorem dX6_assign_42 : decode cX6_assign 42 = .ok (.istore_n 3, 1) := by decide +kernel
theorem dX6_assign_43 : decode cX6_assign 43 = .ok (.iload_n 3, 1) := by decide +kernel
theorem dX6_assign_44 : decode cX6_assign 44 = .ok (.bipush 6, 2) := by decide +kernel
theorem dX6_assign_46 : decode cX6_assign 46 = .ok (.if_icmp .ge 35, 3) := by decide +kernel
theorem dX6_assign_49 : decode cX6_assign 49 = .ok (.aload_n 0, 1) := by decide +kernel
theorem dX6_assign_50 : decode cX6_assign 50 = .ok (.getfield 15, 3) := by decide +kernel
theorem dX6_assign_53 : decode cX6_assign 53 = .ok (.iload_n 3, 1) := by decide +kernel
theorem dX6_assign_54 : decode cX6_assign 54 = .ok (.aload_n 0, 1) := by decide +kernel
theorem dX6_assign_55 : decode cX6_assign 55 = .ok (.iload_n 3, 1) := by decide +kernel
theorem dX6_assign_56 : decode cX6_assign 56 = .ok (.iload_n 2, 1) := by decide +kernel
theorem dX6_assign_57 : decode cX6_assign 57 = .ok (.invokevirtual 32, 3) := by decide +kernel
theorem dX6_assign_60 : decode cX6_assign 60 = .ok (.iastore, 1) := by decide +kernel
theorem dX6_assign_61 : decode cX6_assign 61 = .ok (.iload_n 2, 1) := by decide +kernel
theorem dX6_assign_62 : decode cX6_assign 62 = .ok (.aload_n 0, 1) := by decide +kernel
theorem dX6_assign_63 : decode cX6_assign 63 = .ok (.getfield 15, 3) := by decide +kernel
theorem dX6_assign_66 : decode cX6_assign 66 = .ok (.iload_n 3, 1) := by decide +kernel
theorem dX6_assign_67 : decode cX6_assign 67 = .ok (.iaload, 1) := by decide +kernel
theorem dX6_assign_68 : decode cX6_assign 68 = .ok (.invokestatic 35, 3) := by decide +kernel
theorem dX6_assign_71 : decode cX6_assign 71 = .ok (.iconst (-1), 1) := by decide +kernel
theorem dX6_assign_72 : decode cX6_assign 72 = .ok (.ixor, 1) := by decide +kernel
theorem dX6_assign_73 : decode cX6_assign 73 = .ok (.iand, 1) := by decide +kernel
theorem dX6_assign_74 : decode cX6_assign 74 = .ok (.istore_n 2, 1) := by decide +kernel
theorem dX6_assign_75 : decode cX6_assign 75 = .ok (.iinc 3 1, 3) := by decide +kernel
theorem dX6_assign_78 : decode cX6_assign 78 = .ok (.goto (-35), 3) := by decide +kernel
theorem dX6_assign_81 : decode cX6_assign 81 = .ok (.return_, 1) := by decide +kernel
theorem dX6_lowestPost_0 : decode cX6_lowestPost 0 = .ok (.aload_n 0, 1) := by decide +kernel
theorem dX6_lowestPost_1 : decode cX6_lowestPost 1 = .ok (.iload_n 1, 1) := by decide +kernel
theorem dX6_lowestPost_2 : decode cX6_lowestPost 2 = .ok (.iload_n 2, 1) := by decide +kernel
theorem dX6_lowestPost_3 : decode cX6_lowestPost 3 = .ok (.invokevirtual 28, 3) := by decide +kernel
theorem dX6_lowestPost_6 : decode cX6_lowestPost 6 = .ok (.istore_n 3, 1) := by decide +kernel
theorem dX6_lowestPost_7 : decode cX6_lowestPost 7 = .ok (.iconst 1, 1) := by decide +kernel
theorem dX6_lowestPost_8 : decode cX6_lowestPost 8 = .ok (.istore 4, 2) := by decide +kernel
theorem dX6_lowestPost_10 : decode cX6_lowestPost 10 = .ok (.iload 4, 2) := by decide +kernel
theorem dX6_lowestPost_12 : decode cX6_lowestPost 12 = .ok (.bipush 12, 2) := by decide +kernel
theorem dX6_lowestPost_14 : decode cX6_lowestPost 14 = .ok (.if_icmp .gt 51, 3) := by decide +kernel
theorem dX6_lowestPost_17 : decode cX6_lowestPost 17 = .ok (.aload_n 0, 1) := by decide +kernel
theorem dX6_lowestPost_18 : decode cX6_lowestPost 18 = .ok (.getfield 9, 3) := by decide +kernel
theorem dX6_lowestPost_21 : decode cX6_lowestPost 21 = .ok (.iload_n 1, 1) := by decide +kernel
theorem dX6_lowestPost_22 : decode cX6_lowestPost 22 = .ok (.iaload, 1) := by decide +kernel
theorem dX6_lowestPost_23 : decode cX6_lowestPost 23 = .ok (.iload_n 2, 1) := by decide +kernel
theorem dX6_lowestPost_24 : decode cX6_lowestPost 24 = .ok (.iand, 1) := by decide +kernel
theorem dX6_lowestPost_25 : decode cX6_lowestPost 25 = .ok (.iload 4, 2) := by decide +kernel
theorem dX6_lowestPost_27 : decode cX6_lowestPost 27 = .ok (.invokestatic 35, 3) := by decide +kernel
theorem dX6_lowestPost_30 : decode cX6_lowestPost 30 = .ok (.iand, 1) := by decide +kernel
theorem dX6_lowestPost_31 : decode cX6_lowestPost 31 = .ok (.ifCond .eq 28, 3) := by decide +kernel
theorem dX6_lowestPost_34 : decode cX6_lowestPost 34 = .ok (.iconst 1, 1) := by decide +kernel
theorem dX6_lowestPost_35 : decode cX6_lowestPost 35 = .ok (.aload_n 0, 1) := by decide +kernel
theorem dX6_lowestPost_36 : decode cX6_lowestPost 36 = .ok (.iload_n 1, 1) := by decide +kernel
theorem dX6_lowestPost_37 : decode cX6_lowestPost 37 = .ok (.iconst 1, 1) := by decide +kernel
theorem dX6_lowestPost_38 : decode cX6_lowestPost 38 = .ok (.iadd, 1) := by decide +kernel
theorem dX6_lowestPost_39 : decode cX6_lowestPost 39 = .ok (.iload_n 2, 1) := by decide +kernel
theorem dX6_lowestPost_40 : decode cX6_lowestPost 40 = .ok (.iload 4, 2) := by decide +kernel
theorem dX6_lowestPost_42 : decode cX6_lowestPost 42 = .ok (.invokestatic 35, 3) := by decide +kernel
theorem dX6_lowestPost_45 : decode cX6_lowestPost 45 = .ok (.iconst (-1), 1) := by decide +kernel
theorem dX6_lowestPost_46 : decode cX6_lowestPost 46 = .ok (.ixor, 1) := by decide +kernel
theorem dX6_lowestPost_47 : decode cX6_lowestPost 47 = .ok (.iand, 1) := by decide +kernel
theorem dX6_lowestPost_48 : decode cX6_lowestPost 48 = .ok (.invokevirtual 28, 3) := by decide +kernel
theorem dX6_lowestPost_51 : decode cX6_lowestPost 51 = .ok (.iadd, 1) := by decide +kernel
theorem dX6_lowestPost_52 : decode cX6_lowestPost 52 = .ok (.iload_n 3, 1) := by decide +kernel
theorem dX6_lowestPost_53 : decode cX6_lowestPost 53 = .ok (.if_icmp .ne 6, 3) := by decide +kernel
theorem dX6_lowestPost_56 : decode cX6_lowestPost 56 = .ok (.iload 4, 2) := by decide +kernel
theorem dX6_lowestPost_58 : decode cX6_lowestPost 58 = .ok (.ireturn, 1) := by decide +kernel
theorem dX6_lowestPost_59 : decode cX6_lowestPost 59 = .ok (.iinc 4 1, 3) := by decide +kernel
theorem dX6_lowestPost_62 : decode cX6_lowestPost 62 = .ok (.goto (-52), 3) := by decide +kernel
theorem dX6_lowestPost_65 : decode cX6_lowestPost 65 = .ok (.bipush (-6), 2) := by decide +kernel
theorem dX6_lowestPost_67 : decode cX6_lowestPost 67 = .ok (.ireturn, 1) := by decide +kernel
theorem dX6_mostFrom_0 : decode cX6_mostFrom 0 = .ok (.bipush 6, 2) := by decide +kernel
theorem dX6_mostFrom_2 : decode cX6_mostFrom 2 = .ok (.iload_n 1, 1) := by decide +kernel
theorem dX6_mostFrom_3 : decode cX6_mostFrom 3 = .ok (.isub, 1) := by decide +kernel
theorem dX6_mostFrom_4 : decode cX6_mostFrom 4 = .ok (.istore_n 3, 1) := by decide +kernel
theorem dX6_mostFrom_5 : decode cX6_mostFrom 5 = .ok (.iload_n 3, 1) := by decide +kernel
theorem dX6_mostFrom_6 : decode cX6_mostFrom 6 = .ok (.istore 4, 2) := by decide +kernel
theorem dX6_mostFrom_8 : decode cX6_mostFrom 8 = .ok (.iconst 0, 1) := by decide +kernel
theorem dX6_mostFrom_9 : decode cX6_mostFrom 9 = .ok (.istore 5, 2) := by decide +kernel
theorem dX6_mostFrom_11 : decode cX6_mostFrom 11 = .ok (.iload 5, 2) := by decide +kernel
theorem dX6_mostFrom_13 : decode cX6_mostFrom 13 = .ok (.iconst 1, 1) := by decide +kernel
theorem dX6_mostFrom_14 : decode cX6_mostFrom 14 = .ok (.iload_n 3, 1) := by decide +kernel
theorem dX6_mostFrom_15 : decode cX6_mostFrom 15 = .ok (.ishl, 1) := by decide +kernel
theorem dX6_mostFrom_16 : decode cX6_mostFrom 16 = .ok (.if_icmp .ge 74, 3) := by decide +kernel
theorem dX6_mostFrom_19 : decode cX6_mostFrom 19 = .ok (.iconst 0, 1) := by decide +kernel
theorem dX6_mostFrom_20 : decode cX6_mostFrom 20 = .ok (.istore 6, 2) := by decide +kernel
theorem dX6_mostFrom_22 : decode cX6_mostFrom 22 = .ok (.iload_n 1, 1) := by decide +kernel
theorem dX6_mostFrom_23 : decode cX6_mostFrom 23 = .ok (.istore 7, 2) := by decide +kernel
theorem dX6_mostFrom_25 : decode cX6_mostFrom 25 = .ok (.iload 7, 2) := by decide +kernel
theorem dX6_mostFrom_27 : decode cX6_mostFrom 27 = .ok (.bipush 6, 2) := by decide +kernel
theorem dX6_mostFrom_29 : decode cX6_mostFrom 29 = .ok (.if_icmp .ge 35, 3) := by decide +kernel
theorem dX6_mostFrom_32 : decode cX6_mostFrom 32 = .ok (.iload 5, 2) := by decide +kernel
theorem dX6_mostFrom_34 : decode cX6_mostFrom 34 = .ok (.iload 7, 2) := by decide +kernel
theorem dX6_mostFrom_36 : decode cX6_mostFrom 36 = .ok (.iload_n 1, 1) := by decide +kernel
theorem dX6_mostFrom_37 : decode cX6_mostFrom 37 = .ok (.isub, 1) := by decide +kernel
theorem dX6_mostFrom_38 : decode cX6_mostFrom 38 = .ok (.ishr, 1) := by decide +kernel
theorem dX6_mostFrom_39 : decode cX6_mostFrom 39 = .ok (.iconst 1, 1) := by decide +kernel
theorem dX6_mostFrom_40 : decode cX6_mostFrom 40 = .ok (.iand, 1) := by decide +kernel
theorem dX6_mostFrom_41 : decode cX6_mostFrom 41 = .ok (.ifCond .eq 17, 3) := by decide +kernel
theorem dX6_mostFrom_44 : decode cX6_mostFrom 44 = .ok (.iload 6, 2) := by decide +kernel
theorem dX6_mostFrom_46 : decode cX6_mostFrom 46 = .ok (.aload_n 0, 1) := by decide +kernel
theorem dX6_mostFrom_47 : decode cX6_mostFrom 47 = .ok (.getfield 9, 3) := by decide +kernel
theorem dX6_mostFrom_50 : decode cX6_mostFrom 50 = .ok (.iload 7, 2) := by decide +kernel
theorem dX6_mostFrom_52 : decode cX6_mostFrom 52 = .ok (.iaload, 1) := by decide +kernel
theorem dX6_mostFrom_53 : decode cX6_mostFrom 53 = .ok (.iload_n 2, 1) := by decide +kernel
theorem dX6_mostFrom_54 : decode cX6_mostFrom 54 = .ok (.iand, 1) := by decide +kernel
theorem dX6_mostFrom_55 : decode cX6_mostFrom 55 = .ok (.ior, 1) := by decide +kernel
theorem dX6_mostFrom_56 : decode cX6_mostFrom 56 = .ok (.istore 6, 2) := by decide +kernel
theorem dX6_mostFrom_58 : decode cX6_mostFrom 58 = .ok (.iinc 7 1, 3) := by decide +kernel
theorem dX6_mostFrom_61 : decode cX6_mostFrom 61 = .ok (.goto (-36), 3) := by decide +kernel
theorem dX6_mostFrom_64 : decode cX6_mostFrom 64 = .ok (.iload 4, 2) := by decide +kernel
theorem dX6_mostFrom_66 : decode cX6_mostFrom 66 = .ok (.iload_n 3, 1) := by decide +kernel
theorem dX6_mostFrom_67 : decode cX6_mostFrom 67 = .ok (.iload 5, 2) := by decide +kernel
theorem dX6_mostFrom_69 : decode cX6_mostFrom 69 = .ok (.invokestatic 38, 3) := by decide +kernel
theorem dX6_mostFrom_72 : decode cX6_mostFrom 72 = .ok (.isub, 1) := by decide +kernel
theorem dX6_mostFrom_73 : decode cX6_mostFrom 73 = .ok (.iload 6, 2) := by decide +kernel
theorem dX6_mostFrom_75 : decode cX6_mostFrom 75 = .ok (.invokestatic 38, 3) := by decide +kernel
theorem dX6_mostFrom_78 : decode cX6_mostFrom 78 = .ok (.iadd, 1) := by decide +kernel
theorem dX6_mostFrom_79 : decode cX6_mostFrom 79 = .ok (.invokestatic 43, 3) := by decide +kernel
theorem dX6_mostFrom_82 : decode cX6_mostFrom 82 = .ok (.istore 4, 2) := by decide +kernel
theorem dX6_mostFrom_84 : decode cX6_mostFrom 84 = .ok (.iinc 5 1, 3) := by decide +kernel
theorem dX6_mostFrom_87 : decode cX6_mostFrom 87 = .ok (.goto (-76), 3) := by decide +kernel
theorem dX6_mostFrom_90 : decode cX6_mostFrom 90 = .ok (.iload 4, 2) := by decide +kernel
theorem dX6_mostFrom_92 : decode cX6_mostFrom 92 = .ok (.ireturn, 1) := by decide +kernel
theorem dX6_menPosted_0 : decode cX6_menPosted 0 = .ok (.aload_n 0, 1) := by decide +kernel
theorem dX6_menPosted_1 : decode cX6_menPosted 1 = .ok (.getfield 18, 3) := by decide +kernel
theorem dX6_menPosted_4 : decode cX6_menPosted 4 = .ok (.ireturn, 1) := by decide +kernel
theorem dX6_rungOf_0 : decode cX6_rungOf 0 = .ok (.iload_n 1, 1) := by decide +kernel
theorem dX6_rungOf_1 : decode cX6_rungOf 1 = .ok (.invokestatic 48, 3) := by decide +kernel
theorem dX6_rungOf_4 : decode cX6_rungOf 4 = .ok (.ifCond .eq 12, 3) := by decide +kernel
theorem dX6_rungOf_7 : decode cX6_rungOf 7 = .ok (.aload_n 0, 1) := by decide +kernel
theorem dX6_rungOf_8 : decode cX6_rungOf 8 = .ok (.getfield 15, 3) := by decide +kernel
theorem dX6_rungOf_11 : decode cX6_rungOf 11 = .ok (.iload_n 1, 1) := by decide +kernel
theorem dX6_rungOf_12 : decode cX6_rungOf 12 = .ok (.iaload, 1) := by decide +kernel
theorem dX6_rungOf_13 : decode cX6_rungOf 13 = .ok (.goto 5, 3) := by decide +kernel
theorem dX6_rungOf_16 : decode cX6_rungOf 16 = .ok (.bipush (-6), 2) := by decide +kernel
theorem dX6_rungOf_18 : decode cX6_rungOf 18 = .ok (.ireturn, 1) := by decide +kernel
theorem dX7_init_0 : decode cX7_init 0 = .ok (.aload_n 0, 1) := by decide +kernel
theorem dX7_init_1 : decode cX7_init 1 = .ok (.invokespecial 3, 3) := by decide +kernel
theorem dX7_init_4 : decode cX7_init 4 = .ok (.aload_n 0, 1) := by decide +kernel
theorem dX7_init_5 : decode cX7_init 5 = .ok (.bipush 14, 2) := by decide +kernel
theorem dX7_init_7 : decode cX7_init 7 = .ok (.newarray .int, 2) := by decide +kernel
theorem dX7_init_9 : decode cX7_init 9 = .ok (.putfield 9, 3) := by decide +kernel
theorem dX7_init_12 : decode cX7_init 12 = .ok (.return_, 1) := by decide +kernel
theorem dX7_fewestSteps_0 : decode cX7_fewestSteps 0 = .ok (.aload_n 0, 1) := by decide +kernel
theorem dX7_fewestSteps_1 : decode cX7_fewestSteps 1 = .ok (.aload_n 1, 1) := by decide +kernel
theorem dX7_fewestSteps_2 : decode cX7_fewestSteps 2 = .ok (.iload_n 2, 1) := by decide +kernel
theorem dX7_fewestSteps_3 : decode cX7_fewestSteps 3 = .ok (.invokevirtual 15, 3) := by decide +kernel
theorem dX7_fewestSteps_6 : decode cX7_fewestSteps 6 = .ok (.aload_n 0, 1) := by decide +kernel
theorem dX7_fewestSteps_7 : decode cX7_fewestSteps 7 = .ok (.aload_n 1, 1) := by decide +kernel
theorem dX7_fewestSteps_8 : decode cX7_fewestSteps 8 = .ok (.iload_n 2, 1) := by decide +kernel
theorem dX7_fewestSteps_9 : decode cX7_fewestSteps 9 = .ok (.invokevirtual 19, 3) := by decide +kernel
theorem dX7_fewestSteps_12 : decode cX7_fewestSteps 12 = .ok (.invokevirtual 25, 3) := by decide +kernel
theorem dX7_fewestSteps_15 : decode cX7_fewestSteps 15 = .ok (.istore_n 3, 1) := by decide +kernel
theorem dX7_fewestSteps_16 : decode cX7_fewestSteps 16 = .ok (.iload_n 3, 1) := by decide +kernel
theorem dX7_fewestSteps_17 : decode cX7_fewestSteps 17 = .ok (.ldc 28, 2) := by decide +kernel
theorem dX7_fewestSteps_19 : decode cX7_fewestSteps 19 = .ok (.if_icmp .lt 8, 3) := by decide +kernel
theorem dX7_fewestSteps_22 : decode cX7_fewestSteps 22 = .ok (.bipush (-6), 2) := by decide +kernel
theorem dX7_fewestSteps_24 : decode cX7_fewestSteps 24 = .ok (.goto 4, 3) := by decide +kernel
theorem dX7_fewestSteps_27 : decode cX7_fewestSteps 27 = .ok (.iload_n 3, 1) := by decide +kernel
theorem dX7_fewestSteps_28 : decode cX7_fewestSteps 28 = .ok (.ireturn, 1) := by decide +kernel
theorem dX7_firstStep_0 : decode cX7_firstStep 0 = .ok (.aload_n 0, 1) := by decide +kernel
theorem dX7_firstStep_1 : decode cX7_firstStep 1 = .ok (.aload_n 1, 1) := by decide +kernel
theorem dX7_firstStep_2 : decode cX7_firstStep 2 = .ok (.iload_n 2, 1) := by decide +kernel
theorem dX7_firstStep_3 : decode cX7_firstStep 3 = .ok (.invokevirtual 15, 3) := by decide +kernel
theorem dX7_firstStep_6 : decode cX7_firstStep 6 = .ok (.aload_n 1, 1) := by decide +kernel
theorem dX7_firstStep_7 : decode cX7_firstStep 7 = .ok (.iload_n 2, 1) := by decide +kernel
theorem dX7_firstStep_8 : decode cX7_firstStep 8 = .ok (.invokevirtual 29, 3) := by decide +kernel
theorem dX7_firstStep_11 : decode cX7_firstStep 11 = .ok (.sipush 4096, 3) := by decide +kernel
theorem dX7_firstStep_14 : decode cX7_firstStep 14 = .ok (.ior, 1) := by decide +kernel
theorem dX7_firstStep_15 : decode cX7_firstStep 15 = .ok (.istore_n 3, 1) := by decide +kernel
theorem dX7_firstStep_16 : decode cX7_firstStep 16 = .ok (.aload_n 1, 1) := by decide +kernel
theorem dX7_firstStep_17 : decode cX7_firstStep 17 = .ok (.iload_n 2, 1) := by decide +kernel
theorem dX7_firstStep_18 : decode cX7_firstStep 18 = .ok (.invokevirtual 19, 3) := by decide +kernel
theorem dX7_firstStep_21 : decode cX7_firstStep 21 = .ok (.istore 4, 2) := by decide +kernel
theorem dX7_firstStep_23 : decode cX7_firstStep 23 = .ok (.aload_n 0, 1) := by decide +kernel
theorem dX7_firstStep_24 : decode cX7_firstStep 24 = .ok (.iload 4, 2) := by decide +kernel
theorem dX7_firstStep_26 : decode cX7_firstStep 26 = .ok (.invokevirtual 25, 3) := by decide +kernel
theorem dX7_firstStep_29 : decode cX7_firstStep 29 = .ok (.istore 5, 2) := by decide +kernel
theorem dX7_firstStep_31 : decode cX7_firstStep 31 = .ok (.iload 5, 2) := by decide +kernel
theorem dX7_firstStep_33 : decode cX7_firstStep 33 = .ok (.ldc 28, 2) := by decide +kernel
theorem dX7_firstStep_35 : decode cX7_firstStep 35 = .ok (.if_icmp .lt 6, 3) := by decide +kernel
theorem dX7_firstStep_38 : decode cX7_firstStep 38 = .ok (.bipush (-6), 2) := by decide +kernel
theorem dX7_firstStep_40 : decode cX7_firstStep 40 = .ok (.ireturn, 1) := by decide +kernel
theorem dX7_firstStep_41 : decode cX7_firstStep 41 = .ok (.iload 4, 2) := by decide +kernel
theorem dX7_firstStep_43 : decode cX7_firstStep 43 = .ok (.aload_n 1, 1) := by decide +kernel
theorem dX7_firstStep_44 : decode cX7_firstStep 44 = .ok (.iload_n 2, 1) := by decide +kernel
theorem dX7_firstStep_45 : decode cX7_firstStep 45 = .ok (.invokevirtual 32, 3) := by decide +kernel
theorem dX7_firstStep_48 : decode cX7_firstStep 48 = .ok (.iadd, 1) := by decide +kernel
theorem dX7_firstStep_49 : decode cX7_firstStep 49 = .ok (.bipush 13, 2) := by decide +kernel
theorem dX7_firstStep_51 : decode cX7_firstStep 51 = .ok (.invokestatic 35, 3) := by decide +kernel
theorem dX7_firstStep_54 : decode cX7_firstStep 54 = .ok (.istore 6, 2) := by decide +kernel
theorem dX7_firstStep_56 : decode cX7_firstStep 56 = .ok (.iload 4, 2) := by decide +kernel
theorem dX7_firstStep_58 : decode cX7_firstStep 58 = .ok (.iconst 1, 1) := by decide +kernel
theorem dX7_firstStep_59 : decode cX7_firstStep 59 = .ok (.iadd, 1) := by decide +kernel
theorem dX7_firstStep_60 : decode cX7_firstStep 60 = .ok (.istore 7, 2) := by decide +kernel
theorem dX7_firstStep_62 : decode cX7_firstStep 62 = .ok (.iload 7, 2) := by decide +kernel
theorem dX7_firstStep_64 : decode cX7_firstStep 64 = .ok (.iload 6, 2) := by decide +kernel
theorem dX7_firstStep_66 : decode cX7_firstStep 66 = .ok (.if_icmp .gt 34, 3) := by decide +kernel
theorem dX7_firstStep_69 : decode cX7_firstStep 69 = .ok (.iload_n 3, 1) := by decide +kernel
theorem dX7_firstStep_70 : decode cX7_firstStep 70 = .ok (.iload 7, 2) := by decide +kernel
theorem dX7_firstStep_72 : decode cX7_firstStep 72 = .ok (.invokestatic 41, 3) := by decide +kernel
theorem dX7_firstStep_75 : decode cX7_firstStep 75 = .ok (.ifCond .eq 19, 3) := by decide +kernel
theorem dX7_firstStep_78 : decode cX7_firstStep 78 = .ok (.aload_n 0, 1) := by decide +kernel
theorem dX7_firstStep_79 : decode cX7_firstStep 79 = .ok (.iload 7, 2) := by decide +kernel
theorem dX7_firstStep_81 : decode cX7_firstStep 81 = .ok (.invokevirtual 25, 3) := by decide +kernel
theorem dX7_firstStep_84 : decode cX7_firstStep 84 = .ok (.iload 5, 2) := by decide +kernel
theorem dX7_firstStep_86 : decode cX7_firstStep 86 = .ok (.iconst 1, 1) := by decide +kernel
theorem dX7_firstStep_87 : decode cX7_firstStep 87 = .ok (.isub, 1) := by decide +kernel
theorem dX7_firstStep_88 : decode cX7_firstStep 88 = .ok (.if_icmp .ne 6, 3) := by decide +kernel
theorem dX7_firstStep_91 : decode cX7_firstStep 91 = .ok (.iload 7, 2) := by decide +kernel
theorem dX7_firstStep_93 : decode cX7_firstStep 93 = .ok (.ireturn, 1) := by decide +kernel
theorem dX7_firstStep_94 : decode cX7_firstStep 94 = .ok (.iinc 7 1, 3) := by decide +kernel
theorem dX7_firstStep_97 : decode cX7_firstStep 97 = .ok (.goto (-35), 3) := by decide +kernel
theorem dX7_firstStep_100 : decode cX7_firstStep 100 = .ok (.bipush (-6), 2) := by decide +kernel
theorem dX7_firstStep_102 : decode cX7_firstStep 102 = .ok (.ireturn, 1) := by decide +kernel
theorem dX7_settleSteps_0 : decode cX7_settleSteps 0 = .ok (.aload_n 1, 1) := by decide +kernel
theorem dX7_settleSteps_1 : decode cX7_settleSteps 1 = .ok (.iload_n 2, 1) := by decide +kernel
theorem dX7_settleSteps_2 : decode cX7_settleSteps 2 = .ok (.invokevirtual 29, 3) := by decide +kernel
theorem dX7_settleSteps_5 : decode cX7_settleSteps 5 = .ok (.sipush 4096, 3) := by decide +kernel
theorem dX7_settleSteps_8 : decode cX7_settleSteps 8 = .ok (.ior, 1) := by decide +kernel
theorem dX7_settleSteps_9 : decode cX7_settleSteps 9 = .ok (.istore_n 3, 1) := by decide +kernel
theorem dX7_settleSteps_10 : decode cX7_settleSteps 10 = .ok (.aload_n 1, 1) := by decide +kernel
theorem dX7_settleSteps_11 : decode cX7_settleSteps 11 = .ok (.iload_n 2, 1) := by decide +kernel
theorem dX7_settleSteps_12 : decode cX7_settleSteps 12 = .ok (.invokevirtual 32, 3) := by decide +kernel
theorem dX7_settleSteps_15 : decode cX7_settleSteps 15 = .ok (.istore 4, 2) := by decide +kernel
theorem dX7_settleSteps_17 : decode cX7_settleSteps 17 = .ok (.aload_n 0, 1) := by decide +kernel
theorem dX7_settleSteps_18 : decode cX7_settleSteps 18 = .ok (.getfield 9, 3) := by decide +kernel
theorem dX7_settleSteps_21 : decode cX7_settleSteps 21 = .ok (.bipush 13, 2) := by decide +kernel
theorem dX7_settleSteps_23 : decode cX7_settleSteps 23 = .ok (.iconst 0, 1) := by decide +kernel
theorem dX7_settleSteps_24 : decode cX7_settleSteps 24 = .ok (.iastore, 1) := by decide +kernel
theorem dX7_settleSteps_25 : decode cX7_settleSteps 25 = .ok (.bipush 12, 2) := by decide +kernel
theorem dX7_settleSteps_27 : decode cX7_settleSteps 27 = .ok (.istore 5, 2) := by decide +kernel
theorem dX7_settleSteps_29 : decode cX7_settleSteps 29 = .ok (.iload 5, 2) := by decide +kernel
theorem dX7_settleSteps_31 : decode cX7_settleSteps 31 = .ok (.ifCond .lt 77, 3) := by decide +kernel
theorem dX7_settleSteps_34 : decode cX7_settleSteps 34 = .ok (.ldc 28, 2) := by decide +kernel
theorem dX7_settleSteps_36 : decode cX7_settleSteps 36 = .ok (.istore 6, 2) := by decide +kernel
theorem dX7_settleSteps_38 : decode cX7_settleSteps 38 = .ok (.iload 5, 2) := by decide +kernel
theorem dX7_settleSteps_40 : decode cX7_settleSteps 40 = .ok (.iload 4, 2) := by decide +kernel
theorem dX7_settleSteps_42 : decode cX7_settleSteps 42 = .ok (.iadd, 1) := by decide +kernel
theorem dX7_settleSteps_43 : decode cX7_settleSteps 43 = .ok (.bipush 13, 2) := by decide +kernel
theorem dX7_settleSteps_45 : decode cX7_settleSteps 45 = .ok (.invokestatic 35, 3) := by decide +kernel
theorem dX7_settleSteps_48 : decode cX7_settleSteps 48 = .ok (.istore 7, 2) := by decide +kernel
theorem dX7_settleSteps_50 : decode cX7_settleSteps 50 = .ok (.iload 5, 2) := by decide +kernel
theorem dX7_settleSteps_52 : decode cX7_settleSteps 52 = .ok (.iconst 1, 1) := by decide +kernel
theorem dX7_settleSteps_53 : decode cX7_settleSteps 53 = .ok (.iadd, 1) := by decide +kernel
theorem dX7_settleSteps_54 : decode cX7_settleSteps 54 = .ok (.istore 8, 2) := by decide +kernel
theorem dX7_settleSteps_56 : decode cX7_settleSteps 56 = .ok (.iload 8, 2) := by decide +kernel
theorem dX7_settleSteps_58 : decode cX7_settleSteps 58 = .ok (.iload 7, 2) := by decide +kernel
theorem dX7_settleSteps_60 : decode cX7_settleSteps 60 = .ok (.if_icmp .gt 33, 3) := by decide +kernel
theorem dX7_settleSteps_63 : decode cX7_settleSteps 63 = .ok (.iload_n 3, 1) := by decide +kernel
theorem dX7_settleSteps_64 : decode cX7_settleSteps 64 = .ok (.iload 8, 2) := by decide +kernel
theorem dX7_settleSteps_66 : decode cX7_settleSteps 66 = .ok (.invokestatic 41, 3) := by decide +kernel
theorem dX7_settleSteps_69 : decode cX7_settleSteps 69 = .ok (.ifCond .eq 18, 3) := by decide +kernel
theorem dX7_settleSteps_72 : decode cX7_settleSteps 72 = .ok (.iload 6, 2) := by decide +kernel
theorem dX7_settleSteps_74 : decode cX7_settleSteps 74 = .ok (.aload_n 0, 1) := by decide +kernel
theorem dX7_settleSteps_75 : decode cX7_settleSteps 75 = .ok (.iload 8, 2) := by decide +kernel
theorem dX7_settleSteps_77 : decode cX7_settleSteps 77 = .ok (.invokevirtual 25, 3) := by decide +kernel
theorem dX7_settleSteps_80 : decode cX7_settleSteps 80 = .ok (.iconst 1, 1) := by decide +kernel
theorem dX7_settleSteps_81 : decode cX7_settleSteps 81 = .ok (.iadd, 1) := by decide +kernel
theorem dX7_settleSteps_82 : decode cX7_settleSteps 82 = .ok (.invokestatic 35, 3) := by decide +kernel
theorem dX7_settleSteps_85 : decode cX7_settleSteps 85 = .ok (.istore 6, 2) := by decide +kernel
theorem dX7_settleSteps_87 : decode cX7_settleSteps 87 = .ok (.iinc 8 1, 3) := by decide +kernel
theorem dX7_settleSteps_90 : decode cX7_settleSteps 90 = .ok (.goto (-34), 3) := by decide +kernel
theorem dX7_settleSteps_93 : decode cX7_settleSteps 93 = .ok (.aload_n 0, 1) := by decide +kernel
theorem dX7_settleSteps_94 : decode cX7_settleSteps 94 = .ok (.getfield 9, 3) := by decide +kernel
theorem dX7_settleSteps_97 : decode cX7_settleSteps 97 = .ok (.iload 5, 2) := by decide +kernel
theorem dX7_settleSteps_99 : decode cX7_settleSteps 99 = .ok (.iload 6, 2) := by decide +kernel
theorem dX7_settleSteps_101 : decode cX7_settleSteps 101 = .ok (.iastore, 1) := by decide +kernel
theorem dX7_settleSteps_102 : decode cX7_settleSteps 102 = .ok (.iinc 5 (-1), 3) := by decide +kernel
theorem dX7_settleSteps_105 : decode cX7_settleSteps 105 = .ok (.goto (-76), 3) := by decide +kernel
theorem dX7_settleSteps_108 : decode cX7_settleSteps 108 = .ok (.return_, 1) := by decide +kernel
theorem dX7_countUp_0 : decode cX7_countUp 0 = .ok (.aload_n 1, 1) := by decide +kernel
theorem dX7_countUp_1 : decode cX7_countUp 1 = .ok (.iload_n 2, 1) := by decide +kernel
theorem dX7_countUp_2 : decode cX7_countUp 2 = .ok (.invokevirtual 29, 3) := by decide +kernel
theorem dX7_countUp_5 : decode cX7_countUp 5 = .ok (.sipush 4096, 3) := by decide +kernel
theorem dX7_countUp_8 : decode cX7_countUp 8 = .ok (.ior, 1) := by decide +kernel
theorem dX7_countUp_9 : decode cX7_countUp 9 = .ok (.istore_n 3, 1) := by decide +kernel
theorem dX7_countUp_10 : decode cX7_countUp 10 = .ok (.aload_n 1, 1) := by decide +kernel
theorem dX7_countUp_11 : decode cX7_countUp 11 = .ok (.iload_n 2, 1) := by decide +kernel
theorem dX7_countUp_12 : decode cX7_countUp 12 = .ok (.invokevirtual 32, 3) := by decide +kernel
theorem dX7_countUp_15 : decode cX7_countUp 15 = .ok (.istore 4, 2) := by decide +kernel
theorem dX7_countUp_17 : decode cX7_countUp 17 = .ok (.aload_n 0, 1) := by decide +kernel
theorem dX7_countUp_18 : decode cX7_countUp 18 = .ok (.getfield 9, 3) := by decide +kernel
theorem dX7_countUp_21 : decode cX7_countUp 21 = .ok (.bipush 13, 2) := by decide +kernel
theorem dX7_countUp_23 : decode cX7_countUp 23 = .ok (.iconst 1, 1) := by decide +kernel
theorem dX7_countUp_24 : decode cX7_countUp 24 = .ok (.iastore, 1) := by decide +kernel
theorem dX7_countUp_25 : decode cX7_countUp 25 = .ok (.bipush 12, 2) := by decide +kernel
theorem dX7_countUp_27 : decode cX7_countUp 27 = .ok (.istore 5, 2) := by decide +kernel
theorem dX7_countUp_29 : decode cX7_countUp 29 = .ok (.iload 5, 2) := by decide +kernel
theorem dX7_countUp_31 : decode cX7_countUp 31 = .ok (.ifCond .lt 72, 3) := by decide +kernel
theorem dX7_countUp_34 : decode cX7_countUp 34 = .ok (.iconst 0, 1) := by decide +kernel
theorem dX7_countUp_35 : decode cX7_countUp 35 = .ok (.istore 6, 2) := by decide +kernel
theorem dX7_countUp_37 : decode cX7_countUp 37 = .ok (.iload 5, 2) := by decide +kernel
theorem dX7_countUp_39 : decode cX7_countUp 39 = .ok (.iload 4, 2) := by decide +kernel
theorem dX7_countUp_41 : decode cX7_countUp 41 = .ok (.iadd, 1) := by decide +kernel
theorem dX7_countUp_42 : decode cX7_countUp 42 = .ok (.bipush 13, 2) := by decide +kernel
theorem dX7_countUp_44 : decode cX7_countUp 44 = .ok (.invokestatic 35, 3) := by decide +kernel
theorem dX7_countUp_47 : decode cX7_countUp 47 = .ok (.istore 7, 2) := by decide +kernel
theorem dX7_countUp_49 : decode cX7_countUp 49 = .ok (.iload 5, 2) := by decide +kernel
theorem dX7_countUp_51 : decode cX7_countUp 51 = .ok (.iconst 1, 1) := by decide +kernel
theorem dX7_countUp_52 : decode cX7_countUp 52 = .ok (.iadd, 1) := by decide +kernel
theorem dX7_countUp_53 : decode cX7_countUp 53 = .ok (.istore 8, 2) := by decide +kernel
theorem dX7_countUp_55 : decode cX7_countUp 55 = .ok (.iload 8, 2) := by decide +kernel
theorem dX7_countUp_57 : decode cX7_countUp 57 = .ok (.iload 7, 2) := by decide +kernel
theorem dX7_countUp_59 : decode cX7_countUp 59 = .ok (.if_icmp .gt 29, 3) := by decide +kernel
theorem dX7_countUp_62 : decode cX7_countUp 62 = .ok (.iload_n 3, 1) := by decide +kernel
theorem dX7_countUp_63 : decode cX7_countUp 63 = .ok (.iload 8, 2) := by decide +kernel
theorem dX7_countUp_65 : decode cX7_countUp 65 = .ok (.invokestatic 41, 3) := by decide +kernel
theorem dX7_countUp_68 : decode cX7_countUp 68 = .ok (.ifCond .eq 14, 3) := by decide +kernel
theorem dX7_countUp_71 : decode cX7_countUp 71 = .ok (.iload 6, 2) := by decide +kernel
theorem dX7_countUp_73 : decode cX7_countUp 73 = .ok (.aload_n 0, 1) := by decide +kernel
theorem dX7_countUp_74 : decode cX7_countUp 74 = .ok (.iload 8, 2) := by decide +kernel
theorem dX7_countUp_76 : decode cX7_countUp 76 = .ok (.invokevirtual 25, 3) := by decide +kernel
theorem dX7_countUp_79 : decode cX7_countUp 79 = .ok (.iadd, 1) := by decide +kernel
theorem dX7_countUp_80 : decode cX7_countUp 80 = .ok (.istore 6, 2) := by decide +kernel
theorem dX7_countUp_82 : decode cX7_countUp 82 = .ok (.iinc 8 1, 3) := by decide +kernel
theorem dX7_countUp_85 : decode cX7_countUp 85 = .ok (.goto (-30), 3) := by decide +kernel
theorem dX7_countUp_88 : decode cX7_countUp 88 = .ok (.aload_n 0, 1) := by decide +kernel
theorem dX7_countUp_89 : decode cX7_countUp 89 = .ok (.getfield 9, 3) := by decide +kernel
theorem dX7_countUp_92 : decode cX7_countUp 92 = .ok (.iload 5, 2) := by decide +kernel
theorem dX7_countUp_94 : decode cX7_countUp 94 = .ok (.iload 6, 2) := by decide +kernel
theorem dX7_countUp_96 : decode cX7_countUp 96 = .ok (.iastore, 1) := by decide +kernel
theorem dX7_countUp_97 : decode cX7_countUp 97 = .ok (.iinc 5 (-1), 3) := by decide +kernel
theorem dX7_countUp_100 : decode cX7_countUp 100 = .ok (.goto (-71), 3) := by decide +kernel
theorem dX7_countUp_103 : decode cX7_countUp 103 = .ok (.aload_n 0, 1) := by decide +kernel
theorem dX7_countUp_104 : decode cX7_countUp 104 = .ok (.aload_n 1, 1) := by decide +kernel
theorem dX7_countUp_105 : decode cX7_countUp 105 = .ok (.iload_n 2, 1) := by decide +kernel
theorem dX7_countUp_106 : decode cX7_countUp 106 = .ok (.invokevirtual 19, 3) := by decide +kernel
theorem dX7_countUp_109 : decode cX7_countUp 109 = .ok (.invokevirtual 25, 3) := by decide +kernel
theorem dX7_countUp_112 : decode cX7_countUp 112 = .ok (.ireturn, 1) := by decide +kernel
theorem dX7_fewestLeases_0 : decode cX7_fewestLeases 0 = .ok (.aload_n 0, 1) := by decide +kernel
theorem dX7_fewestLeases_1 : decode cX7_fewestLeases 1 = .ok (.aload_n 1, 1) := by decide +kernel
theorem dX7_fewestLeases_2 : decode cX7_fewestLeases 2 = .ok (.iload_n 2, 1) := by decide +kernel
theorem dX7_fewestLeases_3 : decode cX7_fewestLeases 3 = .ok (.invokevirtual 45, 3) := by decide +kernel
theorem dX7_fewestLeases_6 : decode cX7_fewestLeases 6 = .ok (.istore_n 3, 1) := by decide +kernel
theorem dX7_fewestLeases_7 : decode cX7_fewestLeases 7 = .ok (.iload_n 3, 1) := by decide +kernel
theorem dX7_fewestLeases_8 : decode cX7_fewestLeases 8 = .ok (.ldc 28, 2) := by decide +kernel
theorem dX7_fewestLeases_10 : decode cX7_fewestLeases 10 = .ok (.if_icmp .lt 8, 3) := by decide +kernel
theorem dX7_fewestLeases_13 : decode cX7_fewestLeases 13 = .ok (.bipush (-6), 2) := by decide +kernel
theorem dX7_fewestLeases_15 : decode cX7_fewestLeases 15 = .ok (.goto 8, 3) := by decide +kernel
theorem dX7_fewestLeases_18 : decode cX7_fewestLeases 18 = .ok (.iload_n 3, 1) := by decide +kernel
theorem dX7_fewestLeases_19 : decode cX7_fewestLeases 19 = .ok (.sipush 4096, 3) := by decide +kernel
theorem dX7_fewestLeases_22 : decode cX7_fewestLeases 22 = .ok (.idiv, 1) := by decide +kernel
theorem dX7_fewestLeases_23 : decode cX7_fewestLeases 23 = .ok (.ireturn, 1) := by decide +kernel
theorem dX7_leastLeased_0 : decode cX7_leastLeased 0 = .ok (.aload_n 0, 1) := by decide +kernel
theorem dX7_leastLeased_1 : decode cX7_leastLeased 1 = .ok (.aload_n 1, 1) := by decide +kernel
theorem dX7_leastLeased_2 : decode cX7_leastLeased 2 = .ok (.iload_n 2, 1) := by decide +kernel
theorem dX7_leastLeased_3 : decode cX7_leastLeased 3 = .ok (.invokevirtual 45, 3) := by decide +kernel
theorem dX7_leastLeased_6 : decode cX7_leastLeased 6 = .ok (.istore_n 3, 1) := by decide +kernel
theorem dX7_leastLeased_7 : decode cX7_leastLeased 7 = .ok (.iload_n 3, 1) := by decide +kernel
theorem dX7_leastLeased_8 : decode cX7_leastLeased 8 = .ok (.ldc 28, 2) := by decide +kernel
theorem dX7_leastLeased_10 : decode cX7_leastLeased 10 = .ok (.if_icmp .lt 8, 3) := by decide +kernel
theorem dX7_leastLeased_13 : decode cX7_leastLeased 13 = .ok (.bipush (-6), 2) := by decide +kernel
theorem dX7_leastLeased_15 : decode cX7_leastLeased 15 = .ok (.goto 8, 3) := by decide +kernel
theorem dX7_leastLeased_18 : decode cX7_leastLeased 18 = .ok (.iload_n 3, 1) := by decide +kernel
theorem dX7_leastLeased_19 : decode cX7_leastLeased 19 = .ok (.sipush 4096, 3) := by decide +kernel
theorem dX7_leastLeased_22 : decode cX7_leastLeased 22 = .ok (.irem, 1) := by decide +kernel
theorem dX7_leastLeased_23 : decode cX7_leastLeased 23 = .ok (.ireturn, 1) := by decide +kernel
theorem dX7_leaseCost_0 : decode cX7_leaseCost 0 = .ok (.aload_n 1, 1) := by decide +kernel
theorem dX7_leaseCost_1 : decode cX7_leaseCost 1 = .ok (.iload_n 2, 1) := by decide +kernel
theorem dX7_leaseCost_2 : decode cX7_leaseCost 2 = .ok (.invokevirtual 29, 3) := by decide +kernel
theorem dX7_leaseCost_5 : decode cX7_leaseCost 5 = .ok (.sipush 4096, 3) := by decide +kernel
theorem dX7_leaseCost_8 : decode cX7_leaseCost 8 = .ok (.ior, 1) := by decide +kernel
theorem dX7_leaseCost_9 : decode cX7_leaseCost 9 = .ok (.istore_n 3, 1) := by decide +kernel
theorem dX7_leaseCost_10 : decode cX7_leaseCost 10 = .ok (.aload_n 1, 1) := by decide +kernel
theorem dX7_leaseCost_11 : decode cX7_leaseCost 11 = .ok (.invokevirtual 49, 3) := by decide +kernel
theorem dX7_leaseCost_14 : decode cX7_leaseCost 14 = .ok (.istore 4, 2) := by decide +kernel
theorem dX7_leaseCost_16 : decode cX7_leaseCost 16 = .ok (.aload_n 1, 1) := by decide +kernel
theorem dX7_leaseCost_17 : decode cX7_leaseCost 17 = .ok (.iload_n 2, 1) := by decide +kernel
theorem dX7_leaseCost_18 : decode cX7_leaseCost 18 = .ok (.invokevirtual 32, 3) := by decide +kernel
theorem dX7_leaseCost_21 : decode cX7_leaseCost 21 = .ok (.istore 5, 2) := by decide +kernel
theorem dX7_leaseCost_23 : decode cX7_leaseCost 23 = .ok (.aload_n 0, 1) := by decide +kernel
theorem dX7_leaseCost_24 : decode cX7_leaseCost 24 = .ok (.getfield 9, 3) := by decide +kernel
theorem dX7_leaseCost_27 : decode cX7_leaseCost 27 = .ok (.bipush 13, 2) := by decide +kernel
theorem dX7_leaseCost_29 : decode cX7_leaseCost 29 = .ok (.iconst 0, 1) := by decide +kernel
theorem dX7_leaseCost_30 : decode cX7_leaseCost 30 = .ok (.iastore, 1) := by decide +kernel
theorem dX7_leaseCost_31 : decode cX7_leaseCost 31 = .ok (.bipush 12, 2) := by decide +kernel
theorem dX7_leaseCost_33 : decode cX7_leaseCost 33 = .ok (.istore 6, 2) := by decide +kernel
theorem dX7_leaseCost_35 : decode cX7_leaseCost 35 = .ok (.iload 6, 2) := by decide +kernel
theorem dX7_leaseCost_37 : decode cX7_leaseCost 37 = .ok (.ifCond .lt 111, 3) := by decide +kernel
theorem dX7_leaseCost_40 : decode cX7_leaseCost 40 = .ok (.ldc 28, 2) := by decide +kernel
theorem dX7_leaseCost_42 : decode cX7_leaseCost 42 = .ok (.istore 7, 2) := by decide +kernel
theorem dX7_leaseCost_44 : decode cX7_leaseCost 44 = .ok (.iload 6, 2) := by decide +kernel
theorem dX7_leaseCost_46 : decode cX7_leaseCost 46 = .ok (.iload 5, 2) := by decide +kernel
theorem dX7_leaseCost_48 : decode cX7_leaseCost 48 = .ok (.iadd, 1) := by decide +kernel
theorem dX7_leaseCost_49 : decode cX7_leaseCost 49 = .ok (.bipush 13, 2) := by decide +kernel
theorem dX7_leaseCost_51 : decode cX7_leaseCost 51 = .ok (.invokestatic 35, 3) := by decide +kernel
theorem dX7_leaseCost_54 : decode cX7_leaseCost 54 = .ok (.istore 8, 2) := by decide +kernel
theorem dX7_leaseCost_56 : decode cX7_leaseCost 56 = .ok (.iload 6, 2) := by decide +kernel
theorem dX7_leaseCost_58 : decode cX7_leaseCost 58 = .ok (.iconst 1, 1) := by decide +kernel
theorem dX7_leaseCost_59 : decode cX7_leaseCost 59 = .ok (.iadd, 1) := by decide +kernel
theorem dX7_leaseCost_60 : decode cX7_leaseCost 60 = .ok (.istore 9, 2) := by decide +kernel
theorem dX7_leaseCost_62 : decode cX7_leaseCost 62 = .ok (.iload 9, 2) := by decide +kernel
theorem dX7_leaseCost_64 : decode cX7_leaseCost 64 = .ok (.iload 8, 2) := by decide +kernel
theorem dX7_leaseCost_66 : decode cX7_leaseCost 66 = .ok (.if_icmp .gt 67, 3) := by decide +kernel
theorem dX7_leaseCost_69 : decode cX7_leaseCost 69 = .ok (.iload_n 3, 1) := by decide +kernel
theorem dX7_leaseCost_70 : decode cX7_leaseCost 70 = .ok (.iload 9, 2) := by decide +kernel
theorem dX7_leaseCost_72 : decode cX7_leaseCost 72 = .ok (.invokestatic 41, 3) := by decide +kernel
theorem dX7_leaseCost_75 : decode cX7_leaseCost 75 = .ok (.ifCond .eq 19, 3) := by decide +kernel
theorem dX7_leaseCost_78 : decode cX7_leaseCost 78 = .ok (.iload 7, 2) := by decide +kernel
theorem dX7_leaseCost_80 : decode cX7_leaseCost 80 = .ok (.aload_n 0, 1) := by decide +kernel
theorem dX7_leaseCost_81 : decode cX7_leaseCost 81 = .ok (.iload 9, 2) := by decide +kernel
theorem dX7_leaseCost_83 : decode cX7_leaseCost 83 = .ok (.invokevirtual 25, 3) := by decide +kernel
theorem dX7_leaseCost_86 : decode cX7_leaseCost 86 = .ok (.invokestatic 35, 3) := by decide +kernel
theorem dX7_leaseCost_89 : decode cX7_leaseCost 89 = .ok (.istore 7, 2) := by decide +kernel
theorem dX7_leaseCost_91 : decode cX7_leaseCost 91 = .ok (.goto 36, 3) := by decide +kernel
theorem dX7_leaseCost_94 : decode cX7_leaseCost 94 = .ok (.iload 4, 2) := by decide +kernel
theorem dX7_leaseCost_96 : decode cX7_leaseCost 96 = .ok (.iload 9, 2) := by decide +kernel
theorem dX7_leaseCost_98 : decode cX7_leaseCost 98 = .ok (.invokestatic 41, 3) := by decide +kernel
theorem dX7_leaseCost_101 : decode cX7_leaseCost 101 = .ok (.ifCond .eq 26, 3) := by decide +kernel
theorem dX7_leaseCost_104 : decode cX7_leaseCost 104 = .ok (.iload 7, 2) := by decide +kernel
theorem dX7_leaseCost_106 : decode cX7_leaseCost 106 = .ok (.aload_n 0, 1) := by decide +kernel
theorem dX7_leaseCost_107 : decode cX7_leaseCost 107 = .ok (.iload 9, 2) := by decide +kernel
theorem dX7_leaseCost_109 : decode cX7_leaseCost 109 = .ok (.invokevirtual 25, 3) := by decide +kernel
theorem dX7_leaseCost_112 : decode cX7_leaseCost 112 = .ok (.sipush 4096, 3) := by decide +kernel
theorem dX7_leaseCost_115 : decode cX7_leaseCost 115 = .ok (.iadd, 1) := by decide +kernel
theorem dX7_leaseCost_116 : decode cX7_leaseCost 116 = .ok (.iload 9, 2) := by decide +kernel
theorem dX7_leaseCost_118 : decode cX7_leaseCost 118 = .ok (.invokestatic 53, 3) := by decide +kernel
theorem dX7_leaseCost_121 : decode cX7_leaseCost 121 = .ok (.iadd, 1) := by decide +kernel
theorem dX7_leaseCost_122 : decode cX7_leaseCost 122 = .ok (.invokestatic 35, 3) := by decide +kernel
theorem dX7_leaseCost_125 : decode cX7_leaseCost 125 = .ok (.istore 7, 2) := by decide +kernel
theorem dX7_leaseCost_127 : decode cX7_leaseCost 127 = .ok (.iinc 9 1, 3) := by decide +kernel
theorem dX7_leaseCost_130 : decode cX7_leaseCost 130 = .ok (.goto (-68), 3) := by decide +kernel
theorem dX7_leaseCost_133 : decode cX7_leaseCost 133 = .ok (.aload_n 0, 1) := by decide +kernel
theorem dX7_leaseCost_134 : decode cX7_leaseCost 134 = .ok (.getfield 9, 3) := by decide +kernel
theorem dX7_leaseCost_137 : decode cX7_leaseCost 137 = .ok (.iload 6, 2) := by decide +kernel
theorem dX7_leaseCost_139 : decode cX7_leaseCost 139 = .ok (.iload 7, 2) := by decide +kernel
theorem dX7_leaseCost_141 : decode cX7_leaseCost 141 = .ok (.iastore, 1) := by decide +kernel
theorem dX7_leaseCost_142 : decode cX7_leaseCost 142 = .ok (.iinc 6 (-1), 3) := by decide +kernel
theorem dX7_leaseCost_145 : decode cX7_leaseCost 145 = .ok (.goto (-110), 3) := by decide +kernel
theorem dX7_leaseCost_148 : decode cX7_leaseCost 148 = .ok (.aload_n 0, 1) := by decide +kernel
theorem dX7_leaseCost_149 : decode cX7_leaseCost 149 = .ok (.aload_n 1, 1) := by decide +kernel
theorem dX7_leaseCost_150 : decode cX7_leaseCost 150 = .ok (.iload_n 2, 1) := by decide +kernel
theorem dX7_leaseCost_151 : decode cX7_leaseCost 151 = .ok (.invokevirtual 19, 3) := by decide +kernel
theorem dX7_leaseCost_154 : decode cX7_leaseCost 154 = .ok (.invokevirtual 25, 3) := by decide +kernel
theorem dX7_leaseCost_157 : decode cX7_leaseCost 157 = .ok (.ireturn, 1) := by decide +kernel
theorem dX7_settledAt_0 : decode cX7_settledAt 0 = .ok (.iload_n 1, 1) := by decide +kernel
theorem dX7_settledAt_1 : decode cX7_settledAt 1 = .ok (.invokestatic 56, 3) := by decide +kernel
theorem dX7_settledAt_4 : decode cX7_settledAt 4 = .ok (.ifCond .eq 12, 3) := by decide +kernel
theorem dX7_settledAt_7 : decode cX7_settledAt 7 = .ok (.aload_n 0, 1) := by decide +kernel
theorem dX7_settledAt_8 : decode cX7_settledAt 8 = .ok (.getfield 9, 3) := by decide +kernel
theorem dX7_settledAt_11 : decode cX7_settledAt 11 = .ok (.iload_n 1, 1) := by decide +kernel
theorem dX7_settledAt_12 : decode cX7_settledAt 12 = .ok (.iaload, 1) := by decide +kernel
theorem dX7_settledAt_13 : decode cX7_settledAt 13 = .ok (.goto 5, 3) := by decide +kernel
theorem dX7_settledAt_16 : decode cX7_settledAt 16 = .ok (.ldc 28, 2) := by decide +kernel
theorem dX7_settledAt_18 : decode cX7_settledAt 18 = .ok (.ireturn, 1) := by decide +kernel
theorem dX7_isOpen_0 : decode cX7_isOpen 0 = .ok (.iload_n 0, 1) := by decide +kernel
theorem dX7_isOpen_1 : decode cX7_isOpen 1 = .ok (.iload_n 1, 1) := by decide +kernel
theorem dX7_isOpen_2 : decode cX7_isOpen 2 = .ok (.iconst 1, 1) := by decide +kernel
theorem dX7_isOpen_3 : decode cX7_isOpen 3 = .ok (.isub, 1) := by decide +kernel
theorem dX7_isOpen_4 : decode cX7_isOpen 4 = .ok (.ishr, 1) := by decide +kernel
theorem dX7_isOpen_5 : decode cX7_isOpen 5 = .ok (.iconst 1, 1) := by decide +kernel
theorem dX7_isOpen_6 : decode cX7_isOpen 6 = .ok (.iand, 1) := by decide +kernel
theorem dX7_isOpen_7 : decode cX7_isOpen 7 = .ok (.ifCond .eq 7, 3) := by decide +kernel
theorem dX7_isOpen_10 : decode cX7_isOpen 10 = .ok (.iconst 1, 1) := by decide +kernel
theorem dX7_isOpen_11 : decode cX7_isOpen 11 = .ok (.goto 4, 3) := by decide +kernel
theorem dX7_isOpen_14 : decode cX7_isOpen 14 = .ok (.iconst 0, 1) := by decide +kernel
theorem dX7_isOpen_15 : decode cX7_isOpen 15 = .ok (.ireturn, 1) := by decide +kernel
theorem dX8_init_0 : decode cX8_init 0 = .ok (.aload_n 0, 1) := by decide +kernel
theorem dX8_init_1 : decode cX8_init 1 = .ok (.invokespecial 3, 3) := by decide +kernel
theorem dX8_init_4 : decode cX8_init 4 = .ok (.aload_n 0, 1) := by decide +kernel
theorem dX8_init_5 : decode cX8_init 5 = .ok (.bipush 12, 2) := by decide +kernel
theorem dX8_init_7 : decode cX8_init 7 = .ok (.newarray .int, 2) := by decide +kernel
theorem dX8_init_9 : decode cX8_init 9 = .ok (.putfield 9, 3) := by decide +kernel
theorem dX8_init_12 : decode cX8_init 12 = .ok (.aload_n 0, 1) := by decide +kernel
theorem dX8_init_13 : decode cX8_init 13 = .ok (.bipush 12, 2) := by decide +kernel
theorem dX8_init_15 : decode cX8_init 15 = .ok (.newarray .int, 2) := by decide +kernel
theorem dX8_init_17 : decode cX8_init 17 = .ok (.putfield 15, 3) := by decide +kernel
theorem dX8_init_20 : decode cX8_init 20 = .ok (.aload_n 0, 1) := by decide +kernel
theorem dX8_init_21 : decode cX8_init 21 = .ok (.iconst 0, 1) := by decide +kernel
theorem dX8_init_22 : decode cX8_init 22 = .ok (.putfield 18, 3) := by decide +kernel
theorem dX8_init_25 : decode cX8_init 25 = .ok (.return_, 1) := by decide +kernel
theorem dX8_find_0 : decode cX8_find 0 = .ok (.aload_n 0, 1) := by decide +kernel
theorem dX8_find_1 : decode cX8_find 1 = .ok (.iconst 0, 1) := by decide +kernel
theorem dX8_find_2 : decode cX8_find 2 = .ok (.putfield 18, 3) := by decide +kernel
theorem dX8_find_5 : decode cX8_find 5 = .ok (.iconst 0, 1) := by decide +kernel
theorem dX8_find_6 : decode cX8_find 6 = .ok (.istore_n 2, 1) := by decide +kernel
theorem dX8_find_7 : decode cX8_find 7 = .ok (.iload_n 2, 1) := by decide +kernel
theorem dX8_find_8 : decode cX8_find 8 = .ok (.bipush 6, 2) := by decide +kernel
theorem dX8_find_10 : decode cX8_find 10 = .ok (.if_icmp .ge 91, 3) := by decide +kernel
theorem dX8_find_13 : decode cX8_find 13 = .ok (.iconst 0, 1) := by decide +kernel
theorem dX8_find_14 : decode cX8_find 14 = .ok (.istore_n 3, 1) := by decide +kernel
theorem dX8_find_15 : decode cX8_find 15 = .ok (.iload_n 3, 1) := by decide +kernel
theorem dX8_find_16 : decode cX8_find 16 = .ok (.iconst 1, 1) := by decide +kernel
theorem dX8_find_17 : decode cX8_find 17 = .ok (.if_icmp .gt 78, 3) := by decide +kernel
theorem dX8_find_20 : decode cX8_find 20 = .ok (.aload_n 1, 1) := by decide +kernel
theorem dX8_find_21 : decode cX8_find 21 = .ok (.iload_n 2, 1) := by decide +kernel
theorem dX8_find_22 : decode cX8_find 22 = .ok (.iload_n 3, 1) := by decide +kernel
theorem dX8_find_23 : decode cX8_find 23 = .ok (.invokestatic 22, 3) := by decide +kernel
theorem dX8_find_26 : decode cX8_find 26 = .ok (.istore 4, 2) := by decide +kernel
theorem dX8_find_28 : decode cX8_find 28 = .ok (.aload_n 1, 1) := by decide +kernel
theorem dX8_find_29 : decode cX8_find 29 = .ok (.iload 4, 2) := by decide +kernel
theorem dX8_find_31 : decode cX8_find 31 = .ok (.invokevirtual 26, 3) := by decide +kernel
theorem dX8_find_34 : decode cX8_find 34 = .ok (.ifCond .eq 55, 3) := by decide +kernel
theorem dX8_find_37 : decode cX8_find 37 = .ok (.aload_n 0, 1) := by decide +kernel
theorem dX8_find_38 : decode cX8_find 38 = .ok (.getfield 18, 3) := by decide +kernel
theorem dX8_find_41 : decode cX8_find 41 = .ok (.ifCond .lt 48, 3) := by decide +kernel
theorem dX8_find_44 : decode cX8_find 44 = .ok (.aload_n 0, 1) := by decide +kernel
theorem dX8_find_45 : decode cX8_find 45 = .ok (.getfield 18, 3) := by decide +kernel
theorem dX8_find_48 : decode cX8_find 48 = .ok (.bipush 12, 2) := by decide +kernel
theorem dX8_find_50 : decode cX8_find 50 = .ok (.if_icmp .ge 39, 3) := by decide +kernel
theorem dX8_find_53 : decode cX8_find 53 = .ok (.aload_n 0, 1) := by decide +kernel
theorem dX8_find_54 : decode cX8_find 54 = .ok (.getfield 9, 3) := by decide +kernel
theorem dX8_find_57 : decode cX8_find 57 = .ok (.aload_n 0, 1) := by decide +kernel
theorem dX8_find_58 : decode cX8_find 58 = .ok (.getfield 18, 3) := by decide +kernel
theorem dX8_find_61 : decode cX8_find 61 = .ok (.bipush 10, 2) := by decide +kernel
theorem dX8_find_63 : decode cX8_find 63 = .ok (.iload_n 2, 1) := by decide +kernel
theorem dX8_find_64 : decode cX8_find 64 = .ok (.imul, 1) := by decide +kernel
theorem dX8_find_65 : decode cX8_find 65 = .ok (.iload_n 3, 1) := by decide +kernel
theorem dX8_find_66 : decode cX8_find 66 = .ok (.iadd, 1) := by decide +kernel
theorem dX8_find_67 : decode cX8_find 67 = .ok (.iastore, 1) := by decide +kernel
theorem dX8_find_68 : decode cX8_find 68 = .ok (.aload_n 0, 1) := by decide +kernel
theorem dX8_find_69 : decode cX8_find 69 = .ok (.getfield 15, 3) := by decide +kernel
theorem dX8_find_72 : decode cX8_find 72 = .ok (.aload_n 0, 1) := by decide +kernel
theorem dX8_find_73 : decode cX8_find 73 = .ok (.getfield 18, 3) := by decide +kernel
theorem dX8_find_76 : decode cX8_find 76 = .ok (.iload 4, 2) := by decide +kernel
theorem dX8_find_78 : decode cX8_find 78 = .ok (.iastore, 1) := by decide +kernel
theorem dX8_find_79 : decode cX8_find 79 = .ok (.aload_n 0, 1) := by decide +kernel
theorem dX8_find_80 : decode cX8_find 80 = .ok (.dup, 1) := by decide +kernel
theorem dX8_find_81 : decode cX8_find 81 = .ok (.getfield 18, 3) := by decide +kernel
theorem dX8_find_84 : decode cX8_find 84 = .ok (.iconst 1, 1) := by decide +kernel
theorem dX8_find_85 : decode cX8_find 85 = .ok (.iadd, 1) := by decide +kernel
theorem dX8_find_86 : decode cX8_find 86 = .ok (.putfield 18, 3) := by decide +kernel
theorem dX8_find_89 : decode cX8_find 89 = .ok (.iinc 3 1, 3) := by decide +kernel
theorem dX8_find_92 : decode cX8_find 92 = .ok (.goto (-77), 3) := by decide +kernel
theorem dX8_find_95 : decode cX8_find 95 = .ok (.iinc 2 1, 3) := by decide +kernel
theorem dX8_find_98 : decode cX8_find 98 = .ok (.goto (-91), 3) := by decide +kernel
theorem dX8_find_101 : decode cX8_find 101 = .ok (.return_, 1) := by decide +kernel
theorem dX8_trailOf_0 : decode cX8_trailOf 0 = .ok (.iconst 0, 1) := by decide +kernel
theorem dX8_trailOf_1 : decode cX8_trailOf 1 = .ok (.istore_n 3, 1) := by decide +kernel
theorem dX8_trailOf_2 : decode cX8_trailOf 2 = .ok (.iconst 0, 1) := by decide +kernel
theorem dX8_trailOf_3 : decode cX8_trailOf 3 = .ok (.istore 4, 2) := by decide +kernel
theorem dX8_trailOf_5 : decode cX8_trailOf 5 = .ok (.iconst 0, 1) := by decide +kernel
theorem dX8_trailOf_6 : decode cX8_trailOf 6 = .ok (.istore 5, 2) := by decide +kernel
theorem dX8_trailOf_8 : decode cX8_trailOf 8 = .ok (.iload 5, 2) := by decide +kernel
theorem dX8_trailOf_10 : decode cX8_trailOf 10 = .ok (.bipush 13, 2) := by decide +kernel
theorem dX8_trailOf_12 : decode cX8_trailOf 12 = .ok (.if_icmp .ge 47, 3) := by decide +kernel
theorem dX8_trailOf_15 : decode cX8_trailOf 15 = .ok (.iload 4, 2) := by decide +kernel
theorem dX8_trailOf_17 : decode cX8_trailOf 17 = .ok (.bipush 13, 2) := by decide +kernel
theorem dX8_trailOf_19 : decode cX8_trailOf 19 = .ok (.if_icmp .ge 40, 3) := by decide +kernel
theorem dX8_trailOf_22 : decode cX8_trailOf 22 = .ok (.aload_n 0, 1) := by decide +kernel
theorem dX8_trailOf_23 : decode cX8_trailOf 23 = .ok (.iload_n 1, 1) := by decide +kernel
theorem dX8_trailOf_24 : decode cX8_trailOf 24 = .ok (.iload_n 2, 1) := by decide +kernel
theorem dX8_trailOf_25 : decode cX8_trailOf 25 = .ok (.iload 4, 2) := by decide +kernel
theorem dX8_trailOf_27 : decode cX8_trailOf 27 = .ok (.invokestatic 32, 3) := by decide +kernel
theorem dX8_trailOf_30 : decode cX8_trailOf 30 = .ok (.istore 6, 2) := by decide +kernel
theorem dX8_trailOf_32 : decode cX8_trailOf 32 = .ok (.iload 6, 2) := by decide +kernel
theorem dX8_trailOf_34 : decode cX8_trailOf 34 = .ok (.iload 4, 2) := by decide +kernel
theorem dX8_trailOf_36 : decode cX8_trailOf 36 = .ok (.if_icmp .ne 5, 3) := by decide +kernel
theorem dX8_trailOf_39 : decode cX8_trailOf 39 = .ok (.iload_n 3, 1) := by decide +kernel
theorem dX8_trailOf_40 : decode cX8_trailOf 40 = .ok (.ireturn, 1) := by decide +kernel
theorem dX8_trailOf_41 : decode cX8_trailOf 41 = .ok (.iload_n 3, 1) := by decide +kernel
theorem dX8_trailOf_42 : decode cX8_trailOf 42 = .ok (.iload 6, 2) := by decide +kernel
theorem dX8_trailOf_44 : decode cX8_trailOf 44 = .ok (.invokestatic 36, 3) := by decide +kernel
theorem dX8_trailOf_47 : decode cX8_trailOf 47 = .ok (.ior, 1) := by decide +kernel
theorem dX8_trailOf_48 : decode cX8_trailOf 48 = .ok (.istore_n 3, 1) := by decide +kernel
theorem dX8_trailOf_49 : decode cX8_trailOf 49 = .ok (.iload 6, 2) := by decide +kernel
theorem dX8_trailOf_51 : decode cX8_trailOf 51 = .ok (.istore 4, 2) := by decide +kernel
theorem dX8_trailOf_53 : decode cX8_trailOf 53 = .ok (.iinc 5 1, 3) := by decide +kernel
theorem dX8_trailOf_56 : decode cX8_trailOf 56 = .ok (.goto (-48), 3) := by decide +kernel
theorem dX8_trailOf_59 : decode cX8_trailOf 59 = .ok (.iload_n 3, 1) := by decide +kernel
theorem dX8_trailOf_60 : decode cX8_trailOf 60 = .ok (.ireturn, 1) := by decide +kernel
theorem dX8_nextPlace_0 : decode cX8_nextPlace 0 = .ok (.aload_n 0, 1) := by decide +kernel
theorem dX8_nextPlace_1 : decode cX8_nextPlace 1 = .ok (.iload_n 1, 1) := by decide +kernel
theorem dX8_nextPlace_2 : decode cX8_nextPlace 2 = .ok (.invokevirtual 40, 3) := by decide +kernel
theorem dX8_nextPlace_5 : decode cX8_nextPlace 5 = .ok (.istore 4, 2) := by decide +kernel
theorem dX8_nextPlace_7 : decode cX8_nextPlace 7 = .ok (.iconst 1, 1) := by decide +kernel
theorem dX8_nextPlace_8 : decode cX8_nextPlace 8 = .ok (.istore 5, 2) := by decide +kernel
theorem dX8_nextPlace_10 : decode cX8_nextPlace 10 = .ok (.iload 5, 2) := by decide +kernel
theorem dX8_nextPlace_12 : decode cX8_nextPlace 12 = .ok (.iload 4, 2) := by decide +kernel
theorem dX8_nextPlace_14 : decode cX8_nextPlace 14 = .ok (.if_icmp .gt 49, 3) := by decide +kernel
theorem dX8_nextPlace_17 : decode cX8_nextPlace 17 = .ok (.iload_n 3, 1) := by decide +kernel
theorem dX8_nextPlace_18 : decode cX8_nextPlace 18 = .ok (.iload_n 2, 1) := by decide +kernel
theorem dX8_nextPlace_19 : decode cX8_nextPlace 19 = .ok (.ifCond .ne 13, 3) := by decide +kernel
theorem dX8_nextPlace_22 : decode cX8_nextPlace 22 = .ok (.iload 4, 2) := by decide +kernel
theorem dX8_nextPlace_24 : decode cX8_nextPlace 24 = .ok (.iconst 1, 1) := by decide +kernel
theorem dX8_nextPlace_25 : decode cX8_nextPlace 25 = .ok (.iadd, 1) := by decide +kernel
theorem dX8_nextPlace_26 : decode cX8_nextPlace 26 = .ok (.iload 5, 2) := by decide +kernel
theorem dX8_nextPlace_28 : decode cX8_nextPlace 28 = .ok (.isub, 1) := by decide +kernel
theorem dX8_nextPlace_29 : decode cX8_nextPlace 29 = .ok (.goto 5, 3) := by decide +kernel
theorem dX8_nextPlace_32 : decode cX8_nextPlace 32 = .ok (.iload 5, 2) := by decide +kernel
theorem dX8_nextPlace_34 : decode cX8_nextPlace 34 = .ok (.iadd, 1) := by decide +kernel
theorem dX8_nextPlace_35 : decode cX8_nextPlace 35 = .ok (.istore 6, 2) := by decide +kernel
theorem dX8_nextPlace_37 : decode cX8_nextPlace 37 = .ok (.iload 6, 2) := by decide +kernel
theorem dX8_nextPlace_39 : decode cX8_nextPlace 39 = .ok (.bipush 13, 2) := by decide +kernel
theorem dX8_nextPlace_41 : decode cX8_nextPlace 41 = .ok (.if_icmp .eq 13, 3) := by decide +kernel
theorem dX8_nextPlace_44 : decode cX8_nextPlace 44 = .ok (.aload_n 0, 1) := by decide +kernel
theorem dX8_nextPlace_45 : decode cX8_nextPlace 45 = .ok (.iload_n 1, 1) := by decide +kernel
theorem dX8_nextPlace_46 : decode cX8_nextPlace 46 = .ok (.iload 6, 2) := by decide +kernel
theorem dX8_nextPlace_48 : decode cX8_nextPlace 48 = .ok (.invokevirtual 43, 3) := by decide +kernel
theorem dX8_nextPlace_51 : decode cX8_nextPlace 51 = .ok (.ifCond .eq 6, 3) := by decide +kernel
theorem dX8_nextPlace_54 : decode cX8_nextPlace 54 = .ok (.iload 6, 2) := by decide +kernel
theorem dX8_nextPlace_56 : decode cX8_nextPlace 56 = .ok (.ireturn, 1) := by decide +kernel
theorem dX8_nextPlace_57 : decode cX8_nextPlace 57 = .ok (.iinc 5 1, 3) := by decide +kernel
theorem dX8_nextPlace_60 : decode cX8_nextPlace 60 = .ok (.goto (-50), 3) := by decide +kernel
theorem dX8_nextPlace_63 : decode cX8_nextPlace 63 = .ok (.iload_n 3, 1) := by decide +kernel
theorem dX8_nextPlace_64 : decode cX8_nextPlace 64 = .ok (.ireturn, 1) := by decide +kernel
theorem dX8_size_0 : decode cX8_size 0 = .ok (.aload_n 0, 1) := by decide +kernel
theorem dX8_size_1 : decode cX8_size 1 = .ok (.getfield 18, 3) := by decide +kernel
theorem dX8_size_4 : decode cX8_size 4 = .ok (.ireturn, 1) := by decide +kernel
theorem dX8_codeAt_0 : decode cX8_codeAt 0 = .ok (.iload_n 1, 1) := by decide +kernel
theorem dX8_codeAt_1 : decode cX8_codeAt 1 = .ok (.ifCond .lt 26, 3) := by decide +kernel
theorem dX8_codeAt_4 : decode cX8_codeAt 4 = .ok (.iload_n 1, 1) := by decide +kernel
theorem dX8_codeAt_5 : decode cX8_codeAt 5 = .ok (.aload_n 0, 1) := by decide +kernel
theorem dX8_codeAt_6 : decode cX8_codeAt 6 = .ok (.getfield 18, 3) := by decide +kernel
theorem dX8_codeAt_9 : decode cX8_codeAt 9 = .ok (.if_icmp .ge 18, 3) := by decide +kernel
theorem dX8_codeAt_12 : decode cX8_codeAt 12 = .ok (.iload_n 1, 1) := by decide +kernel
theorem dX8_codeAt_13 : decode cX8_codeAt 13 = .ok (.bipush 12, 2) := by decide +kernel
theorem dX8_codeAt_15 : decode cX8_codeAt 15 = .ok (.if_icmp .ge 12, 3) := by decide +kernel
theorem dX8_codeAt_18 : decode cX8_codeAt 18 = .ok (.aload_n 0, 1) := by decide +kernel
theorem dX8_codeAt_19 : decode cX8_codeAt 19 = .ok (.getfield 9, 3) := by decide +kernel
theorem dX8_codeAt_22 : decode cX8_codeAt 22 = .ok (.iload_n 1, 1) := by decide +kernel
theorem dX8_codeAt_23 : decode cX8_codeAt 23 = .ok (.iaload, 1) := by decide +kernel
theorem dX8_codeAt_24 : decode cX8_codeAt 24 = .ok (.goto 5, 3) := by decide +kernel
theorem dX8_codeAt_27 : decode cX8_codeAt 27 = .ok (.bipush (-6), 2) := by decide +kernel
theorem dX8_codeAt_29 : decode cX8_codeAt 29 = .ok (.ireturn, 1) := by decide +kernel
theorem dX8_rungToFeel_0 : decode cX8_rungToFeel 0 = .ok (.iconst 1, 1) := by decide +kernel
theorem dX8_rungToFeel_1 : decode cX8_rungToFeel 1 = .ok (.istore_n 1, 1) := by decide +kernel
theorem dX8_rungToFeel_2 : decode cX8_rungToFeel 2 = .ok (.iconst 2, 1) := by decide +kernel
theorem dX8_rungToFeel_3 : decode cX8_rungToFeel 3 = .ok (.istore_n 2, 1) := by decide +kernel
theorem dX8_rungToFeel_4 : decode cX8_rungToFeel 4 = .ok (.iload_n 2, 1) := by decide +kernel
theorem dX8_rungToFeel_5 : decode cX8_rungToFeel 5 = .ok (.bipush 12, 2) := by decide +kernel
theorem dX8_rungToFeel_7 : decode cX8_rungToFeel 7 = .ok (.if_icmp .gt 24, 3) := by decide +kernel
theorem dX8_rungToFeel_10 : decode cX8_rungToFeel 10 = .ok (.aload_n 0, 1) := by decide +kernel
theorem dX8_rungToFeel_11 : decode cX8_rungToFeel 11 = .ok (.iload_n 2, 1) := by decide +kernel
theorem dX8_rungToFeel_12 : decode cX8_rungToFeel 12 = .ok (.invokevirtual 47, 3) := by decide +kernel
theorem dX8_rungToFeel_15 : decode cX8_rungToFeel 15 = .ok (.aload_n 0, 1) := by decide +kernel
theorem dX8_rungToFeel_16 : decode cX8_rungToFeel 16 = .ok (.iload_n 1, 1) := by decide +kernel
theorem dX8_rungToFeel_17 : decode cX8_rungToFeel 17 = .ok (.invokevirtual 47, 3) := by decide +kernel
theorem dX8_rungToFeel_20 : decode cX8_rungToFeel 20 = .ok (.if_icmp .ge 5, 3) := by decide +kernel
theorem dX8_rungToFeel_23 : decode cX8_rungToFeel 23 = .ok (.iload_n 2, 1) := by decide +kernel
theorem dX8_rungToFeel_24 : decode cX8_rungToFeel 24 = .ok (.istore_n 1, 1) := by decide +kernel
theorem dX8_rungToFeel_25 : decode cX8_rungToFeel 25 = .ok (.iinc 2 1, 3) := by decide +kernel
theorem dX8_rungToFeel_28 : decode cX8_rungToFeel 28 = .ok (.goto (-24), 3) := by decide +kernel
theorem dX8_rungToFeel_31 : decode cX8_rungToFeel 31 = .ok (.iload_n 1, 1) := by decide +kernel
theorem dX8_rungToFeel_32 : decode cX8_rungToFeel 32 = .ok (.ireturn, 1) := by decide +kernel
theorem dX8_mostLeftBy_0 : decode cX8_mostLeftBy 0 = .ok (.iconst 0, 1) := by decide +kernel
theorem dX8_mostLeftBy_1 : decode cX8_mostLeftBy 1 = .ok (.istore_n 2, 1) := by decide +kernel
theorem dX8_mostLeftBy_2 : decode cX8_mostLeftBy 2 = .ok (.iconst 0, 1) := by decide +kernel
theorem dX8_mostLeftBy_3 : decode cX8_mostLeftBy 3 = .ok (.istore_n 3, 1) := by decide +kernel
theorem dX8_mostLeftBy_4 : decode cX8_mostLeftBy 4 = .ok (.iload_n 3, 1) := by decide +kernel
theorem dX8_mostLeftBy_5 : decode cX8_mostLeftBy 5 = .ok (.aload_n 0, 1) := by decide +kernel
theorem dX8_mostLeftBy_6 : decode cX8_mostLeftBy 6 = .ok (.getfield 18, 3) := by decide +kernel
theorem dX8_mostLeftBy_9 : decode cX8_mostLeftBy 9 = .ok (.if_icmp .ge 32, 3) := by decide +kernel
theorem dX8_mostLeftBy_12 : decode cX8_mostLeftBy 12 = .ok (.iload_n 3, 1) := by decide +kernel
theorem dX8_mostLeftBy_13 : decode cX8_mostLeftBy 13 = .ok (.bipush 12, 2) := by decide +kernel
theorem dX8_mostLeftBy_15 : decode cX8_mostLeftBy 15 = .ok (.if_icmp .ge 26, 3) := by decide +kernel
theorem dX8_mostLeftBy_18 : decode cX8_mostLeftBy 18 = .ok (.aload_n 0, 1) := by decide +kernel
theorem dX8_mostLeftBy_19 : decode cX8_mostLeftBy 19 = .ok (.getfield 15, 3) := by decide +kernel
theorem dX8_mostLeftBy_22 : decode cX8_mostLeftBy 22 = .ok (.iload_n 3, 1) := by decide +kernel
theorem dX8_mostLeftBy_23 : decode cX8_mostLeftBy 23 = .ok (.iaload, 1) := by decide +kernel
theorem dX8_mostLeftBy_24 : decode cX8_mostLeftBy 24 = .ok (.iload_n 1, 1) := by decide +kernel
theorem dX8_mostLeftBy_25 : decode cX8_mostLeftBy 25 = .ok (.invokestatic 36, 3) := by decide +kernel
theorem dX8_mostLeftBy_28 : decode cX8_mostLeftBy 28 = .ok (.iand, 1) := by decide +kernel
theorem dX8_mostLeftBy_29 : decode cX8_mostLeftBy 29 = .ok (.ifCond .eq 6, 3) := by decide +kernel
theorem dX8_mostLeftBy_32 : decode cX8_mostLeftBy 32 = .ok (.iinc 2 1, 3) := by decide +kernel
theorem dX8_mostLeftBy_35 : decode cX8_mostLeftBy 35 = .ok (.iinc 3 1, 3) := by decide +kernel
theorem dX8_mostLeftBy_38 : decode cX8_mostLeftBy 38 = .ok (.goto (-34), 3) := by decide +kernel
theorem dX8_mostLeftBy_41 : decode cX8_mostLeftBy 41 = .ok (.iload_n 2, 1) := by decide +kernel
theorem dX8_mostLeftBy_42 : decode cX8_mostLeftBy 42 = .ok (.aload_n 0, 1) := by decide +kernel
theorem dX8_mostLeftBy_43 : decode cX8_mostLeftBy 43 = .ok (.getfield 18, 3) := by decide +kernel
theorem dX8_mostLeftBy_46 : decode cX8_mostLeftBy 46 = .ok (.iload_n 2, 1) := by decide +kernel
theorem dX8_mostLeftBy_47 : decode cX8_mostLeftBy 47 = .ok (.isub, 1) := by decide +kernel
theorem dX8_mostLeftBy_48 : decode cX8_mostLeftBy 48 = .ok (.invokestatic 50, 3) := by decide +kernel
theorem dX8_mostLeftBy_51 : decode cX8_mostLeftBy 51 = .ok (.ireturn, 1) := by decide +kernel
theorem dX9_init_0 : decode cX9_init 0 = .ok (.aload_n 0, 1) := by decide +kernel
theorem dX9_init_1 : decode cX9_init 1 = .ok (.invokespecial 3, 3) := by decide +kernel
theorem dX9_init_4 : decode cX9_init 4 = .ok (.aload_n 0, 1) := by decide +kernel
theorem dX9_init_5 : decode cX9_init 5 = .ok (.new 9, 3) := by decide +kernel
theorem dX9_init_8 : decode cX9_init 8 = .ok (.dup, 1) := by decide +kernel
theorem dX9_init_9 : decode cX9_init 9 = .ok (.invokespecial 11, 3) := by decide +kernel
theorem dX9_init_12 : decode cX9_init 12 = .ok (.putfield 12, 3) := by decide +kernel
theorem dX9_init_15 : decode cX9_init 15 = .ok (.aload_n 0, 1) := by decide +kernel
theorem dX9_init_16 : decode cX9_init 16 = .ok (.new 16, 3) := by decide +kernel
theorem dX9_init_19 : decode cX9_init 19 = .ok (.dup, 1) := by decide +kernel
theorem dX9_init_20 : decode cX9_init 20 = .ok (.invokespecial 18, 3) := by decide +kernel
theorem dX9_init_23 : decode cX9_init 23 = .ok (.putfield 19, 3) := by decide +kernel
theorem dX9_init_26 : decode cX9_init 26 = .ok (.aload_n 0, 1) := by decide +kernel
theorem dX9_init_27 : decode cX9_init 27 = .ok (.new 23, 3) := by decide +kernel
theorem dX9_init_30 : decode cX9_init 30 = .ok (.dup, 1) := by decide +kernel
theorem dX9_init_31 : decode cX9_init 31 = .ok (.invokespecial 25, 3) := by decide +kernel
theorem dX9_init_34 : decode cX9_init 34 = .ok (.putfield 26, 3) := by decide +kernel
theorem dX9_init_37 : decode cX9_init 37 = .ok (.aload_n 0, 1) := by decide +kernel
theorem dX9_init_38 : decode cX9_init 38 = .ok (.new 30, 3) := by decide +kernel
theorem dX9_init_41 : decode cX9_init 41 = .ok (.dup, 1) := by decide +kernel
theorem dX9_init_42 : decode cX9_init 42 = .ok (.invokespecial 32, 3) := by decide +kernel
theorem dX9_init_45 : decode cX9_init 45 = .ok (.putfield 33, 3) := by decide +kernel
theorem dX9_init_48 : decode cX9_init 48 = .ok (.aload_n 0, 1) := by decide +kernel
theorem dX9_init_49 : decode cX9_init 49 = .ok (.new 37, 3) := by decide +kernel
theorem dX9_init_52 : decode cX9_init 52 = .ok (.dup, 1) := by decide +kernel
theorem dX9_init_53 : decode cX9_init 53 = .ok (.invokespecial 39, 3) := by decide +kernel
theorem dX9_init_56 : decode cX9_init 56 = .ok (.putfield 40, 3) := by decide +kernel
theorem dX9_init_59 : decode cX9_init 59 = .ok (.aload_n 0, 1) := by decide +kernel
theorem dX9_init_60 : decode cX9_init 60 = .ok (.new 44, 3) := by decide +kernel
theorem dX9_init_63 : decode cX9_init 63 = .ok (.dup, 1) := by decide +kernel
theorem dX9_init_64 : decode cX9_init 64 = .ok (.invokespecial 46, 3) := by decide +kernel
theorem dX9_init_67 : decode cX9_init 67 = .ok (.putfield 47, 3) := by decide +kernel
theorem dX9_init_70 : decode cX9_init 70 = .ok (.aload_n 0, 1) := by decide +kernel
theorem dX9_init_71 : decode cX9_init 71 = .ok (.new 51, 3) := by decide +kernel
theorem dX9_init_74 : decode cX9_init 74 = .ok (.dup, 1) := by decide +kernel
theorem dX9_init_75 : decode cX9_init 75 = .ok (.invokespecial 53, 3) := by decide +kernel
theorem dX9_init_78 : decode cX9_init 78 = .ok (.putfield 54, 3) := by decide +kernel
theorem dX9_init_81 : decode cX9_init 81 = .ok (.aload_n 0, 1) := by decide +kernel
theorem dX9_init_82 : decode cX9_init 82 = .ok (.new 58, 3) := by decide +kernel
theorem dX9_init_85 : decode cX9_init 85 = .ok (.dup, 1) := by decide +kernel
theorem dX9_init_86 : decode cX9_init 86 = .ok (.invokespecial 60, 3) := by decide +kernel
theorem dX9_init_89 : decode cX9_init 89 = .ok (.putfield 61, 3) := by decide +kernel
theorem dX9_init_92 : decode cX9_init 92 = .ok (.aload_n 0, 1) := by decide +kernel
theorem dX9_init_93 : decode cX9_init 93 = .ok (.iconst 2, 1) := by decide +kernel
theorem dX9_init_94 : decode cX9_init 94 = .ok (.anewarray 9, 3) := by decide +kernel
theorem dX9_init_97 : decode cX9_init 97 = .ok (.putfield 65, 3) := by decide +kernel
theorem dX9_init_100 : decode cX9_init 100 = .ok (.return_, 1) := by decide +kernel
theorem dX9_rung_0 : decode cX9_rung 0 = .ok (.iload_n 1, 1) := by decide +kernel
theorem dX9_rung_1 : decode cX9_rung 1 = .ok (.invokestatic 69, 3) := by decide +kernel
theorem dX9_rung_4 : decode cX9_rung 4 = .ok (.ifCond .eq 17, 3) := by decide +kernel
theorem dX9_rung_7 : decode cX9_rung 7 = .ok (.iload_n 2, 1) := by decide +kernel
theorem dX9_rung_8 : decode cX9_rung 8 = .ok (.invokestatic 73, 3) := by decide +kernel
theorem dX9_rung_11 : decode cX9_rung 11 = .ok (.ifCond .eq 10, 3) := by decide +kernel
theorem dX9_rung_14 : decode cX9_rung 14 = .ok (.iload_n 3, 1) := by decide +kernel
theorem dX9_rung_15 : decode cX9_rung 15 = .ok (.invokestatic 73, 3) := by decide +kernel
theorem dX9_rung_18 : decode cX9_rung 18 = .ok (.ifCond .ne 5, 3) := by decide +kernel
theorem dX9_rung_21 : decode cX9_rung 21 = .ok (.iconst (-1), 1) := by decide +kernel
theorem dX9_rung_22 : decode cX9_rung 22 = .ok (.ireturn, 1) := by decide +kernel
theorem dX9_rung_23 : decode cX9_rung 23 = .ok (.iload_n 2, 1) := by decide +kernel
theorem dX9_rung_24 : decode cX9_rung 24 = .ok (.iload_n 3, 1) := by decide +kernel
theorem dX9_rung_25 : decode cX9_rung 25 = .ok (.iload 4, 2) := by decide +kernel
theorem dX9_rung_27 : decode cX9_rung 27 = .ok (.invokestatic 76, 3) := by decide +kernel
theorem dX9_rung_30 : decode cX9_rung 30 = .ok (.ifCond .ne 6, 3) := by decide +kernel
theorem dX9_rung_33 : decode cX9_rung 33 = .ok (.bipush (-2), 2) := by decide +kernel
theorem dX9_rung_35 : decode cX9_rung 35 = .ok (.ireturn, 1) := by decide +kernel
theorem dX9_rung_36 : decode cX9_rung 36 = .ok (.aload_n 0, 1) := by decide +kernel
theorem dX9_rung_37 : decode cX9_rung 37 = .ok (.getfield 12, 3) := by decide +kernel
theorem dX9_rung_40 : decode cX9_rung 40 = .ok (.iload_n 1, 1) := by decide +kernel
theorem dX9_rung_41 : decode cX9_rung 41 = .ok (.invokevirtual 80, 3) := by decide +kernel
theorem dX9_rung_44 : decode cX9_rung 44 = .ok (.istore 5, 2) := by decide +kernel
theorem dX9_rung_46 : decode cX9_rung 46 = .ok (.aload_n 0, 1) := by decide +kernel
theorem dX9_rung_47 : decode cX9_rung 47 = .ok (.getfield 12, 3) := by decide +kernel
theorem dX9_rung_50 : decode cX9_rung 50 = .ok (.iload_n 1, 1) := by decide +kernel
theorem dX9_rung_51 : decode cX9_rung 51 = .ok (.iload_n 2, 1) := by decide +kernel
theorem dX9_rung_52 : decode cX9_rung 52 = .ok (.iload_n 3, 1) := by decide +kernel
theorem dX9_rung_53 : decode cX9_rung 53 = .ok (.iload 4, 2) := by decide +kernel
theorem dX9_rung_55 : decode cX9_rung 55 = .ok (.iconst 1, 1) := by decide +kernel
theorem dX9_rung_56 : decode cX9_rung 56 = .ok (.if_icmp .ne 7, 3) := by decide +kernel
theorem dX9_rung_59 : decode cX9_rung 59 = .ok (.iconst 1, 1) := by decide +kernel
theorem dX9_rung_60 : decode cX9_rung 60 = .ok (.goto 4, 3) := by decide +kernel
theorem dX9_rung_63 : decode cX9_rung 63 = .ok (.iconst 0, 1) := by decide +kernel
theorem dX9_rung_64 : decode cX9_rung 64 = .ok (.invokevirtual 84, 3) := by decide +kernel
theorem dX9_rung_67 : decode cX9_rung 67 = .ok (.iload 5, 2) := by decide +kernel
theorem dX9_rung_69 : decode cX9_rung 69 = .ok (.invokestatic 88, 3) := by decide +kernel
theorem dX9_rung_72 : decode cX9_rung 72 = .ok (.ireturn, 1) := by decide +kernel
theorem dX9_man_0 : decode cX9_man 0 = .ok (.iload_n 1, 1) := by decide +kernel
theorem dX9_man_1 : decode cX9_man 1 = .ok (.invokestatic 91, 3) := by decide +kernel
theorem dX9_man_4 : decode cX9_man 4 = .ok (.ifCond .ne 5, 3) := by decide +kernel
theorem dX9_man_7 : decode cX9_man 7 = .ok (.iconst (-1), 1) := by decide +kernel
theorem dX9_man_8 : decode cX9_man 8 = .ok (.ireturn, 1) := by decide +kernel
theorem dX9_man_9 : decode cX9_man 9 = .ok (.iload_n 2, 1) := by decide +kernel
theorem dX9_man_10 : decode cX9_man 10 = .ok (.iconst 1, 1) := by decide +kernel
theorem dX9_man_11 : decode cX9_man 11 = .ok (.iconst 4, 1) := by decide +kernel
theorem dX9_man_12 : decode cX9_man 12 = .ok (.invokestatic 94, 3) := by decide +kernel
theorem dX9_man_15 : decode cX9_man 15 = .ok (.ifCond .eq 21, 3) := by decide +kernel
theorem dX9_man_18 : decode cX9_man 18 = .ok (.iload_n 3, 1) := by decide +kernel
theorem dX9_man_19 : decode cX9_man 19 = .ok (.iconst 0, 1) := by decide +kernel
theorem dX9_man_20 : decode cX9_man 20 = .ok (.bipush 99, 2) := by decide +kernel
theorem dX9_man_22 : decode cX9_man 22 = .ok (.invokestatic 94, 3) := by decide +kernel
theorem dX9_man_25 : decode cX9_man 25 = .ok (.ifCond .eq 11, 3) := by decide +kernel
theorem dX9_man_28 : decode cX9_man 28 = .ok (.iload 4, 2) := by decide +kernel
theorem dX9_man_30 : decode cX9_man 30 = .ok (.invokestatic 97, 3) := by decide +kernel
theorem dX9_man_33 : decode cX9_man 33 = .ok (.ifCond .ne 6, 3) := by decide +kernel
theorem dX9_man_36 : decode cX9_man 36 = .ok (.bipush (-2), 2) := by decide +kernel
theorem dX9_man_38 : decode cX9_man 38 = .ok (.ireturn, 1) := by decide +kernel
theorem dX9_man_39 : decode cX9_man 39 = .ok (.bipush 100, 2) := by decide +kernel
theorem dX9_man_41 : decode cX9_man 41 = .ok (.aload_n 0, 1) := by decide +kernel
theorem dX9_man_42 : decode cX9_man 42 = .ok (.getfield 12, 3) := by decide +kernel
theorem dX9_man_45 : decode cX9_man 45 = .ok (.iload_n 1, 1) := by decide +kernel
theorem dX9_man_46 : decode cX9_man 46 = .ok (.invokevirtual 100, 3) := by decide +kernel
theorem dX9_man_49 : decode cX9_man 49 = .ok (.imul, 1) := by decide +kernel
theorem dX9_man_50 : decode cX9_man 50 = .ok (.aload_n 0, 1) := by decide +kernel
theorem dX9_man_51 : decode cX9_man 51 = .ok (.getfield 12, 3) := by decide +kernel
theorem dX9_man_54 : decode cX9_man 54 = .ok (.iload_n 1, 1) := by decide +kernel
theorem dX9_man_55 : decode cX9_man 55 = .ok (.invokevirtual 103, 3) := by decide +kernel
theorem dX9_man_58 : decode cX9_man 58 = .ok (.iadd, 1) := by decide +kernel
theorem dX9_man_59 : decode cX9_man 59 = .ok (.istore 5, 2) := by decide +kernel
theorem dX9_man_61 : decode cX9_man 61 = .ok (.aload_n 0, 1) := by decide +kernel
theorem dX9_man_62 : decode cX9_man 62 = .ok (.getfield 12, 3) := by decide +kernel
theorem dX9_man_65 : decode cX9_man 65 = .ok (.iload_n 1, 1) := by decide +kernel
theorem dX9_man_66 : decode cX9_man 66 = .ok (.iload_n 2, 1) := by decide +kernel
theorem dX9_man_67 : decode cX9_man 67 = .ok (.iload_n 3, 1) := by decide +kernel
theorem dX9_man_68 : decode cX9_man 68 = .ok (.iload 4, 2) := by decide +kernel
theorem dX9_man_70 : decode cX9_man 70 = .ok (.invokevirtual 106, 3) := by decide +kernel
theorem dX9_man_73 : decode cX9_man 73 = .ok (.iload 5, 2) := by decide +kernel
theorem dX9_man_75 : decode cX9_man 75 = .ok (.ireturn, 1) := by decide +kernel
theorem dX9_say_0 : decode cX9_say 0 = .ok (.iload_n 1, 1) := by decide +kernel
theorem dX9_say_1 : decode cX9_say 1 = .ok (.bipush 33, 2) := by decide +kernel
theorem dX9_say_3 : decode cX9_say 3 = .ok (.bipush 126, 2) := by decide +kernel
theorem dX9_say_5 : decode cX9_say 5 = .ok (.invokestatic 94, 3) := by decide +kernel
theorem dX9_say_8 : decode cX9_say 8 = .ok (.ifCond .ne 6, 3) := by decide +kernel
theorem dX9_say_11 : decode cX9_say 11 = .ok (.bipush (-2), 2) := by decide +kernel
theorem dX9_say_13 : decode cX9_say 13 = .ok (.ireturn, 1) := by decide +kernel
theorem dX9_say_14 : decode cX9_say 14 = .ok (.aload_n 0, 1) := by decide +kernel
theorem dX9_say_15 : decode cX9_say 15 = .ok (.getfield 19, 3) := by decide +kernel
theorem dX9_say_18 : decode cX9_say 18 = .ok (.iload_n 1, 1) := by decide +kernel
theorem dX9_say_19 : decode cX9_say 19 = .ok (.invokevirtual 110, 3) := by decide +kernel
theorem dX9_say_22 : decode cX9_say 22 = .ok (.ifCond .eq 13, 3) := by decide +kernel
theorem dX9_say_25 : decode cX9_say 25 = .ok (.aload_n 0, 1) := by decide +kernel
theorem dX9_say_26 : decode cX9_say 26 = .ok (.getfield 19, 3) := by decide +kernel
theorem dX9_say_29 : decode cX9_say 29 = .ok (.invokevirtual 113, 3) := by decide +kernel
theorem dX9_say_32 : decode cX9_say 32 = .ok (.goto 5, 3) := by decide +kernel
theorem dX9_say_35 : decode cX9_say 35 = .ok (.bipush (-4), 2) := by decide +kernel
theorem dX9_say_37 : decode cX9_say 37 = .ok (.ireturn, 1) := by decide +kernel
theorem dX9_wipe_0 : decode cX9_wipe 0 = .ok (.aload_n 0, 1) := by decide +kernel
theorem dX9_wipe_1 : decode cX9_wipe 1 = .ok (.getfield 19, 3) := by decide +kernel
theorem dX9_wipe_4 : decode cX9_wipe 4 = .ok (.invokevirtual 113, 3) := by decide +kernel
theorem dX9_wipe_7 : decode cX9_wipe 7 = .ok (.istore_n 1, 1) := by decide +kernel
theorem dX9_wipe_8 : decode cX9_wipe 8 = .ok (.aload_n 0, 1) := by decide +kernel
theorem dX9_wipe_9 : decode cX9_wipe 9 = .ok (.getfield 19, 3) := by decide +kernel
theorem dX9_wipe_12 : decode cX9_wipe 12 = .ok (.invokevirtual 117, 3) := by decide +kernel
theorem dX9_wipe_15 : decode cX9_wipe 15 = .ok (.iload_n 1, 1) := by decide +kernel
theorem dX9_wipe_16 : decode cX9_wipe 16 = .ok (.ireturn, 1) := by decide +kernel
theorem dX9_fault_0 : decode cX9_fault 0 = .ok (.aload_n 0, 1) := by decide +kernel
theorem dX9_fault_1 : decode cX9_fault 1 = .ok (.getfield 19, 3) := by decide +kernel
theorem dX9_fault_4 : decode cX9_fault 4 = .ok (.invokevirtual 120, 3) := by decide +kernel
theorem dX9_fault_7 : decode cX9_fault 7 = .ok (.ireturn, 1) := by decide +kernel
theorem dX9_judge_0 : decode cX9_judge 0 = .ok (.iload_n 1, 1) := by decide +kernel
theorem dX9_judge_1 : decode cX9_judge 1 = .ok (.iconst 0, 1) := by decide +kernel
theorem dX9_judge_2 : decode cX9_judge 2 = .ok (.iconst 1, 1) := by decide +kernel
theorem dX9_judge_3 : decode cX9_judge 3 = .ok (.invokestatic 94, 3) := by decide +kernel
theorem dX9_judge_6 : decode cX9_judge 6 = .ok (.ifCond .ne 6, 3) := by decide +kernel
theorem dX9_judge_9 : decode cX9_judge 9 = .ok (.bipush (-2), 2) := by decide +kernel
theorem dX9_judge_11 : decode cX9_judge 11 = .ok (.ireturn, 1) := by decide +kernel
theorem dX9_judge_12 : decode cX9_judge 12 = .ok (.aload_n 0, 1) := by decide +kernel
theorem dX9_judge_13 : decode cX9_judge 13 = .ok (.getfield 19, 3) := by decide +kernel
theorem dX9_judge_16 : decode cX9_judge 16 = .ok (.invokevirtual 120, 3) := by decide +kernel
theorem dX9_judge_19 : decode cX9_judge 19 = .ok (.bipush (-6), 2) := by decide +kernel
theorem dX9_judge_21 : decode cX9_judge 21 = .ok (.if_icmp .eq 6, 3) := by decide +kernel
theorem dX9_judge_24 : decode cX9_judge 24 = .ok (.bipush (-5), 2) := by decide +kernel
theorem dX9_judge_26 : decode cX9_judge 26 = .ok (.ireturn, 1) := by decide +kernel
theorem dX9_judge_27 : decode cX9_judge 27 = .ok (.aload_n 0, 1) := by decide +kernel
theorem dX9_judge_28 : decode cX9_judge 28 = .ok (.getfield 33, 3) := by decide +kernel
theorem dX9_judge_31 : decode cX9_judge 31 = .ok (.aload_n 0, 1) := by decide +kernel
theorem dX9_judge_32 : decode cX9_judge 32 = .ok (.getfield 19, 3) := by decide +kernel
theorem dX9_judge_35 : decode cX9_judge 35 = .ok (.aload_n 0, 1) := by decide +kernel
theorem dX9_judge_36 : decode cX9_judge 36 = .ok (.getfield 12, 3) := by decide +kernel
theorem dX9_judge_39 : decode cX9_judge 39 = .ok (.invokevirtual 123, 3) := by decide +kernel
theorem dX9_judge_42 : decode cX9_judge 42 = .ok (.ifCond .eq 6, 3) := by decide +kernel
theorem dX9_judge_45 : decode cX9_judge 45 = .ok (.bipush (-6), 2) := by decide +kernel
theorem dX9_judge_47 : decode cX9_judge 47 = .ok (.ireturn, 1) := by decide +kernel
theorem dX9_judge_48 : decode cX9_judge 48 = .ok (.iload_n 1, 1) := by decide +kernel
theorem dX9_judge_49 : decode cX9_judge 49 = .ok (.ifCond .ne 13, 3) := by decide +kernel
theorem dX9_judge_52 : decode cX9_judge 52 = .ok (.aload_n 0, 1) := by decide +kernel
theorem dX9_judge_53 : decode cX9_judge 53 = .ok (.getfield 33, 3) := by decide +kernel
theorem dX9_judge_56 : decode cX9_judge 56 = .ok (.invokevirtual 127, 3) := by decide +kernel
theorem dX9_judge_59 : decode cX9_judge 59 = .ok (.goto 10, 3) := by decide +kernel
theorem dX9_judge_62 : decode cX9_judge 62 = .ok (.aload_n 0, 1) := by decide +kernel
theorem dX9_judge_63 : decode cX9_judge 63 = .ok (.getfield 33, 3) := by decide +kernel
theorem dX9_judge_66 : decode cX9_judge 66 = .ok (.invokevirtual 130, 3) := by decide +kernel
theorem dX9_judge_69 : decode cX9_judge 69 = .ok (.ireturn, 1) := by decide +kernel
theorem dX9_done_0 : decode cX9_done 0 = .ok (.aload_n 0, 1) := by decide +kernel
theorem dX9_done_1 : decode cX9_done 1 = .ok (.getfield 33, 3) := by decide +kernel
theorem dX9_done_4 : decode cX9_done 4 = .ok (.aload_n 0, 1) := by decide +kernel
theorem dX9_done_5 : decode cX9_done 5 = .ok (.getfield 19, 3) := by decide +kernel
theorem dX9_done_8 : decode cX9_done 8 = .ok (.aload_n 0, 1) := by decide +kernel
theorem dX9_done_9 : decode cX9_done 9 = .ok (.getfield 12, 3) := by decide +kernel
theorem dX9_done_12 : decode cX9_done 12 = .ok (.invokevirtual 123, 3) := by decide +kernel
theorem dX9_done_15 : decode cX9_done 15 = .ok (.ifCond .ne 6, 3) := by decide +kernel
theorem dX9_done_18 : decode cX9_done 18 = .ok (.bipush (-5), 2) := by decide +kernel
theorem dX9_done_20 : decode cX9_done 20 = .ok (.ireturn, 1) := by decide +kernel
theorem dX9_done_21 : decode cX9_done 21 = .ok (.aload_n 0, 1) := by decide +kernel
theorem dX9_done_22 : decode cX9_done 22 = .ok (.getfield 12, 3) := by decide +kernel
theorem dX9_done_25 : decode cX9_done 25 = .ok (.aload_n 0, 1) := by decide +kernel
theorem dX9_done_26 : decode cX9_done 26 = .ok (.getfield 33, 3) := by decide +kernel
theorem dX9_done_29 : decode cX9_done 29 = .ok (.invokevirtual 133, 3) := by decide +kernel
theorem dX9_done_32 : decode cX9_done 32 = .ok (.invokevirtual 137, 3) := by decide +kernel
theorem dX9_done_35 : decode cX9_done 35 = .ok (.aload_n 0, 1) := by decide +kernel
theorem dX9_done_36 : decode cX9_done 36 = .ok (.getfield 19, 3) := by decide +kernel
theorem dX9_done_39 : decode cX9_done 39 = .ok (.invokevirtual 117, 3) := by decide +kernel
theorem dX9_done_42 : decode cX9_done 42 = .ok (.aload_n 0, 1) := by decide +kernel
theorem dX9_done_43 : decode cX9_done 43 = .ok (.getfield 33, 3) := by decide +kernel
theorem dX9_done_46 : decode cX9_done 46 = .ok (.invokevirtual 127, 3) := by decide +kernel
theorem dX9_done_49 : decode cX9_done 49 = .ok (.ireturn, 1) := by decide +kernel
theorem dX9_behind_0 : decode cX9_behind 0 = .ok (.iload_n 1, 1) := by decide +kernel
theorem dX9_behind_1 : decode cX9_behind 1 = .ok (.invokestatic 91, 3) := by decide +kernel
theorem dX9_behind_4 : decode cX9_behind 4 = .ok (.ifCond .ne 5, 3) := by decide +kernel
theorem dX9_behind_7 : decode cX9_behind 7 = .ok (.iconst (-1), 1) := by decide +kernel
theorem dX9_behind_8 : decode cX9_behind 8 = .ok (.ireturn, 1) := by decide +kernel
theorem dX9_behind_9 : decode cX9_behind 9 = .ok (.iload_n 2, 1) := by decide +kernel
theorem dX9_behind_10 : decode cX9_behind 10 = .ok (.iconst 0, 1) := by decide +kernel
theorem dX9_behind_11 : decode cX9_behind 11 = .ok (.iconst 3, 1) := by decide +kernel
theorem dX9_behind_12 : decode cX9_behind 12 = .ok (.invokestatic 94, 3) := by decide +kernel
theorem dX9_behind_15 : decode cX9_behind 15 = .ok (.ifCond .ne 6, 3) := by decide +kernel
theorem dX9_behind_18 : decode cX9_behind 18 = .ok (.bipush (-2), 2) := by decide +kernel
theorem dX9_behind_20 : decode cX9_behind 20 = .ok (.ireturn, 1) := by decide +kernel
theorem dX9_behind_21 : decode cX9_behind 21 = .ok (.aload_n 0, 1) := by decide +kernel
theorem dX9_behind_22 : decode cX9_behind 22 = .ok (.getfield 33, 3) := by decide +kernel
theorem dX9_behind_25 : decode cX9_behind 25 = .ok (.aload_n 0, 1) := by decide +kernel
theorem dX9_behind_26 : decode cX9_behind 26 = .ok (.getfield 19, 3) := by decide +kernel
theorem dX9_behind_29 : decode cX9_behind 29 = .ok (.aload_n 0, 1) := by decide +kernel
theorem dX9_behind_30 : decode cX9_behind 30 = .ok (.getfield 12, 3) := by decide +kernel
theorem dX9_behind_33 : decode cX9_behind 33 = .ok (.invokevirtual 123, 3) := by decide +kernel
theorem dX9_behind_36 : decode cX9_behind 36 = .ok (.ifCond .ne 6, 3) := by decide +kernel
theorem dX9_behind_39 : decode cX9_behind 39 = .ok (.bipush (-5), 2) := by decide +kernel
theorem dX9_behind_41 : decode cX9_behind 41 = .ok (.ireturn, 1) := by decide +kernel
theorem dX9_behind_42 : decode cX9_behind 42 = .ok (.aload_n 0, 1) := by decide +kernel
theorem dX9_behind_43 : decode cX9_behind 43 = .ok (.getfield 33, 3) := by decide +kernel
theorem dX9_behind_46 : decode cX9_behind 46 = .ok (.invokevirtual 133, 3) := by decide +kernel
theorem dX9_behind_49 : decode cX9_behind 49 = .ok (.astore_n 3, 1) := by decide +kernel
theorem dX9_behind_50 : decode cX9_behind 50 = .ok (.iload_n 2, 1) := by decide +kernel
theorem dX9_behind_51 : decode cX9_behind 51 = .ok (.tableswitch 43 0 2 #[25, 31, 37], 25) := by decide +kernel
theorem dX9_behind_76 : decode cX9_behind 76 = .ok (.aload_n 3, 1) := by decide +kernel
theorem dX9_behind_77 : decode cX9_behind 77 = .ok (.iload_n 1, 1) := by decide +kernel
theorem dX9_behind_78 : decode cX9_behind 78 = .ok (.invokevirtual 100, 3) := by decide +kernel
theorem dX9_behind_81 : decode cX9_behind 81 = .ok (.ireturn, 1) := by decide +kernel
theorem dX9_behind_82 : decode cX9_behind 82 = .ok (.aload_n 3, 1) := by decide +kernel
theorem dX9_behind_83 : decode cX9_behind 83 = .ok (.iload_n 1, 1) := by decide +kernel
theorem dX9_behind_84 : decode cX9_behind 84 = .ok (.invokevirtual 103, 3) := by decide +kernel
theorem dX9_behind_87 : decode cX9_behind 87 = .ok (.ireturn, 1) := by decide +kernel
theorem dX9_behind_88 : decode cX9_behind 88 = .ok (.aload_n 3, 1) := by decide +kernel
theorem dX9_behind_89 : decode cX9_behind 89 = .ok (.iload_n 1, 1) := by decide +kernel
theorem dX9_behind_90 : decode cX9_behind 90 = .ok (.invokevirtual 141, 3) := by decide +kernel
theorem dX9_behind_93 : decode cX9_behind 93 = .ok (.ireturn, 1) := by decide +kernel
theorem dX9_behind_94 : decode cX9_behind 94 = .ok (.aload_n 3, 1) := by decide +kernel
theorem dX9_behind_95 : decode cX9_behind 95 = .ok (.iload_n 1, 1) := by decide +kernel
theorem dX9_behind_96 : decode cX9_behind 96 = .ok (.invokevirtual 144, 3) := by decide +kernel
theorem dX9_behind_99 : decode cX9_behind 99 = .ok (.ifCond .eq 7, 3) := by decide +kernel
theorem dX9_behind_102 : decode cX9_behind 102 = .ok (.iconst 1, 1) := by decide +kernel
theorem dX9_behind_103 : decode cX9_behind 103 = .ok (.goto 4, 3) := by decide +kernel
theorem dX9_behind_106 : decode cX9_behind 106 = .ok (.iconst 0, 1) := by decide +kernel
theorem dX9_behind_107 : decode cX9_behind 107 = .ok (.ireturn, 1) := by decide +kernel
theorem dX9_bears_0 : decode cX9_bears 0 = .ok (.iload_n 1, 1) := by decide +kernel
theorem dX9_bears_1 : decode cX9_bears 1 = .ok (.invokestatic 69, 3) := by decide +kernel
theorem dX9_bears_4 : decode cX9_bears 4 = .ok (.ifCond .ne 5, 3) := by decide +kernel
theorem dX9_bears_7 : decode cX9_bears 7 = .ok (.iconst (-1), 1) := by decide +kernel
theorem dX9_bears_8 : decode cX9_bears 8 = .ok (.ireturn, 1) := by decide +kernel
theorem dX9_bears_9 : decode cX9_bears 9 = .ok (.iload_n 2, 1) := by decide +kernel
theorem dX9_bears_10 : decode cX9_bears 10 = .ok (.iconst 0, 1) := by decide +kernel
theorem dX9_bears_11 : decode cX9_bears 11 = .ok (.iconst 3, 1) := by decide +kernel
theorem dX9_bears_12 : decode cX9_bears 12 = .ok (.invokestatic 94, 3) := by decide +kernel
theorem dX9_bears_15 : decode cX9_bears 15 = .ok (.ifCond .ne 6, 3) := by decide +kernel
theorem dX9_bears_18 : decode cX9_bears 18 = .ok (.bipush (-2), 2) := by decide +kernel
theorem dX9_bears_20 : decode cX9_bears 20 = .ok (.ireturn, 1) := by decide +kernel
theorem dX9_bears_21 : decode cX9_bears 21 = .ok (.aload_n 0, 1) := by decide +kernel
theorem dX9_bears_22 : decode cX9_bears 22 = .ok (.getfield 33, 3) := by decide +kernel
theorem dX9_bears_25 : decode cX9_bears 25 = .ok (.aload_n 0, 1) := by decide +kernel
theorem dX9_bears_26 : decode cX9_bears 26 = .ok (.getfield 19, 3) := by decide +kernel
theorem dX9_bears_29 : decode cX9_bears 29 = .ok (.aload_n 0, 1) := by decide +kernel
theorem dX9_bears_30 : decode cX9_bears 30 = .ok (.getfield 12, 3) := by decide +kernel
theorem dX9_bears_33 : decode cX9_bears 33 = .ok (.invokevirtual 123, 3) := by decide +kernel
theorem dX9_bears_36 : decode cX9_bears 36 = .ok (.ifCond .ne 6, 3) := by decide +kernel
theorem dX9_bears_39 : decode cX9_bears 39 = .ok (.bipush (-5), 2) := by decide +kernel
theorem dX9_bears_41 : decode cX9_bears 41 = .ok (.ireturn, 1) := by decide +kernel
theorem dX9_bears_42 : decode cX9_bears 42 = .ok (.aload_n 0, 1) := by decide +kernel
theorem dX9_bears_43 : decode cX9_bears 43 = .ok (.getfield 33, 3) := by decide +kernel
theorem dX9_bears_46 : decode cX9_bears 46 = .ok (.invokevirtual 133, 3) := by decide +kernel
theorem dX9_bears_49 : decode cX9_bears 49 = .ok (.astore_n 3, 1) := by decide +kernel
theorem dX9_bears_50 : decode cX9_bears 50 = .ok (.iload_n 2, 1) := by decide +kernel
theorem dX9_bears_51 : decode cX9_bears 51 = .ok (.tableswitch 52 0 2 #[25, 34, 43], 25) := by decide +kernel
theorem dX9_bears_76 : decode cX9_bears 76 = .ok (.aload_n 3, 1) := by decide +kernel
theorem dX9_bears_77 : decode cX9_bears 77 = .ok (.iload_n 1, 1) := by decide +kernel
theorem dX9_bears_78 : decode cX9_bears 78 = .ok (.invokevirtual 80, 3) := by decide +kernel
theorem dX9_bears_81 : decode cX9_bears 81 = .ok (.invokestatic 88, 3) := by decide +kernel
theorem dX9_bears_84 : decode cX9_bears 84 = .ok (.ireturn, 1) := by decide +kernel
theorem dX9_bears_85 : decode cX9_bears 85 = .ok (.aload_n 3, 1) := by decide +kernel
theorem dX9_bears_86 : decode cX9_bears 86 = .ok (.iload_n 1, 1) := by decide +kernel
theorem dX9_bears_87 : decode cX9_bears 87 = .ok (.invokevirtual 147, 3) := by decide +kernel
theorem dX9_bears_90 : decode cX9_bears 90 = .ok (.invokestatic 88, 3) := by decide +kernel
theorem dX9_bears_93 : decode cX9_bears 93 = .ok (.ireturn, 1) := by decide +kernel
theorem dX9_bears_94 : decode cX9_bears 94 = .ok (.aload_n 3, 1) := by decide +kernel
theorem dX9_bears_95 : decode cX9_bears 95 = .ok (.iload_n 1, 1) := by decide +kernel
theorem dX9_bears_96 : decode cX9_bears 96 = .ok (.invokevirtual 150, 3) := by decide +kernel
theorem dX9_bears_99 : decode cX9_bears 99 = .ok (.invokestatic 88, 3) := by decide +kernel
theorem dX9_bears_102 : decode cX9_bears 102 = .ok (.ireturn, 1) := by decide +kernel
theorem dX9_bears_103 : decode cX9_bears 103 = .ok (.aload_n 3, 1) := by decide +kernel
theorem dX9_bears_104 : decode cX9_bears 104 = .ok (.iload_n 1, 1) := by decide +kernel
theorem dX9_bears_105 : decode cX9_bears 105 = .ok (.invokevirtual 153, 3) := by decide +kernel
theorem dX9_bears_108 : decode cX9_bears 108 = .ok (.ifCond .eq 7, 3) := by decide +kernel
theorem dX9_bears_111 : decode cX9_bears 111 = .ok (.iconst 1, 1) := by decide +kernel
theorem dX9_bears_112 : decode cX9_bears 112 = .ok (.goto 4, 3) := by decide +kernel
theorem dX9_bears_115 : decode cX9_bears 115 = .ok (.iconst 0, 1) := by decide +kernel
theorem dX9_bears_116 : decode cX9_bears 116 = .ok (.ireturn, 1) := by decide +kernel
theorem dX9_then_0 : decode cX9_then 0 = .ok (.iload_n 1, 1) := by decide +kernel
theorem dX9_then_1 : decode cX9_then 1 = .ok (.iconst 0, 1) := by decide +kernel
theorem dX9_then_2 : decode cX9_then 2 = .ok (.iconst 5, 1) := by decide +kernel
theorem dX9_then_3 : decode cX9_then 3 = .ok (.invokestatic 94, 3) := by decide +kernel
theorem dX9_then_6 : decode cX9_then 6 = .ok (.ifCond .ne 6, 3) := by decide +kernel
theorem dX9_then_9 : decode cX9_then 9 = .ok (.bipush (-2), 2) := by decide +kernel
theorem dX9_then_11 : decode cX9_then 11 = .ok (.ireturn, 1) := by decide +kernel
theorem dX9_then_12 : decode cX9_then 12 = .ok (.aload_n 0, 1) := by decide +kernel
theorem dX9_then_13 : decode cX9_then 13 = .ok (.getfield 33, 3) := by decide +kernel
theorem dX9_then_16 : decode cX9_then 16 = .ok (.aload_n 0, 1) := by decide +kernel
theorem dX9_then_17 : decode cX9_then 17 = .ok (.getfield 19, 3) := by decide +kernel
theorem dX9_then_20 : decode cX9_then 20 = .ok (.aload_n 0, 1) := by decide +kernel
theorem dX9_then_21 : decode cX9_then 21 = .ok (.getfield 12, 3) := by decide +kernel
theorem dX9_then_24 : decode cX9_then 24 = .ok (.invokevirtual 123, 3) := by decide +kernel
theorem dX9_then_27 : decode cX9_then 27 = .ok (.ifCond .ne 6, 3) := by decide +kernel
theorem dX9_then_30 : decode cX9_then 30 = .ok (.bipush (-5), 2) := by decide +kernel
theorem dX9_then_32 : decode cX9_then 32 = .ok (.ireturn, 1) := by decide +kernel
theorem dX9_then_33 : decode cX9_then 33 = .ok (.iload_n 1, 1) := by decide +kernel
theorem dX9_then_34 : decode cX9_then 34 = .ok (.tableswitch 80 0 4 #[34, 45, 56, 64, 72], 34) := by decide +kernel
theorem dX9_then_68 : decode cX9_then 68 = .ok (.aload_n 0, 1) := by decide +kernel
theorem dX9_then_69 : decode cX9_then 69 = .ok (.getfield 33, 3) := by decide +kernel
theorem dX9_then_72 : decode cX9_then 72 = .ok (.invokevirtual 133, 3) := by decide +kernel
theorem dX9_then_75 : decode cX9_then 75 = .ok (.invokevirtual 156, 3) := by decide +kernel
theorem dX9_then_78 : decode cX9_then 78 = .ok (.ireturn, 1) := by decide +kernel
theorem dX9_then_79 : decode cX9_then 79 = .ok (.aload_n 0, 1) := by decide +kernel
theorem dX9_then_80 : decode cX9_then 80 = .ok (.getfield 33, 3) := by decide +kernel
theorem dX9_then_83 : decode cX9_then 83 = .ok (.invokevirtual 133, 3) := by decide +kernel
theorem dX9_then_86 : decode cX9_then 86 = .ok (.invokevirtual 159, 3) := by decide +kernel
theorem dX9_then_89 : decode cX9_then 89 = .ok (.ireturn, 1) := by decide +kernel
theorem dX9_then_90 : decode cX9_then 90 = .ok (.aload_n 0, 1) := by decide +kernel
theorem dX9_then_91 : decode cX9_then 91 = .ok (.getfield 33, 3) := by decide +kernel
theorem dX9_then_94 : decode cX9_then 94 = .ok (.invokevirtual 162, 3) := by decide +kernel
theorem dX9_then_97 : decode cX9_then 97 = .ok (.ireturn, 1) := by decide +kernel
theorem dX9_then_98 : decode cX9_then 98 = .ok (.aload_n 0, 1) := by decide +kernel
theorem dX9_then_99 : decode cX9_then 99 = .ok (.getfield 33, 3) := by decide +kernel
theorem dX9_then_102 : decode cX9_then 102 = .ok (.invokevirtual 165, 3) := by decide +kernel
theorem dX9_then_105 : decode cX9_then 105 = .ok (.ireturn, 1) := by decide +kernel
theorem dX9_then_106 : decode cX9_then 106 = .ok (.aload_n 0, 1) := by decide +kernel
theorem dX9_then_107 : decode cX9_then 107 = .ok (.getfield 33, 3) := by decide +kernel
theorem dX9_then_110 : decode cX9_then 110 = .ok (.invokevirtual 168, 3) := by decide +kernel
theorem dX9_then_113 : decode cX9_then 113 = .ok (.ireturn, 1) := by decide +kernel
theorem dX9_then_114 : decode cX9_then 114 = .ok (.aload_n 0, 1) := by decide +kernel
theorem dX9_then_115 : decode cX9_then 115 = .ok (.getfield 33, 3) := by decide +kernel
theorem dX9_then_118 : decode cX9_then 118 = .ok (.invokevirtual 171, 3) := by decide +kernel
theorem dX9_then_121 : decode cX9_then 121 = .ok (.ireturn, 1) := by decide +kernel
theorem dX9_climb_0 : decode cX9_climb 0 = .ok (.iload_n 1, 1) := by decide +kernel
theorem dX9_climb_1 : decode cX9_climb 1 = .ok (.invokestatic 91, 3) := by decide +kernel
theorem dX9_climb_4 : decode cX9_climb 4 = .ok (.ifCond .ne 5, 3) := by decide +kernel
theorem dX9_climb_7 : decode cX9_climb 7 = .ok (.iconst (-1), 1) := by decide +kernel
theorem dX9_climb_8 : decode cX9_climb 8 = .ok (.ireturn, 1) := by decide +kernel
theorem dX9_climb_9 : decode cX9_climb 9 = .ok (.iload_n 2, 1) := by decide +kernel
theorem dX9_climb_10 : decode cX9_climb 10 = .ok (.iconst 0, 1) := by decide +kernel
theorem dX9_climb_11 : decode cX9_climb 11 = .ok (.iconst 1, 1) := by decide +kernel
theorem dX9_climb_12 : decode cX9_climb 12 = .ok (.invokestatic 94, 3) := by decide +kernel
theorem dX9_climb_15 : decode cX9_climb 15 = .ok (.ifCond .ne 6, 3) := by decide +kernel
theorem dX9_climb_18 : decode cX9_climb 18 = .ok (.bipush (-2), 2) := by decide +kernel
theorem dX9_climb_20 : decode cX9_climb 20 = .ok (.ireturn, 1) := by decide +kernel
theorem dX9_climb_21 : decode cX9_climb 21 = .ok (.iload_n 2, 1) := by decide +kernel
theorem dX9_climb_22 : decode cX9_climb 22 = .ok (.ifCond .ne 18, 3) := by decide +kernel
theorem dX9_climb_25 : decode cX9_climb 25 = .ok (.aload_n 0, 1) := by decide +kernel
theorem dX9_climb_26 : decode cX9_climb 26 = .ok (.getfield 40, 3) := by decide +kernel
theorem dX9_climb_29 : decode cX9_climb 29 = .ok (.aload_n 0, 1) := by decide +kernel
theorem dX9_climb_30 : decode cX9_climb 30 = .ok (.getfield 12, 3) := by decide +kernel
theorem dX9_climb_33 : decode cX9_climb 33 = .ok (.iload_n 1, 1) := by decide +kernel
theorem dX9_climb_34 : decode cX9_climb 34 = .ok (.invokevirtual 174, 3) := by decide +kernel
theorem dX9_climb_37 : decode cX9_climb 37 = .ok (.goto 15, 3) := by decide +kernel
theorem dX9_climb_40 : decode cX9_climb 40 = .ok (.aload_n 0, 1) := by decide +kernel
theorem dX9_climb_41 : decode cX9_climb 41 = .ok (.getfield 40, 3) := by decide +kernel
theorem dX9_climb_44 : decode cX9_climb 44 = .ok (.aload_n 0, 1) := by decide +kernel
theorem dX9_climb_45 : decode cX9_climb 45 = .ok (.getfield 12, 3) := by decide +kernel
theorem dX9_climb_48 : decode cX9_climb 48 = .ok (.iload_n 1, 1) := by decide +kernel
theorem dX9_climb_49 : decode cX9_climb 49 = .ok (.invokevirtual 178, 3) := by decide +kernel
theorem dX9_climb_52 : decode cX9_climb 52 = .ok (.ireturn, 1) := by decide +kernel
theorem dX9_ways_0 : decode cX9_ways 0 = .ok (.iload_n 1, 1) := by decide +kernel
theorem dX9_ways_1 : decode cX9_ways 1 = .ok (.invokestatic 91, 3) := by decide +kernel
theorem dX9_ways_4 : decode cX9_ways 4 = .ok (.ifCond .ne 5, 3) := by decide +kernel
theorem dX9_ways_7 : decode cX9_ways 7 = .ok (.iconst (-1), 1) := by decide +kernel
theorem dX9_ways_8 : decode cX9_ways 8 = .ok (.ireturn, 1) := by decide +kernel
theorem dX9_ways_9 : decode cX9_ways 9 = .ok (.aload_n 0, 1) := by decide +kernel
theorem dX9_ways_10 : decode cX9_ways 10 = .ok (.getfield 40, 3) := by decide +kernel
theorem dX9_ways_13 : decode cX9_ways 13 = .ok (.aload_n 0, 1) := by decide +kernel
theorem dX9_ways_14 : decode cX9_ways 14 = .ok (.getfield 12, 3) := by decide +kernel
theorem dX9_ways_17 : decode cX9_ways 17 = .ok (.iload_n 1, 1) := by decide +kernel
theorem dX9_ways_18 : decode cX9_ways 18 = .ok (.invokevirtual 181, 3) := by decide +kernel
theorem dX9_ways_21 : decode cX9_ways 21 = .ok (.ireturn, 1) := by decide +kernel
theorem dX9_leases_0 : decode cX9_leases 0 = .ok (.iload_n 1, 1) := by decide +kernel
theorem dX9_leases_1 : decode cX9_leases 1 = .ok (.invokestatic 91, 3) := by decide +kernel
theorem dX9_leases_4 : decode cX9_leases 4 = .ok (.ifCond .ne 5, 3) := by decide +kernel
theorem dX9_leases_7 : decode cX9_leases 7 = .ok (.iconst (-1), 1) := by decide +kernel
theorem dX9_leases_8 : decode cX9_leases 8 = .ok (.ireturn, 1) := by decide +kernel
theorem dX9_leases_9 : decode cX9_leases 9 = .ok (.iload_n 2, 1) := by decide +kernel
theorem dX9_leases_10 : decode cX9_leases 10 = .ok (.iconst 0, 1) := by decide +kernel
theorem dX9_leases_11 : decode cX9_leases 11 = .ok (.iconst 1, 1) := by decide +kernel
theorem dX9_leases_12 : decode cX9_leases 12 = .ok (.invokestatic 94, 3) := by decide +kernel
theorem dX9_leases_15 : decode cX9_leases 15 = .ok (.ifCond .ne 6, 3) := by decide +kernel
theorem dX9_leases_18 : decode cX9_leases 18 = .ok (.bipush (-2), 2) := by decide +kernel
theorem dX9_leases_20 : decode cX9_leases 20 = .ok (.ireturn, 1) := by decide +kernel
theorem dX9_leases_21 : decode cX9_leases 21 = .ok (.iload_n 2, 1) := by decide +kernel
theorem dX9_leases_22 : decode cX9_leases 22 = .ok (.ifCond .ne 18, 3) := by decide +kernel
theorem dX9_leases_25 : decode cX9_leases 25 = .ok (.aload_n 0, 1) := by decide +kernel
theorem dX9_leases_26 : decode cX9_leases 26 = .ok (.getfield 40, 3) := by decide +kernel
theorem dX9_leases_29 : decode cX9_leases 29 = .ok (.aload_n 0, 1) := by decide +kernel
theorem dX9_leases_30 : decode cX9_leases 30 = .ok (.getfield 12, 3) := by decide +kernel
theorem dX9_leases_33 : decode cX9_leases 33 = .ok (.iload_n 1, 1) := by decide +kernel
theorem dX9_leases_34 : decode cX9_leases 34 = .ok (.invokevirtual 184, 3) := by decide +kernel
theorem dX9_leases_37 : decode cX9_leases 37 = .ok (.goto 15, 3) := by decide +kernel
theorem dX9_leases_40 : decode cX9_leases 40 = .ok (.aload_n 0, 1) := by decide +kernel
theorem dX9_leases_41 : decode cX9_leases 41 = .ok (.getfield 40, 3) := by decide +kernel
theorem dX9_leases_44 : decode cX9_leases 44 = .ok (.aload_n 0, 1) := by decide +kernel
theorem dX9_leases_45 : decode cX9_leases 45 = .ok (.getfield 12, 3) := by decide +kernel
theorem dX9_leases_48 : decode cX9_leases 48 = .ok (.iload_n 1, 1) := by decide +kernel
theorem dX9_leases_49 : decode cX9_leases 49 = .ok (.invokevirtual 187, 3) := by decide +kernel
theorem dX9_leases_52 : decode cX9_leases 52 = .ok (.ireturn, 1) := by decide +kernel
theorem dX9_stand_0 : decode cX9_stand 0 = .ok (.iload_n 1, 1) := by decide +kernel
theorem dX9_stand_1 : decode cX9_stand 1 = .ok (.invokestatic 73, 3) := by decide +kernel
theorem dX9_stand_4 : decode cX9_stand 4 = .ok (.ifCond .ne 5, 3) := by decide +kernel
theorem dX9_stand_7 : decode cX9_stand 7 = .ok (.iconst (-1), 1) := by decide +kernel
theorem dX9_stand_8 : decode cX9_stand 8 = .ok (.ireturn, 1) := by decide +kernel
theorem dX9_stand_9 : decode cX9_stand 9 = .ok (.aload_n 0, 1) := by decide +kernel
theorem dX9_stand_10 : decode cX9_stand 10 = .ok (.getfield 47, 3) := by decide +kernel
theorem dX9_stand_13 : decode cX9_stand 13 = .ok (.aload_n 0, 1) := by decide +kernel
theorem dX9_stand_14 : decode cX9_stand 14 = .ok (.getfield 12, 3) := by decide +kernel
theorem dX9_stand_17 : decode cX9_stand 17 = .ok (.invokevirtual 190, 3) := by decide +kernel
theorem dX9_stand_20 : decode cX9_stand 20 = .ok (.iload_n 1, 1) := by decide +kernel
theorem dX9_stand_21 : decode cX9_stand 21 = .ok (.iconst (-1), 1) := by decide +kernel
theorem dX9_stand_22 : decode cX9_stand 22 = .ok (.if_icmp .ne 13, 3) := by decide +kernel
theorem dX9_stand_25 : decode cX9_stand 25 = .ok (.aload_n 0, 1) := by decide +kernel
theorem dX9_stand_26 : decode cX9_stand 26 = .ok (.getfield 47, 3) := by decide +kernel
theorem dX9_stand_29 : decode cX9_stand 29 = .ok (.invokevirtual 193, 3) := by decide +kernel
theorem dX9_stand_32 : decode cX9_stand 32 = .ok (.goto 11, 3) := by decide +kernel
theorem dX9_stand_35 : decode cX9_stand 35 = .ok (.aload_n 0, 1) := by decide +kernel
theorem dX9_stand_36 : decode cX9_stand 36 = .ok (.getfield 47, 3) := by decide +kernel
theorem dX9_stand_39 : decode cX9_stand 39 = .ok (.iload_n 1, 1) := by decide +kernel
theorem dX9_stand_40 : decode cX9_stand 40 = .ok (.invokevirtual 196, 3) := by decide +kernel
theorem dX9_stand_43 : decode cX9_stand 43 = .ok (.ireturn, 1) := by decide +kernel
theorem dX9_felt_0 : decode cX9_felt 0 = .ok (.iload_n 1, 1) := by decide +kernel
theorem dX9_felt_1 : decode cX9_felt 1 = .ok (.invokestatic 69, 3) := by decide +kernel
theorem dX9_felt_4 : decode cX9_felt 4 = .ok (.ifCond .ne 5, 3) := by decide +kernel
theorem dX9_felt_7 : decode cX9_felt 7 = .ok (.iconst (-1), 1) := by decide +kernel
theorem dX9_felt_8 : decode cX9_felt 8 = .ok (.ireturn, 1) := by decide +kernel
theorem dX9_felt_9 : decode cX9_felt 9 = .ok (.aload_n 0, 1) := by decide +kernel
theorem dX9_felt_10 : decode cX9_felt 10 = .ok (.getfield 12, 3) := by decide +kernel
theorem dX9_felt_13 : decode cX9_felt 13 = .ok (.iload_n 1, 1) := by decide +kernel
theorem dX9_felt_14 : decode cX9_felt 14 = .ok (.iload_n 2, 1) := by decide +kernel
theorem dX9_felt_15 : decode cX9_felt 15 = .ok (.invokevirtual 199, 3) := by decide +kernel
theorem dX9_felt_18 : decode cX9_felt 18 = .ok (.ifCond .eq 13, 3) := by decide +kernel
theorem dX9_felt_21 : decode cX9_felt 21 = .ok (.aload_n 0, 1) := by decide +kernel
theorem dX9_felt_22 : decode cX9_felt 22 = .ok (.getfield 12, 3) := by decide +kernel
theorem dX9_felt_25 : decode cX9_felt 25 = .ok (.invokevirtual 203, 3) := by decide +kernel
theorem dX9_felt_28 : decode cX9_felt 28 = .ok (.goto 5, 3) := by decide +kernel
theorem dX9_felt_31 : decode cX9_felt 31 = .ok (.bipush (-4), 2) := by decide +kernel
theorem dX9_felt_33 : decode cX9_felt 33 = .ok (.ireturn, 1) := by decide +kernel
theorem dX9_forget_0 : decode cX9_forget 0 = .ok (.aload_n 0, 1) := by decide +kernel
theorem dX9_forget_1 : decode cX9_forget 1 = .ok (.getfield 12, 3) := by decide +kernel
theorem dX9_forget_4 : decode cX9_forget 4 = .ok (.invokevirtual 203, 3) := by decide +kernel
theorem dX9_forget_7 : decode cX9_forget 7 = .ok (.istore_n 1, 1) := by decide +kernel
theorem dX9_forget_8 : decode cX9_forget 8 = .ok (.aload_n 0, 1) := by decide +kernel
theorem dX9_forget_9 : decode cX9_forget 9 = .ok (.getfield 12, 3) := by decide +kernel
theorem dX9_forget_12 : decode cX9_forget 12 = .ok (.invokevirtual 206, 3) := by decide +kernel
theorem dX9_forget_15 : decode cX9_forget 15 = .ok (.iload_n 1, 1) := by decide +kernel
theorem dX9_forget_16 : decode cX9_forget 16 = .ok (.ireturn, 1) := by decide +kernel
theorem dX9_ups_0 : decode cX9_ups 0 = .ok (.aload_n 0, 1) := by decide +kernel
theorem dX9_ups_1 : decode cX9_ups 1 = .ok (.getfield 54, 3) := by decide +kernel
theorem dX9_ups_4 : decode cX9_ups 4 = .ok (.aload_n 0, 1) := by decide +kernel
theorem dX9_ups_5 : decode cX9_ups 5 = .ok (.getfield 12, 3) := by decide +kernel
theorem dX9_ups_8 : decode cX9_ups 8 = .ok (.invokevirtual 209, 3) := by decide +kernel
theorem dX9_ups_11 : decode cX9_ups 11 = .ok (.iload_n 1, 1) := by decide +kernel
theorem dX9_ups_12 : decode cX9_ups 12 = .ok (.iconst (-1), 1) := by decide +kernel
theorem dX9_ups_13 : decode cX9_ups 13 = .ok (.if_icmp .ne 13, 3) := by decide +kernel
theorem dX9_ups_16 : decode cX9_ups 16 = .ok (.aload_n 0, 1) := by decide +kernel
theorem dX9_ups_17 : decode cX9_ups 17 = .ok (.getfield 54, 3) := by decide +kernel
theorem dX9_ups_20 : decode cX9_ups 20 = .ok (.invokevirtual 212, 3) := by decide +kernel
theorem dX9_ups_23 : decode cX9_ups 23 = .ok (.goto 11, 3) := by decide +kernel
theorem dX9_ups_26 : decode cX9_ups 26 = .ok (.aload_n 0, 1) := by decide +kernel
theorem dX9_ups_27 : decode cX9_ups 27 = .ok (.getfield 54, 3) := by decide +kernel
theorem dX9_ups_30 : decode cX9_ups 30 = .ok (.iload_n 1, 1) := by decide +kernel
theorem dX9_ups_31 : decode cX9_ups 31 = .ok (.invokevirtual 213, 3) := by decide +kernel
theorem dX9_ups_34 : decode cX9_ups 34 = .ok (.ireturn, 1) := by decide +kernel
theorem dX9_ask_0 : decode cX9_ask 0 = .ok (.iload_n 1, 1) := by decide +kernel
theorem dX9_ask_1 : decode cX9_ask 1 = .ok (.iconst 0, 1) := by decide +kernel
theorem dX9_ask_2 : decode cX9_ask 2 = .ok (.iconst 1, 1) := by decide +kernel
theorem dX9_ask_3 : decode cX9_ask 3 = .ok (.invokestatic 94, 3) := by decide +kernel
theorem dX9_ask_6 : decode cX9_ask 6 = .ok (.ifCond .ne 6, 3) := by decide +kernel
theorem dX9_ask_9 : decode cX9_ask 9 = .ok (.bipush (-2), 2) := by decide +kernel
theorem dX9_ask_11 : decode cX9_ask 11 = .ok (.ireturn, 1) := by decide +kernel
theorem dX9_ask_12 : decode cX9_ask 12 = .ok (.aload_n 0, 1) := by decide +kernel
theorem dX9_ask_13 : decode cX9_ask 13 = .ok (.getfield 54, 3) := by decide +kernel
theorem dX9_ask_16 : decode cX9_ask 16 = .ok (.aload_n 0, 1) := by decide +kernel
theorem dX9_ask_17 : decode cX9_ask 17 = .ok (.getfield 12, 3) := by decide +kernel
theorem dX9_ask_20 : decode cX9_ask 20 = .ok (.invokevirtual 209, 3) := by decide +kernel
theorem dX9_ask_23 : decode cX9_ask 23 = .ok (.aload_n 0, 1) := by decide +kernel
theorem dX9_ask_24 : decode cX9_ask 24 = .ok (.getfield 54, 3) := by decide +kernel
theorem dX9_ask_27 : decode cX9_ask 27 = .ok (.invokevirtual 212, 3) := by decide +kernel
theorem dX9_ask_30 : decode cX9_ask 30 = .ok (.ifCond .ne 6, 3) := by decide +kernel
theorem dX9_ask_33 : decode cX9_ask 33 = .ok (.bipush (-6), 2) := by decide +kernel
theorem dX9_ask_35 : decode cX9_ask 35 = .ok (.ireturn, 1) := by decide +kernel
theorem dX9_ask_36 : decode cX9_ask 36 = .ok (.aload_n 0, 1) := by decide +kernel
theorem dX9_ask_37 : decode cX9_ask 37 = .ok (.getfield 54, 3) := by decide +kernel
theorem dX9_ask_40 : decode cX9_ask 40 = .ok (.invokevirtual 216, 3) := by decide +kernel
theorem dX9_ask_43 : decode cX9_ask 43 = .ok (.istore_n 2, 1) := by decide +kernel
theorem dX9_ask_44 : decode cX9_ask 44 = .ok (.iload_n 1, 1) := by decide +kernel
theorem dX9_ask_45 : decode cX9_ask 45 = .ok (.ifCond .ne 7, 3) := by decide +kernel
theorem dX9_ask_48 : decode cX9_ask 48 = .ok (.iload_n 2, 1) := by decide +kernel
theorem dX9_ask_49 : decode cX9_ask 49 = .ok (.goto 11, 3) := by decide +kernel
theorem dX9_ask_52 : decode cX9_ask 52 = .ok (.aload_n 0, 1) := by decide +kernel
theorem dX9_ask_53 : decode cX9_ask 53 = .ok (.getfield 54, 3) := by decide +kernel
theorem dX9_ask_56 : decode cX9_ask 56 = .ok (.iload_n 2, 1) := by decide +kernel
theorem dX9_ask_57 : decode cX9_ask 57 = .ok (.invokevirtual 219, 3) := by decide +kernel
theorem dX9_ask_60 : decode cX9_ask 60 = .ok (.ireturn, 1) := by decide +kernel
theorem dX9_down_0 : decode cX9_down 0 = .ok (.iload_n 1, 1) := by decide +kernel
theorem dX9_down_1 : decode cX9_down 1 = .ok (.iconst 0, 1) := by decide +kernel
theorem dX9_down_2 : decode cX9_down 2 = .ok (.sipush 4095, 3) := by decide +kernel
theorem dX9_down_5 : decode cX9_down 5 = .ok (.invokestatic 94, 3) := by decide +kernel
theorem dX9_down_8 : decode cX9_down 8 = .ok (.ifCond .eq 12, 3) := by decide +kernel
theorem dX9_down_11 : decode cX9_down 11 = .ok (.iload_n 2, 1) := by decide +kernel
theorem dX9_down_12 : decode cX9_down 12 = .ok (.iconst 0, 1) := by decide +kernel
theorem dX9_down_13 : decode cX9_down 13 = .ok (.iconst 1, 1) := by decide +kernel
theorem dX9_down_14 : decode cX9_down 14 = .ok (.invokestatic 94, 3) := by decide +kernel
theorem dX9_down_17 : decode cX9_down 17 = .ok (.ifCond .ne 6, 3) := by decide +kernel
theorem dX9_down_20 : decode cX9_down 20 = .ok (.bipush (-2), 2) := by decide +kernel
theorem dX9_down_22 : decode cX9_down 22 = .ok (.ireturn, 1) := by decide +kernel
theorem dX9_down_23 : decode cX9_down 23 = .ok (.iload_n 2, 1) := by decide +kernel
theorem dX9_down_24 : decode cX9_down 24 = .ok (.ifCond .ne 16, 3) := by decide +kernel
theorem dX9_down_27 : decode cX9_down 27 = .ok (.iload_n 1, 1) := by decide +kernel
theorem dX9_down_28 : decode cX9_down 28 = .ok (.invokestatic 222, 3) := by decide +kernel
theorem dX9_down_31 : decode cX9_down 31 = .ok (.ifCond .eq 7, 3) := by decide +kernel
theorem dX9_down_34 : decode cX9_down 34 = .ok (.iconst 1, 1) := by decide +kernel
theorem dX9_down_35 : decode cX9_down 35 = .ok (.goto 4, 3) := by decide +kernel
theorem dX9_down_38 : decode cX9_down 38 = .ok (.iconst 0, 1) := by decide +kernel
theorem dX9_down_39 : decode cX9_down 39 = .ok (.ireturn, 1) := by decide +kernel
theorem dX9_down_40 : decode cX9_down 40 = .ok (.iload_n 1, 1) := by decide +kernel
theorem dX9_down_41 : decode cX9_down 41 = .ok (.invokestatic 227, 3) := by decide +kernel
theorem dX9_down_44 : decode cX9_down 44 = .ok (.ireturn, 1) := by decide +kernel
theorem dX9_foot_0 : decode cX9_foot 0 = .ok (.iload_n 2, 1) := by decide +kernel
theorem dX9_foot_1 : decode cX9_foot 1 = .ok (.invokestatic 69, 3) := by decide +kernel
theorem dX9_foot_4 : decode cX9_foot 4 = .ok (.ifCond .ne 7, 3) := by decide +kernel
theorem dX9_foot_7 : decode cX9_foot 7 = .ok (.ldc2_w 230, 3) := by decide +kernel
theorem dX9_foot_10 : decode cX9_foot 10 = .ok (.lreturn, 1) := by decide +kernel
theorem dX9_foot_11 : decode cX9_foot 11 = .ok (.iload_n 1, 1) := by decide +kernel
theorem dX9_foot_12 : decode cX9_foot 12 = .ok (.iconst 1, 1) := by decide +kernel
theorem dX9_foot_13 : decode cX9_foot 13 = .ok (.iconst 4, 1) := by decide +kernel
theorem dX9_foot_14 : decode cX9_foot 14 = .ok (.invokestatic 94, 3) := by decide +kernel
theorem dX9_foot_17 : decode cX9_foot 17 = .ok (.ifCond .eq 22, 3) := by decide +kernel
theorem dX9_foot_20 : decode cX9_foot 20 = .ok (.iload_n 3, 1) := by decide +kernel
theorem dX9_foot_21 : decode cX9_foot 21 = .ok (.iconst 0, 1) := by decide +kernel
theorem dX9_foot_22 : decode cX9_foot 22 = .ok (.iconst 1, 1) := by decide +kernel
theorem dX9_foot_23 : decode cX9_foot 23 = .ok (.invokestatic 94, 3) := by decide +kernel
theorem dX9_foot_26 : decode cX9_foot 26 = .ok (.ifCond .eq 13, 3) := by decide +kernel
theorem dX9_foot_29 : decode cX9_foot 29 = .ok (.iload 4, 2) := by decide +kernel
theorem dX9_foot_31 : decode cX9_foot 31 = .ok (.iconst 0, 1) := by decide +kernel
theorem dX9_foot_32 : decode cX9_foot 32 = .ok (.iconst 1, 1) := by decide +kernel
theorem dX9_foot_33 : decode cX9_foot 33 = .ok (.invokestatic 94, 3) := by decide +kernel
theorem dX9_foot_36 : decode cX9_foot 36 = .ok (.ifCond .ne 7, 3) := by decide +kernel
theorem dX9_foot_39 : decode cX9_foot 39 = .ok (.ldc2_w 232, 3) := by decide +kernel
theorem dX9_foot_42 : decode cX9_foot 42 = .ok (.lreturn, 1) := by decide +kernel
theorem dX9_foot_43 : decode cX9_foot 43 = .ok (.iload_n 3, 1) := by decide +kernel
theorem dX9_foot_44 : decode cX9_foot 44 = .ok (.ifCond .ne 15, 3) := by decide +kernel
theorem dX9_foot_47 : decode cX9_foot 47 = .ok (.aload_n 0, 1) := by decide +kernel
theorem dX9_foot_48 : decode cX9_foot 48 = .ok (.getfield 61, 3) := by decide +kernel
theorem dX9_foot_51 : decode cX9_foot 51 = .ok (.iload_n 1, 1) := by decide +kernel
theorem dX9_foot_52 : decode cX9_foot 52 = .ok (.iload_n 2, 1) := by decide +kernel
theorem dX9_foot_53 : decode cX9_foot 53 = .ok (.invokevirtual 234, 3) := by decide +kernel
theorem dX9_foot_56 : decode cX9_foot 56 = .ok (.goto 12, 3) := by decide +kernel
theorem dX9_foot_59 : decode cX9_foot 59 = .ok (.aload_n 0, 1) := by decide +kernel
theorem dX9_foot_60 : decode cX9_foot 60 = .ok (.getfield 61, 3) := by decide +kernel
theorem dX9_foot_63 : decode cX9_foot 63 = .ok (.iload_n 1, 1) := by decide +kernel
theorem dX9_foot_64 : decode cX9_foot 64 = .ok (.iload_n 2, 1) := by decide +kernel
theorem dX9_foot_65 : decode cX9_foot 65 = .ok (.invokevirtual 238, 3) := by decide +kernel
theorem dX9_foot_68 : decode cX9_foot 68 = .ok (.iload 4, 2) := by decide +kernel
theorem dX9_foot_70 : decode cX9_foot 70 = .ok (.ifCond .ne 13, 3) := by decide +kernel
theorem dX9_foot_73 : decode cX9_foot 73 = .ok (.aload_n 0, 1) := by decide +kernel
theorem dX9_foot_74 : decode cX9_foot 74 = .ok (.getfield 61, 3) := by decide +kernel
theorem dX9_foot_77 : decode cX9_foot 77 = .ok (.invokevirtual 241, 3) := by decide +kernel
theorem dX9_foot_80 : decode cX9_foot 80 = .ok (.goto 10, 3) := by decide +kernel
theorem dX9_foot_83 : decode cX9_foot 83 = .ok (.aload_n 0, 1) := by decide +kernel
theorem dX9_foot_84 : decode cX9_foot 84 = .ok (.getfield 61, 3) := by decide +kernel
theorem dX9_foot_87 : decode cX9_foot 87 = .ok (.invokevirtual 245, 3) := by decide +kernel
theorem dX9_foot_90 : decode cX9_foot 90 = .ok (.lreturn, 1) := by decide +kernel
theorem dX9_year_0 : decode cX9_year 0 = .ok (.iload_n 1, 1) := by decide +kernel
theorem dX9_year_1 : decode cX9_year 1 = .ok (.iconst 0, 1) := by decide +kernel
theorem dX9_year_2 : decode cX9_year 2 = .ok (.sipush 9999, 3) := by decide +kernel
theorem dX9_year_5 : decode cX9_year 5 = .ok (.invokestatic 94, 3) := by decide +kernel
theorem dX9_year_8 : decode cX9_year 8 = .ok (.ifCond .eq 22, 3) := by decide +kernel
theorem dX9_year_11 : decode cX9_year 11 = .ok (.iload_n 2, 1) := by decide +kernel
theorem dX9_year_12 : decode cX9_year 12 = .ok (.iconst 1, 1) := by decide +kernel
theorem dX9_year_13 : decode cX9_year 13 = .ok (.bipush 99, 2) := by decide +kernel
theorem dX9_year_15 : decode cX9_year 15 = .ok (.invokestatic 94, 3) := by decide +kernel
theorem dX9_year_18 : decode cX9_year 18 = .ok (.ifCond .eq 12, 3) := by decide +kernel
theorem dX9_year_21 : decode cX9_year 21 = .ok (.iload_n 3, 1) := by decide +kernel
theorem dX9_year_22 : decode cX9_year 22 = .ok (.iconst 0, 1) := by decide +kernel
theorem dX9_year_23 : decode cX9_year 23 = .ok (.iconst 2, 1) := by decide +kernel
theorem dX9_year_24 : decode cX9_year 24 = .ok (.invokestatic 94, 3) := by decide +kernel
theorem dX9_year_27 : decode cX9_year 27 = .ok (.ifCond .ne 6, 3) := by decide +kernel
theorem dX9_year_30 : decode cX9_year 30 = .ok (.bipush (-2), 2) := by decide +kernel
theorem dX9_year_32 : decode cX9_year 32 = .ok (.ireturn, 1) := by decide +kernel
theorem dX9_year_33 : decode cX9_year 33 = .ok (.aload_n 0, 1) := by decide +kernel
theorem dX9_year_34 : decode cX9_year 34 = .ok (.iload_n 1, 1) := by decide +kernel
theorem dX9_year_35 : decode cX9_year 35 = .ok (.iload_n 2, 1) := by decide +kernel
theorem dX9_year_36 : decode cX9_year 36 = .ok (.invokevirtual 248, 3) := by decide +kernel
theorem dX9_year_39 : decode cX9_year 39 = .ok (.iload_n 3, 1) := by decide +kernel
theorem dX9_year_40 : decode cX9_year 40 = .ok (.lookupswitch 51 #[(0, 28), (1, 39)], 28) := by decide +kernel
theorem dX9_year_68 : decode cX9_year 68 = .ok (.aload_n 0, 1) := by decide +kernel
theorem dX9_year_69 : decode cX9_year 69 = .ok (.getfield 33, 3) := by decide +kernel
theorem dX9_year_72 : decode cX9_year 72 = .ok (.invokevirtual 133, 3) := by decide +kernel
theorem dX9_year_75 : decode cX9_year 75 = .ok (.invokevirtual 159, 3) := by decide +kernel
theorem dX9_year_78 : decode cX9_year 78 = .ok (.ireturn, 1) := by decide +kernel
theorem dX9_year_79 : decode cX9_year 79 = .ok (.aload_n 0, 1) := by decide +kernel
theorem dX9_year_80 : decode cX9_year 80 = .ok (.getfield 33, 3) := by decide +kernel
theorem dX9_year_83 : decode cX9_year 83 = .ok (.invokevirtual 133, 3) := by decide +kernel
theorem dX9_year_86 : decode cX9_year 86 = .ok (.iconst 0, 1) := by decide +kernel
theorem dX9_year_87 : decode cX9_year 87 = .ok (.invokevirtual 103, 3) := by decide +kernel
theorem dX9_year_90 : decode cX9_year 90 = .ok (.ireturn, 1) := by decide +kernel
theorem dX9_year_91 : decode cX9_year 91 = .ok (.aload_n 0, 1) := by decide +kernel
theorem dX9_year_92 : decode cX9_year 92 = .ok (.getfield 33, 3) := by decide +kernel
theorem dX9_year_95 : decode cX9_year 95 = .ok (.invokevirtual 162, 3) := by decide +kernel
theorem dX9_year_98 : decode cX9_year 98 = .ok (.ireturn, 1) := by decide +kernel
theorem dX9_image_0 : decode cX9_image 0 = .ok (.iload_n 1, 1) := by decide +kernel
theorem dX9_image_1 : decode cX9_image 1 = .ok (.invokestatic 251, 3) := by decide +kernel
theorem dX9_image_4 : decode cX9_image 4 = .ok (.ifCond .ne 6, 3) := by decide +kernel
theorem dX9_image_7 : decode cX9_image 7 = .ok (.bipush (-2), 2) := by decide +kernel
theorem dX9_image_9 : decode cX9_image 9 = .ok (.ireturn, 1) := by decide +kernel
theorem dX9_image_10 : decode cX9_image 10 = .ok (.aload_n 0, 1) := by decide +kernel
theorem dX9_image_11 : decode cX9_image 11 = .ok (.getfield 65, 3) := by decide +kernel
theorem dX9_image_14 : decode cX9_image 14 = .ok (.iload_n 1, 1) := by decide +kernel
theorem dX9_image_15 : decode cX9_image 15 = .ok (.aaload, 1) := by decide +kernel
theorem dX9_image_16 : decode cX9_image 16 = .ok (.ifnonnull 16, 3) := by decide +kernel
theorem dX9_image_19 : decode cX9_image 19 = .ok (.aload_n 0, 1) := by decide +kernel
theorem dX9_image_20 : decode cX9_image 20 = .ok (.getfield 65, 3) := by decide +kernel
theorem dX9_image_23 : decode cX9_image 23 = .ok (.iload_n 1, 1) := by decide +kernel
theorem dX9_image_24 : decode cX9_image 24 = .ok (.new 9, 3) := by decide +kernel
theorem dX9_image_27 : decode cX9_image 27 = .ok (.dup, 1) := by decide +kernel
theorem dX9_image_28 : decode cX9_image 28 = .ok (.invokespecial 11, 3) := by decide +kernel
theorem dX9_image_31 : decode cX9_image 31 = .ok (.aastore, 1) := by decide +kernel
theorem dX9_image_32 : decode cX9_image 32 = .ok (.aload_n 0, 1) := by decide +kernel
theorem dX9_image_33 : decode cX9_image 33 = .ok (.getfield 65, 3) := by decide +kernel
theorem dX9_image_36 : decode cX9_image 36 = .ok (.iload_n 1, 1) := by decide +kernel
theorem dX9_image_37 : decode cX9_image 37 = .ok (.aaload, 1) := by decide +kernel
theorem dX9_image_38 : decode cX9_image 38 = .ok (.aload_n 0, 1) := by decide +kernel
theorem dX9_image_39 : decode cX9_image 39 = .ok (.getfield 12, 3) := by decide +kernel
theorem dX9_image_42 : decode cX9_image 42 = .ok (.invokevirtual 137, 3) := by decide +kernel
theorem dX9_image_45 : decode cX9_image 45 = .ok (.iconst 1, 1) := by decide +kernel
theorem dX9_image_46 : decode cX9_image 46 = .ok (.ireturn, 1) := by decide +kernel
theorem dX9_restore_0 : decode cX9_restore 0 = .ok (.iload_n 1, 1) := by decide +kernel
theorem dX9_restore_1 : decode cX9_restore 1 = .ok (.invokestatic 251, 3) := by decide +kernel
theorem dX9_restore_4 : decode cX9_restore 4 = .ok (.ifCond .ne 6, 3) := by decide +kernel
theorem dX9_restore_7 : decode cX9_restore 7 = .ok (.bipush (-2), 2) := by decide +kernel
theorem dX9_restore_9 : decode cX9_restore 9 = .ok (.ireturn, 1) := by decide +kernel
theorem dX9_restore_10 : decode cX9_restore 10 = .ok (.aload_n 0, 1) := by decide +kernel
theorem dX9_restore_11 : decode cX9_restore 11 = .ok (.getfield 65, 3) := by decide +kernel
theorem dX9_restore_14 : decode cX9_restore 14 = .ok (.iload_n 1, 1) := by decide +kernel
theorem dX9_restore_15 : decode cX9_restore 15 = .ok (.aaload, 1) := by decide +kernel
theorem dX9_restore_16 : decode cX9_restore 16 = .ok (.ifnonnull 6, 3) := by decide +kernel
theorem dX9_restore_19 : decode cX9_restore 19 = .ok (.bipush (-3), 2) := by decide +kernel
theorem dX9_restore_21 : decode cX9_restore 21 = .ok (.ireturn, 1) := by decide +kernel
theorem dX9_restore_22 : decode cX9_restore 22 = .ok (.aload_n 0, 1) := by decide +kernel
theorem dX9_restore_23 : decode cX9_restore 23 = .ok (.getfield 12, 3) := by decide +kernel
theorem dX9_restore_26 : decode cX9_restore 26 = .ok (.aload_n 0, 1) := by decide +kernel
theorem dX9_restore_27 : decode cX9_restore 27 = .ok (.getfield 65, 3) := by decide +kernel
theorem dX9_restore_30 : decode cX9_restore 30 = .ok (.iload_n 1, 1) := by decide +kernel
theorem dX9_restore_31 : decode cX9_restore 31 = .ok (.aaload, 1) := by decide +kernel
theorem dX9_restore_32 : decode cX9_restore 32 = .ok (.invokevirtual 137, 3) := by decide +kernel
theorem dX9_restore_35 : decode cX9_restore 35 = .ok (.iconst 1, 1) := by decide +kernel
theorem dX9_restore_36 : decode cX9_restore 36 = .ok (.ireturn, 1) := by decide +kernel
theorem dX9_told_0 : decode cX9_told 0 = .ok (.iload_n 1, 1) := by decide +kernel
theorem dX9_told_1 : decode cX9_told 1 = .ok (.tableswitch 87 0 5 #[39, 47, 55, 63, 71, 79], 39) := by decide +kernel
theorem dX9_told_40 : decode cX9_told 40 = .ok (.aload_n 0, 1) := by decide +kernel
theorem dX9_told_41 : decode cX9_told 41 = .ok (.getfield 19, 3) := by decide +kernel
theorem dX9_told_44 : decode cX9_told 44 = .ok (.invokevirtual 113, 3) := by decide +kernel
theorem dX9_told_47 : decode cX9_told 47 = .ok (.ireturn, 1) := by decide +kernel
theorem dX9_told_48 : decode cX9_told 48 = .ok (.aload_n 0, 1) := by decide +kernel
theorem dX9_told_49 : decode cX9_told 49 = .ok (.getfield 12, 3) := by decide +kernel
theorem dX9_told_52 : decode cX9_told 52 = .ok (.invokevirtual 156, 3) := by decide +kernel
theorem dX9_told_55 : decode cX9_told 55 = .ok (.ireturn, 1) := by decide +kernel
theorem dX9_told_56 : decode cX9_told 56 = .ok (.aload_n 0, 1) := by decide +kernel
theorem dX9_told_57 : decode cX9_told 57 = .ok (.getfield 12, 3) := by decide +kernel
theorem dX9_told_60 : decode cX9_told 60 = .ok (.invokevirtual 159, 3) := by decide +kernel
theorem dX9_told_63 : decode cX9_told 63 = .ok (.ireturn, 1) := by decide +kernel
theorem dX9_told_64 : decode cX9_told 64 = .ok (.aload_n 0, 1) := by decide +kernel
theorem dX9_told_65 : decode cX9_told 65 = .ok (.getfield 12, 3) := by decide +kernel
theorem dX9_told_68 : decode cX9_told 68 = .ok (.invokevirtual 254, 3) := by decide +kernel
theorem dX9_told_71 : decode cX9_told 71 = .ok (.ireturn, 1) := by decide +kernel
theorem dX9_told_72 : decode cX9_told 72 = .ok (.aload_n 0, 1) := by decide +kernel
theorem dX9_told_73 : decode cX9_told 73 = .ok (.getfield 12, 3) := by decide +kernel
theorem dX9_told_76 : decode cX9_told 76 = .ok (.invokevirtual 257, 3) := by decide +kernel
theorem dX9_told_79 : decode cX9_told 79 = .ok (.ireturn, 1) := by decide +kernel
theorem dX9_told_80 : decode cX9_told 80 = .ok (.aload_n 0, 1) := by decide +kernel
theorem dX9_told_81 : decode cX9_told 81 = .ok (.getfield 12, 3) := by decide +kernel
theorem dX9_told_84 : decode cX9_told 84 = .ok (.invokevirtual 203, 3) := by decide +kernel
theorem dX9_told_87 : decode cX9_told 87 = .ok (.ireturn, 1) := by decide +kernel
theorem dX9_told_88 : decode cX9_told 88 = .ok (.iload_n 1, 1) := by decide +kernel
theorem dX9_told_89 : decode cX9_told 89 = .ok (.bipush 10, 2) := by decide +kernel
theorem dX9_told_91 : decode cX9_told 91 = .ok (.bipush 39, 2) := by decide +kernel
theorem dX9_told_93 : decode cX9_told 93 = .ok (.invokestatic 94, 3) := by decide +kernel
theorem dX9_told_96 : decode cX9_told 96 = .ok (.ifCond .eq 18, 3) := by decide +kernel
theorem dX9_told_99 : decode cX9_told 99 = .ok (.aload_n 0, 1) := by decide +kernel
theorem dX9_told_100 : decode cX9_told 100 = .ok (.iload_n 1, 1) := by decide +kernel
theorem dX9_told_101 : decode cX9_told 101 = .ok (.bipush 10, 2) := by decide +kernel
theorem dX9_told_103 : decode cX9_told 103 = .ok (.idiv, 1) := by decide +kernel
theorem dX9_told_104 : decode cX9_told 104 = .ok (.iload_n 1, 1) := by decide +kernel
theorem dX9_told_105 : decode cX9_told 105 = .ok (.bipush 10, 2) := by decide +kernel
theorem dX9_told_107 : decode cX9_told 107 = .ok (.irem, 1) := by decide +kernel
theorem dX9_told_108 : decode cX9_told 108 = .ok (.invokevirtual 260, 3) := by decide +kernel
theorem dX9_told_111 : decode cX9_told 111 = .ok (.goto 8, 3) := by decide +kernel
theorem dX9_told_114 : decode cX9_told 114 = .ok (.aload_n 0, 1) := by decide +kernel
theorem dX9_told_115 : decode cX9_told 115 = .ok (.iload_n 1, 1) := by decide +kernel
theorem dX9_told_116 : decode cX9_told 116 = .ok (.invokevirtual 264, 3) := by decide +kernel
theorem dX9_told_119 : decode cX9_told 119 = .ok (.ireturn, 1) := by decide +kernel
theorem dX9_toldOfMan_0 : decode cX9_toldOfMan 0 = .ok (.iload_n 2, 1) := by decide +kernel
theorem dX9_toldOfMan_1 : decode cX9_toldOfMan 1 = .ok (.invokestatic 91, 3) := by decide +kernel
theorem dX9_toldOfMan_4 : decode cX9_toldOfMan 4 = .ok (.ifCond .ne 6, 3) := by decide +kernel
theorem dX9_toldOfMan_7 : decode cX9_toldOfMan 7 = .ok (.bipush (-2), 2) := by decide +kernel
theorem dX9_toldOfMan_9 : decode cX9_toldOfMan 9 = .ok (.ireturn, 1) := by decide +kernel
theorem dX9_toldOfMan_10 : decode cX9_toldOfMan 10 = .ok (.iload_n 1, 1) := by decide +kernel
theorem dX9_toldOfMan_11 : decode cX9_toldOfMan 11 = .ok (.lookupswitch 43 #[(1, 25), (2, 34)], 25) := by decide +kernel
theorem dX9_toldOfMan_36 : decode cX9_toldOfMan 36 = .ok (.aload_n 0, 1) := by decide +kernel
theorem dX9_toldOfMan_37 : decode cX9_toldOfMan 37 = .ok (.getfield 12, 3) := by decide +kernel
theorem dX9_toldOfMan_40 : decode cX9_toldOfMan 40 = .ok (.iload_n 2, 1) := by decide +kernel
theorem dX9_toldOfMan_41 : decode cX9_toldOfMan 41 = .ok (.invokevirtual 100, 3) := by decide +kernel
theorem dX9_toldOfMan_44 : decode cX9_toldOfMan 44 = .ok (.ireturn, 1) := by decide +kernel
theorem dX9_toldOfMan_45 : decode cX9_toldOfMan 45 = .ok (.aload_n 0, 1) := by decide +kernel
theorem dX9_toldOfMan_46 : decode cX9_toldOfMan 46 = .ok (.getfield 12, 3) := by decide +kernel
theorem dX9_toldOfMan_49 : decode cX9_toldOfMan 49 = .ok (.iload_n 2, 1) := by decide +kernel
theorem dX9_toldOfMan_50 : decode cX9_toldOfMan 50 = .ok (.invokevirtual 103, 3) := by decide +kernel
theorem dX9_toldOfMan_53 : decode cX9_toldOfMan 53 = .ok (.ireturn, 1) := by decide +kernel
theorem dX9_toldOfMan_54 : decode cX9_toldOfMan 54 = .ok (.aload_n 0, 1) := by decide +kernel
theorem dX9_toldOfMan_55 : decode cX9_toldOfMan 55 = .ok (.getfield 12, 3) := by decide +kernel
theorem dX9_toldOfMan_58 : decode cX9_toldOfMan 58 = .ok (.iload_n 2, 1) := by decide +kernel
theorem dX9_toldOfMan_59 : decode cX9_toldOfMan 59 = .ok (.invokevirtual 267, 3) := by decide +kernel
theorem dX9_toldOfMan_62 : decode cX9_toldOfMan 62 = .ok (.ireturn, 1) := by decide +kernel
theorem dX9_toldOfRung_0 : decode cX9_toldOfRung 0 = .ok (.iload_n 1, 1) := by decide +kernel
theorem dX9_toldOfRung_1 : decode cX9_toldOfRung 1 = .ok (.bipush 41, 2) := by decide +kernel
theorem dX9_toldOfRung_3 : decode cX9_toldOfRung 3 = .ok (.bipush 52, 2) := by decide +kernel
theorem dX9_toldOfRung_5 : decode cX9_toldOfRung 5 = .ok (.invokestatic 94, 3) := by decide +kernel
theorem dX9_toldOfRung_8 : decode cX9_toldOfRung 8 = .ok (.ifCond .eq 18, 3) := by decide +kernel
theorem dX9_toldOfRung_11 : decode cX9_toldOfRung 11 = .ok (.aload_n 0, 1) := by decide +kernel
theorem dX9_toldOfRung_12 : decode cX9_toldOfRung 12 = .ok (.getfield 12, 3) := by decide +kernel
theorem dX9_toldOfRung_15 : decode cX9_toldOfRung 15 = .ok (.iload_n 1, 1) := by decide +kernel
theorem dX9_toldOfRung_16 : decode cX9_toldOfRung 16 = .ok (.bipush 40, 2) := by decide +kernel
theorem dX9_toldOfRung_18 : decode cX9_toldOfRung 18 = .ok (.isub, 1) := by decide +kernel
theorem dX9_toldOfRung_19 : decode cX9_toldOfRung 19 = .ok (.invokevirtual 80, 3) := by decide +kernel
theorem dX9_toldOfRung_22 : decode cX9_toldOfRung 22 = .ok (.invokestatic 88, 3) := by decide +kernel
theorem dX9_toldOfRung_25 : decode cX9_toldOfRung 25 = .ok (.ireturn, 1) := by decide +kernel
theorem dX9_toldOfRung_26 : decode cX9_toldOfRung 26 = .ok (.iload_n 1, 1) := by decide +kernel
theorem dX9_toldOfRung_27 : decode cX9_toldOfRung 27 = .ok (.bipush 61, 2) := by decide +kernel
theorem dX9_toldOfRung_29 : decode cX9_toldOfRung 29 = .ok (.bipush 72, 2) := by decide +kernel
theorem dX9_toldOfRung_31 : decode cX9_toldOfRung 31 = .ok (.invokestatic 94, 3) := by decide +kernel
theorem dX9_toldOfRung_34 : decode cX9_toldOfRung 34 = .ok (.ifCond .eq 18, 3) := by decide +kernel
theorem dX9_toldOfRung_37 : decode cX9_toldOfRung 37 = .ok (.aload_n 0, 1) := by decide +kernel
theorem dX9_toldOfRung_38 : decode cX9_toldOfRung 38 = .ok (.getfield 12, 3) := by decide +kernel
theorem dX9_toldOfRung_41 : decode cX9_toldOfRung 41 = .ok (.iload_n 1, 1) := by decide +kernel
theorem dX9_toldOfRung_42 : decode cX9_toldOfRung 42 = .ok (.bipush 60, 2) := by decide +kernel
theorem dX9_toldOfRung_44 : decode cX9_toldOfRung 44 = .ok (.isub, 1) := by decide +kernel
theorem dX9_toldOfRung_45 : decode cX9_toldOfRung 45 = .ok (.invokevirtual 147, 3) := by decide +kernel
theorem dX9_toldOfRung_48 : decode cX9_toldOfRung 48 = .ok (.invokestatic 88, 3) := by decide +kernel
theorem dX9_toldOfRung_51 : decode cX9_toldOfRung 51 = .ok (.ireturn, 1) := by decide +kernel
theorem dX9_toldOfRung_52 : decode cX9_toldOfRung 52 = .ok (.bipush (-2), 2) := by decide +kernel
theorem dX9_toldOfRung_54 : decode cX9_toldOfRung 54 = .ok (.ireturn, 1) := by decide +kernel
theorem dX9_passYear_0 : decode cX9_passYear 0 = .ok (.aload_n 0, 1) := by decide +kernel
theorem dX9_passYear_1 : decode cX9_passYear 1 = .ok (.getfield 33, 3) := by decide +kernel
theorem dX9_passYear_4 : decode cX9_passYear 4 = .ok (.aload_n 0, 1) := by decide +kernel
theorem dX9_passYear_5 : decode cX9_passYear 5 = .ok (.getfield 12, 3) := by decide +kernel
theorem dX9_passYear_8 : decode cX9_passYear 8 = .ok (.invokevirtual 270, 3) := by decide +kernel
theorem dX9_passYear_11 : decode cX9_passYear 11 = .ok (.iload_n 1, 1) := by decide +kernel
theorem dX9_passYear_12 : decode cX9_passYear 12 = .ok (.istore_n 3, 1) := by decide +kernel
theorem dX9_passYear_13 : decode cX9_passYear 13 = .ok (.iconst 0, 1) := by decide +kernel
theorem dX9_passYear_14 : decode cX9_passYear 14 = .ok (.istore 4, 2) := by decide +kernel
theorem dX9_passYear_16 : decode cX9_passYear 16 = .ok (.iload 4, 2) := by decide +kernel
theorem dX9_passYear_18 : decode cX9_passYear 18 = .ok (.iload_n 2, 1) := by decide +kernel
theorem dX9_passYear_19 : decode cX9_passYear 19 = .ok (.if_icmp .ge 48, 3) := by decide +kernel
theorem dX9_passYear_22 : decode cX9_passYear 22 = .ok (.bipush 75, 2) := by decide +kernel
theorem dX9_passYear_24 : decode cX9_passYear 24 = .ok (.iload_n 3, 1) := by decide +kernel
theorem dX9_passYear_25 : decode cX9_passYear 25 = .ok (.imul, 1) := by decide +kernel
theorem dX9_passYear_26 : decode cX9_passYear 26 = .ok (.bipush 74, 2) := by decide +kernel
theorem dX9_passYear_28 : decode cX9_passYear 28 = .ok (.iadd, 1) := by decide +kernel
theorem dX9_passYear_29 : decode cX9_passYear 29 = .ok (.ldc_w 273, 3) := by decide +kernel
theorem dX9_passYear_32 : decode cX9_passYear 32 = .ok (.irem, 1) := by decide +kernel
theorem dX9_passYear_33 : decode cX9_passYear 33 = .ok (.istore_n 3, 1) := by decide +kernel
theorem dX9_passYear_34 : decode cX9_passYear 34 = .ok (.aload_n 0, 1) := by decide +kernel
theorem dX9_passYear_35 : decode cX9_passYear 35 = .ok (.getfield 26, 3) := by decide +kernel
theorem dX9_passYear_38 : decode cX9_passYear 38 = .ok (.iload_n 3, 1) := by decide +kernel
theorem dX9_passYear_39 : decode cX9_passYear 39 = .ok (.aload_n 0, 1) := by decide +kernel
theorem dX9_passYear_40 : decode cX9_passYear 40 = .ok (.getfield 33, 3) := by decide +kernel
theorem dX9_passYear_43 : decode cX9_passYear 43 = .ok (.invokevirtual 133, 3) := by decide +kernel
theorem dX9_passYear_46 : decode cX9_passYear 46 = .ok (.invokevirtual 274, 3) := by decide +kernel
theorem dX9_passYear_49 : decode cX9_passYear 49 = .ok (.aload_n 0, 1) := by decide +kernel
theorem dX9_passYear_50 : decode cX9_passYear 50 = .ok (.getfield 33, 3) := by decide +kernel
theorem dX9_passYear_53 : decode cX9_passYear 53 = .ok (.aload_n 0, 1) := by decide +kernel
theorem dX9_passYear_54 : decode cX9_passYear 54 = .ok (.getfield 26, 3) := by decide +kernel
theorem dX9_passYear_57 : decode cX9_passYear 57 = .ok (.invokevirtual 278, 3) := by decide +kernel
theorem dX9_passYear_60 : decode cX9_passYear 60 = .ok (.pop, 1) := by decide +kernel
theorem dX9_passYear_61 : decode cX9_passYear 61 = .ok (.iinc 4 1, 3) := by decide +kernel
theorem dX9_passYear_64 : decode cX9_passYear 64 = .ok (.goto (-48), 3) := by decide +kernel
theorem dX9_passYear_67 : decode cX9_passYear 67 = .ok (.return_, 1) := by decide +kernel
theorem dX9_within_0 : decode cX9_within 0 = .ok (.iload_n 0, 1) := by decide +kernel
theorem dX9_within_1 : decode cX9_within 1 = .ok (.iload_n 1, 1) := by decide +kernel
theorem dX9_within_2 : decode cX9_within 2 = .ok (.if_icmp .lt 12, 3) := by decide +kernel
theorem dX9_within_5 : decode cX9_within 5 = .ok (.iload_n 0, 1) := by decide +kernel
theorem dX9_within_6 : decode cX9_within 6 = .ok (.iload_n 2, 1) := by decide +kernel
theorem dX9_within_7 : decode cX9_within 7 = .ok (.if_icmp .gt 7, 3) := by decide +kernel
theorem dX9_within_10 : decode cX9_within 10 = .ok (.iconst 1, 1) := by decide +kernel
theorem dX9_within_11 : decode cX9_within 11 = .ok (.goto 4, 3) := by decide +kernel
theorem dX9_within_14 : decode cX9_within 14 = .ok (.iconst 0, 1) := by decide +kernel
theorem dX9_within_15 : decode cX9_within 15 = .ok (.ireturn, 1) := by decide +kernel
theorem dX9_isRung_0 : decode cX9_isRung 0 = .ok (.iload_n 0, 1) := by decide +kernel
theorem dX9_isRung_1 : decode cX9_isRung 1 = .ok (.iconst 1, 1) := by decide +kernel
theorem dX9_isRung_2 : decode cX9_isRung 2 = .ok (.if_icmp .lt 13, 3) := by decide +kernel
theorem dX9_isRung_5 : decode cX9_isRung 5 = .ok (.iload_n 0, 1) := by decide +kernel
theorem dX9_isRung_6 : decode cX9_isRung 6 = .ok (.bipush 12, 2) := by decide +kernel
theorem dX9_isRung_8 : decode cX9_isRung 8 = .ok (.if_icmp .gt 7, 3) := by decide +kernel
theorem dX9_isRung_11 : decode cX9_isRung 11 = .ok (.iconst 1, 1) := by decide +kernel
theorem dX9_isRung_12 : decode cX9_isRung 12 = .ok (.goto 4, 3) := by decide +kernel
theorem dX9_isRung_15 : decode cX9_isRung 15 = .ok (.iconst 0, 1) := by decide +kernel
theorem dX9_isRung_16 : decode cX9_isRung 16 = .ok (.ireturn, 1) := by decide +kernel
theorem dX9_isPlace_0 : decode cX9_isPlace 0 = .ok (.iload_n 0, 1) := by decide +kernel
theorem dX9_isPlace_1 : decode cX9_isPlace 1 = .ok (.ifCond .lt 13, 3) := by decide +kernel
theorem dX9_isPlace_4 : decode cX9_isPlace 4 = .ok (.iload_n 0, 1) := by decide +kernel
theorem dX9_isPlace_5 : decode cX9_isPlace 5 = .ok (.bipush 13, 2) := by decide +kernel
theorem dX9_isPlace_7 : decode cX9_isPlace 7 = .ok (.if_icmp .gt 7, 3) := by decide +kernel
theorem dX9_isPlace_10 : decode cX9_isPlace 10 = .ok (.iconst 1, 1) := by decide +kernel
theorem dX9_isPlace_11 : decode cX9_isPlace 11 = .ok (.goto 4, 3) := by decide +kernel
theorem dX9_isPlace_14 : decode cX9_isPlace 14 = .ok (.iconst 0, 1) := by decide +kernel
theorem dX9_isPlace_15 : decode cX9_isPlace 15 = .ok (.ireturn, 1) := by decide +kernel
theorem dX9_isMan_0 : decode cX9_isMan 0 = .ok (.iload_n 0, 1) := by decide +kernel
theorem dX9_isMan_1 : decode cX9_isMan 1 = .ok (.ifCond .lt 13, 3) := by decide +kernel
theorem dX9_isMan_4 : decode cX9_isMan 4 = .ok (.iload_n 0, 1) := by decide +kernel
theorem dX9_isMan_5 : decode cX9_isMan 5 = .ok (.bipush 6, 2) := by decide +kernel
theorem dX9_isMan_7 : decode cX9_isMan 7 = .ok (.if_icmp .ge 7, 3) := by decide +kernel
theorem dX9_isMan_10 : decode cX9_isMan 10 = .ok (.iconst 1, 1) := by decide +kernel
theorem dX9_isMan_11 : decode cX9_isMan 11 = .ok (.goto 4, 3) := by decide +kernel
theorem dX9_isMan_14 : decode cX9_isMan 14 = .ok (.iconst 0, 1) := by decide +kernel
theorem dX9_isMan_15 : decode cX9_isMan 15 = .ok (.ireturn, 1) := by decide +kernel
theorem dX9_isManOrNobody_0 : decode cX9_isManOrNobody 0 = .ok (.iload_n 0, 1) := by decide +kernel
theorem dX9_isManOrNobody_1 : decode cX9_isManOrNobody 1 = .ok (.iconst (-1), 1) := by decide +kernel
theorem dX9_isManOrNobody_2 : decode cX9_isManOrNobody 2 = .ok (.if_icmp .eq 10, 3) := by decide +kernel
theorem dX9_isManOrNobody_5 : decode cX9_isManOrNobody 5 = .ok (.iload_n 0, 1) := by decide +kernel
theorem dX9_isManOrNobody_6 : decode cX9_isManOrNobody 6 = .ok (.invokestatic 91, 3) := by decide +kernel
theorem dX9_isManOrNobody_9 : decode cX9_isManOrNobody 9 = .ok (.ifCond .eq 7, 3) := by decide +kernel
theorem dX9_isManOrNobody_12 : decode cX9_isManOrNobody 12 = .ok (.iconst 1, 1) := by decide +kernel
theorem dX9_isManOrNobody_13 : decode cX9_isManOrNobody 13 = .ok (.goto 4, 3) := by decide +kernel
theorem dX9_isManOrNobody_16 : decode cX9_isManOrNobody 16 = .ok (.iconst 0, 1) := by decide +kernel
theorem dX9_isManOrNobody_17 : decode cX9_isManOrNobody 17 = .ok (.ireturn, 1) := by decide +kernel
theorem dX9_isImage_0 : decode cX9_isImage 0 = .ok (.iload_n 0, 1) := by decide +kernel
theorem dX9_isImage_1 : decode cX9_isImage 1 = .ok (.ifCond .lt 12, 3) := by decide +kernel
theorem dX9_isImage_4 : decode cX9_isImage 4 = .ok (.iload_n 0, 1) := by decide +kernel
theorem dX9_isImage_5 : decode cX9_isImage 5 = .ok (.iconst 2, 1) := by decide +kernel
theorem dX9_isImage_6 : decode cX9_isImage 6 = .ok (.if_icmp .ge 7, 3) := by decide +kernel
theorem dX9_isImage_9 : decode cX9_isImage 9 = .ok (.iconst 1, 1) := by decide +kernel
theorem dX9_isImage_10 : decode cX9_isImage 10 = .ok (.goto 4, 3) := by decide +kernel
theorem dX9_isImage_13 : decode cX9_isImage 13 = .ok (.iconst 0, 1) := by decide +kernel
theorem dX9_isImage_14 : decode cX9_isImage 14 = .ok (.ireturn, 1) := by decide +kernel
theorem dX9_orNone_0 : decode cX9_orNone 0 = .ok (.iload_n 0, 1) := by decide +kernel
theorem dX9_orNone_1 : decode cX9_orNone 1 = .ok (.iconst (-1), 1) := by decide +kernel
theorem dX9_orNone_2 : decode cX9_orNone 2 = .ok (.if_icmp .ne 8, 3) := by decide +kernel
theorem dX9_orNone_5 : decode cX9_orNone 5 = .ok (.bipush (-6), 2) := by decide +kernel
theorem dX9_orNone_7 : decode cX9_orNone 7 = .ok (.goto 4, 3) := by decide +kernel
theorem dX9_orNone_10 : decode cX9_orNone 10 = .ok (.iload_n 0, 1) := by decide +kernel
theorem dX9_orNone_11 : decode cX9_orNone 11 = .ok (.ireturn, 1) := by decide +kernel
theorem dX9_bitOf_0 : decode cX9_bitOf 0 = .ok (.iload_n 0, 1) := by decide +kernel
theorem dX9_bitOf_1 : decode cX9_bitOf 1 = .ok (.iconst 1, 1) := by decide +kernel
theorem dX9_bitOf_2 : decode cX9_bitOf 2 = .ok (.if_icmp .lt 17, 3) := by decide +kernel
theorem dX9_bitOf_5 : decode cX9_bitOf 5 = .ok (.iload_n 0, 1) := by decide +kernel
theorem dX9_bitOf_6 : decode cX9_bitOf 6 = .ok (.bipush 12, 2) := by decide +kernel
theorem dX9_bitOf_8 : decode cX9_bitOf 8 = .ok (.if_icmp .gt 11, 3) := by decide +kernel
theorem dX9_bitOf_11 : decode cX9_bitOf 11 = .ok (.iconst 1, 1) := by decide +kernel
theorem dX9_bitOf_12 : decode cX9_bitOf 12 = .ok (.iload_n 0, 1) := by decide +kernel
theorem dX9_bitOf_13 : decode cX9_bitOf 13 = .ok (.iconst 1, 1) := by decide +kernel
theorem dX9_bitOf_14 : decode cX9_bitOf 14 = .ok (.isub, 1) := by decide +kernel
theorem dX9_bitOf_15 : decode cX9_bitOf 15 = .ok (.ishl, 1) := by decide +kernel
theorem dX9_bitOf_16 : decode cX9_bitOf 16 = .ok (.goto 4, 3) := by decide +kernel
theorem dX9_bitOf_19 : decode cX9_bitOf 19 = .ok (.iconst 0, 1) := by decide +kernel
theorem dX9_bitOf_20 : decode cX9_bitOf 20 = .ok (.ireturn, 1) := by decide +kernel
theorem dX9_rightsFit_0 : decode cX9_rightsFit 0 = .ok (.iload_n 2, 1) := by decide +kernel
theorem dX9_rightsFit_1 : decode cX9_rightsFit 1 = .ok (.iconst 0, 1) := by decide +kernel
theorem dX9_rightsFit_2 : decode cX9_rightsFit 2 = .ok (.iconst 1, 1) := by decide +kernel
theorem dX9_rightsFit_3 : decode cX9_rightsFit 3 = .ok (.invokestatic 94, 3) := by decide +kernel
theorem dX9_rightsFit_6 : decode cX9_rightsFit 6 = .ok (.ifCond .ne 5, 3) := by decide +kernel
theorem dX9_rightsFit_9 : decode cX9_rightsFit 9 = .ok (.iconst 0, 1) := by decide +kernel
theorem dX9_rightsFit_10 : decode cX9_rightsFit 10 = .ok (.ireturn, 1) := by decide +kernel
theorem dX9_rightsFit_11 : decode cX9_rightsFit 11 = .ok (.iload_n 2, 1) := by decide +kernel
theorem dX9_rightsFit_12 : decode cX9_rightsFit 12 = .ok (.iconst 1, 1) := by decide +kernel
theorem dX9_rightsFit_13 : decode cX9_rightsFit 13 = .ok (.if_icmp .ne 19, 3) := by decide +kernel
theorem dX9_rightsFit_16 : decode cX9_rightsFit 16 = .ok (.iload_n 0, 1) := by decide +kernel
theorem dX9_rightsFit_17 : decode cX9_rightsFit 17 = .ok (.iconst (-1), 1) := by decide +kernel
theorem dX9_rightsFit_18 : decode cX9_rightsFit 18 = .ok (.if_icmp .ne 12, 3) := by decide +kernel
theorem dX9_rightsFit_21 : decode cX9_rightsFit 21 = .ok (.iload_n 1, 1) := by decide +kernel
theorem dX9_rightsFit_22 : decode cX9_rightsFit 22 = .ok (.iconst (-1), 1) := by decide +kernel
theorem dX9_rightsFit_23 : decode cX9_rightsFit 23 = .ok (.if_icmp .ne 7, 3) := by decide +kernel
theorem dX9_rightsFit_26 : decode cX9_rightsFit 26 = .ok (.iconst 1, 1) := by decide +kernel
theorem dX9_rightsFit_27 : decode cX9_rightsFit 27 = .ok (.goto 4, 3) := by decide +kernel
theorem dX9_rightsFit_30 : decode cX9_rightsFit 30 = .ok (.iconst 0, 1) := by decide +kernel
theorem dX9_rightsFit_31 : decode cX9_rightsFit 31 = .ok (.ireturn, 1) := by decide +kernel
theorem dX9_rightsFit_32 : decode cX9_rightsFit 32 = .ok (.iload_n 1, 1) := by decide +kernel
theorem dX9_rightsFit_33 : decode cX9_rightsFit 33 = .ok (.iconst (-1), 1) := by decide +kernel
theorem dX9_rightsFit_34 : decode cX9_rightsFit 34 = .ok (.if_icmp .eq 13, 3) := by decide +kernel
theorem dX9_rightsFit_37 : decode cX9_rightsFit 37 = .ok (.iload_n 0, 1) := by decide +kernel
theorem dX9_rightsFit_38 : decode cX9_rightsFit 38 = .ok (.iconst (-1), 1) := by decide +kernel
theorem dX9_rightsFit_39 : decode cX9_rightsFit 39 = .ok (.if_icmp .eq 12, 3) := by decide +kernel
theorem dX9_rightsFit_42 : decode cX9_rightsFit 42 = .ok (.iload_n 0, 1) := by decide +kernel
theorem dX9_rightsFit_43 : decode cX9_rightsFit 43 = .ok (.iload_n 1, 1) := by decide +kernel
theorem dX9_rightsFit_44 : decode cX9_rightsFit 44 = .ok (.if_icmp .eq 7, 3) := by decide +kernel
theorem dX9_rightsFit_47 : decode cX9_rightsFit 47 = .ok (.iconst 1, 1) := by decide +kernel
theorem dX9_rightsFit_48 : decode cX9_rightsFit 48 = .ok (.goto 4, 3) := by decide +kernel
theorem dX9_rightsFit_51 : decode cX9_rightsFit 51 = .ok (.iconst 0, 1) := by decide +kernel
theorem dX9_rightsFit_52 : decode cX9_rightsFit 52 = .ok (.ireturn, 1) := by decide +kernel
theorem dX10_init_0 : decode cX10_init 0 = .ok (.aload_n 0, 1) := by decide +kernel
theorem dX10_init_1 : decode cX10_init 1 = .ok (.invokespecial 1, 3) := by decide +kernel
theorem dX10_init_4 : decode cX10_init 4 = .ok (.aload_n 0, 1) := by decide +kernel
theorem dX10_init_5 : decode cX10_init 5 = .ok (.bipush 47, 2) := by decide +kernel
theorem dX10_init_7 : decode cX10_init 7 = .ok (.newarray .int, 2) := by decide +kernel
theorem dX10_init_9 : decode cX10_init 9 = .ok (.putfield 7, 3) := by decide +kernel
theorem dX10_init_12 : decode cX10_init 12 = .ok (.aload_n 0, 1) := by decide +kernel
theorem dX10_init_13 : decode cX10_init 13 = .ok (.bipush 47, 2) := by decide +kernel
theorem dX10_init_15 : decode cX10_init 15 = .ok (.newarray .int, 2) := by decide +kernel
theorem dX10_init_17 : decode cX10_init 17 = .ok (.putfield 13, 3) := by decide +kernel
theorem dX10_init_20 : decode cX10_init 20 = .ok (.aload_n 0, 1) := by decide +kernel
theorem dX10_init_21 : decode cX10_init 21 = .ok (.bipush 16, 2) := by decide +kernel
theorem dX10_init_23 : decode cX10_init 23 = .ok (.newarray .int, 2) := by decide +kernel
theorem dX10_init_25 : decode cX10_init 25 = .ok (.putfield 16, 3) := by decide +kernel
theorem dX10_init_28 : decode cX10_init 28 = .ok (.aload_n 0, 1) := by decide +kernel
theorem dX10_init_29 : decode cX10_init 29 = .ok (.bipush 60, 2) := by decide +kernel
theorem dX10_init_31 : decode cX10_init 31 = .ok (.newarray .int, 2) := by decide +kernel
theorem dX10_init_33 : decode cX10_init 33 = .ok (.putfield 19, 3) := by decide +kernel
theorem dX10_init_36 : decode cX10_init 36 = .ok (.aload_n 0, 1) := by decide +kernel
theorem dX10_init_37 : decode cX10_init 37 = .ok (.bipush 14, 2) := by decide +kernel
theorem dX10_init_39 : decode cX10_init 39 = .ok (.newarray .int, 2) := by decide +kernel
theorem dX10_init_41 : decode cX10_init 41 = .ok (.putfield 22, 3) := by decide +kernel
theorem dX10_init_44 : decode cX10_init 44 = .ok (.aload_n 0, 1) := by decide +kernel
theorem dX10_init_45 : decode cX10_init 45 = .ok (.bipush 14, 2) := by decide +kernel
theorem dX10_init_47 : decode cX10_init 47 = .ok (.newarray .int, 2) := by decide +kernel
theorem dX10_init_49 : decode cX10_init 49 = .ok (.putfield 25, 3) := by decide +kernel
theorem dX10_init_52 : decode cX10_init 52 = .ok (.aload_n 0, 1) := by decide +kernel
theorem dX10_init_53 : decode cX10_init 53 = .ok (.bipush 64, 2) := by decide +kernel
theorem dX10_init_55 : decode cX10_init 55 = .ok (.newarray .boolean, 2) := by decide +kernel
theorem dX10_init_57 : decode cX10_init 57 = .ok (.putfield 28, 3) := by decide +kernel
theorem dX10_init_60 : decode cX10_init 60 = .ok (.aload_n 0, 1) := by decide +kernel
theorem dX10_init_61 : decode cX10_init 61 = .ok (.sipush 4096, 3) := by decide +kernel
theorem dX10_init_64 : decode cX10_init 64 = .ok (.newarray .boolean, 2) := by decide +kernel
theorem dX10_init_66 : decode cX10_init 66 = .ok (.putfield 32, 3) := by decide +kernel
theorem dX10_init_69 : decode cX10_init 69 = .ok (.aload_n 0, 1) := by decide +kernel
theorem dX10_init_70 : decode cX10_init 70 = .ok (.bipush 13, 2) := by decide +kernel
theorem dX10_init_72 : decode cX10_init 72 = .ok (.newarray .long, 2) := by decide +kernel
theorem dX10_init_74 : decode cX10_init 74 = .ok (.putfield 35, 3) := by decide +kernel
theorem dX10_init_77 : decode cX10_init 77 = .ok (.aload_n 0, 1) := by decide +kernel
theorem dX10_init_78 : decode cX10_init 78 = .ok (.bipush 13, 2) := by decide +kernel
theorem dX10_init_80 : decode cX10_init 80 = .ok (.newarray .long, 2) := by decide +kernel
theorem dX10_init_82 : decode cX10_init 82 = .ok (.putfield 39, 3) := by decide +kernel
theorem dX10_init_85 : decode cX10_init 85 = .ok (.aload_n 0, 1) := by decide +kernel
theorem dX10_init_86 : decode cX10_init 86 = .ok (.sipush 140, 3) := by decide +kernel
theorem dX10_init_89 : decode cX10_init 89 = .ok (.newarray .int, 2) := by decide +kernel
theorem dX10_init_91 : decode cX10_init 91 = .ok (.putfield 42, 3) := by decide +kernel
theorem dX10_init_94 : decode cX10_init 94 = .ok (.aload_n 0, 1) := by decide +kernel
theorem dX10_init_95 : decode cX10_init 95 = .ok (.iconst 2, 1) := by decide +kernel
theorem dX10_init_96 : decode cX10_init 96 = .ok (.newarray .boolean, 2) := by decide +kernel
theorem dX10_init_98 : decode cX10_init 98 = .ok (.putfield 45, 3) := by decide +kernel
theorem dX10_init_101 : decode cX10_init 101 = .ok (.iconst 0, 1) := by decide +kernel
theorem dX10_init_102 : decode cX10_init 102 = .ok (.istore_n 1, 1) := by decide +kernel
theorem dX10_init_103 : decode cX10_init 103 = .ok (.iload_n 1, 1) := by decide +kernel
theorem dX10_init_104 : decode cX10_init 104 = .ok (.bipush 13, 2) := by decide +kernel
theorem dX10_init_106 : decode cX10_init 106 = .ok (.if_icmp .ge 28, 3) := by decide +kernel
theorem dX10_init_109 : decode cX10_init 109 = .ok (.aload_n 0, 1) := by decide +kernel
theorem dX10_init_110 : decode cX10_init 110 = .ok (.getfield 7, 3) := by decide +kernel
theorem dX10_init_113 : decode cX10_init 113 = .ok (.iload_n 1, 1) := by decide +kernel
theorem dX10_init_114 : decode cX10_init 114 = .ok (.bipush (-6), 2) := by decide +kernel
theorem dX10_init_116 : decode cX10_init 116 = .ok (.iastore, 1) := by decide +kernel
theorem dX10_init_117 : decode cX10_init 117 = .ok (.aload_n 0, 1) := by decide +kernel
theorem dX10_init_118 : decode cX10_init 118 = .ok (.getfield 7, 3) := by decide +kernel
theorem dX10_init_121 : decode cX10_init 121 = .ok (.bipush 13, 2) := by decide +kernel
theorem dX10_init_123 : decode cX10_init 123 = .ok (.iload_n 1, 1) := by decide +kernel
theorem dX10_init_124 : decode cX10_init 124 = .ok (.iadd, 1) := by decide +kernel
theorem dX10_init_125 : decode cX10_init 125 = .ok (.bipush (-6), 2) := by decide +kernel
theorem dX10_init_127 : decode cX10_init 127 = .ok (.iastore, 1) := by decide +kernel
theorem dX10_init_128 : decode cX10_init 128 = .ok (.iinc 1 1, 3) := by decide +kernel
theorem dX10_init_131 : decode cX10_init 131 = .ok (.goto (-28), 3) := by decide +kernel
theorem dX10_init_134 : decode cX10_init 134 = .ok (.iconst 0, 1) := by decide +kernel
theorem dX10_init_135 : decode cX10_init 135 = .ok (.istore_n 1, 1) := by decide +kernel
theorem dX10_init_136 : decode cX10_init 136 = .ok (.iload_n 1, 1) := by decide +kernel
theorem dX10_init_137 : decode cX10_init 137 = .ok (.bipush 6, 2) := by decide +kernel
theorem dX10_init_139 : decode cX10_init 139 = .ok (.if_icmp .ge 29, 3) := by decide +kernel
theorem dX10_init_142 : decode cX10_init 142 = .ok (.aload_n 0, 1) := by decide +kernel
theorem dX10_init_143 : decode cX10_init 143 = .ok (.getfield 7, 3) := by decide +kernel
theorem dX10_init_146 : decode cX10_init 146 = .ok (.bipush 26, 2) := by decide +kernel
theorem dX10_init_148 : decode cX10_init 148 = .ok (.iload_n 1, 1) := by decide +kernel
theorem dX10_init_149 : decode cX10_init 149 = .ok (.iadd, 1) := by decide +kernel
theorem dX10_init_150 : decode cX10_init 150 = .ok (.iconst 2, 1) := by decide +kernel
theorem dX10_init_151 : decode cX10_init 151 = .ok (.iastore, 1) := by decide +kernel
theorem dX10_init_152 : decode cX10_init 152 = .ok (.aload_n 0, 1) := by decide +kernel
theorem dX10_init_153 : decode cX10_init 153 = .ok (.getfield 7, 3) := by decide +kernel
theorem dX10_init_156 : decode cX10_init 156 = .ok (.bipush 32, 2) := by decide +kernel
theorem dX10_init_158 : decode cX10_init 158 = .ok (.iload_n 1, 1) := by decide +kernel
theorem dX10_init_159 : decode cX10_init 159 = .ok (.iadd, 1) := by decide +kernel
theorem dX10_init_160 : decode cX10_init 160 = .ok (.iconst 5, 1) := by decide +kernel
theorem dX10_init_161 : decode cX10_init 161 = .ok (.iastore, 1) := by decide +kernel
theorem dX10_init_162 : decode cX10_init 162 = .ok (.iinc 1 1, 3) := by decide +kernel
theorem dX10_init_165 : decode cX10_init 165 = .ok (.goto (-29), 3) := by decide +kernel
theorem dX10_init_168 : decode cX10_init 168 = .ok (.return_, 1) := by decide +kernel
theorem dX10_in_0 : decode cX10_in 0 = .ok (.iload_n 0, 1) := by decide +kernel
theorem dX10_in_1 : decode cX10_in 1 = .ok (.iload_n 1, 1) := by decide +kernel
theorem dX10_in_2 : decode cX10_in 2 = .ok (.if_icmp .lt 12, 3) := by decide +kernel
theorem dX10_in_5 : decode cX10_in 5 = .ok (.iload_n 0, 1) := by decide +kernel
theorem dX10_in_6 : decode cX10_in 6 = .ok (.iload_n 2, 1) := by decide +kernel
theorem dX10_in_7 : decode cX10_in 7 = .ok (.if_icmp .gt 7, 3) := by decide +kernel
theorem dX10_in_10 : decode cX10_in 10 = .ok (.iconst 1, 1) := by decide +kernel
theorem dX10_in_11 : decode cX10_in 11 = .ok (.goto 4, 3) := by decide +kernel
theorem dX10_in_14 : decode cX10_in 14 = .ok (.iconst 0, 1) := by decide +kernel
theorem dX10_in_15 : decode cX10_in 15 = .ok (.ireturn, 1) := by decide +kernel
theorem dX10_has_0 : decode cX10_has 0 = .ok (.iload_n 0, 1) := by decide +kernel
theorem dX10_has_1 : decode cX10_has 1 = .ok (.iload_n 1, 1) := by decide +kernel
theorem dX10_has_2 : decode cX10_has 2 = .ok (.ishr, 1) := by decide +kernel
theorem dX10_has_3 : decode cX10_has 3 = .ok (.iconst 1, 1) := by decide +kernel
theorem dX10_has_4 : decode cX10_has 4 = .ok (.iand, 1) := by decide +kernel
theorem dX10_has_5 : decode cX10_has 5 = .ok (.iconst 1, 1) := by decide +kernel
theorem dX10_has_6 : decode cX10_has 6 = .ok (.if_icmp .ne 7, 3) := by decide +kernel
theorem dX10_has_9 : decode cX10_has 9 = .ok (.iconst 1, 1) := by decide +kernel
theorem dX10_has_10 : decode cX10_has 10 = .ok (.goto 4, 3) := by decide +kernel
theorem dX10_has_13 : decode cX10_has 13 = .ok (.iconst 0, 1) := by decide +kernel
theorem dX10_has_14 : decode cX10_has 14 = .ok (.ireturn, 1) := by decide +kernel
theorem dX10_bits_0 : decode cX10_bits 0 = .ok (.iconst 0, 1) := by decide +kernel
theorem dX10_bits_1 : decode cX10_bits 1 = .ok (.istore_n 1, 1) := by decide +kernel
theorem dX10_bits_2 : decode cX10_bits 2 = .ok (.iconst 0, 1) := by decide +kernel
theorem dX10_bits_3 : decode cX10_bits 3 = .ok (.istore_n 2, 1) := by decide +kernel
theorem dX10_bits_4 : decode cX10_bits 4 = .ok (.iload_n 2, 1) := by decide +kernel
theorem dX10_bits_5 : decode cX10_bits 5 = .ok (.bipush 13, 2) := by decide +kernel
theorem dX10_bits_7 : decode cX10_bits 7 = .ok (.if_icmp .ge 17, 3) := by decide +kernel
theorem dX10_bits_10 : decode cX10_bits 10 = .ok (.iload_n 1, 1) := by decide +kernel
theorem dX10_bits_11 : decode cX10_bits 11 = .ok (.iload_n 0, 1) := by decide +kernel
theorem dX10_bits_12 : decode cX10_bits 12 = .ok (.iload_n 2, 1) := by decide +kernel
theorem dX10_bits_13 : decode cX10_bits 13 = .ok (.ishr, 1) := by decide +kernel
theorem dX10_bits_14 : decode cX10_bits 14 = .ok (.iconst 1, 1) := by decide +kernel
theorem dX10_bits_15 : decode cX10_bits 15 = .ok (.iand, 1) := by decide +kernel
theorem dX10_bits_16 : decode cX10_bits 16 = .ok (.iadd, 1) := by decide +kernel
theorem dX10_bits_17 : decode cX10_bits 17 = .ok (.istore_n 1, 1) := by decide +kernel
theorem dX10_bits_18 : decode cX10_bits 18 = .ok (.iinc 2 1, 3) := by decide +kernel
theorem dX10_bits_21 : decode cX10_bits 21 = .ok (.goto (-17), 3) := by decide +kernel
theorem dX10_bits_24 : decode cX10_bits 24 = .ok (.iload_n 1, 1) := by decide +kernel
theorem dX10_bits_25 : decode cX10_bits 25 = .ok (.ireturn, 1) := by decide +kernel
theorem dX10_isRung_0 : decode cX10_isRung 0 = .ok (.iload_n 0, 1) := by decide +kernel
theorem dX10_isRung_1 : decode cX10_isRung 1 = .ok (.iconst 1, 1) := by decide +kernel
theorem dX10_isRung_2 : decode cX10_isRung 2 = .ok (.bipush 12, 2) := by decide +kernel
theorem dX10_isRung_4 : decode cX10_isRung 4 = .ok (.invokestatic 48, 3) := by decide +kernel
theorem dX10_isRung_7 : decode cX10_isRung 7 = .ok (.ireturn, 1) := by decide +kernel
theorem dX10_isMan_0 : decode cX10_isMan 0 = .ok (.iload_n 0, 1) := by decide +kernel
theorem dX10_isMan_1 : decode cX10_isMan 1 = .ok (.iconst 0, 1) := by decide +kernel
theorem dX10_isMan_2 : decode cX10_isMan 2 = .ok (.iconst 5, 1) := by decide +kernel
theorem dX10_isMan_3 : decode cX10_isMan 3 = .ok (.invokestatic 48, 3) := by decide +kernel
theorem dX10_isMan_6 : decode cX10_isMan 6 = .ok (.ireturn, 1) := by decide +kernel
theorem dX10_asNow_0 : decode cX10_asNow 0 = .ok (.iconst 0, 1) := by decide +kernel
theorem dX10_asNow_1 : decode cX10_asNow 1 = .ok (.istore_n 1, 1) := by decide +kernel
theorem dX10_asNow_2 : decode cX10_asNow 2 = .ok (.iload_n 1, 1) := by decide +kernel
theorem dX10_asNow_3 : decode cX10_asNow 3 = .ok (.bipush 47, 2) := by decide +kernel
theorem dX10_asNow_5 : decode cX10_asNow 5 = .ok (.if_icmp .ge 21, 3) := by decide +kernel
theorem dX10_asNow_8 : decode cX10_asNow 8 = .ok (.aload_n 0, 1) := by decide +kernel
theorem dX10_asNow_9 : decode cX10_asNow 9 = .ok (.getfield 13, 3) := by decide +kernel
theorem dX10_asNow_12 : decode cX10_asNow 12 = .ok (.iload_n 1, 1) := by decide +kernel
theorem dX10_asNow_13 : decode cX10_asNow 13 = .ok (.aload_n 0, 1) := by decide +kernel
theorem dX10_asNow_14 : decode cX10_asNow 14 = .ok (.getfield 7, 3) := by decide +kernel
theorem dX10_asNow_17 : decode cX10_asNow 17 = .ok (.iload_n 1, 1) := by decide +kernel
theorem dX10_asNow_18 : decode cX10_asNow 18 = .ok (.iaload, 1) := by decide +kernel
theorem dX10_asNow_19 : decode cX10_asNow 19 = .ok (.iastore, 1) := by decide +kernel
theorem dX10_asNow_20 : decode cX10_asNow 20 = .ok (.iinc 1 1, 3) := by decide +kernel
theorem dX10_asNow_23 : decode cX10_asNow 23 = .ok (.goto (-21), 3) := by decide +kernel
theorem dX10_asNow_26 : decode cX10_asNow 26 = .ok (.aload_n 0, 1) := by decide +kernel
theorem dX10_asNow_27 : decode cX10_asNow 27 = .ok (.iconst 0, 1) := by decide +kernel
theorem dX10_asNow_28 : decode cX10_asNow 28 = .ok (.putfield 52, 3) := by decide +kernel
theorem dX10_asNow_31 : decode cX10_asNow 31 = .ok (.aload_n 0, 1) := by decide +kernel
theorem dX10_asNow_32 : decode cX10_asNow 32 = .ok (.iconst 0, 1) := by decide +kernel
theorem dX10_asNow_33 : decode cX10_asNow 33 = .ok (.putfield 56, 3) := by decide +kernel
theorem dX10_asNow_36 : decode cX10_asNow 36 = .ok (.aload_n 0, 1) := by decide +kernel
theorem dX10_asNow_37 : decode cX10_asNow 37 = .ok (.bipush (-6), 2) := by decide +kernel
theorem dX10_asNow_39 : decode cX10_asNow 39 = .ok (.putfield 59, 3) := by decide +kernel
theorem dX10_asNow_42 : decode cX10_asNow 42 = .ok (.aload_n 0, 1) := by decide +kernel
theorem dX10_asNow_43 : decode cX10_asNow 43 = .ok (.bipush (-6), 2) := by decide +kernel
theorem dX10_asNow_45 : decode cX10_asNow 45 = .ok (.putfield 62, 3) := by decide +kernel
theorem dX10_asNow_48 : decode cX10_asNow 48 = .ok (.return_, 1) := by decide +kernel
theorem dX10_isMissing_0 : decode cX10_isMissing 0 = .ok (.aload_n 0, 1) := by decide +kernel
theorem dX10_isMissing_1 : decode cX10_isMissing 1 = .ok (.getfield 13, 3) := by decide +kernel
theorem dX10_isMissing_4 : decode cX10_isMissing 4 = .ok (.bipush 45, 2) := by decide +kernel
theorem dX10_isMissing_6 : decode cX10_isMissing 6 = .ok (.iaload, 1) := by decide +kernel
theorem dX10_isMissing_7 : decode cX10_isMissing 7 = .ok (.iload_n 1, 1) := by decide +kernel
theorem dX10_isMissing_8 : decode cX10_isMissing 8 = .ok (.invokestatic 65, 3) := by decide +kernel
theorem dX10_isMissing_11 : decode cX10_isMissing 11 = .ok (.ireturn, 1) := by decide +kernel
theorem dX10_may_0 : decode cX10_may 0 = .ok (.aload_n 0, 1) := by decide +kernel
theorem dX10_may_1 : decode cX10_may 1 = .ok (.iload_n 2, 1) := by decide +kernel
theorem dX10_may_2 : decode cX10_may 2 = .ok (.invokevirtual 69, 3) := by decide +kernel
theorem dX10_may_5 : decode cX10_may 5 = .ok (.ifCond .ne 39, 3) := by decide +kernel
theorem dX10_may_8 : decode cX10_may 8 = .ok (.aload_n 0, 1) := by decide +kernel
theorem dX10_may_9 : decode cX10_may 9 = .ok (.getfield 13, 3) := by decide +kernel
theorem dX10_may_12 : decode cX10_may 12 = .ok (.iload_n 2, 1) := by decide +kernel
theorem dX10_may_13 : decode cX10_may 13 = .ok (.iaload, 1) := by decide +kernel
theorem dX10_may_14 : decode cX10_may 14 = .ok (.iload_n 1, 1) := by decide +kernel
theorem dX10_may_15 : decode cX10_may 15 = .ok (.if_icmp .eq 25, 3) := by decide +kernel
theorem dX10_may_18 : decode cX10_may 18 = .ok (.aload_n 0, 1) := by decide +kernel
theorem dX10_may_19 : decode cX10_may 19 = .ok (.getfield 13, 3) := by decide +kernel
theorem dX10_may_22 : decode cX10_may 22 = .ok (.iload_n 2, 1) := by decide +kernel
theorem dX10_may_23 : decode cX10_may 23 = .ok (.iaload, 1) := by decide +kernel
theorem dX10_may_24 : decode cX10_may 24 = .ok (.ifCond .lt 16, 3) := by decide +kernel
theorem dX10_may_27 : decode cX10_may 27 = .ok (.aload_n 0, 1) := by decide +kernel
theorem dX10_may_28 : decode cX10_may 28 = .ok (.getfield 13, 3) := by decide +kernel
theorem dX10_may_31 : decode cX10_may 31 = .ok (.bipush 13, 2) := by decide +kernel
theorem dX10_may_33 : decode cX10_may 33 = .ok (.iload_n 2, 1) := by decide +kernel
theorem dX10_may_34 : decode cX10_may 34 = .ok (.iadd, 1) := by decide +kernel
theorem dX10_may_35 : decode cX10_may 35 = .ok (.iaload, 1) := by decide +kernel
theorem dX10_may_36 : decode cX10_may 36 = .ok (.iload_n 1, 1) := by decide +kernel
theorem dX10_may_37 : decode cX10_may 37 = .ok (.if_icmp .ne 7, 3) := by decide +kernel
theorem dX10_may_40 : decode cX10_may 40 = .ok (.iconst 1, 1) := by decide +kernel
theorem dX10_may_41 : decode cX10_may 41 = .ok (.goto 4, 3) := by decide +kernel
theorem dX10_may_44 : decode cX10_may 44 = .ok (.iconst 0, 1) := by decide +kernel
theorem dX10_may_45 : decode cX10_may 45 = .ok (.ireturn, 1) := by decide +kernel
theorem dX10_standing_0 : decode cX10_standing 0 = .ok (.iconst 0, 1) := by decide +kernel
theorem dX10_standing_1 : decode cX10_standing 1 = .ok (.istore_n 2, 1) := by decide +kernel
theorem dX10_standing_2 : decode cX10_standing 2 = .ok (.iload_n 2, 1) := by decide +kernel
theorem dX10_standing_3 : decode cX10_standing 3 = .ok (.bipush 6, 2) := by decide +kernel
theorem dX10_standing_5 : decode cX10_standing 5 = .ok (.if_icmp .ge 24, 3) := by decide +kernel
theorem dX10_standing_8 : decode cX10_standing 8 = .ok (.aload_n 0, 1) := by decide +kernel
theorem dX10_standing_9 : decode cX10_standing 9 = .ok (.getfield 13, 3) := by decide +kernel
theorem dX10_standing_12 : decode cX10_standing 12 = .ok (.bipush 38, 2) := by decide +kernel
theorem dX10_standing_14 : decode cX10_standing 14 = .ok (.iload_n 2, 1) := by decide +kernel
theorem dX10_standing_15 : decode cX10_standing 15 = .ok (.iadd, 1) := by decide +kernel
theorem dX10_standing_16 : decode cX10_standing 16 = .ok (.iaload, 1) := by decide +kernel
theorem dX10_standing_17 : decode cX10_standing 17 = .ok (.iload_n 1, 1) := by decide +kernel
theorem dX10_standing_18 : decode cX10_standing 18 = .ok (.if_icmp .ne 5, 3) := by decide +kernel
theorem dX10_standing_21 : decode cX10_standing 21 = .ok (.iload_n 2, 1) := by decide +kernel
theorem dX10_standing_22 : decode cX10_standing 22 = .ok (.ireturn, 1) := by decide +kernel
theorem dX10_standing_23 : decode cX10_standing 23 = .ok (.iinc 2 1, 3) := by decide +kernel
theorem dX10_standing_26 : decode cX10_standing 26 = .ok (.goto (-24), 3) := by decide +kernel
theorem dX10_standing_29 : decode cX10_standing 29 = .ok (.bipush (-6), 2) := by decide +kernel
theorem dX10_standing_31 : decode cX10_standing 31 = .ok (.ireturn, 1) := by decide +kernel
theorem dX10_rung_0 : decode cX10_rung 0 = .ok (.iload_n 1, 1) := by decide +kernel
theorem dX10_rung_1 : decode cX10_rung 1 = .ok (.invokestatic 73, 3) := by decide +kernel
theorem dX10_rung_4 : decode cX10_rung 4 = .ok (.ifCond .eq 21, 3) := by decide +kernel
theorem dX10_rung_7 : decode cX10_rung 7 = .ok (.iload_n 2, 1) := by decide +kernel
theorem dX10_rung_8 : decode cX10_rung 8 = .ok (.iconst (-1), 1) := by decide +kernel
theorem dX10_rung_9 : decode cX10_rung 9 = .ok (.iconst 5, 1) := by decide +kernel
theorem dX10_rung_10 : decode cX10_rung 10 = .ok (.invokestatic 48, 3) := by decide +kernel
theorem dX10_rung_13 : decode cX10_rung 13 = .ok (.ifCond .eq 12, 3) := by decide +kernel
theorem dX10_rung_16 : decode cX10_rung 16 = .ok (.iload_n 3, 1) := by decide +kernel
theorem dX10_rung_17 : decode cX10_rung 17 = .ok (.iconst (-1), 1) := by decide +kernel
theorem dX10_rung_18 : decode cX10_rung 18 = .ok (.iconst 5, 1) := by decide +kernel
theorem dX10_rung_19 : decode cX10_rung 19 = .ok (.invokestatic 48, 3) := by decide +kernel
theorem dX10_rung_22 : decode cX10_rung 22 = .ok (.ifCond .ne 5, 3) := by decide +kernel
theorem dX10_rung_25 : decode cX10_rung 25 = .ok (.iconst (-1), 1) := by decide +kernel
theorem dX10_rung_26 : decode cX10_rung 26 = .ok (.ireturn, 1) := by decide +kernel
theorem dX10_rung_27 : decode cX10_rung 27 = .ok (.iload 4, 2) := by decide +kernel
theorem dX10_rung_29 : decode cX10_rung 29 = .ok (.iconst 0, 1) := by decide +kernel
theorem dX10_rung_30 : decode cX10_rung 30 = .ok (.iconst 1, 1) := by decide +kernel
theorem dX10_rung_31 : decode cX10_rung 31 = .ok (.invokestatic 48, 3) := by decide +kernel
theorem dX10_rung_34 : decode cX10_rung 34 = .ok (.ifCond .eq 33, 3) := by decide +kernel
theorem dX10_rung_37 : decode cX10_rung 37 = .ok (.iload_n 3, 1) := by decide +kernel
theorem dX10_rung_38 : decode cX10_rung 38 = .ok (.ifCond .lt 12, 3) := by decide +kernel
theorem dX10_rung_41 : decode cX10_rung 41 = .ok (.iload_n 2, 1) := by decide +kernel
theorem dX10_rung_42 : decode cX10_rung 42 = .ok (.ifCond .lt 25, 3) := by decide +kernel
theorem dX10_rung_45 : decode cX10_rung 45 = .ok (.iload_n 2, 1) := by decide +kernel
theorem dX10_rung_46 : decode cX10_rung 46 = .ok (.iload_n 3, 1) := by decide +kernel
theorem dX10_rung_47 : decode cX10_rung 47 = .ok (.if_icmp .eq 20, 3) := by decide +kernel
theorem dX10_rung_50 : decode cX10_rung 50 = .ok (.iload 4, 2) := by decide +kernel
theorem dX10_rung_52 : decode cX10_rung 52 = .ok (.ifCond .eq 11, 3) := by decide +kernel
theorem dX10_rung_55 : decode cX10_rung 55 = .ok (.iload_n 2, 1) := by decide +kernel
theorem dX10_rung_56 : decode cX10_rung 56 = .ok (.ifCond .ge 11, 3) := by decide +kernel
theorem dX10_rung_59 : decode cX10_rung 59 = .ok (.iload_n 3, 1) := by decide +kernel
theorem dX10_rung_60 : decode cX10_rung 60 = .ok (.ifCond .ge 7, 3) := by decide +kernel
theorem dX10_rung_63 : decode cX10_rung 63 = .ok (.iconst 1, 1) := by decide +kernel
theorem dX10_rung_64 : decode cX10_rung 64 = .ok (.goto 4, 3) := by decide +kernel
theorem dX10_rung_67 : decode cX10_rung 67 = .ok (.iconst 0, 1) := by decide +kernel
theorem dX10_rung_68 : decode cX10_rung 68 = .ok (.istore 5, 2) := by decide +kernel
theorem dX10_rung_70 : decode cX10_rung 70 = .ok (.iload 5, 2) := by decide +kernel
theorem dX10_rung_72 : decode cX10_rung 72 = .ok (.ifCond .ne 6, 3) := by decide +kernel
theorem dX10_rung_75 : decode cX10_rung 75 = .ok (.bipush (-2), 2) := by decide +kernel
theorem dX10_rung_77 : decode cX10_rung 77 = .ok (.ireturn, 1) := by decide +kernel
theorem dX10_rung_78 : decode cX10_rung 78 = .ok (.aload_n 0, 1) := by decide +kernel
theorem dX10_rung_79 : decode cX10_rung 79 = .ok (.getfield 7, 3) := by decide +kernel
theorem dX10_rung_82 : decode cX10_rung 82 = .ok (.iload_n 1, 1) := by decide +kernel
theorem dX10_rung_83 : decode cX10_rung 83 = .ok (.iaload, 1) := by decide +kernel
theorem dX10_rung_84 : decode cX10_rung 84 = .ok (.istore 6, 2) := by decide +kernel
theorem dX10_rung_86 : decode cX10_rung 86 = .ok (.aload_n 0, 1) := by decide +kernel
theorem dX10_rung_87 : decode cX10_rung 87 = .ok (.getfield 7, 3) := by decide +kernel
theorem dX10_rung_90 : decode cX10_rung 90 = .ok (.iload_n 1, 1) := by decide +kernel
theorem dX10_rung_91 : decode cX10_rung 91 = .ok (.iload_n 2, 1) := by decide +kernel
theorem dX10_rung_92 : decode cX10_rung 92 = .ok (.ifCond .ge 8, 3) := by decide +kernel
theorem dX10_rung_95 : decode cX10_rung 95 = .ok (.bipush (-6), 2) := by decide +kernel
theorem dX10_rung_97 : decode cX10_rung 97 = .ok (.goto 4, 3) := by decide +kernel
theorem dX10_rung_100 : decode cX10_rung 100 = .ok (.iload_n 2, 1) := by decide +kernel
theorem dX10_rung_101 : decode cX10_rung 101 = .ok (.iastore, 1) := by decide +kernel
theorem dX10_rung_102 : decode cX10_rung 102 = .ok (.aload_n 0, 1) := by decide +kernel
theorem dX10_rung_103 : decode cX10_rung 103 = .ok (.getfield 7, 3) := by decide +kernel
theorem dX10_rung_106 : decode cX10_rung 106 = .ok (.bipush 13, 2) := by decide +kernel
theorem dX10_rung_108 : decode cX10_rung 108 = .ok (.iload_n 1, 1) := by decide +kernel
theorem dX10_rung_109 : decode cX10_rung 109 = .ok (.iadd, 1) := by decide +kernel
theorem dX10_rung_110 : decode cX10_rung 110 = .ok (.iload_n 3, 1) := by decide +kernel
theorem dX10_rung_111 : decode cX10_rung 111 = .ok (.ifCond .ge 8, 3) := by decide +kernel
theorem dX10_rung_114 : decode cX10_rung 114 = .ok (.bipush (-6), 2) := by decide +kernel
theorem dX10_rung_116 : decode cX10_rung 116 = .ok (.goto 4, 3) := by decide +kernel
theorem dX10_rung_119 : decode cX10_rung 119 = .ok (.iload_n 3, 1) := by decide +kernel
theorem dX10_rung_120 : decode cX10_rung 120 = .ok (.iastore, 1) := by decide +kernel
theorem dX10_rung_121 : decode cX10_rung 121 = .ok (.aload_n 0, 1) := by decide +kernel
theorem dX10_rung_122 : decode cX10_rung 122 = .ok (.getfield 7, 3) := by decide +kernel
theorem dX10_rung_125 : decode cX10_rung 125 = .ok (.bipush 45, 2) := by decide +kernel
theorem dX10_rung_127 : decode cX10_rung 127 = .ok (.dup2, 1) := by decide +kernel
theorem dX10_rung_128 : decode cX10_rung 128 = .ok (.iaload, 1) := by decide +kernel
theorem dX10_rung_129 : decode cX10_rung 129 = .ok (.iconst 1, 1) := by decide +kernel
theorem dX10_rung_130 : decode cX10_rung 130 = .ok (.iload_n 1, 1) := by decide +kernel
theorem dX10_rung_131 : decode cX10_rung 131 = .ok (.ishl, 1) := by decide +kernel
theorem dX10_rung_132 : decode cX10_rung 132 = .ok (.iconst (-1), 1) := by decide +kernel
theorem dX10_rung_133 : decode cX10_rung 133 = .ok (.ixor, 1) := by decide +kernel
theorem dX10_rung_134 : decode cX10_rung 134 = .ok (.iand, 1) := by decide +kernel
theorem dX10_rung_135 : decode cX10_rung 135 = .ok (.iastore, 1) := by decide +kernel
theorem dX10_rung_136 : decode cX10_rung 136 = .ok (.aload_n 0, 1) := by decide +kernel
theorem dX10_rung_137 : decode cX10_rung 137 = .ok (.getfield 7, 3) := by decide +kernel
theorem dX10_rung_140 : decode cX10_rung 140 = .ok (.bipush 45, 2) := by decide +kernel
theorem dX10_rung_142 : decode cX10_rung 142 = .ok (.dup2, 1) := by decide +kernel
theorem dX10_rung_143 : decode cX10_rung 143 = .ok (.iaload, 1) := by decide +kernel
theorem dX10_rung_144 : decode cX10_rung 144 = .ok (.iload 4, 2) := by decide +kernel
theorem dX10_rung_146 : decode cX10_rung 146 = .ok (.iload_n 1, 1) := by decide +kernel
theorem dX10_rung_147 : decode cX10_rung 147 = .ok (.ishl, 1) := by decide +kernel
theorem dX10_rung_148 : decode cX10_rung 148 = .ok (.ior, 1) := by decide +kernel
theorem dX10_rung_149 : decode cX10_rung 149 = .ok (.iastore, 1) := by decide +kernel
theorem dX10_rung_150 : decode cX10_rung 150 = .ok (.iload 6, 2) := by decide +kernel
theorem dX10_rung_152 : decode cX10_rung 152 = .ok (.ireturn, 1) := by decide +kernel
theorem dX10_man_0 : decode cX10_man 0 = .ok (.iload_n 1, 1) := by decide +kernel
theorem dX10_man_1 : decode cX10_man 1 = .ok (.invokestatic 76, 3) := by decide +kernel
theorem dX10_man_4 : decode cX10_man 4 = .ok (.ifCond .ne 5, 3) := by decide +kernel
theorem dX10_man_7 : decode cX10_man 7 = .ok (.iconst (-1), 1) := by decide +kernel
theorem dX10_man_8 : decode cX10_man 8 = .ok (.ireturn, 1) := by decide +kernel
theorem dX10_man_9 : decode cX10_man 9 = .ok (.iload_n 2, 1) := by decide +kernel
theorem dX10_man_10 : decode cX10_man 10 = .ok (.iconst 1, 1) := by decide +kernel
theorem dX10_man_11 : decode cX10_man 11 = .ok (.iconst 4, 1) := by decide +kernel
theorem dX10_man_12 : decode cX10_man 12 = .ok (.invokestatic 48, 3) := by decide +kernel
theorem dX10_man_15 : decode cX10_man 15 = .ok (.ifCond .eq 24, 3) := by decide +kernel
theorem dX10_man_18 : decode cX10_man 18 = .ok (.iload_n 3, 1) := by decide +kernel
theorem dX10_man_19 : decode cX10_man 19 = .ok (.iconst 0, 1) := by decide +kernel
theorem dX10_man_20 : decode cX10_man 20 = .ok (.bipush 99, 2) := by decide +kernel
theorem dX10_man_22 : decode cX10_man 22 = .ok (.invokestatic 48, 3) := by decide +kernel
theorem dX10_man_25 : decode cX10_man 25 = .ok (.ifCond .eq 14, 3) := by decide +kernel
theorem dX10_man_28 : decode cX10_man 28 = .ok (.iload 4, 2) := by decide +kernel
theorem dX10_man_30 : decode cX10_man 30 = .ok (.iconst 0, 1) := by decide +kernel
theorem dX10_man_31 : decode cX10_man 31 = .ok (.bipush 13, 2) := by decide +kernel
theorem dX10_man_33 : decode cX10_man 33 = .ok (.invokestatic 48, 3) := by decide +kernel
theorem dX10_man_36 : decode cX10_man 36 = .ok (.ifCond .ne 6, 3) := by decide +kernel
theorem dX10_man_39 : decode cX10_man 39 = .ok (.bipush (-2), 2) := by decide +kernel
theorem dX10_man_41 : decode cX10_man 41 = .ok (.ireturn, 1) := by decide +kernel
theorem dX10_man_42 : decode cX10_man 42 = .ok (.bipush 100, 2) := by decide +kernel
theorem dX10_man_44 : decode cX10_man 44 = .ok (.aload_n 0, 1) := by decide +kernel
theorem dX10_man_45 : decode cX10_man 45 = .ok (.getfield 7, 3) := by decide +kernel
theorem dX10_man_48 : decode cX10_man 48 = .ok (.bipush 38, 2) := by decide +kernel
theorem dX10_man_50 : decode cX10_man 50 = .ok (.iload_n 1, 1) := by decide +kernel
theorem dX10_man_51 : decode cX10_man 51 = .ok (.iadd, 1) := by decide +kernel
theorem dX10_man_52 : decode cX10_man 52 = .ok (.iaload, 1) := by decide +kernel
theorem dX10_man_53 : decode cX10_man 53 = .ok (.imul, 1) := by decide +kernel
theorem dX10_man_54 : decode cX10_man 54 = .ok (.aload_n 0, 1) := by decide +kernel
theorem dX10_man_55 : decode cX10_man 55 = .ok (.getfield 7, 3) := by decide +kernel
theorem dX10_man_58 : decode cX10_man 58 = .ok (.bipush 32, 2) := by decide +kernel
theorem dX10_man_60 : decode cX10_man 60 = .ok (.iload_n 1, 1) := by decide +kernel
theorem dX10_man_61 : decode cX10_man 61 = .ok (.iadd, 1) := by decide +kernel
theorem dX10_man_62 : decode cX10_man 62 = .ok (.iaload, 1) := by decide +kernel
theorem dX10_man_63 : decode cX10_man 63 = .ok (.iadd, 1) := by decide +kernel
theorem dX10_man_64 : decode cX10_man 64 = .ok (.istore 5, 2) := by decide +kernel
theorem dX10_man_66 : decode cX10_man 66 = .ok (.aload_n 0, 1) := by decide +kernel
theorem dX10_man_67 : decode cX10_man 67 = .ok (.getfield 7, 3) := by decide +kernel
theorem dX10_man_70 : decode cX10_man 70 = .ok (.bipush 26, 2) := by decide +kernel
theorem dX10_man_72 : decode cX10_man 72 = .ok (.iload_n 1, 1) := by decide +kernel
theorem dX10_man_73 : decode cX10_man 73 = .ok (.iadd, 1) := by decide +kernel
theorem dX10_man_74 : decode cX10_man 74 = .ok (.iload_n 2, 1) := by decide +kernel
theorem dX10_man_75 : decode cX10_man 75 = .ok (.iastore, 1) := by decide +kernel
theorem dX10_man_76 : decode cX10_man 76 = .ok (.aload_n 0, 1) := by decide +kernel
theorem dX10_man_77 : decode cX10_man 77 = .ok (.getfield 7, 3) := by decide +kernel
theorem dX10_man_80 : decode cX10_man 80 = .ok (.bipush 32, 2) := by decide +kernel
theorem dX10_man_82 : decode cX10_man 82 = .ok (.iload_n 1, 1) := by decide +kernel
theorem dX10_man_83 : decode cX10_man 83 = .ok (.iadd, 1) := by decide +kernel
theorem dX10_man_84 : decode cX10_man 84 = .ok (.iload_n 3, 1) := by decide +kernel
theorem dX10_man_85 : decode cX10_man 85 = .ok (.iastore, 1) := by decide +kernel
theorem dX10_man_86 : decode cX10_man 86 = .ok (.aload_n 0, 1) := by decide +kernel
theorem dX10_man_87 : decode cX10_man 87 = .ok (.getfield 7, 3) := by decide +kernel
theorem dX10_man_90 : decode cX10_man 90 = .ok (.bipush 38, 2) := by decide +kernel
theorem dX10_man_92 : decode cX10_man 92 = .ok (.iload_n 1, 1) := by decide +kernel
theorem dX10_man_93 : decode cX10_man 93 = .ok (.iadd, 1) := by decide +kernel
theorem dX10_man_94 : decode cX10_man 94 = .ok (.iload 4, 2) := by decide +kernel
theorem dX10_man_96 : decode cX10_man 96 = .ok (.iastore, 1) := by decide +kernel
theorem dX10_man_97 : decode cX10_man 97 = .ok (.aload_n 0, 1) := by decide +kernel
theorem dX10_man_98 : decode cX10_man 98 = .ok (.getfield 7, 3) := by decide +kernel
theorem dX10_man_101 : decode cX10_man 101 = .ok (.bipush 44, 2) := by decide +kernel
theorem dX10_man_103 : decode cX10_man 103 = .ok (.dup2, 1) := by decide +kernel
theorem dX10_man_104 : decode cX10_man 104 = .ok (.iaload, 1) := by decide +kernel
theorem dX10_man_105 : decode cX10_man 105 = .ok (.iconst 1, 1) := by decide +kernel
theorem dX10_man_106 : decode cX10_man 106 = .ok (.iload_n 1, 1) := by decide +kernel
theorem dX10_man_107 : decode cX10_man 107 = .ok (.ishl, 1) := by decide +kernel
theorem dX10_man_108 : decode cX10_man 108 = .ok (.iconst (-1), 1) := by decide +kernel
theorem dX10_man_109 : decode cX10_man 109 = .ok (.ixor, 1) := by decide +kernel
theorem dX10_man_110 : decode cX10_man 110 = .ok (.iand, 1) := by decide +kernel
theorem dX10_man_111 : decode cX10_man 111 = .ok (.iastore, 1) := by decide +kernel
theorem dX10_man_112 : decode cX10_man 112 = .ok (.iload 5, 2) := by decide +kernel
theorem dX10_man_114 : decode cX10_man 114 = .ok (.ireturn, 1) := by decide +kernel
theorem dX10_say_0 : decode cX10_say 0 = .ok (.iload_n 1, 1) := by decide +kernel
theorem dX10_say_1 : decode cX10_say 1 = .ok (.bipush 33, 2) := by decide +kernel
theorem dX10_say_3 : decode cX10_say 3 = .ok (.bipush 126, 2) := by decide +kernel
theorem dX10_say_5 : decode cX10_say 5 = .ok (.invokestatic 48, 3) := by decide +kernel
theorem dX10_say_8 : decode cX10_say 8 = .ok (.ifCond .ne 6, 3) := by decide +kernel
theorem dX10_say_11 : decode cX10_say 11 = .ok (.bipush (-2), 2) := by decide +kernel
theorem dX10_say_13 : decode cX10_say 13 = .ok (.ireturn, 1) := by decide +kernel
theorem dX10_say_14 : decode cX10_say 14 = .ok (.aload_n 0, 1) := by decide +kernel
theorem dX10_say_15 : decode cX10_say 15 = .ok (.getfield 79, 3) := by decide +kernel
theorem dX10_say_18 : decode cX10_say 18 = .ok (.bipush 60, 2) := by decide +kernel
theorem dX10_say_20 : decode cX10_say 20 = .ok (.if_icmp .ne 6, 3) := by decide +kernel
theorem dX10_say_23 : decode cX10_say 23 = .ok (.bipush (-4), 2) := by decide +kernel
theorem dX10_say_25 : decode cX10_say 25 = .ok (.ireturn, 1) := by decide +kernel
theorem dX10_say_26 : decode cX10_say 26 = .ok (.aload_n 0, 1) := by decide +kernel
theorem dX10_say_27 : decode cX10_say 27 = .ok (.getfield 19, 3) := by decide +kernel
theorem dX10_say_30 : decode cX10_say 30 = .ok (.aload_n 0, 1) := by decide +kernel
theorem dX10_say_31 : decode cX10_say 31 = .ok (.getfield 79, 3) := by decide +kernel
theorem dX10_say_34 : decode cX10_say 34 = .ok (.iload_n 1, 1) := by decide +kernel
theorem dX10_say_35 : decode cX10_say 35 = .ok (.iastore, 1) := by decide +kernel
theorem dX10_say_36 : decode cX10_say 36 = .ok (.aload_n 0, 1) := by decide +kernel
theorem dX10_say_37 : decode cX10_say 37 = .ok (.dup, 1) := by decide +kernel
theorem dX10_say_38 : decode cX10_say 38 = .ok (.getfield 79, 3) := by decide +kernel
theorem dX10_say_41 : decode cX10_say 41 = .ok (.iconst 1, 1) := by decide +kernel
theorem dX10_say_42 : decode cX10_say 42 = .ok (.iadd, 1) := by decide +kernel
theorem dX10_say_43 : decode cX10_say 43 = .ok (.putfield 79, 3) := by decide +kernel
theorem dX10_say_46 : decode cX10_say 46 = .ok (.aload_n 0, 1) := by decide +kernel
theorem dX10_say_47 : decode cX10_say 47 = .ok (.getfield 79, 3) := by decide +kernel
theorem dX10_say_50 : decode cX10_say 50 = .ok (.ireturn, 1) := by decide +kernel
theorem dX10_wipe_0 : decode cX10_wipe 0 = .ok (.aload_n 0, 1) := by decide +kernel
theorem dX10_wipe_1 : decode cX10_wipe 1 = .ok (.getfield 79, 3) := by decide +kernel
theorem dX10_wipe_4 : decode cX10_wipe 4 = .ok (.istore_n 1, 1) := by decide +kernel
theorem dX10_wipe_5 : decode cX10_wipe 5 = .ok (.aload_n 0, 1) := by decide +kernel
theorem dX10_wipe_6 : decode cX10_wipe 6 = .ok (.iconst 0, 1) := by decide +kernel
theorem dX10_wipe_7 : decode cX10_wipe 7 = .ok (.putfield 79, 3) := by decide +kernel
theorem dX10_wipe_10 : decode cX10_wipe 10 = .ok (.iload_n 1, 1) := by decide +kernel
theorem dX10_wipe_11 : decode cX10_wipe 11 = .ok (.ireturn, 1) := by decide +kernel
theorem dX10_step_0 : decode cX10_step 0 = .ok (.iload_n 1, 1) := by decide +kernel
theorem dX10_step_1 : decode cX10_step 1 = .ok (.bipush 97, 2) := by decide +kernel
theorem dX10_step_3 : decode cX10_step 3 = .ok (.bipush 108, 2) := by decide +kernel
theorem dX10_step_5 : decode cX10_step 5 = .ok (.invokestatic 48, 3) := by decide +kernel
theorem dX10_step_8 : decode cX10_step 8 = .ok (.istore_n 2, 1) := by decide +kernel
theorem dX10_step_9 : decode cX10_step 9 = .ok (.iload_n 0, 1) := by decide +kernel
theorem dX10_step_10 : decode cX10_step 10 = .ok (.lookupswitch 103 #[(0, 26), (1, 70)], 26) := by decide +kernel
theorem dX10_step_36 : decode cX10_step 36 = .ok (.iload_n 1, 1) := by decide +kernel
theorem dX10_step_37 : decode cX10_step 37 = .ok (.bipush 65, 2) := by decide +kernel
theorem dX10_step_39 : decode cX10_step 39 = .ok (.bipush 70, 2) := by decide +kernel
theorem dX10_step_41 : decode cX10_step 41 = .ok (.invokestatic 48, 3) := by decide +kernel
theorem dX10_step_44 : decode cX10_step 44 = .ok (.ifCond .eq 7, 3) := by decide +kernel
theorem dX10_step_47 : decode cX10_step 47 = .ok (.iconst 1, 1) := by decide +kernel
theorem dX10_step_48 : decode cX10_step 48 = .ok (.goto 31, 3) := by decide +kernel
theorem dX10_step_51 : decode cX10_step 51 = .ok (.iload_n 1, 1) := by decide +kernel
theorem dX10_step_52 : decode cX10_step 52 = .ok (.bipush 107, 2) := by decide +kernel
theorem dX10_step_54 : decode cX10_step 54 = .ok (.if_icmp .eq 9, 3) := by decide +kernel
theorem dX10_step_57 : decode cX10_step 57 = .ok (.iload_n 1, 1) := by decide +kernel
theorem dX10_step_58 : decode cX10_step 58 = .ok (.bipush 43, 2) := by decide +kernel
theorem dX10_step_60 : decode cX10_step 60 = .ok (.if_icmp .ne 7, 3) := by decide +kernel
theorem dX10_step_63 : decode cX10_step 63 = .ok (.iconst 2, 1) := by decide +kernel
theorem dX10_step_64 : decode cX10_step 64 = .ok (.goto 15, 3) := by decide +kernel
theorem dX10_step_67 : decode cX10_step 67 = .ok (.iload_n 1, 1) := by decide +kernel
theorem dX10_step_68 : decode cX10_step 68 = .ok (.bipush 46, 2) := by decide +kernel
theorem dX10_step_70 : decode cX10_step 70 = .ok (.if_icmp .ne 7, 3) := by decide +kernel
theorem dX10_step_73 : decode cX10_step 73 = .ok (.iconst 0, 1) := by decide +kernel
theorem dX10_step_74 : decode cX10_step 74 = .ok (.goto 5, 3) := by decide +kernel
theorem dX10_step_77 : decode cX10_step 77 = .ok (.bipush (-6), 2) := by decide +kernel
theorem dX10_step_79 : decode cX10_step 79 = .ok (.ireturn, 1) := by decide +kernel
theorem dX10_step_80 : decode cX10_step 80 = .ok (.iload_n 2, 1) := by decide +kernel
theorem dX10_step_81 : decode cX10_step 81 = .ok (.ifCond .ne 15, 3) := by decide +kernel
theorem dX10_step_84 : decode cX10_step 84 = .ok (.iload_n 1, 1) := by decide +kernel
theorem dX10_step_85 : decode cX10_step 85 = .ok (.bipush 94, 2) := by decide +kernel
theorem dX10_step_87 : decode cX10_step 87 = .ok (.if_icmp .eq 9, 3) := by decide +kernel
theorem dX10_step_90 : decode cX10_step 90 = .ok (.iload_n 1, 1) := by decide +kernel
theorem dX10_step_91 : decode cX10_step 91 = .ok (.bipush 95, 2) := by decide +kernel
theorem dX10_step_93 : decode cX10_step 93 = .ok (.if_icmp .ne 7, 3) := by decide +kernel
theorem dX10_step_96 : decode cX10_step 96 = .ok (.iconst 0, 1) := by decide +kernel
theorem dX10_step_97 : decode cX10_step 97 = .ok (.goto 15, 3) := by decide +kernel
theorem dX10_step_100 : decode cX10_step 100 = .ok (.iload_n 1, 1) := by decide +kernel
theorem dX10_step_101 : decode cX10_step 101 = .ok (.bipush 37, 2) := by decide +kernel
theorem dX10_step_103 : decode cX10_step 103 = .ok (.if_icmp .ne 7, 3) := by decide +kernel
theorem dX10_step_106 : decode cX10_step 106 = .ok (.iconst 2, 1) := by decide +kernel
theorem dX10_step_107 : decode cX10_step 107 = .ok (.goto 5, 3) := by decide +kernel
theorem dX10_step_110 : decode cX10_step 110 = .ok (.bipush (-6), 2) := by decide +kernel
theorem dX10_step_112 : decode cX10_step 112 = .ok (.ireturn, 1) := by decide +kernel
theorem dX10_step_113 : decode cX10_step 113 = .ok (.iload_n 2, 1) := by decide +kernel
theorem dX10_step_114 : decode cX10_step 114 = .ok (.ifCond .eq 7, 3) := by decide +kernel
theorem dX10_step_117 : decode cX10_step 117 = .ok (.iconst 0, 1) := by decide +kernel
theorem dX10_step_118 : decode cX10_step 118 = .ok (.goto 5, 3) := by decide +kernel
theorem dX10_step_121 : decode cX10_step 121 = .ok (.bipush (-6), 2) := by decide +kernel
theorem dX10_step_123 : decode cX10_step 123 = .ok (.ireturn, 1) := by decide +kernel
theorem dX10_faultOf_0 : decode cX10_faultOf 0 = .ok (.iconst 0, 1) := by decide +kernel
theorem dX10_faultOf_1 : decode cX10_faultOf 1 = .ok (.istore_n 1, 1) := by decide +kernel
theorem dX10_faultOf_2 : decode cX10_faultOf 2 = .ok (.iconst 0, 1) := by decide +kernel
theorem dX10_faultOf_3 : decode cX10_faultOf 3 = .ok (.istore_n 2, 1) := by decide +kernel
theorem dX10_faultOf_4 : decode cX10_faultOf 4 = .ok (.iload_n 2, 1) := by decide +kernel
theorem dX10_faultOf_5 : decode cX10_faultOf 5 = .ok (.aload_n 0, 1) := by decide +kernel
theorem dX10_faultOf_6 : decode cX10_faultOf 6 = .ok (.getfield 79, 3) := by decide +kernel
theorem dX10_faultOf_9 : decode cX10_faultOf 9 = .ok (.if_icmp .ge 26, 3) := by decide +kernel
theorem dX10_faultOf_12 : decode cX10_faultOf 12 = .ok (.iload_n 1, 1) := by decide +kernel
theorem dX10_faultOf_13 : decode cX10_faultOf 13 = .ok (.aload_n 0, 1) := by decide +kernel
theorem dX10_faultOf_14 : decode cX10_faultOf 14 = .ok (.getfield 19, 3) := by decide +kernel
theorem dX10_faultOf_17 : decode cX10_faultOf 17 = .ok (.iload_n 2, 1) := by decide +kernel
theorem dX10_faultOf_18 : decode cX10_faultOf 18 = .ok (.iaload, 1) := by decide +kernel
theorem dX10_faultOf_19 : decode cX10_faultOf 19 = .ok (.invokestatic 82, 3) := by decide +kernel
theorem dX10_faultOf_22 : decode cX10_faultOf 22 = .ok (.istore_n 1, 1) := by decide +kernel
theorem dX10_faultOf_23 : decode cX10_faultOf 23 = .ok (.iload_n 1, 1) := by decide +kernel
theorem dX10_faultOf_24 : decode cX10_faultOf 24 = .ok (.ifCond .ge 5, 3) := by decide +kernel
theorem dX10_faultOf_27 : decode cX10_faultOf 27 = .ok (.iload_n 2, 1) := by decide +kernel
theorem dX10_faultOf_28 : decode cX10_faultOf 28 = .ok (.ireturn, 1) := by decide +kernel
theorem dX10_faultOf_29 : decode cX10_faultOf 29 = .ok (.iinc 2 1, 3) := by decide +kernel
theorem dX10_faultOf_32 : decode cX10_faultOf 32 = .ok (.goto (-28), 3) := by decide +kernel
theorem dX10_faultOf_35 : decode cX10_faultOf 35 = .ok (.iload_n 1, 1) := by decide +kernel
theorem dX10_faultOf_36 : decode cX10_faultOf 36 = .ok (.ifCond .ne 8, 3) := by decide +kernel
theorem dX10_faultOf_39 : decode cX10_faultOf 39 = .ok (.bipush (-6), 2) := by decide +kernel
theorem dX10_faultOf_41 : decode cX10_faultOf 41 = .ok (.goto 7, 3) := by decide +kernel
theorem dX10_faultOf_44 : decode cX10_faultOf 44 = .ok (.aload_n 0, 1) := by decide +kernel
theorem dX10_faultOf_45 : decode cX10_faultOf 45 = .ok (.getfield 79, 3) := by decide +kernel
theorem dX10_faultOf_48 : decode cX10_faultOf 48 = .ok (.ireturn, 1) := by decide +kernel
theorem dX10_fault_0 : decode cX10_fault 0 = .ok (.aload_n 0, 1) := by decide +kernel
theorem dX10_fault_1 : decode cX10_fault 1 = .ok (.invokevirtual 86, 3) := by decide +kernel
theorem dX10_fault_4 : decode cX10_fault 4 = .ok (.ireturn, 1) := by decide +kernel
theorem dX10_goTo_0 : decode cX10_goTo 0 = .ok (.aload_n 0, 1) := by decide +kernel
theorem dX10_goTo_1 : decode cX10_goTo 1 = .ok (.getfield 13, 3) := by decide +kernel
theorem dX10_goTo_4 : decode cX10_goTo 4 = .ok (.bipush 44, 2) := by decide +kernel
theorem dX10_goTo_6 : decode cX10_goTo 6 = .ok (.iaload, 1) := by decide +kernel
theorem dX10_goTo_7 : decode cX10_goTo 7 = .ok (.iload_n 1, 1) := by decide +kernel
theorem dX10_goTo_8 : decode cX10_goTo 8 = .ok (.invokestatic 65, 3) := by decide +kernel
theorem dX10_goTo_11 : decode cX10_goTo 11 = .ok (.ifCond .eq 5, 3) := by decide +kernel
theorem dX10_goTo_14 : decode cX10_goTo 14 = .ok (.iconst 1, 1) := by decide +kernel
theorem dX10_goTo_15 : decode cX10_goTo 15 = .ok (.ireturn, 1) := by decide +kernel
theorem dX10_goTo_16 : decode cX10_goTo 16 = .ok (.iload_n 2, 1) := by decide +kernel
theorem dX10_goTo_17 : decode cX10_goTo 17 = .ok (.aload_n 0, 1) := by decide +kernel
theorem dX10_goTo_18 : decode cX10_goTo 18 = .ok (.getfield 13, 3) := by decide +kernel
theorem dX10_goTo_21 : decode cX10_goTo 21 = .ok (.bipush 38, 2) := by decide +kernel
theorem dX10_goTo_23 : decode cX10_goTo 23 = .ok (.iload_n 1, 1) := by decide +kernel
theorem dX10_goTo_24 : decode cX10_goTo 24 = .ok (.iadd, 1) := by decide +kernel
theorem dX10_goTo_25 : decode cX10_goTo 25 = .ok (.iaload, 1) := by decide +kernel
theorem dX10_goTo_26 : decode cX10_goTo 26 = .ok (.isub, 1) := by decide +kernel
theorem dX10_goTo_27 : decode cX10_goTo 27 = .ok (.istore_n 3, 1) := by decide +kernel
theorem dX10_goTo_28 : decode cX10_goTo 28 = .ok (.iload_n 3, 1) := by decide +kernel
theorem dX10_goTo_29 : decode cX10_goTo 29 = .ok (.ifCond .eq 29, 3) := by decide +kernel
theorem dX10_goTo_32 : decode cX10_goTo 32 = .ok (.iload_n 3, 1) := by decide +kernel
theorem dX10_goTo_33 : decode cX10_goTo 33 = .ok (.aload_n 0, 1) := by decide +kernel
theorem dX10_goTo_34 : decode cX10_goTo 34 = .ok (.getfield 13, 3) := by decide +kernel
theorem dX10_goTo_37 : decode cX10_goTo 37 = .ok (.bipush 26, 2) := by decide +kernel
theorem dX10_goTo_39 : decode cX10_goTo 39 = .ok (.iload_n 1, 1) := by decide +kernel
theorem dX10_goTo_40 : decode cX10_goTo 40 = .ok (.iadd, 1) := by decide +kernel
theorem dX10_goTo_41 : decode cX10_goTo 41 = .ok (.iaload, 1) := by decide +kernel
theorem dX10_goTo_42 : decode cX10_goTo 42 = .ok (.ineg, 1) := by decide +kernel
theorem dX10_goTo_43 : decode cX10_goTo 43 = .ok (.aload_n 0, 1) := by decide +kernel
theorem dX10_goTo_44 : decode cX10_goTo 44 = .ok (.getfield 13, 3) := by decide +kernel
theorem dX10_goTo_47 : decode cX10_goTo 47 = .ok (.bipush 26, 2) := by decide +kernel
theorem dX10_goTo_49 : decode cX10_goTo 49 = .ok (.iload_n 1, 1) := by decide +kernel
theorem dX10_goTo_50 : decode cX10_goTo 50 = .ok (.iadd, 1) := by decide +kernel
theorem dX10_goTo_51 : decode cX10_goTo 51 = .ok (.iaload, 1) := by decide +kernel
theorem dX10_goTo_52 : decode cX10_goTo 52 = .ok (.invokestatic 48, 3) := by decide +kernel
theorem dX10_goTo_55 : decode cX10_goTo 55 = .ok (.ifCond .ne 5, 3) := by decide +kernel
theorem dX10_goTo_58 : decode cX10_goTo 58 = .ok (.iconst 2, 1) := by decide +kernel
theorem dX10_goTo_59 : decode cX10_goTo 59 = .ok (.ireturn, 1) := by decide +kernel
theorem dX10_goTo_60 : decode cX10_goTo 60 = .ok (.iload_n 2, 1) := by decide +kernel
theorem dX10_goTo_61 : decode cX10_goTo 61 = .ok (.invokestatic 73, 3) := by decide +kernel
theorem dX10_goTo_64 : decode cX10_goTo 64 = .ok (.ifCond .eq 34, 3) := by decide +kernel
theorem dX10_goTo_67 : decode cX10_goTo 67 = .ok (.aload_n 0, 1) := by decide +kernel
theorem dX10_goTo_68 : decode cX10_goTo 68 = .ok (.iload_n 2, 1) := by decide +kernel
theorem dX10_goTo_69 : decode cX10_goTo 69 = .ok (.invokevirtual 69, 3) := by decide +kernel
theorem dX10_goTo_72 : decode cX10_goTo 72 = .ok (.ifCond .eq 5, 3) := by decide +kernel
theorem dX10_goTo_75 : decode cX10_goTo 75 = .ok (.iconst 3, 1) := by decide +kernel
theorem dX10_goTo_76 : decode cX10_goTo 76 = .ok (.ireturn, 1) := by decide +kernel
theorem dX10_goTo_77 : decode cX10_goTo 77 = .ok (.aload_n 0, 1) := by decide +kernel
theorem dX10_goTo_78 : decode cX10_goTo 78 = .ok (.iload_n 1, 1) := by decide +kernel
theorem dX10_goTo_79 : decode cX10_goTo 79 = .ok (.iload_n 2, 1) := by decide +kernel
theorem dX10_goTo_80 : decode cX10_goTo 80 = .ok (.invokevirtual 90, 3) := by decide +kernel
theorem dX10_goTo_83 : decode cX10_goTo 83 = .ok (.ifCond .ne 5, 3) := by decide +kernel
theorem dX10_goTo_86 : decode cX10_goTo 86 = .ok (.iconst 4, 1) := by decide +kernel
theorem dX10_goTo_87 : decode cX10_goTo 87 = .ok (.ireturn, 1) := by decide +kernel
theorem dX10_goTo_88 : decode cX10_goTo 88 = .ok (.aload_n 0, 1) := by decide +kernel
theorem dX10_goTo_89 : decode cX10_goTo 89 = .ok (.iload_n 2, 1) := by decide +kernel
theorem dX10_goTo_90 : decode cX10_goTo 90 = .ok (.invokevirtual 93, 3) := by decide +kernel
theorem dX10_goTo_93 : decode cX10_goTo 93 = .ok (.ifCond .lt 5, 3) := by decide +kernel
theorem dX10_goTo_96 : decode cX10_goTo 96 = .ok (.iconst 5, 1) := by decide +kernel
theorem dX10_goTo_97 : decode cX10_goTo 97 = .ok (.ireturn, 1) := by decide +kernel
theorem dX10_goTo_98 : decode cX10_goTo 98 = .ok (.aload_n 0, 1) := by decide +kernel
theorem dX10_goTo_99 : decode cX10_goTo 99 = .ok (.getfield 13, 3) := by decide +kernel
theorem dX10_goTo_102 : decode cX10_goTo 102 = .ok (.bipush 38, 2) := by decide +kernel
theorem dX10_goTo_104 : decode cX10_goTo 104 = .ok (.iload_n 1, 1) := by decide +kernel
theorem dX10_goTo_105 : decode cX10_goTo 105 = .ok (.iadd, 1) := by decide +kernel
theorem dX10_goTo_106 : decode cX10_goTo 106 = .ok (.iload_n 2, 1) := by decide +kernel
theorem dX10_goTo_107 : decode cX10_goTo 107 = .ok (.iastore, 1) := by decide +kernel
theorem dX10_goTo_108 : decode cX10_goTo 108 = .ok (.aload_n 0, 1) := by decide +kernel
theorem dX10_goTo_109 : decode cX10_goTo 109 = .ok (.getfield 13, 3) := by decide +kernel
theorem dX10_goTo_112 : decode cX10_goTo 112 = .ok (.bipush 44, 2) := by decide +kernel
theorem dX10_goTo_114 : decode cX10_goTo 114 = .ok (.dup2, 1) := by decide +kernel
theorem dX10_goTo_115 : decode cX10_goTo 115 = .ok (.iaload, 1) := by decide +kernel
theorem dX10_goTo_116 : decode cX10_goTo 116 = .ok (.iconst 1, 1) := by decide +kernel
theorem dX10_goTo_117 : decode cX10_goTo 117 = .ok (.iload_n 1, 1) := by decide +kernel
theorem dX10_goTo_118 : decode cX10_goTo 118 = .ok (.ishl, 1) := by decide +kernel
theorem dX10_goTo_119 : decode cX10_goTo 119 = .ok (.ior, 1) := by decide +kernel
theorem dX10_goTo_120 : decode cX10_goTo 120 = .ok (.iastore, 1) := by decide +kernel
theorem dX10_goTo_121 : decode cX10_goTo 121 = .ok (.aload_n 0, 1) := by decide +kernel
theorem dX10_goTo_122 : decode cX10_goTo 122 = .ok (.dup, 1) := by decide +kernel
theorem dX10_goTo_123 : decode cX10_goTo 123 = .ok (.getfield 52, 3) := by decide +kernel
theorem dX10_goTo_126 : decode cX10_goTo 126 = .ok (.iconst 1, 1) := by decide +kernel
theorem dX10_goTo_127 : decode cX10_goTo 127 = .ok (.iadd, 1) := by decide +kernel
theorem dX10_goTo_128 : decode cX10_goTo 128 = .ok (.putfield 52, 3) := by decide +kernel
theorem dX10_goTo_131 : decode cX10_goTo 131 = .ok (.iconst 0, 1) := by decide +kernel
theorem dX10_goTo_132 : decode cX10_goTo 132 = .ok (.ireturn, 1) := by decide +kernel
theorem dX10_leaseTo_0 : decode cX10_leaseTo 0 = .ok (.aload_n 0, 1) := by decide +kernel
theorem dX10_leaseTo_1 : decode cX10_leaseTo 1 = .ok (.iload_n 2, 1) := by decide +kernel
theorem dX10_leaseTo_2 : decode cX10_leaseTo 2 = .ok (.invokevirtual 69, 3) := by decide +kernel
theorem dX10_leaseTo_5 : decode cX10_leaseTo 5 = .ok (.ifCond .eq 5, 3) := by decide +kernel
theorem dX10_leaseTo_8 : decode cX10_leaseTo 8 = .ok (.iconst 3, 1) := by decide +kernel
theorem dX10_leaseTo_9 : decode cX10_leaseTo 9 = .ok (.ireturn, 1) := by decide +kernel
theorem dX10_leaseTo_10 : decode cX10_leaseTo 10 = .ok (.aload_n 0, 1) := by decide +kernel
theorem dX10_leaseTo_11 : decode cX10_leaseTo 11 = .ok (.getfield 13, 3) := by decide +kernel
theorem dX10_leaseTo_14 : decode cX10_leaseTo 14 = .ok (.iload_n 2, 1) := by decide +kernel
theorem dX10_leaseTo_15 : decode cX10_leaseTo 15 = .ok (.iaload, 1) := by decide +kernel
theorem dX10_leaseTo_16 : decode cX10_leaseTo 16 = .ok (.iload_n 1, 1) := by decide +kernel
theorem dX10_leaseTo_17 : decode cX10_leaseTo 17 = .ok (.if_icmp .eq 12, 3) := by decide +kernel
theorem dX10_leaseTo_20 : decode cX10_leaseTo 20 = .ok (.aload_n 0, 1) := by decide +kernel
theorem dX10_leaseTo_21 : decode cX10_leaseTo 21 = .ok (.getfield 13, 3) := by decide +kernel
theorem dX10_leaseTo_24 : decode cX10_leaseTo 24 = .ok (.iload_n 2, 1) := by decide +kernel
theorem dX10_leaseTo_25 : decode cX10_leaseTo 25 = .ok (.iaload, 1) := by decide +kernel
theorem dX10_leaseTo_26 : decode cX10_leaseTo 26 = .ok (.ifCond .ge 6, 3) := by decide +kernel
theorem dX10_leaseTo_29 : decode cX10_leaseTo 29 = .ok (.bipush 6, 2) := by decide +kernel
theorem dX10_leaseTo_31 : decode cX10_leaseTo 31 = .ok (.ireturn, 1) := by decide +kernel
theorem dX10_leaseTo_32 : decode cX10_leaseTo 32 = .ok (.aload_n 0, 1) := by decide +kernel
theorem dX10_leaseTo_33 : decode cX10_leaseTo 33 = .ok (.getfield 13, 3) := by decide +kernel
theorem dX10_leaseTo_36 : decode cX10_leaseTo 36 = .ok (.bipush 13, 2) := by decide +kernel
theorem dX10_leaseTo_38 : decode cX10_leaseTo 38 = .ok (.iload_n 2, 1) := by decide +kernel
theorem dX10_leaseTo_39 : decode cX10_leaseTo 39 = .ok (.iadd, 1) := by decide +kernel
theorem dX10_leaseTo_40 : decode cX10_leaseTo 40 = .ok (.iaload, 1) := by decide +kernel
theorem dX10_leaseTo_41 : decode cX10_leaseTo 41 = .ok (.ifCond .lt 6, 3) := by decide +kernel
theorem dX10_leaseTo_44 : decode cX10_leaseTo 44 = .ok (.bipush 7, 2) := by decide +kernel
theorem dX10_leaseTo_46 : decode cX10_leaseTo 46 = .ok (.ireturn, 1) := by decide +kernel
theorem dX10_leaseTo_47 : decode cX10_leaseTo 47 = .ok (.aload_n 0, 1) := by decide +kernel
theorem dX10_leaseTo_48 : decode cX10_leaseTo 48 = .ok (.getfield 13, 3) := by decide +kernel
theorem dX10_leaseTo_51 : decode cX10_leaseTo 51 = .ok (.bipush 32, 2) := by decide +kernel
theorem dX10_leaseTo_53 : decode cX10_leaseTo 53 = .ok (.iload_n 1, 1) := by decide +kernel
theorem dX10_leaseTo_54 : decode cX10_leaseTo 54 = .ok (.iadd, 1) := by decide +kernel
theorem dX10_leaseTo_55 : decode cX10_leaseTo 55 = .ok (.iaload, 1) := by decide +kernel
theorem dX10_leaseTo_56 : decode cX10_leaseTo 56 = .ok (.ifCond .ne 6, 3) := by decide +kernel
theorem dX10_leaseTo_59 : decode cX10_leaseTo 59 = .ok (.bipush 8, 2) := by decide +kernel
theorem dX10_leaseTo_61 : decode cX10_leaseTo 61 = .ok (.ireturn, 1) := by decide +kernel
theorem dX10_leaseTo_62 : decode cX10_leaseTo 62 = .ok (.aload_n 0, 1) := by decide +kernel
theorem dX10_leaseTo_63 : decode cX10_leaseTo 63 = .ok (.getfield 13, 3) := by decide +kernel
theorem dX10_leaseTo_66 : decode cX10_leaseTo 66 = .ok (.bipush 32, 2) := by decide +kernel
theorem dX10_leaseTo_68 : decode cX10_leaseTo 68 = .ok (.iload_n 1, 1) := by decide +kernel
theorem dX10_leaseTo_69 : decode cX10_leaseTo 69 = .ok (.iadd, 1) := by decide +kernel
theorem dX10_leaseTo_70 : decode cX10_leaseTo 70 = .ok (.dup2, 1) := by decide +kernel
theorem dX10_leaseTo_71 : decode cX10_leaseTo 71 = .ok (.iaload, 1) := by decide +kernel
theorem dX10_leaseTo_72 : decode cX10_leaseTo 72 = .ok (.iconst 1, 1) := by decide +kernel
theorem dX10_leaseTo_73 : decode cX10_leaseTo 73 = .ok (.isub, 1) := by decide +kernel
theorem dX10_leaseTo_74 : decode cX10_leaseTo 74 = .ok (.iastore, 1) := by decide +kernel
theorem dX10_leaseTo_75 : decode cX10_leaseTo 75 = .ok (.aload_n 0, 1) := by decide +kernel
theorem dX10_leaseTo_76 : decode cX10_leaseTo 76 = .ok (.getfield 13, 3) := by decide +kernel
theorem dX10_leaseTo_79 : decode cX10_leaseTo 79 = .ok (.bipush 32, 2) := by decide +kernel
theorem dX10_leaseTo_81 : decode cX10_leaseTo 81 = .ok (.aload_n 0, 1) := by decide +kernel
theorem dX10_leaseTo_82 : decode cX10_leaseTo 82 = .ok (.getfield 13, 3) := by decide +kernel
theorem dX10_leaseTo_85 : decode cX10_leaseTo 85 = .ok (.iload_n 2, 1) := by decide +kernel
theorem dX10_leaseTo_86 : decode cX10_leaseTo 86 = .ok (.iaload, 1) := by decide +kernel
theorem dX10_leaseTo_87 : decode cX10_leaseTo 87 = .ok (.iadd, 1) := by decide +kernel
theorem dX10_leaseTo_88 : decode cX10_leaseTo 88 = .ok (.dup2, 1) := by decide +kernel
theorem dX10_leaseTo_89 : decode cX10_leaseTo 89 = .ok (.iaload, 1) := by decide +kernel
theorem dX10_leaseTo_90 : decode cX10_leaseTo 90 = .ok (.iconst 1, 1) := by decide +kernel
theorem dX10_leaseTo_91 : decode cX10_leaseTo 91 = .ok (.iadd, 1) := by decide +kernel
theorem dX10_leaseTo_92 : decode cX10_leaseTo 92 = .ok (.iastore, 1) := by decide +kernel
theorem dX10_leaseTo_93 : decode cX10_leaseTo 93 = .ok (.aload_n 0, 1) := by decide +kernel
theorem dX10_leaseTo_94 : decode cX10_leaseTo 94 = .ok (.getfield 13, 3) := by decide +kernel
theorem dX10_leaseTo_97 : decode cX10_leaseTo 97 = .ok (.bipush 13, 2) := by decide +kernel
theorem dX10_leaseTo_99 : decode cX10_leaseTo 99 = .ok (.iload_n 2, 1) := by decide +kernel
theorem dX10_leaseTo_100 : decode cX10_leaseTo 100 = .ok (.iadd, 1) := by decide +kernel
theorem dX10_leaseTo_101 : decode cX10_leaseTo 101 = .ok (.iload_n 1, 1) := by decide +kernel
theorem dX10_leaseTo_102 : decode cX10_leaseTo 102 = .ok (.iastore, 1) := by decide +kernel
theorem dX10_leaseTo_103 : decode cX10_leaseTo 103 = .ok (.aload_n 0, 1) := by decide +kernel
theorem dX10_leaseTo_104 : decode cX10_leaseTo 104 = .ok (.dup, 1) := by decide +kernel
theorem dX10_leaseTo_105 : decode cX10_leaseTo 105 = .ok (.getfield 56, 3) := by decide +kernel
theorem dX10_leaseTo_108 : decode cX10_leaseTo 108 = .ok (.iconst 1, 1) := by decide +kernel
theorem dX10_leaseTo_109 : decode cX10_leaseTo 109 = .ok (.iadd, 1) := by decide +kernel
theorem dX10_leaseTo_110 : decode cX10_leaseTo 110 = .ok (.putfield 56, 3) := by decide +kernel
theorem dX10_leaseTo_113 : decode cX10_leaseTo 113 = .ok (.iconst 0, 1) := by decide +kernel
theorem dX10_leaseTo_114 : decode cX10_leaseTo 114 = .ok (.ireturn, 1) := by decide +kernel
theorem dX10_lose_0 : decode cX10_lose 0 = .ok (.aload_n 0, 1) := by decide +kernel
theorem dX10_lose_1 : decode cX10_lose 1 = .ok (.iload_n 1, 1) := by decide +kernel
theorem dX10_lose_2 : decode cX10_lose 2 = .ok (.invokevirtual 69, 3) := by decide +kernel
theorem dX10_lose_5 : decode cX10_lose 5 = .ok (.iload_n 2, 1) := by decide +kernel
theorem dX10_lose_6 : decode cX10_lose 6 = .ok (.if_icmp .ne 6, 3) := by decide +kernel
theorem dX10_lose_9 : decode cX10_lose 9 = .ok (.bipush 9, 2) := by decide +kernel
theorem dX10_lose_11 : decode cX10_lose 11 = .ok (.ireturn, 1) := by decide +kernel
theorem dX10_lose_12 : decode cX10_lose 12 = .ok (.aload_n 0, 1) := by decide +kernel
theorem dX10_lose_13 : decode cX10_lose 13 = .ok (.getfield 13, 3) := by decide +kernel
theorem dX10_lose_16 : decode cX10_lose 16 = .ok (.bipush 45, 2) := by decide +kernel
theorem dX10_lose_18 : decode cX10_lose 18 = .ok (.dup2, 1) := by decide +kernel
theorem dX10_lose_19 : decode cX10_lose 19 = .ok (.iaload, 1) := by decide +kernel
theorem dX10_lose_20 : decode cX10_lose 20 = .ok (.iconst 1, 1) := by decide +kernel
theorem dX10_lose_21 : decode cX10_lose 21 = .ok (.iload_n 1, 1) := by decide +kernel
theorem dX10_lose_22 : decode cX10_lose 22 = .ok (.ishl, 1) := by decide +kernel
theorem dX10_lose_23 : decode cX10_lose 23 = .ok (.ixor, 1) := by decide +kernel
theorem dX10_lose_24 : decode cX10_lose 24 = .ok (.iastore, 1) := by decide +kernel
theorem dX10_lose_25 : decode cX10_lose 25 = .ok (.aload_n 0, 1) := by decide +kernel
theorem dX10_lose_26 : decode cX10_lose 26 = .ok (.getfield 13, 3) := by decide +kernel
theorem dX10_lose_29 : decode cX10_lose 29 = .ok (.iload_n 1, 1) := by decide +kernel
theorem dX10_lose_30 : decode cX10_lose 30 = .ok (.bipush (-6), 2) := by decide +kernel
theorem dX10_lose_32 : decode cX10_lose 32 = .ok (.iastore, 1) := by decide +kernel
theorem dX10_lose_33 : decode cX10_lose 33 = .ok (.aload_n 0, 1) := by decide +kernel
theorem dX10_lose_34 : decode cX10_lose 34 = .ok (.getfield 13, 3) := by decide +kernel
theorem dX10_lose_37 : decode cX10_lose 37 = .ok (.bipush 13, 2) := by decide +kernel
theorem dX10_lose_39 : decode cX10_lose 39 = .ok (.iload_n 1, 1) := by decide +kernel
theorem dX10_lose_40 : decode cX10_lose 40 = .ok (.iadd, 1) := by decide +kernel
theorem dX10_lose_41 : decode cX10_lose 41 = .ok (.bipush (-6), 2) := by decide +kernel
theorem dX10_lose_43 : decode cX10_lose 43 = .ok (.iastore, 1) := by decide +kernel
theorem dX10_lose_44 : decode cX10_lose 44 = .ok (.iconst 0, 1) := by decide +kernel
theorem dX10_lose_45 : decode cX10_lose 45 = .ok (.ireturn, 1) := by decide +kernel
theorem dX10_endBeat_0 : decode cX10_endBeat 0 = .ok (.aload_n 0, 1) := by decide +kernel
theorem dX10_endBeat_1 : decode cX10_endBeat 1 = .ok (.getfield 13, 3) := by decide +kernel
theorem dX10_endBeat_4 : decode cX10_endBeat 4 = .ok (.bipush 46, 2) := by decide +kernel
theorem dX10_endBeat_6 : decode cX10_endBeat 6 = .ok (.iaload, 1) := by decide +kernel
theorem dX10_endBeat_7 : decode cX10_endBeat 7 = .ok (.bipush 99, 2) := by decide +kernel
theorem dX10_endBeat_9 : decode cX10_endBeat 9 = .ok (.if_icmp .ne 6, 3) := by decide +kernel
theorem dX10_endBeat_12 : decode cX10_endBeat 12 = .ok (.bipush 10, 2) := by decide +kernel
theorem dX10_endBeat_14 : decode cX10_endBeat 14 = .ok (.ireturn, 1) := by decide +kernel
theorem dX10_endBeat_15 : decode cX10_endBeat 15 = .ok (.aload_n 0, 1) := by decide +kernel
theorem dX10_endBeat_16 : decode cX10_endBeat 16 = .ok (.getfield 13, 3) := by decide +kernel
theorem dX10_endBeat_19 : decode cX10_endBeat 19 = .ok (.bipush 46, 2) := by decide +kernel
theorem dX10_endBeat_21 : decode cX10_endBeat 21 = .ok (.dup2, 1) := by decide +kernel
theorem dX10_endBeat_22 : decode cX10_endBeat 22 = .ok (.iaload, 1) := by decide +kernel
theorem dX10_endBeat_23 : decode cX10_endBeat 23 = .ok (.iconst 1, 1) := by decide +kernel
theorem dX10_endBeat_24 : decode cX10_endBeat 24 = .ok (.iadd, 1) := by decide +kernel
theorem dX10_endBeat_25 : decode cX10_endBeat 25 = .ok (.iastore, 1) := by decide +kernel
theorem dX10_endBeat_26 : decode cX10_endBeat 26 = .ok (.aload_n 0, 1) := by decide +kernel
theorem dX10_endBeat_27 : decode cX10_endBeat 27 = .ok (.getfield 13, 3) := by decide +kernel
theorem dX10_endBeat_30 : decode cX10_endBeat 30 = .ok (.bipush 44, 2) := by decide +kernel
theorem dX10_endBeat_32 : decode cX10_endBeat 32 = .ok (.iconst 0, 1) := by decide +kernel
theorem dX10_endBeat_33 : decode cX10_endBeat 33 = .ok (.iastore, 1) := by decide +kernel
theorem dX10_endBeat_34 : decode cX10_endBeat 34 = .ok (.iconst 0, 1) := by decide +kernel
theorem dX10_endBeat_35 : decode cX10_endBeat 35 = .ok (.ireturn, 1) := by decide +kernel
theorem dX10_oneAct_0 : decode cX10_oneAct 0 = .ok (.aload_n 0, 1) := by decide +kernel
theorem dX10_oneAct_1 : decode cX10_oneAct 1 = .ok (.getfield 19, 3) := by decide +kernel
theorem dX10_oneAct_4 : decode cX10_oneAct 4 = .ok (.iload_n 1, 1) := by decide +kernel
theorem dX10_oneAct_5 : decode cX10_oneAct 5 = .ok (.iaload, 1) := by decide +kernel
theorem dX10_oneAct_6 : decode cX10_oneAct 6 = .ok (.istore_n 2, 1) := by decide +kernel
theorem dX10_oneAct_7 : decode cX10_oneAct 7 = .ok (.iload_n 2, 1) := by decide +kernel
theorem dX10_oneAct_8 : decode cX10_oneAct 8 = .ok (.bipush 46, 2) := by decide +kernel
theorem dX10_oneAct_10 : decode cX10_oneAct 10 = .ok (.if_icmp .ne 8, 3) := by decide +kernel
theorem dX10_oneAct_13 : decode cX10_oneAct 13 = .ok (.aload_n 0, 1) := by decide +kernel
theorem dX10_oneAct_14 : decode cX10_oneAct 14 = .ok (.invokevirtual 97, 3) := by decide +kernel
theorem dX10_oneAct_17 : decode cX10_oneAct 17 = .ok (.ireturn, 1) := by decide +kernel
theorem dX10_oneAct_18 : decode cX10_oneAct 18 = .ok (.aload_n 0, 1) := by decide +kernel
theorem dX10_oneAct_19 : decode cX10_oneAct 19 = .ok (.getfield 19, 3) := by decide +kernel
theorem dX10_oneAct_22 : decode cX10_oneAct 22 = .ok (.iload_n 1, 1) := by decide +kernel
theorem dX10_oneAct_23 : decode cX10_oneAct 23 = .ok (.iconst 1, 1) := by decide +kernel
theorem dX10_oneAct_24 : decode cX10_oneAct 24 = .ok (.iadd, 1) := by decide +kernel
theorem dX10_oneAct_25 : decode cX10_oneAct 25 = .ok (.iaload, 1) := by decide +kernel
theorem dX10_oneAct_26 : decode cX10_oneAct 26 = .ok (.istore_n 3, 1) := by decide +kernel
theorem dX10_oneAct_27 : decode cX10_oneAct 27 = .ok (.iload_n 2, 1) := by decide +kernel
theorem dX10_oneAct_28 : decode cX10_oneAct 28 = .ok (.bipush 107, 2) := by decide +kernel
theorem dX10_oneAct_30 : decode cX10_oneAct 30 = .ok (.if_icmp .eq 9, 3) := by decide +kernel
theorem dX10_oneAct_33 : decode cX10_oneAct 33 = .ok (.iload_n 2, 1) := by decide +kernel
theorem dX10_oneAct_34 : decode cX10_oneAct 34 = .ok (.bipush 43, 2) := by decide +kernel
theorem dX10_oneAct_36 : decode cX10_oneAct 36 = .ok (.if_icmp .ne 25, 3) := by decide +kernel
theorem dX10_oneAct_39 : decode cX10_oneAct 39 = .ok (.aload_n 0, 1) := by decide +kernel
theorem dX10_oneAct_40 : decode cX10_oneAct 40 = .ok (.iload_n 3, 1) := by decide +kernel
theorem dX10_oneAct_41 : decode cX10_oneAct 41 = .ok (.bipush 97, 2) := by decide +kernel
theorem dX10_oneAct_43 : decode cX10_oneAct 43 = .ok (.isub, 1) := by decide +kernel
theorem dX10_oneAct_44 : decode cX10_oneAct 44 = .ok (.iconst 1, 1) := by decide +kernel
theorem dX10_oneAct_45 : decode cX10_oneAct 45 = .ok (.iadd, 1) := by decide +kernel
theorem dX10_oneAct_46 : decode cX10_oneAct 46 = .ok (.iload_n 2, 1) := by decide +kernel
theorem dX10_oneAct_47 : decode cX10_oneAct 47 = .ok (.bipush 107, 2) := by decide +kernel
theorem dX10_oneAct_49 : decode cX10_oneAct 49 = .ok (.if_icmp .ne 7, 3) := by decide +kernel
theorem dX10_oneAct_52 : decode cX10_oneAct 52 = .ok (.iconst 1, 1) := by decide +kernel
theorem dX10_oneAct_53 : decode cX10_oneAct 53 = .ok (.goto 4, 3) := by decide +kernel
theorem dX10_oneAct_56 : decode cX10_oneAct 56 = .ok (.iconst 0, 1) := by decide +kernel
theorem dX10_oneAct_57 : decode cX10_oneAct 57 = .ok (.invokevirtual 100, 3) := by decide +kernel
theorem dX10_oneAct_60 : decode cX10_oneAct 60 = .ok (.ireturn, 1) := by decide +kernel
theorem dX10_oneAct_61 : decode cX10_oneAct 61 = .ok (.iload_n 2, 1) := by decide +kernel
theorem dX10_oneAct_62 : decode cX10_oneAct 62 = .ok (.bipush 65, 2) := by decide +kernel
theorem dX10_oneAct_64 : decode cX10_oneAct 64 = .ok (.isub, 1) := by decide +kernel
theorem dX10_oneAct_65 : decode cX10_oneAct 65 = .ok (.istore 4, 2) := by decide +kernel
theorem dX10_oneAct_67 : decode cX10_oneAct 67 = .ok (.iload_n 3, 1) := by decide +kernel
theorem dX10_oneAct_68 : decode cX10_oneAct 68 = .ok (.bipush 37, 2) := by decide +kernel
theorem dX10_oneAct_70 : decode cX10_oneAct 70 = .ok (.if_icmp .ne 25, 3) := by decide +kernel
theorem dX10_oneAct_73 : decode cX10_oneAct 73 = .ok (.aload_n 0, 1) := by decide +kernel
theorem dX10_oneAct_74 : decode cX10_oneAct 74 = .ok (.iload 4, 2) := by decide +kernel
theorem dX10_oneAct_76 : decode cX10_oneAct 76 = .ok (.aload_n 0, 1) := by decide +kernel
theorem dX10_oneAct_77 : decode cX10_oneAct 77 = .ok (.getfield 19, 3) := by decide +kernel
theorem dX10_oneAct_80 : decode cX10_oneAct 80 = .ok (.iload_n 1, 1) := by decide +kernel
theorem dX10_oneAct_81 : decode cX10_oneAct 81 = .ok (.iconst 2, 1) := by decide +kernel
theorem dX10_oneAct_82 : decode cX10_oneAct 82 = .ok (.iadd, 1) := by decide +kernel
theorem dX10_oneAct_83 : decode cX10_oneAct 83 = .ok (.iaload, 1) := by decide +kernel
theorem dX10_oneAct_84 : decode cX10_oneAct 84 = .ok (.bipush 97, 2) := by decide +kernel
theorem dX10_oneAct_86 : decode cX10_oneAct 86 = .ok (.isub, 1) := by decide +kernel
theorem dX10_oneAct_87 : decode cX10_oneAct 87 = .ok (.iconst 1, 1) := by decide +kernel
theorem dX10_oneAct_88 : decode cX10_oneAct 88 = .ok (.iadd, 1) := by decide +kernel
theorem dX10_oneAct_89 : decode cX10_oneAct 89 = .ok (.invokevirtual 104, 3) := by decide +kernel
theorem dX10_oneAct_92 : decode cX10_oneAct 92 = .ok (.goto 36, 3) := by decide +kernel
theorem dX10_oneAct_95 : decode cX10_oneAct 95 = .ok (.aload_n 0, 1) := by decide +kernel
theorem dX10_oneAct_96 : decode cX10_oneAct 96 = .ok (.iload 4, 2) := by decide +kernel
theorem dX10_oneAct_98 : decode cX10_oneAct 98 = .ok (.iload_n 3, 1) := by decide +kernel
theorem dX10_oneAct_99 : decode cX10_oneAct 99 = .ok (.bipush 94, 2) := by decide +kernel
theorem dX10_oneAct_101 : decode cX10_oneAct 101 = .ok (.if_icmp .ne 8, 3) := by decide +kernel
theorem dX10_oneAct_104 : decode cX10_oneAct 104 = .ok (.bipush 13, 2) := by decide +kernel
theorem dX10_oneAct_106 : decode cX10_oneAct 106 = .ok (.goto 19, 3) := by decide +kernel
theorem dX10_oneAct_109 : decode cX10_oneAct 109 = .ok (.iload_n 3, 1) := by decide +kernel
theorem dX10_oneAct_110 : decode cX10_oneAct 110 = .ok (.bipush 95, 2) := by decide +kernel
theorem dX10_oneAct_112 : decode cX10_oneAct 112 = .ok (.if_icmp .ne 7, 3) := by decide +kernel
theorem dX10_oneAct_115 : decode cX10_oneAct 115 = .ok (.iconst 0, 1) := by decide +kernel
theorem dX10_oneAct_116 : decode cX10_oneAct 116 = .ok (.goto 9, 3) := by decide +kernel
theorem dX10_oneAct_119 : decode cX10_oneAct 119 = .ok (.iload_n 3, 1) := by decide +kernel
theorem dX10_oneAct_120 : decode cX10_oneAct 120 = .ok (.bipush 97, 2) := by decide +kernel
theorem dX10_oneAct_122 : decode cX10_oneAct 122 = .ok (.isub, 1) := by decide +kernel
theorem dX10_oneAct_123 : decode cX10_oneAct 123 = .ok (.iconst 1, 1) := by decide +kernel
theorem dX10_oneAct_124 : decode cX10_oneAct 124 = .ok (.iadd, 1) := by decide +kernel
theorem dX10_oneAct_125 : decode cX10_oneAct 125 = .ok (.invokevirtual 107, 3) := by decide +kernel
theorem dX10_oneAct_128 : decode cX10_oneAct 128 = .ok (.ireturn, 1) := by decide +kernel
theorem dX10_roof_0 : decode cX10_roof 0 = .ok (.iconst 0, 1) := by decide +kernel
theorem dX10_roof_1 : decode cX10_roof 1 = .ok (.istore_n 1, 1) := by decide +kernel
theorem dX10_roof_2 : decode cX10_roof 2 = .ok (.iconst 0, 1) := by decide +kernel
theorem dX10_roof_3 : decode cX10_roof 3 = .ok (.istore_n 2, 1) := by decide +kernel
theorem dX10_roof_4 : decode cX10_roof 4 = .ok (.iload_n 2, 1) := by decide +kernel
theorem dX10_roof_5 : decode cX10_roof 5 = .ok (.bipush 6, 2) := by decide +kernel
theorem dX10_roof_7 : decode cX10_roof 7 = .ok (.if_icmp .ge 33, 3) := by decide +kernel
theorem dX10_roof_10 : decode cX10_roof 10 = .ok (.iload_n 1, 1) := by decide +kernel
theorem dX10_roof_11 : decode cX10_roof 11 = .ok (.aload_n 0, 1) := by decide +kernel
theorem dX10_roof_12 : decode cX10_roof 12 = .ok (.getfield 13, 3) := by decide +kernel
theorem dX10_roof_15 : decode cX10_roof 15 = .ok (.bipush 38, 2) := by decide +kernel
theorem dX10_roof_17 : decode cX10_roof 17 = .ok (.iload_n 2, 1) := by decide +kernel
theorem dX10_roof_18 : decode cX10_roof 18 = .ok (.iadd, 1) := by decide +kernel
theorem dX10_roof_19 : decode cX10_roof 19 = .ok (.iaload, 1) := by decide +kernel
theorem dX10_roof_20 : decode cX10_roof 20 = .ok (.bipush 13, 2) := by decide +kernel
theorem dX10_roof_22 : decode cX10_roof 22 = .ok (.if_icmp .ne 9, 3) := by decide +kernel
theorem dX10_roof_25 : decode cX10_roof 25 = .ok (.iconst 1, 1) := by decide +kernel
theorem dX10_roof_26 : decode cX10_roof 26 = .ok (.iload_n 2, 1) := by decide +kernel
theorem dX10_roof_27 : decode cX10_roof 27 = .ok (.ishl, 1) := by decide +kernel
theorem dX10_roof_28 : decode cX10_roof 28 = .ok (.goto 4, 3) := by decide +kernel
theorem dX10_roof_31 : decode cX10_roof 31 = .ok (.iconst 0, 1) := by decide +kernel
theorem dX10_roof_32 : decode cX10_roof 32 = .ok (.ior, 1) := by decide +kernel
theorem dX10_roof_33 : decode cX10_roof 33 = .ok (.istore_n 1, 1) := by decide +kernel
theorem dX10_roof_34 : decode cX10_roof 34 = .ok (.iinc 2 1, 3) := by decide +kernel
theorem dX10_roof_37 : decode cX10_roof 37 = .ok (.goto (-33), 3) := by decide +kernel
theorem dX10_roof_40 : decode cX10_roof 40 = .ok (.iload_n 1, 1) := by decide +kernel
theorem dX10_roof_41 : decode cX10_roof 41 = .ok (.ireturn, 1) := by decide +kernel
theorem dX10_goFires_0 : decode cX10_goFires 0 = .ok (.aload_n 0, 1) := by decide +kernel
theorem dX10_goFires_1 : decode cX10_goFires 1 = .ok (.invokevirtual 110, 3) := by decide +kernel
theorem dX10_goFires_4 : decode cX10_goFires 4 = .ok (.aload_n 0, 1) := by decide +kernel
theorem dX10_goFires_5 : decode cX10_goFires 5 = .ok (.iconst 0, 1) := by decide +kernel
theorem dX10_goFires_6 : decode cX10_goFires 6 = .ok (.putfield 113, 3) := by decide +kernel
theorem dX10_goFires_9 : decode cX10_goFires 9 = .ok (.iconst 0, 1) := by decide +kernel
theorem dX10_goFires_10 : decode cX10_goFires 10 = .ok (.istore_n 1, 1) := by decide +kernel
theorem dX10_goFires_11 : decode cX10_goFires 11 = .ok (.iload_n 1, 1) := by decide +kernel
theorem dX10_goFires_12 : decode cX10_goFires 12 = .ok (.aload_n 0, 1) := by decide +kernel
theorem dX10_goFires_13 : decode cX10_goFires 13 = .ok (.getfield 79, 3) := by decide +kernel
theorem dX10_goFires_16 : decode cX10_goFires 16 = .ok (.if_icmp .ge 133, 3) := by decide +kernel
theorem dX10_goFires_19 : decode cX10_goFires 19 = .ok (.aload_n 0, 1) := by decide +kernel
theorem dX10_goFires_20 : decode cX10_goFires 20 = .ok (.invokevirtual 116, 3) := by decide +kernel
theorem dX10_goFires_23 : decode cX10_goFires 23 = .ok (.istore_n 2, 1) := by decide +kernel
theorem dX10_goFires_24 : decode cX10_goFires 24 = .ok (.aload_n 0, 1) := by decide +kernel
theorem dX10_goFires_25 : decode cX10_goFires 25 = .ok (.aload_n 0, 1) := by decide +kernel
theorem dX10_goFires_26 : decode cX10_goFires 26 = .ok (.iload_n 1, 1) := by decide +kernel
theorem dX10_goFires_27 : decode cX10_goFires 27 = .ok (.invokevirtual 119, 3) := by decide +kernel
theorem dX10_goFires_30 : decode cX10_goFires 30 = .ok (.putfield 122, 3) := by decide +kernel
theorem dX10_goFires_33 : decode cX10_goFires 33 = .ok (.iload_n 1, 1) := by decide +kernel
theorem dX10_goFires_34 : decode cX10_goFires 34 = .ok (.aload_n 0, 1) := by decide +kernel
theorem dX10_goFires_35 : decode cX10_goFires 35 = .ok (.getfield 19, 3) := by decide +kernel
theorem dX10_goFires_38 : decode cX10_goFires 38 = .ok (.iload_n 1, 1) := by decide +kernel
theorem dX10_goFires_39 : decode cX10_goFires 39 = .ok (.iaload, 1) := by decide +kernel
theorem dX10_goFires_40 : decode cX10_goFires 40 = .ok (.bipush 46, 2) := by decide +kernel
theorem dX10_goFires_42 : decode cX10_goFires 42 = .ok (.if_icmp .ne 7, 3) := by decide +kernel
theorem dX10_goFires_45 : decode cX10_goFires 45 = .ok (.iconst 1, 1) := by decide +kernel
theorem dX10_goFires_46 : decode cX10_goFires 46 = .ok (.goto 21, 3) := by decide +kernel
theorem dX10_goFires_49 : decode cX10_goFires 49 = .ok (.aload_n 0, 1) := by decide +kernel
theorem dX10_goFires_50 : decode cX10_goFires 50 = .ok (.getfield 19, 3) := by decide +kernel
theorem dX10_goFires_53 : decode cX10_goFires 53 = .ok (.iload_n 1, 1) := by decide +kernel
theorem dX10_goFires_54 : decode cX10_goFires 54 = .ok (.iconst 1, 1) := by decide +kernel
theorem dX10_goFires_55 : decode cX10_goFires 55 = .ok (.iadd, 1) := by decide +kernel
theorem dX10_goFires_56 : decode cX10_goFires 56 = .ok (.iaload, 1) := by decide +kernel
theorem dX10_goFires_57 : decode cX10_goFires 57 = .ok (.bipush 37, 2) := by decide +kernel
theorem dX10_goFires_59 : decode cX10_goFires 59 = .ok (.if_icmp .ne 7, 3) := by decide +kernel
theorem dX10_goFires_62 : decode cX10_goFires 62 = .ok (.iconst 3, 1) := by decide +kernel
theorem dX10_goFires_63 : decode cX10_goFires 63 = .ok (.goto 4, 3) := by decide +kernel
theorem dX10_goFires_66 : decode cX10_goFires 66 = .ok (.iconst 2, 1) := by decide +kernel
theorem dX10_goFires_67 : decode cX10_goFires 67 = .ok (.iadd, 1) := by decide +kernel
theorem dX10_goFires_68 : decode cX10_goFires 68 = .ok (.istore_n 1, 1) := by decide +kernel
theorem dX10_goFires_69 : decode cX10_goFires 69 = .ok (.aload_n 0, 1) := by decide +kernel
theorem dX10_goFires_70 : decode cX10_goFires 70 = .ok (.getfield 122, 3) := by decide +kernel
theorem dX10_goFires_73 : decode cX10_goFires 73 = .ok (.ifCond .le 8, 3) := by decide +kernel
theorem dX10_goFires_76 : decode cX10_goFires 76 = .ok (.aload_n 0, 1) := by decide +kernel
theorem dX10_goFires_77 : decode cX10_goFires 77 = .ok (.getfield 113, 3) := by decide +kernel
theorem dX10_goFires_80 : decode cX10_goFires 80 = .ok (.ireturn, 1) := by decide +kernel
theorem dX10_goFires_81 : decode cX10_goFires 81 = .ok (.aload_n 0, 1) := by decide +kernel
theorem dX10_goFires_82 : decode cX10_goFires 82 = .ok (.invokevirtual 116, 3) := by decide +kernel
theorem dX10_goFires_85 : decode cX10_goFires 85 = .ok (.iload_n 2, 1) := by decide +kernel
theorem dX10_goFires_86 : decode cX10_goFires 86 = .ok (.iconst (-1), 1) := by decide +kernel
theorem dX10_goFires_87 : decode cX10_goFires 87 = .ok (.ixor, 1) := by decide +kernel
theorem dX10_goFires_88 : decode cX10_goFires 88 = .ok (.iand, 1) := by decide +kernel
theorem dX10_goFires_89 : decode cX10_goFires 89 = .ok (.istore_n 3, 1) := by decide +kernel
theorem dX10_goFires_90 : decode cX10_goFires 90 = .ok (.iconst 0, 1) := by decide +kernel
theorem dX10_goFires_91 : decode cX10_goFires 91 = .ok (.istore 4, 2) := by decide +kernel
theorem dX10_goFires_93 : decode cX10_goFires 93 = .ok (.iload 4, 2) := by decide +kernel
theorem dX10_goFires_95 : decode cX10_goFires 95 = .ok (.bipush 6, 2) := by decide +kernel
theorem dX10_goFires_97 : decode cX10_goFires 97 = .ok (.if_icmp .ge 39, 3) := by decide +kernel
theorem dX10_goFires_100 : decode cX10_goFires 100 = .ok (.aload_n 0, 1) := by decide +kernel
theorem dX10_goFires_101 : decode cX10_goFires 101 = .ok (.getfield 59, 3) := by decide +kernel
theorem dX10_goFires_104 : decode cX10_goFires 104 = .ok (.ifCond .ge 32, 3) := by decide +kernel
theorem dX10_goFires_107 : decode cX10_goFires 107 = .ok (.iload_n 3, 1) := by decide +kernel
theorem dX10_goFires_108 : decode cX10_goFires 108 = .ok (.iload 4, 2) := by decide +kernel
theorem dX10_goFires_110 : decode cX10_goFires 110 = .ok (.invokestatic 65, 3) := by decide +kernel
theorem dX10_goFires_113 : decode cX10_goFires 113 = .ok (.ifCond .eq 17, 3) := by decide +kernel
theorem dX10_goFires_116 : decode cX10_goFires 116 = .ok (.aload_n 0, 1) := by decide +kernel
theorem dX10_goFires_117 : decode cX10_goFires 117 = .ok (.aload_n 0, 1) := by decide +kernel
theorem dX10_goFires_118 : decode cX10_goFires 118 = .ok (.getfield 113, 3) := by decide +kernel
theorem dX10_goFires_121 : decode cX10_goFires 121 = .ok (.putfield 59, 3) := by decide +kernel
theorem dX10_goFires_124 : decode cX10_goFires 124 = .ok (.aload_n 0, 1) := by decide +kernel
theorem dX10_goFires_125 : decode cX10_goFires 125 = .ok (.iload 4, 2) := by decide +kernel
theorem dX10_goFires_127 : decode cX10_goFires 127 = .ok (.putfield 62, 3) := by decide +kernel
theorem dX10_goFires_130 : decode cX10_goFires 130 = .ok (.iinc 4 1, 3) := by decide +kernel
theorem dX10_goFires_133 : decode cX10_goFires 133 = .ok (.goto (-40), 3) := by decide +kernel
theorem dX10_goFires_136 : decode cX10_goFires 136 = .ok (.aload_n 0, 1) := by decide +kernel
theorem dX10_goFires_137 : decode cX10_goFires 137 = .ok (.dup, 1) := by decide +kernel
theorem dX10_goFires_138 : decode cX10_goFires 138 = .ok (.getfield 113, 3) := by decide +kernel
theorem dX10_goFires_141 : decode cX10_goFires 141 = .ok (.iconst 1, 1) := by decide +kernel
theorem dX10_goFires_142 : decode cX10_goFires 142 = .ok (.iadd, 1) := by decide +kernel
theorem dX10_goFires_143 : decode cX10_goFires 143 = .ok (.putfield 113, 3) := by decide +kernel
theorem dX10_goFires_146 : decode cX10_goFires 146 = .ok (.goto (-135), 3) := by decide +kernel
theorem dX10_goFires_149 : decode cX10_goFires 149 = .ok (.bipush (-6), 2) := by decide +kernel
theorem dX10_goFires_151 : decode cX10_goFires 151 = .ok (.ireturn, 1) := by decide +kernel
theorem dX10_judge_0 : decode cX10_judge 0 = .ok (.iload_n 1, 1) := by decide +kernel
theorem dX10_judge_1 : decode cX10_judge 1 = .ok (.iconst 0, 1) := by decide +kernel
theorem dX10_judge_2 : decode cX10_judge 2 = .ok (.iconst 1, 1) := by decide +kernel
theorem dX10_judge_3 : decode cX10_judge 3 = .ok (.invokestatic 48, 3) := by decide +kernel
theorem dX10_judge_6 : decode cX10_judge 6 = .ok (.ifCond .ne 6, 3) := by decide +kernel
theorem dX10_judge_9 : decode cX10_judge 9 = .ok (.bipush (-2), 2) := by decide +kernel
theorem dX10_judge_11 : decode cX10_judge 11 = .ok (.ireturn, 1) := by decide +kernel
theorem dX10_judge_12 : decode cX10_judge 12 = .ok (.aload_n 0, 1) := by decide +kernel
theorem dX10_judge_13 : decode cX10_judge 13 = .ok (.invokevirtual 86, 3) := by decide +kernel
theorem dX10_judge_16 : decode cX10_judge 16 = .ok (.ifCond .lt 6, 3) := by decide +kernel
theorem dX10_judge_19 : decode cX10_judge 19 = .ok (.bipush (-5), 2) := by decide +kernel
theorem dX10_judge_21 : decode cX10_judge 21 = .ok (.ireturn, 1) := by decide +kernel
theorem dX10_judge_22 : decode cX10_judge 22 = .ok (.aload_n 0, 1) := by decide +kernel
theorem dX10_judge_23 : decode cX10_judge 23 = .ok (.invokevirtual 125, 3) := by decide +kernel
theorem dX10_judge_26 : decode cX10_judge 26 = .ok (.istore_n 2, 1) := by decide +kernel
theorem dX10_judge_27 : decode cX10_judge 27 = .ok (.iload_n 2, 1) := by decide +kernel
theorem dX10_judge_28 : decode cX10_judge 28 = .ok (.ifCond .lt 7, 3) := by decide +kernel
theorem dX10_judge_31 : decode cX10_judge 31 = .ok (.iload_n 1, 1) := by decide +kernel
theorem dX10_judge_32 : decode cX10_judge 32 = .ok (.ifCond .ne 7, 3) := by decide +kernel
theorem dX10_judge_35 : decode cX10_judge 35 = .ok (.iload_n 2, 1) := by decide +kernel
theorem dX10_judge_36 : decode cX10_judge 36 = .ok (.goto 7, 3) := by decide +kernel
theorem dX10_judge_39 : decode cX10_judge 39 = .ok (.aload_n 0, 1) := by decide +kernel
theorem dX10_judge_40 : decode cX10_judge 40 = .ok (.getfield 122, 3) := by decide +kernel
theorem dX10_judge_43 : decode cX10_judge 43 = .ok (.ireturn, 1) := by decide +kernel
theorem dX10_barOfFires_0 : decode cX10_barOfFires 0 = .ok (.aload_n 0, 1) := by decide +kernel
theorem dX10_barOfFires_1 : decode cX10_barOfFires 1 = .ok (.invokevirtual 86, 3) := by decide +kernel
theorem dX10_barOfFires_4 : decode cX10_barOfFires 4 = .ok (.ifCond .ge 10, 3) := by decide +kernel
theorem dX10_barOfFires_7 : decode cX10_barOfFires 7 = .ok (.aload_n 0, 1) := by decide +kernel
theorem dX10_barOfFires_8 : decode cX10_barOfFires 8 = .ok (.invokevirtual 125, 3) := by decide +kernel
theorem dX10_barOfFires_11 : decode cX10_barOfFires 11 = .ok (.ifCond .lt 8, 3) := by decide +kernel
theorem dX10_barOfFires_14 : decode cX10_barOfFires 14 = .ok (.bipush (-5), 2) := by decide +kernel
theorem dX10_barOfFires_16 : decode cX10_barOfFires 16 = .ok (.goto 4, 3) := by decide +kernel
theorem dX10_barOfFires_19 : decode cX10_barOfFires 19 = .ok (.iconst 0, 1) := by decide +kernel
theorem dX10_barOfFires_20 : decode cX10_barOfFires 20 = .ok (.ireturn, 1) := by decide +kernel
theorem dX10_done_0 : decode cX10_done 0 = .ok (.aload_n 0, 1) := by decide +kernel
theorem dX10_done_1 : decode cX10_done 1 = .ok (.invokevirtual 128, 3) := by decide +kernel
theorem dX10_done_4 : decode cX10_done 4 = .ok (.ifCond .ge 6, 3) := by decide +kernel
theorem dX10_done_7 : decode cX10_done 7 = .ok (.bipush (-5), 2) := by decide +kernel
theorem dX10_done_9 : decode cX10_done 9 = .ok (.ireturn, 1) := by decide +kernel
theorem dX10_done_10 : decode cX10_done 10 = .ok (.iconst 0, 1) := by decide +kernel
theorem dX10_done_11 : decode cX10_done 11 = .ok (.istore_n 1, 1) := by decide +kernel
theorem dX10_done_12 : decode cX10_done 12 = .ok (.iload_n 1, 1) := by decide +kernel
theorem dX10_done_13 : decode cX10_done 13 = .ok (.bipush 47, 2) := by decide +kernel
theorem dX10_done_15 : decode cX10_done 15 = .ok (.if_icmp .ge 21, 3) := by decide +kernel
theorem dX10_done_18 : decode cX10_done 18 = .ok (.aload_n 0, 1) := by decide +kernel
theorem dX10_done_19 : decode cX10_done 19 = .ok (.getfield 7, 3) := by decide +kernel
theorem dX10_done_22 : decode cX10_done 22 = .ok (.iload_n 1, 1) := by decide +kernel
theorem dX10_done_23 : decode cX10_done 23 = .ok (.aload_n 0, 1) := by decide +kernel
theorem dX10_done_24 : decode cX10_done 24 = .ok (.getfield 13, 3) := by decide +kernel
theorem dX10_done_27 : decode cX10_done 27 = .ok (.iload_n 1, 1) := by decide +kernel
theorem dX10_done_28 : decode cX10_done 28 = .ok (.iaload, 1) := by decide +kernel
theorem dX10_done_29 : decode cX10_done 29 = .ok (.iastore, 1) := by decide +kernel
theorem dX10_done_30 : decode cX10_done 30 = .ok (.iinc 1 1, 3) := by decide +kernel
theorem dX10_done_33 : decode cX10_done 33 = .ok (.goto (-21), 3) := by decide +kernel
theorem dX10_done_36 : decode cX10_done 36 = .ok (.aload_n 0, 1) := by decide +kernel
theorem dX10_done_37 : decode cX10_done 37 = .ok (.iconst 0, 1) := by decide +kernel
theorem dX10_done_38 : decode cX10_done 38 = .ok (.putfield 79, 3) := by decide +kernel
theorem dX10_done_41 : decode cX10_done 41 = .ok (.aload_n 0, 1) := by decide +kernel
theorem dX10_done_42 : decode cX10_done 42 = .ok (.getfield 113, 3) := by decide +kernel
theorem dX10_done_45 : decode cX10_done 45 = .ok (.ireturn, 1) := by decide +kernel
theorem dX10_mayOnes_0 : decode cX10_mayOnes 0 = .ok (.iconst 0, 1) := by decide +kernel
theorem dX10_mayOnes_1 : decode cX10_mayOnes 1 = .ok (.istore_n 2, 1) := by decide +kernel
theorem dX10_mayOnes_2 : decode cX10_mayOnes 2 = .ok (.iconst 1, 1) := by decide +kernel
theorem dX10_mayOnes_3 : decode cX10_mayOnes 3 = .ok (.istore_n 3, 1) := by decide +kernel
theorem dX10_mayOnes_4 : decode cX10_mayOnes 4 = .ok (.iload_n 3, 1) := by decide +kernel
theorem dX10_mayOnes_5 : decode cX10_mayOnes 5 = .ok (.bipush 13, 2) := by decide +kernel
theorem dX10_mayOnes_7 : decode cX10_mayOnes 7 = .ok (.if_icmp .ge 30, 3) := by decide +kernel
theorem dX10_mayOnes_10 : decode cX10_mayOnes 10 = .ok (.iload_n 2, 1) := by decide +kernel
theorem dX10_mayOnes_11 : decode cX10_mayOnes 11 = .ok (.aload_n 0, 1) := by decide +kernel
theorem dX10_mayOnes_12 : decode cX10_mayOnes 12 = .ok (.iload_n 1, 1) := by decide +kernel
theorem dX10_mayOnes_13 : decode cX10_mayOnes 13 = .ok (.iload_n 3, 1) := by decide +kernel
theorem dX10_mayOnes_14 : decode cX10_mayOnes 14 = .ok (.invokevirtual 90, 3) := by decide +kernel
theorem dX10_mayOnes_17 : decode cX10_mayOnes 17 = .ok (.ifCond .eq 11, 3) := by decide +kernel
theorem dX10_mayOnes_20 : decode cX10_mayOnes 20 = .ok (.iconst 1, 1) := by decide +kernel
theorem dX10_mayOnes_21 : decode cX10_mayOnes 21 = .ok (.iload_n 3, 1) := by decide +kernel
theorem dX10_mayOnes_22 : decode cX10_mayOnes 22 = .ok (.iconst 1, 1) := by decide +kernel
theorem dX10_mayOnes_23 : decode cX10_mayOnes 23 = .ok (.isub, 1) := by decide +kernel
theorem dX10_mayOnes_24 : decode cX10_mayOnes 24 = .ok (.ishl, 1) := by decide +kernel
theorem dX10_mayOnes_25 : decode cX10_mayOnes 25 = .ok (.goto 4, 3) := by decide +kernel
theorem dX10_mayOnes_28 : decode cX10_mayOnes 28 = .ok (.iconst 0, 1) := by decide +kernel
theorem dX10_mayOnes_29 : decode cX10_mayOnes 29 = .ok (.ior, 1) := by decide +kernel
theorem dX10_mayOnes_30 : decode cX10_mayOnes 30 = .ok (.istore_n 2, 1) := by decide +kernel
theorem dX10_mayOnes_31 : decode cX10_mayOnes 31 = .ok (.iinc 3 1, 3) := by decide +kernel
theorem dX10_mayOnes_34 : decode cX10_mayOnes 34 = .ok (.goto (-30), 3) := by decide +kernel
theorem dX10_mayOnes_37 : decode cX10_mayOnes 37 = .ok (.iload_n 2, 1) := by decide +kernel
theorem dX10_mayOnes_38 : decode cX10_mayOnes 38 = .ok (.ireturn, 1) := by decide +kernel
theorem dX10_behind_0 : decode cX10_behind 0 = .ok (.iload_n 1, 1) := by decide +kernel
theorem dX10_behind_1 : decode cX10_behind 1 = .ok (.invokestatic 76, 3) := by decide +kernel
theorem dX10_behind_4 : decode cX10_behind 4 = .ok (.ifCond .ne 5, 3) := by decide +kernel
theorem dX10_behind_7 : decode cX10_behind 7 = .ok (.iconst (-1), 1) := by decide +kernel
theorem dX10_behind_8 : decode cX10_behind 8 = .ok (.ireturn, 1) := by decide +kernel
theorem dX10_behind_9 : decode cX10_behind 9 = .ok (.iload_n 2, 1) := by decide +kernel
theorem dX10_behind_10 : decode cX10_behind 10 = .ok (.iconst 0, 1) := by decide +kernel
theorem dX10_behind_11 : decode cX10_behind 11 = .ok (.iconst 3, 1) := by decide +kernel
theorem dX10_behind_12 : decode cX10_behind 12 = .ok (.invokestatic 48, 3) := by decide +kernel
theorem dX10_behind_15 : decode cX10_behind 15 = .ok (.ifCond .ne 6, 3) := by decide +kernel
theorem dX10_behind_18 : decode cX10_behind 18 = .ok (.bipush (-2), 2) := by decide +kernel
theorem dX10_behind_20 : decode cX10_behind 20 = .ok (.ireturn, 1) := by decide +kernel
theorem dX10_behind_21 : decode cX10_behind 21 = .ok (.aload_n 0, 1) := by decide +kernel
theorem dX10_behind_22 : decode cX10_behind 22 = .ok (.invokevirtual 128, 3) := by decide +kernel
theorem dX10_behind_25 : decode cX10_behind 25 = .ok (.ifCond .ge 6, 3) := by decide +kernel
theorem dX10_behind_28 : decode cX10_behind 28 = .ok (.bipush (-5), 2) := by decide +kernel
theorem dX10_behind_30 : decode cX10_behind 30 = .ok (.ireturn, 1) := by decide +kernel
theorem dX10_behind_31 : decode cX10_behind 31 = .ok (.iload_n 2, 1) := by decide +kernel
theorem dX10_behind_32 : decode cX10_behind 32 = .ok (.ifCond .ne 15, 3) := by decide +kernel
theorem dX10_behind_35 : decode cX10_behind 35 = .ok (.aload_n 0, 1) := by decide +kernel
theorem dX10_behind_36 : decode cX10_behind 36 = .ok (.getfield 13, 3) := by decide +kernel
theorem dX10_behind_39 : decode cX10_behind 39 = .ok (.bipush 38, 2) := by decide +kernel
theorem dX10_behind_41 : decode cX10_behind 41 = .ok (.iload_n 1, 1) := by decide +kernel
theorem dX10_behind_42 : decode cX10_behind 42 = .ok (.iadd, 1) := by decide +kernel
theorem dX10_behind_43 : decode cX10_behind 43 = .ok (.iaload, 1) := by decide +kernel
theorem dX10_behind_44 : decode cX10_behind 44 = .ok (.goto 44, 3) := by decide +kernel
theorem dX10_behind_47 : decode cX10_behind 47 = .ok (.iload_n 2, 1) := by decide +kernel
theorem dX10_behind_48 : decode cX10_behind 48 = .ok (.iconst 1, 1) := by decide +kernel
theorem dX10_behind_49 : decode cX10_behind 49 = .ok (.if_icmp .ne 15, 3) := by decide +kernel
theorem dX10_behind_52 : decode cX10_behind 52 = .ok (.aload_n 0, 1) := by decide +kernel
theorem dX10_behind_53 : decode cX10_behind 53 = .ok (.getfield 13, 3) := by decide +kernel
theorem dX10_behind_56 : decode cX10_behind 56 = .ok (.bipush 32, 2) := by decide +kernel
theorem dX10_behind_58 : decode cX10_behind 58 = .ok (.iload_n 1, 1) := by decide +kernel
theorem dX10_behind_59 : decode cX10_behind 59 = .ok (.iadd, 1) := by decide +kernel
theorem dX10_behind_60 : decode cX10_behind 60 = .ok (.iaload, 1) := by decide +kernel
theorem dX10_behind_61 : decode cX10_behind 61 = .ok (.goto 27, 3) := by decide +kernel
theorem dX10_behind_64 : decode cX10_behind 64 = .ok (.iload_n 2, 1) := by decide +kernel
theorem dX10_behind_65 : decode cX10_behind 65 = .ok (.iconst 2, 1) := by decide +kernel
theorem dX10_behind_66 : decode cX10_behind 66 = .ok (.if_icmp .ne 11, 3) := by decide +kernel
theorem dX10_behind_69 : decode cX10_behind 69 = .ok (.aload_n 0, 1) := by decide +kernel
theorem dX10_behind_70 : decode cX10_behind 70 = .ok (.iload_n 1, 1) := by decide +kernel
theorem dX10_behind_71 : decode cX10_behind 71 = .ok (.invokevirtual 131, 3) := by decide +kernel
theorem dX10_behind_74 : decode cX10_behind 74 = .ok (.goto 14, 3) := by decide +kernel
theorem dX10_behind_77 : decode cX10_behind 77 = .ok (.aload_n 0, 1) := by decide +kernel
theorem dX10_behind_78 : decode cX10_behind 78 = .ok (.getfield 13, 3) := by decide +kernel
theorem dX10_behind_81 : decode cX10_behind 81 = .ok (.bipush 44, 2) := by decide +kernel
theorem dX10_behind_83 : decode cX10_behind 83 = .ok (.iaload, 1) := by decide +kernel
theorem dX10_behind_84 : decode cX10_behind 84 = .ok (.iload_n 1, 1) := by decide +kernel
theorem dX10_behind_85 : decode cX10_behind 85 = .ok (.ishr, 1) := by decide +kernel
theorem dX10_behind_86 : decode cX10_behind 86 = .ok (.iconst 1, 1) := by decide +kernel
theorem dX10_behind_87 : decode cX10_behind 87 = .ok (.iand, 1) := by decide +kernel
theorem dX10_behind_88 : decode cX10_behind 88 = .ok (.ireturn, 1) := by decide +kernel
theorem dX10_bears_0 : decode cX10_bears 0 = .ok (.iload_n 1, 1) := by decide +kernel
theorem dX10_bears_1 : decode cX10_bears 1 = .ok (.invokestatic 73, 3) := by decide +kernel
theorem dX10_bears_4 : decode cX10_bears 4 = .ok (.ifCond .ne 5, 3) := by decide +kernel
theorem dX10_bears_7 : decode cX10_bears 7 = .ok (.iconst (-1), 1) := by decide +kernel
theorem dX10_bears_8 : decode cX10_bears 8 = .ok (.ireturn, 1) := by decide +kernel
theorem dX10_bears_9 : decode cX10_bears 9 = .ok (.iload_n 2, 1) := by decide +kernel
theorem dX10_bears_10 : decode cX10_bears 10 = .ok (.iconst 0, 1) := by decide +kernel
theorem dX10_bears_11 : decode cX10_bears 11 = .ok (.iconst 3, 1) := by decide +kernel
theorem dX10_bears_12 : decode cX10_bears 12 = .ok (.invokestatic 48, 3) := by decide +kernel
theorem dX10_bears_15 : decode cX10_bears 15 = .ok (.ifCond .ne 6, 3) := by decide +kernel
theorem dX10_bears_18 : decode cX10_bears 18 = .ok (.bipush (-2), 2) := by decide +kernel
theorem dX10_bears_20 : decode cX10_bears 20 = .ok (.ireturn, 1) := by decide +kernel
theorem dX10_bears_21 : decode cX10_bears 21 = .ok (.aload_n 0, 1) := by decide +kernel
theorem dX10_bears_22 : decode cX10_bears 22 = .ok (.invokevirtual 128, 3) := by decide +kernel
theorem dX10_bears_25 : decode cX10_bears 25 = .ok (.ifCond .ge 6, 3) := by decide +kernel
theorem dX10_bears_28 : decode cX10_bears 28 = .ok (.bipush (-5), 2) := by decide +kernel
theorem dX10_bears_30 : decode cX10_bears 30 = .ok (.ireturn, 1) := by decide +kernel
theorem dX10_bears_31 : decode cX10_bears 31 = .ok (.iload_n 2, 1) := by decide +kernel
theorem dX10_bears_32 : decode cX10_bears 32 = .ok (.ifCond .ne 12, 3) := by decide +kernel
theorem dX10_bears_35 : decode cX10_bears 35 = .ok (.aload_n 0, 1) := by decide +kernel
theorem dX10_bears_36 : decode cX10_bears 36 = .ok (.getfield 13, 3) := by decide +kernel
theorem dX10_bears_39 : decode cX10_bears 39 = .ok (.iload_n 1, 1) := by decide +kernel
theorem dX10_bears_40 : decode cX10_bears 40 = .ok (.iaload, 1) := by decide +kernel
theorem dX10_bears_41 : decode cX10_bears 41 = .ok (.goto 44, 3) := by decide +kernel
theorem dX10_bears_44 : decode cX10_bears 44 = .ok (.iload_n 2, 1) := by decide +kernel
theorem dX10_bears_45 : decode cX10_bears 45 = .ok (.iconst 1, 1) := by decide +kernel
theorem dX10_bears_46 : decode cX10_bears 46 = .ok (.if_icmp .ne 15, 3) := by decide +kernel
theorem dX10_bears_49 : decode cX10_bears 49 = .ok (.aload_n 0, 1) := by decide +kernel
theorem dX10_bears_50 : decode cX10_bears 50 = .ok (.getfield 13, 3) := by decide +kernel
theorem dX10_bears_53 : decode cX10_bears 53 = .ok (.bipush 13, 2) := by decide +kernel
theorem dX10_bears_55 : decode cX10_bears 55 = .ok (.iload_n 1, 1) := by decide +kernel
theorem dX10_bears_56 : decode cX10_bears 56 = .ok (.iadd, 1) := by decide +kernel
theorem dX10_bears_57 : decode cX10_bears 57 = .ok (.iaload, 1) := by decide +kernel
theorem dX10_bears_58 : decode cX10_bears 58 = .ok (.goto 27, 3) := by decide +kernel
theorem dX10_bears_61 : decode cX10_bears 61 = .ok (.iload_n 2, 1) := by decide +kernel
theorem dX10_bears_62 : decode cX10_bears 62 = .ok (.iconst 2, 1) := by decide +kernel
theorem dX10_bears_63 : decode cX10_bears 63 = .ok (.if_icmp .ne 11, 3) := by decide +kernel
theorem dX10_bears_66 : decode cX10_bears 66 = .ok (.aload_n 0, 1) := by decide +kernel
theorem dX10_bears_67 : decode cX10_bears 67 = .ok (.iload_n 1, 1) := by decide +kernel
theorem dX10_bears_68 : decode cX10_bears 68 = .ok (.invokevirtual 93, 3) := by decide +kernel
theorem dX10_bears_71 : decode cX10_bears 71 = .ok (.goto 14, 3) := by decide +kernel
theorem dX10_bears_74 : decode cX10_bears 74 = .ok (.aload_n 0, 1) := by decide +kernel
theorem dX10_bears_75 : decode cX10_bears 75 = .ok (.getfield 13, 3) := by decide +kernel
theorem dX10_bears_78 : decode cX10_bears 78 = .ok (.bipush 45, 2) := by decide +kernel
theorem dX10_bears_80 : decode cX10_bears 80 = .ok (.iaload, 1) := by decide +kernel
theorem dX10_bears_81 : decode cX10_bears 81 = .ok (.iload_n 1, 1) := by decide +kernel
theorem dX10_bears_82 : decode cX10_bears 82 = .ok (.ishr, 1) := by decide +kernel
theorem dX10_bears_83 : decode cX10_bears 83 = .ok (.iconst 1, 1) := by decide +kernel
theorem dX10_bears_84 : decode cX10_bears 84 = .ok (.iand, 1) := by decide +kernel
theorem dX10_bears_85 : decode cX10_bears 85 = .ok (.ireturn, 1) := by decide +kernel
theorem dX10_then_0 : decode cX10_then 0 = .ok (.iload_n 1, 1) := by decide +kernel
theorem dX10_then_1 : decode cX10_then 1 = .ok (.iconst 0, 1) := by decide +kernel
theorem dX10_then_2 : decode cX10_then 2 = .ok (.iconst 5, 1) := by decide +kernel
theorem dX10_then_3 : decode cX10_then 3 = .ok (.invokestatic 48, 3) := by decide +kernel
theorem dX10_then_6 : decode cX10_then 6 = .ok (.ifCond .ne 6, 3) := by decide +kernel
theorem dX10_then_9 : decode cX10_then 9 = .ok (.bipush (-2), 2) := by decide +kernel
theorem dX10_then_11 : decode cX10_then 11 = .ok (.ireturn, 1) := by decide +kernel
theorem dX10_then_12 : decode cX10_then 12 = .ok (.aload_n 0, 1) := by decide +kernel
theorem dX10_then_13 : decode cX10_then 13 = .ok (.invokevirtual 128, 3) := by decide +kernel
theorem dX10_then_16 : decode cX10_then 16 = .ok (.ifCond .ge 6, 3) := by decide +kernel
theorem dX10_then_19 : decode cX10_then 19 = .ok (.bipush (-5), 2) := by decide +kernel
theorem dX10_then_21 : decode cX10_then 21 = .ok (.ireturn, 1) := by decide +kernel
theorem dX10_then_22 : decode cX10_then 22 = .ok (.iload_n 1, 1) := by decide +kernel
theorem dX10_then_23 : decode cX10_then 23 = .ok (.tableswitch 52 0 3 #[29, 37, 42, 47], 29) := by decide +kernel
theorem dX10_then_52 : decode cX10_then 52 = .ok (.aload_n 0, 1) := by decide +kernel
theorem dX10_then_53 : decode cX10_then 53 = .ok (.getfield 13, 3) := by decide +kernel
theorem dX10_then_56 : decode cX10_then 56 = .ok (.bipush 46, 2) := by decide +kernel
theorem dX10_then_58 : decode cX10_then 58 = .ok (.iaload, 1) := by decide +kernel
theorem dX10_then_59 : decode cX10_then 59 = .ok (.ireturn, 1) := by decide +kernel
theorem dX10_then_60 : decode cX10_then 60 = .ok (.aload_n 0, 1) := by decide +kernel
theorem dX10_then_61 : decode cX10_then 61 = .ok (.invokevirtual 116, 3) := by decide +kernel
theorem dX10_then_64 : decode cX10_then 64 = .ok (.ireturn, 1) := by decide +kernel
theorem dX10_then_65 : decode cX10_then 65 = .ok (.aload_n 0, 1) := by decide +kernel
theorem dX10_then_66 : decode cX10_then 66 = .ok (.getfield 52, 3) := by decide +kernel
theorem dX10_then_69 : decode cX10_then 69 = .ok (.ireturn, 1) := by decide +kernel
theorem dX10_then_70 : decode cX10_then 70 = .ok (.aload_n 0, 1) := by decide +kernel
theorem dX10_then_71 : decode cX10_then 71 = .ok (.getfield 56, 3) := by decide +kernel
theorem dX10_then_74 : decode cX10_then 74 = .ok (.ireturn, 1) := by decide +kernel
theorem dX10_then_75 : decode cX10_then 75 = .ok (.iload_n 1, 1) := by decide +kernel
theorem dX10_then_76 : decode cX10_then 76 = .ok (.iconst 4, 1) := by decide +kernel
theorem dX10_then_77 : decode cX10_then 77 = .ok (.if_icmp .ne 10, 3) := by decide +kernel
theorem dX10_then_80 : decode cX10_then 80 = .ok (.aload_n 0, 1) := by decide +kernel
theorem dX10_then_81 : decode cX10_then 81 = .ok (.getfield 59, 3) := by decide +kernel
theorem dX10_then_84 : decode cX10_then 84 = .ok (.goto 7, 3) := by decide +kernel
theorem dX10_then_87 : decode cX10_then 87 = .ok (.aload_n 0, 1) := by decide +kernel
theorem dX10_then_88 : decode cX10_then 88 = .ok (.getfield 62, 3) := by decide +kernel
theorem dX10_then_91 : decode cX10_then 91 = .ok (.ireturn, 1) := by decide +kernel
theorem dX10_layClimb_0 : decode cX10_layClimb 0 = .ok (.bipush 13, 2) := by decide +kernel
theorem dX10_layClimb_2 : decode cX10_layClimb 2 = .ok (.istore_n 3, 1) := by decide +kernel
theorem dX10_layClimb_3 : decode cX10_layClimb 3 = .ok (.iload_n 3, 1) := by decide +kernel
theorem dX10_layClimb_4 : decode cX10_layClimb 4 = .ok (.ifCond .lt 164, 3) := by decide +kernel
theorem dX10_layClimb_7 : decode cX10_layClimb 7 = .ok (.aload_n 0, 1) := by decide +kernel
theorem dX10_layClimb_8 : decode cX10_layClimb 8 = .ok (.getfield 22, 3) := by decide +kernel
theorem dX10_layClimb_11 : decode cX10_layClimb 11 = .ok (.iload_n 3, 1) := by decide +kernel
theorem dX10_layClimb_12 : decode cX10_layClimb 12 = .ok (.iload_n 3, 1) := by decide +kernel
theorem dX10_layClimb_13 : decode cX10_layClimb 13 = .ok (.bipush 13, 2) := by decide +kernel
theorem dX10_layClimb_15 : decode cX10_layClimb 15 = .ok (.if_icmp .ne 7, 3) := by decide +kernel
theorem dX10_layClimb_18 : decode cX10_layClimb 18 = .ok (.iconst 0, 1) := by decide +kernel
theorem dX10_layClimb_19 : decode cX10_layClimb 19 = .ok (.goto 5, 3) := by decide +kernel
theorem dX10_layClimb_22 : decode cX10_layClimb 22 = .ok (.ldc 134, 2) := by decide +kernel
theorem dX10_layClimb_24 : decode cX10_layClimb 24 = .ok (.iastore, 1) := by decide +kernel
theorem dX10_layClimb_25 : decode cX10_layClimb 25 = .ok (.aload_n 0, 1) := by decide +kernel
theorem dX10_layClimb_26 : decode cX10_layClimb 26 = .ok (.getfield 25, 3) := by decide +kernel
theorem dX10_layClimb_29 : decode cX10_layClimb 29 = .ok (.iload_n 3, 1) := by decide +kernel
theorem dX10_layClimb_30 : decode cX10_layClimb 30 = .ok (.iload_n 3, 1) := by decide +kernel
theorem dX10_layClimb_31 : decode cX10_layClimb 31 = .ok (.bipush 13, 2) := by decide +kernel
theorem dX10_layClimb_33 : decode cX10_layClimb 33 = .ok (.if_icmp .ne 7, 3) := by decide +kernel
theorem dX10_layClimb_36 : decode cX10_layClimb 36 = .ok (.iconst 1, 1) := by decide +kernel
theorem dX10_layClimb_37 : decode cX10_layClimb 37 = .ok (.goto 4, 3) := by decide +kernel
theorem dX10_layClimb_40 : decode cX10_layClimb 40 = .ok (.iconst 0, 1) := by decide +kernel
theorem dX10_layClimb_41 : decode cX10_layClimb 41 = .ok (.iastore, 1) := by decide +kernel
theorem dX10_layClimb_42 : decode cX10_layClimb 42 = .ok (.iload_n 3, 1) := by decide +kernel
theorem dX10_layClimb_43 : decode cX10_layClimb 43 = .ok (.iconst 1, 1) := by decide +kernel
theorem dX10_layClimb_44 : decode cX10_layClimb 44 = .ok (.iadd, 1) := by decide +kernel
theorem dX10_layClimb_45 : decode cX10_layClimb 45 = .ok (.istore 4, 2) := by decide +kernel
theorem dX10_layClimb_47 : decode cX10_layClimb 47 = .ok (.iload 4, 2) := by decide +kernel
theorem dX10_layClimb_49 : decode cX10_layClimb 49 = .ok (.iload_n 3, 1) := by decide +kernel
theorem dX10_layClimb_50 : decode cX10_layClimb 50 = .ok (.aload_n 0, 1) := by decide +kernel
theorem dX10_layClimb_51 : decode cX10_layClimb 51 = .ok (.getfield 13, 3) := by decide +kernel
theorem dX10_layClimb_54 : decode cX10_layClimb 54 = .ok (.bipush 26, 2) := by decide +kernel
theorem dX10_layClimb_56 : decode cX10_layClimb 56 = .ok (.iload_n 1, 1) := by decide +kernel
theorem dX10_layClimb_57 : decode cX10_layClimb 57 = .ok (.iadd, 1) := by decide +kernel
theorem dX10_layClimb_58 : decode cX10_layClimb 58 = .ok (.iaload, 1) := by decide +kernel
theorem dX10_layClimb_59 : decode cX10_layClimb 59 = .ok (.iadd, 1) := by decide +kernel
theorem dX10_layClimb_60 : decode cX10_layClimb 60 = .ok (.if_icmp .gt 102, 3) := by decide +kernel
theorem dX10_layClimb_63 : decode cX10_layClimb 63 = .ok (.iload 4, 2) := by decide +kernel
theorem dX10_layClimb_65 : decode cX10_layClimb 65 = .ok (.bipush 13, 2) := by decide +kernel
theorem dX10_layClimb_67 : decode cX10_layClimb 67 = .ok (.if_icmp .gt 95, 3) := by decide +kernel
theorem dX10_layClimb_70 : decode cX10_layClimb 70 = .ok (.iload 4, 2) := by decide +kernel
theorem dX10_layClimb_72 : decode cX10_layClimb 72 = .ok (.bipush 13, 2) := by decide +kernel
theorem dX10_layClimb_74 : decode cX10_layClimb 74 = .ok (.if_icmp .eq 24, 3) := by decide +kernel
theorem dX10_layClimb_77 : decode cX10_layClimb 77 = .ok (.aload_n 0, 1) := by decide +kernel
theorem dX10_layClimb_78 : decode cX10_layClimb 78 = .ok (.iload_n 1, 1) := by decide +kernel
theorem dX10_layClimb_79 : decode cX10_layClimb 79 = .ok (.iload 4, 2) := by decide +kernel
theorem dX10_layClimb_81 : decode cX10_layClimb 81 = .ok (.invokevirtual 90, 3) := by decide +kernel
theorem dX10_layClimb_84 : decode cX10_layClimb 84 = .ok (.ifCond .ne 14, 3) := by decide +kernel
theorem dX10_layClimb_87 : decode cX10_layClimb 87 = .ok (.iload_n 2, 1) := by decide +kernel
theorem dX10_layClimb_88 : decode cX10_layClimb 88 = .ok (.iload 4, 2) := by decide +kernel
theorem dX10_layClimb_90 : decode cX10_layClimb 90 = .ok (.iconst 1, 1) := by decide +kernel
theorem dX10_layClimb_91 : decode cX10_layClimb 91 = .ok (.isub, 1) := by decide +kernel
theorem dX10_layClimb_92 : decode cX10_layClimb 92 = .ok (.invokestatic 65, 3) := by decide +kernel
theorem dX10_layClimb_95 : decode cX10_layClimb 95 = .ok (.ifCond .eq 61, 3) := by decide +kernel
theorem dX10_layClimb_98 : decode cX10_layClimb 98 = .ok (.aload_n 0, 1) := by decide +kernel
theorem dX10_layClimb_99 : decode cX10_layClimb 99 = .ok (.getfield 22, 3) := by decide +kernel
theorem dX10_layClimb_102 : decode cX10_layClimb 102 = .ok (.iload_n 3, 1) := by decide +kernel
theorem dX10_layClimb_103 : decode cX10_layClimb 103 = .ok (.aload_n 0, 1) := by decide +kernel
theorem dX10_layClimb_104 : decode cX10_layClimb 104 = .ok (.getfield 22, 3) := by decide +kernel
theorem dX10_layClimb_107 : decode cX10_layClimb 107 = .ok (.iload 4, 2) := by decide +kernel
theorem dX10_layClimb_109 : decode cX10_layClimb 109 = .ok (.iaload, 1) := by decide +kernel
theorem dX10_layClimb_110 : decode cX10_layClimb 110 = .ok (.iconst 1, 1) := by decide +kernel
theorem dX10_layClimb_111 : decode cX10_layClimb 111 = .ok (.iadd, 1) := by decide +kernel
theorem dX10_layClimb_112 : decode cX10_layClimb 112 = .ok (.aload_n 0, 1) := by decide +kernel
theorem dX10_layClimb_113 : decode cX10_layClimb 113 = .ok (.getfield 22, 3) := by decide +kernel
theorem dX10_layClimb_116 : decode cX10_layClimb 116 = .ok (.iload_n 3, 1) := by decide +kernel
theorem dX10_layClimb_117 : decode cX10_layClimb 117 = .ok (.iaload, 1) := by decide +kernel
theorem dX10_layClimb_118 : decode cX10_layClimb 118 = .ok (.if_icmp .ge 15, 3) := by decide +kernel
theorem dX10_layClimb_121 : decode cX10_layClimb 121 = .ok (.aload_n 0, 1) := by decide +kernel
theorem dX10_layClimb_122 : decode cX10_layClimb 122 = .ok (.getfield 22, 3) := by decide +kernel
theorem dX10_layClimb_125 : decode cX10_layClimb 125 = .ok (.iload 4, 2) := by decide +kernel
theorem dX10_layClimb_127 : decode cX10_layClimb 127 = .ok (.iaload, 1) := by decide +kernel
theorem dX10_layClimb_128 : decode cX10_layClimb 128 = .ok (.iconst 1, 1) := by decide +kernel
theorem dX10_layClimb_129 : decode cX10_layClimb 129 = .ok (.iadd, 1) := by decide +kernel
theorem dX10_layClimb_130 : decode cX10_layClimb 130 = .ok (.goto 9, 3) := by decide +kernel
theorem dX10_layClimb_133 : decode cX10_layClimb 133 = .ok (.aload_n 0, 1) := by decide +kernel
theorem dX10_layClimb_134 : decode cX10_layClimb 134 = .ok (.getfield 22, 3) := by decide +kernel
theorem dX10_layClimb_137 : decode cX10_layClimb 137 = .ok (.iload_n 3, 1) := by decide +kernel
theorem dX10_layClimb_138 : decode cX10_layClimb 138 = .ok (.iaload, 1) := by decide +kernel
theorem dX10_layClimb_139 : decode cX10_layClimb 139 = .ok (.iastore, 1) := by decide +kernel
theorem dX10_layClimb_140 : decode cX10_layClimb 140 = .ok (.aload_n 0, 1) := by decide +kernel
theorem dX10_layClimb_141 : decode cX10_layClimb 141 = .ok (.getfield 25, 3) := by decide +kernel
theorem dX10_layClimb_144 : decode cX10_layClimb 144 = .ok (.iload_n 3, 1) := by decide +kernel
theorem dX10_layClimb_145 : decode cX10_layClimb 145 = .ok (.dup2, 1) := by decide +kernel
theorem dX10_layClimb_146 : decode cX10_layClimb 146 = .ok (.iaload, 1) := by decide +kernel
theorem dX10_layClimb_147 : decode cX10_layClimb 147 = .ok (.aload_n 0, 1) := by decide +kernel
theorem dX10_layClimb_148 : decode cX10_layClimb 148 = .ok (.getfield 25, 3) := by decide +kernel
theorem dX10_layClimb_151 : decode cX10_layClimb 151 = .ok (.iload 4, 2) := by decide +kernel
theorem dX10_layClimb_153 : decode cX10_layClimb 153 = .ok (.iaload, 1) := by decide +kernel
theorem dX10_layClimb_154 : decode cX10_layClimb 154 = .ok (.iadd, 1) := by decide +kernel
theorem dX10_layClimb_155 : decode cX10_layClimb 155 = .ok (.iastore, 1) := by decide +kernel
theorem dX10_layClimb_156 : decode cX10_layClimb 156 = .ok (.iinc 4 1, 3) := by decide +kernel
theorem dX10_layClimb_159 : decode cX10_layClimb 159 = .ok (.goto (-112), 3) := by decide +kernel
theorem dX10_layClimb_162 : decode cX10_layClimb 162 = .ok (.iinc 3 (-1), 3) := by decide +kernel
theorem dX10_layClimb_165 : decode cX10_layClimb 165 = .ok (.goto (-162), 3) := by decide +kernel
theorem dX10_layClimb_168 : decode cX10_layClimb 168 = .ok (.return_, 1) := by decide +kernel
theorem dX10_climb_0 : decode cX10_climb 0 = .ok (.iload_n 1, 1) := by decide +kernel
theorem dX10_climb_1 : decode cX10_climb 1 = .ok (.invokestatic 76, 3) := by decide +kernel
theorem dX10_climb_4 : decode cX10_climb 4 = .ok (.ifCond .ne 5, 3) := by decide +kernel
theorem dX10_climb_7 : decode cX10_climb 7 = .ok (.iconst (-1), 1) := by decide +kernel
theorem dX10_climb_8 : decode cX10_climb 8 = .ok (.ireturn, 1) := by decide +kernel
theorem dX10_climb_9 : decode cX10_climb 9 = .ok (.iload_n 2, 1) := by decide +kernel
theorem dX10_climb_10 : decode cX10_climb 10 = .ok (.iconst 0, 1) := by decide +kernel
theorem dX10_climb_11 : decode cX10_climb 11 = .ok (.iconst 1, 1) := by decide +kernel
theorem dX10_climb_12 : decode cX10_climb 12 = .ok (.invokestatic 48, 3) := by decide +kernel
theorem dX10_climb_15 : decode cX10_climb 15 = .ok (.ifCond .ne 6, 3) := by decide +kernel
theorem dX10_climb_18 : decode cX10_climb 18 = .ok (.bipush (-2), 2) := by decide +kernel
theorem dX10_climb_20 : decode cX10_climb 20 = .ok (.ireturn, 1) := by decide +kernel
theorem dX10_climb_21 : decode cX10_climb 21 = .ok (.aload_n 0, 1) := by decide +kernel
theorem dX10_climb_22 : decode cX10_climb 22 = .ok (.invokevirtual 110, 3) := by decide +kernel
theorem dX10_climb_25 : decode cX10_climb 25 = .ok (.aload_n 0, 1) := by decide +kernel
theorem dX10_climb_26 : decode cX10_climb 26 = .ok (.iload_n 1, 1) := by decide +kernel
theorem dX10_climb_27 : decode cX10_climb 27 = .ok (.iconst 0, 1) := by decide +kernel
theorem dX10_climb_28 : decode cX10_climb 28 = .ok (.invokevirtual 135, 3) := by decide +kernel
theorem dX10_climb_31 : decode cX10_climb 31 = .ok (.aload_n 0, 1) := by decide +kernel
theorem dX10_climb_32 : decode cX10_climb 32 = .ok (.getfield 13, 3) := by decide +kernel
theorem dX10_climb_35 : decode cX10_climb 35 = .ok (.bipush 38, 2) := by decide +kernel
theorem dX10_climb_37 : decode cX10_climb 37 = .ok (.iload_n 1, 1) := by decide +kernel
theorem dX10_climb_38 : decode cX10_climb 38 = .ok (.iadd, 1) := by decide +kernel
theorem dX10_climb_39 : decode cX10_climb 39 = .ok (.iaload, 1) := by decide +kernel
theorem dX10_climb_40 : decode cX10_climb 40 = .ok (.istore_n 3, 1) := by decide +kernel
theorem dX10_climb_41 : decode cX10_climb 41 = .ok (.aload_n 0, 1) := by decide +kernel
theorem dX10_climb_42 : decode cX10_climb 42 = .ok (.getfield 22, 3) := by decide +kernel
theorem dX10_climb_45 : decode cX10_climb 45 = .ok (.iload_n 3, 1) := by decide +kernel
theorem dX10_climb_46 : decode cX10_climb 46 = .ok (.iaload, 1) := by decide +kernel
theorem dX10_climb_47 : decode cX10_climb 47 = .ok (.ldc 134, 2) := by decide +kernel
theorem dX10_climb_49 : decode cX10_climb 49 = .ok (.if_icmp .lt 6, 3) := by decide +kernel
theorem dX10_climb_52 : decode cX10_climb 52 = .ok (.bipush (-6), 2) := by decide +kernel
theorem dX10_climb_54 : decode cX10_climb 54 = .ok (.ireturn, 1) := by decide +kernel
theorem dX10_climb_55 : decode cX10_climb 55 = .ok (.iload_n 2, 1) := by decide +kernel
theorem dX10_climb_56 : decode cX10_climb 56 = .ok (.ifCond .ne 10, 3) := by decide +kernel
theorem dX10_climb_59 : decode cX10_climb 59 = .ok (.aload_n 0, 1) := by decide +kernel
theorem dX10_climb_60 : decode cX10_climb 60 = .ok (.getfield 22, 3) := by decide +kernel
theorem dX10_climb_63 : decode cX10_climb 63 = .ok (.iload_n 3, 1) := by decide +kernel
theorem dX10_climb_64 : decode cX10_climb 64 = .ok (.iaload, 1) := by decide +kernel
theorem dX10_climb_65 : decode cX10_climb 65 = .ok (.ireturn, 1) := by decide +kernel
theorem dX10_climb_66 : decode cX10_climb 66 = .ok (.iload_n 3, 1) := by decide +kernel
theorem dX10_climb_67 : decode cX10_climb 67 = .ok (.iconst 1, 1) := by decide +kernel
theorem dX10_climb_68 : decode cX10_climb 68 = .ok (.iadd, 1) := by decide +kernel
theorem dX10_climb_69 : decode cX10_climb 69 = .ok (.istore 4, 2) := by decide +kernel
theorem dX10_climb_71 : decode cX10_climb 71 = .ok (.iload 4, 2) := by decide +kernel
theorem dX10_climb_73 : decode cX10_climb 73 = .ok (.iload_n 3, 1) := by decide +kernel
theorem dX10_climb_74 : decode cX10_climb 74 = .ok (.aload_n 0, 1) := by decide +kernel
theorem dX10_climb_75 : decode cX10_climb 75 = .ok (.getfield 13, 3) := by decide +kernel
theorem dX10_climb_78 : decode cX10_climb 78 = .ok (.bipush 26, 2) := by decide +kernel
theorem dX10_climb_80 : decode cX10_climb 80 = .ok (.iload_n 1, 1) := by decide +kernel
theorem dX10_climb_81 : decode cX10_climb 81 = .ok (.iadd, 1) := by decide +kernel
theorem dX10_climb_82 : decode cX10_climb 82 = .ok (.iaload, 1) := by decide +kernel
theorem dX10_climb_83 : decode cX10_climb 83 = .ok (.iadd, 1) := by decide +kernel
theorem dX10_climb_84 : decode cX10_climb 84 = .ok (.if_icmp .gt 54, 3) := by decide +kernel
theorem dX10_climb_87 : decode cX10_climb 87 = .ok (.iload 4, 2) := by decide +kernel
theorem dX10_climb_89 : decode cX10_climb 89 = .ok (.bipush 13, 2) := by decide +kernel
theorem dX10_climb_91 : decode cX10_climb 91 = .ok (.if_icmp .gt 47, 3) := by decide +kernel
theorem dX10_climb_94 : decode cX10_climb 94 = .ok (.iload 4, 2) := by decide +kernel
theorem dX10_climb_96 : decode cX10_climb 96 = .ok (.bipush 13, 2) := by decide +kernel
theorem dX10_climb_98 : decode cX10_climb 98 = .ok (.if_icmp .eq 13, 3) := by decide +kernel
theorem dX10_climb_101 : decode cX10_climb 101 = .ok (.aload_n 0, 1) := by decide +kernel
theorem dX10_climb_102 : decode cX10_climb 102 = .ok (.iload_n 1, 1) := by decide +kernel
theorem dX10_climb_103 : decode cX10_climb 103 = .ok (.iload 4, 2) := by decide +kernel
theorem dX10_climb_105 : decode cX10_climb 105 = .ok (.invokevirtual 90, 3) := by decide +kernel
theorem dX10_climb_108 : decode cX10_climb 108 = .ok (.ifCond .eq 24, 3) := by decide +kernel
theorem dX10_climb_111 : decode cX10_climb 111 = .ok (.aload_n 0, 1) := by decide +kernel
theorem dX10_climb_112 : decode cX10_climb 112 = .ok (.getfield 22, 3) := by decide +kernel
theorem dX10_climb_115 : decode cX10_climb 115 = .ok (.iload 4, 2) := by decide +kernel
theorem dX10_climb_117 : decode cX10_climb 117 = .ok (.iaload, 1) := by decide +kernel
theorem dX10_climb_118 : decode cX10_climb 118 = .ok (.aload_n 0, 1) := by decide +kernel
theorem dX10_climb_119 : decode cX10_climb 119 = .ok (.getfield 22, 3) := by decide +kernel
theorem dX10_climb_122 : decode cX10_climb 122 = .ok (.iload_n 3, 1) := by decide +kernel
theorem dX10_climb_123 : decode cX10_climb 123 = .ok (.iaload, 1) := by decide +kernel
theorem dX10_climb_124 : decode cX10_climb 124 = .ok (.iconst 1, 1) := by decide +kernel
theorem dX10_climb_125 : decode cX10_climb 125 = .ok (.isub, 1) := by decide +kernel
theorem dX10_climb_126 : decode cX10_climb 126 = .ok (.if_icmp .ne 6, 3) := by decide +kernel
theorem dX10_climb_129 : decode cX10_climb 129 = .ok (.iload 4, 2) := by decide +kernel
theorem dX10_climb_131 : decode cX10_climb 131 = .ok (.ireturn, 1) := by decide +kernel
theorem dX10_climb_132 : decode cX10_climb 132 = .ok (.iinc 4 1, 3) := by decide +kernel
theorem dX10_climb_135 : decode cX10_climb 135 = .ok (.goto (-64), 3) := by decide +kernel
theorem dX10_climb_138 : decode cX10_climb 138 = .ok (.bipush (-6), 2) := by decide +kernel
theorem dX10_climb_140 : decode cX10_climb 140 = .ok (.ireturn, 1) := by decide +kernel
theorem dX10_ways_0 : decode cX10_ways 0 = .ok (.iload_n 1, 1) := by decide +kernel
theorem dX10_ways_1 : decode cX10_ways 1 = .ok (.invokestatic 76, 3) := by decide +kernel
theorem dX10_ways_4 : decode cX10_ways 4 = .ok (.ifCond .ne 5, 3) := by decide +kernel
theorem dX10_ways_7 : decode cX10_ways 7 = .ok (.iconst (-1), 1) := by decide +kernel
theorem dX10_ways_8 : decode cX10_ways 8 = .ok (.ireturn, 1) := by decide +kernel
theorem dX10_ways_9 : decode cX10_ways 9 = .ok (.aload_n 0, 1) := by decide +kernel
theorem dX10_ways_10 : decode cX10_ways 10 = .ok (.invokevirtual 110, 3) := by decide +kernel
theorem dX10_ways_13 : decode cX10_ways 13 = .ok (.aload_n 0, 1) := by decide +kernel
theorem dX10_ways_14 : decode cX10_ways 14 = .ok (.iload_n 1, 1) := by decide +kernel
theorem dX10_ways_15 : decode cX10_ways 15 = .ok (.iconst 0, 1) := by decide +kernel
theorem dX10_ways_16 : decode cX10_ways 16 = .ok (.invokevirtual 135, 3) := by decide +kernel
theorem dX10_ways_19 : decode cX10_ways 19 = .ok (.aload_n 0, 1) := by decide +kernel
theorem dX10_ways_20 : decode cX10_ways 20 = .ok (.getfield 25, 3) := by decide +kernel
theorem dX10_ways_23 : decode cX10_ways 23 = .ok (.aload_n 0, 1) := by decide +kernel
theorem dX10_ways_24 : decode cX10_ways 24 = .ok (.getfield 13, 3) := by decide +kernel
theorem dX10_ways_27 : decode cX10_ways 27 = .ok (.bipush 38, 2) := by decide +kernel
theorem dX10_ways_29 : decode cX10_ways 29 = .ok (.iload_n 1, 1) := by decide +kernel
theorem dX10_ways_30 : decode cX10_ways 30 = .ok (.iadd, 1) := by decide +kernel
theorem dX10_ways_31 : decode cX10_ways 31 = .ok (.iaload, 1) := by decide +kernel
theorem dX10_ways_32 : decode cX10_ways 32 = .ok (.iaload, 1) := by decide +kernel
theorem dX10_ways_33 : decode cX10_ways 33 = .ok (.ireturn, 1) := by decide +kernel
theorem dX10_leases_0 : decode cX10_leases 0 = .ok (.iload_n 1, 1) := by decide +kernel
theorem dX10_leases_1 : decode cX10_leases 1 = .ok (.invokestatic 76, 3) := by decide +kernel
theorem dX10_leases_4 : decode cX10_leases 4 = .ok (.ifCond .ne 5, 3) := by decide +kernel
theorem dX10_leases_7 : decode cX10_leases 7 = .ok (.iconst (-1), 1) := by decide +kernel
theorem dX10_leases_8 : decode cX10_leases 8 = .ok (.ireturn, 1) := by decide +kernel
theorem dX10_leases_9 : decode cX10_leases 9 = .ok (.iload_n 2, 1) := by decide +kernel
theorem dX10_leases_10 : decode cX10_leases 10 = .ok (.iconst 0, 1) := by decide +kernel
theorem dX10_leases_11 : decode cX10_leases 11 = .ok (.iconst 1, 1) := by decide +kernel
theorem dX10_leases_12 : decode cX10_leases 12 = .ok (.invokestatic 48, 3) := by decide +kernel
theorem dX10_leases_15 : decode cX10_leases 15 = .ok (.ifCond .ne 6, 3) := by decide +kernel
theorem dX10_leases_18 : decode cX10_leases 18 = .ok (.bipush (-2), 2) := by decide +kernel
theorem dX10_leases_20 : decode cX10_leases 20 = .ok (.ireturn, 1) := by decide +kernel
theorem dX10_leases_21 : decode cX10_leases 21 = .ok (.aload_n 0, 1) := by decide +kernel
theorem dX10_leases_22 : decode cX10_leases 22 = .ok (.invokevirtual 110, 3) := by decide +kernel
theorem dX10_leases_25 : decode cX10_leases 25 = .ok (.iconst 0, 1) := by decide +kernel
theorem dX10_leases_26 : decode cX10_leases 26 = .ok (.istore_n 3, 1) := by decide +kernel
theorem dX10_leases_27 : decode cX10_leases 27 = .ok (.iconst 1, 1) := by decide +kernel
theorem dX10_leases_28 : decode cX10_leases 28 = .ok (.istore 4, 2) := by decide +kernel
theorem dX10_leases_30 : decode cX10_leases 30 = .ok (.iload 4, 2) := by decide +kernel
theorem dX10_leases_32 : decode cX10_leases 32 = .ok (.bipush 13, 2) := by decide +kernel
theorem dX10_leases_34 : decode cX10_leases 34 = .ok (.if_icmp .ge 65, 3) := by decide +kernel
theorem dX10_leases_37 : decode cX10_leases 37 = .ok (.iload_n 3, 1) := by decide +kernel
theorem dX10_leases_38 : decode cX10_leases 38 = .ok (.aload_n 0, 1) := by decide +kernel
theorem dX10_leases_39 : decode cX10_leases 39 = .ok (.iload 4, 2) := by decide +kernel
theorem dX10_leases_41 : decode cX10_leases 41 = .ok (.invokevirtual 69, 3) := by decide +kernel
theorem dX10_leases_44 : decode cX10_leases 44 = .ok (.ifCond .ne 46, 3) := by decide +kernel
theorem dX10_leases_47 : decode cX10_leases 47 = .ok (.aload_n 0, 1) := by decide +kernel
theorem dX10_leases_48 : decode cX10_leases 48 = .ok (.getfield 13, 3) := by decide +kernel
theorem dX10_leases_51 : decode cX10_leases 51 = .ok (.iload 4, 2) := by decide +kernel
theorem dX10_leases_53 : decode cX10_leases 53 = .ok (.iaload, 1) := by decide +kernel
theorem dX10_leases_54 : decode cX10_leases 54 = .ok (.ifCond .lt 36, 3) := by decide +kernel
theorem dX10_leases_57 : decode cX10_leases 57 = .ok (.aload_n 0, 1) := by decide +kernel
theorem dX10_leases_58 : decode cX10_leases 58 = .ok (.getfield 13, 3) := by decide +kernel
theorem dX10_leases_61 : decode cX10_leases 61 = .ok (.iload 4, 2) := by decide +kernel
theorem dX10_leases_63 : decode cX10_leases 63 = .ok (.iaload, 1) := by decide +kernel
theorem dX10_leases_64 : decode cX10_leases 64 = .ok (.iload_n 1, 1) := by decide +kernel
theorem dX10_leases_65 : decode cX10_leases 65 = .ok (.if_icmp .eq 25, 3) := by decide +kernel
theorem dX10_leases_68 : decode cX10_leases 68 = .ok (.aload_n 0, 1) := by decide +kernel
theorem dX10_leases_69 : decode cX10_leases 69 = .ok (.getfield 13, 3) := by decide +kernel
theorem dX10_leases_72 : decode cX10_leases 72 = .ok (.bipush 13, 2) := by decide +kernel
theorem dX10_leases_74 : decode cX10_leases 74 = .ok (.iload 4, 2) := by decide +kernel
theorem dX10_leases_76 : decode cX10_leases 76 = .ok (.iadd, 1) := by decide +kernel
theorem dX10_leases_77 : decode cX10_leases 77 = .ok (.iaload, 1) := by decide +kernel
theorem dX10_leases_78 : decode cX10_leases 78 = .ok (.ifCond .ge 12, 3) := by decide +kernel
theorem dX10_leases_81 : decode cX10_leases 81 = .ok (.iconst 1, 1) := by decide +kernel
theorem dX10_leases_82 : decode cX10_leases 82 = .ok (.iload 4, 2) := by decide +kernel
theorem dX10_leases_84 : decode cX10_leases 84 = .ok (.iconst 1, 1) := by decide +kernel
theorem dX10_leases_85 : decode cX10_leases 85 = .ok (.isub, 1) := by decide +kernel
theorem dX10_leases_86 : decode cX10_leases 86 = .ok (.ishl, 1) := by decide +kernel
theorem dX10_leases_87 : decode cX10_leases 87 = .ok (.goto 4, 3) := by decide +kernel
theorem dX10_leases_90 : decode cX10_leases 90 = .ok (.iconst 0, 1) := by decide +kernel
theorem dX10_leases_91 : decode cX10_leases 91 = .ok (.ior, 1) := by decide +kernel
theorem dX10_leases_92 : decode cX10_leases 92 = .ok (.istore_n 3, 1) := by decide +kernel
theorem dX10_leases_93 : decode cX10_leases 93 = .ok (.iinc 4 1, 3) := by decide +kernel
theorem dX10_leases_96 : decode cX10_leases 96 = .ok (.goto (-66), 3) := by decide +kernel
theorem dX10_leases_99 : decode cX10_leases 99 = .ok (.bipush (-6), 2) := by decide +kernel
theorem dX10_leases_101 : decode cX10_leases 101 = .ok (.istore 4, 2) := by decide +kernel
theorem dX10_leases_103 : decode cX10_leases 103 = .ok (.iconst 0, 1) := by decide +kernel
theorem dX10_leases_104 : decode cX10_leases 104 = .ok (.istore 5, 2) := by decide +kernel
theorem dX10_leases_106 : decode cX10_leases 106 = .ok (.iload 5, 2) := by decide +kernel
theorem dX10_leases_108 : decode cX10_leases 108 = .ok (.sipush 4096, 3) := by decide +kernel
theorem dX10_leases_111 : decode cX10_leases 111 = .ok (.if_icmp .ge 71, 3) := by decide +kernel
theorem dX10_leases_114 : decode cX10_leases 114 = .ok (.iload 5, 2) := by decide +kernel
theorem dX10_leases_116 : decode cX10_leases 116 = .ok (.iload_n 3, 1) := by decide +kernel
theorem dX10_leases_117 : decode cX10_leases 117 = .ok (.iconst (-1), 1) := by decide +kernel
theorem dX10_leases_118 : decode cX10_leases 118 = .ok (.ixor, 1) := by decide +kernel
theorem dX10_leases_119 : decode cX10_leases 119 = .ok (.iand, 1) := by decide +kernel
theorem dX10_leases_120 : decode cX10_leases 120 = .ok (.ifCond .ne 56, 3) := by decide +kernel
theorem dX10_leases_123 : decode cX10_leases 123 = .ok (.iload 4, 2) := by decide +kernel
theorem dX10_leases_125 : decode cX10_leases 125 = .ok (.ifCond .lt 16, 3) := by decide +kernel
theorem dX10_leases_128 : decode cX10_leases 128 = .ok (.iload 5, 2) := by decide +kernel
theorem dX10_leases_130 : decode cX10_leases 130 = .ok (.invokestatic 139, 3) := by decide +kernel
theorem dX10_leases_133 : decode cX10_leases 133 = .ok (.iload 4, 2) := by decide +kernel
theorem dX10_leases_135 : decode cX10_leases 135 = .ok (.invokestatic 139, 3) := by decide +kernel
theorem dX10_leases_138 : decode cX10_leases 138 = .ok (.if_icmp .ge 38, 3) := by decide +kernel
theorem dX10_leases_141 : decode cX10_leases 141 = .ok (.aload_n 0, 1) := by decide +kernel
theorem dX10_leases_142 : decode cX10_leases 142 = .ok (.iload_n 1, 1) := by decide +kernel
theorem dX10_leases_143 : decode cX10_leases 143 = .ok (.iload 5, 2) := by decide +kernel
theorem dX10_leases_145 : decode cX10_leases 145 = .ok (.invokevirtual 135, 3) := by decide +kernel
theorem dX10_leases_148 : decode cX10_leases 148 = .ok (.aload_n 0, 1) := by decide +kernel
theorem dX10_leases_149 : decode cX10_leases 149 = .ok (.getfield 22, 3) := by decide +kernel
theorem dX10_leases_152 : decode cX10_leases 152 = .ok (.aload_n 0, 1) := by decide +kernel
theorem dX10_leases_153 : decode cX10_leases 153 = .ok (.getfield 13, 3) := by decide +kernel
theorem dX10_leases_156 : decode cX10_leases 156 = .ok (.bipush 38, 2) := by decide +kernel
theorem dX10_leases_158 : decode cX10_leases 158 = .ok (.iload_n 1, 1) := by decide +kernel
theorem dX10_leases_159 : decode cX10_leases 159 = .ok (.iadd, 1) := by decide +kernel
theorem dX10_leases_160 : decode cX10_leases 160 = .ok (.iaload, 1) := by decide +kernel
theorem dX10_leases_161 : decode cX10_leases 161 = .ok (.iaload, 1) := by decide +kernel
theorem dX10_leases_162 : decode cX10_leases 162 = .ok (.ldc 134, 2) := by decide +kernel
theorem dX10_leases_164 : decode cX10_leases 164 = .ok (.if_icmp .ge 8, 3) := by decide +kernel
theorem dX10_leases_167 : decode cX10_leases 167 = .ok (.iload 5, 2) := by decide +kernel
theorem dX10_leases_169 : decode cX10_leases 169 = .ok (.goto 5, 3) := by decide +kernel
theorem dX10_leases_172 : decode cX10_leases 172 = .ok (.iload 4, 2) := by decide +kernel
theorem dX10_leases_174 : decode cX10_leases 174 = .ok (.istore 4, 2) := by decide +kernel
theorem dX10_leases_176 : decode cX10_leases 176 = .ok (.iinc 5 1, 3) := by decide +kernel
theorem dX10_leases_179 : decode cX10_leases 179 = .ok (.goto (-73), 3) := by decide +kernel
theorem dX10_leases_182 : decode cX10_leases 182 = .ok (.iload 4, 2) := by decide +kernel
theorem dX10_leases_184 : decode cX10_leases 184 = .ok (.ifCond .lt 8, 3) := by decide +kernel
theorem dX10_leases_187 : decode cX10_leases 187 = .ok (.iload_n 2, 1) := by decide +kernel
theorem dX10_leases_188 : decode cX10_leases 188 = .ok (.iconst 1, 1) := by decide +kernel
theorem dX10_leases_189 : decode cX10_leases 189 = .ok (.if_icmp .ne 8, 3) := by decide +kernel
theorem dX10_leases_192 : decode cX10_leases 192 = .ok (.iload 4, 2) := by decide +kernel
theorem dX10_leases_194 : decode cX10_leases 194 = .ok (.goto 8, 3) := by decide +kernel
theorem dX10_leases_197 : decode cX10_leases 197 = .ok (.iload 4, 2) := by decide +kernel
theorem dX10_leases_199 : decode cX10_leases 199 = .ok (.invokestatic 139, 3) := by decide +kernel
theorem dX10_leases_202 : decode cX10_leases 202 = .ok (.ireturn, 1) := by decide +kernel
theorem dX10_most_0 : decode cX10_most 0 = .ok (.iconst 0, 1) := by decide +kernel
theorem dX10_most_1 : decode cX10_most 1 = .ok (.istore_n 3, 1) := by decide +kernel
theorem dX10_most_2 : decode cX10_most 2 = .ok (.iload_n 3, 1) := by decide +kernel
theorem dX10_most_3 : decode cX10_most 3 = .ok (.bipush 64, 2) := by decide +kernel
theorem dX10_most_5 : decode cX10_most 5 = .ok (.if_icmp .ge 24, 3) := by decide +kernel
theorem dX10_most_8 : decode cX10_most 8 = .ok (.aload_n 0, 1) := by decide +kernel
theorem dX10_most_9 : decode cX10_most 9 = .ok (.getfield 28, 3) := by decide +kernel
theorem dX10_most_12 : decode cX10_most 12 = .ok (.iload_n 3, 1) := by decide +kernel
theorem dX10_most_13 : decode cX10_most 13 = .ok (.iload_n 3, 1) := by decide +kernel
theorem dX10_most_14 : decode cX10_most 14 = .ok (.ifCond .ne 7, 3) := by decide +kernel
theorem dX10_most_17 : decode cX10_most 17 = .ok (.iconst 1, 1) := by decide +kernel
theorem dX10_most_18 : decode cX10_most 18 = .ok (.goto 4, 3) := by decide +kernel
theorem dX10_most_21 : decode cX10_most 21 = .ok (.iconst 0, 1) := by decide +kernel
theorem dX10_most_22 : decode cX10_most 22 = .ok (.bastore, 1) := by decide +kernel
theorem dX10_most_23 : decode cX10_most 23 = .ok (.iinc 3 1, 3) := by decide +kernel
theorem dX10_most_26 : decode cX10_most 26 = .ok (.goto (-24), 3) := by decide +kernel
theorem dX10_most_29 : decode cX10_most 29 = .ok (.iconst 1, 1) := by decide +kernel
theorem dX10_most_30 : decode cX10_most 30 = .ok (.istore_n 3, 1) := by decide +kernel
theorem dX10_most_31 : decode cX10_most 31 = .ok (.iload_n 3, 1) := by decide +kernel
theorem dX10_most_32 : decode cX10_most 32 = .ok (.bipush 13, 2) := by decide +kernel
theorem dX10_most_34 : decode cX10_most 34 = .ok (.if_icmp .ge 107, 3) := by decide +kernel
theorem dX10_most_37 : decode cX10_most 37 = .ok (.bipush 63, 2) := by decide +kernel
theorem dX10_most_39 : decode cX10_most 39 = .ok (.istore 4, 2) := by decide +kernel
theorem dX10_most_41 : decode cX10_most 41 = .ok (.iload 4, 2) := by decide +kernel
theorem dX10_most_43 : decode cX10_most 43 = .ok (.ifCond .le 92, 3) := by decide +kernel
theorem dX10_most_46 : decode cX10_most 46 = .ok (.iload_n 2, 1) := by decide +kernel
theorem dX10_most_47 : decode cX10_most 47 = .ok (.iload_n 3, 1) := by decide +kernel
theorem dX10_most_48 : decode cX10_most 48 = .ok (.invokestatic 65, 3) := by decide +kernel
theorem dX10_most_51 : decode cX10_most 51 = .ok (.ifCond .ne 84, 3) := by decide +kernel
theorem dX10_most_54 : decode cX10_most 54 = .ok (.iload_n 1, 1) := by decide +kernel
theorem dX10_most_55 : decode cX10_most 55 = .ok (.istore 5, 2) := by decide +kernel
theorem dX10_most_57 : decode cX10_most 57 = .ok (.iload 5, 2) := by decide +kernel
theorem dX10_most_59 : decode cX10_most 59 = .ok (.bipush 6, 2) := by decide +kernel
theorem dX10_most_61 : decode cX10_most 61 = .ok (.if_icmp .ge 68, 3) := by decide +kernel
theorem dX10_most_64 : decode cX10_most 64 = .ok (.aload_n 0, 1) := by decide +kernel
theorem dX10_most_65 : decode cX10_most 65 = .ok (.getfield 28, 3) := by decide +kernel
theorem dX10_most_68 : decode cX10_most 68 = .ok (.iload 4, 2) := by decide +kernel
theorem dX10_most_70 : decode cX10_most 70 = .ok (.aload_n 0, 1) := by decide +kernel
theorem dX10_most_71 : decode cX10_most 71 = .ok (.getfield 28, 3) := by decide +kernel
theorem dX10_most_74 : decode cX10_most 74 = .ok (.iload 4, 2) := by decide +kernel
theorem dX10_most_76 : decode cX10_most 76 = .ok (.baload, 1) := by decide +kernel
theorem dX10_most_77 : decode cX10_most 77 = .ok (.ifCond .ne 40, 3) := by decide +kernel
theorem dX10_most_80 : decode cX10_most 80 = .ok (.iload 4, 2) := by decide +kernel
theorem dX10_most_82 : decode cX10_most 82 = .ok (.iload 5, 2) := by decide +kernel
theorem dX10_most_84 : decode cX10_most 84 = .ok (.invokestatic 65, 3) := by decide +kernel
theorem dX10_most_87 : decode cX10_most 87 = .ok (.ifCond .eq 34, 3) := by decide +kernel
theorem dX10_most_90 : decode cX10_most 90 = .ok (.aload_n 0, 1) := by decide +kernel
theorem dX10_most_91 : decode cX10_most 91 = .ok (.iload 5, 2) := by decide +kernel
theorem dX10_most_93 : decode cX10_most 93 = .ok (.iload_n 3, 1) := by decide +kernel
theorem dX10_most_94 : decode cX10_most 94 = .ok (.invokevirtual 90, 3) := by decide +kernel
theorem dX10_most_97 : decode cX10_most 97 = .ok (.ifCond .eq 24, 3) := by decide +kernel
theorem dX10_most_100 : decode cX10_most 100 = .ok (.aload_n 0, 1) := by decide +kernel
theorem dX10_most_101 : decode cX10_most 101 = .ok (.getfield 28, 3) := by decide +kernel
theorem dX10_most_104 : decode cX10_most 104 = .ok (.iload 4, 2) := by decide +kernel
theorem dX10_most_106 : decode cX10_most 106 = .ok (.iconst 1, 1) := by decide +kernel
theorem dX10_most_107 : decode cX10_most 107 = .ok (.iload 5, 2) := by decide +kernel
theorem dX10_most_109 : decode cX10_most 109 = .ok (.ishl, 1) := by decide +kernel
theorem dX10_most_110 : decode cX10_most 110 = .ok (.iconst (-1), 1) := by decide +kernel
theorem dX10_most_111 : decode cX10_most 111 = .ok (.ixor, 1) := by decide +kernel
theorem dX10_most_112 : decode cX10_most 112 = .ok (.iand, 1) := by decide +kernel
theorem dX10_most_113 : decode cX10_most 113 = .ok (.baload, 1) := by decide +kernel
theorem dX10_most_114 : decode cX10_most 114 = .ok (.ifCond .eq 7, 3) := by decide +kernel
theorem dX10_most_117 : decode cX10_most 117 = .ok (.iconst 1, 1) := by decide +kernel
theorem dX10_most_118 : decode cX10_most 118 = .ok (.goto 4, 3) := by decide +kernel
theorem dX10_most_121 : decode cX10_most 121 = .ok (.iconst 0, 1) := by decide +kernel
theorem dX10_most_122 : decode cX10_most 122 = .ok (.bastore, 1) := by decide +kernel
theorem dX10_most_123 : decode cX10_most 123 = .ok (.iinc 5 1, 3) := by decide +kernel
theorem dX10_most_126 : decode cX10_most 126 = .ok (.goto (-69), 3) := by decide +kernel
theorem dX10_most_129 : decode cX10_most 129 = .ok (.iinc 4 (-1), 3) := by decide +kernel
theorem dX10_most_132 : decode cX10_most 132 = .ok (.goto (-91), 3) := by decide +kernel
theorem dX10_most_135 : decode cX10_most 135 = .ok (.iinc 3 1, 3) := by decide +kernel
theorem dX10_most_138 : decode cX10_most 138 = .ok (.goto (-107), 3) := by decide +kernel
theorem dX10_most_141 : decode cX10_most 141 = .ok (.iconst 0, 1) := by decide +kernel
theorem dX10_most_142 : decode cX10_most 142 = .ok (.istore_n 3, 1) := by decide +kernel
theorem dX10_most_143 : decode cX10_most 143 = .ok (.iconst 1, 1) := by decide +kernel
theorem dX10_most_144 : decode cX10_most 144 = .ok (.istore 4, 2) := by decide +kernel
theorem dX10_most_146 : decode cX10_most 146 = .ok (.iload 4, 2) := by decide +kernel
theorem dX10_most_148 : decode cX10_most 148 = .ok (.bipush 64, 2) := by decide +kernel
theorem dX10_most_150 : decode cX10_most 150 = .ok (.if_icmp .ge 38, 3) := by decide +kernel
theorem dX10_most_153 : decode cX10_most 153 = .ok (.aload_n 0, 1) := by decide +kernel
theorem dX10_most_154 : decode cX10_most 154 = .ok (.getfield 28, 3) := by decide +kernel
theorem dX10_most_157 : decode cX10_most 157 = .ok (.iload 4, 2) := by decide +kernel
theorem dX10_most_159 : decode cX10_most 159 = .ok (.baload, 1) := by decide +kernel
theorem dX10_most_160 : decode cX10_most 160 = .ok (.ifCond .eq 20, 3) := by decide +kernel
theorem dX10_most_163 : decode cX10_most 163 = .ok (.iload 4, 2) := by decide +kernel
theorem dX10_most_165 : decode cX10_most 165 = .ok (.invokestatic 139, 3) := by decide +kernel
theorem dX10_most_168 : decode cX10_most 168 = .ok (.iload_n 3, 1) := by decide +kernel
theorem dX10_most_169 : decode cX10_most 169 = .ok (.if_icmp .le 11, 3) := by decide +kernel
theorem dX10_most_172 : decode cX10_most 172 = .ok (.iload 4, 2) := by decide +kernel
theorem dX10_most_174 : decode cX10_most 174 = .ok (.invokestatic 139, 3) := by decide +kernel
theorem dX10_most_177 : decode cX10_most 177 = .ok (.goto 4, 3) := by decide +kernel
theorem dX10_most_180 : decode cX10_most 180 = .ok (.iload_n 3, 1) := by decide +kernel
theorem dX10_most_181 : decode cX10_most 181 = .ok (.istore_n 3, 1) := by decide +kernel
theorem dX10_most_182 : decode cX10_most 182 = .ok (.iinc 4 1, 3) := by decide +kernel
theorem dX10_most_185 : decode cX10_most 185 = .ok (.goto (-39), 3) := by decide +kernel
theorem dX10_most_188 : decode cX10_most 188 = .ok (.iload_n 3, 1) := by decide +kernel
theorem dX10_most_189 : decode cX10_most 189 = .ok (.ireturn, 1) := by decide +kernel
theorem dX10_stand_0 : decode cX10_stand 0 = .ok (.iload_n 1, 1) := by decide +kernel
theorem dX10_stand_1 : decode cX10_stand 1 = .ok (.iconst (-1), 1) := by decide +kernel
theorem dX10_stand_2 : decode cX10_stand 2 = .ok (.iconst 5, 1) := by decide +kernel
theorem dX10_stand_3 : decode cX10_stand 3 = .ok (.invokestatic 48, 3) := by decide +kernel
theorem dX10_stand_6 : decode cX10_stand 6 = .ok (.ifCond .ne 5, 3) := by decide +kernel
theorem dX10_stand_9 : decode cX10_stand 9 = .ok (.iconst (-1), 1) := by decide +kernel
theorem dX10_stand_10 : decode cX10_stand 10 = .ok (.ireturn, 1) := by decide +kernel
theorem dX10_stand_11 : decode cX10_stand 11 = .ok (.aload_n 0, 1) := by decide +kernel
theorem dX10_stand_12 : decode cX10_stand 12 = .ok (.invokevirtual 110, 3) := by decide +kernel
theorem dX10_stand_15 : decode cX10_stand 15 = .ok (.aload_n 0, 1) := by decide +kernel
theorem dX10_stand_16 : decode cX10_stand 16 = .ok (.iconst 0, 1) := by decide +kernel
theorem dX10_stand_17 : decode cX10_stand 17 = .ok (.iconst 0, 1) := by decide +kernel
theorem dX10_stand_18 : decode cX10_stand 18 = .ok (.invokevirtual 142, 3) := by decide +kernel
theorem dX10_stand_21 : decode cX10_stand 21 = .ok (.istore_n 2, 1) := by decide +kernel
theorem dX10_stand_22 : decode cX10_stand 22 = .ok (.iload_n 1, 1) := by decide +kernel
theorem dX10_stand_23 : decode cX10_stand 23 = .ok (.ifCond .ge 5, 3) := by decide +kernel
theorem dX10_stand_26 : decode cX10_stand 26 = .ok (.iload_n 2, 1) := by decide +kernel
theorem dX10_stand_27 : decode cX10_stand 27 = .ok (.ireturn, 1) := by decide +kernel
theorem dX10_stand_28 : decode cX10_stand 28 = .ok (.iconst 0, 1) := by decide +kernel
theorem dX10_stand_29 : decode cX10_stand 29 = .ok (.istore_n 3, 1) := by decide +kernel
theorem dX10_stand_30 : decode cX10_stand 30 = .ok (.bipush (-6), 2) := by decide +kernel
theorem dX10_stand_32 : decode cX10_stand 32 = .ok (.istore 4, 2) := by decide +kernel
theorem dX10_stand_34 : decode cX10_stand 34 = .ok (.iconst 0, 1) := by decide +kernel
theorem dX10_stand_35 : decode cX10_stand 35 = .ok (.istore 5, 2) := by decide +kernel
theorem dX10_stand_37 : decode cX10_stand 37 = .ok (.iload 5, 2) := by decide +kernel
theorem dX10_stand_39 : decode cX10_stand 39 = .ok (.iload_n 1, 1) := by decide +kernel
theorem dX10_stand_40 : decode cX10_stand 40 = .ok (.if_icmp .gt 112, 3) := by decide +kernel
theorem dX10_stand_43 : decode cX10_stand 43 = .ok (.bipush (-6), 2) := by decide +kernel
theorem dX10_stand_45 : decode cX10_stand 45 = .ok (.istore 4, 2) := by decide +kernel
theorem dX10_stand_47 : decode cX10_stand 47 = .ok (.iconst 1, 1) := by decide +kernel
theorem dX10_stand_48 : decode cX10_stand 48 = .ok (.istore 6, 2) := by decide +kernel
theorem dX10_stand_50 : decode cX10_stand 50 = .ok (.iload 6, 2) := by decide +kernel
theorem dX10_stand_52 : decode cX10_stand 52 = .ok (.bipush 13, 2) := by decide +kernel
theorem dX10_stand_54 : decode cX10_stand 54 = .ok (.if_icmp .ge 63, 3) := by decide +kernel
theorem dX10_stand_57 : decode cX10_stand 57 = .ok (.iload 4, 2) := by decide +kernel
theorem dX10_stand_59 : decode cX10_stand 59 = .ok (.ifCond .ge 58, 3) := by decide +kernel
theorem dX10_stand_62 : decode cX10_stand 62 = .ok (.iload_n 3, 1) := by decide +kernel
theorem dX10_stand_63 : decode cX10_stand 63 = .ok (.iload 6, 2) := by decide +kernel
theorem dX10_stand_65 : decode cX10_stand 65 = .ok (.invokestatic 65, 3) := by decide +kernel
theorem dX10_stand_68 : decode cX10_stand 68 = .ok (.ifCond .ne 39, 3) := by decide +kernel
theorem dX10_stand_71 : decode cX10_stand 71 = .ok (.aload_n 0, 1) := by decide +kernel
theorem dX10_stand_72 : decode cX10_stand 72 = .ok (.iload 5, 2) := by decide +kernel
theorem dX10_stand_74 : decode cX10_stand 74 = .ok (.iload 6, 2) := by decide +kernel
theorem dX10_stand_76 : decode cX10_stand 76 = .ok (.invokevirtual 90, 3) := by decide +kernel
theorem dX10_stand_79 : decode cX10_stand 79 = .ok (.ifCond .eq 28, 3) := by decide +kernel
theorem dX10_stand_82 : decode cX10_stand 82 = .ok (.iconst 1, 1) := by decide +kernel
theorem dX10_stand_83 : decode cX10_stand 83 = .ok (.aload_n 0, 1) := by decide +kernel
theorem dX10_stand_84 : decode cX10_stand 84 = .ok (.iload 5, 2) := by decide +kernel
theorem dX10_stand_86 : decode cX10_stand 86 = .ok (.iconst 1, 1) := by decide +kernel
theorem dX10_stand_87 : decode cX10_stand 87 = .ok (.iadd, 1) := by decide +kernel
theorem dX10_stand_88 : decode cX10_stand 88 = .ok (.iload_n 3, 1) := by decide +kernel
theorem dX10_stand_89 : decode cX10_stand 89 = .ok (.iconst 1, 1) := by decide +kernel
theorem dX10_stand_90 : decode cX10_stand 90 = .ok (.iload 6, 2) := by decide +kernel
theorem dX10_stand_92 : decode cX10_stand 92 = .ok (.ishl, 1) := by decide +kernel
theorem dX10_stand_93 : decode cX10_stand 93 = .ok (.ior, 1) := by decide +kernel
theorem dX10_stand_94 : decode cX10_stand 94 = .ok (.invokevirtual 142, 3) := by decide +kernel
theorem dX10_stand_97 : decode cX10_stand 97 = .ok (.iadd, 1) := by decide +kernel
theorem dX10_stand_98 : decode cX10_stand 98 = .ok (.iload_n 2, 1) := by decide +kernel
theorem dX10_stand_99 : decode cX10_stand 99 = .ok (.if_icmp .ne 8, 3) := by decide +kernel
theorem dX10_stand_102 : decode cX10_stand 102 = .ok (.iload 6, 2) := by decide +kernel
theorem dX10_stand_104 : decode cX10_stand 104 = .ok (.goto 5, 3) := by decide +kernel
theorem dX10_stand_107 : decode cX10_stand 107 = .ok (.iload 4, 2) := by decide +kernel
theorem dX10_stand_109 : decode cX10_stand 109 = .ok (.istore 4, 2) := by decide +kernel
theorem dX10_stand_111 : decode cX10_stand 111 = .ok (.iinc 6 1, 3) := by decide +kernel
theorem dX10_stand_114 : decode cX10_stand 114 = .ok (.goto (-64), 3) := by decide +kernel
theorem dX10_stand_117 : decode cX10_stand 117 = .ok (.iload_n 3, 1) := by decide +kernel
theorem dX10_stand_118 : decode cX10_stand 118 = .ok (.iload 4, 2) := by decide +kernel
theorem dX10_stand_120 : decode cX10_stand 120 = .ok (.ifCond .ge 7, 3) := by decide +kernel
theorem dX10_stand_123 : decode cX10_stand 123 = .ok (.iconst 0, 1) := by decide +kernel
theorem dX10_stand_124 : decode cX10_stand 124 = .ok (.goto 7, 3) := by decide +kernel
theorem dX10_stand_127 : decode cX10_stand 127 = .ok (.iconst 1, 1) := by decide +kernel
theorem dX10_stand_128 : decode cX10_stand 128 = .ok (.iload 4, 2) := by decide +kernel
theorem dX10_stand_130 : decode cX10_stand 130 = .ok (.ishl, 1) := by decide +kernel
theorem dX10_stand_131 : decode cX10_stand 131 = .ok (.ior, 1) := by decide +kernel
theorem dX10_stand_132 : decode cX10_stand 132 = .ok (.istore_n 3, 1) := by decide +kernel
theorem dX10_stand_133 : decode cX10_stand 133 = .ok (.iload_n 2, 1) := by decide +kernel
theorem dX10_stand_134 : decode cX10_stand 134 = .ok (.iload 4, 2) := by decide +kernel
theorem dX10_stand_136 : decode cX10_stand 136 = .ok (.ifCond .ge 7, 3) := by decide +kernel
theorem dX10_stand_139 : decode cX10_stand 139 = .ok (.iconst 0, 1) := by decide +kernel
theorem dX10_stand_140 : decode cX10_stand 140 = .ok (.goto 4, 3) := by decide +kernel
theorem dX10_stand_143 : decode cX10_stand 143 = .ok (.iconst 1, 1) := by decide +kernel
theorem dX10_stand_144 : decode cX10_stand 144 = .ok (.isub, 1) := by decide +kernel
theorem dX10_stand_145 : decode cX10_stand 145 = .ok (.istore_n 2, 1) := by decide +kernel
theorem dX10_stand_146 : decode cX10_stand 146 = .ok (.iinc 5 1, 3) := by decide +kernel
theorem dX10_stand_149 : decode cX10_stand 149 = .ok (.goto (-112), 3) := by decide +kernel
theorem dX10_stand_152 : decode cX10_stand 152 = .ok (.iload 4, 2) := by decide +kernel
theorem dX10_stand_154 : decode cX10_stand 154 = .ok (.ireturn, 1) := by decide +kernel
theorem dX10_wetOnes_0 : decode cX10_wetOnes 0 = .ok (.iload_n 1, 1) := by decide +kernel
theorem dX10_wetOnes_1 : decode cX10_wetOnes 1 = .ok (.bipush 10, 2) := by decide +kernel
theorem dX10_wetOnes_3 : decode cX10_wetOnes 3 = .ok (.idiv, 1) := by decide +kernel
theorem dX10_wetOnes_4 : decode cX10_wetOnes 4 = .ok (.istore_n 2, 1) := by decide +kernel
theorem dX10_wetOnes_5 : decode cX10_wetOnes 5 = .ok (.iconst 0, 1) := by decide +kernel
theorem dX10_wetOnes_6 : decode cX10_wetOnes 6 = .ok (.istore_n 3, 1) := by decide +kernel
theorem dX10_wetOnes_7 : decode cX10_wetOnes 7 = .ok (.iconst 0, 1) := by decide +kernel
theorem dX10_wetOnes_8 : decode cX10_wetOnes 8 = .ok (.istore 4, 2) := by decide +kernel
theorem dX10_wetOnes_10 : decode cX10_wetOnes 10 = .ok (.iconst 1, 1) := by decide +kernel
theorem dX10_wetOnes_11 : decode cX10_wetOnes 11 = .ok (.istore 5, 2) := by decide +kernel
theorem dX10_wetOnes_13 : decode cX10_wetOnes 13 = .ok (.iload 5, 2) := by decide +kernel
theorem dX10_wetOnes_15 : decode cX10_wetOnes 15 = .ok (.ifCond .eq 152, 3) := by decide +kernel
theorem dX10_wetOnes_18 : decode cX10_wetOnes 18 = .ok (.iload 4, 2) := by decide +kernel
theorem dX10_wetOnes_20 : decode cX10_wetOnes 20 = .ok (.bipush 13, 2) := by decide +kernel
theorem dX10_wetOnes_22 : decode cX10_wetOnes 22 = .ok (.if_icmp .ge 145, 3) := by decide +kernel
theorem dX10_wetOnes_25 : decode cX10_wetOnes 25 = .ok (.bipush (-6), 2) := by decide +kernel
theorem dX10_wetOnes_27 : decode cX10_wetOnes 27 = .ok (.istore 6, 2) := by decide +kernel
theorem dX10_wetOnes_29 : decode cX10_wetOnes 29 = .ok (.iload 4, 2) := by decide +kernel
theorem dX10_wetOnes_31 : decode cX10_wetOnes 31 = .ok (.iconst 1, 1) := by decide +kernel
theorem dX10_wetOnes_32 : decode cX10_wetOnes 32 = .ok (.iadd, 1) := by decide +kernel
theorem dX10_wetOnes_33 : decode cX10_wetOnes 33 = .ok (.istore 7, 2) := by decide +kernel
theorem dX10_wetOnes_35 : decode cX10_wetOnes 35 = .ok (.iload 7, 2) := by decide +kernel
theorem dX10_wetOnes_37 : decode cX10_wetOnes 37 = .ok (.iload 4, 2) := by decide +kernel
theorem dX10_wetOnes_39 : decode cX10_wetOnes 39 = .ok (.aload_n 0, 1) := by decide +kernel
theorem dX10_wetOnes_40 : decode cX10_wetOnes 40 = .ok (.getfield 13, 3) := by decide +kernel
theorem dX10_wetOnes_43 : decode cX10_wetOnes 43 = .ok (.bipush 26, 2) := by decide +kernel
theorem dX10_wetOnes_45 : decode cX10_wetOnes 45 = .ok (.iload_n 2, 1) := by decide +kernel
theorem dX10_wetOnes_46 : decode cX10_wetOnes 46 = .ok (.iadd, 1) := by decide +kernel
theorem dX10_wetOnes_47 : decode cX10_wetOnes 47 = .ok (.iaload, 1) := by decide +kernel
theorem dX10_wetOnes_48 : decode cX10_wetOnes 48 = .ok (.iadd, 1) := by decide +kernel
theorem dX10_wetOnes_49 : decode cX10_wetOnes 49 = .ok (.if_icmp .gt 66, 3) := by decide +kernel
theorem dX10_wetOnes_52 : decode cX10_wetOnes 52 = .ok (.iload 7, 2) := by decide +kernel
theorem dX10_wetOnes_54 : decode cX10_wetOnes 54 = .ok (.bipush 13, 2) := by decide +kernel
theorem dX10_wetOnes_56 : decode cX10_wetOnes 56 = .ok (.if_icmp .gt 59, 3) := by decide +kernel
theorem dX10_wetOnes_59 : decode cX10_wetOnes 59 = .ok (.iload 7, 2) := by decide +kernel
theorem dX10_wetOnes_61 : decode cX10_wetOnes 61 = .ok (.bipush 13, 2) := by decide +kernel
theorem dX10_wetOnes_63 : decode cX10_wetOnes 63 = .ok (.if_icmp .eq 13, 3) := by decide +kernel
theorem dX10_wetOnes_66 : decode cX10_wetOnes 66 = .ok (.aload_n 0, 1) := by decide +kernel
theorem dX10_wetOnes_67 : decode cX10_wetOnes 67 = .ok (.iload_n 2, 1) := by decide +kernel
theorem dX10_wetOnes_68 : decode cX10_wetOnes 68 = .ok (.iload 7, 2) := by decide +kernel
theorem dX10_wetOnes_70 : decode cX10_wetOnes 70 = .ok (.invokevirtual 90, 3) := by decide +kernel
theorem dX10_wetOnes_73 : decode cX10_wetOnes 73 = .ok (.ifCond .eq 7, 3) := by decide +kernel
theorem dX10_wetOnes_76 : decode cX10_wetOnes 76 = .ok (.iconst 1, 1) := by decide +kernel
theorem dX10_wetOnes_77 : decode cX10_wetOnes 77 = .ok (.goto 4, 3) := by decide +kernel
theorem dX10_wetOnes_80 : decode cX10_wetOnes 80 = .ok (.iconst 0, 1) := by decide +kernel
theorem dX10_wetOnes_81 : decode cX10_wetOnes 81 = .ok (.istore 8, 2) := by decide +kernel
theorem dX10_wetOnes_83 : decode cX10_wetOnes 83 = .ok (.iload 8, 2) := by decide +kernel
theorem dX10_wetOnes_85 : decode cX10_wetOnes 85 = .ok (.ifCond .eq 20, 3) := by decide +kernel
theorem dX10_wetOnes_88 : decode cX10_wetOnes 88 = .ok (.iload 6, 2) := by decide +kernel
theorem dX10_wetOnes_90 : decode cX10_wetOnes 90 = .ok (.ifCond .lt 10, 3) := by decide +kernel
theorem dX10_wetOnes_93 : decode cX10_wetOnes 93 = .ok (.iload_n 1, 1) := by decide +kernel
theorem dX10_wetOnes_94 : decode cX10_wetOnes 94 = .ok (.bipush 10, 2) := by decide +kernel
theorem dX10_wetOnes_96 : decode cX10_wetOnes 96 = .ok (.irem, 1) := by decide +kernel
theorem dX10_wetOnes_97 : decode cX10_wetOnes 97 = .ok (.ifCond .ne 8, 3) := by decide +kernel
theorem dX10_wetOnes_100 : decode cX10_wetOnes 100 = .ok (.iload 7, 2) := by decide +kernel
theorem dX10_wetOnes_102 : decode cX10_wetOnes 102 = .ok (.goto 5, 3) := by decide +kernel
theorem dX10_wetOnes_105 : decode cX10_wetOnes 105 = .ok (.iload 6, 2) := by decide +kernel
theorem dX10_wetOnes_107 : decode cX10_wetOnes 107 = .ok (.istore 6, 2) := by decide +kernel
theorem dX10_wetOnes_109 : decode cX10_wetOnes 109 = .ok (.iinc 7 1, 3) := by decide +kernel
theorem dX10_wetOnes_112 : decode cX10_wetOnes 112 = .ok (.goto (-77), 3) := by decide +kernel
theorem dX10_wetOnes_115 : decode cX10_wetOnes 115 = .ok (.iload 6, 2) := by decide +kernel
theorem dX10_wetOnes_117 : decode cX10_wetOnes 117 = .ok (.ifCond .le 7, 3) := by decide +kernel
theorem dX10_wetOnes_120 : decode cX10_wetOnes 120 = .ok (.iconst 1, 1) := by decide +kernel
theorem dX10_wetOnes_121 : decode cX10_wetOnes 121 = .ok (.goto 4, 3) := by decide +kernel
theorem dX10_wetOnes_124 : decode cX10_wetOnes 124 = .ok (.iconst 0, 1) := by decide +kernel
theorem dX10_wetOnes_125 : decode cX10_wetOnes 125 = .ok (.istore 5, 2) := by decide +kernel
theorem dX10_wetOnes_127 : decode cX10_wetOnes 127 = .ok (.iload 5, 2) := by decide +kernel
theorem dX10_wetOnes_129 : decode cX10_wetOnes 129 = .ok (.ifCond .eq 8, 3) := by decide +kernel
theorem dX10_wetOnes_132 : decode cX10_wetOnes 132 = .ok (.iload 6, 2) := by decide +kernel
theorem dX10_wetOnes_134 : decode cX10_wetOnes 134 = .ok (.goto 5, 3) := by decide +kernel
theorem dX10_wetOnes_137 : decode cX10_wetOnes 137 = .ok (.iload 4, 2) := by decide +kernel
theorem dX10_wetOnes_139 : decode cX10_wetOnes 139 = .ok (.istore 4, 2) := by decide +kernel
theorem dX10_wetOnes_141 : decode cX10_wetOnes 141 = .ok (.iload_n 3, 1) := by decide +kernel
theorem dX10_wetOnes_142 : decode cX10_wetOnes 142 = .ok (.iload 5, 2) := by decide +kernel
theorem dX10_wetOnes_144 : decode cX10_wetOnes 144 = .ok (.ifCond .eq 17, 3) := by decide +kernel
theorem dX10_wetOnes_147 : decode cX10_wetOnes 147 = .ok (.iload 6, 2) := by decide +kernel
theorem dX10_wetOnes_149 : decode cX10_wetOnes 149 = .ok (.bipush 13, 2) := by decide +kernel
theorem dX10_wetOnes_151 : decode cX10_wetOnes 151 = .ok (.if_icmp .ge 10, 3) := by decide +kernel
theorem dX10_wetOnes_154 : decode cX10_wetOnes 154 = .ok (.iconst 1, 1) := by decide +kernel
theorem dX10_wetOnes_155 : decode cX10_wetOnes 155 = .ok (.iload 6, 2) := by decide +kernel
theorem dX10_wetOnes_157 : decode cX10_wetOnes 157 = .ok (.ishl, 1) := by decide +kernel
theorem dX10_wetOnes_158 : decode cX10_wetOnes 158 = .ok (.goto 4, 3) := by decide +kernel
theorem dX10_wetOnes_161 : decode cX10_wetOnes 161 = .ok (.iconst 0, 1) := by decide +kernel
theorem dX10_wetOnes_162 : decode cX10_wetOnes 162 = .ok (.ior, 1) := by decide +kernel
theorem dX10_wetOnes_163 : decode cX10_wetOnes 163 = .ok (.istore_n 3, 1) := by decide +kernel
theorem dX10_wetOnes_164 : decode cX10_wetOnes 164 = .ok (.goto (-151), 3) := by decide +kernel
theorem dX10_wetOnes_167 : decode cX10_wetOnes 167 = .ok (.iload_n 3, 1) := by decide +kernel
theorem dX10_wetOnes_168 : decode cX10_wetOnes 168 = .ok (.ireturn, 1) := by decide +kernel
theorem dX10_felt_0 : decode cX10_felt 0 = .ok (.iload_n 1, 1) := by decide +kernel
theorem dX10_felt_1 : decode cX10_felt 1 = .ok (.invokestatic 73, 3) := by decide +kernel
theorem dX10_felt_4 : decode cX10_felt 4 = .ok (.ifCond .ne 5, 3) := by decide +kernel
theorem dX10_felt_7 : decode cX10_felt 7 = .ok (.iconst (-1), 1) := by decide +kernel
theorem dX10_felt_8 : decode cX10_felt 8 = .ok (.ireturn, 1) := by decide +kernel
theorem dX10_felt_9 : decode cX10_felt 9 = .ok (.aload_n 0, 1) := by decide +kernel
theorem dX10_felt_10 : decode cX10_felt 10 = .ok (.getfield 145, 3) := by decide +kernel
theorem dX10_felt_13 : decode cX10_felt 13 = .ok (.bipush 8, 2) := by decide +kernel
theorem dX10_felt_15 : decode cX10_felt 15 = .ok (.if_icmp .ne 6, 3) := by decide +kernel
theorem dX10_felt_18 : decode cX10_felt 18 = .ok (.bipush (-4), 2) := by decide +kernel
theorem dX10_felt_20 : decode cX10_felt 20 = .ok (.ireturn, 1) := by decide +kernel
theorem dX10_felt_21 : decode cX10_felt 21 = .ok (.aload_n 0, 1) := by decide +kernel
theorem dX10_felt_22 : decode cX10_felt 22 = .ok (.getfield 16, 3) := by decide +kernel
theorem dX10_felt_25 : decode cX10_felt 25 = .ok (.iconst 2, 1) := by decide +kernel
theorem dX10_felt_26 : decode cX10_felt 26 = .ok (.aload_n 0, 1) := by decide +kernel
theorem dX10_felt_27 : decode cX10_felt 27 = .ok (.getfield 145, 3) := by decide +kernel
theorem dX10_felt_30 : decode cX10_felt 30 = .ok (.imul, 1) := by decide +kernel
theorem dX10_felt_31 : decode cX10_felt 31 = .ok (.iload_n 1, 1) := by decide +kernel
theorem dX10_felt_32 : decode cX10_felt 32 = .ok (.iastore, 1) := by decide +kernel
theorem dX10_felt_33 : decode cX10_felt 33 = .ok (.aload_n 0, 1) := by decide +kernel
theorem dX10_felt_34 : decode cX10_felt 34 = .ok (.getfield 16, 3) := by decide +kernel
theorem dX10_felt_37 : decode cX10_felt 37 = .ok (.iconst 2, 1) := by decide +kernel
theorem dX10_felt_38 : decode cX10_felt 38 = .ok (.aload_n 0, 1) := by decide +kernel
theorem dX10_felt_39 : decode cX10_felt 39 = .ok (.getfield 145, 3) := by decide +kernel
theorem dX10_felt_42 : decode cX10_felt 42 = .ok (.imul, 1) := by decide +kernel
theorem dX10_felt_43 : decode cX10_felt 43 = .ok (.iconst 1, 1) := by decide +kernel
theorem dX10_felt_44 : decode cX10_felt 44 = .ok (.iadd, 1) := by decide +kernel
theorem dX10_felt_45 : decode cX10_felt 45 = .ok (.iload_n 2, 1) := by decide +kernel
theorem dX10_felt_46 : decode cX10_felt 46 = .ok (.ifCond .eq 7, 3) := by decide +kernel
theorem dX10_felt_49 : decode cX10_felt 49 = .ok (.iconst 1, 1) := by decide +kernel
theorem dX10_felt_50 : decode cX10_felt 50 = .ok (.goto 4, 3) := by decide +kernel
theorem dX10_felt_53 : decode cX10_felt 53 = .ok (.iconst 0, 1) := by decide +kernel
theorem dX10_felt_54 : decode cX10_felt 54 = .ok (.iastore, 1) := by decide +kernel
theorem dX10_felt_55 : decode cX10_felt 55 = .ok (.aload_n 0, 1) := by decide +kernel
theorem dX10_felt_56 : decode cX10_felt 56 = .ok (.dup, 1) := by decide +kernel
theorem dX10_felt_57 : decode cX10_felt 57 = .ok (.getfield 145, 3) := by decide +kernel
theorem dX10_felt_60 : decode cX10_felt 60 = .ok (.iconst 1, 1) := by decide +kernel
theorem dX10_felt_61 : decode cX10_felt 61 = .ok (.iadd, 1) := by decide +kernel
theorem dX10_felt_62 : decode cX10_felt 62 = .ok (.putfield 145, 3) := by decide +kernel
theorem dX10_felt_65 : decode cX10_felt 65 = .ok (.aload_n 0, 1) := by decide +kernel
theorem dX10_felt_66 : decode cX10_felt 66 = .ok (.getfield 145, 3) := by decide +kernel
theorem dX10_felt_69 : decode cX10_felt 69 = .ok (.ireturn, 1) := by decide +kernel
theorem dX10_forget_0 : decode cX10_forget 0 = .ok (.aload_n 0, 1) := by decide +kernel
theorem dX10_forget_1 : decode cX10_forget 1 = .ok (.getfield 145, 3) := by decide +kernel
theorem dX10_forget_4 : decode cX10_forget 4 = .ok (.istore_n 1, 1) := by decide +kernel
theorem dX10_forget_5 : decode cX10_forget 5 = .ok (.aload_n 0, 1) := by decide +kernel
theorem dX10_forget_6 : decode cX10_forget 6 = .ok (.iconst 0, 1) := by decide +kernel
theorem dX10_forget_7 : decode cX10_forget 7 = .ok (.putfield 145, 3) := by decide +kernel
theorem dX10_forget_10 : decode cX10_forget 10 = .ok (.iload_n 1, 1) := by decide +kernel
theorem dX10_forget_11 : decode cX10_forget 11 = .ok (.ireturn, 1) := by decide +kernel
theorem dX10_isFit_0 : decode cX10_isFit 0 = .ok (.iload_n 1, 1) := by decide +kernel
theorem dX10_isFit_1 : decode cX10_isFit 1 = .ok (.bipush 10, 2) := by decide +kernel
theorem dX10_isFit_3 : decode cX10_isFit 3 = .ok (.irem, 1) := by decide +kernel
theorem dX10_isFit_4 : decode cX10_isFit 4 = .ok (.iconst 2, 1) := by decide +kernel
theorem dX10_isFit_5 : decode cX10_isFit 5 = .ok (.if_icmp .ge 7, 3) := by decide +kernel
theorem dX10_isFit_8 : decode cX10_isFit 8 = .ok (.iconst 1, 1) := by decide +kernel
theorem dX10_isFit_9 : decode cX10_isFit 9 = .ok (.goto 4, 3) := by decide +kernel
theorem dX10_isFit_12 : decode cX10_isFit 12 = .ok (.iconst 0, 1) := by decide +kernel
theorem dX10_isFit_13 : decode cX10_isFit 13 = .ok (.istore_n 2, 1) := by decide +kernel
theorem dX10_isFit_14 : decode cX10_isFit 14 = .ok (.iconst 0, 1) := by decide +kernel
theorem dX10_isFit_15 : decode cX10_isFit 15 = .ok (.istore_n 3, 1) := by decide +kernel
theorem dX10_isFit_16 : decode cX10_isFit 16 = .ok (.iload_n 3, 1) := by decide +kernel
theorem dX10_isFit_17 : decode cX10_isFit 17 = .ok (.aload_n 0, 1) := by decide +kernel
theorem dX10_isFit_18 : decode cX10_isFit 18 = .ok (.getfield 145, 3) := by decide +kernel
theorem dX10_isFit_21 : decode cX10_isFit 21 = .ok (.if_icmp .ge 57, 3) := by decide +kernel
theorem dX10_isFit_24 : decode cX10_isFit 24 = .ok (.iload_n 2, 1) := by decide +kernel
theorem dX10_isFit_25 : decode cX10_isFit 25 = .ok (.ifCond .eq 53, 3) := by decide +kernel
theorem dX10_isFit_28 : decode cX10_isFit 28 = .ok (.aload_n 0, 1) := by decide +kernel
theorem dX10_isFit_29 : decode cX10_isFit 29 = .ok (.iload_n 1, 1) := by decide +kernel
theorem dX10_isFit_30 : decode cX10_isFit 30 = .ok (.invokevirtual 148, 3) := by decide +kernel
theorem dX10_isFit_33 : decode cX10_isFit 33 = .ok (.aload_n 0, 1) := by decide +kernel
theorem dX10_isFit_34 : decode cX10_isFit 34 = .ok (.getfield 16, 3) := by decide +kernel
theorem dX10_isFit_37 : decode cX10_isFit 37 = .ok (.iconst 2, 1) := by decide +kernel
theorem dX10_isFit_38 : decode cX10_isFit 38 = .ok (.iload_n 3, 1) := by decide +kernel
theorem dX10_isFit_39 : decode cX10_isFit 39 = .ok (.imul, 1) := by decide +kernel
theorem dX10_isFit_40 : decode cX10_isFit 40 = .ok (.iaload, 1) := by decide +kernel
theorem dX10_isFit_41 : decode cX10_isFit 41 = .ok (.invokestatic 65, 3) := by decide +kernel
theorem dX10_isFit_44 : decode cX10_isFit 44 = .ok (.aload_n 0, 1) := by decide +kernel
theorem dX10_isFit_45 : decode cX10_isFit 45 = .ok (.getfield 16, 3) := by decide +kernel
theorem dX10_isFit_48 : decode cX10_isFit 48 = .ok (.iconst 2, 1) := by decide +kernel
theorem dX10_isFit_49 : decode cX10_isFit 49 = .ok (.iload_n 3, 1) := by decide +kernel
theorem dX10_isFit_50 : decode cX10_isFit 50 = .ok (.imul, 1) := by decide +kernel
theorem dX10_isFit_51 : decode cX10_isFit 51 = .ok (.iconst 1, 1) := by decide +kernel
theorem dX10_isFit_52 : decode cX10_isFit 52 = .ok (.iadd, 1) := by decide +kernel
theorem dX10_isFit_53 : decode cX10_isFit 53 = .ok (.iaload, 1) := by decide +kernel
theorem dX10_isFit_54 : decode cX10_isFit 54 = .ok (.iconst 1, 1) := by decide +kernel
theorem dX10_isFit_55 : decode cX10_isFit 55 = .ok (.if_icmp .ne 7, 3) := by decide +kernel
theorem dX10_isFit_58 : decode cX10_isFit 58 = .ok (.iconst 1, 1) := by decide +kernel
theorem dX10_isFit_59 : decode cX10_isFit 59 = .ok (.goto 4, 3) := by decide +kernel
theorem dX10_isFit_62 : decode cX10_isFit 62 = .ok (.iconst 0, 1) := by decide +kernel
theorem dX10_isFit_63 : decode cX10_isFit 63 = .ok (.if_icmp .ne 7, 3) := by decide +kernel
theorem dX10_isFit_66 : decode cX10_isFit 66 = .ok (.iconst 1, 1) := by decide +kernel
theorem dX10_isFit_67 : decode cX10_isFit 67 = .ok (.goto 4, 3) := by decide +kernel
theorem dX10_isFit_70 : decode cX10_isFit 70 = .ok (.iconst 0, 1) := by decide +kernel
theorem dX10_isFit_71 : decode cX10_isFit 71 = .ok (.istore_n 2, 1) := by decide +kernel
theorem dX10_isFit_72 : decode cX10_isFit 72 = .ok (.iinc 3 1, 3) := by decide +kernel
theorem dX10_isFit_75 : decode cX10_isFit 75 = .ok (.goto (-59), 3) := by decide +kernel
theorem dX10_isFit_78 : decode cX10_isFit 78 = .ok (.iload_n 2, 1) := by decide +kernel
theorem dX10_isFit_79 : decode cX10_isFit 79 = .ok (.ireturn, 1) := by decide +kernel
theorem dX10_ups_0 : decode cX10_ups 0 = .ok (.aload_n 0, 1) := by decide +kernel
theorem dX10_ups_1 : decode cX10_ups 1 = .ok (.invokevirtual 110, 3) := by decide +kernel
theorem dX10_ups_4 : decode cX10_ups 4 = .ok (.iconst 0, 1) := by decide +kernel
theorem dX10_ups_5 : decode cX10_ups 5 = .ok (.istore_n 2, 1) := by decide +kernel
theorem dX10_ups_6 : decode cX10_ups 6 = .ok (.iconst 0, 1) := by decide +kernel
theorem dX10_ups_7 : decode cX10_ups 7 = .ok (.istore_n 3, 1) := by decide +kernel
theorem dX10_ups_8 : decode cX10_ups 8 = .ok (.iload_n 3, 1) := by decide +kernel
theorem dX10_ups_9 : decode cX10_ups 9 = .ok (.bipush 60, 2) := by decide +kernel
theorem dX10_ups_11 : decode cX10_ups 11 = .ok (.if_icmp .ge 27, 3) := by decide +kernel
theorem dX10_ups_14 : decode cX10_ups 14 = .ok (.aload_n 0, 1) := by decide +kernel
theorem dX10_ups_15 : decode cX10_ups 15 = .ok (.iload_n 3, 1) := by decide +kernel
theorem dX10_ups_16 : decode cX10_ups 16 = .ok (.invokevirtual 151, 3) := by decide +kernel
theorem dX10_ups_19 : decode cX10_ups 19 = .ok (.ifCond .eq 13, 3) := by decide +kernel
theorem dX10_ups_22 : decode cX10_ups 22 = .ok (.iload_n 2, 1) := by decide +kernel
theorem dX10_ups_23 : decode cX10_ups 23 = .ok (.iload_n 1, 1) := by decide +kernel
theorem dX10_ups_24 : decode cX10_ups 24 = .ok (.if_icmp .ne 5, 3) := by decide +kernel
theorem dX10_ups_27 : decode cX10_ups 27 = .ok (.iload_n 3, 1) := by decide +kernel
theorem dX10_ups_28 : decode cX10_ups 28 = .ok (.ireturn, 1) := by decide +kernel
theorem dX10_ups_29 : decode cX10_ups 29 = .ok (.iinc 2 1, 3) := by decide +kernel
theorem dX10_ups_32 : decode cX10_ups 32 = .ok (.iinc 3 1, 3) := by decide +kernel
theorem dX10_ups_35 : decode cX10_ups 35 = .ok (.goto (-27), 3) := by decide +kernel
theorem dX10_ups_38 : decode cX10_ups 38 = .ok (.iload_n 1, 1) := by decide +kernel
theorem dX10_ups_39 : decode cX10_ups 39 = .ok (.iconst (-1), 1) := by decide +kernel
theorem dX10_ups_40 : decode cX10_ups 40 = .ok (.if_icmp .ne 7, 3) := by decide +kernel
theorem dX10_ups_43 : decode cX10_ups 43 = .ok (.iload_n 2, 1) := by decide +kernel
theorem dX10_ups_44 : decode cX10_ups 44 = .ok (.goto 5, 3) := by decide +kernel
theorem dX10_ups_47 : decode cX10_ups 47 = .ok (.bipush (-6), 2) := by decide +kernel
theorem dX10_ups_49 : decode cX10_ups 49 = .ok (.ireturn, 1) := by decide +kernel
theorem dX10_ask_0 : decode cX10_ask 0 = .ok (.iload_n 1, 1) := by decide +kernel
theorem dX10_ask_1 : decode cX10_ask 1 = .ok (.iconst 0, 1) := by decide +kernel
theorem dX10_ask_2 : decode cX10_ask 2 = .ok (.iconst 1, 1) := by decide +kernel
theorem dX10_ask_3 : decode cX10_ask 3 = .ok (.invokestatic 48, 3) := by decide +kernel
theorem dX10_ask_6 : decode cX10_ask 6 = .ok (.ifCond .ne 6, 3) := by decide +kernel
theorem dX10_ask_9 : decode cX10_ask 9 = .ok (.bipush (-2), 2) := by decide +kernel
theorem dX10_ask_11 : decode cX10_ask 11 = .ok (.ireturn, 1) := by decide +kernel
theorem dX10_ask_12 : decode cX10_ask 12 = .ok (.aload_n 0, 1) := by decide +kernel
theorem dX10_ask_13 : decode cX10_ask 13 = .ok (.invokevirtual 110, 3) := by decide +kernel
theorem dX10_ask_16 : decode cX10_ask 16 = .ok (.bipush (-6), 2) := by decide +kernel
theorem dX10_ask_18 : decode cX10_ask 18 = .ok (.istore_n 2, 1) := by decide +kernel
theorem dX10_ask_19 : decode cX10_ask 19 = .ok (.ldc 134, 2) := by decide +kernel
theorem dX10_ask_21 : decode cX10_ask 21 = .ok (.istore_n 3, 1) := by decide +kernel
theorem dX10_ask_22 : decode cX10_ask 22 = .ok (.iconst 1, 1) := by decide +kernel
theorem dX10_ask_23 : decode cX10_ask 23 = .ok (.istore 4, 2) := by decide +kernel
theorem dX10_ask_25 : decode cX10_ask 25 = .ok (.iload 4, 2) := by decide +kernel
theorem dX10_ask_27 : decode cX10_ask 27 = .ok (.bipush 13, 2) := by decide +kernel
theorem dX10_ask_29 : decode cX10_ask 29 = .ok (.if_icmp .ge 147, 3) := by decide +kernel
theorem dX10_ask_32 : decode cX10_ask 32 = .ok (.iconst 0, 1) := by decide +kernel
theorem dX10_ask_33 : decode cX10_ask 33 = .ok (.istore 5, 2) := by decide +kernel
theorem dX10_ask_35 : decode cX10_ask 35 = .ok (.iconst 0, 1) := by decide +kernel
theorem dX10_ask_36 : decode cX10_ask 36 = .ok (.istore 6, 2) := by decide +kernel
theorem dX10_ask_38 : decode cX10_ask 38 = .ok (.iconst 0, 1) := by decide +kernel
theorem dX10_ask_39 : decode cX10_ask 39 = .ok (.istore 7, 2) := by decide +kernel
theorem dX10_ask_41 : decode cX10_ask 41 = .ok (.iload 7, 2) := by decide +kernel
theorem dX10_ask_43 : decode cX10_ask 43 = .ok (.bipush 60, 2) := by decide +kernel
theorem dX10_ask_45 : decode cX10_ask 45 = .ok (.if_icmp .ge 61, 3) := by decide +kernel
theorem dX10_ask_48 : decode cX10_ask 48 = .ok (.aload_n 0, 1) := by decide +kernel
theorem dX10_ask_49 : decode cX10_ask 49 = .ok (.iload 7, 2) := by decide +kernel
theorem dX10_ask_51 : decode cX10_ask 51 = .ok (.invokevirtual 151, 3) := by decide +kernel
theorem dX10_ask_54 : decode cX10_ask 54 = .ok (.istore 8, 2) := by decide +kernel
theorem dX10_ask_56 : decode cX10_ask 56 = .ok (.iload 5, 2) := by decide +kernel
theorem dX10_ask_58 : decode cX10_ask 58 = .ok (.iload 8, 2) := by decide +kernel
theorem dX10_ask_60 : decode cX10_ask 60 = .ok (.ifCond .eq 7, 3) := by decide +kernel
theorem dX10_ask_63 : decode cX10_ask 63 = .ok (.iconst 1, 1) := by decide +kernel
theorem dX10_ask_64 : decode cX10_ask 64 = .ok (.goto 4, 3) := by decide +kernel
theorem dX10_ask_67 : decode cX10_ask 67 = .ok (.iconst 0, 1) := by decide +kernel
theorem dX10_ask_68 : decode cX10_ask 68 = .ok (.iadd, 1) := by decide +kernel
theorem dX10_ask_69 : decode cX10_ask 69 = .ok (.istore 5, 2) := by decide +kernel
theorem dX10_ask_71 : decode cX10_ask 71 = .ok (.iload 6, 2) := by decide +kernel
theorem dX10_ask_73 : decode cX10_ask 73 = .ok (.iload 8, 2) := by decide +kernel
theorem dX10_ask_75 : decode cX10_ask 75 = .ok (.ifCond .eq 21, 3) := by decide +kernel
theorem dX10_ask_78 : decode cX10_ask 78 = .ok (.aload_n 0, 1) := by decide +kernel
theorem dX10_ask_79 : decode cX10_ask 79 = .ok (.iload 7, 2) := by decide +kernel
theorem dX10_ask_81 : decode cX10_ask 81 = .ok (.invokevirtual 148, 3) := by decide +kernel
theorem dX10_ask_84 : decode cX10_ask 84 = .ok (.iload 4, 2) := by decide +kernel
theorem dX10_ask_86 : decode cX10_ask 86 = .ok (.invokestatic 65, 3) := by decide +kernel
theorem dX10_ask_89 : decode cX10_ask 89 = .ok (.ifCond .eq 7, 3) := by decide +kernel
theorem dX10_ask_92 : decode cX10_ask 92 = .ok (.iconst 1, 1) := by decide +kernel
theorem dX10_ask_93 : decode cX10_ask 93 = .ok (.goto 4, 3) := by decide +kernel
theorem dX10_ask_96 : decode cX10_ask 96 = .ok (.iconst 0, 1) := by decide +kernel
theorem dX10_ask_97 : decode cX10_ask 97 = .ok (.iadd, 1) := by decide +kernel
theorem dX10_ask_98 : decode cX10_ask 98 = .ok (.istore 6, 2) := by decide +kernel
theorem dX10_ask_100 : decode cX10_ask 100 = .ok (.iinc 7 1, 3) := by decide +kernel
theorem dX10_ask_103 : decode cX10_ask 103 = .ok (.goto (-62), 3) := by decide +kernel
theorem dX10_ask_106 : decode cX10_ask 106 = .ok (.iload 6, 2) := by decide +kernel
theorem dX10_ask_108 : decode cX10_ask 108 = .ok (.iload 5, 2) := by decide +kernel
theorem dX10_ask_110 : decode cX10_ask 110 = .ok (.iload 6, 2) := by decide +kernel
theorem dX10_ask_112 : decode cX10_ask 112 = .ok (.isub, 1) := by decide +kernel
theorem dX10_ask_113 : decode cX10_ask 113 = .ok (.if_icmp .le 8, 3) := by decide +kernel
theorem dX10_ask_116 : decode cX10_ask 116 = .ok (.iload 6, 2) := by decide +kernel
theorem dX10_ask_118 : decode cX10_ask 118 = .ok (.goto 8, 3) := by decide +kernel
theorem dX10_ask_121 : decode cX10_ask 121 = .ok (.iload 5, 2) := by decide +kernel
theorem dX10_ask_123 : decode cX10_ask 123 = .ok (.iload 6, 2) := by decide +kernel
theorem dX10_ask_125 : decode cX10_ask 125 = .ok (.isub, 1) := by decide +kernel
theorem dX10_ask_126 : decode cX10_ask 126 = .ok (.istore 7, 2) := by decide +kernel
theorem dX10_ask_128 : decode cX10_ask 128 = .ok (.iload 5, 2) := by decide +kernel
theorem dX10_ask_130 : decode cX10_ask 130 = .ok (.ifCond .le 13, 3) := by decide +kernel
theorem dX10_ask_133 : decode cX10_ask 133 = .ok (.iload 7, 2) := by decide +kernel
theorem dX10_ask_135 : decode cX10_ask 135 = .ok (.iload_n 3, 1) := by decide +kernel
theorem dX10_ask_136 : decode cX10_ask 136 = .ok (.if_icmp .ge 7, 3) := by decide +kernel
theorem dX10_ask_139 : decode cX10_ask 139 = .ok (.iconst 1, 1) := by decide +kernel
theorem dX10_ask_140 : decode cX10_ask 140 = .ok (.goto 4, 3) := by decide +kernel
theorem dX10_ask_143 : decode cX10_ask 143 = .ok (.iconst 0, 1) := by decide +kernel
theorem dX10_ask_144 : decode cX10_ask 144 = .ok (.istore 8, 2) := by decide +kernel
theorem dX10_ask_146 : decode cX10_ask 146 = .ok (.iload 8, 2) := by decide +kernel
theorem dX10_ask_148 : decode cX10_ask 148 = .ok (.ifCond .eq 8, 3) := by decide +kernel
theorem dX10_ask_151 : decode cX10_ask 151 = .ok (.iload 4, 2) := by decide +kernel
theorem dX10_ask_153 : decode cX10_ask 153 = .ok (.goto 4, 3) := by decide +kernel
theorem dX10_ask_156 : decode cX10_ask 156 = .ok (.iload_n 2, 1) := by decide +kernel
theorem dX10_ask_157 : decode cX10_ask 157 = .ok (.istore_n 2, 1) := by decide +kernel
theorem dX10_ask_158 : decode cX10_ask 158 = .ok (.iload 8, 2) := by decide +kernel
theorem dX10_ask_160 : decode cX10_ask 160 = .ok (.ifCond .eq 8, 3) := by decide +kernel
theorem dX10_ask_163 : decode cX10_ask 163 = .ok (.iload 7, 2) := by decide +kernel
theorem dX10_ask_165 : decode cX10_ask 165 = .ok (.goto 4, 3) := by decide +kernel
theorem dX10_ask_168 : decode cX10_ask 168 = .ok (.iload_n 3, 1) := by decide +kernel
theorem dX10_ask_169 : decode cX10_ask 169 = .ok (.istore_n 3, 1) := by decide +kernel
theorem dX10_ask_170 : decode cX10_ask 170 = .ok (.iinc 4 1, 3) := by decide +kernel
theorem dX10_ask_173 : decode cX10_ask 173 = .ok (.goto (-148), 3) := by decide +kernel
theorem dX10_ask_176 : decode cX10_ask 176 = .ok (.iload_n 2, 1) := by decide +kernel
theorem dX10_ask_177 : decode cX10_ask 177 = .ok (.ifCond .lt 7, 3) := by decide +kernel
theorem dX10_ask_180 : decode cX10_ask 180 = .ok (.iload_n 1, 1) := by decide +kernel
theorem dX10_ask_181 : decode cX10_ask 181 = .ok (.ifCond .ne 7, 3) := by decide +kernel
theorem dX10_ask_184 : decode cX10_ask 184 = .ok (.iload_n 2, 1) := by decide +kernel
theorem dX10_ask_185 : decode cX10_ask 185 = .ok (.goto 4, 3) := by decide +kernel
theorem dX10_ask_188 : decode cX10_ask 188 = .ok (.iload_n 3, 1) := by decide +kernel
theorem dX10_ask_189 : decode cX10_ask 189 = .ok (.ireturn, 1) := by decide +kernel
theorem dX10_firstDown_0 : decode cX10_firstDown 0 = .ok (.iconst 2, 1) := by decide +kernel
theorem dX10_firstDown_1 : decode cX10_firstDown 1 = .ok (.istore_n 2, 1) := by decide +kernel
theorem dX10_firstDown_2 : decode cX10_firstDown 2 = .ok (.iload_n 2, 1) := by decide +kernel
theorem dX10_firstDown_3 : decode cX10_firstDown 3 = .ok (.bipush 13, 2) := by decide +kernel
theorem dX10_firstDown_5 : decode cX10_firstDown 5 = .ok (.if_icmp .ge 91, 3) := by decide +kernel
theorem dX10_firstDown_8 : decode cX10_firstDown 8 = .ok (.iload_n 1, 1) := by decide +kernel
theorem dX10_firstDown_9 : decode cX10_firstDown 9 = .ok (.iload_n 2, 1) := by decide +kernel
theorem dX10_firstDown_10 : decode cX10_firstDown 10 = .ok (.iconst 1, 1) := by decide +kernel
theorem dX10_firstDown_11 : decode cX10_firstDown 11 = .ok (.isub, 1) := by decide +kernel
theorem dX10_firstDown_12 : decode cX10_firstDown 12 = .ok (.invokestatic 65, 3) := by decide +kernel
theorem dX10_firstDown_15 : decode cX10_firstDown 15 = .ok (.ifCond .eq 75, 3) := by decide +kernel
theorem dX10_firstDown_18 : decode cX10_firstDown 18 = .ok (.bipush (-6), 2) := by decide +kernel
theorem dX10_firstDown_20 : decode cX10_firstDown 20 = .ok (.istore_n 3, 1) := by decide +kernel
theorem dX10_firstDown_21 : decode cX10_firstDown 21 = .ok (.iload_n 2, 1) := by decide +kernel
theorem dX10_firstDown_22 : decode cX10_firstDown 22 = .ok (.iconst 1, 1) := by decide +kernel
theorem dX10_firstDown_23 : decode cX10_firstDown 23 = .ok (.isub, 1) := by decide +kernel
theorem dX10_firstDown_24 : decode cX10_firstDown 24 = .ok (.istore 4, 2) := by decide +kernel
theorem dX10_firstDown_26 : decode cX10_firstDown 26 = .ok (.iload 4, 2) := by decide +kernel
theorem dX10_firstDown_28 : decode cX10_firstDown 28 = .ok (.ifCond .le 56, 3) := by decide +kernel
theorem dX10_firstDown_31 : decode cX10_firstDown 31 = .ok (.iload_n 1, 1) := by decide +kernel
theorem dX10_firstDown_32 : decode cX10_firstDown 32 = .ok (.iload 4, 2) := by decide +kernel
theorem dX10_firstDown_34 : decode cX10_firstDown 34 = .ok (.iconst 1, 1) := by decide +kernel
theorem dX10_firstDown_35 : decode cX10_firstDown 35 = .ok (.isub, 1) := by decide +kernel
theorem dX10_firstDown_36 : decode cX10_firstDown 36 = .ok (.invokestatic 65, 3) := by decide +kernel
theorem dX10_firstDown_39 : decode cX10_firstDown 39 = .ok (.ifCond .ne 45, 3) := by decide +kernel
theorem dX10_firstDown_42 : decode cX10_firstDown 42 = .ok (.aload_n 0, 1) := by decide +kernel
theorem dX10_firstDown_43 : decode cX10_firstDown 43 = .ok (.getfield 32, 3) := by decide +kernel
theorem dX10_firstDown_46 : decode cX10_firstDown 46 = .ok (.iload_n 1, 1) := by decide +kernel
theorem dX10_firstDown_47 : decode cX10_firstDown 47 = .ok (.iconst 1, 1) := by decide +kernel
theorem dX10_firstDown_48 : decode cX10_firstDown 48 = .ok (.iload_n 2, 1) := by decide +kernel
theorem dX10_firstDown_49 : decode cX10_firstDown 49 = .ok (.iconst 1, 1) := by decide +kernel
theorem dX10_firstDown_50 : decode cX10_firstDown 50 = .ok (.isub, 1) := by decide +kernel
theorem dX10_firstDown_51 : decode cX10_firstDown 51 = .ok (.ishl, 1) := by decide +kernel
theorem dX10_firstDown_52 : decode cX10_firstDown 52 = .ok (.iconst (-1), 1) := by decide +kernel
theorem dX10_firstDown_53 : decode cX10_firstDown 53 = .ok (.ixor, 1) := by decide +kernel
theorem dX10_firstDown_54 : decode cX10_firstDown 54 = .ok (.iand, 1) := by decide +kernel
theorem dX10_firstDown_55 : decode cX10_firstDown 55 = .ok (.iconst 1, 1) := by decide +kernel
theorem dX10_firstDown_56 : decode cX10_firstDown 56 = .ok (.iload 4, 2) := by decide +kernel
theorem dX10_firstDown_58 : decode cX10_firstDown 58 = .ok (.iconst 1, 1) := by decide +kernel
theorem dX10_firstDown_59 : decode cX10_firstDown 59 = .ok (.isub, 1) := by decide +kernel
theorem dX10_firstDown_60 : decode cX10_firstDown 60 = .ok (.ishl, 1) := by decide +kernel
theorem dX10_firstDown_61 : decode cX10_firstDown 61 = .ok (.ior, 1) := by decide +kernel
theorem dX10_firstDown_62 : decode cX10_firstDown 62 = .ok (.baload, 1) := by decide +kernel
theorem dX10_firstDown_63 : decode cX10_firstDown 63 = .ok (.ifCond .eq 7, 3) := by decide +kernel
theorem dX10_firstDown_66 : decode cX10_firstDown 66 = .ok (.iload_n 3, 1) := by decide +kernel
theorem dX10_firstDown_67 : decode cX10_firstDown 67 = .ok (.goto 10, 3) := by decide +kernel
theorem dX10_firstDown_70 : decode cX10_firstDown 70 = .ok (.bipush 100, 2) := by decide +kernel
theorem dX10_firstDown_72 : decode cX10_firstDown 72 = .ok (.iload_n 2, 1) := by decide +kernel
theorem dX10_firstDown_73 : decode cX10_firstDown 73 = .ok (.imul, 1) := by decide +kernel
theorem dX10_firstDown_74 : decode cX10_firstDown 74 = .ok (.iload 4, 2) := by decide +kernel
theorem dX10_firstDown_76 : decode cX10_firstDown 76 = .ok (.iadd, 1) := by decide +kernel
theorem dX10_firstDown_77 : decode cX10_firstDown 77 = .ok (.istore_n 3, 1) := by decide +kernel
theorem dX10_firstDown_78 : decode cX10_firstDown 78 = .ok (.iinc 4 (-1), 3) := by decide +kernel
theorem dX10_firstDown_81 : decode cX10_firstDown 81 = .ok (.goto (-55), 3) := by decide +kernel
theorem dX10_firstDown_84 : decode cX10_firstDown 84 = .ok (.iload_n 3, 1) := by decide +kernel
theorem dX10_firstDown_85 : decode cX10_firstDown 85 = .ok (.ifCond .le 5, 3) := by decide +kernel
theorem dX10_firstDown_88 : decode cX10_firstDown 88 = .ok (.iload_n 3, 1) := by decide +kernel
theorem dX10_firstDown_89 : decode cX10_firstDown 89 = .ok (.ireturn, 1) := by decide +kernel
theorem dX10_firstDown_90 : decode cX10_firstDown 90 = .ok (.iinc 2 1, 3) := by decide +kernel
theorem dX10_firstDown_93 : decode cX10_firstDown 93 = .ok (.goto (-91), 3) := by decide +kernel
theorem dX10_firstDown_96 : decode cX10_firstDown 96 = .ok (.bipush (-6), 2) := by decide +kernel
theorem dX10_firstDown_98 : decode cX10_firstDown 98 = .ok (.ireturn, 1) := by decide +kernel
theorem dX10_down_0 : decode cX10_down 0 = .ok (.iload_n 1, 1) := by decide +kernel
theorem dX10_down_1 : decode cX10_down 1 = .ok (.iconst 0, 1) := by decide +kernel
theorem dX10_down_2 : decode cX10_down 2 = .ok (.sipush 4095, 3) := by decide +kernel
theorem dX10_down_5 : decode cX10_down 5 = .ok (.invokestatic 48, 3) := by decide +kernel
theorem dX10_down_8 : decode cX10_down 8 = .ok (.ifCond .eq 12, 3) := by decide +kernel
theorem dX10_down_11 : decode cX10_down 11 = .ok (.iload_n 2, 1) := by decide +kernel
theorem dX10_down_12 : decode cX10_down 12 = .ok (.iconst 0, 1) := by decide +kernel
theorem dX10_down_13 : decode cX10_down 13 = .ok (.iconst 1, 1) := by decide +kernel
theorem dX10_down_14 : decode cX10_down 14 = .ok (.invokestatic 48, 3) := by decide +kernel
theorem dX10_down_17 : decode cX10_down 17 = .ok (.ifCond .ne 6, 3) := by decide +kernel
theorem dX10_down_20 : decode cX10_down 20 = .ok (.bipush (-2), 2) := by decide +kernel
theorem dX10_down_22 : decode cX10_down 22 = .ok (.ireturn, 1) := by decide +kernel
theorem dX10_down_23 : decode cX10_down 23 = .ok (.iconst 0, 1) := by decide +kernel
theorem dX10_down_24 : decode cX10_down 24 = .ok (.istore_n 3, 1) := by decide +kernel
theorem dX10_down_25 : decode cX10_down 25 = .ok (.iload_n 3, 1) := by decide +kernel
theorem dX10_down_26 : decode cX10_down 26 = .ok (.iload_n 1, 1) := by decide +kernel
theorem dX10_down_27 : decode cX10_down 27 = .ok (.if_icmp .ge 28, 3) := by decide +kernel
theorem dX10_down_30 : decode cX10_down 30 = .ok (.aload_n 0, 1) := by decide +kernel
theorem dX10_down_31 : decode cX10_down 31 = .ok (.getfield 32, 3) := by decide +kernel
theorem dX10_down_34 : decode cX10_down 34 = .ok (.iload_n 3, 1) := by decide +kernel
theorem dX10_down_35 : decode cX10_down 35 = .ok (.aload_n 0, 1) := by decide +kernel
theorem dX10_down_36 : decode cX10_down 36 = .ok (.iload_n 3, 1) := by decide +kernel
theorem dX10_down_37 : decode cX10_down 37 = .ok (.invokevirtual 154, 3) := by decide +kernel
theorem dX10_down_40 : decode cX10_down 40 = .ok (.ifCond .le 7, 3) := by decide +kernel
theorem dX10_down_43 : decode cX10_down 43 = .ok (.iconst 1, 1) := by decide +kernel
theorem dX10_down_44 : decode cX10_down 44 = .ok (.goto 4, 3) := by decide +kernel
theorem dX10_down_47 : decode cX10_down 47 = .ok (.iconst 0, 1) := by decide +kernel
theorem dX10_down_48 : decode cX10_down 48 = .ok (.bastore, 1) := by decide +kernel
theorem dX10_down_49 : decode cX10_down 49 = .ok (.iinc 3 1, 3) := by decide +kernel
theorem dX10_down_52 : decode cX10_down 52 = .ok (.goto (-27), 3) := by decide +kernel
theorem dX10_down_55 : decode cX10_down 55 = .ok (.aload_n 0, 1) := by decide +kernel
theorem dX10_down_56 : decode cX10_down 56 = .ok (.iload_n 1, 1) := by decide +kernel
theorem dX10_down_57 : decode cX10_down 57 = .ok (.invokevirtual 154, 3) := by decide +kernel
theorem dX10_down_60 : decode cX10_down 60 = .ok (.istore_n 3, 1) := by decide +kernel
theorem dX10_down_61 : decode cX10_down 61 = .ok (.iload_n 2, 1) := by decide +kernel
theorem dX10_down_62 : decode cX10_down 62 = .ok (.iconst 1, 1) := by decide +kernel
theorem dX10_down_63 : decode cX10_down 63 = .ok (.if_icmp .ne 7, 3) := by decide +kernel
theorem dX10_down_66 : decode cX10_down 66 = .ok (.iload_n 3, 1) := by decide +kernel
theorem dX10_down_67 : decode cX10_down 67 = .ok (.goto 12, 3) := by decide +kernel
theorem dX10_down_70 : decode cX10_down 70 = .ok (.iload_n 3, 1) := by decide +kernel
theorem dX10_down_71 : decode cX10_down 71 = .ok (.ifCond .ge 7, 3) := by decide +kernel
theorem dX10_down_74 : decode cX10_down 74 = .ok (.iconst 0, 1) := by decide +kernel
theorem dX10_down_75 : decode cX10_down 75 = .ok (.goto 4, 3) := by decide +kernel
theorem dX10_down_78 : decode cX10_down 78 = .ok (.iconst 1, 1) := by decide +kernel
theorem dX10_down_79 : decode cX10_down 79 = .ok (.ireturn, 1) := by decide +kernel
theorem dX10_foot_0 : decode cX10_foot 0 = .ok (.iload_n 2, 1) := by decide +kernel
theorem dX10_foot_1 : decode cX10_foot 1 = .ok (.invokestatic 73, 3) := by decide +kernel
theorem dX10_foot_4 : decode cX10_foot 4 = .ok (.ifCond .ne 7, 3) := by decide +kernel
theorem dX10_foot_7 : decode cX10_foot 7 = .ok (.ldc2_w 157, 3) := by decide +kernel
theorem dX10_foot_10 : decode cX10_foot 10 = .ok (.lreturn, 1) := by decide +kernel
theorem dX10_foot_11 : decode cX10_foot 11 = .ok (.iload_n 1, 1) := by decide +kernel
theorem dX10_foot_12 : decode cX10_foot 12 = .ok (.iconst 1, 1) := by decide +kernel
theorem dX10_foot_13 : decode cX10_foot 13 = .ok (.iconst 4, 1) := by decide +kernel
theorem dX10_foot_14 : decode cX10_foot 14 = .ok (.invokestatic 48, 3) := by decide +kernel
theorem dX10_foot_17 : decode cX10_foot 17 = .ok (.ifCond .eq 22, 3) := by decide +kernel
theorem dX10_foot_20 : decode cX10_foot 20 = .ok (.iload_n 3, 1) := by decide +kernel
theorem dX10_foot_21 : decode cX10_foot 21 = .ok (.iconst 0, 1) := by decide +kernel
theorem dX10_foot_22 : decode cX10_foot 22 = .ok (.iconst 1, 1) := by decide +kernel
theorem dX10_foot_23 : decode cX10_foot 23 = .ok (.invokestatic 48, 3) := by decide +kernel
theorem dX10_foot_26 : decode cX10_foot 26 = .ok (.ifCond .eq 13, 3) := by decide +kernel
theorem dX10_foot_29 : decode cX10_foot 29 = .ok (.iload 4, 2) := by decide +kernel
theorem dX10_foot_31 : decode cX10_foot 31 = .ok (.iconst 0, 1) := by decide +kernel
theorem dX10_foot_32 : decode cX10_foot 32 = .ok (.iconst 1, 1) := by decide +kernel
theorem dX10_foot_33 : decode cX10_foot 33 = .ok (.invokestatic 48, 3) := by decide +kernel
theorem dX10_foot_36 : decode cX10_foot 36 = .ok (.ifCond .ne 7, 3) := by decide +kernel
theorem dX10_foot_39 : decode cX10_foot 39 = .ok (.ldc2_w 159, 3) := by decide +kernel
theorem dX10_foot_42 : decode cX10_foot 42 = .ok (.lreturn, 1) := by decide +kernel
theorem dX10_foot_43 : decode cX10_foot 43 = .ok (.lconst 1, 1) := by decide +kernel
theorem dX10_foot_44 : decode cX10_foot 44 = .ok (.lstore 5, 2) := by decide +kernel
theorem dX10_foot_46 : decode cX10_foot 46 = .ok (.aload_n 0, 1) := by decide +kernel
theorem dX10_foot_47 : decode cX10_foot 47 = .ok (.getfield 35, 3) := by decide +kernel
theorem dX10_foot_50 : decode cX10_foot 50 = .ok (.iconst 0, 1) := by decide +kernel
theorem dX10_foot_51 : decode cX10_foot 51 = .ok (.lconst 1, 1) := by decide +kernel
theorem dX10_foot_52 : decode cX10_foot 52 = .ok (.lastore, 1) := by decide +kernel
theorem dX10_foot_53 : decode cX10_foot 53 = .ok (.aload_n 0, 1) := by decide +kernel
theorem dX10_foot_54 : decode cX10_foot 54 = .ok (.getfield 39, 3) := by decide +kernel
theorem dX10_foot_57 : decode cX10_foot 57 = .ok (.iconst 0, 1) := by decide +kernel
theorem dX10_foot_58 : decode cX10_foot 58 = .ok (.lconst 0, 1) := by decide +kernel
theorem dX10_foot_59 : decode cX10_foot 59 = .ok (.lastore, 1) := by decide +kernel
theorem dX10_foot_60 : decode cX10_foot 60 = .ok (.iconst 1, 1) := by decide +kernel
theorem dX10_foot_61 : decode cX10_foot 61 = .ok (.istore 7, 2) := by decide +kernel
theorem dX10_foot_63 : decode cX10_foot 63 = .ok (.iload 7, 2) := by decide +kernel
theorem dX10_foot_65 : decode cX10_foot 65 = .ok (.iload_n 2, 1) := by decide +kernel
theorem dX10_foot_66 : decode cX10_foot 66 = .ok (.if_icmp .gt 111, 3) := by decide +kernel
theorem dX10_foot_69 : decode cX10_foot 69 = .ok (.lload 5, 2) := by decide +kernel
theorem dX10_foot_71 : decode cX10_foot 71 = .ok (.iload_n 1, 1) := by decide +kernel
theorem dX10_foot_72 : decode cX10_foot 72 = .ok (.i2l, 1) := by decide +kernel
theorem dX10_foot_73 : decode cX10_foot 73 = .ok (.lmul, 1) := by decide +kernel
theorem dX10_foot_74 : decode cX10_foot 74 = .ok (.lstore 5, 2) := by decide +kernel
theorem dX10_foot_76 : decode cX10_foot 76 = .ok (.aload_n 0, 1) := by decide +kernel
theorem dX10_foot_77 : decode cX10_foot 77 = .ok (.getfield 35, 3) := by decide +kernel
theorem dX10_foot_80 : decode cX10_foot 80 = .ok (.iload 7, 2) := by decide +kernel
theorem dX10_foot_82 : decode cX10_foot 82 = .ok (.lconst 0, 1) := by decide +kernel
theorem dX10_foot_83 : decode cX10_foot 83 = .ok (.lastore, 1) := by decide +kernel
theorem dX10_foot_84 : decode cX10_foot 84 = .ok (.aload_n 0, 1) := by decide +kernel
theorem dX10_foot_85 : decode cX10_foot 85 = .ok (.getfield 39, 3) := by decide +kernel
theorem dX10_foot_88 : decode cX10_foot 88 = .ok (.iload 7, 2) := by decide +kernel
theorem dX10_foot_90 : decode cX10_foot 90 = .ok (.lload 5, 2) := by decide +kernel
theorem dX10_foot_92 : decode cX10_foot 92 = .ok (.lastore, 1) := by decide +kernel
theorem dX10_foot_93 : decode cX10_foot 93 = .ok (.lconst 1, 1) := by decide +kernel
theorem dX10_foot_94 : decode cX10_foot 94 = .ok (.lstore 8, 2) := by decide +kernel
theorem dX10_foot_96 : decode cX10_foot 96 = .ok (.iconst 1, 1) := by decide +kernel
theorem dX10_foot_97 : decode cX10_foot 97 = .ok (.istore 10, 2) := by decide +kernel
theorem dX10_foot_99 : decode cX10_foot 99 = .ok (.iload 10, 2) := by decide +kernel
theorem dX10_foot_101 : decode cX10_foot 101 = .ok (.iload_n 1, 1) := by decide +kernel
theorem dX10_foot_102 : decode cX10_foot 102 = .ok (.if_icmp .gt 69, 3) := by decide +kernel
theorem dX10_foot_105 : decode cX10_foot 105 = .ok (.iload 10, 2) := by decide +kernel
theorem dX10_foot_107 : decode cX10_foot 107 = .ok (.iload 7, 2) := by decide +kernel
theorem dX10_foot_109 : decode cX10_foot 109 = .ok (.if_icmp .gt 62, 3) := by decide +kernel
theorem dX10_foot_112 : decode cX10_foot 112 = .ok (.aload_n 0, 1) := by decide +kernel
theorem dX10_foot_113 : decode cX10_foot 113 = .ok (.getfield 35, 3) := by decide +kernel
theorem dX10_foot_116 : decode cX10_foot 116 = .ok (.iload 7, 2) := by decide +kernel
theorem dX10_foot_118 : decode cX10_foot 118 = .ok (.dup2, 1) := by decide +kernel
theorem dX10_foot_119 : decode cX10_foot 119 = .ok (.laload, 1) := by decide +kernel
theorem dX10_foot_120 : decode cX10_foot 120 = .ok (.aload_n 0, 1) := by decide +kernel
theorem dX10_foot_121 : decode cX10_foot 121 = .ok (.getfield 35, 3) := by decide +kernel
theorem dX10_foot_124 : decode cX10_foot 124 = .ok (.iload 7, 2) := by decide +kernel
theorem dX10_foot_126 : decode cX10_foot 126 = .ok (.iload 10, 2) := by decide +kernel
theorem dX10_foot_128 : decode cX10_foot 128 = .ok (.isub, 1) := by decide +kernel
theorem dX10_foot_129 : decode cX10_foot 129 = .ok (.laload, 1) := by decide +kernel
theorem dX10_foot_130 : decode cX10_foot 130 = .ok (.lload 8, 2) := by decide +kernel
theorem dX10_foot_132 : decode cX10_foot 132 = .ok (.lmul, 1) := by decide +kernel
theorem dX10_foot_133 : decode cX10_foot 133 = .ok (.ladd, 1) := by decide +kernel
theorem dX10_foot_134 : decode cX10_foot 134 = .ok (.lastore, 1) := by decide +kernel
theorem dX10_foot_135 : decode cX10_foot 135 = .ok (.aload_n 0, 1) := by decide +kernel
theorem dX10_foot_136 : decode cX10_foot 136 = .ok (.getfield 39, 3) := by decide +kernel
theorem dX10_foot_139 : decode cX10_foot 139 = .ok (.iload 7, 2) := by decide +kernel
theorem dX10_foot_141 : decode cX10_foot 141 = .ok (.dup2, 1) := by decide +kernel
theorem dX10_foot_142 : decode cX10_foot 142 = .ok (.laload, 1) := by decide +kernel
theorem dX10_foot_143 : decode cX10_foot 143 = .ok (.aload_n 0, 1) := by decide +kernel
theorem dX10_foot_144 : decode cX10_foot 144 = .ok (.getfield 39, 3) := by decide +kernel
theorem dX10_foot_147 : decode cX10_foot 147 = .ok (.iload 7, 2) := by decide +kernel
theorem dX10_foot_149 : decode cX10_foot 149 = .ok (.iload 10, 2) := by decide +kernel
theorem dX10_foot_151 : decode cX10_foot 151 = .ok (.isub, 1) := by decide +kernel
theorem dX10_foot_152 : decode cX10_foot 152 = .ok (.laload, 1) := by decide +kernel
theorem dX10_foot_153 : decode cX10_foot 153 = .ok (.lload 8, 2) := by decide +kernel
theorem dX10_foot_155 : decode cX10_foot 155 = .ok (.lmul, 1) := by decide +kernel
theorem dX10_foot_156 : decode cX10_foot 156 = .ok (.ladd, 1) := by decide +kernel
theorem dX10_foot_157 : decode cX10_foot 157 = .ok (.lastore, 1) := by decide +kernel
theorem dX10_foot_158 : decode cX10_foot 158 = .ok (.lload 8, 2) := by decide +kernel
theorem dX10_foot_160 : decode cX10_foot 160 = .ok (.iload_n 1, 1) := by decide +kernel
theorem dX10_foot_161 : decode cX10_foot 161 = .ok (.i2l, 1) := by decide +kernel
theorem dX10_foot_162 : decode cX10_foot 162 = .ok (.lmul, 1) := by decide +kernel
theorem dX10_foot_163 : decode cX10_foot 163 = .ok (.lstore 8, 2) := by decide +kernel
theorem dX10_foot_165 : decode cX10_foot 165 = .ok (.iinc 10 1, 3) := by decide +kernel
theorem dX10_foot_168 : decode cX10_foot 168 = .ok (.goto (-69), 3) := by decide +kernel
theorem dX10_foot_171 : decode cX10_foot 171 = .ok (.iinc 7 1, 3) := by decide +kernel
theorem dX10_foot_174 : decode cX10_foot 174 = .ok (.goto (-111), 3) := by decide +kernel
theorem dX10_foot_177 : decode cX10_foot 177 = .ok (.iload_n 3, 1) := by decide +kernel
theorem dX10_foot_178 : decode cX10_foot 178 = .ok (.ifCond .ne 12, 3) := by decide +kernel
theorem dX10_foot_181 : decode cX10_foot 181 = .ok (.aload_n 0, 1) := by decide +kernel
theorem dX10_foot_182 : decode cX10_foot 182 = .ok (.getfield 35, 3) := by decide +kernel
theorem dX10_foot_185 : decode cX10_foot 185 = .ok (.iload_n 2, 1) := by decide +kernel
theorem dX10_foot_186 : decode cX10_foot 186 = .ok (.laload, 1) := by decide +kernel
theorem dX10_foot_187 : decode cX10_foot 187 = .ok (.goto 9, 3) := by decide +kernel
theorem dX10_foot_190 : decode cX10_foot 190 = .ok (.aload_n 0, 1) := by decide +kernel
theorem dX10_foot_191 : decode cX10_foot 191 = .ok (.getfield 39, 3) := by decide +kernel
theorem dX10_foot_194 : decode cX10_foot 194 = .ok (.iload_n 2, 1) := by decide +kernel
theorem dX10_foot_195 : decode cX10_foot 195 = .ok (.laload, 1) := by decide +kernel
theorem dX10_foot_196 : decode cX10_foot 196 = .ok (.lstore 7, 2) := by decide +kernel
theorem dX10_foot_198 : decode cX10_foot 198 = .ok (.lload 7, 2) := by decide +kernel
theorem dX10_foot_200 : decode cX10_foot 200 = .ok (.lstore 9, 2) := by decide +kernel
theorem dX10_foot_202 : decode cX10_foot 202 = .ok (.lload 5, 2) := by decide +kernel
theorem dX10_foot_204 : decode cX10_foot 204 = .ok (.lstore 11, 2) := by decide +kernel
theorem dX10_foot_206 : decode cX10_foot 206 = .ok (.lload 11, 2) := by decide +kernel
theorem dX10_foot_208 : decode cX10_foot 208 = .ok (.lconst 0, 1) := by decide +kernel
theorem dX10_foot_209 : decode cX10_foot 209 = .ok (.lcmp, 1) := by decide +kernel
theorem dX10_foot_210 : decode cX10_foot 210 = .ok (.ifCond .eq 21, 3) := by decide +kernel
theorem dX10_foot_213 : decode cX10_foot 213 = .ok (.lload 9, 2) := by decide +kernel
theorem dX10_foot_215 : decode cX10_foot 215 = .ok (.lload 11, 2) := by decide +kernel
theorem dX10_foot_217 : decode cX10_foot 217 = .ok (.lrem, 1) := by decide +kernel
theorem dX10_foot_218 : decode cX10_foot 218 = .ok (.lstore 13, 2) := by decide +kernel
theorem dX10_foot_220 : decode cX10_foot 220 = .ok (.lload 11, 2) := by decide +kernel
theorem dX10_foot_222 : decode cX10_foot 222 = .ok (.lstore 9, 2) := by decide +kernel
theorem dX10_foot_224 : decode cX10_foot 224 = .ok (.lload 13, 2) := by decide +kernel
theorem dX10_foot_226 : decode cX10_foot 226 = .ok (.lstore 11, 2) := by decide +kernel
theorem dX10_foot_228 : decode cX10_foot 228 = .ok (.goto (-22), 3) := by decide +kernel
theorem dX10_foot_231 : decode cX10_foot 231 = .ok (.iload 4, 2) := by decide +kernel
theorem dX10_foot_233 : decode cX10_foot 233 = .ok (.ifCond .ne 11, 3) := by decide +kernel
theorem dX10_foot_236 : decode cX10_foot 236 = .ok (.lload 7, 2) := by decide +kernel
theorem dX10_foot_238 : decode cX10_foot 238 = .ok (.lload 9, 2) := by decide +kernel
theorem dX10_foot_240 : decode cX10_foot 240 = .ok (.ldiv, 1) := by decide +kernel
theorem dX10_foot_241 : decode cX10_foot 241 = .ok (.goto 8, 3) := by decide +kernel
theorem dX10_foot_244 : decode cX10_foot 244 = .ok (.lload 5, 2) := by decide +kernel
theorem dX10_foot_246 : decode cX10_foot 246 = .ok (.lload 9, 2) := by decide +kernel
theorem dX10_foot_248 : decode cX10_foot 248 = .ok (.ldiv, 1) := by decide +kernel
theorem dX10_foot_249 : decode cX10_foot 249 = .ok (.lreturn, 1) := by decide +kernel
theorem dX10_year_0 : decode cX10_year 0 = .ok (.iload_n 1, 1) := by decide +kernel
theorem dX10_year_1 : decode cX10_year 1 = .ok (.iconst 0, 1) := by decide +kernel
theorem dX10_year_2 : decode cX10_year 2 = .ok (.sipush 9999, 3) := by decide +kernel
theorem dX10_year_5 : decode cX10_year 5 = .ok (.invokestatic 48, 3) := by decide +kernel
theorem dX10_year_8 : decode cX10_year 8 = .ok (.ifCond .eq 22, 3) := by decide +kernel
theorem dX10_year_11 : decode cX10_year 11 = .ok (.iload_n 2, 1) := by decide +kernel
theorem dX10_year_12 : decode cX10_year 12 = .ok (.iconst 1, 1) := by decide +kernel
theorem dX10_year_13 : decode cX10_year 13 = .ok (.bipush 99, 2) := by decide +kernel
theorem dX10_year_15 : decode cX10_year 15 = .ok (.invokestatic 48, 3) := by decide +kernel
theorem dX10_year_18 : decode cX10_year 18 = .ok (.ifCond .eq 12, 3) := by decide +kernel
theorem dX10_year_21 : decode cX10_year 21 = .ok (.iload_n 3, 1) := by decide +kernel
theorem dX10_year_22 : decode cX10_year 22 = .ok (.iconst 0, 1) := by decide +kernel
theorem dX10_year_23 : decode cX10_year 23 = .ok (.iconst 2, 1) := by decide +kernel
theorem dX10_year_24 : decode cX10_year 24 = .ok (.invokestatic 48, 3) := by decide +kernel
theorem dX10_year_27 : decode cX10_year 27 = .ok (.ifCond .ne 6, 3) := by decide +kernel
theorem dX10_year_30 : decode cX10_year 30 = .ok (.bipush (-2), 2) := by decide +kernel
theorem dX10_year_32 : decode cX10_year 32 = .ok (.ireturn, 1) := by decide +kernel
theorem dX10_year_33 : decode cX10_year 33 = .ok (.aload_n 0, 1) := by decide +kernel
theorem dX10_year_34 : decode cX10_year 34 = .ok (.invokevirtual 110, 3) := by decide +kernel
theorem dX10_year_37 : decode cX10_year 37 = .ok (.iload_n 1, 1) := by decide +kernel
theorem dX10_year_38 : decode cX10_year 38 = .ok (.istore 4, 2) := by decide +kernel
theorem dX10_year_40 : decode cX10_year 40 = .ok (.iconst 0, 1) := by decide +kernel
theorem dX10_year_41 : decode cX10_year 41 = .ok (.istore 5, 2) := by decide +kernel
theorem dX10_year_43 : decode cX10_year 43 = .ok (.iload 5, 2) := by decide +kernel
theorem dX10_year_45 : decode cX10_year 45 = .ok (.iload_n 2, 1) := by decide +kernel
theorem dX10_year_46 : decode cX10_year 46 = .ok (.if_icmp .ge 218, 3) := by decide +kernel
theorem dX10_year_49 : decode cX10_year 49 = .ok (.bipush 75, 2) := by decide +kernel
theorem dX10_year_51 : decode cX10_year 51 = .ok (.iload 4, 2) := by decide +kernel
theorem dX10_year_53 : decode cX10_year 53 = .ok (.imul, 1) := by decide +kernel
theorem dX10_year_54 : decode cX10_year 54 = .ok (.bipush 74, 2) := by decide +kernel
theorem dX10_year_56 : decode cX10_year 56 = .ok (.iadd, 1) := by decide +kernel
theorem dX10_year_57 : decode cX10_year 57 = .ok (.ldc 161, 2) := by decide +kernel
theorem dX10_year_59 : decode cX10_year 59 = .ok (.irem, 1) := by decide +kernel
theorem dX10_year_60 : decode cX10_year 60 = .ok (.istore 4, 2) := by decide +kernel
theorem dX10_year_62 : decode cX10_year 62 = .ok (.iload 4, 2) := by decide +kernel
theorem dX10_year_64 : decode cX10_year 64 = .ok (.bipush 6, 2) := by decide +kernel
theorem dX10_year_66 : decode cX10_year 66 = .ok (.irem, 1) := by decide +kernel
theorem dX10_year_67 : decode cX10_year 67 = .ok (.istore 6, 2) := by decide +kernel
theorem dX10_year_69 : decode cX10_year 69 = .ok (.iload 4, 2) := by decide +kernel
theorem dX10_year_71 : decode cX10_year 71 = .ok (.bipush 6, 2) := by decide +kernel
theorem dX10_year_73 : decode cX10_year 73 = .ok (.idiv, 1) := by decide +kernel
theorem dX10_year_74 : decode cX10_year 74 = .ok (.bipush 8, 2) := by decide +kernel
theorem dX10_year_76 : decode cX10_year 76 = .ok (.irem, 1) := by decide +kernel
theorem dX10_year_77 : decode cX10_year 77 = .ok (.istore 7, 2) := by decide +kernel
theorem dX10_year_79 : decode cX10_year 79 = .ok (.iload 4, 2) := by decide +kernel
theorem dX10_year_81 : decode cX10_year 81 = .ok (.bipush 48, 2) := by decide +kernel
theorem dX10_year_83 : decode cX10_year 83 = .ok (.idiv, 1) := by decide +kernel
theorem dX10_year_84 : decode cX10_year 84 = .ok (.istore 8, 2) := by decide +kernel
theorem dX10_year_86 : decode cX10_year 86 = .ok (.iload 7, 2) := by decide +kernel
theorem dX10_year_88 : decode cX10_year 88 = .ok (.iconst 4, 1) := by decide +kernel
theorem dX10_year_89 : decode cX10_year 89 = .ok (.if_icmp .ge 96, 3) := by decide +kernel
theorem dX10_year_92 : decode cX10_year 92 = .ok (.iconst 1, 1) := by decide +kernel
theorem dX10_year_93 : decode cX10_year 93 = .ok (.iload 8, 2) := by decide +kernel
theorem dX10_year_95 : decode cX10_year 95 = .ok (.aload_n 0, 1) := by decide +kernel
theorem dX10_year_96 : decode cX10_year 96 = .ok (.getfield 13, 3) := by decide +kernel
theorem dX10_year_99 : decode cX10_year 99 = .ok (.bipush 26, 2) := by decide +kernel
theorem dX10_year_101 : decode cX10_year 101 = .ok (.iload 6, 2) := by decide +kernel
theorem dX10_year_103 : decode cX10_year 103 = .ok (.iadd, 1) := by decide +kernel
theorem dX10_year_104 : decode cX10_year 104 = .ok (.iaload, 1) := by decide +kernel
theorem dX10_year_105 : decode cX10_year 105 = .ok (.irem, 1) := by decide +kernel
theorem dX10_year_106 : decode cX10_year 106 = .ok (.iadd, 1) := by decide +kernel
theorem dX10_year_107 : decode cX10_year 107 = .ok (.istore 9, 2) := by decide +kernel
theorem dX10_year_109 : decode cX10_year 109 = .ok (.iload 8, 2) := by decide +kernel
theorem dX10_year_111 : decode cX10_year 111 = .ok (.iconst 4, 1) := by decide +kernel
theorem dX10_year_112 : decode cX10_year 112 = .ok (.idiv, 1) := by decide +kernel
theorem dX10_year_113 : decode cX10_year 113 = .ok (.iconst 4, 1) := by decide +kernel
theorem dX10_year_114 : decode cX10_year 114 = .ok (.irem, 1) := by decide +kernel
theorem dX10_year_115 : decode cX10_year 115 = .ok (.ifCond .eq 19, 3) := by decide +kernel
theorem dX10_year_118 : decode cX10_year 118 = .ok (.aload_n 0, 1) := by decide +kernel
theorem dX10_year_119 : decode cX10_year 119 = .ok (.getfield 13, 3) := by decide +kernel
theorem dX10_year_122 : decode cX10_year 122 = .ok (.bipush 38, 2) := by decide +kernel
theorem dX10_year_124 : decode cX10_year 124 = .ok (.iload 6, 2) := by decide +kernel
theorem dX10_year_126 : decode cX10_year 126 = .ok (.iadd, 1) := by decide +kernel
theorem dX10_year_127 : decode cX10_year 127 = .ok (.iaload, 1) := by decide +kernel
theorem dX10_year_128 : decode cX10_year 128 = .ok (.iload 9, 2) := by decide +kernel
theorem dX10_year_130 : decode cX10_year 130 = .ok (.iadd, 1) := by decide +kernel
theorem dX10_year_131 : decode cX10_year 131 = .ok (.goto 16, 3) := by decide +kernel
theorem dX10_year_134 : decode cX10_year 134 = .ok (.aload_n 0, 1) := by decide +kernel
theorem dX10_year_135 : decode cX10_year 135 = .ok (.getfield 13, 3) := by decide +kernel
theorem dX10_year_138 : decode cX10_year 138 = .ok (.bipush 38, 2) := by decide +kernel
theorem dX10_year_140 : decode cX10_year 140 = .ok (.iload 6, 2) := by decide +kernel
theorem dX10_year_142 : decode cX10_year 142 = .ok (.iadd, 1) := by decide +kernel
theorem dX10_year_143 : decode cX10_year 143 = .ok (.iaload, 1) := by decide +kernel
theorem dX10_year_144 : decode cX10_year 144 = .ok (.iload 9, 2) := by decide +kernel
theorem dX10_year_146 : decode cX10_year 146 = .ok (.isub, 1) := by decide +kernel
theorem dX10_year_147 : decode cX10_year 147 = .ok (.istore 10, 2) := by decide +kernel
theorem dX10_year_149 : decode cX10_year 149 = .ok (.aload_n 0, 1) := by decide +kernel
theorem dX10_year_150 : decode cX10_year 150 = .ok (.aload_n 0, 1) := by decide +kernel
theorem dX10_year_151 : decode cX10_year 151 = .ok (.iload 6, 2) := by decide +kernel
theorem dX10_year_153 : decode cX10_year 153 = .ok (.iload 10, 2) := by decide +kernel
theorem dX10_year_155 : decode cX10_year 155 = .ok (.ifCond .ge 7, 3) := by decide +kernel
theorem dX10_year_158 : decode cX10_year 158 = .ok (.iconst 0, 1) := by decide +kernel
theorem dX10_year_159 : decode cX10_year 159 = .ok (.goto 17, 3) := by decide +kernel
theorem dX10_year_162 : decode cX10_year 162 = .ok (.iload 10, 2) := by decide +kernel
theorem dX10_year_164 : decode cX10_year 164 = .ok (.bipush 13, 2) := by decide +kernel
theorem dX10_year_166 : decode cX10_year 166 = .ok (.if_icmp .le 8, 3) := by decide +kernel
theorem dX10_year_169 : decode cX10_year 169 = .ok (.bipush 13, 2) := by decide +kernel
theorem dX10_year_171 : decode cX10_year 171 = .ok (.goto 5, 3) := by decide +kernel
theorem dX10_year_174 : decode cX10_year 174 = .ok (.iload 10, 2) := by decide +kernel
theorem dX10_year_176 : decode cX10_year 176 = .ok (.invokevirtual 107, 3) := by decide +kernel
theorem dX10_year_179 : decode cX10_year 179 = .ok (.putfield 122, 3) := by decide +kernel
theorem dX10_year_182 : decode cX10_year 182 = .ok (.goto 76, 3) := by decide +kernel
theorem dX10_year_185 : decode cX10_year 185 = .ok (.iload 7, 2) := by decide +kernel
theorem dX10_year_187 : decode cX10_year 187 = .ok (.iconst 4, 1) := by decide +kernel
theorem dX10_year_188 : decode cX10_year 188 = .ok (.if_icmp .ne 23, 3) := by decide +kernel
theorem dX10_year_191 : decode cX10_year 191 = .ok (.aload_n 0, 1) := by decide +kernel
theorem dX10_year_192 : decode cX10_year 192 = .ok (.aload_n 0, 1) := by decide +kernel
theorem dX10_year_193 : decode cX10_year 193 = .ok (.iload 6, 2) := by decide +kernel
theorem dX10_year_195 : decode cX10_year 195 = .ok (.iconst 1, 1) := by decide +kernel
theorem dX10_year_196 : decode cX10_year 196 = .ok (.iload 8, 2) := by decide +kernel
theorem dX10_year_198 : decode cX10_year 198 = .ok (.bipush 12, 2) := by decide +kernel
theorem dX10_year_200 : decode cX10_year 200 = .ok (.irem, 1) := by decide +kernel
theorem dX10_year_201 : decode cX10_year 201 = .ok (.iadd, 1) := by decide +kernel
theorem dX10_year_202 : decode cX10_year 202 = .ok (.invokevirtual 104, 3) := by decide +kernel
theorem dX10_year_205 : decode cX10_year 205 = .ok (.putfield 122, 3) := by decide +kernel
theorem dX10_year_208 : decode cX10_year 208 = .ok (.goto 50, 3) := by decide +kernel
theorem dX10_year_211 : decode cX10_year 211 = .ok (.iload 7, 2) := by decide +kernel
theorem dX10_year_213 : decode cX10_year 213 = .ok (.iconst 5, 1) := by decide +kernel
theorem dX10_year_214 : decode cX10_year 214 = .ok (.if_icmp .ne 36, 3) := by decide +kernel
theorem dX10_year_217 : decode cX10_year 217 = .ok (.aload_n 0, 1) := by decide +kernel
theorem dX10_year_218 : decode cX10_year 218 = .ok (.aload_n 0, 1) := by decide +kernel
theorem dX10_year_219 : decode cX10_year 219 = .ok (.iconst 1, 1) := by decide +kernel
theorem dX10_year_220 : decode cX10_year 220 = .ok (.iload 8, 2) := by decide +kernel
theorem dX10_year_222 : decode cX10_year 222 = .ok (.bipush 12, 2) := by decide +kernel
theorem dX10_year_224 : decode cX10_year 224 = .ok (.irem, 1) := by decide +kernel
theorem dX10_year_225 : decode cX10_year 225 = .ok (.iadd, 1) := by decide +kernel
theorem dX10_year_226 : decode cX10_year 226 = .ok (.iload 8, 2) := by decide +kernel
theorem dX10_year_228 : decode cX10_year 228 = .ok (.bipush 12, 2) := by decide +kernel
theorem dX10_year_230 : decode cX10_year 230 = .ok (.idiv, 1) := by decide +kernel
theorem dX10_year_231 : decode cX10_year 231 = .ok (.iconst 2, 1) := by decide +kernel
theorem dX10_year_232 : decode cX10_year 232 = .ok (.irem, 1) := by decide +kernel
theorem dX10_year_233 : decode cX10_year 233 = .ok (.ifCond .ne 7, 3) := by decide +kernel
theorem dX10_year_236 : decode cX10_year 236 = .ok (.iconst 1, 1) := by decide +kernel
theorem dX10_year_237 : decode cX10_year 237 = .ok (.goto 4, 3) := by decide +kernel
theorem dX10_year_240 : decode cX10_year 240 = .ok (.iconst 0, 1) := by decide +kernel
theorem dX10_year_241 : decode cX10_year 241 = .ok (.invokevirtual 100, 3) := by decide +kernel
theorem dX10_year_244 : decode cX10_year 244 = .ok (.putfield 122, 3) := by decide +kernel
theorem dX10_year_247 : decode cX10_year 247 = .ok (.goto 11, 3) := by decide +kernel
theorem dX10_year_250 : decode cX10_year 250 = .ok (.aload_n 0, 1) := by decide +kernel
theorem dX10_year_251 : decode cX10_year 251 = .ok (.aload_n 0, 1) := by decide +kernel
theorem dX10_year_252 : decode cX10_year 252 = .ok (.invokevirtual 97, 3) := by decide +kernel
theorem dX10_year_255 : decode cX10_year 255 = .ok (.putfield 122, 3) := by decide +kernel
theorem dX10_year_258 : decode cX10_year 258 = .ok (.iinc 5 1, 3) := by decide +kernel
theorem dX10_year_261 : decode cX10_year 261 = .ok (.goto (-218), 3) := by decide +kernel
theorem dX10_year_264 : decode cX10_year 264 = .ok (.iload_n 3, 1) := by decide +kernel
theorem dX10_year_265 : decode cX10_year 265 = .ok (.ifCond .ne 10, 3) := by decide +kernel
theorem dX10_year_268 : decode cX10_year 268 = .ok (.aload_n 0, 1) := by decide +kernel
theorem dX10_year_269 : decode cX10_year 269 = .ok (.invokevirtual 116, 3) := by decide +kernel
theorem dX10_year_272 : decode cX10_year 272 = .ok (.goto 22, 3) := by decide +kernel
theorem dX10_year_275 : decode cX10_year 275 = .ok (.iload_n 3, 1) := by decide +kernel
theorem dX10_year_276 : decode cX10_year 276 = .ok (.iconst 1, 1) := by decide +kernel
theorem dX10_year_277 : decode cX10_year 277 = .ok (.if_icmp .ne 13, 3) := by decide +kernel
theorem dX10_year_280 : decode cX10_year 280 = .ok (.aload_n 0, 1) := by decide +kernel
theorem dX10_year_281 : decode cX10_year 281 = .ok (.getfield 13, 3) := by decide +kernel
theorem dX10_year_284 : decode cX10_year 284 = .ok (.bipush 32, 2) := by decide +kernel
theorem dX10_year_286 : decode cX10_year 286 = .ok (.iaload, 1) := by decide +kernel
theorem dX10_year_287 : decode cX10_year 287 = .ok (.goto 7, 3) := by decide +kernel
theorem dX10_year_290 : decode cX10_year 290 = .ok (.aload_n 0, 1) := by decide +kernel
theorem dX10_year_291 : decode cX10_year 291 = .ok (.getfield 52, 3) := by decide +kernel
theorem dX10_year_294 : decode cX10_year 294 = .ok (.ireturn, 1) := by decide +kernel
theorem dX10_image_0 : decode cX10_image 0 = .ok (.iload_n 1, 1) := by decide +kernel
theorem dX10_image_1 : decode cX10_image 1 = .ok (.iconst 0, 1) := by decide +kernel
theorem dX10_image_2 : decode cX10_image 2 = .ok (.iconst 1, 1) := by decide +kernel
theorem dX10_image_3 : decode cX10_image 3 = .ok (.invokestatic 48, 3) := by decide +kernel
theorem dX10_image_6 : decode cX10_image 6 = .ok (.ifCond .ne 6, 3) := by decide +kernel
theorem dX10_image_9 : decode cX10_image 9 = .ok (.bipush (-2), 2) := by decide +kernel
theorem dX10_image_11 : decode cX10_image 11 = .ok (.ireturn, 1) := by decide +kernel
theorem dX10_image_12 : decode cX10_image 12 = .ok (.bipush 70, 2) := by decide +kernel
theorem dX10_image_14 : decode cX10_image 14 = .ok (.iload_n 1, 1) := by decide +kernel
theorem dX10_image_15 : decode cX10_image 15 = .ok (.imul, 1) := by decide +kernel
theorem dX10_image_16 : decode cX10_image 16 = .ok (.istore_n 2, 1) := by decide +kernel
theorem dX10_image_17 : decode cX10_image 17 = .ok (.iconst 0, 1) := by decide +kernel
theorem dX10_image_18 : decode cX10_image 18 = .ok (.istore_n 3, 1) := by decide +kernel
theorem dX10_image_19 : decode cX10_image 19 = .ok (.iload_n 3, 1) := by decide +kernel
theorem dX10_image_20 : decode cX10_image 20 = .ok (.bipush 47, 2) := by decide +kernel
theorem dX10_image_22 : decode cX10_image 22 = .ok (.if_icmp .ge 23, 3) := by decide +kernel
theorem dX10_image_25 : decode cX10_image 25 = .ok (.aload_n 0, 1) := by decide +kernel
theorem dX10_image_26 : decode cX10_image 26 = .ok (.getfield 42, 3) := by decide +kernel
theorem dX10_image_29 : decode cX10_image 29 = .ok (.iload_n 2, 1) := by decide +kernel
theorem dX10_image_30 : decode cX10_image 30 = .ok (.iload_n 3, 1) := by decide +kernel
theorem dX10_image_31 : decode cX10_image 31 = .ok (.iadd, 1) := by decide +kernel
theorem dX10_image_32 : decode cX10_image 32 = .ok (.aload_n 0, 1) := by decide +kernel
theorem dX10_image_33 : decode cX10_image 33 = .ok (.getfield 7, 3) := by decide +kernel
theorem dX10_image_36 : decode cX10_image 36 = .ok (.iload_n 3, 1) := by decide +kernel
theorem dX10_image_37 : decode cX10_image 37 = .ok (.iaload, 1) := by decide +kernel
theorem dX10_image_38 : decode cX10_image 38 = .ok (.iastore, 1) := by decide +kernel
theorem dX10_image_39 : decode cX10_image 39 = .ok (.iinc 3 1, 3) := by decide +kernel
theorem dX10_image_42 : decode cX10_image 42 = .ok (.goto (-23), 3) := by decide +kernel
theorem dX10_image_45 : decode cX10_image 45 = .ok (.iconst 0, 1) := by decide +kernel
theorem dX10_image_46 : decode cX10_image 46 = .ok (.istore_n 3, 1) := by decide +kernel
theorem dX10_image_47 : decode cX10_image 47 = .ok (.iload_n 3, 1) := by decide +kernel
theorem dX10_image_48 : decode cX10_image 48 = .ok (.bipush 16, 2) := by decide +kernel
theorem dX10_image_50 : decode cX10_image 50 = .ok (.if_icmp .ge 26, 3) := by decide +kernel
theorem dX10_image_53 : decode cX10_image 53 = .ok (.aload_n 0, 1) := by decide +kernel
theorem dX10_image_54 : decode cX10_image 54 = .ok (.getfield 42, 3) := by decide +kernel
theorem dX10_image_57 : decode cX10_image 57 = .ok (.iload_n 2, 1) := by decide +kernel
theorem dX10_image_58 : decode cX10_image 58 = .ok (.bipush 47, 2) := by decide +kernel
theorem dX10_image_60 : decode cX10_image 60 = .ok (.iadd, 1) := by decide +kernel
theorem dX10_image_61 : decode cX10_image 61 = .ok (.iload_n 3, 1) := by decide +kernel
theorem dX10_image_62 : decode cX10_image 62 = .ok (.iadd, 1) := by decide +kernel
theorem dX10_image_63 : decode cX10_image 63 = .ok (.aload_n 0, 1) := by decide +kernel
theorem dX10_image_64 : decode cX10_image 64 = .ok (.getfield 16, 3) := by decide +kernel
theorem dX10_image_67 : decode cX10_image 67 = .ok (.iload_n 3, 1) := by decide +kernel
theorem dX10_image_68 : decode cX10_image 68 = .ok (.iaload, 1) := by decide +kernel
theorem dX10_image_69 : decode cX10_image 69 = .ok (.iastore, 1) := by decide +kernel
theorem dX10_image_70 : decode cX10_image 70 = .ok (.iinc 3 1, 3) := by decide +kernel
theorem dX10_image_73 : decode cX10_image 73 = .ok (.goto (-26), 3) := by decide +kernel
theorem dX10_image_76 : decode cX10_image 76 = .ok (.aload_n 0, 1) := by decide +kernel
theorem dX10_image_77 : decode cX10_image 77 = .ok (.getfield 42, 3) := by decide +kernel
theorem dX10_image_80 : decode cX10_image 80 = .ok (.iload_n 2, 1) := by decide +kernel
theorem dX10_image_81 : decode cX10_image 81 = .ok (.bipush 64, 2) := by decide +kernel
theorem dX10_image_83 : decode cX10_image 83 = .ok (.iadd, 1) := by decide +kernel
theorem dX10_image_84 : decode cX10_image 84 = .ok (.aload_n 0, 1) := by decide +kernel
theorem dX10_image_85 : decode cX10_image 85 = .ok (.getfield 145, 3) := by decide +kernel
theorem dX10_image_88 : decode cX10_image 88 = .ok (.iastore, 1) := by decide +kernel
theorem dX10_image_89 : decode cX10_image 89 = .ok (.aload_n 0, 1) := by decide +kernel
theorem dX10_image_90 : decode cX10_image 90 = .ok (.getfield 45, 3) := by decide +kernel
theorem dX10_image_93 : decode cX10_image 93 = .ok (.iload_n 1, 1) := by decide +kernel
theorem dX10_image_94 : decode cX10_image 94 = .ok (.iconst 1, 1) := by decide +kernel
theorem dX10_image_95 : decode cX10_image 95 = .ok (.bastore, 1) := by decide +kernel
theorem dX10_image_96 : decode cX10_image 96 = .ok (.iconst 1, 1) := by decide +kernel
theorem dX10_image_97 : decode cX10_image 97 = .ok (.ireturn, 1) := by decide +kernel
theorem dX10_restore_0 : decode cX10_restore 0 = .ok (.iload_n 1, 1) := by decide +kernel
theorem dX10_restore_1 : decode cX10_restore 1 = .ok (.iconst 0, 1) := by decide +kernel
theorem dX10_restore_2 : decode cX10_restore 2 = .ok (.iconst 1, 1) := by decide +kernel
theorem dX10_restore_3 : decode cX10_restore 3 = .ok (.invokestatic 48, 3) := by decide +kernel
theorem dX10_restore_6 : decode cX10_restore 6 = .ok (.ifCond .ne 6, 3) := by decide +kernel
theorem dX10_restore_9 : decode cX10_restore 9 = .ok (.bipush (-2), 2) := by decide +kernel
theorem dX10_restore_11 : decode cX10_restore 11 = .ok (.ireturn, 1) := by decide +kernel
theorem dX10_restore_12 : decode cX10_restore 12 = .ok (.aload_n 0, 1) := by decide +kernel
theorem dX10_restore_13 : decode cX10_restore 13 = .ok (.getfield 45, 3) := by decide +kernel
theorem dX10_restore_16 : decode cX10_restore 16 = .ok (.iload_n 1, 1) := by decide +kernel
theorem dX10_restore_17 : decode cX10_restore 17 = .ok (.baload, 1) := by decide +kernel
theorem dX10_restore_18 : decode cX10_restore 18 = .ok (.ifCond .ne 6, 3) := by decide +kernel
theorem dX10_restore_21 : decode cX10_restore 21 = .ok (.bipush (-3), 2) := by decide +kernel
theorem dX10_restore_23 : decode cX10_restore 23 = .ok (.ireturn, 1) := by decide +kernel
theorem dX10_restore_24 : decode cX10_restore 24 = .ok (.bipush 70, 2) := by decide +kernel
theorem dX10_restore_26 : decode cX10_restore 26 = .ok (.iload_n 1, 1) := by decide +kernel
theorem dX10_restore_27 : decode cX10_restore 27 = .ok (.imul, 1) := by decide +kernel
theorem dX10_restore_28 : decode cX10_restore 28 = .ok (.istore_n 2, 1) := by decide +kernel
theorem dX10_restore_29 : decode cX10_restore 29 = .ok (.iconst 0, 1) := by decide +kernel
theorem dX10_restore_30 : decode cX10_restore 30 = .ok (.istore_n 3, 1) := by decide +kernel
theorem dX10_restore_31 : decode cX10_restore 31 = .ok (.iload_n 3, 1) := by decide +kernel
theorem dX10_restore_32 : decode cX10_restore 32 = .ok (.bipush 47, 2) := by decide +kernel
theorem dX10_restore_34 : decode cX10_restore 34 = .ok (.if_icmp .ge 23, 3) := by decide +kernel
theorem dX10_restore_37 : decode cX10_restore 37 = .ok (.aload_n 0, 1) := by decide +kernel
theorem dX10_restore_38 : decode cX10_restore 38 = .ok (.getfield 7, 3) := by decide +kernel
theorem dX10_restore_41 : decode cX10_restore 41 = .ok (.iload_n 3, 1) := by decide +kernel
theorem dX10_restore_42 : decode cX10_restore 42 = .ok (.aload_n 0, 1) := by decide +kernel
theorem dX10_restore_43 : decode cX10_restore 43 = .ok (.getfield 42, 3) := by decide +kernel
theorem dX10_restore_46 : decode cX10_restore 46 = .ok (.iload_n 2, 1) := by decide +kernel
theorem dX10_restore_47 : decode cX10_restore 47 = .ok (.iload_n 3, 1) := by decide +kernel
theorem dX10_restore_48 : decode cX10_restore 48 = .ok (.iadd, 1) := by decide +kernel
theorem dX10_restore_49 : decode cX10_restore 49 = .ok (.iaload, 1) := by decide +kernel
theorem dX10_restore_50 : decode cX10_restore 50 = .ok (.iastore, 1) := by decide +kernel
theorem dX10_restore_51 : decode cX10_restore 51 = .ok (.iinc 3 1, 3) := by decide +kernel
theorem dX10_restore_54 : decode cX10_restore 54 = .ok (.goto (-23), 3) := by decide +kernel
theorem dX10_restore_57 : decode cX10_restore 57 = .ok (.iconst 0, 1) := by decide +kernel
theorem dX10_restore_58 : decode cX10_restore 58 = .ok (.istore_n 3, 1) := by decide +kernel
theorem dX10_restore_59 : decode cX10_restore 59 = .ok (.iload_n 3, 1) := by decide +kernel
theorem dX10_restore_60 : decode cX10_restore 60 = .ok (.bipush 16, 2) := by decide +kernel
theorem dX10_restore_62 : decode cX10_restore 62 = .ok (.if_icmp .ge 26, 3) := by decide +kernel
theorem dX10_restore_65 : decode cX10_restore 65 = .ok (.aload_n 0, 1) := by decide +kernel
theorem dX10_restore_66 : decode cX10_restore 66 = .ok (.getfield 16, 3) := by decide +kernel
theorem dX10_restore_69 : decode cX10_restore 69 = .ok (.iload_n 3, 1) := by decide +kernel
theorem dX10_restore_70 : decode cX10_restore 70 = .ok (.aload_n 0, 1) := by decide +kernel
theorem dX10_restore_71 : decode cX10_restore 71 = .ok (.getfield 42, 3) := by decide +kernel
theorem dX10_restore_74 : decode cX10_restore 74 = .ok (.iload_n 2, 1) := by decide +kernel
theorem dX10_restore_75 : decode cX10_restore 75 = .ok (.bipush 47, 2) := by decide +kernel
theorem dX10_restore_77 : decode cX10_restore 77 = .ok (.iadd, 1) := by decide +kernel
theorem dX10_restore_78 : decode cX10_restore 78 = .ok (.iload_n 3, 1) := by decide +kernel
theorem dX10_restore_79 : decode cX10_restore 79 = .ok (.iadd, 1) := by decide +kernel
theorem dX10_restore_80 : decode cX10_restore 80 = .ok (.iaload, 1) := by decide +kernel
theorem dX10_restore_81 : decode cX10_restore 81 = .ok (.iastore, 1) := by decide +kernel
theorem dX10_restore_82 : decode cX10_restore 82 = .ok (.iinc 3 1, 3) := by decide +kernel
theorem dX10_restore_85 : decode cX10_restore 85 = .ok (.goto (-26), 3) := by decide +kernel
theorem dX10_restore_88 : decode cX10_restore 88 = .ok (.aload_n 0, 1) := by decide +kernel
theorem dX10_restore_89 : decode cX10_restore 89 = .ok (.aload_n 0, 1) := by decide +kernel
theorem dX10_restore_90 : decode cX10_restore 90 = .ok (.getfield 42, 3) := by decide +kernel
theorem dX10_restore_93 : decode cX10_restore 93 = .ok (.iload_n 2, 1) := by decide +kernel
theorem dX10_restore_94 : decode cX10_restore 94 = .ok (.bipush 64, 2) := by decide +kernel
theorem dX10_restore_96 : decode cX10_restore 96 = .ok (.iadd, 1) := by decide +kernel
theorem dX10_restore_97 : decode cX10_restore 97 = .ok (.iaload, 1) := by decide +kernel
theorem dX10_restore_98 : decode cX10_restore 98 = .ok (.putfield 145, 3) := by decide +kernel
theorem dX10_restore_101 : decode cX10_restore 101 = .ok (.iconst 1, 1) := by decide +kernel
theorem dX10_restore_102 : decode cX10_restore 102 = .ok (.ireturn, 1) := by decide +kernel
theorem dX10_told_0 : decode cX10_told 0 = .ok (.aload_n 0, 1) := by decide +kernel
theorem dX10_told_1 : decode cX10_told 1 = .ok (.invokevirtual 110, 3) := by decide +kernel
theorem dX10_told_4 : decode cX10_told 4 = .ok (.iload_n 1, 1) := by decide +kernel
theorem dX10_told_5 : decode cX10_told 5 = .ok (.bipush 40, 2) := by decide +kernel
theorem dX10_told_7 : decode cX10_told 7 = .ok (.if_icmp .lt 58, 3) := by decide +kernel
theorem dX10_told_10 : decode cX10_told 10 = .ok (.iload_n 1, 1) := by decide +kernel
theorem dX10_told_11 : decode cX10_told 11 = .ok (.bipush 60, 2) := by decide +kernel
theorem dX10_told_13 : decode cX10_told 13 = .ok (.if_icmp .lt 10, 3) := by decide +kernel
theorem dX10_told_16 : decode cX10_told 16 = .ok (.iload_n 1, 1) := by decide +kernel
theorem dX10_told_17 : decode cX10_told 17 = .ok (.bipush 60, 2) := by decide +kernel
theorem dX10_told_19 : decode cX10_told 19 = .ok (.isub, 1) := by decide +kernel
theorem dX10_told_20 : decode cX10_told 20 = .ok (.goto 7, 3) := by decide +kernel
theorem dX10_told_23 : decode cX10_told 23 = .ok (.iload_n 1, 1) := by decide +kernel
theorem dX10_told_24 : decode cX10_told 24 = .ok (.bipush 40, 2) := by decide +kernel
theorem dX10_told_26 : decode cX10_told 26 = .ok (.isub, 1) := by decide +kernel
theorem dX10_told_27 : decode cX10_told 27 = .ok (.istore_n 2, 1) := by decide +kernel
theorem dX10_told_28 : decode cX10_told 28 = .ok (.iload_n 2, 1) := by decide +kernel
theorem dX10_told_29 : decode cX10_told 29 = .ok (.invokestatic 73, 3) := by decide +kernel
theorem dX10_told_32 : decode cX10_told 32 = .ok (.ifCond .ne 8, 3) := by decide +kernel
theorem dX10_told_35 : decode cX10_told 35 = .ok (.bipush (-2), 2) := by decide +kernel
theorem dX10_told_37 : decode cX10_told 37 = .ok (.goto 27, 3) := by decide +kernel
theorem dX10_told_40 : decode cX10_told 40 = .ok (.iload_n 1, 1) := by decide +kernel
theorem dX10_told_41 : decode cX10_told 41 = .ok (.bipush 60, 2) := by decide +kernel
theorem dX10_told_43 : decode cX10_told 43 = .ok (.if_icmp .lt 15, 3) := by decide +kernel
theorem dX10_told_46 : decode cX10_told 46 = .ok (.aload_n 0, 1) := by decide +kernel
theorem dX10_told_47 : decode cX10_told 47 = .ok (.getfield 7, 3) := by decide +kernel
theorem dX10_told_50 : decode cX10_told 50 = .ok (.bipush 13, 2) := by decide +kernel
theorem dX10_told_52 : decode cX10_told 52 = .ok (.iload_n 2, 1) := by decide +kernel
theorem dX10_told_53 : decode cX10_told 53 = .ok (.iadd, 1) := by decide +kernel
theorem dX10_told_54 : decode cX10_told 54 = .ok (.iaload, 1) := by decide +kernel
theorem dX10_told_55 : decode cX10_told 55 = .ok (.goto 9, 3) := by decide +kernel
theorem dX10_told_58 : decode cX10_told 58 = .ok (.aload_n 0, 1) := by decide +kernel
theorem dX10_told_59 : decode cX10_told 59 = .ok (.getfield 7, 3) := by decide +kernel
theorem dX10_told_62 : decode cX10_told 62 = .ok (.iload_n 2, 1) := by decide +kernel
theorem dX10_told_63 : decode cX10_told 63 = .ok (.iaload, 1) := by decide +kernel
theorem dX10_told_64 : decode cX10_told 64 = .ok (.ireturn, 1) := by decide +kernel
theorem dX10_told_65 : decode cX10_told 65 = .ok (.iload_n 1, 1) := by decide +kernel
theorem dX10_told_66 : decode cX10_told 66 = .ok (.bipush 10, 2) := by decide +kernel
theorem dX10_told_68 : decode cX10_told 68 = .ok (.if_icmp .lt 66, 3) := by decide +kernel
theorem dX10_told_71 : decode cX10_told 71 = .ok (.iload_n 1, 1) := by decide +kernel
theorem dX10_told_72 : decode cX10_told 72 = .ok (.bipush 10, 2) := by decide +kernel
theorem dX10_told_74 : decode cX10_told 74 = .ok (.irem, 1) := by decide +kernel
theorem dX10_told_75 : decode cX10_told 75 = .ok (.istore_n 2, 1) := by decide +kernel
theorem dX10_told_76 : decode cX10_told 76 = .ok (.iload_n 2, 1) := by decide +kernel
theorem dX10_told_77 : decode cX10_told 77 = .ok (.invokestatic 76, 3) := by decide +kernel
theorem dX10_told_80 : decode cX10_told 80 = .ok (.ifCond .ne 8, 3) := by decide +kernel
theorem dX10_told_83 : decode cX10_told 83 = .ok (.bipush (-2), 2) := by decide +kernel
theorem dX10_told_85 : decode cX10_told 85 = .ok (.goto 48, 3) := by decide +kernel
theorem dX10_told_88 : decode cX10_told 88 = .ok (.iload_n 1, 1) := by decide +kernel
theorem dX10_told_89 : decode cX10_told 89 = .ok (.bipush 20, 2) := by decide +kernel
theorem dX10_told_91 : decode cX10_told 91 = .ok (.if_icmp .ge 15, 3) := by decide +kernel
theorem dX10_told_94 : decode cX10_told 94 = .ok (.aload_n 0, 1) := by decide +kernel
theorem dX10_told_95 : decode cX10_told 95 = .ok (.getfield 7, 3) := by decide +kernel
theorem dX10_told_98 : decode cX10_told 98 = .ok (.bipush 38, 2) := by decide +kernel
theorem dX10_told_100 : decode cX10_told 100 = .ok (.iload_n 2, 1) := by decide +kernel
theorem dX10_told_101 : decode cX10_told 101 = .ok (.iadd, 1) := by decide +kernel
theorem dX10_told_102 : decode cX10_told 102 = .ok (.iaload, 1) := by decide +kernel
theorem dX10_told_103 : decode cX10_told 103 = .ok (.goto 30, 3) := by decide +kernel
theorem dX10_told_106 : decode cX10_told 106 = .ok (.iload_n 1, 1) := by decide +kernel
theorem dX10_told_107 : decode cX10_told 107 = .ok (.bipush 30, 2) := by decide +kernel
theorem dX10_told_109 : decode cX10_told 109 = .ok (.if_icmp .ge 15, 3) := by decide +kernel
theorem dX10_told_112 : decode cX10_told 112 = .ok (.aload_n 0, 1) := by decide +kernel
theorem dX10_told_113 : decode cX10_told 113 = .ok (.getfield 7, 3) := by decide +kernel
theorem dX10_told_116 : decode cX10_told 116 = .ok (.bipush 32, 2) := by decide +kernel
theorem dX10_told_118 : decode cX10_told 118 = .ok (.iload_n 2, 1) := by decide +kernel
theorem dX10_told_119 : decode cX10_told 119 = .ok (.iadd, 1) := by decide +kernel
theorem dX10_told_120 : decode cX10_told 120 = .ok (.iaload, 1) := by decide +kernel
theorem dX10_told_121 : decode cX10_told 121 = .ok (.goto 12, 3) := by decide +kernel
theorem dX10_told_124 : decode cX10_told 124 = .ok (.aload_n 0, 1) := by decide +kernel
theorem dX10_told_125 : decode cX10_told 125 = .ok (.getfield 7, 3) := by decide +kernel
theorem dX10_told_128 : decode cX10_told 128 = .ok (.bipush 26, 2) := by decide +kernel
theorem dX10_told_130 : decode cX10_told 130 = .ok (.iload_n 2, 1) := by decide +kernel
theorem dX10_told_131 : decode cX10_told 131 = .ok (.iadd, 1) := by decide +kernel
theorem dX10_told_132 : decode cX10_told 132 = .ok (.iaload, 1) := by decide +kernel
theorem dX10_told_133 : decode cX10_told 133 = .ok (.ireturn, 1) := by decide +kernel
theorem dX10_told_134 : decode cX10_told 134 = .ok (.iload_n 1, 1) := by decide +kernel
theorem dX10_told_135 : decode cX10_told 135 = .ok (.tableswitch 69 0 4 #[33, 38, 46, 51, 59], 33) := by decide +kernel
theorem dX10_told_168 : decode cX10_told 168 = .ok (.aload_n 0, 1) := by decide +kernel
theorem dX10_told_169 : decode cX10_told 169 = .ok (.getfield 79, 3) := by decide +kernel
theorem dX10_told_172 : decode cX10_told 172 = .ok (.ireturn, 1) := by decide +kernel
theorem dX10_told_173 : decode cX10_told 173 = .ok (.aload_n 0, 1) := by decide +kernel
theorem dX10_told_174 : decode cX10_told 174 = .ok (.getfield 7, 3) := by decide +kernel
theorem dX10_told_177 : decode cX10_told 177 = .ok (.bipush 46, 2) := by decide +kernel
theorem dX10_told_179 : decode cX10_told 179 = .ok (.iaload, 1) := by decide +kernel
theorem dX10_told_180 : decode cX10_told 180 = .ok (.ireturn, 1) := by decide +kernel
theorem dX10_told_181 : decode cX10_told 181 = .ok (.aload_n 0, 1) := by decide +kernel
theorem dX10_told_182 : decode cX10_told 182 = .ok (.invokevirtual 116, 3) := by decide +kernel
theorem dX10_told_185 : decode cX10_told 185 = .ok (.ireturn, 1) := by decide +kernel
theorem dX10_told_186 : decode cX10_told 186 = .ok (.aload_n 0, 1) := by decide +kernel
theorem dX10_told_187 : decode cX10_told 187 = .ok (.getfield 7, 3) := by decide +kernel
theorem dX10_told_190 : decode cX10_told 190 = .ok (.bipush 44, 2) := by decide +kernel
theorem dX10_told_192 : decode cX10_told 192 = .ok (.iaload, 1) := by decide +kernel
theorem dX10_told_193 : decode cX10_told 193 = .ok (.ireturn, 1) := by decide +kernel
theorem dX10_told_194 : decode cX10_told 194 = .ok (.aload_n 0, 1) := by decide +kernel
theorem dX10_told_195 : decode cX10_told 195 = .ok (.getfield 7, 3) := by decide +kernel
theorem dX10_told_198 : decode cX10_told 198 = .ok (.bipush 45, 2) := by decide +kernel
theorem dX10_told_200 : decode cX10_told 200 = .ok (.iaload, 1) := by decide +kernel
theorem dX10_told_201 : decode cX10_told 201 = .ok (.iconst 1, 1) := by decide +kernel
theorem dX10_told_202 : decode cX10_told 202 = .ok (.ishr, 1) := by decide +kernel
theorem dX10_told_203 : decode cX10_told 203 = .ok (.ireturn, 1) := by decide +kernel
theorem dX10_told_204 : decode cX10_told 204 = .ok (.iload_n 1, 1) := by decide +kernel
theorem dX10_told_205 : decode cX10_told 205 = .ok (.iconst 5, 1) := by decide +kernel
theorem dX10_told_206 : decode cX10_told 206 = .ok (.if_icmp .ne 10, 3) := by decide +kernel
theorem dX10_told_209 : decode cX10_told 209 = .ok (.aload_n 0, 1) := by decide +kernel
theorem dX10_told_210 : decode cX10_told 210 = .ok (.getfield 145, 3) := by decide +kernel
theorem dX10_told_213 : decode cX10_told 213 = .ok (.goto 5, 3) := by decide +kernel
theorem dX10_told_216 : decode cX10_told 216 = .ok (.bipush (-2), 2) := by decide +kernel
theorem dX10_told_218 : decode cX10_told 218 = .ok (.ireturn, 1) := by decide +kernel
theorem dJ6_bitCount_0f7a4_0 : decode cJ6_bitCount_0f7a4 0 = .ok (.iload_n 0, 1) := by decide +kernel
theorem dJ6_bitCount_0f7a4_1 : decode cJ6_bitCount_0f7a4 1 = .ok (.iload_n 0, 1) := by decide +kernel
theorem dJ6_bitCount_0f7a4_2 : decode cJ6_bitCount_0f7a4 2 = .ok (.iconst 1, 1) := by decide +kernel
theorem dJ6_bitCount_0f7a4_3 : decode cJ6_bitCount_0f7a4 3 = .ok (.iushr, 1) := by decide +kernel
theorem dJ6_bitCount_0f7a4_4 : decode cJ6_bitCount_0f7a4 4 = .ok (.ldc_w 265, 3) := by decide +kernel
theorem dJ6_bitCount_0f7a4_7 : decode cJ6_bitCount_0f7a4 7 = .ok (.iand, 1) := by decide +kernel
theorem dJ6_bitCount_0f7a4_8 : decode cJ6_bitCount_0f7a4 8 = .ok (.isub, 1) := by decide +kernel
theorem dJ6_bitCount_0f7a4_9 : decode cJ6_bitCount_0f7a4 9 = .ok (.istore_n 0, 1) := by decide +kernel
theorem dJ6_bitCount_0f7a4_10 : decode cJ6_bitCount_0f7a4 10 = .ok (.iload_n 0, 1) := by decide +kernel
theorem dJ6_bitCount_0f7a4_11 : decode cJ6_bitCount_0f7a4 11 = .ok (.ldc_w 266, 3) := by decide +kernel
theorem dJ6_bitCount_0f7a4_14 : decode cJ6_bitCount_0f7a4 14 = .ok (.iand, 1) := by decide +kernel
theorem dJ6_bitCount_0f7a4_15 : decode cJ6_bitCount_0f7a4 15 = .ok (.iload_n 0, 1) := by decide +kernel
theorem dJ6_bitCount_0f7a4_16 : decode cJ6_bitCount_0f7a4 16 = .ok (.iconst 2, 1) := by decide +kernel
theorem dJ6_bitCount_0f7a4_17 : decode cJ6_bitCount_0f7a4 17 = .ok (.iushr, 1) := by decide +kernel
theorem dJ6_bitCount_0f7a4_18 : decode cJ6_bitCount_0f7a4 18 = .ok (.ldc_w 266, 3) := by decide +kernel
theorem dJ6_bitCount_0f7a4_21 : decode cJ6_bitCount_0f7a4 21 = .ok (.iand, 1) := by decide +kernel
theorem dJ6_bitCount_0f7a4_22 : decode cJ6_bitCount_0f7a4 22 = .ok (.iadd, 1) := by decide +kernel
theorem dJ6_bitCount_0f7a4_23 : decode cJ6_bitCount_0f7a4 23 = .ok (.istore_n 0, 1) := by decide +kernel
theorem dJ6_bitCount_0f7a4_24 : decode cJ6_bitCount_0f7a4 24 = .ok (.iload_n 0, 1) := by decide +kernel
theorem dJ6_bitCount_0f7a4_25 : decode cJ6_bitCount_0f7a4 25 = .ok (.iload_n 0, 1) := by decide +kernel
theorem dJ6_bitCount_0f7a4_26 : decode cJ6_bitCount_0f7a4 26 = .ok (.iconst 4, 1) := by decide +kernel
theorem dJ6_bitCount_0f7a4_27 : decode cJ6_bitCount_0f7a4 27 = .ok (.iushr, 1) := by decide +kernel
theorem dJ6_bitCount_0f7a4_28 : decode cJ6_bitCount_0f7a4 28 = .ok (.iadd, 1) := by decide +kernel
theorem dJ6_bitCount_0f7a4_29 : decode cJ6_bitCount_0f7a4 29 = .ok (.ldc_w 267, 3) := by decide +kernel
theorem dJ6_bitCount_0f7a4_32 : decode cJ6_bitCount_0f7a4 32 = .ok (.iand, 1) := by decide +kernel
theorem dJ6_bitCount_0f7a4_33 : decode cJ6_bitCount_0f7a4 33 = .ok (.istore_n 0, 1) := by decide +kernel
theorem dJ6_bitCount_0f7a4_34 : decode cJ6_bitCount_0f7a4 34 = .ok (.iload_n 0, 1) := by decide +kernel
theorem dJ6_bitCount_0f7a4_35 : decode cJ6_bitCount_0f7a4 35 = .ok (.iload_n 0, 1) := by decide +kernel
theorem dJ6_bitCount_0f7a4_36 : decode cJ6_bitCount_0f7a4 36 = .ok (.bipush 8, 2) := by decide +kernel
theorem dJ6_bitCount_0f7a4_38 : decode cJ6_bitCount_0f7a4 38 = .ok (.iushr, 1) := by decide +kernel
theorem dJ6_bitCount_0f7a4_39 : decode cJ6_bitCount_0f7a4 39 = .ok (.iadd, 1) := by decide +kernel
theorem dJ6_bitCount_0f7a4_40 : decode cJ6_bitCount_0f7a4 40 = .ok (.istore_n 0, 1) := by decide +kernel
theorem dJ6_bitCount_0f7a4_41 : decode cJ6_bitCount_0f7a4 41 = .ok (.iload_n 0, 1) := by decide +kernel
theorem dJ6_bitCount_0f7a4_42 : decode cJ6_bitCount_0f7a4 42 = .ok (.iload_n 0, 1) := by decide +kernel
theorem dJ6_bitCount_0f7a4_43 : decode cJ6_bitCount_0f7a4 43 = .ok (.bipush 16, 2) := by decide +kernel
theorem dJ6_bitCount_0f7a4_45 : decode cJ6_bitCount_0f7a4 45 = .ok (.iushr, 1) := by decide +kernel
theorem dJ6_bitCount_0f7a4_46 : decode cJ6_bitCount_0f7a4 46 = .ok (.iadd, 1) := by decide +kernel
theorem dJ6_bitCount_0f7a4_47 : decode cJ6_bitCount_0f7a4 47 = .ok (.istore_n 0, 1) := by decide +kernel
theorem dJ6_bitCount_0f7a4_48 : decode cJ6_bitCount_0f7a4 48 = .ok (.iload_n 0, 1) := by decide +kernel
theorem dJ6_bitCount_0f7a4_49 : decode cJ6_bitCount_0f7a4 49 = .ok (.bipush 63, 2) := by decide +kernel
theorem dJ6_bitCount_0f7a4_51 : decode cJ6_bitCount_0f7a4 51 = .ok (.iand, 1) := by decide +kernel
theorem dJ6_bitCount_0f7a4_52 : decode cJ6_bitCount_0f7a4 52 = .ok (.ireturn, 1) := by decide +kernel
theorem dJ9_abs_0f7a4_0 : decode cJ9_abs_0f7a4 0 = .ok (.iload_n 0, 1) := by decide +kernel
theorem dJ9_abs_0f7a4_1 : decode cJ9_abs_0f7a4 1 = .ok (.ifCond .ge 8, 3) := by decide +kernel
theorem dJ9_abs_0f7a4_4 : decode cJ9_abs_0f7a4 4 = .ok (.iload_n 0, 1) := by decide +kernel
theorem dJ9_abs_0f7a4_5 : decode cJ9_abs_0f7a4 5 = .ok (.ineg, 1) := by decide +kernel
theorem dJ9_abs_0f7a4_6 : decode cJ9_abs_0f7a4 6 = .ok (.goto 4, 3) := by decide +kernel
theorem dJ9_abs_0f7a4_9 : decode cJ9_abs_0f7a4 9 = .ok (.iload_n 0, 1) := by decide +kernel
theorem dJ9_abs_0f7a4_10 : decode cJ9_abs_0f7a4 10 = .ok (.ireturn, 1) := by decide +kernel
theorem dJ9_max_7cf53_0 : decode cJ9_max_7cf53 0 = .ok (.iload_n 0, 1) := by decide +kernel
theorem dJ9_max_7cf53_1 : decode cJ9_max_7cf53 1 = .ok (.iload_n 1, 1) := by decide +kernel
theorem dJ9_max_7cf53_2 : decode cJ9_max_7cf53 2 = .ok (.if_icmp .lt 7, 3) := by decide +kernel
theorem dJ9_max_7cf53_5 : decode cJ9_max_7cf53 5 = .ok (.iload_n 0, 1) := by decide +kernel
theorem dJ9_max_7cf53_6 : decode cJ9_max_7cf53 6 = .ok (.goto 4, 3) := by decide +kernel
theorem dJ9_max_7cf53_9 : decode cJ9_max_7cf53 9 = .ok (.iload_n 1, 1) := by decide +kernel
theorem dJ9_max_7cf53_10 : decode cJ9_max_7cf53 10 = .ok (.ireturn, 1) := by decide +kernel
theorem dJ9_min_7cf53_0 : decode cJ9_min_7cf53 0 = .ok (.iload_n 0, 1) := by decide +kernel
theorem dJ9_min_7cf53_1 : decode cJ9_min_7cf53 1 = .ok (.iload_n 1, 1) := by decide +kernel
theorem dJ9_min_7cf53_2 : decode cJ9_min_7cf53 2 = .ok (.if_icmp .gt 7, 3) := by decide +kernel
theorem dJ9_min_7cf53_5 : decode cJ9_min_7cf53 5 = .ok (.iload_n 0, 1) := by decide +kernel
theorem dJ9_min_7cf53_6 : decode cJ9_min_7cf53 6 = .ok (.goto 4, 3) := by decide +kernel
theorem dJ9_min_7cf53_9 : decode cJ9_min_7cf53 9 = .ok (.iload_n 1, 1) := by decide +kernel
theorem dJ9_min_7cf53_10 : decode cJ9_min_7cf53 10 = .ok (.ireturn, 1) := by decide +kernel
theorem dJ7_fill_53178_0 : decode cJ7_fill_53178 0 = .ok (.iconst 0, 1) := by decide +kernel
theorem dJ7_fill_53178_1 : decode cJ7_fill_53178 1 = .ok (.istore_n 2, 1) := by decide +kernel
theorem dJ7_fill_53178_2 : decode cJ7_fill_53178 2 = .ok (.aload_n 0, 1) := by decide +kernel
theorem dJ7_fill_53178_3 : decode cJ7_fill_53178 3 = .ok (.arraylength, 1) := by decide +kernel
theorem dJ7_fill_53178_4 : decode cJ7_fill_53178 4 = .ok (.istore_n 3, 1) := by decide +kernel
theorem dJ7_fill_53178_5 : decode cJ7_fill_53178 5 = .ok (.iload_n 2, 1) := by decide +kernel
theorem dJ7_fill_53178_6 : decode cJ7_fill_53178 6 = .ok (.iload_n 3, 1) := by decide +kernel
theorem dJ7_fill_53178_7 : decode cJ7_fill_53178 7 = .ok (.if_icmp .ge 13, 3) := by decide +kernel
theorem dJ7_fill_53178_10 : decode cJ7_fill_53178 10 = .ok (.aload_n 0, 1) := by decide +kernel
theorem dJ7_fill_53178_11 : decode cJ7_fill_53178 11 = .ok (.iload_n 2, 1) := by decide +kernel
theorem dJ7_fill_53178_12 : decode cJ7_fill_53178 12 = .ok (.iload_n 1, 1) := by decide +kernel
theorem dJ7_fill_53178_13 : decode cJ7_fill_53178 13 = .ok (.iastore, 1) := by decide +kernel
theorem dJ7_fill_53178_14 : decode cJ7_fill_53178 14 = .ok (.iinc 2 1, 3) := by decide +kernel
theorem dJ7_fill_53178_17 : decode cJ7_fill_53178 17 = .ok (.goto (-12), 3) := by decide +kernel
theorem dJ7_fill_53178_20 : decode cJ7_fill_53178 20 = .ok (.return_, 1) := by decide +kernel
end
section
/-! the walk in short rows: trees of what a method answers, a place in a method (Gq), contracts (KK) -/
def tgd {α : Type} (b : Bool) (t : Option α) : Option α := if b = true then t else none
def tnm {α β : Type} (x : α) (k : α → Option β) : Option β := k x
def tbd {α β : Type} (o : Option α) (k : α → Option β) : Option β := match o with
  | none => none
  | some a => k a
def tit {S E : Type} (F : (S → Option E) → S → Option E) : Nat → S → Option E
  | 0, _ => none
  | n + 1, s => F (tit F n) s
def tin (i : Int32) (n : Nat) : Bool := decide (¬ (i < 0 ∨ n ≤ i.toNatClampNeg))
def tbl (v : Int32) : Bool := decide (v = 0 ∨ v = 1)
def tch (v : Int32) : Bool := decide (narrow .char (.int v) = .int v)
def tnz (v : Int32) : Bool := decide (¬ v = 0)
def tnzl (v : Int64) : Bool := decide (¬ v = 0)
def imin (x y : Int32) : Int32 := if y < x then y else x
def imax (x y : Int32) : Int32 := if x < y then y else x
def iabs (x : Int32) : Int32 := if 0 ≤ x then x else 0 - x
def iushr (x y : Int32) : Int32 := (x.toUInt32 >>> (y.toUInt32 &&& Int32.toUInt32 31)).toInt32
def irem (x y : Int32) : Int32 := x - x / y * y
def lrem (x y : Int64) : Int64 := x - x / y * y
def i2c (x : Int32) : Int32 := (x.toUInt32 % 65536).toInt32
theorem tgd_e {α : Type} {b : Bool} {t : Option α} {r : α} (h : tgd b t = some r) : b = true ∧ t = some r := by
  unfold tgd at h
  by_cases hb : b = true
  · rw [if_pos hb] at h; exact ⟨hb, h⟩
  · rw [if_neg hb] at h; cases h
theorem tbd_e {α β : Type} {o : Option α} {k : α → Option β} {r : β} (h : tbd o k = some r) : ∃ v, o = some v ∧ k v = some r := by
  cases o with
  | none => cases h
  | some a => exact ⟨a, rfl, h⟩
theorem tin_e {i : Int32} {n : Nat} (h : tin i n = true) : vp_in i n := by
  have h1 : ¬ (i < 0 ∨ n ≤ i.toNatClampNeg) := of_decide_eq_true h
  exact h1
abbrev gG : Type := va_G × ClassId × ClassId × ClassId × ClassId × ClassId
abbrev gC (G : gG) : ClassId := G.2.1
abbrev gI (G : gG) : ClassId := G.2.2.1
abbrev gJ (G : gG) : ClassId := G.2.2.2.1
abbrev gZ (G : gG) : ClassId := G.2.2.2.2.1
abbrev gO (G : gG) : ClassId := G.2.2.2.2.2
def gty (G : gG) : List (ClassId × FieldType) := [(gC G, .char), (gI G, .int), (gJ G, .long), (gZ G, .boolean), (gO G, .object RX1)]
/-- the links to private members of nest mates: they don't ride with the words, they are carried beside the classes -/
def nwl : List (String × Nat × MethodName) := [(RX9, 18, yX5_init), (RX9, 25, yX0_init), (RX9, 32, yX4_init), (RX4, 20, yX0_init), (RX9, 39, yX7_init), (RX9, 46, yX6_init), (RX9, 53, yX8_init), (RX9, 60, yX3_init), (RX1, 58, yX9_isRung), (RX1, 62, yX9_bitOf), (RX1, 66, yX9_isMan), (RX7, 56, yX9_isPlace), (RX7, 53, yX9_bitOf), (RX6, 35, yX9_bitOf), (RX6, 48, yX9_isMan), (RX8, 36, yX9_bitOf), (RX2, 19, yX9_bitOf), (RX3, 26, yX9_isRung)]
def EV (G : gG) (U : State) : Prop := va_K G.1 vwCl (gty G) U ∧ (∀ q ∈ nwl, va_Nw (.methodLinkNest q.1 q.2.1 q.2.2 RX9) U) ∧ va_AO RX1 U
theorem EV.warm {G : gG} {s U : State} (hW : s.WarmedH U.vm) (h : EV G s) : EV G U := ⟨va_K.moved hW.alike h.1, fun q hq => va_Nw.warmM hW (h.2.1 q hq), va_AO.moved hW.alike h.2.2⟩
theorem EV.call {G : gG} {U : State} {g : JFrame} {mk : MethodId} {a : Array Value} (h : EV G U) : EV G (U.calling g mk a) := ⟨va_K.moved (u := U) (U := U.calling g mk a) (Vm.Alike.refl U.vm) h.1, fun q hq => va_Nw.same rfl (show U.vm = (U.calling g mk a).vm from rfl) (h.2.1 q hq), va_AO.moved (u := U) (U := U.calling g mk a) (Vm.Alike.refl U.vm) h.2.2⟩
set_option maxRecDepth 20000 in
theorem wL_good : wsL_law.all goodWord = true := by decide +kernel
def wq (y : MethodName) (cc : ByteArray) (nL : Nat) (ret : Option FieldType) : List Cond := Cond.code y cc nL ret :: wsL_law
theorem wq_in {y : MethodName} {cc : ByteArray} {nL : Nat} {ret : Option FieldType} (h : Cond.code y cc nL ret ∈ wsL_law) : GoodIn wsL_law (wq y cc nL ret) := by
  intro w hw
  have hm : w ∈ wsL_law := by
    rcases List.mem_cons.mp hw with rfl | h1
    · exact h
    · exact h1
  exact ⟨hm, good_of_word (List.all_eq_true.mp wL_good w hm)⟩
abbrev rq (fr lo : Nat) : Room := { frames := fr, cells := 0, slots := 0, locals := lo }
abbrev rqa (fr lo mc ms : Nat) : Room := { frames := fr, cells := mc, slots := ms, locals := lo }
def Cx (p : Program) (e : Env) (s : State) (m : MethodId) (args : Array Value) (meth : Method) (c : Code) (G : gG) (own : String) (cc : ByteArray) (nL : Nat) (ret : Option FieldType) (A : Nat → Prop) : Prop :=
  p.tables.exec = Jvm.exec ∧ c.code = cc ∧ c.maxLocals = nL ∧ s.vm.findClass own = some m.cls ∧ (∀ w ∈ wsL_law, w.before args s = true) ∧ EV G s ∧ (∀ q : Nat, s.heap.size ≤ q → A q) ∧ meth.sig.returnType = ret ∧ meth.locks = false
/-- a place in a method: at pc, with these locals, this stack and this world, the machine comes to Q -/
def Gq (p : Program) (l : Launch) (e : Env) (R : Room) (s : State) (m : MethodId) (args : Array Value) (below : List Frame) (meth : Method) (c : Code) (G : gG) (A : Nat → Prop) (nL cs sl : Nat) (Q : State → Prop) (pc : Nat) (lv : List (Nat × Value)) (st : List Value) (w : va_W) : Prop :=
  ∀ (H : Heap) (locs : List Loc) (ls : Array Slot), va_P G.1 vwCl w H → va_D A w → va_S A s.heap H locs → lv_has ls nL lv → W p l e R s m args below meth c H locs cs sl Q (F0 m pc ls st)
/-- a method's end: its answer, its world -/
def QK (G : gG) (v : Option Value) (w' : va_W) (A : Nat → Prop) : Array Value → State → Outcome → State → Prop := fun _ st oc t => (oc = .returned v ∧ va_P G.1 vwCl w' t.heap ∧ va_D A w') ∧ va_F A st t
def Pk (G : gG) (av : List Value) (w : va_W) (sz : Nat) : Array Value → State → Prop := va_Pc av (fun U => U.heap.size = sz ∧ va_P G.1 vwCl w U.heap ∧ EV G U ∧ va_D (fun _ => True) w)
/-- a contract: from the world w with these arguments the method answers v and leaves the world w' -/
def KK (l : Launch) (G : gG) (y : MethodName) (cc : ByteArray) (nL : Nat) (ret : Option FieldType) (fr lo : Nat) (av : List Value) (w : va_W) (v : Option Value) (w' : va_W) : Prop :=
  ∀ sz : Nat, Met l y (wq y cc nL ret) (rq fr lo) (Pk G av w sz) (QK G v w' (va_A w sz)) 0 0 (va_A w sz)
theorem Pk_blind {G : gG} {av : List Value} {w : va_W} {sz : Nat} : FrameBlind (Pk G av w sz) := by
  intro a U g mk q
  obtain ⟨q0, q1, qP, qK, qD⟩ := q
  exact ⟨q0, q1, qP, qK.call, qD⟩
theorem fm_of {α β : Type} {f : α → Option β} {l : List α} {l' : List β} (h : l.map f = l'.map some) : l.filterMap f = l' := by
  have h1 : l.filterMap f = (l.map f).filterMap id := by rw [List.filterMap_map]; rfl
  rw [h1, h, List.filterMap_map]
  show List.filterMap some l' = l'
  exact List.filterMap_some
section
variable {p : Program} {l : Launch} {e : Env} {R : Room} {s : State} {m : MethodId} {args : Array Value} {below : List Frame} {meth : Method} {c : Code} {G : gG} {A : Nat → Prop} {own : String} {cc : ByteArray} {nL cs sl : Nat} {ret : Option FieldType} {Q : State → Prop} {pc : Nat} {lv : List (Nat × Value)} {st : List Value} {w : va_W}
theorem KK_intro {y : MethodName} {fr lo : Nat} {av : List Value} {v : Option Value} {w' : va_W} {lv0 : List (Nat × Value)} (hy : plainName y.cls = true) (hown : y.cls = own) (hn : (lg_sl av).length ≤ nL) (hlv : lv_args 0 av = lv0)
    (body : ∀ (p : Program) (e : Env) (s : State) (m : MethodId) (args : Array Value) (below : List Frame) (meth : Method) (c : Code) (A : Nat → Prop), Cx p e s m args meth c G own cc nL ret A → Gq p l e (rq fr lo) s m args below meth c G A nL 0 0 (MQ below (QK G v w' A) args s 0 0 A) 0 lv0 [] w) :
    KK l G y cc nL ret fr lo av w v w' := by
  intro sz
  refine Met.ofW (cc := cc) (maxL := nL) (ret := ret) hy rfl ?_
  intro p e s m args below meth c s₁ B hml hv
  obtain ⟨rfl, hsz, hP, hK, hD0⟩ := hv
  have hown1 : s.vm.findClass y.cls = some m.cls := findClass_of_methodNamed B.named
  have hts := atoms_spec (ws := wq y cc nL ret) B.pre
  subst hsz
  have C : Cx p e s m av.toArray meth c G own cc nL ret (va_A w s.heap.size) := ⟨B.exec, B.bytes, hml, by rw [← hown]; exact hown1, fun x hx => hts x (List.mem_cons_of_mem _ hx), hK, fun q h => Or.inr h, B.returns, B.notSynchronized⟩
  have hl := lv_entry av (n := nL) hn
  rw [lg_entry_eq]
  generalize (lg_sl av ++ List.replicate (nL - (lg_sl av).length) Slot.unset).toArray = ls at hl ⊢
  rw [hlv] at hl
  exact body p e s m av.toArray below meth c _ C s.heap [] ls hP (hD0.self) va_S.rf hl
-- locals in another order, fewer
theorem go_lv {lv' : List (Nat × Value)} (ks : List Nat) (hl : lv_pick lv ks = lv') (kk : Gq p l e R s m args below meth c G A nL cs sl Q pc lv' st w) : Gq p l e R s m args below meth c G A nL cs sl Q pc lv st w :=
  fun H locs ls hP hD hS h => kk H locs ls hP hD hS (lv_sub h ks hl)
theorem go_iconst (C : Cx p e s m args meth c G own cc nL ret A) {n : Int} {v : Int32} (hd : decode cc pc = .ok (.iconst n, 1)) (hv : Int32.ofInt n = v) (kk : Gq p l e R s m args below meth c G A nL cs sl Q (pc + 1) lv (.int v :: st) w) : Gq p l e R s m args below meth c G A nL cs sl Q pc lv st w :=
  fun H locs ls hP hD hS h => lv_iconst C.1 C.2.1 hd hv (kk H locs ls hP hD hS h)
theorem go_bipush (C : Cx p e s m args meth c G own cc nL ret A) {n : Int} {v : Int32} (hd : decode cc pc = .ok (.bipush n, 2)) (hv : (Int8.ofInt n).toInt32 = v) (kk : Gq p l e R s m args below meth c G A nL cs sl Q (pc + 2) lv (.int v :: st) w) : Gq p l e R s m args below meth c G A nL cs sl Q pc lv st w :=
  fun H locs ls hP hD hS h => lv_bipush C.1 C.2.1 hd hv (kk H locs ls hP hD hS h)
theorem go_sipush (C : Cx p e s m args meth c G own cc nL ret A) {n : Int} {v : Int32} (hd : decode cc pc = .ok (.sipush n, 3)) (hv : (Int16.ofInt n).toInt32 = v) (kk : Gq p l e R s m args below meth c G A nL cs sl Q (pc + 3) lv (.int v :: st) w) : Gq p l e R s m args below meth c G A nL cs sl Q pc lv st w :=
  fun H locs ls hP hD hS h => lv_sipush C.1 C.2.1 hd hv (kk H locs ls hP hD hS h)
theorem go_lconst (C : Cx p e s m args meth c G own cc nL ret A) {n : Fin 2} {v : Int64} (hd : decode cc pc = .ok (.lconst n, 1)) (hv : Int64.ofNat (n : Nat) = v) (kk : Gq p l e R s m args below meth c G A nL cs sl Q (pc + 1) lv (.long v :: st) w) : Gq p l e R s m args below meth c G A nL cs sl Q pc lv st w :=
  fun H locs ls hP hD hS h => lv_lconst C.1 C.2.1 hd hv (kk H locs ls hP hD hS h)
theorem go_ldc (C : Cx p e s m args meth c G own cc nL ret A) {i : Nat} {v : Int32} (hd : decode cc pc = .ok (.ldc i, 2)) (hw : Cond.constant own i v ∈ wsL_law) (kk : Gq p l e R s m args below meth c G A nL cs sl Q (pc + 2) lv (.int v :: st) w) : Gq p l e R s m args below meth c G A nL cs sl Q pc lv st w :=
  fun H locs ls hP hD hS h => lv_ldc C.1 C.2.1 C.2.2.2.1 (C.2.2.2.2.1 _ hw) hd (kk H locs ls hP hD hS h)
theorem go_ldcw (C : Cx p e s m args meth c G own cc nL ret A) {i : Nat} {v : Int32} (hd : decode cc pc = .ok (.ldc_w i, 3)) (hw : Cond.constant own i v ∈ wsL_law) (kk : Gq p l e R s m args below meth c G A nL cs sl Q (pc + 3) lv (.int v :: st) w) : Gq p l e R s m args below meth c G A nL cs sl Q pc lv st w :=
  fun H locs ls hP hD hS h => lv_ldcw C.1 C.2.1 C.2.2.2.1 (C.2.2.2.2.1 _ hw) hd (kk H locs ls hP hD hS h)
theorem go_ldc2 (C : Cx p e s m args meth c G own cc nL ret A) {i : Nat} {v : Int64} (hd : decode cc pc = .ok (.ldc2_w i, 3)) (hw : Cond.constantLong own i v ∈ wsL_law) (kk : Gq p l e R s m args below meth c G A nL cs sl Q (pc + 3) lv (.long v :: st) w) : Gq p l e R s m args below meth c G A nL cs sl Q pc lv st w :=
  fun H locs ls hP hD hS h => lv_ldc2 C.1 C.2.1 C.2.2.2.1 (C.2.2.2.2.1 _ hw) hd (kk H locs ls hP hD hS h)
-- locals
theorem go_iload_n (C : Cx p e s m args meth c G own cc nL ret A) {kf : Fin 4} {x : Int32} (hd : decode cc pc = .ok (.iload_n kf, 1)) (j : Nat) (hk : lv[j]? = some ((kf : Nat), .int x)) (kk : Gq p l e R s m args below meth c G A nL cs sl Q (pc + 1) lv (.int x :: st) w) : Gq p l e R s m args below meth c G A nL cs sl Q pc lv st w :=
  fun H locs ls hP hD hS h => lv_iload_n C.1 C.2.1 hd rfl (lv_at h j hk) (kk H locs ls hP hD hS h)
theorem go_iload (C : Cx p e s m args meth c G own cc nL ret A) {i : Nat} {x : Int32} (hd : decode cc pc = .ok (.iload i, 2)) (j : Nat) (hk : lv[j]? = some (i, .int x)) (kk : Gq p l e R s m args below meth c G A nL cs sl Q (pc + 2) lv (.int x :: st) w) : Gq p l e R s m args below meth c G A nL cs sl Q pc lv st w :=
  fun H locs ls hP hD hS h => lv_iload C.1 C.2.1 hd (lv_at h j hk) (kk H locs ls hP hD hS h)
theorem go_lload_n (C : Cx p e s m args meth c G own cc nL ret A) {kf : Fin 4} {x : Int64} (hd : decode cc pc = .ok (.lload_n kf, 1)) (j : Nat) (hk : lv[j]? = some ((kf : Nat), .long x)) (kk : Gq p l e R s m args below meth c G A nL cs sl Q (pc + 1) lv (.long x :: st) w) : Gq p l e R s m args below meth c G A nL cs sl Q pc lv st w :=
  fun H locs ls hP hD hS h => lv_lload_n C.1 C.2.1 hd rfl (lv_at h j hk) (kk H locs ls hP hD hS h)
theorem go_lload (C : Cx p e s m args meth c G own cc nL ret A) {i : Nat} {x : Int64} (hd : decode cc pc = .ok (.lload i, 2)) (j : Nat) (hk : lv[j]? = some (i, .long x)) (kk : Gq p l e R s m args below meth c G A nL cs sl Q (pc + 2) lv (.long x :: st) w) : Gq p l e R s m args below meth c G A nL cs sl Q pc lv st w :=
  fun H locs ls hP hD hS h => lv_lload C.1 C.2.1 hd (lv_at h j hk) (kk H locs ls hP hD hS h)
theorem go_aload_n (C : Cx p e s m args meth c G own cc nL ret A) {kf : Fin 4} {x : Nat} (hd : decode cc pc = .ok (.aload_n kf, 1)) (j : Nat) (hk : lv[j]? = some ((kf : Nat), .ref x)) (kk : Gq p l e R s m args below meth c G A nL cs sl Q (pc + 1) lv (.ref x :: st) w) : Gq p l e R s m args below meth c G A nL cs sl Q pc lv st w :=
  fun H locs ls hP hD hS h => lv_aload_n C.1 C.2.1 hd rfl (lv_at h j hk) (kk H locs ls hP hD hS h)
-- stores: the plain ones, and those that name what is stored
theorem go_istore_n (C : Cx p e s m args meth c G own cc nL ret A) {kf : Fin 4} {x : Int32} {lv' : List (Nat × Value)} (hd : decode cc pc = .ok (.istore_n kf, 1)) (hn : (kf : Nat) < nL) (hl : ((kf : Nat), Value.int x) :: lv.filter (fun q => !(q.1 == (kf : Nat)) && !(q.1 + 1 == (kf : Nat) && q.2.category == 2)) = lv') (kk : Gq p l e R s m args below meth c G A nL cs sl Q (pc + 1) lv' st w) : Gq p l e R s m args below meth c G A nL cs sl Q pc lv (.int x :: st) w :=
  fun H locs ls hP hD hS h => lv_istore_n C.1 C.2.1 hd rfl h hn hl (fun ls' h' => kk H locs ls' hP hD hS h')
theorem go_istore (C : Cx p e s m args meth c G own cc nL ret A) {i : Nat} {x : Int32} {lv' : List (Nat × Value)} (hd : decode cc pc = .ok (.istore i, 2)) (hn : i < nL) (hl : (i, Value.int x) :: lv.filter (fun q => !(q.1 == i) && !(q.1 + 1 == i && q.2.category == 2)) = lv') (kk : Gq p l e R s m args below meth c G A nL cs sl Q (pc + 2) lv' st w) : Gq p l e R s m args below meth c G A nL cs sl Q pc lv (.int x :: st) w :=
  fun H locs ls hP hD hS h => lv_istore C.1 C.2.1 hd h hn hl (fun ls' h' => kk H locs ls' hP hD hS h')
theorem go_istore_nN (C : Cx p e s m args meth c G own cc nL ret A) {β : Type} {r : β} {k : Int32 → Option β} {kf : Fin 4} {x : Int32} {lf : Int32 → List (Nat × Value)} (h : tnm x k = some r) (hd : decode cc pc = .ok (.istore_n kf, 1)) (hn : (kf : Nat) < nL) (hl : ∀ x : Int32, ((kf : Nat), Value.int x) :: lv.filter (fun q => !(q.1 == (kf : Nat)) && !(q.1 + 1 == (kf : Nat) && q.2.category == 2)) = lf x) (kk : ∀ x : Int32, k x = some r → Gq p l e R s m args below meth c G A nL cs sl Q (pc + 1) (lf x) st w) : Gq p l e R s m args below meth c G A nL cs sl Q pc lv (.int x :: st) w :=
  go_istore_n C hd hn (hl x) (kk x h)
theorem go_istoreN (C : Cx p e s m args meth c G own cc nL ret A) {β : Type} {r : β} {k : Int32 → Option β} {i : Nat} {x : Int32} {lf : Int32 → List (Nat × Value)} (h : tnm x k = some r) (hd : decode cc pc = .ok (.istore i, 2)) (hn : i < nL) (hl : ∀ x : Int32, (i, Value.int x) :: lv.filter (fun q => !(q.1 == i) && !(q.1 + 1 == i && q.2.category == 2)) = lf x) (kk : ∀ x : Int32, k x = some r → Gq p l e R s m args below meth c G A nL cs sl Q (pc + 2) (lf x) st w) : Gq p l e R s m args below meth c G A nL cs sl Q pc lv (.int x :: st) w :=
  go_istore C hd hn (hl x) (kk x h)
theorem go_iincN (C : Cx p e s m args meth c G own cc nL ret A) {β : Type} {r : β} {k : Int32 → Option β} {i : Nat} {n : Int} {x y : Int32} {lf : Int32 → List (Nat × Value)} (h : tnm y k = some r) (hd : decode cc pc = .ok (.iinc i n, 3)) (j : Nat) (hk : lv[j]? = some (i, .int x)) (hy : x + Int32.ofInt n = y) (hn : i < nL) (hl : ∀ x : Int32, (i, Value.int x) :: lv.filter (fun q => !(q.1 == i) && !(q.1 + 1 == i && q.2.category == 2)) = lf x) (kk : ∀ x : Int32, k x = some r → Gq p l e R s m args below meth c G A nL cs sl Q (pc + 3) (lf x) st w) : Gq p l e R s m args below meth c G A nL cs sl Q pc lv st w :=
  fun H locs ls hP hD hS hh => lv_iinc C.1 C.2.1 hd hh hk hy hn (hl y) (fun ls' h' => kk y h H locs ls' hP hD hS h')
theorem go_lstore_nN (C : Cx p e s m args meth c G own cc nL ret A) {β : Type} {r : β} {k : Int64 → Option β} {kf : Fin 4} {x : Int64} {lf : Int64 → List (Nat × Value)} (h : tnm x k = some r) (hd : decode cc pc = .ok (.lstore_n kf, 1)) (hn : (kf : Nat) + 1 < nL) (hl : ∀ x : Int64, ((kf : Nat), Value.long x) :: lv.filter (fun q => !(q.1 == (kf : Nat)) && (!(q.1 == (kf : Nat) + 1) && !(q.1 + 1 == (kf : Nat) && q.2.category == 2))) = lf x) (kk : ∀ x : Int64, k x = some r → Gq p l e R s m args below meth c G A nL cs sl Q (pc + 1) (lf x) st w) : Gq p l e R s m args below meth c G A nL cs sl Q pc lv (.long x :: st) w :=
  fun H locs ls hP hD hS hh => lv_lstore_n C.1 C.2.1 hd rfl hh hn (hl x) (fun ls' h' => kk x h H locs ls' hP hD hS h')
theorem go_lstoreN (C : Cx p e s m args meth c G own cc nL ret A) {β : Type} {r : β} {k : Int64 → Option β} {i : Nat} {x : Int64} {lf : Int64 → List (Nat × Value)} (h : tnm x k = some r) (hd : decode cc pc = .ok (.lstore i, 2)) (hn : i + 1 < nL) (hl : ∀ x : Int64, (i, Value.long x) :: lv.filter (fun q => !(q.1 == i) && (!(q.1 == i + 1) && !(q.1 + 1 == i && q.2.category == 2))) = lf x) (kk : ∀ x : Int64, k x = some r → Gq p l e R s m args below meth c G A nL cs sl Q (pc + 2) (lf x) st w) : Gq p l e R s m args below meth c G A nL cs sl Q pc lv (.long x :: st) w :=
  fun H locs ls hP hD hS hh => lv_lstore C.1 C.2.1 hd hh hn (hl x) (fun ls' h' => kk x h H locs ls' hP hD hS h')
theorem go_astore_n (C : Cx p e s m args meth c G own cc nL ret A) {kf : Fin 4} {x : Nat} {lv' : List (Nat × Value)} (hd : decode cc pc = .ok (.astore_n kf, 1)) (hn : (kf : Nat) < nL) (hl : ((kf : Nat), Value.ref x) :: lv.filter (fun q => !(q.1 == (kf : Nat)) && !(q.1 + 1 == (kf : Nat) && q.2.category == 2)) = lv') (kk : Gq p l e R s m args below meth c G A nL cs sl Q (pc + 1) lv' st w) : Gq p l e R s m args below meth c G A nL cs sl Q pc lv (.ref x :: st) w :=
  fun H locs ls hP hD hS h => lv_astore_n C.1 C.2.1 hd rfl h hn hl (fun ls' h' => kk H locs ls' hP hD hS h')
-- stack
theorem go_dup (C : Cx p e s m args meth c G own cc nL ret A) {v : Value} (hd : decode cc pc = .ok (.dup, 1)) (hv : v.category = 1) (kk : Gq p l e R s m args below meth c G A nL cs sl Q (pc + 1) lv (v :: v :: st) w) : Gq p l e R s m args below meth c G A nL cs sl Q pc lv (v :: st) w :=
  fun H locs ls hP hD hS h => lv_dup C.1 C.2.1 hd hv (kk H locs ls hP hD hS h)
theorem go_dup2 (C : Cx p e s m args meth c G own cc nL ret A) {v u : Value} (hd : decode cc pc = .ok (.dup2, 1)) (hv : v.category = 1) (hu : u.category = 1) (kk : Gq p l e R s m args below meth c G A nL cs sl Q (pc + 1) lv (v :: u :: v :: u :: st) w) : Gq p l e R s m args below meth c G A nL cs sl Q pc lv (v :: u :: st) w :=
  fun H locs ls hP hD hS h => lv_dup2_11 C.1 C.2.1 hd hv hu (kk H locs ls hP hD hS h)
theorem go_pop (C : Cx p e s m args meth c G own cc nL ret A) {v : Value} (hd : decode cc pc = .ok (.pop, 1)) (hv : v.category = 1) (kk : Gq p l e R s m args below meth c G A nL cs sl Q (pc + 1) lv st w) : Gq p l e R s m args below meth c G A nL cs sl Q pc lv (v :: st) w :=
  fun H locs ls hP hD hS h => lv_pop C.1 C.2.1 hd hv (kk H locs ls hP hD hS h)
theorem go_iadd (C : Cx p e s m args meth c G own cc nL ret A) {x y : Int32} (hd : decode cc pc = .ok (.iadd, 1)) (kk : Gq p l e R s m args below meth c G A nL cs sl Q (pc + 1) lv (.int (x + y) :: st) w) : Gq p l e R s m args below meth c G A nL cs sl Q pc lv (.int y :: .int x :: st) w :=
  fun H locs ls hP hD hS h => lv_iadd C.1 C.2.1 hd (kk H locs ls hP hD hS h)
theorem go_isub (C : Cx p e s m args meth c G own cc nL ret A) {x y : Int32} (hd : decode cc pc = .ok (.isub, 1)) (kk : Gq p l e R s m args below meth c G A nL cs sl Q (pc + 1) lv (.int (x - y) :: st) w) : Gq p l e R s m args below meth c G A nL cs sl Q pc lv (.int y :: .int x :: st) w :=
  fun H locs ls hP hD hS h => lv_isub C.1 C.2.1 hd (kk H locs ls hP hD hS h)
theorem go_imul (C : Cx p e s m args meth c G own cc nL ret A) {x y : Int32} (hd : decode cc pc = .ok (.imul, 1)) (kk : Gq p l e R s m args below meth c G A nL cs sl Q (pc + 1) lv (.int (x * y) :: st) w) : Gq p l e R s m args below meth c G A nL cs sl Q pc lv (.int y :: .int x :: st) w :=
  fun H locs ls hP hD hS h => lv_imul C.1 C.2.1 hd (kk H locs ls hP hD hS h)
theorem go_iand (C : Cx p e s m args meth c G own cc nL ret A) {x y : Int32} (hd : decode cc pc = .ok (.iand, 1)) (kk : Gq p l e R s m args below meth c G A nL cs sl Q (pc + 1) lv (.int (x &&& y) :: st) w) : Gq p l e R s m args below meth c G A nL cs sl Q pc lv (.int y :: .int x :: st) w :=
  fun H locs ls hP hD hS h => lv_iand C.1 C.2.1 hd (kk H locs ls hP hD hS h)
theorem go_ior (C : Cx p e s m args meth c G own cc nL ret A) {x y : Int32} (hd : decode cc pc = .ok (.ior, 1)) (kk : Gq p l e R s m args below meth c G A nL cs sl Q (pc + 1) lv (.int (x ||| y) :: st) w) : Gq p l e R s m args below meth c G A nL cs sl Q pc lv (.int y :: .int x :: st) w :=
  fun H locs ls hP hD hS h => lv_ior C.1 C.2.1 hd (kk H locs ls hP hD hS h)
theorem go_ixor (C : Cx p e s m args meth c G own cc nL ret A) {x y : Int32} (hd : decode cc pc = .ok (.ixor, 1)) (kk : Gq p l e R s m args below meth c G A nL cs sl Q (pc + 1) lv (.int (x ^^^ y) :: st) w) : Gq p l e R s m args below meth c G A nL cs sl Q pc lv (.int y :: .int x :: st) w :=
  fun H locs ls hP hD hS h => lv_ixor C.1 C.2.1 hd (kk H locs ls hP hD hS h)
theorem go_ishl (C : Cx p e s m args meth c G own cc nL ret A) {x y : Int32} (hd : decode cc pc = .ok (.ishl, 1)) (kk : Gq p l e R s m args below meth c G A nL cs sl Q (pc + 1) lv (.int (x <<< (y &&& 31)) :: st) w) : Gq p l e R s m args below meth c G A nL cs sl Q pc lv (.int y :: .int x :: st) w :=
  fun H locs ls hP hD hS h => lv_ishl C.1 C.2.1 hd (kk H locs ls hP hD hS h)
theorem go_ishr (C : Cx p e s m args meth c G own cc nL ret A) {x y : Int32} (hd : decode cc pc = .ok (.ishr, 1)) (kk : Gq p l e R s m args below meth c G A nL cs sl Q (pc + 1) lv (.int (x >>> (y &&& 31)) :: st) w) : Gq p l e R s m args below meth c G A nL cs sl Q pc lv (.int y :: .int x :: st) w :=
  fun H locs ls hP hD hS h => lv_ishr C.1 C.2.1 hd (kk H locs ls hP hD hS h)
theorem go_ladd (C : Cx p e s m args meth c G own cc nL ret A) {x y : Int64} (hd : decode cc pc = .ok (.ladd, 1)) (kk : Gq p l e R s m args below meth c G A nL cs sl Q (pc + 1) lv (.long (x + y) :: st) w) : Gq p l e R s m args below meth c G A nL cs sl Q pc lv (.long y :: .long x :: st) w :=
  fun H locs ls hP hD hS h => lv_ladd C.1 C.2.1 hd (kk H locs ls hP hD hS h)
theorem go_lsub (C : Cx p e s m args meth c G own cc nL ret A) {x y : Int64} (hd : decode cc pc = .ok (.lsub, 1)) (kk : Gq p l e R s m args below meth c G A nL cs sl Q (pc + 1) lv (.long (x - y) :: st) w) : Gq p l e R s m args below meth c G A nL cs sl Q pc lv (.long y :: .long x :: st) w :=
  fun H locs ls hP hD hS h => lv_lsub C.1 C.2.1 hd (kk H locs ls hP hD hS h)
theorem go_lmul (C : Cx p e s m args meth c G own cc nL ret A) {x y : Int64} (hd : decode cc pc = .ok (.lmul, 1)) (kk : Gq p l e R s m args below meth c G A nL cs sl Q (pc + 1) lv (.long (x * y) :: st) w) : Gq p l e R s m args below meth c G A nL cs sl Q pc lv (.long y :: .long x :: st) w :=
  fun H locs ls hP hD hS h => lv_lmul C.1 C.2.1 hd (kk H locs ls hP hD hS h)
theorem go_lcmp (C : Cx p e s m args meth c G own cc nL ret A) {x y : Int64} (hd : decode cc pc = .ok (.lcmp, 1)) (kk : Gq p l e R s m args below meth c G A nL cs sl Q (pc + 1) lv (.int (lg_cmp x y) :: st) w) : Gq p l e R s m args below meth c G A nL cs sl Q pc lv (.long y :: .long x :: st) w :=
  fun H locs ls hP hD hS h => W.lcmp C.1 C.2.1 hd (kk H locs ls hP hD hS h)
theorem go_iushr (C : Cx p e s m args meth c G own cc nL ret A) {x y : Int32} (hd : decode cc pc = .ok (.iushr, 1)) (kk : Gq p l e R s m args below meth c G A nL cs sl Q (pc + 1) lv (.int (iushr x y) :: st) w) : Gq p l e R s m args below meth c G A nL cs sl Q pc lv (.int y :: .int x :: st) w :=
  fun H locs ls hP hD hS h => lv_iushr C.1 C.2.1 hd rfl (kk H locs ls hP hD hS h)
theorem go_ineg (C : Cx p e s m args meth c G own cc nL ret A) {x : Int32} (hd : decode cc pc = .ok (.ineg, 1)) (kk : Gq p l e R s m args below meth c G A nL cs sl Q (pc + 1) lv (.int (-x) :: st) w) : Gq p l e R s m args below meth c G A nL cs sl Q pc lv (.int x :: st) w :=
  fun H locs ls hP hD hS h => lv_ineg C.1 C.2.1 hd (kk H locs ls hP hD hS h)
theorem go_i2l (C : Cx p e s m args meth c G own cc nL ret A) {x : Int32} (hd : decode cc pc = .ok (.i2l, 1)) (kk : Gq p l e R s m args below meth c G A nL cs sl Q (pc + 1) lv (.long x.toInt64 :: st) w) : Gq p l e R s m args below meth c G A nL cs sl Q pc lv (.int x :: st) w :=
  fun H locs ls hP hD hS h => lv_i2l C.1 C.2.1 hd rfl (kk H locs ls hP hD hS h)
theorem go_i2c (C : Cx p e s m args meth c G own cc nL ret A) {x : Int32} (hd : decode cc pc = .ok (.i2c, 1)) (kk : Gq p l e R s m args below meth c G A nL cs sl Q (pc + 1) lv (.int (i2c x) :: st) w) : Gq p l e R s m args below meth c G A nL cs sl Q pc lv (.int x :: st) w :=
  fun H locs ls hP hD hS h => lv_i2c C.1 C.2.1 hd rfl (kk H locs ls hP hD hS h)
theorem go_idiv (C : Cx p e s m args meth c G own cc nL ret A) {x y : Int32} (hd : decode cc pc = .ok (.idiv, 1)) (hne : ¬ y = 0) (kk : Gq p l e R s m args below meth c G A nL cs sl Q (pc + 1) lv (.int (x / y) :: st) w) : Gq p l e R s m args below meth c G A nL cs sl Q pc lv (.int y :: .int x :: st) w :=
  fun H locs ls hP hD hS h => lv_idiv C.1 C.2.1 hd hne (kk H locs ls hP hD hS h)
theorem go_idivG (C : Cx p e s m args meth c G own cc nL ret A) {β : Type} {r : β} {t : Option β} {x y : Int32} (h : tgd (tnz y) t = some r) (hd : decode cc pc = .ok (.idiv, 1)) (kk : t = some r → Gq p l e R s m args below meth c G A nL cs sl Q (pc + 1) lv (.int (x / y) :: st) w) : Gq p l e R s m args below meth c G A nL cs sl Q pc lv (.int y :: .int x :: st) w :=
  go_idiv C hd (of_decide_eq_true (tgd_e h).1) (kk (tgd_e h).2)
theorem go_irem (C : Cx p e s m args meth c G own cc nL ret A) {x y : Int32} (hd : decode cc pc = .ok (.irem, 1)) (hne : ¬ y = 0) (kk : Gq p l e R s m args below meth c G A nL cs sl Q (pc + 1) lv (.int (irem x y) :: st) w) : Gq p l e R s m args below meth c G A nL cs sl Q pc lv (.int y :: .int x :: st) w :=
  fun H locs ls hP hD hS h => lv_irem C.1 C.2.1 hd hne (kk H locs ls hP hD hS h)
theorem go_iremG (C : Cx p e s m args meth c G own cc nL ret A) {β : Type} {r : β} {t : Option β} {x y : Int32} (h : tgd (tnz y) t = some r) (hd : decode cc pc = .ok (.irem, 1)) (kk : t = some r → Gq p l e R s m args below meth c G A nL cs sl Q (pc + 1) lv (.int (irem x y) :: st) w) : Gq p l e R s m args below meth c G A nL cs sl Q pc lv (.int y :: .int x :: st) w :=
  go_irem C hd (of_decide_eq_true (tgd_e h).1) (kk (tgd_e h).2)
theorem go_ldiv (C : Cx p e s m args meth c G own cc nL ret A) {x y : Int64} (hd : decode cc pc = .ok (.ldiv, 1)) (hne : ¬ y = 0) (kk : Gq p l e R s m args below meth c G A nL cs sl Q (pc + 1) lv (.long (x / y) :: st) w) : Gq p l e R s m args below meth c G A nL cs sl Q pc lv (.long y :: .long x :: st) w :=
  fun H locs ls hP hD hS h => lv_ldiv C.1 C.2.1 hd hne (kk H locs ls hP hD hS h)
theorem go_ldivG (C : Cx p e s m args meth c G own cc nL ret A) {β : Type} {r : β} {t : Option β} {x y : Int64} (h : tgd (tnzl y) t = some r) (hd : decode cc pc = .ok (.ldiv, 1)) (kk : t = some r → Gq p l e R s m args below meth c G A nL cs sl Q (pc + 1) lv (.long (x / y) :: st) w) : Gq p l e R s m args below meth c G A nL cs sl Q pc lv (.long y :: .long x :: st) w :=
  go_ldiv C hd (of_decide_eq_true (tgd_e h).1) (kk (tgd_e h).2)
theorem go_lrem (C : Cx p e s m args meth c G own cc nL ret A) {x y : Int64} (hd : decode cc pc = .ok (.lrem, 1)) (hne : ¬ y = 0) (kk : Gq p l e R s m args below meth c G A nL cs sl Q (pc + 1) lv (.long (lrem x y) :: st) w) : Gq p l e R s m args below meth c G A nL cs sl Q pc lv (.long y :: .long x :: st) w :=
  fun H locs ls hP hD hS h => lv_lrem C.1 C.2.1 hd hne (kk H locs ls hP hD hS h)
theorem go_lremG (C : Cx p e s m args meth c G own cc nL ret A) {β : Type} {r : β} {t : Option β} {x y : Int64} (h : tgd (tnzl y) t = some r) (hd : decode cc pc = .ok (.lrem, 1)) (kk : t = some r → Gq p l e R s m args below meth c G A nL cs sl Q (pc + 1) lv (.long (lrem x y) :: st) w) : Gq p l e R s m args below meth c G A nL cs sl Q pc lv (.long y :: .long x :: st) w :=
  go_lrem C hd (of_decide_eq_true (tgd_e h).1) (kk (tgd_e h).2)
theorem go_if_eq (C : Cx p e s m args meth c G own cc nL ret A) {β : Type} {r : β} {t1 t2 : Option β} {x : Int32} {off : Int} {tgt : Nat} (h : (if x = 0 then t1 else t2) = some r) (hd : decode cc pc = .ok (.ifCond .eq off, 3)) (ht : (pc : Int) + off = (tgt : Int)) (kt : t1 = some r → Gq p l e R s m args below meth c G A nL cs sl Q tgt lv st w) (kf : t2 = some r → Gq p l e R s m args below meth c G A nL cs sl Q (pc + 3) lv st w) : Gq p l e R s m args below meth c G A nL cs sl Q pc lv (.int x :: st) w :=
  fun H locs ls hP hD hS hh => lv_if_eq C.1 C.2.1 hd ht (fun q => kt (by rw [if_pos q] at h; exact h) H locs ls hP hD hS hh) (fun q => kf (by rw [if_neg q] at h; exact h) H locs ls hP hD hS hh)
theorem go_icmp_eq (C : Cx p e s m args meth c G own cc nL ret A) {β : Type} {r : β} {t1 t2 : Option β} {x y : Int32} {off : Int} {tgt : Nat} (h : (if x = y then t1 else t2) = some r) (hd : decode cc pc = .ok (.if_icmp .eq off, 3)) (ht : (pc : Int) + off = (tgt : Int)) (kt : t1 = some r → Gq p l e R s m args below meth c G A nL cs sl Q tgt lv st w) (kf : t2 = some r → Gq p l e R s m args below meth c G A nL cs sl Q (pc + 3) lv st w) : Gq p l e R s m args below meth c G A nL cs sl Q pc lv (.int y :: .int x :: st) w :=
  fun H locs ls hP hD hS hh => lv_icmp_eq C.1 C.2.1 hd ht (fun q => kt (by rw [if_pos q] at h; exact h) H locs ls hP hD hS hh) (fun q => kf (by rw [if_neg q] at h; exact h) H locs ls hP hD hS hh)
theorem go_if_ne (C : Cx p e s m args meth c G own cc nL ret A) {β : Type} {r : β} {t1 t2 : Option β} {x : Int32} {off : Int} {tgt : Nat} (h : (if x = 0 then t1 else t2) = some r) (hd : decode cc pc = .ok (.ifCond .ne off, 3)) (ht : (pc : Int) + off = (tgt : Int)) (kt : t2 = some r → Gq p l e R s m args below meth c G A nL cs sl Q tgt lv st w) (kf : t1 = some r → Gq p l e R s m args below meth c G A nL cs sl Q (pc + 3) lv st w) : Gq p l e R s m args below meth c G A nL cs sl Q pc lv (.int x :: st) w :=
  fun H locs ls hP hD hS hh => lv_if_ne C.1 C.2.1 hd ht (fun q => kt (by rw [if_neg q] at h; exact h) H locs ls hP hD hS hh) (fun q => kf (by rw [if_pos q] at h; exact h) H locs ls hP hD hS hh)
theorem go_icmp_ne (C : Cx p e s m args meth c G own cc nL ret A) {β : Type} {r : β} {t1 t2 : Option β} {x y : Int32} {off : Int} {tgt : Nat} (h : (if x = y then t1 else t2) = some r) (hd : decode cc pc = .ok (.if_icmp .ne off, 3)) (ht : (pc : Int) + off = (tgt : Int)) (kt : t2 = some r → Gq p l e R s m args below meth c G A nL cs sl Q tgt lv st w) (kf : t1 = some r → Gq p l e R s m args below meth c G A nL cs sl Q (pc + 3) lv st w) : Gq p l e R s m args below meth c G A nL cs sl Q pc lv (.int y :: .int x :: st) w :=
  fun H locs ls hP hD hS hh => lv_icmp_ne C.1 C.2.1 hd ht (fun q => kt (by rw [if_neg q] at h; exact h) H locs ls hP hD hS hh) (fun q => kf (by rw [if_pos q] at h; exact h) H locs ls hP hD hS hh)
theorem go_if_lt (C : Cx p e s m args meth c G own cc nL ret A) {β : Type} {r : β} {t1 t2 : Option β} {x : Int32} {off : Int} {tgt : Nat} (h : (if x < 0 then t1 else t2) = some r) (hd : decode cc pc = .ok (.ifCond .lt off, 3)) (ht : (pc : Int) + off = (tgt : Int)) (kt : t1 = some r → Gq p l e R s m args below meth c G A nL cs sl Q tgt lv st w) (kf : t2 = some r → Gq p l e R s m args below meth c G A nL cs sl Q (pc + 3) lv st w) : Gq p l e R s m args below meth c G A nL cs sl Q pc lv (.int x :: st) w :=
  fun H locs ls hP hD hS hh => lv_if_lt C.1 C.2.1 hd ht (fun q => kt (by rw [if_pos q] at h; exact h) H locs ls hP hD hS hh) (fun q => kf (by rw [if_neg q] at h; exact h) H locs ls hP hD hS hh)
theorem go_icmp_lt (C : Cx p e s m args meth c G own cc nL ret A) {β : Type} {r : β} {t1 t2 : Option β} {x y : Int32} {off : Int} {tgt : Nat} (h : (if x < y then t1 else t2) = some r) (hd : decode cc pc = .ok (.if_icmp .lt off, 3)) (ht : (pc : Int) + off = (tgt : Int)) (kt : t1 = some r → Gq p l e R s m args below meth c G A nL cs sl Q tgt lv st w) (kf : t2 = some r → Gq p l e R s m args below meth c G A nL cs sl Q (pc + 3) lv st w) : Gq p l e R s m args below meth c G A nL cs sl Q pc lv (.int y :: .int x :: st) w :=
  fun H locs ls hP hD hS hh => lv_icmp_lt C.1 C.2.1 hd ht (fun q => kt (by rw [if_pos q] at h; exact h) H locs ls hP hD hS hh) (fun q => kf (by rw [if_neg q] at h; exact h) H locs ls hP hD hS hh)
theorem go_if_ge (C : Cx p e s m args meth c G own cc nL ret A) {β : Type} {r : β} {t1 t2 : Option β} {x : Int32} {off : Int} {tgt : Nat} (h : (if 0 ≤ x then t1 else t2) = some r) (hd : decode cc pc = .ok (.ifCond .ge off, 3)) (ht : (pc : Int) + off = (tgt : Int)) (kt : t1 = some r → Gq p l e R s m args below meth c G A nL cs sl Q tgt lv st w) (kf : t2 = some r → Gq p l e R s m args below meth c G A nL cs sl Q (pc + 3) lv st w) : Gq p l e R s m args below meth c G A nL cs sl Q pc lv (.int x :: st) w :=
  fun H locs ls hP hD hS hh => lv_if_ge C.1 C.2.1 hd ht (fun q => kt (by rw [if_pos q] at h; exact h) H locs ls hP hD hS hh) (fun q => kf (by rw [if_neg q] at h; exact h) H locs ls hP hD hS hh)
theorem go_icmp_ge (C : Cx p e s m args meth c G own cc nL ret A) {β : Type} {r : β} {t1 t2 : Option β} {x y : Int32} {off : Int} {tgt : Nat} (h : (if y ≤ x then t1 else t2) = some r) (hd : decode cc pc = .ok (.if_icmp .ge off, 3)) (ht : (pc : Int) + off = (tgt : Int)) (kt : t1 = some r → Gq p l e R s m args below meth c G A nL cs sl Q tgt lv st w) (kf : t2 = some r → Gq p l e R s m args below meth c G A nL cs sl Q (pc + 3) lv st w) : Gq p l e R s m args below meth c G A nL cs sl Q pc lv (.int y :: .int x :: st) w :=
  fun H locs ls hP hD hS hh => lv_icmp_ge C.1 C.2.1 hd ht (fun q => kt (by rw [if_pos q] at h; exact h) H locs ls hP hD hS hh) (fun q => kf (by rw [if_neg q] at h; exact h) H locs ls hP hD hS hh)
theorem go_if_gt (C : Cx p e s m args meth c G own cc nL ret A) {β : Type} {r : β} {t1 t2 : Option β} {x : Int32} {off : Int} {tgt : Nat} (h : (if 0 < x then t1 else t2) = some r) (hd : decode cc pc = .ok (.ifCond .gt off, 3)) (ht : (pc : Int) + off = (tgt : Int)) (kt : t1 = some r → Gq p l e R s m args below meth c G A nL cs sl Q tgt lv st w) (kf : t2 = some r → Gq p l e R s m args below meth c G A nL cs sl Q (pc + 3) lv st w) : Gq p l e R s m args below meth c G A nL cs sl Q pc lv (.int x :: st) w :=
  fun H locs ls hP hD hS hh => lv_if_gt C.1 C.2.1 hd ht (fun q => kt (by rw [if_pos q] at h; exact h) H locs ls hP hD hS hh) (fun q => kf (by rw [if_neg q] at h; exact h) H locs ls hP hD hS hh)
theorem go_icmp_gt (C : Cx p e s m args meth c G own cc nL ret A) {β : Type} {r : β} {t1 t2 : Option β} {x y : Int32} {off : Int} {tgt : Nat} (h : (if y < x then t1 else t2) = some r) (hd : decode cc pc = .ok (.if_icmp .gt off, 3)) (ht : (pc : Int) + off = (tgt : Int)) (kt : t1 = some r → Gq p l e R s m args below meth c G A nL cs sl Q tgt lv st w) (kf : t2 = some r → Gq p l e R s m args below meth c G A nL cs sl Q (pc + 3) lv st w) : Gq p l e R s m args below meth c G A nL cs sl Q pc lv (.int y :: .int x :: st) w :=
  fun H locs ls hP hD hS hh => lv_icmp_gt C.1 C.2.1 hd ht (fun q => kt (by rw [if_pos q] at h; exact h) H locs ls hP hD hS hh) (fun q => kf (by rw [if_neg q] at h; exact h) H locs ls hP hD hS hh)
theorem go_if_le (C : Cx p e s m args meth c G own cc nL ret A) {β : Type} {r : β} {t1 t2 : Option β} {x : Int32} {off : Int} {tgt : Nat} (h : (if x ≤ 0 then t1 else t2) = some r) (hd : decode cc pc = .ok (.ifCond .le off, 3)) (ht : (pc : Int) + off = (tgt : Int)) (kt : t1 = some r → Gq p l e R s m args below meth c G A nL cs sl Q tgt lv st w) (kf : t2 = some r → Gq p l e R s m args below meth c G A nL cs sl Q (pc + 3) lv st w) : Gq p l e R s m args below meth c G A nL cs sl Q pc lv (.int x :: st) w :=
  fun H locs ls hP hD hS hh => lv_if_le C.1 C.2.1 hd ht (fun q => kt (by rw [if_pos q] at h; exact h) H locs ls hP hD hS hh) (fun q => kf (by rw [if_neg q] at h; exact h) H locs ls hP hD hS hh)
theorem go_icmp_le (C : Cx p e s m args meth c G own cc nL ret A) {β : Type} {r : β} {t1 t2 : Option β} {x y : Int32} {off : Int} {tgt : Nat} (h : (if x ≤ y then t1 else t2) = some r) (hd : decode cc pc = .ok (.if_icmp .le off, 3)) (ht : (pc : Int) + off = (tgt : Int)) (kt : t1 = some r → Gq p l e R s m args below meth c G A nL cs sl Q tgt lv st w) (kf : t2 = some r → Gq p l e R s m args below meth c G A nL cs sl Q (pc + 3) lv st w) : Gq p l e R s m args below meth c G A nL cs sl Q pc lv (.int y :: .int x :: st) w :=
  fun H locs ls hP hD hS hh => lv_icmp_le C.1 C.2.1 hd ht (fun q => kt (by rw [if_pos q] at h; exact h) H locs ls hP hD hS hh) (fun q => kf (by rw [if_neg q] at h; exact h) H locs ls hP hD hS hh)
theorem go_goto (C : Cx p e s m args meth c G own cc nL ret A) {off : Int} {tgt : Nat} (hd : decode cc pc = .ok (.goto off, 3)) (ht : (pc : Int) + off = (tgt : Int)) (kk : Gq p l e R s m args below meth c G A nL cs sl Q tgt lv st w) : Gq p l e R s m args below meth c G A nL cs sl Q pc lv st w :=
  fun H locs ls hP hD hS h => lv_goto C.1 C.2.1 hd ht (kk H locs ls hP hD hS h)
theorem go_ite {β : Type} {r : β} {P cnd : Prop} {t1 t2 : Option β} [Decidable cnd] (h : (if cnd then t1 else t2) = some r) (k1 : cnd → t1 = some r → P) (k2 : ¬ cnd → t2 = some r → P) : P := by
  by_cases q : cnd
  · rw [if_pos q] at h; exact k1 q h
  · rw [if_neg q] at h; exact k2 q h
theorem go_tabIn (C : Cx p e s m args meth c G own cc nL ret A) {dflt lo hi : Int} {offs : Array Int} {len : Nat} {x v : Int32} {off : Int} {tgt : Nat} (hd : decode cc pc = .ok (.tableswitch dflt lo hi offs, len)) (hx : x = v) (hv : (decide (v.toInt < lo) || decide (hi < v.toInt)) = false) (ho : offs[(v.toInt - lo).toNat]? = some off) (ht : (pc : Int) + off = (tgt : Int)) (kk : Gq p l e R s m args below meth c G A nL cs sl Q tgt lv st w) : Gq p l e R s m args below meth c G A nL cs sl Q pc lv (.int x :: st) w := by
  subst hx
  rw [Bool.or_eq_false_iff, decide_eq_false_iff_not, decide_eq_false_iff_not] at hv
  exact fun H locs ls hP hD hS h => lv_tableIn C.1 C.2.1 hd hv.1 hv.2 ho ht (kk H locs ls hP hD hS h)
theorem go_tabOut (C : Cx p e s m args meth c G own cc nL ret A) {dflt lo hi : Int} {offs : Array Int} {len : Nat} {x : Int32} {tgt : Nat} (hd : decode cc pc = .ok (.tableswitch dflt lo hi offs, len)) (hx : x.toInt < lo ∨ hi < x.toInt) (ht : (pc : Int) + dflt = (tgt : Int)) (kk : Gq p l e R s m args below meth c G A nL cs sl Q tgt lv st w) : Gq p l e R s m args below meth c G A nL cs sl Q pc lv (.int x :: st) w :=
  fun H locs ls hP hD hS h => lv_tableOut C.1 C.2.1 hd hx ht (kk H locs ls hP hD hS h)
theorem go_look (C : Cx p e s m args meth c G own cc nL ret A) {dflt : Int} {ps : Array (Int × Int)} {len : Nat} {x : Int32} {off : Int} {tgt : Nat} (hd : decode cc pc = .ok (.lookupswitch dflt ps, len)) (hp : (ps.toList.zip (ps.toList.drop 1)).all (fun (a, next) => a.1 < next.1) = true) (ho : Op.lookupswitch.offset ps.toList dflt x.toInt = off) (ht : (pc : Int) + off = (tgt : Int)) (kk : Gq p l e R s m args below meth c G A nL cs sl Q tgt lv st w) : Gq p l e R s m args below meth c G A nL cs sl Q pc lv (.int x :: st) w :=
  fun H locs ls hP hD hS h => lv_lookup C.1 C.2.1 hd hp ho ht (kk H locs ls hP hD hS h)
/-- a field as one class's pool entry names it: class ci of the worlds' classes, its k-th field -/
def FF (own : String) (index ci k : Nat) : Prop := ∃ (Cn : String) (T : u_T) (N : Nat), vwCl[ci]? = some (Cn, T, N) ∧ (∀ x ∈ u_ws Cn T N, x ∈ wsL_law) ∧ k < N ∧ Cond.fieldLink own index (T k).1 (T k).2.1 (T k).2.2.1 ∈ wsL_law
/-- .. and that it may be written, with values of a type -/
def FP (own : String) (index ci k : Nat) (ty : FieldType) (fin : Bool) : Prop := ∃ (Cn : String) (T : u_T) (N : Nat) (ty0 : Nat → FieldType), vwCl[ci]? = some (Cn, T, N) ∧ (∀ x ∈ u_ws Cn T N, x ∈ wsL_law) ∧ k < N ∧ Cond.fieldLink own index (T k).1 (T k).2.1 (T k).2.2.1 ∈ wsL_law ∧ (∀ k, k < N → parseFieldDescriptor (T k).2.2.1 = some (ty0 k)) ∧ (∀ a, a < N → ∀ b, b < N → a ≠ b → (T a).2.1 ≠ (T b).2.1) ∧ (T k).2.2.2 = fin ∧ parseFieldDescriptor (T k).2.2.1 = some ty ∧ (T k).1 = own
theorem go_get (C : Cx p e s m args meth c G own cc nL ret A) {index ci k a : Nat} {fs : List Value} {v : Value} (F : FF own index ci k) (hd : decode cc pc = .ok (.getfield index, 3)) (q0 : Nat) (he : w[q0]? = some (a, .inr (ci, fs))) (hv : fs[k]? = some v) (kk : Gq p l e R s m args below meth c G A nL cs sl Q (pc + 3) lv (v :: st) w) : Gq p l e R s m args below meth c G A nL cs sl Q pc lv (.ref a :: st) w := by
  obtain ⟨Cn, T, N, h1, h2, h3, h4⟩ := F
  exact fun H locs ls hP hD hS h => va_get C.1 C.2.1 C.2.2.2.2.1 h2 C.2.2.2.1 C.2.2.2.2.2.1.1 hP q0 he h1 k h3 (C.2.2.2.2.1 _ h4) (fun _ h9 => h9) hv hd (kk H locs ls hP hD hS h)
theorem go_puti (C : Cx p e s m args meth c G own cc nL ret A) {index ci k a : Nat} {fs : List Value} {x : Int32} {w' : va_W} (F : FP own index ci k .int false) (hd : decode cc pc = .ok (.putfield index, 3)) (q0 : Nat) (he : w[q0]? = some (a, .inr (ci, fs))) (hl : k < fs.length) (hw : w.set q0 (a, .inr (ci, fs.set k (.int x))) = w') (kk : Gq p l e R s m args below meth c G A nL cs sl Q (pc + 3) lv st w') : Gq p l e R s m args below meth c G A nL cs sl Q pc lv (.int x :: .ref a :: st) w := by
  obtain ⟨Cn, T, N, ty0, h1, h2, h3, h4, h5, h6, h7, h8, -⟩ := F
  subst hw
  exact fun H locs ls hP hD hS h => va_put C.1 C.2.1 C.2.2.2.2.1 h2 ty0 h5 h6 C.2.2.2.1 C.2.2.2.2.2.1.1 hP hD hS q0 he h1 k h3 (C.2.2.2.2.1 _ h4) (fun _ h9 => h9) h7 h8 rfl rfl hl hd (fun H1 locs1 hP hD hS => kk H1 locs1 ls hP hD hS h)
theorem go_putl (C : Cx p e s m args meth c G own cc nL ret A) {index ci k a : Nat} {fs : List Value} {x : Int64} {w' : va_W} (F : FP own index ci k .long false) (hd : decode cc pc = .ok (.putfield index, 3)) (q0 : Nat) (he : w[q0]? = some (a, .inr (ci, fs))) (hl : k < fs.length) (hw : w.set q0 (a, .inr (ci, fs.set k (.long x))) = w') (kk : Gq p l e R s m args below meth c G A nL cs sl Q (pc + 3) lv st w') : Gq p l e R s m args below meth c G A nL cs sl Q pc lv (.long x :: .ref a :: st) w := by
  obtain ⟨Cn, T, N, ty0, h1, h2, h3, h4, h5, h6, h7, h8, -⟩ := F
  subst hw
  exact fun H locs ls hP hD hS h => va_put C.1 C.2.1 C.2.2.2.2.1 h2 ty0 h5 h6 C.2.2.2.1 C.2.2.2.2.2.1.1 hP hD hS q0 he h1 k h3 (C.2.2.2.2.1 _ h4) (fun _ h9 => h9) h7 h8 rfl rfl hl hd (fun H1 locs1 hP hD hS => kk H1 locs1 ls hP hD hS h)
theorem go_iaload (C : Cx p e s m args meth c G own cc nL ret A) {a n : Nat} {f : Nat → Int32} {i : Int32} (hd : decode cc pc = .ok (.iaload, 1)) (q0 : Nat) (ha : w[q0]? = some (a, .inl (gI G, n, .inl f))) (hi : tin i n = true) (kk : Gq p l e R s m args below meth c G A nL cs sl Q (pc + 1) lv (.int (f i.toNatClampNeg) :: st) w) : Gq p l e R s m args below meth c G A nL cs sl Q pc lv (.int i :: .ref a :: st) w :=
  fun H locs ls hP hD hS h => va_iald C.1 C.2.1 C.2.2.2.2.2.1.1 hP q0 1 ha rfl (tin_e hi) hd (kk H locs ls hP hD hS h)
theorem go_ialoadG (C : Cx p e s m args meth c G own cc nL ret A) {β : Type} {r : β} {t : Option β} {a n : Nat} {f : Nat → Int32} {i : Int32} (h : tgd (tin i n) t = some r) (hd : decode cc pc = .ok (.iaload, 1)) (q0 : Nat) (ha : w[q0]? = some (a, .inl (gI G, n, .inl f))) (kk : t = some r → Gq p l e R s m args below meth c G A nL cs sl Q (pc + 1) lv (.int (f i.toNatClampNeg) :: st) w) : Gq p l e R s m args below meth c G A nL cs sl Q pc lv (.int i :: .ref a :: st) w :=
  go_iaload C hd q0 ha (tgd_e h).1 (kk (tgd_e h).2)
theorem go_caload (C : Cx p e s m args meth c G own cc nL ret A) {a n : Nat} {f : Nat → Int32} {i : Int32} (hd : decode cc pc = .ok (.caload, 1)) (q0 : Nat) (ha : w[q0]? = some (a, .inl (gC G, n, .inl f))) (hi : tin i n = true) (kk : Gq p l e R s m args below meth c G A nL cs sl Q (pc + 1) lv (.int (f i.toNatClampNeg) :: st) w) : Gq p l e R s m args below meth c G A nL cs sl Q pc lv (.int i :: .ref a :: st) w :=
  fun H locs ls hP hD hS h => va_cald C.1 C.2.1 C.2.2.2.2.2.1.1 hP q0 0 ha rfl (tin_e hi) hd (kk H locs ls hP hD hS h)
theorem go_caloadG (C : Cx p e s m args meth c G own cc nL ret A) {β : Type} {r : β} {t : Option β} {a n : Nat} {f : Nat → Int32} {i : Int32} (h : tgd (tin i n) t = some r) (hd : decode cc pc = .ok (.caload, 1)) (q0 : Nat) (ha : w[q0]? = some (a, .inl (gC G, n, .inl f))) (kk : t = some r → Gq p l e R s m args below meth c G A nL cs sl Q (pc + 1) lv (.int (f i.toNatClampNeg) :: st) w) : Gq p l e R s m args below meth c G A nL cs sl Q pc lv (.int i :: .ref a :: st) w :=
  go_caload C hd q0 ha (tgd_e h).1 (kk (tgd_e h).2)
theorem go_zaload (C : Cx p e s m args meth c G own cc nL ret A) {a n : Nat} {f : Nat → Int32} {i : Int32} (hd : decode cc pc = .ok (.baload, 1)) (q0 : Nat) (ha : w[q0]? = some (a, .inl (gZ G, n, .inl f))) (hi : tin i n = true) (kk : Gq p l e R s m args below meth c G A nL cs sl Q (pc + 1) lv (.int (f i.toNatClampNeg) :: st) w) : Gq p l e R s m args below meth c G A nL cs sl Q pc lv (.int i :: .ref a :: st) w :=
  fun H locs ls hP hD hS h => va_zald C.1 C.2.1 C.2.2.2.2.2.1.1 hP q0 3 ha rfl (tin_e hi) hd (kk H locs ls hP hD hS h)
theorem go_zaloadG (C : Cx p e s m args meth c G own cc nL ret A) {β : Type} {r : β} {t : Option β} {a n : Nat} {f : Nat → Int32} {i : Int32} (h : tgd (tin i n) t = some r) (hd : decode cc pc = .ok (.baload, 1)) (q0 : Nat) (ha : w[q0]? = some (a, .inl (gZ G, n, .inl f))) (kk : t = some r → Gq p l e R s m args below meth c G A nL cs sl Q (pc + 1) lv (.int (f i.toNatClampNeg) :: st) w) : Gq p l e R s m args below meth c G A nL cs sl Q pc lv (.int i :: .ref a :: st) w :=
  go_zaload C hd q0 ha (tgd_e h).1 (kk (tgd_e h).2)
theorem go_laload (C : Cx p e s m args meth c G own cc nL ret A) {a n : Nat} {f : Nat → Int64} {i : Int32} (hd : decode cc pc = .ok (.laload, 1)) (q0 : Nat) (ha : w[q0]? = some (a, .inl (gJ G, n, .inr (.inl f)))) (hi : tin i n = true) (kk : Gq p l e R s m args below meth c G A nL cs sl Q (pc + 1) lv (.long (f i.toNatClampNeg) :: st) w) : Gq p l e R s m args below meth c G A nL cs sl Q pc lv (.int i :: .ref a :: st) w :=
  fun H locs ls hP hD hS h => va_lald C.1 C.2.1 C.2.2.2.2.2.1.1 hP q0 2 ha rfl (tin_e hi) hd (kk H locs ls hP hD hS h)
theorem go_laloadG (C : Cx p e s m args meth c G own cc nL ret A) {β : Type} {r : β} {t : Option β} {a n : Nat} {f : Nat → Int64} {i : Int32} (h : tgd (tin i n) t = some r) (hd : decode cc pc = .ok (.laload, 1)) (q0 : Nat) (ha : w[q0]? = some (a, .inl (gJ G, n, .inr (.inl f)))) (kk : t = some r → Gq p l e R s m args below meth c G A nL cs sl Q (pc + 1) lv (.long (f i.toNatClampNeg) :: st) w) : Gq p l e R s m args below meth c G A nL cs sl Q pc lv (.int i :: .ref a :: st) w :=
  go_laload C hd q0 ha (tgd_e h).1 (kk (tgd_e h).2)
theorem go_iastore (C : Cx p e s m args meth c G own cc nL ret A) {a n : Nat} {f : Nat → Int32} {i : Int32} {x : Int32} {w' : va_W} (hd : decode cc pc = .ok (.iastore, 1)) (q0 : Nat) (ha : w[q0]? = some (a, .inl (gI G, n, .inl f))) (hi : tin i n = true) (hw : w.set q0 (a, .inl (gI G, n, .inl (upd f i.toNatClampNeg x))) = w') (kk : Gq p l e R s m args below meth c G A nL cs sl Q (pc + 1) lv st w') : Gq p l e R s m args below meth c G A nL cs sl Q pc lv (.int x :: .int i :: .ref a :: st) w := by
  subst hw
  exact fun H locs ls hP hD hS h => va_iast C.1 C.2.1 C.2.2.2.2.2.1.1 hP hD hS q0 1 ha rfl (tin_e hi) hd (fun H1 locs1 hP hD hS => kk H1 locs1 ls hP hD hS h)
theorem go_iastoreG (C : Cx p e s m args meth c G own cc nL ret A) {β : Type} {r : β} {t : Option β} {a n : Nat} {f : Nat → Int32} {i : Int32} {x : Int32} {w' : va_W} (h : tgd (tin i n) t = some r) (hd : decode cc pc = .ok (.iastore, 1)) (q0 : Nat) (ha : w[q0]? = some (a, .inl (gI G, n, .inl f))) (hw : w.set q0 (a, .inl (gI G, n, .inl (upd f i.toNatClampNeg x))) = w') (kk : t = some r → Gq p l e R s m args below meth c G A nL cs sl Q (pc + 1) lv st w') : Gq p l e R s m args below meth c G A nL cs sl Q pc lv (.int x :: .int i :: .ref a :: st) w :=
  go_iastore C hd q0 ha (tgd_e h).1 hw (kk (tgd_e h).2)
theorem go_castore (C : Cx p e s m args meth c G own cc nL ret A) {a n : Nat} {f : Nat → Int32} {i : Int32} {x : Int32} {w' : va_W} (hd : decode cc pc = .ok (.castore, 1)) (q0 : Nat) (ha : w[q0]? = some (a, .inl (gC G, n, .inl f))) (hi : tin i n = true) (hw : w.set q0 (a, .inl (gC G, n, .inl (upd f i.toNatClampNeg (vp_nar .char x)))) = w') (kk : Gq p l e R s m args below meth c G A nL cs sl Q (pc + 1) lv st w') : Gq p l e R s m args below meth c G A nL cs sl Q pc lv (.int x :: .int i :: .ref a :: st) w := by
  subst hw
  exact fun H locs ls hP hD hS h => va_cast C.1 C.2.1 C.2.2.2.2.2.1.1 hP hD hS q0 0 ha rfl (tin_e hi) hd (fun H1 locs1 hP hD hS => kk H1 locs1 ls hP hD hS h)
theorem go_castoreG (C : Cx p e s m args meth c G own cc nL ret A) {β : Type} {r : β} {t : Option β} {a n : Nat} {f : Nat → Int32} {i : Int32} {x : Int32} {w' : va_W} (h : tgd (tin i n) t = some r) (hd : decode cc pc = .ok (.castore, 1)) (q0 : Nat) (ha : w[q0]? = some (a, .inl (gC G, n, .inl f))) (hw : w.set q0 (a, .inl (gC G, n, .inl (upd f i.toNatClampNeg (vp_nar .char x)))) = w') (kk : t = some r → Gq p l e R s m args below meth c G A nL cs sl Q (pc + 1) lv st w') : Gq p l e R s m args below meth c G A nL cs sl Q pc lv (.int x :: .int i :: .ref a :: st) w :=
  go_castore C hd q0 ha (tgd_e h).1 hw (kk (tgd_e h).2)
theorem go_zastore (C : Cx p e s m args meth c G own cc nL ret A) {a n : Nat} {f : Nat → Int32} {i : Int32} {x : Int32} {w' : va_W} (hd : decode cc pc = .ok (.bastore, 1)) (q0 : Nat) (ha : w[q0]? = some (a, .inl (gZ G, n, .inl f))) (hi : tin i n = true) (hw : w.set q0 (a, .inl (gZ G, n, .inl (upd f i.toNatClampNeg (vp_nar .boolean x)))) = w') (kk : Gq p l e R s m args below meth c G A nL cs sl Q (pc + 1) lv st w') : Gq p l e R s m args below meth c G A nL cs sl Q pc lv (.int x :: .int i :: .ref a :: st) w := by
  subst hw
  exact fun H locs ls hP hD hS h => va_zast C.1 C.2.1 C.2.2.2.2.2.1.1 hP hD hS q0 3 ha rfl (tin_e hi) hd (fun H1 locs1 hP hD hS => kk H1 locs1 ls hP hD hS h)
theorem go_zastoreG (C : Cx p e s m args meth c G own cc nL ret A) {β : Type} {r : β} {t : Option β} {a n : Nat} {f : Nat → Int32} {i : Int32} {x : Int32} {w' : va_W} (h : tgd (tin i n) t = some r) (hd : decode cc pc = .ok (.bastore, 1)) (q0 : Nat) (ha : w[q0]? = some (a, .inl (gZ G, n, .inl f))) (hw : w.set q0 (a, .inl (gZ G, n, .inl (upd f i.toNatClampNeg (vp_nar .boolean x)))) = w') (kk : t = some r → Gq p l e R s m args below meth c G A nL cs sl Q (pc + 1) lv st w') : Gq p l e R s m args below meth c G A nL cs sl Q pc lv (.int x :: .int i :: .ref a :: st) w :=
  go_zastore C hd q0 ha (tgd_e h).1 hw (kk (tgd_e h).2)
theorem go_lastore (C : Cx p e s m args meth c G own cc nL ret A) {a n : Nat} {f : Nat → Int64} {i : Int32} {x : Int64} {w' : va_W} (hd : decode cc pc = .ok (.lastore, 1)) (q0 : Nat) (ha : w[q0]? = some (a, .inl (gJ G, n, .inr (.inl f)))) (hi : tin i n = true) (hw : w.set q0 (a, .inl (gJ G, n, .inr (.inl (vp_updL f i.toNatClampNeg x)))) = w') (kk : Gq p l e R s m args below meth c G A nL cs sl Q (pc + 1) lv st w') : Gq p l e R s m args below meth c G A nL cs sl Q pc lv (.long x :: .int i :: .ref a :: st) w := by
  subst hw
  exact fun H locs ls hP hD hS h => va_last C.1 C.2.1 C.2.2.2.2.2.1.1 hP hD hS q0 2 ha rfl (tin_e hi) hd (fun H1 locs1 hP hD hS => kk H1 locs1 ls hP hD hS h)
theorem go_lastoreG (C : Cx p e s m args meth c G own cc nL ret A) {β : Type} {r : β} {t : Option β} {a n : Nat} {f : Nat → Int64} {i : Int32} {x : Int64} {w' : va_W} (h : tgd (tin i n) t = some r) (hd : decode cc pc = .ok (.lastore, 1)) (q0 : Nat) (ha : w[q0]? = some (a, .inl (gJ G, n, .inr (.inl f)))) (hw : w.set q0 (a, .inl (gJ G, n, .inr (.inl (vp_updL f i.toNatClampNeg x)))) = w') (kk : t = some r → Gq p l e R s m args below meth c G A nL cs sl Q (pc + 1) lv st w') : Gq p l e R s m args below meth c G A nL cs sl Q pc lv (.long x :: .int i :: .ref a :: st) w :=
  go_lastore C hd q0 ha (tgd_e h).1 hw (kk (tgd_e h).2)
theorem go_iret (C : Cx p e s m args meth c G own cc nL (some .int) A) {x : Int32} {r : Option Value} {w' : va_W} (hd : decode cc pc = .ok (.ireturn, 1)) (hr : r = some (.int x)) (hw : w = w') : Gq p l e R s m args below meth c G A nL cs sl (MQ below (QK G r w' A) args s cs sl A) pc lv [.int x] w := by
  subst hr; subst hw
  have hlocks := C.2.2.2.2.2.2.2.2
  exact fun H locs ls hP hD hS h => W.iret C.1 C.2.1 C.2.2.2.2.2.2.2.1 (fun t ht hW => ⟨⟨rfl, by rw [ht]; exact hP, hD⟩, hS.F ht⟩) hS.2.2 hd
theorem go_lret (C : Cx p e s m args meth c G own cc nL (some .long) A) {x : Int64} {r : Option Value} {w' : va_W} (hd : decode cc pc = .ok (.lreturn, 1)) (hr : r = some (.long x)) (hw : w = w') : Gq p l e R s m args below meth c G A nL cs sl (MQ below (QK G r w' A) args s cs sl A) pc lv [.long x] w := by
  subst hr; subst hw
  have hlocks := C.2.2.2.2.2.2.2.2
  exact fun H locs ls hP hD hS h => W.lret C.1 C.2.1 C.2.2.2.2.2.2.2.1 (fun t ht hW => ⟨⟨rfl, by rw [ht]; exact hP, hD⟩, hS.F ht⟩) hS.2.2 hd
theorem go_zret (C : Cx p e s m args meth c G own cc nL (some .boolean) A) {x : Int32} {r : Option Value} {w' : va_W} (hd : decode cc pc = .ok (.ireturn, 1)) (hx : tbl x = true) (hr : r = some (.int x)) (hw : w = w') : Gq p l e R s m args below meth c G A nL cs sl (MQ below (QK G r w' A) args s cs sl A) pc lv [.int x] w := by
  subst hr; subst hw
  have hlocks := C.2.2.2.2.2.2.2.2
  have hn : narrow .boolean (.int x) = .int x := by
    rcases of_decide_eq_true hx with rfl | rfl <;> rfl
  exact fun H locs ls hP hD hS h => W.zret C.1 C.2.1 C.2.2.2.2.2.2.2.1 hn (fun t ht hW => ⟨⟨rfl, by rw [ht]; exact hP, hD⟩, hS.F ht⟩) hS.2.2 hd
theorem go_cret (C : Cx p e s m args meth c G own cc nL (some .char) A) {x : Int32} {r : Option Value} {w' : va_W} (hd : decode cc pc = .ok (.ireturn, 1)) (hx : tch x = true) (hr : r = some (.int x)) (hw : w = w') : Gq p l e R s m args below meth c G A nL cs sl (MQ below (QK G r w' A) args s cs sl A) pc lv [.int x] w := by
  subst hr; subst hw
  have hlocks := C.2.2.2.2.2.2.2.2
  exact fun H locs ls hP hD hS h => W.zret C.1 C.2.1 C.2.2.2.2.2.2.2.1 (of_decide_eq_true hx) (fun t ht hW => ⟨⟨rfl, by rw [ht]; exact hP, hD⟩, hS.F ht⟩) hS.2.2 hd
theorem go_vret (C : Cx p e s m args meth c G own cc nL none A) {r : Option Value} {w' : va_W} (hd : decode cc pc = .ok (.return_, 1)) (hr : r = none) (hw : w = w') : Gq p l e R s m args below meth c G A nL cs sl (MQ below (QK G r w' A) args s cs sl A) pc lv [] w := by
  subst hr; subst hw
  have hlocks := C.2.2.2.2.2.2.2.2
  exact fun H locs ls hP hD hS h => W.vret C.1 C.2.1 C.2.2.2.2.2.2.2.1 (fun t ht hW => ⟨⟨rfl, by rw [ht]; exact hP, hD⟩, hS.F ht⟩) hS.2.2 hd
theorem go_aret {cn : String} (C : Cx p e s m args meth c G own cc nL (some (.object cn)) A) {a : Nat} {r : Option Value} {w' : va_W} (hd : decode cc pc = .ok (.areturn, 1)) (hr : r = some (.ref a)) (hw : w = w') : Gq p l e R s m args below meth c G A nL cs sl (MQ below (QK G r w' A) args s cs sl A) pc lv [.ref a] w := by
  subst hr; subst hw
  have hlocks := C.2.2.2.2.2.2.2.2
  exact fun H locs ls hP hD hS h => W.aret C.1 C.2.1 C.2.2.2.2.2.2.2.1 (Or.inl ⟨_, rfl⟩) (Or.inr ⟨_, rfl⟩) (fun t ht hW => ⟨⟨rfl, by rw [ht]; exact hP, hD⟩, hS.F ht⟩) hS.2.2 hd
theorem go_mmin (C : Cx p e s m args meth c G own cc nL ret A) {index : Nat} {x y : Int32} (F : Cond.methodLink own index Lib.Math.min.name ∈ wsL_law ∧ Cond.static Lib.Math.min.name ∈ wsL_law ∧ Cond.initialized "java/lang/Math" ∈ wsL_law ∧ Cond.code Lib.Math.min.name Lib.Math.min.code 2 (some .int) ∈ wsL_law) (hd : decode cc pc = .ok (.invokestatic index, 3)) (hf : 1 ≤ R.frames) (hlo : (st.map fun v => v.category).sum + 13 ≤ R.locals) (hc : cs ≤ R.cells) (hs : sl ≤ R.slots) (kk : Gq p l e R s m args below meth c G A nL cs sl Q (pc + 3) lv (.int (imin x y) :: st) w) : Gq p l e R s m args below meth c G A nL cs sl Q pc lv (.int y :: .int x :: st) w :=
  fun H locs ls hP hD hS h => va_mmin C.1 C.2.1 (by rw [C.2.2.1]; exact h.1.symm) C.2.2.2.1 (C.2.2.2.2.1 _ F.1) (C.2.2.2.2.1 _ F.2.1) (C.2.2.2.2.1 _ F.2.2.1) (C.2.2.2.2.1 _ F.2.2.2) hf hlo hc hs hd (kk H locs ls hP hD hS h)
theorem go_mmax (C : Cx p e s m args meth c G own cc nL ret A) {index : Nat} {x y : Int32} (F : Cond.methodLink own index Lib.Math.max.name ∈ wsL_law ∧ Cond.static Lib.Math.max.name ∈ wsL_law ∧ Cond.initialized "java/lang/Math" ∈ wsL_law ∧ Cond.code Lib.Math.max.name Lib.Math.max.code 2 (some .int) ∈ wsL_law) (hd : decode cc pc = .ok (.invokestatic index, 3)) (hf : 1 ≤ R.frames) (hlo : (st.map fun v => v.category).sum + 13 ≤ R.locals) (hc : cs ≤ R.cells) (hs : sl ≤ R.slots) (kk : Gq p l e R s m args below meth c G A nL cs sl Q (pc + 3) lv (.int (imax x y) :: st) w) : Gq p l e R s m args below meth c G A nL cs sl Q pc lv (.int y :: .int x :: st) w :=
  fun H locs ls hP hD hS h => va_mmax C.1 C.2.1 (by rw [C.2.2.1]; exact h.1.symm) C.2.2.2.1 (C.2.2.2.2.1 _ F.1) (C.2.2.2.2.1 _ F.2.1) (C.2.2.2.2.1 _ F.2.2.1) (C.2.2.2.2.1 _ F.2.2.2) hf hlo hc hs hd (kk H locs ls hP hD hS h)
theorem go_mabs (C : Cx p e s m args meth c G own cc nL ret A) {index : Nat} {x : Int32} (F : Cond.methodLink own index Lib.Math.abs.name ∈ wsL_law ∧ Cond.static Lib.Math.abs.name ∈ wsL_law ∧ Cond.initialized "java/lang/Math" ∈ wsL_law ∧ Cond.code Lib.Math.abs.name Lib.Math.abs.code 1 (some .int) ∈ wsL_law) (hd : decode cc pc = .ok (.invokestatic index, 3)) (hf : 1 ≤ R.frames) (hlo : (st.map fun v => v.category).sum + 13 ≤ R.locals) (hc : cs ≤ R.cells) (hs : sl ≤ R.slots) (kk : Gq p l e R s m args below meth c G A nL cs sl Q (pc + 3) lv (.int (iabs x) :: st) w) : Gq p l e R s m args below meth c G A nL cs sl Q pc lv (.int x :: st) w :=
  fun H locs ls hP hD hS h => va_mabs C.1 C.2.1 (by rw [C.2.2.1]; exact h.1.symm) C.2.2.2.1 (C.2.2.2.2.1 _ F.1) (C.2.2.2.2.1 _ F.2.1) (C.2.2.2.2.1 _ F.2.2.1) (C.2.2.2.2.1 _ F.2.2.2) hf hlo hc hs hd (kk H locs ls hP hD hS h)
theorem go_copyi (C : Cx p e s m args meth c G own cc nL ret A) {index : Nat} {a a0 n n0 n1 : Nat} {f g : Nat → Int32} {i : Int32} {w' : va_W} (F : Cond.methodLink own index arraycopyName ∈ wsL_law ∧ Cond.native arraycopyName ∈ wsL_law ∧ Cond.static arraycopyName ∈ wsL_law ∧ Cond.initialized "java/lang/System" ∈ wsL_law) (hd : decode cc pc = .ok (.invokestatic index, 3)) (q0 q1 : Nat) (ha0 : w[q0]? = some (a0, .inl (gI G, n0, .inl f))) (ha1 : w[q1]? = some (a, .inl (gI G, n1, .inl g))) (hi : ¬ i < 0 ∧ i.toNatClampNeg = n ∧ n ≤ n0 ∧ n ≤ n1) (hf : 1 ≤ R.frames) (hlo : (st.map fun v => v.category).sum + (nativeFrameWords "java/lang/System" "arraycopy" 5 + 11) ≤ R.locals) (hw : w.set q1 (a, .inl (gI G, n1, .inl (va_cpy f g 0 0 n))) = w') (kk : Gq p l e R s m args below meth c G A nL cs sl Q (pc + 3) lv st w') : Gq p l e R s m args below meth c G A nL cs sl Q pc lv (.int i :: .int 0 :: .ref a :: .int 0 :: .ref a0 :: st) w := by
  obtain ⟨h1, h2, h3, h4⟩ := hi
  subst h2; subst hw
  exact fun H locs ls hP hD hS h => va_copyi C.1 C.2.1 (by rw [C.2.2.1]; exact h.1.symm) C.2.2.2.1 (C.2.2.2.2.1 _ F.1) (C.2.2.2.2.1 _ F.2.1) (C.2.2.2.2.1 _ F.2.2.1) (C.2.2.2.2.1 _ F.2.2.2) C.2.2.2.2.2.1.1 hP hD hS q0 q1 1 1 ha0 ha1 rfl rfl rfl (by decide) (by decide) h1 (by show 0 + _ ≤ _; omega) (by show 0 + _ ≤ _; omega) (fun _ _ => rfl) hf hlo hd (fun H1 locs1 hP hD hS => kk H1 locs1 ls hP hD hS h)
end
end
section
/-! calls: by contract, the rest of the world beside it -/
def CfB (own : String) (idx : Nat) (y : MethodName) (cy : ByteArray) (ny : Nat) (rt : Option FieldType) (np : Nat) : Prop :=
  Cond.methodLink own idx y ∈ wsL_law ∧ Cond.initialized y.cls ∈ wsL_law ∧ Cond.code y cy ny rt ∈ wsL_law ∧ (y.cls ≠ "java/lang/invoke/MethodHandle" ∧ y.cls ≠ "java/lang/invoke/VarHandle" ∧ (parseMethodDescriptor y.desc).map (fun d => d.parameters.length) = some np)
def CfN (own : String) (idx : Nat) (y : MethodName) (cy : ByteArray) (ny : Nat) (rt : Option FieldType) (np : Nat) : Prop :=
  (own, idx, y) ∈ nwl ∧ Cond.initialized y.cls ∈ wsL_law ∧ Cond.code y cy ny rt ∈ wsL_law ∧ (y.cls ≠ "java/lang/invoke/MethodHandle" ∧ y.cls ≠ "java/lang/invoke/VarHandle" ∧ (parseMethodDescriptor y.desc).map (fun d => d.parameters.length) = some np)
section
variable {p : Program} {l : Launch} {e : Env} {R : Room} {s : State} {m : MethodId} {args : Array Value} {below : List Frame} {meth : Method} {c : Code} {G : gG} {A : Nat → Prop} {own : String} {cc : ByteArray} {nL cs sl : Nat} {ret : Option FieldType} {Q : State → Prop} {pc : Nat} {lv : List (Nat × Value)} {st st0 : List Value} {w : va_W}
  {y : MethodName} {cy : ByteArray} {ny : Nat} {rt : Option FieldType} {np fr lo idx : Nat} {av : List Value} {wc w1 wr w' : va_W} {v : Option Value}
/-- behind a call that meets a contract: any part of the world is the callee's, the rest stays; isW: the order in which the world goes on -/
theorem go_run (C : Cx p e s m args meth c G own cc nL ret A) {a : Array Value} (isC isR isW : List Nat) (hC : isC.map (fun i => w[i]?) = wc.map some) (hR : isR.map (fun i => w[i]?) = wr.map some) (hn : (va_nd isC && va_nd isR && va_nd isW && isR.all (fun i => !(isC.contains i))) = true) (hW : isW.map (fun i => (wr ++ w1)[i]?) = w'.map some)
    (hr : ∀ (H : Heap) (locs : List Loc) (ls : Array Slot), va_P G.1 vwCl w H → lv_has ls nL lv → va_P G.1 vwCl wc H → va_D (fun _ => True) wc → va_Run p l e R s m args below meth c H locs cs sl 0 0 (F0 m pc ls st0) st (QK G v w1 (va_A wc H.size) a) (va_A wc H.size))
    (kk : Gq p l e R s m args below meth c G A nL cs sl Q (pc + 3) lv (v.toList ++ st) w') : Gq p l e R s m args below meth c G A nL cs sl Q pc lv st0 w := by
  intro H locs ls hP hD hS hl
  simp only [Bool.and_eq_true, List.all_eq_true, Bool.not_eq_true', List.contains_eq_mem, decide_eq_false_iff_not] at hn
  obtain ⟨⟨⟨n1, n2⟩, n3⟩, n4⟩ := hn
  have hPc := hP.sub (ws' := wc) isC (fm_of hC)
  have hDc := hD.sub (ws' := wc) isC n1 hC
  have hFc := va_free (wc := wc) hD hS C.2.2.2.2.2.2.1 isC hC
  intro T hT X
  obtain ⟨v', st₀, t, T', L, h0, X', hL, e1, e2, ⟨⟨hv, hP1, hD1⟩, hz, hk⟩, stp⟩ := hr H locs ls hP hl hPc (hDc.weaken (fun _ _ _ _ => trivial)) T hT X
  cases hv
  rw [h0] at hz hk
  obtain ⟨hP2, hD2⟩ := va_join hP hD isC isR hC hR n2 n4 hk hFc hP1 hD1
  rw [← e1] at hP2 hz hk
  have hS2 : va_S A s.heap T'.heap (locs ++ L) := ⟨Nat.le_trans hS.1 hz, fun q h1 h2 => by rw [hk q (Nat.lt_of_lt_of_le h1 hS.1) (fun z => h2 (hFc q z))]; exact hS.2.1 q h1 h2, fun q hq => by
      rcases List.mem_append.mp hq with h | h
      · exact hS.2.2 q h
      · exact hFc _ (hL q h)⟩
  obtain ⟨t2, a1, b1⟩ := kk T'.heap (locs ++ L) ls (hP2.sub isW (fm_of hW)) (hD2.sub isW n3 hW) hS2 hl T' rfl X'
  exact ⟨t2, stp t2 a1, b1⟩
/-- a call that needs no cell -/
theorem go_run0 {a : Array Value}
    (hr : ∀ (H : Heap) (locs : List Loc) (ls : Array Slot), lv_has ls nL lv → va_Run p l e R s m args below meth c H locs cs sl 0 0 (F0 m pc ls st0) st (QK G v [] (va_A [] H.size) a) (va_A [] H.size)) (C : Cx p e s m args meth c G own cc nL ret A)
    (kk : Gq p l e R s m args below meth c G A nL cs sl Q (pc + 3) lv (v.toList ++ st) w) : Gq p l e R s m args below meth c G A nL cs sl Q pc lv st0 w := by
  intro H locs ls hP hD hS hl T hT X
  obtain ⟨v', st₀, t, T', L, h0, X', hL, e1, e2, ⟨⟨hv, hP1, hD1⟩, hz, hk⟩, stp⟩ := hr H locs ls hl T hT X
  cases hv
  rw [h0] at hz hk
  rw [← e1] at hz hk
  have hno : ∀ q, q < H.size → ¬ va_A [] H.size q := by
    intro q hq h
    rcases h with ⟨k, x, h⟩ | h
    · simp at h
    · omega
  have hkeep : ∀ q, q < H.size → T'.heap[q]? = H[q]? := fun q hq => hk q hq (hno q hq)
  have hge : ∀ q, va_A [] H.size q → A q := by
    intro q h
    rcases h with ⟨k, x, h⟩ | h
    · simp at h
    · exact C.2.2.2.2.2.2.1 q (Nat.le_trans hS.1 h)
  have hP2 : va_P G.1 vwCl w T'.heap := hP.kept (fun k q hq => hkeep q.1 ((hP k q hq).lt))
  have hS2 : va_S A s.heap T'.heap (locs ++ L) := ⟨Nat.le_trans hS.1 hz, fun q h1 h2 => by rw [hkeep q (Nat.lt_of_lt_of_le h1 hS.1)]; exact hS.2.1 q h1 h2, fun q hq => by
      rcases List.mem_append.mp hq with h | h
      · exact hS.2.2 q h
      · exact hge _ (hL q h)⟩
  obtain ⟨t2, a1, b1⟩ := kk T'.heap (locs ++ L) ls hP2 hD hS2 hl T' rfl X'
  exact ⟨t2, stp t2 a1, b1⟩
theorem cfB_run (C : Cx p e s m args meth c G own cc nL ret A) (F : CfB own idx y cy ny rt np) (hR : fr + 1 ≤ R.frames ∧ 8 + (ny + 11) + lo ≤ R.locals) : CallB R s args own idx y cy ny rt (wq y cy ny rt) (rq fr lo) 0 0 np :=
  callB_of np C.2.2.2.2.1 (wq_in F.2.2.1) rfl rfl rfl (C.2.2.2.2.1 _ F.2.1) (C.2.2.2.2.1 _ F.1) F.2.2.2 hR
theorem cfN_run (C : Cx p e s m args meth c G own cc nL ret A) (F : CfN own idx y cy ny rt np) (hR : fr + 1 ≤ R.frames ∧ 8 + (ny + 11) + lo ≤ R.locals) : va_CN R s args own idx y RX9 cy ny rt (wq y cy ny rt) (rq fr lo) 0 0 np :=
  va_cnB np C.2.2.2.2.1 (wq_in F.2.2.1) rfl rfl rfl (C.2.2.2.2.2.1.2.1 _ F.1) (C.2.2.2.2.1 _ F.2.1) F.2.2.2 hR
/-- a static method, no cell -/
theorem go_callS0 (C : Cx p e s m args meth c G own cc nL ret A) (F : CfB own idx y cy ny rt np) (hs : Cond.static y ∈ wsL_law) (K : KK l G y cy ny rt fr lo av [] v []) (hd : decode cc pc = .ok (.invokestatic idx, 3)) (hR : fr + 1 ≤ R.frames ∧ 8 + (ny + 11) + lo ≤ R.locals) (hc : cs ≤ R.cells ∧ sl ≤ R.slots) (ha : av.length = np) (hst : st0 = av.reverse ++ st) (hro : (st.map fun v => v.category).sum ≤ 8)
    (kk : Gq p l e R s m args below meth c G A nL cs sl Q (pc + 3) lv (v.toList ++ st) w) : Gq p l e R s m args below meth c G A nL cs sl Q pc lv st0 w :=
  go_run0 (fun H locs ls hl => va_runS ⟨C.1, C.2.1, C.2.2.1, C.2.2.2.1, C.2.2.2.2.1⟩ (K H.size) ⟨cfB_run C F hR, C.2.2.2.2.1 _ hs⟩ ⟨Pk_blind, fun U hU hW => ⟨rfl, by rw [hU], fun k q h => by simp at h, C.2.2.2.2.2.1.warm hW, ⟨fun i j x y h => by simp at h, fun k q h => by simp at h⟩⟩⟩ rfl ha hl.1 hst (lv_room hro) hd hc) C kk
theorem go_callSN0 (C : Cx p e s m args meth c G own cc nL ret A) (F : CfN own idx y cy ny rt np) (hs : Cond.static y ∈ wsL_law) (K : KK l G y cy ny rt fr lo av [] v []) (hd : decode cc pc = .ok (.invokestatic idx, 3)) (hR : fr + 1 ≤ R.frames ∧ 8 + (ny + 11) + lo ≤ R.locals) (hc : cs ≤ R.cells ∧ sl ≤ R.slots) (ha : av.length = np) (hst : st0 = av.reverse ++ st) (hro : (st.map fun v => v.category).sum ≤ 8)
    (kk : Gq p l e R s m args below meth c G A nL cs sl Q (pc + 3) lv (v.toList ++ st) w) : Gq p l e R s m args below meth c G A nL cs sl Q pc lv st0 w :=
  go_run0 (fun H locs ls hl => va_runSN ⟨C.1, C.2.1, C.2.2.1, C.2.2.2.1, C.2.2.2.2.1⟩ (K H.size) ⟨cfN_run C F hR, C.2.2.2.2.1 _ hs, trivial⟩ ⟨Pk_blind, fun U hU hW => ⟨rfl, by rw [hU], fun k q h => by simp at h, C.2.2.2.2.2.1.warm hW, ⟨fun i j x y h => by simp at h, fun k q h => by simp at h⟩⟩⟩ rfl ha hl.1 hst (lv_room hro) hd hc) C kk
/-- a static method over some cells -/
theorem go_callS (C : Cx p e s m args meth c G own cc nL ret A) (F : CfB own idx y cy ny rt np) (hs : Cond.static y ∈ wsL_law) (K : KK l G y cy ny rt fr lo av wc v w1) (hd : decode cc pc = .ok (.invokestatic idx, 3)) (hR : fr + 1 ≤ R.frames ∧ 8 + (ny + 11) + lo ≤ R.locals) (hc : cs ≤ R.cells ∧ sl ≤ R.slots) (ha : av.length = np) (hst : st0 = av.reverse ++ st) (hro : (st.map fun v => v.category).sum ≤ 8)
    (isC isR isW : List Nat) (hC : isC.map (fun i => w[i]?) = wc.map some) (hRr : isR.map (fun i => w[i]?) = wr.map some) (hn : (va_nd isC && va_nd isR && va_nd isW && isR.all (fun i => !(isC.contains i))) = true) (hW : isW.map (fun i => (wr ++ w1)[i]?) = w'.map some)
    (kk : Gq p l e R s m args below meth c G A nL cs sl Q (pc + 3) lv (v.toList ++ st) w') : Gq p l e R s m args below meth c G A nL cs sl Q pc lv st0 w :=
  go_run C isC isR isW hC hRr hn hW (fun H locs ls hP hl hPc hDc => va_runS ⟨C.1, C.2.1, C.2.2.1, C.2.2.2.1, C.2.2.2.2.1⟩ (K H.size) ⟨cfB_run C F hR, C.2.2.2.2.1 _ hs⟩ ⟨Pk_blind, fun U hU hW => ⟨rfl, by rw [hU], by rw [hU]; exact hPc, C.2.2.2.2.2.1.warm hW, hDc⟩⟩ rfl ha hl.1 hst (lv_room hro) hd hc) kk
/-- a method of an object -/
theorem go_callV (C : Cx p e s m args meth c G own cc nL ret A) (F : CfB own idx y cy ny rt np) {b ci q0 : Nat} {fs : List Value} {Cn : String} {T : u_T} {N : Nat} (hi : Cond.instanceMethod y ∈ wsL_law ∧ Cond.selects Cn y y ∈ wsL_law ∧ vwCl[ci]? = some (Cn, T, N)) (K : KK l G y cy ny rt fr lo (.ref b :: av) wc v w1) (hd : decode cc pc = .ok (.invokevirtual idx, 3)) (hR : fr + 1 ≤ R.frames ∧ 8 + (ny + 11) + lo ≤ R.locals) (hc : cs ≤ R.cells ∧ sl ≤ R.slots) (ha : av.length = np) (hst : st0 = av.reverse ++ .ref b :: st) (hro : (st.map fun v => v.category).sum ≤ 8) (hq : w[q0]? = some (b, .inr (ci, fs)))
    (isC isR isW : List Nat) (hC : isC.map (fun i => w[i]?) = wc.map some) (hRr : isR.map (fun i => w[i]?) = wr.map some) (hn : (va_nd isC && va_nd isR && va_nd isW && isR.all (fun i => !(isC.contains i))) = true) (hW : isW.map (fun i => (wr ++ w1)[i]?) = w'.map some)
    (kk : Gq p l e R s m args below meth c G A nL cs sl Q (pc + 3) lv (v.toList ++ st) w') : Gq p l e R s m args below meth c G A nL cs sl Q pc lv st0 w :=
  go_run C isC isR isW hC hRr hn hW (fun H locs ls hP hl hPc hDc => va_runV ⟨C.1, C.2.1, C.2.2.1, C.2.2.2.1, C.2.2.2.2.1⟩ (K H.size) ⟨cfB_run C F hR, C.2.2.2.2.1 _ hi.1, C.2.2.2.2.1 _ hi.2.1⟩ ⟨Pk_blind, va_recv C.2.2.2.2.2.1.1 hP hi.2.2 hq, fun U hU hW => ⟨rfl, by rw [hU], by rw [hU]; exact hPc, C.2.2.2.2.2.1.warm hW, hDc⟩⟩ rfl ha hl.1 hst (lv_room hro) hd hc) kk
end
end
section
theorem wr1 : ∀ w ∈ wsL_law_r1, w ∈ wsL_law := fun _ h => (List.mem_append_left _ (List.mem_append_left _ (List.mem_append_left _ (List.mem_append_left _ (List.mem_append_left _ (List.mem_append_left _ (List.mem_append_left _ (List.mem_append_left _ (List.mem_append_left _ (List.mem_append_left _ (List.mem_append_left _ (List.mem_append_left _ h))))))))))))
theorem wr2 : ∀ w ∈ wsL_law_r2, w ∈ wsL_law := fun _ h => (List.mem_append_left _ (List.mem_append_left _ (List.mem_append_left _ (List.mem_append_left _ (List.mem_append_left _ (List.mem_append_left _ (List.mem_append_left _ (List.mem_append_left _ (List.mem_append_left _ (List.mem_append_left _ (List.mem_append_left _ (List.mem_append_right _ (List.mem_append_left _ h)))))))))))))
theorem wr3 : ∀ w ∈ wsL_law_r3, w ∈ wsL_law := fun _ h => (List.mem_append_left _ (List.mem_append_left _ (List.mem_append_left _ (List.mem_append_left _ (List.mem_append_left _ (List.mem_append_left _ (List.mem_append_left _ (List.mem_append_left _ (List.mem_append_left _ (List.mem_append_left _ (List.mem_append_left _ (List.mem_append_right _ (List.mem_append_right _ (List.mem_append_left _ h))))))))))))))
theorem wr4 : ∀ w ∈ wsL_law_r4, w ∈ wsL_law := fun _ h => (List.mem_append_left _ (List.mem_append_left _ (List.mem_append_left _ (List.mem_append_left _ (List.mem_append_left _ (List.mem_append_left _ (List.mem_append_left _ (List.mem_append_left _ (List.mem_append_left _ (List.mem_append_left _ (List.mem_append_left _ (List.mem_append_right _ (List.mem_append_right _ (List.mem_append_right _ (List.mem_append_left _ h)))))))))))))))
theorem wr5 : ∀ w ∈ wsL_law_r5, w ∈ wsL_law := fun _ h => (List.mem_append_left _ (List.mem_append_left _ (List.mem_append_left _ (List.mem_append_left _ (List.mem_append_left _ (List.mem_append_left _ (List.mem_append_left _ (List.mem_append_left _ (List.mem_append_left _ (List.mem_append_left _ (List.mem_append_left _ (List.mem_append_right _ (List.mem_append_right _ (List.mem_append_right _ (List.mem_append_right _ (List.mem_append_left _ h))))))))))))))))
theorem wr6 : ∀ w ∈ wsL_law_r6, w ∈ wsL_law := fun _ h => (List.mem_append_left _ (List.mem_append_left _ (List.mem_append_left _ (List.mem_append_left _ (List.mem_append_left _ (List.mem_append_left _ (List.mem_append_left _ (List.mem_append_left _ (List.mem_append_left _ (List.mem_append_left _ (List.mem_append_left _ (List.mem_append_right _ (List.mem_append_right _ (List.mem_append_right _ (List.mem_append_right _ (List.mem_append_right _ (List.mem_append_left _ h)))))))))))))))))
theorem wr7 : ∀ w ∈ wsL_law_r7, w ∈ wsL_law := fun _ h => (List.mem_append_left _ (List.mem_append_left _ (List.mem_append_left _ (List.mem_append_left _ (List.mem_append_left _ (List.mem_append_left _ (List.mem_append_left _ (List.mem_append_left _ (List.mem_append_left _ (List.mem_append_left _ (List.mem_append_left _ (List.mem_append_right _ (List.mem_append_right _ (List.mem_append_right _ (List.mem_append_right _ (List.mem_append_right _ (List.mem_append_right _ (List.mem_append_left _ h))))))))))))))))))
theorem wr8 : ∀ w ∈ wsL_law_r8, w ∈ wsL_law := fun _ h => (List.mem_append_left _ (List.mem_append_left _ (List.mem_append_left _ (List.mem_append_left _ (List.mem_append_left _ (List.mem_append_left _ (List.mem_append_left _ (List.mem_append_left _ (List.mem_append_left _ (List.mem_append_left _ (List.mem_append_left _ (List.mem_append_right _ (List.mem_append_right _ (List.mem_append_right _ (List.mem_append_right _ (List.mem_append_right _ (List.mem_append_right _ (List.mem_append_right _ (List.mem_append_left _ h)))))))))))))))))))
theorem wr9 : ∀ w ∈ wsL_law_r9, w ∈ wsL_law := fun _ h => (List.mem_append_left _ (List.mem_append_left _ (List.mem_append_left _ (List.mem_append_left _ (List.mem_append_left _ (List.mem_append_left _ (List.mem_append_left _ (List.mem_append_left _ (List.mem_append_left _ (List.mem_append_left _ (List.mem_append_left _ (List.mem_append_right _ (List.mem_append_right _ (List.mem_append_right _ (List.mem_append_right _ (List.mem_append_right _ (List.mem_append_right _ (List.mem_append_right _ (List.mem_append_right _ (List.mem_append_left _ h))))))))))))))))))))
theorem wr10 : ∀ w ∈ wsL_law_r10, w ∈ wsL_law := fun _ h => (List.mem_append_left _ (List.mem_append_left _ (List.mem_append_left _ (List.mem_append_left _ (List.mem_append_left _ (List.mem_append_left _ (List.mem_append_left _ (List.mem_append_left _ (List.mem_append_left _ (List.mem_append_left _ (List.mem_append_left _ (List.mem_append_right _ (List.mem_append_right _ (List.mem_append_right _ (List.mem_append_right _ (List.mem_append_right _ (List.mem_append_right _ (List.mem_append_right _ (List.mem_append_right _ (List.mem_append_right _ (List.mem_append_left _ h)))))))))))))))))))))
theorem wr11 : ∀ w ∈ wsL_law_r11, w ∈ wsL_law := fun _ h => (List.mem_append_left _ (List.mem_append_left _ (List.mem_append_left _ (List.mem_append_left _ (List.mem_append_left _ (List.mem_append_left _ (List.mem_append_left _ (List.mem_append_left _ (List.mem_append_left _ (List.mem_append_left _ (List.mem_append_left _ (List.mem_append_right _ (List.mem_append_right _ (List.mem_append_right _ (List.mem_append_right _ (List.mem_append_right _ (List.mem_append_right _ (List.mem_append_right _ (List.mem_append_right _ (List.mem_append_right _ (List.mem_append_right _ (List.mem_append_left _ h))))))))))))))))))))))
theorem wr12 : ∀ w ∈ wsL_law_r12, w ∈ wsL_law := fun _ h => (List.mem_append_left _ (List.mem_append_left _ (List.mem_append_left _ (List.mem_append_left _ (List.mem_append_left _ (List.mem_append_left _ (List.mem_append_left _ (List.mem_append_left _ (List.mem_append_left _ (List.mem_append_left _ (List.mem_append_left _ (List.mem_append_right _ (List.mem_append_right _ (List.mem_append_right _ (List.mem_append_right _ (List.mem_append_right _ (List.mem_append_right _ (List.mem_append_right _ (List.mem_append_right _ (List.mem_append_right _ (List.mem_append_right _ (List.mem_append_right _ (List.mem_append_left _ h)))))))))))))))))))))))
theorem wr13 : ∀ w ∈ wsL_law_r13, w ∈ wsL_law := fun _ h => (List.mem_append_left _ (List.mem_append_left _ (List.mem_append_left _ (List.mem_append_left _ (List.mem_append_left _ (List.mem_append_left _ (List.mem_append_left _ (List.mem_append_left _ (List.mem_append_left _ (List.mem_append_left _ (List.mem_append_left _ (List.mem_append_right _ (List.mem_append_right _ (List.mem_append_right _ (List.mem_append_right _ (List.mem_append_right _ (List.mem_append_right _ (List.mem_append_right _ (List.mem_append_right _ (List.mem_append_right _ (List.mem_append_right _ (List.mem_append_right _ (List.mem_append_right _ (List.mem_append_left _ h))))))))))))))))))))))))
theorem wr14 : ∀ w ∈ wsL_law_r14, w ∈ wsL_law := fun _ h => (List.mem_append_left _ (List.mem_append_left _ (List.mem_append_left _ (List.mem_append_left _ (List.mem_append_left _ (List.mem_append_left _ (List.mem_append_left _ (List.mem_append_left _ (List.mem_append_left _ (List.mem_append_left _ (List.mem_append_left _ (List.mem_append_right _ (List.mem_append_right _ (List.mem_append_right _ (List.mem_append_right _ (List.mem_append_right _ (List.mem_append_right _ (List.mem_append_right _ (List.mem_append_right _ (List.mem_append_right _ (List.mem_append_right _ (List.mem_append_right _ (List.mem_append_right _ (List.mem_append_right _ (List.mem_append_left _ h)))))))))))))))))))))))))
theorem wr15 : ∀ w ∈ wsL_law_r15, w ∈ wsL_law := fun _ h => (List.mem_append_left _ (List.mem_append_left _ (List.mem_append_left _ (List.mem_append_left _ (List.mem_append_left _ (List.mem_append_left _ (List.mem_append_left _ (List.mem_append_left _ (List.mem_append_left _ (List.mem_append_left _ (List.mem_append_left _ (List.mem_append_right _ (List.mem_append_right _ (List.mem_append_right _ (List.mem_append_right _ (List.mem_append_right _ (List.mem_append_right _ (List.mem_append_right _ (List.mem_append_right _ (List.mem_append_right _ (List.mem_append_right _ (List.mem_append_right _ (List.mem_append_right _ (List.mem_append_right _ (List.mem_append_right _ (List.mem_append_left _ h))))))))))))))))))))))))))
theorem wr16 : ∀ w ∈ wsL_law_r16, w ∈ wsL_law := fun _ h => (List.mem_append_left _ (List.mem_append_left _ (List.mem_append_left _ (List.mem_append_left _ (List.mem_append_left _ (List.mem_append_left _ (List.mem_append_left _ (List.mem_append_left _ (List.mem_append_left _ (List.mem_append_left _ (List.mem_append_left _ (List.mem_append_right _ (List.mem_append_right _ (List.mem_append_right _ (List.mem_append_right _ (List.mem_append_right _ (List.mem_append_right _ (List.mem_append_right _ (List.mem_append_right _ (List.mem_append_right _ (List.mem_append_right _ (List.mem_append_right _ (List.mem_append_right _ (List.mem_append_right _ (List.mem_append_right _ (List.mem_append_right _ (List.mem_append_left _ h)))))))))))))))))))))))))))
theorem wr17 : ∀ w ∈ wsL_law_r17, w ∈ wsL_law := fun _ h => (List.mem_append_left _ (List.mem_append_left _ (List.mem_append_left _ (List.mem_append_left _ (List.mem_append_left _ (List.mem_append_left _ (List.mem_append_left _ (List.mem_append_left _ (List.mem_append_left _ (List.mem_append_left _ (List.mem_append_left _ (List.mem_append_right _ (List.mem_append_right _ (List.mem_append_right _ (List.mem_append_right _ (List.mem_append_right _ (List.mem_append_right _ (List.mem_append_right _ (List.mem_append_right _ (List.mem_append_right _ (List.mem_append_right _ (List.mem_append_right _ (List.mem_append_right _ (List.mem_append_right _ (List.mem_append_right _ (List.mem_append_right _ (List.mem_append_right _ (List.mem_append_left _ h))))))))))))))))))))))))))))
theorem wr18 : ∀ w ∈ wsL_law_r18, w ∈ wsL_law := fun _ h => (List.mem_append_left _ (List.mem_append_left _ (List.mem_append_left _ (List.mem_append_left _ (List.mem_append_left _ (List.mem_append_left _ (List.mem_append_left _ (List.mem_append_left _ (List.mem_append_left _ (List.mem_append_left _ (List.mem_append_left _ (List.mem_append_right _ (List.mem_append_right _ (List.mem_append_right _ (List.mem_append_right _ (List.mem_append_right _ (List.mem_append_right _ (List.mem_append_right _ (List.mem_append_right _ (List.mem_append_right _ (List.mem_append_right _ (List.mem_append_right _ (List.mem_append_right _ (List.mem_append_right _ (List.mem_append_right _ (List.mem_append_right _ (List.mem_append_right _ (List.mem_append_right _ (List.mem_append_left _ h)))))))))))))))))))))))))))))
theorem wr19 : ∀ w ∈ wsL_law_r19, w ∈ wsL_law := fun _ h => (List.mem_append_left _ (List.mem_append_left _ (List.mem_append_left _ (List.mem_append_left _ (List.mem_append_left _ (List.mem_append_left _ (List.mem_append_left _ (List.mem_append_left _ (List.mem_append_left _ (List.mem_append_left _ (List.mem_append_left _ (List.mem_append_right _ (List.mem_append_right _ (List.mem_append_right _ (List.mem_append_right _ (List.mem_append_right _ (List.mem_append_right _ (List.mem_append_right _ (List.mem_append_right _ (List.mem_append_right _ (List.mem_append_right _ (List.mem_append_right _ (List.mem_append_right _ (List.mem_append_right _ (List.mem_append_right _ (List.mem_append_right _ (List.mem_append_right _ (List.mem_append_right _ (List.mem_append_right _ (List.mem_append_left _ h))))))))))))))))))))))))))))))
theorem wr20 : ∀ w ∈ wsL_law_r20, w ∈ wsL_law := fun _ h => (List.mem_append_left _ (List.mem_append_left _ (List.mem_append_left _ (List.mem_append_left _ (List.mem_append_left _ (List.mem_append_left _ (List.mem_append_left _ (List.mem_append_left _ (List.mem_append_left _ (List.mem_append_left _ (List.mem_append_left _ (List.mem_append_right _ (List.mem_append_right _ (List.mem_append_right _ (List.mem_append_right _ (List.mem_append_right _ (List.mem_append_right _ (List.mem_append_right _ (List.mem_append_right _ (List.mem_append_right _ (List.mem_append_right _ (List.mem_append_right _ (List.mem_append_right _ (List.mem_append_right _ (List.mem_append_right _ (List.mem_append_right _ (List.mem_append_right _ (List.mem_append_right _ (List.mem_append_right _ (List.mem_append_right _ (List.mem_append_left _ h)))))))))))))))))))))))))))))))
theorem wr21 : ∀ w ∈ wsL_law_r21, w ∈ wsL_law := fun _ h => (List.mem_append_left _ (List.mem_append_left _ (List.mem_append_left _ (List.mem_append_left _ (List.mem_append_left _ (List.mem_append_left _ (List.mem_append_left _ (List.mem_append_left _ (List.mem_append_left _ (List.mem_append_left _ (List.mem_append_left _ (List.mem_append_right _ (List.mem_append_right _ (List.mem_append_right _ (List.mem_append_right _ (List.mem_append_right _ (List.mem_append_right _ (List.mem_append_right _ (List.mem_append_right _ (List.mem_append_right _ (List.mem_append_right _ (List.mem_append_right _ (List.mem_append_right _ (List.mem_append_right _ (List.mem_append_right _ (List.mem_append_right _ (List.mem_append_right _ (List.mem_append_right _ (List.mem_append_right _ (List.mem_append_right _ (List.mem_append_right _ (List.mem_append_left _ h))))))))))))))))))))))))))))))))
theorem wr22 : ∀ w ∈ wsL_law_r22, w ∈ wsL_law := fun _ h => (List.mem_append_left _ (List.mem_append_left _ (List.mem_append_left _ (List.mem_append_left _ (List.mem_append_left _ (List.mem_append_left _ (List.mem_append_left _ (List.mem_append_left _ (List.mem_append_left _ (List.mem_append_left _ (List.mem_append_left _ (List.mem_append_right _ (List.mem_append_right _ (List.mem_append_right _ (List.mem_append_right _ (List.mem_append_right _ (List.mem_append_right _ (List.mem_append_right _ (List.mem_append_right _ (List.mem_append_right _ (List.mem_append_right _ (List.mem_append_right _ (List.mem_append_right _ (List.mem_append_right _ (List.mem_append_right _ (List.mem_append_right _ (List.mem_append_right _ (List.mem_append_right _ (List.mem_append_right _ (List.mem_append_right _ (List.mem_append_right _ (List.mem_append_right _ (List.mem_append_left _ h)))))))))))))))))))))))))))))))))
theorem wr23 : ∀ w ∈ wsL_law_r23, w ∈ wsL_law := fun _ h => (List.mem_append_left _ (List.mem_append_left _ (List.mem_append_left _ (List.mem_append_left _ (List.mem_append_left _ (List.mem_append_left _ (List.mem_append_left _ (List.mem_append_left _ (List.mem_append_left _ (List.mem_append_left _ (List.mem_append_left _ (List.mem_append_right _ (List.mem_append_right _ (List.mem_append_right _ (List.mem_append_right _ (List.mem_append_right _ (List.mem_append_right _ (List.mem_append_right _ (List.mem_append_right _ (List.mem_append_right _ (List.mem_append_right _ (List.mem_append_right _ (List.mem_append_right _ (List.mem_append_right _ (List.mem_append_right _ (List.mem_append_right _ (List.mem_append_right _ (List.mem_append_right _ (List.mem_append_right _ (List.mem_append_right _ (List.mem_append_right _ (List.mem_append_right _ (List.mem_append_right _ (List.mem_append_left _ h))))))))))))))))))))))))))))))))))
theorem wr24 : ∀ w ∈ wsL_law_r24, w ∈ wsL_law := fun _ h => (List.mem_append_left _ (List.mem_append_left _ (List.mem_append_left _ (List.mem_append_left _ (List.mem_append_left _ (List.mem_append_left _ (List.mem_append_left _ (List.mem_append_left _ (List.mem_append_left _ (List.mem_append_left _ (List.mem_append_left _ (List.mem_append_right _ (List.mem_append_right _ (List.mem_append_right _ (List.mem_append_right _ (List.mem_append_right _ (List.mem_append_right _ (List.mem_append_right _ (List.mem_append_right _ (List.mem_append_right _ (List.mem_append_right _ (List.mem_append_right _ (List.mem_append_right _ (List.mem_append_right _ (List.mem_append_right _ (List.mem_append_right _ (List.mem_append_right _ (List.mem_append_right _ (List.mem_append_right _ (List.mem_append_right _ (List.mem_append_right _ (List.mem_append_right _ (List.mem_append_right _ (List.mem_append_right _ (List.mem_append_left _ h)))))))))))))))))))))))))))))))))))
theorem wr25 : ∀ w ∈ wsL_law_r25, w ∈ wsL_law := fun _ h => (List.mem_append_left _ (List.mem_append_left _ (List.mem_append_left _ (List.mem_append_left _ (List.mem_append_left _ (List.mem_append_left _ (List.mem_append_left _ (List.mem_append_left _ (List.mem_append_left _ (List.mem_append_left _ (List.mem_append_left _ (List.mem_append_right _ (List.mem_append_right _ (List.mem_append_right _ (List.mem_append_right _ (List.mem_append_right _ (List.mem_append_right _ (List.mem_append_right _ (List.mem_append_right _ (List.mem_append_right _ (List.mem_append_right _ (List.mem_append_right _ (List.mem_append_right _ (List.mem_append_right _ (List.mem_append_right _ (List.mem_append_right _ (List.mem_append_right _ (List.mem_append_right _ (List.mem_append_right _ (List.mem_append_right _ (List.mem_append_right _ (List.mem_append_right _ (List.mem_append_right _ (List.mem_append_right _ (List.mem_append_right _ (List.mem_append_left _ h))))))))))))))))))))))))))))))))))))
theorem wr26 : ∀ w ∈ wsL_law_r26, w ∈ wsL_law := fun _ h => (List.mem_append_left _ (List.mem_append_left _ (List.mem_append_left _ (List.mem_append_left _ (List.mem_append_left _ (List.mem_append_left _ (List.mem_append_left _ (List.mem_append_left _ (List.mem_append_left _ (List.mem_append_left _ (List.mem_append_left _ (List.mem_append_right _ (List.mem_append_right _ (List.mem_append_right _ (List.mem_append_right _ (List.mem_append_right _ (List.mem_append_right _ (List.mem_append_right _ (List.mem_append_right _ (List.mem_append_right _ (List.mem_append_right _ (List.mem_append_right _ (List.mem_append_right _ (List.mem_append_right _ (List.mem_append_right _ (List.mem_append_right _ (List.mem_append_right _ (List.mem_append_right _ (List.mem_append_right _ (List.mem_append_right _ (List.mem_append_right _ (List.mem_append_right _ (List.mem_append_right _ (List.mem_append_right _ (List.mem_append_right _ (List.mem_append_right _ (List.mem_append_left _ h)))))))))))))))))))))))))))))))))))))
theorem wr27 : ∀ w ∈ wsL_law_r27, w ∈ wsL_law := fun _ h => (List.mem_append_left _ (List.mem_append_left _ (List.mem_append_left _ (List.mem_append_left _ (List.mem_append_left _ (List.mem_append_left _ (List.mem_append_left _ (List.mem_append_left _ (List.mem_append_left _ (List.mem_append_left _ (List.mem_append_left _ (List.mem_append_right _ (List.mem_append_right _ (List.mem_append_right _ (List.mem_append_right _ (List.mem_append_right _ (List.mem_append_right _ (List.mem_append_right _ (List.mem_append_right _ (List.mem_append_right _ (List.mem_append_right _ (List.mem_append_right _ (List.mem_append_right _ (List.mem_append_right _ (List.mem_append_right _ (List.mem_append_right _ (List.mem_append_right _ (List.mem_append_right _ (List.mem_append_right _ (List.mem_append_right _ (List.mem_append_right _ (List.mem_append_right _ (List.mem_append_right _ (List.mem_append_right _ (List.mem_append_right _ (List.mem_append_right _ (List.mem_append_right _ (List.mem_append_left _ h))))))))))))))))))))))))))))))))))))))
theorem wr28 : ∀ w ∈ wsL_law_r28, w ∈ wsL_law := fun _ h => (List.mem_append_left _ (List.mem_append_left _ (List.mem_append_left _ (List.mem_append_left _ (List.mem_append_left _ (List.mem_append_left _ (List.mem_append_left _ (List.mem_append_left _ (List.mem_append_left _ (List.mem_append_left _ (List.mem_append_left _ (List.mem_append_right _ (List.mem_append_right _ (List.mem_append_right _ (List.mem_append_right _ (List.mem_append_right _ (List.mem_append_right _ (List.mem_append_right _ (List.mem_append_right _ (List.mem_append_right _ (List.mem_append_right _ (List.mem_append_right _ (List.mem_append_right _ (List.mem_append_right _ (List.mem_append_right _ (List.mem_append_right _ (List.mem_append_right _ (List.mem_append_right _ (List.mem_append_right _ (List.mem_append_right _ (List.mem_append_right _ (List.mem_append_right _ (List.mem_append_right _ (List.mem_append_right _ (List.mem_append_right _ (List.mem_append_right _ (List.mem_append_right _ (List.mem_append_right _ (List.mem_append_left _ h)))))))))))))))))))))))))))))))))))))))
theorem wr29 : ∀ w ∈ wsL_law_r29, w ∈ wsL_law := fun _ h => (List.mem_append_left _ (List.mem_append_left _ (List.mem_append_left _ (List.mem_append_left _ (List.mem_append_left _ (List.mem_append_left _ (List.mem_append_left _ (List.mem_append_left _ (List.mem_append_left _ (List.mem_append_left _ (List.mem_append_left _ (List.mem_append_right _ (List.mem_append_right _ (List.mem_append_right _ (List.mem_append_right _ (List.mem_append_right _ (List.mem_append_right _ (List.mem_append_right _ (List.mem_append_right _ (List.mem_append_right _ (List.mem_append_right _ (List.mem_append_right _ (List.mem_append_right _ (List.mem_append_right _ (List.mem_append_right _ (List.mem_append_right _ (List.mem_append_right _ (List.mem_append_right _ (List.mem_append_right _ (List.mem_append_right _ (List.mem_append_right _ (List.mem_append_right _ (List.mem_append_right _ (List.mem_append_right _ (List.mem_append_right _ (List.mem_append_right _ (List.mem_append_right _ (List.mem_append_right _ (List.mem_append_right _ (List.mem_append_left _ h))))))))))))))))))))))))))))))))))))))))
theorem wr30 : ∀ w ∈ wsL_law_r30, w ∈ wsL_law := fun _ h => (List.mem_append_left _ (List.mem_append_left _ (List.mem_append_left _ (List.mem_append_left _ (List.mem_append_left _ (List.mem_append_left _ (List.mem_append_left _ (List.mem_append_left _ (List.mem_append_left _ (List.mem_append_left _ (List.mem_append_left _ (List.mem_append_right _ (List.mem_append_right _ (List.mem_append_right _ (List.mem_append_right _ (List.mem_append_right _ (List.mem_append_right _ (List.mem_append_right _ (List.mem_append_right _ (List.mem_append_right _ (List.mem_append_right _ (List.mem_append_right _ (List.mem_append_right _ (List.mem_append_right _ (List.mem_append_right _ (List.mem_append_right _ (List.mem_append_right _ (List.mem_append_right _ (List.mem_append_right _ (List.mem_append_right _ (List.mem_append_right _ (List.mem_append_right _ (List.mem_append_right _ (List.mem_append_right _ (List.mem_append_right _ (List.mem_append_right _ (List.mem_append_right _ (List.mem_append_right _ (List.mem_append_right _ (List.mem_append_right _ (List.mem_append_left _ h)))))))))))))))))))))))))))))))))))))))))
theorem wr31 : ∀ w ∈ wsL_law_r31, w ∈ wsL_law := fun _ h => (List.mem_append_left _ (List.mem_append_left _ (List.mem_append_left _ (List.mem_append_left _ (List.mem_append_left _ (List.mem_append_left _ (List.mem_append_left _ (List.mem_append_left _ (List.mem_append_left _ (List.mem_append_left _ (List.mem_append_left _ (List.mem_append_right _ (List.mem_append_right _ (List.mem_append_right _ (List.mem_append_right _ (List.mem_append_right _ (List.mem_append_right _ (List.mem_append_right _ (List.mem_append_right _ (List.mem_append_right _ (List.mem_append_right _ (List.mem_append_right _ (List.mem_append_right _ (List.mem_append_right _ (List.mem_append_right _ (List.mem_append_right _ (List.mem_append_right _ (List.mem_append_right _ (List.mem_append_right _ (List.mem_append_right _ (List.mem_append_right _ (List.mem_append_right _ (List.mem_append_right _ (List.mem_append_right _ (List.mem_append_right _ (List.mem_append_right _ (List.mem_append_right _ (List.mem_append_right _ (List.mem_append_right _ (List.mem_append_right _ (List.mem_append_right _ (List.mem_append_left _ h))))))))))))))))))))))))))))))))))))))))))
theorem wr32 : ∀ w ∈ wsL_law_r32, w ∈ wsL_law := fun _ h => (List.mem_append_left _ (List.mem_append_left _ (List.mem_append_left _ (List.mem_append_left _ (List.mem_append_left _ (List.mem_append_left _ (List.mem_append_left _ (List.mem_append_left _ (List.mem_append_left _ (List.mem_append_left _ (List.mem_append_left _ (List.mem_append_right _ (List.mem_append_right _ (List.mem_append_right _ (List.mem_append_right _ (List.mem_append_right _ (List.mem_append_right _ (List.mem_append_right _ (List.mem_append_right _ (List.mem_append_right _ (List.mem_append_right _ (List.mem_append_right _ (List.mem_append_right _ (List.mem_append_right _ (List.mem_append_right _ (List.mem_append_right _ (List.mem_append_right _ (List.mem_append_right _ (List.mem_append_right _ (List.mem_append_right _ (List.mem_append_right _ (List.mem_append_right _ (List.mem_append_right _ (List.mem_append_right _ (List.mem_append_right _ (List.mem_append_right _ (List.mem_append_right _ (List.mem_append_right _ (List.mem_append_right _ (List.mem_append_right _ (List.mem_append_right _ (List.mem_append_right _ (List.mem_append_left _ h)))))))))))))))))))))))))))))))))))))))))))
theorem wr33 : ∀ w ∈ wsL_law_r33, w ∈ wsL_law := fun _ h => (List.mem_append_left _ (List.mem_append_left _ (List.mem_append_left _ (List.mem_append_left _ (List.mem_append_left _ (List.mem_append_left _ (List.mem_append_left _ (List.mem_append_left _ (List.mem_append_left _ (List.mem_append_left _ (List.mem_append_left _ (List.mem_append_right _ (List.mem_append_right _ (List.mem_append_right _ (List.mem_append_right _ (List.mem_append_right _ (List.mem_append_right _ (List.mem_append_right _ (List.mem_append_right _ (List.mem_append_right _ (List.mem_append_right _ (List.mem_append_right _ (List.mem_append_right _ (List.mem_append_right _ (List.mem_append_right _ (List.mem_append_right _ (List.mem_append_right _ (List.mem_append_right _ (List.mem_append_right _ (List.mem_append_right _ (List.mem_append_right _ (List.mem_append_right _ (List.mem_append_right _ (List.mem_append_right _ (List.mem_append_right _ (List.mem_append_right _ (List.mem_append_right _ (List.mem_append_right _ (List.mem_append_right _ (List.mem_append_right _ (List.mem_append_right _ (List.mem_append_right _ (List.mem_append_right _ (List.mem_append_left _ h))))))))))))))))))))))))))))))))))))))))))))
theorem wr34 : ∀ w ∈ wsL_law_r34, w ∈ wsL_law := fun _ h => (List.mem_append_left _ (List.mem_append_left _ (List.mem_append_left _ (List.mem_append_left _ (List.mem_append_left _ (List.mem_append_left _ (List.mem_append_left _ (List.mem_append_left _ (List.mem_append_left _ (List.mem_append_left _ (List.mem_append_left _ (List.mem_append_right _ (List.mem_append_right _ (List.mem_append_right _ (List.mem_append_right _ (List.mem_append_right _ (List.mem_append_right _ (List.mem_append_right _ (List.mem_append_right _ (List.mem_append_right _ (List.mem_append_right _ (List.mem_append_right _ (List.mem_append_right _ (List.mem_append_right _ (List.mem_append_right _ (List.mem_append_right _ (List.mem_append_right _ (List.mem_append_right _ (List.mem_append_right _ (List.mem_append_right _ (List.mem_append_right _ (List.mem_append_right _ (List.mem_append_right _ (List.mem_append_right _ (List.mem_append_right _ (List.mem_append_right _ (List.mem_append_right _ (List.mem_append_right _ (List.mem_append_right _ (List.mem_append_right _ (List.mem_append_right _ (List.mem_append_right _ (List.mem_append_right _ (List.mem_append_right _ (List.mem_append_left _ h)))))))))))))))))))))))))))))))))))))))))))))
theorem wr35 : ∀ w ∈ wsL_law_r35, w ∈ wsL_law := fun _ h => (List.mem_append_left _ (List.mem_append_left _ (List.mem_append_left _ (List.mem_append_left _ (List.mem_append_left _ (List.mem_append_left _ (List.mem_append_left _ (List.mem_append_left _ (List.mem_append_left _ (List.mem_append_left _ (List.mem_append_left _ (List.mem_append_right _ (List.mem_append_right _ (List.mem_append_right _ (List.mem_append_right _ (List.mem_append_right _ (List.mem_append_right _ (List.mem_append_right _ (List.mem_append_right _ (List.mem_append_right _ (List.mem_append_right _ (List.mem_append_right _ (List.mem_append_right _ (List.mem_append_right _ (List.mem_append_right _ (List.mem_append_right _ (List.mem_append_right _ (List.mem_append_right _ (List.mem_append_right _ (List.mem_append_right _ (List.mem_append_right _ (List.mem_append_right _ (List.mem_append_right _ (List.mem_append_right _ (List.mem_append_right _ (List.mem_append_right _ (List.mem_append_right _ (List.mem_append_right _ (List.mem_append_right _ (List.mem_append_right _ (List.mem_append_right _ (List.mem_append_right _ (List.mem_append_right _ (List.mem_append_right _ (List.mem_append_right _ (List.mem_append_left _ h))))))))))))))))))))))))))))))))))))))))))))))
theorem wr36 : ∀ w ∈ wsL_law_r36, w ∈ wsL_law := fun _ h => (List.mem_append_left _ (List.mem_append_left _ (List.mem_append_left _ (List.mem_append_left _ (List.mem_append_left _ (List.mem_append_left _ (List.mem_append_left _ (List.mem_append_left _ (List.mem_append_left _ (List.mem_append_left _ (List.mem_append_left _ (List.mem_append_right _ (List.mem_append_right _ (List.mem_append_right _ (List.mem_append_right _ (List.mem_append_right _ (List.mem_append_right _ (List.mem_append_right _ (List.mem_append_right _ (List.mem_append_right _ (List.mem_append_right _ (List.mem_append_right _ (List.mem_append_right _ (List.mem_append_right _ (List.mem_append_right _ (List.mem_append_right _ (List.mem_append_right _ (List.mem_append_right _ (List.mem_append_right _ (List.mem_append_right _ (List.mem_append_right _ (List.mem_append_right _ (List.mem_append_right _ (List.mem_append_right _ (List.mem_append_right _ (List.mem_append_right _ (List.mem_append_right _ (List.mem_append_right _ (List.mem_append_right _ (List.mem_append_right _ (List.mem_append_right _ (List.mem_append_right _ (List.mem_append_right _ (List.mem_append_right _ (List.mem_append_right _ (List.mem_append_right _ h))))))))))))))))))))))))))))))))))))))))))))))
theorem ffX0_11 : FF RX0 11 0 0 := ⟨RX0, TX0, 3, rfl, inlX0, by decide, wr4 _ (List.mem_of_getElem? (i := 2) rfl)⟩
theorem fpX0_11 : FP RX0 11 0 0 .int false := ⟨RX0, TX0, 3, tyX0, rfl, inlX0, by decide, wr4 _ (List.mem_of_getElem? (i := 2) rfl), tyX0_ok, nmX0, rfl, by decide +kernel, rfl⟩
theorem ffX0_15 : FF RX0 15 0 1 := ⟨RX0, TX0, 3, rfl, inlX0, by decide, wr4 _ (List.mem_of_getElem? (i := 3) rfl)⟩
theorem fpX0_15 : FP RX0 15 0 1 .int false := ⟨RX0, TX0, 3, tyX0, rfl, inlX0, by decide, wr4 _ (List.mem_of_getElem? (i := 3) rfl), tyX0_ok, nmX0, rfl, by decide +kernel, rfl⟩
theorem ffX0_18 : FF RX0 18 0 2 := ⟨RX0, TX0, 3, rfl, inlX0, by decide, wr4 _ (List.mem_of_getElem? (i := 4) rfl)⟩
theorem fpX0_18 : FP RX0 18 0 2 .int false := ⟨RX0, TX0, 3, tyX0, rfl, inlX0, by decide, wr4 _ (List.mem_of_getElem? (i := 4) rfl), tyX0_ok, nmX0, rfl, by decide +kernel, rfl⟩
theorem cfX1_66 : CfN RX1 66 yX9_isMan cX9_isMan 1 (some .boolean) 1 := ⟨by decide +kernel, wr1 _ (List.mem_of_getElem? (i := 2) rfl), wr6 _ (List.mem_of_getElem? (i := 23) rfl), by decide +kernel⟩
theorem ffX1_22 : FF RX1 22 1 3 := ⟨RX1, TX1, 11, rfl, inlX1, by decide, wr3 _ (List.mem_of_getElem? (i := 5) rfl)⟩
theorem ffX1_28 : FF RX1 28 1 5 := ⟨RX1, TX1, 11, rfl, inlX1, by decide, wr3 _ (List.mem_of_getElem? (i := 7) rfl)⟩
theorem cfX0_29 : CfB RX0 29 yX1_strideOf cX1_strideOf 2 (some .int) 1 := ⟨wr34 _ (List.mem_of_getElem? (i := 19) rfl), wr1 _ (List.mem_of_getElem? (i := 14) rfl), wr15 _ (List.mem_of_getElem? (i := 5) rfl), by decide +kernel⟩
theorem viX1_strideOf : Cond.instanceMethod yX1_strideOf ∈ wsL_law ∧ Cond.selects RX1 yX1_strideOf yX1_strideOf ∈ wsL_law ∧ vwCl[1]? = some (RX1, TX1, 11) := ⟨wr15 _ (List.mem_of_getElem? (i := 3) rfl), wr15 _ (List.mem_of_getElem? (i := 4) rfl), rfl⟩
theorem cfX0_35 : CfB RX0 35 yX1_placeOf cX1_placeOf 2 (some .int) 1 := ⟨wr34 _ (List.mem_of_getElem? (i := 20) rfl), wr1 _ (List.mem_of_getElem? (i := 14) rfl), wr8 _ (List.mem_of_getElem? (i := 15) rfl), by decide +kernel⟩
theorem viX1_placeOf : Cond.instanceMethod yX1_placeOf ∈ wsL_law ∧ Cond.selects RX1 yX1_placeOf yX1_placeOf ∈ wsL_law ∧ vwCl[1]? = some (RX1, TX1, 11) := ⟨wr8 _ (List.mem_of_getElem? (i := 13) rfl), wr8 _ (List.mem_of_getElem? (i := 14) rfl), rfl⟩
theorem cmX0_38 : Cond.methodLink RX0 38 Lib.Math.min.name ∈ wsL_law ∧ Cond.static Lib.Math.min.name ∈ wsL_law ∧ Cond.initialized "java/lang/Math" ∈ wsL_law ∧ Cond.code Lib.Math.min.name Lib.Math.min.code 2 (some .int) ∈ wsL_law := ⟨wr34 _ (List.mem_of_getElem? (i := 17) rfl), wr23 _ (List.mem_of_getElem? (i := 12) rfl), wr14 _ (List.mem_of_getElem? (i := 19) rfl), wr23 _ (List.mem_of_getElem? (i := 13) rfl)⟩
theorem cmX0_44 : Cond.methodLink RX0 44 Lib.Math.max.name ∈ wsL_law ∧ Cond.static Lib.Math.max.name ∈ wsL_law ∧ Cond.initialized "java/lang/Math" ∈ wsL_law ∧ Cond.code Lib.Math.max.name Lib.Math.max.code 2 (some .int) ∈ wsL_law := ⟨wr34 _ (List.mem_of_getElem? (i := 18) rfl), wr31 _ (List.mem_of_getElem? (i := 7) rfl), wr14 _ (List.mem_of_getElem? (i := 19) rfl), wr31 _ (List.mem_of_getElem? (i := 8) rfl)⟩
theorem cfX0_21 : CfB RX0 21 yX0_drawnPlace cX0_drawnPlace 5 (some .int) 3 := ⟨wr34 _ (List.mem_of_getElem? (i := 14) rfl), wr1 _ (List.mem_of_getElem? (i := 22) rfl), wr34 _ (List.mem_of_getElem? (i := 16) rfl), by decide +kernel⟩
theorem cfX0_25 : CfB RX0 25 yX0_become cX0_become 4 none 3 := ⟨wr34 _ (List.mem_of_getElem? (i := 21) rfl), wr1 _ (List.mem_of_getElem? (i := 22) rfl), wr13 _ (List.mem_of_getElem? (i := 13) rfl), by decide +kernel⟩
theorem viX0_become : Cond.instanceMethod yX0_become ∈ wsL_law ∧ Cond.selects RX0 yX0_become yX0_become ∈ wsL_law ∧ vwCl[0]? = some (RX0, TX0, 3) := ⟨wr13 _ (List.mem_of_getElem? (i := 11) rfl), wr13 _ (List.mem_of_getElem? (i := 12) rfl), rfl⟩
theorem ffX1_9 : FF RX1 9 1 0 := ⟨RX1, TX1, 11, rfl, inlX1, by decide, wr3 _ (List.mem_of_getElem? (i := 2) rfl)⟩
theorem caX1_52 : Cond.methodLink RX1 52 arraycopyName ∈ wsL_law ∧ Cond.native arraycopyName ∈ wsL_law ∧ Cond.static arraycopyName ∈ wsL_law ∧ Cond.initialized "java/lang/System" ∈ wsL_law := ⟨wr12 _ (List.mem_of_getElem? (i := 23) rfl), wr13 _ (List.mem_of_getElem? (i := 0) rfl), wr13 _ (List.mem_of_getElem? (i := 1) rfl), wr13 _ (List.mem_of_getElem? (i := 2) rfl)⟩
theorem ffX1_15 : FF RX1 15 1 1 := ⟨RX1, TX1, 11, rfl, inlX1, by decide, wr3 _ (List.mem_of_getElem? (i := 3) rfl)⟩
theorem ffX1_25 : FF RX1 25 1 4 := ⟨RX1, TX1, 11, rfl, inlX1, by decide, wr3 _ (List.mem_of_getElem? (i := 6) rfl)⟩
theorem ffX1_18 : FF RX1 18 1 2 := ⟨RX1, TX1, 11, rfl, inlX1, by decide, wr3 _ (List.mem_of_getElem? (i := 4) rfl)⟩
theorem fpX1_18 : FP RX1 18 1 2 .int false := ⟨RX1, TX1, 11, tyX1, rfl, inlX1, by decide, wr3 _ (List.mem_of_getElem? (i := 4) rfl), tyX1_ok, nmX1, rfl, by decide +kernel, rfl⟩
theorem ffX1_31 : FF RX1 31 1 6 := ⟨RX1, TX1, 11, rfl, inlX1, by decide, wr3 _ (List.mem_of_getElem? (i := 8) rfl)⟩
theorem fpX1_31 : FP RX1 31 1 6 .int false := ⟨RX1, TX1, 11, tyX1, rfl, inlX1, by decide, wr3 _ (List.mem_of_getElem? (i := 8) rfl), tyX1_ok, nmX1, rfl, by decide +kernel, rfl⟩
theorem ffX1_34 : FF RX1 34 1 7 := ⟨RX1, TX1, 11, rfl, inlX1, by decide, wr3 _ (List.mem_of_getElem? (i := 9) rfl)⟩
theorem fpX1_34 : FP RX1 34 1 7 .int false := ⟨RX1, TX1, 11, tyX1, rfl, inlX1, by decide, wr3 _ (List.mem_of_getElem? (i := 9) rfl), tyX1_ok, nmX1, rfl, by decide +kernel, rfl⟩
theorem ffX1_37 : FF RX1 37 1 8 := ⟨RX1, TX1, 11, rfl, inlX1, by decide, wr3 _ (List.mem_of_getElem? (i := 10) rfl)⟩
theorem fpX1_37 : FP RX1 37 1 8 .int false := ⟨RX1, TX1, 11, tyX1, rfl, inlX1, by decide, wr3 _ (List.mem_of_getElem? (i := 10) rfl), tyX1_ok, nmX1, rfl, by decide +kernel, rfl⟩
theorem ffX1_40 : FF RX1 40 1 9 := ⟨RX1, TX1, 11, rfl, inlX1, by decide, wr3 _ (List.mem_of_getElem? (i := 11) rfl)⟩
theorem fpX1_40 : FP RX1 40 1 9 .int false := ⟨RX1, TX1, 11, tyX1, rfl, inlX1, by decide, wr3 _ (List.mem_of_getElem? (i := 11) rfl), tyX1_ok, nmX1, rfl, by decide +kernel, rfl⟩
theorem ffX1_43 : FF RX1 43 1 10 := ⟨RX1, TX1, 11, rfl, inlX1, by decide, wr3 _ (List.mem_of_getElem? (i := 12) rfl)⟩
theorem fpX1_43 : FP RX1 43 1 10 .int false := ⟨RX1, TX1, 11, tyX1, rfl, inlX1, by decide, wr3 _ (List.mem_of_getElem? (i := 12) rfl), tyX1_ok, nmX1, rfl, by decide +kernel, rfl⟩
theorem cfX1_58 : CfN RX1 58 yX9_isRung cX9_isRung 1 (some .boolean) 1 := ⟨by decide +kernel, wr1 _ (List.mem_of_getElem? (i := 2) rfl), wr6 _ (List.mem_of_getElem? (i := 17) rfl), by decide +kernel⟩
theorem cfX1_62 : CfN RX1 62 yX9_bitOf cX9_bitOf 1 (some .int) 1 := ⟨by decide +kernel, wr1 _ (List.mem_of_getElem? (i := 2) rfl), wr7 _ (List.mem_of_getElem? (i := 15) rfl), by decide +kernel⟩
theorem cfX1_69 : CfB RX1 69 yX1_mayBeOn cX1_mayBeOn 3 (some .boolean) 2 := ⟨wr15 _ (List.mem_of_getElem? (i := 10) rfl), wr1 _ (List.mem_of_getElem? (i := 14) rfl), wr15 _ (List.mem_of_getElem? (i := 13) rfl), by decide +kernel⟩
theorem viX1_mayBeOn : Cond.instanceMethod yX1_mayBeOn ∈ wsL_law ∧ Cond.selects RX1 yX1_mayBeOn yX1_mayBeOn ∈ wsL_law ∧ vwCl[1]? = some (RX1, TX1, 11) := ⟨wr15 _ (List.mem_of_getElem? (i := 11) rfl), wr15 _ (List.mem_of_getElem? (i := 12) rfl), rfl⟩
theorem cfX1_73 : CfB RX1 73 yX1_isMissing cX1_isMissing 2 (some .boolean) 1 := ⟨wr15 _ (List.mem_of_getElem? (i := 6) rfl), wr1 _ (List.mem_of_getElem? (i := 14) rfl), wr15 _ (List.mem_of_getElem? (i := 9) rfl), by decide +kernel⟩
theorem viX1_isMissing : Cond.instanceMethod yX1_isMissing ∈ wsL_law ∧ Cond.selects RX1 yX1_isMissing yX1_isMissing ∈ wsL_law ∧ vwCl[1]? = some (RX1, TX1, 11) := ⟨wr15 _ (List.mem_of_getElem? (i := 7) rfl), wr15 _ (List.mem_of_getElem? (i := 8) rfl), rfl⟩
theorem cfX1_112 : CfB RX1 112 yX1_ownerOf cX1_ownerOf 2 (some .int) 1 := ⟨wr15 _ (List.mem_of_getElem? (i := 22) rfl), wr1 _ (List.mem_of_getElem? (i := 14) rfl), wr7 _ (List.mem_of_getElem? (i := 9) rfl), by decide +kernel⟩
theorem viX1_ownerOf : Cond.instanceMethod yX1_ownerOf ∈ wsL_law ∧ Cond.selects RX1 yX1_ownerOf yX1_ownerOf ∈ wsL_law ∧ vwCl[1]? = some (RX1, TX1, 11) := ⟨wr7 _ (List.mem_of_getElem? (i := 7) rfl), wr7 _ (List.mem_of_getElem? (i := 8) rfl), rfl⟩
theorem cfX1_115 : CfB RX1 115 yX1_leaserOf cX1_leaserOf 2 (some .int) 1 := ⟨wr15 _ (List.mem_of_getElem? (i := 23) rfl), wr1 _ (List.mem_of_getElem? (i := 14) rfl), wr16 _ (List.mem_of_getElem? (i := 2) rfl), by decide +kernel⟩
theorem viX1_leaserOf : Cond.instanceMethod yX1_leaserOf ∈ wsL_law ∧ Cond.selects RX1 yX1_leaserOf yX1_leaserOf ∈ wsL_law ∧ vwCl[1]? = some (RX1, TX1, 11) := ⟨wr16 _ (List.mem_of_getElem? (i := 0) rfl), wr16 _ (List.mem_of_getElem? (i := 1) rfl), rfl⟩
theorem cfX1_118 : CfB RX1 118 yX1_coinsOf cX1_coinsOf 2 (some .int) 1 := ⟨wr16 _ (List.mem_of_getElem? (i := 3) rfl), wr1 _ (List.mem_of_getElem? (i := 14) rfl), wr8 _ (List.mem_of_getElem? (i := 19) rfl), by decide +kernel⟩
theorem viX1_coinsOf : Cond.instanceMethod yX1_coinsOf ∈ wsL_law ∧ Cond.selects RX1 yX1_coinsOf yX1_coinsOf ∈ wsL_law ∧ vwCl[1]? = some (RX1, TX1, 11) := ⟨wr8 _ (List.mem_of_getElem? (i := 17) rfl), wr8 _ (List.mem_of_getElem? (i := 18) rfl), rfl⟩
theorem cfX1_95 : CfB RX1 95 yX1_hasStepped cX1_hasStepped 2 (some .boolean) 1 := ⟨wr14 _ (List.mem_of_getElem? (i := 21) rfl), wr1 _ (List.mem_of_getElem? (i := 14) rfl), wr15 _ (List.mem_of_getElem? (i := 0) rfl), by decide +kernel⟩
theorem viX1_hasStepped : Cond.instanceMethod yX1_hasStepped ∈ wsL_law ∧ Cond.selects RX1 yX1_hasStepped yX1_hasStepped ∈ wsL_law ∧ vwCl[1]? = some (RX1, TX1, 11) := ⟨wr14 _ (List.mem_of_getElem? (i := 22) rfl), wr14 _ (List.mem_of_getElem? (i := 23) rfl), rfl⟩
theorem cfX1_98 : CfB RX1 98 yX1_placeOf cX1_placeOf 2 (some .int) 1 := ⟨wr15 _ (List.mem_of_getElem? (i := 1) rfl), wr1 _ (List.mem_of_getElem? (i := 14) rfl), wr8 _ (List.mem_of_getElem? (i := 15) rfl), by decide +kernel⟩
theorem cmX1_101 : Cond.methodLink RX1 101 Lib.Math.abs.name ∈ wsL_law ∧ Cond.static Lib.Math.abs.name ∈ wsL_law ∧ Cond.initialized "java/lang/Math" ∈ wsL_law ∧ Cond.code Lib.Math.abs.name Lib.Math.abs.code 1 (some .int) ∈ wsL_law := ⟨wr14 _ (List.mem_of_getElem? (i := 17) rfl), wr14 _ (List.mem_of_getElem? (i := 18) rfl), wr14 _ (List.mem_of_getElem? (i := 19) rfl), wr14 _ (List.mem_of_getElem? (i := 20) rfl)⟩
theorem cfX1_106 : CfB RX1 106 yX1_strideOf cX1_strideOf 2 (some .int) 1 := ⟨wr15 _ (List.mem_of_getElem? (i := 2) rfl), wr1 _ (List.mem_of_getElem? (i := 14) rfl), wr15 _ (List.mem_of_getElem? (i := 5) rfl), by decide +kernel⟩
theorem cfX1_109 : CfB RX1 109 yX1_firstManOn cX1_firstManOn 3 (some .int) 1 := ⟨wr15 _ (List.mem_of_getElem? (i := 14) rfl), wr1 _ (List.mem_of_getElem? (i := 14) rfl), wr15 _ (List.mem_of_getElem? (i := 17) rfl), by decide +kernel⟩
theorem viX1_firstManOn : Cond.instanceMethod yX1_firstManOn ∈ wsL_law ∧ Cond.selects RX1 yX1_firstManOn yX1_firstManOn ∈ wsL_law ∧ vwCl[1]? = some (RX1, TX1, 11) := ⟨wr15 _ (List.mem_of_getElem? (i := 15) rfl), wr15 _ (List.mem_of_getElem? (i := 16) rfl), rfl⟩
theorem cfX1_76 : CfB RX1 76 yX0_kindOf cX0_kindOf 1 (some .int) 0 := ⟨wr14 _ (List.mem_of_getElem? (i := 1) rfl), wr1 _ (List.mem_of_getElem? (i := 22) rfl), wr14 _ (List.mem_of_getElem? (i := 4) rfl), by decide +kernel⟩
theorem viX0_kindOf : Cond.instanceMethod yX0_kindOf ∈ wsL_law ∧ Cond.selects RX0 yX0_kindOf yX0_kindOf ∈ wsL_law ∧ vwCl[0]? = some (RX0, TX0, 3) := ⟨wr14 _ (List.mem_of_getElem? (i := 2) rfl), wr14 _ (List.mem_of_getElem? (i := 3) rfl), rfl⟩
theorem cfX1_82 : CfB RX1 82 yX0_doer cX0_doer 1 (some .int) 0 := ⟨wr14 _ (List.mem_of_getElem? (i := 5) rfl), wr1 _ (List.mem_of_getElem? (i := 22) rfl), wr14 _ (List.mem_of_getElem? (i := 8) rfl), by decide +kernel⟩
theorem viX0_doer : Cond.instanceMethod yX0_doer ∈ wsL_law ∧ Cond.selects RX0 yX0_doer yX0_doer ∈ wsL_law ∧ vwCl[0]? = some (RX0, TX0, 3) := ⟨wr14 _ (List.mem_of_getElem? (i := 6) rfl), wr14 _ (List.mem_of_getElem? (i := 7) rfl), rfl⟩
theorem cfX1_85 : CfB RX1 85 yX0_target cX0_target 1 (some .int) 0 := ⟨wr14 _ (List.mem_of_getElem? (i := 9) rfl), wr1 _ (List.mem_of_getElem? (i := 22) rfl), wr14 _ (List.mem_of_getElem? (i := 12) rfl), by decide +kernel⟩
theorem viX0_target : Cond.instanceMethod yX0_target ∈ wsL_law ∧ Cond.selects RX0 yX0_target yX0_target ∈ wsL_law ∧ vwCl[0]? = some (RX0, TX0, 3) := ⟨wr14 _ (List.mem_of_getElem? (i := 10) rfl), wr14 _ (List.mem_of_getElem? (i := 11) rfl), rfl⟩
theorem cfX1_88 : CfB RX1 88 yX1_reasonAgainstStep cX1_reasonAgainstStep 4 (some .int) 2 := ⟨wr14 _ (List.mem_of_getElem? (i := 13) rfl), wr1 _ (List.mem_of_getElem? (i := 14) rfl), wr14 _ (List.mem_of_getElem? (i := 16) rfl), by decide +kernel⟩
theorem viX1_reasonAgainstStep : Cond.instanceMethod yX1_reasonAgainstStep ∈ wsL_law ∧ Cond.selects RX1 yX1_reasonAgainstStep yX1_reasonAgainstStep ∈ wsL_law ∧ vwCl[1]? = some (RX1, TX1, 11) := ⟨wr14 _ (List.mem_of_getElem? (i := 14) rfl), wr14 _ (List.mem_of_getElem? (i := 15) rfl), rfl⟩
theorem cfX1_92 : CfB RX1 92 yX1_reasonAgainstLease cX1_reasonAgainstLease 3 (some .int) 2 := ⟨wr15 _ (List.mem_of_getElem? (i := 18) rfl), wr1 _ (List.mem_of_getElem? (i := 14) rfl), wr15 _ (List.mem_of_getElem? (i := 21) rfl), by decide +kernel⟩
theorem viX1_reasonAgainstLease : Cond.instanceMethod yX1_reasonAgainstLease ∈ wsL_law ∧ Cond.selects RX1 yX1_reasonAgainstLease yX1_reasonAgainstLease ∈ wsL_law ∧ vwCl[1]? = some (RX1, TX1, 11) := ⟨wr15 _ (List.mem_of_getElem? (i := 19) rfl), wr15 _ (List.mem_of_getElem? (i := 20) rfl), rfl⟩
theorem cfX1_121 : CfB RX1 121 yX1_moveTo cX1_moveTo 3 none 2 := ⟨wr16 _ (List.mem_of_getElem? (i := 8) rfl), wr1 _ (List.mem_of_getElem? (i := 14) rfl), wr16 _ (List.mem_of_getElem? (i := 11) rfl), by decide +kernel⟩
theorem viX1_moveTo : Cond.instanceMethod yX1_moveTo ∈ wsL_law ∧ Cond.selects RX1 yX1_moveTo yX1_moveTo ∈ wsL_law ∧ vwCl[1]? = some (RX1, TX1, 11) := ⟨wr16 _ (List.mem_of_getElem? (i := 9) rfl), wr16 _ (List.mem_of_getElem? (i := 10) rfl), rfl⟩
theorem cfX1_125 : CfB RX1 125 yX1_leaseTo cX1_leaseTo 4 none 2 := ⟨wr16 _ (List.mem_of_getElem? (i := 12) rfl), wr1 _ (List.mem_of_getElem? (i := 14) rfl), wr16 _ (List.mem_of_getElem? (i := 15) rfl), by decide +kernel⟩
theorem viX1_leaseTo : Cond.instanceMethod yX1_leaseTo ∈ wsL_law ∧ Cond.selects RX1 yX1_leaseTo yX1_leaseTo ∈ wsL_law ∧ vwCl[1]? = some (RX1, TX1, 11) := ⟨wr16 _ (List.mem_of_getElem? (i := 13) rfl), wr16 _ (List.mem_of_getElem? (i := 14) rfl), rfl⟩
theorem cfX1_128 : CfB RX1 128 yX1_setRung cX1_setRung 5 none 4 := ⟨wr16 _ (List.mem_of_getElem? (i := 16) rfl), wr1 _ (List.mem_of_getElem? (i := 14) rfl), wr7 _ (List.mem_of_getElem? (i := 13) rfl), by decide +kernel⟩
theorem viX1_setRung : Cond.instanceMethod yX1_setRung ∈ wsL_law ∧ Cond.selects RX1 yX1_setRung yX1_setRung ∈ wsL_law ∧ vwCl[1]? = some (RX1, TX1, 11) := ⟨wr7 _ (List.mem_of_getElem? (i := 11) rfl), wr7 _ (List.mem_of_getElem? (i := 12) rfl), rfl⟩
theorem cfX2_19 : CfN RX2 19 yX9_bitOf cX9_bitOf 1 (some .int) 1 := ⟨by decide +kernel, wr1 _ (List.mem_of_getElem? (i := 2) rfl), wr7 _ (List.mem_of_getElem? (i := 15) rfl), by decide +kernel⟩
theorem cfX2_9 : CfB RX2 9 yX2_heapsOf cX2_heapsOf 4 (some .int) 1 := ⟨wr31 _ (List.mem_of_getElem? (i := 22) rfl), wr31 _ (List.mem_of_getElem? (i := 20) rfl), wr32 _ (List.mem_of_getElem? (i := 0) rfl), by decide +kernel⟩
theorem cfX2_15 : CfB RX2 15 yX2_canWin cX2_canWin 1 (some .boolean) 1 := ⟨wr32 _ (List.mem_of_getElem? (i := 4) rfl), wr31 _ (List.mem_of_getElem? (i := 20) rfl), wr31 _ (List.mem_of_getElem? (i := 21) rfl), by decide +kernel⟩
theorem ffX3_9 : FF RX3 9 2 0 := ⟨RX3, TX3, 3, rfl, inlX3, by decide, wr5 _ (List.mem_of_getElem? (i := 15) rfl)⟩
theorem cfX3_30 : CfB RX3 30 yX3_power cX3_power 5 (some .long) 2 := ⟨wr33 _ (List.mem_of_getElem? (i := 3) rfl), wr2 _ (List.mem_of_getElem? (i := 18) rfl), wr33 _ (List.mem_of_getElem? (i := 5) rfl), by decide +kernel⟩
theorem cfX3_22 : CfB RX3 22 yX3_reckonChances cX3_reckonChances 6 none 1 := ⟨wr32 _ (List.mem_of_getElem? (i := 23) rfl), wr2 _ (List.mem_of_getElem? (i := 18) rfl), wr33 _ (List.mem_of_getElem? (i := 2) rfl), by decide +kernel⟩
theorem viX3_reckonChances : Cond.instanceMethod yX3_reckonChances ∈ wsL_law ∧ Cond.selects RX3 yX3_reckonChances yX3_reckonChances ∈ wsL_law ∧ vwCl[2]? = some (RX3, TX3, 3) := ⟨wr33 _ (List.mem_of_getElem? (i := 0) rfl), wr33 _ (List.mem_of_getElem? (i := 1) rfl), rfl⟩
theorem cfX3_26 : CfN RX3 26 yX9_isRung cX9_isRung 1 (some .boolean) 1 := ⟨by decide +kernel, wr1 _ (List.mem_of_getElem? (i := 2) rfl), wr6 _ (List.mem_of_getElem? (i := 17) rfl), by decide +kernel⟩
theorem ffX3_15 : FF RX3 15 2 1 := ⟨RX3, TX3, 3, rfl, inlX3, by decide, wr5 _ (List.mem_of_getElem? (i := 16) rfl)⟩
theorem fpX3_15 : FP RX3 15 2 1 .long false := ⟨RX3, TX3, 3, tyX3, rfl, inlX3, by decide, wr5 _ (List.mem_of_getElem? (i := 16) rfl), tyX3_ok, nmX3, rfl, by decide +kernel, rfl⟩
theorem ffX3_19 : FF RX3 19 2 2 := ⟨RX3, TX3, 3, rfl, inlX3, by decide, wr5 _ (List.mem_of_getElem? (i := 17) rfl)⟩
theorem fpX3_19 : FP RX3 19 2 2 .long false := ⟨RX3, TX3, 3, tyX3, rfl, inlX3, by decide, wr5 _ (List.mem_of_getElem? (i := 17) rfl), tyX3_ok, nmX3, rfl, by decide +kernel, rfl⟩
theorem ffX4_12 : FF RX4 12 3 0 := ⟨RX4, TX4, 8, rfl, inlX4, by decide, wr4 _ (List.mem_of_getElem? (i := 9) rfl)⟩
theorem cfX4_44 : CfB RX4 44 yX1_copyFrom cX1_copyFrom 2 none 1 := ⟨wr12 _ (List.mem_of_getElem? (i := 19) rfl), wr1 _ (List.mem_of_getElem? (i := 14) rfl), wr12 _ (List.mem_of_getElem? (i := 22) rfl), by decide +kernel⟩
theorem viX1_copyFrom : Cond.instanceMethod yX1_copyFrom ∈ wsL_law ∧ Cond.selects RX1 yX1_copyFrom yX1_copyFrom ∈ wsL_law ∧ vwCl[1]? = some (RX1, TX1, 11) := ⟨wr12 _ (List.mem_of_getElem? (i := 20) rfl), wr12 _ (List.mem_of_getElem? (i := 21) rfl), rfl⟩
theorem ffX4_25 : FF RX4 25 3 2 := ⟨RX4, TX4, 8, rfl, inlX4, by decide, wr4 _ (List.mem_of_getElem? (i := 12) rfl)⟩
theorem fpX4_25 : FP RX4 25 3 2 .int false := ⟨RX4, TX4, 8, tyX4, rfl, inlX4, by decide, wr4 _ (List.mem_of_getElem? (i := 12) rfl), tyX4_ok, nmX4, rfl, by decide +kernel, rfl⟩
theorem ffX4_29 : FF RX4 29 3 3 := ⟨RX4, TX4, 8, rfl, inlX4, by decide, wr4 _ (List.mem_of_getElem? (i := 13) rfl)⟩
theorem fpX4_29 : FP RX4 29 3 3 .int false := ⟨RX4, TX4, 8, tyX4, rfl, inlX4, by decide, wr4 _ (List.mem_of_getElem? (i := 13) rfl), tyX4_ok, nmX4, rfl, by decide +kernel, rfl⟩
theorem ffX4_32 : FF RX4 32 3 4 := ⟨RX4, TX4, 8, rfl, inlX4, by decide, wr4 _ (List.mem_of_getElem? (i := 14) rfl)⟩
theorem fpX4_32 : FP RX4 32 3 4 .int false := ⟨RX4, TX4, 8, tyX4, rfl, inlX4, by decide, wr4 _ (List.mem_of_getElem? (i := 14) rfl), tyX4_ok, nmX4, rfl, by decide +kernel, rfl⟩
theorem ffX4_35 : FF RX4 35 3 5 := ⟨RX4, TX4, 8, rfl, inlX4, by decide, wr4 _ (List.mem_of_getElem? (i := 15) rfl)⟩
theorem fpX4_35 : FP RX4 35 3 5 .int false := ⟨RX4, TX4, 8, tyX4, rfl, inlX4, by decide, wr4 _ (List.mem_of_getElem? (i := 15) rfl), tyX4_ok, nmX4, rfl, by decide +kernel, rfl⟩
theorem ffX4_38 : FF RX4 38 3 6 := ⟨RX4, TX4, 8, rfl, inlX4, by decide, wr4 _ (List.mem_of_getElem? (i := 16) rfl)⟩
theorem fpX4_38 : FP RX4 38 3 6 .int false := ⟨RX4, TX4, 8, tyX4, rfl, inlX4, by decide, wr4 _ (List.mem_of_getElem? (i := 16) rfl), tyX4_ok, nmX4, rfl, by decide +kernel, rfl⟩
theorem ffX4_41 : FF RX4 41 3 7 := ⟨RX4, TX4, 8, rfl, inlX4, by decide, wr4 _ (List.mem_of_getElem? (i := 17) rfl)⟩
theorem fpX4_41 : FP RX4 41 3 7 .int false := ⟨RX4, TX4, 8, tyX4, rfl, inlX4, by decide, wr4 _ (List.mem_of_getElem? (i := 17) rfl), tyX4_ok, nmX4, rfl, by decide +kernel, rfl⟩
theorem ffX5_15 : FF RX5 15 4 1 := ⟨RX5, TX5, 2, rfl, inlX5, by decide, wr3 _ (List.mem_of_getElem? (i := 22) rfl)⟩
theorem ffX5_9 : FF RX5 9 4 0 := ⟨RX5, TX5, 2, rfl, inlX5, by decide, wr3 _ (List.mem_of_getElem? (i := 21) rfl)⟩
theorem cfX5_35 : CfB RX5 35 yX5_isManSign cX5_isManSign 1 (some .boolean) 1 := ⟨wr11 _ (List.mem_of_getElem? (i := 7) rfl), wr1 _ (List.mem_of_getElem? (i := 18) rfl), wr11 _ (List.mem_of_getElem? (i := 9) rfl), by decide +kernel⟩
theorem cfX5_27 : CfB RX5 27 yX5_signAt cX5_signAt 2 (some .char) 1 := ⟨wr11 _ (List.mem_of_getElem? (i := 0) rfl), wr1 _ (List.mem_of_getElem? (i := 18) rfl), wr11 _ (List.mem_of_getElem? (i := 3) rfl), by decide +kernel⟩
theorem viX5_signAt : Cond.instanceMethod yX5_signAt ∈ wsL_law ∧ Cond.selects RX5 yX5_signAt yX5_signAt ∈ wsL_law ∧ vwCl[4]? = some (RX5, TX5, 2) := ⟨wr11 _ (List.mem_of_getElem? (i := 1) rfl), wr11 _ (List.mem_of_getElem? (i := 2) rfl), rfl⟩
theorem cfX5_31 : CfB RX5 31 yX5_needsMore cX5_needsMore 1 (some .boolean) 1 := ⟨wr11 _ (List.mem_of_getElem? (i := 4) rfl), wr1 _ (List.mem_of_getElem? (i := 18) rfl), wr11 _ (List.mem_of_getElem? (i := 6) rfl), by decide +kernel⟩
theorem cfX5_38 : CfB RX5 38 yX5_isRungSign cX5_isRungSign 1 (some .boolean) 1 := ⟨wr11 _ (List.mem_of_getElem? (i := 14) rfl), wr1 _ (List.mem_of_getElem? (i := 18) rfl), wr11 _ (List.mem_of_getElem? (i := 16) rfl), by decide +kernel⟩
theorem cfX5_41 : CfB RX5 41 yX5_isEndOfLadder cX5_isEndOfLadder 1 (some .boolean) 1 := ⟨wr11 _ (List.mem_of_getElem? (i := 17) rfl), wr1 _ (List.mem_of_getElem? (i := 18) rfl), wr11 _ (List.mem_of_getElem? (i := 19) rfl), by decide +kernel⟩
theorem cfX5_19 : CfB RX5 19 yX5_endOfAct cX5_endOfAct 2 (some .int) 1 := ⟨wr10 _ (List.mem_of_getElem? (i := 20) rfl), wr1 _ (List.mem_of_getElem? (i := 18) rfl), wr10 _ (List.mem_of_getElem? (i := 23) rfl), by decide +kernel⟩
theorem viX5_endOfAct : Cond.instanceMethod yX5_endOfAct ∈ wsL_law ∧ Cond.selects RX5 yX5_endOfAct yX5_endOfAct ∈ wsL_law ∧ vwCl[4]? = some (RX5, TX5, 2) := ⟨wr10 _ (List.mem_of_getElem? (i := 21) rfl), wr10 _ (List.mem_of_getElem? (i := 22) rfl), rfl⟩
theorem cfX5_23 : CfB RX5 23 yX5_firstWrongSign cX5_firstWrongSign 6 (some .int) 2 := ⟨wr11 _ (List.mem_of_getElem? (i := 10) rfl), wr1 _ (List.mem_of_getElem? (i := 18) rfl), wr11 _ (List.mem_of_getElem? (i := 13) rfl), by decide +kernel⟩
theorem viX5_firstWrongSign : Cond.instanceMethod yX5_firstWrongSign ∈ wsL_law ∧ Cond.selects RX5 yX5_firstWrongSign yX5_firstWrongSign ∈ wsL_law ∧ vwCl[4]? = some (RX5, TX5, 2) := ⟨wr11 _ (List.mem_of_getElem? (i := 11) rfl), wr11 _ (List.mem_of_getElem? (i := 12) rfl), rfl⟩
theorem cfX5_46 : CfB RX5 46 yX0_become cX0_become 4 none 3 := ⟨wr13 _ (List.mem_of_getElem? (i := 10) rfl), wr1 _ (List.mem_of_getElem? (i := 22) rfl), wr13 _ (List.mem_of_getElem? (i := 13) rfl), by decide +kernel⟩
theorem cfX5_50 : CfB RX5 50 yX5_placeOfSign cX5_placeOfSign 1 (some .int) 1 := ⟨wr13 _ (List.mem_of_getElem? (i := 14) rfl), wr1 _ (List.mem_of_getElem? (i := 18) rfl), wr13 _ (List.mem_of_getElem? (i := 16) rfl), by decide +kernel⟩
theorem cfX4_83 : CfB RX4 83 yX0_kindOf cX0_kindOf 1 (some .int) 0 := ⟨wr16 _ (List.mem_of_getElem? (i := 21) rfl), wr1 _ (List.mem_of_getElem? (i := 22) rfl), wr14 _ (List.mem_of_getElem? (i := 4) rfl), by decide +kernel⟩
theorem cfX4_86 : CfB RX4 86 yX0_target cX0_target 1 (some .int) 0 := ⟨wr16 _ (List.mem_of_getElem? (i := 22) rfl), wr1 _ (List.mem_of_getElem? (i := 22) rfl), wr14 _ (List.mem_of_getElem? (i := 12) rfl), by decide +kernel⟩
theorem cfX4_89 : CfB RX4 89 yX0_doer cX0_doer 1 (some .int) 0 := ⟨wr16 _ (List.mem_of_getElem? (i := 23) rfl), wr1 _ (List.mem_of_getElem? (i := 22) rfl), wr14 _ (List.mem_of_getElem? (i := 8) rfl), by decide +kernel⟩
theorem cfX4_72 : CfB RX4 72 yX1_reasonAgainst cX1_reasonAgainst 2 (some .int) 1 := ⟨wr13 _ (List.mem_of_getElem? (i := 21) rfl), wr1 _ (List.mem_of_getElem? (i := 14) rfl), wr14 _ (List.mem_of_getElem? (i := 0) rfl), by decide +kernel⟩
theorem viX1_reasonAgainst : Cond.instanceMethod yX1_reasonAgainst ∈ wsL_law ∧ Cond.selects RX1 yX1_reasonAgainst yX1_reasonAgainst ∈ wsL_law ∧ vwCl[1]? = some (RX1, TX1, 11) := ⟨wr13 _ (List.mem_of_getElem? (i := 22) rfl), wr13 _ (List.mem_of_getElem? (i := 23) rfl), rfl⟩
theorem cfX4_76 : CfB RX4 76 yX1_perform cX1_perform 2 none 1 := ⟨wr16 _ (List.mem_of_getElem? (i := 4) rfl), wr1 _ (List.mem_of_getElem? (i := 14) rfl), wr16 _ (List.mem_of_getElem? (i := 7) rfl), by decide +kernel⟩
theorem viX1_perform : Cond.instanceMethod yX1_perform ∈ wsL_law ∧ Cond.selects RX1 yX1_perform yX1_perform ∈ wsL_law ∧ vwCl[1]? = some (RX1, TX1, 11) := ⟨wr16 _ (List.mem_of_getElem? (i := 5) rfl), wr16 _ (List.mem_of_getElem? (i := 6) rfl), rfl⟩
theorem cfX4_80 : CfB RX4 80 yX4_count cX4_count 2 none 1 := ⟨wr16 _ (List.mem_of_getElem? (i := 17) rfl), wr2 _ (List.mem_of_getElem? (i := 2) rfl), wr16 _ (List.mem_of_getElem? (i := 20) rfl), by decide +kernel⟩
theorem viX4_count : Cond.instanceMethod yX4_count ∈ wsL_law ∧ Cond.selects RX4 yX4_count yX4_count ∈ wsL_law ∧ vwCl[3]? = some (RX4, TX4, 8) := ⟨wr16 _ (List.mem_of_getElem? (i := 18) rfl), wr16 _ (List.mem_of_getElem? (i := 19) rfl), rfl⟩
theorem cfX4_48 : CfB RX4 48 yX4_begin cX4_begin 2 none 1 := ⟨wr12 _ (List.mem_of_getElem? (i := 15) rfl), wr2 _ (List.mem_of_getElem? (i := 2) rfl), wr12 _ (List.mem_of_getElem? (i := 18) rfl), by decide +kernel⟩
theorem viX4_begin : Cond.instanceMethod yX4_begin ∈ wsL_law ∧ Cond.selects RX4 yX4_begin yX4_begin ∈ wsL_law ∧ vwCl[3]? = some (RX4, TX4, 8) := ⟨wr12 _ (List.mem_of_getElem? (i := 16) rfl), wr12 _ (List.mem_of_getElem? (i := 17) rfl), rfl⟩
theorem cfX4_51 : CfB RX4 51 yX5_firstFault cX5_firstFault 5 (some .int) 0 := ⟨wr13 _ (List.mem_of_getElem? (i := 3) rfl), wr1 _ (List.mem_of_getElem? (i := 18) rfl), wr10 _ (List.mem_of_getElem? (i := 19) rfl), by decide +kernel⟩
theorem viX5_firstFault : Cond.instanceMethod yX5_firstFault ∈ wsL_law ∧ Cond.selects RX5 yX5_firstFault yX5_firstFault ∈ wsL_law ∧ vwCl[4]? = some (RX5, TX5, 2) := ⟨wr10 _ (List.mem_of_getElem? (i := 17) rfl), wr10 _ (List.mem_of_getElem? (i := 18) rfl), rfl⟩
theorem cfX4_57 : CfB RX4 57 yX5_size cX5_size 1 (some .int) 0 := ⟨wr13 _ (List.mem_of_getElem? (i := 4) rfl), wr1 _ (List.mem_of_getElem? (i := 18) rfl), wr9 _ (List.mem_of_getElem? (i := 18) rfl), by decide +kernel⟩
theorem viX5_size : Cond.instanceMethod yX5_size ∈ wsL_law ∧ Cond.selects RX5 yX5_size yX5_size ∈ wsL_law ∧ vwCl[4]? = some (RX5, TX5, 2) := ⟨wr9 _ (List.mem_of_getElem? (i := 16) rfl), wr9 _ (List.mem_of_getElem? (i := 17) rfl), rfl⟩
theorem cfX4_60 : CfB RX4 60 yX5_endOfAct cX5_endOfAct 2 (some .int) 1 := ⟨wr13 _ (List.mem_of_getElem? (i := 5) rfl), wr1 _ (List.mem_of_getElem? (i := 18) rfl), wr10 _ (List.mem_of_getElem? (i := 23) rfl), by decide +kernel⟩
theorem ffX4_21 : FF RX4 21 3 1 := ⟨RX4, TX4, 8, rfl, inlX4, by decide, wr4 _ (List.mem_of_getElem? (i := 11) rfl)⟩
theorem cfX4_64 : CfB RX4 64 yX5_read cX5_read 7 none 3 := ⟨wr13 _ (List.mem_of_getElem? (i := 6) rfl), wr1 _ (List.mem_of_getElem? (i := 18) rfl), wr13 _ (List.mem_of_getElem? (i := 9) rfl), by decide +kernel⟩
theorem viX5_read : Cond.instanceMethod yX5_read ∈ wsL_law ∧ Cond.selects RX5 yX5_read yX5_read ∈ wsL_law ∧ vwCl[4]? = some (RX5, TX5, 2) := ⟨wr13 _ (List.mem_of_getElem? (i := 7) rfl), wr13 _ (List.mem_of_getElem? (i := 8) rfl), rfl⟩
theorem cfX4_68 : CfB RX4 68 yX4_attempt cX4_attempt 2 (some .boolean) 1 := ⟨wr13 _ (List.mem_of_getElem? (i := 17) rfl), wr2 _ (List.mem_of_getElem? (i := 2) rfl), wr13 _ (List.mem_of_getElem? (i := 20) rfl), by decide +kernel⟩
theorem viX4_attempt : Cond.instanceMethod yX4_attempt ∈ wsL_law ∧ Cond.selects RX4 yX4_attempt yX4_attempt ∈ wsL_law ∧ vwCl[3]? = some (RX4, TX4, 8) := ⟨wr13 _ (List.mem_of_getElem? (i := 18) rfl), wr13 _ (List.mem_of_getElem? (i := 19) rfl), rfl⟩
theorem fpX5_15 : FP RX5 15 4 1 .int false := ⟨RX5, TX5, 2, tyX5, rfl, inlX5, by decide, wr3 _ (List.mem_of_getElem? (i := 22) rfl), tyX5_ok, nmX5, rfl, by decide +kernel, rfl⟩
theorem ffX6_9 : FF RX6 9 5 0 := ⟨RX6, TX6, 3, rfl, inlX6, by decide, wr5 _ (List.mem_of_getElem? (i := 2) rfl)⟩
theorem cfX6_38 : CfB RX6 38 yJ6_bitCount_0f7a4 cJ6_bitCount_0f7a4 1 (some .int) 1 := ⟨wr26 _ (List.mem_of_getElem? (i := 18) rfl), wr26 _ (List.mem_of_getElem? (i := 20) rfl), wr26 _ (List.mem_of_getElem? (i := 21) rfl), by decide +kernel⟩
theorem cmX6_43 : Cond.methodLink RX6 43 Lib.Math.min.name ∈ wsL_law ∧ Cond.static Lib.Math.min.name ∈ wsL_law ∧ Cond.initialized "java/lang/Math" ∈ wsL_law ∧ Cond.code Lib.Math.min.name Lib.Math.min.code 2 (some .int) ∈ wsL_law := ⟨wr26 _ (List.mem_of_getElem? (i := 17) rfl), wr23 _ (List.mem_of_getElem? (i := 12) rfl), wr14 _ (List.mem_of_getElem? (i := 19) rfl), wr23 _ (List.mem_of_getElem? (i := 13) rfl)⟩
theorem cfX6_28 : CfB RX6 28 yX6_mostFrom cX6_mostFrom 8 (some .int) 2 := ⟨wr26 _ (List.mem_of_getElem? (i := 13) rfl), wr2 _ (List.mem_of_getElem? (i := 10) rfl), wr26 _ (List.mem_of_getElem? (i := 16) rfl), by decide +kernel⟩
theorem viX6_mostFrom : Cond.instanceMethod yX6_mostFrom ∈ wsL_law ∧ Cond.selects RX6 yX6_mostFrom yX6_mostFrom ∈ wsL_law ∧ vwCl[5]? = some (RX6, TX6, 3) := ⟨wr26 _ (List.mem_of_getElem? (i := 14) rfl), wr26 _ (List.mem_of_getElem? (i := 15) rfl), rfl⟩
theorem cfX6_35 : CfN RX6 35 yX9_bitOf cX9_bitOf 1 (some .int) 1 := ⟨by decide +kernel, wr1 _ (List.mem_of_getElem? (i := 2) rfl), wr7 _ (List.mem_of_getElem? (i := 15) rfl), by decide +kernel⟩
theorem cfX6_22 : CfB RX6 22 yX1_rungsOpenTo cX1_rungsOpenTo 4 (some .int) 1 := ⟨wr26 _ (List.mem_of_getElem? (i := 12) rfl), wr1 _ (List.mem_of_getElem? (i := 14) rfl), wr20 _ (List.mem_of_getElem? (i := 17) rfl), by decide +kernel⟩
theorem viX1_rungsOpenTo : Cond.instanceMethod yX1_rungsOpenTo ∈ wsL_law ∧ Cond.selects RX1 yX1_rungsOpenTo yX1_rungsOpenTo ∈ wsL_law ∧ vwCl[1]? = some (RX1, TX1, 11) := ⟨wr20 _ (List.mem_of_getElem? (i := 15) rfl), wr20 _ (List.mem_of_getElem? (i := 16) rfl), rfl⟩
theorem ffX6_18 : FF RX6 18 5 2 := ⟨RX6, TX6, 3, rfl, inlX6, by decide, wr5 _ (List.mem_of_getElem? (i := 4) rfl)⟩
theorem fpX6_18 : FP RX6 18 5 2 .int false := ⟨RX6, TX6, 3, tyX6, rfl, inlX6, by decide, wr5 _ (List.mem_of_getElem? (i := 4) rfl), tyX6_ok, nmX6, rfl, by decide +kernel, rfl⟩
theorem ffX6_15 : FF RX6 15 5 1 := ⟨RX6, TX6, 3, rfl, inlX6, by decide, wr5 _ (List.mem_of_getElem? (i := 3) rfl)⟩
theorem cfX6_32 : CfB RX6 32 yX6_lowestPost cX6_lowestPost 5 (some .int) 2 := ⟨wr27 _ (List.mem_of_getElem? (i := 1) rfl), wr2 _ (List.mem_of_getElem? (i := 10) rfl), wr27 _ (List.mem_of_getElem? (i := 4) rfl), by decide +kernel⟩
theorem viX6_lowestPost : Cond.instanceMethod yX6_lowestPost ∈ wsL_law ∧ Cond.selects RX6 yX6_lowestPost yX6_lowestPost ∈ wsL_law ∧ vwCl[5]? = some (RX6, TX6, 3) := ⟨wr27 _ (List.mem_of_getElem? (i := 2) rfl), wr27 _ (List.mem_of_getElem? (i := 3) rfl), rfl⟩
theorem cfX6_48 : CfN RX6 48 yX9_isMan cX9_isMan 1 (some .boolean) 1 := ⟨by decide +kernel, wr1 _ (List.mem_of_getElem? (i := 2) rfl), wr6 _ (List.mem_of_getElem? (i := 23) rfl), by decide +kernel⟩
theorem cfX7_56 : CfN RX7 56 yX9_isPlace cX9_isPlace 1 (some .boolean) 1 := ⟨by decide +kernel, wr1 _ (List.mem_of_getElem? (i := 2) rfl), wr8 _ (List.mem_of_getElem? (i := 11) rfl), by decide +kernel⟩
theorem ffX7_9 : FF RX7 9 6 0 := ⟨RX7, TX7, 1, rfl, inlX7, by decide, wr4 _ (List.mem_of_getElem? (i := 22) rfl)⟩
theorem cfX7_29 : CfB RX7 29 yX1_rungsOpenTo cX1_rungsOpenTo 4 (some .int) 1 := ⟨wr23 _ (List.mem_of_getElem? (i := 14) rfl), wr1 _ (List.mem_of_getElem? (i := 14) rfl), wr20 _ (List.mem_of_getElem? (i := 17) rfl), by decide +kernel⟩
theorem cfX7_32 : CfB RX7 32 yX1_strideOf cX1_strideOf 2 (some .int) 1 := ⟨wr23 _ (List.mem_of_getElem? (i := 15) rfl), wr1 _ (List.mem_of_getElem? (i := 14) rfl), wr15 _ (List.mem_of_getElem? (i := 5) rfl), by decide +kernel⟩
theorem cmX7_35 : Cond.methodLink RX7 35 Lib.Math.min.name ∈ wsL_law ∧ Cond.static Lib.Math.min.name ∈ wsL_law ∧ Cond.initialized "java/lang/Math" ∈ wsL_law ∧ Cond.code Lib.Math.min.name Lib.Math.min.code 2 (some .int) ∈ wsL_law := ⟨wr23 _ (List.mem_of_getElem? (i := 11) rfl), wr23 _ (List.mem_of_getElem? (i := 12) rfl), wr14 _ (List.mem_of_getElem? (i := 19) rfl), wr23 _ (List.mem_of_getElem? (i := 13) rfl)⟩
theorem cfX7_41 : CfB RX7 41 yX7_isOpen cX7_isOpen 2 (some .boolean) 2 := ⟨wr23 _ (List.mem_of_getElem? (i := 16) rfl), wr2 _ (List.mem_of_getElem? (i := 6) rfl), wr23 _ (List.mem_of_getElem? (i := 18) rfl), by decide +kernel⟩
theorem cfX7_25 : CfB RX7 25 yX7_settledAt cX7_settledAt 2 (some .int) 1 := ⟨wr23 _ (List.mem_of_getElem? (i := 19) rfl), wr2 _ (List.mem_of_getElem? (i := 6) rfl), wr23 _ (List.mem_of_getElem? (i := 22) rfl), by decide +kernel⟩
theorem viX7_settledAt : Cond.instanceMethod yX7_settledAt ∈ wsL_law ∧ Cond.selects RX7 yX7_settledAt yX7_settledAt ∈ wsL_law ∧ vwCl[6]? = some (RX7, TX7, 1) := ⟨wr23 _ (List.mem_of_getElem? (i := 20) rfl), wr23 _ (List.mem_of_getElem? (i := 21) rfl), rfl⟩
theorem cfX7_15 : CfB RX7 15 yX7_settleSteps cX7_settleSteps 9 none 2 := ⟨wr23 _ (List.mem_of_getElem? (i := 7) rfl), wr2 _ (List.mem_of_getElem? (i := 6) rfl), wr23 _ (List.mem_of_getElem? (i := 10) rfl), by decide +kernel⟩
theorem viX7_settleSteps : Cond.instanceMethod yX7_settleSteps ∈ wsL_law ∧ Cond.selects RX7 yX7_settleSteps yX7_settleSteps ∈ wsL_law ∧ vwCl[6]? = some (RX7, TX7, 1) := ⟨wr23 _ (List.mem_of_getElem? (i := 8) rfl), wr23 _ (List.mem_of_getElem? (i := 9) rfl), rfl⟩
theorem cfX7_19 : CfB RX7 19 yX1_placeOf cX1_placeOf 2 (some .int) 1 := ⟨wr23 _ (List.mem_of_getElem? (i := 23) rfl), wr1 _ (List.mem_of_getElem? (i := 14) rfl), wr8 _ (List.mem_of_getElem? (i := 15) rfl), by decide +kernel⟩
theorem cfX7_49 : CfB RX7 49 yX1_rungsToLease cX1_rungsToLease 3 (some .int) 0 := ⟨wr25 _ (List.mem_of_getElem? (i := 13) rfl), wr1 _ (List.mem_of_getElem? (i := 14) rfl), wr25 _ (List.mem_of_getElem? (i := 16) rfl), by decide +kernel⟩
theorem viX1_rungsToLease : Cond.instanceMethod yX1_rungsToLease ∈ wsL_law ∧ Cond.selects RX1 yX1_rungsToLease yX1_rungsToLease ∈ wsL_law ∧ vwCl[1]? = some (RX1, TX1, 11) := ⟨wr25 _ (List.mem_of_getElem? (i := 14) rfl), wr25 _ (List.mem_of_getElem? (i := 15) rfl), rfl⟩
theorem cfX7_53 : CfN RX7 53 yX9_bitOf cX9_bitOf 1 (some .int) 1 := ⟨by decide +kernel, wr1 _ (List.mem_of_getElem? (i := 2) rfl), wr7 _ (List.mem_of_getElem? (i := 15) rfl), by decide +kernel⟩
theorem cfX7_45 : CfB RX7 45 yX7_leaseCost cX7_leaseCost 10 (some .int) 2 := ⟨wr25 _ (List.mem_of_getElem? (i := 9) rfl), wr2 _ (List.mem_of_getElem? (i := 6) rfl), wr25 _ (List.mem_of_getElem? (i := 12) rfl), by decide +kernel⟩
theorem viX7_leaseCost : Cond.instanceMethod yX7_leaseCost ∈ wsL_law ∧ Cond.selects RX7 yX7_leaseCost yX7_leaseCost ∈ wsL_law ∧ vwCl[6]? = some (RX7, TX7, 1) := ⟨wr25 _ (List.mem_of_getElem? (i := 10) rfl), wr25 _ (List.mem_of_getElem? (i := 11) rfl), rfl⟩
theorem cfX8_40 : CfB RX8 40 yX1_strideOf cX1_strideOf 2 (some .int) 1 := ⟨wr29 _ (List.mem_of_getElem? (i := 16) rfl), wr1 _ (List.mem_of_getElem? (i := 14) rfl), wr15 _ (List.mem_of_getElem? (i := 5) rfl), by decide +kernel⟩
theorem cfX8_43 : CfB RX8 43 yX1_mayBeOn cX1_mayBeOn 3 (some .boolean) 2 := ⟨wr29 _ (List.mem_of_getElem? (i := 17) rfl), wr1 _ (List.mem_of_getElem? (i := 14) rfl), wr15 _ (List.mem_of_getElem? (i := 13) rfl), by decide +kernel⟩
theorem cfX8_32 : CfB RX8 32 yX8_nextPlace cX8_nextPlace 7 (some .int) 4 := ⟨wr29 _ (List.mem_of_getElem? (i := 13) rfl), wr2 _ (List.mem_of_getElem? (i := 14) rfl), wr29 _ (List.mem_of_getElem? (i := 15) rfl), by decide +kernel⟩
theorem cfX8_36 : CfN RX8 36 yX9_bitOf cX9_bitOf 1 (some .int) 1 := ⟨by decide +kernel, wr1 _ (List.mem_of_getElem? (i := 2) rfl), wr7 _ (List.mem_of_getElem? (i := 15) rfl), by decide +kernel⟩
theorem ffX8_18 : FF RX8 18 7 2 := ⟨RX8, TX8, 3, rfl, inlX8, by decide, wr5 _ (List.mem_of_getElem? (i := 10) rfl)⟩
theorem fpX8_18 : FP RX8 18 7 2 .int false := ⟨RX8, TX8, 3, tyX8, rfl, inlX8, by decide, wr5 _ (List.mem_of_getElem? (i := 10) rfl), tyX8_ok, nmX8, rfl, by decide +kernel, rfl⟩
theorem cfX8_22 : CfB RX8 22 yX8_trailOf cX8_trailOf 7 (some .int) 3 := ⟨wr29 _ (List.mem_of_getElem? (i := 10) rfl), wr2 _ (List.mem_of_getElem? (i := 14) rfl), wr29 _ (List.mem_of_getElem? (i := 12) rfl), by decide +kernel⟩
theorem cfX8_26 : CfB RX8 26 yX1_sightsFit cX1_sightsFit 2 (some .boolean) 1 := ⟨wr29 _ (List.mem_of_getElem? (i := 18) rfl), wr1 _ (List.mem_of_getElem? (i := 14) rfl), wr29 _ (List.mem_of_getElem? (i := 21) rfl), by decide +kernel⟩
theorem viX1_sightsFit : Cond.instanceMethod yX1_sightsFit ∈ wsL_law ∧ Cond.selects RX1 yX1_sightsFit yX1_sightsFit ∈ wsL_law ∧ vwCl[1]? = some (RX1, TX1, 11) := ⟨wr29 _ (List.mem_of_getElem? (i := 19) rfl), wr29 _ (List.mem_of_getElem? (i := 20) rfl), rfl⟩
theorem ffX8_9 : FF RX8 9 7 0 := ⟨RX8, TX8, 3, rfl, inlX8, by decide, wr5 _ (List.mem_of_getElem? (i := 8) rfl)⟩
theorem ffX8_15 : FF RX8 15 7 1 := ⟨RX8, TX8, 3, rfl, inlX8, by decide, wr5 _ (List.mem_of_getElem? (i := 9) rfl)⟩
theorem cmX8_50 : Cond.methodLink RX8 50 Lib.Math.max.name ∈ wsL_law ∧ Cond.static Lib.Math.max.name ∈ wsL_law ∧ Cond.initialized "java/lang/Math" ∈ wsL_law ∧ Cond.code Lib.Math.max.name Lib.Math.max.code 2 (some .int) ∈ wsL_law := ⟨wr31 _ (List.mem_of_getElem? (i := 6) rfl), wr31 _ (List.mem_of_getElem? (i := 7) rfl), wr14 _ (List.mem_of_getElem? (i := 19) rfl), wr31 _ (List.mem_of_getElem? (i := 8) rfl)⟩
theorem cfX8_47 : CfB RX8 47 yX8_mostLeftBy cX8_mostLeftBy 4 (some .int) 1 := ⟨wr31 _ (List.mem_of_getElem? (i := 2) rfl), wr2 _ (List.mem_of_getElem? (i := 14) rfl), wr31 _ (List.mem_of_getElem? (i := 5) rfl), by decide +kernel⟩
theorem viX8_mostLeftBy : Cond.instanceMethod yX8_mostLeftBy ∈ wsL_law ∧ Cond.selects RX8 yX8_mostLeftBy yX8_mostLeftBy ∈ wsL_law ∧ vwCl[7]? = some (RX8, TX8, 3) := ⟨wr31 _ (List.mem_of_getElem? (i := 3) rfl), wr31 _ (List.mem_of_getElem? (i := 4) rfl), rfl⟩
theorem cfX9_91 : CfB RX9 91 yX9_isMan cX9_isMan 1 (some .boolean) 1 := ⟨wr6 _ (List.mem_of_getElem? (i := 21) rfl), wr1 _ (List.mem_of_getElem? (i := 2) rfl), wr6 _ (List.mem_of_getElem? (i := 23) rfl), by decide +kernel⟩
theorem cfX9_94 : CfB RX9 94 yX9_within cX9_within 3 (some .boolean) 3 := ⟨wr7 _ (List.mem_of_getElem? (i := 3) rfl), wr1 _ (List.mem_of_getElem? (i := 2) rfl), wr7 _ (List.mem_of_getElem? (i := 5) rfl), by decide +kernel⟩
theorem cfX9_69 : CfB RX9 69 yX9_isRung cX9_isRung 1 (some .boolean) 1 := ⟨wr6 _ (List.mem_of_getElem? (i := 15) rfl), wr1 _ (List.mem_of_getElem? (i := 2) rfl), wr6 _ (List.mem_of_getElem? (i := 17) rfl), by decide +kernel⟩
theorem cfX9_73 : CfB RX9 73 yX9_isManOrNobody cX9_isManOrNobody 1 (some .boolean) 1 := ⟨wr6 _ (List.mem_of_getElem? (i := 18) rfl), wr1 _ (List.mem_of_getElem? (i := 2) rfl), wr6 _ (List.mem_of_getElem? (i := 20) rfl), by decide +kernel⟩
theorem cfX9_76 : CfB RX9 76 yX9_rightsFit cX9_rightsFit 3 (some .boolean) 3 := ⟨wr7 _ (List.mem_of_getElem? (i := 0) rfl), wr1 _ (List.mem_of_getElem? (i := 2) rfl), wr7 _ (List.mem_of_getElem? (i := 2) rfl), by decide +kernel⟩
theorem ffX9_12 : FF RX9 12 8 0 := ⟨RX9, TX9, 9, rfl, inlX9, by decide, wr1 _ (List.mem_of_getElem? (i := 15) rfl)⟩
theorem cfX9_80 : CfB RX9 80 yX1_ownerOf cX1_ownerOf 2 (some .int) 1 := ⟨wr7 _ (List.mem_of_getElem? (i := 6) rfl), wr1 _ (List.mem_of_getElem? (i := 14) rfl), wr7 _ (List.mem_of_getElem? (i := 9) rfl), by decide +kernel⟩
theorem cfX9_84 : CfB RX9 84 yX1_setRung cX1_setRung 5 none 4 := ⟨wr7 _ (List.mem_of_getElem? (i := 10) rfl), wr1 _ (List.mem_of_getElem? (i := 14) rfl), wr7 _ (List.mem_of_getElem? (i := 13) rfl), by decide +kernel⟩
theorem cfX9_88 : CfB RX9 88 yX9_orNone cX9_orNone 1 (some .int) 1 := ⟨wr7 _ (List.mem_of_getElem? (i := 16) rfl), wr1 _ (List.mem_of_getElem? (i := 2) rfl), wr7 _ (List.mem_of_getElem? (i := 18) rfl), by decide +kernel⟩
theorem cfX9_97 : CfB RX9 97 yX9_isPlace cX9_isPlace 1 (some .boolean) 1 := ⟨wr8 _ (List.mem_of_getElem? (i := 9) rfl), wr1 _ (List.mem_of_getElem? (i := 2) rfl), wr8 _ (List.mem_of_getElem? (i := 11) rfl), by decide +kernel⟩
theorem cfX9_100 : CfB RX9 100 yX1_placeOf cX1_placeOf 2 (some .int) 1 := ⟨wr8 _ (List.mem_of_getElem? (i := 12) rfl), wr1 _ (List.mem_of_getElem? (i := 14) rfl), wr8 _ (List.mem_of_getElem? (i := 15) rfl), by decide +kernel⟩
theorem cfX9_103 : CfB RX9 103 yX1_coinsOf cX1_coinsOf 2 (some .int) 1 := ⟨wr8 _ (List.mem_of_getElem? (i := 16) rfl), wr1 _ (List.mem_of_getElem? (i := 14) rfl), wr8 _ (List.mem_of_getElem? (i := 19) rfl), by decide +kernel⟩
theorem cfX9_106 : CfB RX9 106 yX1_setMan cX1_setMan 5 none 4 := ⟨wr8 _ (List.mem_of_getElem? (i := 20) rfl), wr1 _ (List.mem_of_getElem? (i := 14) rfl), wr8 _ (List.mem_of_getElem? (i := 23) rfl), by decide +kernel⟩
theorem viX1_setMan : Cond.instanceMethod yX1_setMan ∈ wsL_law ∧ Cond.selects RX1 yX1_setMan yX1_setMan ∈ wsL_law ∧ vwCl[1]? = some (RX1, TX1, 11) := ⟨wr8 _ (List.mem_of_getElem? (i := 21) rfl), wr8 _ (List.mem_of_getElem? (i := 22) rfl), rfl⟩
theorem ffX9_19 : FF RX9 19 8 1 := ⟨RX9, TX9, 9, rfl, inlX9, by decide, wr1 _ (List.mem_of_getElem? (i := 19) rfl)⟩
theorem cfX9_110 : CfB RX9 110 yX5_add cX5_add 2 (some .boolean) 1 := ⟨wr9 _ (List.mem_of_getElem? (i := 11) rfl), wr1 _ (List.mem_of_getElem? (i := 18) rfl), wr9 _ (List.mem_of_getElem? (i := 14) rfl), by decide +kernel⟩
theorem viX5_add : Cond.instanceMethod yX5_add ∈ wsL_law ∧ Cond.selects RX5 yX5_add yX5_add ∈ wsL_law ∧ vwCl[4]? = some (RX5, TX5, 2) := ⟨wr9 _ (List.mem_of_getElem? (i := 12) rfl), wr9 _ (List.mem_of_getElem? (i := 13) rfl), rfl⟩
theorem cfX9_113 : CfB RX9 113 yX5_size cX5_size 1 (some .int) 0 := ⟨wr9 _ (List.mem_of_getElem? (i := 15) rfl), wr1 _ (List.mem_of_getElem? (i := 18) rfl), wr9 _ (List.mem_of_getElem? (i := 18) rfl), by decide +kernel⟩
theorem cfX9_117 : CfB RX9 117 yX5_clear cX5_clear 1 none 0 := ⟨wr10 _ (List.mem_of_getElem? (i := 4) rfl), wr1 _ (List.mem_of_getElem? (i := 18) rfl), wr10 _ (List.mem_of_getElem? (i := 7) rfl), by decide +kernel⟩
theorem viX5_clear : Cond.instanceMethod yX5_clear ∈ wsL_law ∧ Cond.selects RX5 yX5_clear yX5_clear ∈ wsL_law ∧ vwCl[4]? = some (RX5, TX5, 2) := ⟨wr10 _ (List.mem_of_getElem? (i := 5) rfl), wr10 _ (List.mem_of_getElem? (i := 6) rfl), rfl⟩
theorem cfX9_120 : CfB RX9 120 yX5_firstFault cX5_firstFault 5 (some .int) 0 := ⟨wr10 _ (List.mem_of_getElem? (i := 16) rfl), wr1 _ (List.mem_of_getElem? (i := 18) rfl), wr10 _ (List.mem_of_getElem? (i := 19) rfl), by decide +kernel⟩
theorem ffX9_33 : FF RX9 33 8 3 := ⟨RX9, TX9, 9, rfl, inlX9, by decide, wr2 _ (List.mem_of_getElem? (i := 3) rfl)⟩
theorem cfX9_123 : CfB RX9 123 yX4_burn cX4_burn 6 (some .boolean) 2 := ⟨wr12 _ (List.mem_of_getElem? (i := 11) rfl), wr2 _ (List.mem_of_getElem? (i := 2) rfl), wr12 _ (List.mem_of_getElem? (i := 14) rfl), by decide +kernel⟩
theorem viX4_burn : Cond.instanceMethod yX4_burn ∈ wsL_law ∧ Cond.selects RX4 yX4_burn yX4_burn ∈ wsL_law ∧ vwCl[3]? = some (RX4, TX4, 8) := ⟨wr12 _ (List.mem_of_getElem? (i := 12) rfl), wr12 _ (List.mem_of_getElem? (i := 13) rfl), rfl⟩
theorem cfX9_127 : CfB RX9 127 yX4_actsDone cX4_actsDone 1 (some .int) 0 := ⟨wr17 _ (List.mem_of_getElem? (i := 0) rfl), wr2 _ (List.mem_of_getElem? (i := 2) rfl), wr17 _ (List.mem_of_getElem? (i := 3) rfl), by decide +kernel⟩
theorem viX4_actsDone : Cond.instanceMethod yX4_actsDone ∈ wsL_law ∧ Cond.selects RX4 yX4_actsDone yX4_actsDone ∈ wsL_law ∧ vwCl[3]? = some (RX4, TX4, 8) := ⟨wr17 _ (List.mem_of_getElem? (i := 1) rfl), wr17 _ (List.mem_of_getElem? (i := 2) rfl), rfl⟩
theorem cfX9_130 : CfB RX9 130 yX4_reason cX4_reason 1 (some .int) 0 := ⟨wr17 _ (List.mem_of_getElem? (i := 4) rfl), wr2 _ (List.mem_of_getElem? (i := 2) rfl), wr17 _ (List.mem_of_getElem? (i := 7) rfl), by decide +kernel⟩
theorem viX4_reason : Cond.instanceMethod yX4_reason ∈ wsL_law ∧ Cond.selects RX4 yX4_reason yX4_reason ∈ wsL_law ∧ vwCl[3]? = some (RX4, TX4, 8) := ⟨wr17 _ (List.mem_of_getElem? (i := 5) rfl), wr17 _ (List.mem_of_getElem? (i := 6) rfl), rfl⟩
theorem cfX9_133 : CfB RX9 133 yX4_behindIt cX4_behindIt 1 (some (.object "RungRights$Brigade")) 0 := ⟨wr19 _ (List.mem_of_getElem? (i := 21) rfl), wr2 _ (List.mem_of_getElem? (i := 2) rfl), wr20 _ (List.mem_of_getElem? (i := 0) rfl), by decide +kernel⟩
theorem viX4_behindIt : Cond.instanceMethod yX4_behindIt ∈ wsL_law ∧ Cond.selects RX4 yX4_behindIt yX4_behindIt ∈ wsL_law ∧ vwCl[3]? = some (RX4, TX4, 8) := ⟨wr19 _ (List.mem_of_getElem? (i := 22) rfl), wr19 _ (List.mem_of_getElem? (i := 23) rfl), rfl⟩
theorem cfX9_137 : CfB RX9 137 yX1_copyFrom cX1_copyFrom 2 none 1 := ⟨wr20 _ (List.mem_of_getElem? (i := 1) rfl), wr1 _ (List.mem_of_getElem? (i := 14) rfl), wr12 _ (List.mem_of_getElem? (i := 22) rfl), by decide +kernel⟩
theorem cfX9_141 : CfB RX9 141 yX1_rungsOpenTo cX1_rungsOpenTo 4 (some .int) 1 := ⟨wr20 _ (List.mem_of_getElem? (i := 14) rfl), wr1 _ (List.mem_of_getElem? (i := 14) rfl), wr20 _ (List.mem_of_getElem? (i := 17) rfl), by decide +kernel⟩
theorem cfX9_144 : CfB RX9 144 yX1_hasStepped cX1_hasStepped 2 (some .boolean) 1 := ⟨wr20 _ (List.mem_of_getElem? (i := 18) rfl), wr1 _ (List.mem_of_getElem? (i := 14) rfl), wr15 _ (List.mem_of_getElem? (i := 0) rfl), by decide +kernel⟩
theorem cfX9_147 : CfB RX9 147 yX1_leaserOf cX1_leaserOf 2 (some .int) 1 := ⟨wr21 _ (List.mem_of_getElem? (i := 7) rfl), wr1 _ (List.mem_of_getElem? (i := 14) rfl), wr16 _ (List.mem_of_getElem? (i := 2) rfl), by decide +kernel⟩
theorem cfX9_150 : CfB RX9 150 yX1_firstManOn cX1_firstManOn 3 (some .int) 1 := ⟨wr21 _ (List.mem_of_getElem? (i := 8) rfl), wr1 _ (List.mem_of_getElem? (i := 14) rfl), wr15 _ (List.mem_of_getElem? (i := 17) rfl), by decide +kernel⟩
theorem cfX9_153 : CfB RX9 153 yX1_isMissing cX1_isMissing 2 (some .boolean) 1 := ⟨wr21 _ (List.mem_of_getElem? (i := 9) rfl), wr1 _ (List.mem_of_getElem? (i := 14) rfl), wr15 _ (List.mem_of_getElem? (i := 9) rfl), by decide +kernel⟩
theorem cfX9_156 : CfB RX9 156 yX1_beatNow cX1_beatNow 1 (some .int) 0 := ⟨wr21 _ (List.mem_of_getElem? (i := 18) rfl), wr1 _ (List.mem_of_getElem? (i := 14) rfl), wr21 _ (List.mem_of_getElem? (i := 21) rfl), by decide +kernel⟩
theorem viX1_beatNow : Cond.instanceMethod yX1_beatNow ∈ wsL_law ∧ Cond.selects RX1 yX1_beatNow yX1_beatNow ∈ wsL_law ∧ vwCl[1]? = some (RX1, TX1, 11) := ⟨wr21 _ (List.mem_of_getElem? (i := 19) rfl), wr21 _ (List.mem_of_getElem? (i := 20) rfl), rfl⟩
theorem cfX9_159 : CfB RX9 159 yX1_menOnRoof cX1_menOnRoof 3 (some .int) 0 := ⟨wr21 _ (List.mem_of_getElem? (i := 22) rfl), wr1 _ (List.mem_of_getElem? (i := 14) rfl), wr22 _ (List.mem_of_getElem? (i := 1) rfl), by decide +kernel⟩
theorem viX1_menOnRoof : Cond.instanceMethod yX1_menOnRoof ∈ wsL_law ∧ Cond.selects RX1 yX1_menOnRoof yX1_menOnRoof ∈ wsL_law ∧ vwCl[1]? = some (RX1, TX1, 11) := ⟨wr21 _ (List.mem_of_getElem? (i := 23) rfl), wr22 _ (List.mem_of_getElem? (i := 0) rfl), rfl⟩
theorem cfX9_162 : CfB RX9 162 yX4_stepsMade cX4_stepsMade 1 (some .int) 0 := ⟨wr22 _ (List.mem_of_getElem? (i := 2) rfl), wr2 _ (List.mem_of_getElem? (i := 2) rfl), wr22 _ (List.mem_of_getElem? (i := 5) rfl), by decide +kernel⟩
theorem viX4_stepsMade : Cond.instanceMethod yX4_stepsMade ∈ wsL_law ∧ Cond.selects RX4 yX4_stepsMade yX4_stepsMade ∈ wsL_law ∧ vwCl[3]? = some (RX4, TX4, 8) := ⟨wr22 _ (List.mem_of_getElem? (i := 3) rfl), wr22 _ (List.mem_of_getElem? (i := 4) rfl), rfl⟩
theorem cfX9_165 : CfB RX9 165 yX4_coinsPaid cX4_coinsPaid 1 (some .int) 0 := ⟨wr22 _ (List.mem_of_getElem? (i := 6) rfl), wr2 _ (List.mem_of_getElem? (i := 2) rfl), wr22 _ (List.mem_of_getElem? (i := 9) rfl), by decide +kernel⟩
theorem viX4_coinsPaid : Cond.instanceMethod yX4_coinsPaid ∈ wsL_law ∧ Cond.selects RX4 yX4_coinsPaid yX4_coinsPaid ∈ wsL_law ∧ vwCl[3]? = some (RX4, TX4, 8) := ⟨wr22 _ (List.mem_of_getElem? (i := 7) rfl), wr22 _ (List.mem_of_getElem? (i := 8) rfl), rfl⟩
theorem cfX9_168 : CfB RX9 168 yX4_firstActUp cX4_firstActUp 1 (some .int) 0 := ⟨wr22 _ (List.mem_of_getElem? (i := 10) rfl), wr2 _ (List.mem_of_getElem? (i := 2) rfl), wr22 _ (List.mem_of_getElem? (i := 13) rfl), by decide +kernel⟩
theorem viX4_firstActUp : Cond.instanceMethod yX4_firstActUp ∈ wsL_law ∧ Cond.selects RX4 yX4_firstActUp yX4_firstActUp ∈ wsL_law ∧ vwCl[3]? = some (RX4, TX4, 8) := ⟨wr22 _ (List.mem_of_getElem? (i := 11) rfl), wr22 _ (List.mem_of_getElem? (i := 12) rfl), rfl⟩
theorem cfX9_171 : CfB RX9 171 yX4_firstManUp cX4_firstManUp 1 (some .int) 0 := ⟨wr22 _ (List.mem_of_getElem? (i := 14) rfl), wr2 _ (List.mem_of_getElem? (i := 2) rfl), wr22 _ (List.mem_of_getElem? (i := 17) rfl), by decide +kernel⟩
theorem viX4_firstManUp : Cond.instanceMethod yX4_firstManUp ∈ wsL_law ∧ Cond.selects RX4 yX4_firstManUp yX4_firstManUp ∈ wsL_law ∧ vwCl[3]? = some (RX4, TX4, 8) := ⟨wr22 _ (List.mem_of_getElem? (i := 15) rfl), wr22 _ (List.mem_of_getElem? (i := 16) rfl), rfl⟩
theorem ffX9_40 : FF RX9 40 8 4 := ⟨RX9, TX9, 9, rfl, inlX9, by decide, wr2 _ (List.mem_of_getElem? (i := 7) rfl)⟩
theorem cfX9_174 : CfB RX9 174 yX7_fewestSteps cX7_fewestSteps 4 (some .int) 2 := ⟨wr23 _ (List.mem_of_getElem? (i := 2) rfl), wr2 _ (List.mem_of_getElem? (i := 6) rfl), wr23 _ (List.mem_of_getElem? (i := 5) rfl), by decide +kernel⟩
theorem viX7_fewestSteps : Cond.instanceMethod yX7_fewestSteps ∈ wsL_law ∧ Cond.selects RX7 yX7_fewestSteps yX7_fewestSteps ∈ wsL_law ∧ vwCl[6]? = some (RX7, TX7, 1) := ⟨wr23 _ (List.mem_of_getElem? (i := 3) rfl), wr23 _ (List.mem_of_getElem? (i := 4) rfl), rfl⟩
theorem cfX9_178 : CfB RX9 178 yX7_firstStep cX7_firstStep 8 (some .int) 2 := ⟨wr24 _ (List.mem_of_getElem? (i := 0) rfl), wr2 _ (List.mem_of_getElem? (i := 6) rfl), wr24 _ (List.mem_of_getElem? (i := 3) rfl), by decide +kernel⟩
theorem viX7_firstStep : Cond.instanceMethod yX7_firstStep ∈ wsL_law ∧ Cond.selects RX7 yX7_firstStep yX7_firstStep ∈ wsL_law ∧ vwCl[6]? = some (RX7, TX7, 1) := ⟨wr24 _ (List.mem_of_getElem? (i := 1) rfl), wr24 _ (List.mem_of_getElem? (i := 2) rfl), rfl⟩
theorem cfX9_181 : CfB RX9 181 yX7_countUp cX7_countUp 9 (some .int) 2 := ⟨wr24 _ (List.mem_of_getElem? (i := 17) rfl), wr2 _ (List.mem_of_getElem? (i := 6) rfl), wr24 _ (List.mem_of_getElem? (i := 20) rfl), by decide +kernel⟩
theorem viX7_countUp : Cond.instanceMethod yX7_countUp ∈ wsL_law ∧ Cond.selects RX7 yX7_countUp yX7_countUp ∈ wsL_law ∧ vwCl[6]? = some (RX7, TX7, 1) := ⟨wr24 _ (List.mem_of_getElem? (i := 18) rfl), wr24 _ (List.mem_of_getElem? (i := 19) rfl), rfl⟩
theorem cfX9_184 : CfB RX9 184 yX7_fewestLeases cX7_fewestLeases 4 (some .int) 2 := ⟨wr25 _ (List.mem_of_getElem? (i := 5) rfl), wr2 _ (List.mem_of_getElem? (i := 6) rfl), wr25 _ (List.mem_of_getElem? (i := 8) rfl), by decide +kernel⟩
theorem viX7_fewestLeases : Cond.instanceMethod yX7_fewestLeases ∈ wsL_law ∧ Cond.selects RX7 yX7_fewestLeases yX7_fewestLeases ∈ wsL_law ∧ vwCl[6]? = some (RX7, TX7, 1) := ⟨wr25 _ (List.mem_of_getElem? (i := 6) rfl), wr25 _ (List.mem_of_getElem? (i := 7) rfl), rfl⟩
theorem cfX9_187 : CfB RX9 187 yX7_leastLeased cX7_leastLeased 4 (some .int) 2 := ⟨wr25 _ (List.mem_of_getElem? (i := 17) rfl), wr2 _ (List.mem_of_getElem? (i := 6) rfl), wr25 _ (List.mem_of_getElem? (i := 20) rfl), by decide +kernel⟩
theorem viX7_leastLeased : Cond.instanceMethod yX7_leastLeased ∈ wsL_law ∧ Cond.selects RX7 yX7_leastLeased yX7_leastLeased ∈ wsL_law ∧ vwCl[6]? = some (RX7, TX7, 1) := ⟨wr25 _ (List.mem_of_getElem? (i := 18) rfl), wr25 _ (List.mem_of_getElem? (i := 19) rfl), rfl⟩
theorem ffX9_47 : FF RX9 47 8 5 := ⟨RX9, TX9, 9, rfl, inlX9, by decide, wr2 _ (List.mem_of_getElem? (i := 11) rfl)⟩
theorem cfX9_190 : CfB RX9 190 yX6_assign cX6_assign 4 none 1 := ⟨wr26 _ (List.mem_of_getElem? (i := 8) rfl), wr2 _ (List.mem_of_getElem? (i := 10) rfl), wr26 _ (List.mem_of_getElem? (i := 11) rfl), by decide +kernel⟩
theorem viX6_assign : Cond.instanceMethod yX6_assign ∈ wsL_law ∧ Cond.selects RX6 yX6_assign yX6_assign ∈ wsL_law ∧ vwCl[5]? = some (RX6, TX6, 3) := ⟨wr26 _ (List.mem_of_getElem? (i := 9) rfl), wr26 _ (List.mem_of_getElem? (i := 10) rfl), rfl⟩
theorem cfX9_193 : CfB RX9 193 yX6_menPosted cX6_menPosted 1 (some .int) 0 := ⟨wr27 _ (List.mem_of_getElem? (i := 5) rfl), wr2 _ (List.mem_of_getElem? (i := 10) rfl), wr27 _ (List.mem_of_getElem? (i := 8) rfl), by decide +kernel⟩
theorem viX6_menPosted : Cond.instanceMethod yX6_menPosted ∈ wsL_law ∧ Cond.selects RX6 yX6_menPosted yX6_menPosted ∈ wsL_law ∧ vwCl[5]? = some (RX6, TX6, 3) := ⟨wr27 _ (List.mem_of_getElem? (i := 6) rfl), wr27 _ (List.mem_of_getElem? (i := 7) rfl), rfl⟩
theorem cfX9_196 : CfB RX9 196 yX6_rungOf cX6_rungOf 2 (some .int) 1 := ⟨wr27 _ (List.mem_of_getElem? (i := 9) rfl), wr2 _ (List.mem_of_getElem? (i := 10) rfl), wr27 _ (List.mem_of_getElem? (i := 12) rfl), by decide +kernel⟩
theorem viX6_rungOf : Cond.instanceMethod yX6_rungOf ∈ wsL_law ∧ Cond.selects RX6 yX6_rungOf yX6_rungOf ∈ wsL_law ∧ vwCl[5]? = some (RX6, TX6, 3) := ⟨wr27 _ (List.mem_of_getElem? (i := 10) rfl), wr27 _ (List.mem_of_getElem? (i := 11) rfl), rfl⟩
theorem cfX9_199 : CfB RX9 199 yX1_addSight cX1_addSight 3 (some .boolean) 2 := ⟨wr28 _ (List.mem_of_getElem? (i := 1) rfl), wr1 _ (List.mem_of_getElem? (i := 14) rfl), wr28 _ (List.mem_of_getElem? (i := 4) rfl), by decide +kernel⟩
theorem viX1_addSight : Cond.instanceMethod yX1_addSight ∈ wsL_law ∧ Cond.selects RX1 yX1_addSight yX1_addSight ∈ wsL_law ∧ vwCl[1]? = some (RX1, TX1, 11) := ⟨wr28 _ (List.mem_of_getElem? (i := 2) rfl), wr28 _ (List.mem_of_getElem? (i := 3) rfl), rfl⟩
theorem cfX9_203 : CfB RX9 203 yX1_sightCount cX1_sightCount 1 (some .int) 0 := ⟨wr28 _ (List.mem_of_getElem? (i := 5) rfl), wr1 _ (List.mem_of_getElem? (i := 14) rfl), wr28 _ (List.mem_of_getElem? (i := 8) rfl), by decide +kernel⟩
theorem viX1_sightCount : Cond.instanceMethod yX1_sightCount ∈ wsL_law ∧ Cond.selects RX1 yX1_sightCount yX1_sightCount ∈ wsL_law ∧ vwCl[1]? = some (RX1, TX1, 11) := ⟨wr28 _ (List.mem_of_getElem? (i := 6) rfl), wr28 _ (List.mem_of_getElem? (i := 7) rfl), rfl⟩
theorem cfX9_206 : CfB RX9 206 yX1_clearSights cX1_clearSights 1 none 0 := ⟨wr28 _ (List.mem_of_getElem? (i := 18) rfl), wr1 _ (List.mem_of_getElem? (i := 14) rfl), wr28 _ (List.mem_of_getElem? (i := 21) rfl), by decide +kernel⟩
theorem viX1_clearSights : Cond.instanceMethod yX1_clearSights ∈ wsL_law ∧ Cond.selects RX1 yX1_clearSights yX1_clearSights ∈ wsL_law ∧ vwCl[1]? = some (RX1, TX1, 11) := ⟨wr28 _ (List.mem_of_getElem? (i := 19) rfl), wr28 _ (List.mem_of_getElem? (i := 20) rfl), rfl⟩
theorem ffX9_54 : FF RX9 54 8 6 := ⟨RX9, TX9, 9, rfl, inlX9, by decide, wr2 _ (List.mem_of_getElem? (i := 15) rfl)⟩
theorem cfX9_209 : CfB RX9 209 yX8_find cX8_find 5 none 1 := ⟨wr29 _ (List.mem_of_getElem? (i := 6) rfl), wr2 _ (List.mem_of_getElem? (i := 14) rfl), wr29 _ (List.mem_of_getElem? (i := 9) rfl), by decide +kernel⟩
theorem viX8_find : Cond.instanceMethod yX8_find ∈ wsL_law ∧ Cond.selects RX8 yX8_find yX8_find ∈ wsL_law ∧ vwCl[7]? = some (RX8, TX8, 3) := ⟨wr29 _ (List.mem_of_getElem? (i := 7) rfl), wr29 _ (List.mem_of_getElem? (i := 8) rfl), rfl⟩
theorem cfX9_212 : CfB RX9 212 yX8_size cX8_size 1 (some .int) 0 := ⟨wr29 _ (List.mem_of_getElem? (i := 22) rfl), wr2 _ (List.mem_of_getElem? (i := 14) rfl), wr30 _ (List.mem_of_getElem? (i := 1) rfl), by decide +kernel⟩
theorem viX8_size : Cond.instanceMethod yX8_size ∈ wsL_law ∧ Cond.selects RX8 yX8_size yX8_size ∈ wsL_law ∧ vwCl[7]? = some (RX8, TX8, 3) := ⟨wr29 _ (List.mem_of_getElem? (i := 23) rfl), wr30 _ (List.mem_of_getElem? (i := 0) rfl), rfl⟩
theorem cfX9_213 : CfB RX9 213 yX8_codeAt cX8_codeAt 2 (some .int) 1 := ⟨wr30 _ (List.mem_of_getElem? (i := 2) rfl), wr2 _ (List.mem_of_getElem? (i := 14) rfl), wr30 _ (List.mem_of_getElem? (i := 5) rfl), by decide +kernel⟩
theorem viX8_codeAt : Cond.instanceMethod yX8_codeAt ∈ wsL_law ∧ Cond.selects RX8 yX8_codeAt yX8_codeAt ∈ wsL_law ∧ vwCl[7]? = some (RX8, TX8, 3) := ⟨wr30 _ (List.mem_of_getElem? (i := 3) rfl), wr30 _ (List.mem_of_getElem? (i := 4) rfl), rfl⟩
theorem cfX9_216 : CfB RX9 216 yX8_rungToFeel cX8_rungToFeel 3 (some .int) 0 := ⟨wr30 _ (List.mem_of_getElem? (i := 22) rfl), wr2 _ (List.mem_of_getElem? (i := 14) rfl), wr31 _ (List.mem_of_getElem? (i := 1) rfl), by decide +kernel⟩
theorem viX8_rungToFeel : Cond.instanceMethod yX8_rungToFeel ∈ wsL_law ∧ Cond.selects RX8 yX8_rungToFeel yX8_rungToFeel ∈ wsL_law ∧ vwCl[7]? = some (RX8, TX8, 3) := ⟨wr30 _ (List.mem_of_getElem? (i := 23) rfl), wr31 _ (List.mem_of_getElem? (i := 0) rfl), rfl⟩
theorem cfX9_219 : CfB RX9 219 yX8_mostLeftBy cX8_mostLeftBy 4 (some .int) 1 := ⟨wr31 _ (List.mem_of_getElem? (i := 9) rfl), wr2 _ (List.mem_of_getElem? (i := 14) rfl), wr31 _ (List.mem_of_getElem? (i := 5) rfl), by decide +kernel⟩
theorem cfX9_222 : CfB RX9 222 yX2_canWin cX2_canWin 1 (some .boolean) 1 := ⟨wr31 _ (List.mem_of_getElem? (i := 18) rfl), wr31 _ (List.mem_of_getElem? (i := 20) rfl), wr31 _ (List.mem_of_getElem? (i := 21) rfl), by decide +kernel⟩
theorem cfX9_227 : CfB RX9 227 yX2_leastWinningMove cX2_leastWinningMove 4 (some .int) 1 := ⟨wr32 _ (List.mem_of_getElem? (i := 1) rfl), wr31 _ (List.mem_of_getElem? (i := 20) rfl), wr32 _ (List.mem_of_getElem? (i := 3) rfl), by decide +kernel⟩
theorem ffX9_61 : FF RX9 61 8 7 := ⟨RX9, TX9, 9, rfl, inlX9, by decide, wr2 _ (List.mem_of_getElem? (i := 19) rfl)⟩
theorem cfX9_234 : CfB RX9 234 yX3_chanceOn cX3_chanceOn 3 none 2 := ⟨wr32 _ (List.mem_of_getElem? (i := 19) rfl), wr2 _ (List.mem_of_getElem? (i := 18) rfl), wr32 _ (List.mem_of_getElem? (i := 22) rfl), by decide +kernel⟩
theorem viX3_chanceOn : Cond.instanceMethod yX3_chanceOn ∈ wsL_law ∧ Cond.selects RX3 yX3_chanceOn yX3_chanceOn ∈ wsL_law ∧ vwCl[2]? = some (RX3, TX3, 3) := ⟨wr32 _ (List.mem_of_getElem? (i := 20) rfl), wr32 _ (List.mem_of_getElem? (i := 21) rfl), rfl⟩
theorem cfX9_238 : CfB RX9 238 yX3_meanStepsTo cX3_meanStepsTo 4 none 2 := ⟨wr33 _ (List.mem_of_getElem? (i := 6) rfl), wr2 _ (List.mem_of_getElem? (i := 18) rfl), wr33 _ (List.mem_of_getElem? (i := 9) rfl), by decide +kernel⟩
theorem viX3_meanStepsTo : Cond.instanceMethod yX3_meanStepsTo ∈ wsL_law ∧ Cond.selects RX3 yX3_meanStepsTo yX3_meanStepsTo ∈ wsL_law ∧ vwCl[2]? = some (RX3, TX3, 3) := ⟨wr33 _ (List.mem_of_getElem? (i := 7) rfl), wr33 _ (List.mem_of_getElem? (i := 8) rfl), rfl⟩
theorem cfX9_241 : CfB RX9 241 yX3_upperNumber cX3_upperNumber 1 (some .long) 0 := ⟨wr33 _ (List.mem_of_getElem? (i := 10) rfl), wr2 _ (List.mem_of_getElem? (i := 18) rfl), wr33 _ (List.mem_of_getElem? (i := 13) rfl), by decide +kernel⟩
theorem viX3_upperNumber : Cond.instanceMethod yX3_upperNumber ∈ wsL_law ∧ Cond.selects RX3 yX3_upperNumber yX3_upperNumber ∈ wsL_law ∧ vwCl[2]? = some (RX3, TX3, 3) := ⟨wr33 _ (List.mem_of_getElem? (i := 11) rfl), wr33 _ (List.mem_of_getElem? (i := 12) rfl), rfl⟩
theorem cfX9_245 : CfB RX9 245 yX3_lowerNumber cX3_lowerNumber 1 (some .long) 0 := ⟨wr33 _ (List.mem_of_getElem? (i := 14) rfl), wr2 _ (List.mem_of_getElem? (i := 18) rfl), wr33 _ (List.mem_of_getElem? (i := 17) rfl), by decide +kernel⟩
theorem viX3_lowerNumber : Cond.instanceMethod yX3_lowerNumber ∈ wsL_law ∧ Cond.selects RX3 yX3_lowerNumber yX3_lowerNumber ∈ wsL_law ∧ vwCl[2]? = some (RX3, TX3, 3) := ⟨wr33 _ (List.mem_of_getElem? (i := 15) rfl), wr33 _ (List.mem_of_getElem? (i := 16) rfl), rfl⟩
theorem cfX9_270 : CfB RX9 270 yX4_begin cX4_begin 2 none 1 := ⟨wr34 _ (List.mem_of_getElem? (i := 9) rfl), wr2 _ (List.mem_of_getElem? (i := 2) rfl), wr12 _ (List.mem_of_getElem? (i := 18) rfl), by decide +kernel⟩
theorem ffX9_26 : FF RX9 26 8 2 := ⟨RX9, TX9, 9, rfl, inlX9, by decide, wr1 _ (List.mem_of_getElem? (i := 23) rfl)⟩
theorem cfX9_274 : CfB RX9 274 yX0_draw cX0_draw 6 none 2 := ⟨wr34 _ (List.mem_of_getElem? (i := 10) rfl), wr1 _ (List.mem_of_getElem? (i := 22) rfl), wr34 _ (List.mem_of_getElem? (i := 13) rfl), by decide +kernel⟩
theorem viX0_draw : Cond.instanceMethod yX0_draw ∈ wsL_law ∧ Cond.selects RX0 yX0_draw yX0_draw ∈ wsL_law ∧ vwCl[0]? = some (RX0, TX0, 3) := ⟨wr34 _ (List.mem_of_getElem? (i := 11) rfl), wr34 _ (List.mem_of_getElem? (i := 12) rfl), rfl⟩
theorem cfX9_278 : CfB RX9 278 yX4_attempt cX4_attempt 2 (some .boolean) 1 := ⟨wr34 _ (List.mem_of_getElem? (i := 22) rfl), wr2 _ (List.mem_of_getElem? (i := 2) rfl), wr13 _ (List.mem_of_getElem? (i := 20) rfl), by decide +kernel⟩
theorem cfX9_248 : CfB RX9 248 yX9_passYear cX9_passYear 5 none 2 := ⟨wr34 _ (List.mem_of_getElem? (i := 4) rfl), wr1 _ (List.mem_of_getElem? (i := 2) rfl), wr34 _ (List.mem_of_getElem? (i := 7) rfl), by decide +kernel⟩
theorem viX9_passYear : Cond.instanceMethod yX9_passYear ∈ wsL_law ∧ Cond.selects RX9 yX9_passYear yX9_passYear ∈ wsL_law ∧ vwCl[8]? = some (RX9, TX9, 9) := ⟨wr34 _ (List.mem_of_getElem? (i := 5) rfl), wr34 _ (List.mem_of_getElem? (i := 6) rfl), rfl⟩
theorem cfX9_267 : CfB RX9 267 yX1_strideOf cX1_strideOf 2 (some .int) 1 := ⟨wr36 _ (List.mem_of_getElem? (i := 15) rfl), wr1 _ (List.mem_of_getElem? (i := 14) rfl), wr15 _ (List.mem_of_getElem? (i := 5) rfl), by decide +kernel⟩
theorem cfX9_254 : CfB RX9 254 yX1_menStepped cX1_menStepped 1 (some .int) 0 := ⟨wr36 _ (List.mem_of_getElem? (i := 3) rfl), wr1 _ (List.mem_of_getElem? (i := 14) rfl), wr36 _ (List.mem_of_getElem? (i := 6) rfl), by decide +kernel⟩
theorem viX1_menStepped : Cond.instanceMethod yX1_menStepped ∈ wsL_law ∧ Cond.selects RX1 yX1_menStepped yX1_menStepped ∈ wsL_law ∧ vwCl[1]? = some (RX1, TX1, 11) := ⟨wr36 _ (List.mem_of_getElem? (i := 4) rfl), wr36 _ (List.mem_of_getElem? (i := 5) rfl), rfl⟩
theorem cfX9_257 : CfB RX9 257 yX1_rungsMissing cX1_rungsMissing 1 (some .int) 0 := ⟨wr36 _ (List.mem_of_getElem? (i := 7) rfl), wr1 _ (List.mem_of_getElem? (i := 14) rfl), wr36 _ (List.mem_of_getElem? (i := 10) rfl), by decide +kernel⟩
theorem viX1_rungsMissing : Cond.instanceMethod yX1_rungsMissing ∈ wsL_law ∧ Cond.selects RX1 yX1_rungsMissing yX1_rungsMissing ∈ wsL_law ∧ vwCl[1]? = some (RX1, TX1, 11) := ⟨wr36 _ (List.mem_of_getElem? (i := 8) rfl), wr36 _ (List.mem_of_getElem? (i := 9) rfl), rfl⟩
theorem cfX9_260 : CfB RX9 260 yX9_toldOfMan cX9_toldOfMan 3 (some .int) 2 := ⟨wr36 _ (List.mem_of_getElem? (i := 11) rfl), wr1 _ (List.mem_of_getElem? (i := 2) rfl), wr36 _ (List.mem_of_getElem? (i := 14) rfl), by decide +kernel⟩
theorem viX9_toldOfMan : Cond.instanceMethod yX9_toldOfMan ∈ wsL_law ∧ Cond.selects RX9 yX9_toldOfMan yX9_toldOfMan ∈ wsL_law ∧ vwCl[8]? = some (RX9, TX9, 9) := ⟨wr36 _ (List.mem_of_getElem? (i := 12) rfl), wr36 _ (List.mem_of_getElem? (i := 13) rfl), rfl⟩
theorem cfX9_264 : CfB RX9 264 yX9_toldOfRung cX9_toldOfRung 2 (some .int) 1 := ⟨wr36 _ (List.mem_of_getElem? (i := 16) rfl), wr1 _ (List.mem_of_getElem? (i := 2) rfl), wr36 _ (List.mem_of_getElem? (i := 19) rfl), by decide +kernel⟩
theorem viX9_toldOfRung : Cond.instanceMethod yX9_toldOfRung ∈ wsL_law ∧ Cond.selects RX9 yX9_toldOfRung yX9_toldOfRung ∈ wsL_law ∧ vwCl[8]? = some (RX9, TX9, 9) := ⟨wr36 _ (List.mem_of_getElem? (i := 17) rfl), wr36 _ (List.mem_of_getElem? (i := 18) rfl), rfl⟩
theorem cfX10_48 : CfB RX10 48 yX10_in cX10_in 3 (some .boolean) 3 := ⟨wr8 _ (List.mem_of_getElem? (i := 2) rfl), wr1 _ (List.mem_of_getElem? (i := 5) rfl), wr8 _ (List.mem_of_getElem? (i := 4) rfl), by decide +kernel⟩
theorem ffX10_13 : FF RX10 13 9 1 := ⟨RX10, TX10, 20, rfl, inlX10, by decide, wr5 _ (List.mem_of_getElem? (i := 23) rfl)⟩
theorem ffX10_7 : FF RX10 7 9 0 := ⟨RX10, TX10, 20, rfl, inlX10, by decide, wr5 _ (List.mem_of_getElem? (i := 22) rfl)⟩
theorem ffX10_52 : FF RX10 52 9 6 := ⟨RX10, TX10, 20, rfl, inlX10, by decide, wr18 _ (List.mem_of_getElem? (i := 0) rfl)⟩
theorem fpX10_52 : FP RX10 52 9 6 .int false := ⟨RX10, TX10, 20, tyX10, rfl, inlX10, by decide, wr18 _ (List.mem_of_getElem? (i := 0) rfl), tyX10_ok, nmX10, rfl, by decide +kernel, rfl⟩
theorem ffX10_56 : FF RX10 56 9 7 := ⟨RX10, TX10, 20, rfl, inlX10, by decide, wr18 _ (List.mem_of_getElem? (i := 1) rfl)⟩
theorem fpX10_56 : FP RX10 56 9 7 .int false := ⟨RX10, TX10, 20, tyX10, rfl, inlX10, by decide, wr18 _ (List.mem_of_getElem? (i := 1) rfl), tyX10_ok, nmX10, rfl, by decide +kernel, rfl⟩
theorem ffX10_59 : FF RX10 59 9 8 := ⟨RX10, TX10, 20, rfl, inlX10, by decide, wr17 _ (List.mem_of_getElem? (i := 18) rfl)⟩
theorem fpX10_59 : FP RX10 59 9 8 .int false := ⟨RX10, TX10, 20, tyX10, rfl, inlX10, by decide, wr17 _ (List.mem_of_getElem? (i := 18) rfl), tyX10_ok, nmX10, rfl, by decide +kernel, rfl⟩
theorem ffX10_62 : FF RX10 62 9 9 := ⟨RX10, TX10, 20, rfl, inlX10, by decide, wr17 _ (List.mem_of_getElem? (i := 19) rfl)⟩
theorem fpX10_62 : FP RX10 62 9 9 .int false := ⟨RX10, TX10, 20, tyX10, rfl, inlX10, by decide, wr17 _ (List.mem_of_getElem? (i := 19) rfl), tyX10_ok, nmX10, rfl, by decide +kernel, rfl⟩
theorem cfX10_65 : CfB RX10 65 yX10_has cX10_has 2 (some .boolean) 2 := ⟨wr18 _ (List.mem_of_getElem? (i := 22) rfl), wr1 _ (List.mem_of_getElem? (i := 5) rfl), wr19 _ (List.mem_of_getElem? (i := 0) rfl), by decide +kernel⟩
theorem cfX10_69 : CfB RX10 69 yX10_isMissing cX10_isMissing 2 (some .boolean) 1 := ⟨wr18 _ (List.mem_of_getElem? (i := 18) rfl), wr1 _ (List.mem_of_getElem? (i := 5) rfl), wr18 _ (List.mem_of_getElem? (i := 21) rfl), by decide +kernel⟩
theorem viX10_isMissing : Cond.instanceMethod yX10_isMissing ∈ wsL_law ∧ Cond.selects RX10 yX10_isMissing yX10_isMissing ∈ wsL_law ∧ vwCl[9]? = some (RX10, TX10, 20) := ⟨wr18 _ (List.mem_of_getElem? (i := 19) rfl), wr18 _ (List.mem_of_getElem? (i := 20) rfl), rfl⟩
theorem cfX10_73 : CfB RX10 73 yX10_isRung cX10_isRung 1 (some .boolean) 1 := ⟨wr7 _ (List.mem_of_getElem? (i := 23) rfl), wr1 _ (List.mem_of_getElem? (i := 5) rfl), wr8 _ (List.mem_of_getElem? (i := 1) rfl), by decide +kernel⟩
theorem cfX10_76 : CfB RX10 76 yX10_isMan cX10_isMan 1 (some .boolean) 1 := ⟨wr9 _ (List.mem_of_getElem? (i := 4) rfl), wr1 _ (List.mem_of_getElem? (i := 5) rfl), wr9 _ (List.mem_of_getElem? (i := 6) rfl), by decide +kernel⟩
theorem ffX10_79 : FF RX10 79 9 4 := ⟨RX10, TX10, 20, rfl, inlX10, by decide, wr9 _ (List.mem_of_getElem? (i := 23) rfl)⟩
theorem ffX10_19 : FF RX10 19 9 5 := ⟨RX10, TX10, 20, rfl, inlX10, by decide, wr6 _ (List.mem_of_getElem? (i := 1) rfl)⟩
theorem fpX10_79 : FP RX10 79 9 4 .int false := ⟨RX10, TX10, 20, tyX10, rfl, inlX10, by decide, wr9 _ (List.mem_of_getElem? (i := 23) rfl), tyX10_ok, nmX10, rfl, by decide +kernel, rfl⟩
theorem cfX10_82 : CfB RX10 82 yX10_step cX10_step 3 (some .int) 2 := ⟨wr12 _ (List.mem_of_getElem? (i := 4) rfl), wr1 _ (List.mem_of_getElem? (i := 5) rfl), wr12 _ (List.mem_of_getElem? (i := 6) rfl), by decide +kernel⟩
theorem cfX10_86 : CfB RX10 86 yX10_faultOf cX10_faultOf 3 (some .int) 0 := ⟨wr12 _ (List.mem_of_getElem? (i := 0) rfl), wr1 _ (List.mem_of_getElem? (i := 5) rfl), wr12 _ (List.mem_of_getElem? (i := 3) rfl), by decide +kernel⟩
theorem viX10_faultOf : Cond.instanceMethod yX10_faultOf ∈ wsL_law ∧ Cond.selects RX10 yX10_faultOf yX10_faultOf ∈ wsL_law ∧ vwCl[9]? = some (RX10, TX10, 20) := ⟨wr12 _ (List.mem_of_getElem? (i := 1) rfl), wr12 _ (List.mem_of_getElem? (i := 2) rfl), rfl⟩
theorem cfX10_90 : CfB RX10 90 yX10_may cX10_may 3 (some .boolean) 2 := ⟨wr19 _ (List.mem_of_getElem? (i := 9) rfl), wr1 _ (List.mem_of_getElem? (i := 5) rfl), wr19 _ (List.mem_of_getElem? (i := 12) rfl), by decide +kernel⟩
theorem viX10_may : Cond.instanceMethod yX10_may ∈ wsL_law ∧ Cond.selects RX10 yX10_may yX10_may ∈ wsL_law ∧ vwCl[9]? = some (RX10, TX10, 20) := ⟨wr19 _ (List.mem_of_getElem? (i := 10) rfl), wr19 _ (List.mem_of_getElem? (i := 11) rfl), rfl⟩
theorem cfX10_93 : CfB RX10 93 yX10_standing cX10_standing 3 (some .int) 1 := ⟨wr19 _ (List.mem_of_getElem? (i := 13) rfl), wr1 _ (List.mem_of_getElem? (i := 5) rfl), wr19 _ (List.mem_of_getElem? (i := 16) rfl), by decide +kernel⟩
theorem viX10_standing : Cond.instanceMethod yX10_standing ∈ wsL_law ∧ Cond.selects RX10 yX10_standing yX10_standing ∈ wsL_law ∧ vwCl[9]? = some (RX10, TX10, 20) := ⟨wr19 _ (List.mem_of_getElem? (i := 14) rfl), wr19 _ (List.mem_of_getElem? (i := 15) rfl), rfl⟩
theorem cfX10_97 : CfB RX10 97 yX10_endBeat cX10_endBeat 1 (some .int) 0 := ⟨wr18 _ (List.mem_of_getElem? (i := 10) rfl), wr1 _ (List.mem_of_getElem? (i := 5) rfl), wr18 _ (List.mem_of_getElem? (i := 13) rfl), by decide +kernel⟩
theorem viX10_endBeat : Cond.instanceMethod yX10_endBeat ∈ wsL_law ∧ Cond.selects RX10 yX10_endBeat yX10_endBeat ∈ wsL_law ∧ vwCl[9]? = some (RX10, TX10, 20) := ⟨wr18 _ (List.mem_of_getElem? (i := 11) rfl), wr18 _ (List.mem_of_getElem? (i := 12) rfl), rfl⟩
theorem cfX10_100 : CfB RX10 100 yX10_lose cX10_lose 3 (some .int) 2 := ⟨wr18 _ (List.mem_of_getElem? (i := 14) rfl), wr1 _ (List.mem_of_getElem? (i := 5) rfl), wr18 _ (List.mem_of_getElem? (i := 17) rfl), by decide +kernel⟩
theorem viX10_lose : Cond.instanceMethod yX10_lose ∈ wsL_law ∧ Cond.selects RX10 yX10_lose yX10_lose ∈ wsL_law ∧ vwCl[9]? = some (RX10, TX10, 20) := ⟨wr18 _ (List.mem_of_getElem? (i := 15) rfl), wr18 _ (List.mem_of_getElem? (i := 16) rfl), rfl⟩
theorem cfX10_104 : CfB RX10 104 yX10_leaseTo cX10_leaseTo 3 (some .int) 2 := ⟨wr19 _ (List.mem_of_getElem? (i := 1) rfl), wr1 _ (List.mem_of_getElem? (i := 5) rfl), wr19 _ (List.mem_of_getElem? (i := 4) rfl), by decide +kernel⟩
theorem viX10_leaseTo : Cond.instanceMethod yX10_leaseTo ∈ wsL_law ∧ Cond.selects RX10 yX10_leaseTo yX10_leaseTo ∈ wsL_law ∧ vwCl[9]? = some (RX10, TX10, 20) := ⟨wr19 _ (List.mem_of_getElem? (i := 2) rfl), wr19 _ (List.mem_of_getElem? (i := 3) rfl), rfl⟩
theorem cfX10_107 : CfB RX10 107 yX10_goTo cX10_goTo 4 (some .int) 2 := ⟨wr19 _ (List.mem_of_getElem? (i := 5) rfl), wr1 _ (List.mem_of_getElem? (i := 5) rfl), wr19 _ (List.mem_of_getElem? (i := 8) rfl), by decide +kernel⟩
theorem viX10_goTo : Cond.instanceMethod yX10_goTo ∈ wsL_law ∧ Cond.selects RX10 yX10_goTo yX10_goTo ∈ wsL_law ∧ vwCl[9]? = some (RX10, TX10, 20) := ⟨wr19 _ (List.mem_of_getElem? (i := 6) rfl), wr19 _ (List.mem_of_getElem? (i := 7) rfl), rfl⟩
theorem cfX10_110 : CfB RX10 110 yX10_asNow cX10_asNow 2 none 0 := ⟨wr17 _ (List.mem_of_getElem? (i := 20) rfl), wr1 _ (List.mem_of_getElem? (i := 5) rfl), wr17 _ (List.mem_of_getElem? (i := 23) rfl), by decide +kernel⟩
theorem viX10_asNow : Cond.instanceMethod yX10_asNow ∈ wsL_law ∧ Cond.selects RX10 yX10_asNow yX10_asNow ∈ wsL_law ∧ vwCl[9]? = some (RX10, TX10, 20) := ⟨wr17 _ (List.mem_of_getElem? (i := 21) rfl), wr17 _ (List.mem_of_getElem? (i := 22) rfl), rfl⟩
theorem ffX10_113 : FF RX10 113 9 11 := ⟨RX10, TX10, 20, rfl, inlX10, by decide, wr17 _ (List.mem_of_getElem? (i := 17) rfl)⟩
theorem fpX10_113 : FP RX10 113 9 11 .int false := ⟨RX10, TX10, 20, tyX10, rfl, inlX10, by decide, wr17 _ (List.mem_of_getElem? (i := 17) rfl), tyX10_ok, nmX10, rfl, by decide +kernel, rfl⟩
theorem cfX10_116 : CfB RX10 116 yX10_roof cX10_roof 3 (some .int) 0 := ⟨wr18 _ (List.mem_of_getElem? (i := 2) rfl), wr1 _ (List.mem_of_getElem? (i := 5) rfl), wr18 _ (List.mem_of_getElem? (i := 5) rfl), by decide +kernel⟩
theorem viX10_roof : Cond.instanceMethod yX10_roof ∈ wsL_law ∧ Cond.selects RX10 yX10_roof yX10_roof ∈ wsL_law ∧ vwCl[9]? = some (RX10, TX10, 20) := ⟨wr18 _ (List.mem_of_getElem? (i := 3) rfl), wr18 _ (List.mem_of_getElem? (i := 4) rfl), rfl⟩
theorem cfX10_119 : CfB RX10 119 yX10_oneAct cX10_oneAct 5 (some .int) 1 := ⟨wr18 _ (List.mem_of_getElem? (i := 6) rfl), wr1 _ (List.mem_of_getElem? (i := 5) rfl), wr18 _ (List.mem_of_getElem? (i := 9) rfl), by decide +kernel⟩
theorem viX10_oneAct : Cond.instanceMethod yX10_oneAct ∈ wsL_law ∧ Cond.selects RX10 yX10_oneAct yX10_oneAct ∈ wsL_law ∧ vwCl[9]? = some (RX10, TX10, 20) := ⟨wr18 _ (List.mem_of_getElem? (i := 7) rfl), wr18 _ (List.mem_of_getElem? (i := 8) rfl), rfl⟩
theorem ffX10_122 : FF RX10 122 9 10 := ⟨RX10, TX10, 20, rfl, inlX10, by decide, wr17 _ (List.mem_of_getElem? (i := 12) rfl)⟩
theorem fpX10_122 : FP RX10 122 9 10 .int false := ⟨RX10, TX10, 20, tyX10, rfl, inlX10, by decide, wr17 _ (List.mem_of_getElem? (i := 12) rfl), tyX10_ok, nmX10, rfl, by decide +kernel, rfl⟩
theorem cfX10_125 : CfB RX10 125 yX10_goFires cX10_goFires 5 (some .int) 0 := ⟨wr17 _ (List.mem_of_getElem? (i := 13) rfl), wr1 _ (List.mem_of_getElem? (i := 5) rfl), wr17 _ (List.mem_of_getElem? (i := 16) rfl), by decide +kernel⟩
theorem viX10_goFires : Cond.instanceMethod yX10_goFires ∈ wsL_law ∧ Cond.selects RX10 yX10_goFires yX10_goFires ∈ wsL_law ∧ vwCl[9]? = some (RX10, TX10, 20) := ⟨wr17 _ (List.mem_of_getElem? (i := 14) rfl), wr17 _ (List.mem_of_getElem? (i := 15) rfl), rfl⟩
theorem cfX10_128 : CfB RX10 128 yX10_barOfFires cX10_barOfFires 1 (some .int) 0 := ⟨wr20 _ (List.mem_of_getElem? (i := 6) rfl), wr1 _ (List.mem_of_getElem? (i := 5) rfl), wr20 _ (List.mem_of_getElem? (i := 9) rfl), by decide +kernel⟩
theorem viX10_barOfFires : Cond.instanceMethod yX10_barOfFires ∈ wsL_law ∧ Cond.selects RX10 yX10_barOfFires yX10_barOfFires ∈ wsL_law ∧ vwCl[9]? = some (RX10, TX10, 20) := ⟨wr20 _ (List.mem_of_getElem? (i := 7) rfl), wr20 _ (List.mem_of_getElem? (i := 8) rfl), rfl⟩
theorem cfX10_131 : CfB RX10 131 yX10_mayOnes cX10_mayOnes 4 (some .int) 1 := ⟨wr20 _ (List.mem_of_getElem? (i := 23) rfl), wr1 _ (List.mem_of_getElem? (i := 5) rfl), wr21 _ (List.mem_of_getElem? (i := 2) rfl), by decide +kernel⟩
theorem viX10_mayOnes : Cond.instanceMethod yX10_mayOnes ∈ wsL_law ∧ Cond.selects RX10 yX10_mayOnes yX10_mayOnes ∈ wsL_law ∧ vwCl[9]? = some (RX10, TX10, 20) := ⟨wr21 _ (List.mem_of_getElem? (i := 0) rfl), wr21 _ (List.mem_of_getElem? (i := 1) rfl), rfl⟩
theorem ffX10_22 : FF RX10 22 9 12 := ⟨RX10, TX10, 20, rfl, inlX10, by decide, wr6 _ (List.mem_of_getElem? (i := 2) rfl)⟩
theorem ffX10_25 : FF RX10 25 9 13 := ⟨RX10, TX10, 20, rfl, inlX10, by decide, wr6 _ (List.mem_of_getElem? (i := 3) rfl)⟩
theorem cfX10_135 : CfB RX10 135 yX10_layClimb cX10_layClimb 5 none 2 := ⟨wr24 _ (List.mem_of_getElem? (i := 9) rfl), wr1 _ (List.mem_of_getElem? (i := 5) rfl), wr24 _ (List.mem_of_getElem? (i := 12) rfl), by decide +kernel⟩
theorem viX10_layClimb : Cond.instanceMethod yX10_layClimb ∈ wsL_law ∧ Cond.selects RX10 yX10_layClimb yX10_layClimb ∈ wsL_law ∧ vwCl[9]? = some (RX10, TX10, 20) := ⟨wr24 _ (List.mem_of_getElem? (i := 10) rfl), wr24 _ (List.mem_of_getElem? (i := 11) rfl), rfl⟩
theorem cfX10_139 : CfB RX10 139 yX10_bits cX10_bits 3 (some .int) 1 := ⟨wr26 _ (List.mem_of_getElem? (i := 1) rfl), wr1 _ (List.mem_of_getElem? (i := 5) rfl), wr26 _ (List.mem_of_getElem? (i := 3) rfl), by decide +kernel⟩
theorem ffX10_28 : FF RX10 28 9 14 := ⟨RX10, TX10, 20, rfl, inlX10, by decide, wr6 _ (List.mem_of_getElem? (i := 5) rfl)⟩
theorem cfX10_142 : CfB RX10 142 yX10_most cX10_most 6 (some .int) 2 := ⟨wr27 _ (List.mem_of_getElem? (i := 17) rfl), wr1 _ (List.mem_of_getElem? (i := 5) rfl), wr27 _ (List.mem_of_getElem? (i := 20) rfl), by decide +kernel⟩
theorem viX10_most : Cond.instanceMethod yX10_most ∈ wsL_law ∧ Cond.selects RX10 yX10_most yX10_most ∈ wsL_law ∧ vwCl[9]? = some (RX10, TX10, 20) := ⟨wr27 _ (List.mem_of_getElem? (i := 18) rfl), wr27 _ (List.mem_of_getElem? (i := 19) rfl), rfl⟩
theorem ffX10_145 : FF RX10 145 9 2 := ⟨RX10, TX10, 20, rfl, inlX10, by decide, wr28 _ (List.mem_of_getElem? (i := 13) rfl)⟩
theorem ffX10_16 : FF RX10 16 9 3 := ⟨RX10, TX10, 20, rfl, inlX10, by decide, wr6 _ (List.mem_of_getElem? (i := 0) rfl)⟩
theorem fpX10_145 : FP RX10 145 9 2 .int false := ⟨RX10, TX10, 20, tyX10, rfl, inlX10, by decide, wr28 _ (List.mem_of_getElem? (i := 13) rfl), tyX10_ok, nmX10, rfl, by decide +kernel, rfl⟩
theorem cfX10_148 : CfB RX10 148 yX10_wetOnes cX10_wetOnes 9 (some .int) 1 := ⟨wr30 _ (List.mem_of_getElem? (i := 14) rfl), wr1 _ (List.mem_of_getElem? (i := 5) rfl), wr30 _ (List.mem_of_getElem? (i := 17) rfl), by decide +kernel⟩
theorem viX10_wetOnes : Cond.instanceMethod yX10_wetOnes ∈ wsL_law ∧ Cond.selects RX10 yX10_wetOnes yX10_wetOnes ∈ wsL_law ∧ vwCl[9]? = some (RX10, TX10, 20) := ⟨wr30 _ (List.mem_of_getElem? (i := 15) rfl), wr30 _ (List.mem_of_getElem? (i := 16) rfl), rfl⟩
theorem cfX10_151 : CfB RX10 151 yX10_isFit cX10_isFit 4 (some .boolean) 1 := ⟨wr30 _ (List.mem_of_getElem? (i := 10) rfl), wr1 _ (List.mem_of_getElem? (i := 5) rfl), wr30 _ (List.mem_of_getElem? (i := 13) rfl), by decide +kernel⟩
theorem viX10_isFit : Cond.instanceMethod yX10_isFit ∈ wsL_law ∧ Cond.selects RX10 yX10_isFit yX10_isFit ∈ wsL_law ∧ vwCl[9]? = some (RX10, TX10, 20) := ⟨wr30 _ (List.mem_of_getElem? (i := 11) rfl), wr30 _ (List.mem_of_getElem? (i := 12) rfl), rfl⟩
theorem ffX10_32 : FF RX10 32 9 15 := ⟨RX10, TX10, 20, rfl, inlX10, by decide, wr6 _ (List.mem_of_getElem? (i := 6) rfl)⟩
theorem cfX10_154 : CfB RX10 154 yX10_firstDown cX10_firstDown 5 (some .int) 1 := ⟨wr32 _ (List.mem_of_getElem? (i := 9) rfl), wr1 _ (List.mem_of_getElem? (i := 5) rfl), wr32 _ (List.mem_of_getElem? (i := 12) rfl), by decide +kernel⟩
theorem viX10_firstDown : Cond.instanceMethod yX10_firstDown ∈ wsL_law ∧ Cond.selects RX10 yX10_firstDown yX10_firstDown ∈ wsL_law ∧ vwCl[9]? = some (RX10, TX10, 20) := ⟨wr32 _ (List.mem_of_getElem? (i := 10) rfl), wr32 _ (List.mem_of_getElem? (i := 11) rfl), rfl⟩
theorem ffX10_35 : FF RX10 35 9 16 := ⟨RX10, TX10, 20, rfl, inlX10, by decide, wr6 _ (List.mem_of_getElem? (i := 7) rfl)⟩
theorem ffX10_39 : FF RX10 39 9 17 := ⟨RX10, TX10, 20, rfl, inlX10, by decide, wr6 _ (List.mem_of_getElem? (i := 8) rfl)⟩
theorem ffX10_42 : FF RX10 42 9 18 := ⟨RX10, TX10, 20, rfl, inlX10, by decide, wr6 _ (List.mem_of_getElem? (i := 9) rfl)⟩
theorem ffX10_45 : FF RX10 45 9 19 := ⟨RX10, TX10, 20, rfl, inlX10, by decide, wr6 _ (List.mem_of_getElem? (i := 10) rfl)⟩
theorem fpX1_9 : FP RX1 9 1 0 (.array .int) true := ⟨RX1, TX1, 11, tyX1, rfl, inlX1, by decide, wr3 _ (List.mem_of_getElem? (i := 2) rfl), tyX1_ok, nmX1, rfl, by decide +kernel, rfl⟩
theorem fpX1_15 : FP RX1 15 1 1 (.array .int) true := ⟨RX1, TX1, 11, tyX1, rfl, inlX1, by decide, wr3 _ (List.mem_of_getElem? (i := 3) rfl), tyX1_ok, nmX1, rfl, by decide +kernel, rfl⟩
theorem fpX1_22 : FP RX1 22 1 3 (.array .int) true := ⟨RX1, TX1, 11, tyX1, rfl, inlX1, by decide, wr3 _ (List.mem_of_getElem? (i := 5) rfl), tyX1_ok, nmX1, rfl, by decide +kernel, rfl⟩
theorem fpX1_25 : FP RX1 25 1 4 (.array .int) true := ⟨RX1, TX1, 11, tyX1, rfl, inlX1, by decide, wr3 _ (List.mem_of_getElem? (i := 6) rfl), tyX1_ok, nmX1, rfl, by decide +kernel, rfl⟩
theorem fpX1_28 : FP RX1 28 1 5 (.array .int) true := ⟨RX1, TX1, 11, tyX1, rfl, inlX1, by decide, wr3 _ (List.mem_of_getElem? (i := 7) rfl), tyX1_ok, nmX1, rfl, by decide +kernel, rfl⟩
theorem cfX1_46 : CfB RX1 46 yJ7_fill_53178 cJ7_fill_53178 4 none 2 := ⟨wr3 _ (List.mem_of_getElem? (i := 13) rfl), wr3 _ (List.mem_of_getElem? (i := 15) rfl), wr3 _ (List.mem_of_getElem? (i := 16) rfl), by decide +kernel⟩
theorem fpX3_9 : FP RX3 9 2 0 (.array .long) true := ⟨RX3, TX3, 3, tyX3, rfl, inlX3, by decide, wr5 _ (List.mem_of_getElem? (i := 15) rfl), tyX3_ok, nmX3, rfl, by decide +kernel, rfl⟩
theorem fpX4_12 : FP RX4 12 3 0 (.object "RungRights$Brigade") true := ⟨RX4, TX4, 8, tyX4, rfl, inlX4, by decide, wr4 _ (List.mem_of_getElem? (i := 9) rfl), tyX4_ok, nmX4, rfl, by decide +kernel, rfl⟩
theorem fpX4_21 : FP RX4 21 3 1 (.object "RungRights$Act") true := ⟨RX4, TX4, 8, tyX4, rfl, inlX4, by decide, wr4 _ (List.mem_of_getElem? (i := 11) rfl), tyX4_ok, nmX4, rfl, by decide +kernel, rfl⟩
theorem fpX5_9 : FP RX5 9 4 0 (.array .char) true := ⟨RX5, TX5, 2, tyX5, rfl, inlX5, by decide, wr3 _ (List.mem_of_getElem? (i := 21) rfl), tyX5_ok, nmX5, rfl, by decide +kernel, rfl⟩
theorem fpX6_9 : FP RX6 9 5 0 (.array .int) true := ⟨RX6, TX6, 3, tyX6, rfl, inlX6, by decide, wr5 _ (List.mem_of_getElem? (i := 2) rfl), tyX6_ok, nmX6, rfl, by decide +kernel, rfl⟩
theorem fpX6_15 : FP RX6 15 5 1 (.array .int) true := ⟨RX6, TX6, 3, tyX6, rfl, inlX6, by decide, wr5 _ (List.mem_of_getElem? (i := 3) rfl), tyX6_ok, nmX6, rfl, by decide +kernel, rfl⟩
theorem fpX7_9 : FP RX7 9 6 0 (.array .int) true := ⟨RX7, TX7, 1, tyX7, rfl, inlX7, by decide, wr4 _ (List.mem_of_getElem? (i := 22) rfl), tyX7_ok, nmX7, rfl, by decide +kernel, rfl⟩
theorem fpX8_9 : FP RX8 9 7 0 (.array .int) true := ⟨RX8, TX8, 3, tyX8, rfl, inlX8, by decide, wr5 _ (List.mem_of_getElem? (i := 8) rfl), tyX8_ok, nmX8, rfl, by decide +kernel, rfl⟩
theorem fpX8_15 : FP RX8 15 7 1 (.array .int) true := ⟨RX8, TX8, 3, tyX8, rfl, inlX8, by decide, wr5 _ (List.mem_of_getElem? (i := 9) rfl), tyX8_ok, nmX8, rfl, by decide +kernel, rfl⟩
theorem fpX9_12 : FP RX9 12 8 0 (.object "RungRights$Brigade") true := ⟨RX9, TX9, 9, tyX9, rfl, inlX9, by decide, wr1 _ (List.mem_of_getElem? (i := 15) rfl), tyX9_ok, nmX9, rfl, by decide +kernel, rfl⟩
theorem fpX9_19 : FP RX9 19 8 1 (.object "RungRights$Pad") true := ⟨RX9, TX9, 9, tyX9, rfl, inlX9, by decide, wr1 _ (List.mem_of_getElem? (i := 19) rfl), tyX9_ok, nmX9, rfl, by decide +kernel, rfl⟩
theorem fpX9_26 : FP RX9 26 8 2 (.object "RungRights$Act") true := ⟨RX9, TX9, 9, tyX9, rfl, inlX9, by decide, wr1 _ (List.mem_of_getElem? (i := 23) rfl), tyX9_ok, nmX9, rfl, by decide +kernel, rfl⟩
theorem fpX9_33 : FP RX9 33 8 3 (.object "RungRights$Fire") true := ⟨RX9, TX9, 9, tyX9, rfl, inlX9, by decide, wr2 _ (List.mem_of_getElem? (i := 3) rfl), tyX9_ok, nmX9, rfl, by decide +kernel, rfl⟩
theorem fpX9_40 : FP RX9 40 8 4 (.object "RungRights$Routes") true := ⟨RX9, TX9, 9, tyX9, rfl, inlX9, by decide, wr2 _ (List.mem_of_getElem? (i := 7) rfl), tyX9_ok, nmX9, rfl, by decide +kernel, rfl⟩
theorem fpX9_47 : FP RX9 47 8 5 (.object "RungRights$Posts") true := ⟨RX9, TX9, 9, tyX9, rfl, inlX9, by decide, wr2 _ (List.mem_of_getElem? (i := 11) rfl), tyX9_ok, nmX9, rfl, by decide +kernel, rfl⟩
theorem fpX9_54 : FP RX9 54 8 6 (.object "RungRights$Trails") true := ⟨RX9, TX9, 9, tyX9, rfl, inlX9, by decide, wr2 _ (List.mem_of_getElem? (i := 15) rfl), tyX9_ok, nmX9, rfl, by decide +kernel, rfl⟩
theorem fpX9_61 : FP RX9 61 8 7 (.object "RungRights$Feet") true := ⟨RX9, TX9, 9, tyX9, rfl, inlX9, by decide, wr2 _ (List.mem_of_getElem? (i := 19) rfl), tyX9_ok, nmX9, rfl, by decide +kernel, rfl⟩
theorem ffX9_65 : FF RX9 65 8 8 := ⟨RX9, TX9, 9, rfl, inlX9, by decide, wr2 _ (List.mem_of_getElem? (i := 20) rfl)⟩
theorem fpX9_65 : FP RX9 65 8 8 (.array (.object "RungRights$Brigade")) true := ⟨RX9, TX9, 9, tyX9, rfl, inlX9, by decide, wr2 _ (List.mem_of_getElem? (i := 20) rfl), tyX9_ok, nmX9, rfl, by decide +kernel, rfl⟩
theorem cfX9_251 : CfB RX9 251 yX9_isImage cX9_isImage 1 (some .boolean) 1 := ⟨wr35 _ (List.mem_of_getElem? (i := 8) rfl), wr1 _ (List.mem_of_getElem? (i := 2) rfl), wr35 _ (List.mem_of_getElem? (i := 10) rfl), by decide +kernel⟩
theorem fpX10_7 : FP RX10 7 9 0 (.array .int) true := ⟨RX10, TX10, 20, tyX10, rfl, inlX10, by decide, wr5 _ (List.mem_of_getElem? (i := 22) rfl), tyX10_ok, nmX10, rfl, by decide +kernel, rfl⟩
theorem fpX10_13 : FP RX10 13 9 1 (.array .int) true := ⟨RX10, TX10, 20, tyX10, rfl, inlX10, by decide, wr5 _ (List.mem_of_getElem? (i := 23) rfl), tyX10_ok, nmX10, rfl, by decide +kernel, rfl⟩
theorem fpX10_16 : FP RX10 16 9 3 (.array .int) true := ⟨RX10, TX10, 20, tyX10, rfl, inlX10, by decide, wr6 _ (List.mem_of_getElem? (i := 0) rfl), tyX10_ok, nmX10, rfl, by decide +kernel, rfl⟩
theorem fpX10_19 : FP RX10 19 9 5 (.array .int) true := ⟨RX10, TX10, 20, tyX10, rfl, inlX10, by decide, wr6 _ (List.mem_of_getElem? (i := 1) rfl), tyX10_ok, nmX10, rfl, by decide +kernel, rfl⟩
theorem fpX10_22 : FP RX10 22 9 12 (.array .int) true := ⟨RX10, TX10, 20, tyX10, rfl, inlX10, by decide, wr6 _ (List.mem_of_getElem? (i := 2) rfl), tyX10_ok, nmX10, rfl, by decide +kernel, rfl⟩
theorem fpX10_25 : FP RX10 25 9 13 (.array .int) true := ⟨RX10, TX10, 20, tyX10, rfl, inlX10, by decide, wr6 _ (List.mem_of_getElem? (i := 3) rfl), tyX10_ok, nmX10, rfl, by decide +kernel, rfl⟩
theorem fpX10_28 : FP RX10 28 9 14 (.array .boolean) true := ⟨RX10, TX10, 20, tyX10, rfl, inlX10, by decide, wr6 _ (List.mem_of_getElem? (i := 5) rfl), tyX10_ok, nmX10, rfl, by decide +kernel, rfl⟩
theorem fpX10_32 : FP RX10 32 9 15 (.array .boolean) true := ⟨RX10, TX10, 20, tyX10, rfl, inlX10, by decide, wr6 _ (List.mem_of_getElem? (i := 6) rfl), tyX10_ok, nmX10, rfl, by decide +kernel, rfl⟩
theorem fpX10_35 : FP RX10 35 9 16 (.array .long) true := ⟨RX10, TX10, 20, tyX10, rfl, inlX10, by decide, wr6 _ (List.mem_of_getElem? (i := 7) rfl), tyX10_ok, nmX10, rfl, by decide +kernel, rfl⟩
theorem fpX10_39 : FP RX10 39 9 17 (.array .long) true := ⟨RX10, TX10, 20, tyX10, rfl, inlX10, by decide, wr6 _ (List.mem_of_getElem? (i := 8) rfl), tyX10_ok, nmX10, rfl, by decide +kernel, rfl⟩
theorem fpX10_42 : FP RX10 42 9 18 (.array .int) true := ⟨RX10, TX10, 20, tyX10, rfl, inlX10, by decide, wr6 _ (List.mem_of_getElem? (i := 9) rfl), tyX10_ok, nmX10, rfl, by decide +kernel, rfl⟩
theorem fpX10_45 : FP RX10 45 9 19 (.array .boolean) true := ⟨RX10, TX10, 20, tyX10, rfl, inlX10, by decide, wr6 _ (List.mem_of_getElem? (i := 10) rfl), tyX10_ok, nmX10, rfl, by decide +kernel, rfl⟩
theorem wZ : Cond.arrayClass .boolean ∈ wsL_law := wr6 _ (List.mem_of_getElem? (i := 4) rfl)
theorem wJ : Cond.arrayClass .long ∈ wsL_law := wr5 _ (List.mem_of_getElem? (i := 14) rfl)
end
section
/-- what a RungRights$Act holds -/
abbrev SX0 : Type := Int32 × Int32 × Int32
def g0_kind (S : SX0) : Int32 := S.1
def g0_man (S : SX0) : Int32 := S.2.1
def g0_place (S : SX0) : Int32 := S.2.2
def s0_kind (S : SX0) (x : Int32) : SX0 := (x, S.2)
def s0_man (S : SX0) (x : Int32) : SX0 := (S.1, x, S.2.2)
def s0_place (S : SX0) (x : Int32) : SX0 := (S.1, S.2.1, x)
def u0 (G : gG) (a0 : Nat) (S : SX0) : va_W := [(a0, .inr (0, [.int (g0_kind S), .int (g0_man S), .int (g0_place S)]))]
theorem z0_kind {G : gG} {a0 : Nat} {S : SX0} {x : Int32} : (u0 G a0 S).set 0 (a0, .inr (0, [.int (g0_kind S), .int (g0_man S), .int (g0_place S)].set 0 (.int x))) = u0 G a0 (s0_kind S x) := rfl
theorem z0_man {G : gG} {a0 : Nat} {S : SX0} {x : Int32} : (u0 G a0 S).set 0 (a0, .inr (0, [.int (g0_kind S), .int (g0_man S), .int (g0_place S)].set 1 (.int x))) = u0 G a0 (s0_man S x) := rfl
theorem z0_place {G : gG} {a0 : Nat} {S : SX0} {x : Int32} : (u0 G a0 S).set 0 (a0, .inr (0, [.int (g0_kind S), .int (g0_man S), .int (g0_place S)].set 2 (.int x))) = u0 G a0 (s0_place S x) := rfl
/-- what a RungRights$Brigade holds -/
abbrev SX1 : Type := (Nat → Int32) × (Nat → Int32) × Int32 × (Nat → Int32) × (Nat → Int32) × (Nat → Int32) × Int32 × Int32 × Int32 × Int32 × Int32
def g1_owner (S : SX1) : Nat → Int32 := S.1
def g1_leaser (S : SX1) : Nat → Int32 := S.2.1
def g1_missing (S : SX1) : Int32 := S.2.2.1
def g1_stride (S : SX1) : Nat → Int32 := S.2.2.2.1
def g1_coins (S : SX1) : Nat → Int32 := S.2.2.2.2.1
def g1_place (S : SX1) : Nat → Int32 := S.2.2.2.2.2.1
def g1_stepped (S : SX1) : Int32 := S.2.2.2.2.2.2.1
def g1_beat (S : SX1) : Int32 := S.2.2.2.2.2.2.2.1
def g1_sights (S : SX1) : Int32 := S.2.2.2.2.2.2.2.2.1
def g1_wet (S : SX1) : Int32 := S.2.2.2.2.2.2.2.2.2.1
def g1_dry (S : SX1) : Int32 := S.2.2.2.2.2.2.2.2.2.2
def s1_owner (S : SX1) (x : Nat → Int32) : SX1 := (x, S.2)
def s1_leaser (S : SX1) (x : Nat → Int32) : SX1 := (S.1, x, S.2.2)
def s1_missing (S : SX1) (x : Int32) : SX1 := (S.1, S.2.1, x, S.2.2.2)
def s1_stride (S : SX1) (x : Nat → Int32) : SX1 := (S.1, S.2.1, S.2.2.1, x, S.2.2.2.2)
def s1_coins (S : SX1) (x : Nat → Int32) : SX1 := (S.1, S.2.1, S.2.2.1, S.2.2.2.1, x, S.2.2.2.2.2)
def s1_place (S : SX1) (x : Nat → Int32) : SX1 := (S.1, S.2.1, S.2.2.1, S.2.2.2.1, S.2.2.2.2.1, x, S.2.2.2.2.2.2)
def s1_stepped (S : SX1) (x : Int32) : SX1 := (S.1, S.2.1, S.2.2.1, S.2.2.2.1, S.2.2.2.2.1, S.2.2.2.2.2.1, x, S.2.2.2.2.2.2.2)
def s1_beat (S : SX1) (x : Int32) : SX1 := (S.1, S.2.1, S.2.2.1, S.2.2.2.1, S.2.2.2.2.1, S.2.2.2.2.2.1, S.2.2.2.2.2.2.1, x, S.2.2.2.2.2.2.2.2)
def s1_sights (S : SX1) (x : Int32) : SX1 := (S.1, S.2.1, S.2.2.1, S.2.2.2.1, S.2.2.2.2.1, S.2.2.2.2.2.1, S.2.2.2.2.2.2.1, S.2.2.2.2.2.2.2.1, x, S.2.2.2.2.2.2.2.2.2)
def s1_wet (S : SX1) (x : Int32) : SX1 := (S.1, S.2.1, S.2.2.1, S.2.2.2.1, S.2.2.2.2.1, S.2.2.2.2.2.1, S.2.2.2.2.2.2.1, S.2.2.2.2.2.2.2.1, S.2.2.2.2.2.2.2.2.1, x, S.2.2.2.2.2.2.2.2.2.2)
def s1_dry (S : SX1) (x : Int32) : SX1 := (S.1, S.2.1, S.2.2.1, S.2.2.2.1, S.2.2.2.2.1, S.2.2.2.2.2.1, S.2.2.2.2.2.2.1, S.2.2.2.2.2.2.2.1, S.2.2.2.2.2.2.2.2.1, S.2.2.2.2.2.2.2.2.2.1, x)
def u1 (G : gG) (a0 a1 a2 a3 a4 a5 : Nat) (S : SX1) : va_W := [(a0, .inr (1, [.ref a1, .ref a2, .int (g1_missing S), .ref a3, .ref a4, .ref a5, .int (g1_stepped S), .int (g1_beat S), .int (g1_sights S), .int (g1_wet S), .int (g1_dry S)])), (a1, .inl (gI G, 13, .inl (g1_owner S))), (a2, .inl (gI G, 13, .inl (g1_leaser S))), (a3, .inl (gI G, 6, .inl (g1_stride S))), (a4, .inl (gI G, 6, .inl (g1_coins S))), (a5, .inl (gI G, 6, .inl (g1_place S)))]
theorem z1_owner {G : gG} {a0 a1 a2 a3 a4 a5 : Nat} {S : SX1} {x : Nat → Int32} : (u1 G a0 a1 a2 a3 a4 a5 S).set 1 (a1, .inl (gI G, 13, .inl x)) = u1 G a0 a1 a2 a3 a4 a5 (s1_owner S x) := rfl
theorem z1_leaser {G : gG} {a0 a1 a2 a3 a4 a5 : Nat} {S : SX1} {x : Nat → Int32} : (u1 G a0 a1 a2 a3 a4 a5 S).set 2 (a2, .inl (gI G, 13, .inl x)) = u1 G a0 a1 a2 a3 a4 a5 (s1_leaser S x) := rfl
theorem z1_missing {G : gG} {a0 a1 a2 a3 a4 a5 : Nat} {S : SX1} {x : Int32} : (u1 G a0 a1 a2 a3 a4 a5 S).set 0 (a0, .inr (1, [.ref a1, .ref a2, .int (g1_missing S), .ref a3, .ref a4, .ref a5, .int (g1_stepped S), .int (g1_beat S), .int (g1_sights S), .int (g1_wet S), .int (g1_dry S)].set 2 (.int x))) = u1 G a0 a1 a2 a3 a4 a5 (s1_missing S x) := rfl
theorem z1_stride {G : gG} {a0 a1 a2 a3 a4 a5 : Nat} {S : SX1} {x : Nat → Int32} : (u1 G a0 a1 a2 a3 a4 a5 S).set 3 (a3, .inl (gI G, 6, .inl x)) = u1 G a0 a1 a2 a3 a4 a5 (s1_stride S x) := rfl
theorem z1_coins {G : gG} {a0 a1 a2 a3 a4 a5 : Nat} {S : SX1} {x : Nat → Int32} : (u1 G a0 a1 a2 a3 a4 a5 S).set 4 (a4, .inl (gI G, 6, .inl x)) = u1 G a0 a1 a2 a3 a4 a5 (s1_coins S x) := rfl
theorem z1_place {G : gG} {a0 a1 a2 a3 a4 a5 : Nat} {S : SX1} {x : Nat → Int32} : (u1 G a0 a1 a2 a3 a4 a5 S).set 5 (a5, .inl (gI G, 6, .inl x)) = u1 G a0 a1 a2 a3 a4 a5 (s1_place S x) := rfl
theorem z1_stepped {G : gG} {a0 a1 a2 a3 a4 a5 : Nat} {S : SX1} {x : Int32} : (u1 G a0 a1 a2 a3 a4 a5 S).set 0 (a0, .inr (1, [.ref a1, .ref a2, .int (g1_missing S), .ref a3, .ref a4, .ref a5, .int (g1_stepped S), .int (g1_beat S), .int (g1_sights S), .int (g1_wet S), .int (g1_dry S)].set 6 (.int x))) = u1 G a0 a1 a2 a3 a4 a5 (s1_stepped S x) := rfl
theorem z1_beat {G : gG} {a0 a1 a2 a3 a4 a5 : Nat} {S : SX1} {x : Int32} : (u1 G a0 a1 a2 a3 a4 a5 S).set 0 (a0, .inr (1, [.ref a1, .ref a2, .int (g1_missing S), .ref a3, .ref a4, .ref a5, .int (g1_stepped S), .int (g1_beat S), .int (g1_sights S), .int (g1_wet S), .int (g1_dry S)].set 7 (.int x))) = u1 G a0 a1 a2 a3 a4 a5 (s1_beat S x) := rfl
theorem z1_sights {G : gG} {a0 a1 a2 a3 a4 a5 : Nat} {S : SX1} {x : Int32} : (u1 G a0 a1 a2 a3 a4 a5 S).set 0 (a0, .inr (1, [.ref a1, .ref a2, .int (g1_missing S), .ref a3, .ref a4, .ref a5, .int (g1_stepped S), .int (g1_beat S), .int (g1_sights S), .int (g1_wet S), .int (g1_dry S)].set 8 (.int x))) = u1 G a0 a1 a2 a3 a4 a5 (s1_sights S x) := rfl
theorem z1_wet {G : gG} {a0 a1 a2 a3 a4 a5 : Nat} {S : SX1} {x : Int32} : (u1 G a0 a1 a2 a3 a4 a5 S).set 0 (a0, .inr (1, [.ref a1, .ref a2, .int (g1_missing S), .ref a3, .ref a4, .ref a5, .int (g1_stepped S), .int (g1_beat S), .int (g1_sights S), .int (g1_wet S), .int (g1_dry S)].set 9 (.int x))) = u1 G a0 a1 a2 a3 a4 a5 (s1_wet S x) := rfl
theorem z1_dry {G : gG} {a0 a1 a2 a3 a4 a5 : Nat} {S : SX1} {x : Int32} : (u1 G a0 a1 a2 a3 a4 a5 S).set 0 (a0, .inr (1, [.ref a1, .ref a2, .int (g1_missing S), .ref a3, .ref a4, .ref a5, .int (g1_stepped S), .int (g1_beat S), .int (g1_sights S), .int (g1_wet S), .int (g1_dry S)].set 10 (.int x))) = u1 G a0 a1 a2 a3 a4 a5 (s1_dry S x) := rfl
/-- what a RungRights$Feet holds -/
abbrev SX3 : Type := (Nat → Int64) × Int64 × Int64
def g3_chances (S : SX3) : Nat → Int64 := S.1
def g3_upper (S : SX3) : Int64 := S.2.1
def g3_lower (S : SX3) : Int64 := S.2.2
def s3_chances (S : SX3) (x : Nat → Int64) : SX3 := (x, S.2)
def s3_upper (S : SX3) (x : Int64) : SX3 := (S.1, x, S.2.2)
def s3_lower (S : SX3) (x : Int64) : SX3 := (S.1, S.2.1, x)
def u3 (G : gG) (a0 a1 : Nat) (S : SX3) : va_W := [(a0, .inr (2, [.ref a1, .long (g3_upper S), .long (g3_lower S)])), (a1, .inl (gJ G, 13, .inr (.inl (g3_chances S))))]
theorem z3_chances {G : gG} {a0 a1 : Nat} {S : SX3} {x : Nat → Int64} : (u3 G a0 a1 S).set 1 (a1, .inl (gJ G, 13, .inr (.inl x))) = u3 G a0 a1 (s3_chances S x) := rfl
theorem z3_upper {G : gG} {a0 a1 : Nat} {S : SX3} {x : Int64} : (u3 G a0 a1 S).set 0 (a0, .inr (2, [.ref a1, .long (g3_upper S), .long (g3_lower S)].set 1 (.long x))) = u3 G a0 a1 (s3_upper S x) := rfl
theorem z3_lower {G : gG} {a0 a1 : Nat} {S : SX3} {x : Int64} : (u3 G a0 a1 S).set 0 (a0, .inr (2, [.ref a1, .long (g3_upper S), .long (g3_lower S)].set 2 (.long x))) = u3 G a0 a1 (s3_lower S x) := rfl
/-- what a RungRights$Fire holds -/
abbrev SX4 : Type := Int32 × Int32 × Int32 × Int32 × Int32 × Int32
def g4_acts (S : SX4) : Int32 := S.1
def g4_steps (S : SX4) : Int32 := S.2.1
def g4_paid (S : SX4) : Int32 := S.2.2.1
def g4_actUp (S : SX4) : Int32 := S.2.2.2.1
def g4_manUp (S : SX4) : Int32 := S.2.2.2.2.1
def g4_why (S : SX4) : Int32 := S.2.2.2.2.2
def s4_acts (S : SX4) (x : Int32) : SX4 := (x, S.2)
def s4_steps (S : SX4) (x : Int32) : SX4 := (S.1, x, S.2.2)
def s4_paid (S : SX4) (x : Int32) : SX4 := (S.1, S.2.1, x, S.2.2.2)
def s4_actUp (S : SX4) (x : Int32) : SX4 := (S.1, S.2.1, S.2.2.1, x, S.2.2.2.2)
def s4_manUp (S : SX4) (x : Int32) : SX4 := (S.1, S.2.1, S.2.2.1, S.2.2.2.1, x, S.2.2.2.2.2)
def s4_why (S : SX4) (x : Int32) : SX4 := (S.1, S.2.1, S.2.2.1, S.2.2.2.1, S.2.2.2.2.1, x)
def u4 (G : gG) (a0 a1 a2 : Nat) (S : SX4) : va_W := [(a0, .inr (3, [.ref a1, .ref a2, .int (g4_acts S), .int (g4_steps S), .int (g4_paid S), .int (g4_actUp S), .int (g4_manUp S), .int (g4_why S)]))]
theorem z4_acts {G : gG} {a0 a1 a2 : Nat} {S : SX4} {x : Int32} : (u4 G a0 a1 a2 S).set 0 (a0, .inr (3, [.ref a1, .ref a2, .int (g4_acts S), .int (g4_steps S), .int (g4_paid S), .int (g4_actUp S), .int (g4_manUp S), .int (g4_why S)].set 2 (.int x))) = u4 G a0 a1 a2 (s4_acts S x) := rfl
theorem z4_steps {G : gG} {a0 a1 a2 : Nat} {S : SX4} {x : Int32} : (u4 G a0 a1 a2 S).set 0 (a0, .inr (3, [.ref a1, .ref a2, .int (g4_acts S), .int (g4_steps S), .int (g4_paid S), .int (g4_actUp S), .int (g4_manUp S), .int (g4_why S)].set 3 (.int x))) = u4 G a0 a1 a2 (s4_steps S x) := rfl
theorem z4_paid {G : gG} {a0 a1 a2 : Nat} {S : SX4} {x : Int32} : (u4 G a0 a1 a2 S).set 0 (a0, .inr (3, [.ref a1, .ref a2, .int (g4_acts S), .int (g4_steps S), .int (g4_paid S), .int (g4_actUp S), .int (g4_manUp S), .int (g4_why S)].set 4 (.int x))) = u4 G a0 a1 a2 (s4_paid S x) := rfl
theorem z4_actUp {G : gG} {a0 a1 a2 : Nat} {S : SX4} {x : Int32} : (u4 G a0 a1 a2 S).set 0 (a0, .inr (3, [.ref a1, .ref a2, .int (g4_acts S), .int (g4_steps S), .int (g4_paid S), .int (g4_actUp S), .int (g4_manUp S), .int (g4_why S)].set 5 (.int x))) = u4 G a0 a1 a2 (s4_actUp S x) := rfl
theorem z4_manUp {G : gG} {a0 a1 a2 : Nat} {S : SX4} {x : Int32} : (u4 G a0 a1 a2 S).set 0 (a0, .inr (3, [.ref a1, .ref a2, .int (g4_acts S), .int (g4_steps S), .int (g4_paid S), .int (g4_actUp S), .int (g4_manUp S), .int (g4_why S)].set 6 (.int x))) = u4 G a0 a1 a2 (s4_manUp S x) := rfl
theorem z4_why {G : gG} {a0 a1 a2 : Nat} {S : SX4} {x : Int32} : (u4 G a0 a1 a2 S).set 0 (a0, .inr (3, [.ref a1, .ref a2, .int (g4_acts S), .int (g4_steps S), .int (g4_paid S), .int (g4_actUp S), .int (g4_manUp S), .int (g4_why S)].set 7 (.int x))) = u4 G a0 a1 a2 (s4_why S x) := rfl
/-- what a RungRights$Pad holds -/
abbrev SX5 : Type := (Nat → Int32) × Int32
def g5_signs (S : SX5) : Nat → Int32 := S.1
def g5_count (S : SX5) : Int32 := S.2
def s5_signs (S : SX5) (x : Nat → Int32) : SX5 := (x, S.2)
def s5_count (S : SX5) (x : Int32) : SX5 := (S.1, x)
def u5 (G : gG) (a0 a1 : Nat) (S : SX5) : va_W := [(a0, .inr (4, [.ref a1, .int (g5_count S)])), (a1, .inl (gC G, 60, .inl (g5_signs S)))]
theorem z5_signs {G : gG} {a0 a1 : Nat} {S : SX5} {x : Nat → Int32} : (u5 G a0 a1 S).set 1 (a1, .inl (gC G, 60, .inl x)) = u5 G a0 a1 (s5_signs S x) := rfl
theorem z5_count {G : gG} {a0 a1 : Nat} {S : SX5} {x : Int32} : (u5 G a0 a1 S).set 0 (a0, .inr (4, [.ref a1, .int (g5_count S)].set 1 (.int x))) = u5 G a0 a1 (s5_count S x) := rfl
/-- what a RungRights$Posts holds -/
abbrev SX6 : Type := (Nat → Int32) × (Nat → Int32) × Int32
def g6_open (S : SX6) : Nat → Int32 := S.1
def g6_post (S : SX6) : Nat → Int32 := S.2.1
def g6_posted (S : SX6) : Int32 := S.2.2
def s6_open (S : SX6) (x : Nat → Int32) : SX6 := (x, S.2)
def s6_post (S : SX6) (x : Nat → Int32) : SX6 := (S.1, x, S.2.2)
def s6_posted (S : SX6) (x : Int32) : SX6 := (S.1, S.2.1, x)
def u6 (G : gG) (a0 a1 a2 : Nat) (S : SX6) : va_W := [(a0, .inr (5, [.ref a1, .ref a2, .int (g6_posted S)])), (a1, .inl (gI G, 6, .inl (g6_open S))), (a2, .inl (gI G, 6, .inl (g6_post S)))]
theorem z6_open {G : gG} {a0 a1 a2 : Nat} {S : SX6} {x : Nat → Int32} : (u6 G a0 a1 a2 S).set 1 (a1, .inl (gI G, 6, .inl x)) = u6 G a0 a1 a2 (s6_open S x) := rfl
theorem z6_post {G : gG} {a0 a1 a2 : Nat} {S : SX6} {x : Nat → Int32} : (u6 G a0 a1 a2 S).set 2 (a2, .inl (gI G, 6, .inl x)) = u6 G a0 a1 a2 (s6_post S x) := rfl
theorem z6_posted {G : gG} {a0 a1 a2 : Nat} {S : SX6} {x : Int32} : (u6 G a0 a1 a2 S).set 0 (a0, .inr (5, [.ref a1, .ref a2, .int (g6_posted S)].set 2 (.int x))) = u6 G a0 a1 a2 (s6_posted S x) := rfl
/-- what a RungRights$Routes holds -/
abbrev SX7 : Type := (Nat → Int32)
def g7_settled (S : SX7) : Nat → Int32 := S
def s7_settled (S : SX7) (x : Nat → Int32) : SX7 := x
def u7 (G : gG) (a0 a1 : Nat) (S : SX7) : va_W := [(a0, .inr (6, [.ref a1])), (a1, .inl (gI G, 14, .inl (g7_settled S)))]
theorem z7_settled {G : gG} {a0 a1 : Nat} {S : SX7} {x : Nat → Int32} : (u7 G a0 a1 S).set 1 (a1, .inl (gI G, 14, .inl x)) = u7 G a0 a1 (s7_settled S x) := rfl
/-- what a RungRights$Trails holds -/
abbrev SX8 : Type := (Nat → Int32) × (Nat → Int32) × Int32
def g8_codes (S : SX8) : Nat → Int32 := S.1
def g8_wetRungs (S : SX8) : Nat → Int32 := S.2.1
def g8_count (S : SX8) : Int32 := S.2.2
def s8_codes (S : SX8) (x : Nat → Int32) : SX8 := (x, S.2)
def s8_wetRungs (S : SX8) (x : Nat → Int32) : SX8 := (S.1, x, S.2.2)
def s8_count (S : SX8) (x : Int32) : SX8 := (S.1, S.2.1, x)
def u8 (G : gG) (a0 a1 a2 : Nat) (S : SX8) : va_W := [(a0, .inr (7, [.ref a1, .ref a2, .int (g8_count S)])), (a1, .inl (gI G, 12, .inl (g8_codes S))), (a2, .inl (gI G, 12, .inl (g8_wetRungs S)))]
theorem z8_codes {G : gG} {a0 a1 a2 : Nat} {S : SX8} {x : Nat → Int32} : (u8 G a0 a1 a2 S).set 1 (a1, .inl (gI G, 12, .inl x)) = u8 G a0 a1 a2 (s8_codes S x) := rfl
theorem z8_wetRungs {G : gG} {a0 a1 a2 : Nat} {S : SX8} {x : Nat → Int32} : (u8 G a0 a1 a2 S).set 2 (a2, .inl (gI G, 12, .inl x)) = u8 G a0 a1 a2 (s8_wetRungs S x) := rfl
theorem z8_count {G : gG} {a0 a1 a2 : Nat} {S : SX8} {x : Int32} : (u8 G a0 a1 a2 S).set 0 (a0, .inr (7, [.ref a1, .ref a2, .int (g8_count S)].set 2 (.int x))) = u8 G a0 a1 a2 (s8_count S x) := rfl
/-- what a RungRights holds -/
abbrev SX9 : Type := Unit
def u9 (G : gG) (a0 a1 a2 a3 a4 a5 a6 a7 a8 a9 : Nat) (S : SX9) : va_W := [(a0, .inr (8, [.ref a1, .ref a2, .ref a3, .ref a4, .ref a5, .ref a6, .ref a7, .ref a8, .ref a9]))]
/-- what a RungRightsModel holds -/
abbrev SX10 : Type := (Nat → Int32) × (Nat → Int32) × Int32 × (Nat → Int32) × Int32 × (Nat → Int32) × Int32 × Int32 × Int32 × Int32 × Int32 × Int32 × (Nat → Int32) × (Nat → Int32) × (Nat → Int32) × (Nat → Int32) × (Nat → Int64) × (Nat → Int64) × (Nat → Int32) × (Nat → Int32)
def g10_book (S : SX10) : Nat → Int32 := S.1
def g10_now (S : SX10) : Nat → Int32 := S.2.1
def g10_sights (S : SX10) : Int32 := S.2.2.1
def g10_sight (S : SX10) : Nat → Int32 := S.2.2.2.1
def g10_signs (S : SX10) : Int32 := S.2.2.2.2.1
def g10_pad (S : SX10) : Nat → Int32 := S.2.2.2.2.2.1
def g10_steps (S : SX10) : Int32 := S.2.2.2.2.2.2.1
def g10_paid (S : SX10) : Int32 := S.2.2.2.2.2.2.2.1
def g10_roofAt (S : SX10) : Int32 := S.2.2.2.2.2.2.2.2.1
def g10_roofWho (S : SX10) : Int32 := S.2.2.2.2.2.2.2.2.2.1
def g10_reason (S : SX10) : Int32 := S.2.2.2.2.2.2.2.2.2.2.1
def g10_acts (S : SX10) : Int32 := S.2.2.2.2.2.2.2.2.2.2.2.1
def g10_few (S : SX10) : Nat → Int32 := S.2.2.2.2.2.2.2.2.2.2.2.2.1
def g10_rows (S : SX10) : Nat → Int32 := S.2.2.2.2.2.2.2.2.2.2.2.2.2.1
def g10_can (S : SX10) : Nat → Int32 := S.2.2.2.2.2.2.2.2.2.2.2.2.2.2.1
def g10_wins (S : SX10) : Nat → Int32 := S.2.2.2.2.2.2.2.2.2.2.2.2.2.2.2.1
def g10_odds (S : SX10) : Nat → Int64 := S.2.2.2.2.2.2.2.2.2.2.2.2.2.2.2.2.1
def g10_means (S : SX10) : Nat → Int64 := S.2.2.2.2.2.2.2.2.2.2.2.2.2.2.2.2.2.1
def g10_image (S : SX10) : Nat → Int32 := S.2.2.2.2.2.2.2.2.2.2.2.2.2.2.2.2.2.2.1
def g10_isKept (S : SX10) : Nat → Int32 := S.2.2.2.2.2.2.2.2.2.2.2.2.2.2.2.2.2.2.2
def s10_book (S : SX10) (x : Nat → Int32) : SX10 := (x, S.2)
def s10_now (S : SX10) (x : Nat → Int32) : SX10 := (S.1, x, S.2.2)
def s10_sights (S : SX10) (x : Int32) : SX10 := (S.1, S.2.1, x, S.2.2.2)
def s10_sight (S : SX10) (x : Nat → Int32) : SX10 := (S.1, S.2.1, S.2.2.1, x, S.2.2.2.2)
def s10_signs (S : SX10) (x : Int32) : SX10 := (S.1, S.2.1, S.2.2.1, S.2.2.2.1, x, S.2.2.2.2.2)
def s10_pad (S : SX10) (x : Nat → Int32) : SX10 := (S.1, S.2.1, S.2.2.1, S.2.2.2.1, S.2.2.2.2.1, x, S.2.2.2.2.2.2)
def s10_steps (S : SX10) (x : Int32) : SX10 := (S.1, S.2.1, S.2.2.1, S.2.2.2.1, S.2.2.2.2.1, S.2.2.2.2.2.1, x, S.2.2.2.2.2.2.2)
def s10_paid (S : SX10) (x : Int32) : SX10 := (S.1, S.2.1, S.2.2.1, S.2.2.2.1, S.2.2.2.2.1, S.2.2.2.2.2.1, S.2.2.2.2.2.2.1, x, S.2.2.2.2.2.2.2.2)
def s10_roofAt (S : SX10) (x : Int32) : SX10 := (S.1, S.2.1, S.2.2.1, S.2.2.2.1, S.2.2.2.2.1, S.2.2.2.2.2.1, S.2.2.2.2.2.2.1, S.2.2.2.2.2.2.2.1, x, S.2.2.2.2.2.2.2.2.2)
def s10_roofWho (S : SX10) (x : Int32) : SX10 := (S.1, S.2.1, S.2.2.1, S.2.2.2.1, S.2.2.2.2.1, S.2.2.2.2.2.1, S.2.2.2.2.2.2.1, S.2.2.2.2.2.2.2.1, S.2.2.2.2.2.2.2.2.1, x, S.2.2.2.2.2.2.2.2.2.2)
def s10_reason (S : SX10) (x : Int32) : SX10 := (S.1, S.2.1, S.2.2.1, S.2.2.2.1, S.2.2.2.2.1, S.2.2.2.2.2.1, S.2.2.2.2.2.2.1, S.2.2.2.2.2.2.2.1, S.2.2.2.2.2.2.2.2.1, S.2.2.2.2.2.2.2.2.2.1, x, S.2.2.2.2.2.2.2.2.2.2.2)
def s10_acts (S : SX10) (x : Int32) : SX10 := (S.1, S.2.1, S.2.2.1, S.2.2.2.1, S.2.2.2.2.1, S.2.2.2.2.2.1, S.2.2.2.2.2.2.1, S.2.2.2.2.2.2.2.1, S.2.2.2.2.2.2.2.2.1, S.2.2.2.2.2.2.2.2.2.1, S.2.2.2.2.2.2.2.2.2.2.1, x, S.2.2.2.2.2.2.2.2.2.2.2.2)
def s10_few (S : SX10) (x : Nat → Int32) : SX10 := (S.1, S.2.1, S.2.2.1, S.2.2.2.1, S.2.2.2.2.1, S.2.2.2.2.2.1, S.2.2.2.2.2.2.1, S.2.2.2.2.2.2.2.1, S.2.2.2.2.2.2.2.2.1, S.2.2.2.2.2.2.2.2.2.1, S.2.2.2.2.2.2.2.2.2.2.1, S.2.2.2.2.2.2.2.2.2.2.2.1, x, S.2.2.2.2.2.2.2.2.2.2.2.2.2)
def s10_rows (S : SX10) (x : Nat → Int32) : SX10 := (S.1, S.2.1, S.2.2.1, S.2.2.2.1, S.2.2.2.2.1, S.2.2.2.2.2.1, S.2.2.2.2.2.2.1, S.2.2.2.2.2.2.2.1, S.2.2.2.2.2.2.2.2.1, S.2.2.2.2.2.2.2.2.2.1, S.2.2.2.2.2.2.2.2.2.2.1, S.2.2.2.2.2.2.2.2.2.2.2.1, S.2.2.2.2.2.2.2.2.2.2.2.2.1, x, S.2.2.2.2.2.2.2.2.2.2.2.2.2.2)
def s10_can (S : SX10) (x : Nat → Int32) : SX10 := (S.1, S.2.1, S.2.2.1, S.2.2.2.1, S.2.2.2.2.1, S.2.2.2.2.2.1, S.2.2.2.2.2.2.1, S.2.2.2.2.2.2.2.1, S.2.2.2.2.2.2.2.2.1, S.2.2.2.2.2.2.2.2.2.1, S.2.2.2.2.2.2.2.2.2.2.1, S.2.2.2.2.2.2.2.2.2.2.2.1, S.2.2.2.2.2.2.2.2.2.2.2.2.1, S.2.2.2.2.2.2.2.2.2.2.2.2.2.1, x, S.2.2.2.2.2.2.2.2.2.2.2.2.2.2.2)
def s10_wins (S : SX10) (x : Nat → Int32) : SX10 := (S.1, S.2.1, S.2.2.1, S.2.2.2.1, S.2.2.2.2.1, S.2.2.2.2.2.1, S.2.2.2.2.2.2.1, S.2.2.2.2.2.2.2.1, S.2.2.2.2.2.2.2.2.1, S.2.2.2.2.2.2.2.2.2.1, S.2.2.2.2.2.2.2.2.2.2.1, S.2.2.2.2.2.2.2.2.2.2.2.1, S.2.2.2.2.2.2.2.2.2.2.2.2.1, S.2.2.2.2.2.2.2.2.2.2.2.2.2.1, S.2.2.2.2.2.2.2.2.2.2.2.2.2.2.1, x, S.2.2.2.2.2.2.2.2.2.2.2.2.2.2.2.2)
def s10_odds (S : SX10) (x : Nat → Int64) : SX10 := (S.1, S.2.1, S.2.2.1, S.2.2.2.1, S.2.2.2.2.1, S.2.2.2.2.2.1, S.2.2.2.2.2.2.1, S.2.2.2.2.2.2.2.1, S.2.2.2.2.2.2.2.2.1, S.2.2.2.2.2.2.2.2.2.1, S.2.2.2.2.2.2.2.2.2.2.1, S.2.2.2.2.2.2.2.2.2.2.2.1, S.2.2.2.2.2.2.2.2.2.2.2.2.1, S.2.2.2.2.2.2.2.2.2.2.2.2.2.1, S.2.2.2.2.2.2.2.2.2.2.2.2.2.2.1, S.2.2.2.2.2.2.2.2.2.2.2.2.2.2.2.1, x, S.2.2.2.2.2.2.2.2.2.2.2.2.2.2.2.2.2)
def s10_means (S : SX10) (x : Nat → Int64) : SX10 := (S.1, S.2.1, S.2.2.1, S.2.2.2.1, S.2.2.2.2.1, S.2.2.2.2.2.1, S.2.2.2.2.2.2.1, S.2.2.2.2.2.2.2.1, S.2.2.2.2.2.2.2.2.1, S.2.2.2.2.2.2.2.2.2.1, S.2.2.2.2.2.2.2.2.2.2.1, S.2.2.2.2.2.2.2.2.2.2.2.1, S.2.2.2.2.2.2.2.2.2.2.2.2.1, S.2.2.2.2.2.2.2.2.2.2.2.2.2.1, S.2.2.2.2.2.2.2.2.2.2.2.2.2.2.1, S.2.2.2.2.2.2.2.2.2.2.2.2.2.2.2.1, S.2.2.2.2.2.2.2.2.2.2.2.2.2.2.2.2.1, x, S.2.2.2.2.2.2.2.2.2.2.2.2.2.2.2.2.2.2)
def s10_image (S : SX10) (x : Nat → Int32) : SX10 := (S.1, S.2.1, S.2.2.1, S.2.2.2.1, S.2.2.2.2.1, S.2.2.2.2.2.1, S.2.2.2.2.2.2.1, S.2.2.2.2.2.2.2.1, S.2.2.2.2.2.2.2.2.1, S.2.2.2.2.2.2.2.2.2.1, S.2.2.2.2.2.2.2.2.2.2.1, S.2.2.2.2.2.2.2.2.2.2.2.1, S.2.2.2.2.2.2.2.2.2.2.2.2.1, S.2.2.2.2.2.2.2.2.2.2.2.2.2.1, S.2.2.2.2.2.2.2.2.2.2.2.2.2.2.1, S.2.2.2.2.2.2.2.2.2.2.2.2.2.2.2.1, S.2.2.2.2.2.2.2.2.2.2.2.2.2.2.2.2.1, S.2.2.2.2.2.2.2.2.2.2.2.2.2.2.2.2.2.1, x, S.2.2.2.2.2.2.2.2.2.2.2.2.2.2.2.2.2.2.2)
def s10_isKept (S : SX10) (x : Nat → Int32) : SX10 := (S.1, S.2.1, S.2.2.1, S.2.2.2.1, S.2.2.2.2.1, S.2.2.2.2.2.1, S.2.2.2.2.2.2.1, S.2.2.2.2.2.2.2.1, S.2.2.2.2.2.2.2.2.1, S.2.2.2.2.2.2.2.2.2.1, S.2.2.2.2.2.2.2.2.2.2.1, S.2.2.2.2.2.2.2.2.2.2.2.1, S.2.2.2.2.2.2.2.2.2.2.2.2.1, S.2.2.2.2.2.2.2.2.2.2.2.2.2.1, S.2.2.2.2.2.2.2.2.2.2.2.2.2.2.1, S.2.2.2.2.2.2.2.2.2.2.2.2.2.2.2.1, S.2.2.2.2.2.2.2.2.2.2.2.2.2.2.2.2.1, S.2.2.2.2.2.2.2.2.2.2.2.2.2.2.2.2.2.1, S.2.2.2.2.2.2.2.2.2.2.2.2.2.2.2.2.2.2.1, x)
def u10 (G : gG) (a0 a1 a2 a3 a4 a5 a6 a7 a8 a9 a10 a11 a12 : Nat) (S : SX10) : va_W := [(a0, .inr (9, [.ref a1, .ref a2, .int (g10_sights S), .ref a3, .int (g10_signs S), .ref a4, .int (g10_steps S), .int (g10_paid S), .int (g10_roofAt S), .int (g10_roofWho S), .int (g10_reason S), .int (g10_acts S), .ref a5, .ref a6, .ref a7, .ref a8, .ref a9, .ref a10, .ref a11, .ref a12])), (a1, .inl (gI G, 47, .inl (g10_book S))), (a2, .inl (gI G, 47, .inl (g10_now S))), (a3, .inl (gI G, 16, .inl (g10_sight S))), (a4, .inl (gI G, 60, .inl (g10_pad S))), (a5, .inl (gI G, 14, .inl (g10_few S))), (a6, .inl (gI G, 14, .inl (g10_rows S))), (a7, .inl (gZ G, 64, .inl (g10_can S))), (a8, .inl (gZ G, 4096, .inl (g10_wins S))), (a9, .inl (gJ G, 13, .inr (.inl (g10_odds S)))), (a10, .inl (gJ G, 13, .inr (.inl (g10_means S)))), (a11, .inl (gI G, 140, .inl (g10_image S))), (a12, .inl (gZ G, 2, .inl (g10_isKept S)))]
theorem z10_book {G : gG} {a0 a1 a2 a3 a4 a5 a6 a7 a8 a9 a10 a11 a12 : Nat} {S : SX10} {x : Nat → Int32} : (u10 G a0 a1 a2 a3 a4 a5 a6 a7 a8 a9 a10 a11 a12 S).set 1 (a1, .inl (gI G, 47, .inl x)) = u10 G a0 a1 a2 a3 a4 a5 a6 a7 a8 a9 a10 a11 a12 (s10_book S x) := rfl
theorem z10_now {G : gG} {a0 a1 a2 a3 a4 a5 a6 a7 a8 a9 a10 a11 a12 : Nat} {S : SX10} {x : Nat → Int32} : (u10 G a0 a1 a2 a3 a4 a5 a6 a7 a8 a9 a10 a11 a12 S).set 2 (a2, .inl (gI G, 47, .inl x)) = u10 G a0 a1 a2 a3 a4 a5 a6 a7 a8 a9 a10 a11 a12 (s10_now S x) := rfl
theorem z10_sights {G : gG} {a0 a1 a2 a3 a4 a5 a6 a7 a8 a9 a10 a11 a12 : Nat} {S : SX10} {x : Int32} : (u10 G a0 a1 a2 a3 a4 a5 a6 a7 a8 a9 a10 a11 a12 S).set 0 (a0, .inr (9, [.ref a1, .ref a2, .int (g10_sights S), .ref a3, .int (g10_signs S), .ref a4, .int (g10_steps S), .int (g10_paid S), .int (g10_roofAt S), .int (g10_roofWho S), .int (g10_reason S), .int (g10_acts S), .ref a5, .ref a6, .ref a7, .ref a8, .ref a9, .ref a10, .ref a11, .ref a12].set 2 (.int x))) = u10 G a0 a1 a2 a3 a4 a5 a6 a7 a8 a9 a10 a11 a12 (s10_sights S x) := rfl
theorem z10_sight {G : gG} {a0 a1 a2 a3 a4 a5 a6 a7 a8 a9 a10 a11 a12 : Nat} {S : SX10} {x : Nat → Int32} : (u10 G a0 a1 a2 a3 a4 a5 a6 a7 a8 a9 a10 a11 a12 S).set 3 (a3, .inl (gI G, 16, .inl x)) = u10 G a0 a1 a2 a3 a4 a5 a6 a7 a8 a9 a10 a11 a12 (s10_sight S x) := rfl
theorem z10_signs {G : gG} {a0 a1 a2 a3 a4 a5 a6 a7 a8 a9 a10 a11 a12 : Nat} {S : SX10} {x : Int32} : (u10 G a0 a1 a2 a3 a4 a5 a6 a7 a8 a9 a10 a11 a12 S).set 0 (a0, .inr (9, [.ref a1, .ref a2, .int (g10_sights S), .ref a3, .int (g10_signs S), .ref a4, .int (g10_steps S), .int (g10_paid S), .int (g10_roofAt S), .int (g10_roofWho S), .int (g10_reason S), .int (g10_acts S), .ref a5, .ref a6, .ref a7, .ref a8, .ref a9, .ref a10, .ref a11, .ref a12].set 4 (.int x))) = u10 G a0 a1 a2 a3 a4 a5 a6 a7 a8 a9 a10 a11 a12 (s10_signs S x) := rfl
theorem z10_pad {G : gG} {a0 a1 a2 a3 a4 a5 a6 a7 a8 a9 a10 a11 a12 : Nat} {S : SX10} {x : Nat → Int32} : (u10 G a0 a1 a2 a3 a4 a5 a6 a7 a8 a9 a10 a11 a12 S).set 4 (a4, .inl (gI G, 60, .inl x)) = u10 G a0 a1 a2 a3 a4 a5 a6 a7 a8 a9 a10 a11 a12 (s10_pad S x) := rfl
theorem z10_steps {G : gG} {a0 a1 a2 a3 a4 a5 a6 a7 a8 a9 a10 a11 a12 : Nat} {S : SX10} {x : Int32} : (u10 G a0 a1 a2 a3 a4 a5 a6 a7 a8 a9 a10 a11 a12 S).set 0 (a0, .inr (9, [.ref a1, .ref a2, .int (g10_sights S), .ref a3, .int (g10_signs S), .ref a4, .int (g10_steps S), .int (g10_paid S), .int (g10_roofAt S), .int (g10_roofWho S), .int (g10_reason S), .int (g10_acts S), .ref a5, .ref a6, .ref a7, .ref a8, .ref a9, .ref a10, .ref a11, .ref a12].set 6 (.int x))) = u10 G a0 a1 a2 a3 a4 a5 a6 a7 a8 a9 a10 a11 a12 (s10_steps S x) := rfl
theorem z10_paid {G : gG} {a0 a1 a2 a3 a4 a5 a6 a7 a8 a9 a10 a11 a12 : Nat} {S : SX10} {x : Int32} : (u10 G a0 a1 a2 a3 a4 a5 a6 a7 a8 a9 a10 a11 a12 S).set 0 (a0, .inr (9, [.ref a1, .ref a2, .int (g10_sights S), .ref a3, .int (g10_signs S), .ref a4, .int (g10_steps S), .int (g10_paid S), .int (g10_roofAt S), .int (g10_roofWho S), .int (g10_reason S), .int (g10_acts S), .ref a5, .ref a6, .ref a7, .ref a8, .ref a9, .ref a10, .ref a11, .ref a12].set 7 (.int x))) = u10 G a0 a1 a2 a3 a4 a5 a6 a7 a8 a9 a10 a11 a12 (s10_paid S x) := rfl
theorem z10_roofAt {G : gG} {a0 a1 a2 a3 a4 a5 a6 a7 a8 a9 a10 a11 a12 : Nat} {S : SX10} {x : Int32} : (u10 G a0 a1 a2 a3 a4 a5 a6 a7 a8 a9 a10 a11 a12 S).set 0 (a0, .inr (9, [.ref a1, .ref a2, .int (g10_sights S), .ref a3, .int (g10_signs S), .ref a4, .int (g10_steps S), .int (g10_paid S), .int (g10_roofAt S), .int (g10_roofWho S), .int (g10_reason S), .int (g10_acts S), .ref a5, .ref a6, .ref a7, .ref a8, .ref a9, .ref a10, .ref a11, .ref a12].set 8 (.int x))) = u10 G a0 a1 a2 a3 a4 a5 a6 a7 a8 a9 a10 a11 a12 (s10_roofAt S x) := rfl
theorem z10_roofWho {G : gG} {a0 a1 a2 a3 a4 a5 a6 a7 a8 a9 a10 a11 a12 : Nat} {S : SX10} {x : Int32} : (u10 G a0 a1 a2 a3 a4 a5 a6 a7 a8 a9 a10 a11 a12 S).set 0 (a0, .inr (9, [.ref a1, .ref a2, .int (g10_sights S), .ref a3, .int (g10_signs S), .ref a4, .int (g10_steps S), .int (g10_paid S), .int (g10_roofAt S), .int (g10_roofWho S), .int (g10_reason S), .int (g10_acts S), .ref a5, .ref a6, .ref a7, .ref a8, .ref a9, .ref a10, .ref a11, .ref a12].set 9 (.int x))) = u10 G a0 a1 a2 a3 a4 a5 a6 a7 a8 a9 a10 a11 a12 (s10_roofWho S x) := rfl
theorem z10_reason {G : gG} {a0 a1 a2 a3 a4 a5 a6 a7 a8 a9 a10 a11 a12 : Nat} {S : SX10} {x : Int32} : (u10 G a0 a1 a2 a3 a4 a5 a6 a7 a8 a9 a10 a11 a12 S).set 0 (a0, .inr (9, [.ref a1, .ref a2, .int (g10_sights S), .ref a3, .int (g10_signs S), .ref a4, .int (g10_steps S), .int (g10_paid S), .int (g10_roofAt S), .int (g10_roofWho S), .int (g10_reason S), .int (g10_acts S), .ref a5, .ref a6, .ref a7, .ref a8, .ref a9, .ref a10, .ref a11, .ref a12].set 10 (.int x))) = u10 G a0 a1 a2 a3 a4 a5 a6 a7 a8 a9 a10 a11 a12 (s10_reason S x) := rfl
theorem z10_acts {G : gG} {a0 a1 a2 a3 a4 a5 a6 a7 a8 a9 a10 a11 a12 : Nat} {S : SX10} {x : Int32} : (u10 G a0 a1 a2 a3 a4 a5 a6 a7 a8 a9 a10 a11 a12 S).set 0 (a0, .inr (9, [.ref a1, .ref a2, .int (g10_sights S), .ref a3, .int (g10_signs S), .ref a4, .int (g10_steps S), .int (g10_paid S), .int (g10_roofAt S), .int (g10_roofWho S), .int (g10_reason S), .int (g10_acts S), .ref a5, .ref a6, .ref a7, .ref a8, .ref a9, .ref a10, .ref a11, .ref a12].set 11 (.int x))) = u10 G a0 a1 a2 a3 a4 a5 a6 a7 a8 a9 a10 a11 a12 (s10_acts S x) := rfl
theorem z10_few {G : gG} {a0 a1 a2 a3 a4 a5 a6 a7 a8 a9 a10 a11 a12 : Nat} {S : SX10} {x : Nat → Int32} : (u10 G a0 a1 a2 a3 a4 a5 a6 a7 a8 a9 a10 a11 a12 S).set 5 (a5, .inl (gI G, 14, .inl x)) = u10 G a0 a1 a2 a3 a4 a5 a6 a7 a8 a9 a10 a11 a12 (s10_few S x) := rfl
theorem z10_rows {G : gG} {a0 a1 a2 a3 a4 a5 a6 a7 a8 a9 a10 a11 a12 : Nat} {S : SX10} {x : Nat → Int32} : (u10 G a0 a1 a2 a3 a4 a5 a6 a7 a8 a9 a10 a11 a12 S).set 6 (a6, .inl (gI G, 14, .inl x)) = u10 G a0 a1 a2 a3 a4 a5 a6 a7 a8 a9 a10 a11 a12 (s10_rows S x) := rfl
theorem z10_can {G : gG} {a0 a1 a2 a3 a4 a5 a6 a7 a8 a9 a10 a11 a12 : Nat} {S : SX10} {x : Nat → Int32} : (u10 G a0 a1 a2 a3 a4 a5 a6 a7 a8 a9 a10 a11 a12 S).set 7 (a7, .inl (gZ G, 64, .inl x)) = u10 G a0 a1 a2 a3 a4 a5 a6 a7 a8 a9 a10 a11 a12 (s10_can S x) := rfl
theorem z10_wins {G : gG} {a0 a1 a2 a3 a4 a5 a6 a7 a8 a9 a10 a11 a12 : Nat} {S : SX10} {x : Nat → Int32} : (u10 G a0 a1 a2 a3 a4 a5 a6 a7 a8 a9 a10 a11 a12 S).set 8 (a8, .inl (gZ G, 4096, .inl x)) = u10 G a0 a1 a2 a3 a4 a5 a6 a7 a8 a9 a10 a11 a12 (s10_wins S x) := rfl
theorem z10_odds {G : gG} {a0 a1 a2 a3 a4 a5 a6 a7 a8 a9 a10 a11 a12 : Nat} {S : SX10} {x : Nat → Int64} : (u10 G a0 a1 a2 a3 a4 a5 a6 a7 a8 a9 a10 a11 a12 S).set 9 (a9, .inl (gJ G, 13, .inr (.inl x))) = u10 G a0 a1 a2 a3 a4 a5 a6 a7 a8 a9 a10 a11 a12 (s10_odds S x) := rfl
theorem z10_means {G : gG} {a0 a1 a2 a3 a4 a5 a6 a7 a8 a9 a10 a11 a12 : Nat} {S : SX10} {x : Nat → Int64} : (u10 G a0 a1 a2 a3 a4 a5 a6 a7 a8 a9 a10 a11 a12 S).set 10 (a10, .inl (gJ G, 13, .inr (.inl x))) = u10 G a0 a1 a2 a3 a4 a5 a6 a7 a8 a9 a10 a11 a12 (s10_means S x) := rfl
theorem z10_image {G : gG} {a0 a1 a2 a3 a4 a5 a6 a7 a8 a9 a10 a11 a12 : Nat} {S : SX10} {x : Nat → Int32} : (u10 G a0 a1 a2 a3 a4 a5 a6 a7 a8 a9 a10 a11 a12 S).set 11 (a11, .inl (gI G, 140, .inl x)) = u10 G a0 a1 a2 a3 a4 a5 a6 a7 a8 a9 a10 a11 a12 (s10_image S x) := rfl
theorem z10_isKept {G : gG} {a0 a1 a2 a3 a4 a5 a6 a7 a8 a9 a10 a11 a12 : Nat} {S : SX10} {x : Nat → Int32} : (u10 G a0 a1 a2 a3 a4 a5 a6 a7 a8 a9 a10 a11 a12 S).set 12 (a12, .inl (gZ G, 2, .inl x)) = u10 G a0 a1 a2 a3 a4 a5 a6 a7 a8 a9 a10 a11 a12 (s10_isKept S x) := rfl
theorem setL {a b d : va_W} {i : Nat} {x : Nat × va_E} (hi : i < a.length) (h : a.set i x = d) : (a ++ b).set i x = d ++ b := by
  rw [List.set_append_left _ _ hi, h]
theorem setR {a b d : va_W} {i j : Nat} {x : Nat × va_E} (hj : i = a.length + j) (h : b.set j x = d) : (a ++ b).set i x = a ++ d := by
  subst hj; rw [List.set_append_right _ _ (Nat.le_add_right _ _), Nat.add_sub_cancel_left, h]
def FU : Nat := 5000
theorem tit_z {S E : Type} {F : (S → Option E) → S → Option E} {z : S} {r : E} (h : tit F 0 z = some r) : False := by cases h
end
section
def m0_become (T : SX0) (a1 : Int32) (a2 : Int32) (a3 : Int32) : Option (SX0) :=
  some (s0_place (s0_man (s0_kind T a1) a2) a3)
def m0_kindOf (T : SX0) : Option (Int32) :=
  some (g0_kind T)
def m0_doer (T : SX0) : Option (Int32) :=
  some (g0_man T)
def m0_target (T : SX0) : Option (Int32) :=
  some (g0_place T)
def m9_isMan (a0 : Int32) : Option (Int32) :=
  (if a0 < 0 then some (0 : Int32)
  else (if (6 : Int32) ≤ a0 then some (0 : Int32)
  else some (1 : Int32)))
def m1_strideOf (T : SX1) (a1 : Int32) : Option (Int32) :=
  tbd (m9_isMan a1) (fun r1 => (if r1 = 0 then some (1 : Int32)
  else tgd (tin a1 6) (some ((g1_stride T) (Int32.toNatClampNeg a1)))))
def m1_placeOf (T : SX1) (a1 : Int32) : Option (Int32) :=
  tbd (m9_isMan a1) (fun r1 => (if r1 = 0 then some (0 : Int32)
  else tgd (tin a1 6) (some ((g1_place T) (Int32.toNatClampNeg a1)))))
def m0_drawnPlace_J19 (Oc : SX1) (x0 : Int32) (x1 : Int32) (y0 : Int32) : Option (Int32) :=
  (if (irem (x0 / (4 : Int32)) (4 : Int32)) = 0 then tbd (m1_placeOf Oc x1) (fun r3 => some (imax (r3 - y0) (0 : Int32)))
  else tbd (m1_placeOf Oc x1) (fun r5 => some (imin (r5 + y0) (13 : Int32))))
def m0_drawnPlace (Oc : SX1) (a0 : Int32) (a1 : Int32) : Option (Int32) :=
  tbd (m1_strideOf Oc a1) (fun r1 => (if r1 ≤ 0 then m0_drawnPlace_J19 Oc a0 a1 (1 : Int32)
  else tgd (tnz r1) (m0_drawnPlace_J19 Oc a0 a1 ((1 : Int32) + (irem a0 r1)))))
def m0_draw_J64 (T : SX0) (Oc : SX1) (x3 : Int32) (x4 : Int32) : Option (SX0) :=
  tbd (m0_drawnPlace Oc x4 x3) (fun r4 => tbd (m0_become T (0 : Int32) x3 r4) (fun r6 => some r6))
def m0_draw_J107 (T : SX0) (Oc : SX1) (x3 : Int32) (x5 : Int32) (y1 : Int32) : Option (SX0) :=
  tbd (m0_become T y1 x3 x5) (fun r10 => some r10)
def m0_draw (T : SX0) (Oc : SX1) (a1 : Int32) : Option (SX0) :=
  tnm (irem a1 (6 : Int32)) (fun v1 => tnm (a1 / (48 : Int32)) (fun v2 => tnm ((1 : Int32) + (irem v2 (12 : Int32))) (fun v3 => (if (irem (a1 / (6 : Int32)) (8 : Int32)) = 0 then m0_draw_J64 T Oc v1 v2
  else (if (irem (a1 / (6 : Int32)) (8 : Int32)) = 1 then m0_draw_J64 T Oc v1 v2
  else (if (irem (a1 / (6 : Int32)) (8 : Int32)) = 2 then m0_draw_J64 T Oc v1 v2
  else (if (irem (a1 / (6 : Int32)) (8 : Int32)) = 3 then m0_draw_J64 T Oc v1 v2
  else (if (irem (a1 / (6 : Int32)) (8 : Int32)) = 4 then tbd (m0_become T (1 : Int32) v1 v3) (fun r8 => some r8)
  else (if (irem (a1 / (6 : Int32)) (8 : Int32)) = 5 then (if (irem (v2 / (12 : Int32)) (2 : Int32)) = 0 then m0_draw_J107 T Oc v1 v3 (2 : Int32)
  else m0_draw_J107 T Oc v1 v3 (3 : Int32))
  else tbd (m0_become T (4 : Int32) v1 (0 : Int32)) (fun r12 => some r12))))))))))
def m1_copyFrom (T : SX1) (Ob : SX1) : Option (SX1) :=
  some (s1_dry (s1_wet (s1_sights (s1_beat (s1_stepped (s1_place (s1_coins (s1_stride (s1_missing (s1_leaser (s1_owner T (va_cpy (g1_owner Ob) (g1_owner T) 0 0 13)) (va_cpy (g1_leaser Ob) (g1_leaser T) 0 0 13)) (g1_missing Ob)) (va_cpy (g1_stride Ob) (g1_stride T) 0 0 6)) (va_cpy (g1_coins Ob) (g1_coins T) 0 0 6)) (va_cpy (g1_place Ob) (g1_place T) 0 0 6)) (g1_stepped Ob)) (g1_beat Ob)) (g1_sights Ob)) (g1_wet Ob)) (g1_dry Ob))
def m9_isRung (a0 : Int32) : Option (Int32) :=
  (if a0 < (1 : Int32) then some (0 : Int32)
  else (if (12 : Int32) < a0 then some (0 : Int32)
  else some (1 : Int32)))
def m1_ownerOf (T : SX1) (a1 : Int32) : Option (Int32) :=
  tbd (m9_isRung a1) (fun r1 => (if r1 = 0 then some (-1 : Int32)
  else tgd (tin a1 13) (some ((g1_owner T) (Int32.toNatClampNeg a1)))))
def m1_leaserOf (T : SX1) (a1 : Int32) : Option (Int32) :=
  tbd (m9_isRung a1) (fun r1 => (if r1 = 0 then some (-1 : Int32)
  else tgd (tin a1 13) (some ((g1_leaser T) (Int32.toNatClampNeg a1)))))
def m9_bitOf (a0 : Int32) : Option (Int32) :=
  (if a0 < (1 : Int32) then some (0 : Int32)
  else (if (12 : Int32) < a0 then some (0 : Int32)
  else some ((1 : Int32) <<< ((a0 - (1 : Int32)) &&& 31))))
def m1_isMissing (T : SX1) (a1 : Int32) : Option (Int32) :=
  tbd (m9_bitOf a1) (fun r1 => (if ((g1_missing T) &&& r1) = 0 then some (0 : Int32)
  else some (1 : Int32)))
def m1_rungsMissing (T : SX1) : Option (Int32) :=
  some (g1_missing T)
def m1_setRung (T : SX1) (a1 : Int32) (a2 : Int32) (a3 : Int32) (a4 : Int32) : Option (SX1) :=
  tbd (m9_isRung a1) (fun r1 => (if r1 = 0 then some T
  else tgd (tin a1 13) (tgd (tin a1 13) ((if a4 = 0 then tbd (m9_bitOf a1) (fun r3 => some (s1_missing (s1_leaser (s1_owner T (upd (g1_owner T) (Int32.toNatClampNeg a1) a2)) (upd (g1_leaser T) (Int32.toNatClampNeg a1) a3)) ((g1_missing T) &&& (r3 ^^^ (-1 : Int32)))))
  else tbd (m9_bitOf a1) (fun r5 => some (s1_missing (s1_leaser (s1_owner T (upd (g1_owner T) (Int32.toNatClampNeg a1) a2)) (upd (g1_leaser T) (Int32.toNatClampNeg a1) a3)) ((g1_missing T) ||| r5))))))))
def m1_coinsOf (T : SX1) (a1 : Int32) : Option (Int32) :=
  tbd (m9_isMan a1) (fun r1 => (if r1 = 0 then some (0 : Int32)
  else tgd (tin a1 6) (some ((g1_coins T) (Int32.toNatClampNeg a1)))))
def m1_hasStepped (T : SX1) (a1 : Int32) : Option (Int32) :=
  tbd (m9_isMan a1) (fun r1 => (if r1 = 0 then some (0 : Int32)
  else (if ((g1_stepped T) &&& ((1 : Int32) <<< (a1 &&& 31))) = 0 then some (0 : Int32)
  else some (1 : Int32))))
def m1_menStepped (T : SX1) : Option (Int32) :=
  some (g1_stepped T)
def m1_setMan (T : SX1) (a1 : Int32) (a2 : Int32) (a3 : Int32) (a4 : Int32) : Option (SX1) :=
  tbd (m9_isMan a1) (fun r1 => (if r1 = 0 then some T
  else tgd (tin a1 6) (tgd (tin a1 6) (tgd (tin a1 6) (some (s1_stepped (s1_place (s1_coins (s1_stride T (upd (g1_stride T) (Int32.toNatClampNeg a1) a2)) (upd (g1_coins T) (Int32.toNatClampNeg a1) a3)) (upd (g1_place T) (Int32.toNatClampNeg a1) a4)) ((g1_stepped T) &&& (((1 : Int32) <<< (a1 &&& 31)) ^^^ (-1 : Int32)))))))))
def m1_beatNow (T : SX1) : Option (Int32) :=
  some (g1_beat T)
def m1_menOnRoof_B4 (T : SX1) (rc4 : Int32 × Int32 → Option (Int32)) (x1 : Int32) (x2 : Int32) : Option (Int32) :=
  (if (6 : Int32) ≤ x2 then some x1
  else tgd (tin x2 6) ((if ((g1_place T) (Int32.toNatClampNeg x2)) = (13 : Int32) then tnm (x1 ||| ((1 : Int32) <<< (x2 &&& 31))) (fun v2 => tnm (x2 + (1 : Int32)) (fun v3 => rc4 (v2, v3)))
  else tnm (x2 + (1 : Int32)) (fun v1 => rc4 (x1, v1)))))
def m1_menOnRoof_L4 (T : SX1) (rc4 : Int32 × Int32 → Option (Int32)) (z : Int32 × Int32) : Option (Int32) := m1_menOnRoof_B4 T rc4 z.1 z.2
def m1_menOnRoof (T : SX1) : Option (Int32) :=
  tit (m1_menOnRoof_L4 T) FU ((0 : Int32), (0 : Int32))
def m1_firstManOn_B2 (T : SX1) (x1 : Int32) (rc2 : Int32 → Option (Int32)) (x2 : Int32) : Option (Int32) :=
  (if (6 : Int32) ≤ x2 then some (-1 : Int32)
  else tgd (tin x2 6) ((if ((g1_place T) (Int32.toNatClampNeg x2)) = x1 then some x2
  else tnm (x2 + (1 : Int32)) (fun v1 => rc2 v1))))
def m1_firstManOn_L2 (T : SX1) (x1 : Int32) (rc2 : Int32 → Option (Int32)) (z : Int32) : Option (Int32) := m1_firstManOn_B2 T x1 rc2 z
def m1_firstManOn (T : SX1) (a1 : Int32) : Option (Int32) :=
  tit (m1_firstManOn_L2 T a1) FU (0 : Int32)
def m1_mayBeOn (T : SX1) (a1 : Int32) (a2 : Int32) : Option (Int32) :=
  (if a2 < (1 : Int32) then some (0 : Int32)
  else (if (12 : Int32) < a2 then some (0 : Int32)
  else (if (((g1_missing T) >>> ((a2 - (1 : Int32)) &&& 31)) &&& (1 : Int32)) = 0 then tgd (tin a2 13) ((if ((g1_owner T) (Int32.toNatClampNeg a2)) = (-1 : Int32) then some (1 : Int32)
  else tgd (tin a2 13) ((if ((g1_owner T) (Int32.toNatClampNeg a2)) = a1 then some (1 : Int32)
  else tgd (tin a2 13) ((if ((g1_leaser T) (Int32.toNatClampNeg a2)) = a1 then some (1 : Int32)
  else some (0 : Int32)))))))
  else some (0 : Int32))))
def m1_rungsOpenTo_B4 (T : SX1) (x1 : Int32) (rc4 : Int32 × Int32 → Option (Int32)) (x2 : Int32) (x3 : Int32) : Option (Int32) :=
  (if (12 : Int32) < x3 then some x2
  else tbd (m1_mayBeOn T x1 x3) (fun r1 => (if r1 = 0 then tnm (x3 + (1 : Int32)) (fun v3 => rc4 (x2, v3))
  else tbd (m9_bitOf x3) (fun r4 => tnm (x2 ||| r4) (fun v6 => tnm (x3 + (1 : Int32)) (fun v7 => rc4 (v6, v7)))))))
def m1_rungsOpenTo_L4 (T : SX1) (x1 : Int32) (rc4 : Int32 × Int32 → Option (Int32)) (z : Int32 × Int32) : Option (Int32) := m1_rungsOpenTo_B4 T x1 rc4 z.1 z.2
def m1_rungsOpenTo (T : SX1) (a1 : Int32) : Option (Int32) :=
  tit (m1_rungsOpenTo_L4 T a1) FU ((0 : Int32), (1 : Int32))
def m1_rungsToLease_B4 (T : SX1) (rc4 : Int32 × Int32 → Option (Int32)) (x1 : Int32) (x2 : Int32) : Option (Int32) :=
  (if (12 : Int32) < x2 then some x1
  else tbd (m1_isMissing T x2) (fun r1 => (if r1 = 0 then tgd (tin x2 13) ((if ((g1_owner T) (Int32.toNatClampNeg x2)) = (-1 : Int32) then tnm (x2 + (1 : Int32)) (fun v4 => rc4 (x1, v4))
  else tgd (tin x2 13) ((if ((g1_leaser T) (Int32.toNatClampNeg x2)) = (-1 : Int32) then tbd (m9_bitOf x2) (fun r6 => tnm (x1 ||| r6) (fun v8 => tnm (x2 + (1 : Int32)) (fun v9 => rc4 (v8, v9))))
  else tnm (x2 + (1 : Int32)) (fun v5 => rc4 (x1, v5))))))
  else tnm (x2 + (1 : Int32)) (fun v3 => rc4 (x1, v3)))))
def m1_rungsToLease_L4 (T : SX1) (rc4 : Int32 × Int32 → Option (Int32)) (z : Int32 × Int32) : Option (Int32) := m1_rungsToLease_B4 T rc4 z.1 z.2
def m1_rungsToLease (T : SX1) : Option (Int32) :=
  tit (m1_rungsToLease_L4 T) FU ((0 : Int32), (1 : Int32))
def m1_reasonAgainstLease (T : SX1) (a1 : Int32) (a2 : Int32) : Option (Int32) :=
  tbd (m1_isMissing T a2) (fun r1 => (if r1 = 0 then tbd (m1_ownerOf T a2) (fun r3 => (if r3 = a1 then some (6 : Int32)
  else tbd (m1_ownerOf T a2) (fun r5 => (if r5 = (-1 : Int32) then some (6 : Int32)
  else tbd (m1_leaserOf T a2) (fun r7 => (if r7 = (-1 : Int32) then tbd (m1_coinsOf T a1) (fun r9 => (if 0 < r9 then some (0 : Int32)
  else some (8 : Int32)))
  else some (7 : Int32)))))))
  else some (3 : Int32)))
def m1_reasonAgainstStep (T : SX1) (a1 : Int32) (a2 : Int32) : Option (Int32) :=
  tbd (m1_hasStepped T a1) (fun r1 => (if r1 = 0 then tbd (m1_placeOf T a1) (fun r3 => tnm (iabs (a2 - r3)) (fun v5 => (if v5 = 0 then some (2 : Int32)
  else tbd (m1_strideOf T a1) (fun r6 => (if v5 ≤ r6 then tbd (m9_isRung a2) (fun r8 => (if r8 = 0 then some (0 : Int32)
  else tbd (m1_isMissing T a2) (fun r10 => (if r10 = 0 then tbd (m1_mayBeOn T a1 a2) (fun r12 => (if r12 = 0 then some (4 : Int32)
  else tbd (m1_firstManOn T a2) (fun r14 => (if r14 = (-1 : Int32) then some (0 : Int32)
  else some (5 : Int32)))))
  else some (3 : Int32)))))
  else some (2 : Int32))))))
  else some (1 : Int32)))
def m1_reasonAgainst (T : SX1) (Ob : SX0) : Option (Int32) :=
  tbd (m0_kindOf Ob) (fun r1 => (if r1 = 0 then tbd (m0_doer Ob) (fun r3 => tbd (m0_target Ob) (fun r5 => tbd (m1_reasonAgainstStep T r3 r5) (fun r7 => some r7)))
  else (if r1 = 1 then tbd (m0_doer Ob) (fun r9 => tbd (m0_target Ob) (fun r11 => tbd (m1_reasonAgainstLease T r9 r11) (fun r13 => some r13)))
  else (if r1 = 2 then tbd (m0_target Ob) (fun r15 => tbd (m1_isMissing T r15) (fun r17 => (if r17 = 0 then some (0 : Int32)
  else some (9 : Int32))))
  else (if r1 = 3 then tbd (m0_target Ob) (fun r19 => tbd (m1_isMissing T r19) (fun r21 => (if r21 = 0 then some (9 : Int32)
  else some (0 : Int32))))
  else (if (g1_beat T) < (99 : Int32) then some (0 : Int32)
  else some (10 : Int32)))))))
def m1_leaseTo_J17 (T : SX1) (x1 : Int32) (x2 : Int32) (y0 : Int32) : Option (SX1) :=
  tbd (m9_isRung x2) (fun r3 => (if r3 = 0 then some T
  else tbd (m9_isMan x1) (fun r5 => (if r5 = 0 then some T
  else tbd (m9_isMan y0) (fun r7 => (if r7 = 0 then some T
  else tgd (tin x2 13) (tgd (tin x1 6) (tgd (tin x1 6) (tgd (tin y0 6) (tgd (tin y0 6) (some (s1_coins (s1_leaser T (upd (g1_leaser T) (Int32.toNatClampNeg x2) x1)) (upd (upd (g1_coins T) (Int32.toNatClampNeg x1) (((g1_coins T) (Int32.toNatClampNeg x1)) - (1 : Int32))) (Int32.toNatClampNeg y0) (((upd (g1_coins T) (Int32.toNatClampNeg x1) (((g1_coins T) (Int32.toNatClampNeg x1)) - (1 : Int32))) (Int32.toNatClampNeg y0)) + (1 : Int32)))))))))))))))
def m1_leaseTo (T : SX1) (a1 : Int32) (a2 : Int32) : Option (SX1) :=
  tbd (m9_isRung a2) (fun r1 => (if r1 = 0 then m1_leaseTo_J17 T a1 a2 (-1 : Int32)
  else tgd (tin a2 13) (m1_leaseTo_J17 T a1 a2 ((g1_owner T) (Int32.toNatClampNeg a2)))))
def m1_moveTo (T : SX1) (a1 : Int32) (a2 : Int32) : Option (SX1) :=
  tbd (m9_isMan a1) (fun r1 => (if r1 = 0 then some T
  else tgd (tin a1 6) (some (s1_stepped (s1_place T (upd (g1_place T) (Int32.toNatClampNeg a1) a2)) ((g1_stepped T) ||| ((1 : Int32) <<< (a1 &&& 31)))))))
def m1_perform (T : SX1) (Ob : SX0) : Option (SX1) :=
  tbd (m0_kindOf Ob) (fun r1 => (if r1 = 0 then tbd (m0_doer Ob) (fun r3 => tbd (m0_target Ob) (fun r5 => tbd (m1_moveTo T r3 r5) (fun r7 => some r7)))
  else (if r1 = 1 then tbd (m0_doer Ob) (fun r9 => tbd (m0_target Ob) (fun r11 => tbd (m1_leaseTo T r9 r11) (fun r13 => some r13)))
  else (if r1 = 2 then tbd (m0_target Ob) (fun r15 => tbd (m1_setRung T r15 (-1 : Int32) (-1 : Int32) (1 : Int32)) (fun r17 => some r17))
  else (if r1 = 3 then tbd (m0_target Ob) (fun r19 => tbd (m1_setRung T r19 (-1 : Int32) (-1 : Int32) (0 : Int32)) (fun r21 => some r21))
  else some (s1_beat (s1_stepped T (0 : Int32)) ((g1_beat T) + (1 : Int32))))))))
def m1_addSight_J44 (T : SX1) : Option (Int32 × SX1) :=
  some ((1 : Int32), (s1_sights T ((g1_sights T) + (1 : Int32))))
def m1_addSight (T : SX1) (a1 : Int32) (a2 : Int32) : Option (Int32 × SX1) :=
  (if (g1_sights T) < (8 : Int32) then (if a2 = 0 then tbd (m9_bitOf a1) (fun r1 => m1_addSight_J44 (s1_dry T ((g1_dry T) ||| r1)))
  else tbd (m9_bitOf a1) (fun r3 => m1_addSight_J44 (s1_wet T ((g1_wet T) ||| r3))))
  else some ((0 : Int32), T))
def m1_clearSights (T : SX1) : Option (SX1) :=
  some (s1_dry (s1_wet (s1_sights T (0 : Int32)) (0 : Int32)) (0 : Int32))
def m1_sightCount (T : SX1) : Option (Int32) :=
  some (g1_sights T)
def m1_sightsFit (T : SX1) (a1 : Int32) : Option (Int32) :=
  (if (a1 &&& (g1_wet T)) = (g1_wet T) then (if (a1 &&& (g1_dry T)) = 0 then some (1 : Int32)
  else some (0 : Int32))
  else some (0 : Int32))
def m2_heapsOf_B7 (x0 : Int32) (rc7 : Int32 × Int32 × Int32 → Option (Int32)) (x1 : Int32) (x2 : Int32) (x3 : Int32) : Option (Int32) :=
  (if x3 < (1 : Int32) then (if x2 = 0 then some x1
  else some (x1 ^^^ (x2 - (1 : Int32))))
  else tbd (m9_bitOf x3) (fun r1 => (if (x0 &&& r1) = 0 then tnm (x3 + (-1 : Int32)) (fun v6 => rc7 (x1, x2, v6))
  else (if x2 = 0 then tnm (x3 + (-1 : Int32)) (fun v5 => rc7 (x1, x3, v5))
  else tnm (x1 ^^^ ((x2 - x3) - (1 : Int32))) (fun v3 => tnm (x3 + (-1 : Int32)) (fun v4 => rc7 (v3, (0 : Int32), v4)))))))
def m2_heapsOf_L7 (x0 : Int32) (rc7 : Int32 × Int32 × Int32 → Option (Int32)) (z : Int32 × Int32 × Int32) : Option (Int32) := m2_heapsOf_B7 x0 rc7 z.1 z.2.1 z.2.2
def m2_heapsOf (a0 : Int32) : Option (Int32) :=
  tit (m2_heapsOf_L7 a0) FU ((0 : Int32), (0 : Int32), (12 : Int32))
def m2_canWin (a0 : Int32) : Option (Int32) :=
  tbd (m2_heapsOf a0) (fun r1 => (if r1 = 0 then some (0 : Int32)
  else some (1 : Int32)))
def m2_leastWinningMove_B36 (x0 : Int32) (x2 : Int32) (rc14 : Int32 × Int32 → Option (Int32)) (rc36 : Int32 → Option (Int32)) (x3 : Int32) : Option (Int32) :=
  (if x2 ≤ x3 then tnm (x2 + (1 : Int32)) (fun v6 => rc14 (x2, v6))
  else tbd (m9_bitOf x2) (fun r7 => tbd (m9_bitOf x3) (fun r9 => tbd (m2_canWin ((x0 &&& (r7 ^^^ (-1 : Int32))) ||| r9)) (fun r11 => (if r11 = 0 then some (((100 : Int32) * x2) + x3)
  else tnm (x3 + (1 : Int32)) (fun v13 => rc36 v13))))))
def m2_leastWinningMove_L36 (x0 : Int32) (x2 : Int32) (rc14 : Int32 × Int32 → Option (Int32)) (rc36 : Int32 → Option (Int32)) (z : Int32) : Option (Int32) := m2_leastWinningMove_B36 x0 x2 rc14 rc36 z
def m2_leastWinningMove_B14 (x0 : Int32) (rc14 : Int32 × Int32 → Option (Int32)) (x1 : Int32) (x2 : Int32) : Option (Int32) :=
  (if (12 : Int32) < x2 then some (-6 : Int32)
  else tbd (m9_bitOf x2) (fun r3 => (if (x0 &&& r3) = 0 then tnm (x2 + (1 : Int32)) (fun v14 => rc14 (x1, v14))
  else tnm (x1 + (1 : Int32)) (fun v5 => tit (m2_leastWinningMove_L36 x0 x2 rc14) FU v5))))
def m2_leastWinningMove_L14 (x0 : Int32) (rc14 : Int32 × Int32 → Option (Int32)) (z : Int32 × Int32) : Option (Int32) := m2_leastWinningMove_B14 x0 rc14 z.1 z.2
def m2_leastWinningMove (a0 : Int32) : Option (Int32) :=
  tbd (m2_canWin a0) (fun r1 => (if r1 = 0 then some (-6 : Int32)
  else tit (m2_leastWinningMove_L14 a0) FU ((0 : Int32), (1 : Int32))))
def m3_power_B5 (x0 : Int32) (x1 : Int32) (rc5 : Int64 × Int32 → Option (Int64)) (x2 : Int64) (x4 : Int32) : Option (Int64) :=
  (if x1 ≤ x4 then some x2
  else (if (12 : Int32) ≤ x4 then some x2
  else tnm (x2 * (Int32.toInt64 x0)) (fun v2 => tnm (x4 + (1 : Int32)) (fun v3 => rc5 (v2, v3)))))
def m3_power_L5 (x0 : Int32) (x1 : Int32) (rc5 : Int64 × Int32 → Option (Int64)) (z : Int64 × Int32) : Option (Int64) := m3_power_B5 x0 x1 rc5 z.1 z.2
def m3_power (a0 : Int32) (a1 : Int32) : Option (Int64) :=
  tnm (1 : Int64) (fun v1 => tit (m3_power_L5 a0 a1) FU (v1, (0 : Int32)))
def m3_reckonChances_J59 (T : SX3) (x1 : Int32) (x2 : Int32) (x3 : Int64) (rc9 : Int32 × SX3 → Option (SX3)) : Option (SX3) :=
  tgd (tin x2 13) (tnm (x2 + (1 : Int32)) (fun v2 => rc9 (v2, (s3_chances T (vp_updL (g3_chances T) (Int32.toNatClampNeg x2) x3)))))
def m3_reckonChances_B20 (T : SX3) (x1 : Int32) (x2 : Int32) (rc9 : Int32 × SX3 → Option (SX3)) (rc20 : Int64 × Int32 → Option (SX3)) (x3 : Int64) (x5 : Int32) : Option (SX3) :=
  (if x1 < x5 then m3_reckonChances_J59 T x1 x2 x3 rc9
  else (if x2 < x5 then m3_reckonChances_J59 T x1 x2 x3 rc9
  else tgd (tin (x2 - x5) 13) (tbd (m3_power x1 (x5 - (1 : Int32))) (fun r3 => tnm (x3 + (((g3_chances T) (Int32.toNatClampNeg (x2 - x5))) * r3)) (fun v5 => tnm (x5 + (1 : Int32)) (fun v6 => rc20 (v5, v6)))))))
def m3_reckonChances_L20 (T : SX3) (x1 : Int32) (x2 : Int32) (rc9 : Int32 × SX3 → Option (SX3)) (rc20 : Int64 × Int32 → Option (SX3)) (z : Int64 × Int32) : Option (SX3) := m3_reckonChances_B20 T x1 x2 rc9 rc20 z.1 z.2
def m3_reckonChances_B9 (x1 : Int32) (rc9 : Int32 × SX3 → Option (SX3)) (x2 : Int32) (T : SX3) : Option (SX3) :=
  (if (12 : Int32) < x2 then some T
  else tnm (0 : Int64) (fun v1 => tit (m3_reckonChances_L20 T x1 x2 rc9) FU (v1, (1 : Int32))))
def m3_reckonChances_L9 (x1 : Int32) (rc9 : Int32 × SX3 → Option (SX3)) (z : Int32 × SX3) : Option (SX3) := m3_reckonChances_B9 x1 rc9 z.1 z.2
def m3_reckonChances (T : SX3) (a1 : Int32) : Option (SX3) :=
  tit (m3_reckonChances_L9 a1) FU ((1 : Int32), (s3_chances T (vp_updL (g3_chances T) (Int32.toNatClampNeg (0 : Int32)) (1 : Int64))))
def m3_chanceOn_J23 (T : SX3) (x1 : Int32) (x2 : Int32) (y1 : Int64) : Option (SX3) :=
  tbd (m3_power x1 x2) (fun r5 => some (s3_lower (s3_upper T y1) r5))
def m3_chanceOn (T : SX3) (a1 : Int32) (a2 : Int32) : Option (SX3) :=
  tbd (m3_reckonChances T a1) (fun r1 => tbd (m9_isRung a2) (fun r3 => (if r3 = 0 then m3_chanceOn_J23 r1 a1 a2 (0 : Int64)
  else tgd (tin a2 13) (m3_chanceOn_J23 r1 a1 a2 ((g3_chances r1) (Int32.toNatClampNeg a2))))))
def m3_meanStepsTo_J54 (T : SX3) (x1 : Int32) (x2 : Int32) : Option (SX3) :=
  tbd (m3_power x1 (x2 - (1 : Int32))) (fun r3 => some (s3_lower T r3))
def m3_meanStepsTo_B12 (x1 : Int32) (x2 : Int32) (rc12 : Int32 × SX3 → Option (SX3)) (x3 : Int32) (T : SX3) : Option (SX3) :=
  (if x2 ≤ x3 then m3_meanStepsTo_J54 T x1 x2
  else (if (12 : Int32) < x3 then m3_meanStepsTo_J54 T x1 x2
  else tgd (tin x3 13) (tbd (m3_power x1 ((x2 - (1 : Int32)) - x3)) (fun r5 => tnm (x3 + (1 : Int32)) (fun v7 => rc12 (v7, (s3_upper T ((g3_upper T) + (((g3_chances T) (Int32.toNatClampNeg x3)) * r5)))))))))
def m3_meanStepsTo_L12 (x1 : Int32) (x2 : Int32) (rc12 : Int32 × SX3 → Option (SX3)) (z : Int32 × SX3) : Option (SX3) := m3_meanStepsTo_B12 x1 x2 rc12 z.1 z.2
def m3_meanStepsTo (T : SX3) (a1 : Int32) (a2 : Int32) : Option (SX3) :=
  tbd (m3_reckonChances T a1) (fun r1 => tit (m3_meanStepsTo_L12 a1 a2) FU ((0 : Int32), (s3_upper r1 (0 : Int64))))
def m3_upperNumber (T : SX3) : Option (Int64) :=
  some (g3_upper T)
def m3_lowerNumber (T : SX3) : Option (Int64) :=
  some (g3_lower T)
def m4_begin (T : SX4) (Ob : SX1) (T_after : SX1) : Option (SX4 × SX1) :=
  tbd (m1_copyFrom T_after Ob) (fun r1 => some ((s4_why (s4_manUp (s4_actUp (s4_paid (s4_steps (s4_acts T (0 : Int32)) (0 : Int32)) (0 : Int32)) (-6 : Int32)) (-6 : Int32)) (0 : Int32)), r1))
def m5_signAt (T : SX5) (a1 : Int32) : Option (Int32) :=
  (if a1 < 0 then some (0 : Int32)
  else (if (g5_count T) ≤ a1 then some (0 : Int32)
  else (if (60 : Int32) ≤ a1 then some (0 : Int32)
  else tgd (tin a1 60) (tgd (tch ((g5_signs T) (Int32.toNatClampNeg a1))) (some ((g5_signs T) (Int32.toNatClampNeg a1)))))))
def m5_isManSign (a0 : Int32) : Option (Int32) :=
  (if a0 < (65 : Int32) then some (0 : Int32)
  else (if (70 : Int32) < a0 then some (0 : Int32)
  else some (1 : Int32)))
def m5_needsMore (a0 : Int32) : Option (Int32) :=
  tbd (m5_isManSign a0) (fun r1 => (if r1 = 0 then (if a0 = (107 : Int32) then some (1 : Int32)
  else (if a0 = (43 : Int32) then some (1 : Int32)
  else some (0 : Int32)))
  else some (1 : Int32)))
def m5_endOfAct_J44 (T : SX5) (x1 : Int32) : Option (Int32) :=
  some (x1 + (2 : Int32))
def m5_endOfAct (T : SX5) (a1 : Int32) : Option (Int32) :=
  tbd (m5_signAt T a1) (fun r1 => tbd (m5_needsMore r1) (fun r3 => (if r3 = 0 then some (a1 + (1 : Int32))
  else tbd (m5_signAt T (a1 + (1 : Int32))) (fun r5 => (if r5 = (37 : Int32) then tbd (m5_signAt T a1) (fun r7 => tbd (m5_isManSign r7) (fun r9 => (if r9 = 0 then m5_endOfAct_J44 T a1
  else some (a1 + (3 : Int32)))))
  else m5_endOfAct_J44 T a1)))))
def m5_isRungSign (a0 : Int32) : Option (Int32) :=
  (if a0 < (97 : Int32) then some (0 : Int32)
  else (if (108 : Int32) < a0 then some (0 : Int32)
  else some (1 : Int32)))
def m5_isEndOfLadder (a0 : Int32) : Option (Int32) :=
  (if a0 = (94 : Int32) then some (1 : Int32)
  else (if a0 = (95 : Int32) then some (1 : Int32)
  else some (0 : Int32)))
def m5_firstWrongSign_J80 (T : SX5) (x2 : Int32) : Option (Int32) :=
  some (x2 - (1 : Int32))
def m5_firstWrongSign_J43 (T : SX5) (x2 : Int32) (y0 : Int32) : Option (Int32) :=
  tbd (m5_signAt T (x2 - (1 : Int32))) (fun r7 => tbd (m5_isRungSign r7) (fun r9 => (if r9 = 0 then (if y0 = 0 then m5_firstWrongSign_J80 T x2
  else tbd (m5_isEndOfLadder r7) (fun r11 => (if r11 = 0 then m5_firstWrongSign_J80 T x2
  else some (-6 : Int32))))
  else some (-6 : Int32))))
def m5_firstWrongSign_J42 (T : SX5) (x2 : Int32) : Option (Int32) :=
  m5_firstWrongSign_J43 T x2 (0 : Int32)
def m5_firstWrongSign (T : SX5) (a1 : Int32) (a2 : Int32) : Option (Int32) :=
  tbd (m5_signAt T a1) (fun r1 => (if r1 = (46 : Int32) then some (-6 : Int32)
  else tbd (m5_needsMore r1) (fun r3 => (if r3 = 0 then some a1
  else tbd (m5_isManSign r1) (fun r5 => (if r5 = 0 then m5_firstWrongSign_J42 T a2
  else (if (a2 - a1) = (2 : Int32) then m5_firstWrongSign_J43 T a2 (1 : Int32)
  else m5_firstWrongSign_J42 T a2)))))))
def m5_firstFault_B4 (T : SX5) (rc4 : Int32 × Int32 → Option (Int32)) (x1 : Int32) (x2 : Int32) : Option (Int32) :=
  (if (60 : Int32) ≤ x2 then some (-6 : Int32)
  else (if (g5_count T) ≤ x1 then some (-6 : Int32)
  else tbd (m5_endOfAct T x1) (fun r1 => tbd (m5_firstWrongSign T x1 r1) (fun r3 => (if r3 = (-6 : Int32) then tnm (x2 + (1 : Int32)) (fun v5 => rc4 (r1, v5))
  else some r3)))))
def m5_firstFault_L4 (T : SX5) (rc4 : Int32 × Int32 → Option (Int32)) (z : Int32 × Int32) : Option (Int32) := m5_firstFault_B4 T rc4 z.1 z.2
def m5_firstFault (T : SX5) : Option (Int32) :=
  tit (m5_firstFault_L4 T) FU ((0 : Int32), (0 : Int32))
def m5_size (T : SX5) : Option (Int32) :=
  some (g5_count T)
def m5_placeOfSign (a0 : Int32) : Option (Int32) :=
  (if a0 = (94 : Int32) then some (13 : Int32)
  else tbd (m5_isRungSign a0) (fun r1 => (if r1 = 0 then some (0 : Int32)
  else some ((a0 - (97 : Int32)) + (1 : Int32)))))
def m5_read_J87 (T : SX5) (Od : SX0) (x4 : Int32) (x5 : Int32) (y0 : Int32) : Option (SX0) :=
  tbd (m5_placeOfSign x5) (fun r5 => tbd (m0_become Od y0 (x4 - (65 : Int32)) r5) (fun r7 => some r7))
def m5_read (T : SX5) (Od : SX0) (a1 : Int32) (a2 : Int32) : Option (SX0) :=
  tbd (m5_signAt T a1) (fun r1 => tbd (m5_signAt T (a2 - (1 : Int32))) (fun r3 => (if r1 = (46 : Int32) then tbd (m0_become Od (4 : Int32) (0 : Int32) (0 : Int32)) (fun r17 => some r17)
  else (if r1 = (107 : Int32) then tbd (m5_placeOfSign r3) (fun r13 => tbd (m0_become Od (2 : Int32) (0 : Int32) r13) (fun r15 => some r15))
  else (if r1 = (43 : Int32) then tbd (m5_placeOfSign r3) (fun r9 => tbd (m0_become Od (3 : Int32) (0 : Int32) r9) (fun r11 => some r11))
  else (if (a2 - a1) = (3 : Int32) then m5_read_J87 T Od r1 r3 (1 : Int32)
  else m5_read_J87 T Od r1 r3 (0 : Int32)))))))
def m4_count_J18 (T : SX4) (Ob : SX0) : Option (SX4) :=
  tbd (m0_kindOf Ob) (fun r3 => (if r3 = 0 then tbd (m0_target Ob) (fun r5 => (if r5 = (13 : Int32) then (if (g4_actUp T) = (-6 : Int32) then tbd (m0_doer Ob) (fun r7 => some (s4_manUp (s4_actUp (s4_steps T ((g4_steps T) + (1 : Int32))) (g4_acts T)) r7))
  else some (s4_steps T ((g4_steps T) + (1 : Int32))))
  else some (s4_steps T ((g4_steps T) + (1 : Int32)))))
  else some T))
def m4_count (T : SX4) (Ob : SX0) : Option (SX4) :=
  tbd (m0_kindOf Ob) (fun r1 => (if r1 = (1 : Int32) then m4_count_J18 (s4_paid T ((g4_paid T) + (1 : Int32))) Ob
  else m4_count_J18 T Ob))
def m4_attempt (T : SX4) (Ob : SX0) (T_after : SX1) : Option (Int32 × SX4 × SX1) :=
  tbd (m1_reasonAgainst T_after Ob) (fun r1 => (if r1 = 0 then tbd (m1_perform T_after Ob) (fun r3 => tbd (m4_count (s4_why T r1) Ob) (fun r5 => some ((1 : Int32), (s4_acts r5 ((g4_acts r5) + (1 : Int32))), r3)))
  else some ((0 : Int32), (s4_why T r1), T_after)))
def m4_burn_B21 (Ob : SX5) (Oc : SX1) (rc21 : Int32 × Int32 × SX4 × SX0 × SX1 → Option (Int32 × SX4 × SX0 × SX1)) (x3 : Int32) (x4 : Int32) (T : SX4) (T_act : SX0) (T_after : SX1) : Option (Int32 × SX4 × SX0 × SX1) :=
  (if (60 : Int32) ≤ x4 then some ((1 : Int32), T, T_act, T_after)
  else tbd (m5_size Ob) (fun r5 => (if r5 ≤ x3 then some ((1 : Int32), T, T_act, T_after)
  else tbd (m5_endOfAct Ob x3) (fun r7 => tbd (m5_read Ob T_act x3 r7) (fun r9 => tbd (m4_attempt T r9 T_after) (fun r11 => (if r11.1 = 0 then some ((0 : Int32), r11.2.1, r9, r11.2.2)
  else tnm (x4 + (1 : Int32)) (fun v13 => rc21 (r7, v13, r11.2.1, r9, r11.2.2)))))))))
def m4_burn_L21 (Ob : SX5) (Oc : SX1) (rc21 : Int32 × Int32 × SX4 × SX0 × SX1 → Option (Int32 × SX4 × SX0 × SX1)) (z : Int32 × Int32 × SX4 × SX0 × SX1) : Option (Int32 × SX4 × SX0 × SX1) := m4_burn_B21 Ob Oc rc21 z.1 z.2.1 z.2.2.1 z.2.2.2.1 z.2.2.2.2
def m4_burn (T : SX4) (Ob : SX5) (Oc : SX1) (T_act : SX0) (T_after : SX1) : Option (Int32 × SX4 × SX0 × SX1) :=
  tbd (m4_begin T Oc T_after) (fun r1 => tbd (m5_firstFault Ob) (fun r3 => (if r3 = (-6 : Int32) then tit (m4_burn_L21 Ob Oc) FU ((0 : Int32), (0 : Int32), r1.1, T_act, r1.2)
  else some ((0 : Int32), r1.1, T_act, r1.2))))
def m4_reason (T : SX4) : Option (Int32) :=
  some (g4_why T)
def m4_actsDone (T : SX4) : Option (Int32) :=
  some (g4_acts T)
def m4_stepsMade (T : SX4) : Option (Int32) :=
  some (g4_steps T)
def m4_coinsPaid (T : SX4) : Option (Int32) :=
  some (g4_paid T)
def m4_firstActUp (T : SX4) : Option (Int32) :=
  some (g4_actUp T)
def m4_firstManUp (T : SX4) : Option (Int32) :=
  some (g4_manUp T)
def m4_behindIt (T : SX4) : Option (Unit) :=
  some ()
def m5_add (T : SX5) (a1 : Int32) : Option (Int32 × SX5) :=
  (if (g5_count T) < 0 then some ((0 : Int32), T)
  else (if (g5_count T) < (60 : Int32) then tgd (tin (g5_count T) 60) (some ((1 : Int32), (s5_count (s5_signs T (upd (g5_signs T) (Int32.toNatClampNeg (g5_count T)) (vp_nar .char (i2c a1)))) ((g5_count T) + (1 : Int32)))))
  else some ((0 : Int32), T)))
def m5_clear (T : SX5) : Option (SX5) :=
  some (s5_count T (0 : Int32))
def j6_bitCount_0f7a4 (a0 : Int32) : Option (Int32) :=
  tnm (a0 - ((iushr a0 (1 : Int32)) &&& (1431655765 : Int32))) (fun v1 => tnm ((v1 &&& (858993459 : Int32)) + ((iushr v1 (2 : Int32)) &&& (858993459 : Int32))) (fun v2 => tnm ((v2 + (iushr v2 (4 : Int32))) &&& (252645135 : Int32)) (fun v3 => tnm (v3 + (iushr v3 (8 : Int32))) (fun v4 => tnm (v4 + (iushr v4 (16 : Int32))) (fun v5 => some (v5 &&& (63 : Int32)))))))
def m6_mostFrom_B25 (T : SX6) (x1 : Int32) (x2 : Int32) (x3 : Int32) (x4 : Int32) (x5 : Int32) (rc11 : Int32 × Int32 → Option (Int32)) (rc25 : Int32 × Int32 → Option (Int32)) (x6 : Int32) (x7 : Int32) : Option (Int32) :=
  (if (6 : Int32) ≤ x7 then tbd (j6_bitCount_0f7a4 x5) (fun r2 => tbd (j6_bitCount_0f7a4 x6) (fun r4 => tnm (imin x4 ((x3 - r2) + r4)) (fun v6 => tnm (x5 + (1 : Int32)) (fun v7 => rc11 (v6, v7)))))
  else (if ((x5 >>> ((x7 - x1) &&& 31)) &&& (1 : Int32)) = 0 then tnm (x7 + (1 : Int32)) (fun v8 => rc25 (x6, v8))
  else tgd (tin x7 6) (tnm (x6 ||| (((g6_open T) (Int32.toNatClampNeg x7)) &&& x2)) (fun v9 => tnm (x7 + (1 : Int32)) (fun v10 => rc25 (v9, v10))))))
def m6_mostFrom_L25 (T : SX6) (x1 : Int32) (x2 : Int32) (x3 : Int32) (x4 : Int32) (x5 : Int32) (rc11 : Int32 × Int32 → Option (Int32)) (rc25 : Int32 × Int32 → Option (Int32)) (z : Int32 × Int32) : Option (Int32) := m6_mostFrom_B25 T x1 x2 x3 x4 x5 rc11 rc25 z.1 z.2
def m6_mostFrom_B11 (T : SX6) (x1 : Int32) (x2 : Int32) (x3 : Int32) (rc11 : Int32 × Int32 → Option (Int32)) (x4 : Int32) (x5 : Int32) : Option (Int32) :=
  (if ((1 : Int32) <<< (x3 &&& 31)) ≤ x5 then some x4
  else tit (m6_mostFrom_L25 T x1 x2 x3 x4 x5 rc11) FU ((0 : Int32), x1))
def m6_mostFrom_L11 (T : SX6) (x1 : Int32) (x2 : Int32) (x3 : Int32) (rc11 : Int32 × Int32 → Option (Int32)) (z : Int32 × Int32) : Option (Int32) := m6_mostFrom_B11 T x1 x2 x3 rc11 z.1 z.2
def m6_mostFrom (T : SX6) (a1 : Int32) (a2 : Int32) : Option (Int32) :=
  tnm ((6 : Int32) - a1) (fun v1 => tit (m6_mostFrom_L11 T a1 a2 v1) FU (v1, (0 : Int32)))
def m6_lowestPost_B10 (T : SX6) (x1 : Int32) (x2 : Int32) (x3 : Int32) (rc10 : Int32 → Option (Int32)) (x4 : Int32) : Option (Int32) :=
  (if (12 : Int32) < x4 then some (-6 : Int32)
  else tgd (tin x1 6) (tbd (m9_bitOf x4) (fun r3 => (if ((((g6_open T) (Int32.toNatClampNeg x1)) &&& x2) &&& r3) = 0 then tnm (x4 + (1 : Int32)) (fun v5 => rc10 v5)
  else tbd (m9_bitOf x4) (fun r6 => tbd (m6_mostFrom T (x1 + (1 : Int32)) (x2 &&& (r6 ^^^ (-1 : Int32)))) (fun r8 => (if ((1 : Int32) + r8) = x3 then some x4
  else tnm (x4 + (1 : Int32)) (fun v10 => rc10 v10))))))))
def m6_lowestPost_L10 (T : SX6) (x1 : Int32) (x2 : Int32) (x3 : Int32) (rc10 : Int32 → Option (Int32)) (z : Int32) : Option (Int32) := m6_lowestPost_B10 T x1 x2 x3 rc10 z
def m6_lowestPost (T : SX6) (a1 : Int32) (a2 : Int32) : Option (Int32) :=
  tbd (m6_mostFrom T a1 a2) (fun r1 => tit (m6_lowestPost_L10 T a1 a2 r1) FU (1 : Int32))
def m6_assign_B43 (Ob : SX1) (rc43 : Int32 × Int32 × SX6 → Option (SX6)) (x2 : Int32) (x3 : Int32) (T : SX6) : Option (SX6) :=
  (if (6 : Int32) ≤ x3 then some T
  else tbd (m6_lowestPost T x3 x2) (fun r3 => tgd (tin x3 6) (tgd (tin x3 6) (tbd (m9_bitOf ((upd (g6_post T) (Int32.toNatClampNeg x3) r3) (Int32.toNatClampNeg x3))) (fun r5 => tnm (x2 &&& (r5 ^^^ (-1 : Int32))) (fun v7 => tnm (x3 + (1 : Int32)) (fun v8 => rc43 (v7, v8, (s6_post T (upd (g6_post T) (Int32.toNatClampNeg x3) r3))))))))))
def m6_assign_L43 (Ob : SX1) (rc43 : Int32 × Int32 × SX6 → Option (SX6)) (z : Int32 × Int32 × SX6) : Option (SX6) := m6_assign_B43 Ob rc43 z.1 z.2.1 z.2.2
def m6_assign_B2 (Ob : SX1) (rc2 : Int32 × SX6 → Option (SX6)) (x2 : Int32) (T : SX6) : Option (SX6) :=
  (if (6 : Int32) ≤ x2 then tbd (m6_mostFrom T (0 : Int32) (4095 : Int32)) (fun r1 => tit (m6_assign_L43 Ob) FU ((4095 : Int32), (0 : Int32), (s6_posted T r1)))
  else tbd (m1_rungsOpenTo Ob x2) (fun r9 => tgd (tin x2 6) (tnm (x2 + (1 : Int32)) (fun v11 => rc2 (v11, (s6_open T (upd (g6_open T) (Int32.toNatClampNeg x2) r9)))))))
def m6_assign_L2 (Ob : SX1) (rc2 : Int32 × SX6 → Option (SX6)) (z : Int32 × SX6) : Option (SX6) := m6_assign_B2 Ob rc2 z.1 z.2
def m6_assign (T : SX6) (Ob : SX1) : Option (SX6) :=
  tit (m6_assign_L2 Ob) FU ((0 : Int32), T)
def m6_menPosted (T : SX6) : Option (Int32) :=
  some (g6_posted T)
def m6_rungOf (T : SX6) (a1 : Int32) : Option (Int32) :=
  tbd (m9_isMan a1) (fun r1 => (if r1 = 0 then some (-6 : Int32)
  else tgd (tin a1 6) (some ((g6_post T) (Int32.toNatClampNeg a1)))))
def m7_isOpen (a0 : Int32) (a1 : Int32) : Option (Int32) :=
  (if ((a0 >>> ((a1 - (1 : Int32)) &&& 31)) &&& (1 : Int32)) = 0 then some (0 : Int32)
  else some (1 : Int32))
def m9_isPlace (a0 : Int32) : Option (Int32) :=
  (if a0 < 0 then some (0 : Int32)
  else (if (13 : Int32) < a0 then some (0 : Int32)
  else some (1 : Int32)))
def m7_settledAt (T : SX7) (a1 : Int32) : Option (Int32) :=
  tbd (m9_isPlace a1) (fun r1 => (if r1 = 0 then some (1000000 : Int32)
  else tgd (tin a1 14) (some ((g7_settled T) (Int32.toNatClampNeg a1)))))
def m7_settleSteps_B56 (T : SX7) (Ob : SX1) (x3 : Int32) (x4 : Int32) (x5 : Int32) (x7 : Int32) (rc29 : Int32 × SX7 → Option (SX7)) (rc56 : Int32 × Int32 → Option (SX7)) (x6 : Int32) (x8 : Int32) : Option (SX7) :=
  (if x7 < x8 then tgd (tin x5 14) (tnm (x5 + (-1 : Int32)) (fun v8 => rc29 (v8, (s7_settled T (upd (g7_settled T) (Int32.toNatClampNeg x5) x6)))))
  else tbd (m7_isOpen x3 x8) (fun r9 => (if r9 = 0 then tnm (x8 + (1 : Int32)) (fun v11 => rc56 (x6, v11))
  else tbd (m7_settledAt T x8) (fun r12 => tnm (imin x6 (r12 + (1 : Int32))) (fun v14 => tnm (x8 + (1 : Int32)) (fun v15 => rc56 (v14, v15)))))))
def m7_settleSteps_L56 (T : SX7) (Ob : SX1) (x3 : Int32) (x4 : Int32) (x5 : Int32) (x7 : Int32) (rc29 : Int32 × SX7 → Option (SX7)) (rc56 : Int32 × Int32 → Option (SX7)) (z : Int32 × Int32) : Option (SX7) := m7_settleSteps_B56 T Ob x3 x4 x5 x7 rc29 rc56 z.1 z.2
def m7_settleSteps_B29 (Ob : SX1) (x3 : Int32) (x4 : Int32) (rc29 : Int32 × SX7 → Option (SX7)) (x5 : Int32) (T : SX7) : Option (SX7) :=
  (if x5 < 0 then some T
  else tnm (imin (x5 + x4) (13 : Int32)) (fun v6 => tnm (x5 + (1 : Int32)) (fun v7 => tit (m7_settleSteps_L56 T Ob x3 x4 x5 v6 rc29) FU ((1000000 : Int32), v7))))
def m7_settleSteps_L29 (Ob : SX1) (x3 : Int32) (x4 : Int32) (rc29 : Int32 × SX7 → Option (SX7)) (z : Int32 × SX7) : Option (SX7) := m7_settleSteps_B29 Ob x3 x4 rc29 z.1 z.2
def m7_settleSteps (T : SX7) (Ob : SX1) (a2 : Int32) : Option (SX7) :=
  tbd (m1_rungsOpenTo Ob a2) (fun r1 => tnm (r1 ||| (4096 : Int32)) (fun v3 => tbd (m1_strideOf Ob a2) (fun r4 => tit (m7_settleSteps_L29 Ob v3 r4) FU ((12 : Int32), (s7_settled T (upd (g7_settled T) (Int32.toNatClampNeg (13 : Int32)) (0 : Int32)))))))
def m7_fewestSteps (T : SX7) (Ob : SX1) (a2 : Int32) : Option (Int32 × SX7) :=
  tbd (m7_settleSteps T Ob a2) (fun r1 => tbd (m1_placeOf Ob a2) (fun r3 => tbd (m7_settledAt r1 r3) (fun r5 => (if r5 < (1000000 : Int32) then some (r5, r1)
  else some ((-6 : Int32), r1)))))
def m7_firstStep_B62 (T : SX7) (Ob : SX1) (x3 : Int32) (x5 : Int32) (x6 : Int32) (rc62 : Int32 → Option (Int32 × SX7)) (x7 : Int32) : Option (Int32 × SX7) :=
  (if x6 < x7 then some ((-6 : Int32), T)
  else tbd (m7_isOpen x3 x7) (fun r14 => (if r14 = 0 then tnm (x7 + (1 : Int32)) (fun v16 => rc62 v16)
  else tbd (m7_settledAt T x7) (fun r17 => (if r17 = (x5 - (1 : Int32)) then some (x7, T)
  else tnm (x7 + (1 : Int32)) (fun v19 => rc62 v19))))))
def m7_firstStep_L62 (T : SX7) (Ob : SX1) (x3 : Int32) (x5 : Int32) (x6 : Int32) (rc62 : Int32 → Option (Int32 × SX7)) (z : Int32) : Option (Int32 × SX7) := m7_firstStep_B62 T Ob x3 x5 x6 rc62 z
def m7_firstStep (T : SX7) (Ob : SX1) (a2 : Int32) : Option (Int32 × SX7) :=
  tbd (m7_settleSteps T Ob a2) (fun r1 => tbd (m1_rungsOpenTo Ob a2) (fun r3 => tnm (r3 ||| (4096 : Int32)) (fun v5 => tbd (m1_placeOf Ob a2) (fun r6 => tbd (m7_settledAt r1 r6) (fun r8 => (if r8 < (1000000 : Int32) then tbd (m1_strideOf Ob a2) (fun r10 => tnm (imin (r6 + r10) (13 : Int32)) (fun v12 => tnm (r6 + (1 : Int32)) (fun v13 => tit (m7_firstStep_L62 r1 Ob v5 r8 v12) FU v13)))
  else some ((-6 : Int32), r1)))))))
def m7_countUp_B55 (T : SX7) (Ob : SX1) (x2 : Int32) (x3 : Int32) (x4 : Int32) (x5 : Int32) (x7 : Int32) (rc29 : Int32 × SX7 → Option (Int32 × SX7)) (rc55 : Int32 × Int32 → Option (Int32 × SX7)) (x6 : Int32) (x8 : Int32) : Option (Int32 × SX7) :=
  (if x7 < x8 then tgd (tin x5 14) (tnm (x5 + (-1 : Int32)) (fun v12 => rc29 (v12, (s7_settled T (upd (g7_settled T) (Int32.toNatClampNeg x5) x6)))))
  else tbd (m7_isOpen x3 x8) (fun r13 => (if r13 = 0 then tnm (x8 + (1 : Int32)) (fun v15 => rc55 (x6, v15))
  else tbd (m7_settledAt T x8) (fun r16 => tnm (x6 + r16) (fun v18 => tnm (x8 + (1 : Int32)) (fun v19 => rc55 (v18, v19)))))))
def m7_countUp_L55 (T : SX7) (Ob : SX1) (x2 : Int32) (x3 : Int32) (x4 : Int32) (x5 : Int32) (x7 : Int32) (rc29 : Int32 × SX7 → Option (Int32 × SX7)) (rc55 : Int32 × Int32 → Option (Int32 × SX7)) (z : Int32 × Int32) : Option (Int32 × SX7) := m7_countUp_B55 T Ob x2 x3 x4 x5 x7 rc29 rc55 z.1 z.2
def m7_countUp_B29 (Ob : SX1) (x2 : Int32) (x3 : Int32) (x4 : Int32) (rc29 : Int32 × SX7 → Option (Int32 × SX7)) (x5 : Int32) (T : SX7) : Option (Int32 × SX7) :=
  (if x5 < 0 then tbd (m1_placeOf Ob x2) (fun r6 => tbd (m7_settledAt T r6) (fun r8 => some (r8, T)))
  else tnm (imin (x5 + x4) (13 : Int32)) (fun v10 => tnm (x5 + (1 : Int32)) (fun v11 => tit (m7_countUp_L55 T Ob x2 x3 x4 x5 v10 rc29) FU ((0 : Int32), v11))))
def m7_countUp_L29 (Ob : SX1) (x2 : Int32) (x3 : Int32) (x4 : Int32) (rc29 : Int32 × SX7 → Option (Int32 × SX7)) (z : Int32 × SX7) : Option (Int32 × SX7) := m7_countUp_B29 Ob x2 x3 x4 rc29 z.1 z.2
def m7_countUp (T : SX7) (Ob : SX1) (a2 : Int32) : Option (Int32 × SX7) :=
  tbd (m1_rungsOpenTo Ob a2) (fun r1 => tnm (r1 ||| (4096 : Int32)) (fun v3 => tbd (m1_strideOf Ob a2) (fun r4 => tit (m7_countUp_L29 Ob a2 v3 r4) FU ((12 : Int32), (s7_settled T (upd (g7_settled T) (Int32.toNatClampNeg (13 : Int32)) (1 : Int32)))))))
def m7_leaseCost_B62 (T : SX7) (Ob : SX1) (x2 : Int32) (x3 : Int32) (x4 : Int32) (x5 : Int32) (x6 : Int32) (x8 : Int32) (rc35 : Int32 × SX7 → Option (Int32 × SX7)) (rc62 : Int32 × Int32 → Option (Int32 × SX7)) (x7 : Int32) (x9 : Int32) : Option (Int32 × SX7) :=
  (if x8 < x9 then tgd (tin x6 14) (tnm (x6 + (-1 : Int32)) (fun v14 => rc35 (v14, (s7_settled T (upd (g7_settled T) (Int32.toNatClampNeg x6) x7)))))
  else tbd (m7_isOpen x3 x9) (fun r15 => (if r15 = 0 then tbd (m7_isOpen x4 x9) (fun r17 => (if r17 = 0 then tnm (x9 + (1 : Int32)) (fun v19 => rc62 (x7, v19))
  else tbd (m7_settledAt T x9) (fun r20 => tbd (m9_bitOf x9) (fun r22 => tnm (imin x7 ((r20 + (4096 : Int32)) + r22)) (fun v24 => tnm (x9 + (1 : Int32)) (fun v25 => rc62 (v24, v25)))))))
  else tbd (m7_settledAt T x9) (fun r26 => tnm (imin x7 r26) (fun v28 => tnm (x9 + (1 : Int32)) (fun v29 => rc62 (v28, v29)))))))
def m7_leaseCost_L62 (T : SX7) (Ob : SX1) (x2 : Int32) (x3 : Int32) (x4 : Int32) (x5 : Int32) (x6 : Int32) (x8 : Int32) (rc35 : Int32 × SX7 → Option (Int32 × SX7)) (rc62 : Int32 × Int32 → Option (Int32 × SX7)) (z : Int32 × Int32) : Option (Int32 × SX7) := m7_leaseCost_B62 T Ob x2 x3 x4 x5 x6 x8 rc35 rc62 z.1 z.2
def m7_leaseCost_B35 (Ob : SX1) (x2 : Int32) (x3 : Int32) (x4 : Int32) (x5 : Int32) (rc35 : Int32 × SX7 → Option (Int32 × SX7)) (x6 : Int32) (T : SX7) : Option (Int32 × SX7) :=
  (if x6 < 0 then tbd (m1_placeOf Ob x2) (fun r8 => tbd (m7_settledAt T r8) (fun r10 => some (r10, T)))
  else tnm (imin (x6 + x5) (13 : Int32)) (fun v12 => tnm (x6 + (1 : Int32)) (fun v13 => tit (m7_leaseCost_L62 T Ob x2 x3 x4 x5 x6 v12 rc35) FU ((1000000 : Int32), v13))))
def m7_leaseCost_L35 (Ob : SX1) (x2 : Int32) (x3 : Int32) (x4 : Int32) (x5 : Int32) (rc35 : Int32 × SX7 → Option (Int32 × SX7)) (z : Int32 × SX7) : Option (Int32 × SX7) := m7_leaseCost_B35 Ob x2 x3 x4 x5 rc35 z.1 z.2
def m7_leaseCost (T : SX7) (Ob : SX1) (a2 : Int32) : Option (Int32 × SX7) :=
  tbd (m1_rungsOpenTo Ob a2) (fun r1 => tnm (r1 ||| (4096 : Int32)) (fun v3 => tbd (m1_rungsToLease Ob) (fun r4 => tbd (m1_strideOf Ob a2) (fun r6 => tit (m7_leaseCost_L35 Ob a2 v3 r4 r6) FU ((12 : Int32), (s7_settled T (upd (g7_settled T) (Int32.toNatClampNeg (13 : Int32)) (0 : Int32))))))))
def m7_fewestLeases (T : SX7) (Ob : SX1) (a2 : Int32) : Option (Int32 × SX7) :=
  tbd (m7_leaseCost T Ob a2) (fun r1 => tnm r1.1 (fun v3 => (if v3 < (1000000 : Int32) then some ((v3 / (4096 : Int32)), r1.2)
  else some ((-6 : Int32), r1.2))))
def m7_leastLeased (T : SX7) (Ob : SX1) (a2 : Int32) : Option (Int32 × SX7) :=
  tbd (m7_leaseCost T Ob a2) (fun r1 => tnm r1.1 (fun v3 => (if v3 < (1000000 : Int32) then some ((irem v3 (4096 : Int32)), r1.2)
  else some ((-6 : Int32), r1.2))))
def m8_nextPlace_J34 (Oa : SX1) (x1 : Int32) (x2 : Int32) (x3 : Int32) (x4 : Int32) (x5 : Int32) (y0 : Int32) (y1 : Int32) (rc10 : Int32 → Option (Int32)) : Option (Int32) :=
  tnm (y0 + y1) (fun v3 => (if v3 = (13 : Int32) then some v3
  else tbd (m1_mayBeOn Oa x1 v3) (fun r4 => (if r4 = 0 then tnm (x5 + (1 : Int32)) (fun v6 => rc10 v6)
  else some v3))))
def m8_nextPlace_B10 (Oa : SX1) (x1 : Int32) (x2 : Int32) (x3 : Int32) (x4 : Int32) (rc10 : Int32 → Option (Int32)) (x5 : Int32) : Option (Int32) :=
  (if x4 < x5 then some x3
  else (if x2 = 0 then m8_nextPlace_J34 Oa x1 x2 x3 x4 x5 x3 ((x4 + (1 : Int32)) - x5) rc10
  else m8_nextPlace_J34 Oa x1 x2 x3 x4 x5 x3 x5 rc10))
def m8_nextPlace_L10 (Oa : SX1) (x1 : Int32) (x2 : Int32) (x3 : Int32) (x4 : Int32) (rc10 : Int32 → Option (Int32)) (z : Int32) : Option (Int32) := m8_nextPlace_B10 Oa x1 x2 x3 x4 rc10 z
def m8_nextPlace (Oa : SX1) (a1 : Int32) (a2 : Int32) (a3 : Int32) : Option (Int32) :=
  tbd (m1_strideOf Oa a1) (fun r1 => tit (m8_nextPlace_L10 Oa a1 a2 a3 r1) FU (1 : Int32))
def m8_trailOf_B8 (Oa : SX1) (x1 : Int32) (x2 : Int32) (rc8 : Int32 × Int32 × Int32 → Option (Int32)) (x3 : Int32) (x4 : Int32) (x5 : Int32) : Option (Int32) :=
  (if (13 : Int32) ≤ x5 then some x3
  else (if (13 : Int32) ≤ x4 then some x3
  else tbd (m8_nextPlace Oa x1 x2 x4) (fun r1 => (if r1 = x4 then some x3
  else tbd (m9_bitOf r1) (fun r3 => tnm (x3 ||| r3) (fun v5 => tnm (x5 + (1 : Int32)) (fun v6 => rc8 (v5, r1, v6))))))))
def m8_trailOf_L8 (Oa : SX1) (x1 : Int32) (x2 : Int32) (rc8 : Int32 × Int32 × Int32 → Option (Int32)) (z : Int32 × Int32 × Int32) : Option (Int32) := m8_trailOf_B8 Oa x1 x2 rc8 z.1 z.2.1 z.2.2
def m8_trailOf (Oa : SX1) (a1 : Int32) (a2 : Int32) : Option (Int32) :=
  tit (m8_trailOf_L8 Oa a1 a2) FU ((0 : Int32), (0 : Int32), (0 : Int32))
def m8_find_B15 (Ob : SX1) (x2 : Int32) (rc7 : Int32 × SX8 → Option (SX8)) (rc15 : Int32 × SX8 → Option (SX8)) (x3 : Int32) (T : SX8) : Option (SX8) :=
  (if (1 : Int32) < x3 then tnm (x2 + (1 : Int32)) (fun v1 => rc7 (v1, T))
  else tbd (m8_trailOf Ob x2 x3) (fun r2 => tbd (m1_sightsFit Ob r2) (fun r4 => (if r4 = 0 then tnm (x3 + (1 : Int32)) (fun v6 => rc15 (v6, T))
  else (if (g8_count T) < 0 then tnm (x3 + (1 : Int32)) (fun v7 => rc15 (v7, T))
  else (if (12 : Int32) ≤ (g8_count T) then tnm (x3 + (1 : Int32)) (fun v8 => rc15 (v8, T))
  else tgd (tin (g8_count T) 12) (tgd (tin (g8_count T) 12) (tnm (x3 + (1 : Int32)) (fun v9 => rc15 (v9, (s8_count (s8_wetRungs (s8_codes T (upd (g8_codes T) (Int32.toNatClampNeg (g8_count T)) (((10 : Int32) * x2) + x3))) (upd (g8_wetRungs T) (Int32.toNatClampNeg (g8_count T)) r2)) ((g8_count T) + (1 : Int32)))))))))))))
def m8_find_L15 (Ob : SX1) (x2 : Int32) (rc7 : Int32 × SX8 → Option (SX8)) (rc15 : Int32 × SX8 → Option (SX8)) (z : Int32 × SX8) : Option (SX8) := m8_find_B15 Ob x2 rc7 rc15 z.1 z.2
def m8_find_B7 (Ob : SX1) (rc7 : Int32 × SX8 → Option (SX8)) (x2 : Int32) (T : SX8) : Option (SX8) :=
  (if (6 : Int32) ≤ x2 then some T
  else tit (m8_find_L15 Ob x2 rc7) FU ((0 : Int32), T))
def m8_find_L7 (Ob : SX1) (rc7 : Int32 × SX8 → Option (SX8)) (z : Int32 × SX8) : Option (SX8) := m8_find_B7 Ob rc7 z.1 z.2
def m8_find (T : SX8) (Ob : SX1) : Option (SX8) :=
  tit (m8_find_L7 Ob) FU ((0 : Int32), (s8_count T (0 : Int32)))
def m8_size (T : SX8) : Option (Int32) :=
  some (g8_count T)
def m8_codeAt (T : SX8) (a1 : Int32) : Option (Int32) :=
  (if a1 < 0 then some (-6 : Int32)
  else (if (g8_count T) ≤ a1 then some (-6 : Int32)
  else (if (12 : Int32) ≤ a1 then some (-6 : Int32)
  else tgd (tin a1 12) (some ((g8_codes T) (Int32.toNatClampNeg a1))))))
def m8_mostLeftBy_J41 (T : SX8) (x2 : Int32) : Option (Int32) :=
  some (imax x2 ((g8_count T) - x2))
def m8_mostLeftBy_B4 (T : SX8) (x1 : Int32) (rc4 : Int32 × Int32 → Option (Int32)) (x2 : Int32) (x3 : Int32) : Option (Int32) :=
  (if (g8_count T) ≤ x3 then m8_mostLeftBy_J41 T x2
  else (if (12 : Int32) ≤ x3 then m8_mostLeftBy_J41 T x2
  else tgd (tin x3 12) (tbd (m9_bitOf x1) (fun r1 => (if (((g8_wetRungs T) (Int32.toNatClampNeg x3)) &&& r1) = 0 then tnm (x3 + (1 : Int32)) (fun v3 => rc4 (x2, v3))
  else tnm (x2 + (1 : Int32)) (fun v4 => tnm (x3 + (1 : Int32)) (fun v5 => rc4 (v4, v5))))))))
def m8_mostLeftBy_L4 (T : SX8) (x1 : Int32) (rc4 : Int32 × Int32 → Option (Int32)) (z : Int32 × Int32) : Option (Int32) := m8_mostLeftBy_B4 T x1 rc4 z.1 z.2
def m8_mostLeftBy (T : SX8) (a1 : Int32) : Option (Int32) :=
  tit (m8_mostLeftBy_L4 T a1) FU ((0 : Int32), (0 : Int32))
def m8_rungToFeel_B4 (T : SX8) (rc4 : Int32 × Int32 → Option (Int32)) (x1 : Int32) (x2 : Int32) : Option (Int32) :=
  (if (12 : Int32) < x2 then some x1
  else tbd (m8_mostLeftBy T x2) (fun r1 => tbd (m8_mostLeftBy T x1) (fun r3 => (if r3 ≤ r1 then tnm (x2 + (1 : Int32)) (fun v5 => rc4 (x1, v5))
  else tnm (x2 + (1 : Int32)) (fun v6 => rc4 (x2, v6))))))
def m8_rungToFeel_L4 (T : SX8) (rc4 : Int32 × Int32 → Option (Int32)) (z : Int32 × Int32) : Option (Int32) := m8_rungToFeel_B4 T rc4 z.1 z.2
def m8_rungToFeel (T : SX8) : Option (Int32) :=
  tit (m8_rungToFeel_L4 T) FU ((1 : Int32), (2 : Int32))
def m9_isManOrNobody (a0 : Int32) : Option (Int32) :=
  (if a0 = (-1 : Int32) then some (1 : Int32)
  else tbd (m9_isMan a0) (fun r1 => (if r1 = 0 then some (0 : Int32)
  else some (1 : Int32))))
def m9_within (a0 : Int32) (a1 : Int32) (a2 : Int32) : Option (Int32) :=
  (if a0 < a1 then some (0 : Int32)
  else (if a2 < a0 then some (0 : Int32)
  else some (1 : Int32)))
def m9_rightsFit (a0 : Int32) (a1 : Int32) (a2 : Int32) : Option (Int32) :=
  tbd (m9_within a2 (0 : Int32) (1 : Int32)) (fun r1 => (if r1 = 0 then some (0 : Int32)
  else (if a2 = (1 : Int32) then (if a0 = (-1 : Int32) then (if a1 = (-1 : Int32) then some (1 : Int32)
  else some (0 : Int32))
  else some (0 : Int32))
  else (if a1 = (-1 : Int32) then some (1 : Int32)
  else (if a0 = (-1 : Int32) then some (0 : Int32)
  else (if a0 = a1 then some (0 : Int32)
  else some (1 : Int32)))))))
def m9_orNone (a0 : Int32) : Option (Int32) :=
  (if a0 = (-1 : Int32) then some (-6 : Int32)
  else some a0)
def m9_rung_J64 (T : SX9) (T_brigade : SX1) (x5 : Int32) (y1 : Int32) (y2 : Int32) (y3 : Int32) (y4 : Int32) : Option (Int32 × SX1) :=
  tbd (m1_setRung T_brigade y1 y2 y3 y4) (fun r11 => tbd (m9_orNone x5) (fun r13 => some (r13, r11)))
def m9_rung (T : SX9) (T_brigade : SX1) (a1 : Int32) (a2 : Int32) (a3 : Int32) (a4 : Int32) : Option (Int32 × SX1) :=
  tbd (m9_isRung a1) (fun r1 => (if r1 = 0 then some ((-1 : Int32), T_brigade)
  else tbd (m9_isManOrNobody a2) (fun r3 => (if r3 = 0 then some ((-1 : Int32), T_brigade)
  else tbd (m9_isManOrNobody a3) (fun r5 => (if r5 = 0 then some ((-1 : Int32), T_brigade)
  else tbd (m9_rightsFit a2 a3 a4) (fun r7 => (if r7 = 0 then some ((-2 : Int32), T_brigade)
  else tbd (m1_ownerOf T_brigade a1) (fun r9 => (if a4 = (1 : Int32) then m9_rung_J64 T T_brigade r9 a1 a2 a3 (1 : Int32)
  else m9_rung_J64 T T_brigade r9 a1 a2 a3 (0 : Int32)))))))))))
def m9_man (T : SX9) (T_brigade : SX1) (a1 : Int32) (a2 : Int32) (a3 : Int32) (a4 : Int32) : Option (Int32 × SX1) :=
  tbd (m9_isMan a1) (fun r1 => (if r1 = 0 then some ((-1 : Int32), T_brigade)
  else tbd (m9_within a2 (1 : Int32) (4 : Int32)) (fun r3 => (if r3 = 0 then some ((-2 : Int32), T_brigade)
  else tbd (m9_within a3 (0 : Int32) (99 : Int32)) (fun r5 => (if r5 = 0 then some ((-2 : Int32), T_brigade)
  else tbd (m9_isPlace a4) (fun r7 => (if r7 = 0 then some ((-2 : Int32), T_brigade)
  else tbd (m1_placeOf T_brigade a1) (fun r9 => tbd (m1_coinsOf T_brigade a1) (fun r11 => tnm (((100 : Int32) * r9) + r11) (fun v13 => tbd (m1_setMan T_brigade a1 a2 a3 a4) (fun r14 => some (v13, r14)))))))))))))
def m9_say (T : SX9) (T_pad : SX5) (a1 : Int32) : Option (Int32 × SX5) :=
  tbd (m9_within a1 (33 : Int32) (126 : Int32)) (fun r1 => (if r1 = 0 then some ((-2 : Int32), T_pad)
  else tbd (m5_add T_pad a1) (fun r3 => (if r3.1 = 0 then some ((-4 : Int32), r3.2)
  else tbd (m5_size r3.2) (fun r5 => some (r5, r3.2))))))
def m9_wipe (T : SX9) (T_pad : SX5) : Option (Int32 × SX5) :=
  tbd (m5_size T_pad) (fun r1 => tbd (m5_clear T_pad) (fun r3 => some (r1, r3)))
def m9_fault (T : SX9) (T_pad : SX5) : Option (Int32) :=
  tbd (m5_firstFault T_pad) (fun r1 => some r1)
def m9_judge (T : SX9) (T_brigade : SX1) (T_fire : SX4) (T_fire_act : SX0) (T_fire_after : SX1) (T_pad : SX5) (a1 : Int32) : Option (Int32 × SX4 × SX0 × SX1) :=
  tbd (m9_within a1 (0 : Int32) (1 : Int32)) (fun r1 => (if r1 = 0 then some ((-2 : Int32), T_fire, T_fire_act, T_fire_after)
  else tbd (m5_firstFault T_pad) (fun r3 => (if r3 = (-6 : Int32) then tbd (m4_burn T_fire T_pad T_brigade T_fire_act T_fire_after) (fun r5 => (if r5.1 = 0 then (if a1 = 0 then tbd (m4_actsDone r5.2.1) (fun r9 => some (r9, r5.2.1, r5.2.2.1, r5.2.2.2))
  else tbd (m4_reason r5.2.1) (fun r7 => some (r7, r5.2.1, r5.2.2.1, r5.2.2.2)))
  else some ((-6 : Int32), r5.2.1, r5.2.2.1, r5.2.2.2)))
  else some ((-5 : Int32), T_fire, T_fire_act, T_fire_after)))))
def m9_done (T : SX9) (T_brigade : SX1) (T_fire : SX4) (T_fire_act : SX0) (T_fire_after : SX1) (T_pad : SX5) : Option (Int32 × SX1 × SX4 × SX0 × SX1 × SX5) :=
  tbd (m4_burn T_fire T_pad T_brigade T_fire_act T_fire_after) (fun r1 => (if r1.1 = 0 then some ((-5 : Int32), T_brigade, r1.2.1, r1.2.2.1, r1.2.2.2, T_pad)
  else tbd (m4_behindIt r1.2.1) (fun r3 => tbd (m1_copyFrom T_brigade r1.2.2.2) (fun r5 => tbd (m5_clear T_pad) (fun r7 => tbd (m4_actsDone r1.2.1) (fun r9 => some (r9, r5, r1.2.1, r1.2.2.1, r1.2.2.2, r7)))))))
def m9_behind (T : SX9) (T_brigade : SX1) (T_fire : SX4) (T_fire_act : SX0) (T_fire_after : SX1) (T_pad : SX5) (a1 : Int32) (a2 : Int32) : Option (Int32 × SX4 × SX0 × SX1) :=
  tbd (m9_isMan a1) (fun r1 => (if r1 = 0 then some ((-1 : Int32), T_fire, T_fire_act, T_fire_after)
  else tbd (m9_within a2 (0 : Int32) (3 : Int32)) (fun r3 => (if r3 = 0 then some ((-2 : Int32), T_fire, T_fire_act, T_fire_after)
  else tbd (m4_burn T_fire T_pad T_brigade T_fire_act T_fire_after) (fun r5 => (if r5.1 = 0 then some ((-5 : Int32), r5.2.1, r5.2.2.1, r5.2.2.2)
  else tbd (m4_behindIt r5.2.1) (fun r7 => (if a2 = 0 then tbd (m1_placeOf r5.2.2.2 a1) (fun r9 => some (r9, r5.2.1, r5.2.2.1, r5.2.2.2))
  else (if a2 = 1 then tbd (m1_coinsOf r5.2.2.2 a1) (fun r11 => some (r11, r5.2.1, r5.2.2.1, r5.2.2.2))
  else (if a2 = 2 then tbd (m1_rungsOpenTo r5.2.2.2 a1) (fun r13 => some (r13, r5.2.1, r5.2.2.1, r5.2.2.2))
  else tbd (m1_hasStepped r5.2.2.2 a1) (fun r15 => (if r15 = 0 then some ((0 : Int32), r5.2.1, r5.2.2.1, r5.2.2.2)
  else some ((1 : Int32), r5.2.1, r5.2.2.1, r5.2.2.2)))))))))))))
def m9_bears (T : SX9) (T_brigade : SX1) (T_fire : SX4) (T_fire_act : SX0) (T_fire_after : SX1) (T_pad : SX5) (a1 : Int32) (a2 : Int32) : Option (Int32 × SX4 × SX0 × SX1) :=
  tbd (m9_isRung a1) (fun r1 => (if r1 = 0 then some ((-1 : Int32), T_fire, T_fire_act, T_fire_after)
  else tbd (m9_within a2 (0 : Int32) (3 : Int32)) (fun r3 => (if r3 = 0 then some ((-2 : Int32), T_fire, T_fire_act, T_fire_after)
  else tbd (m4_burn T_fire T_pad T_brigade T_fire_act T_fire_after) (fun r5 => (if r5.1 = 0 then some ((-5 : Int32), r5.2.1, r5.2.2.1, r5.2.2.2)
  else tbd (m4_behindIt r5.2.1) (fun r7 => (if a2 = 0 then tbd (m1_ownerOf r5.2.2.2 a1) (fun r9 => tbd (m9_orNone r9) (fun r11 => some (r11, r5.2.1, r5.2.2.1, r5.2.2.2)))
  else (if a2 = 1 then tbd (m1_leaserOf r5.2.2.2 a1) (fun r13 => tbd (m9_orNone r13) (fun r15 => some (r15, r5.2.1, r5.2.2.1, r5.2.2.2)))
  else (if a2 = 2 then tbd (m1_firstManOn r5.2.2.2 a1) (fun r17 => tbd (m9_orNone r17) (fun r19 => some (r19, r5.2.1, r5.2.2.1, r5.2.2.2)))
  else tbd (m1_isMissing r5.2.2.2 a1) (fun r21 => (if r21 = 0 then some ((0 : Int32), r5.2.1, r5.2.2.1, r5.2.2.2)
  else some ((1 : Int32), r5.2.1, r5.2.2.1, r5.2.2.2)))))))))))))
def m9_then (T : SX9) (T_brigade : SX1) (T_fire : SX4) (T_fire_act : SX0) (T_fire_after : SX1) (T_pad : SX5) (a1 : Int32) : Option (Int32 × SX4 × SX0 × SX1) :=
  tbd (m9_within a1 (0 : Int32) (5 : Int32)) (fun r1 => (if r1 = 0 then some ((-2 : Int32), T_fire, T_fire_act, T_fire_after)
  else tbd (m4_burn T_fire T_pad T_brigade T_fire_act T_fire_after) (fun r3 => (if r3.1 = 0 then some ((-5 : Int32), r3.2.1, r3.2.2.1, r3.2.2.2)
  else (if a1 = 0 then tbd (m4_behindIt r3.2.1) (fun r5 => tbd (m1_beatNow r3.2.2.2) (fun r7 => some (r7, r3.2.1, r3.2.2.1, r3.2.2.2)))
  else (if a1 = 1 then tbd (m4_behindIt r3.2.1) (fun r9 => tbd (m1_menOnRoof r3.2.2.2) (fun r11 => some (r11, r3.2.1, r3.2.2.1, r3.2.2.2)))
  else (if a1 = 2 then tbd (m4_stepsMade r3.2.1) (fun r13 => some (r13, r3.2.1, r3.2.2.1, r3.2.2.2))
  else (if a1 = 3 then tbd (m4_coinsPaid r3.2.1) (fun r15 => some (r15, r3.2.1, r3.2.2.1, r3.2.2.2))
  else (if a1 = 4 then tbd (m4_firstActUp r3.2.1) (fun r17 => some (r17, r3.2.1, r3.2.2.1, r3.2.2.2))
  else tbd (m4_firstManUp r3.2.1) (fun r19 => some (r19, r3.2.1, r3.2.2.1, r3.2.2.2)))))))))))
def m9_climb (T : SX9) (T_brigade : SX1) (T_routes : SX7) (a1 : Int32) (a2 : Int32) : Option (Int32 × SX7) :=
  tbd (m9_isMan a1) (fun r1 => (if r1 = 0 then some ((-1 : Int32), T_routes)
  else tbd (m9_within a2 (0 : Int32) (1 : Int32)) (fun r3 => (if r3 = 0 then some ((-2 : Int32), T_routes)
  else (if a2 = 0 then tbd (m7_fewestSteps T_routes T_brigade a1) (fun r7 => some (r7.1, r7.2))
  else tbd (m7_firstStep T_routes T_brigade a1) (fun r5 => some (r5.1, r5.2)))))))
def m9_ways (T : SX9) (T_brigade : SX1) (T_routes : SX7) (a1 : Int32) : Option (Int32 × SX7) :=
  tbd (m9_isMan a1) (fun r1 => (if r1 = 0 then some ((-1 : Int32), T_routes)
  else tbd (m7_countUp T_routes T_brigade a1) (fun r3 => some (r3.1, r3.2))))
def m9_leases (T : SX9) (T_brigade : SX1) (T_routes : SX7) (a1 : Int32) (a2 : Int32) : Option (Int32 × SX7) :=
  tbd (m9_isMan a1) (fun r1 => (if r1 = 0 then some ((-1 : Int32), T_routes)
  else tbd (m9_within a2 (0 : Int32) (1 : Int32)) (fun r3 => (if r3 = 0 then some ((-2 : Int32), T_routes)
  else (if a2 = 0 then tbd (m7_fewestLeases T_routes T_brigade a1) (fun r7 => some (r7.1, r7.2))
  else tbd (m7_leastLeased T_routes T_brigade a1) (fun r5 => some (r5.1, r5.2)))))))
def m9_stand (T : SX9) (T_brigade : SX1) (T_posts : SX6) (a1 : Int32) : Option (Int32 × SX6) :=
  tbd (m9_isManOrNobody a1) (fun r1 => (if r1 = 0 then some ((-1 : Int32), T_posts)
  else tbd (m6_assign T_posts T_brigade) (fun r3 => (if a1 = (-1 : Int32) then tbd (m6_menPosted r3) (fun r7 => some (r7, r3))
  else tbd (m6_rungOf r3 a1) (fun r5 => some (r5, r3))))))
def m9_felt (T : SX9) (T_brigade : SX1) (a1 : Int32) (a2 : Int32) : Option (Int32 × SX1) :=
  tbd (m9_isRung a1) (fun r1 => (if r1 = 0 then some ((-1 : Int32), T_brigade)
  else tbd (m1_addSight T_brigade a1 a2) (fun r3 => (if r3.1 = 0 then some ((-4 : Int32), r3.2)
  else tbd (m1_sightCount r3.2) (fun r5 => some (r5, r3.2))))))
def m9_forget (T : SX9) (T_brigade : SX1) : Option (Int32 × SX1) :=
  tbd (m1_sightCount T_brigade) (fun r1 => tbd (m1_clearSights T_brigade) (fun r3 => some (r1, r3)))
def m9_ups (T : SX9) (T_brigade : SX1) (T_trails : SX8) (a1 : Int32) : Option (Int32 × SX8) :=
  tbd (m8_find T_trails T_brigade) (fun r1 => (if a1 = (-1 : Int32) then tbd (m8_size r1) (fun r5 => some (r5, r1))
  else tbd (m8_codeAt r1 a1) (fun r3 => some (r3, r1))))
def m9_ask (T : SX9) (T_brigade : SX1) (T_trails : SX8) (a1 : Int32) : Option (Int32 × SX8) :=
  tbd (m9_within a1 (0 : Int32) (1 : Int32)) (fun r1 => (if r1 = 0 then some ((-2 : Int32), T_trails)
  else tbd (m8_find T_trails T_brigade) (fun r3 => tbd (m8_size r3) (fun r5 => (if r5 = 0 then some ((-6 : Int32), r3)
  else tbd (m8_rungToFeel r3) (fun r7 => (if a1 = 0 then some (r7, r3)
  else tbd (m8_mostLeftBy r3 r7) (fun r9 => some (r9, r3)))))))))
def m9_down (a1 : Int32) (a2 : Int32) : Option (Int32) :=
  tbd (m9_within a1 (0 : Int32) (4095 : Int32)) (fun r1 => (if r1 = 0 then some (-2 : Int32)
  else tbd (m9_within a2 (0 : Int32) (1 : Int32)) (fun r3 => (if r3 = 0 then some (-2 : Int32)
  else (if a2 = 0 then tbd (m2_canWin a1) (fun r7 => (if r7 = 0 then some (0 : Int32)
  else some (1 : Int32)))
  else tbd (m2_leastWinningMove a1) (fun r5 => some r5))))))
def m9_foot_J68 (T : SX9) (T_feet : SX3) (x4 : Int32) : Option (Int64 × SX3) :=
  (if x4 = 0 then tbd (m3_upperNumber T_feet) (fun r13 => some (r13, T_feet))
  else tbd (m3_lowerNumber T_feet) (fun r11 => some (r11, T_feet)))
def m9_foot (T : SX9) (T_feet : SX3) (a1 : Int32) (a2 : Int32) (a3 : Int32) (a4 : Int32) : Option (Int64 × SX3) :=
  tbd (m9_isRung a2) (fun r1 => (if r1 = 0 then some ((-1000000000000000001 : Int64), T_feet)
  else tbd (m9_within a1 (1 : Int32) (4 : Int32)) (fun r3 => (if r3 = 0 then some ((-1000000000000000002 : Int64), T_feet)
  else tbd (m9_within a3 (0 : Int32) (1 : Int32)) (fun r5 => (if r5 = 0 then some ((-1000000000000000002 : Int64), T_feet)
  else tbd (m9_within a4 (0 : Int32) (1 : Int32)) (fun r7 => (if r7 = 0 then some ((-1000000000000000002 : Int64), T_feet)
  else (if a3 = 0 then tbd (m3_chanceOn T_feet a1 a2) (fun r15 => m9_foot_J68 T r15 a4)
  else tbd (m3_meanStepsTo T_feet a1 a2) (fun r9 => m9_foot_J68 T r9 a4))))))))))
def m9_passYear_B16 (T : SX9) (T_brigade : SX1) (x2 : Int32) (rc16 : Int32 × Int32 × SX0 × SX4 × SX1 → Option (SX0 × SX4 × SX1)) (x3 : Int32) (x4 : Int32) (T_act : SX0) (T_fire : SX4) (T_fire_after : SX1) : Option (SX0 × SX4 × SX1) :=
  (if x2 ≤ x4 then some (T_act, T_fire, T_fire_after)
  else tnm (irem (((75 : Int32) * x3) + (74 : Int32)) (65537 : Int32)) (fun v3 => tbd (m4_behindIt T_fire) (fun r4 => tbd (m0_draw T_act T_fire_after v3) (fun r6 => tbd (m4_attempt T_fire r6 T_fire_after) (fun r8 => tnm (x4 + (1 : Int32)) (fun v10 => rc16 (v3, v10, r6, r8.2.1, r8.2.2)))))))
def m9_passYear_L16 (T : SX9) (T_brigade : SX1) (x2 : Int32) (rc16 : Int32 × Int32 × SX0 × SX4 × SX1 → Option (SX0 × SX4 × SX1)) (z : Int32 × Int32 × SX0 × SX4 × SX1) : Option (SX0 × SX4 × SX1) := m9_passYear_B16 T T_brigade x2 rc16 z.1 z.2.1 z.2.2.1 z.2.2.2.1 z.2.2.2.2
def m9_passYear (T : SX9) (T_act : SX0) (T_brigade : SX1) (T_fire : SX4) (T_fire_after : SX1) (a1 : Int32) (a2 : Int32) : Option (SX0 × SX4 × SX1) :=
  tbd (m4_begin T_fire T_brigade T_fire_after) (fun r1 => tit (m9_passYear_L16 T T_brigade a2) FU (a1, (0 : Int32), T_act, r1.1, r1.2))
def m9_year (T : SX9) (T_act : SX0) (T_brigade : SX1) (T_fire : SX4) (T_fire_after : SX1) (a1 : Int32) (a2 : Int32) (a3 : Int32) : Option (Int32 × SX0 × SX4 × SX1) :=
  tbd (m9_within a1 (0 : Int32) (9999 : Int32)) (fun r1 => (if r1 = 0 then some ((-2 : Int32), T_act, T_fire, T_fire_after)
  else tbd (m9_within a2 (1 : Int32) (99 : Int32)) (fun r3 => (if r3 = 0 then some ((-2 : Int32), T_act, T_fire, T_fire_after)
  else tbd (m9_within a3 (0 : Int32) (2 : Int32)) (fun r5 => (if r5 = 0 then some ((-2 : Int32), T_act, T_fire, T_fire_after)
  else tbd (m9_passYear T T_act T_brigade T_fire T_fire_after a1 a2) (fun r7 => (if a3 = 0 then tbd (m4_behindIt r7.2.1) (fun r9 => tbd (m1_menOnRoof r7.2.2) (fun r11 => some (r11, r7.1, r7.2.1, r7.2.2)))
  else (if a3 = 1 then tbd (m4_behindIt r7.2.1) (fun r13 => tbd (m1_coinsOf r7.2.2 (0 : Int32)) (fun r15 => some (r15, r7.1, r7.2.1, r7.2.2)))
  else tbd (m4_stepsMade r7.2.1) (fun r17 => some (r17, r7.1, r7.2.1, r7.2.2)))))))))))
def m9_toldOfMan (T : SX9) (T_brigade : SX1) (a1 : Int32) (a2 : Int32) : Option (Int32) :=
  tbd (m9_isMan a2) (fun r1 => (if r1 = 0 then some (-2 : Int32)
  else (if a1 = 1 then tbd (m1_placeOf T_brigade a2) (fun r3 => some r3)
  else (if a1 = 2 then tbd (m1_coinsOf T_brigade a2) (fun r5 => some r5)
  else tbd (m1_strideOf T_brigade a2) (fun r7 => some r7)))))
def m9_toldOfRung (T : SX9) (T_brigade : SX1) (a1 : Int32) : Option (Int32) :=
  tbd (m9_within a1 (41 : Int32) (52 : Int32)) (fun r1 => (if r1 = 0 then tbd (m9_within a1 (61 : Int32) (72 : Int32)) (fun r3 => (if r3 = 0 then some (-2 : Int32)
  else tbd (m1_leaserOf T_brigade (a1 - (60 : Int32))) (fun r5 => tbd (m9_orNone r5) (fun r7 => some r7))))
  else tbd (m1_ownerOf T_brigade (a1 - (40 : Int32))) (fun r9 => tbd (m9_orNone r9) (fun r11 => some r11))))
def m9_told (T : SX9) (T_brigade : SX1) (T_pad : SX5) (a1 : Int32) : Option (Int32) :=
  (if a1 = 0 then tbd (m5_size T_pad) (fun r1 => some r1)
  else (if a1 = 1 then tbd (m1_beatNow T_brigade) (fun r3 => some r3)
  else (if a1 = 2 then tbd (m1_menOnRoof T_brigade) (fun r5 => some r5)
  else (if a1 = 3 then tbd (m1_menStepped T_brigade) (fun r7 => some r7)
  else (if a1 = 4 then tbd (m1_rungsMissing T_brigade) (fun r9 => some r9)
  else (if a1 = 5 then tbd (m1_sightCount T_brigade) (fun r11 => some r11)
  else tbd (m9_within a1 (10 : Int32) (39 : Int32)) (fun r13 => (if r13 = 0 then tbd (m9_toldOfRung T T_brigade a1) (fun r15 => some r15)
  else tbd (m9_toldOfMan T T_brigade (a1 / (10 : Int32)) (irem a1 (10 : Int32))) (fun r17 => some r17)))))))))
def m9_isImage (a0 : Int32) : Option (Int32) :=
  (if a0 < 0 then some (0 : Int32)
  else (if (2 : Int32) ≤ a0 then some (0 : Int32)
  else some (1 : Int32)))
def m10_in (a0 : Int32) (a1 : Int32) (a2 : Int32) : Option (Int32) :=
  (if a0 < a1 then some (0 : Int32)
  else (if a2 < a0 then some (0 : Int32)
  else some (1 : Int32)))
def m10_has (a0 : Int32) (a1 : Int32) : Option (Int32) :=
  (if ((a0 >>> (a1 &&& 31)) &&& (1 : Int32)) = (1 : Int32) then some (1 : Int32)
  else some (0 : Int32))
def m10_bits_B4 (x0 : Int32) (rc4 : Int32 × Int32 → Option (Int32)) (x1 : Int32) (x2 : Int32) : Option (Int32) :=
  (if (13 : Int32) ≤ x2 then some x1
  else tnm (x1 + ((x0 >>> (x2 &&& 31)) &&& (1 : Int32))) (fun v1 => tnm (x2 + (1 : Int32)) (fun v2 => rc4 (v1, v2))))
def m10_bits_L4 (x0 : Int32) (rc4 : Int32 × Int32 → Option (Int32)) (z : Int32 × Int32) : Option (Int32) := m10_bits_B4 x0 rc4 z.1 z.2
def m10_bits (a0 : Int32) : Option (Int32) :=
  tit (m10_bits_L4 a0) FU ((0 : Int32), (0 : Int32))
def m10_isRung (a0 : Int32) : Option (Int32) :=
  tbd (m10_in a0 (1 : Int32) (12 : Int32)) (fun r1 => tgd (tbl r1) (some r1))
def m10_isMan (a0 : Int32) : Option (Int32) :=
  tbd (m10_in a0 (0 : Int32) (5 : Int32)) (fun r1 => tgd (tbl r1) (some r1))
def m10_asNow_B2 (rc2 : Int32 × SX10 → Option (SX10)) (x1 : Int32) (T : SX10) : Option (SX10) :=
  (if (47 : Int32) ≤ x1 then some (s10_roofWho (s10_roofAt (s10_paid (s10_steps T (0 : Int32)) (0 : Int32)) (-6 : Int32)) (-6 : Int32))
  else tgd (tin x1 47) (tgd (tin x1 47) (tnm (x1 + (1 : Int32)) (fun v1 => rc2 (v1, (s10_now T (upd (g10_now T) (Int32.toNatClampNeg x1) ((g10_book T) (Int32.toNatClampNeg x1)))))))))
def m10_asNow_L2 (rc2 : Int32 × SX10 → Option (SX10)) (z : Int32 × SX10) : Option (SX10) := m10_asNow_B2 rc2 z.1 z.2
def m10_asNow (T : SX10) : Option (SX10) :=
  tit (m10_asNow_L2 ) FU ((0 : Int32), T)
def m10_isMissing (T : SX10) (a1 : Int32) : Option (Int32) :=
  tbd (m10_has ((g10_now T) (Int32.toNatClampNeg (45 : Int32))) a1) (fun r1 => tgd (tbl r1) (some r1))
def m10_may (T : SX10) (a1 : Int32) (a2 : Int32) : Option (Int32) :=
  tbd (m10_isMissing T a2) (fun r1 => (if r1 = 0 then tgd (tin a2 47) ((if ((g10_now T) (Int32.toNatClampNeg a2)) = a1 then some (1 : Int32)
  else tgd (tin a2 47) ((if ((g10_now T) (Int32.toNatClampNeg a2)) < 0 then some (1 : Int32)
  else tgd (tin ((13 : Int32) + a2) 47) ((if ((g10_now T) (Int32.toNatClampNeg ((13 : Int32) + a2))) = a1 then some (1 : Int32)
  else some (0 : Int32)))))))
  else some (0 : Int32)))
def m10_standing_B2 (T : SX10) (x1 : Int32) (rc2 : Int32 → Option (Int32)) (x2 : Int32) : Option (Int32) :=
  (if (6 : Int32) ≤ x2 then some (-6 : Int32)
  else tgd (tin ((38 : Int32) + x2) 47) ((if ((g10_now T) (Int32.toNatClampNeg ((38 : Int32) + x2))) = x1 then some x2
  else tnm (x2 + (1 : Int32)) (fun v1 => rc2 v1))))
def m10_standing_L2 (T : SX10) (x1 : Int32) (rc2 : Int32 → Option (Int32)) (z : Int32) : Option (Int32) := m10_standing_B2 T x1 rc2 z
def m10_standing (T : SX10) (a1 : Int32) : Option (Int32) :=
  tit (m10_standing_L2 T a1) FU (0 : Int32)
def m10_rung_J120 (T : SX10) (x1 : Int32) (x4 : Int32) (x6 : Int32) (y1 : Int32) (y2 : Int32) : Option (Int32 × SX10) :=
  tgd (tin y1 47) (some (x6, (s10_book T (upd (upd (upd (g10_book T) (Int32.toNatClampNeg y1) y2) (Int32.toNatClampNeg (45 : Int32)) (((upd (g10_book T) (Int32.toNatClampNeg y1) y2) (Int32.toNatClampNeg (45 : Int32))) &&& (((1 : Int32) <<< (x1 &&& 31)) ^^^ (-1 : Int32)))) (Int32.toNatClampNeg (45 : Int32)) (((upd (upd (g10_book T) (Int32.toNatClampNeg y1) y2) (Int32.toNatClampNeg (45 : Int32)) (((upd (g10_book T) (Int32.toNatClampNeg y1) y2) (Int32.toNatClampNeg (45 : Int32))) &&& (((1 : Int32) <<< (x1 &&& 31)) ^^^ (-1 : Int32)))) (Int32.toNatClampNeg (45 : Int32))) ||| (x4 <<< (x1 &&& 31)))))))
def m10_rung_J101 (T : SX10) (x1 : Int32) (x3 : Int32) (x4 : Int32) (x6 : Int32) (y1 : Int32) (y2 : Int32) : Option (Int32 × SX10) :=
  tgd (tin y1 47) ((if 0 ≤ x3 then m10_rung_J120 (s10_book T (upd (g10_book T) (Int32.toNatClampNeg y1) y2)) x1 x4 x6 ((13 : Int32) + x1) x3
  else m10_rung_J120 (s10_book T (upd (g10_book T) (Int32.toNatClampNeg y1) y2)) x1 x4 x6 ((13 : Int32) + x1) (-6 : Int32)))
def m10_rung_J68 (T : SX10) (x1 : Int32) (x2 : Int32) (x3 : Int32) (x4 : Int32) (y0 : Int32) : Option (Int32 × SX10) :=
  (if y0 = 0 then some ((-2 : Int32), T)
  else tgd (tin x1 47) (tnm ((g10_book T) (Int32.toNatClampNeg x1)) (fun v9 => (if 0 ≤ x2 then m10_rung_J101 T x1 x3 x4 v9 x1 x2
  else m10_rung_J101 T x1 x3 x4 v9 x1 (-6 : Int32)))))
def m10_rung_J67 (T : SX10) (x1 : Int32) (x2 : Int32) (x3 : Int32) (x4 : Int32) : Option (Int32 × SX10) :=
  m10_rung_J68 T x1 x2 x3 x4 (0 : Int32)
def m10_rung_J63 (T : SX10) (x1 : Int32) (x2 : Int32) (x3 : Int32) (x4 : Int32) : Option (Int32 × SX10) :=
  m10_rung_J68 T x1 x2 x3 x4 (1 : Int32)
def m10_rung_J50 (T : SX10) (x1 : Int32) (x2 : Int32) (x3 : Int32) (x4 : Int32) : Option (Int32 × SX10) :=
  (if x4 = 0 then m10_rung_J63 T x1 x2 x3 x4
  else (if 0 ≤ x2 then m10_rung_J67 T x1 x2 x3 x4
  else (if 0 ≤ x3 then m10_rung_J67 T x1 x2 x3 x4
  else m10_rung_J63 T x1 x2 x3 x4)))
def m10_rung (T : SX10) (a1 : Int32) (a2 : Int32) (a3 : Int32) (a4 : Int32) : Option (Int32 × SX10) :=
  tbd (m10_isRung a1) (fun r1 => (if r1 = 0 then some ((-1 : Int32), T)
  else tbd (m10_in a2 (-1 : Int32) (5 : Int32)) (fun r3 => (if r3 = 0 then some ((-1 : Int32), T)
  else tbd (m10_in a3 (-1 : Int32) (5 : Int32)) (fun r5 => (if r5 = 0 then some ((-1 : Int32), T)
  else tbd (m10_in a4 (0 : Int32) (1 : Int32)) (fun r7 => (if r7 = 0 then m10_rung_J67 T a1 a2 a3 a4
  else (if a3 < 0 then m10_rung_J50 T a1 a2 a3 a4
  else (if a2 < 0 then m10_rung_J67 T a1 a2 a3 a4
  else (if a2 = a3 then m10_rung_J67 T a1 a2 a3 a4
  else m10_rung_J50 T a1 a2 a3 a4)))))))))))
def m10_man (T : SX10) (a1 : Int32) (a2 : Int32) (a3 : Int32) (a4 : Int32) : Option (Int32 × SX10) :=
  tbd (m10_isMan a1) (fun r1 => (if r1 = 0 then some ((-1 : Int32), T)
  else tbd (m10_in a2 (1 : Int32) (4 : Int32)) (fun r3 => (if r3 = 0 then some ((-2 : Int32), T)
  else tbd (m10_in a3 (0 : Int32) (99 : Int32)) (fun r5 => (if r5 = 0 then some ((-2 : Int32), T)
  else tbd (m10_in a4 (0 : Int32) (13 : Int32)) (fun r7 => (if r7 = 0 then some ((-2 : Int32), T)
  else tgd (tin ((38 : Int32) + a1) 47) (tgd (tin ((32 : Int32) + a1) 47) (tnm (((100 : Int32) * ((g10_book T) (Int32.toNatClampNeg ((38 : Int32) + a1)))) + ((g10_book T) (Int32.toNatClampNeg ((32 : Int32) + a1)))) (fun v9 => tgd (tin ((26 : Int32) + a1) 47) (tgd (tin ((32 : Int32) + a1) 47) (tgd (tin ((38 : Int32) + a1) 47) (some (v9, (s10_book T (upd (upd (upd (upd (g10_book T) (Int32.toNatClampNeg ((26 : Int32) + a1)) a2) (Int32.toNatClampNeg ((32 : Int32) + a1)) a3) (Int32.toNatClampNeg ((38 : Int32) + a1)) a4) (Int32.toNatClampNeg (44 : Int32)) (((upd (upd (upd (g10_book T) (Int32.toNatClampNeg ((26 : Int32) + a1)) a2) (Int32.toNatClampNeg ((32 : Int32) + a1)) a3) (Int32.toNatClampNeg ((38 : Int32) + a1)) a4) (Int32.toNatClampNeg (44 : Int32))) &&& (((1 : Int32) <<< (a1 &&& 31)) ^^^ (-1 : Int32))))))))))))))))))))
def m10_say (T : SX10) (a1 : Int32) : Option (Int32 × SX10) :=
  tbd (m10_in a1 (33 : Int32) (126 : Int32)) (fun r1 => (if r1 = 0 then some ((-2 : Int32), T)
  else (if (g10_signs T) = (60 : Int32) then some ((-4 : Int32), T)
  else tgd (tin (g10_signs T) 60) (some (((g10_signs T) + (1 : Int32)), (s10_pad (s10_signs T ((g10_signs T) + (1 : Int32))) (upd (g10_pad T) (Int32.toNatClampNeg (g10_signs T)) a1)))))))
def m10_wipe (T : SX10) : Option (Int32 × SX10) :=
  tnm (g10_signs T) (fun v1 => some (v1, (s10_signs T (0 : Int32))))
def m10_step (a0 : Int32) (a1 : Int32) : Option (Int32) :=
  tbd (m10_in a1 (97 : Int32) (108 : Int32)) (fun r1 => (if a0 = 0 then tbd (m10_in a1 (65 : Int32) (70 : Int32)) (fun r3 => (if r3 = 0 then (if a1 = (107 : Int32) then some (2 : Int32)
  else (if a1 = (43 : Int32) then some (2 : Int32)
  else (if a1 = (46 : Int32) then some (0 : Int32)
  else some (-6 : Int32))))
  else some (1 : Int32)))
  else (if a0 = 1 then (if r1 = 0 then (if a1 = (94 : Int32) then some (0 : Int32)
  else (if a1 = (95 : Int32) then some (0 : Int32)
  else (if a1 = (37 : Int32) then some (2 : Int32)
  else some (-6 : Int32))))
  else some (0 : Int32))
  else (if r1 = 0 then some (-6 : Int32)
  else some (0 : Int32)))))
def m10_faultOf_B4 (T : SX10) (rc4 : Int32 × Int32 → Option (Int32)) (x1 : Int32) (x2 : Int32) : Option (Int32) :=
  (if (g10_signs T) ≤ x2 then (if x1 = 0 then some (-6 : Int32)
  else some (g10_signs T))
  else tgd (tin x2 60) (tbd (m10_step x1 ((g10_pad T) (Int32.toNatClampNeg x2))) (fun r1 => (if 0 ≤ r1 then tnm (x2 + (1 : Int32)) (fun v3 => rc4 (r1, v3))
  else some x2))))
def m10_faultOf_L4 (T : SX10) (rc4 : Int32 × Int32 → Option (Int32)) (z : Int32 × Int32) : Option (Int32) := m10_faultOf_B4 T rc4 z.1 z.2
def m10_faultOf (T : SX10) : Option (Int32) :=
  tit (m10_faultOf_L4 T) FU ((0 : Int32), (0 : Int32))
def m10_fault (T : SX10) : Option (Int32) :=
  tbd (m10_faultOf T) (fun r1 => some r1)
def m10_goTo_J98 (T : SX10) (x1 : Int32) (x2 : Int32) : Option (Int32 × SX10) :=
  tgd (tin ((38 : Int32) + x1) 47) (some ((0 : Int32), (s10_steps (s10_now T (upd (upd (g10_now T) (Int32.toNatClampNeg ((38 : Int32) + x1)) x2) (Int32.toNatClampNeg (44 : Int32)) (((upd (g10_now T) (Int32.toNatClampNeg ((38 : Int32) + x1)) x2) (Int32.toNatClampNeg (44 : Int32))) ||| ((1 : Int32) <<< (x1 &&& 31))))) ((g10_steps T) + (1 : Int32)))))
def m10_goTo (T : SX10) (a1 : Int32) (a2 : Int32) : Option (Int32 × SX10) :=
  tbd (m10_has ((g10_now T) (Int32.toNatClampNeg (44 : Int32))) a1) (fun r1 => (if r1 = 0 then tgd (tin ((38 : Int32) + a1) 47) (tnm (a2 - ((g10_now T) (Int32.toNatClampNeg ((38 : Int32) + a1)))) (fun v3 => (if v3 = 0 then some ((2 : Int32), T)
  else tgd (tin ((26 : Int32) + a1) 47) (tgd (tin ((26 : Int32) + a1) 47) (tbd (m10_in v3 (-((g10_now T) (Int32.toNatClampNeg ((26 : Int32) + a1)))) ((g10_now T) (Int32.toNatClampNeg ((26 : Int32) + a1)))) (fun r4 => (if r4 = 0 then some ((2 : Int32), T)
  else tbd (m10_isRung a2) (fun r6 => (if r6 = 0 then m10_goTo_J98 T a1 a2
  else tbd (m10_isMissing T a2) (fun r8 => (if r8 = 0 then tbd (m10_may T a1 a2) (fun r10 => (if r10 = 0 then some ((4 : Int32), T)
  else tbd (m10_standing T a2) (fun r12 => (if r12 < 0 then m10_goTo_J98 T a1 a2
  else some ((5 : Int32), T)))))
  else some ((3 : Int32), T))))))))))))
  else some ((1 : Int32), T)))
def m10_leaseTo (T : SX10) (a1 : Int32) (a2 : Int32) : Option (Int32 × SX10) :=
  tbd (m10_isMissing T a2) (fun r1 => (if r1 = 0 then tgd (tin a2 47) ((if ((g10_now T) (Int32.toNatClampNeg a2)) = a1 then some ((6 : Int32), T)
  else tgd (tin a2 47) ((if 0 ≤ ((g10_now T) (Int32.toNatClampNeg a2)) then tgd (tin ((13 : Int32) + a2) 47) ((if ((g10_now T) (Int32.toNatClampNeg ((13 : Int32) + a2))) < 0 then tgd (tin ((32 : Int32) + a1) 47) ((if ((g10_now T) (Int32.toNatClampNeg ((32 : Int32) + a1))) = 0 then some ((8 : Int32), T)
  else tgd (tin ((32 : Int32) + a1) 47) (tgd (tin ((32 : Int32) + a1) 47) (tgd (tin a2 47) (tgd (tin ((32 : Int32) + ((upd (g10_now T) (Int32.toNatClampNeg ((32 : Int32) + a1)) (((g10_now T) (Int32.toNatClampNeg ((32 : Int32) + a1))) - (1 : Int32))) (Int32.toNatClampNeg a2))) 47) (tgd (tin ((32 : Int32) + ((upd (g10_now T) (Int32.toNatClampNeg ((32 : Int32) + a1)) (((g10_now T) (Int32.toNatClampNeg ((32 : Int32) + a1))) - (1 : Int32))) (Int32.toNatClampNeg a2))) 47) (tgd (tin ((13 : Int32) + a2) 47) (some ((0 : Int32), (s10_paid (s10_now T (upd (upd (upd (g10_now T) (Int32.toNatClampNeg ((32 : Int32) + a1)) (((g10_now T) (Int32.toNatClampNeg ((32 : Int32) + a1))) - (1 : Int32))) (Int32.toNatClampNeg ((32 : Int32) + ((upd (g10_now T) (Int32.toNatClampNeg ((32 : Int32) + a1)) (((g10_now T) (Int32.toNatClampNeg ((32 : Int32) + a1))) - (1 : Int32))) (Int32.toNatClampNeg a2)))) (((upd (g10_now T) (Int32.toNatClampNeg ((32 : Int32) + a1)) (((g10_now T) (Int32.toNatClampNeg ((32 : Int32) + a1))) - (1 : Int32))) (Int32.toNatClampNeg ((32 : Int32) + ((upd (g10_now T) (Int32.toNatClampNeg ((32 : Int32) + a1)) (((g10_now T) (Int32.toNatClampNeg ((32 : Int32) + a1))) - (1 : Int32))) (Int32.toNatClampNeg a2))))) + (1 : Int32))) (Int32.toNatClampNeg ((13 : Int32) + a2)) a1)) ((g10_paid T) + (1 : Int32))))))))))))
  else some ((7 : Int32), T)))
  else some ((6 : Int32), T)))))
  else some ((3 : Int32), T)))
def m10_lose (T : SX10) (a1 : Int32) (a2 : Int32) : Option (Int32 × SX10) :=
  tbd (m10_isMissing T a1) (fun r1 => (if r1 = a2 then some ((9 : Int32), T)
  else tgd (tin a1 47) (tgd (tin ((13 : Int32) + a1) 47) (some ((0 : Int32), (s10_now T (upd (upd (upd (g10_now T) (Int32.toNatClampNeg (45 : Int32)) (((g10_now T) (Int32.toNatClampNeg (45 : Int32))) ^^^ ((1 : Int32) <<< (a1 &&& 31)))) (Int32.toNatClampNeg a1) (-6 : Int32)) (Int32.toNatClampNeg ((13 : Int32) + a1)) (-6 : Int32))))))))
def m10_endBeat (T : SX10) : Option (Int32 × SX10) :=
  (if ((g10_now T) (Int32.toNatClampNeg (46 : Int32))) = (99 : Int32) then some ((10 : Int32), T)
  else some ((0 : Int32), (s10_now T (upd (upd (g10_now T) (Int32.toNatClampNeg (46 : Int32)) (((g10_now T) (Int32.toNatClampNeg (46 : Int32))) + (1 : Int32))) (Int32.toNatClampNeg (44 : Int32)) (0 : Int32)))))
def m10_oneAct_J57 (T : SX10) (y1 : Int32) (y2 : Int32) : Option (Int32 × SX10) :=
  tbd (m10_lose T y1 y2) (fun r3 => some (r3.1, r3.2))
def m10_oneAct_J39 (T : SX10) (x2 : Int32) (x3 : Int32) : Option (Int32 × SX10) :=
  (if x2 = (107 : Int32) then m10_oneAct_J57 T ((x3 - (97 : Int32)) + (1 : Int32)) (1 : Int32)
  else m10_oneAct_J57 T ((x3 - (97 : Int32)) + (1 : Int32)) (0 : Int32))
def m10_oneAct_J125 (T : SX10) (y1 : Int32) (y2 : Int32) : Option (Int32 × SX10) :=
  tbd (m10_goTo T y1 y2) (fun r6 => some (r6.1, r6.2))
def m10_oneAct (T : SX10) (a1 : Int32) : Option (Int32 × SX10) :=
  tgd (tin a1 60) (tnm ((g10_pad T) (Int32.toNatClampNeg a1)) (fun v1 => (if v1 = (46 : Int32) then tbd (m10_endBeat T) (fun r10 => some (r10.1, r10.2))
  else tgd (tin (a1 + (1 : Int32)) 60) (tnm ((g10_pad T) (Int32.toNatClampNeg (a1 + (1 : Int32)))) (fun v2 => (if v1 = (107 : Int32) then m10_oneAct_J39 T v1 v2
  else (if v1 = (43 : Int32) then m10_oneAct_J39 T v1 v2
  else tnm (v1 - (65 : Int32)) (fun v5 => (if v2 = (37 : Int32) then tgd (tin (a1 + (2 : Int32)) 60) (tbd (m10_leaseTo T v5 ((((g10_pad T) (Int32.toNatClampNeg (a1 + (2 : Int32)))) - (97 : Int32)) + (1 : Int32))) (fun r8 => some (r8.1, r8.2)))
  else (if v2 = (94 : Int32) then m10_oneAct_J125 T v5 (13 : Int32)
  else (if v2 = (95 : Int32) then m10_oneAct_J125 T v5 (0 : Int32)
  else m10_oneAct_J125 T v5 ((v2 - (97 : Int32)) + (1 : Int32)))))))))))))
def m10_roof_J32 (T : SX10) (x2 : Int32) (y0 : Int32) (y1 : Int32) (rc4 : Int32 × Int32 → Option (Int32)) : Option (Int32) :=
  tnm (y0 ||| y1) (fun v1 => tnm (x2 + (1 : Int32)) (fun v2 => rc4 (v1, v2)))
def m10_roof_B4 (T : SX10) (rc4 : Int32 × Int32 → Option (Int32)) (x1 : Int32) (x2 : Int32) : Option (Int32) :=
  (if (6 : Int32) ≤ x2 then some x1
  else tgd (tin ((38 : Int32) + x2) 47) ((if ((g10_now T) (Int32.toNatClampNeg ((38 : Int32) + x2))) = (13 : Int32) then m10_roof_J32 T x2 x1 ((1 : Int32) <<< (x2 &&& 31)) rc4
  else m10_roof_J32 T x2 x1 (0 : Int32) rc4)))
def m10_roof_L4 (T : SX10) (rc4 : Int32 × Int32 → Option (Int32)) (z : Int32 × Int32) : Option (Int32) := m10_roof_B4 T rc4 z.1 z.2
def m10_roof (T : SX10) : Option (Int32) :=
  tit (m10_roof_L4 T) FU ((0 : Int32), (0 : Int32))
def m10_goFires_J136 (T : SX10) (x1 : Int32) (rc11 : Int32 × SX10 → Option (Int32 × SX10)) : Option (Int32 × SX10) :=
  rc11 (x1, (s10_acts T ((g10_acts T) + (1 : Int32))))
def m10_goFires_B93 (x1 : Int32) (x3 : Int32) (rc11 : Int32 × SX10 → Option (Int32 × SX10)) (rc93 : Int32 × SX10 → Option (Int32 × SX10)) (x4 : Int32) (T : SX10) : Option (Int32 × SX10) :=
  (if (6 : Int32) ≤ x4 then m10_goFires_J136 T x1 rc11
  else (if 0 ≤ (g10_roofAt T) then m10_goFires_J136 T x1 rc11
  else tbd (m10_has x3 x4) (fun r11 => (if r11 = 0 then tnm (x4 + (1 : Int32)) (fun v13 => rc93 (v13, T))
  else tnm (x4 + (1 : Int32)) (fun v14 => rc93 (v14, (s10_roofWho (s10_roofAt T (g10_acts T)) x4)))))))
def m10_goFires_L93 (x1 : Int32) (x3 : Int32) (rc11 : Int32 × SX10 → Option (Int32 × SX10)) (rc93 : Int32 × SX10 → Option (Int32 × SX10)) (z : Int32 × SX10) : Option (Int32 × SX10) := m10_goFires_B93 x1 x3 rc11 rc93 z.1 z.2
def m10_goFires_J67 (T : SX10) (x2 : Int32) (y0 : Int32) (y1 : Int32) (rc11 : Int32 × SX10 → Option (Int32 × SX10)) : Option (Int32 × SX10) :=
  tnm (y0 + y1) (fun v7 => (if (g10_reason T) ≤ 0 then tbd (m10_roof T) (fun r8 => tnm (r8 &&& (x2 ^^^ (-1 : Int32))) (fun v10 => tit (m10_goFires_L93 v7 v10 rc11) FU ((0 : Int32), T)))
  else some ((g10_acts T), T)))
def m10_goFires_B11 (rc11 : Int32 × SX10 → Option (Int32 × SX10)) (x1 : Int32) (T : SX10) : Option (Int32 × SX10) :=
  (if (g10_signs T) ≤ x1 then some ((-6 : Int32), T)
  else tbd (m10_roof T) (fun r3 => tbd (m10_oneAct T x1) (fun r5 => tgd (tin x1 60) ((if ((g10_pad r5.2) (Int32.toNatClampNeg x1)) = (46 : Int32) then m10_goFires_J67 (s10_reason r5.2 r5.1) r3 x1 (1 : Int32) rc11
  else tgd (tin (x1 + (1 : Int32)) 60) ((if ((g10_pad r5.2) (Int32.toNatClampNeg (x1 + (1 : Int32)))) = (37 : Int32) then m10_goFires_J67 (s10_reason r5.2 r5.1) r3 x1 (3 : Int32) rc11
  else m10_goFires_J67 (s10_reason r5.2 r5.1) r3 x1 (2 : Int32) rc11)))))))
def m10_goFires_L11 (rc11 : Int32 × SX10 → Option (Int32 × SX10)) (z : Int32 × SX10) : Option (Int32 × SX10) := m10_goFires_B11 rc11 z.1 z.2
def m10_goFires (T : SX10) : Option (Int32 × SX10) :=
  tbd (m10_asNow T) (fun r1 => tit (m10_goFires_L11 ) FU ((0 : Int32), (s10_acts r1 (0 : Int32))))
def m10_judge (T : SX10) (a1 : Int32) : Option (Int32 × SX10) :=
  tbd (m10_in a1 (0 : Int32) (1 : Int32)) (fun r1 => (if r1 = 0 then some ((-2 : Int32), T)
  else tbd (m10_faultOf T) (fun r3 => (if r3 < 0 then tbd (m10_goFires T) (fun r5 => tnm r5.1 (fun v7 => (if v7 < 0 then some (v7, r5.2)
  else (if a1 = 0 then some (v7, r5.2)
  else some ((g10_reason r5.2), r5.2)))))
  else some ((-5 : Int32), T)))))
def m10_barOfFires (T : SX10) : Option (Int32 × SX10) :=
  tbd (m10_faultOf T) (fun r1 => (if 0 ≤ r1 then some ((-5 : Int32), T)
  else tbd (m10_goFires T) (fun r3 => (if r3.1 < 0 then some ((0 : Int32), r3.2)
  else some ((-5 : Int32), r3.2)))))
def m10_done_B12 (rc12 : Int32 × SX10 → Option (Int32 × SX10)) (x1 : Int32) (T : SX10) : Option (Int32 × SX10) :=
  (if (47 : Int32) ≤ x1 then some ((g10_acts T), (s10_signs T (0 : Int32)))
  else tgd (tin x1 47) (tgd (tin x1 47) (tnm (x1 + (1 : Int32)) (fun v3 => rc12 (v3, (s10_book T (upd (g10_book T) (Int32.toNatClampNeg x1) ((g10_now T) (Int32.toNatClampNeg x1)))))))))
def m10_done_L12 (rc12 : Int32 × SX10 → Option (Int32 × SX10)) (z : Int32 × SX10) : Option (Int32 × SX10) := m10_done_B12 rc12 z.1 z.2
def m10_done (T : SX10) : Option (Int32 × SX10) :=
  tbd (m10_barOfFires T) (fun r1 => (if 0 ≤ r1.1 then tit (m10_done_L12 ) FU ((0 : Int32), r1.2)
  else some ((-5 : Int32), r1.2)))
def m10_mayOnes_J29 (T : SX10) (x1 : Int32) (x3 : Int32) (y0 : Int32) (y1 : Int32) (rc4 : Int32 × Int32 → Option (Int32)) : Option (Int32) :=
  tnm (y0 ||| y1) (fun v3 => tnm (x3 + (1 : Int32)) (fun v4 => rc4 (v3, v4)))
def m10_mayOnes_B4 (T : SX10) (x1 : Int32) (rc4 : Int32 × Int32 → Option (Int32)) (x2 : Int32) (x3 : Int32) : Option (Int32) :=
  (if (13 : Int32) ≤ x3 then some x2
  else tbd (m10_may T x1 x3) (fun r1 => (if r1 = 0 then m10_mayOnes_J29 T x1 x3 x2 (0 : Int32) rc4
  else m10_mayOnes_J29 T x1 x3 x2 ((1 : Int32) <<< ((x3 - (1 : Int32)) &&& 31)) rc4)))
def m10_mayOnes_L4 (T : SX10) (x1 : Int32) (rc4 : Int32 × Int32 → Option (Int32)) (z : Int32 × Int32) : Option (Int32) := m10_mayOnes_B4 T x1 rc4 z.1 z.2
def m10_mayOnes (T : SX10) (a1 : Int32) : Option (Int32) :=
  tit (m10_mayOnes_L4 T a1) FU ((0 : Int32), (1 : Int32))
def m10_behind (T : SX10) (a1 : Int32) (a2 : Int32) : Option (Int32 × SX10) :=
  tbd (m10_isMan a1) (fun r1 => (if r1 = 0 then some ((-1 : Int32), T)
  else tbd (m10_in a2 (0 : Int32) (3 : Int32)) (fun r3 => (if r3 = 0 then some ((-2 : Int32), T)
  else tbd (m10_barOfFires T) (fun r5 => (if 0 ≤ r5.1 then (if a2 = 0 then tgd (tin ((38 : Int32) + a1) 47) (some (((g10_now r5.2) (Int32.toNatClampNeg ((38 : Int32) + a1))), r5.2))
  else (if a2 = (1 : Int32) then tgd (tin ((32 : Int32) + a1) 47) (some (((g10_now r5.2) (Int32.toNatClampNeg ((32 : Int32) + a1))), r5.2))
  else (if a2 = (2 : Int32) then tbd (m10_mayOnes r5.2 a1) (fun r7 => some (r7, r5.2))
  else some (((((g10_now r5.2) (Int32.toNatClampNeg (44 : Int32))) >>> (a1 &&& 31)) &&& (1 : Int32)), r5.2))))
  else some ((-5 : Int32), r5.2)))))))
def m10_bears (T : SX10) (a1 : Int32) (a2 : Int32) : Option (Int32 × SX10) :=
  tbd (m10_isRung a1) (fun r1 => (if r1 = 0 then some ((-1 : Int32), T)
  else tbd (m10_in a2 (0 : Int32) (3 : Int32)) (fun r3 => (if r3 = 0 then some ((-2 : Int32), T)
  else tbd (m10_barOfFires T) (fun r5 => (if 0 ≤ r5.1 then (if a2 = 0 then tgd (tin a1 47) (some (((g10_now r5.2) (Int32.toNatClampNeg a1)), r5.2))
  else (if a2 = (1 : Int32) then tgd (tin ((13 : Int32) + a1) 47) (some (((g10_now r5.2) (Int32.toNatClampNeg ((13 : Int32) + a1))), r5.2))
  else (if a2 = (2 : Int32) then tbd (m10_standing r5.2 a1) (fun r7 => some (r7, r5.2))
  else some (((((g10_now r5.2) (Int32.toNatClampNeg (45 : Int32))) >>> (a1 &&& 31)) &&& (1 : Int32)), r5.2))))
  else some ((-5 : Int32), r5.2)))))))
def m10_then (T : SX10) (a1 : Int32) : Option (Int32 × SX10) :=
  tbd (m10_in a1 (0 : Int32) (5 : Int32)) (fun r1 => (if r1 = 0 then some ((-2 : Int32), T)
  else tbd (m10_barOfFires T) (fun r3 => (if 0 ≤ r3.1 then (if a1 = 0 then some (((g10_now r3.2) (Int32.toNatClampNeg (46 : Int32))), r3.2)
  else (if a1 = 1 then tbd (m10_roof r3.2) (fun r5 => some (r5, r3.2))
  else (if a1 = 2 then some ((g10_steps r3.2), r3.2)
  else (if a1 = 3 then some ((g10_paid r3.2), r3.2)
  else (if a1 = (4 : Int32) then some ((g10_roofAt r3.2), r3.2)
  else some ((g10_roofWho r3.2), r3.2))))))
  else some ((-5 : Int32), r3.2)))))
def m10_layClimb_J139 (T : SX10) (x1 : Int32) (x2 : Int32) (x3 : Int32) (x4 : Int32) (y1 : Int32) (y2 : Int32) (rc3 : Int32 × SX10 → Option (SX10)) (rc47 : Int32 × SX10 → Option (SX10)) : Option (SX10) :=
  tgd (tin y1 14) (tgd (tin x3 14) (tgd (tin x4 14) (tgd (tin x3 14) (tnm (x4 + (1 : Int32)) (fun v4 => rc47 (v4, (s10_rows (s10_few T (upd (g10_few T) (Int32.toNatClampNeg y1) y2)) (upd (g10_rows T) (Int32.toNatClampNeg x3) (((g10_rows T) (Int32.toNatClampNeg x3)) + ((g10_rows T) (Int32.toNatClampNeg x4)))))))))))
def m10_layClimb_J98 (T : SX10) (x1 : Int32) (x2 : Int32) (x3 : Int32) (x4 : Int32) (rc3 : Int32 × SX10 → Option (SX10)) (rc47 : Int32 × SX10 → Option (SX10)) : Option (SX10) :=
  tgd (tin x4 14) (tgd (tin x3 14) ((if ((g10_few T) (Int32.toNatClampNeg x3)) ≤ (((g10_few T) (Int32.toNatClampNeg x4)) + (1 : Int32)) then tgd (tin x3 14) (m10_layClimb_J139 T x1 x2 x3 x4 x3 ((g10_few T) (Int32.toNatClampNeg x3)) rc3 rc47)
  else tgd (tin x4 14) (m10_layClimb_J139 T x1 x2 x3 x4 x3 (((g10_few T) (Int32.toNatClampNeg x4)) + (1 : Int32)) rc3 rc47))))
def m10_layClimb_B47 (x1 : Int32) (x2 : Int32) (x3 : Int32) (rc3 : Int32 × SX10 → Option (SX10)) (rc47 : Int32 × SX10 → Option (SX10)) (x4 : Int32) (T : SX10) : Option (SX10) :=
  tgd (tin ((26 : Int32) + x1) 47) ((if (x3 + ((g10_now T) (Int32.toNatClampNeg ((26 : Int32) + x1)))) < x4 then tnm (x3 + (-1 : Int32)) (fun v2 => rc3 (v2, T))
  else (if (13 : Int32) < x4 then tnm (x3 + (-1 : Int32)) (fun v3 => rc3 (v3, T))
  else (if x4 = (13 : Int32) then m10_layClimb_J98 T x1 x2 x3 x4 rc3 rc47
  else tbd (m10_may T x1 x4) (fun r5 => (if r5 = 0 then tbd (m10_has x2 (x4 - (1 : Int32))) (fun r7 => (if r7 = 0 then tnm (x4 + (1 : Int32)) (fun v9 => rc47 (v9, T))
  else m10_layClimb_J98 T x1 x2 x3 x4 rc3 rc47))
  else m10_layClimb_J98 T x1 x2 x3 x4 rc3 rc47))))))
def m10_layClimb_L47 (x1 : Int32) (x2 : Int32) (x3 : Int32) (rc3 : Int32 × SX10 → Option (SX10)) (rc47 : Int32 × SX10 → Option (SX10)) (z : Int32 × SX10) : Option (SX10) := m10_layClimb_B47 x1 x2 x3 rc3 rc47 z.1 z.2
def m10_layClimb_J41 (T : SX10) (x1 : Int32) (x2 : Int32) (x3 : Int32) (y1 : Int32) (y2 : Int32) (rc3 : Int32 × SX10 → Option (SX10)) : Option (SX10) :=
  tgd (tin y1 14) (tnm (x3 + (1 : Int32)) (fun v1 => tit (m10_layClimb_L47 x1 x2 x3 rc3) FU (v1, (s10_rows T (upd (g10_rows T) (Int32.toNatClampNeg y1) y2)))))
def m10_layClimb_J24 (T : SX10) (x1 : Int32) (x2 : Int32) (x3 : Int32) (y1 : Int32) (y2 : Int32) (rc3 : Int32 × SX10 → Option (SX10)) : Option (SX10) :=
  tgd (tin y1 14) ((if x3 = (13 : Int32) then m10_layClimb_J41 (s10_few T (upd (g10_few T) (Int32.toNatClampNeg y1) y2)) x1 x2 x3 x3 (1 : Int32) rc3
  else m10_layClimb_J41 (s10_few T (upd (g10_few T) (Int32.toNatClampNeg y1) y2)) x1 x2 x3 x3 (0 : Int32) rc3))
def m10_layClimb_B3 (x1 : Int32) (x2 : Int32) (rc3 : Int32 × SX10 → Option (SX10)) (x3 : Int32) (T : SX10) : Option (SX10) :=
  (if x3 < 0 then some T
  else (if x3 = (13 : Int32) then m10_layClimb_J24 T x1 x2 x3 x3 (0 : Int32) rc3
  else m10_layClimb_J24 T x1 x2 x3 x3 (1000000 : Int32) rc3))
def m10_layClimb_L3 (x1 : Int32) (x2 : Int32) (rc3 : Int32 × SX10 → Option (SX10)) (z : Int32 × SX10) : Option (SX10) := m10_layClimb_B3 x1 x2 rc3 z.1 z.2
def m10_layClimb (T : SX10) (a1 : Int32) (a2 : Int32) : Option (SX10) :=
  tit (m10_layClimb_L3 a1 a2) FU ((13 : Int32), T)
def m10_climb_J111 (T : SX10) (x1 : Int32) (x3 : Int32) (x4 : Int32) (rc71 : Int32 → Option (Int32 × SX10)) : Option (Int32 × SX10) :=
  tgd (tin x4 14) (tgd (tin x3 14) ((if ((g10_few T) (Int32.toNatClampNeg x4)) = (((g10_few T) (Int32.toNatClampNeg x3)) - (1 : Int32)) then some (x4, T)
  else tnm (x4 + (1 : Int32)) (fun v11 => rc71 v11))))
def m10_climb_B71 (T : SX10) (x1 : Int32) (x3 : Int32) (rc71 : Int32 → Option (Int32 × SX10)) (x4 : Int32) : Option (Int32 × SX10) :=
  tgd (tin ((26 : Int32) + x1) 47) ((if (x3 + ((g10_now T) (Int32.toNatClampNeg ((26 : Int32) + x1)))) < x4 then some ((-6 : Int32), T)
  else (if (13 : Int32) < x4 then some ((-6 : Int32), T)
  else (if x4 = (13 : Int32) then m10_climb_J111 T x1 x3 x4 rc71
  else tbd (m10_may T x1 x4) (fun r12 => (if r12 = 0 then tnm (x4 + (1 : Int32)) (fun v14 => rc71 v14)
  else m10_climb_J111 T x1 x3 x4 rc71))))))
def m10_climb_L71 (T : SX10) (x1 : Int32) (x3 : Int32) (rc71 : Int32 → Option (Int32 × SX10)) (z : Int32) : Option (Int32 × SX10) := m10_climb_B71 T x1 x3 rc71 z
def m10_climb (T : SX10) (a1 : Int32) (a2 : Int32) : Option (Int32 × SX10) :=
  tbd (m10_isMan a1) (fun r1 => (if r1 = 0 then some ((-1 : Int32), T)
  else tbd (m10_in a2 (0 : Int32) (1 : Int32)) (fun r3 => (if r3 = 0 then some ((-2 : Int32), T)
  else tbd (m10_asNow T) (fun r5 => tbd (m10_layClimb r5 a1 (0 : Int32)) (fun r7 => tgd (tin ((38 : Int32) + a1) 47) (tnm ((g10_now r7) (Int32.toNatClampNeg ((38 : Int32) + a1))) (fun v9 => tgd (tin v9 14) ((if ((g10_few r7) (Int32.toNatClampNeg v9)) < (1000000 : Int32) then (if a2 = 0 then tgd (tin v9 14) (some (((g10_few r7) (Int32.toNatClampNeg v9)), r7))
  else tnm (v9 + (1 : Int32)) (fun v10 => tit (m10_climb_L71 r7 a1 v9) FU v10))
  else some ((-6 : Int32), r7)))))))))))
def m10_ways (T : SX10) (a1 : Int32) : Option (Int32 × SX10) :=
  tbd (m10_isMan a1) (fun r1 => (if r1 = 0 then some ((-1 : Int32), T)
  else tbd (m10_asNow T) (fun r3 => tbd (m10_layClimb r3 a1 (0 : Int32)) (fun r5 => tgd (tin ((38 : Int32) + a1) 47) (tgd (tin ((g10_now r5) (Int32.toNatClampNeg ((38 : Int32) + a1))) 14) (some (((g10_rows r5) (Int32.toNatClampNeg ((g10_now r5) (Int32.toNatClampNeg ((38 : Int32) + a1))))), r5)))))))
def m10_leases_J141 (T : SX10) (x1 : Int32) (x2 : Int32) (x3 : Int32) (x4 : Int32) (x5 : Int32) (rc106 : Int32 × Int32 × SX10 → Option (Int32 × SX10)) : Option (Int32 × SX10) :=
  tbd (m10_layClimb T x1 x5) (fun r10 => tgd (tin ((38 : Int32) + x1) 47) (tgd (tin ((g10_now r10) (Int32.toNatClampNeg ((38 : Int32) + x1))) 14) ((if (1000000 : Int32) ≤ ((g10_few r10) (Int32.toNatClampNeg ((g10_now r10) (Int32.toNatClampNeg ((38 : Int32) + x1))))) then tnm (x5 + (1 : Int32)) (fun v12 => rc106 (x4, v12, r10))
  else tnm (x5 + (1 : Int32)) (fun v13 => rc106 (x5, v13, r10))))))
def m10_leases_B106 (x1 : Int32) (x2 : Int32) (x3 : Int32) (rc106 : Int32 × Int32 × SX10 → Option (Int32 × SX10)) (x4 : Int32) (x5 : Int32) (T : SX10) : Option (Int32 × SX10) :=
  (if (4096 : Int32) ≤ x5 then (if x4 < 0 then some (x4, T)
  else (if x2 = (1 : Int32) then some (x4, T)
  else tbd (m10_bits x4) (fun r7 => some (r7, T))))
  else (if (x5 &&& (x3 ^^^ (-1 : Int32))) = 0 then (if x4 < 0 then m10_leases_J141 T x1 x2 x3 x4 x5 rc106
  else tbd (m10_bits x5) (fun r14 => tbd (m10_bits x4) (fun r16 => (if r16 ≤ r14 then tnm (x5 + (1 : Int32)) (fun v18 => rc106 (x4, v18, T))
  else m10_leases_J141 T x1 x2 x3 x4 x5 rc106))))
  else tnm (x5 + (1 : Int32)) (fun v9 => rc106 (x4, v9, T))))
def m10_leases_L106 (x1 : Int32) (x2 : Int32) (x3 : Int32) (rc106 : Int32 × Int32 × SX10 → Option (Int32 × SX10)) (z : Int32 × Int32 × SX10) : Option (Int32 × SX10) := m10_leases_B106 x1 x2 x3 rc106 z.1 z.2.1 z.2.2
def m10_leases_J91 (T : SX10) (x1 : Int32) (x2 : Int32) (x4 : Int32) (y0 : Int32) (y1 : Int32) (rc30 : Int32 × Int32 → Option (Int32 × SX10)) : Option (Int32 × SX10) :=
  tnm (y0 ||| y1) (fun v21 => tnm (x4 + (1 : Int32)) (fun v22 => rc30 (v21, v22)))
def m10_leases_J90 (T : SX10) (x1 : Int32) (x2 : Int32) (x4 : Int32) (y0 : Int32) (rc30 : Int32 × Int32 → Option (Int32 × SX10)) : Option (Int32 × SX10) :=
  m10_leases_J91 T x1 x2 x4 y0 (0 : Int32) rc30
def m10_leases_B30 (T : SX10) (x1 : Int32) (x2 : Int32) (rc30 : Int32 × Int32 → Option (Int32 × SX10)) (x3 : Int32) (x4 : Int32) : Option (Int32 × SX10) :=
  (if (13 : Int32) ≤ x4 then tit (m10_leases_L106 x1 x2 x3) FU ((-6 : Int32), (0 : Int32), T)
  else tbd (m10_isMissing T x4) (fun r19 => (if r19 = 0 then tgd (tin x4 47) ((if ((g10_now T) (Int32.toNatClampNeg x4)) < 0 then m10_leases_J90 T x1 x2 x4 x3 rc30
  else tgd (tin x4 47) ((if ((g10_now T) (Int32.toNatClampNeg x4)) = x1 then m10_leases_J90 T x1 x2 x4 x3 rc30
  else tgd (tin ((13 : Int32) + x4) 47) ((if 0 ≤ ((g10_now T) (Int32.toNatClampNeg ((13 : Int32) + x4))) then m10_leases_J90 T x1 x2 x4 x3 rc30
  else m10_leases_J91 T x1 x2 x4 x3 ((1 : Int32) <<< ((x4 - (1 : Int32)) &&& 31)) rc30))))))
  else m10_leases_J90 T x1 x2 x4 x3 rc30)))
def m10_leases_L30 (T : SX10) (x1 : Int32) (x2 : Int32) (rc30 : Int32 × Int32 → Option (Int32 × SX10)) (z : Int32 × Int32) : Option (Int32 × SX10) := m10_leases_B30 T x1 x2 rc30 z.1 z.2
def m10_leases (T : SX10) (a1 : Int32) (a2 : Int32) : Option (Int32 × SX10) :=
  tbd (m10_isMan a1) (fun r1 => (if r1 = 0 then some ((-1 : Int32), T)
  else tbd (m10_in a2 (0 : Int32) (1 : Int32)) (fun r3 => (if r3 = 0 then some ((-2 : Int32), T)
  else tbd (m10_asNow T) (fun r5 => tit (m10_leases_L30 r5 a1 a2) FU ((0 : Int32), (1 : Int32)))))))
def m10_most_J180 (T : SX10) (x3 : Int32) (x4 : Int32) (rc146 : Int32 × Int32 → Option (Int32 × SX10)) : Option (Int32 × SX10) :=
  tnm (x4 + (1 : Int32)) (fun v1 => rc146 (x3, v1))
def m10_most_B146 (T : SX10) (rc146 : Int32 × Int32 → Option (Int32 × SX10)) (x3 : Int32) (x4 : Int32) : Option (Int32 × SX10) :=
  (if (64 : Int32) ≤ x4 then some (x3, T)
  else tgd (tin x4 64) ((if ((g10_can T) (Int32.toNatClampNeg x4)) = 0 then m10_most_J180 T x3 x4 rc146
  else tbd (m10_bits x4) (fun r2 => (if r2 ≤ x3 then m10_most_J180 T x3 x4 rc146
  else tbd (m10_bits x4) (fun r4 => tnm (x4 + (1 : Int32)) (fun v6 => rc146 (r4, v6))))))))
def m10_most_L146 (T : SX10) (rc146 : Int32 × Int32 → Option (Int32 × SX10)) (z : Int32 × Int32) : Option (Int32 × SX10) := m10_most_B146 T rc146 z.1 z.2
def m10_most_J117 (T : SX10) (x1 : Int32) (x2 : Int32) (x3 : Int32) (x4 : Int32) (x5 : Int32) (y1 : Int32) (rc31 : Int32 × SX10 → Option (Int32 × SX10)) (rc41 : Int32 × SX10 → Option (Int32 × SX10)) (rc57 : Int32 × SX10 → Option (Int32 × SX10)) : Option (Int32 × SX10) :=
  tgd (tin y1 64) (tnm (x5 + (1 : Int32)) (fun v12 => rc57 (v12, (s10_can T (upd (g10_can T) (Int32.toNatClampNeg y1) (vp_nar .boolean (1 : Int32)))))))
def m10_most_J121 (T : SX10) (x1 : Int32) (x2 : Int32) (x3 : Int32) (x4 : Int32) (x5 : Int32) (y1 : Int32) (rc31 : Int32 × SX10 → Option (Int32 × SX10)) (rc41 : Int32 × SX10 → Option (Int32 × SX10)) (rc57 : Int32 × SX10 → Option (Int32 × SX10)) : Option (Int32 × SX10) :=
  tgd (tin y1 64) (tnm (x5 + (1 : Int32)) (fun v15 => rc57 (v15, (s10_can T (upd (g10_can T) (Int32.toNatClampNeg y1) (vp_nar .boolean (0 : Int32)))))))
def m10_most_B57 (x1 : Int32) (x2 : Int32) (x3 : Int32) (x4 : Int32) (rc31 : Int32 × SX10 → Option (Int32 × SX10)) (rc41 : Int32 × SX10 → Option (Int32 × SX10)) (rc57 : Int32 × SX10 → Option (Int32 × SX10)) (x5 : Int32) (T : SX10) : Option (Int32 × SX10) :=
  (if (6 : Int32) ≤ x5 then tnm (x4 + (-1 : Int32)) (fun v11 => rc41 (v11, T))
  else tgd (tin x4 64) ((if ((g10_can T) (Int32.toNatClampNeg x4)) = 0 then tbd (m10_has x4 x5) (fun r13 => (if r13 = 0 then m10_most_J121 T x1 x2 x3 x4 x5 x4 rc31 rc41 rc57
  else tbd (m10_may T x5 x3) (fun r16 => (if r16 = 0 then m10_most_J121 T x1 x2 x3 x4 x5 x4 rc31 rc41 rc57
  else tgd (tin (x4 &&& (((1 : Int32) <<< (x5 &&& 31)) ^^^ (-1 : Int32))) 64) ((if ((g10_can T) (Int32.toNatClampNeg (x4 &&& (((1 : Int32) <<< (x5 &&& 31)) ^^^ (-1 : Int32))))) = 0 then m10_most_J121 T x1 x2 x3 x4 x5 x4 rc31 rc41 rc57
  else m10_most_J117 T x1 x2 x3 x4 x5 x4 rc31 rc41 rc57))))))
  else m10_most_J117 T x1 x2 x3 x4 x5 x4 rc31 rc41 rc57)))
def m10_most_L57 (x1 : Int32) (x2 : Int32) (x3 : Int32) (x4 : Int32) (rc31 : Int32 × SX10 → Option (Int32 × SX10)) (rc41 : Int32 × SX10 → Option (Int32 × SX10)) (rc57 : Int32 × SX10 → Option (Int32 × SX10)) (z : Int32 × SX10) : Option (Int32 × SX10) := m10_most_B57 x1 x2 x3 x4 rc31 rc41 rc57 z.1 z.2
def m10_most_B41 (x1 : Int32) (x2 : Int32) (x3 : Int32) (rc31 : Int32 × SX10 → Option (Int32 × SX10)) (rc41 : Int32 × SX10 → Option (Int32 × SX10)) (x4 : Int32) (T : SX10) : Option (Int32 × SX10) :=
  (if x4 ≤ 0 then tnm (x3 + (1 : Int32)) (fun v7 => rc31 (v7, T))
  else tbd (m10_has x2 x3) (fun r8 => (if r8 = 0 then tit (m10_most_L57 x1 x2 x3 x4 rc31 rc41) FU (x1, T)
  else tnm (x3 + (1 : Int32)) (fun v10 => rc31 (v10, T)))))
def m10_most_L41 (x1 : Int32) (x2 : Int32) (x3 : Int32) (rc31 : Int32 × SX10 → Option (Int32 × SX10)) (rc41 : Int32 × SX10 → Option (Int32 × SX10)) (z : Int32 × SX10) : Option (Int32 × SX10) := m10_most_B41 x1 x2 x3 rc31 rc41 z.1 z.2
def m10_most_B31 (x1 : Int32) (x2 : Int32) (rc31 : Int32 × SX10 → Option (Int32 × SX10)) (x3 : Int32) (T : SX10) : Option (Int32 × SX10) :=
  (if (13 : Int32) ≤ x3 then tit (m10_most_L146 T) FU ((0 : Int32), (1 : Int32))
  else tit (m10_most_L41 x1 x2 x3 rc31) FU ((63 : Int32), T))
def m10_most_L31 (x1 : Int32) (x2 : Int32) (rc31 : Int32 × SX10 → Option (Int32 × SX10)) (z : Int32 × SX10) : Option (Int32 × SX10) := m10_most_B31 x1 x2 rc31 z.1 z.2
def m10_most_B2 (x1 : Int32) (x2 : Int32) (rc2 : Int32 × SX10 → Option (Int32 × SX10)) (x3 : Int32) (T : SX10) : Option (Int32 × SX10) :=
  (if (64 : Int32) ≤ x3 then tit (m10_most_L31 x1 x2) FU ((1 : Int32), T)
  else (if x3 = 0 then tgd (tin x3 64) (tnm (x3 + (1 : Int32)) (fun v19 => rc2 (v19, (s10_can T (upd (g10_can T) (Int32.toNatClampNeg x3) (vp_nar .boolean (1 : Int32)))))))
  else tgd (tin x3 64) (tnm (x3 + (1 : Int32)) (fun v18 => rc2 (v18, (s10_can T (upd (g10_can T) (Int32.toNatClampNeg x3) (vp_nar .boolean (0 : Int32)))))))))
def m10_most_L2 (x1 : Int32) (x2 : Int32) (rc2 : Int32 × SX10 → Option (Int32 × SX10)) (z : Int32 × SX10) : Option (Int32 × SX10) := m10_most_B2 x1 x2 rc2 z.1 z.2
def m10_most (T : SX10) (a1 : Int32) (a2 : Int32) : Option (Int32 × SX10) :=
  tit (m10_most_L2 a1 a2) FU ((0 : Int32), T)
def m10_stand_J144 (T : SX10) (x1 : Int32) (x3 : Int32) (x4 : Int32) (x5 : Int32) (y0 : Int32) (y1 : Int32) (rc37 : Int32 × Int32 × Int32 × Int32 × SX10 → Option (Int32 × SX10)) : Option (Int32 × SX10) :=
  tnm (y0 - y1) (fun v9 => tnm (x5 + (1 : Int32)) (fun v10 => rc37 (v9, x3, x4, v10, T)))
def m10_stand_J131 (T : SX10) (x1 : Int32) (x2 : Int32) (x4 : Int32) (x5 : Int32) (y0 : Int32) (y1 : Int32) (rc37 : Int32 × Int32 × Int32 × Int32 × SX10 → Option (Int32 × SX10)) : Option (Int32 × SX10) :=
  tnm (y0 ||| y1) (fun v8 => (if 0 ≤ x4 then m10_stand_J144 T x1 v8 x4 x5 x2 (1 : Int32) rc37
  else m10_stand_J144 T x1 v8 x4 x5 x2 (0 : Int32) rc37))
def m10_stand_J117 (T : SX10) (x1 : Int32) (x2 : Int32) (x3 : Int32) (x4 : Int32) (x5 : Int32) (rc37 : Int32 × Int32 × Int32 × Int32 × SX10 → Option (Int32 × SX10)) : Option (Int32 × SX10) :=
  (if 0 ≤ x4 then m10_stand_J131 T x1 x2 x4 x5 x3 ((1 : Int32) <<< (x4 &&& 31)) rc37
  else m10_stand_J131 T x1 x2 x4 x5 x3 (0 : Int32) rc37)
def m10_stand_J107 (T : SX10) (x1 : Int32) (x2 : Int32) (x3 : Int32) (x4 : Int32) (x5 : Int32) (x6 : Int32) (rc37 : Int32 × Int32 × Int32 × Int32 × SX10 → Option (Int32 × SX10)) (rc50 : Int32 × Int32 × SX10 → Option (Int32 × SX10)) : Option (Int32 × SX10) :=
  tnm (x6 + (1 : Int32)) (fun v13 => rc50 (x4, v13, T))
def m10_stand_B50 (x1 : Int32) (x2 : Int32) (x3 : Int32) (x5 : Int32) (rc37 : Int32 × Int32 × Int32 × Int32 × SX10 → Option (Int32 × SX10)) (rc50 : Int32 × Int32 × SX10 → Option (Int32 × SX10)) (x4 : Int32) (x6 : Int32) (T : SX10) : Option (Int32 × SX10) :=
  (if (13 : Int32) ≤ x6 then m10_stand_J117 T x1 x2 x3 x4 x5 rc37
  else (if 0 ≤ x4 then m10_stand_J117 T x1 x2 x3 x4 x5 rc37
  else tbd (m10_has x3 x6) (fun r11 => (if r11 = 0 then tbd (m10_may T x5 x6) (fun r14 => (if r14 = 0 then m10_stand_J107 T x1 x2 x3 x4 x5 x6 rc37 rc50
  else tbd (m10_most T (x5 + (1 : Int32)) (x3 ||| ((1 : Int32) <<< (x6 &&& 31)))) (fun r16 => (if ((1 : Int32) + r16.1) = x2 then tnm (x6 + (1 : Int32)) (fun v18 => rc50 (x6, v18, r16.2))
  else m10_stand_J107 r16.2 x1 x2 x3 x4 x5 x6 rc37 rc50))))
  else m10_stand_J107 T x1 x2 x3 x4 x5 x6 rc37 rc50))))
def m10_stand_L50 (x1 : Int32) (x2 : Int32) (x3 : Int32) (x5 : Int32) (rc37 : Int32 × Int32 × Int32 × Int32 × SX10 → Option (Int32 × SX10)) (rc50 : Int32 × Int32 × SX10 → Option (Int32 × SX10)) (z : Int32 × Int32 × SX10) : Option (Int32 × SX10) := m10_stand_B50 x1 x2 x3 x5 rc37 rc50 z.1 z.2.1 z.2.2
def m10_stand_B37 (x1 : Int32) (rc37 : Int32 × Int32 × Int32 × Int32 × SX10 → Option (Int32 × SX10)) (x2 : Int32) (x3 : Int32) (x4 : Int32) (x5 : Int32) (T : SX10) : Option (Int32 × SX10) :=
  (if x1 < x5 then some (x4, T)
  else tit (m10_stand_L50 x1 x2 x3 x5 rc37) FU ((-6 : Int32), (1 : Int32), T))
def m10_stand_L37 (x1 : Int32) (rc37 : Int32 × Int32 × Int32 × Int32 × SX10 → Option (Int32 × SX10)) (z : Int32 × Int32 × Int32 × Int32 × SX10) : Option (Int32 × SX10) := m10_stand_B37 x1 rc37 z.1 z.2.1 z.2.2.1 z.2.2.2.1 z.2.2.2.2
def m10_stand (T : SX10) (a1 : Int32) : Option (Int32 × SX10) :=
  tbd (m10_in a1 (-1 : Int32) (5 : Int32)) (fun r1 => (if r1 = 0 then some ((-1 : Int32), T)
  else tbd (m10_asNow T) (fun r3 => tbd (m10_most r3 (0 : Int32) (0 : Int32)) (fun r5 => tnm r5.1 (fun v7 => (if 0 ≤ a1 then tit (m10_stand_L37 a1) FU (v7, (0 : Int32), (-6 : Int32), (0 : Int32), r5.2)
  else some (v7, r5.2)))))))
def m10_wetOnes_J161 (T : SX10) (x1 : Int32) (x2 : Int32) (x4 : Int32) (x5 : Int32) (y0 : Int32) (rc13 : Int32 × Int32 × Int32 → Option (Int32)) : Option (Int32) :=
  tnm (y0 ||| (0 : Int32)) (fun v3 => rc13 (v3, x4, x5))
def m10_wetOnes_J139 (T : SX10) (x1 : Int32) (x2 : Int32) (x3 : Int32) (x5 : Int32) (x6 : Int32) (y0 : Int32) (rc13 : Int32 × Int32 × Int32 → Option (Int32)) : Option (Int32) :=
  (if x5 = 0 then m10_wetOnes_J161 T x1 x2 y0 x5 x3 rc13
  else (if (13 : Int32) ≤ x6 then m10_wetOnes_J161 T x1 x2 y0 x5 x3 rc13
  else tnm (x3 ||| ((1 : Int32) <<< (x6 &&& 31))) (fun v4 => rc13 (v4, y0, x5))))
def m10_wetOnes_J125 (T : SX10) (x1 : Int32) (x2 : Int32) (x3 : Int32) (x4 : Int32) (x6 : Int32) (y0 : Int32) (rc13 : Int32 × Int32 × Int32 → Option (Int32)) : Option (Int32) :=
  (if y0 = 0 then m10_wetOnes_J139 T x1 x2 x3 y0 x6 x4 rc13
  else m10_wetOnes_J139 T x1 x2 x3 y0 x6 x6 rc13)
def m10_wetOnes_J115 (T : SX10) (x1 : Int32) (x2 : Int32) (x3 : Int32) (x4 : Int32) (x6 : Int32) (rc13 : Int32 × Int32 × Int32 → Option (Int32)) : Option (Int32) :=
  (if x6 ≤ 0 then m10_wetOnes_J125 T x1 x2 x3 x4 x6 (0 : Int32) rc13
  else m10_wetOnes_J125 T x1 x2 x3 x4 x6 (1 : Int32) rc13)
def m10_wetOnes_J105 (T : SX10) (x1 : Int32) (x2 : Int32) (x3 : Int32) (x4 : Int32) (x6 : Int32) (x7 : Int32) (rc13 : Int32 × Int32 × Int32 → Option (Int32)) (rc35 : Int32 × Int32 → Option (Int32)) : Option (Int32) :=
  tnm (x7 + (1 : Int32)) (fun v5 => rc35 (x6, v5))
def m10_wetOnes_J100 (T : SX10) (x1 : Int32) (x2 : Int32) (x3 : Int32) (x4 : Int32) (x7 : Int32) (rc13 : Int32 × Int32 × Int32 → Option (Int32)) (rc35 : Int32 × Int32 → Option (Int32)) : Option (Int32) :=
  tnm (x7 + (1 : Int32)) (fun v6 => rc35 (x7, v6))
def m10_wetOnes_J81 (T : SX10) (x1 : Int32) (x2 : Int32) (x3 : Int32) (x4 : Int32) (x6 : Int32) (x7 : Int32) (y0 : Int32) (rc13 : Int32 × Int32 × Int32 → Option (Int32)) (rc35 : Int32 × Int32 → Option (Int32)) : Option (Int32) :=
  (if y0 = 0 then m10_wetOnes_J105 T x1 x2 x3 x4 x6 x7 rc13 rc35
  else (if x6 < 0 then m10_wetOnes_J100 T x1 x2 x3 x4 x7 rc13 rc35
  else (if (irem x1 (10 : Int32)) = 0 then m10_wetOnes_J100 T x1 x2 x3 x4 x7 rc13 rc35
  else m10_wetOnes_J105 T x1 x2 x3 x4 x6 x7 rc13 rc35)))
def m10_wetOnes_J76 (T : SX10) (x1 : Int32) (x2 : Int32) (x3 : Int32) (x4 : Int32) (x6 : Int32) (x7 : Int32) (rc13 : Int32 × Int32 × Int32 → Option (Int32)) (rc35 : Int32 × Int32 → Option (Int32)) : Option (Int32) :=
  m10_wetOnes_J81 T x1 x2 x3 x4 x6 x7 (1 : Int32) rc13 rc35
def m10_wetOnes_B35 (T : SX10) (x1 : Int32) (x2 : Int32) (x3 : Int32) (x4 : Int32) (rc13 : Int32 × Int32 × Int32 → Option (Int32)) (rc35 : Int32 × Int32 → Option (Int32)) (x6 : Int32) (x7 : Int32) : Option (Int32) :=
  tgd (tin ((26 : Int32) + x2) 47) ((if (x4 + ((g10_now T) (Int32.toNatClampNeg ((26 : Int32) + x2)))) < x7 then m10_wetOnes_J115 T x1 x2 x3 x4 x6 rc13
  else (if (13 : Int32) < x7 then m10_wetOnes_J115 T x1 x2 x3 x4 x6 rc13
  else (if x7 = (13 : Int32) then m10_wetOnes_J76 T x1 x2 x3 x4 x6 x7 rc13 rc35
  else tbd (m10_may T x2 x7) (fun r7 => (if r7 = 0 then m10_wetOnes_J81 T x1 x2 x3 x4 x6 x7 (0 : Int32) rc13 rc35
  else m10_wetOnes_J76 T x1 x2 x3 x4 x6 x7 rc13 rc35))))))
def m10_wetOnes_L35 (T : SX10) (x1 : Int32) (x2 : Int32) (x3 : Int32) (x4 : Int32) (rc13 : Int32 × Int32 × Int32 → Option (Int32)) (rc35 : Int32 × Int32 → Option (Int32)) (z : Int32 × Int32) : Option (Int32) := m10_wetOnes_B35 T x1 x2 x3 x4 rc13 rc35 z.1 z.2
def m10_wetOnes_B13 (T : SX10) (x1 : Int32) (x2 : Int32) (rc13 : Int32 × Int32 × Int32 → Option (Int32)) (x3 : Int32) (x4 : Int32) (x5 : Int32) : Option (Int32) :=
  (if x5 = 0 then some x3
  else (if (13 : Int32) ≤ x4 then some x3
  else tnm (x4 + (1 : Int32)) (fun v2 => tit (m10_wetOnes_L35 T x1 x2 x3 x4 rc13) FU ((-6 : Int32), v2))))
def m10_wetOnes_L13 (T : SX10) (x1 : Int32) (x2 : Int32) (rc13 : Int32 × Int32 × Int32 → Option (Int32)) (z : Int32 × Int32 × Int32) : Option (Int32) := m10_wetOnes_B13 T x1 x2 rc13 z.1 z.2.1 z.2.2
def m10_wetOnes (T : SX10) (a1 : Int32) : Option (Int32) :=
  tnm (a1 / (10 : Int32)) (fun v1 => tit (m10_wetOnes_L13 T a1 v1) FU ((0 : Int32), (0 : Int32), (1 : Int32)))
def m10_felt_J54 (T : SX10) (y1 : Int32) (y2 : Int32) : Option (Int32 × SX10) :=
  tgd (tin y1 16) (some (((g10_sights T) + (1 : Int32)), (s10_sight (s10_sights T ((g10_sights T) + (1 : Int32))) (upd (g10_sight T) (Int32.toNatClampNeg y1) y2))))
def m10_felt (T : SX10) (a1 : Int32) (a2 : Int32) : Option (Int32 × SX10) :=
  tbd (m10_isRung a1) (fun r1 => (if r1 = 0 then some ((-1 : Int32), T)
  else (if (g10_sights T) = (8 : Int32) then some ((-4 : Int32), T)
  else tgd (tin ((2 : Int32) * (g10_sights T)) 16) ((if a2 = 0 then m10_felt_J54 (s10_sight T (upd (g10_sight T) (Int32.toNatClampNeg ((2 : Int32) * (g10_sights T))) a1)) (((2 : Int32) * (g10_sights T)) + (1 : Int32)) (0 : Int32)
  else m10_felt_J54 (s10_sight T (upd (g10_sight T) (Int32.toNatClampNeg ((2 : Int32) * (g10_sights T))) a1)) (((2 : Int32) * (g10_sights T)) + (1 : Int32)) (1 : Int32))))))
def m10_forget (T : SX10) : Option (Int32 × SX10) :=
  tnm (g10_sights T) (fun v1 => some (v1, (s10_sights T (0 : Int32))))
def m10_isFit_J63 (T : SX10) (x1 : Int32) (x3 : Int32) (y0 : Int32) (y1 : Int32) (rc16 : Int32 × Int32 → Option (Int32)) : Option (Int32) :=
  (if y0 = y1 then tnm (x3 + (1 : Int32)) (fun v6 => rc16 ((1 : Int32), v6))
  else tnm (x3 + (1 : Int32)) (fun v5 => rc16 ((0 : Int32), v5)))
def m10_isFit_B16 (T : SX10) (x1 : Int32) (rc16 : Int32 × Int32 → Option (Int32)) (x2 : Int32) (x3 : Int32) : Option (Int32) :=
  (if (g10_sights T) ≤ x3 then tgd (tbl x2) (some x2)
  else (if x2 = 0 then tgd (tbl x2) (some x2)
  else tbd (m10_wetOnes T x1) (fun r1 => tgd (tin ((2 : Int32) * x3) 16) (tbd (m10_has r1 ((g10_sight T) (Int32.toNatClampNeg ((2 : Int32) * x3)))) (fun r3 => tgd (tin (((2 : Int32) * x3) + (1 : Int32)) 16) ((if ((g10_sight T) (Int32.toNatClampNeg (((2 : Int32) * x3) + (1 : Int32)))) = (1 : Int32) then m10_isFit_J63 T x1 x3 r3 (1 : Int32) rc16
  else m10_isFit_J63 T x1 x3 r3 (0 : Int32) rc16)))))))
def m10_isFit_L16 (T : SX10) (x1 : Int32) (rc16 : Int32 × Int32 → Option (Int32)) (z : Int32 × Int32) : Option (Int32) := m10_isFit_B16 T x1 rc16 z.1 z.2
def m10_isFit (T : SX10) (a1 : Int32) : Option (Int32) :=
  (if (2 : Int32) ≤ (irem a1 (10 : Int32)) then tit (m10_isFit_L16 T a1) FU ((0 : Int32), (0 : Int32))
  else tit (m10_isFit_L16 T a1) FU ((1 : Int32), (0 : Int32)))
def m10_ups_B8 (T : SX10) (x1 : Int32) (rc8 : Int32 × Int32 → Option (Int32 × SX10)) (x2 : Int32) (x3 : Int32) : Option (Int32 × SX10) :=
  (if (60 : Int32) ≤ x3 then (if x1 = (-1 : Int32) then some (x2, T)
  else some ((-6 : Int32), T))
  else tbd (m10_isFit T x3) (fun r3 => (if r3 = 0 then tnm (x3 + (1 : Int32)) (fun v5 => rc8 (x2, v5))
  else (if x2 = x1 then some (x3, T)
  else tnm (x2 + (1 : Int32)) (fun v6 => tnm (x3 + (1 : Int32)) (fun v7 => rc8 (v6, v7)))))))
def m10_ups_L8 (T : SX10) (x1 : Int32) (rc8 : Int32 × Int32 → Option (Int32 × SX10)) (z : Int32 × Int32) : Option (Int32 × SX10) := m10_ups_B8 T x1 rc8 z.1 z.2
def m10_ups (T : SX10) (a1 : Int32) : Option (Int32 × SX10) :=
  tbd (m10_asNow T) (fun r1 => tit (m10_ups_L8 r1 a1) FU ((0 : Int32), (0 : Int32)))
def m10_ask_J157 (T : SX10) (x1 : Int32) (x3 : Int32) (x4 : Int32) (x7 : Int32) (x8 : Int32) (y0 : Int32) (rc25 : Int32 × Int32 × Int32 → Option (Int32 × SX10)) : Option (Int32 × SX10) :=
  (if x8 = 0 then tnm (x4 + (1 : Int32)) (fun v5 => rc25 (y0, x3, v5))
  else tnm (x4 + (1 : Int32)) (fun v6 => rc25 (y0, x7, v6)))
def m10_ask_J144 (T : SX10) (x1 : Int32) (x2 : Int32) (x3 : Int32) (x4 : Int32) (x7 : Int32) (y0 : Int32) (rc25 : Int32 × Int32 × Int32 → Option (Int32 × SX10)) : Option (Int32 × SX10) :=
  (if y0 = 0 then m10_ask_J157 T x1 x3 x4 x7 y0 x2 rc25
  else m10_ask_J157 T x1 x3 x4 x7 y0 x4 rc25)
def m10_ask_J143 (T : SX10) (x1 : Int32) (x2 : Int32) (x3 : Int32) (x4 : Int32) (x7 : Int32) (rc25 : Int32 × Int32 × Int32 → Option (Int32 × SX10)) : Option (Int32 × SX10) :=
  m10_ask_J144 T x1 x2 x3 x4 x7 (0 : Int32) rc25
def m10_ask_J126 (T : SX10) (x1 : Int32) (x2 : Int32) (x3 : Int32) (x4 : Int32) (x5 : Int32) (y0 : Int32) (rc25 : Int32 × Int32 × Int32 → Option (Int32 × SX10)) : Option (Int32 × SX10) :=
  (if x5 ≤ 0 then m10_ask_J143 T x1 x2 x3 x4 y0 rc25
  else (if x3 ≤ y0 then m10_ask_J143 T x1 x2 x3 x4 y0 rc25
  else m10_ask_J144 T x1 x2 x3 x4 y0 (1 : Int32) rc25))
def m10_ask_J97 (T : SX10) (x1 : Int32) (x2 : Int32) (x3 : Int32) (x4 : Int32) (x5 : Int32) (x7 : Int32) (y0 : Int32) (y1 : Int32) (rc25 : Int32 × Int32 × Int32 → Option (Int32 × SX10)) (rc41 : Int32 × Int32 × Int32 → Option (Int32 × SX10)) : Option (Int32 × SX10) :=
  tnm (y0 + y1) (fun v10 => tnm (x7 + (1 : Int32)) (fun v11 => rc41 (x5, v10, v11)))
def m10_ask_J96 (T : SX10) (x1 : Int32) (x2 : Int32) (x3 : Int32) (x4 : Int32) (x5 : Int32) (x7 : Int32) (y0 : Int32) (rc25 : Int32 × Int32 × Int32 → Option (Int32 × SX10)) (rc41 : Int32 × Int32 × Int32 → Option (Int32 × SX10)) : Option (Int32 × SX10) :=
  m10_ask_J97 T x1 x2 x3 x4 x5 x7 y0 (0 : Int32) rc25 rc41
def m10_ask_J68 (T : SX10) (x1 : Int32) (x2 : Int32) (x3 : Int32) (x4 : Int32) (x6 : Int32) (x7 : Int32) (x8 : Int32) (y0 : Int32) (y1 : Int32) (rc25 : Int32 × Int32 × Int32 → Option (Int32 × SX10)) (rc41 : Int32 × Int32 × Int32 → Option (Int32 × SX10)) : Option (Int32 × SX10) :=
  tnm (y0 + y1) (fun v9 => (if x8 = 0 then m10_ask_J96 T x1 x2 x3 x4 v9 x7 x6 rc25 rc41
  else tbd (m10_wetOnes T x7) (fun r12 => tbd (m10_has r12 x4) (fun r14 => (if r14 = 0 then m10_ask_J96 T x1 x2 x3 x4 v9 x7 x6 rc25 rc41
  else m10_ask_J97 T x1 x2 x3 x4 v9 x7 x6 (1 : Int32) rc25 rc41)))))
def m10_ask_B41 (T : SX10) (x1 : Int32) (x2 : Int32) (x3 : Int32) (x4 : Int32) (rc25 : Int32 × Int32 × Int32 → Option (Int32 × SX10)) (rc41 : Int32 × Int32 × Int32 → Option (Int32 × SX10)) (x5 : Int32) (x6 : Int32) (x7 : Int32) : Option (Int32 × SX10) :=
  (if (60 : Int32) ≤ x7 then (if x6 ≤ (x5 - x6) then m10_ask_J126 T x1 x2 x3 x4 x5 (x5 - x6) rc25
  else m10_ask_J126 T x1 x2 x3 x4 x5 x6 rc25)
  else tbd (m10_isFit T x7) (fun r7 => (if r7 = 0 then m10_ask_J68 T x1 x2 x3 x4 x6 x7 r7 x5 (0 : Int32) rc25 rc41
  else m10_ask_J68 T x1 x2 x3 x4 x6 x7 r7 x5 (1 : Int32) rc25 rc41)))
def m10_ask_L41 (T : SX10) (x1 : Int32) (x2 : Int32) (x3 : Int32) (x4 : Int32) (rc25 : Int32 × Int32 × Int32 → Option (Int32 × SX10)) (rc41 : Int32 × Int32 × Int32 → Option (Int32 × SX10)) (z : Int32 × Int32 × Int32) : Option (Int32 × SX10) := m10_ask_B41 T x1 x2 x3 x4 rc25 rc41 z.1 z.2.1 z.2.2
def m10_ask_B25 (T : SX10) (x1 : Int32) (rc25 : Int32 × Int32 × Int32 → Option (Int32 × SX10)) (x2 : Int32) (x3 : Int32) (x4 : Int32) : Option (Int32 × SX10) :=
  (if (13 : Int32) ≤ x4 then (if x2 < 0 then some (x2, T)
  else (if x1 = 0 then some (x2, T)
  else some (x3, T)))
  else tit (m10_ask_L41 T x1 x2 x3 x4 rc25) FU ((0 : Int32), (0 : Int32), (0 : Int32)))
def m10_ask_L25 (T : SX10) (x1 : Int32) (rc25 : Int32 × Int32 × Int32 → Option (Int32 × SX10)) (z : Int32 × Int32 × Int32) : Option (Int32 × SX10) := m10_ask_B25 T x1 rc25 z.1 z.2.1 z.2.2
def m10_ask (T : SX10) (a1 : Int32) : Option (Int32 × SX10) :=
  tbd (m10_in a1 (0 : Int32) (1 : Int32)) (fun r1 => (if r1 = 0 then some ((-2 : Int32), T)
  else tbd (m10_asNow T) (fun r3 => tit (m10_ask_L25 r3 a1) FU ((-6 : Int32), (1000000 : Int32), (1 : Int32)))))
def m10_firstDown_J84 (T : SX10) (x1 : Int32) (x2 : Int32) (x3 : Int32) (rc2 : Int32 → Option (Int32)) : Option (Int32) :=
  (if x3 ≤ 0 then tnm (x2 + (1 : Int32)) (fun v5 => rc2 v5)
  else some x3)
def m10_firstDown_B26 (T : SX10) (x1 : Int32) (x2 : Int32) (rc2 : Int32 → Option (Int32)) (rc26 : Int32 × Int32 → Option (Int32)) (x3 : Int32) (x4 : Int32) : Option (Int32) :=
  (if x4 ≤ 0 then m10_firstDown_J84 T x1 x2 x3 rc2
  else tbd (m10_has x1 (x4 - (1 : Int32))) (fun r6 => (if r6 = 0 then tgd (tin ((x1 &&& (((1 : Int32) <<< ((x2 - (1 : Int32)) &&& 31)) ^^^ (-1 : Int32))) ||| ((1 : Int32) <<< ((x4 - (1 : Int32)) &&& 31))) 4096) ((if ((g10_wins T) (Int32.toNatClampNeg ((x1 &&& (((1 : Int32) <<< ((x2 - (1 : Int32)) &&& 31)) ^^^ (-1 : Int32))) ||| ((1 : Int32) <<< ((x4 - (1 : Int32)) &&& 31))))) = 0 then tnm (((100 : Int32) * x2) + x4) (fun v8 => tnm (x4 + (-1 : Int32)) (fun v9 => rc26 (v8, v9)))
  else tnm (x4 + (-1 : Int32)) (fun v10 => rc26 (x3, v10))))
  else m10_firstDown_J84 T x1 x2 x3 rc2)))
def m10_firstDown_L26 (T : SX10) (x1 : Int32) (x2 : Int32) (rc2 : Int32 → Option (Int32)) (rc26 : Int32 × Int32 → Option (Int32)) (z : Int32 × Int32) : Option (Int32) := m10_firstDown_B26 T x1 x2 rc2 rc26 z.1 z.2
def m10_firstDown_B2 (T : SX10) (x1 : Int32) (rc2 : Int32 → Option (Int32)) (x2 : Int32) : Option (Int32) :=
  (if (13 : Int32) ≤ x2 then some (-6 : Int32)
  else tbd (m10_has x1 (x2 - (1 : Int32))) (fun r1 => (if r1 = 0 then tnm (x2 + (1 : Int32)) (fun v3 => rc2 v3)
  else tnm (x2 - (1 : Int32)) (fun v4 => tit (m10_firstDown_L26 T x1 x2 rc2) FU ((-6 : Int32), v4)))))
def m10_firstDown_L2 (T : SX10) (x1 : Int32) (rc2 : Int32 → Option (Int32)) (z : Int32) : Option (Int32) := m10_firstDown_B2 T x1 rc2 z
def m10_firstDown (T : SX10) (a1 : Int32) : Option (Int32) :=
  tit (m10_firstDown_L2 T a1) FU (2 : Int32)
def m10_down_B25 (x1 : Int32) (x2 : Int32) (rc25 : Int32 × SX10 → Option (Int32 × SX10)) (x3 : Int32) (T : SX10) : Option (Int32 × SX10) :=
  (if x1 ≤ x3 then tbd (m10_firstDown T x1) (fun r5 => (if x2 = (1 : Int32) then some (r5, T)
  else (if 0 ≤ r5 then some ((1 : Int32), T)
  else some ((0 : Int32), T))))
  else tbd (m10_firstDown T x3) (fun r7 => (if r7 ≤ 0 then tgd (tin x3 4096) (tnm (x3 + (1 : Int32)) (fun v9 => rc25 (v9, (s10_wins T (upd (g10_wins T) (Int32.toNatClampNeg x3) (vp_nar .boolean (0 : Int32)))))))
  else tgd (tin x3 4096) (tnm (x3 + (1 : Int32)) (fun v10 => rc25 (v10, (s10_wins T (upd (g10_wins T) (Int32.toNatClampNeg x3) (vp_nar .boolean (1 : Int32))))))))))
def m10_down_L25 (x1 : Int32) (x2 : Int32) (rc25 : Int32 × SX10 → Option (Int32 × SX10)) (z : Int32 × SX10) : Option (Int32 × SX10) := m10_down_B25 x1 x2 rc25 z.1 z.2
def m10_down (T : SX10) (a1 : Int32) (a2 : Int32) : Option (Int32 × SX10) :=
  tbd (m10_in a1 (0 : Int32) (4095 : Int32)) (fun r1 => (if r1 = 0 then some ((-2 : Int32), T)
  else tbd (m10_in a2 (0 : Int32) (1 : Int32)) (fun r3 => (if r3 = 0 then some ((-2 : Int32), T)
  else tit (m10_down_L25 a1 a2) FU ((0 : Int32), T)))))
def m10_foot_B206 (T : SX10) (x4 : Int32) (x5 : Int64) (x7 : Int64) (rc206 : Int64 × Int64 → Option (Int64 × SX10)) (x9 : Int64) (x11 : Int64) : Option (Int64 × SX10) :=
  (if (lg_cmp x11 (0 : Int64)) = 0 then (if x4 = 0 then tgd (tnzl x9) (some ((x7 / x9), T))
  else tgd (tnzl x9) (some ((x5 / x9), T)))
  else tgd (tnzl x11) (tnm (lrem x9 x11) (fun v13 => tnm x11 (fun v14 => tnm v13 (fun v15 => rc206 (v14, v15))))))
def m10_foot_L206 (T : SX10) (x4 : Int32) (x5 : Int64) (x7 : Int64) (rc206 : Int64 × Int64 → Option (Int64 × SX10)) (z : Int64 × Int64) : Option (Int64 × SX10) := m10_foot_B206 T x4 x5 x7 rc206 z.1 z.2
def m10_foot_J196 (T : SX10) (x4 : Int32) (x5 : Int64) (y0 : Int64) : Option (Int64 × SX10) :=
  tnm y0 (fun v10 => tnm v10 (fun v11 => tnm x5 (fun v12 => tit (m10_foot_L206 T x4 x5 v10) FU (v11, v12))))
def m10_foot_B99 (x1 : Int32) (x2 : Int32) (x3 : Int32) (x4 : Int32) (x5 : Int64) (x7 : Int32) (rc63 : Int64 × Int32 × SX10 → Option (Int64 × SX10)) (rc99 : Int64 × Int32 × SX10 → Option (Int64 × SX10)) (x8 : Int64) (x10 : Int32) (T : SX10) : Option (Int64 × SX10) :=
  (if x1 < x10 then tnm (x7 + (1 : Int32)) (fun v18 => rc63 (x5, v18, T))
  else (if x7 < x10 then tnm (x7 + (1 : Int32)) (fun v19 => rc63 (x5, v19, T))
  else tgd (tin x7 13) (tgd (tin (x7 - x10) 13) (tgd (tin x7 13) (tgd (tin x7 13) (tgd (tin (x7 - x10) 13) (tgd (tin x7 13) (tnm (x8 * (Int32.toInt64 x1)) (fun v20 => tnm (x10 + (1 : Int32)) (fun v21 => rc99 (v20, v21, (s10_means (s10_odds T (vp_updL (g10_odds T) (Int32.toNatClampNeg x7) (((g10_odds T) (Int32.toNatClampNeg x7)) + (((g10_odds T) (Int32.toNatClampNeg (x7 - x10))) * x8)))) (vp_updL (g10_means T) (Int32.toNatClampNeg x7) (((g10_means T) (Int32.toNatClampNeg x7)) + (((g10_means T) (Int32.toNatClampNeg (x7 - x10))) * x8)))))))))))))))
def m10_foot_L99 (x1 : Int32) (x2 : Int32) (x3 : Int32) (x4 : Int32) (x5 : Int64) (x7 : Int32) (rc63 : Int64 × Int32 × SX10 → Option (Int64 × SX10)) (rc99 : Int64 × Int32 × SX10 → Option (Int64 × SX10)) (z : Int64 × Int32 × SX10) : Option (Int64 × SX10) := m10_foot_B99 x1 x2 x3 x4 x5 x7 rc63 rc99 z.1 z.2.1 z.2.2
def m10_foot_B63 (x1 : Int32) (x2 : Int32) (x3 : Int32) (x4 : Int32) (rc63 : Int64 × Int32 × SX10 → Option (Int64 × SX10)) (x5 : Int64) (x7 : Int32) (T : SX10) : Option (Int64 × SX10) :=
  (if x2 < x7 then (if x3 = 0 then tgd (tin x2 13) (m10_foot_J196 T x4 x5 ((g10_odds T) (Int32.toNatClampNeg x2)))
  else tgd (tin x2 13) (m10_foot_J196 T x4 x5 ((g10_means T) (Int32.toNatClampNeg x2))))
  else tnm (x5 * (Int32.toInt64 x1)) (fun v16 => tgd (tin x7 13) (tgd (tin x7 13) (tnm (1 : Int64) (fun v17 => tit (m10_foot_L99 x1 x2 x3 x4 v16 x7 rc63) FU (v17, (1 : Int32), (s10_means (s10_odds T (vp_updL (g10_odds T) (Int32.toNatClampNeg x7) (0 : Int64))) (vp_updL (g10_means T) (Int32.toNatClampNeg x7) v16))))))))
def m10_foot_L63 (x1 : Int32) (x2 : Int32) (x3 : Int32) (x4 : Int32) (rc63 : Int64 × Int32 × SX10 → Option (Int64 × SX10)) (z : Int64 × Int32 × SX10) : Option (Int64 × SX10) := m10_foot_B63 x1 x2 x3 x4 rc63 z.1 z.2.1 z.2.2
def m10_foot (T : SX10) (a1 : Int32) (a2 : Int32) (a3 : Int32) (a4 : Int32) : Option (Int64 × SX10) :=
  tbd (m10_isRung a2) (fun r1 => (if r1 = 0 then some ((-1000000000000000001 : Int64), T)
  else tbd (m10_in a1 (1 : Int32) (4 : Int32)) (fun r3 => (if r3 = 0 then some ((-1000000000000000002 : Int64), T)
  else tbd (m10_in a3 (0 : Int32) (1 : Int32)) (fun r5 => (if r5 = 0 then some ((-1000000000000000002 : Int64), T)
  else tbd (m10_in a4 (0 : Int32) (1 : Int32)) (fun r7 => (if r7 = 0 then some ((-1000000000000000002 : Int64), T)
  else tnm (1 : Int64) (fun v9 => tit (m10_foot_L63 a1 a2 a3 a4) FU (v9, (1 : Int32), (s10_means (s10_odds T (vp_updL (g10_odds T) (Int32.toNatClampNeg (0 : Int32)) (1 : Int64))) (vp_updL (g10_means T) (Int32.toNatClampNeg (0 : Int32)) (0 : Int64)))))))))))))
def m10_year_J241 (T : SX10) (x2 : Int32) (x3 : Int32) (x4 : Int32) (x5 : Int32) (y2 : Int32) (y3 : Int32) (rc43 : Int32 × Int32 × SX10 → Option (Int32 × SX10)) : Option (Int32 × SX10) :=
  tbd (m10_lose T y2 y3) (fun r18 => tnm (x5 + (1 : Int32)) (fun v20 => rc43 (x4, v20, (s10_reason r18.2 r18.1))))
def m10_year_J176 (T : SX10) (x2 : Int32) (x3 : Int32) (x4 : Int32) (x5 : Int32) (y2 : Int32) (y3 : Int32) (rc43 : Int32 × Int32 × SX10 → Option (Int32 × SX10)) : Option (Int32 × SX10) :=
  tbd (m10_goTo T y2 y3) (fun r25 => tnm (x5 + (1 : Int32)) (fun v27 => rc43 (x4, v27, (s10_reason r25.2 r25.1))))
def m10_year_J147 (T : SX10) (x2 : Int32) (x3 : Int32) (x4 : Int32) (x5 : Int32) (x6 : Int32) (y0 : Int32) (rc43 : Int32 × Int32 × SX10 → Option (Int32 × SX10)) : Option (Int32 × SX10) :=
  (if 0 ≤ y0 then (if y0 ≤ (13 : Int32) then m10_year_J176 T x2 x3 x4 x5 x6 y0 rc43
  else m10_year_J176 T x2 x3 x4 x5 x6 (13 : Int32) rc43)
  else m10_year_J176 T x2 x3 x4 x5 x6 (0 : Int32) rc43)
def m10_year_B43 (x2 : Int32) (x3 : Int32) (rc43 : Int32 × Int32 × SX10 → Option (Int32 × SX10)) (x4 : Int32) (x5 : Int32) (T : SX10) : Option (Int32 × SX10) :=
  (if x2 ≤ x5 then (if x3 = 0 then tbd (m10_roof T) (fun r9 => some (r9, T))
  else (if x3 = (1 : Int32) then some (((g10_now T) (Int32.toNatClampNeg (32 : Int32))), T)
  else some ((g10_steps T), T)))
  else tnm (irem (((75 : Int32) * x4) + (74 : Int32)) (65537 : Int32)) (fun v11 => tnm (irem v11 (6 : Int32)) (fun v12 => tnm (irem (v11 / (6 : Int32)) (8 : Int32)) (fun v13 => tnm (v11 / (48 : Int32)) (fun v14 => (if (4 : Int32) ≤ v13 then (if v13 = (4 : Int32) then tbd (m10_leaseTo T v12 ((1 : Int32) + (irem v14 (12 : Int32)))) (fun r21 => tnm (x5 + (1 : Int32)) (fun v23 => rc43 (v11, v23, (s10_reason r21.2 r21.1))))
  else (if v13 = (5 : Int32) then (if (irem (v14 / (12 : Int32)) (2 : Int32)) = 0 then m10_year_J241 T x2 x3 v11 x5 ((1 : Int32) + (irem v14 (12 : Int32))) (1 : Int32) rc43
  else m10_year_J241 T x2 x3 v11 x5 ((1 : Int32) + (irem v14 (12 : Int32))) (0 : Int32) rc43)
  else tbd (m10_endBeat T) (fun r15 => tnm (x5 + (1 : Int32)) (fun v17 => rc43 (v11, v17, (s10_reason r15.2 r15.1))))))
  else tgd (tin ((26 : Int32) + v12) 47) (tgd (tnz ((g10_now T) (Int32.toNatClampNeg ((26 : Int32) + v12)))) (tnm ((1 : Int32) + (irem v14 ((g10_now T) (Int32.toNatClampNeg ((26 : Int32) + v12))))) (fun v24 => (if (irem (v14 / (4 : Int32)) (4 : Int32)) = 0 then tgd (tin ((38 : Int32) + v12) 47) (m10_year_J147 T x2 x3 v11 x5 v12 (((g10_now T) (Int32.toNatClampNeg ((38 : Int32) + v12))) - v24) rc43)
  else tgd (tin ((38 : Int32) + v12) 47) (m10_year_J147 T x2 x3 v11 x5 v12 (((g10_now T) (Int32.toNatClampNeg ((38 : Int32) + v12))) + v24) rc43)))))))))))
def m10_year_L43 (x2 : Int32) (x3 : Int32) (rc43 : Int32 × Int32 × SX10 → Option (Int32 × SX10)) (z : Int32 × Int32 × SX10) : Option (Int32 × SX10) := m10_year_B43 x2 x3 rc43 z.1 z.2.1 z.2.2
def m10_year (T : SX10) (a1 : Int32) (a2 : Int32) (a3 : Int32) : Option (Int32 × SX10) :=
  tbd (m10_in a1 (0 : Int32) (9999 : Int32)) (fun r1 => (if r1 = 0 then some ((-2 : Int32), T)
  else tbd (m10_in a2 (1 : Int32) (99 : Int32)) (fun r3 => (if r3 = 0 then some ((-2 : Int32), T)
  else tbd (m10_in a3 (0 : Int32) (2 : Int32)) (fun r5 => (if r5 = 0 then some ((-2 : Int32), T)
  else tbd (m10_asNow T) (fun r7 => tit (m10_year_L43 a2 a3) FU (a1, (0 : Int32), r7))))))))
def m10_image_B47 (x1 : Int32) (x2 : Int32) (rc47 : Int32 × SX10 → Option (Int32 × SX10)) (x3 : Int32) (T : SX10) : Option (Int32 × SX10) :=
  (if (16 : Int32) ≤ x3 then tgd (tin (x2 + (64 : Int32)) 140) (tgd (tin x1 2) (some ((1 : Int32), (s10_isKept (s10_image T (upd (g10_image T) (Int32.toNatClampNeg (x2 + (64 : Int32))) (g10_sights T))) (upd (g10_isKept T) (Int32.toNatClampNeg x1) (vp_nar .boolean (1 : Int32)))))))
  else tgd (tin x3 16) (tgd (tin ((x2 + (47 : Int32)) + x3) 140) (tnm (x3 + (1 : Int32)) (fun v4 => rc47 (v4, (s10_image T (upd (g10_image T) (Int32.toNatClampNeg ((x2 + (47 : Int32)) + x3)) ((g10_sight T) (Int32.toNatClampNeg x3)))))))))
def m10_image_L47 (x1 : Int32) (x2 : Int32) (rc47 : Int32 × SX10 → Option (Int32 × SX10)) (z : Int32 × SX10) : Option (Int32 × SX10) := m10_image_B47 x1 x2 rc47 z.1 z.2
def m10_image_B19 (x1 : Int32) (x2 : Int32) (rc19 : Int32 × SX10 → Option (Int32 × SX10)) (x3 : Int32) (T : SX10) : Option (Int32 × SX10) :=
  (if (47 : Int32) ≤ x3 then tit (m10_image_L47 x1 x2) FU ((0 : Int32), T)
  else tgd (tin x3 47) (tgd (tin (x2 + x3) 140) (tnm (x3 + (1 : Int32)) (fun v5 => rc19 (v5, (s10_image T (upd (g10_image T) (Int32.toNatClampNeg (x2 + x3)) ((g10_book T) (Int32.toNatClampNeg x3)))))))))
def m10_image_L19 (x1 : Int32) (x2 : Int32) (rc19 : Int32 × SX10 → Option (Int32 × SX10)) (z : Int32 × SX10) : Option (Int32 × SX10) := m10_image_B19 x1 x2 rc19 z.1 z.2
def m10_image (T : SX10) (a1 : Int32) : Option (Int32 × SX10) :=
  tbd (m10_in a1 (0 : Int32) (1 : Int32)) (fun r1 => (if r1 = 0 then some ((-2 : Int32), T)
  else tnm ((70 : Int32) * a1) (fun v3 => tit (m10_image_L19 a1 v3) FU ((0 : Int32), T))))
def m10_restore_B59 (x2 : Int32) (rc59 : Int32 × SX10 → Option (Int32 × SX10)) (x3 : Int32) (T : SX10) : Option (Int32 × SX10) :=
  (if (16 : Int32) ≤ x3 then tgd (tin (x2 + (64 : Int32)) 140) (some ((1 : Int32), (s10_sights T ((g10_image T) (Int32.toNatClampNeg (x2 + (64 : Int32)))))))
  else tgd (tin ((x2 + (47 : Int32)) + x3) 140) (tgd (tin x3 16) (tnm (x3 + (1 : Int32)) (fun v4 => rc59 (v4, (s10_sight T (upd (g10_sight T) (Int32.toNatClampNeg x3) ((g10_image T) (Int32.toNatClampNeg ((x2 + (47 : Int32)) + x3))))))))))
def m10_restore_L59 (x2 : Int32) (rc59 : Int32 × SX10 → Option (Int32 × SX10)) (z : Int32 × SX10) : Option (Int32 × SX10) := m10_restore_B59 x2 rc59 z.1 z.2
def m10_restore_B31 (x2 : Int32) (rc31 : Int32 × SX10 → Option (Int32 × SX10)) (x3 : Int32) (T : SX10) : Option (Int32 × SX10) :=
  (if (47 : Int32) ≤ x3 then tit (m10_restore_L59 x2) FU ((0 : Int32), T)
  else tgd (tin (x2 + x3) 140) (tgd (tin x3 47) (tnm (x3 + (1 : Int32)) (fun v5 => rc31 (v5, (s10_book T (upd (g10_book T) (Int32.toNatClampNeg x3) ((g10_image T) (Int32.toNatClampNeg (x2 + x3))))))))))
def m10_restore_L31 (x2 : Int32) (rc31 : Int32 × SX10 → Option (Int32 × SX10)) (z : Int32 × SX10) : Option (Int32 × SX10) := m10_restore_B31 x2 rc31 z.1 z.2
def m10_restore (T : SX10) (a1 : Int32) : Option (Int32 × SX10) :=
  tbd (m10_in a1 (0 : Int32) (1 : Int32)) (fun r1 => (if r1 = 0 then some ((-2 : Int32), T)
  else tgd (tin a1 2) ((if ((g10_isKept T) (Int32.toNatClampNeg a1)) = 0 then some ((-3 : Int32), T)
  else tnm ((70 : Int32) * a1) (fun v3 => tit (m10_restore_L31 v3) FU ((0 : Int32), T))))))
def m10_told_J27 (T : SX10) (x1 : Int32) (y0 : Int32) : Option (Int32 × SX10) :=
  tbd (m10_isRung y0) (fun r8 => (if r8 = 0 then some ((-2 : Int32), T)
  else (if x1 < (60 : Int32) then tgd (tin y0 47) (some (((g10_book T) (Int32.toNatClampNeg y0)), T))
  else tgd (tin ((13 : Int32) + y0) 47) (some (((g10_book T) (Int32.toNatClampNeg ((13 : Int32) + y0))), T)))))
def m10_told (T : SX10) (a1 : Int32) : Option (Int32 × SX10) :=
  tbd (m10_asNow T) (fun r1 => (if a1 < (40 : Int32) then (if a1 < (10 : Int32) then (if a1 = 0 then some ((g10_signs r1), r1)
  else (if a1 = 1 then some (((g10_book r1) (Int32.toNatClampNeg (46 : Int32))), r1)
  else (if a1 = 2 then tbd (m10_roof r1) (fun r3 => some (r3, r1))
  else (if a1 = 3 then some (((g10_book r1) (Int32.toNatClampNeg (44 : Int32))), r1)
  else (if a1 = 4 then some ((((g10_book r1) (Int32.toNatClampNeg (45 : Int32))) >>> ((1 : Int32) &&& 31)), r1)
  else (if a1 = (5 : Int32) then some ((g10_sights r1), r1)
  else some ((-2 : Int32), r1)))))))
  else tnm (irem a1 (10 : Int32)) (fun v5 => tbd (m10_isMan v5) (fun r6 => (if r6 = 0 then some ((-2 : Int32), r1)
  else (if (20 : Int32) ≤ a1 then (if (30 : Int32) ≤ a1 then tgd (tin ((26 : Int32) + v5) 47) (some (((g10_book r1) (Int32.toNatClampNeg ((26 : Int32) + v5))), r1))
  else tgd (tin ((32 : Int32) + v5) 47) (some (((g10_book r1) (Int32.toNatClampNeg ((32 : Int32) + v5))), r1)))
  else tgd (tin ((38 : Int32) + v5) 47) (some (((g10_book r1) (Int32.toNatClampNeg ((38 : Int32) + v5))), r1)))))))
  else (if a1 < (60 : Int32) then m10_told_J27 r1 a1 (a1 - (40 : Int32))
  else m10_told_J27 r1 a1 (a1 - (60 : Int32)))))
end
section
/-! what makes cells: constructors, new rows -/
def QA {X : Type} (G : gG) (v : Option Value) (wf : X → va_W) (A : Nat → Prop) : Array Value → State → Outcome → State → Prop := fun _ st oc t => (oc = .returned v ∧ ∃ x : X, va_P G.1 vwCl (wf x) t.heap ∧ va_D A (wf x)) ∧ va_F A st t
def KA {X : Type} (l : Launch) (G : gG) (y : MethodName) (cc : ByteArray) (nL : Nat) (ret : Option FieldType) (fr lo mc ms : Nat) (av : List Value) (w : va_W) (v : Option Value) (wf : X → va_W) : Prop :=
  ∀ sz : Nat, Met l y (wq y cc nL ret) (rqa fr lo mc ms) (Pk G av w sz) (QA G v wf (va_A w sz)) mc ms (va_A w sz)
/-- new of a class, as a pool entry names it: what it holds at first -/
def NW (own : String) (index ci N : Nat) (fs : List Value) : Prop := ∃ (Cn : String) (T : u_T) (ty : Nat → FieldType), vwCl[ci]? = some (Cn, T, N) ∧ (∀ x ∈ u_ws Cn T N, x ∈ wsL_law) ∧ (∀ k, k < N → parseFieldDescriptor (T k).2.2.1 = some (ty k)) ∧ Cond.classLink own index Cn ∈ wsL_law ∧ Cond.instantiable Cn N ∈ wsL_law ∧ Cond.initialized Cn ∈ wsL_law ∧ ∀ j, j < N → defaultValue (ty j) = vp_V fs j
section
variable {p : Program} {l : Launch} {e : Env} {R : Room} {s : State} {m : MethodId} {args : Array Value} {below : List Frame} {meth : Method} {c : Code} {G : gG} {A : Nat → Prop} {own : String} {cc : ByteArray} {nL cs sl : Nat} {ret : Option FieldType} {Q : State → Prop} {pc : Nat} {lv : List (Nat × Value)} {st st0 : List Value} {w : va_W}
  {y : MethodName} {cy : ByteArray} {ny : Nat} {rt : Option FieldType} {np fr lo idx : Nat} {av : List Value} {wc wr w' : va_W} {v : Option Value}
theorem KA_intro {X : Type} {mc ms : Nat} {wf : X → va_W} {lv0 : List (Nat × Value)} (hy : plainName y.cls = true) (hown : y.cls = own) (hn : (lg_sl av).length ≤ nL) (hlv : lv_args 0 av = lv0)
    (body : ∀ (p : Program) (e : Env) (s : State) (m : MethodId) (args : Array Value) (below : List Frame) (meth : Method) (c : Code) (A : Nat → Prop), Cx p e s m args meth c G own cc nL ret A → meth.name = y.name → Gq p l e (rqa fr lo mc ms) s m args below meth c G A nL 0 0 (MQ below (QA G v wf A) args s mc ms A) 0 lv0 [] w) :
    KA l G y cc nL ret fr lo mc ms av w v wf := by
  intro sz
  refine Met.ofW (cc := cc) (maxL := nL) (ret := ret) hy rfl ?_
  intro p e s m args below meth c s₁ B hml hv
  obtain ⟨rfl, hsz, hP, hK, hD0⟩ := hv
  have hown1 : s.vm.findClass y.cls = some m.cls := findClass_of_methodNamed B.named
  have hts := atoms_spec (ws := wq y cc nL ret) B.pre
  have hin : meth.name = y.name := (name_of_methodNamed B.named B.method).1
  subst hsz
  have C : Cx p e s m av.toArray meth c G own cc nL ret (va_A w s.heap.size) := ⟨B.exec, B.bytes, hml, by rw [← hown]; exact hown1, fun x hx => hts x (List.mem_cons_of_mem _ hx), hK, fun q h => Or.inr h, B.returns, B.notSynchronized⟩
  have hl := lv_entry av (n := nL) hn
  rw [lg_entry_eq]
  generalize (lg_sl av ++ List.replicate (nL - (lg_sl av).length) Slot.unset).toArray = ls at hl ⊢
  rw [hlv] at hl
  exact body p e s m av.toArray below meth c _ C hin s.heap [] ls hP (hD0.self) va_S.rf hl
theorem go_w (h : w = w') (kk : Gq p l e R s m args below meth c G A nL cs sl Q pc lv st w') : Gq p l e R s m args below meth c G A nL cs sl Q pc lv st w := h ▸ kk
theorem go_widen {k n : Nat} (h1 : cs ≤ k) (h2 : sl ≤ n) (kk : Gq p l e R s m args below meth c G A nL k n Q pc lv st w) : Gq p l e R s m args below meth c G A nL cs sl Q pc lv st w :=
  fun H locs ls hP hD hS h => W.widen h1 h2 (kk H locs ls hP hD hS h)
theorem go_vretA {X : Type} (C : Cx p e s m args meth c G own cc nL none A) {wf : X → va_W} (hd : decode cc pc = .ok (.return_, 1)) (x : X) (hw : w = wf x) : Gq p l e R s m args below meth c G A nL cs sl (MQ below (QA G none wf A) args s cs sl A) pc lv [] w := by
  have hlocks := C.2.2.2.2.2.2.2.2
  exact fun H locs ls hP hD hS h => W.vret C.1 C.2.1 C.2.2.2.2.2.2.2.1 (fun t ht hW => ⟨⟨rfl, x, by rw [ht, ← hw]; exact hP, by rw [← hw]; exact hD⟩, hS.F ht⟩) hS.2.2 hd
theorem go_iretA {X : Type} (C : Cx p e s m args meth c G own cc nL (some .int) A) {wf : X → va_W} {i : Int32} (hd : decode cc pc = .ok (.ireturn, 1)) (x : X) (hv : v = some (.int i)) (hw : w = wf x) : Gq p l e R s m args below meth c G A nL cs sl (MQ below (QA G v wf A) args s cs sl A) pc lv [.int i] w := by
  subst hv
  have hlocks := C.2.2.2.2.2.2.2.2
  exact fun H locs ls hP hD hS h => W.iret C.1 C.2.1 C.2.2.2.2.2.2.2.1 (fun t ht hW => ⟨⟨rfl, x, by rw [ht, ← hw]; exact hP, by rw [← hw]; exact hD⟩, hS.F ht⟩) hS.2.2 hd
theorem go_objinit (C : Cx p e s m args meth c G own cc nL ret A) {a : Nat} (F : Cond.methodLink own idx objectInit ∈ wsL_law) (hd : decode cc pc = .ok (.invokespecial idx, 3)) (hf : 1 ≤ R.frames) (hlo : (st.map fun v => v.category).sum + 12 ≤ R.locals) (kk : Gq p l e R s m args below meth c G A nL cs sl Q (pc + 3) lv st w) : Gq p l e R s m args below meth c G A nL cs sl Q pc lv (.ref a :: st) w :=
  fun H locs ls hP hD hS h => W.objInit C.1 C.2.1 C.2.2.2.1 (C.2.2.2.2.1 _ F) (C.2.2.2.2.1 _ (wr1 _ (List.mem_of_getElem? (i := 10) rfl))) (C.2.2.2.2.1 _ (wr1 _ (List.mem_of_getElem? (i := 11) rfl))) rfl (by rw [C.2.2.1]; exact h.1) rfl hd hf (by show 2 * 0 + _ + 12 ≤ _; omega) (kk H locs ls hP hD hS h)
theorem go_new (C : Cx p e s m args meth c G own cc nL ret A) {ci N : Nat} {fs : List Value} (F : NW own idx ci N fs) (hd : decode cc pc = .ok (.new idx, 3)) (hc : cs + 1 ≤ R.cells) (hs : sl + N ≤ R.slots) (kk : ∀ q : Nat, Gq p l e R s m args below meth c G A nL (cs + 1) (sl + N) Q (pc + 3) lv (.ref q :: st) (w ++ [(q, .inr (ci, fs))])) : Gq p l e R s m args below meth c G A nL cs sl Q pc lv st w := by
  obtain ⟨Cn, T, ty, h1, h2, h3, h4, h5, h6, h7⟩ := F
  exact fun H locs ls hP hD hS h => va_new C.1 C.2.1 C.2.2.2.2.1 h2 ty h3 C.2.2.2.1 (C.2.2.2.2.1 _ h4) (C.2.2.2.2.1 _ h5) (C.2.2.2.2.1 _ h6) C.2.2.2.2.2.1.1 hP hD hS C.2.2.2.2.2.2.1 h1 h7 hc hs hd (fun q H1 hP hD hS => kk q H1 locs ls hP hD hS h)
theorem arr_same {s : State} {G : gG} {cA : ClassId} {ty : FieldType} {k : Nat} {cB : ClassId} (hK : va_K G.1 vwCl (gty G) s) (hK2 : va_K G.1 vwCl (gty G ++ [(cA, ty)]) s) (hk : (gty G)[k]? = some (cB, ty)) (hty : ∀ C, ty ≠ .object C) : cA = cB := by
  have h1 := (hK.2 k _ hk).2
  have h2 := (hK2.2 5 (cA, ty) rfl).2
  cases ty <;> first | exact absurd rfl (hty _) | exact Option.some.inj (h2.symm.trans h1)
theorem arr_sameO {s : State} {G : gG} {cA : ClassId} {C : String} {k : Nat} {cB : ClassId} (hK : va_K G.1 vwCl (gty G) s) (hK2 : va_K G.1 vwCl (gty G ++ [(cA, .object C)]) s) (hk : (gty G)[k]? = some (cB, .object C)) : cA = cB := by
  obtain ⟨_, _, _, _, _, h1⟩ := (hK.2 k _ hk).2
  obtain ⟨_, _, _, _, _, h2⟩ := (hK2.2 5 (cA, .object C) rfl).2
  exact Option.some.inj (h2.symm.trans h1)
theorem go_newI (C : Cx p e s m args meth c G own cc nL ret A) {i : Int32} {N : Nat} (hd : decode cc pc = .ok (.newarray .int, 2)) (hi : ¬ i < 0 ∧ i.toNatClampNeg = N ∧ N * 4 ≤ 536870912) (hc : cs + 1 ≤ R.cells) (hs : sl + N ≤ R.slots) (kk : ∀ q : Nat, Gq p l e R s m args below meth c G A nL (cs + 1) (sl + N) Q (pc + 2) lv (.ref q :: st) (w ++ [(q, .inl (gI G, N, .inl (fun _ => 0)))])) : Gq p l e R s m args below meth c G A nL cs sl Q pc lv (.int i :: st) w := by
  intro H locs ls hP hD hS h
  refine va_newa (atype := .int) (ty := .int) (a0 := (N, .inl (fun _ => 0))) C.1 C.2.1 (C.2.2.2.2.1 _ (wr3 _ (List.mem_of_getElem? (i := 1) rfl))) rfl C.2.2.2.2.2.1.1 hP hD hS C.2.2.2.2.2.2.1 (fun _ => rfl) hi.1 hi.2.1 hi.2.2 hc hs hd (fun q cA H1 hK2 hP hD hS => ?_)
  have e := arr_same C.2.2.2.2.2.1.1 hK2 (k := 1) rfl (fun C h => by cases h)
  subst e
  exact kk q H1 locs ls hP hD hS h
theorem go_newC (C : Cx p e s m args meth c G own cc nL ret A) {i : Int32} {N : Nat} (hd : decode cc pc = .ok (.newarray .char, 2)) (hi : ¬ i < 0 ∧ i.toNatClampNeg = N ∧ N * 2 ≤ 536870912) (hc : cs + 1 ≤ R.cells) (hs : sl + N ≤ R.slots) (kk : ∀ q : Nat, Gq p l e R s m args below meth c G A nL (cs + 1) (sl + N) Q (pc + 2) lv (.ref q :: st) (w ++ [(q, .inl (gC G, N, .inl (fun _ => 0)))])) : Gq p l e R s m args below meth c G A nL cs sl Q pc lv (.int i :: st) w := by
  intro H locs ls hP hD hS h
  refine va_newa (atype := .char) (ty := .char) (a0 := (N, .inl (fun _ => 0))) C.1 C.2.1 (C.2.2.2.2.1 _ (wr3 _ (List.mem_of_getElem? (i := 20) rfl))) rfl C.2.2.2.2.2.1.1 hP hD hS C.2.2.2.2.2.2.1 (fun _ => rfl) hi.1 hi.2.1 hi.2.2 hc hs hd (fun q cA H1 hK2 hP hD hS => ?_)
  have e := arr_same C.2.2.2.2.2.1.1 hK2 (k := 0) rfl (fun C h => by cases h)
  subst e
  exact kk q H1 locs ls hP hD hS h
theorem go_newZ (C : Cx p e s m args meth c G own cc nL ret A) {i : Int32} {N : Nat} (hd : decode cc pc = .ok (.newarray .boolean, 2)) (hi : ¬ i < 0 ∧ i.toNatClampNeg = N ∧ N * 1 ≤ 536870912) (hc : cs + 1 ≤ R.cells) (hs : sl + N ≤ R.slots) (kk : ∀ q : Nat, Gq p l e R s m args below meth c G A nL (cs + 1) (sl + N) Q (pc + 2) lv (.ref q :: st) (w ++ [(q, .inl (gZ G, N, .inl (fun _ => 0)))])) : Gq p l e R s m args below meth c G A nL cs sl Q pc lv (.int i :: st) w := by
  intro H locs ls hP hD hS h
  refine va_newa (atype := .boolean) (ty := .boolean) (a0 := (N, .inl (fun _ => 0))) C.1 C.2.1 (C.2.2.2.2.1 _ wZ) rfl C.2.2.2.2.2.1.1 hP hD hS C.2.2.2.2.2.2.1 (fun _ => rfl) hi.1 hi.2.1 hi.2.2 hc hs hd (fun q cA H1 hK2 hP hD hS => ?_)
  have e := arr_same C.2.2.2.2.2.1.1 hK2 (k := 3) rfl (fun C h => by cases h)
  subst e
  exact kk q H1 locs ls hP hD hS h
theorem go_newJ (C : Cx p e s m args meth c G own cc nL ret A) {i : Int32} {N : Nat} (hd : decode cc pc = .ok (.newarray .long, 2)) (hi : ¬ i < 0 ∧ i.toNatClampNeg = N ∧ N * 8 ≤ 536870912) (hc : cs + 1 ≤ R.cells) (hs : sl + N ≤ R.slots) (kk : ∀ q : Nat, Gq p l e R s m args below meth c G A nL (cs + 1) (sl + N) Q (pc + 2) lv (.ref q :: st) (w ++ [(q, .inl (gJ G, N, .inr (.inl (fun _ => 0))))])) : Gq p l e R s m args below meth c G A nL cs sl Q pc lv (.int i :: st) w := by
  intro H locs ls hP hD hS h
  refine va_newa (atype := .long) (ty := .long) (a0 := (N, .inr (.inl (fun _ => 0)))) C.1 C.2.1 (C.2.2.2.2.1 _ wJ) rfl C.2.2.2.2.2.1.1 hP hD hS C.2.2.2.2.2.2.1 (fun _ => rfl) hi.1 hi.2.1 hi.2.2 hc hs hd (fun q cA H1 hK2 hP hD hS => ?_)
  have e := arr_same C.2.2.2.2.2.1.1 hK2 (k := 2) rfl (fun C h => by cases h)
  subst e
  exact kk q H1 locs ls hP hD hS h
theorem go_newQ (C : Cx p e s m args meth c G own cc nL ret A) {i : Int32} {N : Nat} (hcl : Cond.classLink own idx RX1 ∈ wsL_law) (hd : decode cc pc = .ok (.anewarray idx, 3)) (hi : ¬ i < 0 ∧ i.toNatClampNeg = N ∧ N * 4 ≤ 536870912) (hc : cs + 1 ≤ R.cells) (hs : sl + N ≤ R.slots) (kk : ∀ q : Nat, Gq p l e R s m args below meth c G A nL (cs + 1) (sl + N) Q (pc + 3) lv (.ref q :: st) (w ++ [(q, .inl (gO G, N, .inr (.inr (.inr (.inr (fun _ => none))))))])) : Gq p l e R s m args below meth c G A nL cs sl Q pc lv (.int i :: st) w := by
  intro H locs ls hP hD hS h
  refine va_newq C.1 C.2.1 C.2.2.2.1 (C.2.2.2.2.1 _ hcl) C.2.2.2.2.2.1.2.2 C.2.2.2.2.2.1.1 hP hD hS C.2.2.2.2.2.2.1 hi.1 hi.2.1 hi.2.2 hc hs hd (fun q cA H1 hK2 hP hD hS => ?_)
  have e := arr_sameO C.2.2.2.2.2.1.1 hK2 (k := 4) rfl
  subst e
  exact kk q H1 locs ls hP hD hS h
theorem go_putF (C : Cx p e s m args meth c G own cc nL ret A) {ci k a b : Nat} {fs : List Value} {ty : FieldType} (F : FP own idx ci k ty true) (hin : meth.name = "<init>") (hd : decode cc pc = .ok (.putfield idx, 3)) (q0 : Nat) (he : w[q0]? = some (a, .inr (ci, fs))) (hty : narrow ty (.ref b) = .ref b ∧ fits ty (.ref b) = true) (hl : k < fs.length) (hw : w.set q0 (a, .inr (ci, fs.set k (.ref b))) = w') (kk : Gq p l e R s m args below meth c G A nL cs sl Q (pc + 3) lv st w') : Gq p l e R s m args below meth c G A nL cs sl Q pc lv (.ref b :: .ref a :: st) w := by
  obtain ⟨Cn, T, N, ty0, h1, h2, h3, h4, h5, h6, h7, h8, h9⟩ := F
  subst hw
  exact fun H locs ls hP hD hS h => va_putF C.1 C.2.1 C.2.2.2.2.1 h2 ty0 h5 h6 C.2.2.2.1 C.2.2.2.2.2.1.1 hP hD hS q0 he h1 k h3 (C.2.2.2.2.1 _ h4) (fun _ h9 => h9) h7 hin h9 h8 hty.1 hty.2 hl hd (fun H1 locs1 hP hD hS => kk H1 locs1 ls hP hD hS h)
/-- behind a call that makes cells -/
theorem go_runA {X : Type} {wf : X → va_W} {mc ms : Nat} (C : Cx p e s m args meth c G own cc nL ret A) {a : Array Value} (isC isR : List Nat) (hC : isC.map (fun i => w[i]?) = wc.map some) (hR : isR.map (fun i => w[i]?) = wr.map some) (hn : (va_nd isC && va_nd isR && isR.all (fun i => !(isC.contains i))) = true)
    (hr : ∀ (H : Heap) (locs : List Loc) (ls : Array Slot), va_P G.1 vwCl w H → lv_has ls nL lv → va_P G.1 vwCl wc H → va_D (fun _ => True) wc → va_Run p l e R s m args below meth c H locs cs sl mc ms (F0 m pc ls st0) st (QA G v wf (va_A wc H.size) a) (va_A wc H.size))
    (kk : ∀ x : X, Gq p l e R s m args below meth c G A nL (cs + mc) (sl + ms) Q (pc + 3) lv (v.toList ++ st) (wr ++ wf x)) : Gq p l e R s m args below meth c G A nL cs sl Q pc lv st0 w := by
  intro H locs ls hP hD hS hl
  simp only [Bool.and_eq_true, List.all_eq_true, Bool.not_eq_true', List.contains_eq_mem, decide_eq_false_iff_not] at hn
  obtain ⟨⟨n1, n2⟩, n4⟩ := hn
  have hPc := hP.sub (ws' := wc) isC (fm_of hC)
  have hDc := hD.sub (ws' := wc) isC n1 hC
  have hFc := va_free (wc := wc) hD hS C.2.2.2.2.2.2.1 isC hC
  intro T hT X
  obtain ⟨v', st₀, t, T', L, h0, X', hL, e1, e2, ⟨⟨hv, x, hP1, hD1⟩, hz, hk⟩, stp⟩ := hr H locs ls hP hl hPc (hDc.weaken (fun _ _ _ _ => trivial)) T hT X
  cases hv
  rw [h0] at hz hk
  obtain ⟨hP2, hD2⟩ := va_join hP hD isC isR hC hR n2 n4 hk hFc hP1 hD1
  rw [← e1] at hP2 hz hk
  have hS2 : va_S A s.heap T'.heap (locs ++ L) := ⟨Nat.le_trans hS.1 hz, fun q h1 h2 => by rw [hk q (Nat.lt_of_lt_of_le h1 hS.1) (fun z => h2 (hFc q z))]; exact hS.2.1 q h1 h2, fun q hq => by
      rcases List.mem_append.mp hq with h | h
      · exact hS.2.2 q h
      · exact hFc _ (hL q h)⟩
  obtain ⟨t2, a1, b1⟩ := kk x T'.heap (locs ++ L) ls hP2 hD2 hS2 hl T' rfl X'
  exact ⟨t2, stp t2 a1, b1⟩
theorem go_callI {X : Type} {wf : X → va_W} {mc ms b : Nat} (C : Cx p e s m args meth c G own cc nL ret A) (F : CfB own idx y cy ny none 0) (hi : Cond.instanceMethod y ∈ wsL_law ∧ y.name = "<init>") (K : KA l G y cy ny none fr lo mc ms [.ref b] wc none wf) (hd : decode cc pc = .ok (.invokespecial idx, 3)) (hR : fr + 1 ≤ R.frames ∧ 8 + (ny + 11) + lo ≤ R.locals) (hc : cs + mc ≤ R.cells ∧ sl + ms ≤ R.slots) (hro : (st.map fun v => v.category).sum ≤ 8)
    (isC isR : List Nat) (hC : isC.map (fun i => w[i]?) = wc.map some) (hRr : isR.map (fun i => w[i]?) = wr.map some) (hn : (va_nd isC && va_nd isR && isR.all (fun i => !(isC.contains i))) = true)
    (kk : ∀ x : X, Gq p l e R s m args below meth c G A nL (cs + mc) (sl + ms) Q (pc + 3) lv st (wr ++ wf x)) : Gq p l e R s m args below meth c G A nL cs sl Q pc lv (.ref b :: st) w :=
  go_runA (v := none) (st := st) C isC isR hC hRr hn (fun H locs ls hP hl hPc hDc => va_runI (As := []) ⟨C.1, C.2.1, C.2.2.1, C.2.2.2.1, C.2.2.2.2.1⟩ (K H.size) ⟨callB_of 0 C.2.2.2.2.1 (wq_in F.2.2.1) rfl rfl rfl (C.2.2.2.2.1 _ F.2.1) (C.2.2.2.2.1 _ F.1) F.2.2.2 hR, hi.2, C.2.2.2.2.1 _ hi.1⟩ ⟨Pk_blind, fun U hU hW => ⟨rfl, by rw [hU], by rw [hU]; exact hPc, C.2.2.2.2.2.1.warm hW, hDc⟩⟩ rfl rfl hl.1 rfl (lv_room hro) hd hc) kk
theorem go_callIN {X : Type} {wf : X → va_W} {mc ms b : Nat} (C : Cx p e s m args meth c G own cc nL ret A) (F : CfN own idx y cy ny none 0) (hi : Cond.instanceMethod y ∈ wsL_law ∧ y.name = "<init>") (K : KA l G y cy ny none fr lo mc ms [.ref b] wc none wf) (hd : decode cc pc = .ok (.invokespecial idx, 3)) (hR : fr + 1 ≤ R.frames ∧ 8 + (ny + 11) + lo ≤ R.locals) (hc : cs + mc ≤ R.cells ∧ sl + ms ≤ R.slots) (hro : (st.map fun v => v.category).sum ≤ 8)
    (isC isR : List Nat) (hC : isC.map (fun i => w[i]?) = wc.map some) (hRr : isR.map (fun i => w[i]?) = wr.map some) (hn : (va_nd isC && va_nd isR && isR.all (fun i => !(isC.contains i))) = true)
    (kk : ∀ x : X, Gq p l e R s m args below meth c G A nL (cs + mc) (sl + ms) Q (pc + 3) lv st (wr ++ wf x)) : Gq p l e R s m args below meth c G A nL cs sl Q pc lv (.ref b :: st) w :=
  go_runA (v := none) (st := st) C isC isR hC hRr hn (fun H locs ls hP hl hPc hDc => va_runIN (As := []) ⟨C.1, C.2.1, C.2.2.1, C.2.2.2.1, C.2.2.2.2.1⟩ (K H.size) ⟨va_cnB 0 C.2.2.2.2.1 (wq_in F.2.2.1) rfl rfl rfl (C.2.2.2.2.2.1.2.1 _ F.1) (C.2.2.2.2.1 _ F.2.1) F.2.2.2 hR, hi.2, C.2.2.2.2.1 _ hi.1⟩ ⟨Pk_blind, fun U hU hW => ⟨rfl, by rw [hU], by rw [hU]; exact hPc, C.2.2.2.2.2.1.warm hW, hDc⟩⟩ rfl rfl hl.1 rfl (lv_room hro) hd hc) kk
theorem go_alen (C : Cx p e s m args meth c G own cc nL ret A) {a n : Nat} {f : Nat → Int32} {x : Int32} (hd : decode cc pc = .ok (.arraylength, 1)) (q0 : Nat) (ha : w[q0]? = some (a, .inl (gI G, n, .inl f))) (hx : Int32.ofNat n = x) (kk : Gq p l e R s m args below meth c G A nL cs sl Q (pc + 1) lv (.int x :: st) w) : Gq p l e R s m args below meth c G A nL cs sl Q pc lv (.ref a :: st) w :=
  fun H locs ls hP hD hS h => va_alen (x := (n, .inl f)) C.1 C.2.1 C.2.2.2.2.2.1.1 hP q0 1 ha rfl hx hd (kk H locs ls hP hD hS h)
end
set_option maxRecDepth 100000 in
set_option maxHeartbeats 4000000 in
/-- Arrays.fill over a row of ints -/
theorem fill_k (l : Launch) (G : gG) (a0 n : Nat) (hn : n < 2 ^ 31) (f : Nat → Int32) (v : Int32) : KK l G yJ7_fill_53178 cJ7_fill_53178 4 none 0 0 [.ref a0, .int v] [(a0, .inl (gI G, n, .inl f))] none [(a0, .inl (gI G, n, .inl (fun j => if j < n then v else f j)))] := by
  refine KK_intro (own := RJ7) (by decide +kernel) rfl (Nat.le_of_ble_eq_true rfl) rfl ?_
  intro p e s m args below meth c A C
  have loop : ∀ (k i : Nat) (g : Nat → Int32), i + k = n → (∀ j, g j = if j < i then v else f j) → Gq p l e (rq 0 0) s m args below meth c G A 4 0 0 (MQ below (QK G none [(a0, .inl (gI G, n, .inl (fun j => if j < n then v else f j)))] A) args s 0 0 A) 5 [(3, .int (nI n)), (2, .int (nI i)), (0, .ref a0), (1, .int v)] [] [(a0, .inl (gI G, n, .inl g))] := by
    intro k
    induction k with
    | zero =>
      intro i g hi hg
      have hin : i = n := by omega
      subst hin
      have hgg : g = fun j => if j < i then v else f j := funext hg
      refine go_iload_n C dJ7_fill_53178_5 1 rfl ?_
      refine go_iload_n C dJ7_fill_53178_6 0 rfl ?_
      refine go_icmp_ge (t1 := some ()) (t2 := none) (r := ()) (tgt := 20) C (if_pos (nI_le (Nat.le_refl _) hn)) dJ7_fill_53178_7 rfl (fun h => ?_) (fun h => by cases h)
      exact go_vret C dJ7_fill_53178_20 rfl (by rw [hgg])
    | succ k ih =>
      intro i g hi hg
      have hlt : i < n := by omega
      refine go_iload_n C dJ7_fill_53178_5 1 rfl ?_
      refine go_iload_n C dJ7_fill_53178_6 0 rfl ?_
      refine go_icmp_ge (t1 := none) (t2 := some ()) (r := ()) (tgt := 20) C (if_neg (nI_ge hlt hn)) dJ7_fill_53178_7 rfl (fun h => by cases h) (fun h => ?_)
      refine go_aload_n C dJ7_fill_53178_10 2 rfl ?_
      refine go_iload_n C dJ7_fill_53178_11 1 rfl ?_
      refine go_iload_n C dJ7_fill_53178_12 3 rfl ?_
      refine go_iastore C dJ7_fill_53178_13 0 rfl (decide_eq_true (vp_in_nI hlt hn)) rfl ?_
      refine go_iincN (k := fun x => if x = nI (i + 1) then some () else none) (r := ()) (lf := fun x => [(2, .int x), (3, .int (nI n)), (0, .ref a0), (1, .int v)]) C (if_pos (nI_1 i)) dJ7_fill_53178_14 1 rfl rfl (by decide) (fun _ => rfl) (fun x hx => ?_)
      have ex : x = nI (i + 1) := by
        by_cases q : x = nI (i + 1)
        · exact q
        · rw [if_neg q] at hx; cases hx
      subst ex
      refine go_goto (tgt := 5) C dJ7_fill_53178_17 rfl ?_
      refine go_lv [1, 0, 2, 3] rfl (ih (i + 1) _ (by omega) (fun j => ?_))
      rw [nI_clamp (by omega)]
      unfold upd
      rw [hg]
      by_cases h1 : j = i
      · rw [if_pos h1, if_pos (by omega)]
      · by_cases h2 : j < i
        · rw [if_neg h1, if_pos h2, if_pos (by omega)]
        · rw [if_neg h1, if_neg h2, if_neg (by omega)]
  refine go_iconst (v := 0) C dJ7_fill_53178_0 rfl ?_
  refine go_istore_n (lv' := [(2, .int 0), (0, .ref a0), (1, .int v)]) C dJ7_fill_53178_1 (by decide) rfl ?_
  refine go_aload_n C dJ7_fill_53178_2 1 rfl ?_
  refine go_alen C dJ7_fill_53178_3 0 rfl rfl ?_
  refine go_istore_n (lv' := [(3, .int (nI n)), (2, .int 0), (0, .ref a0), (1, .int v)]) C dJ7_fill_53178_4 (by decide) rfl ?_
  exact loop n 0 f (by omega) (fun j => by rw [if_neg (by omega)])
end
