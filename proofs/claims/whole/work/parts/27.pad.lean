/-! the pad: signs, acts, faults -/
def RPc (n : Nat) (sg : Nat → Nat) (P : SX5) : Prop := g5_count P = nI n ∧ ∀ i, i < n → g5_signs P i = nI (sg i)
def RPm (n : Nat) (sg : Nat → Nat) (T : SX10) : Prop := g10_signs T = nI n ∧ ∀ i, i < n → g10_pad T i = nI (sg i)
def WP (n : Nat) (sg : Nat → Nat) : Prop := n ≤ 60 ∧ ∀ i, i < n → 33 ≤ sg i ∧ sg i ≤ 126
def sgn (n : Nat) (sg : Nat → Nat) (i : Nat) : Nat := if i < n then sg i else 0
def isM (s : Nat) : Bool := decide (65 ≤ s ∧ s ≤ 70)
def isR (s : Nat) : Bool := decide (97 ≤ s ∧ s ≤ 108)
def isE (s : Nat) : Bool := decide (s = 94 ∨ s = 95)
def needS (s : Nat) : Bool := isM s || decide (s = 107) || decide (s = 43)
def endS (n : Nat) (sg : Nat → Nat) (i : Nat) : Nat := if needS (sgn n sg i) = true then (if sgn n sg (i + 1) = 37 ∧ isM (sgn n sg i) = true then i + 3 else i + 2) else i + 1
def okLast (n : Nat) (sg : Nat → Nat) (i : Nat) : Bool := isR (sgn n sg (endS n sg i - 1)) || (isM (sgn n sg i) && decide (endS n sg i = i + 2) && isE (sgn n sg (endS n sg i - 1)))
def wrS (n : Nat) (sg : Nat → Nat) (i : Nat) : Option Nat := if sgn n sg i = 46 then none else if needS (sgn n sg i) = false then some i else if okLast n sg i = true then none else some (endS n sg i - 1)
def ff (n : Nat) (sg : Nat → Nat) : Nat → Nat → Option Nat
  | 0, _ => none
  | k + 1, i => if n ≤ i then none else match wrS n sg i with
    | some w => some w
    | none => ff n sg k (endS n sg i)
def plS (s : Nat) : Nat := if s = 94 then 13 else if isR s = true then s - 96 else 0
def actS (n : Nat) (sg : Nat → Nat) (i : Nat) : AC := if sgn n sg i = 46 then (4, 0, 0) else if sgn n sg i = 107 then (2, 0, plS (sgn n sg (endS n sg i - 1))) else if sgn n sg i = 43 then (3, 0, plS (sgn n sg (endS n sg i - 1))) else if endS n sg i = i + 3 then (1, sgn n sg i - 65, plS (sgn n sg (endS n sg i - 1))) else (0, sgn n sg i - 65, plS (sgn n sg (endS n sg i - 1)))
def oN (o : Option Nat) : Int32 := match o with
  | some w => nI w
  | none => -nI 6
theorem sgn_le {n : Nat} {sg : Nat → Nat} (h : WP n sg) (i : Nat) : sgn n sg i ≤ 126 := by
  unfold sgn
  by_cases q : i < n
  · rw [if_pos q]; exact (h.2 i q).2
  · rw [if_neg q]; omega
theorem endS_sp (n : Nat) (sg : Nat → Nat) (i : Nat) : i + 1 ≤ endS n sg i ∧ endS n sg i ≤ i + 3 := by
  unfold endS
  by_cases a : needS (sgn n sg i) = true
  · rw [if_pos a]
    by_cases b : sgn n sg (i + 1) = 37 ∧ isM (sgn n sg i) = true
    · rw [if_pos b]; omega
    · rw [if_neg b]; omega
  · rw [if_neg a]; omega
section
variable {n : Nat} {sg : Nat → Nat} {P : SX5}
theorem isManSign_ok {s : Nat} (h : s ≤ 200) : m5_isManSign (nI s) = some (bI (isM s)) := by
  unfold m5_isManSign isM
  simp (disch := omega) only [I0, I1, I65, I70, nLT]
  by_cases a : s < 65
  · simp [a, bI]; omega
  · by_cases b : 70 < s
    · simp [a, b, bI]; omega
    · simp [a, b, bI]
theorem isRungSign_ok {s : Nat} (h : s ≤ 200) : m5_isRungSign (nI s) = some (bI (isR s)) := by
  unfold m5_isRungSign isR
  simp (disch := omega) only [I0, I1, I97, I108, nLT]
  by_cases a : s < 97
  · simp [a, bI]; omega
  · by_cases b : 108 < s
    · simp [a, b, bI]; omega
    · simp [a, b, bI]
theorem isEnd_ok {s : Nat} (h : s ≤ 200) : m5_isEndOfLadder (nI s) = some (bI (isE s)) := by
  unfold m5_isEndOfLadder isE
  simp (disch := omega) only [I0, I1, I94, I95, nEQ]
  by_cases a : s = 94
  · simp [a, bI]
  · by_cases b : s = 95
    · simp [b, bI]
    · simp [a, b, bI]
theorem needsMore_ok {s : Nat} (h : s ≤ 200) : m5_needsMore (nI s) = some (bI (needS s)) := by
  unfold m5_needsMore needS
  simp (disch := omega) only [isManSign_ok, tbd_some, I0, I1, I107, I43, nEQ, bI_0]
  cases isM s
  · by_cases a : s = 107
    · simp [a, bI]
    · by_cases b : s = 43
      · simp [b, bI]
      · simp [a, b, bI]
  · simp [bI]
theorem tch_ok {v : Nat} (h : v < 65536) : tch (nI v) = true := by
  unfold tch
  exact decide_eq_true (pk_charN h).1
theorem signAt_ok (h : RPc n sg P) (hw : WP n sg) {i : Nat} (hi : i < 2147483648) : m5_signAt P (nI i) = some (nI (sgn n sg i)) := by
  have hn := hw.1
  unfold m5_signAt sgn
  simp (disch := omega) only [I0, I60, nLT, nLE, h.1, if_neg]
  by_cases a : i < n
  · have hs := hw.2 i a
    simp (disch := omega) only [if_neg, if_pos, tin_nI, tgd_true, nC, h.2 i a, tch_ok]
  · simp (disch := omega) only [if_pos, if_neg]
theorem endOfAct_ok (h : RPc n sg P) (hw : WP n sg) {i : Nat} (hi : i < 2147483000) : m5_endOfAct P (nI i) = some (nI (endS n sg i)) := by
  have h0 := sgn_le hw i
  have h1 := sgn_le hw (i + 1)
  unfold m5_endOfAct m5_endOfAct_J44
  simp (disch := omega) only [I0, I1, I2, I3, I37, nI_add, signAt_ok h hw, tbd_some, needsMore_ok, isManSign_ok, nEQ, bI_0]
  unfold endS
  cases a : needS (sgn n sg i) with
  | false => simp
  | true =>
    by_cases b : sgn n sg (i + 1) = 37
    · cases d : isM (sgn n sg i) with
      | false => simp [b]
      | true => simp [b]
    · simp [b]
theorem firstWrong_ok (h : RPc n sg P) (hw : WP n sg) {i : Nat} (hi : i < 2147483000) : m5_firstWrongSign P (nI i) (nI (endS n sg i)) = some (oN (wrS n sg i)) := by
  have h0 := sgn_le hw i
  have hE := endS_sp n sg i
  have h1 := sgn_le hw (endS n sg i - 1)
  have e0 : (nI (endS n sg i - i) = nI 2) ↔ endS n sg i = i + 2 := by
    rw [nEQ (by omega) (by omega)]; omega
  unfold m5_firstWrongSign m5_firstWrongSign_J42 m5_firstWrongSign_J43 m5_firstWrongSign_J80
  simp (disch := omega) only [I0, I1, I2, I6, I46, signAt_ok h hw, tbd_some, needsMore_ok, isManSign_ok, isRungSign_ok, isEnd_ok, nEQ, bI_0, nSUB, e0]
  unfold wrS okLast
  by_cases a : sgn n sg i = 46
  · simp [a, oN]
  · cases b : needS (sgn n sg i) with
    | false => simp [a, oN]
    | true =>
      cases d : isR (sgn n sg (endS n sg i - 1)) with
      | true => cases isM (sgn n sg i) <;> simp [a, oN]
      | false =>
        cases g : isM (sgn n sg i) with
        | false => simp [a, oN]
        | true =>
          by_cases k : endS n sg i = i + 2
          · cases isE (sgn n sg (endS n sg i - 1))
            · simp [a, k, oN, (by decide : ¬ nI 1 = nI 0)]
            · simp [a, k, oN, (by decide : ¬ nI 1 = nI 0)]
          · simp [a, k, oN]
theorem oN_none {o : Option Nat} (h : ∀ w, o = some w → w < 2147483648) : (oN o = -nI 6) ↔ o = none := by
  cases o with
  | none => simp [oN]
  | some w => exact ⟨fun q => ((n_ne_neg (h w rfl) (by decide) (by decide)).mp q).elim, fun q => by cases q⟩
theorem wrS_lt {i w : Nat} (h : wrS n sg i = some w) : w ≤ i + 2 := by
  have hE := endS_sp n sg i
  unfold wrS at h
  by_cases a : sgn n sg i = 46
  · rw [if_pos a] at h; cases h
  · rw [if_neg a] at h
    by_cases b : needS (sgn n sg i) = false
    · rw [if_pos b] at h; cases h; omega
    · rw [if_neg b] at h
      by_cases d : okLast n sg i = true
      · rw [if_pos d] at h; cases h
      · rw [if_neg d] at h; cases h; omega
theorem firstFault_go (h : RPc n sg P) (hw : WP n sg) : ∀ (k f i : Nat), k ≤ 60 → k < f → i ≤ 200 + 3 * (60 - k) → tit (m5_firstFault_L4 P) f (nI i, nI (60 - k)) = some (oN (ff n sg k i)) := by
  intro k
  have hn := hw.1
  induction k with
  | zero =>
    intro f i hk hf hi
    obtain ⟨f, rfl⟩ : ∃ m, f = m + 1 := ⟨f - 1, by omega⟩
    show m5_firstFault_B4 P (tit (m5_firstFault_L4 P) f) (nI i) (nI (60 - 0)) = _
    unfold m5_firstFault_B4
    simp (disch := omega) only [I60, I6, nLE, if_pos]
    rfl
  | succ k ih =>
    intro f i hk hf hi
    obtain ⟨f, rfl⟩ : ∃ m, f = m + 1 := ⟨f - 1, by omega⟩
    have hE := endS_sp n sg i
    show m5_firstFault_B4 P (tit (m5_firstFault_L4 P) f) (nI i) (nI (60 - (k + 1))) = _
    unfold m5_firstFault_B4
    simp (disch := omega) only [I60, I6, I1, nLE, if_neg, h.1]
    unfold ff
    by_cases a : n ≤ i
    · simp only [a, if_true]; rfl
    · simp (disch := omega) only [a, if_false, endOfAct_ok h hw, firstWrong_ok h hw, tbd_some, tnm_eq, nI_add]
      cases b : wrS n sg i with
      | some w =>
        have := wrS_lt b
        have hne : ¬ oN (some w) = -nI 6 := fun q => (n_ne_neg (by omega) (by omega) (by omega)).mp q
        simp only [hne, if_false]
      | none =>
        have e : 60 - (k + 1) + 1 = 60 - k := by omega
        have := ih f (endS n sg i) (by omega) (by omega) (by omega)
        simp only [oN, if_true, e, this]
theorem firstFault_ok (h : RPc n sg P) (hw : WP n sg) : m5_firstFault P = some (oN (ff n sg 60 0)) := by
  unfold m5_firstFault
  rw [I0]
  exact firstFault_go h hw 60 FU 0 (by omega) (FU_gt (by decide)) (by omega)
end
-- the reference: a sign at a time
def stepA (st s : Nat) : Option Nat := if st = 0 then (if isM s = true then some 1 else if s = 107 ∨ s = 43 then some 2 else if s = 46 then some 0 else none) else if st = 1 then (if isR s = true ∨ s = 94 ∨ s = 95 then some 0 else if s = 37 then some 2 else none) else (if isR s = true then some 0 else none)
def fm (sg : Nat → Nat) : Nat → Nat → Nat → Option Nat
  | 0, k, st => if st = 0 then none else some k
  | j + 1, k, st => match stepA st (sg k) with
    | none => some k
    | some t => fm sg j (k + 1) t
theorem stepA_le {st s t : Nat} (h : stepA st s = some t) : t ≤ 2 := by
  unfold stepA at h
  by_cases a : st = 0
  · rw [if_pos a] at h
    by_cases b : isM s = true
    · rw [if_pos b] at h; cases h; omega
    · rw [if_neg b] at h
      by_cases d : s = 107 ∨ s = 43
      · rw [if_pos d] at h; cases h; omega
      · rw [if_neg d] at h
        by_cases e : s = 46
        · rw [if_pos e] at h; cases h; omega
        · rw [if_neg e] at h; cases h
  · rw [if_neg a] at h
    by_cases a1 : st = 1
    · rw [if_pos a1] at h
      by_cases b : isR s = true ∨ s = 94 ∨ s = 95
      · rw [if_pos b] at h; cases h; omega
      · rw [if_neg b] at h
        by_cases d : s = 37
        · rw [if_pos d] at h; cases h; omega
        · rw [if_neg d] at h; cases h
    · rw [if_neg a1] at h
      by_cases b : isR s = true
      · rw [if_pos b] at h; cases h; omega
      · rw [if_neg b] at h; cases h
theorem step_ok {st s : Nat} (hs : st ≤ 2) (h : s ≤ 200) : m10_step (nI st) (nI s) = some (oN (stepA st s)) := by
  unfold m10_step
  simp (disch := omega) only [I0, I1, I2, I6, I37, I43, I46, I65, I70, I94, I95, I97, I107, I108, in_ok, tbd_some, nEQ, bI_0]
  unfold stepA isM isR
  rcases (show st = 0 ∨ st = 1 ∨ st = 2 by omega) with rfl | rfl | rfl
  · by_cases a : 65 ≤ s ∧ s ≤ 70
    · simp [a, oN]
    · by_cases b : s = 107
      · simp [b, oN]
      · by_cases d : s = 43
        · simp [d, oN]
        · by_cases e : s = 46
          · simp [e, oN]
          · simp [a, b, d, e, oN]
  · by_cases a : 97 ≤ s ∧ s ≤ 108
    · simp [a, oN]
    · by_cases b : s = 94
      · simp [b, oN]
      · by_cases d : s = 95
        · simp [d, oN]
        · by_cases e : s = 37
          · simp [e, oN]
          · simp [a, b, d, e, oN]
  · by_cases a : 97 ≤ s ∧ s ≤ 108
    · simp [a, oN]
    · simp [a, oN]
theorem faultOf_ok {n : Nat} {sg : Nat → Nat} {T : SX10} (h : RPm n sg T) (hw : WP n sg) : m10_faultOf T = some (oN (fm sg n 0 0)) := by
  have hn := hw.1
  unfold m10_faultOf
  rw [I0]
  suffices go : ∀ (j f k st : Nat), k + j = n → j < f → st ≤ 2 → tit (m10_faultOf_L4 T) f (nI st, nI k) = some (oN (fm sg j k st)) from go n FU 0 0 (by omega) (FU_gt (by omega)) (by omega)
  intro j
  induction j with
  | zero =>
    intro f k st hk hf hs
    obtain ⟨f, rfl⟩ : ∃ m, f = m + 1 := ⟨f - 1, by omega⟩
    show m10_faultOf_B4 T (tit (m10_faultOf_L4 T) f) (nI st) (nI k) = _
    unfold m10_faultOf_B4
    simp (disch := omega) only [I0, I6, h.1, nLE, if_pos, nEQ]
    unfold fm
    have : k = n := by omega
    subst this
    by_cases a : st = 0
    · simp [a, oN]
    · simp [a, oN]
  | succ j ih =>
    intro f k st hk hf hs
    obtain ⟨f, rfl⟩ : ∃ m, f = m + 1 := ⟨f - 1, by omega⟩
    have hsg := hw.2 k (by omega)
    show m10_faultOf_B4 T (tit (m10_faultOf_L4 T) f) (nI st) (nI k) = _
    unfold m10_faultOf_B4
    simp (disch := omega) only [I0, I1, h.1, nLE, if_neg, tin_nI, tgd_true, nC, h.2 k (by omega), step_ok, tbd_some, tnm_eq, nI_add]
    unfold fm
    cases b : stepA st (sg k) with
    | none =>
      have e : ¬ nI 0 ≤ -nI 6 := by decide
      simp only [oN, e, if_false]
    | some t =>
      have ht := stepA_le b
      have e : nI 0 ≤ nI t := (nLE (by omega) (by omega)).mpr (by omega)
      simp only [oN, e, if_true]
      exact ih f (k + 1) t (by omega) (by omega) ht
