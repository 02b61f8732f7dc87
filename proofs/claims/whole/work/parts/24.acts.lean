/-! acts: why they can not be, what they do -/
def upN (f : Nat → Nat) (k v : Nat) : Nat → Nat := fun j => if j = k then v else f j
def stepR (c : CS) (m p : Nat) : Nat := if (cT c).testBit m = true then 1 else if p = cP c m ∨ cP c m + cS c m < p ∨ p + cS c m < cP c m then 2 else if 1 ≤ p ∧ p ≤ 12 then (if msS c p = true then 3 else if mayS c m p = false then 4 else if (firstOn c p).isSome = true then 5 else 0) else 0
def leaseR (c : CS) (m r : Nat) : Nat := if msS c r = true then 3 else if cO c r = m + 1 ∨ cO c r = 0 then 6 else if ¬ cL c r = 0 then 7 else if cC c m = 0 then 8 else 0
def loseR (c : CS) (r : Nat) (away : Bool) : Nat := if msS c r = away then 9 else 0
def beatR (c : CS) : Nat := if cB c = 99 then 10 else 0
def doStep (c : CS) (m p : Nat) : CS := (cO c, cL c, cM c, cS c, cC c, upN (cP c) m p, cT c ||| 2 ^ m, cB c)
def doLease (c : CS) (m r : Nat) : CS := (cO c, upN (cL c) r (m + 1), cM c, cS c, upN (upN (cC c) m (cC c m - 1)) (cO c r - 1) (upN (cC c) m (cC c m - 1) (cO c r - 1) + 1), cP c, cT c, cB c)
def doLose (c : CS) (r : Nat) : CS := (upN (cO c) r 0, upN (cL c) r 0, cM c ^^^ 2 ^ (r - 1), cS c, cC c, cP c, cT c, cB c)
def doBeat (c : CS) : CS := (cO c, cL c, cM c, cS c, cC c, cP c, 0, cB c + 1)
theorem or_lt {a b n : Nat} (ha : a < 2 ^ n) (hb : b < 2 ^ n) : a ||| b < 2 ^ n := Nat.or_lt_two_pow ha hb
theorem xor_lt {a b n : Nat} (ha : a < 2 ^ n) (hb : b < 2 ^ n) : a ^^^ b < 2 ^ n := Nat.xor_lt_two_pow ha hb
theorem pow_lt {k n : Nat} (h : k < n) : 2 ^ k < 2 ^ n := Nat.pow_lt_pow_right (by decide) h
section
variable {c : CS} {cb : Nat}
theorem WF.mono {cb' : Nat} (h : WF cb c) (hb : cb ≤ cb') : WF cb' c := ⟨h.1, h.2.1, fun m hm => by have := h.2.2.1 m hm; exact ⟨this.1, this.2.1, by omega, this.2.2.2⟩, h.2.2.2⟩
theorem WF_step (h : WF cb c) {m p : Nat} (hm : m < 6) (hp : p ≤ 13) : WF cb (doStep c m p) := by
  refine ⟨h.1, h.2.1, fun k hk => ?_, or_lt (n := 6) h.2.2.2.1 (pow_lt hm), h.2.2.2.2⟩
  have := h.2.2.1 k hk
  refine ⟨this.1, this.2.1, this.2.2.1, ?_⟩
  show upN (cP c) m p k ≤ 13
  unfold upN
  by_cases q : k = m
  · rw [if_pos q]; exact hp
  · rw [if_neg q]; exact this.2.2.2
theorem WF_lease (h : WF cb c) {m r : Nat} (hm : m < 6) (h1 : 1 ≤ r) (h2 : r ≤ 12) : WF (cb + 1) (doLease c m r) := by
  refine ⟨fun k k1 k2 => ?_, h.2.1, fun k hk => ?_, h.2.2.2.1, h.2.2.2.2⟩
  · have := h.1 k k1 k2
    refine ⟨this.1, ?_⟩
    show upN (cL c) r (m + 1) k ≤ 6
    unfold upN
    by_cases q : k = r
    · rw [if_pos q]; omega
    · rw [if_neg q]; exact this.2
  · have := h.2.2.1 k hk
    refine ⟨this.1, this.2.1, ?_, this.2.2.2⟩
    show upN (upN (cC c) m (cC c m - 1)) (cO c r - 1) (upN (cC c) m (cC c m - 1) (cO c r - 1) + 1) k ≤ cb + 1
    have hmm := (h.2.2.1 m hm).2.2.1
    have ho := (h.1 r h1 h2).1
    have hoo : cO c r - 1 < 6 := by omega
    have h3 := (h.2.2.1 _ hoo).2.2.1
    unfold upN
    by_cases q : k = cO c r - 1
    · rw [if_pos q]
      by_cases q2 : cO c r - 1 = m
      · rw [if_pos q2]; omega
      · rw [if_neg q2]; omega
    · rw [if_neg q]
      by_cases q2 : k = m
      · rw [if_pos q2]; omega
      · rw [if_neg q2]; omega
theorem WF_lose (h : WF cb c) {r : Nat} (h1 : 1 ≤ r) (h2 : r ≤ 12) : WF cb (doLose c r) := by
  refine ⟨fun k k1 k2 => ?_, xor_lt (n := 12) h.2.1 (pow_lt (by omega)), h.2.2.1, h.2.2.2.1, h.2.2.2.2⟩
  have := h.1 k k1 k2
  show upN (cO c) r 0 k ≤ 6 ∧ upN (cL c) r 0 k ≤ 6
  unfold upN
  by_cases q : k = r
  · rw [if_pos q, if_pos q]; omega
  · rw [if_neg q, if_neg q]; exact this
theorem WF_beat (h : WF cb c) (hb : beatR c = 0) : WF cb (doBeat c) := by
  refine ⟨h.1, h.2.1, h.2.2.1, by show 0 < 64; decide, ?_⟩
  show cB c + 1 ≤ 99
  have := h.2.2.2.2
  unfold beatR at hb
  by_cases q : cB c = 99
  · rw [if_pos q] at hb; cases hb
  · omega
-- the class
variable {B : SX1}
def SG (B B' : SX1) : Prop := g1_sights B' = g1_sights B ∧ g1_wet B' = g1_wet B ∧ g1_dry B' = g1_dry B
def dS (a b : Nat) : Nat := if b ≤ a then a - b else b - a
theorem dS_sp (a b : Nat) : (b ≤ a ∧ dS a b = a - b) ∨ (a < b ∧ dS a b = b - a) := by
  unfold dS
  by_cases h : b ≤ a
  · exact Or.inl ⟨h, if_pos h⟩
  · exact Or.inr ⟨by omega, if_neg h⟩
theorem iabs_ok {a b : Nat} (ha : a ≤ 13) (hb : b ≤ 13) : iabs (nI a - nI b) = nI (dS a b) := by
  unfold iabs
  rcases dS_sp a b with ⟨h, e⟩ | ⟨h, e0⟩
  · rw [e, nSUB h, I0, if_pos ((nLE (by omega) (by omega)).mpr (by omega))]
  · have e : nI a - nI b = -nI (b - a) := by
      apply Int32.toInt_inj.mp
      rw [pk_sub_toInt (by omega) (by omega), negT (by omega)]
      omega
    rw [e0, e, I0, if_neg (fun q => (n_le_neg (by omega) (by omega) (by omega)).mp q)]
    rw [Int32.sub_neg, nI_add]; congr 1; omega
theorem isRung_out {p : Nat} (hp : p ≤ 13) (h : ¬ (1 ≤ p ∧ p ≤ 12)) : m9_isRung (nI p) = some (nI 0) := by
  unfold m9_isRung
  simp (disch := omega) only [I0, I1, I12, nLT]
  by_cases q : p < 1
  · simp only [q, if_true]
  · have : 12 < p := by omega
    simp only [q, this, if_true, if_false]
theorem reasonStep_ok (h : RC c B) (hw : WF cb c) {m p : Nat} (hm : m < 6) (hp : p ≤ 13) : m1_reasonAgainstStep B (nI m) (nI p) = some (nI (stepR c m p)) := by
  have hmm := hw.2.2.1 m hm
  have hd := dS_sp p (cP c m)
  unfold m1_reasonAgainstStep
  simp (disch := omega) only [hasStepped_ok h hw, tbd_some, I0, I1, I2, I3, I4, I5, bI_0, placeOf_ok h, tnm_eq, iabs_ok, strideOf_ok h, nEQ, nLE]
  unfold stepR
  cases ht : (cT c).testBit m with
  | true => simp
  | false =>
    by_cases q1 : p = cP c m
    · have e : dS p (cP c m) = 0 := by omega
      have e3 : p = cP c m ∨ cP c m + cS c m < p ∨ p + cS c m < cP c m := Or.inl q1
      simp [e, eq_true e3]
    · have e1 : ¬ dS p (cP c m) = 0 := by omega
      by_cases q2 : cP c m + cS c m < p ∨ p + cS c m < cP c m
      · have e2 : ¬ dS p (cP c m) ≤ cS c m := by omega
        simp [q1, e1, e2, q2]
      · have e2 : dS p (cP c m) ≤ cS c m := by omega
        by_cases q3 : 1 ≤ p ∧ p ≤ 12
        · simp (disch := omega) only [isRung_in q3.1 q3.2, tbd_some, nEQ, isMissing_ok h hw q3.1 q3.2, bI_0, mayBeOn_ok h hw hm q3.1 q3.2, firstManOn_ok h hw, q1, e1, e2, q2, q3]
          cases msS c p with
          | true => simp
          | false =>
            cases mayS c m p with
            | false => simp
            | true =>
              cases hf : firstOn c p with
              | none => simp
              | some j =>
                have hj := srch_some hf
                have hne : ¬ nI j = -nI 1 := fun q => (n_ne_neg (by omega) (by omega) (by omega)).mp q
                simp [hne]
        · simp [isRung_out hp q3, tbd_some, q1, e1, e2, q2, q3]
theorem reasonLease_ok (h : RC c B) (hw : WF cb c) {m r : Nat} (hm : m < 6) (h1 : 1 ≤ r) (h2 : r ≤ 12) (hcb : cb < 2147483648) : m1_reasonAgainstLease B (nI m) (nI r) = some (nI (leaseR c m r)) := by
  have hmm := hw.2.2.1 m hm
  have hr := hw.1 r h1 h2
  unfold m1_reasonAgainstLease
  simp (disch := omega) only [isMissing_ok h hw, tbd_some, I0, I1, I3, I6, I7, I8, bI_0, ownerOf_ok h, leaserOf_ok h, coinsOf_ok h, oc_eq_none hr.1, oc_eq_man hr.1 hm, oc_eq_none hr.2, nLT]
  unfold leaseR
  cases msS c r with
  | true => simp
  | false =>
    by_cases q1 : cO c r = m + 1
    · simp [q1]
    · by_cases q2 : cO c r = 0
      · simp [q2]
      · by_cases q3 : cL c r = 0
        · by_cases q4 : cC c m = 0
          · simp [q1, q2, q3, q4]
          · have : 0 < cC c m := by omega
            simp [q1, q2, q3, q4, this]
        · simp [q1, q2, q3]
end
