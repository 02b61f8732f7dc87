/-! the clean state: what class and reference both tell -/
/-- owner, leaser (0: nobody, k + 1: man k) by rung; missing (bits); stride, coins, place by man; stepped (bits); beat -/
abbrev CS : Type := (Nat → Nat) × (Nat → Nat) × Nat × (Nat → Nat) × (Nat → Nat) × (Nat → Nat) × Nat × Nat
def cO (c : CS) : Nat → Nat := c.1
def cL (c : CS) : Nat → Nat := c.2.1
def cM (c : CS) : Nat := c.2.2.1
def cS (c : CS) : Nat → Nat := c.2.2.2.1
def cC (c : CS) : Nat → Nat := c.2.2.2.2.1
def cP (c : CS) : Nat → Nat := c.2.2.2.2.2.1
def cT (c : CS) : Nat := c.2.2.2.2.2.2.1
def cB (c : CS) : Nat := c.2.2.2.2.2.2.2
def WF (cb : Nat) (c : CS) : Prop := (∀ r, 1 ≤ r → r ≤ 12 → cO c r ≤ 6 ∧ cL c r ≤ 6) ∧ cM c < 4096 ∧ (∀ m, m < 6 → 1 ≤ cS c m ∧ cS c m ≤ 4 ∧ cC c m ≤ cb ∧ cP c m ≤ 13) ∧ cT c < 64 ∧ cB c ≤ 99
/-- nobody or a man, as the class and as the reference write it -/
def oc (k : Nat) : Int32 := if k = 0 then -nI 1 else nI (k - 1)
def om (k : Nat) : Int32 := if k = 0 then -nI 6 else nI (k - 1)
def RC (c : CS) (B : SX1) : Prop := (∀ r, 1 ≤ r → r ≤ 12 → g1_owner B r = oc (cO c r) ∧ g1_leaser B r = oc (cL c r)) ∧ g1_missing B = nI (cM c) ∧ (∀ m, m < 6 → g1_stride B m = nI (cS c m) ∧ g1_coins B m = nI (cC c m) ∧ g1_place B m = nI (cP c m)) ∧ g1_stepped B = nI (cT c) ∧ g1_beat B = nI (cB c)
def RM (c : CS) (b : Nat → Int32) : Prop := (∀ r, 1 ≤ r → r ≤ 12 → b r = om (cO c r) ∧ b (13 + r) = om (cL c r)) ∧ b 45 = nI (2 * cM c) ∧ (∀ m, m < 6 → b (26 + m) = nI (cS c m) ∧ b (32 + m) = nI (cC c m) ∧ b (38 + m) = nI (cP c m)) ∧ b 44 = nI (cT c) ∧ b 46 = nI (cB c)
theorem oc_eq_none {k : Nat} (h : k ≤ 6) : (oc k = -nI 1) ↔ k = 0 := by
  unfold oc
  by_cases h0 : k = 0
  · simp [h0]
  · rw [if_neg h0, n_ne_neg (by omega) (by omega) (by omega)]
    exact ⟨fun h => h.elim, fun h => absurd h h0⟩
theorem oc_eq_man {k m : Nat} (h : k ≤ 6) (hm : m < 6) : (oc k = nI m) ↔ k = m + 1 := by
  unfold oc
  by_cases h0 : k = 0
  · rw [if_pos h0, neg_ne_n (by omega) (by omega) (by omega)]
    exact ⟨fun h => h.elim, fun h => by omega⟩
  · rw [if_neg h0, nEQ (by omega) (by omega)]
    omega
theorem om_lt_0 {k : Nat} (h : k ≤ 6) : (om k < nI 0) ↔ k = 0 := by
  unfold om
  by_cases h0 : k = 0
  · rw [if_pos h0, neg_lt_n (by omega) (by omega) (by omega)]
    simp [h0]
  · rw [if_neg h0, nLT (by omega) (by omega)]
    omega
theorem om_ge_0 {k : Nat} (h : k ≤ 6) : (nI 0 ≤ om k) ↔ ¬ k = 0 := by
  rw [← Int32.not_lt, om_lt_0 h]
theorem om_eq_man {k m : Nat} (h : k ≤ 6) (hm : m < 6) : (om k = nI m) ↔ k = m + 1 := by
  unfold om
  by_cases h0 : k = 0
  · rw [if_pos h0, neg_ne_n (by omega) (by omega) (by omega)]
    exact ⟨fun h => h.elim, fun h => by omega⟩
  · rw [if_neg h0, nEQ (by omega) (by omega)]
    omega
/-- orNone of the class's word is the reference's -/
theorem orNone_oc {k : Nat} (h : k ≤ 6) : m9_orNone (oc k) = some (om k) := by
  unfold m9_orNone
  simp only [I1, I6]
  by_cases h0 : k = 0
  · subst h0; rfl
  · rw [if_neg (fun q => h0 ((oc_eq_none h).mp q))]
    unfold oc om
    rw [if_neg h0, if_neg h0]
-- small questions
theorem isMan_in {m : Nat} (h : m < 6) : m9_isMan (nI m) = some (nI 1) := by
  unfold m9_isMan
  simp (disch := omega) only [I0, I1, I6, nLE, nLT, if_pos, if_neg]
theorem isRung_in {r : Nat} (h1 : 1 ≤ r) (h : r ≤ 12) : m9_isRung (nI r) = some (nI 1) := by
  unfold m9_isRung
  simp (disch := omega) only [I0, I1, I12, nLE, nLT, if_pos, if_neg]
theorem bitOf_in {r : Nat} (h1 : 1 ≤ r) (h : r ≤ 12) : m9_bitOf (nI r) = some (nI (2 ^ (r - 1))) := by
  unfold m9_bitOf
  simp (disch := omega) only [I0, I1, I12, nLE, nLT, if_pos, if_neg, nSUB, nSHL1]
theorem strideOf_ok {c : CS} {B : SX1} (h : RC c B) {m : Nat} (hm : m < 6) : m1_strideOf B (nI m) = some (nI (cS c m)) := by
  unfold m1_strideOf
  simp (disch := omega) only [isMan_in, tbd_some, I0, nEQ, if_neg, tin_nI, tgd_true, nC, (h.2.2.1 m hm).1]
