/-! small questions of class and reference, over the clean state -/
def bI (b : Bool) : Int32 := if b = true then nI 1 else nI 0
theorem bI_0 {b : Bool} : (bI b = nI 0) ↔ b = false := by cases b <;> decide
theorem bI_1 {b : Bool} : (bI b = nI 1) ↔ b = true := by cases b <;> decide
theorem bI_t : bI true = nI 1 := rfl
theorem bI_f : bI false = nI 0 := rfl
theorem tbl_bI {b : Bool} : tbl (bI b) = true := by cases b <;> decide
theorem and_pow {a k : Nat} : (a &&& 2 ^ k = 0) ↔ a.testBit k = false := by
  constructor
  · intro h
    have h1 : (a &&& 2 ^ k).testBit k = false := by rw [h]; exact Nat.zero_testBit k
    rw [Nat.testBit_and, Nat.testBit_two_pow_self, Bool.and_true] at h1
    exact h1
  · intro h
    apply Nat.eq_of_testBit_eq
    intro i
    rw [Nat.testBit_and, Nat.testBit_two_pow, Nat.zero_testBit]
    by_cases hi : k = i
    · subst hi; rw [h]; rfl
    · simp [hi]
theorem and_le (a b : Nat) : a &&& b ≤ a := Nat.and_le_left
theorem nBIT {a k : Nat} (ha : a < 2147483648) : (nI (a &&& 2 ^ k) = nI 0) ↔ a.testBit k = false := by
  have := and_le a (2 ^ k)
  rw [nEQ (by omega) (by omega), and_pow]
theorem nBITm {a k : Nat} : (nI (a / 2 ^ k % 2) = nI 1) ↔ a.testBit k = true := by
  rw [nEQ (by omega) (by omega), Nat.testBit_eq_decide_div_mod_eq]
  simp
theorem nBIT0 {a k : Nat} : (nI (a / 2 ^ k % 2) = nI 0) ↔ a.testBit k = false := by
  rw [nEQ (by omega) (by omega), Nat.testBit_eq_decide_div_mod_eq]
  simp only [decide_eq_false_iff_not]
  omega
theorem nBITv {a k : Nat} : nI (a / 2 ^ k % 2) = bI (a.testBit k) := by
  cases h : a.testBit k with
  | true => exact nBITm.mpr h
  | false => exact nBIT0.mpr h
theorem ite_t {α : Type} {p : Prop} [Decidable p] {b : Bool} {x y : α} (h : p ↔ b = true) : (if p then x else y) = (if b = true then x else y) := by
  by_cases q : p
  · rw [if_pos q, if_pos (h.mp q)]
  · rw [if_neg q, if_neg (fun z => q (h.mpr z))]
def srch (p : Nat → Bool) : Nat → Nat → Option Nat
  | _, 0 => none
  | i, k + 1 => if p i = true then some i else srch p (i + 1) k
theorem tit_srch {S E : Type} {F : (S → Option E) → S → Option E} (st : Nat → S) (p : Nat → Bool) (N : Nat) (f : Nat → Option E) (e : Option E) (hs : ∀ rc i, i < N → F rc (st i) = if p i = true then f i else rc (st (i + 1))) (hx : ∀ rc, F rc (st N) = e) : ∀ k n i, i + k = N → k < n → tit F n (st i) = match srch p i k with
    | some j => f j
    | none => e := by
  intro k
  induction k with
  | zero =>
    intro n i hi hn
    obtain ⟨n, rfl⟩ : ∃ m, n = m + 1 := ⟨n - 1, by omega⟩
    have : i = N := by omega
    subst this
    exact hx _
  | succ k ih =>
    intro n i hi hn
    obtain ⟨n, rfl⟩ : ∃ m, n = m + 1 := ⟨n - 1, by omega⟩
    show F (tit F n) (st i) = _
    rw [hs _ i (by omega)]
    unfold srch
    by_cases h : p i = true
    · rw [if_pos h, if_pos h]
    · rw [if_neg h, if_neg h]
      exact ih n (i + 1) (by omega) (by omega)
theorem srch_some {p : Nat → Bool} : ∀ {k i j : Nat}, srch p i k = some j → i ≤ j ∧ j < i + k ∧ p j = true ∧ ∀ x, i ≤ x → x < j → p x = false
  | 0, i, j, h => by cases h
  | k + 1, i, j, h => by
    unfold srch at h
    by_cases hp : p i = true
    · rw [if_pos hp] at h
      cases h
      exact ⟨Nat.le_refl _, by omega, hp, fun x h1 h2 => by omega⟩
    · rw [if_neg hp] at h
      obtain ⟨h1, h2, h3, h4⟩ := srch_some h
      refine ⟨by omega, by omega, h3, fun x hx1 hx2 => ?_⟩
      by_cases hx : x = i
      · subst hx; simpa using hp
      · exact h4 x (by omega) hx2
theorem srch_none {p : Nat → Bool} : ∀ {k i : Nat}, srch p i k = none → ∀ x, i ≤ x → x < i + k → p x = false
  | 0, i, _, x, h1, h2 => by omega
  | k + 1, i, h, x, h1, h2 => by
    unfold srch at h
    by_cases hp : p i = true
    · rw [if_pos hp] at h; cases h
    · rw [if_neg hp] at h
      by_cases hx : x = i
      · subst hx; simpa using hp
      · exact srch_none h x (by omega) (by omega)
-- the questions
def msS (c : CS) (r : Nat) : Bool := (cM c).testBit (r - 1)
def mayS (c : CS) (m r : Nat) : Bool := !msS c r && (decide (cO c r = 0) || decide (cO c r = m + 1) || decide (cL c r = m + 1))
def rf (c : CS) : Nat → Nat
  | 0 => 0
  | k + 1 => if cP c k = 13 then rf c k ||| 2 ^ k else rf c k
def mo (c : CS) (m : Nat) : Nat → Nat
  | 0 => 0
  | k + 1 => if mayS c m (k + 1) = true then mo c m k ||| 2 ^ k else mo c m k
def firstOn (c : CS) (p : Nat) : Option Nat := srch (fun m => decide (cP c m = p)) 0 6
section
variable {c : CS} {B : SX1} {cb : Nat}
theorem coinsOf_ok (h : RC c B) {m : Nat} (hm : m < 6) : m1_coinsOf B (nI m) = some (nI (cC c m)) := by
  unfold m1_coinsOf
  simp (disch := omega) only [isMan_in, tbd_some, I0, nEQ, if_neg, tin_nI, tgd_true, nC, (h.2.2.1 m hm).2.1]
theorem placeOf_ok (h : RC c B) {m : Nat} (hm : m < 6) : m1_placeOf B (nI m) = some (nI (cP c m)) := by
  unfold m1_placeOf
  simp (disch := omega) only [isMan_in, tbd_some, I0, nEQ, if_neg, tin_nI, tgd_true, nC, (h.2.2.1 m hm).2.2]
theorem ownerOf_ok (h : RC c B) {r : Nat} (h1 : 1 ≤ r) (h2 : r ≤ 12) : m1_ownerOf B (nI r) = some (oc (cO c r)) := by
  unfold m1_ownerOf
  simp (disch := omega) only [isRung_in, tbd_some, I0, nEQ, if_neg, tin_nI, tgd_true, nC, (h.1 r h1 h2).1]
theorem leaserOf_ok (h : RC c B) {r : Nat} (h1 : 1 ≤ r) (h2 : r ≤ 12) : m1_leaserOf B (nI r) = some (oc (cL c r)) := by
  unfold m1_leaserOf
  simp (disch := omega) only [isRung_in, tbd_some, I0, nEQ, if_neg, tin_nI, tgd_true, nC, (h.1 r h1 h2).2]
theorem hasStepped_ok (h : RC c B) (hw : WF cb c) {m : Nat} (hm : m < 6) : m1_hasStepped B (nI m) = some (bI ((cT c).testBit m)) := by
  have ht := hw.2.2.2.1
  unfold m1_hasStepped
  simp (disch := omega) only [isMan_in, tbd_some, I0, I1, nEQ, if_neg, h.2.2.2.1, nSHL1, nAND, nBIT]
  cases (cT c).testBit m <;> rfl
theorem isMissing_ok (h : RC c B) (hw : WF cb c) {r : Nat} (h1 : 1 ≤ r) (h2 : r ≤ 12) : m1_isMissing B (nI r) = some (bI (msS c r)) := by
  have hm := hw.2.1
  unfold m1_isMissing
  simp (disch := omega) only [bitOf_in, tbd_some, I0, I1, h.2.1, nAND, nBIT]
  unfold msS
  cases (cM c).testBit (r - 1) <;> rfl
theorem mayBeOn_ok (h : RC c B) (hw : WF cb c) {m r : Nat} (hm : m < 6) (h1 : 1 ≤ r) (h2 : r ≤ 12) : m1_mayBeOn B (nI m) (nI r) = some (bI (mayS c m r)) := by
  have hmm := hw.2.1
  have hr := hw.1 r h1 h2
  unfold m1_mayBeOn
  simp (disch := omega) only [I0, I1, I12, nLT, if_neg, nSUB, h.2.1, nSHR, nAND1, nBIT0, tin_nI, tgd_true, nC, (h.1 r h1 h2).1, (h.1 r h1 h2).2, oc_eq_none hr.1, oc_eq_man hr.1 hm, oc_eq_man hr.2 hm]
  unfold mayS msS
  cases (cM c).testBit (r - 1)
  · by_cases a1 : cO c r = 0
    · simp [a1, bI]
    · by_cases a2 : cO c r = m + 1
      · simp [a2, bI]
      · by_cases a3 : cL c r = m + 1
        · simp [a1, a2, a3, bI]
        · simp [a1, a2, a3, bI]
  · simp [bI]
theorem firstManOn_ok (h : RC c B) (hw : WF cb c) {p : Nat} (hp : p < 2147483648) : m1_firstManOn B (nI p) = some (match firstOn c p with | some j => nI j | none => -nI 1) := by
  unfold m1_firstManOn
  rw [I0]
  have key := tit_srch (F := m1_firstManOn_L2 B (nI p)) (fun i => nI i) (fun m => decide (cP c m = p)) 6 (fun j => some (nI j)) (some (-nI 1)) (fun rc i hi => by
    have hpl := (hw.2.2.1 i hi).2.2.2
    show m1_firstManOn_B2 B (nI p) rc (nI i) = _
    unfold m1_firstManOn_B2
    simp (disch := omega) only [I6, I1, nLE, if_neg, tin_nI, tgd_true, nC, (h.2.2.1 i hi).2.2, nEQ, tnm_eq, nI_add, decide_eq_true_eq]) (fun rc => by
    show m1_firstManOn_B2 B (nI p) rc (nI 6) = _
    unfold m1_firstManOn_B2
    simp (disch := omega) only [I6, I1, nLE, if_pos]) 6 FU 0 rfl (FU_gt (by decide))
  rw [key]
  unfold firstOn
  cases srch (fun m => decide (cP c m = p)) 0 6 <;> rfl
theorem menOnRoof_ok (h : RC c B) (hw : WF cb c) : m1_menOnRoof B = some (nI (rf c 6)) := by
  unfold m1_menOnRoof
  rw [I0]
  exact tit_run (fun i => (nI (rf c i), nI i)) 6 _ (fun rc i hi => by
    have hpl := (hw.2.2.1 i hi).2.2.2
    show m1_menOnRoof_B4 B rc (nI (rf c i)) (nI i) = _
    unfold m1_menOnRoof_B4
    simp (disch := omega) only [I6, I1, I13, nLE, if_neg, tin_nI, tgd_true, nC, (h.2.2.1 i hi).2.2, nEQ, tnm_eq, nI_add, nSHL1, nOR]
    show _ = rc (nI (if cP c i = 13 then rf c i ||| 2 ^ i else rf c i), nI (i + 1))
    by_cases q : cP c i = 13
    · rw [if_pos q, if_pos q]
    · rw [if_neg q, if_neg q]) (fun rc => by
    show m1_menOnRoof_B4 B rc (nI (rf c 6)) (nI 6) = _
    unfold m1_menOnRoof_B4
    simp (disch := omega) only [I6, nLE, if_pos]) FU (FU_gt (by decide))
theorem rungsOpenTo_ok (h : RC c B) (hw : WF cb c) {m : Nat} (hm : m < 6) : m1_rungsOpenTo B (nI m) = some (nI (mo c m 12)) := by
  unfold m1_rungsOpenTo
  rw [I0, I1]
  exact tit_run (fun i => (nI (mo c m i), nI (i + 1))) 12 _ (fun rc i hi => by
    show m1_rungsOpenTo_B4 B (nI m) rc (nI (mo c m i)) (nI (i + 1)) = _
    unfold m1_rungsOpenTo_B4
    simp (disch := omega) only [I12, I1, I0, nLT, if_neg, mayBeOn_ok h hw hm, tbd_some, bI_0, bitOf_in, tnm_eq, nI_add, nOR, Nat.add_sub_cancel]
    show _ = rc (nI (if mayS c m (i + 1) = true then mo c m i ||| 2 ^ i else mo c m i), nI (i + 1 + 1))
    cases mayS c m (i + 1) <;> rfl) (fun rc => by
    show m1_rungsOpenTo_B4 B (nI m) rc (nI (mo c m 12)) (nI 13) = _
    unfold m1_rungsOpenTo_B4
    simp (disch := omega) only [I12, nLT, if_pos]) FU (FU_gt (by decide))
end
