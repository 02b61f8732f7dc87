/-! what acts do: the reference -/
section
variable {c : CS} {cb : Nat} {T : SX10}
theorem off_eq {a b : Nat} (ha : a ≤ 13) (hb : b ≤ 13) : (nI a - nI b = nI 0) ↔ a = b := by
  constructor
  · intro h
    have := congrArg Int32.toInt h
    rw [pk_sub_toInt (by omega) (by omega), nT (by omega)] at this
    omega
  · intro h; subst h; rw [nSUB (Nat.le_refl _)]; congr 1; omega
theorem off_lo {a b s : Nat} (ha : a ≤ 13) (hb : b ≤ 13) (hs : s ≤ 4) : (nI a - nI b < -nI s) ↔ a + s < b := by
  rw [Int32.lt_iff_toInt_lt, pk_sub_toInt (by omega) (by omega), negT (by omega)]
  omega
theorem off_hi {a b s : Nat} (ha : a ≤ 13) (hb : b ≤ 13) (hs : s ≤ 4) : (nI s < nI a - nI b) ↔ b + s < a := by
  rw [Int32.lt_iff_toInt_lt, pk_sub_toInt (by omega) (by omega), nT (by omega)]
  omega
def goT (c : CS) (T : SX10) (m p : Nat) : SX10 := s10_steps (s10_now T (upd (upd (g10_now T) (38 + m) (nI p)) 44 (nI (cT c ||| 2 ^ m)))) (g10_steps T + nI 1)
theorem goT_RM (h : RM c (g10_now T)) {m p : Nat} (hm : m < 6) : RM (doStep c m p) (g10_now (goT c T m p)) := by
  show RM (doStep c m p) (upd (upd (g10_now T) (38 + m) (nI p)) 44 (nI (cT c ||| 2 ^ m)))
  refine ⟨fun r h1 h2 => ?_, ?_, fun k hk => ?_, ?_, ?_⟩
  · simp (disch := omega) only [upd_e, if_neg]; exact h.1 r h1 h2
  · simp (disch := omega) only [upd_e, if_neg]; exact h.2.1
  · have := h.2.2.1 k hk
    show _ ∧ _ ∧ _ = nI (upN (cP c) m p k)
    unfold upN
    by_cases q : k = m
    · simp (disch := omega) only [upd_e, if_neg, if_pos]
      exact ⟨this.1, this.2.1, trivial⟩
    · simp (disch := omega) only [upd_e, if_neg]
      exact this
  · simp (disch := omega) only [upd_e, if_pos]; rfl
  · simp (disch := omega) only [upd_e, if_neg]; exact h.2.2.2.2
theorem goTo_ok (h : RM c (g10_now T)) (hw : WF cb c) {m p : Nat} (hm : m < 6) (hp : p ≤ 13) : m10_goTo T (nI m) (nI p) = some (nI (stepR c m p), if stepR c m p = 0 then goT c T m p else T) := by
  have hmm := hw.2.2.1 m hm
  have ht := hw.2.2.2.1
  have hj : m10_goTo_J98 T (nI m) (nI p) = some (nI 0, goT c T m p) := by
    unfold m10_goTo_J98
    simp (disch := omega) only [I38, I44, I0, I1, nI_add, tin_nI, tgd_true, nC, upd_e, if_neg, h.2.2.2.1, nSHL1, nOR]
    rfl
  unfold m10_goTo
  simp (disch := omega) only [I44, I38, I26, nC, h.2.2.2.1, has_ok, tbd_some, I0, I1, I2, I3, I4, I5, bI_0, nI_add, tin_nI, tgd_true, (h.2.2.1 m hm).2.2, (h.2.2.1 m hm).1, tnm_eq, off_eq]
  unfold stepR
  cases htb : (cT c).testBit m with
  | true => simp
  | false =>
    by_cases q1 : p = cP c m
    · have e3 : p = cP c m ∨ cP c m + cS c m < p ∨ p + cS c m < cP c m := Or.inl q1
      simp [eq_true e3, q1]
    · have e5 : m10_in (nI p - nI (cP c m)) (-nI (cS c m)) (nI (cS c m)) = some (bI (decide (¬ (cP c m + cS c m < p ∨ p + cS c m < cP c m)))) := by
        unfold m10_in
        simp (disch := omega) only [off_lo, off_hi, I0, I1]
        by_cases a : p + cS c m < cP c m
        · simp [a, bI]
        · by_cases b : cP c m + cS c m < p
          · simp [a, b, bI]
          · simp [a, b, bI]
      rw [e5]
      by_cases q2 : cP c m + cS c m < p ∨ p + cS c m < cP c m
      · simp [q1, q2, bI, tbd_some]
      · by_cases q3 : 1 ≤ p ∧ p ≤ 12
        · simp (disch := omega) only [isRung10_ok, tbd_some, isMissing10_ok h hw q3.1 q3.2, bI_0, may_ok h hw hm q3.1 q3.2, standing_ok h hw, q1, q2, q3]
          cases msS c p with
          | true => simp
          | false =>
            cases mayS c m p with
            | false => simp
            | true =>
              cases hf : firstOn c p with
              | none =>
                have e6 : -nI 6 < nI 0 := by decide
                simp [hj, e6]
              | some j =>
                have hj2 := srch_some hf
                have hne : ¬ nI j < nI 0 := fun q => by have := (nLT (by omega) (by omega)).mp q; omega
                simp [hne]
        · simp [isRung10_ok (show p < 2147483648 by omega), q3, hj, bI, tbd_some, q1, q2, (by decide : ¬ nI 1 = nI 0)]
def leaseT (c : CS) (T : SX10) (m r : Nat) : SX10 := s10_paid (s10_now T (upd (upd (upd (g10_now T) (32 + m) (nI (cC c m - 1))) (32 + (cO c r - 1)) (nI (upN (cC c) m (cC c m - 1) (cO c r - 1) + 1))) (13 + r) (nI m))) (g10_paid T + nI 1)
theorem leaseT_RM (h : RM c (g10_now T)) (hw : WF cb c) {m r : Nat} (hm : m < 6) (h1 : 1 ≤ r) (h2 : r ≤ 12) : RM (doLease c m r) (g10_now (leaseT c T m r)) := by
  have hrr := hw.1 r h1 h2
  show RM (doLease c m r) (upd (upd (upd (g10_now T) (32 + m) (nI (cC c m - 1))) (32 + (cO c r - 1)) (nI (upN (cC c) m (cC c m - 1) (cO c r - 1) + 1))) (13 + r) (nI m))
  refine ⟨fun k h1 h2 => ?_, ?_, fun k hk => ?_, ?_, ?_⟩
  · have := h.1 k h1 h2
    show _ ∧ _ = om (upN (cL c) r (m + 1) k)
    unfold upN
    by_cases q : k = r
    · simp (disch := omega) only [upd_e, if_neg, if_pos]
      exact ⟨this.1, rfl⟩
    · simp (disch := omega) only [upd_e, if_neg]
      exact this
  · simp (disch := omega) only [upd_e, if_neg]; exact h.2.1
  · have := h.2.2.1 k hk
    show _ ∧ _ = nI (upN (upN (cC c) m (cC c m - 1)) (cO c r - 1) (upN (cC c) m (cC c m - 1) (cO c r - 1) + 1) k) ∧ _
    refine ⟨?_, ?_, ?_⟩
    · simp (disch := omega) only [upd_e, if_neg]; exact this.1
    · by_cases q : k = cO c r - 1
      · conv => rhs; unfold upN
        simp (disch := omega) only [upd_e, if_neg, if_pos]; rfl
      · conv => rhs; unfold upN
        by_cases q2 : k = m
        · simp (disch := omega) only [upd_e, if_neg, if_pos]
        · simp (disch := omega) only [upd_e, if_neg]; exact this.2.1
    · simp (disch := omega) only [upd_e, if_neg]; exact this.2.2
  · simp (disch := omega) only [upd_e, if_neg]; exact h.2.2.2.1
  · simp (disch := omega) only [upd_e, if_neg]; exact h.2.2.2.2
theorem leaseTo10_ok (h : RM c (g10_now T)) (hw : WF cb c) {m r : Nat} (hm : m < 6) (h1 : 1 ≤ r) (h2 : r ≤ 12) (hcb : cb < 2147483647) : m10_leaseTo T (nI m) (nI r) = some (nI (leaseR c m r), if leaseR c m r = 0 then leaseT c T m r else T) := by
  have hrr := hw.1 r h1 h2
  have hmm := hw.2.2.1 m hm
  unfold m10_leaseTo
  simp (disch := omega) only [isMissing10_ok h hw, tbd_some, I0, I3, I6, I7, I8, I13, I32, bI_0, tin_nI, tgd_true, nC, nI_add, (h.1 r h1 h2).1, (h.1 r h1 h2).2, om_eq_man hrr.1 hm, om_ge_0 hrr.1, om_lt_0 hrr.2, (h.2.2.1 m hm).2.1, nEQ]
  unfold leaseR
  cases msS c r with
  | true => simp
  | false =>
    by_cases q1 : cO c r = m + 1
    · simp [q1]
    · by_cases q2 : cO c r = 0
      · simp [q2]
      · by_cases q3 : cL c r = 0
        · by_cases q4 : cC c m = 0
          · simp [q1, q2, q3, q4]
          · have hom : om (cO c r) = nI (cO c r - 1) := by unfold om; rw [if_neg q2]
            have hk : cO c r - 1 < 6 := by omega
            have hcc := (hw.2.2.1 _ hk).2.2.1
            have e1 : upd (g10_now T) (32 + m) (nI (cC c m - 1)) r = nI (cO c r - 1) := by
              simp (disch := omega) only [upd_e, if_neg]
              rw [(h.1 r h1 h2).1, hom]
            have e2 : upd (g10_now T) (32 + m) (nI (cC c m - 1)) (32 + (cO c r - 1)) = nI (upN (cC c) m (cC c m - 1) (cO c r - 1)) := by
              unfold upN
              by_cases q : cO c r - 1 = m
              · simp (disch := omega) only [upd_e, if_pos]
              · simp (disch := omega) only [upd_e, if_neg]
                exact (h.2.2.1 _ hk).2.1
            simp (disch := omega) only [I1, nSUB, e1, nI_add, nC, e2, tin_nI, tgd_true, q1, q2, q3, q4]
            simp
            rfl
        · simp [q1, q2, q3]
def loseT (c : CS) (T : SX10) (r : Nat) : SX10 := s10_now T (upd (upd (upd (g10_now T) 45 (nI (2 * cM c ^^^ 2 ^ r))) r (-nI 6)) (13 + r) (-nI 6))
theorem two_xor {a r : Nat} (h : 1 ≤ r) : 2 * a ^^^ 2 ^ r = 2 * (a ^^^ 2 ^ (r - 1)) := by
  obtain ⟨k, rfl⟩ : ∃ k, r = k + 1 := ⟨r - 1, by omega⟩
  apply Nat.eq_of_testBit_eq
  intro i
  rw [Nat.testBit_xor, Nat.testBit_two_pow]
  cases i with
  | zero => simp [Nat.testBit_zero]
  | succ i => rw [two_testBit (by omega), two_testBit (by omega), Nat.testBit_xor, Nat.testBit_two_pow]; simp
theorem loseT_RM (h : RM c (g10_now T)) {r : Nat} (h1 : 1 ≤ r) (h2 : r ≤ 12) : RM (doLose c r) (g10_now (loseT c T r)) := by
  show RM (doLose c r) (upd (upd (upd (g10_now T) 45 (nI (2 * cM c ^^^ 2 ^ r))) r (-nI 6)) (13 + r) (-nI 6))
  refine ⟨fun k k1 k2 => ?_, ?_, fun k hk => ?_, ?_, ?_⟩
  · have := h.1 k k1 k2
    show _ = om (upN (cO c) r 0 k) ∧ _ = om (upN (cL c) r 0 k)
    unfold upN
    by_cases q : k = r
    · simp (disch := omega) only [upd_e, if_neg, if_pos]
      exact ⟨rfl, rfl⟩
    · simp (disch := omega) only [upd_e, if_neg]
      exact this
  · simp (disch := omega) only [upd_e, if_neg, if_pos]
    rw [two_xor h1]; rfl
  · have := h.2.2.1 k hk
    simp (disch := omega) only [upd_e, if_neg]; exact this
  · simp (disch := omega) only [upd_e, if_neg]; exact h.2.2.2.1
  · simp (disch := omega) only [upd_e, if_neg]; exact h.2.2.2.2
theorem lose_ok (h : RM c (g10_now T)) (hw : WF cb c) {r : Nat} (h1 : 1 ≤ r) (h2 : r ≤ 12) (away : Bool) : m10_lose T (nI r) (bI away) = some (nI (loseR c r away), if loseR c r away = 0 then loseT c T r else T) := by
  have hmm := hw.2.1
  have e0 : (bI (msS c r) = bI away) ↔ msS c r = away := by cases msS c r <;> cases away <;> decide
  unfold m10_lose
  simp (disch := omega) only [isMissing10_ok h hw, tbd_some, I0, I1, I6, I9, I13, I45, tin_nI, tgd_true, nC, nI_add, h.2.1, nSHL1, nXOR, e0]
  unfold loseR
  by_cases q : msS c r = away
  · simp [q]
  · simp [q]; rfl
def beatT (c : CS) (T : SX10) : SX10 := s10_now T (upd (upd (g10_now T) 46 (nI (cB c + 1))) 44 (nI 0))
theorem beatT_RM (h : RM c (g10_now T)) : RM (doBeat c) (g10_now (beatT c T)) := by
  show RM (doBeat c) (upd (upd (g10_now T) 46 (nI (cB c + 1))) 44 (nI 0))
  refine ⟨fun k k1 k2 => ?_, ?_, fun k hk => ?_, ?_, ?_⟩
  · simp (disch := omega) only [upd_e, if_neg]; exact h.1 k k1 k2
  · simp (disch := omega) only [upd_e, if_neg]; exact h.2.1
  · simp (disch := omega) only [upd_e, if_neg]; exact h.2.2.1 k hk
  · simp (disch := omega) only [upd_e, if_pos]; rfl
  · simp (disch := omega) only [upd_e, if_pos, if_neg]; rfl
theorem endBeat_ok (h : RM c (g10_now T)) (hw : WF cb c) : m10_endBeat T = some (nI (beatR c), if beatR c = 0 then beatT c T else T) := by
  have hb := hw.2.2.2.2
  unfold m10_endBeat
  simp (disch := omega) only [I0, I1, I10, I44, I46, I99, nC, h.2.2.2.2, nEQ, nI_add]
  unfold beatR
  by_cases q : cB c = 99
  · simp [q]
  · simp [q]; rfl
end
