/-! what acts do: the class -/
theorem upd_e {f : Nat → Int32} {k j : Nat} {x : Int32} : upd f k x j = if j = k then x else f j := rfl
theorem or_xor {a k : Nat} (h : a.testBit k = false) : a ||| 2 ^ k = a ^^^ 2 ^ k := by
  apply Nat.eq_of_testBit_eq
  intro i
  rw [Nat.testBit_or, Nat.testBit_xor, Nat.testBit_two_pow]
  by_cases q : k = i
  · subst q; rw [h]; simp
  · simp [q]
theorem clr_xor {a k : Nat} (h : a.testBit k = true) : a ^^^ (a &&& 2 ^ k) = a ^^^ 2 ^ k := by
  congr 1
  apply Nat.eq_of_testBit_eq
  intro i
  rw [Nat.testBit_and, Nat.testBit_two_pow]
  by_cases q : k = i
  · subst q; rw [h]; rfl
  · simp [q]
section
variable {c : CS} {cb : Nat} {B : SX1}
theorem moveTo_ok (h : RC c B) {m p : Nat} (hm : m < 6) : ∃ B', m1_moveTo B (nI m) (nI p) = some B' ∧ RC (doStep c m p) B' ∧ SG B B' := by
  refine ⟨s1_stepped (s1_place B (upd (g1_place B) m (nI p))) (nI (cT c ||| 2 ^ m)), ?_, ?_, ⟨rfl, rfl, rfl⟩⟩
  · unfold m1_moveTo
    simp (disch := omega) only [isMan_in, tbd_some, I0, I1, nEQ, if_neg, tin_nI, tgd_true, nC, h.2.2.2.1, nSHL1, nOR]
  · refine ⟨h.1, h.2.1, fun k hk => ⟨(h.2.2.1 k hk).1, (h.2.2.1 k hk).2.1, ?_⟩, rfl, h.2.2.2.2⟩
    show upd (g1_place B) m (nI p) k = nI (upN (cP c) m p k)
    rw [upd_e]; unfold upN
    by_cases q : k = m
    · rw [if_pos q, if_pos q]
    · rw [if_neg q, if_neg q]; exact (h.2.2.1 k hk).2.2
theorem leaseTo_ok (h : RC c B) (hw : WF cb c) {m r : Nat} (hm : m < 6) (h1 : 1 ≤ r) (h2 : r ≤ 12) (hcb : cb < 2147483647) (hr : leaseR c m r = 0) : ∃ B', m1_leaseTo B (nI m) (nI r) = some B' ∧ RC (doLease c m r) B' ∧ SG B B' := by
  have hrr := hw.1 r h1 h2
  have hmm := hw.2.2.1 m hm
  have ho : ¬ cO c r = 0 ∧ ¬ cC c m = 0 := by
    unfold leaseR at hr
    constructor
    · intro q; rw [q] at hr; revert hr; by_cases a : msS c r = true <;> simp [a]
    · intro q; rw [q] at hr; revert hr
      by_cases a : msS c r = true <;> simp [a]
      by_cases b : cO c r = m + 1 ∨ cO c r = 0 <;> simp [b]
      by_cases d : cL c r = 0 <;> simp [d]
  have hoc : oc (cO c r) = nI (cO c r - 1) := by unfold oc; rw [if_neg ho.1]
  have hk : cO c r - 1 < 6 := by omega
  have hcm : g1_coins B m = nI (cC c m) := (h.2.2.1 m hm).2.1
  have hck : g1_coins B (cO c r - 1) = nI (cC c (cO c r - 1)) := (h.2.2.1 _ hk).2.1
  have hcc := (hw.2.2.1 _ hk).2.2.1
  refine ⟨s1_coins (s1_leaser B (upd (g1_leaser B) r (nI m))) (upd (upd (g1_coins B) m (nI (cC c m - 1))) (cO c r - 1) (nI (upN (cC c) m (cC c m - 1) (cO c r - 1) + 1))), ?_, ?_, ⟨rfl, rfl, rfl⟩⟩
  · have e : upd (g1_coins B) m (nI (cC c m - 1)) (cO c r - 1) = nI (upN (cC c) m (cC c m - 1) (cO c r - 1)) := by
      rw [upd_e]; unfold upN
      by_cases q : cO c r - 1 = m
      · rw [if_pos q, if_pos q]
      · rw [if_neg q, if_neg q, hck]
    unfold m1_leaseTo m1_leaseTo_J17
    simp (disch := omega) only [isRung_in, isMan_in, tbd_some, I0, I1, nEQ, if_neg, tin_nI, tgd_true, nC, (h.1 r h1 h2).1, hoc, hcm, nSUB, e, nI_add]
  · refine ⟨fun k k1 k2 => ⟨(h.1 k k1 k2).1, ?_⟩, h.2.1, fun k hk => ⟨(h.2.2.1 k hk).1, ?_, (h.2.2.1 k hk).2.2⟩, h.2.2.2.1, h.2.2.2.2⟩
    · show upd (g1_leaser B) r (nI m) k = oc (upN (cL c) r (m + 1) k)
      rw [upd_e]; unfold upN
      by_cases q : k = r
      · rw [if_pos q, if_pos q]; rfl
      · rw [if_neg q, if_neg q]; exact (h.1 k k1 k2).2
    · show upd (upd (g1_coins B) m (nI (cC c m - 1))) (cO c r - 1) (nI (upN (cC c) m (cC c m - 1) (cO c r - 1) + 1)) k = nI (upN (upN (cC c) m (cC c m - 1)) (cO c r - 1) (upN (cC c) m (cC c m - 1) (cO c r - 1) + 1) k)
      rw [upd_e, upd_e]
      by_cases q : k = cO c r - 1
      · rw [if_pos q]
        conv => rhs; unfold upN
        rw [if_pos q]; rfl
      · rw [if_neg q]
        conv => rhs; unfold upN
        rw [if_neg q]
        by_cases q2 : k = m
        · rw [if_pos q2, if_pos q2]
        · rw [if_neg q2, if_neg q2]; exact (h.2.2.1 k hk).2.1
theorem setRung_ok (h : RC c B) {r o l : Nat} (h1 : 1 ≤ r) (h2 : r ≤ 12) (away : Bool) : ∃ B', m1_setRung B (nI r) (oc o) (oc l) (bI away) = some B' ∧ RC (upN (cO c) r o, upN (cL c) r l, (if away = true then cM c ||| 2 ^ (r - 1) else cM c ^^^ (cM c &&& 2 ^ (r - 1))), cS c, cC c, cP c, cT c, cB c) B' ∧ SG B B' := by
  refine ⟨s1_missing (s1_leaser (s1_owner B (upd (g1_owner B) r (oc o))) (upd (g1_leaser B) r (oc l))) (nI (if away = true then cM c ||| 2 ^ (r - 1) else cM c ^^^ (cM c &&& 2 ^ (r - 1)))), ?_, ?_, ⟨rfl, rfl, rfl⟩⟩
  · unfold m1_setRung
    simp (disch := omega) only [isRung_in, bitOf_in, tbd_some, I0, I1, nEQ, if_neg, tin_nI, tgd_true, nC, h.2.1, nCLR, nOR, bI_0]
    cases away <;> rfl
  · refine ⟨fun k k1 k2 => ?_, rfl, h.2.2.1, h.2.2.2.1, h.2.2.2.2⟩
    show upd (g1_owner B) r (oc o) k = oc (upN (cO c) r o k) ∧ upd (g1_leaser B) r (oc l) k = oc (upN (cL c) r l k)
    rw [upd_e, upd_e]; unfold upN
    by_cases q : k = r
    · rw [if_pos q, if_pos q, if_pos q, if_pos q]; exact ⟨rfl, rfl⟩
    · rw [if_neg q, if_neg q, if_neg q, if_neg q]; exact h.1 k k1 k2
-- an act: kind, man, place
abbrev AC : Type := Nat × Nat × Nat
def WA (a : AC) : Prop := a.1 ≤ 4 ∧ (a.1 = 0 → a.2.1 < 6 ∧ a.2.2 ≤ 13) ∧ (a.1 = 1 → a.2.1 < 6 ∧ 1 ≤ a.2.2 ∧ a.2.2 ≤ 12) ∧ ((a.1 = 2 ∨ a.1 = 3) → 1 ≤ a.2.2 ∧ a.2.2 ≤ 12)
def actI (a : AC) : SX0 := (nI a.1, nI a.2.1, nI a.2.2)
def reasonS (c : CS) (a : AC) : Nat := if a.1 = 0 then stepR c a.2.1 a.2.2 else if a.1 = 1 then leaseR c a.2.1 a.2.2 else if a.1 = 2 then loseR c a.2.2 true else if a.1 = 3 then loseR c a.2.2 false else beatR c
def doS (c : CS) (a : AC) : CS := if a.1 = 0 then doStep c a.2.1 a.2.2 else if a.1 = 1 then doLease c a.2.1 a.2.2 else if a.1 = 2 then doLose c a.2.2 else if a.1 = 3 then doLose c a.2.2 else doBeat c
theorem reasonAgainst_ok (h : RC c B) (hw : WF cb c) (hcb : cb < 2147483647) {a : AC} (ha : WA a) : m1_reasonAgainst B (actI a) = some (nI (reasonS c a)) := by
  obtain ⟨k, m, p⟩ := a
  obtain ⟨h4, h0, h1, h23⟩ := ha
  dsimp only at h4 h0 h1 h23
  unfold m1_reasonAgainst m0_kindOf m0_doer m0_target
  show tbd (some (nI k)) _ = _
  have hb := hw.2.2.2.2
  rcases (show k = 0 ∨ k = 1 ∨ k = 2 ∨ k = 3 ∨ k = 4 by omega) with rfl | rfl | rfl | rfl | rfl
  · have := h0 rfl
    simp only [tbd_some, I0, if_true]
    show tbd (m1_reasonAgainstStep B (nI m) (nI p)) _ = _
    rw [reasonStep_ok h hw this.1 this.2]; rfl
  · have := h1 rfl
    simp (disch := omega) only [tbd_some, I0, I1, nEQ, if_true, if_neg]
    show tbd (m1_reasonAgainstLease B (nI m) (nI p)) _ = _
    rw [reasonLease_ok h hw this.1 this.2.1 this.2.2 (by omega)]; rfl
  · have := h23 (Or.inl rfl)
    simp (disch := omega) only [tbd_some, I0, I1, I2, I9, nEQ, if_true, if_neg]
    show tbd (m1_isMissing B (nI p)) _ = _
    rw [isMissing_ok h hw this.1 this.2, tbd_some]
    show (if bI (msS c p) = nI 0 then some (nI 0) else some (nI 9)) = some (nI (loseR c p true))
    unfold loseR
    cases msS c p <;> rfl
  · have := h23 (Or.inr rfl)
    simp (disch := omega) only [tbd_some, I0, I1, I2, I3, I9, nEQ, if_true, if_neg]
    show tbd (m1_isMissing B (nI p)) _ = _
    rw [isMissing_ok h hw this.1 this.2, tbd_some]
    show (if bI (msS c p) = nI 0 then some (nI 9) else some (nI 0)) = some (nI (loseR c p false))
    unfold loseR
    cases msS c p <;> rfl
  · simp (disch := omega) only [tbd_some, I0, I1, I2, I3, I10, I99, nEQ, if_neg, h.2.2.2.2, nLT]
    show _ = some (nI (beatR c))
    unfold beatR
    by_cases q : cB c = 99
    · simp [q]
    · have : cB c < 99 := by omega
      simp [q, this]
theorem WF_do (hw : WF cb c) {a : AC} (ha : WA a) (hr : reasonS c a = 0) : WF (cb + 1) (doS c a) := by
  obtain ⟨k, m, p⟩ := a
  obtain ⟨h4, h0, h1, h23⟩ := ha
  dsimp only at h4 h0 h1 h23
  rcases (show k = 0 ∨ k = 1 ∨ k = 2 ∨ k = 3 ∨ k = 4 by omega) with rfl | rfl | rfl | rfl | rfl
  · have := h0 rfl; exact (WF_step hw this.1 this.2).mono (by omega)
  · have := h1 rfl; exact WF_lease hw this.1 this.2.1 this.2.2
  · have := h23 (Or.inl rfl); exact (WF_lose hw this.1 this.2).mono (by omega)
  · have := h23 (Or.inr rfl); exact (WF_lose hw this.1 this.2).mono (by omega)
  · exact (WF_beat hw hr).mono (by omega)
theorem perform_ok (h : RC c B) (hw : WF cb c) (hcb : cb < 2147483647) {a : AC} (ha : WA a) (hr : reasonS c a = 0) : ∃ B', m1_perform B (actI a) = some B' ∧ RC (doS c a) B' ∧ SG B B' := by
  obtain ⟨k, m, p⟩ := a
  obtain ⟨h4, h0, h1, h23⟩ := ha
  dsimp only at h4 h0 h1 h23
  unfold m1_perform m0_kindOf m0_doer m0_target
  have hb := hw.2.2.2.2
  rcases (show k = 0 ∨ k = 1 ∨ k = 2 ∨ k = 3 ∨ k = 4 by omega) with rfl | rfl | rfl | rfl | rfl
  · have := h0 rfl
    obtain ⟨B', e1, e2, e3⟩ := moveTo_ok h (p := p) this.1
    refine ⟨B', ?_, e2, e3⟩
    show tbd (some (nI 0)) _ = _
    simp only [tbd_some, I0, if_true]
    show tbd (m1_moveTo B (nI m) (nI p)) _ = _
    rw [e1]; rfl
  · have := h1 rfl
    obtain ⟨B', e1, e2, e3⟩ := leaseTo_ok h hw this.1 this.2.1 this.2.2 hcb hr
    refine ⟨B', ?_, e2, e3⟩
    show tbd (some (nI 1)) _ = _
    simp (disch := omega) only [tbd_some, I0, I1, nEQ, if_true, if_neg]
    show tbd (m1_leaseTo B (nI m) (nI p)) _ = _
    rw [e1]; rfl
  · have := h23 (Or.inl rfl)
    obtain ⟨B', e1, e2, e3⟩ := setRung_ok h (o := 0) (l := 0) this.1 this.2 true
    refine ⟨B', ?_, ?_, e3⟩
    · show tbd (some (nI 2)) _ = _
      simp (disch := omega) only [tbd_some, I0, I1, I2, nEQ, if_true, if_neg]
      show tbd (m1_setRung B (nI p) (oc 0) (oc 0) (bI true)) _ = _
      rw [e1]; rfl
    · have hm : msS c p = false := by
        have hr : loseR c p true = 0 := hr
        unfold loseR at hr
        cases hms : msS c p with
        | false => rfl
        | true => rw [hms] at hr; cases hr
      have e4 : (upN (cO c) p 0, upN (cL c) p 0, (if true = true then cM c ||| 2 ^ (p - 1) else cM c ^^^ (cM c &&& 2 ^ (p - 1))), cS c, cC c, cP c, cT c, cB c) = doLose c p := by
        rw [if_pos rfl, or_xor hm]; rfl
      rw [e4] at e2
      exact e2
  · have := h23 (Or.inr rfl)
    obtain ⟨B', e1, e2, e3⟩ := setRung_ok h (o := 0) (l := 0) this.1 this.2 false
    refine ⟨B', ?_, ?_, e3⟩
    · show tbd (some (nI 3)) _ = _
      simp (disch := omega) only [tbd_some, I0, I1, I2, I3, nEQ, if_true, if_neg]
      show tbd (m1_setRung B (nI p) (oc 0) (oc 0) (bI false)) _ = _
      rw [e1]; rfl
    · have hm : msS c p = true := by
        have hr : loseR c p false = 0 := hr
        unfold loseR at hr
        cases hms : msS c p with
        | true => rfl
        | false => rw [hms] at hr; cases hr
      have e4 : (upN (cO c) p 0, upN (cL c) p 0, (if false = true then cM c ||| 2 ^ (p - 1) else cM c ^^^ (cM c &&& 2 ^ (p - 1))), cS c, cC c, cP c, cT c, cB c) = doLose c p := by
        rw [if_neg (by decide), clr_xor hm]; rfl
      rw [e4] at e2
      exact e2
  · refine ⟨s1_beat (s1_stepped B (nI 0)) (nI (cB c + 1)), ?_, ⟨h.1, h.2.1, h.2.2.1, rfl, rfl⟩, ⟨rfl, rfl, rfl⟩⟩
    show tbd (some (nI 4)) _ = _
    simp (disch := omega) only [tbd_some, I0, I1, I2, I3, nEQ, if_neg, h.2.2.2.2, nI_add]
end
