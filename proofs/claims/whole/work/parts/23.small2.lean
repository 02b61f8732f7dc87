/-! the reference's small questions -/
section
variable {c : CS} {T : SX10} {cb : Nat}
theorem in_ok {x lo hi : Nat} (hx : x < 2147483648) (hl : lo < 2147483648) (hh : hi < 2147483648) : m10_in (nI x) (nI lo) (nI hi) = some (bI (decide (lo ≤ x ∧ x ≤ hi))) := by
  unfold m10_in
  simp (disch := omega) only [nLT, I0, I1]
  by_cases a : x < lo
  · rw [if_pos a]; simp [bI]; omega
  · rw [if_neg a]
    by_cases b : hi < x
    · rw [if_pos b]; simp [bI]; omega
    · rw [if_neg b]; simp [bI]; omega
theorem isRung10_ok {x : Nat} (hx : x < 2147483648) : m10_isRung (nI x) = some (bI (decide (1 ≤ x ∧ x ≤ 12))) := by
  unfold m10_isRung
  simp (disch := omega) only [I1, I12, in_ok, tbd_some, tbl_bI, tgd_true]
theorem isMan10_ok {x : Nat} (hx : x < 2147483648) : m10_isMan (nI x) = some (bI (decide (0 ≤ x ∧ x ≤ 5))) := by
  unfold m10_isMan
  simp (disch := omega) only [I0, I5, in_ok, tbd_some, tbl_bI, tgd_true]
theorem has_ok {s k : Nat} (hs : s < 2147483648) (hk : k < 31) : m10_has (nI s) (nI k) = some (bI (s.testBit k)) := by
  unfold m10_has
  simp (disch := omega) only [I1, I0, nSHR, nAND1, nBITm]
  cases s.testBit k <;> rfl
theorem two_testBit {a k : Nat} (hk : 1 ≤ k) : (2 * a).testBit k = a.testBit (k - 1) := by
  obtain ⟨j, rfl⟩ : ∃ j, k = j + 1 := ⟨k - 1, by omega⟩
  rw [Nat.testBit_succ, Nat.mul_div_cancel_left _ (by decide : 0 < 2)]
  rfl
theorem isMissing10_ok (h : RM c (g10_now T)) (hw : WF cb c) {r : Nat} (h1 : 1 ≤ r) (h2 : r ≤ 12) : m10_isMissing T (nI r) = some (bI (msS c r)) := by
  have hm := hw.2.1
  unfold m10_isMissing
  simp (disch := omega) only [I45, nC, h.2.1, has_ok, tbd_some, tbl_bI, tgd_true, two_testBit h1]
  rfl
theorem may_ok (h : RM c (g10_now T)) (hw : WF cb c) {m r : Nat} (hm : m < 6) (h1 : 1 ≤ r) (h2 : r ≤ 12) : m10_may T (nI m) (nI r) = some (bI (mayS c m r)) := by
  have hr := hw.1 r h1 h2
  unfold m10_may
  simp (disch := omega) only [isMissing10_ok h hw, tbd_some, I0, I1, I13, bI_0, tin_nI, tgd_true, nC, nI_add, (h.1 r h1 h2).1, (h.1 r h1 h2).2, om_eq_man hr.1 hm, om_lt_0 hr.1, om_eq_man hr.2 hm]
  unfold mayS
  cases msS c r
  · by_cases a1 : cO c r = m + 1
    · simp [a1, bI]
    · by_cases a2 : cO c r = 0
      · simp [a2, bI]
      · by_cases a3 : cL c r = m + 1
        · simp [a1, a2, a3, bI]
        · simp [a1, a2, a3, bI]
  · simp [bI]
theorem standing_ok (h : RM c (g10_now T)) (hw : WF cb c) {p : Nat} (hp : p < 2147483648) : m10_standing T (nI p) = some (match firstOn c p with | some j => nI j | none => -nI 6) := by
  unfold m10_standing
  rw [I0]
  have key := tit_srch (F := m10_standing_L2 T (nI p)) (fun i => nI i) (fun m => decide (cP c m = p)) 6 (fun j => some (nI j)) (some (-nI 6)) (fun rc i hi => by
    have hpl := (hw.2.2.1 i hi).2.2.2
    show m10_standing_B2 T (nI p) rc (nI i) = _
    unfold m10_standing_B2
    simp (disch := omega) only [I6, I1, I38, nLE, if_neg, nI_add, tin_nI, tgd_true, nC, (h.2.2.1 i hi).2.2, nEQ, tnm_eq, decide_eq_true_eq]) (fun rc => by
    show m10_standing_B2 T (nI p) rc (nI 6) = _
    unfold m10_standing_B2
    simp (disch := omega) only [I6, I1, nLE, if_pos]) 6 FU 0 rfl (FU_gt (by decide))
  rw [key]
  unfold firstOn
  cases srch (fun m => decide (cP c m = p)) 0 6 <;> rfl
theorem roof_ok (h : RM c (g10_now T)) (hw : WF cb c) : m10_roof T = some (nI (rf c 6)) := by
  unfold m10_roof
  rw [I0]
  exact tit_run (fun i => (nI (rf c i), nI i)) 6 _ (fun rc i hi => by
    have hpl := (hw.2.2.1 i hi).2.2.2
    show m10_roof_B4 T rc (nI (rf c i)) (nI i) = _
    unfold m10_roof_B4 m10_roof_J32
    simp (disch := omega) only [I6, I1, I13, I0, I38, nLE, if_neg, nI_add, tin_nI, tgd_true, nC, (h.2.2.1 i hi).2.2, nEQ, tnm_eq, nSHL1, nOR, Nat.or_zero]
    show _ = rc (nI (if cP c i = 13 then rf c i ||| 2 ^ i else rf c i), nI (i + 1))
    by_cases q : cP c i = 13
    · rw [if_pos q, if_pos q]
    · rw [if_neg q, if_neg q]) (fun rc => by
    show m10_roof_B4 T rc (nI (rf c 6)) (nI 6) = _
    unfold m10_roof_B4
    simp (disch := omega) only [I6, nLE, if_pos]) FU (FU_gt (by decide))
theorem mayOnes_ok (h : RM c (g10_now T)) (hw : WF cb c) {m : Nat} (hm : m < 6) : m10_mayOnes T (nI m) = some (nI (mo c m 12)) := by
  unfold m10_mayOnes
  rw [I0, I1]
  exact tit_run (fun i => (nI (mo c m i), nI (i + 1))) 12 _ (fun rc i hi => by
    show m10_mayOnes_B4 T (nI m) rc (nI (mo c m i)) (nI (i + 1)) = _
    unfold m10_mayOnes_B4 m10_mayOnes_J29
    simp (disch := omega) only [I13, I1, I0, nLE, if_neg, may_ok h hw hm, tbd_some, bI_0, tnm_eq, nI_add, nSUB, nSHL1, nOR, Nat.add_sub_cancel, Nat.or_zero]
    show _ = rc (nI (if mayS c m (i + 1) = true then mo c m i ||| 2 ^ i else mo c m i), nI (i + 1 + 1))
    cases mayS c m (i + 1) <;> rfl) (fun rc => by
    show m10_mayOnes_B4 T (nI m) rc (nI (mo c m 12)) (nI 13) = _
    unfold m10_mayOnes_B4
    simp (disch := omega) only [I13, nLE, if_pos]) FU (FU_gt (by decide))
end
