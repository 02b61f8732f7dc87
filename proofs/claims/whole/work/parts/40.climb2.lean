/-! climb, ways: the calls -/
def fsP (op : Nat → Bool) (f : Nat → Nat) (p : Nat) (i : Nat) : Bool := op (p + 1 + i) && decide (nI (f (p + 1 + i)) = nI (f p) - nI 1)
section
variable {c : CS} {B : SX1} {cb : Nat}
theorem fS_cl {T : SX7} {a p s : Nat} (ha : a < 2147483648) (hp : p ≤ 13) (hs : s ≤ 4) {f : Nat → Nat} (hf : ∀ q, q ≤ 13 → g7_settled T q = nI (f q)) {op : Nat → Bool} (ho : ∀ q, 1 ≤ q → q ≤ 13 → a.testBit (q - 1) = op q) : tit (m7_firstStep_L62 T B (nI a) (nI (f p)) (nI (min (p + s) 13))) FU (nI (p + 1)) = match srch (fsP op f p) 0 (min s (13 - p)) with
    | some j => some (nI (p + 1 + j), T)
    | none => some (-nI 6, T) := by
  exact tit_srch (fun i => nI (p + 1 + i)) (fsP op f p) (min s (13 - p)) (fun j => some (nI (p + 1 + j), T)) (some (-nI 6, T)) (fun rc i hi => by
    show m7_firstStep_B62 T B (nI a) (nI (f p)) (nI (min (p + s) 13)) rc (nI (p + 1 + i)) = if fsP op f p i = true then some (nI (p + 1 + i), T) else rc (nI (p + 1 + i + 1))
    unfold m7_firstStep_B62 fsP
    simp (disch := omega) only [nLT, if_neg, isOpen_ok ha, tbd_some, ho, I0, bI_0, I1, nI_add, tnm_eq, settledAt_ok, hf]
    cases op (p + 1 + i)
    · rfl
    · rw [if_neg (by decide), Bool.true_and]
      by_cases e : nI (f (p + 1 + i)) = nI (f p) - nI 1
      · rw [if_pos e, if_pos (decide_eq_true e)]
      · rw [if_neg e, if_neg (by simpa using e)]) (fun rc => by
    show m7_firstStep_B62 T B (nI a) (nI (f p)) (nI (min (p + s) 13)) rc (nI (p + 1 + min s (13 - p))) = _
    unfold m7_firstStep_B62
    simp (disch := omega) only [nLT, if_pos]
    rfl) (min s (13 - p)) FU 0 (by omega) (FU_gt (by omega))
theorem fS_re {T : SX10} {m p : Nat} (h : RM c (g10_now T)) (hw : WF cb c) (hm : m < 6) (hp : p ≤ 13) {f : Nat → Nat} (hf : ∀ q, q ≤ 13 → g10_few T q = nI (f q)) : tit (m10_climb_L71 T (nI m) (nI p)) FU (nI (p + 1)) = match srch (fsP (opS c m 0) f p) 0 (min (cS c m) (13 - p)) with
    | some j => some (nI (p + 1 + j), T)
    | none => some (-nI 6, T) := by
  have hh := hw.2.2.1 m hm
  have hst : g10_now T (26 + m) = nI (cS c m) := (h.2.2.1 m hm).1
  exact tit_srch (fun i => nI (p + 1 + i)) (fsP (opS c m 0) f p) (min (cS c m) (13 - p)) (fun j => some (nI (p + 1 + j), T)) (some (-nI 6, T)) (fun rc i hi => by
    show m10_climb_B71 T (nI m) (nI p) rc (nI (p + 1 + i)) = if fsP (opS c m 0) f p i = true then some (nI (p + 1 + i), T) else rc (nI (p + 1 + i + 1))
    have hJ : opS c m 0 (p + 1 + i) = true → m10_climb_J111 T (nI m) (nI p) (nI (p + 1 + i)) rc = if fsP (opS c m 0) f p i = true then some (nI (p + 1 + i), T) else rc (nI (p + 1 + i + 1)) := by
      intro ho
      unfold m10_climb_J111 fsP
      simp (disch := omega) only [tin_nI, tgd_true, nC, hf, I1, tnm_eq, nI_add, ho, Bool.true_and]
      by_cases e : nI (f (p + 1 + i)) = nI (f p) - nI 1
      · rw [if_pos e, if_pos (decide_eq_true e)]
      · rw [if_neg e, if_neg (by simpa using e)]
    unfold m10_climb_B71
    simp (disch := omega) only [I26, I13, I1, nI_add, tin_nI, tgd_true, nC, hst, nLT, if_neg, nEQ]
    by_cases e : p + 1 + i = 13
    · rw [if_pos e]
      exact hJ (by unfold opS; rw [decide_eq_true e]; simp)
    · have e3 : decide (p + 1 + i = 13) = false := decide_eq_false e
      rw [if_neg e, may_ok h hw hm (by omega) (by omega), tbd_some]
      simp only [I0, bI_0]
      cases e1 : mayS c m (p + 1 + i)
      · have ho : opS c m 0 (p + 1 + i) = false := by unfold opS; rw [e1, e3, Nat.zero_testBit]; rfl
        rw [if_pos rfl, tnm_eq]
        unfold fsP
        rw [ho]; rfl
      · rw [if_neg (by decide)]
        exact hJ (by unfold opS; rw [e1]; simp)) (fun rc => by
    show m10_climb_B71 T (nI m) (nI p) rc (nI (p + 1 + min (cS c m) (13 - p))) = _
    unfold m10_climb_B71
    simp (disch := omega) only [I26, I13, nI_add, tin_nI, tgd_true, nC, hst, nLT, tnm_eq]
    by_cases e : p + cS c m < p + 1 + min (cS c m) (13 - p)
    · rw [if_pos e]; rfl
    · rw [if_neg e, if_pos (by omega)]; rfl) (min (cS c m) (13 - p)) FU 0 (by omega) (FU_gt (by omega))
end
section
variable {cb : Nat} {B : SX1} {P : SX5} {J0 J1 : Option SX1} {M : SX10}
theorem climb_c (h : Inv cb B P J0 J1 M) (R : SX7) (x y : Int32) : ∃ v R' M', m9_climb () B R x y = some (v, R') ∧ m10_climb M x y = some (v, M') ∧ KP M M' := by
  obtain ⟨⟨c, q, sr, sw, hw, hRC, hRM, -⟩, -⟩ := h
  unfold m9_climb m10_climb
  simp only [within_eq, I0, I1]
  rcases rng x 0 5 (by decide) (by decide) with ⟨m, -, hm5, rfl⟩ | ho
  · have hm : m < 6 := by omega
    rw [isMan_in hm, isMan10_in hm, tbd_some, tbd_some]
    simp only [n10, if_false]
    rcases rng y 0 1 (by decide) (by decide) with ⟨w, -, hw1, rfl⟩ | ho
    · rw [in_in (by omega) hw1 (by omega), tbd_some, tbd_some]
      simp only [n10, if_false]
      have hp := (hw.2.2.1 m hm).2.2.2
      have hs := (hw.2.2.1 m hm).2.1
      obtain ⟨T1, a1, a2, a3, -⟩ := asNow_ok hRM
      obtain ⟨T2, b1, b2, b3, b4⟩ := layClimb_ok (more := 0) a2 hw hm (by decide)
      obtain ⟨R', r1, r2⟩ := settleSteps_ok hRC hw hm R
      have hfl := VM_le (w := wF (opS c m 0)) (s := cS c m) hp
      have hb2 : RM c (g10_now T2) := by rw [b2]; exact a2
      have hpl : g10_now T2 (38 + m) = nI (cP c m) := (hb2.2.2.1 m hm).2.2
      rw [a1, tbd_some, b1, tbd_some]
      unfold m7_fewestSteps m7_firstStep
      simp only [r1, tbd_some, placeOf_ok hRC hm, rungsOpenTo_ok hRC hw hm, tnm_eq, settledAt_ok hp, strideOf_ok hRC hm, r2 _ hp]
      simp (disch := omega) only [I38, I1000000, I4096, I1, nI_add, tin_nI, tgd_true, nC, hpl, tnm_eq, (b4 _ hp).1, nLT, nEQ, nOR, nMIN, I13]
      by_cases e : nI (few (opS c m 0) (cS c m) (cP c m)) < nI 1000000
      · rw [if_pos e, if_pos e, if_pos e]
        by_cases ew : w = 0
        · rw [if_pos ew, if_pos ew, tbd_some]
          exact ⟨_, _, _, rfl, rfl, a3.trans b3⟩
        · rw [if_neg ew, if_neg ew]
          rw [fS_cl (Nat.lt_trans (mo_or_lt c m) (by decide)) hp hs r2 (fun q h1 h2 => open_bit c m h1 h2), fS_re hb2 hw hm hp (fun q hq => (b4 q hq).1)]
          cases srch (fsP (opS c m 0) (few (opS c m 0) (cS c m)) (cP c m)) 0 (min (cS c m) (13 - cP c m))
          · exact ⟨_, _, _, rfl, rfl, a3.trans b3⟩
          · exact ⟨_, _, _, rfl, rfl, a3.trans b3⟩
      · rw [if_neg e, if_neg e, if_neg e]
        by_cases ew : w = 0
        · rw [if_pos ew]
          exact ⟨_, _, _, rfl, rfl, a3.trans b3⟩
        · rw [if_neg ew]
          exact ⟨_, _, _, rfl, rfl, a3.trans b3⟩
    · rw [in_out ho, tbd_some, tbd_some]
      exact ⟨_, _, _, rfl, rfl, KP.refl M⟩
  · rw [isMan_out ho, isMan10_out ho, tbd_some, tbd_some]
    exact ⟨_, _, _, rfl, rfl, KP.refl M⟩
theorem ways_c (h : Inv cb B P J0 J1 M) (R : SX7) (x : Int32) : ∃ v R' M', m9_ways () B R x = some (v, R') ∧ m10_ways M x = some (v, M') ∧ KP M M' := by
  obtain ⟨⟨c, q, sr, sw, hw, hRC, hRM, -⟩, -⟩ := h
  unfold m9_ways m10_ways
  simp only [I0, I1]
  rcases rng x 0 5 (by decide) (by decide) with ⟨m, -, hm5, rfl⟩ | ho
  · have hm : m < 6 := by omega
    rw [isMan_in hm, isMan10_in hm, tbd_some, tbd_some]
    simp only [n10, if_false]
    have hp := (hw.2.2.1 m hm).2.2.2
    obtain ⟨T1, a1, a2, a3, -⟩ := asNow_ok hRM
    obtain ⟨T2, b1, b2, b3, b4⟩ := layClimb_ok (more := 0) a2 hw hm (by decide)
    obtain ⟨R', r1⟩ := countUp_ok hRC hw hm R
    have hb2 : RM c (g10_now T2) := by rw [b2]; exact a2
    have hpl : g10_now T2 (38 + m) = nI (cP c m) := (hb2.2.2.1 m hm).2.2
    rw [a1, tbd_some, b1, tbd_some, r1, tbd_some]
    simp (disch := omega) only [I38, nI_add, tin_nI, tgd_true, nC, hpl, (b4 _ hp).2]
    exact ⟨_, _, _, rfl, rfl, a3.trans b3⟩
  · rw [isMan_out ho, isMan10_out ho, tbd_some, tbd_some]
    exact ⟨_, _, _, rfl, rfl, KP.refl M⟩
end
