/-! fires act by act: the reference -/
def KP (T T' : SX10) : Prop := g10_book T' = g10_book T ∧ g10_sights T' = g10_sights T ∧ g10_sight T' = g10_sight T ∧ g10_signs T' = g10_signs T ∧ g10_pad T' = g10_pad T ∧ g10_image T' = g10_image T ∧ g10_isKept T' = g10_isKept T
theorem KP.refl (T : SX10) : KP T T := ⟨rfl, rfl, rfl, rfl, rfl, rfl, rfl⟩
theorem KP.trans {A B C : SX10} (h : KP A B) (g : KP B C) : KP A C := ⟨g.1.trans h.1, g.2.1.trans h.2.1, g.2.2.1.trans h.2.2.1, g.2.2.2.1.trans h.2.2.2.1, g.2.2.2.2.1.trans h.2.2.2.2.1, g.2.2.2.2.2.1.trans h.2.2.2.2.2.1, g.2.2.2.2.2.2.trans h.2.2.2.2.2.2⟩
theorem RPm.kp {n : Nat} {sg : Nat → Nat} {T T' : SX10} (h : RPm n sg T) (k : KP T T') : RPm n sg T' := by
  unfold RPm; rw [k.2.2.2.1, k.2.2.2.2.1]; exact h
def RFm (f : FT) (T : SX10) : Prop := g10_acts T = nI f.1 ∧ g10_steps T = nI f.2.1 ∧ g10_paid T = nI f.2.2.1 ∧ g10_roofAt T = upA f ∧ g10_roofWho T = upM f
def actT (c : CS) (T : SX10) (a : AC) : SX10 := if a.1 = 0 then goT c T a.2.1 a.2.2 else if a.1 = 1 then leaseT c T a.2.1 a.2.2 else if a.1 = 2 then loseT c T a.2.2 else if a.1 = 3 then loseT c T a.2.2 else beatT c T
section
variable {c : CS} {cb : Nat} {f : FT} {T : SX10} {n : Nat} {sg : Nat → Nat}
theorem shape (hw : WP n sg) {i : Nat} (hi : i < n) (h : wrS n sg i = none) :
    (sg i = 46 ∧ endS n sg i = i + 1 ∧ actS n sg i = (4, 0, 0)) ∨
    ((sg i = 107 ∨ sg i = 43) ∧ endS n sg i = i + 2 ∧ i + 2 ≤ n ∧ isR (sg (i + 1)) = true ∧ actS n sg i = (if sg i = 107 then 2 else 3, 0, sg (i + 1) - 96)) ∨
    ((65 ≤ sg i ∧ sg i ≤ 70) ∧ endS n sg i = i + 3 ∧ i + 3 ≤ n ∧ sg (i + 1) = 37 ∧ isR (sg (i + 2)) = true ∧ actS n sg i = (1, sg i - 65, sg (i + 2) - 96)) ∨
    ((65 ≤ sg i ∧ sg i ≤ 70) ∧ endS n sg i = i + 2 ∧ i + 2 ≤ n ∧ ¬ sg (i + 1) = 37 ∧ (sg (i + 1) = 94 ∨ sg (i + 1) = 95 ∨ isR (sg (i + 1)) = true) ∧ actS n sg i = (0, sg i - 65, plS (sg (i + 1)))) := by
  have e0 : sgn n sg i = sg i := sgn_in hi
  have hv := act_valid hw hi h
  have hpl : ∀ {s : Nat}, isR s = true → plS s = s - 96 := by
    intro s hs
    unfold plS
    have hs2 := hs
    unfold isR at hs2
    simp only [decide_eq_true_eq] at hs2
    rw [if_neg (by omega), if_pos hs]
  unfold wrS at h
  rw [e0] at h
  rcases hv.2.2 with a | a
  · left
    refine ⟨a, ?_, ?_⟩
    · unfold endS; rw [e0, a]; rfl
    · unfold actS; rw [e0, if_pos a]
  · have a46 : ¬ sg i = 46 := by omega
    have hN : needS (sg i) = true := by
      unfold needS isM
      simp only [Bool.or_eq_true, decide_eq_true_eq]
      omega
    rw [if_neg a46, if_neg (by rw [hN]; decide)] at h
    have hO : okLast n sg i = true := by
      by_cases q : okLast n sg i = true
      · exact q
      · rw [if_neg q] at h; cases h
    by_cases hM : 65 ≤ sg i ∧ sg i ≤ 70
    · right; right
      have hM1 : isM (sg i) = true := by unfold isM; simp only [decide_eq_true_eq]; exact hM
      by_cases q37 : sgn n sg (i + 1) = 37
      · left
        have hE : endS n sg i = i + 3 := by unfold endS; rw [e0, if_pos hN, if_pos ⟨q37, hM1⟩]
        have hle := hv.1
        rw [hE] at hle
        have e1 : sgn n sg (i + 1) = sg (i + 1) := sgn_in (by omega)
        have e2 : sgn n sg (i + 2) = sg (i + 2) := sgn_in (by omega)
        have hR : isR (sg (i + 2)) = true := by
          unfold okLast at hO
          rw [hE, show i + 3 - 1 = i + 2 by omega, e2] at hO
          simpa using hO
        refine ⟨hM, hE, hle, by rw [← e1]; exact q37, hR, ?_⟩
        unfold actS
        rw [e0, if_neg (by omega), if_neg (by omega), if_neg (by omega), if_pos hE, hE, show i + 3 - 1 = i + 2 by omega, e2, hpl hR]
      · right
        have hE : endS n sg i = i + 2 := by unfold endS; rw [e0, if_pos hN, if_neg (fun z => q37 z.1)]
        have hle := hv.1
        rw [hE] at hle
        have e1 : sgn n sg (i + 1) = sg (i + 1) := sgn_in (by omega)
        rw [e1] at q37
        refine ⟨hM, hE, hle, q37, ?_, ?_⟩
        · unfold okLast at hO
          rw [hE, show i + 2 - 1 = i + 1 by omega, e1] at hO
          simp only [Bool.or_eq_true, Bool.and_eq_true] at hO
          rcases hO with z | z
          · exact Or.inr (Or.inr z)
          · have z2 := z.2
            unfold isE at z2
            simp only [decide_eq_true_eq] at z2
            rcases z2 with z2 | z2
            · exact Or.inl z2
            · exact Or.inr (Or.inl z2)
        · unfold actS
          rw [e0, if_neg (by omega), if_neg (by omega), if_neg (by omega), if_neg (by omega), hE, show i + 2 - 1 = i + 1 by omega, e1]
    · right; left
      have hK : sg i = 107 ∨ sg i = 43 := by omega
      have hM1 : isM (sg i) = false := by unfold isM; simp only [decide_eq_false_iff_not]; exact hM
      have hE : endS n sg i = i + 2 := by unfold endS; rw [e0, if_pos hN, if_neg (fun z => by rw [hM1] at z; exact absurd z.2 (by decide))]
      have hle := hv.1
      rw [hE] at hle
      have e1 : sgn n sg (i + 1) = sg (i + 1) := sgn_in (by omega)
      have hR : isR (sg (i + 1)) = true := by
        unfold okLast at hO
        rw [e0, hM1, hE, show i + 2 - 1 = i + 1 by omega, e1] at hO
        simpa using hO
      refine ⟨hK, hE, hle, hR, ?_⟩
      unfold actS
      rw [e0, if_neg a46, hE, show i + 2 - 1 = i + 1 by omega, e1, hpl hR]
      by_cases q : sg i = 107
      · rw [if_pos q, if_pos q]
      · rw [if_neg q, if_neg q, if_pos (by omega)]
theorem actT_RM (h : RM c (g10_now T)) (hw : WF cb c) {a : AC} (ha : WA a) : RM (doS c a) (g10_now (actT c T a)) := by
  obtain ⟨k, m, p⟩ := a
  obtain ⟨h4, h0, h1, h23⟩ := ha
  dsimp only at h4 h0 h1 h23
  unfold doS actT
  dsimp only
  rcases (show k = 0 ∨ k = 1 ∨ k = 2 ∨ k = 3 ∨ k = 4 by omega) with rfl | rfl | rfl | rfl | rfl
  · exact goT_RM h (h0 rfl).1
  · exact leaseT_RM h hw (h1 rfl).1 (h1 rfl).2.1 (h1 rfl).2.2
  · exact loseT_RM h (h23 (Or.inl rfl)).1 (h23 (Or.inl rfl)).2
  · exact loseT_RM h (h23 (Or.inr rfl)).1 (h23 (Or.inr rfl)).2
  · exact beatT_RM h
theorem actT_KP (c : CS) (T : SX10) (a : AC) : KP T (actT c T a) := by
  unfold actT
  repeat' split
  all_goals exact ⟨rfl, rfl, rfl, rfl, rfl, rfl, rfl⟩
theorem actT_cnt (c : CS) (T : SX10) {a : AC} (h : a.1 ≤ 4) : g10_acts (actT c T a) = g10_acts T ∧ g10_steps (actT c T a) = g10_steps T + nI (if a.1 = 0 then 1 else 0) ∧ g10_paid (actT c T a) = g10_paid T + nI (if a.1 = 1 then 1 else 0) ∧ g10_roofAt (actT c T a) = g10_roofAt T ∧ g10_roofWho (actT c T a) = g10_roofWho T := by
  obtain ⟨k, m, p⟩ := a
  dsimp only at h ⊢
  have z : ∀ x : Int32, x = x + nI 0 := fun x => by
    have : nI 0 = 0 := by decide
    rw [this, Int32.add_zero]
  unfold actT
  rcases (show k = 0 ∨ k = 1 ∨ k = 2 ∨ k = 3 ∨ k = 4 by omega) with rfl | rfl | rfl | rfl | rfl
  · exact ⟨rfl, rfl, z _, rfl, rfl⟩
  · exact ⟨rfl, z _, rfl, rfl, rfl⟩
  · exact ⟨rfl, z _, z _, rfl, rfl⟩
  · exact ⟨rfl, z _, z _, rfl, rfl⟩
  · exact ⟨rfl, z _, z _, rfl, rfl⟩
theorem oneAct_ok (hP : RPm n sg T) (hp : WP n sg) (h : RM c (g10_now T)) (hw : WF cb c) (hcb : cb < 2147483647) {i : Nat} (hi : i < n) (hv : wrS n sg i = none) : m10_oneAct T (nI i) = some (nI (reasonS c (actS n sg i)), if reasonS c (actS n sg i) = 0 then actT c T (actS n sg i) else T) := by
  have hn := hp.1
  have hr {s : Nat} (q : isR s = true) : 97 ≤ s ∧ s ≤ 108 := by unfold isR at q; simpa using q
  have hs {s : Nat} (q : isR s = true) : nI s - nI 97 + nI 1 = nI (s - 96) := by
    have := hr q
    rw [nSUB (by omega), nI_add, show s - 97 + 1 = s - 96 by omega]
  have b0 := hp.2 i hi
  unfold m10_oneAct m10_oneAct_J39 m10_oneAct_J57 m10_oneAct_J125
  simp (disch := omega) only [tin_nI, tgd_true, tnm_eq, nC, hP.2 i hi, I46, I107, I43, I1, I37, I94, I95, I97, I2, I13, I0, I65, nEQ]
  rcases shape hp hi hv with ⟨a, -, e⟩ | ⟨a, -, hl, hR, e⟩ | ⟨a, -, hl, a37, hR, e⟩ | ⟨a, -, hl, a37, hR, e⟩
  · rw [e, if_pos a, endBeat_ok h hw, tbd_some]
    rfl
  · have b1 := hp.2 (i + 1) (by omega)
    simp (disch := omega) only [nI_add, tin_nI, tgd_true, tnm_eq, nC, hP.2 (i + 1) (by omega), hs hR, if_neg]
    have hh := hr hR
    rw [e]
    by_cases q : sg i = 107
    · rw [if_pos q, if_pos q, if_pos q, show nI 1 = bI true from rfl, lose_ok h hw (by omega) (by omega), tbd_some]
      rfl
    · rw [if_neg q, if_neg q, if_pos (by omega), show nI 0 = bI false from rfl, lose_ok h hw (by omega) (by omega), tbd_some]
      rfl
  · have b1 := hp.2 (i + 1) (by omega)
    have b2 := hp.2 (i + 2) (by omega)
    have hh := hr hR
    simp (disch := omega) only [nI_add, tin_nI, tgd_true, tnm_eq, nC, hP.2 (i + 1) (by omega), hP.2 (i + 2) (by omega), hs hR, if_neg, nEQ, if_pos, nSUB]
    rw [show sg (i + 2) - 97 + 1 = sg (i + 2) - 96 by omega, leaseTo10_ok h hw (by omega) (by omega) (by omega) hcb, tbd_some, e]
    rfl
  · have b1 := hp.2 (i + 1) (by omega)
    simp (disch := omega) only [nI_add, tin_nI, tgd_true, tnm_eq, nC, hP.2 (i + 1) (by omega), if_neg, nEQ, nSUB]
    rw [e]
    rcases hR with q | q | q
    · rw [if_pos q, goTo_ok h hw (by omega) (by omega), tbd_some, show plS (sg (i + 1)) = 13 by rw [q]; rfl]
      rfl
    · rw [if_neg (by omega), if_pos q, goTo_ok h hw (by omega) (by omega), tbd_some, show plS (sg (i + 1)) = 0 by rw [q]; rfl]
      rfl
    · have hh := hr q
      have e2 : plS (sg (i + 1)) = sg (i + 1) - 96 := by unfold plS; rw [if_neg (by omega), if_pos q]
      rw [if_neg (by omega), if_neg (by omega), e2, hs q, goTo_ok h hw (by omega) (by omega), tbd_some]
      rfl
-- who is fresh on the roof
theorem rf_bit (c : CS) : ∀ (k j : Nat), (rf c k).testBit j = (decide (j < k) && decide (cP c j = 13)) := by
  intro k
  induction k with
  | zero => intro j; show (0 : Nat).testBit j = _; simp
  | succ k ih =>
    intro j
    unfold rf
    by_cases q : cP c k = 13
    · rw [if_pos q, Nat.testBit_or, ih, Nat.testBit_two_pow]
      by_cases e : j = k
      · subst e; simp [q]
      · have : (k = j) = False := eq_false (fun z => e z.symm)
        simp only [this, decide_false, Bool.or_false]
        by_cases l : j < k
        · simp [l, Nat.lt_succ_of_lt l]
        · have : ¬ j < k + 1 := by omega
          simp [l, this]
    · rw [if_neg q, ih]
      by_cases e : j = k
      · subst e; simp [q]
      · by_cases l : j < k
        · simp [l, Nat.lt_succ_of_lt l]
        · have : ¬ j < k + 1 := by omega
          simp [l, this]
theorem rf_lt (c : CS) : ∀ k, rf c k < 2 ^ k := by
  intro k
  apply Nat.lt_pow_two_of_testBit
  intro i hi
  rw [rf_bit]
  have : ¬ i < k := by omega
  simp [this]
theorem fresh_bit (hw : WF cb c) {a : AC} (ha : WA a) (hr : reasonS c a = 0) {k : Nat} (hk : k < 6) : (rf (doS c a) 6 ^^^ (rf (doS c a) 6 &&& rf c 6)).testBit k = decide (a.1 = 0 ∧ a.2.2 = 13 ∧ k = a.2.1) := by
  rw [Nat.testBit_xor, Nat.testBit_and, rf_bit, rf_bit]
  obtain ⟨kk, m, p⟩ := a
  obtain ⟨h4, h0, h1, h23⟩ := ha
  dsimp only at h4 h0 h1 h23
  simp only [hk, decide_true, Bool.true_and]
  by_cases q0 : kk = 0
  · subst q0
    have e : cP (doS c (0, m, p)) k = upN (cP c) m p k := rfl
    have hst : stepR c m p = 0 := hr
    have hne : ¬ p = cP c m := by
      intro q
      unfold stepR at hst
      by_cases z : (cT c).testBit m = true
      · rw [if_pos z] at hst; omega
      · rw [if_neg z, if_pos (Or.inl q)] at hst; omega
    rw [e]
    unfold upN
    by_cases q1 : k = m
    · subst q1
      by_cases q2 : p = 13
      · have : ¬ cP c k = 13 := by omega
        simp [q2, this]
      · simp [q2]
    · simp [q1]
  · have e : cP (doS c (kk, m, p)) k = cP c k := by
      unfold doS
      dsimp only
      rw [if_neg q0]
      repeat' split
      all_goals rfl
    rw [e]
    simp [q0]
end
