/-! rung, man, told, image, restore -/
theorem two_or {a r : Nat} (h : 1 ≤ r) : (2 * a ^^^ (2 * a &&& 2 ^ r)) ||| 2 ^ r = 2 * (a ||| 2 ^ (r - 1)) := by
  apply Nat.eq_of_testBit_eq
  intro i
  rcases i with _ | i
  · simp [Nat.testBit_zero]
    have : 2 ^ r % 2 = 0 := by
      obtain ⟨j, rfl⟩ : ∃ j, r = j + 1 := ⟨r - 1, by omega⟩
      rw [Nat.pow_succ]; omega
    omega
  · rw [Nat.testBit_or, Nat.testBit_xor, Nat.testBit_and, two_testBit (by omega), two_testBit (by omega), Nat.testBit_or, Nat.testBit_two_pow, Nat.testBit_two_pow]
    have e : (r = i + 1) ↔ (r - 1 = i + 1 - 1) := by omega
    simp only [e]
    cases a.testBit (i + 1 - 1) <;> cases decide (r - 1 = i + 1 - 1) <;> rfl
theorem two_clr {a r : Nat} (h : 1 ≤ r) : (2 * a ^^^ (2 * a &&& 2 ^ r)) = 2 * (a ^^^ (a &&& 2 ^ (r - 1))) := by
  apply Nat.eq_of_testBit_eq
  intro i
  rcases i with _ | i
  · simp [Nat.testBit_zero]
  · rw [Nat.testBit_xor, Nat.testBit_and, two_testBit (by omega), two_testBit (by omega), Nat.testBit_xor, Nat.testBit_and, Nat.testBit_two_pow, Nat.testBit_two_pow]
    have e : (r = i + 1) ↔ (r - 1 = i + 1 - 1) := by omega
    simp only [e]
theorem rngM (x : Int32) : (∃ o, o ≤ 6 ∧ x = oc o) ∨ (x < -nI 1 ∨ nI 5 < x) := by
  by_cases e : x = -nI 1
  · exact Or.inl ⟨0, by omega, e⟩
  · rcases rng x 0 5 (by decide) (by decide) with ⟨k, -, hk, rfl⟩ | h
    · left
      exact ⟨k + 1, by omega, by unfold oc; rw [if_neg (by omega)]; rfl⟩
    · right
      rcases h with h | h
      · left
        have h1 := Int32.lt_iff_toInt_lt.mp h
        rw [nT (by decide)] at h1
        rw [Int32.lt_iff_toInt_lt, negT (by decide)]
        have h2 : x.toInt ≠ (-nI 1).toInt := fun q => e (Int32.toInt_inj.mp q)
        rw [negT (by decide)] at h2
        omega
      · exact Or.inr h
theorem orNob_in : ∀ o, o < 7 → m9_isManOrNobody (oc o) = some (nI 1) ∧ m10_in (oc o) (-nI 1) (nI 5) = some (nI 1) := by decide
theorem orNob_out {x : Int32} (h : x < -nI 1 ∨ nI 5 < x) : m9_isManOrNobody x = some (nI 0) ∧ m10_in x (-nI 1) (nI 5) = some (nI 0) := by
  constructor
  · unfold m9_isManOrNobody
    have e : ¬ x = -nI 1 := by
      intro q
      subst q
      rcases h with h | h
      · exact absurd h (by decide)
      · exact absurd h (by decide)
    have h2 : x < nI 0 ∨ nI 5 < x := by
      rcases h with h | h
      · left
        have h1 := Int32.lt_iff_toInt_lt.mp h
        rw [negT (by decide)] at h1
        rw [Int32.lt_iff_toInt_lt, nT (by decide)]
        omega
      · exact Or.inr h
    simp only [I1, I0]
    rw [if_neg e, isMan_out h2, tbd_some, if_pos rfl]
  · unfold m10_in
    simp only [I0, I1]
    by_cases a : x < -nI 1
    · rw [if_pos a]
    · rw [if_neg a, if_pos (h.resolve_left a)]
def rfit (o l z : Nat) : Bool := if z = 1 then (decide (o = 0) && decide (l = 0)) else (decide (l = 0) || (!decide (o = 0) && !decide (o = l)))
theorem rightsFit_ok : ∀ o, o < 7 → ∀ l, l < 7 → ∀ z, z < 2 → m9_rightsFit (oc o) (oc l) (nI z) = some (bI (rfit o l z)) := by decide
theorem oc_lt : ∀ o, o < 7 → ((oc o < nI 0) ↔ o = 0) := by decide
theorem oc_ge : ∀ o, o < 7 → ((nI 0 ≤ oc o) ↔ ¬ o = 0) := by decide
theorem oc_eq : ∀ o, o < 7 → ∀ l, l < 7 → ((oc o = oc l) ↔ o = l) := by decide
theorem oc_om {o : Nat} (h : ¬ o = 0) : oc o = om o := by unfold oc om; rw [if_neg h, if_neg h]
theorem om_0 : om 0 = -nI 6 := rfl
section
variable {cb : Nat} {B : SX1} {P : SX5} {J0 J1 : Option SX1} {M : SX10}
def rungC (c : CS) (r o l : Nat) (away : Bool) : CS := (upN (cO c) r o, upN (cL c) r l, (if away = true then cM c ||| 2 ^ (r - 1) else cM c ^^^ (cM c &&& 2 ^ (r - 1))), cS c, cC c, cP c, cT c, cB c)
theorem rung10_ok {c : CS} (hM : RM c (g10_book M)) (hw : WF cb c) {r o l z : Nat} (h1 : 1 ≤ r) (h2 : r ≤ 12) (ho : o ≤ 6) (hl : l ≤ 6) (hz : z ≤ 1) : ∃ M', m10_rung_J68 M (nI r) (oc o) (oc l) (nI z) (nI 1) = some (om (cO c r), M') ∧ RM (rungC c r o l (decide (z = 1))) (g10_book M') ∧ g10_sight M' = g10_sight M ∧ g10_sights M' = g10_sights M ∧ g10_signs M' = g10_signs M ∧ g10_pad M' = g10_pad M ∧ g10_image M' = g10_image M ∧ g10_isKept M' = g10_isKept M := by
  have hm := hw.2.1
  have j101 : (if nI 0 ≤ oc o then m10_rung_J101 M (nI r) (oc l) (nI z) (om (cO c r)) (nI r) (oc o) else m10_rung_J101 M (nI r) (oc l) (nI z) (om (cO c r)) (nI r) (-nI 6)) = m10_rung_J101 M (nI r) (oc l) (nI z) (om (cO c r)) (nI r) (om o) := by
    by_cases q : o = 0
    · subst q; rw [if_neg (by decide)]; rfl
    · rw [if_pos ((oc_ge o (by omega)).mpr q), oc_om q]
  have j120 : ∀ T, (if nI 0 ≤ oc l then m10_rung_J120 T (nI r) (nI z) (om (cO c r)) (nI (13 + r)) (oc l) else m10_rung_J120 T (nI r) (nI z) (om (cO c r)) (nI (13 + r)) (-nI 6)) = m10_rung_J120 T (nI r) (nI z) (om (cO c r)) (nI (13 + r)) (om l) := by
    intro T
    by_cases q : l = 0
    · subst q; rw [if_neg (by decide)]; rfl
    · rw [if_pos ((oc_ge l (by omega)).mpr q), oc_om q]
  have hz2 : z * 2 ^ r < 4294967296 := by
    have : 2 ^ r ≤ 2 ^ 12 := Nat.pow_le_pow_right (by decide) h2
    have : z * 2 ^ r ≤ 1 * 2 ^ r := Nat.mul_le_mul_right _ hz
    omega
  refine ⟨s10_book M (upd (upd (upd (upd (g10_book M) r (om o)) (13 + r) (om l)) 45 (nI (2 * cM c ^^^ (2 * cM c &&& 2 ^ r)))) 45 (nI ((2 * cM c ^^^ (2 * cM c &&& 2 ^ r)) ||| z * 2 ^ r))), ?_, ?_, rfl, rfl, rfl, rfl, rfl, rfl⟩
  · unfold m10_rung_J68
    simp (disch := omega) only [I0, I2, I6, n10, if_false, tin_nI, tgd_true, tnm_eq, nC, (hM.1 r h1 h2).1, j101]
    unfold m10_rung_J101
    simp (disch := omega) only [I0, I6, I13, nI_add, tin_nI, tgd_true, nC, j120]
    unfold m10_rung_J120
    have hb : upd (upd (g10_book M) r (om o)) (13 + r) (om l) 45 = nI (2 * cM c) := by
      rw [upd_e, if_neg (by omega), upd_e, if_neg (by omega)]; exact hM.2.1
    simp (disch := omega) only [tin_nI, tgd_true, nC, I45, I1, nSHL1, nSHL]
    show some (_, s10_book M (upd (upd (upd (upd (g10_book M) r (om o)) (13 + r) (om l)) 45 (upd (upd (g10_book M) r (om o)) (13 + r) (om l) 45 &&& (nI (2 ^ r) ^^^ -nI 1))) 45 (upd (upd (upd (g10_book M) r (om o)) (13 + r) (om l)) 45 (upd (upd (g10_book M) r (om o)) (13 + r) (om l) 45 &&& (nI (2 ^ r) ^^^ -nI 1)) 45 ||| nI (z * 2 ^ r)))) = _
    rw [hb, nCLR, upd_e (j := 45), if_pos rfl, nOR]
  · show RM _ (upd (upd (upd (upd (g10_book M) r (om o)) (13 + r) (om l)) 45 (nI (2 * cM c ^^^ (2 * cM c &&& 2 ^ r)))) 45 (nI ((2 * cM c ^^^ (2 * cM c &&& 2 ^ r)) ||| z * 2 ^ r)))
    refine ⟨fun k k1 k2 => ?_, ?_, fun k hk => ?_, ?_, ?_⟩
    · show _ = om (upN (cO c) r o k) ∧ _ = om (upN (cL c) r l k)
      unfold upN
      by_cases q : k = r
      · subst q
        constructor <;> simp (disch := omega) only [upd_e, if_neg, if_pos, if_true]
      · simp (disch := omega) only [upd_e, if_neg]
        exact hM.1 k k1 k2
    · rw [upd_e, if_pos rfl]
      show _ = nI (2 * (if decide (z = 1) = true then cM c ||| 2 ^ (r - 1) else cM c ^^^ (cM c &&& 2 ^ (r - 1))))
      by_cases q : z = 1
      · subst q
        rw [Nat.one_mul, two_or h1]; rfl
      · have : z = 0 := by omega
        subst this
        rw [Nat.zero_mul, Nat.or_zero, two_clr h1]; rfl
    · simp (disch := omega) only [upd_e, if_neg]
      exact hM.2.2.1 k hk
    · simp (disch := omega) only [upd_e, if_neg]
      exact hM.2.2.2.1
    · simp (disch := omega) only [upd_e, if_neg]
      exact hM.2.2.2.2
theorem rung_c (h : Inv cb B P J0 J1 M) (x y u w : Int32) : ∃ v B' M', m9_rung () B x y u w = some (v, B') ∧ m10_rung M x y u w = some (v, M') ∧ Inv cb B' P J0 J1 M' := by
  have hI := h
  obtain ⟨⟨c, q, sr, sw, hw, hC, hM, hS, hSc, hSm⟩, ⟨n, sg, hp, hPc, hPm⟩, h0, h1⟩ := h
  unfold m9_rung m10_rung
  simp only [I0, I1, I2, I5]
  rcases rng x 1 12 (by decide) (by decide) with ⟨r, hr1, hr, rfl⟩ | ho
  · rw [isRung_in hr1 hr, isRung10_in hr1 hr, tbd_some, tbd_some]
    simp only [n10, if_false]
    rcases rngM y with ⟨o, ho, rfl⟩ | hy
    · rw [(orNob_in o (by omega)).1, (orNob_in o (by omega)).2, tbd_some, tbd_some]
      simp only [n10, if_false]
      rcases rngM u with ⟨l, hl, rfl⟩ | hu
      · rw [(orNob_in l (by omega)).1, (orNob_in l (by omega)).2, tbd_some, tbd_some]
        simp only [n10, if_false]
        rcases rng w 0 1 (by decide) (by decide) with ⟨z, -, hz, rfl⟩ | hz
        · rw [rightsFit_ok o (by omega) l (by omega) z (by omega), tbd_some, in_in (by omega) hz (by omega), tbd_some]
          have hcasc : (if nI 1 = nI 0 then m10_rung_J67 M (nI r) (oc o) (oc l) (nI z) else if oc l < nI 0 then m10_rung_J50 M (nI r) (oc o) (oc l) (nI z) else if oc o < nI 0 then m10_rung_J67 M (nI r) (oc o) (oc l) (nI z) else if oc o = oc l then m10_rung_J67 M (nI r) (oc o) (oc l) (nI z) else m10_rung_J50 M (nI r) (oc o) (oc l) (nI z)) = m10_rung_J68 M (nI r) (oc o) (oc l) (nI z) (bI (rfit o l z)) := by
            unfold m10_rung_J50 m10_rung_J67 m10_rung_J63
            simp (disch := omega) only [n10, if_false, I0, I1, oc_lt o (by omega), oc_lt l (by omega), oc_ge o (by omega), oc_ge l (by omega), oc_eq o (by omega) l (by omega), nEQ]
            unfold rfit
            rcases (show z = 0 ∨ z = 1 by omega) with rfl | rfl
            · by_cases a : l = 0
              · simp [a, bI]
              · by_cases b : o = 0
                · simp [a, b, bI]
                · by_cases d : o = l
                  · simp [a, d, bI]
                  · simp [a, b, d, bI]
            · by_cases a : l = 0
              · by_cases b : o = 0
                · simp [a, b, bI]
                · simp [a, b, bI]
              · by_cases b : o = 0
                · simp [a, b, bI]
                · by_cases d : o = l
                  · simp [a, d, bI]
                  · simp [a, b, d, bI]
          rw [hcasc]
          cases hf : rfit o l z with
          | false =>
            unfold m10_rung_J68
            simp only [bI_f, I0, I2, if_true]
            exact ⟨_, _, _, rfl, rfl, hI⟩
          | true =>
            obtain ⟨M', e1, e2, e3, e4, e5, e6, e7, e8⟩ := rung10_ok hM hw hr1 hr ho hl hz
            obtain ⟨B', d1, d2, d3⟩ := setRung_ok (o := o) (l := l) hC hr1 hr (decide (z = 1))
            have hor := (hw.1 r hr1 hr).1
            have hnew : (if nI z = nI 1 then m9_rung_J64 () B (oc (cO c r)) (nI r) (oc o) (oc l) (nI 1) else m9_rung_J64 () B (oc (cO c r)) (nI r) (oc o) (oc l) (nI 0)) = some (om (cO c r), B') := by
              rcases (show z = 0 ∨ z = 1 by omega) with rfl | rfl
              · rw [if_neg (by decide)]
                unfold m9_rung_J64
                rw [show nI 0 = bI (decide ((0 : Nat) = 1)) from rfl, d1, tbd_some, orNone_oc hor, tbd_some]
              · rw [if_pos rfl]
                unfold m9_rung_J64
                rw [show nI 1 = bI (decide ((1 : Nat) = 1)) from rfl, d1, tbd_some, orNone_oc hor, tbd_some]
            rw [bI_t, if_neg (by decide), ownerOf_ok hC hr1 hr, tbd_some, hnew, e1]
            refine ⟨_, _, _, rfl, rfl, ⟨rungC c r o l (decide (z = 1)), q, sr, sw, ⟨fun k k1 k2 => ?_, ?_, hw.2.2⟩, d2, e2, hS, ⟨d3.1.trans hSc.1, d3.2.1.trans hSc.2.1, d3.2.2.trans hSc.2.2⟩, by rw [e3, e4]; exact hSm⟩, ⟨n, sg, hp, hPc, by unfold RPm; rw [e5, e6]; exact hPm⟩, h0.of e7 e8, h1.of e7 e8⟩
            · show upN (cO c) r o k ≤ 6 ∧ upN (cL c) r l k ≤ 6
              have := hw.1 k k1 k2
              unfold upN
              by_cases e : k = r
              · rw [if_pos e, if_pos e]; exact ⟨ho, hl⟩
              · rw [if_neg e, if_neg e]; exact this
            · show (if decide (z = 1) = true then cM c ||| 2 ^ (r - 1) else cM c ^^^ (cM c &&& 2 ^ (r - 1))) < 4096
              have hm := hw.2.1
              split
              · exact or_lt (n := 12) hm (pow_lt (by omega))
              · exact xor_lt (n := 12) hm (Nat.lt_of_le_of_lt Nat.and_le_left hm)
        · unfold m9_rightsFit
          simp only [I0, I1, within_eq]
          rw [in_out hz, tbd_some, tbd_some, if_pos rfl, tbd_some]
          simp only [if_true]
          unfold m10_rung_J67 m10_rung_J68
          simp only [I0, I2, if_true]
          exact ⟨_, _, _, rfl, rfl, hI⟩
      · rw [(orNob_out hu).1, (orNob_out hu).2, tbd_some, tbd_some]
        simp only [if_true]
        exact ⟨_, _, _, rfl, rfl, hI⟩
    · rw [(orNob_out hy).1, (orNob_out hy).2, tbd_some, tbd_some]
      simp only [if_true]
      exact ⟨_, _, _, rfl, rfl, hI⟩
  · rw [isRung_out2 ho, isRung10_out ho, tbd_some, tbd_some]
    simp only [if_true]
    exact ⟨_, _, _, rfl, rfl, hI⟩
theorem isPlace_ok (x : Int32) : m9_isPlace x = m10_in x (nI 0) (nI 13) := by
  unfold m9_isPlace m10_in; simp only [I0, I1, I13]
theorem man_c (h : Inv cb B P J0 J1 M) (hcb : 99 ≤ cb) (x y u w : Int32) : ∃ v B' M', m9_man () B x y u w = some (v, B') ∧ m10_man M x y u w = some (v, M') ∧ Inv cb B' P J0 J1 M' := by
  have hI := h
  obtain ⟨⟨c, q, sr, sw, hw, hC, hM, hS, hSc, hSm⟩, ⟨n, sg, hp, hPc, hPm⟩, h0, h1⟩ := h
  unfold m9_man m10_man
  simp only [within_eq, isPlace_ok, I0, I1, I2, I4, I13, I99, I100, I38, I32, I26, I44]
  rcases rng x 0 5 (by decide) (by decide) with ⟨m, -, hm, rfl⟩ | ho
  · rw [isMan_in (by omega), isMan10_in (by omega), tbd_some, tbd_some]
    simp only [n10, if_false]
    rcases rng y 1 4 (by decide) (by decide) with ⟨s, hs1, hs, rfl⟩ | hy
    · rw [in_in hs1 hs (by omega), tbd_some, tbd_some]
      simp only [n10, if_false]
      rcases rng u 0 99 (by decide) (by decide) with ⟨k, hk1, hk, rfl⟩ | hy
      · rw [in_in hk1 hk (by omega), tbd_some, tbd_some]
        simp only [n10, if_false]
        rcases rng w 0 13 (by decide) (by decide) with ⟨p, hp1, hp2, rfl⟩ | hy
        · rw [in_in hp1 hp2 (by omega), tbd_some, tbd_some]
          simp only [n10, if_false]
          have ht := hw.2.2.2.1
          have hb := hM.2.2.1 m (by omega)
          unfold m1_setMan
          simp (disch := omega) only [placeOf_ok hC, coinsOf_ok hC, tbd_some, tnm_eq, nI_add, tin_nI, tgd_true, nC, hb.2.1, hb.2.2, isMan_in, I0, I1, n10, if_false, hC.2.2.2.1, nSHL1, nCLR]
          have hb44 : upd (upd (upd (g10_book M) (26 + m) (nI s)) (32 + m) (nI k)) (38 + m) (nI p) 44 = nI (cT c) := by
            rw [upd_e, if_neg (by omega), upd_e, if_neg (by omega), upd_e, if_neg (by omega)]; exact hM.2.2.2.1
          rw [hb44, nCLR]
          refine ⟨_, _, _, rfl, rfl, ⟨(cO c, cL c, cM c, upN (cS c) m s, upN (cC c) m k, upN (cP c) m p, cT c ^^^ (cT c &&& 2 ^ m), cB c), q, sr, sw, ⟨hw.1, hw.2.1, fun j hj => ?_, ?_, hw.2.2.2.2⟩, ⟨hC.1, hC.2.1, fun j hj => ?_, rfl, hC.2.2.2.2⟩, ?_, hS, hSc, hSm⟩, ⟨n, sg, hp, hPc, hPm⟩, h0.of rfl rfl, h1.of rfl rfl⟩
          · show 1 ≤ upN (cS c) m s j ∧ upN (cS c) m s j ≤ 4 ∧ upN (cC c) m k j ≤ cb ∧ upN (cP c) m p j ≤ 13
            have := hw.2.2.1 j hj
            unfold upN
            by_cases e : j = m
            · rw [if_pos e, if_pos e, if_pos e]; omega
            · rw [if_neg e, if_neg e, if_neg e]; exact this
          · exact xor_lt (n := 6) ht (Nat.lt_of_le_of_lt Nat.and_le_left ht)
          · show upd (g1_stride B) m (nI s) j = nI (upN (cS c) m s j) ∧ upd (g1_coins B) m (nI k) j = nI (upN (cC c) m k j) ∧ upd (g1_place B) m (nI p) j = nI (upN (cP c) m p j)
            rw [upd_e, upd_e, upd_e]
            unfold upN
            by_cases e : j = m
            · simp only [e, if_true]; exact ⟨trivial, trivial, trivial⟩
            · simp only [e, if_false]; exact hC.2.2.1 j hj
          · show RM _ (upd (upd (upd (upd (g10_book M) (26 + m) (nI s)) (32 + m) (nI k)) (38 + m) (nI p)) 44 (nI (cT c ^^^ (cT c &&& 2 ^ m))))
            refine ⟨fun r r1 r2 => ?_, ?_, fun j hj => ?_, ?_, ?_⟩
            · simp (disch := omega) only [upd_e, if_neg]; exact hM.1 r r1 r2
            · simp (disch := omega) only [upd_e, if_neg]; exact hM.2.1
            · show _ = nI (upN (cS c) m s j) ∧ _ = nI (upN (cC c) m k j) ∧ _ = nI (upN (cP c) m p j)
              unfold upN
              by_cases e : j = m
              · simp (disch := omega) only [upd_e, if_neg, if_pos]; exact ⟨trivial, trivial, trivial⟩
              · simp (disch := omega) only [upd_e, if_neg]; exact hM.2.2.1 j hj
            · rw [upd_e, if_pos rfl]; rfl
            · simp (disch := omega) only [upd_e, if_neg]; exact hM.2.2.2.2
        · rw [in_out hy, tbd_some, tbd_some]
          simp only [if_true]
          exact ⟨_, _, _, rfl, rfl, hI⟩
      · rw [in_out hy, tbd_some, tbd_some]
        simp only [if_true]
        exact ⟨_, _, _, rfl, rfl, hI⟩
    · rw [in_out hy, tbd_some, tbd_some]
      simp only [if_true]
      exact ⟨_, _, _, rfl, rfl, hI⟩
  · rw [isMan_out ho, isMan10_out ho, tbd_some, tbd_some]
    simp only [if_true]
    exact ⟨_, _, _, rfl, rfl, hI⟩
end
