/-! the calls that ask of fires -/
section
variable {cb : Nat} {B : SX1} {P : SX5} {J0 J1 : Option SX1} {M : SX10}
theorem judge_c (h : Inv cb B P J0 J1 M) (hcb : cb < 2147000000) (F : SX4) (A : SX0) (Fa : SX1) (x : Int32) : ∃ v F' A' Fa' M', m9_judge () B F A Fa P x = some (v, F', A', Fa') ∧ m10_judge M x = some (v, M') ∧ KP M M' := by
  obtain ⟨⟨c, q, sr, sw, hw, hC, hM, -⟩, ⟨n, sg, hp, hPc, hPm⟩, -⟩ := h
  unfold m9_judge m10_judge
  simp only [within_eq, I0, I1, I2, I5, I6]
  rcases rng x 0 1 (by decide) (by decide) with ⟨k, -, hk, rfl⟩ | ho
  · rw [in_in (by omega) hk (by omega), tbd_some, if_neg (by decide), tbd_some, if_neg (by decide), firstFault_ok hPc hp, tbd_some, faultOf_ok hPm hp, tbd_some, fault_eq hp]
    cases hff : ff n sg 60 0 with
    | some w =>
      have hl := ff_lt hp hff
      rw [if_neg (fun z : oN (some w) = -nI 6 => (n_ne_neg hl (by decide) (by decide)).mp z), if_neg (fun z : oN (some w) < nI 0 => by
        have := (nLT hl (by decide)).mp z; omega)]
      exact ⟨_, _, _, _, _, rfl, rfl, KP.refl M⟩
    | none =>
      obtain ⟨F', A', Fa', a1, a2, a3, a4, a5, a6⟩ := burn_ok hPc hp hC hw hcb hff F A Fa
      obtain ⟨T', b1, b2, b3, b4, b5⟩ := goFires_ok hPm hp hM hw hcb hff
      have hb : (burnR n sg c).2.2.1 ≤ 1000 := (burnS_WT hp 60 0 c f0 hff WT_f0 (by show 0 + 60 ≤ 1000; omega)).1
      rw [if_pos (show oN none = -nI 6 from rfl), if_pos (show oN none < nI 0 by decide), a1, tbd_some, b1, tbd_some, tnm_eq]
      by_cases r0 : (burnR n sg c).1 = 0
      · simp only [bI_0, r0, if_true, if_false, decide_true, Bool.true_eq_false]
        rw [if_pos (show -nI 6 < nI 0 by decide)]
        exact ⟨_, _, _, _, _, rfl, rfl, b4⟩
      · simp only [bI_0, r0, if_true, if_false, decide_false]
        rw [if_neg (show ¬ nI (burnR n sg c).2.2.1 < nI 0 from fun z => by have := (nLT (by omega) (by decide)).mp z; omega)]
        by_cases k0 : k = 0
        · rw [if_pos (by rw [k0]), if_pos (by rw [k0])]
          refine ⟨_, _, _, _, _, rfl, ?_, b4⟩
          show _ = some (g4_acts F', T')
          rw [a2.1]
        · rw [if_neg (fun z => k0 ((nEQ (by omega) (by omega)).mp z)), if_neg (fun z => k0 ((nEQ (by omega) (by omega)).mp z))]
          refine ⟨_, _, _, _, _, rfl, ?_, b4⟩
          show some (g10_reason T', T') = some (g4_why F', T')
          rw [a5, b5 r0]
  · rw [in_out ho, tbd_some, if_pos rfl, tbd_some, if_pos rfl]
    exact ⟨_, _, _, _, _, rfl, rfl, KP.refl M⟩
/-- what all but judge do first: burn on one side, the bar on the other -/
theorem bar_c (h : Inv cb B P J0 J1 M) (hcb : cb < 2147000000) (F : SX4) (A : SX0) (Fa : SX1) : ∃ F' A' Fa' M', KP M M' ∧ ((m4_burn F P B A Fa = some (nI 0, F', A', Fa') ∧ m10_barOfFires M = some (-nI 5, M')) ∨ (m4_burn F P B A Fa = some (nI 1, F', A', Fa') ∧ m10_barOfFires M = some (nI 0, M') ∧ ∃ c f, WF (cb + 60) c ∧ RC c Fa' ∧ RM c (g10_now M') ∧ RF f F' ∧ RFm f M' ∧ SG B Fa' ∧ WT f)) := by
  obtain ⟨⟨c, q, sr, sw, hw, hC, hM, -⟩, ⟨n, sg, hp, hPc, hPm⟩, -⟩ := h
  cases hff : ff n sg 60 0 with
  | some w =>
    obtain ⟨F', Fa', e⟩ := burn_no hPc hp hC hff F A Fa
    exact ⟨F', A, Fa', M, KP.refl M, Or.inl ⟨e, bar_no hPm hp hff⟩⟩
  | none =>
    obtain ⟨F', A', Fa', a1, a2, a3, a4, a5, a6⟩ := burn_ok hPc hp hC hw hcb hff F A Fa
    obtain ⟨T', b1, b2, b3, b4⟩ := bar_ok hPm hp hM hw hcb hff
    refine ⟨F', A', Fa', T', b4, ?_⟩
    by_cases r0 : (burnR n sg c).1 = 0
    · right
      rw [decide_eq_true r0] at a1
      rw [if_pos r0] at b1
      exact ⟨a1, b1, _, _, a4, a3, b3, a2, b2, a6, burnS_WT hp 60 0 c f0 hff WT_f0 (by show 0 + 60 ≤ 1000; omega)⟩
    · left
      rw [decide_eq_false r0] at a1
      rw [if_neg r0] at b1
      exact ⟨a1, b1⟩
theorem four {k : Nat} (h : k ≤ 3) : k = 0 ∨ k = 1 ∨ k = 2 ∨ k = 3 := by omega
theorem six {k : Nat} (h : k ≤ 5) : k = 0 ∨ k = 1 ∨ k = 2 ∨ k = 3 ∨ k = 4 ∨ k = 5 := by omega
theorem behind_c (h : Inv cb B P J0 J1 M) (hcb : cb < 2147000000) (F : SX4) (A : SX0) (Fa : SX1) (x y : Int32) : ∃ v F' A' Fa' M', m9_behind () B F A Fa P x y = some (v, F', A', Fa') ∧ m10_behind M x y = some (v, M') ∧ KP M M' := by
  unfold m9_behind m10_behind
  simp only [within_eq, I0, I1, I2, I3, I5]
  rcases rng x 0 5 (by decide) (by decide) with ⟨m, -, hm, rfl⟩ | ho
  · rw [isMan_in (by omega), isMan10_in (by omega), tbd_some, tbd_some]
    simp only [n10, if_false]
    rcases rng y 0 3 (by decide) (by decide) with ⟨k, -, hk, rfl⟩ | ho
    · rw [in_in (by omega) hk (by omega), tbd_some, tbd_some]
      simp only [n10, if_false]
      obtain ⟨F', A', Fa', M', hK, h2⟩ := bar_c h hcb F A Fa
      rcases h2 with ⟨e1, e2⟩ | ⟨e1, e2, c, f, hw, hC, hR, hF, hFm, hs, hWT⟩
      · rw [e1, e2, tbd_some, tbd_some, if_pos rfl, if_neg (show ¬ nI 0 ≤ -nI 5 by decide)]
        exact ⟨_, _, _, _, _, rfl, rfl, hK⟩
      · rw [e1, e2, tbd_some, tbd_some, if_neg (show ¬ nI 1 = nI 0 by decide), if_pos (show nI 0 ≤ nI 0 by decide)]
        have hmm := hw.2.2.1 m (by omega)
        have ht := hw.2.2.2.1
        unfold m4_behindIt
        simp (disch := omega) only [tbd_some, nEQ, I38, I32, I44, nI_add, tin_nI, tgd_true, nC, placeOf_ok hC, coinsOf_ok hC, rungsOpenTo_ok hC hw, mayOnes_ok hR hw, hasStepped_ok hC hw, hR.2.2.2.1, (hR.2.2.1 m (by omega)).2.1, (hR.2.2.1 m (by omega)).2.2, bI_0, nSHR, nAND1, nBITv]
        rcases four hk with rfl | rfl | rfl | rfl
        · exact ⟨_, _, _, _, _, rfl, rfl, hK⟩
        · exact ⟨_, _, _, _, _, rfl, rfl, hK⟩
        · exact ⟨_, _, _, _, _, rfl, rfl, hK⟩
        · cases (cT c).testBit m with
          | true => exact ⟨_, _, _, _, _, rfl, rfl, hK⟩
          | false => exact ⟨_, _, _, _, _, rfl, rfl, hK⟩
    · rw [in_out ho, tbd_some, tbd_some]
      simp only [if_true]
      exact ⟨_, _, _, _, _, rfl, rfl, KP.refl M⟩
  · rw [isMan_out ho, isMan10_out ho, tbd_some, tbd_some]
    simp only [if_true]
    exact ⟨_, _, _, _, _, rfl, rfl, KP.refl M⟩
theorem bears_c (h : Inv cb B P J0 J1 M) (hcb : cb < 2147000000) (F : SX4) (A : SX0) (Fa : SX1) (x y : Int32) : ∃ v F' A' Fa' M', m9_bears () B F A Fa P x y = some (v, F', A', Fa') ∧ m10_bears M x y = some (v, M') ∧ KP M M' := by
  unfold m9_bears m10_bears
  simp only [within_eq, I0, I1, I2, I3, I5]
  rcases rng x 1 12 (by decide) (by decide) with ⟨m, hm1, hm, rfl⟩ | ho
  · rw [isRung_in hm1 hm, isRung10_in hm1 hm, tbd_some, tbd_some]
    simp only [n10, if_false]
    rcases rng y 0 3 (by decide) (by decide) with ⟨k, -, hk, rfl⟩ | ho
    · rw [in_in (by omega) hk (by omega), tbd_some, tbd_some]
      simp only [n10, if_false]
      obtain ⟨F', A', Fa', M', hK, h2⟩ := bar_c h hcb F A Fa
      rcases h2 with ⟨e1, e2⟩ | ⟨e1, e2, c, f, hw, hC, hR, hF, hFm, hs, hWT⟩
      · rw [e1, e2, tbd_some, tbd_some, if_pos rfl, if_neg (show ¬ nI 0 ≤ -nI 5 by decide)]
        exact ⟨_, _, _, _, _, rfl, rfl, hK⟩
      · rw [e1, e2, tbd_some, tbd_some, if_neg (show ¬ nI 1 = nI 0 by decide), if_pos (show nI 0 ≤ nI 0 by decide)]
        have hmm := hw.1 m hm1 hm
        have ht := hw.2.1
        obtain ⟨v1, v2, w1, w2, hj⟩ : ∃ v1 v2, m1_firstManOn Fa' (nI m) = some v1 ∧ m10_standing M' (nI m) = some v2 ∧ m9_orNone v1 = some v2 := by
          refine ⟨_, _, firstManOn_ok hC hw (by omega), standing_ok hR hw (by omega), ?_⟩
          cases hf : firstOn c m with
          | none => rfl
          | some j =>
            have := srch_some hf
            show m9_orNone (nI j) = some (nI j)
            unfold m9_orNone
            rw [I1, if_neg (fun z : nI j = -nI 1 => (n_ne_neg (by omega) (by decide) (by decide)).mp z)]
        unfold m4_behindIt
        simp (disch := omega) only [tbd_some, nEQ, I13, I45, nI_add, tin_nI, tgd_true, nC, ownerOf_ok hC hm1 hm, leaserOf_ok hC hm1 hm, orNone_oc hmm.1, orNone_oc hmm.2, w1, w2, hj, isMissing_ok hC hw hm1 hm, hR.2.1, (hR.1 m hm1 hm).1, (hR.1 m hm1 hm).2, bI_0, nSHR, nAND1, nBITv, two_testBit hm1]
        rcases four hk with rfl | rfl | rfl | rfl
        · exact ⟨_, _, _, _, _, rfl, rfl, hK⟩
        · exact ⟨_, _, _, _, _, rfl, rfl, hK⟩
        · exact ⟨_, _, _, _, _, rfl, rfl, hK⟩
        · unfold msS
          cases (cM c).testBit (m - 1) with
          | true => exact ⟨_, _, _, _, _, rfl, rfl, hK⟩
          | false => exact ⟨_, _, _, _, _, rfl, rfl, hK⟩
    · rw [in_out ho, tbd_some, tbd_some]
      simp only [if_true]
      exact ⟨_, _, _, _, _, rfl, rfl, KP.refl M⟩
  · rw [isRung_out2 ho, isRung10_out ho, tbd_some, tbd_some]
    simp only [if_true]
    exact ⟨_, _, _, _, _, rfl, rfl, KP.refl M⟩
theorem then_c (h : Inv cb B P J0 J1 M) (hcb : cb < 2147000000) (F : SX4) (A : SX0) (Fa : SX1) (y : Int32) : ∃ v F' A' Fa' M', m9_then () B F A Fa P y = some (v, F', A', Fa') ∧ m10_then M y = some (v, M') ∧ KP M M' := by
  unfold m9_then m10_then
  simp only [within_eq, I0, I1, I2, I3, I4, I5]
  rcases rng y 0 5 (by decide) (by decide) with ⟨k, -, hk, rfl⟩ | ho
  · rw [in_in (by omega) hk (by omega), tbd_some, tbd_some]
    simp only [n10, if_false]
    obtain ⟨F', A', Fa', M', hK, h2⟩ := bar_c h hcb F A Fa
    rcases h2 with ⟨e1, e2⟩ | ⟨e1, e2, c, f, hw, hC, hR, hF, hFm, hs, hWT⟩
    · rw [e1, e2, tbd_some, tbd_some, if_pos rfl, if_neg (show ¬ nI 0 ≤ -nI 5 by decide)]
      exact ⟨_, _, _, _, _, rfl, rfl, hK⟩
    · rw [e1, e2, tbd_some, tbd_some, if_neg (show ¬ nI 1 = nI 0 by decide), if_pos (show nI 0 ≤ nI 0 by decide)]
      unfold m4_behindIt m1_beatNow m4_stepsMade m4_coinsPaid m4_firstActUp m4_firstManUp
      simp (disch := omega) only [tbd_some, nEQ, I46, nC, hC.2.2.2.2, hR.2.2.2.2, menOnRoof_ok hC hw, roof_ok hR hw, hF.2.1, hF.2.2.1, hF.2.2.2.1, hF.2.2.2.2, hFm.2.1, hFm.2.2.1, hFm.2.2.2.1, hFm.2.2.2.2]
      rcases six hk with rfl | rfl | rfl | rfl | rfl | rfl <;> exact ⟨_, _, _, _, _, rfl, rfl, hK⟩
  · rw [in_out ho, tbd_some, tbd_some]
    simp only [if_true]
    exact ⟨_, _, _, _, _, rfl, rfl, KP.refl M⟩
theorem done_c (h : Inv cb B P J0 J1 M) (hcb : cb < 2147000000) (F : SX4) (A : SX0) (Fa : SX1) : ∃ v B' F' A' Fa' P' M', m9_done () B F A Fa P = some (v, B', F', A', Fa', P') ∧ m10_done M = some (v, M') ∧ Inv (cb + 60) B' P' J0 J1 M' := by
  unfold m9_done m10_done
  simp only [I0, I5]
  obtain ⟨F', A', Fa', M', hK, h2⟩ := bar_c h hcb F A Fa
  have hI := h.kp hK
  rcases h2 with ⟨e1, e2⟩ | ⟨e1, e2, c, f, hw, hC, hR, hF, hFm, hs, hWT⟩
  · rw [e1, e2, tbd_some, tbd_some, if_pos rfl, if_neg (show ¬ nI 0 ≤ -nI 5 by decide)]
    exact ⟨_, _, _, _, _, _, _, rfl, rfl, hI.mono (by omega)⟩
  · rw [e1, e2, tbd_some, tbd_some, if_neg (show ¬ nI 1 = nI 0 by decide), if_pos (show nI 0 ≤ nI 0 by decide)]
    obtain ⟨B2, d1, d2, d3⟩ := copyFrom_ok hC B
    have key := tit_run (F := m10_done_L12) (fun i => (nI i, s10_book M' (cpN (g10_now M') (g10_book M') i))) 47 (some (g10_acts M', s10_signs (s10_book M' (cpN (g10_now M') (g10_book M') 47)) (nI 0))) (fun rc i hi => by
      show m10_done_B12 rc (nI i) (s10_book M' (cpN (g10_now M') (g10_book M') i)) = rc (nI (i + 1), s10_book M' (cpN (g10_now M') (g10_book M') (i + 1)))
      unfold m10_done_B12
      simp (disch := omega) only [I47, I1, nLE, if_neg, tin_nI, tgd_true, tnm_eq, nI_add, nC]
      rw [← cpN_s]
      rfl) (fun rc => by
      show m10_done_B12 rc (nI 47) (s10_book M' (cpN (g10_now M') (g10_book M') 47)) = _
      unfold m10_done_B12
      simp (disch := omega) only [I47, I0, nLE, if_pos]
      rfl) FU (FU_gt (by decide))
    have e : (nI 0, M') = (fun i => (nI i, s10_book M' (cpN (g10_now M') (g10_book M') i))) 0 := by
      show _ = (nI 0, s10_book M' (cpN (g10_now M') (g10_book M') 0))
      rw [cpN_0]; rfl
    rw [e, key]
    unfold m4_behindIt m5_clear m4_actsDone
    rw [tbd_some, d1, tbd_some, tbd_some, tbd_some, hF.1, hFm.1]
    refine ⟨_, _, _, _, _, _, _, rfl, rfl, ?_, ?_, ?_, ?_⟩
    · obtain ⟨⟨c0, q, sr, sw, -, -, -, hS, hSc, hSm⟩, -⟩ := hI
      refine ⟨c, q, sr, sw, hw, d2, RM_congr hR (fun k hk => if_pos hk), hS, ?_, hSm⟩
      exact ⟨(d3.1.trans hs.1).trans hSc.1, (d3.2.1.trans hs.2.1).trans hSc.2.1, (d3.2.2.trans hs.2.2).trans hSc.2.2⟩
    · exact ⟨0, fun _ => 0, ⟨by decide, fun i hi => by omega⟩, ⟨I0, fun i hi => by omega⟩, ⟨rfl, fun i hi => by omega⟩⟩
    · exact (hI.2.2.1.mono (by omega)).of rfl rfl
    · exact (hI.2.2.2.mono (by omega)).of rfl rfl
end
