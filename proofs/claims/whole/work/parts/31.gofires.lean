/-! the loop over the acts: the reference -/
section
variable {c : CS} {cb : Nat} {f : FT} {T : SX10} {n : Nat} {sg : Nat → Nat}
theorem l93_up {x1 x3 : Int32} {rc : Int32 × SX10 → Option (Int32 × SX10)} {T : SX10} {a fuel j : Nat} (h : g10_roofAt T = nI a) (ha : a < 2147483648) : tit (m10_goFires_L93 x1 x3 rc) (fuel + 1) (nI j, T) = m10_goFires_J136 T x1 rc := by
  show m10_goFires_B93 x1 x3 rc (tit (m10_goFires_L93 x1 x3 rc) fuel) (nI j) T = _
  unfold m10_goFires_B93
  simp (disch := omega) only [h, I0, nLE, Nat.zero_le, if_true, ite_self]
theorem l93_none {x1 : Int32} {x3 : Nat} {rc : Int32 × SX10 → Option (Int32 × SX10)} {T : SX10} (h : g10_roofAt T = -nI 6) (hx : x3 < 64) (hb : ∀ k, k < 6 → x3.testBit k = false) : tit (m10_goFires_L93 x1 (nI x3) rc) FU (nI 0, T) = m10_goFires_J136 T x1 rc := by
  exact tit_run (fun i => (nI i, T)) 6 _ (fun r i hi => by
    show m10_goFires_B93 x1 (nI x3) rc r (nI i) T = _
    unfold m10_goFires_B93
    simp (disch := omega) only [h, I0, I1, I6, nLE, if_neg, n_le_neg, if_false, has_ok, tbd_some, hb i hi, bI_0, if_true, tnm_eq, nI_add]) (fun r => by
    show m10_goFires_B93 x1 (nI x3) rc r (nI 6) T = _
    unfold m10_goFires_B93
    simp (disch := omega) only [I6, nLE, if_pos]) FU (FU_gt (by decide))
theorem l93_hit {x1 : Int32} {x3 : Nat} {rc : Int32 × SX10 → Option (Int32 × SX10)} {T : SX10} {m a : Nat} (h : g10_roofAt T = -nI 6) (hx : x3 < 64) (hm : m < 6) (hb : ∀ k, k < 6 → x3.testBit k = decide (k = m)) (ha : g10_acts T = nI a) (ha2 : a < 2147483648) : tit (m10_goFires_L93 x1 (nI x3) rc) FU (nI 0, T) = m10_goFires_J136 (s10_roofWho (s10_roofAt T (nI a)) (nI m)) x1 rc := by
  have key := tit_run (F := m10_goFires_L93 x1 (nI x3) rc) (fun i => (nI i, if i ≤ m then T else s10_roofWho (s10_roofAt T (nI a)) (nI m))) (m + 1) (m10_goFires_J136 (s10_roofWho (s10_roofAt T (nI a)) (nI m)) x1 rc) (fun r i hi => by
    show m10_goFires_B93 x1 (nI x3) rc r (nI i) (if i ≤ m then T else s10_roofWho (s10_roofAt T (nI a)) (nI m)) = r (nI (i + 1), if i + 1 ≤ m then T else s10_roofWho (s10_roofAt T (nI a)) (nI m))
    rw [if_pos (by omega)]
    unfold m10_goFires_B93
    simp (disch := omega) only [h, I0, I1, I6, nLE, if_neg, n_le_neg, if_false, has_ok, tbd_some, hb i (by omega), bI_0, tnm_eq, nI_add, decide_eq_false_iff_not, ha]
    by_cases q : i = m
    · rw [if_neg (fun z => z q), if_neg (by omega), q]
    · rw [if_pos q, if_pos (by omega)]) (fun r => by
    show m10_goFires_B93 x1 (nI x3) rc r (nI (m + 1)) (if m + 1 ≤ m then T else s10_roofWho (s10_roofAt T (nI a)) (nI m)) = _
    rw [if_neg (by omega)]
    unfold m10_goFires_B93
    show (if (6 : Int32) ≤ nI (m + 1) then _ else if 0 ≤ nI a then _ else _) = _
    simp (disch := omega) only [I0, I6, nLE, Nat.zero_le, if_true, ite_self]) FU (FU_gt (by omega))
  rw [← key]
  show _ = tit (m10_goFires_L93 x1 (nI x3) rc) FU (nI 0, if 0 ≤ m then T else _)
  rw [if_pos (Nat.zero_le m)]
theorem upA_some {f : FT} {x : Nat × Nat} (h : f.2.2.2 = some x) : upA f = nI x.1 := by unfold upA; rw [h]
/-- an act that can be: what the loop does behind it -/
theorem afterAct {a : AC} (hM : RM (doS c a) (g10_now T)) (hw : WF cb c) (ha : WA a) (hr : reasonS c a = 0) (hwd : WF (cb + 1) (doS c a)) (hf : WT f) (h1 : g10_acts T = nI f.1) (h2 : g10_steps T = nI (cnt f a).2.1) (h3 : g10_paid T = nI (cnt f a).2.2.1) (h4 : g10_roofAt T = upA f) (h5 : g10_roofWho T = upM f) (h6 : g10_reason T = nI 0) {e at' : Nat} (rc : Int32 × SX10 → Option (Int32 × SX10)) :
    ∃ T', m10_goFires_J67 T (nI (rf c 6)) (nI at') (nI e) rc = rc (nI (at' + e), T') ∧ RFm (cnt f a) T' ∧ RM (doS c a) (g10_now T') ∧ KP T T' := by
  unfold m10_goFires_J67
  have l1 := rf_lt c 6
  have l2 := rf_lt (doS c a) 6
  have hz : nI 0 ≤ nI 0 := by decide
  have hx : rf (doS c a) 6 ^^^ (rf (doS c a) 6 &&& rf c 6) < 64 := xor_lt (n := 6) l2 (Nat.lt_of_le_of_lt Nat.and_le_left l2)
  simp (disch := omega) only [I0, I1, h6, hz, if_true, tnm_eq, nI_add, roof_ok hM hwd, tbd_some, nCLR]
  have hb := fun k hk => fresh_bit (k := k) hw ha hr hk
  have ea : ∀ {A : Int32} {k : Nat}, A = nI k → A + nI 1 = nI (k + 1) := fun h => by rw [h, nI_add]
  cases hu : f.2.2.2 with
  | some x =>
    have hx1 := hf.2 x hu
    rw [show FU = (FU - 1) + 1 from rfl, l93_up (a := x.1) (by rw [h4, upA_some hu]) (by omega)]
    unfold m10_goFires_J136
    simp only [I1]
    refine ⟨_, rfl, ⟨ea h1, h2, h3, ?_, ?_⟩, hM, ⟨rfl, rfl, rfl, rfl, rfl, rfl, rfl⟩⟩
    · show g10_roofAt T = _
      rw [h4]; unfold upA cnt; simp [hu]
    · show g10_roofWho T = _
      rw [h5]; unfold upM cnt; simp [hu]
  | none =>
    have h4' : g10_roofAt T = -nI 6 := by rw [h4]; unfold upA; rw [hu]
    by_cases q : a.1 = 0 ∧ a.2.2 = 13
    · have hm := (ha.2.1 q.1).1
      have hf1 := hf.1
      rw [l93_hit (m := a.2.1) (a := f.1) h4' hx hm (fun k hk => by rw [hb k hk]; simp [q]) h1 (by omega)]
      unfold m10_goFires_J136
      simp only [I1]
      refine ⟨_, rfl, ⟨ea h1, h2, h3, ?_, ?_⟩, hM, ⟨rfl, rfl, rfl, rfl, rfl, rfl, rfl⟩⟩
      · show nI f.1 = _
        unfold upA cnt; simp [hu, q]
      · show nI a.2.1 = _
        unfold upM cnt; simp [hu, q]
    · have qq : ∀ k, ¬ (a.1 = 0 ∧ a.2.2 = 13 ∧ k = a.2.1) := fun k z => q ⟨z.1, z.2.1⟩
      rw [l93_none h4' hx (fun k hk => by rw [hb k hk]; exact decide_eq_false (qq k))]
      unfold m10_goFires_J136
      simp only [I1]
      have qn : ¬ (a.1 = 0 ∧ a.2.2 = 13 ∧ f.2.2.2 = none) := fun z => q ⟨z.1, z.2.1⟩
      refine ⟨_, rfl, ⟨ea h1, h2, h3, ?_, ?_⟩, hM, ⟨rfl, rfl, rfl, rfl, rfl, rfl, rfl⟩⟩
      · show g10_roofAt T = _
        rw [h4]; unfold upA cnt; simp only [qn, if_false]
      · show g10_roofWho T = _
        rw [h5]; unfold upM cnt; simp only [qn, if_false]
theorem goFires_go (hp : WP n sg) : ∀ (k fuel i : Nat) (c : CS) (cb : Nat) (f : FT) (T : SX10), ff n sg k i = none → n - i ≤ k → i ≤ n → k < fuel → RPm n sg T → RM c (g10_now T) → WF cb c → cb + (n - i) < 2147483647 → RFm f T → WT f → f.1 + (n - i) ≤ 1000 →
    ∃ T', tit m10_goFires_L11 fuel (nI i, T) = some (if (burnS n sg k i c f).1 = 0 then -nI 6 else nI (burnS n sg k i c f).2.2.1, T') ∧ RFm (burnS n sg k i c f).2.2 T' ∧ RM (burnS n sg k i c f).2.1 (g10_now T') ∧ KP T T' ∧ (¬ (burnS n sg k i c f).1 = 0 → g10_reason T' = nI (burnS n sg k i c f).1) := by
  have hn := hp.1
  intro k
  induction k with
  | zero =>
    intro fuel i c cb f T hff hk hi hfu hP hM hwf hcb hF hf hfl
    obtain ⟨fuel, rfl⟩ : ∃ m, fuel = m + 1 := ⟨fuel - 1, by omega⟩
    refine ⟨T, ?_, hF, hM, KP.refl T, fun q => absurd rfl q⟩
    show m10_goFires_B11 (tit m10_goFires_L11 fuel) (nI i) T = _
    unfold m10_goFires_B11
    simp (disch := omega) only [nLE, hP.1, if_pos, I6]
    rfl
  | succ k ih =>
    intro fuel i c cb f T hff hk hi hfu hP hM hwf hcb hF hf hfl
    obtain ⟨fuel, rfl⟩ : ∃ m, fuel = m + 1 := ⟨fuel - 1, by omega⟩
    by_cases hin : n ≤ i
    · have e : burnS n sg (k + 1) i c f = (0, c, f) := by unfold burnS; rw [if_pos hin]
      rw [e]
      refine ⟨T, ?_, hF, hM, KP.refl T, fun q => absurd rfl q⟩
      show m10_goFires_B11 (tit m10_goFires_L11 fuel) (nI i) T = _
      unfold m10_goFires_B11
      simp (disch := omega) only [nLE, hP.1, if_pos, I6]
      rfl
    · have hlt : i < n := by omega
      obtain ⟨hv, hff2⟩ := ff_step hlt hff
      obtain ⟨hE1, hA1, -⟩ := act_valid hp hlt hv
      have hE := endS_sp n sg i
      have b0 := hp.2 i hlt
      have hstep : ∀ X : SX10, X = (if reasonS c (actS n sg i) = 0 then actT c T (actS n sg i) else T) → m10_goFires_L11 (tit m10_goFires_L11 fuel) (nI i, T) = m10_goFires_J67 (s10_reason X (nI (reasonS c (actS n sg i)))) (nI (rf c 6)) (nI i) (nI (endS n sg i - i)) (tit m10_goFires_L11 fuel) := by
        intro X hX
        have hKP : KP T X := by
          rw [hX]; split
          · exact actT_KP c T _
          · exact KP.refl T
        have hPX := hP.kp hKP
        show m10_goFires_B11 (tit m10_goFires_L11 fuel) (nI i) T = _
        unfold m10_goFires_B11
        simp (disch := omega) only [nLE, hP.1, if_neg, roof_ok hM hwf, tbd_some, oneAct_ok hP hp hM hwf (show cb < 2147483647 by omega) hlt hv, ← hX, tin_nI, tgd_true, nC, hPX.2 i hlt, I46, I1, I2, I3, I37, nEQ, nI_add]
        rcases shape hp hlt hv with ⟨a, eE, e⟩ | ⟨a, eE, hl, hR, e⟩ | ⟨a, eE, hl, a37, hR, e⟩ | ⟨a, eE, hl, a37, hR, e⟩
        · rw [if_pos a, eE, show i + 1 - i = 1 by omega]
        · have b1 := hp.2 (i + 1) (by omega)
          have hne : ¬ sg (i + 1) = 37 := by unfold isR at hR; simp only [decide_eq_true_eq] at hR; omega
          simp (disch := omega) only [tin_nI, tgd_true, nC, hPX.2 (i + 1) (by omega), nEQ, if_neg]
          rw [eE, show i + 2 - i = 2 by omega]
        · have b1 := hp.2 (i + 1) (by omega)
          simp (disch := omega) only [tin_nI, tgd_true, nC, hPX.2 (i + 1) (by omega), nEQ, if_neg, if_pos]
          rw [eE, show i + 3 - i = 3 by omega]
        · have b1 := hp.2 (i + 1) (by omega)
          simp (disch := omega) only [tin_nI, tgd_true, nC, hPX.2 (i + 1) (by omega), nEQ, if_neg]
          rw [eE, show i + 2 - i = 2 by omega]
      by_cases hr : reasonS c (actS n sg i) = 0
      · have e : burnS n sg (k + 1) i c f = burnS n sg k (endS n sg i) (doS c (actS n sg i)) (cnt f (actS n sg i)) := by
          conv => lhs; unfold burnS
          rw [if_neg hin, if_pos hr]
        rw [e]
        have hc := actT_cnt c T (a := actS n sg i) hA1.1
        have hwd := WF_do hwf hA1 hr
        obtain ⟨T1, t1, t2, t3, t4⟩ := afterAct (T := s10_reason (actT c T (actS n sg i)) (nI 0)) (a := actS n sg i) (actT_RM hM hwf hA1) hwf hA1 hr hwd hf (hc.1.trans hF.1) (by show g10_steps (actT c T (actS n sg i)) = _; rw [hc.2.1, hF.2.1, nI_add]; rfl) (by show g10_paid (actT c T (actS n sg i)) = _; rw [hc.2.2.1, hF.2.2.1, nI_add]; rfl) (hc.2.2.2.1.trans hF.2.2.2.1) (hc.2.2.2.2.trans hF.2.2.2.2) rfl (e := endS n sg i - i) (at' := i) (tit m10_goFires_L11 fuel)
        have hKP : KP T T1 := (actT_KP c T (actS n sg i)).trans ((show KP (actT c T (actS n sg i)) (s10_reason (actT c T (actS n sg i)) (nI 0)) from ⟨rfl, rfl, rfl, rfl, rfl, rfl, rfl⟩).trans t4)
        obtain ⟨T2, g1, g2, g3, g4, g5⟩ := ih fuel (endS n sg i) (doS c (actS n sg i)) (cb + 1) (cnt f (actS n sg i)) T1 hff2 (by omega) hE1 (by omega) (hP.kp hKP) t3 hwd (by omega) t2 (WT_cnt hf (by omega) hA1) (by show f.1 + 1 + _ ≤ _; omega)
        refine ⟨T2, ?_, g2, g3, hKP.trans g4, g5⟩
        show m10_goFires_L11 (tit m10_goFires_L11 fuel) (nI i, T) = _
        rw [hstep _ rfl, if_pos hr, hr, t1, show i + (endS n sg i - i) = endS n sg i by omega]
        exact g1
      · have e : burnS n sg (k + 1) i c f = (reasonS c (actS n sg i), c, f) := by
          unfold burnS; rw [if_neg hin, if_neg hr]
        rw [e]
        refine ⟨s10_reason T (nI (reasonS c (actS n sg i))), ?_, hF, hM, ⟨rfl, rfl, rfl, rfl, rfl, rfl, rfl⟩, fun _ => rfl⟩
        show m10_goFires_L11 (tit m10_goFires_L11 fuel) (nI i, T) = _
        have hr10 := reason_le (c := c) (a := actS n sg i)
        have hq : g10_reason (s10_reason T (nI (reasonS c (actS n sg i)))) = nI (reasonS c (actS n sg i)) := rfl
        rw [hstep _ rfl, if_neg hr]
        unfold m10_goFires_J67
        simp (disch := omega) only [tnm_eq, hq, I0, nLE, if_neg]
        show some (g10_acts T, _) = _
        rw [hF.1]
end
