/-! fires act by act -/
abbrev FT : Type := Nat × Nat × Nat × Option (Nat × Nat)
def cnt (f : FT) (a : AC) : FT := (f.1 + 1, f.2.1 + (if a.1 = 0 then 1 else 0), f.2.2.1 + (if a.1 = 1 then 1 else 0), if a.1 = 0 ∧ a.2.2 = 13 ∧ f.2.2.2 = none then some (f.1, a.2.1) else f.2.2.2)
def upA (f : FT) : Int32 := match f.2.2.2 with
  | none => -nI 6
  | some x => nI x.1
def upM (f : FT) : Int32 := match f.2.2.2 with
  | none => -nI 6
  | some x => nI x.2
def RF (f : FT) (F : SX4) : Prop := g4_acts F = nI f.1 ∧ g4_steps F = nI f.2.1 ∧ g4_paid F = nI f.2.2.1 ∧ g4_actUp F = upA f ∧ g4_manUp F = upM f
def WT (f : FT) : Prop := f.1 ≤ 1000 ∧ ∀ x, f.2.2.2 = some x → x.1 ≤ 1000 ∧ x.2 < 6
def burnS (n : Nat) (sg : Nat → Nat) : Nat → Nat → CS → FT → Nat × CS × FT
  | 0, _, c, f => (0, c, f)
  | k + 1, i, c, f => if n ≤ i then (0, c, f) else if reasonS c (actS n sg i) = 0 then burnS n sg k (endS n sg i) (doS c (actS n sg i)) (cnt f (actS n sg i)) else (reasonS c (actS n sg i), c, f)
theorem upA_none {f : FT} (h : WT f) : (upA f = -nI 6) ↔ f.2.2.2 = none := by
  unfold upA
  cases hf : f.2.2.2 with
  | none => simp
  | some x =>
    have := h.2 x hf
    exact ⟨fun q => ((n_ne_neg (by omega) (by decide) (by decide)).mp q).elim, fun q => by cases q⟩
theorem reason_le {c : CS} {a : AC} : reasonS c a ≤ 10 := by
  unfold reasonS stepR leaseR loseR beatR
  repeat' split
  all_goals omega
theorem WT_cnt {f : FT} (h : WT f) (h1 : f.1 < 1000) {a : AC} (ha : WA a) : WT (cnt f a) := by
  refine ⟨by show f.1 + 1 ≤ 1000; omega, fun x hx => ?_⟩
  have hx : (if a.1 = 0 ∧ a.2.2 = 13 ∧ f.2.2.2 = none then some (f.1, a.2.1) else f.2.2.2) = some x := hx
  by_cases q : a.1 = 0 ∧ a.2.2 = 13 ∧ f.2.2.2 = none
  · rw [if_pos q] at hx; cases hx; exact ⟨by show f.1 ≤ 1000; omega, (ha.2.1 q.1).1⟩
  · rw [if_neg q] at hx; exact h.2 x hx
section
variable {c : CS} {cb : Nat} {f : FT} {F : SX4} {Fa : SX1}
theorem count_ok (h : RF f F) (hf : WT f) {a : AC} (ha : WA a) : ∃ F', m4_count F (actI a) = some F' ∧ RF ((cnt f a).1 - 1, (cnt f a).2) F' ∧ g4_why F' = g4_why F := by
  obtain ⟨k, m, p⟩ := a
  obtain ⟨h4, h0, h1, h23⟩ := ha
  dsimp only at h4 h0 h1 h23
  unfold m4_count m4_count_J18 m0_kindOf m0_target m0_doer
  rcases (show k = 0 ∨ k = 1 ∨ k = 2 ∨ k = 3 ∨ k = 4 by omega) with rfl | rfl | rfl | rfl | rfl
  · have hp := h0 rfl
    by_cases q : p = 13 ∧ f.2.2.2 = none
    · refine ⟨s4_manUp (s4_actUp (s4_steps F (g4_steps F + nI 1)) (g4_acts F)) (nI m), ?_, ?_, rfl⟩
      · show tbd (some (nI 0)) _ = _
        simp (disch := omega) only [tbd_some, I0, I1, I6, I13, nEQ, if_neg]
        show (if nI 0 = nI 0 then (if nI p = nI 13 then _ else _) else _) = _
        rw [if_pos rfl, if_pos ((nEQ (by omega) (by omega)).mpr q.1), if_pos (by rw [h.2.2.2.1]; exact (upA_none hf).mpr q.2)]
        rfl
      · refine ⟨h.1, ?_, h.2.2.1, ?_, ?_⟩
        · show g4_steps F + nI 1 = _; rw [h.2.1, nI_add]; rfl
        · show g4_acts F = upA _
          rw [h.1]; unfold upA cnt; simp [q]
        · show nI m = upM _
          unfold upM cnt; simp [q]
    · refine ⟨s4_steps F (g4_steps F + nI 1), ?_, ?_, rfl⟩
      · show tbd (some (nI 0)) _ = _
        simp (disch := omega) only [tbd_some, I0, I1, I6, I13, nEQ, if_neg]
        show (if nI 0 = nI 0 then (if nI p = nI 13 then _ else _) else _) = _
        rw [if_pos rfl]
        by_cases q2 : p = 13
        · rw [if_pos ((nEQ (by omega) (by omega)).mpr q2), if_neg (by rw [h.2.2.2.1]; exact fun z => q ⟨q2, (upA_none hf).mp z⟩)]
        · rw [if_neg (fun z => q2 ((nEQ (by omega) (by omega)).mp z))]
      · have e : (cnt f (0, m, p)).2.2.2 = f.2.2.2 := by unfold cnt; simp only [true_and, q, if_false]
        refine ⟨h.1, ?_, h.2.2.1, ?_, ?_⟩
        · show g4_steps F + nI 1 = _; rw [h.2.1, nI_add]; rfl
        · show g4_actUp F = upA _
          rw [h.2.2.2.1]; unfold upA; rw [e]
        · show g4_manUp F = upM _
          rw [h.2.2.2.2]; unfold upM; rw [e]
  · refine ⟨s4_paid F (g4_paid F + nI 1), ?_, ?_, rfl⟩
    · show tbd (some (nI 1)) _ = _
      simp (disch := omega) only [tbd_some, I0, I1, nEQ, if_neg, if_true]
      show (if nI 1 = nI 0 then _ else _) = _
      rw [if_neg (by decide)]
    · have e : (cnt f (1, m, p)).2.2.2 = f.2.2.2 := by unfold cnt; simp
      refine ⟨h.1, h.2.1, ?_, ?_, ?_⟩
      · show g4_paid F + nI 1 = _; rw [h.2.2.1, nI_add]; rfl
      · show g4_actUp F = upA _
        rw [h.2.2.2.1]; unfold upA; rw [e]
      · show g4_manUp F = upM _
        rw [h.2.2.2.2]; unfold upM; rw [e]
  all_goals
    refine ⟨F, ?_, ?_, rfl⟩
    · first
        | show tbd (some (nI 2)) _ = _
        | show tbd (some (nI 3)) _ = _
        | show tbd (some (nI 4)) _ = _
      simp (disch := omega) only [tbd_some, I0, I1, nEQ, if_neg]
      first
        | (show (if nI 2 = nI 0 then _ else _) = _; rw [if_neg (by decide)])
        | (show (if nI 3 = nI 0 then _ else _) = _; rw [if_neg (by decide)])
        | (show (if nI 4 = nI 0 then _ else _) = _; rw [if_neg (by decide)])
    · exact h
theorem attempt_no (h : RC c Fa) (hw : WF cb c) (hcb : cb < 2147483647) {a : AC} (ha : WA a) (hr : ¬ reasonS c a = 0) : m4_attempt F (actI a) Fa = some (nI 0, s4_why F (nI (reasonS c a)), Fa) := by
  have hl := reason_le (c := c) (a := a)
  unfold m4_attempt
  simp (disch := omega) only [reasonAgainst_ok h hw hcb ha, tbd_some, I0, nEQ, if_neg]
theorem attempt_ok (h : RC c Fa) (hw : WF cb c) (hcb : cb < 2147483647) {a : AC} (ha : WA a) (hr : reasonS c a = 0) (hF : RF f F) (hf : WT f) : ∃ F' Fa', m4_attempt F (actI a) Fa = some (nI 1, F', Fa') ∧ RF (cnt f a) F' ∧ RC (doS c a) Fa' ∧ SG Fa Fa' ∧ g4_why F' = nI 0 := by
  obtain ⟨Fa', e1, e2, e3⟩ := perform_ok h hw hcb ha hr
  obtain ⟨F1, e4, e5, e6⟩ := count_ok (F := s4_why F (nI 0)) (f := f) hF hf ha
  refine ⟨s4_acts F1 (g4_acts F1 + nI 1), Fa', ?_, ?_, e2, e3, ?_⟩
  · unfold m4_attempt
    simp (disch := omega) only [reasonAgainst_ok h hw hcb ha, hr, tbd_some, I0, I1, nEQ, if_true, e1, e4]
  · refine ⟨?_, e5.2.1, e5.2.2.1, e5.2.2.2.1, e5.2.2.2.2⟩
    show g4_acts F1 + nI 1 = _
    rw [e5.1, nI_add]; rfl
  · show g4_why F1 = _
    rw [e6]; rfl
variable {n : Nat} {sg : Nat → Nat} {P : SX5} {Oc : SX1}
theorem placeOfSign_ok {s : Nat} (h : s ≤ 200) : m5_placeOfSign (nI s) = some (nI (plS s)) := by
  unfold m5_placeOfSign
  simp (disch := omega) only [I94, I13, I0, I1, I97, nEQ, isRungSign_ok, tbd_some, bI_0]
  unfold plS
  by_cases a : s = 94
  · simp [a]
  · cases b : isR s with
    | false => simp [a]
    | true =>
      have b2 := b
      unfold isR at b2
      simp only [decide_eq_true_eq] at b2
      rw [nSUB (by omega), nI_add, show s - 97 + 1 = s - 96 by omega]
      simp [a]
theorem read_ok (h : RPc n sg P) (hw : WP n sg) {i : Nat} (hi : i < n) (hv : wrS n sg i = none) (A : SX0) : m5_read P A (nI i) (nI (endS n sg i)) = some (actI (actS n sg i)) := by
  have hn := hw.1
  have hE := endS_sp n sg i
  have h0 := sgn_le hw i
  have h1 := sgn_le hw (endS n sg i - 1)
  have hk := (act_valid hw hi hv).2.2
  have e0 : sgn n sg i = sg i := sgn_in hi
  have e3 : (nI (endS n sg i - i) = nI 3) ↔ endS n sg i = i + 3 := by
    rw [nEQ (by omega) (by omega)]; omega
  unfold m5_read m5_read_J87
  simp (disch := omega) only [I0, I1, I2, I3, I4, I43, I46, I65, I107, signAt_ok h hw, tbd_some, nSUB, nEQ, placeOfSign_ok, e3]
  unfold actS
  rw [e0]
  by_cases a : sg i = 46
  · simp only [a, if_true]; rfl
  · by_cases b : sg i = 107
    · simp (disch := decide) only [b, if_true, if_neg]; rfl
    · by_cases d : sg i = 43
      · simp (disch := decide) only [d, if_true, if_neg]; rfl
      · have hm : nI (sg i) - nI 65 = nI (sg i - 65) := nSUB (by omega)
        simp only [a, b, d, if_false, hm]
        by_cases g : endS n sg i = i + 3
        · simp only [g, if_true]; rfl
        · simp only [g, if_false]; rfl
theorem burn_go (hP : RPc n sg P) (hw : WP n sg) : ∀ (k fuel i q : Nat) (c : CS) (cb : Nat) (f : FT) (F : SX4) (A : SX0) (Fa : SX1), ff n sg k i = none → n - i ≤ k → i ≤ n → q + (n - i) ≤ 60 → k < fuel → RC c Fa → WF cb c → cb + (n - i) < 2147483647 → RF f F → WT f → f.1 + (n - i) ≤ 1000 → g4_why F = nI 0 →
    ∃ F' A' Fa', tit (m4_burn_L21 P Oc) fuel (nI i, nI q, F, A, Fa) = some (bI (decide ((burnS n sg k i c f).1 = 0)), F', A', Fa') ∧ RF (burnS n sg k i c f).2.2 F' ∧ RC (burnS n sg k i c f).2.1 Fa' ∧ WF (cb + (n - i)) (burnS n sg k i c f).2.1 ∧ g4_why F' = nI (burnS n sg k i c f).1 ∧ SG Fa Fa' := by
  have hn := hw.1
  intro k
  induction k with
  | zero =>
    intro fuel i q c cb f F A Fa hff hk hi hq hfu hC hwf hcb hF hf hfl hy
    obtain ⟨fuel, rfl⟩ : ∃ m, fuel = m + 1 := ⟨fuel - 1, by omega⟩
    refine ⟨F, A, Fa, ?_, hF, hC, hwf.mono (by omega), hy, rfl, rfl, rfl⟩
    show m4_burn_B21 P Oc (tit (m4_burn_L21 P Oc) fuel) (nI i) (nI q) F A Fa = _
    unfold m4_burn_B21 m5_size
    simp (disch := omega) only [I60, nLE, tbd_some, hP.1, if_pos]
    by_cases a : 60 ≤ q
    · rw [if_pos a]; rfl
    · rw [if_neg a]; rfl
  | succ k ih =>
    intro fuel i q c cb f F A Fa hff hk hi hq hfu hC hwf hcb hF hf hfl hy
    obtain ⟨fuel, rfl⟩ : ∃ m, fuel = m + 1 := ⟨fuel - 1, by omega⟩
    by_cases hin : n ≤ i
    · have e : burnS n sg (k + 1) i c f = (0, c, f) := by unfold burnS; rw [if_pos hin]
      rw [e]
      refine ⟨F, A, Fa, ?_, hF, hC, hwf.mono (by omega), hy, rfl, rfl, rfl⟩
      show m4_burn_B21 P Oc (tit (m4_burn_L21 P Oc) fuel) (nI i) (nI q) F A Fa = _
      unfold m4_burn_B21 m5_size
      simp (disch := omega) only [I60, nLE, tbd_some, hP.1, if_pos]
      by_cases a : 60 ≤ q
      · rw [if_pos a]; rfl
      · rw [if_neg a]; rfl
    · have hlt : i < n := by omega
      obtain ⟨hv, hff2⟩ := ff_step hlt hff
      obtain ⟨hE1, hA1, -⟩ := act_valid hw hlt hv
      have hE := endS_sp n sg i
      have hstep : ∀ X, m4_attempt F (actI (actS n sg i)) Fa = some X → m4_burn_L21 P Oc (tit (m4_burn_L21 P Oc) fuel) (nI i, nI q, F, A, Fa) = if X.1 = nI 0 then some (nI 0, X.2.1, actI (actS n sg i), X.2.2) else tit (m4_burn_L21 P Oc) fuel (nI (endS n sg i), nI (q + 1), X.2.1, actI (actS n sg i), X.2.2) := by
        intro X hX
        show m4_burn_B21 P Oc (tit (m4_burn_L21 P Oc) fuel) (nI i) (nI q) F A Fa = _
        unfold m4_burn_B21 m5_size
        simp (disch := omega) only [I60, I1, I0, nLE, tbd_some, hP.1, if_neg, endOfAct_ok hP hw, read_ok hP hw hlt hv, hX, tnm_eq, nI_add]
      by_cases hr : reasonS c (actS n sg i) = 0
      · obtain ⟨F1, Fa1, e1, e2, e3, e4, e5⟩ := attempt_ok hC hwf (by omega) hA1 hr hF hf
        have e : burnS n sg (k + 1) i c f = burnS n sg k (endS n sg i) (doS c (actS n sg i)) (cnt f (actS n sg i)) := by
          conv => lhs; unfold burnS
          rw [if_neg hin, if_pos hr]
        rw [e]
        obtain ⟨F2, A2, Fa2, g1, g2, g3, g4, g5, g6⟩ := ih fuel (endS n sg i) (q + 1) (doS c (actS n sg i)) (cb + 1) (cnt f (actS n sg i)) F1 (actI (actS n sg i)) Fa1 hff2 (by omega) hE1 (by omega) (by omega) e3 (WF_do hwf hA1 hr) (by omega) e2 (WT_cnt hf (by omega) hA1) (by show f.1 + 1 + _ ≤ _; omega) e5
        refine ⟨F2, A2, Fa2, ?_, g2, g3, g4.mono (by omega), g5, g6.1.trans e4.1, g6.2.1.trans e4.2.1, g6.2.2.trans e4.2.2⟩
        show m4_burn_L21 P Oc (tit (m4_burn_L21 P Oc) fuel) (nI i, nI q, F, A, Fa) = _
        rw [hstep _ e1, if_neg (show ¬ nI 1 = nI 0 by decide)]
        exact g1
      · have e : burnS n sg (k + 1) i c f = (reasonS c (actS n sg i), c, f) := by
          unfold burnS; rw [if_neg hin, if_neg hr]
        rw [e]
        have e1 := attempt_no (F := F) hC hwf (by omega) hA1 hr
        refine ⟨s4_why F (nI (reasonS c (actS n sg i))), actI (actS n sg i), Fa, ?_, hF, hC, hwf.mono (by omega), rfl, rfl, rfl, rfl⟩
        show m4_burn_L21 P Oc (tit (m4_burn_L21 P Oc) fuel) (nI i, nI q, F, A, Fa) = _
        rw [hstep _ e1, if_pos rfl]
        show _ = some (bI (decide (reasonS c (actS n sg i) = 0)), _, _, _)
        rw [decide_eq_false hr]; rfl
end
