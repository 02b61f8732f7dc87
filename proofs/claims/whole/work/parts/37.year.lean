/-! year -/
def dpS (c : CS) (z w : Nat) : Nat := if z / 4 % 4 = 0 then cP c w - (1 + z % cS c w) else min (cP c w + (1 + z % cS c w)) 13
def drawA (c : CS) (x : Nat) : AC := if x / 6 % 8 < 4 then (0, x % 6, dpS c (x / 48) (x % 6)) else if x / 6 % 8 = 4 then (1, x % 6, 1 + x / 48 % 12) else if x / 6 % 8 = 5 then (if x / 48 / 12 % 2 = 0 then 2 else 3, x % 6, 1 + x / 48 % 12) else (4, x % 6, 0)
theorem mx_ok : ∀ p, p < 14 → ∀ f, f < 6 → imax (nI p - nI f) (nI 0) = nI (p - f) := by decide
theorem sub_neg : ∀ p, p < 14 → ∀ f, f < 6 → p < f → ¬ nI 0 ≤ nI p - nI f := by decide
theorem nMUL {a b : Nat} (ha : a < 2147483648) (hb : b < 2147483648) : nI a * nI b = nI (a * b) := by
  apply Int32.toBitVec_inj.mp
  unfold nI
  simp [Int32.toBitVec_mul, BitVec.ofNat_mul]
section
variable {c : CS} {cb : Nat} {f : FT} {T : SX10} {B Fa : SX1}
theorem far_lt (hw : WF cb c) {w : Nat} (hm : w < 6) (z : Nat) : 1 + z % cS c w ≤ 4 := by
  have := hw.2.2.1 w hm
  have h2 : z % cS c w < cS c w := Nat.mod_lt _ (by omega)
  omega
theorem dpS_le (hw : WF cb c) {w : Nat} (hm : w < 6) (z : Nat) : dpS c z w ≤ 13 := by
  have := hw.2.2.1 w hm
  unfold dpS
  split <;> omega
theorem drawA_WA (hw : WF cb c) (x : Nat) : WA (drawA c x) := by
  have hx : x % 6 < 6 := Nat.mod_lt _ (by decide)
  have hr : 1 ≤ 1 + x / 48 % 12 ∧ 1 + x / 48 % 12 ≤ 12 := by omega
  unfold drawA
  split
  · exact wa0 hx (dpS_le hw hx _)
  · split
    · exact wa1 hx hr
    · split
      · split
        · exact wa2 hr
        · exact wa3 hr
      · exact wa4
theorem drawnPlace_ok (h : RC c Fa) (hw : WF cb c) {w z : Nat} (hm : w < 6) (hz : z < 10000) : m0_drawnPlace Fa (nI z) (nI w) = some (nI (dpS c z w)) := by
  have hmm := hw.2.2.1 w hm
  have hf := far_lt hw hm z
  unfold m0_drawnPlace m0_drawnPlace_J19
  simp (disch := omega) only [strideOf_ok h, placeOf_ok h, tbd_some, I0, I1, I4, I13, nLE, if_neg, nZ, tgd_true, nREM, nDIV, nI_add, nEQ]
  unfold dpS
  by_cases q : z / 4 % 4 = 0
  · rw [if_pos q, if_pos q, mx_ok _ (by omega) _ (by omega)]
  · rw [if_neg q, if_neg q, nMIN (by omega) (by omega)]
theorem draw_ok (h : RC c Fa) (hw : WF cb c) {x : Nat} (hx : x ≤ 65536) (A : SX0) : m0_draw A Fa (nI x) = some (actI (drawA c x)) := by
  unfold m0_draw m0_draw_J64 m0_draw_J107 m0_become
  simp (disch := omega) only [I0, I1, I2, I3, I4, I5, I6, I8, I12, I48, nREM, nDIV, tnm_eq, nEQ, nI_add, drawnPlace_ok h hw, tbd_some]
  unfold drawA
  rcases (show x / 6 % 8 = 0 ∨ x / 6 % 8 = 1 ∨ x / 6 % 8 = 2 ∨ x / 6 % 8 = 3 ∨ x / 6 % 8 = 4 ∨ x / 6 % 8 = 5 ∨ 6 ≤ x / 6 % 8 by omega) with a | a | a | a | a | a | a
  · rw [if_pos a, if_pos (by omega)]; rfl
  · rw [if_neg (by omega), if_pos a, if_pos (by omega)]; rfl
  · rw [if_neg (by omega), if_neg (by omega), if_pos a, if_pos (by omega)]; rfl
  · rw [if_neg (by omega), if_neg (by omega), if_neg (by omega), if_pos a, if_pos (by omega)]; rfl
  · rw [if_neg (by omega), if_neg (by omega), if_neg (by omega), if_neg (by omega), if_pos a, if_neg (by omega), if_pos a]; rfl
  · rw [if_neg (by omega), if_neg (by omega), if_neg (by omega), if_neg (by omega), if_neg (by omega), if_pos a, if_neg (show ¬ x / 6 % 8 < 4 by omega), if_neg (show ¬ x / 6 % 8 = 4 by omega), if_pos a]
    by_cases q : x / 48 / 12 % 2 = 0
    · rw [if_pos q, if_pos q]; rfl
    · rw [if_neg q, if_neg q]; rfl
  · rw [if_neg (by omega), if_neg (by omega), if_neg (by omega), if_neg (by omega), if_neg (by omega), if_neg (by omega), if_neg (by omega), if_neg (by omega), if_neg (by omega)]; rfl
theorem year_step (h : RM c (g10_now T)) (hw : WF cb c) (hcb : cb < 2147483647) {x i m : Nat} (hx : x ≤ 65536) (hi : i < m) (hm : m < 2147483648) (w : Int32) (rc : Int32 × Int32 × SX10 → Option (Int32 × SX10)) : m10_year_B43 (nI m) w rc (nI x) (nI i) T = rc (nI ((75 * x + 74) % 65537), nI (i + 1), s10_reason (if reasonS c (drawA c ((75 * x + 74) % 65537)) = 0 then actT c T (drawA c ((75 * x + 74) % 65537)) else T) (nI (reasonS c (drawA c ((75 * x + 74) % 65537))))) := by
  unfold m10_year_B43
  simp (disch := omega) only [nLE, if_neg, I75, I74, I65537, I6, I8, I48, I4, I5, I1, I0, I2, I12, I26, I38, nMUL, nI_add, nREM, nDIV, tnm_eq, nEQ]
  generalize hy : (75 * x + 74) % 65537 = y
  have hy2 : y < 65537 := by rw [← hy]; exact Nat.mod_lt _ (by decide)
  have hr : 1 ≤ 1 + y / 48 % 12 ∧ 1 + y / 48 % 12 ≤ 12 := by omega
  unfold drawA
  by_cases a4 : y / 6 % 8 < 4
  · rw [if_neg (by omega)]
    have hmm := hw.2.2.1 (y % 6) (by omega)
    have hf := far_lt hw (w := y % 6) (by omega) (y / 48)
    have hb := h.2.2.1 (y % 6) (by omega)
    simp (disch := omega) only [tin_nI, tgd_true, nC, hb.1, hb.2.2, nZ, nREM, nI_add, if_pos]
    have hdp := dpS_le hw (w := y % 6) (by omega) (y / 48)
    have e : (if y / 48 / 4 % 4 = 0 then m10_year_J147 T (nI m) w (nI y) (nI i) (nI (y % 6)) (nI (cP c (y % 6)) - nI (1 + y / 48 % cS c (y % 6))) rc else m10_year_J147 T (nI m) w (nI y) (nI i) (nI (y % 6)) (nI (cP c (y % 6) + (1 + y / 48 % cS c (y % 6)))) rc) = m10_year_J176 T (nI m) w (nI y) (nI i) (nI (y % 6)) (nI (dpS c (y / 48) (y % 6))) rc := by
      unfold m10_year_J147 dpS
      simp only [I0, I13]
      by_cases q : y / 48 / 4 % 4 = 0
      · rw [if_pos q, if_pos q]
        by_cases g : 1 + y / 48 % cS c (y % 6) ≤ cP c (y % 6)
        · rw [nSUB g, if_pos ((nLE (by omega) (by omega)).mpr (by omega)), if_pos ((nLE (by omega) (by omega)).mpr (by omega))]
        · rw [if_neg (sub_neg _ (by omega) _ (by omega) (by omega)), show cP c (y % 6) - (1 + y / 48 % cS c (y % 6)) = 0 by omega]
      · rw [if_neg q, if_neg q, if_pos ((nLE (by omega) (by omega)).mpr (by omega))]
        by_cases g : cP c (y % 6) + (1 + y / 48 % cS c (y % 6)) ≤ 13
        · rw [if_pos ((nLE (by omega) (by omega)).mpr g), Nat.min_eq_left g]
        · rw [if_neg (fun z => g ((nLE (by omega) (by omega)).mp z)), Nat.min_eq_right (by omega)]
    rw [e]
    unfold m10_year_J176
    rw [goTo_ok h hw (by omega) hdp, tbd_some, tnm_eq, I1, nI_add]
    rfl
  · rw [if_pos (by omega), if_neg a4, ]
    by_cases a5 : y / 6 % 8 = 4
    · rw [if_pos a5, if_pos a5, leaseTo10_ok h hw (by omega) hr.1 hr.2 hcb, tbd_some]
      rfl
    · rw [if_neg a5, if_neg a5]
      by_cases a6 : y / 6 % 8 = 5
      · rw [if_pos a6, if_pos a6]
        unfold m10_year_J241
        by_cases q : y / 48 / 12 % 2 = 0
        · rw [if_pos q, if_pos q, show nI 1 = bI true from rfl, lose_ok h hw hr.1 hr.2, tbd_some, tnm_eq, I1, nI_add]
          rfl
        · rw [if_neg q, if_neg q, show nI 0 = bI false from rfl, lose_ok h hw hr.1 hr.2, tbd_some, tnm_eq, I1, nI_add]
          rfl
      · rw [if_neg a6, if_neg a6, endBeat_ok h hw, tbd_some]
        rfl
theorem year_go : ∀ (k fuel1 fuel2 i x : Nat) (c : CS) (cb : Nat) (f : FT) (A : SX0) (F : SX4) (Fa : SX1) (T : SX10), k < fuel1 → k < fuel2 → i + k ≤ 99 → x ≤ 65536 → RC c Fa → RM c (g10_now T) → WF cb c → cb + k < 2147000000 → RF f F → g10_steps T = nI f.2.1 → WT f → f.1 + k ≤ 1000 →
    ∃ (c' : CS) (f' : FT) (A' : SX0) (F' : SX4) (Fa' : SX1) (T' : SX10), tit (m9_passYear_L16 () B (nI (i + k))) fuel1 (nI x, nI i, A, F, Fa) = some (A', F', Fa') ∧ (∀ w, w < 3 → tit (m10_year_L43 (nI (i + k)) (nI w)) fuel2 (nI x, nI i, T) = some ((if w = 0 then nI (rf c' 6) else if w = 1 then nI (cC c' 0) else nI f'.2.1), T')) ∧ RC c' Fa' ∧ WF (cb + k) c' ∧ RF f' F' ∧ KP T T' := by
  intro k
  induction k with
  | zero =>
    intro fuel1 fuel2 i x c cb f A F Fa T h1 h2 hi hx hC hM hw hcb hF hs hf hk
    obtain ⟨fuel1, rfl⟩ : ∃ m, fuel1 = m + 1 := ⟨fuel1 - 1, by omega⟩
    obtain ⟨fuel2, rfl⟩ : ∃ m, fuel2 = m + 1 := ⟨fuel2 - 1, by omega⟩
    refine ⟨c, f, A, F, Fa, T, ?_, fun w hw3 => ?_, hC, hw, hF, KP.refl T⟩
    · show m9_passYear_B16 () B (nI (i + 0)) _ (nI x) (nI i) A F Fa = _
      unfold m9_passYear_B16
      rw [Nat.add_zero, if_pos ((nLE (by omega) (by omega)).mpr (Nat.le_refl i))]
    · show m10_year_B43 (nI (i + 0)) (nI w) _ (nI x) (nI i) T = _
      unfold m10_year_B43
      rw [Nat.add_zero, if_pos ((nLE (by omega) (by omega)).mpr (Nat.le_refl i))]
      simp (disch := omega) only [I0, I1, I32, nC, nEQ, roof_ok hM hw, tbd_some, hs]
      rw [show g10_now T 32 = nI (cC c 0) from (hM.2.2.1 0 (by decide)).2.1]
      rcases (show w = 0 ∨ w = 1 ∨ w = 2 by omega) with rfl | rfl | rfl <;> rfl
  | succ k ih =>
    intro fuel1 fuel2 i x c cb f A F Fa T h1 h2 hi hx hC hM hw hcb hF hs hf hk
    obtain ⟨fuel1, rfl⟩ : ∃ m, fuel1 = m + 1 := ⟨fuel1 - 1, by omega⟩
    obtain ⟨fuel2, rfl⟩ : ∃ m, fuel2 = m + 1 := ⟨fuel2 - 1, by omega⟩
    have hA := drawA_WA hw ((75 * x + 74) % 65537)
    have hx' : (75 * x + 74) % 65537 ≤ 65536 := by omega
    have hms : ∀ w, w < 3 → tit (m10_year_L43 (nI (i + (k + 1))) (nI w)) (fuel2 + 1) (nI x, nI i, T) = tit (m10_year_L43 (nI (i + (k + 1))) (nI w)) fuel2 (nI ((75 * x + 74) % 65537), nI (i + 1), s10_reason (if reasonS c (drawA c ((75 * x + 74) % 65537)) = 0 then actT c T (drawA c ((75 * x + 74) % 65537)) else T) (nI (reasonS c (drawA c ((75 * x + 74) % 65537))))) := by
      intro w hw3
      show m10_year_B43 (nI (i + (k + 1))) (nI w) _ (nI x) (nI i) T = _
      exact year_step hM hw (by omega) hx (by omega) (by omega) _ _
    have hcs : ∀ X, m4_attempt F (actI (drawA c ((75 * x + 74) % 65537))) Fa = some X → tit (m9_passYear_L16 () B (nI (i + (k + 1)))) (fuel1 + 1) (nI x, nI i, A, F, Fa) = tit (m9_passYear_L16 () B (nI (i + (k + 1)))) fuel1 (nI ((75 * x + 74) % 65537), nI (i + 1), actI (drawA c ((75 * x + 74) % 65537)), X.2.1, X.2.2) := by
      intro X hX
      show m9_passYear_B16 () B (nI (i + (k + 1))) _ (nI x) (nI i) A F Fa = _
      unfold m9_passYear_B16 m4_behindIt
      simp (disch := omega) only [nLE, if_neg, I75, I74, I65537, I1, nMUL, nI_add, nREM, tnm_eq, tbd_some, draw_ok hC hw, hX]
    by_cases hr : reasonS c (drawA c ((75 * x + 74) % 65537)) = 0
    · obtain ⟨F1, Fa1, e1, e2, e3, e4, e5⟩ := attempt_ok hC hw (by omega) hA hr hF hf
      have hc := actT_cnt c T (a := drawA c ((75 * x + 74) % 65537)) hA.1
      obtain ⟨c', f', A', F', Fa', T', g1, g2, g3, g4, g5, g6⟩ := ih fuel1 fuel2 (i + 1) ((75 * x + 74) % 65537) (doS c (drawA c ((75 * x + 74) % 65537))) (cb + 1) (cnt f (drawA c ((75 * x + 74) % 65537))) (actI (drawA c ((75 * x + 74) % 65537))) F1 Fa1 (s10_reason (actT c T (drawA c ((75 * x + 74) % 65537))) (nI 0)) (by omega) (by omega) (by omega) hx' e3 (actT_RM hM hw hA) (WF_do hw hA hr) (by omega) e2 (by show g10_steps (actT c T _) = _; rw [hc.2.1, hs, nI_add]; rfl) (WT_cnt hf (by omega) hA) (by show f.1 + 1 + k ≤ 1000; omega)
      rw [show i + 1 + k = i + (k + 1) by omega] at g1 g2
      refine ⟨c', f', A', F', Fa', T', ?_, fun w hw3 => ?_, g3, g4.mono (by omega), g5, ?_⟩
      · rw [hcs _ e1]; exact g1
      · rw [hms w hw3, if_pos hr, hr]; exact g2 w hw3
      · exact (actT_KP c T _).trans ((show KP (actT c T (drawA c ((75 * x + 74) % 65537))) (s10_reason (actT c T (drawA c ((75 * x + 74) % 65537))) (nI 0)) from ⟨rfl, rfl, rfl, rfl, rfl, rfl, rfl⟩).trans g6)
    · have e1 := attempt_no (F := F) hC hw (by omega) hA hr
      obtain ⟨c', f', A', F', Fa', T', g1, g2, g3, g4, g5, g6⟩ := ih fuel1 fuel2 (i + 1) ((75 * x + 74) % 65537) c cb f (actI (drawA c ((75 * x + 74) % 65537))) (s4_why F (nI (reasonS c (drawA c ((75 * x + 74) % 65537))))) Fa (s10_reason T (nI (reasonS c (drawA c ((75 * x + 74) % 65537))))) (by omega) (by omega) (by omega) hx' hC hM hw (by omega) hF hs hf (by omega)
      rw [show i + 1 + k = i + (k + 1) by omega] at g1 g2
      refine ⟨c', f', A', F', Fa', T', ?_, fun w hw3 => ?_, g3, g4.mono (by omega), g5, ?_⟩
      · rw [hcs _ e1]; exact g1
      · rw [hms w hw3, if_neg hr]; exact g2 w hw3
      · exact (show KP T (s10_reason T (nI (reasonS c (drawA c ((75 * x + 74) % 65537))))) from ⟨rfl, rfl, rfl, rfl, rfl, rfl, rfl⟩).trans g6
end
theorem year_c {cb : Nat} {B : SX1} {P : SX5} {J0 J1 : Option SX1} {M : SX10} (h : Inv cb B P J0 J1 M) (hcb : cb < 2146000000) (A : SX0) (F : SX4) (Fa : SX1) (x y w : Int32) : ∃ v A' F' Fa' M', m9_year () A B F Fa x y w = some (v, A', F', Fa') ∧ m10_year M x y w = some (v, M') ∧ KP M M' := by
  obtain ⟨⟨c, q, sr, sw, hw, hC, hM, -⟩, -⟩ := h
  unfold m9_year m10_year
  simp only [within_eq, I0, I1, I2, I9999, I99]
  rcases rng x 0 9999 (by decide) (by decide) with ⟨s, hs1, hs, rfl⟩ | ho
  · rw [in_in hs1 hs (by omega), tbd_some, tbd_some]
    simp only [n10, if_false]
    rcases rng y 1 99 (by decide) (by decide) with ⟨m, hm1, hm, rfl⟩ | ho
    · rw [in_in hm1 hm (by omega), tbd_some, tbd_some]
      simp only [n10, if_false]
      rcases rng w 0 2 (by decide) (by decide) with ⟨z, hz1, hz, rfl⟩ | ho
      · rw [in_in hz1 hz (by omega), tbd_some, tbd_some]
        simp only [n10, if_false]
        obtain ⟨F1, A1, e1, e2, e3, e4, e5⟩ := begin_ok hC F Fa
        obtain ⟨T1, d1, d2, d3, d4, -⟩ := asNow_ok hM
        obtain ⟨c', f', A', F', Fa', T', g1, g2, g3, g4, g5, g6⟩ := year_go (B := B) m FU FU 0 s c cb f0 A F1 A1 T1 (FU_gt (by omega)) (FU_gt (by omega)) (by omega) (by omega) e2 d2 hw (by omega) e4 d4 WT_f0 (by show 0 + m ≤ 1000; omega)
        rw [Nat.zero_add] at g1 g2
        have hpass : m9_passYear () A B F Fa (nI s) (nI m) = some (A', F', Fa') := by
          unfold m9_passYear
          rw [e1, tbd_some, I0]
          exact g1
        rw [hpass, d1, tbd_some, tbd_some, g2 z (by omega)]
        unfold m4_behindIt m4_stepsMade
        simp (disch := omega) only [tbd_some, nEQ, menOnRoof_ok g3 g4, coinsOf_ok g3, g5.2.1]
        rcases (show z = 0 ∨ z = 1 ∨ z = 2 by omega) with rfl | rfl | rfl <;> exact ⟨_, _, _, _, _, rfl, rfl, d3.trans g6⟩
      · rw [in_out ho, tbd_some, tbd_some]
        simp only [if_true]
        exact ⟨_, _, _, _, _, rfl, rfl, KP.refl M⟩
    · rw [in_out ho, tbd_some, tbd_some]
      simp only [if_true]
      exact ⟨_, _, _, _, _, rfl, rfl, KP.refl M⟩
  · rw [in_out ho, tbd_some, tbd_some]
    simp only [if_true]
    exact ⟨_, _, _, _, _, rfl, rfl, KP.refl M⟩
