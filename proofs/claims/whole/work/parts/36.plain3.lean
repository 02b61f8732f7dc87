/-! told, image, restore, the start -/
section
variable {cb : Nat} {B : SX1} {P : SX5} {J0 J1 : Option SX1} {M : SX10}
theorem told_c (h : Inv cb B P J0 J1 M) (x : Int32) : ∃ v M', m9_told () B P x = some v ∧ m10_told M x = some (v, M') ∧ KP M M' := by
  obtain ⟨⟨c, q, sr, sw, hw, hC, hM, hS, hSc, hSm⟩, ⟨n, sg, hp, hPc, hPm⟩, h0, h1⟩ := h
  obtain ⟨T1, e1, e2, e3, -⟩ := asNow_ok hM
  have hB := e3.1
  have hM1 : RM c (g10_book T1) := by rw [hB]; exact hM
  have hmis := hw.2.1
  unfold m9_told m10_told
  rw [e1, tbd_some]
  unfold m5_size m1_beatNow m1_menStepped m1_rungsMissing m1_sightCount
  simp only [I0, I1, I2, I3, I4, I5, I10, I39, I40, I60, I20, I30, I26, I32, I38, I44, I45, I46, within_eq]
  rcases rng x 0 72 (by decide) (by decide) with ⟨k, -, hk, rfl⟩ | ho
  · by_cases k6 : k < 6
    · have r1 : g10_signs T1 = nI n := by rw [e3.2.2.2.1]; exact hPm.1
      have r2 : g10_sights T1 = nI q := by rw [e3.2.1]; exact hSm.1
      have r3 : nI (2 * cM c) >>> (nI 1 &&& 31) = nI (cM c) := by
        rw [nSHR (by omega) (by omega), show 2 * cM c / 2 ^ 1 = cM c by omega]
      have r4 : g10_book T1 46 = nI (cB c) := hM1.2.2.2.2
      have r5 : g10_book T1 44 = nI (cT c) := hM1.2.2.2.1
      have r6 : g10_book T1 45 = nI (2 * cM c) := hM1.2.1
      simp (disch := omega) only [nLT, if_pos, nC, r1, r2, r4, r5, r6, r3, hPc.1, hC.2.2.2.2, hC.2.2.2.1, hC.2.1, hSc.1, menOnRoof_ok hC hw, roof_ok e2 hw, tbd_some, nEQ]
      rcases six (show k ≤ 5 by omega) with rfl | rfl | rfl | rfl | rfl | rfl <;> exact ⟨_, _, rfl, rfl, e3⟩
    · simp (disch := omega) only [nEQ, if_neg, nLT]
      by_cases k10 : k < 10
      · rw [in_ok (by omega) (by omega) (by omega), tbd_some, decide_eq_false (by omega), if_pos (show bI false = nI 0 from rfl), if_pos (by omega), if_pos k10]
        unfold m9_toldOfRung
        simp only [I41, I52, I61, I72, I0, I2, within_eq]
        rw [in_ok (by omega) (by omega) (by omega), tbd_some, decide_eq_false (by omega), if_pos (show bI false = nI 0 from rfl), in_ok (by omega) (by omega) (by omega), tbd_some, decide_eq_false (by omega), if_pos (show bI false = nI 0 from rfl), tbd_some]
        exact ⟨_, _, rfl, rfl, e3⟩
      · by_cases k40 : k < 40
        · rw [in_ok (by omega) (by omega) (by omega), tbd_some, decide_eq_true (by omega), if_neg (show ¬ bI true = nI 0 by decide), if_pos k40, if_neg k10]
          unfold m9_toldOfMan
          simp (disch := omega) only [nDIV, nREM, tnm_eq, I0, I1, I2]
          by_cases km : k % 10 < 6
          · have hb := hM1.2.2.1 (k % 10) km
            simp (disch := omega) only [isMan_in, isMan10_in, tbd_some, if_neg, if_false, nEQ, placeOf_ok hC, coinsOf_ok hC, strideOf_ok hC, nLE, nI_add, tin_nI, tgd_true, nC, hb.1, hb.2.1, hb.2.2]
            rcases (show (k / 10 = 1 ∧ k < 20) ∨ (k / 10 = 2 ∧ 20 ≤ k ∧ k < 30) ∨ (k / 10 = 3 ∧ 30 ≤ k) by omega) with a | a | a
            · rw [if_pos a.1, if_neg (by omega)]
              exact ⟨_, _, rfl, rfl, e3⟩
            · rw [if_neg (by omega), if_pos a.1, if_pos (by omega), if_neg (by omega)]
              exact ⟨_, _, rfl, rfl, e3⟩
            · rw [if_neg (by omega), if_neg (by omega), if_pos (by omega), if_pos (by omega)]
              exact ⟨_, _, rfl, rfl, e3⟩
          · have ho : nI (k % 10) < nI 0 ∨ nI 5 < nI (k % 10) := Or.inr ((nLT (by omega) (by omega)).mpr (by omega))
            rw [isMan_out ho, isMan10_out ho, tbd_some, tbd_some, if_pos rfl, if_pos rfl, tbd_some]
            exact ⟨_, _, rfl, rfl, e3⟩
        · rw [in_ok (by omega) (by omega) (by omega), tbd_some, decide_eq_false (by omega), if_pos (show bI false = nI 0 from rfl), if_neg k40]
          unfold m9_toldOfRung m10_told_J27
          simp only [I41, I52, I61, I72, I0, I2, I13, I60, I40, within_eq]
          by_cases k60 : k < 60
          · rw [if_pos k60, nSUB (a := k) (b := 40) (by omega)]
            by_cases a : 1 ≤ k - 40 ∧ k - 40 ≤ 12
            · have hb := hM1.1 (k - 40) a.1 a.2
              have ho := hw.1 (k - 40) a.1 a.2
              rw [in_ok (by omega) (by omega) (by omega), tbd_some, decide_eq_true (by omega), if_neg (show ¬ bI true = nI 0 by decide), ownerOf_ok hC a.1 a.2, tbd_some, orNone_oc ho.1, tbd_some, tbd_some, isRung10_in a.1 a.2, tbd_some, if_neg (by decide), if_pos ((nLT (by omega) (by omega)).mpr k60)]
              simp (disch := omega) only [tin_nI, tgd_true, nC, hb.1]
              exact ⟨_, _, rfl, rfl, e3⟩
            · have ho : nI (k - 40) < nI 1 ∨ nI 12 < nI (k - 40) := by
                by_cases z : k - 40 < 1
                · exact Or.inl ((nLT (by omega) (by omega)).mpr z)
                · exact Or.inr ((nLT (by omega) (by omega)).mpr (by omega))
              rw [in_ok (by omega) (by omega) (by omega), tbd_some, decide_eq_false (by omega), if_pos (show bI false = nI 0 from rfl), in_ok (by omega) (by omega) (by omega), tbd_some, decide_eq_false (by omega), if_pos (show bI false = nI 0 from rfl), tbd_some, isRung10_out ho, tbd_some, if_pos rfl]
              exact ⟨_, _, rfl, rfl, e3⟩
          · rw [if_neg k60, nSUB (a := k) (b := 60) (by omega)]
            by_cases a : 1 ≤ k - 60 ∧ k - 60 ≤ 12
            · have hb := hM1.1 (k - 60) a.1 a.2
              have ho := hw.1 (k - 60) a.1 a.2
              rw [in_ok (by omega) (by omega) (by omega), tbd_some, decide_eq_false (by omega), if_pos (show bI false = nI 0 from rfl), in_ok (by omega) (by omega) (by omega), tbd_some, decide_eq_true (by omega), if_neg (show ¬ bI true = nI 0 by decide), leaserOf_ok hC a.1 a.2, tbd_some, orNone_oc ho.2, tbd_some, tbd_some, isRung10_in a.1 a.2, tbd_some, if_neg (by decide), if_neg (fun z => k60 ((nLT (by omega) (by omega)).mp z))]
              simp (disch := omega) only [nI_add, tin_nI, tgd_true, nC, hb.2]
              exact ⟨_, _, rfl, rfl, e3⟩
            · have ho : nI (k - 60) < nI 1 ∨ nI 12 < nI (k - 60) := by
                by_cases z : k - 60 < 1
                · exact Or.inl ((nLT (by omega) (by omega)).mpr z)
                · exact Or.inr ((nLT (by omega) (by omega)).mpr (by omega))
              rw [in_ok (by omega) (by omega) (by omega), tbd_some, decide_eq_false (by omega), if_pos (show bI false = nI 0 from rfl), in_ok (by omega) (by omega) (by omega), tbd_some, decide_eq_false (by omega), if_pos (show bI false = nI 0 from rfl), tbd_some, isRung10_out ho, tbd_some, if_pos rfl]
              exact ⟨_, _, rfl, rfl, e3⟩
  · have hne : ∀ j, j ≤ 72 → ¬ x = nI j := by
      intro j hj q
      subst q
      rcases ho with z | z
      · have := (nLT (by omega) (by omega)).mp z; omega
      · have := (nLT (by omega) (by omega)).mp z; omega
    have hout : ∀ lo hi, hi ≤ 72 → lo < 2147483648 → (x < nI lo ∨ nI hi < x) := by
      intro lo hi h1 h2
      rcases ho with z | z
      · left
        rw [Int32.lt_iff_toInt_lt, nT (by omega)] at z ⊢
        omega
      · right
        rw [Int32.lt_iff_toInt_lt, nT (by omega)] at z ⊢
        omega
    rw [if_neg (hne 0 (by omega)), if_neg (hne 1 (by omega)), if_neg (hne 2 (by omega)), if_neg (hne 3 (by omega)), if_neg (hne 4 (by omega)), if_neg (hne 5 (by omega)), in_out (hout 10 39 (by omega) (by omega)), tbd_some, if_pos rfl]
    unfold m9_toldOfRung
    simp only [I41, I52, I61, I72, I0, I2, I13, I60, I40, within_eq]
    rw [in_out (hout 41 52 (by omega) (by omega)), tbd_some, if_pos rfl, in_out (hout 61 72 (by omega) (by omega)), tbd_some, if_pos rfl, tbd_some]
    rcases ho with z | z
    · have z1 := Int32.lt_iff_toInt_lt.mp z
      rw [nT (by omega)] at z1
      have a1 : x < nI 40 := by rw [Int32.lt_iff_toInt_lt, nT (by omega)]; omega
      have a2 : x < nI 10 := by rw [Int32.lt_iff_toInt_lt, nT (by omega)]; omega
      rw [if_pos a1, if_pos a2, if_neg (hne 0 (by omega)), if_neg (hne 1 (by omega)), if_neg (hne 2 (by omega)), if_neg (hne 3 (by omega)), if_neg (hne 4 (by omega)), if_neg (hne 5 (by omega))]
      exact ⟨_, _, rfl, rfl, e3⟩
    · obtain ⟨k, hk, rfl⟩ := n_of (x := x) (fun y => by
        have y1 := Int32.lt_iff_toInt_lt.mp y
        have z1 := Int32.lt_iff_toInt_lt.mp z
        rw [nT (by omega)] at y1 z1
        omega)
      have hk72 := (nLT (by omega) hk).mp z
      unfold m10_told_J27
      simp (disch := omega) only [nLT, if_neg, nSUB]
      rw [isRung10_out (Or.inr ((nLT (by omega) (by omega)).mpr (by omega))), tbd_some]
      simp only [I0, I2, if_true]
      exact ⟨_, _, rfl, rfl, e3⟩
theorem isImage_ok (x : Int32) : m9_isImage x = m10_in x (nI 0) (nI 1) := by
  unfold m9_isImage m10_in
  have e : ((2 : Int32) ≤ x) ↔ nI 1 < x := by
    rw [I2, Int32.le_iff_toInt_le, Int32.lt_iff_toInt_lt, nT (by decide), nT (by decide)]; omega
  simp only [e, I0, I1]
theorem copy_RS {A A' : SX1} {q : Nat} {sr : Nat → Nat} {sw : Nat → Bool} (h : SG A A') (g : RSc q sr sw A) : RSc q sr sw A' := ⟨h.1.trans g.1, h.2.1.trans g.2.1, h.2.2.trans g.2.2⟩
theorem copy_KS {B : SX1} {b s : Nat → Int32} {v : Int32} (h : KS cb B b s v) (A : SX1) : ∃ A', m1_copyFrom A B = some A' ∧ ∀ b' s' v', (∀ k, k < 47 → b' k = b k) → (∀ k, k < 16 → s' k = s k) → v' = v → KS cb A' b' s' v' := by
  obtain ⟨c, q, sr, sw, hw, hC, hM, hS, hSc, hSm⟩ := h
  obtain ⟨A', e1, e2, e3⟩ := copyFrom_ok hC A
  refine ⟨A', e1, fun b' s' v' hb hs hv => ⟨c, q, sr, sw, hw, e2, RM_congr hM hb, hS, copy_RS e3 hSc, ?_⟩⟩
  have hq := hS.1
  refine ⟨hv.trans hSm.1, fun j hj => ?_⟩
  rw [hs (2 * j) (by omega), hs (2 * j + 1) (by omega)]
  exact hSm.2 j hj
def cpO (b a : Nat → Int32) (d i : Nat) : Nat → Int32 := fun k => if d ≤ k ∧ k < d + i then b (k - d) else a k
theorem cpO_s (b a : Nat → Int32) (d i : Nat) : upd (cpO b a d i) (d + i) (b i) = cpO b a d (i + 1) := by
  funext k
  rw [upd_e]
  unfold cpO
  by_cases e : k = d + i
  · subst e; rw [if_pos rfl, if_pos (by omega), show d + i - d = i by omega]
  · rw [if_neg e]
    by_cases l : d ≤ k ∧ k < d + i
    · rw [if_pos l, if_pos (by omega)]
    · rw [if_neg l, if_neg (by omega)]
theorem cpO_0 (b a : Nat → Int32) (d : Nat) : cpO b a d 0 = a := by
  funext k; unfold cpO; rw [if_neg (by omega)]
def imgF (M : SX10) (t : Nat) : Nat → Int32 := upd (cpO (g10_sight M) (cpO (g10_book M) (g10_image M) (70 * t) 47) (70 * t + 47) 16) (70 * t + 64) (g10_sights M)
theorem mul70 : ∀ t, t < 2 → nI 70 * nI t = nI (70 * t) := by decide
theorem narb : vp_nar .boolean (nI 1) = nI 1 := by decide
theorem image10_ok (M : SX10) {t : Nat} (ht : t < 2) : m10_image M (nI t) = some (nI 1, s10_isKept (s10_image M (imgF M t)) (upd (g10_isKept M) t (nI 1))) := by
  unfold m10_image
  simp only [I0, I1, I2, I70]
  rw [in_in (by omega) (by omega) (by omega), tbd_some]
  simp only [n10, if_false, mul70 t ht, tnm_eq]
  have k2 := tit_run (F := m10_image_L47 (nI t) (nI (70 * t))) (fun i => (nI i, s10_image M (cpO (g10_sight M) (cpO (g10_book M) (g10_image M) (70 * t) 47) (70 * t + 47) i))) 16 (some (nI 1, s10_isKept (s10_image M (imgF M t)) (upd (g10_isKept M) t (nI 1)))) (fun rc i hi => by
    show m10_image_B47 (nI t) (nI (70 * t)) rc (nI i) (s10_image M (cpO (g10_sight M) (cpO (g10_book M) (g10_image M) (70 * t) 47) (70 * t + 47) i)) = rc (nI (i + 1), s10_image M (cpO (g10_sight M) (cpO (g10_book M) (g10_image M) (70 * t) 47) (70 * t + 47) (i + 1)))
    unfold m10_image_B47
    simp (disch := omega) only [I16, I47, I1, nLE, if_neg, tin_nI, tgd_true, tnm_eq, nI_add, nC]
    rw [← cpO_s (g10_sight M) (cpO (g10_book M) (g10_image M) (70 * t) 47) (70 * t + 47) i]
    rfl) (fun rc => by
    show m10_image_B47 (nI t) (nI (70 * t)) rc (nI 16) (s10_image M (cpO (g10_sight M) (cpO (g10_book M) (g10_image M) (70 * t) 47) (70 * t + 47) 16)) = _
    unfold m10_image_B47
    simp (disch := omega) only [I16, I64, I1, nLE, if_pos, tin_nI, tgd_true, nI_add, nC, narb]
    rfl) FU (FU_gt (by decide))
  have k1 := tit_run (F := m10_image_L19 (nI t) (nI (70 * t))) (fun i => (nI i, s10_image M (cpO (g10_book M) (g10_image M) (70 * t) i))) 47 (tit (m10_image_L47 (nI t) (nI (70 * t))) FU (nI 0, s10_image M (cpO (g10_book M) (g10_image M) (70 * t) 47))) (fun rc i hi => by
    show m10_image_B19 (nI t) (nI (70 * t)) rc (nI i) (s10_image M (cpO (g10_book M) (g10_image M) (70 * t) i)) = rc (nI (i + 1), s10_image M (cpO (g10_book M) (g10_image M) (70 * t) (i + 1)))
    unfold m10_image_B19
    simp (disch := omega) only [I47, I1, nLE, if_neg, tin_nI, tgd_true, tnm_eq, nI_add, nC]
    rw [← cpO_s]
    rfl) (fun rc => by
    show m10_image_B19 (nI t) (nI (70 * t)) rc (nI 47) (s10_image M (cpO (g10_book M) (g10_image M) (70 * t) 47)) = _
    unfold m10_image_B19
    simp (disch := omega) only [I47, I0, nLE, if_pos]) FU (FU_gt (by decide))
  rw [cpO_0] at k1 k2
  exact k1.trans k2
theorem imgF_book (M : SX10) (t k : Nat) (h : k < 47) : imgF M t (70 * t + k) = g10_book M k := by
  unfold imgF cpO
  rw [upd_e, if_neg (by omega), if_neg (by omega), if_pos (by omega), show 70 * t + k - 70 * t = k by omega]
theorem imgF_sight (M : SX10) (t k : Nat) (h : k < 16) : imgF M t (70 * t + 47 + k) = g10_sight M k := by
  unfold imgF cpO
  rw [upd_e, if_neg (by omega), if_pos (by omega), show 70 * t + 47 + k - (70 * t + 47) = k by omega]
theorem imgF_n (M : SX10) (t : Nat) : imgF M t (70 * t + 64) = g10_sights M := by
  unfold imgF; rw [upd_e, if_pos rfl]
theorem imgF_other (M : SX10) {t u k : Nat} (h : t < 2) (hu : u < 2) (hne : ¬ u = t) (hk : k < 70) : imgF M t (70 * u + k) = g10_image M (70 * u + k) := by
  unfold imgF cpO
  rw [upd_e, if_neg (by omega), if_neg (by omega), if_neg (by omega)]
theorem Im.other {J : Option SX1} {t u : Nat} (h : Im cb u J M) (ht : t < 2) (hu : u < 2) (hne : ¬ u = t) : Im cb u J (s10_isKept (s10_image M (imgF M t)) (upd (g10_isKept M) t (nI 1))) := by
  refine ⟨?_, fun B e => ?_⟩
  · show upd (g10_isKept M) t (nI 1) u = _
    rw [upd_e, if_neg hne]; exact h.1
  · obtain ⟨c, q, sr, sw, hw, hC, hM, hS, hSc, hSm⟩ := h.2 B e
    have hq := hS.1
    refine ⟨c, q, sr, sw, hw, hC, RM_congr hM (fun k hk => imgF_other M ht hu hne (by omega)), hS, hSc, ?_, fun j hj => ?_⟩
    · show imgF M t (70 * u + 64) = _
      rw [imgF_other M ht hu hne (by omega)]; exact hSm.1
    · show imgF M t (70 * u + 47 + 2 * j) = _ ∧ imgF M t (70 * u + 47 + (2 * j + 1)) = _
      rw [show 70 * u + 47 + 2 * j = 70 * u + (47 + 2 * j) by omega, show 70 * u + 47 + (2 * j + 1) = 70 * u + (47 + (2 * j + 1)) by omega, imgF_other M ht hu hne (by omega), imgF_other M ht hu hne (by omega), show 70 * u + (47 + 2 * j) = 70 * u + 47 + 2 * j by omega, show 70 * u + (47 + (2 * j + 1)) = 70 * u + 47 + (2 * j + 1) by omega]
      exact hSm.2 j hj
theorem image_c (h : Inv cb B P J0 J1 M) (x : Int32) : ∃ v J0' J1' M', m9_image B J0 J1 x = some (v, J0', J1') ∧ m10_image M x = some (v, M') ∧ Inv cb B P J0' J1' M' := by
  have hI := h
  obtain ⟨hK, hP, h0, h1⟩ := h
  rcases rng x 0 1 (by decide) (by decide) with ⟨t, -, ht, rfl⟩ | ho
  · have hnew : ∀ A, ∃ A', m1_copyFrom A B = some A' ∧ Im cb t (some A') (s10_isKept (s10_image M (imgF M t)) (upd (g10_isKept M) t (nI 1))) := by
      intro A
      obtain ⟨A', e1, e2⟩ := copy_KS hK A
      refine ⟨A', e1, ?_, fun B' e => ?_⟩
      · show upd (g10_isKept M) t (nI 1) t = _
        rw [upd_e, if_pos rfl]; rfl
      · cases e
        exact e2 _ _ _ (fun k hk => imgF_book M t k hk) (fun k hk => imgF_sight M t k hk) (imgF_n M t)
    rw [image10_ok M (by omega)]
    unfold m9_image
    simp only [isImage_ok, I0, I1, I2]
    rw [in_in (by omega) ht (by omega), tbd_some, if_neg (by decide)]
    rcases (show t = 0 ∨ t = 1 by omega) with rfl | rfl
    · rw [if_pos rfl]
      obtain ⟨A', e1, e2⟩ := hnew (J0.getD i1)
      rw [e1, tbd_some]
      exact ⟨_, _, _, _, rfl, rfl, hK, hP, e2, h1.other (by omega) (by omega) (by omega)⟩
    · rw [if_neg (by decide)]
      obtain ⟨A', e1, e2⟩ := hnew (J1.getD i1)
      rw [e1, tbd_some]
      exact ⟨_, _, _, _, rfl, rfl, hK, hP, h0.other (by omega) (by omega) (by omega), e2⟩
  · unfold m9_image m10_image
    simp only [isImage_ok, I0, I1, I2]
    rw [in_out ho, tbd_some, tbd_some, if_pos rfl]
    simp only [if_true]
    exact ⟨_, _, _, _, rfl, rfl, hI⟩
theorem restore10_ok (M : SX10) {t : Nat} (ht : t < 2) (hk : g10_isKept M t = nI 1) : m10_restore M (nI t) = some (nI 1, s10_sights (s10_sight (s10_book M (cpN (fun k => g10_image M (70 * t + k)) (g10_book M) 47)) (cpN (fun k => g10_image M (70 * t + 47 + k)) (g10_sight M) 16)) (g10_image M (70 * t + 64))) := by
  unfold m10_restore
  simp only [I0, I1, I2, I3, I70]
  rw [in_in (by omega) (by omega) (by omega), tbd_some]
  simp (disch := omega) only [n10, if_false, mul70 t ht, tnm_eq, tin_nI, tgd_true, nC, hk]
  have k2 := tit_run (F := m10_restore_L59 (nI (70 * t))) (fun i => (nI i, s10_sight (s10_book M (cpN (fun k => g10_image M (70 * t + k)) (g10_book M) 47)) (cpN (fun k => g10_image M (70 * t + 47 + k)) (g10_sight M) i))) 16 (some (nI 1, s10_sights (s10_sight (s10_book M (cpN (fun k => g10_image M (70 * t + k)) (g10_book M) 47)) (cpN (fun k => g10_image M (70 * t + 47 + k)) (g10_sight M) 16)) (g10_image M (70 * t + 64)))) (fun rc i hi => by
    show m10_restore_B59 (nI (70 * t)) rc (nI i) (s10_sight (s10_book M (cpN (fun k => g10_image M (70 * t + k)) (g10_book M) 47)) (cpN (fun k => g10_image M (70 * t + 47 + k)) (g10_sight M) i)) = rc (nI (i + 1), s10_sight (s10_book M (cpN (fun k => g10_image M (70 * t + k)) (g10_book M) 47)) (cpN (fun k => g10_image M (70 * t + 47 + k)) (g10_sight M) (i + 1)))
    unfold m10_restore_B59
    simp (disch := omega) only [I16, I47, I1, nLE, if_neg, tin_nI, tgd_true, tnm_eq, nI_add, nC]
    rw [← cpN_s (fun k => g10_image M (70 * t + 47 + k))]
    rfl) (fun rc => by
    show m10_restore_B59 (nI (70 * t)) rc (nI 16) (s10_sight (s10_book M (cpN (fun k => g10_image M (70 * t + k)) (g10_book M) 47)) (cpN (fun k => g10_image M (70 * t + 47 + k)) (g10_sight M) 16)) = _
    unfold m10_restore_B59
    simp (disch := omega) only [I16, I64, I1, nLE, if_pos, tin_nI, tgd_true, nI_add, nC]
    rfl) FU (FU_gt (by decide))
  have k1 := tit_run (F := m10_restore_L31 (nI (70 * t))) (fun i => (nI i, s10_book M (cpN (fun k => g10_image M (70 * t + k)) (g10_book M) i))) 47 (tit (m10_restore_L59 (nI (70 * t))) FU (nI 0, s10_book M (cpN (fun k => g10_image M (70 * t + k)) (g10_book M) 47))) (fun rc i hi => by
    show m10_restore_B31 (nI (70 * t)) rc (nI i) (s10_book M (cpN (fun k => g10_image M (70 * t + k)) (g10_book M) i)) = rc (nI (i + 1), s10_book M (cpN (fun k => g10_image M (70 * t + k)) (g10_book M) (i + 1)))
    unfold m10_restore_B31
    simp (disch := omega) only [I47, I1, nLE, if_neg, tin_nI, tgd_true, tnm_eq, nI_add, nC]
    rw [← cpN_s (fun k => g10_image M (70 * t + k))]
    rfl) (fun rc => by
    show m10_restore_B31 (nI (70 * t)) rc (nI 47) (s10_book M (cpN (fun k => g10_image M (70 * t + k)) (g10_book M) 47)) = _
    unfold m10_restore_B31
    simp (disch := omega) only [I47, I0, nLE, if_pos]) FU (FU_gt (by decide))
  rw [cpN_0] at k1 k2
  exact k1.trans k2
theorem restore_c (h : Inv cb B P J0 J1 M) (x : Int32) : ∃ v B' M', m9_restore B J0 J1 x = some (v, B') ∧ m10_restore M x = some (v, M') ∧ Inv cb B' P J0 J1 M' := by
  have hI := h
  obtain ⟨hK, hP, h0, h1⟩ := h
  rcases rng x 0 1 (by decide) (by decide) with ⟨t, -, ht, rfl⟩ | ho
  · obtain ⟨J, hJ, hIm⟩ : ∃ J, (if nI t = nI 0 then J0 else J1) = J ∧ Im cb t J M := by
      rcases (show t = 0 ∨ t = 1 by omega) with rfl | rfl
      · exact ⟨J0, if_pos rfl, h0⟩
      · exact ⟨J1, if_neg (by decide), h1⟩
    cases hJJ : J with
    | none =>
      rw [hJJ] at hJ hIm
      unfold m9_restore m10_restore
      simp only [isImage_ok, I0, I1, I2, I3, hJ]
      rw [in_in (by omega) ht (by omega), tbd_some, tbd_some]
      simp (disch := omega) only [n10, if_false, tin_nI, tgd_true, nC]
      rw [if_pos (show g10_isKept M t = nI 0 from hIm.1)]
      exact ⟨_, _, _, rfl, rfl, hI⟩
    | some S =>
      rw [hJJ] at hJ hIm
      obtain ⟨A', e1, e2⟩ := copy_KS (hIm.2 S rfl) B
      rw [restore10_ok M (by omega) hIm.1]
      unfold m9_restore
      simp only [isImage_ok, I0, I1, I2, I3, hJ]
      rw [in_in (by omega) ht (by omega), tbd_some]
      simp only [n10, if_false, e1, tbd_some]
      refine ⟨_, _, _, rfl, rfl, ?_, hP, h0.of rfl rfl, h1.of rfl rfl⟩
      exact e2 _ _ _ (fun k hk => if_pos hk) (fun k hk => if_pos hk) rfl
  · unfold m9_restore m10_restore
    simp only [isImage_ok, I0, I1, I2]
    rw [in_out ho, tbd_some, tbd_some]
    simp only [if_true]
    exact ⟨_, _, _, rfl, rfl, hI⟩
end
