/-! leases: the call -/
def fE (o : Option Nat) : Int32 := match o with
  | none => -nI 6
  | some S => nI S
def lAns (w : Nat) (o : Option Nat) : Int32 := match o with
  | none => -nI 6
  | some S => if w = 1 then nI S else nI (pcn S 13)
theorem m6_lt : (-nI 6 < nI 0) := by decide
theorem fnd_s0 {g : Nat → Bool} {i : Nat} (h : g i = false) : fnd g (i + 1) = fnd g i := by
  show (match fnd g i with
    | none => if g i = true then some i else none
    | some S => if g i = true ∧ pcn i 13 < pcn S 13 then some i else some S) = _
  rw [h]
  cases fnd g i
  · rfl
  · dsimp only
    rw [if_neg (fun q => by cases q.1)]
theorem fnd_s1 {g : Nat → Bool} {i : Nat} (h : g i = true) (e : fnd g i = none) : fnd g (i + 1) = some i := by
  show (match fnd g i with
    | none => if g i = true then some i else none
    | some S => if g i = true ∧ pcn i 13 < pcn S 13 then some i else some S) = _
  rw [e, h]; rfl
theorem fnd_s2 {g : Nat → Bool} {i S : Nat} (h : g i = true) (e : fnd g i = some S) (q : pcn i 13 < pcn S 13) : fnd g (i + 1) = some i := by
  show (match fnd g i with
    | none => if g i = true then some i else none
    | some S => if g i = true ∧ pcn i 13 < pcn S 13 then some i else some S) = _
  rw [e]
  dsimp only
  rw [if_pos ⟨h, q⟩]
theorem fnd_s3 {g : Nat → Bool} {i S : Nat} (e : fnd g i = some S) (q : ¬ pcn i 13 < pcn S 13) : fnd g (i + 1) = some S := by
  show (match fnd g i with
    | none => if g i = true then some i else none
    | some S => if g i = true ∧ pcn i 13 < pcn S 13 then some i else some S) = _
  rw [e]
  dsimp only
  rw [if_neg (fun h => q h.2)]
section
variable {c : CS} {cb : Nat}
theorem J141_ok {T : SX10} {m i : Nat} (h : RM c (g10_now T)) (hw : WF cb c) (hm : m < 6) (hi : i < 4096) (x2 x3 x4 : Int32) (rc : Int32 × Int32 × SX10 → Option (Int32 × SX10)) : ∃ T', m10_leases_J141 T (nI m) x2 x3 x4 (nI i) rc = rc (if few (opS c m i) (cS c m) (cP c m) < 1000000 then nI i else x4, nI (i + 1), T') ∧ g10_now T' = g10_now T ∧ KP T T' := by
  have hp := (hw.2.2.1 m hm).2.2.2
  obtain ⟨T2, b1, b2, b3, b4⟩ := layClimb_ok (more := i) h hw hm (by omega)
  have hb2 : RM c (g10_now T2) := by rw [b2]; exact h
  have hpl : g10_now T2 (38 + m) = nI (cP c m) := (hb2.2.2.1 m hm).2.2
  have hle : few (opS c m i) (cS c m) (cP c m) ≤ 1000000 := VM_le hp
  refine ⟨T2, ?_, b2, b3⟩
  unfold m10_leases_J141
  rw [b1, tbd_some]
  simp (disch := omega) only [I38, I1, I1000000, nI_add, tin_nI, tgd_true, nC, hpl, (b4 _ hp).1, nLE, tnm_eq]
  by_cases e : few (opS c m i) (cS c m) (cP c m) < 1000000
  · rw [if_pos e, if_neg (by omega)]
  · rw [if_neg e, if_pos (by omega)]
theorem lz_loop {m w N : Nat} (hN : N = 4096) (hw : WF cb c) (hm : m < 6) (hw1 : w ≤ 1) : ∀ k n i (T : SX10), i + k = N → k < n → RM c (g10_now T) → ∃ T', tit (m10_leases_L106 (nI m) (nI w) (nI (msk (lzM c m) 12))) n (fE (fnd (gS c m) i), nI i, T) = some (lAns w (fnd (gS c m) N), T') ∧ KP T T' := by
  have hcan : msk (lzM c m) 12 < 4096 := msk_lt _ 12
  intro k
  induction k with
  | zero =>
    intro n i T hi hn h
    obtain ⟨n, rfl⟩ : ∃ m, n = m + 1 := ⟨n - 1, by omega⟩
    have hiN : i = N := by omega
    rw [← hiN]
    refine ⟨T, ?_, KP.refl T⟩
    show m10_leases_B106 (nI m) (nI w) (nI (msk (lzM c m) 12)) (tit (m10_leases_L106 (nI m) (nI w) (nI (msk (lzM c m) 12))) n) (fE (fnd (gS c m) i)) (nI i) T = _
    unfold m10_leases_B106
    simp (disch := omega) only [I4096, I0, I1, nLE, if_pos, nEQ]
    cases e : fnd (gS c m) i with
    | none =>
      show (if -nI 6 < nI 0 then _ else _) = _
      rw [if_pos m6_lt]; rfl
    | some S =>
      have hS := (fnd_some i S e).1
      show (if nI S < nI 0 then some (nI S, T) else if w = 1 then some (nI S, T) else tbd (m10_bits (nI S)) (fun r7 => some (r7, T))) = some (if w = 1 then nI S else nI (pcn S 13), T)
      rw [if_neg (show ¬ nI S < nI 0 by rw [nLT (by omega) (by omega)]; omega), bits_ok (by omega), tbd_some]
      by_cases q : w = 1
      · rw [if_pos q, if_pos q]
      · rw [if_neg q, if_neg q]
  | succ k ih =>
    intro n i T hi hn h
    obtain ⟨n, rfl⟩ : ∃ m, n = m + 1 := ⟨n - 1, by omega⟩
    have hx : i ^^^ (i &&& msk (lzM c m) 12) < 4096 := xor_lt (n := 12) (show i < 2 ^ 12 by omega) (Nat.lt_of_le_of_lt (and_le _ _) (show i < 2 ^ 12 by omega))
    have same : fnd (gS c m) (i + 1) = fnd (gS c m) i → (∃ T', tit (m10_leases_L106 (nI m) (nI w) (nI (msk (lzM c m) 12))) n (fE (fnd (gS c m) i), nI (i + 1), T) = some (lAns w (fnd (gS c m) N), T') ∧ KP T T') := fun e => by
      rw [← e]; exact ih n (i + 1) T (by omega) (by omega) h
    have jump : i ^^^ (i &&& msk (lzM c m) 12) = 0 → (fnd (gS c m) i = none ∨ ∃ S, fnd (gS c m) i = some S ∧ pcn i 13 < pcn S 13) → (∃ T', m10_leases_J141 T (nI m) (nI w) (nI (msk (lzM c m) 12)) (fE (fnd (gS c m) i)) (nI i) (tit (m10_leases_L106 (nI m) (nI w) (nI (msk (lzM c m) 12))) n) = some (lAns w (fnd (gS c m) N), T') ∧ KP T T') := by
      intro hs hf
      obtain ⟨T1, a1, a2, a3⟩ := J141_ok (T := T) (i := i) h hw hm (by omega) (nI w) (nI (msk (lzM c m) 12)) (fE (fnd (gS c m) i)) (tit (m10_leases_L106 (nI m) (nI w) (nI (msk (lzM c m) 12))) n)
      have he : (if few (opS c m i) (cS c m) (cP c m) < 1000000 then nI i else fE (fnd (gS c m) i)) = fE (fnd (gS c m) (i + 1)) := by
        by_cases q : few (opS c m i) (cS c m) (cP c m) < 1000000
        · have hg : gS c m i = true := by unfold gS; rw [decide_eq_true hs, decide_eq_true q]; rfl
          rw [if_pos q]
          rcases hf with hf | ⟨S, hf, hl⟩
          · rw [fnd_s1 hg hf]; rfl
          · rw [fnd_s2 hg hf hl]; rfl
        · have hg : gS c m i = false := by unfold gS; rw [decide_eq_false q, Bool.and_false]
          rw [if_neg q, fnd_s0 hg]
      obtain ⟨T', b1, b2⟩ := ih n (i + 1) T1 (by omega) (by omega) (by rw [a2]; exact h)
      refine ⟨T', ?_, a3.trans b2⟩
      rw [a1, he, b1]
    have hB : ∃ T', m10_leases_B106 (nI m) (nI w) (nI (msk (lzM c m) 12)) (tit (m10_leases_L106 (nI m) (nI w) (nI (msk (lzM c m) 12))) n) (fE (fnd (gS c m) i)) (nI i) T = some (lAns w (fnd (gS c m) N), T') ∧ KP T T' := by
      unfold m10_leases_B106
      simp (disch := omega) only [I4096, I0, I1, nLE, if_neg, nCLR, nEQ, nI_add, tnm_eq]
      by_cases hs : i ^^^ (i &&& msk (lzM c m) 12) = 0
      · rw [if_pos hs]
        cases e : fnd (gS c m) i with
        | none =>
          show ∃ T', (if -nI 6 < nI 0 then _ else _) = _ ∧ _
          rw [if_pos m6_lt]
          rw [e] at jump
          exact jump hs (Or.inl rfl)
        | some S =>
          have hS := (fnd_some i S e).1
          have e2 : fE (some S) = nI S := rfl
          rw [e2, if_neg (show ¬ nI S < nI 0 by rw [nLT (by omega) (by omega)]; omega), bits_ok (by omega), tbd_some, bits_ok (by omega), tbd_some]
          have h1 := pcn_n S 13
          have h2 := pcn_n i 13
          by_cases q : pcn S 13 ≤ pcn i 13
          · rw [if_pos ((nLE (by omega) (by omega)).mpr q)]
            have := same ((fnd_s3 e (by omega)).trans e.symm)
            rw [e] at this
            exact this
          · rw [if_neg (fun hh => q ((nLE (by omega) (by omega)).mp hh))]
            rw [e] at jump
            exact jump hs (Or.inr ⟨S, rfl, by omega⟩)
      · rw [if_neg hs]
        exact same (fnd_s0 (by unfold gS; rw [decide_eq_false hs]; rfl))
    exact hB
theorem lz_can {T : SX10} {m : Nat} (h : RM c (g10_now T)) (hw : WF cb c) (hm : m < 6) (x2 : Int32) : tit (m10_leases_L30 T (nI m) x2) FU (nI 0, nI 1) = tit (m10_leases_L106 (nI m) x2 (nI (msk (lzM c m) 12))) FU (-nI 6, nI 0, T) := by
  exact tit_run (fun i => (nI (msk (lzM c m) i), nI (i + 1))) 12 _ (fun rc i hi => by
    have ho := hw.1 (i + 1) (by omega) (by omega)
    have hr := h.1 (i + 1) (by omega) (by omega)
    show m10_leases_B30 T (nI m) x2 rc (nI (msk (lzM c m) i)) (nI (i + 1)) = rc (nI (if lzM c m (i + 1) = true then msk (lzM c m) i ||| 2 ^ i else msk (lzM c m) i), nI (i + 1 + 1))
    unfold m10_leases_B30 m10_leases_J90 m10_leases_J91 lzM
    simp (disch := omega) only [I13, I1, I0, nLE, if_neg, isMissing10_ok h hw, tbd_some, bI_0, tnm_eq, nI_add, nOR, Nat.add_sub_cancel, tin_nI, tgd_true, nC, hr.1, hr.2, om_lt_0, om_ge_0, om_eq_man, nSUB, nSHL1, Nat.or_zero]
    cases msS c (i + 1)
    · by_cases e1 : cO c (i + 1) = 0
      · simp [e1]
      · by_cases e3 : cO c (i + 1) = m + 1
        · simp [e3]
        · by_cases e2 : cL c (i + 1) = 0
          · simp [e1, e2, e3]
          · simp [e1, e2, e3]
    · simp) (fun rc => by
    show m10_leases_B30 T (nI m) x2 rc (nI (msk (lzM c m) 12)) (nI 13) = _
    unfold m10_leases_B30
    simp (disch := omega) only [I13, I0, I6, nLE, if_pos]) FU (FU_gt (by decide))
end
section
variable {cb : Nat} {B : SX1} {P : SX5} {J0 J1 : Option SX1} {M : SX10}
theorem leases_c (h : Inv cb B P J0 J1 M) (R : SX7) (x y : Int32) : ∃ v R' M', m9_leases () B R x y = some (v, R') ∧ m10_leases M x y = some (v, M') ∧ KP M M' := by
  obtain ⟨⟨c, q, sr, sw, hw, hRC, hRM, -⟩, -⟩ := h
  unfold m9_leases m10_leases
  simp only [within_eq, I0, I1]
  rcases rng x 0 5 (by decide) (by decide) with ⟨m, -, hm5, rfl⟩ | ho
  · have hm : m < 6 := by omega
    rw [isMan_in hm, isMan10_in hm, tbd_some, tbd_some]
    simp only [n10, if_false]
    rcases rng y 0 1 (by decide) (by decide) with ⟨w, -, hw1, rfl⟩ | ho
    · rw [in_in (by omega) hw1 (by omega), tbd_some, tbd_some]
      simp only [n10, if_false]
      have hp := (hw.2.2.1 m hm).2.2.2
      obtain ⟨T1, a1, a2, a3, -⟩ := asNow_ok hRM
      obtain ⟨R', r1⟩ := leaseCost_ok hRC hw hm R
      obtain ⟨T2, b1, b2⟩ := lz_loop (m := m) (w := w) (N := 4096) rfl hw hm hw1 4096 FU 0 T1 (by omega) (FU_gt (by decide)) a2
      have hle : cst (opS c m 0) (lzS c) (cS c m) (cP c m) ≤ 1000000 := VM_le hp
      rw [a1, tbd_some, lz_can a2 hw hm, show (-nI 6) = fE (fnd (gS c m) 0) from rfl, b1]
      unfold m7_fewestLeases m7_leastLeased
      rw [r1]
      simp (disch := omega) only [tbd_some, tnm_eq, I1000000, I4096, nLT, nDIV, nREM, nEQ]
      cases e : fnd (gS c m) 4096 with
      | none =>
        have := lease_none hp e
        rw [if_neg this, if_neg this]
        by_cases ew : w = 0
        · rw [if_pos ew]; exact ⟨_, _, _, rfl, rfl, a3.trans b2⟩
        · rw [if_neg ew]; exact ⟨_, _, _, rfl, rfl, a3.trans b2⟩
      | some S =>
        obtain ⟨e1, e2, e3⟩ := lease_some hp e
        have hlt : cst (opS c m 0) (lzS c) (cS c m) (cP c m) < 1000000 := by omega
        rw [if_pos hlt, if_pos hlt, tbd_some, tbd_some]
        have d1 : cst (opS c m 0) (lzS c) (cS c m) (cP c m) / 4096 = pcn S 13 := by omega
        have d2 : cst (opS c m 0) (lzS c) (cS c m) (cP c m) % 4096 = S := by omega
        rw [d1, d2]
        by_cases ew : w = 0
        · rw [if_pos ew]
          refine ⟨_, _, _, rfl, ?_, a3.trans b2⟩
          unfold lAns
          dsimp only
          rw [if_neg (by omega)]
        · rw [if_neg ew]
          refine ⟨_, _, _, rfl, ?_, a3.trans b2⟩
          unfold lAns
          dsimp only
          rw [if_pos (by omega)]
    · rw [in_out ho, tbd_some, tbd_some]
      exact ⟨_, _, _, rfl, rfl, KP.refl M⟩
  · rw [isMan_out ho, isMan10_out ho, tbd_some, tbd_some]
    exact ⟨_, _, _, rfl, rfl, KP.refl M⟩
end
