/-! stand: the reference, the call -/
section
variable {c : CS} {cb : Nat} {B : SX1}
def tkOk (taken fr : Nat) : Prop := ∀ r, r < 12 → taken.testBit (r + 1) = !fr.testBit r
theorem tk_next {taken fr r : Nat} (h : tkOk taken fr) (hr : 1 ≤ r) : tkOk (taken ||| 2 ^ r) (rmB fr (r - 1)) := by
  intro k hk
  rw [Nat.testBit_or, rmB_bit, h k hk, Nat.testBit_two_pow]
  by_cases e : r = k + 1
  · subst e; simp
  · have e2 : ¬ k = r - 1 := by omega
    simp [e, e2]
theorem tk_lt {taken r : Nat} (h : taken < 8192) (hr : r ≤ 12) : taken ||| 2 ^ r < 8192 := Nat.or_lt_two_pow (n := 13) h (Nat.pow_lt_pow_right (by decide) (by omega))
theorem neg6 : ¬ nI 0 ≤ -nI 6 := by decide
/-- one man's rung, by the reference -/
theorem st_in {m fr taken : Nat} (hw : WF cb c) (hm : m < 6) (hfr : fr < 4096) (htk : taken < 8192) (ht : tkOk taken fr) (x1 : Int32) (rc37 : Int32 × Int32 × Int32 × Int32 × SX10 → Option (Int32 × SX10)) : ∀ d n i (T : SX10), i + d = 12 → d + 1 < n → RM c (g10_now T) → ∃ T', tit (m10_stand_L50 x1 (nI (nuS c m fr)) (nI taken) (nI m) rc37) n (-nI 6, nI (i + 1), T) = m10_stand_J117 T' x1 (nI (nuS c m fr)) (nI taken) (fE (up1 (srch (fun i => pkP c m fr (i + 1)) i d))) (nI m) rc37 ∧ g10_now T' = g10_now T ∧ KP T T' := by
  intro d
  induction d with
  | zero =>
    intro n i T hi hn h
    obtain ⟨n, rfl⟩ : ∃ m, n = m + 1 := ⟨n - 1, by omega⟩
    refine ⟨T, ?_, rfl, KP.refl T⟩
    rw [show i + 1 = 13 by omega, tit_s]
    show m10_stand_B50 x1 (nI (nuS c m fr)) (nI taken) (nI m) rc37 (tit (m10_stand_L50 x1 (nI (nuS c m fr)) (nI taken) (nI m) rc37) n) (-nI 6) (nI 13) T = _
    unfold m10_stand_B50
    simp (disch := omega) only [I13, nLE, if_pos]
    rfl
  | succ d ih =>
    intro n i T hi hn h
    obtain ⟨n, rfl⟩ : ∃ m, n = m + 1 := ⟨n - 1, by omega⟩
    have hs : srch (fun i => pkP c m fr (i + 1)) i (d + 1) = if pkP c m fr (i + 1) = true then some i else srch (fun i => pkP c m fr (i + 1)) (i + 1) d := rfl
    have hb := ht i (by omega)
    have go : pkP c m fr (i + 1) = false → ∀ T1 : SX10, g10_now T1 = g10_now T → KP T T1 → ∃ T', tit (m10_stand_L50 x1 (nI (nuS c m fr)) (nI taken) (nI m) rc37) n (-nI 6, nI (i + 1 + 1), T1) = m10_stand_J117 T' x1 (nI (nuS c m fr)) (nI taken) (fE (up1 (srch (fun i => pkP c m fr (i + 1)) i (d + 1)))) (nI m) rc37 ∧ g10_now T' = g10_now T ∧ KP T T' := by
      intro e T1 h1 h2
      obtain ⟨T', a1, a2, a3⟩ := ih n (i + 1) T1 (by omega) (by omega) (by rw [h1]; exact h)
      refine ⟨T', ?_, a2.trans h1, h2.trans a3⟩
      rw [hs, if_neg (by rw [e]; decide)]
      exact a1
    have hB : ∃ T', m10_stand_B50 x1 (nI (nuS c m fr)) (nI taken) (nI m) rc37 (tit (m10_stand_L50 x1 (nI (nuS c m fr)) (nI taken) (nI m) rc37) n) (-nI 6) (nI (i + 1)) T = m10_stand_J117 T' x1 (nI (nuS c m fr)) (nI taken) (fE (up1 (srch (fun i => pkP c m fr (i + 1)) i (d + 1)))) (nI m) rc37 ∧ g10_now T' = g10_now T ∧ KP T T' := by
      unfold m10_stand_B50 m10_stand_J107
      simp (disch := omega) only [I13, I0, I1, nLE, if_neg, neg6, if_false, has_ok, tbd_some, bI_0, hb, may_ok h hw, nSHL1, nOR, nI_add, tnm_eq]
      cases q1 : fr.testBit i
      · rw [if_neg (by decide)]
        exact go (by unfold pkP; rw [Nat.add_sub_cancel, q1]; simp) T rfl (KP.refl T)
      · rw [if_pos (by decide)]
        cases q2 : mayS c m (i + 1)
        · rw [if_pos rfl]
          exact go (by unfold pkP; rw [q2]; rfl) T rfl (KP.refl T)
        · rw [if_neg (by decide)]
          have hlt := tk_lt (r := i + 1) htk (by omega)
          obtain ⟨T1, m1, m2, m3⟩ := most_ok (T := T) (f := m + 1) (fr := rmB fr i) (taken := taken ||| 2 ^ (i + 1)) h hw (by omega) (by omega) (tk_next (r := i + 1) ht (by omega))
          have h1 := nuS_le c m fr
          have h2 := nuS_le c (m + 1) (rmB fr i)
          rw [m1, tbd_some]
          by_cases q : 1 + nuS c (m + 1) (rmB fr i) = nuS c m fr
          · have hp : pkP c m fr (i + 1) = true := by unfold pkP; rw [Nat.add_sub_cancel, q1, q2, decide_eq_true q]; rfl
            rw [nI_add, if_pos (by rw [q])]
            refine ⟨T1, ?_, m2, m3⟩
            obtain ⟨n, rfl⟩ : ∃ m, n = m + 1 := ⟨n - 1, by omega⟩
            rw [hs, if_pos hp, tit_s]
            show m10_stand_B50 x1 (nI (nuS c m fr)) (nI taken) (nI m) rc37 (tit (m10_stand_L50 x1 (nI (nuS c m fr)) (nI taken) (nI m) rc37) n) (nI (i + 1)) (nI (i + 1 + 1)) T1 = m10_stand_J117 T1 x1 (nI (nuS c m fr)) (nI taken) (nI (i + 1)) (nI m) rc37
            unfold m10_stand_B50
            rw [I0, if_pos ((nLE (a := 0) (by omega) (by omega)).mpr (Nat.zero_le _))]
            split <;> rfl
          · rw [nI_add, if_neg (fun w => q ((nEQ (by omega) (by omega)).mp w))]
            exact go (by unfold pkP; rw [Nat.add_sub_cancel, decide_eq_false q]; simp) T1 m2 m3
    exact hB
def tkN (taken : Nat) (o : Option Nat) : Nat := match o with
  | some r => taken ||| 2 ^ r
  | none => taken
theorem J117_ok {T : SX10} {m taken : Nat} (o : Option Nat) (ho : ∀ r, o = some r → 1 ≤ r ∧ r ≤ 12) {a b : Nat} (hab : a = (if o.isSome = true then 1 else 0) + b) (x1 : Int32) (rc : Int32 × Int32 × Int32 × Int32 × SX10 → Option (Int32 × SX10)) : m10_stand_J117 T x1 (nI a) (nI taken) (fE o) (nI m) rc = rc (nI b, nI (tkN taken o), fE o, nI (m + 1), T) := by
  unfold m10_stand_J117 m10_stand_J131 m10_stand_J144
  cases o with
  | none =>
    have e : fE none = -nI 6 := rfl
    have hab' : a = b := by rw [hab]; exact Nat.zero_add b
    subst hab'
    simp only [e, I0, I1, neg6, if_false, tnm_eq, nOR, nI_add]
    rw [nSUB (Nat.zero_le a), Nat.or_zero]
    rfl
  | some r =>
    have hr := ho r rfl
    have e : fE (some r) = nI r := rfl
    have hab' : a = 1 + b := hab
    subst hab'
    simp (disch := omega) only [e, I0, I1, nLE, if_pos, nSHL1, tnm_eq, nOR, nI_add]
    rw [nSUB (by omega), Nat.add_sub_cancel_left]
    rfl
theorem st_out {mz : Nat} (hw : WF cb c) (hmz : mz < 6) : ∀ d n m taken (own : Int32) (T : SX10), m + d = mz + 1 → d < n → RM c (g10_now T) → taken < 8192 → tkOk taken (fre c m) → (∀ k, m = k + 1 → own = fE (pk c k (fre c k))) → ∃ T', tit (m10_stand_L37 (nI mz)) n (nI (nuS c m (fre c m)), nI taken, own, nI m, T) = some (fE (pk c mz (fre c mz)), T') ∧ KP T T' := by
  intro d
  induction d with
  | zero =>
    intro n m taken own T hm hn h htk ht ho
    obtain ⟨n, rfl⟩ : ∃ m, n = m + 1 := ⟨n - 1, by omega⟩
    refine ⟨T, ?_, KP.refl T⟩
    rw [tit_s]
    show m10_stand_B37 (nI mz) (tit (m10_stand_L37 (nI mz)) n) (nI (nuS c m (fre c m))) (nI taken) own (nI m) T = _
    unfold m10_stand_B37
    rw [if_pos ((nLT (by omega) (by omega)).mpr (by omega)), ho mz (by omega)]
  | succ d ih =>
    intro n m taken own T hm hn h htk ht ho
    obtain ⟨n, rfl⟩ : ∃ m, n = m + 1 := ⟨n - 1, by omega⟩
    obtain ⟨T1, a1, a2, a3⟩ := st_in (m := m) (fr := fre c m) hw (by omega) (fre_lt c m) htk ht (nI mz) (tit (m10_stand_L37 (nI mz)) n) 12 FU 0 T (by omega) (FU_gt (by decide)) h
    have hpk : up1 (srch (fun i => pkP c m (fre c m) (i + 1)) 0 12) = pk c m (fre c m) := rfl
    rw [hpk, J117_ok (pk c m (fre c m)) (fun r q => ⟨(pk_some q).1, (pk_some q).2.1⟩) (nu_next c (by omega))] at a1
    have ht' : tkOk (tkN taken (pk c m (fre c m))) (fre c (m + 1)) ∧ tkN taken (pk c m (fre c m)) < 8192 := by
      have e : fre c (m + 1) = nxF (fre c m) (pk c m (fre c m)) := rfl
      rw [e]
      cases q : pk c m (fre c m) with
      | none => exact ⟨ht, htk⟩
      | some r => exact ⟨tk_next ht (pk_some q).1, tk_lt htk (pk_some q).2.1⟩
    obtain ⟨T', b1, b2⟩ := ih n (m + 1) (tkN taken (pk c m (fre c m))) (fE (pk c m (fre c m))) T1 (by omega) (by omega) (by rw [a2]; exact h) ht'.2 ht'.1 (fun k hk => by
      obtain rfl : k = m := by omega
      rfl)
    refine ⟨T', ?_, a3.trans b2⟩
    rw [tit_s]
    show m10_stand_B37 (nI mz) (tit (m10_stand_L37 (nI mz)) n) (nI (nuS c m (fre c m))) (nI taken) own (nI m) T = _
    unfold m10_stand_B37
    rw [if_neg (fun q => absurd ((nLT (by omega) (by omega)).mp q) (by omega)), I6, I1]
    exact a1.trans b1
theorem tk0 : tkOk 0 4095 := by
  unfold tkOk; decide
end
section
variable {cb : Nat} {B : SX1} {P : SX5} {J0 J1 : Option SX1} {M : SX10}
theorem stand_c (h : Inv cb B P J0 J1 M) (R : SX6) (x : Int32) : ∃ v R' M', m9_stand () B R x = some (v, R') ∧ m10_stand M x = some (v, M') ∧ KP M M' := by
  obtain ⟨⟨c, q, sr, sw, hw, hRC, hRM, -⟩, -⟩ := h
  unfold m9_stand m10_stand
  simp only [I0, I1, I5]
  rcases rngM x with ⟨o, ho, rfl⟩ | hx
  · rw [(orNob_in o (by omega)).1, (orNob_in o (by omega)).2, tbd_some, tbd_some]
    simp only [n10, if_false]
    obtain ⟨R', r1, r2, r3⟩ := assign_ok hRC hw R
    obtain ⟨T1, a1, a2, a3, -⟩ := asNow_ok hRM
    obtain ⟨T2, b1, b2, b3⟩ := most_ok (T := T1) (f := 0) (fr := 4095) (taken := 0) a2 hw (by omega) (by omega) tk0
    rw [r1, a1, tbd_some, tbd_some, b1, tbd_some, tnm_eq]
    by_cases e : o = 0
    · subst e
      have e1 : oc 0 = -nI 1 := rfl
      have e2 : ¬ nI 0 ≤ -nI 1 := by decide
      unfold m6_menPosted
      rw [e1, if_pos rfl, if_neg e2, tbd_some, r2]
      exact ⟨_, _, _, rfl, rfl, a3.trans b3⟩
    · have e1 : oc o = nI (o - 1) := if_neg e
      rw [e1, if_neg (by rw [n_ne_neg (by omega) (by omega) (by omega)]; exact id), if_pos ((nLE (by omega) (by omega)).mpr (Nat.zero_le _))]
      unfold m6_rungOf
      simp (disch := omega) only [isMan_in, tbd_some, I0, n10, if_false, tin_nI, tgd_true, nC]
      obtain ⟨T3, c1, c2⟩ := st_out (c := c) (mz := o - 1) hw (by omega) o FU 0 0 (-nI 6) T2 (by omega) (FU_gt (by omega)) (by rw [b2]; exact a2) (by omega) tk0 (fun k hk => by omega)
      refine ⟨_, _, _, rfl, ?_, (a3.trans b3).trans c2⟩
      rw [r3 _ (by omega)]
      exact c1
  · rw [(orNob_out hx).1, (orNob_out hx).2, tbd_some, tbd_some]
    exact ⟨_, _, _, rfl, rfl, KP.refl M⟩
end
