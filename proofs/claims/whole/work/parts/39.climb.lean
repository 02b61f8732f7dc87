/-! climb, ways -/
theorem upd_upd (f : Nat → Int32) (k : Nat) (x y : Int32) : upd (upd f k x) k y = upd f k y := by
  funext j
  rw [upd_e, upd_e, upd_e]
  by_cases e : j = k
  · rw [if_pos e, if_pos e]
  · rw [if_neg e, if_neg e, if_neg e]
theorem upd_same (f : Nat → Int32) (k : Nat) (x : Int32) : upd f k x k = x := by rw [upd_e, if_pos rfl]
theorem upd_other {f : Nat → Int32} {k j : Nat} {x : Int32} (h : ¬ j = k) : upd f k x j = f j := by rw [upd_e, if_neg h]
section
variable {c : CS} {B : SX1} {cb : Nat}
theorem sS_out {a s : Nat} (ha : a < 2147483648) (hs : s ≤ 4) {op : Nat → Bool} (ho : ∀ q, 1 ≤ q → q ≤ 13 → a.testBit (q - 1) = op q) : ∀ k n (T : SX7), k ≤ 13 → k < n → (∀ q, k ≤ q → q ≤ 13 → g7_settled T q = nI (few op s q)) → ∃ T', tit (m7_settleSteps_L29 B (nI a) (nI s)) n (nI k + -1, T) = some T' ∧ ∀ q, q ≤ 13 → g7_settled T' q = nI (few op s q) := by
  intro k
  induction k with
  | zero =>
    intro n T hk hn hT
    obtain ⟨n, rfl⟩ : ∃ m, n = m + 1 := ⟨n - 1, by omega⟩
    refine ⟨T, ?_, fun q hq => hT q (by omega) hq⟩
    rw [dn_0]
    show m7_settleSteps_B29 B (nI a) (nI s) (tit (m7_settleSteps_L29 B (nI a) (nI s)) n) (-nI 1) T = _
    unfold m7_settleSteps_B29
    rw [I0, if_pos m1_lt]
  | succ k ih =>
    intro n T hk hn hT
    obtain ⟨n, rfl⟩ : ∃ m, n = m + 1 := ⟨n - 1, by omega⟩
    rw [dn_s]
    have hin := sS_in (T := T) (B := B) ha (show k ≤ 12 by omega) hs (V := few op s) (fun q h1 h2 => hT q (by omega) h2) (fun q h1 h2 => VM_le h2) ho (nI s) (tit (m7_settleSteps_L29 B (nI a) (nI s)) n)
    obtain ⟨T', h1, h2⟩ := ih n (s7_settled T (upd (g7_settled T) k (nI (fo (fM (wF op)) 1000000 (few op s) k (min s (13 - k)))))) (by omega) (by omega) (fun q h1 h2 => by
      show upd (g7_settled T) k _ q = _
      by_cases e : q = k
      · subst e
        rw [upd_same, ← Vp_rec (by omega)]
      · rw [upd_other e]; exact hT q (by omega) h2)
    refine ⟨T', ?_, h2⟩
    show m7_settleSteps_B29 B (nI a) (nI s) (tit (m7_settleSteps_L29 B (nI a) (nI s)) n) (nI k) T = _
    unfold m7_settleSteps_B29
    simp (disch := omega) only [I0, I1, I13, I1000000, nLT, if_neg, nI_add, nMIN, tnm_eq]
    rw [hin, h1]
theorem cU_out {a s : Nat} (ha : a < 2147483648) (hs : s ≤ 4) {op : Nat → Bool} (ho : ∀ q, 1 ≤ q → q ≤ 13 → a.testBit (q - 1) = op q) {m : Nat} (hm : m < 6) (h : RC c B) (hw : WF cb c) : ∀ k n (T : SX7), k ≤ 13 → k < n → (∀ q, k ≤ q → q ≤ 13 → g7_settled T q = nI (rws op s q)) → ∃ T', tit (m7_countUp_L29 B (nI m) (nI a) (nI s)) n (nI k + -1, T) = some (nI (rws op s (cP c m)), T') := by
  intro k
  induction k with
  | zero =>
    intro n T hk hn hT
    obtain ⟨n, rfl⟩ : ∃ m, n = m + 1 := ⟨n - 1, by omega⟩
    refine ⟨T, ?_⟩
    rw [dn_0]
    show m7_countUp_B29 B (nI m) (nI a) (nI s) (tit (m7_countUp_L29 B (nI m) (nI a) (nI s)) n) (-nI 1) T = _
    unfold m7_countUp_B29
    have hp := (hw.2.2.1 m hm).2.2.2
    rw [I0, if_pos m1_lt, placeOf_ok h hm, tbd_some, settledAt_ok hp, tbd_some, hT _ (by omega) hp]
  | succ k ih =>
    intro n T hk hn hT
    obtain ⟨n, rfl⟩ : ∃ m, n = m + 1 := ⟨n - 1, by omega⟩
    rw [dn_s]
    have hin := cU_in (T := T) (B := B) ha (show k ≤ 12 by omega) hs (V := rws op s) (fun q h1 h2 => hT q (by omega) h2) ho (nI m) (nI s) (tit (m7_countUp_L29 B (nI m) (nI a) (nI s)) n)
    obtain ⟨T', h1⟩ := ih n (s7_settled T (upd (g7_settled T) k (nI (fo (fR op) 0 (rws op s) k (min s (13 - k)))))) (by omega) (by omega) (fun q h1 h2 => by
      show upd (g7_settled T) k _ q = _
      by_cases e : q = k
      · subst e
        rw [upd_same, ← Vp_rec (by omega)]
      · rw [upd_other e]; exact hT q (by omega) h2)
    refine ⟨T', ?_⟩
    show m7_countUp_B29 B (nI m) (nI a) (nI s) (tit (m7_countUp_L29 B (nI m) (nI a) (nI s)) n) (nI k) T = _
    unfold m7_countUp_B29
    simp (disch := omega) only [I0, I1, I13, nLT, if_neg, nI_add, nMIN, tnm_eq]
    rw [hin, h1]
theorem d12 : nI 12 = nI 13 + -1 := by decide
theorem d13 : nI 13 = nI 14 + -1 := by decide
theorem settleSteps_ok (h : RC c B) (hw : WF cb c) {m : Nat} (hm : m < 6) (T : SX7) : ∃ T', m7_settleSteps T B (nI m) = some T' ∧ ∀ q, q ≤ 13 → g7_settled T' q = nI (few (opS c m 0) (cS c m) q) := by
  have hh := hw.2.2.1 m hm
  unfold m7_settleSteps
  rw [rungsOpenTo_ok h hw hm, tbd_some, tnm_eq, strideOf_ok h hm, tbd_some, I4096, I12, I13, I0, nOR, d12, nC (by decide)]
  exact sS_out (Nat.lt_trans (mo_or_lt c m) (by decide)) hh.2.1 (fun q h1 h2 => open_bit c m h1 h2) 13 FU _ (by omega) (FU_gt (by decide)) (fun q h1 h2 => by
    obtain rfl : q = 13 := by omega
    show upd (g7_settled T) 13 (nI 0) 13 = _
    rw [upd_same]
    exact congrArg nI (Vp_top (f := fM (wF (opS c m 0))) (z := 1000000) (v := 0) (s := cS c m)).symm)
theorem countUp_ok (h : RC c B) (hw : WF cb c) {m : Nat} (hm : m < 6) (T : SX7) : ∃ T', m7_countUp T B (nI m) = some (nI (rws (opS c m 0) (cS c m) (cP c m)), T') := by
  have hh := hw.2.2.1 m hm
  unfold m7_countUp
  rw [rungsOpenTo_ok h hw hm, tbd_some, tnm_eq, strideOf_ok h hm, tbd_some, I4096, I12, I13, I1, nOR, d12, nC (by decide)]
  exact cU_out (Nat.lt_trans (mo_or_lt c m) (by decide)) hh.2.1 (fun q h1 h2 => open_bit c m h1 h2) hm h hw 13 FU _ (by omega) (FU_gt (by decide)) (fun q h1 h2 => by
    obtain rfl : q = 13 := by omega
    show upd (g7_settled T) 13 (nI 1) 13 = _
    rw [upd_same]
    exact congrArg nI (Vp_top (f := fR (opS c m 0)) (z := 0) (v := 1) (s := cS c m)).symm)
theorem few_few (S : SX10) (a b : Nat → Int32) : s10_few (s10_few S a) b = s10_few S b := rfl
theorem few_rows (S : SX10) (a b : Nat → Int32) : s10_few (s10_rows S a) b = s10_rows (s10_few S b) a := rfl
theorem rows_rows (S : SX10) (a b : Nat → Int32) : s10_rows (s10_rows S a) b = s10_rows S b := rfl
theorem gr_sf (S : SX10) (a : Nat → Int32) : g10_rows (s10_few S a) = g10_rows S := rfl
theorem few_top {op : Nat → Bool} {s : Nat} : few op s 13 = 0 := Vp_top
theorem rws_top {op : Nat → Bool} {s : Nat} : rws op s 13 = 1 := Vp_top
/-- the reference's rows behind one place -/
def lcT (T : SX10) (p : Nat) (a b : Int32) : SX10 := s10_rows (s10_few T (upd (g10_few T) p a)) (upd (g10_rows T) p b)
theorem lcT_now (T : SX10) (p : Nat) (a b : Int32) : g10_now (lcT T p a b) = g10_now T := rfl
theorem lcT_few (T : SX10) (p : Nat) (a b : Int32) : g10_few (lcT T p a b) = upd (g10_few T) p a := rfl
theorem lcT_rows (T : SX10) (p : Nat) (a b : Int32) : g10_rows (lcT T p a b) = upd (g10_rows T) p b := rfl
theorem lcT_2 (T : SX10) (p : Nat) (a b a' b' : Int32) : s10_rows (s10_few (lcT T p a b) (upd (upd (g10_few T) p a) p a')) (upd (upd (g10_rows T) p b) p b') = lcT T p a' b' := by
  unfold lcT
  rw [few_rows, few_few, rows_rows, upd_upd, upd_upd]
theorem kp_lcT (T : SX10) (p : Nat) (a b : Int32) : KP T (lcT T p a b) := ⟨rfl, rfl, rfl, rfl, rfl, rfl, rfl⟩
theorem tit_s {S E : Type} (F : (S → Option E) → S → Option E) (n : Nat) (s : S) : tit F (n + 1) s = F (tit F n) s := rfl
theorem lC_in {T : SX10} {m more p s : Nat} (h : RM c (g10_now T)) (hw : WF cb c) (hm : m < 6) (hmore : more < 2147483648) (hp : p ≤ 12) (es : s = cS c m) {V W : Nat → Nat} (hV : ∀ q, p < q → q ≤ 13 → g10_few T q = nI (V q) ∧ g10_rows T q = nI (W q)) (hb : ∀ q, p < q → q ≤ 13 → V q ≤ 1000000) (rc : Int32 × SX10 → Option SX10) : tit (m10_layClimb_L47 (nI m) (nI more) (nI p) rc) FU (nI (p + 1), lcT T p (nI 1000000) (nI 0)) = rc (nI p + -1, lcT T p (nI (fo (fM (wF (opS c m more))) 1000000 V p (min s (13 - p)))) (nI (fo (fR (opS c m more)) 0 W p (min s (13 - p))))) := by
  have hh := hw.2.2.1 m hm
  have hst : ∀ a b, g10_now (lcT T p a b) (26 + m) = nI s := fun a b => by rw [lcT_now, (h.2.2.1 m hm).1, es]
  exact tit_run (fun j => (nI (p + 1 + j), lcT T p (nI (fo (fM (wF (opS c m more))) 1000000 V p j)) (nI (fo (fR (opS c m more)) 0 W p j)))) (min s (13 - p)) _ (fun rc' j hj => by
    show m10_layClimb_B47 (nI m) (nI more) (nI p) rc rc' (nI (p + 1 + j)) (lcT T p (nI (fo (fM (wF (opS c m more))) 1000000 V p j)) (nI (fo (fR (opS c m more)) 0 W p j))) = rc' (nI (p + 1 + j + 1), lcT T p (nI (min (fo (fM (wF (opS c m more))) 1000000 V p j) (V (p + 1 + j) + wF (opS c m more) (p + 1 + j)))) (nI (if opS c m more (p + 1 + j) = true then fo (fR (opS c m more)) 0 W p j + W (p + 1 + j) else fo (fR (opS c m more)) 0 W p j)))
    have hle := foM_le (w := wF (opS c m more)) (z := 1000000) (p := p) (T := V) j
    have hbj := hb (p + 1 + j) (by omega) (by omega)
    obtain ⟨v1, v2⟩ := hV (p + 1 + j) (by omega) (by omega)
    generalize fo (fM (wF (opS c m more))) 1000000 V p j = x at hle ⊢
    generalize fo (fR (opS c m more)) 0 W p j = y
    have hJ : opS c m more (p + 1 + j) = true → m10_layClimb_J98 (lcT T p (nI x) (nI y)) (nI m) (nI more) (nI p) (nI (p + 1 + j)) rc rc' = rc' (nI (p + 1 + j + 1), lcT T p (nI (min x (V (p + 1 + j) + wF (opS c m more) (p + 1 + j)))) (nI (if opS c m more (p + 1 + j) = true then y + W (p + 1 + j) else y))) := by
      intro ho
      unfold m10_layClimb_J98 m10_layClimb_J139 wF
      rw [if_pos ho, if_pos ho]
      simp (disch := omega) only [tin_nI, tgd_true, nC, lcT_few, lcT_rows, upd_same, upd_other, v1, v2, I1, nI_add, nLE, tnm_eq, lcT_2]
      by_cases e : x ≤ V (p + 1 + j) + 1
      · rw [if_pos e, Nat.min_eq_left e]
      · rw [if_neg e, Nat.min_eq_right (by omega)]
    unfold m10_layClimb_B47
    simp (disch := omega) only [I26, I13, I1, nI_add, tin_nI, tgd_true, nC, hst, nLT, if_neg, nEQ]
    by_cases e : p + 1 + j = 13
    · rw [if_pos e]
      exact hJ (by unfold opS; rw [decide_eq_true e]; simp)
    · have e3 : decide (p + 1 + j = 13) = false := decide_eq_false e
      rw [if_neg e, may_ok (T := lcT T p (nI x) (nI y)) h hw hm (by omega) (by omega), tbd_some]
      simp (disch := omega) only [I0, bI_0, nSUB, has_ok, tbd_some]
      cases e1 : mayS c m (p + 1 + j)
      · rw [if_pos rfl]
        cases e2 : more.testBit (p + 1 + j - 1)
        · have ho : opS c m more (p + 1 + j) = false := by unfold opS; rw [e1, e2, e3]; rfl
          rw [if_pos rfl, tnm_eq]
          unfold wF
          rw [ho, if_neg (by decide), if_neg (by decide), Nat.min_eq_left (by omega)]
        · rw [if_neg (by decide)]
          exact hJ (by unfold opS; rw [e2]; simp)
      · rw [if_neg (by decide)]
        exact hJ (by unfold opS; rw [e1]; simp)) (fun rc' => by
    show m10_layClimb_B47 (nI m) (nI more) (nI p) rc rc' (nI (p + 1 + min s (13 - p))) (lcT T p _ _) = _
    unfold m10_layClimb_B47
    simp (disch := omega) only [I26, I13, nI_add, tin_nI, tgd_true, nC, hst, nLT, tnm_eq]
    by_cases e : p + s < p + 1 + min s (13 - p)
    · rw [if_pos e]
    · rw [if_neg e, if_pos (by omega)]) FU (FU_gt (by omega))
theorem lC_out {m more s : Nat} (hw : WF cb c) (hm : m < 6) (hmore : more < 2147483648) (es : s = cS c m) : ∀ k n (T : SX10), k ≤ 13 → k < n → RM c (g10_now T) → (∀ q, k ≤ q → q ≤ 13 → g10_few T q = nI (few (opS c m more) s q) ∧ g10_rows T q = nI (rws (opS c m more) s q)) → ∃ T', tit (m10_layClimb_L3 (nI m) (nI more)) n (nI k + -1, T) = some T' ∧ g10_now T' = g10_now T ∧ KP T T' ∧ ∀ q, q ≤ 13 → g10_few T' q = nI (few (opS c m more) s q) ∧ g10_rows T' q = nI (rws (opS c m more) s q) := by
  intro k
  induction k with
  | zero =>
    intro n T hk hn h hT
    obtain ⟨n, rfl⟩ : ∃ m, n = m + 1 := ⟨n - 1, by omega⟩
    refine ⟨T, ?_, rfl, KP.refl T, fun q hq => hT q (by omega) hq⟩
    rw [dn_0]
    show m10_layClimb_B3 (nI m) (nI more) (tit (m10_layClimb_L3 (nI m) (nI more)) n) (-nI 1) T = _
    unfold m10_layClimb_B3
    rw [I0, if_pos m1_lt]
  | succ k ih =>
    intro n T hk hn h hT
    obtain ⟨n, rfl⟩ : ∃ m, n = m + 1 := ⟨n - 1, by omega⟩
    rw [dn_s]
    have hin := lC_in (T := T) (p := k) h hw hm hmore (by omega) es (V := few (opS c m more) s) (W := rws (opS c m more) s) (fun q h1 h2 => hT q (by omega) h2) (fun q h1 h2 => VM_le h2) (tit (m10_layClimb_L3 (nI m) (nI more)) n)
    obtain ⟨T', h1, h2, h3, h4⟩ := ih n (lcT T k (nI (fo (fM (wF (opS c m more))) 1000000 (few (opS c m more) s) k (min s (13 - k)))) (nI (fo (fR (opS c m more)) 0 (rws (opS c m more) s) k (min s (13 - k))))) (by omega) (by omega) h (fun q h1 h2 => by
      rw [lcT_few, lcT_rows]
      by_cases e : q = k
      · subst e
        rw [upd_same, upd_same, ← Vp_rec (by omega), ← Vp_rec (by omega)]
        exact ⟨rfl, rfl⟩
      · rw [upd_other e, upd_other e]; exact hT q (by omega) h2)
    refine ⟨T', ?_, h2, KP.trans (kp_lcT _ _ _ _) h3, h4⟩
    show m10_layClimb_B3 (nI m) (nI more) (tit (m10_layClimb_L3 (nI m) (nI more)) n) (nI k) T = _
    unfold m10_layClimb_B3 m10_layClimb_J24 m10_layClimb_J41
    simp (disch := omega) only [I0, I1, I13, I1000000, nLT, if_neg, nI_add, tnm_eq, nEQ, tin_nI, tgd_true, nC, gr_sf]
    unfold lcT at hin h1
    rw [hin, h1]
theorem lC_13 {T : SX10} {m more : Nat} (h : RM c (g10_now T)) (hw : WF cb c) (hm : m < 6) (rc : Int32 × SX10 → Option SX10) : m10_layClimb_B3 (nI m) (nI more) rc (nI 13) T = rc (nI 13 + -1, lcT T 13 (nI 0) (nI 1)) := by
  have hh := hw.2.2.1 m hm
  have hst : g10_now (lcT T 13 (nI 0) (nI 1)) (26 + m) = nI (cS c m) := (h.2.2.1 m hm).1
  have hB : tit (m10_layClimb_L47 (nI m) (nI more) (nI 13) rc) FU (nI 14, lcT T 13 (nI 0) (nI 1)) = rc (nI 13 + -1, lcT T 13 (nI 0) (nI 1)) := by
    exact tit_run (fun _ => (nI 14, lcT T 13 (nI 0) (nI 1))) 0 _ (fun rc i hi => absurd hi (by omega)) (fun rc' => by
      show m10_layClimb_B47 (nI m) (nI more) (nI 13) rc rc' (nI 14) (lcT T 13 (nI 0) (nI 1)) = _
      unfold m10_layClimb_B47
      simp (disch := omega) only [I26, I13, nI_add, tin_nI, tgd_true, nC, hst, nLT, tnm_eq]
      by_cases e : 13 + cS c m < 14
      · rw [if_pos e]
      · rw [if_neg e, if_pos (by omega)]) FU (FU_gt (by decide))
  rw [← hB]
  unfold m10_layClimb_B3 m10_layClimb_J24 m10_layClimb_J41 lcT
  simp (disch := omega) only [I0, I1, I13, nLT, if_neg, nI_add, tnm_eq, tin_nI, tgd_true, nC, if_pos, gr_sf]
  rw [if_pos trivial]
theorem layClimb_ok {T : SX10} {m more : Nat} (h : RM c (g10_now T)) (hw : WF cb c) (hm : m < 6) (hmore : more < 2147483648) : ∃ T', m10_layClimb T (nI m) (nI more) = some T' ∧ g10_now T' = g10_now T ∧ KP T T' ∧ ∀ q, q ≤ 13 → g10_few T' q = nI (few (opS c m more) (cS c m) q) ∧ g10_rows T' q = nI (rws (opS c m more) (cS c m) q) := by
  have hh := hw.2.2.1 m hm
  obtain ⟨n, hn⟩ : ∃ n, FU = n + 1 ∧ 13 < n := ⟨FU - 1, by have := FU_gt (N := 100) (by decide); omega⟩
  obtain ⟨T', h1, h2, h3, h4⟩ := lC_out (s := cS c m) hw hm hmore rfl 13 n (lcT T 13 (nI 0) (nI 1)) (by omega) hn.2 h (fun q h1 h2 => by
    obtain rfl : q = 13 := by omega
    rw [lcT_few, lcT_rows, upd_same, upd_same, few_top, rws_top]
    exact ⟨rfl, rfl⟩)
  refine ⟨T', ?_, h2, KP.trans (kp_lcT _ _ _ _) h3, h4⟩
  unfold m10_layClimb
  rw [hn.1, tit_s, I13]
  exact (lC_13 h hw hm _).trans h1
end
