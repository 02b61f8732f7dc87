/-! down: the loops, the call -/
def eZ (v : Nat) : Int32 := if v = 0 then -nI 6 else nI v
theorem lt_bits {x y N : Nat} (hx : x.testBit N = false) (hy : y.testBit N = true) (h : ∀ j, N < j → x.testBit j = y.testBit j) : x < y := by
  have e1 : x / 2 ^ (N + 1) = y / 2 ^ (N + 1) := by
    apply Nat.eq_of_testBit_eq
    intro j
    rw [Nat.testBit_div_two_pow, Nat.testBit_div_two_pow]
    exact h _ (by omega)
  rw [Nat.pow_succ, ← Nat.div_div_eq_div_mul, ← Nat.div_div_eq_div_mul] at e1
  rw [Nat.testBit_eq_decide_div_mod_eq, decide_eq_false_iff_not] at hx
  rw [Nat.testBit_eq_decide_div_mod_eq, decide_eq_true_eq] at hy
  refine Classical.byContradiction (fun q => ?_)
  have := Nat.div_le_div_right (c := 2 ^ N) (show y ≤ x by omega)
  omega
theorem mvd_lt {s f t : Nat} (h1 : 1 ≤ t) (h2 : t < f) (h : s.testBit (f - 1) = true) : mvd s f t < s := by
  unfold mvd
  refine lt_bits (N := f - 1) ?_ h (fun j hj => ?_)
  · rw [Nat.testBit_or, rmB_bit, Nat.testBit_two_pow, decide_eq_false (show ¬ t - 1 = f - 1 by omega)]
    simp
  · rw [Nat.testBit_or, rmB_bit, Nat.testBit_two_pow, decide_eq_false (show ¬ t - 1 = j by omega), decide_eq_true (show ¬ j = f - 1 by omega)]
    simp
theorem mvd_lt4 {s f t : Nat} (hs : s < 4096) (h2 : t ≤ 12) (h1 : 1 ≤ t) : mvd s f t < 4096 := Nat.or_lt_two_pow (n := 12) (rmB_le (n := 12) hs) (Nat.pow_lt_pow_right (by decide) (by omega))
theorem heaps_go {s : Nat} (hs : s < 4096) : ∀ k n h u, k ≤ 12 → u ≤ 12 → (u = 0 ∨ k < u) → k < n → tit (m2_heapsOf_L7 (nI s)) n (nI h, nI u, nI k) = some (nI (hpG s k h u)) := by
  intro k
  induction k with
  | zero =>
    intro n h u _ hu _ hn
    obtain ⟨n, rfl⟩ : ∃ m, n = m + 1 := ⟨n - 1, by omega⟩
    rw [tit_s]
    show m2_heapsOf_B7 (nI s) (tit (m2_heapsOf_L7 (nI s)) n) (nI h) (nI u) (nI 0) = _
    unfold m2_heapsOf_B7 hpG
    simp (disch := omega) only [I1, I0, nLT, if_pos, nEQ]
    by_cases e : u = 0
    · rw [if_pos e, if_pos e]
    · rw [if_neg e, if_neg e, nSUB (by omega), nXOR]
  | succ k ih =>
    intro n h u hk hu hku hn
    obtain ⟨n, rfl⟩ : ∃ m, n = m + 1 := ⟨n - 1, by omega⟩
    rw [tit_s]
    show m2_heapsOf_B7 (nI s) (tit (m2_heapsOf_L7 (nI s)) n) (nI h) (nI u) (nI (k + 1)) = _
    have e0 : hpG s (k + 1) h u = if s.testBit k = true then (if u = 0 then hpG s k h (k + 1) else hpG s k (h ^^^ (u - (k + 1) - 1)) 0) else hpG s k h u := rfl
    rw [e0]
    unfold m2_heapsOf_B7
    simp (disch := omega) only [I1, I0, nLT, if_neg, bitOf_in, tbd_some, nAND, Nat.add_sub_cancel, nBIT, tnm_eq, nEQ]
    rw [show nI (k + 1) + -nI 1 = nI k from dn_s k]
    cases s.testBit k
    · rw [if_pos rfl, if_neg (by decide)]
      exact ih n h u (by omega) hu (by omega) (by omega)
    · rw [if_neg (by decide), if_pos (show true = true from rfl)]
      by_cases e : u = 0
      · rw [if_pos e, if_pos e]
        exact ih n h (k + 1) (by omega) (by omega) (by omega) (by omega)
      · rw [if_neg e, if_neg e, nSUB (by omega), nSUB (by omega), nXOR]
        exact ih n _ 0 (by omega) (by omega) (by omega) (by omega)
theorem canWin_ok {s : Nat} (hs : s < 4096) : m2_canWin (nI s) = some (bI (HTb s)) := by
  obtain ⟨-, -, h3, h4⟩ := chk_all hs
  unfold m2_canWin m2_heapsOf
  rw [I0, I12, heaps_go hs 12 FU 0 0 (by omega) (by omega) (by omega) (FU_gt (by decide)), tbd_some, ← h3]
  show (if nI (hp s) = nI 0 then _ else _) = _
  by_cases e : hp s = 0
  · rw [if_pos (by rw [e]), e]; rfl
  · rw [if_neg (fun w => e ((nEQ (by omega) (by omega)).mp w)), show (hp s != 0) = true by simpa using e]; rfl
theorem inS_lt {L : Nat → Bool} {s f : Nat} (hf : f ≤ 12) : ∀ k t, t + k ≤ 12 → inS L s f k t < 2000
  | 0, t, h => by show 0 < 2000; omega
  | k + 1, t, h => by
    unfold inS
    split
    · exact inS_lt hf k (t + 1) (by omega)
    · omega
theorem lw_in {s f : Nat} (hs : s < 4096) (hf : f ≤ 12) (rc14 : Int32 × Int32 → Option Int32) : ∀ k n t, t + k = f → 1 ≤ t → k < n → tit (m2_leastWinningMove_L36 (nI s) (nI f) rc14) n (nI t) = if inS HTb s f k t = 0 then rc14 (nI f, nI (f + 1)) else some (nI (inS HTb s f k t)) := by
  intro k
  induction k with
  | zero =>
    intro n t ht h1 hn
    obtain ⟨n, rfl⟩ : ∃ m, n = m + 1 := ⟨n - 1, by omega⟩
    obtain rfl : t = f := by omega
    rw [tit_s]
    show m2_leastWinningMove_B36 (nI s) (nI t) rc14 (tit (m2_leastWinningMove_L36 (nI s) (nI t) rc14) n) (nI t) = _
    unfold m2_leastWinningMove_B36
    simp (disch := omega) only [I1, nLE, if_pos, tnm_eq, nI_add]
    rfl
  | succ k ih =>
    intro n t ht h1 hn
    obtain ⟨n, rfl⟩ : ∃ m, n = m + 1 := ⟨n - 1, by omega⟩
    have hm := mvd_lt4 (f := f) hs (show t ≤ 12 by omega) h1
    rw [tit_s]
    show m2_leastWinningMove_B36 (nI s) (nI f) rc14 (tit (m2_leastWinningMove_L36 (nI s) (nI f) rc14) n) (nI t) = _
    have e0 : inS HTb s f (k + 1) t = if HTb (mvd s f t) = true then inS HTb s f k (t + 1) else 100 * f + t := rfl
    have em : s ^^^ (s &&& 2 ^ (f - 1)) ||| 2 ^ (t - 1) = mvd s f t := rfl
    rw [e0]
    unfold m2_leastWinningMove_B36
    simp (disch := omega) only [I1, I0, I100, nLE, if_neg, bitOf_in, tbd_some, nCLR, nOR, em, canWin_ok hm, bI_0, tnm_eq, nI_add, nMUL]
    cases HTb (mvd s f t)
    · rw [if_pos (show false = false from rfl), if_neg (show ¬ false = true by decide), if_neg (show ¬ 100 * f + t = 0 by omega)]
    · rw [if_neg (show ¬ true = false by decide), if_pos (show true = true from rfl)]
      exact ih n (t + 1) (by omega) (by omega) (by omega)
theorem lw_go {s : Nat} (hs : s < 4096) : ∀ k n f b, f + k = 13 → 1 ≤ f → b < f → k < n → tit (m2_leastWinningMove_L14 (nI s)) n (nI b, nI f) = some (eZ (lwG HTb s k f b)) := by
  intro k
  induction k with
  | zero =>
    intro n f b hf h1 hb hn
    obtain ⟨n, rfl⟩ : ∃ m, n = m + 1 := ⟨n - 1, by omega⟩
    obtain rfl : f = 13 := by omega
    rw [tit_s]
    show m2_leastWinningMove_B14 (nI s) (tit (m2_leastWinningMove_L14 (nI s)) n) (nI b) (nI 13) = _
    unfold m2_leastWinningMove_B14
    simp (disch := omega) only [I12, I6, nLT, if_pos]
    rfl
  | succ k ih =>
    intro n f b hf h1 hb hn
    obtain ⟨n, rfl⟩ : ∃ m, n = m + 1 := ⟨n - 1, by omega⟩
    rw [tit_s]
    show m2_leastWinningMove_B14 (nI s) (tit (m2_leastWinningMove_L14 (nI s)) n) (nI b) (nI f) = _
    have e0 : lwG HTb s (k + 1) f b = if s.testBit (f - 1) = true then (if inS HTb s f (f - 1 - b) (b + 1) = 0 then lwG HTb s k (f + 1) f else inS HTb s f (f - 1 - b) (b + 1)) else lwG HTb s k (f + 1) b := rfl
    rw [e0]
    unfold m2_leastWinningMove_B14
    simp (disch := omega) only [I12, I1, I0, nLT, if_neg, bitOf_in, tbd_some, nAND, nBIT, tnm_eq, nI_add]
    cases s.testBit (f - 1)
    · rw [if_pos (show false = false from rfl), if_neg (show ¬ false = true by decide)]
      exact ih n (f + 1) b (by omega) (by omega) (by omega) (by omega)
    · rw [if_neg (show ¬ true = false by decide), if_pos (show true = true from rfl), lw_in hs (by omega) _ (f - 1 - b) FU (b + 1) (by omega) (by omega) (FU_gt (by omega))]
      by_cases e : inS HTb s f (f - 1 - b) (b + 1) = 0
      · rw [if_pos e, if_pos e]
        exact ih n (f + 1) f (by omega) (by omega) (by omega) (by omega)
      · rw [if_neg e, if_neg e]
        unfold eZ
        rw [if_neg e]
theorem lwm_ok {s : Nat} (hs : s < 4096) : m2_leastWinningMove (nI s) = some (eZ (fdS HTb s 11 2)) := by
  unfold m2_leastWinningMove
  rw [canWin_ok hs, tbd_some, I0, (chk_all hs).1, I6, I1]
  cases HTb s
  · rfl
  · rw [if_neg (by decide), if_pos rfl, lw_go hs 12 FU 1 0 (by omega) (by omega) (by omega) (FU_gt (by decide))]
section
variable {T : SX10}
theorem eZ_le {v : Nat} (h : v < 2147483648) : (eZ v ≤ nI 0) ↔ v = 0 := by
  unfold eZ
  by_cases e : v = 0
  · rw [if_pos e]
    exact ⟨fun _ => e, fun _ => by decide⟩
  · rw [if_neg e, nLE (by omega) (by omega)]
    omega
theorem dnS_lt {L : Nat → Bool} {s f : Nat} (hf : f ≤ 12) : ∀ t a, t ≤ 12 → a < 2000 → dnS L s f t a < 2000
  | 0, a, _, h => h
  | t + 1, a, ht, h => by
    unfold dnS
    split
    · exact h
    · exact dnS_lt hf t _ (by omega) (by split <;> omega)
theorem fd_in {s f : Nat} (hs : s < 4096) (hT : ∀ k, k < s → g10_wins T k = bI (HTb k)) (hf2 : f ≤ 12) (hb : s.testBit (f - 1) = true) (rc2 : Int32 → Option Int32) : ∀ t n a, t < f → a < 2000 → t < n → tit (m10_firstDown_L26 T (nI s) (nI f) rc2) n (eZ a, nI t) = if dnS HTb s f t a = 0 then rc2 (nI (f + 1)) else some (nI (dnS HTb s f t a)) := by
  have hJ : ∀ a, a < 2000 → m10_firstDown_J84 T (nI s) (nI f) (eZ a) rc2 = if a = 0 then rc2 (nI (f + 1)) else some (nI a) := by
    intro a ha
    unfold m10_firstDown_J84
    simp (disch := omega) only [I0, I1, eZ_le, tnm_eq, nI_add]
    by_cases e : a = 0
    · rw [if_pos e, if_pos e]
    · rw [if_neg e, if_neg e]
      unfold eZ
      rw [if_neg e]
  intro t
  induction t with
  | zero =>
    intro n a ht ha hn
    obtain ⟨n, rfl⟩ : ∃ m, n = m + 1 := ⟨n - 1, by omega⟩
    rw [tit_s]
    show m10_firstDown_B26 T (nI s) (nI f) rc2 (tit (m10_firstDown_L26 T (nI s) (nI f) rc2) n) (eZ a) (nI 0) = _
    unfold m10_firstDown_B26
    simp (disch := omega) only [I0, nLE, if_pos]
    exact hJ a ha
  | succ t ih =>
    intro n a ht ha hn
    obtain ⟨n, rfl⟩ : ∃ m, n = m + 1 := ⟨n - 1, by omega⟩
    have hm4 := mvd_lt4 (f := f) hs (show t + 1 ≤ 12 by omega) (by omega)
    have hml := mvd_lt (t := t + 1) (by omega) ht hb
    rw [tit_s]
    show m10_firstDown_B26 T (nI s) (nI f) rc2 (tit (m10_firstDown_L26 T (nI s) (nI f) rc2) n) (eZ a) (nI (t + 1)) = _
    have e0 : dnS HTb s f (t + 1) a = if s.testBit t = true then a else dnS HTb s f t (if HTb (mvd s f (t + 1)) = true then a else 100 * f + (t + 1)) := rfl
    have em : s ^^^ (s &&& 2 ^ (f - 1)) ||| 2 ^ t = mvd s f (t + 1) := rfl
    rw [e0]
    unfold m10_firstDown_B26
    simp (disch := omega) only [I0, I1, I100, nLE, if_neg, nSUB, Nat.add_sub_cancel, has_ok, tbd_some, bI_0, nSHL1, nCLR, nOR, em, tin_nI, tgd_true, nC, hT, tnm_eq, nMUL, nI_add]
    rw [show nI (t + 1) + -nI 1 = nI t from dn_s t]
    cases s.testBit t
    · rw [if_pos (show false = false from rfl), if_neg (show ¬ false = true by decide)]
      cases HTb (mvd s f (t + 1))
      · rw [if_pos (show false = false from rfl), if_neg (show ¬ false = true by decide)]
        have := ih n (100 * f + (t + 1)) (by omega) (by omega) (by omega)
        rw [← this]
        unfold eZ
        rw [if_neg (by omega)]
      · rw [if_neg (show ¬ true = false by decide), if_pos (show true = true from rfl)]
        exact ih n a (by omega) ha (by omega)
    · rw [if_neg (show ¬ true = false by decide), if_pos (show true = true from rfl)]
      exact hJ a ha
theorem fd_go {s : Nat} (hs : s < 4096) (hT : ∀ k, k < s → g10_wins T k = bI (HTb k)) : ∀ k n f, f + k = 13 → 2 ≤ f → k < n → tit (m10_firstDown_L2 T (nI s)) n (nI f) = some (eZ (fdS HTb s k f)) := by
  intro k
  induction k with
  | zero =>
    intro n f hf h1 hn
    obtain ⟨n, rfl⟩ : ∃ m, n = m + 1 := ⟨n - 1, by omega⟩
    obtain rfl : f = 13 := by omega
    rw [tit_s]
    show m10_firstDown_B2 T (nI s) (tit (m10_firstDown_L2 T (nI s)) n) (nI 13) = _
    unfold m10_firstDown_B2
    simp (disch := omega) only [I13, I6, nLE, if_pos]
    rfl
  | succ k ih =>
    intro n f hf h1 hn
    obtain ⟨n, rfl⟩ : ∃ m, n = m + 1 := ⟨n - 1, by omega⟩
    rw [tit_s]
    show m10_firstDown_B2 T (nI s) (tit (m10_firstDown_L2 T (nI s)) n) (nI f) = _
    have e0 : fdS HTb s (k + 1) f = if s.testBit (f - 1) = true then (if dnS HTb s f (f - 1) 0 = 0 then fdS HTb s k (f + 1) else dnS HTb s f (f - 1) 0) else fdS HTb s k (f + 1) := rfl
    rw [e0]
    unfold m10_firstDown_B2
    simp (disch := omega) only [I13, I6, I1, I0, nLE, if_neg, nSUB, has_ok, tbd_some, bI_0, tnm_eq, nI_add]
    cases q : s.testBit (f - 1)
    · rw [if_pos (show false = false from rfl), if_neg (show ¬ false = true by decide)]
      exact ih n (f + 1) (by omega) (by omega) (by omega)
    · rw [if_neg (show ¬ true = false by decide), if_pos (show true = true from rfl)]
      have := fd_in (T := T) hs hT (show f ≤ 12 by omega) q (tit (m10_firstDown_L2 T (nI s)) n) (f - 1) FU 0 (by omega) (by omega) (FU_gt (by omega))
      rw [show eZ 0 = -nI 6 from rfl] at this
      rw [this]
      by_cases e : dnS HTb s f (f - 1) 0 = 0
      · rw [if_pos e, if_pos e]
        exact ih n (f + 1) (by omega) (by omega) (by omega)
      · rw [if_neg e, if_neg e]
        unfold eZ
        rw [if_neg e]
theorem firstDown_ok {s : Nat} (hs : s < 4096) (hT : ∀ k, k < s → g10_wins T k = bI (HTb k)) : m10_firstDown T (nI s) = some (eZ (fdS HTb s 11 2)) := by
  unfold m10_firstDown
  rw [I2]
  exact fd_go hs hT 11 FU 2 (by omega) (by omega) (FU_gt (by decide))
theorem fdS_lt {L : Nat → Bool} {s : Nat} : ∀ k f, f + k ≤ 13 → fdS L s k f < 2000
  | 0, f, _ => by show 0 < 2000; omega
  | k + 1, f, h => by
    unfold fdS
    split
    · split
      · exact fdS_lt k (f + 1) (by omega)
      · exact dnS_lt (by omega) _ _ (by omega) (by omega)
    · exact fdS_lt k (f + 1) (by omega)
theorem kp_wins (S : SX10) (a : Nat → Int32) : KP S (s10_wins S a) := ⟨rfl, rfl, rfl, rfl, rfl, rfl, rfl⟩
theorem gwins (S : SX10) (a : Nat → Int32) : g10_wins (s10_wins S a) = a := rfl
def dAns (s w : Nat) : Int32 := if w = 1 then eZ (fdS HTb s 11 2) else bI (HTb s)
theorem down_go {s w : Nat} (hs : s < 4096) (hw : w ≤ 1) : ∀ k n i (T : SX10), i + k = s → k < n → (∀ j, j < i → g10_wins T j = bI (HTb j)) → ∃ T', tit (m10_down_L25 (nI s) (nI w)) n (nI i, T) = some (dAns s w, T') ∧ KP T T' := by
  intro k
  induction k with
  | zero =>
    intro n i T hi hn hT
    obtain ⟨n, rfl⟩ : ∃ m, n = m + 1 := ⟨n - 1, by omega⟩
    obtain rfl : i = s := by omega
    refine ⟨T, ?_, KP.refl T⟩
    have hlt := fdS_lt (L := HTb) (s := i) 11 2 (by omega)
    have hc := (chk_all hs).2.1
    rw [tit_s]
    show m10_down_B25 (nI i) (nI w) (tit (m10_down_L25 (nI i) (nI w)) n) (nI i) T = _
    unfold m10_down_B25 dAns
    rw [if_pos ((nLE (by omega) (by omega)).mpr (Nat.le_refl _)), firstDown_ok hs hT, tbd_some, I1, I0]
    by_cases e : w = 1
    · rw [if_pos (by rw [e]), if_pos e]
    · rw [if_neg (fun z => e ((nEQ (by omega) (by omega)).mp z)), if_neg e, ← hc]
      unfold eZ
      by_cases e2 : fdS HTb i 11 2 = 0
      · rw [if_pos e2, if_neg neg6, e2]; rfl
      · rw [if_neg e2, if_pos ((nLE (by omega) (by omega)).mpr (by omega)), show (fdS HTb i 11 2 != 0) = true by simpa using e2]; rfl
  | succ k ih =>
    intro n i T hi hn hT
    obtain ⟨n, rfl⟩ : ∃ m, n = m + 1 := ⟨n - 1, by omega⟩
    have hlt := fdS_lt (L := HTb) (s := i) 11 2 (by omega)
    have hc := (chk_all (show i < 4096 by omega)).2.1
    obtain ⟨T', a1, a2⟩ := ih n (i + 1) (s10_wins T (upd (g10_wins T) i (bI (HTb i)))) (by omega) (by omega) (fun j hj => by
      rw [gwins]
      by_cases e : j = i
      · subst e; rw [upd_same]
      · rw [upd_other e]; exact hT j (by omega))
    refine ⟨T', ?_, (kp_wins T _).trans a2⟩
    rw [tit_s]
    show m10_down_B25 (nI s) (nI w) (tit (m10_down_L25 (nI s) (nI w)) n) (nI i) T = _
    unfold m10_down_B25
    rw [if_neg (fun z => absurd ((nLE (by omega) (by omega)).mp z) (by omega)), firstDown_ok (by omega) hT, tbd_some, I0, I1, tin_nI (by omega) (by omega), tgd_true, tgd_true, tnm_eq, tnm_eq, nC (by omega), nI_add, ← a1, ← hc]
    by_cases e2 : fdS HTb i 11 2 = 0
    · rw [if_pos ((eZ_le (by omega)).mpr e2), e2, show vp_nar .boolean (nI 0) = nI 0 from nar0]; rfl
    · rw [if_neg (fun z => e2 ((eZ_le (by omega)).mp z)), show (fdS HTb i 11 2 != 0) = true by simpa using e2, show vp_nar .boolean (nI 1) = nI 1 from nar1]; rfl
end
theorem down_c (M : SX10) (x y : Int32) : ∃ v M', m9_down x y = some v ∧ m10_down M x y = some (v, M') ∧ KP M M' := by
  unfold m9_down m10_down
  simp only [within_eq, I0, I1, I4095]
  rcases rng x 0 4095 (by decide) (by decide) with ⟨s, -, hs, rfl⟩ | ho
  · rw [in_in (by omega) hs (by omega), tbd_some, tbd_some]
    simp only [n10, if_false]
    rcases rng y 0 1 (by decide) (by decide) with ⟨w, -, hw1, rfl⟩ | ho
    · rw [in_in (by omega) hw1 (by omega), tbd_some, tbd_some]
      simp only [n10, if_false]
      obtain ⟨T', a1, a2⟩ := down_go (s := s) (w := w) (by omega) hw1 s FU 0 M (by omega) (FU_gt (by omega)) (fun j hj => by omega)
      rw [a1, canWin_ok (by omega), lwm_ok (by omega), tbd_some, tbd_some]
      unfold dAns
      by_cases e : w = 0
      · rw [if_pos (show nI w = nI 0 by rw [e]), if_neg (show ¬ w = 1 by omega)]
        refine ⟨_, _, ?_, rfl, a2⟩
        cases HTb s <;> rfl
      · rw [if_neg (fun z => e ((nEQ (by omega) (by omega)).mp z)), if_pos (by omega)]
        exact ⟨_, _, rfl, rfl, a2⟩
    · rw [in_out ho, tbd_some, tbd_some]
      exact ⟨_, _, rfl, rfl, KP.refl M⟩
  · rw [in_out ho, tbd_some, tbd_some]
    exact ⟨_, _, rfl, rfl, KP.refl M⟩
