/-! ask -/
section
variable {c : CS} {cb q : Nat} {B : SX1} {T : SX10} {sr : Nat → Nat} {sw : Nat → Bool}
def yJ (c : CS) (q : Nat) (sr : Nat → Nat) (sw : Nat → Bool) (r j : Nat) : Bool := fitJ c q sr sw j && (tlJ c j).testBit (r - 1)
def wst (c : CS) (q : Nat) (sr : Nat → Nat) (sw : Nat → Bool) (r : Nat) : Nat := max (cntG (yJ c q sr sw r) 12) (cntG (fitJ c q sr sw) 12 - cntG (yJ c q sr sw r) 12)
theorem yJ_le (r : Nat) : ∀ n, cntG (yJ c q sr sw r) n ≤ cntG (fitJ c q sr sw) n
  | 0 => Nat.le_refl _
  | n + 1 => by
    have ih := yJ_le r n
    show cntG (yJ c q sr sw r) n + _ ≤ cntG (fitJ c q sr sw) n + _
    unfold yJ at ih ⊢
    cases fitJ c q sr sw n
    · rw [Bool.false_and]; omega
    · rw [Bool.true_and]
      split <;> simp <;> omega
/-- wet ones among the first t rows of the class -/
def yC (S : SX8) (r : Nat) : Nat → Nat
  | 0 => 0
  | t + 1 => yC S r t + if (g8_wetRungs S t &&& nI (2 ^ (r - 1))) = nI 0 then 0 else 1
theorem yC_le (S : SX8) (r : Nat) : ∀ t, yC S r t ≤ t
  | 0 => Nat.le_refl _
  | t + 1 => by
    have := yC_le S r t
    unfold yC
    split <;> omega
theorem yC_eq {S : SX8} {N : Nat} (hI : IV c q sr sw N S) (r : Nat) : ∀ n, n ≤ N → yC S r (cntG (fitJ c q sr sw) n) = cntG (yJ c q sr sw r) n
  | 0, _ => rfl
  | n + 1, h => by
    have ih := yC_eq hI r n (by omega)
    have e : cntG (fitJ c q sr sw) (n + 1) = cntG (fitJ c q sr sw) n + if fitJ c q sr sw n = true then 1 else 0 := rfl
    show _ = cntG (yJ c q sr sw r) n + if yJ c q sr sw r n = true then 1 else 0
    rw [e, ← ih]
    cases w : fitJ c q sr sw n
    · have : yJ c q sr sw r n = false := by unfold yJ; rw [w]; rfl
      rw [this]; rfl
    · have hy : yJ c q sr sw r n = (tlJ c n).testBit (r - 1) := by unfold yJ; rw [w]; rfl
      have hv := (hI.2 n (by omega) w).2
      have hlt : tlJ c n < 4096 := tlS_lt c _ _
      rw [if_pos rfl, hy]
      show yC S r (cntG (fitJ c q sr sw) n) + _ = _
      rw [hv, nAND]
      have hb := nBIT (a := tlJ c n) (k := r - 1) (by omega)
      cases u : (tlJ c n).testBit (r - 1)
      · rw [if_pos (hb.mpr u), if_neg (by decide)]
      · rw [if_neg (fun z => by rw [hb.mp z] at u; cases u), if_pos rfl]
theorem mostLeft_ok {S : SX8} (hI : IV c q sr sw 12 S) {r : Nat} (h1 : 1 ≤ r) (h2 : r ≤ 12) : m8_mostLeftBy S (nI r) = some (nI (wst c q sr sw r)) := by
  have hc12 := cntG_le (G := fitJ c q sr sw) 12
  have hy := yJ_le (c := c) (q := q) (sr := sr) (sw := sw) r 12
  unfold m8_mostLeftBy
  rw [I0]
  exact tit_run (fun t => (nI (yC S r t), nI t)) (cntG (fitJ c q sr sw) 12) _ (fun rc t ht => by
    show m8_mostLeftBy_B4 S (nI r) rc (nI (yC S r t)) (nI t) = rc (nI (yC S r t + if (g8_wetRungs S t &&& nI (2 ^ (r - 1))) = nI 0 then 0 else 1), nI (t + 1))
    unfold m8_mostLeftBy_B4
    rw [hI.1]
    simp (disch := omega) only [I12, I1, I0, nLE, if_neg, tin_nI, tgd_true, bitOf_in, tbd_some, nC, tnm_eq, nI_add]
    by_cases e : (g8_wetRungs S t &&& nI (2 ^ (r - 1))) = nI 0
    · rw [if_pos e, if_pos e]; rfl
    · rw [if_neg e, if_neg e]) (fun rc => by
    show m8_mostLeftBy_B4 S (nI r) rc (nI (yC S r (cntG (fitJ c q sr sw) 12))) (nI (cntG (fitJ c q sr sw) 12)) = _
    unfold m8_mostLeftBy_B4 m8_mostLeftBy_J41
    rw [hI.1, if_pos ((nLE (by omega) (by omega)).mpr (Nat.le_refl _)), yC_eq hI r 12 (by omega), nSUB hy, nMAX (by omega) (by omega)]
    rfl) FU (FU_gt (by omega))
def bR (W : Nat → Nat) : Nat → Nat
  | 0 => 1
  | k + 1 => if W (k + 2) < W (bR W k) then k + 2 else bR W k
theorem bR_rng (W : Nat → Nat) : ∀ k, 1 ≤ bR W k ∧ bR W k ≤ k + 1
  | 0 => ⟨Nat.le_refl _, Nat.le_refl _⟩
  | k + 1 => by
    have := bR_rng W k
    unfold bR
    split <;> omega
theorem wst_le (r : Nat) : wst c q sr sw r ≤ 12 := by
  have h1 := cntG_le (G := fitJ c q sr sw) 12
  have h2 := cntG_le (G := yJ c q sr sw r) 12
  unfold wst
  omega
theorem feel_ok {S : SX8} (hI : IV c q sr sw 12 S) : m8_rungToFeel S = some (nI (bR (wst c q sr sw) 11)) := by
  unfold m8_rungToFeel
  rw [I1, I2]
  exact tit_run (fun k => (nI (bR (wst c q sr sw) k), nI (k + 2))) 11 _ (fun rc k hk => by
    show m8_rungToFeel_B4 S rc (nI (bR (wst c q sr sw) k)) (nI (k + 2)) = rc (nI (if wst c q sr sw (k + 2) < wst c q sr sw (bR (wst c q sr sw) k) then k + 2 else bR (wst c q sr sw) k), nI (k + 2 + 1))
    have hb := bR_rng (wst c q sr sw) k
    have w1 := wst_le (c := c) (q := q) (sr := sr) (sw := sw) (k + 2)
    have w2 := wst_le (c := c) (q := q) (sr := sr) (sw := sw) (bR (wst c q sr sw) k)
    unfold m8_rungToFeel_B4
    simp (disch := omega) only [I12, I1, nLT, if_neg, mostLeft_ok hI, tbd_some, nLE, tnm_eq, nI_add]
    by_cases e : wst c q sr sw (k + 2) < wst c q sr sw (bR (wst c q sr sw) k)
    · rw [if_neg (by omega), if_pos e]
    · rw [if_pos (by omega), if_neg e]) (fun rc => by
    show m8_rungToFeel_B4 S rc (nI (bR (wst c q sr sw) 11)) (nI 13) = _
    unfold m8_rungToFeel_B4
    simp (disch := omega) only [I12, nLT, if_pos]) FU (FU_gt (by decide))
def YS (c : CS) (q : Nat) (sr : Nat → Nat) (sw : Nat → Bool) (r x : Nat) : Bool := decide (x % 10 < 2) && yJ c q sr sw r (2 * (x / 10) + x % 10)
theorem YS_eq {r x : Nat} : YS c q sr sw r x = (FS c q sr sw x && (tlS c (x / 10) (x % 10)).testBit (r - 1)) := by
  unfold YS FS yJ
  by_cases e : x % 10 < 2
  · have : tlJ c (2 * (x / 10) + x % 10) = tlS c (x / 10) (x % 10) := by
      unfold tlJ
      rw [show (2 * (x / 10) + x % 10) / 2 = x / 10 by omega, show (2 * (x / 10) + x % 10) % 2 = x % 10 by omega]
    rw [this, decide_eq_true e, Bool.true_and, Bool.true_and]
  · rw [decide_eq_false e, Bool.false_and, Bool.false_and, Bool.false_and]
theorem ycnt60 (r : Nat) : cntG (YS c q sr sw r) 60 = cntG (yJ c q sr sw r) 12 := cntG_codes 60
theorem ask_in (h : RM c (g10_now T)) (hw : WF cb c) (hs : RSm q sr sw (g10_sight T) (g10_sights T)) (hq : WS q sr) {r : Nat} (h1 : 1 ≤ r) (h2 : r ≤ 12) (x1 x2 x3 : Int32) (rc : Int32 × Int32 × Int32 → Option (Int32 × SX10)) : tit (m10_ask_L41 T x1 x2 x3 (nI r) rc) FU (nI 0, nI 0, nI 0) = m10_ask_J126 T x1 x2 x3 (nI r) (nI (cntG (fitJ c q sr sw) 12)) (nI (wst c q sr sw r)) rc := by
  have hc12 := cntG_le (G := fitJ c q sr sw) 12
  have hy := yJ_le (c := c) (q := q) (sr := sr) (sw := sw) r 12
  exact tit_run (fun k => (nI (cntG (FS c q sr sw) k), nI (cntG (YS c q sr sw r) k), nI k)) 60 _ (fun rc' k hk => by
    show m10_ask_B41 T x1 x2 x3 (nI r) rc rc' (nI (cntG (FS c q sr sw) k)) (nI (cntG (YS c q sr sw r) k)) (nI k) = rc' (nI (cntG (FS c q sr sw) k + if FS c q sr sw k = true then 1 else 0), nI (cntG (YS c q sr sw r) k + if YS c q sr sw r k = true then 1 else 0), nI (k + 1))
    have hlt := tlS_lt c (k / 10) (k % 10)
    unfold m10_ask_B41 m10_ask_J68 m10_ask_J96 m10_ask_J97
    simp (disch := omega) only [I60, I0, I1, nLE, if_neg, isFit_FS h hw hs hq, tbd_some, bI_0, tnm_eq, nI_add, wetOnes_ok h hw, has_ok, two_testBit h1]
    rw [YS_eq]
    cases FS c q sr sw k
    · rfl
    · cases (tlS c (k / 10) (k % 10)).testBit (r - 1) <;> rfl) (fun rc' => by
    show m10_ask_B41 T x1 x2 x3 (nI r) rc rc' (nI (cntG (FS c q sr sw) 60)) (nI (cntG (YS c q sr sw r) 60)) (nI 60) = _
    unfold m10_ask_B41
    rw [cnt60, ycnt60]
    simp (disch := omega) only [I60, nLE, if_pos, nSUB]
    unfold wst
    by_cases e : cntG (yJ c q sr sw r) 12 ≤ cntG (fitJ c q sr sw) 12 - cntG (yJ c q sr sw r) 12
    · rw [if_pos e, Nat.max_eq_right e]
    · rw [if_neg e, Nat.max_eq_left (by omega)]) FU (FU_gt (by decide))
theorem ask_0 {r : Nat} (x1 x2 x3 y : Int32) (rc : Int32 × Int32 × Int32 → Option (Int32 × SX10)) : m10_ask_J126 T x1 x2 x3 (nI r) (nI 0) y rc = rc (x2, x3, nI (r + 1)) := by
  unfold m10_ask_J126 m10_ask_J143 m10_ask_J144 m10_ask_J157
  simp (disch := omega) only [I0, I1, nLE, if_pos, n01, if_true, tnm_eq, nI_add]
theorem ask_1 {r a w l : Nat} (ha : 0 < a) (ha2 : a < 100) (hw : w < 100) (hl : l < 2147483648) (x1 x2 : Int32) (rc : Int32 × Int32 × Int32 → Option (Int32 × SX10)) : m10_ask_J126 T x1 x2 (nI l) (nI r) (nI a) (nI w) rc = if w < l then rc (nI r, nI w, nI (r + 1)) else rc (x2, nI l, nI (r + 1)) := by
  unfold m10_ask_J126 m10_ask_J143 m10_ask_J144 m10_ask_J157
  simp (disch := omega) only [I0, I1, nLE, if_neg, n01, n10, if_true, if_false, tnm_eq, nI_add]
  by_cases e : w < l
  · rw [if_neg (by omega), if_pos e]
  · rw [if_pos (by omega), if_neg e]
theorem ask_re0 (h : RM c (g10_now T)) (hw : WF cb c) (hs : RSm q sr sw (g10_sight T) (g10_sights T)) (hq : WS q sr) (h0 : cntG (fitJ c q sr sw) 12 = 0) (x1 : Int32) : tit (m10_ask_L25 T x1) FU (-nI 6, nI 1000000, nI 1) = some (-nI 6, T) := by
  exact tit_run (fun k => (-nI 6, nI 1000000, nI (k + 1))) 12 _ (fun rc k hk => by
    show m10_ask_B25 T x1 rc (-nI 6) (nI 1000000) (nI (k + 1)) = rc (-nI 6, nI 1000000, nI (k + 1 + 1))
    unfold m10_ask_B25
    simp (disch := omega) only [I13, I0, nLE, if_neg]
    rw [ask_in h hw hs hq (by omega) (by omega), h0, ask_0]) (fun rc => by
    show m10_ask_B25 T x1 rc (-nI 6) (nI 1000000) (nI 13) = _
    unfold m10_ask_B25
    simp (disch := omega) only [I13, I0, nLE, if_pos, m6_lt, if_true]) FU (FU_gt (by decide))
theorem ask_re1 (h : RM c (g10_now T)) (hw : WF cb c) (hs : RSm q sr sw (g10_sight T) (g10_sights T)) (hq : WS q sr) (h0 : 0 < cntG (fitJ c q sr sw) 12) {w : Nat} (hw1 : w ≤ 1) : tit (m10_ask_L25 T (nI w)) FU (-nI 6, nI 1000000, nI 1) = some (if w = 0 then nI (bR (wst c q sr sw) 11) else nI (wst c q sr sw (bR (wst c q sr sw) 11)), T) := by
  have hc12 := cntG_le (G := fitJ c q sr sw) 12
  exact tit_run (fun k => (if k = 0 then -nI 6 else nI (bR (wst c q sr sw) (k - 1)), if k = 0 then nI 1000000 else nI (wst c q sr sw (bR (wst c q sr sw) (k - 1))), nI (k + 1))) 12 _ (fun rc k hk => by
    have hwk := wst_le (c := c) (q := q) (sr := sr) (sw := sw) (k + 1)
    by_cases e : k = 0
    · subst e
      have hwk1 : wst c q sr sw 1 ≤ 12 := wst_le 1
      show m10_ask_B25 T (nI w) rc (-nI 6) (nI 1000000) (nI 1) = rc (nI 1, nI (wst c q sr sw 1), nI 2)
      unfold m10_ask_B25
      simp (disch := omega) only [I13, I0, nLE, if_neg]
      rw [ask_in h hw hs hq (by omega) (by omega), ask_1 h0 (by omega) (by omega) (by omega), if_pos (by omega)]
    · obtain ⟨j, rfl⟩ : ∃ j, k = j + 1 := ⟨k - 1, by omega⟩
      have hwk2 : wst c q sr sw (j + 2) ≤ 12 := wst_le (j + 2)
      have hwb := wst_le (c := c) (q := q) (sr := sr) (sw := sw) (bR (wst c q sr sw) j)
      show m10_ask_B25 T (nI w) rc (nI (bR (wst c q sr sw) j)) (nI (wst c q sr sw (bR (wst c q sr sw) j))) (nI (j + 2)) = rc (nI (if wst c q sr sw (j + 2) < wst c q sr sw (bR (wst c q sr sw) j) then j + 2 else bR (wst c q sr sw) j), nI (wst c q sr sw (if wst c q sr sw (j + 2) < wst c q sr sw (bR (wst c q sr sw) j) then j + 2 else bR (wst c q sr sw) j)), nI (j + 3))
      unfold m10_ask_B25
      simp (disch := omega) only [I13, I0, nLE, if_neg]
      rw [ask_in h hw hs hq (by omega) (by omega), ask_1 h0 (by omega) (by omega) (by omega)]
      by_cases e2 : wst c q sr sw (j + 2) < wst c q sr sw (bR (wst c q sr sw) j)
      · rw [if_pos e2, if_pos e2]
      · rw [if_neg e2, if_neg e2]) (fun rc => by
    show m10_ask_B25 T (nI w) rc (nI (bR (wst c q sr sw) 11)) (nI (wst c q sr sw (bR (wst c q sr sw) 11))) (nI 13) = _
    have hb := bR_rng (wst c q sr sw) 11
    unfold m10_ask_B25
    simp (disch := omega) only [I13, I0, nLE, nLT, if_pos, if_neg, nEQ]
    by_cases e : w = 0
    · rw [if_pos e, if_pos e]
    · rw [if_neg e, if_neg e]) FU (FU_gt (by decide))
end
section
variable {cb : Nat} {B : SX1} {P : SX5} {J0 J1 : Option SX1} {M : SX10}
theorem ask_c (h : Inv cb B P J0 J1 M) (R : SX8) (x : Int32) : ∃ v R' M', m9_ask () B R x = some (v, R') ∧ m10_ask M x = some (v, M') ∧ KP M M' := by
  obtain ⟨⟨c, q, sr, sw, hw, hRC, hRM, hWS, hSc, hSm⟩, -⟩ := h
  unfold m9_ask m10_ask
  simp only [within_eq, I0, I1]
  rcases rng x 0 1 (by decide) (by decide) with ⟨w, -, hw1, rfl⟩ | ho
  · rw [in_in (by omega) hw1 (by omega), tbd_some, tbd_some]
    simp only [n10, if_false]
    obtain ⟨R', r1, r2⟩ := find_ok hRC hw hSc hWS R
    obtain ⟨T1, a1, a2, a3, -⟩ := asNow_ok hRM
    have hS1 : RSm q sr sw (g10_sight T1) (g10_sights T1) := by rw [a3.2.1, a3.2.2.1]; exact hSm
    have hc12 := cntG_le (G := fitJ c q sr sw) 12
    unfold m8_size
    rw [r1, tbd_some, tbd_some, a1, tbd_some, r2.1, I6, I1000000]
    by_cases e : cntG (fitJ c q sr sw) 12 = 0
    · rw [if_pos (by rw [e]), ask_re0 a2 hw hS1 hWS e]
      exact ⟨_, _, _, rfl, rfl, a3⟩
    · rw [if_neg (fun z => e ((nEQ (by omega) (by omega)).mp z)), feel_ok r2, tbd_some, ask_re1 a2 hw hS1 hWS (by omega) hw1]
      have hb := bR_rng (wst c q sr sw) 11
      by_cases ew : w = 0
      · rw [if_pos (by rw [ew]), if_pos ew]
        exact ⟨_, _, _, rfl, rfl, a3⟩
      · rw [if_neg (fun z => ew ((nEQ (by omega) (by omega)).mp z)), if_neg ew, mostLeft_ok r2 hb.1 (by omega), tbd_some]
        exact ⟨_, _, _, rfl, rfl, a3⟩
  · rw [in_out ho, tbd_some, tbd_some]
    exact ⟨_, _, _, rfl, rfl, KP.refl M⟩
end
