/-! values by place, from the roof down -/
def fo (f : Nat → Nat → Nat → Nat) (z : Nat) (T : Nat → Nat) (p : Nat) : Nat → Nat
  | 0 => z
  | j + 1 => f (p + 1 + j) (T (p + 1 + j)) (fo f z T p j)
def tb (f : Nat → Nat → Nat → Nat) (z v s : Nat) : Nat → Nat → Nat
  | 0, _ => v
  | k + 1, q => if q = 12 - k then fo f z (tb f z v s k) (12 - k) (min s (k + 1)) else tb f z v s k q
def Vp (f : Nat → Nat → Nat → Nat) (z v s q : Nat) : Nat := tb f z v s 13 q
theorem fo_congr {f : Nat → Nat → Nat → Nat} {z p : Nat} {T T' : Nat → Nat} : ∀ j, (∀ i, i < j → T (p + 1 + i) = T' (p + 1 + i)) → fo f z T p j = fo f z T' p j
  | 0, _ => rfl
  | j + 1, h => by
    unfold fo
    rw [h j (by omega), fo_congr j (fun i hi => h i (by omega))]
theorem tb_st {f : Nat → Nat → Nat → Nat} {z v s k q : Nat} (hq : 13 - k ≤ q) : ∀ d, k + d ≤ 13 → tb f z v s (k + d) q = tb f z v s k q
  | 0, _ => rfl
  | d + 1, h => by
    show (if q = 12 - (k + d) then fo f z (tb f z v s (k + d)) (12 - (k + d)) (min s (k + d + 1)) else tb f z v s (k + d) q) = _
    rw [if_neg (by omega)]
    exact tb_st hq d (by omega)
theorem Vp_k {f : Nat → Nat → Nat → Nat} {z v s q : Nat} (k : Nat) (hk : k ≤ 13) (hq : 13 - k ≤ q) : Vp f z v s q = tb f z v s k q := by
  unfold Vp
  obtain ⟨d, e⟩ : ∃ d, 13 = k + d := ⟨13 - k, by omega⟩
  rw [show tb f z v s 13 q = tb f z v s (k + d) q by rw [← e]]
  exact tb_st hq d (by omega)
theorem Vp_top {f : Nat → Nat → Nat → Nat} {z v s : Nat} : Vp f z v s 13 = v := Vp_k 0 (by omega) (by omega)
theorem Vp_rec {f : Nat → Nat → Nat → Nat} {z v s p : Nat} (hp : p ≤ 12) : Vp f z v s p = fo f z (Vp f z v s) p (min s (13 - p)) := by
  rw [Vp_k (13 - p) (by omega) (by omega)]
  obtain ⟨k, e⟩ : ∃ k, 13 - p = k + 1 := ⟨12 - p, by omega⟩
  rw [e]
  show (if p = 12 - k then fo f z (tb f z v s k) (12 - k) (min s (k + 1)) else tb f z v s k p) = _
  rw [if_pos (by omega), show 12 - k = p by omega]
  exact fo_congr _ (fun i hi => (Vp_k k (by omega) (by omega)).symm)
/-- min of sums -/
def fM (w : Nat → Nat) : Nat → Nat → Nat → Nat := fun q v a => min a (v + w q)
def fR (op : Nat → Bool) : Nat → Nat → Nat → Nat := fun q v a => if op q = true then a + v else a
theorem foM_le {w : Nat → Nat} {z p : Nat} {T : Nat → Nat} : ∀ j, fo (fM w) z T p j ≤ z
  | 0 => Nat.le_refl _
  | j + 1 => by
    have := foM_le (w := w) (z := z) (p := p) (T := T) j
    show min (fo (fM w) z T p j) _ ≤ z
    omega
theorem foM_at {w : Nat → Nat} {z p : Nat} {T : Nat → Nat} : ∀ j i, i < j → fo (fM w) z T p j ≤ T (p + 1 + i) + w (p + 1 + i)
  | 0, i, h => by omega
  | j + 1, i, h => by
    show min (fo (fM w) z T p j) _ ≤ _
    by_cases e : i = j
    · subst e; omega
    · have := foM_at (w := w) (z := z) (p := p) (T := T) j i (by omega)
      omega
theorem foM_ex {w : Nat → Nat} {z p : Nat} {T : Nat → Nat} : ∀ j, fo (fM w) z T p j = z ∨ ∃ i, i < j ∧ fo (fM w) z T p j = T (p + 1 + i) + w (p + 1 + i)
  | 0 => Or.inl rfl
  | j + 1 => by
    have ih := foM_ex (w := w) (z := z) (p := p) (T := T) j
    have e : fo (fM w) z T p (j + 1) = min (fo (fM w) z T p j) (T (p + 1 + j) + w (p + 1 + j)) := rfl
    by_cases h : fo (fM w) z T p j ≤ T (p + 1 + j) + w (p + 1 + j)
    · have e2 : fo (fM w) z T p (j + 1) = fo (fM w) z T p j := by omega
      rw [e2]
      rcases ih with a | ⟨i, hi, a⟩
      · exact Or.inl a
      · exact Or.inr ⟨i, by omega, a⟩
    · exact Or.inr ⟨j, by omega, by omega⟩
theorem VM_le {w : Nat → Nat} {s p : Nat} (hp : p ≤ 13) : Vp (fM w) 1000000 0 s p ≤ 1000000 := by
  by_cases h : p = 13
  · subst h; rw [Vp_top]; omega
  · rw [Vp_rec (by omega)]; exact foM_le _
def opS (c : CS) (m more q : Nat) : Bool := decide (q = 13) || mayS c m q || more.testBit (q - 1)
def wF (op : Nat → Bool) : Nat → Nat := fun q => if op q = true then 1 else 1000000
abbrev few (op : Nat → Bool) (s p : Nat) : Nat := Vp (fM (wF op)) 1000000 0 s p
abbrev rws (op : Nat → Bool) (s p : Nat) : Nat := Vp (fR op) 0 1 s p
theorem mo_lt (c : CS) (m : Nat) : ∀ k, mo c m k < 2 ^ k
  | 0 => Nat.lt_add_one 0
  | k + 1 => by
    have := mo_lt c m k
    have h2 : (2:Nat) ^ k < 2 ^ (k + 1) := Nat.pow_lt_pow_right (by decide) (by omega)
    unfold mo
    split
    · exact Nat.or_lt_two_pow (by omega) h2
    · omega
theorem mo_bit (c : CS) (m : Nat) : ∀ k j, (mo c m k).testBit j = (decide (j < k) && mayS c m (j + 1))
  | 0, j => by simp [mo]
  | k + 1, j => by
    have ih := mo_bit c m k j
    unfold mo
    by_cases e : j = k
    · subst e
      by_cases q : mayS c m (j + 1) = true
      · rw [if_pos q]; simp [Nat.testBit_or, q, Nat.testBit_two_pow_self]
      · rw [if_neg q, ih]; simp at q; simp [q]
    · have : decide (j < k + 1) = decide (j < k) := by
        by_cases h : j < k
        · simp [h]; omega
        · simp [h]; omega
      rw [this, ← ih]
      split
      · rw [Nat.testBit_or, Nat.testBit_two_pow_of_ne (Ne.symm e)]; simp
      · rfl
theorem open_bit (c : CS) (m : Nat) {q : Nat} (h1 : 1 ≤ q) (h2 : q ≤ 13) : (mo c m 12 ||| 4096).testBit (q - 1) = opS c m 0 q := by
  rw [Nat.testBit_or, mo_bit]
  unfold opS
  rw [show (4096 : Nat) = 2 ^ 12 from rfl, Nat.testBit_two_pow, Nat.zero_testBit, Nat.sub_add_cancel h1]
  by_cases e : q = 13
  · subst e; simp
  · have e1 : decide (q - 1 < 12) = true := decide_eq_true (by omega)
    have e2 : decide (12 = q - 1) = false := decide_eq_false (by omega)
    have e3 : decide (q = 13) = false := decide_eq_false e
    rw [e1, e2, e3]; simp
theorem mo_or_lt (c : CS) (m : Nat) : (mo c m 12 ||| 4096) < 8192 := Nat.or_lt_two_pow (n := 13) (Nat.lt_trans (mo_lt c m 12) (by decide)) (by decide)
theorem isOpen_ok {a q : Nat} (ha : a < 2147483648) (h1 : 1 ≤ q) (h2 : q ≤ 13) : m7_isOpen (nI a) (nI q) = some (bI (a.testBit (q - 1))) := by
  unfold m7_isOpen
  simp (disch := omega) only [I0, I1, nSUB, nSHR, nAND1, nBIT0]
  cases a.testBit (q - 1) <;> rfl
theorem settledAt_ok {T : SX7} {q : Nat} (h2 : q ≤ 13) : m7_settledAt T (nI q) = some (g7_settled T q) := by
  unfold m7_settledAt m9_isPlace
  simp (disch := omega) only [I0, I1, I13, nLT, if_neg, tbd_some, nEQ, tin_nI, tgd_true, nC]
section
variable {c : CS} {B : SX1} {cb : Nat}
theorem sS_in {T : SX7} {a p s : Nat} (ha : a < 2147483648) (hp : p ≤ 12) (hs : s ≤ 4) {V : Nat → Nat} (hV : ∀ q, p < q → q ≤ 13 → g7_settled T q = nI (V q)) (hb : ∀ q, p < q → q ≤ 13 → V q ≤ 1000000) {op : Nat → Bool} (ho : ∀ q, 1 ≤ q → q ≤ 13 → a.testBit (q - 1) = op q) (x4 : Int32) (rc : Int32 × SX7 → Option SX7) : tit (m7_settleSteps_L56 T B (nI a) x4 (nI p) (nI (min (p + s) 13)) rc) FU (nI 1000000, nI (p + 1)) = rc (nI p + -1, s7_settled T (upd (g7_settled T) p (nI (fo (fM (wF op)) 1000000 V p (min s (13 - p)))))) := by
  exact tit_run (fun j => (nI (fo (fM (wF op)) 1000000 V p j), nI (p + 1 + j))) (min s (13 - p)) _ (fun rc' j hj => by
    show m7_settleSteps_B56 T B (nI a) x4 (nI p) (nI (min (p + s) 13)) rc rc' (nI (fo (fM (wF op)) 1000000 V p j)) (nI (p + 1 + j)) = rc' (nI (min (fo (fM (wF op)) 1000000 V p j) (V (p + 1 + j) + wF op (p + 1 + j))), nI (p + 1 + j + 1))
    have hle := foM_le (w := wF op) (z := 1000000) (p := p) (T := V) j
    have hbj := hb (p + 1 + j) (by omega) (by omega)
    generalize fo (fM (wF op)) 1000000 V p j = x at hle ⊢
    unfold m7_settleSteps_B56
    simp (disch := omega) only [nLT, if_neg, isOpen_ok ha, tbd_some, ho, I0, bI_0, I1, nI_add, tnm_eq, settledAt_ok, hV (p + 1 + j), nMIN]
    unfold wF
    cases op (p + 1 + j)
    · rw [if_pos rfl, if_neg (by decide)]
      congr 3
      omega
    · rw [if_neg (by decide), if_pos rfl]) (fun rc' => by
    show m7_settleSteps_B56 T B (nI a) x4 (nI p) (nI (min (p + s) 13)) rc rc' (nI (fo (fM (wF op)) 1000000 V p (min s (13 - p)))) (nI (p + 1 + min s (13 - p))) = _
    unfold m7_settleSteps_B56
    simp (disch := omega) only [nLT, if_pos, tin_nI, tgd_true, tnm_eq, nC]) FU (FU_gt (by omega))
theorem cU_in {T : SX7} {a p s : Nat} (ha : a < 2147483648) (hp : p ≤ 12) (hs : s ≤ 4) {V : Nat → Nat} (hV : ∀ q, p < q → q ≤ 13 → g7_settled T q = nI (V q)) {op : Nat → Bool} (ho : ∀ q, 1 ≤ q → q ≤ 13 → a.testBit (q - 1) = op q) (x2 x4 : Int32) (rc : Int32 × SX7 → Option (Int32 × SX7)) : tit (m7_countUp_L55 T B x2 (nI a) x4 (nI p) (nI (min (p + s) 13)) rc) FU (nI 0, nI (p + 1)) = rc (nI p + -1, s7_settled T (upd (g7_settled T) p (nI (fo (fR op) 0 V p (min s (13 - p)))))) := by
  exact tit_run (fun j => (nI (fo (fR op) 0 V p j), nI (p + 1 + j))) (min s (13 - p)) _ (fun rc' j hj => by
    show m7_countUp_B55 T B x2 (nI a) x4 (nI p) (nI (min (p + s) 13)) rc rc' (nI (fo (fR op) 0 V p j)) (nI (p + 1 + j)) = rc' (nI (if op (p + 1 + j) = true then fo (fR op) 0 V p j + V (p + 1 + j) else fo (fR op) 0 V p j), nI (p + 1 + j + 1))
    unfold m7_countUp_B55
    simp (disch := omega) only [nLT, if_neg, isOpen_ok ha, tbd_some, ho, I0, bI_0, I1, nI_add, tnm_eq, settledAt_ok, hV (p + 1 + j)]
    cases op (p + 1 + j) <;> rfl) (fun rc' => by
    show m7_countUp_B55 T B x2 (nI a) x4 (nI p) (nI (min (p + s) 13)) rc rc' (nI (fo (fR op) 0 V p (min s (13 - p)))) (nI (p + 1 + min s (13 - p))) = _
    unfold m7_countUp_B55
    simp (disch := omega) only [nLT, if_pos, tin_nI, tgd_true, tnm_eq, nC]) FU (FU_gt (by omega))
theorem dn_0 : nI 0 + -1 = -nI 1 := by decide
theorem dn_s (k : Nat) : nI (k + 1) + -1 = nI k := by
  have := nDEC (a := k + 1) (by omega)
  exact this
theorem m1_lt : (-nI 1 < nI 0) := by decide
end
