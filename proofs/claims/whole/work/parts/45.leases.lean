/-! leases: the loops -/
def lzS (c : CS) (r : Nat) : Bool := !msS c r && !decide (cO c r = 0) && decide (cL c r = 0)
def lzM (c : CS) (m r : Nat) : Bool := !msS c r && !decide (cO c r = 0) && !decide (cO c r = m + 1) && decide (cL c r = 0)
def msk (f : Nat → Bool) : Nat → Nat
  | 0 => 0
  | k + 1 => if f (k + 1) = true then msk f k ||| 2 ^ k else msk f k
theorem msk_lt (f : Nat → Bool) : ∀ k, msk f k < 2 ^ k
  | 0 => Nat.lt_add_one 0
  | k + 1 => by
    have := msk_lt f k
    have h2 : (2:Nat) ^ k < 2 ^ (k + 1) := Nat.pow_lt_pow_right (by decide) (by omega)
    unfold msk
    split
    · exact Nat.or_lt_two_pow (by omega) h2
    · omega
theorem msk_bit (f : Nat → Bool) : ∀ k j, (msk f k).testBit j = (decide (j < k) && f (j + 1))
  | 0, j => by simp [msk]
  | k + 1, j => by
    have ih := msk_bit f k j
    unfold msk
    by_cases e : j = k
    · subst e
      by_cases q : f (j + 1) = true
      · rw [if_pos q]; simp [Nat.testBit_or, q, Nat.testBit_two_pow_self]
      · rw [if_neg q, ih]; simp at q; simp [q]
    · have : decide (j < k + 1) = decide (j < k) := by
        by_cases h : j < k
        · simp [h]; omega
        · simp [h]; omega
      rw [this, ← ih]
      split
      · rw [Nat.testBit_or, Nat.testBit_two_pow_of_ne (Ne.symm e)]; simp
      · rfl
theorem msk_bit' (f : Nat → Bool) {q : Nat} (h1 : 1 ≤ q) (h2 : q ≤ 12) : (msk f 12).testBit (q - 1) = f q := by
  rw [msk_bit, decide_eq_true (by omega), Bool.true_and, Nat.sub_add_cancel h1]
section
variable {c : CS} {B : SX1} {cb : Nat}
theorem rungsToLease_ok (h : RC c B) (hw : WF cb c) : m1_rungsToLease B = some (nI (msk (lzS c) 12)) := by
  unfold m1_rungsToLease
  rw [I0, I1]
  exact tit_run (fun i => (nI (msk (lzS c) i), nI (i + 1))) 12 _ (fun rc i hi => by
    have ho := hw.1 (i + 1) (by omega) (by omega)
    have hr := h.1 (i + 1) (by omega) (by omega)
    show m1_rungsToLease_B4 B rc (nI (msk (lzS c) i)) (nI (i + 1)) = rc (nI (if lzS c (i + 1) = true then msk (lzS c) i ||| 2 ^ i else msk (lzS c) i), nI (i + 1 + 1))
    unfold m1_rungsToLease_B4 lzS
    simp (disch := omega) only [I12, I1, I0, nLT, if_neg, isMissing_ok h hw, tbd_some, bI_0, bitOf_in, tnm_eq, nI_add, nOR, Nat.add_sub_cancel, tin_nI, tgd_true, nC, hr.1, hr.2, oc_eq_none]
    cases msS c (i + 1)
    · by_cases e1 : cO c (i + 1) = 0
      · simp [e1]
      · by_cases e2 : cL c (i + 1) = 0
        · simp [e1, e2]
        · simp [e1, e2]
    · simp) (fun rc => by
    show m1_rungsToLease_B4 B rc (nI (msk (lzS c) 12)) (nI 13) = _
    unfold m1_rungsToLease_B4
    simp (disch := omega) only [I12, nLT, if_pos]) FU (FU_gt (by decide))
abbrev cst (op lz : Nat → Bool) (s p : Nat) : Nat := Vp (fM (wL op lz)) 1000000 0 s p
theorem lK_in {T : SX7} {a b p s : Nat} (ha : a < 2147483648) (hb' : b < 2147483648) (hp : p ≤ 12) (hs : s ≤ 4) {V : Nat → Nat} (hV : ∀ q, p < q → q ≤ 13 → g7_settled T q = nI (V q)) (hb : ∀ q, p < q → q ≤ 13 → V q ≤ 1000000) {op lz : Nat → Bool} (h13 : op 13 = true) (ho : ∀ q, 1 ≤ q → q ≤ 13 → a.testBit (q - 1) = op q) (hl : ∀ q, 1 ≤ q → q ≤ 12 → b.testBit (q - 1) = lz q) (x2 x4 : Int32) (rc : Int32 × SX7 → Option (Int32 × SX7)) : tit (m7_leaseCost_L62 T B x2 (nI a) (nI b) x4 (nI p) (nI (min (p + s) 13)) rc) FU (nI 1000000, nI (p + 1)) = rc (nI p + -1, s7_settled T (upd (g7_settled T) p (nI (fo (fM (wL op lz)) 1000000 V p (min s (13 - p)))))) := by
  exact tit_run (fun j => (nI (fo (fM (wL op lz)) 1000000 V p j), nI (p + 1 + j))) (min s (13 - p)) _ (fun rc' j hj => by
    show m7_leaseCost_B62 T B x2 (nI a) (nI b) x4 (nI p) (nI (min (p + s) 13)) rc rc' (nI (fo (fM (wL op lz)) 1000000 V p j)) (nI (p + 1 + j)) = rc' (nI (min (fo (fM (wL op lz)) 1000000 V p j) (V (p + 1 + j) + wL op lz (p + 1 + j))), nI (p + 1 + j + 1))
    have hle := foM_le (w := wL op lz) (z := 1000000) (p := p) (T := V) j
    have hbj := hb (p + 1 + j) (by omega) (by omega)
    generalize fo (fM (wL op lz)) 1000000 V p j = x at hle ⊢
    unfold m7_leaseCost_B62
    simp (disch := omega) only [nLT, if_neg, isOpen_ok ha, isOpen_ok hb', tbd_some, ho, I0, bI_0, I1, nI_add, tnm_eq, settledAt_ok, hV (p + 1 + j), nMIN]
    unfold wL
    cases eo : op (p + 1 + j)
    · have h12 : p + 1 + j ≤ 12 := by
        refine Classical.byContradiction (fun q => ?_)
        rw [show p + 1 + j = 13 by omega, h13] at eo
        cases eo
      have hpw : 2 ^ (p + 1 + j - 1) < 4096 := Nat.pow_lt_pow_right (n := 12) (by decide) (by omega)
      rw [if_pos (show false = false from rfl), hl _ (by omega) h12, if_neg (show ¬ (false = true) by decide)]
      cases lz (p + 1 + j)
      · rw [if_pos (show false = false from rfl), if_neg (show ¬ (false = true) by decide), Nat.min_eq_left (by omega)]
      · rw [if_neg (show ¬ (true = false) by decide), if_pos (show true = true from rfl), bitOf_in (by omega) h12, tbd_some]
        simp (disch := omega) only [I4096, nI_add, nMIN]
        rw [Nat.add_assoc]
    · rw [if_neg (show ¬ (true = false) by decide), if_pos (show true = true from rfl)]
      rfl) (fun rc' => by
    show m7_leaseCost_B62 T B x2 (nI a) (nI b) x4 (nI p) (nI (min (p + s) 13)) rc rc' (nI (fo (fM (wL op lz)) 1000000 V p (min s (13 - p)))) (nI (p + 1 + min s (13 - p))) = _
    unfold m7_leaseCost_B62
    simp (disch := omega) only [nLT, if_pos, tin_nI, tgd_true, tnm_eq, nC]) FU (FU_gt (by omega))
theorem lK_out {a b s : Nat} (ha : a < 2147483648) (hb' : b < 2147483648) (hs : s ≤ 4) {op lz : Nat → Bool} (h13 : op 13 = true) (ho : ∀ q, 1 ≤ q → q ≤ 13 → a.testBit (q - 1) = op q) (hl : ∀ q, 1 ≤ q → q ≤ 12 → b.testBit (q - 1) = lz q) {m : Nat} (hm : m < 6) (h : RC c B) (hw : WF cb c) : ∀ k n (T : SX7), k ≤ 13 → k < n → (∀ q, k ≤ q → q ≤ 13 → g7_settled T q = nI (cst op lz s q)) → ∃ T', tit (m7_leaseCost_L35 B (nI m) (nI a) (nI b) (nI s)) n (nI k + -1, T) = some (nI (cst op lz s (cP c m)), T') := by
  intro k
  induction k with
  | zero =>
    intro n T hk hn hT
    obtain ⟨n, rfl⟩ : ∃ m, n = m + 1 := ⟨n - 1, by omega⟩
    refine ⟨T, ?_⟩
    rw [dn_0]
    show m7_leaseCost_B35 B (nI m) (nI a) (nI b) (nI s) (tit (m7_leaseCost_L35 B (nI m) (nI a) (nI b) (nI s)) n) (-nI 1) T = _
    unfold m7_leaseCost_B35
    have hp := (hw.2.2.1 m hm).2.2.2
    rw [I0, if_pos m1_lt, placeOf_ok h hm, tbd_some, settledAt_ok hp, tbd_some, hT _ (by omega) hp]
  | succ k ih =>
    intro n T hk hn hT
    obtain ⟨n, rfl⟩ : ∃ m, n = m + 1 := ⟨n - 1, by omega⟩
    rw [dn_s]
    have hin := lK_in (T := T) (B := B) ha hb' (show k ≤ 12 by omega) hs (V := cst op lz s) (fun q h1 h2 => hT q (by omega) h2) (fun q h1 h2 => VM_le h2) h13 ho hl (nI m) (nI s) (tit (m7_leaseCost_L35 B (nI m) (nI a) (nI b) (nI s)) n)
    obtain ⟨T', h1⟩ := ih n (s7_settled T (upd (g7_settled T) k (nI (fo (fM (wL op lz)) 1000000 (cst op lz s) k (min s (13 - k)))))) (by omega) (by omega) (fun q h1 h2 => by
      show upd (g7_settled T) k _ q = _
      by_cases e : q = k
      · subst e
        rw [upd_same, ← Vp_rec (by omega)]
      · rw [upd_other e]; exact hT q (by omega) h2)
    refine ⟨T', ?_⟩
    show m7_leaseCost_B35 B (nI m) (nI a) (nI b) (nI s) (tit (m7_leaseCost_L35 B (nI m) (nI a) (nI b) (nI s)) n) (nI k) T = _
    unfold m7_leaseCost_B35
    simp (disch := omega) only [I0, I1, I13, I1000000, nLT, if_neg, nI_add, nMIN, tnm_eq]
    rw [hin, h1]
theorem opS_13 (c : CS) (m S : Nat) : opS c m S 13 = true := rfl
theorem leaseCost_ok (h : RC c B) (hw : WF cb c) {m : Nat} (hm : m < 6) (T : SX7) : ∃ T', m7_leaseCost T B (nI m) = some (nI (cst (opS c m 0) (lzS c) (cS c m) (cP c m)), T') := by
  have hh := hw.2.2.1 m hm
  unfold m7_leaseCost
  rw [rungsOpenTo_ok h hw hm, tbd_some, tnm_eq, rungsToLease_ok h hw, tbd_some, strideOf_ok h hm, tbd_some, I4096, I12, I13, I0, nOR, d12, nC (by decide)]
  exact lK_out (Nat.lt_trans (mo_or_lt c m) (by decide)) (Nat.lt_trans (msk_lt (lzS c) 12) (by decide)) hh.2.1 (opS_13 c m 0) (fun q h1 h2 => open_bit c m h1 h2) (fun q h1 h2 => msk_bit' (lzS c) h1 h2) hm h hw 13 FU _ (by omega) (FU_gt (by decide)) (fun q h1 h2 => by
    obtain rfl : q = 13 := by omega
    show upd (g7_settled T) 13 (nI 0) 13 = _
    rw [upd_same]
    exact congrArg nI (Vp_top (f := fM (wL (opS c m 0) (lzS c))) (z := 1000000) (v := 0) (s := cS c m)).symm)
end
theorem bits_ok {S : Nat} (hS : S < 2147483648) : m10_bits (nI S) = some (nI (pcn S 13)) := by
  unfold m10_bits
  rw [I0]
  exact tit_run (fun i => (nI (pcn S i), nI i)) 13 _ (fun rc i hi => by
    show m10_bits_B4 (nI S) rc (nI (pcn S i)) (nI i) = rc (nI (pcn S i + if S.testBit i = true then 1 else 0), nI (i + 1))
    unfold m10_bits_B4
    simp (disch := omega) only [I13, I1, nLE, if_neg, nSHR, nAND1, nI_add, tnm_eq, Nat.testBit_eq_decide_div_mod_eq]
    by_cases q : S / 2 ^ i % 2 = 1
    · rw [q]; simp
    · rw [show S / 2 ^ i % 2 = 0 by omega]; simp) (fun rc => by
    show m10_bits_B4 (nI S) rc (nI (pcn S 13)) (nI 13) = _
    unfold m10_bits_B4
    simp (disch := omega) only [I13, nLE, if_pos]) FU (FU_gt (by decide))
/-- the least good set, by how many and then by number -/
def fnd (g : Nat → Bool) : Nat → Option Nat
  | 0 => none
  | i + 1 => match fnd g i with
    | none => if g i = true then some i else none
    | some S => if g i = true ∧ pcn i 13 < pcn S 13 then some i else some S
theorem fnd_none {g : Nat → Bool} : ∀ i, fnd g i = none → ∀ x, x < i → g x = false
  | 0, _, x, hx => by omega
  | i + 1, h, x, hx => by
    unfold fnd at h
    cases e : fnd g i with
    | none =>
      rw [e] at h
      dsimp only at h
      by_cases q : g i = true
      · rw [if_pos q] at h; cases h
      · by_cases ex : x = i
        · subst ex; simpa using q
        · exact fnd_none i e x (by omega)
    | some S =>
      rw [e] at h
      dsimp only at h
      split at h <;> cases h
theorem fnd_some {g : Nat → Bool} : ∀ i S, fnd g i = some S → S < i ∧ g S = true ∧ ∀ x, x < i → g x = true → pcn S 13 < pcn x 13 ∨ (pcn S 13 = pcn x 13 ∧ S ≤ x)
  | 0, S, h => by cases h
  | i + 1, S, h => by
    unfold fnd at h
    cases e : fnd g i with
    | none =>
      rw [e] at h
      dsimp only at h
      by_cases q : g i = true
      · rw [if_pos q] at h
        cases h
        refine ⟨by omega, q, fun x hx hg => ?_⟩
        by_cases ex : x = i
        · subst ex; exact Or.inr ⟨rfl, Nat.le_refl _⟩
        · have := fnd_none i e x (by omega)
          rw [this] at hg; cases hg
      · rw [if_neg q] at h; cases h
    | some S' =>
      rw [e] at h
      dsimp only at h
      obtain ⟨a1, a2, a3⟩ := fnd_some i S' e
      by_cases q : g i = true ∧ pcn i 13 < pcn S' 13
      · rw [if_pos q] at h
        cases h
        refine ⟨by omega, q.1, fun x hx hg => ?_⟩
        by_cases ex : x = i
        · subst ex; exact Or.inr ⟨rfl, Nat.le_refl _⟩
        · have := a3 x (by omega) hg
          have := q.2
          omega
      · rw [if_neg q] at h
        cases h
        refine ⟨by omega, a2, fun x hx hg => ?_⟩
        by_cases ex : x = i
        · subst ex
          have : ¬ pcn x 13 < pcn S 13 := fun hh => q ⟨hg, hh⟩
          omega
        · exact a3 x (by omega) hg
theorem clr0 {x y : Nat} : (x ^^^ (x &&& y) = 0) ↔ subB x y := by
  constructor
  · intro h k hk
    have := congrArg (fun z => z.testBit k) h
    simp only [Nat.testBit_xor, Nat.testBit_and, Nat.zero_testBit, hk] at this
    simpa using this
  · intro h
    apply Nat.eq_of_testBit_eq
    intro k
    rw [Nat.testBit_xor, Nat.testBit_and, Nat.zero_testBit]
    cases e : x.testBit k
    · rfl
    · rw [h k e]; rfl
section
variable {c : CS} {B : SX1} {cb : Nat}
def gS (c : CS) (m : Nat) (i : Nat) : Bool := decide (i ^^^ (i &&& msk (lzM c m) 12) = 0) && decide (few (opS c m i) (cS c m) (cP c m) < 1000000)
theorem opX_eq (c : CS) (m S : Nat) : opX (opS c m 0) S = opS c m S := by
  funext q
  unfold opX opS
  rw [Nat.zero_testBit, Bool.or_false]
theorem pcn_1213 {S : Nat} (h : S < 4096) : pcn S 13 = pcn S 12 := by
  show pcn S 12 + _ = _
  rw [if_neg (by rw [Nat.testBit_lt_two_pow h]; decide)]; rfl
theorem lz_M {m r : Nat} (h : lzS c r = true) (ho : opS c m 0 r = false) : lzM c m r = true := by
  unfold lzS at h
  unfold opS mayS at ho
  unfold lzM
  revert h ho
  cases msS c r <;> cases decide (cO c r = 0) <;> cases decide (cO c r = m + 1) <;> cases decide (cL c r = 0) <;> simp
theorem lz_S {m r : Nat} (h : lzM c m r = true) : lzS c r = true := by
  unfold lzM at h
  unfold lzS
  revert h
  cases msS c r <;> cases decide (cO c r = 0) <;> cases decide (cO c r = m + 1) <;> cases decide (cL c r = 0) <;> simp
theorem lease_a {m S : Nat} (hp : cP c m ≤ 13) (hS : S < 4096) (h : gS c m S = true) : cst (opS c m 0) (lzS c) (cS c m) (cP c m) ≤ 4096 * pcn S 13 + S := by
  unfold gS at h
  rw [Bool.and_eq_true] at h
  have h1 := clr0.mp (of_decide_eq_true h.1)
  have h2 : few (opX (opS c m 0) S) (cS c m) (cP c m) < 1000000 := by rw [opX_eq]; exact of_decide_eq_true h.2
  have a := cost_le (lz := lzS c) (opS_13 c m 0) (S := S) (fun q q1 q2 hq => by
    have := h1 _ hq
    rw [msk_bit' _ q1 q2] at this
    exact lz_S this) (13 - cP c m) (cP c m) (by omega) h2
  have b := cr_mono S (12 - cP c m) (12 - (12 - cP c m))
  rw [show 12 - cP c m + (12 - (12 - cP c m)) = 12 by omega, cr_12, lw_eq, Nat.mod_eq_of_lt (show S < 2 ^ 12 from hS), ← pcn_1213 hS] at b
  exact Nat.le_trans a b
theorem lease_b {m : Nat} (hp : cP c m ≤ 13) (h : cst (opS c m 0) (lzS c) (cS c m) (cP c m) < 1000000) : ∃ S, S < 4096 ∧ gS c m S = true ∧ 4096 * pcn S 13 + S = cst (opS c m 0) (lzS c) (cS c m) (cP c m) := by
  obtain ⟨S, a1, a2, a3, a4, a5⟩ := cost_ex (opS_13 c m 0) (13 - cP c m) (cP c m) (by omega) h
  refine ⟨S, a1, ?_, ?_⟩
  · unfold gS
    rw [Bool.and_eq_true]
    refine ⟨decide_eq_true (clr0.mpr (fun k hk => ?_)), decide_eq_true ?_⟩
    · have hk12 : k < 12 := by
        refine Classical.byContradiction (fun q => ?_)
        rw [Nat.testBit_lt_two_pow (Nat.lt_of_lt_of_le a1 (show 2 ^ 12 ≤ 2 ^ k from Nat.pow_le_pow_right (by decide) (by omega)))] at hk
        cases hk
      obtain ⟨b1, b2⟩ := a2 (k + 1) (by omega) hk
      rw [msk_bit, decide_eq_true hk12, Bool.true_and]
      exact lz_M b1 b2
    · rw [opX_eq] at a5
      omega
  · rw [lw_eq, Nat.mod_eq_of_lt (show S < 2 ^ 12 from a1), ← pcn_1213 a1] at a4
    exact a4
theorem lease_none {m : Nat} (hp : cP c m ≤ 13) (h : fnd (gS c m) 4096 = none) : ¬ cst (opS c m 0) (lzS c) (cS c m) (cP c m) < 1000000 := by
  intro hc
  obtain ⟨S, a1, a2, -⟩ := lease_b hp hc
  have := fnd_none 4096 h S a1
  rw [this] at a2
  cases a2
theorem lease_some {m S : Nat} (hp : cP c m ≤ 13) (h : fnd (gS c m) 4096 = some S) : S < 4096 ∧ cst (opS c m 0) (lzS c) (cS c m) (cP c m) = 4096 * pcn S 13 + S ∧ pcn S 13 ≤ 13 := by
  obtain ⟨a1, a2, a3⟩ := fnd_some 4096 S h
  have b := lease_a hp a1 a2
  have d := pcn_n S 13
  obtain ⟨S', e1, e2, e3⟩ := lease_b (m := m) (c := c) hp (by omega)
  have f := a3 S' e1 e2
  refine ⟨a1, ?_, d⟩
  omega
end
