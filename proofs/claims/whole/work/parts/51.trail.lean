/-! trails: who went up how -/
def opP (c : CS) (m q : Nat) : Bool := decide (q ≤ 13) && opS c m 0 q
def qq (mn s p i : Nat) : Nat := if mn = 0 then p + (s - i) else p + (i + 1)
def tj (mn : Nat) (op : Nat → Bool) (p : Nat) : Nat → Option Nat
  | 0 => none
  | j + 1 => if (op (p + 1 + j) && (decide (mn = 0) || (tj mn op p j).isNone)) = true then some (p + 1 + j) else tj mn op p j
theorem tj_none {mn : Nat} {op : Nat → Bool} {p : Nat} : ∀ N, (∀ i, i < N → op (p + 1 + i) = false) → tj mn op p N = none
  | 0, _ => rfl
  | N + 1, h => by
    unfold tj
    rw [h N (by omega), Bool.false_and, if_neg (by decide)]
    exact tj_none N (fun i hi => h i (by omega))
theorem tj_far {op : Nat → Bool} {p i : Nat} (ho : op (p + 1 + i) = true) : ∀ N, i < N → (∀ j, i < j → j < N → op (p + 1 + j) = false) → tj 0 op p N = some (p + 1 + i)
  | 0, h, _ => by omega
  | N + 1, h, g => by
    unfold tj
    by_cases e : i = N
    · subst e; rw [ho]; rfl
    · rw [g N (by omega) (by omega), Bool.false_and, if_neg (by decide)]
      exact tj_far ho N (by omega) (fun j h1 h2 => g j h1 (by omega))
theorem tj_near {mn : Nat} (hmn : ¬ mn = 0) {op : Nat → Bool} {p i : Nat} (ho : op (p + 1 + i) = true) (hb : ∀ j, j < i → op (p + 1 + j) = false) : ∀ N, i < N → tj mn op p N = some (p + 1 + i)
  | 0, h => by omega
  | N + 1, h => by
    unfold tj
    by_cases e : i = N
    · subst e
      rw [tj_none (mn := mn) i hb, ho]
      simp
    · rw [tj_near hmn ho hb N (by omega), decide_eq_false hmn]
      simp
def nxS (c : CS) (m mn p : Nat) : Option Nat := tj mn (opS c m 0) p (min (cS c m) (13 - p))
def nxC (c : CS) (m mn p : Nat) : Option Nat := match srch (fun i => opP c m (qq mn (cS c m) p i)) 0 (cS c m) with
  | some i => some (qq mn (cS c m) p i)
  | none => none
theorem opP_iff {c : CS} {m q : Nat} : (opP c m q = true) ↔ q ≤ 13 ∧ opS c m 0 q = true := by
  unfold opP; rw [Bool.and_eq_true, decide_eq_true_eq]
theorem nx_eq (c : CS) (m mn p : Nat) (hp : p ≤ 12) : nxS c m mn p = nxC c m mn p := by
  have cl : ∀ q, q ≤ 13 → opP c m q = false → opS c m 0 q = false := by
    intro q h1 h2
    cases e : opS c m 0 q
    · rfl
    · rw [opP_iff.mpr ⟨h1, e⟩] at h2; cases h2
  unfold nxS nxC
  by_cases e : mn = 0
  · subst e
    cases q : srch (fun i => opP c m (qq 0 (cS c m) p i)) 0 (cS c m) with
    | none =>
      refine tj_none _ (fun i hi => ?_)
      have h0 := srch_none q (cS c m - 1 - i) (by omega) (by omega)
      unfold qq at h0
      rw [if_pos rfl, show p + (cS c m - (cS c m - 1 - i)) = p + 1 + i by omega] at h0
      exact cl _ (by omega) h0
    | some i =>
      obtain ⟨-, h2, h3, h4⟩ := srch_some q
      dsimp only at h3 h4 ⊢
      unfold qq at h3 ⊢
      rw [if_pos rfl] at h3 ⊢
      rw [opP_iff] at h3
      rw [show p + (cS c m - i) = p + 1 + (cS c m - i - 1) by omega] at h3 ⊢
      refine tj_far h3.2 _ (by omega) (fun j h5 h6 => ?_)
      have h0 := h4 (cS c m - 1 - j) (by omega) (by omega)
      unfold qq at h0
      rw [if_pos rfl, show p + (cS c m - (cS c m - 1 - j)) = p + 1 + j by omega] at h0
      exact cl _ (by omega) h0
  · cases q : srch (fun i => opP c m (qq mn (cS c m) p i)) 0 (cS c m) with
    | none =>
      refine tj_none _ (fun i hi => ?_)
      have h0 := srch_none q i (by omega) (by omega)
      unfold qq at h0
      rw [if_neg e, show p + (i + 1) = p + 1 + i by omega] at h0
      exact cl _ (by omega) h0
    | some i =>
      obtain ⟨-, h2, h3, h4⟩ := srch_some q
      dsimp only at h3 h4 ⊢
      unfold qq at h3 ⊢
      rw [if_neg e] at h3 ⊢
      rw [opP_iff] at h3
      rw [show p + (i + 1) = p + 1 + i by omega] at h3 ⊢
      refine tj_near e h3.2 (fun j h5 => ?_) _ (by omega)
      have h0 := h4 j (by omega) (by omega)
      unfold qq at h0
      rw [if_neg e, show p + (j + 1) = p + 1 + j by omega] at h0
      exact cl _ (by omega) h0
theorem tj_rng {mn : Nat} {op : Nat → Bool} {p q : Nat} : ∀ N, tj mn op p N = some q → p + 1 ≤ q ∧ q ≤ p + N
  | 0, h => by cases h
  | N + 1, h => by
    unfold tj at h
    split at h
    · cases h; omega
    · have := tj_rng N h; omega
theorem nx_rng {c : CS} {m mn p q : Nat} (h : nxS c m mn p = some q) : p + 1 ≤ q ∧ q ≤ 13 := by
  have := tj_rng _ h
  omega
def trS (nx : Nat → Option Nat) : Nat → Nat → Nat → Nat
  | 0, _, t => t
  | k + 1, p, t => if 13 ≤ p then t else match nx p with
    | none => t
    | some q => trS nx k q (if q ≤ 12 then t ||| 2 ^ (q - 1) else t)
def tlS (c : CS) (m mn : Nat) : Nat := trS (nxS c m mn) 13 0 0
theorem trS_lt {c : CS} {m mn : Nat} : ∀ k p t, t < 4096 → trS (nxS c m mn) k p t < 4096
  | 0, p, t, h => h
  | k + 1, p, t, h => by
    unfold trS
    split
    · exact h
    · split
      · exact h
      · rename_i q hq
        have hr := nx_rng hq
        refine trS_lt k q _ ?_
        split
        · exact Nat.or_lt_two_pow (n := 12) h (Nat.pow_lt_pow_right (by decide) (by omega))
        · exact h
theorem tlS_lt (c : CS) (m mn : Nat) : tlS c m mn < 4096 := trS_lt 13 0 0 (by omega)
theorem trS_13 {nx : Nat → Option Nat} {k p t : Nat} (h : 13 ≤ p) : trS nx k p t = t := by
  cases k with
  | zero => rfl
  | succ k => unfold trS; rw [if_pos h]
theorem trS_none {nx : Nat → Option Nat} {k p t : Nat} (e : nx p = none) : trS nx k p t = t := by
  cases k with
  | zero => rfl
  | succ k =>
    unfold trS
    rw [e]
    split <;> rfl
theorem trS_some {nx : Nat → Option Nat} {k p q t : Nat} (h : ¬ 13 ≤ p) (e : nx p = some q) : trS nx (k + 1) p t = trS nx k q (if q ≤ 12 then t ||| 2 ^ (q - 1) else t) := by
  show (if 13 ≤ p then t else match nx p with
    | none => t
    | some q => trS nx k q (if q ≤ 12 then t ||| 2 ^ (q - 1) else t)) = _
  rw [if_neg h, e]
section
variable {c : CS} {B : SX1} {cb : Nat}
theorem mayBeOn_out {m q : Nat} (h : 12 < q) (hq : q < 100) : m1_mayBeOn B (nI m) (nI q) = some (nI 0) := by
  unfold m1_mayBeOn
  simp (disch := omega) only [I0, I1, I12, nLT, if_neg, if_pos]
theorem nP_J {m mn s p q : Nat} (h : RC c B) (hw : WF cb c) (hm : m < 6) (h1 : 1 ≤ q) (hq : q < 100) (x2 x3 x4 x5 y0 y1 : Int32) (hy : y0 + y1 = nI q) (rc : Int32 → Option Int32) : m8_nextPlace_J34 B (nI m) x2 x3 x4 x5 y0 y1 rc = if opP c m q = true then some (nI q) else rc (x5 + nI 1) := by
  unfold m8_nextPlace_J34
  rw [tnm_eq, hy, I13, I1]
  by_cases e : q = 13
  · rw [if_pos (by rw [e]), if_pos (by rw [e]; rfl)]
  · rw [if_neg (fun w => e ((nEQ (by omega) (by omega)).mp w))]
    by_cases e2 : q ≤ 12
    · rw [mayBeOn_ok h hw hm h1 e2, tbd_some, I0]
      have ep : opP c m q = mayS c m q := by
        unfold opP opS
        rw [decide_eq_true (by omega), decide_eq_false e, Nat.zero_testBit]; simp
      rw [ep]
      simp only [bI_0]
      cases mayS c m q <;> rfl
    · rw [mayBeOn_out (by omega) hq, tbd_some, I0, if_pos rfl, if_neg]
      · rfl
      · rw [opP_iff]; omega
theorem nextPlace_ok {m mn p : Nat} (h : RC c B) (hw : WF cb c) (hm : m < 6) (hmn : mn < 2) (hp : p ≤ 12) : m8_nextPlace B (nI m) (nI mn) (nI p) = some (nI (match nxS c m mn p with
    | some q => q
    | none => p)) := by
  have hs := hw.2.2.1 m hm
  unfold m8_nextPlace
  rw [strideOf_ok h hm, tbd_some, I1]
  have key := tit_srch (F := m8_nextPlace_L10 B (nI m) (nI mn) (nI p) (nI (cS c m))) (fun i => nI (i + 1)) (fun i => opP c m (qq mn (cS c m) p i)) (cS c m) (fun i => some (nI (qq mn (cS c m) p i))) (some (nI p)) (fun rc i hi => by
    show m8_nextPlace_B10 B (nI m) (nI mn) (nI p) (nI (cS c m)) rc (nI (i + 1)) = if opP c m (qq mn (cS c m) p i) = true then some (nI (qq mn (cS c m) p i)) else rc (nI (i + 1 + 1))
    unfold m8_nextPlace_B10
    rw [if_neg (fun w => absurd ((nLT (by omega) (by omega)).mp w) (by omega)), I0, I1, nI_add]
    by_cases e : mn = 0
    · rw [if_pos (by rw [e])]
      rw [nP_J (q := qq mn (cS c m) p i) (mn := mn) (s := cS c m) (p := p) h hw hm (by unfold qq; rw [if_pos e]; omega) (by unfold qq; rw [if_pos e]; omega)]
      · rw [nI_add]
      · rw [nSUB (by omega), nI_add]
        unfold qq
        rw [if_pos e]
        congr 1
        omega
    · rw [if_neg (fun w => e ((nEQ (by omega) (by omega)).mp w))]
      rw [nP_J (q := qq mn (cS c m) p i) (mn := mn) (s := cS c m) (p := p) h hw hm (by unfold qq; rw [if_neg e]; omega) (by unfold qq; rw [if_neg e]; omega)]
      · rw [nI_add]
      · rw [nI_add]
        unfold qq
        rw [if_neg e]) (fun rc => by
    show m8_nextPlace_B10 B (nI m) (nI mn) (nI p) (nI (cS c m)) rc (nI (cS c m + 1)) = _
    unfold m8_nextPlace_B10
    rw [if_pos ((nLT (by omega) (by omega)).mpr (by omega))]) (cS c m) FU 0 (by omega) (FU_gt (by omega))
  rw [show nI 1 = nI (0 + 1) from rfl, key, nx_eq c m mn p hp]
  unfold nxC
  cases srch (fun i => opP c m (qq mn (cS c m) p i)) 0 (cS c m) <;> rfl
theorem bitOf_13 : m9_bitOf (nI 13) = some (nI 0) := by decide
theorem trail_go {m mn : Nat} (h : RC c B) (hw : WF cb c) (hm : m < 6) (hmn : mn < 2) : ∀ k n p t, k ≤ 13 → p ≤ 13 → k < n → tit (m8_trailOf_L8 B (nI m) (nI mn)) n (nI t, nI p, nI (13 - k)) = some (nI (trS (nxS c m mn) k p t)) := by
  intro k
  induction k with
  | zero =>
    intro n p t _ hp hn
    obtain ⟨n, rfl⟩ : ∃ m, n = m + 1 := ⟨n - 1, by omega⟩
    rw [tit_s]
    show m8_trailOf_B8 B (nI m) (nI mn) (tit (m8_trailOf_L8 B (nI m) (nI mn)) n) (nI t) (nI p) (nI 13) = _
    unfold m8_trailOf_B8
    simp (disch := omega) only [I13, nLE, if_pos]
    rfl
  | succ k ih =>
    intro n p t hk hp hn
    obtain ⟨n, rfl⟩ : ∃ m, n = m + 1 := ⟨n - 1, by omega⟩
    rw [tit_s]
    show m8_trailOf_B8 B (nI m) (nI mn) (tit (m8_trailOf_L8 B (nI m) (nI mn)) n) (nI t) (nI p) (nI (13 - (k + 1))) = _
    unfold m8_trailOf_B8
    simp (disch := omega) only [I13, I1, nLE, if_neg]
    by_cases e : 13 ≤ p
    · rw [if_pos e, trS_13 e]
    · rw [if_neg e, nextPlace_ok h hw hm hmn (by omega), tbd_some]
      cases q : nxS c m mn p with
      | none =>
        dsimp only
        rw [if_pos rfl, trS_none q]
      | some r =>
        have hr := nx_rng q
        dsimp only
        rw [if_neg (fun w => absurd ((nEQ (by omega) (by omega)).mp w) (by omega)), trS_some e q]
        by_cases e2 : r ≤ 12
        · rw [bitOf_in (by omega) e2, tbd_some, tnm_eq, tnm_eq, nOR, nI_add, show 13 - (k + 1) + 1 = 13 - k by omega, ih n r _ (by omega) (by omega) (by omega), if_pos e2]
        · rw [show r = 13 by omega, bitOf_13, tbd_some, tnm_eq, tnm_eq, nOR, nI_add, show 13 - (k + 1) + 1 = 13 - k by omega, Nat.or_zero, ih n 13 _ (by omega) (by omega) (by omega), if_neg (by omega)]
theorem trailOf_ok {m mn : Nat} (h : RC c B) (hw : WF cb c) (hm : m < 6) (hmn : mn < 2) : m8_trailOf B (nI m) (nI mn) = some (nI (tlS c m mn)) := by
  unfold m8_trailOf
  rw [I0]
  exact trail_go h hw hm hmn 13 FU 0 0 (by omega) (by omega) (FU_gt (by decide))
end
