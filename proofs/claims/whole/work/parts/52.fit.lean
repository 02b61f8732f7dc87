/-! trails and sights -/
theorem two_or2 {t q : Nat} (h : 1 ≤ q) : 2 * t ||| 2 ^ q = 2 * (t ||| 2 ^ (q - 1)) := by
  apply Nat.eq_of_testBit_eq
  intro i
  rcases i with _ | i
  · have : 2 ^ q % 2 = 0 := by
      obtain ⟨j, rfl⟩ : ∃ j, q = j + 1 := ⟨q - 1, by omega⟩
      rw [Nat.pow_succ]; omega
    simp [Nat.testBit_zero]
    omega
  · rw [Nat.testBit_or, two_testBit (by omega), two_testBit (by omega), Nat.testBit_or, Nat.testBit_two_pow, Nat.testBit_two_pow]
    have e : (q = i + 1) ↔ (q - 1 = i + 1 - 1) := by omega
    simp only [e]
section
variable {c : CS} {cb : Nat} {B : SX1} {T : SX10}
theorem fE_lt {o : Option Nat} (h : ∀ q, o = some q → 1 ≤ q ∧ q ≤ 13) : (fE o < nI 0) ↔ o.isNone = true := by
  cases o with
  | none => exact ⟨fun _ => rfl, fun _ => by show -nI 6 < nI 0; decide⟩
  | some q =>
    have := h q rfl
    show (nI q < nI 0) ↔ _
    rw [nLT (by omega) (by omega)]
    constructor
    · intro w; omega
    · intro w; cases w
theorem wet_in {code m p : Nat} (h : RM c (g10_now T)) (hw : WF cb c) (hm : m < 6) (hc : code < 60) (hp : p ≤ 12) (x3 : Int32) (rc : Int32 × Int32 × Int32 → Option Int32) : tit (m10_wetOnes_L35 T (nI code) (nI m) x3 (nI p) rc) FU (-nI 6, nI (p + 1)) = m10_wetOnes_J115 T (nI code) (nI m) x3 (nI p) (fE (nxS c m (code % 10) p)) rc := by
  have hh := hw.2.2.1 m hm
  have hst : g10_now T (26 + m) = nI (cS c m) := (h.2.2.1 m hm).1
  exact tit_run (fun j => (fE (tj (code % 10) (opS c m 0) p j), nI (p + 1 + j))) (min (cS c m) (13 - p)) _ (fun rc' j hj => by
    have hlt := fE_lt (o := tj (code % 10) (opS c m 0) p j) (fun q e => by have := tj_rng _ e; omega)
    show m10_wetOnes_B35 T (nI code) (nI m) x3 (nI p) rc rc' (fE (tj (code % 10) (opS c m 0) p j)) (nI (p + 1 + j)) = rc' (fE (if (opS c m 0 (p + 1 + j) && (decide (code % 10 = 0) || (tj (code % 10) (opS c m 0) p j).isNone)) = true then some (p + 1 + j) else tj (code % 10) (opS c m 0) p j), nI (p + 1 + j + 1))
    generalize tj (code % 10) (opS c m 0) p j = o at hlt ⊢
    have hJ : opS c m 0 (p + 1 + j) = true → m10_wetOnes_J76 T (nI code) (nI m) x3 (nI p) (fE o) (nI (p + 1 + j)) rc rc' = rc' (fE (if (opS c m 0 (p + 1 + j) && (decide (code % 10 = 0) || o.isNone)) = true then some (p + 1 + j) else o), nI (p + 1 + j + 1)) := by
      intro ho
      unfold m10_wetOnes_J76 m10_wetOnes_J81 m10_wetOnes_J100 m10_wetOnes_J105
      rw [ho]
      simp (disch := omega) only [I0, I1, I10, n10, if_false, nREM, nEQ, tnm_eq, nI_add, hlt]
      cases q : o.isNone
      · rw [if_neg (by decide)]
        by_cases e : code % 10 = 0
        · rw [if_pos e, decide_eq_true e]; rfl
        · rw [if_neg e, decide_eq_false e]; rfl
      · rw [if_pos rfl]; simp; rfl
    unfold m10_wetOnes_B35
    simp (disch := omega) only [I26, I13, nI_add, tin_nI, tgd_true, nC, hst, nLT, if_neg, nEQ]
    by_cases e : p + 1 + j = 13
    · rw [if_pos e]
      exact hJ (by unfold opS; rw [decide_eq_true e]; simp)
    · have e3 : decide (p + 1 + j = 13) = false := decide_eq_false e
      rw [if_neg e, may_ok h hw hm (by omega) (by omega), tbd_some]
      simp only [I0, bI_0]
      cases e1 : mayS c m (p + 1 + j)
      · have ho : opS c m 0 (p + 1 + j) = false := by unfold opS; rw [e1, e3, Nat.zero_testBit]; rfl
        rw [if_pos rfl, ho]
        unfold m10_wetOnes_J81 m10_wetOnes_J105
        rw [I0, if_pos rfl, tnm_eq, I1, nI_add]
        rfl
      · rw [if_neg (by decide)]
        exact hJ (by unfold opS; rw [e1]; simp)) (fun rc' => by
    show m10_wetOnes_B35 T (nI code) (nI m) x3 (nI p) rc rc' (fE (tj (code % 10) (opS c m 0) p (min (cS c m) (13 - p)))) (nI (p + 1 + min (cS c m) (13 - p))) = _
    unfold m10_wetOnes_B35
    simp (disch := omega) only [I26, I13, nI_add, tin_nI, tgd_true, nC, hst, nLT]
    by_cases e : p + cS c m < p + 1 + min (cS c m) (13 - p)
    · rw [if_pos e]; rfl
    · rw [if_neg e, if_pos (by omega)]; rfl) FU (FU_gt (by omega))
theorem wet_J0 {code m p : Nat} (t : Nat) (rc : Int32 × Int32 × Int32 → Option Int32) : m10_wetOnes_J115 T (nI code) (nI m) (nI (2 * t)) (nI p) (fE none) rc = rc (nI (2 * t), nI p, nI 0) := by
  unfold m10_wetOnes_J115 m10_wetOnes_J125 m10_wetOnes_J139 m10_wetOnes_J161
  have e : fE none = -nI 6 := rfl
  have e2 : -nI 6 ≤ nI 0 := by decide
  simp only [e, I0, I1, e2, if_true, n01, tnm_eq, nOR, Nat.or_zero]
theorem wet_J1 {code m p : Nat} (t q : Nat) (hq : 1 ≤ q ∧ q ≤ 13) (rc : Int32 × Int32 × Int32 → Option Int32) : m10_wetOnes_J115 T (nI code) (nI m) (nI (2 * t)) (nI p) (fE (some q)) rc = rc (nI (2 * (if q ≤ 12 then t ||| 2 ^ (q - 1) else t)), nI q, nI 1) := by
  unfold m10_wetOnes_J115 m10_wetOnes_J125 m10_wetOnes_J139 m10_wetOnes_J161
  have e : fE (some q) = nI q := rfl
  simp (disch := omega) only [e, I0, I1, I13, nLE, if_neg, n10, if_false, tnm_eq, nOR, Nat.or_zero, nSHL1]
  by_cases e2 : q ≤ 12
  · rw [if_neg (by omega), if_pos e2, two_or2 hq.1]
  · rw [if_pos (by omega), if_neg e2]
theorem wet_go {code m : Nat} (h : RM c (g10_now T)) (hw : WF cb c) (hm : m < 6) (hc : code < 60) : ∀ k n p t, 13 ≤ p + k → p ≤ 13 → k + 1 < n → tit (m10_wetOnes_L13 T (nI code) (nI m)) n (nI (2 * t), nI p, nI 1) = some (nI (2 * trS (nxS c m (code % 10)) k p t)) := by
  intro k
  induction k with
  | zero =>
    intro n p t h13 hp hn
    obtain ⟨n, rfl⟩ : ∃ m, n = m + 1 := ⟨n - 1, by omega⟩
    rw [tit_s]
    show m10_wetOnes_B13 T (nI code) (nI m) (tit (m10_wetOnes_L13 T (nI code) (nI m)) n) (nI (2 * t)) (nI p) (nI 1) = _
    unfold m10_wetOnes_B13
    simp (disch := omega) only [I0, I13, n10, if_false, nLE, if_pos]
    rfl
  | succ k ih =>
    intro n p t h13 hp hn
    obtain ⟨n, rfl⟩ : ∃ m, n = m + 1 := ⟨n - 1, by omega⟩
    rw [tit_s]
    show m10_wetOnes_B13 T (nI code) (nI m) (tit (m10_wetOnes_L13 T (nI code) (nI m)) n) (nI (2 * t)) (nI p) (nI 1) = _
    unfold m10_wetOnes_B13
    simp (disch := omega) only [I0, I1, I6, I13, n10, if_false, nLE, tnm_eq, nI_add]
    by_cases e : 13 ≤ p
    · rw [if_pos e, trS_13 e]
    · rw [if_neg e, wet_in h hw hm hc (by omega)]
      cases q : nxS c m (code % 10) p with
      | none =>
        rw [trS_none q, wet_J0]
        obtain ⟨n, rfl⟩ : ∃ m, n = m + 1 := ⟨n - 1, by omega⟩
        rw [tit_s]
        show m10_wetOnes_B13 T (nI code) (nI m) (tit (m10_wetOnes_L13 T (nI code) (nI m)) n) (nI (2 * t)) (nI p) (nI 0) = _
        unfold m10_wetOnes_B13
        rw [I0, if_pos rfl]
      | some r =>
        have hr := nx_rng q
        rw [trS_some e q, wet_J1 t r (by omega)]
        exact ih n r _ (by omega) (by omega) (by omega)
theorem wetOnes_ok {code : Nat} (h : RM c (g10_now T)) (hw : WF cb c) (hc : code < 60) : m10_wetOnes T (nI code) = some (nI (2 * tlS c (code / 10) (code % 10))) := by
  unfold m10_wetOnes
  rw [I10, nDIV (by omega) (by omega) (by omega), tnm_eq, I0, I1]
  exact wet_go h hw (by omega) hc 13 FU 0 0 (by omega) (by omega) (FU_gt (by decide))
end
def fitS (sr : Nat → Nat) (sw : Nat → Bool) (t : Nat) : Nat → Bool
  | 0 => true
  | i + 1 => fitS sr sw t i && (t.testBit (sr i - 1) == sw i)
theorem fitS_iff {sr : Nat → Nat} {sw : Nat → Bool} {t : Nat} : ∀ q, (fitS sr sw t q = true) ↔ ∀ i, i < q → t.testBit (sr i - 1) = sw i
  | 0 => ⟨fun _ i hi => by omega, fun _ => rfl⟩
  | q + 1 => by
    unfold fitS
    rw [Bool.and_eq_true, fitS_iff q]
    constructor
    · rintro ⟨h1, h2⟩ i hi
      by_cases e : i = q
      · subst e; simpa using h2
      · exact h1 i (by omega)
    · intro h
      exact ⟨fun i hi => h i (by omega), by simpa using h q (by omega)⟩
theorem wm_bit {sr : Nat → Nat} {sw : Nat → Bool} {w : Bool} {k : Nat} : ∀ q, ((wm sr sw w q).testBit k = true) ↔ ∃ i, i < q ∧ sw i = w ∧ sr i - 1 = k
  | 0 => by
    constructor
    · intro h
      have : (0 : Nat).testBit k = true := h
      rw [Nat.zero_testBit] at this; cases this
    · rintro ⟨i, h, -⟩; omega
  | q + 1 => by
    have ih := wm_bit (sr := sr) (sw := sw) (w := w) (k := k) q
    unfold wm
    by_cases e : sw q = w
    · rw [if_pos e, Nat.testBit_or, Bool.or_eq_true, ih, Nat.testBit_two_pow, decide_eq_true_eq]
      constructor
      · rintro (⟨i, h1, h2, h3⟩ | h)
        · exact ⟨i, by omega, h2, h3⟩
        · exact ⟨q, by omega, e, h⟩
      · rintro ⟨i, h1, h2, h3⟩
        by_cases ei : i = q
        · subst ei; exact Or.inr h3
        · exact Or.inl ⟨i, by omega, h2, h3⟩
    · rw [if_neg e, ih]
      constructor
      · rintro ⟨i, h1, h2, h3⟩
        exact ⟨i, by omega, h2, h3⟩
      · rintro ⟨i, h1, h2, h3⟩
        have : ¬ i = q := fun w' => e (by rw [← w']; exact h2)
        exact ⟨i, by omega, h2, h3⟩
theorem wm_lt {sr : Nat → Nat} {sw : Nat → Bool} {w : Bool} : ∀ q, (∀ j, j < q → 1 ≤ sr j ∧ sr j ≤ 12) → wm sr sw w q < 4096
  | 0, _ => by show 0 < 4096; omega
  | q + 1, h => by
    have ih := wm_lt (sr := sr) (sw := sw) (w := w) q (fun j hj => h j (by omega))
    have := h q (by omega)
    unfold wm
    split
    · exact Nat.or_lt_two_pow (n := 12) ih (Nat.pow_lt_pow_right (by decide) (by omega))
    · exact ih
theorem fit_iff {sr : Nat → Nat} {sw : Nat → Bool} {t q : Nat} : (fitS sr sw t q = true) ↔ (t &&& wm sr sw true q = wm sr sw true q ∧ t &&& wm sr sw false q = 0) := by
  rw [fitS_iff]
  constructor
  · intro h
    constructor
    · apply Nat.eq_of_testBit_eq
      intro k
      rw [Nat.testBit_and]
      cases e : (wm sr sw true q).testBit k
      · rw [Bool.and_false]
      · obtain ⟨i, h1, h2, h3⟩ := (wm_bit q).mp e
        have := h i h1
        rw [h3, h2] at this
        rw [this]; rfl
    · apply Nat.eq_of_testBit_eq
      intro k
      rw [Nat.testBit_and, Nat.zero_testBit]
      cases e : (wm sr sw false q).testBit k
      · rw [Bool.and_false]
      · obtain ⟨i, h1, h2, h3⟩ := (wm_bit q).mp e
        have := h i h1
        rw [h3, h2] at this
        rw [this]; rfl
  · rintro ⟨h1, h2⟩ i hi
    cases e : sw i
    · have hb : (wm sr sw false q).testBit (sr i - 1) = true := (wm_bit q).mpr ⟨i, hi, e, rfl⟩
      have := congrArg (fun x => x.testBit (sr i - 1)) h2
      simp only [Nat.testBit_and, hb, Nat.zero_testBit, Bool.and_true] at this
      exact this
    · have hb : (wm sr sw true q).testBit (sr i - 1) = true := (wm_bit q).mpr ⟨i, hi, e, rfl⟩
      have := congrArg (fun x => x.testBit (sr i - 1)) h1
      simp only [Nat.testBit_and, hb, Bool.and_true] at this
      exact this
section
variable {c : CS} {cb q : Nat} {B : SX1} {T : SX10} {sr : Nat → Nat} {sw : Nat → Bool}
theorem sightsFit_ok (hs : RSc q sr sw B) (hq : WS q sr) {t : Nat} (ht : t < 4096) : m1_sightsFit B (nI t) = some (bI (fitS sr sw t q)) := by
  have w1 := wm_lt (sw := sw) (w := true) q hq.2
  have w2 := wm_lt (sw := sw) (w := false) q hq.2
  have a1 : t &&& wm sr sw true q < 4096 := Nat.lt_of_le_of_lt Nat.and_le_left ht
  have a2 : t &&& wm sr sw false q < 4096 := Nat.lt_of_le_of_lt Nat.and_le_left ht
  unfold m1_sightsFit
  rw [hs.2.1, hs.2.2, nAND, nAND, I0, I1]
  have hf := fit_iff (sr := sr) (sw := sw) (t := t) (q := q)
  by_cases e1 : t &&& wm sr sw true q = wm sr sw true q
  · rw [if_pos (by rw [e1])]
    by_cases e2 : t &&& wm sr sw false q = 0
    · rw [if_pos (by rw [e2]), hf.mpr ⟨e1, e2⟩]; rfl
    · rw [if_neg (fun w => e2 ((nEQ (by omega) (by omega)).mp w))]
      have : fitS sr sw t q = false := by
        cases w : fitS sr sw t q
        · rfl
        · exact absurd (hf.mp w).2 e2
      rw [this]; rfl
  · rw [if_neg (fun w => e1 ((nEQ (by omega) (by omega)).mp w))]
    have : fitS sr sw t q = false := by
      cases w : fitS sr sw t q
      · rfl
      · exact absurd (hf.mp w).1 e1
    rw [this]; rfl
theorem fitS_mono {t : Nat} (i : Nat) (h : fitS sr sw t i = false) : ∀ d, fitS sr sw t (i + d) = false
  | 0 => h
  | d + 1 => by
    show (fitS sr sw t (i + d) && _) = false
    rw [fitS_mono i h d]; rfl
theorem isFit_go (hs : RSm q sr sw (g10_sight T) (g10_sights T)) (hq : WS q sr) {x1 : Int32} {t : Nat} (ht : t < 4096) (hw1 : m10_wetOnes T x1 = some (nI (2 * t))) : ∀ d n i, i + d = q → d < n → tit (m10_isFit_L16 T x1) n (bI (fitS sr sw t i), nI i) = some (bI (fitS sr sw t q)) := by
  have hq8 := hq.1
  intro d
  induction d with
  | zero =>
    intro n i hi hn
    obtain ⟨n, rfl⟩ : ∃ m, n = m + 1 := ⟨n - 1, by omega⟩
    obtain rfl : i = q := by omega
    rw [tit_s]
    show m10_isFit_B16 T x1 (tit (m10_isFit_L16 T x1) n) (bI (fitS sr sw t i)) (nI i) = _
    unfold m10_isFit_B16
    rw [hs.1, if_pos ((nLE (by omega) (by omega)).mpr (Nat.le_refl _)), tbl_bI, tgd_true]
  | succ d ih =>
    intro n i hi hn
    obtain ⟨n, rfl⟩ : ∃ m, n = m + 1 := ⟨n - 1, by omega⟩
    have hi8 := hs.2 i (by omega)
    have hsr := hq.2 i (by omega)
    rw [tit_s]
    show m10_isFit_B16 T x1 (tit (m10_isFit_L16 T x1) n) (bI (fitS sr sw t i)) (nI i) = _
    unfold m10_isFit_B16 m10_isFit_J63
    rw [hs.1, if_neg (fun w => absurd ((nLE (by omega) (by omega)).mp w) (by omega)), I0]
    cases e : fitS sr sw t i
    · have h0 := fitS_mono i e (d + 1)
      rw [hi] at h0
      rw [if_pos bI_f, tbl_bI, tgd_true, h0]
    · rw [if_neg (by decide), hw1, tbd_some]
      have h1 := ih n (i + 1) (by omega) (by omega)
      have e1 : fitS sr sw t (i + 1) = (t.testBit (sr i - 1) == sw i) := by
        show (fitS sr sw t i && _) = _
        rw [e, Bool.true_and]
      rw [e1] at h1
      simp (disch := omega) only [I1, I2, nMUL, nI_add, tin_nI, tgd_true, nC, hi8.1, hi8.2, has_ok, tbd_some, two_testBit hsr.1, tnm_eq, bI_1]
      rw [← h1]
      cases t.testBit (sr i - 1) <;> cases sw i <;> rfl
theorem isFit_ok {code : Nat} (h : RM c (g10_now T)) (hw : WF cb c) (hs : RSm q sr sw (g10_sight T) (g10_sights T)) (hq : WS q sr) (hc : code < 60) : m10_isFit T (nI code) = some (bI (decide (code % 10 < 2) && fitS sr sw (tlS c (code / 10) (code % 10)) q)) := by
  unfold m10_isFit
  have hq8 := hq.1
  rw [I2, I10, nREM (by omega) (by omega) (by omega), I0, I1]
  by_cases e : 2 ≤ code % 10
  · rw [if_pos ((nLE (by omega) (by omega)).mpr e), decide_eq_false (by omega), Bool.false_and]
    exact tit_run (fun _ => (nI 0, nI 0)) 0 _ (fun rc i hi => absurd hi (by omega)) (fun rc => by
      show m10_isFit_B16 T (nI code) rc (nI 0) (nI 0) = _
      unfold m10_isFit_B16
      rw [hs.1, I0, if_pos rfl, tbl0, tgd_true]
      split <;> rfl) FU (FU_gt (by decide))
  · rw [if_neg (fun w => e ((nLE (by omega) (by omega)).mp w)), decide_eq_true (by omega), Bool.true_and]
    exact isFit_go hs hq (tlS_lt c _ _) (wetOnes_ok h hw hc) q FU 0 (by omega) (FU_gt (by omega))
end
