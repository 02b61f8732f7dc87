/-! how many can stand: the class -/
theorem bc_t : ∀ a, a < 64 → ∀ b, b < 64 → j6_bitCount_0f7a4 (nI (64 * a + b)) = some (nI (pcn (64 * a + b) 12)) := by decide +kernel
theorem bc_ok {x : Nat} (h : x < 4096) : j6_bitCount_0f7a4 (nI x) = some (nI (pcn x 12)) := by
  have := bc_t (x / 64) (by omega) (x % 64) (by omega)
  rw [show 64 * (x / 64) + x % 64 = x by omega] at this
  exact this
def ru (opn : Nat → Nat) (f fr g : Nat) : Nat → Nat
  | 0 => 0
  | j + 1 => if g.testBit j = true then ru opn f fr g j ||| (opn (f + j) &&& fr) else ru opn f fr g j
theorem ru_lt {opn : Nat → Nat} {f fr g : Nat} (hf : fr < 4096) : ∀ j, ru opn f fr g j < 4096
  | 0 => by show 0 < 4096; omega
  | j + 1 => by
    unfold ru
    split
    · exact Nat.or_lt_two_pow (n := 12) (ru_lt hf j) (Nat.lt_of_le_of_lt Nat.and_le_right hf)
    · exact ru_lt hf j
theorem ru_bit {opn : Nat → Nat} {f fr g k : Nat} : ∀ j, (ru opn f fr g j).testBit k = orB (fun i => g.testBit i && ((opn (f + i)).testBit k && fr.testBit k)) j
  | 0 => Nat.zero_testBit k
  | j + 1 => by
    unfold ru orB
    rw [← ru_bit j]
    by_cases q : g.testBit j = true
    · rw [if_pos q, Nat.testBit_or, Nat.testBit_and, q]; rfl
    · rw [if_neg q]
      simp at q
      rw [q]; simp
def mnF (F : Nat → Nat) (z : Nat) : Nat → Nat
  | 0 => z
  | k + 1 => min (mnF F z k) (F k)
theorem mnF_z {F : Nat → Nat} {z : Nat} : ∀ n, mnF F z n ≤ z
  | 0 => Nat.le_refl _
  | n + 1 => by
    have := mnF_z (F := F) (z := z) n
    show min _ _ ≤ z
    omega
theorem mnF_le {F : Nat → Nat} {z : Nat} : ∀ n k, k < n → mnF F z n ≤ F k
  | 0, k, h => by omega
  | n + 1, k, h => by
    show min (mnF F z n) (F n) ≤ F k
    by_cases e : k = n
    · subst e; omega
    · have := mnF_le (F := F) (z := z) n k (by omega)
      omega
theorem mnF_ex {F : Nat → Nat} {z : Nat} : ∀ n, mnF F z n = z ∨ ∃ k, k < n ∧ mnF F z n = F k
  | 0 => Or.inl rfl
  | n + 1 => by
    have e : mnF F z (n + 1) = min (mnF F z n) (F n) := rfl
    by_cases q : mnF F z n ≤ F n
    · have e2 : mnF F z (n + 1) = mnF F z n := by omega
      rw [e2]
      rcases mnF_ex (F := F) (z := z) n with a | ⟨k, hk, a⟩
      · exact Or.inl a
      · exact Or.inr ⟨k, by omega, a⟩
    · exact Or.inr ⟨n, by omega, by omega⟩
def gF (opn : Nat → Nat) (f fr g : Nat) : Nat := 6 - f - pcn g 12 + pcn (ru opn f fr g (6 - f)) 12
abbrev dmn (opn : Nat → Nat) (f fr : Nat) : Nat := mnF (gF opn f fr) (6 - f) (2 ^ (6 - f))
theorem pcn_b : ∀ k, k < 7 → ∀ g, g < 64 → g < 2 ^ k → pcn g 12 ≤ k := by decide +kernel
theorem pw_le : ∀ f, f < 7 → 2 ^ (6 - f) ≤ 64 := by decide
section
variable {T : SX6} {opn : Nat → Nat}
theorem mF_in {f fr g : Nat} (hT : ∀ m, m < 6 → g6_open T m = nI (opn m)) (hf : f ≤ 6) (hfr : fr < 4096) (hg : g < 64) {x3 x4 : Int32} (rc : Int32 × Int32 → Option Int32) : tit (m6_mostFrom_L34 T (nI f) (nI fr) x3 x4 (nI g) rc) FU (nI 0, nI f) = rc (imin x4 ((x3 - nI (pcn g 12)) + nI (pcn (ru opn f fr g (6 - f)) 12)), nI (g + 1)) := by
  have hlt := ru_lt (opn := opn) (f := f) (g := g) hfr (6 - f)
  exact tit_run (fun j => (nI (ru opn f fr g j), nI (f + j))) (6 - f) _ (fun rc' j hj => by
    show m6_mostFrom_B34 T (nI f) (nI fr) x3 x4 (nI g) rc rc' (nI (ru opn f fr g j)) (nI (f + j)) = rc' (nI (if g.testBit j = true then ru opn f fr g j ||| (opn (f + j) &&& fr) else ru opn f fr g j), nI (f + j + 1))
    unfold m6_mostFrom_B34
    simp (disch := omega) only [I6, I1, I0, nLE, if_neg, nSUB, Nat.add_sub_cancel_left, nSHR, nAND1, nBIT0, tnm_eq, nI_add, tin_nI, tgd_true, nC, hT, nAND, nOR, Nat.and_one_is_mod]
    cases g.testBit j <;> rfl) (fun rc' => by
    show m6_mostFrom_B34 T (nI f) (nI fr) x3 x4 (nI g) rc rc' (nI (ru opn f fr g (6 - f))) (nI (f + (6 - f))) = _
    unfold m6_mostFrom_B34
    simp (disch := omega) only [I6, I1, nLE, if_pos, bc_ok, tbd_some, tnm_eq, nI_add]) FU (FU_gt (by omega))
theorem mostFrom_ok {f fr : Nat} (hT : ∀ m, m < 6 → g6_open T m = nI (opn m)) (hf : f ≤ 6) (hfr : fr < 4096) : m6_mostFrom T (nI f) (nI fr) = some (nI (dmn opn f fr)) := by
  unfold m6_mostFrom
  by_cases h6 : f = 6
  · subst h6
    have e : dmn opn 6 fr = 0 := Nat.le_zero.mp (mnF_z (F := gF opn 6 fr) (z := 6 - 6) (2 ^ (6 - 6)))
    rw [isMan_out (x := nI 6) (Or.inr (by decide)), tbd_some, if_pos (show nI 0 = (0 : Int32) from rfl), e]
    rfl
  rw [isMan_in (show f < 6 by omega), tbd_some, if_neg (show ¬ nI 1 = (0 : Int32) by decide), I6, nSUB hf, tnm_eq, I0]
  have hp := pw_le f (by omega)
  exact tit_run (fun g => (nI (mnF (gF opn f fr) (6 - f) g), nI g)) (2 ^ (6 - f)) _ (fun rc g hg => by
    show m6_mostFrom_B20 T (nI f) (nI fr) (nI (6 - f)) rc (nI (mnF (gF opn f fr) (6 - f) g)) (nI g) = rc (nI (min (mnF (gF opn f fr) (6 - f) g) (gF opn f fr g)), nI (g + 1))
    have h1 := pcn_b (6 - f) (by omega) g (by omega) hg
    have h2 := pcn_n (ru opn f fr g (6 - f)) 12
    have h3 := mnF_z (F := gF opn f fr) (z := 6 - f) g
    unfold m6_mostFrom_B20
    rw [I1, nSHL1 _ (by omega), if_neg (fun q => absurd ((nLE (by omega) (by omega)).mp q) (by omega)), I0, mF_in hT hf hfr (by omega), nSUB h1, nI_add, nMIN (by omega) (by omega)]
    rfl) (fun rc => by
    show m6_mostFrom_B20 T (nI f) (nI fr) (nI (6 - f)) rc (nI (dmn opn f fr)) (nI (2 ^ (6 - f))) = _
    unfold m6_mostFrom_B20
    rw [I1, nSHL1 _ (by omega), if_pos ((nLE (by omega) (by omega)).mpr (Nat.le_refl _))]) FU (FU_gt (by omega))
end
def eS (c : CS) (f fr : Nat) : Nat → Nat → Bool := fun m r => decide (f ≤ m) && (mayS c m r && fr.testBit (r - 1))
def Am (f : Nat) : Nat := 64 - 2 ^ f
theorem Am_bit0 : ∀ f, f < 7 → ∀ k, k < 6 → (Am f).testBit k = decide (f ≤ k) := by decide
theorem Am_lt (f : Nat) : Am f < 64 := by
  have : 0 < 2 ^ f := Nat.pow_pos (by decide)
  unfold Am
  omega
theorem Am_bit {f k : Nat} (hf : f ≤ 6) : (Am f).testBit k = (decide (f ≤ k) && decide (k < 6)) := by
  by_cases h : k < 6
  · rw [Am_bit0 f (by omega) k h, decide_eq_true h, Bool.and_true]
  · rw [decide_eq_false h, Bool.and_false]
    exact Nat.testBit_lt_two_pow (Nat.lt_of_lt_of_le (Am_lt f) (show 2 ^ 6 ≤ 2 ^ k from Nat.pow_le_pow_right (by decide) (by omega)))
theorem Am_pc : ∀ f, f < 7 → pcn (Am f) 6 = 6 - f := by decide
theorem sh_pc : ∀ f, f < 7 → ∀ g, g < 64 → g < 2 ^ (6 - f) → pcn (g <<< f) 6 = pcn g 12 := by decide +kernel
theorem sub_lt {S A : Nat} (h : subB S A) (hA : A < 64) : S < 64 := by
  refine Nat.lt_pow_two_of_testBit (n := 6) S (fun k hk => ?_)
  cases q : S.testBit k
  · rfl
  · have := h k q
    rw [Nat.testBit_lt_two_pow (Nat.lt_of_lt_of_le hA (show 2 ^ 6 ≤ 2 ^ k from Nat.pow_le_pow_right (by decide) (by omega)))] at this
    cases this
section
variable {c : CS}
theorem nr_ru {f fr g : Nat} (hf : f ≤ 6) : ∀ n, n ≤ 12 → nrB (eS c f fr) (g <<< f) n = pcn (ru (fun m => mo c m 12) f fr g (6 - f)) n
  | 0, _ => rfl
  | n + 1, h => by
    unfold nrB pcn
    rw [nr_ru hf n (by omega), ru_bit]
    have e : nbB (eS c f fr) (g <<< f) (n + 1) = orB (fun i => g.testBit i && ((mo c (f + i) 12).testBit n && fr.testBit n)) (6 - f) := by
      rw [Bool.eq_iff_iff, nbB_iff, orB_iff]
      constructor
      · rintro ⟨m, h1, h2, h3⟩
        unfold eS at h3
        simp only [Bool.and_eq_true, decide_eq_true_eq] at h3
        rw [Nat.testBit_shiftLeft, Bool.and_eq_true] at h2
        refine ⟨m - f, by omega, ?_⟩
        rw [show f + (m - f) = m by omega, mo_bit, h2.2, decide_eq_true (show n < 12 by omega), h3.2.1]
        simpa using h3.2.2
      · rintro ⟨i, h1, h2⟩
        rw [mo_bit, decide_eq_true (show n < 12 by omega)] at h2
        simp only [Bool.and_eq_true] at h2
        refine ⟨f + i, by omega, ?_, ?_⟩
        · rw [Nat.testBit_shiftLeft, show f + i - f = i by omega, h2.1]; simp
        · unfold eS
          rw [h2.2.1.2, decide_eq_true (show f ≤ f + i by omega)]
          simpa using h2.2.2
    rw [e]
abbrev nuS (c : CS) (f fr : Nat) : Nat := dmn (fun m => mo c m 12) f fr
theorem nuS_is (c : CS) {f fr : Nat} (hf : f ≤ 6) : isNu (eS c f fr) (Am f) (nuS c f fr) := by
  have hpw := pw_le f (by omega)
  have hpos : 0 < 2 ^ (6 - f) := Nat.pow_pos (by decide)
  have key : ∀ g, g < 2 ^ (6 - f) → gF (fun m => mo c m 12) f fr g + pcn (g <<< f) 6 = pcn (Am f) 6 + nrB (eS c f fr) (g <<< f) 12 := by
    intro g hg
    have h1 := pcn_b (6 - f) (by omega) g (by omega) hg
    rw [sh_pc f (by omega) g (by omega) hg, Am_pc f (by omega), nr_ru hf 12 (by omega)]
    unfold gF
    omega
  have hsub : ∀ g, g < 2 ^ (6 - f) → subB (g <<< f) (Am f) := by
    intro g hg k hk
    rw [Nat.testBit_shiftLeft, Bool.and_eq_true] at hk
    rw [Am_bit hf]
    have : f ≤ k := of_decide_eq_true hk.1
    have h6 : k < 6 := by
      refine Classical.byContradiction (fun q => ?_)
      rw [Nat.testBit_lt_two_pow (Nat.lt_of_lt_of_le hg (Nat.pow_le_pow_right (by decide) (show 6 - f ≤ k - f by omega)))] at hk
      cases hk.2
    rw [decide_eq_true this, decide_eq_true h6]; rfl
  refine isNu_def (fun G hG => ?_) ?_
  · have e : G = (G >>> f) <<< f := by
      apply Nat.eq_of_testBit_eq
      intro k
      rw [Nat.testBit_shiftLeft, Nat.testBit_shiftRight]
      by_cases q : f ≤ k
      · rw [decide_eq_true (show k ≥ f from q), Bool.true_and, show f + (k - f) = k by omega]
      · rw [decide_eq_false (show ¬ k ≥ f from q), Bool.false_and]
        cases w : G.testBit k
        · rfl
        · have := hG k w
          rw [Am_bit hf, decide_eq_false q] at this
          cases this
    have hg : G >>> f < 2 ^ (6 - f) := by
      have hl := sub_lt hG (Am_lt f)
      rw [Nat.shiftRight_eq_div_pow]
      refine Nat.div_lt_of_lt_mul ?_
      rw [← Nat.pow_add, show f + (6 - f) = 6 by omega]
      exact hl
    have k1 := key _ hg
    have k2 := mnF_le (F := gF (fun m => mo c m 12) f fr) (z := 6 - f) (2 ^ (6 - f)) _ hg
    rw [← e] at k1
    show mnF (gF (fun m => mo c m 12) f fr) (6 - f) (2 ^ (6 - f)) + _ ≤ _
    omega
  · rcases mnF_ex (F := gF (fun m => mo c m 12) f fr) (z := 6 - f) (2 ^ (6 - f)) with a | ⟨g, hg, a⟩
    · refine ⟨0, (fun k hk => by rw [Nat.zero_testBit] at hk; cases hk), ?_⟩
      show mnF (gF (fun m => mo c m 12) f fr) (6 - f) (2 ^ (6 - f)) + _ = _
      have k1 := key 0 hpos
      rw [Nat.zero_shiftLeft] at k1
      have e0 : nrB (eS c f fr) 0 12 = 0 := by
        have := nr_ru (c := c) (f := f) (fr := fr) (g := 0) hf 12 (by omega)
        rw [Nat.zero_shiftLeft] at this
        rw [this]
        have z : ∀ j, ru (fun m => mo c m 12) f fr 0 j = 0 := by
          intro j
          induction j with
          | zero => rfl
          | succ j ih => unfold ru; rw [Nat.zero_testBit, if_neg (by decide)]; exact ih
        rw [z]; rfl
      rw [a, e0, Am_pc f (by omega)]
      have : pcn 0 6 = 0 := rfl
      omega
    · refine ⟨g <<< f, hsub g hg, ?_⟩
      show mnF (gF (fun m => mo c m 12) f fr) (6 - f) (2 ^ (6 - f)) + _ = _
      rw [a]
      exact key g hg
end
