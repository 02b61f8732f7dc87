/-! leases: the least cost of a way up is the least set -/
def wL (op lz : Nat → Bool) : Nat → Nat := fun q => if op q = true then 0 else if lz q = true then 4096 + 2 ^ (q - 1) else 1000000
def lw (S : Nat) : Nat → Nat
  | 0 => 0
  | k + 1 => lw S k + if S.testBit k = true then 4096 + 2 ^ k else 0
def cr (S : Nat) : Nat → Nat
  | 0 => 0
  | j + 1 => cr S j + if S.testBit (11 - j) = true then 4096 + 2 ^ (11 - j) else 0
theorem lw_eq (S : Nat) : ∀ n, lw S n = 4096 * pcn S n + S % 2 ^ n
  | 0 => by show 0 = 4096 * 0 + S % 1; omega
  | n + 1 => by
    unfold lw pcn
    have e : S.testBit n = decide (S / 2 ^ n % 2 = 1) := Nat.testBit_eq_decide_div_mod_eq
    rw [lw_eq S n, Nat.mod_pow_succ, e]
    by_cases q : S / 2 ^ n % 2 = 1
    · rw [decide_eq_true q, if_pos rfl, if_pos rfl, q]; omega
    · rw [decide_eq_false q, if_neg (by decide), if_neg (by decide), show S / 2 ^ n % 2 = 0 by omega]; omega
theorem cr_12 (S : Nat) : cr S 12 = lw S 12 := by
  simp only [cr, lw]
  simp only [show 11 - 0 = 11 from rfl, show 11 - 1 = 10 from rfl, show 11 - 2 = 9 from rfl, show 11 - 3 = 8 from rfl, show 11 - 4 = 7 from rfl, show 11 - 5 = 6 from rfl, show 11 - 6 = 5 from rfl, show 11 - 7 = 4 from rfl, show 11 - 8 = 3 from rfl, show 11 - 9 = 2 from rfl, show 11 - 10 = 1 from rfl, show 11 - 11 = 0 from rfl]
  omega
theorem cr_mono (S j : Nat) : ∀ d, cr S j ≤ cr S (j + d)
  | 0 => Nat.le_refl _
  | d + 1 => by
    have := cr_mono S j d
    show _ ≤ cr S (j + d) + _
    omega
theorem pcn_n (S : Nat) : ∀ n, pcn S n ≤ n
  | 0 => Nat.le_refl _
  | n + 1 => by
    have := pcn_n S n
    unfold pcn
    split <;> omega
theorem lw_or {S k : Nat} (h : S.testBit k = false) : ∀ n, lw (S ||| 2 ^ k) n = lw S n + if k < n then 4096 + 2 ^ k else 0
  | 0 => by rw [if_neg (by omega)]; rfl
  | n + 1 => by
    unfold lw
    rw [lw_or h n, Nat.testBit_or, Nat.testBit_two_pow]
    by_cases e : k = n
    · subst e
      rw [h, decide_eq_true rfl, if_neg (show ¬ k < k by omega), if_pos (show k < k + 1 by omega)]
      simp
    · rw [decide_eq_false e, Bool.or_false]
      by_cases q : k < n
      · rw [if_pos q, if_pos (show k < n + 1 by omega)]; omega
      · rw [if_neg q, if_neg (show ¬ k < n + 1 by omega)]; omega
theorem fo_mono {w w' : Nat → Nat} {z p : Nat} {T T' : Nat → Nat} : ∀ j, (∀ i, i < j → T' (p + 1 + i) + w' (p + 1 + i) ≤ T (p + 1 + i) + w (p + 1 + i)) → fo (fM w') z T' p j ≤ fo (fM w) z T p j
  | 0, _ => Nat.le_refl _
  | j + 1, h => by
    have ih := fo_mono (w := w) (w' := w') (z := z) (p := p) (T := T) (T' := T') j (fun i hi => h i (by omega))
    have hj := h j (by omega)
    show min (fo (fM w') z T' p j) (T' (p + 1 + j) + w' (p + 1 + j)) ≤ min (fo (fM w) z T p j) (T (p + 1 + j) + w (p + 1 + j))
    omega
theorem few_mono {op op' : Nat → Bool} {s : Nat} (h : ∀ q, op q = true → op' q = true) : ∀ d p, p + d = 13 → few op' s p ≤ few op s p := by
  intro d
  induction d using Nat.strongRecOn with
  | _ d ih =>
    intro p hp
    by_cases e : p = 13
    · subst e; rw [few_top, few_top]; omega
    · unfold few
      rw [Vp_rec (by omega), Vp_rec (by omega)]
      refine fo_mono _ (fun i hi => ?_)
      have a := ih (13 - (p + 1 + i)) (by omega) (p + 1 + i) (by omega)
      have b : wF op' (p + 1 + i) ≤ wF op (p + 1 + i) := by
        unfold wF
        by_cases q : op (p + 1 + i) = true
        · rw [if_pos q, if_pos (h _ q)]; omega
        · rw [if_neg q]; split <;> omega
      unfold few at a
      omega
theorem few_step {op : Nat → Bool} {s p : Nat} (hp : p ≤ 12) (h : few op s p < 1000000) : ∃ i, i < min s (13 - p) ∧ op (p + 1 + i) = true ∧ few op s (p + 1 + i) < 1000000 := by
  unfold few at h ⊢
  rw [Vp_rec hp] at h
  rcases foM_ex (w := wF op) (z := 1000000) (p := p) (T := Vp (fM (wF op)) 1000000 0 s) (min s (13 - p)) with a | ⟨i, hi, a⟩
  · omega
  · refine ⟨i, hi, ?_⟩
    by_cases q : op (p + 1 + i) = true
    · exact ⟨q, by omega⟩
    · have : wF op (p + 1 + i) = 1000000 := by unfold wF; rw [if_neg q]
      omega
theorem few_back {op : Nat → Bool} {s p i : Nat} (hp : p ≤ 12) (hi : i < min s (13 - p)) (h : op (p + 1 + i) = true) : few op s p ≤ few op s (p + 1 + i) + 1 := by
  unfold few
  rw [Vp_rec hp]
  have := foM_at (w := wF op) (z := 1000000) (p := p) (T := Vp (fM (wF op)) 1000000 0 s) _ i hi
  have e : wF op (p + 1 + i) = 1 := by unfold wF; rw [if_pos h]
  omega
section
variable {op lz : Nat → Bool} {s : Nat}
def opX (op : Nat → Bool) (S : Nat) : Nat → Bool := fun q => op q || S.testBit (q - 1)
theorem cost_le (h13 : op 13 = true) {S : Nat} (hS : ∀ q, 1 ≤ q → q ≤ 12 → S.testBit (q - 1) = true → lz q = true) : ∀ d p, p + d = 13 → few (opX op S) s p < 1000000 → Vp (fM (wL op lz)) 1000000 0 s p ≤ cr S (12 - p) := by
  intro d
  induction d using Nat.strongRecOn with
  | _ d ih =>
    intro p hp hf
    by_cases e : p = 13
    · subst e; rw [Vp_top]; omega
    · obtain ⟨i, hi, a1, a2⟩ := few_step (by omega) hf
      have b := ih (13 - (p + 1 + i)) (by omega) (p + 1 + i) (by omega) a2
      rw [Vp_rec (by omega)]
      have c := foM_at (w := wL op lz) (z := 1000000) (p := p) (T := Vp (fM (wL op lz)) 1000000 0 s) _ i hi
      by_cases q : op (p + 1 + i) = true
      · have e0 : wL op lz (p + 1 + i) = 0 := by unfold wL; rw [if_pos q]
        have m := cr_mono S (12 - (p + 1 + i)) (12 - p - (12 - (p + 1 + i)))
        rw [show 12 - (p + 1 + i) + (12 - p - (12 - (p + 1 + i))) = 12 - p by omega] at m
        omega
      · have hn : ¬ p + 1 + i = 13 := fun w => q (by rw [w]; exact h13)
        have hb : S.testBit (p + 1 + i - 1) = true := by
          unfold opX at a1
          rw [Bool.or_eq_true] at a1
          rcases a1 with a1 | a1
          · exact absurd a1 q
          · exact a1
        have hl := hS (p + 1 + i) (by omega) (by omega) hb
        have e0 : wL op lz (p + 1 + i) = 4096 + 2 ^ (p + 1 + i - 1) := by unfold wL; rw [if_neg q, if_pos hl]
        have m := cr_mono S (12 - (p + 1 + i) + 1) (12 - p - (12 - (p + 1 + i) + 1))
        rw [show 12 - (p + 1 + i) + 1 + (12 - p - (12 - (p + 1 + i) + 1)) = 12 - p by omega] at m
        have e1 : cr S (12 - (p + 1 + i) + 1) = cr S (12 - (p + 1 + i)) + (4096 + 2 ^ (p + 1 + i - 1)) := by
          show cr S (12 - (p + 1 + i)) + _ = _
          rw [show 11 - (12 - (p + 1 + i)) = p + 1 + i - 1 by omega, if_pos hb]
        omega
theorem cost_ex (h13 : op 13 = true) : ∀ d p, p + d = 13 → Vp (fM (wL op lz)) 1000000 0 s p < 1000000 → ∃ S, S < 4096 ∧ (∀ q, 1 ≤ q → S.testBit (q - 1) = true → lz q = true ∧ op q = false) ∧ (∀ k, k < p → S.testBit k = false) ∧ lw S 12 = Vp (fM (wL op lz)) 1000000 0 s p ∧ few (opX op S) s p ≤ 13 - p := by
  intro d
  induction d using Nat.strongRecOn with
  | _ d ih =>
    intro p hp hf
    by_cases e : p = 13
    · subst e
      refine ⟨0, by omega, fun q _ h => ?_, fun k _ => Nat.zero_testBit k, ?_, ?_⟩
      · rw [Nat.zero_testBit] at h; cases h
      · rw [Vp_top]; rfl
      · rw [few_top]; omega
    · have hV := Vp_rec (f := fM (wL op lz)) (z := 1000000) (v := 0) (s := s) (show p ≤ 12 by omega)
      rcases foM_ex (w := wL op lz) (z := 1000000) (p := p) (T := Vp (fM (wL op lz)) 1000000 0 s) (min s (13 - p)) with a | ⟨i, hi, a⟩
      · omega
      · obtain ⟨S, b1, b2, b3, b4, b5⟩ := ih (13 - (p + 1 + i)) (by omega) (p + 1 + i) (by omega) (by omega)
        by_cases q : op (p + 1 + i) = true
        · have e0 : wL op lz (p + 1 + i) = 0 := by unfold wL; rw [if_pos q]
          have fb := few_back (op := opX op S) (s := s) (show p ≤ 12 by omega) hi (by unfold opX; rw [q]; rfl)
          exact ⟨S, b1, b2, fun k hk => b3 k (by omega), by omega, by omega⟩
        · by_cases l : lz (p + 1 + i) = true
          · have e0 : wL op lz (p + 1 + i) = 4096 + 2 ^ (p + 1 + i - 1) := by unfold wL; rw [if_neg q, if_pos l]
            have h12 : p + 1 + i - 1 < 12 := by
              refine Classical.byContradiction (fun hh => q ?_)
              rw [show p + 1 + i = 13 by omega]; exact h13
            have hs0 := b3 (p + 1 + i - 1) (by omega)
            have ho := lw_or hs0 12
            rw [if_pos h12] at ho
            have fm := few_mono (op := opX op S) (op' := opX op (S ||| 2 ^ (p + 1 + i - 1))) (s := s) (fun q h => by
              unfold opX at h ⊢
              rw [Nat.testBit_or]
              rw [Bool.or_eq_true] at h
              rcases h with h | h
              · rw [h]; rfl
              · rw [h]; simp) (13 - (p + 1 + i)) (p + 1 + i) (by omega)
            have fb := few_back (op := opX op (S ||| 2 ^ (p + 1 + i - 1))) (s := s) (show p ≤ 12 by omega) hi (by
              unfold opX
              rw [Nat.testBit_or, Nat.testBit_two_pow_self]; simp)
            refine ⟨S ||| 2 ^ (p + 1 + i - 1), Nat.or_lt_two_pow (n := 12) b1 (Nat.pow_lt_pow_right (by decide) h12), fun q' h1 h => ?_, fun k hk => ?_, by omega, by omega⟩
            · rw [Nat.testBit_or, Bool.or_eq_true] at h
              rcases h with h | h
              · exact b2 q' h1 h
              · rw [Nat.testBit_two_pow] at h
                have : q' = p + 1 + i := by have := of_decide_eq_true h; omega
                subst this
                exact ⟨l, by simpa using q⟩
            · rw [Nat.testBit_or, b3 k (by omega), Nat.testBit_two_pow, decide_eq_false (by omega)]; rfl
          · have e0 : wL op lz (p + 1 + i) = 1000000 := by unfold wL; rw [if_neg q, if_neg l]
            omega
end
