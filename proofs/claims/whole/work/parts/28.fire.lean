/-! fires: both sides tell the same -/
section
variable {n : Nat} {sg : Nat → Nat}
theorem sgn_in {i : Nat} (h : i < n) : sgn n sg i = sg i := if_pos h
theorem sgn_out {i : Nat} (h : n ≤ i) : sgn n sg i = 0 := if_neg (by omega)
theorem fm_s {i st : Nat} (h : i < n) : fm sg (n - i) i st = match stepA st (sg i) with
    | none => some i
    | some t => fm sg (n - (i + 1)) (i + 1) t := by
  obtain ⟨j, hj⟩ : ∃ j, n - i = j + 1 := ⟨n - i - 1, by omega⟩
  have : n - (i + 1) = j := by omega
  rw [hj, this]; rfl
theorem fm_e {i st : Nat} (h : i = n) : fm sg (n - i) i st = if st = 0 then none else some i := by
  have : n - i = 0 := by omega
  rw [this]; rfl
theorem ff_fm : ∀ (k i : Nat), i ≤ n → n - i ≤ k → ff n sg k i = fm sg (n - i) i 0 := by
  intro k
  induction k with
  | zero =>
    intro i hi hk
    rw [fm_e (by omega)]
    rfl
  | succ k ih =>
    intro i hi hk
    by_cases hin : n ≤ i
    · have : i = n := by omega
      rw [fm_e this]
      unfold ff
      rw [if_pos hin]; rfl
    · have hlt : i < n := by omega
      have e0 : sgn n sg i = sg i := sgn_in hlt
      rw [fm_s hlt]
      unfold ff
      rw [if_neg hin]
      by_cases a46 : sg i = 46
      · have hE : endS n sg i = i + 1 := by unfold endS; rw [e0, a46]; rfl
        have hW : wrS n sg i = none := by unfold wrS; rw [e0, if_pos a46]
        rw [hW, hE, a46]
        exact ih (i + 1) (by omega) (by omega)
      · cases hN : needS (sg i) with
        | false =>
          have hW : wrS n sg i = some i := by unfold wrS; rw [e0, if_neg a46, if_pos hN]
          have hA : stepA 0 (sg i) = none := by
            unfold needS at hN
            unfold stepA
            simp only [Bool.or_eq_false_iff, decide_eq_false_iff_not] at hN
            simp [hN.1.1, hN.1.2, hN.2, a46]
          rw [hW, hA]
        | true =>
          cases hM : isM (sg i) with
          | false =>
            have hk2 : sg i = 107 ∨ sg i = 43 := by
              unfold needS at hN
              simp only [hM, Bool.false_or, Bool.or_eq_true, decide_eq_true_eq] at hN
              exact hN
            have hE : endS n sg i = i + 2 := by unfold endS; rw [e0, if_pos hN, if_neg (by rw [hM]; simp)]
            have hA : stepA 0 (sg i) = some 2 := by unfold stepA; simp [hM, hk2]
            have hO : okLast n sg i = isR (sgn n sg (i + 1)) := by unfold okLast; rw [hE, e0, hM]; simp
            rw [hA]
            by_cases h1 : i + 1 < n
            · rw [sgn_in h1] at hO
              show _ = fm sg (n - (i + 1)) (i + 1) 2
              rw [fm_s h1]
              cases hR : isR (sg (i + 1)) with
              | true =>
                have hW : wrS n sg i = none := by unfold wrS; rw [e0, if_neg a46, if_neg (by rw [hN]; simp), if_pos (by rw [hO, hR])]
                have hA2 : stepA 2 (sg (i + 1)) = some 0 := by unfold stepA; simp [hR]
                rw [hW, hE, hA2]
                exact ih (i + 2) (by omega) (by omega)
              | false =>
                have hW : wrS n sg i = some (i + 1) := by unfold wrS; rw [e0, if_neg a46, if_neg (by rw [hN]; simp), if_neg (by rw [hO, hR]; simp), hE]; rfl
                have hA2 : stepA 2 (sg (i + 1)) = none := by unfold stepA; simp [hR]
                rw [hW, hA2]
            · rw [sgn_out (by omega)] at hO
              have hW : wrS n sg i = some (i + 1) := by unfold wrS; rw [e0, if_neg a46, if_neg (by rw [hN]; simp), if_neg (by rw [hO]; decide), hE]; rfl
              show _ = fm sg (n - (i + 1)) (i + 1) 2
              rw [hW, fm_e (by omega)]; rfl
          | true =>
            have hA : stepA 0 (sg i) = some 1 := by unfold stepA; simp [hM]
            rw [hA]
            show _ = fm sg (n - (i + 1)) (i + 1) 1
            by_cases h1 : i + 1 < n
            · rw [fm_s h1]
              have e1 : sgn n sg (i + 1) = sg (i + 1) := sgn_in h1
              by_cases h37 : sg (i + 1) = 37
              · have hE : endS n sg i = i + 3 := by unfold endS; rw [e0, if_pos hN, if_pos ⟨by rw [e1, h37], hM⟩]
                have hA1 : stepA 1 (sg (i + 1)) = some 2 := by rw [h37]; rfl
                have hO : okLast n sg i = isR (sgn n sg (i + 2)) := by unfold okLast; rw [hE, e0, hM]; simp
                rw [hA1]
                show _ = fm sg (n - (i + 1 + 1)) (i + 1 + 1) 2
                by_cases h2 : i + 2 < n
                · rw [sgn_in h2] at hO
                  rw [fm_s h2]
                  cases hR : isR (sg (i + 2)) with
                  | true =>
                    have hW : wrS n sg i = none := by unfold wrS; rw [e0, if_neg a46, if_neg (by rw [hN]; simp), if_pos (by rw [hO, hR])]
                    have hA2 : stepA 2 (sg (i + 1 + 1)) = some 0 := by unfold stepA; simp [hR]
                    rw [hW, hE, hA2]
                    exact ih (i + 3) (by omega) (by omega)
                  | false =>
                    have hW : wrS n sg i = some (i + 2) := by unfold wrS; rw [e0, if_neg a46, if_neg (by rw [hN]; simp), if_neg (by rw [hO, hR]; simp), hE]; rfl
                    have hA2 : stepA 2 (sg (i + 1 + 1)) = none := by unfold stepA; simp [hR]
                    rw [hW, hA2]
                · rw [sgn_out (by omega)] at hO
                  have hW : wrS n sg i = some (i + 2) := by unfold wrS; rw [e0, if_neg a46, if_neg (by rw [hN]; simp), if_neg (by rw [hO]; decide), hE]; rfl
                  rw [hW, fm_e (by omega)]; rfl
              · have hE : endS n sg i = i + 2 := by unfold endS; rw [e0, if_pos hN, if_neg (by rw [e1]; exact fun q => h37 q.1)]
                have hO : okLast n sg i = (isR (sg (i + 1)) || isE (sg (i + 1))) := by unfold okLast; rw [hE, e0, hM]; simp [e1]
                cases hR : okLast n sg i with
                | true =>
                  have hW : wrS n sg i = none := by unfold wrS; rw [e0, if_neg a46, if_neg (by rw [hN]; simp), if_pos hR]
                  have hA1 : stepA 1 (sg (i + 1)) = some 0 := by
                    rw [hO] at hR
                    unfold isE at hR
                    simp only [Bool.or_eq_true, decide_eq_true_eq] at hR
                    unfold stepA; simp [hR]
                  rw [hW, hE, hA1]
                  exact ih (i + 2) (by omega) (by omega)
                | false =>
                  have hW : wrS n sg i = some (i + 1) := by unfold wrS; rw [e0, if_neg a46, if_neg (by rw [hN]; simp), if_neg (by rw [hR]; simp), hE]; rfl
                  have hA1 : stepA 1 (sg (i + 1)) = none := by
                    rw [hO] at hR
                    unfold isE at hR
                    simp only [Bool.or_eq_false_iff, decide_eq_false_iff_not] at hR
                    unfold stepA; simp [hR, h37]
                  rw [hW, hA1]
            · have hE : endS n sg i = i + 2 := by unfold endS; rw [e0, if_pos hN, if_neg (by rw [sgn_out (by omega)]; simp)]
              have hO : okLast n sg i = false := by unfold okLast; rw [hE]; simp only [Nat.add_sub_cancel]; rw [show i + 2 - 1 = i + 1 from rfl, sgn_out (by omega : n ≤ i + 1)]; simp [isR, isE]
              have hW : wrS n sg i = some (i + 1) := by unfold wrS; rw [e0, if_neg a46, if_neg (by rw [hN]; simp), if_neg (by rw [hO]; simp), hE]; rfl
              rw [hW, fm_e (by omega)]; rfl
theorem ff_step {k i : Nat} (hi : i < n) (h : ff n sg (k + 1) i = none) : wrS n sg i = none ∧ ff n sg k (endS n sg i) = none := by
  unfold ff at h
  rw [if_neg (by omega)] at h
  cases hw : wrS n sg i with
  | some w => rw [hw] at h; cases h
  | none => rw [hw] at h; exact ⟨rfl, h⟩
theorem wa0 {m p : Nat} (h : m < 6) (hp : p ≤ 13) : WA (0, m, p) := ⟨by omega, fun _ => ⟨h, hp⟩, fun q => absurd (show (0 : Nat) = 1 from q) (by decide), fun q => absurd (show (0 : Nat) = 2 ∨ (0 : Nat) = 3 from q) (by decide)⟩
theorem wa1 {m p : Nat} (h : m < 6) (hp : 1 ≤ p ∧ p ≤ 12) : WA (1, m, p) := ⟨by omega, fun q => absurd (show (1 : Nat) = 0 from q) (by decide), fun _ => ⟨h, hp⟩, fun q => absurd (show (1 : Nat) = 2 ∨ (1 : Nat) = 3 from q) (by decide)⟩
theorem wa2 {m p : Nat} (hp : 1 ≤ p ∧ p ≤ 12) : WA (2, m, p) := ⟨by omega, fun q => absurd (show (2 : Nat) = 0 from q) (by decide), fun q => absurd (show (2 : Nat) = 1 from q) (by decide), fun _ => hp⟩
theorem wa3 {m p : Nat} (hp : 1 ≤ p ∧ p ≤ 12) : WA (3, m, p) := ⟨by omega, fun q => absurd (show (3 : Nat) = 0 from q) (by decide), fun q => absurd (show (3 : Nat) = 1 from q) (by decide), fun _ => hp⟩
theorem wa4 {m p : Nat} : WA (4, m, p) := ⟨by omega, fun q => absurd (show (4 : Nat) = 0 from q) (by decide), fun q => absurd (show (4 : Nat) = 1 from q) (by decide), fun q => absurd (show (4 : Nat) = 2 ∨ (4 : Nat) = 3 from q) (by decide)⟩
/-- an act without fault: its signs are there -/
theorem act_valid (hw : WP n sg) {i : Nat} (hi : i < n) (h : wrS n sg i = none) : endS n sg i ≤ n ∧ WA (actS n sg i) ∧ (sg i = 46 ∨ sg i = 107 ∨ sg i = 43 ∨ (65 ≤ sg i ∧ sg i ≤ 70)) := by
  have e0 : sgn n sg i = sg i := sgn_in hi
  unfold wrS at h
  rw [e0] at h
  by_cases a46 : sg i = 46
  · have hE : endS n sg i = i + 1 := by unfold endS; rw [e0, a46]; rfl
    refine ⟨by omega, ?_, Or.inl a46⟩
    unfold actS; rw [e0, if_pos a46]
    exact wa4
  · rw [if_neg a46] at h
    by_cases hN : needS (sg i) = false
    · rw [if_pos hN] at h; cases h
    · rw [if_neg hN] at h
      have hN : needS (sg i) = true := by simpa using hN
      by_cases hO : okLast n sg i = true
      · have hE := endS_sp n sg i
        have hlast : isR (sgn n sg (endS n sg i - 1)) = true ∨ isE (sgn n sg (endS n sg i - 1)) = true := by
          unfold okLast at hO
          simp only [Bool.or_eq_true, Bool.and_eq_true] at hO
          rcases hO with h | h
          · exact Or.inl h
          · exact Or.inr h.2
        have hle : endS n sg i ≤ n := by
          by_cases q : endS n sg i ≤ n
          · exact q
          · have : sgn n sg (endS n sg i - 1) = 0 := sgn_out (by omega)
            rw [this] at hlast
            exact absurd hlast (by decide)
        have hpl : plS (sgn n sg (endS n sg i - 1)) ≤ 13 := by
          unfold plS isR
          by_cases q : sgn n sg (endS n sg i - 1) = 94
          · rw [if_pos q]; omega
          · rw [if_neg q]
            by_cases q2 : decide (97 ≤ sgn n sg (endS n sg i - 1) ∧ sgn n sg (endS n sg i - 1) ≤ 108) = true
            · rw [if_pos q2]; simp only [decide_eq_true_eq] at q2; omega
            · rw [if_neg q2]; omega
        have hplR : isR (sgn n sg (endS n sg i - 1)) = true → 1 ≤ plS (sgn n sg (endS n sg i - 1)) ∧ plS (sgn n sg (endS n sg i - 1)) ≤ 12 := by
          intro hR
          unfold plS
          have hR2 := hR
          unfold isR at hR2
          simp only [decide_eq_true_eq] at hR2
          rw [if_neg (by omega), if_pos hR]; omega
        have hkind : sg i = 107 ∨ sg i = 43 ∨ (65 ≤ sg i ∧ sg i ≤ 70) := by
          unfold needS isM at hN
          simp only [Bool.or_eq_true, decide_eq_true_eq] at hN
          omega
        refine ⟨hle, ?_, Or.inr hkind⟩
        have hnotM : ∀ {x : Nat}, x = 107 ∨ x = 43 → isM x = false := by
          intro x hx; rcases hx with rfl | rfl <;> rfl
        unfold actS
        rw [e0, if_neg a46]
        by_cases q1 : sg i = 107
        · rw [if_pos q1]
          have hR : isR (sgn n sg (endS n sg i - 1)) = true := by
            unfold okLast at hO
            rw [e0, hnotM (Or.inl q1)] at hO
            simpa using hO
          exact wa2 (hplR hR)
        · rw [if_neg q1]
          by_cases q2 : sg i = 43
          · rw [if_pos q2]
            have hR : isR (sgn n sg (endS n sg i - 1)) = true := by
              unfold okLast at hO
              rw [e0, hnotM (Or.inr q2)] at hO
              simpa using hO
            exact wa3 (hplR hR)
          · rw [if_neg q2]
            by_cases q3 : endS n sg i = i + 3
            · rw [if_pos q3]
              have hR : isR (sgn n sg (endS n sg i - 1)) = true := by
                unfold okLast at hO
                rw [q3] at hO ⊢
                simpa using hO
              exact wa1 (by omega) (hplR hR)
            · rw [if_neg q3]
              exact wa0 (by omega) hpl
      · rw [if_neg hO] at h; cases h
end
