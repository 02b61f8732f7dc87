/-! foot: the loops, the call -/
theorem power_ok {s k : Nat} (hs : s < 5) (hk : k ≤ 12) : m3_power (nI s) (nI k) = some (lI (s ^ k)) := by
  unfold m3_power
  rw [tnm_eq, I0, L1]
  exact tit_run (fun i => (lI (s ^ i), nI i)) k _ (fun rc i hi => by
    show m3_power_B5 (nI s) (nI k) rc (lI (s ^ i)) (nI i) = rc (lI (s ^ (i + 1)), nI (i + 1))
    unfold m3_power_B5
    simp (disch := omega) only [I12, I1, nLE, if_neg, tnm_eq, nI_add, toL, lMUL]
    rw [Nat.pow_succ]) (fun rc => by
    show m3_power_B5 (nI s) (nI k) rc (lI (s ^ k)) (nI k) = _
    unfold m3_power_B5
    rw [if_pos ((nLE (by omega) (by omega)).mpr (Nat.le_refl _))]) FU (FU_gt (by omega))
section
variable {s : Nat} {T : SX3}
theorem rk_in {p : Nat} (hs1 : 1 ≤ s) (hs : s < 5) (hp1 : 1 ≤ p) (hp : p ≤ 12) {A : Nat → Nat} (hA : ∀ q, q < p → g3_chances T q = lI (A q)) (rc : Int32 × SX3 → Option SX3) : tit (m3_reckonChances_L20 T (nI s) (nI p) rc) FU (lI 0, nI 1) = rc (nI (p + 1), s3_chances T (vp_updL (g3_chances T) p (lI (sumN s A p (min s p))))) := by
  exact tit_run (fun j => (lI (sumN s A p j), nI (j + 1))) (min s p) _ (fun rc' j hj => by
    show m3_reckonChances_B20 T (nI s) (nI p) rc rc' (lI (sumN s A p j)) (nI (j + 1)) = rc' (lI (sumN s A p j + A (p - (j + 1)) * s ^ j), nI (j + 1 + 1))
    unfold m3_reckonChances_B20
    simp (disch := omega) only [I1, nLT, if_neg, nSUB, Nat.add_sub_cancel, tin_nI, tgd_true, power_ok, tbd_some, nC, hA, lMUL, lADD, tnm_eq, nI_add]) (fun rc' => by
    show m3_reckonChances_B20 T (nI s) (nI p) rc rc' (lI (sumN s A p (min s p))) (nI (min s p + 1)) = _
    unfold m3_reckonChances_B20 m3_reckonChances_J59
    simp (disch := omega) only [I1, nLT, tin_nI, tgd_true, nC, tnm_eq, nI_add]
    by_cases e : s < min s p + 1
    · rw [if_pos e]
    · rw [if_neg e, if_pos (by omega)]) FU (FU_gt (by omega))
theorem chT_s (s k : Nat) (q : Nat) : chT s (k + 1) q = if q = k + 1 then sumN s (chT s k) (k + 1) (min s (k + 1)) else chT s k q := rfl
theorem mnT_s (s k : Nat) (q : Nat) : mnT s (k + 1) q = if q = k + 1 then s ^ (k + 1) + sumN s (mnT s k) (k + 1) (min s (k + 1)) else mnT s k q := rfl
theorem rk_go (hs1 : 1 ≤ s) (hs : s < 5) : ∀ d n k (T : SX3), k + d = 12 → d < n → (∀ q, q ≤ k → g3_chances T q = lI (chT s k q)) → ∃ T', tit (m3_reckonChances_L9 (nI s)) n (nI (k + 1), T) = some T' ∧ ∀ q, q ≤ 12 → g3_chances T' q = lI (chT s 12 q) := by
  intro d
  induction d with
  | zero =>
    intro n k T hk hn hT
    obtain ⟨n, rfl⟩ : ∃ m, n = m + 1 := ⟨n - 1, by omega⟩
    have e : k = 12 := by omega
    rw [e] at hT ⊢
    refine ⟨T, ?_, hT⟩
    rw [tit_s]
    show m3_reckonChances_B9 (nI s) (tit (m3_reckonChances_L9 (nI s)) n) (nI 13) T = _
    unfold m3_reckonChances_B9
    simp (disch := omega) only [I12, nLT, if_pos]
  | succ d ih =>
    intro n k T hk hn hT
    obtain ⟨n, rfl⟩ : ∃ m, n = m + 1 := ⟨n - 1, by omega⟩
    have hin := rk_in (T := T) (p := k + 1) hs1 hs (by omega) (by omega) (A := chT s k) (fun q hq => hT q (by omega)) (tit (m3_reckonChances_L9 (nI s)) n)
    obtain ⟨T', a1, a2⟩ := ih n (k + 1) (s3_chances T (vp_updL (g3_chances T) (k + 1) (lI (sumN s (chT s k) (k + 1) (min s (k + 1)))))) (by omega) (by omega) (fun q hq => by
      show vp_updL (g3_chances T) (k + 1) _ q = _
      rw [chT_s]
      by_cases e : q = k + 1
      · rw [e, updL_same, if_pos rfl]
      · rw [updL_other e, if_neg e]; exact hT q (by omega))
    refine ⟨T', ?_, a2⟩
    rw [tit_s]
    show m3_reckonChances_B9 (nI s) (tit (m3_reckonChances_L9 (nI s)) n) (nI (k + 1)) T = _
    unfold m3_reckonChances_B9
    simp (disch := omega) only [I12, I1, L0, nLT, if_neg, tnm_eq]
    rw [hin, a1]
theorem reckon_ok (hs1 : 1 ≤ s) (hs : s < 5) (T : SX3) : ∃ T', m3_reckonChances T (nI s) = some T' ∧ ∀ q, q ≤ 12 → g3_chances T' q = lI (chT s 12 q) := by
  unfold m3_reckonChances
  rw [I1, I0, nC (by decide)]
  exact rk_go hs1 hs 12 FU 0 _ (by omega) (FU_gt (by decide)) (fun q hq => by
    obtain rfl : q = 0 := by omega
    show vp_updL (g3_chances T) 0 1 0 = _
    rw [updL_same]; rfl)
theorem feet_ok {r w : Nat} (hs1 : 1 ≤ s) (hs : s < 5) (hr1 : 1 ≤ r) (hr : r ≤ 12) (T : SX3) : ∃ T', (if w = 0 then m3_chanceOn T (nI s) (nI r) else m3_meanStepsTo T (nI s) (nI r)) = some T' ∧ g3_upper T' = lI (upC s r w) ∧ g3_lower T' = lI (loC s r w) := by
  obtain ⟨T1, a1, a2⟩ := reckon_ok hs1 hs T
  unfold upC loC
  by_cases e : w = 0
  · rw [if_pos e, if_pos e, if_pos e]
    unfold m3_chanceOn m3_chanceOn_J23
    simp (disch := omega) only [a1, tbd_some, isRung_in, I0, n10, if_false, tin_nI, tgd_true, nC, a2, power_ok]
    exact ⟨_, rfl, rfl, rfl⟩
  · rw [if_neg e, if_neg e, if_neg e]
    unfold m3_meanStepsTo
    rw [a1, tbd_some, I0, L0]
    refine ⟨s3_lower (s3_upper T1 (lI (umN s r r))) (lI (s ^ (r - 1))), ?_, rfl, rfl⟩
    exact tit_run (fun i => (nI i, s3_upper T1 (lI (umN s r i)))) r _ (fun rc i hi => by
      show m3_meanStepsTo_B12 (nI s) (nI r) rc (nI i) (s3_upper T1 (lI (umN s r i))) = rc (nI (i + 1), s3_upper T1 (lI (umN s r i + chT s 12 i * s ^ (r - 1 - i))))
      have hc : g3_chances (s3_upper T1 (lI (umN s r i))) i = lI (chT s 12 i) := a2 i (by omega)
      have hu : g3_upper (s3_upper T1 (lI (umN s r i))) = lI (umN s r i) := rfl
      unfold m3_meanStepsTo_B12
      simp (disch := omega) only [I12, I1, nLE, nLT, if_neg, tin_nI, tgd_true, nSUB, power_ok, tbd_some, nC, hc, hu, lMUL, lADD, tnm_eq, nI_add]
      rfl) (fun rc => by
      show m3_meanStepsTo_B12 (nI s) (nI r) rc (nI r) (s3_upper T1 (lI (umN s r r))) = _
      unfold m3_meanStepsTo_B12 m3_meanStepsTo_J54
      rw [if_pos ((nLE (by omega) (by omega)).mpr (Nat.le_refl _)), I1, nSUB hr1, power_ok hs (by omega), tbd_some]) FU (FU_gt (by omega))
end
def foT (T : SX10) (p : Nat) (a b : Int64) : SX10 := s10_means (s10_odds T (vp_updL (g10_odds T) p a)) (vp_updL (g10_means T) p b)
theorem gm_so (S : SX10) (a : Nat → Int64) : g10_means (s10_odds S a) = g10_means S := rfl
theorem foT_o (T : SX10) (p : Nat) (a b : Int64) : g10_odds (foT T p a b) = vp_updL (g10_odds T) p a := rfl
theorem foT_m (T : SX10) (p : Nat) (a b : Int64) : g10_means (foT T p a b) = vp_updL (g10_means T) p b := rfl
theorem kp_foT (T : SX10) (p : Nat) (a b : Int64) : KP T (foT T p a b) := ⟨rfl, rfl, rfl, rfl, rfl, rfl, rfl⟩
section
variable {s : Nat}
theorem fr_in {p low : Nat} (hs1 : 1 ≤ s) (hs : s < 5) (hp1 : 1 ≤ p) (hp : p ≤ 12) {A M : Nat → Nat} (x2 x3 x4 : Int32) (x5 : Int64) (rc : Int64 × Int32 × SX10 → Option (Int64 × SX10)) : ∀ d n j (T : SX10), j + d = min s p → d < n → (∀ q, q < p → g10_odds T q = lI (A q) ∧ g10_means T q = lI (M q)) → g10_odds T p = lI (sumN s A p j) → g10_means T p = lI (low + sumN s M p j) → ∃ T', tit (m10_foot_L99 (nI s) x2 x3 x4 x5 (nI p) rc) n (lI (s ^ j), nI (j + 1), T) = rc (x5, nI (p + 1), T') ∧ (∀ q, q < p → g10_odds T' q = lI (A q) ∧ g10_means T' q = lI (M q)) ∧ g10_odds T' p = lI (sumN s A p (min s p)) ∧ g10_means T' p = lI (low + sumN s M p (min s p)) ∧ KP T T' := by
  intro d
  induction d with
  | zero =>
    intro n j T hj hn hA h1 h2
    obtain ⟨n, rfl⟩ : ∃ m, n = m + 1 := ⟨n - 1, by omega⟩
    have ej : j = min s p := by omega
    rw [← ej]
    refine ⟨T, ?_, hA, h1, h2, KP.refl T⟩
    rw [tit_s]
    show m10_foot_B99 (nI s) x2 x3 x4 x5 (nI p) rc (tit (m10_foot_L99 (nI s) x2 x3 x4 x5 (nI p) rc) n) (lI (s ^ j)) (nI (j + 1)) T = _
    unfold m10_foot_B99
    simp (disch := omega) only [I1, nLT, tnm_eq, nI_add]
    by_cases e : s < j + 1
    · rw [if_pos e]
    · rw [if_neg e, if_pos (by omega)]
  | succ d ih =>
    intro n j T hj hn hA h1 h2
    obtain ⟨n, rfl⟩ : ∃ m, n = m + 1 := ⟨n - 1, by omega⟩
    obtain ⟨v1, v2⟩ := hA (p - (j + 1)) (by omega)
    obtain ⟨T', a1, a2, a3, a4, a5⟩ := ih n (j + 1) (foT T p (lI (sumN s A p j + A (p - (j + 1)) * s ^ j)) (lI (low + sumN s M p j + M (p - (j + 1)) * s ^ j))) (by omega) (by omega) (fun q hq => by
      rw [foT_o, foT_m, updL_other (by omega), updL_other (by omega)]
      exact hA q hq) (by rw [foT_o, updL_same]; rfl) (by rw [foT_m, updL_same, Nat.add_assoc]; rfl)
    refine ⟨T', ?_, a2, a3, a4, (kp_foT _ _ _ _).trans a5⟩
    rw [← a1, tit_s]
    show m10_foot_B99 (nI s) x2 x3 x4 x5 (nI p) rc (tit (m10_foot_L99 (nI s) x2 x3 x4 x5 (nI p) rc) n) (lI (s ^ j)) (nI (j + 1)) T = _
    unfold m10_foot_B99 foT
    simp (disch := omega) only [I1, nLT, if_neg, nSUB, tin_nI, tgd_true, nC, h1, h2, v1, v2, lMUL, lADD, tnm_eq, nI_add, toL]
    rw [Nat.pow_succ]
theorem gl_ok {T : SX10} {x4 : Int32} {x5 x7 : Int64} : ∀ n x y g, gl n x y = some g → ∀ N, n ≤ N → tit (m10_foot_L206 T x4 x5 x7) N (x, y) = if x4 = 0 then tgd (tnzl g) (some (x7 / g, T)) else tgd (tnzl g) (some (x5 / g, T)) := by
  intro n
  induction n with
  | zero => intro x y g h; cases h
  | succ n ih =>
    intro x y g h N hN
    obtain ⟨N, rfl⟩ : ∃ m, N = m + 1 := ⟨N - 1, by omega⟩
    rw [tit_s]
    show m10_foot_B206 T x4 x5 x7 (tit (m10_foot_L206 T x4 x5 x7) N) x y = _
    unfold m10_foot_B206
    unfold gl at h
    by_cases e : lg_cmp y (0 : Int64) = 0
    · rw [if_pos e] at h ⊢
      cases h
      rfl
    · rw [if_neg e] at h ⊢
      obtain ⟨h1, h2⟩ := tgd_e h
      rw [h1, tgd_true, tnm_eq, tnm_eq, tnm_eq]
      exact ih _ _ _ h2 N (by omega)
theorem J196_ok {T : SX10} {r w p : Nat} (hs1 : 1 ≤ s) (hs : s < 5) (hr1 : 1 ≤ r) (hr : r ≤ 12) (hw : w < 2) (hp : p < 2) : m10_foot_J196 T (nI p) (lI (s ^ r)) (lI (upN2 s r w)) = some (if p = 0 then lI (upC s r w) else lI (loC s r w), T) := by
  have h := okF_all (s - 1) (by omega) (r - 1) (by omega) w hw
  rw [show s - 1 + 1 = s by omega, show r - 1 + 1 = r by omega] at h
  unfold okF at h
  unfold m10_foot_J196
  rw [tnm_eq, tnm_eq, tnm_eq]
  cases e : gl 60 (lI (upN2 s r w)) (lI (s ^ r)) with
  | none => rw [e] at h; cases h
  | some g =>
    rw [e] at h
    simp only [Bool.and_eq_true, decide_eq_true_eq] at h
    rw [gl_ok 60 _ _ g e FU (Nat.le_of_lt (FU_gt (by decide))), h.1.1, h.1.2, h.2, tgd_true, tgd_true, I0]
    by_cases q : p = 0
    · rw [if_pos q, if_pos (by rw [q])]
    · rw [if_neg q, if_neg (fun z => q ((nEQ (by omega) (by omega)).mp z))]
theorem fr_go {r w p : Nat} (hs1 : 1 ≤ s) (hs : s < 5) (hr1 : 1 ≤ r) (hr : r ≤ 12) (hw : w < 2) (hp : p < 2) : ∀ d n k (T : SX10), k + d = r → d < n → (∀ q, q ≤ k → g10_odds T q = lI (chT s k q) ∧ g10_means T q = lI (mnT s k q)) → ∃ T', tit (m10_foot_L63 (nI s) (nI r) (nI w) (nI p)) n (lI (s ^ k), nI (k + 1), T) = some (if p = 0 then lI (upC s r w) else lI (loC s r w), T') ∧ KP T T' := by
  intro d
  induction d with
  | zero =>
    intro n k T hk hn hT
    obtain ⟨n, rfl⟩ : ∃ m, n = m + 1 := ⟨n - 1, by omega⟩
    obtain rfl : k = r := by omega
    refine ⟨T, ?_, KP.refl T⟩
    rw [tit_s]
    show m10_foot_B63 (nI s) (nI k) (nI w) (nI p) (tit (m10_foot_L63 (nI s) (nI k) (nI w) (nI p)) n) (lI (s ^ k)) (nI (k + 1)) T = _
    unfold m10_foot_B63
    rw [if_pos ((nLT (by omega) (by omega)).mpr (by omega)), tin_nI (by omega) (by omega), tgd_true, tgd_true, nC (by omega), (hT k (Nat.le_refl _)).1, (hT k (Nat.le_refl _)).2, I0, ← J196_ok (T := T) hs1 hs hr1 hr hw hp]
    unfold upN2
    by_cases e : w = 0
    · rw [if_pos (by rw [e]), if_pos e]
    · rw [if_neg (fun z => e ((nEQ (by omega) (by omega)).mp z)), if_neg e]
  | succ d ih =>
    intro n k T hk hn hT
    obtain ⟨n, rfl⟩ : ∃ m, n = m + 1 := ⟨n - 1, by omega⟩
    obtain ⟨T1, i1, i2, i3, i4, i5⟩ := fr_in (p := k + 1) (low := s ^ (k + 1)) hs1 hs (by omega) (by omega) (A := chT s k) (M := mnT s k) (nI r) (nI w) (nI p) (lI (s ^ (k + 1))) (tit (m10_foot_L63 (nI s) (nI r) (nI w) (nI p)) n) (min s (k + 1)) FU 0 (foT T (k + 1) (lI 0) (lI (s ^ (k + 1)))) (by omega) (FU_gt (by omega)) (fun q hq => by
      rw [foT_o, foT_m, updL_other (by omega), updL_other (by omega)]
      exact hT q (by omega)) (by rw [foT_o, updL_same]; rfl) (by rw [foT_m, updL_same]; rfl)
    obtain ⟨T', a1, a2⟩ := ih n (k + 1) T1 (by omega) (by omega) (fun q hq => by
      rw [chT_s, mnT_s]
      by_cases e : q = k + 1
      · rw [e, i3, i4, if_pos rfl, if_pos rfl]; exact ⟨rfl, rfl⟩
      · rw [if_neg e, if_neg e]; exact i2 q (by omega))
    refine ⟨T', ?_, ((kp_foT _ _ _ _).trans i5).trans a2⟩
    rw [tit_s]
    show m10_foot_B63 (nI s) (nI r) (nI w) (nI p) (tit (m10_foot_L63 (nI s) (nI r) (nI w) (nI p)) n) (lI (s ^ k)) (nI (k + 1)) T = _
    rw [← a1, ← i1]
    unfold m10_foot_B63 foT
    rw [if_neg (fun z => absurd ((nLT (by omega) (by omega)).mp z) (by omega))]
    simp (disch := omega) only [tnm_eq, toL, lMUL, tin_nI, tgd_true, nC, L0, L1, I1, gm_so, Nat.pow_zero, Nat.zero_add]
    rw [Nat.pow_succ]
end
theorem foot_c (F : SX3) (M : SX10) (x y u z : Int32) : ∃ v F' M', m9_foot () F x y u z = some (v, F') ∧ m10_foot M x y u z = some (v, M') ∧ KP M M' := by
  unfold m9_foot m10_foot
  simp only [within_eq, I0, I1, I4]
  rcases rng y 1 12 (by decide) (by decide) with ⟨r, hr1, hr, rfl⟩ | ho
  · rw [isRung_in hr1 hr, isRung10_in hr1 hr, tbd_some, tbd_some]
    simp only [n10, if_false]
    rcases rng x 1 4 (by decide) (by decide) with ⟨s, hs1, hs, rfl⟩ | ho
    · rw [in_in hs1 hs (by omega), tbd_some, tbd_some]
      simp only [n10, if_false]
      rcases rng u 0 1 (by decide) (by decide) with ⟨w, -, hw, rfl⟩ | ho
      · rw [in_in (by omega) hw (by omega), tbd_some, tbd_some]
        simp only [n10, if_false]
        rcases rng z 0 1 (by decide) (by decide) with ⟨p, -, hp, rfl⟩ | ho
        · rw [in_in (by omega) hp (by omega), tbd_some, tbd_some]
          simp only [n10, if_false]
          obtain ⟨F', f1, f2, f3⟩ := feet_ok (s := s) (r := r) (w := w) hs1 (by omega) hr1 hr F
          obtain ⟨M', m1, m2⟩ := fr_go (s := s) (r := r) (w := w) (p := p) hs1 (by omega) hr1 hr (by omega) (by omega) r FU 0 (foT M 0 (lI 1) (lI 0)) (by omega) (FU_gt (by omega)) (fun q hq => by
            obtain rfl : q = 0 := by omega
            rw [foT_o, foT_m, updL_same, updL_same]
            exact ⟨rfl, rfl⟩)
          refine ⟨if p = 0 then lI (upC s r w) else lI (loC s r w), F', M', ?_, ?_, (kp_foT _ _ _ _).trans m2⟩
          · have hJ : m9_foot_J68 () F' (nI p) = some (if p = 0 then lI (upC s r w) else lI (loC s r w), F') := by
              unfold m9_foot_J68 m3_upperNumber m3_lowerNumber
              rw [tbd_some, tbd_some, f2, f3, I0]
              by_cases e : p = 0
              · rw [if_pos (by rw [e]), if_pos e]
              · rw [if_neg (fun z => e ((nEQ (by omega) (by omega)).mp z)), if_neg e]
            by_cases e : w = 0
            · rw [if_pos e] at f1
              rw [if_pos (by rw [e]), f1, tbd_some, hJ]
            · rw [if_neg e] at f1
              rw [if_neg (fun z => e ((nEQ (by omega) (by omega)).mp z)), f1, tbd_some, hJ]
          · rw [← m1, tnm_eq]
            unfold foT
            rw [nC (by decide), L0, L1, Nat.pow_zero]
        · rw [in_out ho, tbd_some, tbd_some]
          exact ⟨_, _, _, rfl, rfl, KP.refl M⟩
      · rw [in_out ho, tbd_some, tbd_some]
        exact ⟨_, _, _, rfl, rfl, KP.refl M⟩
    · rw [in_out ho, tbd_some, tbd_some]
      exact ⟨_, _, _, rfl, rfl, KP.refl M⟩
  · rw [isRung_out2 ho, isRung10_out ho, tbd_some, tbd_some]
    exact ⟨_, _, _, rfl, rfl, KP.refl M⟩
