/-! ups, ask -/
def cntG (G : Nat → Bool) : Nat → Nat
  | 0 => 0
  | k + 1 => cntG G k + if G k = true then 1 else 0
theorem cntG_le {G : Nat → Bool} : ∀ n, cntG G n ≤ n
  | 0 => Nat.le_refl _
  | n + 1 => by
    have := cntG_le (G := G) n
    unfold cntG
    split <;> omega
theorem cntG_lt {G : Nat → Bool} {j : Nat} (hj : G j = true) : ∀ n, j < n → cntG G j < cntG G n
  | 0, h => by omega
  | n + 1, h => by
    show cntG G j < cntG G n + _
    by_cases e : j = n
    · subst e; rw [if_pos hj]; omega
    · have := cntG_lt hj n (by omega)
      omega
theorem cntG_ex {G : Nat → Bool} {i : Nat} : ∀ n, i < cntG G n → ∃ j, j < n ∧ G j = true ∧ cntG G j = i
  | 0, h => by have : i < 0 := h; omega
  | n + 1, h => by
    by_cases e : i < cntG G n
    · obtain ⟨j, h1, h2, h3⟩ := cntG_ex n e
      exact ⟨j, by omega, h2, h3⟩
    · unfold cntG at h
      by_cases q : G n = true
      · rw [if_pos q] at h
        exact ⟨n, by omega, q, by omega⟩
      · rw [if_neg q] at h; omega
/-- by codes and by pairs -/
theorem cntG_codes {G : Nat → Bool} : ∀ k, cntG (fun x => decide (x % 10 < 2) && G (2 * (x / 10) + x % 10)) k = cntG G (2 * (k / 10) + min (k % 10) 2)
  | 0 => rfl
  | k + 1 => by
    have ih := cntG_codes (G := G) k
    show cntG (fun x => decide (x % 10 < 2) && G (2 * (x / 10) + x % 10)) k + (if (decide (k % 10 < 2) && G (2 * (k / 10) + k % 10)) = true then 1 else 0) = _
    rw [ih]
    by_cases e : k % 10 < 2
    · have e1 : 2 * ((k + 1) / 10) + min ((k + 1) % 10) 2 = 2 * (k / 10) + min (k % 10) 2 + 1 := by omega
      rw [e1]
      show _ = cntG G (2 * (k / 10) + min (k % 10) 2) + _
      rw [decide_eq_true e, Bool.true_and, show min (k % 10) 2 = k % 10 by omega]
    · have e1 : 2 * ((k + 1) / 10) + min ((k + 1) % 10) 2 = 2 * (k / 10) + min (k % 10) 2 := by omega
      rw [e1, decide_eq_false e, Bool.false_and]
      rfl
def cdS (j : Nat) : Nat := 10 * (j / 2) + j % 2
section
variable {c : CS} {cb q : Nat} {B : SX1} {T : SX10} {sr : Nat → Nat} {sw : Nat → Bool}
def tlJ (c : CS) (j : Nat) : Nat := tlS c (j / 2) (j % 2)
def fitJ (c : CS) (q : Nat) (sr : Nat → Nat) (sw : Nat → Bool) (j : Nat) : Bool := fitS sr sw (tlJ c j) q
/-- the class's rows of those that fit, among the first n -/
def IV (c : CS) (q : Nat) (sr : Nat → Nat) (sw : Nat → Bool) (n : Nat) (S : SX8) : Prop := g8_count S = nI (cntG (fitJ c q sr sw) n) ∧ ∀ j, j < n → fitJ c q sr sw j = true → g8_codes S (cntG (fitJ c q sr sw) j) = nI (cdS j) ∧ g8_wetRungs S (cntG (fitJ c q sr sw) j) = nI (tlJ c j)
theorem find_step (h : RC c B) (hw : WF cb c) (hs : RSc q sr sw B) (hq : WS q sr) {m mn : Nat} (hm : m < 6) (hmn : mn < 2) {S : SX8} (hI : IV c q sr sw (2 * m + mn) S) : ∃ S', (∀ rc7 rc15, m8_find_B15 B (nI m) rc7 rc15 (nI mn) S = rc15 (nI (mn + 1), S')) ∧ IV c q sr sw (2 * m + mn + 1) S' := by
  have e1 : (2 * m + mn) / 2 = m := by omega
  have e2 : (2 * m + mn) % 2 = mn := by omega
  have htl : tlJ c (2 * m + mn) = tlS c m mn := by unfold tlJ; rw [e1, e2]
  have hcl := cntG_le (G := fitJ c q sr sw) (2 * m + mn)
  have hft : fitJ c q sr sw (2 * m + mn) = fitS sr sw (tlS c m mn) q := by unfold fitJ; rw [htl]
  have hcd : cdS (2 * m + mn) = 10 * m + mn := by unfold cdS; rw [e1, e2]
  have hcs : cntG (fitJ c q sr sw) (2 * m + mn + 1) = cntG (fitJ c q sr sw) (2 * m + mn) + if fitJ c q sr sw (2 * m + mn) = true then 1 else 0 := rfl
  cases e : fitS sr sw (tlS c m mn) q
  · refine ⟨S, fun rc7 rc15 => ?_, ?_, fun j hj hf => ?_⟩
    · unfold m8_find_B15
      simp (disch := omega) only [I1, I0, nLT, if_neg, trailOf_ok h hw hm hmn, tbd_some, sightsFit_ok hs hq (tlS_lt c m mn), e, bI_f, n01, if_true, tnm_eq, nI_add]
    · rw [hcs, hft, e, hI.1]; rfl
    · by_cases ej : j = 2 * m + mn
      · subst ej; rw [hft, e] at hf; cases hf
      · exact hI.2 j (by omega) hf
  · refine ⟨s8_count (s8_wetRungs (s8_codes S (upd (g8_codes S) (cntG (fitJ c q sr sw) (2 * m + mn)) (nI (10 * m + mn)))) (upd (g8_wetRungs S) (cntG (fitJ c q sr sw) (2 * m + mn)) (nI (tlS c m mn)))) (nI (cntG (fitJ c q sr sw) (2 * m + mn) + 1)), fun rc7 rc15 => ?_, ?_, fun j hj hf => ?_⟩
    · unfold m8_find_B15
      simp (disch := omega) only [I1, I0, I10, I12, nLT, nLE, if_neg, trailOf_ok h hw hm hmn, tbd_some, sightsFit_ok hs hq (tlS_lt c m mn), e, bI_t, n10, if_false, tnm_eq, nI_add, hI.1, tin_nI, tgd_true, nC, nMUL]
    · rw [hcs, hft, e]; rfl
    · show upd (g8_codes S) _ _ _ = _ ∧ upd (g8_wetRungs S) _ _ _ = _
      by_cases ej : j = 2 * m + mn
      · subst ej
        rw [upd_same, upd_same, hcd, htl]
        exact ⟨rfl, rfl⟩
      · have := cntG_lt hf (2 * m + mn) (by omega)
        rw [upd_other (by omega), upd_other (by omega)]
        exact hI.2 j (by omega) hf
theorem find_ok (h : RC c B) (hw : WF cb c) (hs : RSc q sr sw B) (hq : WS q sr) (S : SX8) : ∃ S', m8_find S B = some S' ∧ IV c q sr sw 12 S' := by
  have main : ∀ d n m (S : SX8), m + d = 6 → d < n → IV c q sr sw (2 * m) S → ∃ S', tit (m8_find_L7 B) n (nI m, S) = some S' ∧ IV c q sr sw 12 S' := by
    intro d
    induction d with
    | zero =>
      intro n m S hm hn hI
      obtain ⟨n, rfl⟩ : ∃ m, n = m + 1 := ⟨n - 1, by omega⟩
      obtain rfl : m = 6 := by omega
      refine ⟨S, ?_, hI⟩
      rw [tit_s]
      show m8_find_B7 B (tit (m8_find_L7 B) n) (nI 6) S = _
      unfold m8_find_B7
      simp (disch := omega) only [I6, nLE, if_pos]
    | succ d ih =>
      intro n m S hm hn hI
      obtain ⟨n, rfl⟩ : ∃ m, n = m + 1 := ⟨n - 1, by omega⟩
      obtain ⟨S1, a1, a2⟩ := find_step h hw hs hq (m := m) (mn := 0) (by omega) (by omega) hI
      obtain ⟨S2, b1, b2⟩ := find_step h hw hs hq (m := m) (mn := 1) (by omega) (by omega) a2
      obtain ⟨S', c1, c2⟩ := ih n (m + 1) S2 (by omega) (by omega) b2
      refine ⟨S', ?_, c2⟩
      rw [tit_s]
      show m8_find_B7 B (tit (m8_find_L7 B) n) (nI m) S = _
      unfold m8_find_B7
      simp (disch := omega) only [I6, I0, nLE, if_neg]
      rw [← c1]
      exact tit_run (fun i => (nI i, if i = 0 then S else if i = 1 then S1 else S2)) 2 _ (fun rc i hi => by
        rcases (show i = 0 ∨ i = 1 by omega) with e | e
        · subst e; exact a1 _ _
        · subst e; exact b1 _ _) (fun rc => by
        show m8_find_B15 B (nI m) (tit (m8_find_L7 B) n) rc (nI 2) S2 = _
        unfold m8_find_B15
        simp (disch := omega) only [I1, nLT, if_pos, tnm_eq, nI_add]) FU (FU_gt (by decide))
  unfold m8_find
  rw [I0]
  exact main 6 FU 0 _ (by omega) (FU_gt (by decide)) ⟨rfl, fun j hj => by omega⟩
def FS (c : CS) (q : Nat) (sr : Nat → Nat) (sw : Nat → Bool) (x : Nat) : Bool := decide (x % 10 < 2) && fitJ c q sr sw (2 * (x / 10) + x % 10)
theorem isFit_FS {code : Nat} (h : RM c (g10_now T)) (hw : WF cb c) (hs : RSm q sr sw (g10_sight T) (g10_sights T)) (hq : WS q sr) (hc : code < 60) : m10_isFit T (nI code) = some (bI (FS c q sr sw code)) := by
  rw [isFit_ok h hw hs hq hc]
  unfold FS fitJ tlJ
  by_cases e : code % 10 < 2
  · rw [show (2 * (code / 10) + code % 10) / 2 = code / 10 by omega, show (2 * (code / 10) + code % 10) % 2 = code % 10 by omega]
  · rw [decide_eq_false e, Bool.false_and, Bool.false_and]
theorem cnt60 : cntG (FS c q sr sw) 60 = cntG (fitJ c q sr sw) 12 := cntG_codes 60
theorem ups_re (h : RM c (g10_now T)) (hw : WF cb c) (hs : RSm q sr sw (g10_sight T) (g10_sights T)) (hq : WS q sr) (x : Int32) : tit (m10_ups_L8 T x) FU (nI 0, nI 0) = match srch (fun k => FS c q sr sw k && decide (nI (cntG (FS c q sr sw) k) = x)) 0 60 with
    | some k => some (nI k, T)
    | none => if x = -nI 1 then some (nI (cntG (fitJ c q sr sw) 12), T) else some (-nI 6, T) := by
  exact tit_srch (F := m10_ups_L8 T x) (fun k => (nI (cntG (FS c q sr sw) k), nI k)) (fun k => FS c q sr sw k && decide (nI (cntG (FS c q sr sw) k) = x)) 60 (fun k => some (nI k, T)) (if x = -nI 1 then some (nI (cntG (fitJ c q sr sw) 12), T) else some (-nI 6, T)) (fun rc k hk => by
    show m10_ups_B8 T x rc (nI (cntG (FS c q sr sw) k)) (nI k) = if (FS c q sr sw k && decide (nI (cntG (FS c q sr sw) k) = x)) = true then some (nI k, T) else rc (nI (cntG (FS c q sr sw) k + if FS c q sr sw k = true then 1 else 0), nI (k + 1))
    unfold m10_ups_B8
    simp (disch := omega) only [I60, I0, I1, nLE, if_neg, isFit_FS h hw hs hq, tbd_some, bI_0, tnm_eq, nI_add]
    cases FS c q sr sw k
    · rfl
    · rw [if_neg (by decide), Bool.true_and, if_pos (show true = true from rfl)]
      by_cases e : nI (cntG (FS c q sr sw) k) = x
      · rw [if_pos e, if_pos (decide_eq_true e)]
      · rw [if_neg e, if_neg (by simpa using e)]) (fun rc => by
    show m10_ups_B8 T x rc (nI (cntG (FS c q sr sw) 60)) (nI 60) = _
    unfold m10_ups_B8
    simp (disch := omega) only [I60, I1, I6, nLE, if_pos]
    rw [cnt60]) 60 FU 0 rfl (FU_gt (by decide))
theorem FS_pair {x : Nat} (h : FS c q sr sw x = true) : x % 10 < 2 ∧ fitJ c q sr sw (2 * (x / 10) + x % 10) = true ∧ cdS (2 * (x / 10) + x % 10) = x ∧ cntG (FS c q sr sw) x = cntG (fitJ c q sr sw) (2 * (x / 10) + x % 10) := by
  unfold FS at h
  rw [Bool.and_eq_true, decide_eq_true_eq] at h
  refine ⟨h.1, h.2, ?_, ?_⟩
  · unfold cdS; omega
  · have := cntG_codes (G := fitJ c q sr sw) x
    rw [show min (x % 10) 2 = x % 10 by omega] at this
    exact this
theorem pair_FS {j : Nat} (hj : j < 12) (h : fitJ c q sr sw j = true) : FS c q sr sw (cdS j) = true ∧ cdS j < 60 ∧ cntG (FS c q sr sw) (cdS j) = cntG (fitJ c q sr sw) j := by
  have e1 : cdS j % 10 = j % 2 := by unfold cdS; omega
  have e2 : cdS j / 10 = j / 2 := by unfold cdS; omega
  have e3 : 2 * (cdS j / 10) + cdS j % 10 = j := by omega
  have hF : FS c q sr sw (cdS j) = true := by
    unfold FS
    rw [e3, h, decide_eq_true (by omega)]; rfl
  refine ⟨hF, by unfold cdS; omega, ?_⟩
  have := (FS_pair hF).2.2.2
  rw [e3] at this
  exact this
theorem codeAt_ok {S : SX8} (hI : IV c q sr sw 12 S) (x : Int32) (hx : ¬ x = -nI 1) : (∃ v, m8_codeAt S x = some v ∧ (∀ TT : SX10, (match srch (fun k => FS c q sr sw k && decide (nI (cntG (FS c q sr sw) k) = x)) 0 60 with
    | some k => some (nI k, TT)
    | none => if x = -nI 1 then some (nI (cntG (fitJ c q sr sw) 12), TT) else some (-nI 6, TT)) = some (v, TT))) := by
  have hc12 := cntG_le (G := fitJ c q sr sw) 12
  have hno : (∀ k, k < 60 → FS c q sr sw k = true → ¬ nI (cntG (FS c q sr sw) k) = x) → srch (fun k => FS c q sr sw k && decide (nI (cntG (FS c q sr sw) k) = x)) 0 60 = none := by
    intro hn
    cases e : srch (fun k => FS c q sr sw k && decide (nI (cntG (FS c q sr sw) k) = x)) 0 60 with
    | none => rfl
    | some k =>
      obtain ⟨-, h2, h3, -⟩ := srch_some e
      rw [Bool.and_eq_true, decide_eq_true_eq] at h3
      exact absurd h3.2 (hn k (by omega) h3.1)
  have hcnt : ∀ k, k < 60 → FS c q sr sw k = true → cntG (FS c q sr sw) k < cntG (fitJ c q sr sw) 12 := fun k hk hF => by
    have := cntG_lt hF 60 hk
    rw [cnt60] at this
    exact this
  unfold m8_codeAt
  rw [I0, I12, I6, hI.1]
  by_cases hneg : x < nI 0
  · rw [if_pos hneg, hno (fun k hk hF e => by
      subst e
      have := hcnt k hk hF
      rw [nLT (by omega) (by omega)] at hneg
      omega)]
    refine ⟨_, rfl, fun TT => ?_⟩
    dsimp only
    rw [if_neg hx]
  · obtain ⟨i, hi, rfl⟩ := n_of hneg
    rw [if_neg hneg]
    by_cases hlt : i < cntG (fitJ c q sr sw) 12
    · rw [if_neg (fun w => absurd ((nLE (by omega) (by omega)).mp w) (by omega)), if_neg (fun w => absurd ((nLE (by omega) (by omega)).mp w) (by omega)), tin_nI (by omega) (by omega), tgd_true, nC (by omega)]
      obtain ⟨j, j1, j2, j3⟩ := cntG_ex 12 hlt
      obtain ⟨p1, p2, p3⟩ := pair_FS j1 j2
      have hv := (hI.2 j j1 j2).1
      rw [j3] at hv
      refine ⟨_, rfl, fun TT => ?_⟩
      rw [hv]
      cases e : srch (fun k => FS c q sr sw k && decide (nI (cntG (FS c q sr sw) k) = nI i)) 0 60 with
      | none =>
        have := srch_none e (cdS j) (by omega) (by omega)
        rw [p1, p3, j3, decide_eq_true rfl] at this
        cases this
      | some k =>
        obtain ⟨-, k2, k3, -⟩ := srch_some e
        rw [Bool.and_eq_true, decide_eq_true_eq] at k3
        obtain ⟨f1, f2, f3, f4⟩ := FS_pair k3.1
        have hk := hcnt k (by omega) k3.1
        have e5 : cntG (FS c q sr sw) k = i := (nEQ (by omega) (by omega)).mp k3.2
        have hv2 := (hI.2 (2 * (k / 10) + k % 10) (by omega) f2).1
        rw [← f4, e5, f3, hv] at hv2
        dsimp only
        rw [hv2]
    · rw [if_pos ((nLE (by omega) (by omega)).mpr (by omega)), hno (fun k hk hF e => by
        have := hcnt k hk hF
        have := (nEQ (by omega) (by omega)).mp e
        omega)]
      refine ⟨_, rfl, fun TT => ?_⟩
      dsimp only
      rw [if_neg hx]
end
section
variable {cb : Nat} {B : SX1} {P : SX5} {J0 J1 : Option SX1} {M : SX10}
theorem ups_c (h : Inv cb B P J0 J1 M) (R : SX8) (x : Int32) : ∃ v R' M', m9_ups () B R x = some (v, R') ∧ m10_ups M x = some (v, M') ∧ KP M M' := by
  obtain ⟨⟨c, q, sr, sw, hw, hRC, hRM, hWS, hSc, hSm⟩, -⟩ := h
  unfold m9_ups m10_ups
  obtain ⟨R', r1, r2⟩ := find_ok hRC hw hSc hWS R
  obtain ⟨T1, a1, a2, a3, -⟩ := asNow_ok hRM
  have hS1 : RSm q sr sw (g10_sight T1) (g10_sights T1) := by rw [a3.2.1, a3.2.2.1]; exact hSm
  rw [r1, tbd_some, a1, tbd_some, I0, I1, ups_re a2 hw hS1 hWS]
  by_cases e : x = -nI 1
  · rw [if_pos e]
    unfold m8_size
    rw [tbd_some, r2.1]
    have : srch (fun k => FS c q sr sw k && decide (nI (cntG (FS c q sr sw) k) = x)) 0 60 = none := by
      cases w : srch (fun k => FS c q sr sw k && decide (nI (cntG (FS c q sr sw) k) = x)) 0 60 with
      | none => rfl
      | some k =>
        obtain ⟨-, k2, k3, -⟩ := srch_some w
        rw [Bool.and_eq_true, decide_eq_true_eq] at k3
        have hk := cntG_le (G := FS c q sr sw) k
        rw [e] at k3
        exact absurd k3.2 (by rw [n_ne_neg (by omega) (by omega) (by omega)]; exact id)
    rw [this]
    dsimp only
    rw [if_pos e]
    exact ⟨_, _, _, rfl, rfl, a3⟩
  · rw [if_neg e]
    obtain ⟨v, v1, v2⟩ := codeAt_ok r2 x e
    rw [v1, tbd_some, v2 T1]
    exact ⟨_, _, _, rfl, rfl, a3⟩
end
