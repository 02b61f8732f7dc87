/-! stand -/
theorem cnB_mono1 {e e' : Nat → Nat → Bool} : ∀ R S, cnB e R S = true → (∀ m r, m < 6 → 1 ≤ r → S.testBit m = true → e m r = true → e' m r = true) → cnB e' R S = true
  | 0, S, h, _ => h
  | R + 1, S, h, g => by
    rcases cnB_s.mp h with h | ⟨m, hm, h1, h2, h3⟩
    · exact cnB_s.mpr (Or.inl (cnB_mono1 R S h g))
    · refine cnB_s.mpr (Or.inr ⟨m, hm, h1, g m _ hm (by omega) h1 h2, cnB_mono1 R _ h3 (fun k r hk hr q => g k r hk hr ?_)⟩)
      rw [rmB_bit, Bool.and_eq_true] at q
      exact q.1
section
variable {c : CS} {cb : Nat} {B : SX1}
def pkP (c : CS) (m fr r : Nat) : Bool := mayS c m r && (fr.testBit (r - 1) && decide (1 + nuS c (m + 1) (rmB fr (r - 1)) = nuS c m fr))
def up1 (o : Option Nat) : Option Nat := match o with
  | some j => some (j + 1)
  | none => none
def pk (c : CS) (m fr : Nat) : Option Nat := up1 (srch (fun i => pkP c m fr (i + 1)) 0 12)
theorem pk_none {m fr : Nat} (h : pk c m fr = none) {r : Nat} (h1 : 1 ≤ r) (h2 : r ≤ 12) : pkP c m fr r = false := by
  unfold pk at h
  cases q : srch (fun i => pkP c m fr (i + 1)) 0 12 with
  | some j => rw [q] at h; cases h
  | none =>
    have := srch_none q (r - 1) (by omega) (by omega)
    rw [show r - 1 + 1 = r by omega] at this
    exact this
theorem pk_some {m fr r : Nat} (h : pk c m fr = some r) : 1 ≤ r ∧ r ≤ 12 ∧ pkP c m fr r = true := by
  unfold pk at h
  cases q : srch (fun i => pkP c m fr (i + 1)) 0 12 with
  | none => rw [q] at h; cases h
  | some j =>
    rw [q] at h
    have h2 := srch_some q
    have e : j + 1 = r := Option.some.inj h
    subst e
    exact ⟨by omega, by omega, h2.2.2.1⟩
def nxF (fr : Nat) (o : Option Nat) : Nat := match o with
  | some r => rmB fr (r - 1)
  | none => fr
def fre (c : CS) : Nat → Nat
  | 0 => 4095
  | m + 1 => nxF (fre c m) (pk c m (fre c m))
theorem rmB_le {S m n : Nat} (h : S < 2 ^ n) : rmB S m < 2 ^ n := xor_lt h (Nat.lt_of_le_of_lt (and_le _ _) h)
theorem fre_lt (c : CS) : ∀ m, fre c m < 4096
  | 0 => by show 4095 < 4096; omega
  | m + 1 => by
    have ih := fre_lt c m
    unfold fre
    cases pk c m (fre c m)
    · exact ih
    · exact rmB_le (n := 12) ih
theorem eS_iff {f fr m r : Nat} : (eS c f fr m r = true) ↔ f ≤ m ∧ mayS c m r = true ∧ fr.testBit (r - 1) = true := by
  unfold eS
  simp only [Bool.and_eq_true, decide_eq_true_eq]
theorem nu_skip {m fr : Nat} (hm : m < 6) (h : ∀ r, 1 ≤ r → r ≤ 12 → pkP c m fr r = false) : nuS c (m + 1) fr = nuS c m fr := by
  have i0 := nuS_is c (f := m) (fr := fr) (by omega)
  refine isNu_uniq (nuS_is c (f := m + 1) (fr := fr) (by omega)) ⟨?_, fun S h1 h2 => ?_⟩
  · obtain ⟨S, s1, s2, s3⟩ := i0.1
    cases q : S.testBit m
    · refine ⟨S, fun k hk => ?_, cnB_mono1 12 S s2 (fun k r hk hr hkS he => ?_), s3⟩
      · have := s1 k hk
        rw [Am_bit (by omega), Bool.and_eq_true] at this
        have e : ¬ k = m := fun w => by rw [w, q] at hk; cases hk
        have e2 : m ≤ k := of_decide_eq_true this.1
        rw [Am_bit (by omega), this.2, decide_eq_true (show m + 1 ≤ k by omega)]; rfl
      · have e : ¬ k = m := fun w => by rw [w, q] at hkS; cases hkS
        rw [eS_iff] at he ⊢
        exact ⟨by omega, he.2⟩
    · exfalso
      obtain ⟨r, r1, r2, r3, r4⟩ := matchOut hm 12 S s2 q
      have iu := nuS_is c (f := m + 1) (fr := rmB fr (r - 1)) (by omega)
      have hpc := pcn_rm 6 hm q
      rw [eS_iff] at r3
      have a1 : pcn (rmB S m) 6 ≤ nuS c (m + 1) (rmB fr (r - 1)) := by
        refine iu.2 _ (fun k hk => ?_) (cnB_mono1 12 _ r4 (fun k r' hk hr' hkS he => ?_))
        · rw [rmB_bit, Bool.and_eq_true] at hk
          have := s1 k hk.1
          rw [Am_bit (by omega), Bool.and_eq_true] at this
          have e : ¬ k = m := of_decide_eq_true hk.2
          have e2 : m ≤ k := of_decide_eq_true this.1
          rw [Am_bit (by omega), this.2, decide_eq_true (show m + 1 ≤ k by omega)]; rfl
        · rw [rmB_bit, Bool.and_eq_true] at hkS
          have e : ¬ k = m := of_decide_eq_true hkS.2
          unfold offR at he
          rw [Bool.and_eq_true, eS_iff] at he
          have e2 : ¬ r' = r := of_decide_eq_true he.2
          rw [eS_iff, rmB_bit, he.1.2.2, decide_eq_true (show ¬ r' - 1 = r - 1 by omega)]
          exact ⟨by omega, he.1.2.1, rfl⟩
      have a2 : nuS c (m + 1) (rmB fr (r - 1)) + 1 ≤ nuS c m fr := by
        obtain ⟨S', t1, t2, t3⟩ := iu.1
        have hSm : S'.testBit m = false := by
          cases w : S'.testBit m
          · rfl
          · have := t1 m w
            rw [Am_bit (by omega), decide_eq_false (show ¬ m + 1 ≤ m by omega)] at this
            cases this
        have hin := matchIn (e := eS c m fr) hm r1 (eS_iff.mpr r3) 12 S' r2 hSm (cnB_mono1 12 _ t2 (fun k r' hk hr' hkS he => by
          rw [eS_iff, rmB_bit, Bool.and_eq_true] at he
          have e2 : ¬ r' - 1 = r - 1 := of_decide_eq_true he.2.2.2
          unfold offR
          rw [Bool.and_eq_true, eS_iff]
          exact ⟨⟨by omega, he.2.1, he.2.2.1⟩, decide_eq_true (by omega)⟩))
        have hle := i0.2 _ (fun k hk => ?_) hin
        · have hb : (S' ||| 2 ^ m).testBit m = true := by rw [Nat.testBit_or, Nat.testBit_two_pow_self, Bool.or_true]
          have := pcn_rm 6 hm hb
          rw [orB_rmS hSm] at this
          omega
        · rw [Nat.testBit_or, Nat.testBit_two_pow, Bool.or_eq_true] at hk
          rcases hk with hk | hk
          · have := t1 k hk
            rw [Am_bit (by omega), Bool.and_eq_true] at this
            have e2 : m + 1 ≤ k := of_decide_eq_true this.1
            rw [Am_bit (by omega), this.2, decide_eq_true (show m ≤ k by omega)]; rfl
          · have : m = k := of_decide_eq_true hk
            subst this
            rw [Am_bit (by omega), decide_eq_true (show m ≤ m by omega), decide_eq_true hm]; rfl
      have := h r r1 r2
      unfold pkP at this
      rw [r3.2.1, r3.2.2, decide_eq_true (show 1 + nuS c (m + 1) (rmB fr (r - 1)) = nuS c m fr by omega)] at this
      cases this
  · refine i0.2 S (fun k hk => ?_) (cnB_mono1 12 S h2 (fun k r hk hr hkS he => ?_))
    · have := h1 k hk
      rw [Am_bit (by omega), Bool.and_eq_true] at this
      have e2 : m + 1 ≤ k := of_decide_eq_true this.1
      rw [Am_bit (by omega), this.2, decide_eq_true (show m ≤ k by omega)]; rfl
    · rw [eS_iff] at he ⊢
      exact ⟨by omega, he.2⟩
theorem nu_next (c : CS) {m : Nat} (hm : m < 6) : nuS c m (fre c m) = (if (pk c m (fre c m)).isSome = true then 1 else 0) + nuS c (m + 1) (fre c (m + 1)) := by
  have e : fre c (m + 1) = nxF (fre c m) (pk c m (fre c m)) := rfl
  cases q : pk c m (fre c m) with
  | none =>
    rw [q] at e
    rw [e]
    have := nu_skip (c := c) (fr := fre c m) hm (fun r h1 h2 => pk_none q h1 h2)
    show _ = 0 + nuS c (m + 1) (fre c m)
    omega
  | some r =>
    rw [q] at e
    rw [e]
    have := (pk_some q).2.2
    unfold pkP at this
    simp only [Bool.and_eq_true, decide_eq_true_eq] at this
    show _ = 1 + nuS c (m + 1) (rmB (fre c m) (r - 1))
    omega
theorem nuS_le (c : CS) (f fr : Nat) : nuS c f fr ≤ 6 := by
  have := mnF_z (F := gF (fun m => mo c m 12) f fr) (z := 6 - f) (2 ^ (6 - f))
  unfold nuS dmn
  omega
theorem mostFrom_nu {T : SX6} {f fr : Nat} (hT : ∀ m, m < 6 → g6_open T m = nI (mo c m 12)) (hf : f ≤ 6) (hfr : fr < 4096) : m6_mostFrom T (nI f) (nI fr) = some (nI (nuS c f fr)) := mostFrom_ok hT hf hfr
theorem lowestPost_ok {T : SX6} {m fr : Nat} (hT : ∀ m, m < 6 → g6_open T m = nI (mo c m 12)) (hm : m < 6) (hfr : fr < 4096) : m6_lowestPost T (nI m) (nI fr) = some (fE (pk c m fr)) := by
  unfold m6_lowestPost
  rw [isMan_in hm, tbd_some, if_neg (show ¬ nI 1 = (0 : Int32) by decide), mostFrom_nu hT (by omega) hfr, tbd_some, I1]
  have key := tit_srch (F := m6_lowestPost_L20 T (nI m) (nI fr) (nI (nuS c m fr))) (fun i => nI (i + 1)) (fun i => pkP c m fr (i + 1)) 12 (fun j => some (nI (j + 1))) (some (-nI 6)) (fun rc i hi => by
    show m6_lowestPost_B20 T (nI m) (nI fr) (nI (nuS c m fr)) rc (nI (i + 1)) = if pkP c m fr (i + 1) = true then some (nI (i + 1)) else rc (nI (i + 1 + 1))
    have h1 := nuS_le c m fr
    have h2 := nuS_le c (m + 1) (rmB fr i)
    have h3 : rmB fr i < 4096 := rmB_le (n := 12) hfr
    have h4 : mo c m 12 &&& fr < 4096 := Nat.lt_of_le_of_lt Nat.and_le_right hfr
    have e : fr ^^^ (fr &&& 2 ^ i) = rmB fr i := rfl
    unfold m6_lowestPost_B20
    simp (disch := omega) only [I12, I1, I0, nLT, if_neg, tin_nI, tgd_true, nC, bitOf_in, tbd_some, hT, nAND, nCLR, Nat.add_sub_cancel, e, nBIT, tnm_eq, nI_add, mostFrom_nu hT]
    unfold pkP
    rw [Nat.testBit_and, mo_bit, decide_eq_true (show i < 12 by omega), Bool.true_and, Nat.add_sub_cancel]
    cases mayS c m (i + 1)
    · rfl
    · cases fr.testBit i
      · rfl
      · rw [if_neg (by decide)]
        by_cases q : 1 + nuS c (m + 1) (rmB fr i) = nuS c m fr
        · rw [if_pos (by rw [q]), decide_eq_true q]; rfl
        · rw [if_neg (fun w => q ((nEQ (by omega) (by omega)).mp w)), decide_eq_false q]; rfl) (fun rc => by
    show m6_lowestPost_B20 T (nI m) (nI fr) (nI (nuS c m fr)) rc (nI 13) = _
    unfold m6_lowestPost_B20
    simp (disch := omega) only [I12, I6, nLT, if_pos]) 12 FU 0 rfl (FU_gt (by decide))
  rw [show nI 1 = nI (0 + 1) from rfl, key]
  unfold pk fE up1
  cases srch (fun i => pkP c m fr (i + 1)) 0 12 <;> rfl
theorem bitOf_E (o : Option Nat) (h : ∀ r, o = some r → 1 ≤ r ∧ r ≤ 12) (fr : Nat) : ∃ b, m9_bitOf (fE o) = some b ∧ nI fr &&& (b ^^^ -nI 1) = nI (nxF fr o) := by
  cases o with
  | none =>
    refine ⟨nI 0, by decide, ?_⟩
    rw [nCLR, Nat.and_zero, Nat.xor_zero]
    rfl
  | some r =>
    have := h r rfl
    refine ⟨nI (2 ^ (r - 1)), bitOf_in this.1 this.2, ?_⟩
    rw [nCLR]; rfl
theorem as_posts {T0 : SX6} (hT : ∀ m, m < 6 → g6_open T0 m = nI (mo c m 12)) : ∀ d n m (T : SX6), m + d = 6 → d < n → g6_open T = g6_open T0 → g6_posted T = g6_posted T0 → (∀ k, k < m → g6_post T k = fE (pk c k (fre c k))) → ∃ T', tit (m6_assign_L43 B) n (nI (fre c m), nI m, T) = some T' ∧ g6_posted T' = g6_posted T0 ∧ ∀ k, k < 6 → g6_post T' k = fE (pk c k (fre c k)) := by
  intro d
  induction d with
  | zero =>
    intro n m T hm hn ho hp hk
    obtain ⟨n, rfl⟩ : ∃ m, n = m + 1 := ⟨n - 1, by omega⟩
    refine ⟨T, ?_, hp, fun k h => hk k (by omega)⟩
    rw [show m = 6 by omega, tit_s]
    show m6_assign_B43 B (tit (m6_assign_L43 B) n) (nI (fre c 6)) (nI 6) T = _
    unfold m6_assign_B43
    simp (disch := omega) only [I6, nLE, if_pos]
  | succ d ih =>
    intro n m T hm hn ho hp hk
    obtain ⟨n, rfl⟩ : ∃ m, n = m + 1 := ⟨n - 1, by omega⟩
    have hl := lowestPost_ok (c := c) (T := T) (m := m) (fr := fre c m) (by rw [ho]; exact hT) (by omega) (fre_lt c m)
    obtain ⟨b, b1, b2⟩ := bitOf_E (pk c m (fre c m)) (fun r h => ⟨(pk_some h).1, (pk_some h).2.1⟩) (fre c m)
    obtain ⟨T', a1, a2, a3⟩ := ih n (m + 1) (s6_post T (upd (g6_post T) m (fE (pk c m (fre c m))))) (by omega) (by omega) ho hp (fun k hk' => by
      show upd (g6_post T) m _ k = _
      by_cases e : k = m
      · subst e; rw [upd_same]
      · rw [upd_other e]; exact hk k (by omega))
    refine ⟨T', ?_, a2, a3⟩
    rw [tit_s]
    show m6_assign_B43 B (tit (m6_assign_L43 B) n) (nI (fre c m)) (nI m) T = _
    unfold m6_assign_B43
    simp (disch := omega) only [I6, I1, nLE, if_neg, hl, tbd_some, tin_nI, tgd_true, nC, upd_same, b1, b2, tnm_eq, nI_add]
    exact a1
theorem assign_ok (h : RC c B) (hw : WF cb c) (T : SX6) : ∃ T', m6_assign T B = some T' ∧ g6_posted T' = nI (nuS c 0 4095) ∧ ∀ k, k < 6 → g6_post T' k = fE (pk c k (fre c k)) := by
  have main : ∀ d n m (T : SX6), m + d = 6 → d < n → (∀ k, k < m → g6_open T k = nI (mo c k 12)) → ∃ T', tit (m6_assign_L2 B) n (nI m, T) = some T' ∧ g6_posted T' = nI (nuS c 0 4095) ∧ ∀ k, k < 6 → g6_post T' k = fE (pk c k (fre c k)) := by
    intro d
    induction d with
    | zero =>
      intro n m T hm hn hk
      obtain ⟨n, rfl⟩ : ∃ m, n = m + 1 := ⟨n - 1, by omega⟩
      have e6 : m = 6 := by omega
      subst e6
      have hx : ∀ x : Int32, ∃ T', tit (m6_assign_L43 B) FU (nI (fre c 0), nI 0, s6_posted T x) = some T' ∧ g6_posted T' = x ∧ ∀ k, k < 6 → g6_post T' k = fE (pk c k (fre c k)) := fun x => as_posts (c := c) (B := B) (T0 := s6_posted T x) (fun k hk' => hk k hk') 6 FU 0 (s6_posted T x) (by omega) (FU_gt (by decide)) rfl rfl (fun k hk => by omega)
      obtain ⟨T', a1, a2, a3⟩ := hx (nI (nuS c 0 4095))
      refine ⟨T', ?_, a2, a3⟩
      rw [tit_s]
      show m6_assign_B2 B (tit (m6_assign_L2 B) n) (nI 6) T = _
      unfold m6_assign_B2
      simp (disch := omega) only [I6, I0, I4095, nLE, if_pos, mostFrom_nu hk, tbd_some]
      exact a1
    | succ d ih =>
      intro n m T hm hn hk
      obtain ⟨n, rfl⟩ : ∃ m, n = m + 1 := ⟨n - 1, by omega⟩
      obtain ⟨T', a1, a2⟩ := ih n (m + 1) (s6_open T (upd (g6_open T) m (nI (mo c m 12)))) (by omega) (by omega) (fun k hk' => by
        show upd (g6_open T) m _ k = _
        by_cases e : k = m
        · subst e; rw [upd_same]
        · rw [upd_other e]; exact hk k (by omega))
      refine ⟨T', ?_, a2⟩
      rw [tit_s]
      show m6_assign_B2 B (tit (m6_assign_L2 B) n) (nI m) T = _
      unfold m6_assign_B2
      simp (disch := omega) only [I6, I1, nLE, if_neg, rungsOpenTo_ok h hw, tbd_some, tin_nI, tgd_true, nC, tnm_eq, nI_add]
      exact a1
  unfold m6_assign
  rw [I0]
  exact main 6 FU 0 T (by omega) (FU_gt (by decide)) (fun k hk => by omega)
end
