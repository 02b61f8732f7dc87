/-! how many can stand: the reference -/
theorem nar1 : vp_nar .boolean (1 : Int32) = nI 1 := by decide
theorem nar0 : vp_nar .boolean (0 : Int32) = nI 0 := by decide
theorem can_can (S : SX10) (a b : Nat → Int32) : s10_can (s10_can S a) b = s10_can S b := rfl
theorem gcan (S : SX10) (a : Nat → Int32) : g10_can (s10_can S a) = a := rfl
theorem nowcan (S : SX10) (a : Nat → Int32) : g10_now (s10_can S a) = g10_now S := rfl
theorem can_id (S : SX10) : s10_can S (g10_can S) = S := rfl
theorem kp_can (S : SX10) (a : Nat → Int32) : KP S (s10_can S a) := ⟨rfl, rfl, rfl, rfl, rfl, rfl, rfl⟩
theorem upd_id {f : Nat → Int32} {k : Nat} {x : Int32} (h : f k = x) : upd f k x = f := by
  funext j
  rw [upd_e]
  by_cases e : j = k
  · rw [if_pos e, e, h]
  · rw [if_neg e]
theorem rmB_lt {S m : Nat} (h : S.testBit m = true) : rmB S m < S := by
  have e : S = rmB S m ||| 2 ^ m := by
    apply Nat.eq_of_testBit_eq
    intro k
    rw [Nat.testBit_or, rmB_bit, Nat.testBit_two_pow]
    by_cases q : k = m
    · subst q; simp [h]
    · have q2 : ¬ m = k := fun w => q w.symm
      simp [q, q2]
  have h1 : rmB S m ≤ S := by
    rw [e, orB_rmS (by rw [rmB_bit]; simp)]
    exact Nat.left_le_or
  have h2 : rmB S m ≠ S := by
    intro q
    have := rmB_bit S m m
    rw [q, h] at this
    simp at this
  omega
section
variable {c : CS} {cb : Nat}
def eT (c : CS) (f fr : Nat) := eS c f fr
/-- one set, one rung -/
def oS (c : CS) (f fr r S j : Nat) : Bool := cnB (eS c f fr) r S || orB (fun i => S.testBit (f + i) && eS c f fr (f + i) (r + 1) && cnB (eS c f fr) r (rmB S (f + i))) j
theorem oS_end (c : CS) {f fr r S : Nat} (hf : f ≤ 6) : oS c f fr r S (6 - f) = cnB (eS c f fr) (r + 1) S := by
  unfold oS
  show _ = (cnB (eS c f fr) r S || orB (fun m => S.testBit m && eS c f fr m (r + 1) && cnB (eS c f fr) r (rmB S m)) 6)
  congr 1
  rw [Bool.eq_iff_iff, orB_iff, orB_iff]
  constructor
  · rintro ⟨i, h1, h2⟩
    exact ⟨f + i, by omega, h2⟩
  · rintro ⟨m, h1, h2⟩
    have hm : f ≤ m := by
      simp only [Bool.and_eq_true] at h2
      have := h2.1.2
      unfold eS at this
      rw [Bool.and_eq_true] at this
      exact of_decide_eq_true this.1
    refine ⟨m - f, by omega, ?_⟩
    rw [show f + (m - f) = m by omega]
    exact h2
theorem ms_in {T : SX10} {f fr taken r S : Nat} (h : RM c (g10_now T)) (hw : WF cb c) (hf : f ≤ 6) (hr : r + 1 ≤ 12) (hfree : fr.testBit r = true) (hS : S < 64) {C : Nat → Int32} (hC : ∀ k, k ≤ S → C k = bI (cnB (eS c f fr) r k)) (rc31 rc41 : Int32 × SX10 → Option (Int32 × SX10)) : tit (m10_most_L57 (nI f) (nI taken) (nI (r + 1)) (nI S) rc31 rc41) FU (nI f, s10_can T C) = rc41 (nI S + -1, s10_can T (upd C S (bI (cnB (eS c f fr) (r + 1) S)))) := by
  have e0 : C = upd C S (bI (oS c f fr r S 0)) := by
    rw [upd_id]
    rw [hC S (Nat.le_refl _)]
    unfold oS
    show _ = bI (_ || false)
    rw [Bool.or_false]
  have key := tit_run (F := m10_most_L57 (nI f) (nI taken) (nI (r + 1)) (nI S) rc31 rc41) (fun j => (nI (f + j), s10_can T (upd C S (bI (oS c f fr r S j))))) (6 - f) (rc41 (nI S + -1, s10_can T (upd C S (bI (cnB (eS c f fr) (r + 1) S))))) (fun rc' j hj => by
    show m10_most_B57 (nI f) (nI taken) (nI (r + 1)) (nI S) rc31 rc41 rc' (nI (f + j)) (s10_can T (upd C S (bI (oS c f fr r S j)))) = rc' (nI (f + j + 1), s10_can T (upd C S (bI (oS c f fr r S (j + 1)))))
    have e1 : oS c f fr r S (j + 1) = (oS c f fr r S j || (S.testBit (f + j) && eS c f fr (f + j) (r + 1) && cnB (eS c f fr) r (rmB S (f + j)))) := by
      unfold oS
      show (_ || (_ || _)) = _
      rw [Bool.or_assoc]
    have e2 : eS c f fr (f + j) (r + 1) = mayS c (f + j) (r + 1) := by
      unfold eS
      rw [decide_eq_true (show f ≤ f + j by omega), Nat.add_sub_cancel, hfree, Bool.and_true, Bool.true_and]
    unfold m10_most_B57 m10_most_J121 m10_most_J117
    simp (disch := omega) only [I6, I0, I1, nLE, if_neg, tin_nI, tgd_true, nC, gcan, upd_same, bI_0, has_ok, tbd_some, may_ok (T := s10_can T (upd C S (bI (oS c f fr r S j)))) h hw, nSHL1, nCLR, tnm_eq, nI_add, can_can, upd_upd]
    rw [e1, e2]
    cases q1 : oS c f fr r S j
    · rw [if_pos rfl]
      cases q2 : S.testBit (f + j)
      · rw [if_pos rfl, show vp_nar .boolean (nI 0) = nI 0 from nar0]; rfl
      · have hl := rmB_lt q2
        have hlt : rmB S (f + j) < 64 := by omega
        rw [if_neg (by decide)]
        cases q3 : mayS c (f + j) (r + 1)
        · rw [if_pos rfl, show vp_nar .boolean (nI 0) = nI 0 from nar0]; rfl
        · rw [if_neg (by decide)]
          rw [show S ^^^ (S &&& 2 ^ (f + j)) = rmB S (f + j) from rfl, tin_nI hlt (by omega), tgd_true, nC (by omega), upd_other (by omega), hC _ (by omega)]
          simp only [bI_0]
          cases q4 : cnB (eS c f fr) r (rmB S (f + j))
          · rw [if_pos rfl, show vp_nar .boolean (nI 0) = nI 0 from nar0]; rfl
          · rw [if_neg (by decide), show vp_nar .boolean (nI 1) = nI 1 from nar1]; rfl
    · rw [if_neg (by decide), show vp_nar .boolean (nI 1) = nI 1 from nar1]; rfl) (fun rc' => by
    show m10_most_B57 (nI f) (nI taken) (nI (r + 1)) (nI S) rc31 rc41 rc' (nI (f + (6 - f))) (s10_can T (upd C S (bI (oS c f fr r S (6 - f))))) = _
    unfold m10_most_B57
    rw [oS_end c hf]
    simp (disch := omega) only [I6, nLE, if_pos, tnm_eq]) FU (FU_gt (by omega))
  rw [show (nI f, s10_can T C) = (nI (f + 0), s10_can T (upd C S (bI (oS c f fr r S 0)))) by rw [← e0]; rfl]
  exact key
theorem ms_sets {T : SX10} {f fr taken r : Nat} (h : RM c (g10_now T)) (hw : WF cb c) (hf : f ≤ 6) (hr : r + 1 ≤ 12) (hfree : fr.testBit r = true) (htk : taken < 2147483648) (ht : taken.testBit (r + 1) = false) (rc31 : Int32 × SX10 → Option (Int32 × SX10)) : ∀ k n (C : Nat → Int32), k < 64 → k < n → (∀ S, S ≤ k → C S = bI (cnB (eS c f fr) r S)) → (∀ S, k < S → S < 64 → C S = bI (cnB (eS c f fr) (r + 1) S)) → ∃ C', tit (m10_most_L41 (nI f) (nI taken) (nI (r + 1)) rc31) n (nI k, s10_can T C) = rc31 (nI (r + 2), s10_can T C') ∧ ∀ S, S < 64 → C' S = bI (cnB (eS c f fr) (r + 1) S) := by
  intro k
  induction k with
  | zero =>
    intro n C hk hn h1 h2
    obtain ⟨n, rfl⟩ : ∃ m, n = m + 1 := ⟨n - 1, by omega⟩
    refine ⟨C, ?_, fun S hS => ?_⟩
    · show m10_most_B41 (nI f) (nI taken) (nI (r + 1)) rc31 (tit (m10_most_L41 (nI f) (nI taken) (nI (r + 1)) rc31) n) (nI 0) (s10_can T C) = _
      unfold m10_most_B41
      simp (disch := omega) only [I0, I1, nLE, if_pos, tnm_eq, nI_add]
    · by_cases e : S = 0
      · subst e; rw [h1 0 (Nat.le_refl _), cnB_0, cnB_0]
      · exact h2 S (by omega) hS
  | succ k ih =>
    intro n C hk hn h1 h2
    obtain ⟨n, rfl⟩ : ∃ m, n = m + 1 := ⟨n - 1, by omega⟩
    have hin := ms_in (T := T) (taken := taken) (S := k + 1) h hw hf hr hfree (by omega) (C := C) (fun S hS => h1 S hS) rc31 (tit (m10_most_L41 (nI f) (nI taken) (nI (r + 1)) rc31) n)
    obtain ⟨C', a1, a2⟩ := ih n (upd C (k + 1) (bI (cnB (eS c f fr) (r + 1) (k + 1)))) (by omega) (by omega) (fun S hS => by rw [upd_other (by omega)]; exact h1 S (by omega)) (fun S hS hS2 => by
      by_cases e : S = k + 1
      · subst e; rw [upd_same]
      · rw [upd_other e]; exact h2 S (by omega) hS2)
    refine ⟨C', ?_, a2⟩
    show m10_most_B41 (nI f) (nI taken) (nI (r + 1)) rc31 (tit (m10_most_L41 (nI f) (nI taken) (nI (r + 1)) rc31) n) (nI (k + 1)) (s10_can T C) = _
    unfold m10_most_B41
    simp (disch := omega) only [I0, nLE, if_neg, has_ok, tbd_some, ht, bI_f, n01, if_true]
    rw [hin, dn_s, a1]
theorem cnB_skip {e : Nat → Nat → Bool} {r : Nat} (h : ∀ m, m < 6 → e m (r + 1) = false) (S : Nat) : cnB e (r + 1) S = cnB e r S := by
  rw [Bool.eq_iff_iff, cnB_s]
  constructor
  · rintro (a | ⟨m, h1, h2, h3, h4⟩)
    · exact a
    · rw [h m h1] at h3; cases h3
  · exact Or.inl
def bst (p : Nat → Bool) : Nat → Nat
  | 0 => 0
  | i + 1 => if p i = true ∧ bst p i < pcn i 13 then pcn i 13 else bst p i
theorem bst_ge {p : Nat → Bool} : ∀ n S, S < n → p S = true → pcn S 13 ≤ bst p n
  | 0, S, h, _ => by omega
  | n + 1, S, h, hp => by
    unfold bst
    by_cases e : S = n
    · subst e
      split
      · omega
      · rename_i q; have : ¬ bst p S < pcn S 13 := fun w => q ⟨hp, w⟩; omega
    · have := bst_ge n S (by omega) hp
      split
      · rename_i q; omega
      · exact this
theorem bst_ex {p : Nat → Bool} (h0 : p 0 = true) : ∀ n, ∃ S, S < n + 1 ∧ p S = true ∧ pcn S 13 = bst p (n + 1)
  | 0 => by
    refine ⟨0, by omega, h0, ?_⟩
    unfold bst
    split <;> rfl
  | n + 1 => by
    obtain ⟨S, h1, h2, h3⟩ := bst_ex h0 n
    by_cases q : p (n + 1) = true ∧ bst p (n + 1) < pcn (n + 1) 13
    · refine ⟨n + 1, by omega, q.1, ?_⟩
      show _ = if _ then _ else _
      rw [if_pos q]
    · refine ⟨S, by omega, h2, ?_⟩
      show _ = if _ then _ else _
      rw [if_neg q]; exact h3
theorem bst_n {p : Nat → Bool} : ∀ n, bst p n ≤ 13
  | 0 => by show 0 ≤ 13; omega
  | n + 1 => by
    have := bst_n (p := p) n
    have h2 := pcn_n n 13
    unfold bst
    split <;> omega
theorem pcn_613 : ∀ S, S < 64 → pcn S 13 = pcn S 6 := by decide +kernel
theorem bst_is {f fr : Nat} (hf : f ≤ 6) : isNu (eS c f fr) (Am f) (bst (cnB (eS c f fr) 12) 64) := by
  refine ⟨?_, fun S h1 h2 => ?_⟩
  · obtain ⟨S, a1, a2, a3⟩ := bst_ex (p := cnB (eS c f fr) 12) (cnB_0 _ _) 63
    refine ⟨S, cnB_sub (fun m r hm he => ?_) 12 S a2, a2, ?_⟩
    · unfold eS at he
      rw [Bool.and_eq_true] at he
      rw [Am_bit hf, he.1, decide_eq_true hm]; rfl
    · rw [← a3, pcn_613 S (by omega)]
  · have hl := sub_lt h1 (Am_lt f)
    have := bst_ge (p := cnB (eS c f fr) 12) 64 S hl h2
    rw [pcn_613 S hl] at this
    exact this
theorem ms_best {T : SX10} {p : Nat → Bool} (hC : ∀ S, S < 64 → g10_can T S = bI (p S)) : tit (m10_most_L146 T) FU (nI 0, nI 1) = some (nI (bst p 64), T) := by
  have e0 : bst p 1 = 0 := by
    unfold bst
    rw [if_neg (fun q => Nat.lt_irrefl 0 q.2)]; rfl
  rw [← e0]
  exact tit_run (fun i => (nI (bst p (i + 1)), nI (i + 1))) 63 _ (fun rc i hi => by
    show m10_most_B146 T rc (nI (bst p (i + 1))) (nI (i + 1)) = rc (nI (if p (i + 1) = true ∧ bst p (i + 1) < pcn (i + 1) 13 then pcn (i + 1) 13 else bst p (i + 1)), nI (i + 1 + 1))
    have h1 := bst_n (p := p) (i + 1)
    have h2 := pcn_n (i + 1) 13
    unfold m10_most_B146 m10_most_J180
    simp (disch := omega) only [I64, I0, I1, nLE, if_neg, tin_nI, tgd_true, nC, hC, bI_0, bits_ok, tbd_some, tnm_eq, nI_add]
    cases q : p (i + 1)
    · rw [if_pos rfl, if_neg (fun w => by cases w.1)]
    · rw [if_neg (by decide)]
      by_cases w : pcn (i + 1) 13 ≤ bst p (i + 1)
      · rw [if_pos w, if_neg (fun u => by omega)]
      · rw [if_neg w, if_pos ⟨rfl, by omega⟩]) (fun rc => by
    show m10_most_B146 T rc (nI (bst p 64)) (nI 64) = _
    unfold m10_most_B146
    simp (disch := omega) only [I64, nLE, if_pos]) FU (FU_gt (by decide))
theorem ms_end {T : SX10} {f fr : Nat} (hf : f ≤ 6) {C : Nat → Int32} (x2 : Int32) (rc : Int32 × SX10 → Option (Int32 × SX10)) (hC : ∀ S, S < 64 → C S = bI (cnB (eS c f fr) 12 S)) : m10_most_B31 (nI f) x2 rc (nI 13) (s10_can T C) = some (nI (nuS c f fr), s10_can T C) := by
  have e : bst (cnB (eS c f fr) 12) 64 = nuS c f fr := isNu_uniq (bst_is hf) (nuS_is c (fr := fr) hf)
  have k := ms_best (T := s10_can T C) (p := cnB (eS c f fr) 12) hC
  rw [e] at k
  unfold m10_most_B31
  simp (disch := omega) only [I13, I0, I1, nLE, if_pos]
  exact k
theorem ms_taken {T : SX10} {taken r : Nat} (hr : r < 12) (htk : taken < 2147483648) (hb : taken.testBit (r + 1) = true) (x1 : Int32) (rc : Int32 × SX10 → Option (Int32 × SX10)) : tit (m10_most_L41 x1 (nI taken) (nI (r + 1)) rc) FU (nI 63, T) = rc (nI (r + 2), T) := by
  exact tit_run (fun _ => (nI 63, T)) 0 _ (fun rc i hi => absurd hi (by omega)) (fun rc' => by
    show m10_most_B41 x1 (nI taken) (nI (r + 1)) rc rc' (nI 63) T = _
    unfold m10_most_B41
    simp (disch := omega) only [I0, I1, nLE, if_neg, has_ok, tbd_some, hb, bI_t, n10, if_false, tnm_eq, nI_add]) FU (FU_gt (by decide))
theorem ms_one {T : SX10} {f fr taken r : Nat} (h : RM c (g10_now T)) (hw : WF cb c) (hf : f ≤ 6) (hr : r < 12) (htk : taken < 2147483648) (hb : taken.testBit (r + 1) = !fr.testBit r) {C : Nat → Int32} (hC : ∀ S, S < 64 → C S = bI (cnB (eS c f fr) r S)) (rc : Int32 × SX10 → Option (Int32 × SX10)) : ∃ C', tit (m10_most_L41 (nI f) (nI taken) (nI (r + 1)) rc) FU (nI 63, s10_can T C) = rc (nI (r + 2), s10_can T C') ∧ ∀ S, S < 64 → C' S = bI (cnB (eS c f fr) (r + 1) S) := by
  cases q : fr.testBit r
  · rw [q] at hb
    refine ⟨C, ms_taken hr htk hb _ _, fun S hS => ?_⟩
    rw [hC S hS, cnB_skip (fun m hm => ?_)]
    unfold eS
    rw [Nat.add_sub_cancel, q, Bool.and_false, Bool.and_false]
  · rw [q] at hb
    exact ms_sets (T := T) h hw hf (by omega) q htk hb rc 63 FU C (by omega) (FU_gt (by decide)) (fun S hS => hC S (by omega)) (fun S h1 h2 => by omega)
theorem ms_rungs {T : SX10} {f fr taken : Nat} (h : RM c (g10_now T)) (hw : WF cb c) (hf : f ≤ 6) (htk : taken < 2147483648) (ht : ∀ r, r < 12 → taken.testBit (r + 1) = !fr.testBit r) : ∀ d n r (C : Nat → Int32), r + d = 12 → d < n → (∀ S, S < 64 → C S = bI (cnB (eS c f fr) r S)) → ∃ C', tit (m10_most_L31 (nI f) (nI taken)) n (nI (r + 1), s10_can T C) = some (nI (nuS c f fr), s10_can T C') := by
  intro d
  induction d with
  | zero =>
    intro n r C hr hn hC
    obtain ⟨n, rfl⟩ : ∃ m, n = m + 1 := ⟨n - 1, by omega⟩
    have e : r = 12 := by omega
    rw [e] at hC
    refine ⟨C, ?_⟩
    rw [show r + 1 = 13 by omega, tit_s]
    exact ms_end hf (nI taken) (tit (m10_most_L31 (nI f) (nI taken)) n) hC
  | succ d ih =>
    intro n r C hr hn hC
    obtain ⟨n, rfl⟩ : ∃ m, n = m + 1 := ⟨n - 1, by omega⟩
    obtain ⟨C', a1, a2⟩ := ms_one (T := T) (r := r) h hw hf (by omega) htk (ht r (by omega)) hC (tit (m10_most_L31 (nI f) (nI taken)) n)
    obtain ⟨C'', b1⟩ := ih n (r + 1) C' (by omega) (by omega) a2
    refine ⟨C'', ?_⟩
    rw [tit_s]
    show m10_most_B31 (nI f) (nI taken) (tit (m10_most_L31 (nI f) (nI taken)) n) (nI (r + 1)) (s10_can T C) = _
    unfold m10_most_B31
    simp (disch := omega) only [I13, I63, nLE, if_neg]
    rw [a1, b1]
theorem most_ok {T : SX10} {f fr taken : Nat} (h : RM c (g10_now T)) (hw : WF cb c) (hf : f ≤ 6) (htk : taken < 2147483648) (ht : ∀ r, r < 12 → taken.testBit (r + 1) = !fr.testBit r) : ∃ T', m10_most T (nI f) (nI taken) = some (nI (nuS c f fr), T') ∧ g10_now T' = g10_now T ∧ KP T T' := by
  let C : Nat → Nat → Int32 := fun i k => if k < i then bI (decide (k = 0)) else g10_can T k
  obtain ⟨C', b1⟩ := ms_rungs (T := T) (fr := fr) h hw hf htk ht 12 FU 0 (C 64) (by omega) (FU_gt (by decide)) (fun S hS => if_pos hS)
  refine ⟨s10_can T C', ?_, rfl, kp_can T C'⟩
  rw [← b1]
  unfold m10_most
  have e0 : T = s10_can T (C 0) := by
    have : C 0 = g10_can T := by funext k; exact if_neg (by omega)
    rw [this]; rfl
  have key := tit_run (F := m10_most_L2 (nI f) (nI taken)) (fun i => (nI i, s10_can T (C i))) 64 (tit (m10_most_L31 (nI f) (nI taken)) FU (nI 1, s10_can T (C 64))) (fun rc i hi => by
    show m10_most_B2 (nI f) (nI taken) rc (nI i) (s10_can T (C i)) = rc (nI (i + 1), s10_can T (C (i + 1)))
    have e1 : C (i + 1) = upd (C i) i (bI (decide (i = 0))) := by
      funext k
      rw [upd_e]
      show (if k < i + 1 then bI (decide (k = 0)) else g10_can T k) = _
      by_cases e : k = i
      · subst e; rw [if_pos (by omega), if_pos rfl]
      · rw [if_neg e]
        show _ = if k < i then bI (decide (k = 0)) else g10_can T k
        by_cases q : k < i
        · rw [if_pos q, if_pos (by omega)]
        · rw [if_neg q, if_neg (by omega)]
    unfold m10_most_B2
    simp (disch := omega) only [I64, I0, I1, nLE, if_neg, tin_nI, tgd_true, nC, nEQ, tnm_eq, nI_add, can_can, gcan]
    rw [e1]
    by_cases e : i = 0
    · rw [if_pos e, decide_eq_true e, show vp_nar .boolean (nI 1) = nI 1 from nar1]; rfl
    · rw [if_neg e, decide_eq_false e, show vp_nar .boolean (nI 0) = nI 0 from nar0]; rfl) (fun rc => by
    show m10_most_B2 (nI f) (nI taken) rc (nI 64) (s10_can T (C 64)) = _
    unfold m10_most_B2
    simp (disch := omega) only [I64, I1, nLE, if_pos]) FU (FU_gt (by decide))
  rw [I0]
  rw [show (nI 0, T) = (nI 0, s10_can T (C 0)) by rw [← e0]]
  exact key
end
