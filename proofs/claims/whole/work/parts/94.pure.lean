/-! the law's loop answers 1 for every script -/
theorem law_go {L : Nat} {xs : Nat → Int32} (hL5 : 5 ≤ L) (hL : L ≤ 2560) : ∀ (k n i cb : Nat) (XA : SX0) (XB : SX1) (XF : SX3) (XI : SX4) (XIA : SX0) (XIF : SX1) (XP : SX5) (XPO : SX6) (XR : SX7) (XT : SX8) (J0 J1 : Option SX1) (M : SX10), L < i + 5 * k + 5 → i ≤ L → k < n → 100 ≤ cb → cb + 60 * k ≤ 1000000 → Inv cb XB XP J0 J1 M → tit (law_L xs L) n (nI i, XA, XB, XF, XI, XIA, XIF, XP, XPO, XR, XT, J0, J1, M) = some (nI 1) := by
  intro k
  have hend : ∀ (n i : Nat) (XA : SX0) (XB : SX1) (XF : SX3) (XI : SX4) (XIA : SX0) (XIF : SX1) (XP : SX5) (XPO : SX6) (XR : SX7) (XT : SX8) (J0 J1 : Option SX1) (M : SX10), L < i + 5 → i ≤ L → tit (law_L xs L) (n + 1) (nI i, XA, XB, XF, XI, XIA, XIF, XP, XPO, XR, XT, J0, J1, M) = some (nI 1) := by
    intro n i XA XB XF XI XIA XIF XP XPO XR XT J0 J1 M h1 h2
    rw [tit_s]
    show law_B xs L (tit (law_L xs L) n) (nI i) XA XB XF XI XIA XIF XP XPO XR XT J0 J1 M = _
    unfold law_B
    rw [show nI L - (5 : Int32) = nI (L - 5) from nSUB (a := L) (b := 5) (by omega), if_pos ((nLT (by omega) (by omega)).mpr (by omega))]
    rfl
  induction k with
  | zero =>
    intro n i cb XA XB XF XI XIA XIF XP XPO XR XT J0 J1 M h1 h2 hn hc hc2 hI
    obtain ⟨n, rfl⟩ : ∃ m, n = m + 1 := ⟨n - 1, by omega⟩
    exact hend n i _ _ _ _ _ _ _ _ _ _ _ _ _ (by omega) h2
  | succ k ih =>
    intro n i cb XA XB XF XI XIA XIF XP XPO XR XT J0 J1 M h1 h2 hn hc hc2 hI
    obtain ⟨n, rfl⟩ : ∃ m, n = m + 1 := ⟨n - 1, by omega⟩
    by_cases e : L < i + 5
    · exact hend n i _ _ _ _ _ _ _ _ _ _ _ _ _ e h2
    · rw [tit_s]
      show law_B xs L (tit (law_L xs L) n) (nI i) XA XB XF XI XIA XIF XP XPO XR XT J0 J1 M = _
      exact law_step hL (by omega) hc (by omega) hI (tit (law_L xs L) n) (fun cb' XA XB XF XI XIA XIF XP XPO XR XT J0 J1 M q1 q2 hI' => ih n (i + 5) cb' XA XB XF XI XIA XIF XP XPO XR XT J0 J1 M (by omega) (by omega) (by omega) (by omega) (by omega) hI')
theorem small_L : ∀ L, L < 5 → nI L - (5 : Int32) < nI 0 := by decide
theorem pure_law (L : Nat) (xs : Nat → Int32) (hL : L ≤ 2560) : ∃ Mz, m10_init_J101 i10 = some Mz ∧ tit (law_L xs L) FU (0, i0, i1, i3, i4, i0, i1, i5, i6, i7, i8, none, none, Mz) = some 1 := by
  refine ⟨_, init_ok, ?_⟩
  rw [I0, I1]
  by_cases h : 5 ≤ L
  · exact law_go h hL 512 FU 0 100 i0 i1 i3 i4 i0 i1 i5 i6 i7 i8 none none _ (by omega) (by omega) (FU_gt (by decide)) (by omega) (by omega) inv_0
  · exact tit_run (fun _ => (nI 0, i0, i1, i3, i4, i0, i1, i5, i6, i7, i8, none, none, s10_book i10 (bk2 6))) 0 _ (fun rc i hi => absurd hi (by omega)) (fun rc => by
      show law_B xs L rc (nI 0) i0 i1 i3 i4 i0 i1 i5 i6 i7 i8 none none (s10_book i10 (bk2 6)) = _
      unfold law_B
      rw [if_pos (small_L L (by omega))]
      rfl) FU (FU_gt (by decide))
