/-! the law, call by call -/
theorem cmpP {A B C : Type} {x : Option (Int32 × A)} {y : Option (Int32 × B)} {v : Int32} {a : A} {b : B} (hx : x = some (v, a)) (hy : y = some (v, b)) (f : Int32 × A → Int32 × B → Option C) (g : Option C) : tbd x (fun r => tbd y (fun s => if r.1 = s.1 then f r s else g)) = f (v, a) (v, b) := by
  rw [hx, hy, tbd_some, tbd_some]
  exact if_pos rfl
theorem cmpV {B C : Type} {x : Option Int32} {y : Option (Int32 × B)} {v : Int32} {b : B} (hx : x = some v) (hy : y = some (v, b)) (f : Int32 → Int32 × B → Option C) (g : Option C) : tbd x (fun r => tbd y (fun s => if r = s.1 then f r s else g)) = f v (v, b) := by
  rw [hx, hy, tbd_some, tbd_some]
  exact if_pos rfl
theorem cmpF {C : Type} {x y : Option Int32} {v : Int32} (hx : x = some v) (hy : y = some v) (f : Int32 → Int32 → Option C) (g : Option C) : tbd x (fun r => tbd y (fun s => if r = s then f r s else g)) = f v v := by
  rw [hx, hy, tbd_some, tbd_some]
  exact if_pos rfl
theorem lg_same (v : Int64) : lg_cmp v v = nI 0 := by
  unfold lg_cmp
  rw [if_neg (Int64.lt_irrefl), if_pos rfl]
  exact I0
theorem cmpL {A B C : Type} {x : Option (Int64 × A)} {y : Option (Int64 × B)} {v : Int64} {a : A} {b : B} (hx : x = some (v, a)) (hy : y = some (v, b)) (f : Int64 × A → Int64 × B → Option C) (g : Option C) : tbd x (fun r => tbd y (fun s => if lg_cmp r.1 s.1 = nI 0 then f r s else g)) = f (v, a) (v, b) := by
  rw [hx, hy, tbd_some, tbd_some]
  exact if_pos (lg_same v)
set_option maxRecDepth 100000 in
set_option maxHeartbeats 4000000 in
theorem law_step {L : Nat} {xs : Nat → Int32} (hL : L ≤ 2560) {i cb : Nat} {XA : SX0} {XB : SX1} {XF : SX3} {XI : SX4} {XIA : SX0} {XIF : SX1} {XP : SX5} {XPO : SX6} {XR : SX7} {XT : SX8} {J0 J1 : Option SX1} {M : SX10} (hi : i + 5 ≤ L) (hcb : 100 ≤ cb) (hcb2 : cb ≤ 1000000) (hI : Inv cb XB XP J0 J1 M) (rc : Int32 × SX0 × SX1 × SX3 × SX4 × SX0 × SX1 × SX5 × SX6 × SX7 × SX8 × Option SX1 × Option SX1 × SX10 → Option Int32) (hrc : ∀ (cb' : Nat) (XA : SX0) (XB : SX1) (XF : SX3) (XI : SX4) (XIA : SX0) (XIF : SX1) (XP : SX5) (XPO : SX6) (XR : SX7) (XT : SX8) (J0 J1 : Option SX1) (M : SX10), cb ≤ cb' → cb' ≤ cb + 60 → Inv cb' XB XP J0 J1 M → rc (nI (i + 5), XA, XB, XF, XI, XIA, XIF, XP, XPO, XR, XT, J0, J1, M) = some (nI 1)) : law_B xs L rc (nI i) XA XB XF XI XIA XIF XP XPO XR XT J0 J1 M = some (nI 1) := by
  unfold law_B
  rw [show nI L - (5 : Int32) = nI (L - 5) from nSUB (a := L) (b := 5) (by omega), if_neg (fun w => absurd ((nLT (by omega) (by omega)).mp w) (by omega)), tin_nI (show i < L by omega) (by omega), tgd_true]
  generalize xs (Int32.toNatClampNeg (nI i)) &&& 31 = o
  by_cases h0 : o = (0 : Int32)
  · rw [if_pos h0]
    simp (disch := omega) only [I0, I1, I2, I3, I4, I5, nI_add, tin_nI, tgd_true, nC, tnm_eq]
    obtain ⟨v, B', M', e1, e2, h'⟩ := rung_c hI (xs (i + 1)) (xs (i + 2)) (xs (i + 3)) (xs (i + 4))
    exact (cmpP e1 e2 _ _).trans (hrc cb XA B' XF XI XIA XIF XP XPO XR XT J0 J1 M' (by omega) (by omega) h')
  rw [if_neg h0]
  by_cases h1 : o = (1 : Int32)
  · rw [if_pos h1]
    simp (disch := omega) only [I0, I1, I2, I3, I4, I5, nI_add, tin_nI, tgd_true, nC, tnm_eq]
    obtain ⟨v, B', M', e1, e2, h'⟩ := man_c hI (by omega) (xs (i + 1)) (xs (i + 2)) (xs (i + 3)) (xs (i + 4))
    exact (cmpP e1 e2 _ _).trans (hrc cb XA B' XF XI XIA XIF XP XPO XR XT J0 J1 M' (by omega) (by omega) h')
  rw [if_neg h1]
  by_cases h2 : o = (2 : Int32)
  · rw [if_pos h2]
    simp (disch := omega) only [I0, I1, I2, I3, I4, I5, nI_add, tin_nI, tgd_true, nC, tnm_eq]
    obtain ⟨v, P', M', e1, e2, h'⟩ := say_c hI (xs (i + 1))
    exact (cmpP e1 e2 _ _).trans (hrc cb XA XB XF XI XIA XIF P' XPO XR XT J0 J1 M' (by omega) (by omega) h')
  rw [if_neg h2]
  by_cases h3 : o = (3 : Int32)
  · rw [if_pos h3]
    simp (disch := omega) only [I0, I1, I2, I3, I4, I5, nI_add, tin_nI, tgd_true, nC, tnm_eq]
    obtain ⟨v, P', M', e1, e2, h'⟩ := wipe_c hI
    exact (cmpP e1 e2 _ _).trans (hrc cb XA XB XF XI XIA XIF P' XPO XR XT J0 J1 M' (by omega) (by omega) h')
  rw [if_neg h3]
  by_cases h4 : o = (4 : Int32)
  · rw [if_pos h4]
    simp (disch := omega) only [I0, I1, I2, I3, I4, I5, nI_add, tin_nI, tgd_true, nC, tnm_eq]
    obtain ⟨v, e1, e2⟩ := fault_c hI
    exact (cmpF e1 e2 _ _).trans (hrc cb XA XB XF XI XIA XIF XP XPO XR XT J0 J1 M (by omega) (by omega) hI)
  rw [if_neg h4]
  by_cases h5 : o = (5 : Int32)
  · rw [if_pos h5]
    simp (disch := omega) only [I0, I1, I2, I3, I4, I5, nI_add, tin_nI, tgd_true, nC, tnm_eq]
    obtain ⟨v, F', A', Fa', M', e1, e2, h'⟩ := judge_c hI (by omega) XI XIA XIF (xs (i + 1))
    exact (cmpP e1 e2 _ _).trans (hrc cb XA XB XF F' A' Fa' XP XPO XR XT J0 J1 M' (by omega) (by omega) (hI.kp h'))
  rw [if_neg h5]
  by_cases h6 : o = (6 : Int32)
  · rw [if_pos h6]
    simp (disch := omega) only [I0, I1, I2, I3, I4, I5, nI_add, tin_nI, tgd_true, nC, tnm_eq]
    obtain ⟨v, B', F', A', Fa', P', M', e1, e2, h'⟩ := done_c hI (by omega) XI XIA XIF
    exact (cmpP e1 e2 _ _).trans (hrc (cb + 60) XA B' XF F' A' Fa' P' XPO XR XT J0 J1 M' (by omega) (by omega) h')
  rw [if_neg h6]
  by_cases h7 : o = (7 : Int32)
  · rw [if_pos h7]
    simp (disch := omega) only [I0, I1, I2, I3, I4, I5, nI_add, tin_nI, tgd_true, nC, tnm_eq]
    obtain ⟨v, F', A', Fa', M', e1, e2, h'⟩ := behind_c hI (by omega) XI XIA XIF (xs (i + 1)) (xs (i + 2))
    exact (cmpP e1 e2 _ _).trans (hrc cb XA XB XF F' A' Fa' XP XPO XR XT J0 J1 M' (by omega) (by omega) (hI.kp h'))
  rw [if_neg h7]
  by_cases h8 : o = (8 : Int32)
  · rw [if_pos h8]
    simp (disch := omega) only [I0, I1, I2, I3, I4, I5, nI_add, tin_nI, tgd_true, nC, tnm_eq]
    obtain ⟨v, F', A', Fa', M', e1, e2, h'⟩ := bears_c hI (by omega) XI XIA XIF (xs (i + 1)) (xs (i + 2))
    exact (cmpP e1 e2 _ _).trans (hrc cb XA XB XF F' A' Fa' XP XPO XR XT J0 J1 M' (by omega) (by omega) (hI.kp h'))
  rw [if_neg h8]
  by_cases h9 : o = (9 : Int32)
  · rw [if_pos h9]
    simp (disch := omega) only [I0, I1, I2, I3, I4, I5, nI_add, tin_nI, tgd_true, nC, tnm_eq]
    obtain ⟨v, F', A', Fa', M', e1, e2, h'⟩ := then_c hI (by omega) XI XIA XIF (xs (i + 1))
    exact (cmpP e1 e2 _ _).trans (hrc cb XA XB XF F' A' Fa' XP XPO XR XT J0 J1 M' (by omega) (by omega) (hI.kp h'))
  rw [if_neg h9]
  by_cases h10 : o = (10 : Int32)
  · rw [if_pos h10]
    simp (disch := omega) only [I0, I1, I2, I3, I4, I5, nI_add, tin_nI, tgd_true, nC, tnm_eq]
    obtain ⟨v, R', M', e1, e2, h'⟩ := climb_c hI XR (xs (i + 1)) (xs (i + 2))
    exact (cmpP e1 e2 _ _).trans (hrc cb XA XB XF XI XIA XIF XP XPO R' XT J0 J1 M' (by omega) (by omega) (hI.kp h'))
  rw [if_neg h10]
  by_cases h11 : o = (11 : Int32)
  · rw [if_pos h11]
    simp (disch := omega) only [I0, I1, I2, I3, I4, I5, nI_add, tin_nI, tgd_true, nC, tnm_eq]
    obtain ⟨v, R', M', e1, e2, h'⟩ := ways_c hI XR (xs (i + 1))
    exact (cmpP e1 e2 _ _).trans (hrc cb XA XB XF XI XIA XIF XP XPO R' XT J0 J1 M' (by omega) (by omega) (hI.kp h'))
  rw [if_neg h11]
  by_cases h12 : o = (12 : Int32)
  · rw [if_pos h12]
    simp (disch := omega) only [I0, I1, I2, I3, I4, I5, nI_add, tin_nI, tgd_true, nC, tnm_eq]
    obtain ⟨v, R', M', e1, e2, h'⟩ := leases_c hI XR (xs (i + 1)) (xs (i + 2))
    exact (cmpP e1 e2 _ _).trans (hrc cb XA XB XF XI XIA XIF XP XPO R' XT J0 J1 M' (by omega) (by omega) (hI.kp h'))
  rw [if_neg h12]
  by_cases h13 : o = (13 : Int32)
  · rw [if_pos h13]
    simp (disch := omega) only [I0, I1, I2, I3, I4, I5, nI_add, tin_nI, tgd_true, nC, tnm_eq]
    obtain ⟨v, R', M', e1, e2, h'⟩ := stand_c hI XPO (xs (i + 1))
    exact (cmpP e1 e2 _ _).trans (hrc cb XA XB XF XI XIA XIF XP R' XR XT J0 J1 M' (by omega) (by omega) (hI.kp h'))
  rw [if_neg h13]
  by_cases h14 : o = (14 : Int32)
  · rw [if_pos h14]
    simp (disch := omega) only [I0, I1, I2, I3, I4, I5, nI_add, tin_nI, tgd_true, nC, tnm_eq]
    by_cases z : xs (i + 2) = nI 0
    · simp only [z, if_true]
      obtain ⟨v, B', M', e1, e2, h'⟩ := felt_c hI (xs (i + 1)) false
      exact (cmpP e1 e2 _ _).trans (hrc cb XA B' XF XI XIA XIF XP XPO XR XT J0 J1 M' (by omega) (by omega) h')
    · simp only [z, if_false]
      obtain ⟨v, B', M', e1, e2, h'⟩ := felt_c hI (xs (i + 1)) true
      exact (cmpP e1 e2 _ _).trans (hrc cb XA B' XF XI XIA XIF XP XPO XR XT J0 J1 M' (by omega) (by omega) h')
  rw [if_neg h14]
  by_cases h15 : o = (15 : Int32)
  · rw [if_pos h15]
    simp (disch := omega) only [I0, I1, I2, I3, I4, I5, nI_add, tin_nI, tgd_true, nC, tnm_eq]
    obtain ⟨v, B', M', e1, e2, h'⟩ := forget_c hI
    exact (cmpP e1 e2 _ _).trans (hrc cb XA B' XF XI XIA XIF XP XPO XR XT J0 J1 M' (by omega) (by omega) h')
  rw [if_neg h15]
  by_cases h16 : o = (16 : Int32)
  · rw [if_pos h16]
    simp (disch := omega) only [I0, I1, I2, I3, I4, I5, nI_add, tin_nI, tgd_true, nC, tnm_eq]
    obtain ⟨v, R', M', e1, e2, h'⟩ := ups_c hI XT (xs (i + 1))
    exact (cmpP e1 e2 _ _).trans (hrc cb XA XB XF XI XIA XIF XP XPO XR R' J0 J1 M' (by omega) (by omega) (hI.kp h'))
  rw [if_neg h16]
  by_cases h17 : o = (17 : Int32)
  · rw [if_pos h17]
    simp (disch := omega) only [I0, I1, I2, I3, I4, I5, nI_add, tin_nI, tgd_true, nC, tnm_eq]
    obtain ⟨v, R', M', e1, e2, h'⟩ := ask_c hI XT (xs (i + 1))
    exact (cmpP e1 e2 _ _).trans (hrc cb XA XB XF XI XIA XIF XP XPO XR R' J0 J1 M' (by omega) (by omega) (hI.kp h'))
  rw [if_neg h17]
  by_cases h18 : o = (18 : Int32)
  · rw [if_pos h18]
    simp (disch := omega) only [I0, I1, I2, I3, I4, I5, nI_add, tin_nI, tgd_true, nC, tnm_eq]
    obtain ⟨v, M', e1, e2, h'⟩ := down_c M (xs (i + 1)) (xs (i + 2))
    exact (cmpV e1 e2 _ _).trans (hrc cb XA XB XF XI XIA XIF XP XPO XR XT J0 J1 M' (by omega) (by omega) (hI.kp h'))
  rw [if_neg h18]
  by_cases h19 : o = (19 : Int32)
  · rw [if_pos h19]
    simp (disch := omega) only [I0, I1, I2, I3, I4, I5, nI_add, tin_nI, tgd_true, nC, tnm_eq]
    obtain ⟨v, F', M', e1, e2, h'⟩ := foot_c XF M (xs (i + 1)) (xs (i + 2)) (xs (i + 3)) (xs (i + 4))
    exact (cmpL e1 e2 _ _).trans (hrc cb XA XB F' XI XIA XIF XP XPO XR XT J0 J1 M' (by omega) (by omega) (hI.kp h'))
  rw [if_neg h19]
  by_cases h20 : o = (20 : Int32)
  · rw [if_pos h20]
    simp (disch := omega) only [I0, I1, I2, I3, I4, I5, nI_add, tin_nI, tgd_true, nC, tnm_eq]
    obtain ⟨v, A', F', Fa', M', e1, e2, h'⟩ := year_c hI (by omega) XA XI XIF (xs (i + 1)) (xs (i + 2)) (xs (i + 3))
    exact (cmpP e1 e2 _ _).trans (hrc cb A' XB XF F' XIA Fa' XP XPO XR XT J0 J1 M' (by omega) (by omega) (hI.kp h'))
  rw [if_neg h20]
  by_cases h21 : o = (21 : Int32)
  · rw [if_pos h21]
    simp (disch := omega) only [I0, I1, I2, I3, I4, I5, nI_add, tin_nI, tgd_true, nC, tnm_eq]
    obtain ⟨v, J0', J1', M', e1, e2, h'⟩ := image_c hI (xs (i + 1))
    exact (cmpP e1 e2 _ _).trans (hrc cb XA XB XF XI XIA XIF XP XPO XR XT J0' J1' M' (by omega) (by omega) h')
  rw [if_neg h21]
  by_cases h22 : o = (22 : Int32)
  · rw [if_pos h22]
    simp (disch := omega) only [I0, I1, I2, I3, I4, I5, nI_add, tin_nI, tgd_true, nC, tnm_eq]
    obtain ⟨v, B', M', e1, e2, h'⟩ := restore_c hI (xs (i + 1))
    exact (cmpP e1 e2 _ _).trans (hrc cb XA B' XF XI XIA XIF XP XPO XR XT J0 J1 M' (by omega) (by omega) h')
  rw [if_neg h22]
  by_cases h23 : o = (23 : Int32)
  · rw [if_pos h23]
    simp (disch := omega) only [I0, I1, I2, I3, I4, I5, nI_add, tin_nI, tgd_true, nC, tnm_eq]
    obtain ⟨v, M', e1, e2, h'⟩ := told_c hI (xs (i + 1))
    exact (cmpV e1 e2 _ _).trans (hrc cb XA XB XF XI XIA XIF XP XPO XR XT J0 J1 M' (by omega) (by omega) (hI.kp h'))
  rw [if_neg h23]
  rw [tnm_eq, I5, nI_add]
  exact hrc cb XA XB XF XI XIA XIF XP XPO XR XT J0 J1 M (by omega) (by omega) hI
