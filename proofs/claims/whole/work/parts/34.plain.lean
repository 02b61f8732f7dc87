/-! rung, man, say, wipe, fault, felt, forget -/
section
variable {cb : Nat} {B : SX1} {P : SX5} {J0 J1 : Option SX1} {M : SX10}
theorem fault_c (h : Inv cb B P J0 J1 M) : ∃ v, m9_fault () P = some v ∧ m10_fault M = some v := by
  obtain ⟨-, ⟨n, sg, hp, hPc, hPm⟩, -⟩ := h
  unfold m9_fault m10_fault
  rw [firstFault_ok hPc hp, faultOf_ok hPm hp, fault_eq hp, tbd_some]
  exact ⟨_, rfl, rfl⟩
theorem Inv.pad {P' : SX5} {M' : SX10} (h : Inv cb B P J0 J1 M) (e1 : g10_book M' = g10_book M) (e2 : g10_sight M' = g10_sight M) (e3 : g10_sights M' = g10_sights M) (e4 : g10_image M' = g10_image M) (e5 : g10_isKept M' = g10_isKept M) (hP : ∃ n sg, WP n sg ∧ RPc n sg P' ∧ RPm n sg M') : Inv cb B P' J0 J1 M' :=
  ⟨by rw [e1, e2, e3]; exact h.1, hP, h.2.2.1.of e4 e5, h.2.2.2.of e4 e5⟩
theorem wipe_c (h : Inv cb B P J0 J1 M) : ∃ v P' M', m9_wipe () P = some (v, P') ∧ m10_wipe M = some (v, M') ∧ Inv cb B P' J0 J1 M' := by
  have hI := h
  obtain ⟨-, ⟨n, sg, hp, hPc, hPm⟩, -⟩ := h
  unfold m9_wipe m10_wipe m5_size m5_clear
  rw [tbd_some, tbd_some, tnm_eq, hPc.1, hPm.1]
  refine ⟨_, _, _, rfl, rfl, hI.pad rfl rfl rfl rfl rfl ⟨0, fun _ => 0, ⟨by decide, fun i hi => by omega⟩, ⟨I0, fun i hi => by omega⟩, ⟨I0, fun i hi => by omega⟩⟩⟩
theorem i2c_ok : ∀ {s : Nat}, s < 128 → vp_nar .char (i2c (nI s)) = nI s := by decide
theorem mul2_ok : ∀ {q : Nat}, q < 9 → nI 2 * nI q = nI (2 * q) := by decide
theorem say_c (h : Inv cb B P J0 J1 M) (x : Int32) : ∃ v P' M', m9_say () P x = some (v, P') ∧ m10_say M x = some (v, M') ∧ Inv cb B P' J0 J1 M' := by
  have hI := h
  obtain ⟨-, ⟨n, sg, hp, hPc, hPm⟩, -⟩ := h
  have hn := hp.1
  unfold m9_say m10_say m5_add m5_size
  simp only [within_eq, I33, I126, I2, I4, I0, I60, I1]
  rcases rng x 33 126 (by decide) (by decide) with ⟨k, hk1, hk, rfl⟩ | ho
  · rw [in_in hk1 hk (by omega), tbd_some, tbd_some]
    simp (disch := omega) only [n10, if_false, hPc.1, hPm.1, nLT, nEQ, Nat.not_lt_zero]
    by_cases q : n = 60
    · have q2 : ¬ n < 60 := by omega
      simp only [q, q2, if_true, if_false, tbd_some]
      exact ⟨_, _, _, rfl, rfl, hI⟩
    · have q2 : n < 60 := by omega
      simp (disch := omega) only [q, q2, if_true, if_false, tin_nI, tgd_true, tbd_some, n10, nC, i2c_ok, nI_add]
      refine ⟨_, _, _, rfl, rfl, hI.pad rfl rfl rfl rfl rfl ⟨n + 1, upN sg n k, ⟨by omega, fun i hi => ?_⟩, ⟨rfl, fun i hi => ?_⟩, ⟨rfl, fun i hi => ?_⟩⟩⟩
      · unfold upN
        by_cases e : i = n
        · rw [if_pos e]; omega
        · rw [if_neg e]; exact hp.2 i (by omega)
      · show upd (g5_signs P) n (nI k) i = _
        rw [upd_e]; unfold upN
        by_cases e : i = n
        · rw [if_pos e, if_pos e]
        · rw [if_neg e, if_neg e]; exact hPc.2 i (by omega)
      · show upd (g10_pad M) n (nI k) i = _
        rw [upd_e]; unfold upN
        by_cases e : i = n
        · rw [if_pos e, if_pos e]
        · rw [if_neg e, if_neg e]; exact hPm.2 i (by omega)
  · rw [in_out ho, tbd_some, tbd_some]
    simp only [if_true]
    exact ⟨_, _, _, rfl, rfl, hI⟩
theorem forget_c (h : Inv cb B P J0 J1 M) : ∃ v B' M', m9_forget () B = some (v, B') ∧ m10_forget M = some (v, M') ∧ Inv cb B' P J0 J1 M' := by
  obtain ⟨⟨c, q, sr, sw, hw, hC, hM, hS, hSc, hSm⟩, hP, h0, h1⟩ := h
  unfold m9_forget m10_forget m1_sightCount m1_clearSights
  rw [tbd_some, tbd_some, tnm_eq, hSc.1, hSm.1]
  refine ⟨_, _, _, rfl, rfl, ⟨c, 0, sr, sw, hw, hC, hM, ⟨by omega, fun j hj => by omega⟩, ⟨I0, I0, I0⟩, ⟨I0, fun j hj => by omega⟩⟩, hP, h0.of rfl rfl, h1.of rfl rfl⟩
theorem wm_up (sr : Nat → Nat) (sw : Nat → Bool) (w : Bool) (r : Nat) (b : Bool) (q : Nat) : ∀ k, k ≤ q → wm (upN sr q r) (fun j => if j = q then b else sw j) w k = wm sr sw w k := by
  intro k
  induction k with
  | zero => intro _; rfl
  | succ k ih =>
    intro hk
    unfold wm
    rw [ih (by omega)]
    unfold upN
    simp only [show ¬ k = q by omega, if_false]
theorem felt_c (h : Inv cb B P J0 J1 M) (x : Int32) (b : Bool) : ∃ v B' M', m9_felt () B x (bI b) = some (v, B') ∧ m10_felt M x (bI b) = some (v, M') ∧ Inv cb B' P J0 J1 M' := by
  have hI := h
  obtain ⟨⟨c, q, sr, sw, hw, hC, hM, hS, hSc, hSm⟩, hP, h0, h1⟩ := h
  have hq := hS.1
  unfold m9_felt m10_felt m1_addSight m1_sightCount
  simp only [I0, I1, I2, I4, I8]
  rcases rng x 1 12 (by decide) (by decide) with ⟨r, hr1, hr, rfl⟩ | ho
  · rw [isRung_in hr1 hr, isRung10_in hr1 hr, tbd_some, tbd_some]
    simp (disch := omega) only [n10, if_false, hSc.1, hSm.1, nLT, nEQ]
    by_cases q8 : q = 8
    · have q2 : ¬ q < 8 := by omega
      simp only [q8, q2, if_true, if_false, tbd_some]
      exact ⟨_, _, _, rfl, rfl, hI⟩
    · have q2 : q < 8 := by omega
      have hmul : nI 2 * nI q = nI (2 * q) := mul2_ok (by omega)
      unfold m10_felt_J54 m1_addSight_J44
      simp (disch := omega) only [q8, q2, if_true, if_false, tbd_some, bitOf_in, hmul, nI_add, tin_nI, tgd_true, nC, bI_0, I1]
      have hsg : ∀ (A : SX1), g1_sights A = nI q → g1_sights A + nI 1 = nI (q + 1) := fun A e => by rw [e, nI_add]
      have hWS : WS (q + 1) (upN sr q r) := ⟨by omega, fun j hj => by
        unfold upN
        by_cases e : j = q
        · rw [if_pos e]; omega
        · rw [if_neg e]; exact hS.2 j (by omega)⟩
      have hm : ∀ (T : SX10), g10_sight T = upd (upd (g10_sight M) (2 * q) (nI r)) (2 * q + 1) (bI b) → RSm (q + 1) (upN sr q r) (fun j => if j = q then b else sw j) (g10_sight T) (nI (q + 1)) := by
        intro T e
        rw [e]
        refine ⟨rfl, fun j hj => ?_⟩
        rw [upd_e, upd_e, upd_e, upd_e]
        unfold upN
        by_cases e : j = q
        · subst e
          rw [if_neg (by omega), if_pos rfl, if_pos rfl, if_pos rfl]
          refine ⟨rfl, ?_⟩
          show bI b = bI (if j = j then b else sw j)
          rw [if_pos rfl]
        · show _ ∧ _ = bI (if j = q then b else sw j)
          simp (disch := omega) only [if_neg]
          exact hSm.2 j (by omega)
      have hwm : ∀ w, wm (upN sr q r) (fun j => if j = q then b else sw j) w (q + 1) = if b = w then wm sr sw w q ||| 2 ^ (r - 1) else wm sr sw w q := by
        intro w
        conv => lhs; unfold wm
        rw [wm_up sr sw w r b q q (Nat.le_refl q)]
        unfold upN
        rw [if_pos rfl, if_pos rfl]
      have fin : ∀ (B' : SX1) (M' : SX10), RC c B' → g1_sights B' = nI (q + 1) → g1_wet B' = nI (if b = true then wm sr sw true q ||| 2 ^ (r - 1) else wm sr sw true q) → g1_dry B' = nI (if b = false then wm sr sw false q ||| 2 ^ (r - 1) else wm sr sw false q) → g10_book M' = g10_book M → g10_sight M' = upd (upd (g10_sight M) (2 * q) (nI r)) (2 * q + 1) (bI b) → g10_sights M' = nI (q + 1) → g10_image M' = g10_image M → g10_isKept M' = g10_isKept M → g10_signs M' = g10_signs M → g10_pad M' = g10_pad M → Inv cb B' P J0 J1 M' := by
        intro B' M' a1 a2 a3 a4 a5 a6 a7 a8 a9 a10 a11
        refine ⟨⟨c, q + 1, upN sr q r, (fun j => if j = q then b else sw j), hw, a1, by rw [a5]; exact hM, hWS, ⟨a2, by rw [a3, hwm], by rw [a4, hwm]⟩, ?_⟩, ?_, h0.of a8 a9, h1.of a8 a9⟩
        · rw [a7]; exact hm M' a6
        · obtain ⟨n, sg, w1, w2, w3⟩ := hP
          exact ⟨n, sg, w1, w2, by unfold RPm; rw [a10, a11]; exact w3⟩
      cases b with
      | false =>
        refine ⟨nI (q + 1), s1_sights (s1_dry B (nI (wm sr sw false q ||| 2 ^ (r - 1)))) (nI (q + 1)), s10_sight (s10_sights (s10_sight M (upd (g10_sight M) (2 * q) (nI r))) (nI (q + 1))) (upd (upd (g10_sight M) (2 * q) (nI r)) (2 * q + 1) (bI false)), ?_, ?_, ?_⟩
        · simp only [if_true]
          rw [hSc.2.2, nOR, hsg (s1_dry B (nI (wm sr sw false q ||| 2 ^ (r - 1)))) hSc.1]
          rfl
        · simp only [if_true]
          rw [show g10_sights (s10_sight M (upd (g10_sight M) (2 * q) (nI r))) = nI q from hSm.1, nI_add]
          rfl
        · exact fin _ _ hC rfl hSc.2.1 rfl rfl rfl rfl rfl rfl rfl rfl
      | true =>
        refine ⟨nI (q + 1), s1_sights (s1_wet B (nI (wm sr sw true q ||| 2 ^ (r - 1)))) (nI (q + 1)), s10_sight (s10_sights (s10_sight M (upd (g10_sight M) (2 * q) (nI r))) (nI (q + 1))) (upd (upd (g10_sight M) (2 * q) (nI r)) (2 * q + 1) (bI true)), ?_, ?_, ?_⟩
        · simp only [Bool.true_eq_false, if_false]
          rw [hSc.2.1, nOR, hsg (s1_wet B (nI (wm sr sw true q ||| 2 ^ (r - 1)))) hSc.1]
          rfl
        · simp only [Bool.true_eq_false, if_false]
          rw [show g10_sights (s10_sight M (upd (g10_sight M) (2 * q) (nI r))) = nI q from hSm.1, nI_add]
          rfl
        · exact fin _ _ hC rfl rfl hSc.2.2 rfl rfl rfl rfl rfl rfl rfl
  · rw [isRung_out2 ho, isRung10_out ho, tbd_some, tbd_some]
    simp only [if_true]
    exact ⟨_, _, _, rfl, rfl, hI⟩
end
