/-! the start -/
def bk1 (i : Nat) : Nat → Int32 := fun k => if k < i ∨ (13 ≤ k ∧ k < 13 + i) then -nI 6 else nI 0
def bk2 (m : Nat) : Nat → Int32 := fun k => if k < 26 then -nI 6 else if k < 26 + m then nI 2 else if 32 ≤ k ∧ k < 32 + m then nI 5 else nI 0
theorem bk1_s {i : Nat} (hi : i < 13) : upd (upd (bk1 i) i (-nI 6)) (13 + i) (-nI 6) = bk1 (i + 1) := by
  funext k
  rw [upd_e, upd_e]
  unfold bk1
  by_cases e1 : k = 13 + i
  · rw [if_pos e1, if_pos (by omega)]
  · rw [if_neg e1]
    by_cases e2 : k = i
    · rw [if_pos e2, if_pos (by omega)]
    · rw [if_neg e2]
      by_cases e3 : k < i ∨ (13 ≤ k ∧ k < 13 + i)
      · rw [if_pos e3, if_pos (show k < i + 1 ∨ (13 ≤ k ∧ k < 13 + (i + 1)) by omega)]
      · rw [if_neg e3, if_neg (show ¬ (k < i + 1 ∨ (13 ≤ k ∧ k < 13 + (i + 1))) by omega)]
theorem bk2_e (m k : Nat) : bk2 m k = if k < 26 then -nI 6 else if k < 26 + m then nI 2 else if 32 ≤ k ∧ k < 32 + m then nI 5 else nI 0 := rfl
theorem bk12 : bk1 13 = bk2 0 := by
  funext k
  unfold bk1 bk2
  by_cases e : k < 26
  · rw [if_pos (by omega), if_pos e]
  · rw [if_neg (by omega), if_neg e, if_neg (by omega), if_neg (by omega)]
theorem bk2_s {m : Nat} (hm : m < 6) : upd (upd (bk2 m) (26 + m) (nI 2)) (32 + m) (nI 5) = bk2 (m + 1) := by
  funext k
  rw [upd_e, upd_e]
  unfold bk2
  by_cases e1 : k = 32 + m
  · rw [if_pos e1, if_neg (by omega), if_neg (by omega), if_pos (by omega)]
  · rw [if_neg e1]
    by_cases e2 : k = 26 + m
    · rw [if_pos e2, if_neg (by omega), if_pos (by omega)]
    · rw [if_neg e2]
      by_cases e3 : k < 26
      · rw [if_pos e3, if_pos e3]
      · rw [if_neg e3, if_neg e3]
        by_cases e4 : k < 26 + m
        · rw [if_pos e4, if_pos (show k < 26 + (m + 1) by omega)]
        · rw [if_neg e4, if_neg (show ¬ k < 26 + (m + 1) by omega)]
          by_cases e5 : 32 ≤ k ∧ k < 32 + m
          · rw [if_pos e5, if_pos (show 32 ≤ k ∧ k < 32 + (m + 1) by omega)]
          · rw [if_neg e5, if_neg (show ¬ (32 ≤ k ∧ k < 32 + (m + 1)) by omega)]
theorem bk_bk (S : SX10) (a b : Nat → Int32) : s10_book (s10_book S a) b = s10_book S b := rfl
theorem gbk (S : SX10) (a : Nat → Int32) : g10_book (s10_book S a) = a := rfl
theorem init_ok : m10_init_J101 i10 = some (s10_book i10 (bk2 6)) := by
  have k2 : tit m10_init_L136 FU (nI 0, s10_book i10 (bk2 0)) = some (s10_book i10 (bk2 6)) := by
    exact tit_run (F := m10_init_L136) (fun m => (nI m, s10_book i10 (bk2 m))) 6 _ (fun rc m hm => by
      show m10_init_B136 rc (nI m) (s10_book i10 (bk2 m)) = rc (nI (m + 1), s10_book i10 (bk2 (m + 1)))
      unfold m10_init_B136
      simp (disch := omega) only [I6, I26, I32, I1, I2, I5, nLE, if_neg, nI_add, tin_nI, tgd_true, tnm_eq, nC, bk_bk, gbk]
      rw [bk2_s hm]) (fun rc => by
      show m10_init_B136 rc (nI 6) (s10_book i10 (bk2 6)) = _
      unfold m10_init_B136
      simp (disch := omega) only [I6, nLE, if_pos]) FU (FU_gt (by decide))
  have e0 : i10 = s10_book i10 (bk1 0) := by
    have : bk1 0 = fun _ => 0 := by
      funext k
      unfold bk1
      rw [if_neg (by omega)]
      exact I0.symm
    rw [this]; rfl
  unfold m10_init_J101
  rw [I0]
  have k1 := tit_run (F := m10_init_L103) (fun i => (nI i, s10_book i10 (bk1 i))) 13 (some (s10_book i10 (bk2 6))) (fun rc i hi => by
    show m10_init_B103 rc (nI i) (s10_book i10 (bk1 i)) = rc (nI (i + 1), s10_book i10 (bk1 (i + 1)))
    unfold m10_init_B103
    simp (disch := omega) only [I13, I1, I6, nLE, if_neg, nI_add, tin_nI, tgd_true, tnm_eq, nC, bk_bk, gbk]
    rw [bk1_s hi]) (fun rc => by
    show m10_init_B103 rc (nI 13) (s10_book i10 (bk1 13)) = _
    unfold m10_init_B103
    rw [I13, if_pos ((nLE (by omega) (by omega)).mpr (Nat.le_refl _)), bk12, I0]
    exact k2) FU (FU_gt (by decide))
  rw [show (nI 0, i10) = (nI 0, s10_book i10 (bk1 0)) by rw [← e0]]
  exact k1
def c0 : CS := ((fun _ => 0), (fun _ => 0), 0, (fun _ => 2), (fun _ => 5), (fun _ => 0), 0, 0)
theorem inv_0 : Inv 100 i1 i5 none none (s10_book i10 (bk2 6)) := by
  refine ⟨⟨c0, 0, fun _ => 1, fun _ => false, ?_, ?_, ?_, ⟨by omega, fun j hj => by omega⟩, ⟨I0, I0, I0⟩, ⟨I0, fun j hj => by omega⟩⟩, ⟨0, fun _ => 0, ⟨by omega, fun i hi => by omega⟩, ⟨I0, fun i hi => by omega⟩, ⟨I0, fun i hi => by omega⟩⟩, ⟨I0, fun B h => by cases h⟩, ⟨I0, fun B h => by cases h⟩⟩
  · refine ⟨fun r h1 h2 => ⟨Nat.zero_le _, Nat.zero_le _⟩, by decide, fun m hm => ⟨?_, ?_, ?_, ?_⟩, by decide, by decide⟩
    · show 1 ≤ 2; omega
    · show 2 ≤ 4; omega
    · show 5 ≤ 100; omega
    · show 0 ≤ 13; omega
  · refine ⟨fun r h1 h2 => ⟨?_, ?_⟩, I0, fun m hm => ⟨?_, ?_, I0⟩, I0, I0⟩
    · show (if r < 13 then (-1 : Int32) else 0) = -nI 1
      rw [if_pos (by omega)]; rfl
    · show (if r < 13 then (-1 : Int32) else 0) = -nI 1
      rw [if_pos (by omega)]; rfl
    · show (if m < 6 then (2 : Int32) else 0) = nI 2
      rw [if_pos hm]; rfl
    · show (if m < 6 then (5 : Int32) else 0) = nI 5
      rw [if_pos hm]; rfl
  · rw [gbk]
    refine ⟨fun r h1 h2 => ⟨?_, ?_⟩, ?_, fun m hm => ⟨?_, ?_, ?_⟩, ?_, ?_⟩
    · rw [bk2_e, if_pos (by omega)]; rfl
    · rw [bk2_e, if_pos (by omega)]; rfl
    · rfl
    · rw [bk2_e, if_neg (by omega), if_pos (by omega)]; rfl
    · rw [bk2_e, if_neg (by omega), if_neg (by omega), if_pos (by omega)]; rfl
    · rw [bk2_e, if_neg (by omega), if_neg (by omega), if_neg (by omega)]; rfl
    · rfl
    · rfl
