/-! what class and reference keep between calls -/
theorem rng (x : Int32) (lo hi : Nat) (hl : lo < 2147483648) (hh : hi < 2147483648) : (∃ k, lo ≤ k ∧ k ≤ hi ∧ x = nI k) ∨ (x < nI lo ∨ nI hi < x) := by
  by_cases h : x < nI 0
  · right; left
    have h1 := Int32.lt_iff_toInt_lt.mp h
    rw [Int32.lt_iff_toInt_lt, nT hl]
    rw [nT (by decide)] at h1
    omega
  · obtain ⟨k, hk, rfl⟩ := n_of h
    by_cases a : lo ≤ k
    · by_cases b : k ≤ hi
      · exact Or.inl ⟨k, a, b, rfl⟩
      · right; right; exact (nLT hh hk).mpr (by omega)
    · right; left; exact (nLT hk hl).mpr (by omega)
theorem in_out {x : Int32} {lo hi : Nat} (h : x < nI lo ∨ nI hi < x) : m10_in x (nI lo) (nI hi) = some (nI 0) := by
  unfold m10_in
  simp only [I0, I1]
  by_cases a : x < nI lo
  · rw [if_pos a]
  · rw [if_neg a, if_pos (h.resolve_left a)]
theorem within_eq (x a b : Int32) : m9_within x a b = m10_in x a b := rfl
theorem in_in {k lo hi : Nat} (h1 : lo ≤ k) (h2 : k ≤ hi) (hh : hi < 2147483648) : m10_in (nI k) (nI lo) (nI hi) = some (nI 1) := by
  rw [in_ok (by omega) (by omega) hh, decide_eq_true ⟨h1, h2⟩]; rfl
theorem n6_5 {x : Int32} : (nI 6 ≤ x) ↔ nI 5 < x := by
  rw [Int32.le_iff_toInt_le, Int32.lt_iff_toInt_lt, nT (by decide), nT (by decide)]; omega
theorem isMan_out {x : Int32} (h : x < nI 0 ∨ nI 5 < x) : m9_isMan x = some (nI 0) := by
  unfold m9_isMan
  simp only [I0, I1, I6, n6_5]
  by_cases a : x < nI 0
  · rw [if_pos a]
  · rw [if_neg a, if_pos (h.resolve_left a)]
theorem isRung_out2 {x : Int32} (h : x < nI 1 ∨ nI 12 < x) : m9_isRung x = some (nI 0) := by
  unfold m9_isRung
  simp only [I0, I1, I12]
  by_cases a : x < nI 1
  · rw [if_pos a]
  · rw [if_neg a, if_pos (h.resolve_left a)]
theorem tbl0 : tbl (nI 0) = true := by decide
theorem tbl1 : tbl (nI 1) = true := by decide
theorem isMan10_out {x : Int32} (h : x < nI 0 ∨ nI 5 < x) : m10_isMan x = some (nI 0) := by
  unfold m10_isMan; rw [I0, I5, in_out h, tbd_some, tbl0, tgd_true]
theorem isRung10_out {x : Int32} (h : x < nI 1 ∨ nI 12 < x) : m10_isRung x = some (nI 0) := by
  unfold m10_isRung; rw [I1, I12, in_out h, tbd_some, tbl0, tgd_true]
theorem isMan10_in {k : Nat} (h : k < 6) : m10_isMan (nI k) = some (nI 1) := by
  unfold m10_isMan; rw [I0, I5, in_in (by omega) (by omega) (by omega), tbd_some, tbl1, tgd_true]
theorem isRung10_in {k : Nat} (h1 : 1 ≤ k) (h : k ≤ 12) : m10_isRung (nI k) = some (nI 1) := by
  unfold m10_isRung; rw [I1, I12, in_in (by omega) (by omega) (by omega), tbd_some, tbl1, tgd_true]
theorem n01 : (nI 0 = nI 0) = True := eq_true rfl
theorem n10 : (nI 1 = nI 0) = False := eq_false (by decide)
-- sights
def wm (sr : Nat → Nat) (sw : Nat → Bool) (w : Bool) : Nat → Nat
  | 0 => 0
  | k + 1 => if sw k = w then wm sr sw w k ||| 2 ^ (sr k - 1) else wm sr sw w k
def RSc (q : Nat) (sr : Nat → Nat) (sw : Nat → Bool) (B : SX1) : Prop := g1_sights B = nI q ∧ g1_wet B = nI (wm sr sw true q) ∧ g1_dry B = nI (wm sr sw false q)
def RSm (q : Nat) (sr : Nat → Nat) (sw : Nat → Bool) (b : Nat → Int32) (v : Int32) : Prop := v = nI q ∧ ∀ j, j < q → b (2 * j) = nI (sr j) ∧ b (2 * j + 1) = bI (sw j)
def WS (q : Nat) (sr : Nat → Nat) : Prop := q ≤ 8 ∧ ∀ j, j < q → 1 ≤ sr j ∧ sr j ≤ 12
/-- what an image keeps, in both -/
def KS (cb : Nat) (B : SX1) (book sight : Nat → Int32) (v : Int32) : Prop := ∃ (c : CS) (q : Nat) (sr : Nat → Nat) (sw : Nat → Bool), WF cb c ∧ RC c B ∧ RM c book ∧ WS q sr ∧ RSc q sr sw B ∧ RSm q sr sw sight v
def Im (cb t : Nat) (J : Option SX1) (M : SX10) : Prop := g10_isKept M t = bI J.isSome ∧ ∀ B, J = some B → KS cb B (fun k => g10_image M (70 * t + k)) (fun k => g10_image M (70 * t + 47 + k)) (g10_image M (70 * t + 64))
def Inv (cb : Nat) (B : SX1) (P : SX5) (J0 J1 : Option SX1) (M : SX10) : Prop := KS cb B (g10_book M) (g10_sight M) (g10_sights M) ∧ (∃ n sg, WP n sg ∧ RPc n sg P ∧ RPm n sg M) ∧ Im cb 0 J0 M ∧ Im cb 1 J1 M
theorem KS.mono {cb cb' : Nat} {B : SX1} {b s : Nat → Int32} {v : Int32} (h : KS cb B b s v) (hb : cb ≤ cb') : KS cb' B b s v := by
  obtain ⟨c, q, sr, sw, h1, h2⟩ := h
  exact ⟨c, q, sr, sw, h1.mono hb, h2⟩
theorem Im.mono {cb cb' t : Nat} {J : Option SX1} {M : SX10} (h : Im cb t J M) (hb : cb ≤ cb') : Im cb' t J M := ⟨h.1, fun B e => (h.2 B e).mono hb⟩
theorem Im.of {cb t : Nat} {J : Option SX1} {M M' : SX10} (h : Im cb t J M) (e1 : g10_image M' = g10_image M) (e2 : g10_isKept M' = g10_isKept M) : Im cb t J M' := by
  unfold Im; rw [e1, e2]; exact h
theorem Inv.mono {cb cb' : Nat} {B : SX1} {P : SX5} {J0 J1 : Option SX1} {M : SX10} (h : Inv cb B P J0 J1 M) (hb : cb ≤ cb') : Inv cb' B P J0 J1 M := ⟨h.1.mono hb, h.2.1, h.2.2.1.mono hb, h.2.2.2.mono hb⟩
theorem Inv.kp {cb : Nat} {B : SX1} {P : SX5} {J0 J1 : Option SX1} {M M' : SX10} (h : Inv cb B P J0 J1 M) (k : KP M M') : Inv cb B P J0 J1 M' := by
  refine ⟨?_, ?_, h.2.2.1.of k.2.2.2.2.2.1 k.2.2.2.2.2.2, h.2.2.2.of k.2.2.2.2.2.1 k.2.2.2.2.2.2⟩
  · rw [k.1, k.2.1, k.2.2.1]; exact h.1
  · obtain ⟨n, sg, a, b, c⟩ := h.2.1
    exact ⟨n, sg, a, b, c.kp k⟩
theorem RM_congr {c : CS} {b b' : Nat → Int32} (h : RM c b) (e : ∀ k, k < 47 → b' k = b k) : RM c b' := by
  refine ⟨fun r h1 h2 => ?_, ?_, fun m hm => ?_, ?_, ?_⟩
  · rw [e r (by omega), e (13 + r) (by omega)]; exact h.1 r h1 h2
  · rw [e 45 (by decide)]; exact h.2.1
  · rw [e (26 + m) (by omega), e (32 + m) (by omega), e (38 + m) (by omega)]; exact h.2.2.1 m hm
  · rw [e 44 (by decide)]; exact h.2.2.2.1
  · rw [e 46 (by decide)]; exact h.2.2.2.2
section
variable {c : CS} {cb : Nat} {B A : SX1} {T : SX10}
theorem copyFrom_ok (h : RC c B) (A : SX1) : ∃ A', m1_copyFrom A B = some A' ∧ RC c A' ∧ SG B A' := by
  refine ⟨_, rfl, ⟨fun r h1 h2 => ?_, h.2.1, fun m hm => ?_, h.2.2.2.1, h.2.2.2.2⟩, rfl, rfl, rfl⟩
  · show va_cpy (g1_owner B) (g1_owner A) 0 0 13 r = _ ∧ va_cpy (g1_leaser B) (g1_leaser A) 0 0 13 r = _
    rw [sb_cpy0 (by omega), sb_cpy0 (by omega)]
    exact h.1 r h1 h2
  · show va_cpy (g1_stride B) (g1_stride A) 0 0 6 m = _ ∧ va_cpy (g1_coins B) (g1_coins A) 0 0 6 m = _ ∧ va_cpy (g1_place B) (g1_place A) 0 0 6 m = _
    rw [sb_cpy0 hm, sb_cpy0 hm, sb_cpy0 hm]
    exact h.2.2.1 m hm
def f0 : FT := (0, 0, 0, none)
theorem WT_f0 : WT f0 := ⟨by decide, fun x h => by cases h⟩
theorem begin_ok (h : RC c B) (F : SX4) (A : SX1) : ∃ F' A', m4_begin F B A = some (F', A') ∧ RC c A' ∧ SG B A' ∧ RF f0 F' ∧ g4_why F' = nI 0 := by
  obtain ⟨A', e1, e2, e3⟩ := copyFrom_ok h A
  unfold m4_begin
  rw [e1, tbd_some]
  refine ⟨_, A', rfl, e2, e3, ⟨?_, ?_, ?_, ?_, ?_⟩, ?_⟩
  · exact I0
  · exact I0
  · exact I0
  · show (-6 : Int32) = -nI 6
    rw [I6]
  · show (-6 : Int32) = -nI 6
    rw [I6]
  · exact I0
def cpN (b a : Nat → Int32) (i : Nat) : Nat → Int32 := fun k => if k < i then b k else a k
theorem cpN_s (b a : Nat → Int32) (i : Nat) : upd (cpN b a i) i (b i) = cpN b a (i + 1) := by
  funext k
  rw [upd_e]
  unfold cpN
  by_cases e : k = i
  · subst e; rw [if_pos rfl, if_pos (by omega)]
  · rw [if_neg e]
    by_cases l : k < i
    · rw [if_pos l, if_pos (by omega)]
    · rw [if_neg l, if_neg (by omega)]
theorem cpN_0 (b a : Nat → Int32) : cpN b a 0 = a := by
  funext k; unfold cpN; rw [if_neg (by omega)]
theorem asNow_ok (h : RM c (g10_book T)) : ∃ T', m10_asNow T = some T' ∧ RM c (g10_now T') ∧ KP T T' ∧ g10_steps T' = nI 0 ∧ g10_paid T' = nI 0 ∧ g10_roofAt T' = -nI 6 ∧ g10_roofWho T' = -nI 6 := by
  have key := tit_run (F := m10_asNow_L2) (fun i => (nI i, s10_now T (cpN (g10_book T) (g10_now T) i))) 47 (some (s10_roofWho (s10_roofAt (s10_paid (s10_steps (s10_now T (cpN (g10_book T) (g10_now T) 47)) (nI 0)) (nI 0)) (-nI 6)) (-nI 6))) (fun rc i hi => by
    show m10_asNow_B2 rc (nI i) (s10_now T (cpN (g10_book T) (g10_now T) i)) = rc (nI (i + 1), s10_now T (cpN (g10_book T) (g10_now T) (i + 1)))
    unfold m10_asNow_B2
    simp (disch := omega) only [I47, I1, nLE, if_neg, tin_nI, tgd_true, tnm_eq, nI_add, nC]
    rw [← cpN_s]
    rfl) (fun rc => by
    show m10_asNow_B2 rc (nI 47) (s10_now T (cpN (g10_book T) (g10_now T) 47)) = _
    unfold m10_asNow_B2
    simp (disch := omega) only [I47, I0, I6, nLE, if_pos]) FU (FU_gt (by decide))
  refine ⟨s10_roofWho (s10_roofAt (s10_paid (s10_steps (s10_now T (cpN (g10_book T) (g10_now T) 47)) (nI 0)) (nI 0)) (-nI 6)) (-nI 6), ?_, ?_, ?_, ?_, ?_, ?_, ?_⟩
  · unfold m10_asNow
    rw [I0]
    have e : (nI 0, T) = (fun i => (nI i, s10_now T (cpN (g10_book T) (g10_now T) i))) 0 := by
      show _ = (nI 0, s10_now T (cpN (g10_book T) (g10_now T) 0))
      rw [cpN_0]; rfl
    rw [e]
    exact key
  · exact RM_congr h (fun k hk => if_pos hk)
  · exact ⟨rfl, rfl, rfl, rfl, rfl, rfl, rfl⟩
  · rfl
  · rfl
  · rfl
  · rfl
end
section
variable {c : CS} {cb n : Nat} {sg : Nat → Nat} {B : SX1} {P : SX5} {T : SX10}
abbrev burnR (n : Nat) (sg : Nat → Nat) (c : CS) : Nat × CS × FT := burnS n sg 60 0 c f0
theorem burn_ok (hP : RPc n sg P) (hp : WP n sg) (h : RC c B) (hw : WF cb c) (hcb : cb < 2147000000) (hff : ff n sg 60 0 = none) (F : SX4) (A : SX0) (Fa : SX1) : ∃ F' A' Fa', m4_burn F P B A Fa = some (bI (decide ((burnR n sg c).1 = 0)), F', A', Fa') ∧ RF (burnR n sg c).2.2 F' ∧ RC (burnR n sg c).2.1 Fa' ∧ WF (cb + 60) (burnR n sg c).2.1 ∧ g4_why F' = nI (burnR n sg c).1 ∧ SG B Fa' := by
  have hn := hp.1
  obtain ⟨F1, A1, e1, e2, e3, e4, e5⟩ := begin_ok h F Fa
  obtain ⟨F2, A2, Fa2, g1, g2, g3, g4, g5, g6⟩ := burn_go (Oc := B) hP hp 60 FU 0 0 c cb f0 F1 A A1 hff (by omega) (by omega) (by omega) (FU_gt (by decide)) e2 hw (by omega) e4 WT_f0 (by show 0 + _ ≤ _; omega) e5
  refine ⟨F2, A2, Fa2, ?_, g2, g3, g4.mono (by omega), g5, g6.1.trans e3.1, g6.2.1.trans e3.2.1, g6.2.2.trans e3.2.2⟩
  unfold m4_burn
  rw [e1, tbd_some, firstFault_ok hP hp, tbd_some, hff, I6, if_pos (show oN none = -nI 6 from rfl), I0]
  exact g1
theorem ff_lt {n : Nat} {sg : Nat → Nat} (hp : WP n sg) {w : Nat} (h : ff n sg 60 0 = some w) : w < 2147483648 := by
  have hn := hp.1
  have : ∀ k i w, i ≤ 3 * (60 - k) → k ≤ 60 → ff n sg k i = some w → w ≤ 400 := by
    intro k
    induction k with
    | zero => intro i w _ _ h; cases h
    | succ k ih =>
      intro i w hi hk h
      unfold ff at h
      by_cases q : n ≤ i
      · rw [if_pos q] at h; cases h
      · rw [if_neg q] at h
        cases hw : wrS n sg i with
        | some w2 =>
          rw [hw] at h
          cases h
          have := wrS_lt hw
          omega
        | none =>
          rw [hw] at h
          have := endS_sp n sg i
          exact ih _ _ (by omega) (by omega) h
  have := this 60 0 w (by omega) (by omega) h
  omega
theorem burn_no (hP : RPc n sg P) (hp : WP n sg) (h : RC c B) {w : Nat} (hff : ff n sg 60 0 = some w) (F : SX4) (A : SX0) (Fa : SX1) : ∃ F' Fa', m4_burn F P B A Fa = some (nI 0, F', A, Fa') := by
  obtain ⟨F1, A1, e1, e2, e3, e4, e5⟩ := begin_ok h F Fa
  have hl := ff_lt hp hff
  refine ⟨F1, A1, ?_⟩
  unfold m4_burn
  rw [e1, tbd_some, firstFault_ok hP hp, tbd_some, hff, I6, if_neg (fun q : oN (some w) = -nI 6 => (n_ne_neg hl (by decide) (by decide)).mp q), I0]
theorem burnS_WT (hp : WP n sg) : ∀ (k i : Nat) (c : CS) (f : FT), ff n sg k i = none → WT f → f.1 + k ≤ 1000 → WT (burnS n sg k i c f).2.2 := by
  intro k
  induction k with
  | zero => intro i c f _ h _; exact h
  | succ k ih =>
    intro i c f hff h hk
    unfold burnS
    by_cases q : n ≤ i
    · rw [if_pos q]; exact h
    · rw [if_neg q]
      obtain ⟨hv, hff2⟩ := ff_step (by omega) hff
      obtain ⟨-, hA, -⟩ := act_valid hp (by omega) hv
      by_cases r : reasonS c (actS n sg i) = 0
      · rw [if_pos r]
        exact ih _ _ _ hff2 (WT_cnt h (by omega) hA) (by show f.1 + 1 + k ≤ 1000; omega)
      · rw [if_neg r]; exact h
theorem goFires_ok (hP : RPm n sg T) (hp : WP n sg) (h : RM c (g10_book T)) (hw : WF cb c) (hcb : cb < 2147000000) (hff : ff n sg 60 0 = none) : ∃ T', m10_goFires T = some (if (burnR n sg c).1 = 0 then -nI 6 else nI (burnR n sg c).2.2.1, T') ∧ RFm (burnR n sg c).2.2 T' ∧ RM (burnR n sg c).2.1 (g10_now T') ∧ KP T T' ∧ (¬ (burnR n sg c).1 = 0 → g10_reason T' = nI (burnR n sg c).1) := by
  have hn := hp.1
  obtain ⟨T1, e1, e2, e3, e4, e5, e6, e7⟩ := asNow_ok h
  have hk : KP T (s10_acts T1 (nI 0)) := e3.trans ⟨rfl, rfl, rfl, rfl, rfl, rfl, rfl⟩
  obtain ⟨T2, g1, g2, g3, g4, g5⟩ := goFires_go hp 60 FU 0 c cb f0 (s10_acts T1 (nI 0)) hff (by omega) (by omega) (FU_gt (by decide)) (hP.kp hk) e2 hw (by omega) ⟨rfl, e4, e5, e6, e7⟩ WT_f0 (by show 0 + _ ≤ _; omega)
  refine ⟨T2, ?_, g2, g3, hk.trans g4, g5⟩
  unfold m10_goFires
  rw [e1, tbd_some, I0]
  exact g1
theorem fault_eq (hp : WP n sg) : fm sg n 0 0 = ff n sg 60 0 := by
  have hn := hp.1
  have := ff_fm (n := n) (sg := sg) 60 0 (by omega) (by omega)
  rw [this]; rfl
theorem bar_ok (hP : RPm n sg T) (hp : WP n sg) (h : RM c (g10_book T)) (hw : WF cb c) (hcb : cb < 2147000000) (hff : ff n sg 60 0 = none) : ∃ T', m10_barOfFires T = some (if (burnR n sg c).1 = 0 then nI 0 else -nI 5, T') ∧ RFm (burnR n sg c).2.2 T' ∧ RM (burnR n sg c).2.1 (g10_now T') ∧ KP T T' := by
  obtain ⟨T1, e1, e2, e3, e4, -⟩ := goFires_ok hP hp h hw hcb hff
  refine ⟨T1, ?_, e2, e3, e4⟩
  unfold m10_barOfFires
  rw [faultOf_ok hP hp, fault_eq hp, hff, tbd_some, e1, tbd_some]
  have q1 : ¬ (0 : Int32) ≤ oN none := by decide
  rw [if_neg q1]
  by_cases q : (burnR n sg c).1 = 0
  · rw [if_pos q, if_pos q, if_pos (show -nI 6 < (0 : Int32) by decide), I0]
  · rw [if_neg q, if_neg q, if_neg ?_, I5]
    intro z
    have z : nI (burnR n sg c).2.2.1 < (0 : Int32) := z
    have hb : (burnR n sg c).2.2.1 ≤ 1000 := (burnS_WT hp 60 0 c f0 hff WT_f0 (by show 0 + 60 ≤ 1000; omega)).1
    rw [I0, nLT (by omega) (by omega)] at z
    omega
theorem bar_no (hP : RPm n sg T) (hp : WP n sg) {w : Nat} (hff : ff n sg 60 0 = some w) : m10_barOfFires T = some (-nI 5, T) := by
  unfold m10_barOfFires
  rw [faultOf_ok hP hp, fault_eq hp, hff, tbd_some]
  have q1 : (0 : Int32) ≤ oN (some w) := by
    rw [I0]; exact (nLE (by decide) (ff_lt hp hff)).mpr (Nat.zero_le w)
  rw [if_pos q1, I5]
end
