set_option maxRecDepth 100000 in
set_option maxHeartbeats 4000000 in
theorem m10_asNow_k (l : Launch) (G : gG) (T0 T1 T2 T3 T4 T5 T6 T7 T8 T9 T10 T11 T12 : Nat) (T : SX10) (R0 : SX10) (h : m10_asNow T = some R0) : KK l G yX10_asNow cX10_asNow 2 none 0 0 [.ref T0] (u10 G T0 T1 T2 T3 T4 T5 T6 T7 T8 T9 T10 T11 T12 T) none (u10 G T0 T1 T2 T3 T4 T5 T6 T7 T8 T9 T10 T11 T12 R0) := by
  refine KK_intro (own := RX10) (by decide +kernel) rfl (Nat.le_of_ble_eq_true rfl) rfl ?_
  intro p e s m args below meth c A C
  unfold m10_asNow at h
  refine go_iconst (v := 0) C dX10_asNow_0 rfl ?_
  refine go_istore_n (lv' := [(1, .int (0 : Int32)), (0, .ref T0)]) C dX10_asNow_1 (by decide) rfl ?_
  exact go_lv [1, 0] rfl (m10_asNow_L2_k C T0 T1 T2 T3 T4 T5 T6 T7 T8 T9 T10 T11 T12  R0  FU (0 : Int32) T h)

set_option maxRecDepth 100000 in
set_option maxHeartbeats 4000000 in
theorem m10_isMissing_k (l : Launch) (G : gG) (T0 T1 T2 T3 T4 T5 T6 T7 T8 T9 T10 T11 T12 : Nat) (T : SX10) (a1 : Int32) (R0 : Int32) (h : m10_isMissing T a1 = some R0) : KK l G yX10_isMissing cX10_isMissing 2 (some .boolean) 1 21 [.ref T0, .int a1] (u10 G T0 T1 T2 T3 T4 T5 T6 T7 T8 T9 T10 T11 T12 T) (some (.int R0)) (u10 G T0 T1 T2 T3 T4 T5 T6 T7 T8 T9 T10 T11 T12 T) := by
  refine KK_intro (own := RX10) (by decide +kernel) rfl (Nat.le_of_ble_eq_true rfl) rfl ?_
  intro p e s m args below meth c A C
  unfold m10_isMissing at h
  refine go_aload_n C dX10_isMissing_0 0 rfl ?_
  refine go_get (v := .ref T2) C ffX10_13 dX10_isMissing_1 0 rfl rfl ?_
  refine go_bipush (v := 45) C dX10_isMissing_4 rfl ?_
  refine go_iaload (f := (g10_now T)) C dX10_isMissing_6 2 rfl (by decide) ?_
  refine go_iload_n C dX10_isMissing_7 1 rfl ?_
  obtain ⟨r1, k2, h⟩ := tbd_e h
  refine go_callS0 C cfX10_65 (wr18 _ (List.mem_of_getElem? (i := 23) rfl)) (m10_has_k l G ((g10_now T) (Int32.toNatClampNeg (45 : Int32))) a1 r1 k2) dX10_isMissing_8 (by decide) ⟨Nat.zero_le _, Nat.zero_le _⟩ rfl rfl (Nat.le_of_ble_eq_true rfl) ?_
  obtain ⟨hg, h⟩ := tgd_e h
  cases h
  exact go_zret C dX10_isMissing_11 hg rfl rfl

set_option maxRecDepth 100000 in
set_option maxHeartbeats 4000000 in
theorem m10_may_k (l : Launch) (G : gG) (T0 T1 T2 T3 T4 T5 T6 T7 T8 T9 T10 T11 T12 : Nat) (T : SX10) (a1 : Int32) (a2 : Int32) (R0 : Int32) (h : m10_may T a1 a2 = some R0) : KK l G yX10_may cX10_may 3 (some .boolean) 2 42 [.ref T0, .int a1, .int a2] (u10 G T0 T1 T2 T3 T4 T5 T6 T7 T8 T9 T10 T11 T12 T) (some (.int R0)) (u10 G T0 T1 T2 T3 T4 T5 T6 T7 T8 T9 T10 T11 T12 T) := by
  refine KK_intro (own := RX10) (by decide +kernel) rfl (Nat.le_of_ble_eq_true rfl) rfl ?_
  intro p e s m args below meth c A C
  unfold m10_may at h
  refine go_aload_n C dX10_may_0 0 rfl ?_
  refine go_iload_n C dX10_may_1 2 rfl ?_
  obtain ⟨r1, k2, h⟩ := tbd_e h
  refine go_callV (q0 := 0) (wr := ([] : va_W)) (w' := u10 G T0 T1 T2 T3 T4 T5 T6 T7 T8 T9 T10 T11 T12 T) C cfX10_69 viX10_isMissing (m10_isMissing_k l G T0 T1 T2 T3 T4 T5 T6 T7 T8 T9 T10 T11 T12 T a2 r1 k2) dX10_may_2 (by decide) ⟨Nat.zero_le _, Nat.zero_le _⟩ rfl rfl (Nat.le_of_ble_eq_true rfl) rfl [0, 1, 2, 3, 4, 5, 6, 7, 8, 9, 10, 11, 12] [] [0, 1, 2, 3, 4, 5, 6, 7, 8, 9, 10, 11, 12] rfl rfl (by decide) rfl ?_
  refine go_if_ne (tgt := 44) C h dX10_may_5 rfl (fun h => ?_) (fun h => ?_)
  · refine go_iconst (v := 0) C dX10_may_44 rfl ?_
    cases h
    exact go_zret C dX10_may_45 (by decide) rfl rfl
  · refine go_aload_n C dX10_may_8 0 rfl ?_
    refine go_get (v := .ref T2) C ffX10_13 dX10_may_9 0 rfl rfl ?_
    refine go_iload_n C dX10_may_12 2 rfl ?_
    refine go_ialoadG (f := (g10_now T)) C h dX10_may_13 2 rfl (fun h => ?_)
    refine go_iload_n C dX10_may_14 1 rfl ?_
    refine go_icmp_eq (tgt := 40) C h dX10_may_15 rfl (fun h => ?_) (fun h => ?_)
    · refine go_iconst (v := 1) C dX10_may_40 rfl ?_
      refine go_goto (tgt := 45) C dX10_may_41 rfl ?_
      cases h
      exact go_zret C dX10_may_45 (by decide) rfl rfl
    · refine go_aload_n C dX10_may_18 0 rfl ?_
      refine go_get (v := .ref T2) C ffX10_13 dX10_may_19 0 rfl rfl ?_
      refine go_iload_n C dX10_may_22 2 rfl ?_
      refine go_ialoadG (f := (g10_now T)) C h dX10_may_23 2 rfl (fun h => ?_)
      refine go_if_lt (tgt := 40) C h dX10_may_24 rfl (fun h => ?_) (fun h => ?_)
      · refine go_iconst (v := 1) C dX10_may_40 rfl ?_
        refine go_goto (tgt := 45) C dX10_may_41 rfl ?_
        cases h
        exact go_zret C dX10_may_45 (by decide) rfl rfl
      · refine go_aload_n C dX10_may_27 0 rfl ?_
        refine go_get (v := .ref T2) C ffX10_13 dX10_may_28 0 rfl rfl ?_
        refine go_bipush (v := 13) C dX10_may_31 rfl ?_
        refine go_iload_n C dX10_may_33 2 rfl ?_
        refine go_iadd C dX10_may_34 ?_
        refine go_ialoadG (f := (g10_now T)) C h dX10_may_35 2 rfl (fun h => ?_)
        refine go_iload_n C dX10_may_36 1 rfl ?_
        refine go_icmp_ne (tgt := 44) C h dX10_may_37 rfl (fun h => ?_) (fun h => ?_)
        · refine go_iconst (v := 0) C dX10_may_44 rfl ?_
          cases h
          exact go_zret C dX10_may_45 (by decide) rfl rfl
        · refine go_iconst (v := 1) C dX10_may_40 rfl ?_
          refine go_goto (tgt := 45) C dX10_may_41 rfl ?_
          cases h
          exact go_zret C dX10_may_45 (by decide) rfl rfl

set_option maxRecDepth 100000 in
set_option maxHeartbeats 4000000 in
theorem m10_standing_L2_k {p : Program} {l : Launch} {e : Env} {s : State} {m : MethodId} {args : Array Value} {below : List Frame} {meth : Method} {c : Code} {G : gG} {A : Nat → Prop} (C : Cx p e s m args meth c G RX10 cX10_standing 3 (some .int) A) (T0 T1 T2 T3 T4 T5 T6 T7 T8 T9 T10 T11 T12 : Nat) (T : SX10) (x1 : Int32) (R0 : Int32)  : ∀ (n : Nat) (x2 : Int32), tit (m10_standing_L2 T x1) n x2 = some R0 → Gq p l e (rq 0 0) s m args below meth c G A 3 0 0 (MQ below (QK G (some (.int R0)) (u10 G T0 T1 T2 T3 T4 T5 T6 T7 T8 T9 T10 T11 T12 T) A) args s 0 0 A) 2 [(0, .ref T0), (1, .int x1), (2, .int x2)] [] (u10 G T0 T1 T2 T3 T4 T5 T6 T7 T8 T9 T10 T11 T12 T) := by
  intro n
  induction n with
  | zero => exact fun _ h => (tit_z h).elim
  | succ n ih =>
    intro x2 h
    replace h : m10_standing_B2 T x1 (tit (m10_standing_L2 T x1) n) x2 = some R0 := h
    unfold m10_standing_B2 at h
    refine go_iload_n C dX10_standing_2 2 rfl ?_
    refine go_bipush (v := 6) C dX10_standing_3 rfl ?_
    refine go_icmp_ge (tgt := 29) C h dX10_standing_5 rfl (fun h => ?_) (fun h => ?_)
    · refine go_bipush (v := -6) C dX10_standing_29 rfl ?_
      cases h
      exact go_iret C dX10_standing_31 rfl rfl
    · refine go_aload_n C dX10_standing_8 0 rfl ?_
      refine go_get (v := .ref T2) C ffX10_13 dX10_standing_9 0 rfl rfl ?_
      refine go_bipush (v := 38) C dX10_standing_12 rfl ?_
      refine go_iload_n C dX10_standing_14 2 rfl ?_
      refine go_iadd C dX10_standing_15 ?_
      refine go_ialoadG (f := (g10_now T)) C h dX10_standing_16 2 rfl (fun h => ?_)
      refine go_iload_n C dX10_standing_17 1 rfl ?_
      refine go_icmp_ne (tgt := 23) C h dX10_standing_18 rfl (fun h => ?_) (fun h => ?_)
      · refine go_iincN (lf := fun v1 => [(2, .int v1), (0, .ref T0), (1, .int x1)]) C h dX10_standing_23 2 rfl rfl (by decide) (fun _ => rfl) (fun v1 h => ?_)
        refine go_goto (tgt := 2) C dX10_standing_26 rfl ?_
        exact go_lv [1, 2, 0] rfl (ih v1 h)
      · refine go_iload_n C dX10_standing_21 2 rfl ?_
        cases h
        exact go_iret C dX10_standing_22 rfl rfl

set_option maxRecDepth 100000 in
set_option maxHeartbeats 4000000 in
theorem m10_standing_k (l : Launch) (G : gG) (T0 T1 T2 T3 T4 T5 T6 T7 T8 T9 T10 T11 T12 : Nat) (T : SX10) (a1 : Int32) (R0 : Int32) (h : m10_standing T a1 = some R0) : KK l G yX10_standing cX10_standing 3 (some .int) 0 0 [.ref T0, .int a1] (u10 G T0 T1 T2 T3 T4 T5 T6 T7 T8 T9 T10 T11 T12 T) (some (.int R0)) (u10 G T0 T1 T2 T3 T4 T5 T6 T7 T8 T9 T10 T11 T12 T) := by
  refine KK_intro (own := RX10) (by decide +kernel) rfl (Nat.le_of_ble_eq_true rfl) rfl ?_
  intro p e s m args below meth c A C
  unfold m10_standing at h
  refine go_iconst (v := 0) C dX10_standing_0 rfl ?_
  refine go_istore_n (lv' := [(2, .int (0 : Int32)), (0, .ref T0), (1, .int a1)]) C dX10_standing_1 (by decide) rfl ?_
  exact go_lv [1, 2, 0] rfl (m10_standing_L2_k C T0 T1 T2 T3 T4 T5 T6 T7 T8 T9 T10 T11 T12 T a1 R0  FU (0 : Int32) h)

set_option maxRecDepth 100000 in
set_option maxHeartbeats 4000000 in
theorem m10_rung_J120_k {p : Program} {l : Launch} {e : Env} {s : State} {m : MethodId} {args : Array Value} {below : List Frame} {meth : Method} {c : Code} {G : gG} {A : Nat → Prop} (C : Cx p e s m args meth c G RX10 cX10_rung 7 (some .int) A) (T0 T1 T2 T3 T4 T5 T6 T7 T8 T9 T10 T11 T12 : Nat) (T : SX10) (x1 : Int32) (x4 : Int32) (x6 : Int32) (y1 : Int32) (y2 : Int32) (R0 : Int32 × SX10)  (h : m10_rung_J120 T x1 x4 x6 y1 y2 = some R0) : Gq p l e (rq 2 42) s m args below meth c G A 7 0 0 (MQ below (QK G (some (.int R0.1)) (u10 G T0 T1 T2 T3 T4 T5 T6 T7 T8 T9 T10 T11 T12 R0.2) A) args s 0 0 A) 120 [(0, .ref T0), (1, .int x1), (4, .int x4), (6, .int x6)] [.int y2, .int y1, .ref T1] (u10 G T0 T1 T2 T3 T4 T5 T6 T7 T8 T9 T10 T11 T12 T) := by
  unfold m10_rung_J120 at h
  refine go_iastoreG (f := (g10_book T)) (w' := u10 G T0 T1 T2 T3 T4 T5 T6 T7 T8 T9 T10 T11 T12 (s10_book T (upd (g10_book T) (Int32.toNatClampNeg y1) y2))) C h dX10_rung_120 1 rfl z10_book (fun h => ?_)
  refine go_aload_n C dX10_rung_121 0 rfl ?_
  refine go_get (v := .ref T1) C ffX10_7 dX10_rung_122 0 rfl rfl ?_
  refine go_bipush (v := 45) C dX10_rung_125 rfl ?_
  refine go_dup2 C dX10_rung_127 rfl rfl ?_
  refine go_iaload (f := (upd (g10_book T) (Int32.toNatClampNeg y1) y2)) C dX10_rung_128 1 rfl (by decide) ?_
  refine go_iconst (v := 1) C dX10_rung_129 rfl ?_
  refine go_iload_n C dX10_rung_130 1 rfl ?_
  refine go_ishl C dX10_rung_131 ?_
  refine go_iconst (v := -1) C dX10_rung_132 rfl ?_
  refine go_ixor C dX10_rung_133 ?_
  refine go_iand C dX10_rung_134 ?_
  refine go_iastore (f := (upd (g10_book T) (Int32.toNatClampNeg y1) y2)) (w' := u10 G T0 T1 T2 T3 T4 T5 T6 T7 T8 T9 T10 T11 T12 (s10_book T (upd (upd (g10_book T) (Int32.toNatClampNeg y1) y2) (Int32.toNatClampNeg (45 : Int32)) (((upd (g10_book T) (Int32.toNatClampNeg y1) y2) (Int32.toNatClampNeg (45 : Int32))) &&& (((1 : Int32) <<< (x1 &&& 31)) ^^^ (-1 : Int32)))))) C dX10_rung_135 1 rfl (by decide) z10_book ?_
  refine go_aload_n C dX10_rung_136 0 rfl ?_
  refine go_get (v := .ref T1) C ffX10_7 dX10_rung_137 0 rfl rfl ?_
  refine go_bipush (v := 45) C dX10_rung_140 rfl ?_
  refine go_dup2 C dX10_rung_142 rfl rfl ?_
  refine go_iaload (f := (upd (upd (g10_book T) (Int32.toNatClampNeg y1) y2) (Int32.toNatClampNeg (45 : Int32)) (((upd (g10_book T) (Int32.toNatClampNeg y1) y2) (Int32.toNatClampNeg (45 : Int32))) &&& (((1 : Int32) <<< (x1 &&& 31)) ^^^ (-1 : Int32))))) C dX10_rung_143 1 rfl (by decide) ?_
  refine go_iload C dX10_rung_144 2 rfl ?_
  refine go_iload_n C dX10_rung_146 1 rfl ?_
  refine go_ishl C dX10_rung_147 ?_
  refine go_ior C dX10_rung_148 ?_
  refine go_iastore (f := (upd (upd (g10_book T) (Int32.toNatClampNeg y1) y2) (Int32.toNatClampNeg (45 : Int32)) (((upd (g10_book T) (Int32.toNatClampNeg y1) y2) (Int32.toNatClampNeg (45 : Int32))) &&& (((1 : Int32) <<< (x1 &&& 31)) ^^^ (-1 : Int32))))) (w' := u10 G T0 T1 T2 T3 T4 T5 T6 T7 T8 T9 T10 T11 T12 (s10_book T (upd (upd (upd (g10_book T) (Int32.toNatClampNeg y1) y2) (Int32.toNatClampNeg (45 : Int32)) (((upd (g10_book T) (Int32.toNatClampNeg y1) y2) (Int32.toNatClampNeg (45 : Int32))) &&& (((1 : Int32) <<< (x1 &&& 31)) ^^^ (-1 : Int32)))) (Int32.toNatClampNeg (45 : Int32)) (((upd (upd (g10_book T) (Int32.toNatClampNeg y1) y2) (Int32.toNatClampNeg (45 : Int32)) (((upd (g10_book T) (Int32.toNatClampNeg y1) y2) (Int32.toNatClampNeg (45 : Int32))) &&& (((1 : Int32) <<< (x1 &&& 31)) ^^^ (-1 : Int32)))) (Int32.toNatClampNeg (45 : Int32))) ||| (x4 <<< (x1 &&& 31)))))) C dX10_rung_149 1 rfl (by decide) z10_book ?_
  refine go_iload C dX10_rung_150 3 rfl ?_
  cases h
  exact go_iret C dX10_rung_152 rfl rfl

set_option maxRecDepth 100000 in
set_option maxHeartbeats 4000000 in
theorem m10_rung_J101_k {p : Program} {l : Launch} {e : Env} {s : State} {m : MethodId} {args : Array Value} {below : List Frame} {meth : Method} {c : Code} {G : gG} {A : Nat → Prop} (C : Cx p e s m args meth c G RX10 cX10_rung 7 (some .int) A) (T0 T1 T2 T3 T4 T5 T6 T7 T8 T9 T10 T11 T12 : Nat) (T : SX10) (x1 : Int32) (x3 : Int32) (x4 : Int32) (x6 : Int32) (y1 : Int32) (y2 : Int32) (R0 : Int32 × SX10)  (h : m10_rung_J101 T x1 x3 x4 x6 y1 y2 = some R0) : Gq p l e (rq 2 42) s m args below meth c G A 7 0 0 (MQ below (QK G (some (.int R0.1)) (u10 G T0 T1 T2 T3 T4 T5 T6 T7 T8 T9 T10 T11 T12 R0.2) A) args s 0 0 A) 101 [(0, .ref T0), (1, .int x1), (3, .int x3), (4, .int x4), (6, .int x6)] [.int y2, .int y1, .ref T1] (u10 G T0 T1 T2 T3 T4 T5 T6 T7 T8 T9 T10 T11 T12 T) := by
  unfold m10_rung_J101 at h
  refine go_iastoreG (f := (g10_book T)) (w' := u10 G T0 T1 T2 T3 T4 T5 T6 T7 T8 T9 T10 T11 T12 (s10_book T (upd (g10_book T) (Int32.toNatClampNeg y1) y2))) C h dX10_rung_101 1 rfl z10_book (fun h => ?_)
  refine go_aload_n C dX10_rung_102 0 rfl ?_
  refine go_get (v := .ref T1) C ffX10_7 dX10_rung_103 0 rfl rfl ?_
  refine go_bipush (v := 13) C dX10_rung_106 rfl ?_
  refine go_iload_n C dX10_rung_108 1 rfl ?_
  refine go_iadd C dX10_rung_109 ?_
  refine go_iload_n C dX10_rung_110 2 rfl ?_
  refine go_if_ge (tgt := 119) C h dX10_rung_111 rfl (fun h => ?_) (fun h => ?_)
  · refine go_iload_n C dX10_rung_119 2 rfl ?_
    exact go_lv [0, 1, 3, 4] rfl (m10_rung_J120_k C T0 T1 T2 T3 T4 T5 T6 T7 T8 T9 T10 T11 T12 (s10_book T (upd (g10_book T) (Int32.toNatClampNeg y1) y2)) x1 x4 x6 ((13 : Int32) + x1) x3 R0  h)
  · refine go_bipush (v := -6) C dX10_rung_114 rfl ?_
    refine go_goto (tgt := 120) C dX10_rung_116 rfl ?_
    exact go_lv [0, 1, 3, 4] rfl (m10_rung_J120_k C T0 T1 T2 T3 T4 T5 T6 T7 T8 T9 T10 T11 T12 (s10_book T (upd (g10_book T) (Int32.toNatClampNeg y1) y2)) x1 x4 x6 ((13 : Int32) + x1) (-6 : Int32) R0  h)

set_option maxRecDepth 100000 in
set_option maxHeartbeats 4000000 in
theorem m10_rung_J68_k {p : Program} {l : Launch} {e : Env} {s : State} {m : MethodId} {args : Array Value} {below : List Frame} {meth : Method} {c : Code} {G : gG} {A : Nat → Prop} (C : Cx p e s m args meth c G RX10 cX10_rung 7 (some .int) A) (T0 T1 T2 T3 T4 T5 T6 T7 T8 T9 T10 T11 T12 : Nat) (T : SX10) (x1 : Int32) (x2 : Int32) (x3 : Int32) (x4 : Int32) (y0 : Int32) (R0 : Int32 × SX10)  (h : m10_rung_J68 T x1 x2 x3 x4 y0 = some R0) : Gq p l e (rq 2 42) s m args below meth c G A 7 0 0 (MQ below (QK G (some (.int R0.1)) (u10 G T0 T1 T2 T3 T4 T5 T6 T7 T8 T9 T10 T11 T12 R0.2) A) args s 0 0 A) 68 [(0, .ref T0), (1, .int x1), (2, .int x2), (3, .int x3), (4, .int x4)] [.int y0] (u10 G T0 T1 T2 T3 T4 T5 T6 T7 T8 T9 T10 T11 T12 T) := by
  unfold m10_rung_J68 at h
  refine go_istore (lv' := [(5, .int y0), (0, .ref T0), (1, .int x1), (2, .int x2), (3, .int x3), (4, .int x4)]) C dX10_rung_68 (by decide) rfl ?_
  refine go_iload C dX10_rung_70 0 rfl ?_
  refine go_if_ne (tgt := 78) C h dX10_rung_72 rfl (fun h => ?_) (fun h => ?_)
  · refine go_aload_n C dX10_rung_78 1 rfl ?_
    refine go_get (v := .ref T1) C ffX10_7 dX10_rung_79 0 rfl rfl ?_
    refine go_iload_n C dX10_rung_82 2 rfl ?_
    refine go_ialoadG (f := (g10_book T)) C h dX10_rung_83 1 rfl (fun h => ?_)
    refine go_istoreN (lf := fun v9 => [(6, .int v9), (5, .int y0), (0, .ref T0), (1, .int x1), (2, .int x2), (3, .int x3), (4, .int x4)]) C h dX10_rung_84 (by decide) (fun _ => rfl) (fun v9 h => ?_)
    refine go_aload_n C dX10_rung_86 2 rfl ?_
    refine go_get (v := .ref T1) C ffX10_7 dX10_rung_87 0 rfl rfl ?_
    refine go_iload_n C dX10_rung_90 3 rfl ?_
    refine go_iload_n C dX10_rung_91 4 rfl ?_
    refine go_if_ge (tgt := 100) C h dX10_rung_92 rfl (fun h => ?_) (fun h => ?_)
    · refine go_iload_n C dX10_rung_100 4 rfl ?_
      exact go_lv [2, 3, 5, 6, 0] rfl (m10_rung_J101_k C T0 T1 T2 T3 T4 T5 T6 T7 T8 T9 T10 T11 T12 T x1 x3 x4 v9 x1 x2 R0  h)
    · refine go_bipush (v := -6) C dX10_rung_95 rfl ?_
      refine go_goto (tgt := 101) C dX10_rung_97 rfl ?_
      exact go_lv [2, 3, 5, 6, 0] rfl (m10_rung_J101_k C T0 T1 T2 T3 T4 T5 T6 T7 T8 T9 T10 T11 T12 T x1 x3 x4 v9 x1 (-6 : Int32) R0  h)
  · refine go_bipush (v := -2) C dX10_rung_75 rfl ?_
    cases h
    exact go_iret C dX10_rung_77 rfl rfl

set_option maxRecDepth 100000 in
set_option maxHeartbeats 4000000 in
theorem m10_rung_J67_k {p : Program} {l : Launch} {e : Env} {s : State} {m : MethodId} {args : Array Value} {below : List Frame} {meth : Method} {c : Code} {G : gG} {A : Nat → Prop} (C : Cx p e s m args meth c G RX10 cX10_rung 7 (some .int) A) (T0 T1 T2 T3 T4 T5 T6 T7 T8 T9 T10 T11 T12 : Nat) (T : SX10) (x1 : Int32) (x2 : Int32) (x3 : Int32) (x4 : Int32) (R0 : Int32 × SX10)  (h : m10_rung_J67 T x1 x2 x3 x4 = some R0) : Gq p l e (rq 2 42) s m args below meth c G A 7 0 0 (MQ below (QK G (some (.int R0.1)) (u10 G T0 T1 T2 T3 T4 T5 T6 T7 T8 T9 T10 T11 T12 R0.2) A) args s 0 0 A) 67 [(0, .ref T0), (1, .int x1), (2, .int x2), (3, .int x3), (4, .int x4)] [] (u10 G T0 T1 T2 T3 T4 T5 T6 T7 T8 T9 T10 T11 T12 T) := by
  unfold m10_rung_J67 at h
  refine go_iconst (v := 0) C dX10_rung_67 rfl ?_
  exact go_lv [0, 1, 2, 3, 4] rfl (m10_rung_J68_k C T0 T1 T2 T3 T4 T5 T6 T7 T8 T9 T10 T11 T12 T x1 x2 x3 x4 (0 : Int32) R0  h)

set_option maxRecDepth 100000 in
set_option maxHeartbeats 4000000 in
theorem m10_rung_J63_k {p : Program} {l : Launch} {e : Env} {s : State} {m : MethodId} {args : Array Value} {below : List Frame} {meth : Method} {c : Code} {G : gG} {A : Nat → Prop} (C : Cx p e s m args meth c G RX10 cX10_rung 7 (some .int) A) (T0 T1 T2 T3 T4 T5 T6 T7 T8 T9 T10 T11 T12 : Nat) (T : SX10) (x1 : Int32) (x2 : Int32) (x3 : Int32) (x4 : Int32) (R0 : Int32 × SX10)  (h : m10_rung_J63 T x1 x2 x3 x4 = some R0) : Gq p l e (rq 2 42) s m args below meth c G A 7 0 0 (MQ below (QK G (some (.int R0.1)) (u10 G T0 T1 T2 T3 T4 T5 T6 T7 T8 T9 T10 T11 T12 R0.2) A) args s 0 0 A) 63 [(0, .ref T0), (1, .int x1), (2, .int x2), (3, .int x3), (4, .int x4)] [] (u10 G T0 T1 T2 T3 T4 T5 T6 T7 T8 T9 T10 T11 T12 T) := by
  unfold m10_rung_J63 at h
  refine go_iconst (v := 1) C dX10_rung_63 rfl ?_
  refine go_goto (tgt := 68) C dX10_rung_64 rfl ?_
  exact go_lv [0, 1, 2, 3, 4] rfl (m10_rung_J68_k C T0 T1 T2 T3 T4 T5 T6 T7 T8 T9 T10 T11 T12 T x1 x2 x3 x4 (1 : Int32) R0  h)

set_option maxRecDepth 100000 in
set_option maxHeartbeats 4000000 in
theorem m10_rung_J50_k {p : Program} {l : Launch} {e : Env} {s : State} {m : MethodId} {args : Array Value} {below : List Frame} {meth : Method} {c : Code} {G : gG} {A : Nat → Prop} (C : Cx p e s m args meth c G RX10 cX10_rung 7 (some .int) A) (T0 T1 T2 T3 T4 T5 T6 T7 T8 T9 T10 T11 T12 : Nat) (T : SX10) (x1 : Int32) (x2 : Int32) (x3 : Int32) (x4 : Int32) (R0 : Int32 × SX10)  (h : m10_rung_J50 T x1 x2 x3 x4 = some R0) : Gq p l e (rq 2 42) s m args below meth c G A 7 0 0 (MQ below (QK G (some (.int R0.1)) (u10 G T0 T1 T2 T3 T4 T5 T6 T7 T8 T9 T10 T11 T12 R0.2) A) args s 0 0 A) 50 [(0, .ref T0), (1, .int x1), (2, .int x2), (3, .int x3), (4, .int x4)] [] (u10 G T0 T1 T2 T3 T4 T5 T6 T7 T8 T9 T10 T11 T12 T) := by
  unfold m10_rung_J50 at h
  refine go_iload C dX10_rung_50 4 rfl ?_
  refine go_if_eq (tgt := 63) C h dX10_rung_52 rfl (fun h => ?_) (fun h => ?_)
  · exact go_lv [0, 1, 2, 3, 4] rfl (m10_rung_J63_k C T0 T1 T2 T3 T4 T5 T6 T7 T8 T9 T10 T11 T12 T x1 x2 x3 x4 R0  h)
  · refine go_iload_n C dX10_rung_55 2 rfl ?_
    refine go_if_ge (tgt := 67) C h dX10_rung_56 rfl (fun h => ?_) (fun h => ?_)
    · exact go_lv [0, 1, 2, 3, 4] rfl (m10_rung_J67_k C T0 T1 T2 T3 T4 T5 T6 T7 T8 T9 T10 T11 T12 T x1 x2 x3 x4 R0  h)
    · refine go_iload_n C dX10_rung_59 3 rfl ?_
      refine go_if_ge (tgt := 67) C h dX10_rung_60 rfl (fun h => ?_) (fun h => ?_)
      · exact go_lv [0, 1, 2, 3, 4] rfl (m10_rung_J67_k C T0 T1 T2 T3 T4 T5 T6 T7 T8 T9 T10 T11 T12 T x1 x2 x3 x4 R0  h)
      · exact go_lv [0, 1, 2, 3, 4] rfl (m10_rung_J63_k C T0 T1 T2 T3 T4 T5 T6 T7 T8 T9 T10 T11 T12 T x1 x2 x3 x4 R0  h)

set_option maxRecDepth 100000 in
set_option maxHeartbeats 4000000 in
theorem m10_rung_k (l : Launch) (G : gG) (T0 T1 T2 T3 T4 T5 T6 T7 T8 T9 T10 T11 T12 : Nat) (T : SX10) (a1 : Int32) (a2 : Int32) (a3 : Int32) (a4 : Int32) (R0 : Int32 × SX10) (h : m10_rung T a1 a2 a3 a4 = some R0) : KK l G yX10_rung cX10_rung 7 (some .int) 2 42 [.ref T0, .int a1, .int a2, .int a3, .int a4] (u10 G T0 T1 T2 T3 T4 T5 T6 T7 T8 T9 T10 T11 T12 T) (some (.int R0.1)) (u10 G T0 T1 T2 T3 T4 T5 T6 T7 T8 T9 T10 T11 T12 R0.2) := by
  refine KK_intro (own := RX10) (by decide +kernel) rfl (Nat.le_of_ble_eq_true rfl) rfl ?_
  intro p e s m args below meth c A C
  unfold m10_rung at h
  refine go_iload_n C dX10_rung_0 1 rfl ?_
  obtain ⟨r1, k2, h⟩ := tbd_e h
  refine go_callS0 C cfX10_73 (wr8 _ (List.mem_of_getElem? (i := 0) rfl)) (m10_isRung_k l G a1 r1 k2) dX10_rung_1 (by decide) ⟨Nat.zero_le _, Nat.zero_le _⟩ rfl rfl (Nat.le_of_ble_eq_true rfl) ?_
  refine go_if_eq (tgt := 25) C h dX10_rung_4 rfl (fun h => ?_) (fun h => ?_)
  · refine go_iconst (v := -1) C dX10_rung_25 rfl ?_
    cases h
    exact go_iret C dX10_rung_26 rfl rfl
  · refine go_iload_n C dX10_rung_7 2 rfl ?_
    refine go_iconst (v := -1) C dX10_rung_8 rfl ?_
    refine go_iconst (v := 5) C dX10_rung_9 rfl ?_
    obtain ⟨r3, k4, h⟩ := tbd_e h
    refine go_callS0 C cfX10_48 (wr8 _ (List.mem_of_getElem? (i := 3) rfl)) (m10_in_k l G a2 (-1 : Int32) (5 : Int32) r3 k4) dX10_rung_10 (by decide) ⟨Nat.zero_le _, Nat.zero_le _⟩ rfl rfl (Nat.le_of_ble_eq_true rfl) ?_
    refine go_if_eq (tgt := 25) C h dX10_rung_13 rfl (fun h => ?_) (fun h => ?_)
    · refine go_iconst (v := -1) C dX10_rung_25 rfl ?_
      cases h
      exact go_iret C dX10_rung_26 rfl rfl
    · refine go_iload_n C dX10_rung_16 3 rfl ?_
      refine go_iconst (v := -1) C dX10_rung_17 rfl ?_
      refine go_iconst (v := 5) C dX10_rung_18 rfl ?_
      obtain ⟨r5, k6, h⟩ := tbd_e h
      refine go_callS0 C cfX10_48 (wr8 _ (List.mem_of_getElem? (i := 3) rfl)) (m10_in_k l G a3 (-1 : Int32) (5 : Int32) r5 k6) dX10_rung_19 (by decide) ⟨Nat.zero_le _, Nat.zero_le _⟩ rfl rfl (Nat.le_of_ble_eq_true rfl) ?_
      refine go_if_ne (tgt := 27) C h dX10_rung_22 rfl (fun h => ?_) (fun h => ?_)
      · refine go_iload C dX10_rung_27 4 rfl ?_
        refine go_iconst (v := 0) C dX10_rung_29 rfl ?_
        refine go_iconst (v := 1) C dX10_rung_30 rfl ?_
        obtain ⟨r7, k8, h⟩ := tbd_e h
        refine go_callS0 C cfX10_48 (wr8 _ (List.mem_of_getElem? (i := 3) rfl)) (m10_in_k l G a4 (0 : Int32) (1 : Int32) r7 k8) dX10_rung_31 (by decide) ⟨Nat.zero_le _, Nat.zero_le _⟩ rfl rfl (Nat.le_of_ble_eq_true rfl) ?_
        refine go_if_eq (tgt := 67) C h dX10_rung_34 rfl (fun h => ?_) (fun h => ?_)
        · exact go_lv [0, 1, 2, 3, 4] rfl (m10_rung_J67_k C T0 T1 T2 T3 T4 T5 T6 T7 T8 T9 T10 T11 T12 T a1 a2 a3 a4 R0  h)
        · refine go_iload_n C dX10_rung_37 3 rfl ?_
          refine go_if_lt (tgt := 50) C h dX10_rung_38 rfl (fun h => ?_) (fun h => ?_)
          · exact go_lv [0, 1, 2, 3, 4] rfl (m10_rung_J50_k C T0 T1 T2 T3 T4 T5 T6 T7 T8 T9 T10 T11 T12 T a1 a2 a3 a4 R0  h)
          · refine go_iload_n C dX10_rung_41 2 rfl ?_
            refine go_if_lt (tgt := 67) C h dX10_rung_42 rfl (fun h => ?_) (fun h => ?_)
            · exact go_lv [0, 1, 2, 3, 4] rfl (m10_rung_J67_k C T0 T1 T2 T3 T4 T5 T6 T7 T8 T9 T10 T11 T12 T a1 a2 a3 a4 R0  h)
            · refine go_iload_n C dX10_rung_45 2 rfl ?_
              refine go_iload_n C dX10_rung_46 3 rfl ?_
              refine go_icmp_eq (tgt := 67) C h dX10_rung_47 rfl (fun h => ?_) (fun h => ?_)
              · exact go_lv [0, 1, 2, 3, 4] rfl (m10_rung_J67_k C T0 T1 T2 T3 T4 T5 T6 T7 T8 T9 T10 T11 T12 T a1 a2 a3 a4 R0  h)
              · exact go_lv [0, 1, 2, 3, 4] rfl (m10_rung_J50_k C T0 T1 T2 T3 T4 T5 T6 T7 T8 T9 T10 T11 T12 T a1 a2 a3 a4 R0  h)
      · refine go_iconst (v := -1) C dX10_rung_25 rfl ?_
        cases h
        exact go_iret C dX10_rung_26 rfl rfl

set_option maxRecDepth 100000 in
set_option maxHeartbeats 4000000 in
theorem m10_man_k (l : Launch) (G : gG) (T0 T1 T2 T3 T4 T5 T6 T7 T8 T9 T10 T11 T12 : Nat) (T : SX10) (a1 : Int32) (a2 : Int32) (a3 : Int32) (a4 : Int32) (R0 : Int32 × SX10) (h : m10_man T a1 a2 a3 a4 = some R0) : KK l G yX10_man cX10_man 6 (some .int) 2 42 [.ref T0, .int a1, .int a2, .int a3, .int a4] (u10 G T0 T1 T2 T3 T4 T5 T6 T7 T8 T9 T10 T11 T12 T) (some (.int R0.1)) (u10 G T0 T1 T2 T3 T4 T5 T6 T7 T8 T9 T10 T11 T12 R0.2) := by
  refine KK_intro (own := RX10) (by decide +kernel) rfl (Nat.le_of_ble_eq_true rfl) rfl ?_
  intro p e s m args below meth c A C
  unfold m10_man at h
  refine go_iload_n C dX10_man_0 1 rfl ?_
  obtain ⟨r1, k2, h⟩ := tbd_e h
  refine go_callS0 C cfX10_76 (wr9 _ (List.mem_of_getElem? (i := 5) rfl)) (m10_isMan_k l G a1 r1 k2) dX10_man_1 (by decide) ⟨Nat.zero_le _, Nat.zero_le _⟩ rfl rfl (Nat.le_of_ble_eq_true rfl) ?_
  refine go_if_ne (tgt := 9) C h dX10_man_4 rfl (fun h => ?_) (fun h => ?_)
  · refine go_iload_n C dX10_man_9 2 rfl ?_
    refine go_iconst (v := 1) C dX10_man_10 rfl ?_
    refine go_iconst (v := 4) C dX10_man_11 rfl ?_
    obtain ⟨r3, k4, h⟩ := tbd_e h
    refine go_callS0 C cfX10_48 (wr8 _ (List.mem_of_getElem? (i := 3) rfl)) (m10_in_k l G a2 (1 : Int32) (4 : Int32) r3 k4) dX10_man_12 (by decide) ⟨Nat.zero_le _, Nat.zero_le _⟩ rfl rfl (Nat.le_of_ble_eq_true rfl) ?_
    refine go_if_eq (tgt := 39) C h dX10_man_15 rfl (fun h => ?_) (fun h => ?_)
    · refine go_bipush (v := -2) C dX10_man_39 rfl ?_
      cases h
      exact go_iret C dX10_man_41 rfl rfl
    · refine go_iload_n C dX10_man_18 3 rfl ?_
      refine go_iconst (v := 0) C dX10_man_19 rfl ?_
      refine go_bipush (v := 99) C dX10_man_20 rfl ?_
      obtain ⟨r5, k6, h⟩ := tbd_e h
      refine go_callS0 C cfX10_48 (wr8 _ (List.mem_of_getElem? (i := 3) rfl)) (m10_in_k l G a3 (0 : Int32) (99 : Int32) r5 k6) dX10_man_22 (by decide) ⟨Nat.zero_le _, Nat.zero_le _⟩ rfl rfl (Nat.le_of_ble_eq_true rfl) ?_
      refine go_if_eq (tgt := 39) C h dX10_man_25 rfl (fun h => ?_) (fun h => ?_)
      · refine go_bipush (v := -2) C dX10_man_39 rfl ?_
        cases h
        exact go_iret C dX10_man_41 rfl rfl
      · refine go_iload C dX10_man_28 4 rfl ?_
        refine go_iconst (v := 0) C dX10_man_30 rfl ?_
        refine go_bipush (v := 13) C dX10_man_31 rfl ?_
        obtain ⟨r7, k8, h⟩ := tbd_e h
        refine go_callS0 C cfX10_48 (wr8 _ (List.mem_of_getElem? (i := 3) rfl)) (m10_in_k l G a4 (0 : Int32) (13 : Int32) r7 k8) dX10_man_33 (by decide) ⟨Nat.zero_le _, Nat.zero_le _⟩ rfl rfl (Nat.le_of_ble_eq_true rfl) ?_
        refine go_if_ne (tgt := 42) C h dX10_man_36 rfl (fun h => ?_) (fun h => ?_)
        · refine go_bipush (v := 100) C dX10_man_42 rfl ?_
          refine go_aload_n C dX10_man_44 0 rfl ?_
          refine go_get (v := .ref T1) C ffX10_7 dX10_man_45 0 rfl rfl ?_
          refine go_bipush (v := 38) C dX10_man_48 rfl ?_
          refine go_iload_n C dX10_man_50 1 rfl ?_
          refine go_iadd C dX10_man_51 ?_
          refine go_ialoadG (f := (g10_book T)) C h dX10_man_52 1 rfl (fun h => ?_)
          refine go_imul C dX10_man_53 ?_
          refine go_aload_n C dX10_man_54 0 rfl ?_
          refine go_get (v := .ref T1) C ffX10_7 dX10_man_55 0 rfl rfl ?_
          refine go_bipush (v := 32) C dX10_man_58 rfl ?_
          refine go_iload_n C dX10_man_60 1 rfl ?_
          refine go_iadd C dX10_man_61 ?_
          refine go_ialoadG (f := (g10_book T)) C h dX10_man_62 1 rfl (fun h => ?_)
          refine go_iadd C dX10_man_63 ?_
          refine go_istoreN (lf := fun v9 => [(5, .int v9), (0, .ref T0), (1, .int a1), (2, .int a2), (3, .int a3), (4, .int a4)]) C h dX10_man_64 (by decide) (fun _ => rfl) (fun v9 h => ?_)
          refine go_aload_n C dX10_man_66 1 rfl ?_
          refine go_get (v := .ref T1) C ffX10_7 dX10_man_67 0 rfl rfl ?_
          refine go_bipush (v := 26) C dX10_man_70 rfl ?_
          refine go_iload_n C dX10_man_72 2 rfl ?_
          refine go_iadd C dX10_man_73 ?_
          refine go_iload_n C dX10_man_74 3 rfl ?_
          refine go_iastoreG (f := (g10_book T)) (w' := u10 G T0 T1 T2 T3 T4 T5 T6 T7 T8 T9 T10 T11 T12 (s10_book T (upd (g10_book T) (Int32.toNatClampNeg ((26 : Int32) + a1)) a2))) C h dX10_man_75 1 rfl z10_book (fun h => ?_)
          refine go_aload_n C dX10_man_76 1 rfl ?_
          refine go_get (v := .ref T1) C ffX10_7 dX10_man_77 0 rfl rfl ?_
          refine go_bipush (v := 32) C dX10_man_80 rfl ?_
          refine go_iload_n C dX10_man_82 2 rfl ?_
          refine go_iadd C dX10_man_83 ?_
          refine go_iload_n C dX10_man_84 4 rfl ?_
          refine go_iastoreG (f := (upd (g10_book T) (Int32.toNatClampNeg ((26 : Int32) + a1)) a2)) (w' := u10 G T0 T1 T2 T3 T4 T5 T6 T7 T8 T9 T10 T11 T12 (s10_book T (upd (upd (g10_book T) (Int32.toNatClampNeg ((26 : Int32) + a1)) a2) (Int32.toNatClampNeg ((32 : Int32) + a1)) a3))) C h dX10_man_85 1 rfl z10_book (fun h => ?_)
          refine go_aload_n C dX10_man_86 1 rfl ?_
          refine go_get (v := .ref T1) C ffX10_7 dX10_man_87 0 rfl rfl ?_
          refine go_bipush (v := 38) C dX10_man_90 rfl ?_
          refine go_iload_n C dX10_man_92 2 rfl ?_
          refine go_iadd C dX10_man_93 ?_
          refine go_iload C dX10_man_94 5 rfl ?_
          refine go_iastoreG (f := (upd (upd (g10_book T) (Int32.toNatClampNeg ((26 : Int32) + a1)) a2) (Int32.toNatClampNeg ((32 : Int32) + a1)) a3)) (w' := u10 G T0 T1 T2 T3 T4 T5 T6 T7 T8 T9 T10 T11 T12 (s10_book T (upd (upd (upd (g10_book T) (Int32.toNatClampNeg ((26 : Int32) + a1)) a2) (Int32.toNatClampNeg ((32 : Int32) + a1)) a3) (Int32.toNatClampNeg ((38 : Int32) + a1)) a4))) C h dX10_man_96 1 rfl z10_book (fun h => ?_)
          refine go_aload_n C dX10_man_97 1 rfl ?_
          refine go_get (v := .ref T1) C ffX10_7 dX10_man_98 0 rfl rfl ?_
          refine go_bipush (v := 44) C dX10_man_101 rfl ?_
          refine go_dup2 C dX10_man_103 rfl rfl ?_
          refine go_iaload (f := (upd (upd (upd (g10_book T) (Int32.toNatClampNeg ((26 : Int32) + a1)) a2) (Int32.toNatClampNeg ((32 : Int32) + a1)) a3) (Int32.toNatClampNeg ((38 : Int32) + a1)) a4)) C dX10_man_104 1 rfl (by decide) ?_
          refine go_iconst (v := 1) C dX10_man_105 rfl ?_
          refine go_iload_n C dX10_man_106 2 rfl ?_
          refine go_ishl C dX10_man_107 ?_
          refine go_iconst (v := -1) C dX10_man_108 rfl ?_
          refine go_ixor C dX10_man_109 ?_
          refine go_iand C dX10_man_110 ?_
          refine go_iastore (f := (upd (upd (upd (g10_book T) (Int32.toNatClampNeg ((26 : Int32) + a1)) a2) (Int32.toNatClampNeg ((32 : Int32) + a1)) a3) (Int32.toNatClampNeg ((38 : Int32) + a1)) a4)) (w' := u10 G T0 T1 T2 T3 T4 T5 T6 T7 T8 T9 T10 T11 T12 (s10_book T (upd (upd (upd (upd (g10_book T) (Int32.toNatClampNeg ((26 : Int32) + a1)) a2) (Int32.toNatClampNeg ((32 : Int32) + a1)) a3) (Int32.toNatClampNeg ((38 : Int32) + a1)) a4) (Int32.toNatClampNeg (44 : Int32)) (((upd (upd (upd (g10_book T) (Int32.toNatClampNeg ((26 : Int32) + a1)) a2) (Int32.toNatClampNeg ((32 : Int32) + a1)) a3) (Int32.toNatClampNeg ((38 : Int32) + a1)) a4) (Int32.toNatClampNeg (44 : Int32))) &&& (((1 : Int32) <<< (a1 &&& 31)) ^^^ (-1 : Int32)))))) C dX10_man_111 1 rfl (by decide) z10_book ?_
          refine go_iload C dX10_man_112 0 rfl ?_
          cases h
          exact go_iret C dX10_man_114 rfl rfl
        · refine go_bipush (v := -2) C dX10_man_39 rfl ?_
          cases h
          exact go_iret C dX10_man_41 rfl rfl
  · refine go_iconst (v := -1) C dX10_man_7 rfl ?_
    cases h
    exact go_iret C dX10_man_8 rfl rfl

set_option maxRecDepth 100000 in
set_option maxHeartbeats 4000000 in
theorem m10_say_k (l : Launch) (G : gG) (T0 T1 T2 T3 T4 T5 T6 T7 T8 T9 T10 T11 T12 : Nat) (T : SX10) (a1 : Int32) (R0 : Int32 × SX10) (h : m10_say T a1 = some R0) : KK l G yX10_say cX10_say 2 (some .int) 1 22 [.ref T0, .int a1] (u10 G T0 T1 T2 T3 T4 T5 T6 T7 T8 T9 T10 T11 T12 T) (some (.int R0.1)) (u10 G T0 T1 T2 T3 T4 T5 T6 T7 T8 T9 T10 T11 T12 R0.2) := by
  refine KK_intro (own := RX10) (by decide +kernel) rfl (Nat.le_of_ble_eq_true rfl) rfl ?_
  intro p e s m args below meth c A C
  unfold m10_say at h
  refine go_iload_n C dX10_say_0 1 rfl ?_
  refine go_bipush (v := 33) C dX10_say_1 rfl ?_
  refine go_bipush (v := 126) C dX10_say_3 rfl ?_
  obtain ⟨r1, k2, h⟩ := tbd_e h
  refine go_callS0 C cfX10_48 (wr8 _ (List.mem_of_getElem? (i := 3) rfl)) (m10_in_k l G a1 (33 : Int32) (126 : Int32) r1 k2) dX10_say_5 (by decide) ⟨Nat.zero_le _, Nat.zero_le _⟩ rfl rfl (Nat.le_of_ble_eq_true rfl) ?_
  refine go_if_ne (tgt := 14) C h dX10_say_8 rfl (fun h => ?_) (fun h => ?_)
  · refine go_aload_n C dX10_say_14 0 rfl ?_
    refine go_get (v := .int (g10_signs T)) C ffX10_79 dX10_say_15 0 rfl rfl ?_
    refine go_bipush (v := 60) C dX10_say_18 rfl ?_
    refine go_icmp_ne (tgt := 26) C h dX10_say_20 rfl (fun h => ?_) (fun h => ?_)
    · refine go_aload_n C dX10_say_26 0 rfl ?_
      refine go_get (v := .ref T4) C ffX10_19 dX10_say_27 0 rfl rfl ?_
      refine go_aload_n C dX10_say_30 0 rfl ?_
      refine go_get (v := .int (g10_signs T)) C ffX10_79 dX10_say_31 0 rfl rfl ?_
      refine go_iload_n C dX10_say_34 1 rfl ?_
      refine go_iastoreG (f := (g10_pad T)) (w' := u10 G T0 T1 T2 T3 T4 T5 T6 T7 T8 T9 T10 T11 T12 (s10_pad T (upd (g10_pad T) (Int32.toNatClampNeg (g10_signs T)) a1))) C h dX10_say_35 4 rfl z10_pad (fun h => ?_)
      refine go_aload_n C dX10_say_36 0 rfl ?_
      refine go_dup C dX10_say_37 rfl ?_
      refine go_get (v := .int (g10_signs T)) C ffX10_79 dX10_say_38 0 rfl rfl ?_
      refine go_iconst (v := 1) C dX10_say_41 rfl ?_
      refine go_iadd C dX10_say_42 ?_
      refine go_puti (w' := u10 G T0 T1 T2 T3 T4 T5 T6 T7 T8 T9 T10 T11 T12 (s10_pad (s10_signs T ((g10_signs T) + (1 : Int32))) (upd (g10_pad T) (Int32.toNatClampNeg (g10_signs T)) a1))) C fpX10_79 dX10_say_43 0 rfl (Nat.le_of_ble_eq_true rfl) z10_signs ?_
      refine go_aload_n C dX10_say_46 0 rfl ?_
      refine go_get (v := .int ((g10_signs T) + (1 : Int32))) C ffX10_79 dX10_say_47 0 rfl rfl ?_
      cases h
      exact go_iret C dX10_say_50 rfl rfl
    · refine go_bipush (v := -4) C dX10_say_23 rfl ?_
      cases h
      exact go_iret C dX10_say_25 rfl rfl
  · refine go_bipush (v := -2) C dX10_say_11 rfl ?_
    cases h
    exact go_iret C dX10_say_13 rfl rfl

set_option maxRecDepth 100000 in
set_option maxHeartbeats 4000000 in
theorem m10_wipe_k (l : Launch) (G : gG) (T0 T1 T2 T3 T4 T5 T6 T7 T8 T9 T10 T11 T12 : Nat) (T : SX10) (R0 : Int32 × SX10) (h : m10_wipe T = some R0) : KK l G yX10_wipe cX10_wipe 2 (some .int) 0 0 [.ref T0] (u10 G T0 T1 T2 T3 T4 T5 T6 T7 T8 T9 T10 T11 T12 T) (some (.int R0.1)) (u10 G T0 T1 T2 T3 T4 T5 T6 T7 T8 T9 T10 T11 T12 R0.2) := by
  refine KK_intro (own := RX10) (by decide +kernel) rfl (Nat.le_of_ble_eq_true rfl) rfl ?_
  intro p e s m args below meth c A C
  unfold m10_wipe at h
  refine go_aload_n C dX10_wipe_0 0 rfl ?_
  refine go_get (v := .int (g10_signs T)) C ffX10_79 dX10_wipe_1 0 rfl rfl ?_
  refine go_istore_nN (lf := fun v1 => [(1, .int v1), (0, .ref T0)]) C h dX10_wipe_4 (by decide) (fun _ => rfl) (fun v1 h => ?_)
  refine go_aload_n C dX10_wipe_5 1 rfl ?_
  refine go_iconst (v := 0) C dX10_wipe_6 rfl ?_
  refine go_puti (w' := u10 G T0 T1 T2 T3 T4 T5 T6 T7 T8 T9 T10 T11 T12 (s10_signs T (0 : Int32))) C fpX10_79 dX10_wipe_7 0 rfl (Nat.le_of_ble_eq_true rfl) z10_signs ?_
  refine go_iload_n C dX10_wipe_10 0 rfl ?_
  cases h
  exact go_iret C dX10_wipe_11 rfl rfl

set_option maxRecDepth 100000 in
set_option maxHeartbeats 4000000 in
theorem m10_step_k (l : Launch) (G : gG) (a0 : Int32) (a1 : Int32) (R0 : Int32) (h : m10_step a0 a1 = some R0) : KK l G yX10_step cX10_step 3 (some .int) 1 22 [.int a0, .int a1] (([] : va_W)) (some (.int R0)) (([] : va_W)) := by
  refine KK_intro (own := RX10) (by decide +kernel) rfl (Nat.le_of_ble_eq_true rfl) rfl ?_
  intro p e s m args below meth c A C
  unfold m10_step at h
  refine go_iload_n C dX10_step_0 1 rfl ?_
  refine go_bipush (v := 97) C dX10_step_1 rfl ?_
  refine go_bipush (v := 108) C dX10_step_3 rfl ?_
  obtain ⟨r1, k2, h⟩ := tbd_e h
  refine go_callS0 C cfX10_48 (wr8 _ (List.mem_of_getElem? (i := 3) rfl)) (m10_in_k l G a1 (97 : Int32) (108 : Int32) r1 k2) dX10_step_5 (by decide) ⟨Nat.zero_le _, Nat.zero_le _⟩ rfl rfl (Nat.le_of_ble_eq_true rfl) ?_
  refine go_istore_n (lv' := [(2, .int r1), (0, .int a0), (1, .int a1)]) C dX10_step_8 (by decide) rfl ?_
  refine go_iload_n C dX10_step_9 1 rfl ?_
  refine go_ite h (fun q h => ?_) (fun q0 h => ?_)
  · refine go_look (off := 26) (tgt := 36) C dX10_step_10 (by decide) (by rw [q]; decide) rfl ?_
    refine go_iload_n C dX10_step_36 2 rfl ?_
    refine go_bipush (v := 65) C dX10_step_37 rfl ?_
    refine go_bipush (v := 70) C dX10_step_39 rfl ?_
    obtain ⟨r3, k4, h⟩ := tbd_e h
    refine go_callS0 C cfX10_48 (wr8 _ (List.mem_of_getElem? (i := 3) rfl)) (m10_in_k l G a1 (65 : Int32) (70 : Int32) r3 k4) dX10_step_41 (by decide) ⟨Nat.zero_le _, Nat.zero_le _⟩ rfl rfl (Nat.le_of_ble_eq_true rfl) ?_
    refine go_if_eq (tgt := 51) C h dX10_step_44 rfl (fun h => ?_) (fun h => ?_)
    · refine go_iload_n C dX10_step_51 2 rfl ?_
      refine go_bipush (v := 107) C dX10_step_52 rfl ?_
      refine go_icmp_eq (tgt := 63) C h dX10_step_54 rfl (fun h => ?_) (fun h => ?_)
      · refine go_iconst (v := 2) C dX10_step_63 rfl ?_
        refine go_goto (tgt := 79) C dX10_step_64 rfl ?_
        cases h
        exact go_iret C dX10_step_79 rfl rfl
      · refine go_iload_n C dX10_step_57 2 rfl ?_
        refine go_bipush (v := 43) C dX10_step_58 rfl ?_
        refine go_icmp_ne (tgt := 67) C h dX10_step_60 rfl (fun h => ?_) (fun h => ?_)
        · refine go_iload_n C dX10_step_67 2 rfl ?_
          refine go_bipush (v := 46) C dX10_step_68 rfl ?_
          refine go_icmp_ne (tgt := 77) C h dX10_step_70 rfl (fun h => ?_) (fun h => ?_)
          · refine go_bipush (v := -6) C dX10_step_77 rfl ?_
            cases h
            exact go_iret C dX10_step_79 rfl rfl
          · refine go_iconst (v := 0) C dX10_step_73 rfl ?_
            refine go_goto (tgt := 79) C dX10_step_74 rfl ?_
            cases h
            exact go_iret C dX10_step_79 rfl rfl
        · refine go_iconst (v := 2) C dX10_step_63 rfl ?_
          refine go_goto (tgt := 79) C dX10_step_64 rfl ?_
          cases h
          exact go_iret C dX10_step_79 rfl rfl
    · refine go_iconst (v := 1) C dX10_step_47 rfl ?_
      refine go_goto (tgt := 79) C dX10_step_48 rfl ?_
      cases h
      exact go_iret C dX10_step_79 rfl rfl
  refine go_ite h (fun q h => ?_) (fun q1 h => ?_)
  · refine go_look (off := 70) (tgt := 80) C dX10_step_10 (by decide) (by rw [q]; decide) rfl ?_
    refine go_iload_n C dX10_step_80 0 rfl ?_
    refine go_if_ne (tgt := 96) C h dX10_step_81 rfl (fun h => ?_) (fun h => ?_)
    · refine go_iconst (v := 0) C dX10_step_96 rfl ?_
      refine go_goto (tgt := 112) C dX10_step_97 rfl ?_
      cases h
      exact go_iret C dX10_step_112 rfl rfl
    · refine go_iload_n C dX10_step_84 2 rfl ?_
      refine go_bipush (v := 94) C dX10_step_85 rfl ?_
      refine go_icmp_eq (tgt := 96) C h dX10_step_87 rfl (fun h => ?_) (fun h => ?_)
      · refine go_iconst (v := 0) C dX10_step_96 rfl ?_
        refine go_goto (tgt := 112) C dX10_step_97 rfl ?_
        cases h
        exact go_iret C dX10_step_112 rfl rfl
      · refine go_iload_n C dX10_step_90 2 rfl ?_
        refine go_bipush (v := 95) C dX10_step_91 rfl ?_
        refine go_icmp_ne (tgt := 100) C h dX10_step_93 rfl (fun h => ?_) (fun h => ?_)
        · refine go_iload_n C dX10_step_100 2 rfl ?_
          refine go_bipush (v := 37) C dX10_step_101 rfl ?_
          refine go_icmp_ne (tgt := 110) C h dX10_step_103 rfl (fun h => ?_) (fun h => ?_)
          · refine go_bipush (v := -6) C dX10_step_110 rfl ?_
            cases h
            exact go_iret C dX10_step_112 rfl rfl
          · refine go_iconst (v := 2) C dX10_step_106 rfl ?_
            refine go_goto (tgt := 112) C dX10_step_107 rfl ?_
            cases h
            exact go_iret C dX10_step_112 rfl rfl
        · refine go_iconst (v := 0) C dX10_step_96 rfl ?_
          refine go_goto (tgt := 112) C dX10_step_97 rfl ?_
          cases h
          exact go_iret C dX10_step_112 rfl rfl
  refine go_look (off := 103) (tgt := 113) C dX10_step_10 (by decide) (by show Op.lookupswitch.offset [(0, 26), (1, 70)] 103 _ = _; rw [lv_osw (a := 0) q0 rfl, lv_osw (a := 1) q1 rfl]; rfl) rfl ?_
  refine go_iload_n C dX10_step_113 0 rfl ?_
  refine go_if_eq (tgt := 121) C h dX10_step_114 rfl (fun h => ?_) (fun h => ?_)
  · refine go_bipush (v := -6) C dX10_step_121 rfl ?_
    cases h
    exact go_iret C dX10_step_123 rfl rfl
  · refine go_iconst (v := 0) C dX10_step_117 rfl ?_
    refine go_goto (tgt := 123) C dX10_step_118 rfl ?_
    cases h
    exact go_iret C dX10_step_123 rfl rfl

set_option maxRecDepth 100000 in
set_option maxHeartbeats 4000000 in
theorem m10_faultOf_L4_k {p : Program} {l : Launch} {e : Env} {s : State} {m : MethodId} {args : Array Value} {below : List Frame} {meth : Method} {c : Code} {G : gG} {A : Nat → Prop} (C : Cx p e s m args meth c G RX10 cX10_faultOf 3 (some .int) A) (T0 T1 T2 T3 T4 T5 T6 T7 T8 T9 T10 T11 T12 : Nat) (T : SX10) (R0 : Int32)  : ∀ (n : Nat) (x1 : Int32) (x2 : Int32), tit (m10_faultOf_L4 T) n (x1, x2) = some R0 → Gq p l e (rq 2 44) s m args below meth c G A 3 0 0 (MQ below (QK G (some (.int R0)) (u10 G T0 T1 T2 T3 T4 T5 T6 T7 T8 T9 T10 T11 T12 T) A) args s 0 0 A) 4 [(0, .ref T0), (1, .int x1), (2, .int x2)] [] (u10 G T0 T1 T2 T3 T4 T5 T6 T7 T8 T9 T10 T11 T12 T) := by
  intro n
  induction n with
  | zero => exact fun _ _ h => (tit_z h).elim
  | succ n ih =>
    intro x1 x2 h
    replace h : m10_faultOf_B4 T (tit (m10_faultOf_L4 T) n) x1 x2 = some R0 := h
    unfold m10_faultOf_B4 at h
    refine go_iload_n C dX10_faultOf_4 2 rfl ?_
    refine go_aload_n C dX10_faultOf_5 0 rfl ?_
    refine go_get (v := .int (g10_signs T)) C ffX10_79 dX10_faultOf_6 0 rfl rfl ?_
    refine go_icmp_ge (tgt := 35) C h dX10_faultOf_9 rfl (fun h => ?_) (fun h => ?_)
    · refine go_iload_n C dX10_faultOf_35 1 rfl ?_
      refine go_if_ne (tgt := 44) C h dX10_faultOf_36 rfl (fun h => ?_) (fun h => ?_)
      · refine go_aload_n C dX10_faultOf_44 0 rfl ?_
        refine go_get (v := .int (g10_signs T)) C ffX10_79 dX10_faultOf_45 0 rfl rfl ?_
        cases h
        exact go_iret C dX10_faultOf_48 rfl rfl
      · refine go_bipush (v := -6) C dX10_faultOf_39 rfl ?_
        refine go_goto (tgt := 48) C dX10_faultOf_41 rfl ?_
        cases h
        exact go_iret C dX10_faultOf_48 rfl rfl
    · refine go_iload_n C dX10_faultOf_12 1 rfl ?_
      refine go_aload_n C dX10_faultOf_13 0 rfl ?_
      refine go_get (v := .ref T4) C ffX10_19 dX10_faultOf_14 0 rfl rfl ?_
      refine go_iload_n C dX10_faultOf_17 2 rfl ?_
      refine go_ialoadG (f := (g10_pad T)) C h dX10_faultOf_18 4 rfl (fun h => ?_)
      obtain ⟨r1, k2, h⟩ := tbd_e h
      refine go_callS0 C cfX10_82 (wr12 _ (List.mem_of_getElem? (i := 5) rfl)) (m10_step_k l G x1 ((g10_pad T) (Int32.toNatClampNeg x2)) r1 k2) dX10_faultOf_19 (by decide) ⟨Nat.zero_le _, Nat.zero_le _⟩ rfl rfl (Nat.le_of_ble_eq_true rfl) ?_
      refine go_istore_n (lv' := [(1, .int r1), (0, .ref T0), (2, .int x2)]) C dX10_faultOf_22 (by decide) rfl ?_
      refine go_iload_n C dX10_faultOf_23 0 rfl ?_
      refine go_if_ge (tgt := 29) C h dX10_faultOf_24 rfl (fun h => ?_) (fun h => ?_)
      · refine go_iincN (lf := fun v3 => [(2, .int v3), (1, .int r1), (0, .ref T0)]) C h dX10_faultOf_29 2 rfl rfl (by decide) (fun _ => rfl) (fun v3 h => ?_)
        refine go_goto (tgt := 4) C dX10_faultOf_32 rfl ?_
        exact go_lv [2, 1, 0] rfl (ih r1 v3 h)
      · refine go_iload_n C dX10_faultOf_27 2 rfl ?_
        cases h
        exact go_iret C dX10_faultOf_28 rfl rfl

set_option maxRecDepth 100000 in
set_option maxHeartbeats 4000000 in
theorem m10_faultOf_k (l : Launch) (G : gG) (T0 T1 T2 T3 T4 T5 T6 T7 T8 T9 T10 T11 T12 : Nat) (T : SX10) (R0 : Int32) (h : m10_faultOf T = some R0) : KK l G yX10_faultOf cX10_faultOf 3 (some .int) 2 44 [.ref T0] (u10 G T0 T1 T2 T3 T4 T5 T6 T7 T8 T9 T10 T11 T12 T) (some (.int R0)) (u10 G T0 T1 T2 T3 T4 T5 T6 T7 T8 T9 T10 T11 T12 T) := by
  refine KK_intro (own := RX10) (by decide +kernel) rfl (Nat.le_of_ble_eq_true rfl) rfl ?_
  intro p e s m args below meth c A C
  unfold m10_faultOf at h
  refine go_iconst (v := 0) C dX10_faultOf_0 rfl ?_
  refine go_istore_n (lv' := [(1, .int (0 : Int32)), (0, .ref T0)]) C dX10_faultOf_1 (by decide) rfl ?_
  refine go_iconst (v := 0) C dX10_faultOf_2 rfl ?_
  refine go_istore_n (lv' := [(2, .int (0 : Int32)), (1, .int (0 : Int32)), (0, .ref T0)]) C dX10_faultOf_3 (by decide) rfl ?_
  exact go_lv [2, 1, 0] rfl (m10_faultOf_L4_k C T0 T1 T2 T3 T4 T5 T6 T7 T8 T9 T10 T11 T12 T R0  FU (0 : Int32) (0 : Int32) h)

set_option maxRecDepth 100000 in
set_option maxHeartbeats 4000000 in
theorem m10_fault_k (l : Launch) (G : gG) (T0 T1 T2 T3 T4 T5 T6 T7 T8 T9 T10 T11 T12 : Nat) (T : SX10) (R0 : Int32) (h : m10_fault T = some R0) : KK l G yX10_fault cX10_fault 1 (some .int) 3 66 [.ref T0] (u10 G T0 T1 T2 T3 T4 T5 T6 T7 T8 T9 T10 T11 T12 T) (some (.int R0)) (u10 G T0 T1 T2 T3 T4 T5 T6 T7 T8 T9 T10 T11 T12 T) := by
  refine KK_intro (own := RX10) (by decide +kernel) rfl (Nat.le_of_ble_eq_true rfl) rfl ?_
  intro p e s m args below meth c A C
  unfold m10_fault at h
  refine go_aload_n C dX10_fault_0 0 rfl ?_
  obtain ⟨r1, k2, h⟩ := tbd_e h
  refine go_callV (q0 := 0) (wr := ([] : va_W)) (w' := u10 G T0 T1 T2 T3 T4 T5 T6 T7 T8 T9 T10 T11 T12 T) C cfX10_86 viX10_faultOf (m10_faultOf_k l G T0 T1 T2 T3 T4 T5 T6 T7 T8 T9 T10 T11 T12 T r1 k2) dX10_fault_1 (by decide) ⟨Nat.zero_le _, Nat.zero_le _⟩ rfl rfl (Nat.le_of_ble_eq_true rfl) rfl [0, 1, 2, 3, 4, 5, 6, 7, 8, 9, 10, 11, 12] [] [0, 1, 2, 3, 4, 5, 6, 7, 8, 9, 10, 11, 12] rfl rfl (by decide) rfl ?_
  cases h
  exact go_iret C dX10_fault_4 rfl rfl

set_option maxRecDepth 100000 in
set_option maxHeartbeats 4000000 in
theorem m10_goTo_J98_k {p : Program} {l : Launch} {e : Env} {s : State} {m : MethodId} {args : Array Value} {below : List Frame} {meth : Method} {c : Code} {G : gG} {A : Nat → Prop} (C : Cx p e s m args meth c G RX10 cX10_goTo 4 (some .int) A) (T0 T1 T2 T3 T4 T5 T6 T7 T8 T9 T10 T11 T12 : Nat) (T : SX10) (x1 : Int32) (x2 : Int32) (R0 : Int32 × SX10)  (h : m10_goTo_J98 T x1 x2 = some R0) : Gq p l e (rq 3 64) s m args below meth c G A 4 0 0 (MQ below (QK G (some (.int R0.1)) (u10 G T0 T1 T2 T3 T4 T5 T6 T7 T8 T9 T10 T11 T12 R0.2) A) args s 0 0 A) 98 [(0, .ref T0), (1, .int x1), (2, .int x2)] [] (u10 G T0 T1 T2 T3 T4 T5 T6 T7 T8 T9 T10 T11 T12 T) := by
  unfold m10_goTo_J98 at h
  refine go_aload_n C dX10_goTo_98 0 rfl ?_
  refine go_get (v := .ref T2) C ffX10_13 dX10_goTo_99 0 rfl rfl ?_
  refine go_bipush (v := 38) C dX10_goTo_102 rfl ?_
  refine go_iload_n C dX10_goTo_104 1 rfl ?_
  refine go_iadd C dX10_goTo_105 ?_
  refine go_iload_n C dX10_goTo_106 2 rfl ?_
  refine go_iastoreG (f := (g10_now T)) (w' := u10 G T0 T1 T2 T3 T4 T5 T6 T7 T8 T9 T10 T11 T12 (s10_now T (upd (g10_now T) (Int32.toNatClampNeg ((38 : Int32) + x1)) x2))) C h dX10_goTo_107 2 rfl z10_now (fun h => ?_)
  refine go_aload_n C dX10_goTo_108 0 rfl ?_
  refine go_get (v := .ref T2) C ffX10_13 dX10_goTo_109 0 rfl rfl ?_
  refine go_bipush (v := 44) C dX10_goTo_112 rfl ?_
  refine go_dup2 C dX10_goTo_114 rfl rfl ?_
  refine go_iaload (f := (upd (g10_now T) (Int32.toNatClampNeg ((38 : Int32) + x1)) x2)) C dX10_goTo_115 2 rfl (by decide) ?_
  refine go_iconst (v := 1) C dX10_goTo_116 rfl ?_
  refine go_iload_n C dX10_goTo_117 1 rfl ?_
  refine go_ishl C dX10_goTo_118 ?_
  refine go_ior C dX10_goTo_119 ?_
  refine go_iastore (f := (upd (g10_now T) (Int32.toNatClampNeg ((38 : Int32) + x1)) x2)) (w' := u10 G T0 T1 T2 T3 T4 T5 T6 T7 T8 T9 T10 T11 T12 (s10_now T (upd (upd (g10_now T) (Int32.toNatClampNeg ((38 : Int32) + x1)) x2) (Int32.toNatClampNeg (44 : Int32)) (((upd (g10_now T) (Int32.toNatClampNeg ((38 : Int32) + x1)) x2) (Int32.toNatClampNeg (44 : Int32))) ||| ((1 : Int32) <<< (x1 &&& 31)))))) C dX10_goTo_120 2 rfl (by decide) z10_now ?_
  refine go_aload_n C dX10_goTo_121 0 rfl ?_
  refine go_dup C dX10_goTo_122 rfl ?_
  refine go_get (v := .int (g10_steps T)) C ffX10_52 dX10_goTo_123 0 rfl rfl ?_
  refine go_iconst (v := 1) C dX10_goTo_126 rfl ?_
  refine go_iadd C dX10_goTo_127 ?_
  refine go_puti (w' := u10 G T0 T1 T2 T3 T4 T5 T6 T7 T8 T9 T10 T11 T12 (s10_steps (s10_now T (upd (upd (g10_now T) (Int32.toNatClampNeg ((38 : Int32) + x1)) x2) (Int32.toNatClampNeg (44 : Int32)) (((upd (g10_now T) (Int32.toNatClampNeg ((38 : Int32) + x1)) x2) (Int32.toNatClampNeg (44 : Int32))) ||| ((1 : Int32) <<< (x1 &&& 31))))) ((g10_steps T) + (1 : Int32)))) C fpX10_52 dX10_goTo_128 0 rfl (Nat.le_of_ble_eq_true rfl) z10_steps ?_
  refine go_iconst (v := 0) C dX10_goTo_131 rfl ?_
  cases h
  exact go_iret C dX10_goTo_132 rfl rfl

set_option maxRecDepth 100000 in
set_option maxHeartbeats 4000000 in
theorem m10_goTo_k (l : Launch) (G : gG) (T0 T1 T2 T3 T4 T5 T6 T7 T8 T9 T10 T11 T12 : Nat) (T : SX10) (a1 : Int32) (a2 : Int32) (R0 : Int32 × SX10) (h : m10_goTo T a1 a2 = some R0) : KK l G yX10_goTo cX10_goTo 4 (some .int) 3 64 [.ref T0, .int a1, .int a2] (u10 G T0 T1 T2 T3 T4 T5 T6 T7 T8 T9 T10 T11 T12 T) (some (.int R0.1)) (u10 G T0 T1 T2 T3 T4 T5 T6 T7 T8 T9 T10 T11 T12 R0.2) := by
  refine KK_intro (own := RX10) (by decide +kernel) rfl (Nat.le_of_ble_eq_true rfl) rfl ?_
  intro p e s m args below meth c A C
  unfold m10_goTo at h
  refine go_aload_n C dX10_goTo_0 0 rfl ?_
  refine go_get (v := .ref T2) C ffX10_13 dX10_goTo_1 0 rfl rfl ?_
  refine go_bipush (v := 44) C dX10_goTo_4 rfl ?_
  refine go_iaload (f := (g10_now T)) C dX10_goTo_6 2 rfl (by decide) ?_
  refine go_iload_n C dX10_goTo_7 1 rfl ?_
  obtain ⟨r1, k2, h⟩ := tbd_e h
  refine go_callS0 C cfX10_65 (wr18 _ (List.mem_of_getElem? (i := 23) rfl)) (m10_has_k l G ((g10_now T) (Int32.toNatClampNeg (44 : Int32))) a1 r1 k2) dX10_goTo_8 (by decide) ⟨Nat.zero_le _, Nat.zero_le _⟩ rfl rfl (Nat.le_of_ble_eq_true rfl) ?_
  refine go_if_eq (tgt := 16) C h dX10_goTo_11 rfl (fun h => ?_) (fun h => ?_)
  · refine go_iload_n C dX10_goTo_16 2 rfl ?_
    refine go_aload_n C dX10_goTo_17 0 rfl ?_
    refine go_get (v := .ref T2) C ffX10_13 dX10_goTo_18 0 rfl rfl ?_
    refine go_bipush (v := 38) C dX10_goTo_21 rfl ?_
    refine go_iload_n C dX10_goTo_23 1 rfl ?_
    refine go_iadd C dX10_goTo_24 ?_
    refine go_ialoadG (f := (g10_now T)) C h dX10_goTo_25 2 rfl (fun h => ?_)
    refine go_isub C dX10_goTo_26 ?_
    refine go_istore_nN (lf := fun v3 => [(3, .int v3), (0, .ref T0), (1, .int a1), (2, .int a2)]) C h dX10_goTo_27 (by decide) (fun _ => rfl) (fun v3 h => ?_)
    refine go_iload_n C dX10_goTo_28 0 rfl ?_
    refine go_if_eq (tgt := 58) C h dX10_goTo_29 rfl (fun h => ?_) (fun h => ?_)
    · refine go_iconst (v := 2) C dX10_goTo_58 rfl ?_
      cases h
      exact go_iret C dX10_goTo_59 rfl rfl
    · refine go_iload_n C dX10_goTo_32 0 rfl ?_
      refine go_aload_n C dX10_goTo_33 1 rfl ?_
      refine go_get (v := .ref T2) C ffX10_13 dX10_goTo_34 0 rfl rfl ?_
      refine go_bipush (v := 26) C dX10_goTo_37 rfl ?_
      refine go_iload_n C dX10_goTo_39 2 rfl ?_
      refine go_iadd C dX10_goTo_40 ?_
      refine go_ialoadG (f := (g10_now T)) C h dX10_goTo_41 2 rfl (fun h => ?_)
      refine go_ineg C dX10_goTo_42 ?_
      refine go_aload_n C dX10_goTo_43 1 rfl ?_
      refine go_get (v := .ref T2) C ffX10_13 dX10_goTo_44 0 rfl rfl ?_
      refine go_bipush (v := 26) C dX10_goTo_47 rfl ?_
      refine go_iload_n C dX10_goTo_49 2 rfl ?_
      refine go_iadd C dX10_goTo_50 ?_
      refine go_ialoadG (f := (g10_now T)) C h dX10_goTo_51 2 rfl (fun h => ?_)
      obtain ⟨r4, k5, h⟩ := tbd_e h
      refine go_callS0 C cfX10_48 (wr8 _ (List.mem_of_getElem? (i := 3) rfl)) (m10_in_k l G v3 (-((g10_now T) (Int32.toNatClampNeg ((26 : Int32) + a1)))) ((g10_now T) (Int32.toNatClampNeg ((26 : Int32) + a1))) r4 k5) dX10_goTo_52 (by decide) ⟨Nat.zero_le _, Nat.zero_le _⟩ rfl rfl (Nat.le_of_ble_eq_true rfl) ?_
      refine go_if_ne (tgt := 60) C h dX10_goTo_55 rfl (fun h => ?_) (fun h => ?_)
      · refine go_iload_n C dX10_goTo_60 3 rfl ?_
        obtain ⟨r6, k7, h⟩ := tbd_e h
        refine go_callS0 C cfX10_73 (wr8 _ (List.mem_of_getElem? (i := 0) rfl)) (m10_isRung_k l G a2 r6 k7) dX10_goTo_61 (by decide) ⟨Nat.zero_le _, Nat.zero_le _⟩ rfl rfl (Nat.le_of_ble_eq_true rfl) ?_
        refine go_if_eq (tgt := 98) C h dX10_goTo_64 rfl (fun h => ?_) (fun h => ?_)
        · exact go_lv [1, 2, 3] rfl (m10_goTo_J98_k C T0 T1 T2 T3 T4 T5 T6 T7 T8 T9 T10 T11 T12 T a1 a2 R0  h)
        · refine go_aload_n C dX10_goTo_67 1 rfl ?_
          refine go_iload_n C dX10_goTo_68 3 rfl ?_
          obtain ⟨r8, k9, h⟩ := tbd_e h
          refine go_callV (q0 := 0) (wr := ([] : va_W)) (w' := u10 G T0 T1 T2 T3 T4 T5 T6 T7 T8 T9 T10 T11 T12 T) C cfX10_69 viX10_isMissing (m10_isMissing_k l G T0 T1 T2 T3 T4 T5 T6 T7 T8 T9 T10 T11 T12 T a2 r8 k9) dX10_goTo_69 (by decide) ⟨Nat.zero_le _, Nat.zero_le _⟩ rfl rfl (Nat.le_of_ble_eq_true rfl) rfl [0, 1, 2, 3, 4, 5, 6, 7, 8, 9, 10, 11, 12] [] [0, 1, 2, 3, 4, 5, 6, 7, 8, 9, 10, 11, 12] rfl rfl (by decide) rfl ?_
          refine go_if_eq (tgt := 77) C h dX10_goTo_72 rfl (fun h => ?_) (fun h => ?_)
          · refine go_aload_n C dX10_goTo_77 1 rfl ?_
            refine go_iload_n C dX10_goTo_78 2 rfl ?_
            refine go_iload_n C dX10_goTo_79 3 rfl ?_
            obtain ⟨r10, k11, h⟩ := tbd_e h
            refine go_callV (q0 := 0) (wr := ([] : va_W)) (w' := u10 G T0 T1 T2 T3 T4 T5 T6 T7 T8 T9 T10 T11 T12 T) C cfX10_90 viX10_may (m10_may_k l G T0 T1 T2 T3 T4 T5 T6 T7 T8 T9 T10 T11 T12 T a1 a2 r10 k11) dX10_goTo_80 (by decide) ⟨Nat.zero_le _, Nat.zero_le _⟩ rfl rfl (Nat.le_of_ble_eq_true rfl) rfl [0, 1, 2, 3, 4, 5, 6, 7, 8, 9, 10, 11, 12] [] [0, 1, 2, 3, 4, 5, 6, 7, 8, 9, 10, 11, 12] rfl rfl (by decide) rfl ?_
            refine go_if_ne (tgt := 88) C h dX10_goTo_83 rfl (fun h => ?_) (fun h => ?_)
            · refine go_aload_n C dX10_goTo_88 1 rfl ?_
              refine go_iload_n C dX10_goTo_89 3 rfl ?_
              obtain ⟨r12, k13, h⟩ := tbd_e h
              refine go_callV (q0 := 0) (wr := ([] : va_W)) (w' := u10 G T0 T1 T2 T3 T4 T5 T6 T7 T8 T9 T10 T11 T12 T) C cfX10_93 viX10_standing (m10_standing_k l G T0 T1 T2 T3 T4 T5 T6 T7 T8 T9 T10 T11 T12 T a2 r12 k13) dX10_goTo_90 (by decide) ⟨Nat.zero_le _, Nat.zero_le _⟩ rfl rfl (Nat.le_of_ble_eq_true rfl) rfl [0, 1, 2, 3, 4, 5, 6, 7, 8, 9, 10, 11, 12] [] [0, 1, 2, 3, 4, 5, 6, 7, 8, 9, 10, 11, 12] rfl rfl (by decide) rfl ?_
              refine go_if_lt (tgt := 98) C h dX10_goTo_93 rfl (fun h => ?_) (fun h => ?_)
              · exact go_lv [1, 2, 3] rfl (m10_goTo_J98_k C T0 T1 T2 T3 T4 T5 T6 T7 T8 T9 T10 T11 T12 T a1 a2 R0  h)
              · refine go_iconst (v := 5) C dX10_goTo_96 rfl ?_
                cases h
                exact go_iret C dX10_goTo_97 rfl rfl
            · refine go_iconst (v := 4) C dX10_goTo_86 rfl ?_
              cases h
              exact go_iret C dX10_goTo_87 rfl rfl
          · refine go_iconst (v := 3) C dX10_goTo_75 rfl ?_
            cases h
            exact go_iret C dX10_goTo_76 rfl rfl
      · refine go_iconst (v := 2) C dX10_goTo_58 rfl ?_
        cases h
        exact go_iret C dX10_goTo_59 rfl rfl
  · refine go_iconst (v := 1) C dX10_goTo_14 rfl ?_
    cases h
    exact go_iret C dX10_goTo_15 rfl rfl

set_option maxRecDepth 100000 in
set_option maxHeartbeats 4000000 in
theorem m10_leaseTo_k (l : Launch) (G : gG) (T0 T1 T2 T3 T4 T5 T6 T7 T8 T9 T10 T11 T12 : Nat) (T : SX10) (a1 : Int32) (a2 : Int32) (R0 : Int32 × SX10) (h : m10_leaseTo T a1 a2 = some R0) : KK l G yX10_leaseTo cX10_leaseTo 3 (some .int) 2 42 [.ref T0, .int a1, .int a2] (u10 G T0 T1 T2 T3 T4 T5 T6 T7 T8 T9 T10 T11 T12 T) (some (.int R0.1)) (u10 G T0 T1 T2 T3 T4 T5 T6 T7 T8 T9 T10 T11 T12 R0.2) := by
  refine KK_intro (own := RX10) (by decide +kernel) rfl (Nat.le_of_ble_eq_true rfl) rfl ?_
  intro p e s m args below meth c A C
  unfold m10_leaseTo at h
  refine go_aload_n C dX10_leaseTo_0 0 rfl ?_
  refine go_iload_n C dX10_leaseTo_1 2 rfl ?_
  obtain ⟨r1, k2, h⟩ := tbd_e h
  refine go_callV (q0 := 0) (wr := ([] : va_W)) (w' := u10 G T0 T1 T2 T3 T4 T5 T6 T7 T8 T9 T10 T11 T12 T) C cfX10_69 viX10_isMissing (m10_isMissing_k l G T0 T1 T2 T3 T4 T5 T6 T7 T8 T9 T10 T11 T12 T a2 r1 k2) dX10_leaseTo_2 (by decide) ⟨Nat.zero_le _, Nat.zero_le _⟩ rfl rfl (Nat.le_of_ble_eq_true rfl) rfl [0, 1, 2, 3, 4, 5, 6, 7, 8, 9, 10, 11, 12] [] [0, 1, 2, 3, 4, 5, 6, 7, 8, 9, 10, 11, 12] rfl rfl (by decide) rfl ?_
  refine go_if_eq (tgt := 10) C h dX10_leaseTo_5 rfl (fun h => ?_) (fun h => ?_)
  · refine go_aload_n C dX10_leaseTo_10 0 rfl ?_
    refine go_get (v := .ref T2) C ffX10_13 dX10_leaseTo_11 0 rfl rfl ?_
    refine go_iload_n C dX10_leaseTo_14 2 rfl ?_
    refine go_ialoadG (f := (g10_now T)) C h dX10_leaseTo_15 2 rfl (fun h => ?_)
    refine go_iload_n C dX10_leaseTo_16 1 rfl ?_
    refine go_icmp_eq (tgt := 29) C h dX10_leaseTo_17 rfl (fun h => ?_) (fun h => ?_)
    · refine go_bipush (v := 6) C dX10_leaseTo_29 rfl ?_
      cases h
      exact go_iret C dX10_leaseTo_31 rfl rfl
    · refine go_aload_n C dX10_leaseTo_20 0 rfl ?_
      refine go_get (v := .ref T2) C ffX10_13 dX10_leaseTo_21 0 rfl rfl ?_
      refine go_iload_n C dX10_leaseTo_24 2 rfl ?_
      refine go_ialoadG (f := (g10_now T)) C h dX10_leaseTo_25 2 rfl (fun h => ?_)
      refine go_if_ge (tgt := 32) C h dX10_leaseTo_26 rfl (fun h => ?_) (fun h => ?_)
      · refine go_aload_n C dX10_leaseTo_32 0 rfl ?_
        refine go_get (v := .ref T2) C ffX10_13 dX10_leaseTo_33 0 rfl rfl ?_
        refine go_bipush (v := 13) C dX10_leaseTo_36 rfl ?_
        refine go_iload_n C dX10_leaseTo_38 2 rfl ?_
        refine go_iadd C dX10_leaseTo_39 ?_
        refine go_ialoadG (f := (g10_now T)) C h dX10_leaseTo_40 2 rfl (fun h => ?_)
        refine go_if_lt (tgt := 47) C h dX10_leaseTo_41 rfl (fun h => ?_) (fun h => ?_)
        · refine go_aload_n C dX10_leaseTo_47 0 rfl ?_
          refine go_get (v := .ref T2) C ffX10_13 dX10_leaseTo_48 0 rfl rfl ?_
          refine go_bipush (v := 32) C dX10_leaseTo_51 rfl ?_
          refine go_iload_n C dX10_leaseTo_53 1 rfl ?_
          refine go_iadd C dX10_leaseTo_54 ?_
          refine go_ialoadG (f := (g10_now T)) C h dX10_leaseTo_55 2 rfl (fun h => ?_)
          refine go_if_ne (tgt := 62) C h dX10_leaseTo_56 rfl (fun h => ?_) (fun h => ?_)
          · refine go_aload_n C dX10_leaseTo_62 0 rfl ?_
            refine go_get (v := .ref T2) C ffX10_13 dX10_leaseTo_63 0 rfl rfl ?_
            refine go_bipush (v := 32) C dX10_leaseTo_66 rfl ?_
            refine go_iload_n C dX10_leaseTo_68 1 rfl ?_
            refine go_iadd C dX10_leaseTo_69 ?_
            refine go_dup2 C dX10_leaseTo_70 rfl rfl ?_
            refine go_ialoadG (f := (g10_now T)) C h dX10_leaseTo_71 2 rfl (fun h => ?_)
            refine go_iconst (v := 1) C dX10_leaseTo_72 rfl ?_
            refine go_isub C dX10_leaseTo_73 ?_
            refine go_iastoreG (f := (g10_now T)) (w' := u10 G T0 T1 T2 T3 T4 T5 T6 T7 T8 T9 T10 T11 T12 (s10_now T (upd (g10_now T) (Int32.toNatClampNeg ((32 : Int32) + a1)) (((g10_now T) (Int32.toNatClampNeg ((32 : Int32) + a1))) - (1 : Int32))))) C h dX10_leaseTo_74 2 rfl z10_now (fun h => ?_)
            refine go_aload_n C dX10_leaseTo_75 0 rfl ?_
            refine go_get (v := .ref T2) C ffX10_13 dX10_leaseTo_76 0 rfl rfl ?_
            refine go_bipush (v := 32) C dX10_leaseTo_79 rfl ?_
            refine go_aload_n C dX10_leaseTo_81 0 rfl ?_
            refine go_get (v := .ref T2) C ffX10_13 dX10_leaseTo_82 0 rfl rfl ?_
            refine go_iload_n C dX10_leaseTo_85 2 rfl ?_
            refine go_ialoadG (f := (upd (g10_now T) (Int32.toNatClampNeg ((32 : Int32) + a1)) (((g10_now T) (Int32.toNatClampNeg ((32 : Int32) + a1))) - (1 : Int32)))) C h dX10_leaseTo_86 2 rfl (fun h => ?_)
            refine go_iadd C dX10_leaseTo_87 ?_
            refine go_dup2 C dX10_leaseTo_88 rfl rfl ?_
            refine go_ialoadG (f := (upd (g10_now T) (Int32.toNatClampNeg ((32 : Int32) + a1)) (((g10_now T) (Int32.toNatClampNeg ((32 : Int32) + a1))) - (1 : Int32)))) C h dX10_leaseTo_89 2 rfl (fun h => ?_)
            refine go_iconst (v := 1) C dX10_leaseTo_90 rfl ?_
            refine go_iadd C dX10_leaseTo_91 ?_
            refine go_iastoreG (f := (upd (g10_now T) (Int32.toNatClampNeg ((32 : Int32) + a1)) (((g10_now T) (Int32.toNatClampNeg ((32 : Int32) + a1))) - (1 : Int32)))) (w' := u10 G T0 T1 T2 T3 T4 T5 T6 T7 T8 T9 T10 T11 T12 (s10_now T (upd (upd (g10_now T) (Int32.toNatClampNeg ((32 : Int32) + a1)) (((g10_now T) (Int32.toNatClampNeg ((32 : Int32) + a1))) - (1 : Int32))) (Int32.toNatClampNeg ((32 : Int32) + ((upd (g10_now T) (Int32.toNatClampNeg ((32 : Int32) + a1)) (((g10_now T) (Int32.toNatClampNeg ((32 : Int32) + a1))) - (1 : Int32))) (Int32.toNatClampNeg a2)))) (((upd (g10_now T) (Int32.toNatClampNeg ((32 : Int32) + a1)) (((g10_now T) (Int32.toNatClampNeg ((32 : Int32) + a1))) - (1 : Int32))) (Int32.toNatClampNeg ((32 : Int32) + ((upd (g10_now T) (Int32.toNatClampNeg ((32 : Int32) + a1)) (((g10_now T) (Int32.toNatClampNeg ((32 : Int32) + a1))) - (1 : Int32))) (Int32.toNatClampNeg a2))))) + (1 : Int32))))) C h dX10_leaseTo_92 2 rfl z10_now (fun h => ?_)
            refine go_aload_n C dX10_leaseTo_93 0 rfl ?_
            refine go_get (v := .ref T2) C ffX10_13 dX10_leaseTo_94 0 rfl rfl ?_
            refine go_bipush (v := 13) C dX10_leaseTo_97 rfl ?_
            refine go_iload_n C dX10_leaseTo_99 2 rfl ?_
            refine go_iadd C dX10_leaseTo_100 ?_
            refine go_iload_n C dX10_leaseTo_101 1 rfl ?_
            refine go_iastoreG (f := (upd (upd (g10_now T) (Int32.toNatClampNeg ((32 : Int32) + a1)) (((g10_now T) (Int32.toNatClampNeg ((32 : Int32) + a1))) - (1 : Int32))) (Int32.toNatClampNeg ((32 : Int32) + ((upd (g10_now T) (Int32.toNatClampNeg ((32 : Int32) + a1)) (((g10_now T) (Int32.toNatClampNeg ((32 : Int32) + a1))) - (1 : Int32))) (Int32.toNatClampNeg a2)))) (((upd (g10_now T) (Int32.toNatClampNeg ((32 : Int32) + a1)) (((g10_now T) (Int32.toNatClampNeg ((32 : Int32) + a1))) - (1 : Int32))) (Int32.toNatClampNeg ((32 : Int32) + ((upd (g10_now T) (Int32.toNatClampNeg ((32 : Int32) + a1)) (((g10_now T) (Int32.toNatClampNeg ((32 : Int32) + a1))) - (1 : Int32))) (Int32.toNatClampNeg a2))))) + (1 : Int32)))) (w' := u10 G T0 T1 T2 T3 T4 T5 T6 T7 T8 T9 T10 T11 T12 (s10_now T (upd (upd (upd (g10_now T) (Int32.toNatClampNeg ((32 : Int32) + a1)) (((g10_now T) (Int32.toNatClampNeg ((32 : Int32) + a1))) - (1 : Int32))) (Int32.toNatClampNeg ((32 : Int32) + ((upd (g10_now T) (Int32.toNatClampNeg ((32 : Int32) + a1)) (((g10_now T) (Int32.toNatClampNeg ((32 : Int32) + a1))) - (1 : Int32))) (Int32.toNatClampNeg a2)))) (((upd (g10_now T) (Int32.toNatClampNeg ((32 : Int32) + a1)) (((g10_now T) (Int32.toNatClampNeg ((32 : Int32) + a1))) - (1 : Int32))) (Int32.toNatClampNeg ((32 : Int32) + ((upd (g10_now T) (Int32.toNatClampNeg ((32 : Int32) + a1)) (((g10_now T) (Int32.toNatClampNeg ((32 : Int32) + a1))) - (1 : Int32))) (Int32.toNatClampNeg a2))))) + (1 : Int32))) (Int32.toNatClampNeg ((13 : Int32) + a2)) a1))) C h dX10_leaseTo_102 2 rfl z10_now (fun h => ?_)
            refine go_aload_n C dX10_leaseTo_103 0 rfl ?_
            refine go_dup C dX10_leaseTo_104 rfl ?_
            refine go_get (v := .int (g10_paid T)) C ffX10_56 dX10_leaseTo_105 0 rfl rfl ?_
            refine go_iconst (v := 1) C dX10_leaseTo_108 rfl ?_
            refine go_iadd C dX10_leaseTo_109 ?_
            refine go_puti (w' := u10 G T0 T1 T2 T3 T4 T5 T6 T7 T8 T9 T10 T11 T12 (s10_paid (s10_now T (upd (upd (upd (g10_now T) (Int32.toNatClampNeg ((32 : Int32) + a1)) (((g10_now T) (Int32.toNatClampNeg ((32 : Int32) + a1))) - (1 : Int32))) (Int32.toNatClampNeg ((32 : Int32) + ((upd (g10_now T) (Int32.toNatClampNeg ((32 : Int32) + a1)) (((g10_now T) (Int32.toNatClampNeg ((32 : Int32) + a1))) - (1 : Int32))) (Int32.toNatClampNeg a2)))) (((upd (g10_now T) (Int32.toNatClampNeg ((32 : Int32) + a1)) (((g10_now T) (Int32.toNatClampNeg ((32 : Int32) + a1))) - (1 : Int32))) (Int32.toNatClampNeg ((32 : Int32) + ((upd (g10_now T) (Int32.toNatClampNeg ((32 : Int32) + a1)) (((g10_now T) (Int32.toNatClampNeg ((32 : Int32) + a1))) - (1 : Int32))) (Int32.toNatClampNeg a2))))) + (1 : Int32))) (Int32.toNatClampNeg ((13 : Int32) + a2)) a1)) ((g10_paid T) + (1 : Int32)))) C fpX10_56 dX10_leaseTo_110 0 rfl (Nat.le_of_ble_eq_true rfl) z10_paid ?_
            refine go_iconst (v := 0) C dX10_leaseTo_113 rfl ?_
            cases h
            exact go_iret C dX10_leaseTo_114 rfl rfl
          · refine go_bipush (v := 8) C dX10_leaseTo_59 rfl ?_
            cases h
            exact go_iret C dX10_leaseTo_61 rfl rfl
        · refine go_bipush (v := 7) C dX10_leaseTo_44 rfl ?_
          cases h
          exact go_iret C dX10_leaseTo_46 rfl rfl
      · refine go_bipush (v := 6) C dX10_leaseTo_29 rfl ?_
        cases h
        exact go_iret C dX10_leaseTo_31 rfl rfl
  · refine go_iconst (v := 3) C dX10_leaseTo_8 rfl ?_
    cases h
    exact go_iret C dX10_leaseTo_9 rfl rfl

set_option maxRecDepth 100000 in
set_option maxHeartbeats 4000000 in
theorem m10_lose_k (l : Launch) (G : gG) (T0 T1 T2 T3 T4 T5 T6 T7 T8 T9 T10 T11 T12 : Nat) (T : SX10) (a1 : Int32) (a2 : Int32) (R0 : Int32 × SX10) (h : m10_lose T a1 a2 = some R0) : KK l G yX10_lose cX10_lose 3 (some .int) 2 42 [.ref T0, .int a1, .int a2] (u10 G T0 T1 T2 T3 T4 T5 T6 T7 T8 T9 T10 T11 T12 T) (some (.int R0.1)) (u10 G T0 T1 T2 T3 T4 T5 T6 T7 T8 T9 T10 T11 T12 R0.2) := by
  refine KK_intro (own := RX10) (by decide +kernel) rfl (Nat.le_of_ble_eq_true rfl) rfl ?_
  intro p e s m args below meth c A C
  unfold m10_lose at h
  refine go_aload_n C dX10_lose_0 0 rfl ?_
  refine go_iload_n C dX10_lose_1 1 rfl ?_
  obtain ⟨r1, k2, h⟩ := tbd_e h
  refine go_callV (q0 := 0) (wr := ([] : va_W)) (w' := u10 G T0 T1 T2 T3 T4 T5 T6 T7 T8 T9 T10 T11 T12 T) C cfX10_69 viX10_isMissing (m10_isMissing_k l G T0 T1 T2 T3 T4 T5 T6 T7 T8 T9 T10 T11 T12 T a1 r1 k2) dX10_lose_2 (by decide) ⟨Nat.zero_le _, Nat.zero_le _⟩ rfl rfl (Nat.le_of_ble_eq_true rfl) rfl [0, 1, 2, 3, 4, 5, 6, 7, 8, 9, 10, 11, 12] [] [0, 1, 2, 3, 4, 5, 6, 7, 8, 9, 10, 11, 12] rfl rfl (by decide) rfl ?_
  refine go_iload_n C dX10_lose_5 2 rfl ?_
  refine go_icmp_ne (tgt := 12) C h dX10_lose_6 rfl (fun h => ?_) (fun h => ?_)
  · refine go_aload_n C dX10_lose_12 0 rfl ?_
    refine go_get (v := .ref T2) C ffX10_13 dX10_lose_13 0 rfl rfl ?_
    refine go_bipush (v := 45) C dX10_lose_16 rfl ?_
    refine go_dup2 C dX10_lose_18 rfl rfl ?_
    refine go_iaload (f := (g10_now T)) C dX10_lose_19 2 rfl (by decide) ?_
    refine go_iconst (v := 1) C dX10_lose_20 rfl ?_
    refine go_iload_n C dX10_lose_21 1 rfl ?_
    refine go_ishl C dX10_lose_22 ?_
    refine go_ixor C dX10_lose_23 ?_
    refine go_iastore (f := (g10_now T)) (w' := u10 G T0 T1 T2 T3 T4 T5 T6 T7 T8 T9 T10 T11 T12 (s10_now T (upd (g10_now T) (Int32.toNatClampNeg (45 : Int32)) (((g10_now T) (Int32.toNatClampNeg (45 : Int32))) ^^^ ((1 : Int32) <<< (a1 &&& 31)))))) C dX10_lose_24 2 rfl (by decide) z10_now ?_
    refine go_aload_n C dX10_lose_25 0 rfl ?_
    refine go_get (v := .ref T2) C ffX10_13 dX10_lose_26 0 rfl rfl ?_
    refine go_iload_n C dX10_lose_29 1 rfl ?_
    refine go_bipush (v := -6) C dX10_lose_30 rfl ?_
    refine go_iastoreG (f := (upd (g10_now T) (Int32.toNatClampNeg (45 : Int32)) (((g10_now T) (Int32.toNatClampNeg (45 : Int32))) ^^^ ((1 : Int32) <<< (a1 &&& 31))))) (w' := u10 G T0 T1 T2 T3 T4 T5 T6 T7 T8 T9 T10 T11 T12 (s10_now T (upd (upd (g10_now T) (Int32.toNatClampNeg (45 : Int32)) (((g10_now T) (Int32.toNatClampNeg (45 : Int32))) ^^^ ((1 : Int32) <<< (a1 &&& 31)))) (Int32.toNatClampNeg a1) (-6 : Int32)))) C h dX10_lose_32 2 rfl z10_now (fun h => ?_)
    refine go_aload_n C dX10_lose_33 0 rfl ?_
    refine go_get (v := .ref T2) C ffX10_13 dX10_lose_34 0 rfl rfl ?_
    refine go_bipush (v := 13) C dX10_lose_37 rfl ?_
    refine go_iload_n C dX10_lose_39 1 rfl ?_
    refine go_iadd C dX10_lose_40 ?_
    refine go_bipush (v := -6) C dX10_lose_41 rfl ?_
    refine go_iastoreG (f := (upd (upd (g10_now T) (Int32.toNatClampNeg (45 : Int32)) (((g10_now T) (Int32.toNatClampNeg (45 : Int32))) ^^^ ((1 : Int32) <<< (a1 &&& 31)))) (Int32.toNatClampNeg a1) (-6 : Int32))) (w' := u10 G T0 T1 T2 T3 T4 T5 T6 T7 T8 T9 T10 T11 T12 (s10_now T (upd (upd (upd (g10_now T) (Int32.toNatClampNeg (45 : Int32)) (((g10_now T) (Int32.toNatClampNeg (45 : Int32))) ^^^ ((1 : Int32) <<< (a1 &&& 31)))) (Int32.toNatClampNeg a1) (-6 : Int32)) (Int32.toNatClampNeg ((13 : Int32) + a1)) (-6 : Int32)))) C h dX10_lose_43 2 rfl z10_now (fun h => ?_)
    refine go_iconst (v := 0) C dX10_lose_44 rfl ?_
    cases h
    exact go_iret C dX10_lose_45 rfl rfl
  · refine go_bipush (v := 9) C dX10_lose_9 rfl ?_
    cases h
    exact go_iret C dX10_lose_11 rfl rfl

set_option maxRecDepth 100000 in
set_option maxHeartbeats 4000000 in
theorem m10_endBeat_k (l : Launch) (G : gG) (T0 T1 T2 T3 T4 T5 T6 T7 T8 T9 T10 T11 T12 : Nat) (T : SX10) (R0 : Int32 × SX10) (h : m10_endBeat T = some R0) : KK l G yX10_endBeat cX10_endBeat 1 (some .int) 0 0 [.ref T0] (u10 G T0 T1 T2 T3 T4 T5 T6 T7 T8 T9 T10 T11 T12 T) (some (.int R0.1)) (u10 G T0 T1 T2 T3 T4 T5 T6 T7 T8 T9 T10 T11 T12 R0.2) := by
  refine KK_intro (own := RX10) (by decide +kernel) rfl (Nat.le_of_ble_eq_true rfl) rfl ?_
  intro p e s m args below meth c A C
  unfold m10_endBeat at h
  refine go_aload_n C dX10_endBeat_0 0 rfl ?_
  refine go_get (v := .ref T2) C ffX10_13 dX10_endBeat_1 0 rfl rfl ?_
  refine go_bipush (v := 46) C dX10_endBeat_4 rfl ?_
  refine go_iaload (f := (g10_now T)) C dX10_endBeat_6 2 rfl (by decide) ?_
  refine go_bipush (v := 99) C dX10_endBeat_7 rfl ?_
  refine go_icmp_ne (tgt := 15) C h dX10_endBeat_9 rfl (fun h => ?_) (fun h => ?_)
  · refine go_aload_n C dX10_endBeat_15 0 rfl ?_
    refine go_get (v := .ref T2) C ffX10_13 dX10_endBeat_16 0 rfl rfl ?_
    refine go_bipush (v := 46) C dX10_endBeat_19 rfl ?_
    refine go_dup2 C dX10_endBeat_21 rfl rfl ?_
    refine go_iaload (f := (g10_now T)) C dX10_endBeat_22 2 rfl (by decide) ?_
    refine go_iconst (v := 1) C dX10_endBeat_23 rfl ?_
    refine go_iadd C dX10_endBeat_24 ?_
    refine go_iastore (f := (g10_now T)) (w' := u10 G T0 T1 T2 T3 T4 T5 T6 T7 T8 T9 T10 T11 T12 (s10_now T (upd (g10_now T) (Int32.toNatClampNeg (46 : Int32)) (((g10_now T) (Int32.toNatClampNeg (46 : Int32))) + (1 : Int32))))) C dX10_endBeat_25 2 rfl (by decide) z10_now ?_
    refine go_aload_n C dX10_endBeat_26 0 rfl ?_
    refine go_get (v := .ref T2) C ffX10_13 dX10_endBeat_27 0 rfl rfl ?_
    refine go_bipush (v := 44) C dX10_endBeat_30 rfl ?_
    refine go_iconst (v := 0) C dX10_endBeat_32 rfl ?_
    refine go_iastore (f := (upd (g10_now T) (Int32.toNatClampNeg (46 : Int32)) (((g10_now T) (Int32.toNatClampNeg (46 : Int32))) + (1 : Int32)))) (w' := u10 G T0 T1 T2 T3 T4 T5 T6 T7 T8 T9 T10 T11 T12 (s10_now T (upd (upd (g10_now T) (Int32.toNatClampNeg (46 : Int32)) (((g10_now T) (Int32.toNatClampNeg (46 : Int32))) + (1 : Int32))) (Int32.toNatClampNeg (44 : Int32)) (0 : Int32)))) C dX10_endBeat_33 2 rfl (by decide) z10_now ?_
    refine go_iconst (v := 0) C dX10_endBeat_34 rfl ?_
    cases h
    exact go_iret C dX10_endBeat_35 rfl rfl
  · refine go_bipush (v := 10) C dX10_endBeat_12 rfl ?_
    cases h
    exact go_iret C dX10_endBeat_14 rfl rfl

set_option maxRecDepth 100000 in
set_option maxHeartbeats 4000000 in
theorem m10_oneAct_J57_k {p : Program} {l : Launch} {e : Env} {s : State} {m : MethodId} {args : Array Value} {below : List Frame} {meth : Method} {c : Code} {G : gG} {A : Nat → Prop} (C : Cx p e s m args meth c G RX10 cX10_oneAct 5 (some .int) A) (T0 T1 T2 T3 T4 T5 T6 T7 T8 T9 T10 T11 T12 : Nat) (T : SX10) (y1 : Int32) (y2 : Int32) (R0 : Int32 × SX10)  (h : m10_oneAct_J57 T y1 y2 = some R0) : Gq p l e (rq 4 87) s m args below meth c G A 5 0 0 (MQ below (QK G (some (.int R0.1)) (u10 G T0 T1 T2 T3 T4 T5 T6 T7 T8 T9 T10 T11 T12 R0.2) A) args s 0 0 A) 57 [] [.int y2, .int y1, .ref T0] (u10 G T0 T1 T2 T3 T4 T5 T6 T7 T8 T9 T10 T11 T12 T) := by
  unfold m10_oneAct_J57 at h
  obtain ⟨r3, k4, h⟩ := tbd_e h
  refine go_callV (q0 := 0) (wr := ([] : va_W)) (w' := u10 G T0 T1 T2 T3 T4 T5 T6 T7 T8 T9 T10 T11 T12 r3.2) C cfX10_100 viX10_lose (m10_lose_k l G T0 T1 T2 T3 T4 T5 T6 T7 T8 T9 T10 T11 T12 T y1 y2 r3 k4) dX10_oneAct_57 (by decide) ⟨Nat.zero_le _, Nat.zero_le _⟩ rfl rfl (Nat.le_of_ble_eq_true rfl) rfl [0, 1, 2, 3, 4, 5, 6, 7, 8, 9, 10, 11, 12] [] [0, 1, 2, 3, 4, 5, 6, 7, 8, 9, 10, 11, 12] rfl rfl (by decide) rfl ?_
  cases h
  exact go_iret C dX10_oneAct_60 rfl rfl

set_option maxRecDepth 100000 in
set_option maxHeartbeats 4000000 in
theorem m10_oneAct_J39_k {p : Program} {l : Launch} {e : Env} {s : State} {m : MethodId} {args : Array Value} {below : List Frame} {meth : Method} {c : Code} {G : gG} {A : Nat → Prop} (C : Cx p e s m args meth c G RX10 cX10_oneAct 5 (some .int) A) (T0 T1 T2 T3 T4 T5 T6 T7 T8 T9 T10 T11 T12 : Nat) (T : SX10) (x2 : Int32) (x3 : Int32) (R0 : Int32 × SX10)  (h : m10_oneAct_J39 T x2 x3 = some R0) : Gq p l e (rq 4 87) s m args below meth c G A 5 0 0 (MQ below (QK G (some (.int R0.1)) (u10 G T0 T1 T2 T3 T4 T5 T6 T7 T8 T9 T10 T11 T12 R0.2) A) args s 0 0 A) 39 [(0, .ref T0), (2, .int x2), (3, .int x3)] [] (u10 G T0 T1 T2 T3 T4 T5 T6 T7 T8 T9 T10 T11 T12 T) := by
  unfold m10_oneAct_J39 at h
  refine go_aload_n C dX10_oneAct_39 0 rfl ?_
  refine go_iload_n C dX10_oneAct_40 2 rfl ?_
  refine go_bipush (v := 97) C dX10_oneAct_41 rfl ?_
  refine go_isub C dX10_oneAct_43 ?_
  refine go_iconst (v := 1) C dX10_oneAct_44 rfl ?_
  refine go_iadd C dX10_oneAct_45 ?_
  refine go_iload_n C dX10_oneAct_46 1 rfl ?_
  refine go_bipush (v := 107) C dX10_oneAct_47 rfl ?_
  refine go_icmp_ne (tgt := 56) C h dX10_oneAct_49 rfl (fun h => ?_) (fun h => ?_)
  · refine go_iconst (v := 0) C dX10_oneAct_56 rfl ?_
    exact go_lv [] rfl (m10_oneAct_J57_k C T0 T1 T2 T3 T4 T5 T6 T7 T8 T9 T10 T11 T12 T ((x3 - (97 : Int32)) + (1 : Int32)) (0 : Int32) R0  h)
  · refine go_iconst (v := 1) C dX10_oneAct_52 rfl ?_
    refine go_goto (tgt := 57) C dX10_oneAct_53 rfl ?_
    exact go_lv [] rfl (m10_oneAct_J57_k C T0 T1 T2 T3 T4 T5 T6 T7 T8 T9 T10 T11 T12 T ((x3 - (97 : Int32)) + (1 : Int32)) (1 : Int32) R0  h)

set_option maxRecDepth 100000 in
set_option maxHeartbeats 4000000 in
theorem m10_oneAct_J125_k {p : Program} {l : Launch} {e : Env} {s : State} {m : MethodId} {args : Array Value} {below : List Frame} {meth : Method} {c : Code} {G : gG} {A : Nat → Prop} (C : Cx p e s m args meth c G RX10 cX10_oneAct 5 (some .int) A) (T0 T1 T2 T3 T4 T5 T6 T7 T8 T9 T10 T11 T12 : Nat) (T : SX10) (y1 : Int32) (y2 : Int32) (R0 : Int32 × SX10)  (h : m10_oneAct_J125 T y1 y2 = some R0) : Gq p l e (rq 4 87) s m args below meth c G A 5 0 0 (MQ below (QK G (some (.int R0.1)) (u10 G T0 T1 T2 T3 T4 T5 T6 T7 T8 T9 T10 T11 T12 R0.2) A) args s 0 0 A) 125 [] [.int y2, .int y1, .ref T0] (u10 G T0 T1 T2 T3 T4 T5 T6 T7 T8 T9 T10 T11 T12 T) := by
  unfold m10_oneAct_J125 at h
  obtain ⟨r6, k7, h⟩ := tbd_e h
  refine go_callV (q0 := 0) (wr := ([] : va_W)) (w' := u10 G T0 T1 T2 T3 T4 T5 T6 T7 T8 T9 T10 T11 T12 r6.2) C cfX10_107 viX10_goTo (m10_goTo_k l G T0 T1 T2 T3 T4 T5 T6 T7 T8 T9 T10 T11 T12 T y1 y2 r6 k7) dX10_oneAct_125 (by decide) ⟨Nat.zero_le _, Nat.zero_le _⟩ rfl rfl (Nat.le_of_ble_eq_true rfl) rfl [0, 1, 2, 3, 4, 5, 6, 7, 8, 9, 10, 11, 12] [] [0, 1, 2, 3, 4, 5, 6, 7, 8, 9, 10, 11, 12] rfl rfl (by decide) rfl ?_
  cases h
  exact go_iret C dX10_oneAct_128 rfl rfl

set_option maxRecDepth 100000 in
set_option maxHeartbeats 4000000 in
theorem m10_oneAct_k (l : Launch) (G : gG) (T0 T1 T2 T3 T4 T5 T6 T7 T8 T9 T10 T11 T12 : Nat) (T : SX10) (a1 : Int32) (R0 : Int32 × SX10) (h : m10_oneAct T a1 = some R0) : KK l G yX10_oneAct cX10_oneAct 5 (some .int) 4 87 [.ref T0, .int a1] (u10 G T0 T1 T2 T3 T4 T5 T6 T7 T8 T9 T10 T11 T12 T) (some (.int R0.1)) (u10 G T0 T1 T2 T3 T4 T5 T6 T7 T8 T9 T10 T11 T12 R0.2) := by
  refine KK_intro (own := RX10) (by decide +kernel) rfl (Nat.le_of_ble_eq_true rfl) rfl ?_
  intro p e s m args below meth c A C
  unfold m10_oneAct at h
  refine go_aload_n C dX10_oneAct_0 0 rfl ?_
  refine go_get (v := .ref T4) C ffX10_19 dX10_oneAct_1 0 rfl rfl ?_
  refine go_iload_n C dX10_oneAct_4 1 rfl ?_
  refine go_ialoadG (f := (g10_pad T)) C h dX10_oneAct_5 4 rfl (fun h => ?_)
  refine go_istore_nN (lf := fun v1 => [(2, .int v1), (0, .ref T0), (1, .int a1)]) C h dX10_oneAct_6 (by decide) (fun _ => rfl) (fun v1 h => ?_)
  refine go_iload_n C dX10_oneAct_7 0 rfl ?_
  refine go_bipush (v := 46) C dX10_oneAct_8 rfl ?_
  refine go_icmp_ne (tgt := 18) C h dX10_oneAct_10 rfl (fun h => ?_) (fun h => ?_)
  · refine go_aload_n C dX10_oneAct_18 1 rfl ?_
    refine go_get (v := .ref T4) C ffX10_19 dX10_oneAct_19 0 rfl rfl ?_
    refine go_iload_n C dX10_oneAct_22 2 rfl ?_
    refine go_iconst (v := 1) C dX10_oneAct_23 rfl ?_
    refine go_iadd C dX10_oneAct_24 ?_
    refine go_ialoadG (f := (g10_pad T)) C h dX10_oneAct_25 4 rfl (fun h => ?_)
    refine go_istore_nN (lf := fun v2 => [(3, .int v2), (2, .int v1), (0, .ref T0), (1, .int a1)]) C h dX10_oneAct_26 (by decide) (fun _ => rfl) (fun v2 h => ?_)
    refine go_iload_n C dX10_oneAct_27 1 rfl ?_
    refine go_bipush (v := 107) C dX10_oneAct_28 rfl ?_
    refine go_icmp_eq (tgt := 39) C h dX10_oneAct_30 rfl (fun h => ?_) (fun h => ?_)
    · exact go_lv [2, 1, 0] rfl (m10_oneAct_J39_k C T0 T1 T2 T3 T4 T5 T6 T7 T8 T9 T10 T11 T12 T v1 v2 R0  h)
    · refine go_iload_n C dX10_oneAct_33 1 rfl ?_
      refine go_bipush (v := 43) C dX10_oneAct_34 rfl ?_
      refine go_icmp_ne (tgt := 61) C h dX10_oneAct_36 rfl (fun h => ?_) (fun h => ?_)
      · refine go_iload_n C dX10_oneAct_61 1 rfl ?_
        refine go_bipush (v := 65) C dX10_oneAct_62 rfl ?_
        refine go_isub C dX10_oneAct_64 ?_
        refine go_istoreN (lf := fun v5 => [(4, .int v5), (3, .int v2), (2, .int v1), (0, .ref T0), (1, .int a1)]) C h dX10_oneAct_65 (by decide) (fun _ => rfl) (fun v5 h => ?_)
        refine go_iload_n C dX10_oneAct_67 1 rfl ?_
        refine go_bipush (v := 37) C dX10_oneAct_68 rfl ?_
        refine go_icmp_ne (tgt := 95) C h dX10_oneAct_70 rfl (fun h => ?_) (fun h => ?_)
        · refine go_aload_n C dX10_oneAct_95 3 rfl ?_
          refine go_iload C dX10_oneAct_96 0 rfl ?_
          refine go_iload_n C dX10_oneAct_98 1 rfl ?_
          refine go_bipush (v := 94) C dX10_oneAct_99 rfl ?_
          refine go_icmp_ne (tgt := 109) C h dX10_oneAct_101 rfl (fun h => ?_) (fun h => ?_)
          · refine go_iload_n C dX10_oneAct_109 1 rfl ?_
            refine go_bipush (v := 95) C dX10_oneAct_110 rfl ?_
            refine go_icmp_ne (tgt := 119) C h dX10_oneAct_112 rfl (fun h => ?_) (fun h => ?_)
            · refine go_iload_n C dX10_oneAct_119 1 rfl ?_
              refine go_bipush (v := 97) C dX10_oneAct_120 rfl ?_
              refine go_isub C dX10_oneAct_122 ?_
              refine go_iconst (v := 1) C dX10_oneAct_123 rfl ?_
              refine go_iadd C dX10_oneAct_124 ?_
              exact go_lv [] rfl (m10_oneAct_J125_k C T0 T1 T2 T3 T4 T5 T6 T7 T8 T9 T10 T11 T12 T v5 ((v2 - (97 : Int32)) + (1 : Int32)) R0  h)
            · refine go_iconst (v := 0) C dX10_oneAct_115 rfl ?_
              refine go_goto (tgt := 125) C dX10_oneAct_116 rfl ?_
              exact go_lv [] rfl (m10_oneAct_J125_k C T0 T1 T2 T3 T4 T5 T6 T7 T8 T9 T10 T11 T12 T v5 (0 : Int32) R0  h)
          · refine go_bipush (v := 13) C dX10_oneAct_104 rfl ?_
            refine go_goto (tgt := 125) C dX10_oneAct_106 rfl ?_
            exact go_lv [] rfl (m10_oneAct_J125_k C T0 T1 T2 T3 T4 T5 T6 T7 T8 T9 T10 T11 T12 T v5 (13 : Int32) R0  h)
        · refine go_aload_n C dX10_oneAct_73 3 rfl ?_
          refine go_iload C dX10_oneAct_74 0 rfl ?_
          refine go_aload_n C dX10_oneAct_76 3 rfl ?_
          refine go_get (v := .ref T4) C ffX10_19 dX10_oneAct_77 0 rfl rfl ?_
          refine go_iload_n C dX10_oneAct_80 4 rfl ?_
          refine go_iconst (v := 2) C dX10_oneAct_81 rfl ?_
          refine go_iadd C dX10_oneAct_82 ?_
          refine go_ialoadG (f := (g10_pad T)) C h dX10_oneAct_83 4 rfl (fun h => ?_)
          refine go_bipush (v := 97) C dX10_oneAct_84 rfl ?_
          refine go_isub C dX10_oneAct_86 ?_
          refine go_iconst (v := 1) C dX10_oneAct_87 rfl ?_
          refine go_iadd C dX10_oneAct_88 ?_
          obtain ⟨r8, k9, h⟩ := tbd_e h
          refine go_callV (q0 := 0) (wr := ([] : va_W)) (w' := u10 G T0 T1 T2 T3 T4 T5 T6 T7 T8 T9 T10 T11 T12 r8.2) C cfX10_104 viX10_leaseTo (m10_leaseTo_k l G T0 T1 T2 T3 T4 T5 T6 T7 T8 T9 T10 T11 T12 T v5 ((((g10_pad T) (Int32.toNatClampNeg (a1 + (2 : Int32)))) - (97 : Int32)) + (1 : Int32)) r8 k9) dX10_oneAct_89 (by decide) ⟨Nat.zero_le _, Nat.zero_le _⟩ rfl rfl (Nat.le_of_ble_eq_true rfl) rfl [0, 1, 2, 3, 4, 5, 6, 7, 8, 9, 10, 11, 12] [] [0, 1, 2, 3, 4, 5, 6, 7, 8, 9, 10, 11, 12] rfl rfl (by decide) rfl ?_
          refine go_goto (tgt := 128) C dX10_oneAct_92 rfl ?_
          cases h
          exact go_iret C dX10_oneAct_128 rfl rfl
      · exact go_lv [2, 1, 0] rfl (m10_oneAct_J39_k C T0 T1 T2 T3 T4 T5 T6 T7 T8 T9 T10 T11 T12 T v1 v2 R0  h)
  · refine go_aload_n C dX10_oneAct_13 1 rfl ?_
    obtain ⟨r10, k11, h⟩ := tbd_e h
    refine go_callV (q0 := 0) (wr := ([] : va_W)) (w' := u10 G T0 T1 T2 T3 T4 T5 T6 T7 T8 T9 T10 T11 T12 r10.2) C cfX10_97 viX10_endBeat (m10_endBeat_k l G T0 T1 T2 T3 T4 T5 T6 T7 T8 T9 T10 T11 T12 T r10 k11) dX10_oneAct_14 (by decide) ⟨Nat.zero_le _, Nat.zero_le _⟩ rfl rfl (Nat.le_of_ble_eq_true rfl) rfl [0, 1, 2, 3, 4, 5, 6, 7, 8, 9, 10, 11, 12] [] [0, 1, 2, 3, 4, 5, 6, 7, 8, 9, 10, 11, 12] rfl rfl (by decide) rfl ?_
    cases h
    exact go_iret C dX10_oneAct_17 rfl rfl

set_option maxRecDepth 100000 in
set_option maxHeartbeats 4000000 in
theorem m10_roof_J32_k {p : Program} {l : Launch} {e : Env} {s : State} {m : MethodId} {args : Array Value} {below : List Frame} {meth : Method} {c : Code} {G : gG} {A : Nat → Prop} (C : Cx p e s m args meth c G RX10 cX10_roof 3 (some .int) A) (T0 T1 T2 T3 T4 T5 T6 T7 T8 T9 T10 T11 T12 : Nat) (T : SX10) (x2 : Int32) (y0 : Int32) (y1 : Int32) (R0 : Int32) (rc4 : Int32 × Int32 → Option (Int32)) (hr4 : ∀ (x1 : Int32) (x2 : Int32), rc4 (x1, x2) = some R0 → Gq p l e (rq 0 0) s m args below meth c G A 3 0 0 (MQ below (QK G (some (.int R0)) (u10 G T0 T1 T2 T3 T4 T5 T6 T7 T8 T9 T10 T11 T12 T) A) args s 0 0 A) 4 [(0, .ref T0), (1, .int x1), (2, .int x2)] [] (u10 G T0 T1 T2 T3 T4 T5 T6 T7 T8 T9 T10 T11 T12 T)) (h : m10_roof_J32 T x2 y0 y1 rc4 = some R0) : Gq p l e (rq 0 0) s m args below meth c G A 3 0 0 (MQ below (QK G (some (.int R0)) (u10 G T0 T1 T2 T3 T4 T5 T6 T7 T8 T9 T10 T11 T12 T) A) args s 0 0 A) 32 [(0, .ref T0), (2, .int x2)] [.int y1, .int y0] (u10 G T0 T1 T2 T3 T4 T5 T6 T7 T8 T9 T10 T11 T12 T) := by
  unfold m10_roof_J32 at h
  refine go_ior C dX10_roof_32 ?_
  refine go_istore_nN (lf := fun v1 => [(1, .int v1), (0, .ref T0), (2, .int x2)]) C h dX10_roof_33 (by decide) (fun _ => rfl) (fun v1 h => ?_)
  refine go_iincN (lf := fun v2 => [(2, .int v2), (1, .int v1), (0, .ref T0)]) C h dX10_roof_34 2 rfl rfl (by decide) (fun _ => rfl) (fun v2 h => ?_)
  refine go_goto (tgt := 4) C dX10_roof_37 rfl ?_
  exact go_lv [2, 1, 0] rfl (hr4 v1 v2 h)

set_option maxRecDepth 100000 in
set_option maxHeartbeats 4000000 in
theorem m10_roof_L4_k {p : Program} {l : Launch} {e : Env} {s : State} {m : MethodId} {args : Array Value} {below : List Frame} {meth : Method} {c : Code} {G : gG} {A : Nat → Prop} (C : Cx p e s m args meth c G RX10 cX10_roof 3 (some .int) A) (T0 T1 T2 T3 T4 T5 T6 T7 T8 T9 T10 T11 T12 : Nat) (T : SX10) (R0 : Int32)  : ∀ (n : Nat) (x1 : Int32) (x2 : Int32), tit (m10_roof_L4 T) n (x1, x2) = some R0 → Gq p l e (rq 0 0) s m args below meth c G A 3 0 0 (MQ below (QK G (some (.int R0)) (u10 G T0 T1 T2 T3 T4 T5 T6 T7 T8 T9 T10 T11 T12 T) A) args s 0 0 A) 4 [(0, .ref T0), (1, .int x1), (2, .int x2)] [] (u10 G T0 T1 T2 T3 T4 T5 T6 T7 T8 T9 T10 T11 T12 T) := by
  intro n
  induction n with
  | zero => exact fun _ _ h => (tit_z h).elim
  | succ n ih =>
    intro x1 x2 h
    replace h : m10_roof_B4 T (tit (m10_roof_L4 T) n) x1 x2 = some R0 := h
    unfold m10_roof_B4 at h
    refine go_iload_n C dX10_roof_4 2 rfl ?_
    refine go_bipush (v := 6) C dX10_roof_5 rfl ?_
    refine go_icmp_ge (tgt := 40) C h dX10_roof_7 rfl (fun h => ?_) (fun h => ?_)
    · refine go_iload_n C dX10_roof_40 1 rfl ?_
      cases h
      exact go_iret C dX10_roof_41 rfl rfl
    · refine go_iload_n C dX10_roof_10 1 rfl ?_
      refine go_aload_n C dX10_roof_11 0 rfl ?_
      refine go_get (v := .ref T2) C ffX10_13 dX10_roof_12 0 rfl rfl ?_
      refine go_bipush (v := 38) C dX10_roof_15 rfl ?_
      refine go_iload_n C dX10_roof_17 2 rfl ?_
      refine go_iadd C dX10_roof_18 ?_
      refine go_ialoadG (f := (g10_now T)) C h dX10_roof_19 2 rfl (fun h => ?_)
      refine go_bipush (v := 13) C dX10_roof_20 rfl ?_
      refine go_icmp_ne (tgt := 31) C h dX10_roof_22 rfl (fun h => ?_) (fun h => ?_)
      · refine go_iconst (v := 0) C dX10_roof_31 rfl ?_
        exact go_lv [0, 2] rfl (m10_roof_J32_k C T0 T1 T2 T3 T4 T5 T6 T7 T8 T9 T10 T11 T12 T x2 x1 (0 : Int32) R0 _ (fun z0 z1 h => ih z0 z1 h) h)
      · refine go_iconst (v := 1) C dX10_roof_25 rfl ?_
        refine go_iload_n C dX10_roof_26 2 rfl ?_
        refine go_ishl C dX10_roof_27 ?_
        refine go_goto (tgt := 32) C dX10_roof_28 rfl ?_
        exact go_lv [0, 2] rfl (m10_roof_J32_k C T0 T1 T2 T3 T4 T5 T6 T7 T8 T9 T10 T11 T12 T x2 x1 ((1 : Int32) <<< (x2 &&& 31)) R0 _ (fun z0 z1 h => ih z0 z1 h) h)

set_option maxRecDepth 100000 in
set_option maxHeartbeats 4000000 in
theorem m10_roof_k (l : Launch) (G : gG) (T0 T1 T2 T3 T4 T5 T6 T7 T8 T9 T10 T11 T12 : Nat) (T : SX10) (R0 : Int32) (h : m10_roof T = some R0) : KK l G yX10_roof cX10_roof 3 (some .int) 0 0 [.ref T0] (u10 G T0 T1 T2 T3 T4 T5 T6 T7 T8 T9 T10 T11 T12 T) (some (.int R0)) (u10 G T0 T1 T2 T3 T4 T5 T6 T7 T8 T9 T10 T11 T12 T) := by
  refine KK_intro (own := RX10) (by decide +kernel) rfl (Nat.le_of_ble_eq_true rfl) rfl ?_
  intro p e s m args below meth c A C
  unfold m10_roof at h
  refine go_iconst (v := 0) C dX10_roof_0 rfl ?_
  refine go_istore_n (lv' := [(1, .int (0 : Int32)), (0, .ref T0)]) C dX10_roof_1 (by decide) rfl ?_
  refine go_iconst (v := 0) C dX10_roof_2 rfl ?_
  refine go_istore_n (lv' := [(2, .int (0 : Int32)), (1, .int (0 : Int32)), (0, .ref T0)]) C dX10_roof_3 (by decide) rfl ?_
  exact go_lv [2, 1, 0] rfl (m10_roof_L4_k C T0 T1 T2 T3 T4 T5 T6 T7 T8 T9 T10 T11 T12 T R0  FU (0 : Int32) (0 : Int32) h)

set_option maxRecDepth 100000 in
set_option maxHeartbeats 4000000 in
theorem m10_goFires_J136_k {p : Program} {l : Launch} {e : Env} {s : State} {m : MethodId} {args : Array Value} {below : List Frame} {meth : Method} {c : Code} {G : gG} {A : Nat → Prop} (C : Cx p e s m args meth c G RX10 cX10_goFires 5 (some .int) A) (T0 T1 T2 T3 T4 T5 T6 T7 T8 T9 T10 T11 T12 : Nat) (T : SX10) (x1 : Int32) (R0 : Int32 × SX10) (rc11 : Int32 × SX10 → Option (Int32 × SX10)) (hr11 : ∀ (x1 : Int32) (Tz : SX10), rc11 (x1, Tz) = some R0 → Gq p l e (rq 5 111) s m args below meth c G A 5 0 0 (MQ below (QK G (some (.int R0.1)) (u10 G T0 T1 T2 T3 T4 T5 T6 T7 T8 T9 T10 T11 T12 R0.2) A) args s 0 0 A) 11 [(0, .ref T0), (1, .int x1)] [] (u10 G T0 T1 T2 T3 T4 T5 T6 T7 T8 T9 T10 T11 T12 Tz)) (h : m10_goFires_J136 T x1 rc11 = some R0) : Gq p l e (rq 5 111) s m args below meth c G A 5 0 0 (MQ below (QK G (some (.int R0.1)) (u10 G T0 T1 T2 T3 T4 T5 T6 T7 T8 T9 T10 T11 T12 R0.2) A) args s 0 0 A) 136 [(0, .ref T0), (1, .int x1)] [] (u10 G T0 T1 T2 T3 T4 T5 T6 T7 T8 T9 T10 T11 T12 T) := by
  unfold m10_goFires_J136 at h
  refine go_aload_n C dX10_goFires_136 0 rfl ?_
  refine go_dup C dX10_goFires_137 rfl ?_
  refine go_get (v := .int (g10_acts T)) C ffX10_113 dX10_goFires_138 0 rfl rfl ?_
  refine go_iconst (v := 1) C dX10_goFires_141 rfl ?_
  refine go_iadd C dX10_goFires_142 ?_
  refine go_puti (w' := u10 G T0 T1 T2 T3 T4 T5 T6 T7 T8 T9 T10 T11 T12 (s10_acts T ((g10_acts T) + (1 : Int32)))) C fpX10_113 dX10_goFires_143 0 rfl (Nat.le_of_ble_eq_true rfl) z10_acts ?_
  refine go_goto (tgt := 11) C dX10_goFires_146 rfl ?_
  exact go_lv [0, 1] rfl (hr11 x1 (s10_acts T ((g10_acts T) + (1 : Int32))) h)

set_option maxRecDepth 100000 in
set_option maxHeartbeats 4000000 in
theorem m10_goFires_L93_k {p : Program} {l : Launch} {e : Env} {s : State} {m : MethodId} {args : Array Value} {below : List Frame} {meth : Method} {c : Code} {G : gG} {A : Nat → Prop} (C : Cx p e s m args meth c G RX10 cX10_goFires 5 (some .int) A) (T0 T1 T2 T3 T4 T5 T6 T7 T8 T9 T10 T11 T12 : Nat) (x1 : Int32) (x3 : Int32) (R0 : Int32 × SX10) (rc11 : Int32 × SX10 → Option (Int32 × SX10)) (hr11 : ∀ (x1 : Int32) (Tz : SX10), rc11 (x1, Tz) = some R0 → Gq p l e (rq 5 111) s m args below meth c G A 5 0 0 (MQ below (QK G (some (.int R0.1)) (u10 G T0 T1 T2 T3 T4 T5 T6 T7 T8 T9 T10 T11 T12 R0.2) A) args s 0 0 A) 11 [(0, .ref T0), (1, .int x1)] [] (u10 G T0 T1 T2 T3 T4 T5 T6 T7 T8 T9 T10 T11 T12 Tz)) : ∀ (n : Nat) (x4 : Int32) (T : SX10), tit (m10_goFires_L93 x1 x3 rc11) n (x4, T) = some R0 → Gq p l e (rq 5 111) s m args below meth c G A 5 0 0 (MQ below (QK G (some (.int R0.1)) (u10 G T0 T1 T2 T3 T4 T5 T6 T7 T8 T9 T10 T11 T12 R0.2) A) args s 0 0 A) 93 [(0, .ref T0), (1, .int x1), (3, .int x3), (4, .int x4)] [] (u10 G T0 T1 T2 T3 T4 T5 T6 T7 T8 T9 T10 T11 T12 T) := by
  intro n
  induction n with
  | zero => exact fun _ _ h => (tit_z h).elim
  | succ n ih =>
    intro x4 T h
    replace h : m10_goFires_B93 x1 x3 rc11 (tit (m10_goFires_L93 x1 x3 rc11) n) x4 T = some R0 := h
    unfold m10_goFires_B93 at h
    refine go_iload C dX10_goFires_93 3 rfl ?_
    refine go_bipush (v := 6) C dX10_goFires_95 rfl ?_
    refine go_icmp_ge (tgt := 136) C h dX10_goFires_97 rfl (fun h => ?_) (fun h => ?_)
    · exact go_lv [0, 1] rfl (m10_goFires_J136_k C T0 T1 T2 T3 T4 T5 T6 T7 T8 T9 T10 T11 T12 T x1 R0 rc11 hr11 h)
    · refine go_aload_n C dX10_goFires_100 0 rfl ?_
      refine go_get (v := .int (g10_roofAt T)) C ffX10_59 dX10_goFires_101 0 rfl rfl ?_
      refine go_if_ge (tgt := 136) C h dX10_goFires_104 rfl (fun h => ?_) (fun h => ?_)
      · exact go_lv [0, 1] rfl (m10_goFires_J136_k C T0 T1 T2 T3 T4 T5 T6 T7 T8 T9 T10 T11 T12 T x1 R0 rc11 hr11 h)
      · refine go_iload_n C dX10_goFires_107 2 rfl ?_
        refine go_iload C dX10_goFires_108 3 rfl ?_
        obtain ⟨r11, k12, h⟩ := tbd_e h
        refine go_callS0 C cfX10_65 (wr18 _ (List.mem_of_getElem? (i := 23) rfl)) (m10_has_k l G x3 x4 r11 k12) dX10_goFires_110 (by decide) ⟨Nat.zero_le _, Nat.zero_le _⟩ rfl rfl (Nat.le_of_ble_eq_true rfl) ?_
        refine go_if_eq (tgt := 130) C h dX10_goFires_113 rfl (fun h => ?_) (fun h => ?_)
        · refine go_iincN (lf := fun v13 => [(4, .int v13), (0, .ref T0), (1, .int x1), (3, .int x3)]) C h dX10_goFires_130 3 rfl rfl (by decide) (fun _ => rfl) (fun v13 h => ?_)
          refine go_goto (tgt := 93) C dX10_goFires_133 rfl ?_
          exact go_lv [1, 2, 3, 0] rfl (ih v13 T h)
        · refine go_aload_n C dX10_goFires_116 0 rfl ?_
          refine go_aload_n C dX10_goFires_117 0 rfl ?_
          refine go_get (v := .int (g10_acts T)) C ffX10_113 dX10_goFires_118 0 rfl rfl ?_
          refine go_puti (w' := u10 G T0 T1 T2 T3 T4 T5 T6 T7 T8 T9 T10 T11 T12 (s10_roofAt T (g10_acts T))) C fpX10_59 dX10_goFires_121 0 rfl (Nat.le_of_ble_eq_true rfl) z10_roofAt ?_
          refine go_aload_n C dX10_goFires_124 0 rfl ?_
          refine go_iload C dX10_goFires_125 3 rfl ?_
          refine go_puti (w' := u10 G T0 T1 T2 T3 T4 T5 T6 T7 T8 T9 T10 T11 T12 (s10_roofWho (s10_roofAt T (g10_acts T)) x4)) C fpX10_62 dX10_goFires_127 0 rfl (Nat.le_of_ble_eq_true rfl) z10_roofWho ?_
          refine go_iincN (lf := fun v14 => [(4, .int v14), (0, .ref T0), (1, .int x1), (3, .int x3)]) C h dX10_goFires_130 3 rfl rfl (by decide) (fun _ => rfl) (fun v14 h => ?_)
          refine go_goto (tgt := 93) C dX10_goFires_133 rfl ?_
          exact go_lv [1, 2, 3, 0] rfl (ih v14 (s10_roofWho (s10_roofAt T (g10_acts T)) x4) h)

set_option maxRecDepth 100000 in
set_option maxHeartbeats 4000000 in
theorem m10_goFires_J67_k {p : Program} {l : Launch} {e : Env} {s : State} {m : MethodId} {args : Array Value} {below : List Frame} {meth : Method} {c : Code} {G : gG} {A : Nat → Prop} (C : Cx p e s m args meth c G RX10 cX10_goFires 5 (some .int) A) (T0 T1 T2 T3 T4 T5 T6 T7 T8 T9 T10 T11 T12 : Nat) (T : SX10) (x2 : Int32) (y0 : Int32) (y1 : Int32) (R0 : Int32 × SX10) (rc11 : Int32 × SX10 → Option (Int32 × SX10)) (hr11 : ∀ (x1 : Int32) (Tz : SX10), rc11 (x1, Tz) = some R0 → Gq p l e (rq 5 111) s m args below meth c G A 5 0 0 (MQ below (QK G (some (.int R0.1)) (u10 G T0 T1 T2 T3 T4 T5 T6 T7 T8 T9 T10 T11 T12 R0.2) A) args s 0 0 A) 11 [(0, .ref T0), (1, .int x1)] [] (u10 G T0 T1 T2 T3 T4 T5 T6 T7 T8 T9 T10 T11 T12 Tz)) (h : m10_goFires_J67 T x2 y0 y1 rc11 = some R0) : Gq p l e (rq 5 111) s m args below meth c G A 5 0 0 (MQ below (QK G (some (.int R0.1)) (u10 G T0 T1 T2 T3 T4 T5 T6 T7 T8 T9 T10 T11 T12 R0.2) A) args s 0 0 A) 67 [(0, .ref T0), (2, .int x2)] [.int y1, .int y0] (u10 G T0 T1 T2 T3 T4 T5 T6 T7 T8 T9 T10 T11 T12 T) := by
  unfold m10_goFires_J67 at h
  refine go_iadd C dX10_goFires_67 ?_
  refine go_istore_nN (lf := fun v7 => [(1, .int v7), (0, .ref T0), (2, .int x2)]) C h dX10_goFires_68 (by decide) (fun _ => rfl) (fun v7 h => ?_)
  refine go_aload_n C dX10_goFires_69 1 rfl ?_
  refine go_get (v := .int (g10_reason T)) C ffX10_122 dX10_goFires_70 0 rfl rfl ?_
  refine go_if_le (tgt := 81) C h dX10_goFires_73 rfl (fun h => ?_) (fun h => ?_)
  · refine go_aload_n C dX10_goFires_81 1 rfl ?_
    obtain ⟨r8, k9, h⟩ := tbd_e h
    refine go_callV (q0 := 0) (wr := ([] : va_W)) (w' := u10 G T0 T1 T2 T3 T4 T5 T6 T7 T8 T9 T10 T11 T12 T) C cfX10_116 viX10_roof (m10_roof_k l G T0 T1 T2 T3 T4 T5 T6 T7 T8 T9 T10 T11 T12 T r8 k9) dX10_goFires_82 (by decide) ⟨Nat.zero_le _, Nat.zero_le _⟩ rfl rfl (Nat.le_of_ble_eq_true rfl) rfl [0, 1, 2, 3, 4, 5, 6, 7, 8, 9, 10, 11, 12] [] [0, 1, 2, 3, 4, 5, 6, 7, 8, 9, 10, 11, 12] rfl rfl (by decide) rfl ?_
    refine go_iload_n C dX10_goFires_85 2 rfl ?_
    refine go_iconst (v := -1) C dX10_goFires_86 rfl ?_
    refine go_ixor C dX10_goFires_87 ?_
    refine go_iand C dX10_goFires_88 ?_
    refine go_istore_nN (lf := fun v10 => [(3, .int v10), (1, .int v7), (0, .ref T0), (2, .int x2)]) C h dX10_goFires_89 (by decide) (fun _ => rfl) (fun v10 h => ?_)
    refine go_iconst (v := 0) C dX10_goFires_90 rfl ?_
    refine go_istore (lv' := [(4, .int (0 : Int32)), (3, .int v10), (1, .int v7), (0, .ref T0), (2, .int x2)]) C dX10_goFires_91 (by decide) rfl ?_
    exact go_lv [3, 2, 1, 0] rfl (m10_goFires_L93_k C T0 T1 T2 T3 T4 T5 T6 T7 T8 T9 T10 T11 T12 v7 v10 R0 rc11 hr11 FU (0 : Int32) T h)
  · refine go_aload_n C dX10_goFires_76 1 rfl ?_
    refine go_get (v := .int (g10_acts T)) C ffX10_113 dX10_goFires_77 0 rfl rfl ?_
    cases h
    exact go_iret C dX10_goFires_80 rfl rfl

set_option maxRecDepth 100000 in
set_option maxHeartbeats 4000000 in
theorem m10_goFires_L11_k {p : Program} {l : Launch} {e : Env} {s : State} {m : MethodId} {args : Array Value} {below : List Frame} {meth : Method} {c : Code} {G : gG} {A : Nat → Prop} (C : Cx p e s m args meth c G RX10 cX10_goFires 5 (some .int) A) (T0 T1 T2 T3 T4 T5 T6 T7 T8 T9 T10 T11 T12 : Nat)  (R0 : Int32 × SX10)  : ∀ (n : Nat) (x1 : Int32) (T : SX10), tit (m10_goFires_L11) n (x1, T) = some R0 → Gq p l e (rq 5 111) s m args below meth c G A 5 0 0 (MQ below (QK G (some (.int R0.1)) (u10 G T0 T1 T2 T3 T4 T5 T6 T7 T8 T9 T10 T11 T12 R0.2) A) args s 0 0 A) 11 [(0, .ref T0), (1, .int x1)] [] (u10 G T0 T1 T2 T3 T4 T5 T6 T7 T8 T9 T10 T11 T12 T) := by
  intro n
  induction n with
  | zero => exact fun _ _ h => (tit_z h).elim
  | succ n ih =>
    intro x1 T h
    replace h : m10_goFires_B11 (tit (m10_goFires_L11) n) x1 T = some R0 := h
    unfold m10_goFires_B11 at h
    refine go_iload_n C dX10_goFires_11 1 rfl ?_
    refine go_aload_n C dX10_goFires_12 0 rfl ?_
    refine go_get (v := .int (g10_signs T)) C ffX10_79 dX10_goFires_13 0 rfl rfl ?_
    refine go_icmp_ge (tgt := 149) C h dX10_goFires_16 rfl (fun h => ?_) (fun h => ?_)
    · refine go_bipush (v := -6) C dX10_goFires_149 rfl ?_
      cases h
      exact go_iret C dX10_goFires_151 rfl rfl
    · refine go_aload_n C dX10_goFires_19 0 rfl ?_
      obtain ⟨r3, k4, h⟩ := tbd_e h
      refine go_callV (q0 := 0) (wr := ([] : va_W)) (w' := u10 G T0 T1 T2 T3 T4 T5 T6 T7 T8 T9 T10 T11 T12 T) C cfX10_116 viX10_roof (m10_roof_k l G T0 T1 T2 T3 T4 T5 T6 T7 T8 T9 T10 T11 T12 T r3 k4) dX10_goFires_20 (by decide) ⟨Nat.zero_le _, Nat.zero_le _⟩ rfl rfl (Nat.le_of_ble_eq_true rfl) rfl [0, 1, 2, 3, 4, 5, 6, 7, 8, 9, 10, 11, 12] [] [0, 1, 2, 3, 4, 5, 6, 7, 8, 9, 10, 11, 12] rfl rfl (by decide) rfl ?_
      refine go_istore_n (lv' := [(2, .int r3), (0, .ref T0), (1, .int x1)]) C dX10_goFires_23 (by decide) rfl ?_
      refine go_aload_n C dX10_goFires_24 1 rfl ?_
      refine go_aload_n C dX10_goFires_25 1 rfl ?_
      refine go_iload_n C dX10_goFires_26 2 rfl ?_
      obtain ⟨r5, k6, h⟩ := tbd_e h
      refine go_callV (q0 := 0) (wr := ([] : va_W)) (w' := u10 G T0 T1 T2 T3 T4 T5 T6 T7 T8 T9 T10 T11 T12 r5.2) C cfX10_119 viX10_oneAct (m10_oneAct_k l G T0 T1 T2 T3 T4 T5 T6 T7 T8 T9 T10 T11 T12 T x1 r5 k6) dX10_goFires_27 (by decide) ⟨Nat.zero_le _, Nat.zero_le _⟩ rfl rfl (Nat.le_of_ble_eq_true rfl) rfl [0, 1, 2, 3, 4, 5, 6, 7, 8, 9, 10, 11, 12] [] [0, 1, 2, 3, 4, 5, 6, 7, 8, 9, 10, 11, 12] rfl rfl (by decide) rfl ?_
      refine go_puti (w' := u10 G T0 T1 T2 T3 T4 T5 T6 T7 T8 T9 T10 T11 T12 (s10_reason r5.2 r5.1)) C fpX10_122 dX10_goFires_30 0 rfl (Nat.le_of_ble_eq_true rfl) z10_reason ?_
      refine go_iload_n C dX10_goFires_33 2 rfl ?_
      refine go_aload_n C dX10_goFires_34 1 rfl ?_
      refine go_get (v := .ref T4) C ffX10_19 dX10_goFires_35 0 rfl rfl ?_
      refine go_iload_n C dX10_goFires_38 2 rfl ?_
      refine go_ialoadG (f := (g10_pad r5.2)) C h dX10_goFires_39 4 rfl (fun h => ?_)
      refine go_bipush (v := 46) C dX10_goFires_40 rfl ?_
      refine go_icmp_ne (tgt := 49) C h dX10_goFires_42 rfl (fun h => ?_) (fun h => ?_)
      · refine go_aload_n C dX10_goFires_49 1 rfl ?_
        refine go_get (v := .ref T4) C ffX10_19 dX10_goFires_50 0 rfl rfl ?_
        refine go_iload_n C dX10_goFires_53 2 rfl ?_
        refine go_iconst (v := 1) C dX10_goFires_54 rfl ?_
        refine go_iadd C dX10_goFires_55 ?_
        refine go_ialoadG (f := (g10_pad r5.2)) C h dX10_goFires_56 4 rfl (fun h => ?_)
        refine go_bipush (v := 37) C dX10_goFires_57 rfl ?_
        refine go_icmp_ne (tgt := 66) C h dX10_goFires_59 rfl (fun h => ?_) (fun h => ?_)
        · refine go_iconst (v := 2) C dX10_goFires_66 rfl ?_
          exact go_lv [1, 0] rfl (m10_goFires_J67_k C T0 T1 T2 T3 T4 T5 T6 T7 T8 T9 T10 T11 T12 (s10_reason r5.2 r5.1) r3 x1 (2 : Int32) R0 _ (fun z0 z1 h => ih z0 z1 h) h)
        · refine go_iconst (v := 3) C dX10_goFires_62 rfl ?_
          refine go_goto (tgt := 67) C dX10_goFires_63 rfl ?_
          exact go_lv [1, 0] rfl (m10_goFires_J67_k C T0 T1 T2 T3 T4 T5 T6 T7 T8 T9 T10 T11 T12 (s10_reason r5.2 r5.1) r3 x1 (3 : Int32) R0 _ (fun z0 z1 h => ih z0 z1 h) h)
      · refine go_iconst (v := 1) C dX10_goFires_45 rfl ?_
        refine go_goto (tgt := 67) C dX10_goFires_46 rfl ?_
        exact go_lv [1, 0] rfl (m10_goFires_J67_k C T0 T1 T2 T3 T4 T5 T6 T7 T8 T9 T10 T11 T12 (s10_reason r5.2 r5.1) r3 x1 (1 : Int32) R0 _ (fun z0 z1 h => ih z0 z1 h) h)

set_option maxRecDepth 100000 in
set_option maxHeartbeats 4000000 in
theorem m10_goFires_k (l : Launch) (G : gG) (T0 T1 T2 T3 T4 T5 T6 T7 T8 T9 T10 T11 T12 : Nat) (T : SX10) (R0 : Int32 × SX10) (h : m10_goFires T = some R0) : KK l G yX10_goFires cX10_goFires 5 (some .int) 5 111 [.ref T0] (u10 G T0 T1 T2 T3 T4 T5 T6 T7 T8 T9 T10 T11 T12 T) (some (.int R0.1)) (u10 G T0 T1 T2 T3 T4 T5 T6 T7 T8 T9 T10 T11 T12 R0.2) := by
  refine KK_intro (own := RX10) (by decide +kernel) rfl (Nat.le_of_ble_eq_true rfl) rfl ?_
  intro p e s m args below meth c A C
  unfold m10_goFires at h
  refine go_aload_n C dX10_goFires_0 0 rfl ?_
  obtain ⟨r1, k2, h⟩ := tbd_e h
  refine go_callV (q0 := 0) (wr := ([] : va_W)) (w' := u10 G T0 T1 T2 T3 T4 T5 T6 T7 T8 T9 T10 T11 T12 r1) C cfX10_110 viX10_asNow (m10_asNow_k l G T0 T1 T2 T3 T4 T5 T6 T7 T8 T9 T10 T11 T12 T r1 k2) dX10_goFires_1 (by decide) ⟨Nat.zero_le _, Nat.zero_le _⟩ rfl rfl (Nat.le_of_ble_eq_true rfl) rfl [0, 1, 2, 3, 4, 5, 6, 7, 8, 9, 10, 11, 12] [] [0, 1, 2, 3, 4, 5, 6, 7, 8, 9, 10, 11, 12] rfl rfl (by decide) rfl ?_
  refine go_aload_n C dX10_goFires_4 0 rfl ?_
  refine go_iconst (v := 0) C dX10_goFires_5 rfl ?_
  refine go_puti (w' := u10 G T0 T1 T2 T3 T4 T5 T6 T7 T8 T9 T10 T11 T12 (s10_acts r1 (0 : Int32))) C fpX10_113 dX10_goFires_6 0 rfl (Nat.le_of_ble_eq_true rfl) z10_acts ?_
  refine go_iconst (v := 0) C dX10_goFires_9 rfl ?_
  refine go_istore_n (lv' := [(1, .int (0 : Int32)), (0, .ref T0)]) C dX10_goFires_10 (by decide) rfl ?_
  exact go_lv [1, 0] rfl (m10_goFires_L11_k C T0 T1 T2 T3 T4 T5 T6 T7 T8 T9 T10 T11 T12  R0  FU (0 : Int32) (s10_acts r1 (0 : Int32)) h)

set_option maxRecDepth 100000 in
set_option maxHeartbeats 4000000 in
theorem m10_judge_k (l : Launch) (G : gG) (T0 T1 T2 T3 T4 T5 T6 T7 T8 T9 T10 T11 T12 : Nat) (T : SX10) (a1 : Int32) (R0 : Int32 × SX10) (h : m10_judge T a1 = some R0) : KK l G yX10_judge cX10_judge 3 (some .int) 6 135 [.ref T0, .int a1] (u10 G T0 T1 T2 T3 T4 T5 T6 T7 T8 T9 T10 T11 T12 T) (some (.int R0.1)) (u10 G T0 T1 T2 T3 T4 T5 T6 T7 T8 T9 T10 T11 T12 R0.2) := by
  refine KK_intro (own := RX10) (by decide +kernel) rfl (Nat.le_of_ble_eq_true rfl) rfl ?_
  intro p e s m args below meth c A C
  unfold m10_judge at h
  refine go_iload_n C dX10_judge_0 1 rfl ?_
  refine go_iconst (v := 0) C dX10_judge_1 rfl ?_
  refine go_iconst (v := 1) C dX10_judge_2 rfl ?_
  obtain ⟨r1, k2, h⟩ := tbd_e h
  refine go_callS0 C cfX10_48 (wr8 _ (List.mem_of_getElem? (i := 3) rfl)) (m10_in_k l G a1 (0 : Int32) (1 : Int32) r1 k2) dX10_judge_3 (by decide) ⟨Nat.zero_le _, Nat.zero_le _⟩ rfl rfl (Nat.le_of_ble_eq_true rfl) ?_
  refine go_if_ne (tgt := 12) C h dX10_judge_6 rfl (fun h => ?_) (fun h => ?_)
  · refine go_aload_n C dX10_judge_12 0 rfl ?_
    obtain ⟨r3, k4, h⟩ := tbd_e h
    refine go_callV (q0 := 0) (wr := ([] : va_W)) (w' := u10 G T0 T1 T2 T3 T4 T5 T6 T7 T8 T9 T10 T11 T12 T) C cfX10_86 viX10_faultOf (m10_faultOf_k l G T0 T1 T2 T3 T4 T5 T6 T7 T8 T9 T10 T11 T12 T r3 k4) dX10_judge_13 (by decide) ⟨Nat.zero_le _, Nat.zero_le _⟩ rfl rfl (Nat.le_of_ble_eq_true rfl) rfl [0, 1, 2, 3, 4, 5, 6, 7, 8, 9, 10, 11, 12] [] [0, 1, 2, 3, 4, 5, 6, 7, 8, 9, 10, 11, 12] rfl rfl (by decide) rfl ?_
    refine go_if_lt (tgt := 22) C h dX10_judge_16 rfl (fun h => ?_) (fun h => ?_)
    · refine go_aload_n C dX10_judge_22 0 rfl ?_
      obtain ⟨r5, k6, h⟩ := tbd_e h
      refine go_callV (q0 := 0) (wr := ([] : va_W)) (w' := u10 G T0 T1 T2 T3 T4 T5 T6 T7 T8 T9 T10 T11 T12 r5.2) C cfX10_125 viX10_goFires (m10_goFires_k l G T0 T1 T2 T3 T4 T5 T6 T7 T8 T9 T10 T11 T12 T r5 k6) dX10_judge_23 (by decide) ⟨Nat.zero_le _, Nat.zero_le _⟩ rfl rfl (Nat.le_of_ble_eq_true rfl) rfl [0, 1, 2, 3, 4, 5, 6, 7, 8, 9, 10, 11, 12] [] [0, 1, 2, 3, 4, 5, 6, 7, 8, 9, 10, 11, 12] rfl rfl (by decide) rfl ?_
      refine go_istore_nN (lf := fun v7 => [(2, .int v7), (0, .ref T0), (1, .int a1)]) C h dX10_judge_26 (by decide) (fun _ => rfl) (fun v7 h => ?_)
      refine go_iload_n C dX10_judge_27 0 rfl ?_
      refine go_if_lt (tgt := 35) C h dX10_judge_28 rfl (fun h => ?_) (fun h => ?_)
      · refine go_iload_n C dX10_judge_35 0 rfl ?_
        refine go_goto (tgt := 43) C dX10_judge_36 rfl ?_
        cases h
        exact go_iret C dX10_judge_43 rfl rfl
      · refine go_iload_n C dX10_judge_31 2 rfl ?_
        refine go_if_ne (tgt := 39) C h dX10_judge_32 rfl (fun h => ?_) (fun h => ?_)
        · refine go_aload_n C dX10_judge_39 1 rfl ?_
          refine go_get (v := .int (g10_reason r5.2)) C ffX10_122 dX10_judge_40 0 rfl rfl ?_
          cases h
          exact go_iret C dX10_judge_43 rfl rfl
        · refine go_iload_n C dX10_judge_35 0 rfl ?_
          refine go_goto (tgt := 43) C dX10_judge_36 rfl ?_
          cases h
          exact go_iret C dX10_judge_43 rfl rfl
    · refine go_bipush (v := -5) C dX10_judge_19 rfl ?_
      cases h
      exact go_iret C dX10_judge_21 rfl rfl
  · refine go_bipush (v := -2) C dX10_judge_9 rfl ?_
    cases h
    exact go_iret C dX10_judge_11 rfl rfl

set_option maxRecDepth 100000 in
set_option maxHeartbeats 4000000 in
theorem m10_barOfFires_k (l : Launch) (G : gG) (T0 T1 T2 T3 T4 T5 T6 T7 T8 T9 T10 T11 T12 : Nat) (T : SX10) (R0 : Int32 × SX10) (h : m10_barOfFires T = some R0) : KK l G yX10_barOfFires cX10_barOfFires 1 (some .int) 6 135 [.ref T0] (u10 G T0 T1 T2 T3 T4 T5 T6 T7 T8 T9 T10 T11 T12 T) (some (.int R0.1)) (u10 G T0 T1 T2 T3 T4 T5 T6 T7 T8 T9 T10 T11 T12 R0.2) := by
  refine KK_intro (own := RX10) (by decide +kernel) rfl (Nat.le_of_ble_eq_true rfl) rfl ?_
  intro p e s m args below meth c A C
  unfold m10_barOfFires at h
  refine go_aload_n C dX10_barOfFires_0 0 rfl ?_
  obtain ⟨r1, k2, h⟩ := tbd_e h
  refine go_callV (q0 := 0) (wr := ([] : va_W)) (w' := u10 G T0 T1 T2 T3 T4 T5 T6 T7 T8 T9 T10 T11 T12 T) C cfX10_86 viX10_faultOf (m10_faultOf_k l G T0 T1 T2 T3 T4 T5 T6 T7 T8 T9 T10 T11 T12 T r1 k2) dX10_barOfFires_1 (by decide) ⟨Nat.zero_le _, Nat.zero_le _⟩ rfl rfl (Nat.le_of_ble_eq_true rfl) rfl [0, 1, 2, 3, 4, 5, 6, 7, 8, 9, 10, 11, 12] [] [0, 1, 2, 3, 4, 5, 6, 7, 8, 9, 10, 11, 12] rfl rfl (by decide) rfl ?_
  refine go_if_ge (tgt := 14) C h dX10_barOfFires_4 rfl (fun h => ?_) (fun h => ?_)
  · refine go_bipush (v := -5) C dX10_barOfFires_14 rfl ?_
    refine go_goto (tgt := 20) C dX10_barOfFires_16 rfl ?_
    cases h
    exact go_iret C dX10_barOfFires_20 rfl rfl
  · refine go_aload_n C dX10_barOfFires_7 0 rfl ?_
    obtain ⟨r3, k4, h⟩ := tbd_e h
    refine go_callV (q0 := 0) (wr := ([] : va_W)) (w' := u10 G T0 T1 T2 T3 T4 T5 T6 T7 T8 T9 T10 T11 T12 r3.2) C cfX10_125 viX10_goFires (m10_goFires_k l G T0 T1 T2 T3 T4 T5 T6 T7 T8 T9 T10 T11 T12 T r3 k4) dX10_barOfFires_8 (by decide) ⟨Nat.zero_le _, Nat.zero_le _⟩ rfl rfl (Nat.le_of_ble_eq_true rfl) rfl [0, 1, 2, 3, 4, 5, 6, 7, 8, 9, 10, 11, 12] [] [0, 1, 2, 3, 4, 5, 6, 7, 8, 9, 10, 11, 12] rfl rfl (by decide) rfl ?_
    refine go_if_lt (tgt := 19) C h dX10_barOfFires_11 rfl (fun h => ?_) (fun h => ?_)
    · refine go_iconst (v := 0) C dX10_barOfFires_19 rfl ?_
      cases h
      exact go_iret C dX10_barOfFires_20 rfl rfl
    · refine go_bipush (v := -5) C dX10_barOfFires_14 rfl ?_
      refine go_goto (tgt := 20) C dX10_barOfFires_16 rfl ?_
      cases h
      exact go_iret C dX10_barOfFires_20 rfl rfl

set_option maxRecDepth 100000 in
set_option maxHeartbeats 4000000 in
theorem m10_done_L12_k {p : Program} {l : Launch} {e : Env} {s : State} {m : MethodId} {args : Array Value} {below : List Frame} {meth : Method} {c : Code} {G : gG} {A : Nat → Prop} (C : Cx p e s m args meth c G RX10 cX10_done 2 (some .int) A) (T0 T1 T2 T3 T4 T5 T6 T7 T8 T9 T10 T11 T12 : Nat)  (R0 : Int32 × SX10)  : ∀ (n : Nat) (x1 : Int32) (T : SX10), tit (m10_done_L12) n (x1, T) = some R0 → Gq p l e (rq 7 155) s m args below meth c G A 2 0 0 (MQ below (QK G (some (.int R0.1)) (u10 G T0 T1 T2 T3 T4 T5 T6 T7 T8 T9 T10 T11 T12 R0.2) A) args s 0 0 A) 12 [(0, .ref T0), (1, .int x1)] [] (u10 G T0 T1 T2 T3 T4 T5 T6 T7 T8 T9 T10 T11 T12 T) := by
  intro n
  induction n with
  | zero => exact fun _ _ h => (tit_z h).elim
  | succ n ih =>
    intro x1 T h
    replace h : m10_done_B12 (tit (m10_done_L12) n) x1 T = some R0 := h
    unfold m10_done_B12 at h
    refine go_iload_n C dX10_done_12 1 rfl ?_
    refine go_bipush (v := 47) C dX10_done_13 rfl ?_
    refine go_icmp_ge (tgt := 36) C h dX10_done_15 rfl (fun h => ?_) (fun h => ?_)
    · refine go_aload_n C dX10_done_36 0 rfl ?_
      refine go_iconst (v := 0) C dX10_done_37 rfl ?_
      refine go_puti (w' := u10 G T0 T1 T2 T3 T4 T5 T6 T7 T8 T9 T10 T11 T12 (s10_signs T (0 : Int32))) C fpX10_79 dX10_done_38 0 rfl (Nat.le_of_ble_eq_true rfl) z10_signs ?_
      refine go_aload_n C dX10_done_41 0 rfl ?_
      refine go_get (v := .int (g10_acts T)) C ffX10_113 dX10_done_42 0 rfl rfl ?_
      cases h
      exact go_iret C dX10_done_45 rfl rfl
    · refine go_aload_n C dX10_done_18 0 rfl ?_
      refine go_get (v := .ref T1) C ffX10_7 dX10_done_19 0 rfl rfl ?_
      refine go_iload_n C dX10_done_22 1 rfl ?_
      refine go_aload_n C dX10_done_23 0 rfl ?_
      refine go_get (v := .ref T2) C ffX10_13 dX10_done_24 0 rfl rfl ?_
      refine go_iload_n C dX10_done_27 1 rfl ?_
      refine go_ialoadG (f := (g10_now T)) C h dX10_done_28 2 rfl (fun h => ?_)
      refine go_iastoreG (f := (g10_book T)) (w' := u10 G T0 T1 T2 T3 T4 T5 T6 T7 T8 T9 T10 T11 T12 (s10_book T (upd (g10_book T) (Int32.toNatClampNeg x1) ((g10_now T) (Int32.toNatClampNeg x1))))) C h dX10_done_29 1 rfl z10_book (fun h => ?_)
      refine go_iincN (lf := fun v3 => [(1, .int v3), (0, .ref T0)]) C h dX10_done_30 1 rfl rfl (by decide) (fun _ => rfl) (fun v3 h => ?_)
      refine go_goto (tgt := 12) C dX10_done_33 rfl ?_
      exact go_lv [1, 0] rfl (ih v3 (s10_book T (upd (g10_book T) (Int32.toNatClampNeg x1) ((g10_now T) (Int32.toNatClampNeg x1)))) h)

set_option maxRecDepth 100000 in
set_option maxHeartbeats 4000000 in
theorem m10_done_k (l : Launch) (G : gG) (T0 T1 T2 T3 T4 T5 T6 T7 T8 T9 T10 T11 T12 : Nat) (T : SX10) (R0 : Int32 × SX10) (h : m10_done T = some R0) : KK l G yX10_done cX10_done 2 (some .int) 7 155 [.ref T0] (u10 G T0 T1 T2 T3 T4 T5 T6 T7 T8 T9 T10 T11 T12 T) (some (.int R0.1)) (u10 G T0 T1 T2 T3 T4 T5 T6 T7 T8 T9 T10 T11 T12 R0.2) := by
  refine KK_intro (own := RX10) (by decide +kernel) rfl (Nat.le_of_ble_eq_true rfl) rfl ?_
  intro p e s m args below meth c A C
  unfold m10_done at h
  refine go_aload_n C dX10_done_0 0 rfl ?_
  obtain ⟨r1, k2, h⟩ := tbd_e h
  refine go_callV (q0 := 0) (wr := ([] : va_W)) (w' := u10 G T0 T1 T2 T3 T4 T5 T6 T7 T8 T9 T10 T11 T12 r1.2) C cfX10_128 viX10_barOfFires (m10_barOfFires_k l G T0 T1 T2 T3 T4 T5 T6 T7 T8 T9 T10 T11 T12 T r1 k2) dX10_done_1 (by decide) ⟨Nat.zero_le _, Nat.zero_le _⟩ rfl rfl (Nat.le_of_ble_eq_true rfl) rfl [0, 1, 2, 3, 4, 5, 6, 7, 8, 9, 10, 11, 12] [] [0, 1, 2, 3, 4, 5, 6, 7, 8, 9, 10, 11, 12] rfl rfl (by decide) rfl ?_
  refine go_if_ge (tgt := 10) C h dX10_done_4 rfl (fun h => ?_) (fun h => ?_)
  · refine go_iconst (v := 0) C dX10_done_10 rfl ?_
    refine go_istore_n (lv' := [(1, .int (0 : Int32)), (0, .ref T0)]) C dX10_done_11 (by decide) rfl ?_
    exact go_lv [1, 0] rfl (m10_done_L12_k C T0 T1 T2 T3 T4 T5 T6 T7 T8 T9 T10 T11 T12  R0  FU (0 : Int32) r1.2 h)
  · refine go_bipush (v := -5) C dX10_done_7 rfl ?_
    cases h
    exact go_iret C dX10_done_9 rfl rfl

set_option maxRecDepth 100000 in
set_option maxHeartbeats 4000000 in
theorem m10_mayOnes_J29_k {p : Program} {l : Launch} {e : Env} {s : State} {m : MethodId} {args : Array Value} {below : List Frame} {meth : Method} {c : Code} {G : gG} {A : Nat → Prop} (C : Cx p e s m args meth c G RX10 cX10_mayOnes 4 (some .int) A) (T0 T1 T2 T3 T4 T5 T6 T7 T8 T9 T10 T11 T12 : Nat) (T : SX10) (x1 : Int32) (x3 : Int32) (y0 : Int32) (y1 : Int32) (R0 : Int32) (rc4 : Int32 × Int32 → Option (Int32)) (hr4 : ∀ (x2 : Int32) (x3 : Int32), rc4 (x2, x3) = some R0 → Gq p l e (rq 3 64) s m args below meth c G A 4 0 0 (MQ below (QK G (some (.int R0)) (u10 G T0 T1 T2 T3 T4 T5 T6 T7 T8 T9 T10 T11 T12 T) A) args s 0 0 A) 4 [(0, .ref T0), (1, .int x1), (2, .int x2), (3, .int x3)] [] (u10 G T0 T1 T2 T3 T4 T5 T6 T7 T8 T9 T10 T11 T12 T)) (h : m10_mayOnes_J29 T x1 x3 y0 y1 rc4 = some R0) : Gq p l e (rq 3 64) s m args below meth c G A 4 0 0 (MQ below (QK G (some (.int R0)) (u10 G T0 T1 T2 T3 T4 T5 T6 T7 T8 T9 T10 T11 T12 T) A) args s 0 0 A) 29 [(0, .ref T0), (1, .int x1), (3, .int x3)] [.int y1, .int y0] (u10 G T0 T1 T2 T3 T4 T5 T6 T7 T8 T9 T10 T11 T12 T) := by
  unfold m10_mayOnes_J29 at h
  refine go_ior C dX10_mayOnes_29 ?_
  refine go_istore_nN (lf := fun v3 => [(2, .int v3), (0, .ref T0), (1, .int x1), (3, .int x3)]) C h dX10_mayOnes_30 (by decide) (fun _ => rfl) (fun v3 h => ?_)
  refine go_iincN (lf := fun v4 => [(3, .int v4), (2, .int v3), (0, .ref T0), (1, .int x1)]) C h dX10_mayOnes_31 3 rfl rfl (by decide) (fun _ => rfl) (fun v4 h => ?_)
  refine go_goto (tgt := 4) C dX10_mayOnes_34 rfl ?_
  exact go_lv [2, 3, 1, 0] rfl (hr4 v3 v4 h)

set_option maxRecDepth 100000 in
set_option maxHeartbeats 4000000 in
theorem m10_mayOnes_L4_k {p : Program} {l : Launch} {e : Env} {s : State} {m : MethodId} {args : Array Value} {below : List Frame} {meth : Method} {c : Code} {G : gG} {A : Nat → Prop} (C : Cx p e s m args meth c G RX10 cX10_mayOnes 4 (some .int) A) (T0 T1 T2 T3 T4 T5 T6 T7 T8 T9 T10 T11 T12 : Nat) (T : SX10) (x1 : Int32) (R0 : Int32)  : ∀ (n : Nat) (x2 : Int32) (x3 : Int32), tit (m10_mayOnes_L4 T x1) n (x2, x3) = some R0 → Gq p l e (rq 3 64) s m args below meth c G A 4 0 0 (MQ below (QK G (some (.int R0)) (u10 G T0 T1 T2 T3 T4 T5 T6 T7 T8 T9 T10 T11 T12 T) A) args s 0 0 A) 4 [(0, .ref T0), (1, .int x1), (2, .int x2), (3, .int x3)] [] (u10 G T0 T1 T2 T3 T4 T5 T6 T7 T8 T9 T10 T11 T12 T) := by
  intro n
  induction n with
  | zero => exact fun _ _ h => (tit_z h).elim
  | succ n ih =>
    intro x2 x3 h
    replace h : m10_mayOnes_B4 T x1 (tit (m10_mayOnes_L4 T x1) n) x2 x3 = some R0 := h
    unfold m10_mayOnes_B4 at h
    refine go_iload_n C dX10_mayOnes_4 3 rfl ?_
    refine go_bipush (v := 13) C dX10_mayOnes_5 rfl ?_
    refine go_icmp_ge (tgt := 37) C h dX10_mayOnes_7 rfl (fun h => ?_) (fun h => ?_)
    · refine go_iload_n C dX10_mayOnes_37 2 rfl ?_
      cases h
      exact go_iret C dX10_mayOnes_38 rfl rfl
    · refine go_iload_n C dX10_mayOnes_10 2 rfl ?_
      refine go_aload_n C dX10_mayOnes_11 0 rfl ?_
      refine go_iload_n C dX10_mayOnes_12 1 rfl ?_
      refine go_iload_n C dX10_mayOnes_13 3 rfl ?_
      obtain ⟨r1, k2, h⟩ := tbd_e h
      refine go_callV (q0 := 0) (wr := ([] : va_W)) (w' := u10 G T0 T1 T2 T3 T4 T5 T6 T7 T8 T9 T10 T11 T12 T) C cfX10_90 viX10_may (m10_may_k l G T0 T1 T2 T3 T4 T5 T6 T7 T8 T9 T10 T11 T12 T x1 x3 r1 k2) dX10_mayOnes_14 (by decide) ⟨Nat.zero_le _, Nat.zero_le _⟩ rfl rfl (Nat.le_of_ble_eq_true rfl) rfl [0, 1, 2, 3, 4, 5, 6, 7, 8, 9, 10, 11, 12] [] [0, 1, 2, 3, 4, 5, 6, 7, 8, 9, 10, 11, 12] rfl rfl (by decide) rfl ?_
      refine go_if_eq (tgt := 28) C h dX10_mayOnes_17 rfl (fun h => ?_) (fun h => ?_)
      · refine go_iconst (v := 0) C dX10_mayOnes_28 rfl ?_
        exact go_lv [0, 1, 3] rfl (m10_mayOnes_J29_k C T0 T1 T2 T3 T4 T5 T6 T7 T8 T9 T10 T11 T12 T x1 x3 x2 (0 : Int32) R0 _ (fun z0 z1 h => ih z0 z1 h) h)
      · refine go_iconst (v := 1) C dX10_mayOnes_20 rfl ?_
        refine go_iload_n C dX10_mayOnes_21 3 rfl ?_
        refine go_iconst (v := 1) C dX10_mayOnes_22 rfl ?_
        refine go_isub C dX10_mayOnes_23 ?_
        refine go_ishl C dX10_mayOnes_24 ?_
        refine go_goto (tgt := 29) C dX10_mayOnes_25 rfl ?_
        exact go_lv [0, 1, 3] rfl (m10_mayOnes_J29_k C T0 T1 T2 T3 T4 T5 T6 T7 T8 T9 T10 T11 T12 T x1 x3 x2 ((1 : Int32) <<< ((x3 - (1 : Int32)) &&& 31)) R0 _ (fun z0 z1 h => ih z0 z1 h) h)

set_option maxRecDepth 100000 in
set_option maxHeartbeats 4000000 in
theorem m10_mayOnes_k (l : Launch) (G : gG) (T0 T1 T2 T3 T4 T5 T6 T7 T8 T9 T10 T11 T12 : Nat) (T : SX10) (a1 : Int32) (R0 : Int32) (h : m10_mayOnes T a1 = some R0) : KK l G yX10_mayOnes cX10_mayOnes 4 (some .int) 3 64 [.ref T0, .int a1] (u10 G T0 T1 T2 T3 T4 T5 T6 T7 T8 T9 T10 T11 T12 T) (some (.int R0)) (u10 G T0 T1 T2 T3 T4 T5 T6 T7 T8 T9 T10 T11 T12 T) := by
  refine KK_intro (own := RX10) (by decide +kernel) rfl (Nat.le_of_ble_eq_true rfl) rfl ?_
  intro p e s m args below meth c A C
  unfold m10_mayOnes at h
  refine go_iconst (v := 0) C dX10_mayOnes_0 rfl ?_
  refine go_istore_n (lv' := [(2, .int (0 : Int32)), (0, .ref T0), (1, .int a1)]) C dX10_mayOnes_1 (by decide) rfl ?_
  refine go_iconst (v := 1) C dX10_mayOnes_2 rfl ?_
  refine go_istore_n (lv' := [(3, .int (1 : Int32)), (2, .int (0 : Int32)), (0, .ref T0), (1, .int a1)]) C dX10_mayOnes_3 (by decide) rfl ?_
  exact go_lv [2, 3, 1, 0] rfl (m10_mayOnes_L4_k C T0 T1 T2 T3 T4 T5 T6 T7 T8 T9 T10 T11 T12 T a1 R0  FU (0 : Int32) (1 : Int32) h)

set_option maxRecDepth 100000 in
set_option maxHeartbeats 4000000 in
theorem m10_behind_k (l : Launch) (G : gG) (T0 T1 T2 T3 T4 T5 T6 T7 T8 T9 T10 T11 T12 : Nat) (T : SX10) (a1 : Int32) (a2 : Int32) (R0 : Int32 × SX10) (h : m10_behind T a1 a2 = some R0) : KK l G yX10_behind cX10_behind 3 (some .int) 7 155 [.ref T0, .int a1, .int a2] (u10 G T0 T1 T2 T3 T4 T5 T6 T7 T8 T9 T10 T11 T12 T) (some (.int R0.1)) (u10 G T0 T1 T2 T3 T4 T5 T6 T7 T8 T9 T10 T11 T12 R0.2) := by
  refine KK_intro (own := RX10) (by decide +kernel) rfl (Nat.le_of_ble_eq_true rfl) rfl ?_
  intro p e s m args below meth c A C
  unfold m10_behind at h
  refine go_iload_n C dX10_behind_0 1 rfl ?_
  obtain ⟨r1, k2, h⟩ := tbd_e h
  refine go_callS0 C cfX10_76 (wr9 _ (List.mem_of_getElem? (i := 5) rfl)) (m10_isMan_k l G a1 r1 k2) dX10_behind_1 (by decide) ⟨Nat.zero_le _, Nat.zero_le _⟩ rfl rfl (Nat.le_of_ble_eq_true rfl) ?_
  refine go_if_ne (tgt := 9) C h dX10_behind_4 rfl (fun h => ?_) (fun h => ?_)
  · refine go_iload_n C dX10_behind_9 2 rfl ?_
    refine go_iconst (v := 0) C dX10_behind_10 rfl ?_
    refine go_iconst (v := 3) C dX10_behind_11 rfl ?_
    obtain ⟨r3, k4, h⟩ := tbd_e h
    refine go_callS0 C cfX10_48 (wr8 _ (List.mem_of_getElem? (i := 3) rfl)) (m10_in_k l G a2 (0 : Int32) (3 : Int32) r3 k4) dX10_behind_12 (by decide) ⟨Nat.zero_le _, Nat.zero_le _⟩ rfl rfl (Nat.le_of_ble_eq_true rfl) ?_
    refine go_if_ne (tgt := 21) C h dX10_behind_15 rfl (fun h => ?_) (fun h => ?_)
    · refine go_aload_n C dX10_behind_21 0 rfl ?_
      obtain ⟨r5, k6, h⟩ := tbd_e h
      refine go_callV (q0 := 0) (wr := ([] : va_W)) (w' := u10 G T0 T1 T2 T3 T4 T5 T6 T7 T8 T9 T10 T11 T12 r5.2) C cfX10_128 viX10_barOfFires (m10_barOfFires_k l G T0 T1 T2 T3 T4 T5 T6 T7 T8 T9 T10 T11 T12 T r5 k6) dX10_behind_22 (by decide) ⟨Nat.zero_le _, Nat.zero_le _⟩ rfl rfl (Nat.le_of_ble_eq_true rfl) rfl [0, 1, 2, 3, 4, 5, 6, 7, 8, 9, 10, 11, 12] [] [0, 1, 2, 3, 4, 5, 6, 7, 8, 9, 10, 11, 12] rfl rfl (by decide) rfl ?_
      refine go_if_ge (tgt := 31) C h dX10_behind_25 rfl (fun h => ?_) (fun h => ?_)
      · refine go_iload_n C dX10_behind_31 2 rfl ?_
        refine go_if_ne (tgt := 47) C h dX10_behind_32 rfl (fun h => ?_) (fun h => ?_)
        · refine go_iload_n C dX10_behind_47 2 rfl ?_
          refine go_iconst (v := 1) C dX10_behind_48 rfl ?_
          refine go_icmp_ne (tgt := 64) C h dX10_behind_49 rfl (fun h => ?_) (fun h => ?_)
          · refine go_iload_n C dX10_behind_64 2 rfl ?_
            refine go_iconst (v := 2) C dX10_behind_65 rfl ?_
            refine go_icmp_ne (tgt := 77) C h dX10_behind_66 rfl (fun h => ?_) (fun h => ?_)
            · refine go_aload_n C dX10_behind_77 0 rfl ?_
              refine go_get (v := .ref T2) C ffX10_13 dX10_behind_78 0 rfl rfl ?_
              refine go_bipush (v := 44) C dX10_behind_81 rfl ?_
              refine go_iaload (f := (g10_now r5.2)) C dX10_behind_83 2 rfl (by decide) ?_
              refine go_iload_n C dX10_behind_84 1 rfl ?_
              refine go_ishr C dX10_behind_85 ?_
              refine go_iconst (v := 1) C dX10_behind_86 rfl ?_
              refine go_iand C dX10_behind_87 ?_
              cases h
              exact go_iret C dX10_behind_88 rfl rfl
            · refine go_aload_n C dX10_behind_69 0 rfl ?_
              refine go_iload_n C dX10_behind_70 1 rfl ?_
              obtain ⟨r7, k8, h⟩ := tbd_e h
              refine go_callV (q0 := 0) (wr := ([] : va_W)) (w' := u10 G T0 T1 T2 T3 T4 T5 T6 T7 T8 T9 T10 T11 T12 r5.2) C cfX10_131 viX10_mayOnes (m10_mayOnes_k l G T0 T1 T2 T3 T4 T5 T6 T7 T8 T9 T10 T11 T12 r5.2 a1 r7 k8) dX10_behind_71 (by decide) ⟨Nat.zero_le _, Nat.zero_le _⟩ rfl rfl (Nat.le_of_ble_eq_true rfl) rfl [0, 1, 2, 3, 4, 5, 6, 7, 8, 9, 10, 11, 12] [] [0, 1, 2, 3, 4, 5, 6, 7, 8, 9, 10, 11, 12] rfl rfl (by decide) rfl ?_
              refine go_goto (tgt := 88) C dX10_behind_74 rfl ?_
              cases h
              exact go_iret C dX10_behind_88 rfl rfl
          · refine go_aload_n C dX10_behind_52 0 rfl ?_
            refine go_get (v := .ref T2) C ffX10_13 dX10_behind_53 0 rfl rfl ?_
            refine go_bipush (v := 32) C dX10_behind_56 rfl ?_
            refine go_iload_n C dX10_behind_58 1 rfl ?_
            refine go_iadd C dX10_behind_59 ?_
            refine go_ialoadG (f := (g10_now r5.2)) C h dX10_behind_60 2 rfl (fun h => ?_)
            refine go_goto (tgt := 88) C dX10_behind_61 rfl ?_
            cases h
            exact go_iret C dX10_behind_88 rfl rfl
        · refine go_aload_n C dX10_behind_35 0 rfl ?_
          refine go_get (v := .ref T2) C ffX10_13 dX10_behind_36 0 rfl rfl ?_
          refine go_bipush (v := 38) C dX10_behind_39 rfl ?_
          refine go_iload_n C dX10_behind_41 1 rfl ?_
          refine go_iadd C dX10_behind_42 ?_
          refine go_ialoadG (f := (g10_now r5.2)) C h dX10_behind_43 2 rfl (fun h => ?_)
          refine go_goto (tgt := 88) C dX10_behind_44 rfl ?_
          cases h
          exact go_iret C dX10_behind_88 rfl rfl
      · refine go_bipush (v := -5) C dX10_behind_28 rfl ?_
        cases h
        exact go_iret C dX10_behind_30 rfl rfl
    · refine go_bipush (v := -2) C dX10_behind_18 rfl ?_
      cases h
      exact go_iret C dX10_behind_20 rfl rfl
  · refine go_iconst (v := -1) C dX10_behind_7 rfl ?_
    cases h
    exact go_iret C dX10_behind_8 rfl rfl

set_option maxRecDepth 100000 in
set_option maxHeartbeats 4000000 in
theorem m10_bears_k (l : Launch) (G : gG) (T0 T1 T2 T3 T4 T5 T6 T7 T8 T9 T10 T11 T12 : Nat) (T : SX10) (a1 : Int32) (a2 : Int32) (R0 : Int32 × SX10) (h : m10_bears T a1 a2 = some R0) : KK l G yX10_bears cX10_bears 3 (some .int) 7 155 [.ref T0, .int a1, .int a2] (u10 G T0 T1 T2 T3 T4 T5 T6 T7 T8 T9 T10 T11 T12 T) (some (.int R0.1)) (u10 G T0 T1 T2 T3 T4 T5 T6 T7 T8 T9 T10 T11 T12 R0.2) := by
  refine KK_intro (own := RX10) (by decide +kernel) rfl (Nat.le_of_ble_eq_true rfl) rfl ?_
  intro p e s m args below meth c A C
  unfold m10_bears at h
  refine go_iload_n C dX10_bears_0 1 rfl ?_
  obtain ⟨r1, k2, h⟩ := tbd_e h
  refine go_callS0 C cfX10_73 (wr8 _ (List.mem_of_getElem? (i := 0) rfl)) (m10_isRung_k l G a1 r1 k2) dX10_bears_1 (by decide) ⟨Nat.zero_le _, Nat.zero_le _⟩ rfl rfl (Nat.le_of_ble_eq_true rfl) ?_
  refine go_if_ne (tgt := 9) C h dX10_bears_4 rfl (fun h => ?_) (fun h => ?_)
  · refine go_iload_n C dX10_bears_9 2 rfl ?_
    refine go_iconst (v := 0) C dX10_bears_10 rfl ?_
    refine go_iconst (v := 3) C dX10_bears_11 rfl ?_
    obtain ⟨r3, k4, h⟩ := tbd_e h
    refine go_callS0 C cfX10_48 (wr8 _ (List.mem_of_getElem? (i := 3) rfl)) (m10_in_k l G a2 (0 : Int32) (3 : Int32) r3 k4) dX10_bears_12 (by decide) ⟨Nat.zero_le _, Nat.zero_le _⟩ rfl rfl (Nat.le_of_ble_eq_true rfl) ?_
    refine go_if_ne (tgt := 21) C h dX10_bears_15 rfl (fun h => ?_) (fun h => ?_)
    · refine go_aload_n C dX10_bears_21 0 rfl ?_
      obtain ⟨r5, k6, h⟩ := tbd_e h
      refine go_callV (q0 := 0) (wr := ([] : va_W)) (w' := u10 G T0 T1 T2 T3 T4 T5 T6 T7 T8 T9 T10 T11 T12 r5.2) C cfX10_128 viX10_barOfFires (m10_barOfFires_k l G T0 T1 T2 T3 T4 T5 T6 T7 T8 T9 T10 T11 T12 T r5 k6) dX10_bears_22 (by decide) ⟨Nat.zero_le _, Nat.zero_le _⟩ rfl rfl (Nat.le_of_ble_eq_true rfl) rfl [0, 1, 2, 3, 4, 5, 6, 7, 8, 9, 10, 11, 12] [] [0, 1, 2, 3, 4, 5, 6, 7, 8, 9, 10, 11, 12] rfl rfl (by decide) rfl ?_
      refine go_if_ge (tgt := 31) C h dX10_bears_25 rfl (fun h => ?_) (fun h => ?_)
      · refine go_iload_n C dX10_bears_31 2 rfl ?_
        refine go_if_ne (tgt := 44) C h dX10_bears_32 rfl (fun h => ?_) (fun h => ?_)
        · refine go_iload_n C dX10_bears_44 2 rfl ?_
          refine go_iconst (v := 1) C dX10_bears_45 rfl ?_
          refine go_icmp_ne (tgt := 61) C h dX10_bears_46 rfl (fun h => ?_) (fun h => ?_)
          · refine go_iload_n C dX10_bears_61 2 rfl ?_
            refine go_iconst (v := 2) C dX10_bears_62 rfl ?_
            refine go_icmp_ne (tgt := 74) C h dX10_bears_63 rfl (fun h => ?_) (fun h => ?_)
            · refine go_aload_n C dX10_bears_74 0 rfl ?_
              refine go_get (v := .ref T2) C ffX10_13 dX10_bears_75 0 rfl rfl ?_
              refine go_bipush (v := 45) C dX10_bears_78 rfl ?_
              refine go_iaload (f := (g10_now r5.2)) C dX10_bears_80 2 rfl (by decide) ?_
              refine go_iload_n C dX10_bears_81 1 rfl ?_
              refine go_ishr C dX10_bears_82 ?_
              refine go_iconst (v := 1) C dX10_bears_83 rfl ?_
              refine go_iand C dX10_bears_84 ?_
              cases h
              exact go_iret C dX10_bears_85 rfl rfl
            · refine go_aload_n C dX10_bears_66 0 rfl ?_
              refine go_iload_n C dX10_bears_67 1 rfl ?_
              obtain ⟨r7, k8, h⟩ := tbd_e h
              refine go_callV (q0 := 0) (wr := ([] : va_W)) (w' := u10 G T0 T1 T2 T3 T4 T5 T6 T7 T8 T9 T10 T11 T12 r5.2) C cfX10_93 viX10_standing (m10_standing_k l G T0 T1 T2 T3 T4 T5 T6 T7 T8 T9 T10 T11 T12 r5.2 a1 r7 k8) dX10_bears_68 (by decide) ⟨Nat.zero_le _, Nat.zero_le _⟩ rfl rfl (Nat.le_of_ble_eq_true rfl) rfl [0, 1, 2, 3, 4, 5, 6, 7, 8, 9, 10, 11, 12] [] [0, 1, 2, 3, 4, 5, 6, 7, 8, 9, 10, 11, 12] rfl rfl (by decide) rfl ?_
              refine go_goto (tgt := 85) C dX10_bears_71 rfl ?_
              cases h
              exact go_iret C dX10_bears_85 rfl rfl
          · refine go_aload_n C dX10_bears_49 0 rfl ?_
            refine go_get (v := .ref T2) C ffX10_13 dX10_bears_50 0 rfl rfl ?_
            refine go_bipush (v := 13) C dX10_bears_53 rfl ?_
            refine go_iload_n C dX10_bears_55 1 rfl ?_
            refine go_iadd C dX10_bears_56 ?_
            refine go_ialoadG (f := (g10_now r5.2)) C h dX10_bears_57 2 rfl (fun h => ?_)
            refine go_goto (tgt := 85) C dX10_bears_58 rfl ?_
            cases h
            exact go_iret C dX10_bears_85 rfl rfl
        · refine go_aload_n C dX10_bears_35 0 rfl ?_
          refine go_get (v := .ref T2) C ffX10_13 dX10_bears_36 0 rfl rfl ?_
          refine go_iload_n C dX10_bears_39 1 rfl ?_
          refine go_ialoadG (f := (g10_now r5.2)) C h dX10_bears_40 2 rfl (fun h => ?_)
          refine go_goto (tgt := 85) C dX10_bears_41 rfl ?_
          cases h
          exact go_iret C dX10_bears_85 rfl rfl
      · refine go_bipush (v := -5) C dX10_bears_28 rfl ?_
        cases h
        exact go_iret C dX10_bears_30 rfl rfl
    · refine go_bipush (v := -2) C dX10_bears_18 rfl ?_
      cases h
      exact go_iret C dX10_bears_20 rfl rfl
  · refine go_iconst (v := -1) C dX10_bears_7 rfl ?_
    cases h
    exact go_iret C dX10_bears_8 rfl rfl

set_option maxRecDepth 100000 in
set_option maxHeartbeats 4000000 in
theorem m10_then_k (l : Launch) (G : gG) (T0 T1 T2 T3 T4 T5 T6 T7 T8 T9 T10 T11 T12 : Nat) (T : SX10) (a1 : Int32) (R0 : Int32 × SX10) (h : m10_then T a1 = some R0) : KK l G yX10_then cX10_then 2 (some .int) 7 155 [.ref T0, .int a1] (u10 G T0 T1 T2 T3 T4 T5 T6 T7 T8 T9 T10 T11 T12 T) (some (.int R0.1)) (u10 G T0 T1 T2 T3 T4 T5 T6 T7 T8 T9 T10 T11 T12 R0.2) := by
  refine KK_intro (own := RX10) (by decide +kernel) rfl (Nat.le_of_ble_eq_true rfl) rfl ?_
  intro p e s m args below meth c A C
  unfold m10_then at h
  refine go_iload_n C dX10_then_0 1 rfl ?_
  refine go_iconst (v := 0) C dX10_then_1 rfl ?_
  refine go_iconst (v := 5) C dX10_then_2 rfl ?_
  obtain ⟨r1, k2, h⟩ := tbd_e h
  refine go_callS0 C cfX10_48 (wr8 _ (List.mem_of_getElem? (i := 3) rfl)) (m10_in_k l G a1 (0 : Int32) (5 : Int32) r1 k2) dX10_then_3 (by decide) ⟨Nat.zero_le _, Nat.zero_le _⟩ rfl rfl (Nat.le_of_ble_eq_true rfl) ?_
  refine go_if_ne (tgt := 12) C h dX10_then_6 rfl (fun h => ?_) (fun h => ?_)
  · refine go_aload_n C dX10_then_12 0 rfl ?_
    obtain ⟨r3, k4, h⟩ := tbd_e h
    refine go_callV (q0 := 0) (wr := ([] : va_W)) (w' := u10 G T0 T1 T2 T3 T4 T5 T6 T7 T8 T9 T10 T11 T12 r3.2) C cfX10_128 viX10_barOfFires (m10_barOfFires_k l G T0 T1 T2 T3 T4 T5 T6 T7 T8 T9 T10 T11 T12 T r3 k4) dX10_then_13 (by decide) ⟨Nat.zero_le _, Nat.zero_le _⟩ rfl rfl (Nat.le_of_ble_eq_true rfl) rfl [0, 1, 2, 3, 4, 5, 6, 7, 8, 9, 10, 11, 12] [] [0, 1, 2, 3, 4, 5, 6, 7, 8, 9, 10, 11, 12] rfl rfl (by decide) rfl ?_
    refine go_if_ge (tgt := 22) C h dX10_then_16 rfl (fun h => ?_) (fun h => ?_)
    · refine go_iload_n C dX10_then_22 1 rfl ?_
      refine go_ite h (fun q h => ?_) (fun q0 h => ?_)
      · refine go_tabIn (off := 29) (tgt := 52) C dX10_then_23 q (by decide) (by decide) rfl ?_
        refine go_aload_n C dX10_then_52 0 rfl ?_
        refine go_get (v := .ref T2) C ffX10_13 dX10_then_53 0 rfl rfl ?_
        refine go_bipush (v := 46) C dX10_then_56 rfl ?_
        refine go_iaload (f := (g10_now r3.2)) C dX10_then_58 2 rfl (by decide) ?_
        cases h
        exact go_iret C dX10_then_59 rfl rfl
      refine go_ite h (fun q h => ?_) (fun q1 h => ?_)
      · refine go_tabIn (off := 37) (tgt := 60) C dX10_then_23 q (by decide) (by decide) rfl ?_
        refine go_aload_n C dX10_then_60 0 rfl ?_
        obtain ⟨r5, k6, h⟩ := tbd_e h
        refine go_callV (q0 := 0) (wr := ([] : va_W)) (w' := u10 G T0 T1 T2 T3 T4 T5 T6 T7 T8 T9 T10 T11 T12 r3.2) C cfX10_116 viX10_roof (m10_roof_k l G T0 T1 T2 T3 T4 T5 T6 T7 T8 T9 T10 T11 T12 r3.2 r5 k6) dX10_then_61 (by decide) ⟨Nat.zero_le _, Nat.zero_le _⟩ rfl rfl (Nat.le_of_ble_eq_true rfl) rfl [0, 1, 2, 3, 4, 5, 6, 7, 8, 9, 10, 11, 12] [] [0, 1, 2, 3, 4, 5, 6, 7, 8, 9, 10, 11, 12] rfl rfl (by decide) rfl ?_
        cases h
        exact go_iret C dX10_then_64 rfl rfl
      refine go_ite h (fun q h => ?_) (fun q2 h => ?_)
      · refine go_tabIn (off := 42) (tgt := 65) C dX10_then_23 q (by decide) (by decide) rfl ?_
        refine go_aload_n C dX10_then_65 0 rfl ?_
        refine go_get (v := .int (g10_steps r3.2)) C ffX10_52 dX10_then_66 0 rfl rfl ?_
        cases h
        exact go_iret C dX10_then_69 rfl rfl
      refine go_ite h (fun q h => ?_) (fun q3 h => ?_)
      · refine go_tabIn (off := 47) (tgt := 70) C dX10_then_23 q (by decide) (by decide) rfl ?_
        refine go_aload_n C dX10_then_70 0 rfl ?_
        refine go_get (v := .int (g10_paid r3.2)) C ffX10_56 dX10_then_71 0 rfl rfl ?_
        cases h
        exact go_iret C dX10_then_74 rfl rfl
      refine go_tabOut (tgt := 75) C dX10_then_23 (by have a0 := lv_neT (a := 0) q0 rfl; have a1 := lv_neT (a := 1) q1 rfl; have a2 := lv_neT (a := 2) q2 rfl; have a3 := lv_neT (a := 3) q3 rfl; omega) rfl ?_
      refine go_iload_n C dX10_then_75 1 rfl ?_
      refine go_iconst (v := 4) C dX10_then_76 rfl ?_
      refine go_icmp_ne (tgt := 87) C h dX10_then_77 rfl (fun h => ?_) (fun h => ?_)
      · refine go_aload_n C dX10_then_87 0 rfl ?_
        refine go_get (v := .int (g10_roofWho r3.2)) C ffX10_62 dX10_then_88 0 rfl rfl ?_
        cases h
        exact go_iret C dX10_then_91 rfl rfl
      · refine go_aload_n C dX10_then_80 0 rfl ?_
        refine go_get (v := .int (g10_roofAt r3.2)) C ffX10_59 dX10_then_81 0 rfl rfl ?_
        refine go_goto (tgt := 91) C dX10_then_84 rfl ?_
        cases h
        exact go_iret C dX10_then_91 rfl rfl
    · refine go_bipush (v := -5) C dX10_then_19 rfl ?_
      cases h
      exact go_iret C dX10_then_21 rfl rfl
  · refine go_bipush (v := -2) C dX10_then_9 rfl ?_
    cases h
    exact go_iret C dX10_then_11 rfl rfl

set_option maxRecDepth 100000 in
set_option maxHeartbeats 4000000 in
theorem m10_layClimb_J139_k {p : Program} {l : Launch} {e : Env} {s : State} {m : MethodId} {args : Array Value} {below : List Frame} {meth : Method} {c : Code} {G : gG} {A : Nat → Prop} (C : Cx p e s m args meth c G RX10 cX10_layClimb 5 none A) (T0 T1 T2 T3 T4 T5 T6 T7 T8 T9 T10 T11 T12 : Nat) (T : SX10) (x1 : Int32) (x2 : Int32) (x3 : Int32) (x4 : Int32) (y1 : Int32) (y2 : Int32) (R0 : SX10) (rc3 : Int32 × SX10 → Option (SX10)) (hr3 : ∀ (x3 : Int32) (Tz : SX10), rc3 (x3, Tz) = some R0 → Gq p l e (rq 3 64) s m args below meth c G A 5 0 0 (MQ below (QK G none (u10 G T0 T1 T2 T3 T4 T5 T6 T7 T8 T9 T10 T11 T12 R0) A) args s 0 0 A) 3 [(0, .ref T0), (1, .int x1), (2, .int x2), (3, .int x3)] [] (u10 G T0 T1 T2 T3 T4 T5 T6 T7 T8 T9 T10 T11 T12 Tz)) (rc47 : Int32 × SX10 → Option (SX10)) (hr47 : ∀ (x4 : Int32) (Tz : SX10), rc47 (x4, Tz) = some R0 → Gq p l e (rq 3 64) s m args below meth c G A 5 0 0 (MQ below (QK G none (u10 G T0 T1 T2 T3 T4 T5 T6 T7 T8 T9 T10 T11 T12 R0) A) args s 0 0 A) 47 [(0, .ref T0), (1, .int x1), (2, .int x2), (3, .int x3), (4, .int x4)] [] (u10 G T0 T1 T2 T3 T4 T5 T6 T7 T8 T9 T10 T11 T12 Tz)) (h : m10_layClimb_J139 T x1 x2 x3 x4 y1 y2 rc3 rc47 = some R0) : Gq p l e (rq 3 64) s m args below meth c G A 5 0 0 (MQ below (QK G none (u10 G T0 T1 T2 T3 T4 T5 T6 T7 T8 T9 T10 T11 T12 R0) A) args s 0 0 A) 139 [(0, .ref T0), (1, .int x1), (2, .int x2), (3, .int x3), (4, .int x4)] [.int y2, .int y1, .ref T5] (u10 G T0 T1 T2 T3 T4 T5 T6 T7 T8 T9 T10 T11 T12 T) := by
  unfold m10_layClimb_J139 at h
  refine go_iastoreG (f := (g10_few T)) (w' := u10 G T0 T1 T2 T3 T4 T5 T6 T7 T8 T9 T10 T11 T12 (s10_few T (upd (g10_few T) (Int32.toNatClampNeg y1) y2))) C h dX10_layClimb_139 5 rfl z10_few (fun h => ?_)
  refine go_aload_n C dX10_layClimb_140 0 rfl ?_
  refine go_get (v := .ref T6) C ffX10_25 dX10_layClimb_141 0 rfl rfl ?_
  refine go_iload_n C dX10_layClimb_144 3 rfl ?_
  refine go_dup2 C dX10_layClimb_145 rfl rfl ?_
  refine go_ialoadG (f := (g10_rows T)) C h dX10_layClimb_146 6 rfl (fun h => ?_)
  refine go_aload_n C dX10_layClimb_147 0 rfl ?_
  refine go_get (v := .ref T6) C ffX10_25 dX10_layClimb_148 0 rfl rfl ?_
  refine go_iload C dX10_layClimb_151 4 rfl ?_
  refine go_ialoadG (f := (g10_rows T)) C h dX10_layClimb_153 6 rfl (fun h => ?_)
  refine go_iadd C dX10_layClimb_154 ?_
  refine go_iastoreG (f := (g10_rows T)) (w' := u10 G T0 T1 T2 T3 T4 T5 T6 T7 T8 T9 T10 T11 T12 (s10_rows (s10_few T (upd (g10_few T) (Int32.toNatClampNeg y1) y2)) (upd (g10_rows T) (Int32.toNatClampNeg x3) (((g10_rows T) (Int32.toNatClampNeg x3)) + ((g10_rows T) (Int32.toNatClampNeg x4)))))) C h dX10_layClimb_155 6 rfl z10_rows (fun h => ?_)
  refine go_iincN (lf := fun v4 => [(4, .int v4), (0, .ref T0), (1, .int x1), (2, .int x2), (3, .int x3)]) C h dX10_layClimb_156 4 rfl rfl (by decide) (fun _ => rfl) (fun v4 h => ?_)
  refine go_goto (tgt := 47) C dX10_layClimb_159 rfl ?_
  exact go_lv [1, 2, 3, 4, 0] rfl (hr47 v4 (s10_rows (s10_few T (upd (g10_few T) (Int32.toNatClampNeg y1) y2)) (upd (g10_rows T) (Int32.toNatClampNeg x3) (((g10_rows T) (Int32.toNatClampNeg x3)) + ((g10_rows T) (Int32.toNatClampNeg x4))))) h)

set_option maxRecDepth 100000 in
set_option maxHeartbeats 4000000 in
theorem m10_layClimb_J98_k {p : Program} {l : Launch} {e : Env} {s : State} {m : MethodId} {args : Array Value} {below : List Frame} {meth : Method} {c : Code} {G : gG} {A : Nat → Prop} (C : Cx p e s m args meth c G RX10 cX10_layClimb 5 none A) (T0 T1 T2 T3 T4 T5 T6 T7 T8 T9 T10 T11 T12 : Nat) (T : SX10) (x1 : Int32) (x2 : Int32) (x3 : Int32) (x4 : Int32) (R0 : SX10) (rc3 : Int32 × SX10 → Option (SX10)) (hr3 : ∀ (x3 : Int32) (Tz : SX10), rc3 (x3, Tz) = some R0 → Gq p l e (rq 3 64) s m args below meth c G A 5 0 0 (MQ below (QK G none (u10 G T0 T1 T2 T3 T4 T5 T6 T7 T8 T9 T10 T11 T12 R0) A) args s 0 0 A) 3 [(0, .ref T0), (1, .int x1), (2, .int x2), (3, .int x3)] [] (u10 G T0 T1 T2 T3 T4 T5 T6 T7 T8 T9 T10 T11 T12 Tz)) (rc47 : Int32 × SX10 → Option (SX10)) (hr47 : ∀ (x4 : Int32) (Tz : SX10), rc47 (x4, Tz) = some R0 → Gq p l e (rq 3 64) s m args below meth c G A 5 0 0 (MQ below (QK G none (u10 G T0 T1 T2 T3 T4 T5 T6 T7 T8 T9 T10 T11 T12 R0) A) args s 0 0 A) 47 [(0, .ref T0), (1, .int x1), (2, .int x2), (3, .int x3), (4, .int x4)] [] (u10 G T0 T1 T2 T3 T4 T5 T6 T7 T8 T9 T10 T11 T12 Tz)) (h : m10_layClimb_J98 T x1 x2 x3 x4 rc3 rc47 = some R0) : Gq p l e (rq 3 64) s m args below meth c G A 5 0 0 (MQ below (QK G none (u10 G T0 T1 T2 T3 T4 T5 T6 T7 T8 T9 T10 T11 T12 R0) A) args s 0 0 A) 98 [(0, .ref T0), (1, .int x1), (2, .int x2), (3, .int x3), (4, .int x4)] [] (u10 G T0 T1 T2 T3 T4 T5 T6 T7 T8 T9 T10 T11 T12 T) := by
  unfold m10_layClimb_J98 at h
  refine go_aload_n C dX10_layClimb_98 0 rfl ?_
  refine go_get (v := .ref T5) C ffX10_22 dX10_layClimb_99 0 rfl rfl ?_
  refine go_iload_n C dX10_layClimb_102 3 rfl ?_
  refine go_aload_n C dX10_layClimb_103 0 rfl ?_
  refine go_get (v := .ref T5) C ffX10_22 dX10_layClimb_104 0 rfl rfl ?_
  refine go_iload C dX10_layClimb_107 4 rfl ?_
  refine go_ialoadG (f := (g10_few T)) C h dX10_layClimb_109 5 rfl (fun h => ?_)
  refine go_iconst (v := 1) C dX10_layClimb_110 rfl ?_
  refine go_iadd C dX10_layClimb_111 ?_
  refine go_aload_n C dX10_layClimb_112 0 rfl ?_
  refine go_get (v := .ref T5) C ffX10_22 dX10_layClimb_113 0 rfl rfl ?_
  refine go_iload_n C dX10_layClimb_116 3 rfl ?_
  refine go_ialoadG (f := (g10_few T)) C h dX10_layClimb_117 5 rfl (fun h => ?_)
  refine go_icmp_ge (tgt := 133) C h dX10_layClimb_118 rfl (fun h => ?_) (fun h => ?_)
  · refine go_aload_n C dX10_layClimb_133 0 rfl ?_
    refine go_get (v := .ref T5) C ffX10_22 dX10_layClimb_134 0 rfl rfl ?_
    refine go_iload_n C dX10_layClimb_137 3 rfl ?_
    refine go_ialoadG (f := (g10_few T)) C h dX10_layClimb_138 5 rfl (fun h => ?_)
    exact go_lv [0, 1, 2, 3, 4] rfl (m10_layClimb_J139_k C T0 T1 T2 T3 T4 T5 T6 T7 T8 T9 T10 T11 T12 T x1 x2 x3 x4 x3 ((g10_few T) (Int32.toNatClampNeg x3)) R0 rc3 hr3 rc47 hr47 h)
  · refine go_aload_n C dX10_layClimb_121 0 rfl ?_
    refine go_get (v := .ref T5) C ffX10_22 dX10_layClimb_122 0 rfl rfl ?_
    refine go_iload C dX10_layClimb_125 4 rfl ?_
    refine go_ialoadG (f := (g10_few T)) C h dX10_layClimb_127 5 rfl (fun h => ?_)
    refine go_iconst (v := 1) C dX10_layClimb_128 rfl ?_
    refine go_iadd C dX10_layClimb_129 ?_
    refine go_goto (tgt := 139) C dX10_layClimb_130 rfl ?_
    exact go_lv [0, 1, 2, 3, 4] rfl (m10_layClimb_J139_k C T0 T1 T2 T3 T4 T5 T6 T7 T8 T9 T10 T11 T12 T x1 x2 x3 x4 x3 (((g10_few T) (Int32.toNatClampNeg x4)) + (1 : Int32)) R0 rc3 hr3 rc47 hr47 h)

set_option maxRecDepth 100000 in
set_option maxHeartbeats 4000000 in
theorem m10_layClimb_L47_k {p : Program} {l : Launch} {e : Env} {s : State} {m : MethodId} {args : Array Value} {below : List Frame} {meth : Method} {c : Code} {G : gG} {A : Nat → Prop} (C : Cx p e s m args meth c G RX10 cX10_layClimb 5 none A) (T0 T1 T2 T3 T4 T5 T6 T7 T8 T9 T10 T11 T12 : Nat) (x1 : Int32) (x2 : Int32) (x3 : Int32) (R0 : SX10) (rc3 : Int32 × SX10 → Option (SX10)) (hr3 : ∀ (x3 : Int32) (Tz : SX10), rc3 (x3, Tz) = some R0 → Gq p l e (rq 3 64) s m args below meth c G A 5 0 0 (MQ below (QK G none (u10 G T0 T1 T2 T3 T4 T5 T6 T7 T8 T9 T10 T11 T12 R0) A) args s 0 0 A) 3 [(0, .ref T0), (1, .int x1), (2, .int x2), (3, .int x3)] [] (u10 G T0 T1 T2 T3 T4 T5 T6 T7 T8 T9 T10 T11 T12 Tz)) : ∀ (n : Nat) (x4 : Int32) (T : SX10), tit (m10_layClimb_L47 x1 x2 x3 rc3) n (x4, T) = some R0 → Gq p l e (rq 3 64) s m args below meth c G A 5 0 0 (MQ below (QK G none (u10 G T0 T1 T2 T3 T4 T5 T6 T7 T8 T9 T10 T11 T12 R0) A) args s 0 0 A) 47 [(0, .ref T0), (1, .int x1), (2, .int x2), (3, .int x3), (4, .int x4)] [] (u10 G T0 T1 T2 T3 T4 T5 T6 T7 T8 T9 T10 T11 T12 T) := by
  intro n
  induction n with
  | zero => exact fun _ _ h => (tit_z h).elim
  | succ n ih =>
    intro x4 T h
    replace h : m10_layClimb_B47 x1 x2 x3 rc3 (tit (m10_layClimb_L47 x1 x2 x3 rc3) n) x4 T = some R0 := h
    unfold m10_layClimb_B47 at h
    refine go_iload C dX10_layClimb_47 4 rfl ?_
    refine go_iload_n C dX10_layClimb_49 3 rfl ?_
    refine go_aload_n C dX10_layClimb_50 0 rfl ?_
    refine go_get (v := .ref T2) C ffX10_13 dX10_layClimb_51 0 rfl rfl ?_
    refine go_bipush (v := 26) C dX10_layClimb_54 rfl ?_
    refine go_iload_n C dX10_layClimb_56 1 rfl ?_
    refine go_iadd C dX10_layClimb_57 ?_
    refine go_ialoadG (f := (g10_now T)) C h dX10_layClimb_58 2 rfl (fun h => ?_)
    refine go_iadd C dX10_layClimb_59 ?_
    refine go_icmp_gt (tgt := 162) C h dX10_layClimb_60 rfl (fun h => ?_) (fun h => ?_)
    · refine go_iincN (lf := fun v2 => [(3, .int v2), (0, .ref T0), (1, .int x1), (2, .int x2), (4, .int x4)]) C h dX10_layClimb_162 3 rfl rfl (by decide) (fun _ => rfl) (fun v2 h => ?_)
      refine go_goto (tgt := 3) C dX10_layClimb_165 rfl ?_
      exact go_lv [1, 2, 3, 0] rfl (hr3 v2 T h)
    · refine go_iload C dX10_layClimb_63 4 rfl ?_
      refine go_bipush (v := 13) C dX10_layClimb_65 rfl ?_
      refine go_icmp_gt (tgt := 162) C h dX10_layClimb_67 rfl (fun h => ?_) (fun h => ?_)
      · refine go_iincN (lf := fun v3 => [(3, .int v3), (0, .ref T0), (1, .int x1), (2, .int x2), (4, .int x4)]) C h dX10_layClimb_162 3 rfl rfl (by decide) (fun _ => rfl) (fun v3 h => ?_)
        refine go_goto (tgt := 3) C dX10_layClimb_165 rfl ?_
        exact go_lv [1, 2, 3, 0] rfl (hr3 v3 T h)
      · refine go_iload C dX10_layClimb_70 4 rfl ?_
        refine go_bipush (v := 13) C dX10_layClimb_72 rfl ?_
        refine go_icmp_eq (tgt := 98) C h dX10_layClimb_74 rfl (fun h => ?_) (fun h => ?_)
        · exact go_lv [0, 1, 2, 3, 4] rfl (m10_layClimb_J98_k C T0 T1 T2 T3 T4 T5 T6 T7 T8 T9 T10 T11 T12 T x1 x2 x3 x4 R0 rc3 hr3 _ (fun z0 z1 h => ih z0 z1 h) h)
        · refine go_aload_n C dX10_layClimb_77 0 rfl ?_
          refine go_iload_n C dX10_layClimb_78 1 rfl ?_
          refine go_iload C dX10_layClimb_79 4 rfl ?_
          obtain ⟨r5, k6, h⟩ := tbd_e h
          refine go_callV (q0 := 0) (wr := ([] : va_W)) (w' := u10 G T0 T1 T2 T3 T4 T5 T6 T7 T8 T9 T10 T11 T12 T) C cfX10_90 viX10_may (m10_may_k l G T0 T1 T2 T3 T4 T5 T6 T7 T8 T9 T10 T11 T12 T x1 x4 r5 k6) dX10_layClimb_81 (by decide) ⟨Nat.zero_le _, Nat.zero_le _⟩ rfl rfl (Nat.le_of_ble_eq_true rfl) rfl [0, 1, 2, 3, 4, 5, 6, 7, 8, 9, 10, 11, 12] [] [0, 1, 2, 3, 4, 5, 6, 7, 8, 9, 10, 11, 12] rfl rfl (by decide) rfl ?_
          refine go_if_ne (tgt := 98) C h dX10_layClimb_84 rfl (fun h => ?_) (fun h => ?_)
          · exact go_lv [0, 1, 2, 3, 4] rfl (m10_layClimb_J98_k C T0 T1 T2 T3 T4 T5 T6 T7 T8 T9 T10 T11 T12 T x1 x2 x3 x4 R0 rc3 hr3 _ (fun z0 z1 h => ih z0 z1 h) h)
          · refine go_iload_n C dX10_layClimb_87 2 rfl ?_
            refine go_iload C dX10_layClimb_88 4 rfl ?_
            refine go_iconst (v := 1) C dX10_layClimb_90 rfl ?_
            refine go_isub C dX10_layClimb_91 ?_
            obtain ⟨r7, k8, h⟩ := tbd_e h
            refine go_callS0 C cfX10_65 (wr18 _ (List.mem_of_getElem? (i := 23) rfl)) (m10_has_k l G x2 (x4 - (1 : Int32)) r7 k8) dX10_layClimb_92 (by decide) ⟨Nat.zero_le _, Nat.zero_le _⟩ rfl rfl (Nat.le_of_ble_eq_true rfl) ?_
            refine go_if_eq (tgt := 156) C h dX10_layClimb_95 rfl (fun h => ?_) (fun h => ?_)
            · refine go_iincN (lf := fun v9 => [(4, .int v9), (0, .ref T0), (1, .int x1), (2, .int x2), (3, .int x3)]) C h dX10_layClimb_156 4 rfl rfl (by decide) (fun _ => rfl) (fun v9 h => ?_)
              refine go_goto (tgt := 47) C dX10_layClimb_159 rfl ?_
              exact go_lv [1, 2, 3, 4, 0] rfl (ih v9 T h)
            · exact go_lv [0, 1, 2, 3, 4] rfl (m10_layClimb_J98_k C T0 T1 T2 T3 T4 T5 T6 T7 T8 T9 T10 T11 T12 T x1 x2 x3 x4 R0 rc3 hr3 _ (fun z0 z1 h => ih z0 z1 h) h)

set_option maxRecDepth 100000 in
set_option maxHeartbeats 4000000 in
theorem m10_layClimb_J41_k {p : Program} {l : Launch} {e : Env} {s : State} {m : MethodId} {args : Array Value} {below : List Frame} {meth : Method} {c : Code} {G : gG} {A : Nat → Prop} (C : Cx p e s m args meth c G RX10 cX10_layClimb 5 none A) (T0 T1 T2 T3 T4 T5 T6 T7 T8 T9 T10 T11 T12 : Nat) (T : SX10) (x1 : Int32) (x2 : Int32) (x3 : Int32) (y1 : Int32) (y2 : Int32) (R0 : SX10) (rc3 : Int32 × SX10 → Option (SX10)) (hr3 : ∀ (x3 : Int32) (Tz : SX10), rc3 (x3, Tz) = some R0 → Gq p l e (rq 3 64) s m args below meth c G A 5 0 0 (MQ below (QK G none (u10 G T0 T1 T2 T3 T4 T5 T6 T7 T8 T9 T10 T11 T12 R0) A) args s 0 0 A) 3 [(0, .ref T0), (1, .int x1), (2, .int x2), (3, .int x3)] [] (u10 G T0 T1 T2 T3 T4 T5 T6 T7 T8 T9 T10 T11 T12 Tz)) (h : m10_layClimb_J41 T x1 x2 x3 y1 y2 rc3 = some R0) : Gq p l e (rq 3 64) s m args below meth c G A 5 0 0 (MQ below (QK G none (u10 G T0 T1 T2 T3 T4 T5 T6 T7 T8 T9 T10 T11 T12 R0) A) args s 0 0 A) 41 [(0, .ref T0), (1, .int x1), (2, .int x2), (3, .int x3)] [.int y2, .int y1, .ref T6] (u10 G T0 T1 T2 T3 T4 T5 T6 T7 T8 T9 T10 T11 T12 T) := by
  unfold m10_layClimb_J41 at h
  refine go_iastoreG (f := (g10_rows T)) (w' := u10 G T0 T1 T2 T3 T4 T5 T6 T7 T8 T9 T10 T11 T12 (s10_rows T (upd (g10_rows T) (Int32.toNatClampNeg y1) y2))) C h dX10_layClimb_41 6 rfl z10_rows (fun h => ?_)
  refine go_iload_n C dX10_layClimb_42 3 rfl ?_
  refine go_iconst (v := 1) C dX10_layClimb_43 rfl ?_
  refine go_iadd C dX10_layClimb_44 ?_
  refine go_istoreN (lf := fun v1 => [(4, .int v1), (0, .ref T0), (1, .int x1), (2, .int x2), (3, .int x3)]) C h dX10_layClimb_45 (by decide) (fun _ => rfl) (fun v1 h => ?_)
  exact go_lv [1, 2, 3, 4, 0] rfl (m10_layClimb_L47_k C T0 T1 T2 T3 T4 T5 T6 T7 T8 T9 T10 T11 T12 x1 x2 x3 R0 rc3 hr3 FU v1 (s10_rows T (upd (g10_rows T) (Int32.toNatClampNeg y1) y2)) h)

set_option maxRecDepth 100000 in
set_option maxHeartbeats 4000000 in
theorem m10_layClimb_J24_k {p : Program} {l : Launch} {e : Env} {s : State} {m : MethodId} {args : Array Value} {below : List Frame} {meth : Method} {c : Code} {G : gG} {A : Nat → Prop} (C : Cx p e s m args meth c G RX10 cX10_layClimb 5 none A) (T0 T1 T2 T3 T4 T5 T6 T7 T8 T9 T10 T11 T12 : Nat) (T : SX10) (x1 : Int32) (x2 : Int32) (x3 : Int32) (y1 : Int32) (y2 : Int32) (R0 : SX10) (rc3 : Int32 × SX10 → Option (SX10)) (hr3 : ∀ (x3 : Int32) (Tz : SX10), rc3 (x3, Tz) = some R0 → Gq p l e (rq 3 64) s m args below meth c G A 5 0 0 (MQ below (QK G none (u10 G T0 T1 T2 T3 T4 T5 T6 T7 T8 T9 T10 T11 T12 R0) A) args s 0 0 A) 3 [(0, .ref T0), (1, .int x1), (2, .int x2), (3, .int x3)] [] (u10 G T0 T1 T2 T3 T4 T5 T6 T7 T8 T9 T10 T11 T12 Tz)) (h : m10_layClimb_J24 T x1 x2 x3 y1 y2 rc3 = some R0) : Gq p l e (rq 3 64) s m args below meth c G A 5 0 0 (MQ below (QK G none (u10 G T0 T1 T2 T3 T4 T5 T6 T7 T8 T9 T10 T11 T12 R0) A) args s 0 0 A) 24 [(0, .ref T0), (1, .int x1), (2, .int x2), (3, .int x3)] [.int y2, .int y1, .ref T5] (u10 G T0 T1 T2 T3 T4 T5 T6 T7 T8 T9 T10 T11 T12 T) := by
  unfold m10_layClimb_J24 at h
  refine go_iastoreG (f := (g10_few T)) (w' := u10 G T0 T1 T2 T3 T4 T5 T6 T7 T8 T9 T10 T11 T12 (s10_few T (upd (g10_few T) (Int32.toNatClampNeg y1) y2))) C h dX10_layClimb_24 5 rfl z10_few (fun h => ?_)
  refine go_aload_n C dX10_layClimb_25 0 rfl ?_
  refine go_get (v := .ref T6) C ffX10_25 dX10_layClimb_26 0 rfl rfl ?_
  refine go_iload_n C dX10_layClimb_29 3 rfl ?_
  refine go_iload_n C dX10_layClimb_30 3 rfl ?_
  refine go_bipush (v := 13) C dX10_layClimb_31 rfl ?_
  refine go_icmp_ne (tgt := 40) C h dX10_layClimb_33 rfl (fun h => ?_) (fun h => ?_)
  · refine go_iconst (v := 0) C dX10_layClimb_40 rfl ?_
    exact go_lv [0, 1, 2, 3] rfl (m10_layClimb_J41_k C T0 T1 T2 T3 T4 T5 T6 T7 T8 T9 T10 T11 T12 (s10_few T (upd (g10_few T) (Int32.toNatClampNeg y1) y2)) x1 x2 x3 x3 (0 : Int32) R0 rc3 hr3 h)
  · refine go_iconst (v := 1) C dX10_layClimb_36 rfl ?_
    refine go_goto (tgt := 41) C dX10_layClimb_37 rfl ?_
    exact go_lv [0, 1, 2, 3] rfl (m10_layClimb_J41_k C T0 T1 T2 T3 T4 T5 T6 T7 T8 T9 T10 T11 T12 (s10_few T (upd (g10_few T) (Int32.toNatClampNeg y1) y2)) x1 x2 x3 x3 (1 : Int32) R0 rc3 hr3 h)

set_option maxRecDepth 100000 in
set_option maxHeartbeats 4000000 in
theorem m10_layClimb_L3_k {p : Program} {l : Launch} {e : Env} {s : State} {m : MethodId} {args : Array Value} {below : List Frame} {meth : Method} {c : Code} {G : gG} {A : Nat → Prop} (C : Cx p e s m args meth c G RX10 cX10_layClimb 5 none A) (T0 T1 T2 T3 T4 T5 T6 T7 T8 T9 T10 T11 T12 : Nat) (x1 : Int32) (x2 : Int32) (R0 : SX10)  : ∀ (n : Nat) (x3 : Int32) (T : SX10), tit (m10_layClimb_L3 x1 x2) n (x3, T) = some R0 → Gq p l e (rq 3 64) s m args below meth c G A 5 0 0 (MQ below (QK G none (u10 G T0 T1 T2 T3 T4 T5 T6 T7 T8 T9 T10 T11 T12 R0) A) args s 0 0 A) 3 [(0, .ref T0), (1, .int x1), (2, .int x2), (3, .int x3)] [] (u10 G T0 T1 T2 T3 T4 T5 T6 T7 T8 T9 T10 T11 T12 T) := by
  intro n
  induction n with
  | zero => exact fun _ _ h => (tit_z h).elim
  | succ n ih =>
    intro x3 T h
    replace h : m10_layClimb_B3 x1 x2 (tit (m10_layClimb_L3 x1 x2) n) x3 T = some R0 := h
    unfold m10_layClimb_B3 at h
    refine go_iload_n C dX10_layClimb_3 3 rfl ?_
    refine go_if_lt (tgt := 168) C h dX10_layClimb_4 rfl (fun h => ?_) (fun h => ?_)
    · cases h
      exact go_vret C dX10_layClimb_168 rfl rfl
    · refine go_aload_n C dX10_layClimb_7 0 rfl ?_
      refine go_get (v := .ref T5) C ffX10_22 dX10_layClimb_8 0 rfl rfl ?_
      refine go_iload_n C dX10_layClimb_11 3 rfl ?_
      refine go_iload_n C dX10_layClimb_12 3 rfl ?_
      refine go_bipush (v := 13) C dX10_layClimb_13 rfl ?_
      refine go_icmp_ne (tgt := 22) C h dX10_layClimb_15 rfl (fun h => ?_) (fun h => ?_)
      · refine go_ldc (v := 1000000) C dX10_layClimb_22 (wr24 _ (List.mem_of_getElem? (i := 8) rfl)) ?_
        exact go_lv [0, 1, 2, 3] rfl (m10_layClimb_J24_k C T0 T1 T2 T3 T4 T5 T6 T7 T8 T9 T10 T11 T12 T x1 x2 x3 x3 (1000000 : Int32) R0 _ (fun z0 z1 h => ih z0 z1 h) h)
      · refine go_iconst (v := 0) C dX10_layClimb_18 rfl ?_
        refine go_goto (tgt := 24) C dX10_layClimb_19 rfl ?_
        exact go_lv [0, 1, 2, 3] rfl (m10_layClimb_J24_k C T0 T1 T2 T3 T4 T5 T6 T7 T8 T9 T10 T11 T12 T x1 x2 x3 x3 (0 : Int32) R0 _ (fun z0 z1 h => ih z0 z1 h) h)

set_option maxRecDepth 100000 in
set_option maxHeartbeats 4000000 in
theorem m10_layClimb_k (l : Launch) (G : gG) (T0 T1 T2 T3 T4 T5 T6 T7 T8 T9 T10 T11 T12 : Nat) (T : SX10) (a1 : Int32) (a2 : Int32) (R0 : SX10) (h : m10_layClimb T a1 a2 = some R0) : KK l G yX10_layClimb cX10_layClimb 5 none 3 64 [.ref T0, .int a1, .int a2] (u10 G T0 T1 T2 T3 T4 T5 T6 T7 T8 T9 T10 T11 T12 T) none (u10 G T0 T1 T2 T3 T4 T5 T6 T7 T8 T9 T10 T11 T12 R0) := by
  refine KK_intro (own := RX10) (by decide +kernel) rfl (Nat.le_of_ble_eq_true rfl) rfl ?_
  intro p e s m args below meth c A C
  unfold m10_layClimb at h
  refine go_bipush (v := 13) C dX10_layClimb_0 rfl ?_
  refine go_istore_n (lv' := [(3, .int (13 : Int32)), (0, .ref T0), (1, .int a1), (2, .int a2)]) C dX10_layClimb_2 (by decide) rfl ?_
  exact go_lv [1, 2, 3, 0] rfl (m10_layClimb_L3_k C T0 T1 T2 T3 T4 T5 T6 T7 T8 T9 T10 T11 T12 a1 a2 R0  FU (13 : Int32) T h)

set_option maxRecDepth 100000 in
set_option maxHeartbeats 4000000 in
theorem m10_climb_J111_k {p : Program} {l : Launch} {e : Env} {s : State} {m : MethodId} {args : Array Value} {below : List Frame} {meth : Method} {c : Code} {G : gG} {A : Nat → Prop} (C : Cx p e s m args meth c G RX10 cX10_climb 5 (some .int) A) (T0 T1 T2 T3 T4 T5 T6 T7 T8 T9 T10 T11 T12 : Nat) (T : SX10) (x1 : Int32) (x3 : Int32) (x4 : Int32) (R0 : Int32 × SX10) (rc71 : Int32 → Option (Int32 × SX10)) (hr71 : ∀ (x4 : Int32), rc71 x4 = some R0 → Gq p l e (rq 4 88) s m args below meth c G A 5 0 0 (MQ below (QK G (some (.int R0.1)) (u10 G T0 T1 T2 T3 T4 T5 T6 T7 T8 T9 T10 T11 T12 R0.2) A) args s 0 0 A) 71 [(0, .ref T0), (1, .int x1), (3, .int x3), (4, .int x4)] [] (u10 G T0 T1 T2 T3 T4 T5 T6 T7 T8 T9 T10 T11 T12 T)) (h : m10_climb_J111 T x1 x3 x4 rc71 = some R0) : Gq p l e (rq 4 88) s m args below meth c G A 5 0 0 (MQ below (QK G (some (.int R0.1)) (u10 G T0 T1 T2 T3 T4 T5 T6 T7 T8 T9 T10 T11 T12 R0.2) A) args s 0 0 A) 111 [(0, .ref T0), (1, .int x1), (3, .int x3), (4, .int x4)] [] (u10 G T0 T1 T2 T3 T4 T5 T6 T7 T8 T9 T10 T11 T12 T) := by
  unfold m10_climb_J111 at h
  refine go_aload_n C dX10_climb_111 0 rfl ?_
  refine go_get (v := .ref T5) C ffX10_22 dX10_climb_112 0 rfl rfl ?_
  refine go_iload C dX10_climb_115 3 rfl ?_
  refine go_ialoadG (f := (g10_few T)) C h dX10_climb_117 5 rfl (fun h => ?_)
  refine go_aload_n C dX10_climb_118 0 rfl ?_
  refine go_get (v := .ref T5) C ffX10_22 dX10_climb_119 0 rfl rfl ?_
  refine go_iload_n C dX10_climb_122 2 rfl ?_
  refine go_ialoadG (f := (g10_few T)) C h dX10_climb_123 5 rfl (fun h => ?_)
  refine go_iconst (v := 1) C dX10_climb_124 rfl ?_
  refine go_isub C dX10_climb_125 ?_
  refine go_icmp_ne (tgt := 132) C h dX10_climb_126 rfl (fun h => ?_) (fun h => ?_)
  · refine go_iincN (lf := fun v11 => [(4, .int v11), (0, .ref T0), (1, .int x1), (3, .int x3)]) C h dX10_climb_132 3 rfl rfl (by decide) (fun _ => rfl) (fun v11 h => ?_)
    refine go_goto (tgt := 71) C dX10_climb_135 rfl ?_
    exact go_lv [1, 2, 3, 0] rfl (hr71 v11 h)
  · refine go_iload C dX10_climb_129 3 rfl ?_
    cases h
    exact go_iret C dX10_climb_131 rfl rfl

set_option maxRecDepth 100000 in
set_option maxHeartbeats 4000000 in
theorem m10_climb_L71_k {p : Program} {l : Launch} {e : Env} {s : State} {m : MethodId} {args : Array Value} {below : List Frame} {meth : Method} {c : Code} {G : gG} {A : Nat → Prop} (C : Cx p e s m args meth c G RX10 cX10_climb 5 (some .int) A) (T0 T1 T2 T3 T4 T5 T6 T7 T8 T9 T10 T11 T12 : Nat) (T : SX10) (x1 : Int32) (x3 : Int32) (R0 : Int32 × SX10)  : ∀ (n : Nat) (x4 : Int32), tit (m10_climb_L71 T x1 x3) n x4 = some R0 → Gq p l e (rq 4 88) s m args below meth c G A 5 0 0 (MQ below (QK G (some (.int R0.1)) (u10 G T0 T1 T2 T3 T4 T5 T6 T7 T8 T9 T10 T11 T12 R0.2) A) args s 0 0 A) 71 [(0, .ref T0), (1, .int x1), (3, .int x3), (4, .int x4)] [] (u10 G T0 T1 T2 T3 T4 T5 T6 T7 T8 T9 T10 T11 T12 T) := by
  intro n
  induction n with
  | zero => exact fun _ h => (tit_z h).elim
  | succ n ih =>
    intro x4 h
    replace h : m10_climb_B71 T x1 x3 (tit (m10_climb_L71 T x1 x3) n) x4 = some R0 := h
    unfold m10_climb_B71 at h
    refine go_iload C dX10_climb_71 3 rfl ?_
    refine go_iload_n C dX10_climb_73 2 rfl ?_
    refine go_aload_n C dX10_climb_74 0 rfl ?_
    refine go_get (v := .ref T2) C ffX10_13 dX10_climb_75 0 rfl rfl ?_
    refine go_bipush (v := 26) C dX10_climb_78 rfl ?_
    refine go_iload_n C dX10_climb_80 1 rfl ?_
    refine go_iadd C dX10_climb_81 ?_
    refine go_ialoadG (f := (g10_now T)) C h dX10_climb_82 2 rfl (fun h => ?_)
    refine go_iadd C dX10_climb_83 ?_
    refine go_icmp_gt (tgt := 138) C h dX10_climb_84 rfl (fun h => ?_) (fun h => ?_)
    · refine go_bipush (v := -6) C dX10_climb_138 rfl ?_
      cases h
      exact go_iret C dX10_climb_140 rfl rfl
    · refine go_iload C dX10_climb_87 3 rfl ?_
      refine go_bipush (v := 13) C dX10_climb_89 rfl ?_
      refine go_icmp_gt (tgt := 138) C h dX10_climb_91 rfl (fun h => ?_) (fun h => ?_)
      · refine go_bipush (v := -6) C dX10_climb_138 rfl ?_
        cases h
        exact go_iret C dX10_climb_140 rfl rfl
      · refine go_iload C dX10_climb_94 3 rfl ?_
        refine go_bipush (v := 13) C dX10_climb_96 rfl ?_
        refine go_icmp_eq (tgt := 111) C h dX10_climb_98 rfl (fun h => ?_) (fun h => ?_)
        · exact go_lv [0, 1, 2, 3] rfl (m10_climb_J111_k C T0 T1 T2 T3 T4 T5 T6 T7 T8 T9 T10 T11 T12 T x1 x3 x4 R0 _ (fun z0 h => ih z0 h) h)
        · refine go_aload_n C dX10_climb_101 0 rfl ?_
          refine go_iload_n C dX10_climb_102 1 rfl ?_
          refine go_iload C dX10_climb_103 3 rfl ?_
          obtain ⟨r12, k13, h⟩ := tbd_e h
          refine go_callV (q0 := 0) (wr := ([] : va_W)) (w' := u10 G T0 T1 T2 T3 T4 T5 T6 T7 T8 T9 T10 T11 T12 T) C cfX10_90 viX10_may (m10_may_k l G T0 T1 T2 T3 T4 T5 T6 T7 T8 T9 T10 T11 T12 T x1 x4 r12 k13) dX10_climb_105 (by decide) ⟨Nat.zero_le _, Nat.zero_le _⟩ rfl rfl (Nat.le_of_ble_eq_true rfl) rfl [0, 1, 2, 3, 4, 5, 6, 7, 8, 9, 10, 11, 12] [] [0, 1, 2, 3, 4, 5, 6, 7, 8, 9, 10, 11, 12] rfl rfl (by decide) rfl ?_
          refine go_if_eq (tgt := 132) C h dX10_climb_108 rfl (fun h => ?_) (fun h => ?_)
          · refine go_iincN (lf := fun v14 => [(4, .int v14), (0, .ref T0), (1, .int x1), (3, .int x3)]) C h dX10_climb_132 3 rfl rfl (by decide) (fun _ => rfl) (fun v14 h => ?_)
            refine go_goto (tgt := 71) C dX10_climb_135 rfl ?_
            exact go_lv [1, 2, 3, 0] rfl (ih v14 h)
          · exact go_lv [0, 1, 2, 3] rfl (m10_climb_J111_k C T0 T1 T2 T3 T4 T5 T6 T7 T8 T9 T10 T11 T12 T x1 x3 x4 R0 _ (fun z0 h => ih z0 h) h)

set_option maxRecDepth 100000 in
set_option maxHeartbeats 4000000 in
theorem m10_climb_k (l : Launch) (G : gG) (T0 T1 T2 T3 T4 T5 T6 T7 T8 T9 T10 T11 T12 : Nat) (T : SX10) (a1 : Int32) (a2 : Int32) (R0 : Int32 × SX10) (h : m10_climb T a1 a2 = some R0) : KK l G yX10_climb cX10_climb 5 (some .int) 4 88 [.ref T0, .int a1, .int a2] (u10 G T0 T1 T2 T3 T4 T5 T6 T7 T8 T9 T10 T11 T12 T) (some (.int R0.1)) (u10 G T0 T1 T2 T3 T4 T5 T6 T7 T8 T9 T10 T11 T12 R0.2) := by
  refine KK_intro (own := RX10) (by decide +kernel) rfl (Nat.le_of_ble_eq_true rfl) rfl ?_
  intro p e s m args below meth c A C
  unfold m10_climb at h
  refine go_iload_n C dX10_climb_0 1 rfl ?_
  obtain ⟨r1, k2, h⟩ := tbd_e h
  refine go_callS0 C cfX10_76 (wr9 _ (List.mem_of_getElem? (i := 5) rfl)) (m10_isMan_k l G a1 r1 k2) dX10_climb_1 (by decide) ⟨Nat.zero_le _, Nat.zero_le _⟩ rfl rfl (Nat.le_of_ble_eq_true rfl) ?_
  refine go_if_ne (tgt := 9) C h dX10_climb_4 rfl (fun h => ?_) (fun h => ?_)
  · refine go_iload_n C dX10_climb_9 2 rfl ?_
    refine go_iconst (v := 0) C dX10_climb_10 rfl ?_
    refine go_iconst (v := 1) C dX10_climb_11 rfl ?_
    obtain ⟨r3, k4, h⟩ := tbd_e h
    refine go_callS0 C cfX10_48 (wr8 _ (List.mem_of_getElem? (i := 3) rfl)) (m10_in_k l G a2 (0 : Int32) (1 : Int32) r3 k4) dX10_climb_12 (by decide) ⟨Nat.zero_le _, Nat.zero_le _⟩ rfl rfl (Nat.le_of_ble_eq_true rfl) ?_
    refine go_if_ne (tgt := 21) C h dX10_climb_15 rfl (fun h => ?_) (fun h => ?_)
    · refine go_aload_n C dX10_climb_21 0 rfl ?_
      obtain ⟨r5, k6, h⟩ := tbd_e h
      refine go_callV (q0 := 0) (wr := ([] : va_W)) (w' := u10 G T0 T1 T2 T3 T4 T5 T6 T7 T8 T9 T10 T11 T12 r5) C cfX10_110 viX10_asNow (m10_asNow_k l G T0 T1 T2 T3 T4 T5 T6 T7 T8 T9 T10 T11 T12 T r5 k6) dX10_climb_22 (by decide) ⟨Nat.zero_le _, Nat.zero_le _⟩ rfl rfl (Nat.le_of_ble_eq_true rfl) rfl [0, 1, 2, 3, 4, 5, 6, 7, 8, 9, 10, 11, 12] [] [0, 1, 2, 3, 4, 5, 6, 7, 8, 9, 10, 11, 12] rfl rfl (by decide) rfl ?_
      refine go_aload_n C dX10_climb_25 0 rfl ?_
      refine go_iload_n C dX10_climb_26 1 rfl ?_
      refine go_iconst (v := 0) C dX10_climb_27 rfl ?_
      obtain ⟨r7, k8, h⟩ := tbd_e h
      refine go_callV (q0 := 0) (wr := ([] : va_W)) (w' := u10 G T0 T1 T2 T3 T4 T5 T6 T7 T8 T9 T10 T11 T12 r7) C cfX10_135 viX10_layClimb (m10_layClimb_k l G T0 T1 T2 T3 T4 T5 T6 T7 T8 T9 T10 T11 T12 r5 a1 (0 : Int32) r7 k8) dX10_climb_28 (by decide) ⟨Nat.zero_le _, Nat.zero_le _⟩ rfl rfl (Nat.le_of_ble_eq_true rfl) rfl [0, 1, 2, 3, 4, 5, 6, 7, 8, 9, 10, 11, 12] [] [0, 1, 2, 3, 4, 5, 6, 7, 8, 9, 10, 11, 12] rfl rfl (by decide) rfl ?_
      refine go_aload_n C dX10_climb_31 0 rfl ?_
      refine go_get (v := .ref T2) C ffX10_13 dX10_climb_32 0 rfl rfl ?_
      refine go_bipush (v := 38) C dX10_climb_35 rfl ?_
      refine go_iload_n C dX10_climb_37 1 rfl ?_
      refine go_iadd C dX10_climb_38 ?_
      refine go_ialoadG (f := (g10_now r7)) C h dX10_climb_39 2 rfl (fun h => ?_)
      refine go_istore_nN (lf := fun v9 => [(3, .int v9), (0, .ref T0), (1, .int a1), (2, .int a2)]) C h dX10_climb_40 (by decide) (fun _ => rfl) (fun v9 h => ?_)
      refine go_aload_n C dX10_climb_41 1 rfl ?_
      refine go_get (v := .ref T5) C ffX10_22 dX10_climb_42 0 rfl rfl ?_
      refine go_iload_n C dX10_climb_45 0 rfl ?_
      refine go_ialoadG (f := (g10_few r7)) C h dX10_climb_46 5 rfl (fun h => ?_)
      refine go_ldc (v := 1000000) C dX10_climb_47 (wr24 _ (List.mem_of_getElem? (i := 8) rfl)) ?_
      refine go_icmp_lt (tgt := 55) C h dX10_climb_49 rfl (fun h => ?_) (fun h => ?_)
      · refine go_iload_n C dX10_climb_55 3 rfl ?_
        refine go_if_ne (tgt := 66) C h dX10_climb_56 rfl (fun h => ?_) (fun h => ?_)
        · refine go_iload_n C dX10_climb_66 0 rfl ?_
          refine go_iconst (v := 1) C dX10_climb_67 rfl ?_
          refine go_iadd C dX10_climb_68 ?_
          refine go_istoreN (lf := fun v10 => [(4, .int v10), (3, .int v9), (0, .ref T0), (1, .int a1), (2, .int a2)]) C h dX10_climb_69 (by decide) (fun _ => rfl) (fun v10 h => ?_)
          exact go_lv [2, 3, 1, 0] rfl (m10_climb_L71_k C T0 T1 T2 T3 T4 T5 T6 T7 T8 T9 T10 T11 T12 r7 a1 v9 R0  FU v10 h)
        · refine go_aload_n C dX10_climb_59 1 rfl ?_
          refine go_get (v := .ref T5) C ffX10_22 dX10_climb_60 0 rfl rfl ?_
          refine go_iload_n C dX10_climb_63 0 rfl ?_
          refine go_ialoadG (f := (g10_few r7)) C h dX10_climb_64 5 rfl (fun h => ?_)
          cases h
          exact go_iret C dX10_climb_65 rfl rfl
      · refine go_bipush (v := -6) C dX10_climb_52 rfl ?_
        cases h
        exact go_iret C dX10_climb_54 rfl rfl
    · refine go_bipush (v := -2) C dX10_climb_18 rfl ?_
      cases h
      exact go_iret C dX10_climb_20 rfl rfl
  · refine go_iconst (v := -1) C dX10_climb_7 rfl ?_
    cases h
    exact go_iret C dX10_climb_8 rfl rfl

set_option maxRecDepth 100000 in
set_option maxHeartbeats 4000000 in
theorem m10_ways_k (l : Launch) (G : gG) (T0 T1 T2 T3 T4 T5 T6 T7 T8 T9 T10 T11 T12 : Nat) (T : SX10) (a1 : Int32) (R0 : Int32 × SX10) (h : m10_ways T a1 = some R0) : KK l G yX10_ways cX10_ways 2 (some .int) 4 88 [.ref T0, .int a1] (u10 G T0 T1 T2 T3 T4 T5 T6 T7 T8 T9 T10 T11 T12 T) (some (.int R0.1)) (u10 G T0 T1 T2 T3 T4 T5 T6 T7 T8 T9 T10 T11 T12 R0.2) := by
  refine KK_intro (own := RX10) (by decide +kernel) rfl (Nat.le_of_ble_eq_true rfl) rfl ?_
  intro p e s m args below meth c A C
  unfold m10_ways at h
  refine go_iload_n C dX10_ways_0 1 rfl ?_
  obtain ⟨r1, k2, h⟩ := tbd_e h
  refine go_callS0 C cfX10_76 (wr9 _ (List.mem_of_getElem? (i := 5) rfl)) (m10_isMan_k l G a1 r1 k2) dX10_ways_1 (by decide) ⟨Nat.zero_le _, Nat.zero_le _⟩ rfl rfl (Nat.le_of_ble_eq_true rfl) ?_
  refine go_if_ne (tgt := 9) C h dX10_ways_4 rfl (fun h => ?_) (fun h => ?_)
  · refine go_aload_n C dX10_ways_9 0 rfl ?_
    obtain ⟨r3, k4, h⟩ := tbd_e h
    refine go_callV (q0 := 0) (wr := ([] : va_W)) (w' := u10 G T0 T1 T2 T3 T4 T5 T6 T7 T8 T9 T10 T11 T12 r3) C cfX10_110 viX10_asNow (m10_asNow_k l G T0 T1 T2 T3 T4 T5 T6 T7 T8 T9 T10 T11 T12 T r3 k4) dX10_ways_10 (by decide) ⟨Nat.zero_le _, Nat.zero_le _⟩ rfl rfl (Nat.le_of_ble_eq_true rfl) rfl [0, 1, 2, 3, 4, 5, 6, 7, 8, 9, 10, 11, 12] [] [0, 1, 2, 3, 4, 5, 6, 7, 8, 9, 10, 11, 12] rfl rfl (by decide) rfl ?_
    refine go_aload_n C dX10_ways_13 0 rfl ?_
    refine go_iload_n C dX10_ways_14 1 rfl ?_
    refine go_iconst (v := 0) C dX10_ways_15 rfl ?_
    obtain ⟨r5, k6, h⟩ := tbd_e h
    refine go_callV (q0 := 0) (wr := ([] : va_W)) (w' := u10 G T0 T1 T2 T3 T4 T5 T6 T7 T8 T9 T10 T11 T12 r5) C cfX10_135 viX10_layClimb (m10_layClimb_k l G T0 T1 T2 T3 T4 T5 T6 T7 T8 T9 T10 T11 T12 r3 a1 (0 : Int32) r5 k6) dX10_ways_16 (by decide) ⟨Nat.zero_le _, Nat.zero_le _⟩ rfl rfl (Nat.le_of_ble_eq_true rfl) rfl [0, 1, 2, 3, 4, 5, 6, 7, 8, 9, 10, 11, 12] [] [0, 1, 2, 3, 4, 5, 6, 7, 8, 9, 10, 11, 12] rfl rfl (by decide) rfl ?_
    refine go_aload_n C dX10_ways_19 0 rfl ?_
    refine go_get (v := .ref T6) C ffX10_25 dX10_ways_20 0 rfl rfl ?_
    refine go_aload_n C dX10_ways_23 0 rfl ?_
    refine go_get (v := .ref T2) C ffX10_13 dX10_ways_24 0 rfl rfl ?_
    refine go_bipush (v := 38) C dX10_ways_27 rfl ?_
    refine go_iload_n C dX10_ways_29 1 rfl ?_
    refine go_iadd C dX10_ways_30 ?_
    refine go_ialoadG (f := (g10_now r5)) C h dX10_ways_31 2 rfl (fun h => ?_)
    refine go_ialoadG (f := (g10_rows r5)) C h dX10_ways_32 6 rfl (fun h => ?_)
    cases h
    exact go_iret C dX10_ways_33 rfl rfl
  · refine go_iconst (v := -1) C dX10_ways_7 rfl ?_
    cases h
    exact go_iret C dX10_ways_8 rfl rfl

set_option maxRecDepth 100000 in
set_option maxHeartbeats 4000000 in
theorem m10_leases_J141_k {p : Program} {l : Launch} {e : Env} {s : State} {m : MethodId} {args : Array Value} {below : List Frame} {meth : Method} {c : Code} {G : gG} {A : Nat → Prop} (C : Cx p e s m args meth c G RX10 cX10_leases 6 (some .int) A) (T0 T1 T2 T3 T4 T5 T6 T7 T8 T9 T10 T11 T12 : Nat) (T : SX10) (x1 : Int32) (x2 : Int32) (x3 : Int32) (x4 : Int32) (x5 : Int32) (R0 : Int32 × SX10) (rc106 : Int32 × Int32 × SX10 → Option (Int32 × SX10)) (hr106 : ∀ (x4 : Int32) (x5 : Int32) (Tz : SX10), rc106 (x4, x5, Tz) = some R0 → Gq p l e (rq 4 88) s m args below meth c G A 6 0 0 (MQ below (QK G (some (.int R0.1)) (u10 G T0 T1 T2 T3 T4 T5 T6 T7 T8 T9 T10 T11 T12 R0.2) A) args s 0 0 A) 106 [(0, .ref T0), (1, .int x1), (2, .int x2), (3, .int x3), (4, .int x4), (5, .int x5)] [] (u10 G T0 T1 T2 T3 T4 T5 T6 T7 T8 T9 T10 T11 T12 Tz)) (h : m10_leases_J141 T x1 x2 x3 x4 x5 rc106 = some R0) : Gq p l e (rq 4 88) s m args below meth c G A 6 0 0 (MQ below (QK G (some (.int R0.1)) (u10 G T0 T1 T2 T3 T4 T5 T6 T7 T8 T9 T10 T11 T12 R0.2) A) args s 0 0 A) 141 [(0, .ref T0), (1, .int x1), (2, .int x2), (3, .int x3), (4, .int x4), (5, .int x5)] [] (u10 G T0 T1 T2 T3 T4 T5 T6 T7 T8 T9 T10 T11 T12 T) := by
  unfold m10_leases_J141 at h
  refine go_aload_n C dX10_leases_141 0 rfl ?_
  refine go_iload_n C dX10_leases_142 1 rfl ?_
  refine go_iload C dX10_leases_143 5 rfl ?_
  obtain ⟨r10, k11, h⟩ := tbd_e h
  refine go_callV (q0 := 0) (wr := ([] : va_W)) (w' := u10 G T0 T1 T2 T3 T4 T5 T6 T7 T8 T9 T10 T11 T12 r10) C cfX10_135 viX10_layClimb (m10_layClimb_k l G T0 T1 T2 T3 T4 T5 T6 T7 T8 T9 T10 T11 T12 T x1 x5 r10 k11) dX10_leases_145 (by decide) ⟨Nat.zero_le _, Nat.zero_le _⟩ rfl rfl (Nat.le_of_ble_eq_true rfl) rfl [0, 1, 2, 3, 4, 5, 6, 7, 8, 9, 10, 11, 12] [] [0, 1, 2, 3, 4, 5, 6, 7, 8, 9, 10, 11, 12] rfl rfl (by decide) rfl ?_
  refine go_aload_n C dX10_leases_148 0 rfl ?_
  refine go_get (v := .ref T5) C ffX10_22 dX10_leases_149 0 rfl rfl ?_
  refine go_aload_n C dX10_leases_152 0 rfl ?_
  refine go_get (v := .ref T2) C ffX10_13 dX10_leases_153 0 rfl rfl ?_
  refine go_bipush (v := 38) C dX10_leases_156 rfl ?_
  refine go_iload_n C dX10_leases_158 1 rfl ?_
  refine go_iadd C dX10_leases_159 ?_
  refine go_ialoadG (f := (g10_now r10)) C h dX10_leases_160 2 rfl (fun h => ?_)
  refine go_ialoadG (f := (g10_few r10)) C h dX10_leases_161 5 rfl (fun h => ?_)
  refine go_ldc (v := 1000000) C dX10_leases_162 (wr24 _ (List.mem_of_getElem? (i := 8) rfl)) ?_
  refine go_icmp_ge (tgt := 172) C h dX10_leases_164 rfl (fun h => ?_) (fun h => ?_)
  · refine go_iload C dX10_leases_172 4 rfl ?_
    refine go_istore (lv' := [(4, .int x4), (0, .ref T0), (1, .int x1), (2, .int x2), (3, .int x3), (5, .int x5)]) C dX10_leases_174 (by decide) rfl ?_
    refine go_iincN (lf := fun v12 => [(5, .int v12), (4, .int x4), (0, .ref T0), (1, .int x1), (2, .int x2), (3, .int x3)]) C h dX10_leases_176 5 rfl rfl (by decide) (fun _ => rfl) (fun v12 h => ?_)
    refine go_goto (tgt := 106) C dX10_leases_179 rfl ?_
    exact go_lv [2, 3, 4, 5, 1, 0] rfl (hr106 x4 v12 r10 h)
  · refine go_iload C dX10_leases_167 5 rfl ?_
    refine go_goto (tgt := 174) C dX10_leases_169 rfl ?_
    refine go_istore (lv' := [(4, .int x5), (0, .ref T0), (1, .int x1), (2, .int x2), (3, .int x3), (5, .int x5)]) C dX10_leases_174 (by decide) rfl ?_
    refine go_iincN (lf := fun v13 => [(5, .int v13), (4, .int x5), (0, .ref T0), (1, .int x1), (2, .int x2), (3, .int x3)]) C h dX10_leases_176 5 rfl rfl (by decide) (fun _ => rfl) (fun v13 h => ?_)
    refine go_goto (tgt := 106) C dX10_leases_179 rfl ?_
    exact go_lv [2, 3, 4, 5, 1, 0] rfl (hr106 x5 v13 r10 h)

set_option maxRecDepth 100000 in
set_option maxHeartbeats 4000000 in
theorem m10_leases_L106_k {p : Program} {l : Launch} {e : Env} {s : State} {m : MethodId} {args : Array Value} {below : List Frame} {meth : Method} {c : Code} {G : gG} {A : Nat → Prop} (C : Cx p e s m args meth c G RX10 cX10_leases 6 (some .int) A) (T0 T1 T2 T3 T4 T5 T6 T7 T8 T9 T10 T11 T12 : Nat) (x1 : Int32) (x2 : Int32) (x3 : Int32) (R0 : Int32 × SX10)  : ∀ (n : Nat) (x4 : Int32) (x5 : Int32) (T : SX10), tit (m10_leases_L106 x1 x2 x3) n (x4, x5, T) = some R0 → Gq p l e (rq 4 88) s m args below meth c G A 6 0 0 (MQ below (QK G (some (.int R0.1)) (u10 G T0 T1 T2 T3 T4 T5 T6 T7 T8 T9 T10 T11 T12 R0.2) A) args s 0 0 A) 106 [(0, .ref T0), (1, .int x1), (2, .int x2), (3, .int x3), (4, .int x4), (5, .int x5)] [] (u10 G T0 T1 T2 T3 T4 T5 T6 T7 T8 T9 T10 T11 T12 T) := by
  intro n
  induction n with
  | zero => exact fun _ _ _ h => (tit_z h).elim
  | succ n ih =>
    intro x4 x5 T h
    replace h : m10_leases_B106 x1 x2 x3 (tit (m10_leases_L106 x1 x2 x3) n) x4 x5 T = some R0 := h
    unfold m10_leases_B106 at h
    refine go_iload C dX10_leases_106 5 rfl ?_
    refine go_sipush (v := 4096) C dX10_leases_108 rfl ?_
    refine go_icmp_ge (tgt := 182) C h dX10_leases_111 rfl (fun h => ?_) (fun h => ?_)
    · refine go_iload C dX10_leases_182 4 rfl ?_
      refine go_if_lt (tgt := 192) C h dX10_leases_184 rfl (fun h => ?_) (fun h => ?_)
      · refine go_iload C dX10_leases_192 4 rfl ?_
        refine go_goto (tgt := 202) C dX10_leases_194 rfl ?_
        cases h
        exact go_iret C dX10_leases_202 rfl rfl
      · refine go_iload_n C dX10_leases_187 2 rfl ?_
        refine go_iconst (v := 1) C dX10_leases_188 rfl ?_
        refine go_icmp_ne (tgt := 197) C h dX10_leases_189 rfl (fun h => ?_) (fun h => ?_)
        · refine go_iload C dX10_leases_197 4 rfl ?_
          obtain ⟨r7, k8, h⟩ := tbd_e h
          refine go_callS0 C cfX10_139 (wr26 _ (List.mem_of_getElem? (i := 2) rfl)) (m10_bits_k l G x4 r7 k8) dX10_leases_199 (by decide) ⟨Nat.zero_le _, Nat.zero_le _⟩ rfl rfl (Nat.le_of_ble_eq_true rfl) ?_
          cases h
          exact go_iret C dX10_leases_202 rfl rfl
        · refine go_iload C dX10_leases_192 4 rfl ?_
          refine go_goto (tgt := 202) C dX10_leases_194 rfl ?_
          cases h
          exact go_iret C dX10_leases_202 rfl rfl
    · refine go_iload C dX10_leases_114 5 rfl ?_
      refine go_iload_n C dX10_leases_116 3 rfl ?_
      refine go_iconst (v := -1) C dX10_leases_117 rfl ?_
      refine go_ixor C dX10_leases_118 ?_
      refine go_iand C dX10_leases_119 ?_
      refine go_if_ne (tgt := 176) C h dX10_leases_120 rfl (fun h => ?_) (fun h => ?_)
      · refine go_iincN (lf := fun v9 => [(5, .int v9), (0, .ref T0), (1, .int x1), (2, .int x2), (3, .int x3), (4, .int x4)]) C h dX10_leases_176 5 rfl rfl (by decide) (fun _ => rfl) (fun v9 h => ?_)
        refine go_goto (tgt := 106) C dX10_leases_179 rfl ?_
        exact go_lv [1, 2, 3, 4, 5, 0] rfl (ih x4 v9 T h)
      · refine go_iload C dX10_leases_123 4 rfl ?_
        refine go_if_lt (tgt := 141) C h dX10_leases_125 rfl (fun h => ?_) (fun h => ?_)
        · exact go_lv [0, 1, 2, 3, 4, 5] rfl (m10_leases_J141_k C T0 T1 T2 T3 T4 T5 T6 T7 T8 T9 T10 T11 T12 T x1 x2 x3 x4 x5 R0 _ (fun z0 z1 z2 h => ih z0 z1 z2 h) h)
        · refine go_iload C dX10_leases_128 5 rfl ?_
          obtain ⟨r14, k15, h⟩ := tbd_e h
          refine go_callS0 C cfX10_139 (wr26 _ (List.mem_of_getElem? (i := 2) rfl)) (m10_bits_k l G x5 r14 k15) dX10_leases_130 (by decide) ⟨Nat.zero_le _, Nat.zero_le _⟩ rfl rfl (Nat.le_of_ble_eq_true rfl) ?_
          refine go_iload C dX10_leases_133 4 rfl ?_
          obtain ⟨r16, k17, h⟩ := tbd_e h
          refine go_callS0 C cfX10_139 (wr26 _ (List.mem_of_getElem? (i := 2) rfl)) (m10_bits_k l G x4 r16 k17) dX10_leases_135 (by decide) ⟨Nat.zero_le _, Nat.zero_le _⟩ rfl rfl (Nat.le_of_ble_eq_true rfl) ?_
          refine go_icmp_ge (tgt := 176) C h dX10_leases_138 rfl (fun h => ?_) (fun h => ?_)
          · refine go_iincN (lf := fun v18 => [(5, .int v18), (0, .ref T0), (1, .int x1), (2, .int x2), (3, .int x3), (4, .int x4)]) C h dX10_leases_176 5 rfl rfl (by decide) (fun _ => rfl) (fun v18 h => ?_)
            refine go_goto (tgt := 106) C dX10_leases_179 rfl ?_
            exact go_lv [1, 2, 3, 4, 5, 0] rfl (ih x4 v18 T h)
          · exact go_lv [0, 1, 2, 3, 4, 5] rfl (m10_leases_J141_k C T0 T1 T2 T3 T4 T5 T6 T7 T8 T9 T10 T11 T12 T x1 x2 x3 x4 x5 R0 _ (fun z0 z1 z2 h => ih z0 z1 z2 h) h)

set_option maxRecDepth 100000 in
set_option maxHeartbeats 4000000 in
theorem m10_leases_J91_k {p : Program} {l : Launch} {e : Env} {s : State} {m : MethodId} {args : Array Value} {below : List Frame} {meth : Method} {c : Code} {G : gG} {A : Nat → Prop} (C : Cx p e s m args meth c G RX10 cX10_leases 6 (some .int) A) (T0 T1 T2 T3 T4 T5 T6 T7 T8 T9 T10 T11 T12 : Nat) (T : SX10) (x1 : Int32) (x2 : Int32) (x4 : Int32) (y0 : Int32) (y1 : Int32) (R0 : Int32 × SX10) (rc30 : Int32 × Int32 → Option (Int32 × SX10)) (hr30 : ∀ (x3 : Int32) (x4 : Int32), rc30 (x3, x4) = some R0 → Gq p l e (rq 4 88) s m args below meth c G A 6 0 0 (MQ below (QK G (some (.int R0.1)) (u10 G T0 T1 T2 T3 T4 T5 T6 T7 T8 T9 T10 T11 T12 R0.2) A) args s 0 0 A) 30 [(0, .ref T0), (1, .int x1), (2, .int x2), (3, .int x3), (4, .int x4)] [] (u10 G T0 T1 T2 T3 T4 T5 T6 T7 T8 T9 T10 T11 T12 T)) (h : m10_leases_J91 T x1 x2 x4 y0 y1 rc30 = some R0) : Gq p l e (rq 4 88) s m args below meth c G A 6 0 0 (MQ below (QK G (some (.int R0.1)) (u10 G T0 T1 T2 T3 T4 T5 T6 T7 T8 T9 T10 T11 T12 R0.2) A) args s 0 0 A) 91 [(0, .ref T0), (1, .int x1), (2, .int x2), (4, .int x4)] [.int y1, .int y0] (u10 G T0 T1 T2 T3 T4 T5 T6 T7 T8 T9 T10 T11 T12 T) := by
  unfold m10_leases_J91 at h
  refine go_ior C dX10_leases_91 ?_
  refine go_istore_nN (lf := fun v21 => [(3, .int v21), (0, .ref T0), (1, .int x1), (2, .int x2), (4, .int x4)]) C h dX10_leases_92 (by decide) (fun _ => rfl) (fun v21 h => ?_)
  refine go_iincN (lf := fun v22 => [(4, .int v22), (3, .int v21), (0, .ref T0), (1, .int x1), (2, .int x2)]) C h dX10_leases_93 4 rfl rfl (by decide) (fun _ => rfl) (fun v22 h => ?_)
  refine go_goto (tgt := 30) C dX10_leases_96 rfl ?_
  exact go_lv [2, 3, 4, 1, 0] rfl (hr30 v21 v22 h)

set_option maxRecDepth 100000 in
set_option maxHeartbeats 4000000 in
theorem m10_leases_J90_k {p : Program} {l : Launch} {e : Env} {s : State} {m : MethodId} {args : Array Value} {below : List Frame} {meth : Method} {c : Code} {G : gG} {A : Nat → Prop} (C : Cx p e s m args meth c G RX10 cX10_leases 6 (some .int) A) (T0 T1 T2 T3 T4 T5 T6 T7 T8 T9 T10 T11 T12 : Nat) (T : SX10) (x1 : Int32) (x2 : Int32) (x4 : Int32) (y0 : Int32) (R0 : Int32 × SX10) (rc30 : Int32 × Int32 → Option (Int32 × SX10)) (hr30 : ∀ (x3 : Int32) (x4 : Int32), rc30 (x3, x4) = some R0 → Gq p l e (rq 4 88) s m args below meth c G A 6 0 0 (MQ below (QK G (some (.int R0.1)) (u10 G T0 T1 T2 T3 T4 T5 T6 T7 T8 T9 T10 T11 T12 R0.2) A) args s 0 0 A) 30 [(0, .ref T0), (1, .int x1), (2, .int x2), (3, .int x3), (4, .int x4)] [] (u10 G T0 T1 T2 T3 T4 T5 T6 T7 T8 T9 T10 T11 T12 T)) (h : m10_leases_J90 T x1 x2 x4 y0 rc30 = some R0) : Gq p l e (rq 4 88) s m args below meth c G A 6 0 0 (MQ below (QK G (some (.int R0.1)) (u10 G T0 T1 T2 T3 T4 T5 T6 T7 T8 T9 T10 T11 T12 R0.2) A) args s 0 0 A) 90 [(0, .ref T0), (1, .int x1), (2, .int x2), (4, .int x4)] [.int y0] (u10 G T0 T1 T2 T3 T4 T5 T6 T7 T8 T9 T10 T11 T12 T) := by
  unfold m10_leases_J90 at h
  refine go_iconst (v := 0) C dX10_leases_90 rfl ?_
  exact go_lv [0, 1, 2, 3] rfl (m10_leases_J91_k C T0 T1 T2 T3 T4 T5 T6 T7 T8 T9 T10 T11 T12 T x1 x2 x4 y0 (0 : Int32) R0 rc30 hr30 h)

set_option maxRecDepth 100000 in
set_option maxHeartbeats 4000000 in
theorem m10_leases_L30_k {p : Program} {l : Launch} {e : Env} {s : State} {m : MethodId} {args : Array Value} {below : List Frame} {meth : Method} {c : Code} {G : gG} {A : Nat → Prop} (C : Cx p e s m args meth c G RX10 cX10_leases 6 (some .int) A) (T0 T1 T2 T3 T4 T5 T6 T7 T8 T9 T10 T11 T12 : Nat) (T : SX10) (x1 : Int32) (x2 : Int32) (R0 : Int32 × SX10)  : ∀ (n : Nat) (x3 : Int32) (x4 : Int32), tit (m10_leases_L30 T x1 x2) n (x3, x4) = some R0 → Gq p l e (rq 4 88) s m args below meth c G A 6 0 0 (MQ below (QK G (some (.int R0.1)) (u10 G T0 T1 T2 T3 T4 T5 T6 T7 T8 T9 T10 T11 T12 R0.2) A) args s 0 0 A) 30 [(0, .ref T0), (1, .int x1), (2, .int x2), (3, .int x3), (4, .int x4)] [] (u10 G T0 T1 T2 T3 T4 T5 T6 T7 T8 T9 T10 T11 T12 T) := by
  intro n
  induction n with
  | zero => exact fun _ _ h => (tit_z h).elim
  | succ n ih =>
    intro x3 x4 h
    replace h : m10_leases_B30 T x1 x2 (tit (m10_leases_L30 T x1 x2) n) x3 x4 = some R0 := h
    unfold m10_leases_B30 at h
    refine go_iload C dX10_leases_30 4 rfl ?_
    refine go_bipush (v := 13) C dX10_leases_32 rfl ?_
    refine go_icmp_ge (tgt := 99) C h dX10_leases_34 rfl (fun h => ?_) (fun h => ?_)
    · refine go_bipush (v := -6) C dX10_leases_99 rfl ?_
      refine go_istore (lv' := [(4, .int (-6 : Int32)), (0, .ref T0), (1, .int x1), (2, .int x2), (3, .int x3)]) C dX10_leases_101 (by decide) rfl ?_
      refine go_iconst (v := 0) C dX10_leases_103 rfl ?_
      refine go_istore (lv' := [(5, .int (0 : Int32)), (4, .int (-6 : Int32)), (0, .ref T0), (1, .int x1), (2, .int x2), (3, .int x3)]) C dX10_leases_104 (by decide) rfl ?_
      exact go_lv [2, 3, 4, 5, 1, 0] rfl (m10_leases_L106_k C T0 T1 T2 T3 T4 T5 T6 T7 T8 T9 T10 T11 T12 x1 x2 x3 R0  FU (-6 : Int32) (0 : Int32) T h)
    · refine go_iload_n C dX10_leases_37 3 rfl ?_
      refine go_aload_n C dX10_leases_38 0 rfl ?_
      refine go_iload C dX10_leases_39 4 rfl ?_
      obtain ⟨r19, k20, h⟩ := tbd_e h
      refine go_callV (q0 := 0) (wr := ([] : va_W)) (w' := u10 G T0 T1 T2 T3 T4 T5 T6 T7 T8 T9 T10 T11 T12 T) C cfX10_69 viX10_isMissing (m10_isMissing_k l G T0 T1 T2 T3 T4 T5 T6 T7 T8 T9 T10 T11 T12 T x4 r19 k20) dX10_leases_41 (by decide) ⟨Nat.zero_le _, Nat.zero_le _⟩ rfl rfl (Nat.le_of_ble_eq_true rfl) rfl [0, 1, 2, 3, 4, 5, 6, 7, 8, 9, 10, 11, 12] [] [0, 1, 2, 3, 4, 5, 6, 7, 8, 9, 10, 11, 12] rfl rfl (by decide) rfl ?_
      refine go_if_ne (tgt := 90) C h dX10_leases_44 rfl (fun h => ?_) (fun h => ?_)
      · exact go_lv [0, 1, 2, 4] rfl (m10_leases_J90_k C T0 T1 T2 T3 T4 T5 T6 T7 T8 T9 T10 T11 T12 T x1 x2 x4 x3 R0 _ (fun z0 z1 h => ih z0 z1 h) h)
      · refine go_aload_n C dX10_leases_47 0 rfl ?_
        refine go_get (v := .ref T2) C ffX10_13 dX10_leases_48 0 rfl rfl ?_
        refine go_iload C dX10_leases_51 4 rfl ?_
        refine go_ialoadG (f := (g10_now T)) C h dX10_leases_53 2 rfl (fun h => ?_)
        refine go_if_lt (tgt := 90) C h dX10_leases_54 rfl (fun h => ?_) (fun h => ?_)
        · exact go_lv [0, 1, 2, 4] rfl (m10_leases_J90_k C T0 T1 T2 T3 T4 T5 T6 T7 T8 T9 T10 T11 T12 T x1 x2 x4 x3 R0 _ (fun z0 z1 h => ih z0 z1 h) h)
        · refine go_aload_n C dX10_leases_57 0 rfl ?_
          refine go_get (v := .ref T2) C ffX10_13 dX10_leases_58 0 rfl rfl ?_
          refine go_iload C dX10_leases_61 4 rfl ?_
          refine go_ialoadG (f := (g10_now T)) C h dX10_leases_63 2 rfl (fun h => ?_)
          refine go_iload_n C dX10_leases_64 1 rfl ?_
          refine go_icmp_eq (tgt := 90) C h dX10_leases_65 rfl (fun h => ?_) (fun h => ?_)
          · exact go_lv [0, 1, 2, 4] rfl (m10_leases_J90_k C T0 T1 T2 T3 T4 T5 T6 T7 T8 T9 T10 T11 T12 T x1 x2 x4 x3 R0 _ (fun z0 z1 h => ih z0 z1 h) h)
          · refine go_aload_n C dX10_leases_68 0 rfl ?_
            refine go_get (v := .ref T2) C ffX10_13 dX10_leases_69 0 rfl rfl ?_
            refine go_bipush (v := 13) C dX10_leases_72 rfl ?_
            refine go_iload C dX10_leases_74 4 rfl ?_
            refine go_iadd C dX10_leases_76 ?_
            refine go_ialoadG (f := (g10_now T)) C h dX10_leases_77 2 rfl (fun h => ?_)
            refine go_if_ge (tgt := 90) C h dX10_leases_78 rfl (fun h => ?_) (fun h => ?_)
            · exact go_lv [0, 1, 2, 4] rfl (m10_leases_J90_k C T0 T1 T2 T3 T4 T5 T6 T7 T8 T9 T10 T11 T12 T x1 x2 x4 x3 R0 _ (fun z0 z1 h => ih z0 z1 h) h)
            · refine go_iconst (v := 1) C dX10_leases_81 rfl ?_
              refine go_iload C dX10_leases_82 4 rfl ?_
              refine go_iconst (v := 1) C dX10_leases_84 rfl ?_
              refine go_isub C dX10_leases_85 ?_
              refine go_ishl C dX10_leases_86 ?_
              refine go_goto (tgt := 91) C dX10_leases_87 rfl ?_
              exact go_lv [0, 1, 2, 4] rfl (m10_leases_J91_k C T0 T1 T2 T3 T4 T5 T6 T7 T8 T9 T10 T11 T12 T x1 x2 x4 x3 ((1 : Int32) <<< ((x4 - (1 : Int32)) &&& 31)) R0 _ (fun z0 z1 h => ih z0 z1 h) h)

set_option maxRecDepth 100000 in
set_option maxHeartbeats 4000000 in
theorem m10_leases_k (l : Launch) (G : gG) (T0 T1 T2 T3 T4 T5 T6 T7 T8 T9 T10 T11 T12 : Nat) (T : SX10) (a1 : Int32) (a2 : Int32) (R0 : Int32 × SX10) (h : m10_leases T a1 a2 = some R0) : KK l G yX10_leases cX10_leases 6 (some .int) 4 88 [.ref T0, .int a1, .int a2] (u10 G T0 T1 T2 T3 T4 T5 T6 T7 T8 T9 T10 T11 T12 T) (some (.int R0.1)) (u10 G T0 T1 T2 T3 T4 T5 T6 T7 T8 T9 T10 T11 T12 R0.2) := by
  refine KK_intro (own := RX10) (by decide +kernel) rfl (Nat.le_of_ble_eq_true rfl) rfl ?_
  intro p e s m args below meth c A C
  unfold m10_leases at h
  refine go_iload_n C dX10_leases_0 1 rfl ?_
  obtain ⟨r1, k2, h⟩ := tbd_e h
  refine go_callS0 C cfX10_76 (wr9 _ (List.mem_of_getElem? (i := 5) rfl)) (m10_isMan_k l G a1 r1 k2) dX10_leases_1 (by decide) ⟨Nat.zero_le _, Nat.zero_le _⟩ rfl rfl (Nat.le_of_ble_eq_true rfl) ?_
  refine go_if_ne (tgt := 9) C h dX10_leases_4 rfl (fun h => ?_) (fun h => ?_)
  · refine go_iload_n C dX10_leases_9 2 rfl ?_
    refine go_iconst (v := 0) C dX10_leases_10 rfl ?_
    refine go_iconst (v := 1) C dX10_leases_11 rfl ?_
    obtain ⟨r3, k4, h⟩ := tbd_e h
    refine go_callS0 C cfX10_48 (wr8 _ (List.mem_of_getElem? (i := 3) rfl)) (m10_in_k l G a2 (0 : Int32) (1 : Int32) r3 k4) dX10_leases_12 (by decide) ⟨Nat.zero_le _, Nat.zero_le _⟩ rfl rfl (Nat.le_of_ble_eq_true rfl) ?_
    refine go_if_ne (tgt := 21) C h dX10_leases_15 rfl (fun h => ?_) (fun h => ?_)
    · refine go_aload_n C dX10_leases_21 0 rfl ?_
      obtain ⟨r5, k6, h⟩ := tbd_e h
      refine go_callV (q0 := 0) (wr := ([] : va_W)) (w' := u10 G T0 T1 T2 T3 T4 T5 T6 T7 T8 T9 T10 T11 T12 r5) C cfX10_110 viX10_asNow (m10_asNow_k l G T0 T1 T2 T3 T4 T5 T6 T7 T8 T9 T10 T11 T12 T r5 k6) dX10_leases_22 (by decide) ⟨Nat.zero_le _, Nat.zero_le _⟩ rfl rfl (Nat.le_of_ble_eq_true rfl) rfl [0, 1, 2, 3, 4, 5, 6, 7, 8, 9, 10, 11, 12] [] [0, 1, 2, 3, 4, 5, 6, 7, 8, 9, 10, 11, 12] rfl rfl (by decide) rfl ?_
      refine go_iconst (v := 0) C dX10_leases_25 rfl ?_
      refine go_istore_n (lv' := [(3, .int (0 : Int32)), (0, .ref T0), (1, .int a1), (2, .int a2)]) C dX10_leases_26 (by decide) rfl ?_
      refine go_iconst (v := 1) C dX10_leases_27 rfl ?_
      refine go_istore (lv' := [(4, .int (1 : Int32)), (3, .int (0 : Int32)), (0, .ref T0), (1, .int a1), (2, .int a2)]) C dX10_leases_28 (by decide) rfl ?_
      exact go_lv [2, 3, 4, 1, 0] rfl (m10_leases_L30_k C T0 T1 T2 T3 T4 T5 T6 T7 T8 T9 T10 T11 T12 r5 a1 a2 R0  FU (0 : Int32) (1 : Int32) h)
    · refine go_bipush (v := -2) C dX10_leases_18 rfl ?_
      cases h
      exact go_iret C dX10_leases_20 rfl rfl
  · refine go_iconst (v := -1) C dX10_leases_7 rfl ?_
    cases h
    exact go_iret C dX10_leases_8 rfl rfl

set_option maxRecDepth 100000 in
set_option maxHeartbeats 4000000 in
theorem m10_most_J180_k {p : Program} {l : Launch} {e : Env} {s : State} {m : MethodId} {args : Array Value} {below : List Frame} {meth : Method} {c : Code} {G : gG} {A : Nat → Prop} (C : Cx p e s m args meth c G RX10 cX10_most 6 (some .int) A) (T0 T1 T2 T3 T4 T5 T6 T7 T8 T9 T10 T11 T12 : Nat) (T : SX10) (x3 : Int32) (x4 : Int32) (R0 : Int32 × SX10) (rc146 : Int32 × Int32 → Option (Int32 × SX10)) (hr146 : ∀ (x3 : Int32) (x4 : Int32), rc146 (x3, x4) = some R0 → Gq p l e (rq 3 64) s m args below meth c G A 6 0 0 (MQ below (QK G (some (.int R0.1)) (u10 G T0 T1 T2 T3 T4 T5 T6 T7 T8 T9 T10 T11 T12 R0.2) A) args s 0 0 A) 146 [(0, .ref T0), (3, .int x3), (4, .int x4)] [] (u10 G T0 T1 T2 T3 T4 T5 T6 T7 T8 T9 T10 T11 T12 T)) (h : m10_most_J180 T x3 x4 rc146 = some R0) : Gq p l e (rq 3 64) s m args below meth c G A 6 0 0 (MQ below (QK G (some (.int R0.1)) (u10 G T0 T1 T2 T3 T4 T5 T6 T7 T8 T9 T10 T11 T12 R0.2) A) args s 0 0 A) 180 [(0, .ref T0), (3, .int x3), (4, .int x4)] [] (u10 G T0 T1 T2 T3 T4 T5 T6 T7 T8 T9 T10 T11 T12 T) := by
  unfold m10_most_J180 at h
  refine go_iload_n C dX10_most_180 1 rfl ?_
  refine go_istore_n (lv' := [(3, .int x3), (0, .ref T0), (4, .int x4)]) C dX10_most_181 (by decide) rfl ?_
  refine go_iincN (lf := fun v1 => [(4, .int v1), (3, .int x3), (0, .ref T0)]) C h dX10_most_182 2 rfl rfl (by decide) (fun _ => rfl) (fun v1 h => ?_)
  refine go_goto (tgt := 146) C dX10_most_185 rfl ?_
  exact go_lv [2, 1, 0] rfl (hr146 x3 v1 h)

set_option maxRecDepth 100000 in
set_option maxHeartbeats 4000000 in
theorem m10_most_L146_k {p : Program} {l : Launch} {e : Env} {s : State} {m : MethodId} {args : Array Value} {below : List Frame} {meth : Method} {c : Code} {G : gG} {A : Nat → Prop} (C : Cx p e s m args meth c G RX10 cX10_most 6 (some .int) A) (T0 T1 T2 T3 T4 T5 T6 T7 T8 T9 T10 T11 T12 : Nat) (T : SX10) (R0 : Int32 × SX10)  : ∀ (n : Nat) (x3 : Int32) (x4 : Int32), tit (m10_most_L146 T) n (x3, x4) = some R0 → Gq p l e (rq 3 64) s m args below meth c G A 6 0 0 (MQ below (QK G (some (.int R0.1)) (u10 G T0 T1 T2 T3 T4 T5 T6 T7 T8 T9 T10 T11 T12 R0.2) A) args s 0 0 A) 146 [(0, .ref T0), (3, .int x3), (4, .int x4)] [] (u10 G T0 T1 T2 T3 T4 T5 T6 T7 T8 T9 T10 T11 T12 T) := by
  intro n
  induction n with
  | zero => exact fun _ _ h => (tit_z h).elim
  | succ n ih =>
    intro x3 x4 h
    replace h : m10_most_B146 T (tit (m10_most_L146 T) n) x3 x4 = some R0 := h
    unfold m10_most_B146 at h
    refine go_iload C dX10_most_146 2 rfl ?_
    refine go_bipush (v := 64) C dX10_most_148 rfl ?_
    refine go_icmp_ge (tgt := 188) C h dX10_most_150 rfl (fun h => ?_) (fun h => ?_)
    · refine go_iload_n C dX10_most_188 1 rfl ?_
      cases h
      exact go_iret C dX10_most_189 rfl rfl
    · refine go_aload_n C dX10_most_153 0 rfl ?_
      refine go_get (v := .ref T7) C ffX10_28 dX10_most_154 0 rfl rfl ?_
      refine go_iload C dX10_most_157 2 rfl ?_
      refine go_zaloadG (f := (g10_can T)) C h dX10_most_159 7 rfl (fun h => ?_)
      refine go_if_eq (tgt := 180) C h dX10_most_160 rfl (fun h => ?_) (fun h => ?_)
      · exact go_lv [0, 1, 2] rfl (m10_most_J180_k C T0 T1 T2 T3 T4 T5 T6 T7 T8 T9 T10 T11 T12 T x3 x4 R0 _ (fun z0 z1 h => ih z0 z1 h) h)
      · refine go_iload C dX10_most_163 2 rfl ?_
        obtain ⟨r2, k3, h⟩ := tbd_e h
        refine go_callS0 C cfX10_139 (wr26 _ (List.mem_of_getElem? (i := 2) rfl)) (m10_bits_k l G x4 r2 k3) dX10_most_165 (by decide) ⟨Nat.zero_le _, Nat.zero_le _⟩ rfl rfl (Nat.le_of_ble_eq_true rfl) ?_
        refine go_iload_n C dX10_most_168 1 rfl ?_
        refine go_icmp_le (tgt := 180) C h dX10_most_169 rfl (fun h => ?_) (fun h => ?_)
        · exact go_lv [0, 1, 2] rfl (m10_most_J180_k C T0 T1 T2 T3 T4 T5 T6 T7 T8 T9 T10 T11 T12 T x3 x4 R0 _ (fun z0 z1 h => ih z0 z1 h) h)
        · refine go_iload C dX10_most_172 2 rfl ?_
          obtain ⟨r4, k5, h⟩ := tbd_e h
          refine go_callS0 C cfX10_139 (wr26 _ (List.mem_of_getElem? (i := 2) rfl)) (m10_bits_k l G x4 r4 k5) dX10_most_174 (by decide) ⟨Nat.zero_le _, Nat.zero_le _⟩ rfl rfl (Nat.le_of_ble_eq_true rfl) ?_
          refine go_goto (tgt := 181) C dX10_most_177 rfl ?_
          refine go_istore_n (lv' := [(3, .int r4), (0, .ref T0), (4, .int x4)]) C dX10_most_181 (by decide) rfl ?_
          refine go_iincN (lf := fun v6 => [(4, .int v6), (3, .int r4), (0, .ref T0)]) C h dX10_most_182 2 rfl rfl (by decide) (fun _ => rfl) (fun v6 h => ?_)
          refine go_goto (tgt := 146) C dX10_most_185 rfl ?_
          exact go_lv [2, 1, 0] rfl (ih r4 v6 h)

set_option maxRecDepth 100000 in
set_option maxHeartbeats 4000000 in
theorem m10_most_J117_k {p : Program} {l : Launch} {e : Env} {s : State} {m : MethodId} {args : Array Value} {below : List Frame} {meth : Method} {c : Code} {G : gG} {A : Nat → Prop} (C : Cx p e s m args meth c G RX10 cX10_most 6 (some .int) A) (T0 T1 T2 T3 T4 T5 T6 T7 T8 T9 T10 T11 T12 : Nat) (T : SX10) (x1 : Int32) (x2 : Int32) (x3 : Int32) (x4 : Int32) (x5 : Int32) (y1 : Int32) (R0 : Int32 × SX10) (rc31 : Int32 × SX10 → Option (Int32 × SX10)) (hr31 : ∀ (x3 : Int32) (Tz : SX10), rc31 (x3, Tz) = some R0 → Gq p l e (rq 3 64) s m args below meth c G A 6 0 0 (MQ below (QK G (some (.int R0.1)) (u10 G T0 T1 T2 T3 T4 T5 T6 T7 T8 T9 T10 T11 T12 R0.2) A) args s 0 0 A) 31 [(0, .ref T0), (1, .int x1), (2, .int x2), (3, .int x3)] [] (u10 G T0 T1 T2 T3 T4 T5 T6 T7 T8 T9 T10 T11 T12 Tz)) (rc41 : Int32 × SX10 → Option (Int32 × SX10)) (hr41 : ∀ (x4 : Int32) (Tz : SX10), rc41 (x4, Tz) = some R0 → Gq p l e (rq 3 64) s m args below meth c G A 6 0 0 (MQ below (QK G (some (.int R0.1)) (u10 G T0 T1 T2 T3 T4 T5 T6 T7 T8 T9 T10 T11 T12 R0.2) A) args s 0 0 A) 41 [(0, .ref T0), (1, .int x1), (2, .int x2), (3, .int x3), (4, .int x4)] [] (u10 G T0 T1 T2 T3 T4 T5 T6 T7 T8 T9 T10 T11 T12 Tz)) (rc57 : Int32 × SX10 → Option (Int32 × SX10)) (hr57 : ∀ (x5 : Int32) (Tz : SX10), rc57 (x5, Tz) = some R0 → Gq p l e (rq 3 64) s m args below meth c G A 6 0 0 (MQ below (QK G (some (.int R0.1)) (u10 G T0 T1 T2 T3 T4 T5 T6 T7 T8 T9 T10 T11 T12 R0.2) A) args s 0 0 A) 57 [(0, .ref T0), (1, .int x1), (2, .int x2), (3, .int x3), (4, .int x4), (5, .int x5)] [] (u10 G T0 T1 T2 T3 T4 T5 T6 T7 T8 T9 T10 T11 T12 Tz)) (h : m10_most_J117 T x1 x2 x3 x4 x5 y1 rc31 rc41 rc57 = some R0) : Gq p l e (rq 3 64) s m args below meth c G A 6 0 0 (MQ below (QK G (some (.int R0.1)) (u10 G T0 T1 T2 T3 T4 T5 T6 T7 T8 T9 T10 T11 T12 R0.2) A) args s 0 0 A) 117 [(0, .ref T0), (1, .int x1), (2, .int x2), (3, .int x3), (4, .int x4), (5, .int x5)] [.int y1, .ref T7] (u10 G T0 T1 T2 T3 T4 T5 T6 T7 T8 T9 T10 T11 T12 T) := by
  unfold m10_most_J117 at h
  refine go_iconst (v := 1) C dX10_most_117 rfl ?_
  refine go_goto (tgt := 122) C dX10_most_118 rfl ?_
  refine go_zastoreG (f := (g10_can T)) (w' := u10 G T0 T1 T2 T3 T4 T5 T6 T7 T8 T9 T10 T11 T12 (s10_can T (upd (g10_can T) (Int32.toNatClampNeg y1) (vp_nar .boolean (1 : Int32))))) C h dX10_most_122 7 rfl z10_can (fun h => ?_)
  refine go_iincN (lf := fun v12 => [(5, .int v12), (0, .ref T0), (1, .int x1), (2, .int x2), (3, .int x3), (4, .int x4)]) C h dX10_most_123 5 rfl rfl (by decide) (fun _ => rfl) (fun v12 h => ?_)
  refine go_goto (tgt := 57) C dX10_most_126 rfl ?_
  exact go_lv [1, 2, 3, 4, 5, 0] rfl (hr57 v12 (s10_can T (upd (g10_can T) (Int32.toNatClampNeg y1) (vp_nar .boolean (1 : Int32)))) h)

set_option maxRecDepth 100000 in
set_option maxHeartbeats 4000000 in
theorem m10_most_J121_k {p : Program} {l : Launch} {e : Env} {s : State} {m : MethodId} {args : Array Value} {below : List Frame} {meth : Method} {c : Code} {G : gG} {A : Nat → Prop} (C : Cx p e s m args meth c G RX10 cX10_most 6 (some .int) A) (T0 T1 T2 T3 T4 T5 T6 T7 T8 T9 T10 T11 T12 : Nat) (T : SX10) (x1 : Int32) (x2 : Int32) (x3 : Int32) (x4 : Int32) (x5 : Int32) (y1 : Int32) (R0 : Int32 × SX10) (rc31 : Int32 × SX10 → Option (Int32 × SX10)) (hr31 : ∀ (x3 : Int32) (Tz : SX10), rc31 (x3, Tz) = some R0 → Gq p l e (rq 3 64) s m args below meth c G A 6 0 0 (MQ below (QK G (some (.int R0.1)) (u10 G T0 T1 T2 T3 T4 T5 T6 T7 T8 T9 T10 T11 T12 R0.2) A) args s 0 0 A) 31 [(0, .ref T0), (1, .int x1), (2, .int x2), (3, .int x3)] [] (u10 G T0 T1 T2 T3 T4 T5 T6 T7 T8 T9 T10 T11 T12 Tz)) (rc41 : Int32 × SX10 → Option (Int32 × SX10)) (hr41 : ∀ (x4 : Int32) (Tz : SX10), rc41 (x4, Tz) = some R0 → Gq p l e (rq 3 64) s m args below meth c G A 6 0 0 (MQ below (QK G (some (.int R0.1)) (u10 G T0 T1 T2 T3 T4 T5 T6 T7 T8 T9 T10 T11 T12 R0.2) A) args s 0 0 A) 41 [(0, .ref T0), (1, .int x1), (2, .int x2), (3, .int x3), (4, .int x4)] [] (u10 G T0 T1 T2 T3 T4 T5 T6 T7 T8 T9 T10 T11 T12 Tz)) (rc57 : Int32 × SX10 → Option (Int32 × SX10)) (hr57 : ∀ (x5 : Int32) (Tz : SX10), rc57 (x5, Tz) = some R0 → Gq p l e (rq 3 64) s m args below meth c G A 6 0 0 (MQ below (QK G (some (.int R0.1)) (u10 G T0 T1 T2 T3 T4 T5 T6 T7 T8 T9 T10 T11 T12 R0.2) A) args s 0 0 A) 57 [(0, .ref T0), (1, .int x1), (2, .int x2), (3, .int x3), (4, .int x4), (5, .int x5)] [] (u10 G T0 T1 T2 T3 T4 T5 T6 T7 T8 T9 T10 T11 T12 Tz)) (h : m10_most_J121 T x1 x2 x3 x4 x5 y1 rc31 rc41 rc57 = some R0) : Gq p l e (rq 3 64) s m args below meth c G A 6 0 0 (MQ below (QK G (some (.int R0.1)) (u10 G T0 T1 T2 T3 T4 T5 T6 T7 T8 T9 T10 T11 T12 R0.2) A) args s 0 0 A) 121 [(0, .ref T0), (1, .int x1), (2, .int x2), (3, .int x3), (4, .int x4), (5, .int x5)] [.int y1, .ref T7] (u10 G T0 T1 T2 T3 T4 T5 T6 T7 T8 T9 T10 T11 T12 T) := by
  unfold m10_most_J121 at h
  refine go_iconst (v := 0) C dX10_most_121 rfl ?_
  refine go_zastoreG (f := (g10_can T)) (w' := u10 G T0 T1 T2 T3 T4 T5 T6 T7 T8 T9 T10 T11 T12 (s10_can T (upd (g10_can T) (Int32.toNatClampNeg y1) (vp_nar .boolean (0 : Int32))))) C h dX10_most_122 7 rfl z10_can (fun h => ?_)
  refine go_iincN (lf := fun v15 => [(5, .int v15), (0, .ref T0), (1, .int x1), (2, .int x2), (3, .int x3), (4, .int x4)]) C h dX10_most_123 5 rfl rfl (by decide) (fun _ => rfl) (fun v15 h => ?_)
  refine go_goto (tgt := 57) C dX10_most_126 rfl ?_
  exact go_lv [1, 2, 3, 4, 5, 0] rfl (hr57 v15 (s10_can T (upd (g10_can T) (Int32.toNatClampNeg y1) (vp_nar .boolean (0 : Int32)))) h)

set_option maxRecDepth 100000 in
set_option maxHeartbeats 4000000 in
theorem m10_most_L57_k {p : Program} {l : Launch} {e : Env} {s : State} {m : MethodId} {args : Array Value} {below : List Frame} {meth : Method} {c : Code} {G : gG} {A : Nat → Prop} (C : Cx p e s m args meth c G RX10 cX10_most 6 (some .int) A) (T0 T1 T2 T3 T4 T5 T6 T7 T8 T9 T10 T11 T12 : Nat) (x1 : Int32) (x2 : Int32) (x3 : Int32) (x4 : Int32) (R0 : Int32 × SX10) (rc31 : Int32 × SX10 → Option (Int32 × SX10)) (hr31 : ∀ (x3 : Int32) (Tz : SX10), rc31 (x3, Tz) = some R0 → Gq p l e (rq 3 64) s m args below meth c G A 6 0 0 (MQ below (QK G (some (.int R0.1)) (u10 G T0 T1 T2 T3 T4 T5 T6 T7 T8 T9 T10 T11 T12 R0.2) A) args s 0 0 A) 31 [(0, .ref T0), (1, .int x1), (2, .int x2), (3, .int x3)] [] (u10 G T0 T1 T2 T3 T4 T5 T6 T7 T8 T9 T10 T11 T12 Tz)) (rc41 : Int32 × SX10 → Option (Int32 × SX10)) (hr41 : ∀ (x4 : Int32) (Tz : SX10), rc41 (x4, Tz) = some R0 → Gq p l e (rq 3 64) s m args below meth c G A 6 0 0 (MQ below (QK G (some (.int R0.1)) (u10 G T0 T1 T2 T3 T4 T5 T6 T7 T8 T9 T10 T11 T12 R0.2) A) args s 0 0 A) 41 [(0, .ref T0), (1, .int x1), (2, .int x2), (3, .int x3), (4, .int x4)] [] (u10 G T0 T1 T2 T3 T4 T5 T6 T7 T8 T9 T10 T11 T12 Tz)) : ∀ (n : Nat) (x5 : Int32) (T : SX10), tit (m10_most_L57 x1 x2 x3 x4 rc31 rc41) n (x5, T) = some R0 → Gq p l e (rq 3 64) s m args below meth c G A 6 0 0 (MQ below (QK G (some (.int R0.1)) (u10 G T0 T1 T2 T3 T4 T5 T6 T7 T8 T9 T10 T11 T12 R0.2) A) args s 0 0 A) 57 [(0, .ref T0), (1, .int x1), (2, .int x2), (3, .int x3), (4, .int x4), (5, .int x5)] [] (u10 G T0 T1 T2 T3 T4 T5 T6 T7 T8 T9 T10 T11 T12 T) := by
  intro n
  induction n with
  | zero => exact fun _ _ h => (tit_z h).elim
  | succ n ih =>
    intro x5 T h
    replace h : m10_most_B57 x1 x2 x3 x4 rc31 rc41 (tit (m10_most_L57 x1 x2 x3 x4 rc31 rc41) n) x5 T = some R0 := h
    unfold m10_most_B57 at h
    refine go_iload C dX10_most_57 5 rfl ?_
    refine go_bipush (v := 6) C dX10_most_59 rfl ?_
    refine go_icmp_ge (tgt := 129) C h dX10_most_61 rfl (fun h => ?_) (fun h => ?_)
    · refine go_iincN (lf := fun v11 => [(4, .int v11), (0, .ref T0), (1, .int x1), (2, .int x2), (3, .int x3), (5, .int x5)]) C h dX10_most_129 4 rfl rfl (by decide) (fun _ => rfl) (fun v11 h => ?_)
      refine go_goto (tgt := 41) C dX10_most_132 rfl ?_
      exact go_lv [1, 2, 3, 4, 0] rfl (hr41 v11 T h)
    · refine go_aload_n C dX10_most_64 0 rfl ?_
      refine go_get (v := .ref T7) C ffX10_28 dX10_most_65 0 rfl rfl ?_
      refine go_iload C dX10_most_68 4 rfl ?_
      refine go_aload_n C dX10_most_70 0 rfl ?_
      refine go_get (v := .ref T7) C ffX10_28 dX10_most_71 0 rfl rfl ?_
      refine go_iload C dX10_most_74 4 rfl ?_
      refine go_zaloadG (f := (g10_can T)) C h dX10_most_76 7 rfl (fun h => ?_)
      refine go_if_ne (tgt := 117) C h dX10_most_77 rfl (fun h => ?_) (fun h => ?_)
      · exact go_lv [0, 1, 2, 3, 4, 5] rfl (m10_most_J117_k C T0 T1 T2 T3 T4 T5 T6 T7 T8 T9 T10 T11 T12 T x1 x2 x3 x4 x5 x4 R0 rc31 hr31 rc41 hr41 _ (fun z0 z1 h => ih z0 z1 h) h)
      · refine go_iload C dX10_most_80 4 rfl ?_
        refine go_iload C dX10_most_82 5 rfl ?_
        obtain ⟨r13, k14, h⟩ := tbd_e h
        refine go_callS0 C cfX10_65 (wr18 _ (List.mem_of_getElem? (i := 23) rfl)) (m10_has_k l G x4 x5 r13 k14) dX10_most_84 (by decide) ⟨Nat.zero_le _, Nat.zero_le _⟩ rfl rfl (Nat.le_of_ble_eq_true rfl) ?_
        refine go_if_eq (tgt := 121) C h dX10_most_87 rfl (fun h => ?_) (fun h => ?_)
        · exact go_lv [0, 1, 2, 3, 4, 5] rfl (m10_most_J121_k C T0 T1 T2 T3 T4 T5 T6 T7 T8 T9 T10 T11 T12 T x1 x2 x3 x4 x5 x4 R0 rc31 hr31 rc41 hr41 _ (fun z0 z1 h => ih z0 z1 h) h)
        · refine go_aload_n C dX10_most_90 0 rfl ?_
          refine go_iload C dX10_most_91 5 rfl ?_
          refine go_iload_n C dX10_most_93 3 rfl ?_
          obtain ⟨r16, k17, h⟩ := tbd_e h
          refine go_callV (q0 := 0) (wr := ([] : va_W)) (w' := u10 G T0 T1 T2 T3 T4 T5 T6 T7 T8 T9 T10 T11 T12 T) C cfX10_90 viX10_may (m10_may_k l G T0 T1 T2 T3 T4 T5 T6 T7 T8 T9 T10 T11 T12 T x5 x3 r16 k17) dX10_most_94 (by decide) ⟨Nat.zero_le _, Nat.zero_le _⟩ rfl rfl (Nat.le_of_ble_eq_true rfl) rfl [0, 1, 2, 3, 4, 5, 6, 7, 8, 9, 10, 11, 12] [] [0, 1, 2, 3, 4, 5, 6, 7, 8, 9, 10, 11, 12] rfl rfl (by decide) rfl ?_
          refine go_if_eq (tgt := 121) C h dX10_most_97 rfl (fun h => ?_) (fun h => ?_)
          · exact go_lv [0, 1, 2, 3, 4, 5] rfl (m10_most_J121_k C T0 T1 T2 T3 T4 T5 T6 T7 T8 T9 T10 T11 T12 T x1 x2 x3 x4 x5 x4 R0 rc31 hr31 rc41 hr41 _ (fun z0 z1 h => ih z0 z1 h) h)
          · refine go_aload_n C dX10_most_100 0 rfl ?_
            refine go_get (v := .ref T7) C ffX10_28 dX10_most_101 0 rfl rfl ?_
            refine go_iload C dX10_most_104 4 rfl ?_
            refine go_iconst (v := 1) C dX10_most_106 rfl ?_
            refine go_iload C dX10_most_107 5 rfl ?_
            refine go_ishl C dX10_most_109 ?_
            refine go_iconst (v := -1) C dX10_most_110 rfl ?_
            refine go_ixor C dX10_most_111 ?_
            refine go_iand C dX10_most_112 ?_
            refine go_zaloadG (f := (g10_can T)) C h dX10_most_113 7 rfl (fun h => ?_)
            refine go_if_eq (tgt := 121) C h dX10_most_114 rfl (fun h => ?_) (fun h => ?_)
            · exact go_lv [0, 1, 2, 3, 4, 5] rfl (m10_most_J121_k C T0 T1 T2 T3 T4 T5 T6 T7 T8 T9 T10 T11 T12 T x1 x2 x3 x4 x5 x4 R0 rc31 hr31 rc41 hr41 _ (fun z0 z1 h => ih z0 z1 h) h)
            · exact go_lv [0, 1, 2, 3, 4, 5] rfl (m10_most_J117_k C T0 T1 T2 T3 T4 T5 T6 T7 T8 T9 T10 T11 T12 T x1 x2 x3 x4 x5 x4 R0 rc31 hr31 rc41 hr41 _ (fun z0 z1 h => ih z0 z1 h) h)

set_option maxRecDepth 100000 in
set_option maxHeartbeats 4000000 in
theorem m10_most_L41_k {p : Program} {l : Launch} {e : Env} {s : State} {m : MethodId} {args : Array Value} {below : List Frame} {meth : Method} {c : Code} {G : gG} {A : Nat → Prop} (C : Cx p e s m args meth c G RX10 cX10_most 6 (some .int) A) (T0 T1 T2 T3 T4 T5 T6 T7 T8 T9 T10 T11 T12 : Nat) (x1 : Int32) (x2 : Int32) (x3 : Int32) (R0 : Int32 × SX10) (rc31 : Int32 × SX10 → Option (Int32 × SX10)) (hr31 : ∀ (x3 : Int32) (Tz : SX10), rc31 (x3, Tz) = some R0 → Gq p l e (rq 3 64) s m args below meth c G A 6 0 0 (MQ below (QK G (some (.int R0.1)) (u10 G T0 T1 T2 T3 T4 T5 T6 T7 T8 T9 T10 T11 T12 R0.2) A) args s 0 0 A) 31 [(0, .ref T0), (1, .int x1), (2, .int x2), (3, .int x3)] [] (u10 G T0 T1 T2 T3 T4 T5 T6 T7 T8 T9 T10 T11 T12 Tz)) : ∀ (n : Nat) (x4 : Int32) (T : SX10), tit (m10_most_L41 x1 x2 x3 rc31) n (x4, T) = some R0 → Gq p l e (rq 3 64) s m args below meth c G A 6 0 0 (MQ below (QK G (some (.int R0.1)) (u10 G T0 T1 T2 T3 T4 T5 T6 T7 T8 T9 T10 T11 T12 R0.2) A) args s 0 0 A) 41 [(0, .ref T0), (1, .int x1), (2, .int x2), (3, .int x3), (4, .int x4)] [] (u10 G T0 T1 T2 T3 T4 T5 T6 T7 T8 T9 T10 T11 T12 T) := by
  intro n
  induction n with
  | zero => exact fun _ _ h => (tit_z h).elim
  | succ n ih =>
    intro x4 T h
    replace h : m10_most_B41 x1 x2 x3 rc31 (tit (m10_most_L41 x1 x2 x3 rc31) n) x4 T = some R0 := h
    unfold m10_most_B41 at h
    refine go_iload C dX10_most_41 4 rfl ?_
    refine go_if_le (tgt := 135) C h dX10_most_43 rfl (fun h => ?_) (fun h => ?_)
    · refine go_iincN (lf := fun v7 => [(3, .int v7), (0, .ref T0), (1, .int x1), (2, .int x2), (4, .int x4)]) C h dX10_most_135 3 rfl rfl (by decide) (fun _ => rfl) (fun v7 h => ?_)
      refine go_goto (tgt := 31) C dX10_most_138 rfl ?_
      exact go_lv [1, 2, 3, 0] rfl (hr31 v7 T h)
    · refine go_iload_n C dX10_most_46 2 rfl ?_
      refine go_iload_n C dX10_most_47 3 rfl ?_
      obtain ⟨r8, k9, h⟩ := tbd_e h
      refine go_callS0 C cfX10_65 (wr18 _ (List.mem_of_getElem? (i := 23) rfl)) (m10_has_k l G x2 x3 r8 k9) dX10_most_48 (by decide) ⟨Nat.zero_le _, Nat.zero_le _⟩ rfl rfl (Nat.le_of_ble_eq_true rfl) ?_
      refine go_if_ne (tgt := 135) C h dX10_most_51 rfl (fun h => ?_) (fun h => ?_)
      · refine go_iincN (lf := fun v10 => [(3, .int v10), (0, .ref T0), (1, .int x1), (2, .int x2), (4, .int x4)]) C h dX10_most_135 3 rfl rfl (by decide) (fun _ => rfl) (fun v10 h => ?_)
        refine go_goto (tgt := 31) C dX10_most_138 rfl ?_
        exact go_lv [1, 2, 3, 0] rfl (hr31 v10 T h)
      · refine go_iload_n C dX10_most_54 1 rfl ?_
        refine go_istore (lv' := [(5, .int x1), (0, .ref T0), (1, .int x1), (2, .int x2), (3, .int x3), (4, .int x4)]) C dX10_most_55 (by decide) rfl ?_
        exact go_lv [1, 2, 3, 4, 5, 0] rfl (m10_most_L57_k C T0 T1 T2 T3 T4 T5 T6 T7 T8 T9 T10 T11 T12 x1 x2 x3 x4 R0 rc31 hr31 _ (fun z0 z1 h => ih z0 z1 h) FU x1 T h)

set_option maxRecDepth 100000 in
set_option maxHeartbeats 4000000 in
theorem m10_most_L31_k {p : Program} {l : Launch} {e : Env} {s : State} {m : MethodId} {args : Array Value} {below : List Frame} {meth : Method} {c : Code} {G : gG} {A : Nat → Prop} (C : Cx p e s m args meth c G RX10 cX10_most 6 (some .int) A) (T0 T1 T2 T3 T4 T5 T6 T7 T8 T9 T10 T11 T12 : Nat) (x1 : Int32) (x2 : Int32) (R0 : Int32 × SX10)  : ∀ (n : Nat) (x3 : Int32) (T : SX10), tit (m10_most_L31 x1 x2) n (x3, T) = some R0 → Gq p l e (rq 3 64) s m args below meth c G A 6 0 0 (MQ below (QK G (some (.int R0.1)) (u10 G T0 T1 T2 T3 T4 T5 T6 T7 T8 T9 T10 T11 T12 R0.2) A) args s 0 0 A) 31 [(0, .ref T0), (1, .int x1), (2, .int x2), (3, .int x3)] [] (u10 G T0 T1 T2 T3 T4 T5 T6 T7 T8 T9 T10 T11 T12 T) := by
  intro n
  induction n with
  | zero => exact fun _ _ h => (tit_z h).elim
  | succ n ih =>
    intro x3 T h
    replace h : m10_most_B31 x1 x2 (tit (m10_most_L31 x1 x2) n) x3 T = some R0 := h
    unfold m10_most_B31 at h
    refine go_iload_n C dX10_most_31 3 rfl ?_
    refine go_bipush (v := 13) C dX10_most_32 rfl ?_
    refine go_icmp_ge (tgt := 141) C h dX10_most_34 rfl (fun h => ?_) (fun h => ?_)
    · refine go_iconst (v := 0) C dX10_most_141 rfl ?_
      refine go_istore_n (lv' := [(3, .int (0 : Int32)), (0, .ref T0), (1, .int x1), (2, .int x2)]) C dX10_most_142 (by decide) rfl ?_
      refine go_iconst (v := 1) C dX10_most_143 rfl ?_
      refine go_istore (lv' := [(4, .int (1 : Int32)), (3, .int (0 : Int32)), (0, .ref T0), (1, .int x1), (2, .int x2)]) C dX10_most_144 (by decide) rfl ?_
      exact go_lv [2, 1, 0] rfl (m10_most_L146_k C T0 T1 T2 T3 T4 T5 T6 T7 T8 T9 T10 T11 T12 T R0  FU (0 : Int32) (1 : Int32) h)
    · refine go_bipush (v := 63) C dX10_most_37 rfl ?_
      refine go_istore (lv' := [(4, .int (63 : Int32)), (0, .ref T0), (1, .int x1), (2, .int x2), (3, .int x3)]) C dX10_most_39 (by decide) rfl ?_
      exact go_lv [1, 2, 3, 4, 0] rfl (m10_most_L41_k C T0 T1 T2 T3 T4 T5 T6 T7 T8 T9 T10 T11 T12 x1 x2 x3 R0 _ (fun z0 z1 h => ih z0 z1 h) FU (63 : Int32) T h)

set_option maxRecDepth 100000 in
set_option maxHeartbeats 4000000 in
theorem m10_most_L2_k {p : Program} {l : Launch} {e : Env} {s : State} {m : MethodId} {args : Array Value} {below : List Frame} {meth : Method} {c : Code} {G : gG} {A : Nat → Prop} (C : Cx p e s m args meth c G RX10 cX10_most 6 (some .int) A) (T0 T1 T2 T3 T4 T5 T6 T7 T8 T9 T10 T11 T12 : Nat) (x1 : Int32) (x2 : Int32) (R0 : Int32 × SX10)  : ∀ (n : Nat) (x3 : Int32) (T : SX10), tit (m10_most_L2 x1 x2) n (x3, T) = some R0 → Gq p l e (rq 3 64) s m args below meth c G A 6 0 0 (MQ below (QK G (some (.int R0.1)) (u10 G T0 T1 T2 T3 T4 T5 T6 T7 T8 T9 T10 T11 T12 R0.2) A) args s 0 0 A) 2 [(0, .ref T0), (1, .int x1), (2, .int x2), (3, .int x3)] [] (u10 G T0 T1 T2 T3 T4 T5 T6 T7 T8 T9 T10 T11 T12 T) := by
  intro n
  induction n with
  | zero => exact fun _ _ h => (tit_z h).elim
  | succ n ih =>
    intro x3 T h
    replace h : m10_most_B2 x1 x2 (tit (m10_most_L2 x1 x2) n) x3 T = some R0 := h
    unfold m10_most_B2 at h
    refine go_iload_n C dX10_most_2 3 rfl ?_
    refine go_bipush (v := 64) C dX10_most_3 rfl ?_
    refine go_icmp_ge (tgt := 29) C h dX10_most_5 rfl (fun h => ?_) (fun h => ?_)
    · refine go_iconst (v := 1) C dX10_most_29 rfl ?_
      refine go_istore_n (lv' := [(3, .int (1 : Int32)), (0, .ref T0), (1, .int x1), (2, .int x2)]) C dX10_most_30 (by decide) rfl ?_
      exact go_lv [1, 2, 3, 0] rfl (m10_most_L31_k C T0 T1 T2 T3 T4 T5 T6 T7 T8 T9 T10 T11 T12 x1 x2 R0  FU (1 : Int32) T h)
    · refine go_aload_n C dX10_most_8 0 rfl ?_
      refine go_get (v := .ref T7) C ffX10_28 dX10_most_9 0 rfl rfl ?_
      refine go_iload_n C dX10_most_12 3 rfl ?_
      refine go_iload_n C dX10_most_13 3 rfl ?_
      refine go_if_ne (tgt := 21) C h dX10_most_14 rfl (fun h => ?_) (fun h => ?_)
      · refine go_iconst (v := 0) C dX10_most_21 rfl ?_
        refine go_zastoreG (f := (g10_can T)) (w' := u10 G T0 T1 T2 T3 T4 T5 T6 T7 T8 T9 T10 T11 T12 (s10_can T (upd (g10_can T) (Int32.toNatClampNeg x3) (vp_nar .boolean (0 : Int32))))) C h dX10_most_22 7 rfl z10_can (fun h => ?_)
        refine go_iincN (lf := fun v18 => [(3, .int v18), (0, .ref T0), (1, .int x1), (2, .int x2)]) C h dX10_most_23 3 rfl rfl (by decide) (fun _ => rfl) (fun v18 h => ?_)
        refine go_goto (tgt := 2) C dX10_most_26 rfl ?_
        exact go_lv [1, 2, 3, 0] rfl (ih v18 (s10_can T (upd (g10_can T) (Int32.toNatClampNeg x3) (vp_nar .boolean (0 : Int32)))) h)
      · refine go_iconst (v := 1) C dX10_most_17 rfl ?_
        refine go_goto (tgt := 22) C dX10_most_18 rfl ?_
        refine go_zastoreG (f := (g10_can T)) (w' := u10 G T0 T1 T2 T3 T4 T5 T6 T7 T8 T9 T10 T11 T12 (s10_can T (upd (g10_can T) (Int32.toNatClampNeg x3) (vp_nar .boolean (1 : Int32))))) C h dX10_most_22 7 rfl z10_can (fun h => ?_)
        refine go_iincN (lf := fun v19 => [(3, .int v19), (0, .ref T0), (1, .int x1), (2, .int x2)]) C h dX10_most_23 3 rfl rfl (by decide) (fun _ => rfl) (fun v19 h => ?_)
        refine go_goto (tgt := 2) C dX10_most_26 rfl ?_
        exact go_lv [1, 2, 3, 0] rfl (ih v19 (s10_can T (upd (g10_can T) (Int32.toNatClampNeg x3) (vp_nar .boolean (1 : Int32)))) h)

set_option maxRecDepth 100000 in
set_option maxHeartbeats 4000000 in
theorem m10_most_k (l : Launch) (G : gG) (T0 T1 T2 T3 T4 T5 T6 T7 T8 T9 T10 T11 T12 : Nat) (T : SX10) (a1 : Int32) (a2 : Int32) (R0 : Int32 × SX10) (h : m10_most T a1 a2 = some R0) : KK l G yX10_most cX10_most 6 (some .int) 3 64 [.ref T0, .int a1, .int a2] (u10 G T0 T1 T2 T3 T4 T5 T6 T7 T8 T9 T10 T11 T12 T) (some (.int R0.1)) (u10 G T0 T1 T2 T3 T4 T5 T6 T7 T8 T9 T10 T11 T12 R0.2) := by
  refine KK_intro (own := RX10) (by decide +kernel) rfl (Nat.le_of_ble_eq_true rfl) rfl ?_
  intro p e s m args below meth c A C
  unfold m10_most at h
  refine go_iconst (v := 0) C dX10_most_0 rfl ?_
  refine go_istore_n (lv' := [(3, .int (0 : Int32)), (0, .ref T0), (1, .int a1), (2, .int a2)]) C dX10_most_1 (by decide) rfl ?_
  exact go_lv [1, 2, 3, 0] rfl (m10_most_L2_k C T0 T1 T2 T3 T4 T5 T6 T7 T8 T9 T10 T11 T12 a1 a2 R0  FU (0 : Int32) T h)

set_option maxRecDepth 100000 in
set_option maxHeartbeats 4000000 in
theorem m10_stand_J144_k {p : Program} {l : Launch} {e : Env} {s : State} {m : MethodId} {args : Array Value} {below : List Frame} {meth : Method} {c : Code} {G : gG} {A : Nat → Prop} (C : Cx p e s m args meth c G RX10 cX10_stand 7 (some .int) A) (T0 T1 T2 T3 T4 T5 T6 T7 T8 T9 T10 T11 T12 : Nat) (T : SX10) (x1 : Int32) (x3 : Int32) (x4 : Int32) (x5 : Int32) (y0 : Int32) (y1 : Int32) (R0 : Int32 × SX10) (rc37 : Int32 × Int32 × Int32 × Int32 × SX10 → Option (Int32 × SX10)) (hr37 : ∀ (x2 : Int32) (x3 : Int32) (x4 : Int32) (x5 : Int32) (Tz : SX10), rc37 (x2, x3, x4, x5, Tz) = some R0 → Gq p l e (rq 4 89) s m args below meth c G A 7 0 0 (MQ below (QK G (some (.int R0.1)) (u10 G T0 T1 T2 T3 T4 T5 T6 T7 T8 T9 T10 T11 T12 R0.2) A) args s 0 0 A) 37 [(0, .ref T0), (1, .int x1), (2, .int x2), (3, .int x3), (4, .int x4), (5, .int x5)] [] (u10 G T0 T1 T2 T3 T4 T5 T6 T7 T8 T9 T10 T11 T12 Tz)) (h : m10_stand_J144 T x1 x3 x4 x5 y0 y1 rc37 = some R0) : Gq p l e (rq 4 89) s m args below meth c G A 7 0 0 (MQ below (QK G (some (.int R0.1)) (u10 G T0 T1 T2 T3 T4 T5 T6 T7 T8 T9 T10 T11 T12 R0.2) A) args s 0 0 A) 144 [(0, .ref T0), (1, .int x1), (3, .int x3), (4, .int x4), (5, .int x5)] [.int y1, .int y0] (u10 G T0 T1 T2 T3 T4 T5 T6 T7 T8 T9 T10 T11 T12 T) := by
  unfold m10_stand_J144 at h
  refine go_isub C dX10_stand_144 ?_
  refine go_istore_nN (lf := fun v9 => [(2, .int v9), (0, .ref T0), (1, .int x1), (3, .int x3), (4, .int x4), (5, .int x5)]) C h dX10_stand_145 (by decide) (fun _ => rfl) (fun v9 h => ?_)
  refine go_iincN (lf := fun v10 => [(5, .int v10), (2, .int v9), (0, .ref T0), (1, .int x1), (3, .int x3), (4, .int x4)]) C h dX10_stand_146 5 rfl rfl (by decide) (fun _ => rfl) (fun v10 h => ?_)
  refine go_goto (tgt := 37) C dX10_stand_149 rfl ?_
  exact go_lv [2, 3, 1, 4, 5, 0] rfl (hr37 v9 x3 x4 v10 T h)

set_option maxRecDepth 100000 in
set_option maxHeartbeats 4000000 in
theorem m10_stand_J131_k {p : Program} {l : Launch} {e : Env} {s : State} {m : MethodId} {args : Array Value} {below : List Frame} {meth : Method} {c : Code} {G : gG} {A : Nat → Prop} (C : Cx p e s m args meth c G RX10 cX10_stand 7 (some .int) A) (T0 T1 T2 T3 T4 T5 T6 T7 T8 T9 T10 T11 T12 : Nat) (T : SX10) (x1 : Int32) (x2 : Int32) (x4 : Int32) (x5 : Int32) (y0 : Int32) (y1 : Int32) (R0 : Int32 × SX10) (rc37 : Int32 × Int32 × Int32 × Int32 × SX10 → Option (Int32 × SX10)) (hr37 : ∀ (x2 : Int32) (x3 : Int32) (x4 : Int32) (x5 : Int32) (Tz : SX10), rc37 (x2, x3, x4, x5, Tz) = some R0 → Gq p l e (rq 4 89) s m args below meth c G A 7 0 0 (MQ below (QK G (some (.int R0.1)) (u10 G T0 T1 T2 T3 T4 T5 T6 T7 T8 T9 T10 T11 T12 R0.2) A) args s 0 0 A) 37 [(0, .ref T0), (1, .int x1), (2, .int x2), (3, .int x3), (4, .int x4), (5, .int x5)] [] (u10 G T0 T1 T2 T3 T4 T5 T6 T7 T8 T9 T10 T11 T12 Tz)) (h : m10_stand_J131 T x1 x2 x4 x5 y0 y1 rc37 = some R0) : Gq p l e (rq 4 89) s m args below meth c G A 7 0 0 (MQ below (QK G (some (.int R0.1)) (u10 G T0 T1 T2 T3 T4 T5 T6 T7 T8 T9 T10 T11 T12 R0.2) A) args s 0 0 A) 131 [(0, .ref T0), (1, .int x1), (2, .int x2), (4, .int x4), (5, .int x5)] [.int y1, .int y0] (u10 G T0 T1 T2 T3 T4 T5 T6 T7 T8 T9 T10 T11 T12 T) := by
  unfold m10_stand_J131 at h
  refine go_ior C dX10_stand_131 ?_
  refine go_istore_nN (lf := fun v8 => [(3, .int v8), (0, .ref T0), (1, .int x1), (2, .int x2), (4, .int x4), (5, .int x5)]) C h dX10_stand_132 (by decide) (fun _ => rfl) (fun v8 h => ?_)
  refine go_iload_n C dX10_stand_133 3 rfl ?_
  refine go_iload C dX10_stand_134 4 rfl ?_
  refine go_if_ge (tgt := 143) C h dX10_stand_136 rfl (fun h => ?_) (fun h => ?_)
  · refine go_iconst (v := 1) C dX10_stand_143 rfl ?_
    exact go_lv [1, 2, 0, 4, 5] rfl (m10_stand_J144_k C T0 T1 T2 T3 T4 T5 T6 T7 T8 T9 T10 T11 T12 T x1 v8 x4 x5 x2 (1 : Int32) R0 rc37 hr37 h)
  · refine go_iconst (v := 0) C dX10_stand_139 rfl ?_
    refine go_goto (tgt := 144) C dX10_stand_140 rfl ?_
    exact go_lv [1, 2, 0, 4, 5] rfl (m10_stand_J144_k C T0 T1 T2 T3 T4 T5 T6 T7 T8 T9 T10 T11 T12 T x1 v8 x4 x5 x2 (0 : Int32) R0 rc37 hr37 h)

set_option maxRecDepth 100000 in
set_option maxHeartbeats 4000000 in
theorem m10_stand_J117_k {p : Program} {l : Launch} {e : Env} {s : State} {m : MethodId} {args : Array Value} {below : List Frame} {meth : Method} {c : Code} {G : gG} {A : Nat → Prop} (C : Cx p e s m args meth c G RX10 cX10_stand 7 (some .int) A) (T0 T1 T2 T3 T4 T5 T6 T7 T8 T9 T10 T11 T12 : Nat) (T : SX10) (x1 : Int32) (x2 : Int32) (x3 : Int32) (x4 : Int32) (x5 : Int32) (R0 : Int32 × SX10) (rc37 : Int32 × Int32 × Int32 × Int32 × SX10 → Option (Int32 × SX10)) (hr37 : ∀ (x2 : Int32) (x3 : Int32) (x4 : Int32) (x5 : Int32) (Tz : SX10), rc37 (x2, x3, x4, x5, Tz) = some R0 → Gq p l e (rq 4 89) s m args below meth c G A 7 0 0 (MQ below (QK G (some (.int R0.1)) (u10 G T0 T1 T2 T3 T4 T5 T6 T7 T8 T9 T10 T11 T12 R0.2) A) args s 0 0 A) 37 [(0, .ref T0), (1, .int x1), (2, .int x2), (3, .int x3), (4, .int x4), (5, .int x5)] [] (u10 G T0 T1 T2 T3 T4 T5 T6 T7 T8 T9 T10 T11 T12 Tz)) (h : m10_stand_J117 T x1 x2 x3 x4 x5 rc37 = some R0) : Gq p l e (rq 4 89) s m args below meth c G A 7 0 0 (MQ below (QK G (some (.int R0.1)) (u10 G T0 T1 T2 T3 T4 T5 T6 T7 T8 T9 T10 T11 T12 R0.2) A) args s 0 0 A) 117 [(0, .ref T0), (1, .int x1), (2, .int x2), (3, .int x3), (4, .int x4), (5, .int x5)] [] (u10 G T0 T1 T2 T3 T4 T5 T6 T7 T8 T9 T10 T11 T12 T) := by
  unfold m10_stand_J117 at h
  refine go_iload_n C dX10_stand_117 3 rfl ?_
  refine go_iload C dX10_stand_118 4 rfl ?_
  refine go_if_ge (tgt := 127) C h dX10_stand_120 rfl (fun h => ?_) (fun h => ?_)
  · refine go_iconst (v := 1) C dX10_stand_127 rfl ?_
    refine go_iload C dX10_stand_128 4 rfl ?_
    refine go_ishl C dX10_stand_130 ?_
    exact go_lv [0, 1, 2, 4, 5] rfl (m10_stand_J131_k C T0 T1 T2 T3 T4 T5 T6 T7 T8 T9 T10 T11 T12 T x1 x2 x4 x5 x3 ((1 : Int32) <<< (x4 &&& 31)) R0 rc37 hr37 h)
  · refine go_iconst (v := 0) C dX10_stand_123 rfl ?_
    refine go_goto (tgt := 131) C dX10_stand_124 rfl ?_
    exact go_lv [0, 1, 2, 4, 5] rfl (m10_stand_J131_k C T0 T1 T2 T3 T4 T5 T6 T7 T8 T9 T10 T11 T12 T x1 x2 x4 x5 x3 (0 : Int32) R0 rc37 hr37 h)

set_option maxRecDepth 100000 in
set_option maxHeartbeats 4000000 in
theorem m10_stand_J107_k {p : Program} {l : Launch} {e : Env} {s : State} {m : MethodId} {args : Array Value} {below : List Frame} {meth : Method} {c : Code} {G : gG} {A : Nat → Prop} (C : Cx p e s m args meth c G RX10 cX10_stand 7 (some .int) A) (T0 T1 T2 T3 T4 T5 T6 T7 T8 T9 T10 T11 T12 : Nat) (T : SX10) (x1 : Int32) (x2 : Int32) (x3 : Int32) (x4 : Int32) (x5 : Int32) (x6 : Int32) (R0 : Int32 × SX10) (rc37 : Int32 × Int32 × Int32 × Int32 × SX10 → Option (Int32 × SX10)) (hr37 : ∀ (x2 : Int32) (x3 : Int32) (x4 : Int32) (x5 : Int32) (Tz : SX10), rc37 (x2, x3, x4, x5, Tz) = some R0 → Gq p l e (rq 4 89) s m args below meth c G A 7 0 0 (MQ below (QK G (some (.int R0.1)) (u10 G T0 T1 T2 T3 T4 T5 T6 T7 T8 T9 T10 T11 T12 R0.2) A) args s 0 0 A) 37 [(0, .ref T0), (1, .int x1), (2, .int x2), (3, .int x3), (4, .int x4), (5, .int x5)] [] (u10 G T0 T1 T2 T3 T4 T5 T6 T7 T8 T9 T10 T11 T12 Tz)) (rc50 : Int32 × Int32 × SX10 → Option (Int32 × SX10)) (hr50 : ∀ (x4 : Int32) (x6 : Int32) (Tz : SX10), rc50 (x4, x6, Tz) = some R0 → Gq p l e (rq 4 89) s m args below meth c G A 7 0 0 (MQ below (QK G (some (.int R0.1)) (u10 G T0 T1 T2 T3 T4 T5 T6 T7 T8 T9 T10 T11 T12 R0.2) A) args s 0 0 A) 50 [(0, .ref T0), (1, .int x1), (2, .int x2), (3, .int x3), (4, .int x4), (5, .int x5), (6, .int x6)] [] (u10 G T0 T1 T2 T3 T4 T5 T6 T7 T8 T9 T10 T11 T12 Tz)) (h : m10_stand_J107 T x1 x2 x3 x4 x5 x6 rc37 rc50 = some R0) : Gq p l e (rq 4 89) s m args below meth c G A 7 0 0 (MQ below (QK G (some (.int R0.1)) (u10 G T0 T1 T2 T3 T4 T5 T6 T7 T8 T9 T10 T11 T12 R0.2) A) args s 0 0 A) 107 [(0, .ref T0), (1, .int x1), (2, .int x2), (3, .int x3), (4, .int x4), (5, .int x5), (6, .int x6)] [] (u10 G T0 T1 T2 T3 T4 T5 T6 T7 T8 T9 T10 T11 T12 T) := by
  unfold m10_stand_J107 at h
  refine go_iload C dX10_stand_107 4 rfl ?_
  refine go_istore (lv' := [(4, .int x4), (0, .ref T0), (1, .int x1), (2, .int x2), (3, .int x3), (5, .int x5), (6, .int x6)]) C dX10_stand_109 (by decide) rfl ?_
  refine go_iincN (lf := fun v13 => [(6, .int v13), (4, .int x4), (0, .ref T0), (1, .int x1), (2, .int x2), (3, .int x3), (5, .int x5)]) C h dX10_stand_111 6 rfl rfl (by decide) (fun _ => rfl) (fun v13 h => ?_)
  refine go_goto (tgt := 50) C dX10_stand_114 rfl ?_
  exact go_lv [2, 3, 4, 5, 1, 6, 0] rfl (hr50 x4 v13 T h)

set_option maxRecDepth 100000 in
set_option maxHeartbeats 4000000 in
theorem m10_stand_L50_k {p : Program} {l : Launch} {e : Env} {s : State} {m : MethodId} {args : Array Value} {below : List Frame} {meth : Method} {c : Code} {G : gG} {A : Nat → Prop} (C : Cx p e s m args meth c G RX10 cX10_stand 7 (some .int) A) (T0 T1 T2 T3 T4 T5 T6 T7 T8 T9 T10 T11 T12 : Nat) (x1 : Int32) (x2 : Int32) (x3 : Int32) (x5 : Int32) (R0 : Int32 × SX10) (rc37 : Int32 × Int32 × Int32 × Int32 × SX10 → Option (Int32 × SX10)) (hr37 : ∀ (x2 : Int32) (x3 : Int32) (x4 : Int32) (x5 : Int32) (Tz : SX10), rc37 (x2, x3, x4, x5, Tz) = some R0 → Gq p l e (rq 4 89) s m args below meth c G A 7 0 0 (MQ below (QK G (some (.int R0.1)) (u10 G T0 T1 T2 T3 T4 T5 T6 T7 T8 T9 T10 T11 T12 R0.2) A) args s 0 0 A) 37 [(0, .ref T0), (1, .int x1), (2, .int x2), (3, .int x3), (4, .int x4), (5, .int x5)] [] (u10 G T0 T1 T2 T3 T4 T5 T6 T7 T8 T9 T10 T11 T12 Tz)) : ∀ (n : Nat) (x4 : Int32) (x6 : Int32) (T : SX10), tit (m10_stand_L50 x1 x2 x3 x5 rc37) n (x4, x6, T) = some R0 → Gq p l e (rq 4 89) s m args below meth c G A 7 0 0 (MQ below (QK G (some (.int R0.1)) (u10 G T0 T1 T2 T3 T4 T5 T6 T7 T8 T9 T10 T11 T12 R0.2) A) args s 0 0 A) 50 [(0, .ref T0), (1, .int x1), (2, .int x2), (3, .int x3), (4, .int x4), (5, .int x5), (6, .int x6)] [] (u10 G T0 T1 T2 T3 T4 T5 T6 T7 T8 T9 T10 T11 T12 T) := by
  intro n
  induction n with
  | zero => exact fun _ _ _ h => (tit_z h).elim
  | succ n ih =>
    intro x4 x6 T h
    replace h : m10_stand_B50 x1 x2 x3 x5 rc37 (tit (m10_stand_L50 x1 x2 x3 x5 rc37) n) x4 x6 T = some R0 := h
    unfold m10_stand_B50 at h
    refine go_iload C dX10_stand_50 6 rfl ?_
    refine go_bipush (v := 13) C dX10_stand_52 rfl ?_
    refine go_icmp_ge (tgt := 117) C h dX10_stand_54 rfl (fun h => ?_) (fun h => ?_)
    · exact go_lv [0, 1, 2, 3, 4, 5] rfl (m10_stand_J117_k C T0 T1 T2 T3 T4 T5 T6 T7 T8 T9 T10 T11 T12 T x1 x2 x3 x4 x5 R0 rc37 hr37 h)
    · refine go_iload C dX10_stand_57 4 rfl ?_
      refine go_if_ge (tgt := 117) C h dX10_stand_59 rfl (fun h => ?_) (fun h => ?_)
      · exact go_lv [0, 1, 2, 3, 4, 5] rfl (m10_stand_J117_k C T0 T1 T2 T3 T4 T5 T6 T7 T8 T9 T10 T11 T12 T x1 x2 x3 x4 x5 R0 rc37 hr37 h)
      · refine go_iload_n C dX10_stand_62 3 rfl ?_
        refine go_iload C dX10_stand_63 6 rfl ?_
        obtain ⟨r11, k12, h⟩ := tbd_e h
        refine go_callS0 C cfX10_65 (wr18 _ (List.mem_of_getElem? (i := 23) rfl)) (m10_has_k l G x3 x6 r11 k12) dX10_stand_65 (by decide) ⟨Nat.zero_le _, Nat.zero_le _⟩ rfl rfl (Nat.le_of_ble_eq_true rfl) ?_
        refine go_if_ne (tgt := 107) C h dX10_stand_68 rfl (fun h => ?_) (fun h => ?_)
        · exact go_lv [0, 1, 2, 3, 4, 5, 6] rfl (m10_stand_J107_k C T0 T1 T2 T3 T4 T5 T6 T7 T8 T9 T10 T11 T12 T x1 x2 x3 x4 x5 x6 R0 rc37 hr37 _ (fun z0 z1 z2 h => ih z0 z1 z2 h) h)
        · refine go_aload_n C dX10_stand_71 0 rfl ?_
          refine go_iload C dX10_stand_72 5 rfl ?_
          refine go_iload C dX10_stand_74 6 rfl ?_
          obtain ⟨r14, k15, h⟩ := tbd_e h
          refine go_callV (q0 := 0) (wr := ([] : va_W)) (w' := u10 G T0 T1 T2 T3 T4 T5 T6 T7 T8 T9 T10 T11 T12 T) C cfX10_90 viX10_may (m10_may_k l G T0 T1 T2 T3 T4 T5 T6 T7 T8 T9 T10 T11 T12 T x5 x6 r14 k15) dX10_stand_76 (by decide) ⟨Nat.zero_le _, Nat.zero_le _⟩ rfl rfl (Nat.le_of_ble_eq_true rfl) rfl [0, 1, 2, 3, 4, 5, 6, 7, 8, 9, 10, 11, 12] [] [0, 1, 2, 3, 4, 5, 6, 7, 8, 9, 10, 11, 12] rfl rfl (by decide) rfl ?_
          refine go_if_eq (tgt := 107) C h dX10_stand_79 rfl (fun h => ?_) (fun h => ?_)
          · exact go_lv [0, 1, 2, 3, 4, 5, 6] rfl (m10_stand_J107_k C T0 T1 T2 T3 T4 T5 T6 T7 T8 T9 T10 T11 T12 T x1 x2 x3 x4 x5 x6 R0 rc37 hr37 _ (fun z0 z1 z2 h => ih z0 z1 z2 h) h)
          · refine go_iconst (v := 1) C dX10_stand_82 rfl ?_
            refine go_aload_n C dX10_stand_83 0 rfl ?_
            refine go_iload C dX10_stand_84 5 rfl ?_
            refine go_iconst (v := 1) C dX10_stand_86 rfl ?_
            refine go_iadd C dX10_stand_87 ?_
            refine go_iload_n C dX10_stand_88 3 rfl ?_
            refine go_iconst (v := 1) C dX10_stand_89 rfl ?_
            refine go_iload C dX10_stand_90 6 rfl ?_
            refine go_ishl C dX10_stand_92 ?_
            refine go_ior C dX10_stand_93 ?_
            obtain ⟨r16, k17, h⟩ := tbd_e h
            refine go_callV (q0 := 0) (wr := ([] : va_W)) (w' := u10 G T0 T1 T2 T3 T4 T5 T6 T7 T8 T9 T10 T11 T12 r16.2) C cfX10_142 viX10_most (m10_most_k l G T0 T1 T2 T3 T4 T5 T6 T7 T8 T9 T10 T11 T12 T (x5 + (1 : Int32)) (x3 ||| ((1 : Int32) <<< (x6 &&& 31))) r16 k17) dX10_stand_94 (by decide) ⟨Nat.zero_le _, Nat.zero_le _⟩ rfl rfl (Nat.le_of_ble_eq_true rfl) rfl [0, 1, 2, 3, 4, 5, 6, 7, 8, 9, 10, 11, 12] [] [0, 1, 2, 3, 4, 5, 6, 7, 8, 9, 10, 11, 12] rfl rfl (by decide) rfl ?_
            refine go_iadd C dX10_stand_97 ?_
            refine go_iload_n C dX10_stand_98 2 rfl ?_
            refine go_icmp_ne (tgt := 107) C h dX10_stand_99 rfl (fun h => ?_) (fun h => ?_)
            · exact go_lv [0, 1, 2, 3, 4, 5, 6] rfl (m10_stand_J107_k C T0 T1 T2 T3 T4 T5 T6 T7 T8 T9 T10 T11 T12 r16.2 x1 x2 x3 x4 x5 x6 R0 rc37 hr37 _ (fun z0 z1 z2 h => ih z0 z1 z2 h) h)
            · refine go_iload C dX10_stand_102 6 rfl ?_
              refine go_goto (tgt := 109) C dX10_stand_104 rfl ?_
              refine go_istore (lv' := [(4, .int x6), (0, .ref T0), (1, .int x1), (2, .int x2), (3, .int x3), (5, .int x5), (6, .int x6)]) C dX10_stand_109 (by decide) rfl ?_
              refine go_iincN (lf := fun v18 => [(6, .int v18), (4, .int x6), (0, .ref T0), (1, .int x1), (2, .int x2), (3, .int x3), (5, .int x5)]) C h dX10_stand_111 6 rfl rfl (by decide) (fun _ => rfl) (fun v18 h => ?_)
              refine go_goto (tgt := 50) C dX10_stand_114 rfl ?_
              exact go_lv [2, 3, 4, 5, 1, 6, 0] rfl (ih x6 v18 r16.2 h)

set_option maxRecDepth 100000 in
set_option maxHeartbeats 4000000 in
theorem m10_stand_L37_k {p : Program} {l : Launch} {e : Env} {s : State} {m : MethodId} {args : Array Value} {below : List Frame} {meth : Method} {c : Code} {G : gG} {A : Nat → Prop} (C : Cx p e s m args meth c G RX10 cX10_stand 7 (some .int) A) (T0 T1 T2 T3 T4 T5 T6 T7 T8 T9 T10 T11 T12 : Nat) (x1 : Int32) (R0 : Int32 × SX10)  : ∀ (n : Nat) (x2 : Int32) (x3 : Int32) (x4 : Int32) (x5 : Int32) (T : SX10), tit (m10_stand_L37 x1) n (x2, x3, x4, x5, T) = some R0 → Gq p l e (rq 4 89) s m args below meth c G A 7 0 0 (MQ below (QK G (some (.int R0.1)) (u10 G T0 T1 T2 T3 T4 T5 T6 T7 T8 T9 T10 T11 T12 R0.2) A) args s 0 0 A) 37 [(0, .ref T0), (1, .int x1), (2, .int x2), (3, .int x3), (4, .int x4), (5, .int x5)] [] (u10 G T0 T1 T2 T3 T4 T5 T6 T7 T8 T9 T10 T11 T12 T) := by
  intro n
  induction n with
  | zero => exact fun _ _ _ _ _ h => (tit_z h).elim
  | succ n ih =>
    intro x2 x3 x4 x5 T h
    replace h : m10_stand_B37 x1 (tit (m10_stand_L37 x1) n) x2 x3 x4 x5 T = some R0 := h
    unfold m10_stand_B37 at h
    refine go_iload C dX10_stand_37 5 rfl ?_
    refine go_iload_n C dX10_stand_39 1 rfl ?_
    refine go_icmp_gt (tgt := 152) C h dX10_stand_40 rfl (fun h => ?_) (fun h => ?_)
    · refine go_iload C dX10_stand_152 4 rfl ?_
      cases h
      exact go_iret C dX10_stand_154 rfl rfl
    · refine go_bipush (v := -6) C dX10_stand_43 rfl ?_
      refine go_istore (lv' := [(4, .int (-6 : Int32)), (0, .ref T0), (1, .int x1), (2, .int x2), (3, .int x3), (5, .int x5)]) C dX10_stand_45 (by decide) rfl ?_
      refine go_iconst (v := 1) C dX10_stand_47 rfl ?_
      refine go_istore (lv' := [(6, .int (1 : Int32)), (4, .int (-6 : Int32)), (0, .ref T0), (1, .int x1), (2, .int x2), (3, .int x3), (5, .int x5)]) C dX10_stand_48 (by decide) rfl ?_
      exact go_lv [2, 3, 4, 5, 1, 6, 0] rfl (m10_stand_L50_k C T0 T1 T2 T3 T4 T5 T6 T7 T8 T9 T10 T11 T12 x1 x2 x3 x5 R0 _ (fun z0 z1 z2 z3 z4 h => ih z0 z1 z2 z3 z4 h) FU (-6 : Int32) (1 : Int32) T h)

set_option maxRecDepth 100000 in
set_option maxHeartbeats 4000000 in
theorem m10_stand_k (l : Launch) (G : gG) (T0 T1 T2 T3 T4 T5 T6 T7 T8 T9 T10 T11 T12 : Nat) (T : SX10) (a1 : Int32) (R0 : Int32 × SX10) (h : m10_stand T a1 = some R0) : KK l G yX10_stand cX10_stand 7 (some .int) 4 89 [.ref T0, .int a1] (u10 G T0 T1 T2 T3 T4 T5 T6 T7 T8 T9 T10 T11 T12 T) (some (.int R0.1)) (u10 G T0 T1 T2 T3 T4 T5 T6 T7 T8 T9 T10 T11 T12 R0.2) := by
  refine KK_intro (own := RX10) (by decide +kernel) rfl (Nat.le_of_ble_eq_true rfl) rfl ?_
  intro p e s m args below meth c A C
  unfold m10_stand at h
  refine go_iload_n C dX10_stand_0 1 rfl ?_
  refine go_iconst (v := -1) C dX10_stand_1 rfl ?_
  refine go_iconst (v := 5) C dX10_stand_2 rfl ?_
  obtain ⟨r1, k2, h⟩ := tbd_e h
  refine go_callS0 C cfX10_48 (wr8 _ (List.mem_of_getElem? (i := 3) rfl)) (m10_in_k l G a1 (-1 : Int32) (5 : Int32) r1 k2) dX10_stand_3 (by decide) ⟨Nat.zero_le _, Nat.zero_le _⟩ rfl rfl (Nat.le_of_ble_eq_true rfl) ?_
  refine go_if_ne (tgt := 11) C h dX10_stand_6 rfl (fun h => ?_) (fun h => ?_)
  · refine go_aload_n C dX10_stand_11 0 rfl ?_
    obtain ⟨r3, k4, h⟩ := tbd_e h
    refine go_callV (q0 := 0) (wr := ([] : va_W)) (w' := u10 G T0 T1 T2 T3 T4 T5 T6 T7 T8 T9 T10 T11 T12 r3) C cfX10_110 viX10_asNow (m10_asNow_k l G T0 T1 T2 T3 T4 T5 T6 T7 T8 T9 T10 T11 T12 T r3 k4) dX10_stand_12 (by decide) ⟨Nat.zero_le _, Nat.zero_le _⟩ rfl rfl (Nat.le_of_ble_eq_true rfl) rfl [0, 1, 2, 3, 4, 5, 6, 7, 8, 9, 10, 11, 12] [] [0, 1, 2, 3, 4, 5, 6, 7, 8, 9, 10, 11, 12] rfl rfl (by decide) rfl ?_
    refine go_aload_n C dX10_stand_15 0 rfl ?_
    refine go_iconst (v := 0) C dX10_stand_16 rfl ?_
    refine go_iconst (v := 0) C dX10_stand_17 rfl ?_
    obtain ⟨r5, k6, h⟩ := tbd_e h
    refine go_callV (q0 := 0) (wr := ([] : va_W)) (w' := u10 G T0 T1 T2 T3 T4 T5 T6 T7 T8 T9 T10 T11 T12 r5.2) C cfX10_142 viX10_most (m10_most_k l G T0 T1 T2 T3 T4 T5 T6 T7 T8 T9 T10 T11 T12 r3 (0 : Int32) (0 : Int32) r5 k6) dX10_stand_18 (by decide) ⟨Nat.zero_le _, Nat.zero_le _⟩ rfl rfl (Nat.le_of_ble_eq_true rfl) rfl [0, 1, 2, 3, 4, 5, 6, 7, 8, 9, 10, 11, 12] [] [0, 1, 2, 3, 4, 5, 6, 7, 8, 9, 10, 11, 12] rfl rfl (by decide) rfl ?_
    refine go_istore_nN (lf := fun v7 => [(2, .int v7), (0, .ref T0), (1, .int a1)]) C h dX10_stand_21 (by decide) (fun _ => rfl) (fun v7 h => ?_)
    refine go_iload_n C dX10_stand_22 2 rfl ?_
    refine go_if_ge (tgt := 28) C h dX10_stand_23 rfl (fun h => ?_) (fun h => ?_)
    · refine go_iconst (v := 0) C dX10_stand_28 rfl ?_
      refine go_istore_n (lv' := [(3, .int (0 : Int32)), (2, .int v7), (0, .ref T0), (1, .int a1)]) C dX10_stand_29 (by decide) rfl ?_
      refine go_bipush (v := -6) C dX10_stand_30 rfl ?_
      refine go_istore (lv' := [(4, .int (-6 : Int32)), (3, .int (0 : Int32)), (2, .int v7), (0, .ref T0), (1, .int a1)]) C dX10_stand_32 (by decide) rfl ?_
      refine go_iconst (v := 0) C dX10_stand_34 rfl ?_
      refine go_istore (lv' := [(5, .int (0 : Int32)), (4, .int (-6 : Int32)), (3, .int (0 : Int32)), (2, .int v7), (0, .ref T0), (1, .int a1)]) C dX10_stand_35 (by decide) rfl ?_
      exact go_lv [4, 5, 3, 2, 1, 0] rfl (m10_stand_L37_k C T0 T1 T2 T3 T4 T5 T6 T7 T8 T9 T10 T11 T12 a1 R0  FU v7 (0 : Int32) (-6 : Int32) (0 : Int32) r5.2 h)
    · refine go_iload_n C dX10_stand_26 0 rfl ?_
      cases h
      exact go_iret C dX10_stand_27 rfl rfl
  · refine go_iconst (v := -1) C dX10_stand_9 rfl ?_
    cases h
    exact go_iret C dX10_stand_10 rfl rfl

set_option maxRecDepth 100000 in
set_option maxHeartbeats 4000000 in
theorem m10_wetOnes_J161_k {p : Program} {l : Launch} {e : Env} {s : State} {m : MethodId} {args : Array Value} {below : List Frame} {meth : Method} {c : Code} {G : gG} {A : Nat → Prop} (C : Cx p e s m args meth c G RX10 cX10_wetOnes 9 (some .int) A) (T0 T1 T2 T3 T4 T5 T6 T7 T8 T9 T10 T11 T12 : Nat) (T : SX10) (x1 : Int32) (x2 : Int32) (x4 : Int32) (x5 : Int32) (y0 : Int32) (R0 : Int32) (rc13 : Int32 × Int32 × Int32 → Option (Int32)) (hr13 : ∀ (x3 : Int32) (x4 : Int32) (x5 : Int32), rc13 (x3, x4, x5) = some R0 → Gq p l e (rq 3 64) s m args below meth c G A 9 0 0 (MQ below (QK G (some (.int R0)) (u10 G T0 T1 T2 T3 T4 T5 T6 T7 T8 T9 T10 T11 T12 T) A) args s 0 0 A) 13 [(0, .ref T0), (1, .int x1), (2, .int x2), (3, .int x3), (4, .int x4), (5, .int x5)] [] (u10 G T0 T1 T2 T3 T4 T5 T6 T7 T8 T9 T10 T11 T12 T)) (h : m10_wetOnes_J161 T x1 x2 x4 x5 y0 rc13 = some R0) : Gq p l e (rq 3 64) s m args below meth c G A 9 0 0 (MQ below (QK G (some (.int R0)) (u10 G T0 T1 T2 T3 T4 T5 T6 T7 T8 T9 T10 T11 T12 T) A) args s 0 0 A) 161 [(0, .ref T0), (1, .int x1), (2, .int x2), (4, .int x4), (5, .int x5)] [.int y0] (u10 G T0 T1 T2 T3 T4 T5 T6 T7 T8 T9 T10 T11 T12 T) := by
  unfold m10_wetOnes_J161 at h
  refine go_iconst (v := 0) C dX10_wetOnes_161 rfl ?_
  refine go_ior C dX10_wetOnes_162 ?_
  refine go_istore_nN (lf := fun v3 => [(3, .int v3), (0, .ref T0), (1, .int x1), (2, .int x2), (4, .int x4), (5, .int x5)]) C h dX10_wetOnes_163 (by decide) (fun _ => rfl) (fun v3 h => ?_)
  refine go_goto (tgt := 13) C dX10_wetOnes_164 rfl ?_
  exact go_lv [1, 2, 3, 0, 4, 5] rfl (hr13 v3 x4 x5 h)

set_option maxRecDepth 100000 in
set_option maxHeartbeats 4000000 in
theorem m10_wetOnes_J139_k {p : Program} {l : Launch} {e : Env} {s : State} {m : MethodId} {args : Array Value} {below : List Frame} {meth : Method} {c : Code} {G : gG} {A : Nat → Prop} (C : Cx p e s m args meth c G RX10 cX10_wetOnes 9 (some .int) A) (T0 T1 T2 T3 T4 T5 T6 T7 T8 T9 T10 T11 T12 : Nat) (T : SX10) (x1 : Int32) (x2 : Int32) (x3 : Int32) (x5 : Int32) (x6 : Int32) (y0 : Int32) (R0 : Int32) (rc13 : Int32 × Int32 × Int32 → Option (Int32)) (hr13 : ∀ (x3 : Int32) (x4 : Int32) (x5 : Int32), rc13 (x3, x4, x5) = some R0 → Gq p l e (rq 3 64) s m args below meth c G A 9 0 0 (MQ below (QK G (some (.int R0)) (u10 G T0 T1 T2 T3 T4 T5 T6 T7 T8 T9 T10 T11 T12 T) A) args s 0 0 A) 13 [(0, .ref T0), (1, .int x1), (2, .int x2), (3, .int x3), (4, .int x4), (5, .int x5)] [] (u10 G T0 T1 T2 T3 T4 T5 T6 T7 T8 T9 T10 T11 T12 T)) (h : m10_wetOnes_J139 T x1 x2 x3 x5 x6 y0 rc13 = some R0) : Gq p l e (rq 3 64) s m args below meth c G A 9 0 0 (MQ below (QK G (some (.int R0)) (u10 G T0 T1 T2 T3 T4 T5 T6 T7 T8 T9 T10 T11 T12 T) A) args s 0 0 A) 139 [(0, .ref T0), (1, .int x1), (2, .int x2), (3, .int x3), (5, .int x5), (6, .int x6)] [.int y0] (u10 G T0 T1 T2 T3 T4 T5 T6 T7 T8 T9 T10 T11 T12 T) := by
  unfold m10_wetOnes_J139 at h
  refine go_istore (lv' := [(4, .int y0), (0, .ref T0), (1, .int x1), (2, .int x2), (3, .int x3), (5, .int x5), (6, .int x6)]) C dX10_wetOnes_139 (by decide) rfl ?_
  refine go_iload_n C dX10_wetOnes_141 4 rfl ?_
  refine go_iload C dX10_wetOnes_142 5 rfl ?_
  refine go_if_eq (tgt := 161) C h dX10_wetOnes_144 rfl (fun h => ?_) (fun h => ?_)
  · exact go_lv [1, 2, 3, 0, 5] rfl (m10_wetOnes_J161_k C T0 T1 T2 T3 T4 T5 T6 T7 T8 T9 T10 T11 T12 T x1 x2 y0 x5 x3 R0 rc13 hr13 h)
  · refine go_iload C dX10_wetOnes_147 6 rfl ?_
    refine go_bipush (v := 13) C dX10_wetOnes_149 rfl ?_
    refine go_icmp_ge (tgt := 161) C h dX10_wetOnes_151 rfl (fun h => ?_) (fun h => ?_)
    · exact go_lv [1, 2, 3, 0, 5] rfl (m10_wetOnes_J161_k C T0 T1 T2 T3 T4 T5 T6 T7 T8 T9 T10 T11 T12 T x1 x2 y0 x5 x3 R0 rc13 hr13 h)
    · refine go_iconst (v := 1) C dX10_wetOnes_154 rfl ?_
      refine go_iload C dX10_wetOnes_155 6 rfl ?_
      refine go_ishl C dX10_wetOnes_157 ?_
      refine go_goto (tgt := 162) C dX10_wetOnes_158 rfl ?_
      refine go_ior C dX10_wetOnes_162 ?_
      refine go_istore_nN (lf := fun v4 => [(3, .int v4), (4, .int y0), (0, .ref T0), (1, .int x1), (2, .int x2), (5, .int x5), (6, .int x6)]) C h dX10_wetOnes_163 (by decide) (fun _ => rfl) (fun v4 h => ?_)
      refine go_goto (tgt := 13) C dX10_wetOnes_164 rfl ?_
      exact go_lv [2, 3, 4, 0, 1, 5] rfl (hr13 v4 y0 x5 h)

set_option maxRecDepth 100000 in
set_option maxHeartbeats 4000000 in
theorem m10_wetOnes_J125_k {p : Program} {l : Launch} {e : Env} {s : State} {m : MethodId} {args : Array Value} {below : List Frame} {meth : Method} {c : Code} {G : gG} {A : Nat → Prop} (C : Cx p e s m args meth c G RX10 cX10_wetOnes 9 (some .int) A) (T0 T1 T2 T3 T4 T5 T6 T7 T8 T9 T10 T11 T12 : Nat) (T : SX10) (x1 : Int32) (x2 : Int32) (x3 : Int32) (x4 : Int32) (x6 : Int32) (y0 : Int32) (R0 : Int32) (rc13 : Int32 × Int32 × Int32 → Option (Int32)) (hr13 : ∀ (x3 : Int32) (x4 : Int32) (x5 : Int32), rc13 (x3, x4, x5) = some R0 → Gq p l e (rq 3 64) s m args below meth c G A 9 0 0 (MQ below (QK G (some (.int R0)) (u10 G T0 T1 T2 T3 T4 T5 T6 T7 T8 T9 T10 T11 T12 T) A) args s 0 0 A) 13 [(0, .ref T0), (1, .int x1), (2, .int x2), (3, .int x3), (4, .int x4), (5, .int x5)] [] (u10 G T0 T1 T2 T3 T4 T5 T6 T7 T8 T9 T10 T11 T12 T)) (h : m10_wetOnes_J125 T x1 x2 x3 x4 x6 y0 rc13 = some R0) : Gq p l e (rq 3 64) s m args below meth c G A 9 0 0 (MQ below (QK G (some (.int R0)) (u10 G T0 T1 T2 T3 T4 T5 T6 T7 T8 T9 T10 T11 T12 T) A) args s 0 0 A) 125 [(0, .ref T0), (1, .int x1), (2, .int x2), (3, .int x3), (4, .int x4), (6, .int x6)] [.int y0] (u10 G T0 T1 T2 T3 T4 T5 T6 T7 T8 T9 T10 T11 T12 T) := by
  unfold m10_wetOnes_J125 at h
  refine go_istore (lv' := [(5, .int y0), (0, .ref T0), (1, .int x1), (2, .int x2), (3, .int x3), (4, .int x4), (6, .int x6)]) C dX10_wetOnes_125 (by decide) rfl ?_
  refine go_iload C dX10_wetOnes_127 0 rfl ?_
  refine go_if_eq (tgt := 137) C h dX10_wetOnes_129 rfl (fun h => ?_) (fun h => ?_)
  · refine go_iload C dX10_wetOnes_137 5 rfl ?_
    exact go_lv [1, 2, 3, 4, 0, 6] rfl (m10_wetOnes_J139_k C T0 T1 T2 T3 T4 T5 T6 T7 T8 T9 T10 T11 T12 T x1 x2 x3 y0 x6 x4 R0 rc13 hr13 h)
  · refine go_iload C dX10_wetOnes_132 6 rfl ?_
    refine go_goto (tgt := 139) C dX10_wetOnes_134 rfl ?_
    exact go_lv [1, 2, 3, 4, 0, 6] rfl (m10_wetOnes_J139_k C T0 T1 T2 T3 T4 T5 T6 T7 T8 T9 T10 T11 T12 T x1 x2 x3 y0 x6 x6 R0 rc13 hr13 h)

set_option maxRecDepth 100000 in
set_option maxHeartbeats 4000000 in
theorem m10_wetOnes_J115_k {p : Program} {l : Launch} {e : Env} {s : State} {m : MethodId} {args : Array Value} {below : List Frame} {meth : Method} {c : Code} {G : gG} {A : Nat → Prop} (C : Cx p e s m args meth c G RX10 cX10_wetOnes 9 (some .int) A) (T0 T1 T2 T3 T4 T5 T6 T7 T8 T9 T10 T11 T12 : Nat) (T : SX10) (x1 : Int32) (x2 : Int32) (x3 : Int32) (x4 : Int32) (x6 : Int32) (R0 : Int32) (rc13 : Int32 × Int32 × Int32 → Option (Int32)) (hr13 : ∀ (x3 : Int32) (x4 : Int32) (x5 : Int32), rc13 (x3, x4, x5) = some R0 → Gq p l e (rq 3 64) s m args below meth c G A 9 0 0 (MQ below (QK G (some (.int R0)) (u10 G T0 T1 T2 T3 T4 T5 T6 T7 T8 T9 T10 T11 T12 T) A) args s 0 0 A) 13 [(0, .ref T0), (1, .int x1), (2, .int x2), (3, .int x3), (4, .int x4), (5, .int x5)] [] (u10 G T0 T1 T2 T3 T4 T5 T6 T7 T8 T9 T10 T11 T12 T)) (h : m10_wetOnes_J115 T x1 x2 x3 x4 x6 rc13 = some R0) : Gq p l e (rq 3 64) s m args below meth c G A 9 0 0 (MQ below (QK G (some (.int R0)) (u10 G T0 T1 T2 T3 T4 T5 T6 T7 T8 T9 T10 T11 T12 T) A) args s 0 0 A) 115 [(0, .ref T0), (1, .int x1), (2, .int x2), (3, .int x3), (4, .int x4), (6, .int x6)] [] (u10 G T0 T1 T2 T3 T4 T5 T6 T7 T8 T9 T10 T11 T12 T) := by
  unfold m10_wetOnes_J115 at h
  refine go_iload C dX10_wetOnes_115 5 rfl ?_
  refine go_if_le (tgt := 124) C h dX10_wetOnes_117 rfl (fun h => ?_) (fun h => ?_)
  · refine go_iconst (v := 0) C dX10_wetOnes_124 rfl ?_
    exact go_lv [0, 1, 2, 3, 4, 5] rfl (m10_wetOnes_J125_k C T0 T1 T2 T3 T4 T5 T6 T7 T8 T9 T10 T11 T12 T x1 x2 x3 x4 x6 (0 : Int32) R0 rc13 hr13 h)
  · refine go_iconst (v := 1) C dX10_wetOnes_120 rfl ?_
    refine go_goto (tgt := 125) C dX10_wetOnes_121 rfl ?_
    exact go_lv [0, 1, 2, 3, 4, 5] rfl (m10_wetOnes_J125_k C T0 T1 T2 T3 T4 T5 T6 T7 T8 T9 T10 T11 T12 T x1 x2 x3 x4 x6 (1 : Int32) R0 rc13 hr13 h)

set_option maxRecDepth 100000 in
set_option maxHeartbeats 4000000 in
theorem m10_wetOnes_J105_k {p : Program} {l : Launch} {e : Env} {s : State} {m : MethodId} {args : Array Value} {below : List Frame} {meth : Method} {c : Code} {G : gG} {A : Nat → Prop} (C : Cx p e s m args meth c G RX10 cX10_wetOnes 9 (some .int) A) (T0 T1 T2 T3 T4 T5 T6 T7 T8 T9 T10 T11 T12 : Nat) (T : SX10) (x1 : Int32) (x2 : Int32) (x3 : Int32) (x4 : Int32) (x6 : Int32) (x7 : Int32) (R0 : Int32) (rc13 : Int32 × Int32 × Int32 → Option (Int32)) (hr13 : ∀ (x3 : Int32) (x4 : Int32) (x5 : Int32), rc13 (x3, x4, x5) = some R0 → Gq p l e (rq 3 64) s m args below meth c G A 9 0 0 (MQ below (QK G (some (.int R0)) (u10 G T0 T1 T2 T3 T4 T5 T6 T7 T8 T9 T10 T11 T12 T) A) args s 0 0 A) 13 [(0, .ref T0), (1, .int x1), (2, .int x2), (3, .int x3), (4, .int x4), (5, .int x5)] [] (u10 G T0 T1 T2 T3 T4 T5 T6 T7 T8 T9 T10 T11 T12 T)) (rc35 : Int32 × Int32 → Option (Int32)) (hr35 : ∀ (x6 : Int32) (x7 : Int32), rc35 (x6, x7) = some R0 → Gq p l e (rq 3 64) s m args below meth c G A 9 0 0 (MQ below (QK G (some (.int R0)) (u10 G T0 T1 T2 T3 T4 T5 T6 T7 T8 T9 T10 T11 T12 T) A) args s 0 0 A) 35 [(0, .ref T0), (1, .int x1), (2, .int x2), (3, .int x3), (4, .int x4), (6, .int x6), (7, .int x7)] [] (u10 G T0 T1 T2 T3 T4 T5 T6 T7 T8 T9 T10 T11 T12 T)) (h : m10_wetOnes_J105 T x1 x2 x3 x4 x6 x7 rc13 rc35 = some R0) : Gq p l e (rq 3 64) s m args below meth c G A 9 0 0 (MQ below (QK G (some (.int R0)) (u10 G T0 T1 T2 T3 T4 T5 T6 T7 T8 T9 T10 T11 T12 T) A) args s 0 0 A) 105 [(0, .ref T0), (1, .int x1), (2, .int x2), (3, .int x3), (4, .int x4), (6, .int x6), (7, .int x7)] [] (u10 G T0 T1 T2 T3 T4 T5 T6 T7 T8 T9 T10 T11 T12 T) := by
  unfold m10_wetOnes_J105 at h
  refine go_iload C dX10_wetOnes_105 5 rfl ?_
  refine go_istore (lv' := [(6, .int x6), (0, .ref T0), (1, .int x1), (2, .int x2), (3, .int x3), (4, .int x4), (7, .int x7)]) C dX10_wetOnes_107 (by decide) rfl ?_
  refine go_iincN (lf := fun v5 => [(7, .int v5), (6, .int x6), (0, .ref T0), (1, .int x1), (2, .int x2), (3, .int x3), (4, .int x4)]) C h dX10_wetOnes_109 6 rfl rfl (by decide) (fun _ => rfl) (fun v5 h => ?_)
  refine go_goto (tgt := 35) C dX10_wetOnes_112 rfl ?_
  exact go_lv [2, 3, 4, 5, 6, 1, 0] rfl (hr35 x6 v5 h)

set_option maxRecDepth 100000 in
set_option maxHeartbeats 4000000 in
theorem m10_wetOnes_J100_k {p : Program} {l : Launch} {e : Env} {s : State} {m : MethodId} {args : Array Value} {below : List Frame} {meth : Method} {c : Code} {G : gG} {A : Nat → Prop} (C : Cx p e s m args meth c G RX10 cX10_wetOnes 9 (some .int) A) (T0 T1 T2 T3 T4 T5 T6 T7 T8 T9 T10 T11 T12 : Nat) (T : SX10) (x1 : Int32) (x2 : Int32) (x3 : Int32) (x4 : Int32) (x7 : Int32) (R0 : Int32) (rc13 : Int32 × Int32 × Int32 → Option (Int32)) (hr13 : ∀ (x3 : Int32) (x4 : Int32) (x5 : Int32), rc13 (x3, x4, x5) = some R0 → Gq p l e (rq 3 64) s m args below meth c G A 9 0 0 (MQ below (QK G (some (.int R0)) (u10 G T0 T1 T2 T3 T4 T5 T6 T7 T8 T9 T10 T11 T12 T) A) args s 0 0 A) 13 [(0, .ref T0), (1, .int x1), (2, .int x2), (3, .int x3), (4, .int x4), (5, .int x5)] [] (u10 G T0 T1 T2 T3 T4 T5 T6 T7 T8 T9 T10 T11 T12 T)) (rc35 : Int32 × Int32 → Option (Int32)) (hr35 : ∀ (x6 : Int32) (x7 : Int32), rc35 (x6, x7) = some R0 → Gq p l e (rq 3 64) s m args below meth c G A 9 0 0 (MQ below (QK G (some (.int R0)) (u10 G T0 T1 T2 T3 T4 T5 T6 T7 T8 T9 T10 T11 T12 T) A) args s 0 0 A) 35 [(0, .ref T0), (1, .int x1), (2, .int x2), (3, .int x3), (4, .int x4), (6, .int x6), (7, .int x7)] [] (u10 G T0 T1 T2 T3 T4 T5 T6 T7 T8 T9 T10 T11 T12 T)) (h : m10_wetOnes_J100 T x1 x2 x3 x4 x7 rc13 rc35 = some R0) : Gq p l e (rq 3 64) s m args below meth c G A 9 0 0 (MQ below (QK G (some (.int R0)) (u10 G T0 T1 T2 T3 T4 T5 T6 T7 T8 T9 T10 T11 T12 T) A) args s 0 0 A) 100 [(0, .ref T0), (1, .int x1), (2, .int x2), (3, .int x3), (4, .int x4), (7, .int x7)] [] (u10 G T0 T1 T2 T3 T4 T5 T6 T7 T8 T9 T10 T11 T12 T) := by
  unfold m10_wetOnes_J100 at h
  refine go_iload C dX10_wetOnes_100 5 rfl ?_
  refine go_goto (tgt := 107) C dX10_wetOnes_102 rfl ?_
  refine go_istore (lv' := [(6, .int x7), (0, .ref T0), (1, .int x1), (2, .int x2), (3, .int x3), (4, .int x4), (7, .int x7)]) C dX10_wetOnes_107 (by decide) rfl ?_
  refine go_iincN (lf := fun v6 => [(7, .int v6), (6, .int x7), (0, .ref T0), (1, .int x1), (2, .int x2), (3, .int x3), (4, .int x4)]) C h dX10_wetOnes_109 6 rfl rfl (by decide) (fun _ => rfl) (fun v6 h => ?_)
  refine go_goto (tgt := 35) C dX10_wetOnes_112 rfl ?_
  exact go_lv [2, 3, 4, 5, 6, 1, 0] rfl (hr35 x7 v6 h)

set_option maxRecDepth 100000 in
set_option maxHeartbeats 4000000 in
theorem m10_wetOnes_J81_k {p : Program} {l : Launch} {e : Env} {s : State} {m : MethodId} {args : Array Value} {below : List Frame} {meth : Method} {c : Code} {G : gG} {A : Nat → Prop} (C : Cx p e s m args meth c G RX10 cX10_wetOnes 9 (some .int) A) (T0 T1 T2 T3 T4 T5 T6 T7 T8 T9 T10 T11 T12 : Nat) (T : SX10) (x1 : Int32) (x2 : Int32) (x3 : Int32) (x4 : Int32) (x6 : Int32) (x7 : Int32) (y0 : Int32) (R0 : Int32) (rc13 : Int32 × Int32 × Int32 → Option (Int32)) (hr13 : ∀ (x3 : Int32) (x4 : Int32) (x5 : Int32), rc13 (x3, x4, x5) = some R0 → Gq p l e (rq 3 64) s m args below meth c G A 9 0 0 (MQ below (QK G (some (.int R0)) (u10 G T0 T1 T2 T3 T4 T5 T6 T7 T8 T9 T10 T11 T12 T) A) args s 0 0 A) 13 [(0, .ref T0), (1, .int x1), (2, .int x2), (3, .int x3), (4, .int x4), (5, .int x5)] [] (u10 G T0 T1 T2 T3 T4 T5 T6 T7 T8 T9 T10 T11 T12 T)) (rc35 : Int32 × Int32 → Option (Int32)) (hr35 : ∀ (x6 : Int32) (x7 : Int32), rc35 (x6, x7) = some R0 → Gq p l e (rq 3 64) s m args below meth c G A 9 0 0 (MQ below (QK G (some (.int R0)) (u10 G T0 T1 T2 T3 T4 T5 T6 T7 T8 T9 T10 T11 T12 T) A) args s 0 0 A) 35 [(0, .ref T0), (1, .int x1), (2, .int x2), (3, .int x3), (4, .int x4), (6, .int x6), (7, .int x7)] [] (u10 G T0 T1 T2 T3 T4 T5 T6 T7 T8 T9 T10 T11 T12 T)) (h : m10_wetOnes_J81 T x1 x2 x3 x4 x6 x7 y0 rc13 rc35 = some R0) : Gq p l e (rq 3 64) s m args below meth c G A 9 0 0 (MQ below (QK G (some (.int R0)) (u10 G T0 T1 T2 T3 T4 T5 T6 T7 T8 T9 T10 T11 T12 T) A) args s 0 0 A) 81 [(0, .ref T0), (1, .int x1), (2, .int x2), (3, .int x3), (4, .int x4), (6, .int x6), (7, .int x7)] [.int y0] (u10 G T0 T1 T2 T3 T4 T5 T6 T7 T8 T9 T10 T11 T12 T) := by
  unfold m10_wetOnes_J81 at h
  refine go_istore (lv' := [(8, .int y0), (0, .ref T0), (1, .int x1), (2, .int x2), (3, .int x3), (4, .int x4), (6, .int x6), (7, .int x7)]) C dX10_wetOnes_81 (by decide) rfl ?_
  refine go_iload C dX10_wetOnes_83 0 rfl ?_
  refine go_if_eq (tgt := 105) C h dX10_wetOnes_85 rfl (fun h => ?_) (fun h => ?_)
  · exact go_lv [1, 2, 3, 4, 5, 6, 7] rfl (m10_wetOnes_J105_k C T0 T1 T2 T3 T4 T5 T6 T7 T8 T9 T10 T11 T12 T x1 x2 x3 x4 x6 x7 R0 rc13 hr13 rc35 hr35 h)
  · refine go_iload C dX10_wetOnes_88 6 rfl ?_
    refine go_if_lt (tgt := 100) C h dX10_wetOnes_90 rfl (fun h => ?_) (fun h => ?_)
    · exact go_lv [1, 2, 3, 4, 5, 7] rfl (m10_wetOnes_J100_k C T0 T1 T2 T3 T4 T5 T6 T7 T8 T9 T10 T11 T12 T x1 x2 x3 x4 x7 R0 rc13 hr13 rc35 hr35 h)
    · refine go_iload_n C dX10_wetOnes_93 2 rfl ?_
      refine go_bipush (v := 10) C dX10_wetOnes_94 rfl ?_
      refine go_irem C dX10_wetOnes_96 (by decide) ?_
      refine go_if_ne (tgt := 105) C h dX10_wetOnes_97 rfl (fun h => ?_) (fun h => ?_)
      · exact go_lv [1, 2, 3, 4, 5, 6, 7] rfl (m10_wetOnes_J105_k C T0 T1 T2 T3 T4 T5 T6 T7 T8 T9 T10 T11 T12 T x1 x2 x3 x4 x6 x7 R0 rc13 hr13 rc35 hr35 h)
      · exact go_lv [1, 2, 3, 4, 5, 7] rfl (m10_wetOnes_J100_k C T0 T1 T2 T3 T4 T5 T6 T7 T8 T9 T10 T11 T12 T x1 x2 x3 x4 x7 R0 rc13 hr13 rc35 hr35 h)

set_option maxRecDepth 100000 in
set_option maxHeartbeats 4000000 in
theorem m10_wetOnes_J76_k {p : Program} {l : Launch} {e : Env} {s : State} {m : MethodId} {args : Array Value} {below : List Frame} {meth : Method} {c : Code} {G : gG} {A : Nat → Prop} (C : Cx p e s m args meth c G RX10 cX10_wetOnes 9 (some .int) A) (T0 T1 T2 T3 T4 T5 T6 T7 T8 T9 T10 T11 T12 : Nat) (T : SX10) (x1 : Int32) (x2 : Int32) (x3 : Int32) (x4 : Int32) (x6 : Int32) (x7 : Int32) (R0 : Int32) (rc13 : Int32 × Int32 × Int32 → Option (Int32)) (hr13 : ∀ (x3 : Int32) (x4 : Int32) (x5 : Int32), rc13 (x3, x4, x5) = some R0 → Gq p l e (rq 3 64) s m args below meth c G A 9 0 0 (MQ below (QK G (some (.int R0)) (u10 G T0 T1 T2 T3 T4 T5 T6 T7 T8 T9 T10 T11 T12 T) A) args s 0 0 A) 13 [(0, .ref T0), (1, .int x1), (2, .int x2), (3, .int x3), (4, .int x4), (5, .int x5)] [] (u10 G T0 T1 T2 T3 T4 T5 T6 T7 T8 T9 T10 T11 T12 T)) (rc35 : Int32 × Int32 → Option (Int32)) (hr35 : ∀ (x6 : Int32) (x7 : Int32), rc35 (x6, x7) = some R0 → Gq p l e (rq 3 64) s m args below meth c G A 9 0 0 (MQ below (QK G (some (.int R0)) (u10 G T0 T1 T2 T3 T4 T5 T6 T7 T8 T9 T10 T11 T12 T) A) args s 0 0 A) 35 [(0, .ref T0), (1, .int x1), (2, .int x2), (3, .int x3), (4, .int x4), (6, .int x6), (7, .int x7)] [] (u10 G T0 T1 T2 T3 T4 T5 T6 T7 T8 T9 T10 T11 T12 T)) (h : m10_wetOnes_J76 T x1 x2 x3 x4 x6 x7 rc13 rc35 = some R0) : Gq p l e (rq 3 64) s m args below meth c G A 9 0 0 (MQ below (QK G (some (.int R0)) (u10 G T0 T1 T2 T3 T4 T5 T6 T7 T8 T9 T10 T11 T12 T) A) args s 0 0 A) 76 [(0, .ref T0), (1, .int x1), (2, .int x2), (3, .int x3), (4, .int x4), (6, .int x6), (7, .int x7)] [] (u10 G T0 T1 T2 T3 T4 T5 T6 T7 T8 T9 T10 T11 T12 T) := by
  unfold m10_wetOnes_J76 at h
  refine go_iconst (v := 1) C dX10_wetOnes_76 rfl ?_
  refine go_goto (tgt := 81) C dX10_wetOnes_77 rfl ?_
  exact go_lv [0, 1, 2, 3, 4, 5, 6] rfl (m10_wetOnes_J81_k C T0 T1 T2 T3 T4 T5 T6 T7 T8 T9 T10 T11 T12 T x1 x2 x3 x4 x6 x7 (1 : Int32) R0 rc13 hr13 rc35 hr35 h)

set_option maxRecDepth 100000 in
set_option maxHeartbeats 4000000 in
theorem m10_wetOnes_L35_k {p : Program} {l : Launch} {e : Env} {s : State} {m : MethodId} {args : Array Value} {below : List Frame} {meth : Method} {c : Code} {G : gG} {A : Nat → Prop} (C : Cx p e s m args meth c G RX10 cX10_wetOnes 9 (some .int) A) (T0 T1 T2 T3 T4 T5 T6 T7 T8 T9 T10 T11 T12 : Nat) (T : SX10) (x1 : Int32) (x2 : Int32) (x3 : Int32) (x4 : Int32) (R0 : Int32) (rc13 : Int32 × Int32 × Int32 → Option (Int32)) (hr13 : ∀ (x3 : Int32) (x4 : Int32) (x5 : Int32), rc13 (x3, x4, x5) = some R0 → Gq p l e (rq 3 64) s m args below meth c G A 9 0 0 (MQ below (QK G (some (.int R0)) (u10 G T0 T1 T2 T3 T4 T5 T6 T7 T8 T9 T10 T11 T12 T) A) args s 0 0 A) 13 [(0, .ref T0), (1, .int x1), (2, .int x2), (3, .int x3), (4, .int x4), (5, .int x5)] [] (u10 G T0 T1 T2 T3 T4 T5 T6 T7 T8 T9 T10 T11 T12 T)) : ∀ (n : Nat) (x6 : Int32) (x7 : Int32), tit (m10_wetOnes_L35 T x1 x2 x3 x4 rc13) n (x6, x7) = some R0 → Gq p l e (rq 3 64) s m args below meth c G A 9 0 0 (MQ below (QK G (some (.int R0)) (u10 G T0 T1 T2 T3 T4 T5 T6 T7 T8 T9 T10 T11 T12 T) A) args s 0 0 A) 35 [(0, .ref T0), (1, .int x1), (2, .int x2), (3, .int x3), (4, .int x4), (6, .int x6), (7, .int x7)] [] (u10 G T0 T1 T2 T3 T4 T5 T6 T7 T8 T9 T10 T11 T12 T) := by
  intro n
  induction n with
  | zero => exact fun _ _ h => (tit_z h).elim
  | succ n ih =>
    intro x6 x7 h
    replace h : m10_wetOnes_B35 T x1 x2 x3 x4 rc13 (tit (m10_wetOnes_L35 T x1 x2 x3 x4 rc13) n) x6 x7 = some R0 := h
    unfold m10_wetOnes_B35 at h
    refine go_iload C dX10_wetOnes_35 6 rfl ?_
    refine go_iload C dX10_wetOnes_37 4 rfl ?_
    refine go_aload_n C dX10_wetOnes_39 0 rfl ?_
    refine go_get (v := .ref T2) C ffX10_13 dX10_wetOnes_40 0 rfl rfl ?_
    refine go_bipush (v := 26) C dX10_wetOnes_43 rfl ?_
    refine go_iload_n C dX10_wetOnes_45 2 rfl ?_
    refine go_iadd C dX10_wetOnes_46 ?_
    refine go_ialoadG (f := (g10_now T)) C h dX10_wetOnes_47 2 rfl (fun h => ?_)
    refine go_iadd C dX10_wetOnes_48 ?_
    refine go_icmp_gt (tgt := 115) C h dX10_wetOnes_49 rfl (fun h => ?_) (fun h => ?_)
    · exact go_lv [0, 1, 2, 3, 4, 5] rfl (m10_wetOnes_J115_k C T0 T1 T2 T3 T4 T5 T6 T7 T8 T9 T10 T11 T12 T x1 x2 x3 x4 x6 R0 rc13 hr13 h)
    · refine go_iload C dX10_wetOnes_52 6 rfl ?_
      refine go_bipush (v := 13) C dX10_wetOnes_54 rfl ?_
      refine go_icmp_gt (tgt := 115) C h dX10_wetOnes_56 rfl (fun h => ?_) (fun h => ?_)
      · exact go_lv [0, 1, 2, 3, 4, 5] rfl (m10_wetOnes_J115_k C T0 T1 T2 T3 T4 T5 T6 T7 T8 T9 T10 T11 T12 T x1 x2 x3 x4 x6 R0 rc13 hr13 h)
      · refine go_iload C dX10_wetOnes_59 6 rfl ?_
        refine go_bipush (v := 13) C dX10_wetOnes_61 rfl ?_
        refine go_icmp_eq (tgt := 76) C h dX10_wetOnes_63 rfl (fun h => ?_) (fun h => ?_)
        · exact go_lv [0, 1, 2, 3, 4, 5, 6] rfl (m10_wetOnes_J76_k C T0 T1 T2 T3 T4 T5 T6 T7 T8 T9 T10 T11 T12 T x1 x2 x3 x4 x6 x7 R0 rc13 hr13 _ (fun z0 z1 h => ih z0 z1 h) h)
        · refine go_aload_n C dX10_wetOnes_66 0 rfl ?_
          refine go_iload_n C dX10_wetOnes_67 2 rfl ?_
          refine go_iload C dX10_wetOnes_68 6 rfl ?_
          obtain ⟨r7, k8, h⟩ := tbd_e h
          refine go_callV (q0 := 0) (wr := ([] : va_W)) (w' := u10 G T0 T1 T2 T3 T4 T5 T6 T7 T8 T9 T10 T11 T12 T) C cfX10_90 viX10_may (m10_may_k l G T0 T1 T2 T3 T4 T5 T6 T7 T8 T9 T10 T11 T12 T x2 x7 r7 k8) dX10_wetOnes_70 (by decide) ⟨Nat.zero_le _, Nat.zero_le _⟩ rfl rfl (Nat.le_of_ble_eq_true rfl) rfl [0, 1, 2, 3, 4, 5, 6, 7, 8, 9, 10, 11, 12] [] [0, 1, 2, 3, 4, 5, 6, 7, 8, 9, 10, 11, 12] rfl rfl (by decide) rfl ?_
          refine go_if_eq (tgt := 80) C h dX10_wetOnes_73 rfl (fun h => ?_) (fun h => ?_)
          · refine go_iconst (v := 0) C dX10_wetOnes_80 rfl ?_
            exact go_lv [0, 1, 2, 3, 4, 5, 6] rfl (m10_wetOnes_J81_k C T0 T1 T2 T3 T4 T5 T6 T7 T8 T9 T10 T11 T12 T x1 x2 x3 x4 x6 x7 (0 : Int32) R0 rc13 hr13 _ (fun z0 z1 h => ih z0 z1 h) h)
          · exact go_lv [0, 1, 2, 3, 4, 5, 6] rfl (m10_wetOnes_J76_k C T0 T1 T2 T3 T4 T5 T6 T7 T8 T9 T10 T11 T12 T x1 x2 x3 x4 x6 x7 R0 rc13 hr13 _ (fun z0 z1 h => ih z0 z1 h) h)

set_option maxRecDepth 100000 in
set_option maxHeartbeats 4000000 in
theorem m10_wetOnes_L13_k {p : Program} {l : Launch} {e : Env} {s : State} {m : MethodId} {args : Array Value} {below : List Frame} {meth : Method} {c : Code} {G : gG} {A : Nat → Prop} (C : Cx p e s m args meth c G RX10 cX10_wetOnes 9 (some .int) A) (T0 T1 T2 T3 T4 T5 T6 T7 T8 T9 T10 T11 T12 : Nat) (T : SX10) (x1 : Int32) (x2 : Int32) (R0 : Int32)  : ∀ (n : Nat) (x3 : Int32) (x4 : Int32) (x5 : Int32), tit (m10_wetOnes_L13 T x1 x2) n (x3, x4, x5) = some R0 → Gq p l e (rq 3 64) s m args below meth c G A 9 0 0 (MQ below (QK G (some (.int R0)) (u10 G T0 T1 T2 T3 T4 T5 T6 T7 T8 T9 T10 T11 T12 T) A) args s 0 0 A) 13 [(0, .ref T0), (1, .int x1), (2, .int x2), (3, .int x3), (4, .int x4), (5, .int x5)] [] (u10 G T0 T1 T2 T3 T4 T5 T6 T7 T8 T9 T10 T11 T12 T) := by
  intro n
  induction n with
  | zero => exact fun _ _ _ h => (tit_z h).elim
  | succ n ih =>
    intro x3 x4 x5 h
    replace h : m10_wetOnes_B13 T x1 x2 (tit (m10_wetOnes_L13 T x1 x2) n) x3 x4 x5 = some R0 := h
    unfold m10_wetOnes_B13 at h
    refine go_iload C dX10_wetOnes_13 5 rfl ?_
    refine go_if_eq (tgt := 167) C h dX10_wetOnes_15 rfl (fun h => ?_) (fun h => ?_)
    · refine go_iload_n C dX10_wetOnes_167 3 rfl ?_
      cases h
      exact go_iret C dX10_wetOnes_168 rfl rfl
    · refine go_iload C dX10_wetOnes_18 4 rfl ?_
      refine go_bipush (v := 13) C dX10_wetOnes_20 rfl ?_
      refine go_icmp_ge (tgt := 167) C h dX10_wetOnes_22 rfl (fun h => ?_) (fun h => ?_)
      · refine go_iload_n C dX10_wetOnes_167 3 rfl ?_
        cases h
        exact go_iret C dX10_wetOnes_168 rfl rfl
      · refine go_bipush (v := -6) C dX10_wetOnes_25 rfl ?_
        refine go_istore (lv' := [(6, .int (-6 : Int32)), (0, .ref T0), (1, .int x1), (2, .int x2), (3, .int x3), (4, .int x4), (5, .int x5)]) C dX10_wetOnes_27 (by decide) rfl ?_
        refine go_iload C dX10_wetOnes_29 5 rfl ?_
        refine go_iconst (v := 1) C dX10_wetOnes_31 rfl ?_
        refine go_iadd C dX10_wetOnes_32 ?_
        refine go_istoreN (lf := fun v2 => [(7, .int v2), (6, .int (-6 : Int32)), (0, .ref T0), (1, .int x1), (2, .int x2), (3, .int x3), (4, .int x4), (5, .int x5)]) C h dX10_wetOnes_33 (by decide) (fun _ => rfl) (fun v2 h => ?_)
        exact go_lv [2, 3, 4, 5, 6, 1, 0] rfl (m10_wetOnes_L35_k C T0 T1 T2 T3 T4 T5 T6 T7 T8 T9 T10 T11 T12 T x1 x2 x3 x4 R0 _ (fun z0 z1 z2 h => ih z0 z1 z2 h) FU (-6 : Int32) v2 h)

