set_option maxRecDepth 100000 in
set_option maxHeartbeats 4000000 in
theorem m10_wetOnes_k (l : Launch) (G : gG) (T0 T1 T2 T3 T4 T5 T6 T7 T8 T9 T10 T11 T12 : Nat) (T : SX10) (a1 : Int32) (R0 : Int32) (h : m10_wetOnes T a1 = some R0) : KK l G yX10_wetOnes cX10_wetOnes 9 (some .int) 3 64 [.ref T0, .int a1] (u10 G T0 T1 T2 T3 T4 T5 T6 T7 T8 T9 T10 T11 T12 T) (some (.int R0)) (u10 G T0 T1 T2 T3 T4 T5 T6 T7 T8 T9 T10 T11 T12 T) := by
  refine KK_intro (own := RX10) (by decide +kernel) rfl (Nat.le_of_ble_eq_true rfl) rfl ?_
  intro p e s m args below meth c A C
  unfold m10_wetOnes at h
  refine go_iload_n C dX10_wetOnes_0 1 rfl ?_
  refine go_bipush (v := 10) C dX10_wetOnes_1 rfl ?_
  refine go_idiv C dX10_wetOnes_3 (by decide) ?_
  refine go_istore_nN (lf := fun v1 => [(2, .int v1), (0, .ref T0), (1, .int a1)]) C h dX10_wetOnes_4 (by decide) (fun _ => rfl) (fun v1 h => ?_)
  refine go_iconst (v := 0) C dX10_wetOnes_5 rfl ?_
  refine go_istore_n (lv' := [(3, .int (0 : Int32)), (2, .int v1), (0, .ref T0), (1, .int a1)]) C dX10_wetOnes_6 (by decide) rfl ?_
  refine go_iconst (v := 0) C dX10_wetOnes_7 rfl ?_
  refine go_istore (lv' := [(4, .int (0 : Int32)), (3, .int (0 : Int32)), (2, .int v1), (0, .ref T0), (1, .int a1)]) C dX10_wetOnes_8 (by decide) rfl ?_
  refine go_iconst (v := 1) C dX10_wetOnes_10 rfl ?_
  refine go_istore (lv' := [(5, .int (1 : Int32)), (4, .int (0 : Int32)), (3, .int (0 : Int32)), (2, .int v1), (0, .ref T0), (1, .int a1)]) C dX10_wetOnes_11 (by decide) rfl ?_
  exact go_lv [4, 5, 3, 2, 1, 0] rfl (m10_wetOnes_L13_k C T0 T1 T2 T3 T4 T5 T6 T7 T8 T9 T10 T11 T12 T a1 v1 R0  FU (0 : Int32) (0 : Int32) (1 : Int32) h)

set_option maxRecDepth 100000 in
set_option maxHeartbeats 4000000 in
theorem m10_felt_J54_k {p : Program} {l : Launch} {e : Env} {s : State} {m : MethodId} {args : Array Value} {below : List Frame} {meth : Method} {c : Code} {G : gG} {A : Nat → Prop} (C : Cx p e s m args meth c G RX10 cX10_felt 3 (some .int) A) (T0 T1 T2 T3 T4 T5 T6 T7 T8 T9 T10 T11 T12 : Nat) (T : SX10) (y1 : Int32) (y2 : Int32) (R0 : Int32 × SX10)  (h : m10_felt_J54 T y1 y2 = some R0) : Gq p l e (rq 2 42) s m args below meth c G A 3 0 0 (MQ below (QK G (some (.int R0.1)) (u10 G T0 T1 T2 T3 T4 T5 T6 T7 T8 T9 T10 T11 T12 R0.2) A) args s 0 0 A) 54 [(0, .ref T0)] [.int y2, .int y1, .ref T3] (u10 G T0 T1 T2 T3 T4 T5 T6 T7 T8 T9 T10 T11 T12 T) := by
  unfold m10_felt_J54 at h
  refine go_iastoreG (f := (g10_sight T)) (w' := u10 G T0 T1 T2 T3 T4 T5 T6 T7 T8 T9 T10 T11 T12 (s10_sight T (upd (g10_sight T) (Int32.toNatClampNeg y1) y2))) C h dX10_felt_54 3 rfl z10_sight (fun h => ?_)
  refine go_aload_n C dX10_felt_55 0 rfl ?_
  refine go_dup C dX10_felt_56 rfl ?_
  refine go_get (v := .int (g10_sights T)) C ffX10_145 dX10_felt_57 0 rfl rfl ?_
  refine go_iconst (v := 1) C dX10_felt_60 rfl ?_
  refine go_iadd C dX10_felt_61 ?_
  refine go_puti (w' := u10 G T0 T1 T2 T3 T4 T5 T6 T7 T8 T9 T10 T11 T12 (s10_sight (s10_sights T ((g10_sights T) + (1 : Int32))) (upd (g10_sight T) (Int32.toNatClampNeg y1) y2))) C fpX10_145 dX10_felt_62 0 rfl (Nat.le_of_ble_eq_true rfl) z10_sights ?_
  refine go_aload_n C dX10_felt_65 0 rfl ?_
  refine go_get (v := .int ((g10_sights T) + (1 : Int32))) C ffX10_145 dX10_felt_66 0 rfl rfl ?_
  cases h
  exact go_iret C dX10_felt_69 rfl rfl

set_option maxRecDepth 100000 in
set_option maxHeartbeats 4000000 in
theorem m10_felt_k (l : Launch) (G : gG) (T0 T1 T2 T3 T4 T5 T6 T7 T8 T9 T10 T11 T12 : Nat) (T : SX10) (a1 : Int32) (a2 : Int32) (R0 : Int32 × SX10) (h : m10_felt T a1 a2 = some R0) : KK l G yX10_felt cX10_felt 3 (some .int) 2 42 [.ref T0, .int a1, .int a2] (u10 G T0 T1 T2 T3 T4 T5 T6 T7 T8 T9 T10 T11 T12 T) (some (.int R0.1)) (u10 G T0 T1 T2 T3 T4 T5 T6 T7 T8 T9 T10 T11 T12 R0.2) := by
  refine KK_intro (own := RX10) (by decide +kernel) rfl (Nat.le_of_ble_eq_true rfl) rfl ?_
  intro p e s m args below meth c A C
  unfold m10_felt at h
  refine go_iload_n C dX10_felt_0 1 rfl ?_
  obtain ⟨r1, k2, h⟩ := tbd_e h
  refine go_callS0 C cfX10_73 (wr8 _ (List.mem_of_getElem? (i := 0) rfl)) (m10_isRung_k l G a1 r1 k2) dX10_felt_1 (by decide) ⟨Nat.zero_le _, Nat.zero_le _⟩ rfl rfl (Nat.le_of_ble_eq_true rfl) ?_
  refine go_if_ne (tgt := 9) C h dX10_felt_4 rfl (fun h => ?_) (fun h => ?_)
  · refine go_aload_n C dX10_felt_9 0 rfl ?_
    refine go_get (v := .int (g10_sights T)) C ffX10_145 dX10_felt_10 0 rfl rfl ?_
    refine go_bipush (v := 8) C dX10_felt_13 rfl ?_
    refine go_icmp_ne (tgt := 21) C h dX10_felt_15 rfl (fun h => ?_) (fun h => ?_)
    · refine go_aload_n C dX10_felt_21 0 rfl ?_
      refine go_get (v := .ref T3) C ffX10_16 dX10_felt_22 0 rfl rfl ?_
      refine go_iconst (v := 2) C dX10_felt_25 rfl ?_
      refine go_aload_n C dX10_felt_26 0 rfl ?_
      refine go_get (v := .int (g10_sights T)) C ffX10_145 dX10_felt_27 0 rfl rfl ?_
      refine go_imul C dX10_felt_30 ?_
      refine go_iload_n C dX10_felt_31 1 rfl ?_
      refine go_iastoreG (f := (g10_sight T)) (w' := u10 G T0 T1 T2 T3 T4 T5 T6 T7 T8 T9 T10 T11 T12 (s10_sight T (upd (g10_sight T) (Int32.toNatClampNeg ((2 : Int32) * (g10_sights T))) a1))) C h dX10_felt_32 3 rfl z10_sight (fun h => ?_)
      refine go_aload_n C dX10_felt_33 0 rfl ?_
      refine go_get (v := .ref T3) C ffX10_16 dX10_felt_34 0 rfl rfl ?_
      refine go_iconst (v := 2) C dX10_felt_37 rfl ?_
      refine go_aload_n C dX10_felt_38 0 rfl ?_
      refine go_get (v := .int (g10_sights T)) C ffX10_145 dX10_felt_39 0 rfl rfl ?_
      refine go_imul C dX10_felt_42 ?_
      refine go_iconst (v := 1) C dX10_felt_43 rfl ?_
      refine go_iadd C dX10_felt_44 ?_
      refine go_iload_n C dX10_felt_45 2 rfl ?_
      refine go_if_eq (tgt := 53) C h dX10_felt_46 rfl (fun h => ?_) (fun h => ?_)
      · refine go_iconst (v := 0) C dX10_felt_53 rfl ?_
        exact go_lv [0] rfl (m10_felt_J54_k C T0 T1 T2 T3 T4 T5 T6 T7 T8 T9 T10 T11 T12 (s10_sight T (upd (g10_sight T) (Int32.toNatClampNeg ((2 : Int32) * (g10_sights T))) a1)) (((2 : Int32) * (g10_sights T)) + (1 : Int32)) (0 : Int32) R0  h)
      · refine go_iconst (v := 1) C dX10_felt_49 rfl ?_
        refine go_goto (tgt := 54) C dX10_felt_50 rfl ?_
        exact go_lv [0] rfl (m10_felt_J54_k C T0 T1 T2 T3 T4 T5 T6 T7 T8 T9 T10 T11 T12 (s10_sight T (upd (g10_sight T) (Int32.toNatClampNeg ((2 : Int32) * (g10_sights T))) a1)) (((2 : Int32) * (g10_sights T)) + (1 : Int32)) (1 : Int32) R0  h)
    · refine go_bipush (v := -4) C dX10_felt_18 rfl ?_
      cases h
      exact go_iret C dX10_felt_20 rfl rfl
  · refine go_iconst (v := -1) C dX10_felt_7 rfl ?_
    cases h
    exact go_iret C dX10_felt_8 rfl rfl

set_option maxRecDepth 100000 in
set_option maxHeartbeats 4000000 in
theorem m10_forget_k (l : Launch) (G : gG) (T0 T1 T2 T3 T4 T5 T6 T7 T8 T9 T10 T11 T12 : Nat) (T : SX10) (R0 : Int32 × SX10) (h : m10_forget T = some R0) : KK l G yX10_forget cX10_forget 2 (some .int) 0 0 [.ref T0] (u10 G T0 T1 T2 T3 T4 T5 T6 T7 T8 T9 T10 T11 T12 T) (some (.int R0.1)) (u10 G T0 T1 T2 T3 T4 T5 T6 T7 T8 T9 T10 T11 T12 R0.2) := by
  refine KK_intro (own := RX10) (by decide +kernel) rfl (Nat.le_of_ble_eq_true rfl) rfl ?_
  intro p e s m args below meth c A C
  unfold m10_forget at h
  refine go_aload_n C dX10_forget_0 0 rfl ?_
  refine go_get (v := .int (g10_sights T)) C ffX10_145 dX10_forget_1 0 rfl rfl ?_
  refine go_istore_nN (lf := fun v1 => [(1, .int v1), (0, .ref T0)]) C h dX10_forget_4 (by decide) (fun _ => rfl) (fun v1 h => ?_)
  refine go_aload_n C dX10_forget_5 1 rfl ?_
  refine go_iconst (v := 0) C dX10_forget_6 rfl ?_
  refine go_puti (w' := u10 G T0 T1 T2 T3 T4 T5 T6 T7 T8 T9 T10 T11 T12 (s10_sights T (0 : Int32))) C fpX10_145 dX10_forget_7 0 rfl (Nat.le_of_ble_eq_true rfl) z10_sights ?_
  refine go_iload_n C dX10_forget_10 0 rfl ?_
  cases h
  exact go_iret C dX10_forget_11 rfl rfl

set_option maxRecDepth 100000 in
set_option maxHeartbeats 4000000 in
theorem m10_isFit_J63_k {p : Program} {l : Launch} {e : Env} {s : State} {m : MethodId} {args : Array Value} {below : List Frame} {meth : Method} {c : Code} {G : gG} {A : Nat → Prop} (C : Cx p e s m args meth c G RX10 cX10_isFit 4 (some .boolean) A) (T0 T1 T2 T3 T4 T5 T6 T7 T8 T9 T10 T11 T12 : Nat) (T : SX10) (x1 : Int32) (x3 : Int32) (y0 : Int32) (y1 : Int32) (R0 : Int32) (rc16 : Int32 × Int32 → Option (Int32)) (hr16 : ∀ (x2 : Int32) (x3 : Int32), rc16 (x2, x3) = some R0 → Gq p l e (rq 4 92) s m args below meth c G A 4 0 0 (MQ below (QK G (some (.int R0)) (u10 G T0 T1 T2 T3 T4 T5 T6 T7 T8 T9 T10 T11 T12 T) A) args s 0 0 A) 16 [(0, .ref T0), (1, .int x1), (2, .int x2), (3, .int x3)] [] (u10 G T0 T1 T2 T3 T4 T5 T6 T7 T8 T9 T10 T11 T12 T)) (h : m10_isFit_J63 T x1 x3 y0 y1 rc16 = some R0) : Gq p l e (rq 4 92) s m args below meth c G A 4 0 0 (MQ below (QK G (some (.int R0)) (u10 G T0 T1 T2 T3 T4 T5 T6 T7 T8 T9 T10 T11 T12 T) A) args s 0 0 A) 63 [(0, .ref T0), (1, .int x1), (3, .int x3)] [.int y1, .int y0] (u10 G T0 T1 T2 T3 T4 T5 T6 T7 T8 T9 T10 T11 T12 T) := by
  unfold m10_isFit_J63 at h
  refine go_icmp_ne (tgt := 70) C h dX10_isFit_63 rfl (fun h => ?_) (fun h => ?_)
  · refine go_iconst (v := 0) C dX10_isFit_70 rfl ?_
    refine go_istore_n (lv' := [(2, .int (0 : Int32)), (0, .ref T0), (1, .int x1), (3, .int x3)]) C dX10_isFit_71 (by decide) rfl ?_
    refine go_iincN (lf := fun v5 => [(3, .int v5), (2, .int (0 : Int32)), (0, .ref T0), (1, .int x1)]) C h dX10_isFit_72 3 rfl rfl (by decide) (fun _ => rfl) (fun v5 h => ?_)
    refine go_goto (tgt := 16) C dX10_isFit_75 rfl ?_
    exact go_lv [2, 3, 1, 0] rfl (hr16 (0 : Int32) v5 h)
  · refine go_iconst (v := 1) C dX10_isFit_66 rfl ?_
    refine go_goto (tgt := 71) C dX10_isFit_67 rfl ?_
    refine go_istore_n (lv' := [(2, .int (1 : Int32)), (0, .ref T0), (1, .int x1), (3, .int x3)]) C dX10_isFit_71 (by decide) rfl ?_
    refine go_iincN (lf := fun v6 => [(3, .int v6), (2, .int (1 : Int32)), (0, .ref T0), (1, .int x1)]) C h dX10_isFit_72 3 rfl rfl (by decide) (fun _ => rfl) (fun v6 h => ?_)
    refine go_goto (tgt := 16) C dX10_isFit_75 rfl ?_
    exact go_lv [2, 3, 1, 0] rfl (hr16 (1 : Int32) v6 h)

set_option maxRecDepth 100000 in
set_option maxHeartbeats 4000000 in
theorem m10_isFit_L16_k {p : Program} {l : Launch} {e : Env} {s : State} {m : MethodId} {args : Array Value} {below : List Frame} {meth : Method} {c : Code} {G : gG} {A : Nat → Prop} (C : Cx p e s m args meth c G RX10 cX10_isFit 4 (some .boolean) A) (T0 T1 T2 T3 T4 T5 T6 T7 T8 T9 T10 T11 T12 : Nat) (T : SX10) (x1 : Int32) (R0 : Int32)  : ∀ (n : Nat) (x2 : Int32) (x3 : Int32), tit (m10_isFit_L16 T x1) n (x2, x3) = some R0 → Gq p l e (rq 4 92) s m args below meth c G A 4 0 0 (MQ below (QK G (some (.int R0)) (u10 G T0 T1 T2 T3 T4 T5 T6 T7 T8 T9 T10 T11 T12 T) A) args s 0 0 A) 16 [(0, .ref T0), (1, .int x1), (2, .int x2), (3, .int x3)] [] (u10 G T0 T1 T2 T3 T4 T5 T6 T7 T8 T9 T10 T11 T12 T) := by
  intro n
  induction n with
  | zero => exact fun _ _ h => (tit_z h).elim
  | succ n ih =>
    intro x2 x3 h
    replace h : m10_isFit_B16 T x1 (tit (m10_isFit_L16 T x1) n) x2 x3 = some R0 := h
    unfold m10_isFit_B16 at h
    refine go_iload_n C dX10_isFit_16 3 rfl ?_
    refine go_aload_n C dX10_isFit_17 0 rfl ?_
    refine go_get (v := .int (g10_sights T)) C ffX10_145 dX10_isFit_18 0 rfl rfl ?_
    refine go_icmp_ge (tgt := 78) C h dX10_isFit_21 rfl (fun h => ?_) (fun h => ?_)
    · refine go_iload_n C dX10_isFit_78 2 rfl ?_
      obtain ⟨hg, h⟩ := tgd_e h
      cases h
      exact go_zret C dX10_isFit_79 hg rfl rfl
    · refine go_iload_n C dX10_isFit_24 2 rfl ?_
      refine go_if_eq (tgt := 78) C h dX10_isFit_25 rfl (fun h => ?_) (fun h => ?_)
      · refine go_iload_n C dX10_isFit_78 2 rfl ?_
        obtain ⟨hg, h⟩ := tgd_e h
        cases h
        exact go_zret C dX10_isFit_79 hg rfl rfl
      · refine go_aload_n C dX10_isFit_28 0 rfl ?_
        refine go_iload_n C dX10_isFit_29 1 rfl ?_
        obtain ⟨r1, k2, h⟩ := tbd_e h
        refine go_callV (q0 := 0) (wr := ([] : va_W)) (w' := u10 G T0 T1 T2 T3 T4 T5 T6 T7 T8 T9 T10 T11 T12 T) C cfX10_148 viX10_wetOnes (m10_wetOnes_k l G T0 T1 T2 T3 T4 T5 T6 T7 T8 T9 T10 T11 T12 T x1 r1 k2) dX10_isFit_30 (by decide) ⟨Nat.zero_le _, Nat.zero_le _⟩ rfl rfl (Nat.le_of_ble_eq_true rfl) rfl [0, 1, 2, 3, 4, 5, 6, 7, 8, 9, 10, 11, 12] [] [0, 1, 2, 3, 4, 5, 6, 7, 8, 9, 10, 11, 12] rfl rfl (by decide) rfl ?_
        refine go_aload_n C dX10_isFit_33 0 rfl ?_
        refine go_get (v := .ref T3) C ffX10_16 dX10_isFit_34 0 rfl rfl ?_
        refine go_iconst (v := 2) C dX10_isFit_37 rfl ?_
        refine go_iload_n C dX10_isFit_38 3 rfl ?_
        refine go_imul C dX10_isFit_39 ?_
        refine go_ialoadG (f := (g10_sight T)) C h dX10_isFit_40 3 rfl (fun h => ?_)
        obtain ⟨r3, k4, h⟩ := tbd_e h
        refine go_callS0 C cfX10_65 (wr18 _ (List.mem_of_getElem? (i := 23) rfl)) (m10_has_k l G r1 ((g10_sight T) (Int32.toNatClampNeg ((2 : Int32) * x3))) r3 k4) dX10_isFit_41 (by decide) ⟨Nat.zero_le _, Nat.zero_le _⟩ rfl rfl (Nat.le_of_ble_eq_true rfl) ?_
        refine go_aload_n C dX10_isFit_44 0 rfl ?_
        refine go_get (v := .ref T3) C ffX10_16 dX10_isFit_45 0 rfl rfl ?_
        refine go_iconst (v := 2) C dX10_isFit_48 rfl ?_
        refine go_iload_n C dX10_isFit_49 3 rfl ?_
        refine go_imul C dX10_isFit_50 ?_
        refine go_iconst (v := 1) C dX10_isFit_51 rfl ?_
        refine go_iadd C dX10_isFit_52 ?_
        refine go_ialoadG (f := (g10_sight T)) C h dX10_isFit_53 3 rfl (fun h => ?_)
        refine go_iconst (v := 1) C dX10_isFit_54 rfl ?_
        refine go_icmp_ne (tgt := 62) C h dX10_isFit_55 rfl (fun h => ?_) (fun h => ?_)
        · refine go_iconst (v := 0) C dX10_isFit_62 rfl ?_
          exact go_lv [0, 1, 3] rfl (m10_isFit_J63_k C T0 T1 T2 T3 T4 T5 T6 T7 T8 T9 T10 T11 T12 T x1 x3 r3 (0 : Int32) R0 _ (fun z0 z1 h => ih z0 z1 h) h)
        · refine go_iconst (v := 1) C dX10_isFit_58 rfl ?_
          refine go_goto (tgt := 63) C dX10_isFit_59 rfl ?_
          exact go_lv [0, 1, 3] rfl (m10_isFit_J63_k C T0 T1 T2 T3 T4 T5 T6 T7 T8 T9 T10 T11 T12 T x1 x3 r3 (1 : Int32) R0 _ (fun z0 z1 h => ih z0 z1 h) h)

set_option maxRecDepth 100000 in
set_option maxHeartbeats 4000000 in
theorem m10_isFit_k (l : Launch) (G : gG) (T0 T1 T2 T3 T4 T5 T6 T7 T8 T9 T10 T11 T12 : Nat) (T : SX10) (a1 : Int32) (R0 : Int32) (h : m10_isFit T a1 = some R0) : KK l G yX10_isFit cX10_isFit 4 (some .boolean) 4 92 [.ref T0, .int a1] (u10 G T0 T1 T2 T3 T4 T5 T6 T7 T8 T9 T10 T11 T12 T) (some (.int R0)) (u10 G T0 T1 T2 T3 T4 T5 T6 T7 T8 T9 T10 T11 T12 T) := by
  refine KK_intro (own := RX10) (by decide +kernel) rfl (Nat.le_of_ble_eq_true rfl) rfl ?_
  intro p e s m args below meth c A C
  unfold m10_isFit at h
  refine go_iload_n C dX10_isFit_0 1 rfl ?_
  refine go_bipush (v := 10) C dX10_isFit_1 rfl ?_
  refine go_irem C dX10_isFit_3 (by decide) ?_
  refine go_iconst (v := 2) C dX10_isFit_4 rfl ?_
  refine go_icmp_ge (tgt := 12) C h dX10_isFit_5 rfl (fun h => ?_) (fun h => ?_)
  · refine go_iconst (v := 0) C dX10_isFit_12 rfl ?_
    refine go_istore_n (lv' := [(2, .int (0 : Int32)), (0, .ref T0), (1, .int a1)]) C dX10_isFit_13 (by decide) rfl ?_
    refine go_iconst (v := 0) C dX10_isFit_14 rfl ?_
    refine go_istore_n (lv' := [(3, .int (0 : Int32)), (2, .int (0 : Int32)), (0, .ref T0), (1, .int a1)]) C dX10_isFit_15 (by decide) rfl ?_
    exact go_lv [2, 3, 1, 0] rfl (m10_isFit_L16_k C T0 T1 T2 T3 T4 T5 T6 T7 T8 T9 T10 T11 T12 T a1 R0  FU (0 : Int32) (0 : Int32) h)
  · refine go_iconst (v := 1) C dX10_isFit_8 rfl ?_
    refine go_goto (tgt := 13) C dX10_isFit_9 rfl ?_
    refine go_istore_n (lv' := [(2, .int (1 : Int32)), (0, .ref T0), (1, .int a1)]) C dX10_isFit_13 (by decide) rfl ?_
    refine go_iconst (v := 0) C dX10_isFit_14 rfl ?_
    refine go_istore_n (lv' := [(3, .int (0 : Int32)), (2, .int (1 : Int32)), (0, .ref T0), (1, .int a1)]) C dX10_isFit_15 (by decide) rfl ?_
    exact go_lv [2, 3, 1, 0] rfl (m10_isFit_L16_k C T0 T1 T2 T3 T4 T5 T6 T7 T8 T9 T10 T11 T12 T a1 R0  FU (1 : Int32) (0 : Int32) h)

set_option maxRecDepth 100000 in
set_option maxHeartbeats 4000000 in
theorem m10_ups_L8_k {p : Program} {l : Launch} {e : Env} {s : State} {m : MethodId} {args : Array Value} {below : List Frame} {meth : Method} {c : Code} {G : gG} {A : Nat → Prop} (C : Cx p e s m args meth c G RX10 cX10_ups 4 (some .int) A) (T0 T1 T2 T3 T4 T5 T6 T7 T8 T9 T10 T11 T12 : Nat) (T : SX10) (x1 : Int32) (R0 : Int32 × SX10)  : ∀ (n : Nat) (x2 : Int32) (x3 : Int32), tit (m10_ups_L8 T x1) n (x2, x3) = some R0 → Gq p l e (rq 5 115) s m args below meth c G A 4 0 0 (MQ below (QK G (some (.int R0.1)) (u10 G T0 T1 T2 T3 T4 T5 T6 T7 T8 T9 T10 T11 T12 R0.2) A) args s 0 0 A) 8 [(0, .ref T0), (1, .int x1), (2, .int x2), (3, .int x3)] [] (u10 G T0 T1 T2 T3 T4 T5 T6 T7 T8 T9 T10 T11 T12 T) := by
  intro n
  induction n with
  | zero => exact fun _ _ h => (tit_z h).elim
  | succ n ih =>
    intro x2 x3 h
    replace h : m10_ups_B8 T x1 (tit (m10_ups_L8 T x1) n) x2 x3 = some R0 := h
    unfold m10_ups_B8 at h
    refine go_iload_n C dX10_ups_8 3 rfl ?_
    refine go_bipush (v := 60) C dX10_ups_9 rfl ?_
    refine go_icmp_ge (tgt := 38) C h dX10_ups_11 rfl (fun h => ?_) (fun h => ?_)
    · refine go_iload_n C dX10_ups_38 1 rfl ?_
      refine go_iconst (v := -1) C dX10_ups_39 rfl ?_
      refine go_icmp_ne (tgt := 47) C h dX10_ups_40 rfl (fun h => ?_) (fun h => ?_)
      · refine go_bipush (v := -6) C dX10_ups_47 rfl ?_
        cases h
        exact go_iret C dX10_ups_49 rfl rfl
      · refine go_iload_n C dX10_ups_43 2 rfl ?_
        refine go_goto (tgt := 49) C dX10_ups_44 rfl ?_
        cases h
        exact go_iret C dX10_ups_49 rfl rfl
    · refine go_aload_n C dX10_ups_14 0 rfl ?_
      refine go_iload_n C dX10_ups_15 3 rfl ?_
      obtain ⟨r3, k4, h⟩ := tbd_e h
      refine go_callV (q0 := 0) (wr := ([] : va_W)) (w' := u10 G T0 T1 T2 T3 T4 T5 T6 T7 T8 T9 T10 T11 T12 T) C cfX10_151 viX10_isFit (m10_isFit_k l G T0 T1 T2 T3 T4 T5 T6 T7 T8 T9 T10 T11 T12 T x3 r3 k4) dX10_ups_16 (by decide) ⟨Nat.zero_le _, Nat.zero_le _⟩ rfl rfl (Nat.le_of_ble_eq_true rfl) rfl [0, 1, 2, 3, 4, 5, 6, 7, 8, 9, 10, 11, 12] [] [0, 1, 2, 3, 4, 5, 6, 7, 8, 9, 10, 11, 12] rfl rfl (by decide) rfl ?_
      refine go_if_eq (tgt := 32) C h dX10_ups_19 rfl (fun h => ?_) (fun h => ?_)
      · refine go_iincN (lf := fun v5 => [(3, .int v5), (0, .ref T0), (1, .int x1), (2, .int x2)]) C h dX10_ups_32 3 rfl rfl (by decide) (fun _ => rfl) (fun v5 h => ?_)
        refine go_goto (tgt := 8) C dX10_ups_35 rfl ?_
        exact go_lv [1, 2, 3, 0] rfl (ih x2 v5 h)
      · refine go_iload_n C dX10_ups_22 2 rfl ?_
        refine go_iload_n C dX10_ups_23 1 rfl ?_
        refine go_icmp_ne (tgt := 29) C h dX10_ups_24 rfl (fun h => ?_) (fun h => ?_)
        · refine go_iincN (lf := fun v6 => [(2, .int v6), (0, .ref T0), (1, .int x1), (3, .int x3)]) C h dX10_ups_29 2 rfl rfl (by decide) (fun _ => rfl) (fun v6 h => ?_)
          refine go_iincN (lf := fun v7 => [(3, .int v7), (2, .int v6), (0, .ref T0), (1, .int x1)]) C h dX10_ups_32 3 rfl rfl (by decide) (fun _ => rfl) (fun v7 h => ?_)
          refine go_goto (tgt := 8) C dX10_ups_35 rfl ?_
          exact go_lv [2, 3, 1, 0] rfl (ih v6 v7 h)
        · refine go_iload_n C dX10_ups_27 3 rfl ?_
          cases h
          exact go_iret C dX10_ups_28 rfl rfl

set_option maxRecDepth 100000 in
set_option maxHeartbeats 4000000 in
theorem m10_ups_k (l : Launch) (G : gG) (T0 T1 T2 T3 T4 T5 T6 T7 T8 T9 T10 T11 T12 : Nat) (T : SX10) (a1 : Int32) (R0 : Int32 × SX10) (h : m10_ups T a1 = some R0) : KK l G yX10_ups cX10_ups 4 (some .int) 5 115 [.ref T0, .int a1] (u10 G T0 T1 T2 T3 T4 T5 T6 T7 T8 T9 T10 T11 T12 T) (some (.int R0.1)) (u10 G T0 T1 T2 T3 T4 T5 T6 T7 T8 T9 T10 T11 T12 R0.2) := by
  refine KK_intro (own := RX10) (by decide +kernel) rfl (Nat.le_of_ble_eq_true rfl) rfl ?_
  intro p e s m args below meth c A C
  unfold m10_ups at h
  refine go_aload_n C dX10_ups_0 0 rfl ?_
  obtain ⟨r1, k2, h⟩ := tbd_e h
  refine go_callV (q0 := 0) (wr := ([] : va_W)) (w' := u10 G T0 T1 T2 T3 T4 T5 T6 T7 T8 T9 T10 T11 T12 r1) C cfX10_110 viX10_asNow (m10_asNow_k l G T0 T1 T2 T3 T4 T5 T6 T7 T8 T9 T10 T11 T12 T r1 k2) dX10_ups_1 (by decide) ⟨Nat.zero_le _, Nat.zero_le _⟩ rfl rfl (Nat.le_of_ble_eq_true rfl) rfl [0, 1, 2, 3, 4, 5, 6, 7, 8, 9, 10, 11, 12] [] [0, 1, 2, 3, 4, 5, 6, 7, 8, 9, 10, 11, 12] rfl rfl (by decide) rfl ?_
  refine go_iconst (v := 0) C dX10_ups_4 rfl ?_
  refine go_istore_n (lv' := [(2, .int (0 : Int32)), (0, .ref T0), (1, .int a1)]) C dX10_ups_5 (by decide) rfl ?_
  refine go_iconst (v := 0) C dX10_ups_6 rfl ?_
  refine go_istore_n (lv' := [(3, .int (0 : Int32)), (2, .int (0 : Int32)), (0, .ref T0), (1, .int a1)]) C dX10_ups_7 (by decide) rfl ?_
  exact go_lv [2, 3, 1, 0] rfl (m10_ups_L8_k C T0 T1 T2 T3 T4 T5 T6 T7 T8 T9 T10 T11 T12 r1 a1 R0  FU (0 : Int32) (0 : Int32) h)

set_option maxRecDepth 100000 in
set_option maxHeartbeats 4000000 in
theorem m10_ask_J157_k {p : Program} {l : Launch} {e : Env} {s : State} {m : MethodId} {args : Array Value} {below : List Frame} {meth : Method} {c : Code} {G : gG} {A : Nat → Prop} (C : Cx p e s m args meth c G RX10 cX10_ask 9 (some .int) A) (T0 T1 T2 T3 T4 T5 T6 T7 T8 T9 T10 T11 T12 : Nat) (T : SX10) (x1 : Int32) (x3 : Int32) (x4 : Int32) (x7 : Int32) (x8 : Int32) (y0 : Int32) (R0 : Int32 × SX10) (rc25 : Int32 × Int32 × Int32 → Option (Int32 × SX10)) (hr25 : ∀ (x2 : Int32) (x3 : Int32) (x4 : Int32), rc25 (x2, x3, x4) = some R0 → Gq p l e (rq 5 115) s m args below meth c G A 9 0 0 (MQ below (QK G (some (.int R0.1)) (u10 G T0 T1 T2 T3 T4 T5 T6 T7 T8 T9 T10 T11 T12 R0.2) A) args s 0 0 A) 25 [(0, .ref T0), (1, .int x1), (2, .int x2), (3, .int x3), (4, .int x4)] [] (u10 G T0 T1 T2 T3 T4 T5 T6 T7 T8 T9 T10 T11 T12 T)) (h : m10_ask_J157 T x1 x3 x4 x7 x8 y0 rc25 = some R0) : Gq p l e (rq 5 115) s m args below meth c G A 9 0 0 (MQ below (QK G (some (.int R0.1)) (u10 G T0 T1 T2 T3 T4 T5 T6 T7 T8 T9 T10 T11 T12 R0.2) A) args s 0 0 A) 157 [(0, .ref T0), (1, .int x1), (3, .int x3), (4, .int x4), (7, .int x7), (8, .int x8)] [.int y0] (u10 G T0 T1 T2 T3 T4 T5 T6 T7 T8 T9 T10 T11 T12 T) := by
  unfold m10_ask_J157 at h
  refine go_istore_n (lv' := [(2, .int y0), (0, .ref T0), (1, .int x1), (3, .int x3), (4, .int x4), (7, .int x7), (8, .int x8)]) C dX10_ask_157 (by decide) rfl ?_
  refine go_iload C dX10_ask_158 6 rfl ?_
  refine go_if_eq (tgt := 168) C h dX10_ask_160 rfl (fun h => ?_) (fun h => ?_)
  · refine go_iload_n C dX10_ask_168 3 rfl ?_
    refine go_istore_n (lv' := [(3, .int x3), (2, .int y0), (0, .ref T0), (1, .int x1), (4, .int x4), (7, .int x7), (8, .int x8)]) C dX10_ask_169 (by decide) rfl ?_
    refine go_iincN (lf := fun v5 => [(4, .int v5), (3, .int x3), (2, .int y0), (0, .ref T0), (1, .int x1), (7, .int x7), (8, .int x8)]) C h dX10_ask_170 4 rfl rfl (by decide) (fun _ => rfl) (fun v5 h => ?_)
    refine go_goto (tgt := 25) C dX10_ask_173 rfl ?_
    exact go_lv [3, 4, 2, 1, 0] rfl (hr25 y0 x3 v5 h)
  · refine go_iload C dX10_ask_163 5 rfl ?_
    refine go_goto (tgt := 169) C dX10_ask_165 rfl ?_
    refine go_istore_n (lv' := [(3, .int x7), (2, .int y0), (0, .ref T0), (1, .int x1), (4, .int x4), (7, .int x7), (8, .int x8)]) C dX10_ask_169 (by decide) rfl ?_
    refine go_iincN (lf := fun v6 => [(4, .int v6), (3, .int x7), (2, .int y0), (0, .ref T0), (1, .int x1), (7, .int x7), (8, .int x8)]) C h dX10_ask_170 4 rfl rfl (by decide) (fun _ => rfl) (fun v6 h => ?_)
    refine go_goto (tgt := 25) C dX10_ask_173 rfl ?_
    exact go_lv [3, 4, 2, 1, 0] rfl (hr25 y0 x7 v6 h)

set_option maxRecDepth 100000 in
set_option maxHeartbeats 4000000 in
theorem m10_ask_J144_k {p : Program} {l : Launch} {e : Env} {s : State} {m : MethodId} {args : Array Value} {below : List Frame} {meth : Method} {c : Code} {G : gG} {A : Nat → Prop} (C : Cx p e s m args meth c G RX10 cX10_ask 9 (some .int) A) (T0 T1 T2 T3 T4 T5 T6 T7 T8 T9 T10 T11 T12 : Nat) (T : SX10) (x1 : Int32) (x2 : Int32) (x3 : Int32) (x4 : Int32) (x7 : Int32) (y0 : Int32) (R0 : Int32 × SX10) (rc25 : Int32 × Int32 × Int32 → Option (Int32 × SX10)) (hr25 : ∀ (x2 : Int32) (x3 : Int32) (x4 : Int32), rc25 (x2, x3, x4) = some R0 → Gq p l e (rq 5 115) s m args below meth c G A 9 0 0 (MQ below (QK G (some (.int R0.1)) (u10 G T0 T1 T2 T3 T4 T5 T6 T7 T8 T9 T10 T11 T12 R0.2) A) args s 0 0 A) 25 [(0, .ref T0), (1, .int x1), (2, .int x2), (3, .int x3), (4, .int x4)] [] (u10 G T0 T1 T2 T3 T4 T5 T6 T7 T8 T9 T10 T11 T12 T)) (h : m10_ask_J144 T x1 x2 x3 x4 x7 y0 rc25 = some R0) : Gq p l e (rq 5 115) s m args below meth c G A 9 0 0 (MQ below (QK G (some (.int R0.1)) (u10 G T0 T1 T2 T3 T4 T5 T6 T7 T8 T9 T10 T11 T12 R0.2) A) args s 0 0 A) 144 [(0, .ref T0), (1, .int x1), (2, .int x2), (3, .int x3), (4, .int x4), (7, .int x7)] [.int y0] (u10 G T0 T1 T2 T3 T4 T5 T6 T7 T8 T9 T10 T11 T12 T) := by
  unfold m10_ask_J144 at h
  refine go_istore (lv' := [(8, .int y0), (0, .ref T0), (1, .int x1), (2, .int x2), (3, .int x3), (4, .int x4), (7, .int x7)]) C dX10_ask_144 (by decide) rfl ?_
  refine go_iload C dX10_ask_146 0 rfl ?_
  refine go_if_eq (tgt := 156) C h dX10_ask_148 rfl (fun h => ?_) (fun h => ?_)
  · refine go_iload_n C dX10_ask_156 3 rfl ?_
    exact go_lv [1, 2, 4, 5, 6, 0] rfl (m10_ask_J157_k C T0 T1 T2 T3 T4 T5 T6 T7 T8 T9 T10 T11 T12 T x1 x3 x4 x7 y0 x2 R0 rc25 hr25 h)
  · refine go_iload C dX10_ask_151 5 rfl ?_
    refine go_goto (tgt := 157) C dX10_ask_153 rfl ?_
    exact go_lv [1, 2, 4, 5, 6, 0] rfl (m10_ask_J157_k C T0 T1 T2 T3 T4 T5 T6 T7 T8 T9 T10 T11 T12 T x1 x3 x4 x7 y0 x4 R0 rc25 hr25 h)

set_option maxRecDepth 100000 in
set_option maxHeartbeats 4000000 in
theorem m10_ask_J143_k {p : Program} {l : Launch} {e : Env} {s : State} {m : MethodId} {args : Array Value} {below : List Frame} {meth : Method} {c : Code} {G : gG} {A : Nat → Prop} (C : Cx p e s m args meth c G RX10 cX10_ask 9 (some .int) A) (T0 T1 T2 T3 T4 T5 T6 T7 T8 T9 T10 T11 T12 : Nat) (T : SX10) (x1 : Int32) (x2 : Int32) (x3 : Int32) (x4 : Int32) (x7 : Int32) (R0 : Int32 × SX10) (rc25 : Int32 × Int32 × Int32 → Option (Int32 × SX10)) (hr25 : ∀ (x2 : Int32) (x3 : Int32) (x4 : Int32), rc25 (x2, x3, x4) = some R0 → Gq p l e (rq 5 115) s m args below meth c G A 9 0 0 (MQ below (QK G (some (.int R0.1)) (u10 G T0 T1 T2 T3 T4 T5 T6 T7 T8 T9 T10 T11 T12 R0.2) A) args s 0 0 A) 25 [(0, .ref T0), (1, .int x1), (2, .int x2), (3, .int x3), (4, .int x4)] [] (u10 G T0 T1 T2 T3 T4 T5 T6 T7 T8 T9 T10 T11 T12 T)) (h : m10_ask_J143 T x1 x2 x3 x4 x7 rc25 = some R0) : Gq p l e (rq 5 115) s m args below meth c G A 9 0 0 (MQ below (QK G (some (.int R0.1)) (u10 G T0 T1 T2 T3 T4 T5 T6 T7 T8 T9 T10 T11 T12 R0.2) A) args s 0 0 A) 143 [(0, .ref T0), (1, .int x1), (2, .int x2), (3, .int x3), (4, .int x4), (7, .int x7)] [] (u10 G T0 T1 T2 T3 T4 T5 T6 T7 T8 T9 T10 T11 T12 T) := by
  unfold m10_ask_J143 at h
  refine go_iconst (v := 0) C dX10_ask_143 rfl ?_
  exact go_lv [0, 1, 2, 3, 4, 5] rfl (m10_ask_J144_k C T0 T1 T2 T3 T4 T5 T6 T7 T8 T9 T10 T11 T12 T x1 x2 x3 x4 x7 (0 : Int32) R0 rc25 hr25 h)

set_option maxRecDepth 100000 in
set_option maxHeartbeats 4000000 in
theorem m10_ask_J126_k {p : Program} {l : Launch} {e : Env} {s : State} {m : MethodId} {args : Array Value} {below : List Frame} {meth : Method} {c : Code} {G : gG} {A : Nat → Prop} (C : Cx p e s m args meth c G RX10 cX10_ask 9 (some .int) A) (T0 T1 T2 T3 T4 T5 T6 T7 T8 T9 T10 T11 T12 : Nat) (T : SX10) (x1 : Int32) (x2 : Int32) (x3 : Int32) (x4 : Int32) (x5 : Int32) (y0 : Int32) (R0 : Int32 × SX10) (rc25 : Int32 × Int32 × Int32 → Option (Int32 × SX10)) (hr25 : ∀ (x2 : Int32) (x3 : Int32) (x4 : Int32), rc25 (x2, x3, x4) = some R0 → Gq p l e (rq 5 115) s m args below meth c G A 9 0 0 (MQ below (QK G (some (.int R0.1)) (u10 G T0 T1 T2 T3 T4 T5 T6 T7 T8 T9 T10 T11 T12 R0.2) A) args s 0 0 A) 25 [(0, .ref T0), (1, .int x1), (2, .int x2), (3, .int x3), (4, .int x4)] [] (u10 G T0 T1 T2 T3 T4 T5 T6 T7 T8 T9 T10 T11 T12 T)) (h : m10_ask_J126 T x1 x2 x3 x4 x5 y0 rc25 = some R0) : Gq p l e (rq 5 115) s m args below meth c G A 9 0 0 (MQ below (QK G (some (.int R0.1)) (u10 G T0 T1 T2 T3 T4 T5 T6 T7 T8 T9 T10 T11 T12 R0.2) A) args s 0 0 A) 126 [(0, .ref T0), (1, .int x1), (2, .int x2), (3, .int x3), (4, .int x4), (5, .int x5)] [.int y0] (u10 G T0 T1 T2 T3 T4 T5 T6 T7 T8 T9 T10 T11 T12 T) := by
  unfold m10_ask_J126 at h
  refine go_istore (lv' := [(7, .int y0), (0, .ref T0), (1, .int x1), (2, .int x2), (3, .int x3), (4, .int x4), (5, .int x5)]) C dX10_ask_126 (by decide) rfl ?_
  refine go_iload C dX10_ask_128 6 rfl ?_
  refine go_if_le (tgt := 143) C h dX10_ask_130 rfl (fun h => ?_) (fun h => ?_)
  · exact go_lv [1, 2, 3, 4, 5, 0] rfl (m10_ask_J143_k C T0 T1 T2 T3 T4 T5 T6 T7 T8 T9 T10 T11 T12 T x1 x2 x3 x4 y0 R0 rc25 hr25 h)
  · refine go_iload C dX10_ask_133 0 rfl ?_
    refine go_iload_n C dX10_ask_135 4 rfl ?_
    refine go_icmp_ge (tgt := 143) C h dX10_ask_136 rfl (fun h => ?_) (fun h => ?_)
    · exact go_lv [1, 2, 3, 4, 5, 0] rfl (m10_ask_J143_k C T0 T1 T2 T3 T4 T5 T6 T7 T8 T9 T10 T11 T12 T x1 x2 x3 x4 y0 R0 rc25 hr25 h)
    · refine go_iconst (v := 1) C dX10_ask_139 rfl ?_
      refine go_goto (tgt := 144) C dX10_ask_140 rfl ?_
      exact go_lv [1, 2, 3, 4, 5, 0] rfl (m10_ask_J144_k C T0 T1 T2 T3 T4 T5 T6 T7 T8 T9 T10 T11 T12 T x1 x2 x3 x4 y0 (1 : Int32) R0 rc25 hr25 h)

set_option maxRecDepth 100000 in
set_option maxHeartbeats 4000000 in
theorem m10_ask_J97_k {p : Program} {l : Launch} {e : Env} {s : State} {m : MethodId} {args : Array Value} {below : List Frame} {meth : Method} {c : Code} {G : gG} {A : Nat → Prop} (C : Cx p e s m args meth c G RX10 cX10_ask 9 (some .int) A) (T0 T1 T2 T3 T4 T5 T6 T7 T8 T9 T10 T11 T12 : Nat) (T : SX10) (x1 : Int32) (x2 : Int32) (x3 : Int32) (x4 : Int32) (x5 : Int32) (x7 : Int32) (y0 : Int32) (y1 : Int32) (R0 : Int32 × SX10) (rc25 : Int32 × Int32 × Int32 → Option (Int32 × SX10)) (hr25 : ∀ (x2 : Int32) (x3 : Int32) (x4 : Int32), rc25 (x2, x3, x4) = some R0 → Gq p l e (rq 5 115) s m args below meth c G A 9 0 0 (MQ below (QK G (some (.int R0.1)) (u10 G T0 T1 T2 T3 T4 T5 T6 T7 T8 T9 T10 T11 T12 R0.2) A) args s 0 0 A) 25 [(0, .ref T0), (1, .int x1), (2, .int x2), (3, .int x3), (4, .int x4)] [] (u10 G T0 T1 T2 T3 T4 T5 T6 T7 T8 T9 T10 T11 T12 T)) (rc41 : Int32 × Int32 × Int32 → Option (Int32 × SX10)) (hr41 : ∀ (x5 : Int32) (x6 : Int32) (x7 : Int32), rc41 (x5, x6, x7) = some R0 → Gq p l e (rq 5 115) s m args below meth c G A 9 0 0 (MQ below (QK G (some (.int R0.1)) (u10 G T0 T1 T2 T3 T4 T5 T6 T7 T8 T9 T10 T11 T12 R0.2) A) args s 0 0 A) 41 [(0, .ref T0), (1, .int x1), (2, .int x2), (3, .int x3), (4, .int x4), (5, .int x5), (6, .int x6), (7, .int x7)] [] (u10 G T0 T1 T2 T3 T4 T5 T6 T7 T8 T9 T10 T11 T12 T)) (h : m10_ask_J97 T x1 x2 x3 x4 x5 x7 y0 y1 rc25 rc41 = some R0) : Gq p l e (rq 5 115) s m args below meth c G A 9 0 0 (MQ below (QK G (some (.int R0.1)) (u10 G T0 T1 T2 T3 T4 T5 T6 T7 T8 T9 T10 T11 T12 R0.2) A) args s 0 0 A) 97 [(0, .ref T0), (1, .int x1), (2, .int x2), (3, .int x3), (4, .int x4), (5, .int x5), (7, .int x7)] [.int y1, .int y0] (u10 G T0 T1 T2 T3 T4 T5 T6 T7 T8 T9 T10 T11 T12 T) := by
  unfold m10_ask_J97 at h
  refine go_iadd C dX10_ask_97 ?_
  refine go_istoreN (lf := fun v10 => [(6, .int v10), (0, .ref T0), (1, .int x1), (2, .int x2), (3, .int x3), (4, .int x4), (5, .int x5), (7, .int x7)]) C h dX10_ask_98 (by decide) (fun _ => rfl) (fun v10 h => ?_)
  refine go_iincN (lf := fun v11 => [(7, .int v11), (6, .int v10), (0, .ref T0), (1, .int x1), (2, .int x2), (3, .int x3), (4, .int x4), (5, .int x5)]) C h dX10_ask_100 7 rfl rfl (by decide) (fun _ => rfl) (fun v11 h => ?_)
  refine go_goto (tgt := 41) C dX10_ask_103 rfl ?_
  exact go_lv [2, 3, 4, 5, 6, 7, 1, 0] rfl (hr41 x5 v10 v11 h)

set_option maxRecDepth 100000 in
set_option maxHeartbeats 4000000 in
theorem m10_ask_J96_k {p : Program} {l : Launch} {e : Env} {s : State} {m : MethodId} {args : Array Value} {below : List Frame} {meth : Method} {c : Code} {G : gG} {A : Nat → Prop} (C : Cx p e s m args meth c G RX10 cX10_ask 9 (some .int) A) (T0 T1 T2 T3 T4 T5 T6 T7 T8 T9 T10 T11 T12 : Nat) (T : SX10) (x1 : Int32) (x2 : Int32) (x3 : Int32) (x4 : Int32) (x5 : Int32) (x7 : Int32) (y0 : Int32) (R0 : Int32 × SX10) (rc25 : Int32 × Int32 × Int32 → Option (Int32 × SX10)) (hr25 : ∀ (x2 : Int32) (x3 : Int32) (x4 : Int32), rc25 (x2, x3, x4) = some R0 → Gq p l e (rq 5 115) s m args below meth c G A 9 0 0 (MQ below (QK G (some (.int R0.1)) (u10 G T0 T1 T2 T3 T4 T5 T6 T7 T8 T9 T10 T11 T12 R0.2) A) args s 0 0 A) 25 [(0, .ref T0), (1, .int x1), (2, .int x2), (3, .int x3), (4, .int x4)] [] (u10 G T0 T1 T2 T3 T4 T5 T6 T7 T8 T9 T10 T11 T12 T)) (rc41 : Int32 × Int32 × Int32 → Option (Int32 × SX10)) (hr41 : ∀ (x5 : Int32) (x6 : Int32) (x7 : Int32), rc41 (x5, x6, x7) = some R0 → Gq p l e (rq 5 115) s m args below meth c G A 9 0 0 (MQ below (QK G (some (.int R0.1)) (u10 G T0 T1 T2 T3 T4 T5 T6 T7 T8 T9 T10 T11 T12 R0.2) A) args s 0 0 A) 41 [(0, .ref T0), (1, .int x1), (2, .int x2), (3, .int x3), (4, .int x4), (5, .int x5), (6, .int x6), (7, .int x7)] [] (u10 G T0 T1 T2 T3 T4 T5 T6 T7 T8 T9 T10 T11 T12 T)) (h : m10_ask_J96 T x1 x2 x3 x4 x5 x7 y0 rc25 rc41 = some R0) : Gq p l e (rq 5 115) s m args below meth c G A 9 0 0 (MQ below (QK G (some (.int R0.1)) (u10 G T0 T1 T2 T3 T4 T5 T6 T7 T8 T9 T10 T11 T12 R0.2) A) args s 0 0 A) 96 [(0, .ref T0), (1, .int x1), (2, .int x2), (3, .int x3), (4, .int x4), (5, .int x5), (7, .int x7)] [.int y0] (u10 G T0 T1 T2 T3 T4 T5 T6 T7 T8 T9 T10 T11 T12 T) := by
  unfold m10_ask_J96 at h
  refine go_iconst (v := 0) C dX10_ask_96 rfl ?_
  exact go_lv [0, 1, 2, 3, 4, 5, 6] rfl (m10_ask_J97_k C T0 T1 T2 T3 T4 T5 T6 T7 T8 T9 T10 T11 T12 T x1 x2 x3 x4 x5 x7 y0 (0 : Int32) R0 rc25 hr25 rc41 hr41 h)

set_option maxRecDepth 100000 in
set_option maxHeartbeats 4000000 in
theorem m10_ask_J68_k {p : Program} {l : Launch} {e : Env} {s : State} {m : MethodId} {args : Array Value} {below : List Frame} {meth : Method} {c : Code} {G : gG} {A : Nat → Prop} (C : Cx p e s m args meth c G RX10 cX10_ask 9 (some .int) A) (T0 T1 T2 T3 T4 T5 T6 T7 T8 T9 T10 T11 T12 : Nat) (T : SX10) (x1 : Int32) (x2 : Int32) (x3 : Int32) (x4 : Int32) (x6 : Int32) (x7 : Int32) (x8 : Int32) (y0 : Int32) (y1 : Int32) (R0 : Int32 × SX10) (rc25 : Int32 × Int32 × Int32 → Option (Int32 × SX10)) (hr25 : ∀ (x2 : Int32) (x3 : Int32) (x4 : Int32), rc25 (x2, x3, x4) = some R0 → Gq p l e (rq 5 115) s m args below meth c G A 9 0 0 (MQ below (QK G (some (.int R0.1)) (u10 G T0 T1 T2 T3 T4 T5 T6 T7 T8 T9 T10 T11 T12 R0.2) A) args s 0 0 A) 25 [(0, .ref T0), (1, .int x1), (2, .int x2), (3, .int x3), (4, .int x4)] [] (u10 G T0 T1 T2 T3 T4 T5 T6 T7 T8 T9 T10 T11 T12 T)) (rc41 : Int32 × Int32 × Int32 → Option (Int32 × SX10)) (hr41 : ∀ (x5 : Int32) (x6 : Int32) (x7 : Int32), rc41 (x5, x6, x7) = some R0 → Gq p l e (rq 5 115) s m args below meth c G A 9 0 0 (MQ below (QK G (some (.int R0.1)) (u10 G T0 T1 T2 T3 T4 T5 T6 T7 T8 T9 T10 T11 T12 R0.2) A) args s 0 0 A) 41 [(0, .ref T0), (1, .int x1), (2, .int x2), (3, .int x3), (4, .int x4), (5, .int x5), (6, .int x6), (7, .int x7)] [] (u10 G T0 T1 T2 T3 T4 T5 T6 T7 T8 T9 T10 T11 T12 T)) (h : m10_ask_J68 T x1 x2 x3 x4 x6 x7 x8 y0 y1 rc25 rc41 = some R0) : Gq p l e (rq 5 115) s m args below meth c G A 9 0 0 (MQ below (QK G (some (.int R0.1)) (u10 G T0 T1 T2 T3 T4 T5 T6 T7 T8 T9 T10 T11 T12 R0.2) A) args s 0 0 A) 68 [(0, .ref T0), (1, .int x1), (2, .int x2), (3, .int x3), (4, .int x4), (6, .int x6), (7, .int x7), (8, .int x8)] [.int y1, .int y0] (u10 G T0 T1 T2 T3 T4 T5 T6 T7 T8 T9 T10 T11 T12 T) := by
  unfold m10_ask_J68 at h
  refine go_iadd C dX10_ask_68 ?_
  refine go_istoreN (lf := fun v9 => [(5, .int v9), (0, .ref T0), (1, .int x1), (2, .int x2), (3, .int x3), (4, .int x4), (6, .int x6), (7, .int x7), (8, .int x8)]) C h dX10_ask_69 (by decide) (fun _ => rfl) (fun v9 h => ?_)
  refine go_iload C dX10_ask_71 6 rfl ?_
  refine go_iload C dX10_ask_73 8 rfl ?_
  refine go_if_eq (tgt := 96) C h dX10_ask_75 rfl (fun h => ?_) (fun h => ?_)
  · exact go_lv [1, 2, 3, 4, 5, 0, 7] rfl (m10_ask_J96_k C T0 T1 T2 T3 T4 T5 T6 T7 T8 T9 T10 T11 T12 T x1 x2 x3 x4 v9 x7 x6 R0 rc25 hr25 rc41 hr41 h)
  · refine go_aload_n C dX10_ask_78 1 rfl ?_
    refine go_iload C dX10_ask_79 7 rfl ?_
    obtain ⟨r12, k13, h⟩ := tbd_e h
    refine go_callV (q0 := 0) (wr := ([] : va_W)) (w' := u10 G T0 T1 T2 T3 T4 T5 T6 T7 T8 T9 T10 T11 T12 T) C cfX10_148 viX10_wetOnes (m10_wetOnes_k l G T0 T1 T2 T3 T4 T5 T6 T7 T8 T9 T10 T11 T12 T x7 r12 k13) dX10_ask_81 (by decide) ⟨Nat.zero_le _, Nat.zero_le _⟩ rfl rfl (Nat.le_of_ble_eq_true rfl) rfl [0, 1, 2, 3, 4, 5, 6, 7, 8, 9, 10, 11, 12] [] [0, 1, 2, 3, 4, 5, 6, 7, 8, 9, 10, 11, 12] rfl rfl (by decide) rfl ?_
    refine go_iload C dX10_ask_84 5 rfl ?_
    obtain ⟨r14, k15, h⟩ := tbd_e h
    refine go_callS0 C cfX10_65 (wr18 _ (List.mem_of_getElem? (i := 23) rfl)) (m10_has_k l G r12 x4 r14 k15) dX10_ask_86 (by decide) ⟨Nat.zero_le _, Nat.zero_le _⟩ rfl rfl (Nat.le_of_ble_eq_true rfl) ?_
    refine go_if_eq (tgt := 96) C h dX10_ask_89 rfl (fun h => ?_) (fun h => ?_)
    · exact go_lv [1, 2, 3, 4, 5, 0, 7] rfl (m10_ask_J96_k C T0 T1 T2 T3 T4 T5 T6 T7 T8 T9 T10 T11 T12 T x1 x2 x3 x4 v9 x7 x6 R0 rc25 hr25 rc41 hr41 h)
    · refine go_iconst (v := 1) C dX10_ask_92 rfl ?_
      refine go_goto (tgt := 97) C dX10_ask_93 rfl ?_
      exact go_lv [1, 2, 3, 4, 5, 0, 7] rfl (m10_ask_J97_k C T0 T1 T2 T3 T4 T5 T6 T7 T8 T9 T10 T11 T12 T x1 x2 x3 x4 v9 x7 x6 (1 : Int32) R0 rc25 hr25 rc41 hr41 h)

set_option maxRecDepth 100000 in
set_option maxHeartbeats 4000000 in
theorem m10_ask_L41_k {p : Program} {l : Launch} {e : Env} {s : State} {m : MethodId} {args : Array Value} {below : List Frame} {meth : Method} {c : Code} {G : gG} {A : Nat → Prop} (C : Cx p e s m args meth c G RX10 cX10_ask 9 (some .int) A) (T0 T1 T2 T3 T4 T5 T6 T7 T8 T9 T10 T11 T12 : Nat) (T : SX10) (x1 : Int32) (x2 : Int32) (x3 : Int32) (x4 : Int32) (R0 : Int32 × SX10) (rc25 : Int32 × Int32 × Int32 → Option (Int32 × SX10)) (hr25 : ∀ (x2 : Int32) (x3 : Int32) (x4 : Int32), rc25 (x2, x3, x4) = some R0 → Gq p l e (rq 5 115) s m args below meth c G A 9 0 0 (MQ below (QK G (some (.int R0.1)) (u10 G T0 T1 T2 T3 T4 T5 T6 T7 T8 T9 T10 T11 T12 R0.2) A) args s 0 0 A) 25 [(0, .ref T0), (1, .int x1), (2, .int x2), (3, .int x3), (4, .int x4)] [] (u10 G T0 T1 T2 T3 T4 T5 T6 T7 T8 T9 T10 T11 T12 T)) : ∀ (n : Nat) (x5 : Int32) (x6 : Int32) (x7 : Int32), tit (m10_ask_L41 T x1 x2 x3 x4 rc25) n (x5, x6, x7) = some R0 → Gq p l e (rq 5 115) s m args below meth c G A 9 0 0 (MQ below (QK G (some (.int R0.1)) (u10 G T0 T1 T2 T3 T4 T5 T6 T7 T8 T9 T10 T11 T12 R0.2) A) args s 0 0 A) 41 [(0, .ref T0), (1, .int x1), (2, .int x2), (3, .int x3), (4, .int x4), (5, .int x5), (6, .int x6), (7, .int x7)] [] (u10 G T0 T1 T2 T3 T4 T5 T6 T7 T8 T9 T10 T11 T12 T) := by
  intro n
  induction n with
  | zero => exact fun _ _ _ h => (tit_z h).elim
  | succ n ih =>
    intro x5 x6 x7 h
    replace h : m10_ask_B41 T x1 x2 x3 x4 rc25 (tit (m10_ask_L41 T x1 x2 x3 x4 rc25) n) x5 x6 x7 = some R0 := h
    unfold m10_ask_B41 at h
    refine go_iload C dX10_ask_41 7 rfl ?_
    refine go_bipush (v := 60) C dX10_ask_43 rfl ?_
    refine go_icmp_ge (tgt := 106) C h dX10_ask_45 rfl (fun h => ?_) (fun h => ?_)
    · refine go_iload C dX10_ask_106 6 rfl ?_
      refine go_iload C dX10_ask_108 5 rfl ?_
      refine go_iload C dX10_ask_110 6 rfl ?_
      refine go_isub C dX10_ask_112 ?_
      refine go_icmp_le (tgt := 121) C h dX10_ask_113 rfl (fun h => ?_) (fun h => ?_)
      · refine go_iload C dX10_ask_121 5 rfl ?_
        refine go_iload C dX10_ask_123 6 rfl ?_
        refine go_isub C dX10_ask_125 ?_
        exact go_lv [0, 1, 2, 3, 4, 5] rfl (m10_ask_J126_k C T0 T1 T2 T3 T4 T5 T6 T7 T8 T9 T10 T11 T12 T x1 x2 x3 x4 x5 (x5 - x6) R0 rc25 hr25 h)
      · refine go_iload C dX10_ask_116 6 rfl ?_
        refine go_goto (tgt := 126) C dX10_ask_118 rfl ?_
        exact go_lv [0, 1, 2, 3, 4, 5] rfl (m10_ask_J126_k C T0 T1 T2 T3 T4 T5 T6 T7 T8 T9 T10 T11 T12 T x1 x2 x3 x4 x5 x6 R0 rc25 hr25 h)
    · refine go_aload_n C dX10_ask_48 0 rfl ?_
      refine go_iload C dX10_ask_49 7 rfl ?_
      obtain ⟨r7, k8, h⟩ := tbd_e h
      refine go_callV (q0 := 0) (wr := ([] : va_W)) (w' := u10 G T0 T1 T2 T3 T4 T5 T6 T7 T8 T9 T10 T11 T12 T) C cfX10_151 viX10_isFit (m10_isFit_k l G T0 T1 T2 T3 T4 T5 T6 T7 T8 T9 T10 T11 T12 T x7 r7 k8) dX10_ask_51 (by decide) ⟨Nat.zero_le _, Nat.zero_le _⟩ rfl rfl (Nat.le_of_ble_eq_true rfl) rfl [0, 1, 2, 3, 4, 5, 6, 7, 8, 9, 10, 11, 12] [] [0, 1, 2, 3, 4, 5, 6, 7, 8, 9, 10, 11, 12] rfl rfl (by decide) rfl ?_
      refine go_istore (lv' := [(8, .int r7), (0, .ref T0), (1, .int x1), (2, .int x2), (3, .int x3), (4, .int x4), (5, .int x5), (6, .int x6), (7, .int x7)]) C dX10_ask_54 (by decide) rfl ?_
      refine go_iload C dX10_ask_56 6 rfl ?_
      refine go_iload C dX10_ask_58 0 rfl ?_
      refine go_if_eq (tgt := 67) C h dX10_ask_60 rfl (fun h => ?_) (fun h => ?_)
      · refine go_iconst (v := 0) C dX10_ask_67 rfl ?_
        exact go_lv [1, 2, 3, 4, 5, 7, 8, 0] rfl (m10_ask_J68_k C T0 T1 T2 T3 T4 T5 T6 T7 T8 T9 T10 T11 T12 T x1 x2 x3 x4 x6 x7 r7 x5 (0 : Int32) R0 rc25 hr25 _ (fun z0 z1 z2 h => ih z0 z1 z2 h) h)
      · refine go_iconst (v := 1) C dX10_ask_63 rfl ?_
        refine go_goto (tgt := 68) C dX10_ask_64 rfl ?_
        exact go_lv [1, 2, 3, 4, 5, 7, 8, 0] rfl (m10_ask_J68_k C T0 T1 T2 T3 T4 T5 T6 T7 T8 T9 T10 T11 T12 T x1 x2 x3 x4 x6 x7 r7 x5 (1 : Int32) R0 rc25 hr25 _ (fun z0 z1 z2 h => ih z0 z1 z2 h) h)

set_option maxRecDepth 100000 in
set_option maxHeartbeats 4000000 in
theorem m10_ask_L25_k {p : Program} {l : Launch} {e : Env} {s : State} {m : MethodId} {args : Array Value} {below : List Frame} {meth : Method} {c : Code} {G : gG} {A : Nat → Prop} (C : Cx p e s m args meth c G RX10 cX10_ask 9 (some .int) A) (T0 T1 T2 T3 T4 T5 T6 T7 T8 T9 T10 T11 T12 : Nat) (T : SX10) (x1 : Int32) (R0 : Int32 × SX10)  : ∀ (n : Nat) (x2 : Int32) (x3 : Int32) (x4 : Int32), tit (m10_ask_L25 T x1) n (x2, x3, x4) = some R0 → Gq p l e (rq 5 115) s m args below meth c G A 9 0 0 (MQ below (QK G (some (.int R0.1)) (u10 G T0 T1 T2 T3 T4 T5 T6 T7 T8 T9 T10 T11 T12 R0.2) A) args s 0 0 A) 25 [(0, .ref T0), (1, .int x1), (2, .int x2), (3, .int x3), (4, .int x4)] [] (u10 G T0 T1 T2 T3 T4 T5 T6 T7 T8 T9 T10 T11 T12 T) := by
  intro n
  induction n with
  | zero => exact fun _ _ _ h => (tit_z h).elim
  | succ n ih =>
    intro x2 x3 x4 h
    replace h : m10_ask_B25 T x1 (tit (m10_ask_L25 T x1) n) x2 x3 x4 = some R0 := h
    unfold m10_ask_B25 at h
    refine go_iload C dX10_ask_25 4 rfl ?_
    refine go_bipush (v := 13) C dX10_ask_27 rfl ?_
    refine go_icmp_ge (tgt := 176) C h dX10_ask_29 rfl (fun h => ?_) (fun h => ?_)
    · refine go_iload_n C dX10_ask_176 2 rfl ?_
      refine go_if_lt (tgt := 184) C h dX10_ask_177 rfl (fun h => ?_) (fun h => ?_)
      · refine go_iload_n C dX10_ask_184 2 rfl ?_
        refine go_goto (tgt := 189) C dX10_ask_185 rfl ?_
        cases h
        exact go_iret C dX10_ask_189 rfl rfl
      · refine go_iload_n C dX10_ask_180 1 rfl ?_
        refine go_if_ne (tgt := 188) C h dX10_ask_181 rfl (fun h => ?_) (fun h => ?_)
        · refine go_iload_n C dX10_ask_188 3 rfl ?_
          cases h
          exact go_iret C dX10_ask_189 rfl rfl
        · refine go_iload_n C dX10_ask_184 2 rfl ?_
          refine go_goto (tgt := 189) C dX10_ask_185 rfl ?_
          cases h
          exact go_iret C dX10_ask_189 rfl rfl
    · refine go_iconst (v := 0) C dX10_ask_32 rfl ?_
      refine go_istore (lv' := [(5, .int (0 : Int32)), (0, .ref T0), (1, .int x1), (2, .int x2), (3, .int x3), (4, .int x4)]) C dX10_ask_33 (by decide) rfl ?_
      refine go_iconst (v := 0) C dX10_ask_35 rfl ?_
      refine go_istore (lv' := [(6, .int (0 : Int32)), (5, .int (0 : Int32)), (0, .ref T0), (1, .int x1), (2, .int x2), (3, .int x3), (4, .int x4)]) C dX10_ask_36 (by decide) rfl ?_
      refine go_iconst (v := 0) C dX10_ask_38 rfl ?_
      refine go_istore (lv' := [(7, .int (0 : Int32)), (6, .int (0 : Int32)), (5, .int (0 : Int32)), (0, .ref T0), (1, .int x1), (2, .int x2), (3, .int x3), (4, .int x4)]) C dX10_ask_39 (by decide) rfl ?_
      exact go_lv [3, 4, 5, 6, 7, 2, 1, 0] rfl (m10_ask_L41_k C T0 T1 T2 T3 T4 T5 T6 T7 T8 T9 T10 T11 T12 T x1 x2 x3 x4 R0 _ (fun z0 z1 z2 h => ih z0 z1 z2 h) FU (0 : Int32) (0 : Int32) (0 : Int32) h)

set_option maxRecDepth 100000 in
set_option maxHeartbeats 4000000 in
theorem m10_ask_k (l : Launch) (G : gG) (T0 T1 T2 T3 T4 T5 T6 T7 T8 T9 T10 T11 T12 : Nat) (T : SX10) (a1 : Int32) (R0 : Int32 × SX10) (h : m10_ask T a1 = some R0) : KK l G yX10_ask cX10_ask 9 (some .int) 5 115 [.ref T0, .int a1] (u10 G T0 T1 T2 T3 T4 T5 T6 T7 T8 T9 T10 T11 T12 T) (some (.int R0.1)) (u10 G T0 T1 T2 T3 T4 T5 T6 T7 T8 T9 T10 T11 T12 R0.2) := by
  refine KK_intro (own := RX10) (by decide +kernel) rfl (Nat.le_of_ble_eq_true rfl) rfl ?_
  intro p e s m args below meth c A C
  unfold m10_ask at h
  refine go_iload_n C dX10_ask_0 1 rfl ?_
  refine go_iconst (v := 0) C dX10_ask_1 rfl ?_
  refine go_iconst (v := 1) C dX10_ask_2 rfl ?_
  obtain ⟨r1, k2, h⟩ := tbd_e h
  refine go_callS0 C cfX10_48 (wr8 _ (List.mem_of_getElem? (i := 3) rfl)) (m10_in_k l G a1 (0 : Int32) (1 : Int32) r1 k2) dX10_ask_3 (by decide) ⟨Nat.zero_le _, Nat.zero_le _⟩ rfl rfl (Nat.le_of_ble_eq_true rfl) ?_
  refine go_if_ne (tgt := 12) C h dX10_ask_6 rfl (fun h => ?_) (fun h => ?_)
  · refine go_aload_n C dX10_ask_12 0 rfl ?_
    obtain ⟨r3, k4, h⟩ := tbd_e h
    refine go_callV (q0 := 0) (wr := ([] : va_W)) (w' := u10 G T0 T1 T2 T3 T4 T5 T6 T7 T8 T9 T10 T11 T12 r3) C cfX10_110 viX10_asNow (m10_asNow_k l G T0 T1 T2 T3 T4 T5 T6 T7 T8 T9 T10 T11 T12 T r3 k4) dX10_ask_13 (by decide) ⟨Nat.zero_le _, Nat.zero_le _⟩ rfl rfl (Nat.le_of_ble_eq_true rfl) rfl [0, 1, 2, 3, 4, 5, 6, 7, 8, 9, 10, 11, 12] [] [0, 1, 2, 3, 4, 5, 6, 7, 8, 9, 10, 11, 12] rfl rfl (by decide) rfl ?_
    refine go_bipush (v := -6) C dX10_ask_16 rfl ?_
    refine go_istore_n (lv' := [(2, .int (-6 : Int32)), (0, .ref T0), (1, .int a1)]) C dX10_ask_18 (by decide) rfl ?_
    refine go_ldc (v := 1000000) C dX10_ask_19 (wr24 _ (List.mem_of_getElem? (i := 8) rfl)) ?_
    refine go_istore_n (lv' := [(3, .int (1000000 : Int32)), (2, .int (-6 : Int32)), (0, .ref T0), (1, .int a1)]) C dX10_ask_21 (by decide) rfl ?_
    refine go_iconst (v := 1) C dX10_ask_22 rfl ?_
    refine go_istore (lv' := [(4, .int (1 : Int32)), (3, .int (1000000 : Int32)), (2, .int (-6 : Int32)), (0, .ref T0), (1, .int a1)]) C dX10_ask_23 (by decide) rfl ?_
    exact go_lv [3, 4, 2, 1, 0] rfl (m10_ask_L25_k C T0 T1 T2 T3 T4 T5 T6 T7 T8 T9 T10 T11 T12 r3 a1 R0  FU (-6 : Int32) (1000000 : Int32) (1 : Int32) h)
  · refine go_bipush (v := -2) C dX10_ask_9 rfl ?_
    cases h
    exact go_iret C dX10_ask_11 rfl rfl

set_option maxRecDepth 100000 in
set_option maxHeartbeats 4000000 in
theorem m10_firstDown_J84_k {p : Program} {l : Launch} {e : Env} {s : State} {m : MethodId} {args : Array Value} {below : List Frame} {meth : Method} {c : Code} {G : gG} {A : Nat → Prop} (C : Cx p e s m args meth c G RX10 cX10_firstDown 5 (some .int) A) (T0 T1 T2 T3 T4 T5 T6 T7 T8 T9 T10 T11 T12 : Nat) (T : SX10) (x1 : Int32) (x2 : Int32) (x3 : Int32) (R0 : Int32) (rc2 : Int32 → Option (Int32)) (hr2 : ∀ (x2 : Int32), rc2 x2 = some R0 → Gq p l e (rq 1 21) s m args below meth c G A 5 0 0 (MQ below (QK G (some (.int R0)) (u10 G T0 T1 T2 T3 T4 T5 T6 T7 T8 T9 T10 T11 T12 T) A) args s 0 0 A) 2 [(0, .ref T0), (1, .int x1), (2, .int x2)] [] (u10 G T0 T1 T2 T3 T4 T5 T6 T7 T8 T9 T10 T11 T12 T)) (h : m10_firstDown_J84 T x1 x2 x3 rc2 = some R0) : Gq p l e (rq 1 21) s m args below meth c G A 5 0 0 (MQ below (QK G (some (.int R0)) (u10 G T0 T1 T2 T3 T4 T5 T6 T7 T8 T9 T10 T11 T12 T) A) args s 0 0 A) 84 [(0, .ref T0), (1, .int x1), (2, .int x2), (3, .int x3)] [] (u10 G T0 T1 T2 T3 T4 T5 T6 T7 T8 T9 T10 T11 T12 T) := by
  unfold m10_firstDown_J84 at h
  refine go_iload_n C dX10_firstDown_84 3 rfl ?_
  refine go_if_le (tgt := 90) C h dX10_firstDown_85 rfl (fun h => ?_) (fun h => ?_)
  · refine go_iincN (lf := fun v5 => [(2, .int v5), (0, .ref T0), (1, .int x1), (3, .int x3)]) C h dX10_firstDown_90 2 rfl rfl (by decide) (fun _ => rfl) (fun v5 h => ?_)
    refine go_goto (tgt := 2) C dX10_firstDown_93 rfl ?_
    exact go_lv [1, 2, 0] rfl (hr2 v5 h)
  · refine go_iload_n C dX10_firstDown_88 3 rfl ?_
    cases h
    exact go_iret C dX10_firstDown_89 rfl rfl

set_option maxRecDepth 100000 in
set_option maxHeartbeats 4000000 in
theorem m10_firstDown_L26_k {p : Program} {l : Launch} {e : Env} {s : State} {m : MethodId} {args : Array Value} {below : List Frame} {meth : Method} {c : Code} {G : gG} {A : Nat → Prop} (C : Cx p e s m args meth c G RX10 cX10_firstDown 5 (some .int) A) (T0 T1 T2 T3 T4 T5 T6 T7 T8 T9 T10 T11 T12 : Nat) (T : SX10) (x1 : Int32) (x2 : Int32) (R0 : Int32) (rc2 : Int32 → Option (Int32)) (hr2 : ∀ (x2 : Int32), rc2 x2 = some R0 → Gq p l e (rq 1 21) s m args below meth c G A 5 0 0 (MQ below (QK G (some (.int R0)) (u10 G T0 T1 T2 T3 T4 T5 T6 T7 T8 T9 T10 T11 T12 T) A) args s 0 0 A) 2 [(0, .ref T0), (1, .int x1), (2, .int x2)] [] (u10 G T0 T1 T2 T3 T4 T5 T6 T7 T8 T9 T10 T11 T12 T)) : ∀ (n : Nat) (x3 : Int32) (x4 : Int32), tit (m10_firstDown_L26 T x1 x2 rc2) n (x3, x4) = some R0 → Gq p l e (rq 1 21) s m args below meth c G A 5 0 0 (MQ below (QK G (some (.int R0)) (u10 G T0 T1 T2 T3 T4 T5 T6 T7 T8 T9 T10 T11 T12 T) A) args s 0 0 A) 26 [(0, .ref T0), (1, .int x1), (2, .int x2), (3, .int x3), (4, .int x4)] [] (u10 G T0 T1 T2 T3 T4 T5 T6 T7 T8 T9 T10 T11 T12 T) := by
  intro n
  induction n with
  | zero => exact fun _ _ h => (tit_z h).elim
  | succ n ih =>
    intro x3 x4 h
    replace h : m10_firstDown_B26 T x1 x2 rc2 (tit (m10_firstDown_L26 T x1 x2 rc2) n) x3 x4 = some R0 := h
    unfold m10_firstDown_B26 at h
    refine go_iload C dX10_firstDown_26 4 rfl ?_
    refine go_if_le (tgt := 84) C h dX10_firstDown_28 rfl (fun h => ?_) (fun h => ?_)
    · exact go_lv [0, 1, 2, 3] rfl (m10_firstDown_J84_k C T0 T1 T2 T3 T4 T5 T6 T7 T8 T9 T10 T11 T12 T x1 x2 x3 R0 rc2 hr2 h)
    · refine go_iload_n C dX10_firstDown_31 1 rfl ?_
      refine go_iload C dX10_firstDown_32 4 rfl ?_
      refine go_iconst (v := 1) C dX10_firstDown_34 rfl ?_
      refine go_isub C dX10_firstDown_35 ?_
      obtain ⟨r6, k7, h⟩ := tbd_e h
      refine go_callS0 C cfX10_65 (wr18 _ (List.mem_of_getElem? (i := 23) rfl)) (m10_has_k l G x1 (x4 - (1 : Int32)) r6 k7) dX10_firstDown_36 (by decide) ⟨Nat.zero_le _, Nat.zero_le _⟩ rfl rfl (Nat.le_of_ble_eq_true rfl) ?_
      refine go_if_ne (tgt := 84) C h dX10_firstDown_39 rfl (fun h => ?_) (fun h => ?_)
      · exact go_lv [0, 1, 2, 3] rfl (m10_firstDown_J84_k C T0 T1 T2 T3 T4 T5 T6 T7 T8 T9 T10 T11 T12 T x1 x2 x3 R0 rc2 hr2 h)
      · refine go_aload_n C dX10_firstDown_42 0 rfl ?_
        refine go_get (v := .ref T8) C ffX10_32 dX10_firstDown_43 0 rfl rfl ?_
        refine go_iload_n C dX10_firstDown_46 1 rfl ?_
        refine go_iconst (v := 1) C dX10_firstDown_47 rfl ?_
        refine go_iload_n C dX10_firstDown_48 2 rfl ?_
        refine go_iconst (v := 1) C dX10_firstDown_49 rfl ?_
        refine go_isub C dX10_firstDown_50 ?_
        refine go_ishl C dX10_firstDown_51 ?_
        refine go_iconst (v := -1) C dX10_firstDown_52 rfl ?_
        refine go_ixor C dX10_firstDown_53 ?_
        refine go_iand C dX10_firstDown_54 ?_
        refine go_iconst (v := 1) C dX10_firstDown_55 rfl ?_
        refine go_iload C dX10_firstDown_56 4 rfl ?_
        refine go_iconst (v := 1) C dX10_firstDown_58 rfl ?_
        refine go_isub C dX10_firstDown_59 ?_
        refine go_ishl C dX10_firstDown_60 ?_
        refine go_ior C dX10_firstDown_61 ?_
        refine go_zaloadG (f := (g10_wins T)) C h dX10_firstDown_62 8 rfl (fun h => ?_)
        refine go_if_eq (tgt := 70) C h dX10_firstDown_63 rfl (fun h => ?_) (fun h => ?_)
        · refine go_bipush (v := 100) C dX10_firstDown_70 rfl ?_
          refine go_iload_n C dX10_firstDown_72 2 rfl ?_
          refine go_imul C dX10_firstDown_73 ?_
          refine go_iload C dX10_firstDown_74 4 rfl ?_
          refine go_iadd C dX10_firstDown_76 ?_
          refine go_istore_nN (lf := fun v8 => [(3, .int v8), (0, .ref T0), (1, .int x1), (2, .int x2), (4, .int x4)]) C h dX10_firstDown_77 (by decide) (fun _ => rfl) (fun v8 h => ?_)
          refine go_iincN (lf := fun v9 => [(4, .int v9), (3, .int v8), (0, .ref T0), (1, .int x1), (2, .int x2)]) C h dX10_firstDown_78 4 rfl rfl (by decide) (fun _ => rfl) (fun v9 h => ?_)
          refine go_goto (tgt := 26) C dX10_firstDown_81 rfl ?_
          exact go_lv [2, 3, 4, 1, 0] rfl (ih v8 v9 h)
        · refine go_iload_n C dX10_firstDown_66 3 rfl ?_
          refine go_goto (tgt := 77) C dX10_firstDown_67 rfl ?_
          refine go_istore_n (lv' := [(3, .int x3), (0, .ref T0), (1, .int x1), (2, .int x2), (4, .int x4)]) C dX10_firstDown_77 (by decide) rfl ?_
          refine go_iincN (lf := fun v10 => [(4, .int v10), (3, .int x3), (0, .ref T0), (1, .int x1), (2, .int x2)]) C h dX10_firstDown_78 4 rfl rfl (by decide) (fun _ => rfl) (fun v10 h => ?_)
          refine go_goto (tgt := 26) C dX10_firstDown_81 rfl ?_
          exact go_lv [2, 3, 4, 1, 0] rfl (ih x3 v10 h)

set_option maxRecDepth 100000 in
set_option maxHeartbeats 4000000 in
theorem m10_firstDown_L2_k {p : Program} {l : Launch} {e : Env} {s : State} {m : MethodId} {args : Array Value} {below : List Frame} {meth : Method} {c : Code} {G : gG} {A : Nat → Prop} (C : Cx p e s m args meth c G RX10 cX10_firstDown 5 (some .int) A) (T0 T1 T2 T3 T4 T5 T6 T7 T8 T9 T10 T11 T12 : Nat) (T : SX10) (x1 : Int32) (R0 : Int32)  : ∀ (n : Nat) (x2 : Int32), tit (m10_firstDown_L2 T x1) n x2 = some R0 → Gq p l e (rq 1 21) s m args below meth c G A 5 0 0 (MQ below (QK G (some (.int R0)) (u10 G T0 T1 T2 T3 T4 T5 T6 T7 T8 T9 T10 T11 T12 T) A) args s 0 0 A) 2 [(0, .ref T0), (1, .int x1), (2, .int x2)] [] (u10 G T0 T1 T2 T3 T4 T5 T6 T7 T8 T9 T10 T11 T12 T) := by
  intro n
  induction n with
  | zero => exact fun _ h => (tit_z h).elim
  | succ n ih =>
    intro x2 h
    replace h : m10_firstDown_B2 T x1 (tit (m10_firstDown_L2 T x1) n) x2 = some R0 := h
    unfold m10_firstDown_B2 at h
    refine go_iload_n C dX10_firstDown_2 2 rfl ?_
    refine go_bipush (v := 13) C dX10_firstDown_3 rfl ?_
    refine go_icmp_ge (tgt := 96) C h dX10_firstDown_5 rfl (fun h => ?_) (fun h => ?_)
    · refine go_bipush (v := -6) C dX10_firstDown_96 rfl ?_
      cases h
      exact go_iret C dX10_firstDown_98 rfl rfl
    · refine go_iload_n C dX10_firstDown_8 1 rfl ?_
      refine go_iload_n C dX10_firstDown_9 2 rfl ?_
      refine go_iconst (v := 1) C dX10_firstDown_10 rfl ?_
      refine go_isub C dX10_firstDown_11 ?_
      obtain ⟨r1, k2, h⟩ := tbd_e h
      refine go_callS0 C cfX10_65 (wr18 _ (List.mem_of_getElem? (i := 23) rfl)) (m10_has_k l G x1 (x2 - (1 : Int32)) r1 k2) dX10_firstDown_12 (by decide) ⟨Nat.zero_le _, Nat.zero_le _⟩ rfl rfl (Nat.le_of_ble_eq_true rfl) ?_
      refine go_if_eq (tgt := 90) C h dX10_firstDown_15 rfl (fun h => ?_) (fun h => ?_)
      · refine go_iincN (lf := fun v3 => [(2, .int v3), (0, .ref T0), (1, .int x1)]) C h dX10_firstDown_90 2 rfl rfl (by decide) (fun _ => rfl) (fun v3 h => ?_)
        refine go_goto (tgt := 2) C dX10_firstDown_93 rfl ?_
        exact go_lv [1, 2, 0] rfl (ih v3 h)
      · refine go_bipush (v := -6) C dX10_firstDown_18 rfl ?_
        refine go_istore_n (lv' := [(3, .int (-6 : Int32)), (0, .ref T0), (1, .int x1), (2, .int x2)]) C dX10_firstDown_20 (by decide) rfl ?_
        refine go_iload_n C dX10_firstDown_21 3 rfl ?_
        refine go_iconst (v := 1) C dX10_firstDown_22 rfl ?_
        refine go_isub C dX10_firstDown_23 ?_
        refine go_istoreN (lf := fun v4 => [(4, .int v4), (3, .int (-6 : Int32)), (0, .ref T0), (1, .int x1), (2, .int x2)]) C h dX10_firstDown_24 (by decide) (fun _ => rfl) (fun v4 h => ?_)
        exact go_lv [2, 3, 4, 1, 0] rfl (m10_firstDown_L26_k C T0 T1 T2 T3 T4 T5 T6 T7 T8 T9 T10 T11 T12 T x1 x2 R0 _ (fun z0 h => ih z0 h) FU (-6 : Int32) v4 h)

set_option maxRecDepth 100000 in
set_option maxHeartbeats 4000000 in
theorem m10_firstDown_k (l : Launch) (G : gG) (T0 T1 T2 T3 T4 T5 T6 T7 T8 T9 T10 T11 T12 : Nat) (T : SX10) (a1 : Int32) (R0 : Int32) (h : m10_firstDown T a1 = some R0) : KK l G yX10_firstDown cX10_firstDown 5 (some .int) 1 21 [.ref T0, .int a1] (u10 G T0 T1 T2 T3 T4 T5 T6 T7 T8 T9 T10 T11 T12 T) (some (.int R0)) (u10 G T0 T1 T2 T3 T4 T5 T6 T7 T8 T9 T10 T11 T12 T) := by
  refine KK_intro (own := RX10) (by decide +kernel) rfl (Nat.le_of_ble_eq_true rfl) rfl ?_
  intro p e s m args below meth c A C
  unfold m10_firstDown at h
  refine go_iconst (v := 2) C dX10_firstDown_0 rfl ?_
  refine go_istore_n (lv' := [(2, .int (2 : Int32)), (0, .ref T0), (1, .int a1)]) C dX10_firstDown_1 (by decide) rfl ?_
  exact go_lv [1, 2, 0] rfl (m10_firstDown_L2_k C T0 T1 T2 T3 T4 T5 T6 T7 T8 T9 T10 T11 T12 T a1 R0  FU (2 : Int32) h)

set_option maxRecDepth 100000 in
set_option maxHeartbeats 4000000 in
theorem m10_down_L25_k {p : Program} {l : Launch} {e : Env} {s : State} {m : MethodId} {args : Array Value} {below : List Frame} {meth : Method} {c : Code} {G : gG} {A : Nat → Prop} (C : Cx p e s m args meth c G RX10 cX10_down 4 (some .int) A) (T0 T1 T2 T3 T4 T5 T6 T7 T8 T9 T10 T11 T12 : Nat) (x1 : Int32) (x2 : Int32) (R0 : Int32 × SX10)  : ∀ (n : Nat) (x3 : Int32) (T : SX10), tit (m10_down_L25 x1 x2) n (x3, T) = some R0 → Gq p l e (rq 2 45) s m args below meth c G A 4 0 0 (MQ below (QK G (some (.int R0.1)) (u10 G T0 T1 T2 T3 T4 T5 T6 T7 T8 T9 T10 T11 T12 R0.2) A) args s 0 0 A) 25 [(0, .ref T0), (1, .int x1), (2, .int x2), (3, .int x3)] [] (u10 G T0 T1 T2 T3 T4 T5 T6 T7 T8 T9 T10 T11 T12 T) := by
  intro n
  induction n with
  | zero => exact fun _ _ h => (tit_z h).elim
  | succ n ih =>
    intro x3 T h
    replace h : m10_down_B25 x1 x2 (tit (m10_down_L25 x1 x2) n) x3 T = some R0 := h
    unfold m10_down_B25 at h
    refine go_iload_n C dX10_down_25 3 rfl ?_
    refine go_iload_n C dX10_down_26 1 rfl ?_
    refine go_icmp_ge (tgt := 55) C h dX10_down_27 rfl (fun h => ?_) (fun h => ?_)
    · refine go_aload_n C dX10_down_55 0 rfl ?_
      refine go_iload_n C dX10_down_56 1 rfl ?_
      obtain ⟨r5, k6, h⟩ := tbd_e h
      refine go_callV (q0 := 0) (wr := ([] : va_W)) (w' := u10 G T0 T1 T2 T3 T4 T5 T6 T7 T8 T9 T10 T11 T12 T) C cfX10_154 viX10_firstDown (m10_firstDown_k l G T0 T1 T2 T3 T4 T5 T6 T7 T8 T9 T10 T11 T12 T x1 r5 k6) dX10_down_57 (by decide) ⟨Nat.zero_le _, Nat.zero_le _⟩ rfl rfl (Nat.le_of_ble_eq_true rfl) rfl [0, 1, 2, 3, 4, 5, 6, 7, 8, 9, 10, 11, 12] [] [0, 1, 2, 3, 4, 5, 6, 7, 8, 9, 10, 11, 12] rfl rfl (by decide) rfl ?_
      refine go_istore_n (lv' := [(3, .int r5), (0, .ref T0), (1, .int x1), (2, .int x2)]) C dX10_down_60 (by decide) rfl ?_
      refine go_iload_n C dX10_down_61 3 rfl ?_
      refine go_iconst (v := 1) C dX10_down_62 rfl ?_
      refine go_icmp_ne (tgt := 70) C h dX10_down_63 rfl (fun h => ?_) (fun h => ?_)
      · refine go_iload_n C dX10_down_70 0 rfl ?_
        refine go_if_ge (tgt := 78) C h dX10_down_71 rfl (fun h => ?_) (fun h => ?_)
        · refine go_iconst (v := 1) C dX10_down_78 rfl ?_
          cases h
          exact go_iret C dX10_down_79 rfl rfl
        · refine go_iconst (v := 0) C dX10_down_74 rfl ?_
          refine go_goto (tgt := 79) C dX10_down_75 rfl ?_
          cases h
          exact go_iret C dX10_down_79 rfl rfl
      · refine go_iload_n C dX10_down_66 0 rfl ?_
        refine go_goto (tgt := 79) C dX10_down_67 rfl ?_
        cases h
        exact go_iret C dX10_down_79 rfl rfl
    · refine go_aload_n C dX10_down_30 0 rfl ?_
      refine go_get (v := .ref T8) C ffX10_32 dX10_down_31 0 rfl rfl ?_
      refine go_iload_n C dX10_down_34 3 rfl ?_
      refine go_aload_n C dX10_down_35 0 rfl ?_
      refine go_iload_n C dX10_down_36 3 rfl ?_
      obtain ⟨r7, k8, h⟩ := tbd_e h
      refine go_callV (q0 := 0) (wr := ([] : va_W)) (w' := u10 G T0 T1 T2 T3 T4 T5 T6 T7 T8 T9 T10 T11 T12 T) C cfX10_154 viX10_firstDown (m10_firstDown_k l G T0 T1 T2 T3 T4 T5 T6 T7 T8 T9 T10 T11 T12 T x3 r7 k8) dX10_down_37 (by decide) ⟨Nat.zero_le _, Nat.zero_le _⟩ rfl rfl (Nat.le_of_ble_eq_true rfl) rfl [0, 1, 2, 3, 4, 5, 6, 7, 8, 9, 10, 11, 12] [] [0, 1, 2, 3, 4, 5, 6, 7, 8, 9, 10, 11, 12] rfl rfl (by decide) rfl ?_
      refine go_if_le (tgt := 47) C h dX10_down_40 rfl (fun h => ?_) (fun h => ?_)
      · refine go_iconst (v := 0) C dX10_down_47 rfl ?_
        refine go_zastoreG (f := (g10_wins T)) (w' := u10 G T0 T1 T2 T3 T4 T5 T6 T7 T8 T9 T10 T11 T12 (s10_wins T (upd (g10_wins T) (Int32.toNatClampNeg x3) (vp_nar .boolean (0 : Int32))))) C h dX10_down_48 8 rfl z10_wins (fun h => ?_)
        refine go_iincN (lf := fun v9 => [(3, .int v9), (0, .ref T0), (1, .int x1), (2, .int x2)]) C h dX10_down_49 3 rfl rfl (by decide) (fun _ => rfl) (fun v9 h => ?_)
        refine go_goto (tgt := 25) C dX10_down_52 rfl ?_
        exact go_lv [1, 2, 3, 0] rfl (ih v9 (s10_wins T (upd (g10_wins T) (Int32.toNatClampNeg x3) (vp_nar .boolean (0 : Int32)))) h)
      · refine go_iconst (v := 1) C dX10_down_43 rfl ?_
        refine go_goto (tgt := 48) C dX10_down_44 rfl ?_
        refine go_zastoreG (f := (g10_wins T)) (w' := u10 G T0 T1 T2 T3 T4 T5 T6 T7 T8 T9 T10 T11 T12 (s10_wins T (upd (g10_wins T) (Int32.toNatClampNeg x3) (vp_nar .boolean (1 : Int32))))) C h dX10_down_48 8 rfl z10_wins (fun h => ?_)
        refine go_iincN (lf := fun v10 => [(3, .int v10), (0, .ref T0), (1, .int x1), (2, .int x2)]) C h dX10_down_49 3 rfl rfl (by decide) (fun _ => rfl) (fun v10 h => ?_)
        refine go_goto (tgt := 25) C dX10_down_52 rfl ?_
        exact go_lv [1, 2, 3, 0] rfl (ih v10 (s10_wins T (upd (g10_wins T) (Int32.toNatClampNeg x3) (vp_nar .boolean (1 : Int32)))) h)

set_option maxRecDepth 100000 in
set_option maxHeartbeats 4000000 in
theorem m10_down_k (l : Launch) (G : gG) (T0 T1 T2 T3 T4 T5 T6 T7 T8 T9 T10 T11 T12 : Nat) (T : SX10) (a1 : Int32) (a2 : Int32) (R0 : Int32 × SX10) (h : m10_down T a1 a2 = some R0) : KK l G yX10_down cX10_down 4 (some .int) 2 45 [.ref T0, .int a1, .int a2] (u10 G T0 T1 T2 T3 T4 T5 T6 T7 T8 T9 T10 T11 T12 T) (some (.int R0.1)) (u10 G T0 T1 T2 T3 T4 T5 T6 T7 T8 T9 T10 T11 T12 R0.2) := by
  refine KK_intro (own := RX10) (by decide +kernel) rfl (Nat.le_of_ble_eq_true rfl) rfl ?_
  intro p e s m args below meth c A C
  unfold m10_down at h
  refine go_iload_n C dX10_down_0 1 rfl ?_
  refine go_iconst (v := 0) C dX10_down_1 rfl ?_
  refine go_sipush (v := 4095) C dX10_down_2 rfl ?_
  obtain ⟨r1, k2, h⟩ := tbd_e h
  refine go_callS0 C cfX10_48 (wr8 _ (List.mem_of_getElem? (i := 3) rfl)) (m10_in_k l G a1 (0 : Int32) (4095 : Int32) r1 k2) dX10_down_5 (by decide) ⟨Nat.zero_le _, Nat.zero_le _⟩ rfl rfl (Nat.le_of_ble_eq_true rfl) ?_
  refine go_if_eq (tgt := 20) C h dX10_down_8 rfl (fun h => ?_) (fun h => ?_)
  · refine go_bipush (v := -2) C dX10_down_20 rfl ?_
    cases h
    exact go_iret C dX10_down_22 rfl rfl
  · refine go_iload_n C dX10_down_11 2 rfl ?_
    refine go_iconst (v := 0) C dX10_down_12 rfl ?_
    refine go_iconst (v := 1) C dX10_down_13 rfl ?_
    obtain ⟨r3, k4, h⟩ := tbd_e h
    refine go_callS0 C cfX10_48 (wr8 _ (List.mem_of_getElem? (i := 3) rfl)) (m10_in_k l G a2 (0 : Int32) (1 : Int32) r3 k4) dX10_down_14 (by decide) ⟨Nat.zero_le _, Nat.zero_le _⟩ rfl rfl (Nat.le_of_ble_eq_true rfl) ?_
    refine go_if_ne (tgt := 23) C h dX10_down_17 rfl (fun h => ?_) (fun h => ?_)
    · refine go_iconst (v := 0) C dX10_down_23 rfl ?_
      refine go_istore_n (lv' := [(3, .int (0 : Int32)), (0, .ref T0), (1, .int a1), (2, .int a2)]) C dX10_down_24 (by decide) rfl ?_
      exact go_lv [1, 2, 3, 0] rfl (m10_down_L25_k C T0 T1 T2 T3 T4 T5 T6 T7 T8 T9 T10 T11 T12 a1 a2 R0  FU (0 : Int32) T h)
    · refine go_bipush (v := -2) C dX10_down_20 rfl ?_
      cases h
      exact go_iret C dX10_down_22 rfl rfl

set_option maxRecDepth 100000 in
set_option maxHeartbeats 4000000 in
theorem m10_foot_L206_k {p : Program} {l : Launch} {e : Env} {s : State} {m : MethodId} {args : Array Value} {below : List Frame} {meth : Method} {c : Code} {G : gG} {A : Nat → Prop} (C : Cx p e s m args meth c G RX10 cX10_foot 15 (some .long) A) (T0 T1 T2 T3 T4 T5 T6 T7 T8 T9 T10 T11 T12 : Nat) (T : SX10) (x4 : Int32) (x5 : Int64) (x7 : Int64) (R0 : Int64 × SX10)  : ∀ (n : Nat) (x9 : Int64) (x11 : Int64), tit (m10_foot_L206 T x4 x5 x7) n (x9, x11) = some R0 → Gq p l e (rq 2 42) s m args below meth c G A 15 0 0 (MQ below (QK G (some (.long R0.1)) (u10 G T0 T1 T2 T3 T4 T5 T6 T7 T8 T9 T10 T11 T12 R0.2) A) args s 0 0 A) 206 [(4, .int x4), (5, .long x5), (7, .long x7), (9, .long x9), (11, .long x11)] [] (u10 G T0 T1 T2 T3 T4 T5 T6 T7 T8 T9 T10 T11 T12 T) := by
  intro n
  induction n with
  | zero => exact fun _ _ h => (tit_z h).elim
  | succ n ih =>
    intro x9 x11 h
    replace h : m10_foot_B206 T x4 x5 x7 (tit (m10_foot_L206 T x4 x5 x7) n) x9 x11 = some R0 := h
    unfold m10_foot_B206 at h
    refine go_lload C dX10_foot_206 4 rfl ?_
    refine go_lconst (v := 0) C dX10_foot_208 rfl ?_
    refine go_lcmp C dX10_foot_209 ?_
    refine go_if_eq (tgt := 231) C h dX10_foot_210 rfl (fun h => ?_) (fun h => ?_)
    · refine go_iload C dX10_foot_231 0 rfl ?_
      refine go_if_ne (tgt := 244) C h dX10_foot_233 rfl (fun h => ?_) (fun h => ?_)
      · refine go_lload C dX10_foot_244 1 rfl ?_
        refine go_lload C dX10_foot_246 3 rfl ?_
        refine go_ldivG C h dX10_foot_248 (fun h => ?_)
        cases h
        exact go_lret C dX10_foot_249 rfl rfl
      · refine go_lload C dX10_foot_236 2 rfl ?_
        refine go_lload C dX10_foot_238 3 rfl ?_
        refine go_ldivG C h dX10_foot_240 (fun h => ?_)
        refine go_goto (tgt := 249) C dX10_foot_241 rfl ?_
        cases h
        exact go_lret C dX10_foot_249 rfl rfl
    · refine go_lload C dX10_foot_213 3 rfl ?_
      refine go_lload C dX10_foot_215 4 rfl ?_
      refine go_lremG C h dX10_foot_217 (fun h => ?_)
      refine go_lstoreN (lf := fun v13 => [(13, .long v13), (4, .int x4), (5, .long x5), (7, .long x7), (9, .long x9), (11, .long x11)]) C h dX10_foot_218 (by decide) (fun _ => rfl) (fun v13 h => ?_)
      refine go_lload C dX10_foot_220 5 rfl ?_
      refine go_lstoreN (lf := fun v14 => [(9, .long v14), (13, .long v13), (4, .int x4), (5, .long x5), (7, .long x7), (11, .long x11)]) C h dX10_foot_222 (by decide) (fun _ => rfl) (fun v14 h => ?_)
      refine go_lload C dX10_foot_224 1 rfl ?_
      refine go_lstoreN (lf := fun v15 => [(11, .long v15), (9, .long v14), (13, .long v13), (4, .int x4), (5, .long x5), (7, .long x7)]) C h dX10_foot_226 (by decide) (fun _ => rfl) (fun v15 h => ?_)
      refine go_goto (tgt := 206) C dX10_foot_228 rfl ?_
      exact go_lv [3, 4, 5, 1, 0] rfl (ih v14 v15 h)

set_option maxRecDepth 100000 in
set_option maxHeartbeats 4000000 in
theorem m10_foot_J196_k {p : Program} {l : Launch} {e : Env} {s : State} {m : MethodId} {args : Array Value} {below : List Frame} {meth : Method} {c : Code} {G : gG} {A : Nat → Prop} (C : Cx p e s m args meth c G RX10 cX10_foot 15 (some .long) A) (T0 T1 T2 T3 T4 T5 T6 T7 T8 T9 T10 T11 T12 : Nat) (T : SX10) (x4 : Int32) (x5 : Int64) (y0 : Int64) (R0 : Int64 × SX10)  (h : m10_foot_J196 T x4 x5 y0 = some R0) : Gq p l e (rq 2 42) s m args below meth c G A 15 0 0 (MQ below (QK G (some (.long R0.1)) (u10 G T0 T1 T2 T3 T4 T5 T6 T7 T8 T9 T10 T11 T12 R0.2) A) args s 0 0 A) 196 [(4, .int x4), (5, .long x5)] [.long y0] (u10 G T0 T1 T2 T3 T4 T5 T6 T7 T8 T9 T10 T11 T12 T) := by
  unfold m10_foot_J196 at h
  refine go_lstoreN (lf := fun v10 => [(7, .long v10), (4, .int x4), (5, .long x5)]) C h dX10_foot_196 (by decide) (fun _ => rfl) (fun v10 h => ?_)
  refine go_lload C dX10_foot_198 0 rfl ?_
  refine go_lstoreN (lf := fun v11 => [(9, .long v11), (7, .long v10), (4, .int x4), (5, .long x5)]) C h dX10_foot_200 (by decide) (fun _ => rfl) (fun v11 h => ?_)
  refine go_lload C dX10_foot_202 3 rfl ?_
  refine go_lstoreN (lf := fun v12 => [(11, .long v12), (9, .long v11), (7, .long v10), (4, .int x4), (5, .long x5)]) C h dX10_foot_204 (by decide) (fun _ => rfl) (fun v12 h => ?_)
  exact go_lv [3, 4, 2, 1, 0] rfl (m10_foot_L206_k C T0 T1 T2 T3 T4 T5 T6 T7 T8 T9 T10 T11 T12 T x4 x5 v10 R0  FU v11 v12 h)

set_option maxRecDepth 100000 in
set_option maxHeartbeats 4000000 in
theorem m10_foot_L99_k {p : Program} {l : Launch} {e : Env} {s : State} {m : MethodId} {args : Array Value} {below : List Frame} {meth : Method} {c : Code} {G : gG} {A : Nat → Prop} (C : Cx p e s m args meth c G RX10 cX10_foot 15 (some .long) A) (T0 T1 T2 T3 T4 T5 T6 T7 T8 T9 T10 T11 T12 : Nat) (x1 : Int32) (x2 : Int32) (x3 : Int32) (x4 : Int32) (x5 : Int64) (x7 : Int32) (R0 : Int64 × SX10) (rc63 : Int64 × Int32 × SX10 → Option (Int64 × SX10)) (hr63 : ∀ (x5 : Int64) (x7 : Int32) (Tz : SX10), rc63 (x5, x7, Tz) = some R0 → Gq p l e (rq 2 42) s m args below meth c G A 15 0 0 (MQ below (QK G (some (.long R0.1)) (u10 G T0 T1 T2 T3 T4 T5 T6 T7 T8 T9 T10 T11 T12 R0.2) A) args s 0 0 A) 63 [(0, .ref T0), (1, .int x1), (2, .int x2), (3, .int x3), (4, .int x4), (5, .long x5), (7, .int x7)] [] (u10 G T0 T1 T2 T3 T4 T5 T6 T7 T8 T9 T10 T11 T12 Tz)) : ∀ (n : Nat) (x8 : Int64) (x10 : Int32) (T : SX10), tit (m10_foot_L99 x1 x2 x3 x4 x5 x7 rc63) n (x8, x10, T) = some R0 → Gq p l e (rq 2 42) s m args below meth c G A 15 0 0 (MQ below (QK G (some (.long R0.1)) (u10 G T0 T1 T2 T3 T4 T5 T6 T7 T8 T9 T10 T11 T12 R0.2) A) args s 0 0 A) 99 [(0, .ref T0), (1, .int x1), (2, .int x2), (3, .int x3), (4, .int x4), (5, .long x5), (7, .int x7), (8, .long x8), (10, .int x10)] [] (u10 G T0 T1 T2 T3 T4 T5 T6 T7 T8 T9 T10 T11 T12 T) := by
  intro n
  induction n with
  | zero => exact fun _ _ _ h => (tit_z h).elim
  | succ n ih =>
    intro x8 x10 T h
    replace h : m10_foot_B99 x1 x2 x3 x4 x5 x7 rc63 (tit (m10_foot_L99 x1 x2 x3 x4 x5 x7 rc63) n) x8 x10 T = some R0 := h
    unfold m10_foot_B99 at h
    refine go_iload C dX10_foot_99 8 rfl ?_
    refine go_iload_n C dX10_foot_101 1 rfl ?_
    refine go_icmp_gt (tgt := 171) C h dX10_foot_102 rfl (fun h => ?_) (fun h => ?_)
    · refine go_iincN (lf := fun v18 => [(7, .int v18), (0, .ref T0), (1, .int x1), (2, .int x2), (3, .int x3), (4, .int x4), (5, .long x5), (8, .long x8), (10, .int x10)]) C h dX10_foot_171 6 rfl rfl (by decide) (fun _ => rfl) (fun v18 h => ?_)
      refine go_goto (tgt := 63) C dX10_foot_174 rfl ?_
      exact go_lv [1, 2, 3, 4, 5, 6, 0] rfl (hr63 x5 v18 T h)
    · refine go_iload C dX10_foot_105 8 rfl ?_
      refine go_iload C dX10_foot_107 6 rfl ?_
      refine go_icmp_gt (tgt := 171) C h dX10_foot_109 rfl (fun h => ?_) (fun h => ?_)
      · refine go_iincN (lf := fun v19 => [(7, .int v19), (0, .ref T0), (1, .int x1), (2, .int x2), (3, .int x3), (4, .int x4), (5, .long x5), (8, .long x8), (10, .int x10)]) C h dX10_foot_171 6 rfl rfl (by decide) (fun _ => rfl) (fun v19 h => ?_)
        refine go_goto (tgt := 63) C dX10_foot_174 rfl ?_
        exact go_lv [1, 2, 3, 4, 5, 6, 0] rfl (hr63 x5 v19 T h)
      · refine go_aload_n C dX10_foot_112 0 rfl ?_
        refine go_get (v := .ref T9) C ffX10_35 dX10_foot_113 0 rfl rfl ?_
        refine go_iload C dX10_foot_116 6 rfl ?_
        refine go_dup2 C dX10_foot_118 rfl rfl ?_
        refine go_laloadG (f := (g10_odds T)) C h dX10_foot_119 9 rfl (fun h => ?_)
        refine go_aload_n C dX10_foot_120 0 rfl ?_
        refine go_get (v := .ref T9) C ffX10_35 dX10_foot_121 0 rfl rfl ?_
        refine go_iload C dX10_foot_124 6 rfl ?_
        refine go_iload C dX10_foot_126 8 rfl ?_
        refine go_isub C dX10_foot_128 ?_
        refine go_laloadG (f := (g10_odds T)) C h dX10_foot_129 9 rfl (fun h => ?_)
        refine go_lload C dX10_foot_130 7 rfl ?_
        refine go_lmul C dX10_foot_132 ?_
        refine go_ladd C dX10_foot_133 ?_
        refine go_lastoreG (f := (g10_odds T)) (w' := u10 G T0 T1 T2 T3 T4 T5 T6 T7 T8 T9 T10 T11 T12 (s10_odds T (vp_updL (g10_odds T) (Int32.toNatClampNeg x7) (((g10_odds T) (Int32.toNatClampNeg x7)) + (((g10_odds T) (Int32.toNatClampNeg (x7 - x10))) * x8))))) C h dX10_foot_134 9 rfl z10_odds (fun h => ?_)
        refine go_aload_n C dX10_foot_135 0 rfl ?_
        refine go_get (v := .ref T10) C ffX10_39 dX10_foot_136 0 rfl rfl ?_
        refine go_iload C dX10_foot_139 6 rfl ?_
        refine go_dup2 C dX10_foot_141 rfl rfl ?_
        refine go_laloadG (f := (g10_means T)) C h dX10_foot_142 10 rfl (fun h => ?_)
        refine go_aload_n C dX10_foot_143 0 rfl ?_
        refine go_get (v := .ref T10) C ffX10_39 dX10_foot_144 0 rfl rfl ?_
        refine go_iload C dX10_foot_147 6 rfl ?_
        refine go_iload C dX10_foot_149 8 rfl ?_
        refine go_isub C dX10_foot_151 ?_
        refine go_laloadG (f := (g10_means T)) C h dX10_foot_152 10 rfl (fun h => ?_)
        refine go_lload C dX10_foot_153 7 rfl ?_
        refine go_lmul C dX10_foot_155 ?_
        refine go_ladd C dX10_foot_156 ?_
        refine go_lastoreG (f := (g10_means T)) (w' := u10 G T0 T1 T2 T3 T4 T5 T6 T7 T8 T9 T10 T11 T12 (s10_means (s10_odds T (vp_updL (g10_odds T) (Int32.toNatClampNeg x7) (((g10_odds T) (Int32.toNatClampNeg x7)) + (((g10_odds T) (Int32.toNatClampNeg (x7 - x10))) * x8)))) (vp_updL (g10_means T) (Int32.toNatClampNeg x7) (((g10_means T) (Int32.toNatClampNeg x7)) + (((g10_means T) (Int32.toNatClampNeg (x7 - x10))) * x8))))) C h dX10_foot_157 10 rfl z10_means (fun h => ?_)
        refine go_lload C dX10_foot_158 7 rfl ?_
        refine go_iload_n C dX10_foot_160 1 rfl ?_
        refine go_i2l C dX10_foot_161 ?_
        refine go_lmul C dX10_foot_162 ?_
        refine go_lstoreN (lf := fun v20 => [(8, .long v20), (0, .ref T0), (1, .int x1), (2, .int x2), (3, .int x3), (4, .int x4), (5, .long x5), (7, .int x7), (10, .int x10)]) C h dX10_foot_163 (by decide) (fun _ => rfl) (fun v20 h => ?_)
        refine go_iincN (lf := fun v21 => [(10, .int v21), (8, .long v20), (0, .ref T0), (1, .int x1), (2, .int x2), (3, .int x3), (4, .int x4), (5, .long x5), (7, .int x7)]) C h dX10_foot_165 8 rfl rfl (by decide) (fun _ => rfl) (fun v21 h => ?_)
        refine go_goto (tgt := 99) C dX10_foot_168 rfl ?_
        exact go_lv [2, 3, 4, 5, 6, 7, 8, 1, 0] rfl (ih v20 v21 (s10_means (s10_odds T (vp_updL (g10_odds T) (Int32.toNatClampNeg x7) (((g10_odds T) (Int32.toNatClampNeg x7)) + (((g10_odds T) (Int32.toNatClampNeg (x7 - x10))) * x8)))) (vp_updL (g10_means T) (Int32.toNatClampNeg x7) (((g10_means T) (Int32.toNatClampNeg x7)) + (((g10_means T) (Int32.toNatClampNeg (x7 - x10))) * x8)))) h)

set_option maxRecDepth 100000 in
set_option maxHeartbeats 4000000 in
theorem m10_foot_L63_k {p : Program} {l : Launch} {e : Env} {s : State} {m : MethodId} {args : Array Value} {below : List Frame} {meth : Method} {c : Code} {G : gG} {A : Nat → Prop} (C : Cx p e s m args meth c G RX10 cX10_foot 15 (some .long) A) (T0 T1 T2 T3 T4 T5 T6 T7 T8 T9 T10 T11 T12 : Nat) (x1 : Int32) (x2 : Int32) (x3 : Int32) (x4 : Int32) (R0 : Int64 × SX10)  : ∀ (n : Nat) (x5 : Int64) (x7 : Int32) (T : SX10), tit (m10_foot_L63 x1 x2 x3 x4) n (x5, x7, T) = some R0 → Gq p l e (rq 2 42) s m args below meth c G A 15 0 0 (MQ below (QK G (some (.long R0.1)) (u10 G T0 T1 T2 T3 T4 T5 T6 T7 T8 T9 T10 T11 T12 R0.2) A) args s 0 0 A) 63 [(0, .ref T0), (1, .int x1), (2, .int x2), (3, .int x3), (4, .int x4), (5, .long x5), (7, .int x7)] [] (u10 G T0 T1 T2 T3 T4 T5 T6 T7 T8 T9 T10 T11 T12 T) := by
  intro n
  induction n with
  | zero => exact fun _ _ _ h => (tit_z h).elim
  | succ n ih =>
    intro x5 x7 T h
    replace h : m10_foot_B63 x1 x2 x3 x4 (tit (m10_foot_L63 x1 x2 x3 x4) n) x5 x7 T = some R0 := h
    unfold m10_foot_B63 at h
    refine go_iload C dX10_foot_63 6 rfl ?_
    refine go_iload_n C dX10_foot_65 2 rfl ?_
    refine go_icmp_gt (tgt := 177) C h dX10_foot_66 rfl (fun h => ?_) (fun h => ?_)
    · refine go_iload_n C dX10_foot_177 3 rfl ?_
      refine go_if_ne (tgt := 190) C h dX10_foot_178 rfl (fun h => ?_) (fun h => ?_)
      · refine go_aload_n C dX10_foot_190 0 rfl ?_
        refine go_get (v := .ref T10) C ffX10_39 dX10_foot_191 0 rfl rfl ?_
        refine go_iload_n C dX10_foot_194 2 rfl ?_
        refine go_laloadG (f := (g10_means T)) C h dX10_foot_195 10 rfl (fun h => ?_)
        exact go_lv [4, 5] rfl (m10_foot_J196_k C T0 T1 T2 T3 T4 T5 T6 T7 T8 T9 T10 T11 T12 T x4 x5 ((g10_means T) (Int32.toNatClampNeg x2)) R0  h)
      · refine go_aload_n C dX10_foot_181 0 rfl ?_
        refine go_get (v := .ref T9) C ffX10_35 dX10_foot_182 0 rfl rfl ?_
        refine go_iload_n C dX10_foot_185 2 rfl ?_
        refine go_laloadG (f := (g10_odds T)) C h dX10_foot_186 9 rfl (fun h => ?_)
        refine go_goto (tgt := 196) C dX10_foot_187 rfl ?_
        exact go_lv [4, 5] rfl (m10_foot_J196_k C T0 T1 T2 T3 T4 T5 T6 T7 T8 T9 T10 T11 T12 T x4 x5 ((g10_odds T) (Int32.toNatClampNeg x2)) R0  h)
    · refine go_lload C dX10_foot_69 5 rfl ?_
      refine go_iload_n C dX10_foot_71 1 rfl ?_
      refine go_i2l C dX10_foot_72 ?_
      refine go_lmul C dX10_foot_73 ?_
      refine go_lstoreN (lf := fun v16 => [(5, .long v16), (0, .ref T0), (1, .int x1), (2, .int x2), (3, .int x3), (4, .int x4), (7, .int x7)]) C h dX10_foot_74 (by decide) (fun _ => rfl) (fun v16 h => ?_)
      refine go_aload_n C dX10_foot_76 1 rfl ?_
      refine go_get (v := .ref T9) C ffX10_35 dX10_foot_77 0 rfl rfl ?_
      refine go_iload C dX10_foot_80 6 rfl ?_
      refine go_lconst (v := 0) C dX10_foot_82 rfl ?_
      refine go_lastoreG (f := (g10_odds T)) (w' := u10 G T0 T1 T2 T3 T4 T5 T6 T7 T8 T9 T10 T11 T12 (s10_odds T (vp_updL (g10_odds T) (Int32.toNatClampNeg x7) (0 : Int64)))) C h dX10_foot_83 9 rfl z10_odds (fun h => ?_)
      refine go_aload_n C dX10_foot_84 1 rfl ?_
      refine go_get (v := .ref T10) C ffX10_39 dX10_foot_85 0 rfl rfl ?_
      refine go_iload C dX10_foot_88 6 rfl ?_
      refine go_lload C dX10_foot_90 0 rfl ?_
      refine go_lastoreG (f := (g10_means T)) (w' := u10 G T0 T1 T2 T3 T4 T5 T6 T7 T8 T9 T10 T11 T12 (s10_means (s10_odds T (vp_updL (g10_odds T) (Int32.toNatClampNeg x7) (0 : Int64))) (vp_updL (g10_means T) (Int32.toNatClampNeg x7) v16))) C h dX10_foot_92 10 rfl z10_means (fun h => ?_)
      refine go_lconst (v := 1) C dX10_foot_93 rfl ?_
      refine go_lstoreN (lf := fun v17 => [(8, .long v17), (5, .long v16), (0, .ref T0), (1, .int x1), (2, .int x2), (3, .int x3), (4, .int x4), (7, .int x7)]) C h dX10_foot_94 (by decide) (fun _ => rfl) (fun v17 h => ?_)
      refine go_iconst (v := 1) C dX10_foot_96 rfl ?_
      refine go_istore (lv' := [(10, .int (1 : Int32)), (8, .long v17), (5, .long v16), (0, .ref T0), (1, .int x1), (2, .int x2), (3, .int x3), (4, .int x4), (7, .int x7)]) C dX10_foot_97 (by decide) rfl ?_
      exact go_lv [3, 4, 5, 6, 7, 2, 8, 1, 0] rfl (m10_foot_L99_k C T0 T1 T2 T3 T4 T5 T6 T7 T8 T9 T10 T11 T12 x1 x2 x3 x4 v16 x7 R0 _ (fun z0 z1 z2 h => ih z0 z1 z2 h) FU v17 (1 : Int32) (s10_means (s10_odds T (vp_updL (g10_odds T) (Int32.toNatClampNeg x7) (0 : Int64))) (vp_updL (g10_means T) (Int32.toNatClampNeg x7) v16)) h)

set_option maxRecDepth 100000 in
set_option maxHeartbeats 4000000 in
theorem m10_foot_k (l : Launch) (G : gG) (T0 T1 T2 T3 T4 T5 T6 T7 T8 T9 T10 T11 T12 : Nat) (T : SX10) (a1 : Int32) (a2 : Int32) (a3 : Int32) (a4 : Int32) (R0 : Int64 × SX10) (h : m10_foot T a1 a2 a3 a4 = some R0) : KK l G yX10_foot cX10_foot 15 (some .long) 2 42 [.ref T0, .int a1, .int a2, .int a3, .int a4] (u10 G T0 T1 T2 T3 T4 T5 T6 T7 T8 T9 T10 T11 T12 T) (some (.long R0.1)) (u10 G T0 T1 T2 T3 T4 T5 T6 T7 T8 T9 T10 T11 T12 R0.2) := by
  refine KK_intro (own := RX10) (by decide +kernel) rfl (Nat.le_of_ble_eq_true rfl) rfl ?_
  intro p e s m args below meth c A C
  unfold m10_foot at h
  refine go_iload_n C dX10_foot_0 2 rfl ?_
  obtain ⟨r1, k2, h⟩ := tbd_e h
  refine go_callS0 C cfX10_73 (wr8 _ (List.mem_of_getElem? (i := 0) rfl)) (m10_isRung_k l G a2 r1 k2) dX10_foot_1 (by decide) ⟨Nat.zero_le _, Nat.zero_le _⟩ rfl rfl (Nat.le_of_ble_eq_true rfl) ?_
  refine go_if_ne (tgt := 11) C h dX10_foot_4 rfl (fun h => ?_) (fun h => ?_)
  · refine go_iload_n C dX10_foot_11 1 rfl ?_
    refine go_iconst (v := 1) C dX10_foot_12 rfl ?_
    refine go_iconst (v := 4) C dX10_foot_13 rfl ?_
    obtain ⟨r3, k4, h⟩ := tbd_e h
    refine go_callS0 C cfX10_48 (wr8 _ (List.mem_of_getElem? (i := 3) rfl)) (m10_in_k l G a1 (1 : Int32) (4 : Int32) r3 k4) dX10_foot_14 (by decide) ⟨Nat.zero_le _, Nat.zero_le _⟩ rfl rfl (Nat.le_of_ble_eq_true rfl) ?_
    refine go_if_eq (tgt := 39) C h dX10_foot_17 rfl (fun h => ?_) (fun h => ?_)
    · refine go_ldc2 (v := -1000000000000000002) C dX10_foot_39 (wr33 _ (List.mem_of_getElem? (i := 23) rfl)) ?_
      cases h
      exact go_lret C dX10_foot_42 rfl rfl
    · refine go_iload_n C dX10_foot_20 3 rfl ?_
      refine go_iconst (v := 0) C dX10_foot_21 rfl ?_
      refine go_iconst (v := 1) C dX10_foot_22 rfl ?_
      obtain ⟨r5, k6, h⟩ := tbd_e h
      refine go_callS0 C cfX10_48 (wr8 _ (List.mem_of_getElem? (i := 3) rfl)) (m10_in_k l G a3 (0 : Int32) (1 : Int32) r5 k6) dX10_foot_23 (by decide) ⟨Nat.zero_le _, Nat.zero_le _⟩ rfl rfl (Nat.le_of_ble_eq_true rfl) ?_
      refine go_if_eq (tgt := 39) C h dX10_foot_26 rfl (fun h => ?_) (fun h => ?_)
      · refine go_ldc2 (v := -1000000000000000002) C dX10_foot_39 (wr33 _ (List.mem_of_getElem? (i := 23) rfl)) ?_
        cases h
        exact go_lret C dX10_foot_42 rfl rfl
      · refine go_iload C dX10_foot_29 4 rfl ?_
        refine go_iconst (v := 0) C dX10_foot_31 rfl ?_
        refine go_iconst (v := 1) C dX10_foot_32 rfl ?_
        obtain ⟨r7, k8, h⟩ := tbd_e h
        refine go_callS0 C cfX10_48 (wr8 _ (List.mem_of_getElem? (i := 3) rfl)) (m10_in_k l G a4 (0 : Int32) (1 : Int32) r7 k8) dX10_foot_33 (by decide) ⟨Nat.zero_le _, Nat.zero_le _⟩ rfl rfl (Nat.le_of_ble_eq_true rfl) ?_
        refine go_if_ne (tgt := 43) C h dX10_foot_36 rfl (fun h => ?_) (fun h => ?_)
        · refine go_lconst (v := 1) C dX10_foot_43 rfl ?_
          refine go_lstoreN (lf := fun v9 => [(5, .long v9), (0, .ref T0), (1, .int a1), (2, .int a2), (3, .int a3), (4, .int a4)]) C h dX10_foot_44 (by decide) (fun _ => rfl) (fun v9 h => ?_)
          refine go_aload_n C dX10_foot_46 1 rfl ?_
          refine go_get (v := .ref T9) C ffX10_35 dX10_foot_47 0 rfl rfl ?_
          refine go_iconst (v := 0) C dX10_foot_50 rfl ?_
          refine go_lconst (v := 1) C dX10_foot_51 rfl ?_
          refine go_lastore (f := (g10_odds T)) (w' := u10 G T0 T1 T2 T3 T4 T5 T6 T7 T8 T9 T10 T11 T12 (s10_odds T (vp_updL (g10_odds T) (Int32.toNatClampNeg (0 : Int32)) (1 : Int64)))) C dX10_foot_52 9 rfl (by decide) z10_odds ?_
          refine go_aload_n C dX10_foot_53 1 rfl ?_
          refine go_get (v := .ref T10) C ffX10_39 dX10_foot_54 0 rfl rfl ?_
          refine go_iconst (v := 0) C dX10_foot_57 rfl ?_
          refine go_lconst (v := 0) C dX10_foot_58 rfl ?_
          refine go_lastore (f := (g10_means T)) (w' := u10 G T0 T1 T2 T3 T4 T5 T6 T7 T8 T9 T10 T11 T12 (s10_means (s10_odds T (vp_updL (g10_odds T) (Int32.toNatClampNeg (0 : Int32)) (1 : Int64))) (vp_updL (g10_means T) (Int32.toNatClampNeg (0 : Int32)) (0 : Int64)))) C dX10_foot_59 10 rfl (by decide) z10_means ?_
          refine go_iconst (v := 1) C dX10_foot_60 rfl ?_
          refine go_istore (lv' := [(7, .int (1 : Int32)), (5, .long v9), (0, .ref T0), (1, .int a1), (2, .int a2), (3, .int a3), (4, .int a4)]) C dX10_foot_61 (by decide) rfl ?_
          exact go_lv [2, 3, 4, 5, 6, 1, 0] rfl (m10_foot_L63_k C T0 T1 T2 T3 T4 T5 T6 T7 T8 T9 T10 T11 T12 a1 a2 a3 a4 R0  FU v9 (1 : Int32) (s10_means (s10_odds T (vp_updL (g10_odds T) (Int32.toNatClampNeg (0 : Int32)) (1 : Int64))) (vp_updL (g10_means T) (Int32.toNatClampNeg (0 : Int32)) (0 : Int64))) h)
        · refine go_ldc2 (v := -1000000000000000002) C dX10_foot_39 (wr33 _ (List.mem_of_getElem? (i := 23) rfl)) ?_
          cases h
          exact go_lret C dX10_foot_42 rfl rfl
  · refine go_ldc2 (v := -1000000000000000001) C dX10_foot_7 (wr33 _ (List.mem_of_getElem? (i := 22) rfl)) ?_
    cases h
    exact go_lret C dX10_foot_10 rfl rfl

set_option maxRecDepth 100000 in
set_option maxHeartbeats 4000000 in
theorem m10_year_J241_k {p : Program} {l : Launch} {e : Env} {s : State} {m : MethodId} {args : Array Value} {below : List Frame} {meth : Method} {c : Code} {G : gG} {A : Nat → Prop} (C : Cx p e s m args meth c G RX10 cX10_year 11 (some .int) A) (T0 T1 T2 T3 T4 T5 T6 T7 T8 T9 T10 T11 T12 : Nat) (T : SX10) (x2 : Int32) (x3 : Int32) (x4 : Int32) (x5 : Int32) (y2 : Int32) (y3 : Int32) (R0 : Int32 × SX10) (rc43 : Int32 × Int32 × SX10 → Option (Int32 × SX10)) (hr43 : ∀ (x4 : Int32) (x5 : Int32) (Tz : SX10), rc43 (x4, x5, Tz) = some R0 → Gq p l e (rq 4 87) s m args below meth c G A 11 0 0 (MQ below (QK G (some (.int R0.1)) (u10 G T0 T1 T2 T3 T4 T5 T6 T7 T8 T9 T10 T11 T12 R0.2) A) args s 0 0 A) 43 [(0, .ref T0), (2, .int x2), (3, .int x3), (4, .int x4), (5, .int x5)] [] (u10 G T0 T1 T2 T3 T4 T5 T6 T7 T8 T9 T10 T11 T12 Tz)) (h : m10_year_J241 T x2 x3 x4 x5 y2 y3 rc43 = some R0) : Gq p l e (rq 4 87) s m args below meth c G A 11 0 0 (MQ below (QK G (some (.int R0.1)) (u10 G T0 T1 T2 T3 T4 T5 T6 T7 T8 T9 T10 T11 T12 R0.2) A) args s 0 0 A) 241 [(0, .ref T0), (2, .int x2), (3, .int x3), (4, .int x4), (5, .int x5)] [.int y3, .int y2, .ref T0, .ref T0] (u10 G T0 T1 T2 T3 T4 T5 T6 T7 T8 T9 T10 T11 T12 T) := by
  unfold m10_year_J241 at h
  obtain ⟨r18, k19, h⟩ := tbd_e h
  refine go_callV (q0 := 0) (wr := ([] : va_W)) (w' := u10 G T0 T1 T2 T3 T4 T5 T6 T7 T8 T9 T10 T11 T12 r18.2) C cfX10_100 viX10_lose (m10_lose_k l G T0 T1 T2 T3 T4 T5 T6 T7 T8 T9 T10 T11 T12 T y2 y3 r18 k19) dX10_year_241 (by decide) ⟨Nat.zero_le _, Nat.zero_le _⟩ rfl rfl (Nat.le_of_ble_eq_true rfl) rfl [0, 1, 2, 3, 4, 5, 6, 7, 8, 9, 10, 11, 12] [] [0, 1, 2, 3, 4, 5, 6, 7, 8, 9, 10, 11, 12] rfl rfl (by decide) rfl ?_
  refine go_puti (w' := u10 G T0 T1 T2 T3 T4 T5 T6 T7 T8 T9 T10 T11 T12 (s10_reason r18.2 r18.1)) C fpX10_122 dX10_year_244 0 rfl (Nat.le_of_ble_eq_true rfl) z10_reason ?_
  refine go_goto (tgt := 258) C dX10_year_247 rfl ?_
  refine go_iincN (lf := fun v20 => [(5, .int v20), (0, .ref T0), (2, .int x2), (3, .int x3), (4, .int x4)]) C h dX10_year_258 4 rfl rfl (by decide) (fun _ => rfl) (fun v20 h => ?_)
  refine go_goto (tgt := 43) C dX10_year_261 rfl ?_
  exact go_lv [1, 2, 3, 4, 0] rfl (hr43 x4 v20 (s10_reason r18.2 r18.1) h)

set_option maxRecDepth 100000 in
set_option maxHeartbeats 4000000 in
theorem m10_year_J176_k {p : Program} {l : Launch} {e : Env} {s : State} {m : MethodId} {args : Array Value} {below : List Frame} {meth : Method} {c : Code} {G : gG} {A : Nat → Prop} (C : Cx p e s m args meth c G RX10 cX10_year 11 (some .int) A) (T0 T1 T2 T3 T4 T5 T6 T7 T8 T9 T10 T11 T12 : Nat) (T : SX10) (x2 : Int32) (x3 : Int32) (x4 : Int32) (x5 : Int32) (y2 : Int32) (y3 : Int32) (R0 : Int32 × SX10) (rc43 : Int32 × Int32 × SX10 → Option (Int32 × SX10)) (hr43 : ∀ (x4 : Int32) (x5 : Int32) (Tz : SX10), rc43 (x4, x5, Tz) = some R0 → Gq p l e (rq 4 87) s m args below meth c G A 11 0 0 (MQ below (QK G (some (.int R0.1)) (u10 G T0 T1 T2 T3 T4 T5 T6 T7 T8 T9 T10 T11 T12 R0.2) A) args s 0 0 A) 43 [(0, .ref T0), (2, .int x2), (3, .int x3), (4, .int x4), (5, .int x5)] [] (u10 G T0 T1 T2 T3 T4 T5 T6 T7 T8 T9 T10 T11 T12 Tz)) (h : m10_year_J176 T x2 x3 x4 x5 y2 y3 rc43 = some R0) : Gq p l e (rq 4 87) s m args below meth c G A 11 0 0 (MQ below (QK G (some (.int R0.1)) (u10 G T0 T1 T2 T3 T4 T5 T6 T7 T8 T9 T10 T11 T12 R0.2) A) args s 0 0 A) 176 [(0, .ref T0), (2, .int x2), (3, .int x3), (4, .int x4), (5, .int x5)] [.int y3, .int y2, .ref T0, .ref T0] (u10 G T0 T1 T2 T3 T4 T5 T6 T7 T8 T9 T10 T11 T12 T) := by
  unfold m10_year_J176 at h
  obtain ⟨r25, k26, h⟩ := tbd_e h
  refine go_callV (q0 := 0) (wr := ([] : va_W)) (w' := u10 G T0 T1 T2 T3 T4 T5 T6 T7 T8 T9 T10 T11 T12 r25.2) C cfX10_107 viX10_goTo (m10_goTo_k l G T0 T1 T2 T3 T4 T5 T6 T7 T8 T9 T10 T11 T12 T y2 y3 r25 k26) dX10_year_176 (by decide) ⟨Nat.zero_le _, Nat.zero_le _⟩ rfl rfl (Nat.le_of_ble_eq_true rfl) rfl [0, 1, 2, 3, 4, 5, 6, 7, 8, 9, 10, 11, 12] [] [0, 1, 2, 3, 4, 5, 6, 7, 8, 9, 10, 11, 12] rfl rfl (by decide) rfl ?_
  refine go_puti (w' := u10 G T0 T1 T2 T3 T4 T5 T6 T7 T8 T9 T10 T11 T12 (s10_reason r25.2 r25.1)) C fpX10_122 dX10_year_179 0 rfl (Nat.le_of_ble_eq_true rfl) z10_reason ?_
  refine go_goto (tgt := 258) C dX10_year_182 rfl ?_
  refine go_iincN (lf := fun v27 => [(5, .int v27), (0, .ref T0), (2, .int x2), (3, .int x3), (4, .int x4)]) C h dX10_year_258 4 rfl rfl (by decide) (fun _ => rfl) (fun v27 h => ?_)
  refine go_goto (tgt := 43) C dX10_year_261 rfl ?_
  exact go_lv [1, 2, 3, 4, 0] rfl (hr43 x4 v27 (s10_reason r25.2 r25.1) h)

set_option maxRecDepth 100000 in
set_option maxHeartbeats 4000000 in
theorem m10_year_J147_k {p : Program} {l : Launch} {e : Env} {s : State} {m : MethodId} {args : Array Value} {below : List Frame} {meth : Method} {c : Code} {G : gG} {A : Nat → Prop} (C : Cx p e s m args meth c G RX10 cX10_year 11 (some .int) A) (T0 T1 T2 T3 T4 T5 T6 T7 T8 T9 T10 T11 T12 : Nat) (T : SX10) (x2 : Int32) (x3 : Int32) (x4 : Int32) (x5 : Int32) (x6 : Int32) (y0 : Int32) (R0 : Int32 × SX10) (rc43 : Int32 × Int32 × SX10 → Option (Int32 × SX10)) (hr43 : ∀ (x4 : Int32) (x5 : Int32) (Tz : SX10), rc43 (x4, x5, Tz) = some R0 → Gq p l e (rq 4 87) s m args below meth c G A 11 0 0 (MQ below (QK G (some (.int R0.1)) (u10 G T0 T1 T2 T3 T4 T5 T6 T7 T8 T9 T10 T11 T12 R0.2) A) args s 0 0 A) 43 [(0, .ref T0), (2, .int x2), (3, .int x3), (4, .int x4), (5, .int x5)] [] (u10 G T0 T1 T2 T3 T4 T5 T6 T7 T8 T9 T10 T11 T12 Tz)) (h : m10_year_J147 T x2 x3 x4 x5 x6 y0 rc43 = some R0) : Gq p l e (rq 4 87) s m args below meth c G A 11 0 0 (MQ below (QK G (some (.int R0.1)) (u10 G T0 T1 T2 T3 T4 T5 T6 T7 T8 T9 T10 T11 T12 R0.2) A) args s 0 0 A) 147 [(0, .ref T0), (2, .int x2), (3, .int x3), (4, .int x4), (5, .int x5), (6, .int x6)] [.int y0] (u10 G T0 T1 T2 T3 T4 T5 T6 T7 T8 T9 T10 T11 T12 T) := by
  unfold m10_year_J147 at h
  refine go_istore (lv' := [(10, .int y0), (0, .ref T0), (2, .int x2), (3, .int x3), (4, .int x4), (5, .int x5), (6, .int x6)]) C dX10_year_147 (by decide) rfl ?_
  refine go_aload_n C dX10_year_149 1 rfl ?_
  refine go_aload_n C dX10_year_150 1 rfl ?_
  refine go_iload C dX10_year_151 6 rfl ?_
  refine go_iload C dX10_year_153 0 rfl ?_
  refine go_if_ge (tgt := 162) C h dX10_year_155 rfl (fun h => ?_) (fun h => ?_)
  · refine go_iload C dX10_year_162 0 rfl ?_
    refine go_bipush (v := 13) C dX10_year_164 rfl ?_
    refine go_icmp_le (tgt := 174) C h dX10_year_166 rfl (fun h => ?_) (fun h => ?_)
    · refine go_iload C dX10_year_174 0 rfl ?_
      exact go_lv [1, 2, 3, 4, 5] rfl (m10_year_J176_k C T0 T1 T2 T3 T4 T5 T6 T7 T8 T9 T10 T11 T12 T x2 x3 x4 x5 x6 y0 R0 rc43 hr43 h)
    · refine go_bipush (v := 13) C dX10_year_169 rfl ?_
      refine go_goto (tgt := 176) C dX10_year_171 rfl ?_
      exact go_lv [1, 2, 3, 4, 5] rfl (m10_year_J176_k C T0 T1 T2 T3 T4 T5 T6 T7 T8 T9 T10 T11 T12 T x2 x3 x4 x5 x6 (13 : Int32) R0 rc43 hr43 h)
  · refine go_iconst (v := 0) C dX10_year_158 rfl ?_
    refine go_goto (tgt := 176) C dX10_year_159 rfl ?_
    exact go_lv [1, 2, 3, 4, 5] rfl (m10_year_J176_k C T0 T1 T2 T3 T4 T5 T6 T7 T8 T9 T10 T11 T12 T x2 x3 x4 x5 x6 (0 : Int32) R0 rc43 hr43 h)

set_option maxRecDepth 100000 in
set_option maxHeartbeats 4000000 in
theorem m10_year_L43_k {p : Program} {l : Launch} {e : Env} {s : State} {m : MethodId} {args : Array Value} {below : List Frame} {meth : Method} {c : Code} {G : gG} {A : Nat → Prop} (C : Cx p e s m args meth c G RX10 cX10_year 11 (some .int) A) (T0 T1 T2 T3 T4 T5 T6 T7 T8 T9 T10 T11 T12 : Nat) (x2 : Int32) (x3 : Int32) (R0 : Int32 × SX10)  : ∀ (n : Nat) (x4 : Int32) (x5 : Int32) (T : SX10), tit (m10_year_L43 x2 x3) n (x4, x5, T) = some R0 → Gq p l e (rq 4 87) s m args below meth c G A 11 0 0 (MQ below (QK G (some (.int R0.1)) (u10 G T0 T1 T2 T3 T4 T5 T6 T7 T8 T9 T10 T11 T12 R0.2) A) args s 0 0 A) 43 [(0, .ref T0), (2, .int x2), (3, .int x3), (4, .int x4), (5, .int x5)] [] (u10 G T0 T1 T2 T3 T4 T5 T6 T7 T8 T9 T10 T11 T12 T) := by
  intro n
  induction n with
  | zero => exact fun _ _ _ h => (tit_z h).elim
  | succ n ih =>
    intro x4 x5 T h
    replace h : m10_year_B43 x2 x3 (tit (m10_year_L43 x2 x3) n) x4 x5 T = some R0 := h
    unfold m10_year_B43 at h
    refine go_iload C dX10_year_43 4 rfl ?_
    refine go_iload_n C dX10_year_45 1 rfl ?_
    refine go_icmp_ge (tgt := 264) C h dX10_year_46 rfl (fun h => ?_) (fun h => ?_)
    · refine go_iload_n C dX10_year_264 2 rfl ?_
      refine go_if_ne (tgt := 275) C h dX10_year_265 rfl (fun h => ?_) (fun h => ?_)
      · refine go_iload_n C dX10_year_275 2 rfl ?_
        refine go_iconst (v := 1) C dX10_year_276 rfl ?_
        refine go_icmp_ne (tgt := 290) C h dX10_year_277 rfl (fun h => ?_) (fun h => ?_)
        · refine go_aload_n C dX10_year_290 0 rfl ?_
          refine go_get (v := .int (g10_steps T)) C ffX10_52 dX10_year_291 0 rfl rfl ?_
          cases h
          exact go_iret C dX10_year_294 rfl rfl
        · refine go_aload_n C dX10_year_280 0 rfl ?_
          refine go_get (v := .ref T2) C ffX10_13 dX10_year_281 0 rfl rfl ?_
          refine go_bipush (v := 32) C dX10_year_284 rfl ?_
          refine go_iaload (f := (g10_now T)) C dX10_year_286 2 rfl (by decide) ?_
          refine go_goto (tgt := 294) C dX10_year_287 rfl ?_
          cases h
          exact go_iret C dX10_year_294 rfl rfl
      · refine go_aload_n C dX10_year_268 0 rfl ?_
        obtain ⟨r9, k10, h⟩ := tbd_e h
        refine go_callV (q0 := 0) (wr := ([] : va_W)) (w' := u10 G T0 T1 T2 T3 T4 T5 T6 T7 T8 T9 T10 T11 T12 T) C cfX10_116 viX10_roof (m10_roof_k l G T0 T1 T2 T3 T4 T5 T6 T7 T8 T9 T10 T11 T12 T r9 k10) dX10_year_269 (by decide) ⟨Nat.zero_le _, Nat.zero_le _⟩ rfl rfl (Nat.le_of_ble_eq_true rfl) rfl [0, 1, 2, 3, 4, 5, 6, 7, 8, 9, 10, 11, 12] [] [0, 1, 2, 3, 4, 5, 6, 7, 8, 9, 10, 11, 12] rfl rfl (by decide) rfl ?_
        refine go_goto (tgt := 294) C dX10_year_272 rfl ?_
        cases h
        exact go_iret C dX10_year_294 rfl rfl
    · refine go_bipush (v := 75) C dX10_year_49 rfl ?_
      refine go_iload C dX10_year_51 3 rfl ?_
      refine go_imul C dX10_year_53 ?_
      refine go_bipush (v := 74) C dX10_year_54 rfl ?_
      refine go_iadd C dX10_year_56 ?_
      refine go_ldc (v := 65537) C dX10_year_57 (wr35 _ (List.mem_of_getElem? (i := 3) rfl)) ?_
      refine go_irem C dX10_year_59 (by decide) ?_
      refine go_istoreN (lf := fun v11 => [(4, .int v11), (0, .ref T0), (2, .int x2), (3, .int x3), (5, .int x5)]) C h dX10_year_60 (by decide) (fun _ => rfl) (fun v11 h => ?_)
      refine go_iload C dX10_year_62 0 rfl ?_
      refine go_bipush (v := 6) C dX10_year_64 rfl ?_
      refine go_irem C dX10_year_66 (by decide) ?_
      refine go_istoreN (lf := fun v12 => [(6, .int v12), (4, .int v11), (0, .ref T0), (2, .int x2), (3, .int x3), (5, .int x5)]) C h dX10_year_67 (by decide) (fun _ => rfl) (fun v12 h => ?_)
      refine go_iload C dX10_year_69 1 rfl ?_
      refine go_bipush (v := 6) C dX10_year_71 rfl ?_
      refine go_idiv C dX10_year_73 (by decide) ?_
      refine go_bipush (v := 8) C dX10_year_74 rfl ?_
      refine go_irem C dX10_year_76 (by decide) ?_
      refine go_istoreN (lf := fun v13 => [(7, .int v13), (6, .int v12), (4, .int v11), (0, .ref T0), (2, .int x2), (3, .int x3), (5, .int x5)]) C h dX10_year_77 (by decide) (fun _ => rfl) (fun v13 h => ?_)
      refine go_iload C dX10_year_79 2 rfl ?_
      refine go_bipush (v := 48) C dX10_year_81 rfl ?_
      refine go_idiv C dX10_year_83 (by decide) ?_
      refine go_istoreN (lf := fun v14 => [(8, .int v14), (7, .int v13), (6, .int v12), (4, .int v11), (0, .ref T0), (2, .int x2), (3, .int x3), (5, .int x5)]) C h dX10_year_84 (by decide) (fun _ => rfl) (fun v14 h => ?_)
      refine go_iload C dX10_year_86 1 rfl ?_
      refine go_iconst (v := 4) C dX10_year_88 rfl ?_
      refine go_icmp_ge (tgt := 185) C h dX10_year_89 rfl (fun h => ?_) (fun h => ?_)
      · refine go_iload C dX10_year_185 1 rfl ?_
        refine go_iconst (v := 4) C dX10_year_187 rfl ?_
        refine go_icmp_ne (tgt := 211) C h dX10_year_188 rfl (fun h => ?_) (fun h => ?_)
        · refine go_iload C dX10_year_211 1 rfl ?_
          refine go_iconst (v := 5) C dX10_year_213 rfl ?_
          refine go_icmp_ne (tgt := 250) C h dX10_year_214 rfl (fun h => ?_) (fun h => ?_)
          · refine go_aload_n C dX10_year_250 4 rfl ?_
            refine go_aload_n C dX10_year_251 4 rfl ?_
            obtain ⟨r15, k16, h⟩ := tbd_e h
            refine go_callV (q0 := 0) (wr := ([] : va_W)) (w' := u10 G T0 T1 T2 T3 T4 T5 T6 T7 T8 T9 T10 T11 T12 r15.2) C cfX10_97 viX10_endBeat (m10_endBeat_k l G T0 T1 T2 T3 T4 T5 T6 T7 T8 T9 T10 T11 T12 T r15 k16) dX10_year_252 (by decide) ⟨Nat.zero_le _, Nat.zero_le _⟩ rfl rfl (Nat.le_of_ble_eq_true rfl) rfl [0, 1, 2, 3, 4, 5, 6, 7, 8, 9, 10, 11, 12] [] [0, 1, 2, 3, 4, 5, 6, 7, 8, 9, 10, 11, 12] rfl rfl (by decide) rfl ?_
            refine go_puti (w' := u10 G T0 T1 T2 T3 T4 T5 T6 T7 T8 T9 T10 T11 T12 (s10_reason r15.2 r15.1)) C fpX10_122 dX10_year_255 0 rfl (Nat.le_of_ble_eq_true rfl) z10_reason ?_
            refine go_iincN (lf := fun v17 => [(5, .int v17), (8, .int v14), (7, .int v13), (6, .int v12), (4, .int v11), (0, .ref T0), (2, .int x2), (3, .int x3)]) C h dX10_year_258 7 rfl rfl (by decide) (fun _ => rfl) (fun v17 h => ?_)
            refine go_goto (tgt := 43) C dX10_year_261 rfl ?_
            exact go_lv [5, 6, 7, 4, 0] rfl (ih v11 v17 (s10_reason r15.2 r15.1) h)
          · refine go_aload_n C dX10_year_217 4 rfl ?_
            refine go_aload_n C dX10_year_218 4 rfl ?_
            refine go_iconst (v := 1) C dX10_year_219 rfl ?_
            refine go_iload C dX10_year_220 0 rfl ?_
            refine go_bipush (v := 12) C dX10_year_222 rfl ?_
            refine go_irem C dX10_year_224 (by decide) ?_
            refine go_iadd C dX10_year_225 ?_
            refine go_iload C dX10_year_226 0 rfl ?_
            refine go_bipush (v := 12) C dX10_year_228 rfl ?_
            refine go_idiv C dX10_year_230 (by decide) ?_
            refine go_iconst (v := 2) C dX10_year_231 rfl ?_
            refine go_irem C dX10_year_232 (by decide) ?_
            refine go_if_ne (tgt := 240) C h dX10_year_233 rfl (fun h => ?_) (fun h => ?_)
            · refine go_iconst (v := 0) C dX10_year_240 rfl ?_
              exact go_lv [4, 5, 6, 3, 7] rfl (m10_year_J241_k C T0 T1 T2 T3 T4 T5 T6 T7 T8 T9 T10 T11 T12 T x2 x3 v11 x5 ((1 : Int32) + (irem v14 (12 : Int32))) (0 : Int32) R0 _ (fun z0 z1 z2 h => ih z0 z1 z2 h) h)
            · refine go_iconst (v := 1) C dX10_year_236 rfl ?_
              refine go_goto (tgt := 241) C dX10_year_237 rfl ?_
              exact go_lv [4, 5, 6, 3, 7] rfl (m10_year_J241_k C T0 T1 T2 T3 T4 T5 T6 T7 T8 T9 T10 T11 T12 T x2 x3 v11 x5 ((1 : Int32) + (irem v14 (12 : Int32))) (1 : Int32) R0 _ (fun z0 z1 z2 h => ih z0 z1 z2 h) h)
        · refine go_aload_n C dX10_year_191 4 rfl ?_
          refine go_aload_n C dX10_year_192 4 rfl ?_
          refine go_iload C dX10_year_193 2 rfl ?_
          refine go_iconst (v := 1) C dX10_year_195 rfl ?_
          refine go_iload C dX10_year_196 0 rfl ?_
          refine go_bipush (v := 12) C dX10_year_198 rfl ?_
          refine go_irem C dX10_year_200 (by decide) ?_
          refine go_iadd C dX10_year_201 ?_
          obtain ⟨r21, k22, h⟩ := tbd_e h
          refine go_callV (q0 := 0) (wr := ([] : va_W)) (w' := u10 G T0 T1 T2 T3 T4 T5 T6 T7 T8 T9 T10 T11 T12 r21.2) C cfX10_104 viX10_leaseTo (m10_leaseTo_k l G T0 T1 T2 T3 T4 T5 T6 T7 T8 T9 T10 T11 T12 T v12 ((1 : Int32) + (irem v14 (12 : Int32))) r21 k22) dX10_year_202 (by decide) ⟨Nat.zero_le _, Nat.zero_le _⟩ rfl rfl (Nat.le_of_ble_eq_true rfl) rfl [0, 1, 2, 3, 4, 5, 6, 7, 8, 9, 10, 11, 12] [] [0, 1, 2, 3, 4, 5, 6, 7, 8, 9, 10, 11, 12] rfl rfl (by decide) rfl ?_
          refine go_puti (w' := u10 G T0 T1 T2 T3 T4 T5 T6 T7 T8 T9 T10 T11 T12 (s10_reason r21.2 r21.1)) C fpX10_122 dX10_year_205 0 rfl (Nat.le_of_ble_eq_true rfl) z10_reason ?_
          refine go_goto (tgt := 258) C dX10_year_208 rfl ?_
          refine go_iincN (lf := fun v23 => [(5, .int v23), (8, .int v14), (7, .int v13), (6, .int v12), (4, .int v11), (0, .ref T0), (2, .int x2), (3, .int x3)]) C h dX10_year_258 7 rfl rfl (by decide) (fun _ => rfl) (fun v23 h => ?_)
          refine go_goto (tgt := 43) C dX10_year_261 rfl ?_
          exact go_lv [5, 6, 7, 4, 0] rfl (ih v11 v23 (s10_reason r21.2 r21.1) h)
      · refine go_iconst (v := 1) C dX10_year_92 rfl ?_
        refine go_iload C dX10_year_93 0 rfl ?_
        refine go_aload_n C dX10_year_95 4 rfl ?_
        refine go_get (v := .ref T2) C ffX10_13 dX10_year_96 0 rfl rfl ?_
        refine go_bipush (v := 26) C dX10_year_99 rfl ?_
        refine go_iload C dX10_year_101 2 rfl ?_
        refine go_iadd C dX10_year_103 ?_
        refine go_ialoadG (f := (g10_now T)) C h dX10_year_104 2 rfl (fun h => ?_)
        refine go_iremG C h dX10_year_105 (fun h => ?_)
        refine go_iadd C dX10_year_106 ?_
        refine go_istoreN (lf := fun v24 => [(9, .int v24), (8, .int v14), (7, .int v13), (6, .int v12), (4, .int v11), (0, .ref T0), (2, .int x2), (3, .int x3), (5, .int x5)]) C h dX10_year_107 (by decide) (fun _ => rfl) (fun v24 h => ?_)
        refine go_iload C dX10_year_109 1 rfl ?_
        refine go_iconst (v := 4) C dX10_year_111 rfl ?_
        refine go_idiv C dX10_year_112 (by decide) ?_
        refine go_iconst (v := 4) C dX10_year_113 rfl ?_
        refine go_irem C dX10_year_114 (by decide) ?_
        refine go_if_eq (tgt := 134) C h dX10_year_115 rfl (fun h => ?_) (fun h => ?_)
        · refine go_aload_n C dX10_year_134 5 rfl ?_
          refine go_get (v := .ref T2) C ffX10_13 dX10_year_135 0 rfl rfl ?_
          refine go_bipush (v := 38) C dX10_year_138 rfl ?_
          refine go_iload C dX10_year_140 3 rfl ?_
          refine go_iadd C dX10_year_142 ?_
          refine go_ialoadG (f := (g10_now T)) C h dX10_year_143 2 rfl (fun h => ?_)
          refine go_iload C dX10_year_144 0 rfl ?_
          refine go_isub C dX10_year_146 ?_
          exact go_lv [5, 6, 7, 4, 8, 3] rfl (m10_year_J147_k C T0 T1 T2 T3 T4 T5 T6 T7 T8 T9 T10 T11 T12 T x2 x3 v11 x5 v12 (((g10_now T) (Int32.toNatClampNeg ((38 : Int32) + v12))) - v24) R0 _ (fun z0 z1 z2 h => ih z0 z1 z2 h) h)
        · refine go_aload_n C dX10_year_118 5 rfl ?_
          refine go_get (v := .ref T2) C ffX10_13 dX10_year_119 0 rfl rfl ?_
          refine go_bipush (v := 38) C dX10_year_122 rfl ?_
          refine go_iload C dX10_year_124 3 rfl ?_
          refine go_iadd C dX10_year_126 ?_
          refine go_ialoadG (f := (g10_now T)) C h dX10_year_127 2 rfl (fun h => ?_)
          refine go_iload C dX10_year_128 0 rfl ?_
          refine go_iadd C dX10_year_130 ?_
          refine go_goto (tgt := 147) C dX10_year_131 rfl ?_
          exact go_lv [5, 6, 7, 4, 8, 3] rfl (m10_year_J147_k C T0 T1 T2 T3 T4 T5 T6 T7 T8 T9 T10 T11 T12 T x2 x3 v11 x5 v12 (((g10_now T) (Int32.toNatClampNeg ((38 : Int32) + v12))) + v24) R0 _ (fun z0 z1 z2 h => ih z0 z1 z2 h) h)

set_option maxRecDepth 100000 in
set_option maxHeartbeats 4000000 in
theorem m10_year_k (l : Launch) (G : gG) (T0 T1 T2 T3 T4 T5 T6 T7 T8 T9 T10 T11 T12 : Nat) (T : SX10) (a1 : Int32) (a2 : Int32) (a3 : Int32) (R0 : Int32 × SX10) (h : m10_year T a1 a2 a3 = some R0) : KK l G yX10_year cX10_year 11 (some .int) 4 87 [.ref T0, .int a1, .int a2, .int a3] (u10 G T0 T1 T2 T3 T4 T5 T6 T7 T8 T9 T10 T11 T12 T) (some (.int R0.1)) (u10 G T0 T1 T2 T3 T4 T5 T6 T7 T8 T9 T10 T11 T12 R0.2) := by
  refine KK_intro (own := RX10) (by decide +kernel) rfl (Nat.le_of_ble_eq_true rfl) rfl ?_
  intro p e s m args below meth c A C
  unfold m10_year at h
  refine go_iload_n C dX10_year_0 1 rfl ?_
  refine go_iconst (v := 0) C dX10_year_1 rfl ?_
  refine go_sipush (v := 9999) C dX10_year_2 rfl ?_
  obtain ⟨r1, k2, h⟩ := tbd_e h
  refine go_callS0 C cfX10_48 (wr8 _ (List.mem_of_getElem? (i := 3) rfl)) (m10_in_k l G a1 (0 : Int32) (9999 : Int32) r1 k2) dX10_year_5 (by decide) ⟨Nat.zero_le _, Nat.zero_le _⟩ rfl rfl (Nat.le_of_ble_eq_true rfl) ?_
  refine go_if_eq (tgt := 30) C h dX10_year_8 rfl (fun h => ?_) (fun h => ?_)
  · refine go_bipush (v := -2) C dX10_year_30 rfl ?_
    cases h
    exact go_iret C dX10_year_32 rfl rfl
  · refine go_iload_n C dX10_year_11 2 rfl ?_
    refine go_iconst (v := 1) C dX10_year_12 rfl ?_
    refine go_bipush (v := 99) C dX10_year_13 rfl ?_
    obtain ⟨r3, k4, h⟩ := tbd_e h
    refine go_callS0 C cfX10_48 (wr8 _ (List.mem_of_getElem? (i := 3) rfl)) (m10_in_k l G a2 (1 : Int32) (99 : Int32) r3 k4) dX10_year_15 (by decide) ⟨Nat.zero_le _, Nat.zero_le _⟩ rfl rfl (Nat.le_of_ble_eq_true rfl) ?_
    refine go_if_eq (tgt := 30) C h dX10_year_18 rfl (fun h => ?_) (fun h => ?_)
    · refine go_bipush (v := -2) C dX10_year_30 rfl ?_
      cases h
      exact go_iret C dX10_year_32 rfl rfl
    · refine go_iload_n C dX10_year_21 3 rfl ?_
      refine go_iconst (v := 0) C dX10_year_22 rfl ?_
      refine go_iconst (v := 2) C dX10_year_23 rfl ?_
      obtain ⟨r5, k6, h⟩ := tbd_e h
      refine go_callS0 C cfX10_48 (wr8 _ (List.mem_of_getElem? (i := 3) rfl)) (m10_in_k l G a3 (0 : Int32) (2 : Int32) r5 k6) dX10_year_24 (by decide) ⟨Nat.zero_le _, Nat.zero_le _⟩ rfl rfl (Nat.le_of_ble_eq_true rfl) ?_
      refine go_if_ne (tgt := 33) C h dX10_year_27 rfl (fun h => ?_) (fun h => ?_)
      · refine go_aload_n C dX10_year_33 0 rfl ?_
        obtain ⟨r7, k8, h⟩ := tbd_e h
        refine go_callV (q0 := 0) (wr := ([] : va_W)) (w' := u10 G T0 T1 T2 T3 T4 T5 T6 T7 T8 T9 T10 T11 T12 r7) C cfX10_110 viX10_asNow (m10_asNow_k l G T0 T1 T2 T3 T4 T5 T6 T7 T8 T9 T10 T11 T12 T r7 k8) dX10_year_34 (by decide) ⟨Nat.zero_le _, Nat.zero_le _⟩ rfl rfl (Nat.le_of_ble_eq_true rfl) rfl [0, 1, 2, 3, 4, 5, 6, 7, 8, 9, 10, 11, 12] [] [0, 1, 2, 3, 4, 5, 6, 7, 8, 9, 10, 11, 12] rfl rfl (by decide) rfl ?_
        refine go_iload_n C dX10_year_37 1 rfl ?_
        refine go_istore (lv' := [(4, .int a1), (0, .ref T0), (1, .int a1), (2, .int a2), (3, .int a3)]) C dX10_year_38 (by decide) rfl ?_
        refine go_iconst (v := 0) C dX10_year_40 rfl ?_
        refine go_istore (lv' := [(5, .int (0 : Int32)), (4, .int a1), (0, .ref T0), (1, .int a1), (2, .int a2), (3, .int a3)]) C dX10_year_41 (by decide) rfl ?_
        exact go_lv [2, 4, 5, 1, 0] rfl (m10_year_L43_k C T0 T1 T2 T3 T4 T5 T6 T7 T8 T9 T10 T11 T12 a2 a3 R0  FU a1 (0 : Int32) r7 h)
      · refine go_bipush (v := -2) C dX10_year_30 rfl ?_
        cases h
        exact go_iret C dX10_year_32 rfl rfl

set_option maxRecDepth 100000 in
set_option maxHeartbeats 4000000 in
theorem m10_image_L47_k {p : Program} {l : Launch} {e : Env} {s : State} {m : MethodId} {args : Array Value} {below : List Frame} {meth : Method} {c : Code} {G : gG} {A : Nat → Prop} (C : Cx p e s m args meth c G RX10 cX10_image 4 (some .int) A) (T0 T1 T2 T3 T4 T5 T6 T7 T8 T9 T10 T11 T12 : Nat) (x1 : Int32) (x2 : Int32) (R0 : Int32 × SX10)  : ∀ (n : Nat) (x3 : Int32) (T : SX10), tit (m10_image_L47 x1 x2) n (x3, T) = some R0 → Gq p l e (rq 1 22) s m args below meth c G A 4 0 0 (MQ below (QK G (some (.int R0.1)) (u10 G T0 T1 T2 T3 T4 T5 T6 T7 T8 T9 T10 T11 T12 R0.2) A) args s 0 0 A) 47 [(0, .ref T0), (1, .int x1), (2, .int x2), (3, .int x3)] [] (u10 G T0 T1 T2 T3 T4 T5 T6 T7 T8 T9 T10 T11 T12 T) := by
  intro n
  induction n with
  | zero => exact fun _ _ h => (tit_z h).elim
  | succ n ih =>
    intro x3 T h
    replace h : m10_image_B47 x1 x2 (tit (m10_image_L47 x1 x2) n) x3 T = some R0 := h
    unfold m10_image_B47 at h
    refine go_iload_n C dX10_image_47 3 rfl ?_
    refine go_bipush (v := 16) C dX10_image_48 rfl ?_
    refine go_icmp_ge (tgt := 76) C h dX10_image_50 rfl (fun h => ?_) (fun h => ?_)
    · refine go_aload_n C dX10_image_76 0 rfl ?_
      refine go_get (v := .ref T11) C ffX10_42 dX10_image_77 0 rfl rfl ?_
      refine go_iload_n C dX10_image_80 2 rfl ?_
      refine go_bipush (v := 64) C dX10_image_81 rfl ?_
      refine go_iadd C dX10_image_83 ?_
      refine go_aload_n C dX10_image_84 0 rfl ?_
      refine go_get (v := .int (g10_sights T)) C ffX10_145 dX10_image_85 0 rfl rfl ?_
      refine go_iastoreG (f := (g10_image T)) (w' := u10 G T0 T1 T2 T3 T4 T5 T6 T7 T8 T9 T10 T11 T12 (s10_image T (upd (g10_image T) (Int32.toNatClampNeg (x2 + (64 : Int32))) (g10_sights T)))) C h dX10_image_88 11 rfl z10_image (fun h => ?_)
      refine go_aload_n C dX10_image_89 0 rfl ?_
      refine go_get (v := .ref T12) C ffX10_45 dX10_image_90 0 rfl rfl ?_
      refine go_iload_n C dX10_image_93 1 rfl ?_
      refine go_iconst (v := 1) C dX10_image_94 rfl ?_
      refine go_zastoreG (f := (g10_isKept T)) (w' := u10 G T0 T1 T2 T3 T4 T5 T6 T7 T8 T9 T10 T11 T12 (s10_isKept (s10_image T (upd (g10_image T) (Int32.toNatClampNeg (x2 + (64 : Int32))) (g10_sights T))) (upd (g10_isKept T) (Int32.toNatClampNeg x1) (vp_nar .boolean (1 : Int32))))) C h dX10_image_95 12 rfl z10_isKept (fun h => ?_)
      refine go_iconst (v := 1) C dX10_image_96 rfl ?_
      cases h
      exact go_iret C dX10_image_97 rfl rfl
    · refine go_aload_n C dX10_image_53 0 rfl ?_
      refine go_get (v := .ref T11) C ffX10_42 dX10_image_54 0 rfl rfl ?_
      refine go_iload_n C dX10_image_57 2 rfl ?_
      refine go_bipush (v := 47) C dX10_image_58 rfl ?_
      refine go_iadd C dX10_image_60 ?_
      refine go_iload_n C dX10_image_61 3 rfl ?_
      refine go_iadd C dX10_image_62 ?_
      refine go_aload_n C dX10_image_63 0 rfl ?_
      refine go_get (v := .ref T3) C ffX10_16 dX10_image_64 0 rfl rfl ?_
      refine go_iload_n C dX10_image_67 3 rfl ?_
      refine go_ialoadG (f := (g10_sight T)) C h dX10_image_68 3 rfl (fun h => ?_)
      refine go_iastoreG (f := (g10_image T)) (w' := u10 G T0 T1 T2 T3 T4 T5 T6 T7 T8 T9 T10 T11 T12 (s10_image T (upd (g10_image T) (Int32.toNatClampNeg ((x2 + (47 : Int32)) + x3)) ((g10_sight T) (Int32.toNatClampNeg x3))))) C h dX10_image_69 11 rfl z10_image (fun h => ?_)
      refine go_iincN (lf := fun v4 => [(3, .int v4), (0, .ref T0), (1, .int x1), (2, .int x2)]) C h dX10_image_70 3 rfl rfl (by decide) (fun _ => rfl) (fun v4 h => ?_)
      refine go_goto (tgt := 47) C dX10_image_73 rfl ?_
      exact go_lv [1, 2, 3, 0] rfl (ih v4 (s10_image T (upd (g10_image T) (Int32.toNatClampNeg ((x2 + (47 : Int32)) + x3)) ((g10_sight T) (Int32.toNatClampNeg x3)))) h)

set_option maxRecDepth 100000 in
set_option maxHeartbeats 4000000 in
theorem m10_image_L19_k {p : Program} {l : Launch} {e : Env} {s : State} {m : MethodId} {args : Array Value} {below : List Frame} {meth : Method} {c : Code} {G : gG} {A : Nat → Prop} (C : Cx p e s m args meth c G RX10 cX10_image 4 (some .int) A) (T0 T1 T2 T3 T4 T5 T6 T7 T8 T9 T10 T11 T12 : Nat) (x1 : Int32) (x2 : Int32) (R0 : Int32 × SX10)  : ∀ (n : Nat) (x3 : Int32) (T : SX10), tit (m10_image_L19 x1 x2) n (x3, T) = some R0 → Gq p l e (rq 1 22) s m args below meth c G A 4 0 0 (MQ below (QK G (some (.int R0.1)) (u10 G T0 T1 T2 T3 T4 T5 T6 T7 T8 T9 T10 T11 T12 R0.2) A) args s 0 0 A) 19 [(0, .ref T0), (1, .int x1), (2, .int x2), (3, .int x3)] [] (u10 G T0 T1 T2 T3 T4 T5 T6 T7 T8 T9 T10 T11 T12 T) := by
  intro n
  induction n with
  | zero => exact fun _ _ h => (tit_z h).elim
  | succ n ih =>
    intro x3 T h
    replace h : m10_image_B19 x1 x2 (tit (m10_image_L19 x1 x2) n) x3 T = some R0 := h
    unfold m10_image_B19 at h
    refine go_iload_n C dX10_image_19 3 rfl ?_
    refine go_bipush (v := 47) C dX10_image_20 rfl ?_
    refine go_icmp_ge (tgt := 45) C h dX10_image_22 rfl (fun h => ?_) (fun h => ?_)
    · refine go_iconst (v := 0) C dX10_image_45 rfl ?_
      refine go_istore_n (lv' := [(3, .int (0 : Int32)), (0, .ref T0), (1, .int x1), (2, .int x2)]) C dX10_image_46 (by decide) rfl ?_
      exact go_lv [1, 2, 3, 0] rfl (m10_image_L47_k C T0 T1 T2 T3 T4 T5 T6 T7 T8 T9 T10 T11 T12 x1 x2 R0  FU (0 : Int32) T h)
    · refine go_aload_n C dX10_image_25 0 rfl ?_
      refine go_get (v := .ref T11) C ffX10_42 dX10_image_26 0 rfl rfl ?_
      refine go_iload_n C dX10_image_29 2 rfl ?_
      refine go_iload_n C dX10_image_30 3 rfl ?_
      refine go_iadd C dX10_image_31 ?_
      refine go_aload_n C dX10_image_32 0 rfl ?_
      refine go_get (v := .ref T1) C ffX10_7 dX10_image_33 0 rfl rfl ?_
      refine go_iload_n C dX10_image_36 3 rfl ?_
      refine go_ialoadG (f := (g10_book T)) C h dX10_image_37 1 rfl (fun h => ?_)
      refine go_iastoreG (f := (g10_image T)) (w' := u10 G T0 T1 T2 T3 T4 T5 T6 T7 T8 T9 T10 T11 T12 (s10_image T (upd (g10_image T) (Int32.toNatClampNeg (x2 + x3)) ((g10_book T) (Int32.toNatClampNeg x3))))) C h dX10_image_38 11 rfl z10_image (fun h => ?_)
      refine go_iincN (lf := fun v5 => [(3, .int v5), (0, .ref T0), (1, .int x1), (2, .int x2)]) C h dX10_image_39 3 rfl rfl (by decide) (fun _ => rfl) (fun v5 h => ?_)
      refine go_goto (tgt := 19) C dX10_image_42 rfl ?_
      exact go_lv [1, 2, 3, 0] rfl (ih v5 (s10_image T (upd (g10_image T) (Int32.toNatClampNeg (x2 + x3)) ((g10_book T) (Int32.toNatClampNeg x3)))) h)

set_option maxRecDepth 100000 in
set_option maxHeartbeats 4000000 in
theorem m10_image_k (l : Launch) (G : gG) (T0 T1 T2 T3 T4 T5 T6 T7 T8 T9 T10 T11 T12 : Nat) (T : SX10) (a1 : Int32) (R0 : Int32 × SX10) (h : m10_image T a1 = some R0) : KK l G yX10_image cX10_image 4 (some .int) 1 22 [.ref T0, .int a1] (u10 G T0 T1 T2 T3 T4 T5 T6 T7 T8 T9 T10 T11 T12 T) (some (.int R0.1)) (u10 G T0 T1 T2 T3 T4 T5 T6 T7 T8 T9 T10 T11 T12 R0.2) := by
  refine KK_intro (own := RX10) (by decide +kernel) rfl (Nat.le_of_ble_eq_true rfl) rfl ?_
  intro p e s m args below meth c A C
  unfold m10_image at h
  refine go_iload_n C dX10_image_0 1 rfl ?_
  refine go_iconst (v := 0) C dX10_image_1 rfl ?_
  refine go_iconst (v := 1) C dX10_image_2 rfl ?_
  obtain ⟨r1, k2, h⟩ := tbd_e h
  refine go_callS0 C cfX10_48 (wr8 _ (List.mem_of_getElem? (i := 3) rfl)) (m10_in_k l G a1 (0 : Int32) (1 : Int32) r1 k2) dX10_image_3 (by decide) ⟨Nat.zero_le _, Nat.zero_le _⟩ rfl rfl (Nat.le_of_ble_eq_true rfl) ?_
  refine go_if_ne (tgt := 12) C h dX10_image_6 rfl (fun h => ?_) (fun h => ?_)
  · refine go_bipush (v := 70) C dX10_image_12 rfl ?_
    refine go_iload_n C dX10_image_14 1 rfl ?_
    refine go_imul C dX10_image_15 ?_
    refine go_istore_nN (lf := fun v3 => [(2, .int v3), (0, .ref T0), (1, .int a1)]) C h dX10_image_16 (by decide) (fun _ => rfl) (fun v3 h => ?_)
    refine go_iconst (v := 0) C dX10_image_17 rfl ?_
    refine go_istore_n (lv' := [(3, .int (0 : Int32)), (2, .int v3), (0, .ref T0), (1, .int a1)]) C dX10_image_18 (by decide) rfl ?_
    exact go_lv [2, 3, 1, 0] rfl (m10_image_L19_k C T0 T1 T2 T3 T4 T5 T6 T7 T8 T9 T10 T11 T12 a1 v3 R0  FU (0 : Int32) T h)
  · refine go_bipush (v := -2) C dX10_image_9 rfl ?_
    cases h
    exact go_iret C dX10_image_11 rfl rfl

set_option maxRecDepth 100000 in
set_option maxHeartbeats 4000000 in
theorem m10_restore_L59_k {p : Program} {l : Launch} {e : Env} {s : State} {m : MethodId} {args : Array Value} {below : List Frame} {meth : Method} {c : Code} {G : gG} {A : Nat → Prop} (C : Cx p e s m args meth c G RX10 cX10_restore 4 (some .int) A) (T0 T1 T2 T3 T4 T5 T6 T7 T8 T9 T10 T11 T12 : Nat) (x2 : Int32) (R0 : Int32 × SX10)  : ∀ (n : Nat) (x3 : Int32) (T : SX10), tit (m10_restore_L59 x2) n (x3, T) = some R0 → Gq p l e (rq 1 22) s m args below meth c G A 4 0 0 (MQ below (QK G (some (.int R0.1)) (u10 G T0 T1 T2 T3 T4 T5 T6 T7 T8 T9 T10 T11 T12 R0.2) A) args s 0 0 A) 59 [(0, .ref T0), (2, .int x2), (3, .int x3)] [] (u10 G T0 T1 T2 T3 T4 T5 T6 T7 T8 T9 T10 T11 T12 T) := by
  intro n
  induction n with
  | zero => exact fun _ _ h => (tit_z h).elim
  | succ n ih =>
    intro x3 T h
    replace h : m10_restore_B59 x2 (tit (m10_restore_L59 x2) n) x3 T = some R0 := h
    unfold m10_restore_B59 at h
    refine go_iload_n C dX10_restore_59 2 rfl ?_
    refine go_bipush (v := 16) C dX10_restore_60 rfl ?_
    refine go_icmp_ge (tgt := 88) C h dX10_restore_62 rfl (fun h => ?_) (fun h => ?_)
    · refine go_aload_n C dX10_restore_88 0 rfl ?_
      refine go_aload_n C dX10_restore_89 0 rfl ?_
      refine go_get (v := .ref T11) C ffX10_42 dX10_restore_90 0 rfl rfl ?_
      refine go_iload_n C dX10_restore_93 1 rfl ?_
      refine go_bipush (v := 64) C dX10_restore_94 rfl ?_
      refine go_iadd C dX10_restore_96 ?_
      refine go_ialoadG (f := (g10_image T)) C h dX10_restore_97 11 rfl (fun h => ?_)
      refine go_puti (w' := u10 G T0 T1 T2 T3 T4 T5 T6 T7 T8 T9 T10 T11 T12 (s10_sights T ((g10_image T) (Int32.toNatClampNeg (x2 + (64 : Int32)))))) C fpX10_145 dX10_restore_98 0 rfl (Nat.le_of_ble_eq_true rfl) z10_sights ?_
      refine go_iconst (v := 1) C dX10_restore_101 rfl ?_
      cases h
      exact go_iret C dX10_restore_102 rfl rfl
    · refine go_aload_n C dX10_restore_65 0 rfl ?_
      refine go_get (v := .ref T3) C ffX10_16 dX10_restore_66 0 rfl rfl ?_
      refine go_iload_n C dX10_restore_69 2 rfl ?_
      refine go_aload_n C dX10_restore_70 0 rfl ?_
      refine go_get (v := .ref T11) C ffX10_42 dX10_restore_71 0 rfl rfl ?_
      refine go_iload_n C dX10_restore_74 1 rfl ?_
      refine go_bipush (v := 47) C dX10_restore_75 rfl ?_
      refine go_iadd C dX10_restore_77 ?_
      refine go_iload_n C dX10_restore_78 2 rfl ?_
      refine go_iadd C dX10_restore_79 ?_
      refine go_ialoadG (f := (g10_image T)) C h dX10_restore_80 11 rfl (fun h => ?_)
      refine go_iastoreG (f := (g10_sight T)) (w' := u10 G T0 T1 T2 T3 T4 T5 T6 T7 T8 T9 T10 T11 T12 (s10_sight T (upd (g10_sight T) (Int32.toNatClampNeg x3) ((g10_image T) (Int32.toNatClampNeg ((x2 + (47 : Int32)) + x3)))))) C h dX10_restore_81 3 rfl z10_sight (fun h => ?_)
      refine go_iincN (lf := fun v4 => [(3, .int v4), (0, .ref T0), (2, .int x2)]) C h dX10_restore_82 2 rfl rfl (by decide) (fun _ => rfl) (fun v4 h => ?_)
      refine go_goto (tgt := 59) C dX10_restore_85 rfl ?_
      exact go_lv [1, 2, 0] rfl (ih v4 (s10_sight T (upd (g10_sight T) (Int32.toNatClampNeg x3) ((g10_image T) (Int32.toNatClampNeg ((x2 + (47 : Int32)) + x3))))) h)

set_option maxRecDepth 100000 in
set_option maxHeartbeats 4000000 in
theorem m10_restore_L31_k {p : Program} {l : Launch} {e : Env} {s : State} {m : MethodId} {args : Array Value} {below : List Frame} {meth : Method} {c : Code} {G : gG} {A : Nat → Prop} (C : Cx p e s m args meth c G RX10 cX10_restore 4 (some .int) A) (T0 T1 T2 T3 T4 T5 T6 T7 T8 T9 T10 T11 T12 : Nat) (x2 : Int32) (R0 : Int32 × SX10)  : ∀ (n : Nat) (x3 : Int32) (T : SX10), tit (m10_restore_L31 x2) n (x3, T) = some R0 → Gq p l e (rq 1 22) s m args below meth c G A 4 0 0 (MQ below (QK G (some (.int R0.1)) (u10 G T0 T1 T2 T3 T4 T5 T6 T7 T8 T9 T10 T11 T12 R0.2) A) args s 0 0 A) 31 [(0, .ref T0), (2, .int x2), (3, .int x3)] [] (u10 G T0 T1 T2 T3 T4 T5 T6 T7 T8 T9 T10 T11 T12 T) := by
  intro n
  induction n with
  | zero => exact fun _ _ h => (tit_z h).elim
  | succ n ih =>
    intro x3 T h
    replace h : m10_restore_B31 x2 (tit (m10_restore_L31 x2) n) x3 T = some R0 := h
    unfold m10_restore_B31 at h
    refine go_iload_n C dX10_restore_31 2 rfl ?_
    refine go_bipush (v := 47) C dX10_restore_32 rfl ?_
    refine go_icmp_ge (tgt := 57) C h dX10_restore_34 rfl (fun h => ?_) (fun h => ?_)
    · refine go_iconst (v := 0) C dX10_restore_57 rfl ?_
      refine go_istore_n (lv' := [(3, .int (0 : Int32)), (0, .ref T0), (2, .int x2)]) C dX10_restore_58 (by decide) rfl ?_
      exact go_lv [1, 2, 0] rfl (m10_restore_L59_k C T0 T1 T2 T3 T4 T5 T6 T7 T8 T9 T10 T11 T12 x2 R0  FU (0 : Int32) T h)
    · refine go_aload_n C dX10_restore_37 0 rfl ?_
      refine go_get (v := .ref T1) C ffX10_7 dX10_restore_38 0 rfl rfl ?_
      refine go_iload_n C dX10_restore_41 2 rfl ?_
      refine go_aload_n C dX10_restore_42 0 rfl ?_
      refine go_get (v := .ref T11) C ffX10_42 dX10_restore_43 0 rfl rfl ?_
      refine go_iload_n C dX10_restore_46 1 rfl ?_
      refine go_iload_n C dX10_restore_47 2 rfl ?_
      refine go_iadd C dX10_restore_48 ?_
      refine go_ialoadG (f := (g10_image T)) C h dX10_restore_49 11 rfl (fun h => ?_)
      refine go_iastoreG (f := (g10_book T)) (w' := u10 G T0 T1 T2 T3 T4 T5 T6 T7 T8 T9 T10 T11 T12 (s10_book T (upd (g10_book T) (Int32.toNatClampNeg x3) ((g10_image T) (Int32.toNatClampNeg (x2 + x3)))))) C h dX10_restore_50 1 rfl z10_book (fun h => ?_)
      refine go_iincN (lf := fun v5 => [(3, .int v5), (0, .ref T0), (2, .int x2)]) C h dX10_restore_51 2 rfl rfl (by decide) (fun _ => rfl) (fun v5 h => ?_)
      refine go_goto (tgt := 31) C dX10_restore_54 rfl ?_
      exact go_lv [1, 2, 0] rfl (ih v5 (s10_book T (upd (g10_book T) (Int32.toNatClampNeg x3) ((g10_image T) (Int32.toNatClampNeg (x2 + x3))))) h)

set_option maxRecDepth 100000 in
set_option maxHeartbeats 4000000 in
theorem m10_restore_k (l : Launch) (G : gG) (T0 T1 T2 T3 T4 T5 T6 T7 T8 T9 T10 T11 T12 : Nat) (T : SX10) (a1 : Int32) (R0 : Int32 × SX10) (h : m10_restore T a1 = some R0) : KK l G yX10_restore cX10_restore 4 (some .int) 1 22 [.ref T0, .int a1] (u10 G T0 T1 T2 T3 T4 T5 T6 T7 T8 T9 T10 T11 T12 T) (some (.int R0.1)) (u10 G T0 T1 T2 T3 T4 T5 T6 T7 T8 T9 T10 T11 T12 R0.2) := by
  refine KK_intro (own := RX10) (by decide +kernel) rfl (Nat.le_of_ble_eq_true rfl) rfl ?_
  intro p e s m args below meth c A C
  unfold m10_restore at h
  refine go_iload_n C dX10_restore_0 1 rfl ?_
  refine go_iconst (v := 0) C dX10_restore_1 rfl ?_
  refine go_iconst (v := 1) C dX10_restore_2 rfl ?_
  obtain ⟨r1, k2, h⟩ := tbd_e h
  refine go_callS0 C cfX10_48 (wr8 _ (List.mem_of_getElem? (i := 3) rfl)) (m10_in_k l G a1 (0 : Int32) (1 : Int32) r1 k2) dX10_restore_3 (by decide) ⟨Nat.zero_le _, Nat.zero_le _⟩ rfl rfl (Nat.le_of_ble_eq_true rfl) ?_
  refine go_if_ne (tgt := 12) C h dX10_restore_6 rfl (fun h => ?_) (fun h => ?_)
  · refine go_aload_n C dX10_restore_12 0 rfl ?_
    refine go_get (v := .ref T12) C ffX10_45 dX10_restore_13 0 rfl rfl ?_
    refine go_iload_n C dX10_restore_16 1 rfl ?_
    refine go_zaloadG (f := (g10_isKept T)) C h dX10_restore_17 12 rfl (fun h => ?_)
    refine go_if_ne (tgt := 24) C h dX10_restore_18 rfl (fun h => ?_) (fun h => ?_)
    · refine go_bipush (v := 70) C dX10_restore_24 rfl ?_
      refine go_iload_n C dX10_restore_26 1 rfl ?_
      refine go_imul C dX10_restore_27 ?_
      refine go_istore_nN (lf := fun v3 => [(2, .int v3), (0, .ref T0), (1, .int a1)]) C h dX10_restore_28 (by decide) (fun _ => rfl) (fun v3 h => ?_)
      refine go_iconst (v := 0) C dX10_restore_29 rfl ?_
      refine go_istore_n (lv' := [(3, .int (0 : Int32)), (2, .int v3), (0, .ref T0), (1, .int a1)]) C dX10_restore_30 (by decide) rfl ?_
      exact go_lv [2, 1, 0] rfl (m10_restore_L31_k C T0 T1 T2 T3 T4 T5 T6 T7 T8 T9 T10 T11 T12 v3 R0  FU (0 : Int32) T h)
    · refine go_bipush (v := -3) C dX10_restore_21 rfl ?_
      cases h
      exact go_iret C dX10_restore_23 rfl rfl
  · refine go_bipush (v := -2) C dX10_restore_9 rfl ?_
    cases h
    exact go_iret C dX10_restore_11 rfl rfl

set_option maxRecDepth 100000 in
set_option maxHeartbeats 4000000 in
theorem m10_told_J27_k {p : Program} {l : Launch} {e : Env} {s : State} {m : MethodId} {args : Array Value} {below : List Frame} {meth : Method} {c : Code} {G : gG} {A : Nat → Prop} (C : Cx p e s m args meth c G RX10 cX10_told 3 (some .int) A) (T0 T1 T2 T3 T4 T5 T6 T7 T8 T9 T10 T11 T12 : Nat) (T : SX10) (x1 : Int32) (y0 : Int32) (R0 : Int32 × SX10)  (h : m10_told_J27 T x1 y0 = some R0) : Gq p l e (rq 2 42) s m args below meth c G A 3 0 0 (MQ below (QK G (some (.int R0.1)) (u10 G T0 T1 T2 T3 T4 T5 T6 T7 T8 T9 T10 T11 T12 R0.2) A) args s 0 0 A) 27 [(0, .ref T0), (1, .int x1)] [.int y0] (u10 G T0 T1 T2 T3 T4 T5 T6 T7 T8 T9 T10 T11 T12 T) := by
  unfold m10_told_J27 at h
  refine go_istore_n (lv' := [(2, .int y0), (0, .ref T0), (1, .int x1)]) C dX10_told_27 (by decide) rfl ?_
  refine go_iload_n C dX10_told_28 0 rfl ?_
  obtain ⟨r8, k9, h⟩ := tbd_e h
  refine go_callS0 C cfX10_73 (wr8 _ (List.mem_of_getElem? (i := 0) rfl)) (m10_isRung_k l G y0 r8 k9) dX10_told_29 (by decide) ⟨Nat.zero_le _, Nat.zero_le _⟩ rfl rfl (Nat.le_of_ble_eq_true rfl) ?_
  refine go_if_ne (tgt := 40) C h dX10_told_32 rfl (fun h => ?_) (fun h => ?_)
  · refine go_iload_n C dX10_told_40 2 rfl ?_
    refine go_bipush (v := 60) C dX10_told_41 rfl ?_
    refine go_icmp_lt (tgt := 58) C h dX10_told_43 rfl (fun h => ?_) (fun h => ?_)
    · refine go_aload_n C dX10_told_58 1 rfl ?_
      refine go_get (v := .ref T1) C ffX10_7 dX10_told_59 0 rfl rfl ?_
      refine go_iload_n C dX10_told_62 0 rfl ?_
      refine go_ialoadG (f := (g10_book T)) C h dX10_told_63 1 rfl (fun h => ?_)
      cases h
      exact go_iret C dX10_told_64 rfl rfl
    · refine go_aload_n C dX10_told_46 1 rfl ?_
      refine go_get (v := .ref T1) C ffX10_7 dX10_told_47 0 rfl rfl ?_
      refine go_bipush (v := 13) C dX10_told_50 rfl ?_
      refine go_iload_n C dX10_told_52 0 rfl ?_
      refine go_iadd C dX10_told_53 ?_
      refine go_ialoadG (f := (g10_book T)) C h dX10_told_54 1 rfl (fun h => ?_)
      refine go_goto (tgt := 64) C dX10_told_55 rfl ?_
      cases h
      exact go_iret C dX10_told_64 rfl rfl
  · refine go_bipush (v := -2) C dX10_told_35 rfl ?_
    refine go_goto (tgt := 64) C dX10_told_37 rfl ?_
    cases h
    exact go_iret C dX10_told_64 rfl rfl

set_option maxRecDepth 100000 in
set_option maxHeartbeats 4000000 in
theorem m10_told_k (l : Launch) (G : gG) (T0 T1 T2 T3 T4 T5 T6 T7 T8 T9 T10 T11 T12 : Nat) (T : SX10) (a1 : Int32) (R0 : Int32 × SX10) (h : m10_told T a1 = some R0) : KK l G yX10_told cX10_told 3 (some .int) 2 42 [.ref T0, .int a1] (u10 G T0 T1 T2 T3 T4 T5 T6 T7 T8 T9 T10 T11 T12 T) (some (.int R0.1)) (u10 G T0 T1 T2 T3 T4 T5 T6 T7 T8 T9 T10 T11 T12 R0.2) := by
  refine KK_intro (own := RX10) (by decide +kernel) rfl (Nat.le_of_ble_eq_true rfl) rfl ?_
  intro p e s m args below meth c A C
  unfold m10_told at h
  refine go_aload_n C dX10_told_0 0 rfl ?_
  obtain ⟨r1, k2, h⟩ := tbd_e h
  refine go_callV (q0 := 0) (wr := ([] : va_W)) (w' := u10 G T0 T1 T2 T3 T4 T5 T6 T7 T8 T9 T10 T11 T12 r1) C cfX10_110 viX10_asNow (m10_asNow_k l G T0 T1 T2 T3 T4 T5 T6 T7 T8 T9 T10 T11 T12 T r1 k2) dX10_told_1 (by decide) ⟨Nat.zero_le _, Nat.zero_le _⟩ rfl rfl (Nat.le_of_ble_eq_true rfl) rfl [0, 1, 2, 3, 4, 5, 6, 7, 8, 9, 10, 11, 12] [] [0, 1, 2, 3, 4, 5, 6, 7, 8, 9, 10, 11, 12] rfl rfl (by decide) rfl ?_
  refine go_iload_n C dX10_told_4 1 rfl ?_
  refine go_bipush (v := 40) C dX10_told_5 rfl ?_
  refine go_icmp_lt (tgt := 65) C h dX10_told_7 rfl (fun h => ?_) (fun h => ?_)
  · refine go_iload_n C dX10_told_65 1 rfl ?_
    refine go_bipush (v := 10) C dX10_told_66 rfl ?_
    refine go_icmp_lt (tgt := 134) C h dX10_told_68 rfl (fun h => ?_) (fun h => ?_)
    · refine go_iload_n C dX10_told_134 1 rfl ?_
      refine go_ite h (fun q h => ?_) (fun q0 h => ?_)
      · refine go_tabIn (off := 33) (tgt := 168) C dX10_told_135 q (by decide) (by decide) rfl ?_
        refine go_aload_n C dX10_told_168 0 rfl ?_
        refine go_get (v := .int (g10_signs r1)) C ffX10_79 dX10_told_169 0 rfl rfl ?_
        cases h
        exact go_iret C dX10_told_172 rfl rfl
      refine go_ite h (fun q h => ?_) (fun q1 h => ?_)
      · refine go_tabIn (off := 38) (tgt := 173) C dX10_told_135 q (by decide) (by decide) rfl ?_
        refine go_aload_n C dX10_told_173 0 rfl ?_
        refine go_get (v := .ref T1) C ffX10_7 dX10_told_174 0 rfl rfl ?_
        refine go_bipush (v := 46) C dX10_told_177 rfl ?_
        refine go_iaload (f := (g10_book r1)) C dX10_told_179 1 rfl (by decide) ?_
        cases h
        exact go_iret C dX10_told_180 rfl rfl
      refine go_ite h (fun q h => ?_) (fun q2 h => ?_)
      · refine go_tabIn (off := 46) (tgt := 181) C dX10_told_135 q (by decide) (by decide) rfl ?_
        refine go_aload_n C dX10_told_181 0 rfl ?_
        obtain ⟨r3, k4, h⟩ := tbd_e h
        refine go_callV (q0 := 0) (wr := ([] : va_W)) (w' := u10 G T0 T1 T2 T3 T4 T5 T6 T7 T8 T9 T10 T11 T12 r1) C cfX10_116 viX10_roof (m10_roof_k l G T0 T1 T2 T3 T4 T5 T6 T7 T8 T9 T10 T11 T12 r1 r3 k4) dX10_told_182 (by decide) ⟨Nat.zero_le _, Nat.zero_le _⟩ rfl rfl (Nat.le_of_ble_eq_true rfl) rfl [0, 1, 2, 3, 4, 5, 6, 7, 8, 9, 10, 11, 12] [] [0, 1, 2, 3, 4, 5, 6, 7, 8, 9, 10, 11, 12] rfl rfl (by decide) rfl ?_
        cases h
        exact go_iret C dX10_told_185 rfl rfl
      refine go_ite h (fun q h => ?_) (fun q3 h => ?_)
      · refine go_tabIn (off := 51) (tgt := 186) C dX10_told_135 q (by decide) (by decide) rfl ?_
        refine go_aload_n C dX10_told_186 0 rfl ?_
        refine go_get (v := .ref T1) C ffX10_7 dX10_told_187 0 rfl rfl ?_
        refine go_bipush (v := 44) C dX10_told_190 rfl ?_
        refine go_iaload (f := (g10_book r1)) C dX10_told_192 1 rfl (by decide) ?_
        cases h
        exact go_iret C dX10_told_193 rfl rfl
      refine go_ite h (fun q h => ?_) (fun q4 h => ?_)
      · refine go_tabIn (off := 59) (tgt := 194) C dX10_told_135 q (by decide) (by decide) rfl ?_
        refine go_aload_n C dX10_told_194 0 rfl ?_
        refine go_get (v := .ref T1) C ffX10_7 dX10_told_195 0 rfl rfl ?_
        refine go_bipush (v := 45) C dX10_told_198 rfl ?_
        refine go_iaload (f := (g10_book r1)) C dX10_told_200 1 rfl (by decide) ?_
        refine go_iconst (v := 1) C dX10_told_201 rfl ?_
        refine go_ishr C dX10_told_202 ?_
        cases h
        exact go_iret C dX10_told_203 rfl rfl
      refine go_tabOut (tgt := 204) C dX10_told_135 (by have a0 := lv_neT (a := 0) q0 rfl; have a1 := lv_neT (a := 1) q1 rfl; have a2 := lv_neT (a := 2) q2 rfl; have a3 := lv_neT (a := 3) q3 rfl; have a4 := lv_neT (a := 4) q4 rfl; omega) rfl ?_
      refine go_iload_n C dX10_told_204 1 rfl ?_
      refine go_iconst (v := 5) C dX10_told_205 rfl ?_
      refine go_icmp_ne (tgt := 216) C h dX10_told_206 rfl (fun h => ?_) (fun h => ?_)
      · refine go_bipush (v := -2) C dX10_told_216 rfl ?_
        cases h
        exact go_iret C dX10_told_218 rfl rfl
      · refine go_aload_n C dX10_told_209 0 rfl ?_
        refine go_get (v := .int (g10_sights r1)) C ffX10_145 dX10_told_210 0 rfl rfl ?_
        refine go_goto (tgt := 218) C dX10_told_213 rfl ?_
        cases h
        exact go_iret C dX10_told_218 rfl rfl
    · refine go_iload_n C dX10_told_71 1 rfl ?_
      refine go_bipush (v := 10) C dX10_told_72 rfl ?_
      refine go_irem C dX10_told_74 (by decide) ?_
      refine go_istore_nN (lf := fun v5 => [(2, .int v5), (0, .ref T0), (1, .int a1)]) C h dX10_told_75 (by decide) (fun _ => rfl) (fun v5 h => ?_)
      refine go_iload_n C dX10_told_76 0 rfl ?_
      obtain ⟨r6, k7, h⟩ := tbd_e h
      refine go_callS0 C cfX10_76 (wr9 _ (List.mem_of_getElem? (i := 5) rfl)) (m10_isMan_k l G v5 r6 k7) dX10_told_77 (by decide) ⟨Nat.zero_le _, Nat.zero_le _⟩ rfl rfl (Nat.le_of_ble_eq_true rfl) ?_
      refine go_if_ne (tgt := 88) C h dX10_told_80 rfl (fun h => ?_) (fun h => ?_)
      · refine go_iload_n C dX10_told_88 2 rfl ?_
        refine go_bipush (v := 20) C dX10_told_89 rfl ?_
        refine go_icmp_ge (tgt := 106) C h dX10_told_91 rfl (fun h => ?_) (fun h => ?_)
        · refine go_iload_n C dX10_told_106 2 rfl ?_
          refine go_bipush (v := 30) C dX10_told_107 rfl ?_
          refine go_icmp_ge (tgt := 124) C h dX10_told_109 rfl (fun h => ?_) (fun h => ?_)
          · refine go_aload_n C dX10_told_124 1 rfl ?_
            refine go_get (v := .ref T1) C ffX10_7 dX10_told_125 0 rfl rfl ?_
            refine go_bipush (v := 26) C dX10_told_128 rfl ?_
            refine go_iload_n C dX10_told_130 0 rfl ?_
            refine go_iadd C dX10_told_131 ?_
            refine go_ialoadG (f := (g10_book r1)) C h dX10_told_132 1 rfl (fun h => ?_)
            cases h
            exact go_iret C dX10_told_133 rfl rfl
          · refine go_aload_n C dX10_told_112 1 rfl ?_
            refine go_get (v := .ref T1) C ffX10_7 dX10_told_113 0 rfl rfl ?_
            refine go_bipush (v := 32) C dX10_told_116 rfl ?_
            refine go_iload_n C dX10_told_118 0 rfl ?_
            refine go_iadd C dX10_told_119 ?_
            refine go_ialoadG (f := (g10_book r1)) C h dX10_told_120 1 rfl (fun h => ?_)
            refine go_goto (tgt := 133) C dX10_told_121 rfl ?_
            cases h
            exact go_iret C dX10_told_133 rfl rfl
        · refine go_aload_n C dX10_told_94 1 rfl ?_
          refine go_get (v := .ref T1) C ffX10_7 dX10_told_95 0 rfl rfl ?_
          refine go_bipush (v := 38) C dX10_told_98 rfl ?_
          refine go_iload_n C dX10_told_100 0 rfl ?_
          refine go_iadd C dX10_told_101 ?_
          refine go_ialoadG (f := (g10_book r1)) C h dX10_told_102 1 rfl (fun h => ?_)
          refine go_goto (tgt := 133) C dX10_told_103 rfl ?_
          cases h
          exact go_iret C dX10_told_133 rfl rfl
      · refine go_bipush (v := -2) C dX10_told_83 rfl ?_
        refine go_goto (tgt := 133) C dX10_told_85 rfl ?_
        cases h
        exact go_iret C dX10_told_133 rfl rfl
  · refine go_iload_n C dX10_told_10 1 rfl ?_
    refine go_bipush (v := 60) C dX10_told_11 rfl ?_
    refine go_icmp_lt (tgt := 23) C h dX10_told_13 rfl (fun h => ?_) (fun h => ?_)
    · refine go_iload_n C dX10_told_23 1 rfl ?_
      refine go_bipush (v := 40) C dX10_told_24 rfl ?_
      refine go_isub C dX10_told_26 ?_
      exact go_lv [0, 1] rfl (m10_told_J27_k C T0 T1 T2 T3 T4 T5 T6 T7 T8 T9 T10 T11 T12 r1 a1 (a1 - (40 : Int32)) R0  h)
    · refine go_iload_n C dX10_told_16 1 rfl ?_
      refine go_bipush (v := 60) C dX10_told_17 rfl ?_
      refine go_isub C dX10_told_19 ?_
      refine go_goto (tgt := 27) C dX10_told_20 rfl ?_
      exact go_lv [0, 1] rfl (m10_told_J27_k C T0 T1 T2 T3 T4 T5 T6 T7 T8 T9 T10 T11 T12 r1 a1 (a1 - (60 : Int32)) R0  h)

