set_option maxRecDepth 100000 in
set_option maxHeartbeats 4000000 in
theorem m7_fewestSteps_k (l : Launch) (G : gG) (T0 T1 Ob0 Ob1 Ob2 Ob3 Ob4 Ob5 : Nat) (T : SX7) (Ob : SX1) (a2 : Int32) (R0 : Int32 × SX7) (h : m7_fewestSteps T Ob a2 = some R0) : KK l G yX7_fewestSteps cX7_fewestSteps 4 (some .int) 3 73 [.ref T0, .ref Ob0, .int a2] (u7 G T0 T1 T ++ (u1 G Ob0 Ob1 Ob2 Ob3 Ob4 Ob5 Ob)) (some (.int R0.1)) (u7 G T0 T1 R0.2 ++ (u1 G Ob0 Ob1 Ob2 Ob3 Ob4 Ob5 Ob)) := by
  refine KK_intro (own := RX7) (by decide +kernel) rfl (Nat.le_of_ble_eq_true rfl) rfl ?_
  intro p e s m args below meth c A C
  unfold m7_fewestSteps at h
  refine go_aload_n C dX7_fewestSteps_0 0 rfl ?_
  refine go_aload_n C dX7_fewestSteps_1 1 rfl ?_
  refine go_iload_n C dX7_fewestSteps_2 2 rfl ?_
  obtain ⟨r1, k2, h⟩ := tbd_e h
  refine go_callV (q0 := 0) (wr := ([] : va_W)) (w' := u7 G T0 T1 r1 ++ (u1 G Ob0 Ob1 Ob2 Ob3 Ob4 Ob5 Ob)) C cfX7_15 viX7_settleSteps (m7_settleSteps_k l G T0 T1 Ob0 Ob1 Ob2 Ob3 Ob4 Ob5 T Ob a2 r1 k2) dX7_fewestSteps_3 (by decide) ⟨Nat.zero_le _, Nat.zero_le _⟩ rfl rfl (Nat.le_of_ble_eq_true rfl) rfl [0, 1, 2, 3, 4, 5, 6, 7] [] [0, 1, 2, 3, 4, 5, 6, 7] rfl rfl (by decide) rfl ?_
  refine go_aload_n C dX7_fewestSteps_6 0 rfl ?_
  refine go_aload_n C dX7_fewestSteps_7 1 rfl ?_
  refine go_iload_n C dX7_fewestSteps_8 2 rfl ?_
  obtain ⟨r3, k4, h⟩ := tbd_e h
  refine go_callV (q0 := 2) (wr := u7 G T0 T1 r1) (w' := u7 G T0 T1 r1 ++ (u1 G Ob0 Ob1 Ob2 Ob3 Ob4 Ob5 Ob)) C cfX7_19 viX1_placeOf (m1_placeOf_k l G Ob0 Ob1 Ob2 Ob3 Ob4 Ob5 Ob a2 r3 k4) dX7_fewestSteps_9 (by decide) ⟨Nat.zero_le _, Nat.zero_le _⟩ rfl rfl (Nat.le_of_ble_eq_true rfl) rfl [2, 3, 4, 5, 6, 7] [0, 1] [0, 1, 2, 3, 4, 5, 6, 7] rfl rfl (by decide) rfl ?_
  obtain ⟨r5, k6, h⟩ := tbd_e h
  refine go_callV (q0 := 0) (wr := u1 G Ob0 Ob1 Ob2 Ob3 Ob4 Ob5 Ob) (w' := u7 G T0 T1 r1 ++ (u1 G Ob0 Ob1 Ob2 Ob3 Ob4 Ob5 Ob)) C cfX7_25 viX7_settledAt (m7_settledAt_k l G T0 T1 r1 r3 r5 k6) dX7_fewestSteps_12 (by decide) ⟨Nat.zero_le _, Nat.zero_le _⟩ rfl rfl (Nat.le_of_ble_eq_true rfl) rfl [0, 1] [2, 3, 4, 5, 6, 7] [6, 7, 0, 1, 2, 3, 4, 5] rfl rfl (by decide) rfl ?_
  refine go_istore_n (lv' := [(3, .int r5), (0, .ref T0), (1, .ref Ob0), (2, .int a2)]) C dX7_fewestSteps_15 (by decide) rfl ?_
  refine go_iload_n C dX7_fewestSteps_16 0 rfl ?_
  refine go_ldc (v := 1000000) C dX7_fewestSteps_17 (wr23 _ (List.mem_of_getElem? (i := 6) rfl)) ?_
  refine go_icmp_lt (tgt := 27) C h dX7_fewestSteps_19 rfl (fun h => ?_) (fun h => ?_)
  · refine go_iload_n C dX7_fewestSteps_27 0 rfl ?_
    cases h
    exact go_iret C dX7_fewestSteps_28 rfl rfl
  · refine go_bipush (v := -6) C dX7_fewestSteps_22 rfl ?_
    refine go_goto (tgt := 28) C dX7_fewestSteps_24 rfl ?_
    cases h
    exact go_iret C dX7_fewestSteps_28 rfl rfl

set_option maxRecDepth 100000 in
set_option maxHeartbeats 4000000 in
theorem m7_firstStep_L62_k {p : Program} {l : Launch} {e : Env} {s : State} {m : MethodId} {args : Array Value} {below : List Frame} {meth : Method} {c : Code} {G : gG} {A : Nat → Prop} (C : Cx p e s m args meth c G RX7 cX7_firstStep 8 (some .int) A) (T0 T1 Ob0 Ob1 Ob2 Ob3 Ob4 Ob5 : Nat) (T : SX7) (Ob : SX1) (x3 : Int32) (x5 : Int32) (x6 : Int32) (R0 : Int32 × SX7)  : ∀ (n : Nat) (x7 : Int32), tit (m7_firstStep_L62 T Ob x3 x5 x6) n x7 = some R0 → Gq p l e (rq 3 73) s m args below meth c G A 8 0 0 (MQ below (QK G (some (.int R0.1)) (u7 G T0 T1 R0.2 ++ (u1 G Ob0 Ob1 Ob2 Ob3 Ob4 Ob5 Ob)) A) args s 0 0 A) 62 [(0, .ref T0), (3, .int x3), (5, .int x5), (6, .int x6), (7, .int x7)] [] (u7 G T0 T1 T ++ (u1 G Ob0 Ob1 Ob2 Ob3 Ob4 Ob5 Ob)) := by
  intro n
  induction n with
  | zero => exact fun _ h => (tit_z h).elim
  | succ n ih =>
    intro x7 h
    replace h : m7_firstStep_B62 T Ob x3 x5 x6 (tit (m7_firstStep_L62 T Ob x3 x5 x6) n) x7 = some R0 := h
    unfold m7_firstStep_B62 at h
    refine go_iload C dX7_firstStep_62 4 rfl ?_
    refine go_iload C dX7_firstStep_64 3 rfl ?_
    refine go_icmp_gt (tgt := 100) C h dX7_firstStep_66 rfl (fun h => ?_) (fun h => ?_)
    · refine go_bipush (v := -6) C dX7_firstStep_100 rfl ?_
      cases h
      exact go_iret C dX7_firstStep_102 rfl rfl
    · refine go_iload_n C dX7_firstStep_69 1 rfl ?_
      refine go_iload C dX7_firstStep_70 4 rfl ?_
      obtain ⟨r14, k15, h⟩ := tbd_e h
      refine go_callS0 C cfX7_41 (wr23 _ (List.mem_of_getElem? (i := 17) rfl)) (m7_isOpen_k l G x3 x7 r14 k15) dX7_firstStep_72 (by decide) ⟨Nat.zero_le _, Nat.zero_le _⟩ rfl rfl (Nat.le_of_ble_eq_true rfl) ?_
      refine go_if_eq (tgt := 94) C h dX7_firstStep_75 rfl (fun h => ?_) (fun h => ?_)
      · refine go_iincN (lf := fun v16 => [(7, .int v16), (0, .ref T0), (3, .int x3), (5, .int x5), (6, .int x6)]) C h dX7_firstStep_94 4 rfl rfl (by decide) (fun _ => rfl) (fun v16 h => ?_)
        refine go_goto (tgt := 62) C dX7_firstStep_97 rfl ?_
        exact go_lv [1, 2, 3, 4, 0] rfl (ih v16 h)
      · refine go_aload_n C dX7_firstStep_78 0 rfl ?_
        refine go_iload C dX7_firstStep_79 4 rfl ?_
        obtain ⟨r17, k18, h⟩ := tbd_e h
        refine go_callV (q0 := 0) (wr := u1 G Ob0 Ob1 Ob2 Ob3 Ob4 Ob5 Ob) (w' := u7 G T0 T1 T ++ (u1 G Ob0 Ob1 Ob2 Ob3 Ob4 Ob5 Ob)) C cfX7_25 viX7_settledAt (m7_settledAt_k l G T0 T1 T x7 r17 k18) dX7_firstStep_81 (by decide) ⟨Nat.zero_le _, Nat.zero_le _⟩ rfl rfl (Nat.le_of_ble_eq_true rfl) rfl [0, 1] [2, 3, 4, 5, 6, 7] [6, 7, 0, 1, 2, 3, 4, 5] rfl rfl (by decide) rfl ?_
        refine go_iload C dX7_firstStep_84 2 rfl ?_
        refine go_iconst (v := 1) C dX7_firstStep_86 rfl ?_
        refine go_isub C dX7_firstStep_87 ?_
        refine go_icmp_ne (tgt := 94) C h dX7_firstStep_88 rfl (fun h => ?_) (fun h => ?_)
        · refine go_iincN (lf := fun v19 => [(7, .int v19), (0, .ref T0), (3, .int x3), (5, .int x5), (6, .int x6)]) C h dX7_firstStep_94 4 rfl rfl (by decide) (fun _ => rfl) (fun v19 h => ?_)
          refine go_goto (tgt := 62) C dX7_firstStep_97 rfl ?_
          exact go_lv [1, 2, 3, 4, 0] rfl (ih v19 h)
        · refine go_iload C dX7_firstStep_91 4 rfl ?_
          cases h
          exact go_iret C dX7_firstStep_93 rfl rfl

set_option maxRecDepth 100000 in
set_option maxHeartbeats 4000000 in
theorem m7_firstStep_k (l : Launch) (G : gG) (T0 T1 Ob0 Ob1 Ob2 Ob3 Ob4 Ob5 : Nat) (T : SX7) (Ob : SX1) (a2 : Int32) (R0 : Int32 × SX7) (h : m7_firstStep T Ob a2 = some R0) : KK l G yX7_firstStep cX7_firstStep 8 (some .int) 3 73 [.ref T0, .ref Ob0, .int a2] (u7 G T0 T1 T ++ (u1 G Ob0 Ob1 Ob2 Ob3 Ob4 Ob5 Ob)) (some (.int R0.1)) (u7 G T0 T1 R0.2 ++ (u1 G Ob0 Ob1 Ob2 Ob3 Ob4 Ob5 Ob)) := by
  refine KK_intro (own := RX7) (by decide +kernel) rfl (Nat.le_of_ble_eq_true rfl) rfl ?_
  intro p e s m args below meth c A C
  unfold m7_firstStep at h
  refine go_aload_n C dX7_firstStep_0 0 rfl ?_
  refine go_aload_n C dX7_firstStep_1 1 rfl ?_
  refine go_iload_n C dX7_firstStep_2 2 rfl ?_
  obtain ⟨r1, k2, h⟩ := tbd_e h
  refine go_callV (q0 := 0) (wr := ([] : va_W)) (w' := u7 G T0 T1 r1 ++ (u1 G Ob0 Ob1 Ob2 Ob3 Ob4 Ob5 Ob)) C cfX7_15 viX7_settleSteps (m7_settleSteps_k l G T0 T1 Ob0 Ob1 Ob2 Ob3 Ob4 Ob5 T Ob a2 r1 k2) dX7_firstStep_3 (by decide) ⟨Nat.zero_le _, Nat.zero_le _⟩ rfl rfl (Nat.le_of_ble_eq_true rfl) rfl [0, 1, 2, 3, 4, 5, 6, 7] [] [0, 1, 2, 3, 4, 5, 6, 7] rfl rfl (by decide) rfl ?_
  refine go_aload_n C dX7_firstStep_6 1 rfl ?_
  refine go_iload_n C dX7_firstStep_7 2 rfl ?_
  obtain ⟨r3, k4, h⟩ := tbd_e h
  refine go_callV (q0 := 2) (wr := u7 G T0 T1 r1) (w' := u7 G T0 T1 r1 ++ (u1 G Ob0 Ob1 Ob2 Ob3 Ob4 Ob5 Ob)) C cfX7_29 viX1_rungsOpenTo (m1_rungsOpenTo_k l G Ob0 Ob1 Ob2 Ob3 Ob4 Ob5 Ob a2 r3 k4) dX7_firstStep_8 (by decide) ⟨Nat.zero_le _, Nat.zero_le _⟩ rfl rfl (Nat.le_of_ble_eq_true rfl) rfl [2, 3, 4, 5, 6, 7] [0, 1] [0, 1, 2, 3, 4, 5, 6, 7] rfl rfl (by decide) rfl ?_
  refine go_sipush (v := 4096) C dX7_firstStep_11 rfl ?_
  refine go_ior C dX7_firstStep_14 ?_
  refine go_istore_nN (lf := fun v5 => [(3, .int v5), (0, .ref T0), (1, .ref Ob0), (2, .int a2)]) C h dX7_firstStep_15 (by decide) (fun _ => rfl) (fun v5 h => ?_)
  refine go_aload_n C dX7_firstStep_16 2 rfl ?_
  refine go_iload_n C dX7_firstStep_17 3 rfl ?_
  obtain ⟨r6, k7, h⟩ := tbd_e h
  refine go_callV (q0 := 2) (wr := u7 G T0 T1 r1) (w' := u7 G T0 T1 r1 ++ (u1 G Ob0 Ob1 Ob2 Ob3 Ob4 Ob5 Ob)) C cfX7_19 viX1_placeOf (m1_placeOf_k l G Ob0 Ob1 Ob2 Ob3 Ob4 Ob5 Ob a2 r6 k7) dX7_firstStep_18 (by decide) ⟨Nat.zero_le _, Nat.zero_le _⟩ rfl rfl (Nat.le_of_ble_eq_true rfl) rfl [2, 3, 4, 5, 6, 7] [0, 1] [0, 1, 2, 3, 4, 5, 6, 7] rfl rfl (by decide) rfl ?_
  refine go_istore (lv' := [(4, .int r6), (3, .int v5), (0, .ref T0), (1, .ref Ob0), (2, .int a2)]) C dX7_firstStep_21 (by decide) rfl ?_
  refine go_aload_n C dX7_firstStep_23 2 rfl ?_
  refine go_iload C dX7_firstStep_24 0 rfl ?_
  obtain ⟨r8, k9, h⟩ := tbd_e h
  refine go_callV (q0 := 0) (wr := u1 G Ob0 Ob1 Ob2 Ob3 Ob4 Ob5 Ob) (w' := u7 G T0 T1 r1 ++ (u1 G Ob0 Ob1 Ob2 Ob3 Ob4 Ob5 Ob)) C cfX7_25 viX7_settledAt (m7_settledAt_k l G T0 T1 r1 r6 r8 k9) dX7_firstStep_26 (by decide) ⟨Nat.zero_le _, Nat.zero_le _⟩ rfl rfl (Nat.le_of_ble_eq_true rfl) rfl [0, 1] [2, 3, 4, 5, 6, 7] [6, 7, 0, 1, 2, 3, 4, 5] rfl rfl (by decide) rfl ?_
  refine go_istore (lv' := [(5, .int r8), (4, .int r6), (3, .int v5), (0, .ref T0), (1, .ref Ob0), (2, .int a2)]) C dX7_firstStep_29 (by decide) rfl ?_
  refine go_iload C dX7_firstStep_31 0 rfl ?_
  refine go_ldc (v := 1000000) C dX7_firstStep_33 (wr23 _ (List.mem_of_getElem? (i := 6) rfl)) ?_
  refine go_icmp_lt (tgt := 41) C h dX7_firstStep_35 rfl (fun h => ?_) (fun h => ?_)
  · refine go_iload C dX7_firstStep_41 1 rfl ?_
    refine go_aload_n C dX7_firstStep_43 4 rfl ?_
    refine go_iload_n C dX7_firstStep_44 5 rfl ?_
    obtain ⟨r10, k11, h⟩ := tbd_e h
    refine go_callV (q0 := 2) (wr := u7 G T0 T1 r1) (w' := u7 G T0 T1 r1 ++ (u1 G Ob0 Ob1 Ob2 Ob3 Ob4 Ob5 Ob)) C cfX7_32 viX1_strideOf (m1_strideOf_k l G Ob0 Ob1 Ob2 Ob3 Ob4 Ob5 Ob a2 r10 k11) dX7_firstStep_45 (by decide) ⟨Nat.zero_le _, Nat.zero_le _⟩ rfl rfl (Nat.le_of_ble_eq_true rfl) rfl [2, 3, 4, 5, 6, 7] [0, 1] [0, 1, 2, 3, 4, 5, 6, 7] rfl rfl (by decide) rfl ?_
    refine go_iadd C dX7_firstStep_48 ?_
    refine go_bipush (v := 13) C dX7_firstStep_49 rfl ?_
    refine go_mmin C cmX7_35 dX7_firstStep_51 (by decide) (Nat.le_of_ble_eq_true rfl) (Nat.zero_le _) (Nat.zero_le _) ?_
    refine go_istoreN (lf := fun v12 => [(6, .int v12), (5, .int r8), (4, .int r6), (3, .int v5), (0, .ref T0), (1, .ref Ob0), (2, .int a2)]) C h dX7_firstStep_54 (by decide) (fun _ => rfl) (fun v12 h => ?_)
    refine go_iload C dX7_firstStep_56 2 rfl ?_
    refine go_iconst (v := 1) C dX7_firstStep_58 rfl ?_
    refine go_iadd C dX7_firstStep_59 ?_
    refine go_istoreN (lf := fun v13 => [(7, .int v13), (6, .int v12), (5, .int r8), (4, .int r6), (3, .int v5), (0, .ref T0), (1, .ref Ob0), (2, .int a2)]) C h dX7_firstStep_60 (by decide) (fun _ => rfl) (fun v13 h => ?_)
    exact go_lv [5, 4, 2, 1, 0] rfl (m7_firstStep_L62_k C T0 T1 Ob0 Ob1 Ob2 Ob3 Ob4 Ob5 r1 Ob v5 r8 v12 R0  FU v13 h)
  · refine go_bipush (v := -6) C dX7_firstStep_38 rfl ?_
    cases h
    exact go_iret C dX7_firstStep_40 rfl rfl

set_option maxRecDepth 100000 in
set_option maxHeartbeats 4000000 in
theorem m7_countUp_L55_k {p : Program} {l : Launch} {e : Env} {s : State} {m : MethodId} {args : Array Value} {below : List Frame} {meth : Method} {c : Code} {G : gG} {A : Nat → Prop} (C : Cx p e s m args meth c G RX7 cX7_countUp 9 (some .int) A) (T0 T1 Ob0 Ob1 Ob2 Ob3 Ob4 Ob5 : Nat) (T : SX7) (Ob : SX1) (x2 : Int32) (x3 : Int32) (x4 : Int32) (x5 : Int32) (x7 : Int32) (R0 : Int32 × SX7) (rc29 : Int32 × SX7 → Option (Int32 × SX7)) (hr29 : ∀ (x5 : Int32) (Tz : SX7), rc29 (x5, Tz) = some R0 → Gq p l e (rq 2 45) s m args below meth c G A 9 0 0 (MQ below (QK G (some (.int R0.1)) (u7 G T0 T1 R0.2 ++ (u1 G Ob0 Ob1 Ob2 Ob3 Ob4 Ob5 Ob)) A) args s 0 0 A) 29 [(0, .ref T0), (1, .ref Ob0), (2, .int x2), (3, .int x3), (4, .int x4), (5, .int x5)] [] (u7 G T0 T1 Tz ++ (u1 G Ob0 Ob1 Ob2 Ob3 Ob4 Ob5 Ob))) : ∀ (n : Nat) (x6 : Int32) (x8 : Int32), tit (m7_countUp_L55 T Ob x2 x3 x4 x5 x7 rc29) n (x6, x8) = some R0 → Gq p l e (rq 2 45) s m args below meth c G A 9 0 0 (MQ below (QK G (some (.int R0.1)) (u7 G T0 T1 R0.2 ++ (u1 G Ob0 Ob1 Ob2 Ob3 Ob4 Ob5 Ob)) A) args s 0 0 A) 55 [(0, .ref T0), (1, .ref Ob0), (2, .int x2), (3, .int x3), (4, .int x4), (5, .int x5), (6, .int x6), (7, .int x7), (8, .int x8)] [] (u7 G T0 T1 T ++ (u1 G Ob0 Ob1 Ob2 Ob3 Ob4 Ob5 Ob)) := by
  intro n
  induction n with
  | zero => exact fun _ _ h => (tit_z h).elim
  | succ n ih =>
    intro x6 x8 h
    replace h : m7_countUp_B55 T Ob x2 x3 x4 x5 x7 rc29 (tit (m7_countUp_L55 T Ob x2 x3 x4 x5 x7 rc29) n) x6 x8 = some R0 := h
    unfold m7_countUp_B55 at h
    refine go_iload C dX7_countUp_55 8 rfl ?_
    refine go_iload C dX7_countUp_57 7 rfl ?_
    refine go_icmp_gt (tgt := 88) C h dX7_countUp_59 rfl (fun h => ?_) (fun h => ?_)
    · refine go_aload_n C dX7_countUp_88 0 rfl ?_
      refine go_get (v := .ref T1) C ffX7_9 dX7_countUp_89 0 rfl rfl ?_
      refine go_iload C dX7_countUp_92 5 rfl ?_
      refine go_iload C dX7_countUp_94 6 rfl ?_
      refine go_iastoreG (f := (g7_settled T)) (w' := u7 G T0 T1 (s7_settled T (upd (g7_settled T) (Int32.toNatClampNeg x5) x6)) ++ (u1 G Ob0 Ob1 Ob2 Ob3 Ob4 Ob5 Ob)) C h dX7_countUp_96 1 rfl (setL (Nat.le_of_ble_eq_true rfl) z7_settled) (fun h => ?_)
      refine go_iincN (lf := fun v12 => [(5, .int v12), (0, .ref T0), (1, .ref Ob0), (2, .int x2), (3, .int x3), (4, .int x4), (6, .int x6), (7, .int x7), (8, .int x8)]) C h dX7_countUp_97 5 rfl rfl (by decide) (fun _ => rfl) (fun v12 h => ?_)
      refine go_goto (tgt := 29) C dX7_countUp_100 rfl ?_
      exact go_lv [1, 2, 3, 4, 5, 0] rfl (hr29 v12 (s7_settled T (upd (g7_settled T) (Int32.toNatClampNeg x5) x6)) h)
    · refine go_iload_n C dX7_countUp_62 3 rfl ?_
      refine go_iload C dX7_countUp_63 8 rfl ?_
      obtain ⟨r13, k14, h⟩ := tbd_e h
      refine go_callS0 C cfX7_41 (wr23 _ (List.mem_of_getElem? (i := 17) rfl)) (m7_isOpen_k l G x3 x8 r13 k14) dX7_countUp_65 (by decide) ⟨Nat.zero_le _, Nat.zero_le _⟩ rfl rfl (Nat.le_of_ble_eq_true rfl) ?_
      refine go_if_eq (tgt := 82) C h dX7_countUp_68 rfl (fun h => ?_) (fun h => ?_)
      · refine go_iincN (lf := fun v15 => [(8, .int v15), (0, .ref T0), (1, .ref Ob0), (2, .int x2), (3, .int x3), (4, .int x4), (5, .int x5), (6, .int x6), (7, .int x7)]) C h dX7_countUp_82 8 rfl rfl (by decide) (fun _ => rfl) (fun v15 h => ?_)
        refine go_goto (tgt := 55) C dX7_countUp_85 rfl ?_
        exact go_lv [1, 2, 3, 4, 5, 6, 7, 8, 0] rfl (ih x6 v15 h)
      · refine go_iload C dX7_countUp_71 6 rfl ?_
        refine go_aload_n C dX7_countUp_73 0 rfl ?_
        refine go_iload C dX7_countUp_74 8 rfl ?_
        obtain ⟨r16, k17, h⟩ := tbd_e h
        refine go_callV (q0 := 0) (wr := u1 G Ob0 Ob1 Ob2 Ob3 Ob4 Ob5 Ob) (w' := u7 G T0 T1 T ++ (u1 G Ob0 Ob1 Ob2 Ob3 Ob4 Ob5 Ob)) C cfX7_25 viX7_settledAt (m7_settledAt_k l G T0 T1 T x8 r16 k17) dX7_countUp_76 (by decide) ⟨Nat.zero_le _, Nat.zero_le _⟩ rfl rfl (Nat.le_of_ble_eq_true rfl) rfl [0, 1] [2, 3, 4, 5, 6, 7] [6, 7, 0, 1, 2, 3, 4, 5] rfl rfl (by decide) rfl ?_
        refine go_iadd C dX7_countUp_79 ?_
        refine go_istoreN (lf := fun v18 => [(6, .int v18), (0, .ref T0), (1, .ref Ob0), (2, .int x2), (3, .int x3), (4, .int x4), (5, .int x5), (7, .int x7), (8, .int x8)]) C h dX7_countUp_80 (by decide) (fun _ => rfl) (fun v18 h => ?_)
        refine go_iincN (lf := fun v19 => [(8, .int v19), (6, .int v18), (0, .ref T0), (1, .ref Ob0), (2, .int x2), (3, .int x3), (4, .int x4), (5, .int x5), (7, .int x7)]) C h dX7_countUp_82 8 rfl rfl (by decide) (fun _ => rfl) (fun v19 h => ?_)
        refine go_goto (tgt := 55) C dX7_countUp_85 rfl ?_
        exact go_lv [2, 3, 4, 5, 6, 7, 1, 8, 0] rfl (ih v18 v19 h)

set_option maxRecDepth 100000 in
set_option maxHeartbeats 4000000 in
theorem m7_countUp_L29_k {p : Program} {l : Launch} {e : Env} {s : State} {m : MethodId} {args : Array Value} {below : List Frame} {meth : Method} {c : Code} {G : gG} {A : Nat → Prop} (C : Cx p e s m args meth c G RX7 cX7_countUp 9 (some .int) A) (T0 T1 Ob0 Ob1 Ob2 Ob3 Ob4 Ob5 : Nat) (Ob : SX1) (x2 : Int32) (x3 : Int32) (x4 : Int32) (R0 : Int32 × SX7)  : ∀ (n : Nat) (x5 : Int32) (T : SX7), tit (m7_countUp_L29 Ob x2 x3 x4) n (x5, T) = some R0 → Gq p l e (rq 2 45) s m args below meth c G A 9 0 0 (MQ below (QK G (some (.int R0.1)) (u7 G T0 T1 R0.2 ++ (u1 G Ob0 Ob1 Ob2 Ob3 Ob4 Ob5 Ob)) A) args s 0 0 A) 29 [(0, .ref T0), (1, .ref Ob0), (2, .int x2), (3, .int x3), (4, .int x4), (5, .int x5)] [] (u7 G T0 T1 T ++ (u1 G Ob0 Ob1 Ob2 Ob3 Ob4 Ob5 Ob)) := by
  intro n
  induction n with
  | zero => exact fun _ _ h => (tit_z h).elim
  | succ n ih =>
    intro x5 T h
    replace h : m7_countUp_B29 Ob x2 x3 x4 (tit (m7_countUp_L29 Ob x2 x3 x4) n) x5 T = some R0 := h
    unfold m7_countUp_B29 at h
    refine go_iload C dX7_countUp_29 5 rfl ?_
    refine go_if_lt (tgt := 103) C h dX7_countUp_31 rfl (fun h => ?_) (fun h => ?_)
    · refine go_aload_n C dX7_countUp_103 0 rfl ?_
      refine go_aload_n C dX7_countUp_104 1 rfl ?_
      refine go_iload_n C dX7_countUp_105 2 rfl ?_
      obtain ⟨r6, k7, h⟩ := tbd_e h
      refine go_callV (q0 := 2) (wr := u7 G T0 T1 T) (w' := u7 G T0 T1 T ++ (u1 G Ob0 Ob1 Ob2 Ob3 Ob4 Ob5 Ob)) C cfX7_19 viX1_placeOf (m1_placeOf_k l G Ob0 Ob1 Ob2 Ob3 Ob4 Ob5 Ob x2 r6 k7) dX7_countUp_106 (by decide) ⟨Nat.zero_le _, Nat.zero_le _⟩ rfl rfl (Nat.le_of_ble_eq_true rfl) rfl [2, 3, 4, 5, 6, 7] [0, 1] [0, 1, 2, 3, 4, 5, 6, 7] rfl rfl (by decide) rfl ?_
      obtain ⟨r8, k9, h⟩ := tbd_e h
      refine go_callV (q0 := 0) (wr := u1 G Ob0 Ob1 Ob2 Ob3 Ob4 Ob5 Ob) (w' := u7 G T0 T1 T ++ (u1 G Ob0 Ob1 Ob2 Ob3 Ob4 Ob5 Ob)) C cfX7_25 viX7_settledAt (m7_settledAt_k l G T0 T1 T r6 r8 k9) dX7_countUp_109 (by decide) ⟨Nat.zero_le _, Nat.zero_le _⟩ rfl rfl (Nat.le_of_ble_eq_true rfl) rfl [0, 1] [2, 3, 4, 5, 6, 7] [6, 7, 0, 1, 2, 3, 4, 5] rfl rfl (by decide) rfl ?_
      cases h
      exact go_iret C dX7_countUp_112 rfl rfl
    · refine go_iconst (v := 0) C dX7_countUp_34 rfl ?_
      refine go_istore (lv' := [(6, .int (0 : Int32)), (0, .ref T0), (1, .ref Ob0), (2, .int x2), (3, .int x3), (4, .int x4), (5, .int x5)]) C dX7_countUp_35 (by decide) rfl ?_
      refine go_iload C dX7_countUp_37 6 rfl ?_
      refine go_iload C dX7_countUp_39 5 rfl ?_
      refine go_iadd C dX7_countUp_41 ?_
      refine go_bipush (v := 13) C dX7_countUp_42 rfl ?_
      refine go_mmin C cmX7_35 dX7_countUp_44 (by decide) (Nat.le_of_ble_eq_true rfl) (Nat.zero_le _) (Nat.zero_le _) ?_
      refine go_istoreN (lf := fun v10 => [(7, .int v10), (6, .int (0 : Int32)), (0, .ref T0), (1, .ref Ob0), (2, .int x2), (3, .int x3), (4, .int x4), (5, .int x5)]) C h dX7_countUp_47 (by decide) (fun _ => rfl) (fun v10 h => ?_)
      refine go_iload C dX7_countUp_49 7 rfl ?_
      refine go_iconst (v := 1) C dX7_countUp_51 rfl ?_
      refine go_iadd C dX7_countUp_52 ?_
      refine go_istoreN (lf := fun v11 => [(8, .int v11), (7, .int v10), (6, .int (0 : Int32)), (0, .ref T0), (1, .ref Ob0), (2, .int x2), (3, .int x3), (4, .int x4), (5, .int x5)]) C h dX7_countUp_53 (by decide) (fun _ => rfl) (fun v11 h => ?_)
      exact go_lv [3, 4, 5, 6, 7, 8, 2, 1, 0] rfl (m7_countUp_L55_k C T0 T1 Ob0 Ob1 Ob2 Ob3 Ob4 Ob5 T Ob x2 x3 x4 x5 v10 R0 _ (fun z0 z1 h => ih z0 z1 h) FU (0 : Int32) v11 h)

set_option maxRecDepth 100000 in
set_option maxHeartbeats 4000000 in
theorem m7_countUp_k (l : Launch) (G : gG) (T0 T1 Ob0 Ob1 Ob2 Ob3 Ob4 Ob5 : Nat) (T : SX7) (Ob : SX1) (a2 : Int32) (R0 : Int32 × SX7) (h : m7_countUp T Ob a2 = some R0) : KK l G yX7_countUp cX7_countUp 9 (some .int) 2 45 [.ref T0, .ref Ob0, .int a2] (u7 G T0 T1 T ++ (u1 G Ob0 Ob1 Ob2 Ob3 Ob4 Ob5 Ob)) (some (.int R0.1)) (u7 G T0 T1 R0.2 ++ (u1 G Ob0 Ob1 Ob2 Ob3 Ob4 Ob5 Ob)) := by
  refine KK_intro (own := RX7) (by decide +kernel) rfl (Nat.le_of_ble_eq_true rfl) rfl ?_
  intro p e s m args below meth c A C
  unfold m7_countUp at h
  refine go_aload_n C dX7_countUp_0 1 rfl ?_
  refine go_iload_n C dX7_countUp_1 2 rfl ?_
  obtain ⟨r1, k2, h⟩ := tbd_e h
  refine go_callV (q0 := 2) (wr := u7 G T0 T1 T) (w' := u7 G T0 T1 T ++ (u1 G Ob0 Ob1 Ob2 Ob3 Ob4 Ob5 Ob)) C cfX7_29 viX1_rungsOpenTo (m1_rungsOpenTo_k l G Ob0 Ob1 Ob2 Ob3 Ob4 Ob5 Ob a2 r1 k2) dX7_countUp_2 (by decide) ⟨Nat.zero_le _, Nat.zero_le _⟩ rfl rfl (Nat.le_of_ble_eq_true rfl) rfl [2, 3, 4, 5, 6, 7] [0, 1] [0, 1, 2, 3, 4, 5, 6, 7] rfl rfl (by decide) rfl ?_
  refine go_sipush (v := 4096) C dX7_countUp_5 rfl ?_
  refine go_ior C dX7_countUp_8 ?_
  refine go_istore_nN (lf := fun v3 => [(3, .int v3), (0, .ref T0), (1, .ref Ob0), (2, .int a2)]) C h dX7_countUp_9 (by decide) (fun _ => rfl) (fun v3 h => ?_)
  refine go_aload_n C dX7_countUp_10 2 rfl ?_
  refine go_iload_n C dX7_countUp_11 3 rfl ?_
  obtain ⟨r4, k5, h⟩ := tbd_e h
  refine go_callV (q0 := 2) (wr := u7 G T0 T1 T) (w' := u7 G T0 T1 T ++ (u1 G Ob0 Ob1 Ob2 Ob3 Ob4 Ob5 Ob)) C cfX7_32 viX1_strideOf (m1_strideOf_k l G Ob0 Ob1 Ob2 Ob3 Ob4 Ob5 Ob a2 r4 k5) dX7_countUp_12 (by decide) ⟨Nat.zero_le _, Nat.zero_le _⟩ rfl rfl (Nat.le_of_ble_eq_true rfl) rfl [2, 3, 4, 5, 6, 7] [0, 1] [0, 1, 2, 3, 4, 5, 6, 7] rfl rfl (by decide) rfl ?_
  refine go_istore (lv' := [(4, .int r4), (3, .int v3), (0, .ref T0), (1, .ref Ob0), (2, .int a2)]) C dX7_countUp_15 (by decide) rfl ?_
  refine go_aload_n C dX7_countUp_17 2 rfl ?_
  refine go_get (v := .ref T1) C ffX7_9 dX7_countUp_18 0 rfl rfl ?_
  refine go_bipush (v := 13) C dX7_countUp_21 rfl ?_
  refine go_iconst (v := 1) C dX7_countUp_23 rfl ?_
  refine go_iastore (f := (g7_settled T)) (w' := u7 G T0 T1 (s7_settled T (upd (g7_settled T) (Int32.toNatClampNeg (13 : Int32)) (1 : Int32))) ++ (u1 G Ob0 Ob1 Ob2 Ob3 Ob4 Ob5 Ob)) C dX7_countUp_24 1 rfl (by decide) (setL (Nat.le_of_ble_eq_true rfl) z7_settled) ?_
  refine go_bipush (v := 12) C dX7_countUp_25 rfl ?_
  refine go_istore (lv' := [(5, .int (12 : Int32)), (4, .int r4), (3, .int v3), (0, .ref T0), (1, .ref Ob0), (2, .int a2)]) C dX7_countUp_27 (by decide) rfl ?_
  exact go_lv [3, 4, 5, 2, 1, 0] rfl (m7_countUp_L29_k C T0 T1 Ob0 Ob1 Ob2 Ob3 Ob4 Ob5 Ob a2 v3 r4 R0  FU (12 : Int32) (s7_settled T (upd (g7_settled T) (Int32.toNatClampNeg (13 : Int32)) (1 : Int32))) h)

set_option maxRecDepth 100000 in
set_option maxHeartbeats 4000000 in
theorem m7_leaseCost_L62_k {p : Program} {l : Launch} {e : Env} {s : State} {m : MethodId} {args : Array Value} {below : List Frame} {meth : Method} {c : Code} {G : gG} {A : Nat → Prop} (C : Cx p e s m args meth c G RX7 cX7_leaseCost 10 (some .int) A) (T0 T1 Ob0 Ob1 Ob2 Ob3 Ob4 Ob5 : Nat) (T : SX7) (Ob : SX1) (x2 : Int32) (x3 : Int32) (x4 : Int32) (x5 : Int32) (x6 : Int32) (x8 : Int32) (R0 : Int32 × SX7) (rc35 : Int32 × SX7 → Option (Int32 × SX7)) (hr35 : ∀ (x6 : Int32) (Tz : SX7), rc35 (x6, Tz) = some R0 → Gq p l e (rq 3 63) s m args below meth c G A 10 0 0 (MQ below (QK G (some (.int R0.1)) (u7 G T0 T1 R0.2 ++ (u1 G Ob0 Ob1 Ob2 Ob3 Ob4 Ob5 Ob)) A) args s 0 0 A) 35 [(0, .ref T0), (1, .ref Ob0), (2, .int x2), (3, .int x3), (4, .int x4), (5, .int x5), (6, .int x6)] [] (u7 G T0 T1 Tz ++ (u1 G Ob0 Ob1 Ob2 Ob3 Ob4 Ob5 Ob))) : ∀ (n : Nat) (x7 : Int32) (x9 : Int32), tit (m7_leaseCost_L62 T Ob x2 x3 x4 x5 x6 x8 rc35) n (x7, x9) = some R0 → Gq p l e (rq 3 63) s m args below meth c G A 10 0 0 (MQ below (QK G (some (.int R0.1)) (u7 G T0 T1 R0.2 ++ (u1 G Ob0 Ob1 Ob2 Ob3 Ob4 Ob5 Ob)) A) args s 0 0 A) 62 [(0, .ref T0), (1, .ref Ob0), (2, .int x2), (3, .int x3), (4, .int x4), (5, .int x5), (6, .int x6), (7, .int x7), (8, .int x8), (9, .int x9)] [] (u7 G T0 T1 T ++ (u1 G Ob0 Ob1 Ob2 Ob3 Ob4 Ob5 Ob)) := by
  intro n
  induction n with
  | zero => exact fun _ _ h => (tit_z h).elim
  | succ n ih =>
    intro x7 x9 h
    replace h : m7_leaseCost_B62 T Ob x2 x3 x4 x5 x6 x8 rc35 (tit (m7_leaseCost_L62 T Ob x2 x3 x4 x5 x6 x8 rc35) n) x7 x9 = some R0 := h
    unfold m7_leaseCost_B62 at h
    refine go_iload C dX7_leaseCost_62 9 rfl ?_
    refine go_iload C dX7_leaseCost_64 8 rfl ?_
    refine go_icmp_gt (tgt := 133) C h dX7_leaseCost_66 rfl (fun h => ?_) (fun h => ?_)
    · refine go_aload_n C dX7_leaseCost_133 0 rfl ?_
      refine go_get (v := .ref T1) C ffX7_9 dX7_leaseCost_134 0 rfl rfl ?_
      refine go_iload C dX7_leaseCost_137 6 rfl ?_
      refine go_iload C dX7_leaseCost_139 7 rfl ?_
      refine go_iastoreG (f := (g7_settled T)) (w' := u7 G T0 T1 (s7_settled T (upd (g7_settled T) (Int32.toNatClampNeg x6) x7)) ++ (u1 G Ob0 Ob1 Ob2 Ob3 Ob4 Ob5 Ob)) C h dX7_leaseCost_141 1 rfl (setL (Nat.le_of_ble_eq_true rfl) z7_settled) (fun h => ?_)
      refine go_iincN (lf := fun v14 => [(6, .int v14), (0, .ref T0), (1, .ref Ob0), (2, .int x2), (3, .int x3), (4, .int x4), (5, .int x5), (7, .int x7), (8, .int x8), (9, .int x9)]) C h dX7_leaseCost_142 6 rfl rfl (by decide) (fun _ => rfl) (fun v14 h => ?_)
      refine go_goto (tgt := 35) C dX7_leaseCost_145 rfl ?_
      exact go_lv [1, 2, 3, 4, 5, 6, 0] rfl (hr35 v14 (s7_settled T (upd (g7_settled T) (Int32.toNatClampNeg x6) x7)) h)
    · refine go_iload_n C dX7_leaseCost_69 3 rfl ?_
      refine go_iload C dX7_leaseCost_70 9 rfl ?_
      obtain ⟨r15, k16, h⟩ := tbd_e h
      refine go_callS0 C cfX7_41 (wr23 _ (List.mem_of_getElem? (i := 17) rfl)) (m7_isOpen_k l G x3 x9 r15 k16) dX7_leaseCost_72 (by decide) ⟨Nat.zero_le _, Nat.zero_le _⟩ rfl rfl (Nat.le_of_ble_eq_true rfl) ?_
      refine go_if_eq (tgt := 94) C h dX7_leaseCost_75 rfl (fun h => ?_) (fun h => ?_)
      · refine go_iload C dX7_leaseCost_94 4 rfl ?_
        refine go_iload C dX7_leaseCost_96 9 rfl ?_
        obtain ⟨r17, k18, h⟩ := tbd_e h
        refine go_callS0 C cfX7_41 (wr23 _ (List.mem_of_getElem? (i := 17) rfl)) (m7_isOpen_k l G x4 x9 r17 k18) dX7_leaseCost_98 (by decide) ⟨Nat.zero_le _, Nat.zero_le _⟩ rfl rfl (Nat.le_of_ble_eq_true rfl) ?_
        refine go_if_eq (tgt := 127) C h dX7_leaseCost_101 rfl (fun h => ?_) (fun h => ?_)
        · refine go_iincN (lf := fun v19 => [(9, .int v19), (0, .ref T0), (1, .ref Ob0), (2, .int x2), (3, .int x3), (4, .int x4), (5, .int x5), (6, .int x6), (7, .int x7), (8, .int x8)]) C h dX7_leaseCost_127 9 rfl rfl (by decide) (fun _ => rfl) (fun v19 h => ?_)
          refine go_goto (tgt := 62) C dX7_leaseCost_130 rfl ?_
          exact go_lv [1, 2, 3, 4, 5, 6, 7, 8, 9, 0] rfl (ih x7 v19 h)
        · refine go_iload C dX7_leaseCost_104 7 rfl ?_
          refine go_aload_n C dX7_leaseCost_106 0 rfl ?_
          refine go_iload C dX7_leaseCost_107 9 rfl ?_
          obtain ⟨r20, k21, h⟩ := tbd_e h
          refine go_callV (q0 := 0) (wr := u1 G Ob0 Ob1 Ob2 Ob3 Ob4 Ob5 Ob) (w' := u7 G T0 T1 T ++ (u1 G Ob0 Ob1 Ob2 Ob3 Ob4 Ob5 Ob)) C cfX7_25 viX7_settledAt (m7_settledAt_k l G T0 T1 T x9 r20 k21) dX7_leaseCost_109 (by decide) ⟨Nat.zero_le _, Nat.zero_le _⟩ rfl rfl (Nat.le_of_ble_eq_true rfl) rfl [0, 1] [2, 3, 4, 5, 6, 7] [6, 7, 0, 1, 2, 3, 4, 5] rfl rfl (by decide) rfl ?_
          refine go_sipush (v := 4096) C dX7_leaseCost_112 rfl ?_
          refine go_iadd C dX7_leaseCost_115 ?_
          refine go_iload C dX7_leaseCost_116 9 rfl ?_
          obtain ⟨r22, k23, h⟩ := tbd_e h
          refine go_callSN0 C cfX7_53 (wr7 _ (List.mem_of_getElem? (i := 14) rfl)) (m9_bitOf_k l G x9 r22 k23) dX7_leaseCost_118 (by decide) ⟨Nat.zero_le _, Nat.zero_le _⟩ rfl rfl (Nat.le_of_ble_eq_true rfl) ?_
          refine go_iadd C dX7_leaseCost_121 ?_
          refine go_mmin C cmX7_35 dX7_leaseCost_122 (by decide) (Nat.le_of_ble_eq_true rfl) (Nat.zero_le _) (Nat.zero_le _) ?_
          refine go_istoreN (lf := fun v24 => [(7, .int v24), (0, .ref T0), (1, .ref Ob0), (2, .int x2), (3, .int x3), (4, .int x4), (5, .int x5), (6, .int x6), (8, .int x8), (9, .int x9)]) C h dX7_leaseCost_125 (by decide) (fun _ => rfl) (fun v24 h => ?_)
          refine go_iincN (lf := fun v25 => [(9, .int v25), (7, .int v24), (0, .ref T0), (1, .ref Ob0), (2, .int x2), (3, .int x3), (4, .int x4), (5, .int x5), (6, .int x6), (8, .int x8)]) C h dX7_leaseCost_127 9 rfl rfl (by decide) (fun _ => rfl) (fun v25 h => ?_)
          refine go_goto (tgt := 62) C dX7_leaseCost_130 rfl ?_
          exact go_lv [2, 3, 4, 5, 6, 7, 8, 1, 9, 0] rfl (ih v24 v25 h)
      · refine go_iload C dX7_leaseCost_78 7 rfl ?_
        refine go_aload_n C dX7_leaseCost_80 0 rfl ?_
        refine go_iload C dX7_leaseCost_81 9 rfl ?_
        obtain ⟨r26, k27, h⟩ := tbd_e h
        refine go_callV (q0 := 0) (wr := u1 G Ob0 Ob1 Ob2 Ob3 Ob4 Ob5 Ob) (w' := u7 G T0 T1 T ++ (u1 G Ob0 Ob1 Ob2 Ob3 Ob4 Ob5 Ob)) C cfX7_25 viX7_settledAt (m7_settledAt_k l G T0 T1 T x9 r26 k27) dX7_leaseCost_83 (by decide) ⟨Nat.zero_le _, Nat.zero_le _⟩ rfl rfl (Nat.le_of_ble_eq_true rfl) rfl [0, 1] [2, 3, 4, 5, 6, 7] [6, 7, 0, 1, 2, 3, 4, 5] rfl rfl (by decide) rfl ?_
        refine go_mmin C cmX7_35 dX7_leaseCost_86 (by decide) (Nat.le_of_ble_eq_true rfl) (Nat.zero_le _) (Nat.zero_le _) ?_
        refine go_istoreN (lf := fun v28 => [(7, .int v28), (0, .ref T0), (1, .ref Ob0), (2, .int x2), (3, .int x3), (4, .int x4), (5, .int x5), (6, .int x6), (8, .int x8), (9, .int x9)]) C h dX7_leaseCost_89 (by decide) (fun _ => rfl) (fun v28 h => ?_)
        refine go_goto (tgt := 127) C dX7_leaseCost_91 rfl ?_
        refine go_iincN (lf := fun v29 => [(9, .int v29), (7, .int v28), (0, .ref T0), (1, .ref Ob0), (2, .int x2), (3, .int x3), (4, .int x4), (5, .int x5), (6, .int x6), (8, .int x8)]) C h dX7_leaseCost_127 9 rfl rfl (by decide) (fun _ => rfl) (fun v29 h => ?_)
        refine go_goto (tgt := 62) C dX7_leaseCost_130 rfl ?_
        exact go_lv [2, 3, 4, 5, 6, 7, 8, 1, 9, 0] rfl (ih v28 v29 h)

set_option maxRecDepth 100000 in
set_option maxHeartbeats 4000000 in
theorem m7_leaseCost_L35_k {p : Program} {l : Launch} {e : Env} {s : State} {m : MethodId} {args : Array Value} {below : List Frame} {meth : Method} {c : Code} {G : gG} {A : Nat → Prop} (C : Cx p e s m args meth c G RX7 cX7_leaseCost 10 (some .int) A) (T0 T1 Ob0 Ob1 Ob2 Ob3 Ob4 Ob5 : Nat) (Ob : SX1) (x2 : Int32) (x3 : Int32) (x4 : Int32) (x5 : Int32) (R0 : Int32 × SX7)  : ∀ (n : Nat) (x6 : Int32) (T : SX7), tit (m7_leaseCost_L35 Ob x2 x3 x4 x5) n (x6, T) = some R0 → Gq p l e (rq 3 63) s m args below meth c G A 10 0 0 (MQ below (QK G (some (.int R0.1)) (u7 G T0 T1 R0.2 ++ (u1 G Ob0 Ob1 Ob2 Ob3 Ob4 Ob5 Ob)) A) args s 0 0 A) 35 [(0, .ref T0), (1, .ref Ob0), (2, .int x2), (3, .int x3), (4, .int x4), (5, .int x5), (6, .int x6)] [] (u7 G T0 T1 T ++ (u1 G Ob0 Ob1 Ob2 Ob3 Ob4 Ob5 Ob)) := by
  intro n
  induction n with
  | zero => exact fun _ _ h => (tit_z h).elim
  | succ n ih =>
    intro x6 T h
    replace h : m7_leaseCost_B35 Ob x2 x3 x4 x5 (tit (m7_leaseCost_L35 Ob x2 x3 x4 x5) n) x6 T = some R0 := h
    unfold m7_leaseCost_B35 at h
    refine go_iload C dX7_leaseCost_35 6 rfl ?_
    refine go_if_lt (tgt := 148) C h dX7_leaseCost_37 rfl (fun h => ?_) (fun h => ?_)
    · refine go_aload_n C dX7_leaseCost_148 0 rfl ?_
      refine go_aload_n C dX7_leaseCost_149 1 rfl ?_
      refine go_iload_n C dX7_leaseCost_150 2 rfl ?_
      obtain ⟨r8, k9, h⟩ := tbd_e h
      refine go_callV (q0 := 2) (wr := u7 G T0 T1 T) (w' := u7 G T0 T1 T ++ (u1 G Ob0 Ob1 Ob2 Ob3 Ob4 Ob5 Ob)) C cfX7_19 viX1_placeOf (m1_placeOf_k l G Ob0 Ob1 Ob2 Ob3 Ob4 Ob5 Ob x2 r8 k9) dX7_leaseCost_151 (by decide) ⟨Nat.zero_le _, Nat.zero_le _⟩ rfl rfl (Nat.le_of_ble_eq_true rfl) rfl [2, 3, 4, 5, 6, 7] [0, 1] [0, 1, 2, 3, 4, 5, 6, 7] rfl rfl (by decide) rfl ?_
      obtain ⟨r10, k11, h⟩ := tbd_e h
      refine go_callV (q0 := 0) (wr := u1 G Ob0 Ob1 Ob2 Ob3 Ob4 Ob5 Ob) (w' := u7 G T0 T1 T ++ (u1 G Ob0 Ob1 Ob2 Ob3 Ob4 Ob5 Ob)) C cfX7_25 viX7_settledAt (m7_settledAt_k l G T0 T1 T r8 r10 k11) dX7_leaseCost_154 (by decide) ⟨Nat.zero_le _, Nat.zero_le _⟩ rfl rfl (Nat.le_of_ble_eq_true rfl) rfl [0, 1] [2, 3, 4, 5, 6, 7] [6, 7, 0, 1, 2, 3, 4, 5] rfl rfl (by decide) rfl ?_
      cases h
      exact go_iret C dX7_leaseCost_157 rfl rfl
    · refine go_ldc (v := 1000000) C dX7_leaseCost_40 (wr23 _ (List.mem_of_getElem? (i := 6) rfl)) ?_
      refine go_istore (lv' := [(7, .int (1000000 : Int32)), (0, .ref T0), (1, .ref Ob0), (2, .int x2), (3, .int x3), (4, .int x4), (5, .int x5), (6, .int x6)]) C dX7_leaseCost_42 (by decide) rfl ?_
      refine go_iload C dX7_leaseCost_44 7 rfl ?_
      refine go_iload C dX7_leaseCost_46 6 rfl ?_
      refine go_iadd C dX7_leaseCost_48 ?_
      refine go_bipush (v := 13) C dX7_leaseCost_49 rfl ?_
      refine go_mmin C cmX7_35 dX7_leaseCost_51 (by decide) (Nat.le_of_ble_eq_true rfl) (Nat.zero_le _) (Nat.zero_le _) ?_
      refine go_istoreN (lf := fun v12 => [(8, .int v12), (7, .int (1000000 : Int32)), (0, .ref T0), (1, .ref Ob0), (2, .int x2), (3, .int x3), (4, .int x4), (5, .int x5), (6, .int x6)]) C h dX7_leaseCost_54 (by decide) (fun _ => rfl) (fun v12 h => ?_)
      refine go_iload C dX7_leaseCost_56 8 rfl ?_
      refine go_iconst (v := 1) C dX7_leaseCost_58 rfl ?_
      refine go_iadd C dX7_leaseCost_59 ?_
      refine go_istoreN (lf := fun v13 => [(9, .int v13), (8, .int v12), (7, .int (1000000 : Int32)), (0, .ref T0), (1, .ref Ob0), (2, .int x2), (3, .int x3), (4, .int x4), (5, .int x5), (6, .int x6)]) C h dX7_leaseCost_60 (by decide) (fun _ => rfl) (fun v13 h => ?_)
      exact go_lv [3, 4, 5, 6, 7, 8, 9, 2, 1, 0] rfl (m7_leaseCost_L62_k C T0 T1 Ob0 Ob1 Ob2 Ob3 Ob4 Ob5 T Ob x2 x3 x4 x5 x6 v12 R0 _ (fun z0 z1 h => ih z0 z1 h) FU (1000000 : Int32) v13 h)

set_option maxRecDepth 100000 in
set_option maxHeartbeats 4000000 in
theorem m7_leaseCost_k (l : Launch) (G : gG) (T0 T1 Ob0 Ob1 Ob2 Ob3 Ob4 Ob5 : Nat) (T : SX7) (Ob : SX1) (a2 : Int32) (R0 : Int32 × SX7) (h : m7_leaseCost T Ob a2 = some R0) : KK l G yX7_leaseCost cX7_leaseCost 10 (some .int) 3 63 [.ref T0, .ref Ob0, .int a2] (u7 G T0 T1 T ++ (u1 G Ob0 Ob1 Ob2 Ob3 Ob4 Ob5 Ob)) (some (.int R0.1)) (u7 G T0 T1 R0.2 ++ (u1 G Ob0 Ob1 Ob2 Ob3 Ob4 Ob5 Ob)) := by
  refine KK_intro (own := RX7) (by decide +kernel) rfl (Nat.le_of_ble_eq_true rfl) rfl ?_
  intro p e s m args below meth c A C
  unfold m7_leaseCost at h
  refine go_aload_n C dX7_leaseCost_0 1 rfl ?_
  refine go_iload_n C dX7_leaseCost_1 2 rfl ?_
  obtain ⟨r1, k2, h⟩ := tbd_e h
  refine go_callV (q0 := 2) (wr := u7 G T0 T1 T) (w' := u7 G T0 T1 T ++ (u1 G Ob0 Ob1 Ob2 Ob3 Ob4 Ob5 Ob)) C cfX7_29 viX1_rungsOpenTo (m1_rungsOpenTo_k l G Ob0 Ob1 Ob2 Ob3 Ob4 Ob5 Ob a2 r1 k2) dX7_leaseCost_2 (by decide) ⟨Nat.zero_le _, Nat.zero_le _⟩ rfl rfl (Nat.le_of_ble_eq_true rfl) rfl [2, 3, 4, 5, 6, 7] [0, 1] [0, 1, 2, 3, 4, 5, 6, 7] rfl rfl (by decide) rfl ?_
  refine go_sipush (v := 4096) C dX7_leaseCost_5 rfl ?_
  refine go_ior C dX7_leaseCost_8 ?_
  refine go_istore_nN (lf := fun v3 => [(3, .int v3), (0, .ref T0), (1, .ref Ob0), (2, .int a2)]) C h dX7_leaseCost_9 (by decide) (fun _ => rfl) (fun v3 h => ?_)
  refine go_aload_n C dX7_leaseCost_10 2 rfl ?_
  obtain ⟨r4, k5, h⟩ := tbd_e h
  refine go_callV (q0 := 2) (wr := u7 G T0 T1 T) (w' := u7 G T0 T1 T ++ (u1 G Ob0 Ob1 Ob2 Ob3 Ob4 Ob5 Ob)) C cfX7_49 viX1_rungsToLease (m1_rungsToLease_k l G Ob0 Ob1 Ob2 Ob3 Ob4 Ob5 Ob r4 k5) dX7_leaseCost_11 (by decide) ⟨Nat.zero_le _, Nat.zero_le _⟩ rfl rfl (Nat.le_of_ble_eq_true rfl) rfl [2, 3, 4, 5, 6, 7] [0, 1] [0, 1, 2, 3, 4, 5, 6, 7] rfl rfl (by decide) rfl ?_
  refine go_istore (lv' := [(4, .int r4), (3, .int v3), (0, .ref T0), (1, .ref Ob0), (2, .int a2)]) C dX7_leaseCost_14 (by decide) rfl ?_
  refine go_aload_n C dX7_leaseCost_16 3 rfl ?_
  refine go_iload_n C dX7_leaseCost_17 4 rfl ?_
  obtain ⟨r6, k7, h⟩ := tbd_e h
  refine go_callV (q0 := 2) (wr := u7 G T0 T1 T) (w' := u7 G T0 T1 T ++ (u1 G Ob0 Ob1 Ob2 Ob3 Ob4 Ob5 Ob)) C cfX7_32 viX1_strideOf (m1_strideOf_k l G Ob0 Ob1 Ob2 Ob3 Ob4 Ob5 Ob a2 r6 k7) dX7_leaseCost_18 (by decide) ⟨Nat.zero_le _, Nat.zero_le _⟩ rfl rfl (Nat.le_of_ble_eq_true rfl) rfl [2, 3, 4, 5, 6, 7] [0, 1] [0, 1, 2, 3, 4, 5, 6, 7] rfl rfl (by decide) rfl ?_
  refine go_istore (lv' := [(5, .int r6), (4, .int r4), (3, .int v3), (0, .ref T0), (1, .ref Ob0), (2, .int a2)]) C dX7_leaseCost_21 (by decide) rfl ?_
  refine go_aload_n C dX7_leaseCost_23 3 rfl ?_
  refine go_get (v := .ref T1) C ffX7_9 dX7_leaseCost_24 0 rfl rfl ?_
  refine go_bipush (v := 13) C dX7_leaseCost_27 rfl ?_
  refine go_iconst (v := 0) C dX7_leaseCost_29 rfl ?_
  refine go_iastore (f := (g7_settled T)) (w' := u7 G T0 T1 (s7_settled T (upd (g7_settled T) (Int32.toNatClampNeg (13 : Int32)) (0 : Int32))) ++ (u1 G Ob0 Ob1 Ob2 Ob3 Ob4 Ob5 Ob)) C dX7_leaseCost_30 1 rfl (by decide) (setL (Nat.le_of_ble_eq_true rfl) z7_settled) ?_
  refine go_bipush (v := 12) C dX7_leaseCost_31 rfl ?_
  refine go_istore (lv' := [(6, .int (12 : Int32)), (5, .int r6), (4, .int r4), (3, .int v3), (0, .ref T0), (1, .ref Ob0), (2, .int a2)]) C dX7_leaseCost_33 (by decide) rfl ?_
  exact go_lv [4, 5, 6, 3, 2, 1, 0] rfl (m7_leaseCost_L35_k C T0 T1 Ob0 Ob1 Ob2 Ob3 Ob4 Ob5 Ob a2 v3 r4 r6 R0  FU (12 : Int32) (s7_settled T (upd (g7_settled T) (Int32.toNatClampNeg (13 : Int32)) (0 : Int32))) h)

set_option maxRecDepth 100000 in
set_option maxHeartbeats 4000000 in
theorem m7_fewestLeases_k (l : Launch) (G : gG) (T0 T1 Ob0 Ob1 Ob2 Ob3 Ob4 Ob5 : Nat) (T : SX7) (Ob : SX1) (a2 : Int32) (R0 : Int32 × SX7) (h : m7_fewestLeases T Ob a2 = some R0) : KK l G yX7_fewestLeases cX7_fewestLeases 4 (some .int) 4 92 [.ref T0, .ref Ob0, .int a2] (u7 G T0 T1 T ++ (u1 G Ob0 Ob1 Ob2 Ob3 Ob4 Ob5 Ob)) (some (.int R0.1)) (u7 G T0 T1 R0.2 ++ (u1 G Ob0 Ob1 Ob2 Ob3 Ob4 Ob5 Ob)) := by
  refine KK_intro (own := RX7) (by decide +kernel) rfl (Nat.le_of_ble_eq_true rfl) rfl ?_
  intro p e s m args below meth c A C
  unfold m7_fewestLeases at h
  refine go_aload_n C dX7_fewestLeases_0 0 rfl ?_
  refine go_aload_n C dX7_fewestLeases_1 1 rfl ?_
  refine go_iload_n C dX7_fewestLeases_2 2 rfl ?_
  obtain ⟨r1, k2, h⟩ := tbd_e h
  refine go_callV (q0 := 0) (wr := ([] : va_W)) (w' := u7 G T0 T1 r1.2 ++ (u1 G Ob0 Ob1 Ob2 Ob3 Ob4 Ob5 Ob)) C cfX7_45 viX7_leaseCost (m7_leaseCost_k l G T0 T1 Ob0 Ob1 Ob2 Ob3 Ob4 Ob5 T Ob a2 r1 k2) dX7_fewestLeases_3 (by decide) ⟨Nat.zero_le _, Nat.zero_le _⟩ rfl rfl (Nat.le_of_ble_eq_true rfl) rfl [0, 1, 2, 3, 4, 5, 6, 7] [] [0, 1, 2, 3, 4, 5, 6, 7] rfl rfl (by decide) rfl ?_
  refine go_istore_nN (lf := fun v3 => [(3, .int v3), (0, .ref T0), (1, .ref Ob0), (2, .int a2)]) C h dX7_fewestLeases_6 (by decide) (fun _ => rfl) (fun v3 h => ?_)
  refine go_iload_n C dX7_fewestLeases_7 0 rfl ?_
  refine go_ldc (v := 1000000) C dX7_fewestLeases_8 (wr23 _ (List.mem_of_getElem? (i := 6) rfl)) ?_
  refine go_icmp_lt (tgt := 18) C h dX7_fewestLeases_10 rfl (fun h => ?_) (fun h => ?_)
  · refine go_iload_n C dX7_fewestLeases_18 0 rfl ?_
    refine go_sipush (v := 4096) C dX7_fewestLeases_19 rfl ?_
    refine go_idiv C dX7_fewestLeases_22 (by decide) ?_
    cases h
    exact go_iret C dX7_fewestLeases_23 rfl rfl
  · refine go_bipush (v := -6) C dX7_fewestLeases_13 rfl ?_
    refine go_goto (tgt := 23) C dX7_fewestLeases_15 rfl ?_
    cases h
    exact go_iret C dX7_fewestLeases_23 rfl rfl

set_option maxRecDepth 100000 in
set_option maxHeartbeats 4000000 in
theorem m7_leastLeased_k (l : Launch) (G : gG) (T0 T1 Ob0 Ob1 Ob2 Ob3 Ob4 Ob5 : Nat) (T : SX7) (Ob : SX1) (a2 : Int32) (R0 : Int32 × SX7) (h : m7_leastLeased T Ob a2 = some R0) : KK l G yX7_leastLeased cX7_leastLeased 4 (some .int) 4 92 [.ref T0, .ref Ob0, .int a2] (u7 G T0 T1 T ++ (u1 G Ob0 Ob1 Ob2 Ob3 Ob4 Ob5 Ob)) (some (.int R0.1)) (u7 G T0 T1 R0.2 ++ (u1 G Ob0 Ob1 Ob2 Ob3 Ob4 Ob5 Ob)) := by
  refine KK_intro (own := RX7) (by decide +kernel) rfl (Nat.le_of_ble_eq_true rfl) rfl ?_
  intro p e s m args below meth c A C
  unfold m7_leastLeased at h
  refine go_aload_n C dX7_leastLeased_0 0 rfl ?_
  refine go_aload_n C dX7_leastLeased_1 1 rfl ?_
  refine go_iload_n C dX7_leastLeased_2 2 rfl ?_
  obtain ⟨r1, k2, h⟩ := tbd_e h
  refine go_callV (q0 := 0) (wr := ([] : va_W)) (w' := u7 G T0 T1 r1.2 ++ (u1 G Ob0 Ob1 Ob2 Ob3 Ob4 Ob5 Ob)) C cfX7_45 viX7_leaseCost (m7_leaseCost_k l G T0 T1 Ob0 Ob1 Ob2 Ob3 Ob4 Ob5 T Ob a2 r1 k2) dX7_leastLeased_3 (by decide) ⟨Nat.zero_le _, Nat.zero_le _⟩ rfl rfl (Nat.le_of_ble_eq_true rfl) rfl [0, 1, 2, 3, 4, 5, 6, 7] [] [0, 1, 2, 3, 4, 5, 6, 7] rfl rfl (by decide) rfl ?_
  refine go_istore_nN (lf := fun v3 => [(3, .int v3), (0, .ref T0), (1, .ref Ob0), (2, .int a2)]) C h dX7_leastLeased_6 (by decide) (fun _ => rfl) (fun v3 h => ?_)
  refine go_iload_n C dX7_leastLeased_7 0 rfl ?_
  refine go_ldc (v := 1000000) C dX7_leastLeased_8 (wr23 _ (List.mem_of_getElem? (i := 6) rfl)) ?_
  refine go_icmp_lt (tgt := 18) C h dX7_leastLeased_10 rfl (fun h => ?_) (fun h => ?_)
  · refine go_iload_n C dX7_leastLeased_18 0 rfl ?_
    refine go_sipush (v := 4096) C dX7_leastLeased_19 rfl ?_
    refine go_irem C dX7_leastLeased_22 (by decide) ?_
    cases h
    exact go_iret C dX7_leastLeased_23 rfl rfl
  · refine go_bipush (v := -6) C dX7_leastLeased_13 rfl ?_
    refine go_goto (tgt := 23) C dX7_leastLeased_15 rfl ?_
    cases h
    exact go_iret C dX7_leastLeased_23 rfl rfl

set_option maxRecDepth 100000 in
set_option maxHeartbeats 4000000 in
theorem m8_nextPlace_J34_k {p : Program} {l : Launch} {e : Env} {s : State} {m : MethodId} {args : Array Value} {below : List Frame} {meth : Method} {c : Code} {G : gG} {A : Nat → Prop} (C : Cx p e s m args meth c G RX8 cX8_nextPlace 7 (some .int) A) (Oa0 Oa1 Oa2 Oa3 Oa4 Oa5 : Nat) (Oa : SX1) (x1 : Int32) (x2 : Int32) (x3 : Int32) (x4 : Int32) (x5 : Int32) (y0 : Int32) (y1 : Int32) (R0 : Int32) (rc10 : Int32 → Option (Int32)) (hr10 : ∀ (x5 : Int32), rc10 x5 = some R0 → Gq p l e (rq 2 41) s m args below meth c G A 7 0 0 (MQ below (QK G (some (.int R0)) (u1 G Oa0 Oa1 Oa2 Oa3 Oa4 Oa5 Oa) A) args s 0 0 A) 10 [(0, .ref Oa0), (1, .int x1), (2, .int x2), (3, .int x3), (4, .int x4), (5, .int x5)] [] (u1 G Oa0 Oa1 Oa2 Oa3 Oa4 Oa5 Oa)) (h : m8_nextPlace_J34 Oa x1 x2 x3 x4 x5 y0 y1 rc10 = some R0) : Gq p l e (rq 2 41) s m args below meth c G A 7 0 0 (MQ below (QK G (some (.int R0)) (u1 G Oa0 Oa1 Oa2 Oa3 Oa4 Oa5 Oa) A) args s 0 0 A) 34 [(0, .ref Oa0), (1, .int x1), (2, .int x2), (3, .int x3), (4, .int x4), (5, .int x5)] [.int y1, .int y0] (u1 G Oa0 Oa1 Oa2 Oa3 Oa4 Oa5 Oa) := by
  unfold m8_nextPlace_J34 at h
  refine go_iadd C dX8_nextPlace_34 ?_
  refine go_istoreN (lf := fun v3 => [(6, .int v3), (0, .ref Oa0), (1, .int x1), (2, .int x2), (3, .int x3), (4, .int x4), (5, .int x5)]) C h dX8_nextPlace_35 (by decide) (fun _ => rfl) (fun v3 h => ?_)
  refine go_iload C dX8_nextPlace_37 0 rfl ?_
  refine go_bipush (v := 13) C dX8_nextPlace_39 rfl ?_
  refine go_icmp_eq (tgt := 54) C h dX8_nextPlace_41 rfl (fun h => ?_) (fun h => ?_)
  · refine go_iload C dX8_nextPlace_54 0 rfl ?_
    cases h
    exact go_iret C dX8_nextPlace_56 rfl rfl
  · refine go_aload_n C dX8_nextPlace_44 1 rfl ?_
    refine go_iload_n C dX8_nextPlace_45 2 rfl ?_
    refine go_iload C dX8_nextPlace_46 0 rfl ?_
    obtain ⟨r4, k5, h⟩ := tbd_e h
    refine go_callV (q0 := 0) (wr := ([] : va_W)) (w' := u1 G Oa0 Oa1 Oa2 Oa3 Oa4 Oa5 Oa) C cfX8_43 viX1_mayBeOn (m1_mayBeOn_k l G Oa0 Oa1 Oa2 Oa3 Oa4 Oa5 Oa x1 v3 r4 k5) dX8_nextPlace_48 (by decide) ⟨Nat.zero_le _, Nat.zero_le _⟩ rfl rfl (Nat.le_of_ble_eq_true rfl) rfl [0, 1, 2, 3, 4, 5] [] [0, 1, 2, 3, 4, 5] rfl rfl (by decide) rfl ?_
    refine go_if_eq (tgt := 57) C h dX8_nextPlace_51 rfl (fun h => ?_) (fun h => ?_)
    · refine go_iincN (lf := fun v6 => [(5, .int v6), (6, .int v3), (0, .ref Oa0), (1, .int x1), (2, .int x2), (3, .int x3), (4, .int x4)]) C h dX8_nextPlace_57 6 rfl rfl (by decide) (fun _ => rfl) (fun v6 h => ?_)
      refine go_goto (tgt := 10) C dX8_nextPlace_60 rfl ?_
      exact go_lv [2, 3, 4, 5, 6, 0] rfl (hr10 v6 h)
    · refine go_iload C dX8_nextPlace_54 0 rfl ?_
      cases h
      exact go_iret C dX8_nextPlace_56 rfl rfl

set_option maxRecDepth 100000 in
set_option maxHeartbeats 4000000 in
theorem m8_nextPlace_L10_k {p : Program} {l : Launch} {e : Env} {s : State} {m : MethodId} {args : Array Value} {below : List Frame} {meth : Method} {c : Code} {G : gG} {A : Nat → Prop} (C : Cx p e s m args meth c G RX8 cX8_nextPlace 7 (some .int) A) (Oa0 Oa1 Oa2 Oa3 Oa4 Oa5 : Nat) (Oa : SX1) (x1 : Int32) (x2 : Int32) (x3 : Int32) (x4 : Int32) (R0 : Int32)  : ∀ (n : Nat) (x5 : Int32), tit (m8_nextPlace_L10 Oa x1 x2 x3 x4) n x5 = some R0 → Gq p l e (rq 2 41) s m args below meth c G A 7 0 0 (MQ below (QK G (some (.int R0)) (u1 G Oa0 Oa1 Oa2 Oa3 Oa4 Oa5 Oa) A) args s 0 0 A) 10 [(0, .ref Oa0), (1, .int x1), (2, .int x2), (3, .int x3), (4, .int x4), (5, .int x5)] [] (u1 G Oa0 Oa1 Oa2 Oa3 Oa4 Oa5 Oa) := by
  intro n
  induction n with
  | zero => exact fun _ h => (tit_z h).elim
  | succ n ih =>
    intro x5 h
    replace h : m8_nextPlace_B10 Oa x1 x2 x3 x4 (tit (m8_nextPlace_L10 Oa x1 x2 x3 x4) n) x5 = some R0 := h
    unfold m8_nextPlace_B10 at h
    refine go_iload C dX8_nextPlace_10 5 rfl ?_
    refine go_iload C dX8_nextPlace_12 4 rfl ?_
    refine go_icmp_gt (tgt := 63) C h dX8_nextPlace_14 rfl (fun h => ?_) (fun h => ?_)
    · refine go_iload_n C dX8_nextPlace_63 3 rfl ?_
      cases h
      exact go_iret C dX8_nextPlace_64 rfl rfl
    · refine go_iload_n C dX8_nextPlace_17 3 rfl ?_
      refine go_iload_n C dX8_nextPlace_18 2 rfl ?_
      refine go_if_ne (tgt := 32) C h dX8_nextPlace_19 rfl (fun h => ?_) (fun h => ?_)
      · refine go_iload C dX8_nextPlace_32 5 rfl ?_
        exact go_lv [0, 1, 2, 3, 4, 5] rfl (m8_nextPlace_J34_k C Oa0 Oa1 Oa2 Oa3 Oa4 Oa5 Oa x1 x2 x3 x4 x5 x3 x5 R0 _ (fun z0 h => ih z0 h) h)
      · refine go_iload C dX8_nextPlace_22 4 rfl ?_
        refine go_iconst (v := 1) C dX8_nextPlace_24 rfl ?_
        refine go_iadd C dX8_nextPlace_25 ?_
        refine go_iload C dX8_nextPlace_26 5 rfl ?_
        refine go_isub C dX8_nextPlace_28 ?_
        refine go_goto (tgt := 34) C dX8_nextPlace_29 rfl ?_
        exact go_lv [0, 1, 2, 3, 4, 5] rfl (m8_nextPlace_J34_k C Oa0 Oa1 Oa2 Oa3 Oa4 Oa5 Oa x1 x2 x3 x4 x5 x3 ((x4 + (1 : Int32)) - x5) R0 _ (fun z0 h => ih z0 h) h)

set_option maxRecDepth 100000 in
set_option maxHeartbeats 4000000 in
theorem m8_nextPlace_k (l : Launch) (G : gG) (Oa0 Oa1 Oa2 Oa3 Oa4 Oa5 : Nat) (Oa : SX1) (a1 : Int32) (a2 : Int32) (a3 : Int32) (R0 : Int32) (h : m8_nextPlace Oa a1 a2 a3 = some R0) : KK l G yX8_nextPlace cX8_nextPlace 7 (some .int) 2 41 [.ref Oa0, .int a1, .int a2, .int a3] (u1 G Oa0 Oa1 Oa2 Oa3 Oa4 Oa5 Oa) (some (.int R0)) (u1 G Oa0 Oa1 Oa2 Oa3 Oa4 Oa5 Oa) := by
  refine KK_intro (own := RX8) (by decide +kernel) rfl (Nat.le_of_ble_eq_true rfl) rfl ?_
  intro p e s m args below meth c A C
  unfold m8_nextPlace at h
  refine go_aload_n C dX8_nextPlace_0 0 rfl ?_
  refine go_iload_n C dX8_nextPlace_1 1 rfl ?_
  obtain ⟨r1, k2, h⟩ := tbd_e h
  refine go_callV (q0 := 0) (wr := ([] : va_W)) (w' := u1 G Oa0 Oa1 Oa2 Oa3 Oa4 Oa5 Oa) C cfX8_40 viX1_strideOf (m1_strideOf_k l G Oa0 Oa1 Oa2 Oa3 Oa4 Oa5 Oa a1 r1 k2) dX8_nextPlace_2 (by decide) ⟨Nat.zero_le _, Nat.zero_le _⟩ rfl rfl (Nat.le_of_ble_eq_true rfl) rfl [0, 1, 2, 3, 4, 5] [] [0, 1, 2, 3, 4, 5] rfl rfl (by decide) rfl ?_
  refine go_istore (lv' := [(4, .int r1), (0, .ref Oa0), (1, .int a1), (2, .int a2), (3, .int a3)]) C dX8_nextPlace_5 (by decide) rfl ?_
  refine go_iconst (v := 1) C dX8_nextPlace_7 rfl ?_
  refine go_istore (lv' := [(5, .int (1 : Int32)), (4, .int r1), (0, .ref Oa0), (1, .int a1), (2, .int a2), (3, .int a3)]) C dX8_nextPlace_8 (by decide) rfl ?_
  exact go_lv [2, 3, 4, 5, 1, 0] rfl (m8_nextPlace_L10_k C Oa0 Oa1 Oa2 Oa3 Oa4 Oa5 Oa a1 a2 a3 r1 R0  FU (1 : Int32) h)

set_option maxRecDepth 100000 in
set_option maxHeartbeats 4000000 in
theorem m8_trailOf_L8_k {p : Program} {l : Launch} {e : Env} {s : State} {m : MethodId} {args : Array Value} {below : List Frame} {meth : Method} {c : Code} {G : gG} {A : Nat → Prop} (C : Cx p e s m args meth c G RX8 cX8_trailOf 7 (some .int) A) (Oa0 Oa1 Oa2 Oa3 Oa4 Oa5 : Nat) (Oa : SX1) (x1 : Int32) (x2 : Int32) (R0 : Int32)  : ∀ (n : Nat) (x3 : Int32) (x4 : Int32) (x5 : Int32), tit (m8_trailOf_L8 Oa x1 x2) n (x3, x4, x5) = some R0 → Gq p l e (rq 3 67) s m args below meth c G A 7 0 0 (MQ below (QK G (some (.int R0)) (u1 G Oa0 Oa1 Oa2 Oa3 Oa4 Oa5 Oa) A) args s 0 0 A) 8 [(0, .ref Oa0), (1, .int x1), (2, .int x2), (3, .int x3), (4, .int x4), (5, .int x5)] [] (u1 G Oa0 Oa1 Oa2 Oa3 Oa4 Oa5 Oa) := by
  intro n
  induction n with
  | zero => exact fun _ _ _ h => (tit_z h).elim
  | succ n ih =>
    intro x3 x4 x5 h
    replace h : m8_trailOf_B8 Oa x1 x2 (tit (m8_trailOf_L8 Oa x1 x2) n) x3 x4 x5 = some R0 := h
    unfold m8_trailOf_B8 at h
    refine go_iload C dX8_trailOf_8 5 rfl ?_
    refine go_bipush (v := 13) C dX8_trailOf_10 rfl ?_
    refine go_icmp_ge (tgt := 59) C h dX8_trailOf_12 rfl (fun h => ?_) (fun h => ?_)
    · refine go_iload_n C dX8_trailOf_59 3 rfl ?_
      cases h
      exact go_iret C dX8_trailOf_60 rfl rfl
    · refine go_iload C dX8_trailOf_15 4 rfl ?_
      refine go_bipush (v := 13) C dX8_trailOf_17 rfl ?_
      refine go_icmp_ge (tgt := 59) C h dX8_trailOf_19 rfl (fun h => ?_) (fun h => ?_)
      · refine go_iload_n C dX8_trailOf_59 3 rfl ?_
        cases h
        exact go_iret C dX8_trailOf_60 rfl rfl
      · refine go_aload_n C dX8_trailOf_22 0 rfl ?_
        refine go_iload_n C dX8_trailOf_23 1 rfl ?_
        refine go_iload_n C dX8_trailOf_24 2 rfl ?_
        refine go_iload C dX8_trailOf_25 4 rfl ?_
        obtain ⟨r1, k2, h⟩ := tbd_e h
        refine go_callS (wr := ([] : va_W)) (w' := u1 G Oa0 Oa1 Oa2 Oa3 Oa4 Oa5 Oa) C cfX8_32 (wr29 _ (List.mem_of_getElem? (i := 14) rfl)) (m8_nextPlace_k l G Oa0 Oa1 Oa2 Oa3 Oa4 Oa5 Oa x1 x2 x4 r1 k2) dX8_trailOf_27 (by decide) ⟨Nat.zero_le _, Nat.zero_le _⟩ rfl rfl (Nat.le_of_ble_eq_true rfl) [0, 1, 2, 3, 4, 5] [] [0, 1, 2, 3, 4, 5] rfl rfl (by decide) rfl ?_
        refine go_istore (lv' := [(6, .int r1), (0, .ref Oa0), (1, .int x1), (2, .int x2), (3, .int x3), (4, .int x4), (5, .int x5)]) C dX8_trailOf_30 (by decide) rfl ?_
        refine go_iload C dX8_trailOf_32 0 rfl ?_
        refine go_iload C dX8_trailOf_34 5 rfl ?_
        refine go_icmp_ne (tgt := 41) C h dX8_trailOf_36 rfl (fun h => ?_) (fun h => ?_)
        · refine go_iload_n C dX8_trailOf_41 4 rfl ?_
          refine go_iload C dX8_trailOf_42 0 rfl ?_
          obtain ⟨r3, k4, h⟩ := tbd_e h
          refine go_callSN0 C cfX8_36 (wr7 _ (List.mem_of_getElem? (i := 14) rfl)) (m9_bitOf_k l G r1 r3 k4) dX8_trailOf_44 (by decide) ⟨Nat.zero_le _, Nat.zero_le _⟩ rfl rfl (Nat.le_of_ble_eq_true rfl) ?_
          refine go_ior C dX8_trailOf_47 ?_
          refine go_istore_nN (lf := fun v5 => [(3, .int v5), (6, .int r1), (0, .ref Oa0), (1, .int x1), (2, .int x2), (4, .int x4), (5, .int x5)]) C h dX8_trailOf_48 (by decide) (fun _ => rfl) (fun v5 h => ?_)
          refine go_iload C dX8_trailOf_49 1 rfl ?_
          refine go_istore (lv' := [(4, .int r1), (3, .int v5), (6, .int r1), (0, .ref Oa0), (1, .int x1), (2, .int x2), (5, .int x5)]) C dX8_trailOf_51 (by decide) rfl ?_
          refine go_iincN (lf := fun v6 => [(5, .int v6), (4, .int r1), (3, .int v5), (6, .int r1), (0, .ref Oa0), (1, .int x1), (2, .int x2)]) C h dX8_trailOf_53 6 rfl rfl (by decide) (fun _ => rfl) (fun v6 h => ?_)
          refine go_goto (tgt := 8) C dX8_trailOf_56 rfl ?_
          exact go_lv [4, 5, 6, 2, 1, 0] rfl (ih v5 r1 v6 h)
        · refine go_iload_n C dX8_trailOf_39 4 rfl ?_
          cases h
          exact go_iret C dX8_trailOf_40 rfl rfl

set_option maxRecDepth 100000 in
set_option maxHeartbeats 4000000 in
theorem m8_trailOf_k (l : Launch) (G : gG) (Oa0 Oa1 Oa2 Oa3 Oa4 Oa5 : Nat) (Oa : SX1) (a1 : Int32) (a2 : Int32) (R0 : Int32) (h : m8_trailOf Oa a1 a2 = some R0) : KK l G yX8_trailOf cX8_trailOf 7 (some .int) 3 67 [.ref Oa0, .int a1, .int a2] (u1 G Oa0 Oa1 Oa2 Oa3 Oa4 Oa5 Oa) (some (.int R0)) (u1 G Oa0 Oa1 Oa2 Oa3 Oa4 Oa5 Oa) := by
  refine KK_intro (own := RX8) (by decide +kernel) rfl (Nat.le_of_ble_eq_true rfl) rfl ?_
  intro p e s m args below meth c A C
  unfold m8_trailOf at h
  refine go_iconst (v := 0) C dX8_trailOf_0 rfl ?_
  refine go_istore_n (lv' := [(3, .int (0 : Int32)), (0, .ref Oa0), (1, .int a1), (2, .int a2)]) C dX8_trailOf_1 (by decide) rfl ?_
  refine go_iconst (v := 0) C dX8_trailOf_2 rfl ?_
  refine go_istore (lv' := [(4, .int (0 : Int32)), (3, .int (0 : Int32)), (0, .ref Oa0), (1, .int a1), (2, .int a2)]) C dX8_trailOf_3 (by decide) rfl ?_
  refine go_iconst (v := 0) C dX8_trailOf_5 rfl ?_
  refine go_istore (lv' := [(5, .int (0 : Int32)), (4, .int (0 : Int32)), (3, .int (0 : Int32)), (0, .ref Oa0), (1, .int a1), (2, .int a2)]) C dX8_trailOf_6 (by decide) rfl ?_
  exact go_lv [3, 4, 5, 2, 1, 0] rfl (m8_trailOf_L8_k C Oa0 Oa1 Oa2 Oa3 Oa4 Oa5 Oa a1 a2 R0  FU (0 : Int32) (0 : Int32) (0 : Int32) h)

set_option maxRecDepth 100000 in
set_option maxHeartbeats 4000000 in
theorem m8_find_L15_k {p : Program} {l : Launch} {e : Env} {s : State} {m : MethodId} {args : Array Value} {below : List Frame} {meth : Method} {c : Code} {G : gG} {A : Nat → Prop} (C : Cx p e s m args meth c G RX8 cX8_find 5 none A) (T0 T1 T2 Ob0 Ob1 Ob2 Ob3 Ob4 Ob5 : Nat) (Ob : SX1) (x2 : Int32) (R0 : SX8) (rc7 : Int32 × SX8 → Option (SX8)) (hr7 : ∀ (x2 : Int32) (Tz : SX8), rc7 (x2, Tz) = some R0 → Gq p l e (rq 4 93) s m args below meth c G A 5 0 0 (MQ below (QK G none (u8 G T0 T1 T2 R0 ++ (u1 G Ob0 Ob1 Ob2 Ob3 Ob4 Ob5 Ob)) A) args s 0 0 A) 7 [(0, .ref T0), (1, .ref Ob0), (2, .int x2)] [] (u8 G T0 T1 T2 Tz ++ (u1 G Ob0 Ob1 Ob2 Ob3 Ob4 Ob5 Ob))) : ∀ (n : Nat) (x3 : Int32) (T : SX8), tit (m8_find_L15 Ob x2 rc7) n (x3, T) = some R0 → Gq p l e (rq 4 93) s m args below meth c G A 5 0 0 (MQ below (QK G none (u8 G T0 T1 T2 R0 ++ (u1 G Ob0 Ob1 Ob2 Ob3 Ob4 Ob5 Ob)) A) args s 0 0 A) 15 [(0, .ref T0), (1, .ref Ob0), (2, .int x2), (3, .int x3)] [] (u8 G T0 T1 T2 T ++ (u1 G Ob0 Ob1 Ob2 Ob3 Ob4 Ob5 Ob)) := by
  intro n
  induction n with
  | zero => exact fun _ _ h => (tit_z h).elim
  | succ n ih =>
    intro x3 T h
    replace h : m8_find_B15 Ob x2 rc7 (tit (m8_find_L15 Ob x2 rc7) n) x3 T = some R0 := h
    unfold m8_find_B15 at h
    refine go_iload_n C dX8_find_15 3 rfl ?_
    refine go_iconst (v := 1) C dX8_find_16 rfl ?_
    refine go_icmp_gt (tgt := 95) C h dX8_find_17 rfl (fun h => ?_) (fun h => ?_)
    · refine go_iincN (lf := fun v1 => [(2, .int v1), (0, .ref T0), (1, .ref Ob0), (3, .int x3)]) C h dX8_find_95 2 rfl rfl (by decide) (fun _ => rfl) (fun v1 h => ?_)
      refine go_goto (tgt := 7) C dX8_find_98 rfl ?_
      exact go_lv [1, 2, 0] rfl (hr7 v1 T h)
    · refine go_aload_n C dX8_find_20 1 rfl ?_
      refine go_iload_n C dX8_find_21 2 rfl ?_
      refine go_iload_n C dX8_find_22 3 rfl ?_
      obtain ⟨r2, k3, h⟩ := tbd_e h
      refine go_callS (wr := u8 G T0 T1 T2 T) (w' := u8 G T0 T1 T2 T ++ (u1 G Ob0 Ob1 Ob2 Ob3 Ob4 Ob5 Ob)) C cfX8_22 (wr29 _ (List.mem_of_getElem? (i := 11) rfl)) (m8_trailOf_k l G Ob0 Ob1 Ob2 Ob3 Ob4 Ob5 Ob x2 x3 r2 k3) dX8_find_23 (by decide) ⟨Nat.zero_le _, Nat.zero_le _⟩ rfl rfl (Nat.le_of_ble_eq_true rfl) [3, 4, 5, 6, 7, 8] [0, 1, 2] [0, 1, 2, 3, 4, 5, 6, 7, 8] rfl rfl (by decide) rfl ?_
      refine go_istore (lv' := [(4, .int r2), (0, .ref T0), (1, .ref Ob0), (2, .int x2), (3, .int x3)]) C dX8_find_26 (by decide) rfl ?_
      refine go_aload_n C dX8_find_28 2 rfl ?_
      refine go_iload C dX8_find_29 0 rfl ?_
      obtain ⟨r4, k5, h⟩ := tbd_e h
      refine go_callV (q0 := 3) (wr := u8 G T0 T1 T2 T) (w' := u8 G T0 T1 T2 T ++ (u1 G Ob0 Ob1 Ob2 Ob3 Ob4 Ob5 Ob)) C cfX8_26 viX1_sightsFit (m1_sightsFit_k l G Ob0 Ob1 Ob2 Ob3 Ob4 Ob5 Ob r2 r4 k5) dX8_find_31 (by decide) ⟨Nat.zero_le _, Nat.zero_le _⟩ rfl rfl (Nat.le_of_ble_eq_true rfl) rfl [3, 4, 5, 6, 7, 8] [0, 1, 2] [0, 1, 2, 3, 4, 5, 6, 7, 8] rfl rfl (by decide) rfl ?_
      refine go_if_eq (tgt := 89) C h dX8_find_34 rfl (fun h => ?_) (fun h => ?_)
      · refine go_iincN (lf := fun v6 => [(3, .int v6), (4, .int r2), (0, .ref T0), (1, .ref Ob0), (2, .int x2)]) C h dX8_find_89 4 rfl rfl (by decide) (fun _ => rfl) (fun v6 h => ?_)
        refine go_goto (tgt := 15) C dX8_find_92 rfl ?_
        exact go_lv [2, 3, 4, 0] rfl (ih v6 T h)
      · refine go_aload_n C dX8_find_37 1 rfl ?_
        refine go_get (v := .int (g8_count T)) C ffX8_18 dX8_find_38 0 rfl rfl ?_
        refine go_if_lt (tgt := 89) C h dX8_find_41 rfl (fun h => ?_) (fun h => ?_)
        · refine go_iincN (lf := fun v7 => [(3, .int v7), (4, .int r2), (0, .ref T0), (1, .ref Ob0), (2, .int x2)]) C h dX8_find_89 4 rfl rfl (by decide) (fun _ => rfl) (fun v7 h => ?_)
          refine go_goto (tgt := 15) C dX8_find_92 rfl ?_
          exact go_lv [2, 3, 4, 0] rfl (ih v7 T h)
        · refine go_aload_n C dX8_find_44 1 rfl ?_
          refine go_get (v := .int (g8_count T)) C ffX8_18 dX8_find_45 0 rfl rfl ?_
          refine go_bipush (v := 12) C dX8_find_48 rfl ?_
          refine go_icmp_ge (tgt := 89) C h dX8_find_50 rfl (fun h => ?_) (fun h => ?_)
          · refine go_iincN (lf := fun v8 => [(3, .int v8), (4, .int r2), (0, .ref T0), (1, .ref Ob0), (2, .int x2)]) C h dX8_find_89 4 rfl rfl (by decide) (fun _ => rfl) (fun v8 h => ?_)
            refine go_goto (tgt := 15) C dX8_find_92 rfl ?_
            exact go_lv [2, 3, 4, 0] rfl (ih v8 T h)
          · refine go_aload_n C dX8_find_53 1 rfl ?_
            refine go_get (v := .ref T1) C ffX8_9 dX8_find_54 0 rfl rfl ?_
            refine go_aload_n C dX8_find_57 1 rfl ?_
            refine go_get (v := .int (g8_count T)) C ffX8_18 dX8_find_58 0 rfl rfl ?_
            refine go_bipush (v := 10) C dX8_find_61 rfl ?_
            refine go_iload_n C dX8_find_63 3 rfl ?_
            refine go_imul C dX8_find_64 ?_
            refine go_iload_n C dX8_find_65 4 rfl ?_
            refine go_iadd C dX8_find_66 ?_
            refine go_iastoreG (f := (g8_codes T)) (w' := u8 G T0 T1 T2 (s8_codes T (upd (g8_codes T) (Int32.toNatClampNeg (g8_count T)) (((10 : Int32) * x2) + x3))) ++ (u1 G Ob0 Ob1 Ob2 Ob3 Ob4 Ob5 Ob)) C h dX8_find_67 1 rfl (setL (Nat.le_of_ble_eq_true rfl) z8_codes) (fun h => ?_)
            refine go_aload_n C dX8_find_68 1 rfl ?_
            refine go_get (v := .ref T2) C ffX8_15 dX8_find_69 0 rfl rfl ?_
            refine go_aload_n C dX8_find_72 1 rfl ?_
            refine go_get (v := .int (g8_count T)) C ffX8_18 dX8_find_73 0 rfl rfl ?_
            refine go_iload C dX8_find_76 0 rfl ?_
            refine go_iastoreG (f := (g8_wetRungs T)) (w' := u8 G T0 T1 T2 (s8_wetRungs (s8_codes T (upd (g8_codes T) (Int32.toNatClampNeg (g8_count T)) (((10 : Int32) * x2) + x3))) (upd (g8_wetRungs T) (Int32.toNatClampNeg (g8_count T)) r2)) ++ (u1 G Ob0 Ob1 Ob2 Ob3 Ob4 Ob5 Ob)) C h dX8_find_78 2 rfl (setL (Nat.le_of_ble_eq_true rfl) z8_wetRungs) (fun h => ?_)
            refine go_aload_n C dX8_find_79 1 rfl ?_
            refine go_dup C dX8_find_80 rfl ?_
            refine go_get (v := .int (g8_count T)) C ffX8_18 dX8_find_81 0 rfl rfl ?_
            refine go_iconst (v := 1) C dX8_find_84 rfl ?_
            refine go_iadd C dX8_find_85 ?_
            refine go_puti (w' := u8 G T0 T1 T2 (s8_count (s8_wetRungs (s8_codes T (upd (g8_codes T) (Int32.toNatClampNeg (g8_count T)) (((10 : Int32) * x2) + x3))) (upd (g8_wetRungs T) (Int32.toNatClampNeg (g8_count T)) r2)) ((g8_count T) + (1 : Int32))) ++ (u1 G Ob0 Ob1 Ob2 Ob3 Ob4 Ob5 Ob)) C fpX8_18 dX8_find_86 0 rfl (Nat.le_of_ble_eq_true rfl) (setL (Nat.le_of_ble_eq_true rfl) z8_count) ?_
            refine go_iincN (lf := fun v9 => [(3, .int v9), (4, .int r2), (0, .ref T0), (1, .ref Ob0), (2, .int x2)]) C h dX8_find_89 4 rfl rfl (by decide) (fun _ => rfl) (fun v9 h => ?_)
            refine go_goto (tgt := 15) C dX8_find_92 rfl ?_
            exact go_lv [2, 3, 4, 0] rfl (ih v9 (s8_count (s8_wetRungs (s8_codes T (upd (g8_codes T) (Int32.toNatClampNeg (g8_count T)) (((10 : Int32) * x2) + x3))) (upd (g8_wetRungs T) (Int32.toNatClampNeg (g8_count T)) r2)) ((g8_count T) + (1 : Int32))) h)

set_option maxRecDepth 100000 in
set_option maxHeartbeats 4000000 in
theorem m8_find_L7_k {p : Program} {l : Launch} {e : Env} {s : State} {m : MethodId} {args : Array Value} {below : List Frame} {meth : Method} {c : Code} {G : gG} {A : Nat → Prop} (C : Cx p e s m args meth c G RX8 cX8_find 5 none A) (T0 T1 T2 Ob0 Ob1 Ob2 Ob3 Ob4 Ob5 : Nat) (Ob : SX1) (R0 : SX8)  : ∀ (n : Nat) (x2 : Int32) (T : SX8), tit (m8_find_L7 Ob) n (x2, T) = some R0 → Gq p l e (rq 4 93) s m args below meth c G A 5 0 0 (MQ below (QK G none (u8 G T0 T1 T2 R0 ++ (u1 G Ob0 Ob1 Ob2 Ob3 Ob4 Ob5 Ob)) A) args s 0 0 A) 7 [(0, .ref T0), (1, .ref Ob0), (2, .int x2)] [] (u8 G T0 T1 T2 T ++ (u1 G Ob0 Ob1 Ob2 Ob3 Ob4 Ob5 Ob)) := by
  intro n
  induction n with
  | zero => exact fun _ _ h => (tit_z h).elim
  | succ n ih =>
    intro x2 T h
    replace h : m8_find_B7 Ob (tit (m8_find_L7 Ob) n) x2 T = some R0 := h
    unfold m8_find_B7 at h
    refine go_iload_n C dX8_find_7 2 rfl ?_
    refine go_bipush (v := 6) C dX8_find_8 rfl ?_
    refine go_icmp_ge (tgt := 101) C h dX8_find_10 rfl (fun h => ?_) (fun h => ?_)
    · cases h
      exact go_vret C dX8_find_101 rfl rfl
    · refine go_iconst (v := 0) C dX8_find_13 rfl ?_
      refine go_istore_n (lv' := [(3, .int (0 : Int32)), (0, .ref T0), (1, .ref Ob0), (2, .int x2)]) C dX8_find_14 (by decide) rfl ?_
      exact go_lv [1, 2, 3, 0] rfl (m8_find_L15_k C T0 T1 T2 Ob0 Ob1 Ob2 Ob3 Ob4 Ob5 Ob x2 R0 _ (fun z0 z1 h => ih z0 z1 h) FU (0 : Int32) T h)

set_option maxRecDepth 100000 in
set_option maxHeartbeats 4000000 in
theorem m8_find_k (l : Launch) (G : gG) (T0 T1 T2 Ob0 Ob1 Ob2 Ob3 Ob4 Ob5 : Nat) (T : SX8) (Ob : SX1) (R0 : SX8) (h : m8_find T Ob = some R0) : KK l G yX8_find cX8_find 5 none 4 93 [.ref T0, .ref Ob0] (u8 G T0 T1 T2 T ++ (u1 G Ob0 Ob1 Ob2 Ob3 Ob4 Ob5 Ob)) none (u8 G T0 T1 T2 R0 ++ (u1 G Ob0 Ob1 Ob2 Ob3 Ob4 Ob5 Ob)) := by
  refine KK_intro (own := RX8) (by decide +kernel) rfl (Nat.le_of_ble_eq_true rfl) rfl ?_
  intro p e s m args below meth c A C
  unfold m8_find at h
  refine go_aload_n C dX8_find_0 0 rfl ?_
  refine go_iconst (v := 0) C dX8_find_1 rfl ?_
  refine go_puti (w' := u8 G T0 T1 T2 (s8_count T (0 : Int32)) ++ (u1 G Ob0 Ob1 Ob2 Ob3 Ob4 Ob5 Ob)) C fpX8_18 dX8_find_2 0 rfl (Nat.le_of_ble_eq_true rfl) (setL (Nat.le_of_ble_eq_true rfl) z8_count) ?_
  refine go_iconst (v := 0) C dX8_find_5 rfl ?_
  refine go_istore_n (lv' := [(2, .int (0 : Int32)), (0, .ref T0), (1, .ref Ob0)]) C dX8_find_6 (by decide) rfl ?_
  exact go_lv [1, 2, 0] rfl (m8_find_L7_k C T0 T1 T2 Ob0 Ob1 Ob2 Ob3 Ob4 Ob5 Ob R0  FU (0 : Int32) (s8_count T (0 : Int32)) h)

set_option maxRecDepth 100000 in
set_option maxHeartbeats 4000000 in
theorem m8_size_k (l : Launch) (G : gG) (T0 T1 T2 : Nat) (T : SX8) (R0 : Int32) (h : m8_size T = some R0) : KK l G yX8_size cX8_size 1 (some .int) 0 0 [.ref T0] (u8 G T0 T1 T2 T) (some (.int R0)) (u8 G T0 T1 T2 T) := by
  refine KK_intro (own := RX8) (by decide +kernel) rfl (Nat.le_of_ble_eq_true rfl) rfl ?_
  intro p e s m args below meth c A C
  unfold m8_size at h
  refine go_aload_n C dX8_size_0 0 rfl ?_
  refine go_get (v := .int (g8_count T)) C ffX8_18 dX8_size_1 0 rfl rfl ?_
  cases h
  exact go_iret C dX8_size_4 rfl rfl

set_option maxRecDepth 100000 in
set_option maxHeartbeats 4000000 in
theorem m8_codeAt_k (l : Launch) (G : gG) (T0 T1 T2 : Nat) (T : SX8) (a1 : Int32) (R0 : Int32) (h : m8_codeAt T a1 = some R0) : KK l G yX8_codeAt cX8_codeAt 2 (some .int) 0 0 [.ref T0, .int a1] (u8 G T0 T1 T2 T) (some (.int R0)) (u8 G T0 T1 T2 T) := by
  refine KK_intro (own := RX8) (by decide +kernel) rfl (Nat.le_of_ble_eq_true rfl) rfl ?_
  intro p e s m args below meth c A C
  unfold m8_codeAt at h
  refine go_iload_n C dX8_codeAt_0 1 rfl ?_
  refine go_if_lt (tgt := 27) C h dX8_codeAt_1 rfl (fun h => ?_) (fun h => ?_)
  · refine go_bipush (v := -6) C dX8_codeAt_27 rfl ?_
    cases h
    exact go_iret C dX8_codeAt_29 rfl rfl
  · refine go_iload_n C dX8_codeAt_4 1 rfl ?_
    refine go_aload_n C dX8_codeAt_5 0 rfl ?_
    refine go_get (v := .int (g8_count T)) C ffX8_18 dX8_codeAt_6 0 rfl rfl ?_
    refine go_icmp_ge (tgt := 27) C h dX8_codeAt_9 rfl (fun h => ?_) (fun h => ?_)
    · refine go_bipush (v := -6) C dX8_codeAt_27 rfl ?_
      cases h
      exact go_iret C dX8_codeAt_29 rfl rfl
    · refine go_iload_n C dX8_codeAt_12 1 rfl ?_
      refine go_bipush (v := 12) C dX8_codeAt_13 rfl ?_
      refine go_icmp_ge (tgt := 27) C h dX8_codeAt_15 rfl (fun h => ?_) (fun h => ?_)
      · refine go_bipush (v := -6) C dX8_codeAt_27 rfl ?_
        cases h
        exact go_iret C dX8_codeAt_29 rfl rfl
      · refine go_aload_n C dX8_codeAt_18 0 rfl ?_
        refine go_get (v := .ref T1) C ffX8_9 dX8_codeAt_19 0 rfl rfl ?_
        refine go_iload_n C dX8_codeAt_22 1 rfl ?_
        refine go_ialoadG (f := (g8_codes T)) C h dX8_codeAt_23 1 rfl (fun h => ?_)
        refine go_goto (tgt := 29) C dX8_codeAt_24 rfl ?_
        cases h
        exact go_iret C dX8_codeAt_29 rfl rfl

set_option maxRecDepth 100000 in
set_option maxHeartbeats 4000000 in
theorem m8_mostLeftBy_J41_k {p : Program} {l : Launch} {e : Env} {s : State} {m : MethodId} {args : Array Value} {below : List Frame} {meth : Method} {c : Code} {G : gG} {A : Nat → Prop} (C : Cx p e s m args meth c G RX8 cX8_mostLeftBy 4 (some .int) A) (T0 T1 T2 : Nat) (T : SX8) (x2 : Int32) (R0 : Int32)  (h : m8_mostLeftBy_J41 T x2 = some R0) : Gq p l e (rq 1 21) s m args below meth c G A 4 0 0 (MQ below (QK G (some (.int R0)) (u8 G T0 T1 T2 T) A) args s 0 0 A) 41 [(0, .ref T0), (2, .int x2)] [] (u8 G T0 T1 T2 T) := by
  unfold m8_mostLeftBy_J41 at h
  refine go_iload_n C dX8_mostLeftBy_41 1 rfl ?_
  refine go_aload_n C dX8_mostLeftBy_42 0 rfl ?_
  refine go_get (v := .int (g8_count T)) C ffX8_18 dX8_mostLeftBy_43 0 rfl rfl ?_
  refine go_iload_n C dX8_mostLeftBy_46 1 rfl ?_
  refine go_isub C dX8_mostLeftBy_47 ?_
  refine go_mmax C cmX8_50 dX8_mostLeftBy_48 (by decide) (Nat.le_of_ble_eq_true rfl) (Nat.zero_le _) (Nat.zero_le _) ?_
  cases h
  exact go_iret C dX8_mostLeftBy_51 rfl rfl

set_option maxRecDepth 100000 in
set_option maxHeartbeats 4000000 in
theorem m8_mostLeftBy_L4_k {p : Program} {l : Launch} {e : Env} {s : State} {m : MethodId} {args : Array Value} {below : List Frame} {meth : Method} {c : Code} {G : gG} {A : Nat → Prop} (C : Cx p e s m args meth c G RX8 cX8_mostLeftBy 4 (some .int) A) (T0 T1 T2 : Nat) (T : SX8) (x1 : Int32) (R0 : Int32)  : ∀ (n : Nat) (x2 : Int32) (x3 : Int32), tit (m8_mostLeftBy_L4 T x1) n (x2, x3) = some R0 → Gq p l e (rq 1 21) s m args below meth c G A 4 0 0 (MQ below (QK G (some (.int R0)) (u8 G T0 T1 T2 T) A) args s 0 0 A) 4 [(0, .ref T0), (1, .int x1), (2, .int x2), (3, .int x3)] [] (u8 G T0 T1 T2 T) := by
  intro n
  induction n with
  | zero => exact fun _ _ h => (tit_z h).elim
  | succ n ih =>
    intro x2 x3 h
    replace h : m8_mostLeftBy_B4 T x1 (tit (m8_mostLeftBy_L4 T x1) n) x2 x3 = some R0 := h
    unfold m8_mostLeftBy_B4 at h
    refine go_iload_n C dX8_mostLeftBy_4 3 rfl ?_
    refine go_aload_n C dX8_mostLeftBy_5 0 rfl ?_
    refine go_get (v := .int (g8_count T)) C ffX8_18 dX8_mostLeftBy_6 0 rfl rfl ?_
    refine go_icmp_ge (tgt := 41) C h dX8_mostLeftBy_9 rfl (fun h => ?_) (fun h => ?_)
    · exact go_lv [0, 2] rfl (m8_mostLeftBy_J41_k C T0 T1 T2 T x2 R0  h)
    · refine go_iload_n C dX8_mostLeftBy_12 3 rfl ?_
      refine go_bipush (v := 12) C dX8_mostLeftBy_13 rfl ?_
      refine go_icmp_ge (tgt := 41) C h dX8_mostLeftBy_15 rfl (fun h => ?_) (fun h => ?_)
      · exact go_lv [0, 2] rfl (m8_mostLeftBy_J41_k C T0 T1 T2 T x2 R0  h)
      · refine go_aload_n C dX8_mostLeftBy_18 0 rfl ?_
        refine go_get (v := .ref T2) C ffX8_15 dX8_mostLeftBy_19 0 rfl rfl ?_
        refine go_iload_n C dX8_mostLeftBy_22 3 rfl ?_
        refine go_ialoadG (f := (g8_wetRungs T)) C h dX8_mostLeftBy_23 2 rfl (fun h => ?_)
        refine go_iload_n C dX8_mostLeftBy_24 1 rfl ?_
        obtain ⟨r1, k2, h⟩ := tbd_e h
        refine go_callSN0 C cfX8_36 (wr7 _ (List.mem_of_getElem? (i := 14) rfl)) (m9_bitOf_k l G x1 r1 k2) dX8_mostLeftBy_25 (by decide) ⟨Nat.zero_le _, Nat.zero_le _⟩ rfl rfl (Nat.le_of_ble_eq_true rfl) ?_
        refine go_iand C dX8_mostLeftBy_28 ?_
        refine go_if_eq (tgt := 35) C h dX8_mostLeftBy_29 rfl (fun h => ?_) (fun h => ?_)
        · refine go_iincN (lf := fun v3 => [(3, .int v3), (0, .ref T0), (1, .int x1), (2, .int x2)]) C h dX8_mostLeftBy_35 3 rfl rfl (by decide) (fun _ => rfl) (fun v3 h => ?_)
          refine go_goto (tgt := 4) C dX8_mostLeftBy_38 rfl ?_
          exact go_lv [1, 2, 3, 0] rfl (ih x2 v3 h)
        · refine go_iincN (lf := fun v4 => [(2, .int v4), (0, .ref T0), (1, .int x1), (3, .int x3)]) C h dX8_mostLeftBy_32 2 rfl rfl (by decide) (fun _ => rfl) (fun v4 h => ?_)
          refine go_iincN (lf := fun v5 => [(3, .int v5), (2, .int v4), (0, .ref T0), (1, .int x1)]) C h dX8_mostLeftBy_35 3 rfl rfl (by decide) (fun _ => rfl) (fun v5 h => ?_)
          refine go_goto (tgt := 4) C dX8_mostLeftBy_38 rfl ?_
          exact go_lv [2, 3, 1, 0] rfl (ih v4 v5 h)

set_option maxRecDepth 100000 in
set_option maxHeartbeats 4000000 in
theorem m8_mostLeftBy_k (l : Launch) (G : gG) (T0 T1 T2 : Nat) (T : SX8) (a1 : Int32) (R0 : Int32) (h : m8_mostLeftBy T a1 = some R0) : KK l G yX8_mostLeftBy cX8_mostLeftBy 4 (some .int) 1 21 [.ref T0, .int a1] (u8 G T0 T1 T2 T) (some (.int R0)) (u8 G T0 T1 T2 T) := by
  refine KK_intro (own := RX8) (by decide +kernel) rfl (Nat.le_of_ble_eq_true rfl) rfl ?_
  intro p e s m args below meth c A C
  unfold m8_mostLeftBy at h
  refine go_iconst (v := 0) C dX8_mostLeftBy_0 rfl ?_
  refine go_istore_n (lv' := [(2, .int (0 : Int32)), (0, .ref T0), (1, .int a1)]) C dX8_mostLeftBy_1 (by decide) rfl ?_
  refine go_iconst (v := 0) C dX8_mostLeftBy_2 rfl ?_
  refine go_istore_n (lv' := [(3, .int (0 : Int32)), (2, .int (0 : Int32)), (0, .ref T0), (1, .int a1)]) C dX8_mostLeftBy_3 (by decide) rfl ?_
  exact go_lv [2, 3, 1, 0] rfl (m8_mostLeftBy_L4_k C T0 T1 T2 T a1 R0  FU (0 : Int32) (0 : Int32) h)

set_option maxRecDepth 100000 in
set_option maxHeartbeats 4000000 in
theorem m8_rungToFeel_L4_k {p : Program} {l : Launch} {e : Env} {s : State} {m : MethodId} {args : Array Value} {below : List Frame} {meth : Method} {c : Code} {G : gG} {A : Nat → Prop} (C : Cx p e s m args meth c G RX8 cX8_rungToFeel 3 (some .int) A) (T0 T1 T2 : Nat) (T : SX8) (R0 : Int32)  : ∀ (n : Nat) (x1 : Int32) (x2 : Int32), tit (m8_rungToFeel_L4 T) n (x1, x2) = some R0 → Gq p l e (rq 2 44) s m args below meth c G A 3 0 0 (MQ below (QK G (some (.int R0)) (u8 G T0 T1 T2 T) A) args s 0 0 A) 4 [(0, .ref T0), (1, .int x1), (2, .int x2)] [] (u8 G T0 T1 T2 T) := by
  intro n
  induction n with
  | zero => exact fun _ _ h => (tit_z h).elim
  | succ n ih =>
    intro x1 x2 h
    replace h : m8_rungToFeel_B4 T (tit (m8_rungToFeel_L4 T) n) x1 x2 = some R0 := h
    unfold m8_rungToFeel_B4 at h
    refine go_iload_n C dX8_rungToFeel_4 2 rfl ?_
    refine go_bipush (v := 12) C dX8_rungToFeel_5 rfl ?_
    refine go_icmp_gt (tgt := 31) C h dX8_rungToFeel_7 rfl (fun h => ?_) (fun h => ?_)
    · refine go_iload_n C dX8_rungToFeel_31 1 rfl ?_
      cases h
      exact go_iret C dX8_rungToFeel_32 rfl rfl
    · refine go_aload_n C dX8_rungToFeel_10 0 rfl ?_
      refine go_iload_n C dX8_rungToFeel_11 2 rfl ?_
      obtain ⟨r1, k2, h⟩ := tbd_e h
      refine go_callV (q0 := 0) (wr := ([] : va_W)) (w' := u8 G T0 T1 T2 T) C cfX8_47 viX8_mostLeftBy (m8_mostLeftBy_k l G T0 T1 T2 T x2 r1 k2) dX8_rungToFeel_12 (by decide) ⟨Nat.zero_le _, Nat.zero_le _⟩ rfl rfl (Nat.le_of_ble_eq_true rfl) rfl [0, 1, 2] [] [0, 1, 2] rfl rfl (by decide) rfl ?_
      refine go_aload_n C dX8_rungToFeel_15 0 rfl ?_
      refine go_iload_n C dX8_rungToFeel_16 1 rfl ?_
      obtain ⟨r3, k4, h⟩ := tbd_e h
      refine go_callV (q0 := 0) (wr := ([] : va_W)) (w' := u8 G T0 T1 T2 T) C cfX8_47 viX8_mostLeftBy (m8_mostLeftBy_k l G T0 T1 T2 T x1 r3 k4) dX8_rungToFeel_17 (by decide) ⟨Nat.zero_le _, Nat.zero_le _⟩ rfl rfl (Nat.le_of_ble_eq_true rfl) rfl [0, 1, 2] [] [0, 1, 2] rfl rfl (by decide) rfl ?_
      refine go_icmp_ge (tgt := 25) C h dX8_rungToFeel_20 rfl (fun h => ?_) (fun h => ?_)
      · refine go_iincN (lf := fun v5 => [(2, .int v5), (0, .ref T0), (1, .int x1)]) C h dX8_rungToFeel_25 2 rfl rfl (by decide) (fun _ => rfl) (fun v5 h => ?_)
        refine go_goto (tgt := 4) C dX8_rungToFeel_28 rfl ?_
        exact go_lv [1, 2, 0] rfl (ih x1 v5 h)
      · refine go_iload_n C dX8_rungToFeel_23 2 rfl ?_
        refine go_istore_n (lv' := [(1, .int x2), (0, .ref T0), (2, .int x2)]) C dX8_rungToFeel_24 (by decide) rfl ?_
        refine go_iincN (lf := fun v6 => [(2, .int v6), (1, .int x2), (0, .ref T0)]) C h dX8_rungToFeel_25 2 rfl rfl (by decide) (fun _ => rfl) (fun v6 h => ?_)
        refine go_goto (tgt := 4) C dX8_rungToFeel_28 rfl ?_
        exact go_lv [2, 1, 0] rfl (ih x2 v6 h)

set_option maxRecDepth 100000 in
set_option maxHeartbeats 4000000 in
theorem m8_rungToFeel_k (l : Launch) (G : gG) (T0 T1 T2 : Nat) (T : SX8) (R0 : Int32) (h : m8_rungToFeel T = some R0) : KK l G yX8_rungToFeel cX8_rungToFeel 3 (some .int) 2 44 [.ref T0] (u8 G T0 T1 T2 T) (some (.int R0)) (u8 G T0 T1 T2 T) := by
  refine KK_intro (own := RX8) (by decide +kernel) rfl (Nat.le_of_ble_eq_true rfl) rfl ?_
  intro p e s m args below meth c A C
  unfold m8_rungToFeel at h
  refine go_iconst (v := 1) C dX8_rungToFeel_0 rfl ?_
  refine go_istore_n (lv' := [(1, .int (1 : Int32)), (0, .ref T0)]) C dX8_rungToFeel_1 (by decide) rfl ?_
  refine go_iconst (v := 2) C dX8_rungToFeel_2 rfl ?_
  refine go_istore_n (lv' := [(2, .int (2 : Int32)), (1, .int (1 : Int32)), (0, .ref T0)]) C dX8_rungToFeel_3 (by decide) rfl ?_
  exact go_lv [2, 1, 0] rfl (m8_rungToFeel_L4_k C T0 T1 T2 T R0  FU (1 : Int32) (2 : Int32) h)

set_option maxRecDepth 100000 in
set_option maxHeartbeats 4000000 in
theorem m9_isManOrNobody_k (l : Launch) (G : gG) (a0 : Int32) (R0 : Int32) (h : m9_isManOrNobody a0 = some R0) : KK l G yX9_isManOrNobody cX9_isManOrNobody 1 (some .boolean) 1 20 [.int a0] (([] : va_W)) (some (.int R0)) (([] : va_W)) := by
  refine KK_intro (own := RX9) (by decide +kernel) rfl (Nat.le_of_ble_eq_true rfl) rfl ?_
  intro p e s m args below meth c A C
  unfold m9_isManOrNobody at h
  refine go_iload_n C dX9_isManOrNobody_0 0 rfl ?_
  refine go_iconst (v := -1) C dX9_isManOrNobody_1 rfl ?_
  refine go_icmp_eq (tgt := 12) C h dX9_isManOrNobody_2 rfl (fun h => ?_) (fun h => ?_)
  · refine go_iconst (v := 1) C dX9_isManOrNobody_12 rfl ?_
    refine go_goto (tgt := 17) C dX9_isManOrNobody_13 rfl ?_
    cases h
    exact go_zret C dX9_isManOrNobody_17 (by decide) rfl rfl
  · refine go_iload_n C dX9_isManOrNobody_5 0 rfl ?_
    obtain ⟨r1, k2, h⟩ := tbd_e h
    refine go_callS0 C cfX9_91 (wr6 _ (List.mem_of_getElem? (i := 22) rfl)) (m9_isMan_k l G a0 r1 k2) dX9_isManOrNobody_6 (by decide) ⟨Nat.zero_le _, Nat.zero_le _⟩ rfl rfl (Nat.le_of_ble_eq_true rfl) ?_
    refine go_if_eq (tgt := 16) C h dX9_isManOrNobody_9 rfl (fun h => ?_) (fun h => ?_)
    · refine go_iconst (v := 0) C dX9_isManOrNobody_16 rfl ?_
      cases h
      exact go_zret C dX9_isManOrNobody_17 (by decide) rfl rfl
    · refine go_iconst (v := 1) C dX9_isManOrNobody_12 rfl ?_
      refine go_goto (tgt := 17) C dX9_isManOrNobody_13 rfl ?_
      cases h
      exact go_zret C dX9_isManOrNobody_17 (by decide) rfl rfl

set_option maxRecDepth 100000 in
set_option maxHeartbeats 4000000 in
theorem m9_within_k (l : Launch) (G : gG) (a0 : Int32) (a1 : Int32) (a2 : Int32) (R0 : Int32) (h : m9_within a0 a1 a2 = some R0) : KK l G yX9_within cX9_within 3 (some .boolean) 0 0 [.int a0, .int a1, .int a2] (([] : va_W)) (some (.int R0)) (([] : va_W)) := by
  refine KK_intro (own := RX9) (by decide +kernel) rfl (Nat.le_of_ble_eq_true rfl) rfl ?_
  intro p e s m args below meth c A C
  unfold m9_within at h
  refine go_iload_n C dX9_within_0 0 rfl ?_
  refine go_iload_n C dX9_within_1 1 rfl ?_
  refine go_icmp_lt (tgt := 14) C h dX9_within_2 rfl (fun h => ?_) (fun h => ?_)
  · refine go_iconst (v := 0) C dX9_within_14 rfl ?_
    cases h
    exact go_zret C dX9_within_15 (by decide) rfl rfl
  · refine go_iload_n C dX9_within_5 0 rfl ?_
    refine go_iload_n C dX9_within_6 2 rfl ?_
    refine go_icmp_gt (tgt := 14) C h dX9_within_7 rfl (fun h => ?_) (fun h => ?_)
    · refine go_iconst (v := 0) C dX9_within_14 rfl ?_
      cases h
      exact go_zret C dX9_within_15 (by decide) rfl rfl
    · refine go_iconst (v := 1) C dX9_within_10 rfl ?_
      refine go_goto (tgt := 15) C dX9_within_11 rfl ?_
      cases h
      exact go_zret C dX9_within_15 (by decide) rfl rfl

set_option maxRecDepth 100000 in
set_option maxHeartbeats 4000000 in
theorem m9_rightsFit_k (l : Launch) (G : gG) (a0 : Int32) (a1 : Int32) (a2 : Int32) (R0 : Int32) (h : m9_rightsFit a0 a1 a2 = some R0) : KK l G yX9_rightsFit cX9_rightsFit 3 (some .boolean) 1 22 [.int a0, .int a1, .int a2] (([] : va_W)) (some (.int R0)) (([] : va_W)) := by
  refine KK_intro (own := RX9) (by decide +kernel) rfl (Nat.le_of_ble_eq_true rfl) rfl ?_
  intro p e s m args below meth c A C
  unfold m9_rightsFit at h
  refine go_iload_n C dX9_rightsFit_0 2 rfl ?_
  refine go_iconst (v := 0) C dX9_rightsFit_1 rfl ?_
  refine go_iconst (v := 1) C dX9_rightsFit_2 rfl ?_
  obtain ⟨r1, k2, h⟩ := tbd_e h
  refine go_callS0 C cfX9_94 (wr7 _ (List.mem_of_getElem? (i := 4) rfl)) (m9_within_k l G a2 (0 : Int32) (1 : Int32) r1 k2) dX9_rightsFit_3 (by decide) ⟨Nat.zero_le _, Nat.zero_le _⟩ rfl rfl (Nat.le_of_ble_eq_true rfl) ?_
  refine go_if_ne (tgt := 11) C h dX9_rightsFit_6 rfl (fun h => ?_) (fun h => ?_)
  · refine go_iload_n C dX9_rightsFit_11 2 rfl ?_
    refine go_iconst (v := 1) C dX9_rightsFit_12 rfl ?_
    refine go_icmp_ne (tgt := 32) C h dX9_rightsFit_13 rfl (fun h => ?_) (fun h => ?_)
    · refine go_iload_n C dX9_rightsFit_32 1 rfl ?_
      refine go_iconst (v := -1) C dX9_rightsFit_33 rfl ?_
      refine go_icmp_eq (tgt := 47) C h dX9_rightsFit_34 rfl (fun h => ?_) (fun h => ?_)
      · refine go_iconst (v := 1) C dX9_rightsFit_47 rfl ?_
        refine go_goto (tgt := 52) C dX9_rightsFit_48 rfl ?_
        cases h
        exact go_zret C dX9_rightsFit_52 (by decide) rfl rfl
      · refine go_iload_n C dX9_rightsFit_37 0 rfl ?_
        refine go_iconst (v := -1) C dX9_rightsFit_38 rfl ?_
        refine go_icmp_eq (tgt := 51) C h dX9_rightsFit_39 rfl (fun h => ?_) (fun h => ?_)
        · refine go_iconst (v := 0) C dX9_rightsFit_51 rfl ?_
          cases h
          exact go_zret C dX9_rightsFit_52 (by decide) rfl rfl
        · refine go_iload_n C dX9_rightsFit_42 0 rfl ?_
          refine go_iload_n C dX9_rightsFit_43 1 rfl ?_
          refine go_icmp_eq (tgt := 51) C h dX9_rightsFit_44 rfl (fun h => ?_) (fun h => ?_)
          · refine go_iconst (v := 0) C dX9_rightsFit_51 rfl ?_
            cases h
            exact go_zret C dX9_rightsFit_52 (by decide) rfl rfl
          · refine go_iconst (v := 1) C dX9_rightsFit_47 rfl ?_
            refine go_goto (tgt := 52) C dX9_rightsFit_48 rfl ?_
            cases h
            exact go_zret C dX9_rightsFit_52 (by decide) rfl rfl
    · refine go_iload_n C dX9_rightsFit_16 0 rfl ?_
      refine go_iconst (v := -1) C dX9_rightsFit_17 rfl ?_
      refine go_icmp_ne (tgt := 30) C h dX9_rightsFit_18 rfl (fun h => ?_) (fun h => ?_)
      · refine go_iconst (v := 0) C dX9_rightsFit_30 rfl ?_
        cases h
        exact go_zret C dX9_rightsFit_31 (by decide) rfl rfl
      · refine go_iload_n C dX9_rightsFit_21 1 rfl ?_
        refine go_iconst (v := -1) C dX9_rightsFit_22 rfl ?_
        refine go_icmp_ne (tgt := 30) C h dX9_rightsFit_23 rfl (fun h => ?_) (fun h => ?_)
        · refine go_iconst (v := 0) C dX9_rightsFit_30 rfl ?_
          cases h
          exact go_zret C dX9_rightsFit_31 (by decide) rfl rfl
        · refine go_iconst (v := 1) C dX9_rightsFit_26 rfl ?_
          refine go_goto (tgt := 31) C dX9_rightsFit_27 rfl ?_
          cases h
          exact go_zret C dX9_rightsFit_31 (by decide) rfl rfl
  · refine go_iconst (v := 0) C dX9_rightsFit_9 rfl ?_
    cases h
    exact go_zret C dX9_rightsFit_10 (by decide) rfl rfl

set_option maxRecDepth 100000 in
set_option maxHeartbeats 4000000 in
theorem m9_orNone_k (l : Launch) (G : gG) (a0 : Int32) (R0 : Int32) (h : m9_orNone a0 = some R0) : KK l G yX9_orNone cX9_orNone 1 (some .int) 0 0 [.int a0] (([] : va_W)) (some (.int R0)) (([] : va_W)) := by
  refine KK_intro (own := RX9) (by decide +kernel) rfl (Nat.le_of_ble_eq_true rfl) rfl ?_
  intro p e s m args below meth c A C
  unfold m9_orNone at h
  refine go_iload_n C dX9_orNone_0 0 rfl ?_
  refine go_iconst (v := -1) C dX9_orNone_1 rfl ?_
  refine go_icmp_ne (tgt := 10) C h dX9_orNone_2 rfl (fun h => ?_) (fun h => ?_)
  · refine go_iload_n C dX9_orNone_10 0 rfl ?_
    cases h
    exact go_iret C dX9_orNone_11 rfl rfl
  · refine go_bipush (v := -6) C dX9_orNone_5 rfl ?_
    refine go_goto (tgt := 11) C dX9_orNone_7 rfl ?_
    cases h
    exact go_iret C dX9_orNone_11 rfl rfl

set_option maxRecDepth 100000 in
set_option maxHeartbeats 4000000 in
theorem m9_rung_J64_k {p : Program} {l : Launch} {e : Env} {s : State} {m : MethodId} {args : Array Value} {below : List Frame} {meth : Method} {c : Code} {G : gG} {A : Nat → Prop} (C : Cx p e s m args meth c G RX9 cX9_rung 6 (some .int) A) (T0 T_brigade0 T_pad0 T_act0 T_fire0 T_routes0 T_posts0 T_trails0 T_feet0 T_images0 T_brigade1 T_brigade2 T_brigade3 T_brigade4 T_brigade5 : Nat) (T : SX9) (T_brigade : SX1) (x5 : Int32) (y1 : Int32) (y2 : Int32) (y3 : Int32) (y4 : Int32) (R0 : Int32 × SX1)  (h : m9_rung_J64 T T_brigade x5 y1 y2 y3 y4 = some R0) : Gq p l e (rq 2 44) s m args below meth c G A 6 0 0 (MQ below (QK G (some (.int R0.1)) (u9 G T0 T_brigade0 T_pad0 T_act0 T_fire0 T_routes0 T_posts0 T_trails0 T_feet0 T_images0 T ++ (u1 G T_brigade0 T_brigade1 T_brigade2 T_brigade3 T_brigade4 T_brigade5 R0.2)) A) args s 0 0 A) 64 [(5, .int x5)] [.int y4, .int y3, .int y2, .int y1, .ref T_brigade0] (u9 G T0 T_brigade0 T_pad0 T_act0 T_fire0 T_routes0 T_posts0 T_trails0 T_feet0 T_images0 T ++ (u1 G T_brigade0 T_brigade1 T_brigade2 T_brigade3 T_brigade4 T_brigade5 T_brigade)) := by
  unfold m9_rung_J64 at h
  obtain ⟨r11, k12, h⟩ := tbd_e h
  refine go_callV (q0 := 1) (wr := u9 G T0 T_brigade0 T_pad0 T_act0 T_fire0 T_routes0 T_posts0 T_trails0 T_feet0 T_images0 T) (w' := u9 G T0 T_brigade0 T_pad0 T_act0 T_fire0 T_routes0 T_posts0 T_trails0 T_feet0 T_images0 T ++ (u1 G T_brigade0 T_brigade1 T_brigade2 T_brigade3 T_brigade4 T_brigade5 r11)) C cfX9_84 viX1_setRung (m1_setRung_k l G T_brigade0 T_brigade1 T_brigade2 T_brigade3 T_brigade4 T_brigade5 T_brigade y1 y2 y3 y4 r11 k12) dX9_rung_64 (by decide) ⟨Nat.zero_le _, Nat.zero_le _⟩ rfl rfl (Nat.le_of_ble_eq_true rfl) rfl [1, 2, 3, 4, 5, 6] [0] [0, 1, 2, 3, 4, 5, 6] rfl rfl (by decide) rfl ?_
  refine go_iload C dX9_rung_67 0 rfl ?_
  obtain ⟨r13, k14, h⟩ := tbd_e h
  refine go_callS0 C cfX9_88 (wr7 _ (List.mem_of_getElem? (i := 17) rfl)) (m9_orNone_k l G x5 r13 k14) dX9_rung_69 (by decide) ⟨Nat.zero_le _, Nat.zero_le _⟩ rfl rfl (Nat.le_of_ble_eq_true rfl) ?_
  cases h
  exact go_iret C dX9_rung_72 rfl rfl

set_option maxRecDepth 100000 in
set_option maxHeartbeats 4000000 in
theorem m9_rung_k (l : Launch) (G : gG) (T0 T_brigade0 T_pad0 T_act0 T_fire0 T_routes0 T_posts0 T_trails0 T_feet0 T_images0 T_brigade1 T_brigade2 T_brigade3 T_brigade4 T_brigade5 : Nat) (T : SX9) (T_brigade : SX1) (a1 : Int32) (a2 : Int32) (a3 : Int32) (a4 : Int32) (R0 : Int32 × SX1) (h : m9_rung T T_brigade a1 a2 a3 a4 = some R0) : KK l G yX9_rung cX9_rung 6 (some .int) 2 44 [.ref T0, .int a1, .int a2, .int a3, .int a4] (u9 G T0 T_brigade0 T_pad0 T_act0 T_fire0 T_routes0 T_posts0 T_trails0 T_feet0 T_images0 T ++ (u1 G T_brigade0 T_brigade1 T_brigade2 T_brigade3 T_brigade4 T_brigade5 T_brigade)) (some (.int R0.1)) (u9 G T0 T_brigade0 T_pad0 T_act0 T_fire0 T_routes0 T_posts0 T_trails0 T_feet0 T_images0 T ++ (u1 G T_brigade0 T_brigade1 T_brigade2 T_brigade3 T_brigade4 T_brigade5 R0.2)) := by
  refine KK_intro (own := RX9) (by decide +kernel) rfl (Nat.le_of_ble_eq_true rfl) rfl ?_
  intro p e s m args below meth c A C
  unfold m9_rung at h
  refine go_iload_n C dX9_rung_0 1 rfl ?_
  obtain ⟨r1, k2, h⟩ := tbd_e h
  refine go_callS0 C cfX9_69 (wr6 _ (List.mem_of_getElem? (i := 16) rfl)) (m9_isRung_k l G a1 r1 k2) dX9_rung_1 (by decide) ⟨Nat.zero_le _, Nat.zero_le _⟩ rfl rfl (Nat.le_of_ble_eq_true rfl) ?_
  refine go_if_eq (tgt := 21) C h dX9_rung_4 rfl (fun h => ?_) (fun h => ?_)
  · refine go_iconst (v := -1) C dX9_rung_21 rfl ?_
    cases h
    exact go_iret C dX9_rung_22 rfl rfl
  · refine go_iload_n C dX9_rung_7 2 rfl ?_
    obtain ⟨r3, k4, h⟩ := tbd_e h
    refine go_callS0 C cfX9_73 (wr6 _ (List.mem_of_getElem? (i := 19) rfl)) (m9_isManOrNobody_k l G a2 r3 k4) dX9_rung_8 (by decide) ⟨Nat.zero_le _, Nat.zero_le _⟩ rfl rfl (Nat.le_of_ble_eq_true rfl) ?_
    refine go_if_eq (tgt := 21) C h dX9_rung_11 rfl (fun h => ?_) (fun h => ?_)
    · refine go_iconst (v := -1) C dX9_rung_21 rfl ?_
      cases h
      exact go_iret C dX9_rung_22 rfl rfl
    · refine go_iload_n C dX9_rung_14 3 rfl ?_
      obtain ⟨r5, k6, h⟩ := tbd_e h
      refine go_callS0 C cfX9_73 (wr6 _ (List.mem_of_getElem? (i := 19) rfl)) (m9_isManOrNobody_k l G a3 r5 k6) dX9_rung_15 (by decide) ⟨Nat.zero_le _, Nat.zero_le _⟩ rfl rfl (Nat.le_of_ble_eq_true rfl) ?_
      refine go_if_ne (tgt := 23) C h dX9_rung_18 rfl (fun h => ?_) (fun h => ?_)
      · refine go_iload_n C dX9_rung_23 2 rfl ?_
        refine go_iload_n C dX9_rung_24 3 rfl ?_
        refine go_iload C dX9_rung_25 4 rfl ?_
        obtain ⟨r7, k8, h⟩ := tbd_e h
        refine go_callS0 C cfX9_76 (wr7 _ (List.mem_of_getElem? (i := 1) rfl)) (m9_rightsFit_k l G a2 a3 a4 r7 k8) dX9_rung_27 (by decide) ⟨Nat.zero_le _, Nat.zero_le _⟩ rfl rfl (Nat.le_of_ble_eq_true rfl) ?_
        refine go_if_ne (tgt := 36) C h dX9_rung_30 rfl (fun h => ?_) (fun h => ?_)
        · refine go_aload_n C dX9_rung_36 0 rfl ?_
          refine go_get (v := .ref T_brigade0) C ffX9_12 dX9_rung_37 0 rfl rfl ?_
          refine go_iload_n C dX9_rung_40 1 rfl ?_
          obtain ⟨r9, k10, h⟩ := tbd_e h
          refine go_callV (q0 := 1) (wr := u9 G T0 T_brigade0 T_pad0 T_act0 T_fire0 T_routes0 T_posts0 T_trails0 T_feet0 T_images0 T) (w' := u9 G T0 T_brigade0 T_pad0 T_act0 T_fire0 T_routes0 T_posts0 T_trails0 T_feet0 T_images0 T ++ (u1 G T_brigade0 T_brigade1 T_brigade2 T_brigade3 T_brigade4 T_brigade5 T_brigade)) C cfX9_80 viX1_ownerOf (m1_ownerOf_k l G T_brigade0 T_brigade1 T_brigade2 T_brigade3 T_brigade4 T_brigade5 T_brigade a1 r9 k10) dX9_rung_41 (by decide) ⟨Nat.zero_le _, Nat.zero_le _⟩ rfl rfl (Nat.le_of_ble_eq_true rfl) rfl [1, 2, 3, 4, 5, 6] [0] [0, 1, 2, 3, 4, 5, 6] rfl rfl (by decide) rfl ?_
          refine go_istore (lv' := [(5, .int r9), (0, .ref T0), (1, .int a1), (2, .int a2), (3, .int a3), (4, .int a4)]) C dX9_rung_44 (by decide) rfl ?_
          refine go_aload_n C dX9_rung_46 1 rfl ?_
          refine go_get (v := .ref T_brigade0) C ffX9_12 dX9_rung_47 0 rfl rfl ?_
          refine go_iload_n C dX9_rung_50 2 rfl ?_
          refine go_iload_n C dX9_rung_51 3 rfl ?_
          refine go_iload_n C dX9_rung_52 4 rfl ?_
          refine go_iload C dX9_rung_53 5 rfl ?_
          refine go_iconst (v := 1) C dX9_rung_55 rfl ?_
          refine go_icmp_ne (tgt := 63) C h dX9_rung_56 rfl (fun h => ?_) (fun h => ?_)
          · refine go_iconst (v := 0) C dX9_rung_63 rfl ?_
            exact go_lv [0] rfl (m9_rung_J64_k C T0 T_brigade0 T_pad0 T_act0 T_fire0 T_routes0 T_posts0 T_trails0 T_feet0 T_images0 T_brigade1 T_brigade2 T_brigade3 T_brigade4 T_brigade5 T T_brigade r9 a1 a2 a3 (0 : Int32) R0  h)
          · refine go_iconst (v := 1) C dX9_rung_59 rfl ?_
            refine go_goto (tgt := 64) C dX9_rung_60 rfl ?_
            exact go_lv [0] rfl (m9_rung_J64_k C T0 T_brigade0 T_pad0 T_act0 T_fire0 T_routes0 T_posts0 T_trails0 T_feet0 T_images0 T_brigade1 T_brigade2 T_brigade3 T_brigade4 T_brigade5 T T_brigade r9 a1 a2 a3 (1 : Int32) R0  h)
        · refine go_bipush (v := -2) C dX9_rung_33 rfl ?_
          cases h
          exact go_iret C dX9_rung_35 rfl rfl
      · refine go_iconst (v := -1) C dX9_rung_21 rfl ?_
        cases h
        exact go_iret C dX9_rung_22 rfl rfl

set_option maxRecDepth 100000 in
set_option maxHeartbeats 4000000 in
theorem m9_man_k (l : Launch) (G : gG) (T0 T_brigade0 T_pad0 T_act0 T_fire0 T_routes0 T_posts0 T_trails0 T_feet0 T_images0 T_brigade1 T_brigade2 T_brigade3 T_brigade4 T_brigade5 : Nat) (T : SX9) (T_brigade : SX1) (a1 : Int32) (a2 : Int32) (a3 : Int32) (a4 : Int32) (R0 : Int32 × SX1) (h : m9_man T T_brigade a1 a2 a3 a4 = some R0) : KK l G yX9_man cX9_man 6 (some .int) 2 44 [.ref T0, .int a1, .int a2, .int a3, .int a4] (u9 G T0 T_brigade0 T_pad0 T_act0 T_fire0 T_routes0 T_posts0 T_trails0 T_feet0 T_images0 T ++ (u1 G T_brigade0 T_brigade1 T_brigade2 T_brigade3 T_brigade4 T_brigade5 T_brigade)) (some (.int R0.1)) (u9 G T0 T_brigade0 T_pad0 T_act0 T_fire0 T_routes0 T_posts0 T_trails0 T_feet0 T_images0 T ++ (u1 G T_brigade0 T_brigade1 T_brigade2 T_brigade3 T_brigade4 T_brigade5 R0.2)) := by
  refine KK_intro (own := RX9) (by decide +kernel) rfl (Nat.le_of_ble_eq_true rfl) rfl ?_
  intro p e s m args below meth c A C
  unfold m9_man at h
  refine go_iload_n C dX9_man_0 1 rfl ?_
  obtain ⟨r1, k2, h⟩ := tbd_e h
  refine go_callS0 C cfX9_91 (wr6 _ (List.mem_of_getElem? (i := 22) rfl)) (m9_isMan_k l G a1 r1 k2) dX9_man_1 (by decide) ⟨Nat.zero_le _, Nat.zero_le _⟩ rfl rfl (Nat.le_of_ble_eq_true rfl) ?_
  refine go_if_ne (tgt := 9) C h dX9_man_4 rfl (fun h => ?_) (fun h => ?_)
  · refine go_iload_n C dX9_man_9 2 rfl ?_
    refine go_iconst (v := 1) C dX9_man_10 rfl ?_
    refine go_iconst (v := 4) C dX9_man_11 rfl ?_
    obtain ⟨r3, k4, h⟩ := tbd_e h
    refine go_callS0 C cfX9_94 (wr7 _ (List.mem_of_getElem? (i := 4) rfl)) (m9_within_k l G a2 (1 : Int32) (4 : Int32) r3 k4) dX9_man_12 (by decide) ⟨Nat.zero_le _, Nat.zero_le _⟩ rfl rfl (Nat.le_of_ble_eq_true rfl) ?_
    refine go_if_eq (tgt := 36) C h dX9_man_15 rfl (fun h => ?_) (fun h => ?_)
    · refine go_bipush (v := -2) C dX9_man_36 rfl ?_
      cases h
      exact go_iret C dX9_man_38 rfl rfl
    · refine go_iload_n C dX9_man_18 3 rfl ?_
      refine go_iconst (v := 0) C dX9_man_19 rfl ?_
      refine go_bipush (v := 99) C dX9_man_20 rfl ?_
      obtain ⟨r5, k6, h⟩ := tbd_e h
      refine go_callS0 C cfX9_94 (wr7 _ (List.mem_of_getElem? (i := 4) rfl)) (m9_within_k l G a3 (0 : Int32) (99 : Int32) r5 k6) dX9_man_22 (by decide) ⟨Nat.zero_le _, Nat.zero_le _⟩ rfl rfl (Nat.le_of_ble_eq_true rfl) ?_
      refine go_if_eq (tgt := 36) C h dX9_man_25 rfl (fun h => ?_) (fun h => ?_)
      · refine go_bipush (v := -2) C dX9_man_36 rfl ?_
        cases h
        exact go_iret C dX9_man_38 rfl rfl
      · refine go_iload C dX9_man_28 4 rfl ?_
        obtain ⟨r7, k8, h⟩ := tbd_e h
        refine go_callS0 C cfX9_97 (wr8 _ (List.mem_of_getElem? (i := 10) rfl)) (m9_isPlace_k l G a4 r7 k8) dX9_man_30 (by decide) ⟨Nat.zero_le _, Nat.zero_le _⟩ rfl rfl (Nat.le_of_ble_eq_true rfl) ?_
        refine go_if_ne (tgt := 39) C h dX9_man_33 rfl (fun h => ?_) (fun h => ?_)
        · refine go_bipush (v := 100) C dX9_man_39 rfl ?_
          refine go_aload_n C dX9_man_41 0 rfl ?_
          refine go_get (v := .ref T_brigade0) C ffX9_12 dX9_man_42 0 rfl rfl ?_
          refine go_iload_n C dX9_man_45 1 rfl ?_
          obtain ⟨r9, k10, h⟩ := tbd_e h
          refine go_callV (q0 := 1) (wr := u9 G T0 T_brigade0 T_pad0 T_act0 T_fire0 T_routes0 T_posts0 T_trails0 T_feet0 T_images0 T) (w' := u9 G T0 T_brigade0 T_pad0 T_act0 T_fire0 T_routes0 T_posts0 T_trails0 T_feet0 T_images0 T ++ (u1 G T_brigade0 T_brigade1 T_brigade2 T_brigade3 T_brigade4 T_brigade5 T_brigade)) C cfX9_100 viX1_placeOf (m1_placeOf_k l G T_brigade0 T_brigade1 T_brigade2 T_brigade3 T_brigade4 T_brigade5 T_brigade a1 r9 k10) dX9_man_46 (by decide) ⟨Nat.zero_le _, Nat.zero_le _⟩ rfl rfl (Nat.le_of_ble_eq_true rfl) rfl [1, 2, 3, 4, 5, 6] [0] [0, 1, 2, 3, 4, 5, 6] rfl rfl (by decide) rfl ?_
          refine go_imul C dX9_man_49 ?_
          refine go_aload_n C dX9_man_50 0 rfl ?_
          refine go_get (v := .ref T_brigade0) C ffX9_12 dX9_man_51 0 rfl rfl ?_
          refine go_iload_n C dX9_man_54 1 rfl ?_
          obtain ⟨r11, k12, h⟩ := tbd_e h
          refine go_callV (q0 := 1) (wr := u9 G T0 T_brigade0 T_pad0 T_act0 T_fire0 T_routes0 T_posts0 T_trails0 T_feet0 T_images0 T) (w' := u9 G T0 T_brigade0 T_pad0 T_act0 T_fire0 T_routes0 T_posts0 T_trails0 T_feet0 T_images0 T ++ (u1 G T_brigade0 T_brigade1 T_brigade2 T_brigade3 T_brigade4 T_brigade5 T_brigade)) C cfX9_103 viX1_coinsOf (m1_coinsOf_k l G T_brigade0 T_brigade1 T_brigade2 T_brigade3 T_brigade4 T_brigade5 T_brigade a1 r11 k12) dX9_man_55 (by decide) ⟨Nat.zero_le _, Nat.zero_le _⟩ rfl rfl (Nat.le_of_ble_eq_true rfl) rfl [1, 2, 3, 4, 5, 6] [0] [0, 1, 2, 3, 4, 5, 6] rfl rfl (by decide) rfl ?_
          refine go_iadd C dX9_man_58 ?_
          refine go_istoreN (lf := fun v13 => [(5, .int v13), (0, .ref T0), (1, .int a1), (2, .int a2), (3, .int a3), (4, .int a4)]) C h dX9_man_59 (by decide) (fun _ => rfl) (fun v13 h => ?_)
          refine go_aload_n C dX9_man_61 1 rfl ?_
          refine go_get (v := .ref T_brigade0) C ffX9_12 dX9_man_62 0 rfl rfl ?_
          refine go_iload_n C dX9_man_65 2 rfl ?_
          refine go_iload_n C dX9_man_66 3 rfl ?_
          refine go_iload_n C dX9_man_67 4 rfl ?_
          refine go_iload C dX9_man_68 5 rfl ?_
          obtain ⟨r14, k15, h⟩ := tbd_e h
          refine go_callV (q0 := 1) (wr := u9 G T0 T_brigade0 T_pad0 T_act0 T_fire0 T_routes0 T_posts0 T_trails0 T_feet0 T_images0 T) (w' := u9 G T0 T_brigade0 T_pad0 T_act0 T_fire0 T_routes0 T_posts0 T_trails0 T_feet0 T_images0 T ++ (u1 G T_brigade0 T_brigade1 T_brigade2 T_brigade3 T_brigade4 T_brigade5 r14)) C cfX9_106 viX1_setMan (m1_setMan_k l G T_brigade0 T_brigade1 T_brigade2 T_brigade3 T_brigade4 T_brigade5 T_brigade a1 a2 a3 a4 r14 k15) dX9_man_70 (by decide) ⟨Nat.zero_le _, Nat.zero_le _⟩ rfl rfl (Nat.le_of_ble_eq_true rfl) rfl [1, 2, 3, 4, 5, 6] [0] [0, 1, 2, 3, 4, 5, 6] rfl rfl (by decide) rfl ?_
          refine go_iload C dX9_man_73 0 rfl ?_
          cases h
          exact go_iret C dX9_man_75 rfl rfl
        · refine go_bipush (v := -2) C dX9_man_36 rfl ?_
          cases h
          exact go_iret C dX9_man_38 rfl rfl
  · refine go_iconst (v := -1) C dX9_man_7 rfl ?_
    cases h
    exact go_iret C dX9_man_8 rfl rfl

set_option maxRecDepth 100000 in
set_option maxHeartbeats 4000000 in
theorem m9_say_k (l : Launch) (G : gG) (T0 T_brigade0 T_pad0 T_act0 T_fire0 T_routes0 T_posts0 T_trails0 T_feet0 T_images0 T_pad1 : Nat) (T : SX9) (T_pad : SX5) (a1 : Int32) (R0 : Int32 × SX5) (h : m9_say T T_pad a1 = some R0) : KK l G yX9_say cX9_say 2 (some .int) 1 22 [.ref T0, .int a1] (u9 G T0 T_brigade0 T_pad0 T_act0 T_fire0 T_routes0 T_posts0 T_trails0 T_feet0 T_images0 T ++ (u5 G T_pad0 T_pad1 T_pad)) (some (.int R0.1)) (u9 G T0 T_brigade0 T_pad0 T_act0 T_fire0 T_routes0 T_posts0 T_trails0 T_feet0 T_images0 T ++ (u5 G T_pad0 T_pad1 R0.2)) := by
  refine KK_intro (own := RX9) (by decide +kernel) rfl (Nat.le_of_ble_eq_true rfl) rfl ?_
  intro p e s m args below meth c A C
  unfold m9_say at h
  refine go_iload_n C dX9_say_0 1 rfl ?_
  refine go_bipush (v := 33) C dX9_say_1 rfl ?_
  refine go_bipush (v := 126) C dX9_say_3 rfl ?_
  obtain ⟨r1, k2, h⟩ := tbd_e h
  refine go_callS0 C cfX9_94 (wr7 _ (List.mem_of_getElem? (i := 4) rfl)) (m9_within_k l G a1 (33 : Int32) (126 : Int32) r1 k2) dX9_say_5 (by decide) ⟨Nat.zero_le _, Nat.zero_le _⟩ rfl rfl (Nat.le_of_ble_eq_true rfl) ?_
  refine go_if_ne (tgt := 14) C h dX9_say_8 rfl (fun h => ?_) (fun h => ?_)
  · refine go_aload_n C dX9_say_14 0 rfl ?_
    refine go_get (v := .ref T_pad0) C ffX9_19 dX9_say_15 0 rfl rfl ?_
    refine go_iload_n C dX9_say_18 1 rfl ?_
    obtain ⟨r3, k4, h⟩ := tbd_e h
    refine go_callV (q0 := 1) (wr := u9 G T0 T_brigade0 T_pad0 T_act0 T_fire0 T_routes0 T_posts0 T_trails0 T_feet0 T_images0 T) (w' := u9 G T0 T_brigade0 T_pad0 T_act0 T_fire0 T_routes0 T_posts0 T_trails0 T_feet0 T_images0 T ++ (u5 G T_pad0 T_pad1 r3.2)) C cfX9_110 viX5_add (m5_add_k l G T_pad0 T_pad1 T_pad a1 r3 k4) dX9_say_19 (by decide) ⟨Nat.zero_le _, Nat.zero_le _⟩ rfl rfl (Nat.le_of_ble_eq_true rfl) rfl [1, 2] [0] [0, 1, 2] rfl rfl (by decide) rfl ?_
    refine go_if_eq (tgt := 35) C h dX9_say_22 rfl (fun h => ?_) (fun h => ?_)
    · refine go_bipush (v := -4) C dX9_say_35 rfl ?_
      cases h
      exact go_iret C dX9_say_37 rfl rfl
    · refine go_aload_n C dX9_say_25 0 rfl ?_
      refine go_get (v := .ref T_pad0) C ffX9_19 dX9_say_26 0 rfl rfl ?_
      obtain ⟨r5, k6, h⟩ := tbd_e h
      refine go_callV (q0 := 1) (wr := u9 G T0 T_brigade0 T_pad0 T_act0 T_fire0 T_routes0 T_posts0 T_trails0 T_feet0 T_images0 T) (w' := u9 G T0 T_brigade0 T_pad0 T_act0 T_fire0 T_routes0 T_posts0 T_trails0 T_feet0 T_images0 T ++ (u5 G T_pad0 T_pad1 r3.2)) C cfX9_113 viX5_size (m5_size_k l G T_pad0 T_pad1 r3.2 r5 k6) dX9_say_29 (by decide) ⟨Nat.zero_le _, Nat.zero_le _⟩ rfl rfl (Nat.le_of_ble_eq_true rfl) rfl [1, 2] [0] [0, 1, 2] rfl rfl (by decide) rfl ?_
      refine go_goto (tgt := 37) C dX9_say_32 rfl ?_
      cases h
      exact go_iret C dX9_say_37 rfl rfl
  · refine go_bipush (v := -2) C dX9_say_11 rfl ?_
    cases h
    exact go_iret C dX9_say_13 rfl rfl

set_option maxRecDepth 100000 in
set_option maxHeartbeats 4000000 in
theorem m9_wipe_k (l : Launch) (G : gG) (T0 T_brigade0 T_pad0 T_act0 T_fire0 T_routes0 T_posts0 T_trails0 T_feet0 T_images0 T_pad1 : Nat) (T : SX9) (T_pad : SX5) (R0 : Int32 × SX5) (h : m9_wipe T T_pad = some R0) : KK l G yX9_wipe cX9_wipe 2 (some .int) 1 20 [.ref T0] (u9 G T0 T_brigade0 T_pad0 T_act0 T_fire0 T_routes0 T_posts0 T_trails0 T_feet0 T_images0 T ++ (u5 G T_pad0 T_pad1 T_pad)) (some (.int R0.1)) (u9 G T0 T_brigade0 T_pad0 T_act0 T_fire0 T_routes0 T_posts0 T_trails0 T_feet0 T_images0 T ++ (u5 G T_pad0 T_pad1 R0.2)) := by
  refine KK_intro (own := RX9) (by decide +kernel) rfl (Nat.le_of_ble_eq_true rfl) rfl ?_
  intro p e s m args below meth c A C
  unfold m9_wipe at h
  refine go_aload_n C dX9_wipe_0 0 rfl ?_
  refine go_get (v := .ref T_pad0) C ffX9_19 dX9_wipe_1 0 rfl rfl ?_
  obtain ⟨r1, k2, h⟩ := tbd_e h
  refine go_callV (q0 := 1) (wr := u9 G T0 T_brigade0 T_pad0 T_act0 T_fire0 T_routes0 T_posts0 T_trails0 T_feet0 T_images0 T) (w' := u9 G T0 T_brigade0 T_pad0 T_act0 T_fire0 T_routes0 T_posts0 T_trails0 T_feet0 T_images0 T ++ (u5 G T_pad0 T_pad1 T_pad)) C cfX9_113 viX5_size (m5_size_k l G T_pad0 T_pad1 T_pad r1 k2) dX9_wipe_4 (by decide) ⟨Nat.zero_le _, Nat.zero_le _⟩ rfl rfl (Nat.le_of_ble_eq_true rfl) rfl [1, 2] [0] [0, 1, 2] rfl rfl (by decide) rfl ?_
  refine go_istore_n (lv' := [(1, .int r1), (0, .ref T0)]) C dX9_wipe_7 (by decide) rfl ?_
  refine go_aload_n C dX9_wipe_8 1 rfl ?_
  refine go_get (v := .ref T_pad0) C ffX9_19 dX9_wipe_9 0 rfl rfl ?_
  obtain ⟨r3, k4, h⟩ := tbd_e h
  refine go_callV (q0 := 1) (wr := u9 G T0 T_brigade0 T_pad0 T_act0 T_fire0 T_routes0 T_posts0 T_trails0 T_feet0 T_images0 T) (w' := u9 G T0 T_brigade0 T_pad0 T_act0 T_fire0 T_routes0 T_posts0 T_trails0 T_feet0 T_images0 T ++ (u5 G T_pad0 T_pad1 r3)) C cfX9_117 viX5_clear (m5_clear_k l G T_pad0 T_pad1 T_pad r3 k4) dX9_wipe_12 (by decide) ⟨Nat.zero_le _, Nat.zero_le _⟩ rfl rfl (Nat.le_of_ble_eq_true rfl) rfl [1, 2] [0] [0, 1, 2] rfl rfl (by decide) rfl ?_
  refine go_iload_n C dX9_wipe_15 0 rfl ?_
  cases h
  exact go_iret C dX9_wipe_16 rfl rfl

set_option maxRecDepth 100000 in
set_option maxHeartbeats 4000000 in
theorem m9_fault_k (l : Launch) (G : gG) (T0 T_brigade0 T_pad0 T_act0 T_fire0 T_routes0 T_posts0 T_trails0 T_feet0 T_images0 T_pad1 : Nat) (T : SX9) (T_pad : SX5) (R0 : Int32) (h : m9_fault T T_pad = some R0) : KK l G yX9_fault cX9_fault 1 (some .int) 4 89 [.ref T0] (u9 G T0 T_brigade0 T_pad0 T_act0 T_fire0 T_routes0 T_posts0 T_trails0 T_feet0 T_images0 T ++ (u5 G T_pad0 T_pad1 T_pad)) (some (.int R0)) (u9 G T0 T_brigade0 T_pad0 T_act0 T_fire0 T_routes0 T_posts0 T_trails0 T_feet0 T_images0 T ++ (u5 G T_pad0 T_pad1 T_pad)) := by
  refine KK_intro (own := RX9) (by decide +kernel) rfl (Nat.le_of_ble_eq_true rfl) rfl ?_
  intro p e s m args below meth c A C
  unfold m9_fault at h
  refine go_aload_n C dX9_fault_0 0 rfl ?_
  refine go_get (v := .ref T_pad0) C ffX9_19 dX9_fault_1 0 rfl rfl ?_
  obtain ⟨r1, k2, h⟩ := tbd_e h
  refine go_callV (q0 := 1) (wr := u9 G T0 T_brigade0 T_pad0 T_act0 T_fire0 T_routes0 T_posts0 T_trails0 T_feet0 T_images0 T) (w' := u9 G T0 T_brigade0 T_pad0 T_act0 T_fire0 T_routes0 T_posts0 T_trails0 T_feet0 T_images0 T ++ (u5 G T_pad0 T_pad1 T_pad)) C cfX9_120 viX5_firstFault (m5_firstFault_k l G T_pad0 T_pad1 T_pad r1 k2) dX9_fault_4 (by decide) ⟨Nat.zero_le _, Nat.zero_le _⟩ rfl rfl (Nat.le_of_ble_eq_true rfl) rfl [1, 2] [0] [0, 1, 2] rfl rfl (by decide) rfl ?_
  cases h
  exact go_iret C dX9_fault_7 rfl rfl

set_option maxRecDepth 100000 in
set_option maxHeartbeats 4000000 in
theorem m9_judge_k (l : Launch) (G : gG) (T0 T_brigade0 T_pad0 T_act0 T_fire0 T_routes0 T_posts0 T_trails0 T_feet0 T_images0 T_brigade1 T_brigade2 T_brigade3 T_brigade4 T_brigade5 T_fire_after0 T_fire_act0 T_fire_after1 T_fire_after2 T_fire_after3 T_fire_after4 T_fire_after5 T_pad1 : Nat) (T : SX9) (T_brigade : SX1) (T_fire : SX4) (T_fire_act : SX0) (T_fire_after : SX1) (T_pad : SX5) (a1 : Int32) (R0 : Int32 × SX4 × SX0 × SX1) (h : m9_judge T T_brigade T_fire T_fire_act T_fire_after T_pad a1 = some R0) : KK l G yX9_judge cX9_judge 2 (some .int) 6 131 [.ref T0, .int a1] (u9 G T0 T_brigade0 T_pad0 T_act0 T_fire0 T_routes0 T_posts0 T_trails0 T_feet0 T_images0 T ++ (u1 G T_brigade0 T_brigade1 T_brigade2 T_brigade3 T_brigade4 T_brigade5 T_brigade ++ (u4 G T_fire0 T_fire_after0 T_fire_act0 T_fire ++ (u0 G T_fire_act0 T_fire_act ++ (u1 G T_fire_after0 T_fire_after1 T_fire_after2 T_fire_after3 T_fire_after4 T_fire_after5 T_fire_after ++ (u5 G T_pad0 T_pad1 T_pad)))))) (some (.int R0.1)) (u9 G T0 T_brigade0 T_pad0 T_act0 T_fire0 T_routes0 T_posts0 T_trails0 T_feet0 T_images0 T ++ (u1 G T_brigade0 T_brigade1 T_brigade2 T_brigade3 T_brigade4 T_brigade5 T_brigade ++ (u4 G T_fire0 T_fire_after0 T_fire_act0 R0.2.1 ++ (u0 G T_fire_act0 R0.2.2.1 ++ (u1 G T_fire_after0 T_fire_after1 T_fire_after2 T_fire_after3 T_fire_after4 T_fire_after5 R0.2.2.2 ++ (u5 G T_pad0 T_pad1 T_pad)))))) := by
  refine KK_intro (own := RX9) (by decide +kernel) rfl (Nat.le_of_ble_eq_true rfl) rfl ?_
  intro p e s m args below meth c A C
  unfold m9_judge at h
  refine go_iload_n C dX9_judge_0 1 rfl ?_
  refine go_iconst (v := 0) C dX9_judge_1 rfl ?_
  refine go_iconst (v := 1) C dX9_judge_2 rfl ?_
  obtain ⟨r1, k2, h⟩ := tbd_e h
  refine go_callS0 C cfX9_94 (wr7 _ (List.mem_of_getElem? (i := 4) rfl)) (m9_within_k l G a1 (0 : Int32) (1 : Int32) r1 k2) dX9_judge_3 (by decide) ⟨Nat.zero_le _, Nat.zero_le _⟩ rfl rfl (Nat.le_of_ble_eq_true rfl) ?_
  refine go_if_ne (tgt := 12) C h dX9_judge_6 rfl (fun h => ?_) (fun h => ?_)
  · refine go_aload_n C dX9_judge_12 0 rfl ?_
    refine go_get (v := .ref T_pad0) C ffX9_19 dX9_judge_13 0 rfl rfl ?_
    obtain ⟨r3, k4, h⟩ := tbd_e h
    refine go_callV (q0 := 15) (wr := u9 G T0 T_brigade0 T_pad0 T_act0 T_fire0 T_routes0 T_posts0 T_trails0 T_feet0 T_images0 T ++ (u1 G T_brigade0 T_brigade1 T_brigade2 T_brigade3 T_brigade4 T_brigade5 T_brigade ++ (u4 G T_fire0 T_fire_after0 T_fire_act0 T_fire ++ (u0 G T_fire_act0 T_fire_act ++ (u1 G T_fire_after0 T_fire_after1 T_fire_after2 T_fire_after3 T_fire_after4 T_fire_after5 T_fire_after))))) (w' := u9 G T0 T_brigade0 T_pad0 T_act0 T_fire0 T_routes0 T_posts0 T_trails0 T_feet0 T_images0 T ++ (u1 G T_brigade0 T_brigade1 T_brigade2 T_brigade3 T_brigade4 T_brigade5 T_brigade ++ (u4 G T_fire0 T_fire_after0 T_fire_act0 T_fire ++ (u0 G T_fire_act0 T_fire_act ++ (u1 G T_fire_after0 T_fire_after1 T_fire_after2 T_fire_after3 T_fire_after4 T_fire_after5 T_fire_after ++ (u5 G T_pad0 T_pad1 T_pad)))))) C cfX9_120 viX5_firstFault (m5_firstFault_k l G T_pad0 T_pad1 T_pad r3 k4) dX9_judge_16 (by decide) ⟨Nat.zero_le _, Nat.zero_le _⟩ rfl rfl (Nat.le_of_ble_eq_true rfl) rfl [15, 16] [0, 1, 2, 3, 4, 5, 6, 7, 8, 9, 10, 11, 12, 13, 14] [0, 1, 2, 3, 4, 5, 6, 7, 8, 9, 10, 11, 12, 13, 14, 15, 16] rfl rfl (by decide) rfl ?_
    refine go_bipush (v := -6) C dX9_judge_19 rfl ?_
    refine go_icmp_eq (tgt := 27) C h dX9_judge_21 rfl (fun h => ?_) (fun h => ?_)
    · refine go_aload_n C dX9_judge_27 0 rfl ?_
      refine go_get (v := .ref T_fire0) C ffX9_33 dX9_judge_28 0 rfl rfl ?_
      refine go_aload_n C dX9_judge_31 0 rfl ?_
      refine go_get (v := .ref T_pad0) C ffX9_19 dX9_judge_32 0 rfl rfl ?_
      refine go_aload_n C dX9_judge_35 0 rfl ?_
      refine go_get (v := .ref T_brigade0) C ffX9_12 dX9_judge_36 0 rfl rfl ?_
      obtain ⟨r5, k6, h⟩ := tbd_e h
      refine go_callV (q0 := 7) (wr := u9 G T0 T_brigade0 T_pad0 T_act0 T_fire0 T_routes0 T_posts0 T_trails0 T_feet0 T_images0 T) (w' := u9 G T0 T_brigade0 T_pad0 T_act0 T_fire0 T_routes0 T_posts0 T_trails0 T_feet0 T_images0 T ++ (u1 G T_brigade0 T_brigade1 T_brigade2 T_brigade3 T_brigade4 T_brigade5 T_brigade ++ (u4 G T_fire0 T_fire_after0 T_fire_act0 r5.2.1 ++ (u0 G T_fire_act0 r5.2.2.1 ++ (u1 G T_fire_after0 T_fire_after1 T_fire_after2 T_fire_after3 T_fire_after4 T_fire_after5 r5.2.2.2 ++ (u5 G T_pad0 T_pad1 T_pad)))))) C cfX9_123 viX4_burn (m4_burn_k l G T_fire0 T_fire_after0 T_fire_act0 T_pad0 T_pad1 T_brigade0 T_brigade1 T_brigade2 T_brigade3 T_brigade4 T_brigade5 T_fire_after1 T_fire_after2 T_fire_after3 T_fire_after4 T_fire_after5 T_fire T_pad T_brigade T_fire_act T_fire_after r5 k6) dX9_judge_39 (by decide) ⟨Nat.zero_le _, Nat.zero_le _⟩ rfl rfl (Nat.le_of_ble_eq_true rfl) rfl [7, 15, 16, 1, 2, 3, 4, 5, 6, 8, 9, 10, 11, 12, 13, 14] [0] [0, 4, 5, 6, 7, 8, 9, 1, 10, 11, 12, 13, 14, 15, 16, 2, 3] rfl rfl (by decide) rfl ?_
      refine go_if_eq (tgt := 48) C h dX9_judge_42 rfl (fun h => ?_) (fun h => ?_)
      · refine go_iload_n C dX9_judge_48 1 rfl ?_
        refine go_if_ne (tgt := 62) C h dX9_judge_49 rfl (fun h => ?_) (fun h => ?_)
        · refine go_aload_n C dX9_judge_62 0 rfl ?_
          refine go_get (v := .ref T_fire0) C ffX9_33 dX9_judge_63 0 rfl rfl ?_
          obtain ⟨r7, k8, h⟩ := tbd_e h
          refine go_callV (q0 := 7) (wr := u9 G T0 T_brigade0 T_pad0 T_act0 T_fire0 T_routes0 T_posts0 T_trails0 T_feet0 T_images0 T ++ (u1 G T_brigade0 T_brigade1 T_brigade2 T_brigade3 T_brigade4 T_brigade5 T_brigade ++ (u0 G T_fire_act0 r5.2.2.1 ++ (u1 G T_fire_after0 T_fire_after1 T_fire_after2 T_fire_after3 T_fire_after4 T_fire_after5 r5.2.2.2 ++ (u5 G T_pad0 T_pad1 T_pad))))) (w' := u9 G T0 T_brigade0 T_pad0 T_act0 T_fire0 T_routes0 T_posts0 T_trails0 T_feet0 T_images0 T ++ (u1 G T_brigade0 T_brigade1 T_brigade2 T_brigade3 T_brigade4 T_brigade5 T_brigade ++ (u4 G T_fire0 T_fire_after0 T_fire_act0 r5.2.1 ++ (u0 G T_fire_act0 r5.2.2.1 ++ (u1 G T_fire_after0 T_fire_after1 T_fire_after2 T_fire_after3 T_fire_after4 T_fire_after5 r5.2.2.2 ++ (u5 G T_pad0 T_pad1 T_pad)))))) C cfX9_130 viX4_reason (m4_reason_k l G T_fire0 T_fire_after0 T_fire_act0 r5.2.1 r7 k8) dX9_judge_66 (by decide) ⟨Nat.zero_le _, Nat.zero_le _⟩ rfl rfl (Nat.le_of_ble_eq_true rfl) rfl [7] [0, 1, 2, 3, 4, 5, 6, 8, 9, 10, 11, 12, 13, 14, 15, 16] [0, 1, 2, 3, 4, 5, 6, 16, 7, 8, 9, 10, 11, 12, 13, 14, 15] rfl rfl (by decide) rfl ?_
          cases h
          exact go_iret C dX9_judge_69 rfl rfl
        · refine go_aload_n C dX9_judge_52 0 rfl ?_
          refine go_get (v := .ref T_fire0) C ffX9_33 dX9_judge_53 0 rfl rfl ?_
          obtain ⟨r9, k10, h⟩ := tbd_e h
          refine go_callV (q0 := 7) (wr := u9 G T0 T_brigade0 T_pad0 T_act0 T_fire0 T_routes0 T_posts0 T_trails0 T_feet0 T_images0 T ++ (u1 G T_brigade0 T_brigade1 T_brigade2 T_brigade3 T_brigade4 T_brigade5 T_brigade ++ (u0 G T_fire_act0 r5.2.2.1 ++ (u1 G T_fire_after0 T_fire_after1 T_fire_after2 T_fire_after3 T_fire_after4 T_fire_after5 r5.2.2.2 ++ (u5 G T_pad0 T_pad1 T_pad))))) (w' := u9 G T0 T_brigade0 T_pad0 T_act0 T_fire0 T_routes0 T_posts0 T_trails0 T_feet0 T_images0 T ++ (u1 G T_brigade0 T_brigade1 T_brigade2 T_brigade3 T_brigade4 T_brigade5 T_brigade ++ (u4 G T_fire0 T_fire_after0 T_fire_act0 r5.2.1 ++ (u0 G T_fire_act0 r5.2.2.1 ++ (u1 G T_fire_after0 T_fire_after1 T_fire_after2 T_fire_after3 T_fire_after4 T_fire_after5 r5.2.2.2 ++ (u5 G T_pad0 T_pad1 T_pad)))))) C cfX9_127 viX4_actsDone (m4_actsDone_k l G T_fire0 T_fire_after0 T_fire_act0 r5.2.1 r9 k10) dX9_judge_56 (by decide) ⟨Nat.zero_le _, Nat.zero_le _⟩ rfl rfl (Nat.le_of_ble_eq_true rfl) rfl [7] [0, 1, 2, 3, 4, 5, 6, 8, 9, 10, 11, 12, 13, 14, 15, 16] [0, 1, 2, 3, 4, 5, 6, 16, 7, 8, 9, 10, 11, 12, 13, 14, 15] rfl rfl (by decide) rfl ?_
          refine go_goto (tgt := 69) C dX9_judge_59 rfl ?_
          cases h
          exact go_iret C dX9_judge_69 rfl rfl
      · refine go_bipush (v := -6) C dX9_judge_45 rfl ?_
        cases h
        exact go_iret C dX9_judge_47 rfl rfl
    · refine go_bipush (v := -5) C dX9_judge_24 rfl ?_
      cases h
      exact go_iret C dX9_judge_26 rfl rfl
  · refine go_bipush (v := -2) C dX9_judge_9 rfl ?_
    cases h
    exact go_iret C dX9_judge_11 rfl rfl

set_option maxRecDepth 100000 in
set_option maxHeartbeats 4000000 in
theorem m9_done_k (l : Launch) (G : gG) (T0 T_brigade0 T_pad0 T_act0 T_fire0 T_routes0 T_posts0 T_trails0 T_feet0 T_images0 T_brigade1 T_brigade2 T_brigade3 T_brigade4 T_brigade5 T_fire_after0 T_fire_act0 T_fire_after1 T_fire_after2 T_fire_after3 T_fire_after4 T_fire_after5 T_pad1 : Nat) (T : SX9) (T_brigade : SX1) (T_fire : SX4) (T_fire_act : SX0) (T_fire_after : SX1) (T_pad : SX5) (R0 : Int32 × SX1 × SX4 × SX0 × SX1 × SX5) (h : m9_done T T_brigade T_fire T_fire_act T_fire_after T_pad = some R0) : KK l G yX9_done cX9_done 1 (some .int) 6 131 [.ref T0] (u9 G T0 T_brigade0 T_pad0 T_act0 T_fire0 T_routes0 T_posts0 T_trails0 T_feet0 T_images0 T ++ (u1 G T_brigade0 T_brigade1 T_brigade2 T_brigade3 T_brigade4 T_brigade5 T_brigade ++ (u4 G T_fire0 T_fire_after0 T_fire_act0 T_fire ++ (u0 G T_fire_act0 T_fire_act ++ (u1 G T_fire_after0 T_fire_after1 T_fire_after2 T_fire_after3 T_fire_after4 T_fire_after5 T_fire_after ++ (u5 G T_pad0 T_pad1 T_pad)))))) (some (.int R0.1)) (u9 G T0 T_brigade0 T_pad0 T_act0 T_fire0 T_routes0 T_posts0 T_trails0 T_feet0 T_images0 T ++ (u1 G T_brigade0 T_brigade1 T_brigade2 T_brigade3 T_brigade4 T_brigade5 R0.2.1 ++ (u4 G T_fire0 T_fire_after0 T_fire_act0 R0.2.2.1 ++ (u0 G T_fire_act0 R0.2.2.2.1 ++ (u1 G T_fire_after0 T_fire_after1 T_fire_after2 T_fire_after3 T_fire_after4 T_fire_after5 R0.2.2.2.2.1 ++ (u5 G T_pad0 T_pad1 R0.2.2.2.2.2)))))) := by
  refine KK_intro (own := RX9) (by decide +kernel) rfl (Nat.le_of_ble_eq_true rfl) rfl ?_
  intro p e s m args below meth c A C
  unfold m9_done at h
  refine go_aload_n C dX9_done_0 0 rfl ?_
  refine go_get (v := .ref T_fire0) C ffX9_33 dX9_done_1 0 rfl rfl ?_
  refine go_aload_n C dX9_done_4 0 rfl ?_
  refine go_get (v := .ref T_pad0) C ffX9_19 dX9_done_5 0 rfl rfl ?_
  refine go_aload_n C dX9_done_8 0 rfl ?_
  refine go_get (v := .ref T_brigade0) C ffX9_12 dX9_done_9 0 rfl rfl ?_
  obtain ⟨r1, k2, h⟩ := tbd_e h
  refine go_callV (q0 := 7) (wr := u9 G T0 T_brigade0 T_pad0 T_act0 T_fire0 T_routes0 T_posts0 T_trails0 T_feet0 T_images0 T) (w' := u9 G T0 T_brigade0 T_pad0 T_act0 T_fire0 T_routes0 T_posts0 T_trails0 T_feet0 T_images0 T ++ (u1 G T_brigade0 T_brigade1 T_brigade2 T_brigade3 T_brigade4 T_brigade5 T_brigade ++ (u4 G T_fire0 T_fire_after0 T_fire_act0 r1.2.1 ++ (u0 G T_fire_act0 r1.2.2.1 ++ (u1 G T_fire_after0 T_fire_after1 T_fire_after2 T_fire_after3 T_fire_after4 T_fire_after5 r1.2.2.2 ++ (u5 G T_pad0 T_pad1 T_pad)))))) C cfX9_123 viX4_burn (m4_burn_k l G T_fire0 T_fire_after0 T_fire_act0 T_pad0 T_pad1 T_brigade0 T_brigade1 T_brigade2 T_brigade3 T_brigade4 T_brigade5 T_fire_after1 T_fire_after2 T_fire_after3 T_fire_after4 T_fire_after5 T_fire T_pad T_brigade T_fire_act T_fire_after r1 k2) dX9_done_12 (by decide) ⟨Nat.zero_le _, Nat.zero_le _⟩ rfl rfl (Nat.le_of_ble_eq_true rfl) rfl [7, 15, 16, 1, 2, 3, 4, 5, 6, 8, 9, 10, 11, 12, 13, 14] [0] [0, 4, 5, 6, 7, 8, 9, 1, 10, 11, 12, 13, 14, 15, 16, 2, 3] rfl rfl (by decide) rfl ?_
  refine go_if_ne (tgt := 21) C h dX9_done_15 rfl (fun h => ?_) (fun h => ?_)
  · refine go_aload_n C dX9_done_21 0 rfl ?_
    refine go_get (v := .ref T_brigade0) C ffX9_12 dX9_done_22 0 rfl rfl ?_
    refine go_aload_n C dX9_done_25 0 rfl ?_
    refine go_get (v := .ref T_fire0) C ffX9_33 dX9_done_26 0 rfl rfl ?_
    obtain ⟨r3, k4, h⟩ := tbd_e h
    refine go_callV (q0 := 7) (wr := u9 G T0 T_brigade0 T_pad0 T_act0 T_fire0 T_routes0 T_posts0 T_trails0 T_feet0 T_images0 T ++ (u1 G T_brigade0 T_brigade1 T_brigade2 T_brigade3 T_brigade4 T_brigade5 T_brigade ++ (u0 G T_fire_act0 r1.2.2.1 ++ (u1 G T_fire_after0 T_fire_after1 T_fire_after2 T_fire_after3 T_fire_after4 T_fire_after5 r1.2.2.2 ++ (u5 G T_pad0 T_pad1 T_pad))))) (w' := u9 G T0 T_brigade0 T_pad0 T_act0 T_fire0 T_routes0 T_posts0 T_trails0 T_feet0 T_images0 T ++ (u1 G T_brigade0 T_brigade1 T_brigade2 T_brigade3 T_brigade4 T_brigade5 T_brigade ++ (u4 G T_fire0 T_fire_after0 T_fire_act0 r1.2.1 ++ (u0 G T_fire_act0 r1.2.2.1 ++ (u1 G T_fire_after0 T_fire_after1 T_fire_after2 T_fire_after3 T_fire_after4 T_fire_after5 r1.2.2.2 ++ (u5 G T_pad0 T_pad1 T_pad)))))) C cfX9_133 viX4_behindIt (m4_behindIt_k l G T_fire0 T_fire_after0 T_fire_act0 r1.2.1 r3 k4) dX9_done_29 (by decide) ⟨Nat.zero_le _, Nat.zero_le _⟩ rfl rfl (Nat.le_of_ble_eq_true rfl) rfl [7] [0, 1, 2, 3, 4, 5, 6, 8, 9, 10, 11, 12, 13, 14, 15, 16] [0, 1, 2, 3, 4, 5, 6, 16, 7, 8, 9, 10, 11, 12, 13, 14, 15] rfl rfl (by decide) rfl ?_
    obtain ⟨r5, k6, h⟩ := tbd_e h
    refine go_callV (q0 := 1) (wr := u9 G T0 T_brigade0 T_pad0 T_act0 T_fire0 T_routes0 T_posts0 T_trails0 T_feet0 T_images0 T ++ (u4 G T_fire0 T_fire_after0 T_fire_act0 r1.2.1 ++ (u0 G T_fire_act0 r1.2.2.1 ++ (u5 G T_pad0 T_pad1 T_pad)))) (w' := u9 G T0 T_brigade0 T_pad0 T_act0 T_fire0 T_routes0 T_posts0 T_trails0 T_feet0 T_images0 T ++ (u1 G T_brigade0 T_brigade1 T_brigade2 T_brigade3 T_brigade4 T_brigade5 r5 ++ (u4 G T_fire0 T_fire_after0 T_fire_act0 r1.2.1 ++ (u0 G T_fire_act0 r1.2.2.1 ++ (u1 G T_fire_after0 T_fire_after1 T_fire_after2 T_fire_after3 T_fire_after4 T_fire_after5 r1.2.2.2 ++ (u5 G T_pad0 T_pad1 T_pad)))))) C cfX9_137 viX1_copyFrom (m1_copyFrom_k l G T_brigade0 T_brigade1 T_brigade2 T_brigade3 T_brigade4 T_brigade5 T_fire_after0 T_fire_after1 T_fire_after2 T_fire_after3 T_fire_after4 T_fire_after5 T_brigade r1.2.2.2 r5 k6) dX9_done_32 (by decide) ⟨Nat.zero_le _, Nat.zero_le _⟩ rfl rfl (Nat.le_of_ble_eq_true rfl) rfl [1, 2, 3, 4, 5, 6, 9, 10, 11, 12, 13, 14] [0, 7, 8, 15, 16] [0, 5, 6, 7, 8, 9, 10, 1, 2, 11, 12, 13, 14, 15, 16, 3, 4] rfl rfl (by decide) rfl ?_
    refine go_aload_n C dX9_done_35 0 rfl ?_
    refine go_get (v := .ref T_pad0) C ffX9_19 dX9_done_36 0 rfl rfl ?_
    obtain ⟨r7, k8, h⟩ := tbd_e h
    refine go_callV (q0 := 15) (wr := u9 G T0 T_brigade0 T_pad0 T_act0 T_fire0 T_routes0 T_posts0 T_trails0 T_feet0 T_images0 T ++ (u1 G T_brigade0 T_brigade1 T_brigade2 T_brigade3 T_brigade4 T_brigade5 r5 ++ (u4 G T_fire0 T_fire_after0 T_fire_act0 r1.2.1 ++ (u0 G T_fire_act0 r1.2.2.1 ++ (u1 G T_fire_after0 T_fire_after1 T_fire_after2 T_fire_after3 T_fire_after4 T_fire_after5 r1.2.2.2))))) (w' := u9 G T0 T_brigade0 T_pad0 T_act0 T_fire0 T_routes0 T_posts0 T_trails0 T_feet0 T_images0 T ++ (u1 G T_brigade0 T_brigade1 T_brigade2 T_brigade3 T_brigade4 T_brigade5 r5 ++ (u4 G T_fire0 T_fire_after0 T_fire_act0 r1.2.1 ++ (u0 G T_fire_act0 r1.2.2.1 ++ (u1 G T_fire_after0 T_fire_after1 T_fire_after2 T_fire_after3 T_fire_after4 T_fire_after5 r1.2.2.2 ++ (u5 G T_pad0 T_pad1 r7)))))) C cfX9_117 viX5_clear (m5_clear_k l G T_pad0 T_pad1 T_pad r7 k8) dX9_done_39 (by decide) ⟨Nat.zero_le _, Nat.zero_le _⟩ rfl rfl (Nat.le_of_ble_eq_true rfl) rfl [15, 16] [0, 1, 2, 3, 4, 5, 6, 7, 8, 9, 10, 11, 12, 13, 14] [0, 1, 2, 3, 4, 5, 6, 7, 8, 9, 10, 11, 12, 13, 14, 15, 16] rfl rfl (by decide) rfl ?_
    refine go_aload_n C dX9_done_42 0 rfl ?_
    refine go_get (v := .ref T_fire0) C ffX9_33 dX9_done_43 0 rfl rfl ?_
    obtain ⟨r9, k10, h⟩ := tbd_e h
    refine go_callV (q0 := 7) (wr := u9 G T0 T_brigade0 T_pad0 T_act0 T_fire0 T_routes0 T_posts0 T_trails0 T_feet0 T_images0 T ++ (u1 G T_brigade0 T_brigade1 T_brigade2 T_brigade3 T_brigade4 T_brigade5 r5 ++ (u0 G T_fire_act0 r1.2.2.1 ++ (u1 G T_fire_after0 T_fire_after1 T_fire_after2 T_fire_after3 T_fire_after4 T_fire_after5 r1.2.2.2 ++ (u5 G T_pad0 T_pad1 r7))))) (w' := u9 G T0 T_brigade0 T_pad0 T_act0 T_fire0 T_routes0 T_posts0 T_trails0 T_feet0 T_images0 T ++ (u1 G T_brigade0 T_brigade1 T_brigade2 T_brigade3 T_brigade4 T_brigade5 r5 ++ (u4 G T_fire0 T_fire_after0 T_fire_act0 r1.2.1 ++ (u0 G T_fire_act0 r1.2.2.1 ++ (u1 G T_fire_after0 T_fire_after1 T_fire_after2 T_fire_after3 T_fire_after4 T_fire_after5 r1.2.2.2 ++ (u5 G T_pad0 T_pad1 r7)))))) C cfX9_127 viX4_actsDone (m4_actsDone_k l G T_fire0 T_fire_after0 T_fire_act0 r1.2.1 r9 k10) dX9_done_46 (by decide) ⟨Nat.zero_le _, Nat.zero_le _⟩ rfl rfl (Nat.le_of_ble_eq_true rfl) rfl [7] [0, 1, 2, 3, 4, 5, 6, 8, 9, 10, 11, 12, 13, 14, 15, 16] [0, 1, 2, 3, 4, 5, 6, 16, 7, 8, 9, 10, 11, 12, 13, 14, 15] rfl rfl (by decide) rfl ?_
    cases h
    exact go_iret C dX9_done_49 rfl rfl
  · refine go_bipush (v := -5) C dX9_done_18 rfl ?_
    cases h
    exact go_iret C dX9_done_20 rfl rfl

set_option maxRecDepth 100000 in
set_option maxHeartbeats 4000000 in
theorem m9_behind_k (l : Launch) (G : gG) (T0 T_brigade0 T_pad0 T_act0 T_fire0 T_routes0 T_posts0 T_trails0 T_feet0 T_images0 T_brigade1 T_brigade2 T_brigade3 T_brigade4 T_brigade5 T_fire_after0 T_fire_act0 T_fire_after1 T_fire_after2 T_fire_after3 T_fire_after4 T_fire_after5 T_pad1 : Nat) (T : SX9) (T_brigade : SX1) (T_fire : SX4) (T_fire_act : SX0) (T_fire_after : SX1) (T_pad : SX5) (a1 : Int32) (a2 : Int32) (R0 : Int32 × SX4 × SX0 × SX1) (h : m9_behind T T_brigade T_fire T_fire_act T_fire_after T_pad a1 a2 = some R0) : KK l G yX9_behind cX9_behind 4 (some .int) 6 131 [.ref T0, .int a1, .int a2] (u9 G T0 T_brigade0 T_pad0 T_act0 T_fire0 T_routes0 T_posts0 T_trails0 T_feet0 T_images0 T ++ (u1 G T_brigade0 T_brigade1 T_brigade2 T_brigade3 T_brigade4 T_brigade5 T_brigade ++ (u4 G T_fire0 T_fire_after0 T_fire_act0 T_fire ++ (u0 G T_fire_act0 T_fire_act ++ (u1 G T_fire_after0 T_fire_after1 T_fire_after2 T_fire_after3 T_fire_after4 T_fire_after5 T_fire_after ++ (u5 G T_pad0 T_pad1 T_pad)))))) (some (.int R0.1)) (u9 G T0 T_brigade0 T_pad0 T_act0 T_fire0 T_routes0 T_posts0 T_trails0 T_feet0 T_images0 T ++ (u1 G T_brigade0 T_brigade1 T_brigade2 T_brigade3 T_brigade4 T_brigade5 T_brigade ++ (u4 G T_fire0 T_fire_after0 T_fire_act0 R0.2.1 ++ (u0 G T_fire_act0 R0.2.2.1 ++ (u1 G T_fire_after0 T_fire_after1 T_fire_after2 T_fire_after3 T_fire_after4 T_fire_after5 R0.2.2.2 ++ (u5 G T_pad0 T_pad1 T_pad)))))) := by
  refine KK_intro (own := RX9) (by decide +kernel) rfl (Nat.le_of_ble_eq_true rfl) rfl ?_
  intro p e s m args below meth c A C
  unfold m9_behind at h
  refine go_iload_n C dX9_behind_0 1 rfl ?_
  obtain ⟨r1, k2, h⟩ := tbd_e h
  refine go_callS0 C cfX9_91 (wr6 _ (List.mem_of_getElem? (i := 22) rfl)) (m9_isMan_k l G a1 r1 k2) dX9_behind_1 (by decide) ⟨Nat.zero_le _, Nat.zero_le _⟩ rfl rfl (Nat.le_of_ble_eq_true rfl) ?_
  refine go_if_ne (tgt := 9) C h dX9_behind_4 rfl (fun h => ?_) (fun h => ?_)
  · refine go_iload_n C dX9_behind_9 2 rfl ?_
    refine go_iconst (v := 0) C dX9_behind_10 rfl ?_
    refine go_iconst (v := 3) C dX9_behind_11 rfl ?_
    obtain ⟨r3, k4, h⟩ := tbd_e h
    refine go_callS0 C cfX9_94 (wr7 _ (List.mem_of_getElem? (i := 4) rfl)) (m9_within_k l G a2 (0 : Int32) (3 : Int32) r3 k4) dX9_behind_12 (by decide) ⟨Nat.zero_le _, Nat.zero_le _⟩ rfl rfl (Nat.le_of_ble_eq_true rfl) ?_
    refine go_if_ne (tgt := 21) C h dX9_behind_15 rfl (fun h => ?_) (fun h => ?_)
    · refine go_aload_n C dX9_behind_21 0 rfl ?_
      refine go_get (v := .ref T_fire0) C ffX9_33 dX9_behind_22 0 rfl rfl ?_
      refine go_aload_n C dX9_behind_25 0 rfl ?_
      refine go_get (v := .ref T_pad0) C ffX9_19 dX9_behind_26 0 rfl rfl ?_
      refine go_aload_n C dX9_behind_29 0 rfl ?_
      refine go_get (v := .ref T_brigade0) C ffX9_12 dX9_behind_30 0 rfl rfl ?_
      obtain ⟨r5, k6, h⟩ := tbd_e h
      refine go_callV (q0 := 7) (wr := u9 G T0 T_brigade0 T_pad0 T_act0 T_fire0 T_routes0 T_posts0 T_trails0 T_feet0 T_images0 T) (w' := u9 G T0 T_brigade0 T_pad0 T_act0 T_fire0 T_routes0 T_posts0 T_trails0 T_feet0 T_images0 T ++ (u1 G T_brigade0 T_brigade1 T_brigade2 T_brigade3 T_brigade4 T_brigade5 T_brigade ++ (u4 G T_fire0 T_fire_after0 T_fire_act0 r5.2.1 ++ (u0 G T_fire_act0 r5.2.2.1 ++ (u1 G T_fire_after0 T_fire_after1 T_fire_after2 T_fire_after3 T_fire_after4 T_fire_after5 r5.2.2.2 ++ (u5 G T_pad0 T_pad1 T_pad)))))) C cfX9_123 viX4_burn (m4_burn_k l G T_fire0 T_fire_after0 T_fire_act0 T_pad0 T_pad1 T_brigade0 T_brigade1 T_brigade2 T_brigade3 T_brigade4 T_brigade5 T_fire_after1 T_fire_after2 T_fire_after3 T_fire_after4 T_fire_after5 T_fire T_pad T_brigade T_fire_act T_fire_after r5 k6) dX9_behind_33 (by decide) ⟨Nat.zero_le _, Nat.zero_le _⟩ rfl rfl (Nat.le_of_ble_eq_true rfl) rfl [7, 15, 16, 1, 2, 3, 4, 5, 6, 8, 9, 10, 11, 12, 13, 14] [0] [0, 4, 5, 6, 7, 8, 9, 1, 10, 11, 12, 13, 14, 15, 16, 2, 3] rfl rfl (by decide) rfl ?_
      refine go_if_ne (tgt := 42) C h dX9_behind_36 rfl (fun h => ?_) (fun h => ?_)
      · refine go_aload_n C dX9_behind_42 0 rfl ?_
        refine go_get (v := .ref T_fire0) C ffX9_33 dX9_behind_43 0 rfl rfl ?_
        obtain ⟨r7, k8, h⟩ := tbd_e h
        refine go_callV (q0 := 7) (wr := u9 G T0 T_brigade0 T_pad0 T_act0 T_fire0 T_routes0 T_posts0 T_trails0 T_feet0 T_images0 T ++ (u1 G T_brigade0 T_brigade1 T_brigade2 T_brigade3 T_brigade4 T_brigade5 T_brigade ++ (u0 G T_fire_act0 r5.2.2.1 ++ (u1 G T_fire_after0 T_fire_after1 T_fire_after2 T_fire_after3 T_fire_after4 T_fire_after5 r5.2.2.2 ++ (u5 G T_pad0 T_pad1 T_pad))))) (w' := u9 G T0 T_brigade0 T_pad0 T_act0 T_fire0 T_routes0 T_posts0 T_trails0 T_feet0 T_images0 T ++ (u1 G T_brigade0 T_brigade1 T_brigade2 T_brigade3 T_brigade4 T_brigade5 T_brigade ++ (u4 G T_fire0 T_fire_after0 T_fire_act0 r5.2.1 ++ (u0 G T_fire_act0 r5.2.2.1 ++ (u1 G T_fire_after0 T_fire_after1 T_fire_after2 T_fire_after3 T_fire_after4 T_fire_after5 r5.2.2.2 ++ (u5 G T_pad0 T_pad1 T_pad)))))) C cfX9_133 viX4_behindIt (m4_behindIt_k l G T_fire0 T_fire_after0 T_fire_act0 r5.2.1 r7 k8) dX9_behind_46 (by decide) ⟨Nat.zero_le _, Nat.zero_le _⟩ rfl rfl (Nat.le_of_ble_eq_true rfl) rfl [7] [0, 1, 2, 3, 4, 5, 6, 8, 9, 10, 11, 12, 13, 14, 15, 16] [0, 1, 2, 3, 4, 5, 6, 16, 7, 8, 9, 10, 11, 12, 13, 14, 15] rfl rfl (by decide) rfl ?_
        refine go_astore_n (lv' := [(3, .ref T_fire_after0), (0, .ref T0), (1, .int a1), (2, .int a2)]) C dX9_behind_49 (by decide) rfl ?_
        refine go_iload_n C dX9_behind_50 3 rfl ?_
        refine go_ite h (fun q h => ?_) (fun q0 h => ?_)
        · refine go_tabIn (off := 25) (tgt := 76) C dX9_behind_51 q (by decide) (by decide) rfl ?_
          refine go_aload_n C dX9_behind_76 0 rfl ?_
          refine go_iload_n C dX9_behind_77 2 rfl ?_
          obtain ⟨r9, k10, h⟩ := tbd_e h
          refine go_callV (q0 := 9) (wr := u9 G T0 T_brigade0 T_pad0 T_act0 T_fire0 T_routes0 T_posts0 T_trails0 T_feet0 T_images0 T ++ (u1 G T_brigade0 T_brigade1 T_brigade2 T_brigade3 T_brigade4 T_brigade5 T_brigade ++ (u4 G T_fire0 T_fire_after0 T_fire_act0 r5.2.1 ++ (u0 G T_fire_act0 r5.2.2.1 ++ (u5 G T_pad0 T_pad1 T_pad))))) (w' := u9 G T0 T_brigade0 T_pad0 T_act0 T_fire0 T_routes0 T_posts0 T_trails0 T_feet0 T_images0 T ++ (u1 G T_brigade0 T_brigade1 T_brigade2 T_brigade3 T_brigade4 T_brigade5 T_brigade ++ (u4 G T_fire0 T_fire_after0 T_fire_act0 r5.2.1 ++ (u0 G T_fire_act0 r5.2.2.1 ++ (u1 G T_fire_after0 T_fire_after1 T_fire_after2 T_fire_after3 T_fire_after4 T_fire_after5 r5.2.2.2 ++ (u5 G T_pad0 T_pad1 T_pad)))))) C cfX9_100 viX1_placeOf (m1_placeOf_k l G T_fire_after0 T_fire_after1 T_fire_after2 T_fire_after3 T_fire_after4 T_fire_after5 r5.2.2.2 a1 r9 k10) dX9_behind_78 (by decide) ⟨Nat.zero_le _, Nat.zero_le _⟩ rfl rfl (Nat.le_of_ble_eq_true rfl) rfl [9, 10, 11, 12, 13, 14] [0, 1, 2, 3, 4, 5, 6, 7, 8, 15, 16] [0, 1, 2, 3, 4, 5, 6, 7, 8, 11, 12, 13, 14, 15, 16, 9, 10] rfl rfl (by decide) rfl ?_
          cases h
          exact go_iret C dX9_behind_81 rfl rfl
        refine go_ite h (fun q h => ?_) (fun q1 h => ?_)
        · refine go_tabIn (off := 31) (tgt := 82) C dX9_behind_51 q (by decide) (by decide) rfl ?_
          refine go_aload_n C dX9_behind_82 0 rfl ?_
          refine go_iload_n C dX9_behind_83 2 rfl ?_
          obtain ⟨r11, k12, h⟩ := tbd_e h
          refine go_callV (q0 := 9) (wr := u9 G T0 T_brigade0 T_pad0 T_act0 T_fire0 T_routes0 T_posts0 T_trails0 T_feet0 T_images0 T ++ (u1 G T_brigade0 T_brigade1 T_brigade2 T_brigade3 T_brigade4 T_brigade5 T_brigade ++ (u4 G T_fire0 T_fire_after0 T_fire_act0 r5.2.1 ++ (u0 G T_fire_act0 r5.2.2.1 ++ (u5 G T_pad0 T_pad1 T_pad))))) (w' := u9 G T0 T_brigade0 T_pad0 T_act0 T_fire0 T_routes0 T_posts0 T_trails0 T_feet0 T_images0 T ++ (u1 G T_brigade0 T_brigade1 T_brigade2 T_brigade3 T_brigade4 T_brigade5 T_brigade ++ (u4 G T_fire0 T_fire_after0 T_fire_act0 r5.2.1 ++ (u0 G T_fire_act0 r5.2.2.1 ++ (u1 G T_fire_after0 T_fire_after1 T_fire_after2 T_fire_after3 T_fire_after4 T_fire_after5 r5.2.2.2 ++ (u5 G T_pad0 T_pad1 T_pad)))))) C cfX9_103 viX1_coinsOf (m1_coinsOf_k l G T_fire_after0 T_fire_after1 T_fire_after2 T_fire_after3 T_fire_after4 T_fire_after5 r5.2.2.2 a1 r11 k12) dX9_behind_84 (by decide) ⟨Nat.zero_le _, Nat.zero_le _⟩ rfl rfl (Nat.le_of_ble_eq_true rfl) rfl [9, 10, 11, 12, 13, 14] [0, 1, 2, 3, 4, 5, 6, 7, 8, 15, 16] [0, 1, 2, 3, 4, 5, 6, 7, 8, 11, 12, 13, 14, 15, 16, 9, 10] rfl rfl (by decide) rfl ?_
          cases h
          exact go_iret C dX9_behind_87 rfl rfl
        refine go_ite h (fun q h => ?_) (fun q2 h => ?_)
        · refine go_tabIn (off := 37) (tgt := 88) C dX9_behind_51 q (by decide) (by decide) rfl ?_
          refine go_aload_n C dX9_behind_88 0 rfl ?_
          refine go_iload_n C dX9_behind_89 2 rfl ?_
          obtain ⟨r13, k14, h⟩ := tbd_e h
          refine go_callV (q0 := 9) (wr := u9 G T0 T_brigade0 T_pad0 T_act0 T_fire0 T_routes0 T_posts0 T_trails0 T_feet0 T_images0 T ++ (u1 G T_brigade0 T_brigade1 T_brigade2 T_brigade3 T_brigade4 T_brigade5 T_brigade ++ (u4 G T_fire0 T_fire_after0 T_fire_act0 r5.2.1 ++ (u0 G T_fire_act0 r5.2.2.1 ++ (u5 G T_pad0 T_pad1 T_pad))))) (w' := u9 G T0 T_brigade0 T_pad0 T_act0 T_fire0 T_routes0 T_posts0 T_trails0 T_feet0 T_images0 T ++ (u1 G T_brigade0 T_brigade1 T_brigade2 T_brigade3 T_brigade4 T_brigade5 T_brigade ++ (u4 G T_fire0 T_fire_after0 T_fire_act0 r5.2.1 ++ (u0 G T_fire_act0 r5.2.2.1 ++ (u1 G T_fire_after0 T_fire_after1 T_fire_after2 T_fire_after3 T_fire_after4 T_fire_after5 r5.2.2.2 ++ (u5 G T_pad0 T_pad1 T_pad)))))) C cfX9_141 viX1_rungsOpenTo (m1_rungsOpenTo_k l G T_fire_after0 T_fire_after1 T_fire_after2 T_fire_after3 T_fire_after4 T_fire_after5 r5.2.2.2 a1 r13 k14) dX9_behind_90 (by decide) ⟨Nat.zero_le _, Nat.zero_le _⟩ rfl rfl (Nat.le_of_ble_eq_true rfl) rfl [9, 10, 11, 12, 13, 14] [0, 1, 2, 3, 4, 5, 6, 7, 8, 15, 16] [0, 1, 2, 3, 4, 5, 6, 7, 8, 11, 12, 13, 14, 15, 16, 9, 10] rfl rfl (by decide) rfl ?_
          cases h
          exact go_iret C dX9_behind_93 rfl rfl
        refine go_tabOut (tgt := 94) C dX9_behind_51 (by have a0 := lv_neT (a := 0) q0 rfl; have a1 := lv_neT (a := 1) q1 rfl; have a2 := lv_neT (a := 2) q2 rfl; omega) rfl ?_
        refine go_aload_n C dX9_behind_94 0 rfl ?_
        refine go_iload_n C dX9_behind_95 2 rfl ?_
        obtain ⟨r15, k16, h⟩ := tbd_e h
        refine go_callV (q0 := 9) (wr := u9 G T0 T_brigade0 T_pad0 T_act0 T_fire0 T_routes0 T_posts0 T_trails0 T_feet0 T_images0 T ++ (u1 G T_brigade0 T_brigade1 T_brigade2 T_brigade3 T_brigade4 T_brigade5 T_brigade ++ (u4 G T_fire0 T_fire_after0 T_fire_act0 r5.2.1 ++ (u0 G T_fire_act0 r5.2.2.1 ++ (u5 G T_pad0 T_pad1 T_pad))))) (w' := u9 G T0 T_brigade0 T_pad0 T_act0 T_fire0 T_routes0 T_posts0 T_trails0 T_feet0 T_images0 T ++ (u1 G T_brigade0 T_brigade1 T_brigade2 T_brigade3 T_brigade4 T_brigade5 T_brigade ++ (u4 G T_fire0 T_fire_after0 T_fire_act0 r5.2.1 ++ (u0 G T_fire_act0 r5.2.2.1 ++ (u1 G T_fire_after0 T_fire_after1 T_fire_after2 T_fire_after3 T_fire_after4 T_fire_after5 r5.2.2.2 ++ (u5 G T_pad0 T_pad1 T_pad)))))) C cfX9_144 viX1_hasStepped (m1_hasStepped_k l G T_fire_after0 T_fire_after1 T_fire_after2 T_fire_after3 T_fire_after4 T_fire_after5 r5.2.2.2 a1 r15 k16) dX9_behind_96 (by decide) ⟨Nat.zero_le _, Nat.zero_le _⟩ rfl rfl (Nat.le_of_ble_eq_true rfl) rfl [9, 10, 11, 12, 13, 14] [0, 1, 2, 3, 4, 5, 6, 7, 8, 15, 16] [0, 1, 2, 3, 4, 5, 6, 7, 8, 11, 12, 13, 14, 15, 16, 9, 10] rfl rfl (by decide) rfl ?_
        refine go_if_eq (tgt := 106) C h dX9_behind_99 rfl (fun h => ?_) (fun h => ?_)
        · refine go_iconst (v := 0) C dX9_behind_106 rfl ?_
          cases h
          exact go_iret C dX9_behind_107 rfl rfl
        · refine go_iconst (v := 1) C dX9_behind_102 rfl ?_
          refine go_goto (tgt := 107) C dX9_behind_103 rfl ?_
          cases h
          exact go_iret C dX9_behind_107 rfl rfl
      · refine go_bipush (v := -5) C dX9_behind_39 rfl ?_
        cases h
        exact go_iret C dX9_behind_41 rfl rfl
    · refine go_bipush (v := -2) C dX9_behind_18 rfl ?_
      cases h
      exact go_iret C dX9_behind_20 rfl rfl
  · refine go_iconst (v := -1) C dX9_behind_7 rfl ?_
    cases h
    exact go_iret C dX9_behind_8 rfl rfl

set_option maxRecDepth 100000 in
set_option maxHeartbeats 4000000 in
theorem m9_bears_k (l : Launch) (G : gG) (T0 T_brigade0 T_pad0 T_act0 T_fire0 T_routes0 T_posts0 T_trails0 T_feet0 T_images0 T_brigade1 T_brigade2 T_brigade3 T_brigade4 T_brigade5 T_fire_after0 T_fire_act0 T_fire_after1 T_fire_after2 T_fire_after3 T_fire_after4 T_fire_after5 T_pad1 : Nat) (T : SX9) (T_brigade : SX1) (T_fire : SX4) (T_fire_act : SX0) (T_fire_after : SX1) (T_pad : SX5) (a1 : Int32) (a2 : Int32) (R0 : Int32 × SX4 × SX0 × SX1) (h : m9_bears T T_brigade T_fire T_fire_act T_fire_after T_pad a1 a2 = some R0) : KK l G yX9_bears cX9_bears 4 (some .int) 6 131 [.ref T0, .int a1, .int a2] (u9 G T0 T_brigade0 T_pad0 T_act0 T_fire0 T_routes0 T_posts0 T_trails0 T_feet0 T_images0 T ++ (u1 G T_brigade0 T_brigade1 T_brigade2 T_brigade3 T_brigade4 T_brigade5 T_brigade ++ (u4 G T_fire0 T_fire_after0 T_fire_act0 T_fire ++ (u0 G T_fire_act0 T_fire_act ++ (u1 G T_fire_after0 T_fire_after1 T_fire_after2 T_fire_after3 T_fire_after4 T_fire_after5 T_fire_after ++ (u5 G T_pad0 T_pad1 T_pad)))))) (some (.int R0.1)) (u9 G T0 T_brigade0 T_pad0 T_act0 T_fire0 T_routes0 T_posts0 T_trails0 T_feet0 T_images0 T ++ (u1 G T_brigade0 T_brigade1 T_brigade2 T_brigade3 T_brigade4 T_brigade5 T_brigade ++ (u4 G T_fire0 T_fire_after0 T_fire_act0 R0.2.1 ++ (u0 G T_fire_act0 R0.2.2.1 ++ (u1 G T_fire_after0 T_fire_after1 T_fire_after2 T_fire_after3 T_fire_after4 T_fire_after5 R0.2.2.2 ++ (u5 G T_pad0 T_pad1 T_pad)))))) := by
  refine KK_intro (own := RX9) (by decide +kernel) rfl (Nat.le_of_ble_eq_true rfl) rfl ?_
  intro p e s m args below meth c A C
  unfold m9_bears at h
  refine go_iload_n C dX9_bears_0 1 rfl ?_
  obtain ⟨r1, k2, h⟩ := tbd_e h
  refine go_callS0 C cfX9_69 (wr6 _ (List.mem_of_getElem? (i := 16) rfl)) (m9_isRung_k l G a1 r1 k2) dX9_bears_1 (by decide) ⟨Nat.zero_le _, Nat.zero_le _⟩ rfl rfl (Nat.le_of_ble_eq_true rfl) ?_
  refine go_if_ne (tgt := 9) C h dX9_bears_4 rfl (fun h => ?_) (fun h => ?_)
  · refine go_iload_n C dX9_bears_9 2 rfl ?_
    refine go_iconst (v := 0) C dX9_bears_10 rfl ?_
    refine go_iconst (v := 3) C dX9_bears_11 rfl ?_
    obtain ⟨r3, k4, h⟩ := tbd_e h
    refine go_callS0 C cfX9_94 (wr7 _ (List.mem_of_getElem? (i := 4) rfl)) (m9_within_k l G a2 (0 : Int32) (3 : Int32) r3 k4) dX9_bears_12 (by decide) ⟨Nat.zero_le _, Nat.zero_le _⟩ rfl rfl (Nat.le_of_ble_eq_true rfl) ?_
    refine go_if_ne (tgt := 21) C h dX9_bears_15 rfl (fun h => ?_) (fun h => ?_)
    · refine go_aload_n C dX9_bears_21 0 rfl ?_
      refine go_get (v := .ref T_fire0) C ffX9_33 dX9_bears_22 0 rfl rfl ?_
      refine go_aload_n C dX9_bears_25 0 rfl ?_
      refine go_get (v := .ref T_pad0) C ffX9_19 dX9_bears_26 0 rfl rfl ?_
      refine go_aload_n C dX9_bears_29 0 rfl ?_
      refine go_get (v := .ref T_brigade0) C ffX9_12 dX9_bears_30 0 rfl rfl ?_
      obtain ⟨r5, k6, h⟩ := tbd_e h
      refine go_callV (q0 := 7) (wr := u9 G T0 T_brigade0 T_pad0 T_act0 T_fire0 T_routes0 T_posts0 T_trails0 T_feet0 T_images0 T) (w' := u9 G T0 T_brigade0 T_pad0 T_act0 T_fire0 T_routes0 T_posts0 T_trails0 T_feet0 T_images0 T ++ (u1 G T_brigade0 T_brigade1 T_brigade2 T_brigade3 T_brigade4 T_brigade5 T_brigade ++ (u4 G T_fire0 T_fire_after0 T_fire_act0 r5.2.1 ++ (u0 G T_fire_act0 r5.2.2.1 ++ (u1 G T_fire_after0 T_fire_after1 T_fire_after2 T_fire_after3 T_fire_after4 T_fire_after5 r5.2.2.2 ++ (u5 G T_pad0 T_pad1 T_pad)))))) C cfX9_123 viX4_burn (m4_burn_k l G T_fire0 T_fire_after0 T_fire_act0 T_pad0 T_pad1 T_brigade0 T_brigade1 T_brigade2 T_brigade3 T_brigade4 T_brigade5 T_fire_after1 T_fire_after2 T_fire_after3 T_fire_after4 T_fire_after5 T_fire T_pad T_brigade T_fire_act T_fire_after r5 k6) dX9_bears_33 (by decide) ⟨Nat.zero_le _, Nat.zero_le _⟩ rfl rfl (Nat.le_of_ble_eq_true rfl) rfl [7, 15, 16, 1, 2, 3, 4, 5, 6, 8, 9, 10, 11, 12, 13, 14] [0] [0, 4, 5, 6, 7, 8, 9, 1, 10, 11, 12, 13, 14, 15, 16, 2, 3] rfl rfl (by decide) rfl ?_
      refine go_if_ne (tgt := 42) C h dX9_bears_36 rfl (fun h => ?_) (fun h => ?_)
      · refine go_aload_n C dX9_bears_42 0 rfl ?_
        refine go_get (v := .ref T_fire0) C ffX9_33 dX9_bears_43 0 rfl rfl ?_
        obtain ⟨r7, k8, h⟩ := tbd_e h
        refine go_callV (q0 := 7) (wr := u9 G T0 T_brigade0 T_pad0 T_act0 T_fire0 T_routes0 T_posts0 T_trails0 T_feet0 T_images0 T ++ (u1 G T_brigade0 T_brigade1 T_brigade2 T_brigade3 T_brigade4 T_brigade5 T_brigade ++ (u0 G T_fire_act0 r5.2.2.1 ++ (u1 G T_fire_after0 T_fire_after1 T_fire_after2 T_fire_after3 T_fire_after4 T_fire_after5 r5.2.2.2 ++ (u5 G T_pad0 T_pad1 T_pad))))) (w' := u9 G T0 T_brigade0 T_pad0 T_act0 T_fire0 T_routes0 T_posts0 T_trails0 T_feet0 T_images0 T ++ (u1 G T_brigade0 T_brigade1 T_brigade2 T_brigade3 T_brigade4 T_brigade5 T_brigade ++ (u4 G T_fire0 T_fire_after0 T_fire_act0 r5.2.1 ++ (u0 G T_fire_act0 r5.2.2.1 ++ (u1 G T_fire_after0 T_fire_after1 T_fire_after2 T_fire_after3 T_fire_after4 T_fire_after5 r5.2.2.2 ++ (u5 G T_pad0 T_pad1 T_pad)))))) C cfX9_133 viX4_behindIt (m4_behindIt_k l G T_fire0 T_fire_after0 T_fire_act0 r5.2.1 r7 k8) dX9_bears_46 (by decide) ⟨Nat.zero_le _, Nat.zero_le _⟩ rfl rfl (Nat.le_of_ble_eq_true rfl) rfl [7] [0, 1, 2, 3, 4, 5, 6, 8, 9, 10, 11, 12, 13, 14, 15, 16] [0, 1, 2, 3, 4, 5, 6, 16, 7, 8, 9, 10, 11, 12, 13, 14, 15] rfl rfl (by decide) rfl ?_
        refine go_astore_n (lv' := [(3, .ref T_fire_after0), (0, .ref T0), (1, .int a1), (2, .int a2)]) C dX9_bears_49 (by decide) rfl ?_
        refine go_iload_n C dX9_bears_50 3 rfl ?_
        refine go_ite h (fun q h => ?_) (fun q0 h => ?_)
        · refine go_tabIn (off := 25) (tgt := 76) C dX9_bears_51 q (by decide) (by decide) rfl ?_
          refine go_aload_n C dX9_bears_76 0 rfl ?_
          refine go_iload_n C dX9_bears_77 2 rfl ?_
          obtain ⟨r9, k10, h⟩ := tbd_e h
          refine go_callV (q0 := 9) (wr := u9 G T0 T_brigade0 T_pad0 T_act0 T_fire0 T_routes0 T_posts0 T_trails0 T_feet0 T_images0 T ++ (u1 G T_brigade0 T_brigade1 T_brigade2 T_brigade3 T_brigade4 T_brigade5 T_brigade ++ (u4 G T_fire0 T_fire_after0 T_fire_act0 r5.2.1 ++ (u0 G T_fire_act0 r5.2.2.1 ++ (u5 G T_pad0 T_pad1 T_pad))))) (w' := u9 G T0 T_brigade0 T_pad0 T_act0 T_fire0 T_routes0 T_posts0 T_trails0 T_feet0 T_images0 T ++ (u1 G T_brigade0 T_brigade1 T_brigade2 T_brigade3 T_brigade4 T_brigade5 T_brigade ++ (u4 G T_fire0 T_fire_after0 T_fire_act0 r5.2.1 ++ (u0 G T_fire_act0 r5.2.2.1 ++ (u1 G T_fire_after0 T_fire_after1 T_fire_after2 T_fire_after3 T_fire_after4 T_fire_after5 r5.2.2.2 ++ (u5 G T_pad0 T_pad1 T_pad)))))) C cfX9_80 viX1_ownerOf (m1_ownerOf_k l G T_fire_after0 T_fire_after1 T_fire_after2 T_fire_after3 T_fire_after4 T_fire_after5 r5.2.2.2 a1 r9 k10) dX9_bears_78 (by decide) ⟨Nat.zero_le _, Nat.zero_le _⟩ rfl rfl (Nat.le_of_ble_eq_true rfl) rfl [9, 10, 11, 12, 13, 14] [0, 1, 2, 3, 4, 5, 6, 7, 8, 15, 16] [0, 1, 2, 3, 4, 5, 6, 7, 8, 11, 12, 13, 14, 15, 16, 9, 10] rfl rfl (by decide) rfl ?_
          obtain ⟨r11, k12, h⟩ := tbd_e h
          refine go_callS0 C cfX9_88 (wr7 _ (List.mem_of_getElem? (i := 17) rfl)) (m9_orNone_k l G r9 r11 k12) dX9_bears_81 (by decide) ⟨Nat.zero_le _, Nat.zero_le _⟩ rfl rfl (Nat.le_of_ble_eq_true rfl) ?_
          cases h
          exact go_iret C dX9_bears_84 rfl rfl
        refine go_ite h (fun q h => ?_) (fun q1 h => ?_)
        · refine go_tabIn (off := 34) (tgt := 85) C dX9_bears_51 q (by decide) (by decide) rfl ?_
          refine go_aload_n C dX9_bears_85 0 rfl ?_
          refine go_iload_n C dX9_bears_86 2 rfl ?_
          obtain ⟨r13, k14, h⟩ := tbd_e h
          refine go_callV (q0 := 9) (wr := u9 G T0 T_brigade0 T_pad0 T_act0 T_fire0 T_routes0 T_posts0 T_trails0 T_feet0 T_images0 T ++ (u1 G T_brigade0 T_brigade1 T_brigade2 T_brigade3 T_brigade4 T_brigade5 T_brigade ++ (u4 G T_fire0 T_fire_after0 T_fire_act0 r5.2.1 ++ (u0 G T_fire_act0 r5.2.2.1 ++ (u5 G T_pad0 T_pad1 T_pad))))) (w' := u9 G T0 T_brigade0 T_pad0 T_act0 T_fire0 T_routes0 T_posts0 T_trails0 T_feet0 T_images0 T ++ (u1 G T_brigade0 T_brigade1 T_brigade2 T_brigade3 T_brigade4 T_brigade5 T_brigade ++ (u4 G T_fire0 T_fire_after0 T_fire_act0 r5.2.1 ++ (u0 G T_fire_act0 r5.2.2.1 ++ (u1 G T_fire_after0 T_fire_after1 T_fire_after2 T_fire_after3 T_fire_after4 T_fire_after5 r5.2.2.2 ++ (u5 G T_pad0 T_pad1 T_pad)))))) C cfX9_147 viX1_leaserOf (m1_leaserOf_k l G T_fire_after0 T_fire_after1 T_fire_after2 T_fire_after3 T_fire_after4 T_fire_after5 r5.2.2.2 a1 r13 k14) dX9_bears_87 (by decide) ⟨Nat.zero_le _, Nat.zero_le _⟩ rfl rfl (Nat.le_of_ble_eq_true rfl) rfl [9, 10, 11, 12, 13, 14] [0, 1, 2, 3, 4, 5, 6, 7, 8, 15, 16] [0, 1, 2, 3, 4, 5, 6, 7, 8, 11, 12, 13, 14, 15, 16, 9, 10] rfl rfl (by decide) rfl ?_
          obtain ⟨r15, k16, h⟩ := tbd_e h
          refine go_callS0 C cfX9_88 (wr7 _ (List.mem_of_getElem? (i := 17) rfl)) (m9_orNone_k l G r13 r15 k16) dX9_bears_90 (by decide) ⟨Nat.zero_le _, Nat.zero_le _⟩ rfl rfl (Nat.le_of_ble_eq_true rfl) ?_
          cases h
          exact go_iret C dX9_bears_93 rfl rfl
        refine go_ite h (fun q h => ?_) (fun q2 h => ?_)
        · refine go_tabIn (off := 43) (tgt := 94) C dX9_bears_51 q (by decide) (by decide) rfl ?_
          refine go_aload_n C dX9_bears_94 0 rfl ?_
          refine go_iload_n C dX9_bears_95 2 rfl ?_
          obtain ⟨r17, k18, h⟩ := tbd_e h
          refine go_callV (q0 := 9) (wr := u9 G T0 T_brigade0 T_pad0 T_act0 T_fire0 T_routes0 T_posts0 T_trails0 T_feet0 T_images0 T ++ (u1 G T_brigade0 T_brigade1 T_brigade2 T_brigade3 T_brigade4 T_brigade5 T_brigade ++ (u4 G T_fire0 T_fire_after0 T_fire_act0 r5.2.1 ++ (u0 G T_fire_act0 r5.2.2.1 ++ (u5 G T_pad0 T_pad1 T_pad))))) (w' := u9 G T0 T_brigade0 T_pad0 T_act0 T_fire0 T_routes0 T_posts0 T_trails0 T_feet0 T_images0 T ++ (u1 G T_brigade0 T_brigade1 T_brigade2 T_brigade3 T_brigade4 T_brigade5 T_brigade ++ (u4 G T_fire0 T_fire_after0 T_fire_act0 r5.2.1 ++ (u0 G T_fire_act0 r5.2.2.1 ++ (u1 G T_fire_after0 T_fire_after1 T_fire_after2 T_fire_after3 T_fire_after4 T_fire_after5 r5.2.2.2 ++ (u5 G T_pad0 T_pad1 T_pad)))))) C cfX9_150 viX1_firstManOn (m1_firstManOn_k l G T_fire_after0 T_fire_after1 T_fire_after2 T_fire_after3 T_fire_after4 T_fire_after5 r5.2.2.2 a1 r17 k18) dX9_bears_96 (by decide) ⟨Nat.zero_le _, Nat.zero_le _⟩ rfl rfl (Nat.le_of_ble_eq_true rfl) rfl [9, 10, 11, 12, 13, 14] [0, 1, 2, 3, 4, 5, 6, 7, 8, 15, 16] [0, 1, 2, 3, 4, 5, 6, 7, 8, 11, 12, 13, 14, 15, 16, 9, 10] rfl rfl (by decide) rfl ?_
          obtain ⟨r19, k20, h⟩ := tbd_e h
          refine go_callS0 C cfX9_88 (wr7 _ (List.mem_of_getElem? (i := 17) rfl)) (m9_orNone_k l G r17 r19 k20) dX9_bears_99 (by decide) ⟨Nat.zero_le _, Nat.zero_le _⟩ rfl rfl (Nat.le_of_ble_eq_true rfl) ?_
          cases h
          exact go_iret C dX9_bears_102 rfl rfl
        refine go_tabOut (tgt := 103) C dX9_bears_51 (by have a0 := lv_neT (a := 0) q0 rfl; have a1 := lv_neT (a := 1) q1 rfl; have a2 := lv_neT (a := 2) q2 rfl; omega) rfl ?_
        refine go_aload_n C dX9_bears_103 0 rfl ?_
        refine go_iload_n C dX9_bears_104 2 rfl ?_
        obtain ⟨r21, k22, h⟩ := tbd_e h
        refine go_callV (q0 := 9) (wr := u9 G T0 T_brigade0 T_pad0 T_act0 T_fire0 T_routes0 T_posts0 T_trails0 T_feet0 T_images0 T ++ (u1 G T_brigade0 T_brigade1 T_brigade2 T_brigade3 T_brigade4 T_brigade5 T_brigade ++ (u4 G T_fire0 T_fire_after0 T_fire_act0 r5.2.1 ++ (u0 G T_fire_act0 r5.2.2.1 ++ (u5 G T_pad0 T_pad1 T_pad))))) (w' := u9 G T0 T_brigade0 T_pad0 T_act0 T_fire0 T_routes0 T_posts0 T_trails0 T_feet0 T_images0 T ++ (u1 G T_brigade0 T_brigade1 T_brigade2 T_brigade3 T_brigade4 T_brigade5 T_brigade ++ (u4 G T_fire0 T_fire_after0 T_fire_act0 r5.2.1 ++ (u0 G T_fire_act0 r5.2.2.1 ++ (u1 G T_fire_after0 T_fire_after1 T_fire_after2 T_fire_after3 T_fire_after4 T_fire_after5 r5.2.2.2 ++ (u5 G T_pad0 T_pad1 T_pad)))))) C cfX9_153 viX1_isMissing (m1_isMissing_k l G T_fire_after0 T_fire_after1 T_fire_after2 T_fire_after3 T_fire_after4 T_fire_after5 r5.2.2.2 a1 r21 k22) dX9_bears_105 (by decide) ⟨Nat.zero_le _, Nat.zero_le _⟩ rfl rfl (Nat.le_of_ble_eq_true rfl) rfl [9, 10, 11, 12, 13, 14] [0, 1, 2, 3, 4, 5, 6, 7, 8, 15, 16] [0, 1, 2, 3, 4, 5, 6, 7, 8, 11, 12, 13, 14, 15, 16, 9, 10] rfl rfl (by decide) rfl ?_
        refine go_if_eq (tgt := 115) C h dX9_bears_108 rfl (fun h => ?_) (fun h => ?_)
        · refine go_iconst (v := 0) C dX9_bears_115 rfl ?_
          cases h
          exact go_iret C dX9_bears_116 rfl rfl
        · refine go_iconst (v := 1) C dX9_bears_111 rfl ?_
          refine go_goto (tgt := 116) C dX9_bears_112 rfl ?_
          cases h
          exact go_iret C dX9_bears_116 rfl rfl
      · refine go_bipush (v := -5) C dX9_bears_39 rfl ?_
        cases h
        exact go_iret C dX9_bears_41 rfl rfl
    · refine go_bipush (v := -2) C dX9_bears_18 rfl ?_
      cases h
      exact go_iret C dX9_bears_20 rfl rfl
  · refine go_iconst (v := -1) C dX9_bears_7 rfl ?_
    cases h
    exact go_iret C dX9_bears_8 rfl rfl

set_option maxRecDepth 100000 in
set_option maxHeartbeats 4000000 in
theorem m9_then_k (l : Launch) (G : gG) (T0 T_brigade0 T_pad0 T_act0 T_fire0 T_routes0 T_posts0 T_trails0 T_feet0 T_images0 T_brigade1 T_brigade2 T_brigade3 T_brigade4 T_brigade5 T_fire_after0 T_fire_act0 T_fire_after1 T_fire_after2 T_fire_after3 T_fire_after4 T_fire_after5 T_pad1 : Nat) (T : SX9) (T_brigade : SX1) (T_fire : SX4) (T_fire_act : SX0) (T_fire_after : SX1) (T_pad : SX5) (a1 : Int32) (R0 : Int32 × SX4 × SX0 × SX1) (h : m9_then T T_brigade T_fire T_fire_act T_fire_after T_pad a1 = some R0) : KK l G yX9_then cX9_then 2 (some .int) 6 131 [.ref T0, .int a1] (u9 G T0 T_brigade0 T_pad0 T_act0 T_fire0 T_routes0 T_posts0 T_trails0 T_feet0 T_images0 T ++ (u1 G T_brigade0 T_brigade1 T_brigade2 T_brigade3 T_brigade4 T_brigade5 T_brigade ++ (u4 G T_fire0 T_fire_after0 T_fire_act0 T_fire ++ (u0 G T_fire_act0 T_fire_act ++ (u1 G T_fire_after0 T_fire_after1 T_fire_after2 T_fire_after3 T_fire_after4 T_fire_after5 T_fire_after ++ (u5 G T_pad0 T_pad1 T_pad)))))) (some (.int R0.1)) (u9 G T0 T_brigade0 T_pad0 T_act0 T_fire0 T_routes0 T_posts0 T_trails0 T_feet0 T_images0 T ++ (u1 G T_brigade0 T_brigade1 T_brigade2 T_brigade3 T_brigade4 T_brigade5 T_brigade ++ (u4 G T_fire0 T_fire_after0 T_fire_act0 R0.2.1 ++ (u0 G T_fire_act0 R0.2.2.1 ++ (u1 G T_fire_after0 T_fire_after1 T_fire_after2 T_fire_after3 T_fire_after4 T_fire_after5 R0.2.2.2 ++ (u5 G T_pad0 T_pad1 T_pad)))))) := by
  refine KK_intro (own := RX9) (by decide +kernel) rfl (Nat.le_of_ble_eq_true rfl) rfl ?_
  intro p e s m args below meth c A C
  unfold m9_then at h
  refine go_iload_n C dX9_then_0 1 rfl ?_
  refine go_iconst (v := 0) C dX9_then_1 rfl ?_
  refine go_iconst (v := 5) C dX9_then_2 rfl ?_
  obtain ⟨r1, k2, h⟩ := tbd_e h
  refine go_callS0 C cfX9_94 (wr7 _ (List.mem_of_getElem? (i := 4) rfl)) (m9_within_k l G a1 (0 : Int32) (5 : Int32) r1 k2) dX9_then_3 (by decide) ⟨Nat.zero_le _, Nat.zero_le _⟩ rfl rfl (Nat.le_of_ble_eq_true rfl) ?_
  refine go_if_ne (tgt := 12) C h dX9_then_6 rfl (fun h => ?_) (fun h => ?_)
  · refine go_aload_n C dX9_then_12 0 rfl ?_
    refine go_get (v := .ref T_fire0) C ffX9_33 dX9_then_13 0 rfl rfl ?_
    refine go_aload_n C dX9_then_16 0 rfl ?_
    refine go_get (v := .ref T_pad0) C ffX9_19 dX9_then_17 0 rfl rfl ?_
    refine go_aload_n C dX9_then_20 0 rfl ?_
    refine go_get (v := .ref T_brigade0) C ffX9_12 dX9_then_21 0 rfl rfl ?_
    obtain ⟨r3, k4, h⟩ := tbd_e h
    refine go_callV (q0 := 7) (wr := u9 G T0 T_brigade0 T_pad0 T_act0 T_fire0 T_routes0 T_posts0 T_trails0 T_feet0 T_images0 T) (w' := u9 G T0 T_brigade0 T_pad0 T_act0 T_fire0 T_routes0 T_posts0 T_trails0 T_feet0 T_images0 T ++ (u1 G T_brigade0 T_brigade1 T_brigade2 T_brigade3 T_brigade4 T_brigade5 T_brigade ++ (u4 G T_fire0 T_fire_after0 T_fire_act0 r3.2.1 ++ (u0 G T_fire_act0 r3.2.2.1 ++ (u1 G T_fire_after0 T_fire_after1 T_fire_after2 T_fire_after3 T_fire_after4 T_fire_after5 r3.2.2.2 ++ (u5 G T_pad0 T_pad1 T_pad)))))) C cfX9_123 viX4_burn (m4_burn_k l G T_fire0 T_fire_after0 T_fire_act0 T_pad0 T_pad1 T_brigade0 T_brigade1 T_brigade2 T_brigade3 T_brigade4 T_brigade5 T_fire_after1 T_fire_after2 T_fire_after3 T_fire_after4 T_fire_after5 T_fire T_pad T_brigade T_fire_act T_fire_after r3 k4) dX9_then_24 (by decide) ⟨Nat.zero_le _, Nat.zero_le _⟩ rfl rfl (Nat.le_of_ble_eq_true rfl) rfl [7, 15, 16, 1, 2, 3, 4, 5, 6, 8, 9, 10, 11, 12, 13, 14] [0] [0, 4, 5, 6, 7, 8, 9, 1, 10, 11, 12, 13, 14, 15, 16, 2, 3] rfl rfl (by decide) rfl ?_
    refine go_if_ne (tgt := 33) C h dX9_then_27 rfl (fun h => ?_) (fun h => ?_)
    · refine go_iload_n C dX9_then_33 1 rfl ?_
      refine go_ite h (fun q h => ?_) (fun q0 h => ?_)
      · refine go_tabIn (off := 34) (tgt := 68) C dX9_then_34 q (by decide) (by decide) rfl ?_
        refine go_aload_n C dX9_then_68 0 rfl ?_
        refine go_get (v := .ref T_fire0) C ffX9_33 dX9_then_69 0 rfl rfl ?_
        obtain ⟨r5, k6, h⟩ := tbd_e h
        refine go_callV (q0 := 7) (wr := u9 G T0 T_brigade0 T_pad0 T_act0 T_fire0 T_routes0 T_posts0 T_trails0 T_feet0 T_images0 T ++ (u1 G T_brigade0 T_brigade1 T_brigade2 T_brigade3 T_brigade4 T_brigade5 T_brigade ++ (u0 G T_fire_act0 r3.2.2.1 ++ (u1 G T_fire_after0 T_fire_after1 T_fire_after2 T_fire_after3 T_fire_after4 T_fire_after5 r3.2.2.2 ++ (u5 G T_pad0 T_pad1 T_pad))))) (w' := u9 G T0 T_brigade0 T_pad0 T_act0 T_fire0 T_routes0 T_posts0 T_trails0 T_feet0 T_images0 T ++ (u1 G T_brigade0 T_brigade1 T_brigade2 T_brigade3 T_brigade4 T_brigade5 T_brigade ++ (u4 G T_fire0 T_fire_after0 T_fire_act0 r3.2.1 ++ (u0 G T_fire_act0 r3.2.2.1 ++ (u1 G T_fire_after0 T_fire_after1 T_fire_after2 T_fire_after3 T_fire_after4 T_fire_after5 r3.2.2.2 ++ (u5 G T_pad0 T_pad1 T_pad)))))) C cfX9_133 viX4_behindIt (m4_behindIt_k l G T_fire0 T_fire_after0 T_fire_act0 r3.2.1 r5 k6) dX9_then_72 (by decide) ⟨Nat.zero_le _, Nat.zero_le _⟩ rfl rfl (Nat.le_of_ble_eq_true rfl) rfl [7] [0, 1, 2, 3, 4, 5, 6, 8, 9, 10, 11, 12, 13, 14, 15, 16] [0, 1, 2, 3, 4, 5, 6, 16, 7, 8, 9, 10, 11, 12, 13, 14, 15] rfl rfl (by decide) rfl ?_
        obtain ⟨r7, k8, h⟩ := tbd_e h
        refine go_callV (q0 := 9) (wr := u9 G T0 T_brigade0 T_pad0 T_act0 T_fire0 T_routes0 T_posts0 T_trails0 T_feet0 T_images0 T ++ (u1 G T_brigade0 T_brigade1 T_brigade2 T_brigade3 T_brigade4 T_brigade5 T_brigade ++ (u4 G T_fire0 T_fire_after0 T_fire_act0 r3.2.1 ++ (u0 G T_fire_act0 r3.2.2.1 ++ (u5 G T_pad0 T_pad1 T_pad))))) (w' := u9 G T0 T_brigade0 T_pad0 T_act0 T_fire0 T_routes0 T_posts0 T_trails0 T_feet0 T_images0 T ++ (u1 G T_brigade0 T_brigade1 T_brigade2 T_brigade3 T_brigade4 T_brigade5 T_brigade ++ (u4 G T_fire0 T_fire_after0 T_fire_act0 r3.2.1 ++ (u0 G T_fire_act0 r3.2.2.1 ++ (u1 G T_fire_after0 T_fire_after1 T_fire_after2 T_fire_after3 T_fire_after4 T_fire_after5 r3.2.2.2 ++ (u5 G T_pad0 T_pad1 T_pad)))))) C cfX9_156 viX1_beatNow (m1_beatNow_k l G T_fire_after0 T_fire_after1 T_fire_after2 T_fire_after3 T_fire_after4 T_fire_after5 r3.2.2.2 r7 k8) dX9_then_75 (by decide) ⟨Nat.zero_le _, Nat.zero_le _⟩ rfl rfl (Nat.le_of_ble_eq_true rfl) rfl [9, 10, 11, 12, 13, 14] [0, 1, 2, 3, 4, 5, 6, 7, 8, 15, 16] [0, 1, 2, 3, 4, 5, 6, 7, 8, 11, 12, 13, 14, 15, 16, 9, 10] rfl rfl (by decide) rfl ?_
        cases h
        exact go_iret C dX9_then_78 rfl rfl
      refine go_ite h (fun q h => ?_) (fun q1 h => ?_)
      · refine go_tabIn (off := 45) (tgt := 79) C dX9_then_34 q (by decide) (by decide) rfl ?_
        refine go_aload_n C dX9_then_79 0 rfl ?_
        refine go_get (v := .ref T_fire0) C ffX9_33 dX9_then_80 0 rfl rfl ?_
        obtain ⟨r9, k10, h⟩ := tbd_e h
        refine go_callV (q0 := 7) (wr := u9 G T0 T_brigade0 T_pad0 T_act0 T_fire0 T_routes0 T_posts0 T_trails0 T_feet0 T_images0 T ++ (u1 G T_brigade0 T_brigade1 T_brigade2 T_brigade3 T_brigade4 T_brigade5 T_brigade ++ (u0 G T_fire_act0 r3.2.2.1 ++ (u1 G T_fire_after0 T_fire_after1 T_fire_after2 T_fire_after3 T_fire_after4 T_fire_after5 r3.2.2.2 ++ (u5 G T_pad0 T_pad1 T_pad))))) (w' := u9 G T0 T_brigade0 T_pad0 T_act0 T_fire0 T_routes0 T_posts0 T_trails0 T_feet0 T_images0 T ++ (u1 G T_brigade0 T_brigade1 T_brigade2 T_brigade3 T_brigade4 T_brigade5 T_brigade ++ (u4 G T_fire0 T_fire_after0 T_fire_act0 r3.2.1 ++ (u0 G T_fire_act0 r3.2.2.1 ++ (u1 G T_fire_after0 T_fire_after1 T_fire_after2 T_fire_after3 T_fire_after4 T_fire_after5 r3.2.2.2 ++ (u5 G T_pad0 T_pad1 T_pad)))))) C cfX9_133 viX4_behindIt (m4_behindIt_k l G T_fire0 T_fire_after0 T_fire_act0 r3.2.1 r9 k10) dX9_then_83 (by decide) ⟨Nat.zero_le _, Nat.zero_le _⟩ rfl rfl (Nat.le_of_ble_eq_true rfl) rfl [7] [0, 1, 2, 3, 4, 5, 6, 8, 9, 10, 11, 12, 13, 14, 15, 16] [0, 1, 2, 3, 4, 5, 6, 16, 7, 8, 9, 10, 11, 12, 13, 14, 15] rfl rfl (by decide) rfl ?_
        obtain ⟨r11, k12, h⟩ := tbd_e h
        refine go_callV (q0 := 9) (wr := u9 G T0 T_brigade0 T_pad0 T_act0 T_fire0 T_routes0 T_posts0 T_trails0 T_feet0 T_images0 T ++ (u1 G T_brigade0 T_brigade1 T_brigade2 T_brigade3 T_brigade4 T_brigade5 T_brigade ++ (u4 G T_fire0 T_fire_after0 T_fire_act0 r3.2.1 ++ (u0 G T_fire_act0 r3.2.2.1 ++ (u5 G T_pad0 T_pad1 T_pad))))) (w' := u9 G T0 T_brigade0 T_pad0 T_act0 T_fire0 T_routes0 T_posts0 T_trails0 T_feet0 T_images0 T ++ (u1 G T_brigade0 T_brigade1 T_brigade2 T_brigade3 T_brigade4 T_brigade5 T_brigade ++ (u4 G T_fire0 T_fire_after0 T_fire_act0 r3.2.1 ++ (u0 G T_fire_act0 r3.2.2.1 ++ (u1 G T_fire_after0 T_fire_after1 T_fire_after2 T_fire_after3 T_fire_after4 T_fire_after5 r3.2.2.2 ++ (u5 G T_pad0 T_pad1 T_pad)))))) C cfX9_159 viX1_menOnRoof (m1_menOnRoof_k l G T_fire_after0 T_fire_after1 T_fire_after2 T_fire_after3 T_fire_after4 T_fire_after5 r3.2.2.2 r11 k12) dX9_then_86 (by decide) ⟨Nat.zero_le _, Nat.zero_le _⟩ rfl rfl (Nat.le_of_ble_eq_true rfl) rfl [9, 10, 11, 12, 13, 14] [0, 1, 2, 3, 4, 5, 6, 7, 8, 15, 16] [0, 1, 2, 3, 4, 5, 6, 7, 8, 11, 12, 13, 14, 15, 16, 9, 10] rfl rfl (by decide) rfl ?_
        cases h
        exact go_iret C dX9_then_89 rfl rfl
      refine go_ite h (fun q h => ?_) (fun q2 h => ?_)
      · refine go_tabIn (off := 56) (tgt := 90) C dX9_then_34 q (by decide) (by decide) rfl ?_
        refine go_aload_n C dX9_then_90 0 rfl ?_
        refine go_get (v := .ref T_fire0) C ffX9_33 dX9_then_91 0 rfl rfl ?_
        obtain ⟨r13, k14, h⟩ := tbd_e h
        refine go_callV (q0 := 7) (wr := u9 G T0 T_brigade0 T_pad0 T_act0 T_fire0 T_routes0 T_posts0 T_trails0 T_feet0 T_images0 T ++ (u1 G T_brigade0 T_brigade1 T_brigade2 T_brigade3 T_brigade4 T_brigade5 T_brigade ++ (u0 G T_fire_act0 r3.2.2.1 ++ (u1 G T_fire_after0 T_fire_after1 T_fire_after2 T_fire_after3 T_fire_after4 T_fire_after5 r3.2.2.2 ++ (u5 G T_pad0 T_pad1 T_pad))))) (w' := u9 G T0 T_brigade0 T_pad0 T_act0 T_fire0 T_routes0 T_posts0 T_trails0 T_feet0 T_images0 T ++ (u1 G T_brigade0 T_brigade1 T_brigade2 T_brigade3 T_brigade4 T_brigade5 T_brigade ++ (u4 G T_fire0 T_fire_after0 T_fire_act0 r3.2.1 ++ (u0 G T_fire_act0 r3.2.2.1 ++ (u1 G T_fire_after0 T_fire_after1 T_fire_after2 T_fire_after3 T_fire_after4 T_fire_after5 r3.2.2.2 ++ (u5 G T_pad0 T_pad1 T_pad)))))) C cfX9_162 viX4_stepsMade (m4_stepsMade_k l G T_fire0 T_fire_after0 T_fire_act0 r3.2.1 r13 k14) dX9_then_94 (by decide) ⟨Nat.zero_le _, Nat.zero_le _⟩ rfl rfl (Nat.le_of_ble_eq_true rfl) rfl [7] [0, 1, 2, 3, 4, 5, 6, 8, 9, 10, 11, 12, 13, 14, 15, 16] [0, 1, 2, 3, 4, 5, 6, 16, 7, 8, 9, 10, 11, 12, 13, 14, 15] rfl rfl (by decide) rfl ?_
        cases h
        exact go_iret C dX9_then_97 rfl rfl
      refine go_ite h (fun q h => ?_) (fun q3 h => ?_)
      · refine go_tabIn (off := 64) (tgt := 98) C dX9_then_34 q (by decide) (by decide) rfl ?_
        refine go_aload_n C dX9_then_98 0 rfl ?_
        refine go_get (v := .ref T_fire0) C ffX9_33 dX9_then_99 0 rfl rfl ?_
        obtain ⟨r15, k16, h⟩ := tbd_e h
        refine go_callV (q0 := 7) (wr := u9 G T0 T_brigade0 T_pad0 T_act0 T_fire0 T_routes0 T_posts0 T_trails0 T_feet0 T_images0 T ++ (u1 G T_brigade0 T_brigade1 T_brigade2 T_brigade3 T_brigade4 T_brigade5 T_brigade ++ (u0 G T_fire_act0 r3.2.2.1 ++ (u1 G T_fire_after0 T_fire_after1 T_fire_after2 T_fire_after3 T_fire_after4 T_fire_after5 r3.2.2.2 ++ (u5 G T_pad0 T_pad1 T_pad))))) (w' := u9 G T0 T_brigade0 T_pad0 T_act0 T_fire0 T_routes0 T_posts0 T_trails0 T_feet0 T_images0 T ++ (u1 G T_brigade0 T_brigade1 T_brigade2 T_brigade3 T_brigade4 T_brigade5 T_brigade ++ (u4 G T_fire0 T_fire_after0 T_fire_act0 r3.2.1 ++ (u0 G T_fire_act0 r3.2.2.1 ++ (u1 G T_fire_after0 T_fire_after1 T_fire_after2 T_fire_after3 T_fire_after4 T_fire_after5 r3.2.2.2 ++ (u5 G T_pad0 T_pad1 T_pad)))))) C cfX9_165 viX4_coinsPaid (m4_coinsPaid_k l G T_fire0 T_fire_after0 T_fire_act0 r3.2.1 r15 k16) dX9_then_102 (by decide) ⟨Nat.zero_le _, Nat.zero_le _⟩ rfl rfl (Nat.le_of_ble_eq_true rfl) rfl [7] [0, 1, 2, 3, 4, 5, 6, 8, 9, 10, 11, 12, 13, 14, 15, 16] [0, 1, 2, 3, 4, 5, 6, 16, 7, 8, 9, 10, 11, 12, 13, 14, 15] rfl rfl (by decide) rfl ?_
        cases h
        exact go_iret C dX9_then_105 rfl rfl
      refine go_ite h (fun q h => ?_) (fun q4 h => ?_)
      · refine go_tabIn (off := 72) (tgt := 106) C dX9_then_34 q (by decide) (by decide) rfl ?_
        refine go_aload_n C dX9_then_106 0 rfl ?_
        refine go_get (v := .ref T_fire0) C ffX9_33 dX9_then_107 0 rfl rfl ?_
        obtain ⟨r17, k18, h⟩ := tbd_e h
        refine go_callV (q0 := 7) (wr := u9 G T0 T_brigade0 T_pad0 T_act0 T_fire0 T_routes0 T_posts0 T_trails0 T_feet0 T_images0 T ++ (u1 G T_brigade0 T_brigade1 T_brigade2 T_brigade3 T_brigade4 T_brigade5 T_brigade ++ (u0 G T_fire_act0 r3.2.2.1 ++ (u1 G T_fire_after0 T_fire_after1 T_fire_after2 T_fire_after3 T_fire_after4 T_fire_after5 r3.2.2.2 ++ (u5 G T_pad0 T_pad1 T_pad))))) (w' := u9 G T0 T_brigade0 T_pad0 T_act0 T_fire0 T_routes0 T_posts0 T_trails0 T_feet0 T_images0 T ++ (u1 G T_brigade0 T_brigade1 T_brigade2 T_brigade3 T_brigade4 T_brigade5 T_brigade ++ (u4 G T_fire0 T_fire_after0 T_fire_act0 r3.2.1 ++ (u0 G T_fire_act0 r3.2.2.1 ++ (u1 G T_fire_after0 T_fire_after1 T_fire_after2 T_fire_after3 T_fire_after4 T_fire_after5 r3.2.2.2 ++ (u5 G T_pad0 T_pad1 T_pad)))))) C cfX9_168 viX4_firstActUp (m4_firstActUp_k l G T_fire0 T_fire_after0 T_fire_act0 r3.2.1 r17 k18) dX9_then_110 (by decide) ⟨Nat.zero_le _, Nat.zero_le _⟩ rfl rfl (Nat.le_of_ble_eq_true rfl) rfl [7] [0, 1, 2, 3, 4, 5, 6, 8, 9, 10, 11, 12, 13, 14, 15, 16] [0, 1, 2, 3, 4, 5, 6, 16, 7, 8, 9, 10, 11, 12, 13, 14, 15] rfl rfl (by decide) rfl ?_
        cases h
        exact go_iret C dX9_then_113 rfl rfl
      refine go_tabOut (tgt := 114) C dX9_then_34 (by have a0 := lv_neT (a := 0) q0 rfl; have a1 := lv_neT (a := 1) q1 rfl; have a2 := lv_neT (a := 2) q2 rfl; have a3 := lv_neT (a := 3) q3 rfl; have a4 := lv_neT (a := 4) q4 rfl; omega) rfl ?_
      refine go_aload_n C dX9_then_114 0 rfl ?_
      refine go_get (v := .ref T_fire0) C ffX9_33 dX9_then_115 0 rfl rfl ?_
      obtain ⟨r19, k20, h⟩ := tbd_e h
      refine go_callV (q0 := 7) (wr := u9 G T0 T_brigade0 T_pad0 T_act0 T_fire0 T_routes0 T_posts0 T_trails0 T_feet0 T_images0 T ++ (u1 G T_brigade0 T_brigade1 T_brigade2 T_brigade3 T_brigade4 T_brigade5 T_brigade ++ (u0 G T_fire_act0 r3.2.2.1 ++ (u1 G T_fire_after0 T_fire_after1 T_fire_after2 T_fire_after3 T_fire_after4 T_fire_after5 r3.2.2.2 ++ (u5 G T_pad0 T_pad1 T_pad))))) (w' := u9 G T0 T_brigade0 T_pad0 T_act0 T_fire0 T_routes0 T_posts0 T_trails0 T_feet0 T_images0 T ++ (u1 G T_brigade0 T_brigade1 T_brigade2 T_brigade3 T_brigade4 T_brigade5 T_brigade ++ (u4 G T_fire0 T_fire_after0 T_fire_act0 r3.2.1 ++ (u0 G T_fire_act0 r3.2.2.1 ++ (u1 G T_fire_after0 T_fire_after1 T_fire_after2 T_fire_after3 T_fire_after4 T_fire_after5 r3.2.2.2 ++ (u5 G T_pad0 T_pad1 T_pad)))))) C cfX9_171 viX4_firstManUp (m4_firstManUp_k l G T_fire0 T_fire_after0 T_fire_act0 r3.2.1 r19 k20) dX9_then_118 (by decide) ⟨Nat.zero_le _, Nat.zero_le _⟩ rfl rfl (Nat.le_of_ble_eq_true rfl) rfl [7] [0, 1, 2, 3, 4, 5, 6, 8, 9, 10, 11, 12, 13, 14, 15, 16] [0, 1, 2, 3, 4, 5, 6, 16, 7, 8, 9, 10, 11, 12, 13, 14, 15] rfl rfl (by decide) rfl ?_
      cases h
      exact go_iret C dX9_then_121 rfl rfl
    · refine go_bipush (v := -5) C dX9_then_30 rfl ?_
      cases h
      exact go_iret C dX9_then_32 rfl rfl
  · refine go_bipush (v := -2) C dX9_then_9 rfl ?_
    cases h
    exact go_iret C dX9_then_11 rfl rfl

set_option maxRecDepth 100000 in
set_option maxHeartbeats 4000000 in
theorem m9_climb_k (l : Launch) (G : gG) (T0 T_brigade0 T_pad0 T_act0 T_fire0 T_routes0 T_posts0 T_trails0 T_feet0 T_images0 T_brigade1 T_brigade2 T_brigade3 T_brigade4 T_brigade5 T_routes1 : Nat) (T : SX9) (T_brigade : SX1) (T_routes : SX7) (a1 : Int32) (a2 : Int32) (R0 : Int32 × SX7) (h : m9_climb T T_brigade T_routes a1 a2 = some R0) : KK l G yX9_climb cX9_climb 3 (some .int) 4 100 [.ref T0, .int a1, .int a2] (u9 G T0 T_brigade0 T_pad0 T_act0 T_fire0 T_routes0 T_posts0 T_trails0 T_feet0 T_images0 T ++ (u1 G T_brigade0 T_brigade1 T_brigade2 T_brigade3 T_brigade4 T_brigade5 T_brigade ++ (u7 G T_routes0 T_routes1 T_routes))) (some (.int R0.1)) (u9 G T0 T_brigade0 T_pad0 T_act0 T_fire0 T_routes0 T_posts0 T_trails0 T_feet0 T_images0 T ++ (u1 G T_brigade0 T_brigade1 T_brigade2 T_brigade3 T_brigade4 T_brigade5 T_brigade ++ (u7 G T_routes0 T_routes1 R0.2))) := by
  refine KK_intro (own := RX9) (by decide +kernel) rfl (Nat.le_of_ble_eq_true rfl) rfl ?_
  intro p e s m args below meth c A C
  unfold m9_climb at h
  refine go_iload_n C dX9_climb_0 1 rfl ?_
  obtain ⟨r1, k2, h⟩ := tbd_e h
  refine go_callS0 C cfX9_91 (wr6 _ (List.mem_of_getElem? (i := 22) rfl)) (m9_isMan_k l G a1 r1 k2) dX9_climb_1 (by decide) ⟨Nat.zero_le _, Nat.zero_le _⟩ rfl rfl (Nat.le_of_ble_eq_true rfl) ?_
  refine go_if_ne (tgt := 9) C h dX9_climb_4 rfl (fun h => ?_) (fun h => ?_)
  · refine go_iload_n C dX9_climb_9 2 rfl ?_
    refine go_iconst (v := 0) C dX9_climb_10 rfl ?_
    refine go_iconst (v := 1) C dX9_climb_11 rfl ?_
    obtain ⟨r3, k4, h⟩ := tbd_e h
    refine go_callS0 C cfX9_94 (wr7 _ (List.mem_of_getElem? (i := 4) rfl)) (m9_within_k l G a2 (0 : Int32) (1 : Int32) r3 k4) dX9_climb_12 (by decide) ⟨Nat.zero_le _, Nat.zero_le _⟩ rfl rfl (Nat.le_of_ble_eq_true rfl) ?_
    refine go_if_ne (tgt := 21) C h dX9_climb_15 rfl (fun h => ?_) (fun h => ?_)
    · refine go_iload_n C dX9_climb_21 2 rfl ?_
      refine go_if_ne (tgt := 40) C h dX9_climb_22 rfl (fun h => ?_) (fun h => ?_)
      · refine go_aload_n C dX9_climb_40 0 rfl ?_
        refine go_get (v := .ref T_routes0) C ffX9_40 dX9_climb_41 0 rfl rfl ?_
        refine go_aload_n C dX9_climb_44 0 rfl ?_
        refine go_get (v := .ref T_brigade0) C ffX9_12 dX9_climb_45 0 rfl rfl ?_
        refine go_iload_n C dX9_climb_48 1 rfl ?_
        obtain ⟨r5, k6, h⟩ := tbd_e h
        refine go_callV (q0 := 7) (wr := u9 G T0 T_brigade0 T_pad0 T_act0 T_fire0 T_routes0 T_posts0 T_trails0 T_feet0 T_images0 T) (w' := u9 G T0 T_brigade0 T_pad0 T_act0 T_fire0 T_routes0 T_posts0 T_trails0 T_feet0 T_images0 T ++ (u1 G T_brigade0 T_brigade1 T_brigade2 T_brigade3 T_brigade4 T_brigade5 T_brigade ++ (u7 G T_routes0 T_routes1 r5.2))) C cfX9_178 viX7_firstStep (m7_firstStep_k l G T_routes0 T_routes1 T_brigade0 T_brigade1 T_brigade2 T_brigade3 T_brigade4 T_brigade5 T_routes T_brigade a1 r5 k6) dX9_climb_49 (by decide) ⟨Nat.zero_le _, Nat.zero_le _⟩ rfl rfl (Nat.le_of_ble_eq_true rfl) rfl [7, 8, 1, 2, 3, 4, 5, 6] [0] [0, 3, 4, 5, 6, 7, 8, 1, 2] rfl rfl (by decide) rfl ?_
        cases h
        exact go_iret C dX9_climb_52 rfl rfl
      · refine go_aload_n C dX9_climb_25 0 rfl ?_
        refine go_get (v := .ref T_routes0) C ffX9_40 dX9_climb_26 0 rfl rfl ?_
        refine go_aload_n C dX9_climb_29 0 rfl ?_
        refine go_get (v := .ref T_brigade0) C ffX9_12 dX9_climb_30 0 rfl rfl ?_
        refine go_iload_n C dX9_climb_33 1 rfl ?_
        obtain ⟨r7, k8, h⟩ := tbd_e h
        refine go_callV (q0 := 7) (wr := u9 G T0 T_brigade0 T_pad0 T_act0 T_fire0 T_routes0 T_posts0 T_trails0 T_feet0 T_images0 T) (w' := u9 G T0 T_brigade0 T_pad0 T_act0 T_fire0 T_routes0 T_posts0 T_trails0 T_feet0 T_images0 T ++ (u1 G T_brigade0 T_brigade1 T_brigade2 T_brigade3 T_brigade4 T_brigade5 T_brigade ++ (u7 G T_routes0 T_routes1 r7.2))) C cfX9_174 viX7_fewestSteps (m7_fewestSteps_k l G T_routes0 T_routes1 T_brigade0 T_brigade1 T_brigade2 T_brigade3 T_brigade4 T_brigade5 T_routes T_brigade a1 r7 k8) dX9_climb_34 (by decide) ⟨Nat.zero_le _, Nat.zero_le _⟩ rfl rfl (Nat.le_of_ble_eq_true rfl) rfl [7, 8, 1, 2, 3, 4, 5, 6] [0] [0, 3, 4, 5, 6, 7, 8, 1, 2] rfl rfl (by decide) rfl ?_
        refine go_goto (tgt := 52) C dX9_climb_37 rfl ?_
        cases h
        exact go_iret C dX9_climb_52 rfl rfl
    · refine go_bipush (v := -2) C dX9_climb_18 rfl ?_
      cases h
      exact go_iret C dX9_climb_20 rfl rfl
  · refine go_iconst (v := -1) C dX9_climb_7 rfl ?_
    cases h
    exact go_iret C dX9_climb_8 rfl rfl

set_option maxRecDepth 100000 in
set_option maxHeartbeats 4000000 in
theorem m9_ways_k (l : Launch) (G : gG) (T0 T_brigade0 T_pad0 T_act0 T_fire0 T_routes0 T_posts0 T_trails0 T_feet0 T_images0 T_brigade1 T_brigade2 T_brigade3 T_brigade4 T_brigade5 T_routes1 : Nat) (T : SX9) (T_brigade : SX1) (T_routes : SX7) (a1 : Int32) (R0 : Int32 × SX7) (h : m9_ways T T_brigade T_routes a1 = some R0) : KK l G yX9_ways cX9_ways 2 (some .int) 3 73 [.ref T0, .int a1] (u9 G T0 T_brigade0 T_pad0 T_act0 T_fire0 T_routes0 T_posts0 T_trails0 T_feet0 T_images0 T ++ (u1 G T_brigade0 T_brigade1 T_brigade2 T_brigade3 T_brigade4 T_brigade5 T_brigade ++ (u7 G T_routes0 T_routes1 T_routes))) (some (.int R0.1)) (u9 G T0 T_brigade0 T_pad0 T_act0 T_fire0 T_routes0 T_posts0 T_trails0 T_feet0 T_images0 T ++ (u1 G T_brigade0 T_brigade1 T_brigade2 T_brigade3 T_brigade4 T_brigade5 T_brigade ++ (u7 G T_routes0 T_routes1 R0.2))) := by
  refine KK_intro (own := RX9) (by decide +kernel) rfl (Nat.le_of_ble_eq_true rfl) rfl ?_
  intro p e s m args below meth c A C
  unfold m9_ways at h
  refine go_iload_n C dX9_ways_0 1 rfl ?_
  obtain ⟨r1, k2, h⟩ := tbd_e h
  refine go_callS0 C cfX9_91 (wr6 _ (List.mem_of_getElem? (i := 22) rfl)) (m9_isMan_k l G a1 r1 k2) dX9_ways_1 (by decide) ⟨Nat.zero_le _, Nat.zero_le _⟩ rfl rfl (Nat.le_of_ble_eq_true rfl) ?_
  refine go_if_ne (tgt := 9) C h dX9_ways_4 rfl (fun h => ?_) (fun h => ?_)
  · refine go_aload_n C dX9_ways_9 0 rfl ?_
    refine go_get (v := .ref T_routes0) C ffX9_40 dX9_ways_10 0 rfl rfl ?_
    refine go_aload_n C dX9_ways_13 0 rfl ?_
    refine go_get (v := .ref T_brigade0) C ffX9_12 dX9_ways_14 0 rfl rfl ?_
    refine go_iload_n C dX9_ways_17 1 rfl ?_
    obtain ⟨r3, k4, h⟩ := tbd_e h
    refine go_callV (q0 := 7) (wr := u9 G T0 T_brigade0 T_pad0 T_act0 T_fire0 T_routes0 T_posts0 T_trails0 T_feet0 T_images0 T) (w' := u9 G T0 T_brigade0 T_pad0 T_act0 T_fire0 T_routes0 T_posts0 T_trails0 T_feet0 T_images0 T ++ (u1 G T_brigade0 T_brigade1 T_brigade2 T_brigade3 T_brigade4 T_brigade5 T_brigade ++ (u7 G T_routes0 T_routes1 r3.2))) C cfX9_181 viX7_countUp (m7_countUp_k l G T_routes0 T_routes1 T_brigade0 T_brigade1 T_brigade2 T_brigade3 T_brigade4 T_brigade5 T_routes T_brigade a1 r3 k4) dX9_ways_18 (by decide) ⟨Nat.zero_le _, Nat.zero_le _⟩ rfl rfl (Nat.le_of_ble_eq_true rfl) rfl [7, 8, 1, 2, 3, 4, 5, 6] [0] [0, 3, 4, 5, 6, 7, 8, 1, 2] rfl rfl (by decide) rfl ?_
    cases h
    exact go_iret C dX9_ways_21 rfl rfl
  · refine go_iconst (v := -1) C dX9_ways_7 rfl ?_
    cases h
    exact go_iret C dX9_ways_8 rfl rfl

set_option maxRecDepth 100000 in
set_option maxHeartbeats 4000000 in
theorem m9_leases_k (l : Launch) (G : gG) (T0 T_brigade0 T_pad0 T_act0 T_fire0 T_routes0 T_posts0 T_trails0 T_feet0 T_images0 T_brigade1 T_brigade2 T_brigade3 T_brigade4 T_brigade5 T_routes1 : Nat) (T : SX9) (T_brigade : SX1) (T_routes : SX7) (a1 : Int32) (a2 : Int32) (R0 : Int32 × SX7) (h : m9_leases T T_brigade T_routes a1 a2 = some R0) : KK l G yX9_leases cX9_leases 3 (some .int) 5 115 [.ref T0, .int a1, .int a2] (u9 G T0 T_brigade0 T_pad0 T_act0 T_fire0 T_routes0 T_posts0 T_trails0 T_feet0 T_images0 T ++ (u1 G T_brigade0 T_brigade1 T_brigade2 T_brigade3 T_brigade4 T_brigade5 T_brigade ++ (u7 G T_routes0 T_routes1 T_routes))) (some (.int R0.1)) (u9 G T0 T_brigade0 T_pad0 T_act0 T_fire0 T_routes0 T_posts0 T_trails0 T_feet0 T_images0 T ++ (u1 G T_brigade0 T_brigade1 T_brigade2 T_brigade3 T_brigade4 T_brigade5 T_brigade ++ (u7 G T_routes0 T_routes1 R0.2))) := by
  refine KK_intro (own := RX9) (by decide +kernel) rfl (Nat.le_of_ble_eq_true rfl) rfl ?_
  intro p e s m args below meth c A C
  unfold m9_leases at h
  refine go_iload_n C dX9_leases_0 1 rfl ?_
  obtain ⟨r1, k2, h⟩ := tbd_e h
  refine go_callS0 C cfX9_91 (wr6 _ (List.mem_of_getElem? (i := 22) rfl)) (m9_isMan_k l G a1 r1 k2) dX9_leases_1 (by decide) ⟨Nat.zero_le _, Nat.zero_le _⟩ rfl rfl (Nat.le_of_ble_eq_true rfl) ?_
  refine go_if_ne (tgt := 9) C h dX9_leases_4 rfl (fun h => ?_) (fun h => ?_)
  · refine go_iload_n C dX9_leases_9 2 rfl ?_
    refine go_iconst (v := 0) C dX9_leases_10 rfl ?_
    refine go_iconst (v := 1) C dX9_leases_11 rfl ?_
    obtain ⟨r3, k4, h⟩ := tbd_e h
    refine go_callS0 C cfX9_94 (wr7 _ (List.mem_of_getElem? (i := 4) rfl)) (m9_within_k l G a2 (0 : Int32) (1 : Int32) r3 k4) dX9_leases_12 (by decide) ⟨Nat.zero_le _, Nat.zero_le _⟩ rfl rfl (Nat.le_of_ble_eq_true rfl) ?_
    refine go_if_ne (tgt := 21) C h dX9_leases_15 rfl (fun h => ?_) (fun h => ?_)
    · refine go_iload_n C dX9_leases_21 2 rfl ?_
      refine go_if_ne (tgt := 40) C h dX9_leases_22 rfl (fun h => ?_) (fun h => ?_)
      · refine go_aload_n C dX9_leases_40 0 rfl ?_
        refine go_get (v := .ref T_routes0) C ffX9_40 dX9_leases_41 0 rfl rfl ?_
        refine go_aload_n C dX9_leases_44 0 rfl ?_
        refine go_get (v := .ref T_brigade0) C ffX9_12 dX9_leases_45 0 rfl rfl ?_
        refine go_iload_n C dX9_leases_48 1 rfl ?_
        obtain ⟨r5, k6, h⟩ := tbd_e h
        refine go_callV (q0 := 7) (wr := u9 G T0 T_brigade0 T_pad0 T_act0 T_fire0 T_routes0 T_posts0 T_trails0 T_feet0 T_images0 T) (w' := u9 G T0 T_brigade0 T_pad0 T_act0 T_fire0 T_routes0 T_posts0 T_trails0 T_feet0 T_images0 T ++ (u1 G T_brigade0 T_brigade1 T_brigade2 T_brigade3 T_brigade4 T_brigade5 T_brigade ++ (u7 G T_routes0 T_routes1 r5.2))) C cfX9_187 viX7_leastLeased (m7_leastLeased_k l G T_routes0 T_routes1 T_brigade0 T_brigade1 T_brigade2 T_brigade3 T_brigade4 T_brigade5 T_routes T_brigade a1 r5 k6) dX9_leases_49 (by decide) ⟨Nat.zero_le _, Nat.zero_le _⟩ rfl rfl (Nat.le_of_ble_eq_true rfl) rfl [7, 8, 1, 2, 3, 4, 5, 6] [0] [0, 3, 4, 5, 6, 7, 8, 1, 2] rfl rfl (by decide) rfl ?_
        cases h
        exact go_iret C dX9_leases_52 rfl rfl
      · refine go_aload_n C dX9_leases_25 0 rfl ?_
        refine go_get (v := .ref T_routes0) C ffX9_40 dX9_leases_26 0 rfl rfl ?_
        refine go_aload_n C dX9_leases_29 0 rfl ?_
        refine go_get (v := .ref T_brigade0) C ffX9_12 dX9_leases_30 0 rfl rfl ?_
        refine go_iload_n C dX9_leases_33 1 rfl ?_
        obtain ⟨r7, k8, h⟩ := tbd_e h
        refine go_callV (q0 := 7) (wr := u9 G T0 T_brigade0 T_pad0 T_act0 T_fire0 T_routes0 T_posts0 T_trails0 T_feet0 T_images0 T) (w' := u9 G T0 T_brigade0 T_pad0 T_act0 T_fire0 T_routes0 T_posts0 T_trails0 T_feet0 T_images0 T ++ (u1 G T_brigade0 T_brigade1 T_brigade2 T_brigade3 T_brigade4 T_brigade5 T_brigade ++ (u7 G T_routes0 T_routes1 r7.2))) C cfX9_184 viX7_fewestLeases (m7_fewestLeases_k l G T_routes0 T_routes1 T_brigade0 T_brigade1 T_brigade2 T_brigade3 T_brigade4 T_brigade5 T_routes T_brigade a1 r7 k8) dX9_leases_34 (by decide) ⟨Nat.zero_le _, Nat.zero_le _⟩ rfl rfl (Nat.le_of_ble_eq_true rfl) rfl [7, 8, 1, 2, 3, 4, 5, 6] [0] [0, 3, 4, 5, 6, 7, 8, 1, 2] rfl rfl (by decide) rfl ?_
        refine go_goto (tgt := 52) C dX9_leases_37 rfl ?_
        cases h
        exact go_iret C dX9_leases_52 rfl rfl
    · refine go_bipush (v := -2) C dX9_leases_18 rfl ?_
      cases h
      exact go_iret C dX9_leases_20 rfl rfl
  · refine go_iconst (v := -1) C dX9_leases_7 rfl ?_
    cases h
    exact go_iret C dX9_leases_8 rfl rfl

set_option maxRecDepth 100000 in
set_option maxHeartbeats 4000000 in
theorem m9_stand_k (l : Launch) (G : gG) (T0 T_brigade0 T_pad0 T_act0 T_fire0 T_routes0 T_posts0 T_trails0 T_feet0 T_images0 T_brigade1 T_brigade2 T_brigade3 T_brigade4 T_brigade5 T_posts1 T_posts2 : Nat) (T : SX9) (T_brigade : SX1) (T_posts : SX6) (a1 : Int32) (R0 : Int32 × SX6) (h : m9_stand T T_brigade T_posts a1 = some R0) : KK l G yX9_stand cX9_stand 2 (some .int) 4 95 [.ref T0, .int a1] (u9 G T0 T_brigade0 T_pad0 T_act0 T_fire0 T_routes0 T_posts0 T_trails0 T_feet0 T_images0 T ++ (u1 G T_brigade0 T_brigade1 T_brigade2 T_brigade3 T_brigade4 T_brigade5 T_brigade ++ (u6 G T_posts0 T_posts1 T_posts2 T_posts))) (some (.int R0.1)) (u9 G T0 T_brigade0 T_pad0 T_act0 T_fire0 T_routes0 T_posts0 T_trails0 T_feet0 T_images0 T ++ (u1 G T_brigade0 T_brigade1 T_brigade2 T_brigade3 T_brigade4 T_brigade5 T_brigade ++ (u6 G T_posts0 T_posts1 T_posts2 R0.2))) := by
  refine KK_intro (own := RX9) (by decide +kernel) rfl (Nat.le_of_ble_eq_true rfl) rfl ?_
  intro p e s m args below meth c A C
  unfold m9_stand at h
  refine go_iload_n C dX9_stand_0 1 rfl ?_
  obtain ⟨r1, k2, h⟩ := tbd_e h
  refine go_callS0 C cfX9_73 (wr6 _ (List.mem_of_getElem? (i := 19) rfl)) (m9_isManOrNobody_k l G a1 r1 k2) dX9_stand_1 (by decide) ⟨Nat.zero_le _, Nat.zero_le _⟩ rfl rfl (Nat.le_of_ble_eq_true rfl) ?_
  refine go_if_ne (tgt := 9) C h dX9_stand_4 rfl (fun h => ?_) (fun h => ?_)
  · refine go_aload_n C dX9_stand_9 0 rfl ?_
    refine go_get (v := .ref T_posts0) C ffX9_47 dX9_stand_10 0 rfl rfl ?_
    refine go_aload_n C dX9_stand_13 0 rfl ?_
    refine go_get (v := .ref T_brigade0) C ffX9_12 dX9_stand_14 0 rfl rfl ?_
    obtain ⟨r3, k4, h⟩ := tbd_e h
    refine go_callV (q0 := 7) (wr := u9 G T0 T_brigade0 T_pad0 T_act0 T_fire0 T_routes0 T_posts0 T_trails0 T_feet0 T_images0 T) (w' := u9 G T0 T_brigade0 T_pad0 T_act0 T_fire0 T_routes0 T_posts0 T_trails0 T_feet0 T_images0 T ++ (u1 G T_brigade0 T_brigade1 T_brigade2 T_brigade3 T_brigade4 T_brigade5 T_brigade ++ (u6 G T_posts0 T_posts1 T_posts2 r3))) C cfX9_190 viX6_assign (m6_assign_k l G T_posts0 T_posts1 T_posts2 T_brigade0 T_brigade1 T_brigade2 T_brigade3 T_brigade4 T_brigade5 T_posts T_brigade r3 k4) dX9_stand_17 (by decide) ⟨Nat.zero_le _, Nat.zero_le _⟩ rfl rfl (Nat.le_of_ble_eq_true rfl) rfl [7, 8, 9, 1, 2, 3, 4, 5, 6] [0] [0, 4, 5, 6, 7, 8, 9, 1, 2, 3] rfl rfl (by decide) rfl ?_
    refine go_iload_n C dX9_stand_20 1 rfl ?_
    refine go_iconst (v := -1) C dX9_stand_21 rfl ?_
    refine go_icmp_ne (tgt := 35) C h dX9_stand_22 rfl (fun h => ?_) (fun h => ?_)
    · refine go_aload_n C dX9_stand_35 0 rfl ?_
      refine go_get (v := .ref T_posts0) C ffX9_47 dX9_stand_36 0 rfl rfl ?_
      refine go_iload_n C dX9_stand_39 1 rfl ?_
      obtain ⟨r5, k6, h⟩ := tbd_e h
      refine go_callV (q0 := 7) (wr := u9 G T0 T_brigade0 T_pad0 T_act0 T_fire0 T_routes0 T_posts0 T_trails0 T_feet0 T_images0 T ++ (u1 G T_brigade0 T_brigade1 T_brigade2 T_brigade3 T_brigade4 T_brigade5 T_brigade)) (w' := u9 G T0 T_brigade0 T_pad0 T_act0 T_fire0 T_routes0 T_posts0 T_trails0 T_feet0 T_images0 T ++ (u1 G T_brigade0 T_brigade1 T_brigade2 T_brigade3 T_brigade4 T_brigade5 T_brigade ++ (u6 G T_posts0 T_posts1 T_posts2 r3))) C cfX9_196 viX6_rungOf (m6_rungOf_k l G T_posts0 T_posts1 T_posts2 r3 a1 r5 k6) dX9_stand_40 (by decide) ⟨Nat.zero_le _, Nat.zero_le _⟩ rfl rfl (Nat.le_of_ble_eq_true rfl) rfl [7, 8, 9] [0, 1, 2, 3, 4, 5, 6] [0, 1, 2, 3, 4, 5, 6, 7, 8, 9] rfl rfl (by decide) rfl ?_
      cases h
      exact go_iret C dX9_stand_43 rfl rfl
    · refine go_aload_n C dX9_stand_25 0 rfl ?_
      refine go_get (v := .ref T_posts0) C ffX9_47 dX9_stand_26 0 rfl rfl ?_
      obtain ⟨r7, k8, h⟩ := tbd_e h
      refine go_callV (q0 := 7) (wr := u9 G T0 T_brigade0 T_pad0 T_act0 T_fire0 T_routes0 T_posts0 T_trails0 T_feet0 T_images0 T ++ (u1 G T_brigade0 T_brigade1 T_brigade2 T_brigade3 T_brigade4 T_brigade5 T_brigade)) (w' := u9 G T0 T_brigade0 T_pad0 T_act0 T_fire0 T_routes0 T_posts0 T_trails0 T_feet0 T_images0 T ++ (u1 G T_brigade0 T_brigade1 T_brigade2 T_brigade3 T_brigade4 T_brigade5 T_brigade ++ (u6 G T_posts0 T_posts1 T_posts2 r3))) C cfX9_193 viX6_menPosted (m6_menPosted_k l G T_posts0 T_posts1 T_posts2 r3 r7 k8) dX9_stand_29 (by decide) ⟨Nat.zero_le _, Nat.zero_le _⟩ rfl rfl (Nat.le_of_ble_eq_true rfl) rfl [7, 8, 9] [0, 1, 2, 3, 4, 5, 6] [0, 1, 2, 3, 4, 5, 6, 7, 8, 9] rfl rfl (by decide) rfl ?_
      refine go_goto (tgt := 43) C dX9_stand_32 rfl ?_
      cases h
      exact go_iret C dX9_stand_43 rfl rfl
  · refine go_iconst (v := -1) C dX9_stand_7 rfl ?_
    cases h
    exact go_iret C dX9_stand_8 rfl rfl

set_option maxRecDepth 100000 in
set_option maxHeartbeats 4000000 in
theorem m9_felt_k (l : Launch) (G : gG) (T0 T_brigade0 T_pad0 T_act0 T_fire0 T_routes0 T_posts0 T_trails0 T_feet0 T_images0 T_brigade1 T_brigade2 T_brigade3 T_brigade4 T_brigade5 : Nat) (T : SX9) (T_brigade : SX1) (a1 : Int32) (a2 : Int32) (R0 : Int32 × SX1) (h : m9_felt T T_brigade a1 a2 = some R0) : KK l G yX9_felt cX9_felt 3 (some .int) 2 42 [.ref T0, .int a1, .int a2] (u9 G T0 T_brigade0 T_pad0 T_act0 T_fire0 T_routes0 T_posts0 T_trails0 T_feet0 T_images0 T ++ (u1 G T_brigade0 T_brigade1 T_brigade2 T_brigade3 T_brigade4 T_brigade5 T_brigade)) (some (.int R0.1)) (u9 G T0 T_brigade0 T_pad0 T_act0 T_fire0 T_routes0 T_posts0 T_trails0 T_feet0 T_images0 T ++ (u1 G T_brigade0 T_brigade1 T_brigade2 T_brigade3 T_brigade4 T_brigade5 R0.2)) := by
  refine KK_intro (own := RX9) (by decide +kernel) rfl (Nat.le_of_ble_eq_true rfl) rfl ?_
  intro p e s m args below meth c A C
  unfold m9_felt at h
  refine go_iload_n C dX9_felt_0 1 rfl ?_
  obtain ⟨r1, k2, h⟩ := tbd_e h
  refine go_callS0 C cfX9_69 (wr6 _ (List.mem_of_getElem? (i := 16) rfl)) (m9_isRung_k l G a1 r1 k2) dX9_felt_1 (by decide) ⟨Nat.zero_le _, Nat.zero_le _⟩ rfl rfl (Nat.le_of_ble_eq_true rfl) ?_
  refine go_if_ne (tgt := 9) C h dX9_felt_4 rfl (fun h => ?_) (fun h => ?_)
  · refine go_aload_n C dX9_felt_9 0 rfl ?_
    refine go_get (v := .ref T_brigade0) C ffX9_12 dX9_felt_10 0 rfl rfl ?_
    refine go_iload_n C dX9_felt_13 1 rfl ?_
    refine go_iload_n C dX9_felt_14 2 rfl ?_
    obtain ⟨r3, k4, h⟩ := tbd_e h
    refine go_callV (q0 := 1) (wr := u9 G T0 T_brigade0 T_pad0 T_act0 T_fire0 T_routes0 T_posts0 T_trails0 T_feet0 T_images0 T) (w' := u9 G T0 T_brigade0 T_pad0 T_act0 T_fire0 T_routes0 T_posts0 T_trails0 T_feet0 T_images0 T ++ (u1 G T_brigade0 T_brigade1 T_brigade2 T_brigade3 T_brigade4 T_brigade5 r3.2)) C cfX9_199 viX1_addSight (m1_addSight_k l G T_brigade0 T_brigade1 T_brigade2 T_brigade3 T_brigade4 T_brigade5 T_brigade a1 a2 r3 k4) dX9_felt_15 (by decide) ⟨Nat.zero_le _, Nat.zero_le _⟩ rfl rfl (Nat.le_of_ble_eq_true rfl) rfl [1, 2, 3, 4, 5, 6] [0] [0, 1, 2, 3, 4, 5, 6] rfl rfl (by decide) rfl ?_
    refine go_if_eq (tgt := 31) C h dX9_felt_18 rfl (fun h => ?_) (fun h => ?_)
    · refine go_bipush (v := -4) C dX9_felt_31 rfl ?_
      cases h
      exact go_iret C dX9_felt_33 rfl rfl
    · refine go_aload_n C dX9_felt_21 0 rfl ?_
      refine go_get (v := .ref T_brigade0) C ffX9_12 dX9_felt_22 0 rfl rfl ?_
      obtain ⟨r5, k6, h⟩ := tbd_e h
      refine go_callV (q0 := 1) (wr := u9 G T0 T_brigade0 T_pad0 T_act0 T_fire0 T_routes0 T_posts0 T_trails0 T_feet0 T_images0 T) (w' := u9 G T0 T_brigade0 T_pad0 T_act0 T_fire0 T_routes0 T_posts0 T_trails0 T_feet0 T_images0 T ++ (u1 G T_brigade0 T_brigade1 T_brigade2 T_brigade3 T_brigade4 T_brigade5 r3.2)) C cfX9_203 viX1_sightCount (m1_sightCount_k l G T_brigade0 T_brigade1 T_brigade2 T_brigade3 T_brigade4 T_brigade5 r3.2 r5 k6) dX9_felt_25 (by decide) ⟨Nat.zero_le _, Nat.zero_le _⟩ rfl rfl (Nat.le_of_ble_eq_true rfl) rfl [1, 2, 3, 4, 5, 6] [0] [0, 1, 2, 3, 4, 5, 6] rfl rfl (by decide) rfl ?_
      refine go_goto (tgt := 33) C dX9_felt_28 rfl ?_
      cases h
      exact go_iret C dX9_felt_33 rfl rfl
  · refine go_iconst (v := -1) C dX9_felt_7 rfl ?_
    cases h
    exact go_iret C dX9_felt_8 rfl rfl

set_option maxRecDepth 100000 in
set_option maxHeartbeats 4000000 in
theorem m9_forget_k (l : Launch) (G : gG) (T0 T_brigade0 T_pad0 T_act0 T_fire0 T_routes0 T_posts0 T_trails0 T_feet0 T_images0 T_brigade1 T_brigade2 T_brigade3 T_brigade4 T_brigade5 : Nat) (T : SX9) (T_brigade : SX1) (R0 : Int32 × SX1) (h : m9_forget T T_brigade = some R0) : KK l G yX9_forget cX9_forget 2 (some .int) 1 20 [.ref T0] (u9 G T0 T_brigade0 T_pad0 T_act0 T_fire0 T_routes0 T_posts0 T_trails0 T_feet0 T_images0 T ++ (u1 G T_brigade0 T_brigade1 T_brigade2 T_brigade3 T_brigade4 T_brigade5 T_brigade)) (some (.int R0.1)) (u9 G T0 T_brigade0 T_pad0 T_act0 T_fire0 T_routes0 T_posts0 T_trails0 T_feet0 T_images0 T ++ (u1 G T_brigade0 T_brigade1 T_brigade2 T_brigade3 T_brigade4 T_brigade5 R0.2)) := by
  refine KK_intro (own := RX9) (by decide +kernel) rfl (Nat.le_of_ble_eq_true rfl) rfl ?_
  intro p e s m args below meth c A C
  unfold m9_forget at h
  refine go_aload_n C dX9_forget_0 0 rfl ?_
  refine go_get (v := .ref T_brigade0) C ffX9_12 dX9_forget_1 0 rfl rfl ?_
  obtain ⟨r1, k2, h⟩ := tbd_e h
  refine go_callV (q0 := 1) (wr := u9 G T0 T_brigade0 T_pad0 T_act0 T_fire0 T_routes0 T_posts0 T_trails0 T_feet0 T_images0 T) (w' := u9 G T0 T_brigade0 T_pad0 T_act0 T_fire0 T_routes0 T_posts0 T_trails0 T_feet0 T_images0 T ++ (u1 G T_brigade0 T_brigade1 T_brigade2 T_brigade3 T_brigade4 T_brigade5 T_brigade)) C cfX9_203 viX1_sightCount (m1_sightCount_k l G T_brigade0 T_brigade1 T_brigade2 T_brigade3 T_brigade4 T_brigade5 T_brigade r1 k2) dX9_forget_4 (by decide) ⟨Nat.zero_le _, Nat.zero_le _⟩ rfl rfl (Nat.le_of_ble_eq_true rfl) rfl [1, 2, 3, 4, 5, 6] [0] [0, 1, 2, 3, 4, 5, 6] rfl rfl (by decide) rfl ?_
  refine go_istore_n (lv' := [(1, .int r1), (0, .ref T0)]) C dX9_forget_7 (by decide) rfl ?_
  refine go_aload_n C dX9_forget_8 1 rfl ?_
  refine go_get (v := .ref T_brigade0) C ffX9_12 dX9_forget_9 0 rfl rfl ?_
  obtain ⟨r3, k4, h⟩ := tbd_e h
  refine go_callV (q0 := 1) (wr := u9 G T0 T_brigade0 T_pad0 T_act0 T_fire0 T_routes0 T_posts0 T_trails0 T_feet0 T_images0 T) (w' := u9 G T0 T_brigade0 T_pad0 T_act0 T_fire0 T_routes0 T_posts0 T_trails0 T_feet0 T_images0 T ++ (u1 G T_brigade0 T_brigade1 T_brigade2 T_brigade3 T_brigade4 T_brigade5 r3)) C cfX9_206 viX1_clearSights (m1_clearSights_k l G T_brigade0 T_brigade1 T_brigade2 T_brigade3 T_brigade4 T_brigade5 T_brigade r3 k4) dX9_forget_12 (by decide) ⟨Nat.zero_le _, Nat.zero_le _⟩ rfl rfl (Nat.le_of_ble_eq_true rfl) rfl [1, 2, 3, 4, 5, 6] [0] [0, 1, 2, 3, 4, 5, 6] rfl rfl (by decide) rfl ?_
  refine go_iload_n C dX9_forget_15 0 rfl ?_
  cases h
  exact go_iret C dX9_forget_16 rfl rfl

set_option maxRecDepth 100000 in
set_option maxHeartbeats 4000000 in
theorem m9_ups_k (l : Launch) (G : gG) (T0 T_brigade0 T_pad0 T_act0 T_fire0 T_routes0 T_posts0 T_trails0 T_feet0 T_images0 T_brigade1 T_brigade2 T_brigade3 T_brigade4 T_brigade5 T_trails1 T_trails2 : Nat) (T : SX9) (T_brigade : SX1) (T_trails : SX8) (a1 : Int32) (R0 : Int32 × SX8) (h : m9_ups T T_brigade T_trails a1 = some R0) : KK l G yX9_ups cX9_ups 2 (some .int) 5 117 [.ref T0, .int a1] (u9 G T0 T_brigade0 T_pad0 T_act0 T_fire0 T_routes0 T_posts0 T_trails0 T_feet0 T_images0 T ++ (u1 G T_brigade0 T_brigade1 T_brigade2 T_brigade3 T_brigade4 T_brigade5 T_brigade ++ (u8 G T_trails0 T_trails1 T_trails2 T_trails))) (some (.int R0.1)) (u9 G T0 T_brigade0 T_pad0 T_act0 T_fire0 T_routes0 T_posts0 T_trails0 T_feet0 T_images0 T ++ (u1 G T_brigade0 T_brigade1 T_brigade2 T_brigade3 T_brigade4 T_brigade5 T_brigade ++ (u8 G T_trails0 T_trails1 T_trails2 R0.2))) := by
  refine KK_intro (own := RX9) (by decide +kernel) rfl (Nat.le_of_ble_eq_true rfl) rfl ?_
  intro p e s m args below meth c A C
  unfold m9_ups at h
  refine go_aload_n C dX9_ups_0 0 rfl ?_
  refine go_get (v := .ref T_trails0) C ffX9_54 dX9_ups_1 0 rfl rfl ?_
  refine go_aload_n C dX9_ups_4 0 rfl ?_
  refine go_get (v := .ref T_brigade0) C ffX9_12 dX9_ups_5 0 rfl rfl ?_
  obtain ⟨r1, k2, h⟩ := tbd_e h
  refine go_callV (q0 := 7) (wr := u9 G T0 T_brigade0 T_pad0 T_act0 T_fire0 T_routes0 T_posts0 T_trails0 T_feet0 T_images0 T) (w' := u9 G T0 T_brigade0 T_pad0 T_act0 T_fire0 T_routes0 T_posts0 T_trails0 T_feet0 T_images0 T ++ (u1 G T_brigade0 T_brigade1 T_brigade2 T_brigade3 T_brigade4 T_brigade5 T_brigade ++ (u8 G T_trails0 T_trails1 T_trails2 r1))) C cfX9_209 viX8_find (m8_find_k l G T_trails0 T_trails1 T_trails2 T_brigade0 T_brigade1 T_brigade2 T_brigade3 T_brigade4 T_brigade5 T_trails T_brigade r1 k2) dX9_ups_8 (by decide) ⟨Nat.zero_le _, Nat.zero_le _⟩ rfl rfl (Nat.le_of_ble_eq_true rfl) rfl [7, 8, 9, 1, 2, 3, 4, 5, 6] [0] [0, 4, 5, 6, 7, 8, 9, 1, 2, 3] rfl rfl (by decide) rfl ?_
  refine go_iload_n C dX9_ups_11 1 rfl ?_
  refine go_iconst (v := -1) C dX9_ups_12 rfl ?_
  refine go_icmp_ne (tgt := 26) C h dX9_ups_13 rfl (fun h => ?_) (fun h => ?_)
  · refine go_aload_n C dX9_ups_26 0 rfl ?_
    refine go_get (v := .ref T_trails0) C ffX9_54 dX9_ups_27 0 rfl rfl ?_
    refine go_iload_n C dX9_ups_30 1 rfl ?_
    obtain ⟨r3, k4, h⟩ := tbd_e h
    refine go_callV (q0 := 7) (wr := u9 G T0 T_brigade0 T_pad0 T_act0 T_fire0 T_routes0 T_posts0 T_trails0 T_feet0 T_images0 T ++ (u1 G T_brigade0 T_brigade1 T_brigade2 T_brigade3 T_brigade4 T_brigade5 T_brigade)) (w' := u9 G T0 T_brigade0 T_pad0 T_act0 T_fire0 T_routes0 T_posts0 T_trails0 T_feet0 T_images0 T ++ (u1 G T_brigade0 T_brigade1 T_brigade2 T_brigade3 T_brigade4 T_brigade5 T_brigade ++ (u8 G T_trails0 T_trails1 T_trails2 r1))) C cfX9_213 viX8_codeAt (m8_codeAt_k l G T_trails0 T_trails1 T_trails2 r1 a1 r3 k4) dX9_ups_31 (by decide) ⟨Nat.zero_le _, Nat.zero_le _⟩ rfl rfl (Nat.le_of_ble_eq_true rfl) rfl [7, 8, 9] [0, 1, 2, 3, 4, 5, 6] [0, 1, 2, 3, 4, 5, 6, 7, 8, 9] rfl rfl (by decide) rfl ?_
    cases h
    exact go_iret C dX9_ups_34 rfl rfl
  · refine go_aload_n C dX9_ups_16 0 rfl ?_
    refine go_get (v := .ref T_trails0) C ffX9_54 dX9_ups_17 0 rfl rfl ?_
    obtain ⟨r5, k6, h⟩ := tbd_e h
    refine go_callV (q0 := 7) (wr := u9 G T0 T_brigade0 T_pad0 T_act0 T_fire0 T_routes0 T_posts0 T_trails0 T_feet0 T_images0 T ++ (u1 G T_brigade0 T_brigade1 T_brigade2 T_brigade3 T_brigade4 T_brigade5 T_brigade)) (w' := u9 G T0 T_brigade0 T_pad0 T_act0 T_fire0 T_routes0 T_posts0 T_trails0 T_feet0 T_images0 T ++ (u1 G T_brigade0 T_brigade1 T_brigade2 T_brigade3 T_brigade4 T_brigade5 T_brigade ++ (u8 G T_trails0 T_trails1 T_trails2 r1))) C cfX9_212 viX8_size (m8_size_k l G T_trails0 T_trails1 T_trails2 r1 r5 k6) dX9_ups_20 (by decide) ⟨Nat.zero_le _, Nat.zero_le _⟩ rfl rfl (Nat.le_of_ble_eq_true rfl) rfl [7, 8, 9] [0, 1, 2, 3, 4, 5, 6] [0, 1, 2, 3, 4, 5, 6, 7, 8, 9] rfl rfl (by decide) rfl ?_
    refine go_goto (tgt := 34) C dX9_ups_23 rfl ?_
    cases h
    exact go_iret C dX9_ups_34 rfl rfl

set_option maxRecDepth 100000 in
set_option maxHeartbeats 4000000 in
theorem m9_ask_k (l : Launch) (G : gG) (T0 T_brigade0 T_pad0 T_act0 T_fire0 T_routes0 T_posts0 T_trails0 T_feet0 T_images0 T_brigade1 T_brigade2 T_brigade3 T_brigade4 T_brigade5 T_trails1 T_trails2 : Nat) (T : SX9) (T_brigade : SX1) (T_trails : SX8) (a1 : Int32) (R0 : Int32 × SX8) (h : m9_ask T T_brigade T_trails a1 = some R0) : KK l G yX9_ask cX9_ask 3 (some .int) 5 117 [.ref T0, .int a1] (u9 G T0 T_brigade0 T_pad0 T_act0 T_fire0 T_routes0 T_posts0 T_trails0 T_feet0 T_images0 T ++ (u1 G T_brigade0 T_brigade1 T_brigade2 T_brigade3 T_brigade4 T_brigade5 T_brigade ++ (u8 G T_trails0 T_trails1 T_trails2 T_trails))) (some (.int R0.1)) (u9 G T0 T_brigade0 T_pad0 T_act0 T_fire0 T_routes0 T_posts0 T_trails0 T_feet0 T_images0 T ++ (u1 G T_brigade0 T_brigade1 T_brigade2 T_brigade3 T_brigade4 T_brigade5 T_brigade ++ (u8 G T_trails0 T_trails1 T_trails2 R0.2))) := by
  refine KK_intro (own := RX9) (by decide +kernel) rfl (Nat.le_of_ble_eq_true rfl) rfl ?_
  intro p e s m args below meth c A C
  unfold m9_ask at h
  refine go_iload_n C dX9_ask_0 1 rfl ?_
  refine go_iconst (v := 0) C dX9_ask_1 rfl ?_
  refine go_iconst (v := 1) C dX9_ask_2 rfl ?_
  obtain ⟨r1, k2, h⟩ := tbd_e h
  refine go_callS0 C cfX9_94 (wr7 _ (List.mem_of_getElem? (i := 4) rfl)) (m9_within_k l G a1 (0 : Int32) (1 : Int32) r1 k2) dX9_ask_3 (by decide) ⟨Nat.zero_le _, Nat.zero_le _⟩ rfl rfl (Nat.le_of_ble_eq_true rfl) ?_
  refine go_if_ne (tgt := 12) C h dX9_ask_6 rfl (fun h => ?_) (fun h => ?_)
  · refine go_aload_n C dX9_ask_12 0 rfl ?_
    refine go_get (v := .ref T_trails0) C ffX9_54 dX9_ask_13 0 rfl rfl ?_
    refine go_aload_n C dX9_ask_16 0 rfl ?_
    refine go_get (v := .ref T_brigade0) C ffX9_12 dX9_ask_17 0 rfl rfl ?_
    obtain ⟨r3, k4, h⟩ := tbd_e h
    refine go_callV (q0 := 7) (wr := u9 G T0 T_brigade0 T_pad0 T_act0 T_fire0 T_routes0 T_posts0 T_trails0 T_feet0 T_images0 T) (w' := u9 G T0 T_brigade0 T_pad0 T_act0 T_fire0 T_routes0 T_posts0 T_trails0 T_feet0 T_images0 T ++ (u1 G T_brigade0 T_brigade1 T_brigade2 T_brigade3 T_brigade4 T_brigade5 T_brigade ++ (u8 G T_trails0 T_trails1 T_trails2 r3))) C cfX9_209 viX8_find (m8_find_k l G T_trails0 T_trails1 T_trails2 T_brigade0 T_brigade1 T_brigade2 T_brigade3 T_brigade4 T_brigade5 T_trails T_brigade r3 k4) dX9_ask_20 (by decide) ⟨Nat.zero_le _, Nat.zero_le _⟩ rfl rfl (Nat.le_of_ble_eq_true rfl) rfl [7, 8, 9, 1, 2, 3, 4, 5, 6] [0] [0, 4, 5, 6, 7, 8, 9, 1, 2, 3] rfl rfl (by decide) rfl ?_
    refine go_aload_n C dX9_ask_23 0 rfl ?_
    refine go_get (v := .ref T_trails0) C ffX9_54 dX9_ask_24 0 rfl rfl ?_
    obtain ⟨r5, k6, h⟩ := tbd_e h
    refine go_callV (q0 := 7) (wr := u9 G T0 T_brigade0 T_pad0 T_act0 T_fire0 T_routes0 T_posts0 T_trails0 T_feet0 T_images0 T ++ (u1 G T_brigade0 T_brigade1 T_brigade2 T_brigade3 T_brigade4 T_brigade5 T_brigade)) (w' := u9 G T0 T_brigade0 T_pad0 T_act0 T_fire0 T_routes0 T_posts0 T_trails0 T_feet0 T_images0 T ++ (u1 G T_brigade0 T_brigade1 T_brigade2 T_brigade3 T_brigade4 T_brigade5 T_brigade ++ (u8 G T_trails0 T_trails1 T_trails2 r3))) C cfX9_212 viX8_size (m8_size_k l G T_trails0 T_trails1 T_trails2 r3 r5 k6) dX9_ask_27 (by decide) ⟨Nat.zero_le _, Nat.zero_le _⟩ rfl rfl (Nat.le_of_ble_eq_true rfl) rfl [7, 8, 9] [0, 1, 2, 3, 4, 5, 6] [0, 1, 2, 3, 4, 5, 6, 7, 8, 9] rfl rfl (by decide) rfl ?_
    refine go_if_ne (tgt := 36) C h dX9_ask_30 rfl (fun h => ?_) (fun h => ?_)
    · refine go_aload_n C dX9_ask_36 0 rfl ?_
      refine go_get (v := .ref T_trails0) C ffX9_54 dX9_ask_37 0 rfl rfl ?_
      obtain ⟨r7, k8, h⟩ := tbd_e h
      refine go_callV (q0 := 7) (wr := u9 G T0 T_brigade0 T_pad0 T_act0 T_fire0 T_routes0 T_posts0 T_trails0 T_feet0 T_images0 T ++ (u1 G T_brigade0 T_brigade1 T_brigade2 T_brigade3 T_brigade4 T_brigade5 T_brigade)) (w' := u9 G T0 T_brigade0 T_pad0 T_act0 T_fire0 T_routes0 T_posts0 T_trails0 T_feet0 T_images0 T ++ (u1 G T_brigade0 T_brigade1 T_brigade2 T_brigade3 T_brigade4 T_brigade5 T_brigade ++ (u8 G T_trails0 T_trails1 T_trails2 r3))) C cfX9_216 viX8_rungToFeel (m8_rungToFeel_k l G T_trails0 T_trails1 T_trails2 r3 r7 k8) dX9_ask_40 (by decide) ⟨Nat.zero_le _, Nat.zero_le _⟩ rfl rfl (Nat.le_of_ble_eq_true rfl) rfl [7, 8, 9] [0, 1, 2, 3, 4, 5, 6] [0, 1, 2, 3, 4, 5, 6, 7, 8, 9] rfl rfl (by decide) rfl ?_
      refine go_istore_n (lv' := [(2, .int r7), (0, .ref T0), (1, .int a1)]) C dX9_ask_43 (by decide) rfl ?_
      refine go_iload_n C dX9_ask_44 2 rfl ?_
      refine go_if_ne (tgt := 52) C h dX9_ask_45 rfl (fun h => ?_) (fun h => ?_)
      · refine go_aload_n C dX9_ask_52 1 rfl ?_
        refine go_get (v := .ref T_trails0) C ffX9_54 dX9_ask_53 0 rfl rfl ?_
        refine go_iload_n C dX9_ask_56 0 rfl ?_
        obtain ⟨r9, k10, h⟩ := tbd_e h
        refine go_callV (q0 := 7) (wr := u9 G T0 T_brigade0 T_pad0 T_act0 T_fire0 T_routes0 T_posts0 T_trails0 T_feet0 T_images0 T ++ (u1 G T_brigade0 T_brigade1 T_brigade2 T_brigade3 T_brigade4 T_brigade5 T_brigade)) (w' := u9 G T0 T_brigade0 T_pad0 T_act0 T_fire0 T_routes0 T_posts0 T_trails0 T_feet0 T_images0 T ++ (u1 G T_brigade0 T_brigade1 T_brigade2 T_brigade3 T_brigade4 T_brigade5 T_brigade ++ (u8 G T_trails0 T_trails1 T_trails2 r3))) C cfX9_219 viX8_mostLeftBy (m8_mostLeftBy_k l G T_trails0 T_trails1 T_trails2 r3 r7 r9 k10) dX9_ask_57 (by decide) ⟨Nat.zero_le _, Nat.zero_le _⟩ rfl rfl (Nat.le_of_ble_eq_true rfl) rfl [7, 8, 9] [0, 1, 2, 3, 4, 5, 6] [0, 1, 2, 3, 4, 5, 6, 7, 8, 9] rfl rfl (by decide) rfl ?_
        cases h
        exact go_iret C dX9_ask_60 rfl rfl
      · refine go_iload_n C dX9_ask_48 0 rfl ?_
        refine go_goto (tgt := 60) C dX9_ask_49 rfl ?_
        cases h
        exact go_iret C dX9_ask_60 rfl rfl
    · refine go_bipush (v := -6) C dX9_ask_33 rfl ?_
      cases h
      exact go_iret C dX9_ask_35 rfl rfl
  · refine go_bipush (v := -2) C dX9_ask_9 rfl ?_
    cases h
    exact go_iret C dX9_ask_11 rfl rfl

set_option maxRecDepth 100000 in
set_option maxHeartbeats 4000000 in
theorem m9_down_k (l : Launch) (G : gG) (T0 : Nat) (a1 : Int32) (a2 : Int32) (R0 : Int32) (h : m9_down a1 a2 = some R0) : KK l G yX9_down cX9_down 3 (some .int) 4 86 [.ref T0, .int a1, .int a2] (([] : va_W)) (some (.int R0)) (([] : va_W)) := by
  refine KK_intro (own := RX9) (by decide +kernel) rfl (Nat.le_of_ble_eq_true rfl) rfl ?_
  intro p e s m args below meth c A C
  unfold m9_down at h
  refine go_iload_n C dX9_down_0 1 rfl ?_
  refine go_iconst (v := 0) C dX9_down_1 rfl ?_
  refine go_sipush (v := 4095) C dX9_down_2 rfl ?_
  obtain ⟨r1, k2, h⟩ := tbd_e h
  refine go_callS0 C cfX9_94 (wr7 _ (List.mem_of_getElem? (i := 4) rfl)) (m9_within_k l G a1 (0 : Int32) (4095 : Int32) r1 k2) dX9_down_5 (by decide) ⟨Nat.zero_le _, Nat.zero_le _⟩ rfl rfl (Nat.le_of_ble_eq_true rfl) ?_
  refine go_if_eq (tgt := 20) C h dX9_down_8 rfl (fun h => ?_) (fun h => ?_)
  · refine go_bipush (v := -2) C dX9_down_20 rfl ?_
    cases h
    exact go_iret C dX9_down_22 rfl rfl
  · refine go_iload_n C dX9_down_11 2 rfl ?_
    refine go_iconst (v := 0) C dX9_down_12 rfl ?_
    refine go_iconst (v := 1) C dX9_down_13 rfl ?_
    obtain ⟨r3, k4, h⟩ := tbd_e h
    refine go_callS0 C cfX9_94 (wr7 _ (List.mem_of_getElem? (i := 4) rfl)) (m9_within_k l G a2 (0 : Int32) (1 : Int32) r3 k4) dX9_down_14 (by decide) ⟨Nat.zero_le _, Nat.zero_le _⟩ rfl rfl (Nat.le_of_ble_eq_true rfl) ?_
    refine go_if_ne (tgt := 23) C h dX9_down_17 rfl (fun h => ?_) (fun h => ?_)
    · refine go_iload_n C dX9_down_23 2 rfl ?_
      refine go_if_ne (tgt := 40) C h dX9_down_24 rfl (fun h => ?_) (fun h => ?_)
      · refine go_iload_n C dX9_down_40 1 rfl ?_
        obtain ⟨r5, k6, h⟩ := tbd_e h
        refine go_callS0 C cfX9_227 (wr32 _ (List.mem_of_getElem? (i := 2) rfl)) (m2_leastWinningMove_k l G a1 r5 k6) dX9_down_41 (by decide) ⟨Nat.zero_le _, Nat.zero_le _⟩ rfl rfl (Nat.le_of_ble_eq_true rfl) ?_
        cases h
        exact go_iret C dX9_down_44 rfl rfl
      · refine go_iload_n C dX9_down_27 1 rfl ?_
        obtain ⟨r7, k8, h⟩ := tbd_e h
        refine go_callS0 C cfX9_222 (wr31 _ (List.mem_of_getElem? (i := 19) rfl)) (m2_canWin_k l G a1 r7 k8) dX9_down_28 (by decide) ⟨Nat.zero_le _, Nat.zero_le _⟩ rfl rfl (Nat.le_of_ble_eq_true rfl) ?_
        refine go_if_eq (tgt := 38) C h dX9_down_31 rfl (fun h => ?_) (fun h => ?_)
        · refine go_iconst (v := 0) C dX9_down_38 rfl ?_
          cases h
          exact go_iret C dX9_down_39 rfl rfl
        · refine go_iconst (v := 1) C dX9_down_34 rfl ?_
          refine go_goto (tgt := 39) C dX9_down_35 rfl ?_
          cases h
          exact go_iret C dX9_down_39 rfl rfl
    · refine go_bipush (v := -2) C dX9_down_20 rfl ?_
      cases h
      exact go_iret C dX9_down_22 rfl rfl

set_option maxRecDepth 100000 in
set_option maxHeartbeats 4000000 in
theorem m9_foot_J68_k {p : Program} {l : Launch} {e : Env} {s : State} {m : MethodId} {args : Array Value} {below : List Frame} {meth : Method} {c : Code} {G : gG} {A : Nat → Prop} (C : Cx p e s m args meth c G RX9 cX9_foot 5 (some .long) A) (T0 T_brigade0 T_pad0 T_act0 T_fire0 T_routes0 T_posts0 T_trails0 T_feet0 T_images0 T_feet1 : Nat) (T : SX9) (T_feet : SX3) (x4 : Int32) (R0 : Int64 × SX3)  (h : m9_foot_J68 T T_feet x4 = some R0) : Gq p l e (rq 3 72) s m args below meth c G A 5 0 0 (MQ below (QK G (some (.long R0.1)) (u9 G T0 T_brigade0 T_pad0 T_act0 T_fire0 T_routes0 T_posts0 T_trails0 T_feet0 T_images0 T ++ (u3 G T_feet0 T_feet1 R0.2)) A) args s 0 0 A) 68 [(0, .ref T0), (4, .int x4)] [] (u9 G T0 T_brigade0 T_pad0 T_act0 T_fire0 T_routes0 T_posts0 T_trails0 T_feet0 T_images0 T ++ (u3 G T_feet0 T_feet1 T_feet)) := by
  unfold m9_foot_J68 at h
  refine go_iload C dX9_foot_68 1 rfl ?_
  refine go_if_ne (tgt := 83) C h dX9_foot_70 rfl (fun h => ?_) (fun h => ?_)
  · refine go_aload_n C dX9_foot_83 0 rfl ?_
    refine go_get (v := .ref T_feet0) C ffX9_61 dX9_foot_84 0 rfl rfl ?_
    obtain ⟨r11, k12, h⟩ := tbd_e h
    refine go_callV (q0 := 1) (wr := u9 G T0 T_brigade0 T_pad0 T_act0 T_fire0 T_routes0 T_posts0 T_trails0 T_feet0 T_images0 T) (w' := u9 G T0 T_brigade0 T_pad0 T_act0 T_fire0 T_routes0 T_posts0 T_trails0 T_feet0 T_images0 T ++ (u3 G T_feet0 T_feet1 T_feet)) C cfX9_245 viX3_lowerNumber (m3_lowerNumber_k l G T_feet0 T_feet1 T_feet r11 k12) dX9_foot_87 (by decide) ⟨Nat.zero_le _, Nat.zero_le _⟩ rfl rfl (Nat.le_of_ble_eq_true rfl) rfl [1, 2] [0] [0, 1, 2] rfl rfl (by decide) rfl ?_
    cases h
    exact go_lret C dX9_foot_90 rfl rfl
  · refine go_aload_n C dX9_foot_73 0 rfl ?_
    refine go_get (v := .ref T_feet0) C ffX9_61 dX9_foot_74 0 rfl rfl ?_
    obtain ⟨r13, k14, h⟩ := tbd_e h
    refine go_callV (q0 := 1) (wr := u9 G T0 T_brigade0 T_pad0 T_act0 T_fire0 T_routes0 T_posts0 T_trails0 T_feet0 T_images0 T) (w' := u9 G T0 T_brigade0 T_pad0 T_act0 T_fire0 T_routes0 T_posts0 T_trails0 T_feet0 T_images0 T ++ (u3 G T_feet0 T_feet1 T_feet)) C cfX9_241 viX3_upperNumber (m3_upperNumber_k l G T_feet0 T_feet1 T_feet r13 k14) dX9_foot_77 (by decide) ⟨Nat.zero_le _, Nat.zero_le _⟩ rfl rfl (Nat.le_of_ble_eq_true rfl) rfl [1, 2] [0] [0, 1, 2] rfl rfl (by decide) rfl ?_
    refine go_goto (tgt := 90) C dX9_foot_80 rfl ?_
    cases h
    exact go_lret C dX9_foot_90 rfl rfl

set_option maxRecDepth 100000 in
set_option maxHeartbeats 4000000 in
theorem m9_foot_k (l : Launch) (G : gG) (T0 T_brigade0 T_pad0 T_act0 T_fire0 T_routes0 T_posts0 T_trails0 T_feet0 T_images0 T_feet1 : Nat) (T : SX9) (T_feet : SX3) (a1 : Int32) (a2 : Int32) (a3 : Int32) (a4 : Int32) (R0 : Int64 × SX3) (h : m9_foot T T_feet a1 a2 a3 a4 = some R0) : KK l G yX9_foot cX9_foot 5 (some .long) 3 72 [.ref T0, .int a1, .int a2, .int a3, .int a4] (u9 G T0 T_brigade0 T_pad0 T_act0 T_fire0 T_routes0 T_posts0 T_trails0 T_feet0 T_images0 T ++ (u3 G T_feet0 T_feet1 T_feet)) (some (.long R0.1)) (u9 G T0 T_brigade0 T_pad0 T_act0 T_fire0 T_routes0 T_posts0 T_trails0 T_feet0 T_images0 T ++ (u3 G T_feet0 T_feet1 R0.2)) := by
  refine KK_intro (own := RX9) (by decide +kernel) rfl (Nat.le_of_ble_eq_true rfl) rfl ?_
  intro p e s m args below meth c A C
  unfold m9_foot at h
  refine go_iload_n C dX9_foot_0 2 rfl ?_
  obtain ⟨r1, k2, h⟩ := tbd_e h
  refine go_callS0 C cfX9_69 (wr6 _ (List.mem_of_getElem? (i := 16) rfl)) (m9_isRung_k l G a2 r1 k2) dX9_foot_1 (by decide) ⟨Nat.zero_le _, Nat.zero_le _⟩ rfl rfl (Nat.le_of_ble_eq_true rfl) ?_
  refine go_if_ne (tgt := 11) C h dX9_foot_4 rfl (fun h => ?_) (fun h => ?_)
  · refine go_iload_n C dX9_foot_11 1 rfl ?_
    refine go_iconst (v := 1) C dX9_foot_12 rfl ?_
    refine go_iconst (v := 4) C dX9_foot_13 rfl ?_
    obtain ⟨r3, k4, h⟩ := tbd_e h
    refine go_callS0 C cfX9_94 (wr7 _ (List.mem_of_getElem? (i := 4) rfl)) (m9_within_k l G a1 (1 : Int32) (4 : Int32) r3 k4) dX9_foot_14 (by decide) ⟨Nat.zero_le _, Nat.zero_le _⟩ rfl rfl (Nat.le_of_ble_eq_true rfl) ?_
    refine go_if_eq (tgt := 39) C h dX9_foot_17 rfl (fun h => ?_) (fun h => ?_)
    · refine go_ldc2 (v := -1000000000000000002) C dX9_foot_39 (wr32 _ (List.mem_of_getElem? (i := 18) rfl)) ?_
      cases h
      exact go_lret C dX9_foot_42 rfl rfl
    · refine go_iload_n C dX9_foot_20 3 rfl ?_
      refine go_iconst (v := 0) C dX9_foot_21 rfl ?_
      refine go_iconst (v := 1) C dX9_foot_22 rfl ?_
      obtain ⟨r5, k6, h⟩ := tbd_e h
      refine go_callS0 C cfX9_94 (wr7 _ (List.mem_of_getElem? (i := 4) rfl)) (m9_within_k l G a3 (0 : Int32) (1 : Int32) r5 k6) dX9_foot_23 (by decide) ⟨Nat.zero_le _, Nat.zero_le _⟩ rfl rfl (Nat.le_of_ble_eq_true rfl) ?_
      refine go_if_eq (tgt := 39) C h dX9_foot_26 rfl (fun h => ?_) (fun h => ?_)
      · refine go_ldc2 (v := -1000000000000000002) C dX9_foot_39 (wr32 _ (List.mem_of_getElem? (i := 18) rfl)) ?_
        cases h
        exact go_lret C dX9_foot_42 rfl rfl
      · refine go_iload C dX9_foot_29 4 rfl ?_
        refine go_iconst (v := 0) C dX9_foot_31 rfl ?_
        refine go_iconst (v := 1) C dX9_foot_32 rfl ?_
        obtain ⟨r7, k8, h⟩ := tbd_e h
        refine go_callS0 C cfX9_94 (wr7 _ (List.mem_of_getElem? (i := 4) rfl)) (m9_within_k l G a4 (0 : Int32) (1 : Int32) r7 k8) dX9_foot_33 (by decide) ⟨Nat.zero_le _, Nat.zero_le _⟩ rfl rfl (Nat.le_of_ble_eq_true rfl) ?_
        refine go_if_ne (tgt := 43) C h dX9_foot_36 rfl (fun h => ?_) (fun h => ?_)
        · refine go_iload_n C dX9_foot_43 3 rfl ?_
          refine go_if_ne (tgt := 59) C h dX9_foot_44 rfl (fun h => ?_) (fun h => ?_)
          · refine go_aload_n C dX9_foot_59 0 rfl ?_
            refine go_get (v := .ref T_feet0) C ffX9_61 dX9_foot_60 0 rfl rfl ?_
            refine go_iload_n C dX9_foot_63 1 rfl ?_
            refine go_iload_n C dX9_foot_64 2 rfl ?_
            obtain ⟨r9, k10, h⟩ := tbd_e h
            refine go_callV (q0 := 1) (wr := u9 G T0 T_brigade0 T_pad0 T_act0 T_fire0 T_routes0 T_posts0 T_trails0 T_feet0 T_images0 T) (w' := u9 G T0 T_brigade0 T_pad0 T_act0 T_fire0 T_routes0 T_posts0 T_trails0 T_feet0 T_images0 T ++ (u3 G T_feet0 T_feet1 r9)) C cfX9_238 viX3_meanStepsTo (m3_meanStepsTo_k l G T_feet0 T_feet1 T_feet a1 a2 r9 k10) dX9_foot_65 (by decide) ⟨Nat.zero_le _, Nat.zero_le _⟩ rfl rfl (Nat.le_of_ble_eq_true rfl) rfl [1, 2] [0] [0, 1, 2] rfl rfl (by decide) rfl ?_
            exact go_lv [0, 4] rfl (m9_foot_J68_k C T0 T_brigade0 T_pad0 T_act0 T_fire0 T_routes0 T_posts0 T_trails0 T_feet0 T_images0 T_feet1 T r9 a4 R0  h)
          · refine go_aload_n C dX9_foot_47 0 rfl ?_
            refine go_get (v := .ref T_feet0) C ffX9_61 dX9_foot_48 0 rfl rfl ?_
            refine go_iload_n C dX9_foot_51 1 rfl ?_
            refine go_iload_n C dX9_foot_52 2 rfl ?_
            obtain ⟨r15, k16, h⟩ := tbd_e h
            refine go_callV (q0 := 1) (wr := u9 G T0 T_brigade0 T_pad0 T_act0 T_fire0 T_routes0 T_posts0 T_trails0 T_feet0 T_images0 T) (w' := u9 G T0 T_brigade0 T_pad0 T_act0 T_fire0 T_routes0 T_posts0 T_trails0 T_feet0 T_images0 T ++ (u3 G T_feet0 T_feet1 r15)) C cfX9_234 viX3_chanceOn (m3_chanceOn_k l G T_feet0 T_feet1 T_feet a1 a2 r15 k16) dX9_foot_53 (by decide) ⟨Nat.zero_le _, Nat.zero_le _⟩ rfl rfl (Nat.le_of_ble_eq_true rfl) rfl [1, 2] [0] [0, 1, 2] rfl rfl (by decide) rfl ?_
            refine go_goto (tgt := 68) C dX9_foot_56 rfl ?_
            exact go_lv [0, 4] rfl (m9_foot_J68_k C T0 T_brigade0 T_pad0 T_act0 T_fire0 T_routes0 T_posts0 T_trails0 T_feet0 T_images0 T_feet1 T r15 a4 R0  h)
        · refine go_ldc2 (v := -1000000000000000002) C dX9_foot_39 (wr32 _ (List.mem_of_getElem? (i := 18) rfl)) ?_
          cases h
          exact go_lret C dX9_foot_42 rfl rfl
  · refine go_ldc2 (v := -1000000000000000001) C dX9_foot_7 (wr32 _ (List.mem_of_getElem? (i := 17) rfl)) ?_
    cases h
    exact go_lret C dX9_foot_10 rfl rfl

set_option maxRecDepth 100000 in
set_option maxHeartbeats 4000000 in
theorem m9_passYear_L16_k {p : Program} {l : Launch} {e : Env} {s : State} {m : MethodId} {args : Array Value} {below : List Frame} {meth : Method} {c : Code} {G : gG} {A : Nat → Prop} (C : Cx p e s m args meth c G RX9 cX9_passYear 5 none A) (T0 T_brigade0 T_pad0 T_act0 T_fire0 T_routes0 T_posts0 T_trails0 T_feet0 T_images0 T_brigade1 T_brigade2 T_brigade3 T_brigade4 T_brigade5 T_fire_after0 T_fire_act0 T_fire_after1 T_fire_after2 T_fire_after3 T_fire_after4 T_fire_after5 : Nat) (T : SX9) (T_brigade : SX1) (x2 : Int32) (R0 : SX0 × SX4 × SX1)  : ∀ (n : Nat) (x3 : Int32) (x4 : Int32) (T_act : SX0) (T_fire : SX4) (T_fire_after : SX1), tit (m9_passYear_L16 T T_brigade x2) n (x3, x4, T_act, T_fire, T_fire_after) = some R0 → Gq p l e (rq 5 106) s m args below meth c G A 5 0 0 (MQ below (QK G none (u9 G T0 T_brigade0 T_pad0 T_act0 T_fire0 T_routes0 T_posts0 T_trails0 T_feet0 T_images0 T ++ (u0 G T_act0 R0.1 ++ (u1 G T_brigade0 T_brigade1 T_brigade2 T_brigade3 T_brigade4 T_brigade5 T_brigade ++ (u4 G T_fire0 T_fire_after0 T_fire_act0 R0.2.1 ++ (u1 G T_fire_after0 T_fire_after1 T_fire_after2 T_fire_after3 T_fire_after4 T_fire_after5 R0.2.2))))) A) args s 0 0 A) 16 [(0, .ref T0), (2, .int x2), (3, .int x3), (4, .int x4)] [] (u9 G T0 T_brigade0 T_pad0 T_act0 T_fire0 T_routes0 T_posts0 T_trails0 T_feet0 T_images0 T ++ (u0 G T_act0 T_act ++ (u1 G T_brigade0 T_brigade1 T_brigade2 T_brigade3 T_brigade4 T_brigade5 T_brigade ++ (u4 G T_fire0 T_fire_after0 T_fire_act0 T_fire ++ (u1 G T_fire_after0 T_fire_after1 T_fire_after2 T_fire_after3 T_fire_after4 T_fire_after5 T_fire_after))))) := by
  intro n
  induction n with
  | zero => exact fun _ _ _ _ _ h => (tit_z h).elim
  | succ n ih =>
    intro x3 x4 T_act T_fire T_fire_after h
    replace h : m9_passYear_B16 T T_brigade x2 (tit (m9_passYear_L16 T T_brigade x2) n) x3 x4 T_act T_fire T_fire_after = some R0 := h
    unfold m9_passYear_B16 at h
    refine go_iload C dX9_passYear_16 3 rfl ?_
    refine go_iload_n C dX9_passYear_18 1 rfl ?_
    refine go_icmp_ge (tgt := 67) C h dX9_passYear_19 rfl (fun h => ?_) (fun h => ?_)
    · cases h
      exact go_vret C dX9_passYear_67 rfl rfl
    · refine go_bipush (v := 75) C dX9_passYear_22 rfl ?_
      refine go_iload_n C dX9_passYear_24 2 rfl ?_
      refine go_imul C dX9_passYear_25 ?_
      refine go_bipush (v := 74) C dX9_passYear_26 rfl ?_
      refine go_iadd C dX9_passYear_28 ?_
      refine go_ldcw (v := 65537) C dX9_passYear_29 (wr34 _ (List.mem_of_getElem? (i := 8) rfl)) ?_
      refine go_irem C dX9_passYear_32 (by decide) ?_
      refine go_istore_nN (lf := fun v3 => [(3, .int v3), (0, .ref T0), (2, .int x2), (4, .int x4)]) C h dX9_passYear_33 (by decide) (fun _ => rfl) (fun v3 h => ?_)
      refine go_aload_n C dX9_passYear_34 1 rfl ?_
      refine go_get (v := .ref T_act0) C ffX9_26 dX9_passYear_35 0 rfl rfl ?_
      refine go_iload_n C dX9_passYear_38 0 rfl ?_
      refine go_aload_n C dX9_passYear_39 1 rfl ?_
      refine go_get (v := .ref T_fire0) C ffX9_33 dX9_passYear_40 0 rfl rfl ?_
      obtain ⟨r4, k5, h⟩ := tbd_e h
      refine go_callV (q0 := 8) (wr := u9 G T0 T_brigade0 T_pad0 T_act0 T_fire0 T_routes0 T_posts0 T_trails0 T_feet0 T_images0 T ++ (u0 G T_act0 T_act ++ (u1 G T_brigade0 T_brigade1 T_brigade2 T_brigade3 T_brigade4 T_brigade5 T_brigade ++ (u1 G T_fire_after0 T_fire_after1 T_fire_after2 T_fire_after3 T_fire_after4 T_fire_after5 T_fire_after)))) (w' := u9 G T0 T_brigade0 T_pad0 T_act0 T_fire0 T_routes0 T_posts0 T_trails0 T_feet0 T_images0 T ++ (u0 G T_act0 T_act ++ (u1 G T_brigade0 T_brigade1 T_brigade2 T_brigade3 T_brigade4 T_brigade5 T_brigade ++ (u4 G T_fire0 T_fire_after0 T_fire_act0 T_fire ++ (u1 G T_fire_after0 T_fire_after1 T_fire_after2 T_fire_after3 T_fire_after4 T_fire_after5 T_fire_after))))) C cfX9_133 viX4_behindIt (m4_behindIt_k l G T_fire0 T_fire_after0 T_fire_act0 T_fire r4 k5) dX9_passYear_43 (by decide) ⟨Nat.zero_le _, Nat.zero_le _⟩ rfl rfl (Nat.le_of_ble_eq_true rfl) rfl [8] [0, 1, 2, 3, 4, 5, 6, 7, 9, 10, 11, 12, 13, 14] [0, 1, 2, 3, 4, 5, 6, 7, 14, 8, 9, 10, 11, 12, 13] rfl rfl (by decide) rfl ?_
      obtain ⟨r6, k7, h⟩ := tbd_e h
      refine go_callV (q0 := 1) (wr := u9 G T0 T_brigade0 T_pad0 T_act0 T_fire0 T_routes0 T_posts0 T_trails0 T_feet0 T_images0 T ++ (u1 G T_brigade0 T_brigade1 T_brigade2 T_brigade3 T_brigade4 T_brigade5 T_brigade ++ (u4 G T_fire0 T_fire_after0 T_fire_act0 T_fire))) (w' := u9 G T0 T_brigade0 T_pad0 T_act0 T_fire0 T_routes0 T_posts0 T_trails0 T_feet0 T_images0 T ++ (u0 G T_act0 r6 ++ (u1 G T_brigade0 T_brigade1 T_brigade2 T_brigade3 T_brigade4 T_brigade5 T_brigade ++ (u4 G T_fire0 T_fire_after0 T_fire_act0 T_fire ++ (u1 G T_fire_after0 T_fire_after1 T_fire_after2 T_fire_after3 T_fire_after4 T_fire_after5 T_fire_after))))) C cfX9_274 viX0_draw (m0_draw_k l G T_act0 T_fire_after0 T_fire_after1 T_fire_after2 T_fire_after3 T_fire_after4 T_fire_after5 T_act T_fire_after v3 r6 k7) dX9_passYear_46 (by decide) ⟨Nat.zero_le _, Nat.zero_le _⟩ rfl rfl (Nat.le_of_ble_eq_true rfl) rfl [1, 9, 10, 11, 12, 13, 14] [0, 2, 3, 4, 5, 6, 7, 8] [0, 8, 1, 2, 3, 4, 5, 6, 7, 9, 10, 11, 12, 13, 14] rfl rfl (by decide) rfl ?_
      refine go_aload_n C dX9_passYear_49 1 rfl ?_
      refine go_get (v := .ref T_fire0) C ffX9_33 dX9_passYear_50 0 rfl rfl ?_
      refine go_aload_n C dX9_passYear_53 1 rfl ?_
      refine go_get (v := .ref T_act0) C ffX9_26 dX9_passYear_54 0 rfl rfl ?_
      obtain ⟨r8, k9, h⟩ := tbd_e h
      refine go_callV (q0 := 8) (wr := u9 G T0 T_brigade0 T_pad0 T_act0 T_fire0 T_routes0 T_posts0 T_trails0 T_feet0 T_images0 T ++ (u1 G T_brigade0 T_brigade1 T_brigade2 T_brigade3 T_brigade4 T_brigade5 T_brigade)) (w' := u9 G T0 T_brigade0 T_pad0 T_act0 T_fire0 T_routes0 T_posts0 T_trails0 T_feet0 T_images0 T ++ (u0 G T_act0 r6 ++ (u1 G T_brigade0 T_brigade1 T_brigade2 T_brigade3 T_brigade4 T_brigade5 T_brigade ++ (u4 G T_fire0 T_fire_after0 T_fire_act0 r8.2.1 ++ (u1 G T_fire_after0 T_fire_after1 T_fire_after2 T_fire_after3 T_fire_after4 T_fire_after5 r8.2.2))))) C cfX9_278 viX4_attempt (m4_attempt_k l G T_fire0 T_fire_after0 T_fire_act0 T_act0 T_fire_after1 T_fire_after2 T_fire_after3 T_fire_after4 T_fire_after5 T_fire r6 T_fire_after r8 k9) dX9_passYear_57 (by decide) ⟨Nat.zero_le _, Nat.zero_le _⟩ rfl rfl (Nat.le_of_ble_eq_true rfl) rfl [8, 1, 9, 10, 11, 12, 13, 14] [0, 2, 3, 4, 5, 6, 7] [0, 8, 1, 2, 3, 4, 5, 6, 7, 9, 10, 11, 12, 13, 14] rfl rfl (by decide) rfl ?_
      refine go_pop C dX9_passYear_60 rfl ?_
      refine go_iincN (lf := fun v10 => [(4, .int v10), (3, .int v3), (0, .ref T0), (2, .int x2)]) C h dX9_passYear_61 3 rfl rfl (by decide) (fun _ => rfl) (fun v10 h => ?_)
      refine go_goto (tgt := 16) C dX9_passYear_64 rfl ?_
      exact go_lv [2, 3, 1, 0] rfl (ih v3 v10 r6 r8.2.1 r8.2.2 h)

set_option maxRecDepth 100000 in
set_option maxHeartbeats 4000000 in
theorem m9_passYear_k (l : Launch) (G : gG) (T0 T_brigade0 T_pad0 T_act0 T_fire0 T_routes0 T_posts0 T_trails0 T_feet0 T_images0 T_brigade1 T_brigade2 T_brigade3 T_brigade4 T_brigade5 T_fire_after0 T_fire_act0 T_fire_after1 T_fire_after2 T_fire_after3 T_fire_after4 T_fire_after5 : Nat) (T : SX9) (T_act : SX0) (T_brigade : SX1) (T_fire : SX4) (T_fire_after : SX1) (a1 : Int32) (a2 : Int32) (R0 : SX0 × SX4 × SX1) (h : m9_passYear T T_act T_brigade T_fire T_fire_after a1 a2 = some R0) : KK l G yX9_passYear cX9_passYear 5 none 5 106 [.ref T0, .int a1, .int a2] (u9 G T0 T_brigade0 T_pad0 T_act0 T_fire0 T_routes0 T_posts0 T_trails0 T_feet0 T_images0 T ++ (u0 G T_act0 T_act ++ (u1 G T_brigade0 T_brigade1 T_brigade2 T_brigade3 T_brigade4 T_brigade5 T_brigade ++ (u4 G T_fire0 T_fire_after0 T_fire_act0 T_fire ++ (u1 G T_fire_after0 T_fire_after1 T_fire_after2 T_fire_after3 T_fire_after4 T_fire_after5 T_fire_after))))) none (u9 G T0 T_brigade0 T_pad0 T_act0 T_fire0 T_routes0 T_posts0 T_trails0 T_feet0 T_images0 T ++ (u0 G T_act0 R0.1 ++ (u1 G T_brigade0 T_brigade1 T_brigade2 T_brigade3 T_brigade4 T_brigade5 T_brigade ++ (u4 G T_fire0 T_fire_after0 T_fire_act0 R0.2.1 ++ (u1 G T_fire_after0 T_fire_after1 T_fire_after2 T_fire_after3 T_fire_after4 T_fire_after5 R0.2.2))))) := by
  refine KK_intro (own := RX9) (by decide +kernel) rfl (Nat.le_of_ble_eq_true rfl) rfl ?_
  intro p e s m args below meth c A C
  unfold m9_passYear at h
  refine go_aload_n C dX9_passYear_0 0 rfl ?_
  refine go_get (v := .ref T_fire0) C ffX9_33 dX9_passYear_1 0 rfl rfl ?_
  refine go_aload_n C dX9_passYear_4 0 rfl ?_
  refine go_get (v := .ref T_brigade0) C ffX9_12 dX9_passYear_5 0 rfl rfl ?_
  obtain ⟨r1, k2, h⟩ := tbd_e h
  refine go_callV (q0 := 8) (wr := u9 G T0 T_brigade0 T_pad0 T_act0 T_fire0 T_routes0 T_posts0 T_trails0 T_feet0 T_images0 T ++ (u0 G T_act0 T_act)) (w' := u9 G T0 T_brigade0 T_pad0 T_act0 T_fire0 T_routes0 T_posts0 T_trails0 T_feet0 T_images0 T ++ (u0 G T_act0 T_act ++ (u1 G T_brigade0 T_brigade1 T_brigade2 T_brigade3 T_brigade4 T_brigade5 T_brigade ++ (u4 G T_fire0 T_fire_after0 T_fire_act0 r1.1 ++ (u1 G T_fire_after0 T_fire_after1 T_fire_after2 T_fire_after3 T_fire_after4 T_fire_after5 r1.2))))) C cfX9_270 viX4_begin (m4_begin_k l G T_fire0 T_fire_after0 T_fire_act0 T_brigade0 T_brigade1 T_brigade2 T_brigade3 T_brigade4 T_brigade5 T_fire_after1 T_fire_after2 T_fire_after3 T_fire_after4 T_fire_after5 T_fire T_brigade T_fire_after r1 k2) dX9_passYear_8 (by decide) ⟨Nat.zero_le _, Nat.zero_le _⟩ rfl rfl (Nat.le_of_ble_eq_true rfl) rfl [8, 2, 3, 4, 5, 6, 7, 9, 10, 11, 12, 13, 14] [0, 1] [0, 1, 3, 4, 5, 6, 7, 8, 2, 9, 10, 11, 12, 13, 14] rfl rfl (by decide) rfl ?_
  refine go_iload_n C dX9_passYear_11 1 rfl ?_
  refine go_istore_n (lv' := [(3, .int a1), (0, .ref T0), (1, .int a1), (2, .int a2)]) C dX9_passYear_12 (by decide) rfl ?_
  refine go_iconst (v := 0) C dX9_passYear_13 rfl ?_
  refine go_istore (lv' := [(4, .int (0 : Int32)), (3, .int a1), (0, .ref T0), (1, .int a1), (2, .int a2)]) C dX9_passYear_14 (by decide) rfl ?_
  exact go_lv [2, 4, 1, 0] rfl (m9_passYear_L16_k C T0 T_brigade0 T_pad0 T_act0 T_fire0 T_routes0 T_posts0 T_trails0 T_feet0 T_images0 T_brigade1 T_brigade2 T_brigade3 T_brigade4 T_brigade5 T_fire_after0 T_fire_act0 T_fire_after1 T_fire_after2 T_fire_after3 T_fire_after4 T_fire_after5 T T_brigade a2 R0  FU a1 (0 : Int32) T_act r1.1 r1.2 h)

set_option maxRecDepth 100000 in
set_option maxHeartbeats 4000000 in
theorem m9_year_k (l : Launch) (G : gG) (T0 T_brigade0 T_pad0 T_act0 T_fire0 T_routes0 T_posts0 T_trails0 T_feet0 T_images0 T_brigade1 T_brigade2 T_brigade3 T_brigade4 T_brigade5 T_fire_after0 T_fire_act0 T_fire_after1 T_fire_after2 T_fire_after3 T_fire_after4 T_fire_after5 : Nat) (T : SX9) (T_act : SX0) (T_brigade : SX1) (T_fire : SX4) (T_fire_after : SX1) (a1 : Int32) (a2 : Int32) (a3 : Int32) (R0 : Int32 × SX0 × SX4 × SX1) (h : m9_year T T_act T_brigade T_fire T_fire_after a1 a2 a3 = some R0) : KK l G yX9_year cX9_year 4 (some .int) 6 130 [.ref T0, .int a1, .int a2, .int a3] (u9 G T0 T_brigade0 T_pad0 T_act0 T_fire0 T_routes0 T_posts0 T_trails0 T_feet0 T_images0 T ++ (u0 G T_act0 T_act ++ (u1 G T_brigade0 T_brigade1 T_brigade2 T_brigade3 T_brigade4 T_brigade5 T_brigade ++ (u4 G T_fire0 T_fire_after0 T_fire_act0 T_fire ++ (u1 G T_fire_after0 T_fire_after1 T_fire_after2 T_fire_after3 T_fire_after4 T_fire_after5 T_fire_after))))) (some (.int R0.1)) (u9 G T0 T_brigade0 T_pad0 T_act0 T_fire0 T_routes0 T_posts0 T_trails0 T_feet0 T_images0 T ++ (u0 G T_act0 R0.2.1 ++ (u1 G T_brigade0 T_brigade1 T_brigade2 T_brigade3 T_brigade4 T_brigade5 T_brigade ++ (u4 G T_fire0 T_fire_after0 T_fire_act0 R0.2.2.1 ++ (u1 G T_fire_after0 T_fire_after1 T_fire_after2 T_fire_after3 T_fire_after4 T_fire_after5 R0.2.2.2))))) := by
  refine KK_intro (own := RX9) (by decide +kernel) rfl (Nat.le_of_ble_eq_true rfl) rfl ?_
  intro p e s m args below meth c A C
  unfold m9_year at h
  refine go_iload_n C dX9_year_0 1 rfl ?_
  refine go_iconst (v := 0) C dX9_year_1 rfl ?_
  refine go_sipush (v := 9999) C dX9_year_2 rfl ?_
  obtain ⟨r1, k2, h⟩ := tbd_e h
  refine go_callS0 C cfX9_94 (wr7 _ (List.mem_of_getElem? (i := 4) rfl)) (m9_within_k l G a1 (0 : Int32) (9999 : Int32) r1 k2) dX9_year_5 (by decide) ⟨Nat.zero_le _, Nat.zero_le _⟩ rfl rfl (Nat.le_of_ble_eq_true rfl) ?_
  refine go_if_eq (tgt := 30) C h dX9_year_8 rfl (fun h => ?_) (fun h => ?_)
  · refine go_bipush (v := -2) C dX9_year_30 rfl ?_
    cases h
    exact go_iret C dX9_year_32 rfl rfl
  · refine go_iload_n C dX9_year_11 2 rfl ?_
    refine go_iconst (v := 1) C dX9_year_12 rfl ?_
    refine go_bipush (v := 99) C dX9_year_13 rfl ?_
    obtain ⟨r3, k4, h⟩ := tbd_e h
    refine go_callS0 C cfX9_94 (wr7 _ (List.mem_of_getElem? (i := 4) rfl)) (m9_within_k l G a2 (1 : Int32) (99 : Int32) r3 k4) dX9_year_15 (by decide) ⟨Nat.zero_le _, Nat.zero_le _⟩ rfl rfl (Nat.le_of_ble_eq_true rfl) ?_
    refine go_if_eq (tgt := 30) C h dX9_year_18 rfl (fun h => ?_) (fun h => ?_)
    · refine go_bipush (v := -2) C dX9_year_30 rfl ?_
      cases h
      exact go_iret C dX9_year_32 rfl rfl
    · refine go_iload_n C dX9_year_21 3 rfl ?_
      refine go_iconst (v := 0) C dX9_year_22 rfl ?_
      refine go_iconst (v := 2) C dX9_year_23 rfl ?_
      obtain ⟨r5, k6, h⟩ := tbd_e h
      refine go_callS0 C cfX9_94 (wr7 _ (List.mem_of_getElem? (i := 4) rfl)) (m9_within_k l G a3 (0 : Int32) (2 : Int32) r5 k6) dX9_year_24 (by decide) ⟨Nat.zero_le _, Nat.zero_le _⟩ rfl rfl (Nat.le_of_ble_eq_true rfl) ?_
      refine go_if_ne (tgt := 33) C h dX9_year_27 rfl (fun h => ?_) (fun h => ?_)
      · refine go_aload_n C dX9_year_33 0 rfl ?_
        refine go_iload_n C dX9_year_34 1 rfl ?_
        refine go_iload_n C dX9_year_35 2 rfl ?_
        obtain ⟨r7, k8, h⟩ := tbd_e h
        refine go_callV (q0 := 0) (wr := ([] : va_W)) (w' := u9 G T0 T_brigade0 T_pad0 T_act0 T_fire0 T_routes0 T_posts0 T_trails0 T_feet0 T_images0 T ++ (u0 G T_act0 r7.1 ++ (u1 G T_brigade0 T_brigade1 T_brigade2 T_brigade3 T_brigade4 T_brigade5 T_brigade ++ (u4 G T_fire0 T_fire_after0 T_fire_act0 r7.2.1 ++ (u1 G T_fire_after0 T_fire_after1 T_fire_after2 T_fire_after3 T_fire_after4 T_fire_after5 r7.2.2))))) C cfX9_248 viX9_passYear (m9_passYear_k l G T0 T_brigade0 T_pad0 T_act0 T_fire0 T_routes0 T_posts0 T_trails0 T_feet0 T_images0 T_brigade1 T_brigade2 T_brigade3 T_brigade4 T_brigade5 T_fire_after0 T_fire_act0 T_fire_after1 T_fire_after2 T_fire_after3 T_fire_after4 T_fire_after5 T T_act T_brigade T_fire T_fire_after a1 a2 r7 k8) dX9_year_36 (by decide) ⟨Nat.zero_le _, Nat.zero_le _⟩ rfl rfl (Nat.le_of_ble_eq_true rfl) rfl [0, 1, 2, 3, 4, 5, 6, 7, 8, 9, 10, 11, 12, 13, 14] [] [0, 1, 2, 3, 4, 5, 6, 7, 8, 9, 10, 11, 12, 13, 14] rfl rfl (by decide) rfl ?_
        refine go_iload_n C dX9_year_39 3 rfl ?_
        refine go_ite h (fun q h => ?_) (fun q0 h => ?_)
        · refine go_look (off := 28) (tgt := 68) C dX9_year_40 (by decide) (by rw [q]; decide) rfl ?_
          refine go_aload_n C dX9_year_68 0 rfl ?_
          refine go_get (v := .ref T_fire0) C ffX9_33 dX9_year_69 0 rfl rfl ?_
          obtain ⟨r9, k10, h⟩ := tbd_e h
          refine go_callV (q0 := 8) (wr := u9 G T0 T_brigade0 T_pad0 T_act0 T_fire0 T_routes0 T_posts0 T_trails0 T_feet0 T_images0 T ++ (u0 G T_act0 r7.1 ++ (u1 G T_brigade0 T_brigade1 T_brigade2 T_brigade3 T_brigade4 T_brigade5 T_brigade ++ (u1 G T_fire_after0 T_fire_after1 T_fire_after2 T_fire_after3 T_fire_after4 T_fire_after5 r7.2.2)))) (w' := u9 G T0 T_brigade0 T_pad0 T_act0 T_fire0 T_routes0 T_posts0 T_trails0 T_feet0 T_images0 T ++ (u0 G T_act0 r7.1 ++ (u1 G T_brigade0 T_brigade1 T_brigade2 T_brigade3 T_brigade4 T_brigade5 T_brigade ++ (u4 G T_fire0 T_fire_after0 T_fire_act0 r7.2.1 ++ (u1 G T_fire_after0 T_fire_after1 T_fire_after2 T_fire_after3 T_fire_after4 T_fire_after5 r7.2.2))))) C cfX9_133 viX4_behindIt (m4_behindIt_k l G T_fire0 T_fire_after0 T_fire_act0 r7.2.1 r9 k10) dX9_year_72 (by decide) ⟨Nat.zero_le _, Nat.zero_le _⟩ rfl rfl (Nat.le_of_ble_eq_true rfl) rfl [8] [0, 1, 2, 3, 4, 5, 6, 7, 9, 10, 11, 12, 13, 14] [0, 1, 2, 3, 4, 5, 6, 7, 14, 8, 9, 10, 11, 12, 13] rfl rfl (by decide) rfl ?_
          obtain ⟨r11, k12, h⟩ := tbd_e h
          refine go_callV (q0 := 9) (wr := u9 G T0 T_brigade0 T_pad0 T_act0 T_fire0 T_routes0 T_posts0 T_trails0 T_feet0 T_images0 T ++ (u0 G T_act0 r7.1 ++ (u1 G T_brigade0 T_brigade1 T_brigade2 T_brigade3 T_brigade4 T_brigade5 T_brigade ++ (u4 G T_fire0 T_fire_after0 T_fire_act0 r7.2.1)))) (w' := u9 G T0 T_brigade0 T_pad0 T_act0 T_fire0 T_routes0 T_posts0 T_trails0 T_feet0 T_images0 T ++ (u0 G T_act0 r7.1 ++ (u1 G T_brigade0 T_brigade1 T_brigade2 T_brigade3 T_brigade4 T_brigade5 T_brigade ++ (u4 G T_fire0 T_fire_after0 T_fire_act0 r7.2.1 ++ (u1 G T_fire_after0 T_fire_after1 T_fire_after2 T_fire_after3 T_fire_after4 T_fire_after5 r7.2.2))))) C cfX9_159 viX1_menOnRoof (m1_menOnRoof_k l G T_fire_after0 T_fire_after1 T_fire_after2 T_fire_after3 T_fire_after4 T_fire_after5 r7.2.2 r11 k12) dX9_year_75 (by decide) ⟨Nat.zero_le _, Nat.zero_le _⟩ rfl rfl (Nat.le_of_ble_eq_true rfl) rfl [9, 10, 11, 12, 13, 14] [0, 1, 2, 3, 4, 5, 6, 7, 8] [0, 1, 2, 3, 4, 5, 6, 7, 8, 9, 10, 11, 12, 13, 14] rfl rfl (by decide) rfl ?_
          cases h
          exact go_iret C dX9_year_78 rfl rfl
        refine go_ite h (fun q h => ?_) (fun q1 h => ?_)
        · refine go_look (off := 39) (tgt := 79) C dX9_year_40 (by decide) (by rw [q]; decide) rfl ?_
          refine go_aload_n C dX9_year_79 0 rfl ?_
          refine go_get (v := .ref T_fire0) C ffX9_33 dX9_year_80 0 rfl rfl ?_
          obtain ⟨r13, k14, h⟩ := tbd_e h
          refine go_callV (q0 := 8) (wr := u9 G T0 T_brigade0 T_pad0 T_act0 T_fire0 T_routes0 T_posts0 T_trails0 T_feet0 T_images0 T ++ (u0 G T_act0 r7.1 ++ (u1 G T_brigade0 T_brigade1 T_brigade2 T_brigade3 T_brigade4 T_brigade5 T_brigade ++ (u1 G T_fire_after0 T_fire_after1 T_fire_after2 T_fire_after3 T_fire_after4 T_fire_after5 r7.2.2)))) (w' := u9 G T0 T_brigade0 T_pad0 T_act0 T_fire0 T_routes0 T_posts0 T_trails0 T_feet0 T_images0 T ++ (u0 G T_act0 r7.1 ++ (u1 G T_brigade0 T_brigade1 T_brigade2 T_brigade3 T_brigade4 T_brigade5 T_brigade ++ (u4 G T_fire0 T_fire_after0 T_fire_act0 r7.2.1 ++ (u1 G T_fire_after0 T_fire_after1 T_fire_after2 T_fire_after3 T_fire_after4 T_fire_after5 r7.2.2))))) C cfX9_133 viX4_behindIt (m4_behindIt_k l G T_fire0 T_fire_after0 T_fire_act0 r7.2.1 r13 k14) dX9_year_83 (by decide) ⟨Nat.zero_le _, Nat.zero_le _⟩ rfl rfl (Nat.le_of_ble_eq_true rfl) rfl [8] [0, 1, 2, 3, 4, 5, 6, 7, 9, 10, 11, 12, 13, 14] [0, 1, 2, 3, 4, 5, 6, 7, 14, 8, 9, 10, 11, 12, 13] rfl rfl (by decide) rfl ?_
          refine go_iconst (v := 0) C dX9_year_86 rfl ?_
          obtain ⟨r15, k16, h⟩ := tbd_e h
          refine go_callV (q0 := 9) (wr := u9 G T0 T_brigade0 T_pad0 T_act0 T_fire0 T_routes0 T_posts0 T_trails0 T_feet0 T_images0 T ++ (u0 G T_act0 r7.1 ++ (u1 G T_brigade0 T_brigade1 T_brigade2 T_brigade3 T_brigade4 T_brigade5 T_brigade ++ (u4 G T_fire0 T_fire_after0 T_fire_act0 r7.2.1)))) (w' := u9 G T0 T_brigade0 T_pad0 T_act0 T_fire0 T_routes0 T_posts0 T_trails0 T_feet0 T_images0 T ++ (u0 G T_act0 r7.1 ++ (u1 G T_brigade0 T_brigade1 T_brigade2 T_brigade3 T_brigade4 T_brigade5 T_brigade ++ (u4 G T_fire0 T_fire_after0 T_fire_act0 r7.2.1 ++ (u1 G T_fire_after0 T_fire_after1 T_fire_after2 T_fire_after3 T_fire_after4 T_fire_after5 r7.2.2))))) C cfX9_103 viX1_coinsOf (m1_coinsOf_k l G T_fire_after0 T_fire_after1 T_fire_after2 T_fire_after3 T_fire_after4 T_fire_after5 r7.2.2 (0 : Int32) r15 k16) dX9_year_87 (by decide) ⟨Nat.zero_le _, Nat.zero_le _⟩ rfl rfl (Nat.le_of_ble_eq_true rfl) rfl [9, 10, 11, 12, 13, 14] [0, 1, 2, 3, 4, 5, 6, 7, 8] [0, 1, 2, 3, 4, 5, 6, 7, 8, 9, 10, 11, 12, 13, 14] rfl rfl (by decide) rfl ?_
          cases h
          exact go_iret C dX9_year_90 rfl rfl
        refine go_look (off := 51) (tgt := 91) C dX9_year_40 (by decide) (by show Op.lookupswitch.offset [(0, 28), (1, 39)] 51 _ = _; rw [lv_osw (a := 0) q0 rfl, lv_osw (a := 1) q1 rfl]; rfl) rfl ?_
        refine go_aload_n C dX9_year_91 0 rfl ?_
        refine go_get (v := .ref T_fire0) C ffX9_33 dX9_year_92 0 rfl rfl ?_
        obtain ⟨r17, k18, h⟩ := tbd_e h
        refine go_callV (q0 := 8) (wr := u9 G T0 T_brigade0 T_pad0 T_act0 T_fire0 T_routes0 T_posts0 T_trails0 T_feet0 T_images0 T ++ (u0 G T_act0 r7.1 ++ (u1 G T_brigade0 T_brigade1 T_brigade2 T_brigade3 T_brigade4 T_brigade5 T_brigade ++ (u1 G T_fire_after0 T_fire_after1 T_fire_after2 T_fire_after3 T_fire_after4 T_fire_after5 r7.2.2)))) (w' := u9 G T0 T_brigade0 T_pad0 T_act0 T_fire0 T_routes0 T_posts0 T_trails0 T_feet0 T_images0 T ++ (u0 G T_act0 r7.1 ++ (u1 G T_brigade0 T_brigade1 T_brigade2 T_brigade3 T_brigade4 T_brigade5 T_brigade ++ (u4 G T_fire0 T_fire_after0 T_fire_act0 r7.2.1 ++ (u1 G T_fire_after0 T_fire_after1 T_fire_after2 T_fire_after3 T_fire_after4 T_fire_after5 r7.2.2))))) C cfX9_162 viX4_stepsMade (m4_stepsMade_k l G T_fire0 T_fire_after0 T_fire_act0 r7.2.1 r17 k18) dX9_year_95 (by decide) ⟨Nat.zero_le _, Nat.zero_le _⟩ rfl rfl (Nat.le_of_ble_eq_true rfl) rfl [8] [0, 1, 2, 3, 4, 5, 6, 7, 9, 10, 11, 12, 13, 14] [0, 1, 2, 3, 4, 5, 6, 7, 14, 8, 9, 10, 11, 12, 13] rfl rfl (by decide) rfl ?_
        cases h
        exact go_iret C dX9_year_98 rfl rfl
      · refine go_bipush (v := -2) C dX9_year_30 rfl ?_
        cases h
        exact go_iret C dX9_year_32 rfl rfl

set_option maxRecDepth 100000 in
set_option maxHeartbeats 4000000 in
theorem m9_toldOfMan_k (l : Launch) (G : gG) (T0 T_brigade0 T_pad0 T_act0 T_fire0 T_routes0 T_posts0 T_trails0 T_feet0 T_images0 T_brigade1 T_brigade2 T_brigade3 T_brigade4 T_brigade5 : Nat) (T : SX9) (T_brigade : SX1) (a1 : Int32) (a2 : Int32) (R0 : Int32) (h : m9_toldOfMan T T_brigade a1 a2 = some R0) : KK l G yX9_toldOfMan cX9_toldOfMan 3 (some .int) 2 41 [.ref T0, .int a1, .int a2] (u9 G T0 T_brigade0 T_pad0 T_act0 T_fire0 T_routes0 T_posts0 T_trails0 T_feet0 T_images0 T ++ (u1 G T_brigade0 T_brigade1 T_brigade2 T_brigade3 T_brigade4 T_brigade5 T_brigade)) (some (.int R0)) (u9 G T0 T_brigade0 T_pad0 T_act0 T_fire0 T_routes0 T_posts0 T_trails0 T_feet0 T_images0 T ++ (u1 G T_brigade0 T_brigade1 T_brigade2 T_brigade3 T_brigade4 T_brigade5 T_brigade)) := by
  refine KK_intro (own := RX9) (by decide +kernel) rfl (Nat.le_of_ble_eq_true rfl) rfl ?_
  intro p e s m args below meth c A C
  unfold m9_toldOfMan at h
  refine go_iload_n C dX9_toldOfMan_0 2 rfl ?_
  obtain ⟨r1, k2, h⟩ := tbd_e h
  refine go_callS0 C cfX9_91 (wr6 _ (List.mem_of_getElem? (i := 22) rfl)) (m9_isMan_k l G a2 r1 k2) dX9_toldOfMan_1 (by decide) ⟨Nat.zero_le _, Nat.zero_le _⟩ rfl rfl (Nat.le_of_ble_eq_true rfl) ?_
  refine go_if_ne (tgt := 10) C h dX9_toldOfMan_4 rfl (fun h => ?_) (fun h => ?_)
  · refine go_iload_n C dX9_toldOfMan_10 1 rfl ?_
    refine go_ite h (fun q h => ?_) (fun q0 h => ?_)
    · refine go_look (off := 25) (tgt := 36) C dX9_toldOfMan_11 (by decide) (by rw [q]; decide) rfl ?_
      refine go_aload_n C dX9_toldOfMan_36 0 rfl ?_
      refine go_get (v := .ref T_brigade0) C ffX9_12 dX9_toldOfMan_37 0 rfl rfl ?_
      refine go_iload_n C dX9_toldOfMan_40 2 rfl ?_
      obtain ⟨r3, k4, h⟩ := tbd_e h
      refine go_callV (q0 := 1) (wr := u9 G T0 T_brigade0 T_pad0 T_act0 T_fire0 T_routes0 T_posts0 T_trails0 T_feet0 T_images0 T) (w' := u9 G T0 T_brigade0 T_pad0 T_act0 T_fire0 T_routes0 T_posts0 T_trails0 T_feet0 T_images0 T ++ (u1 G T_brigade0 T_brigade1 T_brigade2 T_brigade3 T_brigade4 T_brigade5 T_brigade)) C cfX9_100 viX1_placeOf (m1_placeOf_k l G T_brigade0 T_brigade1 T_brigade2 T_brigade3 T_brigade4 T_brigade5 T_brigade a2 r3 k4) dX9_toldOfMan_41 (by decide) ⟨Nat.zero_le _, Nat.zero_le _⟩ rfl rfl (Nat.le_of_ble_eq_true rfl) rfl [1, 2, 3, 4, 5, 6] [0] [0, 1, 2, 3, 4, 5, 6] rfl rfl (by decide) rfl ?_
      cases h
      exact go_iret C dX9_toldOfMan_44 rfl rfl
    refine go_ite h (fun q h => ?_) (fun q1 h => ?_)
    · refine go_look (off := 34) (tgt := 45) C dX9_toldOfMan_11 (by decide) (by rw [q]; decide) rfl ?_
      refine go_aload_n C dX9_toldOfMan_45 0 rfl ?_
      refine go_get (v := .ref T_brigade0) C ffX9_12 dX9_toldOfMan_46 0 rfl rfl ?_
      refine go_iload_n C dX9_toldOfMan_49 2 rfl ?_
      obtain ⟨r5, k6, h⟩ := tbd_e h
      refine go_callV (q0 := 1) (wr := u9 G T0 T_brigade0 T_pad0 T_act0 T_fire0 T_routes0 T_posts0 T_trails0 T_feet0 T_images0 T) (w' := u9 G T0 T_brigade0 T_pad0 T_act0 T_fire0 T_routes0 T_posts0 T_trails0 T_feet0 T_images0 T ++ (u1 G T_brigade0 T_brigade1 T_brigade2 T_brigade3 T_brigade4 T_brigade5 T_brigade)) C cfX9_103 viX1_coinsOf (m1_coinsOf_k l G T_brigade0 T_brigade1 T_brigade2 T_brigade3 T_brigade4 T_brigade5 T_brigade a2 r5 k6) dX9_toldOfMan_50 (by decide) ⟨Nat.zero_le _, Nat.zero_le _⟩ rfl rfl (Nat.le_of_ble_eq_true rfl) rfl [1, 2, 3, 4, 5, 6] [0] [0, 1, 2, 3, 4, 5, 6] rfl rfl (by decide) rfl ?_
      cases h
      exact go_iret C dX9_toldOfMan_53 rfl rfl
    refine go_look (off := 43) (tgt := 54) C dX9_toldOfMan_11 (by decide) (by show Op.lookupswitch.offset [(1, 25), (2, 34)] 43 _ = _; rw [lv_osw (a := 1) q0 rfl, lv_osw (a := 2) q1 rfl]; rfl) rfl ?_
    refine go_aload_n C dX9_toldOfMan_54 0 rfl ?_
    refine go_get (v := .ref T_brigade0) C ffX9_12 dX9_toldOfMan_55 0 rfl rfl ?_
    refine go_iload_n C dX9_toldOfMan_58 2 rfl ?_
    obtain ⟨r7, k8, h⟩ := tbd_e h
    refine go_callV (q0 := 1) (wr := u9 G T0 T_brigade0 T_pad0 T_act0 T_fire0 T_routes0 T_posts0 T_trails0 T_feet0 T_images0 T) (w' := u9 G T0 T_brigade0 T_pad0 T_act0 T_fire0 T_routes0 T_posts0 T_trails0 T_feet0 T_images0 T ++ (u1 G T_brigade0 T_brigade1 T_brigade2 T_brigade3 T_brigade4 T_brigade5 T_brigade)) C cfX9_267 viX1_strideOf (m1_strideOf_k l G T_brigade0 T_brigade1 T_brigade2 T_brigade3 T_brigade4 T_brigade5 T_brigade a2 r7 k8) dX9_toldOfMan_59 (by decide) ⟨Nat.zero_le _, Nat.zero_le _⟩ rfl rfl (Nat.le_of_ble_eq_true rfl) rfl [1, 2, 3, 4, 5, 6] [0] [0, 1, 2, 3, 4, 5, 6] rfl rfl (by decide) rfl ?_
    cases h
    exact go_iret C dX9_toldOfMan_62 rfl rfl
  · refine go_bipush (v := -2) C dX9_toldOfMan_7 rfl ?_
    cases h
    exact go_iret C dX9_toldOfMan_9 rfl rfl

set_option maxRecDepth 100000 in
set_option maxHeartbeats 4000000 in
theorem m9_toldOfRung_k (l : Launch) (G : gG) (T0 T_brigade0 T_pad0 T_act0 T_fire0 T_routes0 T_posts0 T_trails0 T_feet0 T_images0 T_brigade1 T_brigade2 T_brigade3 T_brigade4 T_brigade5 : Nat) (T : SX9) (T_brigade : SX1) (a1 : Int32) (R0 : Int32) (h : m9_toldOfRung T T_brigade a1 = some R0) : KK l G yX9_toldOfRung cX9_toldOfRung 2 (some .int) 2 41 [.ref T0, .int a1] (u9 G T0 T_brigade0 T_pad0 T_act0 T_fire0 T_routes0 T_posts0 T_trails0 T_feet0 T_images0 T ++ (u1 G T_brigade0 T_brigade1 T_brigade2 T_brigade3 T_brigade4 T_brigade5 T_brigade)) (some (.int R0)) (u9 G T0 T_brigade0 T_pad0 T_act0 T_fire0 T_routes0 T_posts0 T_trails0 T_feet0 T_images0 T ++ (u1 G T_brigade0 T_brigade1 T_brigade2 T_brigade3 T_brigade4 T_brigade5 T_brigade)) := by
  refine KK_intro (own := RX9) (by decide +kernel) rfl (Nat.le_of_ble_eq_true rfl) rfl ?_
  intro p e s m args below meth c A C
  unfold m9_toldOfRung at h
  refine go_iload_n C dX9_toldOfRung_0 1 rfl ?_
  refine go_bipush (v := 41) C dX9_toldOfRung_1 rfl ?_
  refine go_bipush (v := 52) C dX9_toldOfRung_3 rfl ?_
  obtain ⟨r1, k2, h⟩ := tbd_e h
  refine go_callS0 C cfX9_94 (wr7 _ (List.mem_of_getElem? (i := 4) rfl)) (m9_within_k l G a1 (41 : Int32) (52 : Int32) r1 k2) dX9_toldOfRung_5 (by decide) ⟨Nat.zero_le _, Nat.zero_le _⟩ rfl rfl (Nat.le_of_ble_eq_true rfl) ?_
  refine go_if_eq (tgt := 26) C h dX9_toldOfRung_8 rfl (fun h => ?_) (fun h => ?_)
  · refine go_iload_n C dX9_toldOfRung_26 1 rfl ?_
    refine go_bipush (v := 61) C dX9_toldOfRung_27 rfl ?_
    refine go_bipush (v := 72) C dX9_toldOfRung_29 rfl ?_
    obtain ⟨r3, k4, h⟩ := tbd_e h
    refine go_callS0 C cfX9_94 (wr7 _ (List.mem_of_getElem? (i := 4) rfl)) (m9_within_k l G a1 (61 : Int32) (72 : Int32) r3 k4) dX9_toldOfRung_31 (by decide) ⟨Nat.zero_le _, Nat.zero_le _⟩ rfl rfl (Nat.le_of_ble_eq_true rfl) ?_
    refine go_if_eq (tgt := 52) C h dX9_toldOfRung_34 rfl (fun h => ?_) (fun h => ?_)
    · refine go_bipush (v := -2) C dX9_toldOfRung_52 rfl ?_
      cases h
      exact go_iret C dX9_toldOfRung_54 rfl rfl
    · refine go_aload_n C dX9_toldOfRung_37 0 rfl ?_
      refine go_get (v := .ref T_brigade0) C ffX9_12 dX9_toldOfRung_38 0 rfl rfl ?_
      refine go_iload_n C dX9_toldOfRung_41 1 rfl ?_
      refine go_bipush (v := 60) C dX9_toldOfRung_42 rfl ?_
      refine go_isub C dX9_toldOfRung_44 ?_
      obtain ⟨r5, k6, h⟩ := tbd_e h
      refine go_callV (q0 := 1) (wr := u9 G T0 T_brigade0 T_pad0 T_act0 T_fire0 T_routes0 T_posts0 T_trails0 T_feet0 T_images0 T) (w' := u9 G T0 T_brigade0 T_pad0 T_act0 T_fire0 T_routes0 T_posts0 T_trails0 T_feet0 T_images0 T ++ (u1 G T_brigade0 T_brigade1 T_brigade2 T_brigade3 T_brigade4 T_brigade5 T_brigade)) C cfX9_147 viX1_leaserOf (m1_leaserOf_k l G T_brigade0 T_brigade1 T_brigade2 T_brigade3 T_brigade4 T_brigade5 T_brigade (a1 - (60 : Int32)) r5 k6) dX9_toldOfRung_45 (by decide) ⟨Nat.zero_le _, Nat.zero_le _⟩ rfl rfl (Nat.le_of_ble_eq_true rfl) rfl [1, 2, 3, 4, 5, 6] [0] [0, 1, 2, 3, 4, 5, 6] rfl rfl (by decide) rfl ?_
      obtain ⟨r7, k8, h⟩ := tbd_e h
      refine go_callS0 C cfX9_88 (wr7 _ (List.mem_of_getElem? (i := 17) rfl)) (m9_orNone_k l G r5 r7 k8) dX9_toldOfRung_48 (by decide) ⟨Nat.zero_le _, Nat.zero_le _⟩ rfl rfl (Nat.le_of_ble_eq_true rfl) ?_
      cases h
      exact go_iret C dX9_toldOfRung_51 rfl rfl
  · refine go_aload_n C dX9_toldOfRung_11 0 rfl ?_
    refine go_get (v := .ref T_brigade0) C ffX9_12 dX9_toldOfRung_12 0 rfl rfl ?_
    refine go_iload_n C dX9_toldOfRung_15 1 rfl ?_
    refine go_bipush (v := 40) C dX9_toldOfRung_16 rfl ?_
    refine go_isub C dX9_toldOfRung_18 ?_
    obtain ⟨r9, k10, h⟩ := tbd_e h
    refine go_callV (q0 := 1) (wr := u9 G T0 T_brigade0 T_pad0 T_act0 T_fire0 T_routes0 T_posts0 T_trails0 T_feet0 T_images0 T) (w' := u9 G T0 T_brigade0 T_pad0 T_act0 T_fire0 T_routes0 T_posts0 T_trails0 T_feet0 T_images0 T ++ (u1 G T_brigade0 T_brigade1 T_brigade2 T_brigade3 T_brigade4 T_brigade5 T_brigade)) C cfX9_80 viX1_ownerOf (m1_ownerOf_k l G T_brigade0 T_brigade1 T_brigade2 T_brigade3 T_brigade4 T_brigade5 T_brigade (a1 - (40 : Int32)) r9 k10) dX9_toldOfRung_19 (by decide) ⟨Nat.zero_le _, Nat.zero_le _⟩ rfl rfl (Nat.le_of_ble_eq_true rfl) rfl [1, 2, 3, 4, 5, 6] [0] [0, 1, 2, 3, 4, 5, 6] rfl rfl (by decide) rfl ?_
    obtain ⟨r11, k12, h⟩ := tbd_e h
    refine go_callS0 C cfX9_88 (wr7 _ (List.mem_of_getElem? (i := 17) rfl)) (m9_orNone_k l G r9 r11 k12) dX9_toldOfRung_22 (by decide) ⟨Nat.zero_le _, Nat.zero_le _⟩ rfl rfl (Nat.le_of_ble_eq_true rfl) ?_
    cases h
    exact go_iret C dX9_toldOfRung_25 rfl rfl

set_option maxRecDepth 100000 in
set_option maxHeartbeats 4000000 in
theorem m9_told_k (l : Launch) (G : gG) (T0 T_brigade0 T_pad0 T_act0 T_fire0 T_routes0 T_posts0 T_trails0 T_feet0 T_images0 T_brigade1 T_brigade2 T_brigade3 T_brigade4 T_brigade5 T_pad1 : Nat) (T : SX9) (T_brigade : SX1) (T_pad : SX5) (a1 : Int32) (R0 : Int32) (h : m9_told T T_brigade T_pad a1 = some R0) : KK l G yX9_told cX9_told 2 (some .int) 3 63 [.ref T0, .int a1] (u9 G T0 T_brigade0 T_pad0 T_act0 T_fire0 T_routes0 T_posts0 T_trails0 T_feet0 T_images0 T ++ (u1 G T_brigade0 T_brigade1 T_brigade2 T_brigade3 T_brigade4 T_brigade5 T_brigade ++ (u5 G T_pad0 T_pad1 T_pad))) (some (.int R0)) (u9 G T0 T_brigade0 T_pad0 T_act0 T_fire0 T_routes0 T_posts0 T_trails0 T_feet0 T_images0 T ++ (u1 G T_brigade0 T_brigade1 T_brigade2 T_brigade3 T_brigade4 T_brigade5 T_brigade ++ (u5 G T_pad0 T_pad1 T_pad))) := by
  refine KK_intro (own := RX9) (by decide +kernel) rfl (Nat.le_of_ble_eq_true rfl) rfl ?_
  intro p e s m args below meth c A C
  unfold m9_told at h
  refine go_iload_n C dX9_told_0 1 rfl ?_
  refine go_ite h (fun q h => ?_) (fun q0 h => ?_)
  · refine go_tabIn (off := 39) (tgt := 40) C dX9_told_1 q (by decide) (by decide) rfl ?_
    refine go_aload_n C dX9_told_40 0 rfl ?_
    refine go_get (v := .ref T_pad0) C ffX9_19 dX9_told_41 0 rfl rfl ?_
    obtain ⟨r1, k2, h⟩ := tbd_e h
    refine go_callV (q0 := 7) (wr := u9 G T0 T_brigade0 T_pad0 T_act0 T_fire0 T_routes0 T_posts0 T_trails0 T_feet0 T_images0 T ++ (u1 G T_brigade0 T_brigade1 T_brigade2 T_brigade3 T_brigade4 T_brigade5 T_brigade)) (w' := u9 G T0 T_brigade0 T_pad0 T_act0 T_fire0 T_routes0 T_posts0 T_trails0 T_feet0 T_images0 T ++ (u1 G T_brigade0 T_brigade1 T_brigade2 T_brigade3 T_brigade4 T_brigade5 T_brigade ++ (u5 G T_pad0 T_pad1 T_pad))) C cfX9_113 viX5_size (m5_size_k l G T_pad0 T_pad1 T_pad r1 k2) dX9_told_44 (by decide) ⟨Nat.zero_le _, Nat.zero_le _⟩ rfl rfl (Nat.le_of_ble_eq_true rfl) rfl [7, 8] [0, 1, 2, 3, 4, 5, 6] [0, 1, 2, 3, 4, 5, 6, 7, 8] rfl rfl (by decide) rfl ?_
    cases h
    exact go_iret C dX9_told_47 rfl rfl
  refine go_ite h (fun q h => ?_) (fun q1 h => ?_)
  · refine go_tabIn (off := 47) (tgt := 48) C dX9_told_1 q (by decide) (by decide) rfl ?_
    refine go_aload_n C dX9_told_48 0 rfl ?_
    refine go_get (v := .ref T_brigade0) C ffX9_12 dX9_told_49 0 rfl rfl ?_
    obtain ⟨r3, k4, h⟩ := tbd_e h
    refine go_callV (q0 := 1) (wr := u9 G T0 T_brigade0 T_pad0 T_act0 T_fire0 T_routes0 T_posts0 T_trails0 T_feet0 T_images0 T ++ (u5 G T_pad0 T_pad1 T_pad)) (w' := u9 G T0 T_brigade0 T_pad0 T_act0 T_fire0 T_routes0 T_posts0 T_trails0 T_feet0 T_images0 T ++ (u1 G T_brigade0 T_brigade1 T_brigade2 T_brigade3 T_brigade4 T_brigade5 T_brigade ++ (u5 G T_pad0 T_pad1 T_pad))) C cfX9_156 viX1_beatNow (m1_beatNow_k l G T_brigade0 T_brigade1 T_brigade2 T_brigade3 T_brigade4 T_brigade5 T_brigade r3 k4) dX9_told_52 (by decide) ⟨Nat.zero_le _, Nat.zero_le _⟩ rfl rfl (Nat.le_of_ble_eq_true rfl) rfl [1, 2, 3, 4, 5, 6] [0, 7, 8] [0, 3, 4, 5, 6, 7, 8, 1, 2] rfl rfl (by decide) rfl ?_
    cases h
    exact go_iret C dX9_told_55 rfl rfl
  refine go_ite h (fun q h => ?_) (fun q2 h => ?_)
  · refine go_tabIn (off := 55) (tgt := 56) C dX9_told_1 q (by decide) (by decide) rfl ?_
    refine go_aload_n C dX9_told_56 0 rfl ?_
    refine go_get (v := .ref T_brigade0) C ffX9_12 dX9_told_57 0 rfl rfl ?_
    obtain ⟨r5, k6, h⟩ := tbd_e h
    refine go_callV (q0 := 1) (wr := u9 G T0 T_brigade0 T_pad0 T_act0 T_fire0 T_routes0 T_posts0 T_trails0 T_feet0 T_images0 T ++ (u5 G T_pad0 T_pad1 T_pad)) (w' := u9 G T0 T_brigade0 T_pad0 T_act0 T_fire0 T_routes0 T_posts0 T_trails0 T_feet0 T_images0 T ++ (u1 G T_brigade0 T_brigade1 T_brigade2 T_brigade3 T_brigade4 T_brigade5 T_brigade ++ (u5 G T_pad0 T_pad1 T_pad))) C cfX9_159 viX1_menOnRoof (m1_menOnRoof_k l G T_brigade0 T_brigade1 T_brigade2 T_brigade3 T_brigade4 T_brigade5 T_brigade r5 k6) dX9_told_60 (by decide) ⟨Nat.zero_le _, Nat.zero_le _⟩ rfl rfl (Nat.le_of_ble_eq_true rfl) rfl [1, 2, 3, 4, 5, 6] [0, 7, 8] [0, 3, 4, 5, 6, 7, 8, 1, 2] rfl rfl (by decide) rfl ?_
    cases h
    exact go_iret C dX9_told_63 rfl rfl
  refine go_ite h (fun q h => ?_) (fun q3 h => ?_)
  · refine go_tabIn (off := 63) (tgt := 64) C dX9_told_1 q (by decide) (by decide) rfl ?_
    refine go_aload_n C dX9_told_64 0 rfl ?_
    refine go_get (v := .ref T_brigade0) C ffX9_12 dX9_told_65 0 rfl rfl ?_
    obtain ⟨r7, k8, h⟩ := tbd_e h
    refine go_callV (q0 := 1) (wr := u9 G T0 T_brigade0 T_pad0 T_act0 T_fire0 T_routes0 T_posts0 T_trails0 T_feet0 T_images0 T ++ (u5 G T_pad0 T_pad1 T_pad)) (w' := u9 G T0 T_brigade0 T_pad0 T_act0 T_fire0 T_routes0 T_posts0 T_trails0 T_feet0 T_images0 T ++ (u1 G T_brigade0 T_brigade1 T_brigade2 T_brigade3 T_brigade4 T_brigade5 T_brigade ++ (u5 G T_pad0 T_pad1 T_pad))) C cfX9_254 viX1_menStepped (m1_menStepped_k l G T_brigade0 T_brigade1 T_brigade2 T_brigade3 T_brigade4 T_brigade5 T_brigade r7 k8) dX9_told_68 (by decide) ⟨Nat.zero_le _, Nat.zero_le _⟩ rfl rfl (Nat.le_of_ble_eq_true rfl) rfl [1, 2, 3, 4, 5, 6] [0, 7, 8] [0, 3, 4, 5, 6, 7, 8, 1, 2] rfl rfl (by decide) rfl ?_
    cases h
    exact go_iret C dX9_told_71 rfl rfl
  refine go_ite h (fun q h => ?_) (fun q4 h => ?_)
  · refine go_tabIn (off := 71) (tgt := 72) C dX9_told_1 q (by decide) (by decide) rfl ?_
    refine go_aload_n C dX9_told_72 0 rfl ?_
    refine go_get (v := .ref T_brigade0) C ffX9_12 dX9_told_73 0 rfl rfl ?_
    obtain ⟨r9, k10, h⟩ := tbd_e h
    refine go_callV (q0 := 1) (wr := u9 G T0 T_brigade0 T_pad0 T_act0 T_fire0 T_routes0 T_posts0 T_trails0 T_feet0 T_images0 T ++ (u5 G T_pad0 T_pad1 T_pad)) (w' := u9 G T0 T_brigade0 T_pad0 T_act0 T_fire0 T_routes0 T_posts0 T_trails0 T_feet0 T_images0 T ++ (u1 G T_brigade0 T_brigade1 T_brigade2 T_brigade3 T_brigade4 T_brigade5 T_brigade ++ (u5 G T_pad0 T_pad1 T_pad))) C cfX9_257 viX1_rungsMissing (m1_rungsMissing_k l G T_brigade0 T_brigade1 T_brigade2 T_brigade3 T_brigade4 T_brigade5 T_brigade r9 k10) dX9_told_76 (by decide) ⟨Nat.zero_le _, Nat.zero_le _⟩ rfl rfl (Nat.le_of_ble_eq_true rfl) rfl [1, 2, 3, 4, 5, 6] [0, 7, 8] [0, 3, 4, 5, 6, 7, 8, 1, 2] rfl rfl (by decide) rfl ?_
    cases h
    exact go_iret C dX9_told_79 rfl rfl
  refine go_ite h (fun q h => ?_) (fun q5 h => ?_)
  · refine go_tabIn (off := 79) (tgt := 80) C dX9_told_1 q (by decide) (by decide) rfl ?_
    refine go_aload_n C dX9_told_80 0 rfl ?_
    refine go_get (v := .ref T_brigade0) C ffX9_12 dX9_told_81 0 rfl rfl ?_
    obtain ⟨r11, k12, h⟩ := tbd_e h
    refine go_callV (q0 := 1) (wr := u9 G T0 T_brigade0 T_pad0 T_act0 T_fire0 T_routes0 T_posts0 T_trails0 T_feet0 T_images0 T ++ (u5 G T_pad0 T_pad1 T_pad)) (w' := u9 G T0 T_brigade0 T_pad0 T_act0 T_fire0 T_routes0 T_posts0 T_trails0 T_feet0 T_images0 T ++ (u1 G T_brigade0 T_brigade1 T_brigade2 T_brigade3 T_brigade4 T_brigade5 T_brigade ++ (u5 G T_pad0 T_pad1 T_pad))) C cfX9_203 viX1_sightCount (m1_sightCount_k l G T_brigade0 T_brigade1 T_brigade2 T_brigade3 T_brigade4 T_brigade5 T_brigade r11 k12) dX9_told_84 (by decide) ⟨Nat.zero_le _, Nat.zero_le _⟩ rfl rfl (Nat.le_of_ble_eq_true rfl) rfl [1, 2, 3, 4, 5, 6] [0, 7, 8] [0, 3, 4, 5, 6, 7, 8, 1, 2] rfl rfl (by decide) rfl ?_
    cases h
    exact go_iret C dX9_told_87 rfl rfl
  refine go_tabOut (tgt := 88) C dX9_told_1 (by have a0 := lv_neT (a := 0) q0 rfl; have a1 := lv_neT (a := 1) q1 rfl; have a2 := lv_neT (a := 2) q2 rfl; have a3 := lv_neT (a := 3) q3 rfl; have a4 := lv_neT (a := 4) q4 rfl; have a5 := lv_neT (a := 5) q5 rfl; omega) rfl ?_
  refine go_iload_n C dX9_told_88 1 rfl ?_
  refine go_bipush (v := 10) C dX9_told_89 rfl ?_
  refine go_bipush (v := 39) C dX9_told_91 rfl ?_
  obtain ⟨r13, k14, h⟩ := tbd_e h
  refine go_callS0 C cfX9_94 (wr7 _ (List.mem_of_getElem? (i := 4) rfl)) (m9_within_k l G a1 (10 : Int32) (39 : Int32) r13 k14) dX9_told_93 (by decide) ⟨Nat.zero_le _, Nat.zero_le _⟩ rfl rfl (Nat.le_of_ble_eq_true rfl) ?_
  refine go_if_eq (tgt := 114) C h dX9_told_96 rfl (fun h => ?_) (fun h => ?_)
  · refine go_aload_n C dX9_told_114 0 rfl ?_
    refine go_iload_n C dX9_told_115 1 rfl ?_
    obtain ⟨r15, k16, h⟩ := tbd_e h
    refine go_callV (q0 := 0) (wr := u5 G T_pad0 T_pad1 T_pad) (w' := u9 G T0 T_brigade0 T_pad0 T_act0 T_fire0 T_routes0 T_posts0 T_trails0 T_feet0 T_images0 T ++ (u1 G T_brigade0 T_brigade1 T_brigade2 T_brigade3 T_brigade4 T_brigade5 T_brigade ++ (u5 G T_pad0 T_pad1 T_pad))) C cfX9_264 viX9_toldOfRung (m9_toldOfRung_k l G T0 T_brigade0 T_pad0 T_act0 T_fire0 T_routes0 T_posts0 T_trails0 T_feet0 T_images0 T_brigade1 T_brigade2 T_brigade3 T_brigade4 T_brigade5 T T_brigade a1 r15 k16) dX9_told_116 (by decide) ⟨Nat.zero_le _, Nat.zero_le _⟩ rfl rfl (Nat.le_of_ble_eq_true rfl) rfl [0, 1, 2, 3, 4, 5, 6] [7, 8] [2, 3, 4, 5, 6, 7, 8, 0, 1] rfl rfl (by decide) rfl ?_
    cases h
    exact go_iret C dX9_told_119 rfl rfl
  · refine go_aload_n C dX9_told_99 0 rfl ?_
    refine go_iload_n C dX9_told_100 1 rfl ?_
    refine go_bipush (v := 10) C dX9_told_101 rfl ?_
    refine go_idiv C dX9_told_103 (by decide) ?_
    refine go_iload_n C dX9_told_104 1 rfl ?_
    refine go_bipush (v := 10) C dX9_told_105 rfl ?_
    refine go_irem C dX9_told_107 (by decide) ?_
    obtain ⟨r17, k18, h⟩ := tbd_e h
    refine go_callV (q0 := 0) (wr := u5 G T_pad0 T_pad1 T_pad) (w' := u9 G T0 T_brigade0 T_pad0 T_act0 T_fire0 T_routes0 T_posts0 T_trails0 T_feet0 T_images0 T ++ (u1 G T_brigade0 T_brigade1 T_brigade2 T_brigade3 T_brigade4 T_brigade5 T_brigade ++ (u5 G T_pad0 T_pad1 T_pad))) C cfX9_260 viX9_toldOfMan (m9_toldOfMan_k l G T0 T_brigade0 T_pad0 T_act0 T_fire0 T_routes0 T_posts0 T_trails0 T_feet0 T_images0 T_brigade1 T_brigade2 T_brigade3 T_brigade4 T_brigade5 T T_brigade (a1 / (10 : Int32)) (irem a1 (10 : Int32)) r17 k18) dX9_told_108 (by decide) ⟨Nat.zero_le _, Nat.zero_le _⟩ rfl rfl (Nat.le_of_ble_eq_true rfl) rfl [0, 1, 2, 3, 4, 5, 6] [7, 8] [2, 3, 4, 5, 6, 7, 8, 0, 1] rfl rfl (by decide) rfl ?_
    refine go_goto (tgt := 119) C dX9_told_111 rfl ?_
    cases h
    exact go_iret C dX9_told_119 rfl rfl

set_option maxRecDepth 100000 in
set_option maxHeartbeats 4000000 in
theorem m9_isImage_k (l : Launch) (G : gG) (a0 : Int32) (R0 : Int32) (h : m9_isImage a0 = some R0) : KK l G yX9_isImage cX9_isImage 1 (some .boolean) 0 0 [.int a0] (([] : va_W)) (some (.int R0)) (([] : va_W)) := by
  refine KK_intro (own := RX9) (by decide +kernel) rfl (Nat.le_of_ble_eq_true rfl) rfl ?_
  intro p e s m args below meth c A C
  unfold m9_isImage at h
  refine go_iload_n C dX9_isImage_0 0 rfl ?_
  refine go_if_lt (tgt := 13) C h dX9_isImage_1 rfl (fun h => ?_) (fun h => ?_)
  · refine go_iconst (v := 0) C dX9_isImage_13 rfl ?_
    cases h
    exact go_zret C dX9_isImage_14 (by decide) rfl rfl
  · refine go_iload_n C dX9_isImage_4 0 rfl ?_
    refine go_iconst (v := 2) C dX9_isImage_5 rfl ?_
    refine go_icmp_ge (tgt := 13) C h dX9_isImage_6 rfl (fun h => ?_) (fun h => ?_)
    · refine go_iconst (v := 0) C dX9_isImage_13 rfl ?_
      cases h
      exact go_zret C dX9_isImage_14 (by decide) rfl rfl
    · refine go_iconst (v := 1) C dX9_isImage_9 rfl ?_
      refine go_goto (tgt := 14) C dX9_isImage_10 rfl ?_
      cases h
      exact go_zret C dX9_isImage_14 (by decide) rfl rfl

set_option maxRecDepth 100000 in
set_option maxHeartbeats 4000000 in
theorem m10_in_k (l : Launch) (G : gG) (a0 : Int32) (a1 : Int32) (a2 : Int32) (R0 : Int32) (h : m10_in a0 a1 a2 = some R0) : KK l G yX10_in cX10_in 3 (some .boolean) 0 0 [.int a0, .int a1, .int a2] (([] : va_W)) (some (.int R0)) (([] : va_W)) := by
  refine KK_intro (own := RX10) (by decide +kernel) rfl (Nat.le_of_ble_eq_true rfl) rfl ?_
  intro p e s m args below meth c A C
  unfold m10_in at h
  refine go_iload_n C dX10_in_0 0 rfl ?_
  refine go_iload_n C dX10_in_1 1 rfl ?_
  refine go_icmp_lt (tgt := 14) C h dX10_in_2 rfl (fun h => ?_) (fun h => ?_)
  · refine go_iconst (v := 0) C dX10_in_14 rfl ?_
    cases h
    exact go_zret C dX10_in_15 (by decide) rfl rfl
  · refine go_iload_n C dX10_in_5 0 rfl ?_
    refine go_iload_n C dX10_in_6 2 rfl ?_
    refine go_icmp_gt (tgt := 14) C h dX10_in_7 rfl (fun h => ?_) (fun h => ?_)
    · refine go_iconst (v := 0) C dX10_in_14 rfl ?_
      cases h
      exact go_zret C dX10_in_15 (by decide) rfl rfl
    · refine go_iconst (v := 1) C dX10_in_10 rfl ?_
      refine go_goto (tgt := 15) C dX10_in_11 rfl ?_
      cases h
      exact go_zret C dX10_in_15 (by decide) rfl rfl

set_option maxRecDepth 100000 in
set_option maxHeartbeats 4000000 in
theorem m10_has_k (l : Launch) (G : gG) (a0 : Int32) (a1 : Int32) (R0 : Int32) (h : m10_has a0 a1 = some R0) : KK l G yX10_has cX10_has 2 (some .boolean) 0 0 [.int a0, .int a1] (([] : va_W)) (some (.int R0)) (([] : va_W)) := by
  refine KK_intro (own := RX10) (by decide +kernel) rfl (Nat.le_of_ble_eq_true rfl) rfl ?_
  intro p e s m args below meth c A C
  unfold m10_has at h
  refine go_iload_n C dX10_has_0 0 rfl ?_
  refine go_iload_n C dX10_has_1 1 rfl ?_
  refine go_ishr C dX10_has_2 ?_
  refine go_iconst (v := 1) C dX10_has_3 rfl ?_
  refine go_iand C dX10_has_4 ?_
  refine go_iconst (v := 1) C dX10_has_5 rfl ?_
  refine go_icmp_ne (tgt := 13) C h dX10_has_6 rfl (fun h => ?_) (fun h => ?_)
  · refine go_iconst (v := 0) C dX10_has_13 rfl ?_
    cases h
    exact go_zret C dX10_has_14 (by decide) rfl rfl
  · refine go_iconst (v := 1) C dX10_has_9 rfl ?_
    refine go_goto (tgt := 14) C dX10_has_10 rfl ?_
    cases h
    exact go_zret C dX10_has_14 (by decide) rfl rfl

set_option maxRecDepth 100000 in
set_option maxHeartbeats 4000000 in
theorem m10_bits_L4_k {p : Program} {l : Launch} {e : Env} {s : State} {m : MethodId} {args : Array Value} {below : List Frame} {meth : Method} {c : Code} {G : gG} {A : Nat → Prop} (C : Cx p e s m args meth c G RX10 cX10_bits 3 (some .int) A) (x0 : Int32) (R0 : Int32)  : ∀ (n : Nat) (x1 : Int32) (x2 : Int32), tit (m10_bits_L4 x0) n (x1, x2) = some R0 → Gq p l e (rq 0 0) s m args below meth c G A 3 0 0 (MQ below (QK G (some (.int R0)) (([] : va_W)) A) args s 0 0 A) 4 [(0, .int x0), (1, .int x1), (2, .int x2)] [] (([] : va_W)) := by
  intro n
  induction n with
  | zero => exact fun _ _ h => (tit_z h).elim
  | succ n ih =>
    intro x1 x2 h
    replace h : m10_bits_B4 x0 (tit (m10_bits_L4 x0) n) x1 x2 = some R0 := h
    unfold m10_bits_B4 at h
    refine go_iload_n C dX10_bits_4 2 rfl ?_
    refine go_bipush (v := 13) C dX10_bits_5 rfl ?_
    refine go_icmp_ge (tgt := 24) C h dX10_bits_7 rfl (fun h => ?_) (fun h => ?_)
    · refine go_iload_n C dX10_bits_24 1 rfl ?_
      cases h
      exact go_iret C dX10_bits_25 rfl rfl
    · refine go_iload_n C dX10_bits_10 1 rfl ?_
      refine go_iload_n C dX10_bits_11 0 rfl ?_
      refine go_iload_n C dX10_bits_12 2 rfl ?_
      refine go_ishr C dX10_bits_13 ?_
      refine go_iconst (v := 1) C dX10_bits_14 rfl ?_
      refine go_iand C dX10_bits_15 ?_
      refine go_iadd C dX10_bits_16 ?_
      refine go_istore_nN (lf := fun v1 => [(1, .int v1), (0, .int x0), (2, .int x2)]) C h dX10_bits_17 (by decide) (fun _ => rfl) (fun v1 h => ?_)
      refine go_iincN (lf := fun v2 => [(2, .int v2), (1, .int v1), (0, .int x0)]) C h dX10_bits_18 2 rfl rfl (by decide) (fun _ => rfl) (fun v2 h => ?_)
      refine go_goto (tgt := 4) C dX10_bits_21 rfl ?_
      exact go_lv [2, 1, 0] rfl (ih v1 v2 h)

set_option maxRecDepth 100000 in
set_option maxHeartbeats 4000000 in
theorem m10_bits_k (l : Launch) (G : gG) (a0 : Int32) (R0 : Int32) (h : m10_bits a0 = some R0) : KK l G yX10_bits cX10_bits 3 (some .int) 0 0 [.int a0] (([] : va_W)) (some (.int R0)) (([] : va_W)) := by
  refine KK_intro (own := RX10) (by decide +kernel) rfl (Nat.le_of_ble_eq_true rfl) rfl ?_
  intro p e s m args below meth c A C
  unfold m10_bits at h
  refine go_iconst (v := 0) C dX10_bits_0 rfl ?_
  refine go_istore_n (lv' := [(1, .int (0 : Int32)), (0, .int a0)]) C dX10_bits_1 (by decide) rfl ?_
  refine go_iconst (v := 0) C dX10_bits_2 rfl ?_
  refine go_istore_n (lv' := [(2, .int (0 : Int32)), (1, .int (0 : Int32)), (0, .int a0)]) C dX10_bits_3 (by decide) rfl ?_
  exact go_lv [2, 1, 0] rfl (m10_bits_L4_k C  a0 R0  FU (0 : Int32) (0 : Int32) h)

set_option maxRecDepth 100000 in
set_option maxHeartbeats 4000000 in
theorem m10_isRung_k (l : Launch) (G : gG) (a0 : Int32) (R0 : Int32) (h : m10_isRung a0 = some R0) : KK l G yX10_isRung cX10_isRung 1 (some .boolean) 1 22 [.int a0] (([] : va_W)) (some (.int R0)) (([] : va_W)) := by
  refine KK_intro (own := RX10) (by decide +kernel) rfl (Nat.le_of_ble_eq_true rfl) rfl ?_
  intro p e s m args below meth c A C
  unfold m10_isRung at h
  refine go_iload_n C dX10_isRung_0 0 rfl ?_
  refine go_iconst (v := 1) C dX10_isRung_1 rfl ?_
  refine go_bipush (v := 12) C dX10_isRung_2 rfl ?_
  obtain ⟨r1, k2, h⟩ := tbd_e h
  refine go_callS0 C cfX10_48 (wr8 _ (List.mem_of_getElem? (i := 3) rfl)) (m10_in_k l G a0 (1 : Int32) (12 : Int32) r1 k2) dX10_isRung_4 (by decide) ⟨Nat.zero_le _, Nat.zero_le _⟩ rfl rfl (Nat.le_of_ble_eq_true rfl) ?_
  obtain ⟨hg, h⟩ := tgd_e h
  cases h
  exact go_zret C dX10_isRung_7 hg rfl rfl

set_option maxRecDepth 100000 in
set_option maxHeartbeats 4000000 in
theorem m10_isMan_k (l : Launch) (G : gG) (a0 : Int32) (R0 : Int32) (h : m10_isMan a0 = some R0) : KK l G yX10_isMan cX10_isMan 1 (some .boolean) 1 22 [.int a0] (([] : va_W)) (some (.int R0)) (([] : va_W)) := by
  refine KK_intro (own := RX10) (by decide +kernel) rfl (Nat.le_of_ble_eq_true rfl) rfl ?_
  intro p e s m args below meth c A C
  unfold m10_isMan at h
  refine go_iload_n C dX10_isMan_0 0 rfl ?_
  refine go_iconst (v := 0) C dX10_isMan_1 rfl ?_
  refine go_iconst (v := 5) C dX10_isMan_2 rfl ?_
  obtain ⟨r1, k2, h⟩ := tbd_e h
  refine go_callS0 C cfX10_48 (wr8 _ (List.mem_of_getElem? (i := 3) rfl)) (m10_in_k l G a0 (0 : Int32) (5 : Int32) r1 k2) dX10_isMan_3 (by decide) ⟨Nat.zero_le _, Nat.zero_le _⟩ rfl rfl (Nat.le_of_ble_eq_true rfl) ?_
  obtain ⟨hg, h⟩ := tgd_e h
  cases h
  exact go_zret C dX10_isMan_6 hg rfl rfl

set_option maxRecDepth 100000 in
set_option maxHeartbeats 4000000 in
theorem m10_asNow_L2_k {p : Program} {l : Launch} {e : Env} {s : State} {m : MethodId} {args : Array Value} {below : List Frame} {meth : Method} {c : Code} {G : gG} {A : Nat → Prop} (C : Cx p e s m args meth c G RX10 cX10_asNow 2 none A) (T0 T1 T2 T3 T4 T5 T6 T7 T8 T9 T10 T11 T12 : Nat)  (R0 : SX10)  : ∀ (n : Nat) (x1 : Int32) (T : SX10), tit (m10_asNow_L2) n (x1, T) = some R0 → Gq p l e (rq 0 0) s m args below meth c G A 2 0 0 (MQ below (QK G none (u10 G T0 T1 T2 T3 T4 T5 T6 T7 T8 T9 T10 T11 T12 R0) A) args s 0 0 A) 2 [(0, .ref T0), (1, .int x1)] [] (u10 G T0 T1 T2 T3 T4 T5 T6 T7 T8 T9 T10 T11 T12 T) := by
  intro n
  induction n with
  | zero => exact fun _ _ h => (tit_z h).elim
  | succ n ih =>
    intro x1 T h
    replace h : m10_asNow_B2 (tit (m10_asNow_L2) n) x1 T = some R0 := h
    unfold m10_asNow_B2 at h
    refine go_iload_n C dX10_asNow_2 1 rfl ?_
    refine go_bipush (v := 47) C dX10_asNow_3 rfl ?_
    refine go_icmp_ge (tgt := 26) C h dX10_asNow_5 rfl (fun h => ?_) (fun h => ?_)
    · refine go_aload_n C dX10_asNow_26 0 rfl ?_
      refine go_iconst (v := 0) C dX10_asNow_27 rfl ?_
      refine go_puti (w' := u10 G T0 T1 T2 T3 T4 T5 T6 T7 T8 T9 T10 T11 T12 (s10_steps T (0 : Int32))) C fpX10_52 dX10_asNow_28 0 rfl (Nat.le_of_ble_eq_true rfl) z10_steps ?_
      refine go_aload_n C dX10_asNow_31 0 rfl ?_
      refine go_iconst (v := 0) C dX10_asNow_32 rfl ?_
      refine go_puti (w' := u10 G T0 T1 T2 T3 T4 T5 T6 T7 T8 T9 T10 T11 T12 (s10_paid (s10_steps T (0 : Int32)) (0 : Int32))) C fpX10_56 dX10_asNow_33 0 rfl (Nat.le_of_ble_eq_true rfl) z10_paid ?_
      refine go_aload_n C dX10_asNow_36 0 rfl ?_
      refine go_bipush (v := -6) C dX10_asNow_37 rfl ?_
      refine go_puti (w' := u10 G T0 T1 T2 T3 T4 T5 T6 T7 T8 T9 T10 T11 T12 (s10_roofAt (s10_paid (s10_steps T (0 : Int32)) (0 : Int32)) (-6 : Int32))) C fpX10_59 dX10_asNow_39 0 rfl (Nat.le_of_ble_eq_true rfl) z10_roofAt ?_
      refine go_aload_n C dX10_asNow_42 0 rfl ?_
      refine go_bipush (v := -6) C dX10_asNow_43 rfl ?_
      refine go_puti (w' := u10 G T0 T1 T2 T3 T4 T5 T6 T7 T8 T9 T10 T11 T12 (s10_roofWho (s10_roofAt (s10_paid (s10_steps T (0 : Int32)) (0 : Int32)) (-6 : Int32)) (-6 : Int32))) C fpX10_62 dX10_asNow_45 0 rfl (Nat.le_of_ble_eq_true rfl) z10_roofWho ?_
      cases h
      exact go_vret C dX10_asNow_48 rfl rfl
    · refine go_aload_n C dX10_asNow_8 0 rfl ?_
      refine go_get (v := .ref T2) C ffX10_13 dX10_asNow_9 0 rfl rfl ?_
      refine go_iload_n C dX10_asNow_12 1 rfl ?_
      refine go_aload_n C dX10_asNow_13 0 rfl ?_
      refine go_get (v := .ref T1) C ffX10_7 dX10_asNow_14 0 rfl rfl ?_
      refine go_iload_n C dX10_asNow_17 1 rfl ?_
      refine go_ialoadG (f := (g10_book T)) C h dX10_asNow_18 1 rfl (fun h => ?_)
      refine go_iastoreG (f := (g10_now T)) (w' := u10 G T0 T1 T2 T3 T4 T5 T6 T7 T8 T9 T10 T11 T12 (s10_now T (upd (g10_now T) (Int32.toNatClampNeg x1) ((g10_book T) (Int32.toNatClampNeg x1))))) C h dX10_asNow_19 2 rfl z10_now (fun h => ?_)
      refine go_iincN (lf := fun v1 => [(1, .int v1), (0, .ref T0)]) C h dX10_asNow_20 1 rfl rfl (by decide) (fun _ => rfl) (fun v1 h => ?_)
      refine go_goto (tgt := 2) C dX10_asNow_23 rfl ?_
      exact go_lv [1, 0] rfl (ih v1 (s10_now T (upd (g10_now T) (Int32.toNatClampNeg x1) ((g10_book T) (Int32.toNatClampNeg x1)))) h)

