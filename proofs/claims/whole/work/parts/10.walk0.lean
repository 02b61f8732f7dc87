set_option maxRecDepth 100000 in
set_option maxHeartbeats 4000000 in
theorem m0_become_k (l : Launch) (G : gG) (T0 : Nat) (T : SX0) (a1 : Int32) (a2 : Int32) (a3 : Int32) (R0 : SX0) (h : m0_become T a1 a2 a3 = some R0) : KK l G yX0_become cX0_become 4 none 0 0 [.ref T0, .int a1, .int a2, .int a3] (u0 G T0 T) none (u0 G T0 R0) := by
  refine KK_intro (own := RX0) (by decide +kernel) rfl (Nat.le_of_ble_eq_true rfl) rfl ?_
  intro p e s m args below meth c A C
  unfold m0_become at h
  refine go_aload_n C dX0_become_0 0 rfl ?_
  refine go_iload_n C dX0_become_1 1 rfl ?_
  refine go_puti (w' := u0 G T0 (s0_kind T a1)) C fpX0_11 dX0_become_2 0 rfl (Nat.le_of_ble_eq_true rfl) z0_kind ?_
  refine go_aload_n C dX0_become_5 0 rfl ?_
  refine go_iload_n C dX0_become_6 2 rfl ?_
  refine go_puti (w' := u0 G T0 (s0_man (s0_kind T a1) a2)) C fpX0_15 dX0_become_7 0 rfl (Nat.le_of_ble_eq_true rfl) z0_man ?_
  refine go_aload_n C dX0_become_10 0 rfl ?_
  refine go_iload_n C dX0_become_11 3 rfl ?_
  refine go_puti (w' := u0 G T0 (s0_place (s0_man (s0_kind T a1) a2) a3)) C fpX0_18 dX0_become_12 0 rfl (Nat.le_of_ble_eq_true rfl) z0_place ?_
  cases h
  exact go_vret C dX0_become_15 rfl rfl

set_option maxRecDepth 100000 in
set_option maxHeartbeats 4000000 in
theorem m0_kindOf_k (l : Launch) (G : gG) (T0 : Nat) (T : SX0) (R0 : Int32) (h : m0_kindOf T = some R0) : KK l G yX0_kindOf cX0_kindOf 1 (some .int) 0 0 [.ref T0] (u0 G T0 T) (some (.int R0)) (u0 G T0 T) := by
  refine KK_intro (own := RX0) (by decide +kernel) rfl (Nat.le_of_ble_eq_true rfl) rfl ?_
  intro p e s m args below meth c A C
  unfold m0_kindOf at h
  refine go_aload_n C dX0_kindOf_0 0 rfl ?_
  refine go_get (v := .int (g0_kind T)) C ffX0_11 dX0_kindOf_1 0 rfl rfl ?_
  cases h
  exact go_iret C dX0_kindOf_4 rfl rfl

set_option maxRecDepth 100000 in
set_option maxHeartbeats 4000000 in
theorem m0_doer_k (l : Launch) (G : gG) (T0 : Nat) (T : SX0) (R0 : Int32) (h : m0_doer T = some R0) : KK l G yX0_doer cX0_doer 1 (some .int) 0 0 [.ref T0] (u0 G T0 T) (some (.int R0)) (u0 G T0 T) := by
  refine KK_intro (own := RX0) (by decide +kernel) rfl (Nat.le_of_ble_eq_true rfl) rfl ?_
  intro p e s m args below meth c A C
  unfold m0_doer at h
  refine go_aload_n C dX0_doer_0 0 rfl ?_
  refine go_get (v := .int (g0_man T)) C ffX0_15 dX0_doer_1 0 rfl rfl ?_
  cases h
  exact go_iret C dX0_doer_4 rfl rfl

set_option maxRecDepth 100000 in
set_option maxHeartbeats 4000000 in
theorem m0_target_k (l : Launch) (G : gG) (T0 : Nat) (T : SX0) (R0 : Int32) (h : m0_target T = some R0) : KK l G yX0_target cX0_target 1 (some .int) 0 0 [.ref T0] (u0 G T0 T) (some (.int R0)) (u0 G T0 T) := by
  refine KK_intro (own := RX0) (by decide +kernel) rfl (Nat.le_of_ble_eq_true rfl) rfl ?_
  intro p e s m args below meth c A C
  unfold m0_target at h
  refine go_aload_n C dX0_target_0 0 rfl ?_
  refine go_get (v := .int (g0_place T)) C ffX0_18 dX0_target_1 0 rfl rfl ?_
  cases h
  exact go_iret C dX0_target_4 rfl rfl

set_option maxRecDepth 100000 in
set_option maxHeartbeats 4000000 in
theorem m9_isMan_k (l : Launch) (G : gG) (a0 : Int32) (R0 : Int32) (h : m9_isMan a0 = some R0) : KK l G yX9_isMan cX9_isMan 1 (some .boolean) 0 0 [.int a0] (([] : va_W)) (some (.int R0)) (([] : va_W)) := by
  refine KK_intro (own := RX9) (by decide +kernel) rfl (Nat.le_of_ble_eq_true rfl) rfl ?_
  intro p e s m args below meth c A C
  unfold m9_isMan at h
  refine go_iload_n C dX9_isMan_0 0 rfl ?_
  refine go_if_lt (tgt := 14) C h dX9_isMan_1 rfl (fun h => ?_) (fun h => ?_)
  · refine go_iconst (v := 0) C dX9_isMan_14 rfl ?_
    cases h
    exact go_zret C dX9_isMan_15 (by decide) rfl rfl
  · refine go_iload_n C dX9_isMan_4 0 rfl ?_
    refine go_bipush (v := 6) C dX9_isMan_5 rfl ?_
    refine go_icmp_ge (tgt := 14) C h dX9_isMan_7 rfl (fun h => ?_) (fun h => ?_)
    · refine go_iconst (v := 0) C dX9_isMan_14 rfl ?_
      cases h
      exact go_zret C dX9_isMan_15 (by decide) rfl rfl
    · refine go_iconst (v := 1) C dX9_isMan_10 rfl ?_
      refine go_goto (tgt := 15) C dX9_isMan_11 rfl ?_
      cases h
      exact go_zret C dX9_isMan_15 (by decide) rfl rfl

set_option maxRecDepth 100000 in
set_option maxHeartbeats 4000000 in
theorem m1_strideOf_k (l : Launch) (G : gG) (T0 T1 T2 T3 T4 T5 : Nat) (T : SX1) (a1 : Int32) (R0 : Int32) (h : m1_strideOf T a1 = some R0) : KK l G yX1_strideOf cX1_strideOf 2 (some .int) 1 20 [.ref T0, .int a1] (u1 G T0 T1 T2 T3 T4 T5 T) (some (.int R0)) (u1 G T0 T1 T2 T3 T4 T5 T) := by
  refine KK_intro (own := RX1) (by decide +kernel) rfl (Nat.le_of_ble_eq_true rfl) rfl ?_
  intro p e s m args below meth c A C
  unfold m1_strideOf at h
  refine go_iload_n C dX1_strideOf_0 1 rfl ?_
  obtain ⟨r1, k2, h⟩ := tbd_e h
  refine go_callSN0 C cfX1_66 (wr6 _ (List.mem_of_getElem? (i := 22) rfl)) (m9_isMan_k l G a1 r1 k2) dX1_strideOf_1 (by decide) ⟨Nat.zero_le _, Nat.zero_le _⟩ rfl rfl (Nat.le_of_ble_eq_true rfl) ?_
  refine go_if_eq (tgt := 16) C h dX1_strideOf_4 rfl (fun h => ?_) (fun h => ?_)
  · refine go_iconst (v := 1) C dX1_strideOf_16 rfl ?_
    cases h
    exact go_iret C dX1_strideOf_17 rfl rfl
  · refine go_aload_n C dX1_strideOf_7 0 rfl ?_
    refine go_get (v := .ref T3) C ffX1_22 dX1_strideOf_8 0 rfl rfl ?_
    refine go_iload_n C dX1_strideOf_11 1 rfl ?_
    refine go_ialoadG (f := (g1_stride T)) C h dX1_strideOf_12 3 rfl (fun h => ?_)
    refine go_goto (tgt := 17) C dX1_strideOf_13 rfl ?_
    cases h
    exact go_iret C dX1_strideOf_17 rfl rfl

set_option maxRecDepth 100000 in
set_option maxHeartbeats 4000000 in
theorem m1_placeOf_k (l : Launch) (G : gG) (T0 T1 T2 T3 T4 T5 : Nat) (T : SX1) (a1 : Int32) (R0 : Int32) (h : m1_placeOf T a1 = some R0) : KK l G yX1_placeOf cX1_placeOf 2 (some .int) 1 20 [.ref T0, .int a1] (u1 G T0 T1 T2 T3 T4 T5 T) (some (.int R0)) (u1 G T0 T1 T2 T3 T4 T5 T) := by
  refine KK_intro (own := RX1) (by decide +kernel) rfl (Nat.le_of_ble_eq_true rfl) rfl ?_
  intro p e s m args below meth c A C
  unfold m1_placeOf at h
  refine go_iload_n C dX1_placeOf_0 1 rfl ?_
  obtain ⟨r1, k2, h⟩ := tbd_e h
  refine go_callSN0 C cfX1_66 (wr6 _ (List.mem_of_getElem? (i := 22) rfl)) (m9_isMan_k l G a1 r1 k2) dX1_placeOf_1 (by decide) ⟨Nat.zero_le _, Nat.zero_le _⟩ rfl rfl (Nat.le_of_ble_eq_true rfl) ?_
  refine go_if_eq (tgt := 16) C h dX1_placeOf_4 rfl (fun h => ?_) (fun h => ?_)
  · refine go_iconst (v := 0) C dX1_placeOf_16 rfl ?_
    cases h
    exact go_iret C dX1_placeOf_17 rfl rfl
  · refine go_aload_n C dX1_placeOf_7 0 rfl ?_
    refine go_get (v := .ref T5) C ffX1_28 dX1_placeOf_8 0 rfl rfl ?_
    refine go_iload_n C dX1_placeOf_11 1 rfl ?_
    refine go_ialoadG (f := (g1_place T)) C h dX1_placeOf_12 5 rfl (fun h => ?_)
    refine go_goto (tgt := 17) C dX1_placeOf_13 rfl ?_
    cases h
    exact go_iret C dX1_placeOf_17 rfl rfl

set_option maxRecDepth 100000 in
set_option maxHeartbeats 4000000 in
theorem m0_drawnPlace_J19_k {p : Program} {l : Launch} {e : Env} {s : State} {m : MethodId} {args : Array Value} {below : List Frame} {meth : Method} {c : Code} {G : gG} {A : Nat → Prop} (C : Cx p e s m args meth c G RX0 cX0_drawnPlace 5 (some .int) A) (Oc0 Oc1 Oc2 Oc3 Oc4 Oc5 : Nat) (Oc : SX1) (x0 : Int32) (x1 : Int32) (y0 : Int32) (R0 : Int32)  (h : m0_drawnPlace_J19 Oc x0 x1 y0 = some R0) : Gq p l e (rq 2 41) s m args below meth c G A 5 0 0 (MQ below (QK G (some (.int R0)) (u1 G Oc0 Oc1 Oc2 Oc3 Oc4 Oc5 Oc) A) args s 0 0 A) 19 [(0, .int x0), (1, .int x1), (2, .ref Oc0)] [.int y0] (u1 G Oc0 Oc1 Oc2 Oc3 Oc4 Oc5 Oc) := by
  unfold m0_drawnPlace_J19 at h
  refine go_istore (lv' := [(4, .int y0), (0, .int x0), (1, .int x1), (2, .ref Oc0)]) C dX0_drawnPlace_19 (by decide) rfl ?_
  refine go_iload_n C dX0_drawnPlace_21 1 rfl ?_
  refine go_iconst (v := 4) C dX0_drawnPlace_22 rfl ?_
  refine go_idiv C dX0_drawnPlace_23 (by decide) ?_
  refine go_iconst (v := 4) C dX0_drawnPlace_24 rfl ?_
  refine go_irem C dX0_drawnPlace_25 (by decide) ?_
  refine go_if_eq (tgt := 43) C h dX0_drawnPlace_26 rfl (fun h => ?_) (fun h => ?_)
  · refine go_aload_n C dX0_drawnPlace_43 3 rfl ?_
    refine go_iload_n C dX0_drawnPlace_44 2 rfl ?_
    obtain ⟨r3, k4, h⟩ := tbd_e h
    refine go_callV (q0 := 0) (wr := ([] : va_W)) (w' := u1 G Oc0 Oc1 Oc2 Oc3 Oc4 Oc5 Oc) C cfX0_35 viX1_placeOf (m1_placeOf_k l G Oc0 Oc1 Oc2 Oc3 Oc4 Oc5 Oc x1 r3 k4) dX0_drawnPlace_45 (by decide) ⟨Nat.zero_le _, Nat.zero_le _⟩ rfl rfl (Nat.le_of_ble_eq_true rfl) rfl [0, 1, 2, 3, 4, 5] [] [0, 1, 2, 3, 4, 5] rfl rfl (by decide) rfl ?_
    refine go_iload C dX0_drawnPlace_48 0 rfl ?_
    refine go_isub C dX0_drawnPlace_50 ?_
    refine go_iconst (v := 0) C dX0_drawnPlace_51 rfl ?_
    refine go_mmax C cmX0_44 dX0_drawnPlace_52 (by decide) (Nat.le_of_ble_eq_true rfl) (Nat.zero_le _) (Nat.zero_le _) ?_
    cases h
    exact go_iret C dX0_drawnPlace_55 rfl rfl
  · refine go_aload_n C dX0_drawnPlace_29 3 rfl ?_
    refine go_iload_n C dX0_drawnPlace_30 2 rfl ?_
    obtain ⟨r5, k6, h⟩ := tbd_e h
    refine go_callV (q0 := 0) (wr := ([] : va_W)) (w' := u1 G Oc0 Oc1 Oc2 Oc3 Oc4 Oc5 Oc) C cfX0_35 viX1_placeOf (m1_placeOf_k l G Oc0 Oc1 Oc2 Oc3 Oc4 Oc5 Oc x1 r5 k6) dX0_drawnPlace_31 (by decide) ⟨Nat.zero_le _, Nat.zero_le _⟩ rfl rfl (Nat.le_of_ble_eq_true rfl) rfl [0, 1, 2, 3, 4, 5] [] [0, 1, 2, 3, 4, 5] rfl rfl (by decide) rfl ?_
    refine go_iload C dX0_drawnPlace_34 0 rfl ?_
    refine go_iadd C dX0_drawnPlace_36 ?_
    refine go_bipush (v := 13) C dX0_drawnPlace_37 rfl ?_
    refine go_mmin C cmX0_38 dX0_drawnPlace_39 (by decide) (Nat.le_of_ble_eq_true rfl) (Nat.zero_le _) (Nat.zero_le _) ?_
    cases h
    exact go_iret C dX0_drawnPlace_42 rfl rfl

set_option maxRecDepth 100000 in
set_option maxHeartbeats 4000000 in
theorem m0_drawnPlace_k (l : Launch) (G : gG) (Oc0 Oc1 Oc2 Oc3 Oc4 Oc5 : Nat) (Oc : SX1) (a0 : Int32) (a1 : Int32) (R0 : Int32) (h : m0_drawnPlace Oc a0 a1 = some R0) : KK l G yX0_drawnPlace cX0_drawnPlace 5 (some .int) 2 41 [.int a0, .int a1, .ref Oc0] (u1 G Oc0 Oc1 Oc2 Oc3 Oc4 Oc5 Oc) (some (.int R0)) (u1 G Oc0 Oc1 Oc2 Oc3 Oc4 Oc5 Oc) := by
  refine KK_intro (own := RX0) (by decide +kernel) rfl (Nat.le_of_ble_eq_true rfl) rfl ?_
  intro p e s m args below meth c A C
  unfold m0_drawnPlace at h
  refine go_aload_n C dX0_drawnPlace_0 2 rfl ?_
  refine go_iload_n C dX0_drawnPlace_1 1 rfl ?_
  obtain ⟨r1, k2, h⟩ := tbd_e h
  refine go_callV (q0 := 0) (wr := ([] : va_W)) (w' := u1 G Oc0 Oc1 Oc2 Oc3 Oc4 Oc5 Oc) C cfX0_29 viX1_strideOf (m1_strideOf_k l G Oc0 Oc1 Oc2 Oc3 Oc4 Oc5 Oc a1 r1 k2) dX0_drawnPlace_2 (by decide) ⟨Nat.zero_le _, Nat.zero_le _⟩ rfl rfl (Nat.le_of_ble_eq_true rfl) rfl [0, 1, 2, 3, 4, 5] [] [0, 1, 2, 3, 4, 5] rfl rfl (by decide) rfl ?_
  refine go_istore_n (lv' := [(3, .int r1), (0, .int a0), (1, .int a1), (2, .ref Oc0)]) C dX0_drawnPlace_5 (by decide) rfl ?_
  refine go_iload_n C dX0_drawnPlace_6 0 rfl ?_
  refine go_if_le (tgt := 18) C h dX0_drawnPlace_7 rfl (fun h => ?_) (fun h => ?_)
  · refine go_iconst (v := 1) C dX0_drawnPlace_18 rfl ?_
    exact go_lv [1, 2, 3] rfl (m0_drawnPlace_J19_k C Oc0 Oc1 Oc2 Oc3 Oc4 Oc5 Oc a0 a1 (1 : Int32) R0  h)
  · refine go_iconst (v := 1) C dX0_drawnPlace_10 rfl ?_
    refine go_iload_n C dX0_drawnPlace_11 1 rfl ?_
    refine go_iload_n C dX0_drawnPlace_12 0 rfl ?_
    refine go_iremG C h dX0_drawnPlace_13 (fun h => ?_)
    refine go_iadd C dX0_drawnPlace_14 ?_
    refine go_goto (tgt := 19) C dX0_drawnPlace_15 rfl ?_
    exact go_lv [1, 2, 3] rfl (m0_drawnPlace_J19_k C Oc0 Oc1 Oc2 Oc3 Oc4 Oc5 Oc a0 a1 ((1 : Int32) + (irem a0 r1)) R0  h)

set_option maxRecDepth 100000 in
set_option maxHeartbeats 4000000 in
theorem m0_draw_J64_k {p : Program} {l : Launch} {e : Env} {s : State} {m : MethodId} {args : Array Value} {below : List Frame} {meth : Method} {c : Code} {G : gG} {A : Nat → Prop} (C : Cx p e s m args meth c G RX0 cX0_draw 6 none A) (T0 Oc0 Oc1 Oc2 Oc3 Oc4 Oc5 : Nat) (T : SX0) (Oc : SX1) (x3 : Int32) (x4 : Int32) (R0 : SX0)  (h : m0_draw_J64 T Oc x3 x4 = some R0) : Gq p l e (rq 3 65) s m args below meth c G A 6 0 0 (MQ below (QK G none (u0 G T0 R0 ++ (u1 G Oc0 Oc1 Oc2 Oc3 Oc4 Oc5 Oc)) A) args s 0 0 A) 64 [(0, .ref T0), (2, .ref Oc0), (3, .int x3), (4, .int x4)] [] (u0 G T0 T ++ (u1 G Oc0 Oc1 Oc2 Oc3 Oc4 Oc5 Oc)) := by
  unfold m0_draw_J64 at h
  refine go_aload_n C dX0_draw_64 0 rfl ?_
  refine go_iconst (v := 0) C dX0_draw_65 rfl ?_
  refine go_iload_n C dX0_draw_66 2 rfl ?_
  refine go_iload C dX0_draw_67 3 rfl ?_
  refine go_iload_n C dX0_draw_69 2 rfl ?_
  refine go_aload_n C dX0_draw_70 1 rfl ?_
  obtain ⟨r4, k5, h⟩ := tbd_e h
  refine go_callS (wr := u0 G T0 T) (w' := u0 G T0 T ++ (u1 G Oc0 Oc1 Oc2 Oc3 Oc4 Oc5 Oc)) C cfX0_21 (wr34 _ (List.mem_of_getElem? (i := 15) rfl)) (m0_drawnPlace_k l G Oc0 Oc1 Oc2 Oc3 Oc4 Oc5 Oc x4 x3 r4 k5) dX0_draw_71 (by decide) ⟨Nat.zero_le _, Nat.zero_le _⟩ rfl rfl (Nat.le_of_ble_eq_true rfl) [1, 2, 3, 4, 5, 6] [0] [0, 1, 2, 3, 4, 5, 6] rfl rfl (by decide) rfl ?_
  obtain ⟨r6, k7, h⟩ := tbd_e h
  refine go_callV (q0 := 0) (wr := u1 G Oc0 Oc1 Oc2 Oc3 Oc4 Oc5 Oc) (w' := u0 G T0 r6 ++ (u1 G Oc0 Oc1 Oc2 Oc3 Oc4 Oc5 Oc)) C cfX0_25 viX0_become (m0_become_k l G T0 T (0 : Int32) x3 r4 r6 k7) dX0_draw_74 (by decide) ⟨Nat.zero_le _, Nat.zero_le _⟩ rfl rfl (Nat.le_of_ble_eq_true rfl) rfl [0] [1, 2, 3, 4, 5, 6] [6, 0, 1, 2, 3, 4, 5] rfl rfl (by decide) rfl ?_
  refine go_goto (tgt := 123) C dX0_draw_77 rfl ?_
  cases h
  exact go_vret C dX0_draw_123 rfl rfl

set_option maxRecDepth 100000 in
set_option maxHeartbeats 4000000 in
theorem m0_draw_J107_k {p : Program} {l : Launch} {e : Env} {s : State} {m : MethodId} {args : Array Value} {below : List Frame} {meth : Method} {c : Code} {G : gG} {A : Nat → Prop} (C : Cx p e s m args meth c G RX0 cX0_draw 6 none A) (T0 Oc0 Oc1 Oc2 Oc3 Oc4 Oc5 : Nat) (T : SX0) (Oc : SX1) (x3 : Int32) (x5 : Int32) (y1 : Int32) (R0 : SX0)  (h : m0_draw_J107 T Oc x3 x5 y1 = some R0) : Gq p l e (rq 3 65) s m args below meth c G A 6 0 0 (MQ below (QK G none (u0 G T0 R0 ++ (u1 G Oc0 Oc1 Oc2 Oc3 Oc4 Oc5 Oc)) A) args s 0 0 A) 107 [(3, .int x3), (5, .int x5)] [.int y1, .ref T0] (u0 G T0 T ++ (u1 G Oc0 Oc1 Oc2 Oc3 Oc4 Oc5 Oc)) := by
  unfold m0_draw_J107 at h
  refine go_iload_n C dX0_draw_107 0 rfl ?_
  refine go_iload C dX0_draw_108 1 rfl ?_
  obtain ⟨r10, k11, h⟩ := tbd_e h
  refine go_callV (q0 := 0) (wr := u1 G Oc0 Oc1 Oc2 Oc3 Oc4 Oc5 Oc) (w' := u0 G T0 r10 ++ (u1 G Oc0 Oc1 Oc2 Oc3 Oc4 Oc5 Oc)) C cfX0_25 viX0_become (m0_become_k l G T0 T y1 x3 x5 r10 k11) dX0_draw_110 (by decide) ⟨Nat.zero_le _, Nat.zero_le _⟩ rfl rfl (Nat.le_of_ble_eq_true rfl) rfl [0] [1, 2, 3, 4, 5, 6] [6, 0, 1, 2, 3, 4, 5] rfl rfl (by decide) rfl ?_
  refine go_goto (tgt := 123) C dX0_draw_113 rfl ?_
  cases h
  exact go_vret C dX0_draw_123 rfl rfl

set_option maxRecDepth 100000 in
set_option maxHeartbeats 4000000 in
theorem m0_draw_k (l : Launch) (G : gG) (T0 Oc0 Oc1 Oc2 Oc3 Oc4 Oc5 : Nat) (T : SX0) (Oc : SX1) (a1 : Int32) (R0 : SX0) (h : m0_draw T Oc a1 = some R0) : KK l G yX0_draw cX0_draw 6 none 3 65 [.ref T0, .int a1, .ref Oc0] (u0 G T0 T ++ (u1 G Oc0 Oc1 Oc2 Oc3 Oc4 Oc5 Oc)) none (u0 G T0 R0 ++ (u1 G Oc0 Oc1 Oc2 Oc3 Oc4 Oc5 Oc)) := by
  refine KK_intro (own := RX0) (by decide +kernel) rfl (Nat.le_of_ble_eq_true rfl) rfl ?_
  intro p e s m args below meth c A C
  unfold m0_draw at h
  refine go_iload_n C dX0_draw_0 1 rfl ?_
  refine go_bipush (v := 6) C dX0_draw_1 rfl ?_
  refine go_irem C dX0_draw_3 (by decide) ?_
  refine go_istore_nN (lf := fun v1 => [(3, .int v1), (0, .ref T0), (1, .int a1), (2, .ref Oc0)]) C h dX0_draw_4 (by decide) (fun _ => rfl) (fun v1 h => ?_)
  refine go_iload_n C dX0_draw_5 2 rfl ?_
  refine go_bipush (v := 48) C dX0_draw_6 rfl ?_
  refine go_idiv C dX0_draw_8 (by decide) ?_
  refine go_istoreN (lf := fun v2 => [(4, .int v2), (3, .int v1), (0, .ref T0), (1, .int a1), (2, .ref Oc0)]) C h dX0_draw_9 (by decide) (fun _ => rfl) (fun v2 h => ?_)
  refine go_iconst (v := 1) C dX0_draw_11 rfl ?_
  refine go_iload C dX0_draw_12 0 rfl ?_
  refine go_bipush (v := 12) C dX0_draw_14 rfl ?_
  refine go_irem C dX0_draw_16 (by decide) ?_
  refine go_iadd C dX0_draw_17 ?_
  refine go_istoreN (lf := fun v3 => [(5, .int v3), (4, .int v2), (3, .int v1), (0, .ref T0), (1, .int a1), (2, .ref Oc0)]) C h dX0_draw_18 (by decide) (fun _ => rfl) (fun v3 h => ?_)
  refine go_iload_n C dX0_draw_20 4 rfl ?_
  refine go_bipush (v := 6) C dX0_draw_21 rfl ?_
  refine go_idiv C dX0_draw_23 (by decide) ?_
  refine go_bipush (v := 8) C dX0_draw_24 rfl ?_
  refine go_irem C dX0_draw_26 (by decide) ?_
  refine go_ite h (fun q h => ?_) (fun q0 h => ?_)
  · refine go_tabIn (off := 37) (tgt := 64) C dX0_draw_27 q (by decide) (by decide) rfl ?_
    exact go_lv [3, 5, 2, 1] rfl (m0_draw_J64_k C T0 Oc0 Oc1 Oc2 Oc3 Oc4 Oc5 T Oc v1 v2 R0  h)
  refine go_ite h (fun q h => ?_) (fun q1 h => ?_)
  · refine go_tabIn (off := 37) (tgt := 64) C dX0_draw_27 q (by decide) (by decide) rfl ?_
    exact go_lv [3, 5, 2, 1] rfl (m0_draw_J64_k C T0 Oc0 Oc1 Oc2 Oc3 Oc4 Oc5 T Oc v1 v2 R0  h)
  refine go_ite h (fun q h => ?_) (fun q2 h => ?_)
  · refine go_tabIn (off := 37) (tgt := 64) C dX0_draw_27 q (by decide) (by decide) rfl ?_
    exact go_lv [3, 5, 2, 1] rfl (m0_draw_J64_k C T0 Oc0 Oc1 Oc2 Oc3 Oc4 Oc5 T Oc v1 v2 R0  h)
  refine go_ite h (fun q h => ?_) (fun q3 h => ?_)
  · refine go_tabIn (off := 37) (tgt := 64) C dX0_draw_27 q (by decide) (by decide) rfl ?_
    exact go_lv [3, 5, 2, 1] rfl (m0_draw_J64_k C T0 Oc0 Oc1 Oc2 Oc3 Oc4 Oc5 T Oc v1 v2 R0  h)
  refine go_ite h (fun q h => ?_) (fun q4 h => ?_)
  · refine go_tabIn (off := 53) (tgt := 80) C dX0_draw_27 q (by decide) (by decide) rfl ?_
    refine go_aload_n C dX0_draw_80 3 rfl ?_
    refine go_iconst (v := 1) C dX0_draw_81 rfl ?_
    refine go_iload_n C dX0_draw_82 2 rfl ?_
    refine go_iload C dX0_draw_83 0 rfl ?_
    obtain ⟨r8, k9, h⟩ := tbd_e h
    refine go_callV (q0 := 0) (wr := u1 G Oc0 Oc1 Oc2 Oc3 Oc4 Oc5 Oc) (w' := u0 G T0 r8 ++ (u1 G Oc0 Oc1 Oc2 Oc3 Oc4 Oc5 Oc)) C cfX0_25 viX0_become (m0_become_k l G T0 T (1 : Int32) v1 v3 r8 k9) dX0_draw_85 (by decide) ⟨Nat.zero_le _, Nat.zero_le _⟩ rfl rfl (Nat.le_of_ble_eq_true rfl) rfl [0] [1, 2, 3, 4, 5, 6] [6, 0, 1, 2, 3, 4, 5] rfl rfl (by decide) rfl ?_
    refine go_goto (tgt := 123) C dX0_draw_88 rfl ?_
    cases h
    exact go_vret C dX0_draw_123 rfl rfl
  refine go_ite h (fun q h => ?_) (fun q5 h => ?_)
  · refine go_tabIn (off := 64) (tgt := 91) C dX0_draw_27 q (by decide) (by decide) rfl ?_
    refine go_aload_n C dX0_draw_91 3 rfl ?_
    refine go_iload C dX0_draw_92 1 rfl ?_
    refine go_bipush (v := 12) C dX0_draw_94 rfl ?_
    refine go_idiv C dX0_draw_96 (by decide) ?_
    refine go_iconst (v := 2) C dX0_draw_97 rfl ?_
    refine go_irem C dX0_draw_98 (by decide) ?_
    refine go_if_ne (tgt := 106) C h dX0_draw_99 rfl (fun h => ?_) (fun h => ?_)
    · refine go_iconst (v := 3) C dX0_draw_106 rfl ?_
      exact go_lv [2, 0] rfl (m0_draw_J107_k C T0 Oc0 Oc1 Oc2 Oc3 Oc4 Oc5 T Oc v1 v3 (3 : Int32) R0  h)
    · refine go_iconst (v := 2) C dX0_draw_102 rfl ?_
      refine go_goto (tgt := 107) C dX0_draw_103 rfl ?_
      exact go_lv [2, 0] rfl (m0_draw_J107_k C T0 Oc0 Oc1 Oc2 Oc3 Oc4 Oc5 T Oc v1 v3 (2 : Int32) R0  h)
  refine go_tabOut (tgt := 116) C dX0_draw_27 (by have a0 := lv_neT (a := 0) q0 rfl; have a1 := lv_neT (a := 1) q1 rfl; have a2 := lv_neT (a := 2) q2 rfl; have a3 := lv_neT (a := 3) q3 rfl; have a4 := lv_neT (a := 4) q4 rfl; have a5 := lv_neT (a := 5) q5 rfl; omega) rfl ?_
  refine go_aload_n C dX0_draw_116 3 rfl ?_
  refine go_iconst (v := 4) C dX0_draw_117 rfl ?_
  refine go_iload_n C dX0_draw_118 2 rfl ?_
  refine go_iconst (v := 0) C dX0_draw_119 rfl ?_
  obtain ⟨r12, k13, h⟩ := tbd_e h
  refine go_callV (q0 := 0) (wr := u1 G Oc0 Oc1 Oc2 Oc3 Oc4 Oc5 Oc) (w' := u0 G T0 r12 ++ (u1 G Oc0 Oc1 Oc2 Oc3 Oc4 Oc5 Oc)) C cfX0_25 viX0_become (m0_become_k l G T0 T (4 : Int32) v1 (0 : Int32) r12 k13) dX0_draw_120 (by decide) ⟨Nat.zero_le _, Nat.zero_le _⟩ rfl rfl (Nat.le_of_ble_eq_true rfl) rfl [0] [1, 2, 3, 4, 5, 6] [6, 0, 1, 2, 3, 4, 5] rfl rfl (by decide) rfl ?_
  cases h
  exact go_vret C dX0_draw_123 rfl rfl

set_option maxRecDepth 100000 in
set_option maxHeartbeats 4000000 in
theorem m1_copyFrom_k (l : Launch) (G : gG) (T0 T1 T2 T3 T4 T5 Ob0 Ob1 Ob2 Ob3 Ob4 Ob5 : Nat) (T : SX1) (Ob : SX1) (R0 : SX1) (h : m1_copyFrom T Ob = some R0) : KK l G yX1_copyFrom cX1_copyFrom 2 none 1 60 [.ref T0, .ref Ob0] (u1 G T0 T1 T2 T3 T4 T5 T ++ (u1 G Ob0 Ob1 Ob2 Ob3 Ob4 Ob5 Ob)) none (u1 G T0 T1 T2 T3 T4 T5 R0 ++ (u1 G Ob0 Ob1 Ob2 Ob3 Ob4 Ob5 Ob)) := by
  refine KK_intro (own := RX1) (by decide +kernel) rfl (Nat.le_of_ble_eq_true rfl) rfl ?_
  intro p e s m args below meth c A C
  unfold m1_copyFrom at h
  refine go_aload_n C dX1_copyFrom_0 1 rfl ?_
  refine go_get (v := .ref Ob1) C ffX1_9 dX1_copyFrom_1 6 rfl rfl ?_
  refine go_iconst (v := 0) C dX1_copyFrom_4 rfl ?_
  refine go_aload_n C dX1_copyFrom_5 0 rfl ?_
  refine go_get (v := .ref T1) C ffX1_9 dX1_copyFrom_6 0 rfl rfl ?_
  refine go_iconst (v := 0) C dX1_copyFrom_9 rfl ?_
  refine go_bipush (v := 13) C dX1_copyFrom_10 rfl ?_
  refine go_copyi (f := (g1_owner Ob)) (g := (g1_owner T)) (n := 13) (w' := u1 G T0 T1 T2 T3 T4 T5 (s1_owner T (va_cpy (g1_owner Ob) (g1_owner T) 0 0 13)) ++ (u1 G Ob0 Ob1 Ob2 Ob3 Ob4 Ob5 Ob)) C caX1_52 dX1_copyFrom_12 7 1 rfl rfl (by decide) (by decide) (by decide) (setL (Nat.le_of_ble_eq_true rfl) z1_owner) ?_
  refine go_aload_n C dX1_copyFrom_15 1 rfl ?_
  refine go_get (v := .ref Ob2) C ffX1_15 dX1_copyFrom_16 6 rfl rfl ?_
  refine go_iconst (v := 0) C dX1_copyFrom_19 rfl ?_
  refine go_aload_n C dX1_copyFrom_20 0 rfl ?_
  refine go_get (v := .ref T2) C ffX1_15 dX1_copyFrom_21 0 rfl rfl ?_
  refine go_iconst (v := 0) C dX1_copyFrom_24 rfl ?_
  refine go_bipush (v := 13) C dX1_copyFrom_25 rfl ?_
  refine go_copyi (f := (g1_leaser Ob)) (g := (g1_leaser T)) (n := 13) (w' := u1 G T0 T1 T2 T3 T4 T5 (s1_leaser (s1_owner T (va_cpy (g1_owner Ob) (g1_owner T) 0 0 13)) (va_cpy (g1_leaser Ob) (g1_leaser T) 0 0 13)) ++ (u1 G Ob0 Ob1 Ob2 Ob3 Ob4 Ob5 Ob)) C caX1_52 dX1_copyFrom_27 8 2 rfl rfl (by decide) (by decide) (by decide) (setL (Nat.le_of_ble_eq_true rfl) z1_leaser) ?_
  refine go_aload_n C dX1_copyFrom_30 1 rfl ?_
  refine go_get (v := .ref Ob3) C ffX1_22 dX1_copyFrom_31 6 rfl rfl ?_
  refine go_iconst (v := 0) C dX1_copyFrom_34 rfl ?_
  refine go_aload_n C dX1_copyFrom_35 0 rfl ?_
  refine go_get (v := .ref T3) C ffX1_22 dX1_copyFrom_36 0 rfl rfl ?_
  refine go_iconst (v := 0) C dX1_copyFrom_39 rfl ?_
  refine go_bipush (v := 6) C dX1_copyFrom_40 rfl ?_
  refine go_copyi (f := (g1_stride Ob)) (g := (g1_stride T)) (n := 6) (w' := u1 G T0 T1 T2 T3 T4 T5 (s1_stride (s1_leaser (s1_owner T (va_cpy (g1_owner Ob) (g1_owner T) 0 0 13)) (va_cpy (g1_leaser Ob) (g1_leaser T) 0 0 13)) (va_cpy (g1_stride Ob) (g1_stride T) 0 0 6)) ++ (u1 G Ob0 Ob1 Ob2 Ob3 Ob4 Ob5 Ob)) C caX1_52 dX1_copyFrom_42 9 3 rfl rfl (by decide) (by decide) (by decide) (setL (Nat.le_of_ble_eq_true rfl) z1_stride) ?_
  refine go_aload_n C dX1_copyFrom_45 1 rfl ?_
  refine go_get (v := .ref Ob4) C ffX1_25 dX1_copyFrom_46 6 rfl rfl ?_
  refine go_iconst (v := 0) C dX1_copyFrom_49 rfl ?_
  refine go_aload_n C dX1_copyFrom_50 0 rfl ?_
  refine go_get (v := .ref T4) C ffX1_25 dX1_copyFrom_51 0 rfl rfl ?_
  refine go_iconst (v := 0) C dX1_copyFrom_54 rfl ?_
  refine go_bipush (v := 6) C dX1_copyFrom_55 rfl ?_
  refine go_copyi (f := (g1_coins Ob)) (g := (g1_coins T)) (n := 6) (w' := u1 G T0 T1 T2 T3 T4 T5 (s1_coins (s1_stride (s1_leaser (s1_owner T (va_cpy (g1_owner Ob) (g1_owner T) 0 0 13)) (va_cpy (g1_leaser Ob) (g1_leaser T) 0 0 13)) (va_cpy (g1_stride Ob) (g1_stride T) 0 0 6)) (va_cpy (g1_coins Ob) (g1_coins T) 0 0 6)) ++ (u1 G Ob0 Ob1 Ob2 Ob3 Ob4 Ob5 Ob)) C caX1_52 dX1_copyFrom_57 10 4 rfl rfl (by decide) (by decide) (by decide) (setL (Nat.le_of_ble_eq_true rfl) z1_coins) ?_
  refine go_aload_n C dX1_copyFrom_60 1 rfl ?_
  refine go_get (v := .ref Ob5) C ffX1_28 dX1_copyFrom_61 6 rfl rfl ?_
  refine go_iconst (v := 0) C dX1_copyFrom_64 rfl ?_
  refine go_aload_n C dX1_copyFrom_65 0 rfl ?_
  refine go_get (v := .ref T5) C ffX1_28 dX1_copyFrom_66 0 rfl rfl ?_
  refine go_iconst (v := 0) C dX1_copyFrom_69 rfl ?_
  refine go_bipush (v := 6) C dX1_copyFrom_70 rfl ?_
  refine go_copyi (f := (g1_place Ob)) (g := (g1_place T)) (n := 6) (w' := u1 G T0 T1 T2 T3 T4 T5 (s1_place (s1_coins (s1_stride (s1_leaser (s1_owner T (va_cpy (g1_owner Ob) (g1_owner T) 0 0 13)) (va_cpy (g1_leaser Ob) (g1_leaser T) 0 0 13)) (va_cpy (g1_stride Ob) (g1_stride T) 0 0 6)) (va_cpy (g1_coins Ob) (g1_coins T) 0 0 6)) (va_cpy (g1_place Ob) (g1_place T) 0 0 6)) ++ (u1 G Ob0 Ob1 Ob2 Ob3 Ob4 Ob5 Ob)) C caX1_52 dX1_copyFrom_72 11 5 rfl rfl (by decide) (by decide) (by decide) (setL (Nat.le_of_ble_eq_true rfl) z1_place) ?_
  refine go_aload_n C dX1_copyFrom_75 0 rfl ?_
  refine go_aload_n C dX1_copyFrom_76 1 rfl ?_
  refine go_get (v := .int (g1_missing Ob)) C ffX1_18 dX1_copyFrom_77 6 rfl rfl ?_
  refine go_puti (w' := u1 G T0 T1 T2 T3 T4 T5 (s1_place (s1_coins (s1_stride (s1_missing (s1_leaser (s1_owner T (va_cpy (g1_owner Ob) (g1_owner T) 0 0 13)) (va_cpy (g1_leaser Ob) (g1_leaser T) 0 0 13)) (g1_missing Ob)) (va_cpy (g1_stride Ob) (g1_stride T) 0 0 6)) (va_cpy (g1_coins Ob) (g1_coins T) 0 0 6)) (va_cpy (g1_place Ob) (g1_place T) 0 0 6)) ++ (u1 G Ob0 Ob1 Ob2 Ob3 Ob4 Ob5 Ob)) C fpX1_18 dX1_copyFrom_80 0 rfl (Nat.le_of_ble_eq_true rfl) (setL (Nat.le_of_ble_eq_true rfl) z1_missing) ?_
  refine go_aload_n C dX1_copyFrom_83 0 rfl ?_
  refine go_aload_n C dX1_copyFrom_84 1 rfl ?_
  refine go_get (v := .int (g1_stepped Ob)) C ffX1_31 dX1_copyFrom_85 6 rfl rfl ?_
  refine go_puti (w' := u1 G T0 T1 T2 T3 T4 T5 (s1_stepped (s1_place (s1_coins (s1_stride (s1_missing (s1_leaser (s1_owner T (va_cpy (g1_owner Ob) (g1_owner T) 0 0 13)) (va_cpy (g1_leaser Ob) (g1_leaser T) 0 0 13)) (g1_missing Ob)) (va_cpy (g1_stride Ob) (g1_stride T) 0 0 6)) (va_cpy (g1_coins Ob) (g1_coins T) 0 0 6)) (va_cpy (g1_place Ob) (g1_place T) 0 0 6)) (g1_stepped Ob)) ++ (u1 G Ob0 Ob1 Ob2 Ob3 Ob4 Ob5 Ob)) C fpX1_31 dX1_copyFrom_88 0 rfl (Nat.le_of_ble_eq_true rfl) (setL (Nat.le_of_ble_eq_true rfl) z1_stepped) ?_
  refine go_aload_n C dX1_copyFrom_91 0 rfl ?_
  refine go_aload_n C dX1_copyFrom_92 1 rfl ?_
  refine go_get (v := .int (g1_beat Ob)) C ffX1_34 dX1_copyFrom_93 6 rfl rfl ?_
  refine go_puti (w' := u1 G T0 T1 T2 T3 T4 T5 (s1_beat (s1_stepped (s1_place (s1_coins (s1_stride (s1_missing (s1_leaser (s1_owner T (va_cpy (g1_owner Ob) (g1_owner T) 0 0 13)) (va_cpy (g1_leaser Ob) (g1_leaser T) 0 0 13)) (g1_missing Ob)) (va_cpy (g1_stride Ob) (g1_stride T) 0 0 6)) (va_cpy (g1_coins Ob) (g1_coins T) 0 0 6)) (va_cpy (g1_place Ob) (g1_place T) 0 0 6)) (g1_stepped Ob)) (g1_beat Ob)) ++ (u1 G Ob0 Ob1 Ob2 Ob3 Ob4 Ob5 Ob)) C fpX1_34 dX1_copyFrom_96 0 rfl (Nat.le_of_ble_eq_true rfl) (setL (Nat.le_of_ble_eq_true rfl) z1_beat) ?_
  refine go_aload_n C dX1_copyFrom_99 0 rfl ?_
  refine go_aload_n C dX1_copyFrom_100 1 rfl ?_
  refine go_get (v := .int (g1_sights Ob)) C ffX1_37 dX1_copyFrom_101 6 rfl rfl ?_
  refine go_puti (w' := u1 G T0 T1 T2 T3 T4 T5 (s1_sights (s1_beat (s1_stepped (s1_place (s1_coins (s1_stride (s1_missing (s1_leaser (s1_owner T (va_cpy (g1_owner Ob) (g1_owner T) 0 0 13)) (va_cpy (g1_leaser Ob) (g1_leaser T) 0 0 13)) (g1_missing Ob)) (va_cpy (g1_stride Ob) (g1_stride T) 0 0 6)) (va_cpy (g1_coins Ob) (g1_coins T) 0 0 6)) (va_cpy (g1_place Ob) (g1_place T) 0 0 6)) (g1_stepped Ob)) (g1_beat Ob)) (g1_sights Ob)) ++ (u1 G Ob0 Ob1 Ob2 Ob3 Ob4 Ob5 Ob)) C fpX1_37 dX1_copyFrom_104 0 rfl (Nat.le_of_ble_eq_true rfl) (setL (Nat.le_of_ble_eq_true rfl) z1_sights) ?_
  refine go_aload_n C dX1_copyFrom_107 0 rfl ?_
  refine go_aload_n C dX1_copyFrom_108 1 rfl ?_
  refine go_get (v := .int (g1_wet Ob)) C ffX1_40 dX1_copyFrom_109 6 rfl rfl ?_
  refine go_puti (w' := u1 G T0 T1 T2 T3 T4 T5 (s1_wet (s1_sights (s1_beat (s1_stepped (s1_place (s1_coins (s1_stride (s1_missing (s1_leaser (s1_owner T (va_cpy (g1_owner Ob) (g1_owner T) 0 0 13)) (va_cpy (g1_leaser Ob) (g1_leaser T) 0 0 13)) (g1_missing Ob)) (va_cpy (g1_stride Ob) (g1_stride T) 0 0 6)) (va_cpy (g1_coins Ob) (g1_coins T) 0 0 6)) (va_cpy (g1_place Ob) (g1_place T) 0 0 6)) (g1_stepped Ob)) (g1_beat Ob)) (g1_sights Ob)) (g1_wet Ob)) ++ (u1 G Ob0 Ob1 Ob2 Ob3 Ob4 Ob5 Ob)) C fpX1_40 dX1_copyFrom_112 0 rfl (Nat.le_of_ble_eq_true rfl) (setL (Nat.le_of_ble_eq_true rfl) z1_wet) ?_
  refine go_aload_n C dX1_copyFrom_115 0 rfl ?_
  refine go_aload_n C dX1_copyFrom_116 1 rfl ?_
  refine go_get (v := .int (g1_dry Ob)) C ffX1_43 dX1_copyFrom_117 6 rfl rfl ?_
  refine go_puti (w' := u1 G T0 T1 T2 T3 T4 T5 (s1_dry (s1_wet (s1_sights (s1_beat (s1_stepped (s1_place (s1_coins (s1_stride (s1_missing (s1_leaser (s1_owner T (va_cpy (g1_owner Ob) (g1_owner T) 0 0 13)) (va_cpy (g1_leaser Ob) (g1_leaser T) 0 0 13)) (g1_missing Ob)) (va_cpy (g1_stride Ob) (g1_stride T) 0 0 6)) (va_cpy (g1_coins Ob) (g1_coins T) 0 0 6)) (va_cpy (g1_place Ob) (g1_place T) 0 0 6)) (g1_stepped Ob)) (g1_beat Ob)) (g1_sights Ob)) (g1_wet Ob)) (g1_dry Ob)) ++ (u1 G Ob0 Ob1 Ob2 Ob3 Ob4 Ob5 Ob)) C fpX1_43 dX1_copyFrom_120 0 rfl (Nat.le_of_ble_eq_true rfl) (setL (Nat.le_of_ble_eq_true rfl) z1_dry) ?_
  cases h
  exact go_vret C dX1_copyFrom_123 rfl rfl

set_option maxRecDepth 100000 in
set_option maxHeartbeats 4000000 in
theorem m9_isRung_k (l : Launch) (G : gG) (a0 : Int32) (R0 : Int32) (h : m9_isRung a0 = some R0) : KK l G yX9_isRung cX9_isRung 1 (some .boolean) 0 0 [.int a0] (([] : va_W)) (some (.int R0)) (([] : va_W)) := by
  refine KK_intro (own := RX9) (by decide +kernel) rfl (Nat.le_of_ble_eq_true rfl) rfl ?_
  intro p e s m args below meth c A C
  unfold m9_isRung at h
  refine go_iload_n C dX9_isRung_0 0 rfl ?_
  refine go_iconst (v := 1) C dX9_isRung_1 rfl ?_
  refine go_icmp_lt (tgt := 15) C h dX9_isRung_2 rfl (fun h => ?_) (fun h => ?_)
  · refine go_iconst (v := 0) C dX9_isRung_15 rfl ?_
    cases h
    exact go_zret C dX9_isRung_16 (by decide) rfl rfl
  · refine go_iload_n C dX9_isRung_5 0 rfl ?_
    refine go_bipush (v := 12) C dX9_isRung_6 rfl ?_
    refine go_icmp_gt (tgt := 15) C h dX9_isRung_8 rfl (fun h => ?_) (fun h => ?_)
    · refine go_iconst (v := 0) C dX9_isRung_15 rfl ?_
      cases h
      exact go_zret C dX9_isRung_16 (by decide) rfl rfl
    · refine go_iconst (v := 1) C dX9_isRung_11 rfl ?_
      refine go_goto (tgt := 16) C dX9_isRung_12 rfl ?_
      cases h
      exact go_zret C dX9_isRung_16 (by decide) rfl rfl

set_option maxRecDepth 100000 in
set_option maxHeartbeats 4000000 in
theorem m1_ownerOf_k (l : Launch) (G : gG) (T0 T1 T2 T3 T4 T5 : Nat) (T : SX1) (a1 : Int32) (R0 : Int32) (h : m1_ownerOf T a1 = some R0) : KK l G yX1_ownerOf cX1_ownerOf 2 (some .int) 1 20 [.ref T0, .int a1] (u1 G T0 T1 T2 T3 T4 T5 T) (some (.int R0)) (u1 G T0 T1 T2 T3 T4 T5 T) := by
  refine KK_intro (own := RX1) (by decide +kernel) rfl (Nat.le_of_ble_eq_true rfl) rfl ?_
  intro p e s m args below meth c A C
  unfold m1_ownerOf at h
  refine go_iload_n C dX1_ownerOf_0 1 rfl ?_
  obtain ⟨r1, k2, h⟩ := tbd_e h
  refine go_callSN0 C cfX1_58 (wr6 _ (List.mem_of_getElem? (i := 16) rfl)) (m9_isRung_k l G a1 r1 k2) dX1_ownerOf_1 (by decide) ⟨Nat.zero_le _, Nat.zero_le _⟩ rfl rfl (Nat.le_of_ble_eq_true rfl) ?_
  refine go_if_eq (tgt := 16) C h dX1_ownerOf_4 rfl (fun h => ?_) (fun h => ?_)
  · refine go_iconst (v := -1) C dX1_ownerOf_16 rfl ?_
    cases h
    exact go_iret C dX1_ownerOf_17 rfl rfl
  · refine go_aload_n C dX1_ownerOf_7 0 rfl ?_
    refine go_get (v := .ref T1) C ffX1_9 dX1_ownerOf_8 0 rfl rfl ?_
    refine go_iload_n C dX1_ownerOf_11 1 rfl ?_
    refine go_ialoadG (f := (g1_owner T)) C h dX1_ownerOf_12 1 rfl (fun h => ?_)
    refine go_goto (tgt := 17) C dX1_ownerOf_13 rfl ?_
    cases h
    exact go_iret C dX1_ownerOf_17 rfl rfl

set_option maxRecDepth 100000 in
set_option maxHeartbeats 4000000 in
theorem m1_leaserOf_k (l : Launch) (G : gG) (T0 T1 T2 T3 T4 T5 : Nat) (T : SX1) (a1 : Int32) (R0 : Int32) (h : m1_leaserOf T a1 = some R0) : KK l G yX1_leaserOf cX1_leaserOf 2 (some .int) 1 20 [.ref T0, .int a1] (u1 G T0 T1 T2 T3 T4 T5 T) (some (.int R0)) (u1 G T0 T1 T2 T3 T4 T5 T) := by
  refine KK_intro (own := RX1) (by decide +kernel) rfl (Nat.le_of_ble_eq_true rfl) rfl ?_
  intro p e s m args below meth c A C
  unfold m1_leaserOf at h
  refine go_iload_n C dX1_leaserOf_0 1 rfl ?_
  obtain ⟨r1, k2, h⟩ := tbd_e h
  refine go_callSN0 C cfX1_58 (wr6 _ (List.mem_of_getElem? (i := 16) rfl)) (m9_isRung_k l G a1 r1 k2) dX1_leaserOf_1 (by decide) ⟨Nat.zero_le _, Nat.zero_le _⟩ rfl rfl (Nat.le_of_ble_eq_true rfl) ?_
  refine go_if_eq (tgt := 16) C h dX1_leaserOf_4 rfl (fun h => ?_) (fun h => ?_)
  · refine go_iconst (v := -1) C dX1_leaserOf_16 rfl ?_
    cases h
    exact go_iret C dX1_leaserOf_17 rfl rfl
  · refine go_aload_n C dX1_leaserOf_7 0 rfl ?_
    refine go_get (v := .ref T2) C ffX1_15 dX1_leaserOf_8 0 rfl rfl ?_
    refine go_iload_n C dX1_leaserOf_11 1 rfl ?_
    refine go_ialoadG (f := (g1_leaser T)) C h dX1_leaserOf_12 2 rfl (fun h => ?_)
    refine go_goto (tgt := 17) C dX1_leaserOf_13 rfl ?_
    cases h
    exact go_iret C dX1_leaserOf_17 rfl rfl

set_option maxRecDepth 100000 in
set_option maxHeartbeats 4000000 in
theorem m9_bitOf_k (l : Launch) (G : gG) (a0 : Int32) (R0 : Int32) (h : m9_bitOf a0 = some R0) : KK l G yX9_bitOf cX9_bitOf 1 (some .int) 0 0 [.int a0] (([] : va_W)) (some (.int R0)) (([] : va_W)) := by
  refine KK_intro (own := RX9) (by decide +kernel) rfl (Nat.le_of_ble_eq_true rfl) rfl ?_
  intro p e s m args below meth c A C
  unfold m9_bitOf at h
  refine go_iload_n C dX9_bitOf_0 0 rfl ?_
  refine go_iconst (v := 1) C dX9_bitOf_1 rfl ?_
  refine go_icmp_lt (tgt := 19) C h dX9_bitOf_2 rfl (fun h => ?_) (fun h => ?_)
  · refine go_iconst (v := 0) C dX9_bitOf_19 rfl ?_
    cases h
    exact go_iret C dX9_bitOf_20 rfl rfl
  · refine go_iload_n C dX9_bitOf_5 0 rfl ?_
    refine go_bipush (v := 12) C dX9_bitOf_6 rfl ?_
    refine go_icmp_gt (tgt := 19) C h dX9_bitOf_8 rfl (fun h => ?_) (fun h => ?_)
    · refine go_iconst (v := 0) C dX9_bitOf_19 rfl ?_
      cases h
      exact go_iret C dX9_bitOf_20 rfl rfl
    · refine go_iconst (v := 1) C dX9_bitOf_11 rfl ?_
      refine go_iload_n C dX9_bitOf_12 0 rfl ?_
      refine go_iconst (v := 1) C dX9_bitOf_13 rfl ?_
      refine go_isub C dX9_bitOf_14 ?_
      refine go_ishl C dX9_bitOf_15 ?_
      refine go_goto (tgt := 20) C dX9_bitOf_16 rfl ?_
      cases h
      exact go_iret C dX9_bitOf_20 rfl rfl

set_option maxRecDepth 100000 in
set_option maxHeartbeats 4000000 in
theorem m1_isMissing_k (l : Launch) (G : gG) (T0 T1 T2 T3 T4 T5 : Nat) (T : SX1) (a1 : Int32) (R0 : Int32) (h : m1_isMissing T a1 = some R0) : KK l G yX1_isMissing cX1_isMissing 2 (some .boolean) 1 20 [.ref T0, .int a1] (u1 G T0 T1 T2 T3 T4 T5 T) (some (.int R0)) (u1 G T0 T1 T2 T3 T4 T5 T) := by
  refine KK_intro (own := RX1) (by decide +kernel) rfl (Nat.le_of_ble_eq_true rfl) rfl ?_
  intro p e s m args below meth c A C
  unfold m1_isMissing at h
  refine go_aload_n C dX1_isMissing_0 0 rfl ?_
  refine go_get (v := .int (g1_missing T)) C ffX1_18 dX1_isMissing_1 0 rfl rfl ?_
  refine go_iload_n C dX1_isMissing_4 1 rfl ?_
  obtain ⟨r1, k2, h⟩ := tbd_e h
  refine go_callSN0 C cfX1_62 (wr7 _ (List.mem_of_getElem? (i := 14) rfl)) (m9_bitOf_k l G a1 r1 k2) dX1_isMissing_5 (by decide) ⟨Nat.zero_le _, Nat.zero_le _⟩ rfl rfl (Nat.le_of_ble_eq_true rfl) ?_
  refine go_iand C dX1_isMissing_8 ?_
  refine go_if_eq (tgt := 16) C h dX1_isMissing_9 rfl (fun h => ?_) (fun h => ?_)
  · refine go_iconst (v := 0) C dX1_isMissing_16 rfl ?_
    cases h
    exact go_zret C dX1_isMissing_17 (by decide) rfl rfl
  · refine go_iconst (v := 1) C dX1_isMissing_12 rfl ?_
    refine go_goto (tgt := 17) C dX1_isMissing_13 rfl ?_
    cases h
    exact go_zret C dX1_isMissing_17 (by decide) rfl rfl

set_option maxRecDepth 100000 in
set_option maxHeartbeats 4000000 in
theorem m1_rungsMissing_k (l : Launch) (G : gG) (T0 T1 T2 T3 T4 T5 : Nat) (T : SX1) (R0 : Int32) (h : m1_rungsMissing T = some R0) : KK l G yX1_rungsMissing cX1_rungsMissing 1 (some .int) 0 0 [.ref T0] (u1 G T0 T1 T2 T3 T4 T5 T) (some (.int R0)) (u1 G T0 T1 T2 T3 T4 T5 T) := by
  refine KK_intro (own := RX1) (by decide +kernel) rfl (Nat.le_of_ble_eq_true rfl) rfl ?_
  intro p e s m args below meth c A C
  unfold m1_rungsMissing at h
  refine go_aload_n C dX1_rungsMissing_0 0 rfl ?_
  refine go_get (v := .int (g1_missing T)) C ffX1_18 dX1_rungsMissing_1 0 rfl rfl ?_
  cases h
  exact go_iret C dX1_rungsMissing_4 rfl rfl

set_option maxRecDepth 100000 in
set_option maxHeartbeats 4000000 in
theorem m1_setRung_k (l : Launch) (G : gG) (T0 T1 T2 T3 T4 T5 : Nat) (T : SX1) (a1 : Int32) (a2 : Int32) (a3 : Int32) (a4 : Int32) (R0 : SX1) (h : m1_setRung T a1 a2 a3 a4 = some R0) : KK l G yX1_setRung cX1_setRung 5 none 1 20 [.ref T0, .int a1, .int a2, .int a3, .int a4] (u1 G T0 T1 T2 T3 T4 T5 T) none (u1 G T0 T1 T2 T3 T4 T5 R0) := by
  refine KK_intro (own := RX1) (by decide +kernel) rfl (Nat.le_of_ble_eq_true rfl) rfl ?_
  intro p e s m args below meth c A C
  unfold m1_setRung at h
  refine go_iload_n C dX1_setRung_0 1 rfl ?_
  obtain ⟨r1, k2, h⟩ := tbd_e h
  refine go_callSN0 C cfX1_58 (wr6 _ (List.mem_of_getElem? (i := 16) rfl)) (m9_isRung_k l G a1 r1 k2) dX1_setRung_1 (by decide) ⟨Nat.zero_le _, Nat.zero_le _⟩ rfl rfl (Nat.le_of_ble_eq_true rfl) ?_
  refine go_if_eq (tgt := 53) C h dX1_setRung_4 rfl (fun h => ?_) (fun h => ?_)
  · cases h
    exact go_vret C dX1_setRung_53 rfl rfl
  · refine go_aload_n C dX1_setRung_7 0 rfl ?_
    refine go_get (v := .ref T1) C ffX1_9 dX1_setRung_8 0 rfl rfl ?_
    refine go_iload_n C dX1_setRung_11 1 rfl ?_
    refine go_iload_n C dX1_setRung_12 2 rfl ?_
    refine go_iastoreG (f := (g1_owner T)) (w' := u1 G T0 T1 T2 T3 T4 T5 (s1_owner T (upd (g1_owner T) (Int32.toNatClampNeg a1) a2))) C h dX1_setRung_13 1 rfl z1_owner (fun h => ?_)
    refine go_aload_n C dX1_setRung_14 0 rfl ?_
    refine go_get (v := .ref T2) C ffX1_15 dX1_setRung_15 0 rfl rfl ?_
    refine go_iload_n C dX1_setRung_18 1 rfl ?_
    refine go_iload_n C dX1_setRung_19 3 rfl ?_
    refine go_iastoreG (f := (g1_leaser T)) (w' := u1 G T0 T1 T2 T3 T4 T5 (s1_leaser (s1_owner T (upd (g1_owner T) (Int32.toNatClampNeg a1) a2)) (upd (g1_leaser T) (Int32.toNatClampNeg a1) a3))) C h dX1_setRung_20 2 rfl z1_leaser (fun h => ?_)
    refine go_aload_n C dX1_setRung_21 0 rfl ?_
    refine go_iload C dX1_setRung_22 4 rfl ?_
    refine go_if_eq (tgt := 39) C h dX1_setRung_24 rfl (fun h => ?_) (fun h => ?_)
    · refine go_aload_n C dX1_setRung_39 0 rfl ?_
      refine go_get (v := .int (g1_missing T)) C ffX1_18 dX1_setRung_40 0 rfl rfl ?_
      refine go_iload_n C dX1_setRung_43 1 rfl ?_
      obtain ⟨r3, k4, h⟩ := tbd_e h
      refine go_callSN0 C cfX1_62 (wr7 _ (List.mem_of_getElem? (i := 14) rfl)) (m9_bitOf_k l G a1 r3 k4) dX1_setRung_44 (by decide) ⟨Nat.zero_le _, Nat.zero_le _⟩ rfl rfl (Nat.le_of_ble_eq_true rfl) ?_
      refine go_iconst (v := -1) C dX1_setRung_47 rfl ?_
      refine go_ixor C dX1_setRung_48 ?_
      refine go_iand C dX1_setRung_49 ?_
      refine go_puti (w' := u1 G T0 T1 T2 T3 T4 T5 (s1_missing (s1_leaser (s1_owner T (upd (g1_owner T) (Int32.toNatClampNeg a1) a2)) (upd (g1_leaser T) (Int32.toNatClampNeg a1) a3)) ((g1_missing T) &&& (r3 ^^^ (-1 : Int32))))) C fpX1_18 dX1_setRung_50 0 rfl (Nat.le_of_ble_eq_true rfl) z1_missing ?_
      cases h
      exact go_vret C dX1_setRung_53 rfl rfl
    · refine go_aload_n C dX1_setRung_27 0 rfl ?_
      refine go_get (v := .int (g1_missing T)) C ffX1_18 dX1_setRung_28 0 rfl rfl ?_
      refine go_iload_n C dX1_setRung_31 1 rfl ?_
      obtain ⟨r5, k6, h⟩ := tbd_e h
      refine go_callSN0 C cfX1_62 (wr7 _ (List.mem_of_getElem? (i := 14) rfl)) (m9_bitOf_k l G a1 r5 k6) dX1_setRung_32 (by decide) ⟨Nat.zero_le _, Nat.zero_le _⟩ rfl rfl (Nat.le_of_ble_eq_true rfl) ?_
      refine go_ior C dX1_setRung_35 ?_
      refine go_goto (tgt := 50) C dX1_setRung_36 rfl ?_
      refine go_puti (w' := u1 G T0 T1 T2 T3 T4 T5 (s1_missing (s1_leaser (s1_owner T (upd (g1_owner T) (Int32.toNatClampNeg a1) a2)) (upd (g1_leaser T) (Int32.toNatClampNeg a1) a3)) ((g1_missing T) ||| r5))) C fpX1_18 dX1_setRung_50 0 rfl (Nat.le_of_ble_eq_true rfl) z1_missing ?_
      cases h
      exact go_vret C dX1_setRung_53 rfl rfl

set_option maxRecDepth 100000 in
set_option maxHeartbeats 4000000 in
theorem m1_coinsOf_k (l : Launch) (G : gG) (T0 T1 T2 T3 T4 T5 : Nat) (T : SX1) (a1 : Int32) (R0 : Int32) (h : m1_coinsOf T a1 = some R0) : KK l G yX1_coinsOf cX1_coinsOf 2 (some .int) 1 20 [.ref T0, .int a1] (u1 G T0 T1 T2 T3 T4 T5 T) (some (.int R0)) (u1 G T0 T1 T2 T3 T4 T5 T) := by
  refine KK_intro (own := RX1) (by decide +kernel) rfl (Nat.le_of_ble_eq_true rfl) rfl ?_
  intro p e s m args below meth c A C
  unfold m1_coinsOf at h
  refine go_iload_n C dX1_coinsOf_0 1 rfl ?_
  obtain ⟨r1, k2, h⟩ := tbd_e h
  refine go_callSN0 C cfX1_66 (wr6 _ (List.mem_of_getElem? (i := 22) rfl)) (m9_isMan_k l G a1 r1 k2) dX1_coinsOf_1 (by decide) ⟨Nat.zero_le _, Nat.zero_le _⟩ rfl rfl (Nat.le_of_ble_eq_true rfl) ?_
  refine go_if_eq (tgt := 16) C h dX1_coinsOf_4 rfl (fun h => ?_) (fun h => ?_)
  · refine go_iconst (v := 0) C dX1_coinsOf_16 rfl ?_
    cases h
    exact go_iret C dX1_coinsOf_17 rfl rfl
  · refine go_aload_n C dX1_coinsOf_7 0 rfl ?_
    refine go_get (v := .ref T4) C ffX1_25 dX1_coinsOf_8 0 rfl rfl ?_
    refine go_iload_n C dX1_coinsOf_11 1 rfl ?_
    refine go_ialoadG (f := (g1_coins T)) C h dX1_coinsOf_12 4 rfl (fun h => ?_)
    refine go_goto (tgt := 17) C dX1_coinsOf_13 rfl ?_
    cases h
    exact go_iret C dX1_coinsOf_17 rfl rfl

set_option maxRecDepth 100000 in
set_option maxHeartbeats 4000000 in
theorem m1_hasStepped_k (l : Launch) (G : gG) (T0 T1 T2 T3 T4 T5 : Nat) (T : SX1) (a1 : Int32) (R0 : Int32) (h : m1_hasStepped T a1 = some R0) : KK l G yX1_hasStepped cX1_hasStepped 2 (some .boolean) 1 20 [.ref T0, .int a1] (u1 G T0 T1 T2 T3 T4 T5 T) (some (.int R0)) (u1 G T0 T1 T2 T3 T4 T5 T) := by
  refine KK_intro (own := RX1) (by decide +kernel) rfl (Nat.le_of_ble_eq_true rfl) rfl ?_
  intro p e s m args below meth c A C
  unfold m1_hasStepped at h
  refine go_iload_n C dX1_hasStepped_0 1 rfl ?_
  obtain ⟨r1, k2, h⟩ := tbd_e h
  refine go_callSN0 C cfX1_66 (wr6 _ (List.mem_of_getElem? (i := 22) rfl)) (m9_isMan_k l G a1 r1 k2) dX1_hasStepped_1 (by decide) ⟨Nat.zero_le _, Nat.zero_le _⟩ rfl rfl (Nat.le_of_ble_eq_true rfl) ?_
  refine go_if_eq (tgt := 22) C h dX1_hasStepped_4 rfl (fun h => ?_) (fun h => ?_)
  · refine go_iconst (v := 0) C dX1_hasStepped_22 rfl ?_
    cases h
    exact go_zret C dX1_hasStepped_23 (by decide) rfl rfl
  · refine go_aload_n C dX1_hasStepped_7 0 rfl ?_
    refine go_get (v := .int (g1_stepped T)) C ffX1_31 dX1_hasStepped_8 0 rfl rfl ?_
    refine go_iconst (v := 1) C dX1_hasStepped_11 rfl ?_
    refine go_iload_n C dX1_hasStepped_12 1 rfl ?_
    refine go_ishl C dX1_hasStepped_13 ?_
    refine go_iand C dX1_hasStepped_14 ?_
    refine go_if_eq (tgt := 22) C h dX1_hasStepped_15 rfl (fun h => ?_) (fun h => ?_)
    · refine go_iconst (v := 0) C dX1_hasStepped_22 rfl ?_
      cases h
      exact go_zret C dX1_hasStepped_23 (by decide) rfl rfl
    · refine go_iconst (v := 1) C dX1_hasStepped_18 rfl ?_
      refine go_goto (tgt := 23) C dX1_hasStepped_19 rfl ?_
      cases h
      exact go_zret C dX1_hasStepped_23 (by decide) rfl rfl

set_option maxRecDepth 100000 in
set_option maxHeartbeats 4000000 in
theorem m1_menStepped_k (l : Launch) (G : gG) (T0 T1 T2 T3 T4 T5 : Nat) (T : SX1) (R0 : Int32) (h : m1_menStepped T = some R0) : KK l G yX1_menStepped cX1_menStepped 1 (some .int) 0 0 [.ref T0] (u1 G T0 T1 T2 T3 T4 T5 T) (some (.int R0)) (u1 G T0 T1 T2 T3 T4 T5 T) := by
  refine KK_intro (own := RX1) (by decide +kernel) rfl (Nat.le_of_ble_eq_true rfl) rfl ?_
  intro p e s m args below meth c A C
  unfold m1_menStepped at h
  refine go_aload_n C dX1_menStepped_0 0 rfl ?_
  refine go_get (v := .int (g1_stepped T)) C ffX1_31 dX1_menStepped_1 0 rfl rfl ?_
  cases h
  exact go_iret C dX1_menStepped_4 rfl rfl

set_option maxRecDepth 100000 in
set_option maxHeartbeats 4000000 in
theorem m1_setMan_k (l : Launch) (G : gG) (T0 T1 T2 T3 T4 T5 : Nat) (T : SX1) (a1 : Int32) (a2 : Int32) (a3 : Int32) (a4 : Int32) (R0 : SX1) (h : m1_setMan T a1 a2 a3 a4 = some R0) : KK l G yX1_setMan cX1_setMan 5 none 1 20 [.ref T0, .int a1, .int a2, .int a3, .int a4] (u1 G T0 T1 T2 T3 T4 T5 T) none (u1 G T0 T1 T2 T3 T4 T5 R0) := by
  refine KK_intro (own := RX1) (by decide +kernel) rfl (Nat.le_of_ble_eq_true rfl) rfl ?_
  intro p e s m args below meth c A C
  unfold m1_setMan at h
  refine go_iload_n C dX1_setMan_0 1 rfl ?_
  obtain ⟨r1, k2, h⟩ := tbd_e h
  refine go_callSN0 C cfX1_66 (wr6 _ (List.mem_of_getElem? (i := 22) rfl)) (m9_isMan_k l G a1 r1 k2) dX1_setMan_1 (by decide) ⟨Nat.zero_le _, Nat.zero_le _⟩ rfl rfl (Nat.le_of_ble_eq_true rfl) ?_
  refine go_if_eq (tgt := 43) C h dX1_setMan_4 rfl (fun h => ?_) (fun h => ?_)
  · cases h
    exact go_vret C dX1_setMan_43 rfl rfl
  · refine go_aload_n C dX1_setMan_7 0 rfl ?_
    refine go_get (v := .ref T3) C ffX1_22 dX1_setMan_8 0 rfl rfl ?_
    refine go_iload_n C dX1_setMan_11 1 rfl ?_
    refine go_iload_n C dX1_setMan_12 2 rfl ?_
    refine go_iastoreG (f := (g1_stride T)) (w' := u1 G T0 T1 T2 T3 T4 T5 (s1_stride T (upd (g1_stride T) (Int32.toNatClampNeg a1) a2))) C h dX1_setMan_13 3 rfl z1_stride (fun h => ?_)
    refine go_aload_n C dX1_setMan_14 0 rfl ?_
    refine go_get (v := .ref T4) C ffX1_25 dX1_setMan_15 0 rfl rfl ?_
    refine go_iload_n C dX1_setMan_18 1 rfl ?_
    refine go_iload_n C dX1_setMan_19 3 rfl ?_
    refine go_iastoreG (f := (g1_coins T)) (w' := u1 G T0 T1 T2 T3 T4 T5 (s1_coins (s1_stride T (upd (g1_stride T) (Int32.toNatClampNeg a1) a2)) (upd (g1_coins T) (Int32.toNatClampNeg a1) a3))) C h dX1_setMan_20 4 rfl z1_coins (fun h => ?_)
    refine go_aload_n C dX1_setMan_21 0 rfl ?_
    refine go_get (v := .ref T5) C ffX1_28 dX1_setMan_22 0 rfl rfl ?_
    refine go_iload_n C dX1_setMan_25 1 rfl ?_
    refine go_iload C dX1_setMan_26 4 rfl ?_
    refine go_iastoreG (f := (g1_place T)) (w' := u1 G T0 T1 T2 T3 T4 T5 (s1_place (s1_coins (s1_stride T (upd (g1_stride T) (Int32.toNatClampNeg a1) a2)) (upd (g1_coins T) (Int32.toNatClampNeg a1) a3)) (upd (g1_place T) (Int32.toNatClampNeg a1) a4))) C h dX1_setMan_28 5 rfl z1_place (fun h => ?_)
    refine go_aload_n C dX1_setMan_29 0 rfl ?_
    refine go_dup C dX1_setMan_30 rfl ?_
    refine go_get (v := .int (g1_stepped T)) C ffX1_31 dX1_setMan_31 0 rfl rfl ?_
    refine go_iconst (v := 1) C dX1_setMan_34 rfl ?_
    refine go_iload_n C dX1_setMan_35 1 rfl ?_
    refine go_ishl C dX1_setMan_36 ?_
    refine go_iconst (v := -1) C dX1_setMan_37 rfl ?_
    refine go_ixor C dX1_setMan_38 ?_
    refine go_iand C dX1_setMan_39 ?_
    refine go_puti (w' := u1 G T0 T1 T2 T3 T4 T5 (s1_stepped (s1_place (s1_coins (s1_stride T (upd (g1_stride T) (Int32.toNatClampNeg a1) a2)) (upd (g1_coins T) (Int32.toNatClampNeg a1) a3)) (upd (g1_place T) (Int32.toNatClampNeg a1) a4)) ((g1_stepped T) &&& (((1 : Int32) <<< (a1 &&& 31)) ^^^ (-1 : Int32))))) C fpX1_31 dX1_setMan_40 0 rfl (Nat.le_of_ble_eq_true rfl) z1_stepped ?_
    cases h
    exact go_vret C dX1_setMan_43 rfl rfl

set_option maxRecDepth 100000 in
set_option maxHeartbeats 4000000 in
theorem m1_beatNow_k (l : Launch) (G : gG) (T0 T1 T2 T3 T4 T5 : Nat) (T : SX1) (R0 : Int32) (h : m1_beatNow T = some R0) : KK l G yX1_beatNow cX1_beatNow 1 (some .int) 0 0 [.ref T0] (u1 G T0 T1 T2 T3 T4 T5 T) (some (.int R0)) (u1 G T0 T1 T2 T3 T4 T5 T) := by
  refine KK_intro (own := RX1) (by decide +kernel) rfl (Nat.le_of_ble_eq_true rfl) rfl ?_
  intro p e s m args below meth c A C
  unfold m1_beatNow at h
  refine go_aload_n C dX1_beatNow_0 0 rfl ?_
  refine go_get (v := .int (g1_beat T)) C ffX1_34 dX1_beatNow_1 0 rfl rfl ?_
  cases h
  exact go_iret C dX1_beatNow_4 rfl rfl

set_option maxRecDepth 100000 in
set_option maxHeartbeats 4000000 in
theorem m1_menOnRoof_L4_k {p : Program} {l : Launch} {e : Env} {s : State} {m : MethodId} {args : Array Value} {below : List Frame} {meth : Method} {c : Code} {G : gG} {A : Nat → Prop} (C : Cx p e s m args meth c G RX1 cX1_menOnRoof 3 (some .int) A) (T0 T1 T2 T3 T4 T5 : Nat) (T : SX1) (R0 : Int32)  : ∀ (n : Nat) (x1 : Int32) (x2 : Int32), tit (m1_menOnRoof_L4 T) n (x1, x2) = some R0 → Gq p l e (rq 0 0) s m args below meth c G A 3 0 0 (MQ below (QK G (some (.int R0)) (u1 G T0 T1 T2 T3 T4 T5 T) A) args s 0 0 A) 4 [(0, .ref T0), (1, .int x1), (2, .int x2)] [] (u1 G T0 T1 T2 T3 T4 T5 T) := by
  intro n
  induction n with
  | zero => exact fun _ _ h => (tit_z h).elim
  | succ n ih =>
    intro x1 x2 h
    replace h : m1_menOnRoof_B4 T (tit (m1_menOnRoof_L4 T) n) x1 x2 = some R0 := h
    unfold m1_menOnRoof_B4 at h
    refine go_iload_n C dX1_menOnRoof_4 2 rfl ?_
    refine go_bipush (v := 6) C dX1_menOnRoof_5 rfl ?_
    refine go_icmp_ge (tgt := 33) C h dX1_menOnRoof_7 rfl (fun h => ?_) (fun h => ?_)
    · refine go_iload_n C dX1_menOnRoof_33 1 rfl ?_
      cases h
      exact go_iret C dX1_menOnRoof_34 rfl rfl
    · refine go_aload_n C dX1_menOnRoof_10 0 rfl ?_
      refine go_get (v := .ref T5) C ffX1_28 dX1_menOnRoof_11 0 rfl rfl ?_
      refine go_iload_n C dX1_menOnRoof_14 2 rfl ?_
      refine go_ialoadG (f := (g1_place T)) C h dX1_menOnRoof_15 5 rfl (fun h => ?_)
      refine go_bipush (v := 13) C dX1_menOnRoof_16 rfl ?_
      refine go_icmp_ne (tgt := 27) C h dX1_menOnRoof_18 rfl (fun h => ?_) (fun h => ?_)
      · refine go_iincN (lf := fun v1 => [(2, .int v1), (0, .ref T0), (1, .int x1)]) C h dX1_menOnRoof_27 2 rfl rfl (by decide) (fun _ => rfl) (fun v1 h => ?_)
        refine go_goto (tgt := 4) C dX1_menOnRoof_30 rfl ?_
        exact go_lv [1, 2, 0] rfl (ih x1 v1 h)
      · refine go_iload_n C dX1_menOnRoof_21 1 rfl ?_
        refine go_iconst (v := 1) C dX1_menOnRoof_22 rfl ?_
        refine go_iload_n C dX1_menOnRoof_23 2 rfl ?_
        refine go_ishl C dX1_menOnRoof_24 ?_
        refine go_ior C dX1_menOnRoof_25 ?_
        refine go_istore_nN (lf := fun v2 => [(1, .int v2), (0, .ref T0), (2, .int x2)]) C h dX1_menOnRoof_26 (by decide) (fun _ => rfl) (fun v2 h => ?_)
        refine go_iincN (lf := fun v3 => [(2, .int v3), (1, .int v2), (0, .ref T0)]) C h dX1_menOnRoof_27 2 rfl rfl (by decide) (fun _ => rfl) (fun v3 h => ?_)
        refine go_goto (tgt := 4) C dX1_menOnRoof_30 rfl ?_
        exact go_lv [2, 1, 0] rfl (ih v2 v3 h)

set_option maxRecDepth 100000 in
set_option maxHeartbeats 4000000 in
theorem m1_menOnRoof_k (l : Launch) (G : gG) (T0 T1 T2 T3 T4 T5 : Nat) (T : SX1) (R0 : Int32) (h : m1_menOnRoof T = some R0) : KK l G yX1_menOnRoof cX1_menOnRoof 3 (some .int) 0 0 [.ref T0] (u1 G T0 T1 T2 T3 T4 T5 T) (some (.int R0)) (u1 G T0 T1 T2 T3 T4 T5 T) := by
  refine KK_intro (own := RX1) (by decide +kernel) rfl (Nat.le_of_ble_eq_true rfl) rfl ?_
  intro p e s m args below meth c A C
  unfold m1_menOnRoof at h
  refine go_iconst (v := 0) C dX1_menOnRoof_0 rfl ?_
  refine go_istore_n (lv' := [(1, .int (0 : Int32)), (0, .ref T0)]) C dX1_menOnRoof_1 (by decide) rfl ?_
  refine go_iconst (v := 0) C dX1_menOnRoof_2 rfl ?_
  refine go_istore_n (lv' := [(2, .int (0 : Int32)), (1, .int (0 : Int32)), (0, .ref T0)]) C dX1_menOnRoof_3 (by decide) rfl ?_
  exact go_lv [2, 1, 0] rfl (m1_menOnRoof_L4_k C T0 T1 T2 T3 T4 T5 T R0  FU (0 : Int32) (0 : Int32) h)

set_option maxRecDepth 100000 in
set_option maxHeartbeats 4000000 in
theorem m1_firstManOn_L2_k {p : Program} {l : Launch} {e : Env} {s : State} {m : MethodId} {args : Array Value} {below : List Frame} {meth : Method} {c : Code} {G : gG} {A : Nat → Prop} (C : Cx p e s m args meth c G RX1 cX1_firstManOn 3 (some .int) A) (T0 T1 T2 T3 T4 T5 : Nat) (T : SX1) (x1 : Int32) (R0 : Int32)  : ∀ (n : Nat) (x2 : Int32), tit (m1_firstManOn_L2 T x1) n x2 = some R0 → Gq p l e (rq 0 0) s m args below meth c G A 3 0 0 (MQ below (QK G (some (.int R0)) (u1 G T0 T1 T2 T3 T4 T5 T) A) args s 0 0 A) 2 [(0, .ref T0), (1, .int x1), (2, .int x2)] [] (u1 G T0 T1 T2 T3 T4 T5 T) := by
  intro n
  induction n with
  | zero => exact fun _ h => (tit_z h).elim
  | succ n ih =>
    intro x2 h
    replace h : m1_firstManOn_B2 T x1 (tit (m1_firstManOn_L2 T x1) n) x2 = some R0 := h
    unfold m1_firstManOn_B2 at h
    refine go_iload_n C dX1_firstManOn_2 2 rfl ?_
    refine go_bipush (v := 6) C dX1_firstManOn_3 rfl ?_
    refine go_icmp_ge (tgt := 26) C h dX1_firstManOn_5 rfl (fun h => ?_) (fun h => ?_)
    · refine go_iconst (v := -1) C dX1_firstManOn_26 rfl ?_
      cases h
      exact go_iret C dX1_firstManOn_27 rfl rfl
    · refine go_aload_n C dX1_firstManOn_8 0 rfl ?_
      refine go_get (v := .ref T5) C ffX1_28 dX1_firstManOn_9 0 rfl rfl ?_
      refine go_iload_n C dX1_firstManOn_12 2 rfl ?_
      refine go_ialoadG (f := (g1_place T)) C h dX1_firstManOn_13 5 rfl (fun h => ?_)
      refine go_iload_n C dX1_firstManOn_14 1 rfl ?_
      refine go_icmp_ne (tgt := 20) C h dX1_firstManOn_15 rfl (fun h => ?_) (fun h => ?_)
      · refine go_iincN (lf := fun v1 => [(2, .int v1), (0, .ref T0), (1, .int x1)]) C h dX1_firstManOn_20 2 rfl rfl (by decide) (fun _ => rfl) (fun v1 h => ?_)
        refine go_goto (tgt := 2) C dX1_firstManOn_23 rfl ?_
        exact go_lv [1, 2, 0] rfl (ih v1 h)
      · refine go_iload_n C dX1_firstManOn_18 2 rfl ?_
        cases h
        exact go_iret C dX1_firstManOn_19 rfl rfl

set_option maxRecDepth 100000 in
set_option maxHeartbeats 4000000 in
theorem m1_firstManOn_k (l : Launch) (G : gG) (T0 T1 T2 T3 T4 T5 : Nat) (T : SX1) (a1 : Int32) (R0 : Int32) (h : m1_firstManOn T a1 = some R0) : KK l G yX1_firstManOn cX1_firstManOn 3 (some .int) 0 0 [.ref T0, .int a1] (u1 G T0 T1 T2 T3 T4 T5 T) (some (.int R0)) (u1 G T0 T1 T2 T3 T4 T5 T) := by
  refine KK_intro (own := RX1) (by decide +kernel) rfl (Nat.le_of_ble_eq_true rfl) rfl ?_
  intro p e s m args below meth c A C
  unfold m1_firstManOn at h
  refine go_iconst (v := 0) C dX1_firstManOn_0 rfl ?_
  refine go_istore_n (lv' := [(2, .int (0 : Int32)), (0, .ref T0), (1, .int a1)]) C dX1_firstManOn_1 (by decide) rfl ?_
  exact go_lv [1, 2, 0] rfl (m1_firstManOn_L2_k C T0 T1 T2 T3 T4 T5 T a1 R0  FU (0 : Int32) h)

set_option maxRecDepth 100000 in
set_option maxHeartbeats 4000000 in
theorem m1_mayBeOn_k (l : Launch) (G : gG) (T0 T1 T2 T3 T4 T5 : Nat) (T : SX1) (a1 : Int32) (a2 : Int32) (R0 : Int32) (h : m1_mayBeOn T a1 a2 = some R0) : KK l G yX1_mayBeOn cX1_mayBeOn 3 (some .boolean) 0 0 [.ref T0, .int a1, .int a2] (u1 G T0 T1 T2 T3 T4 T5 T) (some (.int R0)) (u1 G T0 T1 T2 T3 T4 T5 T) := by
  refine KK_intro (own := RX1) (by decide +kernel) rfl (Nat.le_of_ble_eq_true rfl) rfl ?_
  intro p e s m args below meth c A C
  unfold m1_mayBeOn at h
  refine go_iload_n C dX1_mayBeOn_0 2 rfl ?_
  refine go_iconst (v := 1) C dX1_mayBeOn_1 rfl ?_
  refine go_icmp_lt (tgt := 24) C h dX1_mayBeOn_2 rfl (fun h => ?_) (fun h => ?_)
  · refine go_iconst (v := 0) C dX1_mayBeOn_24 rfl ?_
    cases h
    exact go_zret C dX1_mayBeOn_25 (by decide) rfl rfl
  · refine go_iload_n C dX1_mayBeOn_5 2 rfl ?_
    refine go_bipush (v := 12) C dX1_mayBeOn_6 rfl ?_
    refine go_icmp_gt (tgt := 24) C h dX1_mayBeOn_8 rfl (fun h => ?_) (fun h => ?_)
    · refine go_iconst (v := 0) C dX1_mayBeOn_24 rfl ?_
      cases h
      exact go_zret C dX1_mayBeOn_25 (by decide) rfl rfl
    · refine go_aload_n C dX1_mayBeOn_11 0 rfl ?_
      refine go_get (v := .int (g1_missing T)) C ffX1_18 dX1_mayBeOn_12 0 rfl rfl ?_
      refine go_iload_n C dX1_mayBeOn_15 2 rfl ?_
      refine go_iconst (v := 1) C dX1_mayBeOn_16 rfl ?_
      refine go_isub C dX1_mayBeOn_17 ?_
      refine go_ishr C dX1_mayBeOn_18 ?_
      refine go_iconst (v := 1) C dX1_mayBeOn_19 rfl ?_
      refine go_iand C dX1_mayBeOn_20 ?_
      refine go_if_eq (tgt := 26) C h dX1_mayBeOn_21 rfl (fun h => ?_) (fun h => ?_)
      · refine go_aload_n C dX1_mayBeOn_26 0 rfl ?_
        refine go_get (v := .ref T1) C ffX1_9 dX1_mayBeOn_27 0 rfl rfl ?_
        refine go_iload_n C dX1_mayBeOn_30 2 rfl ?_
        refine go_ialoadG (f := (g1_owner T)) C h dX1_mayBeOn_31 1 rfl (fun h => ?_)
        refine go_iconst (v := -1) C dX1_mayBeOn_32 rfl ?_
        refine go_icmp_eq (tgt := 56) C h dX1_mayBeOn_33 rfl (fun h => ?_) (fun h => ?_)
        · refine go_iconst (v := 1) C dX1_mayBeOn_56 rfl ?_
          refine go_goto (tgt := 61) C dX1_mayBeOn_57 rfl ?_
          cases h
          exact go_zret C dX1_mayBeOn_61 (by decide) rfl rfl
        · refine go_aload_n C dX1_mayBeOn_36 0 rfl ?_
          refine go_get (v := .ref T1) C ffX1_9 dX1_mayBeOn_37 0 rfl rfl ?_
          refine go_iload_n C dX1_mayBeOn_40 2 rfl ?_
          refine go_ialoadG (f := (g1_owner T)) C h dX1_mayBeOn_41 1 rfl (fun h => ?_)
          refine go_iload_n C dX1_mayBeOn_42 1 rfl ?_
          refine go_icmp_eq (tgt := 56) C h dX1_mayBeOn_43 rfl (fun h => ?_) (fun h => ?_)
          · refine go_iconst (v := 1) C dX1_mayBeOn_56 rfl ?_
            refine go_goto (tgt := 61) C dX1_mayBeOn_57 rfl ?_
            cases h
            exact go_zret C dX1_mayBeOn_61 (by decide) rfl rfl
          · refine go_aload_n C dX1_mayBeOn_46 0 rfl ?_
            refine go_get (v := .ref T2) C ffX1_15 dX1_mayBeOn_47 0 rfl rfl ?_
            refine go_iload_n C dX1_mayBeOn_50 2 rfl ?_
            refine go_ialoadG (f := (g1_leaser T)) C h dX1_mayBeOn_51 2 rfl (fun h => ?_)
            refine go_iload_n C dX1_mayBeOn_52 1 rfl ?_
            refine go_icmp_ne (tgt := 60) C h dX1_mayBeOn_53 rfl (fun h => ?_) (fun h => ?_)
            · refine go_iconst (v := 0) C dX1_mayBeOn_60 rfl ?_
              cases h
              exact go_zret C dX1_mayBeOn_61 (by decide) rfl rfl
            · refine go_iconst (v := 1) C dX1_mayBeOn_56 rfl ?_
              refine go_goto (tgt := 61) C dX1_mayBeOn_57 rfl ?_
              cases h
              exact go_zret C dX1_mayBeOn_61 (by decide) rfl rfl
      · refine go_iconst (v := 0) C dX1_mayBeOn_24 rfl ?_
        cases h
        exact go_zret C dX1_mayBeOn_25 (by decide) rfl rfl

set_option maxRecDepth 100000 in
set_option maxHeartbeats 4000000 in
theorem m1_rungsOpenTo_L4_k {p : Program} {l : Launch} {e : Env} {s : State} {m : MethodId} {args : Array Value} {below : List Frame} {meth : Method} {c : Code} {G : gG} {A : Nat → Prop} (C : Cx p e s m args meth c G RX1 cX1_rungsOpenTo 4 (some .int) A) (T0 T1 T2 T3 T4 T5 : Nat) (T : SX1) (x1 : Int32) (R0 : Int32)  : ∀ (n : Nat) (x2 : Int32) (x3 : Int32), tit (m1_rungsOpenTo_L4 T x1) n (x2, x3) = some R0 → Gq p l e (rq 1 22) s m args below meth c G A 4 0 0 (MQ below (QK G (some (.int R0)) (u1 G T0 T1 T2 T3 T4 T5 T) A) args s 0 0 A) 4 [(0, .ref T0), (1, .int x1), (2, .int x2), (3, .int x3)] [] (u1 G T0 T1 T2 T3 T4 T5 T) := by
  intro n
  induction n with
  | zero => exact fun _ _ h => (tit_z h).elim
  | succ n ih =>
    intro x2 x3 h
    replace h : m1_rungsOpenTo_B4 T x1 (tit (m1_rungsOpenTo_L4 T x1) n) x2 x3 = some R0 := h
    unfold m1_rungsOpenTo_B4 at h
    refine go_iload_n C dX1_rungsOpenTo_4 3 rfl ?_
    refine go_bipush (v := 12) C dX1_rungsOpenTo_5 rfl ?_
    refine go_icmp_gt (tgt := 32) C h dX1_rungsOpenTo_7 rfl (fun h => ?_) (fun h => ?_)
    · refine go_iload_n C dX1_rungsOpenTo_32 2 rfl ?_
      cases h
      exact go_iret C dX1_rungsOpenTo_33 rfl rfl
    · refine go_aload_n C dX1_rungsOpenTo_10 0 rfl ?_
      refine go_iload_n C dX1_rungsOpenTo_11 1 rfl ?_
      refine go_iload_n C dX1_rungsOpenTo_12 3 rfl ?_
      obtain ⟨r1, k2, h⟩ := tbd_e h
      refine go_callV (q0 := 0) (wr := ([] : va_W)) (w' := u1 G T0 T1 T2 T3 T4 T5 T) C cfX1_69 viX1_mayBeOn (m1_mayBeOn_k l G T0 T1 T2 T3 T4 T5 T x1 x3 r1 k2) dX1_rungsOpenTo_13 (by decide) ⟨Nat.zero_le _, Nat.zero_le _⟩ rfl rfl (Nat.le_of_ble_eq_true rfl) rfl [0, 1, 2, 3, 4, 5] [] [0, 1, 2, 3, 4, 5] rfl rfl (by decide) rfl ?_
      refine go_if_eq (tgt := 26) C h dX1_rungsOpenTo_16 rfl (fun h => ?_) (fun h => ?_)
      · refine go_iincN (lf := fun v3 => [(3, .int v3), (0, .ref T0), (1, .int x1), (2, .int x2)]) C h dX1_rungsOpenTo_26 3 rfl rfl (by decide) (fun _ => rfl) (fun v3 h => ?_)
        refine go_goto (tgt := 4) C dX1_rungsOpenTo_29 rfl ?_
        exact go_lv [1, 2, 3, 0] rfl (ih x2 v3 h)
      · refine go_iload_n C dX1_rungsOpenTo_19 2 rfl ?_
        refine go_iload_n C dX1_rungsOpenTo_20 3 rfl ?_
        obtain ⟨r4, k5, h⟩ := tbd_e h
        refine go_callSN0 C cfX1_62 (wr7 _ (List.mem_of_getElem? (i := 14) rfl)) (m9_bitOf_k l G x3 r4 k5) dX1_rungsOpenTo_21 (by decide) ⟨Nat.zero_le _, Nat.zero_le _⟩ rfl rfl (Nat.le_of_ble_eq_true rfl) ?_
        refine go_ior C dX1_rungsOpenTo_24 ?_
        refine go_istore_nN (lf := fun v6 => [(2, .int v6), (0, .ref T0), (1, .int x1), (3, .int x3)]) C h dX1_rungsOpenTo_25 (by decide) (fun _ => rfl) (fun v6 h => ?_)
        refine go_iincN (lf := fun v7 => [(3, .int v7), (2, .int v6), (0, .ref T0), (1, .int x1)]) C h dX1_rungsOpenTo_26 3 rfl rfl (by decide) (fun _ => rfl) (fun v7 h => ?_)
        refine go_goto (tgt := 4) C dX1_rungsOpenTo_29 rfl ?_
        exact go_lv [2, 3, 1, 0] rfl (ih v6 v7 h)

set_option maxRecDepth 100000 in
set_option maxHeartbeats 4000000 in
theorem m1_rungsOpenTo_k (l : Launch) (G : gG) (T0 T1 T2 T3 T4 T5 : Nat) (T : SX1) (a1 : Int32) (R0 : Int32) (h : m1_rungsOpenTo T a1 = some R0) : KK l G yX1_rungsOpenTo cX1_rungsOpenTo 4 (some .int) 1 22 [.ref T0, .int a1] (u1 G T0 T1 T2 T3 T4 T5 T) (some (.int R0)) (u1 G T0 T1 T2 T3 T4 T5 T) := by
  refine KK_intro (own := RX1) (by decide +kernel) rfl (Nat.le_of_ble_eq_true rfl) rfl ?_
  intro p e s m args below meth c A C
  unfold m1_rungsOpenTo at h
  refine go_iconst (v := 0) C dX1_rungsOpenTo_0 rfl ?_
  refine go_istore_n (lv' := [(2, .int (0 : Int32)), (0, .ref T0), (1, .int a1)]) C dX1_rungsOpenTo_1 (by decide) rfl ?_
  refine go_iconst (v := 1) C dX1_rungsOpenTo_2 rfl ?_
  refine go_istore_n (lv' := [(3, .int (1 : Int32)), (2, .int (0 : Int32)), (0, .ref T0), (1, .int a1)]) C dX1_rungsOpenTo_3 (by decide) rfl ?_
  exact go_lv [2, 3, 1, 0] rfl (m1_rungsOpenTo_L4_k C T0 T1 T2 T3 T4 T5 T a1 R0  FU (0 : Int32) (1 : Int32) h)

set_option maxRecDepth 100000 in
set_option maxHeartbeats 4000000 in
theorem m1_rungsToLease_L4_k {p : Program} {l : Launch} {e : Env} {s : State} {m : MethodId} {args : Array Value} {below : List Frame} {meth : Method} {c : Code} {G : gG} {A : Nat → Prop} (C : Cx p e s m args meth c G RX1 cX1_rungsToLease 3 (some .int) A) (T0 T1 T2 T3 T4 T5 : Nat) (T : SX1) (R0 : Int32)  : ∀ (n : Nat) (x1 : Int32) (x2 : Int32), tit (m1_rungsToLease_L4 T) n (x1, x2) = some R0 → Gq p l e (rq 2 41) s m args below meth c G A 3 0 0 (MQ below (QK G (some (.int R0)) (u1 G T0 T1 T2 T3 T4 T5 T) A) args s 0 0 A) 4 [(0, .ref T0), (1, .int x1), (2, .int x2)] [] (u1 G T0 T1 T2 T3 T4 T5 T) := by
  intro n
  induction n with
  | zero => exact fun _ _ h => (tit_z h).elim
  | succ n ih =>
    intro x1 x2 h
    replace h : m1_rungsToLease_B4 T (tit (m1_rungsToLease_L4 T) n) x1 x2 = some R0 := h
    unfold m1_rungsToLease_B4 at h
    refine go_iload_n C dX1_rungsToLease_4 2 rfl ?_
    refine go_bipush (v := 12) C dX1_rungsToLease_5 rfl ?_
    refine go_icmp_gt (tgt := 51) C h dX1_rungsToLease_7 rfl (fun h => ?_) (fun h => ?_)
    · refine go_iload_n C dX1_rungsToLease_51 1 rfl ?_
      cases h
      exact go_iret C dX1_rungsToLease_52 rfl rfl
    · refine go_aload_n C dX1_rungsToLease_10 0 rfl ?_
      refine go_iload_n C dX1_rungsToLease_11 2 rfl ?_
      obtain ⟨r1, k2, h⟩ := tbd_e h
      refine go_callV (q0 := 0) (wr := ([] : va_W)) (w' := u1 G T0 T1 T2 T3 T4 T5 T) C cfX1_73 viX1_isMissing (m1_isMissing_k l G T0 T1 T2 T3 T4 T5 T x2 r1 k2) dX1_rungsToLease_12 (by decide) ⟨Nat.zero_le _, Nat.zero_le _⟩ rfl rfl (Nat.le_of_ble_eq_true rfl) rfl [0, 1, 2, 3, 4, 5] [] [0, 1, 2, 3, 4, 5] rfl rfl (by decide) rfl ?_
      refine go_if_ne (tgt := 45) C h dX1_rungsToLease_15 rfl (fun h => ?_) (fun h => ?_)
      · refine go_iincN (lf := fun v3 => [(2, .int v3), (0, .ref T0), (1, .int x1)]) C h dX1_rungsToLease_45 2 rfl rfl (by decide) (fun _ => rfl) (fun v3 h => ?_)
        refine go_goto (tgt := 4) C dX1_rungsToLease_48 rfl ?_
        exact go_lv [1, 2, 0] rfl (ih x1 v3 h)
      · refine go_aload_n C dX1_rungsToLease_18 0 rfl ?_
        refine go_get (v := .ref T1) C ffX1_9 dX1_rungsToLease_19 0 rfl rfl ?_
        refine go_iload_n C dX1_rungsToLease_22 2 rfl ?_
        refine go_ialoadG (f := (g1_owner T)) C h dX1_rungsToLease_23 1 rfl (fun h => ?_)
        refine go_iconst (v := -1) C dX1_rungsToLease_24 rfl ?_
        refine go_icmp_eq (tgt := 45) C h dX1_rungsToLease_25 rfl (fun h => ?_) (fun h => ?_)
        · refine go_iincN (lf := fun v4 => [(2, .int v4), (0, .ref T0), (1, .int x1)]) C h dX1_rungsToLease_45 2 rfl rfl (by decide) (fun _ => rfl) (fun v4 h => ?_)
          refine go_goto (tgt := 4) C dX1_rungsToLease_48 rfl ?_
          exact go_lv [1, 2, 0] rfl (ih x1 v4 h)
        · refine go_aload_n C dX1_rungsToLease_28 0 rfl ?_
          refine go_get (v := .ref T2) C ffX1_15 dX1_rungsToLease_29 0 rfl rfl ?_
          refine go_iload_n C dX1_rungsToLease_32 2 rfl ?_
          refine go_ialoadG (f := (g1_leaser T)) C h dX1_rungsToLease_33 2 rfl (fun h => ?_)
          refine go_iconst (v := -1) C dX1_rungsToLease_34 rfl ?_
          refine go_icmp_ne (tgt := 45) C h dX1_rungsToLease_35 rfl (fun h => ?_) (fun h => ?_)
          · refine go_iincN (lf := fun v5 => [(2, .int v5), (0, .ref T0), (1, .int x1)]) C h dX1_rungsToLease_45 2 rfl rfl (by decide) (fun _ => rfl) (fun v5 h => ?_)
            refine go_goto (tgt := 4) C dX1_rungsToLease_48 rfl ?_
            exact go_lv [1, 2, 0] rfl (ih x1 v5 h)
          · refine go_iload_n C dX1_rungsToLease_38 1 rfl ?_
            refine go_iload_n C dX1_rungsToLease_39 2 rfl ?_
            obtain ⟨r6, k7, h⟩ := tbd_e h
            refine go_callSN0 C cfX1_62 (wr7 _ (List.mem_of_getElem? (i := 14) rfl)) (m9_bitOf_k l G x2 r6 k7) dX1_rungsToLease_40 (by decide) ⟨Nat.zero_le _, Nat.zero_le _⟩ rfl rfl (Nat.le_of_ble_eq_true rfl) ?_
            refine go_ior C dX1_rungsToLease_43 ?_
            refine go_istore_nN (lf := fun v8 => [(1, .int v8), (0, .ref T0), (2, .int x2)]) C h dX1_rungsToLease_44 (by decide) (fun _ => rfl) (fun v8 h => ?_)
            refine go_iincN (lf := fun v9 => [(2, .int v9), (1, .int v8), (0, .ref T0)]) C h dX1_rungsToLease_45 2 rfl rfl (by decide) (fun _ => rfl) (fun v9 h => ?_)
            refine go_goto (tgt := 4) C dX1_rungsToLease_48 rfl ?_
            exact go_lv [2, 1, 0] rfl (ih v8 v9 h)

set_option maxRecDepth 100000 in
set_option maxHeartbeats 4000000 in
theorem m1_rungsToLease_k (l : Launch) (G : gG) (T0 T1 T2 T3 T4 T5 : Nat) (T : SX1) (R0 : Int32) (h : m1_rungsToLease T = some R0) : KK l G yX1_rungsToLease cX1_rungsToLease 3 (some .int) 2 41 [.ref T0] (u1 G T0 T1 T2 T3 T4 T5 T) (some (.int R0)) (u1 G T0 T1 T2 T3 T4 T5 T) := by
  refine KK_intro (own := RX1) (by decide +kernel) rfl (Nat.le_of_ble_eq_true rfl) rfl ?_
  intro p e s m args below meth c A C
  unfold m1_rungsToLease at h
  refine go_iconst (v := 0) C dX1_rungsToLease_0 rfl ?_
  refine go_istore_n (lv' := [(1, .int (0 : Int32)), (0, .ref T0)]) C dX1_rungsToLease_1 (by decide) rfl ?_
  refine go_iconst (v := 1) C dX1_rungsToLease_2 rfl ?_
  refine go_istore_n (lv' := [(2, .int (1 : Int32)), (1, .int (0 : Int32)), (0, .ref T0)]) C dX1_rungsToLease_3 (by decide) rfl ?_
  exact go_lv [2, 1, 0] rfl (m1_rungsToLease_L4_k C T0 T1 T2 T3 T4 T5 T R0  FU (0 : Int32) (1 : Int32) h)

set_option maxRecDepth 100000 in
set_option maxHeartbeats 4000000 in
theorem m1_reasonAgainstLease_k (l : Launch) (G : gG) (T0 T1 T2 T3 T4 T5 : Nat) (T : SX1) (a1 : Int32) (a2 : Int32) (R0 : Int32) (h : m1_reasonAgainstLease T a1 a2 = some R0) : KK l G yX1_reasonAgainstLease cX1_reasonAgainstLease 3 (some .int) 2 41 [.ref T0, .int a1, .int a2] (u1 G T0 T1 T2 T3 T4 T5 T) (some (.int R0)) (u1 G T0 T1 T2 T3 T4 T5 T) := by
  refine KK_intro (own := RX1) (by decide +kernel) rfl (Nat.le_of_ble_eq_true rfl) rfl ?_
  intro p e s m args below meth c A C
  unfold m1_reasonAgainstLease at h
  refine go_aload_n C dX1_reasonAgainstLease_0 0 rfl ?_
  refine go_iload_n C dX1_reasonAgainstLease_1 2 rfl ?_
  obtain ⟨r1, k2, h⟩ := tbd_e h
  refine go_callV (q0 := 0) (wr := ([] : va_W)) (w' := u1 G T0 T1 T2 T3 T4 T5 T) C cfX1_73 viX1_isMissing (m1_isMissing_k l G T0 T1 T2 T3 T4 T5 T a2 r1 k2) dX1_reasonAgainstLease_2 (by decide) ⟨Nat.zero_le _, Nat.zero_le _⟩ rfl rfl (Nat.le_of_ble_eq_true rfl) rfl [0, 1, 2, 3, 4, 5] [] [0, 1, 2, 3, 4, 5] rfl rfl (by decide) rfl ?_
  refine go_if_eq (tgt := 10) C h dX1_reasonAgainstLease_5 rfl (fun h => ?_) (fun h => ?_)
  · refine go_aload_n C dX1_reasonAgainstLease_10 0 rfl ?_
    refine go_iload_n C dX1_reasonAgainstLease_11 2 rfl ?_
    obtain ⟨r3, k4, h⟩ := tbd_e h
    refine go_callV (q0 := 0) (wr := ([] : va_W)) (w' := u1 G T0 T1 T2 T3 T4 T5 T) C cfX1_112 viX1_ownerOf (m1_ownerOf_k l G T0 T1 T2 T3 T4 T5 T a2 r3 k4) dX1_reasonAgainstLease_12 (by decide) ⟨Nat.zero_le _, Nat.zero_le _⟩ rfl rfl (Nat.le_of_ble_eq_true rfl) rfl [0, 1, 2, 3, 4, 5] [] [0, 1, 2, 3, 4, 5] rfl rfl (by decide) rfl ?_
    refine go_iload_n C dX1_reasonAgainstLease_15 1 rfl ?_
    refine go_icmp_eq (tgt := 28) C h dX1_reasonAgainstLease_16 rfl (fun h => ?_) (fun h => ?_)
    · refine go_bipush (v := 6) C dX1_reasonAgainstLease_28 rfl ?_
      cases h
      exact go_iret C dX1_reasonAgainstLease_30 rfl rfl
    · refine go_aload_n C dX1_reasonAgainstLease_19 0 rfl ?_
      refine go_iload_n C dX1_reasonAgainstLease_20 2 rfl ?_
      obtain ⟨r5, k6, h⟩ := tbd_e h
      refine go_callV (q0 := 0) (wr := ([] : va_W)) (w' := u1 G T0 T1 T2 T3 T4 T5 T) C cfX1_112 viX1_ownerOf (m1_ownerOf_k l G T0 T1 T2 T3 T4 T5 T a2 r5 k6) dX1_reasonAgainstLease_21 (by decide) ⟨Nat.zero_le _, Nat.zero_le _⟩ rfl rfl (Nat.le_of_ble_eq_true rfl) rfl [0, 1, 2, 3, 4, 5] [] [0, 1, 2, 3, 4, 5] rfl rfl (by decide) rfl ?_
      refine go_iconst (v := -1) C dX1_reasonAgainstLease_24 rfl ?_
      refine go_icmp_ne (tgt := 31) C h dX1_reasonAgainstLease_25 rfl (fun h => ?_) (fun h => ?_)
      · refine go_aload_n C dX1_reasonAgainstLease_31 0 rfl ?_
        refine go_iload_n C dX1_reasonAgainstLease_32 2 rfl ?_
        obtain ⟨r7, k8, h⟩ := tbd_e h
        refine go_callV (q0 := 0) (wr := ([] : va_W)) (w' := u1 G T0 T1 T2 T3 T4 T5 T) C cfX1_115 viX1_leaserOf (m1_leaserOf_k l G T0 T1 T2 T3 T4 T5 T a2 r7 k8) dX1_reasonAgainstLease_33 (by decide) ⟨Nat.zero_le _, Nat.zero_le _⟩ rfl rfl (Nat.le_of_ble_eq_true rfl) rfl [0, 1, 2, 3, 4, 5] [] [0, 1, 2, 3, 4, 5] rfl rfl (by decide) rfl ?_
        refine go_iconst (v := -1) C dX1_reasonAgainstLease_36 rfl ?_
        refine go_icmp_eq (tgt := 43) C h dX1_reasonAgainstLease_37 rfl (fun h => ?_) (fun h => ?_)
        · refine go_aload_n C dX1_reasonAgainstLease_43 0 rfl ?_
          refine go_iload_n C dX1_reasonAgainstLease_44 1 rfl ?_
          obtain ⟨r9, k10, h⟩ := tbd_e h
          refine go_callV (q0 := 0) (wr := ([] : va_W)) (w' := u1 G T0 T1 T2 T3 T4 T5 T) C cfX1_118 viX1_coinsOf (m1_coinsOf_k l G T0 T1 T2 T3 T4 T5 T a1 r9 k10) dX1_reasonAgainstLease_45 (by decide) ⟨Nat.zero_le _, Nat.zero_le _⟩ rfl rfl (Nat.le_of_ble_eq_true rfl) rfl [0, 1, 2, 3, 4, 5] [] [0, 1, 2, 3, 4, 5] rfl rfl (by decide) rfl ?_
          refine go_if_gt (tgt := 56) C h dX1_reasonAgainstLease_48 rfl (fun h => ?_) (fun h => ?_)
          · refine go_iconst (v := 0) C dX1_reasonAgainstLease_56 rfl ?_
            cases h
            exact go_iret C dX1_reasonAgainstLease_57 rfl rfl
          · refine go_bipush (v := 8) C dX1_reasonAgainstLease_51 rfl ?_
            refine go_goto (tgt := 57) C dX1_reasonAgainstLease_53 rfl ?_
            cases h
            exact go_iret C dX1_reasonAgainstLease_57 rfl rfl
        · refine go_bipush (v := 7) C dX1_reasonAgainstLease_40 rfl ?_
          cases h
          exact go_iret C dX1_reasonAgainstLease_42 rfl rfl
      · refine go_bipush (v := 6) C dX1_reasonAgainstLease_28 rfl ?_
        cases h
        exact go_iret C dX1_reasonAgainstLease_30 rfl rfl
  · refine go_iconst (v := 3) C dX1_reasonAgainstLease_8 rfl ?_
    cases h
    exact go_iret C dX1_reasonAgainstLease_9 rfl rfl

set_option maxRecDepth 100000 in
set_option maxHeartbeats 4000000 in
theorem m1_reasonAgainstStep_k (l : Launch) (G : gG) (T0 T1 T2 T3 T4 T5 : Nat) (T : SX1) (a1 : Int32) (a2 : Int32) (R0 : Int32) (h : m1_reasonAgainstStep T a1 a2 = some R0) : KK l G yX1_reasonAgainstStep cX1_reasonAgainstStep 4 (some .int) 2 41 [.ref T0, .int a1, .int a2] (u1 G T0 T1 T2 T3 T4 T5 T) (some (.int R0)) (u1 G T0 T1 T2 T3 T4 T5 T) := by
  refine KK_intro (own := RX1) (by decide +kernel) rfl (Nat.le_of_ble_eq_true rfl) rfl ?_
  intro p e s m args below meth c A C
  unfold m1_reasonAgainstStep at h
  refine go_aload_n C dX1_reasonAgainstStep_0 0 rfl ?_
  refine go_iload_n C dX1_reasonAgainstStep_1 1 rfl ?_
  obtain ⟨r1, k2, h⟩ := tbd_e h
  refine go_callV (q0 := 0) (wr := ([] : va_W)) (w' := u1 G T0 T1 T2 T3 T4 T5 T) C cfX1_95 viX1_hasStepped (m1_hasStepped_k l G T0 T1 T2 T3 T4 T5 T a1 r1 k2) dX1_reasonAgainstStep_2 (by decide) ⟨Nat.zero_le _, Nat.zero_le _⟩ rfl rfl (Nat.le_of_ble_eq_true rfl) rfl [0, 1, 2, 3, 4, 5] [] [0, 1, 2, 3, 4, 5] rfl rfl (by decide) rfl ?_
  refine go_if_eq (tgt := 10) C h dX1_reasonAgainstStep_5 rfl (fun h => ?_) (fun h => ?_)
  · refine go_iload_n C dX1_reasonAgainstStep_10 2 rfl ?_
    refine go_aload_n C dX1_reasonAgainstStep_11 0 rfl ?_
    refine go_iload_n C dX1_reasonAgainstStep_12 1 rfl ?_
    obtain ⟨r3, k4, h⟩ := tbd_e h
    refine go_callV (q0 := 0) (wr := ([] : va_W)) (w' := u1 G T0 T1 T2 T3 T4 T5 T) C cfX1_98 viX1_placeOf (m1_placeOf_k l G T0 T1 T2 T3 T4 T5 T a1 r3 k4) dX1_reasonAgainstStep_13 (by decide) ⟨Nat.zero_le _, Nat.zero_le _⟩ rfl rfl (Nat.le_of_ble_eq_true rfl) rfl [0, 1, 2, 3, 4, 5] [] [0, 1, 2, 3, 4, 5] rfl rfl (by decide) rfl ?_
    refine go_isub C dX1_reasonAgainstStep_16 ?_
    refine go_mabs C cmX1_101 dX1_reasonAgainstStep_17 (by decide) (Nat.le_of_ble_eq_true rfl) (Nat.zero_le _) (Nat.zero_le _) ?_
    refine go_istore_nN (lf := fun v5 => [(3, .int v5), (0, .ref T0), (1, .int a1), (2, .int a2)]) C h dX1_reasonAgainstStep_20 (by decide) (fun _ => rfl) (fun v5 h => ?_)
    refine go_iload_n C dX1_reasonAgainstStep_21 0 rfl ?_
    refine go_if_eq (tgt := 34) C h dX1_reasonAgainstStep_22 rfl (fun h => ?_) (fun h => ?_)
    · refine go_iconst (v := 2) C dX1_reasonAgainstStep_34 rfl ?_
      cases h
      exact go_iret C dX1_reasonAgainstStep_35 rfl rfl
    · refine go_iload_n C dX1_reasonAgainstStep_25 0 rfl ?_
      refine go_aload_n C dX1_reasonAgainstStep_26 1 rfl ?_
      refine go_iload_n C dX1_reasonAgainstStep_27 2 rfl ?_
      obtain ⟨r6, k7, h⟩ := tbd_e h
      refine go_callV (q0 := 0) (wr := ([] : va_W)) (w' := u1 G T0 T1 T2 T3 T4 T5 T) C cfX1_106 viX1_strideOf (m1_strideOf_k l G T0 T1 T2 T3 T4 T5 T a1 r6 k7) dX1_reasonAgainstStep_28 (by decide) ⟨Nat.zero_le _, Nat.zero_le _⟩ rfl rfl (Nat.le_of_ble_eq_true rfl) rfl [0, 1, 2, 3, 4, 5] [] [0, 1, 2, 3, 4, 5] rfl rfl (by decide) rfl ?_
      refine go_icmp_le (tgt := 36) C h dX1_reasonAgainstStep_31 rfl (fun h => ?_) (fun h => ?_)
      · refine go_iload_n C dX1_reasonAgainstStep_36 3 rfl ?_
        obtain ⟨r8, k9, h⟩ := tbd_e h
        refine go_callSN0 C cfX1_58 (wr6 _ (List.mem_of_getElem? (i := 16) rfl)) (m9_isRung_k l G a2 r8 k9) dX1_reasonAgainstStep_37 (by decide) ⟨Nat.zero_le _, Nat.zero_le _⟩ rfl rfl (Nat.le_of_ble_eq_true rfl) ?_
        refine go_if_ne (tgt := 45) C h dX1_reasonAgainstStep_40 rfl (fun h => ?_) (fun h => ?_)
        · refine go_aload_n C dX1_reasonAgainstStep_45 1 rfl ?_
          refine go_iload_n C dX1_reasonAgainstStep_46 3 rfl ?_
          obtain ⟨r10, k11, h⟩ := tbd_e h
          refine go_callV (q0 := 0) (wr := ([] : va_W)) (w' := u1 G T0 T1 T2 T3 T4 T5 T) C cfX1_73 viX1_isMissing (m1_isMissing_k l G T0 T1 T2 T3 T4 T5 T a2 r10 k11) dX1_reasonAgainstStep_47 (by decide) ⟨Nat.zero_le _, Nat.zero_le _⟩ rfl rfl (Nat.le_of_ble_eq_true rfl) rfl [0, 1, 2, 3, 4, 5] [] [0, 1, 2, 3, 4, 5] rfl rfl (by decide) rfl ?_
          refine go_if_eq (tgt := 55) C h dX1_reasonAgainstStep_50 rfl (fun h => ?_) (fun h => ?_)
          · refine go_aload_n C dX1_reasonAgainstStep_55 1 rfl ?_
            refine go_iload_n C dX1_reasonAgainstStep_56 2 rfl ?_
            refine go_iload_n C dX1_reasonAgainstStep_57 3 rfl ?_
            obtain ⟨r12, k13, h⟩ := tbd_e h
            refine go_callV (q0 := 0) (wr := ([] : va_W)) (w' := u1 G T0 T1 T2 T3 T4 T5 T) C cfX1_69 viX1_mayBeOn (m1_mayBeOn_k l G T0 T1 T2 T3 T4 T5 T a1 a2 r12 k13) dX1_reasonAgainstStep_58 (by decide) ⟨Nat.zero_le _, Nat.zero_le _⟩ rfl rfl (Nat.le_of_ble_eq_true rfl) rfl [0, 1, 2, 3, 4, 5] [] [0, 1, 2, 3, 4, 5] rfl rfl (by decide) rfl ?_
            refine go_if_ne (tgt := 66) C h dX1_reasonAgainstStep_61 rfl (fun h => ?_) (fun h => ?_)
            · refine go_aload_n C dX1_reasonAgainstStep_66 1 rfl ?_
              refine go_iload_n C dX1_reasonAgainstStep_67 3 rfl ?_
              obtain ⟨r14, k15, h⟩ := tbd_e h
              refine go_callV (q0 := 0) (wr := ([] : va_W)) (w' := u1 G T0 T1 T2 T3 T4 T5 T) C cfX1_109 viX1_firstManOn (m1_firstManOn_k l G T0 T1 T2 T3 T4 T5 T a2 r14 k15) dX1_reasonAgainstStep_68 (by decide) ⟨Nat.zero_le _, Nat.zero_le _⟩ rfl rfl (Nat.le_of_ble_eq_true rfl) rfl [0, 1, 2, 3, 4, 5] [] [0, 1, 2, 3, 4, 5] rfl rfl (by decide) rfl ?_
              refine go_iconst (v := -1) C dX1_reasonAgainstStep_71 rfl ?_
              refine go_icmp_eq (tgt := 79) C h dX1_reasonAgainstStep_72 rfl (fun h => ?_) (fun h => ?_)
              · refine go_iconst (v := 0) C dX1_reasonAgainstStep_79 rfl ?_
                cases h
                exact go_iret C dX1_reasonAgainstStep_80 rfl rfl
              · refine go_iconst (v := 5) C dX1_reasonAgainstStep_75 rfl ?_
                refine go_goto (tgt := 80) C dX1_reasonAgainstStep_76 rfl ?_
                cases h
                exact go_iret C dX1_reasonAgainstStep_80 rfl rfl
            · refine go_iconst (v := 4) C dX1_reasonAgainstStep_64 rfl ?_
              cases h
              exact go_iret C dX1_reasonAgainstStep_65 rfl rfl
          · refine go_iconst (v := 3) C dX1_reasonAgainstStep_53 rfl ?_
            cases h
            exact go_iret C dX1_reasonAgainstStep_54 rfl rfl
        · refine go_iconst (v := 0) C dX1_reasonAgainstStep_43 rfl ?_
          cases h
          exact go_iret C dX1_reasonAgainstStep_44 rfl rfl
      · refine go_iconst (v := 2) C dX1_reasonAgainstStep_34 rfl ?_
        cases h
        exact go_iret C dX1_reasonAgainstStep_35 rfl rfl
  · refine go_iconst (v := 1) C dX1_reasonAgainstStep_8 rfl ?_
    cases h
    exact go_iret C dX1_reasonAgainstStep_9 rfl rfl

set_option maxRecDepth 100000 in
set_option maxHeartbeats 4000000 in
theorem m1_reasonAgainst_k (l : Launch) (G : gG) (T0 T1 T2 T3 T4 T5 Ob0 : Nat) (T : SX1) (Ob : SX0) (R0 : Int32) (h : m1_reasonAgainst T Ob = some R0) : KK l G yX1_reasonAgainst cX1_reasonAgainst 2 (some .int) 3 64 [.ref T0, .ref Ob0] (u1 G T0 T1 T2 T3 T4 T5 T ++ (u0 G Ob0 Ob)) (some (.int R0)) (u1 G T0 T1 T2 T3 T4 T5 T ++ (u0 G Ob0 Ob)) := by
  refine KK_intro (own := RX1) (by decide +kernel) rfl (Nat.le_of_ble_eq_true rfl) rfl ?_
  intro p e s m args below meth c A C
  unfold m1_reasonAgainst at h
  refine go_aload_n C dX1_reasonAgainst_0 1 rfl ?_
  obtain ⟨r1, k2, h⟩ := tbd_e h
  refine go_callV (q0 := 6) (wr := u1 G T0 T1 T2 T3 T4 T5 T) (w' := u1 G T0 T1 T2 T3 T4 T5 T ++ (u0 G Ob0 Ob)) C cfX1_76 viX0_kindOf (m0_kindOf_k l G Ob0 Ob r1 k2) dX1_reasonAgainst_1 (by decide) ⟨Nat.zero_le _, Nat.zero_le _⟩ rfl rfl (Nat.le_of_ble_eq_true rfl) rfl [6] [0, 1, 2, 3, 4, 5] [0, 1, 2, 3, 4, 5, 6] rfl rfl (by decide) rfl ?_
  refine go_ite h (fun q h => ?_) (fun q0 h => ?_)
  · refine go_tabIn (off := 32) (tgt := 36) C dX1_reasonAgainst_4 q (by decide) (by decide) rfl ?_
    refine go_aload_n C dX1_reasonAgainst_36 0 rfl ?_
    refine go_aload_n C dX1_reasonAgainst_37 1 rfl ?_
    obtain ⟨r3, k4, h⟩ := tbd_e h
    refine go_callV (q0 := 6) (wr := u1 G T0 T1 T2 T3 T4 T5 T) (w' := u1 G T0 T1 T2 T3 T4 T5 T ++ (u0 G Ob0 Ob)) C cfX1_82 viX0_doer (m0_doer_k l G Ob0 Ob r3 k4) dX1_reasonAgainst_38 (by decide) ⟨Nat.zero_le _, Nat.zero_le _⟩ rfl rfl (Nat.le_of_ble_eq_true rfl) rfl [6] [0, 1, 2, 3, 4, 5] [0, 1, 2, 3, 4, 5, 6] rfl rfl (by decide) rfl ?_
    refine go_aload_n C dX1_reasonAgainst_41 1 rfl ?_
    obtain ⟨r5, k6, h⟩ := tbd_e h
    refine go_callV (q0 := 6) (wr := u1 G T0 T1 T2 T3 T4 T5 T) (w' := u1 G T0 T1 T2 T3 T4 T5 T ++ (u0 G Ob0 Ob)) C cfX1_85 viX0_target (m0_target_k l G Ob0 Ob r5 k6) dX1_reasonAgainst_42 (by decide) ⟨Nat.zero_le _, Nat.zero_le _⟩ rfl rfl (Nat.le_of_ble_eq_true rfl) rfl [6] [0, 1, 2, 3, 4, 5] [0, 1, 2, 3, 4, 5, 6] rfl rfl (by decide) rfl ?_
    obtain ⟨r7, k8, h⟩ := tbd_e h
    refine go_callV (q0 := 0) (wr := u0 G Ob0 Ob) (w' := u1 G T0 T1 T2 T3 T4 T5 T ++ (u0 G Ob0 Ob)) C cfX1_88 viX1_reasonAgainstStep (m1_reasonAgainstStep_k l G T0 T1 T2 T3 T4 T5 T r3 r5 r7 k8) dX1_reasonAgainst_45 (by decide) ⟨Nat.zero_le _, Nat.zero_le _⟩ rfl rfl (Nat.le_of_ble_eq_true rfl) rfl [0, 1, 2, 3, 4, 5] [6] [1, 2, 3, 4, 5, 6, 0] rfl rfl (by decide) rfl ?_
    cases h
    exact go_iret C dX1_reasonAgainst_48 rfl rfl
  refine go_ite h (fun q h => ?_) (fun q1 h => ?_)
  · refine go_tabIn (off := 45) (tgt := 49) C dX1_reasonAgainst_4 q (by decide) (by decide) rfl ?_
    refine go_aload_n C dX1_reasonAgainst_49 0 rfl ?_
    refine go_aload_n C dX1_reasonAgainst_50 1 rfl ?_
    obtain ⟨r9, k10, h⟩ := tbd_e h
    refine go_callV (q0 := 6) (wr := u1 G T0 T1 T2 T3 T4 T5 T) (w' := u1 G T0 T1 T2 T3 T4 T5 T ++ (u0 G Ob0 Ob)) C cfX1_82 viX0_doer (m0_doer_k l G Ob0 Ob r9 k10) dX1_reasonAgainst_51 (by decide) ⟨Nat.zero_le _, Nat.zero_le _⟩ rfl rfl (Nat.le_of_ble_eq_true rfl) rfl [6] [0, 1, 2, 3, 4, 5] [0, 1, 2, 3, 4, 5, 6] rfl rfl (by decide) rfl ?_
    refine go_aload_n C dX1_reasonAgainst_54 1 rfl ?_
    obtain ⟨r11, k12, h⟩ := tbd_e h
    refine go_callV (q0 := 6) (wr := u1 G T0 T1 T2 T3 T4 T5 T) (w' := u1 G T0 T1 T2 T3 T4 T5 T ++ (u0 G Ob0 Ob)) C cfX1_85 viX0_target (m0_target_k l G Ob0 Ob r11 k12) dX1_reasonAgainst_55 (by decide) ⟨Nat.zero_le _, Nat.zero_le _⟩ rfl rfl (Nat.le_of_ble_eq_true rfl) rfl [6] [0, 1, 2, 3, 4, 5] [0, 1, 2, 3, 4, 5, 6] rfl rfl (by decide) rfl ?_
    obtain ⟨r13, k14, h⟩ := tbd_e h
    refine go_callV (q0 := 0) (wr := u0 G Ob0 Ob) (w' := u1 G T0 T1 T2 T3 T4 T5 T ++ (u0 G Ob0 Ob)) C cfX1_92 viX1_reasonAgainstLease (m1_reasonAgainstLease_k l G T0 T1 T2 T3 T4 T5 T r9 r11 r13 k14) dX1_reasonAgainst_58 (by decide) ⟨Nat.zero_le _, Nat.zero_le _⟩ rfl rfl (Nat.le_of_ble_eq_true rfl) rfl [0, 1, 2, 3, 4, 5] [6] [1, 2, 3, 4, 5, 6, 0] rfl rfl (by decide) rfl ?_
    cases h
    exact go_iret C dX1_reasonAgainst_61 rfl rfl
  refine go_ite h (fun q h => ?_) (fun q2 h => ?_)
  · refine go_tabIn (off := 58) (tgt := 62) C dX1_reasonAgainst_4 q (by decide) (by decide) rfl ?_
    refine go_aload_n C dX1_reasonAgainst_62 0 rfl ?_
    refine go_aload_n C dX1_reasonAgainst_63 1 rfl ?_
    obtain ⟨r15, k16, h⟩ := tbd_e h
    refine go_callV (q0 := 6) (wr := u1 G T0 T1 T2 T3 T4 T5 T) (w' := u1 G T0 T1 T2 T3 T4 T5 T ++ (u0 G Ob0 Ob)) C cfX1_85 viX0_target (m0_target_k l G Ob0 Ob r15 k16) dX1_reasonAgainst_64 (by decide) ⟨Nat.zero_le _, Nat.zero_le _⟩ rfl rfl (Nat.le_of_ble_eq_true rfl) rfl [6] [0, 1, 2, 3, 4, 5] [0, 1, 2, 3, 4, 5, 6] rfl rfl (by decide) rfl ?_
    obtain ⟨r17, k18, h⟩ := tbd_e h
    refine go_callV (q0 := 0) (wr := u0 G Ob0 Ob) (w' := u1 G T0 T1 T2 T3 T4 T5 T ++ (u0 G Ob0 Ob)) C cfX1_73 viX1_isMissing (m1_isMissing_k l G T0 T1 T2 T3 T4 T5 T r15 r17 k18) dX1_reasonAgainst_67 (by decide) ⟨Nat.zero_le _, Nat.zero_le _⟩ rfl rfl (Nat.le_of_ble_eq_true rfl) rfl [0, 1, 2, 3, 4, 5] [6] [1, 2, 3, 4, 5, 6, 0] rfl rfl (by decide) rfl ?_
    refine go_if_eq (tgt := 78) C h dX1_reasonAgainst_70 rfl (fun h => ?_) (fun h => ?_)
    · refine go_iconst (v := 0) C dX1_reasonAgainst_78 rfl ?_
      cases h
      exact go_iret C dX1_reasonAgainst_79 rfl rfl
    · refine go_bipush (v := 9) C dX1_reasonAgainst_73 rfl ?_
      refine go_goto (tgt := 79) C dX1_reasonAgainst_75 rfl ?_
      cases h
      exact go_iret C dX1_reasonAgainst_79 rfl rfl
  refine go_ite h (fun q h => ?_) (fun q3 h => ?_)
  · refine go_tabIn (off := 76) (tgt := 80) C dX1_reasonAgainst_4 q (by decide) (by decide) rfl ?_
    refine go_aload_n C dX1_reasonAgainst_80 0 rfl ?_
    refine go_aload_n C dX1_reasonAgainst_81 1 rfl ?_
    obtain ⟨r19, k20, h⟩ := tbd_e h
    refine go_callV (q0 := 6) (wr := u1 G T0 T1 T2 T3 T4 T5 T) (w' := u1 G T0 T1 T2 T3 T4 T5 T ++ (u0 G Ob0 Ob)) C cfX1_85 viX0_target (m0_target_k l G Ob0 Ob r19 k20) dX1_reasonAgainst_82 (by decide) ⟨Nat.zero_le _, Nat.zero_le _⟩ rfl rfl (Nat.le_of_ble_eq_true rfl) rfl [6] [0, 1, 2, 3, 4, 5] [0, 1, 2, 3, 4, 5, 6] rfl rfl (by decide) rfl ?_
    obtain ⟨r21, k22, h⟩ := tbd_e h
    refine go_callV (q0 := 0) (wr := u0 G Ob0 Ob) (w' := u1 G T0 T1 T2 T3 T4 T5 T ++ (u0 G Ob0 Ob)) C cfX1_73 viX1_isMissing (m1_isMissing_k l G T0 T1 T2 T3 T4 T5 T r19 r21 k22) dX1_reasonAgainst_85 (by decide) ⟨Nat.zero_le _, Nat.zero_le _⟩ rfl rfl (Nat.le_of_ble_eq_true rfl) rfl [0, 1, 2, 3, 4, 5] [6] [1, 2, 3, 4, 5, 6, 0] rfl rfl (by decide) rfl ?_
    refine go_if_eq (tgt := 95) C h dX1_reasonAgainst_88 rfl (fun h => ?_) (fun h => ?_)
    · refine go_bipush (v := 9) C dX1_reasonAgainst_95 rfl ?_
      cases h
      exact go_iret C dX1_reasonAgainst_97 rfl rfl
    · refine go_iconst (v := 0) C dX1_reasonAgainst_91 rfl ?_
      refine go_goto (tgt := 97) C dX1_reasonAgainst_92 rfl ?_
      cases h
      exact go_iret C dX1_reasonAgainst_97 rfl rfl
  refine go_tabOut (tgt := 98) C dX1_reasonAgainst_4 (by have a0 := lv_neT (a := 0) q0 rfl; have a1 := lv_neT (a := 1) q1 rfl; have a2 := lv_neT (a := 2) q2 rfl; have a3 := lv_neT (a := 3) q3 rfl; omega) rfl ?_
  refine go_aload_n C dX1_reasonAgainst_98 0 rfl ?_
  refine go_get (v := .int (g1_beat T)) C ffX1_34 dX1_reasonAgainst_99 0 rfl rfl ?_
  refine go_bipush (v := 99) C dX1_reasonAgainst_102 rfl ?_
  refine go_icmp_lt (tgt := 112) C h dX1_reasonAgainst_104 rfl (fun h => ?_) (fun h => ?_)
  · refine go_iconst (v := 0) C dX1_reasonAgainst_112 rfl ?_
    cases h
    exact go_iret C dX1_reasonAgainst_113 rfl rfl
  · refine go_bipush (v := 10) C dX1_reasonAgainst_107 rfl ?_
    refine go_goto (tgt := 113) C dX1_reasonAgainst_109 rfl ?_
    cases h
    exact go_iret C dX1_reasonAgainst_113 rfl rfl

set_option maxRecDepth 100000 in
set_option maxHeartbeats 4000000 in
theorem m1_leaseTo_J17_k {p : Program} {l : Launch} {e : Env} {s : State} {m : MethodId} {args : Array Value} {below : List Frame} {meth : Method} {c : Code} {G : gG} {A : Nat → Prop} (C : Cx p e s m args meth c G RX1 cX1_leaseTo 4 none A) (T0 T1 T2 T3 T4 T5 : Nat) (T : SX1) (x1 : Int32) (x2 : Int32) (y0 : Int32) (R0 : SX1)  (h : m1_leaseTo_J17 T x1 x2 y0 = some R0) : Gq p l e (rq 1 20) s m args below meth c G A 4 0 0 (MQ below (QK G none (u1 G T0 T1 T2 T3 T4 T5 R0) A) args s 0 0 A) 17 [(0, .ref T0), (1, .int x1), (2, .int x2)] [.int y0] (u1 G T0 T1 T2 T3 T4 T5 T) := by
  unfold m1_leaseTo_J17 at h
  refine go_istore_n (lv' := [(3, .int y0), (0, .ref T0), (1, .int x1), (2, .int x2)]) C dX1_leaseTo_17 (by decide) rfl ?_
  refine go_iload_n C dX1_leaseTo_18 3 rfl ?_
  obtain ⟨r3, k4, h⟩ := tbd_e h
  refine go_callSN0 C cfX1_58 (wr6 _ (List.mem_of_getElem? (i := 16) rfl)) (m9_isRung_k l G x2 r3 k4) dX1_leaseTo_19 (by decide) ⟨Nat.zero_le _, Nat.zero_le _⟩ rfl rfl (Nat.le_of_ble_eq_true rfl) ?_
  refine go_if_eq (tgt := 66) C h dX1_leaseTo_22 rfl (fun h => ?_) (fun h => ?_)
  · cases h
    exact go_vret C dX1_leaseTo_66 rfl rfl
  · refine go_iload_n C dX1_leaseTo_25 2 rfl ?_
    obtain ⟨r5, k6, h⟩ := tbd_e h
    refine go_callSN0 C cfX1_66 (wr6 _ (List.mem_of_getElem? (i := 22) rfl)) (m9_isMan_k l G x1 r5 k6) dX1_leaseTo_26 (by decide) ⟨Nat.zero_le _, Nat.zero_le _⟩ rfl rfl (Nat.le_of_ble_eq_true rfl) ?_
    refine go_if_eq (tgt := 66) C h dX1_leaseTo_29 rfl (fun h => ?_) (fun h => ?_)
    · cases h
      exact go_vret C dX1_leaseTo_66 rfl rfl
    · refine go_iload_n C dX1_leaseTo_32 0 rfl ?_
      obtain ⟨r7, k8, h⟩ := tbd_e h
      refine go_callSN0 C cfX1_66 (wr6 _ (List.mem_of_getElem? (i := 22) rfl)) (m9_isMan_k l G y0 r7 k8) dX1_leaseTo_33 (by decide) ⟨Nat.zero_le _, Nat.zero_le _⟩ rfl rfl (Nat.le_of_ble_eq_true rfl) ?_
      refine go_if_eq (tgt := 66) C h dX1_leaseTo_36 rfl (fun h => ?_) (fun h => ?_)
      · cases h
        exact go_vret C dX1_leaseTo_66 rfl rfl
      · refine go_aload_n C dX1_leaseTo_39 1 rfl ?_
        refine go_get (v := .ref T2) C ffX1_15 dX1_leaseTo_40 0 rfl rfl ?_
        refine go_iload_n C dX1_leaseTo_43 3 rfl ?_
        refine go_iload_n C dX1_leaseTo_44 2 rfl ?_
        refine go_iastoreG (f := (g1_leaser T)) (w' := u1 G T0 T1 T2 T3 T4 T5 (s1_leaser T (upd (g1_leaser T) (Int32.toNatClampNeg x2) x1))) C h dX1_leaseTo_45 2 rfl z1_leaser (fun h => ?_)
        refine go_aload_n C dX1_leaseTo_46 1 rfl ?_
        refine go_get (v := .ref T4) C ffX1_25 dX1_leaseTo_47 0 rfl rfl ?_
        refine go_iload_n C dX1_leaseTo_50 2 rfl ?_
        refine go_dup2 C dX1_leaseTo_51 rfl rfl ?_
        refine go_ialoadG (f := (g1_coins T)) C h dX1_leaseTo_52 4 rfl (fun h => ?_)
        refine go_iconst (v := 1) C dX1_leaseTo_53 rfl ?_
        refine go_isub C dX1_leaseTo_54 ?_
        refine go_iastoreG (f := (g1_coins T)) (w' := u1 G T0 T1 T2 T3 T4 T5 (s1_coins (s1_leaser T (upd (g1_leaser T) (Int32.toNatClampNeg x2) x1)) (upd (g1_coins T) (Int32.toNatClampNeg x1) (((g1_coins T) (Int32.toNatClampNeg x1)) - (1 : Int32))))) C h dX1_leaseTo_55 4 rfl z1_coins (fun h => ?_)
        refine go_aload_n C dX1_leaseTo_56 1 rfl ?_
        refine go_get (v := .ref T4) C ffX1_25 dX1_leaseTo_57 0 rfl rfl ?_
        refine go_iload_n C dX1_leaseTo_60 0 rfl ?_
        refine go_dup2 C dX1_leaseTo_61 rfl rfl ?_
        refine go_ialoadG (f := (upd (g1_coins T) (Int32.toNatClampNeg x1) (((g1_coins T) (Int32.toNatClampNeg x1)) - (1 : Int32)))) C h dX1_leaseTo_62 4 rfl (fun h => ?_)
        refine go_iconst (v := 1) C dX1_leaseTo_63 rfl ?_
        refine go_iadd C dX1_leaseTo_64 ?_
        refine go_iastoreG (f := (upd (g1_coins T) (Int32.toNatClampNeg x1) (((g1_coins T) (Int32.toNatClampNeg x1)) - (1 : Int32)))) (w' := u1 G T0 T1 T2 T3 T4 T5 (s1_coins (s1_leaser T (upd (g1_leaser T) (Int32.toNatClampNeg x2) x1)) (upd (upd (g1_coins T) (Int32.toNatClampNeg x1) (((g1_coins T) (Int32.toNatClampNeg x1)) - (1 : Int32))) (Int32.toNatClampNeg y0) (((upd (g1_coins T) (Int32.toNatClampNeg x1) (((g1_coins T) (Int32.toNatClampNeg x1)) - (1 : Int32))) (Int32.toNatClampNeg y0)) + (1 : Int32))))) C h dX1_leaseTo_65 4 rfl z1_coins (fun h => ?_)
        cases h
        exact go_vret C dX1_leaseTo_66 rfl rfl

set_option maxRecDepth 100000 in
set_option maxHeartbeats 4000000 in
theorem m1_leaseTo_k (l : Launch) (G : gG) (T0 T1 T2 T3 T4 T5 : Nat) (T : SX1) (a1 : Int32) (a2 : Int32) (R0 : SX1) (h : m1_leaseTo T a1 a2 = some R0) : KK l G yX1_leaseTo cX1_leaseTo 4 none 1 20 [.ref T0, .int a1, .int a2] (u1 G T0 T1 T2 T3 T4 T5 T) none (u1 G T0 T1 T2 T3 T4 T5 R0) := by
  refine KK_intro (own := RX1) (by decide +kernel) rfl (Nat.le_of_ble_eq_true rfl) rfl ?_
  intro p e s m args below meth c A C
  unfold m1_leaseTo at h
  refine go_iload_n C dX1_leaseTo_0 2 rfl ?_
  obtain ⟨r1, k2, h⟩ := tbd_e h
  refine go_callSN0 C cfX1_58 (wr6 _ (List.mem_of_getElem? (i := 16) rfl)) (m9_isRung_k l G a2 r1 k2) dX1_leaseTo_1 (by decide) ⟨Nat.zero_le _, Nat.zero_le _⟩ rfl rfl (Nat.le_of_ble_eq_true rfl) ?_
  refine go_if_eq (tgt := 16) C h dX1_leaseTo_4 rfl (fun h => ?_) (fun h => ?_)
  · refine go_iconst (v := -1) C dX1_leaseTo_16 rfl ?_
    exact go_lv [0, 1, 2] rfl (m1_leaseTo_J17_k C T0 T1 T2 T3 T4 T5 T a1 a2 (-1 : Int32) R0  h)
  · refine go_aload_n C dX1_leaseTo_7 0 rfl ?_
    refine go_get (v := .ref T1) C ffX1_9 dX1_leaseTo_8 0 rfl rfl ?_
    refine go_iload_n C dX1_leaseTo_11 2 rfl ?_
    refine go_ialoadG (f := (g1_owner T)) C h dX1_leaseTo_12 1 rfl (fun h => ?_)
    refine go_goto (tgt := 17) C dX1_leaseTo_13 rfl ?_
    exact go_lv [0, 1, 2] rfl (m1_leaseTo_J17_k C T0 T1 T2 T3 T4 T5 T a1 a2 ((g1_owner T) (Int32.toNatClampNeg a2)) R0  h)

set_option maxRecDepth 100000 in
set_option maxHeartbeats 4000000 in
theorem m1_moveTo_k (l : Launch) (G : gG) (T0 T1 T2 T3 T4 T5 : Nat) (T : SX1) (a1 : Int32) (a2 : Int32) (R0 : SX1) (h : m1_moveTo T a1 a2 = some R0) : KK l G yX1_moveTo cX1_moveTo 3 none 1 20 [.ref T0, .int a1, .int a2] (u1 G T0 T1 T2 T3 T4 T5 T) none (u1 G T0 T1 T2 T3 T4 T5 R0) := by
  refine KK_intro (own := RX1) (by decide +kernel) rfl (Nat.le_of_ble_eq_true rfl) rfl ?_
  intro p e s m args below meth c A C
  unfold m1_moveTo at h
  refine go_iload_n C dX1_moveTo_0 1 rfl ?_
  obtain ⟨r1, k2, h⟩ := tbd_e h
  refine go_callSN0 C cfX1_66 (wr6 _ (List.mem_of_getElem? (i := 22) rfl)) (m9_isMan_k l G a1 r1 k2) dX1_moveTo_1 (by decide) ⟨Nat.zero_le _, Nat.zero_le _⟩ rfl rfl (Nat.le_of_ble_eq_true rfl) ?_
  refine go_if_eq (tgt := 26) C h dX1_moveTo_4 rfl (fun h => ?_) (fun h => ?_)
  · cases h
    exact go_vret C dX1_moveTo_26 rfl rfl
  · refine go_aload_n C dX1_moveTo_7 0 rfl ?_
    refine go_get (v := .ref T5) C ffX1_28 dX1_moveTo_8 0 rfl rfl ?_
    refine go_iload_n C dX1_moveTo_11 1 rfl ?_
    refine go_iload_n C dX1_moveTo_12 2 rfl ?_
    refine go_iastoreG (f := (g1_place T)) (w' := u1 G T0 T1 T2 T3 T4 T5 (s1_place T (upd (g1_place T) (Int32.toNatClampNeg a1) a2))) C h dX1_moveTo_13 5 rfl z1_place (fun h => ?_)
    refine go_aload_n C dX1_moveTo_14 0 rfl ?_
    refine go_dup C dX1_moveTo_15 rfl ?_
    refine go_get (v := .int (g1_stepped T)) C ffX1_31 dX1_moveTo_16 0 rfl rfl ?_
    refine go_iconst (v := 1) C dX1_moveTo_19 rfl ?_
    refine go_iload_n C dX1_moveTo_20 1 rfl ?_
    refine go_ishl C dX1_moveTo_21 ?_
    refine go_ior C dX1_moveTo_22 ?_
    refine go_puti (w' := u1 G T0 T1 T2 T3 T4 T5 (s1_stepped (s1_place T (upd (g1_place T) (Int32.toNatClampNeg a1) a2)) ((g1_stepped T) ||| ((1 : Int32) <<< (a1 &&& 31))))) C fpX1_31 dX1_moveTo_23 0 rfl (Nat.le_of_ble_eq_true rfl) z1_stepped ?_
    cases h
    exact go_vret C dX1_moveTo_26 rfl rfl

set_option maxRecDepth 100000 in
set_option maxHeartbeats 4000000 in
theorem m1_perform_k (l : Launch) (G : gG) (T0 T1 T2 T3 T4 T5 Ob0 : Nat) (T : SX1) (Ob : SX0) (R0 : SX1) (h : m1_perform T Ob = some R0) : KK l G yX1_perform cX1_perform 2 none 2 44 [.ref T0, .ref Ob0] (u1 G T0 T1 T2 T3 T4 T5 T ++ (u0 G Ob0 Ob)) none (u1 G T0 T1 T2 T3 T4 T5 R0 ++ (u0 G Ob0 Ob)) := by
  refine KK_intro (own := RX1) (by decide +kernel) rfl (Nat.le_of_ble_eq_true rfl) rfl ?_
  intro p e s m args below meth c A C
  unfold m1_perform at h
  refine go_aload_n C dX1_perform_0 1 rfl ?_
  obtain ⟨r1, k2, h⟩ := tbd_e h
  refine go_callV (q0 := 6) (wr := u1 G T0 T1 T2 T3 T4 T5 T) (w' := u1 G T0 T1 T2 T3 T4 T5 T ++ (u0 G Ob0 Ob)) C cfX1_76 viX0_kindOf (m0_kindOf_k l G Ob0 Ob r1 k2) dX1_perform_1 (by decide) ⟨Nat.zero_le _, Nat.zero_le _⟩ rfl rfl (Nat.le_of_ble_eq_true rfl) rfl [6] [0, 1, 2, 3, 4, 5] [0, 1, 2, 3, 4, 5, 6] rfl rfl (by decide) rfl ?_
  refine go_ite h (fun q h => ?_) (fun q0 h => ?_)
  · refine go_tabIn (off := 32) (tgt := 36) C dX1_perform_4 q (by decide) (by decide) rfl ?_
    refine go_aload_n C dX1_perform_36 0 rfl ?_
    refine go_aload_n C dX1_perform_37 1 rfl ?_
    obtain ⟨r3, k4, h⟩ := tbd_e h
    refine go_callV (q0 := 6) (wr := u1 G T0 T1 T2 T3 T4 T5 T) (w' := u1 G T0 T1 T2 T3 T4 T5 T ++ (u0 G Ob0 Ob)) C cfX1_82 viX0_doer (m0_doer_k l G Ob0 Ob r3 k4) dX1_perform_38 (by decide) ⟨Nat.zero_le _, Nat.zero_le _⟩ rfl rfl (Nat.le_of_ble_eq_true rfl) rfl [6] [0, 1, 2, 3, 4, 5] [0, 1, 2, 3, 4, 5, 6] rfl rfl (by decide) rfl ?_
    refine go_aload_n C dX1_perform_41 1 rfl ?_
    obtain ⟨r5, k6, h⟩ := tbd_e h
    refine go_callV (q0 := 6) (wr := u1 G T0 T1 T2 T3 T4 T5 T) (w' := u1 G T0 T1 T2 T3 T4 T5 T ++ (u0 G Ob0 Ob)) C cfX1_85 viX0_target (m0_target_k l G Ob0 Ob r5 k6) dX1_perform_42 (by decide) ⟨Nat.zero_le _, Nat.zero_le _⟩ rfl rfl (Nat.le_of_ble_eq_true rfl) rfl [6] [0, 1, 2, 3, 4, 5] [0, 1, 2, 3, 4, 5, 6] rfl rfl (by decide) rfl ?_
    obtain ⟨r7, k8, h⟩ := tbd_e h
    refine go_callV (q0 := 0) (wr := u0 G Ob0 Ob) (w' := u1 G T0 T1 T2 T3 T4 T5 r7 ++ (u0 G Ob0 Ob)) C cfX1_121 viX1_moveTo (m1_moveTo_k l G T0 T1 T2 T3 T4 T5 T r3 r5 r7 k8) dX1_perform_45 (by decide) ⟨Nat.zero_le _, Nat.zero_le _⟩ rfl rfl (Nat.le_of_ble_eq_true rfl) rfl [0, 1, 2, 3, 4, 5] [6] [1, 2, 3, 4, 5, 6, 0] rfl rfl (by decide) rfl ?_
    refine go_goto (tgt := 109) C dX1_perform_48 rfl ?_
    cases h
    exact go_vret C dX1_perform_109 rfl rfl
  refine go_ite h (fun q h => ?_) (fun q1 h => ?_)
  · refine go_tabIn (off := 47) (tgt := 51) C dX1_perform_4 q (by decide) (by decide) rfl ?_
    refine go_aload_n C dX1_perform_51 0 rfl ?_
    refine go_aload_n C dX1_perform_52 1 rfl ?_
    obtain ⟨r9, k10, h⟩ := tbd_e h
    refine go_callV (q0 := 6) (wr := u1 G T0 T1 T2 T3 T4 T5 T) (w' := u1 G T0 T1 T2 T3 T4 T5 T ++ (u0 G Ob0 Ob)) C cfX1_82 viX0_doer (m0_doer_k l G Ob0 Ob r9 k10) dX1_perform_53 (by decide) ⟨Nat.zero_le _, Nat.zero_le _⟩ rfl rfl (Nat.le_of_ble_eq_true rfl) rfl [6] [0, 1, 2, 3, 4, 5] [0, 1, 2, 3, 4, 5, 6] rfl rfl (by decide) rfl ?_
    refine go_aload_n C dX1_perform_56 1 rfl ?_
    obtain ⟨r11, k12, h⟩ := tbd_e h
    refine go_callV (q0 := 6) (wr := u1 G T0 T1 T2 T3 T4 T5 T) (w' := u1 G T0 T1 T2 T3 T4 T5 T ++ (u0 G Ob0 Ob)) C cfX1_85 viX0_target (m0_target_k l G Ob0 Ob r11 k12) dX1_perform_57 (by decide) ⟨Nat.zero_le _, Nat.zero_le _⟩ rfl rfl (Nat.le_of_ble_eq_true rfl) rfl [6] [0, 1, 2, 3, 4, 5] [0, 1, 2, 3, 4, 5, 6] rfl rfl (by decide) rfl ?_
    obtain ⟨r13, k14, h⟩ := tbd_e h
    refine go_callV (q0 := 0) (wr := u0 G Ob0 Ob) (w' := u1 G T0 T1 T2 T3 T4 T5 r13 ++ (u0 G Ob0 Ob)) C cfX1_125 viX1_leaseTo (m1_leaseTo_k l G T0 T1 T2 T3 T4 T5 T r9 r11 r13 k14) dX1_perform_60 (by decide) ⟨Nat.zero_le _, Nat.zero_le _⟩ rfl rfl (Nat.le_of_ble_eq_true rfl) rfl [0, 1, 2, 3, 4, 5] [6] [1, 2, 3, 4, 5, 6, 0] rfl rfl (by decide) rfl ?_
    refine go_goto (tgt := 109) C dX1_perform_63 rfl ?_
    cases h
    exact go_vret C dX1_perform_109 rfl rfl
  refine go_ite h (fun q h => ?_) (fun q2 h => ?_)
  · refine go_tabIn (off := 62) (tgt := 66) C dX1_perform_4 q (by decide) (by decide) rfl ?_
    refine go_aload_n C dX1_perform_66 0 rfl ?_
    refine go_aload_n C dX1_perform_67 1 rfl ?_
    obtain ⟨r15, k16, h⟩ := tbd_e h
    refine go_callV (q0 := 6) (wr := u1 G T0 T1 T2 T3 T4 T5 T) (w' := u1 G T0 T1 T2 T3 T4 T5 T ++ (u0 G Ob0 Ob)) C cfX1_85 viX0_target (m0_target_k l G Ob0 Ob r15 k16) dX1_perform_68 (by decide) ⟨Nat.zero_le _, Nat.zero_le _⟩ rfl rfl (Nat.le_of_ble_eq_true rfl) rfl [6] [0, 1, 2, 3, 4, 5] [0, 1, 2, 3, 4, 5, 6] rfl rfl (by decide) rfl ?_
    refine go_iconst (v := -1) C dX1_perform_71 rfl ?_
    refine go_iconst (v := -1) C dX1_perform_72 rfl ?_
    refine go_iconst (v := 1) C dX1_perform_73 rfl ?_
    obtain ⟨r17, k18, h⟩ := tbd_e h
    refine go_callV (q0 := 0) (wr := u0 G Ob0 Ob) (w' := u1 G T0 T1 T2 T3 T4 T5 r17 ++ (u0 G Ob0 Ob)) C cfX1_128 viX1_setRung (m1_setRung_k l G T0 T1 T2 T3 T4 T5 T r15 (-1 : Int32) (-1 : Int32) (1 : Int32) r17 k18) dX1_perform_74 (by decide) ⟨Nat.zero_le _, Nat.zero_le _⟩ rfl rfl (Nat.le_of_ble_eq_true rfl) rfl [0, 1, 2, 3, 4, 5] [6] [1, 2, 3, 4, 5, 6, 0] rfl rfl (by decide) rfl ?_
    refine go_goto (tgt := 109) C dX1_perform_77 rfl ?_
    cases h
    exact go_vret C dX1_perform_109 rfl rfl
  refine go_ite h (fun q h => ?_) (fun q3 h => ?_)
  · refine go_tabIn (off := 76) (tgt := 80) C dX1_perform_4 q (by decide) (by decide) rfl ?_
    refine go_aload_n C dX1_perform_80 0 rfl ?_
    refine go_aload_n C dX1_perform_81 1 rfl ?_
    obtain ⟨r19, k20, h⟩ := tbd_e h
    refine go_callV (q0 := 6) (wr := u1 G T0 T1 T2 T3 T4 T5 T) (w' := u1 G T0 T1 T2 T3 T4 T5 T ++ (u0 G Ob0 Ob)) C cfX1_85 viX0_target (m0_target_k l G Ob0 Ob r19 k20) dX1_perform_82 (by decide) ⟨Nat.zero_le _, Nat.zero_le _⟩ rfl rfl (Nat.le_of_ble_eq_true rfl) rfl [6] [0, 1, 2, 3, 4, 5] [0, 1, 2, 3, 4, 5, 6] rfl rfl (by decide) rfl ?_
    refine go_iconst (v := -1) C dX1_perform_85 rfl ?_
    refine go_iconst (v := -1) C dX1_perform_86 rfl ?_
    refine go_iconst (v := 0) C dX1_perform_87 rfl ?_
    obtain ⟨r21, k22, h⟩ := tbd_e h
    refine go_callV (q0 := 0) (wr := u0 G Ob0 Ob) (w' := u1 G T0 T1 T2 T3 T4 T5 r21 ++ (u0 G Ob0 Ob)) C cfX1_128 viX1_setRung (m1_setRung_k l G T0 T1 T2 T3 T4 T5 T r19 (-1 : Int32) (-1 : Int32) (0 : Int32) r21 k22) dX1_perform_88 (by decide) ⟨Nat.zero_le _, Nat.zero_le _⟩ rfl rfl (Nat.le_of_ble_eq_true rfl) rfl [0, 1, 2, 3, 4, 5] [6] [1, 2, 3, 4, 5, 6, 0] rfl rfl (by decide) rfl ?_
    refine go_goto (tgt := 109) C dX1_perform_91 rfl ?_
    cases h
    exact go_vret C dX1_perform_109 rfl rfl
  refine go_tabOut (tgt := 94) C dX1_perform_4 (by have a0 := lv_neT (a := 0) q0 rfl; have a1 := lv_neT (a := 1) q1 rfl; have a2 := lv_neT (a := 2) q2 rfl; have a3 := lv_neT (a := 3) q3 rfl; omega) rfl ?_
  refine go_aload_n C dX1_perform_94 0 rfl ?_
  refine go_dup C dX1_perform_95 rfl ?_
  refine go_get (v := .int (g1_beat T)) C ffX1_34 dX1_perform_96 0 rfl rfl ?_
  refine go_iconst (v := 1) C dX1_perform_99 rfl ?_
  refine go_iadd C dX1_perform_100 ?_
  refine go_puti (w' := u1 G T0 T1 T2 T3 T4 T5 (s1_beat T ((g1_beat T) + (1 : Int32))) ++ (u0 G Ob0 Ob)) C fpX1_34 dX1_perform_101 0 rfl (Nat.le_of_ble_eq_true rfl) (setL (Nat.le_of_ble_eq_true rfl) z1_beat) ?_
  refine go_aload_n C dX1_perform_104 0 rfl ?_
  refine go_iconst (v := 0) C dX1_perform_105 rfl ?_
  refine go_puti (w' := u1 G T0 T1 T2 T3 T4 T5 (s1_beat (s1_stepped T (0 : Int32)) ((g1_beat T) + (1 : Int32))) ++ (u0 G Ob0 Ob)) C fpX1_31 dX1_perform_106 0 rfl (Nat.le_of_ble_eq_true rfl) (setL (Nat.le_of_ble_eq_true rfl) z1_stepped) ?_
  cases h
  exact go_vret C dX1_perform_109 rfl rfl

set_option maxRecDepth 100000 in
set_option maxHeartbeats 4000000 in
theorem m1_addSight_J44_k {p : Program} {l : Launch} {e : Env} {s : State} {m : MethodId} {args : Array Value} {below : List Frame} {meth : Method} {c : Code} {G : gG} {A : Nat → Prop} (C : Cx p e s m args meth c G RX1 cX1_addSight 3 (some .boolean) A) (T0 T1 T2 T3 T4 T5 : Nat) (T : SX1) (R0 : Int32 × SX1)  (h : m1_addSight_J44 T = some R0) : Gq p l e (rq 1 20) s m args below meth c G A 3 0 0 (MQ below (QK G (some (.int R0.1)) (u1 G T0 T1 T2 T3 T4 T5 R0.2) A) args s 0 0 A) 44 [(0, .ref T0)] [] (u1 G T0 T1 T2 T3 T4 T5 T) := by
  unfold m1_addSight_J44 at h
  refine go_aload_n C dX1_addSight_44 0 rfl ?_
  refine go_dup C dX1_addSight_45 rfl ?_
  refine go_get (v := .int (g1_sights T)) C ffX1_37 dX1_addSight_46 0 rfl rfl ?_
  refine go_iconst (v := 1) C dX1_addSight_49 rfl ?_
  refine go_iadd C dX1_addSight_50 ?_
  refine go_puti (w' := u1 G T0 T1 T2 T3 T4 T5 (s1_sights T ((g1_sights T) + (1 : Int32)))) C fpX1_37 dX1_addSight_51 0 rfl (Nat.le_of_ble_eq_true rfl) z1_sights ?_
  refine go_iconst (v := 1) C dX1_addSight_54 rfl ?_
  cases h
  exact go_zret C dX1_addSight_55 (by decide) rfl rfl

set_option maxRecDepth 100000 in
set_option maxHeartbeats 4000000 in
theorem m1_addSight_k (l : Launch) (G : gG) (T0 T1 T2 T3 T4 T5 : Nat) (T : SX1) (a1 : Int32) (a2 : Int32) (R0 : Int32 × SX1) (h : m1_addSight T a1 a2 = some R0) : KK l G yX1_addSight cX1_addSight 3 (some .boolean) 1 20 [.ref T0, .int a1, .int a2] (u1 G T0 T1 T2 T3 T4 T5 T) (some (.int R0.1)) (u1 G T0 T1 T2 T3 T4 T5 R0.2) := by
  refine KK_intro (own := RX1) (by decide +kernel) rfl (Nat.le_of_ble_eq_true rfl) rfl ?_
  intro p e s m args below meth c A C
  unfold m1_addSight at h
  refine go_aload_n C dX1_addSight_0 0 rfl ?_
  refine go_get (v := .int (g1_sights T)) C ffX1_37 dX1_addSight_1 0 rfl rfl ?_
  refine go_bipush (v := 8) C dX1_addSight_4 rfl ?_
  refine go_icmp_lt (tgt := 11) C h dX1_addSight_6 rfl (fun h => ?_) (fun h => ?_)
  · refine go_iload_n C dX1_addSight_11 2 rfl ?_
    refine go_if_eq (tgt := 31) C h dX1_addSight_12 rfl (fun h => ?_) (fun h => ?_)
    · refine go_aload_n C dX1_addSight_31 0 rfl ?_
      refine go_dup C dX1_addSight_32 rfl ?_
      refine go_get (v := .int (g1_dry T)) C ffX1_43 dX1_addSight_33 0 rfl rfl ?_
      refine go_iload_n C dX1_addSight_36 1 rfl ?_
      obtain ⟨r1, k2, h⟩ := tbd_e h
      refine go_callSN0 C cfX1_62 (wr7 _ (List.mem_of_getElem? (i := 14) rfl)) (m9_bitOf_k l G a1 r1 k2) dX1_addSight_37 (by decide) ⟨Nat.zero_le _, Nat.zero_le _⟩ rfl rfl (Nat.le_of_ble_eq_true rfl) ?_
      refine go_ior C dX1_addSight_40 ?_
      refine go_puti (w' := u1 G T0 T1 T2 T3 T4 T5 (s1_dry T ((g1_dry T) ||| r1))) C fpX1_43 dX1_addSight_41 0 rfl (Nat.le_of_ble_eq_true rfl) z1_dry ?_
      exact go_lv [0] rfl (m1_addSight_J44_k C T0 T1 T2 T3 T4 T5 (s1_dry T ((g1_dry T) ||| r1)) R0  h)
    · refine go_aload_n C dX1_addSight_15 0 rfl ?_
      refine go_dup C dX1_addSight_16 rfl ?_
      refine go_get (v := .int (g1_wet T)) C ffX1_40 dX1_addSight_17 0 rfl rfl ?_
      refine go_iload_n C dX1_addSight_20 1 rfl ?_
      obtain ⟨r3, k4, h⟩ := tbd_e h
      refine go_callSN0 C cfX1_62 (wr7 _ (List.mem_of_getElem? (i := 14) rfl)) (m9_bitOf_k l G a1 r3 k4) dX1_addSight_21 (by decide) ⟨Nat.zero_le _, Nat.zero_le _⟩ rfl rfl (Nat.le_of_ble_eq_true rfl) ?_
      refine go_ior C dX1_addSight_24 ?_
      refine go_puti (w' := u1 G T0 T1 T2 T3 T4 T5 (s1_wet T ((g1_wet T) ||| r3))) C fpX1_40 dX1_addSight_25 0 rfl (Nat.le_of_ble_eq_true rfl) z1_wet ?_
      refine go_goto (tgt := 44) C dX1_addSight_28 rfl ?_
      exact go_lv [0] rfl (m1_addSight_J44_k C T0 T1 T2 T3 T4 T5 (s1_wet T ((g1_wet T) ||| r3)) R0  h)
  · refine go_iconst (v := 0) C dX1_addSight_9 rfl ?_
    cases h
    exact go_zret C dX1_addSight_10 (by decide) rfl rfl

set_option maxRecDepth 100000 in
set_option maxHeartbeats 4000000 in
theorem m1_clearSights_k (l : Launch) (G : gG) (T0 T1 T2 T3 T4 T5 : Nat) (T : SX1) (R0 : SX1) (h : m1_clearSights T = some R0) : KK l G yX1_clearSights cX1_clearSights 1 none 0 0 [.ref T0] (u1 G T0 T1 T2 T3 T4 T5 T) none (u1 G T0 T1 T2 T3 T4 T5 R0) := by
  refine KK_intro (own := RX1) (by decide +kernel) rfl (Nat.le_of_ble_eq_true rfl) rfl ?_
  intro p e s m args below meth c A C
  unfold m1_clearSights at h
  refine go_aload_n C dX1_clearSights_0 0 rfl ?_
  refine go_iconst (v := 0) C dX1_clearSights_1 rfl ?_
  refine go_puti (w' := u1 G T0 T1 T2 T3 T4 T5 (s1_sights T (0 : Int32))) C fpX1_37 dX1_clearSights_2 0 rfl (Nat.le_of_ble_eq_true rfl) z1_sights ?_
  refine go_aload_n C dX1_clearSights_5 0 rfl ?_
  refine go_iconst (v := 0) C dX1_clearSights_6 rfl ?_
  refine go_puti (w' := u1 G T0 T1 T2 T3 T4 T5 (s1_wet (s1_sights T (0 : Int32)) (0 : Int32))) C fpX1_40 dX1_clearSights_7 0 rfl (Nat.le_of_ble_eq_true rfl) z1_wet ?_
  refine go_aload_n C dX1_clearSights_10 0 rfl ?_
  refine go_iconst (v := 0) C dX1_clearSights_11 rfl ?_
  refine go_puti (w' := u1 G T0 T1 T2 T3 T4 T5 (s1_dry (s1_wet (s1_sights T (0 : Int32)) (0 : Int32)) (0 : Int32))) C fpX1_43 dX1_clearSights_12 0 rfl (Nat.le_of_ble_eq_true rfl) z1_dry ?_
  cases h
  exact go_vret C dX1_clearSights_15 rfl rfl

set_option maxRecDepth 100000 in
set_option maxHeartbeats 4000000 in
theorem m1_sightCount_k (l : Launch) (G : gG) (T0 T1 T2 T3 T4 T5 : Nat) (T : SX1) (R0 : Int32) (h : m1_sightCount T = some R0) : KK l G yX1_sightCount cX1_sightCount 1 (some .int) 0 0 [.ref T0] (u1 G T0 T1 T2 T3 T4 T5 T) (some (.int R0)) (u1 G T0 T1 T2 T3 T4 T5 T) := by
  refine KK_intro (own := RX1) (by decide +kernel) rfl (Nat.le_of_ble_eq_true rfl) rfl ?_
  intro p e s m args below meth c A C
  unfold m1_sightCount at h
  refine go_aload_n C dX1_sightCount_0 0 rfl ?_
  refine go_get (v := .int (g1_sights T)) C ffX1_37 dX1_sightCount_1 0 rfl rfl ?_
  cases h
  exact go_iret C dX1_sightCount_4 rfl rfl

set_option maxRecDepth 100000 in
set_option maxHeartbeats 4000000 in
theorem m1_sightsFit_k (l : Launch) (G : gG) (T0 T1 T2 T3 T4 T5 : Nat) (T : SX1) (a1 : Int32) (R0 : Int32) (h : m1_sightsFit T a1 = some R0) : KK l G yX1_sightsFit cX1_sightsFit 2 (some .boolean) 0 0 [.ref T0, .int a1] (u1 G T0 T1 T2 T3 T4 T5 T) (some (.int R0)) (u1 G T0 T1 T2 T3 T4 T5 T) := by
  refine KK_intro (own := RX1) (by decide +kernel) rfl (Nat.le_of_ble_eq_true rfl) rfl ?_
  intro p e s m args below meth c A C
  unfold m1_sightsFit at h
  refine go_iload_n C dX1_sightsFit_0 1 rfl ?_
  refine go_aload_n C dX1_sightsFit_1 0 rfl ?_
  refine go_get (v := .int (g1_wet T)) C ffX1_40 dX1_sightsFit_2 0 rfl rfl ?_
  refine go_iand C dX1_sightsFit_5 ?_
  refine go_aload_n C dX1_sightsFit_6 0 rfl ?_
  refine go_get (v := .int (g1_wet T)) C ffX1_40 dX1_sightsFit_7 0 rfl rfl ?_
  refine go_icmp_ne (tgt := 26) C h dX1_sightsFit_10 rfl (fun h => ?_) (fun h => ?_)
  · refine go_iconst (v := 0) C dX1_sightsFit_26 rfl ?_
    cases h
    exact go_zret C dX1_sightsFit_27 (by decide) rfl rfl
  · refine go_iload_n C dX1_sightsFit_13 1 rfl ?_
    refine go_aload_n C dX1_sightsFit_14 0 rfl ?_
    refine go_get (v := .int (g1_dry T)) C ffX1_43 dX1_sightsFit_15 0 rfl rfl ?_
    refine go_iand C dX1_sightsFit_18 ?_
    refine go_if_ne (tgt := 26) C h dX1_sightsFit_19 rfl (fun h => ?_) (fun h => ?_)
    · refine go_iconst (v := 0) C dX1_sightsFit_26 rfl ?_
      cases h
      exact go_zret C dX1_sightsFit_27 (by decide) rfl rfl
    · refine go_iconst (v := 1) C dX1_sightsFit_22 rfl ?_
      refine go_goto (tgt := 27) C dX1_sightsFit_23 rfl ?_
      cases h
      exact go_zret C dX1_sightsFit_27 (by decide) rfl rfl

set_option maxRecDepth 100000 in
set_option maxHeartbeats 4000000 in
theorem m2_heapsOf_L7_k {p : Program} {l : Launch} {e : Env} {s : State} {m : MethodId} {args : Array Value} {below : List Frame} {meth : Method} {c : Code} {G : gG} {A : Nat → Prop} (C : Cx p e s m args meth c G RX2 cX2_heapsOf 4 (some .int) A) (x0 : Int32) (R0 : Int32)  : ∀ (n : Nat) (x1 : Int32) (x2 : Int32) (x3 : Int32), tit (m2_heapsOf_L7 x0) n (x1, x2, x3) = some R0 → Gq p l e (rq 1 20) s m args below meth c G A 4 0 0 (MQ below (QK G (some (.int R0)) (([] : va_W)) A) args s 0 0 A) 7 [(0, .int x0), (1, .int x1), (2, .int x2), (3, .int x3)] [] (([] : va_W)) := by
  intro n
  induction n with
  | zero => exact fun _ _ _ h => (tit_z h).elim
  | succ n ih =>
    intro x1 x2 x3 h
    replace h : m2_heapsOf_B7 x0 (tit (m2_heapsOf_L7 x0) n) x1 x2 x3 = some R0 := h
    unfold m2_heapsOf_B7 at h
    refine go_iload_n C dX2_heapsOf_7 3 rfl ?_
    refine go_iconst (v := 1) C dX2_heapsOf_8 rfl ?_
    refine go_icmp_lt (tgt := 49) C h dX2_heapsOf_9 rfl (fun h => ?_) (fun h => ?_)
    · refine go_iload_n C dX2_heapsOf_49 2 rfl ?_
      refine go_if_ne (tgt := 57) C h dX2_heapsOf_50 rfl (fun h => ?_) (fun h => ?_)
      · refine go_iload_n C dX2_heapsOf_57 1 rfl ?_
        refine go_iload_n C dX2_heapsOf_58 2 rfl ?_
        refine go_iconst (v := 1) C dX2_heapsOf_59 rfl ?_
        refine go_isub C dX2_heapsOf_60 ?_
        refine go_ixor C dX2_heapsOf_61 ?_
        cases h
        exact go_iret C dX2_heapsOf_62 rfl rfl
      · refine go_iload_n C dX2_heapsOf_53 1 rfl ?_
        refine go_goto (tgt := 62) C dX2_heapsOf_54 rfl ?_
        cases h
        exact go_iret C dX2_heapsOf_62 rfl rfl
    · refine go_iload_n C dX2_heapsOf_12 0 rfl ?_
      refine go_iload_n C dX2_heapsOf_13 3 rfl ?_
      obtain ⟨r1, k2, h⟩ := tbd_e h
      refine go_callSN0 C cfX2_19 (wr7 _ (List.mem_of_getElem? (i := 14) rfl)) (m9_bitOf_k l G x3 r1 k2) dX2_heapsOf_14 (by decide) ⟨Nat.zero_le _, Nat.zero_le _⟩ rfl rfl (Nat.le_of_ble_eq_true rfl) ?_
      refine go_iand C dX2_heapsOf_17 ?_
      refine go_if_ne (tgt := 24) C h dX2_heapsOf_18 rfl (fun h => ?_) (fun h => ?_)
      · refine go_iload_n C dX2_heapsOf_24 2 rfl ?_
        refine go_if_ne (tgt := 33) C h dX2_heapsOf_25 rfl (fun h => ?_) (fun h => ?_)
        · refine go_iload_n C dX2_heapsOf_33 1 rfl ?_
          refine go_iload_n C dX2_heapsOf_34 2 rfl ?_
          refine go_iload_n C dX2_heapsOf_35 3 rfl ?_
          refine go_isub C dX2_heapsOf_36 ?_
          refine go_iconst (v := 1) C dX2_heapsOf_37 rfl ?_
          refine go_isub C dX2_heapsOf_38 ?_
          refine go_ixor C dX2_heapsOf_39 ?_
          refine go_istore_nN (lf := fun v3 => [(1, .int v3), (0, .int x0), (2, .int x2), (3, .int x3)]) C h dX2_heapsOf_40 (by decide) (fun _ => rfl) (fun v3 h => ?_)
          refine go_iconst (v := 0) C dX2_heapsOf_41 rfl ?_
          refine go_istore_n (lv' := [(2, .int (0 : Int32)), (1, .int v3), (0, .int x0), (3, .int x3)]) C dX2_heapsOf_42 (by decide) rfl ?_
          refine go_iincN (lf := fun v4 => [(3, .int v4), (2, .int (0 : Int32)), (1, .int v3), (0, .int x0)]) C h dX2_heapsOf_43 3 rfl rfl (by decide) (fun _ => rfl) (fun v4 h => ?_)
          refine go_goto (tgt := 7) C dX2_heapsOf_46 rfl ?_
          exact go_lv [3, 2, 1, 0] rfl (ih v3 (0 : Int32) v4 h)
        · refine go_iload_n C dX2_heapsOf_28 3 rfl ?_
          refine go_istore_n (lv' := [(2, .int x3), (0, .int x0), (1, .int x1), (3, .int x3)]) C dX2_heapsOf_29 (by decide) rfl ?_
          refine go_goto (tgt := 43) C dX2_heapsOf_30 rfl ?_
          refine go_iincN (lf := fun v5 => [(3, .int v5), (2, .int x3), (0, .int x0), (1, .int x1)]) C h dX2_heapsOf_43 3 rfl rfl (by decide) (fun _ => rfl) (fun v5 h => ?_)
          refine go_goto (tgt := 7) C dX2_heapsOf_46 rfl ?_
          exact go_lv [2, 3, 1, 0] rfl (ih x1 x3 v5 h)
      · refine go_goto (tgt := 43) C dX2_heapsOf_21 rfl ?_
        refine go_iincN (lf := fun v6 => [(3, .int v6), (0, .int x0), (1, .int x1), (2, .int x2)]) C h dX2_heapsOf_43 3 rfl rfl (by decide) (fun _ => rfl) (fun v6 h => ?_)
        refine go_goto (tgt := 7) C dX2_heapsOf_46 rfl ?_
        exact go_lv [1, 2, 3, 0] rfl (ih x1 x2 v6 h)

set_option maxRecDepth 100000 in
set_option maxHeartbeats 4000000 in
theorem m2_heapsOf_k (l : Launch) (G : gG) (a0 : Int32) (R0 : Int32) (h : m2_heapsOf a0 = some R0) : KK l G yX2_heapsOf cX2_heapsOf 4 (some .int) 1 20 [.int a0] (([] : va_W)) (some (.int R0)) (([] : va_W)) := by
  refine KK_intro (own := RX2) (by decide +kernel) rfl (Nat.le_of_ble_eq_true rfl) rfl ?_
  intro p e s m args below meth c A C
  unfold m2_heapsOf at h
  refine go_iconst (v := 0) C dX2_heapsOf_0 rfl ?_
  refine go_istore_n (lv' := [(1, .int (0 : Int32)), (0, .int a0)]) C dX2_heapsOf_1 (by decide) rfl ?_
  refine go_iconst (v := 0) C dX2_heapsOf_2 rfl ?_
  refine go_istore_n (lv' := [(2, .int (0 : Int32)), (1, .int (0 : Int32)), (0, .int a0)]) C dX2_heapsOf_3 (by decide) rfl ?_
  refine go_bipush (v := 12) C dX2_heapsOf_4 rfl ?_
  refine go_istore_n (lv' := [(3, .int (12 : Int32)), (2, .int (0 : Int32)), (1, .int (0 : Int32)), (0, .int a0)]) C dX2_heapsOf_6 (by decide) rfl ?_
  exact go_lv [3, 2, 1, 0] rfl (m2_heapsOf_L7_k C  a0 R0  FU (0 : Int32) (0 : Int32) (12 : Int32) h)

set_option maxRecDepth 100000 in
set_option maxHeartbeats 4000000 in
theorem m2_canWin_k (l : Launch) (G : gG) (a0 : Int32) (R0 : Int32) (h : m2_canWin a0 = some R0) : KK l G yX2_canWin cX2_canWin 1 (some .boolean) 2 43 [.int a0] (([] : va_W)) (some (.int R0)) (([] : va_W)) := by
  refine KK_intro (own := RX2) (by decide +kernel) rfl (Nat.le_of_ble_eq_true rfl) rfl ?_
  intro p e s m args below meth c A C
  unfold m2_canWin at h
  refine go_iload_n C dX2_canWin_0 0 rfl ?_
  obtain ⟨r1, k2, h⟩ := tbd_e h
  refine go_callS0 C cfX2_9 (wr31 _ (List.mem_of_getElem? (i := 23) rfl)) (m2_heapsOf_k l G a0 r1 k2) dX2_canWin_1 (by decide) ⟨Nat.zero_le _, Nat.zero_le _⟩ rfl rfl (Nat.le_of_ble_eq_true rfl) ?_
  refine go_if_eq (tgt := 11) C h dX2_canWin_4 rfl (fun h => ?_) (fun h => ?_)
  · refine go_iconst (v := 0) C dX2_canWin_11 rfl ?_
    cases h
    exact go_zret C dX2_canWin_12 (by decide) rfl rfl
  · refine go_iconst (v := 1) C dX2_canWin_7 rfl ?_
    refine go_goto (tgt := 12) C dX2_canWin_8 rfl ?_
    cases h
    exact go_zret C dX2_canWin_12 (by decide) rfl rfl

set_option maxRecDepth 100000 in
set_option maxHeartbeats 4000000 in
theorem m2_leastWinningMove_L36_k {p : Program} {l : Launch} {e : Env} {s : State} {m : MethodId} {args : Array Value} {below : List Frame} {meth : Method} {c : Code} {G : gG} {A : Nat → Prop} (C : Cx p e s m args meth c G RX2 cX2_leastWinningMove 4 (some .int) A) (x0 : Int32) (x2 : Int32) (R0 : Int32) (rc14 : Int32 × Int32 → Option (Int32)) (hr14 : ∀ (x1 : Int32) (x2 : Int32), rc14 (x1, x2) = some R0 → Gq p l e (rq 3 63) s m args below meth c G A 4 0 0 (MQ below (QK G (some (.int R0)) (([] : va_W)) A) args s 0 0 A) 14 [(0, .int x0), (1, .int x1), (2, .int x2)] [] (([] : va_W))) : ∀ (n : Nat) (x3 : Int32), tit (m2_leastWinningMove_L36 x0 x2 rc14) n x3 = some R0 → Gq p l e (rq 3 63) s m args below meth c G A 4 0 0 (MQ below (QK G (some (.int R0)) (([] : va_W)) A) args s 0 0 A) 36 [(0, .int x0), (2, .int x2), (3, .int x3)] [] (([] : va_W)) := by
  intro n
  induction n with
  | zero => exact fun _ h => (tit_z h).elim
  | succ n ih =>
    intro x3 h
    replace h : m2_leastWinningMove_B36 x0 x2 rc14 (tit (m2_leastWinningMove_L36 x0 x2 rc14) n) x3 = some R0 := h
    unfold m2_leastWinningMove_B36 at h
    refine go_iload_n C dX2_leastWinningMove_36 2 rfl ?_
    refine go_iload_n C dX2_leastWinningMove_37 1 rfl ?_
    refine go_icmp_ge (tgt := 73) C h dX2_leastWinningMove_38 rfl (fun h => ?_) (fun h => ?_)
    · refine go_iload_n C dX2_leastWinningMove_73 1 rfl ?_
      refine go_istore_n (lv' := [(1, .int x2), (0, .int x0), (2, .int x2), (3, .int x3)]) C dX2_leastWinningMove_74 (by decide) rfl ?_
      refine go_iincN (lf := fun v6 => [(2, .int v6), (1, .int x2), (0, .int x0), (3, .int x3)]) C h dX2_leastWinningMove_75 2 rfl rfl (by decide) (fun _ => rfl) (fun v6 h => ?_)
      refine go_goto (tgt := 14) C dX2_leastWinningMove_78 rfl ?_
      exact go_lv [2, 1, 0] rfl (hr14 x2 v6 h)
    · refine go_iload_n C dX2_leastWinningMove_41 0 rfl ?_
      refine go_iload_n C dX2_leastWinningMove_42 1 rfl ?_
      obtain ⟨r7, k8, h⟩ := tbd_e h
      refine go_callSN0 C cfX2_19 (wr7 _ (List.mem_of_getElem? (i := 14) rfl)) (m9_bitOf_k l G x2 r7 k8) dX2_leastWinningMove_43 (by decide) ⟨Nat.zero_le _, Nat.zero_le _⟩ rfl rfl (Nat.le_of_ble_eq_true rfl) ?_
      refine go_iconst (v := -1) C dX2_leastWinningMove_46 rfl ?_
      refine go_ixor C dX2_leastWinningMove_47 ?_
      refine go_iand C dX2_leastWinningMove_48 ?_
      refine go_iload_n C dX2_leastWinningMove_49 2 rfl ?_
      obtain ⟨r9, k10, h⟩ := tbd_e h
      refine go_callSN0 C cfX2_19 (wr7 _ (List.mem_of_getElem? (i := 14) rfl)) (m9_bitOf_k l G x3 r9 k10) dX2_leastWinningMove_50 (by decide) ⟨Nat.zero_le _, Nat.zero_le _⟩ rfl rfl (Nat.le_of_ble_eq_true rfl) ?_
      refine go_ior C dX2_leastWinningMove_53 ?_
      obtain ⟨r11, k12, h⟩ := tbd_e h
      refine go_callS0 C cfX2_15 (wr31 _ (List.mem_of_getElem? (i := 19) rfl)) (m2_canWin_k l G ((x0 &&& (r7 ^^^ (-1 : Int32))) ||| r9) r11 k12) dX2_leastWinningMove_54 (by decide) ⟨Nat.zero_le _, Nat.zero_le _⟩ rfl rfl (Nat.le_of_ble_eq_true rfl) ?_
      refine go_if_ne (tgt := 67) C h dX2_leastWinningMove_57 rfl (fun h => ?_) (fun h => ?_)
      · refine go_iincN (lf := fun v13 => [(3, .int v13), (0, .int x0), (2, .int x2)]) C h dX2_leastWinningMove_67 2 rfl rfl (by decide) (fun _ => rfl) (fun v13 h => ?_)
        refine go_goto (tgt := 36) C dX2_leastWinningMove_70 rfl ?_
        exact go_lv [1, 2, 0] rfl (ih v13 h)
      · refine go_bipush (v := 100) C dX2_leastWinningMove_60 rfl ?_
        refine go_iload_n C dX2_leastWinningMove_62 1 rfl ?_
        refine go_imul C dX2_leastWinningMove_63 ?_
        refine go_iload_n C dX2_leastWinningMove_64 2 rfl ?_
        refine go_iadd C dX2_leastWinningMove_65 ?_
        cases h
        exact go_iret C dX2_leastWinningMove_66 rfl rfl

set_option maxRecDepth 100000 in
set_option maxHeartbeats 4000000 in
theorem m2_leastWinningMove_L14_k {p : Program} {l : Launch} {e : Env} {s : State} {m : MethodId} {args : Array Value} {below : List Frame} {meth : Method} {c : Code} {G : gG} {A : Nat → Prop} (C : Cx p e s m args meth c G RX2 cX2_leastWinningMove 4 (some .int) A) (x0 : Int32) (R0 : Int32)  : ∀ (n : Nat) (x1 : Int32) (x2 : Int32), tit (m2_leastWinningMove_L14 x0) n (x1, x2) = some R0 → Gq p l e (rq 3 63) s m args below meth c G A 4 0 0 (MQ below (QK G (some (.int R0)) (([] : va_W)) A) args s 0 0 A) 14 [(0, .int x0), (1, .int x1), (2, .int x2)] [] (([] : va_W)) := by
  intro n
  induction n with
  | zero => exact fun _ _ h => (tit_z h).elim
  | succ n ih =>
    intro x1 x2 h
    replace h : m2_leastWinningMove_B14 x0 (tit (m2_leastWinningMove_L14 x0) n) x1 x2 = some R0 := h
    unfold m2_leastWinningMove_B14 at h
    refine go_iload_n C dX2_leastWinningMove_14 2 rfl ?_
    refine go_bipush (v := 12) C dX2_leastWinningMove_15 rfl ?_
    refine go_icmp_gt (tgt := 81) C h dX2_leastWinningMove_17 rfl (fun h => ?_) (fun h => ?_)
    · refine go_bipush (v := -6) C dX2_leastWinningMove_81 rfl ?_
      cases h
      exact go_iret C dX2_leastWinningMove_83 rfl rfl
    · refine go_iload_n C dX2_leastWinningMove_20 0 rfl ?_
      refine go_iload_n C dX2_leastWinningMove_21 2 rfl ?_
      obtain ⟨r3, k4, h⟩ := tbd_e h
      refine go_callSN0 C cfX2_19 (wr7 _ (List.mem_of_getElem? (i := 14) rfl)) (m9_bitOf_k l G x2 r3 k4) dX2_leastWinningMove_22 (by decide) ⟨Nat.zero_le _, Nat.zero_le _⟩ rfl rfl (Nat.le_of_ble_eq_true rfl) ?_
      refine go_iand C dX2_leastWinningMove_25 ?_
      refine go_if_ne (tgt := 32) C h dX2_leastWinningMove_26 rfl (fun h => ?_) (fun h => ?_)
      · refine go_iload_n C dX2_leastWinningMove_32 1 rfl ?_
        refine go_iconst (v := 1) C dX2_leastWinningMove_33 rfl ?_
        refine go_iadd C dX2_leastWinningMove_34 ?_
        refine go_istore_nN (lf := fun v5 => [(3, .int v5), (0, .int x0), (1, .int x1), (2, .int x2)]) C h dX2_leastWinningMove_35 (by decide) (fun _ => rfl) (fun v5 h => ?_)
        exact go_lv [1, 3, 0] rfl (m2_leastWinningMove_L36_k C  x0 x2 R0 _ (fun z0 z1 h => ih z0 z1 h) FU v5 h)
      · refine go_goto (tgt := 75) C dX2_leastWinningMove_29 rfl ?_
        refine go_iincN (lf := fun v14 => [(2, .int v14), (0, .int x0), (1, .int x1)]) C h dX2_leastWinningMove_75 2 rfl rfl (by decide) (fun _ => rfl) (fun v14 h => ?_)
        refine go_goto (tgt := 14) C dX2_leastWinningMove_78 rfl ?_
        exact go_lv [1, 2, 0] rfl (ih x1 v14 h)

set_option maxRecDepth 100000 in
set_option maxHeartbeats 4000000 in
theorem m2_leastWinningMove_k (l : Launch) (G : gG) (a0 : Int32) (R0 : Int32) (h : m2_leastWinningMove a0 = some R0) : KK l G yX2_leastWinningMove cX2_leastWinningMove 4 (some .int) 3 63 [.int a0] (([] : va_W)) (some (.int R0)) (([] : va_W)) := by
  refine KK_intro (own := RX2) (by decide +kernel) rfl (Nat.le_of_ble_eq_true rfl) rfl ?_
  intro p e s m args below meth c A C
  unfold m2_leastWinningMove at h
  refine go_iload_n C dX2_leastWinningMove_0 0 rfl ?_
  obtain ⟨r1, k2, h⟩ := tbd_e h
  refine go_callS0 C cfX2_15 (wr31 _ (List.mem_of_getElem? (i := 19) rfl)) (m2_canWin_k l G a0 r1 k2) dX2_leastWinningMove_1 (by decide) ⟨Nat.zero_le _, Nat.zero_le _⟩ rfl rfl (Nat.le_of_ble_eq_true rfl) ?_
  refine go_if_ne (tgt := 10) C h dX2_leastWinningMove_4 rfl (fun h => ?_) (fun h => ?_)
  · refine go_iconst (v := 0) C dX2_leastWinningMove_10 rfl ?_
    refine go_istore_n (lv' := [(1, .int (0 : Int32)), (0, .int a0)]) C dX2_leastWinningMove_11 (by decide) rfl ?_
    refine go_iconst (v := 1) C dX2_leastWinningMove_12 rfl ?_
    refine go_istore_n (lv' := [(2, .int (1 : Int32)), (1, .int (0 : Int32)), (0, .int a0)]) C dX2_leastWinningMove_13 (by decide) rfl ?_
    exact go_lv [2, 1, 0] rfl (m2_leastWinningMove_L14_k C  a0 R0  FU (0 : Int32) (1 : Int32) h)
  · refine go_bipush (v := -6) C dX2_leastWinningMove_7 rfl ?_
    cases h
    exact go_iret C dX2_leastWinningMove_9 rfl rfl

set_option maxRecDepth 100000 in
set_option maxHeartbeats 4000000 in
theorem m3_power_L5_k {p : Program} {l : Launch} {e : Env} {s : State} {m : MethodId} {args : Array Value} {below : List Frame} {meth : Method} {c : Code} {G : gG} {A : Nat → Prop} (C : Cx p e s m args meth c G RX3 cX3_power 5 (some .long) A) (x0 : Int32) (x1 : Int32) (R0 : Int64)  : ∀ (n : Nat) (x2 : Int64) (x4 : Int32), tit (m3_power_L5 x0 x1) n (x2, x4) = some R0 → Gq p l e (rq 0 0) s m args below meth c G A 5 0 0 (MQ below (QK G (some (.long R0)) (([] : va_W)) A) args s 0 0 A) 5 [(0, .int x0), (1, .int x1), (2, .long x2), (4, .int x4)] [] (([] : va_W)) := by
  intro n
  induction n with
  | zero => exact fun _ _ h => (tit_z h).elim
  | succ n ih =>
    intro x2 x4 h
    replace h : m3_power_B5 x0 x1 (tit (m3_power_L5 x0 x1) n) x2 x4 = some R0 := h
    unfold m3_power_B5 at h
    refine go_iload C dX3_power_5 3 rfl ?_
    refine go_iload_n C dX3_power_7 1 rfl ?_
    refine go_icmp_ge (tgt := 29) C h dX3_power_8 rfl (fun h => ?_) (fun h => ?_)
    · refine go_lload_n C dX3_power_29 2 rfl ?_
      cases h
      exact go_lret C dX3_power_30 rfl rfl
    · refine go_iload C dX3_power_11 3 rfl ?_
      refine go_bipush (v := 12) C dX3_power_13 rfl ?_
      refine go_icmp_ge (tgt := 29) C h dX3_power_15 rfl (fun h => ?_) (fun h => ?_)
      · refine go_lload_n C dX3_power_29 2 rfl ?_
        cases h
        exact go_lret C dX3_power_30 rfl rfl
      · refine go_lload_n C dX3_power_18 2 rfl ?_
        refine go_iload_n C dX3_power_19 0 rfl ?_
        refine go_i2l C dX3_power_20 ?_
        refine go_lmul C dX3_power_21 ?_
        refine go_lstore_nN (lf := fun v2 => [(2, .long v2), (0, .int x0), (1, .int x1), (4, .int x4)]) C h dX3_power_22 (by decide) (fun _ => rfl) (fun v2 h => ?_)
        refine go_iincN (lf := fun v3 => [(4, .int v3), (2, .long v2), (0, .int x0), (1, .int x1)]) C h dX3_power_23 3 rfl rfl (by decide) (fun _ => rfl) (fun v3 h => ?_)
        refine go_goto (tgt := 5) C dX3_power_26 rfl ?_
        exact go_lv [2, 3, 1, 0] rfl (ih v2 v3 h)

set_option maxRecDepth 100000 in
set_option maxHeartbeats 4000000 in
theorem m3_power_k (l : Launch) (G : gG) (a0 : Int32) (a1 : Int32) (R0 : Int64) (h : m3_power a0 a1 = some R0) : KK l G yX3_power cX3_power 5 (some .long) 0 0 [.int a0, .int a1] (([] : va_W)) (some (.long R0)) (([] : va_W)) := by
  refine KK_intro (own := RX3) (by decide +kernel) rfl (Nat.le_of_ble_eq_true rfl) rfl ?_
  intro p e s m args below meth c A C
  unfold m3_power at h
  refine go_lconst (v := 1) C dX3_power_0 rfl ?_
  refine go_lstore_nN (lf := fun v1 => [(2, .long v1), (0, .int a0), (1, .int a1)]) C h dX3_power_1 (by decide) (fun _ => rfl) (fun v1 h => ?_)
  refine go_iconst (v := 0) C dX3_power_2 rfl ?_
  refine go_istore (lv' := [(4, .int (0 : Int32)), (2, .long v1), (0, .int a0), (1, .int a1)]) C dX3_power_3 (by decide) rfl ?_
  exact go_lv [2, 3, 1, 0] rfl (m3_power_L5_k C  a0 a1 R0  FU v1 (0 : Int32) h)

set_option maxRecDepth 100000 in
set_option maxHeartbeats 4000000 in
theorem m3_reckonChances_J59_k {p : Program} {l : Launch} {e : Env} {s : State} {m : MethodId} {args : Array Value} {below : List Frame} {meth : Method} {c : Code} {G : gG} {A : Nat → Prop} (C : Cx p e s m args meth c G RX3 cX3_reckonChances 6 none A) (T0 T1 : Nat) (T : SX3) (x1 : Int32) (x2 : Int32) (x3 : Int64) (R0 : SX3) (rc9 : Int32 × SX3 → Option (SX3)) (hr9 : ∀ (x2 : Int32) (Tz : SX3), rc9 (x2, Tz) = some R0 → Gq p l e (rq 1 24) s m args below meth c G A 6 0 0 (MQ below (QK G none (u3 G T0 T1 R0) A) args s 0 0 A) 9 [(0, .ref T0), (1, .int x1), (2, .int x2)] [] (u3 G T0 T1 Tz)) (h : m3_reckonChances_J59 T x1 x2 x3 rc9 = some R0) : Gq p l e (rq 1 24) s m args below meth c G A 6 0 0 (MQ below (QK G none (u3 G T0 T1 R0) A) args s 0 0 A) 59 [(0, .ref T0), (1, .int x1), (2, .int x2), (3, .long x3)] [] (u3 G T0 T1 T) := by
  unfold m3_reckonChances_J59 at h
  refine go_aload_n C dX3_reckonChances_59 0 rfl ?_
  refine go_get (v := .ref T1) C ffX3_9 dX3_reckonChances_60 0 rfl rfl ?_
  refine go_iload_n C dX3_reckonChances_63 2 rfl ?_
  refine go_lload_n C dX3_reckonChances_64 3 rfl ?_
  refine go_lastoreG (f := (g3_chances T)) (w' := u3 G T0 T1 (s3_chances T (vp_updL (g3_chances T) (Int32.toNatClampNeg x2) x3))) C h dX3_reckonChances_65 1 rfl z3_chances (fun h => ?_)
  refine go_iincN (lf := fun v2 => [(2, .int v2), (0, .ref T0), (1, .int x1), (3, .long x3)]) C h dX3_reckonChances_66 2 rfl rfl (by decide) (fun _ => rfl) (fun v2 h => ?_)
  refine go_goto (tgt := 9) C dX3_reckonChances_69 rfl ?_
  exact go_lv [1, 2, 0] rfl (hr9 v2 (s3_chances T (vp_updL (g3_chances T) (Int32.toNatClampNeg x2) x3)) h)

set_option maxRecDepth 100000 in
set_option maxHeartbeats 4000000 in
theorem m3_reckonChances_L20_k {p : Program} {l : Launch} {e : Env} {s : State} {m : MethodId} {args : Array Value} {below : List Frame} {meth : Method} {c : Code} {G : gG} {A : Nat → Prop} (C : Cx p e s m args meth c G RX3 cX3_reckonChances 6 none A) (T0 T1 : Nat) (T : SX3) (x1 : Int32) (x2 : Int32) (R0 : SX3) (rc9 : Int32 × SX3 → Option (SX3)) (hr9 : ∀ (x2 : Int32) (Tz : SX3), rc9 (x2, Tz) = some R0 → Gq p l e (rq 1 24) s m args below meth c G A 6 0 0 (MQ below (QK G none (u3 G T0 T1 R0) A) args s 0 0 A) 9 [(0, .ref T0), (1, .int x1), (2, .int x2)] [] (u3 G T0 T1 Tz)) : ∀ (n : Nat) (x3 : Int64) (x5 : Int32), tit (m3_reckonChances_L20 T x1 x2 rc9) n (x3, x5) = some R0 → Gq p l e (rq 1 24) s m args below meth c G A 6 0 0 (MQ below (QK G none (u3 G T0 T1 R0) A) args s 0 0 A) 20 [(0, .ref T0), (1, .int x1), (2, .int x2), (3, .long x3), (5, .int x5)] [] (u3 G T0 T1 T) := by
  intro n
  induction n with
  | zero => exact fun _ _ h => (tit_z h).elim
  | succ n ih =>
    intro x3 x5 h
    replace h : m3_reckonChances_B20 T x1 x2 rc9 (tit (m3_reckonChances_L20 T x1 x2 rc9) n) x3 x5 = some R0 := h
    unfold m3_reckonChances_B20 at h
    refine go_iload C dX3_reckonChances_20 4 rfl ?_
    refine go_iload_n C dX3_reckonChances_22 1 rfl ?_
    refine go_icmp_gt (tgt := 59) C h dX3_reckonChances_23 rfl (fun h => ?_) (fun h => ?_)
    · exact go_lv [0, 1, 2, 3] rfl (m3_reckonChances_J59_k C T0 T1 T x1 x2 x3 R0 rc9 hr9 h)
    · refine go_iload C dX3_reckonChances_26 4 rfl ?_
      refine go_iload_n C dX3_reckonChances_28 2 rfl ?_
      refine go_icmp_gt (tgt := 59) C h dX3_reckonChances_29 rfl (fun h => ?_) (fun h => ?_)
      · exact go_lv [0, 1, 2, 3] rfl (m3_reckonChances_J59_k C T0 T1 T x1 x2 x3 R0 rc9 hr9 h)
      · refine go_lload_n C dX3_reckonChances_32 3 rfl ?_
        refine go_aload_n C dX3_reckonChances_33 0 rfl ?_
        refine go_get (v := .ref T1) C ffX3_9 dX3_reckonChances_34 0 rfl rfl ?_
        refine go_iload_n C dX3_reckonChances_37 2 rfl ?_
        refine go_iload C dX3_reckonChances_38 4 rfl ?_
        refine go_isub C dX3_reckonChances_40 ?_
        refine go_laloadG (f := (g3_chances T)) C h dX3_reckonChances_41 1 rfl (fun h => ?_)
        refine go_iload_n C dX3_reckonChances_42 1 rfl ?_
        refine go_iload C dX3_reckonChances_43 4 rfl ?_
        refine go_iconst (v := 1) C dX3_reckonChances_45 rfl ?_
        refine go_isub C dX3_reckonChances_46 ?_
        obtain ⟨r3, k4, h⟩ := tbd_e h
        refine go_callS0 C cfX3_30 (wr33 _ (List.mem_of_getElem? (i := 4) rfl)) (m3_power_k l G x1 (x5 - (1 : Int32)) r3 k4) dX3_reckonChances_47 (by decide) ⟨Nat.zero_le _, Nat.zero_le _⟩ rfl rfl (Nat.le_of_ble_eq_true rfl) ?_
        refine go_lmul C dX3_reckonChances_50 ?_
        refine go_ladd C dX3_reckonChances_51 ?_
        refine go_lstore_nN (lf := fun v5 => [(3, .long v5), (0, .ref T0), (1, .int x1), (2, .int x2), (5, .int x5)]) C h dX3_reckonChances_52 (by decide) (fun _ => rfl) (fun v5 h => ?_)
        refine go_iincN (lf := fun v6 => [(5, .int v6), (3, .long v5), (0, .ref T0), (1, .int x1), (2, .int x2)]) C h dX3_reckonChances_53 4 rfl rfl (by decide) (fun _ => rfl) (fun v6 h => ?_)
        refine go_goto (tgt := 20) C dX3_reckonChances_56 rfl ?_
        exact go_lv [2, 3, 4, 1, 0] rfl (ih v5 v6 h)

set_option maxRecDepth 100000 in
set_option maxHeartbeats 4000000 in
theorem m3_reckonChances_L9_k {p : Program} {l : Launch} {e : Env} {s : State} {m : MethodId} {args : Array Value} {below : List Frame} {meth : Method} {c : Code} {G : gG} {A : Nat → Prop} (C : Cx p e s m args meth c G RX3 cX3_reckonChances 6 none A) (T0 T1 : Nat) (x1 : Int32) (R0 : SX3)  : ∀ (n : Nat) (x2 : Int32) (T : SX3), tit (m3_reckonChances_L9 x1) n (x2, T) = some R0 → Gq p l e (rq 1 24) s m args below meth c G A 6 0 0 (MQ below (QK G none (u3 G T0 T1 R0) A) args s 0 0 A) 9 [(0, .ref T0), (1, .int x1), (2, .int x2)] [] (u3 G T0 T1 T) := by
  intro n
  induction n with
  | zero => exact fun _ _ h => (tit_z h).elim
  | succ n ih =>
    intro x2 T h
    replace h : m3_reckonChances_B9 x1 (tit (m3_reckonChances_L9 x1) n) x2 T = some R0 := h
    unfold m3_reckonChances_B9 at h
    refine go_iload_n C dX3_reckonChances_9 2 rfl ?_
    refine go_bipush (v := 12) C dX3_reckonChances_10 rfl ?_
    refine go_icmp_gt (tgt := 72) C h dX3_reckonChances_12 rfl (fun h => ?_) (fun h => ?_)
    · cases h
      exact go_vret C dX3_reckonChances_72 rfl rfl
    · refine go_lconst (v := 0) C dX3_reckonChances_15 rfl ?_
      refine go_lstore_nN (lf := fun v1 => [(3, .long v1), (0, .ref T0), (1, .int x1), (2, .int x2)]) C h dX3_reckonChances_16 (by decide) (fun _ => rfl) (fun v1 h => ?_)
      refine go_iconst (v := 1) C dX3_reckonChances_17 rfl ?_
      refine go_istore (lv' := [(5, .int (1 : Int32)), (3, .long v1), (0, .ref T0), (1, .int x1), (2, .int x2)]) C dX3_reckonChances_18 (by decide) rfl ?_
      exact go_lv [2, 3, 4, 1, 0] rfl (m3_reckonChances_L20_k C T0 T1 T x1 x2 R0 _ (fun z0 z1 h => ih z0 z1 h) FU v1 (1 : Int32) h)

set_option maxRecDepth 100000 in
set_option maxHeartbeats 4000000 in
theorem m3_reckonChances_k (l : Launch) (G : gG) (T0 T1 : Nat) (T : SX3) (a1 : Int32) (R0 : SX3) (h : m3_reckonChances T a1 = some R0) : KK l G yX3_reckonChances cX3_reckonChances 6 none 1 24 [.ref T0, .int a1] (u3 G T0 T1 T) none (u3 G T0 T1 R0) := by
  refine KK_intro (own := RX3) (by decide +kernel) rfl (Nat.le_of_ble_eq_true rfl) rfl ?_
  intro p e s m args below meth c A C
  unfold m3_reckonChances at h
  refine go_aload_n C dX3_reckonChances_0 0 rfl ?_
  refine go_get (v := .ref T1) C ffX3_9 dX3_reckonChances_1 0 rfl rfl ?_
  refine go_iconst (v := 0) C dX3_reckonChances_4 rfl ?_
  refine go_lconst (v := 1) C dX3_reckonChances_5 rfl ?_
  refine go_lastore (f := (g3_chances T)) (w' := u3 G T0 T1 (s3_chances T (vp_updL (g3_chances T) (Int32.toNatClampNeg (0 : Int32)) (1 : Int64)))) C dX3_reckonChances_6 1 rfl (by decide) z3_chances ?_
  refine go_iconst (v := 1) C dX3_reckonChances_7 rfl ?_
  refine go_istore_n (lv' := [(2, .int (1 : Int32)), (0, .ref T0), (1, .int a1)]) C dX3_reckonChances_8 (by decide) rfl ?_
  exact go_lv [1, 2, 0] rfl (m3_reckonChances_L9_k C T0 T1 a1 R0  FU (1 : Int32) (s3_chances T (vp_updL (g3_chances T) (Int32.toNatClampNeg (0 : Int32)) (1 : Int64))) h)

set_option maxRecDepth 100000 in
set_option maxHeartbeats 4000000 in
theorem m3_chanceOn_J23_k {p : Program} {l : Launch} {e : Env} {s : State} {m : MethodId} {args : Array Value} {below : List Frame} {meth : Method} {c : Code} {G : gG} {A : Nat → Prop} (C : Cx p e s m args meth c G RX3 cX3_chanceOn 3 none A) (T0 T1 : Nat) (T : SX3) (x1 : Int32) (x2 : Int32) (y1 : Int64) (R0 : SX3)  (h : m3_chanceOn_J23 T x1 x2 y1 = some R0) : Gq p l e (rq 2 49) s m args below meth c G A 3 0 0 (MQ below (QK G none (u3 G T0 T1 R0) A) args s 0 0 A) 23 [(0, .ref T0), (1, .int x1), (2, .int x2)] [.long y1, .ref T0] (u3 G T0 T1 T) := by
  unfold m3_chanceOn_J23 at h
  refine go_putl (w' := u3 G T0 T1 (s3_upper T y1)) C fpX3_15 dX3_chanceOn_23 0 rfl (Nat.le_of_ble_eq_true rfl) z3_upper ?_
  refine go_aload_n C dX3_chanceOn_26 0 rfl ?_
  refine go_iload_n C dX3_chanceOn_27 1 rfl ?_
  refine go_iload_n C dX3_chanceOn_28 2 rfl ?_
  obtain ⟨r5, k6, h⟩ := tbd_e h
  refine go_callS0 C cfX3_30 (wr33 _ (List.mem_of_getElem? (i := 4) rfl)) (m3_power_k l G x1 x2 r5 k6) dX3_chanceOn_29 (by decide) ⟨Nat.zero_le _, Nat.zero_le _⟩ rfl rfl (Nat.le_of_ble_eq_true rfl) ?_
  refine go_putl (w' := u3 G T0 T1 (s3_lower (s3_upper T y1) r5)) C fpX3_19 dX3_chanceOn_32 0 rfl (Nat.le_of_ble_eq_true rfl) z3_lower ?_
  cases h
  exact go_vret C dX3_chanceOn_35 rfl rfl

set_option maxRecDepth 100000 in
set_option maxHeartbeats 4000000 in
theorem m3_chanceOn_k (l : Launch) (G : gG) (T0 T1 : Nat) (T : SX3) (a1 : Int32) (a2 : Int32) (R0 : SX3) (h : m3_chanceOn T a1 a2 = some R0) : KK l G yX3_chanceOn cX3_chanceOn 3 none 2 49 [.ref T0, .int a1, .int a2] (u3 G T0 T1 T) none (u3 G T0 T1 R0) := by
  refine KK_intro (own := RX3) (by decide +kernel) rfl (Nat.le_of_ble_eq_true rfl) rfl ?_
  intro p e s m args below meth c A C
  unfold m3_chanceOn at h
  refine go_aload_n C dX3_chanceOn_0 0 rfl ?_
  refine go_iload_n C dX3_chanceOn_1 1 rfl ?_
  obtain ⟨r1, k2, h⟩ := tbd_e h
  refine go_callV (q0 := 0) (wr := ([] : va_W)) (w' := u3 G T0 T1 r1) C cfX3_22 viX3_reckonChances (m3_reckonChances_k l G T0 T1 T a1 r1 k2) dX3_chanceOn_2 (by decide) ⟨Nat.zero_le _, Nat.zero_le _⟩ rfl rfl (Nat.le_of_ble_eq_true rfl) rfl [0, 1] [] [0, 1] rfl rfl (by decide) rfl ?_
  refine go_aload_n C dX3_chanceOn_5 0 rfl ?_
  refine go_iload_n C dX3_chanceOn_6 2 rfl ?_
  obtain ⟨r3, k4, h⟩ := tbd_e h
  refine go_callSN0 C cfX3_26 (wr6 _ (List.mem_of_getElem? (i := 16) rfl)) (m9_isRung_k l G a2 r3 k4) dX3_chanceOn_7 (by decide) ⟨Nat.zero_le _, Nat.zero_le _⟩ rfl rfl (Nat.le_of_ble_eq_true rfl) ?_
  refine go_if_eq (tgt := 22) C h dX3_chanceOn_10 rfl (fun h => ?_) (fun h => ?_)
  · refine go_lconst (v := 0) C dX3_chanceOn_22 rfl ?_
    exact go_lv [0, 1, 2] rfl (m3_chanceOn_J23_k C T0 T1 r1 a1 a2 (0 : Int64) R0  h)
  · refine go_aload_n C dX3_chanceOn_13 0 rfl ?_
    refine go_get (v := .ref T1) C ffX3_9 dX3_chanceOn_14 0 rfl rfl ?_
    refine go_iload_n C dX3_chanceOn_17 2 rfl ?_
    refine go_laloadG (f := (g3_chances r1)) C h dX3_chanceOn_18 1 rfl (fun h => ?_)
    refine go_goto (tgt := 23) C dX3_chanceOn_19 rfl ?_
    exact go_lv [0, 1, 2] rfl (m3_chanceOn_J23_k C T0 T1 r1 a1 a2 ((g3_chances r1) (Int32.toNatClampNeg a2)) R0  h)

set_option maxRecDepth 100000 in
set_option maxHeartbeats 4000000 in
theorem m3_meanStepsTo_J54_k {p : Program} {l : Launch} {e : Env} {s : State} {m : MethodId} {args : Array Value} {below : List Frame} {meth : Method} {c : Code} {G : gG} {A : Nat → Prop} (C : Cx p e s m args meth c G RX3 cX3_meanStepsTo 4 none A) (T0 T1 : Nat) (T : SX3) (x1 : Int32) (x2 : Int32) (R0 : SX3)  (h : m3_meanStepsTo_J54 T x1 x2 = some R0) : Gq p l e (rq 2 49) s m args below meth c G A 4 0 0 (MQ below (QK G none (u3 G T0 T1 R0) A) args s 0 0 A) 54 [(0, .ref T0), (1, .int x1), (2, .int x2)] [] (u3 G T0 T1 T) := by
  unfold m3_meanStepsTo_J54 at h
  refine go_aload_n C dX3_meanStepsTo_54 0 rfl ?_
  refine go_iload_n C dX3_meanStepsTo_55 1 rfl ?_
  refine go_iload_n C dX3_meanStepsTo_56 2 rfl ?_
  refine go_iconst (v := 1) C dX3_meanStepsTo_57 rfl ?_
  refine go_isub C dX3_meanStepsTo_58 ?_
  obtain ⟨r3, k4, h⟩ := tbd_e h
  refine go_callS0 C cfX3_30 (wr33 _ (List.mem_of_getElem? (i := 4) rfl)) (m3_power_k l G x1 (x2 - (1 : Int32)) r3 k4) dX3_meanStepsTo_59 (by decide) ⟨Nat.zero_le _, Nat.zero_le _⟩ rfl rfl (Nat.le_of_ble_eq_true rfl) ?_
  refine go_putl (w' := u3 G T0 T1 (s3_lower T r3)) C fpX3_19 dX3_meanStepsTo_62 0 rfl (Nat.le_of_ble_eq_true rfl) z3_lower ?_
  cases h
  exact go_vret C dX3_meanStepsTo_65 rfl rfl

set_option maxRecDepth 100000 in
set_option maxHeartbeats 4000000 in
theorem m3_meanStepsTo_L12_k {p : Program} {l : Launch} {e : Env} {s : State} {m : MethodId} {args : Array Value} {below : List Frame} {meth : Method} {c : Code} {G : gG} {A : Nat → Prop} (C : Cx p e s m args meth c G RX3 cX3_meanStepsTo 4 none A) (T0 T1 : Nat) (x1 : Int32) (x2 : Int32) (R0 : SX3)  : ∀ (n : Nat) (x3 : Int32) (T : SX3), tit (m3_meanStepsTo_L12 x1 x2) n (x3, T) = some R0 → Gq p l e (rq 2 49) s m args below meth c G A 4 0 0 (MQ below (QK G none (u3 G T0 T1 R0) A) args s 0 0 A) 12 [(0, .ref T0), (1, .int x1), (2, .int x2), (3, .int x3)] [] (u3 G T0 T1 T) := by
  intro n
  induction n with
  | zero => exact fun _ _ h => (tit_z h).elim
  | succ n ih =>
    intro x3 T h
    replace h : m3_meanStepsTo_B12 x1 x2 (tit (m3_meanStepsTo_L12 x1 x2) n) x3 T = some R0 := h
    unfold m3_meanStepsTo_B12 at h
    refine go_iload_n C dX3_meanStepsTo_12 3 rfl ?_
    refine go_iload_n C dX3_meanStepsTo_13 2 rfl ?_
    refine go_icmp_ge (tgt := 54) C h dX3_meanStepsTo_14 rfl (fun h => ?_) (fun h => ?_)
    · exact go_lv [0, 1, 2] rfl (m3_meanStepsTo_J54_k C T0 T1 T x1 x2 R0  h)
    · refine go_iload_n C dX3_meanStepsTo_17 3 rfl ?_
      refine go_bipush (v := 12) C dX3_meanStepsTo_18 rfl ?_
      refine go_icmp_gt (tgt := 54) C h dX3_meanStepsTo_20 rfl (fun h => ?_) (fun h => ?_)
      · exact go_lv [0, 1, 2] rfl (m3_meanStepsTo_J54_k C T0 T1 T x1 x2 R0  h)
      · refine go_aload_n C dX3_meanStepsTo_23 0 rfl ?_
        refine go_dup C dX3_meanStepsTo_24 rfl ?_
        refine go_get (v := .long (g3_upper T)) C ffX3_15 dX3_meanStepsTo_25 0 rfl rfl ?_
        refine go_aload_n C dX3_meanStepsTo_28 0 rfl ?_
        refine go_get (v := .ref T1) C ffX3_9 dX3_meanStepsTo_29 0 rfl rfl ?_
        refine go_iload_n C dX3_meanStepsTo_32 3 rfl ?_
        refine go_laloadG (f := (g3_chances T)) C h dX3_meanStepsTo_33 1 rfl (fun h => ?_)
        refine go_iload_n C dX3_meanStepsTo_34 1 rfl ?_
        refine go_iload_n C dX3_meanStepsTo_35 2 rfl ?_
        refine go_iconst (v := 1) C dX3_meanStepsTo_36 rfl ?_
        refine go_isub C dX3_meanStepsTo_37 ?_
        refine go_iload_n C dX3_meanStepsTo_38 3 rfl ?_
        refine go_isub C dX3_meanStepsTo_39 ?_
        obtain ⟨r5, k6, h⟩ := tbd_e h
        refine go_callS0 C cfX3_30 (wr33 _ (List.mem_of_getElem? (i := 4) rfl)) (m3_power_k l G x1 ((x2 - (1 : Int32)) - x3) r5 k6) dX3_meanStepsTo_40 (by decide) ⟨Nat.zero_le _, Nat.zero_le _⟩ rfl rfl (Nat.le_of_ble_eq_true rfl) ?_
        refine go_lmul C dX3_meanStepsTo_43 ?_
        refine go_ladd C dX3_meanStepsTo_44 ?_
        refine go_putl (w' := u3 G T0 T1 (s3_upper T ((g3_upper T) + (((g3_chances T) (Int32.toNatClampNeg x3)) * r5)))) C fpX3_15 dX3_meanStepsTo_45 0 rfl (Nat.le_of_ble_eq_true rfl) z3_upper ?_
        refine go_iincN (lf := fun v7 => [(3, .int v7), (0, .ref T0), (1, .int x1), (2, .int x2)]) C h dX3_meanStepsTo_48 3 rfl rfl (by decide) (fun _ => rfl) (fun v7 h => ?_)
        refine go_goto (tgt := 12) C dX3_meanStepsTo_51 rfl ?_
        exact go_lv [1, 2, 3, 0] rfl (ih v7 (s3_upper T ((g3_upper T) + (((g3_chances T) (Int32.toNatClampNeg x3)) * r5))) h)

set_option maxRecDepth 100000 in
set_option maxHeartbeats 4000000 in
theorem m3_meanStepsTo_k (l : Launch) (G : gG) (T0 T1 : Nat) (T : SX3) (a1 : Int32) (a2 : Int32) (R0 : SX3) (h : m3_meanStepsTo T a1 a2 = some R0) : KK l G yX3_meanStepsTo cX3_meanStepsTo 4 none 2 49 [.ref T0, .int a1, .int a2] (u3 G T0 T1 T) none (u3 G T0 T1 R0) := by
  refine KK_intro (own := RX3) (by decide +kernel) rfl (Nat.le_of_ble_eq_true rfl) rfl ?_
  intro p e s m args below meth c A C
  unfold m3_meanStepsTo at h
  refine go_aload_n C dX3_meanStepsTo_0 0 rfl ?_
  refine go_iload_n C dX3_meanStepsTo_1 1 rfl ?_
  obtain ⟨r1, k2, h⟩ := tbd_e h
  refine go_callV (q0 := 0) (wr := ([] : va_W)) (w' := u3 G T0 T1 r1) C cfX3_22 viX3_reckonChances (m3_reckonChances_k l G T0 T1 T a1 r1 k2) dX3_meanStepsTo_2 (by decide) ⟨Nat.zero_le _, Nat.zero_le _⟩ rfl rfl (Nat.le_of_ble_eq_true rfl) rfl [0, 1] [] [0, 1] rfl rfl (by decide) rfl ?_
  refine go_aload_n C dX3_meanStepsTo_5 0 rfl ?_
  refine go_lconst (v := 0) C dX3_meanStepsTo_6 rfl ?_
  refine go_putl (w' := u3 G T0 T1 (s3_upper r1 (0 : Int64))) C fpX3_15 dX3_meanStepsTo_7 0 rfl (Nat.le_of_ble_eq_true rfl) z3_upper ?_
  refine go_iconst (v := 0) C dX3_meanStepsTo_10 rfl ?_
  refine go_istore_n (lv' := [(3, .int (0 : Int32)), (0, .ref T0), (1, .int a1), (2, .int a2)]) C dX3_meanStepsTo_11 (by decide) rfl ?_
  exact go_lv [1, 2, 3, 0] rfl (m3_meanStepsTo_L12_k C T0 T1 a1 a2 R0  FU (0 : Int32) (s3_upper r1 (0 : Int64)) h)

set_option maxRecDepth 100000 in
set_option maxHeartbeats 4000000 in
theorem m3_upperNumber_k (l : Launch) (G : gG) (T0 T1 : Nat) (T : SX3) (R0 : Int64) (h : m3_upperNumber T = some R0) : KK l G yX3_upperNumber cX3_upperNumber 1 (some .long) 0 0 [.ref T0] (u3 G T0 T1 T) (some (.long R0)) (u3 G T0 T1 T) := by
  refine KK_intro (own := RX3) (by decide +kernel) rfl (Nat.le_of_ble_eq_true rfl) rfl ?_
  intro p e s m args below meth c A C
  unfold m3_upperNumber at h
  refine go_aload_n C dX3_upperNumber_0 0 rfl ?_
  refine go_get (v := .long (g3_upper T)) C ffX3_15 dX3_upperNumber_1 0 rfl rfl ?_
  cases h
  exact go_lret C dX3_upperNumber_4 rfl rfl

set_option maxRecDepth 100000 in
set_option maxHeartbeats 4000000 in
theorem m3_lowerNumber_k (l : Launch) (G : gG) (T0 T1 : Nat) (T : SX3) (R0 : Int64) (h : m3_lowerNumber T = some R0) : KK l G yX3_lowerNumber cX3_lowerNumber 1 (some .long) 0 0 [.ref T0] (u3 G T0 T1 T) (some (.long R0)) (u3 G T0 T1 T) := by
  refine KK_intro (own := RX3) (by decide +kernel) rfl (Nat.le_of_ble_eq_true rfl) rfl ?_
  intro p e s m args below meth c A C
  unfold m3_lowerNumber at h
  refine go_aload_n C dX3_lowerNumber_0 0 rfl ?_
  refine go_get (v := .long (g3_lower T)) C ffX3_19 dX3_lowerNumber_1 0 rfl rfl ?_
  cases h
  exact go_lret C dX3_lowerNumber_4 rfl rfl

set_option maxRecDepth 100000 in
set_option maxHeartbeats 4000000 in
theorem m4_begin_k (l : Launch) (G : gG) (T0 T_after0 T_act0 Ob0 Ob1 Ob2 Ob3 Ob4 Ob5 T_after1 T_after2 T_after3 T_after4 T_after5 : Nat) (T : SX4) (Ob : SX1) (T_after : SX1) (R0 : SX4 × SX1) (h : m4_begin T Ob T_after = some R0) : KK l G yX4_begin cX4_begin 2 none 2 81 [.ref T0, .ref Ob0] (u4 G T0 T_after0 T_act0 T ++ (u1 G Ob0 Ob1 Ob2 Ob3 Ob4 Ob5 Ob ++ (u1 G T_after0 T_after1 T_after2 T_after3 T_after4 T_after5 T_after))) none (u4 G T0 T_after0 T_act0 R0.1 ++ (u1 G Ob0 Ob1 Ob2 Ob3 Ob4 Ob5 Ob ++ (u1 G T_after0 T_after1 T_after2 T_after3 T_after4 T_after5 R0.2))) := by
  refine KK_intro (own := RX4) (by decide +kernel) rfl (Nat.le_of_ble_eq_true rfl) rfl ?_
  intro p e s m args below meth c A C
  unfold m4_begin at h
  refine go_aload_n C dX4_begin_0 0 rfl ?_
  refine go_get (v := .ref T_after0) C ffX4_12 dX4_begin_1 0 rfl rfl ?_
  refine go_aload_n C dX4_begin_4 1 rfl ?_
  obtain ⟨r1, k2, h⟩ := tbd_e h
  refine go_callV (q0 := 7) (wr := u4 G T0 T_after0 T_act0 T) (w' := u4 G T0 T_after0 T_act0 T ++ (u1 G Ob0 Ob1 Ob2 Ob3 Ob4 Ob5 Ob ++ (u1 G T_after0 T_after1 T_after2 T_after3 T_after4 T_after5 r1))) C cfX4_44 viX1_copyFrom (m1_copyFrom_k l G T_after0 T_after1 T_after2 T_after3 T_after4 T_after5 Ob0 Ob1 Ob2 Ob3 Ob4 Ob5 T_after Ob r1 k2) dX4_begin_5 (by decide) ⟨Nat.zero_le _, Nat.zero_le _⟩ rfl rfl (Nat.le_of_ble_eq_true rfl) rfl [7, 8, 9, 10, 11, 12, 1, 2, 3, 4, 5, 6] [0] [0, 7, 8, 9, 10, 11, 12, 1, 2, 3, 4, 5, 6] rfl rfl (by decide) rfl ?_
  refine go_aload_n C dX4_begin_8 0 rfl ?_
  refine go_iconst (v := 0) C dX4_begin_9 rfl ?_
  refine go_puti (w' := u4 G T0 T_after0 T_act0 (s4_acts T (0 : Int32)) ++ (u1 G Ob0 Ob1 Ob2 Ob3 Ob4 Ob5 Ob ++ (u1 G T_after0 T_after1 T_after2 T_after3 T_after4 T_after5 r1))) C fpX4_25 dX4_begin_10 0 rfl (Nat.le_of_ble_eq_true rfl) (setL (Nat.le_of_ble_eq_true rfl) z4_acts) ?_
  refine go_aload_n C dX4_begin_13 0 rfl ?_
  refine go_iconst (v := 0) C dX4_begin_14 rfl ?_
  refine go_puti (w' := u4 G T0 T_after0 T_act0 (s4_steps (s4_acts T (0 : Int32)) (0 : Int32)) ++ (u1 G Ob0 Ob1 Ob2 Ob3 Ob4 Ob5 Ob ++ (u1 G T_after0 T_after1 T_after2 T_after3 T_after4 T_after5 r1))) C fpX4_29 dX4_begin_15 0 rfl (Nat.le_of_ble_eq_true rfl) (setL (Nat.le_of_ble_eq_true rfl) z4_steps) ?_
  refine go_aload_n C dX4_begin_18 0 rfl ?_
  refine go_iconst (v := 0) C dX4_begin_19 rfl ?_
  refine go_puti (w' := u4 G T0 T_after0 T_act0 (s4_paid (s4_steps (s4_acts T (0 : Int32)) (0 : Int32)) (0 : Int32)) ++ (u1 G Ob0 Ob1 Ob2 Ob3 Ob4 Ob5 Ob ++ (u1 G T_after0 T_after1 T_after2 T_after3 T_after4 T_after5 r1))) C fpX4_32 dX4_begin_20 0 rfl (Nat.le_of_ble_eq_true rfl) (setL (Nat.le_of_ble_eq_true rfl) z4_paid) ?_
  refine go_aload_n C dX4_begin_23 0 rfl ?_
  refine go_bipush (v := -6) C dX4_begin_24 rfl ?_
  refine go_puti (w' := u4 G T0 T_after0 T_act0 (s4_actUp (s4_paid (s4_steps (s4_acts T (0 : Int32)) (0 : Int32)) (0 : Int32)) (-6 : Int32)) ++ (u1 G Ob0 Ob1 Ob2 Ob3 Ob4 Ob5 Ob ++ (u1 G T_after0 T_after1 T_after2 T_after3 T_after4 T_after5 r1))) C fpX4_35 dX4_begin_26 0 rfl (Nat.le_of_ble_eq_true rfl) (setL (Nat.le_of_ble_eq_true rfl) z4_actUp) ?_
  refine go_aload_n C dX4_begin_29 0 rfl ?_
  refine go_bipush (v := -6) C dX4_begin_30 rfl ?_
  refine go_puti (w' := u4 G T0 T_after0 T_act0 (s4_manUp (s4_actUp (s4_paid (s4_steps (s4_acts T (0 : Int32)) (0 : Int32)) (0 : Int32)) (-6 : Int32)) (-6 : Int32)) ++ (u1 G Ob0 Ob1 Ob2 Ob3 Ob4 Ob5 Ob ++ (u1 G T_after0 T_after1 T_after2 T_after3 T_after4 T_after5 r1))) C fpX4_38 dX4_begin_32 0 rfl (Nat.le_of_ble_eq_true rfl) (setL (Nat.le_of_ble_eq_true rfl) z4_manUp) ?_
  refine go_aload_n C dX4_begin_35 0 rfl ?_
  refine go_iconst (v := 0) C dX4_begin_36 rfl ?_
  refine go_puti (w' := u4 G T0 T_after0 T_act0 (s4_why (s4_manUp (s4_actUp (s4_paid (s4_steps (s4_acts T (0 : Int32)) (0 : Int32)) (0 : Int32)) (-6 : Int32)) (-6 : Int32)) (0 : Int32)) ++ (u1 G Ob0 Ob1 Ob2 Ob3 Ob4 Ob5 Ob ++ (u1 G T_after0 T_after1 T_after2 T_after3 T_after4 T_after5 r1))) C fpX4_41 dX4_begin_37 0 rfl (Nat.le_of_ble_eq_true rfl) (setL (Nat.le_of_ble_eq_true rfl) z4_why) ?_
  cases h
  exact go_vret C dX4_begin_40 rfl rfl

set_option maxRecDepth 100000 in
set_option maxHeartbeats 4000000 in
theorem m5_signAt_k (l : Launch) (G : gG) (T0 T1 : Nat) (T : SX5) (a1 : Int32) (R0 : Int32) (h : m5_signAt T a1 = some R0) : KK l G yX5_signAt cX5_signAt 2 (some .char) 0 0 [.ref T0, .int a1] (u5 G T0 T1 T) (some (.int R0)) (u5 G T0 T1 T) := by
  refine KK_intro (own := RX5) (by decide +kernel) rfl (Nat.le_of_ble_eq_true rfl) rfl ?_
  intro p e s m args below meth c A C
  unfold m5_signAt at h
  refine go_iload_n C dX5_signAt_0 1 rfl ?_
  refine go_if_lt (tgt := 27) C h dX5_signAt_1 rfl (fun h => ?_) (fun h => ?_)
  · refine go_iconst (v := 0) C dX5_signAt_27 rfl ?_
    cases h
    exact go_cret C dX5_signAt_28 (by decide) rfl rfl
  · refine go_iload_n C dX5_signAt_4 1 rfl ?_
    refine go_aload_n C dX5_signAt_5 0 rfl ?_
    refine go_get (v := .int (g5_count T)) C ffX5_15 dX5_signAt_6 0 rfl rfl ?_
    refine go_icmp_ge (tgt := 27) C h dX5_signAt_9 rfl (fun h => ?_) (fun h => ?_)
    · refine go_iconst (v := 0) C dX5_signAt_27 rfl ?_
      cases h
      exact go_cret C dX5_signAt_28 (by decide) rfl rfl
    · refine go_iload_n C dX5_signAt_12 1 rfl ?_
      refine go_bipush (v := 60) C dX5_signAt_13 rfl ?_
      refine go_icmp_ge (tgt := 27) C h dX5_signAt_15 rfl (fun h => ?_) (fun h => ?_)
      · refine go_iconst (v := 0) C dX5_signAt_27 rfl ?_
        cases h
        exact go_cret C dX5_signAt_28 (by decide) rfl rfl
      · refine go_aload_n C dX5_signAt_18 0 rfl ?_
        refine go_get (v := .ref T1) C ffX5_9 dX5_signAt_19 0 rfl rfl ?_
        refine go_iload_n C dX5_signAt_22 1 rfl ?_
        refine go_caloadG (f := (g5_signs T)) C h dX5_signAt_23 1 rfl (fun h => ?_)
        refine go_goto (tgt := 28) C dX5_signAt_24 rfl ?_
        obtain ⟨hg, h⟩ := tgd_e h
        cases h
        exact go_cret C dX5_signAt_28 hg rfl rfl

set_option maxRecDepth 100000 in
set_option maxHeartbeats 4000000 in
theorem m5_isManSign_k (l : Launch) (G : gG) (a0 : Int32) (R0 : Int32) (h : m5_isManSign a0 = some R0) : KK l G yX5_isManSign cX5_isManSign 1 (some .boolean) 0 0 [.int a0] (([] : va_W)) (some (.int R0)) (([] : va_W)) := by
  refine KK_intro (own := RX5) (by decide +kernel) rfl (Nat.le_of_ble_eq_true rfl) rfl ?_
  intro p e s m args below meth c A C
  unfold m5_isManSign at h
  refine go_iload_n C dX5_isManSign_0 0 rfl ?_
  refine go_bipush (v := 65) C dX5_isManSign_1 rfl ?_
  refine go_icmp_lt (tgt := 16) C h dX5_isManSign_3 rfl (fun h => ?_) (fun h => ?_)
  · refine go_iconst (v := 0) C dX5_isManSign_16 rfl ?_
    cases h
    exact go_zret C dX5_isManSign_17 (by decide) rfl rfl
  · refine go_iload_n C dX5_isManSign_6 0 rfl ?_
    refine go_bipush (v := 70) C dX5_isManSign_7 rfl ?_
    refine go_icmp_gt (tgt := 16) C h dX5_isManSign_9 rfl (fun h => ?_) (fun h => ?_)
    · refine go_iconst (v := 0) C dX5_isManSign_16 rfl ?_
      cases h
      exact go_zret C dX5_isManSign_17 (by decide) rfl rfl
    · refine go_iconst (v := 1) C dX5_isManSign_12 rfl ?_
      refine go_goto (tgt := 17) C dX5_isManSign_13 rfl ?_
      cases h
      exact go_zret C dX5_isManSign_17 (by decide) rfl rfl

set_option maxRecDepth 100000 in
set_option maxHeartbeats 4000000 in
theorem m5_needsMore_k (l : Launch) (G : gG) (a0 : Int32) (R0 : Int32) (h : m5_needsMore a0 = some R0) : KK l G yX5_needsMore cX5_needsMore 1 (some .boolean) 1 20 [.int a0] (([] : va_W)) (some (.int R0)) (([] : va_W)) := by
  refine KK_intro (own := RX5) (by decide +kernel) rfl (Nat.le_of_ble_eq_true rfl) rfl ?_
  intro p e s m args below meth c A C
  unfold m5_needsMore at h
  refine go_iload_n C dX5_needsMore_0 0 rfl ?_
  obtain ⟨r1, k2, h⟩ := tbd_e h
  refine go_callS0 C cfX5_35 (wr11 _ (List.mem_of_getElem? (i := 8) rfl)) (m5_isManSign_k l G a0 r1 k2) dX5_needsMore_1 (by decide) ⟨Nat.zero_le _, Nat.zero_le _⟩ rfl rfl (Nat.le_of_ble_eq_true rfl) ?_
  refine go_if_ne (tgt := 19) C h dX5_needsMore_4 rfl (fun h => ?_) (fun h => ?_)
  · refine go_iconst (v := 1) C dX5_needsMore_19 rfl ?_
    refine go_goto (tgt := 24) C dX5_needsMore_20 rfl ?_
    cases h
    exact go_zret C dX5_needsMore_24 (by decide) rfl rfl
  · refine go_iload_n C dX5_needsMore_7 0 rfl ?_
    refine go_bipush (v := 107) C dX5_needsMore_8 rfl ?_
    refine go_icmp_eq (tgt := 19) C h dX5_needsMore_10 rfl (fun h => ?_) (fun h => ?_)
    · refine go_iconst (v := 1) C dX5_needsMore_19 rfl ?_
      refine go_goto (tgt := 24) C dX5_needsMore_20 rfl ?_
      cases h
      exact go_zret C dX5_needsMore_24 (by decide) rfl rfl
    · refine go_iload_n C dX5_needsMore_13 0 rfl ?_
      refine go_bipush (v := 43) C dX5_needsMore_14 rfl ?_
      refine go_icmp_ne (tgt := 23) C h dX5_needsMore_16 rfl (fun h => ?_) (fun h => ?_)
      · refine go_iconst (v := 0) C dX5_needsMore_23 rfl ?_
        cases h
        exact go_zret C dX5_needsMore_24 (by decide) rfl rfl
      · refine go_iconst (v := 1) C dX5_needsMore_19 rfl ?_
        refine go_goto (tgt := 24) C dX5_needsMore_20 rfl ?_
        cases h
        exact go_zret C dX5_needsMore_24 (by decide) rfl rfl

set_option maxRecDepth 100000 in
set_option maxHeartbeats 4000000 in
theorem m5_endOfAct_J44_k {p : Program} {l : Launch} {e : Env} {s : State} {m : MethodId} {args : Array Value} {below : List Frame} {meth : Method} {c : Code} {G : gG} {A : Nat → Prop} (C : Cx p e s m args meth c G RX5 cX5_endOfAct 2 (some .int) A) (T0 T1 : Nat) (T : SX5) (x1 : Int32) (R0 : Int32)  (h : m5_endOfAct_J44 T x1 = some R0) : Gq p l e (rq 2 40) s m args below meth c G A 2 0 0 (MQ below (QK G (some (.int R0)) (u5 G T0 T1 T) A) args s 0 0 A) 44 [(1, .int x1)] [] (u5 G T0 T1 T) := by
  unfold m5_endOfAct_J44 at h
  refine go_iload_n C dX5_endOfAct_44 0 rfl ?_
  refine go_iconst (v := 2) C dX5_endOfAct_45 rfl ?_
  refine go_iadd C dX5_endOfAct_46 ?_
  cases h
  exact go_iret C dX5_endOfAct_47 rfl rfl

set_option maxRecDepth 100000 in
set_option maxHeartbeats 4000000 in
theorem m5_endOfAct_k (l : Launch) (G : gG) (T0 T1 : Nat) (T : SX5) (a1 : Int32) (R0 : Int32) (h : m5_endOfAct T a1 = some R0) : KK l G yX5_endOfAct cX5_endOfAct 2 (some .int) 2 40 [.ref T0, .int a1] (u5 G T0 T1 T) (some (.int R0)) (u5 G T0 T1 T) := by
  refine KK_intro (own := RX5) (by decide +kernel) rfl (Nat.le_of_ble_eq_true rfl) rfl ?_
  intro p e s m args below meth c A C
  unfold m5_endOfAct at h
  refine go_aload_n C dX5_endOfAct_0 0 rfl ?_
  refine go_iload_n C dX5_endOfAct_1 1 rfl ?_
  obtain ⟨r1, k2, h⟩ := tbd_e h
  refine go_callV (q0 := 0) (wr := ([] : va_W)) (w' := u5 G T0 T1 T) C cfX5_27 viX5_signAt (m5_signAt_k l G T0 T1 T a1 r1 k2) dX5_endOfAct_2 (by decide) ⟨Nat.zero_le _, Nat.zero_le _⟩ rfl rfl (Nat.le_of_ble_eq_true rfl) rfl [0, 1] [] [0, 1] rfl rfl (by decide) rfl ?_
  obtain ⟨r3, k4, h⟩ := tbd_e h
  refine go_callS0 C cfX5_31 (wr11 _ (List.mem_of_getElem? (i := 5) rfl)) (m5_needsMore_k l G r1 r3 k4) dX5_endOfAct_5 (by decide) ⟨Nat.zero_le _, Nat.zero_le _⟩ rfl rfl (Nat.le_of_ble_eq_true rfl) ?_
  refine go_if_ne (tgt := 15) C h dX5_endOfAct_8 rfl (fun h => ?_) (fun h => ?_)
  · refine go_aload_n C dX5_endOfAct_15 0 rfl ?_
    refine go_iload_n C dX5_endOfAct_16 1 rfl ?_
    refine go_iconst (v := 1) C dX5_endOfAct_17 rfl ?_
    refine go_iadd C dX5_endOfAct_18 ?_
    obtain ⟨r5, k6, h⟩ := tbd_e h
    refine go_callV (q0 := 0) (wr := ([] : va_W)) (w' := u5 G T0 T1 T) C cfX5_27 viX5_signAt (m5_signAt_k l G T0 T1 T (a1 + (1 : Int32)) r5 k6) dX5_endOfAct_19 (by decide) ⟨Nat.zero_le _, Nat.zero_le _⟩ rfl rfl (Nat.le_of_ble_eq_true rfl) rfl [0, 1] [] [0, 1] rfl rfl (by decide) rfl ?_
    refine go_bipush (v := 37) C dX5_endOfAct_22 rfl ?_
    refine go_icmp_ne (tgt := 44) C h dX5_endOfAct_24 rfl (fun h => ?_) (fun h => ?_)
    · exact go_lv [1] rfl (m5_endOfAct_J44_k C T0 T1 T a1 R0  h)
    · refine go_aload_n C dX5_endOfAct_27 0 rfl ?_
      refine go_iload_n C dX5_endOfAct_28 1 rfl ?_
      obtain ⟨r7, k8, h⟩ := tbd_e h
      refine go_callV (q0 := 0) (wr := ([] : va_W)) (w' := u5 G T0 T1 T) C cfX5_27 viX5_signAt (m5_signAt_k l G T0 T1 T a1 r7 k8) dX5_endOfAct_29 (by decide) ⟨Nat.zero_le _, Nat.zero_le _⟩ rfl rfl (Nat.le_of_ble_eq_true rfl) rfl [0, 1] [] [0, 1] rfl rfl (by decide) rfl ?_
      obtain ⟨r9, k10, h⟩ := tbd_e h
      refine go_callS0 C cfX5_35 (wr11 _ (List.mem_of_getElem? (i := 8) rfl)) (m5_isManSign_k l G r7 r9 k10) dX5_endOfAct_32 (by decide) ⟨Nat.zero_le _, Nat.zero_le _⟩ rfl rfl (Nat.le_of_ble_eq_true rfl) ?_
      refine go_if_eq (tgt := 44) C h dX5_endOfAct_35 rfl (fun h => ?_) (fun h => ?_)
      · exact go_lv [1] rfl (m5_endOfAct_J44_k C T0 T1 T a1 R0  h)
      · refine go_iload_n C dX5_endOfAct_38 1 rfl ?_
        refine go_iconst (v := 3) C dX5_endOfAct_39 rfl ?_
        refine go_iadd C dX5_endOfAct_40 ?_
        refine go_goto (tgt := 47) C dX5_endOfAct_41 rfl ?_
        cases h
        exact go_iret C dX5_endOfAct_47 rfl rfl
  · refine go_iload_n C dX5_endOfAct_11 1 rfl ?_
    refine go_iconst (v := 1) C dX5_endOfAct_12 rfl ?_
    refine go_iadd C dX5_endOfAct_13 ?_
    cases h
    exact go_iret C dX5_endOfAct_14 rfl rfl

set_option maxRecDepth 100000 in
set_option maxHeartbeats 4000000 in
theorem m5_isRungSign_k (l : Launch) (G : gG) (a0 : Int32) (R0 : Int32) (h : m5_isRungSign a0 = some R0) : KK l G yX5_isRungSign cX5_isRungSign 1 (some .boolean) 0 0 [.int a0] (([] : va_W)) (some (.int R0)) (([] : va_W)) := by
  refine KK_intro (own := RX5) (by decide +kernel) rfl (Nat.le_of_ble_eq_true rfl) rfl ?_
  intro p e s m args below meth c A C
  unfold m5_isRungSign at h
  refine go_iload_n C dX5_isRungSign_0 0 rfl ?_
  refine go_bipush (v := 97) C dX5_isRungSign_1 rfl ?_
  refine go_icmp_lt (tgt := 16) C h dX5_isRungSign_3 rfl (fun h => ?_) (fun h => ?_)
  · refine go_iconst (v := 0) C dX5_isRungSign_16 rfl ?_
    cases h
    exact go_zret C dX5_isRungSign_17 (by decide) rfl rfl
  · refine go_iload_n C dX5_isRungSign_6 0 rfl ?_
    refine go_bipush (v := 108) C dX5_isRungSign_7 rfl ?_
    refine go_icmp_gt (tgt := 16) C h dX5_isRungSign_9 rfl (fun h => ?_) (fun h => ?_)
    · refine go_iconst (v := 0) C dX5_isRungSign_16 rfl ?_
      cases h
      exact go_zret C dX5_isRungSign_17 (by decide) rfl rfl
    · refine go_iconst (v := 1) C dX5_isRungSign_12 rfl ?_
      refine go_goto (tgt := 17) C dX5_isRungSign_13 rfl ?_
      cases h
      exact go_zret C dX5_isRungSign_17 (by decide) rfl rfl

set_option maxRecDepth 100000 in
set_option maxHeartbeats 4000000 in
theorem m5_isEndOfLadder_k (l : Launch) (G : gG) (a0 : Int32) (R0 : Int32) (h : m5_isEndOfLadder a0 = some R0) : KK l G yX5_isEndOfLadder cX5_isEndOfLadder 1 (some .boolean) 0 0 [.int a0] (([] : va_W)) (some (.int R0)) (([] : va_W)) := by
  refine KK_intro (own := RX5) (by decide +kernel) rfl (Nat.le_of_ble_eq_true rfl) rfl ?_
  intro p e s m args below meth c A C
  unfold m5_isEndOfLadder at h
  refine go_iload_n C dX5_isEndOfLadder_0 0 rfl ?_
  refine go_bipush (v := 94) C dX5_isEndOfLadder_1 rfl ?_
  refine go_icmp_eq (tgt := 12) C h dX5_isEndOfLadder_3 rfl (fun h => ?_) (fun h => ?_)
  · refine go_iconst (v := 1) C dX5_isEndOfLadder_12 rfl ?_
    refine go_goto (tgt := 17) C dX5_isEndOfLadder_13 rfl ?_
    cases h
    exact go_zret C dX5_isEndOfLadder_17 (by decide) rfl rfl
  · refine go_iload_n C dX5_isEndOfLadder_6 0 rfl ?_
    refine go_bipush (v := 95) C dX5_isEndOfLadder_7 rfl ?_
    refine go_icmp_ne (tgt := 16) C h dX5_isEndOfLadder_9 rfl (fun h => ?_) (fun h => ?_)
    · refine go_iconst (v := 0) C dX5_isEndOfLadder_16 rfl ?_
      cases h
      exact go_zret C dX5_isEndOfLadder_17 (by decide) rfl rfl
    · refine go_iconst (v := 1) C dX5_isEndOfLadder_12 rfl ?_
      refine go_goto (tgt := 17) C dX5_isEndOfLadder_13 rfl ?_
      cases h
      exact go_zret C dX5_isEndOfLadder_17 (by decide) rfl rfl

set_option maxRecDepth 100000 in
set_option maxHeartbeats 4000000 in
theorem m5_firstWrongSign_J80_k {p : Program} {l : Launch} {e : Env} {s : State} {m : MethodId} {args : Array Value} {below : List Frame} {meth : Method} {c : Code} {G : gG} {A : Nat → Prop} (C : Cx p e s m args meth c G RX5 cX5_firstWrongSign 6 (some .int) A) (T0 T1 : Nat) (T : SX5) (x2 : Int32) (R0 : Int32)  (h : m5_firstWrongSign_J80 T x2 = some R0) : Gq p l e (rq 2 40) s m args below meth c G A 6 0 0 (MQ below (QK G (some (.int R0)) (u5 G T0 T1 T) A) args s 0 0 A) 80 [(2, .int x2)] [] (u5 G T0 T1 T) := by
  unfold m5_firstWrongSign_J80 at h
  refine go_iload_n C dX5_firstWrongSign_80 0 rfl ?_
  refine go_iconst (v := 1) C dX5_firstWrongSign_81 rfl ?_
  refine go_isub C dX5_firstWrongSign_82 ?_
  cases h
  exact go_iret C dX5_firstWrongSign_83 rfl rfl

set_option maxRecDepth 100000 in
set_option maxHeartbeats 4000000 in
theorem m5_firstWrongSign_J43_k {p : Program} {l : Launch} {e : Env} {s : State} {m : MethodId} {args : Array Value} {below : List Frame} {meth : Method} {c : Code} {G : gG} {A : Nat → Prop} (C : Cx p e s m args meth c G RX5 cX5_firstWrongSign 6 (some .int) A) (T0 T1 : Nat) (T : SX5) (x2 : Int32) (y0 : Int32) (R0 : Int32)  (h : m5_firstWrongSign_J43 T x2 y0 = some R0) : Gq p l e (rq 2 40) s m args below meth c G A 6 0 0 (MQ below (QK G (some (.int R0)) (u5 G T0 T1 T) A) args s 0 0 A) 43 [(0, .ref T0), (2, .int x2)] [.int y0] (u5 G T0 T1 T) := by
  unfold m5_firstWrongSign_J43 at h
  refine go_istore (lv' := [(4, .int y0), (0, .ref T0), (2, .int x2)]) C dX5_firstWrongSign_43 (by decide) rfl ?_
  refine go_aload_n C dX5_firstWrongSign_45 1 rfl ?_
  refine go_iload_n C dX5_firstWrongSign_46 2 rfl ?_
  refine go_iconst (v := 1) C dX5_firstWrongSign_47 rfl ?_
  refine go_isub C dX5_firstWrongSign_48 ?_
  obtain ⟨r7, k8, h⟩ := tbd_e h
  refine go_callV (q0 := 0) (wr := ([] : va_W)) (w' := u5 G T0 T1 T) C cfX5_27 viX5_signAt (m5_signAt_k l G T0 T1 T (x2 - (1 : Int32)) r7 k8) dX5_firstWrongSign_49 (by decide) ⟨Nat.zero_le _, Nat.zero_le _⟩ rfl rfl (Nat.le_of_ble_eq_true rfl) rfl [0, 1] [] [0, 1] rfl rfl (by decide) rfl ?_
  refine go_istore (lv' := [(5, .int r7), (4, .int y0), (0, .ref T0), (2, .int x2)]) C dX5_firstWrongSign_52 (by decide) rfl ?_
  refine go_iload C dX5_firstWrongSign_54 0 rfl ?_
  obtain ⟨r9, k10, h⟩ := tbd_e h
  refine go_callS0 C cfX5_38 (wr11 _ (List.mem_of_getElem? (i := 15) rfl)) (m5_isRungSign_k l G r7 r9 k10) dX5_firstWrongSign_56 (by decide) ⟨Nat.zero_le _, Nat.zero_le _⟩ rfl rfl (Nat.le_of_ble_eq_true rfl) ?_
  refine go_if_ne (tgt := 75) C h dX5_firstWrongSign_59 rfl (fun h => ?_) (fun h => ?_)
  · refine go_bipush (v := -6) C dX5_firstWrongSign_75 rfl ?_
    refine go_goto (tgt := 83) C dX5_firstWrongSign_77 rfl ?_
    cases h
    exact go_iret C dX5_firstWrongSign_83 rfl rfl
  · refine go_iload C dX5_firstWrongSign_62 1 rfl ?_
    refine go_if_eq (tgt := 80) C h dX5_firstWrongSign_64 rfl (fun h => ?_) (fun h => ?_)
    · exact go_lv [3] rfl (m5_firstWrongSign_J80_k C T0 T1 T x2 R0  h)
    · refine go_iload C dX5_firstWrongSign_67 0 rfl ?_
      obtain ⟨r11, k12, h⟩ := tbd_e h
      refine go_callS0 C cfX5_41 (wr11 _ (List.mem_of_getElem? (i := 18) rfl)) (m5_isEndOfLadder_k l G r7 r11 k12) dX5_firstWrongSign_69 (by decide) ⟨Nat.zero_le _, Nat.zero_le _⟩ rfl rfl (Nat.le_of_ble_eq_true rfl) ?_
      refine go_if_eq (tgt := 80) C h dX5_firstWrongSign_72 rfl (fun h => ?_) (fun h => ?_)
      · exact go_lv [3] rfl (m5_firstWrongSign_J80_k C T0 T1 T x2 R0  h)
      · refine go_bipush (v := -6) C dX5_firstWrongSign_75 rfl ?_
        refine go_goto (tgt := 83) C dX5_firstWrongSign_77 rfl ?_
        cases h
        exact go_iret C dX5_firstWrongSign_83 rfl rfl

set_option maxRecDepth 100000 in
set_option maxHeartbeats 4000000 in
theorem m5_firstWrongSign_J42_k {p : Program} {l : Launch} {e : Env} {s : State} {m : MethodId} {args : Array Value} {below : List Frame} {meth : Method} {c : Code} {G : gG} {A : Nat → Prop} (C : Cx p e s m args meth c G RX5 cX5_firstWrongSign 6 (some .int) A) (T0 T1 : Nat) (T : SX5) (x2 : Int32) (R0 : Int32)  (h : m5_firstWrongSign_J42 T x2 = some R0) : Gq p l e (rq 2 40) s m args below meth c G A 6 0 0 (MQ below (QK G (some (.int R0)) (u5 G T0 T1 T) A) args s 0 0 A) 42 [(0, .ref T0), (2, .int x2)] [] (u5 G T0 T1 T) := by
  unfold m5_firstWrongSign_J42 at h
  refine go_iconst (v := 0) C dX5_firstWrongSign_42 rfl ?_
  exact go_lv [0, 1] rfl (m5_firstWrongSign_J43_k C T0 T1 T x2 (0 : Int32) R0  h)

set_option maxRecDepth 100000 in
set_option maxHeartbeats 4000000 in
theorem m5_firstWrongSign_k (l : Launch) (G : gG) (T0 T1 : Nat) (T : SX5) (a1 : Int32) (a2 : Int32) (R0 : Int32) (h : m5_firstWrongSign T a1 a2 = some R0) : KK l G yX5_firstWrongSign cX5_firstWrongSign 6 (some .int) 2 40 [.ref T0, .int a1, .int a2] (u5 G T0 T1 T) (some (.int R0)) (u5 G T0 T1 T) := by
  refine KK_intro (own := RX5) (by decide +kernel) rfl (Nat.le_of_ble_eq_true rfl) rfl ?_
  intro p e s m args below meth c A C
  unfold m5_firstWrongSign at h
  refine go_aload_n C dX5_firstWrongSign_0 0 rfl ?_
  refine go_iload_n C dX5_firstWrongSign_1 1 rfl ?_
  obtain ⟨r1, k2, h⟩ := tbd_e h
  refine go_callV (q0 := 0) (wr := ([] : va_W)) (w' := u5 G T0 T1 T) C cfX5_27 viX5_signAt (m5_signAt_k l G T0 T1 T a1 r1 k2) dX5_firstWrongSign_2 (by decide) ⟨Nat.zero_le _, Nat.zero_le _⟩ rfl rfl (Nat.le_of_ble_eq_true rfl) rfl [0, 1] [] [0, 1] rfl rfl (by decide) rfl ?_
  refine go_istore_n (lv' := [(3, .int r1), (0, .ref T0), (1, .int a1), (2, .int a2)]) C dX5_firstWrongSign_5 (by decide) rfl ?_
  refine go_iload_n C dX5_firstWrongSign_6 0 rfl ?_
  refine go_bipush (v := 46) C dX5_firstWrongSign_7 rfl ?_
  refine go_icmp_ne (tgt := 15) C h dX5_firstWrongSign_9 rfl (fun h => ?_) (fun h => ?_)
  · refine go_iload_n C dX5_firstWrongSign_15 0 rfl ?_
    obtain ⟨r3, k4, h⟩ := tbd_e h
    refine go_callS0 C cfX5_31 (wr11 _ (List.mem_of_getElem? (i := 5) rfl)) (m5_needsMore_k l G r1 r3 k4) dX5_firstWrongSign_16 (by decide) ⟨Nat.zero_le _, Nat.zero_le _⟩ rfl rfl (Nat.le_of_ble_eq_true rfl) ?_
    refine go_if_ne (tgt := 24) C h dX5_firstWrongSign_19 rfl (fun h => ?_) (fun h => ?_)
    · refine go_iload_n C dX5_firstWrongSign_24 0 rfl ?_
      obtain ⟨r5, k6, h⟩ := tbd_e h
      refine go_callS0 C cfX5_35 (wr11 _ (List.mem_of_getElem? (i := 8) rfl)) (m5_isManSign_k l G r1 r5 k6) dX5_firstWrongSign_25 (by decide) ⟨Nat.zero_le _, Nat.zero_le _⟩ rfl rfl (Nat.le_of_ble_eq_true rfl) ?_
      refine go_if_eq (tgt := 42) C h dX5_firstWrongSign_28 rfl (fun h => ?_) (fun h => ?_)
      · exact go_lv [1, 3] rfl (m5_firstWrongSign_J42_k C T0 T1 T a2 R0  h)
      · refine go_iload_n C dX5_firstWrongSign_31 3 rfl ?_
        refine go_iload_n C dX5_firstWrongSign_32 2 rfl ?_
        refine go_isub C dX5_firstWrongSign_33 ?_
        refine go_iconst (v := 2) C dX5_firstWrongSign_34 rfl ?_
        refine go_icmp_ne (tgt := 42) C h dX5_firstWrongSign_35 rfl (fun h => ?_) (fun h => ?_)
        · exact go_lv [1, 3] rfl (m5_firstWrongSign_J42_k C T0 T1 T a2 R0  h)
        · refine go_iconst (v := 1) C dX5_firstWrongSign_38 rfl ?_
          refine go_goto (tgt := 43) C dX5_firstWrongSign_39 rfl ?_
          exact go_lv [1, 3] rfl (m5_firstWrongSign_J43_k C T0 T1 T a2 (1 : Int32) R0  h)
    · refine go_iload_n C dX5_firstWrongSign_22 2 rfl ?_
      cases h
      exact go_iret C dX5_firstWrongSign_23 rfl rfl
  · refine go_bipush (v := -6) C dX5_firstWrongSign_12 rfl ?_
    cases h
    exact go_iret C dX5_firstWrongSign_14 rfl rfl

set_option maxRecDepth 100000 in
set_option maxHeartbeats 4000000 in
theorem m5_firstFault_L4_k {p : Program} {l : Launch} {e : Env} {s : State} {m : MethodId} {args : Array Value} {below : List Frame} {meth : Method} {c : Code} {G : gG} {A : Nat → Prop} (C : Cx p e s m args meth c G RX5 cX5_firstFault 5 (some .int) A) (T0 T1 : Nat) (T : SX5) (R0 : Int32)  : ∀ (n : Nat) (x1 : Int32) (x2 : Int32), tit (m5_firstFault_L4 T) n (x1, x2) = some R0 → Gq p l e (rq 3 65) s m args below meth c G A 5 0 0 (MQ below (QK G (some (.int R0)) (u5 G T0 T1 T) A) args s 0 0 A) 4 [(0, .ref T0), (1, .int x1), (2, .int x2)] [] (u5 G T0 T1 T) := by
  intro n
  induction n with
  | zero => exact fun _ _ h => (tit_z h).elim
  | succ n ih =>
    intro x1 x2 h
    replace h : m5_firstFault_B4 T (tit (m5_firstFault_L4 T) n) x1 x2 = some R0 := h
    unfold m5_firstFault_B4 at h
    refine go_iload_n C dX5_firstFault_4 2 rfl ?_
    refine go_bipush (v := 60) C dX5_firstFault_5 rfl ?_
    refine go_icmp_ge (tgt := 50) C h dX5_firstFault_7 rfl (fun h => ?_) (fun h => ?_)
    · refine go_bipush (v := -6) C dX5_firstFault_50 rfl ?_
      cases h
      exact go_iret C dX5_firstFault_52 rfl rfl
    · refine go_iload_n C dX5_firstFault_10 1 rfl ?_
      refine go_aload_n C dX5_firstFault_11 0 rfl ?_
      refine go_get (v := .int (g5_count T)) C ffX5_15 dX5_firstFault_12 0 rfl rfl ?_
      refine go_icmp_ge (tgt := 50) C h dX5_firstFault_15 rfl (fun h => ?_) (fun h => ?_)
      · refine go_bipush (v := -6) C dX5_firstFault_50 rfl ?_
        cases h
        exact go_iret C dX5_firstFault_52 rfl rfl
      · refine go_aload_n C dX5_firstFault_18 0 rfl ?_
        refine go_iload_n C dX5_firstFault_19 1 rfl ?_
        obtain ⟨r1, k2, h⟩ := tbd_e h
        refine go_callV (q0 := 0) (wr := ([] : va_W)) (w' := u5 G T0 T1 T) C cfX5_19 viX5_endOfAct (m5_endOfAct_k l G T0 T1 T x1 r1 k2) dX5_firstFault_20 (by decide) ⟨Nat.zero_le _, Nat.zero_le _⟩ rfl rfl (Nat.le_of_ble_eq_true rfl) rfl [0, 1] [] [0, 1] rfl rfl (by decide) rfl ?_
        refine go_istore_n (lv' := [(3, .int r1), (0, .ref T0), (1, .int x1), (2, .int x2)]) C dX5_firstFault_23 (by decide) rfl ?_
        refine go_aload_n C dX5_firstFault_24 1 rfl ?_
        refine go_iload_n C dX5_firstFault_25 2 rfl ?_
        refine go_iload_n C dX5_firstFault_26 0 rfl ?_
        obtain ⟨r3, k4, h⟩ := tbd_e h
        refine go_callV (q0 := 0) (wr := ([] : va_W)) (w' := u5 G T0 T1 T) C cfX5_23 viX5_firstWrongSign (m5_firstWrongSign_k l G T0 T1 T x1 r1 r3 k4) dX5_firstFault_27 (by decide) ⟨Nat.zero_le _, Nat.zero_le _⟩ rfl rfl (Nat.le_of_ble_eq_true rfl) rfl [0, 1] [] [0, 1] rfl rfl (by decide) rfl ?_
        refine go_istore (lv' := [(4, .int r3), (3, .int r1), (0, .ref T0), (1, .int x1), (2, .int x2)]) C dX5_firstFault_30 (by decide) rfl ?_
        refine go_iload C dX5_firstFault_32 0 rfl ?_
        refine go_bipush (v := -6) C dX5_firstFault_34 rfl ?_
        refine go_icmp_eq (tgt := 42) C h dX5_firstFault_36 rfl (fun h => ?_) (fun h => ?_)
        · refine go_iload_n C dX5_firstFault_42 1 rfl ?_
          refine go_istore_n (lv' := [(1, .int r1), (4, .int r3), (3, .int r1), (0, .ref T0), (2, .int x2)]) C dX5_firstFault_43 (by decide) rfl ?_
          refine go_iincN (lf := fun v5 => [(2, .int v5), (1, .int r1), (4, .int r3), (3, .int r1), (0, .ref T0)]) C h dX5_firstFault_44 4 rfl rfl (by decide) (fun _ => rfl) (fun v5 h => ?_)
          refine go_goto (tgt := 4) C dX5_firstFault_47 rfl ?_
          exact go_lv [4, 1, 0] rfl (ih r1 v5 h)
        · refine go_iload C dX5_firstFault_39 0 rfl ?_
          cases h
          exact go_iret C dX5_firstFault_41 rfl rfl

set_option maxRecDepth 100000 in
set_option maxHeartbeats 4000000 in
theorem m5_firstFault_k (l : Launch) (G : gG) (T0 T1 : Nat) (T : SX5) (R0 : Int32) (h : m5_firstFault T = some R0) : KK l G yX5_firstFault cX5_firstFault 5 (some .int) 3 65 [.ref T0] (u5 G T0 T1 T) (some (.int R0)) (u5 G T0 T1 T) := by
  refine KK_intro (own := RX5) (by decide +kernel) rfl (Nat.le_of_ble_eq_true rfl) rfl ?_
  intro p e s m args below meth c A C
  unfold m5_firstFault at h
  refine go_iconst (v := 0) C dX5_firstFault_0 rfl ?_
  refine go_istore_n (lv' := [(1, .int (0 : Int32)), (0, .ref T0)]) C dX5_firstFault_1 (by decide) rfl ?_
  refine go_iconst (v := 0) C dX5_firstFault_2 rfl ?_
  refine go_istore_n (lv' := [(2, .int (0 : Int32)), (1, .int (0 : Int32)), (0, .ref T0)]) C dX5_firstFault_3 (by decide) rfl ?_
  exact go_lv [2, 1, 0] rfl (m5_firstFault_L4_k C T0 T1 T R0  FU (0 : Int32) (0 : Int32) h)

set_option maxRecDepth 100000 in
set_option maxHeartbeats 4000000 in
theorem m5_size_k (l : Launch) (G : gG) (T0 T1 : Nat) (T : SX5) (R0 : Int32) (h : m5_size T = some R0) : KK l G yX5_size cX5_size 1 (some .int) 0 0 [.ref T0] (u5 G T0 T1 T) (some (.int R0)) (u5 G T0 T1 T) := by
  refine KK_intro (own := RX5) (by decide +kernel) rfl (Nat.le_of_ble_eq_true rfl) rfl ?_
  intro p e s m args below meth c A C
  unfold m5_size at h
  refine go_aload_n C dX5_size_0 0 rfl ?_
  refine go_get (v := .int (g5_count T)) C ffX5_15 dX5_size_1 0 rfl rfl ?_
  cases h
  exact go_iret C dX5_size_4 rfl rfl

set_option maxRecDepth 100000 in
set_option maxHeartbeats 4000000 in
theorem m5_placeOfSign_k (l : Launch) (G : gG) (a0 : Int32) (R0 : Int32) (h : m5_placeOfSign a0 = some R0) : KK l G yX5_placeOfSign cX5_placeOfSign 1 (some .int) 1 20 [.int a0] (([] : va_W)) (some (.int R0)) (([] : va_W)) := by
  refine KK_intro (own := RX5) (by decide +kernel) rfl (Nat.le_of_ble_eq_true rfl) rfl ?_
  intro p e s m args below meth c A C
  unfold m5_placeOfSign at h
  refine go_iload_n C dX5_placeOfSign_0 0 rfl ?_
  refine go_bipush (v := 94) C dX5_placeOfSign_1 rfl ?_
  refine go_icmp_ne (tgt := 9) C h dX5_placeOfSign_3 rfl (fun h => ?_) (fun h => ?_)
  · refine go_iload_n C dX5_placeOfSign_9 0 rfl ?_
    obtain ⟨r1, k2, h⟩ := tbd_e h
    refine go_callS0 C cfX5_38 (wr11 _ (List.mem_of_getElem? (i := 15) rfl)) (m5_isRungSign_k l G a0 r1 k2) dX5_placeOfSign_10 (by decide) ⟨Nat.zero_le _, Nat.zero_le _⟩ rfl rfl (Nat.le_of_ble_eq_true rfl) ?_
    refine go_if_eq (tgt := 25) C h dX5_placeOfSign_13 rfl (fun h => ?_) (fun h => ?_)
    · refine go_iconst (v := 0) C dX5_placeOfSign_25 rfl ?_
      cases h
      exact go_iret C dX5_placeOfSign_26 rfl rfl
    · refine go_iload_n C dX5_placeOfSign_16 0 rfl ?_
      refine go_bipush (v := 97) C dX5_placeOfSign_17 rfl ?_
      refine go_isub C dX5_placeOfSign_19 ?_
      refine go_iconst (v := 1) C dX5_placeOfSign_20 rfl ?_
      refine go_iadd C dX5_placeOfSign_21 ?_
      refine go_goto (tgt := 26) C dX5_placeOfSign_22 rfl ?_
      cases h
      exact go_iret C dX5_placeOfSign_26 rfl rfl
  · refine go_bipush (v := 13) C dX5_placeOfSign_6 rfl ?_
    cases h
    exact go_iret C dX5_placeOfSign_8 rfl rfl

set_option maxRecDepth 100000 in
set_option maxHeartbeats 4000000 in
theorem m5_read_J87_k {p : Program} {l : Launch} {e : Env} {s : State} {m : MethodId} {args : Array Value} {below : List Frame} {meth : Method} {c : Code} {G : gG} {A : Nat → Prop} (C : Cx p e s m args meth c G RX5 cX5_read 7 none A) (T0 T1 Od0 : Nat) (T : SX5) (Od : SX0) (x4 : Int32) (x5 : Int32) (y0 : Int32) (R0 : SX0)  (h : m5_read_J87 T Od x4 x5 y0 = some R0) : Gq p l e (rq 2 40) s m args below meth c G A 7 0 0 (MQ below (QK G none (u5 G T0 T1 T ++ (u0 G Od0 R0)) A) args s 0 0 A) 87 [(3, .ref Od0), (4, .int x4), (5, .int x5)] [.int y0] (u5 G T0 T1 T ++ (u0 G Od0 Od)) := by
  unfold m5_read_J87 at h
  refine go_istore (lv' := [(6, .int y0), (3, .ref Od0), (4, .int x4), (5, .int x5)]) C dX5_read_87 (by decide) rfl ?_
  refine go_aload_n C dX5_read_89 1 rfl ?_
  refine go_iload C dX5_read_90 0 rfl ?_
  refine go_iload C dX5_read_92 2 rfl ?_
  refine go_bipush (v := 65) C dX5_read_94 rfl ?_
  refine go_isub C dX5_read_96 ?_
  refine go_iload C dX5_read_97 3 rfl ?_
  obtain ⟨r5, k6, h⟩ := tbd_e h
  refine go_callS0 C cfX5_50 (wr13 _ (List.mem_of_getElem? (i := 15) rfl)) (m5_placeOfSign_k l G x5 r5 k6) dX5_read_99 (by decide) ⟨Nat.zero_le _, Nat.zero_le _⟩ rfl rfl (Nat.le_of_ble_eq_true rfl) ?_
  obtain ⟨r7, k8, h⟩ := tbd_e h
  refine go_callV (q0 := 2) (wr := u5 G T0 T1 T) (w' := u5 G T0 T1 T ++ (u0 G Od0 r7)) C cfX5_46 viX0_become (m0_become_k l G Od0 Od y0 (x4 - (65 : Int32)) r5 r7 k8) dX5_read_102 (by decide) ⟨Nat.zero_le _, Nat.zero_le _⟩ rfl rfl (Nat.le_of_ble_eq_true rfl) rfl [2] [0, 1] [0, 1, 2] rfl rfl (by decide) rfl ?_
  cases h
  exact go_vret C dX5_read_105 rfl rfl

set_option maxRecDepth 100000 in
set_option maxHeartbeats 4000000 in
theorem m5_read_k (l : Launch) (G : gG) (T0 T1 Od0 : Nat) (T : SX5) (Od : SX0) (a1 : Int32) (a2 : Int32) (R0 : SX0) (h : m5_read T Od a1 a2 = some R0) : KK l G yX5_read cX5_read 7 none 2 40 [.ref T0, .int a1, .int a2, .ref Od0] (u5 G T0 T1 T ++ (u0 G Od0 Od)) none (u5 G T0 T1 T ++ (u0 G Od0 R0)) := by
  refine KK_intro (own := RX5) (by decide +kernel) rfl (Nat.le_of_ble_eq_true rfl) rfl ?_
  intro p e s m args below meth c A C
  unfold m5_read at h
  refine go_aload_n C dX5_read_0 0 rfl ?_
  refine go_iload_n C dX5_read_1 1 rfl ?_
  obtain ⟨r1, k2, h⟩ := tbd_e h
  refine go_callV (q0 := 0) (wr := u0 G Od0 Od) (w' := u5 G T0 T1 T ++ (u0 G Od0 Od)) C cfX5_27 viX5_signAt (m5_signAt_k l G T0 T1 T a1 r1 k2) dX5_read_2 (by decide) ⟨Nat.zero_le _, Nat.zero_le _⟩ rfl rfl (Nat.le_of_ble_eq_true rfl) rfl [0, 1] [2] [1, 2, 0] rfl rfl (by decide) rfl ?_
  refine go_istore (lv' := [(4, .int r1), (0, .ref T0), (1, .int a1), (2, .int a2), (3, .ref Od0)]) C dX5_read_5 (by decide) rfl ?_
  refine go_aload_n C dX5_read_7 1 rfl ?_
  refine go_iload_n C dX5_read_8 3 rfl ?_
  refine go_iconst (v := 1) C dX5_read_9 rfl ?_
  refine go_isub C dX5_read_10 ?_
  obtain ⟨r3, k4, h⟩ := tbd_e h
  refine go_callV (q0 := 0) (wr := u0 G Od0 Od) (w' := u5 G T0 T1 T ++ (u0 G Od0 Od)) C cfX5_27 viX5_signAt (m5_signAt_k l G T0 T1 T (a2 - (1 : Int32)) r3 k4) dX5_read_11 (by decide) ⟨Nat.zero_le _, Nat.zero_le _⟩ rfl rfl (Nat.le_of_ble_eq_true rfl) rfl [0, 1] [2] [1, 2, 0] rfl rfl (by decide) rfl ?_
  refine go_istore (lv' := [(5, .int r3), (4, .int r1), (0, .ref T0), (1, .int a1), (2, .int a2), (3, .ref Od0)]) C dX5_read_14 (by decide) rfl ?_
  refine go_iload C dX5_read_16 1 rfl ?_
  refine go_bipush (v := 46) C dX5_read_18 rfl ?_
  refine go_icmp_ne (tgt := 33) C h dX5_read_20 rfl (fun h => ?_) (fun h => ?_)
  · refine go_iload C dX5_read_33 1 rfl ?_
    refine go_bipush (v := 107) C dX5_read_35 rfl ?_
    refine go_icmp_ne (tgt := 54) C h dX5_read_37 rfl (fun h => ?_) (fun h => ?_)
    · refine go_iload C dX5_read_54 1 rfl ?_
      refine go_bipush (v := 43) C dX5_read_56 rfl ?_
      refine go_icmp_ne (tgt := 75) C h dX5_read_58 rfl (fun h => ?_) (fun h => ?_)
      · refine go_iload_n C dX5_read_75 4 rfl ?_
        refine go_iload_n C dX5_read_76 3 rfl ?_
        refine go_isub C dX5_read_77 ?_
        refine go_iconst (v := 3) C dX5_read_78 rfl ?_
        refine go_icmp_ne (tgt := 86) C h dX5_read_79 rfl (fun h => ?_) (fun h => ?_)
        · refine go_iconst (v := 0) C dX5_read_86 rfl ?_
          exact go_lv [5, 1, 0] rfl (m5_read_J87_k C T0 T1 Od0 T Od r1 r3 (0 : Int32) R0  h)
        · refine go_iconst (v := 1) C dX5_read_82 rfl ?_
          refine go_goto (tgt := 87) C dX5_read_83 rfl ?_
          exact go_lv [5, 1, 0] rfl (m5_read_J87_k C T0 T1 Od0 T Od r1 r3 (1 : Int32) R0  h)
      · refine go_aload_n C dX5_read_61 5 rfl ?_
        refine go_iconst (v := 3) C dX5_read_62 rfl ?_
        refine go_iconst (v := 0) C dX5_read_63 rfl ?_
        refine go_iload C dX5_read_64 0 rfl ?_
        obtain ⟨r9, k10, h⟩ := tbd_e h
        refine go_callS0 C cfX5_50 (wr13 _ (List.mem_of_getElem? (i := 15) rfl)) (m5_placeOfSign_k l G r3 r9 k10) dX5_read_66 (by decide) ⟨Nat.zero_le _, Nat.zero_le _⟩ rfl rfl (Nat.le_of_ble_eq_true rfl) ?_
        obtain ⟨r11, k12, h⟩ := tbd_e h
        refine go_callV (q0 := 2) (wr := u5 G T0 T1 T) (w' := u5 G T0 T1 T ++ (u0 G Od0 r11)) C cfX5_46 viX0_become (m0_become_k l G Od0 Od (3 : Int32) (0 : Int32) r9 r11 k12) dX5_read_69 (by decide) ⟨Nat.zero_le _, Nat.zero_le _⟩ rfl rfl (Nat.le_of_ble_eq_true rfl) rfl [2] [0, 1] [0, 1, 2] rfl rfl (by decide) rfl ?_
        refine go_goto (tgt := 105) C dX5_read_72 rfl ?_
        cases h
        exact go_vret C dX5_read_105 rfl rfl
    · refine go_aload_n C dX5_read_40 5 rfl ?_
      refine go_iconst (v := 2) C dX5_read_41 rfl ?_
      refine go_iconst (v := 0) C dX5_read_42 rfl ?_
      refine go_iload C dX5_read_43 0 rfl ?_
      obtain ⟨r13, k14, h⟩ := tbd_e h
      refine go_callS0 C cfX5_50 (wr13 _ (List.mem_of_getElem? (i := 15) rfl)) (m5_placeOfSign_k l G r3 r13 k14) dX5_read_45 (by decide) ⟨Nat.zero_le _, Nat.zero_le _⟩ rfl rfl (Nat.le_of_ble_eq_true rfl) ?_
      obtain ⟨r15, k16, h⟩ := tbd_e h
      refine go_callV (q0 := 2) (wr := u5 G T0 T1 T) (w' := u5 G T0 T1 T ++ (u0 G Od0 r15)) C cfX5_46 viX0_become (m0_become_k l G Od0 Od (2 : Int32) (0 : Int32) r13 r15 k16) dX5_read_48 (by decide) ⟨Nat.zero_le _, Nat.zero_le _⟩ rfl rfl (Nat.le_of_ble_eq_true rfl) rfl [2] [0, 1] [0, 1, 2] rfl rfl (by decide) rfl ?_
      refine go_goto (tgt := 105) C dX5_read_51 rfl ?_
      cases h
      exact go_vret C dX5_read_105 rfl rfl
  · refine go_aload_n C dX5_read_23 5 rfl ?_
    refine go_iconst (v := 4) C dX5_read_24 rfl ?_
    refine go_iconst (v := 0) C dX5_read_25 rfl ?_
    refine go_iconst (v := 0) C dX5_read_26 rfl ?_
    obtain ⟨r17, k18, h⟩ := tbd_e h
    refine go_callV (q0 := 2) (wr := u5 G T0 T1 T) (w' := u5 G T0 T1 T ++ (u0 G Od0 r17)) C cfX5_46 viX0_become (m0_become_k l G Od0 Od (4 : Int32) (0 : Int32) (0 : Int32) r17 k18) dX5_read_27 (by decide) ⟨Nat.zero_le _, Nat.zero_le _⟩ rfl rfl (Nat.le_of_ble_eq_true rfl) rfl [2] [0, 1] [0, 1, 2] rfl rfl (by decide) rfl ?_
    refine go_goto (tgt := 105) C dX5_read_30 rfl ?_
    cases h
    exact go_vret C dX5_read_105 rfl rfl

set_option maxRecDepth 100000 in
set_option maxHeartbeats 4000000 in
theorem m4_count_J18_k {p : Program} {l : Launch} {e : Env} {s : State} {m : MethodId} {args : Array Value} {below : List Frame} {meth : Method} {c : Code} {G : gG} {A : Nat → Prop} (C : Cx p e s m args meth c G RX4 cX4_count 2 none A) (T0 T_after0 T_act0 Ob0 : Nat) (T : SX4) (Ob : SX0) (R0 : SX4)  (h : m4_count_J18 T Ob = some R0) : Gq p l e (rq 1 20) s m args below meth c G A 2 0 0 (MQ below (QK G none (u4 G T0 T_after0 T_act0 R0 ++ (u0 G Ob0 Ob)) A) args s 0 0 A) 18 [(0, .ref T0), (1, .ref Ob0)] [] (u4 G T0 T_after0 T_act0 T ++ (u0 G Ob0 Ob)) := by
  unfold m4_count_J18 at h
  refine go_aload_n C dX4_count_18 1 rfl ?_
  obtain ⟨r3, k4, h⟩ := tbd_e h
  refine go_callV (q0 := 1) (wr := u4 G T0 T_after0 T_act0 T) (w' := u4 G T0 T_after0 T_act0 T ++ (u0 G Ob0 Ob)) C cfX4_83 viX0_kindOf (m0_kindOf_k l G Ob0 Ob r3 k4) dX4_count_19 (by decide) ⟨Nat.zero_le _, Nat.zero_le _⟩ rfl rfl (Nat.le_of_ble_eq_true rfl) rfl [1] [0] [0, 1] rfl rfl (by decide) rfl ?_
  refine go_if_eq (tgt := 26) C h dX4_count_22 rfl (fun h => ?_) (fun h => ?_)
  · refine go_aload_n C dX4_count_26 0 rfl ?_
    refine go_dup C dX4_count_27 rfl ?_
    refine go_get (v := .int (g4_steps T)) C ffX4_29 dX4_count_28 0 rfl rfl ?_
    refine go_iconst (v := 1) C dX4_count_31 rfl ?_
    refine go_iadd C dX4_count_32 ?_
    refine go_puti (w' := u4 G T0 T_after0 T_act0 (s4_steps T ((g4_steps T) + (1 : Int32))) ++ (u0 G Ob0 Ob)) C fpX4_29 dX4_count_33 0 rfl (Nat.le_of_ble_eq_true rfl) (setL (Nat.le_of_ble_eq_true rfl) z4_steps) ?_
    refine go_aload_n C dX4_count_36 1 rfl ?_
    obtain ⟨r5, k6, h⟩ := tbd_e h
    refine go_callV (q0 := 1) (wr := u4 G T0 T_after0 T_act0 (s4_steps T ((g4_steps T) + (1 : Int32)))) (w' := u4 G T0 T_after0 T_act0 (s4_steps T ((g4_steps T) + (1 : Int32))) ++ (u0 G Ob0 Ob)) C cfX4_86 viX0_target (m0_target_k l G Ob0 Ob r5 k6) dX4_count_37 (by decide) ⟨Nat.zero_le _, Nat.zero_le _⟩ rfl rfl (Nat.le_of_ble_eq_true rfl) rfl [1] [0] [0, 1] rfl rfl (by decide) rfl ?_
    refine go_bipush (v := 13) C dX4_count_40 rfl ?_
    refine go_icmp_ne (tgt := 70) C h dX4_count_42 rfl (fun h => ?_) (fun h => ?_)
    · cases h
      exact go_vret C dX4_count_70 rfl rfl
    · refine go_aload_n C dX4_count_45 0 rfl ?_
      refine go_get (v := .int (g4_actUp T)) C ffX4_35 dX4_count_46 0 rfl rfl ?_
      refine go_bipush (v := -6) C dX4_count_49 rfl ?_
      refine go_icmp_ne (tgt := 70) C h dX4_count_51 rfl (fun h => ?_) (fun h => ?_)
      · cases h
        exact go_vret C dX4_count_70 rfl rfl
      · refine go_aload_n C dX4_count_54 0 rfl ?_
        refine go_aload_n C dX4_count_55 0 rfl ?_
        refine go_get (v := .int (g4_acts T)) C ffX4_25 dX4_count_56 0 rfl rfl ?_
        refine go_puti (w' := u4 G T0 T_after0 T_act0 (s4_actUp (s4_steps T ((g4_steps T) + (1 : Int32))) (g4_acts T)) ++ (u0 G Ob0 Ob)) C fpX4_35 dX4_count_59 0 rfl (Nat.le_of_ble_eq_true rfl) (setL (Nat.le_of_ble_eq_true rfl) z4_actUp) ?_
        refine go_aload_n C dX4_count_62 0 rfl ?_
        refine go_aload_n C dX4_count_63 1 rfl ?_
        obtain ⟨r7, k8, h⟩ := tbd_e h
        refine go_callV (q0 := 1) (wr := u4 G T0 T_after0 T_act0 (s4_actUp (s4_steps T ((g4_steps T) + (1 : Int32))) (g4_acts T))) (w' := u4 G T0 T_after0 T_act0 (s4_actUp (s4_steps T ((g4_steps T) + (1 : Int32))) (g4_acts T)) ++ (u0 G Ob0 Ob)) C cfX4_89 viX0_doer (m0_doer_k l G Ob0 Ob r7 k8) dX4_count_64 (by decide) ⟨Nat.zero_le _, Nat.zero_le _⟩ rfl rfl (Nat.le_of_ble_eq_true rfl) rfl [1] [0] [0, 1] rfl rfl (by decide) rfl ?_
        refine go_puti (w' := u4 G T0 T_after0 T_act0 (s4_manUp (s4_actUp (s4_steps T ((g4_steps T) + (1 : Int32))) (g4_acts T)) r7) ++ (u0 G Ob0 Ob)) C fpX4_38 dX4_count_67 0 rfl (Nat.le_of_ble_eq_true rfl) (setL (Nat.le_of_ble_eq_true rfl) z4_manUp) ?_
        cases h
        exact go_vret C dX4_count_70 rfl rfl
  · cases h
    exact go_vret C dX4_count_25 rfl rfl

set_option maxRecDepth 100000 in
set_option maxHeartbeats 4000000 in
theorem m4_count_k (l : Launch) (G : gG) (T0 T_after0 T_act0 Ob0 : Nat) (T : SX4) (Ob : SX0) (R0 : SX4) (h : m4_count T Ob = some R0) : KK l G yX4_count cX4_count 2 none 1 20 [.ref T0, .ref Ob0] (u4 G T0 T_after0 T_act0 T ++ (u0 G Ob0 Ob)) none (u4 G T0 T_after0 T_act0 R0 ++ (u0 G Ob0 Ob)) := by
  refine KK_intro (own := RX4) (by decide +kernel) rfl (Nat.le_of_ble_eq_true rfl) rfl ?_
  intro p e s m args below meth c A C
  unfold m4_count at h
  refine go_aload_n C dX4_count_0 1 rfl ?_
  obtain ⟨r1, k2, h⟩ := tbd_e h
  refine go_callV (q0 := 1) (wr := u4 G T0 T_after0 T_act0 T) (w' := u4 G T0 T_after0 T_act0 T ++ (u0 G Ob0 Ob)) C cfX4_83 viX0_kindOf (m0_kindOf_k l G Ob0 Ob r1 k2) dX4_count_1 (by decide) ⟨Nat.zero_le _, Nat.zero_le _⟩ rfl rfl (Nat.le_of_ble_eq_true rfl) rfl [1] [0] [0, 1] rfl rfl (by decide) rfl ?_
  refine go_iconst (v := 1) C dX4_count_4 rfl ?_
  refine go_icmp_ne (tgt := 18) C h dX4_count_5 rfl (fun h => ?_) (fun h => ?_)
  · exact go_lv [0, 1] rfl (m4_count_J18_k C T0 T_after0 T_act0 Ob0 T Ob R0  h)
  · refine go_aload_n C dX4_count_8 0 rfl ?_
    refine go_dup C dX4_count_9 rfl ?_
    refine go_get (v := .int (g4_paid T)) C ffX4_32 dX4_count_10 0 rfl rfl ?_
    refine go_iconst (v := 1) C dX4_count_13 rfl ?_
    refine go_iadd C dX4_count_14 ?_
    refine go_puti (w' := u4 G T0 T_after0 T_act0 (s4_paid T ((g4_paid T) + (1 : Int32))) ++ (u0 G Ob0 Ob)) C fpX4_32 dX4_count_15 0 rfl (Nat.le_of_ble_eq_true rfl) (setL (Nat.le_of_ble_eq_true rfl) z4_paid) ?_
    exact go_lv [0, 1] rfl (m4_count_J18_k C T0 T_after0 T_act0 Ob0 (s4_paid T ((g4_paid T) + (1 : Int32))) Ob R0  h)

set_option maxRecDepth 100000 in
set_option maxHeartbeats 4000000 in
theorem m4_attempt_k (l : Launch) (G : gG) (T0 T_after0 T_act0 Ob0 T_after1 T_after2 T_after3 T_after4 T_after5 : Nat) (T : SX4) (Ob : SX0) (T_after : SX1) (R0 : Int32 × SX4 × SX1) (h : m4_attempt T Ob T_after = some R0) : KK l G yX4_attempt cX4_attempt 2 (some .boolean) 4 85 [.ref T0, .ref Ob0] (u4 G T0 T_after0 T_act0 T ++ (u0 G Ob0 Ob ++ (u1 G T_after0 T_after1 T_after2 T_after3 T_after4 T_after5 T_after))) (some (.int R0.1)) (u4 G T0 T_after0 T_act0 R0.2.1 ++ (u0 G Ob0 Ob ++ (u1 G T_after0 T_after1 T_after2 T_after3 T_after4 T_after5 R0.2.2))) := by
  refine KK_intro (own := RX4) (by decide +kernel) rfl (Nat.le_of_ble_eq_true rfl) rfl ?_
  intro p e s m args below meth c A C
  unfold m4_attempt at h
  refine go_aload_n C dX4_attempt_0 0 rfl ?_
  refine go_aload_n C dX4_attempt_1 0 rfl ?_
  refine go_get (v := .ref T_after0) C ffX4_12 dX4_attempt_2 0 rfl rfl ?_
  refine go_aload_n C dX4_attempt_5 1 rfl ?_
  obtain ⟨r1, k2, h⟩ := tbd_e h
  refine go_callV (q0 := 2) (wr := u4 G T0 T_after0 T_act0 T) (w' := u4 G T0 T_after0 T_act0 T ++ (u0 G Ob0 Ob ++ (u1 G T_after0 T_after1 T_after2 T_after3 T_after4 T_after5 T_after))) C cfX4_72 viX1_reasonAgainst (m1_reasonAgainst_k l G T_after0 T_after1 T_after2 T_after3 T_after4 T_after5 Ob0 T_after Ob r1 k2) dX4_attempt_6 (by decide) ⟨Nat.zero_le _, Nat.zero_le _⟩ rfl rfl (Nat.le_of_ble_eq_true rfl) rfl [2, 3, 4, 5, 6, 7, 1] [0] [0, 7, 1, 2, 3, 4, 5, 6] rfl rfl (by decide) rfl ?_
  refine go_puti (w' := u4 G T0 T_after0 T_act0 (s4_why T r1) ++ (u0 G Ob0 Ob ++ (u1 G T_after0 T_after1 T_after2 T_after3 T_after4 T_after5 T_after))) C fpX4_41 dX4_attempt_9 0 rfl (Nat.le_of_ble_eq_true rfl) (setL (Nat.le_of_ble_eq_true rfl) z4_why) ?_
  refine go_aload_n C dX4_attempt_12 0 rfl ?_
  refine go_get (v := .int r1) C ffX4_41 dX4_attempt_13 0 rfl rfl ?_
  refine go_if_eq (tgt := 21) C h dX4_attempt_16 rfl (fun h => ?_) (fun h => ?_)
  · refine go_aload_n C dX4_attempt_21 0 rfl ?_
    refine go_get (v := .ref T_after0) C ffX4_12 dX4_attempt_22 0 rfl rfl ?_
    refine go_aload_n C dX4_attempt_25 1 rfl ?_
    obtain ⟨r3, k4, h⟩ := tbd_e h
    refine go_callV (q0 := 2) (wr := u4 G T0 T_after0 T_act0 (s4_why T r1)) (w' := u4 G T0 T_after0 T_act0 (s4_why T r1) ++ (u0 G Ob0 Ob ++ (u1 G T_after0 T_after1 T_after2 T_after3 T_after4 T_after5 r3))) C cfX4_76 viX1_perform (m1_perform_k l G T_after0 T_after1 T_after2 T_after3 T_after4 T_after5 Ob0 T_after Ob r3 k4) dX4_attempt_26 (by decide) ⟨Nat.zero_le _, Nat.zero_le _⟩ rfl rfl (Nat.le_of_ble_eq_true rfl) rfl [2, 3, 4, 5, 6, 7, 1] [0] [0, 7, 1, 2, 3, 4, 5, 6] rfl rfl (by decide) rfl ?_
    refine go_aload_n C dX4_attempt_29 0 rfl ?_
    refine go_aload_n C dX4_attempt_30 1 rfl ?_
    obtain ⟨r5, k6, h⟩ := tbd_e h
    refine go_callV (q0 := 0) (wr := u1 G T_after0 T_after1 T_after2 T_after3 T_after4 T_after5 r3) (w' := u4 G T0 T_after0 T_act0 r5 ++ (u0 G Ob0 Ob ++ (u1 G T_after0 T_after1 T_after2 T_after3 T_after4 T_after5 r3))) C cfX4_80 viX4_count (m4_count_k l G T0 T_after0 T_act0 Ob0 (s4_why T r1) Ob r5 k6) dX4_attempt_31 (by decide) ⟨Nat.zero_le _, Nat.zero_le _⟩ rfl rfl (Nat.le_of_ble_eq_true rfl) rfl [0, 1] [2, 3, 4, 5, 6, 7] [6, 7, 0, 1, 2, 3, 4, 5] rfl rfl (by decide) rfl ?_
    refine go_aload_n C dX4_attempt_34 0 rfl ?_
    refine go_dup C dX4_attempt_35 rfl ?_
    refine go_get (v := .int (g4_acts r5)) C ffX4_25 dX4_attempt_36 0 rfl rfl ?_
    refine go_iconst (v := 1) C dX4_attempt_39 rfl ?_
    refine go_iadd C dX4_attempt_40 ?_
    refine go_puti (w' := u4 G T0 T_after0 T_act0 (s4_acts r5 ((g4_acts r5) + (1 : Int32))) ++ (u0 G Ob0 Ob ++ (u1 G T_after0 T_after1 T_after2 T_after3 T_after4 T_after5 r3))) C fpX4_25 dX4_attempt_41 0 rfl (Nat.le_of_ble_eq_true rfl) (setL (Nat.le_of_ble_eq_true rfl) z4_acts) ?_
    refine go_iconst (v := 1) C dX4_attempt_44 rfl ?_
    cases h
    exact go_zret C dX4_attempt_45 (by decide) rfl rfl
  · refine go_iconst (v := 0) C dX4_attempt_19 rfl ?_
    cases h
    exact go_zret C dX4_attempt_20 (by decide) rfl rfl

set_option maxRecDepth 100000 in
set_option maxHeartbeats 4000000 in
theorem m4_burn_L21_k {p : Program} {l : Launch} {e : Env} {s : State} {m : MethodId} {args : Array Value} {below : List Frame} {meth : Method} {c : Code} {G : gG} {A : Nat → Prop} (C : Cx p e s m args meth c G RX4 cX4_burn 6 (some .boolean) A) (T0 T_after0 T_act0 Ob0 Ob1 Oc0 Oc1 Oc2 Oc3 Oc4 Oc5 T_after1 T_after2 T_after3 T_after4 T_after5 : Nat) (Ob : SX5) (Oc : SX1) (R0 : Int32 × SX4 × SX0 × SX1)  : ∀ (n : Nat) (x3 : Int32) (x4 : Int32) (T : SX4) (T_act : SX0) (T_after : SX1), tit (m4_burn_L21 Ob Oc) n (x3, x4, T, T_act, T_after) = some R0 → Gq p l e (rq 5 106) s m args below meth c G A 6 0 0 (MQ below (QK G (some (.int R0.1)) (u4 G T0 T_after0 T_act0 R0.2.1 ++ (u5 G Ob0 Ob1 Ob ++ (u1 G Oc0 Oc1 Oc2 Oc3 Oc4 Oc5 Oc ++ (u0 G T_act0 R0.2.2.1 ++ (u1 G T_after0 T_after1 T_after2 T_after3 T_after4 T_after5 R0.2.2.2))))) A) args s 0 0 A) 21 [(0, .ref T0), (1, .ref Ob0), (3, .int x3), (4, .int x4)] [] (u4 G T0 T_after0 T_act0 T ++ (u5 G Ob0 Ob1 Ob ++ (u1 G Oc0 Oc1 Oc2 Oc3 Oc4 Oc5 Oc ++ (u0 G T_act0 T_act ++ (u1 G T_after0 T_after1 T_after2 T_after3 T_after4 T_after5 T_after))))) := by
  intro n
  induction n with
  | zero => exact fun _ _ _ _ _ h => (tit_z h).elim
  | succ n ih =>
    intro x3 x4 T T_act T_after h
    replace h : m4_burn_B21 Ob Oc (tit (m4_burn_L21 Ob Oc) n) x3 x4 T T_act T_after = some R0 := h
    unfold m4_burn_B21 at h
    refine go_iload C dX4_burn_21 3 rfl ?_
    refine go_bipush (v := 60) C dX4_burn_23 rfl ?_
    refine go_icmp_ge (tgt := 76) C h dX4_burn_25 rfl (fun h => ?_) (fun h => ?_)
    · refine go_iconst (v := 1) C dX4_burn_76 rfl ?_
      cases h
      exact go_zret C dX4_burn_77 (by decide) rfl rfl
    · refine go_iload_n C dX4_burn_28 2 rfl ?_
      refine go_aload_n C dX4_burn_29 1 rfl ?_
      obtain ⟨r5, k6, h⟩ := tbd_e h
      refine go_callV (q0 := 1) (wr := u4 G T0 T_after0 T_act0 T ++ (u1 G Oc0 Oc1 Oc2 Oc3 Oc4 Oc5 Oc ++ (u0 G T_act0 T_act ++ (u1 G T_after0 T_after1 T_after2 T_after3 T_after4 T_after5 T_after)))) (w' := u4 G T0 T_after0 T_act0 T ++ (u5 G Ob0 Ob1 Ob ++ (u1 G Oc0 Oc1 Oc2 Oc3 Oc4 Oc5 Oc ++ (u0 G T_act0 T_act ++ (u1 G T_after0 T_after1 T_after2 T_after3 T_after4 T_after5 T_after))))) C cfX4_57 viX5_size (m5_size_k l G Ob0 Ob1 Ob r5 k6) dX4_burn_30 (by decide) ⟨Nat.zero_le _, Nat.zero_le _⟩ rfl rfl (Nat.le_of_ble_eq_true rfl) rfl [1, 2] [0, 3, 4, 5, 6, 7, 8, 9, 10, 11, 12, 13, 14, 15] [0, 14, 15, 1, 2, 3, 4, 5, 6, 7, 8, 9, 10, 11, 12, 13] rfl rfl (by decide) rfl ?_
      refine go_icmp_ge (tgt := 76) C h dX4_burn_33 rfl (fun h => ?_) (fun h => ?_)
      · refine go_iconst (v := 1) C dX4_burn_76 rfl ?_
        cases h
        exact go_zret C dX4_burn_77 (by decide) rfl rfl
      · refine go_aload_n C dX4_burn_36 1 rfl ?_
        refine go_iload_n C dX4_burn_37 2 rfl ?_
        obtain ⟨r7, k8, h⟩ := tbd_e h
        refine go_callV (q0 := 1) (wr := u4 G T0 T_after0 T_act0 T ++ (u1 G Oc0 Oc1 Oc2 Oc3 Oc4 Oc5 Oc ++ (u0 G T_act0 T_act ++ (u1 G T_after0 T_after1 T_after2 T_after3 T_after4 T_after5 T_after)))) (w' := u4 G T0 T_after0 T_act0 T ++ (u5 G Ob0 Ob1 Ob ++ (u1 G Oc0 Oc1 Oc2 Oc3 Oc4 Oc5 Oc ++ (u0 G T_act0 T_act ++ (u1 G T_after0 T_after1 T_after2 T_after3 T_after4 T_after5 T_after))))) C cfX4_60 viX5_endOfAct (m5_endOfAct_k l G Ob0 Ob1 Ob x3 r7 k8) dX4_burn_38 (by decide) ⟨Nat.zero_le _, Nat.zero_le _⟩ rfl rfl (Nat.le_of_ble_eq_true rfl) rfl [1, 2] [0, 3, 4, 5, 6, 7, 8, 9, 10, 11, 12, 13, 14, 15] [0, 14, 15, 1, 2, 3, 4, 5, 6, 7, 8, 9, 10, 11, 12, 13] rfl rfl (by decide) rfl ?_
        refine go_istore (lv' := [(5, .int r7), (0, .ref T0), (1, .ref Ob0), (3, .int x3), (4, .int x4)]) C dX4_burn_41 (by decide) rfl ?_
        refine go_aload_n C dX4_burn_43 2 rfl ?_
        refine go_iload_n C dX4_burn_44 3 rfl ?_
        refine go_iload C dX4_burn_45 0 rfl ?_
        refine go_aload_n C dX4_burn_47 1 rfl ?_
        refine go_get (v := .ref T_act0) C ffX4_21 dX4_burn_48 0 rfl rfl ?_
        obtain ⟨r9, k10, h⟩ := tbd_e h
        refine go_callV (q0 := 1) (wr := u4 G T0 T_after0 T_act0 T ++ (u1 G Oc0 Oc1 Oc2 Oc3 Oc4 Oc5 Oc ++ (u1 G T_after0 T_after1 T_after2 T_after3 T_after4 T_after5 T_after))) (w' := u4 G T0 T_after0 T_act0 T ++ (u5 G Ob0 Ob1 Ob ++ (u1 G Oc0 Oc1 Oc2 Oc3 Oc4 Oc5 Oc ++ (u0 G T_act0 r9 ++ (u1 G T_after0 T_after1 T_after2 T_after3 T_after4 T_after5 T_after))))) C cfX4_64 viX5_read (m5_read_k l G Ob0 Ob1 T_act0 Ob T_act x3 r7 r9 k10) dX4_burn_51 (by decide) ⟨Nat.zero_le _, Nat.zero_le _⟩ rfl rfl (Nat.le_of_ble_eq_true rfl) rfl [1, 2, 9] [0, 3, 4, 5, 6, 7, 8, 10, 11, 12, 13, 14, 15] [0, 13, 14, 1, 2, 3, 4, 5, 6, 15, 7, 8, 9, 10, 11, 12] rfl rfl (by decide) rfl ?_
        refine go_aload_n C dX4_burn_54 1 rfl ?_
        refine go_aload_n C dX4_burn_55 1 rfl ?_
        refine go_get (v := .ref T_act0) C ffX4_21 dX4_burn_56 0 rfl rfl ?_
        obtain ⟨r11, k12, h⟩ := tbd_e h
        refine go_callV (q0 := 0) (wr := u5 G Ob0 Ob1 Ob ++ (u1 G Oc0 Oc1 Oc2 Oc3 Oc4 Oc5 Oc)) (w' := u4 G T0 T_after0 T_act0 r11.2.1 ++ (u5 G Ob0 Ob1 Ob ++ (u1 G Oc0 Oc1 Oc2 Oc3 Oc4 Oc5 Oc ++ (u0 G T_act0 r9 ++ (u1 G T_after0 T_after1 T_after2 T_after3 T_after4 T_after5 r11.2.2))))) C cfX4_68 viX4_attempt (m4_attempt_k l G T0 T_after0 T_act0 T_act0 T_after1 T_after2 T_after3 T_after4 T_after5 T r9 T_after r11 k12) dX4_burn_59 (by decide) ⟨Nat.zero_le _, Nat.zero_le _⟩ rfl rfl (Nat.le_of_ble_eq_true rfl) rfl [0, 9, 10, 11, 12, 13, 14, 15] [1, 2, 3, 4, 5, 6, 7, 8] [8, 0, 1, 2, 3, 4, 5, 6, 7, 9, 10, 11, 12, 13, 14, 15] rfl rfl (by decide) rfl ?_
        refine go_if_ne (tgt := 67) C h dX4_burn_62 rfl (fun h => ?_) (fun h => ?_)
        · refine go_iload C dX4_burn_67 0 rfl ?_
          refine go_istore_n (lv' := [(3, .int r7), (5, .int r7), (0, .ref T0), (1, .ref Ob0), (4, .int x4)]) C dX4_burn_69 (by decide) rfl ?_
          refine go_iincN (lf := fun v13 => [(4, .int v13), (3, .int r7), (5, .int r7), (0, .ref T0), (1, .ref Ob0)]) C h dX4_burn_70 4 rfl rfl (by decide) (fun _ => rfl) (fun v13 h => ?_)
          refine go_goto (tgt := 21) C dX4_burn_73 rfl ?_
          exact go_lv [3, 4, 1, 0] rfl (ih r7 v13 r11.2.1 r9 r11.2.2 h)
        · refine go_iconst (v := 0) C dX4_burn_65 rfl ?_
          cases h
          exact go_zret C dX4_burn_66 (by decide) rfl rfl

set_option maxRecDepth 100000 in
set_option maxHeartbeats 4000000 in
theorem m4_burn_k (l : Launch) (G : gG) (T0 T_after0 T_act0 Ob0 Ob1 Oc0 Oc1 Oc2 Oc3 Oc4 Oc5 T_after1 T_after2 T_after3 T_after4 T_after5 : Nat) (T : SX4) (Ob : SX5) (Oc : SX1) (T_act : SX0) (T_after : SX1) (R0 : Int32 × SX4 × SX0 × SX1) (h : m4_burn T Ob Oc T_act T_after = some R0) : KK l G yX4_burn cX4_burn 6 (some .boolean) 5 106 [.ref T0, .ref Ob0, .ref Oc0] (u4 G T0 T_after0 T_act0 T ++ (u5 G Ob0 Ob1 Ob ++ (u1 G Oc0 Oc1 Oc2 Oc3 Oc4 Oc5 Oc ++ (u0 G T_act0 T_act ++ (u1 G T_after0 T_after1 T_after2 T_after3 T_after4 T_after5 T_after))))) (some (.int R0.1)) (u4 G T0 T_after0 T_act0 R0.2.1 ++ (u5 G Ob0 Ob1 Ob ++ (u1 G Oc0 Oc1 Oc2 Oc3 Oc4 Oc5 Oc ++ (u0 G T_act0 R0.2.2.1 ++ (u1 G T_after0 T_after1 T_after2 T_after3 T_after4 T_after5 R0.2.2.2))))) := by
  refine KK_intro (own := RX4) (by decide +kernel) rfl (Nat.le_of_ble_eq_true rfl) rfl ?_
  intro p e s m args below meth c A C
  unfold m4_burn at h
  refine go_aload_n C dX4_burn_0 0 rfl ?_
  refine go_aload_n C dX4_burn_1 2 rfl ?_
  obtain ⟨r1, k2, h⟩ := tbd_e h
  refine go_callV (q0 := 0) (wr := u5 G Ob0 Ob1 Ob ++ (u0 G T_act0 T_act)) (w' := u4 G T0 T_after0 T_act0 r1.1 ++ (u5 G Ob0 Ob1 Ob ++ (u1 G Oc0 Oc1 Oc2 Oc3 Oc4 Oc5 Oc ++ (u0 G T_act0 T_act ++ (u1 G T_after0 T_after1 T_after2 T_after3 T_after4 T_after5 r1.2))))) C cfX4_48 viX4_begin (m4_begin_k l G T0 T_after0 T_act0 Oc0 Oc1 Oc2 Oc3 Oc4 Oc5 T_after1 T_after2 T_after3 T_after4 T_after5 T Oc T_after r1 k2) dX4_burn_2 (by decide) ⟨Nat.zero_le _, Nat.zero_le _⟩ rfl rfl (Nat.le_of_ble_eq_true rfl) rfl [0, 3, 4, 5, 6, 7, 8, 10, 11, 12, 13, 14, 15] [1, 2, 9] [3, 0, 1, 4, 5, 6, 7, 8, 9, 2, 10, 11, 12, 13, 14, 15] rfl rfl (by decide) rfl ?_
  refine go_aload_n C dX4_burn_5 1 rfl ?_
  obtain ⟨r3, k4, h⟩ := tbd_e h
  refine go_callV (q0 := 1) (wr := u4 G T0 T_after0 T_act0 r1.1 ++ (u1 G Oc0 Oc1 Oc2 Oc3 Oc4 Oc5 Oc ++ (u0 G T_act0 T_act ++ (u1 G T_after0 T_after1 T_after2 T_after3 T_after4 T_after5 r1.2)))) (w' := u4 G T0 T_after0 T_act0 r1.1 ++ (u5 G Ob0 Ob1 Ob ++ (u1 G Oc0 Oc1 Oc2 Oc3 Oc4 Oc5 Oc ++ (u0 G T_act0 T_act ++ (u1 G T_after0 T_after1 T_after2 T_after3 T_after4 T_after5 r1.2))))) C cfX4_51 viX5_firstFault (m5_firstFault_k l G Ob0 Ob1 Ob r3 k4) dX4_burn_6 (by decide) ⟨Nat.zero_le _, Nat.zero_le _⟩ rfl rfl (Nat.le_of_ble_eq_true rfl) rfl [1, 2] [0, 3, 4, 5, 6, 7, 8, 9, 10, 11, 12, 13, 14, 15] [0, 14, 15, 1, 2, 3, 4, 5, 6, 7, 8, 9, 10, 11, 12, 13] rfl rfl (by decide) rfl ?_
  refine go_bipush (v := -6) C dX4_burn_9 rfl ?_
  refine go_icmp_eq (tgt := 16) C h dX4_burn_11 rfl (fun h => ?_) (fun h => ?_)
  · refine go_iconst (v := 0) C dX4_burn_16 rfl ?_
    refine go_istore_n (lv' := [(3, .int (0 : Int32)), (0, .ref T0), (1, .ref Ob0), (2, .ref Oc0)]) C dX4_burn_17 (by decide) rfl ?_
    refine go_iconst (v := 0) C dX4_burn_18 rfl ?_
    refine go_istore (lv' := [(4, .int (0 : Int32)), (3, .int (0 : Int32)), (0, .ref T0), (1, .ref Ob0), (2, .ref Oc0)]) C dX4_burn_19 (by decide) rfl ?_
    exact go_lv [2, 3, 1, 0] rfl (m4_burn_L21_k C T0 T_after0 T_act0 Ob0 Ob1 Oc0 Oc1 Oc2 Oc3 Oc4 Oc5 T_after1 T_after2 T_after3 T_after4 T_after5 Ob Oc R0  FU (0 : Int32) (0 : Int32) r1.1 T_act r1.2 h)
  · refine go_iconst (v := 0) C dX4_burn_14 rfl ?_
    cases h
    exact go_zret C dX4_burn_15 (by decide) rfl rfl

set_option maxRecDepth 100000 in
set_option maxHeartbeats 4000000 in
theorem m4_reason_k (l : Launch) (G : gG) (T0 T_after0 T_act0 : Nat) (T : SX4) (R0 : Int32) (h : m4_reason T = some R0) : KK l G yX4_reason cX4_reason 1 (some .int) 0 0 [.ref T0] (u4 G T0 T_after0 T_act0 T) (some (.int R0)) (u4 G T0 T_after0 T_act0 T) := by
  refine KK_intro (own := RX4) (by decide +kernel) rfl (Nat.le_of_ble_eq_true rfl) rfl ?_
  intro p e s m args below meth c A C
  unfold m4_reason at h
  refine go_aload_n C dX4_reason_0 0 rfl ?_
  refine go_get (v := .int (g4_why T)) C ffX4_41 dX4_reason_1 0 rfl rfl ?_
  cases h
  exact go_iret C dX4_reason_4 rfl rfl

set_option maxRecDepth 100000 in
set_option maxHeartbeats 4000000 in
theorem m4_actsDone_k (l : Launch) (G : gG) (T0 T_after0 T_act0 : Nat) (T : SX4) (R0 : Int32) (h : m4_actsDone T = some R0) : KK l G yX4_actsDone cX4_actsDone 1 (some .int) 0 0 [.ref T0] (u4 G T0 T_after0 T_act0 T) (some (.int R0)) (u4 G T0 T_after0 T_act0 T) := by
  refine KK_intro (own := RX4) (by decide +kernel) rfl (Nat.le_of_ble_eq_true rfl) rfl ?_
  intro p e s m args below meth c A C
  unfold m4_actsDone at h
  refine go_aload_n C dX4_actsDone_0 0 rfl ?_
  refine go_get (v := .int (g4_acts T)) C ffX4_25 dX4_actsDone_1 0 rfl rfl ?_
  cases h
  exact go_iret C dX4_actsDone_4 rfl rfl

set_option maxRecDepth 100000 in
set_option maxHeartbeats 4000000 in
theorem m4_stepsMade_k (l : Launch) (G : gG) (T0 T_after0 T_act0 : Nat) (T : SX4) (R0 : Int32) (h : m4_stepsMade T = some R0) : KK l G yX4_stepsMade cX4_stepsMade 1 (some .int) 0 0 [.ref T0] (u4 G T0 T_after0 T_act0 T) (some (.int R0)) (u4 G T0 T_after0 T_act0 T) := by
  refine KK_intro (own := RX4) (by decide +kernel) rfl (Nat.le_of_ble_eq_true rfl) rfl ?_
  intro p e s m args below meth c A C
  unfold m4_stepsMade at h
  refine go_aload_n C dX4_stepsMade_0 0 rfl ?_
  refine go_get (v := .int (g4_steps T)) C ffX4_29 dX4_stepsMade_1 0 rfl rfl ?_
  cases h
  exact go_iret C dX4_stepsMade_4 rfl rfl

set_option maxRecDepth 100000 in
set_option maxHeartbeats 4000000 in
theorem m4_coinsPaid_k (l : Launch) (G : gG) (T0 T_after0 T_act0 : Nat) (T : SX4) (R0 : Int32) (h : m4_coinsPaid T = some R0) : KK l G yX4_coinsPaid cX4_coinsPaid 1 (some .int) 0 0 [.ref T0] (u4 G T0 T_after0 T_act0 T) (some (.int R0)) (u4 G T0 T_after0 T_act0 T) := by
  refine KK_intro (own := RX4) (by decide +kernel) rfl (Nat.le_of_ble_eq_true rfl) rfl ?_
  intro p e s m args below meth c A C
  unfold m4_coinsPaid at h
  refine go_aload_n C dX4_coinsPaid_0 0 rfl ?_
  refine go_get (v := .int (g4_paid T)) C ffX4_32 dX4_coinsPaid_1 0 rfl rfl ?_
  cases h
  exact go_iret C dX4_coinsPaid_4 rfl rfl

set_option maxRecDepth 100000 in
set_option maxHeartbeats 4000000 in
theorem m4_firstActUp_k (l : Launch) (G : gG) (T0 T_after0 T_act0 : Nat) (T : SX4) (R0 : Int32) (h : m4_firstActUp T = some R0) : KK l G yX4_firstActUp cX4_firstActUp 1 (some .int) 0 0 [.ref T0] (u4 G T0 T_after0 T_act0 T) (some (.int R0)) (u4 G T0 T_after0 T_act0 T) := by
  refine KK_intro (own := RX4) (by decide +kernel) rfl (Nat.le_of_ble_eq_true rfl) rfl ?_
  intro p e s m args below meth c A C
  unfold m4_firstActUp at h
  refine go_aload_n C dX4_firstActUp_0 0 rfl ?_
  refine go_get (v := .int (g4_actUp T)) C ffX4_35 dX4_firstActUp_1 0 rfl rfl ?_
  cases h
  exact go_iret C dX4_firstActUp_4 rfl rfl

set_option maxRecDepth 100000 in
set_option maxHeartbeats 4000000 in
theorem m4_firstManUp_k (l : Launch) (G : gG) (T0 T_after0 T_act0 : Nat) (T : SX4) (R0 : Int32) (h : m4_firstManUp T = some R0) : KK l G yX4_firstManUp cX4_firstManUp 1 (some .int) 0 0 [.ref T0] (u4 G T0 T_after0 T_act0 T) (some (.int R0)) (u4 G T0 T_after0 T_act0 T) := by
  refine KK_intro (own := RX4) (by decide +kernel) rfl (Nat.le_of_ble_eq_true rfl) rfl ?_
  intro p e s m args below meth c A C
  unfold m4_firstManUp at h
  refine go_aload_n C dX4_firstManUp_0 0 rfl ?_
  refine go_get (v := .int (g4_manUp T)) C ffX4_38 dX4_firstManUp_1 0 rfl rfl ?_
  cases h
  exact go_iret C dX4_firstManUp_4 rfl rfl

set_option maxRecDepth 100000 in
set_option maxHeartbeats 4000000 in
theorem m4_behindIt_k (l : Launch) (G : gG) (T0 T_after0 T_act0 : Nat) (T : SX4) (R0 : Unit) (h : m4_behindIt T = some R0) : KK l G yX4_behindIt cX4_behindIt 1 (some (.object "RungRights$Brigade")) 0 0 [.ref T0] (u4 G T0 T_after0 T_act0 T) (some (.ref T_after0)) (u4 G T0 T_after0 T_act0 T) := by
  refine KK_intro (own := RX4) (by decide +kernel) rfl (Nat.le_of_ble_eq_true rfl) rfl ?_
  intro p e s m args below meth c A C
  unfold m4_behindIt at h
  refine go_aload_n C dX4_behindIt_0 0 rfl ?_
  refine go_get (v := .ref T_after0) C ffX4_12 dX4_behindIt_1 0 rfl rfl ?_
  cases h
  exact go_aret C dX4_behindIt_4 rfl rfl

set_option maxRecDepth 100000 in
set_option maxHeartbeats 4000000 in
theorem m5_add_k (l : Launch) (G : gG) (T0 T1 : Nat) (T : SX5) (a1 : Int32) (R0 : Int32 × SX5) (h : m5_add T a1 = some R0) : KK l G yX5_add cX5_add 2 (some .boolean) 0 0 [.ref T0, .int a1] (u5 G T0 T1 T) (some (.int R0.1)) (u5 G T0 T1 R0.2) := by
  refine KK_intro (own := RX5) (by decide +kernel) rfl (Nat.le_of_ble_eq_true rfl) rfl ?_
  intro p e s m args below meth c A C
  unfold m5_add at h
  refine go_aload_n C dX5_add_0 0 rfl ?_
  refine go_get (v := .int (g5_count T)) C ffX5_15 dX5_add_1 0 rfl rfl ?_
  refine go_if_lt (tgt := 16) C h dX5_add_4 rfl (fun h => ?_) (fun h => ?_)
  · refine go_iconst (v := 0) C dX5_add_16 rfl ?_
    cases h
    exact go_zret C dX5_add_17 (by decide) rfl rfl
  · refine go_aload_n C dX5_add_7 0 rfl ?_
    refine go_get (v := .int (g5_count T)) C ffX5_15 dX5_add_8 0 rfl rfl ?_
    refine go_bipush (v := 60) C dX5_add_11 rfl ?_
    refine go_icmp_lt (tgt := 18) C h dX5_add_13 rfl (fun h => ?_) (fun h => ?_)
    · refine go_aload_n C dX5_add_18 0 rfl ?_
      refine go_get (v := .ref T1) C ffX5_9 dX5_add_19 0 rfl rfl ?_
      refine go_aload_n C dX5_add_22 0 rfl ?_
      refine go_get (v := .int (g5_count T)) C ffX5_15 dX5_add_23 0 rfl rfl ?_
      refine go_iload_n C dX5_add_26 1 rfl ?_
      refine go_i2c C dX5_add_27 ?_
      refine go_castoreG (f := (g5_signs T)) (w' := u5 G T0 T1 (s5_signs T (upd (g5_signs T) (Int32.toNatClampNeg (g5_count T)) (vp_nar .char (i2c a1))))) C h dX5_add_28 1 rfl z5_signs (fun h => ?_)
      refine go_aload_n C dX5_add_29 0 rfl ?_
      refine go_dup C dX5_add_30 rfl ?_
      refine go_get (v := .int (g5_count T)) C ffX5_15 dX5_add_31 0 rfl rfl ?_
      refine go_iconst (v := 1) C dX5_add_34 rfl ?_
      refine go_iadd C dX5_add_35 ?_
      refine go_puti (w' := u5 G T0 T1 (s5_count (s5_signs T (upd (g5_signs T) (Int32.toNatClampNeg (g5_count T)) (vp_nar .char (i2c a1)))) ((g5_count T) + (1 : Int32)))) C fpX5_15 dX5_add_36 0 rfl (Nat.le_of_ble_eq_true rfl) z5_count ?_
      refine go_iconst (v := 1) C dX5_add_39 rfl ?_
      cases h
      exact go_zret C dX5_add_40 (by decide) rfl rfl
    · refine go_iconst (v := 0) C dX5_add_16 rfl ?_
      cases h
      exact go_zret C dX5_add_17 (by decide) rfl rfl

set_option maxRecDepth 100000 in
set_option maxHeartbeats 4000000 in
theorem m5_clear_k (l : Launch) (G : gG) (T0 T1 : Nat) (T : SX5) (R0 : SX5) (h : m5_clear T = some R0) : KK l G yX5_clear cX5_clear 1 none 0 0 [.ref T0] (u5 G T0 T1 T) none (u5 G T0 T1 R0) := by
  refine KK_intro (own := RX5) (by decide +kernel) rfl (Nat.le_of_ble_eq_true rfl) rfl ?_
  intro p e s m args below meth c A C
  unfold m5_clear at h
  refine go_aload_n C dX5_clear_0 0 rfl ?_
  refine go_iconst (v := 0) C dX5_clear_1 rfl ?_
  refine go_puti (w' := u5 G T0 T1 (s5_count T (0 : Int32))) C fpX5_15 dX5_clear_2 0 rfl (Nat.le_of_ble_eq_true rfl) z5_count ?_
  cases h
  exact go_vret C dX5_clear_5 rfl rfl

set_option maxRecDepth 100000 in
set_option maxHeartbeats 4000000 in
theorem j6_bitCount_0f7a4_k (l : Launch) (G : gG) (a0 : Int32) (R0 : Int32) (h : j6_bitCount_0f7a4 a0 = some R0) : KK l G yJ6_bitCount_0f7a4 cJ6_bitCount_0f7a4 1 (some .int) 0 0 [.int a0] (([] : va_W)) (some (.int R0)) (([] : va_W)) := by
  refine KK_intro (own := RJ6) (by decide +kernel) rfl (Nat.le_of_ble_eq_true rfl) rfl ?_
  intro p e s m args below meth c A C
  unfold j6_bitCount_0f7a4 at h
  refine go_iload_n C dJ6_bitCount_0f7a4_0 0 rfl ?_
  refine go_iload_n C dJ6_bitCount_0f7a4_1 0 rfl ?_
  refine go_iconst (v := 1) C dJ6_bitCount_0f7a4_2 rfl ?_
  refine go_iushr C dJ6_bitCount_0f7a4_3 ?_
  refine go_ldcw (v := 1431655765) C dJ6_bitCount_0f7a4_4 (wr26 _ (List.mem_of_getElem? (i := 22) rfl)) ?_
  refine go_iand C dJ6_bitCount_0f7a4_7 ?_
  refine go_isub C dJ6_bitCount_0f7a4_8 ?_
  refine go_istore_nN (lf := fun v1 => [(0, .int v1)]) C h dJ6_bitCount_0f7a4_9 (by decide) (fun _ => rfl) (fun v1 h => ?_)
  refine go_iload_n C dJ6_bitCount_0f7a4_10 0 rfl ?_
  refine go_ldcw (v := 858993459) C dJ6_bitCount_0f7a4_11 (wr26 _ (List.mem_of_getElem? (i := 23) rfl)) ?_
  refine go_iand C dJ6_bitCount_0f7a4_14 ?_
  refine go_iload_n C dJ6_bitCount_0f7a4_15 0 rfl ?_
  refine go_iconst (v := 2) C dJ6_bitCount_0f7a4_16 rfl ?_
  refine go_iushr C dJ6_bitCount_0f7a4_17 ?_
  refine go_ldcw (v := 858993459) C dJ6_bitCount_0f7a4_18 (wr26 _ (List.mem_of_getElem? (i := 23) rfl)) ?_
  refine go_iand C dJ6_bitCount_0f7a4_21 ?_
  refine go_iadd C dJ6_bitCount_0f7a4_22 ?_
  refine go_istore_nN (lf := fun v2 => [(0, .int v2)]) C h dJ6_bitCount_0f7a4_23 (by decide) (fun _ => rfl) (fun v2 h => ?_)
  refine go_iload_n C dJ6_bitCount_0f7a4_24 0 rfl ?_
  refine go_iload_n C dJ6_bitCount_0f7a4_25 0 rfl ?_
  refine go_iconst (v := 4) C dJ6_bitCount_0f7a4_26 rfl ?_
  refine go_iushr C dJ6_bitCount_0f7a4_27 ?_
  refine go_iadd C dJ6_bitCount_0f7a4_28 ?_
  refine go_ldcw (v := 252645135) C dJ6_bitCount_0f7a4_29 (wr27 _ (List.mem_of_getElem? (i := 0) rfl)) ?_
  refine go_iand C dJ6_bitCount_0f7a4_32 ?_
  refine go_istore_nN (lf := fun v3 => [(0, .int v3)]) C h dJ6_bitCount_0f7a4_33 (by decide) (fun _ => rfl) (fun v3 h => ?_)
  refine go_iload_n C dJ6_bitCount_0f7a4_34 0 rfl ?_
  refine go_iload_n C dJ6_bitCount_0f7a4_35 0 rfl ?_
  refine go_bipush (v := 8) C dJ6_bitCount_0f7a4_36 rfl ?_
  refine go_iushr C dJ6_bitCount_0f7a4_38 ?_
  refine go_iadd C dJ6_bitCount_0f7a4_39 ?_
  refine go_istore_nN (lf := fun v4 => [(0, .int v4)]) C h dJ6_bitCount_0f7a4_40 (by decide) (fun _ => rfl) (fun v4 h => ?_)
  refine go_iload_n C dJ6_bitCount_0f7a4_41 0 rfl ?_
  refine go_iload_n C dJ6_bitCount_0f7a4_42 0 rfl ?_
  refine go_bipush (v := 16) C dJ6_bitCount_0f7a4_43 rfl ?_
  refine go_iushr C dJ6_bitCount_0f7a4_45 ?_
  refine go_iadd C dJ6_bitCount_0f7a4_46 ?_
  refine go_istore_nN (lf := fun v5 => [(0, .int v5)]) C h dJ6_bitCount_0f7a4_47 (by decide) (fun _ => rfl) (fun v5 h => ?_)
  refine go_iload_n C dJ6_bitCount_0f7a4_48 0 rfl ?_
  refine go_bipush (v := 63) C dJ6_bitCount_0f7a4_49 rfl ?_
  refine go_iand C dJ6_bitCount_0f7a4_51 ?_
  cases h
  exact go_iret C dJ6_bitCount_0f7a4_52 rfl rfl

set_option maxRecDepth 100000 in
set_option maxHeartbeats 4000000 in
theorem m6_mostFrom_L34_k {p : Program} {l : Launch} {e : Env} {s : State} {m : MethodId} {args : Array Value} {below : List Frame} {meth : Method} {c : Code} {G : gG} {A : Nat → Prop} (C : Cx p e s m args meth c G RX6 cX6_mostFrom 8 (some .int) A) (T0 T1 T2 : Nat) (T : SX6) (x1 : Int32) (x2 : Int32) (x3 : Int32) (x4 : Int32) (x5 : Int32) (R0 : Int32) (rc20 : Int32 × Int32 → Option (Int32)) (hr20 : ∀ (x4 : Int32) (x5 : Int32), rc20 (x4, x5) = some R0 → Gq p l e (rq 1 21) s m args below meth c G A 8 0 0 (MQ below (QK G (some (.int R0)) (u6 G T0 T1 T2 T) A) args s 0 0 A) 20 [(0, .ref T0), (1, .int x1), (2, .int x2), (3, .int x3), (4, .int x4), (5, .int x5)] [] (u6 G T0 T1 T2 T)) : ∀ (n : Nat) (x6 : Int32) (x7 : Int32), tit (m6_mostFrom_L34 T x1 x2 x3 x4 x5 rc20) n (x6, x7) = some R0 → Gq p l e (rq 1 21) s m args below meth c G A 8 0 0 (MQ below (QK G (some (.int R0)) (u6 G T0 T1 T2 T) A) args s 0 0 A) 34 [(0, .ref T0), (1, .int x1), (2, .int x2), (3, .int x3), (4, .int x4), (5, .int x5), (6, .int x6), (7, .int x7)] [] (u6 G T0 T1 T2 T) := by
  intro n
  induction n with
  | zero => exact fun _ _ h => (tit_z h).elim
  | succ n ih =>
    intro x6 x7 h
    replace h : m6_mostFrom_B34 T x1 x2 x3 x4 x5 rc20 (tit (m6_mostFrom_L34 T x1 x2 x3 x4 x5 rc20) n) x6 x7 = some R0 := h
    unfold m6_mostFrom_B34 at h
    refine go_iload C dX6_mostFrom_34 7 rfl ?_
    refine go_bipush (v := 6) C dX6_mostFrom_36 rfl ?_
    refine go_icmp_ge (tgt := 73) C h dX6_mostFrom_38 rfl (fun h => ?_) (fun h => ?_)
    · refine go_iload C dX6_mostFrom_73 4 rfl ?_
      refine go_iload_n C dX6_mostFrom_75 3 rfl ?_
      refine go_iload C dX6_mostFrom_76 5 rfl ?_
      obtain ⟨r4, k5, h⟩ := tbd_e h
      refine go_callS0 C cfX6_42 (wr26 _ (List.mem_of_getElem? (i := 19) rfl)) (j6_bitCount_0f7a4_k l G x5 r4 k5) dX6_mostFrom_78 (by decide) ⟨Nat.zero_le _, Nat.zero_le _⟩ rfl rfl (Nat.le_of_ble_eq_true rfl) ?_
      refine go_isub C dX6_mostFrom_81 ?_
      refine go_iload C dX6_mostFrom_82 6 rfl ?_
      obtain ⟨r6, k7, h⟩ := tbd_e h
      refine go_callS0 C cfX6_42 (wr26 _ (List.mem_of_getElem? (i := 19) rfl)) (j6_bitCount_0f7a4_k l G x6 r6 k7) dX6_mostFrom_84 (by decide) ⟨Nat.zero_le _, Nat.zero_le _⟩ rfl rfl (Nat.le_of_ble_eq_true rfl) ?_
      refine go_iadd C dX6_mostFrom_87 ?_
      refine go_mmin C cmX6_47 dX6_mostFrom_88 (by decide) (Nat.le_of_ble_eq_true rfl) (Nat.zero_le _) (Nat.zero_le _) ?_
      refine go_istoreN (lf := fun v8 => [(4, .int v8), (0, .ref T0), (1, .int x1), (2, .int x2), (3, .int x3), (5, .int x5), (6, .int x6), (7, .int x7)]) C h dX6_mostFrom_91 (by decide) (fun _ => rfl) (fun v8 h => ?_)
      refine go_iincN (lf := fun v9 => [(5, .int v9), (4, .int v8), (0, .ref T0), (1, .int x1), (2, .int x2), (3, .int x3), (6, .int x6), (7, .int x7)]) C h dX6_mostFrom_93 5 rfl rfl (by decide) (fun _ => rfl) (fun v9 h => ?_)
      refine go_goto (tgt := 20) C dX6_mostFrom_96 rfl ?_
      exact go_lv [2, 3, 4, 5, 1, 0] rfl (hr20 v8 v9 h)
    · refine go_iload C dX6_mostFrom_41 5 rfl ?_
      refine go_iload C dX6_mostFrom_43 7 rfl ?_
      refine go_iload_n C dX6_mostFrom_45 1 rfl ?_
      refine go_isub C dX6_mostFrom_46 ?_
      refine go_ishr C dX6_mostFrom_47 ?_
      refine go_iconst (v := 1) C dX6_mostFrom_48 rfl ?_
      refine go_iand C dX6_mostFrom_49 ?_
      refine go_if_eq (tgt := 67) C h dX6_mostFrom_50 rfl (fun h => ?_) (fun h => ?_)
      · refine go_iincN (lf := fun v10 => [(7, .int v10), (0, .ref T0), (1, .int x1), (2, .int x2), (3, .int x3), (4, .int x4), (5, .int x5), (6, .int x6)]) C h dX6_mostFrom_67 7 rfl rfl (by decide) (fun _ => rfl) (fun v10 h => ?_)
        refine go_goto (tgt := 34) C dX6_mostFrom_70 rfl ?_
        exact go_lv [1, 2, 3, 4, 5, 6, 7, 0] rfl (ih x6 v10 h)
      · refine go_iload C dX6_mostFrom_53 6 rfl ?_
        refine go_aload_n C dX6_mostFrom_55 0 rfl ?_
        refine go_get (v := .ref T1) C ffX6_9 dX6_mostFrom_56 0 rfl rfl ?_
        refine go_iload C dX6_mostFrom_59 7 rfl ?_
        refine go_ialoadG (f := (g6_open T)) C h dX6_mostFrom_61 1 rfl (fun h => ?_)
        refine go_iload_n C dX6_mostFrom_62 2 rfl ?_
        refine go_iand C dX6_mostFrom_63 ?_
        refine go_ior C dX6_mostFrom_64 ?_
        refine go_istoreN (lf := fun v11 => [(6, .int v11), (0, .ref T0), (1, .int x1), (2, .int x2), (3, .int x3), (4, .int x4), (5, .int x5), (7, .int x7)]) C h dX6_mostFrom_65 (by decide) (fun _ => rfl) (fun v11 h => ?_)
        refine go_iincN (lf := fun v12 => [(7, .int v12), (6, .int v11), (0, .ref T0), (1, .int x1), (2, .int x2), (3, .int x3), (4, .int x4), (5, .int x5)]) C h dX6_mostFrom_67 7 rfl rfl (by decide) (fun _ => rfl) (fun v12 h => ?_)
        refine go_goto (tgt := 34) C dX6_mostFrom_70 rfl ?_
        exact go_lv [2, 3, 4, 5, 6, 7, 1, 0] rfl (ih v11 v12 h)

set_option maxRecDepth 100000 in
set_option maxHeartbeats 4000000 in
theorem m6_mostFrom_L20_k {p : Program} {l : Launch} {e : Env} {s : State} {m : MethodId} {args : Array Value} {below : List Frame} {meth : Method} {c : Code} {G : gG} {A : Nat → Prop} (C : Cx p e s m args meth c G RX6 cX6_mostFrom 8 (some .int) A) (T0 T1 T2 : Nat) (T : SX6) (x1 : Int32) (x2 : Int32) (x3 : Int32) (R0 : Int32)  : ∀ (n : Nat) (x4 : Int32) (x5 : Int32), tit (m6_mostFrom_L20 T x1 x2 x3) n (x4, x5) = some R0 → Gq p l e (rq 1 21) s m args below meth c G A 8 0 0 (MQ below (QK G (some (.int R0)) (u6 G T0 T1 T2 T) A) args s 0 0 A) 20 [(0, .ref T0), (1, .int x1), (2, .int x2), (3, .int x3), (4, .int x4), (5, .int x5)] [] (u6 G T0 T1 T2 T) := by
  intro n
  induction n with
  | zero => exact fun _ _ h => (tit_z h).elim
  | succ n ih =>
    intro x4 x5 h
    replace h : m6_mostFrom_B20 T x1 x2 x3 (tit (m6_mostFrom_L20 T x1 x2 x3) n) x4 x5 = some R0 := h
    unfold m6_mostFrom_B20 at h
    refine go_iload C dX6_mostFrom_20 5 rfl ?_
    refine go_iconst (v := 1) C dX6_mostFrom_22 rfl ?_
    refine go_iload_n C dX6_mostFrom_23 3 rfl ?_
    refine go_ishl C dX6_mostFrom_24 ?_
    refine go_icmp_ge (tgt := 99) C h dX6_mostFrom_25 rfl (fun h => ?_) (fun h => ?_)
    · refine go_iload C dX6_mostFrom_99 4 rfl ?_
      cases h
      exact go_iret C dX6_mostFrom_101 rfl rfl
    · refine go_iconst (v := 0) C dX6_mostFrom_28 rfl ?_
      refine go_istore (lv' := [(6, .int (0 : Int32)), (0, .ref T0), (1, .int x1), (2, .int x2), (3, .int x3), (4, .int x4), (5, .int x5)]) C dX6_mostFrom_29 (by decide) rfl ?_
      refine go_iload_n C dX6_mostFrom_31 2 rfl ?_
      refine go_istore (lv' := [(7, .int x1), (6, .int (0 : Int32)), (0, .ref T0), (1, .int x1), (2, .int x2), (3, .int x3), (4, .int x4), (5, .int x5)]) C dX6_mostFrom_32 (by decide) rfl ?_
      exact go_lv [2, 3, 4, 5, 6, 7, 1, 0] rfl (m6_mostFrom_L34_k C T0 T1 T2 T x1 x2 x3 x4 x5 R0 _ (fun z0 z1 h => ih z0 z1 h) FU (0 : Int32) x1 h)

set_option maxRecDepth 100000 in
set_option maxHeartbeats 4000000 in
theorem m6_mostFrom_k (l : Launch) (G : gG) (T0 T1 T2 : Nat) (T : SX6) (a1 : Int32) (a2 : Int32) (R0 : Int32) (h : m6_mostFrom T a1 a2 = some R0) : KK l G yX6_mostFrom cX6_mostFrom 8 (some .int) 1 21 [.ref T0, .int a1, .int a2] (u6 G T0 T1 T2 T) (some (.int R0)) (u6 G T0 T1 T2 T) := by
  refine KK_intro (own := RX6) (by decide +kernel) rfl (Nat.le_of_ble_eq_true rfl) rfl ?_
  intro p e s m args below meth c A C
  unfold m6_mostFrom at h
  refine go_iload_n C dX6_mostFrom_0 1 rfl ?_
  obtain ⟨r1, k2, h⟩ := tbd_e h
  refine go_callSN0 C cfX6_38 (wr6 _ (List.mem_of_getElem? (i := 22) rfl)) (m9_isMan_k l G a1 r1 k2) dX6_mostFrom_1 (by decide) ⟨Nat.zero_le _, Nat.zero_le _⟩ rfl rfl (Nat.le_of_ble_eq_true rfl) ?_
  refine go_if_ne (tgt := 9) C h dX6_mostFrom_4 rfl (fun h => ?_) (fun h => ?_)
  · refine go_bipush (v := 6) C dX6_mostFrom_9 rfl ?_
    refine go_iload_n C dX6_mostFrom_11 1 rfl ?_
    refine go_isub C dX6_mostFrom_12 ?_
    refine go_istore_nN (lf := fun v3 => [(3, .int v3), (0, .ref T0), (1, .int a1), (2, .int a2)]) C h dX6_mostFrom_13 (by decide) (fun _ => rfl) (fun v3 h => ?_)
    refine go_iload_n C dX6_mostFrom_14 0 rfl ?_
    refine go_istore (lv' := [(4, .int v3), (3, .int v3), (0, .ref T0), (1, .int a1), (2, .int a2)]) C dX6_mostFrom_15 (by decide) rfl ?_
    refine go_iconst (v := 0) C dX6_mostFrom_17 rfl ?_
    refine go_istore (lv' := [(5, .int (0 : Int32)), (4, .int v3), (3, .int v3), (0, .ref T0), (1, .int a1), (2, .int a2)]) C dX6_mostFrom_18 (by decide) rfl ?_
    exact go_lv [3, 4, 5, 2, 1, 0] rfl (m6_mostFrom_L20_k C T0 T1 T2 T a1 a2 v3 R0  FU v3 (0 : Int32) h)
  · refine go_iconst (v := 0) C dX6_mostFrom_7 rfl ?_
    cases h
    exact go_iret C dX6_mostFrom_8 rfl rfl

set_option maxRecDepth 100000 in
set_option maxHeartbeats 4000000 in
theorem m6_lowestPost_L20_k {p : Program} {l : Launch} {e : Env} {s : State} {m : MethodId} {args : Array Value} {below : List Frame} {meth : Method} {c : Code} {G : gG} {A : Nat → Prop} (C : Cx p e s m args meth c G RX6 cX6_lowestPost 5 (some .int) A) (T0 T1 T2 : Nat) (T : SX6) (x1 : Int32) (x2 : Int32) (x3 : Int32) (R0 : Int32)  : ∀ (n : Nat) (x4 : Int32), tit (m6_lowestPost_L20 T x1 x2 x3) n x4 = some R0 → Gq p l e (rq 2 48) s m args below meth c G A 5 0 0 (MQ below (QK G (some (.int R0)) (u6 G T0 T1 T2 T) A) args s 0 0 A) 20 [(0, .ref T0), (1, .int x1), (2, .int x2), (3, .int x3), (4, .int x4)] [] (u6 G T0 T1 T2 T) := by
  intro n
  induction n with
  | zero => exact fun _ h => (tit_z h).elim
  | succ n ih =>
    intro x4 h
    replace h : m6_lowestPost_B20 T x1 x2 x3 (tit (m6_lowestPost_L20 T x1 x2 x3) n) x4 = some R0 := h
    unfold m6_lowestPost_B20 at h
    refine go_iload C dX6_lowestPost_20 4 rfl ?_
    refine go_bipush (v := 12) C dX6_lowestPost_22 rfl ?_
    refine go_icmp_gt (tgt := 75) C h dX6_lowestPost_24 rfl (fun h => ?_) (fun h => ?_)
    · refine go_bipush (v := -6) C dX6_lowestPost_75 rfl ?_
      cases h
      exact go_iret C dX6_lowestPost_77 rfl rfl
    · refine go_aload_n C dX6_lowestPost_27 0 rfl ?_
      refine go_get (v := .ref T1) C ffX6_9 dX6_lowestPost_28 0 rfl rfl ?_
      refine go_iload_n C dX6_lowestPost_31 1 rfl ?_
      refine go_ialoadG (f := (g6_open T)) C h dX6_lowestPost_32 1 rfl (fun h => ?_)
      refine go_iload_n C dX6_lowestPost_33 2 rfl ?_
      refine go_iand C dX6_lowestPost_34 ?_
      refine go_iload C dX6_lowestPost_35 4 rfl ?_
      obtain ⟨r5, k6, h⟩ := tbd_e h
      refine go_callSN0 C cfX6_35 (wr7 _ (List.mem_of_getElem? (i := 14) rfl)) (m9_bitOf_k l G x4 r5 k6) dX6_lowestPost_37 (by decide) ⟨Nat.zero_le _, Nat.zero_le _⟩ rfl rfl (Nat.le_of_ble_eq_true rfl) ?_
      refine go_iand C dX6_lowestPost_40 ?_
      refine go_if_eq (tgt := 69) C h dX6_lowestPost_41 rfl (fun h => ?_) (fun h => ?_)
      · refine go_iincN (lf := fun v7 => [(4, .int v7), (0, .ref T0), (1, .int x1), (2, .int x2), (3, .int x3)]) C h dX6_lowestPost_69 4 rfl rfl (by decide) (fun _ => rfl) (fun v7 h => ?_)
        refine go_goto (tgt := 20) C dX6_lowestPost_72 rfl ?_
        exact go_lv [1, 2, 3, 4, 0] rfl (ih v7 h)
      · refine go_iconst (v := 1) C dX6_lowestPost_44 rfl ?_
        refine go_aload_n C dX6_lowestPost_45 0 rfl ?_
        refine go_iload_n C dX6_lowestPost_46 1 rfl ?_
        refine go_iconst (v := 1) C dX6_lowestPost_47 rfl ?_
        refine go_iadd C dX6_lowestPost_48 ?_
        refine go_iload_n C dX6_lowestPost_49 2 rfl ?_
        refine go_iload C dX6_lowestPost_50 4 rfl ?_
        obtain ⟨r8, k9, h⟩ := tbd_e h
        refine go_callSN0 C cfX6_35 (wr7 _ (List.mem_of_getElem? (i := 14) rfl)) (m9_bitOf_k l G x4 r8 k9) dX6_lowestPost_52 (by decide) ⟨Nat.zero_le _, Nat.zero_le _⟩ rfl rfl (Nat.le_of_ble_eq_true rfl) ?_
        refine go_iconst (v := -1) C dX6_lowestPost_55 rfl ?_
        refine go_ixor C dX6_lowestPost_56 ?_
        refine go_iand C dX6_lowestPost_57 ?_
        obtain ⟨r10, k11, h⟩ := tbd_e h
        refine go_callV (q0 := 0) (wr := ([] : va_W)) (w' := u6 G T0 T1 T2 T) C cfX6_28 viX6_mostFrom (m6_mostFrom_k l G T0 T1 T2 T (x1 + (1 : Int32)) (x2 &&& (r8 ^^^ (-1 : Int32))) r10 k11) dX6_lowestPost_58 (by decide) ⟨Nat.zero_le _, Nat.zero_le _⟩ rfl rfl (Nat.le_of_ble_eq_true rfl) rfl [0, 1, 2] [] [0, 1, 2] rfl rfl (by decide) rfl ?_
        refine go_iadd C dX6_lowestPost_61 ?_
        refine go_iload_n C dX6_lowestPost_62 3 rfl ?_
        refine go_icmp_ne (tgt := 69) C h dX6_lowestPost_63 rfl (fun h => ?_) (fun h => ?_)
        · refine go_iincN (lf := fun v12 => [(4, .int v12), (0, .ref T0), (1, .int x1), (2, .int x2), (3, .int x3)]) C h dX6_lowestPost_69 4 rfl rfl (by decide) (fun _ => rfl) (fun v12 h => ?_)
          refine go_goto (tgt := 20) C dX6_lowestPost_72 rfl ?_
          exact go_lv [1, 2, 3, 4, 0] rfl (ih v12 h)
        · refine go_iload C dX6_lowestPost_66 4 rfl ?_
          cases h
          exact go_iret C dX6_lowestPost_68 rfl rfl

set_option maxRecDepth 100000 in
set_option maxHeartbeats 4000000 in
theorem m6_lowestPost_k (l : Launch) (G : gG) (T0 T1 T2 : Nat) (T : SX6) (a1 : Int32) (a2 : Int32) (R0 : Int32) (h : m6_lowestPost T a1 a2 = some R0) : KK l G yX6_lowestPost cX6_lowestPost 5 (some .int) 2 48 [.ref T0, .int a1, .int a2] (u6 G T0 T1 T2 T) (some (.int R0)) (u6 G T0 T1 T2 T) := by
  refine KK_intro (own := RX6) (by decide +kernel) rfl (Nat.le_of_ble_eq_true rfl) rfl ?_
  intro p e s m args below meth c A C
  unfold m6_lowestPost at h
  refine go_iload_n C dX6_lowestPost_0 1 rfl ?_
  obtain ⟨r1, k2, h⟩ := tbd_e h
  refine go_callSN0 C cfX6_38 (wr6 _ (List.mem_of_getElem? (i := 22) rfl)) (m9_isMan_k l G a1 r1 k2) dX6_lowestPost_1 (by decide) ⟨Nat.zero_le _, Nat.zero_le _⟩ rfl rfl (Nat.le_of_ble_eq_true rfl) ?_
  refine go_if_ne (tgt := 10) C h dX6_lowestPost_4 rfl (fun h => ?_) (fun h => ?_)
  · refine go_aload_n C dX6_lowestPost_10 0 rfl ?_
    refine go_iload_n C dX6_lowestPost_11 1 rfl ?_
    refine go_iload_n C dX6_lowestPost_12 2 rfl ?_
    obtain ⟨r3, k4, h⟩ := tbd_e h
    refine go_callV (q0 := 0) (wr := ([] : va_W)) (w' := u6 G T0 T1 T2 T) C cfX6_28 viX6_mostFrom (m6_mostFrom_k l G T0 T1 T2 T a1 a2 r3 k4) dX6_lowestPost_13 (by decide) ⟨Nat.zero_le _, Nat.zero_le _⟩ rfl rfl (Nat.le_of_ble_eq_true rfl) rfl [0, 1, 2] [] [0, 1, 2] rfl rfl (by decide) rfl ?_
    refine go_istore_n (lv' := [(3, .int r3), (0, .ref T0), (1, .int a1), (2, .int a2)]) C dX6_lowestPost_16 (by decide) rfl ?_
    refine go_iconst (v := 1) C dX6_lowestPost_17 rfl ?_
    refine go_istore (lv' := [(4, .int (1 : Int32)), (3, .int r3), (0, .ref T0), (1, .int a1), (2, .int a2)]) C dX6_lowestPost_18 (by decide) rfl ?_
    exact go_lv [2, 3, 4, 1, 0] rfl (m6_lowestPost_L20_k C T0 T1 T2 T a1 a2 r3 R0  FU (1 : Int32) h)
  · refine go_bipush (v := -6) C dX6_lowestPost_7 rfl ?_
    cases h
    exact go_iret C dX6_lowestPost_9 rfl rfl

set_option maxRecDepth 100000 in
set_option maxHeartbeats 4000000 in
theorem m6_assign_L43_k {p : Program} {l : Launch} {e : Env} {s : State} {m : MethodId} {args : Array Value} {below : List Frame} {meth : Method} {c : Code} {G : gG} {A : Nat → Prop} (C : Cx p e s m args meth c G RX6 cX6_assign 4 none A) (T0 T1 T2 Ob0 Ob1 Ob2 Ob3 Ob4 Ob5 : Nat) (Ob : SX1) (R0 : SX6)  : ∀ (n : Nat) (x2 : Int32) (x3 : Int32) (T : SX6), tit (m6_assign_L43 Ob) n (x2, x3, T) = some R0 → Gq p l e (rq 3 72) s m args below meth c G A 4 0 0 (MQ below (QK G none (u6 G T0 T1 T2 R0 ++ (u1 G Ob0 Ob1 Ob2 Ob3 Ob4 Ob5 Ob)) A) args s 0 0 A) 43 [(0, .ref T0), (2, .int x2), (3, .int x3)] [] (u6 G T0 T1 T2 T ++ (u1 G Ob0 Ob1 Ob2 Ob3 Ob4 Ob5 Ob)) := by
  intro n
  induction n with
  | zero => exact fun _ _ _ h => (tit_z h).elim
  | succ n ih =>
    intro x2 x3 T h
    replace h : m6_assign_B43 Ob (tit (m6_assign_L43 Ob) n) x2 x3 T = some R0 := h
    unfold m6_assign_B43 at h
    refine go_iload_n C dX6_assign_43 2 rfl ?_
    refine go_bipush (v := 6) C dX6_assign_44 rfl ?_
    refine go_icmp_ge (tgt := 81) C h dX6_assign_46 rfl (fun h => ?_) (fun h => ?_)
    · cases h
      exact go_vret C dX6_assign_81 rfl rfl
    · refine go_aload_n C dX6_assign_49 0 rfl ?_
      refine go_get (v := .ref T2) C ffX6_15 dX6_assign_50 0 rfl rfl ?_
      refine go_iload_n C dX6_assign_53 2 rfl ?_
      refine go_aload_n C dX6_assign_54 0 rfl ?_
      refine go_iload_n C dX6_assign_55 2 rfl ?_
      refine go_iload_n C dX6_assign_56 1 rfl ?_
      obtain ⟨r3, k4, h⟩ := tbd_e h
      refine go_callV (q0 := 0) (wr := u1 G Ob0 Ob1 Ob2 Ob3 Ob4 Ob5 Ob) (w' := u6 G T0 T1 T2 T ++ (u1 G Ob0 Ob1 Ob2 Ob3 Ob4 Ob5 Ob)) C cfX6_32 viX6_lowestPost (m6_lowestPost_k l G T0 T1 T2 T x3 x2 r3 k4) dX6_assign_57 (by decide) ⟨Nat.zero_le _, Nat.zero_le _⟩ rfl rfl (Nat.le_of_ble_eq_true rfl) rfl [0, 1, 2] [3, 4, 5, 6, 7, 8] [6, 7, 8, 0, 1, 2, 3, 4, 5] rfl rfl (by decide) rfl ?_
      refine go_iastoreG (f := (g6_post T)) (w' := u6 G T0 T1 T2 (s6_post T (upd (g6_post T) (Int32.toNatClampNeg x3) r3)) ++ (u1 G Ob0 Ob1 Ob2 Ob3 Ob4 Ob5 Ob)) C h dX6_assign_60 2 rfl (setL (Nat.le_of_ble_eq_true rfl) z6_post) (fun h => ?_)
      refine go_iload_n C dX6_assign_61 1 rfl ?_
      refine go_aload_n C dX6_assign_62 0 rfl ?_
      refine go_get (v := .ref T2) C ffX6_15 dX6_assign_63 0 rfl rfl ?_
      refine go_iload_n C dX6_assign_66 2 rfl ?_
      refine go_ialoadG (f := (upd (g6_post T) (Int32.toNatClampNeg x3) r3)) C h dX6_assign_67 2 rfl (fun h => ?_)
      obtain ⟨r5, k6, h⟩ := tbd_e h
      refine go_callSN0 C cfX6_35 (wr7 _ (List.mem_of_getElem? (i := 14) rfl)) (m9_bitOf_k l G ((upd (g6_post T) (Int32.toNatClampNeg x3) r3) (Int32.toNatClampNeg x3)) r5 k6) dX6_assign_68 (by decide) ⟨Nat.zero_le _, Nat.zero_le _⟩ rfl rfl (Nat.le_of_ble_eq_true rfl) ?_
      refine go_iconst (v := -1) C dX6_assign_71 rfl ?_
      refine go_ixor C dX6_assign_72 ?_
      refine go_iand C dX6_assign_73 ?_
      refine go_istore_nN (lf := fun v7 => [(2, .int v7), (0, .ref T0), (3, .int x3)]) C h dX6_assign_74 (by decide) (fun _ => rfl) (fun v7 h => ?_)
      refine go_iincN (lf := fun v8 => [(3, .int v8), (2, .int v7), (0, .ref T0)]) C h dX6_assign_75 2 rfl rfl (by decide) (fun _ => rfl) (fun v8 h => ?_)
      refine go_goto (tgt := 43) C dX6_assign_78 rfl ?_
      exact go_lv [2, 1, 0] rfl (ih v7 v8 (s6_post T (upd (g6_post T) (Int32.toNatClampNeg x3) r3)) h)

set_option maxRecDepth 100000 in
set_option maxHeartbeats 4000000 in
theorem m6_assign_L2_k {p : Program} {l : Launch} {e : Env} {s : State} {m : MethodId} {args : Array Value} {below : List Frame} {meth : Method} {c : Code} {G : gG} {A : Nat → Prop} (C : Cx p e s m args meth c G RX6 cX6_assign 4 none A) (T0 T1 T2 Ob0 Ob1 Ob2 Ob3 Ob4 Ob5 : Nat) (Ob : SX1) (R0 : SX6)  : ∀ (n : Nat) (x2 : Int32) (T : SX6), tit (m6_assign_L2 Ob) n (x2, T) = some R0 → Gq p l e (rq 3 72) s m args below meth c G A 4 0 0 (MQ below (QK G none (u6 G T0 T1 T2 R0 ++ (u1 G Ob0 Ob1 Ob2 Ob3 Ob4 Ob5 Ob)) A) args s 0 0 A) 2 [(0, .ref T0), (1, .ref Ob0), (2, .int x2)] [] (u6 G T0 T1 T2 T ++ (u1 G Ob0 Ob1 Ob2 Ob3 Ob4 Ob5 Ob)) := by
  intro n
  induction n with
  | zero => exact fun _ _ h => (tit_z h).elim
  | succ n ih =>
    intro x2 T h
    replace h : m6_assign_B2 Ob (tit (m6_assign_L2 Ob) n) x2 T = some R0 := h
    unfold m6_assign_B2 at h
    refine go_iload_n C dX6_assign_2 2 rfl ?_
    refine go_bipush (v := 6) C dX6_assign_3 rfl ?_
    refine go_icmp_ge (tgt := 25) C h dX6_assign_5 rfl (fun h => ?_) (fun h => ?_)
    · refine go_aload_n C dX6_assign_25 0 rfl ?_
      refine go_aload_n C dX6_assign_26 0 rfl ?_
      refine go_iconst (v := 0) C dX6_assign_27 rfl ?_
      refine go_sipush (v := 4095) C dX6_assign_28 rfl ?_
      obtain ⟨r1, k2, h⟩ := tbd_e h
      refine go_callV (q0 := 0) (wr := u1 G Ob0 Ob1 Ob2 Ob3 Ob4 Ob5 Ob) (w' := u6 G T0 T1 T2 T ++ (u1 G Ob0 Ob1 Ob2 Ob3 Ob4 Ob5 Ob)) C cfX6_28 viX6_mostFrom (m6_mostFrom_k l G T0 T1 T2 T (0 : Int32) (4095 : Int32) r1 k2) dX6_assign_31 (by decide) ⟨Nat.zero_le _, Nat.zero_le _⟩ rfl rfl (Nat.le_of_ble_eq_true rfl) rfl [0, 1, 2] [3, 4, 5, 6, 7, 8] [6, 7, 8, 0, 1, 2, 3, 4, 5] rfl rfl (by decide) rfl ?_
      refine go_puti (w' := u6 G T0 T1 T2 (s6_posted T r1) ++ (u1 G Ob0 Ob1 Ob2 Ob3 Ob4 Ob5 Ob)) C fpX6_18 dX6_assign_34 0 rfl (Nat.le_of_ble_eq_true rfl) (setL (Nat.le_of_ble_eq_true rfl) z6_posted) ?_
      refine go_sipush (v := 4095) C dX6_assign_37 rfl ?_
      refine go_istore_n (lv' := [(2, .int (4095 : Int32)), (0, .ref T0), (1, .ref Ob0)]) C dX6_assign_40 (by decide) rfl ?_
      refine go_iconst (v := 0) C dX6_assign_41 rfl ?_
      refine go_istore_n (lv' := [(3, .int (0 : Int32)), (2, .int (4095 : Int32)), (0, .ref T0), (1, .ref Ob0)]) C dX6_assign_42 (by decide) rfl ?_
      exact go_lv [2, 1, 0] rfl (m6_assign_L43_k C T0 T1 T2 Ob0 Ob1 Ob2 Ob3 Ob4 Ob5 Ob R0  FU (4095 : Int32) (0 : Int32) (s6_posted T r1) h)
    · refine go_aload_n C dX6_assign_8 0 rfl ?_
      refine go_get (v := .ref T1) C ffX6_9 dX6_assign_9 0 rfl rfl ?_
      refine go_iload_n C dX6_assign_12 2 rfl ?_
      refine go_aload_n C dX6_assign_13 1 rfl ?_
      refine go_iload_n C dX6_assign_14 2 rfl ?_
      obtain ⟨r9, k10, h⟩ := tbd_e h
      refine go_callV (q0 := 3) (wr := u6 G T0 T1 T2 T) (w' := u6 G T0 T1 T2 T ++ (u1 G Ob0 Ob1 Ob2 Ob3 Ob4 Ob5 Ob)) C cfX6_22 viX1_rungsOpenTo (m1_rungsOpenTo_k l G Ob0 Ob1 Ob2 Ob3 Ob4 Ob5 Ob x2 r9 k10) dX6_assign_15 (by decide) ⟨Nat.zero_le _, Nat.zero_le _⟩ rfl rfl (Nat.le_of_ble_eq_true rfl) rfl [3, 4, 5, 6, 7, 8] [0, 1, 2] [0, 1, 2, 3, 4, 5, 6, 7, 8] rfl rfl (by decide) rfl ?_
      refine go_iastoreG (f := (g6_open T)) (w' := u6 G T0 T1 T2 (s6_open T (upd (g6_open T) (Int32.toNatClampNeg x2) r9)) ++ (u1 G Ob0 Ob1 Ob2 Ob3 Ob4 Ob5 Ob)) C h dX6_assign_18 1 rfl (setL (Nat.le_of_ble_eq_true rfl) z6_open) (fun h => ?_)
      refine go_iincN (lf := fun v11 => [(2, .int v11), (0, .ref T0), (1, .ref Ob0)]) C h dX6_assign_19 2 rfl rfl (by decide) (fun _ => rfl) (fun v11 h => ?_)
      refine go_goto (tgt := 2) C dX6_assign_22 rfl ?_
      exact go_lv [1, 2, 0] rfl (ih v11 (s6_open T (upd (g6_open T) (Int32.toNatClampNeg x2) r9)) h)

set_option maxRecDepth 100000 in
set_option maxHeartbeats 4000000 in
theorem m6_assign_k (l : Launch) (G : gG) (T0 T1 T2 Ob0 Ob1 Ob2 Ob3 Ob4 Ob5 : Nat) (T : SX6) (Ob : SX1) (R0 : SX6) (h : m6_assign T Ob = some R0) : KK l G yX6_assign cX6_assign 4 none 3 72 [.ref T0, .ref Ob0] (u6 G T0 T1 T2 T ++ (u1 G Ob0 Ob1 Ob2 Ob3 Ob4 Ob5 Ob)) none (u6 G T0 T1 T2 R0 ++ (u1 G Ob0 Ob1 Ob2 Ob3 Ob4 Ob5 Ob)) := by
  refine KK_intro (own := RX6) (by decide +kernel) rfl (Nat.le_of_ble_eq_true rfl) rfl ?_
  intro p e s m args below meth c A C
  unfold m6_assign at h
  refine go_iconst (v := 0) C dX6_assign_0 rfl ?_
  refine go_istore_n (lv' := [(2, .int (0 : Int32)), (0, .ref T0), (1, .ref Ob0)]) C dX6_assign_1 (by decide) rfl ?_
  exact go_lv [1, 2, 0] rfl (m6_assign_L2_k C T0 T1 T2 Ob0 Ob1 Ob2 Ob3 Ob4 Ob5 Ob R0  FU (0 : Int32) T h)

set_option maxRecDepth 100000 in
set_option maxHeartbeats 4000000 in
theorem m6_menPosted_k (l : Launch) (G : gG) (T0 T1 T2 : Nat) (T : SX6) (R0 : Int32) (h : m6_menPosted T = some R0) : KK l G yX6_menPosted cX6_menPosted 1 (some .int) 0 0 [.ref T0] (u6 G T0 T1 T2 T) (some (.int R0)) (u6 G T0 T1 T2 T) := by
  refine KK_intro (own := RX6) (by decide +kernel) rfl (Nat.le_of_ble_eq_true rfl) rfl ?_
  intro p e s m args below meth c A C
  unfold m6_menPosted at h
  refine go_aload_n C dX6_menPosted_0 0 rfl ?_
  refine go_get (v := .int (g6_posted T)) C ffX6_18 dX6_menPosted_1 0 rfl rfl ?_
  cases h
  exact go_iret C dX6_menPosted_4 rfl rfl

set_option maxRecDepth 100000 in
set_option maxHeartbeats 4000000 in
theorem m6_rungOf_k (l : Launch) (G : gG) (T0 T1 T2 : Nat) (T : SX6) (a1 : Int32) (R0 : Int32) (h : m6_rungOf T a1 = some R0) : KK l G yX6_rungOf cX6_rungOf 2 (some .int) 1 20 [.ref T0, .int a1] (u6 G T0 T1 T2 T) (some (.int R0)) (u6 G T0 T1 T2 T) := by
  refine KK_intro (own := RX6) (by decide +kernel) rfl (Nat.le_of_ble_eq_true rfl) rfl ?_
  intro p e s m args below meth c A C
  unfold m6_rungOf at h
  refine go_iload_n C dX6_rungOf_0 1 rfl ?_
  obtain ⟨r1, k2, h⟩ := tbd_e h
  refine go_callSN0 C cfX6_38 (wr6 _ (List.mem_of_getElem? (i := 22) rfl)) (m9_isMan_k l G a1 r1 k2) dX6_rungOf_1 (by decide) ⟨Nat.zero_le _, Nat.zero_le _⟩ rfl rfl (Nat.le_of_ble_eq_true rfl) ?_
  refine go_if_eq (tgt := 16) C h dX6_rungOf_4 rfl (fun h => ?_) (fun h => ?_)
  · refine go_bipush (v := -6) C dX6_rungOf_16 rfl ?_
    cases h
    exact go_iret C dX6_rungOf_18 rfl rfl
  · refine go_aload_n C dX6_rungOf_7 0 rfl ?_
    refine go_get (v := .ref T2) C ffX6_15 dX6_rungOf_8 0 rfl rfl ?_
    refine go_iload_n C dX6_rungOf_11 1 rfl ?_
    refine go_ialoadG (f := (g6_post T)) C h dX6_rungOf_12 2 rfl (fun h => ?_)
    refine go_goto (tgt := 18) C dX6_rungOf_13 rfl ?_
    cases h
    exact go_iret C dX6_rungOf_18 rfl rfl

set_option maxRecDepth 100000 in
set_option maxHeartbeats 4000000 in
theorem m7_isOpen_k (l : Launch) (G : gG) (a0 : Int32) (a1 : Int32) (R0 : Int32) (h : m7_isOpen a0 a1 = some R0) : KK l G yX7_isOpen cX7_isOpen 2 (some .boolean) 0 0 [.int a0, .int a1] (([] : va_W)) (some (.int R0)) (([] : va_W)) := by
  refine KK_intro (own := RX7) (by decide +kernel) rfl (Nat.le_of_ble_eq_true rfl) rfl ?_
  intro p e s m args below meth c A C
  unfold m7_isOpen at h
  refine go_iload_n C dX7_isOpen_0 0 rfl ?_
  refine go_iload_n C dX7_isOpen_1 1 rfl ?_
  refine go_iconst (v := 1) C dX7_isOpen_2 rfl ?_
  refine go_isub C dX7_isOpen_3 ?_
  refine go_ishr C dX7_isOpen_4 ?_
  refine go_iconst (v := 1) C dX7_isOpen_5 rfl ?_
  refine go_iand C dX7_isOpen_6 ?_
  refine go_if_eq (tgt := 14) C h dX7_isOpen_7 rfl (fun h => ?_) (fun h => ?_)
  · refine go_iconst (v := 0) C dX7_isOpen_14 rfl ?_
    cases h
    exact go_zret C dX7_isOpen_15 (by decide) rfl rfl
  · refine go_iconst (v := 1) C dX7_isOpen_10 rfl ?_
    refine go_goto (tgt := 15) C dX7_isOpen_11 rfl ?_
    cases h
    exact go_zret C dX7_isOpen_15 (by decide) rfl rfl

set_option maxRecDepth 100000 in
set_option maxHeartbeats 4000000 in
theorem m9_isPlace_k (l : Launch) (G : gG) (a0 : Int32) (R0 : Int32) (h : m9_isPlace a0 = some R0) : KK l G yX9_isPlace cX9_isPlace 1 (some .boolean) 0 0 [.int a0] (([] : va_W)) (some (.int R0)) (([] : va_W)) := by
  refine KK_intro (own := RX9) (by decide +kernel) rfl (Nat.le_of_ble_eq_true rfl) rfl ?_
  intro p e s m args below meth c A C
  unfold m9_isPlace at h
  refine go_iload_n C dX9_isPlace_0 0 rfl ?_
  refine go_if_lt (tgt := 14) C h dX9_isPlace_1 rfl (fun h => ?_) (fun h => ?_)
  · refine go_iconst (v := 0) C dX9_isPlace_14 rfl ?_
    cases h
    exact go_zret C dX9_isPlace_15 (by decide) rfl rfl
  · refine go_iload_n C dX9_isPlace_4 0 rfl ?_
    refine go_bipush (v := 13) C dX9_isPlace_5 rfl ?_
    refine go_icmp_gt (tgt := 14) C h dX9_isPlace_7 rfl (fun h => ?_) (fun h => ?_)
    · refine go_iconst (v := 0) C dX9_isPlace_14 rfl ?_
      cases h
      exact go_zret C dX9_isPlace_15 (by decide) rfl rfl
    · refine go_iconst (v := 1) C dX9_isPlace_10 rfl ?_
      refine go_goto (tgt := 15) C dX9_isPlace_11 rfl ?_
      cases h
      exact go_zret C dX9_isPlace_15 (by decide) rfl rfl

set_option maxRecDepth 100000 in
set_option maxHeartbeats 4000000 in
theorem m7_settledAt_k (l : Launch) (G : gG) (T0 T1 : Nat) (T : SX7) (a1 : Int32) (R0 : Int32) (h : m7_settledAt T a1 = some R0) : KK l G yX7_settledAt cX7_settledAt 2 (some .int) 1 20 [.ref T0, .int a1] (u7 G T0 T1 T) (some (.int R0)) (u7 G T0 T1 T) := by
  refine KK_intro (own := RX7) (by decide +kernel) rfl (Nat.le_of_ble_eq_true rfl) rfl ?_
  intro p e s m args below meth c A C
  unfold m7_settledAt at h
  refine go_iload_n C dX7_settledAt_0 1 rfl ?_
  obtain ⟨r1, k2, h⟩ := tbd_e h
  refine go_callSN0 C cfX7_56 (wr8 _ (List.mem_of_getElem? (i := 10) rfl)) (m9_isPlace_k l G a1 r1 k2) dX7_settledAt_1 (by decide) ⟨Nat.zero_le _, Nat.zero_le _⟩ rfl rfl (Nat.le_of_ble_eq_true rfl) ?_
  refine go_if_eq (tgt := 16) C h dX7_settledAt_4 rfl (fun h => ?_) (fun h => ?_)
  · refine go_ldc (v := 1000000) C dX7_settledAt_16 (wr23 _ (List.mem_of_getElem? (i := 6) rfl)) ?_
    cases h
    exact go_iret C dX7_settledAt_18 rfl rfl
  · refine go_aload_n C dX7_settledAt_7 0 rfl ?_
    refine go_get (v := .ref T1) C ffX7_9 dX7_settledAt_8 0 rfl rfl ?_
    refine go_iload_n C dX7_settledAt_11 1 rfl ?_
    refine go_ialoadG (f := (g7_settled T)) C h dX7_settledAt_12 1 rfl (fun h => ?_)
    refine go_goto (tgt := 18) C dX7_settledAt_13 rfl ?_
    cases h
    exact go_iret C dX7_settledAt_18 rfl rfl

set_option maxRecDepth 100000 in
set_option maxHeartbeats 4000000 in
theorem m7_settleSteps_L56_k {p : Program} {l : Launch} {e : Env} {s : State} {m : MethodId} {args : Array Value} {below : List Frame} {meth : Method} {c : Code} {G : gG} {A : Nat → Prop} (C : Cx p e s m args meth c G RX7 cX7_settleSteps 9 none A) (T0 T1 Ob0 Ob1 Ob2 Ob3 Ob4 Ob5 : Nat) (T : SX7) (Ob : SX1) (x3 : Int32) (x4 : Int32) (x5 : Int32) (x7 : Int32) (R0 : SX7) (rc29 : Int32 × SX7 → Option (SX7)) (hr29 : ∀ (x5 : Int32) (Tz : SX7), rc29 (x5, Tz) = some R0 → Gq p l e (rq 2 45) s m args below meth c G A 9 0 0 (MQ below (QK G none (u7 G T0 T1 R0 ++ (u1 G Ob0 Ob1 Ob2 Ob3 Ob4 Ob5 Ob)) A) args s 0 0 A) 29 [(0, .ref T0), (3, .int x3), (4, .int x4), (5, .int x5)] [] (u7 G T0 T1 Tz ++ (u1 G Ob0 Ob1 Ob2 Ob3 Ob4 Ob5 Ob))) : ∀ (n : Nat) (x6 : Int32) (x8 : Int32), tit (m7_settleSteps_L56 T Ob x3 x4 x5 x7 rc29) n (x6, x8) = some R0 → Gq p l e (rq 2 45) s m args below meth c G A 9 0 0 (MQ below (QK G none (u7 G T0 T1 R0 ++ (u1 G Ob0 Ob1 Ob2 Ob3 Ob4 Ob5 Ob)) A) args s 0 0 A) 56 [(0, .ref T0), (3, .int x3), (4, .int x4), (5, .int x5), (6, .int x6), (7, .int x7), (8, .int x8)] [] (u7 G T0 T1 T ++ (u1 G Ob0 Ob1 Ob2 Ob3 Ob4 Ob5 Ob)) := by
  intro n
  induction n with
  | zero => exact fun _ _ h => (tit_z h).elim
  | succ n ih =>
    intro x6 x8 h
    replace h : m7_settleSteps_B56 T Ob x3 x4 x5 x7 rc29 (tit (m7_settleSteps_L56 T Ob x3 x4 x5 x7 rc29) n) x6 x8 = some R0 := h
    unfold m7_settleSteps_B56 at h
    refine go_iload C dX7_settleSteps_56 6 rfl ?_
    refine go_iload C dX7_settleSteps_58 5 rfl ?_
    refine go_icmp_gt (tgt := 93) C h dX7_settleSteps_60 rfl (fun h => ?_) (fun h => ?_)
    · refine go_aload_n C dX7_settleSteps_93 0 rfl ?_
      refine go_get (v := .ref T1) C ffX7_9 dX7_settleSteps_94 0 rfl rfl ?_
      refine go_iload C dX7_settleSteps_97 3 rfl ?_
      refine go_iload C dX7_settleSteps_99 4 rfl ?_
      refine go_iastoreG (f := (g7_settled T)) (w' := u7 G T0 T1 (s7_settled T (upd (g7_settled T) (Int32.toNatClampNeg x5) x6)) ++ (u1 G Ob0 Ob1 Ob2 Ob3 Ob4 Ob5 Ob)) C h dX7_settleSteps_101 1 rfl (setL (Nat.le_of_ble_eq_true rfl) z7_settled) (fun h => ?_)
      refine go_iincN (lf := fun v8 => [(5, .int v8), (0, .ref T0), (3, .int x3), (4, .int x4), (6, .int x6), (7, .int x7), (8, .int x8)]) C h dX7_settleSteps_102 3 rfl rfl (by decide) (fun _ => rfl) (fun v8 h => ?_)
      refine go_goto (tgt := 29) C dX7_settleSteps_105 rfl ?_
      exact go_lv [1, 2, 3, 0] rfl (hr29 v8 (s7_settled T (upd (g7_settled T) (Int32.toNatClampNeg x5) x6)) h)
    · refine go_iload_n C dX7_settleSteps_63 1 rfl ?_
      refine go_iload C dX7_settleSteps_64 6 rfl ?_
      obtain ⟨r9, k10, h⟩ := tbd_e h
      refine go_callS0 C cfX7_41 (wr23 _ (List.mem_of_getElem? (i := 17) rfl)) (m7_isOpen_k l G x3 x8 r9 k10) dX7_settleSteps_66 (by decide) ⟨Nat.zero_le _, Nat.zero_le _⟩ rfl rfl (Nat.le_of_ble_eq_true rfl) ?_
      refine go_if_eq (tgt := 87) C h dX7_settleSteps_69 rfl (fun h => ?_) (fun h => ?_)
      · refine go_iincN (lf := fun v11 => [(8, .int v11), (0, .ref T0), (3, .int x3), (4, .int x4), (5, .int x5), (6, .int x6), (7, .int x7)]) C h dX7_settleSteps_87 6 rfl rfl (by decide) (fun _ => rfl) (fun v11 h => ?_)
        refine go_goto (tgt := 56) C dX7_settleSteps_90 rfl ?_
        exact go_lv [1, 2, 3, 4, 5, 6, 0] rfl (ih x6 v11 h)
      · refine go_iload C dX7_settleSteps_72 4 rfl ?_
        refine go_aload_n C dX7_settleSteps_74 0 rfl ?_
        refine go_iload C dX7_settleSteps_75 6 rfl ?_
        obtain ⟨r12, k13, h⟩ := tbd_e h
        refine go_callV (q0 := 0) (wr := u1 G Ob0 Ob1 Ob2 Ob3 Ob4 Ob5 Ob) (w' := u7 G T0 T1 T ++ (u1 G Ob0 Ob1 Ob2 Ob3 Ob4 Ob5 Ob)) C cfX7_25 viX7_settledAt (m7_settledAt_k l G T0 T1 T x8 r12 k13) dX7_settleSteps_77 (by decide) ⟨Nat.zero_le _, Nat.zero_le _⟩ rfl rfl (Nat.le_of_ble_eq_true rfl) rfl [0, 1] [2, 3, 4, 5, 6, 7] [6, 7, 0, 1, 2, 3, 4, 5] rfl rfl (by decide) rfl ?_
        refine go_iconst (v := 1) C dX7_settleSteps_80 rfl ?_
        refine go_iadd C dX7_settleSteps_81 ?_
        refine go_mmin C cmX7_35 dX7_settleSteps_82 (by decide) (Nat.le_of_ble_eq_true rfl) (Nat.zero_le _) (Nat.zero_le _) ?_
        refine go_istoreN (lf := fun v14 => [(6, .int v14), (0, .ref T0), (3, .int x3), (4, .int x4), (5, .int x5), (7, .int x7), (8, .int x8)]) C h dX7_settleSteps_85 (by decide) (fun _ => rfl) (fun v14 h => ?_)
        refine go_iincN (lf := fun v15 => [(8, .int v15), (6, .int v14), (0, .ref T0), (3, .int x3), (4, .int x4), (5, .int x5), (7, .int x7)]) C h dX7_settleSteps_87 6 rfl rfl (by decide) (fun _ => rfl) (fun v15 h => ?_)
        refine go_goto (tgt := 56) C dX7_settleSteps_90 rfl ?_
        exact go_lv [2, 3, 4, 5, 1, 6, 0] rfl (ih v14 v15 h)

set_option maxRecDepth 100000 in
set_option maxHeartbeats 4000000 in
theorem m7_settleSteps_L29_k {p : Program} {l : Launch} {e : Env} {s : State} {m : MethodId} {args : Array Value} {below : List Frame} {meth : Method} {c : Code} {G : gG} {A : Nat → Prop} (C : Cx p e s m args meth c G RX7 cX7_settleSteps 9 none A) (T0 T1 Ob0 Ob1 Ob2 Ob3 Ob4 Ob5 : Nat) (Ob : SX1) (x3 : Int32) (x4 : Int32) (R0 : SX7)  : ∀ (n : Nat) (x5 : Int32) (T : SX7), tit (m7_settleSteps_L29 Ob x3 x4) n (x5, T) = some R0 → Gq p l e (rq 2 45) s m args below meth c G A 9 0 0 (MQ below (QK G none (u7 G T0 T1 R0 ++ (u1 G Ob0 Ob1 Ob2 Ob3 Ob4 Ob5 Ob)) A) args s 0 0 A) 29 [(0, .ref T0), (3, .int x3), (4, .int x4), (5, .int x5)] [] (u7 G T0 T1 T ++ (u1 G Ob0 Ob1 Ob2 Ob3 Ob4 Ob5 Ob)) := by
  intro n
  induction n with
  | zero => exact fun _ _ h => (tit_z h).elim
  | succ n ih =>
    intro x5 T h
    replace h : m7_settleSteps_B29 Ob x3 x4 (tit (m7_settleSteps_L29 Ob x3 x4) n) x5 T = some R0 := h
    unfold m7_settleSteps_B29 at h
    refine go_iload C dX7_settleSteps_29 3 rfl ?_
    refine go_if_lt (tgt := 108) C h dX7_settleSteps_31 rfl (fun h => ?_) (fun h => ?_)
    · cases h
      exact go_vret C dX7_settleSteps_108 rfl rfl
    · refine go_ldc (v := 1000000) C dX7_settleSteps_34 (wr23 _ (List.mem_of_getElem? (i := 6) rfl)) ?_
      refine go_istore (lv' := [(6, .int (1000000 : Int32)), (0, .ref T0), (3, .int x3), (4, .int x4), (5, .int x5)]) C dX7_settleSteps_36 (by decide) rfl ?_
      refine go_iload C dX7_settleSteps_38 4 rfl ?_
      refine go_iload C dX7_settleSteps_40 3 rfl ?_
      refine go_iadd C dX7_settleSteps_42 ?_
      refine go_bipush (v := 13) C dX7_settleSteps_43 rfl ?_
      refine go_mmin C cmX7_35 dX7_settleSteps_45 (by decide) (Nat.le_of_ble_eq_true rfl) (Nat.zero_le _) (Nat.zero_le _) ?_
      refine go_istoreN (lf := fun v6 => [(7, .int v6), (6, .int (1000000 : Int32)), (0, .ref T0), (3, .int x3), (4, .int x4), (5, .int x5)]) C h dX7_settleSteps_48 (by decide) (fun _ => rfl) (fun v6 h => ?_)
      refine go_iload C dX7_settleSteps_50 5 rfl ?_
      refine go_iconst (v := 1) C dX7_settleSteps_52 rfl ?_
      refine go_iadd C dX7_settleSteps_53 ?_
      refine go_istoreN (lf := fun v7 => [(8, .int v7), (7, .int v6), (6, .int (1000000 : Int32)), (0, .ref T0), (3, .int x3), (4, .int x4), (5, .int x5)]) C h dX7_settleSteps_54 (by decide) (fun _ => rfl) (fun v7 h => ?_)
      exact go_lv [3, 4, 5, 6, 2, 1, 0] rfl (m7_settleSteps_L56_k C T0 T1 Ob0 Ob1 Ob2 Ob3 Ob4 Ob5 T Ob x3 x4 x5 v6 R0 _ (fun z0 z1 h => ih z0 z1 h) FU (1000000 : Int32) v7 h)

set_option maxRecDepth 100000 in
set_option maxHeartbeats 4000000 in
theorem m7_settleSteps_k (l : Launch) (G : gG) (T0 T1 Ob0 Ob1 Ob2 Ob3 Ob4 Ob5 : Nat) (T : SX7) (Ob : SX1) (a2 : Int32) (R0 : SX7) (h : m7_settleSteps T Ob a2 = some R0) : KK l G yX7_settleSteps cX7_settleSteps 9 none 2 45 [.ref T0, .ref Ob0, .int a2] (u7 G T0 T1 T ++ (u1 G Ob0 Ob1 Ob2 Ob3 Ob4 Ob5 Ob)) none (u7 G T0 T1 R0 ++ (u1 G Ob0 Ob1 Ob2 Ob3 Ob4 Ob5 Ob)) := by
  refine KK_intro (own := RX7) (by decide +kernel) rfl (Nat.le_of_ble_eq_true rfl) rfl ?_
  intro p e s m args below meth c A C
  unfold m7_settleSteps at h
  refine go_aload_n C dX7_settleSteps_0 1 rfl ?_
  refine go_iload_n C dX7_settleSteps_1 2 rfl ?_
  obtain ⟨r1, k2, h⟩ := tbd_e h
  refine go_callV (q0 := 2) (wr := u7 G T0 T1 T) (w' := u7 G T0 T1 T ++ (u1 G Ob0 Ob1 Ob2 Ob3 Ob4 Ob5 Ob)) C cfX7_29 viX1_rungsOpenTo (m1_rungsOpenTo_k l G Ob0 Ob1 Ob2 Ob3 Ob4 Ob5 Ob a2 r1 k2) dX7_settleSteps_2 (by decide) ⟨Nat.zero_le _, Nat.zero_le _⟩ rfl rfl (Nat.le_of_ble_eq_true rfl) rfl [2, 3, 4, 5, 6, 7] [0, 1] [0, 1, 2, 3, 4, 5, 6, 7] rfl rfl (by decide) rfl ?_
  refine go_sipush (v := 4096) C dX7_settleSteps_5 rfl ?_
  refine go_ior C dX7_settleSteps_8 ?_
  refine go_istore_nN (lf := fun v3 => [(3, .int v3), (0, .ref T0), (1, .ref Ob0), (2, .int a2)]) C h dX7_settleSteps_9 (by decide) (fun _ => rfl) (fun v3 h => ?_)
  refine go_aload_n C dX7_settleSteps_10 2 rfl ?_
  refine go_iload_n C dX7_settleSteps_11 3 rfl ?_
  obtain ⟨r4, k5, h⟩ := tbd_e h
  refine go_callV (q0 := 2) (wr := u7 G T0 T1 T) (w' := u7 G T0 T1 T ++ (u1 G Ob0 Ob1 Ob2 Ob3 Ob4 Ob5 Ob)) C cfX7_32 viX1_strideOf (m1_strideOf_k l G Ob0 Ob1 Ob2 Ob3 Ob4 Ob5 Ob a2 r4 k5) dX7_settleSteps_12 (by decide) ⟨Nat.zero_le _, Nat.zero_le _⟩ rfl rfl (Nat.le_of_ble_eq_true rfl) rfl [2, 3, 4, 5, 6, 7] [0, 1] [0, 1, 2, 3, 4, 5, 6, 7] rfl rfl (by decide) rfl ?_
  refine go_istore (lv' := [(4, .int r4), (3, .int v3), (0, .ref T0), (1, .ref Ob0), (2, .int a2)]) C dX7_settleSteps_15 (by decide) rfl ?_
  refine go_aload_n C dX7_settleSteps_17 2 rfl ?_
  refine go_get (v := .ref T1) C ffX7_9 dX7_settleSteps_18 0 rfl rfl ?_
  refine go_bipush (v := 13) C dX7_settleSteps_21 rfl ?_
  refine go_iconst (v := 0) C dX7_settleSteps_23 rfl ?_
  refine go_iastore (f := (g7_settled T)) (w' := u7 G T0 T1 (s7_settled T (upd (g7_settled T) (Int32.toNatClampNeg (13 : Int32)) (0 : Int32))) ++ (u1 G Ob0 Ob1 Ob2 Ob3 Ob4 Ob5 Ob)) C dX7_settleSteps_24 1 rfl (by decide) (setL (Nat.le_of_ble_eq_true rfl) z7_settled) ?_
  refine go_bipush (v := 12) C dX7_settleSteps_25 rfl ?_
  refine go_istore (lv' := [(5, .int (12 : Int32)), (4, .int r4), (3, .int v3), (0, .ref T0), (1, .ref Ob0), (2, .int a2)]) C dX7_settleSteps_27 (by decide) rfl ?_
  exact go_lv [3, 2, 1, 0] rfl (m7_settleSteps_L29_k C T0 T1 Ob0 Ob1 Ob2 Ob3 Ob4 Ob5 Ob v3 r4 R0  FU (12 : Int32) (s7_settled T (upd (g7_settled T) (Int32.toNatClampNeg (13 : Int32)) (0 : Int32))) h)

