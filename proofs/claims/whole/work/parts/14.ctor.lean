theorem nwX4_9 : NW RX4 9 1 11 [.null, .null, .int 0, .null, .null, .null, .int 0, .int 0, .int 0, .int 0, .int 0] := ⟨RX1, TX1, tyX1, rfl, inlX1, tyX1_ok, wr4 _ (List.mem_of_getElem? (i := 8) rfl), wr1 _ (List.mem_of_getElem? (i := 13) rfl), wr1 _ (List.mem_of_getElem? (i := 14) rfl), fun j hj => by rcases (show j = 0 ∨ j = 1 ∨ j = 2 ∨ j = 3 ∨ j = 4 ∨ j = 5 ∨ j = 6 ∨ j = 7 ∨ j = 8 ∨ j = 9 ∨ j = 10 by omega) with rfl | rfl | rfl | rfl | rfl | rfl | rfl | rfl | rfl | rfl | rfl <;> rfl⟩
theorem cfX4_11 : CfB RX4 11 yX1_init cX1_init 1 none 0 := ⟨wr4 _ (List.mem_of_getElem? (i := 18) rfl), wr1 _ (List.mem_of_getElem? (i := 14) rfl), wr2 _ (List.mem_of_getElem? (i := 23) rfl), by decide +kernel⟩
theorem vnX1 : Cond.instanceMethod yX1_init ∈ wsL_law ∧ yX1_init.name = "<init>" := ⟨wr2 _ (List.mem_of_getElem? (i := 22) rfl), rfl⟩
theorem nwX4_18 : NW RX4 18 0 3 [.int 0, .int 0, .int 0] := ⟨RX0, TX0, tyX0, rfl, inlX0, tyX0_ok, wr4 _ (List.mem_of_getElem? (i := 10) rfl), wr1 _ (List.mem_of_getElem? (i := 21) rfl), wr1 _ (List.mem_of_getElem? (i := 22) rfl), fun j hj => by rcases (show j = 0 ∨ j = 1 ∨ j = 2 by omega) with rfl | rfl | rfl <;> rfl⟩
theorem cfX4_20 : CfN RX4 20 yX0_init cX0_init 1 none 0 := ⟨by decide +kernel, wr1 _ (List.mem_of_getElem? (i := 22) rfl), wr4 _ (List.mem_of_getElem? (i := 0) rfl), by decide +kernel⟩
theorem vnX0 : Cond.instanceMethod yX0_init ∈ wsL_law ∧ yX0_init.name = "<init>" := ⟨wr3 _ (List.mem_of_getElem? (i := 23) rfl), rfl⟩
theorem nwX9_9 : NW RX9 9 1 11 [.null, .null, .int 0, .null, .null, .null, .int 0, .int 0, .int 0, .int 0, .int 0] := ⟨RX1, TX1, tyX1, rfl, inlX1, tyX1_ok, wr1 _ (List.mem_of_getElem? (i := 12) rfl), wr1 _ (List.mem_of_getElem? (i := 13) rfl), wr1 _ (List.mem_of_getElem? (i := 14) rfl), fun j hj => by rcases (show j = 0 ∨ j = 1 ∨ j = 2 ∨ j = 3 ∨ j = 4 ∨ j = 5 ∨ j = 6 ∨ j = 7 ∨ j = 8 ∨ j = 9 ∨ j = 10 by omega) with rfl | rfl | rfl | rfl | rfl | rfl | rfl | rfl | rfl | rfl | rfl <;> rfl⟩
theorem cfX9_11 : CfB RX9 11 yX1_init cX1_init 1 none 0 := ⟨wr2 _ (List.mem_of_getElem? (i := 21) rfl), wr1 _ (List.mem_of_getElem? (i := 14) rfl), wr2 _ (List.mem_of_getElem? (i := 23) rfl), by decide +kernel⟩
theorem nwX9_16 : NW RX9 16 4 2 [.null, .int 0] := ⟨RX5, TX5, tyX5, rfl, inlX5, tyX5_ok, wr1 _ (List.mem_of_getElem? (i := 16) rfl), wr1 _ (List.mem_of_getElem? (i := 17) rfl), wr1 _ (List.mem_of_getElem? (i := 18) rfl), fun j hj => by rcases (show j = 0 ∨ j = 1 by omega) with rfl | rfl <;> rfl⟩
theorem cfX9_18 : CfN RX9 18 yX5_init cX5_init 1 none 0 := ⟨by decide +kernel, wr1 _ (List.mem_of_getElem? (i := 18) rfl), wr3 _ (List.mem_of_getElem? (i := 18) rfl), by decide +kernel⟩
theorem vnX5 : Cond.instanceMethod yX5_init ∈ wsL_law ∧ yX5_init.name = "<init>" := ⟨wr3 _ (List.mem_of_getElem? (i := 17) rfl), rfl⟩
theorem nwX9_23 : NW RX9 23 0 3 [.int 0, .int 0, .int 0] := ⟨RX0, TX0, tyX0, rfl, inlX0, tyX0_ok, wr1 _ (List.mem_of_getElem? (i := 20) rfl), wr1 _ (List.mem_of_getElem? (i := 21) rfl), wr1 _ (List.mem_of_getElem? (i := 22) rfl), fun j hj => by rcases (show j = 0 ∨ j = 1 ∨ j = 2 by omega) with rfl | rfl | rfl <;> rfl⟩
theorem cfX9_25 : CfN RX9 25 yX0_init cX0_init 1 none 0 := ⟨by decide +kernel, wr1 _ (List.mem_of_getElem? (i := 22) rfl), wr4 _ (List.mem_of_getElem? (i := 0) rfl), by decide +kernel⟩
theorem nwX9_30 : NW RX9 30 3 8 [.null, .null, .int 0, .int 0, .int 0, .int 0, .int 0, .int 0] := ⟨RX4, TX4, tyX4, rfl, inlX4, tyX4_ok, wr2 _ (List.mem_of_getElem? (i := 0) rfl), wr2 _ (List.mem_of_getElem? (i := 1) rfl), wr2 _ (List.mem_of_getElem? (i := 2) rfl), fun j hj => by rcases (show j = 0 ∨ j = 1 ∨ j = 2 ∨ j = 3 ∨ j = 4 ∨ j = 5 ∨ j = 6 ∨ j = 7 by omega) with rfl | rfl | rfl | rfl | rfl | rfl | rfl | rfl <;> rfl⟩
theorem cfX9_32 : CfN RX9 32 yX4_init cX4_init 1 none 0 := ⟨by decide +kernel, wr2 _ (List.mem_of_getElem? (i := 2) rfl), wr4 _ (List.mem_of_getElem? (i := 6) rfl), by decide +kernel⟩
theorem vnX4 : Cond.instanceMethod yX4_init ∈ wsL_law ∧ yX4_init.name = "<init>" := ⟨wr4 _ (List.mem_of_getElem? (i := 5) rfl), rfl⟩
theorem nwX9_37 : NW RX9 37 6 1 [.null] := ⟨RX7, TX7, tyX7, rfl, inlX7, tyX7_ok, wr2 _ (List.mem_of_getElem? (i := 4) rfl), wr2 _ (List.mem_of_getElem? (i := 5) rfl), wr2 _ (List.mem_of_getElem? (i := 6) rfl), fun j hj => by rcases (show j = 0 by omega) with rfl <;> rfl⟩
theorem cfX9_39 : CfN RX9 39 yX7_init cX7_init 1 none 0 := ⟨by decide +kernel, wr2 _ (List.mem_of_getElem? (i := 6) rfl), wr4 _ (List.mem_of_getElem? (i := 20) rfl), by decide +kernel⟩
theorem vnX7 : Cond.instanceMethod yX7_init ∈ wsL_law ∧ yX7_init.name = "<init>" := ⟨wr4 _ (List.mem_of_getElem? (i := 19) rfl), rfl⟩
theorem nwX9_44 : NW RX9 44 5 3 [.null, .null, .int 0] := ⟨RX6, TX6, tyX6, rfl, inlX6, tyX6_ok, wr2 _ (List.mem_of_getElem? (i := 8) rfl), wr2 _ (List.mem_of_getElem? (i := 9) rfl), wr2 _ (List.mem_of_getElem? (i := 10) rfl), fun j hj => by rcases (show j = 0 ∨ j = 1 ∨ j = 2 by omega) with rfl | rfl | rfl <;> rfl⟩
theorem cfX9_46 : CfN RX9 46 yX6_init cX6_init 1 none 0 := ⟨by decide +kernel, wr2 _ (List.mem_of_getElem? (i := 10) rfl), wr5 _ (List.mem_of_getElem? (i := 0) rfl), by decide +kernel⟩
theorem vnX6 : Cond.instanceMethod yX6_init ∈ wsL_law ∧ yX6_init.name = "<init>" := ⟨wr4 _ (List.mem_of_getElem? (i := 23) rfl), rfl⟩
theorem nwX9_51 : NW RX9 51 7 3 [.null, .null, .int 0] := ⟨RX8, TX8, tyX8, rfl, inlX8, tyX8_ok, wr2 _ (List.mem_of_getElem? (i := 12) rfl), wr2 _ (List.mem_of_getElem? (i := 13) rfl), wr2 _ (List.mem_of_getElem? (i := 14) rfl), fun j hj => by rcases (show j = 0 ∨ j = 1 ∨ j = 2 by omega) with rfl | rfl | rfl <;> rfl⟩
theorem cfX9_53 : CfN RX9 53 yX8_init cX8_init 1 none 0 := ⟨by decide +kernel, wr2 _ (List.mem_of_getElem? (i := 14) rfl), wr5 _ (List.mem_of_getElem? (i := 6) rfl), by decide +kernel⟩
theorem vnX8 : Cond.instanceMethod yX8_init ∈ wsL_law ∧ yX8_init.name = "<init>" := ⟨wr5 _ (List.mem_of_getElem? (i := 5) rfl), rfl⟩
theorem nwX9_58 : NW RX9 58 2 3 [.null, .long 0, .long 0] := ⟨RX3, TX3, tyX3, rfl, inlX3, tyX3_ok, wr2 _ (List.mem_of_getElem? (i := 16) rfl), wr2 _ (List.mem_of_getElem? (i := 17) rfl), wr2 _ (List.mem_of_getElem? (i := 18) rfl), fun j hj => by rcases (show j = 0 ∨ j = 1 ∨ j = 2 by omega) with rfl | rfl | rfl <;> rfl⟩
theorem cfX9_60 : CfN RX9 60 yX3_init cX3_init 1 none 0 := ⟨by decide +kernel, wr2 _ (List.mem_of_getElem? (i := 18) rfl), wr5 _ (List.mem_of_getElem? (i := 12) rfl), by decide +kernel⟩
theorem vnX3 : Cond.instanceMethod yX3_init ∈ wsL_law ∧ yX3_init.name = "<init>" := ⟨wr5 _ (List.mem_of_getElem? (i := 11) rfl), rfl⟩
set_option maxRecDepth 100000 in
set_option maxHeartbeats 4000000 in
theorem m10_init_L136_k {p : Program} {l : Launch} {e : Env} {s : State} {m : MethodId} {args : Array Value} {below : List Frame} {meth : Method} {c : Code} {G : gG} {A : Nat → Prop} (C : Cx p e s m args meth c G RX10 cX10_init 2 none A) (T0 T1 T2 T3 T4 T5 T6 T7 T8 T9 T10 T11 T12 : Nat)  (R0 : SX10)  : ∀ (n : Nat) (x1 : Int32) (T : SX10), tit (m10_init_L136) n (x1, T) = some R0 → Gq p l e (rqa 1 20 12 4526) s m args below meth c G A 2 12 4526 (MQ below (QA G none (fun (x : Nat × Nat × Nat × Nat × Nat × Nat × Nat × Nat × Nat × Nat × Nat × Nat) => u10 G T0 x.1 x.2.1 x.2.2.1 x.2.2.2.1 x.2.2.2.2.1 x.2.2.2.2.2.1 x.2.2.2.2.2.2.1 x.2.2.2.2.2.2.2.1 x.2.2.2.2.2.2.2.2.1 x.2.2.2.2.2.2.2.2.2.1 x.2.2.2.2.2.2.2.2.2.2.1 x.2.2.2.2.2.2.2.2.2.2.2 R0) A) args s 12 4526 A) 136 [(0, .ref T0), (1, .int x1)] [] (u10 G T0 T1 T2 T3 T4 T5 T6 T7 T8 T9 T10 T11 T12 T) := by
  intro n
  induction n with
  | zero => exact fun _ _ h => (tit_z h).elim
  | succ n ih =>
    intro x1 T h
    replace h : m10_init_B136 (tit (m10_init_L136) n) x1 T = some R0 := h
    unfold m10_init_B136 at h
    refine go_iload_n C dX10_init_136 1 rfl ?_
    refine go_bipush (v := 6) C dX10_init_137 rfl ?_
    refine go_icmp_ge (tgt := 168) C h dX10_init_139 rfl (fun h => ?_) (fun h => ?_)
    · cases h
      exact go_vretA C dX10_init_168 (T1, T2, T3, T4, T5, T6, T7, T8, T9, T10, T11, T12) rfl
    · refine go_aload_n C dX10_init_142 0 rfl ?_
      refine go_get (v := .ref T1) C ffX10_7 dX10_init_143 0 rfl rfl ?_
      refine go_bipush (v := 26) C dX10_init_146 rfl ?_
      refine go_iload_n C dX10_init_148 1 rfl ?_
      refine go_iadd C dX10_init_149 ?_
      refine go_iconst (v := 2) C dX10_init_150 rfl ?_
      refine go_iastoreG (f := (g10_book T)) (w' := u10 G T0 T1 T2 T3 T4 T5 T6 T7 T8 T9 T10 T11 T12 (s10_book T (upd (g10_book T) (Int32.toNatClampNeg ((26 : Int32) + x1)) (2 : Int32)))) C h dX10_init_151 1 rfl z10_book (fun h => ?_)
      refine go_aload_n C dX10_init_152 0 rfl ?_
      refine go_get (v := .ref T1) C ffX10_7 dX10_init_153 0 rfl rfl ?_
      refine go_bipush (v := 32) C dX10_init_156 rfl ?_
      refine go_iload_n C dX10_init_158 1 rfl ?_
      refine go_iadd C dX10_init_159 ?_
      refine go_iconst (v := 5) C dX10_init_160 rfl ?_
      refine go_iastoreG (f := (upd (g10_book T) (Int32.toNatClampNeg ((26 : Int32) + x1)) (2 : Int32))) (w' := u10 G T0 T1 T2 T3 T4 T5 T6 T7 T8 T9 T10 T11 T12 (s10_book T (upd (upd (g10_book T) (Int32.toNatClampNeg ((26 : Int32) + x1)) (2 : Int32)) (Int32.toNatClampNeg ((32 : Int32) + x1)) (5 : Int32)))) C h dX10_init_161 1 rfl z10_book (fun h => ?_)
      refine go_iincN (lf := fun v1 => [(1, .int v1), (0, .ref T0)]) C h dX10_init_162 1 rfl rfl (by decide) (fun _ => rfl) (fun v1 h => ?_)
      refine go_goto (tgt := 136) C dX10_init_165 rfl ?_
      exact go_lv [1, 0] rfl (ih v1 (s10_book T (upd (upd (g10_book T) (Int32.toNatClampNeg ((26 : Int32) + x1)) (2 : Int32)) (Int32.toNatClampNeg ((32 : Int32) + x1)) (5 : Int32))) h)

set_option maxRecDepth 100000 in
set_option maxHeartbeats 4000000 in
theorem m10_init_L103_k {p : Program} {l : Launch} {e : Env} {s : State} {m : MethodId} {args : Array Value} {below : List Frame} {meth : Method} {c : Code} {G : gG} {A : Nat → Prop} (C : Cx p e s m args meth c G RX10 cX10_init 2 none A) (T0 T1 T2 T3 T4 T5 T6 T7 T8 T9 T10 T11 T12 : Nat)  (R0 : SX10)  : ∀ (n : Nat) (x1 : Int32) (T : SX10), tit (m10_init_L103) n (x1, T) = some R0 → Gq p l e (rqa 1 20 12 4526) s m args below meth c G A 2 12 4526 (MQ below (QA G none (fun (x : Nat × Nat × Nat × Nat × Nat × Nat × Nat × Nat × Nat × Nat × Nat × Nat) => u10 G T0 x.1 x.2.1 x.2.2.1 x.2.2.2.1 x.2.2.2.2.1 x.2.2.2.2.2.1 x.2.2.2.2.2.2.1 x.2.2.2.2.2.2.2.1 x.2.2.2.2.2.2.2.2.1 x.2.2.2.2.2.2.2.2.2.1 x.2.2.2.2.2.2.2.2.2.2.1 x.2.2.2.2.2.2.2.2.2.2.2 R0) A) args s 12 4526 A) 103 [(0, .ref T0), (1, .int x1)] [] (u10 G T0 T1 T2 T3 T4 T5 T6 T7 T8 T9 T10 T11 T12 T) := by
  intro n
  induction n with
  | zero => exact fun _ _ h => (tit_z h).elim
  | succ n ih =>
    intro x1 T h
    replace h : m10_init_B103 (tit (m10_init_L103) n) x1 T = some R0 := h
    unfold m10_init_B103 at h
    refine go_iload_n C dX10_init_103 1 rfl ?_
    refine go_bipush (v := 13) C dX10_init_104 rfl ?_
    refine go_icmp_ge (tgt := 134) C h dX10_init_106 rfl (fun h => ?_) (fun h => ?_)
    · refine go_iconst (v := 0) C dX10_init_134 rfl ?_
      refine go_istore_n (lv' := [(1, .int (0 : Int32)), (0, .ref T0)]) C dX10_init_135 (by decide) rfl ?_
      exact go_lv [1, 0] rfl (m10_init_L136_k C T0 T1 T2 T3 T4 T5 T6 T7 T8 T9 T10 T11 T12  R0  FU (0 : Int32) T h)
    · refine go_aload_n C dX10_init_109 0 rfl ?_
      refine go_get (v := .ref T1) C ffX10_7 dX10_init_110 0 rfl rfl ?_
      refine go_iload_n C dX10_init_113 1 rfl ?_
      refine go_bipush (v := -6) C dX10_init_114 rfl ?_
      refine go_iastoreG (f := (g10_book T)) (w' := u10 G T0 T1 T2 T3 T4 T5 T6 T7 T8 T9 T10 T11 T12 (s10_book T (upd (g10_book T) (Int32.toNatClampNeg x1) (-6 : Int32)))) C h dX10_init_116 1 rfl z10_book (fun h => ?_)
      refine go_aload_n C dX10_init_117 0 rfl ?_
      refine go_get (v := .ref T1) C ffX10_7 dX10_init_118 0 rfl rfl ?_
      refine go_bipush (v := 13) C dX10_init_121 rfl ?_
      refine go_iload_n C dX10_init_123 1 rfl ?_
      refine go_iadd C dX10_init_124 ?_
      refine go_bipush (v := -6) C dX10_init_125 rfl ?_
      refine go_iastoreG (f := (upd (g10_book T) (Int32.toNatClampNeg x1) (-6 : Int32))) (w' := u10 G T0 T1 T2 T3 T4 T5 T6 T7 T8 T9 T10 T11 T12 (s10_book T (upd (upd (g10_book T) (Int32.toNatClampNeg x1) (-6 : Int32)) (Int32.toNatClampNeg ((13 : Int32) + x1)) (-6 : Int32)))) C h dX10_init_127 1 rfl z10_book (fun h => ?_)
      refine go_iincN (lf := fun v2 => [(1, .int v2), (0, .ref T0)]) C h dX10_init_128 1 rfl rfl (by decide) (fun _ => rfl) (fun v2 h => ?_)
      refine go_goto (tgt := 103) C dX10_init_131 rfl ?_
      exact go_lv [1, 0] rfl (ih v2 (s10_book T (upd (upd (g10_book T) (Int32.toNatClampNeg x1) (-6 : Int32)) (Int32.toNatClampNeg ((13 : Int32) + x1)) (-6 : Int32))) h)

set_option maxRecDepth 100000 in
set_option maxHeartbeats 4000000 in
theorem m10_init_J101_k {p : Program} {l : Launch} {e : Env} {s : State} {m : MethodId} {args : Array Value} {below : List Frame} {meth : Method} {c : Code} {G : gG} {A : Nat → Prop} (C : Cx p e s m args meth c G RX10 cX10_init 2 none A) (T0 T1 T2 T3 T4 T5 T6 T7 T8 T9 T10 T11 T12 : Nat) (T : SX10) (R0 : SX10)  (h : m10_init_J101 T = some R0) : Gq p l e (rqa 1 20 12 4526) s m args below meth c G A 2 12 4526 (MQ below (QA G none (fun (x : Nat × Nat × Nat × Nat × Nat × Nat × Nat × Nat × Nat × Nat × Nat × Nat) => u10 G T0 x.1 x.2.1 x.2.2.1 x.2.2.2.1 x.2.2.2.2.1 x.2.2.2.2.2.1 x.2.2.2.2.2.2.1 x.2.2.2.2.2.2.2.1 x.2.2.2.2.2.2.2.2.1 x.2.2.2.2.2.2.2.2.2.1 x.2.2.2.2.2.2.2.2.2.2.1 x.2.2.2.2.2.2.2.2.2.2.2 R0) A) args s 12 4526 A) 101 [(0, .ref T0)] [] (u10 G T0 T1 T2 T3 T4 T5 T6 T7 T8 T9 T10 T11 T12 T) := by
  unfold m10_init_J101 at h
  refine go_iconst (v := 0) C dX10_init_101 rfl ?_
  refine go_istore_n (lv' := [(1, .int (0 : Int32)), (0, .ref T0)]) C dX10_init_102 (by decide) rfl ?_
  exact go_lv [1, 0] rfl (m10_init_L103_k C T0 T1 T2 T3 T4 T5 T6 T7 T8 T9 T10 T11 T12  R0  FU (0 : Int32) T h)

set_option maxRecDepth 100000 in
set_option maxHeartbeats 4000000 in
theorem m0_init_k (l : Launch) (G : gG) (T0 : Nat) : KA l G yX0_init cX0_init 1 none 1 20 0 0 [.ref T0] [(T0, .inr (0, [.int 0, .int 0, .int 0]))] none (fun (_ : Unit) => u0 G T0 i0) := by
  refine KA_intro (own := RX0) (by decide +kernel) rfl (Nat.le_of_ble_eq_true rfl) rfl ?_
  intro p e s m args below meth c A C hin
  refine go_aload_n C dX0_init_0 0 rfl ?_
  refine go_objinit C (wr4 _ (List.mem_of_getElem? (i := 1) rfl)) dX0_init_1 (by decide) (Nat.le_of_ble_eq_true rfl) ?_
  refine go_aload_n C dX0_init_4 0 rfl ?_
  refine go_iconst (v := 4) C dX0_init_5 rfl ?_
  refine go_puti (w' := [(T0, .inr (0, [.int 4, .int 0, .int 0]))]) C fpX0_11 dX0_init_6 0 rfl (Nat.le_of_ble_eq_true rfl) rfl ?_
  refine go_aload_n C dX0_init_9 0 rfl ?_
  refine go_iconst (v := 0) C dX0_init_10 rfl ?_
  refine go_puti (w' := [(T0, .inr (0, [.int 4, .int 0, .int 0]))]) C fpX0_15 dX0_init_11 0 rfl (Nat.le_of_ble_eq_true rfl) rfl ?_
  refine go_aload_n C dX0_init_14 0 rfl ?_
  refine go_iconst (v := 0) C dX0_init_15 rfl ?_
  refine go_puti (w' := [(T0, .inr (0, [.int 4, .int 0, .int 0]))]) C fpX0_18 dX0_init_16 0 rfl (Nat.le_of_ble_eq_true rfl) rfl ?_
  refine go_widen (k := 0) (n := 0) (by decide) (by decide) ?_
  exact go_vretA C dX0_init_19 () rfl

set_option maxRecDepth 100000 in
set_option maxHeartbeats 4000000 in
theorem m1_init_k (l : Launch) (G : gG) (T0 : Nat) : KA l G yX1_init cX1_init 1 none 1 23 5 44 [.ref T0] [(T0, .inr (1, [.null, .null, .int 0, .null, .null, .null, .int 0, .int 0, .int 0, .int 0, .int 0]))] none (fun (x : Nat × Nat × Nat × Nat × Nat) => u1 G T0 x.1 x.2.1 x.2.2.1 x.2.2.2.1 x.2.2.2.2 i1) := by
  refine KA_intro (own := RX1) (by decide +kernel) rfl (Nat.le_of_ble_eq_true rfl) rfl ?_
  intro p e s m args below meth c A C hin
  refine go_aload_n C dX1_init_0 0 rfl ?_
  refine go_objinit C (wr3 _ (List.mem_of_getElem? (i := 0) rfl)) dX1_init_1 (by decide) (Nat.le_of_ble_eq_true rfl) ?_
  refine go_aload_n C dX1_init_4 0 rfl ?_
  refine go_bipush (v := 13) C dX1_init_5 rfl ?_
  refine go_newI (N := 13) C dX1_init_7 (by decide) (by decide) (by decide) (fun q1 => ?_)
  refine go_w (w' := [(T0, .inr (1, [.null, .null, .int 0, .null, .null, .null, .int 0, .int 0, .int 0, .int 0, .int 0]))] ++ ([(q1, .inl (gI G, 13, .inl (fun _ => 0)))])) rfl ?_
  refine go_putF (w' := [(T0, .inr (1, [.ref q1, .null, .int 0, .null, .null, .null, .int 0, .int 0, .int 0, .int 0, .int 0]))] ++ ([(q1, .inl (gI G, 13, .inl (fun _ => 0)))])) C fpX1_9 hin dX1_init_9 0 rfl ⟨rfl, rfl⟩ (Nat.le_of_ble_eq_true rfl) rfl ?_
  refine go_aload_n C dX1_init_12 0 rfl ?_
  refine go_bipush (v := 13) C dX1_init_13 rfl ?_
  refine go_newI (N := 13) C dX1_init_15 (by decide) (by decide) (by decide) (fun q2 => ?_)
  refine go_w (w' := [(T0, .inr (1, [.ref q1, .null, .int 0, .null, .null, .null, .int 0, .int 0, .int 0, .int 0, .int 0]))] ++ ([(q1, .inl (gI G, 13, .inl (fun _ => 0)))] ++ ([(q2, .inl (gI G, 13, .inl (fun _ => 0)))]))) rfl ?_
  refine go_putF (w' := [(T0, .inr (1, [.ref q1, .ref q2, .int 0, .null, .null, .null, .int 0, .int 0, .int 0, .int 0, .int 0]))] ++ ([(q1, .inl (gI G, 13, .inl (fun _ => 0)))] ++ ([(q2, .inl (gI G, 13, .inl (fun _ => 0)))]))) C fpX1_15 hin dX1_init_17 0 rfl ⟨rfl, rfl⟩ (Nat.le_of_ble_eq_true rfl) rfl ?_
  refine go_aload_n C dX1_init_20 0 rfl ?_
  refine go_iconst (v := 0) C dX1_init_21 rfl ?_
  refine go_puti (w' := [(T0, .inr (1, [.ref q1, .ref q2, .int 0, .null, .null, .null, .int 0, .int 0, .int 0, .int 0, .int 0]))] ++ ([(q1, .inl (gI G, 13, .inl (fun _ => 0)))] ++ ([(q2, .inl (gI G, 13, .inl (fun _ => 0)))]))) C fpX1_18 dX1_init_22 0 rfl (Nat.le_of_ble_eq_true rfl) rfl ?_
  refine go_aload_n C dX1_init_25 0 rfl ?_
  refine go_bipush (v := 6) C dX1_init_26 rfl ?_
  refine go_newI (N := 6) C dX1_init_28 (by decide) (by decide) (by decide) (fun q3 => ?_)
  refine go_w (w' := [(T0, .inr (1, [.ref q1, .ref q2, .int 0, .null, .null, .null, .int 0, .int 0, .int 0, .int 0, .int 0]))] ++ ([(q1, .inl (gI G, 13, .inl (fun _ => 0)))] ++ ([(q2, .inl (gI G, 13, .inl (fun _ => 0)))] ++ ([(q3, .inl (gI G, 6, .inl (fun _ => 0)))])))) rfl ?_
  refine go_putF (w' := [(T0, .inr (1, [.ref q1, .ref q2, .int 0, .ref q3, .null, .null, .int 0, .int 0, .int 0, .int 0, .int 0]))] ++ ([(q1, .inl (gI G, 13, .inl (fun _ => 0)))] ++ ([(q2, .inl (gI G, 13, .inl (fun _ => 0)))] ++ ([(q3, .inl (gI G, 6, .inl (fun _ => 0)))])))) C fpX1_22 hin dX1_init_30 0 rfl ⟨rfl, rfl⟩ (Nat.le_of_ble_eq_true rfl) rfl ?_
  refine go_aload_n C dX1_init_33 0 rfl ?_
  refine go_bipush (v := 6) C dX1_init_34 rfl ?_
  refine go_newI (N := 6) C dX1_init_36 (by decide) (by decide) (by decide) (fun q4 => ?_)
  refine go_w (w' := [(T0, .inr (1, [.ref q1, .ref q2, .int 0, .ref q3, .null, .null, .int 0, .int 0, .int 0, .int 0, .int 0]))] ++ ([(q1, .inl (gI G, 13, .inl (fun _ => 0)))] ++ ([(q2, .inl (gI G, 13, .inl (fun _ => 0)))] ++ ([(q3, .inl (gI G, 6, .inl (fun _ => 0)))] ++ ([(q4, .inl (gI G, 6, .inl (fun _ => 0)))]))))) rfl ?_
  refine go_putF (w' := [(T0, .inr (1, [.ref q1, .ref q2, .int 0, .ref q3, .ref q4, .null, .int 0, .int 0, .int 0, .int 0, .int 0]))] ++ ([(q1, .inl (gI G, 13, .inl (fun _ => 0)))] ++ ([(q2, .inl (gI G, 13, .inl (fun _ => 0)))] ++ ([(q3, .inl (gI G, 6, .inl (fun _ => 0)))] ++ ([(q4, .inl (gI G, 6, .inl (fun _ => 0)))]))))) C fpX1_25 hin dX1_init_38 0 rfl ⟨rfl, rfl⟩ (Nat.le_of_ble_eq_true rfl) rfl ?_
  refine go_aload_n C dX1_init_41 0 rfl ?_
  refine go_bipush (v := 6) C dX1_init_42 rfl ?_
  refine go_newI (N := 6) C dX1_init_44 (by decide) (by decide) (by decide) (fun q5 => ?_)
  refine go_w (w' := [(T0, .inr (1, [.ref q1, .ref q2, .int 0, .ref q3, .ref q4, .null, .int 0, .int 0, .int 0, .int 0, .int 0]))] ++ ([(q1, .inl (gI G, 13, .inl (fun _ => 0)))] ++ ([(q2, .inl (gI G, 13, .inl (fun _ => 0)))] ++ ([(q3, .inl (gI G, 6, .inl (fun _ => 0)))] ++ ([(q4, .inl (gI G, 6, .inl (fun _ => 0)))] ++ ([(q5, .inl (gI G, 6, .inl (fun _ => 0)))])))))) rfl ?_
  refine go_putF (w' := [(T0, .inr (1, [.ref q1, .ref q2, .int 0, .ref q3, .ref q4, .ref q5, .int 0, .int 0, .int 0, .int 0, .int 0]))] ++ ([(q1, .inl (gI G, 13, .inl (fun _ => 0)))] ++ ([(q2, .inl (gI G, 13, .inl (fun _ => 0)))] ++ ([(q3, .inl (gI G, 6, .inl (fun _ => 0)))] ++ ([(q4, .inl (gI G, 6, .inl (fun _ => 0)))] ++ ([(q5, .inl (gI G, 6, .inl (fun _ => 0)))])))))) C fpX1_28 hin dX1_init_46 0 rfl ⟨rfl, rfl⟩ (Nat.le_of_ble_eq_true rfl) rfl ?_
  refine go_aload_n C dX1_init_49 0 rfl ?_
  refine go_iconst (v := 0) C dX1_init_50 rfl ?_
  refine go_puti (w' := [(T0, .inr (1, [.ref q1, .ref q2, .int 0, .ref q3, .ref q4, .ref q5, .int 0, .int 0, .int 0, .int 0, .int 0]))] ++ ([(q1, .inl (gI G, 13, .inl (fun _ => 0)))] ++ ([(q2, .inl (gI G, 13, .inl (fun _ => 0)))] ++ ([(q3, .inl (gI G, 6, .inl (fun _ => 0)))] ++ ([(q4, .inl (gI G, 6, .inl (fun _ => 0)))] ++ ([(q5, .inl (gI G, 6, .inl (fun _ => 0)))])))))) C fpX1_31 dX1_init_51 0 rfl (Nat.le_of_ble_eq_true rfl) rfl ?_
  refine go_aload_n C dX1_init_54 0 rfl ?_
  refine go_iconst (v := 0) C dX1_init_55 rfl ?_
  refine go_puti (w' := [(T0, .inr (1, [.ref q1, .ref q2, .int 0, .ref q3, .ref q4, .ref q5, .int 0, .int 0, .int 0, .int 0, .int 0]))] ++ ([(q1, .inl (gI G, 13, .inl (fun _ => 0)))] ++ ([(q2, .inl (gI G, 13, .inl (fun _ => 0)))] ++ ([(q3, .inl (gI G, 6, .inl (fun _ => 0)))] ++ ([(q4, .inl (gI G, 6, .inl (fun _ => 0)))] ++ ([(q5, .inl (gI G, 6, .inl (fun _ => 0)))])))))) C fpX1_34 dX1_init_56 0 rfl (Nat.le_of_ble_eq_true rfl) rfl ?_
  refine go_aload_n C dX1_init_59 0 rfl ?_
  refine go_iconst (v := 0) C dX1_init_60 rfl ?_
  refine go_puti (w' := [(T0, .inr (1, [.ref q1, .ref q2, .int 0, .ref q3, .ref q4, .ref q5, .int 0, .int 0, .int 0, .int 0, .int 0]))] ++ ([(q1, .inl (gI G, 13, .inl (fun _ => 0)))] ++ ([(q2, .inl (gI G, 13, .inl (fun _ => 0)))] ++ ([(q3, .inl (gI G, 6, .inl (fun _ => 0)))] ++ ([(q4, .inl (gI G, 6, .inl (fun _ => 0)))] ++ ([(q5, .inl (gI G, 6, .inl (fun _ => 0)))])))))) C fpX1_37 dX1_init_61 0 rfl (Nat.le_of_ble_eq_true rfl) rfl ?_
  refine go_aload_n C dX1_init_64 0 rfl ?_
  refine go_iconst (v := 0) C dX1_init_65 rfl ?_
  refine go_puti (w' := [(T0, .inr (1, [.ref q1, .ref q2, .int 0, .ref q3, .ref q4, .ref q5, .int 0, .int 0, .int 0, .int 0, .int 0]))] ++ ([(q1, .inl (gI G, 13, .inl (fun _ => 0)))] ++ ([(q2, .inl (gI G, 13, .inl (fun _ => 0)))] ++ ([(q3, .inl (gI G, 6, .inl (fun _ => 0)))] ++ ([(q4, .inl (gI G, 6, .inl (fun _ => 0)))] ++ ([(q5, .inl (gI G, 6, .inl (fun _ => 0)))])))))) C fpX1_40 dX1_init_66 0 rfl (Nat.le_of_ble_eq_true rfl) rfl ?_
  refine go_aload_n C dX1_init_69 0 rfl ?_
  refine go_iconst (v := 0) C dX1_init_70 rfl ?_
  refine go_puti (w' := [(T0, .inr (1, [.ref q1, .ref q2, .int 0, .ref q3, .ref q4, .ref q5, .int 0, .int 0, .int 0, .int 0, .int 0]))] ++ ([(q1, .inl (gI G, 13, .inl (fun _ => 0)))] ++ ([(q2, .inl (gI G, 13, .inl (fun _ => 0)))] ++ ([(q3, .inl (gI G, 6, .inl (fun _ => 0)))] ++ ([(q4, .inl (gI G, 6, .inl (fun _ => 0)))] ++ ([(q5, .inl (gI G, 6, .inl (fun _ => 0)))])))))) C fpX1_43 dX1_init_71 0 rfl (Nat.le_of_ble_eq_true rfl) rfl ?_
  refine go_aload_n C dX1_init_74 0 rfl ?_
  refine go_get (v := .ref q1) C ffX1_9 dX1_init_75 0 rfl rfl ?_
  refine go_iconst (v := -1) C dX1_init_78 rfl ?_
  refine go_callS (wr := [(T0, .inr (1, [.ref q1, .ref q2, .int 0, .ref q3, .ref q4, .ref q5, .int 0, .int 0, .int 0, .int 0, .int 0]))] ++ ([(q2, .inl (gI G, 13, .inl (fun _ => 0)))] ++ ([(q3, .inl (gI G, 6, .inl (fun _ => 0)))] ++ ([(q4, .inl (gI G, 6, .inl (fun _ => 0)))] ++ ([(q5, .inl (gI G, 6, .inl (fun _ => 0)))]))))) (w' := [(T0, .inr (1, [.ref q1, .ref q2, .int 0, .ref q3, .ref q4, .ref q5, .int 0, .int 0, .int 0, .int 0, .int 0]))] ++ ([(q1, .inl (gI G, 13, .inl (ifl 13 (-1))))] ++ ([(q2, .inl (gI G, 13, .inl (fun _ => 0)))] ++ ([(q3, .inl (gI G, 6, .inl (fun _ => 0)))] ++ ([(q4, .inl (gI G, 6, .inl (fun _ => 0)))] ++ ([(q5, .inl (gI G, 6, .inl (fun _ => 0)))])))))) C cfX1_46 (wr3 _ (List.mem_of_getElem? (i := 14) rfl)) (fill_k l G q1 13 (by decide) (fun _ => 0) (-1)) dX1_init_79 (by decide) ⟨by decide, by decide⟩ rfl rfl (Nat.le_of_ble_eq_true rfl) [1] [0, 2, 3, 4, 5] [0, 5, 1, 2, 3, 4] rfl rfl (by decide) rfl ?_
  refine go_aload_n C dX1_init_82 0 rfl ?_
  refine go_get (v := .ref q2) C ffX1_15 dX1_init_83 0 rfl rfl ?_
  refine go_iconst (v := -1) C dX1_init_86 rfl ?_
  refine go_callS (wr := [(T0, .inr (1, [.ref q1, .ref q2, .int 0, .ref q3, .ref q4, .ref q5, .int 0, .int 0, .int 0, .int 0, .int 0]))] ++ ([(q1, .inl (gI G, 13, .inl (ifl 13 (-1))))] ++ ([(q3, .inl (gI G, 6, .inl (fun _ => 0)))] ++ ([(q4, .inl (gI G, 6, .inl (fun _ => 0)))] ++ ([(q5, .inl (gI G, 6, .inl (fun _ => 0)))]))))) (w' := [(T0, .inr (1, [.ref q1, .ref q2, .int 0, .ref q3, .ref q4, .ref q5, .int 0, .int 0, .int 0, .int 0, .int 0]))] ++ ([(q1, .inl (gI G, 13, .inl (ifl 13 (-1))))] ++ ([(q2, .inl (gI G, 13, .inl (ifl 13 (-1))))] ++ ([(q3, .inl (gI G, 6, .inl (fun _ => 0)))] ++ ([(q4, .inl (gI G, 6, .inl (fun _ => 0)))] ++ ([(q5, .inl (gI G, 6, .inl (fun _ => 0)))])))))) C cfX1_46 (wr3 _ (List.mem_of_getElem? (i := 14) rfl)) (fill_k l G q2 13 (by decide) (fun _ => 0) (-1)) dX1_init_87 (by decide) ⟨by decide, by decide⟩ rfl rfl (Nat.le_of_ble_eq_true rfl) [2] [0, 1, 3, 4, 5] [0, 1, 5, 2, 3, 4] rfl rfl (by decide) rfl ?_
  refine go_aload_n C dX1_init_90 0 rfl ?_
  refine go_get (v := .ref q3) C ffX1_22 dX1_init_91 0 rfl rfl ?_
  refine go_iconst (v := 2) C dX1_init_94 rfl ?_
  refine go_callS (wr := [(T0, .inr (1, [.ref q1, .ref q2, .int 0, .ref q3, .ref q4, .ref q5, .int 0, .int 0, .int 0, .int 0, .int 0]))] ++ ([(q1, .inl (gI G, 13, .inl (ifl 13 (-1))))] ++ ([(q2, .inl (gI G, 13, .inl (ifl 13 (-1))))] ++ ([(q4, .inl (gI G, 6, .inl (fun _ => 0)))] ++ ([(q5, .inl (gI G, 6, .inl (fun _ => 0)))]))))) (w' := [(T0, .inr (1, [.ref q1, .ref q2, .int 0, .ref q3, .ref q4, .ref q5, .int 0, .int 0, .int 0, .int 0, .int 0]))] ++ ([(q1, .inl (gI G, 13, .inl (ifl 13 (-1))))] ++ ([(q2, .inl (gI G, 13, .inl (ifl 13 (-1))))] ++ ([(q3, .inl (gI G, 6, .inl (ifl 6 2)))] ++ ([(q4, .inl (gI G, 6, .inl (fun _ => 0)))] ++ ([(q5, .inl (gI G, 6, .inl (fun _ => 0)))])))))) C cfX1_46 (wr3 _ (List.mem_of_getElem? (i := 14) rfl)) (fill_k l G q3 6 (by decide) (fun _ => 0) 2) dX1_init_95 (by decide) ⟨by decide, by decide⟩ rfl rfl (Nat.le_of_ble_eq_true rfl) [3] [0, 1, 2, 4, 5] [0, 1, 2, 5, 3, 4] rfl rfl (by decide) rfl ?_
  refine go_aload_n C dX1_init_98 0 rfl ?_
  refine go_get (v := .ref q4) C ffX1_25 dX1_init_99 0 rfl rfl ?_
  refine go_iconst (v := 5) C dX1_init_102 rfl ?_
  refine go_callS (wr := [(T0, .inr (1, [.ref q1, .ref q2, .int 0, .ref q3, .ref q4, .ref q5, .int 0, .int 0, .int 0, .int 0, .int 0]))] ++ ([(q1, .inl (gI G, 13, .inl (ifl 13 (-1))))] ++ ([(q2, .inl (gI G, 13, .inl (ifl 13 (-1))))] ++ ([(q3, .inl (gI G, 6, .inl (ifl 6 2)))] ++ ([(q5, .inl (gI G, 6, .inl (fun _ => 0)))]))))) (w' := [(T0, .inr (1, [.ref q1, .ref q2, .int 0, .ref q3, .ref q4, .ref q5, .int 0, .int 0, .int 0, .int 0, .int 0]))] ++ ([(q1, .inl (gI G, 13, .inl (ifl 13 (-1))))] ++ ([(q2, .inl (gI G, 13, .inl (ifl 13 (-1))))] ++ ([(q3, .inl (gI G, 6, .inl (ifl 6 2)))] ++ ([(q4, .inl (gI G, 6, .inl (ifl 6 5)))] ++ ([(q5, .inl (gI G, 6, .inl (fun _ => 0)))])))))) C cfX1_46 (wr3 _ (List.mem_of_getElem? (i := 14) rfl)) (fill_k l G q4 6 (by decide) (fun _ => 0) 5) dX1_init_103 (by decide) ⟨by decide, by decide⟩ rfl rfl (Nat.le_of_ble_eq_true rfl) [4] [0, 1, 2, 3, 5] [0, 1, 2, 3, 5, 4] rfl rfl (by decide) rfl ?_
  refine go_widen (k := 5) (n := 44) (by decide) (by decide) ?_
  exact go_vretA C dX1_init_106 (q1, q2, q3, q4, q5) rfl

set_option maxRecDepth 100000 in
set_option maxHeartbeats 4000000 in
theorem m3_init_k (l : Launch) (G : gG) (T0 : Nat) : KA l G yX3_init cX3_init 1 none 1 20 1 13 [.ref T0] [(T0, .inr (2, [.null, .long 0, .long 0]))] none (fun (x : Nat) => u3 G T0 x i3) := by
  refine KA_intro (own := RX3) (by decide +kernel) rfl (Nat.le_of_ble_eq_true rfl) rfl ?_
  intro p e s m args below meth c A C hin
  refine go_aload_n C dX3_init_0 0 rfl ?_
  refine go_objinit C (wr5 _ (List.mem_of_getElem? (i := 13) rfl)) dX3_init_1 (by decide) (Nat.le_of_ble_eq_true rfl) ?_
  refine go_aload_n C dX3_init_4 0 rfl ?_
  refine go_bipush (v := 13) C dX3_init_5 rfl ?_
  refine go_newJ (N := 13) C dX3_init_7 (by decide) (by decide) (by decide) (fun q1 => ?_)
  refine go_w (w' := [(T0, .inr (2, [.null, .long 0, .long 0]))] ++ ([(q1, .inl (gJ G, 13, .inr (.inl (fun _ => 0))))])) rfl ?_
  refine go_putF (w' := [(T0, .inr (2, [.ref q1, .long 0, .long 0]))] ++ ([(q1, .inl (gJ G, 13, .inr (.inl (fun _ => 0))))])) C fpX3_9 hin dX3_init_9 0 rfl ⟨rfl, rfl⟩ (Nat.le_of_ble_eq_true rfl) rfl ?_
  refine go_aload_n C dX3_init_12 0 rfl ?_
  refine go_lconst (v := 0) C dX3_init_13 rfl ?_
  refine go_putl (w' := [(T0, .inr (2, [.ref q1, .long 0, .long 0]))] ++ ([(q1, .inl (gJ G, 13, .inr (.inl (fun _ => 0))))])) C fpX3_15 dX3_init_14 0 rfl (Nat.le_of_ble_eq_true rfl) rfl ?_
  refine go_aload_n C dX3_init_17 0 rfl ?_
  refine go_lconst (v := 1) C dX3_init_18 rfl ?_
  refine go_putl (w' := [(T0, .inr (2, [.ref q1, .long 0, .long 1]))] ++ ([(q1, .inl (gJ G, 13, .inr (.inl (fun _ => 0))))])) C fpX3_19 dX3_init_19 0 rfl (Nat.le_of_ble_eq_true rfl) rfl ?_
  refine go_widen (k := 1) (n := 13) (by decide) (by decide) ?_
  exact go_vretA C dX3_init_22 q1 rfl

set_option maxRecDepth 100000 in
set_option maxHeartbeats 4000000 in
theorem m5_init_k (l : Launch) (G : gG) (T0 : Nat) : KA l G yX5_init cX5_init 1 none 1 20 1 60 [.ref T0] [(T0, .inr (4, [.null, .int 0]))] none (fun (x : Nat) => u5 G T0 x i5) := by
  refine KA_intro (own := RX5) (by decide +kernel) rfl (Nat.le_of_ble_eq_true rfl) rfl ?_
  intro p e s m args below meth c A C hin
  refine go_aload_n C dX5_init_0 0 rfl ?_
  refine go_objinit C (wr3 _ (List.mem_of_getElem? (i := 19) rfl)) dX5_init_1 (by decide) (Nat.le_of_ble_eq_true rfl) ?_
  refine go_aload_n C dX5_init_4 0 rfl ?_
  refine go_bipush (v := 60) C dX5_init_5 rfl ?_
  refine go_newC (N := 60) C dX5_init_7 (by decide) (by decide) (by decide) (fun q1 => ?_)
  refine go_w (w' := [(T0, .inr (4, [.null, .int 0]))] ++ ([(q1, .inl (gC G, 60, .inl (fun _ => 0)))])) rfl ?_
  refine go_putF (w' := [(T0, .inr (4, [.ref q1, .int 0]))] ++ ([(q1, .inl (gC G, 60, .inl (fun _ => 0)))])) C fpX5_9 hin dX5_init_9 0 rfl ⟨rfl, rfl⟩ (Nat.le_of_ble_eq_true rfl) rfl ?_
  refine go_aload_n C dX5_init_12 0 rfl ?_
  refine go_iconst (v := 0) C dX5_init_13 rfl ?_
  refine go_puti (w' := [(T0, .inr (4, [.ref q1, .int 0]))] ++ ([(q1, .inl (gC G, 60, .inl (fun _ => 0)))])) C fpX5_15 dX5_init_14 0 rfl (Nat.le_of_ble_eq_true rfl) rfl ?_
  refine go_widen (k := 1) (n := 60) (by decide) (by decide) ?_
  exact go_vretA C dX5_init_17 q1 rfl

set_option maxRecDepth 100000 in
set_option maxHeartbeats 4000000 in
theorem m6_init_k (l : Launch) (G : gG) (T0 : Nat) : KA l G yX6_init cX6_init 1 none 1 20 2 12 [.ref T0] [(T0, .inr (5, [.null, .null, .int 0]))] none (fun (x : Nat × Nat) => u6 G T0 x.1 x.2 i6) := by
  refine KA_intro (own := RX6) (by decide +kernel) rfl (Nat.le_of_ble_eq_true rfl) rfl ?_
  intro p e s m args below meth c A C hin
  refine go_aload_n C dX6_init_0 0 rfl ?_
  refine go_objinit C (wr5 _ (List.mem_of_getElem? (i := 1) rfl)) dX6_init_1 (by decide) (Nat.le_of_ble_eq_true rfl) ?_
  refine go_aload_n C dX6_init_4 0 rfl ?_
  refine go_bipush (v := 6) C dX6_init_5 rfl ?_
  refine go_newI (N := 6) C dX6_init_7 (by decide) (by decide) (by decide) (fun q1 => ?_)
  refine go_w (w' := [(T0, .inr (5, [.null, .null, .int 0]))] ++ ([(q1, .inl (gI G, 6, .inl (fun _ => 0)))])) rfl ?_
  refine go_putF (w' := [(T0, .inr (5, [.ref q1, .null, .int 0]))] ++ ([(q1, .inl (gI G, 6, .inl (fun _ => 0)))])) C fpX6_9 hin dX6_init_9 0 rfl ⟨rfl, rfl⟩ (Nat.le_of_ble_eq_true rfl) rfl ?_
  refine go_aload_n C dX6_init_12 0 rfl ?_
  refine go_bipush (v := 6) C dX6_init_13 rfl ?_
  refine go_newI (N := 6) C dX6_init_15 (by decide) (by decide) (by decide) (fun q2 => ?_)
  refine go_w (w' := [(T0, .inr (5, [.ref q1, .null, .int 0]))] ++ ([(q1, .inl (gI G, 6, .inl (fun _ => 0)))] ++ ([(q2, .inl (gI G, 6, .inl (fun _ => 0)))]))) rfl ?_
  refine go_putF (w' := [(T0, .inr (5, [.ref q1, .ref q2, .int 0]))] ++ ([(q1, .inl (gI G, 6, .inl (fun _ => 0)))] ++ ([(q2, .inl (gI G, 6, .inl (fun _ => 0)))]))) C fpX6_15 hin dX6_init_17 0 rfl ⟨rfl, rfl⟩ (Nat.le_of_ble_eq_true rfl) rfl ?_
  refine go_aload_n C dX6_init_20 0 rfl ?_
  refine go_iconst (v := 0) C dX6_init_21 rfl ?_
  refine go_puti (w' := [(T0, .inr (5, [.ref q1, .ref q2, .int 0]))] ++ ([(q1, .inl (gI G, 6, .inl (fun _ => 0)))] ++ ([(q2, .inl (gI G, 6, .inl (fun _ => 0)))]))) C fpX6_18 dX6_init_22 0 rfl (Nat.le_of_ble_eq_true rfl) rfl ?_
  refine go_widen (k := 2) (n := 12) (by decide) (by decide) ?_
  exact go_vretA C dX6_init_25 (q1, q2) rfl

set_option maxRecDepth 100000 in
set_option maxHeartbeats 4000000 in
theorem m7_init_k (l : Launch) (G : gG) (T0 : Nat) : KA l G yX7_init cX7_init 1 none 1 20 1 14 [.ref T0] [(T0, .inr (6, [.null]))] none (fun (x : Nat) => u7 G T0 x i7) := by
  refine KA_intro (own := RX7) (by decide +kernel) rfl (Nat.le_of_ble_eq_true rfl) rfl ?_
  intro p e s m args below meth c A C hin
  refine go_aload_n C dX7_init_0 0 rfl ?_
  refine go_objinit C (wr4 _ (List.mem_of_getElem? (i := 21) rfl)) dX7_init_1 (by decide) (Nat.le_of_ble_eq_true rfl) ?_
  refine go_aload_n C dX7_init_4 0 rfl ?_
  refine go_bipush (v := 14) C dX7_init_5 rfl ?_
  refine go_newI (N := 14) C dX7_init_7 (by decide) (by decide) (by decide) (fun q1 => ?_)
  refine go_w (w' := [(T0, .inr (6, [.null]))] ++ ([(q1, .inl (gI G, 14, .inl (fun _ => 0)))])) rfl ?_
  refine go_putF (w' := [(T0, .inr (6, [.ref q1]))] ++ ([(q1, .inl (gI G, 14, .inl (fun _ => 0)))])) C fpX7_9 hin dX7_init_9 0 rfl ⟨rfl, rfl⟩ (Nat.le_of_ble_eq_true rfl) rfl ?_
  refine go_widen (k := 1) (n := 14) (by decide) (by decide) ?_
  exact go_vretA C dX7_init_12 q1 rfl

set_option maxRecDepth 100000 in
set_option maxHeartbeats 4000000 in
theorem m8_init_k (l : Launch) (G : gG) (T0 : Nat) : KA l G yX8_init cX8_init 1 none 1 20 2 24 [.ref T0] [(T0, .inr (7, [.null, .null, .int 0]))] none (fun (x : Nat × Nat) => u8 G T0 x.1 x.2 i8) := by
  refine KA_intro (own := RX8) (by decide +kernel) rfl (Nat.le_of_ble_eq_true rfl) rfl ?_
  intro p e s m args below meth c A C hin
  refine go_aload_n C dX8_init_0 0 rfl ?_
  refine go_objinit C (wr5 _ (List.mem_of_getElem? (i := 7) rfl)) dX8_init_1 (by decide) (Nat.le_of_ble_eq_true rfl) ?_
  refine go_aload_n C dX8_init_4 0 rfl ?_
  refine go_bipush (v := 12) C dX8_init_5 rfl ?_
  refine go_newI (N := 12) C dX8_init_7 (by decide) (by decide) (by decide) (fun q1 => ?_)
  refine go_w (w' := [(T0, .inr (7, [.null, .null, .int 0]))] ++ ([(q1, .inl (gI G, 12, .inl (fun _ => 0)))])) rfl ?_
  refine go_putF (w' := [(T0, .inr (7, [.ref q1, .null, .int 0]))] ++ ([(q1, .inl (gI G, 12, .inl (fun _ => 0)))])) C fpX8_9 hin dX8_init_9 0 rfl ⟨rfl, rfl⟩ (Nat.le_of_ble_eq_true rfl) rfl ?_
  refine go_aload_n C dX8_init_12 0 rfl ?_
  refine go_bipush (v := 12) C dX8_init_13 rfl ?_
  refine go_newI (N := 12) C dX8_init_15 (by decide) (by decide) (by decide) (fun q2 => ?_)
  refine go_w (w' := [(T0, .inr (7, [.ref q1, .null, .int 0]))] ++ ([(q1, .inl (gI G, 12, .inl (fun _ => 0)))] ++ ([(q2, .inl (gI G, 12, .inl (fun _ => 0)))]))) rfl ?_
  refine go_putF (w' := [(T0, .inr (7, [.ref q1, .ref q2, .int 0]))] ++ ([(q1, .inl (gI G, 12, .inl (fun _ => 0)))] ++ ([(q2, .inl (gI G, 12, .inl (fun _ => 0)))]))) C fpX8_15 hin dX8_init_17 0 rfl ⟨rfl, rfl⟩ (Nat.le_of_ble_eq_true rfl) rfl ?_
  refine go_aload_n C dX8_init_20 0 rfl ?_
  refine go_iconst (v := 0) C dX8_init_21 rfl ?_
  refine go_puti (w' := [(T0, .inr (7, [.ref q1, .ref q2, .int 0]))] ++ ([(q1, .inl (gI G, 12, .inl (fun _ => 0)))] ++ ([(q2, .inl (gI G, 12, .inl (fun _ => 0)))]))) C fpX8_18 dX8_init_22 0 rfl (Nat.le_of_ble_eq_true rfl) rfl ?_
  refine go_widen (k := 2) (n := 24) (by decide) (by decide) ?_
  exact go_vretA C dX8_init_25 (q1, q2) rfl

set_option maxRecDepth 100000 in
set_option maxHeartbeats 4000000 in
theorem m4_init_k (l : Launch) (G : gG) (T0 : Nat) : KA l G yX4_init cX4_init 1 none 2 43 7 58 [.ref T0] [(T0, .inr (3, [.null, .null, .int 0, .int 0, .int 0, .int 0, .int 0, .int 0]))] none (fun (x : Nat × Nat × Nat × Nat × Nat × Nat × Nat) => u4 G T0 x.1 x.2.2.2.2.2.2 i4 ++ (u1 G x.1 x.2.1 x.2.2.1 x.2.2.2.1 x.2.2.2.2.1 x.2.2.2.2.2.1 i1 ++ (u0 G x.2.2.2.2.2.2 i0))) := by
  refine KA_intro (own := RX4) (by decide +kernel) rfl (Nat.le_of_ble_eq_true rfl) rfl ?_
  intro p e s m args below meth c A C hin
  refine go_aload_n C dX4_init_0 0 rfl ?_
  refine go_objinit C (wr4 _ (List.mem_of_getElem? (i := 7) rfl)) dX4_init_1 (by decide) (Nat.le_of_ble_eq_true rfl) ?_
  refine go_aload_n C dX4_init_4 0 rfl ?_
  refine go_new C nwX4_9 dX4_init_5 (by decide) (by decide) (fun q1 => ?_)
  refine go_w (w' := [(T0, .inr (3, [.null, .null, .int 0, .int 0, .int 0, .int 0, .int 0, .int 0]))] ++ ([(q1, .inr (1, [.null, .null, .int 0, .null, .null, .null, .int 0, .int 0, .int 0, .int 0, .int 0]))])) rfl ?_
  refine go_dup C dX4_init_8 rfl ?_
  refine go_callI (wr := [(T0, .inr (3, [.null, .null, .int 0, .int 0, .int 0, .int 0, .int 0, .int 0]))]) C cfX4_11 vnX1 (m1_init_k l G q1) dX4_init_9 (by decide) (by decide) (Nat.le_of_ble_eq_true rfl) [1] [0] rfl rfl (by decide) (fun x => ?_)
  obtain ⟨q2, q3, q4, q5, q6⟩ := x
  refine go_w (w' := [(T0, .inr (3, [.null, .null, .int 0, .int 0, .int 0, .int 0, .int 0, .int 0]))] ++ (u1 G q1 q2 q3 q4 q5 q6 i1)) rfl ?_
  refine go_putF (w' := [(T0, .inr (3, [.ref q1, .null, .int 0, .int 0, .int 0, .int 0, .int 0, .int 0]))] ++ (u1 G q1 q2 q3 q4 q5 q6 i1)) C fpX4_12 hin dX4_init_12 0 rfl ⟨rfl, rfl⟩ (Nat.le_of_ble_eq_true rfl) rfl ?_
  refine go_aload_n C dX4_init_15 0 rfl ?_
  refine go_new C nwX4_18 dX4_init_16 (by decide) (by decide) (fun q7 => ?_)
  refine go_w (w' := [(T0, .inr (3, [.ref q1, .null, .int 0, .int 0, .int 0, .int 0, .int 0, .int 0]))] ++ (u1 G q1 q2 q3 q4 q5 q6 i1 ++ ([(q7, .inr (0, [.int 0, .int 0, .int 0]))]))) rfl ?_
  refine go_dup C dX4_init_19 rfl ?_
  refine go_callIN (wr := [(T0, .inr (3, [.ref q1, .null, .int 0, .int 0, .int 0, .int 0, .int 0, .int 0]))] ++ (u1 G q1 q2 q3 q4 q5 q6 i1)) C cfX4_20 vnX0 (m0_init_k l G q7) dX4_init_20 (by decide) (by decide) (Nat.le_of_ble_eq_true rfl) [7] [0, 1, 2, 3, 4, 5, 6] rfl rfl (by decide) (fun x => ?_)
  refine go_w (w' := [(T0, .inr (3, [.ref q1, .null, .int 0, .int 0, .int 0, .int 0, .int 0, .int 0]))] ++ (u1 G q1 q2 q3 q4 q5 q6 i1 ++ (u0 G q7 i0))) rfl ?_
  refine go_putF (w' := [(T0, .inr (3, [.ref q1, .ref q7, .int 0, .int 0, .int 0, .int 0, .int 0, .int 0]))] ++ (u1 G q1 q2 q3 q4 q5 q6 i1 ++ (u0 G q7 i0))) C fpX4_21 hin dX4_init_23 0 rfl ⟨rfl, rfl⟩ (Nat.le_of_ble_eq_true rfl) rfl ?_
  refine go_aload_n C dX4_init_26 0 rfl ?_
  refine go_iconst (v := 0) C dX4_init_27 rfl ?_
  refine go_puti (w' := [(T0, .inr (3, [.ref q1, .ref q7, .int 0, .int 0, .int 0, .int 0, .int 0, .int 0]))] ++ (u1 G q1 q2 q3 q4 q5 q6 i1 ++ (u0 G q7 i0))) C fpX4_25 dX4_init_28 0 rfl (Nat.le_of_ble_eq_true rfl) rfl ?_
  refine go_aload_n C dX4_init_31 0 rfl ?_
  refine go_iconst (v := 0) C dX4_init_32 rfl ?_
  refine go_puti (w' := [(T0, .inr (3, [.ref q1, .ref q7, .int 0, .int 0, .int 0, .int 0, .int 0, .int 0]))] ++ (u1 G q1 q2 q3 q4 q5 q6 i1 ++ (u0 G q7 i0))) C fpX4_29 dX4_init_33 0 rfl (Nat.le_of_ble_eq_true rfl) rfl ?_
  refine go_aload_n C dX4_init_36 0 rfl ?_
  refine go_iconst (v := 0) C dX4_init_37 rfl ?_
  refine go_puti (w' := [(T0, .inr (3, [.ref q1, .ref q7, .int 0, .int 0, .int 0, .int 0, .int 0, .int 0]))] ++ (u1 G q1 q2 q3 q4 q5 q6 i1 ++ (u0 G q7 i0))) C fpX4_32 dX4_init_38 0 rfl (Nat.le_of_ble_eq_true rfl) rfl ?_
  refine go_aload_n C dX4_init_41 0 rfl ?_
  refine go_bipush (v := -6) C dX4_init_42 rfl ?_
  refine go_puti (w' := [(T0, .inr (3, [.ref q1, .ref q7, .int 0, .int 0, .int 0, .int (-6), .int 0, .int 0]))] ++ (u1 G q1 q2 q3 q4 q5 q6 i1 ++ (u0 G q7 i0))) C fpX4_35 dX4_init_44 0 rfl (Nat.le_of_ble_eq_true rfl) rfl ?_
  refine go_aload_n C dX4_init_47 0 rfl ?_
  refine go_bipush (v := -6) C dX4_init_48 rfl ?_
  refine go_puti (w' := [(T0, .inr (3, [.ref q1, .ref q7, .int 0, .int 0, .int 0, .int (-6), .int (-6), .int 0]))] ++ (u1 G q1 q2 q3 q4 q5 q6 i1 ++ (u0 G q7 i0))) C fpX4_38 dX4_init_50 0 rfl (Nat.le_of_ble_eq_true rfl) rfl ?_
  refine go_aload_n C dX4_init_53 0 rfl ?_
  refine go_iconst (v := 0) C dX4_init_54 rfl ?_
  refine go_puti (w' := [(T0, .inr (3, [.ref q1, .ref q7, .int 0, .int 0, .int 0, .int (-6), .int (-6), .int 0]))] ++ (u1 G q1 q2 q3 q4 q5 q6 i1 ++ (u0 G q7 i0))) C fpX4_41 dX4_init_55 0 rfl (Nat.le_of_ble_eq_true rfl) rfl ?_
  refine go_widen (k := 7) (n := 58) (by decide) (by decide) ?_
  exact go_vretA C dX4_init_58 (q1, q2, q3, q4, q5, q6, q7) rfl

set_option maxRecDepth 100000 in
set_option maxHeartbeats 4000000 in
theorem m9_init_k (l : Launch) (G : gG) (T0 : Nat) : KA l G yX9_init cX9_init 1 none 3 63 28 261 [.ref T0] [(T0, .inr (8, [.null, .null, .null, .null, .null, .null, .null, .null, .null]))] none (fun (x : Nat × Nat × Nat × Nat × Nat × Nat × Nat × Nat × Nat × Nat × Nat × Nat × Nat × Nat × Nat × Nat × Nat × Nat × Nat × Nat × Nat × Nat × Nat × Nat × Nat × Nat × Nat × Nat) => u9 G T0 x.1 x.2.2.2.2.2.2.1 x.2.2.2.2.2.2.2.2.1 x.2.2.2.2.2.2.2.2.2.1 x.2.2.2.2.2.2.2.2.2.2.2.2.2.2.2.2.2.1 x.2.2.2.2.2.2.2.2.2.2.2.2.2.2.2.2.2.2.2.1 x.2.2.2.2.2.2.2.2.2.2.2.2.2.2.2.2.2.2.2.2.2.2.1 x.2.2.2.2.2.2.2.2.2.2.2.2.2.2.2.2.2.2.2.2.2.2.2.2.2.1 x.2.2.2.2.2.2.2.2.2.2.2.2.2.2.2.2.2.2.2.2.2.2.2.2.2.2.2 i9 ++ (u1 G x.1 x.2.1 x.2.2.1 x.2.2.2.1 x.2.2.2.2.1 x.2.2.2.2.2.1 i1 ++ (u5 G x.2.2.2.2.2.2.1 x.2.2.2.2.2.2.2.1 i5 ++ (u0 G x.2.2.2.2.2.2.2.2.1 i0 ++ (u4 G x.2.2.2.2.2.2.2.2.2.1 x.2.2.2.2.2.2.2.2.2.2.1 x.2.2.2.2.2.2.2.2.2.2.2.2.2.2.2.2.1 i4 ++ (u1 G x.2.2.2.2.2.2.2.2.2.2.1 x.2.2.2.2.2.2.2.2.2.2.2.1 x.2.2.2.2.2.2.2.2.2.2.2.2.1 x.2.2.2.2.2.2.2.2.2.2.2.2.2.1 x.2.2.2.2.2.2.2.2.2.2.2.2.2.2.1 x.2.2.2.2.2.2.2.2.2.2.2.2.2.2.2.1 i1 ++ (u0 G x.2.2.2.2.2.2.2.2.2.2.2.2.2.2.2.2.1 i0 ++ (u7 G x.2.2.2.2.2.2.2.2.2.2.2.2.2.2.2.2.2.1 x.2.2.2.2.2.2.2.2.2.2.2.2.2.2.2.2.2.2.1 i7 ++ (u6 G x.2.2.2.2.2.2.2.2.2.2.2.2.2.2.2.2.2.2.2.1 x.2.2.2.2.2.2.2.2.2.2.2.2.2.2.2.2.2.2.2.2.1 x.2.2.2.2.2.2.2.2.2.2.2.2.2.2.2.2.2.2.2.2.2.1 i6 ++ (u8 G x.2.2.2.2.2.2.2.2.2.2.2.2.2.2.2.2.2.2.2.2.2.2.1 x.2.2.2.2.2.2.2.2.2.2.2.2.2.2.2.2.2.2.2.2.2.2.2.1 x.2.2.2.2.2.2.2.2.2.2.2.2.2.2.2.2.2.2.2.2.2.2.2.2.1 i8 ++ (u3 G x.2.2.2.2.2.2.2.2.2.2.2.2.2.2.2.2.2.2.2.2.2.2.2.2.2.1 x.2.2.2.2.2.2.2.2.2.2.2.2.2.2.2.2.2.2.2.2.2.2.2.2.2.2.1 i3 ++ ([(x.2.2.2.2.2.2.2.2.2.2.2.2.2.2.2.2.2.2.2.2.2.2.2.2.2.2.2, .inl (gO G, 2, .inr (.inr (.inr (.inr (fun _ => none))))))])))))))))))) := by
  refine KA_intro (own := RX9) (by decide +kernel) rfl (Nat.le_of_ble_eq_true rfl) rfl ?_
  intro p e s m args below meth c A C hin
  refine go_aload_n C dX9_init_0 0 rfl ?_
  refine go_objinit C (wr1 _ (List.mem_of_getElem? (i := 9) rfl)) dX9_init_1 (by decide) (Nat.le_of_ble_eq_true rfl) ?_
  refine go_aload_n C dX9_init_4 0 rfl ?_
  refine go_new C nwX9_9 dX9_init_5 (by decide) (by decide) (fun q1 => ?_)
  refine go_w (w' := [(T0, .inr (8, [.null, .null, .null, .null, .null, .null, .null, .null, .null]))] ++ ([(q1, .inr (1, [.null, .null, .int 0, .null, .null, .null, .int 0, .int 0, .int 0, .int 0, .int 0]))])) rfl ?_
  refine go_dup C dX9_init_8 rfl ?_
  refine go_callI (wr := [(T0, .inr (8, [.null, .null, .null, .null, .null, .null, .null, .null, .null]))]) C cfX9_11 vnX1 (m1_init_k l G q1) dX9_init_9 (by decide) (by decide) (Nat.le_of_ble_eq_true rfl) [1] [0] rfl rfl (by decide) (fun x => ?_)
  obtain ⟨q2, q3, q4, q5, q6⟩ := x
  refine go_w (w' := [(T0, .inr (8, [.null, .null, .null, .null, .null, .null, .null, .null, .null]))] ++ (u1 G q1 q2 q3 q4 q5 q6 i1)) rfl ?_
  refine go_putF (w' := [(T0, .inr (8, [.ref q1, .null, .null, .null, .null, .null, .null, .null, .null]))] ++ (u1 G q1 q2 q3 q4 q5 q6 i1)) C fpX9_12 hin dX9_init_12 0 rfl ⟨rfl, rfl⟩ (Nat.le_of_ble_eq_true rfl) rfl ?_
  refine go_aload_n C dX9_init_15 0 rfl ?_
  refine go_new C nwX9_16 dX9_init_16 (by decide) (by decide) (fun q7 => ?_)
  refine go_w (w' := [(T0, .inr (8, [.ref q1, .null, .null, .null, .null, .null, .null, .null, .null]))] ++ (u1 G q1 q2 q3 q4 q5 q6 i1 ++ ([(q7, .inr (4, [.null, .int 0]))]))) rfl ?_
  refine go_dup C dX9_init_19 rfl ?_
  refine go_callIN (wr := [(T0, .inr (8, [.ref q1, .null, .null, .null, .null, .null, .null, .null, .null]))] ++ (u1 G q1 q2 q3 q4 q5 q6 i1)) C cfX9_18 vnX5 (m5_init_k l G q7) dX9_init_20 (by decide) (by decide) (Nat.le_of_ble_eq_true rfl) [7] [0, 1, 2, 3, 4, 5, 6] rfl rfl (by decide) (fun x => ?_)
  obtain ⟨q8, rfl⟩ : ∃ y, y = x := ⟨_, rfl⟩
  refine go_w (w' := [(T0, .inr (8, [.ref q1, .null, .null, .null, .null, .null, .null, .null, .null]))] ++ (u1 G q1 q2 q3 q4 q5 q6 i1 ++ (u5 G q7 q8 i5))) rfl ?_
  refine go_putF (w' := [(T0, .inr (8, [.ref q1, .ref q7, .null, .null, .null, .null, .null, .null, .null]))] ++ (u1 G q1 q2 q3 q4 q5 q6 i1 ++ (u5 G q7 q8 i5))) C fpX9_19 hin dX9_init_23 0 rfl ⟨rfl, rfl⟩ (Nat.le_of_ble_eq_true rfl) rfl ?_
  refine go_aload_n C dX9_init_26 0 rfl ?_
  refine go_new C nwX9_23 dX9_init_27 (by decide) (by decide) (fun q9 => ?_)
  refine go_w (w' := [(T0, .inr (8, [.ref q1, .ref q7, .null, .null, .null, .null, .null, .null, .null]))] ++ (u1 G q1 q2 q3 q4 q5 q6 i1 ++ (u5 G q7 q8 i5 ++ ([(q9, .inr (0, [.int 0, .int 0, .int 0]))])))) rfl ?_
  refine go_dup C dX9_init_30 rfl ?_
  refine go_callIN (wr := [(T0, .inr (8, [.ref q1, .ref q7, .null, .null, .null, .null, .null, .null, .null]))] ++ (u1 G q1 q2 q3 q4 q5 q6 i1 ++ (u5 G q7 q8 i5))) C cfX9_25 vnX0 (m0_init_k l G q9) dX9_init_31 (by decide) (by decide) (Nat.le_of_ble_eq_true rfl) [9] [0, 1, 2, 3, 4, 5, 6, 7, 8] rfl rfl (by decide) (fun x => ?_)
  refine go_w (w' := [(T0, .inr (8, [.ref q1, .ref q7, .null, .null, .null, .null, .null, .null, .null]))] ++ (u1 G q1 q2 q3 q4 q5 q6 i1 ++ (u5 G q7 q8 i5 ++ (u0 G q9 i0)))) rfl ?_
  refine go_putF (w' := [(T0, .inr (8, [.ref q1, .ref q7, .ref q9, .null, .null, .null, .null, .null, .null]))] ++ (u1 G q1 q2 q3 q4 q5 q6 i1 ++ (u5 G q7 q8 i5 ++ (u0 G q9 i0)))) C fpX9_26 hin dX9_init_34 0 rfl ⟨rfl, rfl⟩ (Nat.le_of_ble_eq_true rfl) rfl ?_
  refine go_aload_n C dX9_init_37 0 rfl ?_
  refine go_new C nwX9_30 dX9_init_38 (by decide) (by decide) (fun q10 => ?_)
  refine go_w (w' := [(T0, .inr (8, [.ref q1, .ref q7, .ref q9, .null, .null, .null, .null, .null, .null]))] ++ (u1 G q1 q2 q3 q4 q5 q6 i1 ++ (u5 G q7 q8 i5 ++ (u0 G q9 i0 ++ ([(q10, .inr (3, [.null, .null, .int 0, .int 0, .int 0, .int 0, .int 0, .int 0]))]))))) rfl ?_
  refine go_dup C dX9_init_41 rfl ?_
  refine go_callIN (wr := [(T0, .inr (8, [.ref q1, .ref q7, .ref q9, .null, .null, .null, .null, .null, .null]))] ++ (u1 G q1 q2 q3 q4 q5 q6 i1 ++ (u5 G q7 q8 i5 ++ (u0 G q9 i0)))) C cfX9_32 vnX4 (m4_init_k l G q10) dX9_init_42 (by decide) (by decide) (Nat.le_of_ble_eq_true rfl) [10] [0, 1, 2, 3, 4, 5, 6, 7, 8, 9] rfl rfl (by decide) (fun x => ?_)
  obtain ⟨q11, q12, q13, q14, q15, q16, q17⟩ := x
  refine go_w (w' := [(T0, .inr (8, [.ref q1, .ref q7, .ref q9, .null, .null, .null, .null, .null, .null]))] ++ (u1 G q1 q2 q3 q4 q5 q6 i1 ++ (u5 G q7 q8 i5 ++ (u0 G q9 i0 ++ (u4 G q10 q11 q17 i4 ++ (u1 G q11 q12 q13 q14 q15 q16 i1 ++ (u0 G q17 i0))))))) rfl ?_
  refine go_putF (w' := [(T0, .inr (8, [.ref q1, .ref q7, .ref q9, .ref q10, .null, .null, .null, .null, .null]))] ++ (u1 G q1 q2 q3 q4 q5 q6 i1 ++ (u5 G q7 q8 i5 ++ (u0 G q9 i0 ++ (u4 G q10 q11 q17 i4 ++ (u1 G q11 q12 q13 q14 q15 q16 i1 ++ (u0 G q17 i0))))))) C fpX9_33 hin dX9_init_45 0 rfl ⟨rfl, rfl⟩ (Nat.le_of_ble_eq_true rfl) rfl ?_
  refine go_aload_n C dX9_init_48 0 rfl ?_
  refine go_new C nwX9_37 dX9_init_49 (by decide) (by decide) (fun q18 => ?_)
  refine go_w (w' := [(T0, .inr (8, [.ref q1, .ref q7, .ref q9, .ref q10, .null, .null, .null, .null, .null]))] ++ (u1 G q1 q2 q3 q4 q5 q6 i1 ++ (u5 G q7 q8 i5 ++ (u0 G q9 i0 ++ (u4 G q10 q11 q17 i4 ++ (u1 G q11 q12 q13 q14 q15 q16 i1 ++ (u0 G q17 i0 ++ ([(q18, .inr (6, [.null]))])))))))) rfl ?_
  refine go_dup C dX9_init_52 rfl ?_
  refine go_callIN (wr := [(T0, .inr (8, [.ref q1, .ref q7, .ref q9, .ref q10, .null, .null, .null, .null, .null]))] ++ (u1 G q1 q2 q3 q4 q5 q6 i1 ++ (u5 G q7 q8 i5 ++ (u0 G q9 i0 ++ (u4 G q10 q11 q17 i4 ++ (u1 G q11 q12 q13 q14 q15 q16 i1 ++ (u0 G q17 i0))))))) C cfX9_39 vnX7 (m7_init_k l G q18) dX9_init_53 (by decide) (by decide) (Nat.le_of_ble_eq_true rfl) [18] [0, 1, 2, 3, 4, 5, 6, 7, 8, 9, 10, 11, 12, 13, 14, 15, 16, 17] rfl rfl (by decide) (fun x => ?_)
  obtain ⟨q19, rfl⟩ : ∃ y, y = x := ⟨_, rfl⟩
  refine go_w (w' := [(T0, .inr (8, [.ref q1, .ref q7, .ref q9, .ref q10, .null, .null, .null, .null, .null]))] ++ (u1 G q1 q2 q3 q4 q5 q6 i1 ++ (u5 G q7 q8 i5 ++ (u0 G q9 i0 ++ (u4 G q10 q11 q17 i4 ++ (u1 G q11 q12 q13 q14 q15 q16 i1 ++ (u0 G q17 i0 ++ (u7 G q18 q19 i7)))))))) rfl ?_
  refine go_putF (w' := [(T0, .inr (8, [.ref q1, .ref q7, .ref q9, .ref q10, .ref q18, .null, .null, .null, .null]))] ++ (u1 G q1 q2 q3 q4 q5 q6 i1 ++ (u5 G q7 q8 i5 ++ (u0 G q9 i0 ++ (u4 G q10 q11 q17 i4 ++ (u1 G q11 q12 q13 q14 q15 q16 i1 ++ (u0 G q17 i0 ++ (u7 G q18 q19 i7)))))))) C fpX9_40 hin dX9_init_56 0 rfl ⟨rfl, rfl⟩ (Nat.le_of_ble_eq_true rfl) rfl ?_
  refine go_aload_n C dX9_init_59 0 rfl ?_
  refine go_new C nwX9_44 dX9_init_60 (by decide) (by decide) (fun q20 => ?_)
  refine go_w (w' := [(T0, .inr (8, [.ref q1, .ref q7, .ref q9, .ref q10, .ref q18, .null, .null, .null, .null]))] ++ (u1 G q1 q2 q3 q4 q5 q6 i1 ++ (u5 G q7 q8 i5 ++ (u0 G q9 i0 ++ (u4 G q10 q11 q17 i4 ++ (u1 G q11 q12 q13 q14 q15 q16 i1 ++ (u0 G q17 i0 ++ (u7 G q18 q19 i7 ++ ([(q20, .inr (5, [.null, .null, .int 0]))]))))))))) rfl ?_
  refine go_dup C dX9_init_63 rfl ?_
  refine go_callIN (wr := [(T0, .inr (8, [.ref q1, .ref q7, .ref q9, .ref q10, .ref q18, .null, .null, .null, .null]))] ++ (u1 G q1 q2 q3 q4 q5 q6 i1 ++ (u5 G q7 q8 i5 ++ (u0 G q9 i0 ++ (u4 G q10 q11 q17 i4 ++ (u1 G q11 q12 q13 q14 q15 q16 i1 ++ (u0 G q17 i0 ++ (u7 G q18 q19 i7)))))))) C cfX9_46 vnX6 (m6_init_k l G q20) dX9_init_64 (by decide) (by decide) (Nat.le_of_ble_eq_true rfl) [20] [0, 1, 2, 3, 4, 5, 6, 7, 8, 9, 10, 11, 12, 13, 14, 15, 16, 17, 18, 19] rfl rfl (by decide) (fun x => ?_)
  obtain ⟨q21, q22⟩ := x
  refine go_w (w' := [(T0, .inr (8, [.ref q1, .ref q7, .ref q9, .ref q10, .ref q18, .null, .null, .null, .null]))] ++ (u1 G q1 q2 q3 q4 q5 q6 i1 ++ (u5 G q7 q8 i5 ++ (u0 G q9 i0 ++ (u4 G q10 q11 q17 i4 ++ (u1 G q11 q12 q13 q14 q15 q16 i1 ++ (u0 G q17 i0 ++ (u7 G q18 q19 i7 ++ (u6 G q20 q21 q22 i6))))))))) rfl ?_
  refine go_putF (w' := [(T0, .inr (8, [.ref q1, .ref q7, .ref q9, .ref q10, .ref q18, .ref q20, .null, .null, .null]))] ++ (u1 G q1 q2 q3 q4 q5 q6 i1 ++ (u5 G q7 q8 i5 ++ (u0 G q9 i0 ++ (u4 G q10 q11 q17 i4 ++ (u1 G q11 q12 q13 q14 q15 q16 i1 ++ (u0 G q17 i0 ++ (u7 G q18 q19 i7 ++ (u6 G q20 q21 q22 i6))))))))) C fpX9_47 hin dX9_init_67 0 rfl ⟨rfl, rfl⟩ (Nat.le_of_ble_eq_true rfl) rfl ?_
  refine go_aload_n C dX9_init_70 0 rfl ?_
  refine go_new C nwX9_51 dX9_init_71 (by decide) (by decide) (fun q23 => ?_)
  refine go_w (w' := [(T0, .inr (8, [.ref q1, .ref q7, .ref q9, .ref q10, .ref q18, .ref q20, .null, .null, .null]))] ++ (u1 G q1 q2 q3 q4 q5 q6 i1 ++ (u5 G q7 q8 i5 ++ (u0 G q9 i0 ++ (u4 G q10 q11 q17 i4 ++ (u1 G q11 q12 q13 q14 q15 q16 i1 ++ (u0 G q17 i0 ++ (u7 G q18 q19 i7 ++ (u6 G q20 q21 q22 i6 ++ ([(q23, .inr (7, [.null, .null, .int 0]))])))))))))) rfl ?_
  refine go_dup C dX9_init_74 rfl ?_
  refine go_callIN (wr := [(T0, .inr (8, [.ref q1, .ref q7, .ref q9, .ref q10, .ref q18, .ref q20, .null, .null, .null]))] ++ (u1 G q1 q2 q3 q4 q5 q6 i1 ++ (u5 G q7 q8 i5 ++ (u0 G q9 i0 ++ (u4 G q10 q11 q17 i4 ++ (u1 G q11 q12 q13 q14 q15 q16 i1 ++ (u0 G q17 i0 ++ (u7 G q18 q19 i7 ++ (u6 G q20 q21 q22 i6))))))))) C cfX9_53 vnX8 (m8_init_k l G q23) dX9_init_75 (by decide) (by decide) (Nat.le_of_ble_eq_true rfl) [23] [0, 1, 2, 3, 4, 5, 6, 7, 8, 9, 10, 11, 12, 13, 14, 15, 16, 17, 18, 19, 20, 21, 22] rfl rfl (by decide) (fun x => ?_)
  obtain ⟨q24, q25⟩ := x
  refine go_w (w' := [(T0, .inr (8, [.ref q1, .ref q7, .ref q9, .ref q10, .ref q18, .ref q20, .null, .null, .null]))] ++ (u1 G q1 q2 q3 q4 q5 q6 i1 ++ (u5 G q7 q8 i5 ++ (u0 G q9 i0 ++ (u4 G q10 q11 q17 i4 ++ (u1 G q11 q12 q13 q14 q15 q16 i1 ++ (u0 G q17 i0 ++ (u7 G q18 q19 i7 ++ (u6 G q20 q21 q22 i6 ++ (u8 G q23 q24 q25 i8)))))))))) rfl ?_
  refine go_putF (w' := [(T0, .inr (8, [.ref q1, .ref q7, .ref q9, .ref q10, .ref q18, .ref q20, .ref q23, .null, .null]))] ++ (u1 G q1 q2 q3 q4 q5 q6 i1 ++ (u5 G q7 q8 i5 ++ (u0 G q9 i0 ++ (u4 G q10 q11 q17 i4 ++ (u1 G q11 q12 q13 q14 q15 q16 i1 ++ (u0 G q17 i0 ++ (u7 G q18 q19 i7 ++ (u6 G q20 q21 q22 i6 ++ (u8 G q23 q24 q25 i8)))))))))) C fpX9_54 hin dX9_init_78 0 rfl ⟨rfl, rfl⟩ (Nat.le_of_ble_eq_true rfl) rfl ?_
  refine go_aload_n C dX9_init_81 0 rfl ?_
  refine go_new C nwX9_58 dX9_init_82 (by decide) (by decide) (fun q26 => ?_)
  refine go_w (w' := [(T0, .inr (8, [.ref q1, .ref q7, .ref q9, .ref q10, .ref q18, .ref q20, .ref q23, .null, .null]))] ++ (u1 G q1 q2 q3 q4 q5 q6 i1 ++ (u5 G q7 q8 i5 ++ (u0 G q9 i0 ++ (u4 G q10 q11 q17 i4 ++ (u1 G q11 q12 q13 q14 q15 q16 i1 ++ (u0 G q17 i0 ++ (u7 G q18 q19 i7 ++ (u6 G q20 q21 q22 i6 ++ (u8 G q23 q24 q25 i8 ++ ([(q26, .inr (2, [.null, .long 0, .long 0]))]))))))))))) rfl ?_
  refine go_dup C dX9_init_85 rfl ?_
  refine go_callIN (wr := [(T0, .inr (8, [.ref q1, .ref q7, .ref q9, .ref q10, .ref q18, .ref q20, .ref q23, .null, .null]))] ++ (u1 G q1 q2 q3 q4 q5 q6 i1 ++ (u5 G q7 q8 i5 ++ (u0 G q9 i0 ++ (u4 G q10 q11 q17 i4 ++ (u1 G q11 q12 q13 q14 q15 q16 i1 ++ (u0 G q17 i0 ++ (u7 G q18 q19 i7 ++ (u6 G q20 q21 q22 i6 ++ (u8 G q23 q24 q25 i8)))))))))) C cfX9_60 vnX3 (m3_init_k l G q26) dX9_init_86 (by decide) (by decide) (Nat.le_of_ble_eq_true rfl) [26] [0, 1, 2, 3, 4, 5, 6, 7, 8, 9, 10, 11, 12, 13, 14, 15, 16, 17, 18, 19, 20, 21, 22, 23, 24, 25] rfl rfl (by decide) (fun x => ?_)
  obtain ⟨q27, rfl⟩ : ∃ y, y = x := ⟨_, rfl⟩
  refine go_w (w' := [(T0, .inr (8, [.ref q1, .ref q7, .ref q9, .ref q10, .ref q18, .ref q20, .ref q23, .null, .null]))] ++ (u1 G q1 q2 q3 q4 q5 q6 i1 ++ (u5 G q7 q8 i5 ++ (u0 G q9 i0 ++ (u4 G q10 q11 q17 i4 ++ (u1 G q11 q12 q13 q14 q15 q16 i1 ++ (u0 G q17 i0 ++ (u7 G q18 q19 i7 ++ (u6 G q20 q21 q22 i6 ++ (u8 G q23 q24 q25 i8 ++ (u3 G q26 q27 i3))))))))))) rfl ?_
  refine go_putF (w' := [(T0, .inr (8, [.ref q1, .ref q7, .ref q9, .ref q10, .ref q18, .ref q20, .ref q23, .ref q26, .null]))] ++ (u1 G q1 q2 q3 q4 q5 q6 i1 ++ (u5 G q7 q8 i5 ++ (u0 G q9 i0 ++ (u4 G q10 q11 q17 i4 ++ (u1 G q11 q12 q13 q14 q15 q16 i1 ++ (u0 G q17 i0 ++ (u7 G q18 q19 i7 ++ (u6 G q20 q21 q22 i6 ++ (u8 G q23 q24 q25 i8 ++ (u3 G q26 q27 i3))))))))))) C fpX9_61 hin dX9_init_89 0 rfl ⟨rfl, rfl⟩ (Nat.le_of_ble_eq_true rfl) rfl ?_
  refine go_aload_n C dX9_init_92 0 rfl ?_
  refine go_iconst (v := 2) C dX9_init_93 rfl ?_
  refine go_newQ (N := 2) C (wr1 _ (List.mem_of_getElem? (i := 12) rfl)) dX9_init_94 (by decide) (by decide) (by decide) (fun q28 => ?_)
  refine go_w (w' := [(T0, .inr (8, [.ref q1, .ref q7, .ref q9, .ref q10, .ref q18, .ref q20, .ref q23, .ref q26, .null]))] ++ (u1 G q1 q2 q3 q4 q5 q6 i1 ++ (u5 G q7 q8 i5 ++ (u0 G q9 i0 ++ (u4 G q10 q11 q17 i4 ++ (u1 G q11 q12 q13 q14 q15 q16 i1 ++ (u0 G q17 i0 ++ (u7 G q18 q19 i7 ++ (u6 G q20 q21 q22 i6 ++ (u8 G q23 q24 q25 i8 ++ (u3 G q26 q27 i3 ++ ([(q28, .inl (gO G, 2, .inr (.inr (.inr (.inr (fun _ => none))))))])))))))))))) rfl ?_
  refine go_putF (w' := [(T0, .inr (8, [.ref q1, .ref q7, .ref q9, .ref q10, .ref q18, .ref q20, .ref q23, .ref q26, .ref q28]))] ++ (u1 G q1 q2 q3 q4 q5 q6 i1 ++ (u5 G q7 q8 i5 ++ (u0 G q9 i0 ++ (u4 G q10 q11 q17 i4 ++ (u1 G q11 q12 q13 q14 q15 q16 i1 ++ (u0 G q17 i0 ++ (u7 G q18 q19 i7 ++ (u6 G q20 q21 q22 i6 ++ (u8 G q23 q24 q25 i8 ++ (u3 G q26 q27 i3 ++ ([(q28, .inl (gO G, 2, .inr (.inr (.inr (.inr (fun _ => none))))))])))))))))))) C fpX9_65 hin dX9_init_97 0 rfl ⟨rfl, rfl⟩ (Nat.le_of_ble_eq_true rfl) rfl ?_
  refine go_widen (k := 28) (n := 261) (by decide) (by decide) ?_
  exact go_vretA C dX9_init_100 (q1, q2, q3, q4, q5, q6, q7, q8, q9, q10, q11, q12, q13, q14, q15, q16, q17, q18, q19, q20, q21, q22, q23, q24, q25, q26, q27, q28) rfl

set_option maxRecDepth 100000 in
set_option maxHeartbeats 4000000 in
theorem m10_init_k (l : Launch) (G : gG) (T0 : Nat) (R0 : SX10) (h : m10_init_J101 i10 = some R0) : KA l G yX10_init cX10_init 2 none 1 20 12 4526 [.ref T0] [(T0, .inr (9, [.null, .null, .int 0, .null, .int 0, .null, .int 0, .int 0, .int 0, .int 0, .int 0, .int 0, .null, .null, .null, .null, .null, .null, .null, .null]))] none (fun (x : Nat × Nat × Nat × Nat × Nat × Nat × Nat × Nat × Nat × Nat × Nat × Nat) => u10 G T0 x.1 x.2.1 x.2.2.1 x.2.2.2.1 x.2.2.2.2.1 x.2.2.2.2.2.1 x.2.2.2.2.2.2.1 x.2.2.2.2.2.2.2.1 x.2.2.2.2.2.2.2.2.1 x.2.2.2.2.2.2.2.2.2.1 x.2.2.2.2.2.2.2.2.2.2.1 x.2.2.2.2.2.2.2.2.2.2.2 R0) := by
  refine KA_intro (own := RX10) (by decide +kernel) rfl (Nat.le_of_ble_eq_true rfl) rfl ?_
  intro p e s m args below meth c A C hin
  refine go_aload_n C dX10_init_0 0 rfl ?_
  refine go_objinit C (wr5 _ (List.mem_of_getElem? (i := 21) rfl)) dX10_init_1 (by decide) (Nat.le_of_ble_eq_true rfl) ?_
  refine go_aload_n C dX10_init_4 0 rfl ?_
  refine go_bipush (v := 47) C dX10_init_5 rfl ?_
  refine go_newI (N := 47) C dX10_init_7 (by decide) (by decide) (by decide) (fun q1 => ?_)
  refine go_w (w' := [(T0, .inr (9, [.null, .null, .int 0, .null, .int 0, .null, .int 0, .int 0, .int 0, .int 0, .int 0, .int 0, .null, .null, .null, .null, .null, .null, .null, .null]))] ++ ([(q1, .inl (gI G, 47, .inl (fun _ => 0)))])) rfl ?_
  refine go_putF (w' := [(T0, .inr (9, [.ref q1, .null, .int 0, .null, .int 0, .null, .int 0, .int 0, .int 0, .int 0, .int 0, .int 0, .null, .null, .null, .null, .null, .null, .null, .null]))] ++ ([(q1, .inl (gI G, 47, .inl (fun _ => 0)))])) C fpX10_7 hin dX10_init_9 0 rfl ⟨rfl, rfl⟩ (Nat.le_of_ble_eq_true rfl) rfl ?_
  refine go_aload_n C dX10_init_12 0 rfl ?_
  refine go_bipush (v := 47) C dX10_init_13 rfl ?_
  refine go_newI (N := 47) C dX10_init_15 (by decide) (by decide) (by decide) (fun q2 => ?_)
  refine go_w (w' := [(T0, .inr (9, [.ref q1, .null, .int 0, .null, .int 0, .null, .int 0, .int 0, .int 0, .int 0, .int 0, .int 0, .null, .null, .null, .null, .null, .null, .null, .null]))] ++ ([(q1, .inl (gI G, 47, .inl (fun _ => 0)))] ++ ([(q2, .inl (gI G, 47, .inl (fun _ => 0)))]))) rfl ?_
  refine go_putF (w' := [(T0, .inr (9, [.ref q1, .ref q2, .int 0, .null, .int 0, .null, .int 0, .int 0, .int 0, .int 0, .int 0, .int 0, .null, .null, .null, .null, .null, .null, .null, .null]))] ++ ([(q1, .inl (gI G, 47, .inl (fun _ => 0)))] ++ ([(q2, .inl (gI G, 47, .inl (fun _ => 0)))]))) C fpX10_13 hin dX10_init_17 0 rfl ⟨rfl, rfl⟩ (Nat.le_of_ble_eq_true rfl) rfl ?_
  refine go_aload_n C dX10_init_20 0 rfl ?_
  refine go_bipush (v := 16) C dX10_init_21 rfl ?_
  refine go_newI (N := 16) C dX10_init_23 (by decide) (by decide) (by decide) (fun q3 => ?_)
  refine go_w (w' := [(T0, .inr (9, [.ref q1, .ref q2, .int 0, .null, .int 0, .null, .int 0, .int 0, .int 0, .int 0, .int 0, .int 0, .null, .null, .null, .null, .null, .null, .null, .null]))] ++ ([(q1, .inl (gI G, 47, .inl (fun _ => 0)))] ++ ([(q2, .inl (gI G, 47, .inl (fun _ => 0)))] ++ ([(q3, .inl (gI G, 16, .inl (fun _ => 0)))])))) rfl ?_
  refine go_putF (w' := [(T0, .inr (9, [.ref q1, .ref q2, .int 0, .ref q3, .int 0, .null, .int 0, .int 0, .int 0, .int 0, .int 0, .int 0, .null, .null, .null, .null, .null, .null, .null, .null]))] ++ ([(q1, .inl (gI G, 47, .inl (fun _ => 0)))] ++ ([(q2, .inl (gI G, 47, .inl (fun _ => 0)))] ++ ([(q3, .inl (gI G, 16, .inl (fun _ => 0)))])))) C fpX10_16 hin dX10_init_25 0 rfl ⟨rfl, rfl⟩ (Nat.le_of_ble_eq_true rfl) rfl ?_
  refine go_aload_n C dX10_init_28 0 rfl ?_
  refine go_bipush (v := 60) C dX10_init_29 rfl ?_
  refine go_newI (N := 60) C dX10_init_31 (by decide) (by decide) (by decide) (fun q4 => ?_)
  refine go_w (w' := [(T0, .inr (9, [.ref q1, .ref q2, .int 0, .ref q3, .int 0, .null, .int 0, .int 0, .int 0, .int 0, .int 0, .int 0, .null, .null, .null, .null, .null, .null, .null, .null]))] ++ ([(q1, .inl (gI G, 47, .inl (fun _ => 0)))] ++ ([(q2, .inl (gI G, 47, .inl (fun _ => 0)))] ++ ([(q3, .inl (gI G, 16, .inl (fun _ => 0)))] ++ ([(q4, .inl (gI G, 60, .inl (fun _ => 0)))]))))) rfl ?_
  refine go_putF (w' := [(T0, .inr (9, [.ref q1, .ref q2, .int 0, .ref q3, .int 0, .ref q4, .int 0, .int 0, .int 0, .int 0, .int 0, .int 0, .null, .null, .null, .null, .null, .null, .null, .null]))] ++ ([(q1, .inl (gI G, 47, .inl (fun _ => 0)))] ++ ([(q2, .inl (gI G, 47, .inl (fun _ => 0)))] ++ ([(q3, .inl (gI G, 16, .inl (fun _ => 0)))] ++ ([(q4, .inl (gI G, 60, .inl (fun _ => 0)))]))))) C fpX10_19 hin dX10_init_33 0 rfl ⟨rfl, rfl⟩ (Nat.le_of_ble_eq_true rfl) rfl ?_
  refine go_aload_n C dX10_init_36 0 rfl ?_
  refine go_bipush (v := 14) C dX10_init_37 rfl ?_
  refine go_newI (N := 14) C dX10_init_39 (by decide) (by decide) (by decide) (fun q5 => ?_)
  refine go_w (w' := [(T0, .inr (9, [.ref q1, .ref q2, .int 0, .ref q3, .int 0, .ref q4, .int 0, .int 0, .int 0, .int 0, .int 0, .int 0, .null, .null, .null, .null, .null, .null, .null, .null]))] ++ ([(q1, .inl (gI G, 47, .inl (fun _ => 0)))] ++ ([(q2, .inl (gI G, 47, .inl (fun _ => 0)))] ++ ([(q3, .inl (gI G, 16, .inl (fun _ => 0)))] ++ ([(q4, .inl (gI G, 60, .inl (fun _ => 0)))] ++ ([(q5, .inl (gI G, 14, .inl (fun _ => 0)))])))))) rfl ?_
  refine go_putF (w' := [(T0, .inr (9, [.ref q1, .ref q2, .int 0, .ref q3, .int 0, .ref q4, .int 0, .int 0, .int 0, .int 0, .int 0, .int 0, .ref q5, .null, .null, .null, .null, .null, .null, .null]))] ++ ([(q1, .inl (gI G, 47, .inl (fun _ => 0)))] ++ ([(q2, .inl (gI G, 47, .inl (fun _ => 0)))] ++ ([(q3, .inl (gI G, 16, .inl (fun _ => 0)))] ++ ([(q4, .inl (gI G, 60, .inl (fun _ => 0)))] ++ ([(q5, .inl (gI G, 14, .inl (fun _ => 0)))])))))) C fpX10_22 hin dX10_init_41 0 rfl ⟨rfl, rfl⟩ (Nat.le_of_ble_eq_true rfl) rfl ?_
  refine go_aload_n C dX10_init_44 0 rfl ?_
  refine go_bipush (v := 14) C dX10_init_45 rfl ?_
  refine go_newI (N := 14) C dX10_init_47 (by decide) (by decide) (by decide) (fun q6 => ?_)
  refine go_w (w' := [(T0, .inr (9, [.ref q1, .ref q2, .int 0, .ref q3, .int 0, .ref q4, .int 0, .int 0, .int 0, .int 0, .int 0, .int 0, .ref q5, .null, .null, .null, .null, .null, .null, .null]))] ++ ([(q1, .inl (gI G, 47, .inl (fun _ => 0)))] ++ ([(q2, .inl (gI G, 47, .inl (fun _ => 0)))] ++ ([(q3, .inl (gI G, 16, .inl (fun _ => 0)))] ++ ([(q4, .inl (gI G, 60, .inl (fun _ => 0)))] ++ ([(q5, .inl (gI G, 14, .inl (fun _ => 0)))] ++ ([(q6, .inl (gI G, 14, .inl (fun _ => 0)))]))))))) rfl ?_
  refine go_putF (w' := [(T0, .inr (9, [.ref q1, .ref q2, .int 0, .ref q3, .int 0, .ref q4, .int 0, .int 0, .int 0, .int 0, .int 0, .int 0, .ref q5, .ref q6, .null, .null, .null, .null, .null, .null]))] ++ ([(q1, .inl (gI G, 47, .inl (fun _ => 0)))] ++ ([(q2, .inl (gI G, 47, .inl (fun _ => 0)))] ++ ([(q3, .inl (gI G, 16, .inl (fun _ => 0)))] ++ ([(q4, .inl (gI G, 60, .inl (fun _ => 0)))] ++ ([(q5, .inl (gI G, 14, .inl (fun _ => 0)))] ++ ([(q6, .inl (gI G, 14, .inl (fun _ => 0)))]))))))) C fpX10_25 hin dX10_init_49 0 rfl ⟨rfl, rfl⟩ (Nat.le_of_ble_eq_true rfl) rfl ?_
  refine go_aload_n C dX10_init_52 0 rfl ?_
  refine go_bipush (v := 64) C dX10_init_53 rfl ?_
  refine go_newZ (N := 64) C dX10_init_55 (by decide) (by decide) (by decide) (fun q7 => ?_)
  refine go_w (w' := [(T0, .inr (9, [.ref q1, .ref q2, .int 0, .ref q3, .int 0, .ref q4, .int 0, .int 0, .int 0, .int 0, .int 0, .int 0, .ref q5, .ref q6, .null, .null, .null, .null, .null, .null]))] ++ ([(q1, .inl (gI G, 47, .inl (fun _ => 0)))] ++ ([(q2, .inl (gI G, 47, .inl (fun _ => 0)))] ++ ([(q3, .inl (gI G, 16, .inl (fun _ => 0)))] ++ ([(q4, .inl (gI G, 60, .inl (fun _ => 0)))] ++ ([(q5, .inl (gI G, 14, .inl (fun _ => 0)))] ++ ([(q6, .inl (gI G, 14, .inl (fun _ => 0)))] ++ ([(q7, .inl (gZ G, 64, .inl (fun _ => 0)))])))))))) rfl ?_
  refine go_putF (w' := [(T0, .inr (9, [.ref q1, .ref q2, .int 0, .ref q3, .int 0, .ref q4, .int 0, .int 0, .int 0, .int 0, .int 0, .int 0, .ref q5, .ref q6, .ref q7, .null, .null, .null, .null, .null]))] ++ ([(q1, .inl (gI G, 47, .inl (fun _ => 0)))] ++ ([(q2, .inl (gI G, 47, .inl (fun _ => 0)))] ++ ([(q3, .inl (gI G, 16, .inl (fun _ => 0)))] ++ ([(q4, .inl (gI G, 60, .inl (fun _ => 0)))] ++ ([(q5, .inl (gI G, 14, .inl (fun _ => 0)))] ++ ([(q6, .inl (gI G, 14, .inl (fun _ => 0)))] ++ ([(q7, .inl (gZ G, 64, .inl (fun _ => 0)))])))))))) C fpX10_28 hin dX10_init_57 0 rfl ⟨rfl, rfl⟩ (Nat.le_of_ble_eq_true rfl) rfl ?_
  refine go_aload_n C dX10_init_60 0 rfl ?_
  refine go_sipush (v := 4096) C dX10_init_61 rfl ?_
  refine go_newZ (N := 4096) C dX10_init_64 (by decide) (by decide) (by decide) (fun q8 => ?_)
  refine go_w (w' := [(T0, .inr (9, [.ref q1, .ref q2, .int 0, .ref q3, .int 0, .ref q4, .int 0, .int 0, .int 0, .int 0, .int 0, .int 0, .ref q5, .ref q6, .ref q7, .null, .null, .null, .null, .null]))] ++ ([(q1, .inl (gI G, 47, .inl (fun _ => 0)))] ++ ([(q2, .inl (gI G, 47, .inl (fun _ => 0)))] ++ ([(q3, .inl (gI G, 16, .inl (fun _ => 0)))] ++ ([(q4, .inl (gI G, 60, .inl (fun _ => 0)))] ++ ([(q5, .inl (gI G, 14, .inl (fun _ => 0)))] ++ ([(q6, .inl (gI G, 14, .inl (fun _ => 0)))] ++ ([(q7, .inl (gZ G, 64, .inl (fun _ => 0)))] ++ ([(q8, .inl (gZ G, 4096, .inl (fun _ => 0)))]))))))))) rfl ?_
  refine go_putF (w' := [(T0, .inr (9, [.ref q1, .ref q2, .int 0, .ref q3, .int 0, .ref q4, .int 0, .int 0, .int 0, .int 0, .int 0, .int 0, .ref q5, .ref q6, .ref q7, .ref q8, .null, .null, .null, .null]))] ++ ([(q1, .inl (gI G, 47, .inl (fun _ => 0)))] ++ ([(q2, .inl (gI G, 47, .inl (fun _ => 0)))] ++ ([(q3, .inl (gI G, 16, .inl (fun _ => 0)))] ++ ([(q4, .inl (gI G, 60, .inl (fun _ => 0)))] ++ ([(q5, .inl (gI G, 14, .inl (fun _ => 0)))] ++ ([(q6, .inl (gI G, 14, .inl (fun _ => 0)))] ++ ([(q7, .inl (gZ G, 64, .inl (fun _ => 0)))] ++ ([(q8, .inl (gZ G, 4096, .inl (fun _ => 0)))]))))))))) C fpX10_32 hin dX10_init_66 0 rfl ⟨rfl, rfl⟩ (Nat.le_of_ble_eq_true rfl) rfl ?_
  refine go_aload_n C dX10_init_69 0 rfl ?_
  refine go_bipush (v := 13) C dX10_init_70 rfl ?_
  refine go_newJ (N := 13) C dX10_init_72 (by decide) (by decide) (by decide) (fun q9 => ?_)
  refine go_w (w' := [(T0, .inr (9, [.ref q1, .ref q2, .int 0, .ref q3, .int 0, .ref q4, .int 0, .int 0, .int 0, .int 0, .int 0, .int 0, .ref q5, .ref q6, .ref q7, .ref q8, .null, .null, .null, .null]))] ++ ([(q1, .inl (gI G, 47, .inl (fun _ => 0)))] ++ ([(q2, .inl (gI G, 47, .inl (fun _ => 0)))] ++ ([(q3, .inl (gI G, 16, .inl (fun _ => 0)))] ++ ([(q4, .inl (gI G, 60, .inl (fun _ => 0)))] ++ ([(q5, .inl (gI G, 14, .inl (fun _ => 0)))] ++ ([(q6, .inl (gI G, 14, .inl (fun _ => 0)))] ++ ([(q7, .inl (gZ G, 64, .inl (fun _ => 0)))] ++ ([(q8, .inl (gZ G, 4096, .inl (fun _ => 0)))] ++ ([(q9, .inl (gJ G, 13, .inr (.inl (fun _ => 0))))])))))))))) rfl ?_
  refine go_putF (w' := [(T0, .inr (9, [.ref q1, .ref q2, .int 0, .ref q3, .int 0, .ref q4, .int 0, .int 0, .int 0, .int 0, .int 0, .int 0, .ref q5, .ref q6, .ref q7, .ref q8, .ref q9, .null, .null, .null]))] ++ ([(q1, .inl (gI G, 47, .inl (fun _ => 0)))] ++ ([(q2, .inl (gI G, 47, .inl (fun _ => 0)))] ++ ([(q3, .inl (gI G, 16, .inl (fun _ => 0)))] ++ ([(q4, .inl (gI G, 60, .inl (fun _ => 0)))] ++ ([(q5, .inl (gI G, 14, .inl (fun _ => 0)))] ++ ([(q6, .inl (gI G, 14, .inl (fun _ => 0)))] ++ ([(q7, .inl (gZ G, 64, .inl (fun _ => 0)))] ++ ([(q8, .inl (gZ G, 4096, .inl (fun _ => 0)))] ++ ([(q9, .inl (gJ G, 13, .inr (.inl (fun _ => 0))))])))))))))) C fpX10_35 hin dX10_init_74 0 rfl ⟨rfl, rfl⟩ (Nat.le_of_ble_eq_true rfl) rfl ?_
  refine go_aload_n C dX10_init_77 0 rfl ?_
  refine go_bipush (v := 13) C dX10_init_78 rfl ?_
  refine go_newJ (N := 13) C dX10_init_80 (by decide) (by decide) (by decide) (fun q10 => ?_)
  refine go_w (w' := [(T0, .inr (9, [.ref q1, .ref q2, .int 0, .ref q3, .int 0, .ref q4, .int 0, .int 0, .int 0, .int 0, .int 0, .int 0, .ref q5, .ref q6, .ref q7, .ref q8, .ref q9, .null, .null, .null]))] ++ ([(q1, .inl (gI G, 47, .inl (fun _ => 0)))] ++ ([(q2, .inl (gI G, 47, .inl (fun _ => 0)))] ++ ([(q3, .inl (gI G, 16, .inl (fun _ => 0)))] ++ ([(q4, .inl (gI G, 60, .inl (fun _ => 0)))] ++ ([(q5, .inl (gI G, 14, .inl (fun _ => 0)))] ++ ([(q6, .inl (gI G, 14, .inl (fun _ => 0)))] ++ ([(q7, .inl (gZ G, 64, .inl (fun _ => 0)))] ++ ([(q8, .inl (gZ G, 4096, .inl (fun _ => 0)))] ++ ([(q9, .inl (gJ G, 13, .inr (.inl (fun _ => 0))))] ++ ([(q10, .inl (gJ G, 13, .inr (.inl (fun _ => 0))))]))))))))))) rfl ?_
  refine go_putF (w' := [(T0, .inr (9, [.ref q1, .ref q2, .int 0, .ref q3, .int 0, .ref q4, .int 0, .int 0, .int 0, .int 0, .int 0, .int 0, .ref q5, .ref q6, .ref q7, .ref q8, .ref q9, .ref q10, .null, .null]))] ++ ([(q1, .inl (gI G, 47, .inl (fun _ => 0)))] ++ ([(q2, .inl (gI G, 47, .inl (fun _ => 0)))] ++ ([(q3, .inl (gI G, 16, .inl (fun _ => 0)))] ++ ([(q4, .inl (gI G, 60, .inl (fun _ => 0)))] ++ ([(q5, .inl (gI G, 14, .inl (fun _ => 0)))] ++ ([(q6, .inl (gI G, 14, .inl (fun _ => 0)))] ++ ([(q7, .inl (gZ G, 64, .inl (fun _ => 0)))] ++ ([(q8, .inl (gZ G, 4096, .inl (fun _ => 0)))] ++ ([(q9, .inl (gJ G, 13, .inr (.inl (fun _ => 0))))] ++ ([(q10, .inl (gJ G, 13, .inr (.inl (fun _ => 0))))]))))))))))) C fpX10_39 hin dX10_init_82 0 rfl ⟨rfl, rfl⟩ (Nat.le_of_ble_eq_true rfl) rfl ?_
  refine go_aload_n C dX10_init_85 0 rfl ?_
  refine go_sipush (v := 140) C dX10_init_86 rfl ?_
  refine go_newI (N := 140) C dX10_init_89 (by decide) (by decide) (by decide) (fun q11 => ?_)
  refine go_w (w' := [(T0, .inr (9, [.ref q1, .ref q2, .int 0, .ref q3, .int 0, .ref q4, .int 0, .int 0, .int 0, .int 0, .int 0, .int 0, .ref q5, .ref q6, .ref q7, .ref q8, .ref q9, .ref q10, .null, .null]))] ++ ([(q1, .inl (gI G, 47, .inl (fun _ => 0)))] ++ ([(q2, .inl (gI G, 47, .inl (fun _ => 0)))] ++ ([(q3, .inl (gI G, 16, .inl (fun _ => 0)))] ++ ([(q4, .inl (gI G, 60, .inl (fun _ => 0)))] ++ ([(q5, .inl (gI G, 14, .inl (fun _ => 0)))] ++ ([(q6, .inl (gI G, 14, .inl (fun _ => 0)))] ++ ([(q7, .inl (gZ G, 64, .inl (fun _ => 0)))] ++ ([(q8, .inl (gZ G, 4096, .inl (fun _ => 0)))] ++ ([(q9, .inl (gJ G, 13, .inr (.inl (fun _ => 0))))] ++ ([(q10, .inl (gJ G, 13, .inr (.inl (fun _ => 0))))] ++ ([(q11, .inl (gI G, 140, .inl (fun _ => 0)))])))))))))))) rfl ?_
  refine go_putF (w' := [(T0, .inr (9, [.ref q1, .ref q2, .int 0, .ref q3, .int 0, .ref q4, .int 0, .int 0, .int 0, .int 0, .int 0, .int 0, .ref q5, .ref q6, .ref q7, .ref q8, .ref q9, .ref q10, .ref q11, .null]))] ++ ([(q1, .inl (gI G, 47, .inl (fun _ => 0)))] ++ ([(q2, .inl (gI G, 47, .inl (fun _ => 0)))] ++ ([(q3, .inl (gI G, 16, .inl (fun _ => 0)))] ++ ([(q4, .inl (gI G, 60, .inl (fun _ => 0)))] ++ ([(q5, .inl (gI G, 14, .inl (fun _ => 0)))] ++ ([(q6, .inl (gI G, 14, .inl (fun _ => 0)))] ++ ([(q7, .inl (gZ G, 64, .inl (fun _ => 0)))] ++ ([(q8, .inl (gZ G, 4096, .inl (fun _ => 0)))] ++ ([(q9, .inl (gJ G, 13, .inr (.inl (fun _ => 0))))] ++ ([(q10, .inl (gJ G, 13, .inr (.inl (fun _ => 0))))] ++ ([(q11, .inl (gI G, 140, .inl (fun _ => 0)))])))))))))))) C fpX10_42 hin dX10_init_91 0 rfl ⟨rfl, rfl⟩ (Nat.le_of_ble_eq_true rfl) rfl ?_
  refine go_aload_n C dX10_init_94 0 rfl ?_
  refine go_iconst (v := 2) C dX10_init_95 rfl ?_
  refine go_newZ (N := 2) C dX10_init_96 (by decide) (by decide) (by decide) (fun q12 => ?_)
  refine go_w (w' := [(T0, .inr (9, [.ref q1, .ref q2, .int 0, .ref q3, .int 0, .ref q4, .int 0, .int 0, .int 0, .int 0, .int 0, .int 0, .ref q5, .ref q6, .ref q7, .ref q8, .ref q9, .ref q10, .ref q11, .null]))] ++ ([(q1, .inl (gI G, 47, .inl (fun _ => 0)))] ++ ([(q2, .inl (gI G, 47, .inl (fun _ => 0)))] ++ ([(q3, .inl (gI G, 16, .inl (fun _ => 0)))] ++ ([(q4, .inl (gI G, 60, .inl (fun _ => 0)))] ++ ([(q5, .inl (gI G, 14, .inl (fun _ => 0)))] ++ ([(q6, .inl (gI G, 14, .inl (fun _ => 0)))] ++ ([(q7, .inl (gZ G, 64, .inl (fun _ => 0)))] ++ ([(q8, .inl (gZ G, 4096, .inl (fun _ => 0)))] ++ ([(q9, .inl (gJ G, 13, .inr (.inl (fun _ => 0))))] ++ ([(q10, .inl (gJ G, 13, .inr (.inl (fun _ => 0))))] ++ ([(q11, .inl (gI G, 140, .inl (fun _ => 0)))] ++ ([(q12, .inl (gZ G, 2, .inl (fun _ => 0)))]))))))))))))) rfl ?_
  refine go_putF (w' := [(T0, .inr (9, [.ref q1, .ref q2, .int 0, .ref q3, .int 0, .ref q4, .int 0, .int 0, .int 0, .int 0, .int 0, .int 0, .ref q5, .ref q6, .ref q7, .ref q8, .ref q9, .ref q10, .ref q11, .ref q12]))] ++ ([(q1, .inl (gI G, 47, .inl (fun _ => 0)))] ++ ([(q2, .inl (gI G, 47, .inl (fun _ => 0)))] ++ ([(q3, .inl (gI G, 16, .inl (fun _ => 0)))] ++ ([(q4, .inl (gI G, 60, .inl (fun _ => 0)))] ++ ([(q5, .inl (gI G, 14, .inl (fun _ => 0)))] ++ ([(q6, .inl (gI G, 14, .inl (fun _ => 0)))] ++ ([(q7, .inl (gZ G, 64, .inl (fun _ => 0)))] ++ ([(q8, .inl (gZ G, 4096, .inl (fun _ => 0)))] ++ ([(q9, .inl (gJ G, 13, .inr (.inl (fun _ => 0))))] ++ ([(q10, .inl (gJ G, 13, .inr (.inl (fun _ => 0))))] ++ ([(q11, .inl (gI G, 140, .inl (fun _ => 0)))] ++ ([(q12, .inl (gZ G, 2, .inl (fun _ => 0)))]))))))))))))) C fpX10_45 hin dX10_init_98 0 rfl ⟨rfl, rfl⟩ (Nat.le_of_ble_eq_true rfl) rfl ?_
  refine go_w (w' := u10 G T0 q1 q2 q3 q4 q5 q6 q7 q8 q9 q10 q11 q12 i10) rfl ?_
  exact m10_init_J101_k C T0 q1 q2 q3 q4 q5 q6 q7 q8 q9 q10 q11 q12 i10 R0 h

