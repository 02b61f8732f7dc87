abbrev Ad : Type := Nat × Nat × Nat × Nat × Nat × Nat
/-- an image's cells: none, or a brigade's -/
def imW (G : gG) (x : Ad) (I : Option SX1) : va_W := match I with
  | none => []
  | some S => u1 G x.1 x.2.1 x.2.2.1 x.2.2.2.1 x.2.2.2.2.1 x.2.2.2.2.2 S
def imA (x : Ad) (I : Option SX1) : Option Nat := match I with
  | none => none
  | some _ => some x.1
def imF (x0 x1 : Ad) (I0 I1 : Option SX1) : Nat → Option Nat := fun j => if j = 0 then imA x0 I0 else if j = 1 then imA x1 I1 else none
def imT (G : gG) (x0 x1 : Ad) (I0 I1 : Option SX1) : va_W := imW G x0 I0 ++ imW G x1 I1
def imC (G : gG) (Im0 : Nat) (x0 x1 : Ad) (I0 I1 : Option SX1) : va_W := [(Im0, .inl (gO G, 2, .inr (.inr (.inr (.inr (imF x0 x1 I0 I1))))))]
def m9_image (B : SX1) (I0 I1 : Option SX1) (n : Int32) : Option (Int32 × Option SX1 × Option SX1) :=
  tbd (m9_isImage n) (fun r => if r = 0 then some (-2, I0, I1) else if n = 0 then tbd (m1_copyFrom (I0.getD i1) B) (fun S => some (1, some S, I1)) else tbd (m1_copyFrom (I1.getD i1) B) (fun S => some (1, I0, some S)))
def m9_restore (B : SX1) (I0 I1 : Option SX1) (n : Int32) : Option (Int32 × SX1) :=
  tbd (m9_isImage n) (fun r => if r = 0 then some (-2, B) else match (if n = 0 then I0 else I1) with
    | none => some (-3, B)
    | some S => tbd (m1_copyFrom B S) (fun B2 => some (1, B2)))
theorem isImage_01 {n r : Int32} (h : m9_isImage n = some r) (hr : ¬ r = 0) : n = 0 ∨ n = 1 := by
  unfold m9_isImage at h
  by_cases h1 : n < 0
  · rw [if_pos h1] at h; cases h; exact absurd rfl hr
  · rw [if_neg h1] at h
    by_cases h2 : (2 : Int32) ≤ n
    · rw [if_pos h2] at h; cases h; exact absurd rfl hr
    · have e0 : 0 ≤ n.toInt := by
        have := Int32.not_lt.mp h1
        simpa using Int32.le_iff_toInt_le.mp this
      have e1 : n.toInt < 2 := by
        have := Int32.not_le.mp h2
        simpa using Int32.lt_iff_toInt_lt.mp this
      rcases (show n.toInt = 0 ∨ n.toInt = 1 by omega) with h | h
      · exact Or.inl (Int32.toInt_inj.mp h)
      · exact Or.inr (Int32.toInt_inj.mp h)
theorem imF_up0 {x0 x1 y : Ad} {I1 : Option SX1} {S : SX1} : va_up (imF x0 x1 none I1) 0 (some y.1) = imF y x1 (some S) I1 := by
  funext j
  unfold va_up imF imA
  by_cases h : j = 0
  · rw [if_pos h, if_pos h]
  · rw [if_neg h, if_neg h, if_neg h]
theorem imF_up1 {x0 x1 y : Ad} {I0 : Option SX1} {S : SX1} : va_up (imF x0 x1 I0 none) 1 (some y.1) = imF x0 y I0 (some S) := by
  funext j
  unfold va_up imF imA
  by_cases h : j = 1
  · subst h; rfl
  · rw [if_neg h, if_neg h]
    by_cases h0 : j = 0
    · rw [if_pos h0, if_pos h0]
    · rw [if_neg h0, if_neg h0, if_neg h]
section
variable {p : Program} {l : Launch} {e : Env} {R : Room} {s : State} {m : MethodId} {args : Array Value} {below : List Frame} {meth : Method} {c : Code} {G : gG} {A : Nat → Prop} {own : String} {cc : ByteArray} {nL cs sl : Nat} {ret : Option FieldType} {Q : State → Prop} {pc : Nat} {lv : List (Nat × Value)} {st : List Value} {w w' : va_W}
theorem go_aaload (C : Cx p e s m args meth c G own cc nL ret A) {a n : Nat} {f : Nat → Option Nat} {i : Int32} {v : Value} (hd : decode cc pc = .ok (.aaload, 1)) (q0 : Nat) (ha : w[q0]? = some (a, .inl (gO G, n, .inr (.inr (.inr (.inr f)))))) (hi : tin i n = true) (hv : va_rf (f i.toNatClampNeg) = v) (kk : Gq p l e R s m args below meth c G A nL cs sl Q (pc + 1) lv (v :: st) w) : Gq p l e R s m args below meth c G A nL cs sl Q pc lv (.int i :: .ref a :: st) w := by
  subst hv
  exact fun H locs ls hP hD hS h => va_aldq C.1 C.2.1 C.2.2.2.2.2.1.1 hP q0 4 ha rfl (tin_e hi) hd (kk H locs ls hP hD hS h)
theorem go_ifnonnull (C : Cx p e s m args meth c G own cc nL ret A) {x : Nat} {off : Int} {tgt : Nat} (hd : decode cc pc = .ok (.ifnonnull off, 3)) (ht : (pc : Int) + off = (tgt : Int)) (kk : Gq p l e R s m args below meth c G A nL cs sl Q tgt lv st w) : Gq p l e R s m args below meth c G A nL cs sl Q pc lv (.ref x :: st) w :=
  fun H locs ls hP hD hS h => lv_ifnonnull C.1 C.2.1 hd ht (kk H locs ls hP hD hS h)
theorem go_ifnonnullN (C : Cx p e s m args meth c G own cc nL ret A) {off : Int} (hd : decode cc pc = .ok (.ifnonnull off, 3)) (kk : Gq p l e R s m args below meth c G A nL cs sl Q (pc + 3) lv st w) : Gq p l e R s m args below meth c G A nL cs sl Q pc lv (.null :: st) w :=
  fun H locs ls hP hD hS h => lv_ifnonnullN C.1 C.2.1 hd (kk H locs ls hP hD hS h)
theorem go_aastore (C : Cx p e s m args meth c G own cc nL ret A) {a v n : Nat} {f : Nat → Option Nat} {i : Int32} {vs : List Value} (hd : decode cc pc = .ok (.aastore, 1)) (q0 qk : Nat) (ha : w[q0]? = some (a, .inl (gO G, n, .inr (.inr (.inr (.inr f)))))) (hv : w[qk]? = some (v, .inr (1, vs))) (hi : tin i n = true) (hw : w.set q0 (a, .inl (gO G, n, .inr (.inr (.inr (.inr (va_up f i.toNatClampNeg (some v))))))) = w') (kk : Gq p l e R s m args below meth c G A nL cs sl Q (pc + 1) lv st w') : Gq p l e R s m args below meth c G A nL cs sl Q pc lv (.ref v :: .int i :: .ref a :: st) w := by
  subst hw
  exact fun H locs ls hP hD hS h => va_astq (r := (RX1, TX1, 11)) C.1 C.2.1 C.2.2.2.2.2.1.1 hP hD hS q0 4 qk 1 ha rfl hv rfl (tin_e hi) hd (fun H1 locs1 hP hD hS => kk H1 locs1 ls hP hD hS h)
end
section
variable {p : Program} {l : Launch} {e : Env} {R : Room} {s : State} {m : MethodId} {args : Array Value} {below : List Frame} {meth : Method} {c : Code} {G : gG} {A : Nat → Prop} {nL cs sl : Nat} {Q : State → Prop} {pc : Nat} {lv : List (Nat × Value)} {st : List Value} {w w' : va_W}
theorem go_perm (is : List Nat) (hW : is.map (fun i => w[i]?) = w'.map some) (hn : va_nd is = true) (kk : Gq p l e R s m args below meth c G A nL cs sl Q pc lv st w') : Gq p l e R s m args below meth c G A nL cs sl Q pc lv st w :=
  fun H locs ls hP hD hS h => kk H locs ls (hP.sub is (fm_of hW)) (hD.sub is hn hW) hS h
end
set_option maxRecDepth 100000 in
set_option maxHeartbeats 4000000 in
theorem m9_image_k (l : Launch) (G : gG) (T0 B0 B1 B2 B3 B4 B5 P0 A0 F0 Ro0 Po0 Tr0 Fe0 Im0 : Nat) (x0 x1 : Ad) (B : SX1) (I0 I1 : Option SX1) (n : Int32) (R0 : Int32 × Option SX1 × Option SX1) (h : m9_image B I0 I1 n = some R0) : KA l G yX9_image cX9_image 2 (some .int) 2 81 6 55 [.ref T0, .int n] (u9 G T0 B0 P0 A0 F0 Ro0 Po0 Tr0 Fe0 Im0 () ++ (u1 G B0 B1 B2 B3 B4 B5 B ++ (imC G Im0 x0 x1 I0 I1 ++ (imT G x0 x1 I0 I1)))) (some (.int R0.1)) (fun (x : Ad × Ad) => u9 G T0 B0 P0 A0 F0 Ro0 Po0 Tr0 Fe0 Im0 () ++ (u1 G B0 B1 B2 B3 B4 B5 B ++ (imC G Im0 x.1 x.2 R0.2.1 R0.2.2 ++ (imT G x.1 x.2 R0.2.1 R0.2.2)))) := by
  refine KA_intro (own := RX9) (by decide +kernel) rfl (Nat.le_of_ble_eq_true rfl) rfl ?_
  intro p e s m args below meth c A C hin
  unfold m9_image at h
  refine go_iload_n C dX9_image_0 1 rfl ?_
  obtain ⟨r, hr, h⟩ := tbd_e h
  refine go_callS0 C cfX9_251 (wr35 _ (List.mem_of_getElem? (i := 9) rfl)) (m9_isImage_k l G n r hr) dX9_image_1 (by decide) (by decide) rfl rfl (Nat.le_of_ble_eq_true rfl) ?_
  by_cases q : r = 0
  · rw [if_pos q] at h
    cases h
    refine go_if_ne (t1 := some ()) (t2 := none) (r := ()) (tgt := 10) C (if_pos q) dX9_image_4 rfl (fun h => by cases h) (fun h => ?_)
    refine go_bipush (v := -2) C dX9_image_7 rfl ?_
    refine go_widen (k := 6) (n := 55) (by decide) (by decide) ?_
    exact go_iretA C dX9_image_9 (x0, x1) rfl rfl
  · rw [if_neg q] at h
    refine go_if_ne (t1 := none) (t2 := some ()) (r := ()) (tgt := 10) C (if_neg q) dX9_image_4 rfl (fun _ => ?_) (fun h => by cases h)
    rcases isImage_01 hr q with rfl | rfl
    · rw [if_pos rfl] at h
      obtain ⟨S, hk, h⟩ := tbd_e h
      cases h
      cases I0 with
      | none =>
        cases I1 with
        | none =>
          refine go_w (w' := u9 G T0 B0 P0 A0 F0 Ro0 Po0 Tr0 Fe0 Im0 () ++ (u1 G B0 B1 B2 B3 B4 B5 B ++ ([(Im0, .inl (gO G, 2, .inr (.inr (.inr (.inr (imF x0 x1 none none))))))]))) rfl ?_
          refine go_aload_n C dX9_image_10 0 rfl ?_
          refine go_get (v := .ref Im0) C ffX9_65 dX9_image_11 0 rfl rfl ?_
          refine go_iload_n C dX9_image_14 1 rfl ?_
          refine go_aaload (v := .null) C dX9_image_15 7 rfl (by decide) rfl ?_
          refine go_ifnonnullN C dX9_image_16 ?_
          refine go_aload_n C dX9_image_19 0 rfl ?_
          refine go_get (v := .ref Im0) C ffX9_65 dX9_image_20 0 rfl rfl ?_
          refine go_iload_n C dX9_image_23 1 rfl ?_
          refine go_new C nwX9_9 dX9_image_24 (by decide) (by decide) (fun q => ?_)
          refine go_w (w' := u9 G T0 B0 P0 A0 F0 Ro0 Po0 Tr0 Fe0 Im0 () ++ (u1 G B0 B1 B2 B3 B4 B5 B ++ ([(Im0, .inl (gO G, 2, .inr (.inr (.inr (.inr (imF x0 x1 none none))))))] ++ ([(q, .inr (1, [.null, .null, .int 0, .null, .null, .null, .int 0, .int 0, .int 0, .int 0, .int 0]))])))) rfl ?_
          refine go_dup C dX9_image_27 rfl ?_
          refine go_callI (wr := u9 G T0 B0 P0 A0 F0 Ro0 Po0 Tr0 Fe0 Im0 () ++ (u1 G B0 B1 B2 B3 B4 B5 B ++ ([(Im0, .inl (gO G, 2, .inr (.inr (.inr (.inr (imF x0 x1 none none))))))]))) C cfX9_11 vnX1 (m1_init_k l G q) dX9_image_28 (by decide) (by decide) (Nat.le_of_ble_eq_true rfl) [8] [0, 1, 2, 3, 4, 5, 6, 7] rfl rfl (by decide) (fun z => ?_)
          obtain ⟨yy, hyy⟩ : ∃ yy : Ad, yy = (q, z) := ⟨_, rfl⟩
          have hq : q = yy.1 := by rw [hyy]
          have hz : z = yy.2 := by rw [hyy]
          subst hz
          subst hq
          refine go_w (w' := u9 G T0 B0 P0 A0 F0 Ro0 Po0 Tr0 Fe0 Im0 () ++ (u1 G B0 B1 B2 B3 B4 B5 B ++ ([(Im0, .inl (gO G, 2, .inr (.inr (.inr (.inr (imF x0 x1 none none))))))] ++ (u1 G yy.1 yy.2.1 yy.2.2.1 yy.2.2.2.1 yy.2.2.2.2.1 yy.2.2.2.2.2 i1)))) rfl ?_
          refine go_aastore (w' := u9 G T0 B0 P0 A0 F0 Ro0 Po0 Tr0 Fe0 Im0 () ++ (u1 G B0 B1 B2 B3 B4 B5 B ++ ([(Im0, .inl (gO G, 2, .inr (.inr (.inr (.inr (imF yy x1 (some i1) none))))))] ++ (u1 G yy.1 yy.2.1 yy.2.2.1 yy.2.2.2.1 yy.2.2.2.2.1 yy.2.2.2.2.2 i1)))) C dX9_image_31 7 8 rfl rfl (by decide) (congrArg (fun z => u9 G T0 B0 P0 A0 F0 Ro0 Po0 Tr0 Fe0 Im0 () ++ (u1 G B0 B1 B2 B3 B4 B5 B ++ ([(Im0, .inl (gO G, 2, .inr (.inr (.inr (.inr (z))))))] ++ (u1 G yy.1 yy.2.1 yy.2.2.1 yy.2.2.2.1 yy.2.2.2.2.1 yy.2.2.2.2.2 i1)))) (imF_up0 (x0 := x0) (x1 := x1) (y := yy) (S := i1))) ?_
          refine go_aload_n C dX9_image_32 0 rfl ?_
          refine go_get (v := .ref Im0) C ffX9_65 dX9_image_33 0 rfl rfl ?_
          refine go_iload_n C dX9_image_36 1 rfl ?_
          refine go_aaload (v := .ref yy.1) C dX9_image_37 7 rfl (by decide) rfl ?_
          refine go_aload_n C dX9_image_38 0 rfl ?_
          refine go_get (v := .ref B0) C ffX9_12 dX9_image_39 0 rfl rfl ?_
          refine go_callV (q0 := 8) (wr := u9 G T0 B0 P0 A0 F0 Ro0 Po0 Tr0 Fe0 Im0 () ++ ([(Im0, .inl (gO G, 2, .inr (.inr (.inr (.inr (imF yy x1 (some i1) none))))))])) (w' := u9 G T0 B0 P0 A0 F0 Ro0 Po0 Tr0 Fe0 Im0 () ++ (u1 G B0 B1 B2 B3 B4 B5 B ++ ([(Im0, .inl (gO G, 2, .inr (.inr (.inr (.inr (imF yy x1 (some i1) none))))))] ++ (u1 G yy.1 yy.2.1 yy.2.2.1 yy.2.2.2.1 yy.2.2.2.2.1 yy.2.2.2.2.2 S)))) C cfX9_137 viX1_copyFrom (m1_copyFrom_k l G yy.1 yy.2.1 yy.2.2.1 yy.2.2.2.1 yy.2.2.2.2.1 yy.2.2.2.2.2 B0 B1 B2 B3 B4 B5 i1 B S hk) dX9_image_42 (by decide) (by decide) rfl rfl (Nat.le_of_ble_eq_true rfl) rfl [8, 9, 10, 11, 12, 13, 1, 2, 3, 4, 5, 6] [0, 7] [0, 8, 9, 10, 11, 12, 13, 1, 2, 3, 4, 5, 6, 7] rfl rfl (by decide) rfl ?_
          refine go_iconst (v := 1) C dX9_image_45 rfl ?_
          refine go_widen (k := 6) (n := 55) (by decide) (by decide) ?_
          exact go_iretA C dX9_image_46 (yy, x1) rfl rfl
        | some S1 =>
          refine go_w (w' := u9 G T0 B0 P0 A0 F0 Ro0 Po0 Tr0 Fe0 Im0 () ++ (u1 G B0 B1 B2 B3 B4 B5 B ++ ([(Im0, .inl (gO G, 2, .inr (.inr (.inr (.inr (imF x0 x1 none (some S1)))))))] ++ (u1 G x1.1 x1.2.1 x1.2.2.1 x1.2.2.2.1 x1.2.2.2.2.1 x1.2.2.2.2.2 S1)))) rfl ?_
          refine go_aload_n C dX9_image_10 0 rfl ?_
          refine go_get (v := .ref Im0) C ffX9_65 dX9_image_11 0 rfl rfl ?_
          refine go_iload_n C dX9_image_14 1 rfl ?_
          refine go_aaload (v := .null) C dX9_image_15 7 rfl (by decide) rfl ?_
          refine go_ifnonnullN C dX9_image_16 ?_
          refine go_aload_n C dX9_image_19 0 rfl ?_
          refine go_get (v := .ref Im0) C ffX9_65 dX9_image_20 0 rfl rfl ?_
          refine go_iload_n C dX9_image_23 1 rfl ?_
          refine go_new C nwX9_9 dX9_image_24 (by decide) (by decide) (fun q => ?_)
          refine go_w (w' := u9 G T0 B0 P0 A0 F0 Ro0 Po0 Tr0 Fe0 Im0 () ++ (u1 G B0 B1 B2 B3 B4 B5 B ++ ([(Im0, .inl (gO G, 2, .inr (.inr (.inr (.inr (imF x0 x1 none (some S1)))))))] ++ (u1 G x1.1 x1.2.1 x1.2.2.1 x1.2.2.2.1 x1.2.2.2.2.1 x1.2.2.2.2.2 S1 ++ ([(q, .inr (1, [.null, .null, .int 0, .null, .null, .null, .int 0, .int 0, .int 0, .int 0, .int 0]))]))))) rfl ?_
          refine go_dup C dX9_image_27 rfl ?_
          refine go_callI (wr := u9 G T0 B0 P0 A0 F0 Ro0 Po0 Tr0 Fe0 Im0 () ++ (u1 G B0 B1 B2 B3 B4 B5 B ++ ([(Im0, .inl (gO G, 2, .inr (.inr (.inr (.inr (imF x0 x1 none (some S1)))))))] ++ (u1 G x1.1 x1.2.1 x1.2.2.1 x1.2.2.2.1 x1.2.2.2.2.1 x1.2.2.2.2.2 S1)))) C cfX9_11 vnX1 (m1_init_k l G q) dX9_image_28 (by decide) (by decide) (Nat.le_of_ble_eq_true rfl) [14] [0, 1, 2, 3, 4, 5, 6, 7, 8, 9, 10, 11, 12, 13] rfl rfl (by decide) (fun z => ?_)
          obtain ⟨yy, hyy⟩ : ∃ yy : Ad, yy = (q, z) := ⟨_, rfl⟩
          have hq : q = yy.1 := by rw [hyy]
          have hz : z = yy.2 := by rw [hyy]
          subst hz
          subst hq
          refine go_w (w' := u9 G T0 B0 P0 A0 F0 Ro0 Po0 Tr0 Fe0 Im0 () ++ (u1 G B0 B1 B2 B3 B4 B5 B ++ ([(Im0, .inl (gO G, 2, .inr (.inr (.inr (.inr (imF x0 x1 none (some S1)))))))] ++ (u1 G x1.1 x1.2.1 x1.2.2.1 x1.2.2.2.1 x1.2.2.2.2.1 x1.2.2.2.2.2 S1 ++ (u1 G yy.1 yy.2.1 yy.2.2.1 yy.2.2.2.1 yy.2.2.2.2.1 yy.2.2.2.2.2 i1))))) rfl ?_
          refine go_aastore (w' := u9 G T0 B0 P0 A0 F0 Ro0 Po0 Tr0 Fe0 Im0 () ++ (u1 G B0 B1 B2 B3 B4 B5 B ++ ([(Im0, .inl (gO G, 2, .inr (.inr (.inr (.inr (imF yy x1 (some i1) (some S1)))))))] ++ (u1 G x1.1 x1.2.1 x1.2.2.1 x1.2.2.2.1 x1.2.2.2.2.1 x1.2.2.2.2.2 S1 ++ (u1 G yy.1 yy.2.1 yy.2.2.1 yy.2.2.2.1 yy.2.2.2.2.1 yy.2.2.2.2.2 i1))))) C dX9_image_31 7 14 rfl rfl (by decide) (congrArg (fun z => u9 G T0 B0 P0 A0 F0 Ro0 Po0 Tr0 Fe0 Im0 () ++ (u1 G B0 B1 B2 B3 B4 B5 B ++ ([(Im0, .inl (gO G, 2, .inr (.inr (.inr (.inr (z))))))] ++ (u1 G x1.1 x1.2.1 x1.2.2.1 x1.2.2.2.1 x1.2.2.2.2.1 x1.2.2.2.2.2 S1 ++ (u1 G yy.1 yy.2.1 yy.2.2.1 yy.2.2.2.1 yy.2.2.2.2.1 yy.2.2.2.2.2 i1))))) (imF_up0 (x0 := x0) (x1 := x1) (y := yy) (S := i1))) ?_
          refine go_perm (w' := u9 G T0 B0 P0 A0 F0 Ro0 Po0 Tr0 Fe0 Im0 () ++ (u1 G B0 B1 B2 B3 B4 B5 B ++ ([(Im0, .inl (gO G, 2, .inr (.inr (.inr (.inr (imF yy x1 (some i1) (some S1)))))))] ++ (u1 G yy.1 yy.2.1 yy.2.2.1 yy.2.2.2.1 yy.2.2.2.2.1 yy.2.2.2.2.2 i1 ++ (u1 G x1.1 x1.2.1 x1.2.2.1 x1.2.2.2.1 x1.2.2.2.2.1 x1.2.2.2.2.2 S1))))) [0, 1, 2, 3, 4, 5, 6, 7, 14, 15, 16, 17, 18, 19, 8, 9, 10, 11, 12, 13] rfl (by decide) ?_
          refine go_aload_n C dX9_image_32 0 rfl ?_
          refine go_get (v := .ref Im0) C ffX9_65 dX9_image_33 0 rfl rfl ?_
          refine go_iload_n C dX9_image_36 1 rfl ?_
          refine go_aaload (v := .ref yy.1) C dX9_image_37 7 rfl (by decide) rfl ?_
          refine go_aload_n C dX9_image_38 0 rfl ?_
          refine go_get (v := .ref B0) C ffX9_12 dX9_image_39 0 rfl rfl ?_
          refine go_callV (q0 := 8) (wr := u9 G T0 B0 P0 A0 F0 Ro0 Po0 Tr0 Fe0 Im0 () ++ ([(Im0, .inl (gO G, 2, .inr (.inr (.inr (.inr (imF yy x1 (some i1) (some S1)))))))] ++ (u1 G x1.1 x1.2.1 x1.2.2.1 x1.2.2.2.1 x1.2.2.2.2.1 x1.2.2.2.2.2 S1))) (w' := u9 G T0 B0 P0 A0 F0 Ro0 Po0 Tr0 Fe0 Im0 () ++ (u1 G B0 B1 B2 B3 B4 B5 B ++ ([(Im0, .inl (gO G, 2, .inr (.inr (.inr (.inr (imF yy x1 (some i1) (some S1)))))))] ++ (u1 G yy.1 yy.2.1 yy.2.2.1 yy.2.2.2.1 yy.2.2.2.2.1 yy.2.2.2.2.2 S ++ (u1 G x1.1 x1.2.1 x1.2.2.1 x1.2.2.2.1 x1.2.2.2.2.1 x1.2.2.2.2.2 S1))))) C cfX9_137 viX1_copyFrom (m1_copyFrom_k l G yy.1 yy.2.1 yy.2.2.1 yy.2.2.2.1 yy.2.2.2.2.1 yy.2.2.2.2.2 B0 B1 B2 B3 B4 B5 i1 B S hk) dX9_image_42 (by decide) (by decide) rfl rfl (Nat.le_of_ble_eq_true rfl) rfl [8, 9, 10, 11, 12, 13, 1, 2, 3, 4, 5, 6] [0, 7, 14, 15, 16, 17, 18, 19] [0, 14, 15, 16, 17, 18, 19, 1, 8, 9, 10, 11, 12, 13, 2, 3, 4, 5, 6, 7] rfl rfl (by decide) rfl ?_
          refine go_iconst (v := 1) C dX9_image_45 rfl ?_
          refine go_widen (k := 6) (n := 55) (by decide) (by decide) ?_
          exact go_iretA C dX9_image_46 (yy, x1) rfl rfl
      | some S0 =>
        cases I1 with
        | none =>
          refine go_w (w' := u9 G T0 B0 P0 A0 F0 Ro0 Po0 Tr0 Fe0 Im0 () ++ (u1 G B0 B1 B2 B3 B4 B5 B ++ ([(Im0, .inl (gO G, 2, .inr (.inr (.inr (.inr (imF x0 x1 (some S0) none))))))] ++ (u1 G x0.1 x0.2.1 x0.2.2.1 x0.2.2.2.1 x0.2.2.2.2.1 x0.2.2.2.2.2 S0)))) rfl ?_
          refine go_aload_n C dX9_image_10 0 rfl ?_
          refine go_get (v := .ref Im0) C ffX9_65 dX9_image_11 0 rfl rfl ?_
          refine go_iload_n C dX9_image_14 1 rfl ?_
          refine go_aaload (v := .ref x0.1) C dX9_image_15 7 rfl (by decide) rfl ?_
          refine go_ifnonnull (tgt := 32) C dX9_image_16 rfl ?_
          refine go_aload_n C dX9_image_32 0 rfl ?_
          refine go_get (v := .ref Im0) C ffX9_65 dX9_image_33 0 rfl rfl ?_
          refine go_iload_n C dX9_image_36 1 rfl ?_
          refine go_aaload (v := .ref x0.1) C dX9_image_37 7 rfl (by decide) rfl ?_
          refine go_aload_n C dX9_image_38 0 rfl ?_
          refine go_get (v := .ref B0) C ffX9_12 dX9_image_39 0 rfl rfl ?_
          refine go_callV (q0 := 8) (wr := u9 G T0 B0 P0 A0 F0 Ro0 Po0 Tr0 Fe0 Im0 () ++ ([(Im0, .inl (gO G, 2, .inr (.inr (.inr (.inr (imF x0 x1 (some S0) none))))))])) (w' := u9 G T0 B0 P0 A0 F0 Ro0 Po0 Tr0 Fe0 Im0 () ++ (u1 G B0 B1 B2 B3 B4 B5 B ++ ([(Im0, .inl (gO G, 2, .inr (.inr (.inr (.inr (imF x0 x1 (some S0) none))))))] ++ (u1 G x0.1 x0.2.1 x0.2.2.1 x0.2.2.2.1 x0.2.2.2.2.1 x0.2.2.2.2.2 S)))) C cfX9_137 viX1_copyFrom (m1_copyFrom_k l G x0.1 x0.2.1 x0.2.2.1 x0.2.2.2.1 x0.2.2.2.2.1 x0.2.2.2.2.2 B0 B1 B2 B3 B4 B5 S0 B S hk) dX9_image_42 (by decide) (by decide) rfl rfl (Nat.le_of_ble_eq_true rfl) rfl [8, 9, 10, 11, 12, 13, 1, 2, 3, 4, 5, 6] [0, 7] [0, 8, 9, 10, 11, 12, 13, 1, 2, 3, 4, 5, 6, 7] rfl rfl (by decide) rfl ?_
          refine go_iconst (v := 1) C dX9_image_45 rfl ?_
          refine go_widen (k := 6) (n := 55) (by decide) (by decide) ?_
          exact go_iretA C dX9_image_46 (x0, x1) rfl rfl
        | some S1 =>
          refine go_w (w' := u9 G T0 B0 P0 A0 F0 Ro0 Po0 Tr0 Fe0 Im0 () ++ (u1 G B0 B1 B2 B3 B4 B5 B ++ ([(Im0, .inl (gO G, 2, .inr (.inr (.inr (.inr (imF x0 x1 (some S0) (some S1)))))))] ++ (u1 G x0.1 x0.2.1 x0.2.2.1 x0.2.2.2.1 x0.2.2.2.2.1 x0.2.2.2.2.2 S0 ++ (u1 G x1.1 x1.2.1 x1.2.2.1 x1.2.2.2.1 x1.2.2.2.2.1 x1.2.2.2.2.2 S1))))) rfl ?_
          refine go_aload_n C dX9_image_10 0 rfl ?_
          refine go_get (v := .ref Im0) C ffX9_65 dX9_image_11 0 rfl rfl ?_
          refine go_iload_n C dX9_image_14 1 rfl ?_
          refine go_aaload (v := .ref x0.1) C dX9_image_15 7 rfl (by decide) rfl ?_
          refine go_ifnonnull (tgt := 32) C dX9_image_16 rfl ?_
          refine go_aload_n C dX9_image_32 0 rfl ?_
          refine go_get (v := .ref Im0) C ffX9_65 dX9_image_33 0 rfl rfl ?_
          refine go_iload_n C dX9_image_36 1 rfl ?_
          refine go_aaload (v := .ref x0.1) C dX9_image_37 7 rfl (by decide) rfl ?_
          refine go_aload_n C dX9_image_38 0 rfl ?_
          refine go_get (v := .ref B0) C ffX9_12 dX9_image_39 0 rfl rfl ?_
          refine go_callV (q0 := 8) (wr := u9 G T0 B0 P0 A0 F0 Ro0 Po0 Tr0 Fe0 Im0 () ++ ([(Im0, .inl (gO G, 2, .inr (.inr (.inr (.inr (imF x0 x1 (some S0) (some S1)))))))] ++ (u1 G x1.1 x1.2.1 x1.2.2.1 x1.2.2.2.1 x1.2.2.2.2.1 x1.2.2.2.2.2 S1))) (w' := u9 G T0 B0 P0 A0 F0 Ro0 Po0 Tr0 Fe0 Im0 () ++ (u1 G B0 B1 B2 B3 B4 B5 B ++ ([(Im0, .inl (gO G, 2, .inr (.inr (.inr (.inr (imF x0 x1 (some S0) (some S1)))))))] ++ (u1 G x0.1 x0.2.1 x0.2.2.1 x0.2.2.2.1 x0.2.2.2.2.1 x0.2.2.2.2.2 S ++ (u1 G x1.1 x1.2.1 x1.2.2.1 x1.2.2.2.1 x1.2.2.2.2.1 x1.2.2.2.2.2 S1))))) C cfX9_137 viX1_copyFrom (m1_copyFrom_k l G x0.1 x0.2.1 x0.2.2.1 x0.2.2.2.1 x0.2.2.2.2.1 x0.2.2.2.2.2 B0 B1 B2 B3 B4 B5 S0 B S hk) dX9_image_42 (by decide) (by decide) rfl rfl (Nat.le_of_ble_eq_true rfl) rfl [8, 9, 10, 11, 12, 13, 1, 2, 3, 4, 5, 6] [0, 7, 14, 15, 16, 17, 18, 19] [0, 14, 15, 16, 17, 18, 19, 1, 8, 9, 10, 11, 12, 13, 2, 3, 4, 5, 6, 7] rfl rfl (by decide) rfl ?_
          refine go_iconst (v := 1) C dX9_image_45 rfl ?_
          refine go_widen (k := 6) (n := 55) (by decide) (by decide) ?_
          exact go_iretA C dX9_image_46 (x0, x1) rfl rfl
    · rw [if_neg (by decide)] at h
      obtain ⟨S, hk, h⟩ := tbd_e h
      cases h
      cases I0 with
      | none =>
        cases I1 with
        | none =>
          refine go_w (w' := u9 G T0 B0 P0 A0 F0 Ro0 Po0 Tr0 Fe0 Im0 () ++ (u1 G B0 B1 B2 B3 B4 B5 B ++ ([(Im0, .inl (gO G, 2, .inr (.inr (.inr (.inr (imF x0 x1 none none))))))]))) rfl ?_
          refine go_aload_n C dX9_image_10 0 rfl ?_
          refine go_get (v := .ref Im0) C ffX9_65 dX9_image_11 0 rfl rfl ?_
          refine go_iload_n C dX9_image_14 1 rfl ?_
          refine go_aaload (v := .null) C dX9_image_15 7 rfl (by decide) rfl ?_
          refine go_ifnonnullN C dX9_image_16 ?_
          refine go_aload_n C dX9_image_19 0 rfl ?_
          refine go_get (v := .ref Im0) C ffX9_65 dX9_image_20 0 rfl rfl ?_
          refine go_iload_n C dX9_image_23 1 rfl ?_
          refine go_new C nwX9_9 dX9_image_24 (by decide) (by decide) (fun q => ?_)
          refine go_w (w' := u9 G T0 B0 P0 A0 F0 Ro0 Po0 Tr0 Fe0 Im0 () ++ (u1 G B0 B1 B2 B3 B4 B5 B ++ ([(Im0, .inl (gO G, 2, .inr (.inr (.inr (.inr (imF x0 x1 none none))))))] ++ ([(q, .inr (1, [.null, .null, .int 0, .null, .null, .null, .int 0, .int 0, .int 0, .int 0, .int 0]))])))) rfl ?_
          refine go_dup C dX9_image_27 rfl ?_
          refine go_callI (wr := u9 G T0 B0 P0 A0 F0 Ro0 Po0 Tr0 Fe0 Im0 () ++ (u1 G B0 B1 B2 B3 B4 B5 B ++ ([(Im0, .inl (gO G, 2, .inr (.inr (.inr (.inr (imF x0 x1 none none))))))]))) C cfX9_11 vnX1 (m1_init_k l G q) dX9_image_28 (by decide) (by decide) (Nat.le_of_ble_eq_true rfl) [8] [0, 1, 2, 3, 4, 5, 6, 7] rfl rfl (by decide) (fun z => ?_)
          obtain ⟨yy, hyy⟩ : ∃ yy : Ad, yy = (q, z) := ⟨_, rfl⟩
          have hq : q = yy.1 := by rw [hyy]
          have hz : z = yy.2 := by rw [hyy]
          subst hz
          subst hq
          refine go_w (w' := u9 G T0 B0 P0 A0 F0 Ro0 Po0 Tr0 Fe0 Im0 () ++ (u1 G B0 B1 B2 B3 B4 B5 B ++ ([(Im0, .inl (gO G, 2, .inr (.inr (.inr (.inr (imF x0 x1 none none))))))] ++ (u1 G yy.1 yy.2.1 yy.2.2.1 yy.2.2.2.1 yy.2.2.2.2.1 yy.2.2.2.2.2 i1)))) rfl ?_
          refine go_aastore (w' := u9 G T0 B0 P0 A0 F0 Ro0 Po0 Tr0 Fe0 Im0 () ++ (u1 G B0 B1 B2 B3 B4 B5 B ++ ([(Im0, .inl (gO G, 2, .inr (.inr (.inr (.inr (imF x0 yy none (some i1)))))))] ++ (u1 G yy.1 yy.2.1 yy.2.2.1 yy.2.2.2.1 yy.2.2.2.2.1 yy.2.2.2.2.2 i1)))) C dX9_image_31 7 8 rfl rfl (by decide) (congrArg (fun z => u9 G T0 B0 P0 A0 F0 Ro0 Po0 Tr0 Fe0 Im0 () ++ (u1 G B0 B1 B2 B3 B4 B5 B ++ ([(Im0, .inl (gO G, 2, .inr (.inr (.inr (.inr (z))))))] ++ (u1 G yy.1 yy.2.1 yy.2.2.1 yy.2.2.2.1 yy.2.2.2.2.1 yy.2.2.2.2.2 i1)))) (imF_up1 (x0 := x0) (x1 := x1) (y := yy) (S := i1))) ?_
          refine go_aload_n C dX9_image_32 0 rfl ?_
          refine go_get (v := .ref Im0) C ffX9_65 dX9_image_33 0 rfl rfl ?_
          refine go_iload_n C dX9_image_36 1 rfl ?_
          refine go_aaload (v := .ref yy.1) C dX9_image_37 7 rfl (by decide) rfl ?_
          refine go_aload_n C dX9_image_38 0 rfl ?_
          refine go_get (v := .ref B0) C ffX9_12 dX9_image_39 0 rfl rfl ?_
          refine go_callV (q0 := 8) (wr := u9 G T0 B0 P0 A0 F0 Ro0 Po0 Tr0 Fe0 Im0 () ++ ([(Im0, .inl (gO G, 2, .inr (.inr (.inr (.inr (imF x0 yy none (some i1)))))))])) (w' := u9 G T0 B0 P0 A0 F0 Ro0 Po0 Tr0 Fe0 Im0 () ++ (u1 G B0 B1 B2 B3 B4 B5 B ++ ([(Im0, .inl (gO G, 2, .inr (.inr (.inr (.inr (imF x0 yy none (some i1)))))))] ++ (u1 G yy.1 yy.2.1 yy.2.2.1 yy.2.2.2.1 yy.2.2.2.2.1 yy.2.2.2.2.2 S)))) C cfX9_137 viX1_copyFrom (m1_copyFrom_k l G yy.1 yy.2.1 yy.2.2.1 yy.2.2.2.1 yy.2.2.2.2.1 yy.2.2.2.2.2 B0 B1 B2 B3 B4 B5 i1 B S hk) dX9_image_42 (by decide) (by decide) rfl rfl (Nat.le_of_ble_eq_true rfl) rfl [8, 9, 10, 11, 12, 13, 1, 2, 3, 4, 5, 6] [0, 7] [0, 8, 9, 10, 11, 12, 13, 1, 2, 3, 4, 5, 6, 7] rfl rfl (by decide) rfl ?_
          refine go_iconst (v := 1) C dX9_image_45 rfl ?_
          refine go_widen (k := 6) (n := 55) (by decide) (by decide) ?_
          exact go_iretA C dX9_image_46 (x0, yy) rfl rfl
        | some S1 =>
          refine go_w (w' := u9 G T0 B0 P0 A0 F0 Ro0 Po0 Tr0 Fe0 Im0 () ++ (u1 G B0 B1 B2 B3 B4 B5 B ++ ([(Im0, .inl (gO G, 2, .inr (.inr (.inr (.inr (imF x0 x1 none (some S1)))))))] ++ (u1 G x1.1 x1.2.1 x1.2.2.1 x1.2.2.2.1 x1.2.2.2.2.1 x1.2.2.2.2.2 S1)))) rfl ?_
          refine go_aload_n C dX9_image_10 0 rfl ?_
          refine go_get (v := .ref Im0) C ffX9_65 dX9_image_11 0 rfl rfl ?_
          refine go_iload_n C dX9_image_14 1 rfl ?_
          refine go_aaload (v := .ref x1.1) C dX9_image_15 7 rfl (by decide) rfl ?_
          refine go_ifnonnull (tgt := 32) C dX9_image_16 rfl ?_
          refine go_aload_n C dX9_image_32 0 rfl ?_
          refine go_get (v := .ref Im0) C ffX9_65 dX9_image_33 0 rfl rfl ?_
          refine go_iload_n C dX9_image_36 1 rfl ?_
          refine go_aaload (v := .ref x1.1) C dX9_image_37 7 rfl (by decide) rfl ?_
          refine go_aload_n C dX9_image_38 0 rfl ?_
          refine go_get (v := .ref B0) C ffX9_12 dX9_image_39 0 rfl rfl ?_
          refine go_callV (q0 := 8) (wr := u9 G T0 B0 P0 A0 F0 Ro0 Po0 Tr0 Fe0 Im0 () ++ ([(Im0, .inl (gO G, 2, .inr (.inr (.inr (.inr (imF x0 x1 none (some S1)))))))])) (w' := u9 G T0 B0 P0 A0 F0 Ro0 Po0 Tr0 Fe0 Im0 () ++ (u1 G B0 B1 B2 B3 B4 B5 B ++ ([(Im0, .inl (gO G, 2, .inr (.inr (.inr (.inr (imF x0 x1 none (some S1)))))))] ++ (u1 G x1.1 x1.2.1 x1.2.2.1 x1.2.2.2.1 x1.2.2.2.2.1 x1.2.2.2.2.2 S)))) C cfX9_137 viX1_copyFrom (m1_copyFrom_k l G x1.1 x1.2.1 x1.2.2.1 x1.2.2.2.1 x1.2.2.2.2.1 x1.2.2.2.2.2 B0 B1 B2 B3 B4 B5 S1 B S hk) dX9_image_42 (by decide) (by decide) rfl rfl (Nat.le_of_ble_eq_true rfl) rfl [8, 9, 10, 11, 12, 13, 1, 2, 3, 4, 5, 6] [0, 7] [0, 8, 9, 10, 11, 12, 13, 1, 2, 3, 4, 5, 6, 7] rfl rfl (by decide) rfl ?_
          refine go_iconst (v := 1) C dX9_image_45 rfl ?_
          refine go_widen (k := 6) (n := 55) (by decide) (by decide) ?_
          exact go_iretA C dX9_image_46 (x0, x1) rfl rfl
      | some S0 =>
        cases I1 with
        | none =>
          refine go_w (w' := u9 G T0 B0 P0 A0 F0 Ro0 Po0 Tr0 Fe0 Im0 () ++ (u1 G B0 B1 B2 B3 B4 B5 B ++ ([(Im0, .inl (gO G, 2, .inr (.inr (.inr (.inr (imF x0 x1 (some S0) none))))))] ++ (u1 G x0.1 x0.2.1 x0.2.2.1 x0.2.2.2.1 x0.2.2.2.2.1 x0.2.2.2.2.2 S0)))) rfl ?_
          refine go_aload_n C dX9_image_10 0 rfl ?_
          refine go_get (v := .ref Im0) C ffX9_65 dX9_image_11 0 rfl rfl ?_
          refine go_iload_n C dX9_image_14 1 rfl ?_
          refine go_aaload (v := .null) C dX9_image_15 7 rfl (by decide) rfl ?_
          refine go_ifnonnullN C dX9_image_16 ?_
          refine go_aload_n C dX9_image_19 0 rfl ?_
          refine go_get (v := .ref Im0) C ffX9_65 dX9_image_20 0 rfl rfl ?_
          refine go_iload_n C dX9_image_23 1 rfl ?_
          refine go_new C nwX9_9 dX9_image_24 (by decide) (by decide) (fun q => ?_)
          refine go_w (w' := u9 G T0 B0 P0 A0 F0 Ro0 Po0 Tr0 Fe0 Im0 () ++ (u1 G B0 B1 B2 B3 B4 B5 B ++ ([(Im0, .inl (gO G, 2, .inr (.inr (.inr (.inr (imF x0 x1 (some S0) none))))))] ++ (u1 G x0.1 x0.2.1 x0.2.2.1 x0.2.2.2.1 x0.2.2.2.2.1 x0.2.2.2.2.2 S0 ++ ([(q, .inr (1, [.null, .null, .int 0, .null, .null, .null, .int 0, .int 0, .int 0, .int 0, .int 0]))]))))) rfl ?_
          refine go_dup C dX9_image_27 rfl ?_
          refine go_callI (wr := u9 G T0 B0 P0 A0 F0 Ro0 Po0 Tr0 Fe0 Im0 () ++ (u1 G B0 B1 B2 B3 B4 B5 B ++ ([(Im0, .inl (gO G, 2, .inr (.inr (.inr (.inr (imF x0 x1 (some S0) none))))))] ++ (u1 G x0.1 x0.2.1 x0.2.2.1 x0.2.2.2.1 x0.2.2.2.2.1 x0.2.2.2.2.2 S0)))) C cfX9_11 vnX1 (m1_init_k l G q) dX9_image_28 (by decide) (by decide) (Nat.le_of_ble_eq_true rfl) [14] [0, 1, 2, 3, 4, 5, 6, 7, 8, 9, 10, 11, 12, 13] rfl rfl (by decide) (fun z => ?_)
          obtain ⟨yy, hyy⟩ : ∃ yy : Ad, yy = (q, z) := ⟨_, rfl⟩
          have hq : q = yy.1 := by rw [hyy]
          have hz : z = yy.2 := by rw [hyy]
          subst hz
          subst hq
          refine go_w (w' := u9 G T0 B0 P0 A0 F0 Ro0 Po0 Tr0 Fe0 Im0 () ++ (u1 G B0 B1 B2 B3 B4 B5 B ++ ([(Im0, .inl (gO G, 2, .inr (.inr (.inr (.inr (imF x0 x1 (some S0) none))))))] ++ (u1 G x0.1 x0.2.1 x0.2.2.1 x0.2.2.2.1 x0.2.2.2.2.1 x0.2.2.2.2.2 S0 ++ (u1 G yy.1 yy.2.1 yy.2.2.1 yy.2.2.2.1 yy.2.2.2.2.1 yy.2.2.2.2.2 i1))))) rfl ?_
          refine go_aastore (w' := u9 G T0 B0 P0 A0 F0 Ro0 Po0 Tr0 Fe0 Im0 () ++ (u1 G B0 B1 B2 B3 B4 B5 B ++ ([(Im0, .inl (gO G, 2, .inr (.inr (.inr (.inr (imF x0 yy (some S0) (some i1)))))))] ++ (u1 G x0.1 x0.2.1 x0.2.2.1 x0.2.2.2.1 x0.2.2.2.2.1 x0.2.2.2.2.2 S0 ++ (u1 G yy.1 yy.2.1 yy.2.2.1 yy.2.2.2.1 yy.2.2.2.2.1 yy.2.2.2.2.2 i1))))) C dX9_image_31 7 14 rfl rfl (by decide) (congrArg (fun z => u9 G T0 B0 P0 A0 F0 Ro0 Po0 Tr0 Fe0 Im0 () ++ (u1 G B0 B1 B2 B3 B4 B5 B ++ ([(Im0, .inl (gO G, 2, .inr (.inr (.inr (.inr (z))))))] ++ (u1 G x0.1 x0.2.1 x0.2.2.1 x0.2.2.2.1 x0.2.2.2.2.1 x0.2.2.2.2.2 S0 ++ (u1 G yy.1 yy.2.1 yy.2.2.1 yy.2.2.2.1 yy.2.2.2.2.1 yy.2.2.2.2.2 i1))))) (imF_up1 (x0 := x0) (x1 := x1) (y := yy) (S := i1))) ?_
          refine go_aload_n C dX9_image_32 0 rfl ?_
          refine go_get (v := .ref Im0) C ffX9_65 dX9_image_33 0 rfl rfl ?_
          refine go_iload_n C dX9_image_36 1 rfl ?_
          refine go_aaload (v := .ref yy.1) C dX9_image_37 7 rfl (by decide) rfl ?_
          refine go_aload_n C dX9_image_38 0 rfl ?_
          refine go_get (v := .ref B0) C ffX9_12 dX9_image_39 0 rfl rfl ?_
          refine go_callV (q0 := 14) (wr := u9 G T0 B0 P0 A0 F0 Ro0 Po0 Tr0 Fe0 Im0 () ++ ([(Im0, .inl (gO G, 2, .inr (.inr (.inr (.inr (imF x0 yy (some S0) (some i1)))))))] ++ (u1 G x0.1 x0.2.1 x0.2.2.1 x0.2.2.2.1 x0.2.2.2.2.1 x0.2.2.2.2.2 S0))) (w' := u9 G T0 B0 P0 A0 F0 Ro0 Po0 Tr0 Fe0 Im0 () ++ (u1 G B0 B1 B2 B3 B4 B5 B ++ ([(Im0, .inl (gO G, 2, .inr (.inr (.inr (.inr (imF x0 yy (some S0) (some i1)))))))] ++ (u1 G x0.1 x0.2.1 x0.2.2.1 x0.2.2.2.1 x0.2.2.2.2.1 x0.2.2.2.2.2 S0 ++ (u1 G yy.1 yy.2.1 yy.2.2.1 yy.2.2.2.1 yy.2.2.2.2.1 yy.2.2.2.2.2 S))))) C cfX9_137 viX1_copyFrom (m1_copyFrom_k l G yy.1 yy.2.1 yy.2.2.1 yy.2.2.2.1 yy.2.2.2.2.1 yy.2.2.2.2.2 B0 B1 B2 B3 B4 B5 i1 B S hk) dX9_image_42 (by decide) (by decide) rfl rfl (Nat.le_of_ble_eq_true rfl) rfl [14, 15, 16, 17, 18, 19, 1, 2, 3, 4, 5, 6] [0, 7, 8, 9, 10, 11, 12, 13] [0, 14, 15, 16, 17, 18, 19, 1, 2, 3, 4, 5, 6, 7, 8, 9, 10, 11, 12, 13] rfl rfl (by decide) rfl ?_
          refine go_iconst (v := 1) C dX9_image_45 rfl ?_
          refine go_widen (k := 6) (n := 55) (by decide) (by decide) ?_
          exact go_iretA C dX9_image_46 (x0, yy) rfl rfl
        | some S1 =>
          refine go_w (w' := u9 G T0 B0 P0 A0 F0 Ro0 Po0 Tr0 Fe0 Im0 () ++ (u1 G B0 B1 B2 B3 B4 B5 B ++ ([(Im0, .inl (gO G, 2, .inr (.inr (.inr (.inr (imF x0 x1 (some S0) (some S1)))))))] ++ (u1 G x0.1 x0.2.1 x0.2.2.1 x0.2.2.2.1 x0.2.2.2.2.1 x0.2.2.2.2.2 S0 ++ (u1 G x1.1 x1.2.1 x1.2.2.1 x1.2.2.2.1 x1.2.2.2.2.1 x1.2.2.2.2.2 S1))))) rfl ?_
          refine go_aload_n C dX9_image_10 0 rfl ?_
          refine go_get (v := .ref Im0) C ffX9_65 dX9_image_11 0 rfl rfl ?_
          refine go_iload_n C dX9_image_14 1 rfl ?_
          refine go_aaload (v := .ref x1.1) C dX9_image_15 7 rfl (by decide) rfl ?_
          refine go_ifnonnull (tgt := 32) C dX9_image_16 rfl ?_
          refine go_aload_n C dX9_image_32 0 rfl ?_
          refine go_get (v := .ref Im0) C ffX9_65 dX9_image_33 0 rfl rfl ?_
          refine go_iload_n C dX9_image_36 1 rfl ?_
          refine go_aaload (v := .ref x1.1) C dX9_image_37 7 rfl (by decide) rfl ?_
          refine go_aload_n C dX9_image_38 0 rfl ?_
          refine go_get (v := .ref B0) C ffX9_12 dX9_image_39 0 rfl rfl ?_
          refine go_callV (q0 := 14) (wr := u9 G T0 B0 P0 A0 F0 Ro0 Po0 Tr0 Fe0 Im0 () ++ ([(Im0, .inl (gO G, 2, .inr (.inr (.inr (.inr (imF x0 x1 (some S0) (some S1)))))))] ++ (u1 G x0.1 x0.2.1 x0.2.2.1 x0.2.2.2.1 x0.2.2.2.2.1 x0.2.2.2.2.2 S0))) (w' := u9 G T0 B0 P0 A0 F0 Ro0 Po0 Tr0 Fe0 Im0 () ++ (u1 G B0 B1 B2 B3 B4 B5 B ++ ([(Im0, .inl (gO G, 2, .inr (.inr (.inr (.inr (imF x0 x1 (some S0) (some S1)))))))] ++ (u1 G x0.1 x0.2.1 x0.2.2.1 x0.2.2.2.1 x0.2.2.2.2.1 x0.2.2.2.2.2 S0 ++ (u1 G x1.1 x1.2.1 x1.2.2.1 x1.2.2.2.1 x1.2.2.2.2.1 x1.2.2.2.2.2 S))))) C cfX9_137 viX1_copyFrom (m1_copyFrom_k l G x1.1 x1.2.1 x1.2.2.1 x1.2.2.2.1 x1.2.2.2.2.1 x1.2.2.2.2.2 B0 B1 B2 B3 B4 B5 S1 B S hk) dX9_image_42 (by decide) (by decide) rfl rfl (Nat.le_of_ble_eq_true rfl) rfl [14, 15, 16, 17, 18, 19, 1, 2, 3, 4, 5, 6] [0, 7, 8, 9, 10, 11, 12, 13] [0, 14, 15, 16, 17, 18, 19, 1, 2, 3, 4, 5, 6, 7, 8, 9, 10, 11, 12, 13] rfl rfl (by decide) rfl ?_
          refine go_iconst (v := 1) C dX9_image_45 rfl ?_
          refine go_widen (k := 6) (n := 55) (by decide) (by decide) ?_
          exact go_iretA C dX9_image_46 (x0, x1) rfl rfl

set_option maxRecDepth 100000 in
set_option maxHeartbeats 4000000 in
theorem m9_restore_k (l : Launch) (G : gG) (T0 B0 B1 B2 B3 B4 B5 P0 A0 F0 Ro0 Po0 Tr0 Fe0 Im0 : Nat) (x0 x1 : Ad) (B : SX1) (I0 I1 : Option SX1) (n : Int32) (R0 : Int32 × SX1) (h : m9_restore B I0 I1 n = some R0) : KK l G yX9_restore cX9_restore 2 (some .int) 2 81 [.ref T0, .int n] (u9 G T0 B0 P0 A0 F0 Ro0 Po0 Tr0 Fe0 Im0 () ++ (u1 G B0 B1 B2 B3 B4 B5 B ++ (imC G Im0 x0 x1 I0 I1 ++ (imT G x0 x1 I0 I1)))) (some (.int R0.1)) (u9 G T0 B0 P0 A0 F0 Ro0 Po0 Tr0 Fe0 Im0 () ++ (u1 G B0 B1 B2 B3 B4 B5 R0.2 ++ (imC G Im0 x0 x1 I0 I1 ++ (imT G x0 x1 I0 I1)))) := by
  refine KK_intro (own := RX9) (by decide +kernel) rfl (Nat.le_of_ble_eq_true rfl) rfl ?_
  intro p e s m args below meth c A C
  unfold m9_restore at h
  refine go_iload_n C dX9_restore_0 1 rfl ?_
  obtain ⟨r, hr, h⟩ := tbd_e h
  refine go_callS0 C cfX9_251 (wr35 _ (List.mem_of_getElem? (i := 9) rfl)) (m9_isImage_k l G n r hr) dX9_restore_1 (by decide) (by decide) rfl rfl (Nat.le_of_ble_eq_true rfl) ?_
  by_cases q : r = 0
  · rw [if_pos q] at h
    cases h
    refine go_if_ne (t1 := some ()) (t2 := none) (r := ()) (tgt := 10) C (if_pos q) dX9_restore_4 rfl (fun h => by cases h) (fun h => ?_)
    refine go_bipush (v := -2) C dX9_restore_7 rfl ?_
    exact go_iret C dX9_restore_9 rfl rfl
  · rw [if_neg q] at h
    refine go_if_ne (t1 := none) (t2 := some ()) (r := ()) (tgt := 10) C (if_neg q) dX9_restore_4 rfl (fun _ => ?_) (fun h => by cases h)
    rcases isImage_01 hr q with rfl | rfl
    · rw [if_pos rfl] at h
      cases I0 with
      | none =>
        cases I1 with
        | none =>
          replace h : some ((-3 : Int32), B) = some R0 := h
          refine go_w (w' := u9 G T0 B0 P0 A0 F0 Ro0 Po0 Tr0 Fe0 Im0 () ++ (u1 G B0 B1 B2 B3 B4 B5 B ++ ([(Im0, .inl (gO G, 2, .inr (.inr (.inr (.inr (imF x0 x1 none none))))))]))) rfl ?_
          cases h
          refine go_aload_n C dX9_restore_10 0 rfl ?_
          refine go_get (v := .ref Im0) C ffX9_65 dX9_restore_11 0 rfl rfl ?_
          refine go_iload_n C dX9_restore_14 1 rfl ?_
          refine go_aaload (v := .null) C dX9_restore_15 7 rfl (by decide) rfl ?_
          refine go_ifnonnullN C dX9_restore_16 ?_
          refine go_bipush (v := -3) C dX9_restore_19 rfl ?_
          exact go_iret C dX9_restore_21 rfl rfl
        | some S1 =>
          replace h : some ((-3 : Int32), B) = some R0 := h
          refine go_w (w' := u9 G T0 B0 P0 A0 F0 Ro0 Po0 Tr0 Fe0 Im0 () ++ (u1 G B0 B1 B2 B3 B4 B5 B ++ ([(Im0, .inl (gO G, 2, .inr (.inr (.inr (.inr (imF x0 x1 none (some S1)))))))] ++ (u1 G x1.1 x1.2.1 x1.2.2.1 x1.2.2.2.1 x1.2.2.2.2.1 x1.2.2.2.2.2 S1)))) rfl ?_
          cases h
          refine go_aload_n C dX9_restore_10 0 rfl ?_
          refine go_get (v := .ref Im0) C ffX9_65 dX9_restore_11 0 rfl rfl ?_
          refine go_iload_n C dX9_restore_14 1 rfl ?_
          refine go_aaload (v := .null) C dX9_restore_15 7 rfl (by decide) rfl ?_
          refine go_ifnonnullN C dX9_restore_16 ?_
          refine go_bipush (v := -3) C dX9_restore_19 rfl ?_
          exact go_iret C dX9_restore_21 rfl rfl
      | some S0 =>
        cases I1 with
        | none =>
          replace h : tbd (m1_copyFrom B S0) (fun B2 => some ((1 : Int32), B2)) = some R0 := h
          refine go_w (w' := u9 G T0 B0 P0 A0 F0 Ro0 Po0 Tr0 Fe0 Im0 () ++ (u1 G B0 B1 B2 B3 B4 B5 B ++ ([(Im0, .inl (gO G, 2, .inr (.inr (.inr (.inr (imF x0 x1 (some S0) none))))))] ++ (u1 G x0.1 x0.2.1 x0.2.2.1 x0.2.2.2.1 x0.2.2.2.2.1 x0.2.2.2.2.2 S0)))) rfl ?_
          obtain ⟨Bn, hk, h⟩ := tbd_e h
          cases h
          refine go_aload_n C dX9_restore_10 0 rfl ?_
          refine go_get (v := .ref Im0) C ffX9_65 dX9_restore_11 0 rfl rfl ?_
          refine go_iload_n C dX9_restore_14 1 rfl ?_
          refine go_aaload (v := .ref x0.1) C dX9_restore_15 7 rfl (by decide) rfl ?_
          refine go_ifnonnull (tgt := 22) C dX9_restore_16 rfl ?_
          refine go_aload_n C dX9_restore_22 0 rfl ?_
          refine go_get (v := .ref B0) C ffX9_12 dX9_restore_23 0 rfl rfl ?_
          refine go_aload_n C dX9_restore_26 0 rfl ?_
          refine go_get (v := .ref Im0) C ffX9_65 dX9_restore_27 0 rfl rfl ?_
          refine go_iload_n C dX9_restore_30 1 rfl ?_
          refine go_aaload (v := .ref x0.1) C dX9_restore_31 7 rfl (by decide) rfl ?_
          refine go_callV (q0 := 1) (wr := u9 G T0 B0 P0 A0 F0 Ro0 Po0 Tr0 Fe0 Im0 () ++ ([(Im0, .inl (gO G, 2, .inr (.inr (.inr (.inr (imF x0 x1 (some S0) none))))))])) (w' := u9 G T0 B0 P0 A0 F0 Ro0 Po0 Tr0 Fe0 Im0 () ++ (u1 G B0 B1 B2 B3 B4 B5 Bn ++ ([(Im0, .inl (gO G, 2, .inr (.inr (.inr (.inr (imF x0 x1 (some S0) none))))))] ++ (u1 G x0.1 x0.2.1 x0.2.2.1 x0.2.2.2.1 x0.2.2.2.2.1 x0.2.2.2.2.2 S0)))) C cfX9_137 viX1_copyFrom (m1_copyFrom_k l G B0 B1 B2 B3 B4 B5 x0.1 x0.2.1 x0.2.2.1 x0.2.2.2.1 x0.2.2.2.2.1 x0.2.2.2.2.2 B S0 Bn hk) dX9_restore_32 (by decide) (by decide) rfl rfl (Nat.le_of_ble_eq_true rfl) rfl [1, 2, 3, 4, 5, 6, 8, 9, 10, 11, 12, 13] [0, 7] [0, 2, 3, 4, 5, 6, 7, 1, 8, 9, 10, 11, 12, 13] rfl rfl (by decide) rfl ?_
          refine go_iconst (v := 1) C dX9_restore_35 rfl ?_
          exact go_iret C dX9_restore_36 rfl rfl
        | some S1 =>
          replace h : tbd (m1_copyFrom B S0) (fun B2 => some ((1 : Int32), B2)) = some R0 := h
          refine go_w (w' := u9 G T0 B0 P0 A0 F0 Ro0 Po0 Tr0 Fe0 Im0 () ++ (u1 G B0 B1 B2 B3 B4 B5 B ++ ([(Im0, .inl (gO G, 2, .inr (.inr (.inr (.inr (imF x0 x1 (some S0) (some S1)))))))] ++ (u1 G x0.1 x0.2.1 x0.2.2.1 x0.2.2.2.1 x0.2.2.2.2.1 x0.2.2.2.2.2 S0 ++ (u1 G x1.1 x1.2.1 x1.2.2.1 x1.2.2.2.1 x1.2.2.2.2.1 x1.2.2.2.2.2 S1))))) rfl ?_
          obtain ⟨Bn, hk, h⟩ := tbd_e h
          cases h
          refine go_aload_n C dX9_restore_10 0 rfl ?_
          refine go_get (v := .ref Im0) C ffX9_65 dX9_restore_11 0 rfl rfl ?_
          refine go_iload_n C dX9_restore_14 1 rfl ?_
          refine go_aaload (v := .ref x0.1) C dX9_restore_15 7 rfl (by decide) rfl ?_
          refine go_ifnonnull (tgt := 22) C dX9_restore_16 rfl ?_
          refine go_aload_n C dX9_restore_22 0 rfl ?_
          refine go_get (v := .ref B0) C ffX9_12 dX9_restore_23 0 rfl rfl ?_
          refine go_aload_n C dX9_restore_26 0 rfl ?_
          refine go_get (v := .ref Im0) C ffX9_65 dX9_restore_27 0 rfl rfl ?_
          refine go_iload_n C dX9_restore_30 1 rfl ?_
          refine go_aaload (v := .ref x0.1) C dX9_restore_31 7 rfl (by decide) rfl ?_
          refine go_callV (q0 := 1) (wr := u9 G T0 B0 P0 A0 F0 Ro0 Po0 Tr0 Fe0 Im0 () ++ ([(Im0, .inl (gO G, 2, .inr (.inr (.inr (.inr (imF x0 x1 (some S0) (some S1)))))))] ++ (u1 G x1.1 x1.2.1 x1.2.2.1 x1.2.2.2.1 x1.2.2.2.2.1 x1.2.2.2.2.2 S1))) (w' := u9 G T0 B0 P0 A0 F0 Ro0 Po0 Tr0 Fe0 Im0 () ++ (u1 G B0 B1 B2 B3 B4 B5 Bn ++ ([(Im0, .inl (gO G, 2, .inr (.inr (.inr (.inr (imF x0 x1 (some S0) (some S1)))))))] ++ (u1 G x0.1 x0.2.1 x0.2.2.1 x0.2.2.2.1 x0.2.2.2.2.1 x0.2.2.2.2.2 S0 ++ (u1 G x1.1 x1.2.1 x1.2.2.1 x1.2.2.2.1 x1.2.2.2.2.1 x1.2.2.2.2.2 S1))))) C cfX9_137 viX1_copyFrom (m1_copyFrom_k l G B0 B1 B2 B3 B4 B5 x0.1 x0.2.1 x0.2.2.1 x0.2.2.2.1 x0.2.2.2.2.1 x0.2.2.2.2.2 B S0 Bn hk) dX9_restore_32 (by decide) (by decide) rfl rfl (Nat.le_of_ble_eq_true rfl) rfl [1, 2, 3, 4, 5, 6, 8, 9, 10, 11, 12, 13] [0, 7, 14, 15, 16, 17, 18, 19] [0, 8, 9, 10, 11, 12, 13, 1, 14, 15, 16, 17, 18, 19, 2, 3, 4, 5, 6, 7] rfl rfl (by decide) rfl ?_
          refine go_iconst (v := 1) C dX9_restore_35 rfl ?_
          exact go_iret C dX9_restore_36 rfl rfl
    · rw [if_neg (by decide)] at h
      cases I0 with
      | none =>
        cases I1 with
        | none =>
          replace h : some ((-3 : Int32), B) = some R0 := h
          refine go_w (w' := u9 G T0 B0 P0 A0 F0 Ro0 Po0 Tr0 Fe0 Im0 () ++ (u1 G B0 B1 B2 B3 B4 B5 B ++ ([(Im0, .inl (gO G, 2, .inr (.inr (.inr (.inr (imF x0 x1 none none))))))]))) rfl ?_
          cases h
          refine go_aload_n C dX9_restore_10 0 rfl ?_
          refine go_get (v := .ref Im0) C ffX9_65 dX9_restore_11 0 rfl rfl ?_
          refine go_iload_n C dX9_restore_14 1 rfl ?_
          refine go_aaload (v := .null) C dX9_restore_15 7 rfl (by decide) rfl ?_
          refine go_ifnonnullN C dX9_restore_16 ?_
          refine go_bipush (v := -3) C dX9_restore_19 rfl ?_
          exact go_iret C dX9_restore_21 rfl rfl
        | some S1 =>
          replace h : tbd (m1_copyFrom B S1) (fun B2 => some ((1 : Int32), B2)) = some R0 := h
          refine go_w (w' := u9 G T0 B0 P0 A0 F0 Ro0 Po0 Tr0 Fe0 Im0 () ++ (u1 G B0 B1 B2 B3 B4 B5 B ++ ([(Im0, .inl (gO G, 2, .inr (.inr (.inr (.inr (imF x0 x1 none (some S1)))))))] ++ (u1 G x1.1 x1.2.1 x1.2.2.1 x1.2.2.2.1 x1.2.2.2.2.1 x1.2.2.2.2.2 S1)))) rfl ?_
          obtain ⟨Bn, hk, h⟩ := tbd_e h
          cases h
          refine go_aload_n C dX9_restore_10 0 rfl ?_
          refine go_get (v := .ref Im0) C ffX9_65 dX9_restore_11 0 rfl rfl ?_
          refine go_iload_n C dX9_restore_14 1 rfl ?_
          refine go_aaload (v := .ref x1.1) C dX9_restore_15 7 rfl (by decide) rfl ?_
          refine go_ifnonnull (tgt := 22) C dX9_restore_16 rfl ?_
          refine go_aload_n C dX9_restore_22 0 rfl ?_
          refine go_get (v := .ref B0) C ffX9_12 dX9_restore_23 0 rfl rfl ?_
          refine go_aload_n C dX9_restore_26 0 rfl ?_
          refine go_get (v := .ref Im0) C ffX9_65 dX9_restore_27 0 rfl rfl ?_
          refine go_iload_n C dX9_restore_30 1 rfl ?_
          refine go_aaload (v := .ref x1.1) C dX9_restore_31 7 rfl (by decide) rfl ?_
          refine go_callV (q0 := 1) (wr := u9 G T0 B0 P0 A0 F0 Ro0 Po0 Tr0 Fe0 Im0 () ++ ([(Im0, .inl (gO G, 2, .inr (.inr (.inr (.inr (imF x0 x1 none (some S1)))))))])) (w' := u9 G T0 B0 P0 A0 F0 Ro0 Po0 Tr0 Fe0 Im0 () ++ (u1 G B0 B1 B2 B3 B4 B5 Bn ++ ([(Im0, .inl (gO G, 2, .inr (.inr (.inr (.inr (imF x0 x1 none (some S1)))))))] ++ (u1 G x1.1 x1.2.1 x1.2.2.1 x1.2.2.2.1 x1.2.2.2.2.1 x1.2.2.2.2.2 S1)))) C cfX9_137 viX1_copyFrom (m1_copyFrom_k l G B0 B1 B2 B3 B4 B5 x1.1 x1.2.1 x1.2.2.1 x1.2.2.2.1 x1.2.2.2.2.1 x1.2.2.2.2.2 B S1 Bn hk) dX9_restore_32 (by decide) (by decide) rfl rfl (Nat.le_of_ble_eq_true rfl) rfl [1, 2, 3, 4, 5, 6, 8, 9, 10, 11, 12, 13] [0, 7] [0, 2, 3, 4, 5, 6, 7, 1, 8, 9, 10, 11, 12, 13] rfl rfl (by decide) rfl ?_
          refine go_iconst (v := 1) C dX9_restore_35 rfl ?_
          exact go_iret C dX9_restore_36 rfl rfl
      | some S0 =>
        cases I1 with
        | none =>
          replace h : some ((-3 : Int32), B) = some R0 := h
          refine go_w (w' := u9 G T0 B0 P0 A0 F0 Ro0 Po0 Tr0 Fe0 Im0 () ++ (u1 G B0 B1 B2 B3 B4 B5 B ++ ([(Im0, .inl (gO G, 2, .inr (.inr (.inr (.inr (imF x0 x1 (some S0) none))))))] ++ (u1 G x0.1 x0.2.1 x0.2.2.1 x0.2.2.2.1 x0.2.2.2.2.1 x0.2.2.2.2.2 S0)))) rfl ?_
          cases h
          refine go_aload_n C dX9_restore_10 0 rfl ?_
          refine go_get (v := .ref Im0) C ffX9_65 dX9_restore_11 0 rfl rfl ?_
          refine go_iload_n C dX9_restore_14 1 rfl ?_
          refine go_aaload (v := .null) C dX9_restore_15 7 rfl (by decide) rfl ?_
          refine go_ifnonnullN C dX9_restore_16 ?_
          refine go_bipush (v := -3) C dX9_restore_19 rfl ?_
          exact go_iret C dX9_restore_21 rfl rfl
        | some S1 =>
          replace h : tbd (m1_copyFrom B S1) (fun B2 => some ((1 : Int32), B2)) = some R0 := h
          refine go_w (w' := u9 G T0 B0 P0 A0 F0 Ro0 Po0 Tr0 Fe0 Im0 () ++ (u1 G B0 B1 B2 B3 B4 B5 B ++ ([(Im0, .inl (gO G, 2, .inr (.inr (.inr (.inr (imF x0 x1 (some S0) (some S1)))))))] ++ (u1 G x0.1 x0.2.1 x0.2.2.1 x0.2.2.2.1 x0.2.2.2.2.1 x0.2.2.2.2.2 S0 ++ (u1 G x1.1 x1.2.1 x1.2.2.1 x1.2.2.2.1 x1.2.2.2.2.1 x1.2.2.2.2.2 S1))))) rfl ?_
          obtain ⟨Bn, hk, h⟩ := tbd_e h
          cases h
          refine go_aload_n C dX9_restore_10 0 rfl ?_
          refine go_get (v := .ref Im0) C ffX9_65 dX9_restore_11 0 rfl rfl ?_
          refine go_iload_n C dX9_restore_14 1 rfl ?_
          refine go_aaload (v := .ref x1.1) C dX9_restore_15 7 rfl (by decide) rfl ?_
          refine go_ifnonnull (tgt := 22) C dX9_restore_16 rfl ?_
          refine go_aload_n C dX9_restore_22 0 rfl ?_
          refine go_get (v := .ref B0) C ffX9_12 dX9_restore_23 0 rfl rfl ?_
          refine go_aload_n C dX9_restore_26 0 rfl ?_
          refine go_get (v := .ref Im0) C ffX9_65 dX9_restore_27 0 rfl rfl ?_
          refine go_iload_n C dX9_restore_30 1 rfl ?_
          refine go_aaload (v := .ref x1.1) C dX9_restore_31 7 rfl (by decide) rfl ?_
          refine go_callV (q0 := 1) (wr := u9 G T0 B0 P0 A0 F0 Ro0 Po0 Tr0 Fe0 Im0 () ++ ([(Im0, .inl (gO G, 2, .inr (.inr (.inr (.inr (imF x0 x1 (some S0) (some S1)))))))] ++ (u1 G x0.1 x0.2.1 x0.2.2.1 x0.2.2.2.1 x0.2.2.2.2.1 x0.2.2.2.2.2 S0))) (w' := u9 G T0 B0 P0 A0 F0 Ro0 Po0 Tr0 Fe0 Im0 () ++ (u1 G B0 B1 B2 B3 B4 B5 Bn ++ ([(Im0, .inl (gO G, 2, .inr (.inr (.inr (.inr (imF x0 x1 (some S0) (some S1)))))))] ++ (u1 G x0.1 x0.2.1 x0.2.2.1 x0.2.2.2.1 x0.2.2.2.2.1 x0.2.2.2.2.2 S0 ++ (u1 G x1.1 x1.2.1 x1.2.2.1 x1.2.2.2.1 x1.2.2.2.2.1 x1.2.2.2.2.2 S1))))) C cfX9_137 viX1_copyFrom (m1_copyFrom_k l G B0 B1 B2 B3 B4 B5 x1.1 x1.2.1 x1.2.2.1 x1.2.2.2.1 x1.2.2.2.2.1 x1.2.2.2.2.2 B S1 Bn hk) dX9_restore_32 (by decide) (by decide) rfl rfl (Nat.le_of_ble_eq_true rfl) rfl [1, 2, 3, 4, 5, 6, 14, 15, 16, 17, 18, 19] [0, 7, 8, 9, 10, 11, 12, 13] [0, 8, 9, 10, 11, 12, 13, 1, 2, 3, 4, 5, 6, 7, 14, 15, 16, 17, 18, 19] rfl rfl (by decide) rfl ?_
          refine go_iconst (v := 1) C dX9_restore_35 rfl ?_
          exact go_iret C dX9_restore_36 rfl rfl

