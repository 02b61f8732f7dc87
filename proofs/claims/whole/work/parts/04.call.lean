/-! calls: by contract, the rest of the world beside it -/
def CfB (own : String) (idx : Nat) (y : MethodName) (cy : ByteArray) (ny : Nat) (rt : Option FieldType) (np : Nat) : Prop :=
  Cond.methodLink own idx y ∈ wsL_law ∧ Cond.initialized y.cls ∈ wsL_law ∧ Cond.code y cy ny rt ∈ wsL_law ∧ (y.cls ≠ "java/lang/invoke/MethodHandle" ∧ y.cls ≠ "java/lang/invoke/VarHandle" ∧ (parseMethodDescriptor y.desc).map (fun d => d.parameters.length) = some np)
def CfN (own : String) (idx : Nat) (y : MethodName) (cy : ByteArray) (ny : Nat) (rt : Option FieldType) (np : Nat) : Prop :=
  (own, idx, y) ∈ nwl ∧ Cond.initialized y.cls ∈ wsL_law ∧ Cond.code y cy ny rt ∈ wsL_law ∧ (y.cls ≠ "java/lang/invoke/MethodHandle" ∧ y.cls ≠ "java/lang/invoke/VarHandle" ∧ (parseMethodDescriptor y.desc).map (fun d => d.parameters.length) = some np)
section
variable {p : Program} {l : Launch} {e : Env} {R : Room} {s : State} {m : MethodId} {args : Array Value} {below : List Frame} {meth : Method} {c : Code} {G : gG} {A : Nat → Prop} {own : String} {cc : ByteArray} {nL cs sl : Nat} {ret : Option FieldType} {Q : State → Prop} {pc : Nat} {lv : List (Nat × Value)} {st st0 : List Value} {w : va_W}
  {y : MethodName} {cy : ByteArray} {ny : Nat} {rt : Option FieldType} {np fr lo idx : Nat} {av : List Value} {wc w1 wr w' : va_W} {v : Option Value}
/-- behind a call that meets a contract: any part of the world is the callee's, the rest stays; isW: the order in which the world goes on -/
theorem go_run (C : Cx p e s m args meth c G own cc nL ret A) {a : Array Value} (isC isR isW : List Nat) (hC : isC.map (fun i => w[i]?) = wc.map some) (hR : isR.map (fun i => w[i]?) = wr.map some) (hn : (va_nd isC && va_nd isR && va_nd isW && isR.all (fun i => !(isC.contains i))) = true) (hW : isW.map (fun i => (wr ++ w1)[i]?) = w'.map some)
    (hr : ∀ (H : Heap) (locs : List Loc) (ls : Array Slot), va_P G.1 vwCl w H → lv_has ls nL lv → va_P G.1 vwCl wc H → va_D (fun _ => True) wc → va_Run p l e R s m args below meth c H locs cs sl 0 0 (F0 m pc ls st0) st (QK G v w1 (va_A wc H.size) a) (va_A wc H.size))
    (kk : Gq p l e R s m args below meth c G A nL cs sl Q (pc + 3) lv (v.toList ++ st) w') : Gq p l e R s m args below meth c G A nL cs sl Q pc lv st0 w := by
  intro H locs ls hP hD hS hl
  simp only [Bool.and_eq_true, List.all_eq_true, Bool.not_eq_true', List.contains_eq_mem, decide_eq_false_iff_not] at hn
  obtain ⟨⟨⟨n1, n2⟩, n3⟩, n4⟩ := hn
  have hPc := hP.sub (ws' := wc) isC (fm_of hC)
  have hDc := hD.sub (ws' := wc) isC n1 hC
  have hFc := va_free (wc := wc) hD hS C.2.2.2.2.2.2.1 isC hC
  intro T hT X
  obtain ⟨v', st₀, t, T', L, h0, X', hL, e1, e2, ⟨⟨hv, hP1, hD1⟩, hz, hk⟩, stp⟩ := hr H locs ls hP hl hPc (hDc.weaken (fun _ _ _ _ => trivial)) T hT X
  cases hv
  rw [h0] at hz hk
  obtain ⟨hP2, hD2⟩ := va_join hP hD isC isR hC hR n2 n4 hk hFc hP1 hD1
  rw [← e1] at hP2 hz hk
  have hS2 : va_S A s.heap T'.heap (locs ++ L) := ⟨Nat.le_trans hS.1 hz, fun q h1 h2 => by rw [hk q (Nat.lt_of_lt_of_le h1 hS.1) (fun z => h2 (hFc q z))]; exact hS.2.1 q h1 h2, fun q hq => by
      rcases List.mem_append.mp hq with h | h
      · exact hS.2.2 q h
      · exact hFc _ (hL q h)⟩
  obtain ⟨t2, a1, b1⟩ := kk T'.heap (locs ++ L) ls (hP2.sub isW (fm_of hW)) (hD2.sub isW n3 hW) hS2 hl T' rfl X'
  exact ⟨t2, stp t2 a1, b1⟩
/-- a call that needs no cell -/
theorem go_run0 {a : Array Value}
    (hr : ∀ (H : Heap) (locs : List Loc) (ls : Array Slot), lv_has ls nL lv → va_Run p l e R s m args below meth c H locs cs sl 0 0 (F0 m pc ls st0) st (QK G v [] (va_A [] H.size) a) (va_A [] H.size)) (C : Cx p e s m args meth c G own cc nL ret A)
    (kk : Gq p l e R s m args below meth c G A nL cs sl Q (pc + 3) lv (v.toList ++ st) w) : Gq p l e R s m args below meth c G A nL cs sl Q pc lv st0 w := by
  intro H locs ls hP hD hS hl T hT X
  obtain ⟨v', st₀, t, T', L, h0, X', hL, e1, e2, ⟨⟨hv, hP1, hD1⟩, hz, hk⟩, stp⟩ := hr H locs ls hl T hT X
  cases hv
  rw [h0] at hz hk
  rw [← e1] at hz hk
  have hno : ∀ q, q < H.size → ¬ va_A [] H.size q := by
    intro q hq h
    rcases h with ⟨k, x, h⟩ | h
    · simp at h
    · omega
  have hkeep : ∀ q, q < H.size → T'.heap[q]? = H[q]? := fun q hq => hk q hq (hno q hq)
  have hge : ∀ q, va_A [] H.size q → A q := by
    intro q h
    rcases h with ⟨k, x, h⟩ | h
    · simp at h
    · exact C.2.2.2.2.2.2.1 q (Nat.le_trans hS.1 h)
  have hP2 : va_P G.1 vwCl w T'.heap := hP.kept (fun k q hq => hkeep q.1 ((hP k q hq).lt))
  have hS2 : va_S A s.heap T'.heap (locs ++ L) := ⟨Nat.le_trans hS.1 hz, fun q h1 h2 => by rw [hkeep q (Nat.lt_of_lt_of_le h1 hS.1)]; exact hS.2.1 q h1 h2, fun q hq => by
      rcases List.mem_append.mp hq with h | h
      · exact hS.2.2 q h
      · exact hge _ (hL q h)⟩
  obtain ⟨t2, a1, b1⟩ := kk T'.heap (locs ++ L) ls hP2 hD hS2 hl T' rfl X'
  exact ⟨t2, stp t2 a1, b1⟩
theorem cfB_run (C : Cx p e s m args meth c G own cc nL ret A) (F : CfB own idx y cy ny rt np) (hR : fr + 1 ≤ R.frames ∧ 8 + (ny + 11) + lo ≤ R.locals) : CallB R s args own idx y cy ny rt (wq y cy ny rt) (rq fr lo) 0 0 np :=
  callB_of np C.2.2.2.2.1 (wq_in F.2.2.1) rfl rfl rfl (C.2.2.2.2.1 _ F.2.1) (C.2.2.2.2.1 _ F.1) F.2.2.2 hR
theorem cfN_run (C : Cx p e s m args meth c G own cc nL ret A) (F : CfN own idx y cy ny rt np) (hR : fr + 1 ≤ R.frames ∧ 8 + (ny + 11) + lo ≤ R.locals) : va_CN R s args own idx y RX9 cy ny rt (wq y cy ny rt) (rq fr lo) 0 0 np :=
  va_cnB np C.2.2.2.2.1 (wq_in F.2.2.1) rfl rfl rfl (C.2.2.2.2.2.1.2.1 _ F.1) (C.2.2.2.2.1 _ F.2.1) F.2.2.2 hR
/-- a static method, no cell -/
theorem go_callS0 (C : Cx p e s m args meth c G own cc nL ret A) (F : CfB own idx y cy ny rt np) (hs : Cond.static y ∈ wsL_law) (K : KK l G y cy ny rt fr lo av [] v []) (hd : decode cc pc = .ok (.invokestatic idx, 3)) (hR : fr + 1 ≤ R.frames ∧ 8 + (ny + 11) + lo ≤ R.locals) (hc : cs ≤ R.cells ∧ sl ≤ R.slots) (ha : av.length = np) (hst : st0 = av.reverse ++ st) (hro : (st.map fun v => v.category).sum ≤ 8)
    (kk : Gq p l e R s m args below meth c G A nL cs sl Q (pc + 3) lv (v.toList ++ st) w) : Gq p l e R s m args below meth c G A nL cs sl Q pc lv st0 w :=
  go_run0 (fun H locs ls hl => va_runS ⟨C.1, C.2.1, C.2.2.1, C.2.2.2.1, C.2.2.2.2.1⟩ (K H.size) ⟨cfB_run C F hR, C.2.2.2.2.1 _ hs⟩ ⟨Pk_blind, fun U hU hW => ⟨rfl, by rw [hU], fun k q h => by simp at h, C.2.2.2.2.2.1.warm hW, ⟨fun i j x y h => by simp at h, fun k q h => by simp at h⟩⟩⟩ rfl ha hl.1 hst (lv_room hro) hd hc) C kk
theorem go_callSN0 (C : Cx p e s m args meth c G own cc nL ret A) (F : CfN own idx y cy ny rt np) (hs : Cond.static y ∈ wsL_law) (K : KK l G y cy ny rt fr lo av [] v []) (hd : decode cc pc = .ok (.invokestatic idx, 3)) (hR : fr + 1 ≤ R.frames ∧ 8 + (ny + 11) + lo ≤ R.locals) (hc : cs ≤ R.cells ∧ sl ≤ R.slots) (ha : av.length = np) (hst : st0 = av.reverse ++ st) (hro : (st.map fun v => v.category).sum ≤ 8)
    (kk : Gq p l e R s m args below meth c G A nL cs sl Q (pc + 3) lv (v.toList ++ st) w) : Gq p l e R s m args below meth c G A nL cs sl Q pc lv st0 w :=
  go_run0 (fun H locs ls hl => va_runSN ⟨C.1, C.2.1, C.2.2.1, C.2.2.2.1, C.2.2.2.2.1⟩ (K H.size) ⟨cfN_run C F hR, C.2.2.2.2.1 _ hs, trivial⟩ ⟨Pk_blind, fun U hU hW => ⟨rfl, by rw [hU], fun k q h => by simp at h, C.2.2.2.2.2.1.warm hW, ⟨fun i j x y h => by simp at h, fun k q h => by simp at h⟩⟩⟩ rfl ha hl.1 hst (lv_room hro) hd hc) C kk
/-- a static method over some cells -/
theorem go_callS (C : Cx p e s m args meth c G own cc nL ret A) (F : CfB own idx y cy ny rt np) (hs : Cond.static y ∈ wsL_law) (K : KK l G y cy ny rt fr lo av wc v w1) (hd : decode cc pc = .ok (.invokestatic idx, 3)) (hR : fr + 1 ≤ R.frames ∧ 8 + (ny + 11) + lo ≤ R.locals) (hc : cs ≤ R.cells ∧ sl ≤ R.slots) (ha : av.length = np) (hst : st0 = av.reverse ++ st) (hro : (st.map fun v => v.category).sum ≤ 8)
    (isC isR isW : List Nat) (hC : isC.map (fun i => w[i]?) = wc.map some) (hRr : isR.map (fun i => w[i]?) = wr.map some) (hn : (va_nd isC && va_nd isR && va_nd isW && isR.all (fun i => !(isC.contains i))) = true) (hW : isW.map (fun i => (wr ++ w1)[i]?) = w'.map some)
    (kk : Gq p l e R s m args below meth c G A nL cs sl Q (pc + 3) lv (v.toList ++ st) w') : Gq p l e R s m args below meth c G A nL cs sl Q pc lv st0 w :=
  go_run C isC isR isW hC hRr hn hW (fun H locs ls hP hl hPc hDc => va_runS ⟨C.1, C.2.1, C.2.2.1, C.2.2.2.1, C.2.2.2.2.1⟩ (K H.size) ⟨cfB_run C F hR, C.2.2.2.2.1 _ hs⟩ ⟨Pk_blind, fun U hU hW => ⟨rfl, by rw [hU], by rw [hU]; exact hPc, C.2.2.2.2.2.1.warm hW, hDc⟩⟩ rfl ha hl.1 hst (lv_room hro) hd hc) kk
/-- a method of an object -/
theorem go_callV (C : Cx p e s m args meth c G own cc nL ret A) (F : CfB own idx y cy ny rt np) {b ci q0 : Nat} {fs : List Value} {Cn : String} {T : u_T} {N : Nat} (hi : Cond.instanceMethod y ∈ wsL_law ∧ Cond.selects Cn y y ∈ wsL_law ∧ vwCl[ci]? = some (Cn, T, N)) (K : KK l G y cy ny rt fr lo (.ref b :: av) wc v w1) (hd : decode cc pc = .ok (.invokevirtual idx, 3)) (hR : fr + 1 ≤ R.frames ∧ 8 + (ny + 11) + lo ≤ R.locals) (hc : cs ≤ R.cells ∧ sl ≤ R.slots) (ha : av.length = np) (hst : st0 = av.reverse ++ .ref b :: st) (hro : (st.map fun v => v.category).sum ≤ 8) (hq : w[q0]? = some (b, .inr (ci, fs)))
    (isC isR isW : List Nat) (hC : isC.map (fun i => w[i]?) = wc.map some) (hRr : isR.map (fun i => w[i]?) = wr.map some) (hn : (va_nd isC && va_nd isR && va_nd isW && isR.all (fun i => !(isC.contains i))) = true) (hW : isW.map (fun i => (wr ++ w1)[i]?) = w'.map some)
    (kk : Gq p l e R s m args below meth c G A nL cs sl Q (pc + 3) lv (v.toList ++ st) w') : Gq p l e R s m args below meth c G A nL cs sl Q pc lv st0 w :=
  go_run C isC isR isW hC hRr hn hW (fun H locs ls hP hl hPc hDc => va_runV ⟨C.1, C.2.1, C.2.2.1, C.2.2.2.1, C.2.2.2.2.1⟩ (K H.size) ⟨cfB_run C F hR, C.2.2.2.2.1 _ hi.1, C.2.2.2.2.1 _ hi.2.1⟩ ⟨Pk_blind, va_recv C.2.2.2.2.2.1.1 hP hi.2.2 hq, fun U hU hW => ⟨rfl, by rw [hU], by rw [hU]; exact hPc, C.2.2.2.2.2.1.warm hW, hDc⟩⟩ rfl ha hl.1 hst (lv_room hro) hd hc) kk
end
