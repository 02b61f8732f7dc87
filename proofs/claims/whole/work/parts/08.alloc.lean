/-! what makes cells: constructors, new rows -/
def QA {X : Type} (G : gG) (v : Option Value) (wf : X → va_W) (A : Nat → Prop) : Array Value → State → Outcome → State → Prop := fun _ st oc t => (oc = .returned v ∧ ∃ x : X, va_P G.1 vwCl (wf x) t.heap ∧ va_D A (wf x)) ∧ va_F A st t
def KA {X : Type} (l : Launch) (G : gG) (y : MethodName) (cc : ByteArray) (nL : Nat) (ret : Option FieldType) (fr lo mc ms : Nat) (av : List Value) (w : va_W) (v : Option Value) (wf : X → va_W) : Prop :=
  ∀ sz : Nat, Met l y (wq y cc nL ret) (rqa fr lo mc ms) (Pk G av w sz) (QA G v wf (va_A w sz)) mc ms (va_A w sz)
/-- new of a class, as a pool entry names it: what it holds at first -/
def NW (own : String) (index ci N : Nat) (fs : List Value) : Prop := ∃ (Cn : String) (T : u_T) (ty : Nat → FieldType), vwCl[ci]? = some (Cn, T, N) ∧ (∀ x ∈ u_ws Cn T N, x ∈ wsL_law) ∧ (∀ k, k < N → parseFieldDescriptor (T k).2.2.1 = some (ty k)) ∧ Cond.classLink own index Cn ∈ wsL_law ∧ Cond.instantiable Cn N ∈ wsL_law ∧ Cond.initialized Cn ∈ wsL_law ∧ ∀ j, j < N → defaultValue (ty j) = vp_V fs j
section
variable {p : Program} {l : Launch} {e : Env} {R : Room} {s : State} {m : MethodId} {args : Array Value} {below : List Frame} {meth : Method} {c : Code} {G : gG} {A : Nat → Prop} {own : String} {cc : ByteArray} {nL cs sl : Nat} {ret : Option FieldType} {Q : State → Prop} {pc : Nat} {lv : List (Nat × Value)} {st st0 : List Value} {w : va_W}
  {y : MethodName} {cy : ByteArray} {ny : Nat} {rt : Option FieldType} {np fr lo idx : Nat} {av : List Value} {wc wr w' : va_W} {v : Option Value}
theorem KA_intro {X : Type} {mc ms : Nat} {wf : X → va_W} {lv0 : List (Nat × Value)} (hy : plainName y.cls = true) (hown : y.cls = own) (hn : (lg_sl av).length ≤ nL) (hlv : lv_args 0 av = lv0)
    (body : ∀ (p : Program) (e : Env) (s : State) (m : MethodId) (args : Array Value) (below : List Frame) (meth : Method) (c : Code) (A : Nat → Prop), Cx p e s m args meth c G own cc nL ret A → meth.name = y.name → Gq p l e (rqa fr lo mc ms) s m args below meth c G A nL 0 0 (MQ below (QA G v wf A) args s mc ms A) 0 lv0 [] w) :
    KA l G y cc nL ret fr lo mc ms av w v wf := by
  intro sz
  refine Met.ofW (cc := cc) (maxL := nL) (ret := ret) hy rfl ?_
  intro p e s m args below meth c s₁ B hml hv
  obtain ⟨rfl, hsz, hP, hK, hD0⟩ := hv
  have hown1 : s.vm.findClass y.cls = some m.cls := findClass_of_methodNamed B.named
  have hts := atoms_spec (ws := wq y cc nL ret) B.pre
  have hin : meth.name = y.name := (name_of_methodNamed B.named B.method).1
  subst hsz
  have C : Cx p e s m av.toArray meth c G own cc nL ret (va_A w s.heap.size) := ⟨B.exec, B.bytes, hml, by rw [← hown]; exact hown1, fun x hx => hts x (List.mem_cons_of_mem _ hx), hK, fun q h => Or.inr h, B.returns, B.notSynchronized⟩
  have hl := lv_entry av (n := nL) hn
  rw [lg_entry_eq]
  generalize (lg_sl av ++ List.replicate (nL - (lg_sl av).length) Slot.unset).toArray = ls at hl ⊢
  rw [hlv] at hl
  exact body p e s m av.toArray below meth c _ C hin s.heap [] ls hP (hD0.self) va_S.rf hl
theorem go_w (h : w = w') (kk : Gq p l e R s m args below meth c G A nL cs sl Q pc lv st w') : Gq p l e R s m args below meth c G A nL cs sl Q pc lv st w := h ▸ kk
theorem go_widen {k n : Nat} (h1 : cs ≤ k) (h2 : sl ≤ n) (kk : Gq p l e R s m args below meth c G A nL k n Q pc lv st w) : Gq p l e R s m args below meth c G A nL cs sl Q pc lv st w :=
  fun H locs ls hP hD hS h => W.widen h1 h2 (kk H locs ls hP hD hS h)
theorem go_vretA {X : Type} (C : Cx p e s m args meth c G own cc nL none A) {wf : X → va_W} (hd : decode cc pc = .ok (.return_, 1)) (x : X) (hw : w = wf x) : Gq p l e R s m args below meth c G A nL cs sl (MQ below (QA G none wf A) args s cs sl A) pc lv [] w := by
  have hlocks := C.2.2.2.2.2.2.2.2
  exact fun H locs ls hP hD hS h => W.vret C.1 C.2.1 C.2.2.2.2.2.2.2.1 (fun t ht hW => ⟨⟨rfl, x, by rw [ht, ← hw]; exact hP, by rw [← hw]; exact hD⟩, hS.F ht⟩) hS.2.2 hd
theorem go_iretA {X : Type} (C : Cx p e s m args meth c G own cc nL (some .int) A) {wf : X → va_W} {i : Int32} (hd : decode cc pc = .ok (.ireturn, 1)) (x : X) (hv : v = some (.int i)) (hw : w = wf x) : Gq p l e R s m args below meth c G A nL cs sl (MQ below (QA G v wf A) args s cs sl A) pc lv [.int i] w := by
  subst hv
  have hlocks := C.2.2.2.2.2.2.2.2
  exact fun H locs ls hP hD hS h => W.iret C.1 C.2.1 C.2.2.2.2.2.2.2.1 (fun t ht hW => ⟨⟨rfl, x, by rw [ht, ← hw]; exact hP, by rw [← hw]; exact hD⟩, hS.F ht⟩) hS.2.2 hd
theorem go_objinit (C : Cx p e s m args meth c G own cc nL ret A) {a : Nat} (F : Cond.methodLink own idx objectInit ∈ wsL_law) (hd : decode cc pc = .ok (.invokespecial idx, 3)) (hf : 1 ≤ R.frames) (hlo : (st.map fun v => v.category).sum + 12 ≤ R.locals) (kk : Gq p l e R s m args below meth c G A nL cs sl Q (pc + 3) lv st w) : Gq p l e R s m args below meth c G A nL cs sl Q pc lv (.ref a :: st) w :=
  fun H locs ls hP hD hS h => W.objInit C.1 C.2.1 C.2.2.2.1 (C.2.2.2.2.1 _ F) (C.2.2.2.2.1 _ (wr1 _ (List.mem_of_getElem? (i := 10) rfl))) (C.2.2.2.2.1 _ (wr1 _ (List.mem_of_getElem? (i := 11) rfl))) rfl (by rw [C.2.2.1]; exact h.1) rfl hd hf (by show 2 * 0 + _ + 12 ≤ _; omega) (kk H locs ls hP hD hS h)
theorem go_new (C : Cx p e s m args meth c G own cc nL ret A) {ci N : Nat} {fs : List Value} (F : NW own idx ci N fs) (hd : decode cc pc = .ok (.new idx, 3)) (hc : cs + 1 ≤ R.cells) (hs : sl + N ≤ R.slots) (kk : ∀ q : Nat, Gq p l e R s m args below meth c G A nL (cs + 1) (sl + N) Q (pc + 3) lv (.ref q :: st) (w ++ [(q, .inr (ci, fs))])) : Gq p l e R s m args below meth c G A nL cs sl Q pc lv st w := by
  obtain ⟨Cn, T, ty, h1, h2, h3, h4, h5, h6, h7⟩ := F
  exact fun H locs ls hP hD hS h => va_new C.1 C.2.1 C.2.2.2.2.1 h2 ty h3 C.2.2.2.1 (C.2.2.2.2.1 _ h4) (C.2.2.2.2.1 _ h5) (C.2.2.2.2.1 _ h6) C.2.2.2.2.2.1.1 hP hD hS C.2.2.2.2.2.2.1 h1 h7 hc hs hd (fun q H1 hP hD hS => kk q H1 locs ls hP hD hS h)
theorem arr_same {s : State} {G : gG} {cA : ClassId} {ty : FieldType} {k : Nat} {cB : ClassId} (hK : va_K G.1 vwCl (gty G) s) (hK2 : va_K G.1 vwCl (gty G ++ [(cA, ty)]) s) (hk : (gty G)[k]? = some (cB, ty)) (hty : ∀ C, ty ≠ .object C) : cA = cB := by
  have h1 := (hK.2 k _ hk).2
  have h2 := (hK2.2 5 (cA, ty) rfl).2
  cases ty <;> first | exact absurd rfl (hty _) | exact Option.some.inj (h2.symm.trans h1)
theorem arr_sameO {s : State} {G : gG} {cA : ClassId} {C : String} {k : Nat} {cB : ClassId} (hK : va_K G.1 vwCl (gty G) s) (hK2 : va_K G.1 vwCl (gty G ++ [(cA, .object C)]) s) (hk : (gty G)[k]? = some (cB, .object C)) : cA = cB := by
  obtain ⟨_, _, _, _, _, h1⟩ := (hK.2 k _ hk).2
  obtain ⟨_, _, _, _, _, h2⟩ := (hK2.2 5 (cA, .object C) rfl).2
  exact Option.some.inj (h2.symm.trans h1)
theorem go_newI (C : Cx p e s m args meth c G own cc nL ret A) {i : Int32} {N : Nat} (hd : decode cc pc = .ok (.newarray .int, 2)) (hi : ¬ i < 0 ∧ i.toNatClampNeg = N ∧ N * 4 ≤ 536870912) (hc : cs + 1 ≤ R.cells) (hs : sl + N ≤ R.slots) (kk : ∀ q : Nat, Gq p l e R s m args below meth c G A nL (cs + 1) (sl + N) Q (pc + 2) lv (.ref q :: st) (w ++ [(q, .inl (gI G, N, .inl (fun _ => 0)))])) : Gq p l e R s m args below meth c G A nL cs sl Q pc lv (.int i :: st) w := by
  intro H locs ls hP hD hS h
  refine va_newa (atype := .int) (ty := .int) (a0 := (N, .inl (fun _ => 0))) C.1 C.2.1 (C.2.2.2.2.1 _ (wr3 _ (List.mem_of_getElem? (i := 1) rfl))) rfl C.2.2.2.2.2.1.1 hP hD hS C.2.2.2.2.2.2.1 (fun _ => rfl) hi.1 hi.2.1 hi.2.2 hc hs hd (fun q cA H1 hK2 hP hD hS => ?_)
  have e := arr_same C.2.2.2.2.2.1.1 hK2 (k := 1) rfl (fun C h => by cases h)
  subst e
  exact kk q H1 locs ls hP hD hS h
theorem go_newC (C : Cx p e s m args meth c G own cc nL ret A) {i : Int32} {N : Nat} (hd : decode cc pc = .ok (.newarray .char, 2)) (hi : ¬ i < 0 ∧ i.toNatClampNeg = N ∧ N * 2 ≤ 536870912) (hc : cs + 1 ≤ R.cells) (hs : sl + N ≤ R.slots) (kk : ∀ q : Nat, Gq p l e R s m args below meth c G A nL (cs + 1) (sl + N) Q (pc + 2) lv (.ref q :: st) (w ++ [(q, .inl (gC G, N, .inl (fun _ => 0)))])) : Gq p l e R s m args below meth c G A nL cs sl Q pc lv (.int i :: st) w := by
  intro H locs ls hP hD hS h
  refine va_newa (atype := .char) (ty := .char) (a0 := (N, .inl (fun _ => 0))) C.1 C.2.1 (C.2.2.2.2.1 _ (wr3 _ (List.mem_of_getElem? (i := 20) rfl))) rfl C.2.2.2.2.2.1.1 hP hD hS C.2.2.2.2.2.2.1 (fun _ => rfl) hi.1 hi.2.1 hi.2.2 hc hs hd (fun q cA H1 hK2 hP hD hS => ?_)
  have e := arr_same C.2.2.2.2.2.1.1 hK2 (k := 0) rfl (fun C h => by cases h)
  subst e
  exact kk q H1 locs ls hP hD hS h
theorem go_newZ (C : Cx p e s m args meth c G own cc nL ret A) {i : Int32} {N : Nat} (hd : decode cc pc = .ok (.newarray .boolean, 2)) (hi : ¬ i < 0 ∧ i.toNatClampNeg = N ∧ N * 1 ≤ 536870912) (hc : cs + 1 ≤ R.cells) (hs : sl + N ≤ R.slots) (kk : ∀ q : Nat, Gq p l e R s m args below meth c G A nL (cs + 1) (sl + N) Q (pc + 2) lv (.ref q :: st) (w ++ [(q, .inl (gZ G, N, .inl (fun _ => 0)))])) : Gq p l e R s m args below meth c G A nL cs sl Q pc lv (.int i :: st) w := by
  intro H locs ls hP hD hS h
  refine va_newa (atype := .boolean) (ty := .boolean) (a0 := (N, .inl (fun _ => 0))) C.1 C.2.1 (C.2.2.2.2.1 _ wZ) rfl C.2.2.2.2.2.1.1 hP hD hS C.2.2.2.2.2.2.1 (fun _ => rfl) hi.1 hi.2.1 hi.2.2 hc hs hd (fun q cA H1 hK2 hP hD hS => ?_)
  have e := arr_same C.2.2.2.2.2.1.1 hK2 (k := 3) rfl (fun C h => by cases h)
  subst e
  exact kk q H1 locs ls hP hD hS h
theorem go_newJ (C : Cx p e s m args meth c G own cc nL ret A) {i : Int32} {N : Nat} (hd : decode cc pc = .ok (.newarray .long, 2)) (hi : ¬ i < 0 ∧ i.toNatClampNeg = N ∧ N * 8 ≤ 536870912) (hc : cs + 1 ≤ R.cells) (hs : sl + N ≤ R.slots) (kk : ∀ q : Nat, Gq p l e R s m args below meth c G A nL (cs + 1) (sl + N) Q (pc + 2) lv (.ref q :: st) (w ++ [(q, .inl (gJ G, N, .inr (.inl (fun _ => 0))))])) : Gq p l e R s m args below meth c G A nL cs sl Q pc lv (.int i :: st) w := by
  intro H locs ls hP hD hS h
  refine va_newa (atype := .long) (ty := .long) (a0 := (N, .inr (.inl (fun _ => 0)))) C.1 C.2.1 (C.2.2.2.2.1 _ wJ) rfl C.2.2.2.2.2.1.1 hP hD hS C.2.2.2.2.2.2.1 (fun _ => rfl) hi.1 hi.2.1 hi.2.2 hc hs hd (fun q cA H1 hK2 hP hD hS => ?_)
  have e := arr_same C.2.2.2.2.2.1.1 hK2 (k := 2) rfl (fun C h => by cases h)
  subst e
  exact kk q H1 locs ls hP hD hS h
theorem go_newQ (C : Cx p e s m args meth c G own cc nL ret A) {i : Int32} {N : Nat} (hcl : Cond.classLink own idx RX1 ∈ wsL_law) (hd : decode cc pc = .ok (.anewarray idx, 3)) (hi : ¬ i < 0 ∧ i.toNatClampNeg = N ∧ N * 4 ≤ 536870912) (hc : cs + 1 ≤ R.cells) (hs : sl + N ≤ R.slots) (kk : ∀ q : Nat, Gq p l e R s m args below meth c G A nL (cs + 1) (sl + N) Q (pc + 3) lv (.ref q :: st) (w ++ [(q, .inl (gO G, N, .inr (.inr (.inr (.inr (fun _ => none))))))])) : Gq p l e R s m args below meth c G A nL cs sl Q pc lv (.int i :: st) w := by
  intro H locs ls hP hD hS h
  refine va_newq C.1 C.2.1 C.2.2.2.1 (C.2.2.2.2.1 _ hcl) C.2.2.2.2.2.1.2.2 C.2.2.2.2.2.1.1 hP hD hS C.2.2.2.2.2.2.1 hi.1 hi.2.1 hi.2.2 hc hs hd (fun q cA H1 hK2 hP hD hS => ?_)
  have e := arr_sameO C.2.2.2.2.2.1.1 hK2 (k := 4) rfl
  subst e
  exact kk q H1 locs ls hP hD hS h
theorem go_putF (C : Cx p e s m args meth c G own cc nL ret A) {ci k a b : Nat} {fs : List Value} {ty : FieldType} (F : FP own idx ci k ty true) (hin : meth.name = "<init>") (hd : decode cc pc = .ok (.putfield idx, 3)) (q0 : Nat) (he : w[q0]? = some (a, .inr (ci, fs))) (hty : narrow ty (.ref b) = .ref b ∧ fits ty (.ref b) = true) (hl : k < fs.length) (hw : w.set q0 (a, .inr (ci, fs.set k (.ref b))) = w') (kk : Gq p l e R s m args below meth c G A nL cs sl Q (pc + 3) lv st w') : Gq p l e R s m args below meth c G A nL cs sl Q pc lv (.ref b :: .ref a :: st) w := by
  obtain ⟨Cn, T, N, ty0, h1, h2, h3, h4, h5, h6, h7, h8, h9⟩ := F
  subst hw
  exact fun H locs ls hP hD hS h => va_putF C.1 C.2.1 C.2.2.2.2.1 h2 ty0 h5 h6 C.2.2.2.1 C.2.2.2.2.2.1.1 hP hD hS q0 he h1 k h3 (C.2.2.2.2.1 _ h4) (fun _ h9 => h9) h7 hin h9 h8 hty.1 hty.2 hl hd (fun H1 locs1 hP hD hS => kk H1 locs1 ls hP hD hS h)
/-- behind a call that makes cells -/
theorem go_runA {X : Type} {wf : X → va_W} {mc ms : Nat} (C : Cx p e s m args meth c G own cc nL ret A) {a : Array Value} (isC isR : List Nat) (hC : isC.map (fun i => w[i]?) = wc.map some) (hR : isR.map (fun i => w[i]?) = wr.map some) (hn : (va_nd isC && va_nd isR && isR.all (fun i => !(isC.contains i))) = true)
    (hr : ∀ (H : Heap) (locs : List Loc) (ls : Array Slot), va_P G.1 vwCl w H → lv_has ls nL lv → va_P G.1 vwCl wc H → va_D (fun _ => True) wc → va_Run p l e R s m args below meth c H locs cs sl mc ms (F0 m pc ls st0) st (QA G v wf (va_A wc H.size) a) (va_A wc H.size))
    (kk : ∀ x : X, Gq p l e R s m args below meth c G A nL (cs + mc) (sl + ms) Q (pc + 3) lv (v.toList ++ st) (wr ++ wf x)) : Gq p l e R s m args below meth c G A nL cs sl Q pc lv st0 w := by
  intro H locs ls hP hD hS hl
  simp only [Bool.and_eq_true, List.all_eq_true, Bool.not_eq_true', List.contains_eq_mem, decide_eq_false_iff_not] at hn
  obtain ⟨⟨n1, n2⟩, n4⟩ := hn
  have hPc := hP.sub (ws' := wc) isC (fm_of hC)
  have hDc := hD.sub (ws' := wc) isC n1 hC
  have hFc := va_free (wc := wc) hD hS C.2.2.2.2.2.2.1 isC hC
  intro T hT X
  obtain ⟨v', st₀, t, T', L, h0, X', hL, e1, e2, ⟨⟨hv, x, hP1, hD1⟩, hz, hk⟩, stp⟩ := hr H locs ls hP hl hPc (hDc.weaken (fun _ _ _ _ => trivial)) T hT X
  cases hv
  rw [h0] at hz hk
  obtain ⟨hP2, hD2⟩ := va_join hP hD isC isR hC hR n2 n4 hk hFc hP1 hD1
  rw [← e1] at hP2 hz hk
  have hS2 : va_S A s.heap T'.heap (locs ++ L) := ⟨Nat.le_trans hS.1 hz, fun q h1 h2 => by rw [hk q (Nat.lt_of_lt_of_le h1 hS.1) (fun z => h2 (hFc q z))]; exact hS.2.1 q h1 h2, fun q hq => by
      rcases List.mem_append.mp hq with h | h
      · exact hS.2.2 q h
      · exact hFc _ (hL q h)⟩
  obtain ⟨t2, a1, b1⟩ := kk x T'.heap (locs ++ L) ls hP2 hD2 hS2 hl T' rfl X'
  exact ⟨t2, stp t2 a1, b1⟩
theorem go_callI {X : Type} {wf : X → va_W} {mc ms b : Nat} (C : Cx p e s m args meth c G own cc nL ret A) (F : CfB own idx y cy ny none 0) (hi : Cond.instanceMethod y ∈ wsL_law ∧ y.name = "<init>") (K : KA l G y cy ny none fr lo mc ms [.ref b] wc none wf) (hd : decode cc pc = .ok (.invokespecial idx, 3)) (hR : fr + 1 ≤ R.frames ∧ 8 + (ny + 11) + lo ≤ R.locals) (hc : cs + mc ≤ R.cells ∧ sl + ms ≤ R.slots) (hro : (st.map fun v => v.category).sum ≤ 8)
    (isC isR : List Nat) (hC : isC.map (fun i => w[i]?) = wc.map some) (hRr : isR.map (fun i => w[i]?) = wr.map some) (hn : (va_nd isC && va_nd isR && isR.all (fun i => !(isC.contains i))) = true)
    (kk : ∀ x : X, Gq p l e R s m args below meth c G A nL (cs + mc) (sl + ms) Q (pc + 3) lv st (wr ++ wf x)) : Gq p l e R s m args below meth c G A nL cs sl Q pc lv (.ref b :: st) w :=
  go_runA (v := none) (st := st) C isC isR hC hRr hn (fun H locs ls hP hl hPc hDc => va_runI (As := []) ⟨C.1, C.2.1, C.2.2.1, C.2.2.2.1, C.2.2.2.2.1⟩ (K H.size) ⟨callB_of 0 C.2.2.2.2.1 (wq_in F.2.2.1) rfl rfl rfl (C.2.2.2.2.1 _ F.2.1) (C.2.2.2.2.1 _ F.1) F.2.2.2 hR, hi.2, C.2.2.2.2.1 _ hi.1⟩ ⟨Pk_blind, fun U hU hW => ⟨rfl, by rw [hU], by rw [hU]; exact hPc, C.2.2.2.2.2.1.warm hW, hDc⟩⟩ rfl rfl hl.1 rfl (lv_room hro) hd hc) kk
theorem go_callIN {X : Type} {wf : X → va_W} {mc ms b : Nat} (C : Cx p e s m args meth c G own cc nL ret A) (F : CfN own idx y cy ny none 0) (hi : Cond.instanceMethod y ∈ wsL_law ∧ y.name = "<init>") (K : KA l G y cy ny none fr lo mc ms [.ref b] wc none wf) (hd : decode cc pc = .ok (.invokespecial idx, 3)) (hR : fr + 1 ≤ R.frames ∧ 8 + (ny + 11) + lo ≤ R.locals) (hc : cs + mc ≤ R.cells ∧ sl + ms ≤ R.slots) (hro : (st.map fun v => v.category).sum ≤ 8)
    (isC isR : List Nat) (hC : isC.map (fun i => w[i]?) = wc.map some) (hRr : isR.map (fun i => w[i]?) = wr.map some) (hn : (va_nd isC && va_nd isR && isR.all (fun i => !(isC.contains i))) = true)
    (kk : ∀ x : X, Gq p l e R s m args below meth c G A nL (cs + mc) (sl + ms) Q (pc + 3) lv st (wr ++ wf x)) : Gq p l e R s m args below meth c G A nL cs sl Q pc lv (.ref b :: st) w :=
  go_runA (v := none) (st := st) C isC isR hC hRr hn (fun H locs ls hP hl hPc hDc => va_runIN (As := []) ⟨C.1, C.2.1, C.2.2.1, C.2.2.2.1, C.2.2.2.2.1⟩ (K H.size) ⟨va_cnB 0 C.2.2.2.2.1 (wq_in F.2.2.1) rfl rfl rfl (C.2.2.2.2.2.1.2.1 _ F.1) (C.2.2.2.2.1 _ F.2.1) F.2.2.2 hR, hi.2, C.2.2.2.2.1 _ hi.1⟩ ⟨Pk_blind, fun U hU hW => ⟨rfl, by rw [hU], by rw [hU]; exact hPc, C.2.2.2.2.2.1.warm hW, hDc⟩⟩ rfl rfl hl.1 rfl (lv_room hro) hd hc) kk
theorem go_alen (C : Cx p e s m args meth c G own cc nL ret A) {a n : Nat} {f : Nat → Int32} {x : Int32} (hd : decode cc pc = .ok (.arraylength, 1)) (q0 : Nat) (ha : w[q0]? = some (a, .inl (gI G, n, .inl f))) (hx : Int32.ofNat n = x) (kk : Gq p l e R s m args below meth c G A nL cs sl Q (pc + 1) lv (.int x :: st) w) : Gq p l e R s m args below meth c G A nL cs sl Q pc lv (.ref a :: st) w :=
  fun H locs ls hP hD hS h => va_alen (x := (n, .inl f)) C.1 C.2.1 C.2.2.2.2.2.1.1 hP q0 1 ha rfl hx hd (kk H locs ls hP hD hS h)
end
set_option maxRecDepth 100000 in
set_option maxHeartbeats 4000000 in
/-- Arrays.fill over a row of ints -/
theorem fill_k (l : Launch) (G : gG) (a0 n : Nat) (hn : n < 2 ^ 31) (f : Nat → Int32) (v : Int32) : KK l G yJ7_fill_53178 cJ7_fill_53178 4 none 0 0 [.ref a0, .int v] [(a0, .inl (gI G, n, .inl f))] none [(a0, .inl (gI G, n, .inl (fun j => if j < n then v else f j)))] := by
  refine KK_intro (own := RJ7) (by decide +kernel) rfl (Nat.le_of_ble_eq_true rfl) rfl ?_
  intro p e s m args below meth c A C
  have loop : ∀ (k i : Nat) (g : Nat → Int32), i + k = n → (∀ j, g j = if j < i then v else f j) → Gq p l e (rq 0 0) s m args below meth c G A 4 0 0 (MQ below (QK G none [(a0, .inl (gI G, n, .inl (fun j => if j < n then v else f j)))] A) args s 0 0 A) 5 [(3, .int (nI n)), (2, .int (nI i)), (0, .ref a0), (1, .int v)] [] [(a0, .inl (gI G, n, .inl g))] := by
    intro k
    induction k with
    | zero =>
      intro i g hi hg
      have hin : i = n := by omega
      subst hin
      have hgg : g = fun j => if j < i then v else f j := funext hg
      refine go_iload_n C dJ7_fill_53178_5 1 rfl ?_
      refine go_iload_n C dJ7_fill_53178_6 0 rfl ?_
      refine go_icmp_ge (t1 := some ()) (t2 := none) (r := ()) (tgt := 20) C (if_pos (nI_le (Nat.le_refl _) hn)) dJ7_fill_53178_7 rfl (fun h => ?_) (fun h => by cases h)
      exact go_vret C dJ7_fill_53178_20 rfl (by rw [hgg])
    | succ k ih =>
      intro i g hi hg
      have hlt : i < n := by omega
      refine go_iload_n C dJ7_fill_53178_5 1 rfl ?_
      refine go_iload_n C dJ7_fill_53178_6 0 rfl ?_
      refine go_icmp_ge (t1 := none) (t2 := some ()) (r := ()) (tgt := 20) C (if_neg (nI_ge hlt hn)) dJ7_fill_53178_7 rfl (fun h => by cases h) (fun h => ?_)
      refine go_aload_n C dJ7_fill_53178_10 2 rfl ?_
      refine go_iload_n C dJ7_fill_53178_11 1 rfl ?_
      refine go_iload_n C dJ7_fill_53178_12 3 rfl ?_
      refine go_iastore C dJ7_fill_53178_13 0 rfl (decide_eq_true (vp_in_nI hlt hn)) rfl ?_
      refine go_iincN (k := fun x => if x = nI (i + 1) then some () else none) (r := ()) (lf := fun x => [(2, .int x), (3, .int (nI n)), (0, .ref a0), (1, .int v)]) C (if_pos (nI_1 i)) dJ7_fill_53178_14 1 rfl rfl (by decide) (fun _ => rfl) (fun x hx => ?_)
      have ex : x = nI (i + 1) := by
        by_cases q : x = nI (i + 1)
        · exact q
        · rw [if_neg q] at hx; cases hx
      subst ex
      refine go_goto (tgt := 5) C dJ7_fill_53178_17 rfl ?_
      refine go_lv [1, 0, 2, 3] rfl (ih (i + 1) _ (by omega) (fun j => ?_))
      rw [nI_clamp (by omega)]
      unfold upd
      rw [hg]
      by_cases h1 : j = i
      · rw [if_pos h1, if_pos (by omega)]
      · by_cases h2 : j < i
        · rw [if_neg h1, if_pos h2, if_pos (by omega)]
        · rw [if_neg h1, if_neg h2, if_neg (by omega)]
  refine go_iconst (v := 0) C dJ7_fill_53178_0 rfl ?_
  refine go_istore_n (lv' := [(2, .int 0), (0, .ref a0), (1, .int v)]) C dJ7_fill_53178_1 (by decide) rfl ?_
  refine go_aload_n C dJ7_fill_53178_2 1 rfl ?_
  refine go_alen C dJ7_fill_53178_3 0 rfl rfl ?_
  refine go_istore_n (lv' := [(3, .int (nI n)), (2, .int 0), (0, .ref a0), (1, .int v)]) C dJ7_fill_53178_4 (by decide) rfl ?_
  exact loop n 0 f (by omega) (fun j => by rw [if_neg (by omega)])
