/-! the walk in short rows: trees of what a method answers, a place in a method (Gq), contracts (KK) -/
def tgd {α : Type} (b : Bool) (t : Option α) : Option α := if b = true then t else none
def tnm {α β : Type} (x : α) (k : α → Option β) : Option β := k x
def tbd {α β : Type} (o : Option α) (k : α → Option β) : Option β := match o with
  | none => none
  | some a => k a
def tit {S E : Type} (F : (S → Option E) → S → Option E) : Nat → S → Option E
  | 0, _ => none
  | n + 1, s => F (tit F n) s
def tin (i : Int32) (n : Nat) : Bool := decide (¬ (i < 0 ∨ n ≤ i.toNatClampNeg))
def tbl (v : Int32) : Bool := decide (v = 0 ∨ v = 1)
def tch (v : Int32) : Bool := decide (narrow .char (.int v) = .int v)
def tnz (v : Int32) : Bool := decide (¬ v = 0)
def tnzl (v : Int64) : Bool := decide (¬ v = 0)
def imin (x y : Int32) : Int32 := if y < x then y else x
def imax (x y : Int32) : Int32 := if x < y then y else x
def iabs (x : Int32) : Int32 := if 0 ≤ x then x else 0 - x
def iushr (x y : Int32) : Int32 := (x.toUInt32 >>> (y.toUInt32 &&& Int32.toUInt32 31)).toInt32
def irem (x y : Int32) : Int32 := x - x / y * y
def lrem (x y : Int64) : Int64 := x - x / y * y
def i2c (x : Int32) : Int32 := (x.toUInt32 % 65536).toInt32
theorem tgd_e {α : Type} {b : Bool} {t : Option α} {r : α} (h : tgd b t = some r) : b = true ∧ t = some r := by
  unfold tgd at h
  by_cases hb : b = true
  · rw [if_pos hb] at h; exact ⟨hb, h⟩
  · rw [if_neg hb] at h; cases h
theorem tbd_e {α β : Type} {o : Option α} {k : α → Option β} {r : β} (h : tbd o k = some r) : ∃ v, o = some v ∧ k v = some r := by
  cases o with
  | none => cases h
  | some a => exact ⟨a, rfl, h⟩
theorem tin_e {i : Int32} {n : Nat} (h : tin i n = true) : vp_in i n := by
  have h1 : ¬ (i < 0 ∨ n ≤ i.toNatClampNeg) := of_decide_eq_true h
  exact h1
abbrev gG : Type := va_G × ClassId × ClassId × ClassId × ClassId × ClassId
abbrev gC (G : gG) : ClassId := G.2.1
abbrev gI (G : gG) : ClassId := G.2.2.1
abbrev gJ (G : gG) : ClassId := G.2.2.2.1
abbrev gZ (G : gG) : ClassId := G.2.2.2.2.1
abbrev gO (G : gG) : ClassId := G.2.2.2.2.2
def gty (G : gG) : List (ClassId × FieldType) := [(gC G, .char), (gI G, .int), (gJ G, .long), (gZ G, .boolean), (gO G, .object RX1)]
/-- the links to private members of nest mates: they don't ride with the words, they are carried beside the classes -/
def nwl : List (String × Nat × MethodName) := [(RX9, 18, yX5_init), (RX9, 25, yX0_init), (RX9, 32, yX4_init), (RX4, 20, yX0_init), (RX9, 39, yX7_init), (RX9, 46, yX6_init), (RX9, 53, yX8_init), (RX9, 60, yX3_init), (RX1, 58, yX9_isRung), (RX1, 62, yX9_bitOf), (RX1, 66, yX9_isMan), (RX7, 56, yX9_isPlace), (RX7, 53, yX9_bitOf), (RX6, 35, yX9_bitOf), (RX6, 38, yX9_isMan), (RX8, 36, yX9_bitOf), (RX2, 19, yX9_bitOf), (RX3, 26, yX9_isRung)]
def EV (G : gG) (U : State) : Prop := va_K G.1 vwCl (gty G) U ∧ (∀ q ∈ nwl, va_Nw (.methodLinkNest q.1 q.2.1 q.2.2 RX9) U) ∧ va_AO RX1 U
theorem EV.warm {G : gG} {s U : State} (hW : s.WarmedH U.vm) (h : EV G s) : EV G U := ⟨va_K.moved hW.alike h.1, fun q hq => va_Nw.warmM hW (h.2.1 q hq), va_AO.moved hW.alike h.2.2⟩
theorem EV.call {G : gG} {U : State} {g : JFrame} {mk : MethodId} {a : Array Value} (h : EV G U) : EV G (U.calling g mk a) := ⟨va_K.moved (u := U) (U := U.calling g mk a) (Vm.Alike.refl U.vm) h.1, fun q hq => va_Nw.same rfl (show U.vm = (U.calling g mk a).vm from rfl) (h.2.1 q hq), va_AO.moved (u := U) (U := U.calling g mk a) (Vm.Alike.refl U.vm) h.2.2⟩
set_option maxRecDepth 20000 in
theorem wL_good : wsL_law.all goodWord = true := by decide +kernel
def wq (y : MethodName) (cc : ByteArray) (nL : Nat) (ret : Option FieldType) : List Cond := Cond.code y cc nL ret :: wsL_law
theorem wq_in {y : MethodName} {cc : ByteArray} {nL : Nat} {ret : Option FieldType} (h : Cond.code y cc nL ret ∈ wsL_law) : GoodIn wsL_law (wq y cc nL ret) := by
  intro w hw
  have hm : w ∈ wsL_law := by
    rcases List.mem_cons.mp hw with rfl | h1
    · exact h
    · exact h1
  exact ⟨hm, good_of_word (List.all_eq_true.mp wL_good w hm)⟩
abbrev rq (fr lo : Nat) : Room := { frames := fr, cells := 0, slots := 0, locals := lo }
abbrev rqa (fr lo mc ms : Nat) : Room := { frames := fr, cells := mc, slots := ms, locals := lo }
def Cx (p : Program) (e : Env) (s : State) (m : MethodId) (args : Array Value) (meth : Method) (c : Code) (G : gG) (own : String) (cc : ByteArray) (nL : Nat) (ret : Option FieldType) (A : Nat → Prop) : Prop :=
  p.tables.exec = Jvm.exec ∧ c.code = cc ∧ c.maxLocals = nL ∧ s.vm.findClass own = some m.cls ∧ (∀ w ∈ wsL_law, w.before args s = true) ∧ EV G s ∧ (∀ q : Nat, s.heap.size ≤ q → A q) ∧ meth.sig.returnType = ret ∧ meth.locks = false
/-- a place in a method: at pc, with these locals, this stack and this world, the machine comes to Q -/
def Gq (p : Program) (l : Launch) (e : Env) (R : Room) (s : State) (m : MethodId) (args : Array Value) (below : List Frame) (meth : Method) (c : Code) (G : gG) (A : Nat → Prop) (nL cs sl : Nat) (Q : State → Prop) (pc : Nat) (lv : List (Nat × Value)) (st : List Value) (w : va_W) : Prop :=
  ∀ (H : Heap) (locs : List Loc) (ls : Array Slot), va_P G.1 vwCl w H → va_D A w → va_S A s.heap H locs → lv_has ls nL lv → W p l e R s m args below meth c H locs cs sl Q (F0 m pc ls st)
/-- a method's end: its answer, its world -/
def QK (G : gG) (v : Option Value) (w' : va_W) (A : Nat → Prop) : Array Value → State → Outcome → State → Prop := fun _ st oc t => (oc = .returned v ∧ va_P G.1 vwCl w' t.heap ∧ va_D A w') ∧ va_F A st t
def Pk (G : gG) (av : List Value) (w : va_W) (sz : Nat) : Array Value → State → Prop := va_Pc av (fun U => U.heap.size = sz ∧ va_P G.1 vwCl w U.heap ∧ EV G U ∧ va_D (fun _ => True) w)
/-- a contract: from the world w with these arguments the method answers v and leaves the world w' -/
def KK (l : Launch) (G : gG) (y : MethodName) (cc : ByteArray) (nL : Nat) (ret : Option FieldType) (fr lo : Nat) (av : List Value) (w : va_W) (v : Option Value) (w' : va_W) : Prop :=
  ∀ sz : Nat, Met l y (wq y cc nL ret) (rq fr lo) (Pk G av w sz) (QK G v w' (va_A w sz)) 0 0 (va_A w sz)
theorem Pk_blind {G : gG} {av : List Value} {w : va_W} {sz : Nat} : FrameBlind (Pk G av w sz) := by
  intro a U g mk q
  obtain ⟨q0, q1, qP, qK, qD⟩ := q
  exact ⟨q0, q1, qP, qK.call, qD⟩
theorem fm_of {α β : Type} {f : α → Option β} {l : List α} {l' : List β} (h : l.map f = l'.map some) : l.filterMap f = l' := by
  have h1 : l.filterMap f = (l.map f).filterMap id := by rw [List.filterMap_map]; rfl
  rw [h1, h, List.filterMap_map]
  show List.filterMap some l' = l'
  exact List.filterMap_some
section
variable {p : Program} {l : Launch} {e : Env} {R : Room} {s : State} {m : MethodId} {args : Array Value} {below : List Frame} {meth : Method} {c : Code} {G : gG} {A : Nat → Prop} {own : String} {cc : ByteArray} {nL cs sl : Nat} {ret : Option FieldType} {Q : State → Prop} {pc : Nat} {lv : List (Nat × Value)} {st : List Value} {w : va_W}
theorem KK_intro {y : MethodName} {fr lo : Nat} {av : List Value} {v : Option Value} {w' : va_W} {lv0 : List (Nat × Value)} (hy : plainName y.cls = true) (hown : y.cls = own) (hn : (lg_sl av).length ≤ nL) (hlv : lv_args 0 av = lv0)
    (body : ∀ (p : Program) (e : Env) (s : State) (m : MethodId) (args : Array Value) (below : List Frame) (meth : Method) (c : Code) (A : Nat → Prop), Cx p e s m args meth c G own cc nL ret A → Gq p l e (rq fr lo) s m args below meth c G A nL 0 0 (MQ below (QK G v w' A) args s 0 0 A) 0 lv0 [] w) :
    KK l G y cc nL ret fr lo av w v w' := by
  intro sz
  refine Met.ofW (cc := cc) (maxL := nL) (ret := ret) hy rfl ?_
  intro p e s m args below meth c s₁ B hml hv
  obtain ⟨rfl, hsz, hP, hK, hD0⟩ := hv
  have hown1 : s.vm.findClass y.cls = some m.cls := findClass_of_methodNamed B.named
  have hts := atoms_spec (ws := wq y cc nL ret) B.pre
  subst hsz
  have C : Cx p e s m av.toArray meth c G own cc nL ret (va_A w s.heap.size) := ⟨B.exec, B.bytes, hml, by rw [← hown]; exact hown1, fun x hx => hts x (List.mem_cons_of_mem _ hx), hK, fun q h => Or.inr h, B.returns, B.notSynchronized⟩
  have hl := lv_entry av (n := nL) hn
  rw [lg_entry_eq]
  generalize (lg_sl av ++ List.replicate (nL - (lg_sl av).length) Slot.unset).toArray = ls at hl ⊢
  rw [hlv] at hl
  exact body p e s m av.toArray below meth c _ C s.heap [] ls hP (hD0.self) va_S.rf hl
-- locals in another order, fewer
theorem go_lv {lv' : List (Nat × Value)} (ks : List Nat) (hl : lv_pick lv ks = lv') (kk : Gq p l e R s m args below meth c G A nL cs sl Q pc lv' st w) : Gq p l e R s m args below meth c G A nL cs sl Q pc lv st w :=
  fun H locs ls hP hD hS h => kk H locs ls hP hD hS (lv_sub h ks hl)
theorem go_iconst (C : Cx p e s m args meth c G own cc nL ret A) {n : Int} {v : Int32} (hd : decode cc pc = .ok (.iconst n, 1)) (hv : Int32.ofInt n = v) (kk : Gq p l e R s m args below meth c G A nL cs sl Q (pc + 1) lv (.int v :: st) w) : Gq p l e R s m args below meth c G A nL cs sl Q pc lv st w :=
  fun H locs ls hP hD hS h => lv_iconst C.1 C.2.1 hd hv (kk H locs ls hP hD hS h)
theorem go_bipush (C : Cx p e s m args meth c G own cc nL ret A) {n : Int} {v : Int32} (hd : decode cc pc = .ok (.bipush n, 2)) (hv : (Int8.ofInt n).toInt32 = v) (kk : Gq p l e R s m args below meth c G A nL cs sl Q (pc + 2) lv (.int v :: st) w) : Gq p l e R s m args below meth c G A nL cs sl Q pc lv st w :=
  fun H locs ls hP hD hS h => lv_bipush C.1 C.2.1 hd hv (kk H locs ls hP hD hS h)
theorem go_sipush (C : Cx p e s m args meth c G own cc nL ret A) {n : Int} {v : Int32} (hd : decode cc pc = .ok (.sipush n, 3)) (hv : (Int16.ofInt n).toInt32 = v) (kk : Gq p l e R s m args below meth c G A nL cs sl Q (pc + 3) lv (.int v :: st) w) : Gq p l e R s m args below meth c G A nL cs sl Q pc lv st w :=
  fun H locs ls hP hD hS h => lv_sipush C.1 C.2.1 hd hv (kk H locs ls hP hD hS h)
theorem go_lconst (C : Cx p e s m args meth c G own cc nL ret A) {n : Fin 2} {v : Int64} (hd : decode cc pc = .ok (.lconst n, 1)) (hv : Int64.ofNat (n : Nat) = v) (kk : Gq p l e R s m args below meth c G A nL cs sl Q (pc + 1) lv (.long v :: st) w) : Gq p l e R s m args below meth c G A nL cs sl Q pc lv st w :=
  fun H locs ls hP hD hS h => lv_lconst C.1 C.2.1 hd hv (kk H locs ls hP hD hS h)
theorem go_ldc (C : Cx p e s m args meth c G own cc nL ret A) {i : Nat} {v : Int32} (hd : decode cc pc = .ok (.ldc i, 2)) (hw : Cond.constant own i v ∈ wsL_law) (kk : Gq p l e R s m args below meth c G A nL cs sl Q (pc + 2) lv (.int v :: st) w) : Gq p l e R s m args below meth c G A nL cs sl Q pc lv st w :=
  fun H locs ls hP hD hS h => lv_ldc C.1 C.2.1 C.2.2.2.1 (C.2.2.2.2.1 _ hw) hd (kk H locs ls hP hD hS h)
theorem go_ldcw (C : Cx p e s m args meth c G own cc nL ret A) {i : Nat} {v : Int32} (hd : decode cc pc = .ok (.ldc_w i, 3)) (hw : Cond.constant own i v ∈ wsL_law) (kk : Gq p l e R s m args below meth c G A nL cs sl Q (pc + 3) lv (.int v :: st) w) : Gq p l e R s m args below meth c G A nL cs sl Q pc lv st w :=
  fun H locs ls hP hD hS h => lv_ldcw C.1 C.2.1 C.2.2.2.1 (C.2.2.2.2.1 _ hw) hd (kk H locs ls hP hD hS h)
theorem go_ldc2 (C : Cx p e s m args meth c G own cc nL ret A) {i : Nat} {v : Int64} (hd : decode cc pc = .ok (.ldc2_w i, 3)) (hw : Cond.constantLong own i v ∈ wsL_law) (kk : Gq p l e R s m args below meth c G A nL cs sl Q (pc + 3) lv (.long v :: st) w) : Gq p l e R s m args below meth c G A nL cs sl Q pc lv st w :=
  fun H locs ls hP hD hS h => lv_ldc2 C.1 C.2.1 C.2.2.2.1 (C.2.2.2.2.1 _ hw) hd (kk H locs ls hP hD hS h)
-- locals
theorem go_iload_n (C : Cx p e s m args meth c G own cc nL ret A) {kf : Fin 4} {x : Int32} (hd : decode cc pc = .ok (.iload_n kf, 1)) (j : Nat) (hk : lv[j]? = some ((kf : Nat), .int x)) (kk : Gq p l e R s m args below meth c G A nL cs sl Q (pc + 1) lv (.int x :: st) w) : Gq p l e R s m args below meth c G A nL cs sl Q pc lv st w :=
  fun H locs ls hP hD hS h => lv_iload_n C.1 C.2.1 hd rfl (lv_at h j hk) (kk H locs ls hP hD hS h)
theorem go_iload (C : Cx p e s m args meth c G own cc nL ret A) {i : Nat} {x : Int32} (hd : decode cc pc = .ok (.iload i, 2)) (j : Nat) (hk : lv[j]? = some (i, .int x)) (kk : Gq p l e R s m args below meth c G A nL cs sl Q (pc + 2) lv (.int x :: st) w) : Gq p l e R s m args below meth c G A nL cs sl Q pc lv st w :=
  fun H locs ls hP hD hS h => lv_iload C.1 C.2.1 hd (lv_at h j hk) (kk H locs ls hP hD hS h)
theorem go_lload_n (C : Cx p e s m args meth c G own cc nL ret A) {kf : Fin 4} {x : Int64} (hd : decode cc pc = .ok (.lload_n kf, 1)) (j : Nat) (hk : lv[j]? = some ((kf : Nat), .long x)) (kk : Gq p l e R s m args below meth c G A nL cs sl Q (pc + 1) lv (.long x :: st) w) : Gq p l e R s m args below meth c G A nL cs sl Q pc lv st w :=
  fun H locs ls hP hD hS h => lv_lload_n C.1 C.2.1 hd rfl (lv_at h j hk) (kk H locs ls hP hD hS h)
theorem go_lload (C : Cx p e s m args meth c G own cc nL ret A) {i : Nat} {x : Int64} (hd : decode cc pc = .ok (.lload i, 2)) (j : Nat) (hk : lv[j]? = some (i, .long x)) (kk : Gq p l e R s m args below meth c G A nL cs sl Q (pc + 2) lv (.long x :: st) w) : Gq p l e R s m args below meth c G A nL cs sl Q pc lv st w :=
  fun H locs ls hP hD hS h => lv_lload C.1 C.2.1 hd (lv_at h j hk) (kk H locs ls hP hD hS h)
theorem go_aload_n (C : Cx p e s m args meth c G own cc nL ret A) {kf : Fin 4} {x : Nat} (hd : decode cc pc = .ok (.aload_n kf, 1)) (j : Nat) (hk : lv[j]? = some ((kf : Nat), .ref x)) (kk : Gq p l e R s m args below meth c G A nL cs sl Q (pc + 1) lv (.ref x :: st) w) : Gq p l e R s m args below meth c G A nL cs sl Q pc lv st w :=
  fun H locs ls hP hD hS h => lv_aload_n C.1 C.2.1 hd rfl (lv_at h j hk) (kk H locs ls hP hD hS h)
-- stores: the plain ones, and those that name what is stored
theorem go_istore_n (C : Cx p e s m args meth c G own cc nL ret A) {kf : Fin 4} {x : Int32} {lv' : List (Nat × Value)} (hd : decode cc pc = .ok (.istore_n kf, 1)) (hn : (kf : Nat) < nL) (hl : ((kf : Nat), Value.int x) :: lv.filter (fun q => !(q.1 == (kf : Nat)) && !(q.1 + 1 == (kf : Nat) && q.2.category == 2)) = lv') (kk : Gq p l e R s m args below meth c G A nL cs sl Q (pc + 1) lv' st w) : Gq p l e R s m args below meth c G A nL cs sl Q pc lv (.int x :: st) w :=
  fun H locs ls hP hD hS h => lv_istore_n C.1 C.2.1 hd rfl h hn hl (fun ls' h' => kk H locs ls' hP hD hS h')
theorem go_istore (C : Cx p e s m args meth c G own cc nL ret A) {i : Nat} {x : Int32} {lv' : List (Nat × Value)} (hd : decode cc pc = .ok (.istore i, 2)) (hn : i < nL) (hl : (i, Value.int x) :: lv.filter (fun q => !(q.1 == i) && !(q.1 + 1 == i && q.2.category == 2)) = lv') (kk : Gq p l e R s m args below meth c G A nL cs sl Q (pc + 2) lv' st w) : Gq p l e R s m args below meth c G A nL cs sl Q pc lv (.int x :: st) w :=
  fun H locs ls hP hD hS h => lv_istore C.1 C.2.1 hd h hn hl (fun ls' h' => kk H locs ls' hP hD hS h')
theorem go_istore_nN (C : Cx p e s m args meth c G own cc nL ret A) {β : Type} {r : β} {k : Int32 → Option β} {kf : Fin 4} {x : Int32} {lf : Int32 → List (Nat × Value)} (h : tnm x k = some r) (hd : decode cc pc = .ok (.istore_n kf, 1)) (hn : (kf : Nat) < nL) (hl : ∀ x : Int32, ((kf : Nat), Value.int x) :: lv.filter (fun q => !(q.1 == (kf : Nat)) && !(q.1 + 1 == (kf : Nat) && q.2.category == 2)) = lf x) (kk : ∀ x : Int32, k x = some r → Gq p l e R s m args below meth c G A nL cs sl Q (pc + 1) (lf x) st w) : Gq p l e R s m args below meth c G A nL cs sl Q pc lv (.int x :: st) w :=
  go_istore_n C hd hn (hl x) (kk x h)
theorem go_istoreN (C : Cx p e s m args meth c G own cc nL ret A) {β : Type} {r : β} {k : Int32 → Option β} {i : Nat} {x : Int32} {lf : Int32 → List (Nat × Value)} (h : tnm x k = some r) (hd : decode cc pc = .ok (.istore i, 2)) (hn : i < nL) (hl : ∀ x : Int32, (i, Value.int x) :: lv.filter (fun q => !(q.1 == i) && !(q.1 + 1 == i && q.2.category == 2)) = lf x) (kk : ∀ x : Int32, k x = some r → Gq p l e R s m args below meth c G A nL cs sl Q (pc + 2) (lf x) st w) : Gq p l e R s m args below meth c G A nL cs sl Q pc lv (.int x :: st) w :=
  go_istore C hd hn (hl x) (kk x h)
theorem go_iincN (C : Cx p e s m args meth c G own cc nL ret A) {β : Type} {r : β} {k : Int32 → Option β} {i : Nat} {n : Int} {x y : Int32} {lf : Int32 → List (Nat × Value)} (h : tnm y k = some r) (hd : decode cc pc = .ok (.iinc i n, 3)) (j : Nat) (hk : lv[j]? = some (i, .int x)) (hy : x + Int32.ofInt n = y) (hn : i < nL) (hl : ∀ x : Int32, (i, Value.int x) :: lv.filter (fun q => !(q.1 == i) && !(q.1 + 1 == i && q.2.category == 2)) = lf x) (kk : ∀ x : Int32, k x = some r → Gq p l e R s m args below meth c G A nL cs sl Q (pc + 3) (lf x) st w) : Gq p l e R s m args below meth c G A nL cs sl Q pc lv st w :=
  fun H locs ls hP hD hS hh => lv_iinc C.1 C.2.1 hd hh hk hy hn (hl y) (fun ls' h' => kk y h H locs ls' hP hD hS h')
theorem go_lstore_nN (C : Cx p e s m args meth c G own cc nL ret A) {β : Type} {r : β} {k : Int64 → Option β} {kf : Fin 4} {x : Int64} {lf : Int64 → List (Nat × Value)} (h : tnm x k = some r) (hd : decode cc pc = .ok (.lstore_n kf, 1)) (hn : (kf : Nat) + 1 < nL) (hl : ∀ x : Int64, ((kf : Nat), Value.long x) :: lv.filter (fun q => !(q.1 == (kf : Nat)) && (!(q.1 == (kf : Nat) + 1) && !(q.1 + 1 == (kf : Nat) && q.2.category == 2))) = lf x) (kk : ∀ x : Int64, k x = some r → Gq p l e R s m args below meth c G A nL cs sl Q (pc + 1) (lf x) st w) : Gq p l e R s m args below meth c G A nL cs sl Q pc lv (.long x :: st) w :=
  fun H locs ls hP hD hS hh => lv_lstore_n C.1 C.2.1 hd rfl hh hn (hl x) (fun ls' h' => kk x h H locs ls' hP hD hS h')
theorem go_lstoreN (C : Cx p e s m args meth c G own cc nL ret A) {β : Type} {r : β} {k : Int64 → Option β} {i : Nat} {x : Int64} {lf : Int64 → List (Nat × Value)} (h : tnm x k = some r) (hd : decode cc pc = .ok (.lstore i, 2)) (hn : i + 1 < nL) (hl : ∀ x : Int64, (i, Value.long x) :: lv.filter (fun q => !(q.1 == i) && (!(q.1 == i + 1) && !(q.1 + 1 == i && q.2.category == 2))) = lf x) (kk : ∀ x : Int64, k x = some r → Gq p l e R s m args below meth c G A nL cs sl Q (pc + 2) (lf x) st w) : Gq p l e R s m args below meth c G A nL cs sl Q pc lv (.long x :: st) w :=
  fun H locs ls hP hD hS hh => lv_lstore C.1 C.2.1 hd hh hn (hl x) (fun ls' h' => kk x h H locs ls' hP hD hS h')
theorem go_astore_n (C : Cx p e s m args meth c G own cc nL ret A) {kf : Fin 4} {x : Nat} {lv' : List (Nat × Value)} (hd : decode cc pc = .ok (.astore_n kf, 1)) (hn : (kf : Nat) < nL) (hl : ((kf : Nat), Value.ref x) :: lv.filter (fun q => !(q.1 == (kf : Nat)) && !(q.1 + 1 == (kf : Nat) && q.2.category == 2)) = lv') (kk : Gq p l e R s m args below meth c G A nL cs sl Q (pc + 1) lv' st w) : Gq p l e R s m args below meth c G A nL cs sl Q pc lv (.ref x :: st) w :=
  fun H locs ls hP hD hS h => lv_astore_n C.1 C.2.1 hd rfl h hn hl (fun ls' h' => kk H locs ls' hP hD hS h')
-- stack
theorem go_dup (C : Cx p e s m args meth c G own cc nL ret A) {v : Value} (hd : decode cc pc = .ok (.dup, 1)) (hv : v.category = 1) (kk : Gq p l e R s m args below meth c G A nL cs sl Q (pc + 1) lv (v :: v :: st) w) : Gq p l e R s m args below meth c G A nL cs sl Q pc lv (v :: st) w :=
  fun H locs ls hP hD hS h => lv_dup C.1 C.2.1 hd hv (kk H locs ls hP hD hS h)
theorem go_dup2 (C : Cx p e s m args meth c G own cc nL ret A) {v u : Value} (hd : decode cc pc = .ok (.dup2, 1)) (hv : v.category = 1) (hu : u.category = 1) (kk : Gq p l e R s m args below meth c G A nL cs sl Q (pc + 1) lv (v :: u :: v :: u :: st) w) : Gq p l e R s m args below meth c G A nL cs sl Q pc lv (v :: u :: st) w :=
  fun H locs ls hP hD hS h => lv_dup2_11 C.1 C.2.1 hd hv hu (kk H locs ls hP hD hS h)
theorem go_pop (C : Cx p e s m args meth c G own cc nL ret A) {v : Value} (hd : decode cc pc = .ok (.pop, 1)) (hv : v.category = 1) (kk : Gq p l e R s m args below meth c G A nL cs sl Q (pc + 1) lv st w) : Gq p l e R s m args below meth c G A nL cs sl Q pc lv (v :: st) w :=
  fun H locs ls hP hD hS h => lv_pop C.1 C.2.1 hd hv (kk H locs ls hP hD hS h)
theorem go_iadd (C : Cx p e s m args meth c G own cc nL ret A) {x y : Int32} (hd : decode cc pc = .ok (.iadd, 1)) (kk : Gq p l e R s m args below meth c G A nL cs sl Q (pc + 1) lv (.int (x + y) :: st) w) : Gq p l e R s m args below meth c G A nL cs sl Q pc lv (.int y :: .int x :: st) w :=
  fun H locs ls hP hD hS h => lv_iadd C.1 C.2.1 hd (kk H locs ls hP hD hS h)
theorem go_isub (C : Cx p e s m args meth c G own cc nL ret A) {x y : Int32} (hd : decode cc pc = .ok (.isub, 1)) (kk : Gq p l e R s m args below meth c G A nL cs sl Q (pc + 1) lv (.int (x - y) :: st) w) : Gq p l e R s m args below meth c G A nL cs sl Q pc lv (.int y :: .int x :: st) w :=
  fun H locs ls hP hD hS h => lv_isub C.1 C.2.1 hd (kk H locs ls hP hD hS h)
theorem go_imul (C : Cx p e s m args meth c G own cc nL ret A) {x y : Int32} (hd : decode cc pc = .ok (.imul, 1)) (kk : Gq p l e R s m args below meth c G A nL cs sl Q (pc + 1) lv (.int (x * y) :: st) w) : Gq p l e R s m args below meth c G A nL cs sl Q pc lv (.int y :: .int x :: st) w :=
  fun H locs ls hP hD hS h => lv_imul C.1 C.2.1 hd (kk H locs ls hP hD hS h)
theorem go_iand (C : Cx p e s m args meth c G own cc nL ret A) {x y : Int32} (hd : decode cc pc = .ok (.iand, 1)) (kk : Gq p l e R s m args below meth c G A nL cs sl Q (pc + 1) lv (.int (x &&& y) :: st) w) : Gq p l e R s m args below meth c G A nL cs sl Q pc lv (.int y :: .int x :: st) w :=
  fun H locs ls hP hD hS h => lv_iand C.1 C.2.1 hd (kk H locs ls hP hD hS h)
theorem go_ior (C : Cx p e s m args meth c G own cc nL ret A) {x y : Int32} (hd : decode cc pc = .ok (.ior, 1)) (kk : Gq p l e R s m args below meth c G A nL cs sl Q (pc + 1) lv (.int (x ||| y) :: st) w) : Gq p l e R s m args below meth c G A nL cs sl Q pc lv (.int y :: .int x :: st) w :=
  fun H locs ls hP hD hS h => lv_ior C.1 C.2.1 hd (kk H locs ls hP hD hS h)
theorem go_ixor (C : Cx p e s m args meth c G own cc nL ret A) {x y : Int32} (hd : decode cc pc = .ok (.ixor, 1)) (kk : Gq p l e R s m args below meth c G A nL cs sl Q (pc + 1) lv (.int (x ^^^ y) :: st) w) : Gq p l e R s m args below meth c G A nL cs sl Q pc lv (.int y :: .int x :: st) w :=
  fun H locs ls hP hD hS h => lv_ixor C.1 C.2.1 hd (kk H locs ls hP hD hS h)
theorem go_ishl (C : Cx p e s m args meth c G own cc nL ret A) {x y : Int32} (hd : decode cc pc = .ok (.ishl, 1)) (kk : Gq p l e R s m args below meth c G A nL cs sl Q (pc + 1) lv (.int (x <<< (y &&& 31)) :: st) w) : Gq p l e R s m args below meth c G A nL cs sl Q pc lv (.int y :: .int x :: st) w :=
  fun H locs ls hP hD hS h => lv_ishl C.1 C.2.1 hd (kk H locs ls hP hD hS h)
theorem go_ishr (C : Cx p e s m args meth c G own cc nL ret A) {x y : Int32} (hd : decode cc pc = .ok (.ishr, 1)) (kk : Gq p l e R s m args below meth c G A nL cs sl Q (pc + 1) lv (.int (x >>> (y &&& 31)) :: st) w) : Gq p l e R s m args below meth c G A nL cs sl Q pc lv (.int y :: .int x :: st) w :=
  fun H locs ls hP hD hS h => lv_ishr C.1 C.2.1 hd (kk H locs ls hP hD hS h)
theorem go_ladd (C : Cx p e s m args meth c G own cc nL ret A) {x y : Int64} (hd : decode cc pc = .ok (.ladd, 1)) (kk : Gq p l e R s m args below meth c G A nL cs sl Q (pc + 1) lv (.long (x + y) :: st) w) : Gq p l e R s m args below meth c G A nL cs sl Q pc lv (.long y :: .long x :: st) w :=
  fun H locs ls hP hD hS h => lv_ladd C.1 C.2.1 hd (kk H locs ls hP hD hS h)
theorem go_lsub (C : Cx p e s m args meth c G own cc nL ret A) {x y : Int64} (hd : decode cc pc = .ok (.lsub, 1)) (kk : Gq p l e R s m args below meth c G A nL cs sl Q (pc + 1) lv (.long (x - y) :: st) w) : Gq p l e R s m args below meth c G A nL cs sl Q pc lv (.long y :: .long x :: st) w :=
  fun H locs ls hP hD hS h => lv_lsub C.1 C.2.1 hd (kk H locs ls hP hD hS h)
theorem go_lmul (C : Cx p e s m args meth c G own cc nL ret A) {x y : Int64} (hd : decode cc pc = .ok (.lmul, 1)) (kk : Gq p l e R s m args below meth c G A nL cs sl Q (pc + 1) lv (.long (x * y) :: st) w) : Gq p l e R s m args below meth c G A nL cs sl Q pc lv (.long y :: .long x :: st) w :=
  fun H locs ls hP hD hS h => lv_lmul C.1 C.2.1 hd (kk H locs ls hP hD hS h)
theorem go_lcmp (C : Cx p e s m args meth c G own cc nL ret A) {x y : Int64} (hd : decode cc pc = .ok (.lcmp, 1)) (kk : Gq p l e R s m args below meth c G A nL cs sl Q (pc + 1) lv (.int (lg_cmp x y) :: st) w) : Gq p l e R s m args below meth c G A nL cs sl Q pc lv (.long y :: .long x :: st) w :=
  fun H locs ls hP hD hS h => W.lcmp C.1 C.2.1 hd (kk H locs ls hP hD hS h)
theorem go_iushr (C : Cx p e s m args meth c G own cc nL ret A) {x y : Int32} (hd : decode cc pc = .ok (.iushr, 1)) (kk : Gq p l e R s m args below meth c G A nL cs sl Q (pc + 1) lv (.int (iushr x y) :: st) w) : Gq p l e R s m args below meth c G A nL cs sl Q pc lv (.int y :: .int x :: st) w :=
  fun H locs ls hP hD hS h => lv_iushr C.1 C.2.1 hd rfl (kk H locs ls hP hD hS h)
theorem go_ineg (C : Cx p e s m args meth c G own cc nL ret A) {x : Int32} (hd : decode cc pc = .ok (.ineg, 1)) (kk : Gq p l e R s m args below meth c G A nL cs sl Q (pc + 1) lv (.int (-x) :: st) w) : Gq p l e R s m args below meth c G A nL cs sl Q pc lv (.int x :: st) w :=
  fun H locs ls hP hD hS h => lv_ineg C.1 C.2.1 hd (kk H locs ls hP hD hS h)
theorem go_i2l (C : Cx p e s m args meth c G own cc nL ret A) {x : Int32} (hd : decode cc pc = .ok (.i2l, 1)) (kk : Gq p l e R s m args below meth c G A nL cs sl Q (pc + 1) lv (.long x.toInt64 :: st) w) : Gq p l e R s m args below meth c G A nL cs sl Q pc lv (.int x :: st) w :=
  fun H locs ls hP hD hS h => lv_i2l C.1 C.2.1 hd rfl (kk H locs ls hP hD hS h)
theorem go_i2c (C : Cx p e s m args meth c G own cc nL ret A) {x : Int32} (hd : decode cc pc = .ok (.i2c, 1)) (kk : Gq p l e R s m args below meth c G A nL cs sl Q (pc + 1) lv (.int (i2c x) :: st) w) : Gq p l e R s m args below meth c G A nL cs sl Q pc lv (.int x :: st) w :=
  fun H locs ls hP hD hS h => lv_i2c C.1 C.2.1 hd rfl (kk H locs ls hP hD hS h)
theorem go_idiv (C : Cx p e s m args meth c G own cc nL ret A) {x y : Int32} (hd : decode cc pc = .ok (.idiv, 1)) (hne : ¬ y = 0) (kk : Gq p l e R s m args below meth c G A nL cs sl Q (pc + 1) lv (.int (x / y) :: st) w) : Gq p l e R s m args below meth c G A nL cs sl Q pc lv (.int y :: .int x :: st) w :=
  fun H locs ls hP hD hS h => lv_idiv C.1 C.2.1 hd hne (kk H locs ls hP hD hS h)
theorem go_idivG (C : Cx p e s m args meth c G own cc nL ret A) {β : Type} {r : β} {t : Option β} {x y : Int32} (h : tgd (tnz y) t = some r) (hd : decode cc pc = .ok (.idiv, 1)) (kk : t = some r → Gq p l e R s m args below meth c G A nL cs sl Q (pc + 1) lv (.int (x / y) :: st) w) : Gq p l e R s m args below meth c G A nL cs sl Q pc lv (.int y :: .int x :: st) w :=
  go_idiv C hd (of_decide_eq_true (tgd_e h).1) (kk (tgd_e h).2)
theorem go_irem (C : Cx p e s m args meth c G own cc nL ret A) {x y : Int32} (hd : decode cc pc = .ok (.irem, 1)) (hne : ¬ y = 0) (kk : Gq p l e R s m args below meth c G A nL cs sl Q (pc + 1) lv (.int (irem x y) :: st) w) : Gq p l e R s m args below meth c G A nL cs sl Q pc lv (.int y :: .int x :: st) w :=
  fun H locs ls hP hD hS h => lv_irem C.1 C.2.1 hd hne (kk H locs ls hP hD hS h)
theorem go_iremG (C : Cx p e s m args meth c G own cc nL ret A) {β : Type} {r : β} {t : Option β} {x y : Int32} (h : tgd (tnz y) t = some r) (hd : decode cc pc = .ok (.irem, 1)) (kk : t = some r → Gq p l e R s m args below meth c G A nL cs sl Q (pc + 1) lv (.int (irem x y) :: st) w) : Gq p l e R s m args below meth c G A nL cs sl Q pc lv (.int y :: .int x :: st) w :=
  go_irem C hd (of_decide_eq_true (tgd_e h).1) (kk (tgd_e h).2)
theorem go_ldiv (C : Cx p e s m args meth c G own cc nL ret A) {x y : Int64} (hd : decode cc pc = .ok (.ldiv, 1)) (hne : ¬ y = 0) (kk : Gq p l e R s m args below meth c G A nL cs sl Q (pc + 1) lv (.long (x / y) :: st) w) : Gq p l e R s m args below meth c G A nL cs sl Q pc lv (.long y :: .long x :: st) w :=
  fun H locs ls hP hD hS h => lv_ldiv C.1 C.2.1 hd hne (kk H locs ls hP hD hS h)
theorem go_ldivG (C : Cx p e s m args meth c G own cc nL ret A) {β : Type} {r : β} {t : Option β} {x y : Int64} (h : tgd (tnzl y) t = some r) (hd : decode cc pc = .ok (.ldiv, 1)) (kk : t = some r → Gq p l e R s m args below meth c G A nL cs sl Q (pc + 1) lv (.long (x / y) :: st) w) : Gq p l e R s m args below meth c G A nL cs sl Q pc lv (.long y :: .long x :: st) w :=
  go_ldiv C hd (of_decide_eq_true (tgd_e h).1) (kk (tgd_e h).2)
theorem go_lrem (C : Cx p e s m args meth c G own cc nL ret A) {x y : Int64} (hd : decode cc pc = .ok (.lrem, 1)) (hne : ¬ y = 0) (kk : Gq p l e R s m args below meth c G A nL cs sl Q (pc + 1) lv (.long (lrem x y) :: st) w) : Gq p l e R s m args below meth c G A nL cs sl Q pc lv (.long y :: .long x :: st) w :=
  fun H locs ls hP hD hS h => lv_lrem C.1 C.2.1 hd hne (kk H locs ls hP hD hS h)
theorem go_lremG (C : Cx p e s m args meth c G own cc nL ret A) {β : Type} {r : β} {t : Option β} {x y : Int64} (h : tgd (tnzl y) t = some r) (hd : decode cc pc = .ok (.lrem, 1)) (kk : t = some r → Gq p l e R s m args below meth c G A nL cs sl Q (pc + 1) lv (.long (lrem x y) :: st) w) : Gq p l e R s m args below meth c G A nL cs sl Q pc lv (.long y :: .long x :: st) w :=
  go_lrem C hd (of_decide_eq_true (tgd_e h).1) (kk (tgd_e h).2)
theorem go_if_eq (C : Cx p e s m args meth c G own cc nL ret A) {β : Type} {r : β} {t1 t2 : Option β} {x : Int32} {off : Int} {tgt : Nat} (h : (if x = 0 then t1 else t2) = some r) (hd : decode cc pc = .ok (.ifCond .eq off, 3)) (ht : (pc : Int) + off = (tgt : Int)) (kt : t1 = some r → Gq p l e R s m args below meth c G A nL cs sl Q tgt lv st w) (kf : t2 = some r → Gq p l e R s m args below meth c G A nL cs sl Q (pc + 3) lv st w) : Gq p l e R s m args below meth c G A nL cs sl Q pc lv (.int x :: st) w :=
  fun H locs ls hP hD hS hh => lv_if_eq C.1 C.2.1 hd ht (fun q => kt (by rw [if_pos q] at h; exact h) H locs ls hP hD hS hh) (fun q => kf (by rw [if_neg q] at h; exact h) H locs ls hP hD hS hh)
theorem go_icmp_eq (C : Cx p e s m args meth c G own cc nL ret A) {β : Type} {r : β} {t1 t2 : Option β} {x y : Int32} {off : Int} {tgt : Nat} (h : (if x = y then t1 else t2) = some r) (hd : decode cc pc = .ok (.if_icmp .eq off, 3)) (ht : (pc : Int) + off = (tgt : Int)) (kt : t1 = some r → Gq p l e R s m args below meth c G A nL cs sl Q tgt lv st w) (kf : t2 = some r → Gq p l e R s m args below meth c G A nL cs sl Q (pc + 3) lv st w) : Gq p l e R s m args below meth c G A nL cs sl Q pc lv (.int y :: .int x :: st) w :=
  fun H locs ls hP hD hS hh => lv_icmp_eq C.1 C.2.1 hd ht (fun q => kt (by rw [if_pos q] at h; exact h) H locs ls hP hD hS hh) (fun q => kf (by rw [if_neg q] at h; exact h) H locs ls hP hD hS hh)
theorem go_if_ne (C : Cx p e s m args meth c G own cc nL ret A) {β : Type} {r : β} {t1 t2 : Option β} {x : Int32} {off : Int} {tgt : Nat} (h : (if x = 0 then t1 else t2) = some r) (hd : decode cc pc = .ok (.ifCond .ne off, 3)) (ht : (pc : Int) + off = (tgt : Int)) (kt : t2 = some r → Gq p l e R s m args below meth c G A nL cs sl Q tgt lv st w) (kf : t1 = some r → Gq p l e R s m args below meth c G A nL cs sl Q (pc + 3) lv st w) : Gq p l e R s m args below meth c G A nL cs sl Q pc lv (.int x :: st) w :=
  fun H locs ls hP hD hS hh => lv_if_ne C.1 C.2.1 hd ht (fun q => kt (by rw [if_neg q] at h; exact h) H locs ls hP hD hS hh) (fun q => kf (by rw [if_pos q] at h; exact h) H locs ls hP hD hS hh)
theorem go_icmp_ne (C : Cx p e s m args meth c G own cc nL ret A) {β : Type} {r : β} {t1 t2 : Option β} {x y : Int32} {off : Int} {tgt : Nat} (h : (if x = y then t1 else t2) = some r) (hd : decode cc pc = .ok (.if_icmp .ne off, 3)) (ht : (pc : Int) + off = (tgt : Int)) (kt : t2 = some r → Gq p l e R s m args below meth c G A nL cs sl Q tgt lv st w) (kf : t1 = some r → Gq p l e R s m args below meth c G A nL cs sl Q (pc + 3) lv st w) : Gq p l e R s m args below meth c G A nL cs sl Q pc lv (.int y :: .int x :: st) w :=
  fun H locs ls hP hD hS hh => lv_icmp_ne C.1 C.2.1 hd ht (fun q => kt (by rw [if_neg q] at h; exact h) H locs ls hP hD hS hh) (fun q => kf (by rw [if_pos q] at h; exact h) H locs ls hP hD hS hh)
theorem go_if_lt (C : Cx p e s m args meth c G own cc nL ret A) {β : Type} {r : β} {t1 t2 : Option β} {x : Int32} {off : Int} {tgt : Nat} (h : (if x < 0 then t1 else t2) = some r) (hd : decode cc pc = .ok (.ifCond .lt off, 3)) (ht : (pc : Int) + off = (tgt : Int)) (kt : t1 = some r → Gq p l e R s m args below meth c G A nL cs sl Q tgt lv st w) (kf : t2 = some r → Gq p l e R s m args below meth c G A nL cs sl Q (pc + 3) lv st w) : Gq p l e R s m args below meth c G A nL cs sl Q pc lv (.int x :: st) w :=
  fun H locs ls hP hD hS hh => lv_if_lt C.1 C.2.1 hd ht (fun q => kt (by rw [if_pos q] at h; exact h) H locs ls hP hD hS hh) (fun q => kf (by rw [if_neg q] at h; exact h) H locs ls hP hD hS hh)
theorem go_icmp_lt (C : Cx p e s m args meth c G own cc nL ret A) {β : Type} {r : β} {t1 t2 : Option β} {x y : Int32} {off : Int} {tgt : Nat} (h : (if x < y then t1 else t2) = some r) (hd : decode cc pc = .ok (.if_icmp .lt off, 3)) (ht : (pc : Int) + off = (tgt : Int)) (kt : t1 = some r → Gq p l e R s m args below meth c G A nL cs sl Q tgt lv st w) (kf : t2 = some r → Gq p l e R s m args below meth c G A nL cs sl Q (pc + 3) lv st w) : Gq p l e R s m args below meth c G A nL cs sl Q pc lv (.int y :: .int x :: st) w :=
  fun H locs ls hP hD hS hh => lv_icmp_lt C.1 C.2.1 hd ht (fun q => kt (by rw [if_pos q] at h; exact h) H locs ls hP hD hS hh) (fun q => kf (by rw [if_neg q] at h; exact h) H locs ls hP hD hS hh)
theorem go_if_ge (C : Cx p e s m args meth c G own cc nL ret A) {β : Type} {r : β} {t1 t2 : Option β} {x : Int32} {off : Int} {tgt : Nat} (h : (if 0 ≤ x then t1 else t2) = some r) (hd : decode cc pc = .ok (.ifCond .ge off, 3)) (ht : (pc : Int) + off = (tgt : Int)) (kt : t1 = some r → Gq p l e R s m args below meth c G A nL cs sl Q tgt lv st w) (kf : t2 = some r → Gq p l e R s m args below meth c G A nL cs sl Q (pc + 3) lv st w) : Gq p l e R s m args below meth c G A nL cs sl Q pc lv (.int x :: st) w :=
  fun H locs ls hP hD hS hh => lv_if_ge C.1 C.2.1 hd ht (fun q => kt (by rw [if_pos q] at h; exact h) H locs ls hP hD hS hh) (fun q => kf (by rw [if_neg q] at h; exact h) H locs ls hP hD hS hh)
theorem go_icmp_ge (C : Cx p e s m args meth c G own cc nL ret A) {β : Type} {r : β} {t1 t2 : Option β} {x y : Int32} {off : Int} {tgt : Nat} (h : (if y ≤ x then t1 else t2) = some r) (hd : decode cc pc = .ok (.if_icmp .ge off, 3)) (ht : (pc : Int) + off = (tgt : Int)) (kt : t1 = some r → Gq p l e R s m args below meth c G A nL cs sl Q tgt lv st w) (kf : t2 = some r → Gq p l e R s m args below meth c G A nL cs sl Q (pc + 3) lv st w) : Gq p l e R s m args below meth c G A nL cs sl Q pc lv (.int y :: .int x :: st) w :=
  fun H locs ls hP hD hS hh => lv_icmp_ge C.1 C.2.1 hd ht (fun q => kt (by rw [if_pos q] at h; exact h) H locs ls hP hD hS hh) (fun q => kf (by rw [if_neg q] at h; exact h) H locs ls hP hD hS hh)
theorem go_if_gt (C : Cx p e s m args meth c G own cc nL ret A) {β : Type} {r : β} {t1 t2 : Option β} {x : Int32} {off : Int} {tgt : Nat} (h : (if 0 < x then t1 else t2) = some r) (hd : decode cc pc = .ok (.ifCond .gt off, 3)) (ht : (pc : Int) + off = (tgt : Int)) (kt : t1 = some r → Gq p l e R s m args below meth c G A nL cs sl Q tgt lv st w) (kf : t2 = some r → Gq p l e R s m args below meth c G A nL cs sl Q (pc + 3) lv st w) : Gq p l e R s m args below meth c G A nL cs sl Q pc lv (.int x :: st) w :=
  fun H locs ls hP hD hS hh => lv_if_gt C.1 C.2.1 hd ht (fun q => kt (by rw [if_pos q] at h; exact h) H locs ls hP hD hS hh) (fun q => kf (by rw [if_neg q] at h; exact h) H locs ls hP hD hS hh)
theorem go_icmp_gt (C : Cx p e s m args meth c G own cc nL ret A) {β : Type} {r : β} {t1 t2 : Option β} {x y : Int32} {off : Int} {tgt : Nat} (h : (if y < x then t1 else t2) = some r) (hd : decode cc pc = .ok (.if_icmp .gt off, 3)) (ht : (pc : Int) + off = (tgt : Int)) (kt : t1 = some r → Gq p l e R s m args below meth c G A nL cs sl Q tgt lv st w) (kf : t2 = some r → Gq p l e R s m args below meth c G A nL cs sl Q (pc + 3) lv st w) : Gq p l e R s m args below meth c G A nL cs sl Q pc lv (.int y :: .int x :: st) w :=
  fun H locs ls hP hD hS hh => lv_icmp_gt C.1 C.2.1 hd ht (fun q => kt (by rw [if_pos q] at h; exact h) H locs ls hP hD hS hh) (fun q => kf (by rw [if_neg q] at h; exact h) H locs ls hP hD hS hh)
theorem go_if_le (C : Cx p e s m args meth c G own cc nL ret A) {β : Type} {r : β} {t1 t2 : Option β} {x : Int32} {off : Int} {tgt : Nat} (h : (if x ≤ 0 then t1 else t2) = some r) (hd : decode cc pc = .ok (.ifCond .le off, 3)) (ht : (pc : Int) + off = (tgt : Int)) (kt : t1 = some r → Gq p l e R s m args below meth c G A nL cs sl Q tgt lv st w) (kf : t2 = some r → Gq p l e R s m args below meth c G A nL cs sl Q (pc + 3) lv st w) : Gq p l e R s m args below meth c G A nL cs sl Q pc lv (.int x :: st) w :=
  fun H locs ls hP hD hS hh => lv_if_le C.1 C.2.1 hd ht (fun q => kt (by rw [if_pos q] at h; exact h) H locs ls hP hD hS hh) (fun q => kf (by rw [if_neg q] at h; exact h) H locs ls hP hD hS hh)
theorem go_icmp_le (C : Cx p e s m args meth c G own cc nL ret A) {β : Type} {r : β} {t1 t2 : Option β} {x y : Int32} {off : Int} {tgt : Nat} (h : (if x ≤ y then t1 else t2) = some r) (hd : decode cc pc = .ok (.if_icmp .le off, 3)) (ht : (pc : Int) + off = (tgt : Int)) (kt : t1 = some r → Gq p l e R s m args below meth c G A nL cs sl Q tgt lv st w) (kf : t2 = some r → Gq p l e R s m args below meth c G A nL cs sl Q (pc + 3) lv st w) : Gq p l e R s m args below meth c G A nL cs sl Q pc lv (.int y :: .int x :: st) w :=
  fun H locs ls hP hD hS hh => lv_icmp_le C.1 C.2.1 hd ht (fun q => kt (by rw [if_pos q] at h; exact h) H locs ls hP hD hS hh) (fun q => kf (by rw [if_neg q] at h; exact h) H locs ls hP hD hS hh)
theorem go_goto (C : Cx p e s m args meth c G own cc nL ret A) {off : Int} {tgt : Nat} (hd : decode cc pc = .ok (.goto off, 3)) (ht : (pc : Int) + off = (tgt : Int)) (kk : Gq p l e R s m args below meth c G A nL cs sl Q tgt lv st w) : Gq p l e R s m args below meth c G A nL cs sl Q pc lv st w :=
  fun H locs ls hP hD hS h => lv_goto C.1 C.2.1 hd ht (kk H locs ls hP hD hS h)
theorem go_ite {β : Type} {r : β} {P cnd : Prop} {t1 t2 : Option β} [Decidable cnd] (h : (if cnd then t1 else t2) = some r) (k1 : cnd → t1 = some r → P) (k2 : ¬ cnd → t2 = some r → P) : P := by
  by_cases q : cnd
  · rw [if_pos q] at h; exact k1 q h
  · rw [if_neg q] at h; exact k2 q h
theorem go_tabIn (C : Cx p e s m args meth c G own cc nL ret A) {dflt lo hi : Int} {offs : Array Int} {len : Nat} {x v : Int32} {off : Int} {tgt : Nat} (hd : decode cc pc = .ok (.tableswitch dflt lo hi offs, len)) (hx : x = v) (hv : (decide (v.toInt < lo) || decide (hi < v.toInt)) = false) (ho : offs[(v.toInt - lo).toNat]? = some off) (ht : (pc : Int) + off = (tgt : Int)) (kk : Gq p l e R s m args below meth c G A nL cs sl Q tgt lv st w) : Gq p l e R s m args below meth c G A nL cs sl Q pc lv (.int x :: st) w := by
  subst hx
  rw [Bool.or_eq_false_iff, decide_eq_false_iff_not, decide_eq_false_iff_not] at hv
  exact fun H locs ls hP hD hS h => lv_tableIn C.1 C.2.1 hd hv.1 hv.2 ho ht (kk H locs ls hP hD hS h)
theorem go_tabOut (C : Cx p e s m args meth c G own cc nL ret A) {dflt lo hi : Int} {offs : Array Int} {len : Nat} {x : Int32} {tgt : Nat} (hd : decode cc pc = .ok (.tableswitch dflt lo hi offs, len)) (hx : x.toInt < lo ∨ hi < x.toInt) (ht : (pc : Int) + dflt = (tgt : Int)) (kk : Gq p l e R s m args below meth c G A nL cs sl Q tgt lv st w) : Gq p l e R s m args below meth c G A nL cs sl Q pc lv (.int x :: st) w :=
  fun H locs ls hP hD hS h => lv_tableOut C.1 C.2.1 hd hx ht (kk H locs ls hP hD hS h)
theorem go_look (C : Cx p e s m args meth c G own cc nL ret A) {dflt : Int} {ps : Array (Int × Int)} {len : Nat} {x : Int32} {off : Int} {tgt : Nat} (hd : decode cc pc = .ok (.lookupswitch dflt ps, len)) (hp : (ps.toList.zip (ps.toList.drop 1)).all (fun (a, next) => a.1 < next.1) = true) (ho : Op.lookupswitch.offset ps.toList dflt x.toInt = off) (ht : (pc : Int) + off = (tgt : Int)) (kk : Gq p l e R s m args below meth c G A nL cs sl Q tgt lv st w) : Gq p l e R s m args below meth c G A nL cs sl Q pc lv (.int x :: st) w :=
  fun H locs ls hP hD hS h => lv_lookup C.1 C.2.1 hd hp ho ht (kk H locs ls hP hD hS h)
/-- a field as one class's pool entry names it: class ci of the worlds' classes, its k-th field -/
def FF (own : String) (index ci k : Nat) : Prop := ∃ (Cn : String) (T : u_T) (N : Nat), vwCl[ci]? = some (Cn, T, N) ∧ (∀ x ∈ u_ws Cn T N, x ∈ wsL_law) ∧ k < N ∧ Cond.fieldLink own index (T k).1 (T k).2.1 (T k).2.2.1 ∈ wsL_law
/-- .. and that it may be written, with values of a type -/
def FP (own : String) (index ci k : Nat) (ty : FieldType) (fin : Bool) : Prop := ∃ (Cn : String) (T : u_T) (N : Nat) (ty0 : Nat → FieldType), vwCl[ci]? = some (Cn, T, N) ∧ (∀ x ∈ u_ws Cn T N, x ∈ wsL_law) ∧ k < N ∧ Cond.fieldLink own index (T k).1 (T k).2.1 (T k).2.2.1 ∈ wsL_law ∧ (∀ k, k < N → parseFieldDescriptor (T k).2.2.1 = some (ty0 k)) ∧ (∀ a, a < N → ∀ b, b < N → a ≠ b → (T a).2.1 ≠ (T b).2.1) ∧ (T k).2.2.2 = fin ∧ parseFieldDescriptor (T k).2.2.1 = some ty ∧ (T k).1 = own
theorem go_get (C : Cx p e s m args meth c G own cc nL ret A) {index ci k a : Nat} {fs : List Value} {v : Value} (F : FF own index ci k) (hd : decode cc pc = .ok (.getfield index, 3)) (q0 : Nat) (he : w[q0]? = some (a, .inr (ci, fs))) (hv : fs[k]? = some v) (kk : Gq p l e R s m args below meth c G A nL cs sl Q (pc + 3) lv (v :: st) w) : Gq p l e R s m args below meth c G A nL cs sl Q pc lv (.ref a :: st) w := by
  obtain ⟨Cn, T, N, h1, h2, h3, h4⟩ := F
  exact fun H locs ls hP hD hS h => va_get C.1 C.2.1 C.2.2.2.2.1 h2 C.2.2.2.1 C.2.2.2.2.2.1.1 hP q0 he h1 k h3 (C.2.2.2.2.1 _ h4) (fun _ h9 => h9) hv hd (kk H locs ls hP hD hS h)
theorem go_puti (C : Cx p e s m args meth c G own cc nL ret A) {index ci k a : Nat} {fs : List Value} {x : Int32} {w' : va_W} (F : FP own index ci k .int false) (hd : decode cc pc = .ok (.putfield index, 3)) (q0 : Nat) (he : w[q0]? = some (a, .inr (ci, fs))) (hl : k < fs.length) (hw : w.set q0 (a, .inr (ci, fs.set k (.int x))) = w') (kk : Gq p l e R s m args below meth c G A nL cs sl Q (pc + 3) lv st w') : Gq p l e R s m args below meth c G A nL cs sl Q pc lv (.int x :: .ref a :: st) w := by
  obtain ⟨Cn, T, N, ty0, h1, h2, h3, h4, h5, h6, h7, h8, -⟩ := F
  subst hw
  exact fun H locs ls hP hD hS h => va_put C.1 C.2.1 C.2.2.2.2.1 h2 ty0 h5 h6 C.2.2.2.1 C.2.2.2.2.2.1.1 hP hD hS q0 he h1 k h3 (C.2.2.2.2.1 _ h4) (fun _ h9 => h9) h7 h8 rfl rfl hl hd (fun H1 locs1 hP hD hS => kk H1 locs1 ls hP hD hS h)
theorem go_putl (C : Cx p e s m args meth c G own cc nL ret A) {index ci k a : Nat} {fs : List Value} {x : Int64} {w' : va_W} (F : FP own index ci k .long false) (hd : decode cc pc = .ok (.putfield index, 3)) (q0 : Nat) (he : w[q0]? = some (a, .inr (ci, fs))) (hl : k < fs.length) (hw : w.set q0 (a, .inr (ci, fs.set k (.long x))) = w') (kk : Gq p l e R s m args below meth c G A nL cs sl Q (pc + 3) lv st w') : Gq p l e R s m args below meth c G A nL cs sl Q pc lv (.long x :: .ref a :: st) w := by
  obtain ⟨Cn, T, N, ty0, h1, h2, h3, h4, h5, h6, h7, h8, -⟩ := F
  subst hw
  exact fun H locs ls hP hD hS h => va_put C.1 C.2.1 C.2.2.2.2.1 h2 ty0 h5 h6 C.2.2.2.1 C.2.2.2.2.2.1.1 hP hD hS q0 he h1 k h3 (C.2.2.2.2.1 _ h4) (fun _ h9 => h9) h7 h8 rfl rfl hl hd (fun H1 locs1 hP hD hS => kk H1 locs1 ls hP hD hS h)
theorem go_iaload (C : Cx p e s m args meth c G own cc nL ret A) {a n : Nat} {f : Nat → Int32} {i : Int32} (hd : decode cc pc = .ok (.iaload, 1)) (q0 : Nat) (ha : w[q0]? = some (a, .inl (gI G, n, .inl f))) (hi : tin i n = true) (kk : Gq p l e R s m args below meth c G A nL cs sl Q (pc + 1) lv (.int (f i.toNatClampNeg) :: st) w) : Gq p l e R s m args below meth c G A nL cs sl Q pc lv (.int i :: .ref a :: st) w :=
  fun H locs ls hP hD hS h => va_iald C.1 C.2.1 C.2.2.2.2.2.1.1 hP q0 1 ha rfl (tin_e hi) hd (kk H locs ls hP hD hS h)
theorem go_ialoadG (C : Cx p e s m args meth c G own cc nL ret A) {β : Type} {r : β} {t : Option β} {a n : Nat} {f : Nat → Int32} {i : Int32} (h : tgd (tin i n) t = some r) (hd : decode cc pc = .ok (.iaload, 1)) (q0 : Nat) (ha : w[q0]? = some (a, .inl (gI G, n, .inl f))) (kk : t = some r → Gq p l e R s m args below meth c G A nL cs sl Q (pc + 1) lv (.int (f i.toNatClampNeg) :: st) w) : Gq p l e R s m args below meth c G A nL cs sl Q pc lv (.int i :: .ref a :: st) w :=
  go_iaload C hd q0 ha (tgd_e h).1 (kk (tgd_e h).2)
theorem go_caload (C : Cx p e s m args meth c G own cc nL ret A) {a n : Nat} {f : Nat → Int32} {i : Int32} (hd : decode cc pc = .ok (.caload, 1)) (q0 : Nat) (ha : w[q0]? = some (a, .inl (gC G, n, .inl f))) (hi : tin i n = true) (kk : Gq p l e R s m args below meth c G A nL cs sl Q (pc + 1) lv (.int (f i.toNatClampNeg) :: st) w) : Gq p l e R s m args below meth c G A nL cs sl Q pc lv (.int i :: .ref a :: st) w :=
  fun H locs ls hP hD hS h => va_cald C.1 C.2.1 C.2.2.2.2.2.1.1 hP q0 0 ha rfl (tin_e hi) hd (kk H locs ls hP hD hS h)
theorem go_caloadG (C : Cx p e s m args meth c G own cc nL ret A) {β : Type} {r : β} {t : Option β} {a n : Nat} {f : Nat → Int32} {i : Int32} (h : tgd (tin i n) t = some r) (hd : decode cc pc = .ok (.caload, 1)) (q0 : Nat) (ha : w[q0]? = some (a, .inl (gC G, n, .inl f))) (kk : t = some r → Gq p l e R s m args below meth c G A nL cs sl Q (pc + 1) lv (.int (f i.toNatClampNeg) :: st) w) : Gq p l e R s m args below meth c G A nL cs sl Q pc lv (.int i :: .ref a :: st) w :=
  go_caload C hd q0 ha (tgd_e h).1 (kk (tgd_e h).2)
theorem go_zaload (C : Cx p e s m args meth c G own cc nL ret A) {a n : Nat} {f : Nat → Int32} {i : Int32} (hd : decode cc pc = .ok (.baload, 1)) (q0 : Nat) (ha : w[q0]? = some (a, .inl (gZ G, n, .inl f))) (hi : tin i n = true) (kk : Gq p l e R s m args below meth c G A nL cs sl Q (pc + 1) lv (.int (f i.toNatClampNeg) :: st) w) : Gq p l e R s m args below meth c G A nL cs sl Q pc lv (.int i :: .ref a :: st) w :=
  fun H locs ls hP hD hS h => va_zald C.1 C.2.1 C.2.2.2.2.2.1.1 hP q0 3 ha rfl (tin_e hi) hd (kk H locs ls hP hD hS h)
theorem go_zaloadG (C : Cx p e s m args meth c G own cc nL ret A) {β : Type} {r : β} {t : Option β} {a n : Nat} {f : Nat → Int32} {i : Int32} (h : tgd (tin i n) t = some r) (hd : decode cc pc = .ok (.baload, 1)) (q0 : Nat) (ha : w[q0]? = some (a, .inl (gZ G, n, .inl f))) (kk : t = some r → Gq p l e R s m args below meth c G A nL cs sl Q (pc + 1) lv (.int (f i.toNatClampNeg) :: st) w) : Gq p l e R s m args below meth c G A nL cs sl Q pc lv (.int i :: .ref a :: st) w :=
  go_zaload C hd q0 ha (tgd_e h).1 (kk (tgd_e h).2)
theorem go_laload (C : Cx p e s m args meth c G own cc nL ret A) {a n : Nat} {f : Nat → Int64} {i : Int32} (hd : decode cc pc = .ok (.laload, 1)) (q0 : Nat) (ha : w[q0]? = some (a, .inl (gJ G, n, .inr (.inl f)))) (hi : tin i n = true) (kk : Gq p l e R s m args below meth c G A nL cs sl Q (pc + 1) lv (.long (f i.toNatClampNeg) :: st) w) : Gq p l e R s m args below meth c G A nL cs sl Q pc lv (.int i :: .ref a :: st) w :=
  fun H locs ls hP hD hS h => va_lald C.1 C.2.1 C.2.2.2.2.2.1.1 hP q0 2 ha rfl (tin_e hi) hd (kk H locs ls hP hD hS h)
theorem go_laloadG (C : Cx p e s m args meth c G own cc nL ret A) {β : Type} {r : β} {t : Option β} {a n : Nat} {f : Nat → Int64} {i : Int32} (h : tgd (tin i n) t = some r) (hd : decode cc pc = .ok (.laload, 1)) (q0 : Nat) (ha : w[q0]? = some (a, .inl (gJ G, n, .inr (.inl f)))) (kk : t = some r → Gq p l e R s m args below meth c G A nL cs sl Q (pc + 1) lv (.long (f i.toNatClampNeg) :: st) w) : Gq p l e R s m args below meth c G A nL cs sl Q pc lv (.int i :: .ref a :: st) w :=
  go_laload C hd q0 ha (tgd_e h).1 (kk (tgd_e h).2)
theorem go_iastore (C : Cx p e s m args meth c G own cc nL ret A) {a n : Nat} {f : Nat → Int32} {i : Int32} {x : Int32} {w' : va_W} (hd : decode cc pc = .ok (.iastore, 1)) (q0 : Nat) (ha : w[q0]? = some (a, .inl (gI G, n, .inl f))) (hi : tin i n = true) (hw : w.set q0 (a, .inl (gI G, n, .inl (upd f i.toNatClampNeg x))) = w') (kk : Gq p l e R s m args below meth c G A nL cs sl Q (pc + 1) lv st w') : Gq p l e R s m args below meth c G A nL cs sl Q pc lv (.int x :: .int i :: .ref a :: st) w := by
  subst hw
  exact fun H locs ls hP hD hS h => va_iast C.1 C.2.1 C.2.2.2.2.2.1.1 hP hD hS q0 1 ha rfl (tin_e hi) hd (fun H1 locs1 hP hD hS => kk H1 locs1 ls hP hD hS h)
theorem go_iastoreG (C : Cx p e s m args meth c G own cc nL ret A) {β : Type} {r : β} {t : Option β} {a n : Nat} {f : Nat → Int32} {i : Int32} {x : Int32} {w' : va_W} (h : tgd (tin i n) t = some r) (hd : decode cc pc = .ok (.iastore, 1)) (q0 : Nat) (ha : w[q0]? = some (a, .inl (gI G, n, .inl f))) (hw : w.set q0 (a, .inl (gI G, n, .inl (upd f i.toNatClampNeg x))) = w') (kk : t = some r → Gq p l e R s m args below meth c G A nL cs sl Q (pc + 1) lv st w') : Gq p l e R s m args below meth c G A nL cs sl Q pc lv (.int x :: .int i :: .ref a :: st) w :=
  go_iastore C hd q0 ha (tgd_e h).1 hw (kk (tgd_e h).2)
theorem go_castore (C : Cx p e s m args meth c G own cc nL ret A) {a n : Nat} {f : Nat → Int32} {i : Int32} {x : Int32} {w' : va_W} (hd : decode cc pc = .ok (.castore, 1)) (q0 : Nat) (ha : w[q0]? = some (a, .inl (gC G, n, .inl f))) (hi : tin i n = true) (hw : w.set q0 (a, .inl (gC G, n, .inl (upd f i.toNatClampNeg (vp_nar .char x)))) = w') (kk : Gq p l e R s m args below meth c G A nL cs sl Q (pc + 1) lv st w') : Gq p l e R s m args below meth c G A nL cs sl Q pc lv (.int x :: .int i :: .ref a :: st) w := by
  subst hw
  exact fun H locs ls hP hD hS h => va_cast C.1 C.2.1 C.2.2.2.2.2.1.1 hP hD hS q0 0 ha rfl (tin_e hi) hd (fun H1 locs1 hP hD hS => kk H1 locs1 ls hP hD hS h)
theorem go_castoreG (C : Cx p e s m args meth c G own cc nL ret A) {β : Type} {r : β} {t : Option β} {a n : Nat} {f : Nat → Int32} {i : Int32} {x : Int32} {w' : va_W} (h : tgd (tin i n) t = some r) (hd : decode cc pc = .ok (.castore, 1)) (q0 : Nat) (ha : w[q0]? = some (a, .inl (gC G, n, .inl f))) (hw : w.set q0 (a, .inl (gC G, n, .inl (upd f i.toNatClampNeg (vp_nar .char x)))) = w') (kk : t = some r → Gq p l e R s m args below meth c G A nL cs sl Q (pc + 1) lv st w') : Gq p l e R s m args below meth c G A nL cs sl Q pc lv (.int x :: .int i :: .ref a :: st) w :=
  go_castore C hd q0 ha (tgd_e h).1 hw (kk (tgd_e h).2)
theorem go_zastore (C : Cx p e s m args meth c G own cc nL ret A) {a n : Nat} {f : Nat → Int32} {i : Int32} {x : Int32} {w' : va_W} (hd : decode cc pc = .ok (.bastore, 1)) (q0 : Nat) (ha : w[q0]? = some (a, .inl (gZ G, n, .inl f))) (hi : tin i n = true) (hw : w.set q0 (a, .inl (gZ G, n, .inl (upd f i.toNatClampNeg (vp_nar .boolean x)))) = w') (kk : Gq p l e R s m args below meth c G A nL cs sl Q (pc + 1) lv st w') : Gq p l e R s m args below meth c G A nL cs sl Q pc lv (.int x :: .int i :: .ref a :: st) w := by
  subst hw
  exact fun H locs ls hP hD hS h => va_zast C.1 C.2.1 C.2.2.2.2.2.1.1 hP hD hS q0 3 ha rfl (tin_e hi) hd (fun H1 locs1 hP hD hS => kk H1 locs1 ls hP hD hS h)
theorem go_zastoreG (C : Cx p e s m args meth c G own cc nL ret A) {β : Type} {r : β} {t : Option β} {a n : Nat} {f : Nat → Int32} {i : Int32} {x : Int32} {w' : va_W} (h : tgd (tin i n) t = some r) (hd : decode cc pc = .ok (.bastore, 1)) (q0 : Nat) (ha : w[q0]? = some (a, .inl (gZ G, n, .inl f))) (hw : w.set q0 (a, .inl (gZ G, n, .inl (upd f i.toNatClampNeg (vp_nar .boolean x)))) = w') (kk : t = some r → Gq p l e R s m args below meth c G A nL cs sl Q (pc + 1) lv st w') : Gq p l e R s m args below meth c G A nL cs sl Q pc lv (.int x :: .int i :: .ref a :: st) w :=
  go_zastore C hd q0 ha (tgd_e h).1 hw (kk (tgd_e h).2)
theorem go_lastore (C : Cx p e s m args meth c G own cc nL ret A) {a n : Nat} {f : Nat → Int64} {i : Int32} {x : Int64} {w' : va_W} (hd : decode cc pc = .ok (.lastore, 1)) (q0 : Nat) (ha : w[q0]? = some (a, .inl (gJ G, n, .inr (.inl f)))) (hi : tin i n = true) (hw : w.set q0 (a, .inl (gJ G, n, .inr (.inl (vp_updL f i.toNatClampNeg x)))) = w') (kk : Gq p l e R s m args below meth c G A nL cs sl Q (pc + 1) lv st w') : Gq p l e R s m args below meth c G A nL cs sl Q pc lv (.long x :: .int i :: .ref a :: st) w := by
  subst hw
  exact fun H locs ls hP hD hS h => va_last C.1 C.2.1 C.2.2.2.2.2.1.1 hP hD hS q0 2 ha rfl (tin_e hi) hd (fun H1 locs1 hP hD hS => kk H1 locs1 ls hP hD hS h)
theorem go_lastoreG (C : Cx p e s m args meth c G own cc nL ret A) {β : Type} {r : β} {t : Option β} {a n : Nat} {f : Nat → Int64} {i : Int32} {x : Int64} {w' : va_W} (h : tgd (tin i n) t = some r) (hd : decode cc pc = .ok (.lastore, 1)) (q0 : Nat) (ha : w[q0]? = some (a, .inl (gJ G, n, .inr (.inl f)))) (hw : w.set q0 (a, .inl (gJ G, n, .inr (.inl (vp_updL f i.toNatClampNeg x)))) = w') (kk : t = some r → Gq p l e R s m args below meth c G A nL cs sl Q (pc + 1) lv st w') : Gq p l e R s m args below meth c G A nL cs sl Q pc lv (.long x :: .int i :: .ref a :: st) w :=
  go_lastore C hd q0 ha (tgd_e h).1 hw (kk (tgd_e h).2)
theorem go_iret (C : Cx p e s m args meth c G own cc nL (some .int) A) {x : Int32} {r : Option Value} {w' : va_W} (hd : decode cc pc = .ok (.ireturn, 1)) (hr : r = some (.int x)) (hw : w = w') : Gq p l e R s m args below meth c G A nL cs sl (MQ below (QK G r w' A) args s cs sl A) pc lv [.int x] w := by
  subst hr; subst hw
  have hlocks := C.2.2.2.2.2.2.2.2
  exact fun H locs ls hP hD hS h => W.iret C.1 C.2.1 C.2.2.2.2.2.2.2.1 (fun t ht hW => ⟨⟨rfl, by rw [ht]; exact hP, hD⟩, hS.F ht⟩) hS.2.2 hd
theorem go_lret (C : Cx p e s m args meth c G own cc nL (some .long) A) {x : Int64} {r : Option Value} {w' : va_W} (hd : decode cc pc = .ok (.lreturn, 1)) (hr : r = some (.long x)) (hw : w = w') : Gq p l e R s m args below meth c G A nL cs sl (MQ below (QK G r w' A) args s cs sl A) pc lv [.long x] w := by
  subst hr; subst hw
  have hlocks := C.2.2.2.2.2.2.2.2
  exact fun H locs ls hP hD hS h => W.lret C.1 C.2.1 C.2.2.2.2.2.2.2.1 (fun t ht hW => ⟨⟨rfl, by rw [ht]; exact hP, hD⟩, hS.F ht⟩) hS.2.2 hd
theorem go_zret (C : Cx p e s m args meth c G own cc nL (some .boolean) A) {x : Int32} {r : Option Value} {w' : va_W} (hd : decode cc pc = .ok (.ireturn, 1)) (hx : tbl x = true) (hr : r = some (.int x)) (hw : w = w') : Gq p l e R s m args below meth c G A nL cs sl (MQ below (QK G r w' A) args s cs sl A) pc lv [.int x] w := by
  subst hr; subst hw
  have hlocks := C.2.2.2.2.2.2.2.2
  have hn : narrow .boolean (.int x) = .int x := by
    rcases of_decide_eq_true hx with rfl | rfl <;> rfl
  exact fun H locs ls hP hD hS h => W.zret C.1 C.2.1 C.2.2.2.2.2.2.2.1 hn (fun t ht hW => ⟨⟨rfl, by rw [ht]; exact hP, hD⟩, hS.F ht⟩) hS.2.2 hd
theorem go_cret (C : Cx p e s m args meth c G own cc nL (some .char) A) {x : Int32} {r : Option Value} {w' : va_W} (hd : decode cc pc = .ok (.ireturn, 1)) (hx : tch x = true) (hr : r = some (.int x)) (hw : w = w') : Gq p l e R s m args below meth c G A nL cs sl (MQ below (QK G r w' A) args s cs sl A) pc lv [.int x] w := by
  subst hr; subst hw
  have hlocks := C.2.2.2.2.2.2.2.2
  exact fun H locs ls hP hD hS h => W.zret C.1 C.2.1 C.2.2.2.2.2.2.2.1 (of_decide_eq_true hx) (fun t ht hW => ⟨⟨rfl, by rw [ht]; exact hP, hD⟩, hS.F ht⟩) hS.2.2 hd
theorem go_vret (C : Cx p e s m args meth c G own cc nL none A) {r : Option Value} {w' : va_W} (hd : decode cc pc = .ok (.return_, 1)) (hr : r = none) (hw : w = w') : Gq p l e R s m args below meth c G A nL cs sl (MQ below (QK G r w' A) args s cs sl A) pc lv [] w := by
  subst hr; subst hw
  have hlocks := C.2.2.2.2.2.2.2.2
  exact fun H locs ls hP hD hS h => W.vret C.1 C.2.1 C.2.2.2.2.2.2.2.1 (fun t ht hW => ⟨⟨rfl, by rw [ht]; exact hP, hD⟩, hS.F ht⟩) hS.2.2 hd
theorem go_aret {cn : String} (C : Cx p e s m args meth c G own cc nL (some (.object cn)) A) {a : Nat} {r : Option Value} {w' : va_W} (hd : decode cc pc = .ok (.areturn, 1)) (hr : r = some (.ref a)) (hw : w = w') : Gq p l e R s m args below meth c G A nL cs sl (MQ below (QK G r w' A) args s cs sl A) pc lv [.ref a] w := by
  subst hr; subst hw
  have hlocks := C.2.2.2.2.2.2.2.2
  exact fun H locs ls hP hD hS h => W.aret C.1 C.2.1 C.2.2.2.2.2.2.2.1 (Or.inl ⟨_, rfl⟩) (Or.inr ⟨_, rfl⟩) (fun t ht hW => ⟨⟨rfl, by rw [ht]; exact hP, hD⟩, hS.F ht⟩) hS.2.2 hd
theorem go_mmin (C : Cx p e s m args meth c G own cc nL ret A) {index : Nat} {x y : Int32} (F : Cond.methodLink own index Lib.Math.min.name ∈ wsL_law ∧ Cond.static Lib.Math.min.name ∈ wsL_law ∧ Cond.initialized "java/lang/Math" ∈ wsL_law ∧ Cond.code Lib.Math.min.name Lib.Math.min.code 2 (some .int) ∈ wsL_law) (hd : decode cc pc = .ok (.invokestatic index, 3)) (hf : 1 ≤ R.frames) (hlo : (st.map fun v => v.category).sum + 13 ≤ R.locals) (hc : cs ≤ R.cells) (hs : sl ≤ R.slots) (kk : Gq p l e R s m args below meth c G A nL cs sl Q (pc + 3) lv (.int (imin x y) :: st) w) : Gq p l e R s m args below meth c G A nL cs sl Q pc lv (.int y :: .int x :: st) w :=
  fun H locs ls hP hD hS h => va_mmin C.1 C.2.1 (by rw [C.2.2.1]; exact h.1.symm) C.2.2.2.1 (C.2.2.2.2.1 _ F.1) (C.2.2.2.2.1 _ F.2.1) (C.2.2.2.2.1 _ F.2.2.1) (C.2.2.2.2.1 _ F.2.2.2) hf hlo hc hs hd (kk H locs ls hP hD hS h)
theorem go_mmax (C : Cx p e s m args meth c G own cc nL ret A) {index : Nat} {x y : Int32} (F : Cond.methodLink own index Lib.Math.max.name ∈ wsL_law ∧ Cond.static Lib.Math.max.name ∈ wsL_law ∧ Cond.initialized "java/lang/Math" ∈ wsL_law ∧ Cond.code Lib.Math.max.name Lib.Math.max.code 2 (some .int) ∈ wsL_law) (hd : decode cc pc = .ok (.invokestatic index, 3)) (hf : 1 ≤ R.frames) (hlo : (st.map fun v => v.category).sum + 13 ≤ R.locals) (hc : cs ≤ R.cells) (hs : sl ≤ R.slots) (kk : Gq p l e R s m args below meth c G A nL cs sl Q (pc + 3) lv (.int (imax x y) :: st) w) : Gq p l e R s m args below meth c G A nL cs sl Q pc lv (.int y :: .int x :: st) w :=
  fun H locs ls hP hD hS h => va_mmax C.1 C.2.1 (by rw [C.2.2.1]; exact h.1.symm) C.2.2.2.1 (C.2.2.2.2.1 _ F.1) (C.2.2.2.2.1 _ F.2.1) (C.2.2.2.2.1 _ F.2.2.1) (C.2.2.2.2.1 _ F.2.2.2) hf hlo hc hs hd (kk H locs ls hP hD hS h)
theorem go_mabs (C : Cx p e s m args meth c G own cc nL ret A) {index : Nat} {x : Int32} (F : Cond.methodLink own index Lib.Math.abs.name ∈ wsL_law ∧ Cond.static Lib.Math.abs.name ∈ wsL_law ∧ Cond.initialized "java/lang/Math" ∈ wsL_law ∧ Cond.code Lib.Math.abs.name Lib.Math.abs.code 1 (some .int) ∈ wsL_law) (hd : decode cc pc = .ok (.invokestatic index, 3)) (hf : 1 ≤ R.frames) (hlo : (st.map fun v => v.category).sum + 13 ≤ R.locals) (hc : cs ≤ R.cells) (hs : sl ≤ R.slots) (kk : Gq p l e R s m args below meth c G A nL cs sl Q (pc + 3) lv (.int (iabs x) :: st) w) : Gq p l e R s m args below meth c G A nL cs sl Q pc lv (.int x :: st) w :=
  fun H locs ls hP hD hS h => va_mabs C.1 C.2.1 (by rw [C.2.2.1]; exact h.1.symm) C.2.2.2.1 (C.2.2.2.2.1 _ F.1) (C.2.2.2.2.1 _ F.2.1) (C.2.2.2.2.1 _ F.2.2.1) (C.2.2.2.2.1 _ F.2.2.2) hf hlo hc hs hd (kk H locs ls hP hD hS h)
theorem go_copyi (C : Cx p e s m args meth c G own cc nL ret A) {index : Nat} {a a0 n n0 n1 : Nat} {f g : Nat → Int32} {i : Int32} {w' : va_W} (F : Cond.methodLink own index arraycopyName ∈ wsL_law ∧ Cond.native arraycopyName ∈ wsL_law ∧ Cond.static arraycopyName ∈ wsL_law ∧ Cond.initialized "java/lang/System" ∈ wsL_law) (hd : decode cc pc = .ok (.invokestatic index, 3)) (q0 q1 : Nat) (ha0 : w[q0]? = some (a0, .inl (gI G, n0, .inl f))) (ha1 : w[q1]? = some (a, .inl (gI G, n1, .inl g))) (hi : ¬ i < 0 ∧ i.toNatClampNeg = n ∧ n ≤ n0 ∧ n ≤ n1) (hf : 1 ≤ R.frames) (hlo : (st.map fun v => v.category).sum + (nativeFrameWords "java/lang/System" "arraycopy" 5 + 11) ≤ R.locals) (hw : w.set q1 (a, .inl (gI G, n1, .inl (va_cpy f g 0 0 n))) = w') (kk : Gq p l e R s m args below meth c G A nL cs sl Q (pc + 3) lv st w') : Gq p l e R s m args below meth c G A nL cs sl Q pc lv (.int i :: .int 0 :: .ref a :: .int 0 :: .ref a0 :: st) w := by
  obtain ⟨h1, h2, h3, h4⟩ := hi
  subst h2; subst hw
  exact fun H locs ls hP hD hS h => va_copyi C.1 C.2.1 (by rw [C.2.2.1]; exact h.1.symm) C.2.2.2.1 (C.2.2.2.2.1 _ F.1) (C.2.2.2.2.1 _ F.2.1) (C.2.2.2.2.1 _ F.2.2.1) (C.2.2.2.2.1 _ F.2.2.2) C.2.2.2.2.2.1.1 hP hD hS q0 q1 1 1 ha0 ha1 rfl rfl rfl (by decide) (by decide) h1 (by show 0 + _ ≤ _; omega) (by show 0 + _ ≤ _; omega) (fun _ _ => rfl) hf hlo hd (fun H1 locs1 hP hD hS => kk H1 locs1 ls hP hD hS h)
end
