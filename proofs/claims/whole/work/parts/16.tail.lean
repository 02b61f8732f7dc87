/-! calls beside a tail of cells of which nothing is known but that it is apart -/
theorem at_map {is : List Nat} {ws w : va_W} (hs : is.map (fun i => ws[i]?) = w.map some) {k : Nat} {q : Nat × va_E} (hq : w[k]? = some q) : ∃ i, is[k]? = some i ∧ ws[i]? = some q := by
  have h1 : (is.map (fun i => ws[i]?))[k]? = some (some q) := by rw [hs, List.getElem?_map, hq]; rfl
  rw [List.getElem?_map] at h1
  cases hi : is[k]? with
  | none => rw [hi] at h1; cases h1
  | some i => rw [hi] at h1; exact ⟨i, rfl, Option.some.inj h1⟩
theorem P_split {D : va_G} {cl : List vw_C} {w t : va_W} {H : Heap} (h : va_P D cl (w ++ t) H) : va_P D cl w H ∧ va_P D cl t H := by
  refine ⟨fun k q hq => h k q ?_, fun k q hq => h (w.length + k) q ?_⟩
  · rw [List.getElem?_append_left (List.getElem?_eq_some_iff.mp hq).1]; exact hq
  · rw [List.getElem?_append_right (Nat.le_add_right _ _), Nat.add_sub_cancel_left]; exact hq
theorem D_split {A : Nat → Prop} {w t : va_W} (h : va_D A (w ++ t)) : va_D A w ∧ va_D A t ∧ ∀ (i j : Nat) (p q : Nat × va_E), w[i]? = some p → t[j]? = some q → p.1 ≠ q.1 := by
  have l1 : ∀ {k : Nat} {q : Nat × va_E}, w[k]? = some q → (w ++ t)[k]? = some q := fun hq => by rw [List.getElem?_append_left (List.getElem?_eq_some_iff.mp hq).1]; exact hq
  have l2 : ∀ {k : Nat} {q : Nat × va_E}, t[k]? = some q → (w ++ t)[w.length + k]? = some q := fun hq => by rw [List.getElem?_append_right (Nat.le_add_right _ _), Nat.add_sub_cancel_left]; exact hq
  refine ⟨⟨fun i j p q hi hj he => h.1 i j p q (l1 hi) (l1 hj) he, fun k q hq => h.2 k q (l1 hq)⟩, ⟨fun i j p q hi hj he => ?_, fun k q hq => h.2 _ q (l2 hq)⟩, fun i j p q hi hj he => ?_⟩
  · have := h.1 _ _ p q (l2 hi) (l2 hj) he
    omega
  · have e1 := h.1 _ _ p q (l1 hi) (l2 hj) he
    have e2 := (List.getElem?_eq_some_iff.mp hi).1
    omega
section
variable {p : Program} {l : Launch} {e : Env} {R : Room} {s : State} {m : MethodId} {args : Array Value} {below : List Frame} {meth : Method} {c : Code} {G : gG} {A : Nat → Prop} {own : String} {cc : ByteArray} {nL cs sl : Nat} {ret : Option FieldType} {Q : State → Prop} {pc : Nat} {lv : List (Nat × Value)} {st st0 : List Value} {w t : va_W}
  {y : MethodName} {cy : ByteArray} {ny : Nat} {rt : Option FieldType} {np fr lo idx : Nat} {av : List Value} {wc w1 wr w' : va_W} {v : Option Value}
theorem go_runT (C : Cx p e s m args meth c G own cc nL ret A) {a : Array Value} (isC isR isW : List Nat) (hC : isC.map (fun i => w[i]?) = wc.map some) (hR : isR.map (fun i => w[i]?) = wr.map some) (hn : (va_nd isC && va_nd isR && va_nd isW && isR.all (fun i => !(isC.contains i))) = true) (hW : isW.map (fun i => (wr ++ w1)[i]?) = w'.map some)
    (hr : ∀ (H : Heap) (locs : List Loc) (ls : Array Slot), va_P G.1 vwCl w H → lv_has ls nL lv → va_P G.1 vwCl wc H → va_D (fun _ => True) wc → va_Run p l e R s m args below meth c H locs cs sl 0 0 (F0 m pc ls st0) st (QK G v w1 (va_A wc H.size) a) (va_A wc H.size))
    (kk : Gq p l e R s m args below meth c G A nL cs sl Q (pc + 3) lv (v.toList ++ st) (w' ++ t)) : Gq p l e R s m args below meth c G A nL cs sl Q pc lv st0 (w ++ t) := by
  intro H locs ls hP0 hD0 hS hl
  obtain ⟨hP, hPt⟩ := P_split hP0
  obtain ⟨hD, hDt, hx⟩ := D_split hD0
  simp only [Bool.and_eq_true, List.all_eq_true, Bool.not_eq_true', List.contains_eq_mem, decide_eq_false_iff_not] at hn
  obtain ⟨⟨⟨n1, n2⟩, n3⟩, n4⟩ := hn
  have hPc := hP.sub (ws' := wc) isC (fm_of hC)
  have hDc := hD.sub (ws' := wc) isC n1 hC
  have hFc := va_free (wc := wc) hD hS C.2.2.2.2.2.2.1 isC hC
  intro T hT X
  obtain ⟨v', st₀, u, T', Lo, h0, X', hL, e1, e2, ⟨⟨hv, hP1, hD1⟩, hz, hk⟩, stp⟩ := hr H locs ls hP hl hPc (hDc.weaken (fun _ _ _ _ => trivial)) T hT X
  cases hv
  rw [h0] at hz hk
  obtain ⟨hP2, hD2⟩ := va_join hP hD isC isR hC hR n2 n4 hk hFc hP1 hD1
  rw [← e1] at hP2 hz hk
  have hS2 : va_S A s.heap T'.heap (locs ++ Lo) := ⟨Nat.le_trans hS.1 hz, fun q h1 h2 => by rw [hk q (Nat.lt_of_lt_of_le h1 hS.1) (fun z => h2 (hFc q z))]; exact hS.2.1 q h1 h2, fun q hq => by
      rcases List.mem_append.mp hq with h | h
      · exact hS.2.2 q h
      · exact hFc _ (hL q h)⟩
  have notA : ∀ (j : Nat) (q : Nat × va_E), t[j]? = some q → ¬ va_A wc H.size q.1 := by
    intro j q hq h
    rcases h with ⟨k, x, h⟩ | h
    · obtain ⟨i, -, hi⟩ := at_map hC h
      exact hx i j _ q hi hq rfl
    · have := (hPt j q hq).lt
      omega
  have hPt2 : va_P G.1 vwCl t T'.heap := hPt.kept (fun j q hq => hk q.1 ((hPt j q hq).lt) (notA j q hq))
  have hD3 : va_D A (w' ++ t) := by
    refine va_D.app (hD2.sub isW n3 hW) hDt (fun i j x z hi hj he => ?_)
    obtain ⟨k, -, hk2⟩ := at_map hW hi
    rcases List.mem_append.mp (List.mem_of_getElem? hk2) with h | h
    · obtain ⟨k2, h3⟩ := List.getElem?_of_mem h
      obtain ⟨i2, -, h4⟩ := at_map hR h3
      exact hx i2 j x z h4 hj he
    · obtain ⟨k2, h3⟩ := List.getElem?_of_mem h
      have h4 := hD1.2 k2 x h3
      rw [he] at h4
      exact notA j z hj h4
  obtain ⟨t2, a1, b1⟩ := kk T'.heap (locs ++ Lo) ls ((hP2.sub isW (fm_of hW)).app hPt2) hD3 hS2 hl T' rfl X'
  exact ⟨t2, stp t2 a1, b1⟩
theorem go_callVT (C : Cx p e s m args meth c G own cc nL ret A) (F : CfB own idx y cy ny rt np) {b ci q0 : Nat} {fs : List Value} {Cn : String} {T : u_T} {N : Nat} (hi : Cond.instanceMethod y ∈ wsL_law ∧ Cond.selects Cn y y ∈ wsL_law ∧ vwCl[ci]? = some (Cn, T, N)) (K : KK l G y cy ny rt fr lo (.ref b :: av) wc v w1) (hd : decode cc pc = .ok (.invokevirtual idx, 3)) (hR : fr + 1 ≤ R.frames ∧ 8 + (ny + 11) + lo ≤ R.locals) (hc : cs ≤ R.cells ∧ sl ≤ R.slots) (ha : av.length = np) (hst : st0 = av.reverse ++ .ref b :: st) (hro : (st.map fun v => v.category).sum ≤ 8) (hq : w[q0]? = some (b, .inr (ci, fs)))
    (isC isR isW : List Nat) (hC : isC.map (fun i => w[i]?) = wc.map some) (hRr : isR.map (fun i => w[i]?) = wr.map some) (hn : (va_nd isC && va_nd isR && va_nd isW && isR.all (fun i => !(isC.contains i))) = true) (hW : isW.map (fun i => (wr ++ w1)[i]?) = w'.map some)
    (kk : Gq p l e R s m args below meth c G A nL cs sl Q (pc + 3) lv (v.toList ++ st) (w' ++ t)) : Gq p l e R s m args below meth c G A nL cs sl Q pc lv st0 (w ++ t) :=
  go_runT C isC isR isW hC hRr hn hW (fun H locs ls hP hl hPc hDc => va_runV ⟨C.1, C.2.1, C.2.2.1, C.2.2.2.1, C.2.2.2.2.1⟩ (K H.size) ⟨cfB_run C F hR, C.2.2.2.2.1 _ hi.1, C.2.2.2.2.1 _ hi.2.1⟩ ⟨Pk_blind, va_recv C.2.2.2.2.2.1.1 hP hi.2.2 hq, fun U hU hW => ⟨rfl, by rw [hU], by rw [hU]; exact hPc, C.2.2.2.2.2.1.warm hW, hDc⟩⟩ rfl ha hl.1 hst (lv_room hro) hd hc) kk
/-- the callee has some cells and the whole tail; it may make cells -/
theorem go_callVU {X : Type} {wf : X → va_W} {mc ms : Nat} (C : Cx p e s m args meth c G own cc nL ret A) (F : CfB own idx y cy ny rt np) {b ci q0 : Nat} {fs : List Value} {Cn : String} {T : u_T} {N : Nat} (hi : Cond.instanceMethod y ∈ wsL_law ∧ Cond.selects Cn y y ∈ wsL_law ∧ vwCl[ci]? = some (Cn, T, N)) (K : KA l G y cy ny rt fr lo mc ms (.ref b :: av) (wc ++ t) v wf) (hd : decode cc pc = .ok (.invokevirtual idx, 3)) (hR : fr + 1 ≤ R.frames ∧ 8 + (ny + 11) + lo ≤ R.locals) (hc : cs + mc ≤ R.cells ∧ sl + ms ≤ R.slots) (ha : av.length = np) (hst : st0 = av.reverse ++ .ref b :: st) (hro : (st.map fun v => v.category).sum ≤ 8) (hq : w[q0]? = some (b, .inr (ci, fs)))
    (isC isR : List Nat) (hC : isC.map (fun i => w[i]?) = wc.map some) (hRr : isR.map (fun i => w[i]?) = wr.map some) (hn : (va_nd isC && va_nd isR && isR.all (fun i => !(isC.contains i))) = true)
    (kk : ∀ x : X, Gq p l e R s m args below meth c G A nL (cs + mc) (sl + ms) Q (pc + 3) lv (v.toList ++ st) (wr ++ wf x)) : Gq p l e R s m args below meth c G A nL cs sl Q pc lv st0 (w ++ t) := by
  intro H locs ls hP0 hD0 hS hl
  obtain ⟨hP, hPt⟩ := P_split hP0
  obtain ⟨hD, hDt, hx⟩ := D_split hD0
  simp only [Bool.and_eq_true, List.all_eq_true, Bool.not_eq_true', List.contains_eq_mem, decide_eq_false_iff_not] at hn
  obtain ⟨⟨n1, n2⟩, n4⟩ := hn
  have hPc := (hP.sub (ws' := wc) isC (fm_of hC)).app hPt
  have hDc : va_D A (wc ++ t) := va_D.app (hD.sub (ws' := wc) isC n1 hC) hDt (fun i j x z hi hj he => by
    obtain ⟨k, -, hk2⟩ := at_map hC hi
    exact hx k j x z hk2 hj he)
  have hFc : ∀ q, va_A (wc ++ t) H.size q → A q := by
    intro q h
    rcases h with ⟨k, x, h⟩ | h
    · exact hDc.2 k (q, x) h
    · exact C.2.2.2.2.2.2.1 q (Nat.le_trans hS.1 h)
  intro T hT X
  obtain ⟨v', st₀, u, T', Lo, h0, X', hL, e1, e2, ⟨⟨hv, x, hP1, hD1⟩, hz, hk⟩, stp⟩ := va_runV ⟨C.1, C.2.1, C.2.2.1, C.2.2.2.1, C.2.2.2.2.1⟩ (K H.size) ⟨callB_of np C.2.2.2.2.1 (wq_in F.2.2.1) rfl rfl rfl (C.2.2.2.2.1 _ F.2.1) (C.2.2.2.2.1 _ F.1) F.2.2.2 hR, C.2.2.2.2.1 _ hi.1, C.2.2.2.2.1 _ hi.2.1⟩ ⟨Pk_blind, va_recv C.2.2.2.2.2.1.1 hP hi.2.2 hq, fun U hU hW => ⟨rfl, by rw [hU], by rw [hU]; exact hPc, C.2.2.2.2.2.1.warm hW, hDc.weaken (fun _ _ _ _ => trivial)⟩⟩ (g := F0 m pc ls st0) rfl ha hl.1 hst (lv_room hro) hd hc T hT X
  cases hv
  rw [h0] at hz hk
  rw [← e1] at hP1 hz hk
  have hS2 : va_S A s.heap T'.heap (locs ++ Lo) := ⟨Nat.le_trans hS.1 hz, fun q h1 h2 => by rw [hk q (Nat.lt_of_lt_of_le h1 hS.1) (fun z => h2 (hFc q z))]; exact hS.2.1 q h1 h2, fun q hq => by
      rcases List.mem_append.mp hq with h | h
      · exact hS.2.2 q h
      · exact hFc _ (hL q h)⟩
  have notA : ∀ (j : Nat) (q : Nat × va_E), wr[j]? = some q → q.1 < H.size ∧ ¬ va_A (wc ++ t) H.size q.1 := by
    intro j q hq
    obtain ⟨i, h1, h2⟩ := at_map hRr hq
    have hlt := (hP i q h2).lt
    refine ⟨hlt, fun h => ?_⟩
    rcases h with ⟨k, z, h⟩ | h
    · rcases List.mem_append.mp (List.mem_of_getElem? h) with h | h
      · obtain ⟨k2, h3⟩ := List.getElem?_of_mem h
        obtain ⟨i2, h4, h5⟩ := at_map hC h3
        have := hD.1 i i2 q (q.1, z) h2 h5 rfl
        subst this
        exact n4 i (List.mem_of_getElem? h1) (List.mem_of_getElem? h4)
      · obtain ⟨k2, h3⟩ := List.getElem?_of_mem h
        exact hx i k2 q (q.1, z) h2 h3 rfl
    · omega
  have hPr : va_P G.1 vwCl wr H := hP.sub (ws' := wr) isR (fm_of hRr)
  have hPr2 : va_P G.1 vwCl wr T'.heap := hPr.kept (fun j q hq => hk q.1 (notA j q hq).1 (notA j q hq).2)
  have hD3 : va_D A (wr ++ wf x) := va_D.app (hD.sub isR n2 hRr) (hD1.weaken (fun k q _ h => hFc q.1 h)) (fun i j z1 z2 hi hj he => by
    have h4 := hD1.2 j z2 hj
    rw [← he] at h4
    exact (notA i z1 hi).2 h4)
  obtain ⟨t2, a1, b1⟩ := kk x T'.heap (locs ++ Lo) ls (hPr2.app hP1) hD3 hS2 hl T' rfl X'
  exact ⟨t2, stp t2 a1, b1⟩
/-- a contract without new cells as one that may make some -/
theorem KK.toKA (K : KK l G y cy ny rt fr lo av wc v w1) : KA (X := Unit) l G y cy ny rt fr lo 0 0 av wc v (fun _ => w1) := by
  intro sz p e ha hc hk s m args below hf happ hP hT
  obtain ⟨t, o, h1, h2, h3, ⟨⟨hq1, hq2, hq3⟩, hq4⟩, hF⟩ := K sz p e ha hc hk s m args below hf happ hP hT
  exact ⟨t, o, h1, h2, h3, ⟨⟨hq1, (), hq2, hq3⟩, hq4⟩, hF⟩
end
