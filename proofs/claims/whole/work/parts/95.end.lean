theorem nwL_7 : NW RL 7 8 9 [.null, .null, .null, .null, .null, .null, .null, .null, .null] := ⟨RX9, TX9, tyX9, rfl, inlX9, tyX9_ok, wr1 _ (List.mem_of_getElem? (i := 0) rfl), wr1 _ (List.mem_of_getElem? (i := 1) rfl), wr1 _ (List.mem_of_getElem? (i := 2) rfl), fun j hj => by rcases (show j = 0 ∨ j = 1 ∨ j = 2 ∨ j = 3 ∨ j = 4 ∨ j = 5 ∨ j = 6 ∨ j = 7 ∨ j = 8 by omega) with rfl | rfl | rfl | rfl | rfl | rfl | rfl | rfl | rfl <;> rfl⟩
theorem nwL_10 : NW RL 10 9 20 [.null, .null, .int 0, .null, .int 0, .null, .int 0, .int 0, .int 0, .int 0, .int 0, .int 0, .null, .null, .null, .null, .null, .null, .null, .null] := ⟨RX10, TX10, tyX10, rfl, inlX10, tyX10_ok, wr1 _ (List.mem_of_getElem? (i := 3) rfl), wr1 _ (List.mem_of_getElem? (i := 4) rfl), wr1 _ (List.mem_of_getElem? (i := 5) rfl), fun j hj => by rcases (show j = 0 ∨ j = 1 ∨ j = 2 ∨ j = 3 ∨ j = 4 ∨ j = 5 ∨ j = 6 ∨ j = 7 ∨ j = 8 ∨ j = 9 ∨ j = 10 ∨ j = 11 ∨ j = 12 ∨ j = 13 ∨ j = 14 ∨ j = 15 ∨ j = 16 ∨ j = 17 ∨ j = 18 ∨ j = 19 by omega) with rfl | rfl | rfl | rfl | rfl | rfl | rfl | rfl | rfl | rfl | rfl | rfl | rfl | rfl | rfl | rfl | rfl | rfl | rfl | rfl <;> rfl⟩
theorem cfL_9 : CfB RL 9 yX9_init cX9_init 1 none 0 := ⟨wr1 _ (List.mem_of_getElem? (i := 6) rfl), wr1 _ (List.mem_of_getElem? (i := 2) rfl), wr1 _ (List.mem_of_getElem? (i := 8) rfl), by decide +kernel⟩
theorem vnX9 : Cond.instanceMethod yX9_init ∈ wsL_law ∧ yX9_init.name = "<init>" := ⟨wr1 _ (List.mem_of_getElem? (i := 7) rfl), rfl⟩
theorem cfL_12 : CfB RL 12 yX10_init cX10_init 2 none 0 := ⟨wr5 _ (List.mem_of_getElem? (i := 18) rfl), wr1 _ (List.mem_of_getElem? (i := 5) rfl), wr5 _ (List.mem_of_getElem? (i := 20) rfl), by decide +kernel⟩
theorem vnX10 : Cond.instanceMethod yX10_init ∈ wsL_law ∧ yX10_init.name = "<init>" := ⟨wr5 _ (List.mem_of_getElem? (i := 19) rfl), rfl⟩
theorem imF_none {z0 z1 : Ad} : (fun _ => none) = imF z0 z1 none none := by
  funext j
  unfold imF imA
  by_cases h : j = 0
  · rw [if_pos h]
  · rw [if_neg h]
    by_cases h1 : j = 1
    · rw [if_pos h1]
    · rw [if_neg h1]
set_option maxRecDepth 100000 in
set_option maxHeartbeats 4000000 in
/-- THE LAW, from its entry -/
theorem whole_start {p : Program} {e : Env} {s : State} {m : MethodId} {below : List Frame} {meth : Method} {c : Code} (l : Launch) (hflags : l.flags = flags0) {b L : Nat} {xs : Nat → Int32} (hL : L ≤ 2560) (C0 : lw_At p s m meth c b L xs) : W p l e room_1 s m #[Value.ref b] below meth c s.heap [] 0 0 (lw_Z below #[Value.ref b] s) (entryFrame m ([Value.ref b] : List Value).toArray 4) := by
  obtain ⟨hx, hb, hr, hml, hown, hts, hX, hbl, hlocks, hgv⟩ := id C0
  obtain ⟨c0, s0, hn0⟩ := u_known (C := RX0) (T := TX0) (N := 3) (n := 3) hts wxX0 (hts (.instantiable RX0 3) (wsL_law_in _ (wr1 _ (List.mem_of_getElem? (i := 21) rfl))))
  obtain ⟨c1, s1, hn1⟩ := u_known (C := RX1) (T := TX1) (N := 11) (n := 11) hts wxX1 (hts (.instantiable RX1 11) (wsL_law_in _ (wr1 _ (List.mem_of_getElem? (i := 13) rfl))))
  obtain ⟨c2, s2, hn2⟩ := u_known (C := RX3) (T := TX3) (N := 3) (n := 3) hts wxX3 (hts (.instantiable RX3 3) (wsL_law_in _ (wr2 _ (List.mem_of_getElem? (i := 17) rfl))))
  obtain ⟨c3, s3, hn3⟩ := u_known (C := RX4) (T := TX4) (N := 8) (n := 8) hts wxX4 (hts (.instantiable RX4 8) (wsL_law_in _ (wr2 _ (List.mem_of_getElem? (i := 1) rfl))))
  obtain ⟨c4, s4, hn4⟩ := u_known (C := RX5) (T := TX5) (N := 2) (n := 2) hts wxX5 (hts (.instantiable RX5 2) (wsL_law_in _ (wr1 _ (List.mem_of_getElem? (i := 17) rfl))))
  obtain ⟨c5, s5, hn5⟩ := u_known (C := RX6) (T := TX6) (N := 3) (n := 3) hts wxX6 (hts (.instantiable RX6 3) (wsL_law_in _ (wr2 _ (List.mem_of_getElem? (i := 9) rfl))))
  obtain ⟨c6, s6, hn6⟩ := u_known (C := RX7) (T := TX7) (N := 1) (n := 1) hts wxX7 (hts (.instantiable RX7 1) (wsL_law_in _ (wr2 _ (List.mem_of_getElem? (i := 5) rfl))))
  obtain ⟨c7, s7, hn7⟩ := u_known (C := RX8) (T := TX8) (N := 3) (n := 3) hts wxX8 (hts (.instantiable RX8 3) (wsL_law_in _ (wr2 _ (List.mem_of_getElem? (i := 13) rfl))))
  obtain ⟨c8, s8, hn8⟩ := u_known (C := RX9) (T := TX9) (N := 9) (n := 9) hts wxX9 (hts (.instantiable RX9 9) (wsL_law_in _ (wr1 _ (List.mem_of_getElem? (i := 1) rfl))))
  obtain ⟨c9, s9, hn9⟩ := u_known (C := RX10) (T := TX10) (N := 20) (n := 20) hts wxX10 (hts (.instantiable RX10 20) (wsL_law_in _ (wr1 _ (List.mem_of_getElem? (i := 4) rfl))))
  obtain ⟨dC, dI, hKc⟩ : ∃ (dC : Nat → ClassId) (dI : Nat → Nat → Nat), ∀ (k : Nat) (q : vw_C), vwCl[k]? = some q → u_Kn s q.1 q.2.1 q.2.2 (dC k) (dI k) := by
    refine ⟨fun k => if k = 0 then c0 else if k = 1 then c1 else if k = 2 then c2 else if k = 3 then c3 else if k = 4 then c4 else if k = 5 then c5 else if k = 6 then c6 else if k = 7 then c7 else if k = 8 then c8 else c9, fun k => if k = 0 then s0 else if k = 1 then s1 else if k = 2 then s2 else if k = 3 then s3 else if k = 4 then s4 else if k = 5 then s5 else if k = 6 then s6 else if k = 7 then s7 else if k = 8 then s8 else s9, ?_⟩
    intro k q hq
    match k, hq with
    | 0, hq => cases hq; exact hn0
    | 1, hq => cases hq; exact hn1
    | 2, hq => cases hq; exact hn2
    | 3, hq => cases hq; exact hn3
    | 4, hq => cases hq; exact hn4
    | 5, hq => cases hq; exact hn5
    | 6, hq => cases hq; exact hn6
    | 7, hq => cases hq; exact hn7
    | 8, hq => cases hq; exact hn8
    | 9, hq => cases hq; exact hn9
    | k + 10, hq => simp [vwCl] at hq
  obtain ⟨cC, kcC, pcC, fcC, gcC, qcC⟩ := Cond.arrayClass_spec (hts (Cond.arrayClass .char) (wsL_law_in _ (wr3 _ (List.mem_of_getElem? (i := 20) rfl))))
  obtain ⟨cI, kcI, pcI, fcI, gcI, qcI⟩ := Cond.arrayClass_spec (hts (Cond.arrayClass .int) (wsL_law_in _ (wr3 _ (List.mem_of_getElem? (i := 1) rfl))))
  obtain ⟨cJ, kcJ, pcJ, fcJ, gcJ, qcJ⟩ := Cond.arrayClass_spec (hts (Cond.arrayClass .long) (wsL_law_in _ (wr5 _ (List.mem_of_getElem? (i := 14) rfl))))
  obtain ⟨cZ, kcZ, pcZ, fcZ, gcZ, qcZ⟩ := Cond.arrayClass_spec (hts (Cond.arrayClass .boolean) (wsL_law_in _ (wr6 _ (List.mem_of_getElem? (i := 4) rfl))))
  obtain ⟨pO, cO, kO, f1O, f2O, f3O, f4O, f5O⟩ := Cond.arrayOver_spec (hts (.arrayOver (.object RX1)) ao_in)
  have hK : va_K (dC, dI) vwCl (gty ((dC, dI), cC, cI, cJ, cZ, cO)) s := by
    refine ⟨hKc, fun k q hk => ?_⟩
    match k, hk with
    | 0, hk => cases hk; exact ⟨fun N z => ⟨(fun k h => by cases h), kcC, gcC, pcC, qcC⟩, fcC⟩
    | 1, hk => cases hk; exact ⟨fun N z => ⟨(fun k h => by cases h), kcI, gcI, pcI, qcI⟩, fcI⟩
    | 2, hk => cases hk; exact ⟨fun N z => ⟨(fun k h => by cases h), kcJ, gcJ, pcJ, qcJ⟩, fcJ⟩
    | 3, hk => cases hk; exact ⟨fun N z => ⟨(fun k h => by cases h), kcZ, gcZ, pcZ, qcZ⟩, fcZ⟩
    | 4, hk => cases hk; exact ⟨fun N z => ⟨(fun k h => by cases h), kO, f3O, pO, f4O⟩, kO, pO, f3O, f4O, f1O, f5O⟩
    | k + 5, hk => simp [gty] at hk
  generalize hG : ((dC, dI), cC, cI, cJ, cZ, cO) = G at hK
  have hG1 : (dC, dI) = G.1 := by rw [← hG]
  rw [hG1] at hK
  have hE : EV G s := ⟨hK, fun q hq => va_Nw.of rfl (hts _ (nwl_in q hq)), va_AO.of (hts _ ao_in)⟩
  have C : Cx p e s m #[Value.ref b] meth c G RL cL_law 4 ret (fun q : Nat => s.heap.size ≤ q) := ⟨hx, hb, hml, hown, fun w hw => hts w (wsL_law_in w hw), hE, fun _ h => h, hr, hlocks⟩
  obtain ⟨Mz, hMz, hpure⟩ := pure_law L xs hL
  have hl := lv_entry ([.ref b]) (n := 4) (Nat.le_of_ble_eq_true rfl)
  rw [lg_entry_eq]
  generalize (lg_sl ([.ref b]) ++ List.replicate (4 - (lg_sl ([.ref b])).length) Slot.unset).toArray = ls at hl ⊢
  have hl : lv_has ls 4 [(0, .ref b)] := hl
  suffices hgo : Gq p l e room_1 s m #[Value.ref b] below meth c G (fun q : Nat => s.heap.size ≤ q) 4 0 0 (lw_Z below #[Value.ref b] s) 0 [(0, .ref b)] [] [] from hgo s.heap [] ls (fun k q h => by simp at h) ⟨fun i j p q h => by simp at h, fun k q h => by simp at h⟩ va_S.rf hl
  refine go_new C nwL_7 dL_law_0 (by decide) (by decide) (fun X0 => ?_)
  refine go_w (w' := [(X0, .inr (8, [.null, .null, .null, .null, .null, .null, .null, .null, .null]))]) rfl ?_
  refine go_dup C dL_law_3 rfl ?_
  refine go_callI (wr := []) C cfL_9 vnX9 (m9_init_k l G X0) dL_law_4 (by decide) (by decide) (Nat.le_of_ble_eq_true rfl) [0] [] rfl rfl (by decide) (fun x => ?_)
  obtain ⟨h0, h1, h2, h3, h4, h5, h6, h7, h8, h9, h10, h11, h12, h13, h14, h15, h16, h17, h18, h19, h20, h21, h22, h23, h24, h25, h26, h27⟩ := x
  refine go_w (w' := u9 G X0 h0 h6 h8 h9 h17 h19 h22 h25 h27 i9 ++ (u1 G h0 h1 h2 h3 h4 h5 i1 ++ (u5 G h6 h7 i5 ++ (u0 G h8 i0 ++ (u4 G h9 h10 h16 i4 ++ (u1 G h10 h11 h12 h13 h14 h15 i1 ++ (u0 G h16 i0 ++ (u7 G h17 h18 i7 ++ (u6 G h19 h20 h21 i6 ++ (u8 G h22 h23 h24 i8 ++ (u3 G h25 h26 i3 ++ ([(h27, .inl (gO G, 2, .inr (.inr (.inr (.inr (fun _ => none))))))])))))))))))) rfl ?_
  refine go_perm (w' := u9 G X0 h0 h6 h8 h9 h17 h19 h22 h25 h27 () ++ (u0 G h8 i0 ++ (u1 G h0 h1 h2 h3 h4 h5 i1 ++ (u3 G h25 h26 i3 ++ (u4 G h9 h10 h16 i4 ++ (u0 G h16 i0 ++ (u1 G h10 h11 h12 h13 h14 h15 i1 ++ (u5 G h6 h7 i5 ++ (u6 G h19 h20 h21 i6 ++ (u7 G h17 h18 i7 ++ (u8 G h22 h23 h24 i8 ++ ([(h27, .inl (gO G, 2, .inr (.inr (.inr (.inr (fun _ => none))))))])))))))))))) [0, 9, 1, 2, 3, 4, 5, 6, 26, 27, 10, 17, 11, 12, 13, 14, 15, 16, 7, 8, 20, 21, 22, 18, 19, 23, 24, 25, 28] rfl (by decide) ?_
  refine go_astore_n (lv' := [(1, .ref X0), (0, .ref b)]) C dL_law_7 (by decide) rfl ?_
  refine go_new C nwL_10 dL_law_8 (by decide) (by decide) (fun M0 => ?_)
  refine go_w (w' := (u9 G X0 h0 h6 h8 h9 h17 h19 h22 h25 h27 () ++ (u0 G h8 i0 ++ (u1 G h0 h1 h2 h3 h4 h5 i1 ++ (u3 G h25 h26 i3 ++ (u4 G h9 h10 h16 i4 ++ (u0 G h16 i0 ++ (u1 G h10 h11 h12 h13 h14 h15 i1 ++ (u5 G h6 h7 i5 ++ (u6 G h19 h20 h21 i6 ++ (u7 G h17 h18 i7 ++ (u8 G h22 h23 h24 i8 ++ ([(h27, .inl (gO G, 2, .inr (.inr (.inr (.inr (fun _ => none))))))])))))))))))) ++ ([(M0, .inr (9, [.null, .null, .int 0, .null, .int 0, .null, .int 0, .int 0, .int 0, .int 0, .int 0, .int 0, .null, .null, .null, .null, .null, .null, .null, .null]))])) rfl ?_
  refine go_dup C dL_law_11 rfl ?_
  refine go_callI (wr := u9 G X0 h0 h6 h8 h9 h17 h19 h22 h25 h27 () ++ (u0 G h8 i0 ++ (u1 G h0 h1 h2 h3 h4 h5 i1 ++ (u3 G h25 h26 i3 ++ (u4 G h9 h10 h16 i4 ++ (u0 G h16 i0 ++ (u1 G h10 h11 h12 h13 h14 h15 i1 ++ (u5 G h6 h7 i5 ++ (u6 G h19 h20 h21 i6 ++ (u7 G h17 h18 i7 ++ (u8 G h22 h23 h24 i8 ++ ([(h27, .inl (gO G, 2, .inr (.inr (.inr (.inr (fun _ => none))))))])))))))))))) C cfL_12 vnX10 (m10_init_k l G M0 Mz hMz) dL_law_12 (by decide) (by decide) (Nat.le_of_ble_eq_true rfl) [29] [0, 1, 2, 3, 4, 5, 6, 7, 8, 9, 10, 11, 12, 13, 14, 15, 16, 17, 18, 19, 20, 21, 22, 23, 24, 25, 26, 27, 28] rfl rfl (by decide) (fun x => ?_)
  obtain ⟨g0, g1, g2, g3, g4, g5, g6, g7, g8, g9, g10, g11⟩ := x
  refine go_w (w' := u9 G X0 h0 h6 h8 h9 h17 h19 h22 h25 h27 () ++ (u0 G h8 i0 ++ (u1 G h0 h1 h2 h3 h4 h5 i1 ++ (u3 G h25 h26 i3 ++ (u4 G h9 h10 h16 i4 ++ (u0 G h16 i0 ++ (u1 G h10 h11 h12 h13 h14 h15 i1 ++ (u5 G h6 h7 i5 ++ (u6 G h19 h20 h21 i6 ++ (u7 G h17 h18 i7 ++ (u8 G h22 h23 h24 i8 ++ ([(h27, .inl (gO G, 2, .inr (.inr (.inr (.inr (fun _ => none))))))] ++ (u10 G M0 g0 g1 g2 g3 g4 g5 g6 g7 g8 g9 g10 g11 Mz))))))))))))) rfl ?_
  refine go_perm (w' := u9 G X0 h0 h6 h8 h9 h17 h19 h22 h25 h27 () ++ (u0 G h8 i0 ++ (u1 G h0 h1 h2 h3 h4 h5 i1 ++ (u3 G h25 h26 i3 ++ (u4 G h9 h10 h16 i4 ++ (u0 G h16 i0 ++ (u1 G h10 h11 h12 h13 h14 h15 i1 ++ (u5 G h6 h7 i5 ++ (u6 G h19 h20 h21 i6 ++ (u7 G h17 h18 i7 ++ (u8 G h22 h23 h24 i8 ++ (u10 G M0 g0 g1 g2 g3 g4 g5 g6 g7 g8 g9 g10 g11 Mz ++ ([(h27, .inl (gO G, 2, .inr (.inr (.inr (.inr (fun _ => none))))))]))))))))))))) [0, 1, 2, 3, 4, 5, 6, 7, 8, 9, 10, 11, 12, 13, 14, 15, 16, 17, 18, 19, 20, 21, 22, 23, 24, 25, 26, 27, 29, 30, 31, 32, 33, 34, 35, 36, 37, 38, 39, 40, 41, 28] rfl (by decide) ?_
  refine go_astore_n (lv' := [(2, .ref M0), (1, .ref X0), (0, .ref b)]) C dL_law_15 (by decide) rfl ?_
  refine go_iconst (v := 0) C dL_law_16 rfl ?_
  refine go_istore_n (lv' := [(3, .int 0), (2, .ref M0), (1, .ref X0), (0, .ref b)]) C dL_law_17 (by decide) rfl ?_
  obtain ⟨z0, -⟩ : ∃ z : Ad, z = (0, 0, 0, 0, 0, 0) := ⟨_, rfl⟩
  refine go_w (w' := (u9 G X0 h0 h6 h8 h9 h17 h19 h22 h25 h27 () ++ (u0 G h8 i0 ++ (u1 G h0 h1 h2 h3 h4 h5 i1 ++ (u3 G h25 h26 i3 ++ (u4 G h9 h10 h16 i4 ++ (u0 G h16 i0 ++ (u1 G h10 h11 h12 h13 h14 h15 i1 ++ (u5 G h6 h7 i5 ++ (u6 G h19 h20 h21 i6 ++ (u7 G h17 h18 i7 ++ (u8 G h22 h23 h24 i8 ++ (u10 G M0 g0 g1 g2 g3 g4 g5 g6 g7 g8 g9 g10 g11 Mz ++ (imC G h27 z0 z0 none none))))))))))))) ++ imT G z0 z0 none none) (congrArg (fun z => u9 G X0 h0 h6 h8 h9 h17 h19 h22 h25 h27 () ++ (u0 G h8 i0 ++ (u1 G h0 h1 h2 h3 h4 h5 i1 ++ (u3 G h25 h26 i3 ++ (u4 G h9 h10 h16 i4 ++ (u0 G h16 i0 ++ (u1 G h10 h11 h12 h13 h14 h15 i1 ++ (u5 G h6 h7 i5 ++ (u6 G h19 h20 h21 i6 ++ (u7 G h17 h18 i7 ++ (u8 G h22 h23 h24 i8 ++ (u10 G M0 g0 g1 g2 g3 g4 g5 g6 g7 g8 g9 g10 g11 Mz ++ ([(h27, .inl (gO G, 2, .inr (.inr (.inr (.inr (z))))))]))))))))))))) imF_none) ?_
  exact go_lv (lv' := [(0, .ref b), (1, .ref X0), (2, .ref M0), (3, .int 0)]) [3, 2, 1, 0] rfl (law_k C hX hbl X0 h0 h6 h8 h9 h17 h19 h22 h25 h27 h1 h2 h3 h4 h5 h26 h10 h16 h11 h12 h13 h14 h15 h7 h20 h21 h18 h23 h24 M0 g0 g1 g2 g3 g4 g5 g6 g7 g8 g9 g10 g11 FU 0 i0 i1 i3 i4 i0 i1 i5 i6 i7 i8 none none Mz z0 z0 _ _ (by decide) (by decide) hpure)
set_option maxHeartbeats 4000000 in
theorem lw_walk (l : Launch) (hflags : l.flags = flags0) (b : Addr) (xs : List Int32) : MetFree l x (headSpec (Jvm.Cond.code x code maxLocals ret :: tables_1) room_1) (lw_P b xs) (fun _ _ _ _ _ => True) lw_Q := by
  refine MetFree.of_bodyS (code := code) (maxLocals := maxLocals) (ret := ret) (by decide) ?_ ?_
  · intro args s m h hn
    obtain ⟨meth, c, h1, h2, h3, h4, h5, h6, -, -⟩ := Cond.code_spec hn (atoms_spec (ws := Jvm.Cond.code x code maxLocals ret :: tables_1) h _ List.mem_cons_self)
    exact ⟨meth, c, h1, h2, h3, h4, h5, h6⟩
  · intro p e s m args below meth c s₁ B hml0 hP _
    obtain ⟨rfl, hx, hbd, hgv⟩ := hP
    obtain ⟨scr, harrAt, hlist, hof, hsmall⟩ := hx
    obtain ⟨hcb, hkn, -, -⟩ := State.arrayAt?_spec harrAt
    have hown : s.vm.findClass R_law = some m.cls := findClass_of_methodNamed B.named
    have hts0 : ∀ c ∈ (Jvm.Cond.code x code maxLocals ret :: tables_1), c.before #[Value.ref b] s = true := atoms_spec (ws := Jvm.Cond.code x code maxLocals ret :: tables_1) B.pre
    have hts : ∀ w ∈ lw_tbl, w.before #[Value.ref b] s = true := k2_hts_sels lw_privs (fun w hw => hts0 w (List.mem_cons_of_mem _ hw)) lw_privs_ok
    have hml : c.maxLocals = 4 := B.maxLocals_eq (hts0 _ List.mem_cons_self)
    have X₀ : Stand p l e room_1 s m #[Value.ref b] below meth c s₁ [] 0 0 := Stand.of_body B
    have hh0 : s₁.heap = s.heap := by rw [B.state]; rfl
    have hsz : scr.slots.size = xs.length := by rw [← Array.length_toList, hlist, List.length_map]
    have hval : ∀ j : Nat, j < xs.length → scr.slots[j]? = some (.int (xs.getD j 0)) := fun j hj => by
      rw [← Array.getElem?_toList, hlist]
      simp [hj]
    have hbl : b < s.heap.size := (Array.getElem?_eq_some_iff.mp hcb).1
    have hX : va_X b xs.length (fun j => xs.getD j 0) s s.heap := ⟨scr, hcb, hof, hkn, hsz, hval⟩
    have K : W p l e room_1 s m #[Value.ref b] below meth c s₁.heap [] 0 0 (lw_Z below #[Value.ref b] s) (entryFrame m ([Value.ref b] : List Value).toArray 4) := by
      rw [hh0]
      exact whole_start l hflags hbd ⟨B.exec, B.bytes, B.returns, hml, hown, hts, hX, hbl, B.notSynchronized, hgv⟩
    obtain ⟨t, a1, o, b1, b2, b3⟩ := K s₁ rfl X₀
    exact ⟨t, o, a1, b1, b2, b3⟩
theorem lw_pre_spec {args : Array Value} {s : State} (h : (Jvm.Cond.and given_1 narrow_1).before args s = true) (hr : rest_1_c.before args s = true) : ∃ (b : Addr) (xs : List Int32), lw_P b xs args s := by
  have hs := flat_of_before _ h
  have hq := flat_of_before _ hr
  have hc : (Cond.count 1).before args s = true := hs _ (by decide +kernel)
  have harr : (Cond.arrayOf (.arg 0) .int).before args s = true := hs _ (by decide +kernel)
  have hle : (Cond.le (.length (.arg 0)) (.int 2560)).before args s = true := hs _ (by decide +kernel)
  have hlen : (Cond.isInt (.length (.arg 0))).before args s = true := hq _ (by decide +kernel)
  have hall : (Cond.all (.arg 0) (.isInt (.elem (.arg 0) (.index 0)))).before args s = true := hq _ (by decide +kernel)
  obtain ⟨b, xs, hb, hx⟩ := State.ints_of_pre rfl harr hlen hall
  have hsm : xs.length < 2 ^ 31 := hx.choose_spec.2.2.2
  have hev : (Term.length (.arg 0)).eval args s none [] s = some (.int xs.length.toInt32) := hx.length_eval hb
  have hv := Cond.le_ints hev (show (Term.int 2560).eval args s none [] s = some (.int 2560) from rfl)
  have hd : xs.length.toInt32 ≤ 2560 := by
    simpa [Cond.before, Cond.holds, hv] using hle
  have hN : xs.length ≤ 2560 := (Int32.ofNat_le_ofNat hsm (by decide)).mp (show Int32.ofNat xs.length ≤ Int32.ofNat 2560 from hd)
  exact ⟨b, xs, Cond.one_arg hc (show args[0]? = some (.ref b) from hb), hx, hN, h⟩
theorem lw_comes (l : Launch) (hflags : l.flags = flags0) : Comes l x (Jvm.Cond.code x code maxLocals ret :: tables_1) room_1 (fun tb e args s => Calls_1 tb e args s ∧ rest_1 tb e args s ∧ Pre_1 tb e args s)
    (fun _ _ args s o t => lw_Q args s o t) := by
  intro p e ha hc hk s m args below hf hfit hheap happ hpre
  obtain ⟨b, xs, hP⟩ := lw_pre_spec hpre.2.2 hpre.2.1
  obtain ⟨k, o, h1, h2, h3, hQ⟩ := lw_walk l hflags b xs p e ha hc hk s m args below hf ((Spec.applies_iff_loose hf).mp happ).1 hP trivial
  exact ⟨k, o, h1, h2, h3, hQ⟩
theorem lw_frame {s t : State} {o : Outcome} {args : Array Value} (h : Framed s o t [] 600000 7302250) :
    Framed s o t (fieldLocs frame_1_writes args s ++ arrayLocs frame_1_arrays args s ++ staticLocs frame_1_statics s) 600000 7302250 := h
theorem lw_limb (L : Cond) (hL : ∀ (args : Array Value) (s t : State), L.after args s (.returned (some (.int 1))) t = true) :
    ArmFor flags0 classFile x code maxLocals ret World_1 tables_1 room_1 Calls_1 rest_1 Pre_1
      (fun tb e a s o t => postC L tb e a s o t ∧ Framed s o t (fieldLocs frame_1_writes a s ++ arrayLocs frame_1_arrays a s ++ staticLocs frame_1_statics s) 600000 7302250) := by
  intro l hflags _ _ p e ha hc hk s m args below hf hfit hheap happ hpre
  obtain ⟨k, o, h1, h2, h3, rfl, hF⟩ := lw_comes l hflags p e ha hc hk s m args below hf hfit hheap happ hpre
  exact ⟨k, _, h1, h2, h3, hL args s _, lw_frame hF⟩
theorem i_vc : Claimed_1_1 ∧ Claimed_1_2 := ⟨lw_limb limb_1_1 (fun args s t => by simp [limb_1_1, Cond.after, Cond.holds, Cond.value]), lw_limb limb_1_2 (fun args s t => Cond.after_iff.mpr (by
  first | (rw [show limb_1_2 = Cond.eq .result (.int 1) from rfl, Cond.eq_ints (x := 1) (y := 1) rfl rfl]; simp; done) | (simp [limb_1_2, Cond.value, Term.eval]; done)))⟩
