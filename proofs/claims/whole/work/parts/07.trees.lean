def m0_become (T : SX0) (a1 : Int32) (a2 : Int32) (a3 : Int32) : Option (SX0) :=
  some (s0_place (s0_man (s0_kind T a1) a2) a3)
def m0_kindOf (T : SX0) : Option (Int32) :=
  some (g0_kind T)
def m0_doer (T : SX0) : Option (Int32) :=
  some (g0_man T)
def m0_target (T : SX0) : Option (Int32) :=
  some (g0_place T)
def m9_isMan (a0 : Int32) : Option (Int32) :=
  (if a0 < 0 then some (0 : Int32)
  else (if (6 : Int32) ≤ a0 then some (0 : Int32)
  else some (1 : Int32)))
def m1_strideOf (T : SX1) (a1 : Int32) : Option (Int32) :=
  tbd (m9_isMan a1) (fun r1 => (if r1 = 0 then some (1 : Int32)
  else tgd (tin a1 6) (some ((g1_stride T) (Int32.toNatClampNeg a1)))))
def m1_placeOf (T : SX1) (a1 : Int32) : Option (Int32) :=
  tbd (m9_isMan a1) (fun r1 => (if r1 = 0 then some (0 : Int32)
  else tgd (tin a1 6) (some ((g1_place T) (Int32.toNatClampNeg a1)))))
def m0_drawnPlace_J19 (Oc : SX1) (x0 : Int32) (x1 : Int32) (y0 : Int32) : Option (Int32) :=
  (if (irem (x0 / (4 : Int32)) (4 : Int32)) = 0 then tbd (m1_placeOf Oc x1) (fun r3 => some (imax (r3 - y0) (0 : Int32)))
  else tbd (m1_placeOf Oc x1) (fun r5 => some (imin (r5 + y0) (13 : Int32))))
def m0_drawnPlace (Oc : SX1) (a0 : Int32) (a1 : Int32) : Option (Int32) :=
  tbd (m1_strideOf Oc a1) (fun r1 => (if r1 ≤ 0 then m0_drawnPlace_J19 Oc a0 a1 (1 : Int32)
  else tgd (tnz r1) (m0_drawnPlace_J19 Oc a0 a1 ((1 : Int32) + (irem a0 r1)))))
def m0_draw_J64 (T : SX0) (Oc : SX1) (x3 : Int32) (x4 : Int32) : Option (SX0) :=
  tbd (m0_drawnPlace Oc x4 x3) (fun r4 => tbd (m0_become T (0 : Int32) x3 r4) (fun r6 => some r6))
def m0_draw_J107 (T : SX0) (Oc : SX1) (x3 : Int32) (x5 : Int32) (y1 : Int32) : Option (SX0) :=
  tbd (m0_become T y1 x3 x5) (fun r10 => some r10)
def m0_draw (T : SX0) (Oc : SX1) (a1 : Int32) : Option (SX0) :=
  tnm (irem a1 (6 : Int32)) (fun v1 => tnm (a1 / (48 : Int32)) (fun v2 => tnm ((1 : Int32) + (irem v2 (12 : Int32))) (fun v3 => (if (irem (a1 / (6 : Int32)) (8 : Int32)) = 0 then m0_draw_J64 T Oc v1 v2
  else (if (irem (a1 / (6 : Int32)) (8 : Int32)) = 1 then m0_draw_J64 T Oc v1 v2
  else (if (irem (a1 / (6 : Int32)) (8 : Int32)) = 2 then m0_draw_J64 T Oc v1 v2
  else (if (irem (a1 / (6 : Int32)) (8 : Int32)) = 3 then m0_draw_J64 T Oc v1 v2
  else (if (irem (a1 / (6 : Int32)) (8 : Int32)) = 4 then tbd (m0_become T (1 : Int32) v1 v3) (fun r8 => some r8)
  else (if (irem (a1 / (6 : Int32)) (8 : Int32)) = 5 then (if (irem (v2 / (12 : Int32)) (2 : Int32)) = 0 then m0_draw_J107 T Oc v1 v3 (2 : Int32)
  else m0_draw_J107 T Oc v1 v3 (3 : Int32))
  else tbd (m0_become T (4 : Int32) v1 (0 : Int32)) (fun r12 => some r12))))))))))
def m1_copyFrom (T : SX1) (Ob : SX1) : Option (SX1) :=
  some (s1_dry (s1_wet (s1_sights (s1_beat (s1_stepped (s1_place (s1_coins (s1_stride (s1_missing (s1_leaser (s1_owner T (va_cpy (g1_owner Ob) (g1_owner T) 0 0 13)) (va_cpy (g1_leaser Ob) (g1_leaser T) 0 0 13)) (g1_missing Ob)) (va_cpy (g1_stride Ob) (g1_stride T) 0 0 6)) (va_cpy (g1_coins Ob) (g1_coins T) 0 0 6)) (va_cpy (g1_place Ob) (g1_place T) 0 0 6)) (g1_stepped Ob)) (g1_beat Ob)) (g1_sights Ob)) (g1_wet Ob)) (g1_dry Ob))
def m9_isRung (a0 : Int32) : Option (Int32) :=
  (if a0 < (1 : Int32) then some (0 : Int32)
  else (if (12 : Int32) < a0 then some (0 : Int32)
  else some (1 : Int32)))
def m1_ownerOf (T : SX1) (a1 : Int32) : Option (Int32) :=
  tbd (m9_isRung a1) (fun r1 => (if r1 = 0 then some (-1 : Int32)
  else tgd (tin a1 13) (some ((g1_owner T) (Int32.toNatClampNeg a1)))))
def m1_leaserOf (T : SX1) (a1 : Int32) : Option (Int32) :=
  tbd (m9_isRung a1) (fun r1 => (if r1 = 0 then some (-1 : Int32)
  else tgd (tin a1 13) (some ((g1_leaser T) (Int32.toNatClampNeg a1)))))
def m9_bitOf (a0 : Int32) : Option (Int32) :=
  (if a0 < (1 : Int32) then some (0 : Int32)
  else (if (12 : Int32) < a0 then some (0 : Int32)
  else some ((1 : Int32) <<< ((a0 - (1 : Int32)) &&& 31))))
def m1_isMissing (T : SX1) (a1 : Int32) : Option (Int32) :=
  tbd (m9_bitOf a1) (fun r1 => (if ((g1_missing T) &&& r1) = 0 then some (0 : Int32)
  else some (1 : Int32)))
def m1_rungsMissing (T : SX1) : Option (Int32) :=
  some (g1_missing T)
def m1_setRung (T : SX1) (a1 : Int32) (a2 : Int32) (a3 : Int32) (a4 : Int32) : Option (SX1) :=
  tbd (m9_isRung a1) (fun r1 => (if r1 = 0 then some T
  else tgd (tin a1 13) (tgd (tin a1 13) ((if a4 = 0 then tbd (m9_bitOf a1) (fun r3 => some (s1_missing (s1_leaser (s1_owner T (upd (g1_owner T) (Int32.toNatClampNeg a1) a2)) (upd (g1_leaser T) (Int32.toNatClampNeg a1) a3)) ((g1_missing T) &&& (r3 ^^^ (-1 : Int32)))))
  else tbd (m9_bitOf a1) (fun r5 => some (s1_missing (s1_leaser (s1_owner T (upd (g1_owner T) (Int32.toNatClampNeg a1) a2)) (upd (g1_leaser T) (Int32.toNatClampNeg a1) a3)) ((g1_missing T) ||| r5))))))))
def m1_coinsOf (T : SX1) (a1 : Int32) : Option (Int32) :=
  tbd (m9_isMan a1) (fun r1 => (if r1 = 0 then some (0 : Int32)
  else tgd (tin a1 6) (some ((g1_coins T) (Int32.toNatClampNeg a1)))))
def m1_hasStepped (T : SX1) (a1 : Int32) : Option (Int32) :=
  tbd (m9_isMan a1) (fun r1 => (if r1 = 0 then some (0 : Int32)
  else (if ((g1_stepped T) &&& ((1 : Int32) <<< (a1 &&& 31))) = 0 then some (0 : Int32)
  else some (1 : Int32))))
def m1_menStepped (T : SX1) : Option (Int32) :=
  some (g1_stepped T)
def m1_setMan (T : SX1) (a1 : Int32) (a2 : Int32) (a3 : Int32) (a4 : Int32) : Option (SX1) :=
  tbd (m9_isMan a1) (fun r1 => (if r1 = 0 then some T
  else tgd (tin a1 6) (tgd (tin a1 6) (tgd (tin a1 6) (some (s1_stepped (s1_place (s1_coins (s1_stride T (upd (g1_stride T) (Int32.toNatClampNeg a1) a2)) (upd (g1_coins T) (Int32.toNatClampNeg a1) a3)) (upd (g1_place T) (Int32.toNatClampNeg a1) a4)) ((g1_stepped T) &&& (((1 : Int32) <<< (a1 &&& 31)) ^^^ (-1 : Int32)))))))))
def m1_beatNow (T : SX1) : Option (Int32) :=
  some (g1_beat T)
def m1_menOnRoof_B4 (T : SX1) (rc4 : Int32 × Int32 → Option (Int32)) (x1 : Int32) (x2 : Int32) : Option (Int32) :=
  (if (6 : Int32) ≤ x2 then some x1
  else tgd (tin x2 6) ((if ((g1_place T) (Int32.toNatClampNeg x2)) = (13 : Int32) then tnm (x1 ||| ((1 : Int32) <<< (x2 &&& 31))) (fun v2 => tnm (x2 + (1 : Int32)) (fun v3 => rc4 (v2, v3)))
  else tnm (x2 + (1 : Int32)) (fun v1 => rc4 (x1, v1)))))
def m1_menOnRoof_L4 (T : SX1) (rc4 : Int32 × Int32 → Option (Int32)) (z : Int32 × Int32) : Option (Int32) := m1_menOnRoof_B4 T rc4 z.1 z.2
def m1_menOnRoof (T : SX1) : Option (Int32) :=
  tit (m1_menOnRoof_L4 T) FU ((0 : Int32), (0 : Int32))
def m1_firstManOn_B2 (T : SX1) (x1 : Int32) (rc2 : Int32 → Option (Int32)) (x2 : Int32) : Option (Int32) :=
  (if (6 : Int32) ≤ x2 then some (-1 : Int32)
  else tgd (tin x2 6) ((if ((g1_place T) (Int32.toNatClampNeg x2)) = x1 then some x2
  else tnm (x2 + (1 : Int32)) (fun v1 => rc2 v1))))
def m1_firstManOn_L2 (T : SX1) (x1 : Int32) (rc2 : Int32 → Option (Int32)) (z : Int32) : Option (Int32) := m1_firstManOn_B2 T x1 rc2 z
def m1_firstManOn (T : SX1) (a1 : Int32) : Option (Int32) :=
  tit (m1_firstManOn_L2 T a1) FU (0 : Int32)
def m1_mayBeOn (T : SX1) (a1 : Int32) (a2 : Int32) : Option (Int32) :=
  (if a2 < (1 : Int32) then some (0 : Int32)
  else (if (12 : Int32) < a2 then some (0 : Int32)
  else (if (((g1_missing T) >>> ((a2 - (1 : Int32)) &&& 31)) &&& (1 : Int32)) = 0 then tgd (tin a2 13) ((if ((g1_owner T) (Int32.toNatClampNeg a2)) = (-1 : Int32) then some (1 : Int32)
  else tgd (tin a2 13) ((if ((g1_owner T) (Int32.toNatClampNeg a2)) = a1 then some (1 : Int32)
  else tgd (tin a2 13) ((if ((g1_leaser T) (Int32.toNatClampNeg a2)) = a1 then some (1 : Int32)
  else some (0 : Int32)))))))
  else some (0 : Int32))))
def m1_rungsOpenTo_B4 (T : SX1) (x1 : Int32) (rc4 : Int32 × Int32 → Option (Int32)) (x2 : Int32) (x3 : Int32) : Option (Int32) :=
  (if (12 : Int32) < x3 then some x2
  else tbd (m1_mayBeOn T x1 x3) (fun r1 => (if r1 = 0 then tnm (x3 + (1 : Int32)) (fun v3 => rc4 (x2, v3))
  else tbd (m9_bitOf x3) (fun r4 => tnm (x2 ||| r4) (fun v6 => tnm (x3 + (1 : Int32)) (fun v7 => rc4 (v6, v7)))))))
def m1_rungsOpenTo_L4 (T : SX1) (x1 : Int32) (rc4 : Int32 × Int32 → Option (Int32)) (z : Int32 × Int32) : Option (Int32) := m1_rungsOpenTo_B4 T x1 rc4 z.1 z.2
def m1_rungsOpenTo (T : SX1) (a1 : Int32) : Option (Int32) :=
  tit (m1_rungsOpenTo_L4 T a1) FU ((0 : Int32), (1 : Int32))
def m1_rungsToLease_B4 (T : SX1) (rc4 : Int32 × Int32 → Option (Int32)) (x1 : Int32) (x2 : Int32) : Option (Int32) :=
  (if (12 : Int32) < x2 then some x1
  else tbd (m1_isMissing T x2) (fun r1 => (if r1 = 0 then tgd (tin x2 13) ((if ((g1_owner T) (Int32.toNatClampNeg x2)) = (-1 : Int32) then tnm (x2 + (1 : Int32)) (fun v4 => rc4 (x1, v4))
  else tgd (tin x2 13) ((if ((g1_leaser T) (Int32.toNatClampNeg x2)) = (-1 : Int32) then tbd (m9_bitOf x2) (fun r6 => tnm (x1 ||| r6) (fun v8 => tnm (x2 + (1 : Int32)) (fun v9 => rc4 (v8, v9))))
  else tnm (x2 + (1 : Int32)) (fun v5 => rc4 (x1, v5))))))
  else tnm (x2 + (1 : Int32)) (fun v3 => rc4 (x1, v3)))))
def m1_rungsToLease_L4 (T : SX1) (rc4 : Int32 × Int32 → Option (Int32)) (z : Int32 × Int32) : Option (Int32) := m1_rungsToLease_B4 T rc4 z.1 z.2
def m1_rungsToLease (T : SX1) : Option (Int32) :=
  tit (m1_rungsToLease_L4 T) FU ((0 : Int32), (1 : Int32))
def m1_reasonAgainstLease (T : SX1) (a1 : Int32) (a2 : Int32) : Option (Int32) :=
  tbd (m1_isMissing T a2) (fun r1 => (if r1 = 0 then tbd (m1_ownerOf T a2) (fun r3 => (if r3 = a1 then some (6 : Int32)
  else tbd (m1_ownerOf T a2) (fun r5 => (if r5 = (-1 : Int32) then some (6 : Int32)
  else tbd (m1_leaserOf T a2) (fun r7 => (if r7 = (-1 : Int32) then tbd (m1_coinsOf T a1) (fun r9 => (if 0 < r9 then some (0 : Int32)
  else some (8 : Int32)))
  else some (7 : Int32)))))))
  else some (3 : Int32)))
def m1_reasonAgainstStep (T : SX1) (a1 : Int32) (a2 : Int32) : Option (Int32) :=
  tbd (m1_hasStepped T a1) (fun r1 => (if r1 = 0 then tbd (m1_placeOf T a1) (fun r3 => tnm (iabs (a2 - r3)) (fun v5 => (if v5 = 0 then some (2 : Int32)
  else tbd (m1_strideOf T a1) (fun r6 => (if v5 ≤ r6 then tbd (m9_isRung a2) (fun r8 => (if r8 = 0 then some (0 : Int32)
  else tbd (m1_isMissing T a2) (fun r10 => (if r10 = 0 then tbd (m1_mayBeOn T a1 a2) (fun r12 => (if r12 = 0 then some (4 : Int32)
  else tbd (m1_firstManOn T a2) (fun r14 => (if r14 = (-1 : Int32) then some (0 : Int32)
  else some (5 : Int32)))))
  else some (3 : Int32)))))
  else some (2 : Int32))))))
  else some (1 : Int32)))
def m1_reasonAgainst (T : SX1) (Ob : SX0) : Option (Int32) :=
  tbd (m0_kindOf Ob) (fun r1 => (if r1 = 0 then tbd (m0_doer Ob) (fun r3 => tbd (m0_target Ob) (fun r5 => tbd (m1_reasonAgainstStep T r3 r5) (fun r7 => some r7)))
  else (if r1 = 1 then tbd (m0_doer Ob) (fun r9 => tbd (m0_target Ob) (fun r11 => tbd (m1_reasonAgainstLease T r9 r11) (fun r13 => some r13)))
  else (if r1 = 2 then tbd (m0_target Ob) (fun r15 => tbd (m1_isMissing T r15) (fun r17 => (if r17 = 0 then some (0 : Int32)
  else some (9 : Int32))))
  else (if r1 = 3 then tbd (m0_target Ob) (fun r19 => tbd (m1_isMissing T r19) (fun r21 => (if r21 = 0 then some (9 : Int32)
  else some (0 : Int32))))
  else (if (g1_beat T) < (99 : Int32) then some (0 : Int32)
  else some (10 : Int32)))))))
def m1_leaseTo_J17 (T : SX1) (x1 : Int32) (x2 : Int32) (y0 : Int32) : Option (SX1) :=
  tbd (m9_isRung x2) (fun r3 => (if r3 = 0 then some T
  else tbd (m9_isMan x1) (fun r5 => (if r5 = 0 then some T
  else tbd (m9_isMan y0) (fun r7 => (if r7 = 0 then some T
  else tgd (tin x2 13) (tgd (tin x1 6) (tgd (tin x1 6) (tgd (tin y0 6) (tgd (tin y0 6) (some (s1_coins (s1_leaser T (upd (g1_leaser T) (Int32.toNatClampNeg x2) x1)) (upd (upd (g1_coins T) (Int32.toNatClampNeg x1) (((g1_coins T) (Int32.toNatClampNeg x1)) - (1 : Int32))) (Int32.toNatClampNeg y0) (((upd (g1_coins T) (Int32.toNatClampNeg x1) (((g1_coins T) (Int32.toNatClampNeg x1)) - (1 : Int32))) (Int32.toNatClampNeg y0)) + (1 : Int32)))))))))))))))
def m1_leaseTo (T : SX1) (a1 : Int32) (a2 : Int32) : Option (SX1) :=
  tbd (m9_isRung a2) (fun r1 => (if r1 = 0 then m1_leaseTo_J17 T a1 a2 (-1 : Int32)
  else tgd (tin a2 13) (m1_leaseTo_J17 T a1 a2 ((g1_owner T) (Int32.toNatClampNeg a2)))))
def m1_moveTo (T : SX1) (a1 : Int32) (a2 : Int32) : Option (SX1) :=
  tbd (m9_isMan a1) (fun r1 => (if r1 = 0 then some T
  else tgd (tin a1 6) (some (s1_stepped (s1_place T (upd (g1_place T) (Int32.toNatClampNeg a1) a2)) ((g1_stepped T) ||| ((1 : Int32) <<< (a1 &&& 31)))))))
def m1_perform (T : SX1) (Ob : SX0) : Option (SX1) :=
  tbd (m0_kindOf Ob) (fun r1 => (if r1 = 0 then tbd (m0_doer Ob) (fun r3 => tbd (m0_target Ob) (fun r5 => tbd (m1_moveTo T r3 r5) (fun r7 => some r7)))
  else (if r1 = 1 then tbd (m0_doer Ob) (fun r9 => tbd (m0_target Ob) (fun r11 => tbd (m1_leaseTo T r9 r11) (fun r13 => some r13)))
  else (if r1 = 2 then tbd (m0_target Ob) (fun r15 => tbd (m1_setRung T r15 (-1 : Int32) (-1 : Int32) (1 : Int32)) (fun r17 => some r17))
  else (if r1 = 3 then tbd (m0_target Ob) (fun r19 => tbd (m1_setRung T r19 (-1 : Int32) (-1 : Int32) (0 : Int32)) (fun r21 => some r21))
  else some (s1_beat (s1_stepped T (0 : Int32)) ((g1_beat T) + (1 : Int32))))))))
def m1_addSight_J44 (T : SX1) : Option (Int32 × SX1) :=
  some ((1 : Int32), (s1_sights T ((g1_sights T) + (1 : Int32))))
def m1_addSight (T : SX1) (a1 : Int32) (a2 : Int32) : Option (Int32 × SX1) :=
  (if (g1_sights T) < (8 : Int32) then (if a2 = 0 then tbd (m9_bitOf a1) (fun r1 => m1_addSight_J44 (s1_dry T ((g1_dry T) ||| r1)))
  else tbd (m9_bitOf a1) (fun r3 => m1_addSight_J44 (s1_wet T ((g1_wet T) ||| r3))))
  else some ((0 : Int32), T))
def m1_clearSights (T : SX1) : Option (SX1) :=
  some (s1_dry (s1_wet (s1_sights T (0 : Int32)) (0 : Int32)) (0 : Int32))
def m1_sightCount (T : SX1) : Option (Int32) :=
  some (g1_sights T)
def m1_sightsFit (T : SX1) (a1 : Int32) : Option (Int32) :=
  (if (a1 &&& (g1_wet T)) = (g1_wet T) then (if (a1 &&& (g1_dry T)) = 0 then some (1 : Int32)
  else some (0 : Int32))
  else some (0 : Int32))
def m2_heapsOf_B7 (x0 : Int32) (rc7 : Int32 × Int32 × Int32 → Option (Int32)) (x1 : Int32) (x2 : Int32) (x3 : Int32) : Option (Int32) :=
  (if x3 < (1 : Int32) then (if x2 = 0 then some x1
  else some (x1 ^^^ (x2 - (1 : Int32))))
  else tbd (m9_bitOf x3) (fun r1 => (if (x0 &&& r1) = 0 then tnm (x3 + (-1 : Int32)) (fun v6 => rc7 (x1, x2, v6))
  else (if x2 = 0 then tnm (x3 + (-1 : Int32)) (fun v5 => rc7 (x1, x3, v5))
  else tnm (x1 ^^^ ((x2 - x3) - (1 : Int32))) (fun v3 => tnm (x3 + (-1 : Int32)) (fun v4 => rc7 (v3, (0 : Int32), v4)))))))
def m2_heapsOf_L7 (x0 : Int32) (rc7 : Int32 × Int32 × Int32 → Option (Int32)) (z : Int32 × Int32 × Int32) : Option (Int32) := m2_heapsOf_B7 x0 rc7 z.1 z.2.1 z.2.2
def m2_heapsOf (a0 : Int32) : Option (Int32) :=
  tit (m2_heapsOf_L7 a0) FU ((0 : Int32), (0 : Int32), (12 : Int32))
def m2_canWin (a0 : Int32) : Option (Int32) :=
  tbd (m2_heapsOf a0) (fun r1 => (if r1 = 0 then some (0 : Int32)
  else some (1 : Int32)))
def m2_leastWinningMove_B36 (x0 : Int32) (x2 : Int32) (rc14 : Int32 × Int32 → Option (Int32)) (rc36 : Int32 → Option (Int32)) (x3 : Int32) : Option (Int32) :=
  (if x2 ≤ x3 then tnm (x2 + (1 : Int32)) (fun v6 => rc14 (x2, v6))
  else tbd (m9_bitOf x2) (fun r7 => tbd (m9_bitOf x3) (fun r9 => tbd (m2_canWin ((x0 &&& (r7 ^^^ (-1 : Int32))) ||| r9)) (fun r11 => (if r11 = 0 then some (((100 : Int32) * x2) + x3)
  else tnm (x3 + (1 : Int32)) (fun v13 => rc36 v13))))))
def m2_leastWinningMove_L36 (x0 : Int32) (x2 : Int32) (rc14 : Int32 × Int32 → Option (Int32)) (rc36 : Int32 → Option (Int32)) (z : Int32) : Option (Int32) := m2_leastWinningMove_B36 x0 x2 rc14 rc36 z
def m2_leastWinningMove_B14 (x0 : Int32) (rc14 : Int32 × Int32 → Option (Int32)) (x1 : Int32) (x2 : Int32) : Option (Int32) :=
  (if (12 : Int32) < x2 then some (-6 : Int32)
  else tbd (m9_bitOf x2) (fun r3 => (if (x0 &&& r3) = 0 then tnm (x2 + (1 : Int32)) (fun v14 => rc14 (x1, v14))
  else tnm (x1 + (1 : Int32)) (fun v5 => tit (m2_leastWinningMove_L36 x0 x2 rc14) FU v5))))
def m2_leastWinningMove_L14 (x0 : Int32) (rc14 : Int32 × Int32 → Option (Int32)) (z : Int32 × Int32) : Option (Int32) := m2_leastWinningMove_B14 x0 rc14 z.1 z.2
def m2_leastWinningMove (a0 : Int32) : Option (Int32) :=
  tbd (m2_canWin a0) (fun r1 => (if r1 = 0 then some (-6 : Int32)
  else tit (m2_leastWinningMove_L14 a0) FU ((0 : Int32), (1 : Int32))))
def m3_power_B5 (x0 : Int32) (x1 : Int32) (rc5 : Int64 × Int32 → Option (Int64)) (x2 : Int64) (x4 : Int32) : Option (Int64) :=
  (if x1 ≤ x4 then some x2
  else (if (12 : Int32) ≤ x4 then some x2
  else tnm (x2 * (Int32.toInt64 x0)) (fun v2 => tnm (x4 + (1 : Int32)) (fun v3 => rc5 (v2, v3)))))
def m3_power_L5 (x0 : Int32) (x1 : Int32) (rc5 : Int64 × Int32 → Option (Int64)) (z : Int64 × Int32) : Option (Int64) := m3_power_B5 x0 x1 rc5 z.1 z.2
def m3_power (a0 : Int32) (a1 : Int32) : Option (Int64) :=
  tnm (1 : Int64) (fun v1 => tit (m3_power_L5 a0 a1) FU (v1, (0 : Int32)))
def m3_reckonChances_J59 (T : SX3) (x1 : Int32) (x2 : Int32) (x3 : Int64) (rc9 : Int32 × SX3 → Option (SX3)) : Option (SX3) :=
  tgd (tin x2 13) (tnm (x2 + (1 : Int32)) (fun v2 => rc9 (v2, (s3_chances T (vp_updL (g3_chances T) (Int32.toNatClampNeg x2) x3)))))
def m3_reckonChances_B20 (T : SX3) (x1 : Int32) (x2 : Int32) (rc9 : Int32 × SX3 → Option (SX3)) (rc20 : Int64 × Int32 → Option (SX3)) (x3 : Int64) (x5 : Int32) : Option (SX3) :=
  (if x1 < x5 then m3_reckonChances_J59 T x1 x2 x3 rc9
  else (if x2 < x5 then m3_reckonChances_J59 T x1 x2 x3 rc9
  else tgd (tin (x2 - x5) 13) (tbd (m3_power x1 (x5 - (1 : Int32))) (fun r3 => tnm (x3 + (((g3_chances T) (Int32.toNatClampNeg (x2 - x5))) * r3)) (fun v5 => tnm (x5 + (1 : Int32)) (fun v6 => rc20 (v5, v6)))))))
def m3_reckonChances_L20 (T : SX3) (x1 : Int32) (x2 : Int32) (rc9 : Int32 × SX3 → Option (SX3)) (rc20 : Int64 × Int32 → Option (SX3)) (z : Int64 × Int32) : Option (SX3) := m3_reckonChances_B20 T x1 x2 rc9 rc20 z.1 z.2
def m3_reckonChances_B9 (x1 : Int32) (rc9 : Int32 × SX3 → Option (SX3)) (x2 : Int32) (T : SX3) : Option (SX3) :=
  (if (12 : Int32) < x2 then some T
  else tnm (0 : Int64) (fun v1 => tit (m3_reckonChances_L20 T x1 x2 rc9) FU (v1, (1 : Int32))))
def m3_reckonChances_L9 (x1 : Int32) (rc9 : Int32 × SX3 → Option (SX3)) (z : Int32 × SX3) : Option (SX3) := m3_reckonChances_B9 x1 rc9 z.1 z.2
def m3_reckonChances (T : SX3) (a1 : Int32) : Option (SX3) :=
  tit (m3_reckonChances_L9 a1) FU ((1 : Int32), (s3_chances T (vp_updL (g3_chances T) (Int32.toNatClampNeg (0 : Int32)) (1 : Int64))))
def m3_chanceOn_J23 (T : SX3) (x1 : Int32) (x2 : Int32) (y1 : Int64) : Option (SX3) :=
  tbd (m3_power x1 x2) (fun r5 => some (s3_lower (s3_upper T y1) r5))
def m3_chanceOn (T : SX3) (a1 : Int32) (a2 : Int32) : Option (SX3) :=
  tbd (m3_reckonChances T a1) (fun r1 => tbd (m9_isRung a2) (fun r3 => (if r3 = 0 then m3_chanceOn_J23 r1 a1 a2 (0 : Int64)
  else tgd (tin a2 13) (m3_chanceOn_J23 r1 a1 a2 ((g3_chances r1) (Int32.toNatClampNeg a2))))))
def m3_meanStepsTo_J54 (T : SX3) (x1 : Int32) (x2 : Int32) : Option (SX3) :=
  tbd (m3_power x1 (x2 - (1 : Int32))) (fun r3 => some (s3_lower T r3))
def m3_meanStepsTo_B12 (x1 : Int32) (x2 : Int32) (rc12 : Int32 × SX3 → Option (SX3)) (x3 : Int32) (T : SX3) : Option (SX3) :=
  (if x2 ≤ x3 then m3_meanStepsTo_J54 T x1 x2
  else (if (12 : Int32) < x3 then m3_meanStepsTo_J54 T x1 x2
  else tgd (tin x3 13) (tbd (m3_power x1 ((x2 - (1 : Int32)) - x3)) (fun r5 => tnm (x3 + (1 : Int32)) (fun v7 => rc12 (v7, (s3_upper T ((g3_upper T) + (((g3_chances T) (Int32.toNatClampNeg x3)) * r5)))))))))
def m3_meanStepsTo_L12 (x1 : Int32) (x2 : Int32) (rc12 : Int32 × SX3 → Option (SX3)) (z : Int32 × SX3) : Option (SX3) := m3_meanStepsTo_B12 x1 x2 rc12 z.1 z.2
def m3_meanStepsTo (T : SX3) (a1 : Int32) (a2 : Int32) : Option (SX3) :=
  tbd (m3_reckonChances T a1) (fun r1 => tit (m3_meanStepsTo_L12 a1 a2) FU ((0 : Int32), (s3_upper r1 (0 : Int64))))
def m3_upperNumber (T : SX3) : Option (Int64) :=
  some (g3_upper T)
def m3_lowerNumber (T : SX3) : Option (Int64) :=
  some (g3_lower T)
def m4_begin (T : SX4) (Ob : SX1) (T_after : SX1) : Option (SX4 × SX1) :=
  tbd (m1_copyFrom T_after Ob) (fun r1 => some ((s4_why (s4_manUp (s4_actUp (s4_paid (s4_steps (s4_acts T (0 : Int32)) (0 : Int32)) (0 : Int32)) (-6 : Int32)) (-6 : Int32)) (0 : Int32)), r1))
def m5_signAt (T : SX5) (a1 : Int32) : Option (Int32) :=
  (if a1 < 0 then some (0 : Int32)
  else (if (g5_count T) ≤ a1 then some (0 : Int32)
  else (if (60 : Int32) ≤ a1 then some (0 : Int32)
  else tgd (tin a1 60) (tgd (tch ((g5_signs T) (Int32.toNatClampNeg a1))) (some ((g5_signs T) (Int32.toNatClampNeg a1)))))))
def m5_isManSign (a0 : Int32) : Option (Int32) :=
  (if a0 < (65 : Int32) then some (0 : Int32)
  else (if (70 : Int32) < a0 then some (0 : Int32)
  else some (1 : Int32)))
def m5_needsMore (a0 : Int32) : Option (Int32) :=
  tbd (m5_isManSign a0) (fun r1 => (if r1 = 0 then (if a0 = (107 : Int32) then some (1 : Int32)
  else (if a0 = (43 : Int32) then some (1 : Int32)
  else some (0 : Int32)))
  else some (1 : Int32)))
def m5_endOfAct_J44 (T : SX5) (x1 : Int32) : Option (Int32) :=
  some (x1 + (2 : Int32))
def m5_endOfAct (T : SX5) (a1 : Int32) : Option (Int32) :=
  tbd (m5_signAt T a1) (fun r1 => tbd (m5_needsMore r1) (fun r3 => (if r3 = 0 then some (a1 + (1 : Int32))
  else tbd (m5_signAt T (a1 + (1 : Int32))) (fun r5 => (if r5 = (37 : Int32) then tbd (m5_signAt T a1) (fun r7 => tbd (m5_isManSign r7) (fun r9 => (if r9 = 0 then m5_endOfAct_J44 T a1
  else some (a1 + (3 : Int32)))))
  else m5_endOfAct_J44 T a1)))))
def m5_isRungSign (a0 : Int32) : Option (Int32) :=
  (if a0 < (97 : Int32) then some (0 : Int32)
  else (if (108 : Int32) < a0 then some (0 : Int32)
  else some (1 : Int32)))
def m5_isEndOfLadder (a0 : Int32) : Option (Int32) :=
  (if a0 = (94 : Int32) then some (1 : Int32)
  else (if a0 = (95 : Int32) then some (1 : Int32)
  else some (0 : Int32)))
def m5_firstWrongSign_J80 (T : SX5) (x2 : Int32) : Option (Int32) :=
  some (x2 - (1 : Int32))
def m5_firstWrongSign_J43 (T : SX5) (x2 : Int32) (y0 : Int32) : Option (Int32) :=
  tbd (m5_signAt T (x2 - (1 : Int32))) (fun r7 => tbd (m5_isRungSign r7) (fun r9 => (if r9 = 0 then (if y0 = 0 then m5_firstWrongSign_J80 T x2
  else tbd (m5_isEndOfLadder r7) (fun r11 => (if r11 = 0 then m5_firstWrongSign_J80 T x2
  else some (-6 : Int32))))
  else some (-6 : Int32))))
def m5_firstWrongSign_J42 (T : SX5) (x2 : Int32) : Option (Int32) :=
  m5_firstWrongSign_J43 T x2 (0 : Int32)
def m5_firstWrongSign (T : SX5) (a1 : Int32) (a2 : Int32) : Option (Int32) :=
  tbd (m5_signAt T a1) (fun r1 => (if r1 = (46 : Int32) then some (-6 : Int32)
  else tbd (m5_needsMore r1) (fun r3 => (if r3 = 0 then some a1
  else tbd (m5_isManSign r1) (fun r5 => (if r5 = 0 then m5_firstWrongSign_J42 T a2
  else (if (a2 - a1) = (2 : Int32) then m5_firstWrongSign_J43 T a2 (1 : Int32)
  else m5_firstWrongSign_J42 T a2)))))))
def m5_firstFault_B4 (T : SX5) (rc4 : Int32 × Int32 → Option (Int32)) (x1 : Int32) (x2 : Int32) : Option (Int32) :=
  (if (60 : Int32) ≤ x2 then some (-6 : Int32)
  else (if (g5_count T) ≤ x1 then some (-6 : Int32)
  else tbd (m5_endOfAct T x1) (fun r1 => tbd (m5_firstWrongSign T x1 r1) (fun r3 => (if r3 = (-6 : Int32) then tnm (x2 + (1 : Int32)) (fun v5 => rc4 (r1, v5))
  else some r3)))))
def m5_firstFault_L4 (T : SX5) (rc4 : Int32 × Int32 → Option (Int32)) (z : Int32 × Int32) : Option (Int32) := m5_firstFault_B4 T rc4 z.1 z.2
def m5_firstFault (T : SX5) : Option (Int32) :=
  tit (m5_firstFault_L4 T) FU ((0 : Int32), (0 : Int32))
def m5_size (T : SX5) : Option (Int32) :=
  some (g5_count T)
def m5_placeOfSign (a0 : Int32) : Option (Int32) :=
  (if a0 = (94 : Int32) then some (13 : Int32)
  else tbd (m5_isRungSign a0) (fun r1 => (if r1 = 0 then some (0 : Int32)
  else some ((a0 - (97 : Int32)) + (1 : Int32)))))
def m5_read_J87 (T : SX5) (Od : SX0) (x4 : Int32) (x5 : Int32) (y0 : Int32) : Option (SX0) :=
  tbd (m5_placeOfSign x5) (fun r5 => tbd (m0_become Od y0 (x4 - (65 : Int32)) r5) (fun r7 => some r7))
def m5_read (T : SX5) (Od : SX0) (a1 : Int32) (a2 : Int32) : Option (SX0) :=
  tbd (m5_signAt T a1) (fun r1 => tbd (m5_signAt T (a2 - (1 : Int32))) (fun r3 => (if r1 = (46 : Int32) then tbd (m0_become Od (4 : Int32) (0 : Int32) (0 : Int32)) (fun r17 => some r17)
  else (if r1 = (107 : Int32) then tbd (m5_placeOfSign r3) (fun r13 => tbd (m0_become Od (2 : Int32) (0 : Int32) r13) (fun r15 => some r15))
  else (if r1 = (43 : Int32) then tbd (m5_placeOfSign r3) (fun r9 => tbd (m0_become Od (3 : Int32) (0 : Int32) r9) (fun r11 => some r11))
  else (if (a2 - a1) = (3 : Int32) then m5_read_J87 T Od r1 r3 (1 : Int32)
  else m5_read_J87 T Od r1 r3 (0 : Int32)))))))
def m4_count_J18 (T : SX4) (Ob : SX0) : Option (SX4) :=
  tbd (m0_kindOf Ob) (fun r3 => (if r3 = 0 then tbd (m0_target Ob) (fun r5 => (if r5 = (13 : Int32) then (if (g4_actUp T) = (-6 : Int32) then tbd (m0_doer Ob) (fun r7 => some (s4_manUp (s4_actUp (s4_steps T ((g4_steps T) + (1 : Int32))) (g4_acts T)) r7))
  else some (s4_steps T ((g4_steps T) + (1 : Int32))))
  else some (s4_steps T ((g4_steps T) + (1 : Int32)))))
  else some T))
def m4_count (T : SX4) (Ob : SX0) : Option (SX4) :=
  tbd (m0_kindOf Ob) (fun r1 => (if r1 = (1 : Int32) then m4_count_J18 (s4_paid T ((g4_paid T) + (1 : Int32))) Ob
  else m4_count_J18 T Ob))
def m4_attempt (T : SX4) (Ob : SX0) (T_after : SX1) : Option (Int32 × SX4 × SX1) :=
  tbd (m1_reasonAgainst T_after Ob) (fun r1 => (if r1 = 0 then tbd (m1_perform T_after Ob) (fun r3 => tbd (m4_count (s4_why T r1) Ob) (fun r5 => some ((1 : Int32), (s4_acts r5 ((g4_acts r5) + (1 : Int32))), r3)))
  else some ((0 : Int32), (s4_why T r1), T_after)))
def m4_burn_B21 (Ob : SX5) (Oc : SX1) (rc21 : Int32 × Int32 × SX4 × SX0 × SX1 → Option (Int32 × SX4 × SX0 × SX1)) (x3 : Int32) (x4 : Int32) (T : SX4) (T_act : SX0) (T_after : SX1) : Option (Int32 × SX4 × SX0 × SX1) :=
  (if (60 : Int32) ≤ x4 then some ((1 : Int32), T, T_act, T_after)
  else tbd (m5_size Ob) (fun r5 => (if r5 ≤ x3 then some ((1 : Int32), T, T_act, T_after)
  else tbd (m5_endOfAct Ob x3) (fun r7 => tbd (m5_read Ob T_act x3 r7) (fun r9 => tbd (m4_attempt T r9 T_after) (fun r11 => (if r11.1 = 0 then some ((0 : Int32), r11.2.1, r9, r11.2.2)
  else tnm (x4 + (1 : Int32)) (fun v13 => rc21 (r7, v13, r11.2.1, r9, r11.2.2)))))))))
def m4_burn_L21 (Ob : SX5) (Oc : SX1) (rc21 : Int32 × Int32 × SX4 × SX0 × SX1 → Option (Int32 × SX4 × SX0 × SX1)) (z : Int32 × Int32 × SX4 × SX0 × SX1) : Option (Int32 × SX4 × SX0 × SX1) := m4_burn_B21 Ob Oc rc21 z.1 z.2.1 z.2.2.1 z.2.2.2.1 z.2.2.2.2
def m4_burn (T : SX4) (Ob : SX5) (Oc : SX1) (T_act : SX0) (T_after : SX1) : Option (Int32 × SX4 × SX0 × SX1) :=
  tbd (m4_begin T Oc T_after) (fun r1 => tbd (m5_firstFault Ob) (fun r3 => (if r3 = (-6 : Int32) then tit (m4_burn_L21 Ob Oc) FU ((0 : Int32), (0 : Int32), r1.1, T_act, r1.2)
  else some ((0 : Int32), r1.1, T_act, r1.2))))
def m4_reason (T : SX4) : Option (Int32) :=
  some (g4_why T)
def m4_actsDone (T : SX4) : Option (Int32) :=
  some (g4_acts T)
def m4_stepsMade (T : SX4) : Option (Int32) :=
  some (g4_steps T)
def m4_coinsPaid (T : SX4) : Option (Int32) :=
  some (g4_paid T)
def m4_firstActUp (T : SX4) : Option (Int32) :=
  some (g4_actUp T)
def m4_firstManUp (T : SX4) : Option (Int32) :=
  some (g4_manUp T)
def m4_behindIt (T : SX4) : Option (Unit) :=
  some ()
def m5_add (T : SX5) (a1 : Int32) : Option (Int32 × SX5) :=
  (if (g5_count T) < 0 then some ((0 : Int32), T)
  else (if (g5_count T) < (60 : Int32) then tgd (tin (g5_count T) 60) (some ((1 : Int32), (s5_count (s5_signs T (upd (g5_signs T) (Int32.toNatClampNeg (g5_count T)) (vp_nar .char (i2c a1)))) ((g5_count T) + (1 : Int32)))))
  else some ((0 : Int32), T)))
def m5_clear (T : SX5) : Option (SX5) :=
  some (s5_count T (0 : Int32))
def j6_bitCount_0f7a4 (a0 : Int32) : Option (Int32) :=
  tnm (a0 - ((iushr a0 (1 : Int32)) &&& (1431655765 : Int32))) (fun v1 => tnm ((v1 &&& (858993459 : Int32)) + ((iushr v1 (2 : Int32)) &&& (858993459 : Int32))) (fun v2 => tnm ((v2 + (iushr v2 (4 : Int32))) &&& (252645135 : Int32)) (fun v3 => tnm (v3 + (iushr v3 (8 : Int32))) (fun v4 => tnm (v4 + (iushr v4 (16 : Int32))) (fun v5 => some (v5 &&& (63 : Int32)))))))
def m6_mostFrom_B34 (T : SX6) (x1 : Int32) (x2 : Int32) (x3 : Int32) (x4 : Int32) (x5 : Int32) (rc20 : Int32 × Int32 → Option (Int32)) (rc34 : Int32 × Int32 → Option (Int32)) (x6 : Int32) (x7 : Int32) : Option (Int32) :=
  (if (6 : Int32) ≤ x7 then tbd (j6_bitCount_0f7a4 x5) (fun r4 => tbd (j6_bitCount_0f7a4 x6) (fun r6 => tnm (imin x4 ((x3 - r4) + r6)) (fun v8 => tnm (x5 + (1 : Int32)) (fun v9 => rc20 (v8, v9)))))
  else (if ((x5 >>> ((x7 - x1) &&& 31)) &&& (1 : Int32)) = 0 then tnm (x7 + (1 : Int32)) (fun v10 => rc34 (x6, v10))
  else tgd (tin x7 6) (tnm (x6 ||| (((g6_open T) (Int32.toNatClampNeg x7)) &&& x2)) (fun v11 => tnm (x7 + (1 : Int32)) (fun v12 => rc34 (v11, v12))))))
def m6_mostFrom_L34 (T : SX6) (x1 : Int32) (x2 : Int32) (x3 : Int32) (x4 : Int32) (x5 : Int32) (rc20 : Int32 × Int32 → Option (Int32)) (rc34 : Int32 × Int32 → Option (Int32)) (z : Int32 × Int32) : Option (Int32) := m6_mostFrom_B34 T x1 x2 x3 x4 x5 rc20 rc34 z.1 z.2
def m6_mostFrom_B20 (T : SX6) (x1 : Int32) (x2 : Int32) (x3 : Int32) (rc20 : Int32 × Int32 → Option (Int32)) (x4 : Int32) (x5 : Int32) : Option (Int32) :=
  (if ((1 : Int32) <<< (x3 &&& 31)) ≤ x5 then some x4
  else tit (m6_mostFrom_L34 T x1 x2 x3 x4 x5 rc20) FU ((0 : Int32), x1))
def m6_mostFrom_L20 (T : SX6) (x1 : Int32) (x2 : Int32) (x3 : Int32) (rc20 : Int32 × Int32 → Option (Int32)) (z : Int32 × Int32) : Option (Int32) := m6_mostFrom_B20 T x1 x2 x3 rc20 z.1 z.2
def m6_mostFrom (T : SX6) (a1 : Int32) (a2 : Int32) : Option (Int32) :=
  tbd (m9_isMan a1) (fun r1 => (if r1 = 0 then some (0 : Int32)
  else tnm ((6 : Int32) - a1) (fun v3 => tit (m6_mostFrom_L20 T a1 a2 v3) FU (v3, (0 : Int32)))))
def m6_lowestPost_B20 (T : SX6) (x1 : Int32) (x2 : Int32) (x3 : Int32) (rc20 : Int32 → Option (Int32)) (x4 : Int32) : Option (Int32) :=
  (if (12 : Int32) < x4 then some (-6 : Int32)
  else tgd (tin x1 6) (tbd (m9_bitOf x4) (fun r5 => (if ((((g6_open T) (Int32.toNatClampNeg x1)) &&& x2) &&& r5) = 0 then tnm (x4 + (1 : Int32)) (fun v7 => rc20 v7)
  else tbd (m9_bitOf x4) (fun r8 => tbd (m6_mostFrom T (x1 + (1 : Int32)) (x2 &&& (r8 ^^^ (-1 : Int32)))) (fun r10 => (if ((1 : Int32) + r10) = x3 then some x4
  else tnm (x4 + (1 : Int32)) (fun v12 => rc20 v12))))))))
def m6_lowestPost_L20 (T : SX6) (x1 : Int32) (x2 : Int32) (x3 : Int32) (rc20 : Int32 → Option (Int32)) (z : Int32) : Option (Int32) := m6_lowestPost_B20 T x1 x2 x3 rc20 z
def m6_lowestPost (T : SX6) (a1 : Int32) (a2 : Int32) : Option (Int32) :=
  tbd (m9_isMan a1) (fun r1 => (if r1 = 0 then some (-6 : Int32)
  else tbd (m6_mostFrom T a1 a2) (fun r3 => tit (m6_lowestPost_L20 T a1 a2 r3) FU (1 : Int32))))
def m6_assign_B43 (Ob : SX1) (rc43 : Int32 × Int32 × SX6 → Option (SX6)) (x2 : Int32) (x3 : Int32) (T : SX6) : Option (SX6) :=
  (if (6 : Int32) ≤ x3 then some T
  else tbd (m6_lowestPost T x3 x2) (fun r3 => tgd (tin x3 6) (tgd (tin x3 6) (tbd (m9_bitOf ((upd (g6_post T) (Int32.toNatClampNeg x3) r3) (Int32.toNatClampNeg x3))) (fun r5 => tnm (x2 &&& (r5 ^^^ (-1 : Int32))) (fun v7 => tnm (x3 + (1 : Int32)) (fun v8 => rc43 (v7, v8, (s6_post T (upd (g6_post T) (Int32.toNatClampNeg x3) r3))))))))))
def m6_assign_L43 (Ob : SX1) (rc43 : Int32 × Int32 × SX6 → Option (SX6)) (z : Int32 × Int32 × SX6) : Option (SX6) := m6_assign_B43 Ob rc43 z.1 z.2.1 z.2.2
def m6_assign_B2 (Ob : SX1) (rc2 : Int32 × SX6 → Option (SX6)) (x2 : Int32) (T : SX6) : Option (SX6) :=
  (if (6 : Int32) ≤ x2 then tbd (m6_mostFrom T (0 : Int32) (4095 : Int32)) (fun r1 => tit (m6_assign_L43 Ob) FU ((4095 : Int32), (0 : Int32), (s6_posted T r1)))
  else tbd (m1_rungsOpenTo Ob x2) (fun r9 => tgd (tin x2 6) (tnm (x2 + (1 : Int32)) (fun v11 => rc2 (v11, (s6_open T (upd (g6_open T) (Int32.toNatClampNeg x2) r9)))))))
def m6_assign_L2 (Ob : SX1) (rc2 : Int32 × SX6 → Option (SX6)) (z : Int32 × SX6) : Option (SX6) := m6_assign_B2 Ob rc2 z.1 z.2
def m6_assign (T : SX6) (Ob : SX1) : Option (SX6) :=
  tit (m6_assign_L2 Ob) FU ((0 : Int32), T)
def m6_menPosted (T : SX6) : Option (Int32) :=
  some (g6_posted T)
def m6_rungOf (T : SX6) (a1 : Int32) : Option (Int32) :=
  tbd (m9_isMan a1) (fun r1 => (if r1 = 0 then some (-6 : Int32)
  else tgd (tin a1 6) (some ((g6_post T) (Int32.toNatClampNeg a1)))))
def m7_isOpen (a0 : Int32) (a1 : Int32) : Option (Int32) :=
  (if ((a0 >>> ((a1 - (1 : Int32)) &&& 31)) &&& (1 : Int32)) = 0 then some (0 : Int32)
  else some (1 : Int32))
def m9_isPlace (a0 : Int32) : Option (Int32) :=
  (if a0 < 0 then some (0 : Int32)
  else (if (13 : Int32) < a0 then some (0 : Int32)
  else some (1 : Int32)))
def m7_settledAt (T : SX7) (a1 : Int32) : Option (Int32) :=
  tbd (m9_isPlace a1) (fun r1 => (if r1 = 0 then some (1000000 : Int32)
  else tgd (tin a1 14) (some ((g7_settled T) (Int32.toNatClampNeg a1)))))
def m7_settleSteps_B56 (T : SX7) (Ob : SX1) (x3 : Int32) (x4 : Int32) (x5 : Int32) (x7 : Int32) (rc29 : Int32 × SX7 → Option (SX7)) (rc56 : Int32 × Int32 → Option (SX7)) (x6 : Int32) (x8 : Int32) : Option (SX7) :=
  (if x7 < x8 then tgd (tin x5 14) (tnm (x5 + (-1 : Int32)) (fun v8 => rc29 (v8, (s7_settled T (upd (g7_settled T) (Int32.toNatClampNeg x5) x6)))))
  else tbd (m7_isOpen x3 x8) (fun r9 => (if r9 = 0 then tnm (x8 + (1 : Int32)) (fun v11 => rc56 (x6, v11))
  else tbd (m7_settledAt T x8) (fun r12 => tnm (imin x6 (r12 + (1 : Int32))) (fun v14 => tnm (x8 + (1 : Int32)) (fun v15 => rc56 (v14, v15)))))))
def m7_settleSteps_L56 (T : SX7) (Ob : SX1) (x3 : Int32) (x4 : Int32) (x5 : Int32) (x7 : Int32) (rc29 : Int32 × SX7 → Option (SX7)) (rc56 : Int32 × Int32 → Option (SX7)) (z : Int32 × Int32) : Option (SX7) := m7_settleSteps_B56 T Ob x3 x4 x5 x7 rc29 rc56 z.1 z.2
def m7_settleSteps_B29 (Ob : SX1) (x3 : Int32) (x4 : Int32) (rc29 : Int32 × SX7 → Option (SX7)) (x5 : Int32) (T : SX7) : Option (SX7) :=
  (if x5 < 0 then some T
  else tnm (imin (x5 + x4) (13 : Int32)) (fun v6 => tnm (x5 + (1 : Int32)) (fun v7 => tit (m7_settleSteps_L56 T Ob x3 x4 x5 v6 rc29) FU ((1000000 : Int32), v7))))
def m7_settleSteps_L29 (Ob : SX1) (x3 : Int32) (x4 : Int32) (rc29 : Int32 × SX7 → Option (SX7)) (z : Int32 × SX7) : Option (SX7) := m7_settleSteps_B29 Ob x3 x4 rc29 z.1 z.2
def m7_settleSteps (T : SX7) (Ob : SX1) (a2 : Int32) : Option (SX7) :=
  tbd (m1_rungsOpenTo Ob a2) (fun r1 => tnm (r1 ||| (4096 : Int32)) (fun v3 => tbd (m1_strideOf Ob a2) (fun r4 => tit (m7_settleSteps_L29 Ob v3 r4) FU ((12 : Int32), (s7_settled T (upd (g7_settled T) (Int32.toNatClampNeg (13 : Int32)) (0 : Int32)))))))
def m7_fewestSteps (T : SX7) (Ob : SX1) (a2 : Int32) : Option (Int32 × SX7) :=
  tbd (m7_settleSteps T Ob a2) (fun r1 => tbd (m1_placeOf Ob a2) (fun r3 => tbd (m7_settledAt r1 r3) (fun r5 => (if r5 < (1000000 : Int32) then some (r5, r1)
  else some ((-6 : Int32), r1)))))
def m7_firstStep_B62 (T : SX7) (Ob : SX1) (x3 : Int32) (x5 : Int32) (x6 : Int32) (rc62 : Int32 → Option (Int32 × SX7)) (x7 : Int32) : Option (Int32 × SX7) :=
  (if x6 < x7 then some ((-6 : Int32), T)
  else tbd (m7_isOpen x3 x7) (fun r14 => (if r14 = 0 then tnm (x7 + (1 : Int32)) (fun v16 => rc62 v16)
  else tbd (m7_settledAt T x7) (fun r17 => (if r17 = (x5 - (1 : Int32)) then some (x7, T)
  else tnm (x7 + (1 : Int32)) (fun v19 => rc62 v19))))))
def m7_firstStep_L62 (T : SX7) (Ob : SX1) (x3 : Int32) (x5 : Int32) (x6 : Int32) (rc62 : Int32 → Option (Int32 × SX7)) (z : Int32) : Option (Int32 × SX7) := m7_firstStep_B62 T Ob x3 x5 x6 rc62 z
def m7_firstStep (T : SX7) (Ob : SX1) (a2 : Int32) : Option (Int32 × SX7) :=
  tbd (m7_settleSteps T Ob a2) (fun r1 => tbd (m1_rungsOpenTo Ob a2) (fun r3 => tnm (r3 ||| (4096 : Int32)) (fun v5 => tbd (m1_placeOf Ob a2) (fun r6 => tbd (m7_settledAt r1 r6) (fun r8 => (if r8 < (1000000 : Int32) then tbd (m1_strideOf Ob a2) (fun r10 => tnm (imin (r6 + r10) (13 : Int32)) (fun v12 => tnm (r6 + (1 : Int32)) (fun v13 => tit (m7_firstStep_L62 r1 Ob v5 r8 v12) FU v13)))
  else some ((-6 : Int32), r1)))))))
def m7_countUp_B55 (T : SX7) (Ob : SX1) (x2 : Int32) (x3 : Int32) (x4 : Int32) (x5 : Int32) (x7 : Int32) (rc29 : Int32 × SX7 → Option (Int32 × SX7)) (rc55 : Int32 × Int32 → Option (Int32 × SX7)) (x6 : Int32) (x8 : Int32) : Option (Int32 × SX7) :=
  (if x7 < x8 then tgd (tin x5 14) (tnm (x5 + (-1 : Int32)) (fun v12 => rc29 (v12, (s7_settled T (upd (g7_settled T) (Int32.toNatClampNeg x5) x6)))))
  else tbd (m7_isOpen x3 x8) (fun r13 => (if r13 = 0 then tnm (x8 + (1 : Int32)) (fun v15 => rc55 (x6, v15))
  else tbd (m7_settledAt T x8) (fun r16 => tnm (x6 + r16) (fun v18 => tnm (x8 + (1 : Int32)) (fun v19 => rc55 (v18, v19)))))))
def m7_countUp_L55 (T : SX7) (Ob : SX1) (x2 : Int32) (x3 : Int32) (x4 : Int32) (x5 : Int32) (x7 : Int32) (rc29 : Int32 × SX7 → Option (Int32 × SX7)) (rc55 : Int32 × Int32 → Option (Int32 × SX7)) (z : Int32 × Int32) : Option (Int32 × SX7) := m7_countUp_B55 T Ob x2 x3 x4 x5 x7 rc29 rc55 z.1 z.2
def m7_countUp_B29 (Ob : SX1) (x2 : Int32) (x3 : Int32) (x4 : Int32) (rc29 : Int32 × SX7 → Option (Int32 × SX7)) (x5 : Int32) (T : SX7) : Option (Int32 × SX7) :=
  (if x5 < 0 then tbd (m1_placeOf Ob x2) (fun r6 => tbd (m7_settledAt T r6) (fun r8 => some (r8, T)))
  else tnm (imin (x5 + x4) (13 : Int32)) (fun v10 => tnm (x5 + (1 : Int32)) (fun v11 => tit (m7_countUp_L55 T Ob x2 x3 x4 x5 v10 rc29) FU ((0 : Int32), v11))))
def m7_countUp_L29 (Ob : SX1) (x2 : Int32) (x3 : Int32) (x4 : Int32) (rc29 : Int32 × SX7 → Option (Int32 × SX7)) (z : Int32 × SX7) : Option (Int32 × SX7) := m7_countUp_B29 Ob x2 x3 x4 rc29 z.1 z.2
def m7_countUp (T : SX7) (Ob : SX1) (a2 : Int32) : Option (Int32 × SX7) :=
  tbd (m1_rungsOpenTo Ob a2) (fun r1 => tnm (r1 ||| (4096 : Int32)) (fun v3 => tbd (m1_strideOf Ob a2) (fun r4 => tit (m7_countUp_L29 Ob a2 v3 r4) FU ((12 : Int32), (s7_settled T (upd (g7_settled T) (Int32.toNatClampNeg (13 : Int32)) (1 : Int32)))))))
def m7_leaseCost_B62 (T : SX7) (Ob : SX1) (x2 : Int32) (x3 : Int32) (x4 : Int32) (x5 : Int32) (x6 : Int32) (x8 : Int32) (rc35 : Int32 × SX7 → Option (Int32 × SX7)) (rc62 : Int32 × Int32 → Option (Int32 × SX7)) (x7 : Int32) (x9 : Int32) : Option (Int32 × SX7) :=
  (if x8 < x9 then tgd (tin x6 14) (tnm (x6 + (-1 : Int32)) (fun v14 => rc35 (v14, (s7_settled T (upd (g7_settled T) (Int32.toNatClampNeg x6) x7)))))
  else tbd (m7_isOpen x3 x9) (fun r15 => (if r15 = 0 then tbd (m7_isOpen x4 x9) (fun r17 => (if r17 = 0 then tnm (x9 + (1 : Int32)) (fun v19 => rc62 (x7, v19))
  else tbd (m7_settledAt T x9) (fun r20 => tbd (m9_bitOf x9) (fun r22 => tnm (imin x7 ((r20 + (4096 : Int32)) + r22)) (fun v24 => tnm (x9 + (1 : Int32)) (fun v25 => rc62 (v24, v25)))))))
  else tbd (m7_settledAt T x9) (fun r26 => tnm (imin x7 r26) (fun v28 => tnm (x9 + (1 : Int32)) (fun v29 => rc62 (v28, v29)))))))
def m7_leaseCost_L62 (T : SX7) (Ob : SX1) (x2 : Int32) (x3 : Int32) (x4 : Int32) (x5 : Int32) (x6 : Int32) (x8 : Int32) (rc35 : Int32 × SX7 → Option (Int32 × SX7)) (rc62 : Int32 × Int32 → Option (Int32 × SX7)) (z : Int32 × Int32) : Option (Int32 × SX7) := m7_leaseCost_B62 T Ob x2 x3 x4 x5 x6 x8 rc35 rc62 z.1 z.2
def m7_leaseCost_B35 (Ob : SX1) (x2 : Int32) (x3 : Int32) (x4 : Int32) (x5 : Int32) (rc35 : Int32 × SX7 → Option (Int32 × SX7)) (x6 : Int32) (T : SX7) : Option (Int32 × SX7) :=
  (if x6 < 0 then tbd (m1_placeOf Ob x2) (fun r8 => tbd (m7_settledAt T r8) (fun r10 => some (r10, T)))
  else tnm (imin (x6 + x5) (13 : Int32)) (fun v12 => tnm (x6 + (1 : Int32)) (fun v13 => tit (m7_leaseCost_L62 T Ob x2 x3 x4 x5 x6 v12 rc35) FU ((1000000 : Int32), v13))))
def m7_leaseCost_L35 (Ob : SX1) (x2 : Int32) (x3 : Int32) (x4 : Int32) (x5 : Int32) (rc35 : Int32 × SX7 → Option (Int32 × SX7)) (z : Int32 × SX7) : Option (Int32 × SX7) := m7_leaseCost_B35 Ob x2 x3 x4 x5 rc35 z.1 z.2
def m7_leaseCost (T : SX7) (Ob : SX1) (a2 : Int32) : Option (Int32 × SX7) :=
  tbd (m1_rungsOpenTo Ob a2) (fun r1 => tnm (r1 ||| (4096 : Int32)) (fun v3 => tbd (m1_rungsToLease Ob) (fun r4 => tbd (m1_strideOf Ob a2) (fun r6 => tit (m7_leaseCost_L35 Ob a2 v3 r4 r6) FU ((12 : Int32), (s7_settled T (upd (g7_settled T) (Int32.toNatClampNeg (13 : Int32)) (0 : Int32))))))))
def m7_fewestLeases (T : SX7) (Ob : SX1) (a2 : Int32) : Option (Int32 × SX7) :=
  tbd (m7_leaseCost T Ob a2) (fun r1 => tnm r1.1 (fun v3 => (if v3 < (1000000 : Int32) then some ((v3 / (4096 : Int32)), r1.2)
  else some ((-6 : Int32), r1.2))))
def m7_leastLeased (T : SX7) (Ob : SX1) (a2 : Int32) : Option (Int32 × SX7) :=
  tbd (m7_leaseCost T Ob a2) (fun r1 => tnm r1.1 (fun v3 => (if v3 < (1000000 : Int32) then some ((irem v3 (4096 : Int32)), r1.2)
  else some ((-6 : Int32), r1.2))))
def m8_nextPlace_J34 (Oa : SX1) (x1 : Int32) (x2 : Int32) (x3 : Int32) (x4 : Int32) (x5 : Int32) (y0 : Int32) (y1 : Int32) (rc10 : Int32 → Option (Int32)) : Option (Int32) :=
  tnm (y0 + y1) (fun v3 => (if v3 = (13 : Int32) then some v3
  else tbd (m1_mayBeOn Oa x1 v3) (fun r4 => (if r4 = 0 then tnm (x5 + (1 : Int32)) (fun v6 => rc10 v6)
  else some v3))))
def m8_nextPlace_B10 (Oa : SX1) (x1 : Int32) (x2 : Int32) (x3 : Int32) (x4 : Int32) (rc10 : Int32 → Option (Int32)) (x5 : Int32) : Option (Int32) :=
  (if x4 < x5 then some x3
  else (if x2 = 0 then m8_nextPlace_J34 Oa x1 x2 x3 x4 x5 x3 ((x4 + (1 : Int32)) - x5) rc10
  else m8_nextPlace_J34 Oa x1 x2 x3 x4 x5 x3 x5 rc10))
def m8_nextPlace_L10 (Oa : SX1) (x1 : Int32) (x2 : Int32) (x3 : Int32) (x4 : Int32) (rc10 : Int32 → Option (Int32)) (z : Int32) : Option (Int32) := m8_nextPlace_B10 Oa x1 x2 x3 x4 rc10 z
def m8_nextPlace (Oa : SX1) (a1 : Int32) (a2 : Int32) (a3 : Int32) : Option (Int32) :=
  tbd (m1_strideOf Oa a1) (fun r1 => tit (m8_nextPlace_L10 Oa a1 a2 a3 r1) FU (1 : Int32))
def m8_trailOf_B8 (Oa : SX1) (x1 : Int32) (x2 : Int32) (rc8 : Int32 × Int32 × Int32 → Option (Int32)) (x3 : Int32) (x4 : Int32) (x5 : Int32) : Option (Int32) :=
  (if (13 : Int32) ≤ x5 then some x3
  else (if (13 : Int32) ≤ x4 then some x3
  else tbd (m8_nextPlace Oa x1 x2 x4) (fun r1 => (if r1 = x4 then some x3
  else tbd (m9_bitOf r1) (fun r3 => tnm (x3 ||| r3) (fun v5 => tnm (x5 + (1 : Int32)) (fun v6 => rc8 (v5, r1, v6))))))))
def m8_trailOf_L8 (Oa : SX1) (x1 : Int32) (x2 : Int32) (rc8 : Int32 × Int32 × Int32 → Option (Int32)) (z : Int32 × Int32 × Int32) : Option (Int32) := m8_trailOf_B8 Oa x1 x2 rc8 z.1 z.2.1 z.2.2
def m8_trailOf (Oa : SX1) (a1 : Int32) (a2 : Int32) : Option (Int32) :=
  tit (m8_trailOf_L8 Oa a1 a2) FU ((0 : Int32), (0 : Int32), (0 : Int32))
def m8_find_B15 (Ob : SX1) (x2 : Int32) (rc7 : Int32 × SX8 → Option (SX8)) (rc15 : Int32 × SX8 → Option (SX8)) (x3 : Int32) (T : SX8) : Option (SX8) :=
  (if (1 : Int32) < x3 then tnm (x2 + (1 : Int32)) (fun v1 => rc7 (v1, T))
  else tbd (m8_trailOf Ob x2 x3) (fun r2 => tbd (m1_sightsFit Ob r2) (fun r4 => (if r4 = 0 then tnm (x3 + (1 : Int32)) (fun v6 => rc15 (v6, T))
  else (if (g8_count T) < 0 then tnm (x3 + (1 : Int32)) (fun v7 => rc15 (v7, T))
  else (if (12 : Int32) ≤ (g8_count T) then tnm (x3 + (1 : Int32)) (fun v8 => rc15 (v8, T))
  else tgd (tin (g8_count T) 12) (tgd (tin (g8_count T) 12) (tnm (x3 + (1 : Int32)) (fun v9 => rc15 (v9, (s8_count (s8_wetRungs (s8_codes T (upd (g8_codes T) (Int32.toNatClampNeg (g8_count T)) (((10 : Int32) * x2) + x3))) (upd (g8_wetRungs T) (Int32.toNatClampNeg (g8_count T)) r2)) ((g8_count T) + (1 : Int32)))))))))))))
def m8_find_L15 (Ob : SX1) (x2 : Int32) (rc7 : Int32 × SX8 → Option (SX8)) (rc15 : Int32 × SX8 → Option (SX8)) (z : Int32 × SX8) : Option (SX8) := m8_find_B15 Ob x2 rc7 rc15 z.1 z.2
def m8_find_B7 (Ob : SX1) (rc7 : Int32 × SX8 → Option (SX8)) (x2 : Int32) (T : SX8) : Option (SX8) :=
  (if (6 : Int32) ≤ x2 then some T
  else tit (m8_find_L15 Ob x2 rc7) FU ((0 : Int32), T))
def m8_find_L7 (Ob : SX1) (rc7 : Int32 × SX8 → Option (SX8)) (z : Int32 × SX8) : Option (SX8) := m8_find_B7 Ob rc7 z.1 z.2
def m8_find (T : SX8) (Ob : SX1) : Option (SX8) :=
  tit (m8_find_L7 Ob) FU ((0 : Int32), (s8_count T (0 : Int32)))
def m8_size (T : SX8) : Option (Int32) :=
  some (g8_count T)
def m8_codeAt (T : SX8) (a1 : Int32) : Option (Int32) :=
  (if a1 < 0 then some (-6 : Int32)
  else (if (g8_count T) ≤ a1 then some (-6 : Int32)
  else (if (12 : Int32) ≤ a1 then some (-6 : Int32)
  else tgd (tin a1 12) (some ((g8_codes T) (Int32.toNatClampNeg a1))))))
def m8_mostLeftBy_J41 (T : SX8) (x2 : Int32) : Option (Int32) :=
  some (imax x2 ((g8_count T) - x2))
def m8_mostLeftBy_B4 (T : SX8) (x1 : Int32) (rc4 : Int32 × Int32 → Option (Int32)) (x2 : Int32) (x3 : Int32) : Option (Int32) :=
  (if (g8_count T) ≤ x3 then m8_mostLeftBy_J41 T x2
  else (if (12 : Int32) ≤ x3 then m8_mostLeftBy_J41 T x2
  else tgd (tin x3 12) (tbd (m9_bitOf x1) (fun r1 => (if (((g8_wetRungs T) (Int32.toNatClampNeg x3)) &&& r1) = 0 then tnm (x3 + (1 : Int32)) (fun v3 => rc4 (x2, v3))
  else tnm (x2 + (1 : Int32)) (fun v4 => tnm (x3 + (1 : Int32)) (fun v5 => rc4 (v4, v5))))))))
def m8_mostLeftBy_L4 (T : SX8) (x1 : Int32) (rc4 : Int32 × Int32 → Option (Int32)) (z : Int32 × Int32) : Option (Int32) := m8_mostLeftBy_B4 T x1 rc4 z.1 z.2
def m8_mostLeftBy (T : SX8) (a1 : Int32) : Option (Int32) :=
  tit (m8_mostLeftBy_L4 T a1) FU ((0 : Int32), (0 : Int32))
def m8_rungToFeel_B4 (T : SX8) (rc4 : Int32 × Int32 → Option (Int32)) (x1 : Int32) (x2 : Int32) : Option (Int32) :=
  (if (12 : Int32) < x2 then some x1
  else tbd (m8_mostLeftBy T x2) (fun r1 => tbd (m8_mostLeftBy T x1) (fun r3 => (if r3 ≤ r1 then tnm (x2 + (1 : Int32)) (fun v5 => rc4 (x1, v5))
  else tnm (x2 + (1 : Int32)) (fun v6 => rc4 (x2, v6))))))
def m8_rungToFeel_L4 (T : SX8) (rc4 : Int32 × Int32 → Option (Int32)) (z : Int32 × Int32) : Option (Int32) := m8_rungToFeel_B4 T rc4 z.1 z.2
def m8_rungToFeel (T : SX8) : Option (Int32) :=
  tit (m8_rungToFeel_L4 T) FU ((1 : Int32), (2 : Int32))
def m9_isManOrNobody (a0 : Int32) : Option (Int32) :=
  (if a0 = (-1 : Int32) then some (1 : Int32)
  else tbd (m9_isMan a0) (fun r1 => (if r1 = 0 then some (0 : Int32)
  else some (1 : Int32))))
def m9_within (a0 : Int32) (a1 : Int32) (a2 : Int32) : Option (Int32) :=
  (if a0 < a1 then some (0 : Int32)
  else (if a2 < a0 then some (0 : Int32)
  else some (1 : Int32)))
def m9_rightsFit (a0 : Int32) (a1 : Int32) (a2 : Int32) : Option (Int32) :=
  tbd (m9_within a2 (0 : Int32) (1 : Int32)) (fun r1 => (if r1 = 0 then some (0 : Int32)
  else (if a2 = (1 : Int32) then (if a0 = (-1 : Int32) then (if a1 = (-1 : Int32) then some (1 : Int32)
  else some (0 : Int32))
  else some (0 : Int32))
  else (if a1 = (-1 : Int32) then some (1 : Int32)
  else (if a0 = (-1 : Int32) then some (0 : Int32)
  else (if a0 = a1 then some (0 : Int32)
  else some (1 : Int32)))))))
def m9_orNone (a0 : Int32) : Option (Int32) :=
  (if a0 = (-1 : Int32) then some (-6 : Int32)
  else some a0)
def m9_rung_J64 (T : SX9) (T_brigade : SX1) (x5 : Int32) (y1 : Int32) (y2 : Int32) (y3 : Int32) (y4 : Int32) : Option (Int32 × SX1) :=
  tbd (m1_setRung T_brigade y1 y2 y3 y4) (fun r11 => tbd (m9_orNone x5) (fun r13 => some (r13, r11)))
def m9_rung (T : SX9) (T_brigade : SX1) (a1 : Int32) (a2 : Int32) (a3 : Int32) (a4 : Int32) : Option (Int32 × SX1) :=
  tbd (m9_isRung a1) (fun r1 => (if r1 = 0 then some ((-1 : Int32), T_brigade)
  else tbd (m9_isManOrNobody a2) (fun r3 => (if r3 = 0 then some ((-1 : Int32), T_brigade)
  else tbd (m9_isManOrNobody a3) (fun r5 => (if r5 = 0 then some ((-1 : Int32), T_brigade)
  else tbd (m9_rightsFit a2 a3 a4) (fun r7 => (if r7 = 0 then some ((-2 : Int32), T_brigade)
  else tbd (m1_ownerOf T_brigade a1) (fun r9 => (if a4 = (1 : Int32) then m9_rung_J64 T T_brigade r9 a1 a2 a3 (1 : Int32)
  else m9_rung_J64 T T_brigade r9 a1 a2 a3 (0 : Int32)))))))))))
def m9_man (T : SX9) (T_brigade : SX1) (a1 : Int32) (a2 : Int32) (a3 : Int32) (a4 : Int32) : Option (Int32 × SX1) :=
  tbd (m9_isMan a1) (fun r1 => (if r1 = 0 then some ((-1 : Int32), T_brigade)
  else tbd (m9_within a2 (1 : Int32) (4 : Int32)) (fun r3 => (if r3 = 0 then some ((-2 : Int32), T_brigade)
  else tbd (m9_within a3 (0 : Int32) (99 : Int32)) (fun r5 => (if r5 = 0 then some ((-2 : Int32), T_brigade)
  else tbd (m9_isPlace a4) (fun r7 => (if r7 = 0 then some ((-2 : Int32), T_brigade)
  else tbd (m1_placeOf T_brigade a1) (fun r9 => tbd (m1_coinsOf T_brigade a1) (fun r11 => tnm (((100 : Int32) * r9) + r11) (fun v13 => tbd (m1_setMan T_brigade a1 a2 a3 a4) (fun r14 => some (v13, r14)))))))))))))
def m9_say (T : SX9) (T_pad : SX5) (a1 : Int32) : Option (Int32 × SX5) :=
  tbd (m9_within a1 (33 : Int32) (126 : Int32)) (fun r1 => (if r1 = 0 then some ((-2 : Int32), T_pad)
  else tbd (m5_add T_pad a1) (fun r3 => (if r3.1 = 0 then some ((-4 : Int32), r3.2)
  else tbd (m5_size r3.2) (fun r5 => some (r5, r3.2))))))
def m9_wipe (T : SX9) (T_pad : SX5) : Option (Int32 × SX5) :=
  tbd (m5_size T_pad) (fun r1 => tbd (m5_clear T_pad) (fun r3 => some (r1, r3)))
def m9_fault (T : SX9) (T_pad : SX5) : Option (Int32) :=
  tbd (m5_firstFault T_pad) (fun r1 => some r1)
def m9_judge (T : SX9) (T_brigade : SX1) (T_fire : SX4) (T_fire_act : SX0) (T_fire_after : SX1) (T_pad : SX5) (a1 : Int32) : Option (Int32 × SX4 × SX0 × SX1) :=
  tbd (m9_within a1 (0 : Int32) (1 : Int32)) (fun r1 => (if r1 = 0 then some ((-2 : Int32), T_fire, T_fire_act, T_fire_after)
  else tbd (m5_firstFault T_pad) (fun r3 => (if r3 = (-6 : Int32) then tbd (m4_burn T_fire T_pad T_brigade T_fire_act T_fire_after) (fun r5 => (if r5.1 = 0 then (if a1 = 0 then tbd (m4_actsDone r5.2.1) (fun r9 => some (r9, r5.2.1, r5.2.2.1, r5.2.2.2))
  else tbd (m4_reason r5.2.1) (fun r7 => some (r7, r5.2.1, r5.2.2.1, r5.2.2.2)))
  else some ((-6 : Int32), r5.2.1, r5.2.2.1, r5.2.2.2)))
  else some ((-5 : Int32), T_fire, T_fire_act, T_fire_after)))))
def m9_done (T : SX9) (T_brigade : SX1) (T_fire : SX4) (T_fire_act : SX0) (T_fire_after : SX1) (T_pad : SX5) : Option (Int32 × SX1 × SX4 × SX0 × SX1 × SX5) :=
  tbd (m4_burn T_fire T_pad T_brigade T_fire_act T_fire_after) (fun r1 => (if r1.1 = 0 then some ((-5 : Int32), T_brigade, r1.2.1, r1.2.2.1, r1.2.2.2, T_pad)
  else tbd (m4_behindIt r1.2.1) (fun r3 => tbd (m1_copyFrom T_brigade r1.2.2.2) (fun r5 => tbd (m5_clear T_pad) (fun r7 => tbd (m4_actsDone r1.2.1) (fun r9 => some (r9, r5, r1.2.1, r1.2.2.1, r1.2.2.2, r7)))))))
def m9_behind (T : SX9) (T_brigade : SX1) (T_fire : SX4) (T_fire_act : SX0) (T_fire_after : SX1) (T_pad : SX5) (a1 : Int32) (a2 : Int32) : Option (Int32 × SX4 × SX0 × SX1) :=
  tbd (m9_isMan a1) (fun r1 => (if r1 = 0 then some ((-1 : Int32), T_fire, T_fire_act, T_fire_after)
  else tbd (m9_within a2 (0 : Int32) (3 : Int32)) (fun r3 => (if r3 = 0 then some ((-2 : Int32), T_fire, T_fire_act, T_fire_after)
  else tbd (m4_burn T_fire T_pad T_brigade T_fire_act T_fire_after) (fun r5 => (if r5.1 = 0 then some ((-5 : Int32), r5.2.1, r5.2.2.1, r5.2.2.2)
  else tbd (m4_behindIt r5.2.1) (fun r7 => (if a2 = 0 then tbd (m1_placeOf r5.2.2.2 a1) (fun r9 => some (r9, r5.2.1, r5.2.2.1, r5.2.2.2))
  else (if a2 = 1 then tbd (m1_coinsOf r5.2.2.2 a1) (fun r11 => some (r11, r5.2.1, r5.2.2.1, r5.2.2.2))
  else (if a2 = 2 then tbd (m1_rungsOpenTo r5.2.2.2 a1) (fun r13 => some (r13, r5.2.1, r5.2.2.1, r5.2.2.2))
  else tbd (m1_hasStepped r5.2.2.2 a1) (fun r15 => (if r15 = 0 then some ((0 : Int32), r5.2.1, r5.2.2.1, r5.2.2.2)
  else some ((1 : Int32), r5.2.1, r5.2.2.1, r5.2.2.2)))))))))))))
def m9_bears (T : SX9) (T_brigade : SX1) (T_fire : SX4) (T_fire_act : SX0) (T_fire_after : SX1) (T_pad : SX5) (a1 : Int32) (a2 : Int32) : Option (Int32 × SX4 × SX0 × SX1) :=
  tbd (m9_isRung a1) (fun r1 => (if r1 = 0 then some ((-1 : Int32), T_fire, T_fire_act, T_fire_after)
  else tbd (m9_within a2 (0 : Int32) (3 : Int32)) (fun r3 => (if r3 = 0 then some ((-2 : Int32), T_fire, T_fire_act, T_fire_after)
  else tbd (m4_burn T_fire T_pad T_brigade T_fire_act T_fire_after) (fun r5 => (if r5.1 = 0 then some ((-5 : Int32), r5.2.1, r5.2.2.1, r5.2.2.2)
  else tbd (m4_behindIt r5.2.1) (fun r7 => (if a2 = 0 then tbd (m1_ownerOf r5.2.2.2 a1) (fun r9 => tbd (m9_orNone r9) (fun r11 => some (r11, r5.2.1, r5.2.2.1, r5.2.2.2)))
  else (if a2 = 1 then tbd (m1_leaserOf r5.2.2.2 a1) (fun r13 => tbd (m9_orNone r13) (fun r15 => some (r15, r5.2.1, r5.2.2.1, r5.2.2.2)))
  else (if a2 = 2 then tbd (m1_firstManOn r5.2.2.2 a1) (fun r17 => tbd (m9_orNone r17) (fun r19 => some (r19, r5.2.1, r5.2.2.1, r5.2.2.2)))
  else tbd (m1_isMissing r5.2.2.2 a1) (fun r21 => (if r21 = 0 then some ((0 : Int32), r5.2.1, r5.2.2.1, r5.2.2.2)
  else some ((1 : Int32), r5.2.1, r5.2.2.1, r5.2.2.2)))))))))))))
def m9_then (T : SX9) (T_brigade : SX1) (T_fire : SX4) (T_fire_act : SX0) (T_fire_after : SX1) (T_pad : SX5) (a1 : Int32) : Option (Int32 × SX4 × SX0 × SX1) :=
  tbd (m9_within a1 (0 : Int32) (5 : Int32)) (fun r1 => (if r1 = 0 then some ((-2 : Int32), T_fire, T_fire_act, T_fire_after)
  else tbd (m4_burn T_fire T_pad T_brigade T_fire_act T_fire_after) (fun r3 => (if r3.1 = 0 then some ((-5 : Int32), r3.2.1, r3.2.2.1, r3.2.2.2)
  else (if a1 = 0 then tbd (m4_behindIt r3.2.1) (fun r5 => tbd (m1_beatNow r3.2.2.2) (fun r7 => some (r7, r3.2.1, r3.2.2.1, r3.2.2.2)))
  else (if a1 = 1 then tbd (m4_behindIt r3.2.1) (fun r9 => tbd (m1_menOnRoof r3.2.2.2) (fun r11 => some (r11, r3.2.1, r3.2.2.1, r3.2.2.2)))
  else (if a1 = 2 then tbd (m4_stepsMade r3.2.1) (fun r13 => some (r13, r3.2.1, r3.2.2.1, r3.2.2.2))
  else (if a1 = 3 then tbd (m4_coinsPaid r3.2.1) (fun r15 => some (r15, r3.2.1, r3.2.2.1, r3.2.2.2))
  else (if a1 = 4 then tbd (m4_firstActUp r3.2.1) (fun r17 => some (r17, r3.2.1, r3.2.2.1, r3.2.2.2))
  else tbd (m4_firstManUp r3.2.1) (fun r19 => some (r19, r3.2.1, r3.2.2.1, r3.2.2.2)))))))))))
def m9_climb (T : SX9) (T_brigade : SX1) (T_routes : SX7) (a1 : Int32) (a2 : Int32) : Option (Int32 × SX7) :=
  tbd (m9_isMan a1) (fun r1 => (if r1 = 0 then some ((-1 : Int32), T_routes)
  else tbd (m9_within a2 (0 : Int32) (1 : Int32)) (fun r3 => (if r3 = 0 then some ((-2 : Int32), T_routes)
  else (if a2 = 0 then tbd (m7_fewestSteps T_routes T_brigade a1) (fun r7 => some (r7.1, r7.2))
  else tbd (m7_firstStep T_routes T_brigade a1) (fun r5 => some (r5.1, r5.2)))))))
def m9_ways (T : SX9) (T_brigade : SX1) (T_routes : SX7) (a1 : Int32) : Option (Int32 × SX7) :=
  tbd (m9_isMan a1) (fun r1 => (if r1 = 0 then some ((-1 : Int32), T_routes)
  else tbd (m7_countUp T_routes T_brigade a1) (fun r3 => some (r3.1, r3.2))))
def m9_leases (T : SX9) (T_brigade : SX1) (T_routes : SX7) (a1 : Int32) (a2 : Int32) : Option (Int32 × SX7) :=
  tbd (m9_isMan a1) (fun r1 => (if r1 = 0 then some ((-1 : Int32), T_routes)
  else tbd (m9_within a2 (0 : Int32) (1 : Int32)) (fun r3 => (if r3 = 0 then some ((-2 : Int32), T_routes)
  else (if a2 = 0 then tbd (m7_fewestLeases T_routes T_brigade a1) (fun r7 => some (r7.1, r7.2))
  else tbd (m7_leastLeased T_routes T_brigade a1) (fun r5 => some (r5.1, r5.2)))))))
def m9_stand (T : SX9) (T_brigade : SX1) (T_posts : SX6) (a1 : Int32) : Option (Int32 × SX6) :=
  tbd (m9_isManOrNobody a1) (fun r1 => (if r1 = 0 then some ((-1 : Int32), T_posts)
  else tbd (m6_assign T_posts T_brigade) (fun r3 => (if a1 = (-1 : Int32) then tbd (m6_menPosted r3) (fun r7 => some (r7, r3))
  else tbd (m6_rungOf r3 a1) (fun r5 => some (r5, r3))))))
def m9_felt (T : SX9) (T_brigade : SX1) (a1 : Int32) (a2 : Int32) : Option (Int32 × SX1) :=
  tbd (m9_isRung a1) (fun r1 => (if r1 = 0 then some ((-1 : Int32), T_brigade)
  else tbd (m1_addSight T_brigade a1 a2) (fun r3 => (if r3.1 = 0 then some ((-4 : Int32), r3.2)
  else tbd (m1_sightCount r3.2) (fun r5 => some (r5, r3.2))))))
def m9_forget (T : SX9) (T_brigade : SX1) : Option (Int32 × SX1) :=
  tbd (m1_sightCount T_brigade) (fun r1 => tbd (m1_clearSights T_brigade) (fun r3 => some (r1, r3)))
def m9_ups (T : SX9) (T_brigade : SX1) (T_trails : SX8) (a1 : Int32) : Option (Int32 × SX8) :=
  tbd (m8_find T_trails T_brigade) (fun r1 => (if a1 = (-1 : Int32) then tbd (m8_size r1) (fun r5 => some (r5, r1))
  else tbd (m8_codeAt r1 a1) (fun r3 => some (r3, r1))))
def m9_ask (T : SX9) (T_brigade : SX1) (T_trails : SX8) (a1 : Int32) : Option (Int32 × SX8) :=
  tbd (m9_within a1 (0 : Int32) (1 : Int32)) (fun r1 => (if r1 = 0 then some ((-2 : Int32), T_trails)
  else tbd (m8_find T_trails T_brigade) (fun r3 => tbd (m8_size r3) (fun r5 => (if r5 = 0 then some ((-6 : Int32), r3)
  else tbd (m8_rungToFeel r3) (fun r7 => (if a1 = 0 then some (r7, r3)
  else tbd (m8_mostLeftBy r3 r7) (fun r9 => some (r9, r3)))))))))
def m9_down (a1 : Int32) (a2 : Int32) : Option (Int32) :=
  tbd (m9_within a1 (0 : Int32) (4095 : Int32)) (fun r1 => (if r1 = 0 then some (-2 : Int32)
  else tbd (m9_within a2 (0 : Int32) (1 : Int32)) (fun r3 => (if r3 = 0 then some (-2 : Int32)
  else (if a2 = 0 then tbd (m2_canWin a1) (fun r7 => (if r7 = 0 then some (0 : Int32)
  else some (1 : Int32)))
  else tbd (m2_leastWinningMove a1) (fun r5 => some r5))))))
def m9_foot_J68 (T : SX9) (T_feet : SX3) (x4 : Int32) : Option (Int64 × SX3) :=
  (if x4 = 0 then tbd (m3_upperNumber T_feet) (fun r13 => some (r13, T_feet))
  else tbd (m3_lowerNumber T_feet) (fun r11 => some (r11, T_feet)))
def m9_foot (T : SX9) (T_feet : SX3) (a1 : Int32) (a2 : Int32) (a3 : Int32) (a4 : Int32) : Option (Int64 × SX3) :=
  tbd (m9_isRung a2) (fun r1 => (if r1 = 0 then some ((-1000000000000000001 : Int64), T_feet)
  else tbd (m9_within a1 (1 : Int32) (4 : Int32)) (fun r3 => (if r3 = 0 then some ((-1000000000000000002 : Int64), T_feet)
  else tbd (m9_within a3 (0 : Int32) (1 : Int32)) (fun r5 => (if r5 = 0 then some ((-1000000000000000002 : Int64), T_feet)
  else tbd (m9_within a4 (0 : Int32) (1 : Int32)) (fun r7 => (if r7 = 0 then some ((-1000000000000000002 : Int64), T_feet)
  else (if a3 = 0 then tbd (m3_chanceOn T_feet a1 a2) (fun r15 => m9_foot_J68 T r15 a4)
  else tbd (m3_meanStepsTo T_feet a1 a2) (fun r9 => m9_foot_J68 T r9 a4))))))))))
def m9_passYear_B16 (T : SX9) (T_brigade : SX1) (x2 : Int32) (rc16 : Int32 × Int32 × SX0 × SX4 × SX1 → Option (SX0 × SX4 × SX1)) (x3 : Int32) (x4 : Int32) (T_act : SX0) (T_fire : SX4) (T_fire_after : SX1) : Option (SX0 × SX4 × SX1) :=
  (if x2 ≤ x4 then some (T_act, T_fire, T_fire_after)
  else tnm (irem (((75 : Int32) * x3) + (74 : Int32)) (65537 : Int32)) (fun v3 => tbd (m4_behindIt T_fire) (fun r4 => tbd (m0_draw T_act T_fire_after v3) (fun r6 => tbd (m4_attempt T_fire r6 T_fire_after) (fun r8 => tnm (x4 + (1 : Int32)) (fun v10 => rc16 (v3, v10, r6, r8.2.1, r8.2.2)))))))
def m9_passYear_L16 (T : SX9) (T_brigade : SX1) (x2 : Int32) (rc16 : Int32 × Int32 × SX0 × SX4 × SX1 → Option (SX0 × SX4 × SX1)) (z : Int32 × Int32 × SX0 × SX4 × SX1) : Option (SX0 × SX4 × SX1) := m9_passYear_B16 T T_brigade x2 rc16 z.1 z.2.1 z.2.2.1 z.2.2.2.1 z.2.2.2.2
def m9_passYear (T : SX9) (T_act : SX0) (T_brigade : SX1) (T_fire : SX4) (T_fire_after : SX1) (a1 : Int32) (a2 : Int32) : Option (SX0 × SX4 × SX1) :=
  tbd (m4_begin T_fire T_brigade T_fire_after) (fun r1 => tit (m9_passYear_L16 T T_brigade a2) FU (a1, (0 : Int32), T_act, r1.1, r1.2))
def m9_year (T : SX9) (T_act : SX0) (T_brigade : SX1) (T_fire : SX4) (T_fire_after : SX1) (a1 : Int32) (a2 : Int32) (a3 : Int32) : Option (Int32 × SX0 × SX4 × SX1) :=
  tbd (m9_within a1 (0 : Int32) (9999 : Int32)) (fun r1 => (if r1 = 0 then some ((-2 : Int32), T_act, T_fire, T_fire_after)
  else tbd (m9_within a2 (1 : Int32) (99 : Int32)) (fun r3 => (if r3 = 0 then some ((-2 : Int32), T_act, T_fire, T_fire_after)
  else tbd (m9_within a3 (0 : Int32) (2 : Int32)) (fun r5 => (if r5 = 0 then some ((-2 : Int32), T_act, T_fire, T_fire_after)
  else tbd (m9_passYear T T_act T_brigade T_fire T_fire_after a1 a2) (fun r7 => (if a3 = 0 then tbd (m4_behindIt r7.2.1) (fun r9 => tbd (m1_menOnRoof r7.2.2) (fun r11 => some (r11, r7.1, r7.2.1, r7.2.2)))
  else (if a3 = 1 then tbd (m4_behindIt r7.2.1) (fun r13 => tbd (m1_coinsOf r7.2.2 (0 : Int32)) (fun r15 => some (r15, r7.1, r7.2.1, r7.2.2)))
  else tbd (m4_stepsMade r7.2.1) (fun r17 => some (r17, r7.1, r7.2.1, r7.2.2)))))))))))
def m9_toldOfMan (T : SX9) (T_brigade : SX1) (a1 : Int32) (a2 : Int32) : Option (Int32) :=
  tbd (m9_isMan a2) (fun r1 => (if r1 = 0 then some (-2 : Int32)
  else (if a1 = 1 then tbd (m1_placeOf T_brigade a2) (fun r3 => some r3)
  else (if a1 = 2 then tbd (m1_coinsOf T_brigade a2) (fun r5 => some r5)
  else tbd (m1_strideOf T_brigade a2) (fun r7 => some r7)))))
def m9_toldOfRung (T : SX9) (T_brigade : SX1) (a1 : Int32) : Option (Int32) :=
  tbd (m9_within a1 (41 : Int32) (52 : Int32)) (fun r1 => (if r1 = 0 then tbd (m9_within a1 (61 : Int32) (72 : Int32)) (fun r3 => (if r3 = 0 then some (-2 : Int32)
  else tbd (m1_leaserOf T_brigade (a1 - (60 : Int32))) (fun r5 => tbd (m9_orNone r5) (fun r7 => some r7))))
  else tbd (m1_ownerOf T_brigade (a1 - (40 : Int32))) (fun r9 => tbd (m9_orNone r9) (fun r11 => some r11))))
def m9_told (T : SX9) (T_brigade : SX1) (T_pad : SX5) (a1 : Int32) : Option (Int32) :=
  (if a1 = 0 then tbd (m5_size T_pad) (fun r1 => some r1)
  else (if a1 = 1 then tbd (m1_beatNow T_brigade) (fun r3 => some r3)
  else (if a1 = 2 then tbd (m1_menOnRoof T_brigade) (fun r5 => some r5)
  else (if a1 = 3 then tbd (m1_menStepped T_brigade) (fun r7 => some r7)
  else (if a1 = 4 then tbd (m1_rungsMissing T_brigade) (fun r9 => some r9)
  else (if a1 = 5 then tbd (m1_sightCount T_brigade) (fun r11 => some r11)
  else tbd (m9_within a1 (10 : Int32) (39 : Int32)) (fun r13 => (if r13 = 0 then tbd (m9_toldOfRung T T_brigade a1) (fun r15 => some r15)
  else tbd (m9_toldOfMan T T_brigade (a1 / (10 : Int32)) (irem a1 (10 : Int32))) (fun r17 => some r17)))))))))
def m9_isImage (a0 : Int32) : Option (Int32) :=
  (if a0 < 0 then some (0 : Int32)
  else (if (2 : Int32) ≤ a0 then some (0 : Int32)
  else some (1 : Int32)))
def m10_in (a0 : Int32) (a1 : Int32) (a2 : Int32) : Option (Int32) :=
  (if a0 < a1 then some (0 : Int32)
  else (if a2 < a0 then some (0 : Int32)
  else some (1 : Int32)))
def m10_has (a0 : Int32) (a1 : Int32) : Option (Int32) :=
  (if ((a0 >>> (a1 &&& 31)) &&& (1 : Int32)) = (1 : Int32) then some (1 : Int32)
  else some (0 : Int32))
def m10_bits_B4 (x0 : Int32) (rc4 : Int32 × Int32 → Option (Int32)) (x1 : Int32) (x2 : Int32) : Option (Int32) :=
  (if (13 : Int32) ≤ x2 then some x1
  else tnm (x1 + ((x0 >>> (x2 &&& 31)) &&& (1 : Int32))) (fun v1 => tnm (x2 + (1 : Int32)) (fun v2 => rc4 (v1, v2))))
def m10_bits_L4 (x0 : Int32) (rc4 : Int32 × Int32 → Option (Int32)) (z : Int32 × Int32) : Option (Int32) := m10_bits_B4 x0 rc4 z.1 z.2
def m10_bits (a0 : Int32) : Option (Int32) :=
  tit (m10_bits_L4 a0) FU ((0 : Int32), (0 : Int32))
def m10_isRung (a0 : Int32) : Option (Int32) :=
  tbd (m10_in a0 (1 : Int32) (12 : Int32)) (fun r1 => tgd (tbl r1) (some r1))
def m10_isMan (a0 : Int32) : Option (Int32) :=
  tbd (m10_in a0 (0 : Int32) (5 : Int32)) (fun r1 => tgd (tbl r1) (some r1))
def m10_asNow_B2 (rc2 : Int32 × SX10 → Option (SX10)) (x1 : Int32) (T : SX10) : Option (SX10) :=
  (if (47 : Int32) ≤ x1 then some (s10_roofWho (s10_roofAt (s10_paid (s10_steps T (0 : Int32)) (0 : Int32)) (-6 : Int32)) (-6 : Int32))
  else tgd (tin x1 47) (tgd (tin x1 47) (tnm (x1 + (1 : Int32)) (fun v1 => rc2 (v1, (s10_now T (upd (g10_now T) (Int32.toNatClampNeg x1) ((g10_book T) (Int32.toNatClampNeg x1)))))))))
def m10_asNow_L2 (rc2 : Int32 × SX10 → Option (SX10)) (z : Int32 × SX10) : Option (SX10) := m10_asNow_B2 rc2 z.1 z.2
def m10_asNow (T : SX10) : Option (SX10) :=
  tit (m10_asNow_L2 ) FU ((0 : Int32), T)
def m10_isMissing (T : SX10) (a1 : Int32) : Option (Int32) :=
  tbd (m10_has ((g10_now T) (Int32.toNatClampNeg (45 : Int32))) a1) (fun r1 => tgd (tbl r1) (some r1))
def m10_may (T : SX10) (a1 : Int32) (a2 : Int32) : Option (Int32) :=
  tbd (m10_isMissing T a2) (fun r1 => (if r1 = 0 then tgd (tin a2 47) ((if ((g10_now T) (Int32.toNatClampNeg a2)) = a1 then some (1 : Int32)
  else tgd (tin a2 47) ((if ((g10_now T) (Int32.toNatClampNeg a2)) < 0 then some (1 : Int32)
  else tgd (tin ((13 : Int32) + a2) 47) ((if ((g10_now T) (Int32.toNatClampNeg ((13 : Int32) + a2))) = a1 then some (1 : Int32)
  else some (0 : Int32)))))))
  else some (0 : Int32)))
def m10_standing_B2 (T : SX10) (x1 : Int32) (rc2 : Int32 → Option (Int32)) (x2 : Int32) : Option (Int32) :=
  (if (6 : Int32) ≤ x2 then some (-6 : Int32)
  else tgd (tin ((38 : Int32) + x2) 47) ((if ((g10_now T) (Int32.toNatClampNeg ((38 : Int32) + x2))) = x1 then some x2
  else tnm (x2 + (1 : Int32)) (fun v1 => rc2 v1))))
def m10_standing_L2 (T : SX10) (x1 : Int32) (rc2 : Int32 → Option (Int32)) (z : Int32) : Option (Int32) := m10_standing_B2 T x1 rc2 z
def m10_standing (T : SX10) (a1 : Int32) : Option (Int32) :=
  tit (m10_standing_L2 T a1) FU (0 : Int32)
def m10_rung_J120 (T : SX10) (x1 : Int32) (x4 : Int32) (x6 : Int32) (y1 : Int32) (y2 : Int32) : Option (Int32 × SX10) :=
  tgd (tin y1 47) (some (x6, (s10_book T (upd (upd (upd (g10_book T) (Int32.toNatClampNeg y1) y2) (Int32.toNatClampNeg (45 : Int32)) (((upd (g10_book T) (Int32.toNatClampNeg y1) y2) (Int32.toNatClampNeg (45 : Int32))) &&& (((1 : Int32) <<< (x1 &&& 31)) ^^^ (-1 : Int32)))) (Int32.toNatClampNeg (45 : Int32)) (((upd (upd (g10_book T) (Int32.toNatClampNeg y1) y2) (Int32.toNatClampNeg (45 : Int32)) (((upd (g10_book T) (Int32.toNatClampNeg y1) y2) (Int32.toNatClampNeg (45 : Int32))) &&& (((1 : Int32) <<< (x1 &&& 31)) ^^^ (-1 : Int32)))) (Int32.toNatClampNeg (45 : Int32))) ||| (x4 <<< (x1 &&& 31)))))))
def m10_rung_J101 (T : SX10) (x1 : Int32) (x3 : Int32) (x4 : Int32) (x6 : Int32) (y1 : Int32) (y2 : Int32) : Option (Int32 × SX10) :=
  tgd (tin y1 47) ((if 0 ≤ x3 then m10_rung_J120 (s10_book T (upd (g10_book T) (Int32.toNatClampNeg y1) y2)) x1 x4 x6 ((13 : Int32) + x1) x3
  else m10_rung_J120 (s10_book T (upd (g10_book T) (Int32.toNatClampNeg y1) y2)) x1 x4 x6 ((13 : Int32) + x1) (-6 : Int32)))
def m10_rung_J68 (T : SX10) (x1 : Int32) (x2 : Int32) (x3 : Int32) (x4 : Int32) (y0 : Int32) : Option (Int32 × SX10) :=
  (if y0 = 0 then some ((-2 : Int32), T)
  else tgd (tin x1 47) (tnm ((g10_book T) (Int32.toNatClampNeg x1)) (fun v9 => (if 0 ≤ x2 then m10_rung_J101 T x1 x3 x4 v9 x1 x2
  else m10_rung_J101 T x1 x3 x4 v9 x1 (-6 : Int32)))))
def m10_rung_J67 (T : SX10) (x1 : Int32) (x2 : Int32) (x3 : Int32) (x4 : Int32) : Option (Int32 × SX10) :=
  m10_rung_J68 T x1 x2 x3 x4 (0 : Int32)
def m10_rung_J63 (T : SX10) (x1 : Int32) (x2 : Int32) (x3 : Int32) (x4 : Int32) : Option (Int32 × SX10) :=
  m10_rung_J68 T x1 x2 x3 x4 (1 : Int32)
def m10_rung_J50 (T : SX10) (x1 : Int32) (x2 : Int32) (x3 : Int32) (x4 : Int32) : Option (Int32 × SX10) :=
  (if x4 = 0 then m10_rung_J63 T x1 x2 x3 x4
  else (if 0 ≤ x2 then m10_rung_J67 T x1 x2 x3 x4
  else (if 0 ≤ x3 then m10_rung_J67 T x1 x2 x3 x4
  else m10_rung_J63 T x1 x2 x3 x4)))
def m10_rung (T : SX10) (a1 : Int32) (a2 : Int32) (a3 : Int32) (a4 : Int32) : Option (Int32 × SX10) :=
  tbd (m10_isRung a1) (fun r1 => (if r1 = 0 then some ((-1 : Int32), T)
  else tbd (m10_in a2 (-1 : Int32) (5 : Int32)) (fun r3 => (if r3 = 0 then some ((-1 : Int32), T)
  else tbd (m10_in a3 (-1 : Int32) (5 : Int32)) (fun r5 => (if r5 = 0 then some ((-1 : Int32), T)
  else tbd (m10_in a4 (0 : Int32) (1 : Int32)) (fun r7 => (if r7 = 0 then m10_rung_J67 T a1 a2 a3 a4
  else (if a3 < 0 then m10_rung_J50 T a1 a2 a3 a4
  else (if a2 < 0 then m10_rung_J67 T a1 a2 a3 a4
  else (if a2 = a3 then m10_rung_J67 T a1 a2 a3 a4
  else m10_rung_J50 T a1 a2 a3 a4)))))))))))
def m10_man (T : SX10) (a1 : Int32) (a2 : Int32) (a3 : Int32) (a4 : Int32) : Option (Int32 × SX10) :=
  tbd (m10_isMan a1) (fun r1 => (if r1 = 0 then some ((-1 : Int32), T)
  else tbd (m10_in a2 (1 : Int32) (4 : Int32)) (fun r3 => (if r3 = 0 then some ((-2 : Int32), T)
  else tbd (m10_in a3 (0 : Int32) (99 : Int32)) (fun r5 => (if r5 = 0 then some ((-2 : Int32), T)
  else tbd (m10_in a4 (0 : Int32) (13 : Int32)) (fun r7 => (if r7 = 0 then some ((-2 : Int32), T)
  else tgd (tin ((38 : Int32) + a1) 47) (tgd (tin ((32 : Int32) + a1) 47) (tnm (((100 : Int32) * ((g10_book T) (Int32.toNatClampNeg ((38 : Int32) + a1)))) + ((g10_book T) (Int32.toNatClampNeg ((32 : Int32) + a1)))) (fun v9 => tgd (tin ((26 : Int32) + a1) 47) (tgd (tin ((32 : Int32) + a1) 47) (tgd (tin ((38 : Int32) + a1) 47) (some (v9, (s10_book T (upd (upd (upd (upd (g10_book T) (Int32.toNatClampNeg ((26 : Int32) + a1)) a2) (Int32.toNatClampNeg ((32 : Int32) + a1)) a3) (Int32.toNatClampNeg ((38 : Int32) + a1)) a4) (Int32.toNatClampNeg (44 : Int32)) (((upd (upd (upd (g10_book T) (Int32.toNatClampNeg ((26 : Int32) + a1)) a2) (Int32.toNatClampNeg ((32 : Int32) + a1)) a3) (Int32.toNatClampNeg ((38 : Int32) + a1)) a4) (Int32.toNatClampNeg (44 : Int32))) &&& (((1 : Int32) <<< (a1 &&& 31)) ^^^ (-1 : Int32))))))))))))))))))))
def m10_say (T : SX10) (a1 : Int32) : Option (Int32 × SX10) :=
  tbd (m10_in a1 (33 : Int32) (126 : Int32)) (fun r1 => (if r1 = 0 then some ((-2 : Int32), T)
  else (if (g10_signs T) = (60 : Int32) then some ((-4 : Int32), T)
  else tgd (tin (g10_signs T) 60) (some (((g10_signs T) + (1 : Int32)), (s10_pad (s10_signs T ((g10_signs T) + (1 : Int32))) (upd (g10_pad T) (Int32.toNatClampNeg (g10_signs T)) a1)))))))
def m10_wipe (T : SX10) : Option (Int32 × SX10) :=
  tnm (g10_signs T) (fun v1 => some (v1, (s10_signs T (0 : Int32))))
def m10_step (a0 : Int32) (a1 : Int32) : Option (Int32) :=
  tbd (m10_in a1 (97 : Int32) (108 : Int32)) (fun r1 => (if a0 = 0 then tbd (m10_in a1 (65 : Int32) (70 : Int32)) (fun r3 => (if r3 = 0 then (if a1 = (107 : Int32) then some (2 : Int32)
  else (if a1 = (43 : Int32) then some (2 : Int32)
  else (if a1 = (46 : Int32) then some (0 : Int32)
  else some (-6 : Int32))))
  else some (1 : Int32)))
  else (if a0 = 1 then (if r1 = 0 then (if a1 = (94 : Int32) then some (0 : Int32)
  else (if a1 = (95 : Int32) then some (0 : Int32)
  else (if a1 = (37 : Int32) then some (2 : Int32)
  else some (-6 : Int32))))
  else some (0 : Int32))
  else (if r1 = 0 then some (-6 : Int32)
  else some (0 : Int32)))))
def m10_faultOf_B4 (T : SX10) (rc4 : Int32 × Int32 → Option (Int32)) (x1 : Int32) (x2 : Int32) : Option (Int32) :=
  (if (g10_signs T) ≤ x2 then (if x1 = 0 then some (-6 : Int32)
  else some (g10_signs T))
  else tgd (tin x2 60) (tbd (m10_step x1 ((g10_pad T) (Int32.toNatClampNeg x2))) (fun r1 => (if 0 ≤ r1 then tnm (x2 + (1 : Int32)) (fun v3 => rc4 (r1, v3))
  else some x2))))
def m10_faultOf_L4 (T : SX10) (rc4 : Int32 × Int32 → Option (Int32)) (z : Int32 × Int32) : Option (Int32) := m10_faultOf_B4 T rc4 z.1 z.2
def m10_faultOf (T : SX10) : Option (Int32) :=
  tit (m10_faultOf_L4 T) FU ((0 : Int32), (0 : Int32))
def m10_fault (T : SX10) : Option (Int32) :=
  tbd (m10_faultOf T) (fun r1 => some r1)
def m10_goTo_J98 (T : SX10) (x1 : Int32) (x2 : Int32) : Option (Int32 × SX10) :=
  tgd (tin ((38 : Int32) + x1) 47) (some ((0 : Int32), (s10_steps (s10_now T (upd (upd (g10_now T) (Int32.toNatClampNeg ((38 : Int32) + x1)) x2) (Int32.toNatClampNeg (44 : Int32)) (((upd (g10_now T) (Int32.toNatClampNeg ((38 : Int32) + x1)) x2) (Int32.toNatClampNeg (44 : Int32))) ||| ((1 : Int32) <<< (x1 &&& 31))))) ((g10_steps T) + (1 : Int32)))))
def m10_goTo (T : SX10) (a1 : Int32) (a2 : Int32) : Option (Int32 × SX10) :=
  tbd (m10_has ((g10_now T) (Int32.toNatClampNeg (44 : Int32))) a1) (fun r1 => (if r1 = 0 then tgd (tin ((38 : Int32) + a1) 47) (tnm (a2 - ((g10_now T) (Int32.toNatClampNeg ((38 : Int32) + a1)))) (fun v3 => (if v3 = 0 then some ((2 : Int32), T)
  else tgd (tin ((26 : Int32) + a1) 47) (tgd (tin ((26 : Int32) + a1) 47) (tbd (m10_in v3 (-((g10_now T) (Int32.toNatClampNeg ((26 : Int32) + a1)))) ((g10_now T) (Int32.toNatClampNeg ((26 : Int32) + a1)))) (fun r4 => (if r4 = 0 then some ((2 : Int32), T)
  else tbd (m10_isRung a2) (fun r6 => (if r6 = 0 then m10_goTo_J98 T a1 a2
  else tbd (m10_isMissing T a2) (fun r8 => (if r8 = 0 then tbd (m10_may T a1 a2) (fun r10 => (if r10 = 0 then some ((4 : Int32), T)
  else tbd (m10_standing T a2) (fun r12 => (if r12 < 0 then m10_goTo_J98 T a1 a2
  else some ((5 : Int32), T)))))
  else some ((3 : Int32), T))))))))))))
  else some ((1 : Int32), T)))
def m10_leaseTo (T : SX10) (a1 : Int32) (a2 : Int32) : Option (Int32 × SX10) :=
  tbd (m10_isMissing T a2) (fun r1 => (if r1 = 0 then tgd (tin a2 47) ((if ((g10_now T) (Int32.toNatClampNeg a2)) = a1 then some ((6 : Int32), T)
  else tgd (tin a2 47) ((if 0 ≤ ((g10_now T) (Int32.toNatClampNeg a2)) then tgd (tin ((13 : Int32) + a2) 47) ((if ((g10_now T) (Int32.toNatClampNeg ((13 : Int32) + a2))) < 0 then tgd (tin ((32 : Int32) + a1) 47) ((if ((g10_now T) (Int32.toNatClampNeg ((32 : Int32) + a1))) = 0 then some ((8 : Int32), T)
  else tgd (tin ((32 : Int32) + a1) 47) (tgd (tin ((32 : Int32) + a1) 47) (tgd (tin a2 47) (tgd (tin ((32 : Int32) + ((upd (g10_now T) (Int32.toNatClampNeg ((32 : Int32) + a1)) (((g10_now T) (Int32.toNatClampNeg ((32 : Int32) + a1))) - (1 : Int32))) (Int32.toNatClampNeg a2))) 47) (tgd (tin ((32 : Int32) + ((upd (g10_now T) (Int32.toNatClampNeg ((32 : Int32) + a1)) (((g10_now T) (Int32.toNatClampNeg ((32 : Int32) + a1))) - (1 : Int32))) (Int32.toNatClampNeg a2))) 47) (tgd (tin ((13 : Int32) + a2) 47) (some ((0 : Int32), (s10_paid (s10_now T (upd (upd (upd (g10_now T) (Int32.toNatClampNeg ((32 : Int32) + a1)) (((g10_now T) (Int32.toNatClampNeg ((32 : Int32) + a1))) - (1 : Int32))) (Int32.toNatClampNeg ((32 : Int32) + ((upd (g10_now T) (Int32.toNatClampNeg ((32 : Int32) + a1)) (((g10_now T) (Int32.toNatClampNeg ((32 : Int32) + a1))) - (1 : Int32))) (Int32.toNatClampNeg a2)))) (((upd (g10_now T) (Int32.toNatClampNeg ((32 : Int32) + a1)) (((g10_now T) (Int32.toNatClampNeg ((32 : Int32) + a1))) - (1 : Int32))) (Int32.toNatClampNeg ((32 : Int32) + ((upd (g10_now T) (Int32.toNatClampNeg ((32 : Int32) + a1)) (((g10_now T) (Int32.toNatClampNeg ((32 : Int32) + a1))) - (1 : Int32))) (Int32.toNatClampNeg a2))))) + (1 : Int32))) (Int32.toNatClampNeg ((13 : Int32) + a2)) a1)) ((g10_paid T) + (1 : Int32))))))))))))
  else some ((7 : Int32), T)))
  else some ((6 : Int32), T)))))
  else some ((3 : Int32), T)))
def m10_lose (T : SX10) (a1 : Int32) (a2 : Int32) : Option (Int32 × SX10) :=
  tbd (m10_isMissing T a1) (fun r1 => (if r1 = a2 then some ((9 : Int32), T)
  else tgd (tin a1 47) (tgd (tin ((13 : Int32) + a1) 47) (some ((0 : Int32), (s10_now T (upd (upd (upd (g10_now T) (Int32.toNatClampNeg (45 : Int32)) (((g10_now T) (Int32.toNatClampNeg (45 : Int32))) ^^^ ((1 : Int32) <<< (a1 &&& 31)))) (Int32.toNatClampNeg a1) (-6 : Int32)) (Int32.toNatClampNeg ((13 : Int32) + a1)) (-6 : Int32))))))))
def m10_endBeat (T : SX10) : Option (Int32 × SX10) :=
  (if ((g10_now T) (Int32.toNatClampNeg (46 : Int32))) = (99 : Int32) then some ((10 : Int32), T)
  else some ((0 : Int32), (s10_now T (upd (upd (g10_now T) (Int32.toNatClampNeg (46 : Int32)) (((g10_now T) (Int32.toNatClampNeg (46 : Int32))) + (1 : Int32))) (Int32.toNatClampNeg (44 : Int32)) (0 : Int32)))))
def m10_oneAct_J57 (T : SX10) (y1 : Int32) (y2 : Int32) : Option (Int32 × SX10) :=
  tbd (m10_lose T y1 y2) (fun r3 => some (r3.1, r3.2))
def m10_oneAct_J39 (T : SX10) (x2 : Int32) (x3 : Int32) : Option (Int32 × SX10) :=
  (if x2 = (107 : Int32) then m10_oneAct_J57 T ((x3 - (97 : Int32)) + (1 : Int32)) (1 : Int32)
  else m10_oneAct_J57 T ((x3 - (97 : Int32)) + (1 : Int32)) (0 : Int32))
def m10_oneAct_J125 (T : SX10) (y1 : Int32) (y2 : Int32) : Option (Int32 × SX10) :=
  tbd (m10_goTo T y1 y2) (fun r6 => some (r6.1, r6.2))
def m10_oneAct (T : SX10) (a1 : Int32) : Option (Int32 × SX10) :=
  tgd (tin a1 60) (tnm ((g10_pad T) (Int32.toNatClampNeg a1)) (fun v1 => (if v1 = (46 : Int32) then tbd (m10_endBeat T) (fun r10 => some (r10.1, r10.2))
  else tgd (tin (a1 + (1 : Int32)) 60) (tnm ((g10_pad T) (Int32.toNatClampNeg (a1 + (1 : Int32)))) (fun v2 => (if v1 = (107 : Int32) then m10_oneAct_J39 T v1 v2
  else (if v1 = (43 : Int32) then m10_oneAct_J39 T v1 v2
  else tnm (v1 - (65 : Int32)) (fun v5 => (if v2 = (37 : Int32) then tgd (tin (a1 + (2 : Int32)) 60) (tbd (m10_leaseTo T v5 ((((g10_pad T) (Int32.toNatClampNeg (a1 + (2 : Int32)))) - (97 : Int32)) + (1 : Int32))) (fun r8 => some (r8.1, r8.2)))
  else (if v2 = (94 : Int32) then m10_oneAct_J125 T v5 (13 : Int32)
  else (if v2 = (95 : Int32) then m10_oneAct_J125 T v5 (0 : Int32)
  else m10_oneAct_J125 T v5 ((v2 - (97 : Int32)) + (1 : Int32)))))))))))))
def m10_roof_J32 (T : SX10) (x2 : Int32) (y0 : Int32) (y1 : Int32) (rc4 : Int32 × Int32 → Option (Int32)) : Option (Int32) :=
  tnm (y0 ||| y1) (fun v1 => tnm (x2 + (1 : Int32)) (fun v2 => rc4 (v1, v2)))
def m10_roof_B4 (T : SX10) (rc4 : Int32 × Int32 → Option (Int32)) (x1 : Int32) (x2 : Int32) : Option (Int32) :=
  (if (6 : Int32) ≤ x2 then some x1
  else tgd (tin ((38 : Int32) + x2) 47) ((if ((g10_now T) (Int32.toNatClampNeg ((38 : Int32) + x2))) = (13 : Int32) then m10_roof_J32 T x2 x1 ((1 : Int32) <<< (x2 &&& 31)) rc4
  else m10_roof_J32 T x2 x1 (0 : Int32) rc4)))
def m10_roof_L4 (T : SX10) (rc4 : Int32 × Int32 → Option (Int32)) (z : Int32 × Int32) : Option (Int32) := m10_roof_B4 T rc4 z.1 z.2
def m10_roof (T : SX10) : Option (Int32) :=
  tit (m10_roof_L4 T) FU ((0 : Int32), (0 : Int32))
def m10_goFires_J136 (T : SX10) (x1 : Int32) (rc11 : Int32 × SX10 → Option (Int32 × SX10)) : Option (Int32 × SX10) :=
  rc11 (x1, (s10_acts T ((g10_acts T) + (1 : Int32))))
def m10_goFires_B93 (x1 : Int32) (x3 : Int32) (rc11 : Int32 × SX10 → Option (Int32 × SX10)) (rc93 : Int32 × SX10 → Option (Int32 × SX10)) (x4 : Int32) (T : SX10) : Option (Int32 × SX10) :=
  (if (6 : Int32) ≤ x4 then m10_goFires_J136 T x1 rc11
  else (if 0 ≤ (g10_roofAt T) then m10_goFires_J136 T x1 rc11
  else tbd (m10_has x3 x4) (fun r11 => (if r11 = 0 then tnm (x4 + (1 : Int32)) (fun v13 => rc93 (v13, T))
  else tnm (x4 + (1 : Int32)) (fun v14 => rc93 (v14, (s10_roofWho (s10_roofAt T (g10_acts T)) x4)))))))
def m10_goFires_L93 (x1 : Int32) (x3 : Int32) (rc11 : Int32 × SX10 → Option (Int32 × SX10)) (rc93 : Int32 × SX10 → Option (Int32 × SX10)) (z : Int32 × SX10) : Option (Int32 × SX10) := m10_goFires_B93 x1 x3 rc11 rc93 z.1 z.2
def m10_goFires_J67 (T : SX10) (x2 : Int32) (y0 : Int32) (y1 : Int32) (rc11 : Int32 × SX10 → Option (Int32 × SX10)) : Option (Int32 × SX10) :=
  tnm (y0 + y1) (fun v7 => (if (g10_reason T) ≤ 0 then tbd (m10_roof T) (fun r8 => tnm (r8 &&& (x2 ^^^ (-1 : Int32))) (fun v10 => tit (m10_goFires_L93 v7 v10 rc11) FU ((0 : Int32), T)))
  else some ((g10_acts T), T)))
def m10_goFires_B11 (rc11 : Int32 × SX10 → Option (Int32 × SX10)) (x1 : Int32) (T : SX10) : Option (Int32 × SX10) :=
  (if (g10_signs T) ≤ x1 then some ((-6 : Int32), T)
  else tbd (m10_roof T) (fun r3 => tbd (m10_oneAct T x1) (fun r5 => tgd (tin x1 60) ((if ((g10_pad r5.2) (Int32.toNatClampNeg x1)) = (46 : Int32) then m10_goFires_J67 (s10_reason r5.2 r5.1) r3 x1 (1 : Int32) rc11
  else tgd (tin (x1 + (1 : Int32)) 60) ((if ((g10_pad r5.2) (Int32.toNatClampNeg (x1 + (1 : Int32)))) = (37 : Int32) then m10_goFires_J67 (s10_reason r5.2 r5.1) r3 x1 (3 : Int32) rc11
  else m10_goFires_J67 (s10_reason r5.2 r5.1) r3 x1 (2 : Int32) rc11)))))))
def m10_goFires_L11 (rc11 : Int32 × SX10 → Option (Int32 × SX10)) (z : Int32 × SX10) : Option (Int32 × SX10) := m10_goFires_B11 rc11 z.1 z.2
def m10_goFires (T : SX10) : Option (Int32 × SX10) :=
  tbd (m10_asNow T) (fun r1 => tit (m10_goFires_L11 ) FU ((0 : Int32), (s10_acts r1 (0 : Int32))))
def m10_judge (T : SX10) (a1 : Int32) : Option (Int32 × SX10) :=
  tbd (m10_in a1 (0 : Int32) (1 : Int32)) (fun r1 => (if r1 = 0 then some ((-2 : Int32), T)
  else tbd (m10_faultOf T) (fun r3 => (if r3 < 0 then tbd (m10_goFires T) (fun r5 => tnm r5.1 (fun v7 => (if v7 < 0 then some (v7, r5.2)
  else (if a1 = 0 then some (v7, r5.2)
  else some ((g10_reason r5.2), r5.2)))))
  else some ((-5 : Int32), T)))))
def m10_barOfFires (T : SX10) : Option (Int32 × SX10) :=
  tbd (m10_faultOf T) (fun r1 => (if 0 ≤ r1 then some ((-5 : Int32), T)
  else tbd (m10_goFires T) (fun r3 => (if r3.1 < 0 then some ((0 : Int32), r3.2)
  else some ((-5 : Int32), r3.2)))))
def m10_done_B12 (rc12 : Int32 × SX10 → Option (Int32 × SX10)) (x1 : Int32) (T : SX10) : Option (Int32 × SX10) :=
  (if (47 : Int32) ≤ x1 then some ((g10_acts T), (s10_signs T (0 : Int32)))
  else tgd (tin x1 47) (tgd (tin x1 47) (tnm (x1 + (1 : Int32)) (fun v3 => rc12 (v3, (s10_book T (upd (g10_book T) (Int32.toNatClampNeg x1) ((g10_now T) (Int32.toNatClampNeg x1)))))))))
def m10_done_L12 (rc12 : Int32 × SX10 → Option (Int32 × SX10)) (z : Int32 × SX10) : Option (Int32 × SX10) := m10_done_B12 rc12 z.1 z.2
def m10_done (T : SX10) : Option (Int32 × SX10) :=
  tbd (m10_barOfFires T) (fun r1 => (if 0 ≤ r1.1 then tit (m10_done_L12 ) FU ((0 : Int32), r1.2)
  else some ((-5 : Int32), r1.2)))
def m10_mayOnes_J29 (T : SX10) (x1 : Int32) (x3 : Int32) (y0 : Int32) (y1 : Int32) (rc4 : Int32 × Int32 → Option (Int32)) : Option (Int32) :=
  tnm (y0 ||| y1) (fun v3 => tnm (x3 + (1 : Int32)) (fun v4 => rc4 (v3, v4)))
def m10_mayOnes_B4 (T : SX10) (x1 : Int32) (rc4 : Int32 × Int32 → Option (Int32)) (x2 : Int32) (x3 : Int32) : Option (Int32) :=
  (if (13 : Int32) ≤ x3 then some x2
  else tbd (m10_may T x1 x3) (fun r1 => (if r1 = 0 then m10_mayOnes_J29 T x1 x3 x2 (0 : Int32) rc4
  else m10_mayOnes_J29 T x1 x3 x2 ((1 : Int32) <<< ((x3 - (1 : Int32)) &&& 31)) rc4)))
def m10_mayOnes_L4 (T : SX10) (x1 : Int32) (rc4 : Int32 × Int32 → Option (Int32)) (z : Int32 × Int32) : Option (Int32) := m10_mayOnes_B4 T x1 rc4 z.1 z.2
def m10_mayOnes (T : SX10) (a1 : Int32) : Option (Int32) :=
  tit (m10_mayOnes_L4 T a1) FU ((0 : Int32), (1 : Int32))
def m10_behind (T : SX10) (a1 : Int32) (a2 : Int32) : Option (Int32 × SX10) :=
  tbd (m10_isMan a1) (fun r1 => (if r1 = 0 then some ((-1 : Int32), T)
  else tbd (m10_in a2 (0 : Int32) (3 : Int32)) (fun r3 => (if r3 = 0 then some ((-2 : Int32), T)
  else tbd (m10_barOfFires T) (fun r5 => (if 0 ≤ r5.1 then (if a2 = 0 then tgd (tin ((38 : Int32) + a1) 47) (some (((g10_now r5.2) (Int32.toNatClampNeg ((38 : Int32) + a1))), r5.2))
  else (if a2 = (1 : Int32) then tgd (tin ((32 : Int32) + a1) 47) (some (((g10_now r5.2) (Int32.toNatClampNeg ((32 : Int32) + a1))), r5.2))
  else (if a2 = (2 : Int32) then tbd (m10_mayOnes r5.2 a1) (fun r7 => some (r7, r5.2))
  else some (((((g10_now r5.2) (Int32.toNatClampNeg (44 : Int32))) >>> (a1 &&& 31)) &&& (1 : Int32)), r5.2))))
  else some ((-5 : Int32), r5.2)))))))
def m10_bears (T : SX10) (a1 : Int32) (a2 : Int32) : Option (Int32 × SX10) :=
  tbd (m10_isRung a1) (fun r1 => (if r1 = 0 then some ((-1 : Int32), T)
  else tbd (m10_in a2 (0 : Int32) (3 : Int32)) (fun r3 => (if r3 = 0 then some ((-2 : Int32), T)
  else tbd (m10_barOfFires T) (fun r5 => (if 0 ≤ r5.1 then (if a2 = 0 then tgd (tin a1 47) (some (((g10_now r5.2) (Int32.toNatClampNeg a1)), r5.2))
  else (if a2 = (1 : Int32) then tgd (tin ((13 : Int32) + a1) 47) (some (((g10_now r5.2) (Int32.toNatClampNeg ((13 : Int32) + a1))), r5.2))
  else (if a2 = (2 : Int32) then tbd (m10_standing r5.2 a1) (fun r7 => some (r7, r5.2))
  else some (((((g10_now r5.2) (Int32.toNatClampNeg (45 : Int32))) >>> (a1 &&& 31)) &&& (1 : Int32)), r5.2))))
  else some ((-5 : Int32), r5.2)))))))
def m10_then (T : SX10) (a1 : Int32) : Option (Int32 × SX10) :=
  tbd (m10_in a1 (0 : Int32) (5 : Int32)) (fun r1 => (if r1 = 0 then some ((-2 : Int32), T)
  else tbd (m10_barOfFires T) (fun r3 => (if 0 ≤ r3.1 then (if a1 = 0 then some (((g10_now r3.2) (Int32.toNatClampNeg (46 : Int32))), r3.2)
  else (if a1 = 1 then tbd (m10_roof r3.2) (fun r5 => some (r5, r3.2))
  else (if a1 = 2 then some ((g10_steps r3.2), r3.2)
  else (if a1 = 3 then some ((g10_paid r3.2), r3.2)
  else (if a1 = (4 : Int32) then some ((g10_roofAt r3.2), r3.2)
  else some ((g10_roofWho r3.2), r3.2))))))
  else some ((-5 : Int32), r3.2)))))
def m10_layClimb_J139 (T : SX10) (x1 : Int32) (x2 : Int32) (x3 : Int32) (x4 : Int32) (y1 : Int32) (y2 : Int32) (rc3 : Int32 × SX10 → Option (SX10)) (rc47 : Int32 × SX10 → Option (SX10)) : Option (SX10) :=
  tgd (tin y1 14) (tgd (tin x3 14) (tgd (tin x4 14) (tgd (tin x3 14) (tnm (x4 + (1 : Int32)) (fun v4 => rc47 (v4, (s10_rows (s10_few T (upd (g10_few T) (Int32.toNatClampNeg y1) y2)) (upd (g10_rows T) (Int32.toNatClampNeg x3) (((g10_rows T) (Int32.toNatClampNeg x3)) + ((g10_rows T) (Int32.toNatClampNeg x4)))))))))))
def m10_layClimb_J98 (T : SX10) (x1 : Int32) (x2 : Int32) (x3 : Int32) (x4 : Int32) (rc3 : Int32 × SX10 → Option (SX10)) (rc47 : Int32 × SX10 → Option (SX10)) : Option (SX10) :=
  tgd (tin x4 14) (tgd (tin x3 14) ((if ((g10_few T) (Int32.toNatClampNeg x3)) ≤ (((g10_few T) (Int32.toNatClampNeg x4)) + (1 : Int32)) then tgd (tin x3 14) (m10_layClimb_J139 T x1 x2 x3 x4 x3 ((g10_few T) (Int32.toNatClampNeg x3)) rc3 rc47)
  else tgd (tin x4 14) (m10_layClimb_J139 T x1 x2 x3 x4 x3 (((g10_few T) (Int32.toNatClampNeg x4)) + (1 : Int32)) rc3 rc47))))
def m10_layClimb_B47 (x1 : Int32) (x2 : Int32) (x3 : Int32) (rc3 : Int32 × SX10 → Option (SX10)) (rc47 : Int32 × SX10 → Option (SX10)) (x4 : Int32) (T : SX10) : Option (SX10) :=
  tgd (tin ((26 : Int32) + x1) 47) ((if (x3 + ((g10_now T) (Int32.toNatClampNeg ((26 : Int32) + x1)))) < x4 then tnm (x3 + (-1 : Int32)) (fun v2 => rc3 (v2, T))
  else (if (13 : Int32) < x4 then tnm (x3 + (-1 : Int32)) (fun v3 => rc3 (v3, T))
  else (if x4 = (13 : Int32) then m10_layClimb_J98 T x1 x2 x3 x4 rc3 rc47
  else tbd (m10_may T x1 x4) (fun r5 => (if r5 = 0 then tbd (m10_has x2 (x4 - (1 : Int32))) (fun r7 => (if r7 = 0 then tnm (x4 + (1 : Int32)) (fun v9 => rc47 (v9, T))
  else m10_layClimb_J98 T x1 x2 x3 x4 rc3 rc47))
  else m10_layClimb_J98 T x1 x2 x3 x4 rc3 rc47))))))
def m10_layClimb_L47 (x1 : Int32) (x2 : Int32) (x3 : Int32) (rc3 : Int32 × SX10 → Option (SX10)) (rc47 : Int32 × SX10 → Option (SX10)) (z : Int32 × SX10) : Option (SX10) := m10_layClimb_B47 x1 x2 x3 rc3 rc47 z.1 z.2
def m10_layClimb_J41 (T : SX10) (x1 : Int32) (x2 : Int32) (x3 : Int32) (y1 : Int32) (y2 : Int32) (rc3 : Int32 × SX10 → Option (SX10)) : Option (SX10) :=
  tgd (tin y1 14) (tnm (x3 + (1 : Int32)) (fun v1 => tit (m10_layClimb_L47 x1 x2 x3 rc3) FU (v1, (s10_rows T (upd (g10_rows T) (Int32.toNatClampNeg y1) y2)))))
def m10_layClimb_J24 (T : SX10) (x1 : Int32) (x2 : Int32) (x3 : Int32) (y1 : Int32) (y2 : Int32) (rc3 : Int32 × SX10 → Option (SX10)) : Option (SX10) :=
  tgd (tin y1 14) ((if x3 = (13 : Int32) then m10_layClimb_J41 (s10_few T (upd (g10_few T) (Int32.toNatClampNeg y1) y2)) x1 x2 x3 x3 (1 : Int32) rc3
  else m10_layClimb_J41 (s10_few T (upd (g10_few T) (Int32.toNatClampNeg y1) y2)) x1 x2 x3 x3 (0 : Int32) rc3))
def m10_layClimb_B3 (x1 : Int32) (x2 : Int32) (rc3 : Int32 × SX10 → Option (SX10)) (x3 : Int32) (T : SX10) : Option (SX10) :=
  (if x3 < 0 then some T
  else (if x3 = (13 : Int32) then m10_layClimb_J24 T x1 x2 x3 x3 (0 : Int32) rc3
  else m10_layClimb_J24 T x1 x2 x3 x3 (1000000 : Int32) rc3))
def m10_layClimb_L3 (x1 : Int32) (x2 : Int32) (rc3 : Int32 × SX10 → Option (SX10)) (z : Int32 × SX10) : Option (SX10) := m10_layClimb_B3 x1 x2 rc3 z.1 z.2
def m10_layClimb (T : SX10) (a1 : Int32) (a2 : Int32) : Option (SX10) :=
  tit (m10_layClimb_L3 a1 a2) FU ((13 : Int32), T)
def m10_climb_J111 (T : SX10) (x1 : Int32) (x3 : Int32) (x4 : Int32) (rc71 : Int32 → Option (Int32 × SX10)) : Option (Int32 × SX10) :=
  tgd (tin x4 14) (tgd (tin x3 14) ((if ((g10_few T) (Int32.toNatClampNeg x4)) = (((g10_few T) (Int32.toNatClampNeg x3)) - (1 : Int32)) then some (x4, T)
  else tnm (x4 + (1 : Int32)) (fun v11 => rc71 v11))))
def m10_climb_B71 (T : SX10) (x1 : Int32) (x3 : Int32) (rc71 : Int32 → Option (Int32 × SX10)) (x4 : Int32) : Option (Int32 × SX10) :=
  tgd (tin ((26 : Int32) + x1) 47) ((if (x3 + ((g10_now T) (Int32.toNatClampNeg ((26 : Int32) + x1)))) < x4 then some ((-6 : Int32), T)
  else (if (13 : Int32) < x4 then some ((-6 : Int32), T)
  else (if x4 = (13 : Int32) then m10_climb_J111 T x1 x3 x4 rc71
  else tbd (m10_may T x1 x4) (fun r12 => (if r12 = 0 then tnm (x4 + (1 : Int32)) (fun v14 => rc71 v14)
  else m10_climb_J111 T x1 x3 x4 rc71))))))
def m10_climb_L71 (T : SX10) (x1 : Int32) (x3 : Int32) (rc71 : Int32 → Option (Int32 × SX10)) (z : Int32) : Option (Int32 × SX10) := m10_climb_B71 T x1 x3 rc71 z
def m10_climb (T : SX10) (a1 : Int32) (a2 : Int32) : Option (Int32 × SX10) :=
  tbd (m10_isMan a1) (fun r1 => (if r1 = 0 then some ((-1 : Int32), T)
  else tbd (m10_in a2 (0 : Int32) (1 : Int32)) (fun r3 => (if r3 = 0 then some ((-2 : Int32), T)
  else tbd (m10_asNow T) (fun r5 => tbd (m10_layClimb r5 a1 (0 : Int32)) (fun r7 => tgd (tin ((38 : Int32) + a1) 47) (tnm ((g10_now r7) (Int32.toNatClampNeg ((38 : Int32) + a1))) (fun v9 => tgd (tin v9 14) ((if ((g10_few r7) (Int32.toNatClampNeg v9)) < (1000000 : Int32) then (if a2 = 0 then tgd (tin v9 14) (some (((g10_few r7) (Int32.toNatClampNeg v9)), r7))
  else tnm (v9 + (1 : Int32)) (fun v10 => tit (m10_climb_L71 r7 a1 v9) FU v10))
  else some ((-6 : Int32), r7)))))))))))
def m10_ways (T : SX10) (a1 : Int32) : Option (Int32 × SX10) :=
  tbd (m10_isMan a1) (fun r1 => (if r1 = 0 then some ((-1 : Int32), T)
  else tbd (m10_asNow T) (fun r3 => tbd (m10_layClimb r3 a1 (0 : Int32)) (fun r5 => tgd (tin ((38 : Int32) + a1) 47) (tgd (tin ((g10_now r5) (Int32.toNatClampNeg ((38 : Int32) + a1))) 14) (some (((g10_rows r5) (Int32.toNatClampNeg ((g10_now r5) (Int32.toNatClampNeg ((38 : Int32) + a1))))), r5)))))))
def m10_leases_J141 (T : SX10) (x1 : Int32) (x2 : Int32) (x3 : Int32) (x4 : Int32) (x5 : Int32) (rc106 : Int32 × Int32 × SX10 → Option (Int32 × SX10)) : Option (Int32 × SX10) :=
  tbd (m10_layClimb T x1 x5) (fun r10 => tgd (tin ((38 : Int32) + x1) 47) (tgd (tin ((g10_now r10) (Int32.toNatClampNeg ((38 : Int32) + x1))) 14) ((if (1000000 : Int32) ≤ ((g10_few r10) (Int32.toNatClampNeg ((g10_now r10) (Int32.toNatClampNeg ((38 : Int32) + x1))))) then tnm (x5 + (1 : Int32)) (fun v12 => rc106 (x4, v12, r10))
  else tnm (x5 + (1 : Int32)) (fun v13 => rc106 (x5, v13, r10))))))
def m10_leases_B106 (x1 : Int32) (x2 : Int32) (x3 : Int32) (rc106 : Int32 × Int32 × SX10 → Option (Int32 × SX10)) (x4 : Int32) (x5 : Int32) (T : SX10) : Option (Int32 × SX10) :=
  (if (4096 : Int32) ≤ x5 then (if x4 < 0 then some (x4, T)
  else (if x2 = (1 : Int32) then some (x4, T)
  else tbd (m10_bits x4) (fun r7 => some (r7, T))))
  else (if (x5 &&& (x3 ^^^ (-1 : Int32))) = 0 then (if x4 < 0 then m10_leases_J141 T x1 x2 x3 x4 x5 rc106
  else tbd (m10_bits x5) (fun r14 => tbd (m10_bits x4) (fun r16 => (if r16 ≤ r14 then tnm (x5 + (1 : Int32)) (fun v18 => rc106 (x4, v18, T))
  else m10_leases_J141 T x1 x2 x3 x4 x5 rc106))))
  else tnm (x5 + (1 : Int32)) (fun v9 => rc106 (x4, v9, T))))
def m10_leases_L106 (x1 : Int32) (x2 : Int32) (x3 : Int32) (rc106 : Int32 × Int32 × SX10 → Option (Int32 × SX10)) (z : Int32 × Int32 × SX10) : Option (Int32 × SX10) := m10_leases_B106 x1 x2 x3 rc106 z.1 z.2.1 z.2.2
def m10_leases_J91 (T : SX10) (x1 : Int32) (x2 : Int32) (x4 : Int32) (y0 : Int32) (y1 : Int32) (rc30 : Int32 × Int32 → Option (Int32 × SX10)) : Option (Int32 × SX10) :=
  tnm (y0 ||| y1) (fun v21 => tnm (x4 + (1 : Int32)) (fun v22 => rc30 (v21, v22)))
def m10_leases_J90 (T : SX10) (x1 : Int32) (x2 : Int32) (x4 : Int32) (y0 : Int32) (rc30 : Int32 × Int32 → Option (Int32 × SX10)) : Option (Int32 × SX10) :=
  m10_leases_J91 T x1 x2 x4 y0 (0 : Int32) rc30
def m10_leases_B30 (T : SX10) (x1 : Int32) (x2 : Int32) (rc30 : Int32 × Int32 → Option (Int32 × SX10)) (x3 : Int32) (x4 : Int32) : Option (Int32 × SX10) :=
  (if (13 : Int32) ≤ x4 then tit (m10_leases_L106 x1 x2 x3) FU ((-6 : Int32), (0 : Int32), T)
  else tbd (m10_isMissing T x4) (fun r19 => (if r19 = 0 then tgd (tin x4 47) ((if ((g10_now T) (Int32.toNatClampNeg x4)) < 0 then m10_leases_J90 T x1 x2 x4 x3 rc30
  else tgd (tin x4 47) ((if ((g10_now T) (Int32.toNatClampNeg x4)) = x1 then m10_leases_J90 T x1 x2 x4 x3 rc30
  else tgd (tin ((13 : Int32) + x4) 47) ((if 0 ≤ ((g10_now T) (Int32.toNatClampNeg ((13 : Int32) + x4))) then m10_leases_J90 T x1 x2 x4 x3 rc30
  else m10_leases_J91 T x1 x2 x4 x3 ((1 : Int32) <<< ((x4 - (1 : Int32)) &&& 31)) rc30))))))
  else m10_leases_J90 T x1 x2 x4 x3 rc30)))
def m10_leases_L30 (T : SX10) (x1 : Int32) (x2 : Int32) (rc30 : Int32 × Int32 → Option (Int32 × SX10)) (z : Int32 × Int32) : Option (Int32 × SX10) := m10_leases_B30 T x1 x2 rc30 z.1 z.2
def m10_leases (T : SX10) (a1 : Int32) (a2 : Int32) : Option (Int32 × SX10) :=
  tbd (m10_isMan a1) (fun r1 => (if r1 = 0 then some ((-1 : Int32), T)
  else tbd (m10_in a2 (0 : Int32) (1 : Int32)) (fun r3 => (if r3 = 0 then some ((-2 : Int32), T)
  else tbd (m10_asNow T) (fun r5 => tit (m10_leases_L30 r5 a1 a2) FU ((0 : Int32), (1 : Int32)))))))
def m10_most_J180 (T : SX10) (x3 : Int32) (x4 : Int32) (rc146 : Int32 × Int32 → Option (Int32 × SX10)) : Option (Int32 × SX10) :=
  tnm (x4 + (1 : Int32)) (fun v1 => rc146 (x3, v1))
def m10_most_B146 (T : SX10) (rc146 : Int32 × Int32 → Option (Int32 × SX10)) (x3 : Int32) (x4 : Int32) : Option (Int32 × SX10) :=
  (if (64 : Int32) ≤ x4 then some (x3, T)
  else tgd (tin x4 64) ((if ((g10_can T) (Int32.toNatClampNeg x4)) = 0 then m10_most_J180 T x3 x4 rc146
  else tbd (m10_bits x4) (fun r2 => (if r2 ≤ x3 then m10_most_J180 T x3 x4 rc146
  else tbd (m10_bits x4) (fun r4 => tnm (x4 + (1 : Int32)) (fun v6 => rc146 (r4, v6))))))))
def m10_most_L146 (T : SX10) (rc146 : Int32 × Int32 → Option (Int32 × SX10)) (z : Int32 × Int32) : Option (Int32 × SX10) := m10_most_B146 T rc146 z.1 z.2
def m10_most_J117 (T : SX10) (x1 : Int32) (x2 : Int32) (x3 : Int32) (x4 : Int32) (x5 : Int32) (y1 : Int32) (rc31 : Int32 × SX10 → Option (Int32 × SX10)) (rc41 : Int32 × SX10 → Option (Int32 × SX10)) (rc57 : Int32 × SX10 → Option (Int32 × SX10)) : Option (Int32 × SX10) :=
  tgd (tin y1 64) (tnm (x5 + (1 : Int32)) (fun v12 => rc57 (v12, (s10_can T (upd (g10_can T) (Int32.toNatClampNeg y1) (vp_nar .boolean (1 : Int32)))))))
def m10_most_J121 (T : SX10) (x1 : Int32) (x2 : Int32) (x3 : Int32) (x4 : Int32) (x5 : Int32) (y1 : Int32) (rc31 : Int32 × SX10 → Option (Int32 × SX10)) (rc41 : Int32 × SX10 → Option (Int32 × SX10)) (rc57 : Int32 × SX10 → Option (Int32 × SX10)) : Option (Int32 × SX10) :=
  tgd (tin y1 64) (tnm (x5 + (1 : Int32)) (fun v15 => rc57 (v15, (s10_can T (upd (g10_can T) (Int32.toNatClampNeg y1) (vp_nar .boolean (0 : Int32)))))))
def m10_most_B57 (x1 : Int32) (x2 : Int32) (x3 : Int32) (x4 : Int32) (rc31 : Int32 × SX10 → Option (Int32 × SX10)) (rc41 : Int32 × SX10 → Option (Int32 × SX10)) (rc57 : Int32 × SX10 → Option (Int32 × SX10)) (x5 : Int32) (T : SX10) : Option (Int32 × SX10) :=
  (if (6 : Int32) ≤ x5 then tnm (x4 + (-1 : Int32)) (fun v11 => rc41 (v11, T))
  else tgd (tin x4 64) ((if ((g10_can T) (Int32.toNatClampNeg x4)) = 0 then tbd (m10_has x4 x5) (fun r13 => (if r13 = 0 then m10_most_J121 T x1 x2 x3 x4 x5 x4 rc31 rc41 rc57
  else tbd (m10_may T x5 x3) (fun r16 => (if r16 = 0 then m10_most_J121 T x1 x2 x3 x4 x5 x4 rc31 rc41 rc57
  else tgd (tin (x4 &&& (((1 : Int32) <<< (x5 &&& 31)) ^^^ (-1 : Int32))) 64) ((if ((g10_can T) (Int32.toNatClampNeg (x4 &&& (((1 : Int32) <<< (x5 &&& 31)) ^^^ (-1 : Int32))))) = 0 then m10_most_J121 T x1 x2 x3 x4 x5 x4 rc31 rc41 rc57
  else m10_most_J117 T x1 x2 x3 x4 x5 x4 rc31 rc41 rc57))))))
  else m10_most_J117 T x1 x2 x3 x4 x5 x4 rc31 rc41 rc57)))
def m10_most_L57 (x1 : Int32) (x2 : Int32) (x3 : Int32) (x4 : Int32) (rc31 : Int32 × SX10 → Option (Int32 × SX10)) (rc41 : Int32 × SX10 → Option (Int32 × SX10)) (rc57 : Int32 × SX10 → Option (Int32 × SX10)) (z : Int32 × SX10) : Option (Int32 × SX10) := m10_most_B57 x1 x2 x3 x4 rc31 rc41 rc57 z.1 z.2
def m10_most_B41 (x1 : Int32) (x2 : Int32) (x3 : Int32) (rc31 : Int32 × SX10 → Option (Int32 × SX10)) (rc41 : Int32 × SX10 → Option (Int32 × SX10)) (x4 : Int32) (T : SX10) : Option (Int32 × SX10) :=
  (if x4 ≤ 0 then tnm (x3 + (1 : Int32)) (fun v7 => rc31 (v7, T))
  else tbd (m10_has x2 x3) (fun r8 => (if r8 = 0 then tit (m10_most_L57 x1 x2 x3 x4 rc31 rc41) FU (x1, T)
  else tnm (x3 + (1 : Int32)) (fun v10 => rc31 (v10, T)))))
def m10_most_L41 (x1 : Int32) (x2 : Int32) (x3 : Int32) (rc31 : Int32 × SX10 → Option (Int32 × SX10)) (rc41 : Int32 × SX10 → Option (Int32 × SX10)) (z : Int32 × SX10) : Option (Int32 × SX10) := m10_most_B41 x1 x2 x3 rc31 rc41 z.1 z.2
def m10_most_B31 (x1 : Int32) (x2 : Int32) (rc31 : Int32 × SX10 → Option (Int32 × SX10)) (x3 : Int32) (T : SX10) : Option (Int32 × SX10) :=
  (if (13 : Int32) ≤ x3 then tit (m10_most_L146 T) FU ((0 : Int32), (1 : Int32))
  else tit (m10_most_L41 x1 x2 x3 rc31) FU ((63 : Int32), T))
def m10_most_L31 (x1 : Int32) (x2 : Int32) (rc31 : Int32 × SX10 → Option (Int32 × SX10)) (z : Int32 × SX10) : Option (Int32 × SX10) := m10_most_B31 x1 x2 rc31 z.1 z.2
def m10_most_B2 (x1 : Int32) (x2 : Int32) (rc2 : Int32 × SX10 → Option (Int32 × SX10)) (x3 : Int32) (T : SX10) : Option (Int32 × SX10) :=
  (if (64 : Int32) ≤ x3 then tit (m10_most_L31 x1 x2) FU ((1 : Int32), T)
  else (if x3 = 0 then tgd (tin x3 64) (tnm (x3 + (1 : Int32)) (fun v19 => rc2 (v19, (s10_can T (upd (g10_can T) (Int32.toNatClampNeg x3) (vp_nar .boolean (1 : Int32)))))))
  else tgd (tin x3 64) (tnm (x3 + (1 : Int32)) (fun v18 => rc2 (v18, (s10_can T (upd (g10_can T) (Int32.toNatClampNeg x3) (vp_nar .boolean (0 : Int32)))))))))
def m10_most_L2 (x1 : Int32) (x2 : Int32) (rc2 : Int32 × SX10 → Option (Int32 × SX10)) (z : Int32 × SX10) : Option (Int32 × SX10) := m10_most_B2 x1 x2 rc2 z.1 z.2
def m10_most (T : SX10) (a1 : Int32) (a2 : Int32) : Option (Int32 × SX10) :=
  tit (m10_most_L2 a1 a2) FU ((0 : Int32), T)
def m10_stand_J144 (T : SX10) (x1 : Int32) (x3 : Int32) (x4 : Int32) (x5 : Int32) (y0 : Int32) (y1 : Int32) (rc37 : Int32 × Int32 × Int32 × Int32 × SX10 → Option (Int32 × SX10)) : Option (Int32 × SX10) :=
  tnm (y0 - y1) (fun v9 => tnm (x5 + (1 : Int32)) (fun v10 => rc37 (v9, x3, x4, v10, T)))
def m10_stand_J131 (T : SX10) (x1 : Int32) (x2 : Int32) (x4 : Int32) (x5 : Int32) (y0 : Int32) (y1 : Int32) (rc37 : Int32 × Int32 × Int32 × Int32 × SX10 → Option (Int32 × SX10)) : Option (Int32 × SX10) :=
  tnm (y0 ||| y1) (fun v8 => (if 0 ≤ x4 then m10_stand_J144 T x1 v8 x4 x5 x2 (1 : Int32) rc37
  else m10_stand_J144 T x1 v8 x4 x5 x2 (0 : Int32) rc37))
def m10_stand_J117 (T : SX10) (x1 : Int32) (x2 : Int32) (x3 : Int32) (x4 : Int32) (x5 : Int32) (rc37 : Int32 × Int32 × Int32 × Int32 × SX10 → Option (Int32 × SX10)) : Option (Int32 × SX10) :=
  (if 0 ≤ x4 then m10_stand_J131 T x1 x2 x4 x5 x3 ((1 : Int32) <<< (x4 &&& 31)) rc37
  else m10_stand_J131 T x1 x2 x4 x5 x3 (0 : Int32) rc37)
def m10_stand_J107 (T : SX10) (x1 : Int32) (x2 : Int32) (x3 : Int32) (x4 : Int32) (x5 : Int32) (x6 : Int32) (rc37 : Int32 × Int32 × Int32 × Int32 × SX10 → Option (Int32 × SX10)) (rc50 : Int32 × Int32 × SX10 → Option (Int32 × SX10)) : Option (Int32 × SX10) :=
  tnm (x6 + (1 : Int32)) (fun v13 => rc50 (x4, v13, T))
def m10_stand_B50 (x1 : Int32) (x2 : Int32) (x3 : Int32) (x5 : Int32) (rc37 : Int32 × Int32 × Int32 × Int32 × SX10 → Option (Int32 × SX10)) (rc50 : Int32 × Int32 × SX10 → Option (Int32 × SX10)) (x4 : Int32) (x6 : Int32) (T : SX10) : Option (Int32 × SX10) :=
  (if (13 : Int32) ≤ x6 then m10_stand_J117 T x1 x2 x3 x4 x5 rc37
  else (if 0 ≤ x4 then m10_stand_J117 T x1 x2 x3 x4 x5 rc37
  else tbd (m10_has x3 x6) (fun r11 => (if r11 = 0 then tbd (m10_may T x5 x6) (fun r14 => (if r14 = 0 then m10_stand_J107 T x1 x2 x3 x4 x5 x6 rc37 rc50
  else tbd (m10_most T (x5 + (1 : Int32)) (x3 ||| ((1 : Int32) <<< (x6 &&& 31)))) (fun r16 => (if ((1 : Int32) + r16.1) = x2 then tnm (x6 + (1 : Int32)) (fun v18 => rc50 (x6, v18, r16.2))
  else m10_stand_J107 r16.2 x1 x2 x3 x4 x5 x6 rc37 rc50))))
  else m10_stand_J107 T x1 x2 x3 x4 x5 x6 rc37 rc50))))
def m10_stand_L50 (x1 : Int32) (x2 : Int32) (x3 : Int32) (x5 : Int32) (rc37 : Int32 × Int32 × Int32 × Int32 × SX10 → Option (Int32 × SX10)) (rc50 : Int32 × Int32 × SX10 → Option (Int32 × SX10)) (z : Int32 × Int32 × SX10) : Option (Int32 × SX10) := m10_stand_B50 x1 x2 x3 x5 rc37 rc50 z.1 z.2.1 z.2.2
def m10_stand_B37 (x1 : Int32) (rc37 : Int32 × Int32 × Int32 × Int32 × SX10 → Option (Int32 × SX10)) (x2 : Int32) (x3 : Int32) (x4 : Int32) (x5 : Int32) (T : SX10) : Option (Int32 × SX10) :=
  (if x1 < x5 then some (x4, T)
  else tit (m10_stand_L50 x1 x2 x3 x5 rc37) FU ((-6 : Int32), (1 : Int32), T))
def m10_stand_L37 (x1 : Int32) (rc37 : Int32 × Int32 × Int32 × Int32 × SX10 → Option (Int32 × SX10)) (z : Int32 × Int32 × Int32 × Int32 × SX10) : Option (Int32 × SX10) := m10_stand_B37 x1 rc37 z.1 z.2.1 z.2.2.1 z.2.2.2.1 z.2.2.2.2
def m10_stand (T : SX10) (a1 : Int32) : Option (Int32 × SX10) :=
  tbd (m10_in a1 (-1 : Int32) (5 : Int32)) (fun r1 => (if r1 = 0 then some ((-1 : Int32), T)
  else tbd (m10_asNow T) (fun r3 => tbd (m10_most r3 (0 : Int32) (0 : Int32)) (fun r5 => tnm r5.1 (fun v7 => (if 0 ≤ a1 then tit (m10_stand_L37 a1) FU (v7, (0 : Int32), (-6 : Int32), (0 : Int32), r5.2)
  else some (v7, r5.2)))))))
def m10_wetOnes_J161 (T : SX10) (x1 : Int32) (x2 : Int32) (x4 : Int32) (x5 : Int32) (y0 : Int32) (rc13 : Int32 × Int32 × Int32 → Option (Int32)) : Option (Int32) :=
  tnm (y0 ||| (0 : Int32)) (fun v3 => rc13 (v3, x4, x5))
def m10_wetOnes_J139 (T : SX10) (x1 : Int32) (x2 : Int32) (x3 : Int32) (x5 : Int32) (x6 : Int32) (y0 : Int32) (rc13 : Int32 × Int32 × Int32 → Option (Int32)) : Option (Int32) :=
  (if x5 = 0 then m10_wetOnes_J161 T x1 x2 y0 x5 x3 rc13
  else (if (13 : Int32) ≤ x6 then m10_wetOnes_J161 T x1 x2 y0 x5 x3 rc13
  else tnm (x3 ||| ((1 : Int32) <<< (x6 &&& 31))) (fun v4 => rc13 (v4, y0, x5))))
def m10_wetOnes_J125 (T : SX10) (x1 : Int32) (x2 : Int32) (x3 : Int32) (x4 : Int32) (x6 : Int32) (y0 : Int32) (rc13 : Int32 × Int32 × Int32 → Option (Int32)) : Option (Int32) :=
  (if y0 = 0 then m10_wetOnes_J139 T x1 x2 x3 y0 x6 x4 rc13
  else m10_wetOnes_J139 T x1 x2 x3 y0 x6 x6 rc13)
def m10_wetOnes_J115 (T : SX10) (x1 : Int32) (x2 : Int32) (x3 : Int32) (x4 : Int32) (x6 : Int32) (rc13 : Int32 × Int32 × Int32 → Option (Int32)) : Option (Int32) :=
  (if x6 ≤ 0 then m10_wetOnes_J125 T x1 x2 x3 x4 x6 (0 : Int32) rc13
  else m10_wetOnes_J125 T x1 x2 x3 x4 x6 (1 : Int32) rc13)
def m10_wetOnes_J105 (T : SX10) (x1 : Int32) (x2 : Int32) (x3 : Int32) (x4 : Int32) (x6 : Int32) (x7 : Int32) (rc13 : Int32 × Int32 × Int32 → Option (Int32)) (rc35 : Int32 × Int32 → Option (Int32)) : Option (Int32) :=
  tnm (x7 + (1 : Int32)) (fun v5 => rc35 (x6, v5))
def m10_wetOnes_J100 (T : SX10) (x1 : Int32) (x2 : Int32) (x3 : Int32) (x4 : Int32) (x7 : Int32) (rc13 : Int32 × Int32 × Int32 → Option (Int32)) (rc35 : Int32 × Int32 → Option (Int32)) : Option (Int32) :=
  tnm (x7 + (1 : Int32)) (fun v6 => rc35 (x7, v6))
def m10_wetOnes_J81 (T : SX10) (x1 : Int32) (x2 : Int32) (x3 : Int32) (x4 : Int32) (x6 : Int32) (x7 : Int32) (y0 : Int32) (rc13 : Int32 × Int32 × Int32 → Option (Int32)) (rc35 : Int32 × Int32 → Option (Int32)) : Option (Int32) :=
  (if y0 = 0 then m10_wetOnes_J105 T x1 x2 x3 x4 x6 x7 rc13 rc35
  else (if x6 < 0 then m10_wetOnes_J100 T x1 x2 x3 x4 x7 rc13 rc35
  else (if (irem x1 (10 : Int32)) = 0 then m10_wetOnes_J100 T x1 x2 x3 x4 x7 rc13 rc35
  else m10_wetOnes_J105 T x1 x2 x3 x4 x6 x7 rc13 rc35)))
def m10_wetOnes_J76 (T : SX10) (x1 : Int32) (x2 : Int32) (x3 : Int32) (x4 : Int32) (x6 : Int32) (x7 : Int32) (rc13 : Int32 × Int32 × Int32 → Option (Int32)) (rc35 : Int32 × Int32 → Option (Int32)) : Option (Int32) :=
  m10_wetOnes_J81 T x1 x2 x3 x4 x6 x7 (1 : Int32) rc13 rc35
def m10_wetOnes_B35 (T : SX10) (x1 : Int32) (x2 : Int32) (x3 : Int32) (x4 : Int32) (rc13 : Int32 × Int32 × Int32 → Option (Int32)) (rc35 : Int32 × Int32 → Option (Int32)) (x6 : Int32) (x7 : Int32) : Option (Int32) :=
  tgd (tin ((26 : Int32) + x2) 47) ((if (x4 + ((g10_now T) (Int32.toNatClampNeg ((26 : Int32) + x2)))) < x7 then m10_wetOnes_J115 T x1 x2 x3 x4 x6 rc13
  else (if (13 : Int32) < x7 then m10_wetOnes_J115 T x1 x2 x3 x4 x6 rc13
  else (if x7 = (13 : Int32) then m10_wetOnes_J76 T x1 x2 x3 x4 x6 x7 rc13 rc35
  else tbd (m10_may T x2 x7) (fun r7 => (if r7 = 0 then m10_wetOnes_J81 T x1 x2 x3 x4 x6 x7 (0 : Int32) rc13 rc35
  else m10_wetOnes_J76 T x1 x2 x3 x4 x6 x7 rc13 rc35))))))
def m10_wetOnes_L35 (T : SX10) (x1 : Int32) (x2 : Int32) (x3 : Int32) (x4 : Int32) (rc13 : Int32 × Int32 × Int32 → Option (Int32)) (rc35 : Int32 × Int32 → Option (Int32)) (z : Int32 × Int32) : Option (Int32) := m10_wetOnes_B35 T x1 x2 x3 x4 rc13 rc35 z.1 z.2
def m10_wetOnes_B13 (T : SX10) (x1 : Int32) (x2 : Int32) (rc13 : Int32 × Int32 × Int32 → Option (Int32)) (x3 : Int32) (x4 : Int32) (x5 : Int32) : Option (Int32) :=
  (if x5 = 0 then some x3
  else (if (13 : Int32) ≤ x4 then some x3
  else tnm (x4 + (1 : Int32)) (fun v2 => tit (m10_wetOnes_L35 T x1 x2 x3 x4 rc13) FU ((-6 : Int32), v2))))
def m10_wetOnes_L13 (T : SX10) (x1 : Int32) (x2 : Int32) (rc13 : Int32 × Int32 × Int32 → Option (Int32)) (z : Int32 × Int32 × Int32) : Option (Int32) := m10_wetOnes_B13 T x1 x2 rc13 z.1 z.2.1 z.2.2
def m10_wetOnes (T : SX10) (a1 : Int32) : Option (Int32) :=
  tnm (a1 / (10 : Int32)) (fun v1 => tit (m10_wetOnes_L13 T a1 v1) FU ((0 : Int32), (0 : Int32), (1 : Int32)))
def m10_felt_J54 (T : SX10) (y1 : Int32) (y2 : Int32) : Option (Int32 × SX10) :=
  tgd (tin y1 16) (some (((g10_sights T) + (1 : Int32)), (s10_sight (s10_sights T ((g10_sights T) + (1 : Int32))) (upd (g10_sight T) (Int32.toNatClampNeg y1) y2))))
def m10_felt (T : SX10) (a1 : Int32) (a2 : Int32) : Option (Int32 × SX10) :=
  tbd (m10_isRung a1) (fun r1 => (if r1 = 0 then some ((-1 : Int32), T)
  else (if (g10_sights T) = (8 : Int32) then some ((-4 : Int32), T)
  else tgd (tin ((2 : Int32) * (g10_sights T)) 16) ((if a2 = 0 then m10_felt_J54 (s10_sight T (upd (g10_sight T) (Int32.toNatClampNeg ((2 : Int32) * (g10_sights T))) a1)) (((2 : Int32) * (g10_sights T)) + (1 : Int32)) (0 : Int32)
  else m10_felt_J54 (s10_sight T (upd (g10_sight T) (Int32.toNatClampNeg ((2 : Int32) * (g10_sights T))) a1)) (((2 : Int32) * (g10_sights T)) + (1 : Int32)) (1 : Int32))))))
def m10_forget (T : SX10) : Option (Int32 × SX10) :=
  tnm (g10_sights T) (fun v1 => some (v1, (s10_sights T (0 : Int32))))
def m10_isFit_J63 (T : SX10) (x1 : Int32) (x3 : Int32) (y0 : Int32) (y1 : Int32) (rc16 : Int32 × Int32 → Option (Int32)) : Option (Int32) :=
  (if y0 = y1 then tnm (x3 + (1 : Int32)) (fun v6 => rc16 ((1 : Int32), v6))
  else tnm (x3 + (1 : Int32)) (fun v5 => rc16 ((0 : Int32), v5)))
def m10_isFit_B16 (T : SX10) (x1 : Int32) (rc16 : Int32 × Int32 → Option (Int32)) (x2 : Int32) (x3 : Int32) : Option (Int32) :=
  (if (g10_sights T) ≤ x3 then tgd (tbl x2) (some x2)
  else (if x2 = 0 then tgd (tbl x2) (some x2)
  else tbd (m10_wetOnes T x1) (fun r1 => tgd (tin ((2 : Int32) * x3) 16) (tbd (m10_has r1 ((g10_sight T) (Int32.toNatClampNeg ((2 : Int32) * x3)))) (fun r3 => tgd (tin (((2 : Int32) * x3) + (1 : Int32)) 16) ((if ((g10_sight T) (Int32.toNatClampNeg (((2 : Int32) * x3) + (1 : Int32)))) = (1 : Int32) then m10_isFit_J63 T x1 x3 r3 (1 : Int32) rc16
  else m10_isFit_J63 T x1 x3 r3 (0 : Int32) rc16)))))))
def m10_isFit_L16 (T : SX10) (x1 : Int32) (rc16 : Int32 × Int32 → Option (Int32)) (z : Int32 × Int32) : Option (Int32) := m10_isFit_B16 T x1 rc16 z.1 z.2
def m10_isFit (T : SX10) (a1 : Int32) : Option (Int32) :=
  (if (2 : Int32) ≤ (irem a1 (10 : Int32)) then tit (m10_isFit_L16 T a1) FU ((0 : Int32), (0 : Int32))
  else tit (m10_isFit_L16 T a1) FU ((1 : Int32), (0 : Int32)))
def m10_ups_B8 (T : SX10) (x1 : Int32) (rc8 : Int32 × Int32 → Option (Int32 × SX10)) (x2 : Int32) (x3 : Int32) : Option (Int32 × SX10) :=
  (if (60 : Int32) ≤ x3 then (if x1 = (-1 : Int32) then some (x2, T)
  else some ((-6 : Int32), T))
  else tbd (m10_isFit T x3) (fun r3 => (if r3 = 0 then tnm (x3 + (1 : Int32)) (fun v5 => rc8 (x2, v5))
  else (if x2 = x1 then some (x3, T)
  else tnm (x2 + (1 : Int32)) (fun v6 => tnm (x3 + (1 : Int32)) (fun v7 => rc8 (v6, v7)))))))
def m10_ups_L8 (T : SX10) (x1 : Int32) (rc8 : Int32 × Int32 → Option (Int32 × SX10)) (z : Int32 × Int32) : Option (Int32 × SX10) := m10_ups_B8 T x1 rc8 z.1 z.2
def m10_ups (T : SX10) (a1 : Int32) : Option (Int32 × SX10) :=
  tbd (m10_asNow T) (fun r1 => tit (m10_ups_L8 r1 a1) FU ((0 : Int32), (0 : Int32)))
def m10_ask_J157 (T : SX10) (x1 : Int32) (x3 : Int32) (x4 : Int32) (x7 : Int32) (x8 : Int32) (y0 : Int32) (rc25 : Int32 × Int32 × Int32 → Option (Int32 × SX10)) : Option (Int32 × SX10) :=
  (if x8 = 0 then tnm (x4 + (1 : Int32)) (fun v5 => rc25 (y0, x3, v5))
  else tnm (x4 + (1 : Int32)) (fun v6 => rc25 (y0, x7, v6)))
def m10_ask_J144 (T : SX10) (x1 : Int32) (x2 : Int32) (x3 : Int32) (x4 : Int32) (x7 : Int32) (y0 : Int32) (rc25 : Int32 × Int32 × Int32 → Option (Int32 × SX10)) : Option (Int32 × SX10) :=
  (if y0 = 0 then m10_ask_J157 T x1 x3 x4 x7 y0 x2 rc25
  else m10_ask_J157 T x1 x3 x4 x7 y0 x4 rc25)
def m10_ask_J143 (T : SX10) (x1 : Int32) (x2 : Int32) (x3 : Int32) (x4 : Int32) (x7 : Int32) (rc25 : Int32 × Int32 × Int32 → Option (Int32 × SX10)) : Option (Int32 × SX10) :=
  m10_ask_J144 T x1 x2 x3 x4 x7 (0 : Int32) rc25
def m10_ask_J126 (T : SX10) (x1 : Int32) (x2 : Int32) (x3 : Int32) (x4 : Int32) (x5 : Int32) (y0 : Int32) (rc25 : Int32 × Int32 × Int32 → Option (Int32 × SX10)) : Option (Int32 × SX10) :=
  (if x5 ≤ 0 then m10_ask_J143 T x1 x2 x3 x4 y0 rc25
  else (if x3 ≤ y0 then m10_ask_J143 T x1 x2 x3 x4 y0 rc25
  else m10_ask_J144 T x1 x2 x3 x4 y0 (1 : Int32) rc25))
def m10_ask_J97 (T : SX10) (x1 : Int32) (x2 : Int32) (x3 : Int32) (x4 : Int32) (x5 : Int32) (x7 : Int32) (y0 : Int32) (y1 : Int32) (rc25 : Int32 × Int32 × Int32 → Option (Int32 × SX10)) (rc41 : Int32 × Int32 × Int32 → Option (Int32 × SX10)) : Option (Int32 × SX10) :=
  tnm (y0 + y1) (fun v10 => tnm (x7 + (1 : Int32)) (fun v11 => rc41 (x5, v10, v11)))
def m10_ask_J96 (T : SX10) (x1 : Int32) (x2 : Int32) (x3 : Int32) (x4 : Int32) (x5 : Int32) (x7 : Int32) (y0 : Int32) (rc25 : Int32 × Int32 × Int32 → Option (Int32 × SX10)) (rc41 : Int32 × Int32 × Int32 → Option (Int32 × SX10)) : Option (Int32 × SX10) :=
  m10_ask_J97 T x1 x2 x3 x4 x5 x7 y0 (0 : Int32) rc25 rc41
def m10_ask_J68 (T : SX10) (x1 : Int32) (x2 : Int32) (x3 : Int32) (x4 : Int32) (x6 : Int32) (x7 : Int32) (x8 : Int32) (y0 : Int32) (y1 : Int32) (rc25 : Int32 × Int32 × Int32 → Option (Int32 × SX10)) (rc41 : Int32 × Int32 × Int32 → Option (Int32 × SX10)) : Option (Int32 × SX10) :=
  tnm (y0 + y1) (fun v9 => (if x8 = 0 then m10_ask_J96 T x1 x2 x3 x4 v9 x7 x6 rc25 rc41
  else tbd (m10_wetOnes T x7) (fun r12 => tbd (m10_has r12 x4) (fun r14 => (if r14 = 0 then m10_ask_J96 T x1 x2 x3 x4 v9 x7 x6 rc25 rc41
  else m10_ask_J97 T x1 x2 x3 x4 v9 x7 x6 (1 : Int32) rc25 rc41)))))
def m10_ask_B41 (T : SX10) (x1 : Int32) (x2 : Int32) (x3 : Int32) (x4 : Int32) (rc25 : Int32 × Int32 × Int32 → Option (Int32 × SX10)) (rc41 : Int32 × Int32 × Int32 → Option (Int32 × SX10)) (x5 : Int32) (x6 : Int32) (x7 : Int32) : Option (Int32 × SX10) :=
  (if (60 : Int32) ≤ x7 then (if x6 ≤ (x5 - x6) then m10_ask_J126 T x1 x2 x3 x4 x5 (x5 - x6) rc25
  else m10_ask_J126 T x1 x2 x3 x4 x5 x6 rc25)
  else tbd (m10_isFit T x7) (fun r7 => (if r7 = 0 then m10_ask_J68 T x1 x2 x3 x4 x6 x7 r7 x5 (0 : Int32) rc25 rc41
  else m10_ask_J68 T x1 x2 x3 x4 x6 x7 r7 x5 (1 : Int32) rc25 rc41)))
def m10_ask_L41 (T : SX10) (x1 : Int32) (x2 : Int32) (x3 : Int32) (x4 : Int32) (rc25 : Int32 × Int32 × Int32 → Option (Int32 × SX10)) (rc41 : Int32 × Int32 × Int32 → Option (Int32 × SX10)) (z : Int32 × Int32 × Int32) : Option (Int32 × SX10) := m10_ask_B41 T x1 x2 x3 x4 rc25 rc41 z.1 z.2.1 z.2.2
def m10_ask_B25 (T : SX10) (x1 : Int32) (rc25 : Int32 × Int32 × Int32 → Option (Int32 × SX10)) (x2 : Int32) (x3 : Int32) (x4 : Int32) : Option (Int32 × SX10) :=
  (if (13 : Int32) ≤ x4 then (if x2 < 0 then some (x2, T)
  else (if x1 = 0 then some (x2, T)
  else some (x3, T)))
  else tit (m10_ask_L41 T x1 x2 x3 x4 rc25) FU ((0 : Int32), (0 : Int32), (0 : Int32)))
def m10_ask_L25 (T : SX10) (x1 : Int32) (rc25 : Int32 × Int32 × Int32 → Option (Int32 × SX10)) (z : Int32 × Int32 × Int32) : Option (Int32 × SX10) := m10_ask_B25 T x1 rc25 z.1 z.2.1 z.2.2
def m10_ask (T : SX10) (a1 : Int32) : Option (Int32 × SX10) :=
  tbd (m10_in a1 (0 : Int32) (1 : Int32)) (fun r1 => (if r1 = 0 then some ((-2 : Int32), T)
  else tbd (m10_asNow T) (fun r3 => tit (m10_ask_L25 r3 a1) FU ((-6 : Int32), (1000000 : Int32), (1 : Int32)))))
def m10_firstDown_J84 (T : SX10) (x1 : Int32) (x2 : Int32) (x3 : Int32) (rc2 : Int32 → Option (Int32)) : Option (Int32) :=
  (if x3 ≤ 0 then tnm (x2 + (1 : Int32)) (fun v5 => rc2 v5)
  else some x3)
def m10_firstDown_B26 (T : SX10) (x1 : Int32) (x2 : Int32) (rc2 : Int32 → Option (Int32)) (rc26 : Int32 × Int32 → Option (Int32)) (x3 : Int32) (x4 : Int32) : Option (Int32) :=
  (if x4 ≤ 0 then m10_firstDown_J84 T x1 x2 x3 rc2
  else tbd (m10_has x1 (x4 - (1 : Int32))) (fun r6 => (if r6 = 0 then tgd (tin ((x1 &&& (((1 : Int32) <<< ((x2 - (1 : Int32)) &&& 31)) ^^^ (-1 : Int32))) ||| ((1 : Int32) <<< ((x4 - (1 : Int32)) &&& 31))) 4096) ((if ((g10_wins T) (Int32.toNatClampNeg ((x1 &&& (((1 : Int32) <<< ((x2 - (1 : Int32)) &&& 31)) ^^^ (-1 : Int32))) ||| ((1 : Int32) <<< ((x4 - (1 : Int32)) &&& 31))))) = 0 then tnm (((100 : Int32) * x2) + x4) (fun v8 => tnm (x4 + (-1 : Int32)) (fun v9 => rc26 (v8, v9)))
  else tnm (x4 + (-1 : Int32)) (fun v10 => rc26 (x3, v10))))
  else m10_firstDown_J84 T x1 x2 x3 rc2)))
def m10_firstDown_L26 (T : SX10) (x1 : Int32) (x2 : Int32) (rc2 : Int32 → Option (Int32)) (rc26 : Int32 × Int32 → Option (Int32)) (z : Int32 × Int32) : Option (Int32) := m10_firstDown_B26 T x1 x2 rc2 rc26 z.1 z.2
def m10_firstDown_B2 (T : SX10) (x1 : Int32) (rc2 : Int32 → Option (Int32)) (x2 : Int32) : Option (Int32) :=
  (if (13 : Int32) ≤ x2 then some (-6 : Int32)
  else tbd (m10_has x1 (x2 - (1 : Int32))) (fun r1 => (if r1 = 0 then tnm (x2 + (1 : Int32)) (fun v3 => rc2 v3)
  else tnm (x2 - (1 : Int32)) (fun v4 => tit (m10_firstDown_L26 T x1 x2 rc2) FU ((-6 : Int32), v4)))))
def m10_firstDown_L2 (T : SX10) (x1 : Int32) (rc2 : Int32 → Option (Int32)) (z : Int32) : Option (Int32) := m10_firstDown_B2 T x1 rc2 z
def m10_firstDown (T : SX10) (a1 : Int32) : Option (Int32) :=
  tit (m10_firstDown_L2 T a1) FU (2 : Int32)
def m10_down_B25 (x1 : Int32) (x2 : Int32) (rc25 : Int32 × SX10 → Option (Int32 × SX10)) (x3 : Int32) (T : SX10) : Option (Int32 × SX10) :=
  (if x1 ≤ x3 then tbd (m10_firstDown T x1) (fun r5 => (if x2 = (1 : Int32) then some (r5, T)
  else (if 0 ≤ r5 then some ((1 : Int32), T)
  else some ((0 : Int32), T))))
  else tbd (m10_firstDown T x3) (fun r7 => (if r7 ≤ 0 then tgd (tin x3 4096) (tnm (x3 + (1 : Int32)) (fun v9 => rc25 (v9, (s10_wins T (upd (g10_wins T) (Int32.toNatClampNeg x3) (vp_nar .boolean (0 : Int32)))))))
  else tgd (tin x3 4096) (tnm (x3 + (1 : Int32)) (fun v10 => rc25 (v10, (s10_wins T (upd (g10_wins T) (Int32.toNatClampNeg x3) (vp_nar .boolean (1 : Int32))))))))))
def m10_down_L25 (x1 : Int32) (x2 : Int32) (rc25 : Int32 × SX10 → Option (Int32 × SX10)) (z : Int32 × SX10) : Option (Int32 × SX10) := m10_down_B25 x1 x2 rc25 z.1 z.2
def m10_down (T : SX10) (a1 : Int32) (a2 : Int32) : Option (Int32 × SX10) :=
  tbd (m10_in a1 (0 : Int32) (4095 : Int32)) (fun r1 => (if r1 = 0 then some ((-2 : Int32), T)
  else tbd (m10_in a2 (0 : Int32) (1 : Int32)) (fun r3 => (if r3 = 0 then some ((-2 : Int32), T)
  else tit (m10_down_L25 a1 a2) FU ((0 : Int32), T)))))
def m10_foot_B206 (T : SX10) (x4 : Int32) (x5 : Int64) (x7 : Int64) (rc206 : Int64 × Int64 → Option (Int64 × SX10)) (x9 : Int64) (x11 : Int64) : Option (Int64 × SX10) :=
  (if (lg_cmp x11 (0 : Int64)) = 0 then (if x4 = 0 then tgd (tnzl x9) (some ((x7 / x9), T))
  else tgd (tnzl x9) (some ((x5 / x9), T)))
  else tgd (tnzl x11) (tnm (lrem x9 x11) (fun v13 => tnm x11 (fun v14 => tnm v13 (fun v15 => rc206 (v14, v15))))))
def m10_foot_L206 (T : SX10) (x4 : Int32) (x5 : Int64) (x7 : Int64) (rc206 : Int64 × Int64 → Option (Int64 × SX10)) (z : Int64 × Int64) : Option (Int64 × SX10) := m10_foot_B206 T x4 x5 x7 rc206 z.1 z.2
def m10_foot_J196 (T : SX10) (x4 : Int32) (x5 : Int64) (y0 : Int64) : Option (Int64 × SX10) :=
  tnm y0 (fun v10 => tnm v10 (fun v11 => tnm x5 (fun v12 => tit (m10_foot_L206 T x4 x5 v10) FU (v11, v12))))
def m10_foot_B99 (x1 : Int32) (x2 : Int32) (x3 : Int32) (x4 : Int32) (x5 : Int64) (x7 : Int32) (rc63 : Int64 × Int32 × SX10 → Option (Int64 × SX10)) (rc99 : Int64 × Int32 × SX10 → Option (Int64 × SX10)) (x8 : Int64) (x10 : Int32) (T : SX10) : Option (Int64 × SX10) :=
  (if x1 < x10 then tnm (x7 + (1 : Int32)) (fun v18 => rc63 (x5, v18, T))
  else (if x7 < x10 then tnm (x7 + (1 : Int32)) (fun v19 => rc63 (x5, v19, T))
  else tgd (tin x7 13) (tgd (tin (x7 - x10) 13) (tgd (tin x7 13) (tgd (tin x7 13) (tgd (tin (x7 - x10) 13) (tgd (tin x7 13) (tnm (x8 * (Int32.toInt64 x1)) (fun v20 => tnm (x10 + (1 : Int32)) (fun v21 => rc99 (v20, v21, (s10_means (s10_odds T (vp_updL (g10_odds T) (Int32.toNatClampNeg x7) (((g10_odds T) (Int32.toNatClampNeg x7)) + (((g10_odds T) (Int32.toNatClampNeg (x7 - x10))) * x8)))) (vp_updL (g10_means T) (Int32.toNatClampNeg x7) (((g10_means T) (Int32.toNatClampNeg x7)) + (((g10_means T) (Int32.toNatClampNeg (x7 - x10))) * x8)))))))))))))))
def m10_foot_L99 (x1 : Int32) (x2 : Int32) (x3 : Int32) (x4 : Int32) (x5 : Int64) (x7 : Int32) (rc63 : Int64 × Int32 × SX10 → Option (Int64 × SX10)) (rc99 : Int64 × Int32 × SX10 → Option (Int64 × SX10)) (z : Int64 × Int32 × SX10) : Option (Int64 × SX10) := m10_foot_B99 x1 x2 x3 x4 x5 x7 rc63 rc99 z.1 z.2.1 z.2.2
def m10_foot_B63 (x1 : Int32) (x2 : Int32) (x3 : Int32) (x4 : Int32) (rc63 : Int64 × Int32 × SX10 → Option (Int64 × SX10)) (x5 : Int64) (x7 : Int32) (T : SX10) : Option (Int64 × SX10) :=
  (if x2 < x7 then (if x3 = 0 then tgd (tin x2 13) (m10_foot_J196 T x4 x5 ((g10_odds T) (Int32.toNatClampNeg x2)))
  else tgd (tin x2 13) (m10_foot_J196 T x4 x5 ((g10_means T) (Int32.toNatClampNeg x2))))
  else tnm (x5 * (Int32.toInt64 x1)) (fun v16 => tgd (tin x7 13) (tgd (tin x7 13) (tnm (1 : Int64) (fun v17 => tit (m10_foot_L99 x1 x2 x3 x4 v16 x7 rc63) FU (v17, (1 : Int32), (s10_means (s10_odds T (vp_updL (g10_odds T) (Int32.toNatClampNeg x7) (0 : Int64))) (vp_updL (g10_means T) (Int32.toNatClampNeg x7) v16))))))))
def m10_foot_L63 (x1 : Int32) (x2 : Int32) (x3 : Int32) (x4 : Int32) (rc63 : Int64 × Int32 × SX10 → Option (Int64 × SX10)) (z : Int64 × Int32 × SX10) : Option (Int64 × SX10) := m10_foot_B63 x1 x2 x3 x4 rc63 z.1 z.2.1 z.2.2
def m10_foot (T : SX10) (a1 : Int32) (a2 : Int32) (a3 : Int32) (a4 : Int32) : Option (Int64 × SX10) :=
  tbd (m10_isRung a2) (fun r1 => (if r1 = 0 then some ((-1000000000000000001 : Int64), T)
  else tbd (m10_in a1 (1 : Int32) (4 : Int32)) (fun r3 => (if r3 = 0 then some ((-1000000000000000002 : Int64), T)
  else tbd (m10_in a3 (0 : Int32) (1 : Int32)) (fun r5 => (if r5 = 0 then some ((-1000000000000000002 : Int64), T)
  else tbd (m10_in a4 (0 : Int32) (1 : Int32)) (fun r7 => (if r7 = 0 then some ((-1000000000000000002 : Int64), T)
  else tnm (1 : Int64) (fun v9 => tit (m10_foot_L63 a1 a2 a3 a4) FU (v9, (1 : Int32), (s10_means (s10_odds T (vp_updL (g10_odds T) (Int32.toNatClampNeg (0 : Int32)) (1 : Int64))) (vp_updL (g10_means T) (Int32.toNatClampNeg (0 : Int32)) (0 : Int64)))))))))))))
def m10_year_J241 (T : SX10) (x2 : Int32) (x3 : Int32) (x4 : Int32) (x5 : Int32) (y2 : Int32) (y3 : Int32) (rc43 : Int32 × Int32 × SX10 → Option (Int32 × SX10)) : Option (Int32 × SX10) :=
  tbd (m10_lose T y2 y3) (fun r18 => tnm (x5 + (1 : Int32)) (fun v20 => rc43 (x4, v20, (s10_reason r18.2 r18.1))))
def m10_year_J176 (T : SX10) (x2 : Int32) (x3 : Int32) (x4 : Int32) (x5 : Int32) (y2 : Int32) (y3 : Int32) (rc43 : Int32 × Int32 × SX10 → Option (Int32 × SX10)) : Option (Int32 × SX10) :=
  tbd (m10_goTo T y2 y3) (fun r25 => tnm (x5 + (1 : Int32)) (fun v27 => rc43 (x4, v27, (s10_reason r25.2 r25.1))))
def m10_year_J147 (T : SX10) (x2 : Int32) (x3 : Int32) (x4 : Int32) (x5 : Int32) (x6 : Int32) (y0 : Int32) (rc43 : Int32 × Int32 × SX10 → Option (Int32 × SX10)) : Option (Int32 × SX10) :=
  (if 0 ≤ y0 then (if y0 ≤ (13 : Int32) then m10_year_J176 T x2 x3 x4 x5 x6 y0 rc43
  else m10_year_J176 T x2 x3 x4 x5 x6 (13 : Int32) rc43)
  else m10_year_J176 T x2 x3 x4 x5 x6 (0 : Int32) rc43)
def m10_year_B43 (x2 : Int32) (x3 : Int32) (rc43 : Int32 × Int32 × SX10 → Option (Int32 × SX10)) (x4 : Int32) (x5 : Int32) (T : SX10) : Option (Int32 × SX10) :=
  (if x2 ≤ x5 then (if x3 = 0 then tbd (m10_roof T) (fun r9 => some (r9, T))
  else (if x3 = (1 : Int32) then some (((g10_now T) (Int32.toNatClampNeg (32 : Int32))), T)
  else some ((g10_steps T), T)))
  else tnm (irem (((75 : Int32) * x4) + (74 : Int32)) (65537 : Int32)) (fun v11 => tnm (irem v11 (6 : Int32)) (fun v12 => tnm (irem (v11 / (6 : Int32)) (8 : Int32)) (fun v13 => tnm (v11 / (48 : Int32)) (fun v14 => (if (4 : Int32) ≤ v13 then (if v13 = (4 : Int32) then tbd (m10_leaseTo T v12 ((1 : Int32) + (irem v14 (12 : Int32)))) (fun r21 => tnm (x5 + (1 : Int32)) (fun v23 => rc43 (v11, v23, (s10_reason r21.2 r21.1))))
  else (if v13 = (5 : Int32) then (if (irem (v14 / (12 : Int32)) (2 : Int32)) = 0 then m10_year_J241 T x2 x3 v11 x5 ((1 : Int32) + (irem v14 (12 : Int32))) (1 : Int32) rc43
  else m10_year_J241 T x2 x3 v11 x5 ((1 : Int32) + (irem v14 (12 : Int32))) (0 : Int32) rc43)
  else tbd (m10_endBeat T) (fun r15 => tnm (x5 + (1 : Int32)) (fun v17 => rc43 (v11, v17, (s10_reason r15.2 r15.1))))))
  else tgd (tin ((26 : Int32) + v12) 47) (tgd (tnz ((g10_now T) (Int32.toNatClampNeg ((26 : Int32) + v12)))) (tnm ((1 : Int32) + (irem v14 ((g10_now T) (Int32.toNatClampNeg ((26 : Int32) + v12))))) (fun v24 => (if (irem (v14 / (4 : Int32)) (4 : Int32)) = 0 then tgd (tin ((38 : Int32) + v12) 47) (m10_year_J147 T x2 x3 v11 x5 v12 (((g10_now T) (Int32.toNatClampNeg ((38 : Int32) + v12))) - v24) rc43)
  else tgd (tin ((38 : Int32) + v12) 47) (m10_year_J147 T x2 x3 v11 x5 v12 (((g10_now T) (Int32.toNatClampNeg ((38 : Int32) + v12))) + v24) rc43)))))))))))
def m10_year_L43 (x2 : Int32) (x3 : Int32) (rc43 : Int32 × Int32 × SX10 → Option (Int32 × SX10)) (z : Int32 × Int32 × SX10) : Option (Int32 × SX10) := m10_year_B43 x2 x3 rc43 z.1 z.2.1 z.2.2
def m10_year (T : SX10) (a1 : Int32) (a2 : Int32) (a3 : Int32) : Option (Int32 × SX10) :=
  tbd (m10_in a1 (0 : Int32) (9999 : Int32)) (fun r1 => (if r1 = 0 then some ((-2 : Int32), T)
  else tbd (m10_in a2 (1 : Int32) (99 : Int32)) (fun r3 => (if r3 = 0 then some ((-2 : Int32), T)
  else tbd (m10_in a3 (0 : Int32) (2 : Int32)) (fun r5 => (if r5 = 0 then some ((-2 : Int32), T)
  else tbd (m10_asNow T) (fun r7 => tit (m10_year_L43 a2 a3) FU (a1, (0 : Int32), r7))))))))
def m10_image_B47 (x1 : Int32) (x2 : Int32) (rc47 : Int32 × SX10 → Option (Int32 × SX10)) (x3 : Int32) (T : SX10) : Option (Int32 × SX10) :=
  (if (16 : Int32) ≤ x3 then tgd (tin (x2 + (64 : Int32)) 140) (tgd (tin x1 2) (some ((1 : Int32), (s10_isKept (s10_image T (upd (g10_image T) (Int32.toNatClampNeg (x2 + (64 : Int32))) (g10_sights T))) (upd (g10_isKept T) (Int32.toNatClampNeg x1) (vp_nar .boolean (1 : Int32)))))))
  else tgd (tin x3 16) (tgd (tin ((x2 + (47 : Int32)) + x3) 140) (tnm (x3 + (1 : Int32)) (fun v4 => rc47 (v4, (s10_image T (upd (g10_image T) (Int32.toNatClampNeg ((x2 + (47 : Int32)) + x3)) ((g10_sight T) (Int32.toNatClampNeg x3)))))))))
def m10_image_L47 (x1 : Int32) (x2 : Int32) (rc47 : Int32 × SX10 → Option (Int32 × SX10)) (z : Int32 × SX10) : Option (Int32 × SX10) := m10_image_B47 x1 x2 rc47 z.1 z.2
def m10_image_B19 (x1 : Int32) (x2 : Int32) (rc19 : Int32 × SX10 → Option (Int32 × SX10)) (x3 : Int32) (T : SX10) : Option (Int32 × SX10) :=
  (if (47 : Int32) ≤ x3 then tit (m10_image_L47 x1 x2) FU ((0 : Int32), T)
  else tgd (tin x3 47) (tgd (tin (x2 + x3) 140) (tnm (x3 + (1 : Int32)) (fun v5 => rc19 (v5, (s10_image T (upd (g10_image T) (Int32.toNatClampNeg (x2 + x3)) ((g10_book T) (Int32.toNatClampNeg x3)))))))))
def m10_image_L19 (x1 : Int32) (x2 : Int32) (rc19 : Int32 × SX10 → Option (Int32 × SX10)) (z : Int32 × SX10) : Option (Int32 × SX10) := m10_image_B19 x1 x2 rc19 z.1 z.2
def m10_image (T : SX10) (a1 : Int32) : Option (Int32 × SX10) :=
  tbd (m10_in a1 (0 : Int32) (1 : Int32)) (fun r1 => (if r1 = 0 then some ((-2 : Int32), T)
  else tnm ((70 : Int32) * a1) (fun v3 => tit (m10_image_L19 a1 v3) FU ((0 : Int32), T))))
def m10_restore_B59 (x2 : Int32) (rc59 : Int32 × SX10 → Option (Int32 × SX10)) (x3 : Int32) (T : SX10) : Option (Int32 × SX10) :=
  (if (16 : Int32) ≤ x3 then tgd (tin (x2 + (64 : Int32)) 140) (some ((1 : Int32), (s10_sights T ((g10_image T) (Int32.toNatClampNeg (x2 + (64 : Int32)))))))
  else tgd (tin ((x2 + (47 : Int32)) + x3) 140) (tgd (tin x3 16) (tnm (x3 + (1 : Int32)) (fun v4 => rc59 (v4, (s10_sight T (upd (g10_sight T) (Int32.toNatClampNeg x3) ((g10_image T) (Int32.toNatClampNeg ((x2 + (47 : Int32)) + x3))))))))))
def m10_restore_L59 (x2 : Int32) (rc59 : Int32 × SX10 → Option (Int32 × SX10)) (z : Int32 × SX10) : Option (Int32 × SX10) := m10_restore_B59 x2 rc59 z.1 z.2
def m10_restore_B31 (x2 : Int32) (rc31 : Int32 × SX10 → Option (Int32 × SX10)) (x3 : Int32) (T : SX10) : Option (Int32 × SX10) :=
  (if (47 : Int32) ≤ x3 then tit (m10_restore_L59 x2) FU ((0 : Int32), T)
  else tgd (tin (x2 + x3) 140) (tgd (tin x3 47) (tnm (x3 + (1 : Int32)) (fun v5 => rc31 (v5, (s10_book T (upd (g10_book T) (Int32.toNatClampNeg x3) ((g10_image T) (Int32.toNatClampNeg (x2 + x3))))))))))
def m10_restore_L31 (x2 : Int32) (rc31 : Int32 × SX10 → Option (Int32 × SX10)) (z : Int32 × SX10) : Option (Int32 × SX10) := m10_restore_B31 x2 rc31 z.1 z.2
def m10_restore (T : SX10) (a1 : Int32) : Option (Int32 × SX10) :=
  tbd (m10_in a1 (0 : Int32) (1 : Int32)) (fun r1 => (if r1 = 0 then some ((-2 : Int32), T)
  else tgd (tin a1 2) ((if ((g10_isKept T) (Int32.toNatClampNeg a1)) = 0 then some ((-3 : Int32), T)
  else tnm ((70 : Int32) * a1) (fun v3 => tit (m10_restore_L31 v3) FU ((0 : Int32), T))))))
def m10_told_J27 (T : SX10) (x1 : Int32) (y0 : Int32) : Option (Int32 × SX10) :=
  tbd (m10_isRung y0) (fun r8 => (if r8 = 0 then some ((-2 : Int32), T)
  else (if x1 < (60 : Int32) then tgd (tin y0 47) (some (((g10_book T) (Int32.toNatClampNeg y0)), T))
  else tgd (tin ((13 : Int32) + y0) 47) (some (((g10_book T) (Int32.toNatClampNeg ((13 : Int32) + y0))), T)))))
def m10_told (T : SX10) (a1 : Int32) : Option (Int32 × SX10) :=
  tbd (m10_asNow T) (fun r1 => (if a1 < (40 : Int32) then (if a1 < (10 : Int32) then (if a1 = 0 then some ((g10_signs r1), r1)
  else (if a1 = 1 then some (((g10_book r1) (Int32.toNatClampNeg (46 : Int32))), r1)
  else (if a1 = 2 then tbd (m10_roof r1) (fun r3 => some (r3, r1))
  else (if a1 = 3 then some (((g10_book r1) (Int32.toNatClampNeg (44 : Int32))), r1)
  else (if a1 = 4 then some ((((g10_book r1) (Int32.toNatClampNeg (45 : Int32))) >>> ((1 : Int32) &&& 31)), r1)
  else (if a1 = (5 : Int32) then some ((g10_sights r1), r1)
  else some ((-2 : Int32), r1)))))))
  else tnm (irem a1 (10 : Int32)) (fun v5 => tbd (m10_isMan v5) (fun r6 => (if r6 = 0 then some ((-2 : Int32), r1)
  else (if (20 : Int32) ≤ a1 then (if (30 : Int32) ≤ a1 then tgd (tin ((26 : Int32) + v5) 47) (some (((g10_book r1) (Int32.toNatClampNeg ((26 : Int32) + v5))), r1))
  else tgd (tin ((32 : Int32) + v5) 47) (some (((g10_book r1) (Int32.toNatClampNeg ((32 : Int32) + v5))), r1)))
  else tgd (tin ((38 : Int32) + v5) 47) (some (((g10_book r1) (Int32.toNatClampNeg ((38 : Int32) + v5))), r1)))))))
  else (if a1 < (60 : Int32) then m10_told_J27 r1 a1 (a1 - (40 : Int32))
  else m10_told_J27 r1 a1 (a1 - (60 : Int32)))))
def ifl (n : Nat) (v : Int32) : Nat → Int32 := fun j => if j < n then v else 0
def i0 : SX0 := (4, 0, 0)
def i1 : SX1 := ((ifl 13 (-1)), (ifl 13 (-1)), 0, (ifl 6 2), (ifl 6 5), (fun _ => 0), 0, 0, 0, 0, 0)
def i3 : SX3 := ((fun _ => 0), 0, 1)
def i4 : SX4 := (0, 0, 0, (-6), (-6), 0)
def i5 : SX5 := ((fun _ => 0), 0)
def i6 : SX6 := ((fun _ => 0), (fun _ => 0), 0)
def i7 : SX7 := (fun _ => 0)
def i8 : SX8 := ((fun _ => 0), (fun _ => 0), 0)
def i9 : SX9 := Unit.unit
def i10 : SX10 := ((fun _ => 0), (fun _ => 0), 0, (fun _ => 0), 0, (fun _ => 0), 0, 0, 0, 0, 0, 0, (fun _ => 0), (fun _ => 0), (fun _ => 0), (fun _ => 0), (fun _ => 0), (fun _ => 0), (fun _ => 0), (fun _ => 0))
def m10_init_B136 (rc136 : Int32 × SX10 → Option (SX10)) (x1 : Int32) (T : SX10) : Option (SX10) :=
  (if (6 : Int32) ≤ x1 then some T
  else tgd (tin ((26 : Int32) + x1) 47) (tgd (tin ((32 : Int32) + x1) 47) (tnm (x1 + (1 : Int32)) (fun v1 => rc136 (v1, (s10_book T (upd (upd (g10_book T) (Int32.toNatClampNeg ((26 : Int32) + x1)) (2 : Int32)) (Int32.toNatClampNeg ((32 : Int32) + x1)) (5 : Int32))))))))
def m10_init_L136 (rc136 : Int32 × SX10 → Option (SX10)) (z : Int32 × SX10) : Option (SX10) := m10_init_B136 rc136 z.1 z.2
def m10_init_B103 (rc103 : Int32 × SX10 → Option (SX10)) (x1 : Int32) (T : SX10) : Option (SX10) :=
  (if (13 : Int32) ≤ x1 then tit (m10_init_L136 ) FU ((0 : Int32), T)
  else tgd (tin x1 47) (tgd (tin ((13 : Int32) + x1) 47) (tnm (x1 + (1 : Int32)) (fun v2 => rc103 (v2, (s10_book T (upd (upd (g10_book T) (Int32.toNatClampNeg x1) (-6 : Int32)) (Int32.toNatClampNeg ((13 : Int32) + x1)) (-6 : Int32))))))))
def m10_init_L103 (rc103 : Int32 × SX10 → Option (SX10)) (z : Int32 × SX10) : Option (SX10) := m10_init_B103 rc103 z.1 z.2
def m10_init_J101 (T : SX10) : Option (SX10) :=
  tit (m10_init_L103 ) FU ((0 : Int32), T)
