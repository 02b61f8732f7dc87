/-- what a RungRights$Act holds -/
abbrev SX0 : Type := Int32 × Int32 × Int32
def g0_kind (S : SX0) : Int32 := S.1
def g0_man (S : SX0) : Int32 := S.2.1
def g0_place (S : SX0) : Int32 := S.2.2
def s0_kind (S : SX0) (x : Int32) : SX0 := (x, S.2)
def s0_man (S : SX0) (x : Int32) : SX0 := (S.1, x, S.2.2)
def s0_place (S : SX0) (x : Int32) : SX0 := (S.1, S.2.1, x)
def u0 (G : gG) (a0 : Nat) (S : SX0) : va_W := [(a0, .inr (0, [.int (g0_kind S), .int (g0_man S), .int (g0_place S)]))]
theorem z0_kind {G : gG} {a0 : Nat} {S : SX0} {x : Int32} : (u0 G a0 S).set 0 (a0, .inr (0, [.int (g0_kind S), .int (g0_man S), .int (g0_place S)].set 0 (.int x))) = u0 G a0 (s0_kind S x) := rfl
theorem z0_man {G : gG} {a0 : Nat} {S : SX0} {x : Int32} : (u0 G a0 S).set 0 (a0, .inr (0, [.int (g0_kind S), .int (g0_man S), .int (g0_place S)].set 1 (.int x))) = u0 G a0 (s0_man S x) := rfl
theorem z0_place {G : gG} {a0 : Nat} {S : SX0} {x : Int32} : (u0 G a0 S).set 0 (a0, .inr (0, [.int (g0_kind S), .int (g0_man S), .int (g0_place S)].set 2 (.int x))) = u0 G a0 (s0_place S x) := rfl
/-- what a RungRights$Brigade holds -/
abbrev SX1 : Type := (Nat → Int32) × (Nat → Int32) × Int32 × (Nat → Int32) × (Nat → Int32) × (Nat → Int32) × Int32 × Int32 × Int32 × Int32 × Int32
def g1_owner (S : SX1) : Nat → Int32 := S.1
def g1_leaser (S : SX1) : Nat → Int32 := S.2.1
def g1_missing (S : SX1) : Int32 := S.2.2.1
def g1_stride (S : SX1) : Nat → Int32 := S.2.2.2.1
def g1_coins (S : SX1) : Nat → Int32 := S.2.2.2.2.1
def g1_place (S : SX1) : Nat → Int32 := S.2.2.2.2.2.1
def g1_stepped (S : SX1) : Int32 := S.2.2.2.2.2.2.1
def g1_beat (S : SX1) : Int32 := S.2.2.2.2.2.2.2.1
def g1_sights (S : SX1) : Int32 := S.2.2.2.2.2.2.2.2.1
def g1_wet (S : SX1) : Int32 := S.2.2.2.2.2.2.2.2.2.1
def g1_dry (S : SX1) : Int32 := S.2.2.2.2.2.2.2.2.2.2
def s1_owner (S : SX1) (x : Nat → Int32) : SX1 := (x, S.2)
def s1_leaser (S : SX1) (x : Nat → Int32) : SX1 := (S.1, x, S.2.2)
def s1_missing (S : SX1) (x : Int32) : SX1 := (S.1, S.2.1, x, S.2.2.2)
def s1_stride (S : SX1) (x : Nat → Int32) : SX1 := (S.1, S.2.1, S.2.2.1, x, S.2.2.2.2)
def s1_coins (S : SX1) (x : Nat → Int32) : SX1 := (S.1, S.2.1, S.2.2.1, S.2.2.2.1, x, S.2.2.2.2.2)
def s1_place (S : SX1) (x : Nat → Int32) : SX1 := (S.1, S.2.1, S.2.2.1, S.2.2.2.1, S.2.2.2.2.1, x, S.2.2.2.2.2.2)
def s1_stepped (S : SX1) (x : Int32) : SX1 := (S.1, S.2.1, S.2.2.1, S.2.2.2.1, S.2.2.2.2.1, S.2.2.2.2.2.1, x, S.2.2.2.2.2.2.2)
def s1_beat (S : SX1) (x : Int32) : SX1 := (S.1, S.2.1, S.2.2.1, S.2.2.2.1, S.2.2.2.2.1, S.2.2.2.2.2.1, S.2.2.2.2.2.2.1, x, S.2.2.2.2.2.2.2.2)
def s1_sights (S : SX1) (x : Int32) : SX1 := (S.1, S.2.1, S.2.2.1, S.2.2.2.1, S.2.2.2.2.1, S.2.2.2.2.2.1, S.2.2.2.2.2.2.1, S.2.2.2.2.2.2.2.1, x, S.2.2.2.2.2.2.2.2.2)
def s1_wet (S : SX1) (x : Int32) : SX1 := (S.1, S.2.1, S.2.2.1, S.2.2.2.1, S.2.2.2.2.1, S.2.2.2.2.2.1, S.2.2.2.2.2.2.1, S.2.2.2.2.2.2.2.1, S.2.2.2.2.2.2.2.2.1, x, S.2.2.2.2.2.2.2.2.2.2)
def s1_dry (S : SX1) (x : Int32) : SX1 := (S.1, S.2.1, S.2.2.1, S.2.2.2.1, S.2.2.2.2.1, S.2.2.2.2.2.1, S.2.2.2.2.2.2.1, S.2.2.2.2.2.2.2.1, S.2.2.2.2.2.2.2.2.1, S.2.2.2.2.2.2.2.2.2.1, x)
def u1 (G : gG) (a0 a1 a2 a3 a4 a5 : Nat) (S : SX1) : va_W := [(a0, .inr (1, [.ref a1, .ref a2, .int (g1_missing S), .ref a3, .ref a4, .ref a5, .int (g1_stepped S), .int (g1_beat S), .int (g1_sights S), .int (g1_wet S), .int (g1_dry S)])), (a1, .inl (gI G, 13, .inl (g1_owner S))), (a2, .inl (gI G, 13, .inl (g1_leaser S))), (a3, .inl (gI G, 6, .inl (g1_stride S))), (a4, .inl (gI G, 6, .inl (g1_coins S))), (a5, .inl (gI G, 6, .inl (g1_place S)))]
theorem z1_owner {G : gG} {a0 a1 a2 a3 a4 a5 : Nat} {S : SX1} {x : Nat → Int32} : (u1 G a0 a1 a2 a3 a4 a5 S).set 1 (a1, .inl (gI G, 13, .inl x)) = u1 G a0 a1 a2 a3 a4 a5 (s1_owner S x) := rfl
theorem z1_leaser {G : gG} {a0 a1 a2 a3 a4 a5 : Nat} {S : SX1} {x : Nat → Int32} : (u1 G a0 a1 a2 a3 a4 a5 S).set 2 (a2, .inl (gI G, 13, .inl x)) = u1 G a0 a1 a2 a3 a4 a5 (s1_leaser S x) := rfl
theorem z1_missing {G : gG} {a0 a1 a2 a3 a4 a5 : Nat} {S : SX1} {x : Int32} : (u1 G a0 a1 a2 a3 a4 a5 S).set 0 (a0, .inr (1, [.ref a1, .ref a2, .int (g1_missing S), .ref a3, .ref a4, .ref a5, .int (g1_stepped S), .int (g1_beat S), .int (g1_sights S), .int (g1_wet S), .int (g1_dry S)].set 2 (.int x))) = u1 G a0 a1 a2 a3 a4 a5 (s1_missing S x) := rfl
theorem z1_stride {G : gG} {a0 a1 a2 a3 a4 a5 : Nat} {S : SX1} {x : Nat → Int32} : (u1 G a0 a1 a2 a3 a4 a5 S).set 3 (a3, .inl (gI G, 6, .inl x)) = u1 G a0 a1 a2 a3 a4 a5 (s1_stride S x) := rfl
theorem z1_coins {G : gG} {a0 a1 a2 a3 a4 a5 : Nat} {S : SX1} {x : Nat → Int32} : (u1 G a0 a1 a2 a3 a4 a5 S).set 4 (a4, .inl (gI G, 6, .inl x)) = u1 G a0 a1 a2 a3 a4 a5 (s1_coins S x) := rfl
theorem z1_place {G : gG} {a0 a1 a2 a3 a4 a5 : Nat} {S : SX1} {x : Nat → Int32} : (u1 G a0 a1 a2 a3 a4 a5 S).set 5 (a5, .inl (gI G, 6, .inl x)) = u1 G a0 a1 a2 a3 a4 a5 (s1_place S x) := rfl
theorem z1_stepped {G : gG} {a0 a1 a2 a3 a4 a5 : Nat} {S : SX1} {x : Int32} : (u1 G a0 a1 a2 a3 a4 a5 S).set 0 (a0, .inr (1, [.ref a1, .ref a2, .int (g1_missing S), .ref a3, .ref a4, .ref a5, .int (g1_stepped S), .int (g1_beat S), .int (g1_sights S), .int (g1_wet S), .int (g1_dry S)].set 6 (.int x))) = u1 G a0 a1 a2 a3 a4 a5 (s1_stepped S x) := rfl
theorem z1_beat {G : gG} {a0 a1 a2 a3 a4 a5 : Nat} {S : SX1} {x : Int32} : (u1 G a0 a1 a2 a3 a4 a5 S).set 0 (a0, .inr (1, [.ref a1, .ref a2, .int (g1_missing S), .ref a3, .ref a4, .ref a5, .int (g1_stepped S), .int (g1_beat S), .int (g1_sights S), .int (g1_wet S), .int (g1_dry S)].set 7 (.int x))) = u1 G a0 a1 a2 a3 a4 a5 (s1_beat S x) := rfl
theorem z1_sights {G : gG} {a0 a1 a2 a3 a4 a5 : Nat} {S : SX1} {x : Int32} : (u1 G a0 a1 a2 a3 a4 a5 S).set 0 (a0, .inr (1, [.ref a1, .ref a2, .int (g1_missing S), .ref a3, .ref a4, .ref a5, .int (g1_stepped S), .int (g1_beat S), .int (g1_sights S), .int (g1_wet S), .int (g1_dry S)].set 8 (.int x))) = u1 G a0 a1 a2 a3 a4 a5 (s1_sights S x) := rfl
theorem z1_wet {G : gG} {a0 a1 a2 a3 a4 a5 : Nat} {S : SX1} {x : Int32} : (u1 G a0 a1 a2 a3 a4 a5 S).set 0 (a0, .inr (1, [.ref a1, .ref a2, .int (g1_missing S), .ref a3, .ref a4, .ref a5, .int (g1_stepped S), .int (g1_beat S), .int (g1_sights S), .int (g1_wet S), .int (g1_dry S)].set 9 (.int x))) = u1 G a0 a1 a2 a3 a4 a5 (s1_wet S x) := rfl
theorem z1_dry {G : gG} {a0 a1 a2 a3 a4 a5 : Nat} {S : SX1} {x : Int32} : (u1 G a0 a1 a2 a3 a4 a5 S).set 0 (a0, .inr (1, [.ref a1, .ref a2, .int (g1_missing S), .ref a3, .ref a4, .ref a5, .int (g1_stepped S), .int (g1_beat S), .int (g1_sights S), .int (g1_wet S), .int (g1_dry S)].set 10 (.int x))) = u1 G a0 a1 a2 a3 a4 a5 (s1_dry S x) := rfl
/-- what a RungRights$Feet holds -/
abbrev SX3 : Type := (Nat → Int64) × Int64 × Int64
def g3_chances (S : SX3) : Nat → Int64 := S.1
def g3_upper (S : SX3) : Int64 := S.2.1
def g3_lower (S : SX3) : Int64 := S.2.2
def s3_chances (S : SX3) (x : Nat → Int64) : SX3 := (x, S.2)
def s3_upper (S : SX3) (x : Int64) : SX3 := (S.1, x, S.2.2)
def s3_lower (S : SX3) (x : Int64) : SX3 := (S.1, S.2.1, x)
def u3 (G : gG) (a0 a1 : Nat) (S : SX3) : va_W := [(a0, .inr (2, [.ref a1, .long (g3_upper S), .long (g3_lower S)])), (a1, .inl (gJ G, 13, .inr (.inl (g3_chances S))))]
theorem z3_chances {G : gG} {a0 a1 : Nat} {S : SX3} {x : Nat → Int64} : (u3 G a0 a1 S).set 1 (a1, .inl (gJ G, 13, .inr (.inl x))) = u3 G a0 a1 (s3_chances S x) := rfl
theorem z3_upper {G : gG} {a0 a1 : Nat} {S : SX3} {x : Int64} : (u3 G a0 a1 S).set 0 (a0, .inr (2, [.ref a1, .long (g3_upper S), .long (g3_lower S)].set 1 (.long x))) = u3 G a0 a1 (s3_upper S x) := rfl
theorem z3_lower {G : gG} {a0 a1 : Nat} {S : SX3} {x : Int64} : (u3 G a0 a1 S).set 0 (a0, .inr (2, [.ref a1, .long (g3_upper S), .long (g3_lower S)].set 2 (.long x))) = u3 G a0 a1 (s3_lower S x) := rfl
/-- what a RungRights$Fire holds -/
abbrev SX4 : Type := Int32 × Int32 × Int32 × Int32 × Int32 × Int32
def g4_acts (S : SX4) : Int32 := S.1
def g4_steps (S : SX4) : Int32 := S.2.1
def g4_paid (S : SX4) : Int32 := S.2.2.1
def g4_actUp (S : SX4) : Int32 := S.2.2.2.1
def g4_manUp (S : SX4) : Int32 := S.2.2.2.2.1
def g4_why (S : SX4) : Int32 := S.2.2.2.2.2
def s4_acts (S : SX4) (x : Int32) : SX4 := (x, S.2)
def s4_steps (S : SX4) (x : Int32) : SX4 := (S.1, x, S.2.2)
def s4_paid (S : SX4) (x : Int32) : SX4 := (S.1, S.2.1, x, S.2.2.2)
def s4_actUp (S : SX4) (x : Int32) : SX4 := (S.1, S.2.1, S.2.2.1, x, S.2.2.2.2)
def s4_manUp (S : SX4) (x : Int32) : SX4 := (S.1, S.2.1, S.2.2.1, S.2.2.2.1, x, S.2.2.2.2.2)
def s4_why (S : SX4) (x : Int32) : SX4 := (S.1, S.2.1, S.2.2.1, S.2.2.2.1, S.2.2.2.2.1, x)
def u4 (G : gG) (a0 a1 a2 : Nat) (S : SX4) : va_W := [(a0, .inr (3, [.ref a1, .ref a2, .int (g4_acts S), .int (g4_steps S), .int (g4_paid S), .int (g4_actUp S), .int (g4_manUp S), .int (g4_why S)]))]
theorem z4_acts {G : gG} {a0 a1 a2 : Nat} {S : SX4} {x : Int32} : (u4 G a0 a1 a2 S).set 0 (a0, .inr (3, [.ref a1, .ref a2, .int (g4_acts S), .int (g4_steps S), .int (g4_paid S), .int (g4_actUp S), .int (g4_manUp S), .int (g4_why S)].set 2 (.int x))) = u4 G a0 a1 a2 (s4_acts S x) := rfl
theorem z4_steps {G : gG} {a0 a1 a2 : Nat} {S : SX4} {x : Int32} : (u4 G a0 a1 a2 S).set 0 (a0, .inr (3, [.ref a1, .ref a2, .int (g4_acts S), .int (g4_steps S), .int (g4_paid S), .int (g4_actUp S), .int (g4_manUp S), .int (g4_why S)].set 3 (.int x))) = u4 G a0 a1 a2 (s4_steps S x) := rfl
theorem z4_paid {G : gG} {a0 a1 a2 : Nat} {S : SX4} {x : Int32} : (u4 G a0 a1 a2 S).set 0 (a0, .inr (3, [.ref a1, .ref a2, .int (g4_acts S), .int (g4_steps S), .int (g4_paid S), .int (g4_actUp S), .int (g4_manUp S), .int (g4_why S)].set 4 (.int x))) = u4 G a0 a1 a2 (s4_paid S x) := rfl
theorem z4_actUp {G : gG} {a0 a1 a2 : Nat} {S : SX4} {x : Int32} : (u4 G a0 a1 a2 S).set 0 (a0, .inr (3, [.ref a1, .ref a2, .int (g4_acts S), .int (g4_steps S), .int (g4_paid S), .int (g4_actUp S), .int (g4_manUp S), .int (g4_why S)].set 5 (.int x))) = u4 G a0 a1 a2 (s4_actUp S x) := rfl
theorem z4_manUp {G : gG} {a0 a1 a2 : Nat} {S : SX4} {x : Int32} : (u4 G a0 a1 a2 S).set 0 (a0, .inr (3, [.ref a1, .ref a2, .int (g4_acts S), .int (g4_steps S), .int (g4_paid S), .int (g4_actUp S), .int (g4_manUp S), .int (g4_why S)].set 6 (.int x))) = u4 G a0 a1 a2 (s4_manUp S x) := rfl
theorem z4_why {G : gG} {a0 a1 a2 : Nat} {S : SX4} {x : Int32} : (u4 G a0 a1 a2 S).set 0 (a0, .inr (3, [.ref a1, .ref a2, .int (g4_acts S), .int (g4_steps S), .int (g4_paid S), .int (g4_actUp S), .int (g4_manUp S), .int (g4_why S)].set 7 (.int x))) = u4 G a0 a1 a2 (s4_why S x) := rfl
/-- what a RungRights$Pad holds -/
abbrev SX5 : Type := (Nat → Int32) × Int32
def g5_signs (S : SX5) : Nat → Int32 := S.1
def g5_count (S : SX5) : Int32 := S.2
def s5_signs (S : SX5) (x : Nat → Int32) : SX5 := (x, S.2)
def s5_count (S : SX5) (x : Int32) : SX5 := (S.1, x)
def u5 (G : gG) (a0 a1 : Nat) (S : SX5) : va_W := [(a0, .inr (4, [.ref a1, .int (g5_count S)])), (a1, .inl (gC G, 60, .inl (g5_signs S)))]
theorem z5_signs {G : gG} {a0 a1 : Nat} {S : SX5} {x : Nat → Int32} : (u5 G a0 a1 S).set 1 (a1, .inl (gC G, 60, .inl x)) = u5 G a0 a1 (s5_signs S x) := rfl
theorem z5_count {G : gG} {a0 a1 : Nat} {S : SX5} {x : Int32} : (u5 G a0 a1 S).set 0 (a0, .inr (4, [.ref a1, .int (g5_count S)].set 1 (.int x))) = u5 G a0 a1 (s5_count S x) := rfl
/-- what a RungRights$Posts holds -/
abbrev SX6 : Type := (Nat → Int32) × (Nat → Int32) × Int32
def g6_open (S : SX6) : Nat → Int32 := S.1
def g6_post (S : SX6) : Nat → Int32 := S.2.1
def g6_posted (S : SX6) : Int32 := S.2.2
def s6_open (S : SX6) (x : Nat → Int32) : SX6 := (x, S.2)
def s6_post (S : SX6) (x : Nat → Int32) : SX6 := (S.1, x, S.2.2)
def s6_posted (S : SX6) (x : Int32) : SX6 := (S.1, S.2.1, x)
def u6 (G : gG) (a0 a1 a2 : Nat) (S : SX6) : va_W := [(a0, .inr (5, [.ref a1, .ref a2, .int (g6_posted S)])), (a1, .inl (gI G, 6, .inl (g6_open S))), (a2, .inl (gI G, 6, .inl (g6_post S)))]
theorem z6_open {G : gG} {a0 a1 a2 : Nat} {S : SX6} {x : Nat → Int32} : (u6 G a0 a1 a2 S).set 1 (a1, .inl (gI G, 6, .inl x)) = u6 G a0 a1 a2 (s6_open S x) := rfl
theorem z6_post {G : gG} {a0 a1 a2 : Nat} {S : SX6} {x : Nat → Int32} : (u6 G a0 a1 a2 S).set 2 (a2, .inl (gI G, 6, .inl x)) = u6 G a0 a1 a2 (s6_post S x) := rfl
theorem z6_posted {G : gG} {a0 a1 a2 : Nat} {S : SX6} {x : Int32} : (u6 G a0 a1 a2 S).set 0 (a0, .inr (5, [.ref a1, .ref a2, .int (g6_posted S)].set 2 (.int x))) = u6 G a0 a1 a2 (s6_posted S x) := rfl
/-- what a RungRights$Routes holds -/
abbrev SX7 : Type := (Nat → Int32)
def g7_settled (S : SX7) : Nat → Int32 := S
def s7_settled (S : SX7) (x : Nat → Int32) : SX7 := x
def u7 (G : gG) (a0 a1 : Nat) (S : SX7) : va_W := [(a0, .inr (6, [.ref a1])), (a1, .inl (gI G, 14, .inl (g7_settled S)))]
theorem z7_settled {G : gG} {a0 a1 : Nat} {S : SX7} {x : Nat → Int32} : (u7 G a0 a1 S).set 1 (a1, .inl (gI G, 14, .inl x)) = u7 G a0 a1 (s7_settled S x) := rfl
/-- what a RungRights$Trails holds -/
abbrev SX8 : Type := (Nat → Int32) × (Nat → Int32) × Int32
def g8_codes (S : SX8) : Nat → Int32 := S.1
def g8_wetRungs (S : SX8) : Nat → Int32 := S.2.1
def g8_count (S : SX8) : Int32 := S.2.2
def s8_codes (S : SX8) (x : Nat → Int32) : SX8 := (x, S.2)
def s8_wetRungs (S : SX8) (x : Nat → Int32) : SX8 := (S.1, x, S.2.2)
def s8_count (S : SX8) (x : Int32) : SX8 := (S.1, S.2.1, x)
def u8 (G : gG) (a0 a1 a2 : Nat) (S : SX8) : va_W := [(a0, .inr (7, [.ref a1, .ref a2, .int (g8_count S)])), (a1, .inl (gI G, 12, .inl (g8_codes S))), (a2, .inl (gI G, 12, .inl (g8_wetRungs S)))]
theorem z8_codes {G : gG} {a0 a1 a2 : Nat} {S : SX8} {x : Nat → Int32} : (u8 G a0 a1 a2 S).set 1 (a1, .inl (gI G, 12, .inl x)) = u8 G a0 a1 a2 (s8_codes S x) := rfl
theorem z8_wetRungs {G : gG} {a0 a1 a2 : Nat} {S : SX8} {x : Nat → Int32} : (u8 G a0 a1 a2 S).set 2 (a2, .inl (gI G, 12, .inl x)) = u8 G a0 a1 a2 (s8_wetRungs S x) := rfl
theorem z8_count {G : gG} {a0 a1 a2 : Nat} {S : SX8} {x : Int32} : (u8 G a0 a1 a2 S).set 0 (a0, .inr (7, [.ref a1, .ref a2, .int (g8_count S)].set 2 (.int x))) = u8 G a0 a1 a2 (s8_count S x) := rfl
/-- what a RungRights holds -/
abbrev SX9 : Type := Unit
def u9 (G : gG) (a0 a1 a2 a3 a4 a5 a6 a7 a8 a9 : Nat) (S : SX9) : va_W := [(a0, .inr (8, [.ref a1, .ref a2, .ref a3, .ref a4, .ref a5, .ref a6, .ref a7, .ref a8, .ref a9]))]
/-- what a RungRightsModel holds -/
abbrev SX10 : Type := (Nat → Int32) × (Nat → Int32) × Int32 × (Nat → Int32) × Int32 × (Nat → Int32) × Int32 × Int32 × Int32 × Int32 × Int32 × Int32 × (Nat → Int32) × (Nat → Int32) × (Nat → Int32) × (Nat → Int32) × (Nat → Int64) × (Nat → Int64) × (Nat → Int32) × (Nat → Int32)
def g10_book (S : SX10) : Nat → Int32 := S.1
def g10_now (S : SX10) : Nat → Int32 := S.2.1
def g10_sights (S : SX10) : Int32 := S.2.2.1
def g10_sight (S : SX10) : Nat → Int32 := S.2.2.2.1
def g10_signs (S : SX10) : Int32 := S.2.2.2.2.1
def g10_pad (S : SX10) : Nat → Int32 := S.2.2.2.2.2.1
def g10_steps (S : SX10) : Int32 := S.2.2.2.2.2.2.1
def g10_paid (S : SX10) : Int32 := S.2.2.2.2.2.2.2.1
def g10_roofAt (S : SX10) : Int32 := S.2.2.2.2.2.2.2.2.1
def g10_roofWho (S : SX10) : Int32 := S.2.2.2.2.2.2.2.2.2.1
def g10_reason (S : SX10) : Int32 := S.2.2.2.2.2.2.2.2.2.2.1
def g10_acts (S : SX10) : Int32 := S.2.2.2.2.2.2.2.2.2.2.2.1
def g10_few (S : SX10) : Nat → Int32 := S.2.2.2.2.2.2.2.2.2.2.2.2.1
def g10_rows (S : SX10) : Nat → Int32 := S.2.2.2.2.2.2.2.2.2.2.2.2.2.1
def g10_can (S : SX10) : Nat → Int32 := S.2.2.2.2.2.2.2.2.2.2.2.2.2.2.1
def g10_wins (S : SX10) : Nat → Int32 := S.2.2.2.2.2.2.2.2.2.2.2.2.2.2.2.1
def g10_odds (S : SX10) : Nat → Int64 := S.2.2.2.2.2.2.2.2.2.2.2.2.2.2.2.2.1
def g10_means (S : SX10) : Nat → Int64 := S.2.2.2.2.2.2.2.2.2.2.2.2.2.2.2.2.2.1
def g10_image (S : SX10) : Nat → Int32 := S.2.2.2.2.2.2.2.2.2.2.2.2.2.2.2.2.2.2.1
def g10_isKept (S : SX10) : Nat → Int32 := S.2.2.2.2.2.2.2.2.2.2.2.2.2.2.2.2.2.2.2
def s10_book (S : SX10) (x : Nat → Int32) : SX10 := (x, S.2)
def s10_now (S : SX10) (x : Nat → Int32) : SX10 := (S.1, x, S.2.2)
def s10_sights (S : SX10) (x : Int32) : SX10 := (S.1, S.2.1, x, S.2.2.2)
def s10_sight (S : SX10) (x : Nat → Int32) : SX10 := (S.1, S.2.1, S.2.2.1, x, S.2.2.2.2)
def s10_signs (S : SX10) (x : Int32) : SX10 := (S.1, S.2.1, S.2.2.1, S.2.2.2.1, x, S.2.2.2.2.2)
def s10_pad (S : SX10) (x : Nat → Int32) : SX10 := (S.1, S.2.1, S.2.2.1, S.2.2.2.1, S.2.2.2.2.1, x, S.2.2.2.2.2.2)
def s10_steps (S : SX10) (x : Int32) : SX10 := (S.1, S.2.1, S.2.2.1, S.2.2.2.1, S.2.2.2.2.1, S.2.2.2.2.2.1, x, S.2.2.2.2.2.2.2)
def s10_paid (S : SX10) (x : Int32) : SX10 := (S.1, S.2.1, S.2.2.1, S.2.2.2.1, S.2.2.2.2.1, S.2.2.2.2.2.1, S.2.2.2.2.2.2.1, x, S.2.2.2.2.2.2.2.2)
def s10_roofAt (S : SX10) (x : Int32) : SX10 := (S.1, S.2.1, S.2.2.1, S.2.2.2.1, S.2.2.2.2.1, S.2.2.2.2.2.1, S.2.2.2.2.2.2.1, S.2.2.2.2.2.2.2.1, x, S.2.2.2.2.2.2.2.2.2)
def s10_roofWho (S : SX10) (x : Int32) : SX10 := (S.1, S.2.1, S.2.2.1, S.2.2.2.1, S.2.2.2.2.1, S.2.2.2.2.2.1, S.2.2.2.2.2.2.1, S.2.2.2.2.2.2.2.1, S.2.2.2.2.2.2.2.2.1, x, S.2.2.2.2.2.2.2.2.2.2)
def s10_reason (S : SX10) (x : Int32) : SX10 := (S.1, S.2.1, S.2.2.1, S.2.2.2.1, S.2.2.2.2.1, S.2.2.2.2.2.1, S.2.2.2.2.2.2.1, S.2.2.2.2.2.2.2.1, S.2.2.2.2.2.2.2.2.1, S.2.2.2.2.2.2.2.2.2.1, x, S.2.2.2.2.2.2.2.2.2.2.2)
def s10_acts (S : SX10) (x : Int32) : SX10 := (S.1, S.2.1, S.2.2.1, S.2.2.2.1, S.2.2.2.2.1, S.2.2.2.2.2.1, S.2.2.2.2.2.2.1, S.2.2.2.2.2.2.2.1, S.2.2.2.2.2.2.2.2.1, S.2.2.2.2.2.2.2.2.2.1, S.2.2.2.2.2.2.2.2.2.2.1, x, S.2.2.2.2.2.2.2.2.2.2.2.2)
def s10_few (S : SX10) (x : Nat → Int32) : SX10 := (S.1, S.2.1, S.2.2.1, S.2.2.2.1, S.2.2.2.2.1, S.2.2.2.2.2.1, S.2.2.2.2.2.2.1, S.2.2.2.2.2.2.2.1, S.2.2.2.2.2.2.2.2.1, S.2.2.2.2.2.2.2.2.2.1, S.2.2.2.2.2.2.2.2.2.2.1, S.2.2.2.2.2.2.2.2.2.2.2.1, x, S.2.2.2.2.2.2.2.2.2.2.2.2.2)
def s10_rows (S : SX10) (x : Nat → Int32) : SX10 := (S.1, S.2.1, S.2.2.1, S.2.2.2.1, S.2.2.2.2.1, S.2.2.2.2.2.1, S.2.2.2.2.2.2.1, S.2.2.2.2.2.2.2.1, S.2.2.2.2.2.2.2.2.1, S.2.2.2.2.2.2.2.2.2.1, S.2.2.2.2.2.2.2.2.2.2.1, S.2.2.2.2.2.2.2.2.2.2.2.1, S.2.2.2.2.2.2.2.2.2.2.2.2.1, x, S.2.2.2.2.2.2.2.2.2.2.2.2.2.2)
def s10_can (S : SX10) (x : Nat → Int32) : SX10 := (S.1, S.2.1, S.2.2.1, S.2.2.2.1, S.2.2.2.2.1, S.2.2.2.2.2.1, S.2.2.2.2.2.2.1, S.2.2.2.2.2.2.2.1, S.2.2.2.2.2.2.2.2.1, S.2.2.2.2.2.2.2.2.2.1, S.2.2.2.2.2.2.2.2.2.2.1, S.2.2.2.2.2.2.2.2.2.2.2.1, S.2.2.2.2.2.2.2.2.2.2.2.2.1, S.2.2.2.2.2.2.2.2.2.2.2.2.2.1, x, S.2.2.2.2.2.2.2.2.2.2.2.2.2.2.2)
def s10_wins (S : SX10) (x : Nat → Int32) : SX10 := (S.1, S.2.1, S.2.2.1, S.2.2.2.1, S.2.2.2.2.1, S.2.2.2.2.2.1, S.2.2.2.2.2.2.1, S.2.2.2.2.2.2.2.1, S.2.2.2.2.2.2.2.2.1, S.2.2.2.2.2.2.2.2.2.1, S.2.2.2.2.2.2.2.2.2.2.1, S.2.2.2.2.2.2.2.2.2.2.2.1, S.2.2.2.2.2.2.2.2.2.2.2.2.1, S.2.2.2.2.2.2.2.2.2.2.2.2.2.1, S.2.2.2.2.2.2.2.2.2.2.2.2.2.2.1, x, S.2.2.2.2.2.2.2.2.2.2.2.2.2.2.2.2)
def s10_odds (S : SX10) (x : Nat → Int64) : SX10 := (S.1, S.2.1, S.2.2.1, S.2.2.2.1, S.2.2.2.2.1, S.2.2.2.2.2.1, S.2.2.2.2.2.2.1, S.2.2.2.2.2.2.2.1, S.2.2.2.2.2.2.2.2.1, S.2.2.2.2.2.2.2.2.2.1, S.2.2.2.2.2.2.2.2.2.2.1, S.2.2.2.2.2.2.2.2.2.2.2.1, S.2.2.2.2.2.2.2.2.2.2.2.2.1, S.2.2.2.2.2.2.2.2.2.2.2.2.2.1, S.2.2.2.2.2.2.2.2.2.2.2.2.2.2.1, S.2.2.2.2.2.2.2.2.2.2.2.2.2.2.2.1, x, S.2.2.2.2.2.2.2.2.2.2.2.2.2.2.2.2.2)
def s10_means (S : SX10) (x : Nat → Int64) : SX10 := (S.1, S.2.1, S.2.2.1, S.2.2.2.1, S.2.2.2.2.1, S.2.2.2.2.2.1, S.2.2.2.2.2.2.1, S.2.2.2.2.2.2.2.1, S.2.2.2.2.2.2.2.2.1, S.2.2.2.2.2.2.2.2.2.1, S.2.2.2.2.2.2.2.2.2.2.1, S.2.2.2.2.2.2.2.2.2.2.2.1, S.2.2.2.2.2.2.2.2.2.2.2.2.1, S.2.2.2.2.2.2.2.2.2.2.2.2.2.1, S.2.2.2.2.2.2.2.2.2.2.2.2.2.2.1, S.2.2.2.2.2.2.2.2.2.2.2.2.2.2.2.1, S.2.2.2.2.2.2.2.2.2.2.2.2.2.2.2.2.1, x, S.2.2.2.2.2.2.2.2.2.2.2.2.2.2.2.2.2.2)
def s10_image (S : SX10) (x : Nat → Int32) : SX10 := (S.1, S.2.1, S.2.2.1, S.2.2.2.1, S.2.2.2.2.1, S.2.2.2.2.2.1, S.2.2.2.2.2.2.1, S.2.2.2.2.2.2.2.1, S.2.2.2.2.2.2.2.2.1, S.2.2.2.2.2.2.2.2.2.1, S.2.2.2.2.2.2.2.2.2.2.1, S.2.2.2.2.2.2.2.2.2.2.2.1, S.2.2.2.2.2.2.2.2.2.2.2.2.1, S.2.2.2.2.2.2.2.2.2.2.2.2.2.1, S.2.2.2.2.2.2.2.2.2.2.2.2.2.2.1, S.2.2.2.2.2.2.2.2.2.2.2.2.2.2.2.1, S.2.2.2.2.2.2.2.2.2.2.2.2.2.2.2.2.1, S.2.2.2.2.2.2.2.2.2.2.2.2.2.2.2.2.2.1, x, S.2.2.2.2.2.2.2.2.2.2.2.2.2.2.2.2.2.2.2)
def s10_isKept (S : SX10) (x : Nat → Int32) : SX10 := (S.1, S.2.1, S.2.2.1, S.2.2.2.1, S.2.2.2.2.1, S.2.2.2.2.2.1, S.2.2.2.2.2.2.1, S.2.2.2.2.2.2.2.1, S.2.2.2.2.2.2.2.2.1, S.2.2.2.2.2.2.2.2.2.1, S.2.2.2.2.2.2.2.2.2.2.1, S.2.2.2.2.2.2.2.2.2.2.2.1, S.2.2.2.2.2.2.2.2.2.2.2.2.1, S.2.2.2.2.2.2.2.2.2.2.2.2.2.1, S.2.2.2.2.2.2.2.2.2.2.2.2.2.2.1, S.2.2.2.2.2.2.2.2.2.2.2.2.2.2.2.1, S.2.2.2.2.2.2.2.2.2.2.2.2.2.2.2.2.1, S.2.2.2.2.2.2.2.2.2.2.2.2.2.2.2.2.2.1, S.2.2.2.2.2.2.2.2.2.2.2.2.2.2.2.2.2.2.1, x)
def u10 (G : gG) (a0 a1 a2 a3 a4 a5 a6 a7 a8 a9 a10 a11 a12 : Nat) (S : SX10) : va_W := [(a0, .inr (9, [.ref a1, .ref a2, .int (g10_sights S), .ref a3, .int (g10_signs S), .ref a4, .int (g10_steps S), .int (g10_paid S), .int (g10_roofAt S), .int (g10_roofWho S), .int (g10_reason S), .int (g10_acts S), .ref a5, .ref a6, .ref a7, .ref a8, .ref a9, .ref a10, .ref a11, .ref a12])), (a1, .inl (gI G, 47, .inl (g10_book S))), (a2, .inl (gI G, 47, .inl (g10_now S))), (a3, .inl (gI G, 16, .inl (g10_sight S))), (a4, .inl (gI G, 60, .inl (g10_pad S))), (a5, .inl (gI G, 14, .inl (g10_few S))), (a6, .inl (gI G, 14, .inl (g10_rows S))), (a7, .inl (gZ G, 64, .inl (g10_can S))), (a8, .inl (gZ G, 4096, .inl (g10_wins S))), (a9, .inl (gJ G, 13, .inr (.inl (g10_odds S)))), (a10, .inl (gJ G, 13, .inr (.inl (g10_means S)))), (a11, .inl (gI G, 140, .inl (g10_image S))), (a12, .inl (gZ G, 2, .inl (g10_isKept S)))]
theorem z10_book {G : gG} {a0 a1 a2 a3 a4 a5 a6 a7 a8 a9 a10 a11 a12 : Nat} {S : SX10} {x : Nat → Int32} : (u10 G a0 a1 a2 a3 a4 a5 a6 a7 a8 a9 a10 a11 a12 S).set 1 (a1, .inl (gI G, 47, .inl x)) = u10 G a0 a1 a2 a3 a4 a5 a6 a7 a8 a9 a10 a11 a12 (s10_book S x) := rfl
theorem z10_now {G : gG} {a0 a1 a2 a3 a4 a5 a6 a7 a8 a9 a10 a11 a12 : Nat} {S : SX10} {x : Nat → Int32} : (u10 G a0 a1 a2 a3 a4 a5 a6 a7 a8 a9 a10 a11 a12 S).set 2 (a2, .inl (gI G, 47, .inl x)) = u10 G a0 a1 a2 a3 a4 a5 a6 a7 a8 a9 a10 a11 a12 (s10_now S x) := rfl
theorem z10_sights {G : gG} {a0 a1 a2 a3 a4 a5 a6 a7 a8 a9 a10 a11 a12 : Nat} {S : SX10} {x : Int32} : (u10 G a0 a1 a2 a3 a4 a5 a6 a7 a8 a9 a10 a11 a12 S).set 0 (a0, .inr (9, [.ref a1, .ref a2, .int (g10_sights S), .ref a3, .int (g10_signs S), .ref a4, .int (g10_steps S), .int (g10_paid S), .int (g10_roofAt S), .int (g10_roofWho S), .int (g10_reason S), .int (g10_acts S), .ref a5, .ref a6, .ref a7, .ref a8, .ref a9, .ref a10, .ref a11, .ref a12].set 2 (.int x))) = u10 G a0 a1 a2 a3 a4 a5 a6 a7 a8 a9 a10 a11 a12 (s10_sights S x) := rfl
theorem z10_sight {G : gG} {a0 a1 a2 a3 a4 a5 a6 a7 a8 a9 a10 a11 a12 : Nat} {S : SX10} {x : Nat → Int32} : (u10 G a0 a1 a2 a3 a4 a5 a6 a7 a8 a9 a10 a11 a12 S).set 3 (a3, .inl (gI G, 16, .inl x)) = u10 G a0 a1 a2 a3 a4 a5 a6 a7 a8 a9 a10 a11 a12 (s10_sight S x) := rfl
theorem z10_signs {G : gG} {a0 a1 a2 a3 a4 a5 a6 a7 a8 a9 a10 a11 a12 : Nat} {S : SX10} {x : Int32} : (u10 G a0 a1 a2 a3 a4 a5 a6 a7 a8 a9 a10 a11 a12 S).set 0 (a0, .inr (9, [.ref a1, .ref a2, .int (g10_sights S), .ref a3, .int (g10_signs S), .ref a4, .int (g10_steps S), .int (g10_paid S), .int (g10_roofAt S), .int (g10_roofWho S), .int (g10_reason S), .int (g10_acts S), .ref a5, .ref a6, .ref a7, .ref a8, .ref a9, .ref a10, .ref a11, .ref a12].set 4 (.int x))) = u10 G a0 a1 a2 a3 a4 a5 a6 a7 a8 a9 a10 a11 a12 (s10_signs S x) := rfl
theorem z10_pad {G : gG} {a0 a1 a2 a3 a4 a5 a6 a7 a8 a9 a10 a11 a12 : Nat} {S : SX10} {x : Nat → Int32} : (u10 G a0 a1 a2 a3 a4 a5 a6 a7 a8 a9 a10 a11 a12 S).set 4 (a4, .inl (gI G, 60, .inl x)) = u10 G a0 a1 a2 a3 a4 a5 a6 a7 a8 a9 a10 a11 a12 (s10_pad S x) := rfl
theorem z10_steps {G : gG} {a0 a1 a2 a3 a4 a5 a6 a7 a8 a9 a10 a11 a12 : Nat} {S : SX10} {x : Int32} : (u10 G a0 a1 a2 a3 a4 a5 a6 a7 a8 a9 a10 a11 a12 S).set 0 (a0, .inr (9, [.ref a1, .ref a2, .int (g10_sights S), .ref a3, .int (g10_signs S), .ref a4, .int (g10_steps S), .int (g10_paid S), .int (g10_roofAt S), .int (g10_roofWho S), .int (g10_reason S), .int (g10_acts S), .ref a5, .ref a6, .ref a7, .ref a8, .ref a9, .ref a10, .ref a11, .ref a12].set 6 (.int x))) = u10 G a0 a1 a2 a3 a4 a5 a6 a7 a8 a9 a10 a11 a12 (s10_steps S x) := rfl
theorem z10_paid {G : gG} {a0 a1 a2 a3 a4 a5 a6 a7 a8 a9 a10 a11 a12 : Nat} {S : SX10} {x : Int32} : (u10 G a0 a1 a2 a3 a4 a5 a6 a7 a8 a9 a10 a11 a12 S).set 0 (a0, .inr (9, [.ref a1, .ref a2, .int (g10_sights S), .ref a3, .int (g10_signs S), .ref a4, .int (g10_steps S), .int (g10_paid S), .int (g10_roofAt S), .int (g10_roofWho S), .int (g10_reason S), .int (g10_acts S), .ref a5, .ref a6, .ref a7, .ref a8, .ref a9, .ref a10, .ref a11, .ref a12].set 7 (.int x))) = u10 G a0 a1 a2 a3 a4 a5 a6 a7 a8 a9 a10 a11 a12 (s10_paid S x) := rfl
theorem z10_roofAt {G : gG} {a0 a1 a2 a3 a4 a5 a6 a7 a8 a9 a10 a11 a12 : Nat} {S : SX10} {x : Int32} : (u10 G a0 a1 a2 a3 a4 a5 a6 a7 a8 a9 a10 a11 a12 S).set 0 (a0, .inr (9, [.ref a1, .ref a2, .int (g10_sights S), .ref a3, .int (g10_signs S), .ref a4, .int (g10_steps S), .int (g10_paid S), .int (g10_roofAt S), .int (g10_roofWho S), .int (g10_reason S), .int (g10_acts S), .ref a5, .ref a6, .ref a7, .ref a8, .ref a9, .ref a10, .ref a11, .ref a12].set 8 (.int x))) = u10 G a0 a1 a2 a3 a4 a5 a6 a7 a8 a9 a10 a11 a12 (s10_roofAt S x) := rfl
theorem z10_roofWho {G : gG} {a0 a1 a2 a3 a4 a5 a6 a7 a8 a9 a10 a11 a12 : Nat} {S : SX10} {x : Int32} : (u10 G a0 a1 a2 a3 a4 a5 a6 a7 a8 a9 a10 a11 a12 S).set 0 (a0, .inr (9, [.ref a1, .ref a2, .int (g10_sights S), .ref a3, .int (g10_signs S), .ref a4, .int (g10_steps S), .int (g10_paid S), .int (g10_roofAt S), .int (g10_roofWho S), .int (g10_reason S), .int (g10_acts S), .ref a5, .ref a6, .ref a7, .ref a8, .ref a9, .ref a10, .ref a11, .ref a12].set 9 (.int x))) = u10 G a0 a1 a2 a3 a4 a5 a6 a7 a8 a9 a10 a11 a12 (s10_roofWho S x) := rfl
theorem z10_reason {G : gG} {a0 a1 a2 a3 a4 a5 a6 a7 a8 a9 a10 a11 a12 : Nat} {S : SX10} {x : Int32} : (u10 G a0 a1 a2 a3 a4 a5 a6 a7 a8 a9 a10 a11 a12 S).set 0 (a0, .inr (9, [.ref a1, .ref a2, .int (g10_sights S), .ref a3, .int (g10_signs S), .ref a4, .int (g10_steps S), .int (g10_paid S), .int (g10_roofAt S), .int (g10_roofWho S), .int (g10_reason S), .int (g10_acts S), .ref a5, .ref a6, .ref a7, .ref a8, .ref a9, .ref a10, .ref a11, .ref a12].set 10 (.int x))) = u10 G a0 a1 a2 a3 a4 a5 a6 a7 a8 a9 a10 a11 a12 (s10_reason S x) := rfl
theorem z10_acts {G : gG} {a0 a1 a2 a3 a4 a5 a6 a7 a8 a9 a10 a11 a12 : Nat} {S : SX10} {x : Int32} : (u10 G a0 a1 a2 a3 a4 a5 a6 a7 a8 a9 a10 a11 a12 S).set 0 (a0, .inr (9, [.ref a1, .ref a2, .int (g10_sights S), .ref a3, .int (g10_signs S), .ref a4, .int (g10_steps S), .int (g10_paid S), .int (g10_roofAt S), .int (g10_roofWho S), .int (g10_reason S), .int (g10_acts S), .ref a5, .ref a6, .ref a7, .ref a8, .ref a9, .ref a10, .ref a11, .ref a12].set 11 (.int x))) = u10 G a0 a1 a2 a3 a4 a5 a6 a7 a8 a9 a10 a11 a12 (s10_acts S x) := rfl
theorem z10_few {G : gG} {a0 a1 a2 a3 a4 a5 a6 a7 a8 a9 a10 a11 a12 : Nat} {S : SX10} {x : Nat → Int32} : (u10 G a0 a1 a2 a3 a4 a5 a6 a7 a8 a9 a10 a11 a12 S).set 5 (a5, .inl (gI G, 14, .inl x)) = u10 G a0 a1 a2 a3 a4 a5 a6 a7 a8 a9 a10 a11 a12 (s10_few S x) := rfl
theorem z10_rows {G : gG} {a0 a1 a2 a3 a4 a5 a6 a7 a8 a9 a10 a11 a12 : Nat} {S : SX10} {x : Nat → Int32} : (u10 G a0 a1 a2 a3 a4 a5 a6 a7 a8 a9 a10 a11 a12 S).set 6 (a6, .inl (gI G, 14, .inl x)) = u10 G a0 a1 a2 a3 a4 a5 a6 a7 a8 a9 a10 a11 a12 (s10_rows S x) := rfl
theorem z10_can {G : gG} {a0 a1 a2 a3 a4 a5 a6 a7 a8 a9 a10 a11 a12 : Nat} {S : SX10} {x : Nat → Int32} : (u10 G a0 a1 a2 a3 a4 a5 a6 a7 a8 a9 a10 a11 a12 S).set 7 (a7, .inl (gZ G, 64, .inl x)) = u10 G a0 a1 a2 a3 a4 a5 a6 a7 a8 a9 a10 a11 a12 (s10_can S x) := rfl
theorem z10_wins {G : gG} {a0 a1 a2 a3 a4 a5 a6 a7 a8 a9 a10 a11 a12 : Nat} {S : SX10} {x : Nat → Int32} : (u10 G a0 a1 a2 a3 a4 a5 a6 a7 a8 a9 a10 a11 a12 S).set 8 (a8, .inl (gZ G, 4096, .inl x)) = u10 G a0 a1 a2 a3 a4 a5 a6 a7 a8 a9 a10 a11 a12 (s10_wins S x) := rfl
theorem z10_odds {G : gG} {a0 a1 a2 a3 a4 a5 a6 a7 a8 a9 a10 a11 a12 : Nat} {S : SX10} {x : Nat → Int64} : (u10 G a0 a1 a2 a3 a4 a5 a6 a7 a8 a9 a10 a11 a12 S).set 9 (a9, .inl (gJ G, 13, .inr (.inl x))) = u10 G a0 a1 a2 a3 a4 a5 a6 a7 a8 a9 a10 a11 a12 (s10_odds S x) := rfl
theorem z10_means {G : gG} {a0 a1 a2 a3 a4 a5 a6 a7 a8 a9 a10 a11 a12 : Nat} {S : SX10} {x : Nat → Int64} : (u10 G a0 a1 a2 a3 a4 a5 a6 a7 a8 a9 a10 a11 a12 S).set 10 (a10, .inl (gJ G, 13, .inr (.inl x))) = u10 G a0 a1 a2 a3 a4 a5 a6 a7 a8 a9 a10 a11 a12 (s10_means S x) := rfl
theorem z10_image {G : gG} {a0 a1 a2 a3 a4 a5 a6 a7 a8 a9 a10 a11 a12 : Nat} {S : SX10} {x : Nat → Int32} : (u10 G a0 a1 a2 a3 a4 a5 a6 a7 a8 a9 a10 a11 a12 S).set 11 (a11, .inl (gI G, 140, .inl x)) = u10 G a0 a1 a2 a3 a4 a5 a6 a7 a8 a9 a10 a11 a12 (s10_image S x) := rfl
theorem z10_isKept {G : gG} {a0 a1 a2 a3 a4 a5 a6 a7 a8 a9 a10 a11 a12 : Nat} {S : SX10} {x : Nat → Int32} : (u10 G a0 a1 a2 a3 a4 a5 a6 a7 a8 a9 a10 a11 a12 S).set 12 (a12, .inl (gZ G, 2, .inl x)) = u10 G a0 a1 a2 a3 a4 a5 a6 a7 a8 a9 a10 a11 a12 (s10_isKept S x) := rfl
theorem setL {a b d : va_W} {i : Nat} {x : Nat × va_E} (hi : i < a.length) (h : a.set i x = d) : (a ++ b).set i x = d ++ b := by
  rw [List.set_append_left _ _ hi, h]
theorem setR {a b d : va_W} {i j : Nat} {x : Nat × va_E} (hj : i = a.length + j) (h : b.set j x = d) : (a ++ b).set i x = a ++ d := by
  subst hj; rw [List.set_append_right _ _ (Nat.le_add_right _ _), Nat.add_sub_cancel_left, h]
def FU : Nat := 5000
theorem tit_z {S E : Type} {F : (S → Option E) → S → Option E} {z : S} {r : E} (h : tit F 0 z = some r) : False := by cases h
