/-! foot -/
def lI (k : Nat) : Int64 := Int64.ofNat k
theorem lADD (a b : Nat) : lI a + lI b = lI (a + b) := (Int64.ofNat_add a b).symm
theorem lMUL (a b : Nat) : lI a * lI b = lI (a * b) := (Int64.ofNat_mul a b).symm
theorem L0 : (0 : Int64) = lI 0 := by decide
theorem L1 : (1 : Int64) = lI 1 := by decide
theorem toL : ∀ s, s < 5 → Int32.toInt64 (nI s) = lI s := by decide
theorem updL_e {f : Nat → Int64} {k j : Nat} {x : Int64} : vp_updL f k x j = if j = k then x else f j := rfl
theorem updL_same (f : Nat → Int64) (k : Nat) (x : Int64) : vp_updL f k x k = x := by rw [updL_e, if_pos rfl]
theorem updL_other {f : Nat → Int64} {k j : Nat} {x : Int64} (h : ¬ j = k) : vp_updL f k x j = f j := by rw [updL_e, if_neg h]
theorem updL_updL (f : Nat → Int64) (k : Nat) (x y : Int64) : vp_updL (vp_updL f k x) k y = vp_updL f k y := by
  funext j
  rw [updL_e, updL_e, updL_e]
  by_cases e : j = k
  · rw [if_pos e, if_pos e]
  · rw [if_neg e, if_neg e, if_neg e]
def sumN (s : Nat) (A : Nat → Nat) (p : Nat) : Nat → Nat
  | 0 => 0
  | j + 1 => sumN s A p j + A (p - (j + 1)) * s ^ j
def chT (s : Nat) : Nat → Nat → Nat
  | 0, _ => 1
  | k + 1, q => if q = k + 1 then sumN s (chT s k) (k + 1) (min s (k + 1)) else chT s k q
def mnT (s : Nat) : Nat → Nat → Nat
  | 0, _ => 0
  | k + 1, q => if q = k + 1 then s ^ (k + 1) + sumN s (mnT s k) (k + 1) (min s (k + 1)) else mnT s k q
def umN (s r : Nat) : Nat → Nat
  | 0 => 0
  | i + 1 => umN s r i + chT s 12 i * s ^ (r - 1 - i)
def upN2 (s r w : Nat) : Nat := if w = 0 then chT s r r else mnT s r r
def upC (s r w : Nat) : Nat := if w = 0 then chT s 12 r else umN s r r
def loC (s r w : Nat) : Nat := if w = 0 then s ^ r else s ^ (r - 1)
def gl : Nat → Int64 → Int64 → Option Int64
  | 0, _, _ => none
  | n + 1, x, y => if lg_cmp y (0 : Int64) = 0 then some x else tgd (tnzl y) (gl n y (lrem x y))
def okF (s r w : Nat) : Bool := match gl 60 (lI (upN2 s r w)) (lI (s ^ r)) with
  | none => false
  | some g => tnzl g && decide (lI (upN2 s r w) / g = lI (upC s r w)) && decide (lI (s ^ r) / g = lI (loC s r w))
theorem okF_all : ∀ s, s < 4 → ∀ r, r < 12 → ∀ w, w < 2 → okF (s + 1) (r + 1) w = true := by decide +kernel
