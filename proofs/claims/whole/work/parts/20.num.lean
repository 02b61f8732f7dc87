/-! numbers: Int32 as nI of a Nat; trees; loops -/
theorem tbd_some {α β : Type} (a : α) (k : α → Option β) : tbd (some a) k = k a := rfl
theorem tgd_true {α : Type} (t : Option α) : tgd true t = t := rfl
theorem tnm_eq {α β : Type} (x : α) (k : α → Option β) : tnm x k = k x := rfl
theorem tin_nI {k n : Nat} (h : k < n) (hn : n < 2147483648) : tin (nI k) n = true := by
  unfold tin
  exact decide_eq_true (vp_in_nI h (by omega))
theorem nC {n : Nat} (h : n < 2147483648) : Int32.toNatClampNeg (nI n) = n := nI_clamp (by omega)
theorem nLE {a b : Nat} (ha : a < 2147483648) (hb : b < 2147483648) : (nI a ≤ nI b) ↔ a ≤ b := nI_leI (by omega) (by omega)
theorem nLT {a b : Nat} (ha : a < 2147483648) (hb : b < 2147483648) : (nI a < nI b) ↔ a < b := nI_ltI (by omega) (by omega)
theorem nEQ {a b : Nat} (ha : a < 2147483648) (hb : b < 2147483648) : (nI a = nI b) ↔ a = b := nI_eq (by omega) (by omega)
theorem nT {n : Nat} (h : n < 2147483648) : (nI n).toInt = (n : Int) := nI_toInt (by omega)
theorem negT {b : Nat} (h : b < 2147483648) : (-nI b).toInt = -(b : Int) := sb_negT (by omega)
theorem n_ne_neg {a b : Nat} (ha : a < 2147483648) (h0 : 0 < b) (hb : b < 2147483648) : (nI a = -nI b) ↔ False := by
  refine ⟨fun h => ?_, fun h => h.elim⟩
  have h1 := congrArg Int32.toInt h
  rw [nT ha, negT hb] at h1
  omega
theorem neg_ne_n {a b : Nat} (ha : a < 2147483648) (h0 : 0 < b) (hb : b < 2147483648) : (-nI b = nI a) ↔ False := by
  rw [eq_comm]; exact n_ne_neg ha h0 hb
theorem neg_lt_n {a b : Nat} (ha : a < 2147483648) (h0 : 0 < b) (hb : b < 2147483648) : (-nI b < nI a) ↔ True := by
  rw [Int32.lt_iff_toInt_lt, nT ha, negT hb]
  constructor
  · intro _; trivial
  · intro _; omega
theorem n_le_neg {a b : Nat} (ha : a < 2147483648) (h0 : 0 < b) (hb : b < 2147483648) : (nI a ≤ -nI b) ↔ False := by
  rw [Int32.le_iff_toInt_le, nT ha, negT hb]
  constructor
  · intro _; omega
  · intro h; exact h.elim
theorem n_lt_neg {a b : Nat} (ha : a < 2147483648) (h0 : 0 < b) (hb : b < 2147483648) : (nI a < -nI b) ↔ False := by
  rw [Int32.lt_iff_toInt_lt, nT ha, negT hb]
  constructor
  · intro _; omega
  · intro h; exact h.elim
theorem neg_le_n {a b : Nat} (ha : a < 2147483648) (hb : b < 2147483648) : (-nI b ≤ nI a) ↔ True := by
  rw [Int32.le_iff_toInt_le, nT ha, negT hb]
  constructor
  · intro _; trivial
  · intro _; omega
theorem neg_EQ {a b : Nat} (ha : a < 2147483648) (hb : b < 2147483648) : (-nI a = -nI b) ↔ a = b := by
  constructor
  · intro h
    have h1 := congrArg Int32.toInt h
    rw [negT ha, negT hb] at h1
    omega
  · intro h; rw [h]
theorem nSUB {a b : Nat} (h : b ≤ a) : nI a - nI b = nI (a - b) := pk_sub h
theorem nDEC {a : Nat} (h : 0 < a) : nI a + -nI 1 = nI (a - 1) := by
  obtain ⟨k, rfl⟩ : ∃ k, a = k + 1 := ⟨a - 1, by omega⟩
  exact pk_m1 k
theorem nAND (a b : Nat) : nI a &&& nI b = nI (a &&& b) := by
  unfold nI
  apply Int32.toBitVec_inj.mp
  apply BitVec.eq_of_getLsbD_eq
  intro i hi
  simp [Int32.toBitVec_ofNat, BitVec.getLsbD_ofNat, hi]
theorem nOR (a b : Nat) : nI a ||| nI b = nI (a ||| b) := by
  unfold nI
  apply Int32.toBitVec_inj.mp
  apply BitVec.eq_of_getLsbD_eq
  intro i hi
  simp [Int32.toBitVec_ofNat, BitVec.getLsbD_ofNat, hi]
theorem nXOR (a b : Nat) : nI a ^^^ nI b = nI (a ^^^ b) := by
  unfold nI
  apply Int32.toBitVec_inj.mp
  apply BitVec.eq_of_getLsbD_eq
  intro i hi
  simp [Int32.toBitVec_ofNat, BitVec.getLsbD_ofNat, hi]
theorem clr_gen (x y : Int32) : x &&& (y ^^^ -nI 1) = x ^^^ (x &&& y) := by
  apply Int32.toBitVec_inj.mp
  apply BitVec.eq_of_getLsbD_eq
  intro i hi
  have h1 : (-nI 1).toBitVec = BitVec.allOnes 32 := by decide
  simp only [Int32.toBitVec_and, Int32.toBitVec_xor, h1, BitVec.getLsbD_and, BitVec.getLsbD_xor, BitVec.getLsbD_allOnes, hi, decide_true]
  cases x.toBitVec.getLsbD i <;> cases y.toBitVec.getLsbD i <;> rfl
theorem nCLR (a b : Nat) : nI a &&& (nI b ^^^ -nI 1) = nI (a ^^^ (a &&& b)) := by
  rw [clr_gen, nAND, nXOR]
theorem s31 : ∀ n, n < 32 → ((nI n &&& 31).toBitVec.smod 32).toNat = n := by decide
theorem nSHL1 : ∀ k, k < 31 → nI 1 <<< (nI k &&& 31) = nI (2 ^ k) := by decide
theorem nSHL {n k : Nat} (hk : k < 31) (h : n * 2 ^ k < 4294967296) : nI n <<< (nI k &&& 31) = nI (n * 2 ^ k) := pk_shlN _ k (s31 k (by omega)) (by omega)
theorem nSHR {n k : Nat} (hn : n < 2147483648) (hk : k < 31) : nI n >>> (nI k &&& 31) = nI (n / 2 ^ k) := pk_shrN (by omega) _ k (s31 k (by omega))
theorem nAND1 (a : Nat) : nI a &&& nI 1 = nI (a % 2) := by
  rw [nAND]; congr 1; exact Nat.and_one_is_mod a
theorem nDIV {a d : Nat} (ha : a < 2147483648) (h0 : 0 < d) (hd : d < 2147483648) : nI a / nI d = nI (a / d) := pk_div (by omega) h0 (by omega)
theorem nREM {a d : Nat} (ha : a < 2147483648) (h0 : 0 < d) (hd : d < 2147483648) : irem (nI a) (nI d) = nI (a % d) := pk_rem (by omega) h0 (by omega)
theorem nMIN {a b : Nat} (ha : a < 2147483648) (hb : b < 2147483648) : imin (nI a) (nI b) = nI (min a b) := by
  unfold imin
  by_cases h : b < a
  · rw [if_pos ((nLT hb ha).mpr h)]; congr 1; omega
  · rw [if_neg (fun q => h ((nLT hb ha).mp q))]; congr 1; omega
theorem nMAX {a b : Nat} (ha : a < 2147483648) (hb : b < 2147483648) : imax (nI a) (nI b) = nI (max a b) := by
  unfold imax
  by_cases h : a < b
  · rw [if_pos ((nLT ha hb).mpr h)]; congr 1; omega
  · rw [if_neg (fun q => h ((nLT ha hb).mp q))]; congr 1; omega
theorem nZ {a : Nat} (h0 : 0 < a) (h : a < 2147483648) : tnz (nI a) = true := by
  unfold tnz
  exact decide_eq_true (nI_ne0 h0 (by omega))
/-- an int of a range is nI of a Nat -/
theorem n_of {x : Int32} (h : ¬ x < nI 0) : ∃ k, k < 2147483648 ∧ x = nI k := nI_of h
theorem tit_run {S E : Type} {F : (S → Option E) → S → Option E} (st : Nat → S) (N : Nat) (r : Option E) (hs : ∀ rc i, i < N → F rc (st i) = rc (st (i + 1))) (hx : ∀ rc, F rc (st N) = r) : ∀ n, N < n → tit F n (st 0) = r := by
  suffices h : ∀ k n i, i + k = N → k < n → tit F n (st i) = r from fun n hn => h N n 0 (by omega) hn
  intro k
  induction k with
  | zero =>
    intro n i hi hn
    obtain ⟨n, rfl⟩ : ∃ m, n = m + 1 := ⟨n - 1, by omega⟩
    have : i = N := by omega
    subst this
    exact hx _
  | succ k ih =>
    intro n i hi hn
    obtain ⟨n, rfl⟩ : ∃ m, n = m + 1 := ⟨n - 1, by omega⟩
    show F (tit F n) (st i) = r
    rw [hs _ i (by omega)]
    exact ih n (i + 1) (by omega) (by omega)
theorem FU_gt {N : Nat} (h : N < 5000) : N < FU := h

theorem I0 : (0 : Int32) = nI 0 := by decide
theorem I1 : (1 : Int32) = nI 1 := by decide
theorem I2 : (2 : Int32) = nI 2 := by decide
theorem I3 : (3 : Int32) = nI 3 := by decide
theorem I4 : (4 : Int32) = nI 4 := by decide
theorem I5 : (5 : Int32) = nI 5 := by decide
theorem I6 : (6 : Int32) = nI 6 := by decide
theorem I7 : (7 : Int32) = nI 7 := by decide
theorem I8 : (8 : Int32) = nI 8 := by decide
theorem I9 : (9 : Int32) = nI 9 := by decide
theorem I10 : (10 : Int32) = nI 10 := by decide
theorem I12 : (12 : Int32) = nI 12 := by decide
theorem I13 : (13 : Int32) = nI 13 := by decide
theorem I16 : (16 : Int32) = nI 16 := by decide
theorem I20 : (20 : Int32) = nI 20 := by decide
theorem I26 : (26 : Int32) = nI 26 := by decide
theorem I30 : (30 : Int32) = nI 30 := by decide
theorem I31 : (31 : Int32) = nI 31 := by decide
theorem I32 : (32 : Int32) = nI 32 := by decide
theorem I33 : (33 : Int32) = nI 33 := by decide
theorem I37 : (37 : Int32) = nI 37 := by decide
theorem I38 : (38 : Int32) = nI 38 := by decide
theorem I39 : (39 : Int32) = nI 39 := by decide
theorem I40 : (40 : Int32) = nI 40 := by decide
theorem I41 : (41 : Int32) = nI 41 := by decide
theorem I43 : (43 : Int32) = nI 43 := by decide
theorem I44 : (44 : Int32) = nI 44 := by decide
theorem I45 : (45 : Int32) = nI 45 := by decide
theorem I46 : (46 : Int32) = nI 46 := by decide
theorem I47 : (47 : Int32) = nI 47 := by decide
theorem I48 : (48 : Int32) = nI 48 := by decide
theorem I52 : (52 : Int32) = nI 52 := by decide
theorem I60 : (60 : Int32) = nI 60 := by decide
theorem I61 : (61 : Int32) = nI 61 := by decide
theorem I63 : (63 : Int32) = nI 63 := by decide
theorem I64 : (64 : Int32) = nI 64 := by decide
theorem I65 : (65 : Int32) = nI 65 := by decide
theorem I70 : (70 : Int32) = nI 70 := by decide
theorem I72 : (72 : Int32) = nI 72 := by decide
theorem I74 : (74 : Int32) = nI 74 := by decide
theorem I75 : (75 : Int32) = nI 75 := by decide
theorem I94 : (94 : Int32) = nI 94 := by decide
theorem I95 : (95 : Int32) = nI 95 := by decide
theorem I97 : (97 : Int32) = nI 97 := by decide
theorem I99 : (99 : Int32) = nI 99 := by decide
theorem I100 : (100 : Int32) = nI 100 := by decide
theorem I107 : (107 : Int32) = nI 107 := by decide
theorem I108 : (108 : Int32) = nI 108 := by decide
theorem I126 : (126 : Int32) = nI 126 := by decide
theorem I140 : (140 : Int32) = nI 140 := by decide
theorem I4095 : (4095 : Int32) = nI 4095 := by decide
theorem I4096 : (4096 : Int32) = nI 4096 := by decide
theorem I9999 : (9999 : Int32) = nI 9999 := by decide
theorem I65537 : (65537 : Int32) = nI 65537 := by decide
theorem I1000000 : (1000000 : Int32) = nI 1000000 := by decide
