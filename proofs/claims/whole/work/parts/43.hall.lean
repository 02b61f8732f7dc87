/-! men on rungs: the marriage theorem with its deficiency -/
def pcn (S : Nat) : Nat → Nat
  | 0 => 0
  | k + 1 => pcn S k + if S.testBit k = true then 1 else 0
def orB (p : Nat → Bool) : Nat → Bool
  | 0 => false
  | k + 1 => orB p k || p k
theorem orB_iff {p : Nat → Bool} : ∀ n, (orB p n = true) ↔ ∃ m, m < n ∧ p m = true
  | 0 => by
    constructor
    · intro h; cases h
    · rintro ⟨m, h, -⟩; omega
  | n + 1 => by
    unfold orB
    rw [Bool.or_eq_true, orB_iff n]
    constructor
    · rintro (⟨m, h1, h2⟩ | h)
      · exact ⟨m, by omega, h2⟩
      · exact ⟨n, by omega, h⟩
    · rintro ⟨m, h1, h2⟩
      by_cases e : m = n
      · subst e; exact Or.inr h2
      · exact Or.inl ⟨m, by omega, h2⟩
def rmB (S m : Nat) : Nat := S ^^^ (S &&& 2 ^ m)
theorem rmB_bit (S m j : Nat) : (rmB S m).testBit j = (S.testBit j && decide (¬ j = m)) := by
  unfold rmB
  rw [Nat.testBit_xor, Nat.testBit_and, Nat.testBit_two_pow]
  by_cases e : j = m
  · subst e; simp
  · have e2 : ¬ m = j := fun q => e q.symm
    simp [e, e2]
def nbB (e : Nat → Nat → Bool) (G r : Nat) : Bool := orB (fun m => G.testBit m && e m r) 6
def nrB (e : Nat → Nat → Bool) (G : Nat) : Nat → Nat
  | 0 => 0
  | r + 1 => nrB e G r + if nbB e G (r + 1) = true then 1 else 0
def cnB (e : Nat → Nat → Bool) : Nat → Nat → Bool
  | 0, S => decide (S = 0)
  | r + 1, S => cnB e r S || orB (fun m => S.testBit m && e m (r + 1) && cnB e r (rmB S m)) 6
def subB (G A : Nat) : Prop := ∀ k, G.testBit k = true → A.testBit k = true
theorem cnB_s {e : Nat → Nat → Bool} {r S : Nat} : (cnB e (r + 1) S = true) ↔ cnB e r S = true ∨ ∃ m, m < 6 ∧ S.testBit m = true ∧ e m (r + 1) = true ∧ cnB e r (rmB S m) = true := by
  show ((cnB e r S || orB _ 6) = true) ↔ _
  rw [Bool.or_eq_true, orB_iff]
  simp only [Bool.and_eq_true]
  constructor
  · rintro (h | ⟨m, h, ⟨h1, h2⟩, h3⟩)
    · exact Or.inl h
    · exact Or.inr ⟨m, h, h1, h2, h3⟩
  · rintro (h | ⟨m, h, h1, h2, h3⟩)
    · exact Or.inl h
    · exact Or.inr ⟨m, h, ⟨h1, h2⟩, h3⟩
theorem nbB_iff {e : Nat → Nat → Bool} {G r : Nat} : (nbB e G r = true) ↔ ∃ m, m < 6 ∧ G.testBit m = true ∧ e m r = true := by
  unfold nbB
  rw [orB_iff]
  simp only [Bool.and_eq_true]
theorem pcn_le {S T : Nat} : ∀ n, (∀ k, k < n → S.testBit k = true → T.testBit k = true) → pcn S n ≤ pcn T n
  | 0, _ => Nat.le_refl _
  | n + 1, h => by
    have ih := pcn_le (S := S) (T := T) n (fun k hk => h k (by omega))
    have hn := h n (by omega)
    unfold pcn
    by_cases q : S.testBit n = true
    · rw [if_pos q, if_pos (hn q)]; omega
    · rw [if_neg q]; omega
theorem pcn_congr {S T : Nat} : ∀ n, (∀ k, k < n → S.testBit k = T.testBit k) → pcn S n = pcn T n
  | 0, _ => rfl
  | n + 1, h => by
    unfold pcn
    rw [pcn_congr n (fun k hk => h k (by omega)), h n (by omega)]
theorem pcn_rm {S m : Nat} : ∀ n, m < n → S.testBit m = true → pcn S n = pcn (rmB S m) n + 1
  | 0, h, _ => by omega
  | n + 1, h, hs => by
    unfold pcn
    by_cases e : m = n
    · subst e
      rw [if_pos hs, if_neg (by rw [rmB_bit]; simp), pcn_congr (T := rmB S m) m (fun k hk => by rw [rmB_bit]; simp [show ¬ k = m by omega])]
    · rw [pcn_rm n (by omega) hs, rmB_bit, decide_eq_true (show ¬ n = m by omega), Bool.and_true]
      omega
theorem pcn_sm (G H : Nat) : ∀ n, pcn (G &&& H) n + pcn (G ||| H) n = pcn G n + pcn H n
  | 0 => rfl
  | n + 1 => by
    have ih := pcn_sm G H n
    unfold pcn
    rw [Nat.testBit_and, Nat.testBit_or]
    cases G.testBit n <;> cases H.testBit n <;> simp <;> omega
theorem nbB_mono {e : Nat → Nat → Bool} {G H r : Nat} (h : subB G H) (g : nbB e G r = true) : nbB e H r = true := by
  rw [nbB_iff] at g ⊢
  obtain ⟨m, h1, h2, h3⟩ := g
  exact ⟨m, h1, h m h2, h3⟩
theorem nrB_sm (e : Nat → Nat → Bool) (G H : Nat) : ∀ n, nrB e (G &&& H) n + nrB e (G ||| H) n ≤ nrB e G n + nrB e H n
  | 0 => Nat.le_refl _
  | n + 1 => by
    have ih := nrB_sm e G H n
    have a1 : nbB e (G &&& H) (n + 1) = true → nbB e G (n + 1) = true := nbB_mono (fun k hk => by rw [Nat.testBit_and, Bool.and_eq_true] at hk; exact hk.1)
    have a2 : nbB e (G &&& H) (n + 1) = true → nbB e H (n + 1) = true := nbB_mono (fun k hk => by rw [Nat.testBit_and, Bool.and_eq_true] at hk; exact hk.2)
    have a3 : nbB e (G ||| H) (n + 1) = true → nbB e G (n + 1) = true ∨ nbB e H (n + 1) = true := by
      intro g
      rw [nbB_iff] at g
      obtain ⟨m, h1, h2, h3⟩ := g
      rw [Nat.testBit_or, Bool.or_eq_true] at h2
      rcases h2 with h2 | h2
      · exact Or.inl (nbB_iff.mpr ⟨m, h1, h2, h3⟩)
      · exact Or.inr (nbB_iff.mpr ⟨m, h1, h2, h3⟩)
    unfold nrB
    revert a1 a2 a3
    cases nbB e (G &&& H) (n + 1) <;> cases nbB e (G ||| H) (n + 1) <;> cases nbB e G (n + 1) <;> cases nbB e H (n + 1) <;> simp <;> omega
theorem nrB_s (e : Nat → Nat → Bool) (G n : Nat) : nrB e G (n + 1) ≤ nrB e G n + 1 ∧ nrB e G n ≤ nrB e G (n + 1) := by
  show nrB e G n + _ ≤ _ ∧ _ ≤ nrB e G n + _
  split <;> omega
theorem nrB_t {e : Nat → Nat → Bool} {G n : Nat} (h : nbB e G (n + 1) = true) : nrB e G (n + 1) = nrB e G n + 1 := by
  show nrB e G n + _ = _
  rw [if_pos h]
theorem nrB_f {e : Nat → Nat → Bool} {G n : Nat} (h : ¬ nbB e G (n + 1) = true) : nrB e G (n + 1) = nrB e G n := by
  show nrB e G n + _ = _
  rw [if_neg h]; rfl
theorem weak {e : Nat → Nat → Bool} : ∀ R S, cnB e R S = true → ∀ G, pcn (S &&& G) 6 ≤ nrB e G R
  | 0, S, h, G => by
    have : S = 0 := of_decide_eq_true h
    subst this
    rw [Nat.zero_and]
    exact Nat.zero_le 0
  | R + 1, S, h, G => by
    have hs := nrB_s e G R
    rcases cnB_s.mp h with h | ⟨m, hm, h1, h2, h3⟩
    · have := weak R S h G
      omega
    · have ih := weak R (rmB S m) h3 G
      by_cases g : G.testBit m = true
      · rw [nrB_t (nbB_iff.mpr ⟨m, hm, g, h2⟩), pcn_rm (m := m) 6 hm (by rw [Nat.testBit_and, h1, g]; rfl), pcn_congr (T := rmB S m &&& G) 6 (fun k hk => by
          rw [rmB_bit, Nat.testBit_and, Nat.testBit_and, rmB_bit]
          cases S.testBit k <;> cases G.testBit k <;> simp)]
        omega
      · rw [pcn_congr (T := rmB S m &&& G) 6 (fun k hk => by
          rw [Nat.testBit_and, Nat.testBit_and, rmB_bit]
          by_cases ek : k = m
          · subst ek; simp at g; simp [g]
          · simp [ek])]
        omega
theorem cnB_0 (e : Nat → Nat → Bool) : ∀ R, cnB e R 0 = true
  | 0 => rfl
  | R + 1 => cnB_s.mpr (Or.inl (cnB_0 e R))
theorem strong {e : Nat → Nat → Bool} : ∀ R A d, (∀ G, subB G A → d + pcn G 6 ≤ pcn A 6 + nrB e G R) → ∃ S, subB S A ∧ cnB e R S = true ∧ d ≤ pcn S 6
  | 0, A, d, h => by
    have := h A (fun k hk => hk)
    have e0 : nrB e A 0 = 0 := rfl
    exact ⟨0, fun k hk => by rw [Nat.zero_testBit] at hk; exact absurd hk (by decide), rfl, by omega⟩
  | R + 1, A, d, h => by
    by_cases h1 : ∀ G, subB G A → d + pcn G 6 ≤ pcn A 6 + nrB e G R
    · obtain ⟨S, s1, s2, s3⟩ := strong R A d h1
      exact ⟨S, s1, cnB_s.mpr (Or.inl s2), s3⟩
    · have hG0 : ∃ G, subB G A ∧ pcn A 6 + nrB e G R + 1 ≤ d + pcn G 6 := by
        refine Classical.byContradiction (fun hn => h1 (fun G hG => ?_))
        refine Classical.byContradiction (fun hq => hn ⟨G, hG, by omega⟩)
      by_cases h2 : ∃ m, m < 6 ∧ A.testBit m = true ∧ e m (R + 1) = true ∧ ∀ G, subB G (rmB A m) → (d - 1) + pcn G 6 ≤ pcn (rmB A m) 6 + nrB e G R
      · obtain ⟨m, hm, m1, m2, m3⟩ := h2
        obtain ⟨S, s1, s2, s3⟩ := strong R (rmB A m) (d - 1) m3
        have hSm : S.testBit m = false := by
          cases q : S.testBit m
          · rfl
          · have := s1 m q
            rw [rmB_bit] at this
            simp at this
        have hrm : rmB (S ||| 2 ^ m) m = S := by
          apply Nat.eq_of_testBit_eq
          intro k
          rw [rmB_bit, Nat.testBit_or, Nat.testBit_two_pow]
          by_cases ek : k = m
          · subst ek; simp [hSm]
          · have e2 : ¬ m = k := fun q => ek q.symm
            simp [ek, e2]
        have hbm : (S ||| 2 ^ m).testBit m = true := by rw [Nat.testBit_or, Nat.testBit_two_pow_self, Bool.or_true]
        refine ⟨S ||| 2 ^ m, fun k hk => ?_, cnB_s.mpr (Or.inr ⟨m, hm, hbm, m2, by rw [hrm]; exact s2⟩), ?_⟩
        · rw [Nat.testBit_or, Nat.testBit_two_pow, Bool.or_eq_true] at hk
          rcases hk with hk | hk
          · have := s1 k hk
            rw [rmB_bit, Bool.and_eq_true] at this
            exact this.1
          · have : m = k := of_decide_eq_true hk
            subst this; exact m1
        · have := pcn_rm (S := S ||| 2 ^ m) 6 hm hbm
          rw [hrm] at this
          omega
      · exfalso
        have hup : ∀ G, subB G A → d + pcn G 6 ≤ pcn A 6 + nrB e G R + 1 := fun G hG => by
          have a := h G hG
          have b := nrB_s e G R
          omega
        have hd : 1 ≤ d := by
          obtain ⟨G, g1, g2⟩ := hG0
          have := pcn_le (S := G) (T := A) 6 (fun k _ => g1 k)
          omega
        have hall : ∀ k, k ≤ 6 → ∃ G, subB G A ∧ pcn A 6 + nrB e G R + 1 ≤ d + pcn G 6 ∧ ∀ m, m < k → e m (R + 1) = true → G.testBit m = false := by
          intro k
          induction k with
          | zero =>
            intro _
            obtain ⟨G, g1, g2⟩ := hG0
            exact ⟨G, g1, g2, fun m hm => by omega⟩
          | succ k ih =>
            intro hk
            obtain ⟨G, g1, g2, g3⟩ := ih (by omega)
            by_cases q : e k (R + 1) = true ∧ G.testBit k = true
            · have hGk : ∃ H, subB H (rmB A k) ∧ pcn (rmB A k) 6 + nrB e H R + 1 ≤ (d - 1) + pcn H 6 := by
                refine Classical.byContradiction (fun hn => h2 ⟨k, by omega, g1 k q.2, q.1, fun H hH => ?_⟩)
                refine Classical.byContradiction (fun hq => hn ⟨H, hH, by omega⟩)
              obtain ⟨H, k1, k2⟩ := hGk
              have hHA : subB H A := fun j hj => by
                have := k1 j hj
                rw [rmB_bit, Bool.and_eq_true] at this
                exact this.1
              have hA := pcn_rm (S := A) (m := k) 6 (by omega) (g1 k q.2)
              have s1 := pcn_sm G H 6
              have s2 := nrB_sm e G H R
              have s3 := hup (G ||| H) (fun j hj => by
                rw [Nat.testBit_or, Bool.or_eq_true] at hj
                rcases hj with hj | hj
                · exact g1 j hj
                · exact hHA j hj)
              refine ⟨G &&& H, fun j hj => ?_, by omega, fun m hm em => ?_⟩
              · rw [Nat.testBit_and, Bool.and_eq_true] at hj
                exact g1 j hj.1
              · rw [Nat.testBit_and]
                by_cases em2 : m = k
                · subst em2
                  have : H.testBit m = false := by
                    cases qq : H.testBit m
                    · rfl
                    · have := k1 m qq
                      rw [rmB_bit] at this
                      simp at this
                  rw [this, Bool.and_false]
                · rw [g3 m (by omega) em, Bool.false_and]
            · refine ⟨G, g1, g2, fun m hm em => ?_⟩
              by_cases em2 : m = k
              · subst em2
                cases qq : G.testBit m
                · rfl
                · exact absurd ⟨em, qq⟩ q
              · exact g3 m (by omega) em
        obtain ⟨G, g1, g2, g3⟩ := hall 6 (Nat.le_refl _)
        have hf := nrB_f (e := e) (G := G) (n := R) (fun hb => by
          obtain ⟨m, a1, a2, a3⟩ := nbB_iff.mp hb
          rw [g3 m a1 a3] at a2
          cases a2)
        have := h G g1
        omega
def isNu (e : Nat → Nat → Bool) (A v : Nat) : Prop := (∃ S, subB S A ∧ cnB e 12 S = true ∧ pcn S 6 = v) ∧ ∀ S, subB S A → cnB e 12 S = true → pcn S 6 ≤ v
theorem isNu_uniq {e : Nat → Nat → Bool} {A v w : Nat} (h : isNu e A v) (g : isNu e A w) : v = w := by
  obtain ⟨⟨S, s1, s2, s3⟩, h2⟩ := h
  obtain ⟨⟨S', t1, t2, t3⟩, g2⟩ := g
  have a := h2 S' t1 t2
  have b := g2 S s1 s2
  omega
theorem isNu_def {e : Nat → Nat → Bool} {A d : Nat} (h : ∀ G, subB G A → d + pcn G 6 ≤ pcn A 6 + nrB e G 12) (g : ∃ G, subB G A ∧ d + pcn G 6 = pcn A 6 + nrB e G 12) : isNu e A d := by
  have hw : ∀ S, subB S A → cnB e 12 S = true → pcn S 6 ≤ d := by
    intro S s1 s2
    obtain ⟨G, g1, g2⟩ := g
    have a := weak 12 S s2 G
    have b := pcn_sm S G 6
    have c := pcn_le (S := S ||| G) (T := A) 6 (fun k _ hk => by
      rw [Nat.testBit_or, Bool.or_eq_true] at hk
      rcases hk with hk | hk
      · exact s1 k hk
      · exact g1 k hk)
    omega
  obtain ⟨S, s1, s2, s3⟩ := strong 12 A d h
  have := hw S s1 s2
  exact ⟨⟨S, s1, s2, by omega⟩, hw⟩
theorem cnB_mono {e e' : Nat → Nat → Bool} : ∀ R S, cnB e R S = true → (∀ m r, m < 6 → S.testBit m = true → e m r = true → e' m r = true) → cnB e' R S = true
  | 0, S, h, _ => h
  | R + 1, S, h, g => by
    rcases cnB_s.mp h with h | ⟨m, hm, h1, h2, h3⟩
    · exact cnB_s.mpr (Or.inl (cnB_mono R S h g))
    · refine cnB_s.mpr (Or.inr ⟨m, hm, h1, g m _ hm h1 h2, cnB_mono R _ h3 (fun k r hk q => g k r hk ?_)⟩)
      rw [rmB_bit, Bool.and_eq_true] at q
      exact q.1
theorem cnB_sub {e : Nat → Nat → Bool} {A : Nat} (he : ∀ m r, m < 6 → e m r = true → A.testBit m = true) : ∀ R S, cnB e R S = true → subB S A
  | 0, S, h => by
    have : S = 0 := of_decide_eq_true h
    subst this
    intro k hk
    rw [Nat.zero_testBit] at hk
    cases hk
  | R + 1, S, h => by
    rcases cnB_s.mp h with h | ⟨m, hm, h1, h2, h3⟩
    · exact cnB_sub he R S h
    · have ih := cnB_sub he R _ h3
      intro k hk
      by_cases ek : k = m
      · subst ek; exact he k _ hm h2
      · exact ih k (by rw [rmB_bit, hk, decide_eq_true ek]; rfl)
theorem rmB_comm (S m k : Nat) : rmB (rmB S m) k = rmB (rmB S k) m := by
  apply Nat.eq_of_testBit_eq
  intro j
  rw [rmB_bit, rmB_bit, rmB_bit, rmB_bit]
  cases S.testBit j <;> cases decide (¬ j = m) <;> cases decide (¬ j = k) <;> rfl
def offR (e : Nat → Nat → Bool) (r : Nat) : Nat → Nat → Bool := fun m k => e m k && decide (¬ k = r)
theorem matchOut {e : Nat → Nat → Bool} {m : Nat} (hm : m < 6) : ∀ R S, cnB e R S = true → S.testBit m = true → ∃ r, 1 ≤ r ∧ r ≤ R ∧ e m r = true ∧ cnB (offR e r) R (rmB S m) = true
  | 0, S, h, g => by
    have : S = 0 := of_decide_eq_true h
    subst this
    rw [Nat.zero_testBit] at g
    cases g
  | R + 1, S, h, g => by
    rcases cnB_s.mp h with h | ⟨k, hk, h1, h2, h3⟩
    · obtain ⟨r, a1, a2, a3, a4⟩ := matchOut hm R S h g
      exact ⟨r, a1, by omega, a3, cnB_s.mpr (Or.inl a4)⟩
    · by_cases ek : k = m
      · subst ek
        refine ⟨R + 1, by omega, by omega, h2, cnB_s.mpr (Or.inl ?_)⟩
        exact cnB_lt (q := 0) R _ h3
      · obtain ⟨r, a1, a2, a3, a4⟩ := matchOut hm R _ h3 (by rw [rmB_bit, g, decide_eq_true (show ¬ m = k from fun q => ek q.symm)]; rfl)
        refine ⟨r, a1, by omega, a3, cnB_s.mpr (Or.inr ⟨k, hk, ?_, ?_, ?_⟩)⟩
        · rw [rmB_bit, h1, decide_eq_true ek]; rfl
        · unfold offR; rw [h2, decide_eq_true (by omega)]; rfl
        · rw [rmB_comm]; exact a4
where
  cnB_lt {e : Nat → Nat → Bool} {q : Nat} : ∀ R S, cnB e R S = true → cnB (offR e (R + 1 + q)) R S = true
  | 0, S, h => h
  | R + 1, S, h => by
    rcases cnB_s.mp h with h | ⟨k, hk, h1, h2, h3⟩
    · have := cnB_lt (q := q + 1) R S h
      rw [show R + 1 + (q + 1) = R + 1 + 1 + q by omega] at this
      exact cnB_s.mpr (Or.inl this)
    · have := cnB_lt (q := q + 1) R _ h3
      rw [show R + 1 + (q + 1) = R + 1 + 1 + q by omega] at this
      refine cnB_s.mpr (Or.inr ⟨k, hk, h1, ?_, this⟩)
      unfold offR; rw [h2, decide_eq_true (by omega)]; rfl
theorem orB_rm {S m k : Nat} (h : ¬ k = m) : rmB (S ||| 2 ^ m) k = rmB S k ||| 2 ^ m := by
  apply Nat.eq_of_testBit_eq
  intro j
  rw [rmB_bit, Nat.testBit_or, Nat.testBit_or, rmB_bit, Nat.testBit_two_pow]
  by_cases e : m = j
  · subst e
    have : ¬ m = k := fun q => h q.symm
    simp [this]
  · simp [e]
theorem orB_rmS {S m : Nat} (h : S.testBit m = false) : rmB (S ||| 2 ^ m) m = S := by
  apply Nat.eq_of_testBit_eq
  intro k
  rw [rmB_bit, Nat.testBit_or, Nat.testBit_two_pow]
  by_cases ek : k = m
  · subst ek; simp [h]
  · have e2 : ¬ m = k := fun q => ek q.symm
    simp [ek, e2]
theorem matchIn {e : Nat → Nat → Bool} {m r : Nat} (hm : m < 6) (h1 : 1 ≤ r) (he : e m r = true) : ∀ R S, r ≤ R → S.testBit m = false → cnB (offR e r) R S = true → cnB e R (S ||| 2 ^ m) = true
  | 0, S, hr, _, _ => by omega
  | R + 1, S, hr, hS, h => by
    have hup : ∀ S', cnB (offR e r) R S' = true → cnB e R S' = true := fun S' g => cnB_mono R S' g (fun a b _ _ q => by unfold offR at q; rw [Bool.and_eq_true] at q; exact q.1)
    have hbm : (S ||| 2 ^ m).testBit m = true := by rw [Nat.testBit_or, Nat.testBit_two_pow_self, Bool.or_true]
    rcases cnB_s.mp h with h | ⟨k, hk, g1, g2, g3⟩
    · by_cases er : r = R + 1
      · subst er
        exact cnB_s.mpr (Or.inr ⟨m, hm, hbm, he, by rw [orB_rmS hS]; exact hup S h⟩)
      · exact cnB_s.mpr (Or.inl (matchIn hm h1 he R S (by omega) hS h))
    · unfold offR at g2
      rw [Bool.and_eq_true] at g2
      have er : ¬ R + 1 = r := of_decide_eq_true g2.2
      have ek : ¬ k = m := fun q => by subst q; rw [hS] at g1; cases g1
      have ih := matchIn hm h1 he R (rmB S k) (by omega) (by rw [rmB_bit, hS]; rfl) g3
      refine cnB_s.mpr (Or.inr ⟨k, hk, by rw [Nat.testBit_or, g1]; rfl, g2.1, ?_⟩)
      rw [orB_rm ek]; exact ih
