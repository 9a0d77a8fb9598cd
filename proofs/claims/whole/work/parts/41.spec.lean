/-! THE ABSTRACT TOWN: a 0 0 here, a 0 1 dogs, a 0 2 waiting, a 0 3 sights, a 0 4 yeses; a 1 strong, a 2 kind, a 3 laws, a 4 who was rung -/
theorem gd_tt {α : Type} {x : Option α} : gd true x = x := rfl
abbrev AT : Type := Nat → Nat → Nat
def OKA (a : AT) : Prop := a 0 0 < 1024 ∧ a 0 1 < 1024 ∧ a 0 2 < 1024 ∧ a 0 3 ≤ 8 ∧ a 0 4 < 2 ^ a 0 3 ∧ (∀ j, j < 100 → a 1 j ≤ 9) ∧ (∀ j, j < 100 → a 2 j ≤ 3) ∧ (∀ x y, x < 10 → y < 10 → a 1 (10 * x + y) = a 1 (10 * y + x)) ∧ (∀ x y, x < 10 → y < 10 → a 2 (10 * x + y) = a 2 (10 * y + x)) ∧ (∀ x, x < 10 → a 1 (10 * x + x) = 0) ∧ 1 ≤ a 3 0 ∧ a 3 0 ≤ 9 ∧ 1 ≤ a 3 1 ∧ a 3 1 ≤ 9 ∧ a 3 2 ≤ 1 ∧ a 3 3 ≤ 1 ∧ (∀ j, j < a 0 3 → a 4 j < 10)
def RT (T : TI) (a : AT) : Prop := T 0 0 = nI (a 0 0) ∧ T 0 1 = nI (a 0 1) ∧ T 0 2 = nI (a 0 2) ∧ T 0 3 = nI (a 0 3) ∧ T 0 4 = nI (a 0 4) ∧ (∀ j, j < 100 → T 6 j = nI (a 1 j)) ∧ (∀ j, j < 100 → T 7 j = nI (a 2 j)) ∧ (∀ j, j < 4 → T 8 j = nI (a 3 j)) ∧ (∀ j, j < a 0 3 → T 9 j = nI (a 4 j))
def RS (S : TI) (a : AT) : Prop := S 0 0 = nI (a 0 0) ∧ S 0 1 = nI (a 0 1) ∧ S 0 2 = nI (a 0 2) ∧ S 0 8 = nI (a 0 3) ∧ (∀ j, j < 100 → S 4 j = nI (a 1 j)) ∧ (∀ j, j < 100 → S 5 j = nI (a 2 j)) ∧ (∀ j, j < 4 → S 6 j = nI (a 3 j)) ∧ (∀ j, j < a 0 3 → S 7 j = nI (a 4 j)) ∧ (∀ j, j < a 0 3 → S 8 j = nI (if (a 0 4).testBit j then 1 else 0))
/-- of the places below n those that have p, as bits; how many -/
def bits (p : Nat → Bool) : Nat → Nat
  | 0 => 0
  | n + 1 => bits p n + (if p n then 2 ^ n else 0)
def cnt (p : Nat → Bool) : Nat → Nat
  | 0 => 0
  | n + 1 => cnt p n + (if p n then 1 else 0)
def pc (s : Nat) : Nat := cnt (fun i => s.testBit i) 10
theorem bits_lt (p : Nat → Bool) : ∀ n, bits p n < 2 ^ n
  | 0 => Nat.one_pos
  | n + 1 => by
    have h := bits_lt p n
    unfold bits
    rw [Nat.pow_succ]
    split <;> omega
theorem cnt_le (p : Nat → Bool) : ∀ n, cnt p n ≤ n
  | 0 => Nat.le_refl _
  | n + 1 => by
    have h := cnt_le p n
    unfold cnt
    split <;> omega
theorem cnt_congr {p q : Nat → Bool} : ∀ {n : Nat}, (∀ i, i < n → p i = q i) → cnt p n = cnt q n
  | 0, _ => rfl
  | n + 1, h => by
    unfold cnt
    rw [cnt_congr (fun i hi => h i (by omega)), h n (by omega)]
theorem bits_congr {p q : Nat → Bool} : ∀ {n : Nat}, (∀ i, i < n → p i = q i) → bits p n = bits q n
  | 0, _ => rfl
  | n + 1, h => by
    unfold bits
    rw [bits_congr (fun i hi => h i (by omega)), h n (by omega)]
theorem bits_testBit (p : Nat → Bool) : ∀ n i, (bits p n).testBit i = (decide (i < n) && p i)
  | 0, i => by simp [bits]
  | n + 1, i => by
    unfold bits
    have hl := bits_lt p n
    by_cases hp : p n = true
    · rw [if_pos hp, Nat.add_comm]
      rcases Nat.lt_trichotomy i n with h | h | h
      · rw [Nat.testBit_two_pow_add_gt h, bits_testBit p n i]
        simp [h, show i < n + 1 by omega]
      · subst h
        rw [Nat.testBit_two_pow_add_eq, bits_testBit p i i]
        simp [hp]
      · have : 2 ^ n + bits p n < 2 ^ i := by
          have h1 : 2 ^ (n + 1) ≤ 2 ^ i := Nat.pow_le_pow_right (by decide) h
          rw [Nat.pow_succ] at h1
          omega
        rw [Nat.testBit_lt_two_pow this]
        simp [show ¬ i < n + 1 by omega]
    · rw [if_neg hp, Nat.add_zero, bits_testBit p n i]
      by_cases h : i < n
      · simp [h, show i < n + 1 by omega]
      · by_cases h2 : i = n
        · subst h2
          simp [hp]
        · simp [h, show ¬ i < n + 1 by omega]
theorem bits_or (p : Nat → Bool) (n : Nat) : bits p n ||| 2 ^ n = bits p n + 2 ^ n := by
  have h := Nat.two_pow_add_eq_or_of_lt (bits_lt p n) 1
  rw [Nat.mul_one] at h
  rw [Nat.or_comm, ← h]
  omega
theorem has_v {s k : Nat} (hs : s < 2 ^ 31) (hk : k < 31) : ((nI s >>> (nI k &&& 31)) &&& (1 : Int32)) = nI (if s.testBit k then 1 else 0) := by
  rw [nI_shr hs hk, show (1 : Int32) = nI 1 from rfl, nI_and, Nat.and_one_is_mod]
  congr 1
  rw [Nat.testBit_eq_decide_div_mod_eq]
  have := Nat.mod_two_eq_zero_or_one (s / 2 ^ k)
  rcases this with h | h <;> simp [h]
theorem b01 (b : Bool) : nI (if b then 1 else 0) = if b then nI 1 else nI 0 := by cases b <;> rfl
variable {n : Nat} {T S : TI} {L : TL} {a : AT}
theorem e_holds {s k : Nat} (hs : s < 1024) (hk : k < 31) : m_X5_holds n (nI s) (nI k) = some (nI (if s.testBit k then 1 else 0)) := by
  unfold m_X5_holds
  rw [has_v (by omega) hk]
  cases s.testBit k <;> rfl
theorem e_has {s k : Nat} (hs : s < 1024) (hk : k < 31) : m_X6_has n (nI s) (nI k) = some (nI (if s.testBit k then 1 else 0)) := by
  unfold m_X6_has
  rw [has_v (by omega) hk]
  cases s.testBit k <;> rfl
theorem e_strength (h : RT T a) {x y : Nat} (hx : x < 10) (hy : y < 10) : m_X4_strength n T (nI x) (nI y) = some (nI (a 1 (10 * x + y))) := by
  unfold m_X4_strength
  have h1 := h.2.2.2.2.2.1 (10 * x + y) (by omega)
  simp (disch := omega) only [lit, nI_add, pk_mul, nI_ltE, nI_leE, nI_eqI, nI_clamp, inB_n, gd_tt, Option.bind_some, if_true, if_false, reduceIte, Nat.not_lt_zero, hy, show ¬ 10 ≤ x by omega, show x * 10 + y = 10 * x + y by omega, h1]
theorem e_kind (h : RT T a) {x y : Nat} (hx : x < 10) (hy : y < 10) (hne : x ≠ y) : m_X4_kind n T (nI x) (nI y) = some (nI (a 2 (10 * x + y))) := by
  unfold m_X4_kind
  have h1 := h.2.2.2.2.2.2.1 (10 * x + y) (by omega)
  simp (disch := omega) only [lit, nI_add, pk_mul, nI_ltE, nI_leE, nI_eqI, nI_clamp, inB_n, gd_tt, Option.bind_some, if_true, if_false, reduceIte, Nat.not_lt_zero, hy, hne, show ¬ 10 ≤ x by omega, show ¬ 10 ≤ y by omega, show x * 10 + y = 10 * x + y by omega, h1]
theorem e_rule (h : RT T a) {k : Nat} (hk : k < 4) : m_X4_rule n T (nI k) = some (nI (a 3 k)) := by
  unfold m_X4_rule
  have h1 := h.2.2.2.2.2.2.2.1 k hk
  simp (disch := omega) only [lit, nI_add, pk_mul, nI_ltE, nI_leE, nI_eqI, nI_clamp, inB_n, gd_tt, Option.bind_some, if_true, if_false, reduceIte, Nat.not_lt_zero, show ¬ 4 ≤ k by omega, h1]
