/-! COMPARISONS decided by what stands in the context; flags; stores; loops -/
theorem gd_tt {α : Type} {x : Option α} : gd true x = x := Eq.trans rfl rfl
theorem litN {k : Nat} : (@OfNat.ofNat Int32 k _) = nI k := Eq.trans lit rfl
theorem bindS {α β : Type} {x : α} {f : α → Option β} : (some x).bind f = f x := Eq.trans rfl rfl
theorem leT {a b : Nat} (h : a ≤ b) : (a ≤ b) = True := eq_true h
theorem leF {a b : Nat} (h : ¬ a ≤ b) : (a ≤ b) = False := eq_false h
theorem ltT {a b : Nat} (h : a < b) : (a < b) = True := eq_true h
theorem ltF {a b : Nat} (h : ¬ a < b) : (a < b) = False := eq_false h
theorem eqT {a b : Nat} (h : a = b) : (a = b) = True := eq_true h
theorem eqF {a b : Nat} (h : ¬ a = b) : (a = b) = False := eq_false h
theorem nI_negT {b : Nat} (hb : b < 2 ^ 31) : (-nI b).toInt = -(b : Int) := by
  rw [Int32.toInt_neg, nI_toInt hb]
  unfold Int.bmod
  simp only [Int32.size]
  omega
theorem nI_negR {a b : Nat} (ha : a < 2 ^ 31) (h0 : 0 < b) (hb : b < 2 ^ 31) : (nI a = -nI b) = False := eq_false (fun h => by
  have h2 := congrArg Int32.toInt h
  rw [nI_negT hb, nI_toInt ha] at h2
  omega)
theorem nI_negL {a b : Nat} (ha : a < 2 ^ 31) (h0 : 0 < b) (hb : b < 2 ^ 31) : (-nI b = nI a) = False := eq_false (fun h => by
  have h2 := congrArg Int32.toInt h
  rw [nI_negT hb, nI_toInt ha] at h2
  omega)
theorem nI_negE {a b : Nat} (ha : a < 2 ^ 31) (hb : b < 2 ^ 31) : (-nI a = -nI b) = (a = b) := propext ⟨fun h => by
  have h2 := congrArg Int32.toInt h
  rw [nI_negT hb, nI_negT ha] at h2
  omega, fun h => by rw [h]⟩
theorem nI_negLt {a b : Nat} (ha : a < 2 ^ 31) (h0 : 0 < b) (hb : b < 2 ^ 31) : (-nI b < nI a) = True := eq_true (by
  rw [Int32.lt_iff_toInt_lt, nI_negT hb, nI_toInt ha]
  omega)
theorem nI_negGe {a b : Nat} (ha : a < 2 ^ 31) (h0 : 0 < b) (hb : b < 2 ^ 31) : (nI a ≤ -nI b) = False := eq_false (by
  rw [Int32.le_iff_toInt_le, nI_negT hb, nI_toInt ha]
  omega)
theorem nI_negLe {a b : Nat} (ha : a < 2 ^ 31) (hb : b < 2 ^ 31) : (-nI b ≤ nI a) = True := eq_true (by
  rw [Int32.le_iff_toInt_le, nI_negT hb, nI_toInt ha]
  omega)
theorem nI_dec {k : Nat} (h : 1 ≤ k) : nI k + -nI 1 = nI (k - 1) := by
  obtain ⟨j, rfl⟩ : ∃ j, k = j + 1 := ⟨k - 1, by omega⟩
  rw [nI_succ, Nat.add_sub_cancel, show nI 1 = (1 : Int32) from rfl, Int32.add_assoc, Int32.add_right_neg, Int32.add_zero]
theorem nI_decZ : nI 0 + -nI 1 = -nI 1 := by decide +kernel
theorem nI_f0 (b : Bool) : (nI b.toNat = nI 0) = (b = false) := by cases b <;> simp <;> decide +kernel
theorem nI_f1 (b : Bool) : (nI b.toNat = nI 1) = (b = true) := by cases b <;> simp <;> decide +kernel
theorem isZ_f (b : Bool) : isZ (nI b.toNat) = true := by cases b <;> decide +kernel
theorem gd_z {α : Type} (b : Bool) (x : Option α) : gd (isZ (nI b.toNat)) x = x := by rw [isZ_f]; rfl
theorem nI_bitN {k : Nat} (hk : k < 31) : nI 1 <<< (nI k &&& nI 31) = nI (2 ^ k) := nI_bit hk
theorem nI_has {s k : Nat} (hs : s < 2 ^ 31) (hk : k < 31) : ((nI s >>> (nI k &&& nI 31)) &&& nI 1) = nI (s.testBit k).toNat := by
  rw [show nI 31 = (31 : Int32) from rfl, nI_shr hs hk, nI_and, Nat.and_one_is_mod]
  congr 1
  rw [Nat.testBit_eq_decide_div_mod_eq]
  rcases Nat.mod_two_eq_zero_or_one (s / 2 ^ k) with h | h <;> simp [h]
theorem beqF {i j : Nat} (h : ¬ j = i) : Nat.beq j i = false := by
  cases hb : Nat.beq j i
  · rfl
  · exact absurd (Nat.eq_of_beq_eq_true hb) h
theorem upA_s {T : TI} {i : Nat} {f : Nat → Int32} : upA T i f i = f := by unfold upA; rw [Nat.beq_refl]
theorem upA_n {T : TI} {i j : Nat} {f : Nat → Int32} (h : ¬ j = i) : upA T i f j = T j := by
  unfold upA
  rw [beqF h]
theorem upAL_s {T : TL} {i : Nat} {f : Nat → Int64} : upAL T i f i = f := by unfold upAL; rw [Nat.beq_refl]
theorem upAL_n {T : TL} {i j : Nat} {f : Nat → Int64} (h : ¬ j = i) : upAL T i f j = T j := by
  unfold upAL
  rw [beqF h]
theorem updF_s {f : Nat → Int32} {i : Nat} {v : Int32} : updF f i v i = v := by unfold updF; rw [Nat.beq_refl]
theorem updF_n {f : Nat → Int32} {i j : Nat} {v : Int32} (h : ¬ j = i) : updF f i v j = f j := by
  unfold updF
  rw [beqF h]
theorem updFL_s {f : Nat → Int64} {i : Nat} {v : Int64} : updFL f i v i = v := by unfold updFL; rw [Nat.beq_refl]
theorem updFL_n {f : Nat → Int64} {i j : Nat} {v : Int64} (h : ¬ j = i) : updFL f i v j = f j := by
  unfold updFL
  rw [beqF h]
theorem sf_s {T : TI} {j : Nat} {v : Int32} : sf T j v 0 j = v := by unfold sf; rw [upA_s, updF_s]
theorem sf_n {T : TI} {i j : Nat} {v : Int32} (h : ¬ i = j) : sf T j v 0 i = T 0 i := by unfold sf; rw [upA_s, updF_n h]
theorem sf_r {T : TI} {k j : Nat} {v : Int32} (h : ¬ k = 0) : sf T j v k = T k := by unfold sf; rw [upA_n h]
theorem sfL_s {T : TL} {j : Nat} {v : Int64} : sfL T j v 0 j = v := by unfold sfL; rw [upAL_s, updFL_s]
theorem sfL_n {T : TL} {i j : Nat} {v : Int64} (h : ¬ i = j) : sfL T j v 0 i = T 0 i := by unfold sfL; rw [upAL_s, updFL_n h]
theorem sfL_r {T : TL} {k j : Nat} {v : Int64} (h : ¬ k = 0) : sfL T j v k = T k := by unfold sfL; rw [upAL_n h]
theorem loop_find {σ ρ : Type} (b : σ → (σ → Option ρ) → Option ρ) (st : Nat → σ) (N : Nat) (p : Nat → Bool) (found : Nat → Option ρ) (R : Option ρ)
    (hs : ∀ k, k < N → (∀ i, i < k → p i = false) → ∀ kk, b (st k) kk = if p k = true then found k else kk (st (k + 1)))
    (hx : (∀ i, i < N → p i = false) → ∀ kk, b (st N) kk = R)
    (hf : ∀ k, k < N → (∀ i, i < k → p i = false) → p k = true → found k = R) : ∀ n, N < n → loopF b n (st 0) = R := by
  have key : ∀ d k n, k + d = N → (∀ i, i < k → p i = false) → d < n → loopF b n (st k) = R := by
    intro d
    induction d with
    | zero =>
      intro k n hk h0 hn
      obtain ⟨n, rfl⟩ : ∃ z, n = z + 1 := ⟨n - 1, by omega⟩
      have : k = N := by omega
      subst this
      exact hx h0 _
    | succ d ih =>
      intro k n hk h0 hn
      obtain ⟨n, rfl⟩ : ∃ z, n = z + 1 := ⟨n - 1, by omega⟩
      show b (st k) (loopF b n) = R
      rw [hs k (by omega) h0]
      by_cases hp : p k = true
      · rw [if_pos hp]
        exact hf k (by omega) h0 hp
      · rw [if_neg hp]
        refine ih (k + 1) n (by omega) (fun i hi => ?_) (by omega)
        rcases Nat.lt_succ_iff_lt_or_eq.mp hi with h | h
        · exact h0 i h
        · subst h; simpa using hp
  intro n hn
  exact key N 0 n (by omega) (fun i hi => absurd hi (Nat.not_lt_zero _)) hn
/-- a loop whose states are only known to have a property -/
theorem loop_inv {σ ρ : Type} (b : σ → (σ → Option ρ) → Option ρ) (I : Nat → σ → Prop) (N : Nat) (Q : Option ρ → Prop)
    (hs : ∀ k, k < N → ∀ s, I k s → ∀ kk, (∃ s', b s kk = kk s' ∧ I (k + 1) s') ∨ (∃ r, b s kk = r ∧ Q r))
    (hx : ∀ s, I N s → ∀ kk, Q (b s kk)) : ∀ s n, I 0 s → N < n → Q (loopF b n s) := by
  have key : ∀ d k n s, k + d = N → I k s → d < n → Q (loopF b n s) := by
    intro d
    induction d with
    | zero =>
      intro k n s hk hI hn
      obtain ⟨n, rfl⟩ : ∃ z, n = z + 1 := ⟨n - 1, by omega⟩
      have : k = N := by omega
      subst this
      exact hx s hI _
    | succ d ih =>
      intro k n s hk hI hn
      obtain ⟨n, rfl⟩ : ∃ z, n = z + 1 := ⟨n - 1, by omega⟩
      show Q (b s (loopF b n))
      rcases hs k (by omega) s hI (loopF b n) with ⟨s', h1, h2⟩ | ⟨r, h1, h2⟩
      · rw [h1]
        exact ih (k + 1) n s' (by omega) h2 (by omega)
      · rw [h1]
        exact h2
  intro s n hI hn
  exact key N 0 n s (by omega) hI hn
/-- of the places below n those that have p, as bits; how many; a sum -/
def bits (p : Nat → Bool) : Nat → Nat
  | 0 => 0
  | n + 1 => if p n then bits p n ||| 2 ^ n else bits p n
def cnt (p : Nat → Bool) : Nat → Nat
  | 0 => 0
  | n + 1 => if p n then cnt p n + 1 else cnt p n
def sm (f : Nat → Nat) : Nat → Nat
  | 0 => 0
  | n + 1 => sm f n + f n
def pc (s : Nat) : Nat := cnt (fun i => s.testBit i) 10
theorem bits_0 {p : Nat → Bool} : bits p 0 = 0 := rfl
theorem sm_s {f : Nat → Nat} {n : Nat} : sm f (n + 1) = sm f n + f n := rfl
theorem bits_T {p : Nat → Bool} {n : Nat} (h : p n = true) : bits p (n + 1) = bits p n ||| 2 ^ n := if_pos h
theorem bits_F {p : Nat → Bool} {n : Nat} (h : p n = false) : bits p (n + 1) = bits p n := if_neg (by rw [h]; decide)
theorem cnt_T {p : Nat → Bool} {n : Nat} (h : p n = true) : cnt p (n + 1) = cnt p n + 1 := if_pos h
theorem cnt_F {p : Nat → Bool} {n : Nat} (h : p n = false) : cnt p (n + 1) = cnt p n := if_neg (by rw [h]; decide)
theorem bits_tb (p : Nat → Bool) : ∀ n i, (bits p n).testBit i = (decide (i < n) && p i)
  | 0, i => by simp [bits]
  | n + 1, i => by
    unfold bits
    have ih := bits_tb p n i
    by_cases hp : p n = true
    · rw [if_pos hp, Nat.testBit_or, ih, Nat.testBit_two_pow]
      by_cases h : i < n
      · simp [h, show i < n + 1 by omega, show ¬ n = i by omega]
      · by_cases h2 : n = i
        · subst h2; simp [hp]
        · simp [h, h2, show ¬ i < n + 1 by omega]
    · rw [if_neg hp, ih]
      by_cases h : i < n
      · simp [h, show i < n + 1 by omega]
      · by_cases h2 : i = n
        · subst h2
          simp [hp]
        · simp [h, show ¬ i < n + 1 by omega]
theorem bits_lt (p : Nat → Bool) (n : Nat) : bits p n < 2 ^ n := by
  apply Nat.lt_pow_two_of_testBit
  intro i hi
  rw [bits_tb]
  simp [show ¬ i < n by omega]
theorem bits_lt10 (p : Nat → Bool) : bits p 10 < 1024 := bits_lt p 10
theorem bits_ltk (p : Nat → Bool) {k : Nat} (hk : k ≤ 10) : bits p k < 1024 := Nat.lt_of_lt_of_le (bits_lt p k) (Nat.pow_le_pow_right (by decide) hk)
theorem cnt_le (p : Nat → Bool) : ∀ n, cnt p n ≤ n
  | 0 => Nat.le_refl _
  | n + 1 => by
    have h := cnt_le p n
    unfold cnt
    split <;> omega
theorem cnt_congr {p q : Nat → Bool} : ∀ {n : Nat}, (∀ i, i < n → p i = q i) → cnt p n = cnt q n
  | 0, _ => rfl
  | n + 1, h => by
    unfold cnt
    rw [cnt_congr (fun i hi => h i (by omega)), h n (by omega)]
theorem cnt_mono {p q : Nat → Bool} : ∀ {n : Nat}, (∀ i, i < n → p i = true → q i = true) → cnt p n ≤ cnt q n
  | 0, _ => Nat.le_refl _
  | n + 1, h => by
    have ih := cnt_mono (n := n) (fun i hi => h i (by omega))
    have h2 := h n (by omega)
    unfold cnt
    by_cases hp : p n = true
    · rw [if_pos hp, if_pos (h2 hp)]; omega
    · rw [if_neg hp]; split <;> omega
theorem bits_congr {p q : Nat → Bool} : ∀ {n : Nat}, (∀ i, i < n → p i = q i) → bits p n = bits q n
  | 0, _ => rfl
  | n + 1, h => by
    unfold bits
    rw [bits_congr (fun i hi => h i (by omega)), h n (by omega)]
theorem sm_congr {f g : Nat → Nat} : ∀ {n : Nat}, (∀ i, i < n → f i = g i) → sm f n = sm g n
  | 0, _ => rfl
  | n + 1, h => by
    unfold sm
    rw [sm_congr (fun i hi => h i (by omega)), h n (by omega)]
theorem sm_le {f : Nat → Nat} {m : Nat} (hf : ∀ i, f i ≤ m) : ∀ n, sm f n ≤ n * m
  | 0 => by simp [sm]
  | n + 1 => by
    have h := sm_le hf n
    have h2 := hf n
    unfold sm
    rw [Nat.add_mul, Nat.one_mul]
    omega
theorem pc_le (s : Nat) : pc s ≤ 10 := cnt_le _ 10
theorem tb_hi {s i : Nat} (hs : s < 1024) (hi : ¬ i < 10) : s.testBit i = false := Nat.testBit_lt_two_pow (Nat.lt_of_lt_of_le hs (show (2 : Nat) ^ 10 ≤ 2 ^ i from Nat.pow_le_pow_right (by decide) (by omega)))
theorem tb_ext {s t : Nat} (hs : s < 1024) (ht : t < 1024) (h : ∀ i, i < 10 → s.testBit i = t.testBit i) : s = t := by
  apply Nat.eq_of_testBit_eq
  intro i
  by_cases hi : i < 10
  · exact h i hi
  · rw [tb_hi hs hi, tb_hi ht hi]
theorem bits_tb10 (p : Nat → Bool) {i : Nat} (hi : i < 10) : (bits p 10).testBit i = p i := by rw [bits_tb]; simp [hi]
theorem bits_self {s : Nat} (hs : s < 1024) : bits (fun i => s.testBit i) 10 = s := tb_ext (bits_lt10 _) hs (fun i hi => bits_tb10 _ hi)
theorem pc_and (s t : Nat) : pc (s &&& t) = cnt (fun i => s.testBit i && t.testBit i) 10 := cnt_congr (fun i _ => Nat.testBit_and ..)
theorem pc_bits (p : Nat → Bool) : pc (bits p 10) = cnt p 10 := cnt_congr (fun i hi => bits_tb10 p hi)
theorem pc_bits_and (p : Nat → Bool) (h : Nat) : pc (bits p 10 &&& h) = cnt (fun i => p i && h.testBit i) 10 := by
  rw [pc_and]
  exact cnt_congr (fun i hi => by rw [bits_tb10 p hi])
/-- a without b -/
def dif (a b : Nat) : Nat := a ^^^ (a &&& b)
theorem dif_tb (a b i : Nat) : (dif a b).testBit i = (a.testBit i && !b.testBit i) := by
  unfold dif
  rw [Nat.testBit_xor, Nat.testBit_and]
  cases a.testBit i <;> cases b.testBit i <;> rfl
theorem dif_le (a b : Nat) : dif a b ≤ a := by
  have h : dif a b &&& a = dif a b := Nat.eq_of_testBit_eq (fun i => by rw [Nat.testBit_and, dif_tb]; cases a.testBit i <;> simp)
  exact h ▸ Nat.and_le_right
theorem dif_lt {a b : Nat} (h : a < 1024) : dif a b < 1024 := Nat.lt_of_le_of_lt (dif_le a b) h
theorem and_lt {a b : Nat} (h : a < 1024) : a &&& b < 1024 := Nat.lt_of_le_of_lt Nat.and_le_left h
theorem and_lt2 {a b : Nat} (h : b < 1024) : a &&& b < 1024 := Nat.lt_of_le_of_lt Nat.and_le_right h
theorem or_lt {a b : Nat} (h : a < 1024) (h2 : b < 1024) : a ||| b < 1024 := Nat.or_lt_two_pow (n := 10) h h2
theorem xor_lt {a b : Nat} (h : a < 1024) (h2 : b < 1024) : a ^^^ b < 1024 := Nat.xor_lt_two_pow (n := 10) h h2
theorem two_lt {k : Nat} (h : k < 10) : 2 ^ k < 1024 := by
  have : 2 ^ k < 2 ^ 10 := Nat.pow_lt_pow_right (by decide) h
  omega
theorem two_lt' {k : Nat} (h : k < 31) : 2 ^ k < 2 ^ 31 := Nat.pow_lt_pow_right (by decide) h
theorem nI_andn {a b : Nat} : nI a &&& (nI b ^^^ -nI 1) = nI (dif a b) := by
  unfold dif
  rw [← nI_xor, ← nI_and]
  apply i_inj
  rw [show (-nI 1 : Int32) = ⟨⟨BitVec.allOnes 32⟩⟩ from by decide +kernel]
  simp only [Int32.toBitVec_and, Int32.toBitVec_xor]
  apply BitVec.eq_of_getLsbD_eq
  intro i hi
  simp only [BitVec.getLsbD_and, BitVec.getLsbD_xor]
  have : (Int32.toBitVec ⟨⟨BitVec.allOnes 32⟩⟩).getLsbD i = true := by
    show (BitVec.allOnes 32).getLsbD i = true
    rw [BitVec.getLsbD_allOnes]
    exact decide_eq_true hi
  rw [this]
  cases (nI a).toBitVec.getLsbD i <;> cases (nI b).toBitVec.getLsbD i <;> rfl
theorem pk_remJ {a d : Nat} (ha : a < 2 ^ 31) (h0 : 0 < d) (hd : d < 2 ^ 31) : jrem (nI a) (nI d) = nI (a % d) := pk_rem ha h0 hd
theorem bc_v : ∀ s, s < 1024 → m_J6_bitCount_0f7a4 0 (nI s) = some (nI (pc s)) := by decide +kernel
theorem e_bc {n s : Nat} (hs : s < 1024) : m_J6_bitCount_0f7a4 n (nI s) = some (nI (pc s)) := bc_v s hs
theorem pc_low : ∀ s, s < 1024 → s = 0 ∨ pc (s &&& (s - 1)) + 1 = pc s := by decide +kernel
theorem e_ones {n s : Nat} (hs : s < 1024) (hn : 10 < n) : m_X6_ones n (nI s) = some (nI (pc s)) := by
  have key : ∀ c, ∀ s n k, s < 1024 → pc s = c → c < n → loopF (b_X6_ones_4 0) n (nI k, nI s) = some (nI (k + c)) := by
    intro c
    induction c with
    | zero =>
      intro s n k hs hp hn
      obtain ⟨n, rfl⟩ : ∃ z, n = z + 1 := ⟨n - 1, by omega⟩
      have h0 : s = 0 := by
        rcases pc_low s hs with h | h
        · exact h
        · omega
      subst h0
      rfl
    | succ c ih =>
      intro s n k hs hp hn
      obtain ⟨n, rfl⟩ : ∃ z, n = z + 1 := ⟨n - 1, by omega⟩
      have h0 : 0 < s := by
        rcases Nat.eq_zero_or_pos s with h | h
        · subst h
          have : pc 0 = 0 := by decide
          omega
        · exact h
      have h1 : pc (s &&& (s - 1)) = c := by
        rcases pc_low s hs with h | h
        · omega
        · omega
      have h2 : ¬ nI s = 0 := nI_ne0 h0 (by omega)
      show b_X6_ones_4 0 (nI k, nI s) (loopF (b_X6_ones_4 0) n) = _
      unfold b_X6_ones_4
      rw [if_neg h2]
      show loopF (b_X6_ones_4 0) n (nI k + nI 1, nI s &&& (nI s - nI 1)) = _
      rw [pk_sub (by omega), nI_add, nI_and, ih _ n (k + 1) (and_lt hs) h1 (by omega), show k + 1 + c = k + (c + 1) by omega]
  have := key (pc s) s n 0 hs rfl (by have := pc_le s; omega)
  rw [Nat.zero_add] at this
  exact this
theorem e_bcA {n s t : Nat} (hs : s < 1024) : m_J6_bitCount_0f7a4 n (nI s &&& nI t) = some (nI (pc (s &&& t))) := by rw [nI_and, e_bc (and_lt hs)]
theorem e_onesA {n s t : Nat} (hs : s < 1024) (hn : 10 < n) : m_X6_ones n (nI s &&& nI t) = some (nI (pc (s &&& t))) := by rw [nI_and, e_ones (and_lt hs) hn]
theorem cnt_split (p q : Nat → Bool) : ∀ n, cnt (fun i => p i && q i) n + cnt (fun i => p i && !q i) n = cnt p n
  | 0 => rfl
  | n + 1 => by
    have ih := cnt_split p q n
    unfold cnt
    cases p n <;> cases q n <;> simp <;> omega
theorem pc_split (f t : Nat) : pc (f &&& t) + pc (dif f t) = pc f := by
  have h := cnt_split (fun i => f.testBit i) (fun i => t.testBit i) 10
  rw [pc_and]
  unfold pc at *
  rw [← h]
  congr 1
  exact cnt_congr (fun i _ => dif_tb ..)
