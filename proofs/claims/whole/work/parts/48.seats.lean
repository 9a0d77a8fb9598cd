/-! SEATS and LOOSE -/
variable {n : Nat} {X T I J P C V F S S' : TI} {A L : TL} {a : AT}
theorem cnt_zero {p : Nat → Bool} : ∀ {N : Nat}, (cnt p N = 0) ↔ ∀ i, i < N → p i = false
  | 0 => ⟨fun _ i hi => absurd hi (Nat.not_lt_zero _), fun _ => rfl⟩
  | N + 1 => by
    have ih := cnt_zero (p := p) (N := N)
    unfold cnt
    by_cases hp : p N = true
    · rw [if_pos hp]
      exact ⟨fun h => absurd h (by omega), fun h => absurd hp (by rw [h N (by omega)]; decide)⟩
    · rw [if_neg hp, ih]
      constructor
      · intro h i hi
        rcases Nat.lt_succ_iff_lt_or_eq.mp hi with q | q
        · exact h i q
        · subst q; simpa using hp
      · exact fun h i hi => h i (by omega)
def apq (a : AT) (s e : Nat) : Bool := s.testBit (e / 10) && (s.testBit (e % 10) && decide (0 < a 1 e))
def apN (a : AT) (s k : Nat) : Bool := decide (cnt (apq a s) k = 0)
theorem apN_s (a : AT) (s k : Nat) : apN a s (k + 1) = (apN a s k && !apq a s k) := by
  unfold apN
  cases h : apq a s k
  · rw [cnt_F h]; simp
  · rw [cnt_T h]; simp
theorem e_areApart (h : RS S a) (hO : OKA a) {s : Nat} (hs : s < 1024) (hn : 100 < n) : m_X6_areApart n S L (nI s) = some (nI (apN a s 100).toNat) := by
  unfold m_X6_areApart
  refine loop_for (b_X6_areApart_4 n S (nI s)) (fun e => (nI (apN a s e).toNat, nI e)) 100 _ (fun e he kk => ?_) (fun kk => ?_) n hn
  · unfold b_X6_areApart_4
    have e1 := e_has (n := n) (s := s) (k := e / 10) hs (by omega)
    have e2 := e_has (n := n) (s := s) (k := e % 10) hs (by omega)
    have h1 := h.r4 (j := e) he
    have h9 := hO.s9 he
    simp (disch := omega) only [litN, nI_add, pk_mul, pk_sub, nI_negR, nI_negL, nI_negE, nI_negLt, nI_negGe, nI_ltE, nI_leE, nI_eqI, nI_clamp, inB_n, gd_tt, bindS, if_true, if_false, reduceIte, leT, leF, ltT, ltF, eqT, eqF, pk_div, pk_remJ, e1, e2, h1, nI_f0]
    rw [apN_s]
    unfold apq
    cases apN a s e
    · rfl
    cases s.testBit (e / 10)
    · rfl
    cases s.testBit (e % 10)
    · rfl
    by_cases q : 0 < a 1 e
    · simp [q]
    · simp [q]
  · unfold b_X6_areApart_4
    simp (disch := omega) only [litN, nI_add, pk_mul, pk_sub, nI_negR, nI_negL, nI_negE, nI_negLt, nI_negGe, nI_ltE, nI_leE, nI_eqI, nI_clamp, inB_n, gd_tt, bindS, if_true, if_false, reduceIte, leT, leF, ltT, ltF, eqT, eqF, gd_z]
theorem e_strangers (h : RF F a) (hO : OKA a) {s : Nat} (hs : s < 1024) (hn : 10 < n) : m_X3_areStrangers n F (nI s) = some (nI (apN a s 100).toNat) := by
  unfold m_X3_areStrangers
  have hl : ∀ k, k < 10 → (tied a k 1 &&& s = 0 ↔ ∀ i, i < 10 → s.testBit i = true → a 1 (10 * k + i) = 0) := by
    intro k hk
    constructor
    · intro hz i hi hq
      have := congrArg (fun z => z.testBit i) hz
      unfold tied at this
      simp only [Nat.testBit_and, Nat.zero_testBit, bits_tb10 _ hi, hq, Bool.and_true] at this
      have := of_decide_eq_false this
      omega
    · intro hz
      refine tb_ext (and_lt (tied_lt _ _ _)) (by decide) (fun i hi => ?_)
      unfold tied
      rw [Nat.testBit_and, Nat.zero_testBit, bits_tb10 _ hi]
      cases hq : s.testBit i
      · simp
      · simp [hz i hi hq]
  refine loop_find (b_X3_areStrangers_2 n F (nI s)) (fun k => nI k) 10 (fun k => s.testBit k && !decide (tied a k 1 &&& s = 0)) (fun k => some (nI 0)) _ (fun k hk h0 kk => ?_) (fun h0 kk => ?_) (fun k hk h0 hp => ?_) n (by omega)
  · unfold b_X3_areStrangers_2
    have e1 := e_holds (n := n) (s := s) (k := k) hs (by omega)
    obtain ⟨-, -, f3⟩ := h.2 k hk
    have ht : tied a k 1 &&& s < 1024 := and_lt (tied_lt _ _ _)
    simp (disch := omega) only [litN, nI_add, pk_mul, pk_sub, nI_negR, nI_negL, nI_negE, nI_negLt, nI_negGe, nI_ltE, nI_leE, nI_eqI, nI_clamp, inB_n, gd_tt, bindS, if_true, if_false, reduceIte, leT, leF, ltT, ltF, eqT, eqF, e1, f3, nI_f0]
    cases s.testBit k
    · rfl
    · simp only [Bool.true_eq_false, if_false, nI_and]
      simp (disch := omega) only [nI_eqI]
      by_cases q : tied a k 1 &&& s = 0
      · simp [q]
      · simp [q]
  · unfold b_X3_areStrangers_2
    simp (disch := omega) only [litN, nI_add, pk_mul, pk_sub, nI_negR, nI_negL, nI_negE, nI_negLt, nI_negGe, nI_ltE, nI_leE, nI_eqI, nI_clamp, inB_n, gd_tt, bindS, if_true, if_false, reduceIte, leT, leF, ltT, ltF, eqT, eqF]
    have : apN a s 100 = true := by
      unfold apN
      rw [decide_eq_true_eq, cnt_zero]
      intro e he
      have h1 := h0 (e / 10) (by omega)
      unfold apq
      cases q1 : s.testBit (e / 10)
      · rfl
      · rw [q1] at h1
        simp only [Bool.true_and, Bool.not_eq_false', decide_eq_true_eq] at h1
        have h2 := (hl (e / 10) (by omega)).mp h1 (e % 10) (by omega)
        cases q2 : s.testBit (e % 10)
        · rfl
        · have h3 := h2 q2
          rw [show 10 * (e / 10) + e % 10 = e by omega] at h3
          simp [h3]
    rw [this]
    rfl
  · simp only [Bool.and_eq_true, Bool.not_eq_true', decide_eq_false_iff_not] at hp
    have : apN a s 100 = false := by
      cases q : apN a s 100
      · rfl
      · exfalso
        unfold apN at q
        rw [decide_eq_true_eq, cnt_zero] at q
        apply hp.2
        rw [hl k hk]
        intro i hi hq
        have h1 := q (10 * k + i) (by omega)
        unfold apq at h1
        rw [show (10 * k + i) / 10 = k by omega, show (10 * k + i) % 10 = i by omega, hp.1, hq] at h1
        simpa using h1
    show some (nI 0) = _
    rw [this]
    rfl
/-- the first of the largest -/
def sbs (a : AT) (f m k b : Nat) : Nat := if (decide (dif k f = 0) && (decide (pc k ≤ m) && (decide (pc b < pc k) && apN a k 100))) = true then k else b
def sb (a : AT) (f m : Nat) : Nat → Nat
  | 0 => 0
  | k + 1 => sbs a f m k (sb a f m k)
theorem sb_lt (a : AT) (f m : Nat) : ∀ k, k ≤ 1024 → sb a f m k < 1024
  | 0, _ => show 0 < 1024 by decide
  | k + 1, h => by
    have := sb_lt a f m k (by omega)
    show sbs a f m k (sb a f m k) < 1024
    unfold sbs
    split <;> omega
theorem t_seats (g : INV X T I J P S) (hn : 1100 < n) (x1 x2 : Int32) : ∃ v F', m_X5_seats n X T I J P C V F A x1 x2 = some (v, F') ∧ m_X6_seats n S L x1 x2 = some v := by
  obtain ⟨a, hO, hT, hS⟩ := g.1
  unfold m_X5_seats m_X6_seats
  simp only [litN, litL, e_isFlag]
  simp only [e_within]
  simp (disch := omega) only [e_in]
  simp only [bindS, nI_f0]
  cases i1 : inr x1 0 9
  · exact ⟨_, _, rfl, rfl⟩
  cases i2 : inr x2 0 1
  · exact ⟨_, _, rfl, rfl⟩
  obtain ⟨m, rfl, -, hm⟩ := inr_T i1 (by decide) (by decide)
  obtain ⟨w, rfl, -, hw⟩ := inr_T i2 (by decide) (by decide)
  obtain ⟨F', e1, hF⟩ := e_lookAt (F := F) hT hO (by omega : 10 < n)
  have e2 := e_missed hT hO (by omega : 10 < n)
  have e3 := e_missedIn (L := L) hS hO hO.h0 (by omega : 10 < n)
  obtain ⟨f, hf⟩ : ∃ f, f = dif (a 0 0) (mis a (a 0 0)) := ⟨_, rfl⟩
  obtain ⟨K, hK⟩ : ∃ K, K = sb a f m := ⟨_, rfl⟩
  have Ks : ∀ k, K (k + 1) = sbs a f m k (K k) := by rw [hK]; exact fun k => rfl
  have K0 : K 0 = 0 := by rw [hK]; rfl
  have Klt : ∀ k, k ≤ 1024 → K k < 1024 := by rw [hK]; exact sb_lt a f m
  clear hK
  have c1 : loopF (b_X3_mostStrangers_23 n (nI m) F' (nI (mis a (a 0 0)))) n (nI 0, nI 0) = some (nI (K 1024), F') := by
    rw [show ((nI 0, nI 0) : Int32 × Int32) = (nI (K 0), nI 0) by rw [K0]]
    refine loop_for (b_X3_mostStrangers_23 n (nI m) F' (nI (mis a (a 0 0)))) (fun k => (nI (K k), nI k)) 1024 _ (fun k hk kk => ?_) (fun kk => ?_) n (by omega)
    · unfold b_X3_mostStrangers_23
      have b1 := e_bc (n := n) (s := k) (by omega)
      have b2 := e_bc (n := n) (s := K k) (Klt k (by omega))
      have b3 := e_strangers hF hO (s := k) (by omega) (by omega : 10 < n)
      have p1 := pc_le k
      have p2 := pc_le (K k)
      have hd : dif k f < 1024 := dif_lt (by omega)
      simp (disch := omega) only [litN, nI_add, pk_mul, pk_sub, nI_negR, nI_negL, nI_negE, nI_negLt, nI_negGe, nI_ltE, nI_leE, nI_eqI, nI_clamp, inB_n, gd_tt, bindS, if_true, if_false, reduceIte, leT, leF, ltT, ltF, eqT, eqF, b1, b2, b3, hF.1, nI_andn, ← hf, nI_f0]
      rw [Ks]
      unfold sbs
      by_cases q1 : pc k ≤ pc (K k)
      · rw [if_pos q1, decide_eq_false (by omega : ¬ pc (K k) < pc k)]
        simp
      · rw [if_neg q1, decide_eq_true (by omega : pc (K k) < pc k)]
        by_cases q2 : m < pc k
        · rw [if_pos q2, decide_eq_false (by omega : ¬ pc k ≤ m)]
          simp
        · rw [if_neg q2, decide_eq_true (by omega : pc k ≤ m)]
          by_cases q3 : dif k f = 0
          · rw [if_pos q3, decide_eq_true q3]
            cases apN a k 100 <;> rfl
          · rw [if_neg q3, decide_eq_false q3]
            rfl
    · unfold b_X3_mostStrangers_23
      simp (disch := omega) only [litN, nI_add, pk_mul, pk_sub, nI_negR, nI_negL, nI_negE, nI_negLt, nI_negGe, nI_ltE, nI_leE, nI_eqI, nI_clamp, inB_n, gd_tt, bindS, if_true, if_false, reduceIte, leT, leF, ltT, ltF, eqT, eqF]
  have c2 : loopF (b_X6_seats_47 n S L (nI m) (nI w) (nI (mis a (a 0 0)))) n (nI 0, nI 1) = some (if w = 0 then nI (pc (K 1024)) else nI (K 1024)) := by
    have K1 : K 1 = 0 := by
      rw [Ks 0, K0]
      unfold sbs
      simp
    rw [show ((nI 0, nI 1) : Int32 × Int32) = (nI (K (0 + 1)), nI (0 + 1)) by rw [Nat.zero_add, K1]]
    refine loop_for (b_X6_seats_47 n S L (nI m) (nI w) (nI (mis a (a 0 0)))) (fun k => (nI (K (k + 1)), nI (k + 1))) 1023 _ (fun k hk kk => ?_) (fun kk => ?_) n (by omega)
    · unfold b_X6_seats_47
      have b1 := e_ones (n := n) (s := k + 1) (by omega) (by omega)
      have b2 := e_ones (n := n) (s := K (k + 1)) (Klt (k + 1) (by omega)) (by omega)
      have b3 := e_areApart (n := n) (L := L) hS hO (s := k + 1) (by omega) (by omega)
      have p1 := pc_le (k + 1)
      have p2 := pc_le (K (k + 1))
      have hd : dif (k + 1) f < 1024 := dif_lt (by omega)
      simp (disch := omega) only [litN, nI_add, pk_mul, pk_sub, nI_negR, nI_negL, nI_negE, nI_negLt, nI_negGe, nI_ltE, nI_leE, nI_eqI, nI_clamp, inB_n, gd_tt, bindS, if_true, if_false, reduceIte, leT, leF, ltT, ltF, eqT, eqF, b1, b2, b3, hS.h0, nI_andn, ← hf, nI_f0]
      rw [Ks (k + 1)]
      unfold sbs
      by_cases q3 : dif (k + 1) f = 0
      · rw [if_pos q3, decide_eq_true q3]
        by_cases q2 : m < pc (k + 1)
        · rw [if_pos q2, decide_eq_false (by omega : ¬ pc (k + 1) ≤ m)]
          simp
        · rw [if_neg q2, decide_eq_true (by omega : pc (k + 1) ≤ m)]
          by_cases q1 : pc (k + 1) ≤ pc (K (k + 1))
          · rw [if_pos q1, decide_eq_false (by omega : ¬ pc (K (k + 1)) < pc (k + 1))]
            rfl
          · rw [if_neg q1, decide_eq_true (by omega : pc (K (k + 1)) < pc (k + 1))]
            cases apN a (k + 1) 100 <;> rfl
      · rw [if_neg q3, decide_eq_false q3]
        rfl
    · unfold b_X6_seats_47
      have b2 := e_ones (n := n) (s := K 1024) (Klt 1024 (by omega)) (by omega)
      simp (disch := omega) only [litN, nI_add, pk_mul, pk_sub, nI_negR, nI_negL, nI_negE, nI_negLt, nI_negGe, nI_ltE, nI_leE, nI_eqI, nI_clamp, inB_n, gd_tt, bindS, if_true, if_false, reduceIte, leT, leF, ltT, ltF, eqT, eqF, b2]
      split <;> rfl
  have hk := Klt 1024 (Nat.le_refl _)
  have b2 := e_bc (n := n) hk
  unfold m_X3_mostStrangers
  simp (disch := omega) only [litN, nI_add, pk_mul, pk_sub, nI_negR, nI_negL, nI_negE, nI_negLt, nI_negGe, nI_ltE, nI_leE, nI_eqI, nI_clamp, inB_n, gd_tt, bindS, if_true, if_false, reduceIte, leT, leF, ltT, ltF, eqT, eqF, Bool.true_eq_false, e1, e2, c1, hS.h0, e3, c2]
  by_cases hw0 : w = 0
  · simp only [hw0, if_true, b2, bindS]
    exact ⟨_, _, rfl, rfl⟩
  · simp only [hw0, if_false]
    exact ⟨_, _, rfl, rfl⟩
/-- the first t of those in m -/
def chs (m t k : Nat) : Bool := m.testBit k && decide (cnt (fun i => m.testBit i) k < t)
theorem cnt_chs (m t : Nat) : ∀ k, cnt (chs m t) k = min t (cnt (fun i => m.testBit i) k)
  | 0 => by simp [cnt]
  | k + 1 => by
    have ih := cnt_chs m t k
    unfold cnt
    rw [ih]
    unfold chs
    cases m.testBit k
    · simp
    · by_cases q : cnt (fun i => m.testBit i) k < t
      · simp [q]; omega
      · simp [q]; omega
theorem pc_bitsk (p : Nat → Bool) {k : Nat} (hk : k ≤ 10) : pc (bits p k) = cnt p k := by
  have h1 : pc (bits p k) = cnt (fun i => decide (i < k) && p i) 10 := cnt_congr (fun i _ => bits_tb p k i)
  have h2 : ∀ N, k ≤ N → cnt (fun i => decide (i < k) && p i) N = cnt p k := by
    intro N hN
    induction N with
    | zero =>
      have : k = 0 := by omega
      subst this; rfl
    | succ N ih =>
      by_cases q : k = N + 1
      · subst q
        exact cnt_congr (fun i hi => by simp [hi])
      · rw [cnt_F (by simp [show ¬ N < k by omega]), ih (by omega)]
  rw [h1, h2 10 hk]
theorem mono_cnt (p : Nat → Bool) {j k : Nat} (h : j ≤ k) : cnt p j ≤ cnt p k := by
  induction k with
  | zero =>
    have : j = 0 := by omega
    subst this; exact Nat.le_refl _
  | succ k ih =>
    by_cases q : j = k + 1
    · subst q; exact Nat.le_refl _
    · have := ih (by omega)
      have h2 : cnt p k ≤ cnt p (k + 1) := by
        rw [show cnt p (k + 1) = if p k then cnt p k + 1 else cnt p k from rfl]
        split <;> omega
      omega
theorem bits_stop (p : Nat → Bool) {k : Nat} : ∀ {N : Nat}, k ≤ N → (∀ i, k ≤ i → i < N → p i = false) → bits p N = bits p k
  | 0, h, _ => by
    have : k = 0 := by omega
    subst this; rfl
  | N + 1, h, h2 => by
    by_cases q : k = N + 1
    · subst q; rfl
    · rw [bits_F (h2 N (by omega) (by omega)), bits_stop p (by omega) (fun i h3 h4 => h2 i h3 (by omega))]
theorem e_leastOf {m t : Nat} (hm : m < 1024) (ht : t ≤ 10) (hn : 10 < n) : m_X5_leastOf n (nI m) (nI t) = some (nI (bits (chs m t) 10)) := by
  unfold m_X5_leastOf
  refine loop_find (b_X5_leastOf_7 n (nI m)) (fun k => (nI (bits (chs m t) k), nI (t - cnt (fun i => m.testBit i) k), nI k)) 10 (fun k => decide (t ≤ cnt (fun i => m.testBit i) k)) (fun k => some (nI (bits (chs m t) k))) _ (fun k hk h0 kk => ?_) (fun h0 kk => ?_) (fun k hk h0 hp => ?_) n (by omega)
  · unfold b_X5_leastOf_7
    have e1 := e_holds (n := n) (s := m) (k := k) hm (by omega)
    simp (disch := omega) only [litN, nI_add, pk_mul, pk_sub, nI_negR, nI_negL, nI_negE, nI_negLt, nI_negGe, nI_ltE, nI_leE, nI_eqI, nI_clamp, inB_n, gd_tt, bindS, if_true, if_false, reduceIte, leT, leF, ltT, ltF, eqT, eqF, e1, nI_f0, nI_bitN, nI_or, decide_eq_true_eq]
    by_cases q : t ≤ cnt (fun i => m.testBit i) k
    · rw [if_pos (by omega), if_pos q]
    · rw [if_neg (by omega), if_neg q]
      cases hb : m.testBit k
      · rw [bits_F (by unfold chs; rw [hb]; rfl), cnt_F (p := fun i => m.testBit i) hb]
        rfl
      · rw [bits_T (by unfold chs; rw [hb]; simp; omega), cnt_T (p := fun i => m.testBit i) hb]
        simp (disch := omega) only [nI_dec, Bool.true_eq_false, if_false]
        rw [show t - cnt (fun i => m.testBit i) k - 1 = t - (cnt (fun i => m.testBit i) k + 1) by omega]
  · unfold b_X5_leastOf_7
    simp (disch := omega) only [litN, nI_add, pk_mul, pk_sub, nI_negR, nI_negL, nI_negE, nI_negLt, nI_negGe, nI_ltE, nI_leE, nI_eqI, nI_clamp, inB_n, gd_tt, bindS, if_true, if_false, reduceIte, leT, leF, ltT, ltF, eqT, eqF]
  · rw [decide_eq_true_eq] at hp
    show some (nI (bits (chs m t) k)) = _
    rw [bits_stop (chs m t) (k := k) (N := 10) (by omega) (fun i h1 h2 => by
      have := mono_cnt (fun i => m.testBit i) h1
      unfold chs
      rw [decide_eq_false (by omega), Bool.and_false])]
theorem ls_1 : ∀ c, c ≤ 10 → ∀ d, d ≤ 9 → (if (0 : Int32) < (nI c - nI d) + 1 then (nI c - nI d) + 1 else 0) = nI (c + 1 - d) := by decide +kernel
theorem ls_3 : ∀ c, c ≤ 10 → ∀ g, g ≤ 1 → ∀ e, e ≤ 9 → ∀ u, u ≤ 10 → e < g ∨ decide ((((nI c + nI g) - nI e) + 1 : Int32) ≤ nI u) = decide (c + 1 - (e - g) ≤ u) := by decide +kernel
theorem ls_2 (c : Nat) (hc : c ≤ 10) (g : Nat) (hg : g ≤ 1) (e : Nat) (he : e ≤ 9) (hge : g ≤ e) (u : Nat) (hu : u ≤ 10) : ((((nI c + nI g) - nI e) + 1 : Int32) ≤ nI u) = (c + 1 - (e - g) ≤ u) := by
  rcases ls_3 c hc g hg e he u hu with h | h
  · omega
  · exact propext (decide_eq_decide.mp h)
theorem t_loose (g : INV X T I J P S) (hn : 1100 < n) (x1 x2 : Int32) : ∃ v, m_X5_loose n X T I J P C V F A x1 x2 = some v ∧ m_X6_loose n S L x1 x2 = some v := by
  obtain ⟨a, hO, hT, hS⟩ := g.1
  unfold m_X5_loose m_X6_loose
  rw [e_hereTx hT hO, e_hereS hS hO, bindS, bindS]
  simp only [litL, e_isFlag]
  simp (disch := omega) only [e_in]
  simp only [bindS, show ∀ b : Bool, (nI b.toNat = 0) = (b = false) from nI_f0]
  cases i1 : (inr x1 0 9 && (a 0 0).testBit x1.toNatClampNeg)
  · exact ⟨_, rfl, rfl⟩
  cases i2 : inr x2 0 1
  · exact ⟨_, rfl, rfl⟩
  rw [Bool.and_eq_true] at i1
  obtain ⟨x, rfl, -, hx⟩ := inr_T i1.1 (by decide) (by decide)
  obtain ⟨w, rfl, -, hw⟩ := inr_T i2 (by decide) (by decide)
  have hx' : x < 10 := by omega
  have e1 := e_missing hT hO hx' (by omega : 10 < n)
  have e2 := e_need (n := n) hT hO hx'
  have hms : bits (cb a x) 10 &&& a 0 0 < 1024 := and_lt (bits_lt10 _)
  have hpc : pc (bits (cb a x) 10 &&& a 0 0) = cn a (a 0 0) x := by
    rw [pc_bits_and]
    exact cnt_congr (fun i _ => Bool.and_comm ..)
  have e3 := e_bc (n := n) hms
  rw [hpc] at e3
  have e4 := e_tiesCount (L := L) hS hO hO.h0 hx' (by omega : 10 < n)
  have e5 := e_dogOf (n := n) (L := L) hS hO hx'
  have hc := cn_le a (a 0 0) x
  have hd := dg_le a x
  have hl := hO.l0
  have h6 := hS.r6 (j := 0) (by omega)
  simp only [Bool.true_eq_false, if_false, e1, e2, bindS, hT.h0, hS.h0, nI_and, e3, e4, e5, h6]
  have l1 := ls_1 (cn a (a 0 0) x) hc (a 3 0 - dg a x) (by omega)
  have l2 := ls_2 (cn a (a 0 0) x) hc (dg a x) hd (a 3 0) hl.2 (by omega) (cn a (a 0 0) x) hc
  rw [l1]
  simp (disch := omega) only [nI_leE, l2]
  obtain ⟨t, ht⟩ : ∃ t, t = cn a (a 0 0) x + 1 - (a 3 0 - dg a x) := ⟨_, rfl⟩
  rw [← ht]
  by_cases q : t ≤ cn a (a 0 0) x
  · rw [if_pos q, if_pos q]
    have e6 := e_leastOf (n := n) (t := t) hms (by omega) (by omega)
    obtain ⟨m, hm⟩ : ∃ m, m = bits (cb a x) 10 &&& a 0 0 := ⟨_, rfl⟩
    rw [← hm] at e6 hms hpc ⊢
    have hmc : cnt (fun i => m.testBit i) 10 = cn a (a 0 0) x := hpc
    have hall : pc (bits (chs m t) 10) = t := by
      rw [pc_bitsk _ (by omega), cnt_chs, hmc]
      omega
    refine ⟨if w = 0 then nI t else nI (bits (chs m t) 10), ?_, ?_⟩
    · simp only [litN, e6, bindS]
      simp (disch := omega) only [nI_eqI]
      split <;> rfl
    · refine loop_bits _ (chs m t) 10 _ (fun k hk kk => ?_) (fun kk => ?_) n (by omega)
      · unfold b_X6_loose_66
        have f1 := e_has (n := n) (s := a 0 0) (k := k) hO.h0 (by omega)
        have f2 := e_counts (n := n) (L := L) hS hO hx' hk
        have hbk := bits_ltk (chs m t) (by omega : k ≤ 10)
        have f3 := e_ones (n := n) hbk (by omega)
        have hpk : pc (bits (chs m t) k) ≤ 10 := pc_le _
        have l3 := ls_2 (cn a (a 0 0) x) hc (dg a x) hd (a 3 0) hl.2 (by omega) _ hpk
        rw [← ht, pc_bitsk _ (by omega), cnt_chs] at l3
        rw [pc_bitsk _ (by omega), cnt_chs] at f3
        have hmk : m.testBit k = ((a 0 0).testBit k && cb a x k) := by
          rw [hm, Nat.testBit_and, bits_tb10 _ hk, Bool.and_comm]
        have z1 : ∀ b : Bool, (nI b.toNat = 0) = (b = false) := nI_f0
        have z2 : (10 ≤ nI k) = False := by
          rw [show (10 : Int32) = nI 10 from rfl, nI_leE (by omega) (by omega)]
          exact eq_false (by omega)
        have z3 : (1 : Int32) <<< (nI k &&& 31) = nI (2 ^ k) := nI_bit (by omega)
        have z4 : nI k + 1 = nI (k + 1) := nI_add k 1
        have z5 : nI (bits (chs m t) k) ||| 0 = nI (bits (chs m t) k) := by
          rw [show (0 : Int32) = nI 0 from rfl, nI_or, Nat.or_zero]
        simp only [hS.h0, h6, f1, f2, f3, l3, bindS, z1, z2, z3, z4, z5, if_false, nI_or]
        unfold chs
        rw [hmk]
        cases (a 0 0).testBit k
        · simp
        cases cb a x k
        · simp
        by_cases q2 : t ≤ cnt (fun i => m.testBit i) k
        · rw [if_neg (by decide), if_neg (by decide), if_pos (by omega), if_neg (by simp; omega)]
        · rw [if_neg (by decide), if_neg (by decide), if_neg (by omega), if_pos (by simp; omega)]
      · unfold b_X6_loose_66
        have f3 := e_ones (n := n) (bits_lt10 (chs m t)) (by omega)
        rw [hall] at f3
        simp (disch := omega) only [litN, nI_add, pk_mul, pk_sub, nI_negR, nI_negL, nI_negE, nI_negLt, nI_negGe, nI_ltE, nI_leE, nI_eqI, nI_clamp, inB_n, gd_tt, bindS, if_true, if_false, reduceIte, leT, leF, ltT, ltF, eqT, eqF, f3]
        by_cases w1 : w = 1
        · simp [w1]
        · simp [w1, show w = 0 by omega]
  · rw [if_neg q, if_neg q]
    exact ⟨_, rfl, rfl⟩
