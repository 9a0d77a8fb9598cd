/-! THE ABSTRACT TOWN: a 0 0 here, a 0 1 dogs, a 0 2 waiting, a 0 3 sights, a 0 4 yeses; a 1 strong, a 2 kind, a 3 laws, a 4 who was rung -/
abbrev AT : Type := Nat → Nat → Nat
def OKA (a : AT) : Prop := (a 0 0 < 1024 ∧ a 0 1 < 1024 ∧ a 0 2 < 1024) ∧ (a 0 3 ≤ 8 ∧ a 0 4 < 2 ^ a 0 3 ∧ ∀ j, j < a 0 3 → a 4 j < 10) ∧ ((∀ j, j < 100 → a 1 j ≤ 9) ∧ (∀ j, j < 100 → a 2 j ≤ 3)) ∧ ((∀ x y, x < 10 → y < 10 → a 1 (10 * x + y) = a 1 (10 * y + x)) ∧ (∀ x y, x < 10 → y < 10 → a 2 (10 * x + y) = a 2 (10 * y + x)) ∧ (∀ x, x < 10 → a 1 (10 * x + x) = 0)) ∧ ((1 ≤ a 3 0 ∧ a 3 0 ≤ 9) ∧ (1 ≤ a 3 1 ∧ a 3 1 ≤ 9) ∧ a 3 2 ≤ 1 ∧ a 3 3 ≤ 1)
def RT (T : TI) (a : AT) : Prop := (T 0 0 = nI (a 0 0) ∧ T 0 1 = nI (a 0 1) ∧ T 0 2 = nI (a 0 2) ∧ T 0 3 = nI (a 0 3) ∧ T 0 4 = nI (a 0 4)) ∧ (∀ j, j < 100 → T 6 j = nI (a 1 j)) ∧ (∀ j, j < 100 → T 7 j = nI (a 2 j)) ∧ (∀ j, j < 4 → T 8 j = nI (a 3 j)) ∧ (∀ j, j < a 0 3 → T 9 j = nI (a 4 j))
def RS (S : TI) (a : AT) : Prop := (S 0 0 = nI (a 0 0) ∧ S 0 1 = nI (a 0 1) ∧ S 0 2 = nI (a 0 2) ∧ S 0 8 = nI (a 0 3)) ∧ (∀ j, j < 100 → S 4 j = nI (a 1 j)) ∧ (∀ j, j < 100 → S 5 j = nI (a 2 j)) ∧ (∀ j, j < 4 → S 6 j = nI (a 3 j)) ∧ (∀ j, j < a 0 3 → S 7 j = nI (a 4 j)) ∧ (∀ j, j < a 0 3 → S 8 j = nI ((a 0 4).testBit j).toNat)
def dg (a : AT) (x : Nat) : Nat := (decide (a 3 3 = 1) && (a 0 1).testBit x).toNat
def cb (a : AT) (x y : Nat) : Bool := decide (a 3 1 ≤ a 1 (10 * x + y)) && (decide (a 3 2 = 1) || !decide (a 2 (10 * x + y) = 3))
def cn (a : AT) (s x : Nat) : Nat := cnt (fun y => s.testBit y && cb a x y) 10
def ms (a : AT) (s x : Nat) : Bool := decide (a 3 0 ≤ cn a s x + dg a x)
def mis (a : AT) (s : Nat) : Nat := bits (fun x => s.testBit x && ms a s x) 10
def tied (a : AT) (x l : Nat) : Nat := bits (fun y => decide (l ≤ a 1 (10 * x + y))) 10
def tq (a : AT) (s t e : Nat) : Nat := if (s.testBit (e / 10) && t.testBit (e % 10)) = true then a 1 e else 0
def tbt (a : AT) (s t : Nat) : Nat := sm (tq a s t) 100
def fd (a : AT) (x y : Nat) : Bool := (a 0 0).testBit x && ((a 0 0).testBit y && (!decide (a 2 (10 * x + y) = 3) && decide (0 < a 1 (10 * x + y))))
variable {n : Nat} {T S : TI} {L : TL} {a : AT}
theorem OKA.h0 (h : OKA a) : a 0 0 < 1024 := h.1.1
theorem OKA.h1 (h : OKA a) : a 0 1 < 1024 := h.1.2.1
theorem OKA.h2 (h : OKA a) : a 0 2 < 1024 := h.1.2.2
theorem OKA.h3 (h : OKA a) : a 0 3 ≤ 8 := h.2.1.1
theorem OKA.h4p (h : OKA a) : a 0 4 < 2 ^ a 0 3 := h.2.1.2.1
theorem OKA.h4 (h : OKA a) : a 0 4 < 1024 := by
  have h1 := h.2.1.2.1
  have h2 : 2 ^ a 0 3 ≤ 2 ^ 8 := Nat.pow_le_pow_right (by decide) h.h3
  omega
theorem OKA.hr (h : OKA a) {j : Nat} (hj : j < a 0 3) : a 4 j < 10 := h.2.1.2.2 j hj
theorem OKA.s9 (h : OKA a) {j : Nat} (hj : j < 100) : a 1 j ≤ 9 := h.2.2.1.1 j hj
theorem OKA.k3 (h : OKA a) {j : Nat} (hj : j < 100) : a 2 j ≤ 3 := h.2.2.1.2 j hj
theorem OKA.sy (h : OKA a) {x y : Nat} (hx : x < 10) (hy : y < 10) : a 1 (10 * x + y) = a 1 (10 * y + x) := h.2.2.2.1.1 x y hx hy
theorem OKA.ky (h : OKA a) {x y : Nat} (hx : x < 10) (hy : y < 10) : a 2 (10 * x + y) = a 2 (10 * y + x) := h.2.2.2.1.2.1 x y hx hy
theorem OKA.dz (h : OKA a) {x : Nat} (hx : x < 10) : a 1 (10 * x + x) = 0 := h.2.2.2.1.2.2 x hx
theorem OKA.l0 (h : OKA a) : 1 ≤ a 3 0 ∧ a 3 0 ≤ 9 := h.2.2.2.2.1
theorem OKA.l1 (h : OKA a) : 1 ≤ a 3 1 ∧ a 3 1 ≤ 9 := h.2.2.2.2.2.1
theorem OKA.l2 (h : OKA a) : a 3 2 ≤ 1 := h.2.2.2.2.2.2.1
theorem OKA.l3 (h : OKA a) : a 3 3 ≤ 1 := h.2.2.2.2.2.2.2
theorem OKA.ne (h : OKA a) {x y : Nat} (hx : x < 10) (h2 : 0 < a 1 (10 * x + y)) : x ≠ y := fun e => by
  subst e
  have := h.dz hx
  omega
theorem dg_le (a : AT) (x : Nat) : dg a x ≤ 1 := by unfold dg; cases (decide (a 3 3 = 1) && (a 0 1).testBit x) <;> decide
theorem cn_le (a : AT) (s x : Nat) : cn a s x ≤ 10 := cnt_le _ 10
theorem mis_lt (a : AT) (s : Nat) : mis a s < 1024 := bits_lt10 _
theorem tied_lt (a : AT) (x l : Nat) : tied a x l < 1024 := bits_lt10 _
theorem mis_tb {x : Nat} (hx : x < 10) (s : Nat) : (mis a s).testBit x = (s.testBit x && ms a s x) := bits_tb10 _ hx
theorem RT.h0 (h : RT T a) : T 0 0 = nI (a 0 0) := h.1.1
theorem RT.h1 (h : RT T a) : T 0 1 = nI (a 0 1) := h.1.2.1
theorem RT.h2 (h : RT T a) : T 0 2 = nI (a 0 2) := h.1.2.2.1
theorem RT.h3 (h : RT T a) : T 0 3 = nI (a 0 3) := h.1.2.2.2.1
theorem RT.h4 (h : RT T a) : T 0 4 = nI (a 0 4) := h.1.2.2.2.2
theorem RT.r6 (h : RT T a) {j : Nat} (hj : j < 100) : T 6 j = nI (a 1 j) := h.2.1 j hj
theorem RT.r7 (h : RT T a) {j : Nat} (hj : j < 100) : T 7 j = nI (a 2 j) := h.2.2.1 j hj
theorem RT.r8 (h : RT T a) {j : Nat} (hj : j < 4) : T 8 j = nI (a 3 j) := h.2.2.2.1 j hj
theorem RT.r9 (h : RT T a) {j : Nat} (hj : j < a 0 3) : T 9 j = nI (a 4 j) := h.2.2.2.2 j hj
theorem RS.h0 (h : RS S a) : S 0 0 = nI (a 0 0) := h.1.1
theorem RS.h1 (h : RS S a) : S 0 1 = nI (a 0 1) := h.1.2.1
theorem RS.h2 (h : RS S a) : S 0 2 = nI (a 0 2) := h.1.2.2.1
theorem RS.h3 (h : RS S a) : S 0 8 = nI (a 0 3) := h.1.2.2.2
theorem RS.r4 (h : RS S a) {j : Nat} (hj : j < 100) : S 4 j = nI (a 1 j) := h.2.1 j hj
theorem RS.r5 (h : RS S a) {j : Nat} (hj : j < 100) : S 5 j = nI (a 2 j) := h.2.2.1 j hj
theorem RS.r6 (h : RS S a) {j : Nat} (hj : j < 4) : S 6 j = nI (a 3 j) := h.2.2.2.1 j hj
theorem RS.r7 (h : RS S a) {j : Nat} (hj : j < a 0 3) : S 7 j = nI (a 4 j) := h.2.2.2.2.1 j hj
theorem RS.r8 (h : RS S a) {j : Nat} (hj : j < a 0 3) : S 8 j = nI ((a 0 4).testBit j).toNat := h.2.2.2.2.2 j hj
theorem loop_bits {ρ : Type} (b : Int32 × Int32 → (Int32 × Int32 → Option ρ) → Option ρ) (p : Nat → Bool) (N : Nat) (R : Option ρ)
    (hs : ∀ k, k < N → ∀ kk, b (nI (bits p k), nI k) kk = if p k = true then kk (nI (bits p k ||| 2 ^ k), nI (k + 1)) else kk (nI (bits p k), nI (k + 1)))
    (hx : ∀ kk, b (nI (bits p N), nI N) kk = R) : ∀ n, N < n → loopF b n (nI 0, nI 0) = R := by
  refine loop_for b (fun k => (nI (bits p k), nI k)) N R (fun k hk kk => ?_) hx
  rw [hs k hk kk]
  by_cases hp : p k = true
  · rw [if_pos hp]
    show _ = kk (nI (bits p (k + 1)), nI (k + 1))
    rw [bits_T hp]
  · rw [if_neg hp]
    show _ = kk (nI (bits p (k + 1)), nI (k + 1))
    rw [bits_F (by simpa using hp)]
theorem loop_cnt {ρ : Type} (b : Int32 × Int32 → (Int32 × Int32 → Option ρ) → Option ρ) (p : Nat → Bool) (N : Nat) (R : Option ρ)
    (hs : ∀ k, k < N → ∀ kk, b (nI (cnt p k), nI k) kk = if p k = true then kk (nI (cnt p k + 1), nI (k + 1)) else kk (nI (cnt p k), nI (k + 1)))
    (hx : ∀ kk, b (nI (cnt p N), nI N) kk = R) : ∀ n, N < n → loopF b n (nI 0, nI 0) = R := by
  refine loop_for b (fun k => (nI (cnt p k), nI k)) N R (fun k hk kk => ?_) hx
  rw [hs k hk kk]
  by_cases hp : p k = true
  · rw [if_pos hp]
    show _ = kk (nI (cnt p (k + 1)), nI (k + 1))
    rw [cnt_T hp]
  · rw [if_neg hp]
    show _ = kk (nI (cnt p (k + 1)), nI (k + 1))
    rw [cnt_F (by simpa using hp)]
theorem e_holds {s k : Nat} (hs : s < 1024) (hk : k < 31) : m_X5_holds n (nI s) (nI k) = some (nI (s.testBit k).toNat) := by
  unfold m_X5_holds
  simp (disch := omega) only [lit, nI_has, nI_f1]
  cases s.testBit k <;> rfl
theorem e_has {s k : Nat} (hs : s < 1024) (hk : k < 31) : m_X6_has n (nI s) (nI k) = some (nI (s.testBit k).toNat) := by
  unfold m_X6_has
  simp (disch := omega) only [lit, nI_has, nI_f1]
  cases s.testBit k <;> rfl
theorem e_strength (h : RT T a) {x y : Nat} (hx : x < 10) (hy : y < 10) : m_X4_strength n T (nI x) (nI y) = some (nI (a 1 (10 * x + y))) := by
  unfold m_X4_strength
  have h1 := h.r6 (j := 10 * x + y) (by omega)
  simp (disch := omega) only [litN, nI_add, pk_mul, pk_sub, nI_negR, nI_negL, nI_negE, nI_negLt, nI_negGe, nI_ltE, nI_leE, nI_eqI, nI_clamp, inB_n, gd_tt, bindS, if_true, if_false, reduceIte, leT, leF, ltT, ltF, eqT, eqF, show x * 10 + y = 10 * x + y by omega, h1]
theorem e_kind (h : RT T a) {x y : Nat} (hx : x < 10) (hy : y < 10) (hne : x ≠ y) : m_X4_kind n T (nI x) (nI y) = some (nI (a 2 (10 * x + y))) := by
  unfold m_X4_kind
  have h1 := h.r7 (j := 10 * x + y) (by omega)
  simp (disch := omega) only [litN, nI_add, pk_mul, pk_sub, nI_negR, nI_negL, nI_negE, nI_negLt, nI_negGe, nI_ltE, nI_leE, nI_eqI, nI_clamp, inB_n, gd_tt, bindS, if_true, if_false, reduceIte, leT, leF, ltT, ltF, eqT, eqF, show x * 10 + y = 10 * x + y by omega, h1]
theorem e_rule (h : RT T a) {k : Nat} (hk : k < 4) : m_X4_rule n T (nI k) = some (nI (a 3 k)) := by
  unfold m_X4_rule
  have h1 := h.r8 hk
  simp (disch := omega) only [litN, nI_add, pk_mul, pk_sub, nI_negR, nI_negL, nI_negE, nI_negLt, nI_negGe, nI_ltE, nI_leE, nI_eqI, nI_clamp, inB_n, gd_tt, bindS, if_true, if_false, reduceIte, leT, leF, ltT, ltF, eqT, eqF, h1]
theorem e_hereT (h : RT T a) (hO : OKA a) {x : Nat} (hx : x < 10) : m_X4_isHere n T (nI x) = some (nI ((a 0 0).testBit x).toNat) := by
  unfold m_X4_isHere
  have := hO.h0
  simp (disch := omega) only [litN, nI_add, pk_mul, pk_sub, nI_negR, nI_negL, nI_negE, nI_negLt, nI_negGe, nI_ltE, nI_leE, nI_eqI, nI_clamp, inB_n, gd_tt, bindS, if_true, if_false, reduceIte, leT, leF, ltT, ltF, eqT, eqF, h.h0, nI_has, nI_f1]
  cases (a 0 0).testBit x <;> rfl
theorem e_missing (h : RT T a) (hO : OKA a) {x : Nat} (hx : x < 10) (hn : 10 < n) : m_X4_missingIt n T (nI x) = some (nI (bits (cb a x) 10)) := by
  unfold m_X4_missingIt
  have hl1 := hO.l1
  have hl2 := hO.l2
  have r1 := e_rule (n := n) h (k := 1) (by omega)
  have r2 := e_rule (n := n) h (k := 2) (by omega)
  have key : loopF (b_X4_missingIt_27 n T (nI x) (nI (a 3 1))) n (nI (decide (a 3 2 = 1)).toNat, nI 0, nI 0) = some (nI (bits (cb a x) 10)) := by
    refine loop_for (b_X4_missingIt_27 n T (nI x) (nI (a 3 1))) (fun k => (nI (decide (a 3 2 = 1)).toNat, nI (bits (cb a x) k), nI k)) 10 _ (fun k hk kk => ?_) (fun kk => ?_) n hn
    · unfold b_X4_missingIt_27
      have hst := e_strength (n := n) h hx hk
      have h9 := hO.s9 (j := 10 * x + k) (by omega)
      have h3 := hO.k3 (j := 10 * x + k) (by omega)
      simp (disch := omega) only [litN, nI_add, pk_mul, pk_sub, nI_negR, nI_negL, nI_negE, nI_negLt, nI_negGe, nI_ltE, nI_leE, nI_eqI, nI_clamp, inB_n, gd_tt, bindS, if_true, if_false, reduceIte, leT, leF, ltT, ltF, eqT, eqF, hst, nI_f0, nI_bitN, nI_or]
      by_cases h1 : a 1 (10 * x + k) < a 3 1
      · rw [if_pos h1, bits_F]
        unfold cb
        simp [show ¬ a 3 1 ≤ a 1 (10 * x + k) by omega]
      · have hki := e_kind (n := n) h hx hk (hO.ne hx (by omega))
        rw [if_neg h1, hki]
        by_cases h2 : a 3 2 = 1
        · rw [if_neg (by simp [h2]), bits_T]
          unfold cb
          simp [h2]; omega
        · rw [if_pos (by simp [h2])]
          simp (disch := omega) only [litN, nI_add, pk_mul, pk_sub, nI_negR, nI_negL, nI_negE, nI_negLt, nI_negGe, nI_ltE, nI_leE, nI_eqI, nI_clamp, inB_n, gd_tt, bindS, if_true, if_false, reduceIte, leT, leF, ltT, ltF, eqT, eqF]
          by_cases h4 : a 2 (10 * x + k) = 3
          · rw [if_pos h4, bits_F]
            unfold cb
            simp [h2, h4]
          · rw [if_neg h4, bits_T]
            unfold cb
            simp [h4]; omega
    · unfold b_X4_missingIt_27
      simp (disch := omega) only [litN, nI_add, pk_mul, pk_sub, nI_negR, nI_negL, nI_negE, nI_negLt, nI_negGe, nI_ltE, nI_leE, nI_eqI, nI_clamp, inB_n, gd_tt, bindS, if_true, if_false, reduceIte, leT, leF, ltT, ltF, eqT, eqF]
  simp (disch := omega) only [litN, nI_add, pk_mul, pk_sub, nI_negR, nI_negL, nI_negE, nI_negLt, nI_negGe, nI_ltE, nI_leE, nI_eqI, nI_clamp, inB_n, gd_tt, bindS, if_true, if_false, reduceIte, leT, leF, ltT, ltF, eqT, eqF, r1, r2]
  by_cases h2 : a 3 2 = 1
  · simp only [h2, decide_true] at key
    rw [if_pos h2]
    exact key
  · simp only [h2, decide_false] at key
    rw [if_neg h2]
    exact key
theorem e_need (h : RT T a) (hO : OKA a) {x : Nat} (hx : x < 10) : m_X4_tiesNeeded n T (nI x) = some (nI (a 3 0 - dg a x)) := by
  unfold m_X4_tiesNeeded
  have hl0 := hO.l0
  have hl3 := hO.l3
  have h1 := hO.h1
  have r0 := e_rule (n := n) h (k := 0) (by omega)
  have r3 := e_rule (n := n) h (k := 3) (by omega)
  have hh := e_holds (n := n) (s := a 0 1) (k := x) h1 (by omega)
  simp (disch := omega) only [litN, nI_add, pk_mul, pk_sub, nI_negR, nI_negL, nI_negE, nI_negLt, nI_negGe, nI_ltE, nI_leE, nI_eqI, nI_clamp, inB_n, gd_tt, bindS, if_true, if_false, reduceIte, leT, leF, ltT, ltF, eqT, eqF, r0, r3, hh, h.h1, nI_f0, pk_sub]
  unfold dg
  by_cases h3 : a 3 3 = 1
  · rw [if_pos h3]
    cases hb : (a 0 1).testBit x <;> simp [h3]
  · rw [if_neg h3]
    simp [h3]
theorem e_missed (h : RT T a) (hO : OKA a) (hn : 10 < n) : m_X4_missed n T = some (nI (mis a (a 0 0))) := by
  unfold m_X4_missed mis
  have h0 := hO.h0
  have hl0 := hO.l0
  refine loop_bits (b_X4_missed_4 n T) (fun x => (a 0 0).testBit x && ms a (a 0 0) x) 10 _ (fun k hk kk => ?_) (fun kk => ?_) n hn
  · unfold b_X4_missed_4
    have e1 := e_hereT (n := n) h hO hk
    have e2 := e_missing h hO hk hn
    have e3 := e_need (n := n) h hO hk
    have e4 := e_bcA (n := n) (s := bits (cb a k) 10) (t := a 0 0) (bits_lt10 _)
    have hd := dg_le a k
    have hp : pc (bits (cb a k) 10 &&& a 0 0) = cn a (a 0 0) k := by
      rw [pc_bits_and]
      exact cnt_congr (fun i _ => Bool.and_comm ..)
    have hc := cn_le a (a 0 0) k
    rw [hp] at e4
    simp (disch := omega) only [litN, nI_add, pk_mul, pk_sub, nI_negR, nI_negL, nI_negE, nI_negLt, nI_negGe, nI_ltE, nI_leE, nI_eqI, nI_clamp, inB_n, gd_tt, bindS, if_true, if_false, reduceIte, leT, leF, ltT, ltF, eqT, eqF, e1, e2, e3, h.h0, e4, nI_bitN, nI_or, nI_f0]
    cases hb : (a 0 0).testBit k
    · simp
    · simp only [Bool.true_and, Bool.true_eq_false, if_false]
      unfold ms
      by_cases h1 : cn a (a 0 0) k < a 3 0 - dg a k
      · rw [if_pos h1, if_neg (by simp; omega)]
      · rw [if_neg h1, if_pos (by simp; omega)]
  · unfold b_X4_missed_4
    simp (disch := omega) only [litN, nI_add, pk_mul, pk_sub, nI_negR, nI_negL, nI_negE, nI_negLt, nI_negGe, nI_ltE, nI_leE, nI_eqI, nI_clamp, inB_n, gd_tt, bindS, if_true, if_false, reduceIte, leT, leF, ltT, ltF, eqT, eqF]
theorem e_fades (h : RT T a) (hO : OKA a) {x y : Nat} (hx : x < 10) (hy : y < 10) (hne : x ≠ y) : m_X4_fades n T (nI x) (nI y) = some (nI (fd a x y).toNat) := by
  unfold m_X4_fades
  have e1 := e_hereT (n := n) h hO hx
  have e2 := e_hereT (n := n) h hO hy
  have e3 := e_kind (n := n) h hx hy hne
  have e4 := e_strength (n := n) h hx hy
  have h9 := hO.s9 (j := 10 * x + y) (by omega)
  have h3 := hO.k3 (j := 10 * x + y) (by omega)
  simp (disch := omega) only [litN, nI_add, pk_mul, pk_sub, nI_negR, nI_negL, nI_negE, nI_negLt, nI_negGe, nI_ltE, nI_leE, nI_eqI, nI_clamp, inB_n, gd_tt, bindS, if_true, if_false, reduceIte, leT, leF, ltT, ltF, eqT, eqF, e1, e2, e3, e4, nI_f0]
  unfold fd
  cases (a 0 0).testBit x
  · simp
  cases (a 0 0).testBit y
  · simp
  by_cases hk : a 2 (10 * x + y) = 3
  · simp [hk]
  by_cases hz : a 1 (10 * x + y) ≤ 0
  · simp [hk, show a 1 (10 * x + y) = 0 by omega]
  · simp [hk, show ¬ a 1 (10 * x + y) = 0 by omega, show 0 < a 1 (10 * x + y) by omega]
theorem e_tied (h : RT T a) (hO : OKA a) {x l : Nat} (hx : x < 10) (hl : l ≤ 9) (hn : 10 < n) : m_X4_tiedTo n T (nI x) (nI l) = some (nI (tied a x l)) := by
  unfold m_X4_tiedTo tied
  refine loop_bits (b_X4_tiedTo_5 n T (nI x) (nI l)) (fun y => decide (l ≤ a 1 (10 * x + y))) 10 _ (fun k hk kk => ?_) (fun kk => ?_) n hn
  · unfold b_X4_tiedTo_5
    have e1 := e_strength (n := n) h hx hk
    have h9 := hO.s9 (j := 10 * x + k) (by omega)
    simp (disch := omega) only [litN, nI_add, pk_mul, pk_sub, nI_negR, nI_negL, nI_negE, nI_negLt, nI_negGe, nI_ltE, nI_leE, nI_eqI, nI_clamp, inB_n, gd_tt, bindS, if_true, if_false, reduceIte, leT, leF, ltT, ltF, eqT, eqF, e1, nI_bitN, nI_or, decide_eq_true_eq]
    by_cases h1 : a 1 (10 * x + k) < l
    · rw [if_pos h1, if_neg (by omega)]
    · rw [if_neg h1, if_pos (by omega)]
  · unfold b_X4_tiedTo_5
    simp (disch := omega) only [litN, nI_add, pk_mul, pk_sub, nI_negR, nI_negL, nI_negE, nI_negLt, nI_negGe, nI_ltE, nI_leE, nI_eqI, nI_clamp, inB_n, gd_tt, bindS, if_true, if_false, reduceIte, leT, leF, ltT, ltF, eqT, eqF]
theorem tq_le (hO : OKA a) (s t : Nat) : ∀ e, e < 100 → tq a s t e ≤ 9 := fun e he => by
  unfold tq
  have := hO.s9 he
  split <;> omega
theorem sm_lt {f : Nat → Nat} {m : Nat} : ∀ n, (∀ i, i < n → f i ≤ m) → sm f n ≤ n * m
  | 0, _ => by simp [sm]
  | n + 1, hf => by
    have h := sm_lt n (fun i hi => hf i (by omega))
    have h2 := hf n (by omega)
    unfold sm
    rw [Nat.add_mul, Nat.one_mul]
    omega
theorem sm_tq (hO : OKA a) (s t : Nat) {k : Nat} (hk : k ≤ 100) : sm (tq a s t) k ≤ 900 := by
  have := sm_lt k (fun i hi => tq_le hO s t i (by omega))
  omega
theorem tbt_le (hO : OKA a) (s t : Nat) : tbt a s t ≤ 900 := sm_tq hO s t (by omega)
theorem e_between (h : RT T a) (hO : OKA a) {s t : Nat} (hs : s < 1024) (ht : t < 1024) (hn : 10 < n) : m_X4_strengthBetween n T (nI s) (nI t) = some (nI (tbt a s t)) := by
  unfold m_X4_strengthBetween tbt
  refine loop_for (b_X4_strengthBetween_5 n T (nI s) (nI t)) (fun x => (nI (sm (tq a s t) (10 * x)), nI x)) 10 _ (fun x hx kk => ?_) (fun kk => ?_) n hn
  · unfold b_X4_strengthBetween_5
    simp (disch := omega) only [litN, nI_add, pk_mul, pk_sub, nI_negR, nI_negL, nI_negE, nI_negLt, nI_negGe, nI_ltE, nI_leE, nI_eqI, nI_clamp, inB_n, gd_tt, bindS, if_true, if_false, reduceIte, leT, leF, ltT, ltF, eqT, eqF]
    refine loop_for (b_X4_strengthBetween_15 n T (nI s) (nI t) (nI x) kk) (fun y => (nI (sm (tq a s t) (10 * x + y)), nI y)) 10 _ (fun y hy k2 => ?_) (fun k2 => ?_) n hn
    · unfold b_X4_strengthBetween_15
      have e1 := e_holds (n := n) (s := s) (k := x) hs (by omega)
      have e2 := e_holds (n := n) (s := t) (k := y) ht (by omega)
      have e3 := e_strength (n := n) h hx hy
      simp (disch := omega) only [litN, nI_add, pk_mul, pk_sub, nI_negR, nI_negL, nI_negE, nI_negLt, nI_negGe, nI_ltE, nI_leE, nI_eqI, nI_clamp, inB_n, gd_tt, bindS, if_true, if_false, reduceIte, leT, leF, ltT, ltF, eqT, eqF, e1, e2, e3, nI_f0]
      rw [show 10 * x + (y + 1) = (10 * x + y) + 1 by omega]
      rw [sm_s]
      have hd : (10 * x + y) / 10 = x := by omega
      have hm : (10 * x + y) % 10 = y := by omega
      rw [show tq a s t (10 * x + y) = _ from rfl]
      unfold tq
      rw [hd, hm]
      cases s.testBit x
      · simp
      cases t.testBit y
      · simp
      · simp
    · unfold b_X4_strengthBetween_15
      simp (disch := omega) only [litN, nI_add, pk_mul, pk_sub, nI_negR, nI_negL, nI_negE, nI_negLt, nI_negGe, nI_ltE, nI_leE, nI_eqI, nI_clamp, inB_n, gd_tt, bindS, if_true, if_false, reduceIte, leT, leF, ltT, ltF, eqT, eqF]
      rw [show 10 * x + 10 = 10 * (x + 1) by omega]
  · unfold b_X4_strengthBetween_5
    simp (disch := omega) only [litN, nI_add, pk_mul, pk_sub, nI_negR, nI_negL, nI_negE, nI_negLt, nI_negGe, nI_ltE, nI_leE, nI_eqI, nI_clamp, inB_n, gd_tt, bindS, if_true, if_false, reduceIte, leT, leF, ltT, ltF, eqT, eqF]
