/-! WHAT AN ACT DOES, on both sides -/
variable {n : Nat} {X T I J P C V F S S' : TI} {A L : TL} {a : AT}
def gone (a : AT) : Nat := dif (a 0 2) (mis a (a 0 0))
def gn (a : AT) (c : Nat) : Nat := if c = 5 then gone a else 0
def actA (a : AT) (c x y : Nat) : AT := if c = 0 then tieA a x y (a 2 (10 * x + y)) (min 9 (a 1 (10 * x + y) + 2)) else if c = 1 then tieA a x y (a 2 (10 * x + y)) (a 1 (10 * x + y) - 3) else if c = 2 then tieA a x y 3 9 else if c = 3 then hdw a (a 0 0) (a 0 1 ^^^ 2 ^ x) (a 0 2) else if c = 4 then hdw a (a 0 0) (a 0 1) (a 0 2 ^^^ 2 ^ x) else if c = 5 then hdw a (dif (a 0 0) (gone a)) (a 0 1) 0 else fdA a 100
theorem actA_6 (a : AT) (x y : Nat) : actA a 6 x y = fdA a 100 := by
  unfold actA
  rw [if_neg (by decide), if_neg (by decide), if_neg (by decide), if_neg (by decide), if_neg (by decide), if_neg (by decide)]
theorem gone_lt (hO : OKA a) : gone a < 1024 := dif_lt hO.h2
theorem gn_lt (hO : OKA a) (c : Nat) : gn a c < 1024 := by
  unfold gn
  split
  · exact gone_lt hO
  · decide
theorem act_ok (hO : OKA a) {c x y : Nat} (hc : c ≤ 6) (hx : x < 10) (hy : y < 10) (hne : c < 3 → x ≠ y) : OKA (actA a c x y) := by
  have h9 := hO.s9 (j := 10 * x + y) (by omega)
  have h3 := hO.k3 (j := 10 * x + y) (by omega)
  rcases (show c = 0 ∨ c = 1 ∨ c = 2 ∨ c = 3 ∨ c = 4 ∨ c = 5 ∨ c = 6 by omega) with rfl | rfl | rfl | rfl | rfl | rfl | rfl
  · exact hO.tie hx hy (hne (by omega)) h3 (Nat.min_le_left _ _)
  · exact hO.tie hx hy (hne (by omega)) h3 (show a 1 (10 * x + y) - 3 ≤ 9 by omega)
  · exact hO.tie hx hy (hne (by omega)) (Nat.le_refl _) (Nat.le_refl _)
  · exact hO.hdw hO.h0 (xor_lt hO.h1 (two_lt hx)) hO.h2
  · exact hO.hdw hO.h0 hO.h1 (xor_lt hO.h2 (two_lt hx))
  · exact hO.hdw (dif_lt hO.h0) hO.h1 (by decide)
  · rw [actA_6]
    exact fdA_ok hO 100 (Nat.le_refl _)
theorem tbt_0 (a : AT) (t : Nat) : tbt a 0 t = 0 := by
  have h : ∀ N, sm (tq a 0 t) N = 0 := by
    intro N
    induction N with
    | zero => rfl
    | succ N ih =>
      rw [sm_s, ih]
      unfold tq
      rw [Nat.zero_testBit, Bool.false_and]
      rfl
  exact h 100
theorem pc_0 : pc 0 = 0 := by decide
def lo (s : Nat) : Nat := cnt (fun k => decide (s % 2 ^ (k + 1) = 0)) 10
theorem lo_v : ∀ s, s < 1024 → s = 0 ∨ (s.testBit (lo s) = true ∧ lo s < 10 ∧ ∀ i, i < 10 → i < lo s → s.testBit i = false) := by decide +kernel
theorem e_leastOne {s : Nat} (hs : s < 1024) (h0 : ¬ s = 0) (hn : 20 < n) : m_X5_leastOne n (nI s) = some (nI (lo s)) := by
  unfold m_X5_leastOne
  obtain ⟨l1, l2, l3⟩ := (lo_v s hs).resolve_left h0
  refine loop_find (b_X5_leastOne_2 n (nI s)) (fun k => nI k) 10 (fun k => s.testBit k) (fun k => some (nI k)) _ (fun k hk g0 kk => ?_) (fun g0 kk => ?_) (fun k hk g0 hp => ?_) n (by omega)
  · unfold b_X5_leastOne_2
    have e1 := e_holds (n := n) (s := s) (k := k) hs (by omega)
    simp (disch := omega) only [litN, nI_add, pk_mul, pk_sub, nI_negR, nI_negL, nI_negE, nI_negLt, nI_negGe, nI_ltE, nI_leE, nI_eqI, nI_clamp, inB_n, gd_tt, bindS, if_true, if_false, reduceIte, leT, leF, ltT, ltF, eqT, eqF, e1, nI_f0]
    cases s.testBit k <;> rfl
  · exfalso
    have := g0 (lo s) l2
    simp only [l1] at this
    cases this
  · have : k = lo s := by
      by_cases q : k < lo s
      · have := l3 k hk q
        simp only [this] at hp
        cases hp
      · by_cases q2 : lo s < k
        · have := g0 (lo s) q2
          simp only [l1] at this
          cases this
        · omega
    show some (nI k) = _
    rw [this]
theorem e_leastOf6 {s : Nat} (hs : s < 1024) (h0 : ¬ s = 0) (hn : 20 < n) : m_X6_leastOf n (nI s) = some (nI (lo s)) := by
  unfold m_X6_leastOf
  obtain ⟨l1, l2, l3⟩ := (lo_v s hs).resolve_left h0
  refine loop_inv (b_X6_leastOf_6 n (nI s)) (fun j t => t.2 = (if j = 10 then -nI 1 else nI (9 - j)) ∧ (10 - j ≤ lo s → t.1 = nI (lo s))) 10 (fun o => o = some (nI (lo s))) (fun j hj t ht kk => ?_) (fun t ht kk => ?_) _ n ⟨rfl, fun h => by omega⟩ (by omega)
  · left
    obtain ⟨h1, h2⟩ := ht
    rw [if_neg (by omega)] at h1
    have e1 := e_has (n := n) (s := s) (k := 9 - j) hs (by omega)
    have hd : nI (9 - j) + -nI 1 = (if j + 1 = 10 then -nI 1 else nI (9 - (j + 1))) := by
      by_cases q : j = 9
      · rw [if_pos (by omega), show 9 - j = 0 by omega, nI_decZ]
      · rw [if_neg (by omega), nI_dec (by omega), show 9 - j - 1 = 9 - (j + 1) by omega]
    cases hb : s.testBit (9 - j)
    · refine ⟨(t.1, nI (9 - j) + -nI 1), ?_, hd, fun h => ?_⟩
      · rw [hb] at e1
        unfold b_X6_leastOf_6
        simp (disch := omega) only [litN, nI_add, pk_mul, pk_sub, nI_negR, nI_negL, nI_negE, nI_negLt, nI_negGe, nI_ltE, nI_leE, nI_eqI, nI_clamp, inB_n, gd_tt, bindS, if_true, if_false, reduceIte, leT, leF, ltT, ltF, eqT, eqF, h1, e1, nI_f0]
      · refine h2 ?_
        by_cases q : 9 - j = lo s
        · rw [q, l1] at hb; cases hb
        · omega
    · refine ⟨(nI (9 - j), nI (9 - j) + -nI 1), ?_, hd, fun h => ?_⟩
      · rw [hb] at e1
        unfold b_X6_leastOf_6
        simp (disch := omega) only [litN, nI_add, pk_mul, pk_sub, nI_negR, nI_negL, nI_negE, nI_negLt, nI_negGe, nI_ltE, nI_leE, nI_eqI, nI_clamp, inB_n, gd_tt, bindS, if_true, if_false, reduceIte, leT, leF, ltT, ltF, eqT, eqF, h1, e1, nI_f0, Bool.true_eq_false]
      · have : 9 - j = lo s := by
          by_cases q : 9 - j < lo s
          · rw [l3 (9 - j) (by omega) q] at hb; cases hb
          · omega
        show nI (9 - j) = _
        rw [this]
  · obtain ⟨h1, h2⟩ := ht
    rw [if_pos rfl] at h1
    unfold b_X6_leastOf_6
    simp only [h1]
    rw [if_pos (by decide +kernel), h2 (by omega)]
theorem e_kindT (h : RT T a) (p q : Int32) : ∃ v, m_X4_kind n T p q = some v := by
  unfold m_X4_kind
  by_cases h1 : p < 0
  · rw [if_pos h1]; exact ⟨_, rfl⟩
  rw [if_neg h1]
  obtain ⟨x, hx, rfl⟩ := nI_of h1
  by_cases h2 : (10 : Int32) ≤ nI x
  · rw [if_pos h2]; exact ⟨_, rfl⟩
  rw [if_neg h2]
  by_cases h3 : q < 0
  · rw [if_pos h3]; exact ⟨_, rfl⟩
  rw [if_neg h3]
  obtain ⟨y, hy, rfl⟩ := nI_of h3
  by_cases h4 : (10 : Int32) ≤ nI y
  · rw [if_pos h4]; exact ⟨_, rfl⟩
  rw [if_neg h4]
  rw [show (10 : Int32) = nI 10 from rfl, nI_leE (by omega) hx] at h2
  rw [show (10 : Int32) = nI 10 from rfl, nI_leE (by omega) hy] at h4
  by_cases h5 : nI x = nI y
  · rw [if_pos h5]; exact ⟨_, rfl⟩
  rw [if_neg h5]
  simp (disch := omega) only [litN, nI_add, pk_mul, pk_sub, nI_negR, nI_negL, nI_negE, nI_negLt, nI_negGe, nI_ltE, nI_leE, nI_eqI, nI_clamp, inB_n, gd_tt, bindS, if_true, if_false, reduceIte, leT, leF, ltT, ltF, eqT, eqF]
  exact ⟨_, rfl⟩
theorem e_strengthT (h : RT T a) (p q : Int32) : ∃ v, m_X4_strength n T p q = some v := by
  unfold m_X4_strength
  by_cases h1 : p < 0
  · rw [if_pos h1]; exact ⟨_, rfl⟩
  rw [if_neg h1]
  obtain ⟨x, hx, rfl⟩ := nI_of h1
  by_cases h2 : (10 : Int32) ≤ nI x
  · rw [if_pos h2]; exact ⟨_, rfl⟩
  rw [if_neg h2]
  by_cases h3 : q < 0
  · rw [if_pos h3]; exact ⟨_, rfl⟩
  rw [if_neg h3]
  obtain ⟨y, hy, rfl⟩ := nI_of h3
  by_cases h4 : nI y < (10 : Int32)
  · rw [if_pos h4]
    rw [show (10 : Int32) = nI 10 from rfl, nI_leE (by omega) hx] at h2
    rw [show (10 : Int32) = nI 10 from rfl, nI_ltE hy (by omega)] at h4
    simp (disch := omega) only [litN, nI_add, pk_mul, pk_sub, nI_negR, nI_negL, nI_negE, nI_negLt, nI_negGe, nI_ltE, nI_leE, nI_eqI, nI_clamp, inB_n, gd_tt, bindS, if_true, if_false, reduceIte, leT, leF, ltT, ltF, eqT, eqF]
    exact ⟨_, rfl⟩
  rw [if_neg h4]
  exact ⟨_, rfl⟩
theorem qr_1 : ∀ s, s ≤ 9 → (if nI 0 < nI s - nI 3 then nI s - nI 3 else nI 0) = nI (s - 3) := by decide +kernel
theorem qr_2 : ∀ s, s < 3 → ¬ (nI 0 ≤ nI s - nI 3) := by decide +kernel
theorem mt_1 : ∀ s, s ≤ 9 → (if nI s + nI 2 < nI 9 then nI s + nI 2 else nI 9) = nI (min 9 (s + 2)) := by decide +kernel
theorem e_perform (h : RT T a) (hO : OKA a) {c x y : Nat} {p q : Int32} (hc : c ≤ 6) (hc5 : c ≠ 5) (hx : x < 10) (hy : y < 10) (hne : c < 3 → x ≠ y) (hp : c < 5 → p = nI x) (hq : c < 3 → q = nI y) (hn : 10 < n) : ∃ T', m_X4_perform n T (nI (dc c)) p q = some T' ∧ RT T' (actA a c x y) := by
  unfold m_X4_perform
  obtain ⟨v1, k1⟩ := e_kindT (n := n) h p q
  obtain ⟨v2, k2⟩ := e_strengthT (n := n) h p q
  have h9 := hO.s9 (j := 10 * x + y) (by omega)
  rcases (show c = 0 ∨ c = 1 ∨ c = 2 ∨ c = 3 ∨ c = 4 ∨ c = 6 by omega) with rfl | rfl | rfl | rfl | rfl | rfl
  · rw [hp (by omega), hq (by omega), e_kind h hx hy (hne (by omega)), e_strength h hx hy]
    obtain ⟨T', b1, b2⟩ := e_bind (n := n) h (k := a 2 (10 * x + y)) (v := min 9 (a 1 (10 * x + y) + 2)) hx hy (hne (by omega))
    have m1 := mt_1 _ h9
    simp only [litN, bindS, m1, b1, show nI (dc 0) = nI 43 from rfl]
    exact ⟨T', by simp (disch := omega) only [litN, nI_add, pk_mul, pk_sub, nI_negR, nI_negL, nI_negE, nI_negLt, nI_negGe, nI_ltE, nI_leE, nI_eqI, nI_clamp, inB_n, gd_tt, bindS, if_true, if_false, reduceIte, leT, leF, ltT, ltF, eqT, eqF], b2⟩
  · rw [hp (by omega), hq (by omega), e_kind h hx hy (hne (by omega)), e_strength h hx hy]
    obtain ⟨T', b1, b2⟩ := e_bind (n := n) h (k := a 2 (10 * x + y)) (v := a 1 (10 * x + y) - 3) hx hy (hne (by omega))
    have m1 := qr_1 _ h9
    simp only [litN, bindS, m1, b1, show nI (dc 1) = nI 45 from rfl]
    exact ⟨T', by simp (disch := omega) only [litN, nI_add, pk_mul, pk_sub, nI_negR, nI_negL, nI_negE, nI_negLt, nI_negGe, nI_ltE, nI_leE, nI_eqI, nI_clamp, inB_n, gd_tt, bindS, if_true, if_false, reduceIte, leT, leF, ltT, ltF, eqT, eqF], b2⟩
  · rw [hp (by omega), hq (by omega), e_kind h hx hy (hne (by omega)), e_strength h hx hy]
    obtain ⟨T', b1, b2⟩ := e_bind (n := n) h (k := 3) (v := 9) hx hy (hne (by omega))
    simp only [litN, bindS, b1, show nI (dc 2) = nI 36 from rfl]
    exact ⟨T', by simp (disch := omega) only [litN, nI_add, pk_mul, pk_sub, nI_negR, nI_negL, nI_negE, nI_negLt, nI_negGe, nI_ltE, nI_leE, nI_eqI, nI_clamp, inB_n, gd_tt, bindS, if_true, if_false, reduceIte, leT, leF, ltT, ltF, eqT, eqF], b2⟩
  · rw [k1, bindS, k2, bindS, hp (by omega)]
    simp only [show nI (dc 3) = nI 100 from rfl]
    simp (disch := omega) only [litN, nI_add, pk_mul, pk_sub, nI_negR, nI_negL, nI_negE, nI_negLt, nI_negGe, nI_ltE, nI_leE, nI_eqI, nI_clamp, inB_n, gd_tt, bindS, if_true, if_false, reduceIte, leT, leF, ltT, ltF, eqT, eqF, nI_bitN, h.h1, nI_xor]
    refine ⟨_, rfl, h.hdw ?_ ?_ ?_ ?_ ?_ ?_ ?_ ?_ ?_⟩ <;> simp (disch := omega) only [sf_s, sf_n, sf_r, h.h0, h.h2]
  · rw [k1, bindS, k2, bindS, hp (by omega)]
    simp only [show nI (dc 4) = nI 62 from rfl]
    simp (disch := omega) only [litN, nI_add, pk_mul, pk_sub, nI_negR, nI_negL, nI_negE, nI_negLt, nI_negGe, nI_ltE, nI_leE, nI_eqI, nI_clamp, inB_n, gd_tt, bindS, if_true, if_false, reduceIte, leT, leF, ltT, ltF, eqT, eqF, nI_bitN, h.h2, nI_xor]
    refine ⟨_, rfl, h.hdw ?_ ?_ ?_ ?_ ?_ ?_ ?_ ?_ ?_⟩ <;> simp (disch := omega) only [sf_s, sf_n, sf_r, h.h0, h.h1]
  · rw [k1, bindS, k2, bindS]
    simp only [show nI (dc 6) = nI 126 from rfl]
    obtain ⟨T', b1, b2⟩ := e_fadeAll (n := n) h hO hn
    simp (disch := omega) only [litN, nI_add, pk_mul, pk_sub, nI_negR, nI_negL, nI_negE, nI_negLt, nI_negGe, nI_ltE, nI_leE, nI_eqI, nI_clamp, inB_n, gd_tt, bindS, if_true, if_false, reduceIte, leT, leF, ltT, ltF, eqT, eqF, b1]
    rw [actA_6]
    exact ⟨T', rfl, b2⟩
theorem addZ (x : Int32) : x + nI 0 = x := Int32.add_zero x
theorem e_train (h : RT T a) (hO : OKA a) (x y : Nat) (hn : 20 < n) : ∃ C' T', m_X1_runTrain n C T = some (C', T') ∧ RT T' (actA a 5 x y) ∧ C' 0 1 = C 0 1 ∧ C' 0 3 = C 0 3 + nI (pc (gone a)) ∧ C' 0 4 = C 0 4 + nI (tbt (actA a 5 x y) (gone a) (actA a 5 x y 0 0)) ∧ C' 0 5 = (if ¬ gone a = 0 ∧ C 0 5 = -nI 6 then C 0 1 else C 0 5) ∧ C' 0 6 = (if ¬ gone a = 0 ∧ C 0 5 = -nI 6 then nI (lo (gone a)) else C 0 6) := by
  unfold m_X1_runTrain m_X4_endNight
  have e1 := e_missed h hO (by omega : 10 < n)
  have hg := gone_lt hO
  have hgd : dif (a 0 2) (mis a (a 0 0)) = gone a := rfl
  have hT' : RT (sf (sf T 0 (nI (dif (a 0 0) (gone a)))) 2 (nI 0)) (actA a 5 x y) := by
    refine h.hdw ?_ ?_ ?_ ?_ ?_ ?_ ?_ ?_ ?_ <;> simp (disch := omega) only [sf_s, sf_n, sf_r, h.h1]
  have hOk := act_ok hO (c := 5) (x := 0) (y := 0) (by omega) (by omega) (by omega) (fun h => by omega)
  have hOk' : OKA (actA a 5 x y) := hOk
  have e2 := e_bc (n := n) hg
  have e3 := e_between (n := n) hT' hOk' hg hOk'.h0 (by omega)
  have h0' : (sf (sf T 0 (nI (dif (a 0 0) (gone a)))) 2 (nI 0)) 0 0 = nI (actA a 5 x y 0 0) := hT'.h0
  simp (disch := omega) only [litN, nI_add, pk_mul, pk_sub, nI_negR, nI_negL, nI_negE, nI_negLt, nI_negGe, nI_ltE, nI_leE, nI_eqI, nI_clamp, inB_n, gd_tt, bindS, if_true, if_false, reduceIte, leT, leF, ltT, ltF, eqT, eqF, e1, h.h2, h.h0, nI_andn, hgd]
  by_cases q : gone a = 0
  · rw [if_pos q]
    refine ⟨_, _, rfl, hT', rfl, ?_, ?_, ?_, ?_⟩
    · rw [q, pc_0, addZ]
    · rw [q, tbt_0, addZ]
    · rw [if_neg (fun h => h.1 q)]
    · rw [if_neg (fun h => h.1 q)]
  · have e4 := e_leastOne (n := n) hg q (by omega)
    rw [if_neg q, e2, bindS, h0', e3, bindS, e4]
    by_cases q2 : C 0 5 = -nI 6
    · rw [if_pos q2, bindS]
      refine ⟨_, _, rfl, hT', ?_, ?_, ?_, ?_, ?_⟩ <;> simp (disch := omega) only [sf_s, sf_n, if_pos (show ¬ gone a = 0 ∧ C 0 5 = -nI 6 from ⟨q, q2⟩)]
    · rw [if_neg q2]
      refine ⟨_, _, rfl, hT', ?_, ?_, ?_, ?_, ?_⟩ <;> simp (disch := omega) only [sf_s, sf_n, if_neg (show ¬ (¬ gone a = 0 ∧ C 0 5 = -nI 6) from fun h => q2 h.2)]
theorem e_attempt (h : RT T a) (hO : OKA a) {c x y : Nat} {p q : Int32} (hc : c ≤ 6) (hx : x < 10) (hy : y < 10) (hp : c < 5 → p = nI x) (hq : c < 3 → q = nI y) (hn : 20 < n) : (¬ why a c x y = 0 → m_X1_attempt n C T (nI (dc c)) p q = some (nI (why a c x y), C, T)) ∧ (why a c x y = 0 → ∃ C' T', m_X1_attempt n C T (nI (dc c)) p q = some (nI 0, C', T') ∧ RT T' (actA a c x y) ∧ C' 0 1 = C 0 1 + nI 1 ∧ C' 0 3 = C 0 3 + nI (pc (gn a c)) ∧ C' 0 4 = C 0 4 + nI (tbt (actA a c x y) (gn a c) (actA a c x y 0 0)) ∧ C' 0 5 = (if ¬ gn a c = 0 ∧ C 0 5 = -nI 6 then C 0 1 else C 0 5) ∧ C' 0 6 = (if ¬ gn a c = 0 ∧ C 0 5 = -nI 6 then nI (lo (gn a c)) else C 0 6)) := by
  unfold m_X1_attempt
  have e1 := e_reason h hO hc hx hy hp hq (by omega : 10 < n)
  have hw := why_le a c x y
  simp (disch := omega) only [litN, nI_add, pk_mul, pk_sub, nI_negR, nI_negL, nI_negE, nI_negLt, nI_negGe, nI_ltE, nI_leE, nI_eqI, nI_clamp, inB_n, gd_tt, bindS, if_true, if_false, reduceIte, leT, leF, ltT, ltF, eqT, eqF, e1]
  constructor
  · intro h0
    rw [if_neg h0]
  · intro h0
    rw [if_pos h0]
    have hne : c < 3 → x ≠ y := fun h3 e => by
      subst e
      unfold why at h0
      rw [if_neg (by omega), if_neg (by omega)] at h0
      cases hb : (a 0 0).testBit x
      · rw [hb] at h0; simp at h0
      · rw [hb] at h0; simp at h0; omega
    by_cases h5 : c = 5
    · subst h5
      obtain ⟨C', T', t1, t2, t3, t4, t5, t6, t7⟩ := e_train (n := n) (C := C) h hO x y (by omega)
      rw [show nI (dc 5) = nI 46 from rfl, if_pos rfl, t1, bindS]
      refine ⟨_, _, rfl, t2, ?_, ?_, ?_, ?_, ?_⟩
      · simp only [sf_s, t3]
      · simp (disch := omega) only [sf_n]; exact t4
      · simp (disch := omega) only [sf_n]; exact t5
      · simp (disch := omega) only [sf_n]; exact t6
      · simp (disch := omega) only [sf_n]; exact t7
    · obtain ⟨T', t1, t2⟩ := e_perform (n := n) h hO hc h5 hx hy hne hp hq (by omega)
      have hd1 : ¬ nI (dc c) = nI 46 := by rcases (show c = 0 ∨ c = 1 ∨ c = 2 ∨ c = 3 ∨ c = 4 ∨ c = 6 by omega) with rfl | rfl | rfl | rfl | rfl | rfl <;> decide +kernel
      have hg : gn a c = 0 := if_neg h5
      rw [if_neg hd1, t1, bindS, hg, pc_0, tbt_0]
      refine ⟨_, _, rfl, t2, ?_, ?_, ?_, ?_, ?_⟩
      · simp only [sf_s]
      · rw [sf_n (by decide), addZ]
      · rw [sf_n (by decide), addZ]
      · rw [sf_n (by decide), if_neg (fun h => h.1 rfl)]
      · rw [sf_n (by decide), if_neg (fun h => h.1 rfl)]
/-- what an act of the model leaves as it was -/
def SF (S S' : TI) : Prop := (∀ i, ¬ i = 0 → ¬ i = 4 → ¬ i = 5 → S' i = S i) ∧ (∀ j, ¬ j = 0 → ¬ j = 1 → ¬ j = 2 → ¬ j = 15 → ¬ j = 16 → ¬ j = 17 → S' 0 j = S 0 j)
theorem e_night6 (h : RS S a) (hO : OKA a) (x y : Nat) (hn : 100 < n) : ∃ S', m_X6_night n S L = some S' ∧ RS S' (actA a 5 x y) ∧ SF S S' ∧ S' 0 15 = S 0 15 + nI (pc (gone a)) ∧ S' 0 16 = S 0 16 + nI (tbt (actA a 5 x y) (gone a) (actA a 5 x y 0 0)) ∧ S' 0 17 = nI (gone a) := by
  unfold m_X6_night
  have e1 := e_missedIn (L := L) h hO hO.h0 (by omega : 10 < n)
  have hg := gone_lt hO
  have hgd : dif (a 0 2) (mis a (a 0 0)) = gone a := rfl
  have e2 := e_ones (n := n) hg (by omega)
  have hOk' : OKA (actA a 5 x y) := act_ok hO (c := 5) (x := 0) (y := 0) (by omega) (by omega) (by omega) (fun h => by omega)
  have hS1 : RS (sf (sf (sf S 0 (nI (dif (a 0 0) (gone a)))) 2 (nI 0)) 15 (S 0 15 + nI (pc (gone a)))) (actA a 5 x y) := by
    refine h.hdw ?_ ?_ ?_ ?_ ?_ ?_ ?_ ?_ ?_ <;> simp (disch := omega) only [sf_s, sf_n, sf_r, h.h1]
  have e3 := e_tiesBetween (n := n) (L := L) hS1 hOk' hg hOk'.h0 (by omega)
  have h00 : nI (dif (a 0 0) (gone a)) = nI (actA a 5 x y 0 0) := rfl
  rw [← h00] at e3
  simp only [litN, h.h0, h.h2, e1, bindS, nI_andn, hgd, e2, e3]
  refine ⟨_, rfl, ?_, ⟨fun i i1 i2 i3 => ?_, fun j j1 j2 j3 j4 j5 j6 => ?_⟩, ?_, ?_, ?_⟩
  · refine h.hdw ?_ ?_ ?_ ?_ ?_ ?_ ?_ ?_ ?_ <;> simp (disch := omega) only [sf_s, sf_n, sf_r, h.h1]
  · simp (disch := omega) only [sf_r]
  · simp (disch := omega) only [sf_n]
  · simp (disch := omega) only [sf_s, sf_n]
  · simp (disch := omega) only [sf_s, sf_n]
  · simp (disch := omega) only [sf_s]
theorem e_happen (h : RS S a) (hO : OKA a) {c x y : Nat} (hc : c ≤ 6) (hx : x < 10) (hy : y < 10) (hne : c < 3 → x ≠ y) (hn : 100 < n) : ∃ S', m_X6_happen n S L (nI c) (nI x) (nI y) = some S' ∧ RS S' (actA a c x y) ∧ SF S S' ∧ S' 0 15 = S 0 15 + nI (pc (gn a c)) ∧ S' 0 16 = S 0 16 + nI (tbt (actA a c x y) (gn a c) (actA a c x y 0 0)) ∧ S' 0 17 = nI (gn a c) := by
  unfold m_X6_happen
  have h9 := hO.s9 (j := 10 * x + y) (by omega)
  have h17 : RS (sf S 17 (nI 0)) a := by
    refine h.same ?_ ?_ ?_ ?_ ?_ ?_ ?_ ?_ ?_ <;> simp (disch := omega) only [sf_n, sf_r]
  have r4 := h17.r4 (j := 10 * x + y) (by omega)
  have r5 := h17.r5 (j := 10 * x + y) (by omega)
  have frame : ∀ S₁ : TI, (∀ i, ¬ i = 4 → ¬ i = 5 → S₁ i = (sf S 17 (nI 0)) i) → SF S S₁ ∧ S₁ 0 15 = S 0 15 + nI (pc 0) ∧ S₁ 0 16 = S 0 16 + nI 0 ∧ S₁ 0 17 = nI 0 := fun S₁ hF => by
    refine ⟨⟨fun i i1 i2 i3 => ?_, fun j j1 j2 j3 j4 j5 j6 => ?_⟩, ?_, ?_, ?_⟩
    · rw [hF i i2 i3, sf_r i1]
    · rw [hF 0 (by decide) (by decide), sf_n j6]
    · rw [hF 0 (by decide) (by decide), sf_n (by decide), pc_0, addZ]
    · rw [hF 0 (by decide) (by decide), sf_n (by decide), addZ]
    · rw [hF 0 (by decide) (by decide), sf_s]
  have tieCase : ∀ k v, k ≤ 3 → c < 3 → gn a c = 0 → actA a c x y = tieA a x y k v → ∃ S', m_X6_setTie n (sf S 17 (nI 0)) L (nI x) (nI y) (nI k) (nI v) = some S' ∧ RS S' (actA a c x y) ∧ SF S S' ∧ S' 0 15 = S 0 15 + nI (pc (gn a c)) ∧ S' 0 16 = S 0 16 + nI (tbt (actA a c x y) (gn a c) (actA a c x y 0 0)) ∧ S' 0 17 = nI (gn a c) := fun k v hk h3 hg ha => by
    obtain ⟨S', b1, b2, b3⟩ := e_setTie (n := n) (L := L) h17 (k := k) (v := v) hx hy (hne h3)
    obtain ⟨f1, f2, f3, f4⟩ := frame S' b3
    refine ⟨S', b1, by rw [ha]; exact b2, f1, by rw [hg]; exact f2, by rw [hg, tbt_0]; exact f3, by rw [hg]; exact f4⟩
  have hk3 := hO.k3 (j := 10 * x + y) (by omega)
  rcases (show c = 0 ∨ c = 1 ∨ c = 2 ∨ c = 3 ∨ c = 4 ∨ c = 5 ∨ c = 6 by omega) with rfl | rfl | rfl | rfl | rfl | rfl | rfl
  · obtain ⟨S', b1, b2⟩ := tieCase _ _ hk3 (by omega) rfl (show actA a 0 x y = tieA a x y (a 2 (10 * x + y)) (min 9 (a 1 (10 * x + y) + 2)) from rfl)
    refine ⟨S', ?_, b2⟩
    unfold m_X6_meet
    simp (disch := omega) only [litN, nI_add, pk_mul, pk_sub, nI_negR, nI_negL, nI_negE, nI_negLt, nI_negGe, nI_ltE, nI_leE, nI_eqI, nI_clamp, inB_n, gd_tt, bindS, if_true, if_false, reduceIte, leT, leF, ltT, ltF, eqT, eqF, r4, r5]
    by_cases q : a 1 (10 * x + y) + 2 ≤ 9
    · rw [Nat.min_eq_right q] at b1
      rw [if_pos q, b1]
      rfl
    · rw [Nat.min_eq_left (by omega)] at b1
      rw [if_neg q, b1]
      rfl
  · obtain ⟨S', b1, b2⟩ := tieCase _ _ hk3 (by omega) rfl (show actA a 1 x y = tieA a x y (a 2 (10 * x + y)) (a 1 (10 * x + y) - 3) from rfl)
    refine ⟨S', ?_, b2⟩
    unfold m_X6_quarrel
    by_cases q : 3 ≤ a 1 (10 * x + y)
    · simp (disch := omega) only [litN, nI_add, pk_mul, pk_sub, nI_negR, nI_negL, nI_negE, nI_negLt, nI_negGe, nI_ltE, nI_leE, nI_eqI, nI_clamp, inB_n, gd_tt, bindS, if_true, if_false, reduceIte, leT, leF, ltT, ltF, eqT, eqF, r4, r5, b1]
    · have q2 := qr_2 (a 1 (10 * x + y)) (by omega)
      rw [show a 1 (10 * x + y) - 3 = 0 by omega] at b1
      simp (disch := omega) only [litN, nI_add, pk_mul, pk_sub, nI_negR, nI_negL, nI_negE, nI_negLt, nI_negGe, nI_ltE, nI_leE, nI_eqI, nI_clamp, inB_n, gd_tt, bindS, if_true, if_false, reduceIte, leT, leF, ltT, ltF, eqT, eqF, r4, r5, q2, b1]
  · obtain ⟨S', b1, b2⟩ := tieCase 3 9 (by omega) (by omega) rfl rfl
    refine ⟨S', ?_, b2⟩
    simp (disch := omega) only [litN, nI_add, pk_mul, pk_sub, nI_negR, nI_negL, nI_negE, nI_negLt, nI_negGe, nI_ltE, nI_leE, nI_eqI, nI_clamp, inB_n, gd_tt, bindS, if_true, if_false, reduceIte, leT, leF, ltT, ltF, eqT, eqF, b1]
  · simp (disch := omega) only [litN, nI_add, pk_mul, pk_sub, nI_negR, nI_negL, nI_negE, nI_negLt, nI_negGe, nI_ltE, nI_leE, nI_eqI, nI_clamp, inB_n, gd_tt, bindS, if_true, if_false, reduceIte, leT, leF, ltT, ltF, eqT, eqF, nI_bitN, h.h1, nI_xor]
    have hg : gn a 3 = 0 := rfl
    refine ⟨_, rfl, h.hdw ?_ ?_ ?_ ?_ ?_ ?_ ?_ ?_ ?_, ⟨fun i i1 i2 i3 => ?_, fun j j1 j2 j3 j4 j5 j6 => ?_⟩, ?_, ?_, ?_⟩ <;> simp (disch := omega) only [sf_s, sf_n, sf_r, h.h0, h.h2, hg, pc_0, tbt_0, addZ]
  · simp (disch := omega) only [litN, nI_add, pk_mul, pk_sub, nI_negR, nI_negL, nI_negE, nI_negLt, nI_negGe, nI_ltE, nI_leE, nI_eqI, nI_clamp, inB_n, gd_tt, bindS, if_true, if_false, reduceIte, leT, leF, ltT, ltF, eqT, eqF, nI_bitN, h.h2, nI_xor]
    have hg : gn a 4 = 0 := rfl
    refine ⟨_, rfl, h.hdw ?_ ?_ ?_ ?_ ?_ ?_ ?_ ?_ ?_, ⟨fun i i1 i2 i3 => ?_, fun j j1 j2 j3 j4 j5 j6 => ?_⟩, ?_, ?_, ?_⟩ <;> simp (disch := omega) only [sf_s, sf_n, sf_r, h.h0, h.h1, hg, pc_0, tbt_0, addZ]
  · obtain ⟨S', b1, b2, b3, b4, b5, b6⟩ := e_night6 (n := n) (L := L) h17 hO x y hn
    simp (disch := omega) only [litN, nI_add, pk_mul, pk_sub, nI_negR, nI_negL, nI_negE, nI_negLt, nI_negGe, nI_ltE, nI_leE, nI_eqI, nI_clamp, inB_n, gd_tt, bindS, if_true, if_false, reduceIte, leT, leF, ltT, ltF, eqT, eqF, b1]
    refine ⟨S', rfl, b2, ⟨fun i i1 i2 i3 => ?_, fun j j1 j2 j3 j4 j5 j6 => ?_⟩, ?_, ?_, b6⟩
    · rw [b3.1 i i1 i2 i3, sf_r i1]
    · rw [b3.2 j j1 j2 j3 j4 j5 j6, sf_n j6]
    · rw [b4, sf_n (by decide)]; rfl
    · rw [b5, sf_n (by decide)]; rfl
  · obtain ⟨S', b1, b2, b3⟩ := e_month (n := n) (L := L) h17 hO hn
    obtain ⟨f1, f2, f3, f4⟩ := frame S' b3
    simp (disch := omega) only [litN, nI_add, pk_mul, pk_sub, nI_negR, nI_negL, nI_negE, nI_negLt, nI_negGe, nI_ltE, nI_leE, nI_eqI, nI_clamp, inB_n, gd_tt, bindS, if_true, if_false, reduceIte, leT, leF, ltT, ltF, eqT, eqF, b1]
    have hg : gn a 6 = 0 := if_neg (by decide)
    rw [← actA_6 a x y] at b2
    refine ⟨S', rfl, b2, f1, by rw [hg]; exact f2, by rw [hg, tbt_0]; exact f3, by rw [hg]; exact f4⟩
