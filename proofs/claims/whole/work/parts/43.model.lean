/-! THE MODEL's readers, by the abstract town; arguments within bounds -/
variable {n : Nat} {T S : TI} {L : TL} {a : AT}
def inr (x : Int32) (lo hi : Nat) : Bool := decide (nI lo ≤ x ∧ x ≤ nI hi)
theorem inr_T {x : Int32} {lo hi : Nat} (h : inr x lo hi = true) (hl : lo < 2 ^ 31) (hh : hi < 2 ^ 31) : ∃ k, x = nI k ∧ lo ≤ k ∧ k ≤ hi := by
  unfold inr at h
  rw [decide_eq_true_eq] at h
  have h0 : ¬ x < 0 := by
    intro h2
    have h3 := h.1
    rw [Int32.le_iff_toInt_le, nI_toInt hl] at h3
    rw [Int32.lt_iff_toInt_lt] at h2
    have : (0 : Int32).toInt = 0 := by decide
    omega
  obtain ⟨k, hk, rfl⟩ := nI_of h0
  exact ⟨k, rfl, (nI_leI hl hk).mp h.1, (nI_leI hk hh).mp h.2⟩
theorem inr_n {k lo hi : Nat} (hk : k < 2 ^ 31) (hl : lo < 2 ^ 31) (hh : hi < 2 ^ 31) : inr (nI k) lo hi = decide (lo ≤ k ∧ k ≤ hi) := by
  unfold inr
  simp only [nI_leE hl hk, nI_leE hk hh]
theorem inr_c {x : Int32} {hi : Nat} (hh : hi < 2 ^ 31) : inr x 0 hi = true ∨ inr x 0 hi = false := by cases inr x 0 hi <;> simp
theorem e_within {x : Int32} {lo hi : Nat} : m_X5_isWithin n x (nI lo) (nI hi) = some (nI (inr x lo hi).toNat) := by
  unfold m_X5_isWithin inr
  by_cases h1 : x < nI lo
  · rw [if_pos h1]
    simp [Int32.not_le.mpr h1]; rfl
  · rw [if_neg h1]
    by_cases h2 : nI hi < x
    · rw [if_pos h2]
      simp [Int32.not_le.mpr h2]; rfl
    · rw [if_neg h2]
      simp [Int32.not_lt.mp h1, Int32.not_lt.mp h2]; rfl
theorem e_isOne {x : Int32} : m_X5_isOne n x = some (nI (inr x 0 9).toNat) := by
  unfold m_X5_isOne inr
  by_cases h1 : x < 0
  · rw [if_pos h1]
    simp [show ¬ nI 0 ≤ x from Int32.not_le.mpr h1]; rfl
  · rw [if_neg h1]
    obtain ⟨k, hk, rfl⟩ := nI_of h1
    simp (disch := omega) only [litN, nI_leE]
    by_cases h2 : 10 ≤ k
    · rw [if_pos h2]
      simp [show ¬ k ≤ 9 by omega]
    · rw [if_neg h2]
      simp [show k ≤ 9 by omega]
theorem e_isFlag {x : Int32} : m_X5_isFlag n x = some (nI (inr x 0 1).toNat) := by
  unfold m_X5_isFlag
  by_cases h0 : x = 0
  · subst h0; rfl
  by_cases h1 : x = 1
  · subst h1; rfl
  rw [if_neg h0, if_neg h1]
  cases h : inr x 0 1
  · rfl
  · exfalso
    obtain ⟨k, rfl, -, h2⟩ := inr_T h (by decide) (by decide)
    rcases (show k = 0 ∨ k = 1 by omega) with rfl | rfl
    · exact h0 rfl
    · exact h1 rfl
theorem litL {k : Nat} : (@OfNat.ofNat Int64 k _) = lN k := Eq.trans rfl rfl
theorem e_in {x : Int32} {lo hi : Nat} (hl : lo < 2 ^ 31) (hh : hi < 2 ^ 31) : m_X6_in n x.toInt64 (lN lo) (lN hi) = some (nI (inr x lo hi).toNat) := by
  have wl : ∀ {k : Nat}, k < 2 ^ 31 → (x.toInt64 < lN k ↔ x < nI k) := fun {k} hk => by
    rw [Int64.lt_iff_toInt_lt, Int32.lt_iff_toInt_lt, Int32.toInt_toInt64, nI_toInt hk, lN_toInt hk]
  have wg : ∀ {k : Nat}, k < 2 ^ 31 → (lN k < x.toInt64 ↔ nI k < x) := fun {k} hk => by
    rw [Int64.lt_iff_toInt_lt, Int32.lt_iff_toInt_lt, Int32.toInt_toInt64, nI_toInt hk, lN_toInt hk]
  unfold m_X6_in
  rw [← e_within (n := n)]
  unfold m_X5_isWithin
  simp only [lg_cmp_lt, lg_cmp_gt, wl hl, wg hh]
theorem e_isOne6 {x : Int32} : m_X6_isOne n x = some (nI (inr x 0 9).toNat) := by
  unfold m_X6_isOne
  simp (disch := omega) only [litL, e_in, bindS, gd_z]
theorem e_hereS (h : RS S a) (hO : OKA a) {x : Int32} : m_X6_isHere n S L x = some (nI (inr x 0 9 && (a 0 0).testBit x.toNatClampNeg).toNat) := by
  unfold m_X6_isHere
  rw [e_isOne6, bindS]
  cases hi : inr x 0 9
  · rfl
  · obtain ⟨k, rfl, -, hk⟩ := inr_T hi (by decide) (by decide)
    have e1 := e_has (n := n) (s := a 0 0) (k := k) hO.h0 (by omega)
    simp (disch := omega) only [litN, nI_add, pk_mul, pk_sub, nI_negR, nI_negL, nI_negE, nI_negLt, nI_negGe, nI_ltE, nI_leE, nI_eqI, nI_clamp, inB_n, gd_tt, bindS, if_true, if_false, reduceIte, leT, leF, ltT, ltF, eqT, eqF, e1, h.h0, Bool.toNat_true]
    cases (a 0 0).testBit k <;> rfl
theorem e_hereTx (h : RT T a) (hO : OKA a) {x : Int32} : m_X4_isHere n T x = some (nI (inr x 0 9 && (a 0 0).testBit x.toNatClampNeg).toNat) := by
  cases hi : inr x 0 9
  · have := e_isOne (n := 0) (x := x)
    rw [hi] at this
    unfold m_X5_isOne at this
    unfold m_X4_isHere
    by_cases h1 : x < 0
    · rw [if_pos h1]; rfl
    · rw [if_neg h1] at this ⊢
      by_cases h2 : 10 ≤ x
      · rw [if_pos h2]; rfl
      · rw [if_neg h2] at this
        exact absurd this (by decide)
  · obtain ⟨k, rfl, -, hk⟩ := inr_T hi (by decide) (by decide)
    rw [e_hereT h hO (by omega), nI_clamp (by omega), Bool.true_and]
theorem cb_dz (hO : OKA a) {x : Nat} (hx : x < 10) : cb a x x = false := by
  have := hO.dz hx
  have := hO.l1
  unfold cb
  simp [show ¬ a 3 1 ≤ a 1 (10 * x + x) by omega]
theorem e_counts (h : RS S a) (hO : OKA a) {x y : Nat} (hx : x < 10) (hy : y < 10) : m_X6_counts n S L (nI x) (nI y) = some (nI (cb a x y).toNat) := by
  unfold m_X6_counts
  by_cases hxy : x = y
  · subst hxy
    rw [if_pos rfl, cb_dz hO hx]; rfl
  · have h1 := h.r4 (j := 10 * x + y) (by omega)
    have h2 := h.r5 (j := 10 * x + y) (by omega)
    have h3 := h.r6 (j := 1) (by omega)
    have h4 := h.r6 (j := 2) (by omega)
    have h9 := hO.s9 (j := 10 * x + y) (by omega)
    have h5 := hO.k3 (j := 10 * x + y) (by omega)
    have hl1 := hO.l1
    have hl2 := hO.l2
    simp (disch := omega) only [litN, nI_add, pk_mul, pk_sub, nI_negR, nI_negL, nI_negE, nI_negLt, nI_negGe, nI_ltE, nI_leE, nI_eqI, nI_clamp, inB_n, gd_tt, bindS, if_true, if_false, reduceIte, leT, leF, ltT, ltF, eqT, eqF, h1, h2, h3, h4]
    unfold cb
    by_cases g1 : a 1 (10 * x + y) < a 3 1
    · simp [g1, show ¬ a 3 1 ≤ a 1 (10 * x + y) by omega]
    · by_cases g2 : a 2 (10 * x + y) = 3
      · by_cases g3 : a 3 2 = 1
        · simp [g1, g2, g3, show a 3 1 ≤ a 1 (10 * x + y) by omega]
        · simp [g1, g2, g3, show a 3 1 ≤ a 1 (10 * x + y) by omega]
      · simp [g1, g2, show a 3 1 ≤ a 1 (10 * x + y) by omega]
theorem e_tiesCount (h : RS S a) (hO : OKA a) {s x : Nat} (hs : s < 1024) (hx : x < 10) (hn : 10 < n) : m_X6_tiesThatCount n S L (nI s) (nI x) = some (nI (cn a s x)) := by
  unfold m_X6_tiesThatCount cn
  refine loop_cnt (b_X6_tiesThatCount_5 n S L (nI s) (nI x)) (fun y => s.testBit y && cb a x y) 10 _ (fun k hk kk => ?_) (fun kk => ?_) n hn
  · unfold b_X6_tiesThatCount_5
    have e1 := e_has (n := n) (s := s) (k := k) hs (by omega)
    have e2 := e_counts (n := n) (L := L) h hO hx hk
    simp (disch := omega) only [litN, nI_add, pk_mul, pk_sub, nI_negR, nI_negL, nI_negE, nI_negLt, nI_negGe, nI_ltE, nI_leE, nI_eqI, nI_clamp, inB_n, gd_tt, bindS, if_true, if_false, reduceIte, leT, leF, ltT, ltF, eqT, eqF, e1, e2, nI_f0, Nat.add_zero]
    cases s.testBit k
    · simp
    · cases cb a x k <;> simp
  · unfold b_X6_tiesThatCount_5
    simp (disch := omega) only [litN, nI_add, pk_mul, pk_sub, nI_negR, nI_negL, nI_negE, nI_negLt, nI_negGe, nI_ltE, nI_leE, nI_eqI, nI_clamp, inB_n, gd_tt, bindS, if_true, if_false, reduceIte, leT, leF, ltT, ltF, eqT, eqF]
theorem e_dogOf (h : RS S a) (hO : OKA a) {x : Nat} (hx : x < 10) : m_X6_dogOf n S L (nI x) = some (nI (dg a x)) := by
  unfold m_X6_dogOf dg
  have e1 := e_has (n := n) (s := a 0 1) (k := x) hO.h1 (by omega)
  have h3 := h.r6 (j := 3) (by omega)
  have hl3 := hO.l3
  simp (disch := omega) only [litN, nI_add, pk_mul, pk_sub, nI_negR, nI_negL, nI_negE, nI_negLt, nI_negGe, nI_ltE, nI_leE, nI_eqI, nI_clamp, inB_n, gd_tt, bindS, if_true, if_false, reduceIte, leT, leF, ltT, ltF, eqT, eqF, e1, h3, h.h1, nI_f0]
  by_cases g3 : a 3 3 = 1
  · cases (a 0 1).testBit x <;> simp [g3]
  · simp [g3]
theorem e_isMissedIn (h : RS S a) (hO : OKA a) {s x : Nat} (hs : s < 1024) (hx : x < 10) (hn : 10 < n) : m_X6_isMissedIn n S L (nI s) (nI x) = some (nI (ms a s x).toNat) := by
  unfold m_X6_isMissedIn ms
  have e1 := e_tiesCount (L := L) h hO hs hx hn
  have e2 := e_dogOf (n := n) (L := L) h hO hx
  have h0 := h.r6 (j := 0) (by omega)
  have hl0 := hO.l0
  have hc := cn_le a s x
  have hd := dg_le a x
  simp (disch := omega) only [litN, nI_add, pk_mul, pk_sub, nI_negR, nI_negL, nI_negE, nI_negLt, nI_negGe, nI_ltE, nI_leE, nI_eqI, nI_clamp, inB_n, gd_tt, bindS, if_true, if_false, reduceIte, leT, leF, ltT, ltF, eqT, eqF, e1, e2, h0]
  by_cases g : cn a s x + dg a x < a 3 0
  · simp [g, show ¬ a 3 0 ≤ cn a s x + dg a x by omega]
  · simp [g, show a 3 0 ≤ cn a s x + dg a x by omega]
theorem e_missedIn (h : RS S a) (hO : OKA a) {s : Nat} (hs : s < 1024) (hn : 10 < n) : m_X6_missedIn n S L (nI s) = some (nI (mis a s)) := by
  unfold m_X6_missedIn mis
  refine loop_bits (b_X6_missedIn_4 n S L (nI s)) (fun x => s.testBit x && ms a s x) 10 _ (fun k hk kk => ?_) (fun kk => ?_) n hn
  · unfold b_X6_missedIn_4
    have e1 := e_has (n := n) (s := s) (k := k) hs (by omega)
    have e2 := e_isMissedIn (L := L) h hO hs hk hn
    simp (disch := omega) only [litN, nI_add, pk_mul, pk_sub, nI_negR, nI_negL, nI_negE, nI_negLt, nI_negGe, nI_ltE, nI_leE, nI_eqI, nI_clamp, inB_n, gd_tt, bindS, if_true, if_false, reduceIte, leT, leF, ltT, ltF, eqT, eqF, e1, e2, nI_f0, nI_bitN, nI_or, Nat.or_zero]
    cases s.testBit k
    · simp
    · cases ms a s k <;> simp
  · unfold b_X6_missedIn_4
    simp (disch := omega) only [litN, nI_add, pk_mul, pk_sub, nI_negR, nI_negL, nI_negE, nI_negLt, nI_negGe, nI_ltE, nI_leE, nI_eqI, nI_clamp, inB_n, gd_tt, bindS, if_true, if_false, reduceIte, leT, leF, ltT, ltF, eqT, eqF]
theorem e_canFade (h : RS S a) (hO : OKA a) {x y : Nat} (hx : x < 10) (hy : y < 10) : m_X6_canFade n S L (nI x) (nI y) = some (nI (decide (x < y) && fd a x y).toNat) := by
  unfold m_X6_canFade fd
  have e1 := e_has (n := n) (s := a 0 0) (k := x) hO.h0 (by omega)
  have e2 := e_has (n := n) (s := a 0 0) (k := y) hO.h0 (by omega)
  have h1 := h.r4 (j := 10 * x + y) (by omega)
  have h2 := h.r5 (j := 10 * x + y) (by omega)
  have h9 := hO.s9 (j := 10 * x + y) (by omega)
  have h5 := hO.k3 (j := 10 * x + y) (by omega)
  simp (disch := omega) only [litN, nI_add, pk_mul, pk_sub, nI_negR, nI_negL, nI_negE, nI_negLt, nI_negGe, nI_ltE, nI_leE, nI_eqI, nI_clamp, inB_n, gd_tt, bindS, if_true, if_false, reduceIte, leT, leF, ltT, ltF, eqT, eqF, e1, e2, h1, h2, h.h0, nI_f0]
  by_cases g : y ≤ x
  · simp [g, show ¬ x < y by omega]
  rw [if_neg g]
  cases (a 0 0).testBit x
  · simp
  cases (a 0 0).testBit y
  · simp
  by_cases hk : a 2 (10 * x + y) = 3
  · simp [hk]
  by_cases hz : a 1 (10 * x + y) ≤ 0
  · simp [hk, show a 1 (10 * x + y) = 0 by omega]
  · simp [hk, show ¬ a 1 (10 * x + y) = 0 by omega, show 0 < a 1 (10 * x + y) by omega, show x < y by omega]
theorem e_tiesBetween (h : RS S a) (hO : OKA a) {s t : Nat} (hs : s < 1024) (ht : t < 1024) (hn : 100 < n) : m_X6_tiesBetween n S L (nI s) (nI t) = some (nI (tbt a s t)) := by
  unfold m_X6_tiesBetween tbt
  refine loop_for (b_X6_tiesBetween_5 n S (nI s) (nI t)) (fun e => (nI (sm (tq a s t) e), nI e)) 100 _ (fun e he kk => ?_) (fun kk => ?_) n hn
  · unfold b_X6_tiesBetween_5
    have e1 := e_has (n := n) (s := s) (k := e / 10) hs (by omega)
    have e2 := e_has (n := n) (s := t) (k := e % 10) ht (by omega)
    have h1 := h.r4 (j := e) he
    simp (disch := omega) only [litN, nI_add, pk_mul, pk_sub, nI_negR, nI_negL, nI_negE, nI_negLt, nI_negGe, nI_ltE, nI_leE, nI_eqI, nI_clamp, inB_n, gd_tt, bindS, if_true, if_false, reduceIte, leT, leF, ltT, ltF, eqT, eqF, pk_div, pk_remJ, e1, e2, h1, nI_f0, Nat.add_zero]
    rw [sm_s]
    unfold tq
    cases s.testBit (e / 10)
    · simp
    cases t.testBit (e % 10)
    · simp
    · simp
  · unfold b_X6_tiesBetween_5
    simp (disch := omega) only [litN, nI_add, pk_mul, pk_sub, nI_negR, nI_negL, nI_negE, nI_negLt, nI_negGe, nI_ltE, nI_leE, nI_eqI, nI_clamp, inB_n, gd_tt, bindS, if_true, if_false, reduceIte, leT, leF, ltT, ltF, eqT, eqF]
theorem e_yesBy (h : RS S a) (hO : OKA a) {x : Nat} (hx : x < 10) (hn : 10 < n) : m_X6_yesBy n S L (nI x) = some (nI (tied a x (a 3 1))) := by
  unfold m_X6_yesBy tied
  refine loop_bits (b_X6_yesBy_4 n S (nI x)) (fun y => decide (a 3 1 ≤ a 1 (10 * x + y))) 10 _ (fun k hk kk => ?_) (fun kk => ?_) n hn
  · unfold b_X6_yesBy_4
    have h1 := h.r4 (j := 10 * x + k) (by omega)
    have h3 := h.r6 (j := 1) (by omega)
    have h9 := hO.s9 (j := 10 * x + k) (by omega)
    have hl1 := hO.l1
    simp (disch := omega) only [litN, nI_add, pk_mul, pk_sub, nI_negR, nI_negL, nI_negE, nI_negLt, nI_negGe, nI_ltE, nI_leE, nI_eqI, nI_clamp, inB_n, gd_tt, bindS, if_true, if_false, reduceIte, leT, leF, ltT, ltF, eqT, eqF, h1, h3, nI_bitN, nI_or, Nat.or_zero, decide_eq_true_eq]
    by_cases g : k = x
    · subst g
      have := hO.dz hk
      rw [if_pos rfl, if_neg (by omega)]
    · rw [if_neg g]
      by_cases g2 : a 1 (10 * x + k) < a 3 1
      · rw [if_pos g2, if_neg (by omega)]
      · rw [if_neg g2, if_pos (by omega)]
  · unfold b_X6_yesBy_4
    simp (disch := omega) only [litN, nI_add, pk_mul, pk_sub, nI_negR, nI_negL, nI_negE, nI_negLt, nI_negGe, nI_ltE, nI_leE, nI_eqI, nI_clamp, inB_n, gd_tt, bindS, if_true, if_false, reduceIte, leT, leF, ltT, ltF, eqT, eqF]
