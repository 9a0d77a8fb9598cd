/-! NUMBER: the last digit tells all -/
variable {n : Nat} {X T I J P C V F S S' : TI} {A L : TL} {a : AT}
theorem FQ.up {i : Nat} {f : Nat → Int32} (hi : i = 12 ∨ i = 13 ∨ i = 14 ∨ i = 19 ∨ i = 25 ∨ i = 26 ∨ i = 28) : FQ S (upA S i f) := by
  refine ⟨⟨⟨⟨?_, ?_⟩, ?_, ?_⟩, ?_, ?_, ?_, ?_⟩, ⟨?_, ?_, ?_⟩, ?_, ?_⟩ <;> simp (disch := omega) only [upA_n]
theorem e_bestTake {S₁ : TI} {m : Nat} (hm : m < 1000) (h : ∀ j, j < m → S₁ 28 j = nI (j % 10)) (hn : 10 < n) : m_X6_bestTake n S₁ L (nI m) = some (nI (m % 10)) := by
  unfold m_X6_bestTake
  rw [show nI (m % 10) = nI (if 9 - 9 < m % 10 then m % 10 else 0) by
    by_cases q : 9 - 9 < m % 10
    · rw [if_pos q]
    · rw [if_neg q, show m % 10 = 0 by omega]]
  have h0 : ((0 : Int32), (9 : Int32)) = (nI (if 9 - 0 < m % 10 then m % 10 else 0), nI (9 - 0)) := by
    rw [if_neg (by omega)]
    rfl
  rw [h0]
  refine loop_for (b_X6_bestTake_5 n S₁ (nI m)) (fun j => (nI (if 9 - j < m % 10 then m % 10 else 0), nI (9 - j))) 9 _ (fun j hj kk => ?_) (fun kk => ?_) n (by omega)
  · unfold b_X6_bestTake_5
    obtain ⟨d, hd⟩ : ∃ d, d = 9 - j := ⟨_, rfl⟩
    have hd1 : 1 ≤ d := by omega
    have hd9 : d ≤ 9 := by omega
    rw [← hd, show 9 - (j + 1) = d - 1 by omega]
    simp (disch := omega) only [litN, nI_add, pk_mul, pk_sub, nI_negR, nI_negL, nI_negE, nI_negLt, nI_negGe, nI_ltE, nI_leE, nI_eqI, nI_clamp, inB_n, gd_tt, bindS, if_true, if_false, reduceIte, leT, leF, ltT, ltF, eqT, eqF, pk_div, pk_remJ, nI_dec]
    by_cases q1 : m % 10 = d
    · have h1 := h (m - d) (by omega)
      rw [show (m - d) % 10 = 0 by omega] at h1
      rw [if_pos q1]
      simp (disch := omega) only [litN, nI_add, pk_mul, pk_sub, nI_negR, nI_negL, nI_negE, nI_negLt, nI_negGe, nI_ltE, nI_leE, nI_eqI, nI_clamp, inB_n, gd_tt, bindS, if_true, if_false, reduceIte, leT, leF, ltT, ltF, eqT, eqF, h1, show d - 1 < m % 10 by omega]
      rw [q1]
    · rw [if_neg q1]
      have h2 : d ≤ m → (S₁ 28 (m - d) = nI 0) = False := fun hle => by
        rw [h (m - d) (by omega), nI_eqI (by omega) (by omega)]
        exact eq_false (by omega)
      have h3 : (if d - 1 < m % 10 then m % 10 else 0) = (if d < m % 10 then m % 10 else 0) := by
        by_cases q : d < m % 10
        · rw [if_pos q, if_pos (by omega)]
        · rw [if_neg q, if_neg (by omega)]
      rw [h3]
      by_cases q2 : m / 10 % 10 = d
      · have hle : d ≤ m := by omega
        rw [if_pos q2]
        simp (disch := omega) only [litN, nI_add, pk_mul, pk_sub, nI_negR, nI_negL, nI_negE, nI_negLt, nI_negGe, nI_ltE, nI_leE, nI_eqI, nI_clamp, inB_n, gd_tt, bindS, if_true, if_false, reduceIte, leT, leF, ltT, ltF, eqT, eqF, h2 hle]
      · rw [if_neg q2]
        by_cases q3 : m / 100 = d
        · have hle : d ≤ m := by omega
          rw [if_pos q3]
          simp (disch := omega) only [litN, nI_add, pk_mul, pk_sub, nI_negR, nI_negL, nI_negE, nI_negLt, nI_negGe, nI_ltE, nI_leE, nI_eqI, nI_clamp, inB_n, gd_tt, bindS, if_true, if_false, reduceIte, leT, leF, ltT, ltF, eqT, eqF, h2 hle]
        · rw [if_neg q3]
  · unfold b_X6_bestTake_5
    simp (disch := omega) only [litN, nI_add, pk_mul, pk_sub, nI_negR, nI_negL, nI_negE, nI_negLt, nI_negGe, nI_ltE, nI_leE, nI_eqI, nI_clamp, inB_n, gd_tt, bindS, if_true, if_false, reduceIte, leT, leF, ltT, ltF, eqT, eqF]
theorem t_number (g : INV X T I J P S) (hn : 1100 < n) (x1 x2 : Int32) : ∃ v S', m_X5_number n X T I J P C V F A x1 x2 = some v ∧ m_X6_number n S L x1 x2 = some (v, S') ∧ INV X T I J P S' := by
  unfold m_X5_number m_X6_number
  simp only [litN, litL, e_isFlag]
  simp only [e_within]
  simp (disch := omega) only [e_in]
  simp only [bindS, nI_f0]
  cases i1 : inr x1 0 999
  · exact ⟨_, _, rfl, rfl, g⟩
  cases i2 : inr x2 0 1
  · exact ⟨_, _, rfl, rfl, g⟩
  obtain ⟨m, rfl, -, hm⟩ := inr_T i1 (by decide) (by decide)
  obtain ⟨w, rfl, -, hw⟩ := inr_T i2 (by decide) (by decide)
  have key : ∃ S', loopF (b_X6_number_27 n L (nI m) (nI w)) n (nI 0, S) = some (if w = 0 then nI (if m % 10 = 0 then 0 else 1) else if m % 10 = 0 then -nI 6 else nI (m % 10), S') ∧ FQ S S' := by
    refine loop_inv (b_X6_number_27 n L (nI m) (nI w)) (fun k s => s.1 = nI k ∧ FQ S s.2 ∧ ∀ j, j < k → s.2 28 j = nI (j % 10)) (m + 1) (fun o => ∃ S', o = some (if w = 0 then nI (if m % 10 = 0 then 0 else 1) else if m % 10 = 0 then -nI 6 else nI (m % 10), S') ∧ FQ S S') (fun k hk s hs kk => ?_) (fun s hs kk => ?_) _ n ⟨rfl, FQ.rfl, fun j hj => absurd hj (Nat.not_lt_zero _)⟩ (by omega)
    · left
      obtain ⟨h1, h2, h3⟩ := hs
      have e1 := e_bestTake (n := n) (L := L) (by omega : k < 1000) h3 (by omega)
      unfold b_X6_number_27
      simp (disch := omega) only [litN, nI_add, pk_mul, pk_sub, nI_negR, nI_negL, nI_negE, nI_negLt, nI_negGe, nI_ltE, nI_leE, nI_eqI, nI_clamp, inB_n, gd_tt, bindS, if_true, if_false, reduceIte, leT, leF, ltT, ltF, eqT, eqF, h1, e1]
      refine ⟨_, rfl, rfl, h2.trans (FQ.up (by omega)), fun j hj => ?_⟩
      simp only [upA_s, upd_v]
      by_cases q : j = k
      · rw [if_pos q, q]
      · rw [if_neg q]
        exact h3 j (by omega)
    · obtain ⟨h1, h2, h3⟩ := hs
      have h4 := h3 m (by omega)
      unfold b_X6_number_27
      simp (disch := omega) only [litN, nI_add, pk_mul, pk_sub, nI_negR, nI_negL, nI_negE, nI_negLt, nI_negGe, nI_ltE, nI_leE, nI_eqI, nI_clamp, inB_n, gd_tt, bindS, if_true, if_false, reduceIte, leT, leF, ltT, ltF, eqT, eqF, h1, h4]
      refine ⟨s.2, ?_, h2⟩
      have hw2 : w = 0 ∨ w = 1 := by omega
      by_cases q : m % 10 = 0
      · simp only [q, Nat.le_refl, if_true]
        split <;> rfl
      · simp only [q, show ¬ m % 10 ≤ 0 by omega, if_false]
        split <;> rfl
  obtain ⟨S', k1, k2⟩ := key
  refine ⟨_, S', ?_, k1, k2.inv g⟩
  simp (disch := omega) only [litN, nI_add, pk_mul, pk_sub, nI_negR, nI_negL, nI_negE, nI_negLt, nI_negGe, nI_ltE, nI_leE, nI_eqI, nI_clamp, inB_n, gd_tt, bindS, if_true, if_false, reduceIte, leT, leF, ltT, ltF, eqT, eqF, pk_remJ, Bool.true_eq_false]
  by_cases q : m % 10 = 0
  · simp only [q, if_true]
    split <;> rfl
  · simp only [q, if_false]
    split <;> rfl
