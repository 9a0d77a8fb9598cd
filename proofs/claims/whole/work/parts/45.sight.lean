/-! WHO FITS ALL THAT WAS HEARD; whom to ring next -/
variable {n : Nat} {X T I J P C V F S S' : TI} {A L : TL} {a : AT}
def fit (a : AT) : Nat → Nat
  | 0 => 1023
  | k + 1 => if (a 0 4).testBit k then fit a k &&& tied a (a 4 k) (a 3 1) else dif (fit a k) (tied a (a 4 k) (a 3 1))
theorem fit_lt (a : AT) : ∀ k, fit a k < 1024
  | 0 => show 1023 < 1024 by decide
  | k + 1 => by
    have h := fit_lt a k
    unfold fit
    split
    · exact and_lt h
    · exact dif_lt h
theorem fit_s (a : AT) (k : Nat) : fit a (k + 1) = if (a 0 4).testBit k then fit a k &&& tied a (a 4 k) (a 3 1) else dif (fit a k) (tied a (a 4 k) (a 3 1)) := rfl
theorem and_dif {f t : Nat} (hf : f < 1024) : f &&& dif 1023 t = dif f t := tb_ext (and_lt hf) (dif_lt hf) (fun i hi => by
  rw [Nat.testBit_and, dif_tb, dif_tb]
  have : (1023 : Nat).testBit i = true := (by decide : ∀ i, i < 10 → (1023 : Nat).testBit i = true) i hi
  rw [this, Bool.true_and])
theorem e_fitting (h : RT T a) (hO : OKA a) (hn : 10 < n) : m_X4_fitting n T = some (nI (fit a (a 0 3))) := by
  unfold m_X4_fitting
  have h3 := hO.h3
  have hl1 := hO.l1
  refine loop_for (b_X4_fitting_6 n T) (fun k => (nI (fit a k), nI k)) (a 0 3) _ (fun k hk kk => ?_) (fun kk => ?_) n (by omega)
  · unfold b_X4_fitting_6
    have e1 := e_rule (n := n) h (k := 1) (by omega)
    have h9 := h.r9 hk
    have hr := hO.hr hk
    have e2 := e_tied h hO hr hl1.2 hn
    have e3 := e_holds (n := n) (s := a 0 4) (k := k) hO.h4 (by omega)
    simp (disch := omega) only [litN, nI_add, pk_mul, pk_sub, nI_negR, nI_negL, nI_negE, nI_negLt, nI_negGe, nI_ltE, nI_leE, nI_eqI, nI_clamp, inB_n, gd_tt, bindS, if_true, if_false, reduceIte, leT, leF, ltT, ltF, eqT, eqF, h.h3, h.h4, h9, e1, e2, e3, nI_f0, nI_andn]
    rw [fit_s, nI_and]
    cases (a 0 4).testBit k <;> rfl
  · unfold b_X4_fitting_6
    simp (disch := omega) only [litN, nI_add, pk_mul, pk_sub, nI_negR, nI_negL, nI_negE, nI_negLt, nI_negGe, nI_ltE, nI_leE, nI_eqI, nI_clamp, inB_n, gd_tt, bindS, if_true, if_false, reduceIte, leT, leF, ltT, ltF, eqT, eqF, h.h3]
theorem e_who (h : RS S a) (hO : OKA a) (hn : 10 < n) : m_X6_who n S L = some (nI (fit a (a 0 3))) := by
  unfold m_X6_who
  have h3 := hO.h3
  refine loop_for (b_X6_who_6 n S L) (fun k => (nI (fit a k), nI k)) (a 0 3) _ (fun k hk kk => ?_) (fun kk => ?_) n (by omega)
  · unfold b_X6_who_6
    have h7 := h.r7 hk
    have h8 := h.r8 hk
    have hr := hO.hr hk
    have e2 := e_yesBy (L := L) h hO hr hn
    simp (disch := omega) only [litN, nI_add, pk_mul, pk_sub, nI_negR, nI_negL, nI_negE, nI_negLt, nI_negGe, nI_ltE, nI_leE, nI_eqI, nI_clamp, inB_n, gd_tt, bindS, if_true, if_false, reduceIte, leT, leF, ltT, ltF, eqT, eqF, h.h3, h7, h8, e2, nI_f1, nI_andn]
    rw [fit_s, nI_and, nI_and, and_dif (fit_lt a k)]
    cases (a 0 4).testBit k <;> rfl
  · unfold b_X6_who_6
    simp (disch := omega) only [litN, nI_add, pk_mul, pk_sub, nI_negR, nI_negL, nI_negE, nI_negLt, nI_negGe, nI_ltE, nI_leE, nI_eqI, nI_clamp, inB_n, gd_tt, bindS, if_true, if_false, reduceIte, leT, leF, ltT, ltF, eqT, eqF, h.h3]
theorem t_who (g : INV X T I J P S) (hn : 10 < n) : ∃ v, m_X5_who n X T I J P C V F A = some v ∧ m_X6_who n S L = some v := by
  obtain ⟨a, hO, hT, hS⟩ := g.1
  unfold m_X5_who
  rw [e_fitting hT hO hn, e_who hS hO hn, bindS]
  exact ⟨_, rfl, rfl⟩
def lm (a : AT) (f x : Nat) : Nat := max (pc (f &&& tied a x (a 3 1))) (pc (dif f (tied a x (a 3 1))))
theorem lm_le (a : AT) (f x : Nat) : lm a f x ≤ 10 := Nat.max_le.mpr ⟨pc_le _, pc_le _⟩
theorem nI_max {p q : Nat} (hp : p < 2 ^ 31) (hq : q < 2 ^ 31) : (if nI p < nI q then nI q else nI p) = nI (max p q) := by
  simp only [nI_ltE hp hq]
  by_cases h : p < q
  · rw [if_pos h, Nat.max_eq_right (by omega)]
  · rw [if_neg h, Nat.max_eq_left (by omega)]
theorem e_left (h : RT T a) (hO : OKA a) {x f : Nat} (hx : x < 10) (hf : f < 1024) (hn : 10 < n) : m_X4_leftAtMost n T (nI x) (nI f) = some (nI (lm a f x)) := by
  unfold m_X4_leftAtMost lm
  have e1 := e_rule (n := n) h (k := 1) (by omega)
  have e2 := e_tied h hO hx hO.l1.2 hn
  have e3 := e_bcA (n := n) (t := tied a x (a 3 1)) hf
  have e4 := e_bc (n := n) (s := dif f (tied a x (a 3 1))) (dif_lt hf)
  have p1 := pc_le (f &&& tied a x (a 3 1))
  have p2 := pc_le (dif f (tied a x (a 3 1)))
  simp only [litN, e1, bindS, e2, nI_andn, e3, e4]
  rw [nI_max (by omega) (by omega)]
def bst (a : AT) (f : Nat) : Nat → Nat
  | 0 => 0
  | k + 1 => if lm a f (k + 1) < lm a f (bst a f k) then k + 1 else bst a f k
theorem bst_le (a : AT) (f : Nat) : ∀ k, bst a f k ≤ k
  | 0 => Nat.le_refl _
  | k + 1 => by
    have := bst_le a f k
    unfold bst
    split <;> omega
theorem e_lm (h : RS S a) (hO : OKA a) {x f : Nat} (hx : x < 10) (hf : f < 1024) (hn : 10 < n) : (m_X6_yesBy n S L (nI x)).bind (fun u45 => (m_X6_ones n (nI f &&& u45)).bind fun u49 => (m_X6_ones n (nI f)).bind fun u57 => m_X6_more n u49 (u57 - u49)) = some (nI (lm a f x)) := by
  have e2 := e_yesBy (L := L) h hO hx hn
  have e3 := e_onesA (n := n) (t := tied a x (a 3 1)) hf hn
  have e4 := e_ones (n := n) hf hn
  have p1 := pc_le (f &&& tied a x (a 3 1))
  have p2 := pc_le (dif f (tied a x (a 3 1)))
  have p3 := pc_split f (tied a x (a 3 1))
  simp (disch := omega) only [litN, nI_add, pk_mul, pk_sub, nI_negR, nI_negL, nI_negE, nI_negLt, nI_negGe, nI_ltE, nI_leE, nI_eqI, nI_clamp, inB_n, gd_tt, bindS, if_true, if_false, reduceIte, leT, leF, ltT, ltF, eqT, eqF, e2, e3, e4]
  unfold m_X6_more lm
  rw [show pc f - pc (f &&& tied a x (a 3 1)) = pc (dif f (tied a x (a 3 1))) by omega]
  simp (disch := omega) only [nI_leE]
  by_cases g : pc (f &&& tied a x (a 3 1)) ≤ pc (dif f (tied a x (a 3 1)))
  · rw [if_pos g, Nat.max_eq_right g]
  · rw [if_neg g, Nat.max_eq_left (by omega)]
theorem t_ring (g : INV X T I J P S) (hn : 10 < n) (x1 : Int32) : ∃ v, m_X5_ring n X T I J P C V F A x1 = some v ∧ m_X6_ring n S L x1 = some v := by
  obtain ⟨a, hO, hT, hS⟩ := g.1
  unfold m_X5_ring m_X6_ring
  simp only [litN, litL, e_isFlag]
  simp (disch := omega) only [e_in]
  simp only [bindS, nI_f0, e_fitting hT hO hn, e_who hS hO hn]
  cases i1 : inr x1 0 1
  · exact ⟨_, rfl, rfl⟩
  obtain ⟨w, rfl, -, hw⟩ := inr_T i1 (by decide) (by decide)
  have hf := fit_lt a (a 0 3)
  generalize fit a (a 0 3) = f at *
  by_cases hz : f = 0
  · subst hz
    simp only [Bool.true_eq_false, if_false, if_true]
    exact ⟨_, rfl, rfl⟩
  simp (disch := omega) only [litN, nI_add, pk_mul, pk_sub, nI_negR, nI_negL, nI_negE, nI_negLt, nI_negGe, nI_ltE, nI_leE, nI_eqI, nI_clamp, inB_n, gd_tt, bindS, if_true, if_false, reduceIte, leT, leF, ltT, ltF, eqT, eqF, Bool.true_eq_false, hz]
  refine ⟨if w = 0 then nI (bst a f 9) else nI (lm a f (bst a f 9)), ?_, ?_⟩
  · refine loop_for (b_X5_ring_30 n T (nI w) (nI f)) (fun k => (nI (bst a f k), nI (k + 1))) 9 _ (fun k hk kk => ?_) (fun kk => ?_) n (by omega)
    · unfold b_X5_ring_30
      have hb := bst_le a f k
      have e1 := e_left hT hO (x := k + 1) (by omega) hf hn
      have e2 := e_left hT hO (x := bst a f k) (by omega) hf hn
      have l1 := lm_le a f (k + 1)
      have l2 := lm_le a f (bst a f k)
      simp (disch := omega) only [litN, nI_add, pk_mul, pk_sub, nI_negR, nI_negL, nI_negE, nI_negLt, nI_negGe, nI_ltE, nI_leE, nI_eqI, nI_clamp, inB_n, gd_tt, bindS, if_true, if_false, reduceIte, leT, leF, ltT, ltF, eqT, eqF, e1, e2]
      show _ = kk (nI (if lm a f (k + 1) < lm a f (bst a f k) then k + 1 else bst a f k), nI (k + 1 + 1))
      by_cases q : lm a f (bst a f k) ≤ lm a f (k + 1)
      · rw [if_pos q, if_neg (by omega)]
      · rw [if_neg q, if_pos (by omega)]
    · unfold b_X5_ring_30
      have hb := bst_le a f 9
      have e2 := e_left hT hO (x := bst a f 9) (by omega) hf hn
      simp (disch := omega) only [litN, nI_add, pk_mul, pk_sub, nI_negR, nI_negL, nI_negE, nI_negLt, nI_negGe, nI_ltE, nI_leE, nI_eqI, nI_clamp, inB_n, gd_tt, bindS, if_true, if_false, reduceIte, leT, leF, ltT, ltF, eqT, eqF, e2]
      split <;> rfl
  · have key : loopF (b_X6_ring_34 n S L (nI w) (nI f)) n (nI 0, nI 11, nI 0) = some (if w = 0 then nI (bst a f 9) else nI (lm a f (bst a f 9))) := by
      refine loop_for (b_X6_ring_34 n S L (nI w) (nI f)) (fun k => match k with | 0 => (nI 0, nI 11, nI 0) | k + 1 => (nI (bst a f k), nI (lm a f (bst a f k)), nI (k + 1))) 10 _ (fun k hk kk => ?_) (fun kk => ?_) n (by omega)
      · have e1 := e_lm (L := L) hS hO (x := k) hk hf hn
        have l1 := lm_le a f k
        have go : ∀ (p q : Int32), b_X6_ring_34 n S L (nI w) (nI f) (p, q, nI k) kk = (if q ≤ nI (lm a f k) then kk (p, q, nI (k + 1)) else kk (nI k, nI (lm a f k), nI (k + 1))) := by
          intro p q
          unfold b_X6_ring_34
          cases y1 : m_X6_yesBy n S L (nI k) with
          | none => rw [y1] at e1; cases e1
          | some u =>
            rw [y1, bindS] at e1
            cases y2 : m_X6_ones n (nI f &&& u) with
            | none => rw [y2] at e1; cases e1
            | some u2 =>
              rw [y2, bindS] at e1
              cases y3 : m_X6_ones n (nI f) with
              | none => rw [y3] at e1; cases e1
              | some u3 =>
                rw [y3, bindS] at e1
                simp (disch := omega) only [litN, nI_add, pk_mul, pk_sub, nI_negR, nI_negL, nI_negE, nI_negLt, nI_negGe, nI_ltE, nI_leE, nI_eqI, nI_clamp, inB_n, gd_tt, bindS, if_true, if_false, reduceIte, leT, leF, ltT, ltF, eqT, eqF, y1, y2, y3, e1]
                split <;> rfl
        cases k with
        | zero =>
          show b_X6_ring_34 n S L (nI w) (nI f) (nI 0, nI 11, nI 0) kk = kk (nI (bst a f 0), nI (lm a f (bst a f 0)), nI 1)
          rw [go]
          simp (disch := omega) only [litN, nI_add, pk_mul, pk_sub, nI_negR, nI_negL, nI_negE, nI_negLt, nI_negGe, nI_ltE, nI_leE, nI_eqI, nI_clamp, inB_n, gd_tt, bindS, if_true, if_false, reduceIte, leT, leF, ltT, ltF, eqT, eqF]
          rfl
        | succ k =>
          show b_X6_ring_34 n S L (nI w) (nI f) (nI (bst a f k), nI (lm a f (bst a f k)), nI (k + 1)) kk = kk (nI (bst a f (k + 1)), nI (lm a f (bst a f (k + 1))), nI (k + 1 + 1))
          have l2 := lm_le a f (bst a f k)
          rw [go]
          simp (disch := omega) only [nI_leE]
          have hb : bst a f (k + 1) = if lm a f (k + 1) < lm a f (bst a f k) then k + 1 else bst a f k := rfl
          rw [hb]
          by_cases q : lm a f (bst a f k) ≤ lm a f (k + 1)
          · rw [if_pos q, if_neg (by omega)]
          · rw [if_neg q, if_pos (by omega)]
      · unfold b_X6_ring_34
        show (if (10 : Int32) ≤ nI 10 then (if nI w = 0 then some (nI (bst a f 9)) else some (nI (lm a f (bst a f 9)))) else _) = _
        rw [if_pos (by decide)]
        simp (disch := omega) only [litN, nI_add, pk_mul, pk_sub, nI_negR, nI_negL, nI_negE, nI_negLt, nI_negGe, nI_ltE, nI_leE, nI_eqI, nI_clamp, inB_n, gd_tt, bindS, if_true, if_false, reduceIte, leT, leF, ltT, ltF, eqT, eqF]
        split <;> rfl
    exact key
