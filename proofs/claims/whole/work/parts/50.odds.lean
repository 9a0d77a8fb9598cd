/-! WHOM TO RING FIRST: order, calls; fractions -/
variable {n : Nat} {X T I J P C V F S S' : TI} {A L : TL} {a : AT}
def dgt (o k : Nat) : Nat := o / 10 ^ (5 - k) % 10
theorem dgt_lt (o k : Nat) : dgt o k < 10 := Nat.mod_lt _ (by decide)
theorem dg_step (o i : Nat) : o / 10 ^ i / 10 = o / 10 ^ (i + 1) := by rw [Nat.div_div_eq_div_mul, Nat.pow_succ]
theorem e_digit {o k : Nat} (ho : o < 1000000) (hk : k < 6) (hn : 10 < n) : m_X5_digit n (nI o) (nI k) = some (nI (dgt o k)) := by
  unfold m_X5_digit
  have h0 : nI k + (1 : Int32) = nI (k + 1) := by rw [nI_succ]
  have h1 : nI o = nI (o / 10 ^ 0) := by rw [Nat.pow_zero, Nat.div_one]
  rw [h0, h1]
  refine loop_for (b_X5_digit_6 n) (fun i => (nI (o / 10 ^ i), nI (k + 1 + i))) (5 - k) _ (fun i hi kk => ?_) (fun kk => ?_) n (by omega)
  · unfold b_X5_digit_6
    have hq : o / 10 ^ i ≤ o := Nat.div_le_self _ _
    simp (disch := omega) only [litN, nI_add, pk_mul, pk_sub, nI_negR, nI_negL, nI_negE, nI_negLt, nI_negGe, nI_ltE, nI_leE, nI_eqI, nI_clamp, inB_n, gd_tt, bindS, if_true, if_false, reduceIte, leT, leF, ltT, ltF, eqT, eqF, pk_div]
    show kk (nI (o / 10 ^ i / 10), nI (k + 1 + i + 1)) = kk (nI (o / 10 ^ (i + 1)), nI (k + 1 + i + 1))
    exact congrArg (fun x => kk (nI x, nI (k + 1 + i + 1))) (dg_step o i)
  · unfold b_X5_digit_6
    have hq : o / 10 ^ (5 - k) ≤ o := Nat.div_le_self _ _
    simp (disch := omega) only [litN, nI_add, pk_mul, pk_sub, nI_negR, nI_negL, nI_negE, nI_negLt, nI_negGe, nI_ltE, nI_leE, nI_eqI, nI_clamp, inB_n, gd_tt, bindS, if_true, if_false, reduceIte, leT, leF, ltT, ltF, eqT, eqF, pk_remJ]
    rfl
def lks (o r k b : Nat) : Nat := if (!r.testBit k && (decide (b = 6) || decide (dgt o b < dgt o k))) = true then k else b
def lk (o r : Nat) : Nat → Nat
  | 0 => 6
  | k + 1 => lks o r k (lk o r k)
theorem lk_s (o r k : Nat) : lk o r (k + 1) = lks o r k (lk o r k) := rfl
theorem lk_or (o r : Nat) : ∀ k, (lk o r k = 6 ∧ ∀ i, i < k → r.testBit i = true) ∨ (lk o r k < k ∧ r.testBit (lk o r k) = false)
  | 0 => Or.inl ⟨rfl, fun i hi => absurd hi (Nat.not_lt_zero _)⟩
  | k + 1 => by
    rw [lk_s]
    unfold lks
    cases hb : r.testBit k
    · rcases lk_or o r k with ⟨h1, h2⟩ | ⟨h1, h2⟩
      · right
        simp only [h1, decide_true, Bool.true_or, Bool.not_false, Bool.and_true, if_true]
        exact ⟨by omega, hb⟩
      · right
        split
        · exact ⟨by omega, hb⟩
        · exact ⟨by omega, h2⟩
    · rw [if_neg (by simp)]
      rcases lk_or o r k with ⟨h1, h2⟩ | ⟨h1, h2⟩
      · left
        refine ⟨h1, fun i hi => ?_⟩
        rcases Nat.lt_succ_iff_lt_or_eq.mp hi with q | q
        · exact h2 i q
        · subst q; exact hb
      · right
        exact ⟨by omega, h2⟩
theorem cnt_all {p : Nat → Bool} : ∀ {N : Nat}, (∀ i, i < N → p i = true) → cnt p N = N
  | 0, _ => rfl
  | N + 1, h => by rw [cnt_T (h N (by omega)), cnt_all (fun i hi => h i (by omega))]
theorem cnt_or {r x : Nat} (hr : r.testBit x = false) : ∀ N, cnt (fun i => (r ||| 2 ^ x).testBit i) N = cnt (fun i => r.testBit i) N + (if x < N then 1 else 0)
  | 0 => rfl
  | N + 1 => by
    have ih := cnt_or hr N
    have hb : (r ||| 2 ^ x).testBit N = (r.testBit N || decide (x = N)) := by rw [Nat.testBit_or, Nat.testBit_two_pow]
    by_cases q : x = N
    · subst q
      rw [cnt_T (p := fun i => (r ||| 2 ^ x).testBit i) (by simp only [hb, decide_true, Bool.or_true]), cnt_F (p := fun i => r.testBit i) hr, ih, if_neg (by omega), if_pos (by omega)]
    · cases hN : r.testBit N
      · rw [cnt_F (p := fun i => (r ||| 2 ^ x).testBit i) (by simp only [hb, hN, decide_eq_false q, Bool.or_false]), cnt_F (p := fun i => r.testBit i) hN, ih]
        by_cases q2 : x < N
        · rw [if_pos q2, if_pos (by omega)]
        · rw [if_neg q2, if_neg (by omega)]
      · rw [cnt_T (p := fun i => (r ||| 2 ^ x).testBit i) (by simp only [hb, hN, Bool.true_or]), cnt_T (p := fun i => r.testBit i) hN, ih]
        by_cases q2 : x < N
        · rw [if_pos q2, if_pos (by omega)]
        · rw [if_neg q2, if_neg (by omega)]
def rg (o : Nat) : Nat → Nat
  | 0 => 0
  | i + 1 => rg o i ||| 2 ^ lk o (rg o i) 6
def nxt (o i : Nat) : Nat := lk o (rg o i) 6
theorem rg_s (o i : Nat) : rg o (i + 1) = rg o i ||| 2 ^ nxt o i := rfl
theorem rg_ok (o : Nat) : ∀ i, i ≤ 6 → rg o i < 1024 ∧ cnt (fun j => (rg o i).testBit j) 6 = i
  | 0, _ => ⟨show 0 < 1024 by decide, by
    show cnt (fun j => (0 : Nat).testBit j) 6 = 0
    decide⟩
  | i + 1, h => by
    obtain ⟨h1, h2⟩ := rg_ok o i (by omega)
    rcases lk_or o (rg o i) 6 with ⟨q1, q2⟩ | ⟨q1, q2⟩
    · have := cnt_all (p := fun j => (rg o i).testBit j) q2
      omega
    · refine ⟨or_lt h1 (two_lt (by omega)), ?_⟩
      have := cnt_or q2 6
      rw [h2, if_pos q1] at this
      exact this
theorem nxt_lt (o : Nat) {i : Nat} (h : i < 6) : nxt o i < 6 ∧ (rg o i).testBit (nxt o i) = false := by
  obtain ⟨h1, h2⟩ := rg_ok o i (by omega)
  rcases lk_or o (rg o i) 6 with ⟨q1, q2⟩ | ⟨q1, q2⟩
  · have := cnt_all (p := fun j => (rg o i).testBit j) q2
    omega
  · exact ⟨q1, q2⟩
theorem lk_le (o r : Nat) {k : Nat} (hk : k ≤ 6) : lk o r k ≤ 6 := by
  rcases lk_or o r k with ⟨h1, h2⟩ | ⟨h1, h2⟩ <;> omega
theorem e_likeliest {o r : Nat} (ho : o < 1000000) (hr : r < 1024) (hn : 10 < n) : m_X5_likeliest n (nI o) (nI r) = some (nI (lk o r 6)) := by
  unfold m_X5_likeliest
  refine loop_for (b_X5_likeliest_5 n (nI o) (nI r)) (fun k => (nI (lk o r k), nI k)) 6 _ (fun k hk kk => ?_) (fun kk => ?_) n (by omega)
  · unfold b_X5_likeliest_5
    have e1 := e_holds (n := n) (s := r) (k := k) hr (by omega)
    have e2 := e_digit (n := n) ho hk hn
    have hl := lk_le o r (by omega : k ≤ 6)
    have d1 := dgt_lt o k
    have d2 := dgt_lt o (lk o r k)
    simp (disch := omega) only [litN, nI_add, pk_mul, pk_sub, nI_negR, nI_negL, nI_negE, nI_negLt, nI_negGe, nI_ltE, nI_leE, nI_eqI, nI_clamp, inB_n, gd_tt, bindS, if_true, if_false, reduceIte, leT, leF, ltT, ltF, eqT, eqF, e1, e2, nI_f0]
    rw [lk_s]
    unfold lks
    by_cases q : lk o r k = 6
    · rw [if_pos q, decide_eq_true q]
      cases r.testBit k <;> rfl
    · have e3 := e_digit (n := n) ho (k := lk o r k) (by omega) hn
      rw [if_neg q, decide_eq_false q]
      simp (disch := omega) only [litN, nI_add, pk_mul, pk_sub, nI_negR, nI_negL, nI_negE, nI_negLt, nI_negGe, nI_ltE, nI_leE, nI_eqI, nI_clamp, inB_n, gd_tt, bindS, if_true, if_false, reduceIte, leT, leF, ltT, ltF, eqT, eqF, e3]
      by_cases q2 : dgt o k ≤ dgt o (lk o r k)
      · rw [if_pos q2, decide_eq_false (by omega : ¬ dgt o (lk o r k) < dgt o k)]
        cases r.testBit k <;> rfl
      · rw [if_neg q2, decide_eq_true (by omega : dgt o (lk o r k) < dgt o k)]
        cases r.testBit k <;> rfl
  · unfold b_X5_likeliest_5
    simp (disch := omega) only [litN, nI_add, pk_mul, pk_sub, nI_negR, nI_negL, nI_negE, nI_negLt, nI_negGe, nI_ltE, nI_leE, nI_eqI, nI_clamp, inB_n, gd_tt, bindS, if_true, if_false, reduceIte, leT, leF, ltT, ltF, eqT, eqF]
/-- the model's rows of odds -/
def OD (S : TI) (o : Nat) : Prop := (∀ k, k < 6 → S 25 k = nI (dgt o k)) ∧ ∀ i, i < 6 → S 26 i = nI (nxt o i)
def iv6 (m : Nat) : Int32 := if m = 6 then -nI 6 else nI m
theorem e_readOdds {o : Nat} (ho : o < 1000000) (hn : 10 < n) : ∃ S', m_X6_readOdds n S L (nI o) = some S' ∧ FQ S S' ∧ OD S' o := by
  unfold m_X6_readOdds
  refine loop_inv (b_X6_readOdds_4 n) (fun j s => s.1 = nI (o / 10 ^ j) ∧ s.2.1 = (if j = 6 then -nI 1 else nI (5 - j)) ∧ FQ S s.2.2 ∧ ∀ k, k < 6 → 5 - k < j → s.2.2 25 k = nI (dgt o k)) 6 (fun q => ∃ S', q = some S' ∧ FQ S S' ∧ OD S' o) (fun j hj s hs kk => ?_) (fun s hs kk => ?_) _ n ⟨by rw [Nat.pow_zero, Nat.div_one], by rw [if_neg (by decide)]; rfl, FQ.rfl, fun k _ h => absurd h (Nat.not_lt_zero _)⟩ (by omega)
  · left
    obtain ⟨h1, h2, h3, h4⟩ := hs
    rw [if_neg (by omega)] at h2
    unfold b_X6_readOdds_4
    have hle : o / 10 ^ j ≤ o := Nat.div_le_self _ _
    simp (disch := omega) only [litN, nI_add, pk_mul, pk_sub, nI_negR, nI_negL, nI_negE, nI_negLt, nI_negGe, nI_ltE, nI_leE, nI_eqI, nI_clamp, inB_n, gd_tt, bindS, if_true, if_false, reduceIte, leT, leF, ltT, ltF, eqT, eqF, h1, h2, pk_div, pk_remJ]
    refine ⟨_, rfl, ?_, ?_, h3.trans (FQ.up (by omega)), fun k hk hk2 => ?_⟩
    · rw [Nat.div_div_eq_div_mul, Nat.pow_succ]
    · by_cases q : j = 5
      · subst q
        rw [if_pos (by decide)]
        show nI (5 - 5) + -nI 1 = -nI 1
        decide +kernel
      · rw [if_neg (by omega), nI_dec (by omega), show 5 - j - 1 = 5 - (j + 1) by omega]
    · simp only [upA_s, upd_v]
      by_cases q : k = 5 - j
      · rw [if_pos q]
        unfold dgt
        rw [q, show 5 - (5 - j) = j by omega]
      · rw [if_neg q]
        exact h4 k hk (by omega)
  · obtain ⟨h1, h2, h3, h4⟩ := hs
    rw [if_pos rfl] at h2
    unfold b_X6_readOdds_4
    simp only [h2]
    rw [if_pos (by decide +kernel)]
    refine loop_inv (b_X6_readOdds_34 n) (fun i t => t.1 = nI (rg o i) ∧ t.2.1 = nI i ∧ FQ S t.2.2 ∧ (∀ k, k < 6 → t.2.2 25 k = nI (dgt o k)) ∧ ∀ j, j < i → t.2.2 26 j = nI (nxt o j)) 6 (fun q => ∃ S', q = some S' ∧ FQ S S' ∧ OD S' o) (fun i hi t ht k2 => ?_) (fun t ht k2 => ?_) _ n ⟨rfl, rfl, h3, fun k hk => h4 k hk (by omega), fun j hj => absurd hj (Nat.not_lt_zero _)⟩ (by omega)
    · left
      obtain ⟨g1, g2, g3, g4, g5⟩ := ht
      obtain ⟨r1, r2⟩ := rg_ok o i (by omega)
      obtain ⟨x1, x2⟩ := nxt_lt o hi
      unfold b_X6_readOdds_34
      simp (disch := omega) only [litN, nI_add, pk_mul, pk_sub, nI_negR, nI_negL, nI_negE, nI_negLt, nI_negGe, nI_ltE, nI_leE, nI_eqI, nI_clamp, inB_n, gd_tt, bindS, if_true, if_false, reduceIte, leT, leF, ltT, ltF, eqT, eqF, g1, g2]
      refine ⟨(nI (rg o (i + 1)), nI (i + 1), upA t.2.2 26 (upd (t.2.2 26) i (nI (nxt o i)))), ?_, rfl, rfl, g3.trans (FQ.up (by omega)), ?_, fun j hj => ?_⟩
      · refine loop_for (b_X6_readOdds_48 n (nI (rg o i)) (nI i) t.2.2 k2) (fun k => (iv6 (lk o (rg o i) k), nI k)) 6 _ (fun k hk k3 => ?_) (fun k3 => ?_) n (by omega)
        · have e1 := e_has (n := n) (s := rg o i) (k := k) r1 (by omega)
          have hl := lk_le o (rg o i) (by omega : k ≤ 6)
          have d1 := dgt_lt o k
          have d2 := dgt_lt o (lk o (rg o i) k)
          unfold b_X6_readOdds_48
          rw [lk_s]
          unfold lks
          by_cases q : lk o (rg o i) k = 6
          · rw [show iv6 (lk o (rg o i) k) = -nI 6 by unfold iv6; rw [if_pos q]]
            simp (disch := omega) only [litN, nI_add, pk_mul, pk_sub, nI_negR, nI_negL, nI_negE, nI_negLt, nI_negGe, nI_ltE, nI_leE, nI_eqI, nI_clamp, inB_n, gd_tt, bindS, if_true, if_false, reduceIte, leT, leF, ltT, ltF, eqT, eqF, nI_negLt, e1, nI_f0]
            cases (rg o i).testBit k
            · simp only [q, decide_true, Bool.true_or, Bool.not_false, Bool.and_true, if_true]
              rw [show iv6 k = nI k by unfold iv6; rw [if_neg (by omega)]]
            · simp [q, iv6]
          · rw [show iv6 (lk o (rg o i) k) = nI (lk o (rg o i) k) by unfold iv6; rw [if_neg q]]
            have z1 := g4 k hk
            have z2 := g4 (lk o (rg o i) k) (by omega)
            simp (disch := omega) only [litN, nI_add, pk_mul, pk_sub, nI_negR, nI_negL, nI_negE, nI_negLt, nI_negGe, nI_ltE, nI_leE, nI_eqI, nI_clamp, inB_n, gd_tt, bindS, if_true, if_false, reduceIte, leT, leF, ltT, ltF, eqT, eqF, e1, nI_f0, z1, z2]
            cases (rg o i).testBit k
            · rw [if_pos rfl]
              by_cases q2 : dgt o k ≤ dgt o (lk o (rg o i) k)
              · have q3 : ¬ dgt o (lk o (rg o i) k) < dgt o k := by omega
                rw [if_pos q2]
                simp [q, q3, iv6]
              · have q3 : dgt o (lk o (rg o i) k) < dgt o k := by omega
                rw [if_neg q2]
                simp [q3, iv6, show ¬ k = 6 by omega]
            · rw [if_neg (by decide)]
              simp [iv6, q]
        · unfold b_X6_readOdds_48
          rw [show iv6 (lk o (rg o i) 6) = nI (nxt o i) by unfold iv6; rw [if_neg (by unfold nxt at x1; omega)]; rfl]
          simp (disch := omega) only [litN, nI_add, pk_mul, pk_sub, nI_negR, nI_negL, nI_negE, nI_negLt, nI_negGe, nI_ltE, nI_leE, nI_eqI, nI_clamp, inB_n, gd_tt, bindS, if_true, if_false, reduceIte, leT, leF, ltT, ltF, eqT, eqF, nI_bitN, nI_or]
          rfl
      · intro k hk
        simp (disch := omega) only [upA_n]
        exact g4 k hk
      · simp only [upA_s, upd_v]
        by_cases q : j = i
        · rw [if_pos q, q]
        · rw [if_neg q]
          exact g5 j (by omega)
    · obtain ⟨g1, g2, g3, g4, g5⟩ := ht
      unfold b_X6_readOdds_34
      simp (disch := omega) only [litN, nI_add, pk_mul, pk_sub, nI_negR, nI_negL, nI_negE, nI_negLt, nI_negGe, nI_ltE, nI_leE, nI_eqI, nI_clamp, inB_n, gd_tt, bindS, if_true, if_false, reduceIte, leT, leF, ltT, ltF, eqT, eqF, g2]
      exact ⟨_, rfl, g3, g4, g5⟩
def od (o : Nat) : Nat → Nat
  | 0 => 0
  | i + 1 => od o i * 10 + nxt o i
theorem od_lt (o : Nat) : ∀ i, i ≤ 6 → od o i < 10 ^ i
  | 0, _ => show 0 < 1 by decide
  | i + 1, h => by
    have h1 := od_lt o i (by omega)
    have h2 := (nxt_lt o (i := i) (by omega)).1
    show od o i * 10 + nxt o i < 10 ^ (i + 1)
    rw [Nat.pow_succ]
    omega
theorem t_order (g : INV X T I J P S) (hn : 1100 < n) (x1 : Int32) : ∃ v S', m_X5_order n X T I J P C V F A x1 = some v ∧ m_X6_order n S L x1 = some (v, S') ∧ INV X T I J P S' := by
  unfold m_X5_order m_X6_order
  simp only [litN, litL]
  simp only [e_within]
  simp (disch := omega) only [e_in]
  simp only [bindS, nI_f0]
  cases i1 : inr x1 0 999999
  · exact ⟨_, _, rfl, rfl, g⟩
  obtain ⟨o, rfl, -, ho⟩ := inr_T i1 (by decide) (by decide)
  obtain ⟨S', e1, hq, hd⟩ := e_readOdds (n := n) (S := S) (L := L) (o := o) (by omega) (by omega)
  simp only [Bool.true_eq_false, if_false, e1, bindS]
  refine ⟨nI (od o 6), S', ?_, ?_, hq.inv g⟩
  · refine loop_for (b_X5_order_20 n (nI o)) (fun i => (nI (od o i), nI (rg o i), nI i)) 6 _ (fun i hi kk => ?_) (fun kk => ?_) n (by omega)
    · obtain ⟨r1, r2⟩ := rg_ok o i (by omega)
      obtain ⟨x1, x2⟩ := nxt_lt o hi
      have e2 := e_likeliest (n := n) (o := o) (r := rg o i) (by omega) r1 (by omega)
      rw [show lk o (rg o i) 6 = nxt o i from rfl] at e2
      unfold b_X5_order_20
      simp (disch := omega) only [litN, nI_add, pk_mul, pk_sub, nI_negR, nI_negL, nI_negE, nI_negLt, nI_negGe, nI_ltE, nI_leE, nI_eqI, nI_clamp, inB_n, gd_tt, bindS, if_true, if_false, reduceIte, leT, leF, ltT, ltF, eqT, eqF, e2, nI_bitN, nI_or]
      rfl
    · unfold b_X5_order_20
      simp (disch := omega) only [litN, nI_add, pk_mul, pk_sub, nI_negR, nI_negL, nI_negE, nI_negLt, nI_negGe, nI_ltE, nI_leE, nI_eqI, nI_clamp, inB_n, gd_tt, bindS, if_true, if_false, reduceIte, leT, leF, ltT, ltF, eqT, eqF]
  · refine loop_for (b_X6_order_24 n S') (fun i => (nI (od o i), nI i)) 6 _ (fun i hi kk => ?_) (fun kk => ?_) n (by omega)
    · unfold b_X6_order_24
      have h2 := hd.2 i hi
      simp (disch := omega) only [litN, nI_add, pk_mul, pk_sub, nI_negR, nI_negL, nI_negE, nI_negLt, nI_negGe, nI_ltE, nI_leE, nI_eqI, nI_clamp, inB_n, gd_tt, bindS, if_true, if_false, reduceIte, leT, leF, ltT, ltF, eqT, eqF, h2]
      rw [show 10 * od o i + nxt o i = od o (i + 1) by show _ = od o i * 10 + nxt o i; omega]
    · unfold b_X6_order_24
      simp (disch := omega) only [litN, nI_add, pk_mul, pk_sub, nI_negR, nI_negL, nI_negE, nI_negLt, nI_negGe, nI_ltE, nI_leE, nI_eqI, nI_clamp, inB_n, gd_tt, bindS, if_true, if_false, reduceIte, leT, leF, ltT, ltF, eqT, eqF]
/-- Euclid's way -/
def eu (u v : Nat) : Nat → Nat × Nat
  | 0 => (u, v)
  | k + 1 => ((eu u v k).2, (eu u v k).1 % (eu u v k).2)
theorem eu_gcd (u v : Nat) : ∀ k, (∀ i, i < k → ¬ (eu u v i).2 = 0) → Nat.gcd (eu u v k).1 (eu u v k).2 = Nat.gcd u v
  | 0, _ => rfl
  | k + 1, h => by
    have ih := eu_gcd u v k (fun i hi => h i (by omega))
    show Nat.gcd (eu u v k).2 ((eu u v k).1 % (eu u v k).2) = _
    rw [← ih, Nat.gcd_comm (eu u v k).1, Nat.gcd_rec (eu u v k).2 (eu u v k).1, Nat.gcd_comm]
theorem eu_lt (u v : Nat) {b : Nat} (hu : u < b) (hv : v < b) : ∀ k, (eu u v k).1 < b ∧ (eu u v k).2 < b
  | 0 => ⟨hu, hv⟩
  | k + 1 => by
    have ih := eu_lt u v hu hv k
    refine ⟨ih.2, ?_⟩
    exact Nat.lt_of_le_of_lt (Nat.mod_le _ _) ih.1
theorem mod_half {x y : Nat} (h : y ≤ x) (h0 : 0 < y) : 2 * (x % y) < x + 1 ∧ (0 < x → 2 * (x % y) < x) := by
  have h1 := Nat.mod_lt x h0
  have h2 := Nat.div_add_mod x y
  have h3 : 1 ≤ x / y := (Nat.le_div_iff_mul_le h0).mpr (by omega)
  have h4 : y * 1 ≤ y * (x / y) := Nat.mul_le_mul_left y h3
  omega
theorem eu_half (u v : Nat) (k : Nat) (h0 : 0 < (eu u v k).2) (h1 : 0 < (eu u v (k + 1)).2) : 2 * (eu u v (k + 2)).2 < (eu u v k).2 := by
  show 2 * ((eu u v (k + 1)).1 % (eu u v (k + 1)).2) < (eu u v k).2
  have e1 : (eu u v (k + 1)).1 = (eu u v k).2 := rfl
  have e2 : (eu u v (k + 1)).2 < (eu u v k).2 := Nat.mod_lt _ h0
  rw [e1]
  exact (mod_half (by omega) h1).2 h0
theorem eu_pow (u v : Nat) {b : Nat} (hv : v < 2 ^ b) : ∀ j, (∀ i, i < 2 * j + 1 → 0 < (eu u v i).2) → 2 ^ j * (eu u v (2 * j)).2 < 2 ^ b
  | 0, _ => by
    rw [Nat.pow_zero, Nat.one_mul]
    exact hv
  | j + 1, h => by
    have ih := eu_pow u v hv j (fun i hi => h i (by omega))
    have h1 := eu_half u v (2 * j) (h (2 * j) (by omega)) (h (2 * j + 1) (by omega))
    rw [show 2 * (j + 1) = 2 * j + 2 by omega, Nat.pow_succ, Nat.mul_assoc]
    exact Nat.lt_of_le_of_lt (Nat.mul_le_mul_left _ (Nat.le_of_lt h1)) ih
theorem eu_end (u v : Nat) (hv : v < 2 ^ 62) : ∃ k, k < 130 ∧ (eu u v k).2 = 0 := by
  by_cases h : ∃ k, k < 130 ∧ (eu u v k).2 = 0
  · exact h
  · exfalso
    have h2 : ∀ i, i < 130 → 0 < (eu u v i).2 := fun i hi => Nat.pos_of_ne_zero (fun q => h ⟨i, hi, q⟩)
    have h3 := eu_pow u v hv 62 (fun i hi => h2 i (by omega))
    have h4 := h2 (2 * 62) (by omega)
    have h5 : 2 ^ 62 * 1 ≤ 2 ^ 62 * (eu u v (2 * 62)).2 := Nat.mul_le_mul_left _ h4
    omega
theorem remJL {p q : Nat} (hp : p < 2 ^ 63) (h0 : 0 < q) (hq : q < 2 ^ 63) : jremL (lN p) (lN q) = lN (p % q) := pk_lRem hp h0 hq
theorem cmp0 {p : Nat} (hp : p < 2 ^ 63) : (lg_cmp (lN p) (lN 0) = nI 0) = (p = 0) := propext ((lg_cmp_eq _ _).trans (pk_lEQ hp (by decide)))
theorem nzL_T {p : Nat} (hp : p < 2 ^ 63) (h0 : ¬ p = 0) : nzL (lN p) = true := by
  unfold nzL
  rw [decide_eq_false (show ¬ lN p = 0 from fun h => h0 ((pk_lEQ hp (by decide)).mp h))]
  rfl
theorem e_cd {u v : Nat} (hu : u < 2 ^ 62) (hv : v < 2 ^ 62) (hn : 210 < n) : m_X5_commonDivisor n (lN u) (lN v) = some (lN (Nat.gcd u v)) := by
  unfold m_X5_commonDivisor
  refine loop_find (b_X5_commonDivisor_9 n) (fun k => (lN (eu u v k).1, lN (eu u v k).2, nI k)) 200 (fun k => decide ((eu u v k).2 = 0)) (fun k => some (lN (eu u v k).1)) _ (fun k hk h0 kk => ?_) (fun h0 kk => ?_) (fun k hk h0 hp => ?_) n (by omega)
  · obtain ⟨b1, b2⟩ := eu_lt u v hu hv k
    unfold b_X5_commonDivisor_9
    simp only [litL, decide_eq_true_eq]
    simp (disch := omega) only [litN, nI_add, pk_mul, pk_sub, nI_negR, nI_negL, nI_negE, nI_negLt, nI_negGe, nI_ltE, nI_leE, nI_eqI, nI_clamp, inB_n, gd_tt, bindS, if_true, if_false, reduceIte, leT, leF, ltT, ltF, eqT, eqF, cmp0]
    by_cases q : (eu u v k).2 = 0
    · rw [if_pos q, if_pos q]
    · rw [if_neg q, if_neg q]
      simp (disch := omega) only [nzL_T, remJL, gd_tt]
      rfl
  · exfalso
    obtain ⟨k, h1, h2⟩ := eu_end u v hv
    have := h0 k (by omega)
    rw [decide_eq_false_iff_not] at this
    exact this h2
  · rw [decide_eq_true_eq] at hp
    have h1 := eu_gcd u v k (fun i hi => by have := h0 i hi; rw [decide_eq_false_iff_not] at this; exact this)
    rw [hp, Nat.gcd_zero_right] at h1
    show some (lN (eu u v k).1) = _
    rw [h1]
theorem e_partOf {u v w : Nat} (hu : u < 2 ^ 62) (hv : v < 2 ^ 62) (h0 : 0 < v) (hw : w ≤ 1) (hn : 210 < n) : m_X5_partOf n (lN u) (lN v) (nI w) = some (lN (if w = 0 then u / Nat.gcd u v else v / Nat.gcd u v)) := by
  unfold m_X5_partOf
  have e1 := e_cd hu hv hn
  have hg : 0 < Nat.gcd u v := Nat.gcd_pos_of_pos_right _ h0
  have hg2 : Nat.gcd u v ≤ v := Nat.gcd_le_right _ h0
  simp only [litL, e1, bindS]
  simp (disch := omega) only [litN, nI_add, pk_mul, pk_sub, nI_negR, nI_negL, nI_negE, nI_negLt, nI_negGe, nI_ltE, nI_leE, nI_eqI, nI_clamp, inB_n, gd_tt, bindS, if_true, if_false, reduceIte, leT, leF, ltT, ltF, eqT, eqF, cmp0, nzL_T, pk_lDiv]
  by_cases q : w = 0
  · rw [if_pos q, if_pos q]
  · rw [if_neg q, if_neg q]
theorem e_lowest {u v w : Nat} (hu : u < 2 ^ 62) (hv : v < 2 ^ 62) (h0 : 0 < v) (hw : w ≤ 1) (hn : 210 < n) : m_X6_lowest n (lN u) (lN v) (nI w) = some (lN (if w = 0 then u / Nat.gcd u v else v / Nat.gcd u v)) := by
  unfold m_X6_lowest
  have hg : 0 < Nat.gcd u v := Nat.gcd_pos_of_pos_right _ h0
  have hg2 : Nat.gcd u v ≤ v := Nat.gcd_le_right _ h0
  refine loop_find (b_X6_lowest_6 n (lN u) (lN v) (nI w)) (fun k => (lN (eu v u k).1, lN (eu v u k).2)) 200 (fun k => decide ((eu v u k).2 = 0)) (fun k => some (lN (if w = 0 then u / (eu v u k).1 else v / (eu v u k).1))) _ (fun k hk h0 kk => ?_) (fun h0 kk => ?_) (fun k hk h0 hp => ?_) n (by omega)
  · obtain ⟨b1, b2⟩ := eu_lt v u hv hu k
    unfold b_X6_lowest_6
    simp only [litL, decide_eq_true_eq]
    simp (disch := omega) only [litN, nI_add, pk_mul, pk_sub, nI_negR, nI_negL, nI_negE, nI_negLt, nI_negGe, nI_ltE, nI_leE, nI_eqI, nI_clamp, inB_n, gd_tt, bindS, if_true, if_false, reduceIte, leT, leF, ltT, ltF, eqT, eqF, cmp0]
    by_cases q : (eu v u k).2 = 0
    · have h1 := eu_gcd v u k (fun i hi => by have := h0 i hi; rw [decide_eq_false_iff_not] at this; exact this)
      rw [q, Nat.gcd_zero_right, Nat.gcd_comm] at h1
      rw [if_pos q, if_pos q, h1]
      simp (disch := omega) only [nzL_T, pk_lDiv, gd_tt]
      by_cases q : w = 0
      · rw [if_pos q, if_pos q]
      · rw [if_neg q, if_neg q]
    · rw [if_neg q, if_neg q]
      simp (disch := omega) only [nzL_T, remJL, gd_tt]
      rfl
  · exfalso
    obtain ⟨k, h1, h2⟩ := eu_end v u hu
    have := h0 k (by omega)
    rw [decide_eq_false_iff_not] at this
    exact this h2
  · rw [decide_eq_true_eq] at hp
    have h1 := eu_gcd v u k (fun i hi => by have := h0 i hi; rw [decide_eq_false_iff_not] at this; exact this)
    rw [hp, Nat.gcd_zero_right, Nat.gcd_comm] at h1
    show some (lN (if w = 0 then u / (eu v u k).1 else v / (eu v u k).1)) = _
    rw [h1]
def si (o : Nat) : Nat → Nat
  | 0 => 1
  | i + 1 => si o i * (10 - dgt o (nxt o i))
def up (o : Nat) : Nat → Nat
  | 0 => 0
  | i + 1 => up o i * 10 + si o i
theorem si_le (o : Nat) : ∀ i, si o i ≤ 10 ^ i
  | 0 => Nat.le_refl _
  | i + 1 => by
    show si o i * (10 - dgt o (nxt o i)) ≤ 10 ^ (i + 1)
    rw [Nat.pow_succ]
    exact Nat.mul_le_mul (si_le o i) (Nat.sub_le _ _)
theorem up_le (o : Nat) : ∀ i, up o i ≤ i * 10 ^ i
  | 0 => Nat.le_refl _
  | i + 1 => by
    have h1 := up_le o i
    have h2 := si_le o i
    show up o i * 10 + si o i ≤ (i + 1) * 10 ^ (i + 1)
    rw [Nat.pow_succ, Nat.add_mul, Nat.one_mul, ← Nat.mul_assoc]
    have h3 : 10 ^ i ≤ 10 ^ i * 10 := Nat.le_mul_of_pos_right _ (by decide)
    have h4 := Nat.mul_le_mul_right 10 h1
    omega
theorem t_calls (g : INV X T I J P S) (hn : 1100 < n) (x1 x2 : Int32) : ∃ v S', m_X5_calls n X T I J P C V F A x1 x2 = some v ∧ m_X6_calls n S L x1 x2 = some (v, S') ∧ INV X T I J P S' := by
  unfold m_X5_calls m_X6_calls
  simp only [litN, litL, e_isFlag]
  simp only [e_within]
  simp (disch := omega) only [e_in]
  simp only [bindS, nI_f0]
  cases i1 : inr x1 0 999999
  · exact ⟨_, _, rfl, rfl, g⟩
  cases i2 : inr x2 0 1
  · exact ⟨_, _, rfl, rfl, g⟩
  obtain ⟨o, rfl, -, ho⟩ := inr_T i1 (by decide) (by decide)
  obtain ⟨w, rfl, -, hw⟩ := inr_T i2 (by decide) (by decide)
  obtain ⟨S', e1, hq, hd⟩ := e_readOdds (n := n) (S := S) (L := L) (o := o) (by omega) (by omega)
  simp only [Bool.true_eq_false, if_false, e1, bindS]
  have hu := up_le o 6
  refine ⟨lN (if w = 0 then up o 6 / Nat.gcd (up o 6) 100000 else 100000 / Nat.gcd (up o 6) 100000), S', ?_, ?_, hq.inv g⟩
  · refine loop_for (b_X5_calls_32 n (nI o) (nI w)) (fun i => (lN (up o i), lN (si o i), nI (rg o i), nI i)) 6 _ (fun i hi kk => ?_) (fun kk => ?_) n (by omega)
    · obtain ⟨r1, r2⟩ := rg_ok o i (by omega)
      obtain ⟨x1, x2⟩ := nxt_lt o hi
      have e2 := e_likeliest (n := n) (o := o) (r := rg o i) (by omega) r1 (by omega)
      rw [show lk o (rg o i) 6 = nxt o i from rfl] at e2
      have e3 := e_digit (n := n) (o := o) (by omega) x1 (by omega)
      have d1 := dgt_lt o (nxt o i)
      unfold b_X5_calls_32
      simp only [litL]
      simp (disch := omega) only [litN, nI_add, pk_mul, pk_sub, nI_negR, nI_negL, nI_negE, nI_negLt, nI_negGe, nI_ltE, nI_leE, nI_eqI, nI_clamp, inB_n, gd_tt, bindS, if_true, if_false, reduceIte, leT, leF, ltT, ltF, eqT, eqF, e2, e3, nI_bitN, nI_or, nI_l, lN_mul, lN_add]
      rfl
    · have e4 := e_partOf (n := n) (u := up o 6) (v := 100000) (w := w) (by omega) (by omega) (by omega) hw (by omega)
      unfold b_X5_calls_32
      simp only [litL]
      simp (disch := omega) only [litN, nI_add, pk_mul, pk_sub, nI_negR, nI_negL, nI_negE, nI_negLt, nI_negGe, nI_ltE, nI_leE, nI_eqI, nI_clamp, inB_n, gd_tt, bindS, if_true, if_false, reduceIte, leT, leF, ltT, ltF, eqT, eqF, e4]
  · refine loop_for (b_X6_calls_42 n (nI w) S') (fun i => (lN (10 ^ i), lN (si o i), lN (up o (i + 1)), nI i)) 5 _ (fun i hi kk => ?_) (fun kk => ?_) n (by omega)
    · obtain ⟨x1, x2⟩ := nxt_lt o (i := i) (by omega)
      have h2 := hd.2 i (by omega)
      have h3 := hd.1 (nxt o i) x1
      have d1 := dgt_lt o (nxt o i)
      unfold b_X6_calls_42
      simp only [litL]
      simp (disch := omega) only [litN, nI_add, pk_mul, pk_sub, nI_negR, nI_negL, nI_negE, nI_negLt, nI_negGe, nI_ltE, nI_leE, nI_eqI, nI_clamp, inB_n, gd_tt, bindS, if_true, if_false, reduceIte, leT, leF, ltT, ltF, eqT, eqF, h2, h3, nI_l, lN_mul, lN_add, lN_sub]
      rw [show si o i * (10 - dgt o (nxt o i)) = si o (i + 1) from rfl, ← Nat.pow_succ, show 10 * up o (i + 1) + si o (i + 1) = up o (i + 1 + 1) by show _ = up o (i + 1) * 10 + si o (i + 1); omega]
    · have e4 := e_lowest (n := n) (u := up o 6) (v := 100000) (w := w) (by omega) (by omega) (by omega) hw (by omega)
      unfold b_X6_calls_42
      simp only [litL]
      simp (disch := omega) only [litN, nI_add, pk_mul, pk_sub, nI_negR, nI_negL, nI_negE, nI_negLt, nI_negGe, nI_ltE, nI_leE, nI_eqI, nI_clamp, inB_n, gd_tt, bindS, if_true, if_false, reduceIte, leT, leF, ltT, ltF, eqT, eqF, e4]
