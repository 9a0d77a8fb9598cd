/-! ACTS: why one can not be; what it does -/
variable {n : Nat} {X T I J P C V F S S' : TI} {A L : TL} {a : AT}
def dc (c : Nat) : Nat := if c = 0 then 43 else if c = 1 then 45 else if c = 2 then 36 else if c = 3 then 100 else if c = 4 then 62 else if c = 5 then 46 else 126
def faq (a : AT) (e : Nat) : Bool := decide (e / 10 < e % 10) && fd a (e / 10) (e % 10)
def anyF (a : AT) : Bool := !decide (cnt (faq a) 100 = 0)
def forb (a : AT) (c x y : Nat) : Bool := if c = 0 then decide (a 1 (10 * x + y) = 9) else if c = 1 then decide (a 1 (10 * x + y) = 0) else decide (a 1 (10 * x + y) = 9) && decide (a 2 (10 * x + y) = 3)
def why (a : AT) (c x y : Nat) : Nat := if c = 5 then (if a 0 2 = 0 then 4 else 0) else if c = 6 then (if anyF a = true then 0 else 5) else if (a 0 0).testBit x = false then 1 else if 3 ≤ c then 0 else if (a 0 0).testBit y = false then 1 else if x = y then 2 else if forb a c x y = true then 3 else 0
theorem why_le (a : AT) (c x y : Nat) : why a c x y ≤ 5 := by
  unfold why
  repeat' split
  all_goals omega
theorem e_canAny (h : RS S a) (hO : OKA a) (hn : 100 < n) : m_X6_canAnyFade n S L = some (nI (anyF a).toNat) := by
  unfold m_X6_canAnyFade
  refine loop_for (b_X6_canAnyFade_4 n S L) (fun e => (nI (!decide (cnt (faq a) e = 0)).toNat, nI e)) 100 _ (fun e he kk => ?_) (fun kk => ?_) n hn
  · unfold b_X6_canAnyFade_4
    have e1 := e_canFade (n := n) (L := L) h hO (x := e / 10) (y := e % 10) (by omega) (by omega)
    simp (disch := omega) only [litN, nI_add, pk_mul, pk_sub, nI_negR, nI_negL, nI_negE, nI_negLt, nI_negGe, nI_ltE, nI_leE, nI_eqI, nI_clamp, inB_n, gd_tt, bindS, if_true, if_false, reduceIte, leT, leF, ltT, ltF, eqT, eqF, pk_div, pk_remJ, e1, nI_f0]
    by_cases q : cnt (faq a) e = 0
    · cases hf : faq a e
      · have hf2 := hf
        unfold faq at hf2
        rw [cnt_F hf, hf2]
        simp [q]
      · have hf2 := hf
        unfold faq at hf2
        rw [cnt_T hf, hf2]
        simp [q]
    · have h2 : ¬ cnt (faq a) (e + 1) = 0 := by
        have := mono_cnt (faq a) (show e ≤ e + 1 by omega)
        omega
      simp [q, h2]
  · unfold b_X6_canAnyFade_4
    simp (disch := omega) only [litN, nI_add, pk_mul, pk_sub, nI_negR, nI_negL, nI_negE, nI_negLt, nI_negGe, nI_ltE, nI_leE, nI_eqI, nI_clamp, inB_n, gd_tt, bindS, if_true, if_false, reduceIte, leT, leF, ltT, ltF, eqT, eqF, gd_z]
    rfl
theorem e_anyFades (h : RT T a) (hO : OKA a) (hn : 10 < n) : m_X4_anyTieFades n T = some (nI (anyF a).toNat) := by
  unfold m_X4_anyTieFades
  have hex : ∀ x y, x < y → y < 10 → fd a x y = true → anyF a = true := fun x y hxy hy hf => by
    unfold anyF
    rw [Bool.not_eq_true', decide_eq_false_iff_not, cnt_zero]
    intro h0
    have := h0 (10 * x + y) (by omega)
    unfold faq at this
    rw [show (10 * x + y) / 10 = x by omega, show (10 * x + y) % 10 = y by omega, hf] at this
    simp [hxy] at this
  refine loop_find (b_X4_anyTieFades_2 n T) (fun x => nI x) 10 (fun x => !decide (cnt (fun y => decide (x < y) && fd a x y) 10 = 0)) (fun _ => some (nI 1)) _ (fun x hx h0 kk => ?_) (fun h0 kk => ?_) (fun x hx h0 hp => ?_) n (by omega)
  · unfold b_X4_anyTieFades_2
    simp (disch := omega) only [litN, nI_add, pk_mul, pk_sub, nI_negR, nI_negL, nI_negE, nI_negLt, nI_negGe, nI_ltE, nI_leE, nI_eqI, nI_clamp, inB_n, gd_tt, bindS, if_true, if_false, reduceIte, leT, leF, ltT, ltF, eqT, eqF]
    refine loop_find (b_X4_anyTieFades_12 n T (nI x) kk) (fun j => nI (x + 1 + j)) (9 - x) (fun j => fd a x (x + 1 + j)) (fun _ => some (nI 1)) _ (fun j hj g0 k2 => ?_) (fun g0 k2 => ?_) (fun j hj g0 gp => ?_) n (by omega)
    · unfold b_X4_anyTieFades_12
      have e1 := e_fades (n := n) h hO (x := x) (y := x + 1 + j) hx (by omega) (by omega)
      simp (disch := omega) only [litN, nI_add, pk_mul, pk_sub, nI_negR, nI_negL, nI_negE, nI_negLt, nI_negGe, nI_ltE, nI_leE, nI_eqI, nI_clamp, inB_n, gd_tt, bindS, if_true, if_false, reduceIte, leT, leF, ltT, ltF, eqT, eqF, e1, nI_f0]
      cases fd a x (x + 1 + j) <;> rfl
    · unfold b_X4_anyTieFades_12
      have hz : cnt (fun y => decide (x < y) && fd a x y) 10 = 0 := by
        rw [cnt_zero]
        intro i hi
        by_cases q : x < i
        · have := g0 (i - (x + 1)) (by omega)
          rw [show x + 1 + (i - (x + 1)) = i by omega] at this
          simp [this]
        · simp [q]
      simp (disch := omega) only [litN, nI_add, pk_mul, pk_sub, nI_negR, nI_negL, nI_negE, nI_negLt, nI_negGe, nI_ltE, nI_leE, nI_eqI, nI_clamp, inB_n, gd_tt, bindS, if_true, if_false, reduceIte, leT, leF, ltT, ltF, eqT, eqF, hz, show x + 1 + (9 - x) = 10 by omega]
      rfl
    · have hz : ¬ cnt (fun y => decide (x < y) && fd a x y) 10 = 0 := by
        rw [cnt_zero]
        intro h1
        have := h1 (x + 1 + j) (by omega)
        rw [gp] at this
        simp at this
        omega
      simp [hz]
  · unfold b_X4_anyTieFades_2
    simp (disch := omega) only [litN, nI_add, pk_mul, pk_sub, nI_negR, nI_negL, nI_negE, nI_negLt, nI_negGe, nI_ltE, nI_leE, nI_eqI, nI_clamp, inB_n, gd_tt, bindS, if_true, if_false, reduceIte, leT, leF, ltT, ltF, eqT, eqF]
    have : anyF a = false := by
      unfold anyF
      rw [Bool.not_eq_false', decide_eq_true_eq, cnt_zero]
      intro e he
      have h1 := h0 (e / 10) (by omega)
      rw [Bool.not_eq_false', decide_eq_true_eq, cnt_zero] at h1
      exact h1 (e % 10) (by omega)
    rw [this]
    rfl
  · rw [Bool.not_eq_true', decide_eq_false_iff_not, cnt_zero] at hp
    have : anyF a = true := by
      unfold anyF
      rw [Bool.not_eq_true', decide_eq_false_iff_not, cnt_zero]
      intro h1
      apply hp
      intro y hy
      have := h1 (10 * x + y) (by omega)
      unfold faq at this
      rw [show (10 * x + y) / 10 = x by omega, show (10 * x + y) % 10 = y by omega] at this
      exact this
    rw [this]
    rfl
theorem e_forb (h : RT T a) (hO : OKA a) {c x y : Nat} (hc : c < 3) (hx : x < 10) (hy : y < 10) (hne : x ≠ y) : m_X4_tieForbids n T (nI (dc c)) (nI x) (nI y) = some (nI (forb a c x y).toNat) := by
  unfold m_X4_tieForbids
  have e1 := e_strength (n := n) h hx hy
  have e2 := e_kind (n := n) h hx hy hne
  have h9 := hO.s9 (j := 10 * x + y) (by omega)
  have h3 := hO.k3 (j := 10 * x + y) (by omega)
  rw [e1, bindS]
  rcases (show c = 0 ∨ c = 1 ∨ c = 2 by omega) with rfl | rfl | rfl
  · have hd : dc 0 = 43 := rfl
    unfold forb
    simp (disch := omega) only [litN, nI_add, pk_mul, pk_sub, nI_negR, nI_negL, nI_negE, nI_negLt, nI_negGe, nI_ltE, nI_leE, nI_eqI, nI_clamp, inB_n, gd_tt, bindS, if_true, if_false, reduceIte, leT, leF, ltT, ltF, eqT, eqF, e2, hd]
    by_cases q : a 1 (10 * x + y) = 9 <;> simp [q] <;> rfl
  · have hd : dc 1 = 45 := rfl
    unfold forb
    simp (disch := omega) only [litN, nI_add, pk_mul, pk_sub, nI_negR, nI_negL, nI_negE, nI_negLt, nI_negGe, nI_ltE, nI_leE, nI_eqI, nI_clamp, inB_n, gd_tt, bindS, if_true, if_false, reduceIte, leT, leF, ltT, ltF, eqT, eqF, e2, hd]
    by_cases q : a 1 (10 * x + y) = 0 <;> simp [q] <;> rfl
  · have hd : dc 2 = 36 := rfl
    unfold forb
    simp (disch := omega) only [litN, nI_add, pk_mul, pk_sub, nI_negR, nI_negL, nI_negE, nI_negLt, nI_negGe, nI_ltE, nI_leE, nI_eqI, nI_clamp, inB_n, gd_tt, bindS, if_true, if_false, reduceIte, leT, leF, ltT, ltF, eqT, eqF, e2, hd]
    by_cases q : a 1 (10 * x + y) = 9
    · by_cases q2 : a 2 (10 * x + y) = 3 <;> simp [q, q2] <;> rfl
    · simp [q]
theorem e_reason (h : RT T a) (hO : OKA a) {c x y : Nat} {p q : Int32} (hc : c ≤ 6) (hx : x < 10) (hy : y < 10) (hp : c < 5 → p = nI x) (hq : c < 3 → q = nI y) (hn : 10 < n) : m_X4_reasonAgainst n T (nI (dc c)) p q = some (nI (why a c x y)) := by
  unfold m_X4_reasonAgainst why
  have e0 := e_anyFades h hO hn
  have h2 := hO.h2
  rcases (show c = 5 ∨ c = 6 ∨ c < 5 by omega) with rfl | rfl | h5
  · have hd : dc 5 = 46 := rfl
    simp (disch := omega) only [litN, nI_add, pk_mul, pk_sub, nI_negR, nI_negL, nI_negE, nI_negLt, nI_negGe, nI_ltE, nI_leE, nI_eqI, nI_clamp, inB_n, gd_tt, bindS, if_true, if_false, reduceIte, leT, leF, ltT, ltF, eqT, eqF, hd, h.h2]
    by_cases w : a 0 2 = 0 <;> simp [w] <;> rfl
  · have hd : dc 6 = 126 := rfl
    simp (disch := omega) only [litN, nI_add, pk_mul, pk_sub, nI_negR, nI_negL, nI_negE, nI_negLt, nI_negGe, nI_ltE, nI_leE, nI_eqI, nI_clamp, inB_n, gd_tt, bindS, if_true, if_false, reduceIte, leT, leF, ltT, ltF, eqT, eqF, hd, e0, nI_f0]
    cases anyF a <;> rfl
  · have e1 := e_hereT (n := n) h hO hx
    have e2 := e_hereT (n := n) h hO hy
    rw [hp h5]
    have hd1 : ¬ dc c = 46 := by rcases (show c = 0 ∨ c = 1 ∨ c = 2 ∨ c = 3 ∨ c = 4 by omega) with rfl | rfl | rfl | rfl | rfl <;> decide
    have hd2 : ¬ dc c = 126 := by rcases (show c = 0 ∨ c = 1 ∨ c = 2 ∨ c = 3 ∨ c = 4 by omega) with rfl | rfl | rfl | rfl | rfl <;> decide
    have hd3 : dc c < 127 := by rcases (show c = 0 ∨ c = 1 ∨ c = 2 ∨ c = 3 ∨ c = 4 by omega) with rfl | rfl | rfl | rfl | rfl <;> decide
    simp (disch := omega) only [litN, nI_add, pk_mul, pk_sub, nI_negR, nI_negL, nI_negE, nI_negLt, nI_negGe, nI_ltE, nI_leE, nI_eqI, nI_clamp, inB_n, gd_tt, bindS, if_true, if_false, reduceIte, leT, leF, ltT, ltF, eqT, eqF, hd1, hd2, e1, nI_f0]
    cases hb : (a 0 0).testBit x
    · rfl
    by_cases h3 : 3 ≤ c
    · rcases (show c = 3 ∨ c = 4 by omega) with rfl | rfl
      · have hd : dc 3 = 100 := rfl
        simp (disch := omega) only [litN, nI_add, pk_mul, pk_sub, nI_negR, nI_negL, nI_negE, nI_negLt, nI_negGe, nI_ltE, nI_leE, nI_eqI, nI_clamp, inB_n, gd_tt, bindS, if_true, if_false, reduceIte, leT, leF, ltT, ltF, eqT, eqF, hd, Bool.true_eq_false]
      · have hd : dc 4 = 62 := rfl
        simp (disch := omega) only [litN, nI_add, pk_mul, pk_sub, nI_negR, nI_negL, nI_negE, nI_negLt, nI_negGe, nI_ltE, nI_leE, nI_eqI, nI_clamp, inB_n, gd_tt, bindS, if_true, if_false, reduceIte, leT, leF, ltT, ltF, eqT, eqF, hd, Bool.true_eq_false]
    · have hd4 : ¬ dc c = 100 := by rcases (show c = 0 ∨ c = 1 ∨ c = 2 by omega) with rfl | rfl | rfl <;> decide
      have hd5 : ¬ dc c = 62 := by rcases (show c = 0 ∨ c = 1 ∨ c = 2 by omega) with rfl | rfl | rfl <;> decide
      rw [hq (by omega)]
      simp (disch := omega) only [litN, nI_add, pk_mul, pk_sub, nI_negR, nI_negL, nI_negE, nI_negLt, nI_negGe, nI_ltE, nI_leE, nI_eqI, nI_clamp, inB_n, gd_tt, bindS, if_true, if_false, reduceIte, leT, leF, ltT, ltF, eqT, eqF, hd4, hd5, Bool.true_eq_false, e2, nI_f0]
      cases hb2 : (a 0 0).testBit y
      · rfl
      by_cases hxy : x = y
      · simp [hxy]
      · have e3 := e_forb (n := n) h hO (c := c) (by omega) hx hy hxy
        simp (disch := omega) only [litN, nI_add, pk_mul, pk_sub, nI_negR, nI_negL, nI_negE, nI_negLt, nI_negGe, nI_ltE, nI_leE, nI_eqI, nI_clamp, inB_n, gd_tt, bindS, if_true, if_false, reduceIte, leT, leF, ltT, ltF, eqT, eqF, hxy, e3, nI_f0, Bool.true_eq_false]
        cases forb a c x y <;> rfl
theorem e_whyNot (h : RS S a) (hO : OKA a) {c x y : Nat} (hc : c ≤ 6) (hx : x < 10) (hy : y < 10) (hn : 100 < n) : m_X6_whyNot n S L (nI c) (nI x) (nI y) = some (nI (why a c x y)) := by
  unfold m_X6_whyNot why
  have e0 := e_canAny (L := L) h hO hn
  have h2 := hO.h2
  have e1 := e_has (n := n) (s := a 0 0) (k := x) hO.h0 (by omega)
  have e2 := e_has (n := n) (s := a 0 0) (k := y) hO.h0 (by omega)
  have r4 := h.r4 (j := 10 * x + y) (by omega)
  have r5 := h.r5 (j := 10 * x + y) (by omega)
  have h9 := hO.s9 (j := 10 * x + y) (by omega)
  have h3 := hO.k3 (j := 10 * x + y) (by omega)
  rcases (show c = 5 ∨ c = 6 ∨ c < 5 by omega) with rfl | rfl | h5
  · simp (disch := omega) only [litN, nI_add, pk_mul, pk_sub, nI_negR, nI_negL, nI_negE, nI_negLt, nI_negGe, nI_ltE, nI_leE, nI_eqI, nI_clamp, inB_n, gd_tt, bindS, if_true, if_false, reduceIte, leT, leF, ltT, ltF, eqT, eqF, h.h2]
    by_cases w : a 0 2 = 0 <;> simp [w] <;> rfl
  · simp (disch := omega) only [litN, nI_add, pk_mul, pk_sub, nI_negR, nI_negL, nI_negE, nI_negLt, nI_negGe, nI_ltE, nI_leE, nI_eqI, nI_clamp, inB_n, gd_tt, bindS, if_true, if_false, reduceIte, leT, leF, ltT, ltF, eqT, eqF, e0, nI_f0]
    cases anyF a <;> rfl
  · simp (disch := omega) only [litN, nI_add, pk_mul, pk_sub, nI_negR, nI_negL, nI_negE, nI_negLt, nI_negGe, nI_ltE, nI_leE, nI_eqI, nI_clamp, inB_n, gd_tt, bindS, if_true, if_false, reduceIte, leT, leF, ltT, ltF, eqT, eqF, e1, h.h0, nI_f0]
    cases hb : (a 0 0).testBit x
    · rfl
    by_cases h3' : 3 ≤ c
    · simp [h3']
    · simp only [Bool.true_eq_false, if_false, h3']
      unfold m_X6_whyNoTie forb
      simp (disch := omega) only [litN, nI_add, pk_mul, pk_sub, nI_negR, nI_negL, nI_negE, nI_negLt, nI_negGe, nI_ltE, nI_leE, nI_eqI, nI_clamp, inB_n, gd_tt, bindS, if_true, if_false, reduceIte, leT, leF, ltT, ltF, eqT, eqF, e2, h.h0, nI_f0, r4, r5]
      cases hb2 : (a 0 0).testBit y
      · rfl
      by_cases hxy : x = y
      · simp [hxy]
      · simp only [Bool.true_eq_false, if_false, hxy]
        rcases (show c = 0 ∨ c = 1 ∨ c = 2 by omega) with rfl | rfl | rfl
        · by_cases q : a 1 (10 * x + y) = 9 <;> simp [q] <;> rfl
        · by_cases q : a 1 (10 * x + y) = 0 <;> simp [q] <;> rfl
        · by_cases q : a 1 (10 * x + y) = 9
          · by_cases q2 : a 2 (10 * x + y) = 3 <;> simp [q, q2] <;> rfl
          · simp [q]
/-- a month without meeting, cell by cell -/
def fdA (a : AT) : Nat → AT
  | 0 => a
  | k + 1 => if faq (fdA a k) k = true then tieA (fdA a k) (k / 10) (k % 10) (fdA a k 2 k) (fdA a k 1 k - 1) else fdA a k
theorem fdA_s (a : AT) (k : Nat) : fdA a (k + 1) = if faq (fdA a k) k = true then tieA (fdA a k) (k / 10) (k % 10) (fdA a k 2 k) (fdA a k 1 k - 1) else fdA a k := rfl
theorem fdA_ok (hO : OKA a) : ∀ k, k ≤ 100 → OKA (fdA a k)
  | 0, _ => hO
  | k + 1, h => by
    have ih := fdA_ok hO k (by omega)
    rw [fdA_s]
    by_cases q : faq (fdA a k) k = true
    · rw [if_pos q]
      unfold faq at q
      rw [Bool.and_eq_true, decide_eq_true_eq] at q
      have h9 := ih.s9 (j := k) (by omega)
      exact ih.tie (by omega) (by omega) (by omega) (ih.k3 (by omega)) (by omega)
    · rw [if_neg q]
      exact ih
theorem fdA_skip (a : AT) (x : Nat) : ∀ j, j ≤ x + 1 → x < 10 → fdA a (10 * x + j) = fdA a (10 * x)
  | 0, _, _ => rfl
  | j + 1, h, hx => by
    rw [show 10 * x + (j + 1) = (10 * x + j) + 1 by omega, fdA_s, if_neg, fdA_skip a x j (by omega) hx]
    unfold faq
    simp only [Bool.and_eq_true, decide_eq_true_eq]
    intro h2
    by_cases hj : j < 10
    · omega
    · omega
theorem e_fadeAll (h : RT T a) (hO : OKA a) (hn : 10 < n) : ∃ T', m_X4_fadeAll n T = some T' ∧ RT T' (fdA a 100) := by
  unfold m_X4_fadeAll
  refine loop_inv (b_X4_fadeAll_2 n) (fun x s => s.1 = nI x ∧ RT s.2 (fdA a (10 * x))) 10 (fun o => ∃ T', o = some T' ∧ RT T' (fdA a 100)) (fun x hx s hs kk => ?_) (fun s hs kk => ?_) _ n ⟨rfl, h⟩ hn
  · left
    obtain ⟨h1, h2⟩ := hs
    unfold b_X4_fadeAll_2
    simp (disch := omega) only [litN, nI_add, pk_mul, pk_sub, nI_negR, nI_negL, nI_negE, nI_negLt, nI_negGe, nI_ltE, nI_leE, nI_eqI, nI_clamp, inB_n, gd_tt, bindS, if_true, if_false, reduceIte, leT, leF, ltT, ltF, eqT, eqF, h1]
    refine loop_inv (b_X4_fadeAll_12 n (nI x) kk) (fun j t => t.1 = nI (x + 1 + j) ∧ RT t.2 (fdA a (10 * x + (x + 1) + j))) (9 - x) (fun o => ∃ s', o = kk s' ∧ s'.1 = nI (x + 1) ∧ RT s'.2 (fdA a (10 * (x + 1)))) (fun j hj t ht k2 => ?_) (fun t ht k2 => ?_) _ n ⟨rfl, by show RT s.2 (fdA a (10 * x + (x + 1))); rw [fdA_skip a x (x + 1) (by omega) hx]; exact h2⟩ (by omega)
    · left
      obtain ⟨g1, g2⟩ := ht
      have hOk := fdA_ok hO (10 * x + (x + 1) + j) (by omega)
      have e1 := e_fades (n := n) g2 hOk (x := x) (y := x + 1 + j) hx (by omega) (by omega)
      have e2 := e_kind (n := n) g2 (x := x) (y := x + 1 + j) hx (by omega) (by omega)
      have e3 := e_strength (n := n) g2 (x := x) (y := x + 1 + j) hx (by omega)
      have hq : 10 * x + (x + 1 + j) = 10 * x + (x + 1) + j := by omega
      have hfq : faq (fdA a (10 * x + (x + 1) + j)) (10 * x + (x + 1) + j) = fd (fdA a (10 * x + (x + 1) + j)) x (x + 1 + j) := by
        unfold faq
        rw [show (10 * x + (x + 1) + j) / 10 = x by omega, show (10 * x + (x + 1) + j) % 10 = x + 1 + j by omega, decide_eq_true (by omega : x < x + 1 + j), Bool.true_and]
      have hs := fdA_s a (10 * x + (x + 1) + j)
      rw [hfq, show (10 * x + (x + 1) + j) / 10 = x by omega, show (10 * x + (x + 1) + j) % 10 = x + 1 + j by omega] at hs
      rw [hq] at e2 e3
      cases hf : fd (fdA a (10 * x + (x + 1) + j)) x (x + 1 + j)
      · rw [hf, if_neg (by decide)] at hs
        rw [hf] at e1
        refine ⟨(nI (x + 1 + (j + 1)), t.2), ?_, rfl, ?_⟩
        · unfold b_X4_fadeAll_12
          simp (disch := omega) only [litN, nI_add, pk_mul, pk_sub, nI_negR, nI_negL, nI_negE, nI_negLt, nI_negGe, nI_ltE, nI_leE, nI_eqI, nI_clamp, inB_n, gd_tt, bindS, if_true, if_false, reduceIte, leT, leF, ltT, ltF, eqT, eqF, g1, e1, nI_f0]
          rfl
        · rw [show 10 * x + (x + 1) + (j + 1) = 10 * x + (x + 1) + j + 1 by omega, hs]
          exact g2
      · rw [hf, if_pos rfl] at hs
        rw [hf] at e1
        have hst : 0 < fdA a (10 * x + (x + 1) + j) 1 (10 * x + (x + 1) + j) := by
          unfold fd at hf
          simp only [Bool.and_eq_true, decide_eq_true_eq] at hf
          have := hf.2.2.2
          rw [hq] at this
          exact this
        obtain ⟨T', b1, b2⟩ := e_bind (n := n) g2 (x := x) (y := x + 1 + j) (k := fdA a (10 * x + (x + 1) + j) 2 (10 * x + (x + 1) + j)) (v := fdA a (10 * x + (x + 1) + j) 1 (10 * x + (x + 1) + j) - 1) hx (by omega) (by omega)
        refine ⟨(nI (x + 1 + (j + 1)), T'), ?_, rfl, ?_⟩
        · unfold b_X4_fadeAll_12
          simp (disch := omega) only [litN, nI_add, pk_mul, pk_sub, nI_negR, nI_negL, nI_negE, nI_negLt, nI_negGe, nI_ltE, nI_leE, nI_eqI, nI_clamp, inB_n, gd_tt, bindS, if_true, if_false, reduceIte, leT, leF, ltT, ltF, eqT, eqF, g1, e1, e2, e3, nI_f0, Bool.true_eq_false, b1]
          rfl
        · rw [show 10 * x + (x + 1) + (j + 1) = 10 * x + (x + 1) + j + 1 by omega, hs]
          exact b2
    · obtain ⟨g1, g2⟩ := ht
      unfold b_X4_fadeAll_12
      simp (disch := omega) only [litN, nI_add, pk_mul, pk_sub, nI_negR, nI_negL, nI_negE, nI_negLt, nI_negGe, nI_ltE, nI_leE, nI_eqI, nI_clamp, inB_n, gd_tt, bindS, if_true, if_false, reduceIte, leT, leF, ltT, ltF, eqT, eqF, g1]
      refine ⟨_, rfl, rfl, ?_⟩
      rw [show 10 * x + (x + 1) + (9 - x) = 10 * (x + 1) by omega] at g2
      exact g2
  · obtain ⟨h1, h2⟩ := hs
    unfold b_X4_fadeAll_2
    simp (disch := omega) only [litN, nI_add, pk_mul, pk_sub, nI_negR, nI_negL, nI_negE, nI_negLt, nI_negGe, nI_ltE, nI_leE, nI_eqI, nI_clamp, inB_n, gd_tt, bindS, if_true, if_false, reduceIte, leT, leF, ltT, ltF, eqT, eqF, h1]
    exact ⟨_, rfl, h2⟩
theorem e_month (h : RS S a) (hO : OKA a) (hn : 100 < n) : ∃ S', m_X6_month n S L = some S' ∧ RS S' (fdA a 100) ∧ ∀ i, ¬ i = 4 → ¬ i = 5 → S' i = S i := by
  unfold m_X6_month
  refine loop_inv (b_X6_month_2 n L) (fun e s => s.1 = nI e ∧ RS s.2 (fdA a e) ∧ ∀ i, ¬ i = 4 → ¬ i = 5 → s.2 i = S i) 100 (fun o => ∃ S', o = some S' ∧ RS S' (fdA a 100) ∧ ∀ i, ¬ i = 4 → ¬ i = 5 → S' i = S i) (fun e he s hs kk => ?_) (fun s hs kk => ?_) _ n ⟨rfl, h, fun i _ _ => rfl⟩ hn
  · left
    obtain ⟨h1, h2, h3⟩ := hs
    have hOk := fdA_ok hO e (by omega)
    have e1 := e_canFade (n := n) (L := L) h2 hOk (x := e / 10) (y := e % 10) (by omega) (by omega)
    have hs := fdA_s a e
    have r4 := h2.r4 (j := e) he
    have r5 := h2.r5 (j := e) he
    cases hf : faq (fdA a e) e
    · rw [hf, if_neg (by decide)] at hs
      unfold faq at hf
      rw [hf] at e1
      refine ⟨(nI (e + 1), s.2), ?_, rfl, ?_, h3⟩
      · unfold b_X6_month_2
        simp (disch := omega) only [litN, nI_add, pk_mul, pk_sub, nI_negR, nI_negL, nI_negE, nI_negLt, nI_negGe, nI_ltE, nI_leE, nI_eqI, nI_clamp, inB_n, gd_tt, bindS, if_true, if_false, reduceIte, leT, leF, ltT, ltF, eqT, eqF, h1, pk_div, pk_remJ, e1, nI_f0]
      · rw [hs]
        exact h2
    · rw [hf, if_pos rfl] at hs
      unfold faq at hf
      rw [hf] at e1
      have hne : e / 10 < e % 10 ∧ 0 < fdA a e 1 e := by
        unfold fd at hf
        simp only [Bool.and_eq_true, decide_eq_true_eq] at hf
        refine ⟨hf.1, ?_⟩
        have := hf.2.2.2.2
        rw [show 10 * (e / 10) + e % 10 = e by omega] at this
        exact this
      obtain ⟨S1, b1, b2, b3⟩ := e_setTie (n := n) (L := L) h2 (x := e / 10) (y := e % 10) (k := fdA a e 2 e) (v := fdA a e 1 e - 1) (by omega) (by omega) (by omega)
      refine ⟨(nI (e + 1), S1), ?_, rfl, ?_, fun i i1 i2 => ?_⟩
      · unfold b_X6_month_2
        have hst := hne.2
        simp (disch := omega) only [litN, nI_add, pk_mul, pk_sub, nI_negR, nI_negL, nI_negE, nI_negLt, nI_negGe, nI_ltE, nI_leE, nI_eqI, nI_clamp, inB_n, gd_tt, bindS, if_true, if_false, reduceIte, leT, leF, ltT, ltF, eqT, eqF, h1, pk_div, pk_remJ, e1, nI_f0, Bool.true_eq_false, r4, r5, b1]
      · rw [hs]
        exact b2
      · show S1 i = S i
        rw [b3 i i1 i2, h3 i i1 i2]
  · obtain ⟨h1, h2, h3⟩ := hs
    unfold b_X6_month_2
    simp (disch := omega) only [litN, nI_add, pk_mul, pk_sub, nI_negR, nI_negL, nI_negE, nI_negLt, nI_negGe, nI_ltE, nI_leE, nI_eqI, nI_clamp, inB_n, gd_tt, bindS, if_true, if_false, reduceIte, leT, leF, ltT, ltF, eqT, eqF, h1]
    exact ⟨_, rfl, h2, h3⟩
