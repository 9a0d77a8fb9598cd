/-! IMAGES -/
variable {n : Nat} {X T I J P C V F S S' : TI} {A L : TL} {a : AT}
theorem e_copyRow {N : Nat} {f g : Nat → Int32} (hN : N < 1000) (hn : 1100 < n) : ∃ r, m_X4_copyRow n N f N g = some r ∧ ∀ j, j < N → r j = f j := by
  unfold m_X4_copyRow
  refine loop_inv (b_X4_copyRow_2 n N f N) (fun k s => s.1 = nI k ∧ ∀ j, j < k → s.2 j = f j) N (fun o => ∃ r, o = some r ∧ ∀ j, j < N → r j = f j) (fun k hk s hs kk => ?_) (fun s hs kk => ?_) _ n ⟨rfl, fun j hj => absurd hj (Nat.not_lt_zero _)⟩ (by omega)
  · left
    obtain ⟨h1, h2⟩ := hs
    unfold b_X4_copyRow_2
    simp only [show Int32.ofNat N = nI N from rfl]
    simp (disch := omega) only [litN, nI_add, pk_mul, pk_sub, nI_negR, nI_negL, nI_negE, nI_negLt, nI_negGe, nI_ltE, nI_leE, nI_eqI, nI_clamp, inB_n, gd_tt, bindS, if_true, if_false, reduceIte, leT, leF, ltT, ltF, eqT, eqF, h1]
    refine ⟨_, rfl, rfl, fun j hj => ?_⟩
    simp only [upd_v]
    by_cases q : j = k
    · rw [if_pos q, q]
    · rw [if_neg q]
      exact h2 j (by omega)
  · obtain ⟨h1, h2⟩ := hs
    unfold b_X4_copyRow_2
    simp only [show Int32.ofNat N = nI N from rfl]
    simp (disch := omega) only [litN, nI_add, pk_mul, pk_sub, nI_negR, nI_negL, nI_negE, nI_negLt, nI_negGe, nI_ltE, nI_leE, nI_eqI, nI_clamp, inB_n, gd_tt, bindS, if_true, if_false, reduceIte, leT, leF, ltT, ltF, eqT, eqF, h1]
    exact ⟨_, rfl, h2⟩
theorem e_copyFrom {U : TI} (h : RT U a) (hO : OKA a) (hn : 1100 < n) : ∃ T', m_X4_copyFrom n T U = some T' ∧ RT T' a := by
  unfold m_X4_copyFrom
  obtain ⟨r6, a6, b6⟩ := e_copyRow (n := n) (N := 100) (f := U 6) (g := T 6) (by omega) hn
  obtain ⟨r7, a7, b7⟩ := e_copyRow (n := n) (N := 100) (f := U 7) (g := T 7) (by omega) hn
  obtain ⟨r8, a8, b8⟩ := e_copyRow (n := n) (N := 4) (f := U 8) (g := T 8) (by omega) hn
  obtain ⟨r9, a9, b9⟩ := e_copyRow (n := n) (N := 8) (f := U 9) (g := T 9) (by omega) hn
  have h3 := hO.h3
  simp only [a6, a7, a8, a9, bindS]
  refine ⟨_, rfl, ⟨?_, ?_, ?_, ?_, ?_⟩, fun j hj => ?_, fun j hj => ?_, fun j hj => ?_, fun j hj => ?_⟩ <;> simp (disch := omega) only [sf_s, sf_n, sf_r, upA_n, upA_s, h.h0, h.h1, h.h2, h.h3, h.h4]
  · rw [b6 j hj, h.r6 hj]
  · rw [b7 j hj, h.r7 hj]
  · rw [b8 j hj, h.r8 hj]
  · rw [b9 j (by omega), h.r9 hj]
def vw (w : Bool) (x y : Int32) : Int32 := bif w then x else y
theorem e_pass {w : Bool} {p : Nat} (hw : S 0 31 = nI w.toNat) (hp : S 0 30 = nI p) (h : p < 480) (x : Int32) : ∃ S', m_X6_pass n S L x = some (vw w x (S 29 p), S') ∧ S' 29 p = vw w x (S 29 p) ∧ (∀ q, (q < p ∨ p + 1 ≤ q) → S' 29 q = S 29 q) ∧ S' 0 30 = nI (p + 1) ∧ (∀ j, ¬ j = 30 → S' 0 j = S 0 j) ∧ ∀ i, ¬ i = 0 → ¬ i = 29 → S' i = S i := by
  unfold m_X6_pass
  simp (disch := omega) only [litN, nI_add, pk_mul, pk_sub, nI_negR, nI_negL, nI_negE, nI_negLt, nI_negGe, nI_ltE, nI_leE, nI_eqI, nI_clamp, inB_n, gd_tt, bindS, if_true, if_false, reduceIte, leT, leF, ltT, ltF, eqT, eqF, hw, hp, nI_f0]
  have key : ∀ v : Int32, (sf (upA S 29 (upd (S 29) p v)) 30 (nI (p + 1))) 29 p = v ∧ (∀ q, (q < p ∨ p + 1 ≤ q) → (sf (upA S 29 (upd (S 29) p v)) 30 (nI (p + 1))) 29 q = S 29 q) ∧ (sf (upA S 29 (upd (S 29) p v)) 30 (nI (p + 1))) 0 30 = nI (p + 1) ∧ (∀ j, ¬ j = 30 → (sf (upA S 29 (upd (S 29) p v)) 30 (nI (p + 1))) 0 j = S 0 j) ∧ ∀ i, ¬ i = 0 → ¬ i = 29 → (sf (upA S 29 (upd (S 29) p v)) 30 (nI (p + 1))) i = S i := by
    intro v
    refine ⟨?_, fun q hq => ?_, sf_s, fun j hj => ?_, fun i h1 h2 => ?_⟩
    · simp (disch := omega) only [sf_r, upA_s, upd_v, if_true]
    · simp (disch := omega) only [sf_r, upA_s, upd_v]
      rw [if_neg (by omega)]
    · rw [sf_n hj, upA_n (by decide)]
    · rw [sf_r h1, upA_n h2]
  cases w
  · rw [if_pos rfl]
    exact ⟨_, rfl, key _⟩
  · rw [if_neg (by decide)]
    exact ⟨_, rfl, key _⟩
def bPR (n : Nat) (L : TL) (r N : Nat) (a2 : Int32) (s : Int32 × TI) (k : Int32 × TI → Option TI) : Option TI := (if a2 ≤ s.1 then some s.2 else (gd (inB s.1 N) (((m_X6_pass n s.2 L ((s.2 r) (Int32.toNatClampNeg s.1))).bind fun u13 => (gd (inB s.1 N) ((k ((s.1 + 1), (upA u13.2 r (upd (u13.2 r) (Int32.toNatClampNeg s.1) u13.1)))))))))) 
theorem e_passRow {w : Bool} {p r N : Nat} (hN : N ≤ 100) (hr : r = 4 ∨ r = 5 ∨ r = 6 ∨ r = 7 ∨ r = 8) (hw : S 0 31 = nI w.toNat) (hp : S 0 30 = nI p) (h : p + N ≤ 480) (hn : 1100 < n) : ∃ S', loopF (bPR n L r N (nI N)) n (nI 0, S) = some S' ∧ (∀ j, j < N → S' r j = vw w (S r j) (S 29 (p + j)) ∧ S' 29 (p + j) = vw w (S r j) (S 29 (p + j))) ∧ (∀ q, (q < p ∨ p + N ≤ q) → S' 29 q = S 29 q) ∧ S' 0 30 = nI (p + N) ∧ (∀ j, ¬ j = 30 → S' 0 j = S 0 j) ∧ ∀ i, ¬ i = 0 → ¬ i = 29 → ¬ i = r → S' i = S i := by
  refine loop_inv (bPR n L r N (nI N)) (fun k s => s.1 = nI k ∧ (∀ j, j < k → s.2 r j = vw w (S r j) (S 29 (p + j)) ∧ s.2 29 (p + j) = vw w (S r j) (S 29 (p + j))) ∧ (∀ j, k ≤ j → s.2 r j = S r j) ∧ (∀ q, (q < p ∨ p + k ≤ q) → s.2 29 q = S 29 q) ∧ s.2 0 30 = nI (p + k) ∧ (∀ j, ¬ j = 30 → s.2 0 j = S 0 j) ∧ ∀ i, ¬ i = 0 → ¬ i = 29 → ¬ i = r → s.2 i = S i) N (fun o => ∃ S', o = some S' ∧ (∀ j, j < N → S' r j = vw w (S r j) (S 29 (p + j)) ∧ S' 29 (p + j) = vw w (S r j) (S 29 (p + j))) ∧ (∀ q, (q < p ∨ p + N ≤ q) → S' 29 q = S 29 q) ∧ S' 0 30 = nI (p + N) ∧ (∀ j, ¬ j = 30 → S' 0 j = S 0 j) ∧ ∀ i, ¬ i = 0 → ¬ i = 29 → ¬ i = r → S' i = S i) (fun k hk s hs kk => ?_) (fun s hs kk => ?_) _ n ⟨rfl, fun j hj => absurd hj (Nat.not_lt_zero _), fun j _ => rfl, fun q _ => rfl, hp, fun j _ => rfl, fun i _ _ _ => rfl⟩ (by omega)
  · left
    obtain ⟨h1, h2, h3, h4, h5, h6, h7⟩ := hs
    obtain ⟨S1, p1, p2, p3, p4, p5, p6⟩ := e_pass (n := n) (L := L) (S := s.2) (w := w) (p := p + k) (by rw [h6 31 (by decide), hw]) h5 (by omega) (s.2 r k)
    have hr0 : ¬ r = 0 := by omega
    have hr29 : ¬ r = 29 := by omega
    rw [h3 k (Nat.le_refl _), h4 (p + k) (by omega)] at p1 p2
    have q1 := p6 r hr0 hr29
    unfold bPR
    simp (disch := omega) only [litN, nI_add, pk_mul, pk_sub, nI_negR, nI_negL, nI_negE, nI_negLt, nI_negGe, nI_ltE, nI_leE, nI_eqI, nI_clamp, inB_n, gd_tt, bindS, if_true, if_false, reduceIte, leT, leF, ltT, ltF, eqT, eqF, h1, h3 k (Nat.le_refl _), p1]
    refine ⟨_, rfl, rfl, fun j hj => ⟨?_, ?_⟩, fun j hj => ?_, fun q hq => ?_, ?_, fun j hj => ?_, fun i i1 i2 i3 => ?_⟩
    · simp only [upA_s, upd_v]
      by_cases q : j = k
      · rw [if_pos q, q]
      · rw [if_neg q, q1]
        exact (h2 j (by omega)).1
    · dsimp only
      rw [upA_n (by omega)]
      by_cases q : j = k
      · rw [q, p2]
      · rw [p3 _ (by omega)]
        exact (h2 j (by omega)).2
    · simp only [upA_s, upd_v]
      rw [if_neg (by omega), q1]
      exact h3 j (by omega)
    · dsimp only
      rw [upA_n (by omega), p3 q (by omega)]
      exact h4 q (by omega)
    · dsimp only
      rw [upA_n (by omega)]
      exact p4
    · dsimp only
      rw [upA_n (by omega), p5 j hj]
      exact h6 j hj
    · dsimp only
      rw [upA_n i3, p6 i i1 i2]
      exact h7 i i1 i2 i3
  · obtain ⟨h1, h2, h3, h4, h5, h6, h7⟩ := hs
    unfold bPR
    simp (disch := omega) only [litN, nI_add, pk_mul, pk_sub, nI_negR, nI_negL, nI_negE, nI_negLt, nI_negGe, nI_ltE, nI_leE, nI_eqI, nI_clamp, inB_n, gd_tt, bindS, if_true, if_false, reduceIte, leT, leF, ltT, ltF, eqT, eqF, h1]
    exact ⟨s.2, rfl, h2, h4, h5, h6, h7⟩
/-- all that an image holds has been passed -/
def PAL (w : Bool) (k : Nat) (S S' : TI) : Prop := ((S' 0 0 = vw w (S 0 0) (S 29 (240 * k)) ∧ S' 29 (240 * k) = vw w (S 0 0) (S 29 (240 * k))) ∧ (S' 0 1 = vw w (S 0 1) (S 29 (240 * k + 1)) ∧ S' 29 (240 * k + 1) = vw w (S 0 1) (S 29 (240 * k + 1))) ∧ (S' 0 2 = vw w (S 0 2) (S 29 (240 * k + 2)) ∧ S' 29 (240 * k + 2) = vw w (S 0 2) (S 29 (240 * k + 2))) ∧ (S' 0 8 = vw w (S 0 8) (S 29 (240 * k + 3)) ∧ S' 29 (240 * k + 3) = vw w (S 0 8) (S 29 (240 * k + 3)))) ∧ (∀ j, j < 100 → S' 4 j = vw w (S 4 j) (S 29 (240 * k + 4 + j)) ∧ S' 29 (240 * k + 4 + j) = vw w (S 4 j) (S 29 (240 * k + 4 + j))) ∧ (∀ j, j < 100 → S' 5 j = vw w (S 5 j) (S 29 (240 * k + 104 + j)) ∧ S' 29 (240 * k + 104 + j) = vw w (S 5 j) (S 29 (240 * k + 104 + j))) ∧ (∀ j, j < 4 → S' 6 j = vw w (S 6 j) (S 29 (240 * k + 204 + j)) ∧ S' 29 (240 * k + 204 + j) = vw w (S 6 j) (S 29 (240 * k + 204 + j))) ∧ (∀ j, j < 8 → S' 7 j = vw w (S 7 j) (S 29 (240 * k + 208 + j)) ∧ S' 29 (240 * k + 208 + j) = vw w (S 7 j) (S 29 (240 * k + 208 + j))) ∧ (∀ j, j < 8 → S' 8 j = vw w (S 8 j) (S 29 (240 * k + 216 + j)) ∧ S' 29 (240 * k + 216 + j) = vw w (S 8 j) (S 29 (240 * k + 216 + j))) ∧ (∀ q, (q < 240 * k ∨ 240 * k + 224 ≤ q) → S' 29 q = S 29 q) ∧ S' 0 10 = S 0 10 ∧ S' 10 = S 10 ∧ S' 30 = S 30
theorem e_passAll {w : Bool} {k : Nat} (hk : k < 2) (hw : S 0 31 = nI w.toNat) (hp : S 0 30 = nI (240 * k)) (hn : 1100 < n) : ∃ S', m_X6_passAll n S L = some S' ∧ PAL w k S S' := by
  unfold m_X6_passAll
  obtain ⟨A1, a1, a2, a3, a4, a5, a6⟩ := e_pass (n := n) (L := L) hw hp (by omega) (S 0 0)
  simp only [a1, bindS]
  obtain ⟨B1, hB1⟩ : ∃ Z, Z = sf A1 0 (vw w (S 0 0) (S 29 (240 * k))) := ⟨_, rfl⟩
  have c1 : B1 0 0 = vw w (S 0 0) (S 29 (240 * k)) := by rw [hB1, sf_s]
  have c2 : ∀ j, ¬ j = 0 → B1 0 j = A1 0 j := fun j hj => by rw [hB1, sf_n hj]
  have c3 : ∀ i, ¬ i = 0 → B1 i = A1 i := fun i hi => by rw [hB1, sf_r hi]
  have c4 : A1 0 1 = B1 0 1 := (c2 1 (by decide)).symm
  rw [← hB1, c4]
  obtain ⟨A2, d1, d2, d3, d4, d5, d6⟩ := e_pass (n := n) (L := L) (S := B1) (w := w) (p := 240 * k + 1) (by rw [c2 31 (by decide), a5 31 (by decide), hw]) (by rw [c2 30 (by decide), a4]) (by omega) (B1 0 1)
  simp only [d1, bindS]
  obtain ⟨B2, hB2⟩ : ∃ Z, Z = sf A2 1 (vw w (B1 0 1) (B1 29 (240 * k + 1))) := ⟨_, rfl⟩
  have e1 : B2 0 1 = vw w (B1 0 1) (B1 29 (240 * k + 1)) := by rw [hB2, sf_s]
  have e2 : ∀ j, ¬ j = 1 → B2 0 j = A2 0 j := fun j hj => by rw [hB2, sf_n hj]
  have e3 : ∀ i, ¬ i = 0 → B2 i = A2 i := fun i hi => by rw [hB2, sf_r hi]
  have e4 : A2 0 2 = B2 0 2 := (e2 2 (by decide)).symm
  rw [← hB2, e4]
  obtain ⟨A3, f1, f2, f3, f4, f5, f6⟩ := e_pass (n := n) (L := L) (S := B2) (w := w) (p := 240 * k + 2) (by rw [e2 31 (by decide), d5 31 (by decide), c2 31 (by decide), a5 31 (by decide), hw]) (by rw [e2 30 (by decide), d4]) (by omega) (B2 0 2)
  simp only [f1, bindS]
  obtain ⟨B3, hB3⟩ : ∃ Z, Z = sf A3 2 (vw w (B2 0 2) (B2 29 (240 * k + 2))) := ⟨_, rfl⟩
  have g1 : B3 0 2 = vw w (B2 0 2) (B2 29 (240 * k + 2)) := by rw [hB3, sf_s]
  have g2 : ∀ j, ¬ j = 2 → B3 0 j = A3 0 j := fun j hj => by rw [hB3, sf_n hj]
  have g3 : ∀ i, ¬ i = 0 → B3 i = A3 i := fun i hi => by rw [hB3, sf_r hi]
  have g4 : A3 0 8 = B3 0 8 := (g2 8 (by decide)).symm
  rw [← hB3, g4]
  obtain ⟨A4, h1, h2, h3, h4, h5, h6⟩ := e_pass (n := n) (L := L) (S := B3) (w := w) (p := 240 * k + 3) (by rw [g2 31 (by decide), f5 31 (by decide), e2 31 (by decide), d5 31 (by decide), c2 31 (by decide), a5 31 (by decide), hw]) (by rw [g2 30 (by decide), f4]) (by omega) (B3 0 8)
  simp only [h1, bindS]
  obtain ⟨B4, hB4⟩ : ∃ Z, Z = sf A4 8 (vw w (B3 0 8) (B3 29 (240 * k + 3))) := ⟨_, rfl⟩
  have i1 : B4 0 8 = vw w (B3 0 8) (B3 29 (240 * k + 3)) := by rw [hB4, sf_s]
  have i2 : ∀ j, ¬ j = 8 → B4 0 j = A4 0 j := fun j hj => by rw [hB4, sf_n hj]
  have i3 : ∀ i, ¬ i = 0 → B4 i = A4 i := fun i hi => by rw [hB4, sf_r hi]
  rw [← hB4]
  have hw4 : B4 0 31 = nI w.toNat := by rw [i2 31 (by decide), h5 31 (by decide), g2 31 (by decide), f5 31 (by decide), e2 31 (by decide), d5 31 (by decide), c2 31 (by decide), a5 31 (by decide), hw]
  obtain ⟨R1, j1, j2, j3, j4, j5, j6⟩ := e_passRow (n := n) (L := L) (S := B4) (w := w) (p := 240 * k + 4) (r := 4) (N := 100) (by omega) (by omega) hw4 (by rw [i2 30 (by decide), h4]) (by omega) hn
  obtain ⟨R2, k1, k2, k3, k4, k5, k6⟩ := e_passRow (n := n) (L := L) (S := R1) (w := w) (p := 240 * k + 104) (r := 5) (N := 100) (by omega) (by omega) (by rw [j5 31 (by decide), hw4]) (by rw [j4]) (by omega) hn
  obtain ⟨R3, l1, l2, l3, l4, l5, l6⟩ := e_passRow (n := n) (L := L) (S := R2) (w := w) (p := 240 * k + 204) (r := 6) (N := 4) (by omega) (by omega) (by rw [k5 31 (by decide), j5 31 (by decide), hw4]) (by rw [k4]) (by omega) hn
  obtain ⟨R4, m1, m2, m3, m4, m5, m6⟩ := e_passRow (n := n) (L := L) (S := R3) (w := w) (p := 240 * k + 208) (r := 7) (N := 8) (by omega) (by omega) (by rw [l5 31 (by decide), k5 31 (by decide), j5 31 (by decide), hw4]) (by rw [l4]) (by omega) hn
  obtain ⟨R5, o1, o2, o3, o4, o5, o6⟩ := e_passRow (n := n) (L := L) (S := R4) (w := w) (p := 240 * k + 216) (r := 8) (N := 8) (by omega) (by omega) (by rw [m5 31 (by decide), l5 31 (by decide), k5 31 (by decide), j5 31 (by decide), hw4]) (by rw [m4]) (by omega) hn
  have y1 : m_X6_passRow__s3 n B4 L 100 = some R1 := j1
  have y2 : m_X6_passRow__s4 n R1 L 100 = some R2 := k1
  have y3 : m_X6_passRow__s5 n R2 L 4 = some R3 := l1
  have y4 : m_X6_passRow__s6 n R3 L 8 = some R4 := m1
  have y5 : m_X6_passRow__s7 n R4 L 8 = some R5 := o1
  simp only [y1, y2, y3, y4, y5, bindS]
  clear y1 y2 y3 y4 y5 j1 k1 l1 m1 o1 h1 f1 d1 a1 hB1 hB2 hB3 hB4
  have z1 := fun j hj => (j2 j hj).1
  have z2 := fun j hj => (j2 j hj).2
  have z3 := fun j hj => (k2 j hj).1
  have z4 := fun j hj => (k2 j hj).2
  have z5 := fun j hj => (l2 j hj).1
  have z6 := fun j hj => (l2 j hj).2
  have z7 := fun j hj => (m2 j hj).1
  have z8 := fun j hj => (m2 j hj).2
  have z9 := fun j hj => (o2 j hj).1
  have z0 := fun j hj => (o2 j hj).2
  refine ⟨R5, rfl, ⟨⟨?_, ?_⟩, ⟨?_, ?_⟩, ⟨?_, ?_⟩, ⟨?_, ?_⟩⟩, fun j hj => ⟨?_, ?_⟩, fun j hj => ⟨?_, ?_⟩, fun j hj => ⟨?_, ?_⟩, fun j hj => ⟨?_, ?_⟩, fun j hj => ⟨?_, ?_⟩, fun q hq => ?_, ?_, ?_, ?_⟩ <;> simp (disch := omega) only [z1, z2, z3, z4, z5, z6, z7, z8, z9, z0, a2, a3, a5, a6, c1, c2, c3, d2, d3, d5, d6, e1, e2, e3, f2, f3, f5, f6, g1, g2, g3, h2, h3, h5, h6, i1, i2, i3, j3, j5, j6, k3, k5, k6, l3, l5, l6, m3, m5, m6, o3, o5, o6]

theorem pal_w {k : Nat} (h : PAL true k S S') (hS : RS S a) (hO : OKA a) : RS S' a ∧ RK S' k a := by
  obtain ⟨⟨⟨a1, a2⟩, ⟨b1, b2⟩, ⟨c1, c2⟩, ⟨d1, d2⟩⟩, r4, r5, r6, r7, r8, -, -, -, -⟩ := h
  have vt : ∀ x y, vw true x y = x := fun _ _ => rfl
  have h3 := hO.h3
  refine ⟨⟨⟨?_, ?_, ?_, ?_⟩, fun j hj => ?_, fun j hj => ?_, fun j hj => ?_, fun j hj => ?_, fun j hj => ?_⟩, ⟨?_, ?_, ?_, ?_⟩, fun j hj => ?_, fun j hj => ?_, fun j hj => ?_, fun j hj => ?_, fun j hj => ?_⟩
  · rw [a1, vt, hS.h0]
  · rw [b1, vt, hS.h1]
  · rw [c1, vt, hS.h2]
  · rw [d1, vt, hS.h3]
  · rw [(r4 j hj).1, vt, hS.r4 hj]
  · rw [(r5 j hj).1, vt, hS.r5 hj]
  · rw [(r6 j hj).1, vt, hS.r6 hj]
  · rw [(r7 j (by omega)).1, vt, hS.r7 hj]
  · rw [(r8 j (by omega)).1, vt, hS.r8 hj]
  · rw [a2, vt, hS.h0]
  · rw [b2, vt, hS.h1]
  · rw [c2, vt, hS.h2]
  · rw [d2, vt, hS.h3]
  · rw [(r4 j hj).2, vt, hS.r4 hj]
  · rw [(r5 j hj).2, vt, hS.r5 hj]
  · rw [(r6 j hj).2, vt, hS.r6 hj]
  · rw [(r7 j (by omega)).2, vt, hS.r7 hj]
  · rw [(r8 j (by omega)).2, vt, hS.r8 hj]
theorem pal_r {k : Nat} {b : AT} (h : PAL false k S S') (hK : RK S k b) (hO : OKA b) : RS S' b ∧ ∀ q, S' 29 q = S 29 q := by
  obtain ⟨⟨⟨a1, a2⟩, ⟨b1, b2⟩, ⟨c1, c2⟩, ⟨d1, d2⟩⟩, r4, r5, r6, r7, r8, ou, -, -, -⟩ := h
  obtain ⟨⟨k0, k1, k2, k3⟩, k4, k5, k6, k7, k8⟩ := hK
  have vf : ∀ x y, vw false x y = y := fun _ _ => rfl
  have h3 := hO.h3
  refine ⟨⟨⟨?_, ?_, ?_, ?_⟩, fun j hj => ?_, fun j hj => ?_, fun j hj => ?_, fun j hj => ?_, fun j hj => ?_⟩, fun q => ?_⟩
  · rw [a1, vf, k0]
  · rw [b1, vf, k1]
  · rw [c1, vf, k2]
  · rw [d1, vf, k3]
  · rw [(r4 j hj).1, vf, k4 j hj]
  · rw [(r5 j hj).1, vf, k5 j hj]
  · rw [(r6 j hj).1, vf, k6 j hj]
  · rw [(r7 j (by omega)).1, vf, k7 j hj]
  · rw [(r8 j (by omega)).1, vf, k8 j hj]
  · by_cases g1 : q < 240 * k ∨ 240 * k + 224 ≤ q
    · exact ou q g1
    · by_cases g2 : q < 240 * k + 4
      · rcases (show q = 240 * k ∨ q = 240 * k + 1 ∨ q = 240 * k + 2 ∨ q = 240 * k + 3 by omega) with rfl | rfl | rfl | rfl
        · rw [a2, vf]
        · rw [b2, vf]
        · rw [c2, vf]
        · rw [d2, vf]
      · by_cases g4 : q < 240 * k + 104
        · have := (r4 (q - (240 * k + 4)) (by omega)).2
          rw [show 240 * k + 4 + (q - (240 * k + 4)) = q by omega, vf] at this
          exact this
        · by_cases g5 : q < 240 * k + 204
          · have := (r5 (q - (240 * k + 104)) (by omega)).2
            rw [show 240 * k + 104 + (q - (240 * k + 104)) = q by omega, vf] at this
            exact this
          · by_cases g6 : q < 240 * k + 208
            · have := (r6 (q - (240 * k + 204)) (by omega)).2
              rw [show 240 * k + 204 + (q - (240 * k + 204)) = q by omega, vf] at this
              exact this
            · by_cases g7 : q < 240 * k + 216
              · have := (r7 (q - (240 * k + 208)) (by omega)).2
                rw [show 240 * k + 208 + (q - (240 * k + 208)) = q by omega, vf] at this
                exact this
              · have := (r8 (q - (240 * k + 216)) (by omega)).2
                rw [show 240 * k + 216 + (q - (240 * k + 216)) = q by omega, vf] at this
                exact this
theorem RK.same {k : Nat} {b : AT} (h : RK S k b) (hO : OKA b) (he : ∀ q, 240 * k ≤ q → q < 240 * k + 224 → S' 29 q = S 29 q) : RK S' k b := by
  obtain ⟨⟨k0, k1, k2, k3⟩, k4, k5, k6, k7, k8⟩ := h
  have h3 := hO.h3
  refine ⟨⟨?_, ?_, ?_, ?_⟩, fun j hj => ?_, fun j hj => ?_, fun j hj => ?_, fun j hj => ?_, fun j hj => ?_⟩
  · rw [he _ (by omega) (by omega), k0]
  · rw [he _ (by omega) (by omega), k1]
  · rw [he _ (by omega) (by omega), k2]
  · rw [he _ (by omega) (by omega), k3]
  · rw [he _ (by omega) (by omega), k4 j hj]
  · rw [he _ (by omega) (by omega), k5 j hj]
  · rw [he _ (by omega) (by omega), k6 j hj]
  · rw [he _ (by omega) (by omega), k7 j hj]
  · rw [he _ (by omega) (by omega), k8 j hj]
theorem IM.same {Z : TI} {k w : Nat} (h : IM Z S k w) (h30 : S' 30 k = S 30 k) (he : ∀ q, 240 * k ≤ q → q < 240 * k + 224 → S' 29 q = S 29 q) : IM Z S' k w := by
  obtain ⟨h1, h2⟩ := h
  refine ⟨by rw [h30, h1], fun hw => ?_⟩
  obtain ⟨b, q1, q2, q3⟩ := h2 hw
  exact ⟨b, q1, q2, q3.same q1 he⟩
theorem t_image (g : INV X T I J P S) (hn : 1100 < n) (x1 : Int32) : ∃ v X' I' J' S', m_X5_image n X T I J P C V F A x1 = some (v, X', I', J') ∧ m_X6_image n S L x1 = some (v, S') ∧ INV X' T I' J' P S' := by
  unfold m_X5_image m_X6_image
  simp only [litN, litL, e_isFlag]
  simp (disch := omega) only [e_in]
  simp only [bindS, nI_f0]
  cases i1 : inr x1 0 1
  · exact ⟨_, _, _, _, _, rfl, rfl, g⟩
  obtain ⟨k, rfl, -, hk⟩ := inr_T i1 (by decide) (by decide)
  obtain ⟨⟨a, hO, hT, hS⟩, hP, ⟨w, hw, hX, hI, hJ⟩⟩ := g
  obtain ⟨S1, s1, s2⟩ := e_passAll (n := n) (S := sf (sf S 30 (nI (240 * k))) 31 (nI 1)) (L := L) (w := true) (k := k) (by omega) sf_s (by rw [sf_n (by decide), sf_s]) hn
  have hS0 : RS (sf (sf S 30 (nI (240 * k))) 31 (nI 1)) a := by
    refine hS.same ?_ ?_ ?_ ?_ ?_ ?_ ?_ ?_ ?_ <;> simp (disch := omega) only [sf_n, sf_r]
  obtain ⟨u1, u2⟩ := pal_w s2 hS0 hO
  obtain ⟨-, -, -, -, -, -, ou, v1, v2, v3⟩ := s2
  have ou2 : ∀ q, (q < 240 * k ∨ 240 * k + 224 ≤ q) → S1 29 q = S 29 q := fun q hq => by
    rw [ou q hq]
    simp (disch := omega) only [sf_n, sf_r]
  have w1 : S1 0 10 = S 0 10 := by rw [v1]; simp (disch := omega) only [sf_n, sf_r]
  have w2 : S1 10 = S 10 := by rw [v2]; simp (disch := omega) only [sf_n, sf_r]
  have w3 : S1 30 = S 30 := by rw [v3]; simp (disch := omega) only [sf_n, sf_r]
  have hwk : w ||| 2 ^ k < 4 := Nat.or_lt_two_pow (n := 2) hw (by rcases (show k = 0 ∨ k = 1 by omega) with rfl | rfl <;> decide)
  have hS2 : RS (upA S1 30 (upd (S1 30) k (nI 1))) a := by
    refine u1.same ?_ ?_ ?_ ?_ ?_ ?_ ?_ ?_ ?_ <;> simp (disch := omega) only [upA_n]
  have hP2 : PD P (upA S1 30 (upd (S1 30) k (nI 1))) := by
    obtain ⟨m, c, p1, p2, p3, p4⟩ := hP
    refine ⟨m, c, p1, p2, ?_, ?_⟩
    · simp (disch := omega) only [upA_n]
      rw [w1, p3]
    · simp (disch := omega) only [upA_n]
      rw [w2]
      exact p4
  have hnew : ∀ Z, RT Z a → IM Z (upA S1 30 (upd (S1 30) k (nI 1))) k (w ||| 2 ^ k) := fun Z hZ => by
    have ht : (w ||| 2 ^ k).testBit k = true := by rw [Nat.testBit_or, Nat.testBit_two_pow_self, Bool.or_true]
    refine ⟨?_, fun _ => ⟨a, hO, hZ, u2.same hO (fun q _ _ => ?_)⟩⟩
    · rw [ht, upA_s, pk_us]
      rfl
    · simp (disch := omega) only [upA_n]
  have hold : ∀ Z k', k' < 2 → k' ≠ k → IM Z S k' w → IM Z (upA S1 30 (upd (S1 30) k (nI 1))) k' (w ||| 2 ^ k) := fun Z k' h2 hne hZ => by
    have ht : (w ||| 2 ^ k).testBit k' = w.testBit k' := by
      rw [Nat.testBit_or, Nat.testBit_two_pow, decide_eq_false (by omega), Bool.or_false]
    have := hZ.same (S' := upA S1 30 (upd (S1 30) k (nI 1))) (by rw [upA_s, pk_un hne, w3]) (fun q h3 h4 => by
      simp (disch := omega) only [upA_n]
      exact ou2 q (by omega))
    unfold IM at this ⊢
    rw [ht]
    exact this
  simp (disch := omega) only [litN, nI_add, pk_mul, pk_sub, nI_negR, nI_negL, nI_negE, nI_negLt, nI_negGe, nI_ltE, nI_leE, nI_eqI, nI_clamp, inB_n, gd_tt, bindS, if_true, if_false, reduceIte, leT, leF, ltT, ltF, eqT, eqF, nI_bitN, hX, nI_or, s1, Bool.true_eq_false]
  by_cases hk0 : k = 0
  · obtain ⟨I', z1, z2⟩ := e_copyFrom (n := n) (T := I) hT hO hn
    rw [if_pos hk0, z1, bindS]
    refine ⟨_, _, _, _, _, rfl, rfl, ⟨a, hO, hT, hS2⟩, hP2, w ||| 2 ^ k, hwk, sf_s, ?_, ?_⟩
    · have := hnew I' z2
      rw [hk0] at this ⊢
      exact this
    · exact hold J 1 (by omega) (by omega) hJ
  · obtain ⟨J', z1, z2⟩ := e_copyFrom (n := n) (T := J) hT hO hn
    have hk1 : k = 1 := by omega
    rw [if_neg hk0, z1, bindS]
    refine ⟨_, _, _, _, _, rfl, rfl, ⟨a, hO, hT, hS2⟩, hP2, w ||| 2 ^ k, hwk, sf_s, ?_, ?_⟩
    · exact hold I 0 (by omega) (by omega) hI
    · have := hnew J' z2
      rw [hk1] at this ⊢
      exact this
theorem t_restore (g : INV X T I J P S) (hn : 1100 < n) (x1 : Int32) : ∃ v T' S', m_X5_restore n X T I J P C V F A x1 = some (v, T') ∧ m_X6_restore n S L x1 = some (v, S') ∧ INV X T' I J P S' := by
  have g' := g
  obtain ⟨⟨a, hO, hT, hS⟩, hP, ⟨w, hw, hX, hI, hJ⟩⟩ := g
  unfold m_X5_restore m_X6_restore
  simp only [litN, litL, e_isFlag]
  simp (disch := omega) only [e_in]
  simp only [bindS, nI_f0]
  cases i1 : inr x1 0 1
  · exact ⟨_, _, _, rfl, rfl, g'⟩
  obtain ⟨k, rfl, -, hk⟩ := inr_T i1 (by decide) (by decide)
  have e1 := e_holds (n := n) (s := w) (k := k) (by omega) (by omega)
  have h30 : S 30 k = nI (w.testBit k).toNat := by
    rcases (show k = 0 ∨ k = 1 by omega) with rfl | rfl
    · exact hI.1
    · exact hJ.1
  simp (disch := omega) only [litN, nI_add, pk_mul, pk_sub, nI_negR, nI_negL, nI_negE, nI_negLt, nI_negGe, nI_ltE, nI_leE, nI_eqI, nI_clamp, inB_n, gd_tt, bindS, if_true, if_false, reduceIte, leT, leF, ltT, ltF, eqT, eqF, Bool.true_eq_false, hX, e1, h30, nI_f0]
  cases hb : w.testBit k
  · exact ⟨_, _, _, rfl, rfl, g'⟩
  simp only [Bool.true_eq_false, if_false]
  obtain ⟨S1, s1, s2⟩ := e_passAll (n := n) (S := sf (sf S 30 (nI (240 * k))) 31 (nI 0)) (L := L) (w := false) (k := k) (by omega) sf_s (by rw [sf_n (by decide), sf_s]) hn
  rw [s1, bindS]
  have fin : ∀ b, OKA b → RK S k b → ∀ T', RT T' b → INV X T' I J P S1 := fun b hb hK T' hT' => by
    obtain ⟨q1, q2⟩ := pal_r s2 (hK.same (S' := sf (sf S 30 (nI (240 * k))) 31 (nI 0)) hb (fun q _ _ => by simp (disch := omega) only [sf_r])) hb
    obtain ⟨-, -, -, -, -, -, -, v1, v2, v3⟩ := s2
    have w1 : S1 0 10 = S 0 10 := by rw [v1]; simp (disch := omega) only [sf_n, sf_r]
    have w2 : S1 10 = S 10 := by rw [v2]; simp (disch := omega) only [sf_n, sf_r]
    have w3 : S1 30 = S 30 := by rw [v3]; simp (disch := omega) only [sf_n, sf_r]
    have w4 : ∀ q, S1 29 q = S 29 q := fun q => by rw [q2]; simp (disch := omega) only [sf_r]
    refine ⟨⟨b, hb, hT', q1⟩, ?_, w, hw, hX, ?_, ?_⟩
    · obtain ⟨m, c, p1, p2, p3, p4⟩ := hP
      refine ⟨m, c, p1, p2, by rw [w1, p3], ?_⟩
      rw [w2]
      exact p4
    · exact hI.same (by rw [w3]) (fun q _ _ => w4 q)
    · exact hJ.same (by rw [w3]) (fun q _ _ => w4 q)
  by_cases hk0 : k = 0
  · subst hk0
    obtain ⟨b, q1, q2, q3⟩ := hI.2 hb
    obtain ⟨T', z1, z2⟩ := e_copyFrom (n := n) (T := T) q2 q1 hn
    rw [if_pos rfl, z1, bindS]
    exact ⟨_, _, _, rfl, rfl, fin b q1 q3 T' z2⟩
  · have hk1 : k = 1 := by omega
    subst hk1
    obtain ⟨b, q1, q2, q3⟩ := hJ.2 hb
    obtain ⟨T', z1, z2⟩ := e_copyFrom (n := n) (T := T) q2 q1 hn
    rw [if_neg (by decide), z1, bindS]
    exact ⟨_, _, _, rfl, rfl, fin b q1 q3 T' z2⟩
