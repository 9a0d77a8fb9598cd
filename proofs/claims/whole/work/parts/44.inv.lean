/-! WHAT HOLDS BETWEEN TWO CALLS; the calls that only write -/
variable {n : Nat} {X T I J P C V F S S' : TI} {A L : TL} {a : AT}
def RK (S : TI) (k : Nat) (b : AT) : Prop := (S 29 (240 * k) = nI (b 0 0) ∧ S 29 (240 * k + 1) = nI (b 0 1) ∧ S 29 (240 * k + 2) = nI (b 0 2) ∧ S 29 (240 * k + 3) = nI (b 0 3)) ∧ (∀ j, j < 100 → S 29 (240 * k + 4 + j) = nI (b 1 j)) ∧ (∀ j, j < 100 → S 29 (240 * k + 104 + j) = nI (b 2 j)) ∧ (∀ j, j < 4 → S 29 (240 * k + 204 + j) = nI (b 3 j)) ∧ (∀ j, j < b 0 3 → S 29 (240 * k + 208 + j) = nI (b 4 j)) ∧ (∀ j, j < b 0 3 → S 29 (240 * k + 216 + j) = nI ((b 0 4).testBit j).toNat)
def IM (Z S : TI) (k w : Nat) : Prop := S 30 k = nI (w.testBit k).toNat ∧ (w.testBit k = true → ∃ b, OKA b ∧ RT Z b ∧ RK S k b)
def PDm (P S : TI) (m : Nat) (c : Nat → Nat) : Prop := m ≤ 60 ∧ P 0 1 = nI m ∧ S 0 10 = nI m ∧ ∀ j, j < m → 33 ≤ c j ∧ c j ≤ 126 ∧ P 1 j = nI (c j) ∧ S 10 j = nI (c j)
def PD (P S : TI) : Prop := ∃ m c, PDm P S m c
def IMS (X I J S : TI) : Prop := ∃ w, w < 4 ∧ X 0 3 = nI w ∧ IM I S 0 w ∧ IM J S 1 w
def INV (X T I J P S : TI) : Prop := (∃ a, OKA a ∧ RT T a ∧ RS S a) ∧ PD P S ∧ IMS X I J S
/-- the pad and the images are as they were -/
def FP (S S' : TI) : Prop := (S' 0 10 = S 0 10 ∧ S' 10 = S 10) ∧ S' 29 = S 29 ∧ S' 30 = S 30
/-- sights and laws too -/
def FR (S S' : TI) : Prop := FP S S' ∧ S' 0 8 = S 0 8 ∧ S' 6 = S 6 ∧ S' 7 = S 7 ∧ S' 8 = S 8
/-- people and ties too -/
def FQ (S S' : TI) : Prop := FR S S' ∧ (S' 0 0 = S 0 0 ∧ S' 0 1 = S 0 1 ∧ S' 0 2 = S 0 2) ∧ S' 4 = S 4 ∧ S' 5 = S 5
theorem FP.trans {S₁ S₂ S₃ : TI} (h : FP S₁ S₂) (g : FP S₂ S₃) : FP S₁ S₃ := ⟨⟨g.1.1.trans h.1.1, g.1.2.trans h.1.2⟩, g.2.1.trans h.2.1, g.2.2.trans h.2.2⟩
theorem FR.trans {S₁ S₂ S₃ : TI} (h : FR S₁ S₂) (g : FR S₂ S₃) : FR S₁ S₃ := ⟨h.1.trans g.1, g.2.1.trans h.2.1, g.2.2.1.trans h.2.2.1, g.2.2.2.1.trans h.2.2.2.1, g.2.2.2.2.trans h.2.2.2.2⟩
theorem FQ.trans {S₁ S₂ S₃ : TI} (h : FQ S₁ S₂) (g : FQ S₂ S₃) : FQ S₁ S₃ := ⟨h.1.trans g.1, ⟨g.2.1.1.trans h.2.1.1, g.2.1.2.1.trans h.2.1.2.1, g.2.1.2.2.trans h.2.1.2.2⟩, g.2.2.1.trans h.2.2.1, g.2.2.2.trans h.2.2.2⟩
theorem FP.rfl : FP S S := ⟨⟨Eq.refl _, Eq.refl _⟩, Eq.refl _, Eq.refl _⟩
theorem FR.rfl : FR S S := ⟨FP.rfl, Eq.refl _, Eq.refl _, Eq.refl _, Eq.refl _⟩
theorem FQ.rfl : FQ S S := ⟨FR.rfl, ⟨Eq.refl _, Eq.refl _, Eq.refl _⟩, Eq.refl _, Eq.refl _⟩
theorem FP.pd (h : FP S S') (g : PD P S) : PD P S' := by
  obtain ⟨m, c, h1, h2, h3, h4⟩ := g
  exact ⟨m, c, h1, h2, by rw [h.1.1, h3], by rw [h.1.2]; exact h4⟩
theorem FP.pdm {m : Nat} {c : Nat → Nat} (h : FP S S') (g : PDm P S m c) : PDm P S' m c := by
  obtain ⟨h1, h2, h3, h4⟩ := g
  exact ⟨h1, h2, by rw [h.1.1, h3], by rw [h.1.2]; exact h4⟩
theorem FP.im {Z : TI} {k w : Nat} (h : FP S S') (g : IM Z S k w) : IM Z S' k w := by
  obtain ⟨h1, h2⟩ := g
  refine ⟨by rw [h.2.2, h1], fun hw => ?_⟩
  obtain ⟨b, q1, q2, q3⟩ := h2 hw
  refine ⟨b, q1, q2, ?_⟩
  unfold RK at q3 ⊢
  rw [h.2.1]
  exact q3
theorem IMS.same (g : IMS X I J S) (h29 : S' 29 = S 29) (h30 : S' 30 = S 30) : IMS X I J S' := by
  obtain ⟨w, h1, h2, h3, h4⟩ := g
  have im : ∀ {Z : TI} {k w : Nat}, IM Z S k w → IM Z S' k w := fun {Z k w} g => by
    obtain ⟨h1, h2⟩ := g
    refine ⟨by rw [h30, h1], fun hw => ?_⟩
    obtain ⟨b, q1, q2, q3⟩ := h2 hw
    refine ⟨b, q1, q2, ?_⟩
    unfold RK at q3 ⊢
    rw [h29]
    exact q3
  exact ⟨w, h1, h2, im h3, im h4⟩
theorem RS.same (g : RS S a) (h0 : S' 0 0 = S 0 0) (h1 : S' 0 1 = S 0 1) (h2 : S' 0 2 = S 0 2) (h3 : S' 0 8 = S 0 8) (h4 : S' 4 = S 4) (h5 : S' 5 = S 5) (h6 : S' 6 = S 6) (h7 : S' 7 = S 7) (h8 : S' 8 = S 8) : RS S' a := by
  unfold RS at g ⊢
  rw [h0, h1, h2, h3, h4, h5, h6, h7, h8]
  exact g
theorem FP.ims (h : FP S S') (g : IMS X I J S) : IMS X I J S' := by
  obtain ⟨w, h1, h2, h3, h4⟩ := g
  exact ⟨w, h1, h2, h.im h3, h.im h4⟩
theorem FQ.rs (h : FQ S S') (g : RS S a) : RS S' a := by
  unfold RS at g ⊢
  rw [h.2.1.1, h.2.1.2.1, h.2.1.2.2, h.1.2.1, h.2.2.1, h.2.2.2, h.1.2.2.1, h.1.2.2.2.1, h.1.2.2.2.2]
  exact g
theorem FQ.inv (h : FQ S S') (g : INV X T I J P S) : INV X T I J P S' := by
  obtain ⟨⟨a, h1, h2, h3⟩, h4, h5⟩ := g
  exact ⟨⟨a, h1, h2, h.rs h3⟩, h.1.1.pd h4, h.1.1.ims h5⟩
theorem INV.town {T' : TI} {b : AT} (g : INV X T I J P S) (hO : OKA b) (hT : RT T' b) (hS : RS S' b) (h : FP S S') : INV X T' I J P S' := ⟨⟨b, hO, hT, hS⟩, h.pd g.2.1, h.ims g.2.2⟩
/-- a town with another tie -/
def tieA (a : AT) (x y k v : Nat) : AT := fun i j => if i = 1 then (if j = 10 * x + y ∨ j = 10 * y + x then v else a 1 j) else if i = 2 then (if j = 10 * x + y ∨ j = 10 * y + x then k else a 2 j) else a i j
/-- with others here, dogs, waiting -/
def hdw (a : AT) (h d w : Nat) : AT := fun i j => if i = 0 then (if j = 0 then h else if j = 1 then d else if j = 2 then w else a 0 j) else a i j
theorem upd2 {f : Nat → Int32} {i j q : Nat} {v : Int32} : upd (upd f i v) j v q = if q = i ∨ q = j then v else f q := by
  by_cases h1 : q = j
  · subst h1
    rw [pk_us, if_pos (Or.inr rfl)]
  · rw [pk_un h1]
    by_cases h2 : q = i
    · subst h2
      rw [pk_us, if_pos (Or.inl rfl)]
    · rw [pk_un h2, if_neg (fun h => h.elim h2 h1)]
theorem OKA.tie (h : OKA a) {x y k v : Nat} (hx : x < 10) (hy : y < 10) (hne : x ≠ y) (hk : k ≤ 3) (hv : v ≤ 9) : OKA (tieA a x y k v) := by
  refine ⟨h.1, h.2.1, ⟨fun j hj => ?_, fun j hj => ?_⟩, ⟨fun p q hp hq => ?_, fun p q hp hq => ?_, fun p hp => ?_⟩, h.2.2.2.2⟩
  · show (if j = 10 * x + y ∨ j = 10 * y + x then v else a 1 j) ≤ 9
    have := h.s9 hj
    split <;> omega
  · show (if j = 10 * x + y ∨ j = 10 * y + x then k else a 2 j) ≤ 3
    have := h.k3 hj
    split <;> omega
  · show (if 10 * p + q = 10 * x + y ∨ 10 * p + q = 10 * y + x then v else a 1 (10 * p + q)) = (if 10 * q + p = 10 * x + y ∨ 10 * q + p = 10 * y + x then v else a 1 (10 * q + p))
    have := h.sy hp hq
    split <;> split <;> omega
  · show (if 10 * p + q = 10 * x + y ∨ 10 * p + q = 10 * y + x then k else a 2 (10 * p + q)) = (if 10 * q + p = 10 * x + y ∨ 10 * q + p = 10 * y + x then k else a 2 (10 * q + p))
    have := h.ky hp hq
    split <;> split <;> omega
  · show (if 10 * p + p = 10 * x + y ∨ 10 * p + p = 10 * y + x then v else a 1 (10 * p + p)) = 0
    have := h.dz hp
    split <;> omega
theorem OKA.hdw (h : OKA a) {p d w : Nat} (hp : p < 1024) (hd : d < 1024) (hw : w < 1024) : OKA (hdw a p d w) := ⟨⟨hp, hd, hw⟩, h.2⟩
theorem RT.hdw {T' : TI} (h : RT T a) {p d w : Nat} (h0 : T' 0 0 = nI p) (h1 : T' 0 1 = nI d) (h2 : T' 0 2 = nI w) (h3 : T' 0 3 = T 0 3) (h4 : T' 0 4 = T 0 4) (h6 : T' 6 = T 6) (h7 : T' 7 = T 7) (h8 : T' 8 = T 8) (h9 : T' 9 = T 9) : RT T' (hdw a p d w) := by
  refine ⟨⟨h0, h1, h2, h3.trans h.h3, h4.trans h.h4⟩, ?_, ?_, ?_, ?_⟩
  · rw [h6]; exact h.2.1
  · rw [h7]; exact h.2.2.1
  · rw [h8]; exact h.2.2.2.1
  · rw [h9]; exact h.2.2.2.2
theorem RS.hdw (h : RS S a) {p d w : Nat} (h0 : S' 0 0 = nI p) (h1 : S' 0 1 = nI d) (h2 : S' 0 2 = nI w) (h3 : S' 0 8 = S 0 8) (h4 : S' 4 = S 4) (h5 : S' 5 = S 5) (h6 : S' 6 = S 6) (h7 : S' 7 = S 7) (h8 : S' 8 = S 8) : RS S' (hdw a p d w) := by
  refine ⟨⟨h0, h1, h2, h3.trans h.h3⟩, ?_, ?_, ?_, ?_, ?_⟩
  · rw [h4]; exact h.2.1
  · rw [h5]; exact h.2.2.1
  · rw [h6]; exact h.2.2.2.1
  · rw [h7]; exact h.2.2.2.2.1
  · rw [h8]; exact h.2.2.2.2.2
theorem e_bind (h : RT T a) {x y k v : Nat} (hx : x < 10) (hy : y < 10) (hne : x ≠ y) : ∃ T', m_X4_bind n T (nI x) (nI y) (nI k) (nI v) = some T' ∧ RT T' (tieA a x y k v) := by
  unfold m_X4_bind
  simp (disch := omega) only [litN, nI_add, pk_mul, pk_sub, nI_negR, nI_negL, nI_negE, nI_negLt, nI_negGe, nI_ltE, nI_leE, nI_eqI, nI_clamp, inB_n, gd_tt, bindS, if_true, if_false, reduceIte, leT, leF, ltT, ltF, eqT, eqF, show x * 10 + y = 10 * x + y by omega, show y * 10 + x = 10 * y + x by omega]
  refine ⟨_, rfl, ⟨?_, ?_, ?_, ?_⟩⟩
  · simp (disch := omega) only [litN, nI_add, pk_mul, pk_sub, nI_negR, nI_negL, nI_negE, nI_negLt, nI_negGe, nI_ltE, nI_leE, nI_eqI, nI_clamp, inB_n, gd_tt, bindS, if_true, if_false, reduceIte, leT, leF, ltT, ltF, eqT, eqF, upA_n]
    exact h.1
  · intro j hj
    simp (disch := omega) only [litN, nI_add, pk_mul, pk_sub, nI_negR, nI_negL, nI_negE, nI_negLt, nI_negGe, nI_ltE, nI_leE, nI_eqI, nI_clamp, inB_n, gd_tt, bindS, if_true, if_false, reduceIte, leT, leF, ltT, ltF, eqT, eqF, upA_n, upA_s, upd2, h.r6 hj]
    show _ = nI (if j = 10 * x + y ∨ j = 10 * y + x then v else a 1 j)
    split <;> rfl
  · intro j hj
    simp (disch := omega) only [litN, nI_add, pk_mul, pk_sub, nI_negR, nI_negL, nI_negE, nI_negLt, nI_negGe, nI_ltE, nI_leE, nI_eqI, nI_clamp, inB_n, gd_tt, bindS, if_true, if_false, reduceIte, leT, leF, ltT, ltF, eqT, eqF, upA_n, upA_s, upd2, h.r7 hj]
    show _ = nI (if j = 10 * x + y ∨ j = 10 * y + x then k else a 2 j)
    split <;> rfl
  · simp (disch := omega) only [litN, nI_add, pk_mul, pk_sub, nI_negR, nI_negL, nI_negE, nI_negLt, nI_negGe, nI_ltE, nI_leE, nI_eqI, nI_clamp, inB_n, gd_tt, bindS, if_true, if_false, reduceIte, leT, leF, ltT, ltF, eqT, eqF, upA_n]
    exact h.2.2.2
theorem e_setTie (h : RS S a) {x y k v : Nat} (hx : x < 10) (hy : y < 10) (hne : x ≠ y) : ∃ S', m_X6_setTie n S L (nI x) (nI y) (nI k) (nI v) = some S' ∧ RS S' (tieA a x y k v) ∧ (∀ i, ¬ i = 4 → ¬ i = 5 → S' i = S i) := by
  unfold m_X6_setTie
  simp (disch := omega) only [litN, nI_add, pk_mul, pk_sub, nI_negR, nI_negL, nI_negE, nI_negLt, nI_negGe, nI_ltE, nI_leE, nI_eqI, nI_clamp, inB_n, gd_tt, bindS, if_true, if_false, reduceIte, leT, leF, ltT, ltF, eqT, eqF]
  refine ⟨_, rfl, ⟨?_, ?_, ?_, ?_⟩, ?_⟩
  · simp (disch := omega) only [litN, nI_add, pk_mul, pk_sub, nI_negR, nI_negL, nI_negE, nI_negLt, nI_negGe, nI_ltE, nI_leE, nI_eqI, nI_clamp, inB_n, gd_tt, bindS, if_true, if_false, reduceIte, leT, leF, ltT, ltF, eqT, eqF, upA_n]
    exact h.1
  · intro j hj
    simp (disch := omega) only [litN, nI_add, pk_mul, pk_sub, nI_negR, nI_negL, nI_negE, nI_negLt, nI_negGe, nI_ltE, nI_leE, nI_eqI, nI_clamp, inB_n, gd_tt, bindS, if_true, if_false, reduceIte, leT, leF, ltT, ltF, eqT, eqF, upA_n, upA_s, upd2, h.r4 hj]
    show _ = nI (if j = 10 * x + y ∨ j = 10 * y + x then v else a 1 j)
    split <;> rfl
  · intro j hj
    simp (disch := omega) only [litN, nI_add, pk_mul, pk_sub, nI_negR, nI_negL, nI_negE, nI_negLt, nI_negGe, nI_ltE, nI_leE, nI_eqI, nI_clamp, inB_n, gd_tt, bindS, if_true, if_false, reduceIte, leT, leF, ltT, ltF, eqT, eqF, upA_n, upA_s, upd2, h.r5 hj]
    show _ = nI (if j = 10 * x + y ∨ j = 10 * y + x then k else a 2 j)
    split <;> rfl
  · simp (disch := omega) only [litN, nI_add, pk_mul, pk_sub, nI_negR, nI_negL, nI_negE, nI_negLt, nI_negGe, nI_ltE, nI_leE, nI_eqI, nI_clamp, inB_n, gd_tt, bindS, if_true, if_false, reduceIte, leT, leF, ltT, ltF, eqT, eqF, upA_n]
    exact h.2.2.2
  · intro i h1 h2
    rw [upA_n h2, upA_n h1]
theorem FR.rows (h : ∀ i, ¬ i = 4 → ¬ i = 5 → S' i = S i) : FR S S' := ⟨⟨⟨by rw [h 0 (by decide) (by decide)], h 10 (by decide) (by decide)⟩, h 29 (by decide) (by decide), h 30 (by decide) (by decide)⟩, by rw [h 0 (by decide) (by decide)], h 6 (by decide) (by decide), h 7 (by decide) (by decide), h 8 (by decide) (by decide)⟩
theorem t_tie (g : INV X T I J P S) (x1 x2 x3 x4 : Int32) : ∃ v T' S', m_X5_tie n X T I J P C V F A x1 x2 x3 x4 = some (v, T') ∧ m_X6_tie n S L x1 x2 x3 x4 = some (v, S') ∧ INV X T' I J P S' := by
  obtain ⟨a, hO, hT, hS⟩ := g.1
  unfold m_X5_tie m_X6_tie
  simp only [litN, e_isOne, e_isOne6, bindS, nI_f0]
  cases i1 : inr x1 0 9
  · exact ⟨_, _, _, rfl, rfl, g⟩
  cases i2 : inr x2 0 9
  · exact ⟨_, _, _, rfl, rfl, g⟩
  obtain ⟨x, rfl, -, hx⟩ := inr_T i1 (by decide) (by decide)
  obtain ⟨y, rfl, -, hy⟩ := inr_T i2 (by decide) (by decide)
  by_cases hxy : x = y
  · subst hxy
    simp only [Bool.true_eq_false, if_false, eq_self, if_true]
    exact ⟨_, _, _, rfl, rfl, g⟩
  simp (disch := omega) only [Bool.true_eq_false, if_false, nI_eqI, hxy, e_within, litL, e_in, bindS, nI_f0]
  cases i3 : inr x3 0 3
  · exact ⟨_, _, _, rfl, rfl, g⟩
  cases i4 : inr x4 0 9
  · exact ⟨_, _, _, rfl, rfl, g⟩
  obtain ⟨k, rfl, -, hk⟩ := inr_T i3 (by decide) (by decide)
  obtain ⟨v, rfl, -, hv⟩ := inr_T i4 (by decide) (by decide)
  have e1 := e_strength (n := n) hT (x := x) (y := y) (by omega) (by omega)
  obtain ⟨T', e2, hT'⟩ := e_bind (n := n) hT (x := x) (y := y) (k := k) (v := v) (by omega) (by omega) hxy
  obtain ⟨S', e3, hS', hF⟩ := e_setTie (n := n) (L := L) hS (x := x) (y := y) (k := k) (v := v) (by omega) (by omega) hxy
  have h1 := hS.r4 (j := 10 * x + y) (by omega)
  simp (disch := omega) only [litN, nI_add, pk_mul, pk_sub, nI_negR, nI_negL, nI_negE, nI_negLt, nI_negGe, nI_ltE, nI_leE, nI_eqI, nI_clamp, inB_n, gd_tt, bindS, if_true, if_false, reduceIte, leT, leF, ltT, ltF, eqT, eqF, Bool.true_eq_false, e1, e2, e3, h1]
  exact ⟨_, _, _, rfl, rfl, g.town (hO.tie (by omega) (by omega) hxy hk hv) hT' hS' (FR.rows hF).1⟩
def stb (s x : Nat) (b : Bool) : Nat := if b then s ||| 2 ^ x else dif s (2 ^ x)
theorem stb_lt {s x : Nat} {b : Bool} (hs : s < 1024) (hx : x < 10) : stb s x b < 1024 := by
  unfold stb
  cases b
  · exact dif_lt hs
  · exact or_lt hs (two_lt hx)
theorem e_place (h : RT T a) {x : Nat} (hx : x < 10) (b c : Bool) : ∃ T', m_X4_place n T (nI x) (nI b.toNat) (nI c.toNat) = some T' ∧ RT T' (hdw a (stb (a 0 0) x b) (stb (a 0 1) x c) (dif (a 0 2) (2 ^ x))) := by
  unfold m_X4_place
  have hx' : x < 31 := by omega
  cases b <;> cases c <;> simp (disch := omega) only [litN, nI_f0, reduceIte, Bool.true_eq_false, nI_bitN, nI_andn, nI_or, h.h0, h.h1, h.h2] <;>
    exact ⟨_, rfl, h.hdw (by simp (disch := omega) only [sf_s, sf_n, sf_r]; rfl) (by simp (disch := omega) only [sf_s, sf_n, sf_r]; rfl) (by simp (disch := omega) only [sf_s, sf_n, sf_r]) (by simp (disch := omega) only [sf_s, sf_n, sf_r]) (by simp (disch := omega) only [sf_s, sf_n, sf_r]) (by simp (disch := omega) only [sf_s, sf_n, sf_r]) (by simp (disch := omega) only [sf_s, sf_n, sf_r]) (by simp (disch := omega) only [sf_s, sf_n, sf_r]) (by simp (disch := omega) only [sf_s, sf_n, sf_r])⟩
theorem e_with {s x p : Nat} (hx : x < 10) (hp : p ≤ 1) : m_X6_with n (nI s) (nI x) (nI p) = some (nI (stb s x (decide (p = 1)))) := by
  unfold m_X6_with stb
  by_cases h : p = 1
  · subst h
    simp (disch := omega) only [litN, nI_add, pk_mul, pk_sub, nI_negR, nI_negL, nI_negE, nI_negLt, nI_negGe, nI_ltE, nI_leE, nI_eqI, nI_clamp, inB_n, gd_tt, bindS, if_true, if_false, reduceIte, leT, leF, ltT, ltF, eqT, eqF, nI_bitN, nI_or, decide_true]
  · simp (disch := omega) only [litN, nI_add, pk_mul, pk_sub, nI_negR, nI_negL, nI_negE, nI_negLt, nI_negGe, nI_ltE, nI_leE, nI_eqI, nI_clamp, inB_n, gd_tt, bindS, if_true, if_false, reduceIte, leT, leF, ltT, ltF, eqT, eqF, nI_bitN, nI_andn, h, decide_false]
    rfl
theorem t_one (g : INV X T I J P S) (hn : 10 < n) (x1 x2 x3 : Int32) : ∃ v T' S', m_X5_one n X T I J P C V F A x1 x2 x3 = some (v, T') ∧ m_X6_one n S L x1 x2 x3 = some (v, S') ∧ INV X T' I J P S' := by
  obtain ⟨a, hO, hT, hS⟩ := g.1
  unfold m_X5_one m_X6_one
  simp (disch := omega) only [litN, litL, e_isOne, e_isOne6, e_isFlag, e_in, bindS, nI_f0]
  cases i1 : inr x1 0 9
  · exact ⟨_, _, _, rfl, rfl, g⟩
  cases i2 : inr x2 0 1
  · exact ⟨_, _, _, rfl, rfl, g⟩
  cases i3 : inr x3 0 1
  · exact ⟨_, _, _, rfl, rfl, g⟩
  obtain ⟨x, rfl, -, hx⟩ := inr_T i1 (by decide) (by decide)
  obtain ⟨p, rfl, -, hp⟩ := inr_T i2 (by decide) (by decide)
  obtain ⟨q, rfl, -, hq⟩ := inr_T i3 (by decide) (by decide)
  have hx' : x < 10 := by omega
  obtain ⟨T', e1, hT'⟩ := e_place (n := n) hT hx' (decide (p = 1)) (decide (q = 1))
  have w1 := e_with (n := n) (s := a 0 0) hx' hp
  have w2 := e_with (n := n) (s := a 0 1) hx' hq
  have w3 := e_with (n := n) (s := a 0 2) hx' (p := 0) (by omega)
  have hb := stb_lt (s := a 0 0) (x := x) (b := decide (p = 1)) hO.h0 hx'
  have b1 := e_bc (n := n) hb
  have b2 := e_ones hb hn
  have h0 : T' 0 0 = nI (stb (a 0 0) x (decide (p = 1))) := hT'.h0
  rw [← hS.h0] at w1
  rw [← hS.h1] at w2
  rw [← hS.h2] at w3
  refine ⟨nI (pc (stb (a 0 0) x (decide (p = 1)))), T', sf (sf (sf S 0 (nI (stb (a 0 0) x (decide (p = 1))))) 1 (nI (stb (a 0 1) x (decide (q = 1))))) 2 (nI (stb (a 0 2) x (decide (0 = 1)))), ?_, ?_, ?_⟩
  · have k1 : decide (p = 1) = true → p = 1 := fun h => by simpa using h
    by_cases h1 : p = 1 <;> by_cases h2 : q = 1 <;> simp only [h1, h2, decide_true, decide_false, Bool.toNat_true, Bool.toNat_false] at e1 h0 b1 <;> simp (disch := omega) only [litN, nI_add, pk_mul, pk_sub, nI_negR, nI_negL, nI_negE, nI_negLt, nI_negGe, nI_ltE, nI_leE, nI_eqI, nI_clamp, inB_n, gd_tt, bindS, if_true, if_false, reduceIte, leT, leF, ltT, ltF, eqT, eqF, h1, h2, Bool.true_eq_false, e1, h0, b1, decide_true, decide_false]
  · simp only [w1, w2, w3, bindS, b2, Bool.true_eq_false, if_false]
  · refine g.town (hO.hdw (stb_lt hO.h0 hx') (stb_lt hO.h1 hx') (dif_lt hO.h2)) hT' (hS.hdw ?_ ?_ ?_ ?_ ?_ ?_ ?_ ?_ ?_) ⟨⟨?_, ?_⟩, ?_, ?_⟩ <;> simp (disch := omega) only [sf_s, sf_n, sf_r]
    rfl
/-- with another law -/
def setL (a : AT) (k v : Nat) : AT := fun i j => if i = 3 then (if j = k then v else a 3 j) else a i j
theorem lawful {x : Int32} {k : Nat} (hk : k ≤ 3) : m_X5_isLawful n (nI k) x = some (nI (if k < 2 then inr x 1 9 else inr x 0 1).toNat) := by
  unfold m_X5_isLawful
  rcases (show k = 0 ∨ k = 1 ∨ k = 2 ∨ k = 3 by omega) with rfl | rfl | rfl | rfl <;> simp (disch := omega) only [litN, nI_add, pk_mul, pk_sub, nI_negR, nI_negL, nI_negE, nI_negLt, nI_negGe, nI_ltE, nI_leE, nI_eqI, nI_clamp, inB_n, gd_tt, bindS, if_true, if_false, reduceIte, leT, leF, ltT, ltF, eqT, eqF, e_within, e_isFlag, gd_z]
theorem OKA.law (h : OKA a) {k v : Nat} (hk : k ≤ 3) (hv : if k < 2 then 1 ≤ v ∧ v ≤ 9 else v ≤ 1) : OKA (setL a k v) := by
  refine ⟨h.1, h.2.1, h.2.2.1, h.2.2.2.1, ?_⟩
  have h0 := h.l0
  have h1 := h.l1
  have h2 := h.l2
  have h3 := h.l3
  show (1 ≤ (if 0 = k then v else a 3 0) ∧ (if 0 = k then v else a 3 0) ≤ 9) ∧ (1 ≤ (if 1 = k then v else a 3 1) ∧ (if 1 = k then v else a 3 1) ≤ 9) ∧ (if 2 = k then v else a 3 2) ≤ 1 ∧ (if 3 = k then v else a 3 3) ≤ 1
  rcases (show k = 0 ∨ k = 1 ∨ k = 2 ∨ k = 3 by omega) with rfl | rfl | rfl | rfl <;> simp at hv ⊢ <;> omega
theorem upd_v {f : Nat → Int32} {i q : Nat} {v : Int32} : upd f i v q = if q = i then v else f q := by
  by_cases h : q = i
  · subst h; rw [pk_us, if_pos rfl]
  · rw [pk_un h, if_neg h]
theorem t_law (g : INV X T I J P S) (x1 x2 : Int32) : ∃ v T' S', m_X5_law n X T I J P C V F A x1 x2 = some (v, T') ∧ m_X6_law n S L x1 x2 = some (v, S') ∧ INV X T' I J P S' := by
  obtain ⟨a, hO, hT, hS⟩ := g.1
  unfold m_X5_law m_X6_law
  simp (disch := omega) only [litN, litL, e_within, e_in, bindS, nI_f0]
  cases i1 : inr x1 0 3
  · exact ⟨_, _, _, rfl, rfl, g⟩
  obtain ⟨k, rfl, -, hk⟩ := inr_T i1 (by decide) (by decide)
  have r1 := e_rule (n := n) hT (k := k) (by omega)
  have r2 := hS.r6 (j := k) (by omega)
  simp (disch := omega) only [litN, nI_add, pk_mul, pk_sub, nI_negR, nI_negL, nI_negE, nI_negLt, nI_negGe, nI_ltE, nI_leE, nI_eqI, nI_clamp, inB_n, gd_tt, bindS, if_true, if_false, reduceIte, leT, leF, ltT, ltF, eqT, eqF, Bool.true_eq_false, lawful hk, r1, nI_f0, r2]
  have fin : ∀ v, (if k < 2 then 1 ≤ v ∧ v ≤ 9 else v ≤ 1) → INV X (upA T 8 (upd (T 8) k (nI v))) I J P (upA S 6 (upd (S 6) k (nI v))) := fun v hv => by
    refine g.town (b := setL a k v) (hO.law hk hv) ⟨?_, ?_, ?_, ?_, ?_⟩ ⟨?_, ?_, ?_, ?_, ?_, ?_⟩ ⟨⟨?_, ?_⟩, ?_, ?_⟩
    · simp (disch := omega) only [upA_n]; exact hT.1
    · simp (disch := omega) only [upA_n]; exact hT.2.1
    · simp (disch := omega) only [upA_n]; exact hT.2.2.1
    · intro j hj
      simp (disch := omega) only [upA_s, upd_v, hT.r8 hj]
      show _ = nI (if j = k then v else a 3 j)
      split <;> rfl
    · simp (disch := omega) only [upA_n]; exact hT.2.2.2.2
    · simp (disch := omega) only [upA_n]; exact hS.1
    · simp (disch := omega) only [upA_n]; exact hS.2.1
    · simp (disch := omega) only [upA_n]; exact hS.2.2.1
    · intro j hj
      simp (disch := omega) only [upA_s, upd_v, hS.r6 hj]
      show _ = nI (if j = k then v else a 3 j)
      split <;> rfl
    · simp (disch := omega) only [upA_n]; exact hS.2.2.2.2.1
    · simp (disch := omega) only [upA_n]; exact hS.2.2.2.2.2
    all_goals simp (disch := omega) only [upA_n]
  by_cases h2 : k < 2
  · simp only [h2, if_true, show ¬ 2 ≤ k by omega, if_false]
    cases i2 : inr x2 1 9
    · exact ⟨_, _, _, rfl, rfl, g⟩
    obtain ⟨v, rfl, hv1, hv2⟩ := inr_T i2 (by decide) (by decide)
    unfold m_X4_setRule
    simp (disch := omega) only [litN, nI_add, pk_mul, pk_sub, nI_negR, nI_negL, nI_negE, nI_negLt, nI_negGe, nI_ltE, nI_leE, nI_eqI, nI_clamp, inB_n, gd_tt, bindS, if_true, if_false, reduceIte, leT, leF, ltT, ltF, eqT, eqF, Bool.true_eq_false]
    exact ⟨_, _, _, rfl, rfl, fin v (by rw [if_pos h2]; exact ⟨hv1, hv2⟩)⟩
  · simp only [h2, if_true, show 2 ≤ k by omega, if_false]
    cases i2 : inr x2 0 1
    · exact ⟨_, _, _, rfl, rfl, g⟩
    obtain ⟨v, rfl, -, hv2⟩ := inr_T i2 (by decide) (by decide)
    unfold m_X4_setRule
    simp (disch := omega) only [litN, nI_add, pk_mul, pk_sub, nI_negR, nI_negL, nI_negE, nI_negLt, nI_negGe, nI_ltE, nI_leE, nI_eqI, nI_clamp, inB_n, gd_tt, bindS, if_true, if_false, reduceIte, leT, leF, ltT, ltF, eqT, eqF, Bool.true_eq_false]
    exact ⟨_, _, _, rfl, rfl, fin v (by rw [if_neg h2]; exact hv2)⟩
theorem t_say (g : INV X T I J P S) (x1 : Int32) : ∃ v P' S', m_X5_say n X T I J P C V F A x1 = some (v, P') ∧ m_X6_say n S L x1 = some (v, S') ∧ INV X T I J P' S' := by
  obtain ⟨⟨a, hO, hT, hS⟩, ⟨m, c, hm, hp, hs, hc⟩, him⟩ := g
  unfold m_X5_say m_X6_say
  simp (disch := omega) only [litN, litL, e_within, e_in, bindS, nI_f0]
  cases i1 : inr x1 33 126
  · exact ⟨_, _, _, rfl, rfl, ⟨a, hO, hT, hS⟩, ⟨m, c, hm, hp, hs, hc⟩, him⟩
  obtain ⟨q, rfl, hq1, hq2⟩ := inr_T i1 (by decide) (by decide)
  unfold m_X2_add
  simp (disch := omega) only [litN, Bool.true_eq_false, if_false, hp, hs, nI_ltE, Nat.not_lt_zero, nI_eqI]
  by_cases h60 : m = 60
  · subst h60
    exact ⟨_, _, _, rfl, rfl, ⟨a, hO, hT, hS⟩, ⟨60, c, hm, hp, hs, hc⟩, him⟩
  · have hlt : m < 60 := by omega
    simp (disch := omega) only [litN, nI_add, pk_mul, pk_sub, nI_negR, nI_negL, nI_negE, nI_negLt, nI_negGe, nI_ltE, nI_leE, nI_eqI, nI_clamp, inB_n, gd_tt, bindS, if_true, if_false, reduceIte, leT, leF, ltT, ltF, eqT, eqF, h60, sf_s]
    refine ⟨_, _, _, rfl, rfl, ⟨a, hO, hT, hS.same ?_ ?_ ?_ ?_ ?_ ?_ ?_ ?_ ?_⟩, ⟨m + 1, fun j => if j = m then q else c j, by omega, ?_, ?_, fun j hj => ?_⟩, him.same ?_ ?_⟩ <;> simp (disch := omega) only [sf_s, sf_n, sf_r, upA_n, upA_s, upd_v]
    by_cases h : j = m
    · simp only [h, if_true]
      exact ⟨hq1, hq2, trivial, trivial⟩
    · simp only [h, if_false]
      exact hc j (by omega)
theorem t_wipe (g : INV X T I J P S) : ∃ v P' S', m_X5_wipe n X T I J P C V F A = some (v, P') ∧ m_X6_wipe n S L = some (v, S') ∧ INV X T I J P' S' := by
  obtain ⟨⟨a, hO, hT, hS⟩, ⟨m, c, hm, hp, hs, hc⟩, him⟩ := g
  unfold m_X5_wipe m_X6_wipe
  rw [hp, hs]
  refine ⟨_, _, _, rfl, rfl, ⟨a, hO, hT, hS.same ?_ ?_ ?_ ?_ ?_ ?_ ?_ ?_ ?_⟩, ⟨0, c, by omega, ?_, ?_, fun j hj => absurd hj (Nat.not_lt_zero _)⟩, him.same ?_ ?_⟩ <;> simp (disch := omega) only [sf_s, sf_n, sf_r]
  · rfl
  · rfl
/-- with one sight more; with none -/
def addS (a : AT) (x : Nat) (y : Bool) : AT := fun i j => if i = 0 then (if j = 3 then a 0 3 + 1 else if j = 4 then (if y then a 0 4 ||| 2 ^ a 0 3 else a 0 4) else a 0 j) else if i = 4 then (if j = a 0 3 then x else a 4 j) else a i j
def noS (a : AT) : AT := fun i j => if i = 0 then (if j = 3 then 0 else if j = 4 then 0 else a 0 j) else a i j
theorem OKA.noS (h : OKA a) : OKA (noS a) := ⟨h.1, ⟨Nat.zero_le _, show 0 < 2 ^ 0 by decide, fun j hj => absurd hj (Nat.not_lt_zero _)⟩, h.2.2⟩
theorem OKA.addS (h : OKA a) {x : Nat} {y : Bool} (hx : x < 10) (h8 : a 0 3 < 8) : OKA (addS a x y) := by
  refine ⟨h.1, ⟨h8, ?_, fun j hj => ?_⟩, h.2.2⟩
  · show (if y = true then a 0 4 ||| 2 ^ a 0 3 else a 0 4) < 2 ^ (a 0 3 + 1)
    have h4 := h.h4p
    have h5 : 2 ^ (a 0 3 + 1) = 2 ^ a 0 3 * 2 := Nat.pow_succ ..
    cases y
    · show a 0 4 < 2 ^ (a 0 3 + 1)
      omega
    · exact Nat.or_lt_two_pow (by omega) (by have := Nat.two_pow_pos (a 0 3); omega)
  · show (if j = a 0 3 then x else a 4 j) < 10
    have hj' : j < a 0 3 + 1 := hj
    by_cases hq : j = a 0 3
    · rw [if_pos hq]; exact hx
    · rw [if_neg hq]; exact h.hr (by omega)
theorem t_forget (g : INV X T I J P S) : ∃ v T' S', m_X5_forget n X T I J P C V F A = some (v, T') ∧ m_X6_forget n S L = some (v, S') ∧ INV X T' I J P S' := by
  obtain ⟨a, hO, hT, hS⟩ := g.1
  unfold m_X5_forget m_X6_forget m_X4_dropSights
  rw [bindS, hT.h3, hS.h3]
  refine ⟨_, _, _, rfl, rfl, g.town hO.noS ⟨⟨?_, ?_, ?_, ?_, ?_⟩, ?_, ?_, ?_, ?_⟩ ⟨⟨?_, ?_, ?_, ?_⟩, ?_, ?_, ?_, ?_, ?_⟩ ⟨⟨?_, ?_⟩, ?_, ?_⟩⟩ <;> simp (disch := omega) only [sf_s, sf_n, sf_r]
  · exact hT.h0
  · exact hT.h1
  · exact hT.h2
  · rfl
  · rfl
  · exact hT.2.1
  · exact hT.2.2.1
  · exact hT.2.2.2.1
  · exact fun j hj => absurd hj (Nat.not_lt_zero _)
  · exact hS.h0
  · exact hS.h1
  · exact hS.h2
  · rfl
  · exact hS.2.1
  · exact hS.2.2.1
  · exact hS.2.2.2.1
  · exact fun j hj => absurd hj (Nat.not_lt_zero _)
  · exact fun j hj => absurd hj (Nat.not_lt_zero _)
theorem tb_add {s m j : Nat} {y : Bool} (hs : s < 2 ^ m) (hj : j < m + 1) : (if y = true then s ||| 2 ^ m else s).testBit j = if j = m then y else s.testBit j := by
  by_cases h : j = m
  · subst h
    rw [if_pos rfl]
    cases y
    · exact Nat.testBit_lt_two_pow hs
    · simp [Nat.testBit_or, Nat.testBit_two_pow_self]
  · rw [if_neg h]
    cases y
    · rfl
    · simp [Nat.testBit_or, Nat.testBit_two_pow, show ¬ m = j by omega]
theorem t_rung (g : INV X T I J P S) (x1 : Int32) (y : Bool) : ∃ v T' S', m_X5_rung n X T I J P C V F A x1 (nI y.toNat) = some (v, T') ∧ m_X6_rung n S L x1 (nI y.toNat) = some (v, S') ∧ INV X T' I J P S' := by
  obtain ⟨a, hO, hT, hS⟩ := g.1
  unfold m_X5_rung m_X6_rung m_X4_addSight
  simp (disch := omega) only [litN, e_isOne, e_isOne6, bindS, nI_f0]
  cases i1 : inr x1 0 9
  · exact ⟨_, _, _, rfl, rfl, g⟩
  obtain ⟨x, rfl, -, hx⟩ := inr_T i1 (by decide) (by decide)
  have h8 := hO.h3
  by_cases hf : a 0 3 = 8
  · simp (disch := omega) only [litN, nI_add, pk_mul, pk_sub, nI_negR, nI_negL, nI_negE, nI_negLt, nI_negGe, nI_ltE, nI_leE, nI_eqI, nI_clamp, inB_n, gd_tt, bindS, if_true, if_false, reduceIte, leT, leF, ltT, ltF, eqT, eqF, Bool.true_eq_false, hT.h3, hS.h3, hf]
    exact ⟨_, _, _, rfl, rfl, g⟩
  have h8' : a 0 3 < 8 := by omega
  simp (disch := omega) only [litN, nI_add, pk_mul, pk_sub, nI_negR, nI_negL, nI_negE, nI_negLt, nI_negGe, nI_ltE, nI_leE, nI_eqI, nI_clamp, inB_n, gd_tt, bindS, if_true, if_false, reduceIte, leT, leF, ltT, ltF, eqT, eqF, Bool.true_eq_false, hT.h3, hS.h3, hT.h4, nI_bitN, nI_or]
  have hB : ∀ T' : TI, T' 0 0 = T 0 0 → T' 0 1 = T 0 1 → T' 0 2 = T 0 2 → T' 0 3 = nI (a 0 3 + 1) → T' 0 4 = nI (if y = true then a 0 4 ||| 2 ^ a 0 3 else a 0 4) → T' 6 = T 6 → T' 7 = T 7 → T' 8 = T 8 → T' 9 = upd (T 9) (a 0 3) (nI x) → INV X T' I J P (sf (upA (upA S 7 (upd (S 7) (a 0 3) (nI x))) 8 (upd (S 8) (a 0 3) (nI y.toNat))) 8 (nI (a 0 3 + 1))) := by
    intro T' q0 q1 q2 q3 q4 q6 q7 q8 q9
    refine g.town (b := addS a x y) (hO.addS (by omega) h8') ⟨⟨?_, ?_, ?_, ?_, ?_⟩, ?_, ?_, ?_, ?_⟩ ⟨⟨?_, ?_, ?_, ?_⟩, ?_, ?_, ?_, ?_, ?_⟩ ⟨⟨?_, ?_⟩, ?_, ?_⟩ <;> simp (disch := omega) only [sf_s, sf_n, sf_r, upA_n, upA_s, upd_v, q0, q1, q2, q3, q4, q6, q7, q8, q9]
    · exact hT.h0
    · exact hT.h1
    · exact hT.h2
    · rfl
    · rfl
    · exact hT.2.1
    · exact hT.2.2.1
    · exact hT.2.2.2.1
    · intro j hj
      have hj' : j < a 0 3 + 1 := hj
      show _ = nI (if j = a 0 3 then x else a 4 j)
      by_cases hq : j = a 0 3
      · rw [if_pos hq, if_pos hq]
      · rw [if_neg hq, if_neg hq, hT.r9 (by omega)]
    · exact hS.h0
    · exact hS.h1
    · exact hS.h2
    · rfl
    · exact hS.2.1
    · exact hS.2.2.1
    · exact hS.2.2.2.1
    · intro j hj
      have hj' : j < a 0 3 + 1 := hj
      show _ = nI (if j = a 0 3 then x else a 4 j)
      by_cases hq : j = a 0 3
      · rw [if_pos hq, if_pos hq]
      · rw [if_neg hq, if_neg hq, hS.r7 (by omega)]
    · intro j hj
      have hj' : j < a 0 3 + 1 := hj
      show _ = nI ((if y = true then a 0 4 ||| 2 ^ a 0 3 else a 0 4).testBit j).toNat
      rw [tb_add hO.h4p hj']
      by_cases hq : j = a 0 3
      · rw [if_pos hq, if_pos hq]
      · rw [if_neg hq, if_neg hq, hS.r8 (by omega)]
  cases y
  · simp only [if_true]
    refine ⟨_, _, _, rfl, rfl, hB _ ?_ ?_ ?_ ?_ ?_ ?_ ?_ ?_ ?_⟩ <;> simp (disch := omega) only [sf_s, sf_n, sf_r, upA_n, upA_s, hT.h4]
    rfl
  · simp only [Bool.true_eq_false, if_false]
    refine ⟨_, _, _, rfl, rfl, hB _ ?_ ?_ ?_ ?_ ?_ ?_ ?_ ?_ ?_⟩ <;> simp (disch := omega) only [sf_s, sf_n, sf_r, upA_n, upA_s]
    rfl
theorem t_told (g : INV X T I J P S) (hn : 10 < n) (x1 : Int32) : ∃ v, m_X5_told n X T I J P C V F A x1 = some v ∧ m_X6_told n S L x1 = some v := by
  obtain ⟨⟨a, hO, hT, hS⟩, ⟨m, c, hm, hp, hs, hc⟩, him⟩ := g
  unfold m_X5_told m_X6_told
  simp only [litN, litL]
  simp only [e_within]
  simp (disch := omega) only [e_in]
  simp only [bindS, nI_f0]
  cases i1 : inr x1 10 13
  · cases i2 : inr x1 100 199
    · cases i3 : inr x1 200 299
      · simp only [if_true]
        unfold m_X6_toldOfAll
        have e1 := e_missed hT hO hn
        have e2 := e_missedIn (L := L) hS hO hO.h0 hn
        simp only [litN, hp, hs, hT.h0, hT.h1, hT.h2, hT.h3, hS.h0, hS.h1, hS.h2, hS.h3, e1, e2, bindS]
        refine ⟨if x1 = nI 0 then nI m else if x1 = nI 1 then nI (a 0 0) else if x1 = nI 2 then nI (a 0 1) else if x1 = nI 3 then nI (a 0 2) else if x1 = nI 4 then nI (mis a (a 0 0)) else if x1 = nI 5 then nI (a 0 3) else -nI 2, ?_, ?_⟩ <;> (repeat' split) <;> rfl
      · obtain ⟨k, rfl, hk1, hk2⟩ := inr_T i3 (by decide) (by decide)
        have h5 := hS.r5 (j := k - 200) (by omega)
        simp (disch := omega) only [litN, nI_add, pk_mul, pk_sub, nI_negR, nI_negL, nI_negE, nI_negLt, nI_negGe, nI_ltE, nI_leE, nI_eqI, nI_clamp, inB_n, gd_tt, bindS, if_true, if_false, reduceIte, leT, leF, ltT, ltF, eqT, eqF, pk_div, pk_remJ, Bool.true_eq_false, h5]
        have d1 : k / 10 / 10 = 2 := by omega
        have d2 : (k - 200) / 10 = k / 10 - 20 := by omega
        have d3 : (k - 200) % 10 = k % 10 := by omega
        have d4 : k / 10 % 10 = k / 10 - 20 := by omega
        by_cases hd : k / 10 % 10 = k % 10
        · rw [if_pos (by rw [d2, d3, ← d4, hd])]
          unfold m_X4_kind
          simp (disch := omega) only [litN, nI_add, pk_mul, pk_sub, nI_negR, nI_negL, nI_negE, nI_negLt, nI_negGe, nI_ltE, nI_leE, nI_eqI, nI_clamp, inB_n, gd_tt, bindS, if_true, if_false, reduceIte, leT, leF, ltT, ltF, eqT, eqF, hd]
          exact ⟨_, rfl, rfl⟩
        · rw [if_neg (by rw [d2, d3, ← d4]; exact hd)]
          have e1 := e_kind (n := n) hT (x := k / 10 % 10) (y := k % 10) (by omega) (by omega) hd
          rw [e1, show 10 * (k / 10 % 10) + k % 10 = k - 200 by omega]
          exact ⟨_, rfl, rfl⟩
    · obtain ⟨k, rfl, hk1, hk2⟩ := inr_T i2 (by decide) (by decide)
      have h5 := hS.r4 (j := k - 100) (by omega)
      have e1 := e_strength (n := n) hT (x := k / 10 % 10) (y := k % 10) (by omega) (by omega)
      rw [show 10 * (k / 10 % 10) + k % 10 = k - 100 by omega] at e1
      simp (disch := omega) only [litN, nI_add, pk_mul, pk_sub, nI_negR, nI_negL, nI_negE, nI_negLt, nI_negGe, nI_ltE, nI_leE, nI_eqI, nI_clamp, inB_n, gd_tt, bindS, if_true, if_false, reduceIte, leT, leF, ltT, ltF, eqT, eqF, pk_div, pk_remJ, Bool.true_eq_false, h5, e1]
      exact ⟨_, rfl, rfl⟩
  · obtain ⟨k, rfl, hk1, hk2⟩ := inr_T i1 (by decide) (by decide)
    have i2 : inr (nI k) 100 199 = false := by
      rw [inr_n (by omega) (by decide) (by decide)]
      simp; omega
    have i3 : inr (nI k) 200 299 = false := by
      rw [inr_n (by omega) (by decide) (by decide)]
      simp; omega
    have e1 := e_rule (n := n) hT (k := k - 10) (by omega)
    have h5 := hS.r6 (j := k - 10) (by omega)
    rw [i2, i3]
    simp (disch := omega) only [litN, nI_add, pk_mul, pk_sub, nI_negR, nI_negL, nI_negE, nI_negLt, nI_negGe, nI_ltE, nI_leE, nI_eqI, nI_clamp, inB_n, gd_tt, bindS, if_true, if_false, reduceIte, leT, leF, ltT, ltF, eqT, eqF, Bool.true_eq_false, h5, e1]
    exact ⟨_, rfl, rfl⟩
