/-! JUDGE, BEHIND, CITY, TAKEN, DONE -/
variable {n : Nat} {X T I J P C V F S S' : TI} {A L : TL} {a : AT} {c : Nat → Nat}
theorem FV_or (c : Nat → Nat) {m : Nat} (hm : m ≤ 60) : (FV c m = -nI 6 ∧ (∀ i, i < m → brk c i = false) ∧ du c m = 0) ∨ ∃ i, i ≤ 60 ∧ FV c m = nI i := by
  by_cases h : ∃ k, k < m ∧ brk c k = true
  · obtain ⟨k, ⟨k1, k2⟩, k3⟩ := pk_least (fun k => k < m ∧ brk c k = true) h
    have h0 : ∀ i, i < k → brk c i = false := fun i hi => by
      cases hb : brk c i
      · rfl
      · exact absurd ⟨by omega, hb⟩ (k3 i hi)
    right
    refine ⟨k, by omega, ?_⟩
    unfold FV
    rw [fbr_some h0 k2 k1, if_pos k1]
  · have h0 : ∀ i, i < m → brk c i = false := fun i hi => by
      cases hb : brk c i
      · rfl
      · exact absurd ⟨i, hi, hb⟩ h
    unfold FV
    rw [fbr_none h0, if_neg (Nat.lt_irrefl m)]
    by_cases hd : du c m = 0
    · rw [if_pos hd]
      exact Or.inl ⟨rfl, h0, hd⟩
    · rw [if_neg hd]
      exact Or.inr ⟨m, hm, rfl⟩
theorem e_startFrom {U : TI} (h : RT U a) (hO : OKA a) (hn : 1100 < n) : ∃ C' V', m_X1_startFrom n C V U = some (C', V') ∧ RT V' a ∧ C' 0 1 = nI 0 ∧ C' 0 3 = nI 0 ∧ C' 0 4 = nI 0 ∧ C' 0 5 = -nI 6 ∧ C' 0 6 = -nI 6 := by
  unfold m_X1_startFrom
  obtain ⟨V', b1, b2⟩ := e_copyFrom (n := n) (T := V) h hO hn
  simp only [litN, b1, bindS]
  refine ⟨_, _, rfl, b2, ?_, ?_, ?_, ?_, ?_⟩ <;> simp (disch := omega) only [sf_s, sf_n]
theorem FQ.fr (h : FQ S S') : FR S S' := h.1
def ENDS (a : AT) (u : Int32) (C' V' : TI) (v : Int32) (S' : TI) : Prop := (u = -nI 5 ∧ v = -nI 5 ∧ ∃ b, OKA b ∧ LK a b ∧ RS S' b) ∨ (u = -nI 3 ∧ v = -nI 3 ∧ (∃ b, OKA b ∧ LK a b ∧ RS S' b) ∧ C' 0 1 = S' 0 19 ∧ C' 0 2 = S' 0 20) ∨ (u = nI 0 ∧ v = -nI 6 ∧ (∃ b, OKA b ∧ LK a b ∧ RT V' b ∧ RS S' b) ∧ (S' 0 19 = -nI 6 ∧ S' 0 20 = -nI 6) ∧ C' 0 1 = S' 0 14 ∧ C' 0 3 = S' 0 15 ∧ C' 0 4 = S' 0 16 ∧ C' 0 5 = S' 0 21 ∧ C' 0 6 = S' 0 22)
theorem e_both {m : Nat} (hO : OKA a) (hT : RT T a) (hS : RS S a) (hp : PDm P S m c) (hn : 1100 < n) : ∃ u C' V' v S', m_X1_play n C V P T = some (u, C', V') ∧ m_X6_refusal n S L = some (v, S') ∧ HAD S' a ∧ FR S S' ∧ ENDS a u C' V' v S' := by
  unfold m_X1_play m_X6_refusal
  have e1 := e_firstFault (n := n) hp (by omega)
  obtain ⟨S1, k1, k2, k3⟩ := e_keepNow (n := n) (L := L) hS (by omega)
  have hp1 : PDm P S1 m c := k2.fq.1.1.pdm hp
  obtain ⟨S2, f1, f2, f3⟩ := e_fault (n := n) (L := L) hp1 (by omega)
  have hS2 : RS S2 a := (k2.fq.trans f2.fq).rs hS
  have hH2 : HAD S2 a := by
    unfold HAD at k3 ⊢
    rw [f2.1 19 (by decide) (by decide) (by decide) (by decide)]
    exact k3
  have hm : m ≤ 60 := hp.1
  rcases FV_or c hm with ⟨g1, g2, g3⟩ | ⟨i, g1, g2⟩
  · rw [g1] at e1 f1
    obtain ⟨p0, -, -, p3⟩ := piv m g2
    have hM := p0 g3
    have hMm : ac c m ≤ 60 := by have := ac_le c m; omega
    have hA := f3 g1
    obtain ⟨C1, V1, s1, s2, s3, s4, s5, s6, s7⟩ := e_startFrom (n := n) (C := C) (V := V) hT hO hn
    have hc : ∀ i, i < m → c i ≤ 126 ∧ P 1 i = nI (c i) := fun i hi => ⟨(hp.2.2.2 i hi).2.1, (hp.2.2.2 i hi).2.2.1⟩
    have hcl := e_playLoop (n := n) (C := C1) (V := V1) hO hp.2.1 hm hc p3 hM s2 s3 s4 s5 s6 s7 (by omega)
    obtain ⟨S3, m1, m2, m3⟩ := e_goMonths (n := n) (L := L) hS2 hO hA hMm (fun k hk => (p3 k hk).1) (by omega)
    have hH3 : HAD S3 a := by
      unfold HAD at hH2 ⊢
      rw [m2.1 19 (by decide) (by decide) (by decide)]
      exact hH2
    have hFR : FR S S3 := (k2.fq.trans f2.fq).1.trans m2.fr
    have h14 : S3 0 14 = nI (ac c m) := by rw [m2.2.2.2, hA.1]
    simp only [litN, e1, k1, f1, m1, s1, bindS, if_true]
    rw [if_pos (show -nI 6 < nI 0 by decide +kernel)]
    rcases hcl with ⟨k, q1, q2, q3, C2, V2, q4, q5, q6⟩ | ⟨q1, C2, V2, q4, q5, q6, q7, q8, q9, q0⟩
    · rcases m3 with ⟨j, j1, j2, j3, j4, j5, j6⟩ | ⟨j1, -⟩
      · have hjk : j = k := by
          by_cases w1 : j < k
          · exact absurd (q2 j w1) j3
          · by_cases w2 : k < j
            · exact absurd (j2 k w2) q3
            · omega
        subst hjk
        rw [q4, if_neg (by rw [j4]; exact nI_pos (by omega))]
        exact ⟨_, _, _, _, S3, rfl, rfl, hH3, hFR, Or.inr (Or.inl ⟨rfl, rfl, j6, by rw [q5, j4], by rw [q6, j5]⟩)⟩
      · exact absurd (j1 k q1) q3
    · rcases m3 with ⟨j, j1, j2, j3, j4, j5, j6⟩ | ⟨j1, j2, j3, j4, j5, j6, j7⟩
      · exact absurd (q1 j j1) j3
      · rw [q4, if_pos (by rw [j2.1]; decide +kernel)]
        refine ⟨_, _, _, _, S3, rfl, rfl, hH3, hFR, Or.inr (Or.inr ⟨rfl, rfl, ⟨rn a c (ac c m), rn_ok hO (fun k hk => (p3 k hk).1) _ (Nat.le_refl _) j1, rn_lk a c _, q5, j3⟩, j2, ?_, ?_, ?_, ?_, ?_⟩)⟩
        · rw [q6, h14]
        · rw [q7, j4]
        · rw [q8, j5]
        · rw [q9, j6]
        · rw [q0, j7]
  · rw [g2] at e1 f1
    have h6 : ¬ nI i = -6 := by
      rw [show (-6 : Int32) = -nI 6 from rfl, nI_negR (by omega) (by decide) (by decide)]
      exact not_false
    rw [e1, k1, bindS, bindS, f1, bindS, if_neg h6, if_neg (nI_pos (by omega))]
    exact ⟨_, _, _, _, S2, rfl, rfl, hH2, (k2.fq.trans f2.fq).1, Or.inl ⟨rfl, rfl, a, hO, LK.self, hS2⟩⟩
theorem INV.back (g : INV X T I J P S) (hO : OKA a) (hT : RT T a) (hS : RS S' a) (hF : FR S S') : INV X T I J P S' := g.town hO hT hS hF.1
theorem e_bk {S1 : TI} {b : AT} (g : INV X T I J P S) (hO : OKA a) (hT : RT T a) (hb : RS S1 b) (hlk : LK a b) (hH : HAD S1 a) (hF : FR S S1) (v : Int32) (hn : 1100 < n) : ∃ S2, m_X6_back n S1 L v = some (v, S2) ∧ INV X T I J P S2 ∧ ∀ j, ¬ j = 0 → ¬ j = 1 → ¬ j = 2 → S2 0 j = S1 0 j := by
  obtain ⟨S2, b1, b2, b3, b4⟩ := e_back (n := n) (L := L) hb hH hlk.1 hlk.2.1 hlk.2.2.1 hlk.2.2.2 v (by omega)
  exact ⟨S2, b1, g.back hO hT b2 (hF.trans b3), b4⟩
theorem ENDS.rs {u v : Int32} {C' V' : TI} (h : ENDS a u C' V' v S') : ∃ b, OKA b ∧ LK a b ∧ RS S' b := by
  rcases h with ⟨-, -, h⟩ | ⟨-, -, h, -⟩ | ⟨-, -, ⟨b, h1, h2, -, h4⟩, -⟩
  · exact h
  · exact h
  · exact ⟨b, h1, h2, h4⟩
theorem t_judge (g : INV X T I J P S) (hn : 1100 < n) (x1 : Int32) : ∃ v C' V' S', m_X5_judge n X T I J P C V F A x1 = some (v, C', V') ∧ m_X6_judge n S L x1 = some (v, S') ∧ INV X T I J P S' := by
  unfold m_X5_judge m_X6_judge
  simp only [litN, litL]
  simp only [e_within]
  simp (disch := omega) only [e_in]
  simp only [bindS, nI_f0]
  cases i1 : inr x1 0 2
  · exact ⟨_, _, _, _, rfl, rfl, g⟩
  obtain ⟨w, rfl, -, hw⟩ := inr_T i1 (by decide) (by decide)
  obtain ⟨⟨a, hO, hT, hS⟩, ⟨m, c, hp⟩, hI⟩ := id g
  obtain ⟨u, C', V', v, S1, b1, b2, b3, b4, b5⟩ := e_both (n := n) (C := C) (V := V) (L := L) hO hT hS hp hn
  obtain ⟨b, hb1, hb2, hb3⟩ := b5.rs
  obtain ⟨S2, k1, k2, k3⟩ := e_bk (n := n) (L := L) g hO hT hb3 hb2 b3 b4 v hn
  simp only [Bool.true_eq_false, if_false, b1, b2, bindS, k1, k3 19 (by decide) (by decide) (by decide), k3 20 (by decide) (by decide) (by decide), k3 15 (by decide) (by decide) (by decide)]
  have hw3 : w = 0 ∨ w = 1 ∨ w = 2 := by omega
  rcases b5 with ⟨rfl, rfl, -⟩ | ⟨rfl, rfl, -, c1, c2⟩ | ⟨rfl, rfl, -, c0, c1, c2, -⟩
  · simp (disch := omega) only [litN, nI_add, pk_mul, pk_sub, nI_negR, nI_negL, nI_negE, nI_negLt, nI_negGe, nI_ltE, nI_leE, nI_eqI, nI_clamp, inB_n, gd_tt, bindS, if_true, if_false, reduceIte, leT, leF, ltT, ltF, eqT, eqF]
    exact ⟨_, _, _, _, rfl, rfl, k2⟩
  · rw [← c1, ← c2]
    rcases hw3 with rfl | rfl | rfl <;> simp (disch := omega) only [litN, nI_add, pk_mul, pk_sub, nI_negR, nI_negL, nI_negE, nI_negLt, nI_negGe, nI_ltE, nI_leE, nI_eqI, nI_clamp, inB_n, gd_tt, bindS, if_true, if_false, reduceIte, leT, leF, ltT, ltF, eqT, eqF, nI_negE] <;> exact ⟨_, _, _, _, rfl, rfl, k2⟩
  · rw [← c2, c0.1, c0.2]
    rcases hw3 with rfl | rfl | rfl <;> simp (disch := omega) only [litN, nI_add, pk_mul, pk_sub, nI_negR, nI_negL, nI_negE, nI_negLt, nI_negGe, nI_ltE, nI_leE, nI_eqI, nI_clamp, inB_n, gd_tt, bindS, if_true, if_false, reduceIte, leT, leF, ltT, ltF, eqT, eqF, nI_negE] <;> exact ⟨_, _, _, _, rfl, rfl, k2⟩
theorem tbt_dz (hO : OKA a) {x t : Nat} (hx : x < 10) : tbt a (2 ^ x) (dif t (2 ^ x)) = tbt a (2 ^ x) t := by
  unfold tbt
  refine sm_congr (fun e he => ?_)
  unfold tq
  rw [dif_tb, Nat.testBit_two_pow, Nat.testBit_two_pow]
  by_cases q1 : x = e / 10
  · by_cases q2 : x = e % 10
    · have h0 := hO.dz hx
      rw [show 10 * x + x = e by omega] at h0
      rw [h0]
      simp
    · simp [q1, show ¬ e / 10 = e % 10 by omega]
  · simp [q1]
theorem e_toldOf (hT : RT T a) (hS : RS S a) (hO : OKA a) {x w : Nat} (hx : x < 10) (hw : w ≤ 4) (hn : 1100 < n) : ∃ v, m_X4_toldOf n T (nI x) (nI w) = some v ∧ m_X6_ofOne n S L (nI x) (nI w) = some v := by
  unfold m_X4_toldOf m_X6_ofOne
  have h0 := hO.h0
  have h1 := hO.h1
  have h2 := hO.h2
  have e1 := e_hereT (n := n) hT hO hx
  have e2 := e_holds (n := n) (s := a 0 1) (k := x) h1 (by omega)
  have e3 := e_holds (n := n) (s := a 0 2) (k := x) h2 (by omega)
  have e4 := e_missed hT hO (by omega : 10 < n)
  have e5 := e_holds (n := n) (s := mis a (a 0 0)) (k := x) (mis_lt _ _) (by omega)
  have e6 := e_between (n := n) hT hO (two_lt hx) h0 (by omega)
  have f1 := e_has (n := n) (s := a 0 0) (k := x) h0 (by omega)
  have f2 := e_isMissedIn (n := n) (L := L) hS hO h0 hx (by omega)
  have f3 := e_tiesBetween (n := n) (L := L) hS hO (two_lt hx) (dif_lt (b := 2 ^ x) h0) (by omega)
  rw [tbt_dz hO hx] at f3
  have hmt := mis_tb (a := a) hx (a 0 0)
  have hx31 : x < 31 := by omega
  have bt : ∀ b : Bool, (if b = false then some (nI 0) else some (nI 1)) = some (nI b.toNat) := fun b => by cases b <;> rfl
  rcases (show w = 0 ∨ w = 1 ∨ w = 2 ∨ w = 3 ∨ w = 4 by omega) with rfl | rfl | rfl | rfl | rfl
  · simp (disch := omega) only [litN, nI_eqI, eqT, eqF, if_true, if_false, e1, bindS, nI_f0, hS.h0, nI_has, bt]
    exact ⟨_, rfl, rfl⟩
  · simp (disch := omega) only [litN, nI_eqI, eqT, eqF, if_true, if_false, e2, hT.h1, bindS, nI_f0, hS.h1, nI_has, bt]
    exact ⟨_, rfl, rfl⟩
  · simp (disch := omega) only [litN, nI_eqI, eqT, eqF, if_true, if_false, e3, hT.h2, bindS, nI_f0, hS.h2, nI_has, bt]
    exact ⟨_, rfl, rfl⟩
  · simp (disch := omega) only [litN, nI_eqI, eqT, eqF, if_true, if_false, e1, e4, e5, hT.h0, bindS, nI_f0, hS.h0, f1, f2, hmt, bt]
    cases (a 0 0).testBit x
    · exact ⟨_, rfl, rfl⟩
    · exact ⟨_, rfl, rfl⟩
  · simp (disch := omega) only [litN, nI_eqI, eqT, eqF, if_true, if_false, nI_bitN, hT.h0, e6, bindS, hS.h0, nI_andn, f3]
    exact ⟨_, rfl, rfl⟩
theorem t_behind (g : INV X T I J P S) (hn : 1100 < n) (x1 x2 : Int32) : ∃ v C' V' S', m_X5_behind n X T I J P C V F A x1 x2 = some (v, C', V') ∧ m_X6_behind n S L x1 x2 = some (v, S') ∧ INV X T I J P S' := by
  unfold m_X5_behind m_X6_behind
  simp only [litN, litL, e_isOne, e_isOne6]
  simp only [e_within]
  simp (disch := omega) only [e_in]
  simp only [bindS, nI_f0]
  cases i1 : inr x1 0 9
  · exact ⟨_, _, _, _, rfl, rfl, g⟩
  cases i2 : inr x2 0 4
  · exact ⟨_, _, _, _, rfl, rfl, g⟩
  obtain ⟨x, rfl, -, hx⟩ := inr_T i1 (by decide) (by decide)
  obtain ⟨w, rfl, -, hw⟩ := inr_T i2 (by decide) (by decide)
  obtain ⟨⟨a, hO, hT, hS⟩, ⟨m, c, hp⟩, hI⟩ := id g
  obtain ⟨u, C', V', v, S1, b1, b2, b3, b4, b5⟩ := e_both (n := n) (C := C) (V := V) (L := L) hO hT hS hp hn
  obtain ⟨b, hb1, hb2, hb3⟩ := b5.rs
  simp only [Bool.true_eq_false, if_false, b1, b2, bindS]
  rcases b5 with ⟨rfl, rfl, -⟩ | ⟨rfl, rfl, -, c1, c2⟩ | ⟨rfl, rfl, ⟨d, d1, d2, d3, d4⟩, -⟩
  · obtain ⟨S2, k1, k2, k3⟩ := e_bk (n := n) (L := L) g hO hT hb3 hb2 b3 b4 (-nI 5) hn
    simp (disch := omega) only [litN, nI_add, pk_mul, pk_sub, nI_negR, nI_negL, nI_negE, nI_negLt, nI_negGe, nI_ltE, nI_leE, nI_eqI, nI_clamp, inB_n, gd_tt, bindS, if_true, if_false, reduceIte, leT, leF, ltT, ltF, eqT, eqF, nI_negE, k1]
    exact ⟨_, _, _, _, rfl, rfl, k2⟩
  · obtain ⟨S2, k1, k2, k3⟩ := e_bk (n := n) (L := L) g hO hT hb3 hb2 b3 b4 (-nI 3) hn
    simp (disch := omega) only [litN, nI_add, pk_mul, pk_sub, nI_negR, nI_negL, nI_negE, nI_negLt, nI_negGe, nI_ltE, nI_leE, nI_eqI, nI_clamp, inB_n, gd_tt, bindS, if_true, if_false, reduceIte, leT, leF, ltT, ltF, eqT, eqF, nI_negE, k1]
    exact ⟨_, _, _, _, rfl, rfl, k2⟩
  · obtain ⟨r, r1, r2⟩ := e_toldOf (n := n) (L := L) d3 d4 d1 (x := x) (w := w) (by omega) hw hn
    obtain ⟨S2, k1, k2, k3⟩ := e_bk (n := n) (L := L) g hO hT hb3 hb2 b3 b4 r hn
    simp (disch := omega) only [litN, nI_add, pk_mul, pk_sub, nI_negR, nI_negL, nI_negE, nI_negLt, nI_negGe, nI_ltE, nI_leE, nI_eqI, nI_clamp, inB_n, gd_tt, bindS, if_true, if_false, reduceIte, leT, leF, ltT, ltF, eqT, eqF, nI_negE, r1, r2, k1]
    exact ⟨_, _, _, _, rfl, rfl, k2⟩
theorem t_city (g : INV X T I J P S) (hn : 1100 < n) (x1 : Int32) : ∃ v C' V' S', m_X5_city n X T I J P C V F A x1 = some (v, C', V') ∧ m_X6_city n S L x1 = some (v, S') ∧ INV X T I J P S' := by
  unfold m_X5_city m_X6_city
  simp only [litN, litL]
  simp only [e_within]
  simp (disch := omega) only [e_in]
  simp only [bindS, nI_f0]
  cases i1 : inr x1 0 2
  · exact ⟨_, _, _, _, rfl, rfl, g⟩
  obtain ⟨w, rfl, -, hw⟩ := inr_T i1 (by decide) (by decide)
  obtain ⟨⟨a, hO, hT, hS⟩, ⟨m, c, hp⟩, hI⟩ := id g
  obtain ⟨u, C', V', v, S1, b1, b2, b3, b4, b5⟩ := e_both (n := n) (C := C) (V := V) (L := L) hO hT hS hp hn
  obtain ⟨b, hb1, hb2, hb3⟩ := b5.rs
  have e1 := e_missedIn (n := n) (L := L) hb3 hb1 hb1.h0 (by omega)
  rw [← hb3.h0] at e1
  have hw3 : w = 0 ∨ w = 1 ∨ w = 2 := by omega
  simp only [Bool.true_eq_false, if_false, b1, b2, bindS, e1]
  rcases b5 with ⟨rfl, rfl, -⟩ | ⟨rfl, rfl, -, c1, c2⟩ | ⟨rfl, rfl, ⟨d, d1, d2, d3, d4⟩, -, c1, c2, c3, -⟩
  · obtain ⟨S2, k1, k2, k3⟩ := e_bk (n := n) (L := L) g hO hT hb3 hb2 b3 b4 (-nI 5) hn
    rcases hw3 with rfl | rfl | rfl <;> simp (disch := omega) only [litN, nI_add, pk_mul, pk_sub, nI_negR, nI_negL, nI_negE, nI_negLt, nI_negGe, nI_ltE, nI_leE, nI_eqI, nI_clamp, inB_n, gd_tt, bindS, if_true, if_false, reduceIte, leT, leF, ltT, ltF, eqT, eqF, nI_negE, k1] <;> exact ⟨_, _, _, _, rfl, rfl, k2⟩
  · obtain ⟨S2, k1, k2, k3⟩ := e_bk (n := n) (L := L) g hO hT hb3 hb2 b3 b4 (-nI 3) hn
    rcases hw3 with rfl | rfl | rfl <;> simp (disch := omega) only [litN, nI_add, pk_mul, pk_sub, nI_negR, nI_negL, nI_negE, nI_negLt, nI_negGe, nI_ltE, nI_leE, nI_eqI, nI_clamp, inB_n, gd_tt, bindS, if_true, if_false, reduceIte, leT, leF, ltT, ltF, eqT, eqF, nI_negE, k1] <;> exact ⟨_, _, _, _, rfl, rfl, k2⟩
  · have e2 := e_missed (n := n) d3 d1 (by omega)
    have e3 := e_missedIn (n := n) (L := L) d4 d1 d1.h0 (by omega)
    rw [← d4.h0] at e3
    have hmm : mis b (b 0 0) < 1024 := mis_lt _ _
    have hmd : mis d (d 0 0) < 1024 := mis_lt _ _
    have heq : mis b (b 0 0) = mis d (d 0 0) := by
      rw [e3] at e1
      have := Option.some.inj e1
      exact ((nI_eq (by omega) (by omega)).mp this).symm
    rcases hw3 with rfl | rfl | rfl
    · obtain ⟨S2, k1, k2, k3⟩ := e_bk (n := n) (L := L) g hO hT hb3 hb2 b3 b4 (nI (d 0 0)) hn
      simp (disch := omega) only [litN, nI_add, pk_mul, pk_sub, nI_negR, nI_negL, nI_negE, nI_negLt, nI_negGe, nI_ltE, nI_leE, nI_eqI, nI_clamp, inB_n, gd_tt, bindS, if_true, if_false, reduceIte, leT, leF, ltT, ltF, eqT, eqF, nI_negE, d3.h0, d4.h0, k1]
      exact ⟨_, _, _, _, rfl, rfl, k2⟩
    · obtain ⟨S2, k1, k2, k3⟩ := e_bk (n := n) (L := L) g hO hT hb3 hb2 b3 b4 (nI (mis d (d 0 0))) hn
      simp (disch := omega) only [litN, nI_add, pk_mul, pk_sub, nI_negR, nI_negL, nI_negE, nI_negLt, nI_negGe, nI_ltE, nI_leE, nI_eqI, nI_clamp, inB_n, gd_tt, bindS, if_true, if_false, reduceIte, leT, leF, ltT, ltF, eqT, eqF, nI_negE, e2, heq, k1]
      exact ⟨_, _, _, _, rfl, rfl, k2⟩
    · obtain ⟨S2, k1, k2, k3⟩ := e_bk (n := n) (L := L) g hO hT hb3 hb2 b3 b4 (S1 0 16) hn
      simp (disch := omega) only [litN, nI_add, pk_mul, pk_sub, nI_negR, nI_negL, nI_negE, nI_negLt, nI_negGe, nI_ltE, nI_leE, nI_eqI, nI_clamp, inB_n, gd_tt, bindS, if_true, if_false, reduceIte, leT, leF, ltT, ltF, eqT, eqF, nI_negE, k1, c3]
      exact ⟨_, _, _, _, rfl, rfl, k2⟩
theorem t_taken (g : INV X T I J P S) (hn : 1100 < n) (x1 : Int32) : ∃ v C' V' S', m_X5_taken n X T I J P C V F A x1 = some (v, C', V') ∧ m_X6_taken n S L x1 = some (v, S') ∧ INV X T I J P S' := by
  unfold m_X5_taken m_X6_taken
  simp only [litN, litL, e_isFlag]
  simp (disch := omega) only [e_in]
  simp only [bindS, nI_f0]
  cases i1 : inr x1 0 1
  · exact ⟨_, _, _, _, rfl, rfl, g⟩
  obtain ⟨w, rfl, -, hw⟩ := inr_T i1 (by decide) (by decide)
  obtain ⟨⟨a, hO, hT, hS⟩, ⟨m, c, hp⟩, hI⟩ := id g
  obtain ⟨u, C', V', v, S1, b1, b2, b3, b4, b5⟩ := e_both (n := n) (C := C) (V := V) (L := L) hO hT hS hp hn
  obtain ⟨b, hb1, hb2, hb3⟩ := b5.rs
  obtain ⟨S2, k1, k2, k3⟩ := e_bk (n := n) (L := L) g hO hT hb3 hb2 b3 b4 v hn
  simp only [Bool.true_eq_false, if_false, b1, b2, bindS, k1, k3 21 (by decide) (by decide) (by decide), k3 22 (by decide) (by decide) (by decide)]
  rcases b5 with ⟨rfl, rfl, -⟩ | ⟨rfl, rfl, -, c1, c2⟩ | ⟨rfl, rfl, -, -, -, -, -, c4, c5⟩
  · simp (disch := omega) only [litN, nI_add, pk_mul, pk_sub, nI_negR, nI_negL, nI_negE, nI_negLt, nI_negGe, nI_ltE, nI_leE, nI_eqI, nI_clamp, inB_n, gd_tt, bindS, if_true, if_false, reduceIte, leT, leF, ltT, ltF, eqT, eqF, nI_negE]
    exact ⟨_, _, _, _, rfl, rfl, k2⟩
  · simp (disch := omega) only [litN, nI_add, pk_mul, pk_sub, nI_negR, nI_negL, nI_negE, nI_negLt, nI_negGe, nI_ltE, nI_leE, nI_eqI, nI_clamp, inB_n, gd_tt, bindS, if_true, if_false, reduceIte, leT, leF, ltT, ltF, eqT, eqF, nI_negE]
    exact ⟨_, _, _, _, rfl, rfl, k2⟩
  · rw [← c4, ← c5]
    rcases (show w = 0 ∨ w = 1 by omega) with rfl | rfl <;> simp (disch := omega) only [litN, nI_add, pk_mul, pk_sub, nI_negR, nI_negL, nI_negE, nI_negLt, nI_negGe, nI_ltE, nI_leE, nI_eqI, nI_clamp, inB_n, gd_tt, bindS, if_true, if_false, reduceIte, leT, leF, ltT, ltF, eqT, eqF, nI_negE] <;> exact ⟨_, _, _, _, rfl, rfl, k2⟩
theorem t_done (g : INV X T I J P S) (hn : 1100 < n) : ∃ v T' P' C' V' S', m_X5_done n X T I J P C V F A = some (v, T', P', C', V') ∧ m_X6_done n S L = some (v, S') ∧ INV X T' I J P' S' := by
  unfold m_X5_done m_X6_done
  obtain ⟨⟨a, hO, hT, hS⟩, ⟨m, c, hp⟩, hI⟩ := id g
  obtain ⟨u, C', V', v, S1, b1, b2, b3, b4, b5⟩ := e_both (n := n) (C := C) (V := V) (L := L) hO hT hS hp hn
  obtain ⟨b, hb1, hb2, hb3⟩ := b5.rs
  simp only [b1, b2, bindS]
  rcases b5 with ⟨rfl, rfl, -⟩ | ⟨rfl, rfl, -, c1, c2⟩ | ⟨rfl, rfl, ⟨d, d1, d2, d3, d4⟩, -, c1, -⟩
  · obtain ⟨S2, k1, k2, k3⟩ := e_bk (n := n) (L := L) g hO hT hb3 hb2 b3 b4 (-nI 5) hn
    simp (disch := omega) only [litN, nI_add, pk_mul, pk_sub, nI_negR, nI_negL, nI_negE, nI_negLt, nI_negGe, nI_ltE, nI_leE, nI_eqI, nI_clamp, inB_n, gd_tt, bindS, if_true, if_false, reduceIte, leT, leF, ltT, ltF, eqT, eqF, nI_negE, k1]
    exact ⟨_, _, _, _, _, _, rfl, rfl, k2⟩
  · obtain ⟨S2, k1, k2, k3⟩ := e_bk (n := n) (L := L) g hO hT hb3 hb2 b3 b4 (-nI 3) hn
    simp (disch := omega) only [litN, nI_add, pk_mul, pk_sub, nI_negR, nI_negL, nI_negE, nI_negLt, nI_negGe, nI_ltE, nI_leE, nI_eqI, nI_clamp, inB_n, gd_tt, bindS, if_true, if_false, reduceIte, leT, leF, ltT, ltF, eqT, eqF, nI_negE, k1]
    exact ⟨_, _, _, _, _, _, rfl, rfl, k2⟩
  · obtain ⟨T', z1, z2⟩ := e_copyFrom (n := n) (T := T) d3 d1 hn
    simp (disch := omega) only [litN, nI_add, pk_mul, pk_sub, nI_negR, nI_negL, nI_negE, nI_negLt, nI_negGe, nI_ltE, nI_leE, nI_eqI, nI_clamp, inB_n, gd_tt, bindS, if_true, if_false, reduceIte, leT, leF, ltT, ltF, eqT, eqF, nI_negE, z1, c1]
    refine ⟨_, _, _, _, _, _, rfl, rfl, ⟨d, d1, z2, d4.sfj (by decide) (by decide) (by decide) (by decide)⟩, ⟨0, c, by omega, sf_s, sf_s, fun j hj => absurd hj (Nat.not_lt_zero _)⟩, (b4.1.ims hI).same ?_ ?_⟩ <;> simp (disch := omega) only [sf_r]
