/-! YEAR -/
variable {n : Nat} {X T I J P C V F S S' : TI} {A L : TL} {a : AT}
def yx (s : Nat) : Nat → Nat
  | 0 => s
  | k + 1 => (75 * yx s k + 74) % 65537
def cby (j : Nat) : Nat := if j < 2 then 0 else if j = 2 then 1 else if j = 3 then 2 else if j < 6 then 4 else if j = 6 then 5 else 6
def yq (s k : Nat) : Nat := cby (yx s (k + 1) / 100 % 8)
def yp (s k : Nat) : Nat := yx s (k + 1) % 10
def yo (s k : Nat) : Nat := yx s (k + 1) / 10 % 10
def ya (a : AT) (s : Nat) : Nat → AT
  | 0 => a
  | k + 1 => if why (ya a s k) (yq s k) (yp s k) (yo s k) = 0 then actA (ya a s k) (yq s k) (yp s k) (yo s k) else ya a s k
def yt (a : AT) (s : Nat) : Nat → Int32
  | 0 => nI 0
  | k + 1 => if why (ya a s k) (yq s k) (yp s k) (yo s k) = 0 then yt a s k + nI (tbt (actA (ya a s k) (yq s k) (yp s k) (yo s k)) (gn (ya a s k) (yq s k)) (actA (ya a s k) (yq s k) (yp s k) (yo s k) 0 0)) else yt a s k
theorem ya_s (a : AT) (s k : Nat) : ya a s (k + 1) = if why (ya a s k) (yq s k) (yp s k) (yo s k) = 0 then actA (ya a s k) (yq s k) (yp s k) (yo s k) else ya a s k := rfl
theorem yt_s (a : AT) (s k : Nat) : yt a s (k + 1) = if why (ya a s k) (yq s k) (yp s k) (yo s k) = 0 then yt a s k + nI (tbt (actA (ya a s k) (yq s k) (yp s k) (yo s k)) (gn (ya a s k) (yq s k)) (actA (ya a s k) (yq s k) (yp s k) (yo s k) 0 0)) else yt a s k := rfl
theorem yx_lt {s : Nat} (hs : s ≤ 9999) : ∀ k, yx s k < 65537
  | 0 => show s < 65537 by omega
  | k + 1 => Nat.mod_lt _ (by decide)
theorem cby_le (j : Nat) : cby j ≤ 6 := by
  unfold cby
  repeat' split
  all_goals omega
theorem drawn_v : ∀ j, j < 8 → m_X5_drawnDeed 0 (nI j) = some (nI (dc (cby j))) := by decide +kernel
theorem actBy_v : ∀ j, j < 8 → m_X6_actBy 0 (nI j) = some (nI (cby j)) := by decide +kernel
theorem ya_ok (hO : OKA a) (s : Nat) : ∀ k, OKA (ya a s k)
  | 0 => hO
  | k + 1 => by
    have ih := ya_ok hO s k
    rw [ya_s]
    by_cases q : why (ya a s k) (yq s k) (yp s k) (yo s k) = 0
    · rw [if_pos q]
      exact act_ok ih (cby_le _) (Nat.mod_lt _ (by decide)) (Nat.mod_lt _ (by decide)) (why_ne q)
    · rw [if_neg q]
      exact ih
theorem ya_lk (a : AT) (s : Nat) : ∀ k, LK a (ya a s k)
  | 0 => LK.self
  | k + 1 => by
    have ih := ya_lk a s k
    rw [ya_s]
    split
    · exact ih.trans (LK.act _ (cby_le _))
    · exact ih
def yv (b : AT) (t : Int32) (w : Nat) : Int32 := if w = 0 then nI (pc (b 0 0)) else if w = 1 then nI (tbt b 1023 1023 / 2) else t
theorem e_yearT {s m w : Nat} (hO : OKA a) (hT : RT V a) (hs : s ≤ 9999) (hm : m ≤ 99) (hw : w ≤ 2) (h4 : C 0 4 = nI 0) (hn : 1100 < n) : ∃ C' V', loopF (b_X5_year_50 n (nI m) (nI w)) n (nI s, nI 0, C, V) = some (yv (ya a s m) (yt a s m) w, C', V') := by
  refine loop_inv (b_X5_year_50 n (nI m) (nI w)) (fun k t => t.1 = nI (yx s k) ∧ t.2.1 = nI k ∧ RT t.2.2.2 (ya a s k) ∧ t.2.2.1 0 4 = yt a s k) m (fun o => ∃ C' V', o = some (yv (ya a s m) (yt a s m) w, C', V')) (fun k hk t ht kk => ?_) (fun t ht kk => ?_) _ n ⟨rfl, rfl, hT, h4⟩ (by omega)
  · left
    obtain ⟨t1, t2, t3, t4⟩ := ht
    have hx := yx_lt hs k
    have hx1 : (75 * yx s k + 74) % 65537 = yx s (k + 1) := rfl
    have hx2 := yx_lt hs (k + 1)
    have hOk := ya_ok hO s k
    have e1 : m_X5_drawnDeed n (nI (yx s (k + 1) / 100 % 8)) = some (nI (dc (yq s k))) := drawn_v _ (Nat.mod_lt _ (by decide))
    obtain ⟨a1, a2⟩ := e_attempt (n := n) (C := t.2.2.1) t3 hOk (cby_le (yx s (k + 1) / 100 % 8)) (x := yp s k) (y := yo s k) (p := nI (yp s k)) (q := nI (yo s k)) (Nat.mod_lt _ (by decide)) (Nat.mod_lt _ (by decide)) (fun _ => rfl) (fun _ => rfl) (by omega)
    rw [show cby (yx s (k + 1) / 100 % 8) = yq s k from rfl] at a1 a2
    have hp : yx s (k + 1) % 10 = yp s k := rfl
    have ho : yx s (k + 1) / 10 % 10 = yo s k := rfl
    by_cases q : why (ya a s k) (yq s k) (yp s k) (yo s k) = 0
    · obtain ⟨C1, V1, b1, b2, b3, b4, b5, b6, b7⟩ := a2 q
      refine ⟨(nI (yx s (k + 1)), nI (k + 1), C1, V1), ?_, rfl, rfl, ?_, ?_⟩
      · unfold b_X5_year_50
        simp (disch := omega) only [litN, nI_add, pk_mul, pk_sub, nI_negR, nI_negL, nI_negE, nI_negLt, nI_negGe, nI_ltE, nI_leE, nI_eqI, nI_clamp, inB_n, gd_tt, bindS, if_true, if_false, reduceIte, leT, leF, ltT, ltF, eqT, eqF, t1, t2, pk_remJ, pk_div, hx1, e1, hp, ho, b1]
      · rw [ya_s, if_pos q]
        exact b2
      · rw [yt_s, if_pos q]
        dsimp only
        rw [b5, t4]
    · have b1 := a1 q
      refine ⟨(nI (yx s (k + 1)), nI (k + 1), t.2.2.1, t.2.2.2), ?_, rfl, rfl, ?_, ?_⟩
      · unfold b_X5_year_50
        simp (disch := omega) only [litN, nI_add, pk_mul, pk_sub, nI_negR, nI_negL, nI_negE, nI_negLt, nI_negGe, nI_ltE, nI_leE, nI_eqI, nI_clamp, inB_n, gd_tt, bindS, if_true, if_false, reduceIte, leT, leF, ltT, ltF, eqT, eqF, t1, t2, pk_remJ, pk_div, hx1, e1, hp, ho, b1]
      · rw [ya_s, if_neg q]
        exact t3
      · rw [yt_s, if_neg q]
        exact t4
  · obtain ⟨t1, t2, t3, t4⟩ := ht
    have hOk := ya_ok hO s m
    have e1 := e_bc (n := n) hOk.h0
    have e2 := e_between (n := n) t3 hOk (s := 1023) (t := 1023) (by decide) (by decide) (by omega)
    have hle := tbt_le hOk 1023 1023
    refine ⟨t.2.2.1, t.2.2.2, ?_⟩
    unfold b_X5_year_50 m_X4_strengthOfAll yv
    rcases (show w = 0 ∨ w = 1 ∨ w = 2 by omega) with rfl | rfl | rfl
    · simp (disch := omega) only [litN, nI_add, pk_mul, pk_sub, nI_negR, nI_negL, nI_negE, nI_negLt, nI_negGe, nI_ltE, nI_leE, nI_eqI, nI_clamp, inB_n, gd_tt, bindS, if_true, if_false, reduceIte, leT, leF, ltT, ltF, eqT, eqF, t2, t3.h0, e1]
    · simp (disch := omega) only [litN, nI_add, pk_mul, pk_sub, nI_negR, nI_negL, nI_negE, nI_negLt, nI_negGe, nI_ltE, nI_leE, nI_eqI, nI_clamp, inB_n, gd_tt, bindS, if_true, if_false, reduceIte, leT, leF, ltT, ltF, eqT, eqF, t2, e2, pk_div]
    · simp (disch := omega) only [litN, nI_add, pk_mul, pk_sub, nI_negR, nI_negL, nI_negE, nI_negLt, nI_negGe, nI_ltE, nI_leE, nI_eqI, nI_clamp, inB_n, gd_tt, bindS, if_true, if_false, reduceIte, leT, leF, ltT, ltF, eqT, eqF, t2, t4]
theorem e_yearS {s m w : Nat} {S0 : TI} (hO : OKA a) (hS : RS S a) (hs : s ≤ 9999) (hm : m ≤ 99) (hw : w ≤ 2) (h16 : S 0 16 = nI 0) (g : INV X T I J P S0) (hT : RT T a) (hH : HAD S a) (hF : FR S0 S) (hn : 1100 < n) : ∃ S', loopF (b_X6_year_54 n L (nI m) (nI w)) n (nI s, nI 0, S) = some (yv (ya a s m) (yt a s m) w, S') ∧ INV X T I J P S' := by
  refine loop_inv (b_X6_year_54 n L (nI m) (nI w)) (fun k t => t.1 = nI (yx s k) ∧ t.2.1 = nI k ∧ RS t.2.2 (ya a s k) ∧ t.2.2 0 16 = yt a s k ∧ GF S t.2.2) m (fun o => ∃ S', o = some (yv (ya a s m) (yt a s m) w, S') ∧ INV X T I J P S') (fun k hk t ht kk => ?_) (fun t ht kk => ?_) _ n ⟨rfl, rfl, hS, h16, GF.self⟩ (by omega)
  · left
    obtain ⟨t1, t2, t3, t4, t5⟩ := ht
    have hx := yx_lt hs k
    have hx1 : (75 * yx s k + 74) % 65537 = yx s (k + 1) := rfl
    have hx2 := yx_lt hs (k + 1)
    have hOk := ya_ok hO s k
    have e1 : m_X6_actBy n (nI (yx s (k + 1) / 100 % 8)) = some (nI (yq s k)) := actBy_v _ (Nat.mod_lt _ (by decide))
    have hp : yx s (k + 1) % 10 = yp s k := rfl
    have ho : yx s (k + 1) / 10 % 10 = yo s k := rfl
    have e2 := e_whyNot (n := n) (L := L) t3 hOk (cby_le (yx s (k + 1) / 100 % 8)) (x := yp s k) (y := yo s k) (Nat.mod_lt _ (by decide)) (Nat.mod_lt _ (by decide)) (by omega)
    rw [show cby (yx s (k + 1) / 100 % 8) = yq s k from rfl] at e2
    have hwl := why_le (ya a s k) (yq s k) (yp s k) (yo s k)
    have hrem : jremL (lN (75 * yx s k + 74)) (lN 65537) = lN (yx s (k + 1)) := pk_lRem (by omega) (by decide) (by decide)
    by_cases q : why (ya a s k) (yq s k) (yp s k) (yo s k) = 0
    · obtain ⟨S1, b1, b2, b3, b4, b5, b6⟩ := e_happen (n := n) (L := L) t3 hOk (cby_le (yx s (k + 1) / 100 % 8)) (x := yp s k) (y := yo s k) (Nat.mod_lt _ (by decide)) (Nat.mod_lt _ (by decide)) (why_ne q) (by omega)
      rw [show cby (yx s (k + 1) / 100 % 8) = yq s k from rfl] at b1 b2 b4 b5 b6
      refine ⟨(nI (yx s (k + 1)), nI (k + 1), S1), ?_, rfl, rfl, ?_, ?_, t5.trans b3.gf⟩
      · unfold b_X6_year_54
        simp only [litL]
        simp (disch := omega) only [litN, nI_add, pk_mul, pk_sub, nI_negR, nI_negL, nI_negE, nI_negLt, nI_negGe, nI_ltE, nI_leE, nI_eqI, nI_clamp, inB_n, gd_tt, bindS, if_true, if_false, reduceIte, leT, leF, ltT, ltF, eqT, eqF, t1, t2, nI_l, lN_mul, lN_add, hrem, lN_i, pk_remJ, pk_div, e1, hp, ho, e2, q, b1]
      · rw [ya_s, if_pos q]
        exact b2
      · rw [yt_s, if_pos q]
        dsimp only
        rw [b5, t4]
    · refine ⟨(nI (yx s (k + 1)), nI (k + 1), t.2.2), ?_, rfl, rfl, ?_, ?_, t5⟩
      · unfold b_X6_year_54
        simp only [litL]
        simp (disch := omega) only [litN, nI_add, pk_mul, pk_sub, nI_negR, nI_negL, nI_negE, nI_negLt, nI_negGe, nI_ltE, nI_leE, nI_eqI, nI_clamp, inB_n, gd_tt, bindS, if_true, if_false, reduceIte, leT, leF, ltT, ltF, eqT, eqF, t1, t2, nI_l, lN_mul, lN_add, hrem, lN_i, pk_remJ, pk_div, e1, hp, ho, e2]
      · rw [ya_s, if_neg q]
        exact t3
      · rw [yt_s, if_neg q]
        exact t4
  · obtain ⟨t1, t2, t3, t4, t5⟩ := ht
    have hOk := ya_ok hO s m
    have e1 := e_ones (n := n) hOk.h0 (by omega)
    have e2 := e_tiesBetween (n := n) (L := L) t3 hOk (s := 1023) (t := 1023) (by decide) (by decide) (by omega)
    have hle := tbt_le hOk 1023 1023
    have hH2 : HAD t.2.2 a := by
      unfold HAD at hH ⊢
      rw [t5.1 19 (by decide) (by decide) (by decide)]
      exact hH
    obtain ⟨S2, k1, k2, k3⟩ := e_bk (n := n) (L := L) g hO hT t3 (ya_lk a s m) hH2 (hF.trans t5.fr) (yv (ya a s m) (yt a s m) w) hn
    refine ⟨S2, ?_, k2⟩
    unfold yv at k1 ⊢
    unfold b_X6_year_54
    rcases (show w = 0 ∨ w = 1 ∨ w = 2 by omega) with rfl | rfl | rfl
    · simp only [if_true] at k1
      simp (disch := omega) only [litN, nI_add, pk_mul, pk_sub, nI_negR, nI_negL, nI_negE, nI_negLt, nI_negGe, nI_ltE, nI_leE, nI_eqI, nI_clamp, inB_n, gd_tt, bindS, if_true, if_false, reduceIte, leT, leF, ltT, ltF, eqT, eqF, t2, t3.h0, e1, k1]
    · simp only [show ¬ 1 = 0 by decide, if_false, if_true] at k1
      simp (disch := omega) only [litN, nI_add, pk_mul, pk_sub, nI_negR, nI_negL, nI_negE, nI_negLt, nI_negGe, nI_ltE, nI_leE, nI_eqI, nI_clamp, inB_n, gd_tt, bindS, if_true, if_false, reduceIte, leT, leF, ltT, ltF, eqT, eqF, t2, e2, pk_div, k1]
    · simp only [show ¬ 2 = 0 by decide, show ¬ 2 = 1 by decide, if_false] at k1
      simp (disch := omega) only [litN, nI_add, pk_mul, pk_sub, nI_negR, nI_negL, nI_negE, nI_negLt, nI_negGe, nI_ltE, nI_leE, nI_eqI, nI_clamp, inB_n, gd_tt, bindS, if_true, if_false, reduceIte, leT, leF, ltT, ltF, eqT, eqF, t2, t4, k1]
theorem t_year (g : INV X T I J P S) (hn : 1100 < n) (x1 x2 x3 : Int32) : ∃ v C' V' S', m_X5_year n X T I J P C V F A x1 x2 x3 = some (v, C', V') ∧ m_X6_year n S L x1 x2 x3 = some (v, S') ∧ INV X T I J P S' := by
  unfold m_X5_year m_X6_year
  simp only [litN, litL]
  simp only [e_within]
  simp (disch := omega) only [e_in]
  simp only [bindS, nI_f0]
  cases i1 : inr x1 0 9999
  · exact ⟨_, _, _, _, rfl, rfl, g⟩
  cases i2 : inr x2 1 99
  · exact ⟨_, _, _, _, rfl, rfl, g⟩
  cases i3 : inr x3 0 2
  · exact ⟨_, _, _, _, rfl, rfl, g⟩
  obtain ⟨s, rfl, -, hs⟩ := inr_T i1 (by decide) (by decide)
  obtain ⟨m, rfl, -, hm⟩ := inr_T i2 (by decide) (by decide)
  obtain ⟨w, rfl, -, hw⟩ := inr_T i3 (by decide) (by decide)
  obtain ⟨a, hO, hT, hS⟩ := g.1
  obtain ⟨C1, V1, s1, s2, s3, s4, s5, s6, s7⟩ := e_startFrom (n := n) (C := C) (V := V) hT hO hn
  obtain ⟨S1, k1, k2, k3⟩ := e_keepNow (n := n) (L := L) hS (by omega)
  obtain ⟨C2, V2, c1⟩ := e_yearT (n := n) (C := C1) (w := w) hO s2 hs hm hw s5 hn
  have hS1 : RS (sf S1 16 (nI 0)) a := (k2.fq.rs hS).sfj (by decide) (by decide) (by decide) (by decide)
  have hH1 : HAD (sf S1 16 (nI 0)) a := by
    unfold HAD at k3 ⊢
    rw [sf_r (by decide)]
    exact k3
  obtain ⟨S2, m1, m2⟩ := e_yearS (n := n) (L := L) hO hS1 hs hm hw sf_s g hT hH1 (k2.fq.1.trans (GF.sf (by decide) (by decide) (by decide)).fr) hn
  simp only [Bool.true_eq_false, if_false, s1, k1, bindS, c1, m1]
  exact ⟨_, _, _, _, rfl, rfl, m2⟩
