/-! ANSWERS: who would answer, by chance -/
variable {n : Nat} {X T I J P C V F S S' : TI} {A L : TL} {a : AT}
/-- the chance that just y said yes, of r calls, over 10^r -/
def ch (t : Nat) : Nat → Nat → Nat
  | 0, y => if y = 0 then 1 else 0
  | r + 1, y => ch t r y * (10 - t) + (if y = 0 then 0 else ch t r (y - 1)) * t
def tf (t r e : Nat) : Nat := sm (ch t r) e
def pe (t e : Nat) : Nat → Nat
  | 0 => 0
  | r + 1 => 10 * pe t e r + t * ch t r (e - 1)
def cm (t e : Nat) : Nat → Nat
  | 0 => 0
  | r + 1 => (cm t e r + tf t r e) * 10
theorem ch_s (t r y : Nat) : ch t (r + 1) y = ch t r y * (10 - t) + (if y = 0 then 0 else ch t r (y - 1)) * t := rfl
theorem tf_step {t : Nat} (ht : t ≤ 10) (r : Nat) : ∀ e, tf t (r + 1) (e + 1) + t * ch t r e = 10 * tf t r (e + 1)
  | 0 => by
    unfold tf
    simp only [sm_s, show ∀ f, sm f 0 = 0 from fun _ => rfl, ch_s, if_pos, Nat.zero_mul, Nat.add_zero, Nat.zero_add]
    have : ch t r 0 * (10 - t) + t * ch t r 0 = ch t r 0 * 10 := by
      rw [Nat.mul_comm t, ← Nat.mul_add, Nat.sub_add_cancel ht]
    omega
  | e + 1 => by
    have ih := tf_step ht r e
    unfold tf at ih ⊢
    rw [sm_s (n := e + 1), sm_s (f := ch t r) (n := e + 1), ch_s t r (e + 1), if_neg (by omega), Nat.add_sub_cancel]
    have h1 : ch t r (e + 1) * (10 - t) + t * ch t r (e + 1) = ch t r (e + 1) * 10 := by
      rw [Nat.mul_comm t, ← Nat.mul_add, Nat.sub_add_cancel ht]
    have h2 : ch t r e * t = t * ch t r e := Nat.mul_comm _ _
    omega
theorem tf_0 (t : Nat) : ∀ e, tf t 0 (e + 1) = 1
  | 0 => rfl
  | e + 1 => by
    have ih := tf_0 t e
    unfold tf at ih ⊢
    rw [sm_s, ih]
    rfl
theorem pe_tf {t : Nat} (ht : t ≤ 10) (e : Nat) : ∀ r, pe t (e + 1) r + tf t r (e + 1) = 10 ^ r
  | 0 => by rw [tf_0]; rfl
  | r + 1 => by
    have ih := pe_tf ht e r
    have h := tf_step ht r e
    show 10 * pe t (e + 1) r + t * ch t r (e + 1 - 1) + tf t (r + 1) (e + 1) = 10 ^ (r + 1)
    rw [Nat.add_sub_cancel, Nat.pow_succ]
    omega
theorem tf_le {t : Nat} (ht : t ≤ 10) {e : Nat} (he : 1 ≤ e) (r : Nat) : tf t r e ≤ 10 ^ r := by
  obtain ⟨e, rfl⟩ : ∃ z, e = z + 1 := ⟨e - 1, by omega⟩
  have := pe_tf ht e r
  omega
theorem pe_eq {t : Nat} (ht : t ≤ 10) {e : Nat} (he : 1 ≤ e) (r : Nat) : pe t e r = 10 ^ r - tf t r e := by
  obtain ⟨e, rfl⟩ : ∃ z, e = z + 1 := ⟨e - 1, by omega⟩
  have := pe_tf ht e r
  omega
theorem cm_le {t : Nat} (ht : t ≤ 10) {e : Nat} (he : 1 ≤ e) : ∀ r, cm t e r ≤ r * 10 ^ r
  | 0 => Nat.le_refl _
  | r + 1 => by
    have ih := cm_le ht he r
    have h := tf_le ht he r
    show (cm t e r + tf t r e) * 10 ≤ (r + 1) * 10 ^ (r + 1)
    rw [Nat.pow_succ, ← Nat.mul_assoc, Nat.add_mul r 1]
    exact Nat.mul_le_mul_right 10 (by omega)
theorem updL_v {f : Nat → Int64} {i q : Nat} {v : Int64} : vp_updL f i v q = if q = i then v else f q := by
  by_cases h : q = i
  · subst h; rw [pk_uLs, if_pos rfl]
  · rw [pk_uLn h, if_neg h]
theorem e_start (hn : 20 < n) : ∃ A', m_X0_startChances n A = some A' ∧ ∀ y, y < 11 → A' 1 y = lN (ch 0 0 y) := by
  unfold m_X0_startChances
  refine loop_inv (b_X0_startChances_2 n) (fun k s => s.1 = nI k ∧ ∀ y, y < k → s.2 1 y = lN (ch 0 0 y)) 11 (fun o => ∃ A', o = some A' ∧ ∀ y, y < 11 → A' 1 y = lN (ch 0 0 y)) (fun k hk s hs kk => ?_) (fun s hs kk => ?_) _ n ⟨rfl, fun y hy => absurd hy (Nat.not_lt_zero _)⟩ (by omega)
  · left
    obtain ⟨h1, h2⟩ := hs
    unfold b_X0_startChances_2
    simp only [litL]
    simp (disch := omega) only [litN, nI_add, pk_mul, pk_sub, nI_negR, nI_negL, nI_negE, nI_negLt, nI_negGe, nI_ltE, nI_leE, nI_eqI, nI_clamp, inB_n, gd_tt, bindS, if_true, if_false, reduceIte, leT, leF, ltT, ltF, eqT, eqF, h1]
    by_cases q : k = 0
    · rw [if_pos q]
      refine ⟨_, rfl, rfl, fun y hy => ?_⟩
      simp only [upAL_s, updL_v]
      rw [if_pos (by omega), show y = 0 by omega]
      rfl
    · rw [if_neg q]
      refine ⟨_, rfl, rfl, fun y hy => ?_⟩
      simp only [upAL_s, updL_v]
      by_cases q2 : y = k
      · rw [if_pos q2, q2]
        unfold ch
        rw [if_neg q]
      · rw [if_neg q2]
        exact h2 y (by omega)
  · obtain ⟨h1, h2⟩ := hs
    unfold b_X0_startChances_2
    simp (disch := omega) only [litN, nI_add, pk_mul, pk_sub, nI_negR, nI_negL, nI_negE, nI_negLt, nI_negGe, nI_ltE, nI_leE, nI_eqI, nI_clamp, inB_n, gd_tt, bindS, if_true, if_false, reduceIte, leT, leF, ltT, ltF, eqT, eqF, h1]
    exact ⟨_, rfl, h2⟩
theorem e_tooFew {t r e : Nat} (h : ∀ y, y < 11 → A 1 y = lN (ch t r y)) (he : e ≤ 9) (hn : 20 < n) : m_X0_tooFew n A (nI e) = some (lN (tf t r e)) := by
  unfold m_X0_tooFew tf
  refine loop_for (b_X0_tooFew_5 n A (nI e)) (fun k => (lN (sm (ch t r) k), nI k)) e _ (fun k hk kk => ?_) (fun kk => ?_) n (by omega)
  · have h1 := h k (by omega)
    unfold b_X0_tooFew_5
    simp (disch := omega) only [litN, nI_add, pk_mul, pk_sub, nI_negR, nI_negL, nI_negE, nI_negLt, nI_negGe, nI_ltE, nI_leE, nI_eqI, nI_clamp, inB_n, gd_tt, bindS, if_true, if_false, reduceIte, leT, leF, ltT, ltF, eqT, eqF, h1, lN_add]
    rw [sm_s]
  · unfold b_X0_tooFew_5
    simp (disch := omega) only [litN, nI_add, pk_mul, pk_sub, nI_negR, nI_negL, nI_negE, nI_negLt, nI_negGe, nI_ltE, nI_leE, nI_eqI, nI_clamp, inB_n, gd_tt, bindS, if_true, if_false, reduceIte, leT, leF, ltT, ltF, eqT, eqF]
theorem e_ringOne {t r : Nat} (h : ∀ y, y < 11 → A 1 y = lN (ch t r y)) (ht : t ≤ 10) (hn : 20 < n) : ∃ A', m_X0_ringOne n A (nI t) = some A' ∧ (∀ y, y < 11 → A' 1 y = lN (ch t (r + 1) y)) ∧ A' 0 = A 0 := by
  unfold m_X0_ringOne
  refine loop_inv (b_X0_ringOne_5 n (nI t)) (fun k s => s.1 = lN (if k = 0 then 0 else ch t r (k - 1)) ∧ s.2.1 = nI k ∧ (∀ y, y < k → s.2.2 1 y = lN (ch t (r + 1) y)) ∧ (∀ y, k ≤ y → y < 11 → s.2.2 1 y = lN (ch t r y)) ∧ s.2.2 0 = A 0) 11 (fun o => ∃ A', o = some A' ∧ (∀ y, y < 11 → A' 1 y = lN (ch t (r + 1) y)) ∧ A' 0 = A 0) (fun k hk s hs kk => ?_) (fun s hs kk => ?_) _ n ⟨rfl, rfl, fun y hy => absurd hy (Nat.not_lt_zero _), fun y _ hy => h y hy, rfl⟩ (by omega)
  · left
    obtain ⟨h1, h2, h3, h4, h5⟩ := hs
    have h6 := h4 k (Nat.le_refl _) hk
    unfold b_X0_ringOne_5
    simp (disch := omega) only [litN, nI_add, pk_mul, pk_sub, nI_negR, nI_negL, nI_negE, nI_negLt, nI_negGe, nI_ltE, nI_leE, nI_eqI, nI_clamp, inB_n, gd_tt, bindS, if_true, if_false, reduceIte, leT, leF, ltT, ltF, eqT, eqF, h1, h2, h6, nI_l, lN_mul, lN_add]
    refine ⟨_, rfl, ?_, rfl, fun y hy => ?_, fun y hy hy2 => ?_, ?_⟩
    · show lN (ch t r k) = lN (if k + 1 = 0 then 0 else ch t r (k + 1 - 1))
      rw [if_neg (by omega), Nat.add_sub_cancel]
    · simp only [upAL_s, updL_v]
      by_cases q : y = k
      · rw [if_pos q, q, ch_s]
      · rw [if_neg q]
        exact h3 y (by omega)
    · simp only [upAL_s, updL_v]
      rw [if_neg (by omega)]
      exact h4 y (by omega) hy2
    · simp (disch := omega) only [upAL_n]
      exact h5
  · obtain ⟨h1, h2, h3, h4, h5⟩ := hs
    unfold b_X0_ringOne_5
    simp (disch := omega) only [litN, nI_add, pk_mul, pk_sub, nI_negR, nI_negL, nI_negE, nI_negLt, nI_negGe, nI_ltE, nI_leE, nI_eqI, nI_clamp, inB_n, gd_tt, bindS, if_true, if_false, reduceIte, leT, leF, ltT, ltF, eqT, eqF, h2]
    exact ⟨_, rfl, h3, h5⟩
theorem e_ringAll {t m e : Nat} (ht : t ≤ 10) (hm : m ≤ 10) (he1 : 1 ≤ e) (he : e ≤ 9) (hn : 20 < n) : ∃ A', m_X0_ringAll n A (nI m) (nI t) (nI e) = some A' ∧ A' 0 1 = lN (pe t e m) ∧ A' 0 2 = lN (cm t e m) ∧ A' 0 3 = lN (10 ^ m) := by
  unfold m_X0_ringAll
  obtain ⟨A0, s1, s2⟩ := e_start (n := n) (A := A) hn
  simp only [s1, bindS]
  refine loop_inv (b_X0_ringAll_17 n (nI m) (nI t) (nI e)) (fun k s => s.1 = nI k ∧ (∀ y, y < 11 → s.2 1 y = lN (ch t k y)) ∧ s.2 0 2 = lN (cm t e k) ∧ s.2 0 3 = lN (10 ^ k)) m (fun o => ∃ A', o = some A' ∧ A' 0 1 = lN (pe t e m) ∧ A' 0 2 = lN (cm t e m) ∧ A' 0 3 = lN (10 ^ m)) (fun k hk s hs kk => ?_) (fun s hs kk => ?_) _ n ⟨rfl, fun y hy => ?_, ?_, ?_⟩ (by omega)
  · left
    obtain ⟨h1, h2, h3, h4⟩ := hs
    have e1 := e_tooFew (n := n) h2 he hn
    unfold b_X0_ringAll_17
    simp only [litL]
    simp (disch := omega) only [litN, nI_add, pk_mul, pk_sub, nI_negR, nI_negL, nI_negE, nI_negLt, nI_negGe, nI_ltE, nI_leE, nI_eqI, nI_clamp, inB_n, gd_tt, bindS, if_true, if_false, reduceIte, leT, leF, ltT, ltF, eqT, eqF, h1, e1, h3, lN_add, lN_mul]
    obtain ⟨A1, r1, r2, r3⟩ := e_ringOne (n := n) (A := sfL s.2 2 (lN ((cm t e k + tf t k e) * 10))) (t := t) (r := k) (fun y hy => by simp (disch := omega) only [sfL_r]; exact h2 y hy) ht hn
    simp only [r1, bindS]
    refine ⟨_, rfl, rfl, fun y hy => ?_, ?_, ?_⟩
    · simp (disch := omega) only [sfL_r]
      exact r2 y hy
    · simp (disch := omega) only [sfL_n, r3, sfL_s]
      rfl
    · simp (disch := omega) only [sfL_s, r3, sfL_n, h4, lN_mul]
      rw [Nat.pow_succ]
  · obtain ⟨h1, h2, h3, h4⟩ := hs
    have e1 := e_tooFew (n := n) h2 he hn
    have hle := tf_le ht he1 m
    unfold b_X0_ringAll_17
    simp (disch := omega) only [litN, nI_add, pk_mul, pk_sub, nI_negR, nI_negL, nI_negE, nI_negLt, nI_negGe, nI_ltE, nI_leE, nI_eqI, nI_clamp, inB_n, gd_tt, bindS, if_true, if_false, reduceIte, leT, leF, ltT, ltF, eqT, eqF, h1, e1, h4, lN_sub]
    refine ⟨_, rfl, ?_, ?_, ?_⟩
    · simp only [sfL_s]
      rw [pe_eq ht he1]
    · simp (disch := omega) only [sfL_n, h3]
    · simp (disch := omega) only [sfL_n, h4]
  · simp (disch := omega) only [sfL_r]
    exact s2 y hy
  · simp (disch := omega) only [sfL_n, sfL_s]
    rfl
  · simp (disch := omega) only [sfL_s]
    rfl
def PA (L : TL) (t e r : Nat) : Prop := (∀ y, y < e → L 27 y = lN (ch t r y)) ∧ L 27 e = lN (pe t e r)
theorem e_answers6 (h : RS S a) (hO : OKA a) {t m w v : Nat} (ht : t ≤ 10) (hm : m ≤ 10) (hw : w ≤ 1) (hv : v ≤ 1) (hn : 210 < n) : ∃ L', loopF (b_X6_answers_60 n S (nI m) (nI t) (nI w) (nI v)) n (nI 0, L) = some (lN (if v = 0 then (if w = 0 then pe t (a 3 0) m else cm t (a 3 0) m) / Nat.gcd (if w = 0 then pe t (a 3 0) m else cm t (a 3 0) m) (10 ^ m) else 10 ^ m / Nat.gcd (if w = 0 then pe t (a 3 0) m else cm t (a 3 0) m) (10 ^ m)), L') := by
  obtain ⟨e, he⟩ : ∃ e, e = a 3 0 := ⟨_, rfl⟩
  have hl := hO.l0
  have h6 := h.r6 (j := 0) (by omega)
  rw [← he] at hl h6 ⊢
  obtain ⟨R, hR⟩ : ∃ R, R = lN (if v = 0 then (if w = 0 then pe t e m else cm t e m) / Nat.gcd (if w = 0 then pe t e m else cm t e m) (10 ^ m) else 10 ^ m / Nat.gcd (if w = 0 then pe t e m else cm t e m) (10 ^ m)) := ⟨_, rfl⟩
  rw [← hR]
  refine loop_inv (b_X6_answers_60 n S (nI m) (nI t) (nI w) (nI v)) (fun k s => s.1 = nI k ∧ ∀ y, y < k → s.2 27 y = lN (if y = 0 then 1 else 0)) 10 (fun o => ∃ L', o = some (R, L')) (fun k hk s hs kk => ?_) (fun s hs kk => ?_) _ n ⟨rfl, fun y hy => absurd hy (Nat.not_lt_zero _)⟩ (by omega)
  · left
    obtain ⟨h1, h2⟩ := hs
    unfold b_X6_answers_60
    simp only [litL]
    simp (disch := omega) only [litN, nI_add, pk_mul, pk_sub, nI_negR, nI_negL, nI_negE, nI_negLt, nI_negGe, nI_ltE, nI_leE, nI_eqI, nI_clamp, inB_n, gd_tt, bindS, if_true, if_false, reduceIte, leT, leF, ltT, ltF, eqT, eqF, h1]
    by_cases q : k = 0
    · rw [if_pos q]
      refine ⟨_, rfl, rfl, fun y hy => ?_⟩
      simp only [upAL_s, updL_v]
      rw [if_pos (by omega), if_pos (by omega)]
    · rw [if_neg q]
      refine ⟨_, rfl, rfl, fun y hy => ?_⟩
      simp only [upAL_s, updL_v]
      by_cases q2 : y = k
      · rw [if_pos q2, if_neg (by omega)]
      · rw [if_neg q2]
        exact h2 y (by omega)
  · obtain ⟨h1, h2⟩ := hs
    unfold b_X6_answers_60
    simp (disch := omega) only [litN, nI_add, pk_mul, pk_sub, nI_negR, nI_negL, nI_negE, nI_negLt, nI_negGe, nI_ltE, nI_leE, nI_eqI, nI_clamp, inB_n, gd_tt, bindS, if_true, if_false, reduceIte, leT, leF, ltT, ltF, eqT, eqF, h1]
    refine loop_inv (b_X6_answers_99 n S (nI m) (nI t) (nI w) (nI v)) (fun r s => s.1 = lN (10 ^ r) ∧ s.2.1 = lN (cm t e r) ∧ s.2.2.1 = nI r ∧ PA s.2.2.2 t e r) m (fun o => ∃ L', o = some (R, L')) (fun r hr s2 hs2 k2 => ?_) (fun s2 hs2 k2 => ?_) _ n ⟨rfl, rfl, rfl, fun y hy => h2 y (by omega), ?_⟩ (by omega)
    · left
      obtain ⟨g1, g2, g3, g4, g5⟩ := hs2
      have g6 := g4 (e - 1) (by omega)
      have hle := tf_le ht hl.1 r
      have hpe := pe_eq ht hl.1 r
      have hP : pe t e r ≤ 10 ^ r := by omega
      unfold b_X6_answers_99
      simp only [litL]
      simp (disch := omega) only [litN, nI_add, pk_mul, pk_sub, nI_negR, nI_negL, nI_negE, nI_negLt, nI_negGe, nI_ltE, nI_leE, nI_eqI, nI_clamp, inB_n, gd_tt, bindS, if_true, if_false, reduceIte, leT, leF, ltT, ltF, eqT, eqF, g1, g2, g3, h6, g5, g6, nI_l, lN_mul, lN_add]
      refine loop_inv (b_X6_answers_169 n S (nI t) (lN (10 ^ r)) (lN (cm t e r)) (nI r) s2.2.2.2 k2) (fun j q => q.1 = (if j = e then -nI 1 else nI (e - 1 - j)) ∧ (∀ y, e - j ≤ y → y < e → q.2 27 y = lN (ch t (r + 1) y)) ∧ (∀ y, y < e - j → q.2 27 y = lN (ch t r y)) ∧ q.2 27 e = lN (pe t e (r + 1))) e (fun o => ∃ s', o = k2 s' ∧ s'.1 = lN (10 ^ (r + 1)) ∧ s'.2.1 = lN (cm t e (r + 1)) ∧ s'.2.2.1 = nI (r + 1) ∧ PA s'.2.2.2 t e (r + 1)) (fun j hj q hq k3 => ?_) (fun q hq k3 => ?_) _ n ⟨?_, fun y hy hy2 => by omega, fun y hy => ?_, ?_⟩ (by omega)
      · left
        obtain ⟨q1, q2, q3, q4⟩ := hq
        rw [if_neg (by omega)] at q1
        obtain ⟨k, hk⟩ : ∃ k, k = e - 1 - j := ⟨_, rfl⟩
        rw [← hk] at q1
        have hke : k < e := by omega
        have c1 := q3 k (by omega)
        have fin : ∀ z : Int64, z = lN (ch t (r + 1) k) → ∃ s', k3 (nI k + -nI 1, upAL q.2 27 (vp_updL (q.2 27) k z)) = k3 s' ∧ s'.1 = (if j + 1 = e then -nI 1 else nI (e - 1 - (j + 1))) ∧ (∀ y, e - (j + 1) ≤ y → y < e → s'.2 27 y = lN (ch t (r + 1) y)) ∧ (∀ y, y < e - (j + 1) → s'.2 27 y = lN (ch t r y)) ∧ s'.2 27 e = lN (pe t e (r + 1)) := by
          intro z hz
          refine ⟨_, rfl, ?_, fun y hy hy2 => ?_, fun y hy => ?_, ?_⟩
          · show nI k + -nI 1 = _
            by_cases w0 : k = 0
            · rw [if_pos (by omega), w0, nI_decZ]
            · rw [if_neg (by omega), nI_dec (by omega), show k - 1 = e - 1 - (j + 1) by omega]
          · simp only [upAL_s, updL_v]
            by_cases w0 : y = k
            · rw [if_pos w0, w0, hz]
            · rw [if_neg w0]
              exact q2 y (by omega) hy2
          · simp only [upAL_s, updL_v]
            rw [if_neg (by omega)]
            exact q3 y (by omega)
          · simp only [upAL_s, updL_v]
            rw [if_neg (by omega)]
            exact q4
        by_cases w0 : k = 0
        · have hb : b_X6_answers_169 n S (nI t) (lN (10 ^ r)) (lN (cm t e r)) (nI r) s2.2.2.2 k2 q k3 = k3 (nI k + -nI 1, upAL q.2 27 (vp_updL (q.2 27) k (lN ((10 - t) * ch t r k + 0)))) := by
            unfold b_X6_answers_169
            simp only [litL]
            simp (disch := omega) only [litN, nI_add, pk_mul, pk_sub, nI_negR, nI_negL, nI_negE, nI_negLt, nI_negGe, nI_ltE, nI_leE, nI_eqI, nI_clamp, inB_n, gd_tt, bindS, if_true, if_false, reduceIte, leT, leF, ltT, ltF, eqT, eqF, q1, c1, nI_l, lN_mul, lN_add, lN_sub]
          rw [hb]
          refine fin _ ?_
          rw [ch_s, if_pos w0, Nat.zero_mul, Nat.mul_comm]
        · have c2 := q3 (k - 1) (by omega)
          have hb : b_X6_answers_169 n S (nI t) (lN (10 ^ r)) (lN (cm t e r)) (nI r) s2.2.2.2 k2 q k3 = k3 (nI k + -nI 1, upAL q.2 27 (vp_updL (q.2 27) k (lN ((10 - t) * ch t r k + t * ch t r (k - 1))))) := by
            unfold b_X6_answers_169
            simp only [litL]
            simp (disch := omega) only [litN, nI_add, pk_mul, pk_sub, nI_negR, nI_negL, nI_negE, nI_negLt, nI_negGe, nI_ltE, nI_leE, nI_eqI, nI_clamp, inB_n, gd_tt, bindS, if_true, if_false, reduceIte, leT, leF, ltT, ltF, eqT, eqF, q1, c1, c2, nI_l, lN_mul, lN_add, lN_sub]
          rw [hb]
          refine fin _ ?_
          rw [ch_s, if_neg w0, Nat.mul_comm (10 - t), Nat.mul_comm t]
      · obtain ⟨q1, q2, q3, q4⟩ := hq
        rw [if_pos rfl] at q1
        unfold b_X6_answers_169
        simp only [litL]
        simp (disch := omega) only [litN, nI_add, pk_mul, pk_sub, nI_negR, nI_negL, nI_negE, nI_negLt, nI_negGe, nI_ltE, nI_leE, nI_eqI, nI_clamp, inB_n, gd_tt, bindS, if_true, if_false, reduceIte, leT, leF, ltT, ltF, eqT, eqF, q1, h6, g5, lN_mul, lN_add, lN_sub]
        refine ⟨_, rfl, ?_, ?_, rfl, fun y hy => q2 y (by omega) hy, q4⟩
        · show lN (10 ^ r * 10) = _
          rw [Nat.pow_succ]
        · show lN (10 * (cm t e r + 10 ^ r - pe t e r)) = lN ((cm t e r + tf t r e) * 10)
          congr 1
          omega
      · show nI (e - 1) = _
        rw [if_neg (by omega), Nat.sub_zero]
      · simp only [upAL_s, updL_v]
        rw [if_neg (by omega)]
        exact g4 y (by omega)
      · simp only [upAL_s, updL_v, if_true]
        rfl
    · obtain ⟨g1, g2, g3, g4, g5⟩ := hs2
      have hle := tf_le ht hl.1 m
      have hpe := pe_eq ht hl.1 m
      have hcm := cm_le ht hl.1 m
      have hmm : 10 ^ m ≤ 10 ^ 10 := Nat.pow_le_pow_right (by decide) hm
      have h0 : 0 < 10 ^ m := Nat.pow_pos (by decide)
      have hcm2 : m * 10 ^ m ≤ 10 * 10 ^ 10 := Nat.mul_le_mul hm hmm
      have l1 := e_lowest (n := n) (u := pe t e m) (v := 10 ^ m) (w := v) (by omega) (by omega) h0 hv hn
      have l2 := e_lowest (n := n) (u := cm t e m) (v := 10 ^ m) (w := v) (by omega) (by omega) h0 hv hn
      unfold b_X6_answers_99
      simp (disch := omega) only [litN, nI_add, pk_mul, pk_sub, nI_negR, nI_negL, nI_negE, nI_negLt, nI_negGe, nI_ltE, nI_leE, nI_eqI, nI_clamp, inB_n, gd_tt, bindS, if_true, if_false, reduceIte, leT, leF, ltT, ltF, eqT, eqF, g1, g2, g3, h6, g5, l1, l2]
      refine ⟨s2.2.2.2, ?_⟩
      rw [hR]
      by_cases w0 : w = 0
      · simp only [w0, if_true]
      · simp only [w0, if_false]
    · show s.2 27 e = lN 0
      rw [h2 e (by omega), if_neg (by omega)]
theorem t_answers (g : INV X T I J P S) (hn : 1100 < n) (x1 x2 x3 x4 : Int32) : ∃ v A' L', m_X5_answers n X T I J P C V F A x1 x2 x3 x4 = some (v, A') ∧ m_X6_answers n S L x1 x2 x3 x4 = some (v, L') := by
  obtain ⟨a, hO, hT, hS⟩ := g.1
  unfold m_X5_answers m_X6_answers
  simp only [litN, litL, e_isFlag]
  simp only [e_within]
  simp (disch := omega) only [e_in]
  simp only [bindS, nI_f0]
  cases i1 : inr x1 0 10
  · exact ⟨_, _, _, rfl, rfl⟩
  cases i2 : inr x2 0 10
  · exact ⟨_, _, _, rfl, rfl⟩
  cases i3 : inr x3 0 1
  · exact ⟨_, _, _, rfl, rfl⟩
  cases i4 : inr x4 0 1
  · exact ⟨_, _, _, rfl, rfl⟩
  obtain ⟨m, rfl, -, hm⟩ := inr_T i1 (by decide) (by decide)
  obtain ⟨t, rfl, -, ht⟩ := inr_T i2 (by decide) (by decide)
  obtain ⟨w, rfl, -, hw⟩ := inr_T i3 (by decide) (by decide)
  obtain ⟨v, rfl, -, hv⟩ := inr_T i4 (by decide) (by decide)
  have hl := hO.l0
  have r0 := e_rule (n := n) hT (k := 0) (by omega)
  obtain ⟨A', a1, a2, a3, a4⟩ := e_ringAll (n := n) (A := A) (t := t) (m := m) (e := a 3 0) ht hm hl.1 hl.2 (by omega)
  obtain ⟨L', b1⟩ := e_answers6 (n := n) (L := L) hS hO ht hm hw hv (by omega)
  have hle := tf_le ht hl.1 m
  have hpe := pe_eq ht hl.1 m
  have hcm := cm_le ht hl.1 m
  have hmm : 10 ^ m ≤ 10 ^ 10 := Nat.pow_le_pow_right (by decide) hm
  have h0 : 0 < 10 ^ m := Nat.pow_pos (by decide)
  have hcm2 : m * 10 ^ m ≤ 10 * 10 ^ 10 := Nat.mul_le_mul hm hmm
  have l1 := e_partOf (n := n) (u := pe t (a 3 0) m) (v := 10 ^ m) (w := v) (by omega) (by omega) h0 hv (by omega)
  have l2 := e_partOf (n := n) (u := cm t (a 3 0) m) (v := 10 ^ m) (w := v) (by omega) (by omega) h0 hv (by omega)
  simp only [Bool.true_eq_false, if_false]
  refine ⟨_, A', L', ?_, b1⟩
  simp (disch := omega) only [litN, nI_add, pk_mul, pk_sub, nI_negR, nI_negL, nI_negE, nI_negLt, nI_negGe, nI_ltE, nI_leE, nI_eqI, nI_clamp, inB_n, gd_tt, bindS, if_true, if_false, reduceIte, leT, leF, ltT, ltF, eqT, eqF, r0, a1, a2, a3, a4, l1, l2]
  by_cases w0 : w = 0
  · simp only [w0, if_true]
  · simp only [w0, if_false]
