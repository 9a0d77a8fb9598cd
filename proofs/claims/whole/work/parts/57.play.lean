/-! THE MONTHS, played on both sides -/
variable {n : Nat} {X T I J P C V F S S' : TI} {A L : TL} {a : AT} {c : Nat → Nat}
def LK (a b : AT) : Prop := b 3 = a 3 ∧ b 4 = a 4 ∧ b 0 3 = a 0 3 ∧ b 0 4 = a 0 4
theorem LK.self : LK a a := ⟨Eq.refl _, Eq.refl _, Eq.refl _, Eq.refl _⟩
theorem LK.trans {b d : AT} (h : LK a b) (g : LK b d) : LK a d := ⟨g.1.trans h.1, g.2.1.trans h.2.1, g.2.2.1.trans h.2.2.1, g.2.2.2.trans h.2.2.2⟩
theorem LK.tie (a : AT) (x y k v : Nat) : LK a (tieA a x y k v) := ⟨funext fun _ => rfl, funext fun _ => rfl, rfl, rfl⟩
theorem LK.hdw (a : AT) (p d w : Nat) : LK a (hdw a p d w) := ⟨funext fun _ => rfl, funext fun _ => rfl, rfl, rfl⟩
theorem LK.fd (a : AT) : ∀ k, LK a (fdA a k)
  | 0 => LK.self
  | k + 1 => by
    have ih := LK.fd a k
    rw [fdA_s]
    split
    · exact ih.trans (LK.tie _ _ _ _ _)
    · exact ih
theorem LK.act (a : AT) {q x y : Nat} (hq : q ≤ 6) : LK a (actA a q x y) := by
  rcases (show q = 0 ∨ q = 1 ∨ q = 2 ∨ q = 3 ∨ q = 4 ∨ q = 5 ∨ q = 6 by omega) with rfl | rfl | rfl | rfl | rfl | rfl | rfl
  · exact LK.tie _ _ _ _ _
  · exact LK.tie _ _ _ _ _
  · exact LK.tie _ _ _ _ _
  · exact LK.hdw _ _ _ _
  · exact LK.hdw _ _ _ _
  · exact LK.hdw _ _ _ _
  · rw [actA_6]
    exact LK.fd a 100
theorem why_ne {q x y : Nat} (h0 : why a q x y = 0) : q < 3 → x ≠ y := fun h3 e => by
  subst e
  unfold why at h0
  rw [if_neg (by omega), if_neg (by omega)] at h0
  cases hb : (a 0 0).testBit x
  · rw [hb] at h0; simp at h0
  · rw [hb] at h0; simp at h0; omega
def rn (a : AT) (c : Nat → Nat) : Nat → AT
  | 0 => a
  | k + 1 => actA (rn a c k) (cd6 c (sp c k)) (wx c (sp c k)) (wy c (sp c k))
def wk (a : AT) (c : Nat → Nat) (k : Nat) : Nat := why (rn a c k) (cd6 c (sp c k)) (wx c (sp c k)) (wy c (sp c k))
def gk (a : AT) (c : Nat → Nat) (k : Nat) : Nat := gn (rn a c k) (cd6 c (sp c k))
def TW (a : AT) (c : Nat → Nat) : Nat → Int32
  | 0 => nI 0
  | k + 1 => TW a c k + nI (pc (gk a c k))
def TC (a : AT) (c : Nat → Nat) : Nat → Int32
  | 0 => nI 0
  | k + 1 => TC a c k + nI (tbt (rn a c (k + 1)) (gk a c k) (rn a c (k + 1) 0 0))
def TA (a : AT) (c : Nat → Nat) : Nat → Int32
  | 0 => -nI 6
  | k + 1 => if ¬ gk a c k = 0 ∧ TA a c k = -nI 6 then nI k else TA a c k
def TO (a : AT) (c : Nat → Nat) : Nat → Int32
  | 0 => -nI 6
  | k + 1 => if ¬ gk a c k = 0 ∧ TA a c k = -nI 6 then nI (lo (gk a c k)) else TO a c k
theorem rn_s (a : AT) (c : Nat → Nat) (k : Nat) : rn a c (k + 1) = actA (rn a c k) (cd6 c (sp c k)) (wx c (sp c k)) (wy c (sp c k)) := rfl
theorem TA_or (a : AT) (c : Nat → Nat) : ∀ k, TA a c k = -nI 6 ∨ ∃ j, j < k ∧ TA a c k = nI j
  | 0 => Or.inl rfl
  | k + 1 => by
    have ih := TA_or a c k
    unfold TA
    by_cases q : ¬ gk a c k = 0 ∧ TA a c k = -nI 6
    · rw [if_pos q]
      exact Or.inr ⟨k, by omega, rfl⟩
    · rw [if_neg q]
      rcases ih with h | ⟨j, h1, h2⟩
      · exact Or.inl h
      · exact Or.inr ⟨j, by omega, h2⟩
theorem cd6_le (c : Nat → Nat) (p : Nat) : cd6 c p ≤ 6 := by
  unfold cd6
  repeat' split
  all_goals omega
theorem wx_lt (c : Nat → Nat) (p : Nat) : wx c p < 10 := by
  unfold wx
  split <;> omega
theorem okp_cd {p : Nat} (h : okp c p) : (cd6 c p < 5 → ltr (c p)) ∧ (cd6 c p < 3 → ltr (c (p + 2)) ∧ wy c p = c (p + 2) - 65) ∧ (¬ cd6 c p < 3 → wy c p = 0) ∧ (cd6 c p < 5 → ¬ (c p = 46 ∨ c p = 126) ∧ c (p + 1) = dc (cd6 c p)) ∧ (¬ cd6 c p < 5 → (c p = 46 ∨ c p = 126) ∧ c p = dc (cd6 c p)) ∧ wl c p = (if 5 ≤ cd6 c p then 1 else if 3 ≤ cd6 c p then 2 else 3) := by
  rcases h with h | ⟨h1, h2⟩
  · have hc : cd6 c p = 5 ∧ c p = 46 ∨ cd6 c p = 6 ∧ c p = 126 := by
      unfold cd6
      rcases h with q | q
      · rw [if_pos q]; exact Or.inl ⟨rfl, q⟩
      · rw [if_neg (by omega), if_pos q]; exact Or.inr ⟨rfl, q⟩
    have hw : wl c p = 1 := if_pos h
    rcases hc with ⟨q, q2⟩ | ⟨q, q2⟩
    · refine ⟨fun w => by omega, fun w => by omega, fun _ => ?_, fun w => by omega, fun _ => ⟨h, ?_⟩, ?_⟩
      · unfold wy; rw [q, if_neg (by decide)]
      · rw [q, q2]; rfl
      · rw [hw, q]; rfl
    · refine ⟨fun w => by omega, fun w => by omega, fun _ => ?_, fun w => by omega, fun _ => ⟨h, ?_⟩, ?_⟩
      · unfold wy; rw [q, if_neg (by decide)]
      · rw [q, q2]; rfl
      · rw [hw, q]; rfl
  · have h1' := h1
    unfold ltr at h1
    have hn : ¬ (c p = 46 ∨ c p = 126) := by omega
    rcases h2 with h2 | ⟨h2, h3⟩
    · have hc : cd6 c p = 3 ∧ c (p + 1) = 100 ∨ cd6 c p = 4 ∧ c (p + 1) = 62 := by
        unfold cd6
        rw [if_neg (by omega), if_neg (by omega)]
        rcases h2 with q | q
        · rw [if_pos q]; exact Or.inl ⟨rfl, q⟩
        · rw [if_neg (by omega), if_pos q]; exact Or.inr ⟨rfl, q⟩
      have hw : wl c p = 2 := by unfold wl; rw [if_neg hn, if_pos h2]
      rcases hc with ⟨q, q2⟩ | ⟨q, q2⟩
      · refine ⟨fun w => h1', fun w => by omega, fun _ => ?_, fun w => ⟨hn, ?_⟩, fun w => by omega, ?_⟩
        · unfold wy; rw [q, if_neg (by decide)]
        · rw [q, q2]; rfl
        · rw [hw, q]; rfl
      · refine ⟨fun w => h1', fun w => by omega, fun _ => ?_, fun w => ⟨hn, ?_⟩, fun w => by omega, ?_⟩
        · unfold wy; rw [q, if_neg (by decide)]
        · rw [q, q2]; rfl
        · rw [hw, q]; rfl
    · have hc : cd6 c p = 0 ∧ c (p + 1) = 43 ∨ cd6 c p = 1 ∧ c (p + 1) = 45 ∨ cd6 c p = 2 ∧ c (p + 1) = 36 := by
        unfold cd6
        rw [if_neg (by omega), if_neg (by omega), if_neg (by omega), if_neg (by omega)]
        rcases h2 with q | q | q
        · rw [if_pos q]; exact Or.inl ⟨rfl, q⟩
        · rw [if_neg (by omega), if_pos q]; exact Or.inr (Or.inl ⟨rfl, q⟩)
        · rw [if_neg (by omega), if_neg (by omega)]; exact Or.inr (Or.inr ⟨rfl, q⟩)
      have hw : wl c p = 3 := by unfold wl; rw [if_neg hn, if_neg (by omega)]
      have hwy : cd6 c p < 3 → wy c p = c (p + 2) - 65 := fun w => by unfold wy; rw [if_pos w]
      rcases hc with ⟨q, q2⟩ | ⟨q, q2⟩ | ⟨q, q2⟩
      · refine ⟨fun w => h1', fun w => ⟨h3, hwy w⟩, fun w => by omega, fun w => ⟨hn, ?_⟩, fun w => by omega, ?_⟩
        · rw [q, q2]; rfl
        · rw [hw, q]; rfl
      · refine ⟨fun w => h1', fun w => ⟨h3, hwy w⟩, fun w => by omega, fun w => ⟨hn, ?_⟩, fun w => by omega, ?_⟩
        · rw [q, q2]; rfl
        · rw [hw, q]; rfl
      · refine ⟨fun w => h1', fun w => ⟨h3, hwy w⟩, fun w => by omega, fun w => ⟨hn, ?_⟩, fun w => by omega, ?_⟩
        · rw [q, q2]; rfl
        · rw [hw, q]; rfl
theorem wy_lt {p : Nat} (h : okp c p) : wy c p < 10 := by
  obtain ⟨-, h2, h3, -⟩ := okp_cd h
  by_cases q : cd6 c p < 3
  · obtain ⟨q1, q2⟩ := h2 q
    unfold ltr at q1
    omega
  · rw [h3 q]
    decide
theorem dc_lt (q : Nat) : dc q < 127 := by
  unfold dc
  repeat' split
  all_goals omega
theorem e_nob {h : Nat} (hh : h < 128) : m_X2_isOfNobody n (nI h) = some (nI (decide (h = 46 ∨ h = 126)).toNat) := by
  unfold m_X2_isOfNobody
  simp (disch := omega) only [litN, nI_add, pk_mul, pk_sub, nI_negR, nI_negL, nI_negE, nI_negLt, nI_negGe, nI_ltE, nI_leE, nI_eqI, nI_clamp, inB_n, gd_tt, bindS, if_true, if_false, reduceIte, leT, leF, ltT, ltF, eqT, eqF]
  by_cases q1 : h = 46
  · simp [q1]
  · by_cases q2 : h = 126
    · simp [q2]
    · simp [q1, q2]
theorem e_deedFrom {m p : Nat} (hP : P 0 1 = nI m) (hm : m ≤ 60) (hc : ∀ i, i < m → c i ≤ 126 ∧ P 1 i = nI (c i)) (ho : okp c p) (hp : p + wl c p ≤ m) : m_X2_deedFrom n P (nI p) = some (nI (dc (cd6 c p))) := by
  unfold m_X2_deedFrom
  obtain ⟨o1, o2, o3, o4, o5, o6⟩ := okp_cd ho
  have hw : 1 ≤ wl c p := by rw [o6]; (repeat' split) <;> omega
  obtain ⟨c1, c2⟩ := hc p (by omega)
  have e1 := e_signAt (n := n) hP hm (by omega : p < m) c2
  have e2 := e_nob (n := n) (h := c p) (by omega)
  by_cases q : cd6 c p < 5
  · obtain ⟨w1, w2⟩ := o4 q
    have hw2 : 2 ≤ wl c p := by rw [o6, if_neg (by omega)]; split <;> omega
    obtain ⟨c3, c4⟩ := hc (p + 1) (by omega)
    have e3 := e_signAt (n := n) hP hm (by omega : p + 1 < m) c4
    rw [decide_eq_false w1] at e2
    simp (disch := omega) only [litN, nI_add, pk_mul, pk_sub, nI_negR, nI_negL, nI_negE, nI_negLt, nI_negGe, nI_ltE, nI_leE, nI_eqI, nI_clamp, inB_n, gd_tt, bindS, if_true, if_false, reduceIte, leT, leF, ltT, ltF, eqT, eqF, e1, e2, nI_f0, e3]
    rw [w2]
  · obtain ⟨w1, w2⟩ := o5 q
    rw [decide_eq_true w1] at e2
    simp (disch := omega) only [litN, nI_add, pk_mul, pk_sub, nI_negR, nI_negL, nI_negE, nI_negLt, nI_negGe, nI_ltE, nI_leE, nI_eqI, nI_clamp, inB_n, gd_tt, bindS, if_true, if_false, reduceIte, leT, leF, ltT, ltF, eqT, eqF, e1, e2, nI_f0, Bool.true_eq_false]
    rw [← w2]
theorem len_v : ∀ q, q ≤ 6 → m_X2_lengthOf 0 (nI (dc q)) = some (nI (if 5 ≤ q then 1 else if 3 ≤ q then 2 else 3)) := by decide +kernel
theorem sp_mono (c : Nat → Nat) {k : Nat} : k ≤ sp c k := by
  induction k with
  | zero => exact Nat.le_refl _
  | succ k ih =>
    have hw : 1 ≤ wl c (sp c k) := by unfold wl; (repeat' split) <;> omega
    rw [sp_s]
    omega
/-- how the months end -/
def CLS (a : AT) (c : Nat → Nat) (M : Nat) (o : Option (Int32 × TI × TI)) : Prop := (∃ k, k < M ∧ (∀ i, i < k → wk a c i = 0) ∧ ¬ wk a c k = 0 ∧ ∃ C' V', o = some (-nI 3, C', V') ∧ C' 0 1 = nI k ∧ C' 0 2 = nI (wk a c k)) ∨ ((∀ i, i < M → wk a c i = 0) ∧ ∃ C' V', o = some (nI 0, C', V') ∧ RT V' (rn a c M) ∧ C' 0 1 = nI M ∧ C' 0 3 = TW a c M ∧ C' 0 4 = TC a c M ∧ C' 0 5 = TA a c M ∧ C' 0 6 = TO a c M)
theorem rn_ok (hO : OKA a) {M : Nat} (hok : ∀ k, k < M → okp c (sp c k)) : ∀ k, k ≤ M → (∀ i, i < k → wk a c i = 0) → OKA (rn a c k)
  | 0, _, _ => hO
  | k + 1, hk, h => by
    have ih := rn_ok hO hok k (by omega) (fun i hi => h i (by omega))
    rw [rn_s]
    exact act_ok ih (cd6_le _ _) (wx_lt _ _) (wy_lt (hok k (by omega))) (why_ne (h k (by omega)))
theorem rn_lk (a : AT) (c : Nat → Nat) : ∀ k, LK a (rn a c k)
  | 0 => LK.self
  | k + 1 => (rn_lk a c k).trans (LK.act _ (cd6_le _ _))
theorem e_playLoop {m M : Nat} (hO : OKA a) (hP : P 0 1 = nI m) (hm : m ≤ 60) (hc : ∀ i, i < m → c i ≤ 126 ∧ P 1 i = nI (c i)) (hok : ∀ k, k < M → okp c (sp c k) ∧ sp c (k + 1) ≤ m) (hM : sp c M = m) (hT : RT V a) (h1 : C 0 1 = nI 0) (h3 : C 0 3 = nI 0) (h4 : C 0 4 = nI 0) (h5 : C 0 5 = -nI 6) (h6 : C 0 6 = -nI 6) (hn : 100 < n) : CLS a c M (loopF (b_X1_play_22 n P) n (nI 0, nI 0, C, V)) := by
  have hMm : M ≤ m := by have := sp_mono c (k := M); omega
  refine loop_inv (b_X1_play_22 n P) (fun k s => s.1 = nI (sp c k) ∧ s.2.1 = nI k ∧ RT s.2.2.2 (rn a c k) ∧ (s.2.2.1 0 1 = nI k ∧ s.2.2.1 0 3 = TW a c k ∧ s.2.2.1 0 4 = TC a c k ∧ s.2.2.1 0 5 = TA a c k ∧ s.2.2.1 0 6 = TO a c k) ∧ ∀ i, i < k → wk a c i = 0) M (fun o => CLS a c M o) (fun k hk s hs kk => ?_) (fun s hs kk => ?_) _ n ⟨rfl, rfl, hT, ⟨h1, h3, h4, h5, h6⟩, fun i hi => absurd hi (Nat.not_lt_zero _)⟩ (by omega)
  · obtain ⟨s1, s2, s3, ⟨s4, s5, s6, s7, s8⟩, s0⟩ := hs
    obtain ⟨o1, o2⟩ := hok k hk
    rw [sp_s] at o2
    obtain ⟨w1, w2, w3, w4, w5, w6⟩ := okp_cd o1
    have hOk := rn_ok hO (fun k hk => (hok k hk).1) k (by omega) s0
    have hw : 1 ≤ wl c (sp c k) := by rw [w6]; (repeat' split) <;> omega
    have e1 := e_deedFrom (n := n) hP hm hc o1 o2
    obtain ⟨x1, x2⟩ := hc (sp c k) (by omega)
    have e2 := e_signAt (n := n) hP hm (by omega : sp c k < m) x2
    obtain ⟨v3, e3⟩ := e_signAtT (n := n) (j := sp c k + 2) hP hm (by omega) (fun i hi => (hc i hi).2)
    have e4 := len_v (cd6 c (sp c k)) (cd6_le _ _)
    rw [← w6] at e4
    have e4' : m_X2_lengthOf n (nI (dc (cd6 c (sp c k)))) = some (nI (wl c (sp c k))) := e4
    have hp : cd6 c (sp c k) < 5 → nI (c (sp c k)) - nI 65 = nI (wx c (sp c k)) := fun q => by
      have := w1 q
      unfold ltr at this
      unfold wx
      rw [if_pos this, pk_sub this.1]
    have hq : cd6 c (sp c k) < 3 → v3 - nI 65 = nI (wy c (sp c k)) := fun q => by
      obtain ⟨q1, q2⟩ := w2 q
      unfold ltr at q1
      have hw3 : wl c (sp c k) = 3 := by rw [w6, if_neg (by omega), if_neg (by omega)]
      obtain ⟨x3, x4⟩ := hc (sp c k + 2) (by omega)
      rw [e_signAt (n := n) hP hm (by omega : sp c k + 2 < m) x4] at e3
      have e3' := (Option.some.inj e3).symm
      rw [e3', q2, pk_sub q1.1]
    obtain ⟨a1, a2⟩ := e_attempt (n := n) (C := s.2.2.1) s3 hOk (cd6_le _ _) (wx_lt _ _) (wy_lt o1) hp hq (by omega)
    have hwl := why_le (rn a c k) (cd6 c (sp c k)) (wx c (sp c k)) (wy c (sp c k))
    by_cases q : wk a c k = 0
    · left
      obtain ⟨C1, V1, b1, b2, b3, b4, b5, b6, b7⟩ := a2 q
      refine ⟨(nI (sp c (k + 1)), nI (k + 1), sf C1 2 (nI 0), V1), ?_, rfl, rfl, b2, ⟨?_, ?_, ?_, ?_, ?_⟩, fun i hi => ?_⟩
      · unfold b_X1_play_22
        simp (disch := omega) only [litN, nI_add, pk_mul, pk_sub, nI_negR, nI_negL, nI_negE, nI_negLt, nI_negGe, nI_ltE, nI_leE, nI_eqI, nI_clamp, inB_n, gd_tt, bindS, if_true, if_false, reduceIte, leT, leF, ltT, ltF, eqT, eqF, s1, s2, hP, e1, e2, e3, b1, e4']
        rw [sp_s]
      · dsimp only; rw [sf_n (by decide), b3, s4, nI_add]
      · dsimp only; rw [sf_n (by decide), b4, s5]; rfl
      · dsimp only; rw [sf_n (by decide), b5, s6]; rfl
      · dsimp only; rw [sf_n (by decide), b6, s4, s7]; rfl
      · dsimp only; rw [sf_n (by decide), b7, s7, s8]; rfl
      · rcases Nat.lt_succ_iff_lt_or_eq.mp hi with w | w
        · exact s0 i w
        · subst w; exact q
    · right
      have b1 := a1 q
      have hwk : why (rn a c k) (cd6 c (sp c k)) (wx c (sp c k)) (wy c (sp c k)) = wk a c k := rfl
      rw [hwk] at b1 hwl
      refine ⟨_, rfl, Or.inl ⟨k, hk, s0, q, sf s.2.2.1 2 (nI (wk a c k)), s.2.2.2, ?_, ?_, ?_⟩⟩
      · unfold b_X1_play_22
        simp (disch := omega) only [litN, nI_add, pk_mul, pk_sub, nI_negR, nI_negL, nI_negE, nI_negLt, nI_negGe, nI_ltE, nI_leE, nI_eqI, nI_clamp, inB_n, gd_tt, bindS, if_true, if_false, reduceIte, leT, leF, ltT, ltF, eqT, eqF, s1, s2, hP, e1, e2, e3, b1]
      · rw [sf_n (by decide), s4]
      · rw [sf_s]
  · obtain ⟨s1, s2, s3, ⟨s4, s5, s6, s7, s8⟩, s0⟩ := hs
    refine Or.inr ⟨s0, s.2.2.1, s.2.2.2, ?_, s3, s4, s5, s6, s7, s8⟩
    rw [hM] at s1
    unfold b_X1_play_22
    by_cases q : 60 ≤ M
    · simp (disch := omega) only [litN, nI_add, pk_mul, pk_sub, nI_negR, nI_negL, nI_negE, nI_negLt, nI_negGe, nI_ltE, nI_leE, nI_eqI, nI_clamp, inB_n, gd_tt, bindS, if_true, if_false, reduceIte, leT, leF, ltT, ltF, eqT, eqF, s2]
    · simp (disch := omega) only [litN, nI_add, pk_mul, pk_sub, nI_negR, nI_negL, nI_negE, nI_negLt, nI_negGe, nI_ltE, nI_leE, nI_eqI, nI_clamp, inB_n, gd_tt, bindS, if_true, if_false, reduceIte, leT, leF, ltT, ltF, eqT, eqF, s1, s2, hP]
/-- what the months of the model leave as it was -/
def GF (S S' : TI) : Prop := (∀ i, ¬ i = 0 → ¬ i = 4 → ¬ i = 5 → S' i = S i) ∧ S' 0 8 = S 0 8 ∧ S' 0 10 = S 0 10 ∧ S' 0 14 = S 0 14
theorem GF.trans {S₁ S₂ S₃ : TI} (h : GF S₁ S₂) (g : GF S₂ S₃) : GF S₁ S₃ := ⟨fun i i1 i2 i3 => (g.1 i i1 i2 i3).trans (h.1 i i1 i2 i3), g.2.1.trans h.2.1, g.2.2.1.trans h.2.2.1, g.2.2.2.trans h.2.2.2⟩
theorem GF.self : GF S S := ⟨fun _ _ _ _ => Eq.refl _, Eq.refl _, Eq.refl _, Eq.refl _⟩
theorem GF.fr (h : GF S S') : FR S S' := ⟨⟨⟨h.2.2.1, h.1 10 (by decide) (by decide) (by decide)⟩, h.1 29 (by decide) (by decide) (by decide), h.1 30 (by decide) (by decide) (by decide)⟩, h.2.1, h.1 6 (by decide) (by decide) (by decide), h.1 7 (by decide) (by decide) (by decide), h.1 8 (by decide) (by decide) (by decide)⟩
theorem SF.gf (h : SF S S') : GF S S' := ⟨h.1, h.2 8 (by decide) (by decide) (by decide) (by decide) (by decide) (by decide), h.2 10 (by decide) (by decide) (by decide) (by decide) (by decide) (by decide), h.2 14 (by decide) (by decide) (by decide) (by decide) (by decide) (by decide)⟩
theorem GF.sf {j : Nat} {v : Int32} (h8 : ¬ 8 = j) (h10 : ¬ 10 = j) (h14 : ¬ 14 = j) : GF S (sf S j v) := ⟨fun i i1 _ _ => by rw [sf_r i1], by rw [sf_n h8], by rw [sf_n h10], by rw [sf_n h14]⟩
theorem RS.sfj {j : Nat} {v : Int32} (h : RS S a) (h0 : ¬ 0 = j) (h1 : ¬ 1 = j) (h2 : ¬ 2 = j) (h8 : ¬ 8 = j) : RS (sf S j v) a := h.same (by rw [sf_n h0]) (by rw [sf_n h1]) (by rw [sf_n h2]) (by rw [sf_n h8]) (by rw [sf_r (by decide)]) (by rw [sf_r (by decide)]) (by rw [sf_r (by decide)]) (by rw [sf_r (by decide)]) (by rw [sf_r (by decide)])
theorem e_goOne {k q x y : Nat} (h : RS S a) (hO : OKA a) (hq : q ≤ 6) (hx : x < 10) (hy : y < 10) (hne : q < 3 → x ≠ y) (hk : k < 60) (r12 : S 12 k = nI q) (r13 : S 13 k = nI x) (r14 : S 14 k = nI y) (ht : S 0 21 = -nI 6 ∨ ∃ j, j < 60 ∧ S 0 21 = nI j) (hn : 100 < n) : ∃ S', m_X6_goOne n S L (nI k) = some S' ∧ RS S' (actA a q x y) ∧ GF S S' ∧ S' 0 15 = S 0 15 + nI (pc (gn a q)) ∧ S' 0 16 = S 0 16 + nI (tbt (actA a q x y) (gn a q) (actA a q x y 0 0)) ∧ S' 0 21 = (if ¬ gn a q = 0 ∧ S 0 21 = -nI 6 then nI k else S 0 21) ∧ S' 0 22 = (if ¬ gn a q = 0 ∧ S 0 21 = -nI 6 then nI (lo (gn a q)) else S 0 22) ∧ S' 0 19 = S 0 19 ∧ S' 0 20 = S 0 20 := by
  unfold m_X6_goOne
  obtain ⟨S1, b1, b2, b3, b4, b5, b6⟩ := e_happen (n := n) (L := L) h hO hq hx hy hne hn
  have hg := gn_lt hO q
  have f21 : S1 0 21 = S 0 21 := b3.2 21 (by decide) (by decide) (by decide) (by decide) (by decide) (by decide)
  have f22 : S1 0 22 = S 0 22 := b3.2 22 (by decide) (by decide) (by decide) (by decide) (by decide) (by decide)
  have f19 : S1 0 19 = S 0 19 := b3.2 19 (by decide) (by decide) (by decide) (by decide) (by decide) (by decide)
  have f20 : S1 0 20 = S 0 20 := b3.2 20 (by decide) (by decide) (by decide) (by decide) (by decide) (by decide)
  by_cases g0 : gn a q = 0
  · refine ⟨S1, ?_, b2, b3.gf, b4, b5, ?_, ?_, f19, f20⟩
    · simp (disch := omega) only [litN, nI_add, pk_mul, pk_sub, nI_negR, nI_negL, nI_negE, nI_negLt, nI_negGe, nI_ltE, nI_leE, nI_eqI, nI_clamp, inB_n, gd_tt, bindS, if_true, if_false, reduceIte, leT, leF, ltT, ltF, eqT, eqF, r12, r13, r14, b1, b6, g0]
    · rw [if_neg (fun w => w.1 g0), f21]
    · rw [if_neg (fun w => w.1 g0), f22]
  · rcases ht with ht | ⟨j, hj, ht⟩
    · have e1 := e_leastOf6 (n := n) hg g0 (by omega)
      refine ⟨sf (sf S1 21 (nI k)) 22 (nI (lo (gn a q))), ?_, (b2.sfj (by decide) (by decide) (by decide) (by decide)).sfj (by decide) (by decide) (by decide) (by decide), b3.gf.trans ((GF.sf (by decide) (by decide) (by decide)).trans (GF.sf (by decide) (by decide) (by decide))), ?_, ?_, ?_, ?_, ?_, ?_⟩
      · simp (disch := omega) only [litN, nI_add, pk_mul, pk_sub, nI_negR, nI_negL, nI_negE, nI_negLt, nI_negGe, nI_ltE, nI_leE, nI_eqI, nI_clamp, inB_n, gd_tt, bindS, if_true, if_false, reduceIte, leT, leF, ltT, ltF, eqT, eqF, r12, r13, r14, b1, b6, g0, f21, ht, e1]
      · rw [sf_n (by decide), sf_n (by decide), b4]
      · rw [sf_n (by decide), sf_n (by decide), b5]
      · rw [sf_n (by decide), sf_s, if_pos ⟨g0, ht⟩]
      · rw [sf_s, if_pos ⟨g0, ht⟩]
      · rw [sf_n (by decide), sf_n (by decide), f19]
      · rw [sf_n (by decide), sf_n (by decide), f20]
    · have hne6 : ¬ S 0 21 = -nI 6 := by
        rw [ht, nI_negR (by omega) (by decide) (by decide)]
        exact not_false
      refine ⟨S1, ?_, b2, b3.gf, b4, b5, ?_, ?_, f19, f20⟩
      · simp (disch := omega) only [litN, nI_add, pk_mul, pk_sub, nI_negR, nI_negL, nI_negE, nI_negLt, nI_negGe, nI_ltE, nI_leE, nI_eqI, nI_clamp, inB_n, gd_tt, bindS, if_true, if_false, reduceIte, leT, leF, ltT, ltF, eqT, eqF, r12, r13, r14, b1, b6, g0, f21, ht]
      · rw [if_neg (fun w => hne6 w.2), f21]
      · rw [if_neg (fun w => hne6 w.2), f22]
def MOD (a : AT) (c : Nat → Nat) (M : Nat) (S : TI) (o : Option TI) : Prop := ∃ S', o = some S' ∧ GF S S' ∧ ((∃ k, k < M ∧ (∀ i, i < k → wk a c i = 0) ∧ ¬ wk a c k = 0 ∧ S' 0 19 = nI k ∧ S' 0 20 = nI (wk a c k) ∧ ∃ b, OKA b ∧ LK a b ∧ RS S' b) ∨ ((∀ i, i < M → wk a c i = 0) ∧ (S' 0 19 = -nI 6 ∧ S' 0 20 = -nI 6) ∧ RS S' (rn a c M) ∧ S' 0 15 = TW a c M ∧ S' 0 16 = TC a c M ∧ S' 0 21 = TA a c M ∧ S' 0 22 = TO a c M))
theorem e_goMonths {M : Nat} (h : RS S a) (hO : OKA a) (hA : ACT S c M) (hM : M ≤ 60) (hok : ∀ k, k < M → okp c (sp c k)) (hn : 100 < n) : MOD a c M S (m_X6_goMonths n S L) := by
  unfold m_X6_goMonths
  simp only [litN]
  have hA0 := hA
  refine loop_inv (b_X6_goMonths_36 n L) (fun k s => s.1 = nI k ∧ GF S s.2 ∧ ((RS s.2 (rn a c k) ∧ (∀ i, i < k → wk a c i = 0) ∧ s.2 0 15 = TW a c k ∧ s.2 0 16 = TC a c k ∧ s.2 0 21 = TA a c k ∧ s.2 0 22 = TO a c k ∧ s.2 0 19 = -nI 6 ∧ s.2 0 20 = -nI 6) ∨ (∃ j, j < k ∧ (∀ i, i < j → wk a c i = 0) ∧ ¬ wk a c j = 0 ∧ s.2 0 19 = nI j ∧ s.2 0 20 = nI (wk a c j) ∧ ∃ b, OKA b ∧ LK a b ∧ RS s.2 b))) M (fun o => MOD a c M S o) (fun k hk s hs kk => ?_) (fun s hs kk => ?_) _ n ⟨rfl, ?_, Or.inl ⟨?_, fun i hi => absurd hi (Nat.not_lt_zero _), ?_, ?_, ?_, ?_, ?_, ?_⟩⟩ (by omega)
  · obtain ⟨s1, s2, s3⟩ := hs
    have h14 : s.2 0 14 = nI M := by rw [s2.2.2.2, hA.1]
    rcases s3 with ⟨r1, r2, r3, r4, r5, r6, r7, r8⟩ | ⟨j, j1, j2, j3, j4, j5, j6⟩
    · left
      obtain ⟨q1, q2, q3⟩ := hA.2 k hk
      have z1 : s.2 12 k = nI (cd6 c (sp c k)) := by rw [s2.1 12 (by decide) (by decide) (by decide), q1]
      have z2 : s.2 13 k = nI (wx c (sp c k)) := by rw [s2.1 13 (by decide) (by decide) (by decide), q2]
      have z3 : s.2 14 k = nI (wy c (sp c k)) := by rw [s2.1 14 (by decide) (by decide) (by decide), q3]
      have hOk := rn_ok hO hok k (by omega) r2
      have e1 := e_whyNot (n := n) (L := L) r1 hOk (cd6_le c (sp c k)) (wx_lt c (sp c k)) (wy_lt (hok k hk)) hn
      have hwk : why (rn a c k) (cd6 c (sp c k)) (wx c (sp c k)) (wy c (sp c k)) = wk a c k := rfl
      have hwl := why_le (rn a c k) (cd6 c (sp c k)) (wx c (sp c k)) (wy c (sp c k))
      rw [hwk] at e1 hwl
      by_cases q : wk a c k = 0
      · have hgf : GF s.2 (sf (sf s.2 19 (-nI 6)) 20 (-nI 6)) := (GF.sf (by decide) (by decide) (by decide)).trans (GF.sf (by decide) (by decide) (by decide))
        have hrs : RS (sf (sf s.2 19 (-nI 6)) 20 (-nI 6)) (rn a c k) := (r1.sfj (by decide) (by decide) (by decide) (by decide)).sfj (by decide) (by decide) (by decide) (by decide)
        have ht : (sf (sf s.2 19 (-nI 6)) 20 (-nI 6)) 0 21 = TA a c k := by rw [sf_n (by decide), sf_n (by decide), r5]
        obtain ⟨S1, b1, b2, b3, b4, b5, b6, b7, b8, b9⟩ := e_goOne (n := n) (L := L) (k := k) hrs hOk (cd6_le c (sp c k)) (wx_lt c (sp c k)) (wy_lt (hok k hk)) (why_ne q) (by omega) (by rw [sf_r (by decide), sf_r (by decide), z1]) (by rw [sf_r (by decide), sf_r (by decide), z2]) (by rw [sf_r (by decide), sf_r (by decide), z3]) (by
          rw [ht]
          rcases TA_or a c k with w | ⟨j, w1, w2⟩
          · exact Or.inl w
          · exact Or.inr ⟨j, by omega, w2⟩) hn
        refine ⟨(nI (k + 1), S1), ?_, rfl, (s2.trans hgf).trans b3, Or.inl ⟨b2, fun i hi => ?_, ?_, ?_, ?_, ?_, ?_, ?_⟩⟩
        · unfold b_X6_goMonths_36
          simp (disch := omega) only [litN, nI_add, pk_mul, pk_sub, nI_negR, nI_negL, nI_negE, nI_negLt, nI_negGe, nI_ltE, nI_leE, nI_eqI, nI_clamp, inB_n, gd_tt, bindS, if_true, if_false, reduceIte, leT, leF, ltT, ltF, eqT, eqF, s1, h14, r7, z1, z2, z3, e1, q, b1]
        · rcases Nat.lt_succ_iff_lt_or_eq.mp hi with w | w
          · exact r2 i w
          · subst w; exact q
        · dsimp only; rw [b4, sf_n (by decide), sf_n (by decide), r3]; rfl
        · dsimp only; rw [b5, sf_n (by decide), sf_n (by decide), r4]; rfl
        · dsimp only; rw [b6, ht]; rfl
        · dsimp only; rw [b7, ht, sf_n (by decide), sf_n (by decide), r6]; rfl
        · dsimp only; rw [b8, sf_n (by decide), sf_s]
        · dsimp only; rw [b9, sf_s]
      · refine ⟨(nI (k + 1), sf (sf s.2 19 (nI k)) 20 (nI (wk a c k))), ?_, rfl, s2.trans ((GF.sf (by decide) (by decide) (by decide)).trans (GF.sf (by decide) (by decide) (by decide))), Or.inr ⟨k, by omega, r2, q, ?_, ?_, rn a c k, hOk, rn_lk a c k, (r1.sfj (by decide) (by decide) (by decide) (by decide)).sfj (by decide) (by decide) (by decide) (by decide)⟩⟩
        · unfold b_X6_goMonths_36
          simp (disch := omega) only [litN, nI_add, pk_mul, pk_sub, nI_negR, nI_negL, nI_negE, nI_negLt, nI_negGe, nI_ltE, nI_leE, nI_eqI, nI_clamp, inB_n, gd_tt, bindS, if_true, if_false, reduceIte, leT, leF, ltT, ltF, eqT, eqF, s1, h14, r7, z1, z2, z3, e1]
        · dsimp only; rw [sf_n (by decide), sf_s]
        · dsimp only; rw [sf_s]
    · right
      refine ⟨_, rfl, s.2, ?_, s2, Or.inl ⟨j, by omega, j2, j3, j4, j5, j6⟩⟩
      unfold b_X6_goMonths_36
      simp (disch := omega) only [litN, nI_add, pk_mul, pk_sub, nI_negR, nI_negL, nI_negE, nI_negLt, nI_negGe, nI_ltE, nI_leE, nI_eqI, nI_clamp, inB_n, gd_tt, bindS, if_true, if_false, reduceIte, leT, leF, ltT, ltF, eqT, eqF, s1, h14, j4]
  · obtain ⟨s1, s2, s3⟩ := hs
    have h14 : s.2 0 14 = nI M := by rw [s2.2.2.2, hA.1]
    refine ⟨s.2, ?_, s2, ?_⟩
    · unfold b_X6_goMonths_36
      simp (disch := omega) only [litN, nI_add, pk_mul, pk_sub, nI_negR, nI_negL, nI_negE, nI_negLt, nI_negGe, nI_ltE, nI_leE, nI_eqI, nI_clamp, inB_n, gd_tt, bindS, if_true, if_false, reduceIte, leT, leF, ltT, ltF, eqT, eqF, s1, h14]
    · rcases s3 with ⟨r1, r2, r3, r4, r5, r6, r7, r8⟩ | ⟨j, j1, j2, j3, j4, j5, j6⟩
      · exact Or.inr ⟨r2, ⟨r7, r8⟩, r1, r3, r4, r5, r6⟩
      · exact Or.inl ⟨j, j1, j2, j3, j4, j5, j6⟩
  · dsimp only
    exact (((((GF.sf (by decide) (by decide) (by decide)).trans (GF.sf (by decide) (by decide) (by decide))).trans (GF.sf (by decide) (by decide) (by decide))).trans (GF.sf (by decide) (by decide) (by decide))).trans (GF.sf (by decide) (by decide) (by decide))).trans (GF.sf (by decide) (by decide) (by decide))
  · dsimp only
    refine RS.sfj (RS.sfj (RS.sfj (RS.sfj (RS.sfj (RS.sfj h ?_ ?_ ?_ ?_) ?_ ?_ ?_ ?_) ?_ ?_ ?_ ?_) ?_ ?_ ?_ ?_) ?_ ?_ ?_ ?_) ?_ ?_ ?_ ?_ <;> decide
  · simp (disch := omega) only [sf_s, sf_n]; rfl
  · simp (disch := omega) only [sf_s, sf_n]; rfl
  · simp (disch := omega) only [sf_s, sf_n]; rfl
  · simp (disch := omega) only [sf_s, sf_n]; rfl
  · simp (disch := omega) only [sf_s, sf_n]
  · simp (disch := omega) only [sf_s, sf_n]
