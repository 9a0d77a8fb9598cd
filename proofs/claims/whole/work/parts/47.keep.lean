/-! KEEP: the fewest who never wait -/
variable {n : Nat} {X T I J P C V F S S' : TI} {A L : TL} {a : AT}
def okk (a : AT) (x s : Nat) : Bool := decide (dif s (a 0 0) = 0) && (!s.testBit x && (it a s 10).testBit x)
def kb (a : AT) (x : Nat) : Nat → Nat
  | 0 => 1024
  | k + 1 => if (okk a x k && (decide (kb a x k = 1024) || decide (pc k < pc (kb a x k)))) = true then k else kb a x k
theorem kb_s (a : AT) (x k : Nat) : kb a x (k + 1) = if (okk a x k && (decide (kb a x k = 1024) || decide (pc k < pc (kb a x k)))) = true then k else kb a x k := rfl
theorem kb_none {x : Nat} : ∀ {k}, kb a x k = 1024 → k ≤ 1024 → ∀ s, s < k → okk a x s = false
  | 0, _, _, s, hs => absurd hs (Nat.not_lt_zero _)
  | k + 1, h, hk, s, hs => by
    rw [kb_s] at h
    by_cases g : (okk a x k && (decide (kb a x k = 1024) || decide (pc k < pc (kb a x k)))) = true
    · rw [if_pos g] at h; omega
    · rw [if_neg g] at h
      rcases Nat.lt_succ_iff_lt_or_eq.mp hs with q | q
      · exact kb_none h (by omega) s q
      · subst q
        cases ho : okk a x s
        · rfl
        · exact absurd (by simp [ho, h]) g
theorem kb_some {x : Nat} : ∀ {k}, ¬ kb a x k = 1024 → kb a x k < k ∧ okk a x (kb a x k) = true
  | 0, h => absurd rfl h
  | k + 1, h => by
    rw [kb_s] at h ⊢
    by_cases g : (okk a x k && (decide (kb a x k = 1024) || decide (pc k < pc (kb a x k)))) = true
    · rw [if_pos g]
      refine ⟨by omega, ?_⟩
      cases ho : okk a x k
      · rw [ho] at g; cases g
      · rfl
    · rw [if_neg g] at h ⊢
      have := kb_some h
      exact ⟨by omega, this.2⟩
theorem ms_mono (a : AT) {s t k : Nat} (h : ∀ i, i < 10 → s.testBit i = true → t.testBit i = true) : ms a s k = true → ms a t k = true := by
  intro hm
  unfold ms at *
  rw [decide_eq_true_eq] at *
  have : cn a s k ≤ cn a t k := cnt_mono (fun i hi hp => by
    rw [Bool.and_eq_true] at hp ⊢
    exact ⟨h i hi hp.1, hp.2⟩)
  omega
theorem nx_mono (a : AT) {v w s t : Nat} (hv : ∀ i, i < 10 → v.testBit i = true → w.testBit i = true) (h : ∀ i, i < 10 → s.testBit i = true → t.testBit i = true) : ∀ i, i < 10 → (nx a v s).testBit i = true → (nx a w t).testBit i = true := by
  intro i hi hq
  rw [nx_tb a v s hi, Bool.and_eq_true, Bool.or_eq_true] at hq
  rw [nx_tb a w t hi, Bool.and_eq_true, Bool.or_eq_true]
  exact ⟨h i hi hq.1, hq.2.elim (fun q => Or.inl (hv i hi q)) (fun q => Or.inr (ms_mono a h q))⟩
theorem it_mono (a : AT) {v w : Nat} (hv : ∀ i, i < 10 → v.testBit i = true → w.testBit i = true) : ∀ k i, i < 10 → (it a v k).testBit i = true → (it a w k).testBit i = true
  | 0, _, _, h => h
  | k + 1, i, hi, h => nx_mono a hv (it_mono a hv k) i hi h
theorem dif_0 {s t : Nat} (hs : s < 1024) : (dif s t = 0) ↔ ∀ i, i < 10 → s.testBit i = true → t.testBit i = true := by
  constructor
  · intro h i hi hq
    have := congrArg (fun z => z.testBit i) h
    simp only [dif_tb, Nat.zero_testBit, hq, Bool.true_and] at this
    simpa using this
  · intro h
    refine tb_ext (dif_lt hs) (by decide) (fun i hi => ?_)
    rw [dif_tb, Nat.zero_testBit]
    have := h i hi
    cases q : s.testBit i
    · rfl
    · rw [this q]; rfl
def oth (a : AT) (x : Nat) : Nat := dif (a 0 0) (2 ^ x)
theorem oth_lt (hO : OKA a) (x : Nat) : oth a x < 1024 := dif_lt hO.h0
theorem oth_tb (a : AT) (x i : Nat) : (oth a x).testBit i = ((a 0 0).testBit i && !decide (x = i)) := by
  unfold oth
  rw [dif_tb, Nat.testBit_two_pow]
theorem okk_sub {x s : Nat} (hs : s < 1024) (hx : x < 10) (h : okk a x s = true) : ∀ i, i < 10 → s.testBit i = true → (oth a x).testBit i = true := by
  unfold okk at h
  rw [Bool.and_eq_true, Bool.and_eq_true, decide_eq_true_eq] at h
  intro i hi hq
  rw [oth_tb, Bool.and_eq_true]
  refine ⟨(dif_0 hs).mp h.1 i hi hq, ?_⟩
  by_cases g : x = i
  · subst g
    rw [hq] at h
    exact absurd h.2.1 (by decide)
  · simp [g]
theorem okk_iff {x s : Nat} (hs : s < 1024) (hx : x < 10) : okk a x s = (decide (dif s (oth a x) = 0) && (it a s 10).testBit x) := by
  unfold okk
  have h : (dif s (oth a x) = 0) ↔ (dif s (a 0 0) = 0 ∧ s.testBit x = false) := by
    rw [dif_0 hs, dif_0 hs]
    constructor
    · intro h
      refine ⟨fun i hi q => ?_, ?_⟩
      · have := h i hi q
        rw [oth_tb, Bool.and_eq_true] at this
        exact this.1
      · cases q : s.testBit x
        · rfl
        · have := h x hx q
          rw [oth_tb] at this
          simp at this
    · intro h i hi q
      rw [oth_tb, Bool.and_eq_true]
      refine ⟨h.1 i hi q, ?_⟩
      by_cases g : x = i
      · subst g
        rw [h.2] at q; cases q
      · simp [g]
  by_cases g : dif s (oth a x) = 0
  · have g2 := h.mp g
    simp [g, g2.1, g2.2]
  · rw [decide_eq_false g]
    by_cases g1 : dif s (a 0 0) = 0
    · cases g2 : s.testBit x
      · exact absurd (h.mpr ⟨g1, g2⟩) g
      · simp
    · simp [g1]
theorem okk_mono (hO : OKA a) {x s : Nat} (hs : s < 1024) (hx : x < 10) (h : okk a x s = true) : (it a (oth a x) 10).testBit x = true := by
  have h1 := okk_sub hs hx h
  rw [okk_iff hs hx, Bool.and_eq_true] at h
  exact it_mono a h1 10 x hx h.2
def cbk (a : AT) (x k : Nat) : Nat := if kb a x k = 1024 then oth a x else kb a x k
theorem cbk_lt (hO : OKA a) {x k : Nat} (hk : k ≤ 1024) : cbk a x k < 1024 := by
  unfold cbk
  by_cases g : kb a x k = 1024
  · rw [if_pos g]; exact oth_lt hO x
  · rw [if_neg g]
    have := kb_some g
    omega
theorem cbk_s (hO : OKA a) {x k : Nat} (hx : x < 10) (hk : k < 1024) : cbk a x (k + 1) = if (decide (pc k < pc (cbk a x k)) && okk a x k) = true then k else cbk a x k := by
  unfold cbk
  rw [kb_s]
  by_cases g : kb a x k = 1024
  · rw [if_pos g, g]
    cases ho : okk a x k
    · simp
    · have hsub := okk_sub hk hx ho
      by_cases q : k = oth a x
      · simp only [decide_true, Bool.true_or, Bool.and_true, if_true]
        rw [if_neg (by omega), ← q]
        simp
      · have := sub_pc hk (oth_lt hO x) hsub q
        simp only [decide_true, Bool.true_or, Bool.and_true, if_true]
        rw [if_neg (by omega), if_pos (decide_eq_true this)]
  · rw [if_neg g, decide_eq_false g, Bool.false_or]
    have := kb_some g
    cases ho : okk a x k
    · simp [g]
    · simp only [Bool.true_and, Bool.and_true]
      by_cases q : pc k < pc (kb a x k)
      · rw [decide_eq_true q, if_pos rfl, if_neg (by omega)]
      · rw [decide_eq_false q]
        simp [g]
def iv (m : Nat) : Int32 := if m = 1024 then -nI 6 else nI m
theorem kb_end {x : Nat} (hx : x < 10) : kb a x 1024 = kb a x 1023 := by
  rw [kb_s]
  have : okk a x 1023 = false := by
    unfold okk
    rw [(by decide : ∀ i, i < 10 → (1023 : Nat).testBit i = true) x hx]
    simp
  rw [this, Bool.false_and]
  exact if_neg (by decide)
theorem e_fewest (h : RF F a) (hO : OKA a) {x : Nat} (hx : x < 10) (hn : 1100 < n) : m_X3_fewestToKeep n F (nI x) = some (iv (kb a x 1024)) := by
  unfold m_X3_fewestToKeep
  have ho : oth a x < 1024 := oth_lt hO x
  have hod : dif (a 0 0) (2 ^ x) = oth a x := rfl
  have e1 := e_remaining h hO ho (by omega : 20 < n)
  have e2 := e_holds (n := n) (s := it a (oth a x) 10) (k := x) (it_lt hO _ _) (by omega)
  simp (disch := omega) only [litN, nI_add, pk_mul, pk_sub, nI_negR, nI_negL, nI_negE, nI_negLt, nI_negGe, nI_ltE, nI_leE, nI_eqI, nI_clamp, inB_n, gd_tt, bindS, if_true, if_false, reduceIte, leT, leF, ltT, ltF, eqT, eqF, nI_bitN, h.1, nI_andn, hod, e1, e2, nI_f0]
  cases hr : (it a (oth a x) 10).testBit x
  · simp only [if_true]
    have : kb a x 1024 = 1024 := by
      by_cases g : kb a x 1024 = 1024
      · exact g
      · have g2 := kb_some g
        rw [okk_mono hO g2.1 hx g2.2] at hr
        cases hr
    unfold iv
    rw [this]
    rfl
  · simp only [Bool.true_eq_false, if_false]
    have hne : ¬ kb a x 1023 = 1024 := by
      rw [← kb_end hx]
      intro g
      have := kb_none g (Nat.le_refl _) (oth a x) ho
      rw [okk_iff ho hx, hr] at this
      have hz : dif (oth a x) (oth a x) = 0 := (dif_0 ho).mpr (fun i _ q => q)
      rw [hz] at this
      cases this
    have hfin : iv (kb a x 1024) = nI (cbk a x 1023) := by
      unfold iv cbk
      rw [kb_end hx, if_neg hne, if_neg hne]
    rw [hfin]
    refine loop_for (b_X3_fewestToKeep_31 n F (nI x)) (fun k => (nI (cbk a x k), nI k)) 1023 _ (fun k hk kk => ?_) (fun kk => ?_) n (by omega)
    · unfold b_X3_fewestToKeep_31
      have hc := cbk_lt (x := x) hO (by omega : k ≤ 1024)
      have b1 := e_bc (n := n) (s := k) (by omega)
      have b2 := e_bc (n := n) hc
      have r1 := e_remaining h hO (v := k) (by omega) (by omega : 20 < n)
      have r2 := e_holds (n := n) (s := it a k 10) (k := x) (it_lt hO _ _) (by omega)
      have p1 := pc_le k
      have p2 := pc_le (cbk a x k)
      have hd : dif k (oth a x) < 1024 := dif_lt (by omega)
      simp (disch := omega) only [litN, nI_add, pk_mul, pk_sub, nI_negR, nI_negL, nI_negE, nI_negLt, nI_negGe, nI_ltE, nI_leE, nI_eqI, nI_clamp, inB_n, gd_tt, bindS, if_true, if_false, reduceIte, leT, leF, ltT, ltF, eqT, eqF, b1, b2, r1, r2, h.1, nI_bitN, nI_andn, hod, nI_f0]
      rw [cbk_s hO hx (by omega), okk_iff (by omega) hx]
      by_cases q1 : pc (cbk a x k) ≤ pc k
      · rw [if_pos q1, decide_eq_false (by omega : ¬ pc k < pc (cbk a x k))]
        rfl
      · rw [if_neg q1, decide_eq_true (by omega : pc k < pc (cbk a x k))]
        by_cases q2 : dif k (oth a x) = 0
        · rw [if_pos q2, decide_eq_true q2]
          cases (it a k 10).testBit x <;> rfl
        · rw [if_neg q2, decide_eq_false q2]
          rfl
    · unfold b_X3_fewestToKeep_31
      simp (disch := omega) only [litN, nI_add, pk_mul, pk_sub, nI_negR, nI_negL, nI_negE, nI_negLt, nI_negGe, nI_ltE, nI_leE, nI_eqI, nI_clamp, inB_n, gd_tt, bindS, if_true, if_false, reduceIte, leT, leF, ltT, ltF, eqT, eqF]
theorem iv_lt {m : Nat} (hm : m ≤ 1024) : (iv m < nI 0) = (m = 1024) := by
  unfold iv
  by_cases g : m = 1024
  · rw [if_pos g]
    simp (disch := omega) only [litN, nI_add, pk_mul, pk_sub, nI_negR, nI_negL, nI_negE, nI_negLt, nI_negGe, nI_ltE, nI_leE, nI_eqI, nI_clamp, inB_n, gd_tt, bindS, if_true, if_false, reduceIte, leT, leF, ltT, ltF, eqT, eqF, nI_negLt]
  · rw [if_neg g]
    simp (disch := omega) only [litN, nI_add, pk_mul, pk_sub, nI_negR, nI_negL, nI_negE, nI_negLt, nI_negGe, nI_ltE, nI_leE, nI_eqI, nI_clamp, inB_n, gd_tt, bindS, if_true, if_false, reduceIte, leT, leF, ltT, ltF, eqT, eqF]
theorem kb_le (a : AT) (x : Nat) {k : Nat} (hk : k ≤ 1024) : kb a x k ≤ 1024 := by
  by_cases g : kb a x k = 1024
  · omega
  · have := kb_some g
    omega
theorem t_keep (g : INV X T I J P S) (hn : 1100 < n) (x1 x2 : Int32) : ∃ v F' S', m_X5_keep n X T I J P C V F A x1 x2 = some (v, F') ∧ m_X6_keep n S L x1 x2 = some (v, S') ∧ INV X T I J P S' := by
  obtain ⟨a, hO, hT, hS⟩ := g.1
  unfold m_X5_keep m_X6_keep
  simp only [litN, litL, e_isFlag, e_hereTx hT hO, e_hereS hS hO]
  simp (disch := omega) only [e_in]
  simp only [bindS, nI_f0]
  cases i1 : (inr x1 0 9 && (a 0 0).testBit x1.toNatClampNeg)
  · exact ⟨_, _, _, rfl, rfl, g⟩
  cases i2 : inr x2 0 1
  · exact ⟨_, _, _, rfl, rfl, g⟩
  rw [Bool.and_eq_true] at i1
  obtain ⟨x, rfl, -, hx⟩ := inr_T i1.1 (by decide) (by decide)
  obtain ⟨w, rfl, -, hw⟩ := inr_T i2 (by decide) (by decide)
  obtain ⟨F', e1, hF⟩ := e_lookAt (F := F) hT hO (by omega : 10 < n)
  obtain ⟨K, hK⟩ : ∃ K, K = kb a x := ⟨_, rfl⟩
  have Ks : ∀ k, K (k + 1) = if (okk a x k && (decide (K k = 1024) || decide (pc k < pc (K k)))) = true then k else K k := by rw [hK]; exact kb_s a x
  have K0 : K 0 = 1024 := by rw [hK]; rfl
  have Ksome : ∀ k, ¬ K k = 1024 → K k < k := by rw [hK]; exact fun k h => (kb_some h).1
  have Kle : ∀ k, k ≤ 1024 → K k ≤ 1024 := by rw [hK]; exact fun k h => kb_le a x h
  have e2 : m_X3_fewestToKeep n F' (nI x) = some (iv (K 1024)) := by rw [hK]; exact e_fewest hF hO (x := x) (by omega) hn
  clear hK
  simp only [Bool.true_eq_false, if_false, e1, e2, bindS]
  have key : ∃ S', loopF (b_X6_keep_29 n L (nI x) (nI w)) n (-nI 6, nI 0, S) = some (if w = 1 then iv (K 1024) else if K 1024 = 1024 then -nI 6 else nI (pc (K 1024)), S') ∧ FQ S S' := by
    refine loop_inv (b_X6_keep_29 n L (nI x) (nI w)) (fun k s => s.1 = iv (K k) ∧ s.2.1 = nI k ∧ FQ S s.2.2) 1024 (fun o => ∃ S', o = some (if w = 1 then iv (K 1024) else if K 1024 = 1024 then -nI 6 else nI (pc (K 1024)), S') ∧ FQ S S') (fun k hk s hs kk => ?_) (fun s hs kk => ?_) _ n ⟨by rw [K0]; rfl, rfl, FQ.rfl⟩ (by omega)
    · left
      obtain ⟨h1, h2, h3⟩ := hs
      have hr := h3.rs hS
      obtain ⟨S2, s1, s2, -⟩ := e_staysBy (L := L) hr hO (v := k) (by omega) (by omega : 20 < n)
      have s3 := e_has (n := n) (s := it a k 10) (k := x) (it_lt hO _ _) (by omega)
      have s4 := e_has (n := n) (s := k) (k := x) (by omega) (by omega)
      have o1 := e_ones (n := n) (s := k) (by omega) (by omega)
      have hl := iv_lt (Kle k (by omega))
      have hd : dif k (a 0 0) < 1024 := dif_lt (by omega)
      have p1 := pc_le k
      have p2 := pc_le (K k)
      unfold b_X6_keep_29
      simp (disch := omega) only [litN, nI_add, pk_mul, pk_sub, nI_negR, nI_negL, nI_negE, nI_negLt, nI_negGe, nI_ltE, nI_leE, nI_eqI, nI_clamp, inB_n, gd_tt, bindS, if_true, if_false, reduceIte, leT, leF, ltT, ltF, eqT, eqF, h1, h2, hr.h0, nI_andn, s1, s3, s4, o1, hl, nI_f0]
      rw [Ks]
      unfold okk
      by_cases q1 : dif k (a 0 0) = 0
      · rw [if_pos q1, decide_eq_true q1]
        cases q2 : k.testBit x
        · simp only [if_true]
          by_cases q3 : K k = 1024
          · rw [if_pos q3, decide_eq_true q3]
            cases (it a k 10).testBit x
            · exact ⟨_, rfl, rfl, rfl, h3.trans s2⟩
            · refine ⟨_, rfl, ?_, rfl, h3.trans s2⟩
              simp [iv, show ¬ k = 1024 by omega]
          · have hlt := Ksome _ q3
            have o2 := e_ones (n := n) (s := K k) (by omega) (by omega)
            have hiv : iv (K k) = nI (K k) := by unfold iv; rw [if_neg q3]
            rw [if_neg q3, hiv, o2, bindS, decide_eq_false q3]
            simp (disch := omega) only [nI_leE]
            by_cases q4 : pc (K k) ≤ pc k
            · rw [if_pos q4, decide_eq_false (by omega : ¬ pc k < pc (K k))]
              refine ⟨_, rfl, ?_, rfl, h3⟩
              simp [hiv]
            · rw [if_neg q4, decide_eq_true (by omega : pc k < pc (K k))]
              cases (it a k 10).testBit x
              · refine ⟨_, rfl, ?_, rfl, h3.trans s2⟩
                simp [hiv]
              · refine ⟨_, rfl, ?_, rfl, h3.trans s2⟩
                simp [iv, show ¬ k = 1024 by omega]
        · simp only [Bool.true_eq_false, if_false]
          by_cases q3 : K k = 1024
          · rw [if_pos q3]
            refine ⟨_, rfl, ?_, rfl, h3⟩
            simp
          · have hlt := Ksome _ q3
            have o2 := e_ones (n := n) (s := K k) (by omega) (by omega)
            have hiv : iv (K k) = nI (K k) := by unfold iv; rw [if_neg q3]
            rw [if_neg q3, hiv, o2, bindS]
            refine ⟨(nI (K k), nI (k + 1), s.2.2), by split <;> rfl, ?_, rfl, h3⟩
            simp [hiv]
      · rw [if_neg q1, decide_eq_false q1]
        by_cases q3 : K k = 1024
        · rw [if_pos q3]
          refine ⟨_, rfl, ?_, rfl, h3⟩
          simp
        · have hlt := Ksome _ q3
          have o2 := e_ones (n := n) (s := K k) (by omega) (by omega)
          have hiv : iv (K k) = nI (K k) := by unfold iv; rw [if_neg q3]
          rw [if_neg q3, hiv, o2, bindS]
          refine ⟨(nI (K k), nI (k + 1), s.2.2), by split <;> rfl, ?_, rfl, h3⟩
          simp [hiv]
    · obtain ⟨h1, h2, h3⟩ := hs
      have hl := iv_lt (Kle 1024 (Nat.le_refl _))
      unfold b_X6_keep_29
      simp (disch := omega) only [litN, nI_add, pk_mul, pk_sub, nI_negR, nI_negL, nI_negE, nI_negLt, nI_negGe, nI_ltE, nI_leE, nI_eqI, nI_clamp, inB_n, gd_tt, bindS, if_true, if_false, reduceIte, leT, leF, ltT, ltF, eqT, eqF, h1, h2, hl]
      refine ⟨s.2.2, ?_, h3⟩
      by_cases q3 : K 1024 = 1024
      · rw [if_pos q3, if_pos q3]
        unfold iv
        rw [if_pos q3]
        split <;> rfl
      · have hlt := Ksome _ q3
        have o2 := e_ones (n := n) (s := K 1024) (by omega) (by omega)
        have hiv : iv (K 1024) = nI (K 1024) := by unfold iv; rw [if_neg q3]
        rw [if_neg q3, if_neg q3, hiv, o2, bindS]
        split <;> rfl
  obtain ⟨S', k1, k2⟩ := key
  refine ⟨_, F', S', ?_, k1, k2.inv g⟩
  simp (disch := omega) only [nI_eqI]
  by_cases q : w = 1
  · rw [if_pos q, if_pos q]
  · rw [if_neg q, if_neg q]
    unfold iv
    by_cases q3 : K 1024 = 1024
    · rw [if_pos q3, if_pos rfl, if_pos q3]
    · have hlt := Ksome _ q3
      have o2 := e_bc (n := n) (s := K 1024) (by omega)
      rw [if_neg q3, if_neg q3, o2, bindS]
      simp (disch := omega) only [litN, nI_add, pk_mul, pk_sub, nI_negR, nI_negL, nI_negE, nI_negLt, nI_negGe, nI_ltE, nI_leE, nI_eqI, nI_clamp, inB_n, gd_tt, bindS, if_true, if_false, reduceIte, leT, leF, ltT, ltF, eqT, eqF]
