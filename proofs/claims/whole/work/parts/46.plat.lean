/-! WHO IS LEFT, if all went to the platform each night -/
variable {n : Nat} {X T I J P C V F S S' : TI} {A L : TL} {a : AT}
def RF (F : TI) (a : AT) : Prop := F 0 3 = nI (a 0 0) ∧ ∀ k, k < 10 → F 1 k = nI (bits (cb a k) 10) ∧ F 2 k = nI (a 3 0 - dg a k) ∧ F 3 k = nI (tied a k 1)
theorem e_lookAt (h : RT T a) (hO : OKA a) (hn : 10 < n) : ∃ F', m_X3_lookAt n F T = some F' ∧ RF F' a := by
  unfold m_X3_lookAt
  refine loop_inv (b_X3_lookAt_10 n T) (fun k s => s.1 = nI k ∧ s.2 0 3 = nI (a 0 0) ∧ ∀ j, j < k → s.2 1 j = nI (bits (cb a j) 10) ∧ s.2 2 j = nI (a 3 0 - dg a j) ∧ s.2 3 j = nI (tied a j 1)) 10 (fun o => ∃ F', o = some F' ∧ RF F' a) (fun k hk s hs kk => ?_) (fun s hs kk => ?_) _ n ⟨rfl, by simp (disch := omega) only [sf_s, h.h0], fun j hj => absurd hj (Nat.not_lt_zero _)⟩ hn
  · obtain ⟨h1, h2, h3⟩ := hs
    unfold b_X3_lookAt_10
    have e1 := e_missing h hO hk hn
    have e2 := e_need (n := n) h hO hk
    have e3 := e_tied h hO hk (l := 1) (by omega) hn
    simp (disch := omega) only [litN, nI_add, pk_mul, pk_sub, nI_negR, nI_negL, nI_negE, nI_negLt, nI_negGe, nI_ltE, nI_leE, nI_eqI, nI_clamp, inB_n, gd_tt, bindS, if_true, if_false, reduceIte, leT, leF, ltT, ltF, eqT, eqF, h1, e1, e2, e3]
    refine Or.inl ⟨_, rfl, rfl, ?_, fun j hj => ?_⟩
    · simp (disch := omega) only [upA_n, h2]
    · simp (disch := omega) only [upA_n, upA_s, upd_v]
      by_cases q : j = k
      · subst q
        simp only [if_true]
        exact ⟨trivial, trivial, trivial⟩
      · simp only [q, if_false]
        exact h3 j (by omega)
  · obtain ⟨h1, h2, h3⟩ := hs
    unfold b_X3_lookAt_10
    simp (disch := omega) only [litN, nI_add, pk_mul, pk_sub, nI_negR, nI_negL, nI_negE, nI_negLt, nI_negGe, nI_ltE, nI_leE, nI_eqI, nI_clamp, inB_n, gd_tt, bindS, if_true, if_false, reduceIte, leT, leF, ltT, ltF, eqT, eqF, h1]
    exact ⟨_, rfl, h2, h3⟩
/-- who is there after a night; v never wait -/
def nx (a : AT) (v s : Nat) : Nat := bits (fun k => s.testBit k && (v.testBit k || ms a s k)) 10
theorem nx_lt (a : AT) (v s : Nat) : nx a v s < 1024 := bits_lt10 _
theorem nx_tb (a : AT) (v s : Nat) {k : Nat} (hk : k < 10) : (nx a v s).testBit k = (s.testBit k && (v.testBit k || ms a s k)) := bits_tb10 _ hk
theorem ms_iff (a : AT) (s k : Nat) (hO : OKA a) : (ms a s k = true) = ¬ (pc (bits (cb a k) 10 &&& s) < a 3 0 - dg a k) := by
  have h1 := dg_le a k
  have h2 := hO.l0
  have hp : pc (bits (cb a k) 10 &&& s) = cn a s k := by
    rw [pc_bits_and]
    exact cnt_congr (fun i _ => Bool.and_comm ..)
  rw [hp]
  unfold ms
  rw [decide_eq_true_eq]
  exact propext ⟨fun h => by omega, fun h => by omega⟩
theorem e_afterNight (h : RF F a) (hO : OKA a) {s v : Nat} (hs : s < 1024) (hv : v < 1024) (hn : 10 < n) : m_X3_afterNight n F (nI s) (nI v) = some (nI (nx a v s)) := by
  unfold m_X3_afterNight
  have hl := hO.l0
  have hfin : nx a v s = (s &&& v) ||| bits (fun k => (dif s v).testBit k && ms a s k) 10 := by
    refine tb_ext (nx_lt _ _ _) (or_lt (and_lt hs) (bits_lt10 _)) (fun i hi => ?_)
    rw [nx_tb a v s hi, Nat.testBit_or, Nat.testBit_and, bits_tb10 _ hi, dif_tb]
    cases s.testBit i <;> cases v.testBit i <;> rfl
  rw [hfin, nI_and, show nI (s &&& v) = nI ((s &&& v) ||| bits (fun k => (dif s v).testBit k && ms a s k) 0) by rw [bits_0, Nat.or_zero]]
  refine loop_for (b_X3_afterNight_14 n F (nI s) (nI v)) (fun k => (nI ((s &&& v) ||| bits (fun k => (dif s v).testBit k && ms a s k) k), nI k)) 10 _ (fun k hk kk => ?_) (fun kk => ?_) n hn
  · unfold b_X3_afterNight_14
    have e1 := e_holds (n := n) (s := dif s v) (k := k) (dif_lt hs) (by omega)
    obtain ⟨f1, f2, -⟩ := h.2 k hk
    have e4 := e_bcA (n := n) (s := bits (cb a k) 10) (t := s) (bits_lt10 _)
    have hp := pc_le (bits (cb a k) 10 &&& s)
    have hms := ms_iff a s k hO
    simp (disch := omega) only [litN, nI_add, pk_mul, pk_sub, nI_negR, nI_negL, nI_negE, nI_negLt, nI_negGe, nI_ltE, nI_leE, nI_eqI, nI_clamp, inB_n, gd_tt, bindS, if_true, if_false, reduceIte, leT, leF, ltT, ltF, eqT, eqF, nI_andn, e1, f1, f2, e4, nI_bitN, nI_or, nI_f0]
    cases hb : (dif s v).testBit k
    · rw [bits_F (p := fun k => (dif s v).testBit k && ms a s k) (n := k) (by simp only [hb, Bool.false_and])]
      rfl
    · simp only [Bool.true_eq_false, if_false]
      by_cases g : pc (bits (cb a k) 10 &&& s) < a 3 0 - dg a k
      · rw [if_pos g, bits_F (p := fun k => (dif s v).testBit k && ms a s k) (n := k) (by
          simp only [hb, Bool.true_and]
          cases hm : ms a s k
          · rfl
          · rw [hms] at hm; exact absurd g hm)]
      · rw [if_neg g, bits_T (p := fun k => (dif s v).testBit k && ms a s k) (n := k) (by simp only [hb, Bool.true_and, hms]; exact g), Nat.or_assoc]
  · unfold b_X3_afterNight_14
    simp (disch := omega) only [litN, nI_add, pk_mul, pk_sub, nI_negR, nI_negL, nI_negE, nI_negLt, nI_negGe, nI_ltE, nI_leE, nI_eqI, nI_clamp, inB_n, gd_tt, bindS, if_true, if_false, reduceIte, leT, leF, ltT, ltF, eqT, eqF]
def it (a : AT) (v : Nat) : Nat → Nat
  | 0 => a 0 0
  | k + 1 => nx a v (it a v k)
theorem it_s (a : AT) (v k : Nat) : it a v (k + 1) = nx a v (it a v k) := rfl
theorem it_lt (hO : OKA a) (v : Nat) : ∀ k, it a v k < 1024
  | 0 => hO.h0
  | k + 1 => nx_lt _ _ _
theorem it_fix {v k : Nat} (h : nx a v (it a v k) = it a v k) : ∀ j, it a v (k + j) = it a v k
  | 0 => rfl
  | j + 1 => by
    rw [show k + (j + 1) = (k + j) + 1 from rfl, it_s, it_fix h j, h]
theorem sub_pc {s t : Nat} (hs : s < 1024) (ht : t < 1024) (h : ∀ i, i < 10 → s.testBit i = true → t.testBit i = true) (hne : s ≠ t) : pc s < pc t := by
  have h1 := pc_split t s
  have h2 : t &&& s = s := tb_ext (and_lt ht) hs (fun i hi => by
    rw [Nat.testBit_and]
    have := h i hi
    cases hs : s.testBit i
    · simp
    · rw [this hs]; rfl)
  rw [h2] at h1
  have h3 : pc (dif t s) ≠ 0 := by
    intro h0
    apply hne
    rcases pc_low (dif t s) (dif_lt ht) with h4 | h4
    · refine tb_ext hs ht (fun i hi => ?_)
      have h5 := dif_tb t s i
      rw [h4, Nat.zero_testBit] at h5
      have := h i hi
      cases hs : s.testBit i
      · rw [hs] at h5
        simpa using h5
      · rw [this hs]
    · omega
  omega
theorem nx_sub (a : AT) (v s : Nat) : ∀ i, i < 10 → (nx a v s).testBit i = true → s.testBit i = true := fun i hi h => by
  rw [nx_tb a v s hi] at h
  cases hs : s.testBit i
  · rw [hs] at h; cases h
  · rfl
theorem it_pc (hO : OKA a) (v : Nat) : ∀ k, pc (it a v k) + k ≤ 10 ∨ nx a v (it a v k) = it a v k
  | 0 => Or.inl (pc_le _)
  | k + 1 => by
    by_cases hf : nx a v (it a v k) = it a v k
    · right
      rw [it_s, hf, hf]
    · rcases it_pc hO v k with h | h
      · left
        have := sub_pc (nx_lt a v (it a v k)) (it_lt hO v k) (nx_sub a v _) hf
        rw [it_s]
        omega
      · exact absurd h hf
theorem it_end (hO : OKA a) (v : Nat) : nx a v (it a v 10) = it a v 10 := by
  rcases it_pc hO v 10 with h | h
  · by_cases hf : nx a v (it a v 10) = it a v 10
    · exact hf
    · have := sub_pc (nx_lt a v (it a v 10)) (it_lt hO v 10) (nx_sub a v _) hf
      omega
  · exact h
theorem it_all {v k : Nat} (hk : k ≤ 10) (h : nx a v (it a v k) = it a v k) : it a v 10 = it a v k := by
  have := it_fix h (10 - k)
  rw [show k + (10 - k) = 10 by omega] at this
  exact this
def sty (a : AT) (v k : Nat) : Bool := decide (nx a v (it a v k) = it a v k)
/-- how many nights somebody leaves -/
def nts (a : AT) (v : Nat) : Nat := cnt (fun k => !sty a v k) 10
theorem cnt_first {p : Nat → Bool} {k : Nat} : ∀ {N : Nat}, (∀ i, i < k → p i = true) → (∀ i, k ≤ i → i < N → p i = false) → k ≤ N → cnt p N = k
  | 0, _, _, h => by simp [cnt]; omega
  | N + 1, h1, h2, h => by
    by_cases hk : k = N + 1
    · subst hk
      have := cnt_first (k := N) (N := N) (fun i hi => h1 i (by omega)) (fun i hi hi2 => by omega) (Nat.le_refl _)
      rw [cnt_T (h1 N (by omega)), this]
    · have := cnt_first (k := k) (N := N) h1 (fun i hi hi2 => h2 i hi (by omega)) (by omega)
      rw [cnt_F (h2 N (by omega) (by omega)), this]
theorem nts_at {v k : Nat} (hk : k ≤ 10) (h1 : ∀ i, i < k → sty a v i = false) (h2 : sty a v k = true) : nts a v = k := by
  unfold sty at h2
  rw [decide_eq_true_eq] at h2
  refine cnt_first (fun i hi => by rw [h1 i hi]; rfl) (fun i hi hi2 => ?_) hk
  have h3 : it a v i = it a v k := by
    have := it_fix h2 (i - k)
    rw [show k + (i - k) = i by omega] at this
    exact this
  unfold sty
  rw [h3, h2]
  simp
theorem e_remaining (h : RF F a) (hO : OKA a) {v : Nat} (hv : v < 1024) (hn : 20 < n) : m_X3_remaining n F (nI v) = some (nI (it a v 10)) := by
  unfold m_X3_remaining
  rw [h.1]
  refine loop_find (b_X3_remaining_7 n F (nI v)) (fun k => (nI (it a v k), nI k)) 11 (sty a v) (fun k => some (nI (it a v k))) _ (fun k hk h0 kk => ?_) (fun h0 kk => ?_) (fun k hk h0 hp => ?_) n (by omega)
  · unfold b_X3_remaining_7
    have e1 := e_afterNight h hO (it_lt hO v k) hv (by omega : 10 < n)
    have h1 := it_lt hO v k
    have h2 := nx_lt a v (it a v k)
    simp (disch := omega) only [litN, nI_add, pk_mul, pk_sub, nI_negR, nI_negL, nI_negE, nI_negLt, nI_negGe, nI_ltE, nI_leE, nI_eqI, nI_clamp, inB_n, gd_tt, bindS, if_true, if_false, reduceIte, leT, leF, ltT, ltF, eqT, eqF, e1]
    unfold sty
    rw [it_s]
    by_cases g : nx a v (it a v k) = it a v k
    · rw [if_pos g, if_pos (by simp [g])]
    · rw [if_neg g, if_neg (by simp [g])]
  · have := h0 10 (by omega)
    unfold sty at this
    rw [it_end hO v] at this
    simp at this
  · unfold sty at hp
    rw [decide_eq_true_eq] at hp
    show some (nI (it a v k)) = _
    rw [it_all (by omega) hp]
theorem e_nights (h : RF F a) (hO : OKA a) (hn : 20 < n) : m_X3_nightsOfLeaving n F = some (nI (nts a 0)) := by
  unfold m_X3_nightsOfLeaving
  rw [h.1]
  refine loop_find (b_X3_nightsOfLeaving_9 n F) (fun k => (nI (it a 0 k), nI k, nI k)) 11 (sty a 0) (fun k => some (nI k)) _ (fun k hk h0 kk => ?_) (fun h0 kk => ?_) (fun k hk h0 hp => ?_) n (by omega)
  · unfold b_X3_nightsOfLeaving_9
    have e1 := e_afterNight h hO (it_lt hO 0 k) (v := 0) (by omega) (by omega : 10 < n)
    have h1 := it_lt hO 0 k
    have h2 := nx_lt a 0 (it a 0 k)
    simp (disch := omega) only [litN, nI_add, pk_mul, pk_sub, nI_negR, nI_negL, nI_negE, nI_negLt, nI_negGe, nI_ltE, nI_leE, nI_eqI, nI_clamp, inB_n, gd_tt, bindS, if_true, if_false, reduceIte, leT, leF, ltT, ltF, eqT, eqF, e1]
    unfold sty
    rw [it_s]
    by_cases g : nx a 0 (it a 0 k) = it a 0 k
    · rw [if_pos g, if_pos (by simp [g])]
    · rw [if_neg g, if_neg (by simp [g])]
  · have := h0 10 (by omega)
    unfold sty at this
    rw [it_end hO 0] at this
    simp at this
  · show some (nI k) = _
    rw [nts_at (by omega) h0 hp]
def go (a : AT) (v s : Nat) : Nat := dif (dif s (mis a s)) v
theorem go_lt (a : AT) (v : Nat) {s : Nat} (hs : s < 1024) : go a v s < 1024 := dif_lt (dif_lt hs)
theorem go_nx (a : AT) (v : Nat) {s : Nat} (hs : s < 1024) : dif s (go a v s) = nx a v s := by
  refine tb_ext (dif_lt hs) (nx_lt _ _ _) (fun i hi => ?_)
  rw [nx_tb a v s hi]
  unfold go
  rw [dif_tb, dif_tb, dif_tb, mis_tb hi]
  cases s.testBit i <;> cases v.testBit i <;> cases ms a s i <;> rfl
theorem dif_zero (s : Nat) : dif s 0 = s := by
  unfold dif
  simp
theorem go_zero (a : AT) (v : Nat) {s : Nat} (hs : s < 1024) : (go a v s = 0) ↔ nx a v s = s := by
  constructor
  · intro h
    rw [← go_nx a v hs, h, dif_zero]
  · intro h
    refine tb_ext (go_lt a v hs) (by decide) (fun i hi => ?_)
    rw [Nat.zero_testBit]
    have h2 := congrArg (fun t => t.testBit i) h
    simp only [nx_tb a v s hi] at h2
    unfold go
    rw [dif_tb, dif_tb, mis_tb hi]
    cases hs : s.testBit i <;> cases hv : v.testBit i <;> cases hm : ms a s i <;> simp_all
theorem FQ.sf23 (x : Int32) : FQ S (sf S 23 x) := by
  refine ⟨⟨⟨⟨?_, ?_⟩, ?_, ?_⟩, ?_, ?_, ?_, ?_⟩, ⟨?_, ?_, ?_⟩, ?_, ?_⟩ <;> simp (disch := omega) only [sf_n, sf_r]
theorem e_staysBy (h : RS S a) (hO : OKA a) {v : Nat} (hv : v < 1024) (hn : 20 < n) : ∃ S', m_X6_staysBy n S L (nI v) = some (nI (it a v 10), S') ∧ FQ S S' ∧ S' 0 23 = nI (nts a v) := by
  unfold m_X6_staysBy
  have e0 := e_missedIn (L := L) ((FQ.sf23 (0 : Int32)).rs h) hO hO.h0 (by omega : 10 < n)
  rw [h.h0]
  simp only [e0, bindS]
  rw [show (-1 : Int32) = -nI 1 from rfl, nI_andn, nI_andn]
  refine loop_inv (b_X6_staysBy_24 n L (nI v)) (fun k s => s.1 = nI (it a v k) ∧ s.2.1 = nI (go a v (it a v k)) ∧ FQ S s.2.2 ∧ s.2.2 0 23 = nI k ∧ ∀ i, i < k → sty a v i = false) 10 (fun o => ∃ S', o = some (nI (it a v 10), S') ∧ FQ S S' ∧ S' 0 23 = nI (nts a v)) (fun k hk s hs kk => ?_) (fun s hs kk => ?_) _ n ⟨rfl, rfl, FQ.sf23 _, by simp (disch := omega) only [sf_s]; rfl, fun j hj => absurd hj (Nat.not_lt_zero _)⟩ (by omega)
  · obtain ⟨h1, h2, h3, h4, h5⟩ := hs
    have hl := it_lt hO v k
    have hg := go_lt a v hl
    unfold b_X6_staysBy_24
    by_cases g : go a v (it a v k) = 0
    · right
      have hf := (go_zero a v hl).mp g
      have hst : sty a v k = true := by unfold sty; exact decide_eq_true hf
      refine ⟨_, rfl, s.2.2, ?_, h3, ?_⟩
      · rw [h2, g, if_pos (show nI 0 = 0 from rfl), h1, it_all (by omega) hf]
      · rw [h4, nts_at (by omega) h5 hst]
    · left
      have hF : FQ S (sf s.2.2 23 (nI (k + 1))) := h3.trans (FQ.sf23 _)
      have e1 := e_missedIn (n := n) (L := L) (hF.rs h) hO (nx_lt a v (it a v k)) (by omega)
      have hnz : ¬ nI (go a v (it a v k)) = 0 := by
        rw [show (0 : Int32) = nI 0 from rfl, nI_eqI (by omega) (by omega)]
        exact g
      refine ⟨(nI (it a v (k + 1)), nI (go a v (it a v (k + 1))), sf s.2.2 23 (nI (k + 1))), ?_, rfl, rfl, hF, by simp (disch := omega) only [sf_s], fun i hi => ?_⟩
      · simp only [h1, h2, h4]
        rw [if_neg hnz, show (-1 : Int32) = -nI 1 from rfl, nI_andn, go_nx a v hl, show nI k + 1 = nI (k + 1) from nI_add k 1, e1, bindS, nI_andn, nI_andn]
        rfl
      · rcases Nat.lt_succ_iff_lt_or_eq.mp hi with q | q
        · exact h5 i q
        · subst q
          unfold sty
          exact decide_eq_false (fun q2 => g ((go_zero a v hl).mpr q2))
  · obtain ⟨h1, h2, h3, h4, h5⟩ := hs
    have hl := it_lt hO v 10
    have hf := it_end hO v
    have g : go a v (it a v 10) = 0 := (go_zero a v hl).mpr hf
    have hst : sty a v 10 = true := by unfold sty; exact decide_eq_true hf
    unfold b_X6_staysBy_24
    refine ⟨s.2.2, ?_, h3, ?_⟩
    · rw [h2, g, if_pos (show nI 0 = 0 from rfl), h1]
    · rw [h4, nts_at (by omega) h5 hst]
theorem t_stays (g : INV X T I J P S) (hn : 20 < n) (x1 : Int32) : ∃ v F' S', m_X5_stays n X T I J P C V F A x1 = some (v, F') ∧ m_X6_stays n S L x1 = some (v, S') ∧ INV X T I J P S' := by
  obtain ⟨a, hO, hT, hS⟩ := g.1
  unfold m_X5_stays m_X6_stays
  simp only [litN, litL, e_isFlag]
  simp (disch := omega) only [e_in]
  simp only [bindS, nI_f0]
  cases i1 : inr x1 0 1
  · exact ⟨_, _, _, rfl, rfl, g⟩
  obtain ⟨w, rfl, -, hw⟩ := inr_T i1 (by decide) (by decide)
  obtain ⟨F', e1, hF⟩ := e_lookAt (F := F) hT hO (by omega : 10 < n)
  have e2 := e_remaining hF hO (v := 0) (by omega) hn
  have e3 := e_nights hF hO hn
  obtain ⟨S', e4, hq, h23⟩ := e_staysBy (L := L) hS hO (v := 0) (by omega) hn
  simp (disch := omega) only [litN, nI_add, pk_mul, pk_sub, nI_negR, nI_negL, nI_negE, nI_negLt, nI_negGe, nI_ltE, nI_leE, nI_eqI, nI_clamp, inB_n, gd_tt, bindS, if_true, if_false, reduceIte, leT, leF, ltT, ltF, eqT, eqF, Bool.true_eq_false, e1, e2, e3, e4, h23]
  by_cases hw0 : w = 0
  · simp only [hw0, if_true]
    exact ⟨_, _, _, rfl, rfl, hq.inv g⟩
  · simp only [hw0, if_false]
    exact ⟨_, _, _, rfl, rfl, hq.inv g⟩
