/-! THE TEXT of the months: where it goes wrong, and its acts -/
variable {n : Nat} {X T I J P C V F S S' : TI} {A L : TL} {a : AT} {c : Nat → Nat}
def ltr (h : Nat) : Prop := 65 ≤ h ∧ h ≤ 74
theorem ltr_d (h : Nat) : ltr h ∨ ¬ ltr h := Decidable.em (65 ≤ h ∧ h ≤ 74)
def stp (d h : Nat) : Nat := if d = 0 then (if 65 ≤ h ∧ h ≤ 74 then 1 else if h = 46 then 0 else if h = 126 then 0 else 9) else if d = 1 then (if h = 36 then 4 else if h = 43 then 2 else if h = 45 then 3 else if h = 62 then 0 else if h = 100 then 0 else 9) else (if 65 ≤ h ∧ h ≤ 74 then 0 else 9)
def cd (d : Nat) : Nat := if d = 0 then 0 else if d = 1 then 1 else if d = 9 then 3 else 2
def cde (d h : Nat) : Nat := if d = 0 then (if h = 46 then 5 else 6) else if d = 1 then (if h = 100 then 3 else 4) else d - 2
def du (c : Nat → Nat) : Nat → Nat
  | 0 => 0
  | i + 1 => stp (du c i) (c i)
def ac (c : Nat → Nat) : Nat → Nat
  | 0 => 0
  | i + 1 => ac c i + (if stp (du c i) (c i) = 0 then 1 else 0)
theorem du_s (c : Nat → Nat) (i : Nat) : du c (i + 1) = stp (du c i) (c i) := rfl
theorem ac_s (c : Nat → Nat) (i : Nat) : ac c (i + 1) = ac c i + (if stp (du c i) (c i) = 0 then 1 else 0) := rfl
def brk (c : Nat → Nat) (i : Nat) : Bool := decide (stp (du c i) (c i) = 9)
theorem stp_le (d h : Nat) : stp d h ≤ 4 ∨ stp d h = 9 := by
  unfold stp
  repeat' split
  all_goals omega
theorem du_le {i : Nat} (h : ∀ j, j < i → brk c j = false) : du c i ≤ 4 := by
  cases i with
  | zero => exact Nat.zero_le _
  | succ i =>
    have := h i (by omega)
    unfold brk at this
    rw [decide_eq_false_iff_not] at this
    rw [du_s]
    rcases stp_le (du c i) (c i) with q | q
    · exact q
    · exact absurd q this
theorem ac_le (c : Nat → Nat) : ∀ i, ac c i ≤ i
  | 0 => Nat.le_refl _
  | i + 1 => by
    have := ac_le c i
    rw [ac_s]
    split <;> omega
def wl (c : Nat → Nat) (p : Nat) : Nat := if c p = 46 ∨ c p = 126 then 1 else if c (p + 1) = 100 ∨ c (p + 1) = 62 then 2 else 3
def cd6 (c : Nat → Nat) (p : Nat) : Nat := if c p = 46 then 5 else if c p = 126 then 6 else if c (p + 1) = 100 then 3 else if c (p + 1) = 62 then 4 else if c (p + 1) = 43 then 0 else if c (p + 1) = 45 then 1 else 2
def wx (c : Nat → Nat) (p : Nat) : Nat := if 65 ≤ c p ∧ c p ≤ 74 then c p - 65 else 0
def wy (c : Nat → Nat) (p : Nat) : Nat := if cd6 c p < 3 then c (p + 2) - 65 else 0
def sp (c : Nat → Nat) : Nat → Nat
  | 0 => 0
  | k + 1 => sp c k + wl c (sp c k)
theorem sp_s (c : Nat → Nat) (k : Nat) : sp c (k + 1) = sp c k + wl c (sp c k) := rfl
/-- an act stands at p -/
def okp (c : Nat → Nat) (p : Nat) : Prop := (c p = 46 ∨ c p = 126) ∨ (ltr (c p) ∧ ((c (p + 1) = 100 ∨ c (p + 1) = 62) ∨ ((c (p + 1) = 43 ∨ c (p + 1) = 45 ∨ c (p + 1) = 36) ∧ ltr (c (p + 2)))))
def PIv (c : Nat → Nat) (i : Nat) : Prop := (du c i = 0 → sp c (ac c i) = i) ∧ (du c i = 1 → sp c (ac c i) + 1 = i ∧ ltr (c (sp c (ac c i)))) ∧ (2 ≤ du c i → sp c (ac c i) + 2 = i ∧ ltr (c (sp c (ac c i))) ∧ c (sp c (ac c i) + 1) = (if du c i = 2 then 43 else if du c i = 3 then 45 else 36)) ∧ ∀ k, k < ac c i → okp c (sp c k) ∧ sp c (k + 1) ≤ i
theorem piv : ∀ i, (∀ j, j < i → brk c j = false) → PIv c i
  | 0, _ => ⟨fun _ => rfl, fun h => absurd h (show ¬ 0 = 1 by decide), fun h => absurd h (show ¬ 2 ≤ 0 by decide), fun k hk => absurd hk (Nat.not_lt_zero _)⟩
  | i + 1, h => by
    have ih := piv i (fun j hj => h j (by omega))
    obtain ⟨p0, p1, p2, p3⟩ := ih
    have hd := du_le (c := c) (i := i) (fun j hj => h j (by omega))
    have hb := h i (by omega)
    unfold brk at hb
    rw [decide_eq_false_iff_not] at hb
    have keep : ∀ k, k < ac c i → okp c (sp c k) ∧ sp c (k + 1) ≤ i + 1 := fun k hk => ⟨(p3 k hk).1, by have := (p3 k hk).2; omega⟩
    have add : okp c (sp c (ac c i)) → sp c (ac c i + 1) = i + 1 → ∀ k, k < ac c i + 1 → okp c (sp c k) ∧ sp c (k + 1) ≤ i + 1 := fun h1 h2 k hk => by
      rcases Nat.lt_succ_iff_lt_or_eq.mp hk with q | q
      · exact keep k q
      · subst q; exact ⟨h1, by omega⟩
    unfold PIv
    rw [du_s, ac_s]
    rcases (show du c i = 0 ∨ du c i = 1 ∨ 2 ≤ du c i by omega) with q | q | q
    · have e0 := p0 q
      rw [q] at hb ⊢
      by_cases l : 65 ≤ c i ∧ c i ≤ 74
      · have hs : stp 0 (c i) = 1 := by unfold stp; rw [if_pos rfl, if_pos l]
        rw [hs, if_neg (by decide), Nat.add_zero, e0]
        exact ⟨fun h => absurd h (by decide), fun _ => ⟨rfl, l⟩, fun h => absurd h (by decide), keep⟩
      · by_cases l2 : c i = 46 ∨ c i = 126
        · have hs : stp 0 (c i) = 0 := by
            unfold stp
            rw [if_pos rfl, if_neg l]
            rcases l2 with w | w
            · rw [if_pos w]
            · rw [if_neg (by omega), if_pos w]
          have hw : sp c (ac c i + 1) = i + 1 := by
            rw [sp_s, e0]
            unfold wl
            rw [if_pos l2]
          rw [hs, if_pos rfl]
          exact ⟨fun _ => hw, fun h => absurd h (by decide), fun h => absurd h (by decide), add (by rw [e0]; exact Or.inl l2) hw⟩
        · exfalso
          apply hb
          unfold stp
          rw [if_pos rfl, if_neg l, if_neg (fun w => l2 (Or.inl w)), if_neg (fun w => l2 (Or.inr w))]
    · obtain ⟨e1, e2⟩ := p1 q
      have e2' := e2
      unfold ltr at e2
      have hn : ¬ (c (sp c (ac c i)) = 46 ∨ c (sp c (ac c i)) = 126) := by omega
      rw [q] at hb ⊢
      by_cases l : c i = 62 ∨ c i = 100
      · have hs : stp 1 (c i) = 0 := by
          unfold stp
          rw [if_neg (by decide), if_pos rfl, if_neg (by omega), if_neg (by omega), if_neg (by omega)]
          rcases l with w | w
          · rw [if_pos w]
          · rw [if_neg (by omega), if_pos w]
        have hw : sp c (ac c i + 1) = i + 1 := by
          rw [sp_s]
          unfold wl
          rw [if_neg hn, e1, if_pos (by omega)]
          omega
        rw [hs, if_pos rfl]
        exact ⟨fun _ => hw, fun h => absurd h (by decide), fun h => absurd h (by decide), add (Or.inr ⟨e2', Or.inl (by rw [e1]; omega)⟩) hw⟩
      · have hs : (c i = 43 ∧ stp 1 (c i) = 2) ∨ (c i = 45 ∧ stp 1 (c i) = 3) ∨ (c i = 36 ∧ stp 1 (c i) = 4) := by
          unfold stp at hb ⊢
          rw [if_neg (by decide), if_pos rfl] at hb ⊢
          by_cases w1 : c i = 36
          · rw [if_pos w1]; exact Or.inr (Or.inr ⟨w1, rfl⟩)
          · rw [if_neg w1] at hb ⊢
            by_cases w2 : c i = 43
            · rw [if_pos w2]; exact Or.inl ⟨w2, rfl⟩
            · rw [if_neg w2] at hb ⊢
              by_cases w3 : c i = 45
              · rw [if_pos w3]; exact Or.inr (Or.inl ⟨w3, rfl⟩)
              · rw [if_neg w3, if_neg (by omega), if_neg (by omega)] at hb
                exact absurd rfl hb
        have hz : ¬ stp 1 (c i) = 0 := by omega
        rw [if_neg hz, Nat.add_zero]
        refine ⟨fun h => absurd h hz, fun h => by omega, fun _ => ⟨by omega, e2', ?_⟩, keep⟩
        rw [e1]
        rcases hs with ⟨w1, w2⟩ | ⟨w1, w2⟩ | ⟨w1, w2⟩
        · rw [w2, if_pos rfl, w1]
        · rw [w2, if_neg (by decide), if_pos rfl, w1]
        · rw [w2, if_neg (by decide), if_neg (by decide), w1]
    · obtain ⟨e1, e2, e3⟩ := p2 q
      have e2' := e2
      unfold ltr at e2
      have hn : ¬ (c (sp c (ac c i)) = 46 ∨ c (sp c (ac c i)) = 126) := by omega
      have hl : 65 ≤ c i ∧ c i ≤ 74 := by
        by_cases l : 65 ≤ c i ∧ c i ≤ 74
        · exact l
        · exfalso
          apply hb
          unfold stp
          rw [if_neg (by omega), if_neg (by omega), if_neg l]
      have hs : stp (du c i) (c i) = 0 := by
        unfold stp
        rw [if_neg (by omega), if_neg (by omega), if_pos hl]
      have h3 : c (sp c (ac c i) + 1) = 43 ∨ c (sp c (ac c i) + 1) = 45 ∨ c (sp c (ac c i) + 1) = 36 := by
        rw [e3]
        repeat' split
        all_goals omega
      have hw : sp c (ac c i + 1) = i + 1 := by
        rw [sp_s]
        unfold wl
        rw [if_neg hn, if_neg (by omega)]
        omega
      rw [hs, if_pos rfl]
      exact ⟨fun _ => hw, fun h => absurd h (by decide), fun h => absurd h (by decide), add (Or.inr ⟨e2', Or.inr ⟨h3, by rw [e1]; exact hl⟩⟩) hw⟩
/-- where the text goes wrong -/
def fbr (c : Nat → Nat) : Nat → Nat
  | 0 => 0
  | k + 1 => if fbr c k < k then fbr c k else if brk c k = true then k else k + 1
theorem fbr_none : ∀ {k}, (∀ i, i < k → brk c i = false) → fbr c k = k
  | 0, _ => rfl
  | k + 1, h => by
    unfold fbr
    rw [fbr_none (fun i hi => h i (by omega)), if_neg (by omega), if_neg (by rw [h k (by omega)]; decide)]
theorem fbr_some {k : Nat} (h0 : ∀ i, i < k → brk c i = false) (hk : brk c k = true) : ∀ {m}, k < m → fbr c m = k
  | 0, h => absurd h (Nat.not_lt_zero _)
  | m + 1, h => by
    unfold fbr
    by_cases q : k = m
    · subst q
      rw [fbr_none h0, if_neg (by omega), if_pos hk]
    · rw [fbr_some h0 hk (by omega), if_pos (by omega)]
def FV (c : Nat → Nat) (m : Nat) : Int32 := if fbr c m < m then nI (fbr c m) else if du c m = 0 then -nI 6 else nI m
theorem due_v : ∀ d, d ≤ 4 → ∀ h, h < 128 → m_X2_dueAfter 0 (nI (cd d)) (nI h) = some (nI (cd (stp d h))) := by decide +kernel
theorem cd3 : ∀ d, d ≤ 9 → (cd d = 3) = (d = 9) ∧ (d ≤ 4 → (cd d = 0) = (d = 0)) := by
  intro d hd
  rcases (show d = 0 ∨ d = 1 ∨ d = 2 ∨ d = 3 ∨ d = 4 ∨ d = 5 ∨ d = 6 ∨ d = 7 ∨ d = 8 ∨ d = 9 by omega) with rfl | rfl | rfl | rfl | rfl | rfl | rfl | rfl | rfl | rfl <;> simp [cd]
theorem e_signAt {m j : Nat} (hP : P 0 1 = nI m) (hm : m ≤ 60) (hj : j < m) (hc : P 1 j = nI (c j)) : m_X2_signAt n P (nI j) = some (nI (c j)) := by
  unfold m_X2_signAt
  simp (disch := omega) only [litN, nI_add, pk_mul, pk_sub, nI_negR, nI_negL, nI_negE, nI_negLt, nI_negGe, nI_ltE, nI_leE, nI_eqI, nI_clamp, inB_n, gd_tt, bindS, if_true, if_false, reduceIte, leT, leF, ltT, ltF, eqT, eqF, hP, hc]
theorem e_signAtT {m j : Nat} (hP : P 0 1 = nI m) (hm : m ≤ 60) (hj : j < 1000) (hc : ∀ i, i < m → P 1 i = nI (c i)) : ∃ v, m_X2_signAt n P (nI j) = some v := by
  by_cases q : j < m
  · exact ⟨_, e_signAt hP hm q (hc j q)⟩
  · unfold m_X2_signAt
    simp (disch := omega) only [litN, nI_add, pk_mul, pk_sub, nI_negR, nI_negL, nI_negE, nI_negLt, nI_negGe, nI_ltE, nI_leE, nI_eqI, nI_clamp, inB_n, gd_tt, bindS, if_true, if_false, reduceIte, leT, leF, ltT, ltF, eqT, eqF, hP]
    exact ⟨_, rfl⟩
theorem cd_lt (d : Nat) : cd d ≤ 3 := by
  unfold cd
  repeat' split
  all_goals omega
theorem e_firstFault {m : Nat} (h : PDm P S m c) (hn : 100 < n) : m_X2_firstFault n P = some (FV c m) := by
  obtain ⟨hm, hP, hS, hc⟩ := h
  unfold m_X2_firstFault
  refine loop_find (b_X2_firstFault_4 n P) (fun i => (nI (cd (du c i)), nI i)) m (brk c) (fun i => some (nI i)) _ (fun i hi h0 kk => ?_) (fun h0 kk => ?_) (fun i hi h0 hp => ?_) n (by omega)
  · obtain ⟨c1, c2, c3, c4⟩ := hc i hi
    have e1 := e_signAt (n := n) hP hm hi c3
    have hd := du_le h0
    have e2 : m_X2_dueAfter n (nI (cd (du c i))) (nI (c i)) = _ := due_v (du c i) hd (c i) (by omega)
    have hl := cd_lt (stp (du c i) (c i))
    have h9 : stp (du c i) (c i) ≤ 9 := by have := stp_le (du c i) (c i); omega
    unfold b_X2_firstFault_4
    simp (disch := omega) only [litN, nI_add, pk_mul, pk_sub, nI_negR, nI_negL, nI_negE, nI_negLt, nI_negGe, nI_ltE, nI_leE, nI_eqI, nI_clamp, inB_n, gd_tt, bindS, if_true, if_false, reduceIte, leT, leF, ltT, ltF, eqT, eqF, hP, e1, e2, (cd3 _ h9).1]
    unfold brk
    rw [du_s]
    by_cases q : stp (du c i) (c i) = 9
    · rw [if_pos q, if_pos (decide_eq_true q)]
    · rw [if_neg q, if_neg (by rw [decide_eq_false q]; decide)]
  · have hd := du_le h0
    have hl := cd_lt (du c m)
    unfold b_X2_firstFault_4
    simp (disch := omega) only [litN, nI_add, pk_mul, pk_sub, nI_negR, nI_negL, nI_negE, nI_negLt, nI_negGe, nI_ltE, nI_leE, nI_eqI, nI_clamp, inB_n, gd_tt, bindS, if_true, if_false, reduceIte, leT, leF, ltT, ltF, eqT, eqF, hP, (cd3 (du c m) (by omega)).2 hd]
    unfold FV
    rw [fbr_none h0, if_neg (Nat.lt_irrefl m)]
    split <;> rfl
  · show some (nI i) = _
    unfold FV
    rw [fbr_some h0 hp hi, if_pos hi]
/-- what reading the text leaves as it was -/
def RFr (S S' : TI) : Prop := (∀ i, ¬ i = 0 → ¬ i = 12 → ¬ i = 13 → ¬ i = 14 → S' i = S i) ∧ ∀ j, ¬ j = 14 → S' 0 j = S 0 j
theorem e_letter6 {h : Nat} (hh : h < 2 ^ 31) : m_X6_isLetter n (nI h) = some (nI (decide (65 ≤ h ∧ h ≤ 74)).toNat) := by
  unfold m_X6_isLetter
  simp only [litL]
  simp (disch := omega) only [e_in, bindS, gd_z, inr_n]
theorem e_close {q v : Nat} (hq : S 0 14 = nI q) (h : q < 60) : m_X6_close n S L (nI v) = some (nI 0, sf (upA S 12 (upd (S 12) q (nI v))) 14 (nI (q + 1))) := by
  unfold m_X6_close
  simp (disch := omega) only [litN, nI_add, pk_mul, pk_sub, nI_negR, nI_negL, nI_negE, nI_negLt, nI_negGe, nI_ltE, nI_leE, nI_eqI, nI_clamp, inB_n, gd_tt, bindS, if_true, if_false, reduceIte, leT, leF, ltT, ltF, eqT, eqF, hq]
def wl0 (h : Nat) : Nat := if 65 ≤ h ∧ h ≤ 74 then h - 65 else 0
def ro1 (S : TI) (q d h : Nat) : TI := if d = 0 then upA (upA S 13 (upd (S 13) q (nI (wl0 h)))) 14 (upd (S 14) q (nI 0)) else if d = 1 then S else upA S 14 (upd (S 14) q (nI h - nI 65))
def clS (S : TI) (q v : Nat) : TI := sf (upA S 12 (upd (S 12) q (nI v))) 14 (nI (q + 1))
def roS (S : TI) (q d h : Nat) : TI := if stp d h = 0 then clS (ro1 S q d h) q (cde d h) else ro1 S q d h
theorem ro1_0 {q d h : Nat} {i : Nat} (h13 : ¬ i = 13) (h14 : ¬ i = 14) : ro1 S q d h i = S i := by
  unfold ro1
  by_cases d0 : d = 0
  · rw [if_pos d0, upA_n h14, upA_n h13]
  · rw [if_neg d0]
    by_cases d1 : d = 1
    · rw [if_pos d1]
    · rw [if_neg d1, upA_n h14]
theorem e_readOn {q d h : Nat} (hq : S 0 14 = nI q) (hlt : q < 60) (hd : d ≤ 4) (h1 : 33 ≤ h) (h2 : h ≤ 126) : m_X6_readOn n S L (nI d) (nI h) = some (if stp d h = 9 then -nI 6 else nI (stp d h), roS S q d h) := by
  unfold m_X6_readOn
  have el := e_letter6 (n := n) (h := h) (by omega)
  have hq1 : ro1 S q d h 0 14 = nI q := by rw [ro1_0 (by decide) (by decide)]; exact hq
  have cl : ∀ v, m_X6_close n (ro1 S q d h) L (nI v) = some (nI 0, clS (ro1 S q d h) q v) := fun v => e_close (n := n) (L := L) (v := v) hq1 hlt
  rcases (show d = 0 ∨ d = 1 ∨ 2 ≤ d by omega) with rfl | rfl | hd2
  · have r1 : ro1 S q 0 h = upA (upA S 13 (upd (S 13) q (nI (wl0 h)))) 14 (upd (S 14) q (nI 0)) := if_pos rfl
    unfold m_X6_begin roS
    by_cases l : 65 ≤ h ∧ h ≤ 74
    · have hs : stp 0 h = 1 := by unfold stp; rw [if_pos rfl, if_pos l]
      rw [decide_eq_true l] at el
      rw [hs, r1, show wl0 h = h - 65 from if_pos l]
      simp (disch := omega) only [litN, nI_add, pk_mul, pk_sub, nI_negR, nI_negL, nI_negE, nI_negLt, nI_negGe, nI_ltE, nI_leE, nI_eqI, nI_clamp, inB_n, gd_tt, bindS, if_true, if_false, reduceIte, leT, leF, ltT, ltF, eqT, eqF, hq, el, nI_f0, Bool.true_eq_false]
    · rw [decide_eq_false l] at el
      have w0 : wl0 h = 0 := if_neg l
      rw [w0] at r1
      by_cases w1 : h = 46
      · have hs : stp 0 h = 0 := by unfold stp; rw [if_pos rfl, if_neg l, if_pos w1]
        have hcd : cde 0 h = 5 := by unfold cde; rw [if_pos rfl, if_pos w1]
        rw [hs, hcd]
        simp (disch := omega) only [litN, nI_add, pk_mul, pk_sub, nI_negR, nI_negL, nI_negE, nI_negLt, nI_negGe, nI_ltE, nI_leE, nI_eqI, nI_clamp, inB_n, gd_tt, bindS, if_true, if_false, reduceIte, leT, leF, ltT, ltF, eqT, eqF, hq, el, nI_f0, ← r1, cl]
      · by_cases w2 : h = 126
        · have hs : stp 0 h = 0 := by unfold stp; rw [if_pos rfl, if_neg l, if_neg w1, if_pos w2]
          have hcd : cde 0 h = 6 := by unfold cde; rw [if_pos rfl, if_neg w1]
          rw [hs, hcd]
          simp (disch := omega) only [litN, nI_add, pk_mul, pk_sub, nI_negR, nI_negL, nI_negE, nI_negLt, nI_negGe, nI_ltE, nI_leE, nI_eqI, nI_clamp, inB_n, gd_tt, bindS, if_true, if_false, reduceIte, leT, leF, ltT, ltF, eqT, eqF, hq, el, nI_f0, ← r1, cl]
        · have hs : stp 0 h = 9 := by unfold stp; rw [if_pos rfl, if_neg l, if_neg w1, if_neg w2]
          rw [hs, r1]
          simp (disch := omega) only [litN, nI_add, pk_mul, pk_sub, nI_negR, nI_negL, nI_negE, nI_negLt, nI_negGe, nI_ltE, nI_leE, nI_eqI, nI_clamp, inB_n, gd_tt, bindS, if_true, if_false, reduceIte, leT, leF, ltT, ltF, eqT, eqF, hq, el, nI_f0, w1, w2]
  · have r1 : ro1 S q 1 h = S := by unfold ro1; rw [if_neg (by decide), if_pos rfl]
    rw [r1] at cl
    unfold m_X6_deed roS
    rw [r1]
    by_cases w1 : h = 36
    · have hs : stp 1 h = 4 := by unfold stp; rw [if_neg (by decide), if_pos rfl, if_pos w1]
      rw [hs]
      simp (disch := omega) only [litN, nI_add, pk_mul, pk_sub, nI_negR, nI_negL, nI_negE, nI_negLt, nI_negGe, nI_ltE, nI_leE, nI_eqI, nI_clamp, inB_n, gd_tt, bindS, if_true, if_false, reduceIte, leT, leF, ltT, ltF, eqT, eqF, w1]
    by_cases w2 : h = 43
    · have hs : stp 1 h = 2 := by unfold stp; rw [if_neg (by decide), if_pos rfl, if_neg w1, if_pos w2]
      rw [hs]
      simp (disch := omega) only [litN, nI_add, pk_mul, pk_sub, nI_negR, nI_negL, nI_negE, nI_negLt, nI_negGe, nI_ltE, nI_leE, nI_eqI, nI_clamp, inB_n, gd_tt, bindS, if_true, if_false, reduceIte, leT, leF, ltT, ltF, eqT, eqF, w2]
    by_cases w3 : h = 45
    · have hs : stp 1 h = 3 := by unfold stp; rw [if_neg (by decide), if_pos rfl, if_neg w1, if_neg w2, if_pos w3]
      rw [hs]
      simp (disch := omega) only [litN, nI_add, pk_mul, pk_sub, nI_negR, nI_negL, nI_negE, nI_negLt, nI_negGe, nI_ltE, nI_leE, nI_eqI, nI_clamp, inB_n, gd_tt, bindS, if_true, if_false, reduceIte, leT, leF, ltT, ltF, eqT, eqF, w3]
    by_cases w4 : h = 62
    · have hs : stp 1 h = 0 := by unfold stp; rw [if_neg (by decide), if_pos rfl, if_neg w1, if_neg w2, if_neg w3, if_pos w4]
      have hcd : cde 1 h = 4 := by unfold cde; rw [if_neg (by decide), if_pos rfl, if_neg (by omega)]
      rw [hs, hcd]
      simp (disch := omega) only [litN, nI_add, pk_mul, pk_sub, nI_negR, nI_negL, nI_negE, nI_negLt, nI_negGe, nI_ltE, nI_leE, nI_eqI, nI_clamp, inB_n, gd_tt, bindS, if_true, if_false, reduceIte, leT, leF, ltT, ltF, eqT, eqF, cl]
    by_cases w5 : h = 100
    · have hs : stp 1 h = 0 := by unfold stp; rw [if_neg (by decide), if_pos rfl, if_neg w1, if_neg w2, if_neg w3, if_neg w4, if_pos w5]
      have hcd : cde 1 h = 3 := by unfold cde; rw [if_neg (by decide), if_pos rfl, if_pos w5]
      rw [hs, hcd]
      simp (disch := omega) only [litN, nI_add, pk_mul, pk_sub, nI_negR, nI_negL, nI_negE, nI_negLt, nI_negGe, nI_ltE, nI_leE, nI_eqI, nI_clamp, inB_n, gd_tt, bindS, if_true, if_false, reduceIte, leT, leF, ltT, ltF, eqT, eqF, cl]
    · have hs : stp 1 h = 9 := by unfold stp; rw [if_neg (by decide), if_pos rfl, if_neg w1, if_neg w2, if_neg w3, if_neg w4, if_neg w5]
      rw [hs]
      simp (disch := omega) only [litN, nI_add, pk_mul, pk_sub, nI_negR, nI_negL, nI_negE, nI_negLt, nI_negGe, nI_ltE, nI_leE, nI_eqI, nI_clamp, inB_n, gd_tt, bindS, if_true, if_false, reduceIte, leT, leF, ltT, ltF, eqT, eqF]
  · have hd0 : ¬ d = 0 := by omega
    have hd1 : ¬ d = 1 := by omega
    have r1 : ro1 S q d h = upA S 14 (upd (S 14) q (nI h - nI 65)) := by unfold ro1; rw [if_neg hd0, if_neg hd1]
    unfold roS
    by_cases l : 65 ≤ h ∧ h ≤ 74
    · have hs : stp d h = 0 := by unfold stp; rw [if_neg hd0, if_neg hd1, if_pos l]
      rw [decide_eq_true l] at el
      have hcd : cde d h = d - 2 := by unfold cde; rw [if_neg hd0, if_neg hd1]
      rw [hs, hcd]
      rw [r1] at cl ⊢
      rcases (show d = 2 ∨ d = 3 ∨ d = 4 by omega) with rfl | rfl | rfl
      all_goals
        simp (disch := omega) only [litN, nI_eqI, hq, el, nI_f0, Bool.true_eq_false, cl, bindS, if_true, if_false, eqT, eqF, nI_clamp, inB_n, gd_tt]
    · have hs : stp d h = 9 := by unfold stp; rw [if_neg hd0, if_neg hd1, if_neg l]
      rw [decide_eq_false l] at el
      rw [hs, r1]
      simp (disch := omega) only [litN, nI_eqI, hq, el, nI_f0, bindS, if_true, if_false, eqT, eqF, nI_clamp, inB_n, gd_tt]
theorem ro_fr (S : TI) (q d h : Nat) : RFr S (roS S q d h) := by
  unfold roS
  split
  · unfold clS
    exact ⟨fun i i1 i2 i3 i4 => by rw [sf_r i1, upA_n i2, ro1_0 i3 i4], fun j j1 => by rw [sf_n j1, upA_n (by decide), ro1_0 (by decide) (by decide)]⟩
  · exact ⟨fun i i1 i2 i3 i4 => by rw [ro1_0 i3 i4], fun j j1 => by rw [ro1_0 (by decide) (by decide)]⟩
theorem ro_14 {q d h : Nat} (hq : S 0 14 = nI q) : roS S q d h 0 14 = nI (q + if stp d h = 0 then 1 else 0) := by
  unfold roS
  by_cases w : stp d h = 0
  · rw [if_pos w, if_pos w]
    exact sf_s
  · rw [if_neg w, if_neg w, ro1_0 (by decide) (by decide), Nat.add_zero, hq]
theorem ro_ne {q d h k : Nat} (hk : ¬ k = q) : roS S q d h 12 k = S 12 k ∧ roS S q d h 13 k = S 13 k ∧ roS S q d h 14 k = S 14 k := by
  have b12 : ro1 S q d h 12 k = S 12 k := by rw [ro1_0 (by decide) (by decide)]
  have b13 : ro1 S q d h 13 k = S 13 k := by
    unfold ro1
    split
    · rw [upA_n (by decide), upA_s, pk_un hk]
    · split
      · rfl
      · rw [upA_n (by decide)]
  have b14 : ro1 S q d h 14 k = S 14 k := by
    unfold ro1
    split
    · rw [upA_s, pk_un hk]
    · split
      · rfl
      · rw [upA_s, pk_un hk]
  unfold roS clS
  split
  · exact ⟨by rw [sf_r (by decide), upA_s, pk_un hk, b12], by rw [sf_r (by decide), upA_n (by decide), b13], by rw [sf_r (by decide), upA_n (by decide), b14]⟩
  · exact ⟨b12, b13, b14⟩
theorem ro_1x {q d h : Nat} : roS S q d h 13 = ro1 S q d h 13 ∧ roS S q d h 14 = ro1 S q d h 14 := by
  unfold roS clS
  split
  · exact ⟨by rw [sf_r (by decide), upA_n (by decide)], by rw [sf_r (by decide), upA_n (by decide)]⟩
  · exact ⟨rfl, rfl⟩
theorem ro_12 {q d h : Nat} (hs : stp d h = 0) : roS S q d h 12 q = nI (cde d h) := by
  unfold roS clS
  rw [if_pos hs, sf_r (by decide), upA_s, pk_us]
theorem ro_d0 {q h : Nat} : roS S q 0 h 13 q = nI (wl0 h) ∧ roS S q 0 h 14 q = nI 0 := by
  have r1 : ro1 S q 0 h = upA (upA S 13 (upd (S 13) q (nI (wl0 h)))) 14 (upd (S 14) q (nI 0)) := if_pos rfl
  rw [ro_1x.1, ro_1x.2, r1]
  exact ⟨by rw [upA_n (by decide), upA_s, pk_us], by rw [upA_s, pk_us]⟩
theorem ro_d1 {q h : Nat} : roS S q 1 h 13 q = S 13 q ∧ roS S q 1 h 14 q = S 14 q := by
  have r1 : ro1 S q 1 h = S := by unfold ro1; rw [if_neg (by decide), if_pos rfl]
  rw [ro_1x.1, ro_1x.2, r1]
  exact ⟨rfl, rfl⟩
theorem ro_d2 {q d h : Nat} (hd : 2 ≤ d) : roS S q d h 13 q = S 13 q ∧ (stp d h = 0 → roS S q d h 14 q = nI (h - 65)) := by
  have r1 : ro1 S q d h = upA S 14 (upd (S 14) q (nI h - nI 65)) := by unfold ro1; rw [if_neg (by omega), if_neg (by omega)]
  rw [ro_1x.1, ro_1x.2, r1]
  refine ⟨by rw [upA_n (by decide)], fun hs => ?_⟩
  rw [upA_s, pk_us]
  unfold stp at hs
  rw [if_neg (by omega), if_neg (by omega)] at hs
  by_cases l : 65 ≤ h ∧ h ≤ 74
  · exact pk_sub l.1
  · rw [if_neg l] at hs
    cases hs
