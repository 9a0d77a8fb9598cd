/-! FAULT of the model; what it keeps and gives back -/
variable {n : Nat} {X T I J P C V F S S' : TI} {A L : TL} {a : AT} {c : Nat → Nat}
theorem RFr.trans {S₁ S₂ S₃ : TI} (h : RFr S₁ S₂) (g : RFr S₂ S₃) : RFr S₁ S₃ := ⟨fun i i1 i2 i3 i4 => (g.1 i i1 i2 i3 i4).trans (h.1 i i1 i2 i3 i4), fun j j1 => (g.2 j j1).trans (h.2 j j1)⟩
theorem RFr.rfl : RFr S S := ⟨fun _ _ _ _ _ => Eq.refl _, fun _ _ => Eq.refl _⟩
theorem RFr.fq (h : RFr S S') : FQ S S' := ⟨⟨⟨⟨h.2 10 (by decide), h.1 10 (by decide) (by decide) (by decide) (by decide)⟩, h.1 29 (by decide) (by decide) (by decide) (by decide), h.1 30 (by decide) (by decide) (by decide) (by decide)⟩, h.2 8 (by decide), h.1 6 (by decide) (by decide) (by decide) (by decide), h.1 7 (by decide) (by decide) (by decide) (by decide), h.1 8 (by decide) (by decide) (by decide) (by decide)⟩, ⟨h.2 0 (by decide), h.2 1 (by decide), h.2 2 (by decide)⟩, h.1 4 (by decide) (by decide) (by decide) (by decide), h.1 5 (by decide) (by decide) (by decide) (by decide)⟩
/-- the acts that were read stand in the model's rows -/
def ACT (S : TI) (c : Nat → Nat) (M : Nat) : Prop := S 0 14 = nI M ∧ ∀ k, k < M → S 12 k = nI (cd6 c (sp c k)) ∧ S 13 k = nI (wx c (sp c k)) ∧ S 14 k = nI (wy c (sp c k))
def PRG (S : TI) (c : Nat → Nat) (i : Nat) : Prop := (1 ≤ du c i → S 13 (ac c i) = nI (wx c (sp c (ac c i)))) ∧ (du c i = 1 → S 14 (ac c i) = nI 0)
theorem cd6_nob {p : Nat} (h : c p = 46 ∨ c p = 126) (hs : stp 0 (c p) = 0) : cde 0 (c p) = cd6 c p := by
  unfold cde cd6
  rw [if_pos rfl]
  rcases h with q | q
  · rw [if_pos q, if_pos q]
  · rw [if_neg (by omega), if_neg (by omega), if_pos q]
theorem act_step {i : Nat} (h0 : ∀ j, j < i → brk c j = false) (hb : ¬ stp (du c i) (c i) = 9) (hA : ACT S c (ac c i)) (hG : PRG S c i) : ACT (roS S (ac c i) (du c i) (c i)) c (ac c (i + 1)) ∧ PRG (roS S (ac c i) (du c i) (c i)) c (i + 1) := by
  obtain ⟨p0, p1, p2, p3⟩ := piv i h0
  have hd := du_le h0
  obtain ⟨a1, a2⟩ := hA
  obtain ⟨g1, g2⟩ := hG
  have h14 := ro_14 (d := du c i) (h := c i) a1
  have old : ∀ k, k < ac c i → roS S (ac c i) (du c i) (c i) 12 k = nI (cd6 c (sp c k)) ∧ roS S (ac c i) (du c i) (c i) 13 k = nI (wx c (sp c k)) ∧ roS S (ac c i) (du c i) (c i) 14 k = nI (wy c (sp c k)) := fun k hk => by
    obtain ⟨r1, r2, r3⟩ := ro_ne (S := S) (q := ac c i) (d := du c i) (h := c i) (k := k) (by omega)
    rw [r1, r2, r3]
    exact a2 k hk
  have nx : (roS S (ac c i) (du c i) (c i) 12 (ac c i) = nI (cd6 c (sp c (ac c i))) ∧ roS S (ac c i) (du c i) (c i) 13 (ac c i) = nI (wx c (sp c (ac c i))) ∧ roS S (ac c i) (du c i) (c i) 14 (ac c i) = nI (wy c (sp c (ac c i)))) → stp (du c i) (c i) = 0 → ACT (roS S (ac c i) (du c i) (c i)) c (ac c (i + 1)) ∧ PRG (roS S (ac c i) (du c i) (c i)) c (i + 1) := fun hn hs => by
    rw [hs, if_pos rfl] at h14
    unfold PRG
    rw [ac_s, du_s, hs, if_pos rfl]
    refine ⟨⟨h14, fun k hk => ?_⟩, fun w => absurd w (by decide), fun w => absurd w (by decide)⟩
    rcases Nat.lt_succ_iff_lt_or_eq.mp hk with q | q
    · exact old k q
    · subst q; exact hn
  have st : ¬ stp (du c i) (c i) = 0 → roS S (ac c i) (du c i) (c i) 13 (ac c i) = nI (wx c (sp c (ac c i))) → (stp (du c i) (c i) = 1 → roS S (ac c i) (du c i) (c i) 14 (ac c i) = nI 0) → ACT (roS S (ac c i) (du c i) (c i)) c (ac c (i + 1)) ∧ PRG (roS S (ac c i) (du c i) (c i)) c (i + 1) := fun hs q1 q2 => by
    rw [if_neg hs, Nat.add_zero] at h14
    unfold PRG
    rw [ac_s, du_s, if_neg hs, Nat.add_zero]
    exact ⟨⟨h14, old⟩, fun _ => q1, q2⟩
  rcases (show du c i = 0 ∨ du c i = 1 ∨ 2 ≤ du c i by omega) with q | q | q
  · have e0 := p0 q
    rw [q] at hb st nx ⊢
    obtain ⟨r1, r2⟩ := ro_d0 (S := S) (q := ac c i) (h := c i)
    have r1' : roS S (ac c i) 0 (c i) 13 (ac c i) = nI (wx c (sp c (ac c i))) := by rw [r1, e0]; rfl
    by_cases hs : stp 0 (c i) = 0
    · refine nx ⟨?_, r1', ?_⟩ hs
      · have hnob : c i = 46 ∨ c i = 126 := by
          unfold stp at hs
          rw [if_pos rfl] at hs
          by_cases l : 65 ≤ c i ∧ c i ≤ 74
          · rw [if_pos l] at hs; cases hs
          · rw [if_neg l] at hs
            by_cases w1 : c i = 46
            · exact Or.inl w1
            · rw [if_neg w1] at hs
              by_cases w2 : c i = 126
              · exact Or.inr w2
              · rw [if_neg w2] at hs; cases hs
        rw [ro_12 hs, cd6_nob hnob hs, e0]
      · rw [r2, e0]
        have hnob : ¬ (65 ≤ c i ∧ c i ≤ 74) := fun l => by
          unfold stp at hs
          rw [if_pos rfl, if_pos l] at hs; cases hs
        unfold wy
        have h5 : ¬ cd6 c i < 3 := by
          unfold cd6
          unfold stp at hs
          rw [if_pos rfl, if_neg hnob] at hs
          by_cases w1 : c i = 46
          · rw [if_pos w1]; decide
          · rw [if_neg w1] at hs ⊢
            by_cases w2 : c i = 126
            · rw [if_pos w2]; decide
            · rw [if_neg w2] at hs; cases hs
        rw [if_neg h5]
    · exact st hs r1' (fun _ => r2)
  · obtain ⟨e1, e2⟩ := p1 q
    unfold ltr at e2
    have g1' := g1 (by omega)
    have g2' := g2 q
    rw [q] at hb st nx ⊢
    obtain ⟨r1, r2⟩ := ro_d1 (S := S) (q := ac c i) (h := c i)
    by_cases hs : stp 1 (c i) = 0
    · have hk : (c i = 62 ∨ c i = 100) := by
        unfold stp at hs
        rw [if_neg (by decide), if_pos rfl] at hs
        by_cases w1 : c i = 36
        · rw [if_pos w1] at hs; cases hs
        rw [if_neg w1] at hs
        by_cases w2 : c i = 43
        · rw [if_pos w2] at hs; cases hs
        rw [if_neg w2] at hs
        by_cases w3 : c i = 45
        · rw [if_pos w3] at hs; cases hs
        rw [if_neg w3] at hs
        by_cases w4 : c i = 62
        · exact Or.inl w4
        rw [if_neg w4] at hs
        by_cases w5 : c i = 100
        · exact Or.inr w5
        rw [if_neg w5] at hs; cases hs
      have hcd : cd6 c (sp c (ac c i)) = cde 1 (c i) := by
        unfold cd6 cde
        rw [if_neg (by omega), if_neg (by omega), e1, if_neg (show ¬ 1 = 0 by decide), if_pos (show 1 = 1 from rfl)]
        rcases hk with w | w
        · rw [if_neg (by omega), if_pos w, if_neg (by omega)]
        · rw [if_pos w, if_pos w]
      refine nx ⟨?_, by rw [r1, g1'], ?_⟩ hs
      · rw [ro_12 hs, hcd]
      · rw [r2, g2']
        unfold wy
        rw [hcd, if_neg]
        unfold cde
        rw [if_neg (by decide), if_pos rfl]
        split <;> decide
    · exact st hs (by rw [r1, g1']) (fun _ => by rw [r2, g2'])
  · obtain ⟨e1, e2, e3⟩ := p2 q
    unfold ltr at e2
    have g1' := g1 (by omega)
    obtain ⟨r1, r2⟩ := ro_d2 (S := S) (q := ac c i) (d := du c i) (h := c i) q
    have hs : stp (du c i) (c i) = 0 := by
      unfold stp at hb ⊢
      rw [if_neg (by omega), if_neg (by omega)] at hb ⊢
      by_cases l : 65 ≤ c i ∧ c i ≤ 74
      · rw [if_pos l]
      · rw [if_neg l] at hb
        exact absurd rfl hb
    have hcd : cd6 c (sp c (ac c i)) = du c i - 2 := by
      unfold cd6
      rw [if_neg (by omega), if_neg (by omega), e3]
      rcases (show du c i = 2 ∨ du c i = 3 ∨ du c i = 4 by omega) with w | w | w <;> rw [w] <;> rfl
    refine nx ⟨?_, by rw [r1, g1'], ?_⟩ hs
    · rw [ro_12 hs, hcd]
      unfold cde
      rw [if_neg (by omega), if_neg (by omega)]
    · rw [r2 hs]
      unfold wy
      rw [hcd, if_pos (by omega), e1]
theorem e_fault {m : Nat} (h : PDm P S m c) (hn : 100 < n) : ∃ S', m_X6_fault n S L = some (FV c m, S') ∧ RFr S S' ∧ (FV c m = -nI 6 → ACT S' c (ac c m)) := by
  obtain ⟨hm, hP, hS, hc⟩ := h
  unfold m_X6_fault
  refine loop_inv (b_X6_fault_9 n L) (fun i s => s.1 = nI (du c i) ∧ s.2.1 = nI i ∧ RFr S s.2.2 ∧ ACT s.2.2 c (ac c i) ∧ PRG s.2.2 c i ∧ ∀ j, j < i → brk c j = false) m (fun o => ∃ S', o = some (FV c m, S') ∧ RFr S S' ∧ (FV c m = -nI 6 → ACT S' c (ac c m))) (fun i hi s hs kk => ?_) (fun s hs kk => ?_) _ n ⟨rfl, rfl, ⟨fun i i1 _ _ _ => by dsimp only; rw [sf_r i1], fun j j1 => by dsimp only; rw [sf_n j1]⟩, ⟨by dsimp only; rw [sf_s]; rfl, fun k hk => absurd hk (Nat.not_lt_zero _)⟩, ⟨fun w => absurd w (show ¬ 1 ≤ 0 by decide), fun w => absurd w (show ¬ 0 = 1 by decide)⟩, fun j hj => absurd hj (Nat.not_lt_zero _)⟩ (by omega)
  · obtain ⟨h1, h2, h3, h4, h5, h0⟩ := hs
    obtain ⟨c1, c2, c3, c4⟩ := hc i hi
    have hd := du_le h0
    have hal := ac_le c i
    have hp10 : s.2.2 0 10 = nI m := by rw [h3.2 10 (by decide), hS]
    have hch : s.2.2 10 i = nI (c i) := by rw [h3.1 10 (by decide) (by decide) (by decide) (by decide), c4]
    have e1 := e_readOn (n := n) (L := L) (S := s.2.2) (q := ac c i) (d := du c i) (h := c i) h4.1 (by omega) hd c1 c2
    by_cases hb : stp (du c i) (c i) = 9
    · right
      have hbk : brk c i = true := decide_eq_true hb
      have hF : FV c m = nI i := by
        unfold FV
        rw [fbr_some h0 hbk hi, if_pos hi]
      rw [if_pos hb] at e1
      refine ⟨_, rfl, roS s.2.2 (ac c i) (du c i) (c i), ?_, h3.trans (ro_fr _ _ _ _), fun w => ?_⟩
      · unfold b_X6_fault_9
        simp (disch := omega) only [litN, nI_add, pk_mul, pk_sub, nI_negR, nI_negL, nI_negE, nI_negLt, nI_negGe, nI_ltE, nI_leE, nI_eqI, nI_clamp, inB_n, gd_tt, bindS, if_true, if_false, reduceIte, leT, leF, ltT, ltF, eqT, eqF, h1, h2, hp10, hch, e1, hF]
      · rw [hF, nI_negR (by omega) (by omega) (by omega)] at w
        exact w.elim
    · left
      rw [if_neg hb] at e1
      have hst := stp_le (du c i) (c i)
      obtain ⟨k1, k2⟩ := act_step h0 hb h4 h5
      refine ⟨(nI (du c (i + 1)), nI (i + 1), roS s.2.2 (ac c i) (du c i) (c i)), ?_, rfl, rfl, h3.trans (ro_fr _ _ _ _), k1, k2, fun j hj => ?_⟩
      · unfold b_X6_fault_9
        simp (disch := omega) only [litN, nI_add, pk_mul, pk_sub, nI_negR, nI_negL, nI_negE, nI_negLt, nI_negGe, nI_ltE, nI_leE, nI_eqI, nI_clamp, inB_n, gd_tt, bindS, if_true, if_false, reduceIte, leT, leF, ltT, ltF, eqT, eqF, h1, h2, hp10, hch, e1]
        rfl
      · rcases Nat.lt_succ_iff_lt_or_eq.mp hj with w | w
        · exact h0 j w
        · subst w; exact decide_eq_false hb
  · obtain ⟨h1, h2, h3, h4, h5, h0⟩ := hs
    have hd := du_le h0
    have hp10 : s.2.2 0 10 = nI m := by rw [h3.2 10 (by decide), hS]
    refine ⟨s.2.2, ?_, h3, fun _ => h4⟩
    unfold b_X6_fault_9
    simp (disch := omega) only [litN, nI_add, pk_mul, pk_sub, nI_negR, nI_negL, nI_negE, nI_negLt, nI_negGe, nI_ltE, nI_leE, nI_eqI, nI_clamp, inB_n, gd_tt, bindS, if_true, if_false, reduceIte, leT, leF, ltT, ltF, eqT, eqF, h1, h2, hp10]
    unfold FV
    rw [fbr_none h0, if_neg (Nat.lt_irrefl m)]
    split <;> rfl
theorem t_fault (g : INV X T I J P S) (hn : 1100 < n) : ∃ v S', m_X5_fault n X T I J P C V F A = some v ∧ m_X6_fault n S L = some (v, S') ∧ INV X T I J P S' := by
  obtain ⟨m, c, hp⟩ := g.2.1
  obtain ⟨S', e1, e2, -⟩ := e_fault (n := n) (L := L) hp (by omega)
  unfold m_X5_fault
  rw [e_firstFault (n := n) hp (by omega), bindS]
  exact ⟨_, S', rfl, e1, e2.fq.inv g⟩
/-- people and ties are kept -/
def HAD (S : TI) (a : AT) : Prop := (∀ e, e < 100 → S 19 e = nI (a 1 e) ∧ S 19 (100 + e) = nI (a 2 e)) ∧ S 19 200 = nI (a 0 0) ∧ S 19 201 = nI (a 0 1) ∧ S 19 202 = nI (a 0 2)
def R19 (S S' : TI) : Prop := ∀ i, ¬ i = 19 → S' i = S i
theorem R19.fq (h : R19 S S') : FQ S S' := ⟨⟨⟨⟨by rw [h 0 (by decide)], h 10 (by decide)⟩, h 29 (by decide), h 30 (by decide)⟩, by rw [h 0 (by decide)], h 6 (by decide), h 7 (by decide), h 8 (by decide)⟩, ⟨by rw [h 0 (by decide)], by rw [h 0 (by decide)], by rw [h 0 (by decide)]⟩, h 4 (by decide), h 5 (by decide)⟩
theorem e_keepNow (h : RS S a) (hn : 200 < n) : ∃ S', m_X6_keepNow n S L = some S' ∧ R19 S S' ∧ HAD S' a := by
  unfold m_X6_keepNow
  refine loop_inv (b_X6_keepNow_2 n) (fun k s => s.1 = nI k ∧ R19 S s.2 ∧ ∀ e, e < k → s.2 19 e = nI (a 1 e) ∧ s.2 19 (100 + e) = nI (a 2 e)) 100 (fun o => ∃ S', o = some S' ∧ R19 S S' ∧ HAD S' a) (fun k hk s hs kk => ?_) (fun s hs kk => ?_) _ n ⟨rfl, fun i _ => rfl, fun e he => absurd he (Nat.not_lt_zero _)⟩ (by omega)
  · left
    obtain ⟨h1, h2, h3⟩ := hs
    have r4 : s.2 4 k = nI (a 1 k) := by rw [h2 4 (by decide), h.r4 hk]
    have r5 : s.2 5 k = nI (a 2 k) := by rw [h2 5 (by decide), h.r5 hk]
    refine ⟨(nI (k + 1), upA s.2 19 (upd (upd (s.2 19) k (nI (a 1 k))) (100 + k) (nI (a 2 k)))), ?_, rfl, fun i hi => ?_, fun e he => ⟨?_, ?_⟩⟩
    · unfold b_X6_keepNow_2
      simp (disch := omega) only [litN, nI_add, pk_mul, pk_sub, nI_negR, nI_negL, nI_negE, nI_negLt, nI_negGe, nI_ltE, nI_leE, nI_eqI, nI_clamp, inB_n, gd_tt, bindS, if_true, if_false, reduceIte, leT, leF, ltT, ltF, eqT, eqF, h1, r4, r5]
    · dsimp only
      rw [upA_n hi]
      exact h2 i hi
    · dsimp only
      rw [upA_s, pk_un (by omega), upd_v]
      by_cases q : e = k
      · rw [if_pos q, q]
      · rw [if_neg q]
        exact (h3 e (by omega)).1
    · dsimp only
      rw [upA_s, upd_v]
      by_cases q : e = k
      · rw [if_pos (by omega), q]
      · rw [if_neg (by omega), pk_un (by omega)]
        exact (h3 e (by omega)).2
  · obtain ⟨h1, h2, h3⟩ := hs
    have z0 : s.2 0 0 = nI (a 0 0) := by rw [h2 0 (by decide), h.h0]
    have z1 : s.2 0 1 = nI (a 0 1) := by rw [h2 0 (by decide), h.h1]
    have z2 : s.2 0 2 = nI (a 0 2) := by rw [h2 0 (by decide), h.h2]
    unfold b_X6_keepNow_2
    simp (disch := omega) only [litN, nI_add, pk_mul, pk_sub, nI_negR, nI_negL, nI_negE, nI_negLt, nI_negGe, nI_ltE, nI_leE, nI_eqI, nI_clamp, inB_n, gd_tt, bindS, if_true, if_false, reduceIte, leT, leF, ltT, ltF, eqT, eqF, h1, z0, z1, z2]
    refine ⟨_, rfl, fun i hi => ?_, fun e he => ⟨?_, ?_⟩, ?_, ?_, ?_⟩
    · rw [upA_n hi]
      exact h2 i hi
    · rw [upA_s, pk_un (by omega), pk_un (by omega), pk_un (by omega)]
      exact (h3 e he).1
    · rw [upA_s, pk_un (by omega), pk_un (by omega), pk_un (by omega)]
      exact (h3 e he).2
    · rw [upA_s, pk_un (by omega), pk_un (by omega), pk_us]
    · rw [upA_s, pk_un (by omega), pk_us]
    · rw [upA_s, pk_us]
theorem e_back {b : AT} (h : RS S b) (hH : HAD S a) (h3 : b 3 = a 3) (h4 : b 4 = a 4) (h03 : b 0 3 = a 0 3) (h04 : b 0 4 = a 0 4) (v : Int32) (hn : 200 < n) : ∃ S', m_X6_back n S L v = some (v, S') ∧ RS S' a ∧ FR S S' ∧ ∀ j, ¬ j = 0 → ¬ j = 1 → ¬ j = 2 → S' 0 j = S 0 j := by
  unfold m_X6_back
  obtain ⟨k1, k2, k3, k4⟩ := hH
  refine loop_inv (b_X6_back_2 n v) (fun k s => s.1 = nI k ∧ (∀ i, ¬ i = 4 → ¬ i = 5 → s.2 i = S i) ∧ ∀ e, e < k → s.2 4 e = nI (a 1 e) ∧ s.2 5 e = nI (a 2 e)) 100 (fun o => ∃ S', o = some (v, S') ∧ RS S' a ∧ FR S S' ∧ ∀ j, ¬ j = 0 → ¬ j = 1 → ¬ j = 2 → S' 0 j = S 0 j) (fun k hk s hs kk => ?_) (fun s hs kk => ?_) _ n ⟨rfl, fun i _ _ => rfl, fun e he => absurd he (Nat.not_lt_zero _)⟩ (by omega)
  · left
    obtain ⟨h1, h2, h3'⟩ := hs
    have r4 : s.2 19 k = nI (a 1 k) := by rw [h2 19 (by decide) (by decide), (k1 k hk).1]
    have r5 : s.2 19 (100 + k) = nI (a 2 k) := by rw [h2 19 (by decide) (by decide), (k1 k hk).2]
    refine ⟨(nI (k + 1), upA (upA s.2 4 (upd (s.2 4) k (nI (a 1 k)))) 5 (upd (s.2 5) k (nI (a 2 k)))), ?_, rfl, fun i i1 i2 => ?_, fun e he => ⟨?_, ?_⟩⟩
    · unfold b_X6_back_2
      simp (disch := omega) only [litN, nI_add, pk_mul, pk_sub, nI_negR, nI_negL, nI_negE, nI_negLt, nI_negGe, nI_ltE, nI_leE, nI_eqI, nI_clamp, inB_n, gd_tt, bindS, if_true, if_false, reduceIte, leT, leF, ltT, ltF, eqT, eqF, h1, r4, r5]
    · dsimp only
      rw [upA_n i2, upA_n i1]
      exact h2 i i1 i2
    · dsimp only
      rw [upA_n (by decide), upA_s, upd_v]
      by_cases q : e = k
      · rw [if_pos q, q]
      · rw [if_neg q]
        exact (h3' e (by omega)).1
    · dsimp only
      rw [upA_s, upd_v]
      by_cases q : e = k
      · rw [if_pos q, q]
      · rw [if_neg q]
        exact (h3' e (by omega)).2
  · obtain ⟨h1, h2, h3'⟩ := hs
    have z0 : s.2 19 200 = nI (a 0 0) := by rw [h2 19 (by decide) (by decide), k2]
    have z1 : s.2 19 201 = nI (a 0 1) := by rw [h2 19 (by decide) (by decide), k3]
    have z2 : s.2 19 202 = nI (a 0 2) := by rw [h2 19 (by decide) (by decide), k4]
    unfold b_X6_back_2
    simp (disch := omega) only [litN, nI_add, pk_mul, pk_sub, nI_negR, nI_negL, nI_negE, nI_negLt, nI_negGe, nI_ltE, nI_leE, nI_eqI, nI_clamp, inB_n, gd_tt, bindS, if_true, if_false, reduceIte, leT, leF, ltT, ltF, eqT, eqF, h1, z0, z1, z2]
    refine ⟨_, rfl, ⟨⟨?_, ?_, ?_, ?_⟩, fun j hj => ?_, fun j hj => ?_, fun j hj => ?_, fun j hj => ?_, fun j hj => ?_⟩, ⟨⟨⟨?_, ?_⟩, ?_, ?_⟩, ?_, ?_, ?_, ?_⟩, fun j j1 j2 j3 => ?_⟩ <;> simp (disch := omega) only [sf_s, sf_n, sf_r, h2]
    · rw [h.h3, h03]
    · exact (h3' j hj).1
    · exact (h3' j hj).2
    · rw [h.r6 hj, h3]
    · rw [h.r7 (by rw [h03]; exact hj), h4]
    · rw [h.r8 (by rw [h03]; exact hj), h04]
