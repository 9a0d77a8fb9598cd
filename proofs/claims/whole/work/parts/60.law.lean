/-! THE LAW: call after call -/
variable {n : Nat} {X T I J P C V F S : TI} {A Z : TL}
theorem lg_same (v : Int64) : lg_cmp v v = nI 0 := (lg_cmp_eq v v).mpr rfl
theorem law_step {L k : Nat} {xs : Nat → Int32} (hk : 5 * k + 5 ≤ L) (hL : L ≤ 2560) (hn : 1100 < n) (g : INV X T I J P S) (kk : Int32 × TI × TI × TI × TI × TI × TI × TI × TI × TL × TI × TL → Option Unit) : ∃ X' T' I' J' P' C' V' F' A' S' Z', b_L_law_18 n L xs (nI (5 * k), X, T, I, J, P, C, V, F, A, S, Z) kk = kk (nI (5 * (k + 1)), X', T', I', J', P', C', V', F', A', S', Z') ∧ INV X' T' I' J' P' S' := by
  unfold b_L_law_18
  have hlt : ¬ (Int32.ofNat L - nI 5 < nI (5 * k)) := by
    rw [show Int32.ofNat L = nI L from rfl, pk_sub (by omega), nI_ltE (by omega) (by omega)]
    omega
  have hb0 : inB (nI (5 * k)) L = true := inB_n (by omega) (by omega)
  have hb1 : inB (nI (5 * k + 1)) L = true := inB_n (by omega) (by omega)
  have hb2 : inB (nI (5 * k + 2)) L = true := inB_n (by omega) (by omega)
  have hb3 : inB (nI (5 * k + 3)) L = true := inB_n (by omega) (by omega)
  have hb4 : inB (nI (5 * k + 4)) L = true := inB_n (by omega) (by omega)
  have hc0 : (nI (5 * k)).toNatClampNeg = 5 * k := nI_clamp (by omega)
  have hc1 : (nI (5 * k + 1)).toNatClampNeg = 5 * k + 1 := nI_clamp (by omega)
  have hc2 : (nI (5 * k + 2)).toNatClampNeg = 5 * k + 2 := nI_clamp (by omega)
  have hc3 : (nI (5 * k + 3)).toNatClampNeg = 5 * k + 3 := nI_clamp (by omega)
  have hc4 : (nI (5 * k + 4)).toNatClampNeg = 5 * k + 4 := nI_clamp (by omega)
  have h5 : 5 * k + 5 = 5 * (k + 1) := by omega
  simp only [litN, hlt, if_false, nI_add, hb0, hb1, hb2, hb3, hb4, hc0, hc1, hc2, hc3, hc4, gd_tt, h5]
  by_cases o0 : xs (5 * k) &&& nI 31 = nI 0
  · simp only [o0, if_true]
    obtain ⟨v, T2, S2, h1, h2, h3⟩ := t_tie (n := n) (C := C) (V := V) (F := F) (A := A) (L := Z) g (xs (5 * k + 1)) (xs (5 * k + 2)) (xs (5 * k + 3)) (xs (5 * k + 4))
    simp only [h1, h2, bindS, if_true]
    exact ⟨_, _, _, _, _, _, _, _, _, _, _, rfl, h3⟩
  simp only [o0, if_false]
  by_cases o1 : xs (5 * k) &&& nI 31 = nI 1
  · simp only [o1, if_true]
    obtain ⟨v, T2, S2, h1, h2, h3⟩ := t_one (n := n) (C := C) (V := V) (F := F) (A := A) (L := Z) g (by omega) (xs (5 * k + 1)) (xs (5 * k + 2)) (xs (5 * k + 3))
    simp only [h1, h2, bindS, if_true]
    exact ⟨_, _, _, _, _, _, _, _, _, _, _, rfl, h3⟩
  simp only [o1, if_false]
  by_cases o2 : xs (5 * k) &&& nI 31 = nI 2
  · simp only [o2, if_true]
    obtain ⟨v, T2, S2, h1, h2, h3⟩ := t_law (n := n) (C := C) (V := V) (F := F) (A := A) (L := Z) g (xs (5 * k + 1)) (xs (5 * k + 2))
    simp only [h1, h2, bindS, if_true]
    exact ⟨_, _, _, _, _, _, _, _, _, _, _, rfl, h3⟩
  simp only [o2, if_false]
  by_cases o3 : xs (5 * k) &&& nI 31 = nI 3
  · simp only [o3, if_true]
    obtain ⟨v, P2, S2, h1, h2, h3⟩ := t_say (n := n) (C := C) (V := V) (F := F) (A := A) (L := Z) g (xs (5 * k + 1))
    simp only [h1, h2, bindS, if_true]
    exact ⟨_, _, _, _, _, _, _, _, _, _, _, rfl, h3⟩
  simp only [o3, if_false]
  by_cases o4 : xs (5 * k) &&& nI 31 = nI 4
  · simp only [o4, if_true]
    obtain ⟨v, P2, S2, h1, h2, h3⟩ := t_wipe (n := n) (C := C) (V := V) (F := F) (A := A) (L := Z) g 
    simp only [h1, h2, bindS, if_true]
    exact ⟨_, _, _, _, _, _, _, _, _, _, _, rfl, h3⟩
  simp only [o4, if_false]
  by_cases o5 : xs (5 * k) &&& nI 31 = nI 5
  · simp only [o5, if_true]
    obtain ⟨v, S2, h1, h2, h3⟩ := t_fault (n := n) (C := C) (V := V) (F := F) (A := A) (L := Z) g (by omega) 
    simp only [h1, h2, bindS, if_true]
    exact ⟨_, _, _, _, _, _, _, _, _, _, _, rfl, h3⟩
  simp only [o5, if_false]
  by_cases o6 : xs (5 * k) &&& nI 31 = nI 6
  · simp only [o6, if_true]
    obtain ⟨v, C2, V2, S2, h1, h2, h3⟩ := t_judge (n := n) (C := C) (V := V) (F := F) (A := A) (L := Z) g (by omega) (xs (5 * k + 1))
    simp only [h1, h2, bindS, if_true]
    exact ⟨_, _, _, _, _, _, _, _, _, _, _, rfl, h3⟩
  simp only [o6, if_false]
  by_cases o7 : xs (5 * k) &&& nI 31 = nI 7
  · simp only [o7, if_true]
    obtain ⟨v, C2, V2, S2, h1, h2, h3⟩ := t_behind (n := n) (C := C) (V := V) (F := F) (A := A) (L := Z) g (by omega) (xs (5 * k + 1)) (xs (5 * k + 2))
    simp only [h1, h2, bindS, if_true]
    exact ⟨_, _, _, _, _, _, _, _, _, _, _, rfl, h3⟩
  simp only [o7, if_false]
  by_cases o8 : xs (5 * k) &&& nI 31 = nI 8
  · simp only [o8, if_true]
    obtain ⟨v, C2, V2, S2, h1, h2, h3⟩ := t_city (n := n) (C := C) (V := V) (F := F) (A := A) (L := Z) g (by omega) (xs (5 * k + 1))
    simp only [h1, h2, bindS, if_true]
    exact ⟨_, _, _, _, _, _, _, _, _, _, _, rfl, h3⟩
  simp only [o8, if_false]
  by_cases o9 : xs (5 * k) &&& nI 31 = nI 9
  · simp only [o9, if_true]
    obtain ⟨v, C2, V2, S2, h1, h2, h3⟩ := t_taken (n := n) (C := C) (V := V) (F := F) (A := A) (L := Z) g (by omega) (xs (5 * k + 1))
    simp only [h1, h2, bindS, if_true]
    exact ⟨_, _, _, _, _, _, _, _, _, _, _, rfl, h3⟩
  simp only [o9, if_false]
  by_cases o10 : xs (5 * k) &&& nI 31 = nI 10
  · simp only [o10, if_true]
    obtain ⟨v, T2, P2, C2, V2, S2, h1, h2, h3⟩ := t_done (n := n) (C := C) (V := V) (F := F) (A := A) (L := Z) g (by omega) 
    simp only [h1, h2, bindS, if_true]
    exact ⟨_, _, _, _, _, _, _, _, _, _, _, rfl, h3⟩
  simp only [o10, if_false]
  by_cases o11 : xs (5 * k) &&& nI 31 = nI 11
  · simp only [o11, if_true]
    obtain ⟨v, F2, S2, h1, h2, h3⟩ := t_stays (n := n) (C := C) (V := V) (F := F) (A := A) (L := Z) g (by omega) (xs (5 * k + 1))
    simp only [h1, h2, bindS, if_true]
    exact ⟨_, _, _, _, _, _, _, _, _, _, _, rfl, h3⟩
  simp only [o11, if_false]
  by_cases o12 : xs (5 * k) &&& nI 31 = nI 12
  · simp only [o12, if_true]
    obtain ⟨v, F2, S2, h1, h2, h3⟩ := t_keep (n := n) (C := C) (V := V) (F := F) (A := A) (L := Z) g (by omega) (xs (5 * k + 1)) (xs (5 * k + 2))
    simp only [h1, h2, bindS, if_true]
    exact ⟨_, _, _, _, _, _, _, _, _, _, _, rfl, h3⟩
  simp only [o12, if_false]
  by_cases o13 : xs (5 * k) &&& nI 31 = nI 13
  · simp only [o13, if_true]
    obtain ⟨v, h1, h2⟩ := t_loose (n := n) (C := C) (V := V) (F := F) (A := A) (L := Z) g (by omega) (xs (5 * k + 1)) (xs (5 * k + 2))
    simp only [h1, h2, bindS, if_true]
    exact ⟨_, _, _, _, _, _, _, _, _, _, _, rfl, g⟩
  simp only [o13, if_false]
  by_cases o14 : xs (5 * k) &&& nI 31 = nI 14
  · simp only [o14, if_true]
    obtain ⟨v, F2, h1, h2⟩ := t_seats (n := n) (C := C) (V := V) (F := F) (A := A) (L := Z) g (by omega) (xs (5 * k + 1)) (xs (5 * k + 2))
    simp only [h1, h2, bindS, if_true]
    exact ⟨_, _, _, _, _, _, _, _, _, _, _, rfl, g⟩
  simp only [o14, if_false]
  by_cases o15 : xs (5 * k) &&& nI 31 = nI 15
  · simp only [o15, if_true]
    obtain ⟨v, S2, h1, h2, h3⟩ := t_calls (n := n) (C := C) (V := V) (F := F) (A := A) (L := Z) g (by omega) (xs (5 * k + 1)) (xs (5 * k + 2))
    simp only [h1, h2, bindS, if_true, lg_same]
    exact ⟨_, _, _, _, _, _, _, _, _, _, _, rfl, h3⟩
  simp only [o15, if_false]
  by_cases o16 : xs (5 * k) &&& nI 31 = nI 16
  · simp only [o16, if_true]
    obtain ⟨v, S2, h1, h2, h3⟩ := t_order (n := n) (C := C) (V := V) (F := F) (A := A) (L := Z) g (by omega) (xs (5 * k + 1))
    simp only [h1, h2, bindS, if_true]
    exact ⟨_, _, _, _, _, _, _, _, _, _, _, rfl, h3⟩
  simp only [o16, if_false]
  by_cases o17 : xs (5 * k) &&& nI 31 = nI 17
  · simp only [o17, if_true]
    by_cases hz : xs (5 * k + 2) = nI 0
    · obtain ⟨v, T2, S2, h1, h2, h3⟩ := t_rung (n := n) (C := C) (V := V) (F := F) (A := A) (L := Z) g (xs (5 * k + 1)) false
      have h1' : m_X5_rung n X T I J P C V F A (xs (5 * k + 1)) (nI 0) = some (v, T2) := h1
      have h2' : m_X6_rung n S Z (xs (5 * k + 1)) (nI 0) = some (v, S2) := h2
      simp only [hz, if_true, if_false, h1', h2', bindS]
      exact ⟨_, _, _, _, _, _, _, _, _, _, _, rfl, h3⟩
    · obtain ⟨v, T2, S2, h1, h2, h3⟩ := t_rung (n := n) (C := C) (V := V) (F := F) (A := A) (L := Z) g (xs (5 * k + 1)) true
      have h1' : m_X5_rung n X T I J P C V F A (xs (5 * k + 1)) (nI 1) = some (v, T2) := h1
      have h2' : m_X6_rung n S Z (xs (5 * k + 1)) (nI 1) = some (v, S2) := h2
      simp only [hz, if_true, if_false, h1', h2', bindS]
      exact ⟨_, _, _, _, _, _, _, _, _, _, _, rfl, h3⟩
  simp only [o17, if_false]
  by_cases o18 : xs (5 * k) &&& nI 31 = nI 18
  · simp only [o18, if_true]
    obtain ⟨v, T2, S2, h1, h2, h3⟩ := t_forget (n := n) (C := C) (V := V) (F := F) (A := A) (L := Z) g 
    simp only [h1, h2, bindS, if_true]
    exact ⟨_, _, _, _, _, _, _, _, _, _, _, rfl, h3⟩
  simp only [o18, if_false]
  by_cases o19 : xs (5 * k) &&& nI 31 = nI 19
  · simp only [o19, if_true]
    obtain ⟨v, h1, h2⟩ := t_who (n := n) (C := C) (V := V) (F := F) (A := A) (L := Z) g (by omega) 
    simp only [h1, h2, bindS, if_true]
    exact ⟨_, _, _, _, _, _, _, _, _, _, _, rfl, g⟩
  simp only [o19, if_false]
  by_cases o20 : xs (5 * k) &&& nI 31 = nI 20
  · simp only [o20, if_true]
    obtain ⟨v, h1, h2⟩ := t_ring (n := n) (C := C) (V := V) (F := F) (A := A) (L := Z) g (by omega) (xs (5 * k + 1))
    simp only [h1, h2, bindS, if_true]
    exact ⟨_, _, _, _, _, _, _, _, _, _, _, rfl, g⟩
  simp only [o20, if_false]
  by_cases o21 : xs (5 * k) &&& nI 31 = nI 21
  · simp only [o21, if_true]
    obtain ⟨v, A2, Z2, h1, h2⟩ := t_answers (n := n) (C := C) (V := V) (F := F) (A := A) (L := Z) g (by omega) (xs (5 * k + 1)) (xs (5 * k + 2)) (xs (5 * k + 3)) (xs (5 * k + 4))
    simp only [h1, h2, bindS, if_true, lg_same]
    exact ⟨_, _, _, _, _, _, _, _, _, _, _, rfl, g⟩
  simp only [o21, if_false]
  by_cases o22 : xs (5 * k) &&& nI 31 = nI 22
  · simp only [o22, if_true]
    obtain ⟨v, S2, h1, h2, h3⟩ := t_number (n := n) (C := C) (V := V) (F := F) (A := A) (L := Z) g (by omega) (xs (5 * k + 1)) (xs (5 * k + 2))
    simp only [h1, h2, bindS, if_true]
    exact ⟨_, _, _, _, _, _, _, _, _, _, _, rfl, h3⟩
  simp only [o22, if_false]
  by_cases o23 : xs (5 * k) &&& nI 31 = nI 23
  · simp only [o23, if_true]
    obtain ⟨v, C2, V2, S2, h1, h2, h3⟩ := t_year (n := n) (C := C) (V := V) (F := F) (A := A) (L := Z) g (by omega) (xs (5 * k + 1)) (xs (5 * k + 2)) (xs (5 * k + 3))
    simp only [h1, h2, bindS, if_true]
    exact ⟨_, _, _, _, _, _, _, _, _, _, _, rfl, h3⟩
  simp only [o23, if_false]
  by_cases o24 : xs (5 * k) &&& nI 31 = nI 24
  · simp only [o24, if_true]
    obtain ⟨v, X2, I2, J2, S2, h1, h2, h3⟩ := t_image (n := n) (C := C) (V := V) (F := F) (A := A) (L := Z) g (by omega) (xs (5 * k + 1))
    simp only [h1, h2, bindS, if_true]
    exact ⟨_, _, _, _, _, _, _, _, _, _, _, rfl, h3⟩
  simp only [o24, if_false]
  by_cases o25 : xs (5 * k) &&& nI 31 = nI 25
  · simp only [o25, if_true]
    obtain ⟨v, T2, S2, h1, h2, h3⟩ := t_restore (n := n) (C := C) (V := V) (F := F) (A := A) (L := Z) g (by omega) (xs (5 * k + 1))
    simp only [h1, h2, bindS, if_true]
    exact ⟨_, _, _, _, _, _, _, _, _, _, _, rfl, h3⟩
  simp only [o25, if_false]
  by_cases o26 : xs (5 * k) &&& nI 31 = nI 26
  · simp only [o26, if_true]
    obtain ⟨v, h1, h2⟩ := t_told (n := n) (C := C) (V := V) (F := F) (A := A) (L := Z) g (by omega) (xs (5 * k + 1))
    simp only [h1, h2, bindS, if_true]
    exact ⟨_, _, _, _, _, _, _, _, _, _, _, rfl, g⟩
  simp only [o26, if_false]
  exact ⟨_, _, _, _, _, _, _, _, _, _, _, rfl, g⟩
/-- the town at the start -/
def aZ : AT := fun i j => if i = 0 then (if j = 0 then 1023 else 0) else if i = 2 then 2 else if i = 3 then 1 else 0
theorem aZ_ok : OKA aZ := ⟨⟨show 1023 < 1024 by decide, show 0 < 1024 by decide, show 0 < 1024 by decide⟩, ⟨show 0 ≤ 8 by decide, show 0 < 2 ^ 0 by decide, fun j hj => absurd hj (Nat.not_lt_zero _)⟩, ⟨fun j _ => show 0 ≤ 9 by decide, fun j _ => show 2 ≤ 3 by decide⟩, ⟨fun _ _ _ _ => rfl, fun _ _ _ _ => rfl, fun _ _ => rfl⟩, ⟨show 1 ≤ 1 by decide, show 1 ≤ 9 by decide⟩, ⟨show 1 ≤ 1 by decide, show 1 ≤ 9 by decide⟩, show 1 ≤ 1 by decide, show 1 ≤ 1 by decide⟩
theorem fillT (hn : 1100 < n) : ∃ T, m_X4_init n = some T ∧ RT T aZ := by
  unfold m_X4_init
  refine loop_inv (b_X4_init_64 n) (fun k s => s.1 = nI k ∧ ∀ j, j < k → s.2 j = nI 2) 100 (fun o => ∃ T, o = some T ∧ RT T aZ) (fun k hk s hs kk => ?_) (fun s hs kk => ?_) _ n ⟨rfl, fun j hj => absurd hj (Nat.not_lt_zero _)⟩ (by omega)
  · left
    obtain ⟨h1, h2⟩ := hs
    refine ⟨(nI (k + 1), upd s.2 k (nI 2)), ?_, rfl, fun j hj => ?_⟩
    · unfold b_X4_init_64
      simp (disch := omega) only [litN, nI_add, pk_mul, pk_sub, nI_negR, nI_negL, nI_negE, nI_negLt, nI_negGe, nI_ltE, nI_leE, nI_eqI, nI_clamp, inB_n, gd_tt, bindS, if_true, if_false, reduceIte, leT, leF, ltT, ltF, eqT, eqF, h1]
    · dsimp only
      rw [upd_v]
      by_cases q : j = k
      · rw [if_pos q]
      · rw [if_neg q]
        exact h2 j (by omega)
  · obtain ⟨h1, h2⟩ := hs
    unfold b_X4_init_64
    simp only [h1]
    rw [if_pos (by decide +kernel)]
    refine loop_inv (b_X4_init_88 n s.2) (fun k t => t.1 = nI k ∧ ∀ j, j < k → t.2 j = nI 1) 4 (fun o => ∃ T, o = some T ∧ RT T aZ) (fun k hk t ht k2 => ?_) (fun t ht k2 => ?_) _ n ⟨rfl, fun j hj => absurd hj (Nat.not_lt_zero _)⟩ (by omega)
    · left
      obtain ⟨g1, g2⟩ := ht
      refine ⟨(nI (k + 1), upd t.2 k (nI 1)), ?_, rfl, fun j hj => ?_⟩
      · unfold b_X4_init_88
        simp (disch := omega) only [litN, nI_add, pk_mul, pk_sub, nI_negR, nI_negL, nI_negE, nI_negLt, nI_negGe, nI_ltE, nI_leE, nI_eqI, nI_clamp, inB_n, gd_tt, bindS, if_true, if_false, reduceIte, leT, leF, ltT, ltF, eqT, eqF, g1]
      · dsimp only
        rw [upd_v]
        by_cases q : j = k
        · rw [if_pos q]
        · rw [if_neg q]
          exact g2 j (by omega)
    · obtain ⟨g1, g2⟩ := ht
      unfold b_X4_init_88
      simp only [g1]
      rw [if_pos (by decide +kernel)]
      exact ⟨_, rfl, ⟨rfl, rfl, rfl, rfl, rfl⟩, fun j _ => rfl, fun j hj => h2 j hj, fun j hj => g2 j hj, fun j hj => absurd hj (Nat.not_lt_zero _)⟩
theorem fillS (hn : 1100 < n) : ∃ S Z, m_X6_init n = some (S, Z) ∧ RS S aZ ∧ S 0 10 = nI 0 ∧ (∀ j, S 30 j = nI 0) := by
  unfold m_X6_init
  refine loop_inv (b_X6_init_142 n) (fun k s => s.1 = nI k ∧ ∀ j, j < k → s.2 j = nI 2) 100 (fun o => ∃ S Z, o = some (S, Z) ∧ RS S aZ ∧ S 0 10 = nI 0 ∧ (∀ j, S 30 j = nI 0)) (fun k hk s hs kk => ?_) (fun s hs kk => ?_) _ n ⟨rfl, fun j hj => absurd hj (Nat.not_lt_zero _)⟩ (by omega)
  · left
    obtain ⟨h1, h2⟩ := hs
    refine ⟨(nI (k + 1), upd s.2 k (nI 2)), ?_, rfl, fun j hj => ?_⟩
    · unfold b_X6_init_142
      simp (disch := omega) only [litN, nI_add, pk_mul, pk_sub, nI_negR, nI_negL, nI_negE, nI_negLt, nI_negGe, nI_ltE, nI_leE, nI_eqI, nI_clamp, inB_n, gd_tt, bindS, if_true, if_false, reduceIte, leT, leF, ltT, ltF, eqT, eqF, h1]
    · dsimp only
      rw [upd_v]
      by_cases q : j = k
      · rw [if_pos q]
      · rw [if_neg q]
        exact h2 j (by omega)
  · obtain ⟨h1, h2⟩ := hs
    unfold b_X6_init_142
    simp only [h1]
    rw [if_pos (by decide +kernel)]
    refine loop_inv (b_X6_init_163 n s.2) (fun k t => t.1 = nI k ∧ ∀ j, j < k → t.2 j = nI 1) 4 (fun o => ∃ S Z, o = some (S, Z) ∧ RS S aZ ∧ S 0 10 = nI 0 ∧ (∀ j, S 30 j = nI 0)) (fun k hk t ht k2 => ?_) (fun t ht k2 => ?_) _ n ⟨rfl, fun j hj => absurd hj (Nat.not_lt_zero _)⟩ (by omega)
    · left
      obtain ⟨g1, g2⟩ := ht
      refine ⟨(nI (k + 1), upd t.2 k (nI 1)), ?_, rfl, fun j hj => ?_⟩
      · unfold b_X6_init_163
        simp (disch := omega) only [litN, nI_add, pk_mul, pk_sub, nI_negR, nI_negL, nI_negE, nI_negLt, nI_negGe, nI_ltE, nI_leE, nI_eqI, nI_clamp, inB_n, gd_tt, bindS, if_true, if_false, reduceIte, leT, leF, ltT, ltF, eqT, eqF, g1]
      · dsimp only
        rw [upd_v]
        by_cases q : j = k
        · rw [if_pos q]
        · rw [if_neg q]
          exact g2 j (by omega)
    · obtain ⟨g1, g2⟩ := ht
      unfold b_X6_init_163
      simp only [g1]
      rw [if_pos (by decide +kernel)]
      exact ⟨_, _, rfl, ⟨⟨rfl, rfl, rfl, rfl⟩, fun j _ => rfl, fun j hj => h2 j hj, fun j hj => g2 j hj, fun j hj => absurd hj (Nat.not_lt_zero _), fun j hj => absurd hj (Nat.not_lt_zero _)⟩, rfl, fun j => rfl⟩
/-- for every script the mirror of the law comes to its end -/
theorem law_holds (L : Nat) (xs : Nat → Int32) (hL : L ≤ 2560) : m_law 4000 L xs = some () := by
  unfold m_law m_X5_init m_X1_init m_X2_init m_X3_init m_X0_init
  obtain ⟨T, t1, t2⟩ := fillT (n := 4000) (by omega)
  obtain ⟨S, Z, s1, s2, s3, s4⟩ := fillS (n := 4000) (by omega)
  simp only [t1, s1, bindS]
  refine loop_inv (b_L_law_18 4000 L xs) (fun k s => s.1 = nI (5 * k) ∧ INV s.2.1 s.2.2.1 s.2.2.2.1 s.2.2.2.2.1 s.2.2.2.2.2.1 s.2.2.2.2.2.2.2.2.2.2.1) (L / 5) (fun o => o = some ()) (fun k hk s hs kk => ?_) (fun s hs kk => ?_) _ 4000 ⟨rfl, ⟨aZ, aZ_ok, t2, s2⟩, ⟨0, fun _ => 0, by omega, rfl, s3, fun j hj => absurd hj (Nat.not_lt_zero _)⟩, 0, by decide, rfl, ⟨by dsimp only; rw [s4]; rfl, fun h => absurd h (by decide)⟩, ⟨by dsimp only; rw [s4]; rfl, fun h => absurd h (by decide)⟩⟩ (by omega)
  · left
    obtain ⟨i, X', T', I', J', P', C', V', F', A', S', Z'⟩ := s
    obtain ⟨h1, h2⟩ := hs
    dsimp only at h1 h2
    rw [h1]
    obtain ⟨x1, x2, x3, x4, x5, x6, x7, x8, x9, y1, y2, h3, h4⟩ := law_step (n := 4000) (L := L) (k := k) (xs := xs) (C := C') (V := V') (F := F') (A := A') (Z := Z') (by omega) hL (by omega) h2 kk
    exact ⟨_, h3, rfl, h4⟩
  · obtain ⟨i, X', T', I', J', P', C', V', F', A', S', Z'⟩ := s
    obtain ⟨h1, h2⟩ := hs
    dsimp only at h1
    rw [h1]
    unfold b_L_law_18
    rw [if_pos]
    show Int32.ofNat L - 5 < nI (5 * (L / 5))
    rw [Int32.lt_iff_toInt_lt, show Int32.ofNat L = nI L from rfl, show (5 : Int32) = nI 5 from rfl, pk_sub_toInt (by omega) (by omega), nI_toInt (by omega)]
    omega
