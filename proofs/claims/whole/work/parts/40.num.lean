/-! NUMBERS of the mirrors: small ints, bits, loops -/
theorem lit {k : Nat} : (@OfNat.ofNat Int32 k _) = nI k := rfl
theorem loop_for {σ ρ : Type} (b : σ → (σ → Option ρ) → Option ρ) (st : Nat → σ) (N : Nat) (out : Option ρ) (hs : ∀ k, k < N → ∀ kk, b (st k) kk = kk (st (k + 1))) (hx : ∀ kk, b (st N) kk = out) : ∀ n, N < n → loopF b n (st 0) = out := by
  have key : ∀ d k n, k + d = N → d < n → loopF b n (st k) = out := by
    intro d
    induction d with
    | zero =>
      intro k n hk hn
      obtain ⟨n, rfl⟩ : ∃ z, n = z + 1 := ⟨n - 1, by omega⟩
      have : k = N := by omega
      subst this
      exact hx _
    | succ d ih =>
      intro k n hk hn
      obtain ⟨n, rfl⟩ : ∃ z, n = z + 1 := ⟨n - 1, by omega⟩
      show b (st k) (loopF b n) = out
      rw [hs k (by omega)]
      exact ih (k + 1) n (by omega) (by omega)
  intro n hn
  exact key N 0 n (by omega) hn
theorem gd_t {α : Type} {b : Bool} {x : Option α} (h : b = true) : gd b x = x := by rw [h]; rfl
theorem inB_n {j N : Nat} (h : j < N) (hN : N < 2 ^ 31) : inB (nI j) N = true := by
  unfold inB
  rw [nI_clamp (by omega)]
  have h1 := nI_pos (n := j) (by omega)
  simp [h1, Nat.not_le.mpr h]
theorem nI_eqI {a b : Nat} (ha : a < 2 ^ 31) (hb : b < 2 ^ 31) : (nI a = nI b) = (a = b) := propext (nI_eq ha hb)
theorem nI_leE {a b : Nat} (ha : a < 2 ^ 31) (hb : b < 2 ^ 31) : (nI a ≤ nI b) = (a ≤ b) := propext (nI_leI ha hb)
theorem nI_ltE {a b : Nat} (ha : a < 2 ^ 31) (hb : b < 2 ^ 31) : (nI a < nI b) = (a < b) := propext (nI_ltI ha hb)
theorem nI_neg {a : Nat} (ha : a < 2 ^ 31) : (nI a < 0) = False := eq_false (nI_pos ha)
theorem nI_bv (a : Nat) : (nI a).toBitVec = BitVec.ofNat 32 a := rfl
theorem i_inj {a b : Int32} (h : a.toBitVec = b.toBitVec) : a = b := Int32.toBitVec_inj.mp h
theorem nI_and (a b : Nat) : nI a &&& nI b = nI (a &&& b) := i_inj (by
  rw [Int32.toBitVec_and, nI_bv, nI_bv, nI_bv]
  apply BitVec.eq_of_toNat_eq
  simp [Nat.and_mod_two_pow])
theorem nI_or (a b : Nat) : nI a ||| nI b = nI (a ||| b) := i_inj (by
  rw [Int32.toBitVec_or, nI_bv, nI_bv, nI_bv]
  apply BitVec.eq_of_toNat_eq
  simp [Nat.or_mod_two_pow])
theorem nI_xor (a b : Nat) : nI a ^^^ nI b = nI (a ^^^ b) := i_inj (by
  rw [Int32.toBitVec_xor, nI_bv, nI_bv, nI_bv]
  apply BitVec.eq_of_toNat_eq
  simp [Nat.xor_mod_two_pow])
theorem sm_k : ∀ k, k < 31 → ((nI k &&& 31).toBitVec.smod 32).toNat = k := by decide +kernel
theorem nI_shr {a k : Nat} (ha : a < 2 ^ 31) (hk : k < 31) : nI a >>> (nI k &&& 31) = nI (a / 2 ^ k) := pk_shrN ha _ k (sm_k k hk)
theorem nI_bit {k : Nat} (hk : k < 31) : (1 : Int32) <<< (nI k &&& 31) = nI (2 ^ k) := by
  have h := pk_shlN (n := 1) (nI k &&& 31) k (sm_k k hk) (by
    have : 2 ^ k < 2 ^ 31 := Nat.pow_lt_pow_right (by decide) hk
    omega)
  rw [Nat.one_mul] at h
  exact h
