/-! WHAT EVERY WALK STANDS ON: the states of the components, the mirror's own words, the call rows in one shape -/
abbrev TI : Type := Nat → Nat → Int32
abbrev TL : Type := Nat → Nat → Int64
def jrem (x y : Int32) : Int32 := x - x / y * y
def jremL (x y : Int64) : Int64 := x - x / y * y
def jushr (x y : Int32) : Int32 := (x.toUInt32 >>> (y.toUInt32 &&& Int32.toUInt32 31)).toInt32
/-- taller than all that the numbers are made of: what speaks of it is unfolded ahead of them -/
def hiZ : Int32 → Int64 → Nat := fun x y => (jushr x x + jrem x x).toNatClampNeg + (jremL y y).toInt32.toNatClampNeg + ((x <<< (x &&& x)) >>> x ||| (x &&& x) ^^^ x).toNatClampNeg + (upd (fun _ => x) 0 x 0).toNatClampNeg + (vp_updL (fun _ => y) 0 y 0).toInt32.toNatClampNeg + (vp_nar .boolean x).toNatClampNeg + (x.toInt64 * y - y + y / y).toInt32.toNatClampNeg + (lg_cmp y y).toNatClampNeg + (x * x - x).toNatClampNeg + (Int32.ofNat 3).toNatClampNeg + (if x < x then x else x).toNatClampNeg
def upA (T : TI) (i : Nat) (f : Nat → Int32) : TI := fun a => match Nat.beq a i with | true => f | false => (fun (_ : Int32 → Int64 → Nat) => T a) hiZ
def upAL (T : TL) (i : Nat) (f : Nat → Int64) : TL := fun a => match Nat.beq a i with | true => f | false => (fun (_ : Int32 → Int64 → Nat) => T a) hiZ
def updF (f : Nat → Int32) (i : Nat) (v : Int32) : Nat → Int32 := fun a => match Nat.beq a i with | true => v | false => (fun (_ : Int32 → Int64 → Nat) => f a) hiZ
def updFL (f : Nat → Int64) (i : Nat) (v : Int64) : Nat → Int64 := fun a => match Nat.beq a i with | true => v | false => (fun (_ : Int32 → Int64 → Nat) => f a) hiZ
def sf (T : TI) (j : Nat) (v : Int32) : TI := upA T 0 (updF (T 0) j v)
def sfL (T : TL) (j : Nat) (v : Int64) : TL := upAL T 0 (updFL (T 0) j v)
/-- a loop of the mirror: n rounds at the most -/
def loopF {σ ρ : Type} (b : σ → (σ → Option ρ) → Option ρ) : Nat → σ → Option ρ
  | 0, _ => none
  | n + 1, s => b s (loopF b n)
theorem loopF_0 {σ ρ : Type} {b : σ → (σ → Option ρ) → Option ρ} {s : σ} {o : ρ} {P : Prop} (h : loopF b 0 s = some o) : P := by cases h
theorem loopF_s {σ ρ : Type} {b : σ → (σ → Option ρ) → Option ρ} {n : Nat} {s : σ} {o : Option ρ} (h : loopF b (n + 1) s = o) : b s (loopF b n) = o := h
def gd {α : Type} (b : Bool) (x : Option α) : Option α := bif b then x else none
def inB (i : Int32) (n : Nat) : Bool := !(decide (i < 0) || decide (n ≤ i.toNatClampNeg))
def nz (x : Int32) : Bool := !(decide (x = 0))
def nzL (x : Int64) : Bool := !(decide (x = 0))
theorem q_in {α : Type} {i : Int32} {n : Nat} {x : Option α} {o : α} (h : gd (inB i n) x = some o) : vp_in i n ∧ x = some o := by
  unfold gd inB at h
  by_cases h1 : i < 0
  · simp [h1] at h
  · by_cases h2 : n ≤ i.toNatClampNeg
    · simp [h1, h2] at h
    · simp [h1, h2] at h
      exact ⟨fun q => q.elim h1 h2, h⟩
theorem q_nz {α : Type} {y : Int32} {x : Option α} {o : α} (h : gd (nz y) x = some o) : (¬ y = 0) ∧ x = some o := by
  unfold gd nz at h
  by_cases h1 : y = 0
  · simp [h1] at h
  · simp [h1] at h
    exact ⟨h1, h⟩
theorem q_nzL {α : Type} {y : Int64} {x : Option α} {o : α} (h : gd (nzL y) x = some o) : (¬ y = 0) ∧ x = some o := by
  unfold gd nzL at h
  by_cases h1 : y = 0
  · simp [h1] at h
  · simp [h1] at h
    exact ⟨h1, h⟩
def isZ (v : Int32) : Bool := decide (v = 0) || decide (v = 1)
theorem q_z {α : Type} {v : Int32} {x : Option α} {o : α} (h : gd (isZ v) x = some o) : narrow .boolean (.int v) = .int v ∧ x = some o := by
  unfold gd isZ at h
  by_cases h0 : v = 0
  · subst h0; simp at h; exact ⟨rfl, h⟩
  · by_cases h1 : v = 1
    · subst h1; simp at h; exact ⟨rfl, h⟩
    · simp [h0, h1] at h
theorem q_inb {i : Int32} {n : Nat} (h : inB i n = true) : vp_in i n := (q_in (x := some ()) (o := ()) (show gd (inB i n) (some ()) = some () by rw [h]; rfl)).1
theorem tabOut {lo hi : Int} {x : Int32} (h : ∀ k : Int, lo ≤ k → k ≤ hi → x.toInt = k → False) : x.toInt < lo ∨ hi < x.toInt := by
  rcases Int.lt_or_le x.toInt lo with h1 | h1
  · exact Or.inl h1
  · rcases Int.lt_or_le hi x.toInt with h2 | h2
    · exact Or.inr h2
    · exact absurd rfl (fun q => h x.toInt h1 h2 q)
theorem q_pos {α : Type} {c : Prop} [Decidable c] {a b o : α} (hc : c) (h : (if c then a else b) = o) : a = o := by rw [if_pos hc] at h; exact h
theorem q_neg {α : Type} {c : Prop} [Decidable c] {a b o : α} (hc : ¬ c) (h : (if c then a else b) = o) : b = o := by rw [if_neg hc] at h; exact h
theorem q_bind {α β : Type} {x : Option α} {f : α → Option β} {o : β} (h : x.bind f = some o) : ∃ u, x = some u ∧ f u = some o := by
  cases x with
  | none => cases h
  | some u => exact ⟨u, rfl, h⟩
theorem q_some {α : Type} {a o : α} (h : some a = some o) : o = a := (Option.some.inj h).symm
-- the cells of a component
abbrev kT (cI cJ cZ : ClassId) : List (ClassId × FieldType) := [(cI, .int), (cJ, .long), (cZ, .boolean)]
def w0x (cJ : ClassId) (q : Nat → Nat) (z0 : Int64) (z1 : Int64) (z2 : Int64) (z3 : Nat → Int64) : va_W := [(q 0, .inr (0, [.ref (q 1), .long z0, .long z1, .long z2])), (q 1, .inl (cJ, 11, .inr (.inl z3)))]
def w0 (cJ : ClassId) (q : Nat → Nat) (A : TL) : va_W := w0x cJ q (A 0 1) (A 0 2) (A 0 3) (A 1)
def w1x (q t : Nat → Nat) (z0 : Int32) (z1 : Int32) (z2 : Int32) (z3 : Int32) (z4 : Int32) (z5 : Int32) : va_W := [(q 0, .inr (1, [.ref (t 0), .int z0, .int z1, .int z2, .int z3, .int z4, .int z5]))]
def w1 (q t : Nat → Nat) (C : TI) : va_W := w1x q t (C 0 1) (C 0 2) (C 0 3) (C 0 4) (C 0 5) (C 0 6)
def w2x (cI : ClassId) (q : Nat → Nat) (z0 : Int32) (z1 : Nat → Int32) : va_W := [(q 0, .inr (2, [.ref (q 1), .int z0])), (q 1, .inl (cI, 60, .inl z1))]
def w2 (cI : ClassId) (q : Nat → Nat) (P : TI) : va_W := w2x cI q (P 0 1) (P 1)
def w3x (cI : ClassId) (q : Nat → Nat) (z0 : Int32) (z1 : Nat → Int32) (z2 : Nat → Int32) (z3 : Nat → Int32) : va_W := [(q 0, .inr (3, [.ref (q 1), .ref (q 2), .ref (q 3), .int z0])), (q 1, .inl (cI, 10, .inl z1)), (q 2, .inl (cI, 10, .inl z2)), (q 3, .inl (cI, 10, .inl z3))]
def w3 (cI : ClassId) (q : Nat → Nat) (F : TI) : va_W := w3x cI q (F 0 3) (F 1) (F 2) (F 3)
def w4x (cI : ClassId) (q : Nat → Nat) (z0 : Int32) (z1 : Int32) (z2 : Int32) (z3 : Int32) (z4 : Int32) (z5 : Nat → Int32) (z6 : Nat → Int32) (z7 : Nat → Int32) (z8 : Nat → Int32) : va_W := [(q 0, .inr (4, [.int z0, .int z1, .int z2, .int z3, .int z4, .ref (q 6), .ref (q 7), .ref (q 8), .ref (q 9)])), (q 6, .inl (cI, 100, .inl z5)), (q 7, .inl (cI, 100, .inl z6)), (q 8, .inl (cI, 4, .inl z7)), (q 9, .inl (cI, 8, .inl z8))]
def w4 (cI : ClassId) (q : Nat → Nat) (T : TI) : va_W := w4x cI q (T 0 0) (T 0 1) (T 0 2) (T 0 3) (T 0 4) (T 6) (T 7) (T 8) (T 9)
def w5x (q t i1 i2 p c f r : Nat → Nat) (z0 : Int32) : va_W := [(q 0, .inr (5, [.ref (t 0), .ref (i1 0), .ref (i2 0), .int z0, .ref (p 0), .ref (c 0), .ref (f 0), .ref (r 0)]))]
def w5 (q t i1 i2 p c f r : Nat → Nat) (X : TI) : va_W := w5x q t i1 i2 p c f r (X 0 3)
def w6x (cI cJ cZ : ClassId) (q : Nat → Nat) (z0 : Int32) (z1 : Int32) (z2 : Int32) (z3 : Int32) (z4 : Int32) (z5 : Int32) (z6 : Int32) (z7 : Int32) (z8 : Int32) (z9 : Int32) (z10 : Int32) (z11 : Int32) (z12 : Int32) (z13 : Int32) (z14 : Int32) (z15 : Int32) (z16 : Nat → Int32) (z17 : Nat → Int32) (z18 : Nat → Int32) (z19 : Nat → Int32) (z20 : Nat → Int32) (z21 : Nat → Int32) (z22 : Nat → Int32) (z23 : Nat → Int32) (z24 : Nat → Int32) (z25 : Nat → Int32) (z26 : Nat → Int32) (z27 : Nat → Int32) (z28 : Nat → Int64) (z29 : Nat → Int32) (z30 : Nat → Int32) (z31 : Nat → Int32) : va_W := [(q 0, .inr (6, [.int z0, .int z1, .int z2, .ref (q 4), .ref (q 5), .ref (q 6), .ref (q 7), .ref (q 8), .int z3, .ref (q 10), .int z4, .ref (q 12), .ref (q 13), .ref (q 14), .int z5, .int z6, .int z7, .int z8, .ref (q 19), .int z9, .int z10, .int z11, .int z12, .int z13, .ref (q 25), .ref (q 26), .ref (q 27), .ref (q 28), .ref (q 29), .ref (q 30), .int z14, .int z15])), (q 4, .inl (cI, 100, .inl z16)), (q 5, .inl (cI, 100, .inl z17)), (q 6, .inl (cI, 4, .inl z18)), (q 7, .inl (cI, 8, .inl z19)), (q 8, .inl (cI, 8, .inl z20)), (q 10, .inl (cI, 60, .inl z21)), (q 12, .inl (cI, 60, .inl z22)), (q 13, .inl (cI, 60, .inl z23)), (q 14, .inl (cI, 60, .inl z24)), (q 19, .inl (cI, 203, .inl z25)), (q 25, .inl (cI, 6, .inl z26)), (q 26, .inl (cI, 6, .inl z27)), (q 27, .inl (cJ, 10, .inr (.inl z28))), (q 28, .inl (cI, 1000, .inl z29)), (q 29, .inl (cI, 480, .inl z30)), (q 30, .inl (cZ, 2, .inl z31))]
def w6 (cI cJ cZ : ClassId) (q : Nat → Nat) (S : TI) (L : TL) : va_W := w6x cI cJ cZ q (S 0 0) (S 0 1) (S 0 2) (S 0 8) (S 0 10) (S 0 14) (S 0 15) (S 0 16) (S 0 17) (S 0 19) (S 0 20) (S 0 21) (S 0 22) (S 0 23) (S 0 30) (S 0 31) (S 4) (S 5) (S 6) (S 7) (S 8) (S 10) (S 12) (S 13) (S 14) (S 19) (S 25) (S 26) (L 27) (S 28) (S 29) (S 30)
def wA (cI : ClassId) (a n : Nat) (f : Nat → Int32) : va_W := [(a, .inl (cI, n, .inl f))]
def mk0 (z0 : Int64) (z1 : Int64) (z2 : Int64) (z3 : Nat → Int64) : TL := fun a => match Nat.beq a 0 with | true => (fun b => match Nat.beq b 1 with | true => z0 | false => match Nat.beq b 2 with | true => z1 | false => match Nat.beq b 3 with | true => z2 | false => 0) | false => match Nat.beq a 1 with | true => z3 | false => fun _ => 0
def mk1 (z0 : Int32) (z1 : Int32) (z2 : Int32) (z3 : Int32) (z4 : Int32) (z5 : Int32)  : TI := fun a => match Nat.beq a 0 with | true => (fun b => match Nat.beq b 1 with | true => z0 | false => match Nat.beq b 2 with | true => z1 | false => match Nat.beq b 3 with | true => z2 | false => match Nat.beq b 4 with | true => z3 | false => match Nat.beq b 5 with | true => z4 | false => match Nat.beq b 6 with | true => z5 | false => 0) | false => fun _ => 0
def mk2 (z0 : Int32) (z1 : Nat → Int32) : TI := fun a => match Nat.beq a 0 with | true => (fun b => match Nat.beq b 1 with | true => z0 | false => 0) | false => match Nat.beq a 1 with | true => z1 | false => fun _ => 0
def mk3 (z0 : Int32) (z1 : Nat → Int32) (z2 : Nat → Int32) (z3 : Nat → Int32) : TI := fun a => match Nat.beq a 0 with | true => (fun b => match Nat.beq b 3 with | true => z0 | false => 0) | false => match Nat.beq a 1 with | true => z1 | false => match Nat.beq a 2 with | true => z2 | false => match Nat.beq a 3 with | true => z3 | false => fun _ => 0
def mk4 (z0 : Int32) (z1 : Int32) (z2 : Int32) (z3 : Int32) (z4 : Int32) (z5 : Nat → Int32) (z6 : Nat → Int32) (z7 : Nat → Int32) (z8 : Nat → Int32) : TI := fun a => match Nat.beq a 0 with | true => (fun b => match Nat.beq b 0 with | true => z0 | false => match Nat.beq b 1 with | true => z1 | false => match Nat.beq b 2 with | true => z2 | false => match Nat.beq b 3 with | true => z3 | false => match Nat.beq b 4 with | true => z4 | false => 0) | false => match Nat.beq a 6 with | true => z5 | false => match Nat.beq a 7 with | true => z6 | false => match Nat.beq a 8 with | true => z7 | false => match Nat.beq a 9 with | true => z8 | false => fun _ => 0
def mk5 (z0 : Int32)  : TI := fun a => match Nat.beq a 0 with | true => (fun b => match Nat.beq b 3 with | true => z0 | false => 0) | false => fun _ => 0
def mk6 (z0 : Int32) (z1 : Int32) (z2 : Int32) (z3 : Int32) (z4 : Int32) (z5 : Int32) (z6 : Int32) (z7 : Int32) (z8 : Int32) (z9 : Int32) (z10 : Int32) (z11 : Int32) (z12 : Int32) (z13 : Int32) (z14 : Int32) (z15 : Int32) (z16 : Nat → Int32) (z17 : Nat → Int32) (z18 : Nat → Int32) (z19 : Nat → Int32) (z20 : Nat → Int32) (z21 : Nat → Int32) (z22 : Nat → Int32) (z23 : Nat → Int32) (z24 : Nat → Int32) (z25 : Nat → Int32) (z26 : Nat → Int32) (z27 : Nat → Int32) (z28 : Nat → Int32) (z29 : Nat → Int32) (z30 : Nat → Int32) : TI := fun a => match Nat.beq a 0 with | true => (fun b => match Nat.beq b 0 with | true => z0 | false => match Nat.beq b 1 with | true => z1 | false => match Nat.beq b 2 with | true => z2 | false => match Nat.beq b 8 with | true => z3 | false => match Nat.beq b 10 with | true => z4 | false => match Nat.beq b 14 with | true => z5 | false => match Nat.beq b 15 with | true => z6 | false => match Nat.beq b 16 with | true => z7 | false => match Nat.beq b 17 with | true => z8 | false => match Nat.beq b 19 with | true => z9 | false => match Nat.beq b 20 with | true => z10 | false => match Nat.beq b 21 with | true => z11 | false => match Nat.beq b 22 with | true => z12 | false => match Nat.beq b 23 with | true => z13 | false => match Nat.beq b 30 with | true => z14 | false => match Nat.beq b 31 with | true => z15 | false => 0) | false => match Nat.beq a 4 with | true => z16 | false => match Nat.beq a 5 with | true => z17 | false => match Nat.beq a 6 with | true => z18 | false => match Nat.beq a 7 with | true => z19 | false => match Nat.beq a 8 with | true => z20 | false => match Nat.beq a 10 with | true => z21 | false => match Nat.beq a 12 with | true => z22 | false => match Nat.beq a 13 with | true => z23 | false => match Nat.beq a 14 with | true => z24 | false => match Nat.beq a 19 with | true => z25 | false => match Nat.beq a 25 with | true => z26 | false => match Nat.beq a 26 with | true => z27 | false => match Nat.beq a 28 with | true => z28 | false => match Nat.beq a 29 with | true => z29 | false => match Nat.beq a 30 with | true => z30 | false => fun _ => 0
def mkL6  (z0 : Nat → Int64) : TL := fun a => match Nat.beq a 27 with | true => z0 | false => fun _ => 0
-- a contract's start and its end
/-- the calls of a nest mate's private function -/
def xNest (U : State) : Prop := va_Nw (.methodLinkNest RX1 99 yX5_leastOne RX5) U ∧ va_Nw (.methodLinkNest RX2 34 yX5_isLetter RX5) U ∧ va_Nw (.methodLinkNest RX3 39 yX5_holds RX5) U ∧ va_Nw (.methodLinkNest RX4 55 yX5_holds RX5) U ∧ va_Nw (.methodLinkNest RX5 28 yX2_init RX5) U ∧ va_Nw (.methodLinkNest RX5 35 yX1_init RX5) U ∧ va_Nw (.methodLinkNest RX5 42 yX3_init RX5) U ∧ va_Nw (.methodLinkNest RX5 49 yX0_init RX5) U
theorem xNest.warm {s U : State} (hW : s.WarmedH U.vm) (h : xNest s) : xNest U := ⟨va_Nw.warmM hW h.1, va_Nw.warmM hW h.2.1, va_Nw.warmM hW h.2.2.1, va_Nw.warmM hW h.2.2.2.1, va_Nw.warmM hW h.2.2.2.2.1, va_Nw.warmM hW h.2.2.2.2.2.1, va_Nw.warmM hW h.2.2.2.2.2.2.1, va_Nw.warmM hW h.2.2.2.2.2.2.2⟩
theorem xNest.same {s U : State} (hv : s.vm = U.vm) (h : xNest s) : xNest U := ⟨va_Nw.same rfl hv h.1, va_Nw.same rfl hv h.2.1, va_Nw.same rfl hv h.2.2.1, va_Nw.same rfl hv h.2.2.2.1, va_Nw.same rfl hv h.2.2.2.2.1, va_Nw.same rfl hv h.2.2.2.2.2.1, va_Nw.same rfl hv h.2.2.2.2.2.2.1, va_Nw.same rfl hv h.2.2.2.2.2.2.2⟩
def vDeeds : Nat → Int32 := fun j => [43, 43, 45, 36, 62, 62, 46, 126].getD j 0
/-- the static row of the class (aP: a name without a row) -/
def xE (aP aD : Nat) (A : Nat → Prop) (U : State) (H : Heap) : Prop := va_Z RX5 "DRAWN_DEEDS" "[I" (.ref aD) A U H ∧ va_T .int aD 8 (fun j => .int (vDeeds j)) A U H
def xPre (D : va_G) (tys : List (ClassId × FieldType)) (wc : va_W) (sz : Nat) (as : List Value) : Array Value → State → Prop := va_Pc as (fun U => U.heap.size = sz ∧ va_P D vwCl wc U.heap ∧ va_K D vwCl tys U ∧ va_D (fun _ => True) wc ∧ xNest U)
def xPreE (aP aD : Nat) (D : va_G) (tys : List (ClassId × FieldType)) (wc : va_W) (sz : Nat) (as : List Value) : Array Value → State → Prop := va_Pc as (fun U => U.heap.size = sz ∧ va_P D vwCl wc U.heap ∧ va_K D vwCl tys U ∧ va_D (fun _ => True) wc ∧ xNest U ∧ xE aP aD (va_A wc sz) U U.heap)
def xB (D : va_G) (tys : List (ClassId × FieldType)) (wc w1 : va_W) (sz : Nat) (t : State) : Prop := va_P D vwCl w1 t.heap ∧ va_K D vwCl tys t ∧ va_D (va_A wc sz) w1
def xQi (D : va_G) (tys : List (ClassId × FieldType)) (wc w1 : va_W) (sz : Nat) (r : Int32) : Array Value → State → Outcome → State → Prop := va_Qi (fun (x : Int32) (_ : Unit) => x = r) (fun _ t => xB D tys wc w1 sz t) (va_A wc sz)
def xQz (D : va_G) (tys : List (ClassId × FieldType)) (wc w1 : va_W) (sz : Nat) (r : Int32) : Array Value → State → Outcome → State → Prop := va_Qi (fun (x : Int32) (_ : Unit) => x = r ∧ narrow .boolean (.int x) = .int x) (fun _ t => xB D tys wc w1 sz t) (va_A wc sz)
def xQl (D : va_G) (tys : List (ClassId × FieldType)) (wc w1 : va_W) (sz : Nat) (r : Int64) : Array Value → State → Outcome → State → Prop := va_Ql (fun (x : Int64) (_ : Unit) => x = r) (fun _ t => xB D tys wc w1 sz t) (va_A wc sz)
def xQv (D : va_G) (tys : List (ClassId × FieldType)) (wc w1 : va_W) (sz : Nat) : Array Value → State → Outcome → State → Prop := va_Qv (fun (_ : Unit) => True) (fun _ t => xB D tys wc w1 sz t) (va_A wc sz)
def xQr (D : va_G) (tys : List (ClassId × FieldType)) (wc w1 : va_W) (sz : Nat) (r : Nat) : Array Value → State → Outcome → State → Prop := va_Qr (fun (_ : Unit) => True) (fun _ a t => a = r ∧ xB D tys wc w1 sz t) (va_A wc sz)
theorem x_fm {α : Type} {ws : List α} : ∀ {is : List Nat} {w : List α}, is.map (fun i => ws[i]?) = w.map some → is.filterMap (fun i => ws[i]?) = w
  | [], w, h => by
    cases w with
    | nil => rfl
    | cons a w => simp at h
  | i :: is, w, h => by
    cases w with
    | nil => simp at h
    | cons a w =>
      simp only [List.map_cons, List.cons.injEq] at h
      rw [List.filterMap_cons, h.1]
      simp only [List.cons.injEq, true_and]
      exact x_fm h.2
section XW
variable {p : Program} {l : Launch} {e : Env} {R : Room} {s : State} {m : MethodId} {args : Array Value} {below : List Frame} {meth : Method} {c : Code} {H : Heap} {locs : List Loc} {cells slots : Nat} {Q : State → Prop}
theorem xStart {vs : List Value} {n : Nat} {lv : List (Nat × Value)} (hv : args = vs.toArray) (h0 : (lg_sl vs).length ≤ n) (h1 : lv_args 0 vs = lv) (k : ∀ ls : Array Slot, lv_has ls n lv → W p l e R s m args below meth c H locs cells slots Q (F0 m 0 ls [])) : W p l e R s m args below meth c H locs cells slots Q (entryFrame m args n) := by
  have hk := k _ (h1 ▸ lv_entry vs h0)
  have he : entryFrame m args n = F0 m 0 ((lg_sl vs ++ List.replicate (n - (lg_sl vs).length) Slot.unset).toArray) [] := by rw [hv, lg_entry_eq]
  rw [he]
  exact hk
theorem xHead {g : JFrame} {R' : Room} (hR : R = R') (k : ∀ (Q' : State → Prop) (H' : Heap), Q' = Q → H' = H → W p l e R' s m args below meth c H' locs cells slots Q' g) : W p l e R s m args below meth c H locs cells slots Q g := by
  subst hR
  exact k Q H rfl rfl
variable {pc : Nat} {ls : Array Slot} {rest st0 : List Value} {a : Array Value} {A : Nat → Prop} {H0 : Heap} {D : va_G} {tys : List (ClassId × FieldType)} {ws wc w1 wr ws2 : va_W}
theorem xJoin {t : State} {H1 : Heap} (hP : va_P D vwCl ws H) (hD : va_D A ws) (isC isR pm : List Nat) (hC : isC.map (fun i => ws[i]?) = wc.map some) (hR : isR.map (fun i => ws[i]?) = wr.map some) (hn : va_nd isR = true) (hdis : ∀ i ∈ isR, i ∉ isC) (hpm : pm.map (fun i => (wr ++ w1)[i]?) = ws2.map some) (hnp : va_nd pm = true)
    (hFc : ∀ q, va_A wc H.size q → A q) (ht : t.heap = H1) (hB : xB D tys wc w1 H.size t) (hk : ∀ q : Nat, q < H.size → ¬ va_A wc H.size q → H1[q]? = H[q]?) : va_P D vwCl ws2 H1 ∧ va_D A ws2 := by
  obtain ⟨hP1, hK1, hD1⟩ := hB
  rw [ht] at hP1
  obtain ⟨hP2, hD2⟩ := va_join hP hD isC isR hC hR hn hdis hk hFc hP1 hD1
  exact ⟨hP2.sub pm (x_fm hpm), hD2.sub pm hnp hpm⟩
theorem xFi {r : Int32} (hr : va_Run p l e R s m args below meth c H locs cells slots 0 0 (F0 m pc ls st0) rest (xQi D tys wc w1 H.size r a) (va_A wc H.size)) (hS : va_S A H0 H locs) (hA : ∀ q, H0.size ≤ q → A q) (hP : va_P D vwCl ws H) (hD : va_D A ws) (isC isR pm : List Nat) (hC : isC.map (fun i => ws[i]?) = wc.map some) (hR : isR.map (fun i => ws[i]?) = wr.map some) (hn : va_nd isR = true) (hdis : ∀ i ∈ isR, i ∉ isC) (hpm : pm.map (fun i => (wr ++ w1)[i]?) = ws2.map some) (hnp : va_nd pm = true)
    (kk : ∀ (H1 : Heap) (locs1 : List Loc), va_P D vwCl ws2 H1 → va_D A ws2 → va_S A H0 H1 locs1 → W p l e R s m args below meth c H1 locs1 cells slots Q (F0 m (pc + 3) ls (.int r :: rest))) : W p l e R s m args below meth c H locs cells slots Q (F0 m pc ls st0) := by
  have hFc := va_free (wc := wc) hD hS hA isC hC
  unfold xQi at hr
  refine va_calli hr hS (fun q _ h => hFc q h) hFc (fun r' u t H1 locs1 ht hvm hw hB hz1 hk1 hS => ?_)
  subst hw
  obtain ⟨h1, h2⟩ := xJoin hP hD isC isR pm hC hR hn hdis hpm hnp hFc ht hB hk1
  exact kk H1 locs1 h1 h2 hS
theorem xFz {r : Int32} (hr : va_Run p l e R s m args below meth c H locs cells slots 0 0 (F0 m pc ls st0) rest (xQz D tys wc w1 H.size r a) (va_A wc H.size)) (hS : va_S A H0 H locs) (hA : ∀ q, H0.size ≤ q → A q) (hP : va_P D vwCl ws H) (hD : va_D A ws) (isC isR pm : List Nat) (hC : isC.map (fun i => ws[i]?) = wc.map some) (hR : isR.map (fun i => ws[i]?) = wr.map some) (hn : va_nd isR = true) (hdis : ∀ i ∈ isR, i ∉ isC) (hpm : pm.map (fun i => (wr ++ w1)[i]?) = ws2.map some) (hnp : va_nd pm = true)
    (kk : ∀ (H1 : Heap) (locs1 : List Loc), narrow .boolean (.int r) = .int r → va_P D vwCl ws2 H1 → va_D A ws2 → va_S A H0 H1 locs1 → W p l e R s m args below meth c H1 locs1 cells slots Q (F0 m (pc + 3) ls (.int r :: rest))) : W p l e R s m args below meth c H locs cells slots Q (F0 m pc ls st0) := by
  have hFc := va_free (wc := wc) hD hS hA isC hC
  unfold xQz at hr
  refine va_calli hr hS (fun q _ h => hFc q h) hFc (fun r' u t H1 locs1 ht hvm hw hB hz1 hk1 hS => ?_)
  obtain ⟨hw, hz⟩ := hw
  subst hw
  obtain ⟨h1, h2⟩ := xJoin hP hD isC isR pm hC hR hn hdis hpm hnp hFc ht hB hk1
  exact kk H1 locs1 hz h1 h2 hS
theorem xFl {r : Int64} (hr : va_Run p l e R s m args below meth c H locs cells slots 0 0 (F0 m pc ls st0) rest (xQl D tys wc w1 H.size r a) (va_A wc H.size)) (hS : va_S A H0 H locs) (hA : ∀ q, H0.size ≤ q → A q) (hP : va_P D vwCl ws H) (hD : va_D A ws) (isC isR pm : List Nat) (hC : isC.map (fun i => ws[i]?) = wc.map some) (hR : isR.map (fun i => ws[i]?) = wr.map some) (hn : va_nd isR = true) (hdis : ∀ i ∈ isR, i ∉ isC) (hpm : pm.map (fun i => (wr ++ w1)[i]?) = ws2.map some) (hnp : va_nd pm = true)
    (kk : ∀ (H1 : Heap) (locs1 : List Loc), va_P D vwCl ws2 H1 → va_D A ws2 → va_S A H0 H1 locs1 → W p l e R s m args below meth c H1 locs1 cells slots Q (F0 m (pc + 3) ls (.long r :: rest))) : W p l e R s m args below meth c H locs cells slots Q (F0 m pc ls st0) := by
  have hFc := va_free (wc := wc) hD hS hA isC hC
  unfold xQl at hr
  refine va_calll hr hS (fun q _ h => hFc q h) hFc (fun r' u t H1 locs1 ht hvm hw hB hz1 hk1 hS => ?_)
  subst hw
  obtain ⟨h1, h2⟩ := xJoin hP hD isC isR pm hC hR hn hdis hpm hnp hFc ht hB hk1
  exact kk H1 locs1 h1 h2 hS
theorem xFv (hr : va_Run p l e R s m args below meth c H locs cells slots 0 0 (F0 m pc ls st0) rest (xQv D tys wc w1 H.size a) (va_A wc H.size)) (hS : va_S A H0 H locs) (hA : ∀ q, H0.size ≤ q → A q) (hP : va_P D vwCl ws H) (hD : va_D A ws) (isC isR pm : List Nat) (hC : isC.map (fun i => ws[i]?) = wc.map some) (hR : isR.map (fun i => ws[i]?) = wr.map some) (hn : va_nd isR = true) (hdis : ∀ i ∈ isR, i ∉ isC) (hpm : pm.map (fun i => (wr ++ w1)[i]?) = ws2.map some) (hnp : va_nd pm = true)
    (kk : ∀ (H1 : Heap) (locs1 : List Loc), va_P D vwCl ws2 H1 → va_D A ws2 → va_S A H0 H1 locs1 → W p l e R s m args below meth c H1 locs1 cells slots Q (F0 m (pc + 3) ls rest)) : W p l e R s m args below meth c H locs cells slots Q (F0 m pc ls st0) := by
  have hFc := va_free (wc := wc) hD hS hA isC hC
  unfold xQv at hr
  refine va_callv hr hS (fun q _ h => hFc q h) hFc (fun u t H1 locs1 ht hvm hw hB hz1 hk1 hS => ?_)
  obtain ⟨h1, h2⟩ := xJoin hP hD isC isR pm hC hR hn hdis hpm hnp hFc ht hB hk1
  exact kk H1 locs1 h1 h2 hS
theorem xFr {r : Nat} (hr : va_Run p l e R s m args below meth c H locs cells slots 0 0 (F0 m pc ls st0) rest (xQr D tys wc w1 H.size r a) (va_A wc H.size)) (hS : va_S A H0 H locs) (hA : ∀ q, H0.size ≤ q → A q) (hP : va_P D vwCl ws H) (hD : va_D A ws) (isC isR pm : List Nat) (hC : isC.map (fun i => ws[i]?) = wc.map some) (hR : isR.map (fun i => ws[i]?) = wr.map some) (hn : va_nd isR = true) (hdis : ∀ i ∈ isR, i ∉ isC) (hpm : pm.map (fun i => (wr ++ w1)[i]?) = ws2.map some) (hnp : va_nd pm = true)
    (kk : ∀ (H1 : Heap) (locs1 : List Loc), va_P D vwCl ws2 H1 → va_D A ws2 → va_S A H0 H1 locs1 → W p l e R s m args below meth c H1 locs1 cells slots Q (F0 m (pc + 3) ls (.ref r :: rest))) : W p l e R s m args below meth c H locs cells slots Q (F0 m pc ls st0) := by
  have hFc := va_free (wc := wc) hD hS hA isC hC
  unfold xQr at hr
  refine va_callr hr hS (fun q _ h => hFc q h) hFc (fun u r' t H1 locs1 ht hvm hw hB hz1 hk1 hS => ?_)
  obtain ⟨hw, hB⟩ := hB
  subst hw
  obtain ⟨h1, h2⟩ := xJoin hP hD isC isR pm hC hR hn hdis hpm hnp hFc ht hB hk1
  exact kk H1 locs1 h1 h2 hS
theorem xBlind {sz : Nat} {as : List Value} : FrameBlind (xPre D tys wc sz as) := fun a U g mk q => by
  obtain ⟨q0, q1, qP, qK, qD, qN⟩ := q
  exact ⟨q0, q1, qP, va_K.moved (u := U) (U := U.calling g mk a) (Vm.Alike.refl U.vm) qK, qD, xNest.same (s := U) (U := U.calling g mk a) rfl qN⟩
theorem xPV {C : String} {T : u_T} {N : Nat} {b : Nat} {As : List Value} {ci : Nat} {fs : List Value} (hPc : va_P D vwCl wc H) (hDc : va_D A wc) (hK : va_K D vwCl tys s) (hN : xNest s) (q0 : Nat) (he : wc[q0]? = some (b, .inr (ci, fs))) (hcl : vwCl[ci]? = some (C, T, N)) : PreV s H C b (xPre D tys wc H.size (.ref b :: As)) As :=
  ⟨xBlind, va_recv hK hPc hcl he, fun U hU hW => ⟨rfl, by rw [hU], by rw [hU]; exact hPc, va_K.moved hW.alike hK, hDc.weaken (fun _ _ _ _ => trivial), hN.warm hW⟩⟩
theorem xPS {As : List Value} (hPc : va_P D vwCl wc H) (hDc : va_D A wc) (hK : va_K D vwCl tys s) (hN : xNest s) : PreS s H (xPre D tys wc H.size As) As :=
  ⟨xBlind, fun U hU hW => ⟨rfl, by rw [hU], by rw [hU]; exact hPc, va_K.moved hW.alike hK, hDc.weaken (fun _ _ _ _ => trivial), hN.warm hW⟩⟩
theorem xE.moved {aP aD : Nat} {u U : State} (hvm : u.vm.Alike U.vm) (h : xE aP aD A u H) : xE aP aD A U H := ⟨h.1.moved hvm, h.2.moved hvm⟩
theorem xE.at {aP aD : Nat} {B : Nat → Prop} (h : xE aP aD A s H0) (hS : va_S A H0 H locs) (hF : ∀ q, B q → A q) : xE aP aD B s H :=
  ⟨(h.1.kept hS.2.1).narrow hF, (h.2.kept hS.2.1).narrow hF⟩
theorem xBlindE {aP aD sz : Nat} {as : List Value} : FrameBlind (xPreE aP aD D tys wc sz as) := fun a U g mk q => by
  obtain ⟨q0, q1, qP, qK, qD, qN, qE⟩ := q
  exact ⟨q0, q1, qP, va_K.moved (u := U) (U := U.calling g mk a) (Vm.Alike.refl U.vm) qK, qD, xNest.same (s := U) (U := U.calling g mk a) rfl qN, xE.moved (u := U) (U := U.calling g mk a) (Vm.Alike.refl U.vm) qE⟩
theorem xPVE {aP aD : Nat} {C : String} {T : u_T} {N : Nat} {b : Nat} {As : List Value} {ci : Nat} {fs : List Value} (hPc : va_P D vwCl wc H) (hDc : va_D A wc) (hK : va_K D vwCl tys s) (hN : xNest s) (hE : xE aP aD A s H0) (hS : va_S A H0 H locs) (hF : ∀ q, va_A wc H.size q → A q) (q0 : Nat) (he : wc[q0]? = some (b, .inr (ci, fs))) (hcl : vwCl[ci]? = some (C, T, N)) : PreV s H C b (xPreE aP aD D tys wc H.size (.ref b :: As)) As :=
  ⟨xBlindE, va_recv hK hPc hcl he, fun U hU hW => ⟨rfl, by rw [hU], by rw [hU]; exact hPc, va_K.moved hW.alike hK, hDc.weaken (fun _ _ _ _ => trivial), hN.warm hW, by rw [hU]; exact (hE.at hS hF).moved hW.alike⟩⟩
theorem xPSE {aP aD : Nat} {As : List Value} (hPc : va_P D vwCl wc H) (hDc : va_D A wc) (hK : va_K D vwCl tys s) (hN : xNest s) (hE : xE aP aD A s H0) (hS : va_S A H0 H locs) (hF : ∀ q, va_A wc H.size q → A q) : PreS s H (xPreE aP aD D tys wc H.size As) As :=
  ⟨xBlindE, fun U hU hW => ⟨rfl, by rw [hU], by rw [hU]; exact hPc, va_K.moved hW.alike hK, hDc.weaken (fun _ _ _ _ => trivial), hN.warm hW, by rw [hU]; exact (hE.at hS hF).moved hW.alike⟩⟩
theorem xP0 : va_P D vwCl [] H := fun k q h => by simp at h
theorem xD0 (A : Nat → Prop) : va_D A [] := ⟨fun i j p q h => by simp at h, fun k q h => by simp at h⟩
-- constructors: an array that is made is of the class that the tables name
theorem xTy {cI cJ cZ cA : ClassId} {ty : FieldType} (k : Nat) {c0 : ClassId} (hk : k < 3) (h0 : (kT cI cJ cZ)[k]? = some (c0, ty)) (hty : ∀ C : String, ty ≠ .object C) (hK : va_K D vwCl (kT cI cJ cZ ++ [(cA, ty)]) s) : cA = c0 := by
  have h1 := (hK.2 k (c0, ty) (by rw [List.getElem?_append_left (show k < (kT cI cJ cZ).length from hk)]; exact h0)).2
  have h2 := (hK.2 3 (cA, ty) rfl).2
  cases ty with
  | object C => exact absurd rfl (hty C)
  | _ => exact Option.some.inj (h2.symm.trans h1)
theorem xNewI {cI cJ cZ : ClassId} {cc : ByteArray} (hexec : p.tables.exec = Jvm.exec) (hb : c.code = cc) (harr : (Cond.arrayClass .int).before args s = true) (hK : va_K D vwCl (kT cI cJ cZ) s) (hP : va_P D vwCl ws H) (hD : va_D A ws) (hS : va_S A H0 H locs) (hA : ∀ q, H0.size ≤ q → A q)
    {n : Int32} {N' : Nat} (hn : ¬ n < 0) (hN : n.toNatClampNeg = N') (hcells : cells + 1 ≤ R.cells) (hslots : slots + N' ≤ R.slots) (hdg : decode cc pc = .ok (.newarray .int, 2)) (hbig : N' ≤ 5000 := by decide)
    (kk : ∀ (q : Nat) (H1 : Heap), va_P D vwCl (ws ++ wA cI q N' (fun _ => 0)) H1 → va_D A (ws ++ wA cI q N' (fun _ => 0)) → va_S A H0 H1 locs → W p l e R s m args below meth c H1 locs (cells + 1) (slots + N') Q (F0 m (pc + 2) ls (.ref q :: rest))) : W p l e R s m args below meth c H locs cells slots Q (F0 m pc ls (.int n :: rest)) :=
  va_newa (atype := .int) (ty := .int) (a0 := (N', .inl (fun _ => 0))) hexec hb harr rfl hK hP hD hS hA (fun _ => rfl) hn hN (by show N' * 4 ≤ _; omega) hcells hslots hdg (fun q cA H1 hK1 hP1 hD1 hS1 => by
    have e := xTy 0 (by decide) rfl (fun C h => by cases h) hK1
    subst e
    exact kk q H1 hP1 hD1 hS1)
def wAJ (cJ : ClassId) (a n : Nat) (f : Nat → Int64) : va_W := [(a, .inl (cJ, n, .inr (.inl f)))]
def wAZ (cZ : ClassId) (a n : Nat) (f : Nat → Int32) : va_W := [(a, .inl (cZ, n, .inl f))]
theorem xNewJ {cI cJ cZ : ClassId} {cc : ByteArray} (hexec : p.tables.exec = Jvm.exec) (hb : c.code = cc) (harr : (Cond.arrayClass .long).before args s = true) (hK : va_K D vwCl (kT cI cJ cZ) s) (hP : va_P D vwCl ws H) (hD : va_D A ws) (hS : va_S A H0 H locs) (hA : ∀ q, H0.size ≤ q → A q)
    {n : Int32} {N' : Nat} (hn : ¬ n < 0) (hN : n.toNatClampNeg = N') (hcells : cells + 1 ≤ R.cells) (hslots : slots + N' ≤ R.slots) (hdg : decode cc pc = .ok (.newarray .long, 2)) (hbig : N' ≤ 5000 := by decide)
    (kk : ∀ (q : Nat) (H1 : Heap), va_P D vwCl (ws ++ wAJ cJ q N' (fun _ => 0)) H1 → va_D A (ws ++ wAJ cJ q N' (fun _ => 0)) → va_S A H0 H1 locs → W p l e R s m args below meth c H1 locs (cells + 1) (slots + N') Q (F0 m (pc + 2) ls (.ref q :: rest))) : W p l e R s m args below meth c H locs cells slots Q (F0 m pc ls (.int n :: rest)) :=
  va_newa (atype := .long) (ty := .long) (a0 := (N', .inr (.inl (fun _ => 0)))) hexec hb harr rfl hK hP hD hS hA (fun _ => rfl) hn hN (by show N' * 8 ≤ _; omega) hcells hslots hdg (fun q cA H1 hK1 hP1 hD1 hS1 => by
    have e := xTy 1 (by decide) rfl (fun C h => by cases h) hK1
    subst e
    exact kk q H1 hP1 hD1 hS1)
theorem xNewZ {cI cJ cZ : ClassId} {cc : ByteArray} (hexec : p.tables.exec = Jvm.exec) (hb : c.code = cc) (harr : (Cond.arrayClass .boolean).before args s = true) (hK : va_K D vwCl (kT cI cJ cZ) s) (hP : va_P D vwCl ws H) (hD : va_D A ws) (hS : va_S A H0 H locs) (hA : ∀ q, H0.size ≤ q → A q)
    {n : Int32} {N' : Nat} (hn : ¬ n < 0) (hN : n.toNatClampNeg = N') (hcells : cells + 1 ≤ R.cells) (hslots : slots + N' ≤ R.slots) (hdg : decode cc pc = .ok (.newarray .boolean, 2)) (hbig : N' ≤ 5000 := by decide)
    (kk : ∀ (q : Nat) (H1 : Heap), va_P D vwCl (ws ++ wAZ cZ q N' (fun _ => 0)) H1 → va_D A (ws ++ wAZ cZ q N' (fun _ => 0)) → va_S A H0 H1 locs → W p l e R s m args below meth c H1 locs (cells + 1) (slots + N') Q (F0 m (pc + 2) ls (.ref q :: rest))) : W p l e R s m args below meth c H locs cells slots Q (F0 m pc ls (.int n :: rest)) :=
  va_newa (atype := .boolean) (ty := .boolean) (a0 := (N', .inl (fun _ => 0))) hexec hb harr rfl hK hP hD hS hA (fun _ => rfl) hn hN (by show N' * 1 ≤ _; omega) hcells hslots hdg (fun q cA H1 hK1 hP1 hD1 hS1 => by
    have e := xTy 2 (by decide) rfl (fun C h => by cases h) hK1
    subst e
    exact kk q H1 hP1 hD1 hS1)
def xQvI {S : Type} (D : va_G) (tys : List (ClassId × FieldType)) (wc : va_W) (w1 : S → va_W) (sz : Nat) (post : S → Prop) : Array Value → State → Outcome → State → Prop := va_Qv post (fun u t => xB D tys wc (w1 u) sz t) (va_A wc sz)
theorem xFvI {S : Type} {post : S → Prop} {w1 : S → va_W} {mc ms : Nat} (hr : va_Run p l e R s m args below meth c H locs cells slots mc ms (F0 m pc ls st0) rest (xQvI D tys wc w1 H.size post a) (va_A wc H.size)) (hS : va_S A H0 H locs) (hA : ∀ q, H0.size ≤ q → A q) (hP : va_P D vwCl ws H) (hD : va_D A ws) (isC isR : List Nat) (hC : isC.map (fun i => ws[i]?) = wc.map some) (hR : isR.map (fun i => ws[i]?) = wr.map some) (hn : va_nd isR = true) (hdis : ∀ i ∈ isR, i ∉ isC)
    (kk : ∀ (u : S) (H1 : Heap) (locs1 : List Loc), post u → va_P D vwCl (wr ++ w1 u) H1 → va_D A (wr ++ w1 u) → va_S A H0 H1 locs1 → W p l e R s m args below meth c H1 locs1 (cells + mc) (slots + ms) Q (F0 m (pc + 3) ls rest)) : W p l e R s m args below meth c H locs cells slots Q (F0 m pc ls st0) := by
  have hFc := va_free (wc := wc) hD hS hA isC hC
  unfold xQvI at hr
  refine va_callv hr hS (fun q _ h => hFc q h) hFc (fun u t H1 locs1 ht hvm hw hB hz1 hk1 hS => ?_)
  obtain ⟨hP1, hK1, hD1⟩ := hB
  rw [ht] at hP1
  obtain ⟨hP2, hD2⟩ := va_join hP hD isC isR hC hR hn hdis hk1 hFc hP1 hD1
  exact kk u H1 locs1 hw hP2 hD2 hS
theorem xRvI {S : Type} (u : S) {post : S → Prop} {w1 : S → va_W} {sz : Nat} {cc : ByteArray} (hx : p.tables.exec = Jvm.exec) (hb : c.code = cc) (hr : meth.sig.returnType = none) (hlocks : meth.locks = false) (hQ : Q = MQ below (xQvI D tys wc w1 sz post) args s cells slots (va_A wc sz)) (hAe : A = va_A wc sz) (hp : post u) (hP : va_P D vwCl (w1 u) H) (hD : va_D A (w1 u)) (hK : va_K D vwCl tys s) (hS : va_S A s.heap H locs) (hdg : decode cc pc = .ok (.return_, 1)) : W p l e R s m args below meth c H locs cells slots Q (F0 m pc ls []) := by
  subst hQ; subst hAe
  exact W.vret hx hb hr (fun t ht hW => ⟨⟨u, rfl, hp, by rw [ht]; exact hP, va_K.moved hW.alike hK, hD⟩, hS.F ht⟩) hS.2.2 hdg
-- the ends
theorem xRi {sz : Nat} {cc : ByteArray} {v r : Int32} (hx : p.tables.exec = Jvm.exec) (hb : c.code = cc) (hr : meth.sig.returnType = some .int) (hlocks : meth.locks = false) (hQ : Q = MQ below (xQi D tys wc w1 sz r) args s cells slots (va_A wc sz)) (hAe : A = va_A wc sz) (hP : va_P D vwCl w1 H) (hD : va_D A w1) (hK : va_K D vwCl tys s) (hS : va_S A s.heap H locs) (hv : v = r) (hdg : decode cc pc = .ok (.ireturn, 1)) : W p l e R s m args below meth c H locs cells slots Q (F0 m pc ls [.int v]) := by
  subst hQ; subst hAe; subst hv
  exact W.iret hx hb hr (fun t ht hW => ⟨⟨v, (), rfl, rfl, by rw [ht]; exact hP, va_K.moved hW.alike hK, hD⟩, hS.F ht⟩) hS.2.2 hdg
theorem xRz {sz : Nat} {cc : ByteArray} {v r : Int32} (hx : p.tables.exec = Jvm.exec) (hb : c.code = cc) (hr : meth.sig.returnType = some .boolean) (hlocks : meth.locks = false) (hQ : Q = MQ below (xQz D tys wc w1 sz r) args s cells slots (va_A wc sz)) (hAe : A = va_A wc sz) (hP : va_P D vwCl w1 H) (hD : va_D A w1) (hK : va_K D vwCl tys s) (hS : va_S A s.heap H locs) (hv : v = r) (hz : narrow .boolean (.int v) = .int v) (hdg : decode cc pc = .ok (.ireturn, 1)) : W p l e R s m args below meth c H locs cells slots Q (F0 m pc ls [.int v]) := by
  subst hQ; subst hAe; subst hv
  exact W.zret hx hb hr hz (fun t ht hW => ⟨⟨v, (), rfl, ⟨rfl, hz⟩, by rw [ht]; exact hP, va_K.moved hW.alike hK, hD⟩, hS.F ht⟩) hS.2.2 hdg
theorem xRl {sz : Nat} {cc : ByteArray} {v r : Int64} (hx : p.tables.exec = Jvm.exec) (hb : c.code = cc) (hr : meth.sig.returnType = some .long) (hlocks : meth.locks = false) (hQ : Q = MQ below (xQl D tys wc w1 sz r) args s cells slots (va_A wc sz)) (hAe : A = va_A wc sz) (hP : va_P D vwCl w1 H) (hD : va_D A w1) (hK : va_K D vwCl tys s) (hS : va_S A s.heap H locs) (hv : v = r) (hdg : decode cc pc = .ok (.lreturn, 1)) : W p l e R s m args below meth c H locs cells slots Q (F0 m pc ls [.long v]) := by
  subst hQ; subst hAe; subst hv
  exact W.lret hx hb hr (fun t ht hW => ⟨⟨v, (), rfl, rfl, by rw [ht]; exact hP, va_K.moved hW.alike hK, hD⟩, hS.F ht⟩) hS.2.2 hdg
theorem xRv {sz : Nat} {cc : ByteArray} (hx : p.tables.exec = Jvm.exec) (hb : c.code = cc) (hr : meth.sig.returnType = none) (hlocks : meth.locks = false) (hQ : Q = MQ below (xQv D tys wc w1 sz) args s cells slots (va_A wc sz)) (hAe : A = va_A wc sz) (hP : va_P D vwCl w1 H) (hD : va_D A w1) (hK : va_K D vwCl tys s) (hS : va_S A s.heap H locs) (hdg : decode cc pc = .ok (.return_, 1)) : W p l e R s m args below meth c H locs cells slots Q (F0 m pc ls []) := by
  subst hQ; subst hAe
  exact W.vret hx hb hr (fun t ht hW => ⟨⟨(), rfl, trivial, by rw [ht]; exact hP, va_K.moved hW.alike hK, hD⟩, hS.F ht⟩) hS.2.2 hdg
theorem xRr {sz : Nat} {cc : ByteArray} {v r : Nat} {rt : FieldType} (hx : p.tables.exec = Jvm.exec) (hb : c.code = cc) (hr : meth.sig.returnType = some rt) (hlocks : meth.locks = false) (hrt : ∃ n' : String, rt = .object n') (hQ : Q = MQ below (xQr D tys wc w1 sz r) args s cells slots (va_A wc sz)) (hAe : A = va_A wc sz) (hP : va_P D vwCl w1 H) (hD : va_D A w1) (hK : va_K D vwCl tys s) (hS : va_S A s.heap H locs) (hv : v = r) (hdg : decode cc pc = .ok (.areturn, 1)) : W p l e R s m args below meth c H locs cells slots Q (F0 m pc ls [.ref v]) := by
  subst hQ; subst hAe; subst hv
  exact W.aret hx hb hr (Or.inl hrt) (Or.inr ⟨v, rfl⟩) (fun t ht hW => ⟨⟨(), v, rfl, trivial, rfl, by rw [ht]; exact hP, va_K.moved hW.alike hK, hD⟩, hS.F ht⟩) hS.2.2 hdg
end XW
