/-! WHAT EVERY WALK STANDS ON: the states of the components, the mirror's own words, the call rows in one shape -/
abbrev TI : Type := Nat → Nat → Int32
abbrev TL : Type := Nat → Nat → Int64
def upA (T : TI) (i : Nat) (f : Nat → Int32) : TI := fun a => bif Nat.beq a i then f else T a
def upAL (T : TL) (i : Nat) (f : Nat → Int64) : TL := fun a => bif Nat.beq a i then f else T a
def sf (T : TI) (j : Nat) (v : Int32) : TI := upA T 0 (upd (T 0) j v)
def sfL (T : TL) (j : Nat) (v : Int64) : TL := upAL T 0 (vp_updL (T 0) j v)
def sa (T : TI) (k i : Nat) (v : Int32) : TI := upA T k (upd (T k) i v)
def saL (T : TL) (k i : Nat) (v : Int64) : TL := upAL T k (vp_updL (T k) i v)
def jrem (x y : Int32) : Int32 := x - x / y * y
def jremL (x y : Int64) : Int64 := x - x / y * y
def jushr (x y : Int32) : Int32 := (x.toUInt32 >>> (y.toUInt32 &&& Int32.toUInt32 31)).toInt32
/-- a loop of the mirror: n rounds at the most -/
def loopF {σ ρ : Type} (b : σ → (σ → Option ρ) → Option ρ) : Nat → σ → Option ρ
  | 0, _ => none
  | n + 1, s => b s (loopF b n)
theorem loopF_0 {σ ρ : Type} {b : σ → (σ → Option ρ) → Option ρ} {s : σ} {o : ρ} {P : Prop} (h : loopF b 0 s = some o) : P := by cases h
theorem loopF_s {σ ρ : Type} {b : σ → (σ → Option ρ) → Option ρ} {n : Nat} {s : σ} {o : Option ρ} (h : loopF b (n + 1) s = o) : b s (loopF b n) = o := h
def gd {α : Type} (b : Bool) (x : Option α) : Option α := bif b then x else none
def inB (i : Int32) (n : Nat) : Bool := !(decide (i < 0) || decide (n ≤ i.toNatClampNeg))
def nz (x : Int32) : Bool := !(decide (x = 0))
def nzL (x : Int64) : Bool := !(decide (x = 0))
theorem q_in {α : Type} {i : Int32} {n : Nat} {x : Option α} {o : α} (h : gd (inB i n) x = some o) : vp_in i n ∧ x = some o := by
  unfold gd inB at h
  by_cases h1 : i < 0
  · simp [h1] at h
  · by_cases h2 : n ≤ i.toNatClampNeg
    · simp [h1, h2] at h
    · simp [h1, h2] at h
      exact ⟨fun q => q.elim h1 h2, h⟩
theorem q_nz {α : Type} {y : Int32} {x : Option α} {o : α} (h : gd (nz y) x = some o) : (¬ y = 0) ∧ x = some o := by
  unfold gd nz at h
  by_cases h1 : y = 0
  · simp [h1] at h
  · simp [h1] at h
    exact ⟨h1, h⟩
theorem q_nzL {α : Type} {y : Int64} {x : Option α} {o : α} (h : gd (nzL y) x = some o) : (¬ y = 0) ∧ x = some o := by
  unfold gd nzL at h
  by_cases h1 : y = 0
  · simp [h1] at h
  · simp [h1] at h
    exact ⟨h1, h⟩
theorem q_pos {α : Type} {c : Prop} [Decidable c] {a b o : α} (hc : c) (h : (if c then a else b) = o) : a = o := by rw [if_pos hc] at h; exact h
theorem q_neg {α : Type} {c : Prop} [Decidable c] {a b o : α} (hc : ¬ c) (h : (if c then a else b) = o) : b = o := by rw [if_neg hc] at h; exact h
theorem q_bind {α β : Type} {x : Option α} {f : α → Option β} {o : β} (h : x.bind f = some o) : ∃ u, x = some u ∧ f u = some o := by
  cases x with
  | none => cases h
  | some u => exact ⟨u, rfl, h⟩
theorem q_some {α : Type} {a o : α} (h : some a = some o) : o = a := (Option.some.inj h).symm
-- the cells of a component
abbrev kT (cI cJ cZ : ClassId) : List (ClassId × FieldType) := [(cI, .int), (cJ, .long), (cZ, .boolean)]
def w0 (cJ : ClassId) (q : Nat → Nat) (A : TL) : va_W := [(q 0, .inr (0, [.ref (q 1), .long (A 0 1), .long (A 0 2), .long (A 0 3)])), (q 1, .inl (cJ, 11, .inr (.inl (A 1))))]
def w1 (q t : Nat → Nat) (C : TI) : va_W := [(q 0, .inr (1, [.ref (t 0), .int (C 0 1), .int (C 0 2), .int (C 0 3), .int (C 0 4), .int (C 0 5), .int (C 0 6)]))]
def w2 (cI : ClassId) (q : Nat → Nat) (P : TI) : va_W := [(q 0, .inr (2, [.ref (q 1), .int (P 0 1)])), (q 1, .inl (cI, 60, .inl (P 1)))]
def w3 (cI : ClassId) (q : Nat → Nat) (F : TI) : va_W := [(q 0, .inr (3, [.ref (q 1), .ref (q 2), .ref (q 3), .int (F 0 3)])), (q 1, .inl (cI, 10, .inl (F 1))), (q 2, .inl (cI, 10, .inl (F 2))), (q 3, .inl (cI, 10, .inl (F 3)))]
def w4 (cI : ClassId) (q : Nat → Nat) (T : TI) : va_W := [(q 0, .inr (4, [.int (T 0 0), .int (T 0 1), .int (T 0 2), .int (T 0 3), .int (T 0 4), .ref (q 6), .ref (q 7), .ref (q 8), .ref (q 9)])), (q 6, .inl (cI, 100, .inl (T 6))), (q 7, .inl (cI, 100, .inl (T 7))), (q 8, .inl (cI, 4, .inl (T 8))), (q 9, .inl (cI, 8, .inl (T 9)))]
def w5 (q t i1 i2 p c f r : Nat → Nat) (X : TI) : va_W := [(q 0, .inr (5, [.ref (t 0), .ref (i1 0), .ref (i2 0), .int (X 0 3), .ref (p 0), .ref (c 0), .ref (f 0), .ref (r 0)]))]
def w6 (cI cJ cZ : ClassId) (q : Nat → Nat) (S : TI) (L : TL) : va_W := [(q 0, .inr (6, [.int (S 0 0), .int (S 0 1), .int (S 0 2), .ref (q 4), .ref (q 5), .ref (q 6), .ref (q 7), .ref (q 8), .int (S 0 8), .ref (q 10), .int (S 0 10), .ref (q 12), .ref (q 13), .ref (q 14), .int (S 0 14), .int (S 0 15), .int (S 0 16), .int (S 0 17), .ref (q 19), .int (S 0 19), .int (S 0 20), .int (S 0 21), .int (S 0 22), .int (S 0 23), .ref (q 25), .ref (q 26), .ref (q 27), .ref (q 28), .ref (q 29), .ref (q 30), .int (S 0 30), .int (S 0 31)])), (q 4, .inl (cI, 100, .inl (S 4))), (q 5, .inl (cI, 100, .inl (S 5))), (q 6, .inl (cI, 4, .inl (S 6))), (q 7, .inl (cI, 8, .inl (S 7))), (q 8, .inl (cI, 8, .inl (S 8))), (q 10, .inl (cI, 60, .inl (S 10))), (q 12, .inl (cI, 60, .inl (S 12))), (q 13, .inl (cI, 60, .inl (S 13))), (q 14, .inl (cI, 60, .inl (S 14))), (q 19, .inl (cI, 203, .inl (S 19))), (q 25, .inl (cI, 6, .inl (S 25))), (q 26, .inl (cI, 6, .inl (S 26))), (q 27, .inl (cJ, 10, .inr (.inl (L 27)))), (q 28, .inl (cI, 1000, .inl (S 28))), (q 29, .inl (cI, 480, .inl (S 29))), (q 30, .inl (cZ, 2, .inl (S 30)))]
-- a contract's start and its end
def xPre (D : va_G) (tys : List (ClassId × FieldType)) (wc : va_W) (sz : Nat) (as : List Value) : Array Value → State → Prop := va_Pc as (fun U => U.heap.size = sz ∧ va_P D vwCl wc U.heap ∧ va_K D vwCl tys U ∧ va_D (fun _ => True) wc)
def xB (D : va_G) (tys : List (ClassId × FieldType)) (wc w1 : va_W) (sz : Nat) (t : State) : Prop := va_P D vwCl w1 t.heap ∧ va_K D vwCl tys t ∧ va_D (va_A wc sz) w1
def xQi (D : va_G) (tys : List (ClassId × FieldType)) (wc w1 : va_W) (sz : Nat) (r : Int32) : Array Value → State → Outcome → State → Prop := va_Qi (fun (x : Int32) (_ : Unit) => x = r) (fun _ t => xB D tys wc w1 sz t) (va_A wc sz)
def xQz (D : va_G) (tys : List (ClassId × FieldType)) (wc w1 : va_W) (sz : Nat) (r : Int32) : Array Value → State → Outcome → State → Prop := va_Qi (fun (x : Int32) (_ : Unit) => x = r ∧ narrow .boolean (.int x) = .int x) (fun _ t => xB D tys wc w1 sz t) (va_A wc sz)
def xQl (D : va_G) (tys : List (ClassId × FieldType)) (wc w1 : va_W) (sz : Nat) (r : Int64) : Array Value → State → Outcome → State → Prop := va_Ql (fun (x : Int64) (_ : Unit) => x = r) (fun _ t => xB D tys wc w1 sz t) (va_A wc sz)
def xQv (D : va_G) (tys : List (ClassId × FieldType)) (wc w1 : va_W) (sz : Nat) : Array Value → State → Outcome → State → Prop := va_Qv (fun (_ : Unit) => True) (fun _ t => xB D tys wc w1 sz t) (va_A wc sz)
def xQr (D : va_G) (tys : List (ClassId × FieldType)) (wc w1 : va_W) (sz : Nat) (r : Nat) : Array Value → State → Outcome → State → Prop := va_Qr (fun (_ : Unit) => True) (fun _ a t => a = r ∧ xB D tys wc w1 sz t) (va_A wc sz)
theorem x_fm {α : Type} {ws : List α} : ∀ {is : List Nat} {w : List α}, is.map (fun i => ws[i]?) = w.map some → is.filterMap (fun i => ws[i]?) = w
  | [], w, h => by
    cases w with
    | nil => rfl
    | cons a w => simp at h
  | i :: is, w, h => by
    cases w with
    | nil => simp at h
    | cons a w =>
      simp only [List.map_cons, List.cons.injEq] at h
      rw [List.filterMap_cons, h.1]
      simp only [List.cons.injEq, true_and]
      exact x_fm h.2
section XW
variable {p : Program} {l : Launch} {e : Env} {R : Room} {s : State} {m : MethodId} {args : Array Value} {below : List Frame} {meth : Method} {c : Code} {H : Heap} {locs : List Loc} {cells slots : Nat} {Q : State → Prop}
theorem xStart {vs : List Value} {n : Nat} {lv : List (Nat × Value)} (hv : args = vs.toArray) (h0 : (lg_sl vs).length ≤ n) (h1 : lv_args 0 vs = lv) (k : ∀ ls : Array Slot, lv_has ls n lv → W p l e R s m args below meth c H locs cells slots Q (F0 m 0 ls [])) : W p l e R s m args below meth c H locs cells slots Q (entryFrame m args n) := by
  have hk := k _ (h1 ▸ lv_entry vs h0)
  have he : entryFrame m args n = F0 m 0 ((lg_sl vs ++ List.replicate (n - (lg_sl vs).length) Slot.unset).toArray) [] := by rw [hv, lg_entry_eq]
  rw [he]
  exact hk
theorem xHead {g : JFrame} {R' : Room} (hR : R = R') (k : ∀ Q' : State → Prop, Q' = Q → W p l e R' s m args below meth c H locs cells slots Q' g) : W p l e R s m args below meth c H locs cells slots Q g := by
  subst hR
  exact k Q rfl
variable {pc : Nat} {ls : Array Slot} {rest st0 : List Value} {a : Array Value} {A : Nat → Prop} {H0 : Heap} {D : va_G} {tys : List (ClassId × FieldType)} {ws wc w1 wr ws2 : va_W}
theorem xJoin {t : State} {H1 : Heap} (hP : va_P D vwCl ws H) (hD : va_D A ws) (isC isR pm : List Nat) (hC : isC.map (fun i => ws[i]?) = wc.map some) (hR : isR.map (fun i => ws[i]?) = wr.map some) (hn : va_nd isR = true) (hdis : ∀ i ∈ isR, i ∉ isC) (hpm : pm.map (fun i => (wr ++ w1)[i]?) = ws2.map some) (hnp : va_nd pm = true)
    (hFc : ∀ q, va_A wc H.size q → A q) (ht : t.heap = H1) (hB : xB D tys wc w1 H.size t) (hk : ∀ q : Nat, q < H.size → ¬ va_A wc H.size q → H1[q]? = H[q]?) : va_P D vwCl ws2 H1 ∧ va_D A ws2 := by
  obtain ⟨hP1, hK1, hD1⟩ := hB
  rw [ht] at hP1
  obtain ⟨hP2, hD2⟩ := va_join hP hD isC isR hC hR hn hdis hk hFc hP1 hD1
  exact ⟨hP2.sub pm (x_fm hpm), hD2.sub pm hnp hpm⟩
theorem xFi {r : Int32} (hr : va_Run p l e R s m args below meth c H locs cells slots 0 0 (F0 m pc ls st0) rest (xQi D tys wc w1 H.size r a) (va_A wc H.size)) (hS : va_S A H0 H locs) (hA : ∀ q, H0.size ≤ q → A q) (hP : va_P D vwCl ws H) (hD : va_D A ws) (isC isR pm : List Nat) (hC : isC.map (fun i => ws[i]?) = wc.map some) (hR : isR.map (fun i => ws[i]?) = wr.map some) (hn : va_nd isR = true) (hdis : ∀ i ∈ isR, i ∉ isC) (hpm : pm.map (fun i => (wr ++ w1)[i]?) = ws2.map some) (hnp : va_nd pm = true)
    (kk : ∀ (H1 : Heap) (locs1 : List Loc), va_P D vwCl ws2 H1 → va_D A ws2 → va_S A H0 H1 locs1 → W p l e R s m args below meth c H1 locs1 cells slots Q (F0 m (pc + 3) ls (.int r :: rest))) : W p l e R s m args below meth c H locs cells slots Q (F0 m pc ls st0) := by
  have hFc := va_free (wc := wc) hD hS hA isC hC
  unfold xQi at hr
  refine va_calli hr hS (fun q _ h => hFc q h) hFc (fun r' u t H1 locs1 ht hvm hw hB hz1 hk1 hS => ?_)
  subst hw
  obtain ⟨h1, h2⟩ := xJoin hP hD isC isR pm hC hR hn hdis hpm hnp hFc ht hB hk1
  exact kk H1 locs1 h1 h2 hS
theorem xFz {r : Int32} (hr : va_Run p l e R s m args below meth c H locs cells slots 0 0 (F0 m pc ls st0) rest (xQz D tys wc w1 H.size r a) (va_A wc H.size)) (hS : va_S A H0 H locs) (hA : ∀ q, H0.size ≤ q → A q) (hP : va_P D vwCl ws H) (hD : va_D A ws) (isC isR pm : List Nat) (hC : isC.map (fun i => ws[i]?) = wc.map some) (hR : isR.map (fun i => ws[i]?) = wr.map some) (hn : va_nd isR = true) (hdis : ∀ i ∈ isR, i ∉ isC) (hpm : pm.map (fun i => (wr ++ w1)[i]?) = ws2.map some) (hnp : va_nd pm = true)
    (kk : ∀ (H1 : Heap) (locs1 : List Loc), narrow .boolean (.int r) = .int r → va_P D vwCl ws2 H1 → va_D A ws2 → va_S A H0 H1 locs1 → W p l e R s m args below meth c H1 locs1 cells slots Q (F0 m (pc + 3) ls (.int r :: rest))) : W p l e R s m args below meth c H locs cells slots Q (F0 m pc ls st0) := by
  have hFc := va_free (wc := wc) hD hS hA isC hC
  unfold xQz at hr
  refine va_calli hr hS (fun q _ h => hFc q h) hFc (fun r' u t H1 locs1 ht hvm hw hB hz1 hk1 hS => ?_)
  obtain ⟨hw, hz⟩ := hw
  subst hw
  obtain ⟨h1, h2⟩ := xJoin hP hD isC isR pm hC hR hn hdis hpm hnp hFc ht hB hk1
  exact kk H1 locs1 hz h1 h2 hS
theorem xFl {r : Int64} (hr : va_Run p l e R s m args below meth c H locs cells slots 0 0 (F0 m pc ls st0) rest (xQl D tys wc w1 H.size r a) (va_A wc H.size)) (hS : va_S A H0 H locs) (hA : ∀ q, H0.size ≤ q → A q) (hP : va_P D vwCl ws H) (hD : va_D A ws) (isC isR pm : List Nat) (hC : isC.map (fun i => ws[i]?) = wc.map some) (hR : isR.map (fun i => ws[i]?) = wr.map some) (hn : va_nd isR = true) (hdis : ∀ i ∈ isR, i ∉ isC) (hpm : pm.map (fun i => (wr ++ w1)[i]?) = ws2.map some) (hnp : va_nd pm = true)
    (kk : ∀ (H1 : Heap) (locs1 : List Loc), va_P D vwCl ws2 H1 → va_D A ws2 → va_S A H0 H1 locs1 → W p l e R s m args below meth c H1 locs1 cells slots Q (F0 m (pc + 3) ls (.long r :: rest))) : W p l e R s m args below meth c H locs cells slots Q (F0 m pc ls st0) := by
  have hFc := va_free (wc := wc) hD hS hA isC hC
  unfold xQl at hr
  refine va_calll hr hS (fun q _ h => hFc q h) hFc (fun r' u t H1 locs1 ht hvm hw hB hz1 hk1 hS => ?_)
  subst hw
  obtain ⟨h1, h2⟩ := xJoin hP hD isC isR pm hC hR hn hdis hpm hnp hFc ht hB hk1
  exact kk H1 locs1 h1 h2 hS
theorem xFv (hr : va_Run p l e R s m args below meth c H locs cells slots 0 0 (F0 m pc ls st0) rest (xQv D tys wc w1 H.size a) (va_A wc H.size)) (hS : va_S A H0 H locs) (hA : ∀ q, H0.size ≤ q → A q) (hP : va_P D vwCl ws H) (hD : va_D A ws) (isC isR pm : List Nat) (hC : isC.map (fun i => ws[i]?) = wc.map some) (hR : isR.map (fun i => ws[i]?) = wr.map some) (hn : va_nd isR = true) (hdis : ∀ i ∈ isR, i ∉ isC) (hpm : pm.map (fun i => (wr ++ w1)[i]?) = ws2.map some) (hnp : va_nd pm = true)
    (kk : ∀ (H1 : Heap) (locs1 : List Loc), va_P D vwCl ws2 H1 → va_D A ws2 → va_S A H0 H1 locs1 → W p l e R s m args below meth c H1 locs1 cells slots Q (F0 m (pc + 3) ls rest)) : W p l e R s m args below meth c H locs cells slots Q (F0 m pc ls st0) := by
  have hFc := va_free (wc := wc) hD hS hA isC hC
  unfold xQv at hr
  refine va_callv hr hS (fun q _ h => hFc q h) hFc (fun u t H1 locs1 ht hvm hw hB hz1 hk1 hS => ?_)
  obtain ⟨h1, h2⟩ := xJoin hP hD isC isR pm hC hR hn hdis hpm hnp hFc ht hB hk1
  exact kk H1 locs1 h1 h2 hS
theorem xFr {r : Nat} (hr : va_Run p l e R s m args below meth c H locs cells slots 0 0 (F0 m pc ls st0) rest (xQr D tys wc w1 H.size r a) (va_A wc H.size)) (hS : va_S A H0 H locs) (hA : ∀ q, H0.size ≤ q → A q) (hP : va_P D vwCl ws H) (hD : va_D A ws) (isC isR pm : List Nat) (hC : isC.map (fun i => ws[i]?) = wc.map some) (hR : isR.map (fun i => ws[i]?) = wr.map some) (hn : va_nd isR = true) (hdis : ∀ i ∈ isR, i ∉ isC) (hpm : pm.map (fun i => (wr ++ w1)[i]?) = ws2.map some) (hnp : va_nd pm = true)
    (kk : ∀ (H1 : Heap) (locs1 : List Loc), va_P D vwCl ws2 H1 → va_D A ws2 → va_S A H0 H1 locs1 → W p l e R s m args below meth c H1 locs1 cells slots Q (F0 m (pc + 3) ls (.ref r :: rest))) : W p l e R s m args below meth c H locs cells slots Q (F0 m pc ls st0) := by
  have hFc := va_free (wc := wc) hD hS hA isC hC
  unfold xQr at hr
  refine va_callr hr hS (fun q _ h => hFc q h) hFc (fun u r' t H1 locs1 ht hvm hw hB hz1 hk1 hS => ?_)
  obtain ⟨hw, hB⟩ := hB
  subst hw
  obtain ⟨h1, h2⟩ := xJoin hP hD isC isR pm hC hR hn hdis hpm hnp hFc ht hB hk1
  exact kk H1 locs1 h1 h2 hS
theorem xBlind {sz : Nat} {as : List Value} : FrameBlind (xPre D tys wc sz as) := fun a U g mk q => by
  obtain ⟨q0, q1, qP, qK, qD⟩ := q
  exact ⟨q0, q1, qP, va_K.moved (u := U) (U := U.calling g mk a) (Vm.Alike.refl U.vm) qK, qD⟩
theorem xPV {C : String} {T : u_T} {N : Nat} {b : Nat} {As : List Value} {ci : Nat} {fs : List Value} (hPc : va_P D vwCl wc H) (hDc : va_D A wc) (hK : va_K D vwCl tys s) (q0 : Nat) (he : wc[q0]? = some (b, .inr (ci, fs))) (hcl : vwCl[ci]? = some (C, T, N)) : PreV s H C b (xPre D tys wc H.size (.ref b :: As)) As :=
  ⟨xBlind, va_recv hK hPc hcl he, fun U hU hW => ⟨rfl, by rw [hU], by rw [hU]; exact hPc, va_K.moved hW.alike hK, hDc.weaken (fun _ _ _ _ => trivial)⟩⟩
theorem xPS {As : List Value} (hPc : va_P D vwCl wc H) (hDc : va_D A wc) (hK : va_K D vwCl tys s) : PreS s H (xPre D tys wc H.size As) As :=
  ⟨xBlind, fun U hU hW => ⟨rfl, by rw [hU], by rw [hU]; exact hPc, va_K.moved hW.alike hK, hDc.weaken (fun _ _ _ _ => trivial)⟩⟩
theorem xP0 : va_P D vwCl [] H := fun k q h => by simp at h
theorem xD0 : va_D A [] := ⟨fun i j p q h => by simp at h, fun k q h => by simp at h⟩
-- the ends
theorem xRi {sz : Nat} {cc : ByteArray} {v r : Int32} (hx : p.tables.exec = Jvm.exec) (hb : c.code = cc) (hr : meth.sig.returnType = some .int) (hlocks : meth.locks = false) (hQ : Q = MQ below (xQi D tys wc w1 sz r) args s cells slots (va_A wc sz)) (hAe : A = va_A wc sz) (hP : va_P D vwCl w1 H) (hD : va_D A w1) (hK : va_K D vwCl tys s) (hS : va_S A s.heap H locs) (hv : v = r) (hdg : decode cc pc = .ok (.ireturn, 1)) : W p l e R s m args below meth c H locs cells slots Q (F0 m pc ls [.int v]) := by
  subst hQ; subst hAe; subst hv
  exact W.iret hx hb hr (fun t ht hW => ⟨⟨v, (), rfl, rfl, by rw [ht]; exact hP, va_K.moved hW.alike hK, hD⟩, hS.F ht⟩) hS.2.2 hdg
theorem xRz {sz : Nat} {cc : ByteArray} {v r : Int32} (hx : p.tables.exec = Jvm.exec) (hb : c.code = cc) (hr : meth.sig.returnType = some .boolean) (hlocks : meth.locks = false) (hQ : Q = MQ below (xQz D tys wc w1 sz r) args s cells slots (va_A wc sz)) (hAe : A = va_A wc sz) (hP : va_P D vwCl w1 H) (hD : va_D A w1) (hK : va_K D vwCl tys s) (hS : va_S A s.heap H locs) (hv : v = r) (hz : narrow .boolean (.int v) = .int v) (hdg : decode cc pc = .ok (.ireturn, 1)) : W p l e R s m args below meth c H locs cells slots Q (F0 m pc ls [.int v]) := by
  subst hQ; subst hAe; subst hv
  exact W.zret hx hb hr hz (fun t ht hW => ⟨⟨v, (), rfl, ⟨rfl, hz⟩, by rw [ht]; exact hP, va_K.moved hW.alike hK, hD⟩, hS.F ht⟩) hS.2.2 hdg
theorem xRl {sz : Nat} {cc : ByteArray} {v r : Int64} (hx : p.tables.exec = Jvm.exec) (hb : c.code = cc) (hr : meth.sig.returnType = some .long) (hlocks : meth.locks = false) (hQ : Q = MQ below (xQl D tys wc w1 sz r) args s cells slots (va_A wc sz)) (hAe : A = va_A wc sz) (hP : va_P D vwCl w1 H) (hD : va_D A w1) (hK : va_K D vwCl tys s) (hS : va_S A s.heap H locs) (hv : v = r) (hdg : decode cc pc = .ok (.lreturn, 1)) : W p l e R s m args below meth c H locs cells slots Q (F0 m pc ls [.long v]) := by
  subst hQ; subst hAe; subst hv
  exact W.lret hx hb hr (fun t ht hW => ⟨⟨v, (), rfl, rfl, by rw [ht]; exact hP, va_K.moved hW.alike hK, hD⟩, hS.F ht⟩) hS.2.2 hdg
theorem xRv {sz : Nat} {cc : ByteArray} (hx : p.tables.exec = Jvm.exec) (hb : c.code = cc) (hr : meth.sig.returnType = none) (hlocks : meth.locks = false) (hQ : Q = MQ below (xQv D tys wc w1 sz) args s cells slots (va_A wc sz)) (hAe : A = va_A wc sz) (hP : va_P D vwCl w1 H) (hD : va_D A w1) (hK : va_K D vwCl tys s) (hS : va_S A s.heap H locs) (hdg : decode cc pc = .ok (.return_, 1)) : W p l e R s m args below meth c H locs cells slots Q (F0 m pc ls []) := by
  subst hQ; subst hAe
  exact W.vret hx hb hr (fun t ht hW => ⟨⟨(), rfl, trivial, by rw [ht]; exact hP, va_K.moved hW.alike hK, hD⟩, hS.F ht⟩) hS.2.2 hdg
theorem xRr {sz : Nat} {cc : ByteArray} {v r : Nat} {rt : FieldType} (hx : p.tables.exec = Jvm.exec) (hb : c.code = cc) (hr : meth.sig.returnType = some rt) (hlocks : meth.locks = false) (hrt : ∃ n' : String, rt = .object n') (hQ : Q = MQ below (xQr D tys wc w1 sz r) args s cells slots (va_A wc sz)) (hAe : A = va_A wc sz) (hP : va_P D vwCl w1 H) (hD : va_D A w1) (hK : va_K D vwCl tys s) (hS : va_S A s.heap H locs) (hv : v = r) (hdg : decode cc pc = .ok (.areturn, 1)) : W p l e R s m args below meth c H locs cells slots Q (F0 m pc ls [.ref v]) := by
  subst hQ; subst hAe; subst hv
  exact W.aret hx hb hr (Or.inl hrt) (Or.inr ⟨v, rfl⟩) (fun t ht hW => ⟨⟨(), v, rfl, trivial, rfl, by rw [ht]; exact hP, va_K.moved hW.alike hK, hD⟩, hS.F ht⟩) hS.2.2 hdg
end XW
