def m_X6_in (n : Nat) (a1 : Int64) (a2 : Int64) (a3 : Int64) : Option Int32 := (if (lg_cmp a1 a2) < 0 then some 0 else (if 0 < (lg_cmp a1 a3) then some 0 else some 1))
set_option maxHeartbeats 4000000 in
set_option maxRecDepth 100000 in
theorem c_X6_in (l : Launch) (D : va_G) (cI cJ cZ : ClassId) (n : Nat)  (sz : Nat) (a1 : Int64) (a2 : Int64) (a3 : Int64) (out : Int32) (hm : m_X6_in n a1 a2 a3 = some out) : Met l yX6_in (wsM yX6_in cX6_in 6 (some .boolean)) { frames := 0, cells := 0, slots := 0, locals := 0 } (xPre D (kT cI cJ cZ) ([] : va_W) sz [.long a1, .long a2, .long a3]) (xQz D (kT cI cJ cZ) ([] : va_W) ([] : va_W) sz out) 0 0 (va_A ([] : va_W) sz) := by
  refine Met.ofW (cc := cX6_in) (maxL := 6) (ret := (some .boolean)) (by decide) rfl ?_
  intro p e s m args below meth c s₁ B hml hv
  obtain ⟨hv, hsz, hP, hK, hD0, hN⟩ := hv
  have hx := B.exec; have hb := B.bytes; have hr := B.returns
  have hts := atoms_spec (ws := (wsM yX6_in cX6_in 6 (some .boolean))) B.pre
  have hown : s.vm.findClass RX6 = some m.cls := findClass_of_methodNamed B.named
  have hlocks := B.notSynchronized
  subst hsz
  have hD := hD0.self (sz := s.heap.size)
  obtain ⟨A, hAe⟩ : ∃ A, A = va_A ([] : va_W) s.heap.size := ⟨_, rfl⟩
  rw [← hAe] at hD
  have hA : ∀ q : Nat, s.heap.size ≤ q → A q := fun q h => by rw [hAe]; exact Or.inr h
  have htl : ∀ w ∈ wsL_law, w.before args s = true := fun w h => hts w (List.mem_cons_of_mem _ h)
  refine xHead (R' := { frames := 0, cells := 0, slots := 0, locals := 0 }) rfl (fun Q H hQ hH => ?_)
  have hP : va_P D vwCl ([] : va_W) H := by rw [hH]; exact hP
  have hS : va_S A s.heap H [] := by rw [hH]; exact va_S.rf
  refine xStart hv (Nat.le_of_ble_eq_true rfl) (lv := [(0, .long a1), (2, .long a2), (4, .long a3)]) rfl (fun ls hl => ?_)
  have h := hm
  unfold m_X6_in at h
  refine lv_lload_n hx hb (dAt zX6_in_0 0 rfl) rfl (lv_at hl 0 rfl) ?_
  refine lv_lload_n hx hb (dAt zX6_in_0 1 rfl) rfl (lv_at hl 1 rfl) ?_
  refine W.lcmp hx hb (dAt zX6_in_0 2 rfl) ?_
  refine lv_if_lt (tgt := 17) hx hb (dAt zX6_in_0 3 rfl) (by decide) (fun c_3 => ?_) (fun c_3 => ?_)
  · have h := q_pos c_3 h
    refine lv_iconst (v := 0) hx hb (dAt zX6_in_0 10 rfl) (by decide) ?_
    obtain rfl := q_some h
    exact xRz hx hb hr hlocks hQ hAe hP hD hK hS rfl rfl (dAt zX6_in_0 11 rfl)
  · have h := q_neg c_3 h
    refine lv_lload_n hx hb (dAt zX6_in_0 4 rfl) rfl (lv_at hl 0 rfl) ?_
    refine lv_lload hx hb (dAt zX6_in_0 5 rfl) (lv_at hl 2 rfl) ?_
    refine W.lcmp hx hb (dAt zX6_in_0 6 rfl) ?_
    refine lv_if_gt (tgt := 17) hx hb (dAt zX6_in_0 7 rfl) (by decide) (fun c_10 => ?_) (fun c_10 => ?_)
    · have h := q_pos c_10 h
      refine lv_iconst (v := 0) hx hb (dAt zX6_in_0 10 rfl) (by decide) ?_
      obtain rfl := q_some h
      exact xRz hx hb hr hlocks hQ hAe hP hD hK hS rfl rfl (dAt zX6_in_0 11 rfl)
    · have h := q_neg c_10 h
      refine lv_iconst (v := 1) hx hb (dAt zX6_in_0 8 rfl) (by decide) ?_
      refine lv_goto (tgt := 18) hx hb (dAt zX6_in_0 9 rfl) (by decide) ?_
      obtain rfl := q_some h
      exact xRz hx hb hr hlocks hQ hAe hP hD hK hS rfl rfl (dAt zX6_in_0 11 rfl)
def b_X6_ones_4 (n : Nat) (s_4 : Int32 × Int32) (k_4 : Int32 × Int32 → Option Int32) : Option Int32 := (if s_4.2 = 0 then some s_4.1 else (k_4 ((s_4.1 + 1), (s_4.2 &&& (s_4.2 - (1 : Int32))))))
def m_X6_ones (n : Nat) (a1 : Int32) : Option Int32 := (loopF (b_X6_ones_4 n ) n (0, a1))
set_option maxHeartbeats 4000000 in
set_option maxRecDepth 100000 in
theorem c_X6_ones (l : Launch) (D : va_G) (cI cJ cZ : ClassId) (n : Nat)  (sz : Nat) (a1 : Int32) (out : Int32) (hm : m_X6_ones n a1 = some out) : Met l yX6_ones (wsM yX6_ones cX6_ones 3 (some .int)) { frames := 0, cells := 0, slots := 0, locals := 0 } (xPre D (kT cI cJ cZ) ([] : va_W) sz [.int a1]) (xQi D (kT cI cJ cZ) ([] : va_W) ([] : va_W) sz out) 0 0 (va_A ([] : va_W) sz) := by
  refine Met.ofW (cc := cX6_ones) (maxL := 3) (ret := (some .int)) (by decide) rfl ?_
  intro p e s m args below meth c s₁ B hml hv
  obtain ⟨hv, hsz, hP, hK, hD0, hN⟩ := hv
  have hx := B.exec; have hb := B.bytes; have hr := B.returns
  have hts := atoms_spec (ws := (wsM yX6_ones cX6_ones 3 (some .int))) B.pre
  have hown : s.vm.findClass RX6 = some m.cls := findClass_of_methodNamed B.named
  have hlocks := B.notSynchronized
  subst hsz
  have hD := hD0.self (sz := s.heap.size)
  obtain ⟨A, hAe⟩ : ∃ A, A = va_A ([] : va_W) s.heap.size := ⟨_, rfl⟩
  rw [← hAe] at hD
  have hA : ∀ q : Nat, s.heap.size ≤ q → A q := fun q h => by rw [hAe]; exact Or.inr h
  have htl : ∀ w ∈ wsL_law, w.before args s = true := fun w h => hts w (List.mem_cons_of_mem _ h)
  refine xHead (R' := { frames := 0, cells := 0, slots := 0, locals := 0 }) rfl (fun Q H hQ hH => ?_)
  have hP : va_P D vwCl ([] : va_W) H := by rw [hH]; exact hP
  have hS : va_S A s.heap H [] := by rw [hH]; exact va_S.rf
  refine xStart hv (Nat.le_of_ble_eq_true rfl) (lv := [(0, .int a1)]) rfl (fun ls hl => ?_)
  have h := hm
  unfold m_X6_ones at h
  refine lv_iconst (v := 0) hx hb (dAt zX6_ones_0 0 rfl) (by decide) ?_
  refine lv_istore_n (lv' := [(1, .int 0), (0, .int a1)]) hx hb (dAt zX6_ones_0 1 rfl) rfl hl (by decide) rfl (fun ls hl => ?_)
  refine lv_iload_n hx hb (dAt zX6_ones_0 2 rfl) rfl (lv_at hl 1 rfl) ?_
  refine lv_istore_n (lv' := [(2, .int a1), (1, .int 0), (0, .int a1)]) hx hb (dAt zX6_ones_0 3 rfl) rfl hl (by decide) rfl (fun ls hl => ?_)
  have L_4 : ∀ (j_4 : Nat) (v1_4 : Int32) (v2_4 : Int32) (H : Heap) (locs : List Loc) (ls : Array Slot), loopF (b_X6_ones_4 n) j_4 (v1_4, v2_4) = some out → va_P D vwCl ([] : va_W) H → va_D A ([] : va_W) → va_S A s.heap H locs → lv_has ls 3 [(1, .int v1_4), (2, .int v2_4)] → W p l e { frames := 0, cells := 0, slots := 0, locals := 0 } s m args below meth c H locs 0 0 Q (F0 m 4 ls []) := by
    intro j_4
    induction j_4 with
    | zero => intro v1_4 v2_4 H locs ls h hP hD hS hl; exact loopF_0 h
    | succ j_4 ih_4 =>
      intro v1_4 v2_4 H locs ls h hP hD hS hl
      have h := loopF_s h
      unfold b_X6_ones_4 at h
      refine lv_iload_n hx hb (dAt zX6_ones_0 4 rfl) rfl (lv_at hl 1 rfl) ?_
      refine lv_if_eq (tgt := 20) hx hb (dAt zX6_ones_0 5 rfl) (by decide) (fun c_5 => ?_) (fun c_5 => ?_)
      · have h := q_pos c_5 h
        refine lv_iload_n hx hb (dAt zX6_ones_0 14 rfl) rfl (lv_at hl 0 rfl) ?_
        obtain rfl := q_some h
        exact xRi hx hb hr hlocks hQ hAe hP hD hK hS rfl (dAt zX6_ones_0 15 rfl)
      · have h := q_neg c_5 h
        refine lv_iinc (v := (v1_4 + 1)) (lv' := [(1, .int (v1_4 + 1)), (2, .int v2_4)]) hx hb (dAt zX6_ones_0 6 rfl) hl (k := 0) rfl rfl (by decide) rfl (fun ls hl => ?_)
        refine lv_iload_n hx hb (dAt zX6_ones_0 7 rfl) rfl (lv_at hl 1 rfl) ?_
        refine lv_iload_n hx hb (dAt zX6_ones_0 8 rfl) rfl (lv_at hl 1 rfl) ?_
        refine lv_iconst (v := 1) hx hb (dAt zX6_ones_0 9 rfl) (by decide) ?_
        refine lv_isub hx hb (dAt zX6_ones_0 10 rfl) ?_
        refine lv_iand hx hb (dAt zX6_ones_0 11 rfl) ?_
        refine lv_istore_n (lv' := [(2, .int (v2_4 &&& (v2_4 - (1 : Int32)))), (1, .int (v1_4 + 1))]) hx hb (dAt zX6_ones_0 12 rfl) rfl hl (by decide) rfl (fun ls hl => ?_)
        refine lv_goto (tgt := 4) hx hb (dAt zX6_ones_0 13 rfl) (by decide) ?_
        exact ih_4 (v1_4 + 1) (v2_4 &&& (v2_4 - (1 : Int32))) _ _ _ h hP hD hS (lv_sub hl [1, 0] rfl)
  exact L_4 n 0 a1 _ _ _ h hP hD hS (lv_sub hl [1, 0] rfl)
def m_X6_isOne (n : Nat) (a1 : Int32) : Option Int32 := ((m_X6_in n  (Int32.toInt64 a1) 0 9).bind fun u6 => gd (isZ u6) (some u6))
set_option maxHeartbeats 4000000 in
set_option maxRecDepth 100000 in
theorem c_X6_isOne (l : Launch) (D : va_G) (cI cJ cZ : ClassId) (n : Nat)  (sz : Nat) (a1 : Int32) (out : Int32) (hm : m_X6_isOne n a1 = some out) : Met l yX6_isOne (wsM yX6_isOne cX6_isOne 1 (some .boolean)) { frames := 1, cells := 0, slots := 0, locals := 25 } (xPre D (kT cI cJ cZ) ([] : va_W) sz [.int a1]) (xQz D (kT cI cJ cZ) ([] : va_W) ([] : va_W) sz out) 0 0 (va_A ([] : va_W) sz) := by
  refine Met.ofW (cc := cX6_isOne) (maxL := 1) (ret := (some .boolean)) (by decide) rfl ?_
  intro p e s m args below meth c s₁ B hml hv
  obtain ⟨hv, hsz, hP, hK, hD0, hN⟩ := hv
  have hx := B.exec; have hb := B.bytes; have hr := B.returns
  have hts := atoms_spec (ws := (wsM yX6_isOne cX6_isOne 1 (some .boolean))) B.pre
  have hown : s.vm.findClass RX6 = some m.cls := findClass_of_methodNamed B.named
  have hlocks := B.notSynchronized
  subst hsz
  have hD := hD0.self (sz := s.heap.size)
  obtain ⟨A, hAe⟩ : ∃ A, A = va_A ([] : va_W) s.heap.size := ⟨_, rfl⟩
  rw [← hAe] at hD
  have hA : ∀ q : Nat, s.heap.size ≤ q → A q := fun q h => by rw [hAe]; exact Or.inr h
  have htl : ∀ w ∈ wsL_law, w.before args s = true := fun w h => hts w (List.mem_cons_of_mem _ h)
  refine xHead (R' := { frames := 1, cells := 0, slots := 0, locals := 25 }) rfl (fun Q H hQ hH => ?_)
  have hP : va_P D vwCl ([] : va_W) H := by rw [hH]; exact hP
  have hS : va_S A s.heap H [] := by rw [hH]; exact va_S.rf
  refine xStart hv (Nat.le_of_ble_eq_true rfl) (lv := [(0, .int a1)]) rfl (fun ls hl => ?_)
  have h := hm
  unfold m_X6_isOne at h
  refine lv_iload_n hx hb (dAt zX6_isOne_0 0 rfl) rfl (lv_at hl 0 rfl) ?_
  refine lv_i2l (v := (Int32.toInt64 a1)) hx hb (dAt zX6_isOne_0 1 rfl) rfl ?_
  refine lv_lconst (v := 0) hx hb (dAt zX6_isOne_0 2 rfl) (by decide) ?_
  refine lv_ldc2 (v := 9) hx hb hown (htl _ W_126) (dAt zX6_isOne_0 3 rfl) ?_
  obtain ⟨u6, hu6, h⟩ := q_bind h
  refine xFz (wc := ([] : va_W)) (w1 := ([] : va_W)) (wr := ([] : va_W)) (ws2 := ([] : va_W)) (va_runS (As := [.long (Int32.toInt64 a1), .long 0, .long 9]) (rest := []) ⟨hx, hb, hml, hown, htl⟩ (c_X6_in l D cI cJ cZ n  H.size  (Int32.toInt64 a1) 0 9 u6 hu6) (va_cwS 3 htl (gS W_130 W_131 W_5 W_132) rfl rfl rfl (by decide +kernel) ⟨Nat.le_of_ble_eq_true rfl, Nat.le_of_ble_eq_true rfl⟩) (xPS hP hD hK hN) rfl rfl hl.1 rfl (lv_room (Nat.le_of_ble_eq_true rfl)) (dAt zX6_isOne_0 4 rfl) ⟨Nat.zero_le _, Nat.zero_le _⟩) hS hA hP hD [] [] [] rfl rfl (by decide) (by decide) rfl (by decide) (fun H locs hz6 hP hD hS => ?_)
  obtain ⟨hzz, h⟩ := q_z h
  obtain rfl := q_some h
  exact xRz hx hb hr hlocks hQ hAe hP hD hK hS rfl hzz (dAt zX6_isOne_0 5 rfl)
def m_X6_has (n : Nat) (a1 : Int32) (a2 : Int32) : Option Int32 := (if ((a1 >>> (a2 &&& 31)) &&& (1 : Int32)) = 1 then some 1 else some 0)
set_option maxHeartbeats 4000000 in
set_option maxRecDepth 100000 in
theorem c_X6_has (l : Launch) (D : va_G) (cI cJ cZ : ClassId) (n : Nat)  (sz : Nat) (a1 : Int32) (a2 : Int32) (out : Int32) (hm : m_X6_has n a1 a2 = some out) : Met l yX6_has (wsM yX6_has cX6_has 2 (some .boolean)) { frames := 0, cells := 0, slots := 0, locals := 0 } (xPre D (kT cI cJ cZ) ([] : va_W) sz [.int a1, .int a2]) (xQz D (kT cI cJ cZ) ([] : va_W) ([] : va_W) sz out) 0 0 (va_A ([] : va_W) sz) := by
  refine Met.ofW (cc := cX6_has) (maxL := 2) (ret := (some .boolean)) (by decide) rfl ?_
  intro p e s m args below meth c s₁ B hml hv
  obtain ⟨hv, hsz, hP, hK, hD0, hN⟩ := hv
  have hx := B.exec; have hb := B.bytes; have hr := B.returns
  have hts := atoms_spec (ws := (wsM yX6_has cX6_has 2 (some .boolean))) B.pre
  have hown : s.vm.findClass RX6 = some m.cls := findClass_of_methodNamed B.named
  have hlocks := B.notSynchronized
  subst hsz
  have hD := hD0.self (sz := s.heap.size)
  obtain ⟨A, hAe⟩ : ∃ A, A = va_A ([] : va_W) s.heap.size := ⟨_, rfl⟩
  rw [← hAe] at hD
  have hA : ∀ q : Nat, s.heap.size ≤ q → A q := fun q h => by rw [hAe]; exact Or.inr h
  have htl : ∀ w ∈ wsL_law, w.before args s = true := fun w h => hts w (List.mem_cons_of_mem _ h)
  refine xHead (R' := { frames := 0, cells := 0, slots := 0, locals := 0 }) rfl (fun Q H hQ hH => ?_)
  have hP : va_P D vwCl ([] : va_W) H := by rw [hH]; exact hP
  have hS : va_S A s.heap H [] := by rw [hH]; exact va_S.rf
  refine xStart hv (Nat.le_of_ble_eq_true rfl) (lv := [(0, .int a1), (1, .int a2)]) rfl (fun ls hl => ?_)
  have h := hm
  unfold m_X6_has at h
  refine lv_iload_n hx hb (dAt zX6_has_0 0 rfl) rfl (lv_at hl 0 rfl) ?_
  refine lv_iload_n hx hb (dAt zX6_has_0 1 rfl) rfl (lv_at hl 1 rfl) ?_
  refine lv_ishr hx hb (dAt zX6_has_0 2 rfl) ?_
  refine lv_iconst (v := 1) hx hb (dAt zX6_has_0 3 rfl) (by decide) ?_
  refine lv_iand hx hb (dAt zX6_has_0 4 rfl) ?_
  refine lv_iconst (v := 1) hx hb (dAt zX6_has_0 5 rfl) (by decide) ?_
  refine lv_icmp_ne (tgt := 13) hx hb (dAt zX6_has_0 6 rfl) (by decide) (fun c_6 => ?_) (fun c_6 => ?_)
  · have h := q_neg c_6 h
    refine lv_iconst (v := 0) hx hb (dAt zX6_has_0 9 rfl) (by decide) ?_
    obtain rfl := q_some h
    exact xRz hx hb hr hlocks hQ hAe hP hD hK hS rfl rfl (dAt zX6_has_0 10 rfl)
  · have h := q_pos c_6 h
    refine lv_iconst (v := 1) hx hb (dAt zX6_has_0 7 rfl) (by decide) ?_
    refine lv_goto (tgt := 14) hx hb (dAt zX6_has_0 8 rfl) (by decide) ?_
    obtain rfl := q_some h
    exact xRz hx hb hr hlocks hQ hAe hP hD hK hS rfl rfl (dAt zX6_has_0 10 rfl)
def m_X6_setTie (n : Nat) (zS : TI) (zL : TL) (a1 : Int32) (a2 : Int32) (a3 : Int32) (a4 : Int32) : Option TI := (gd (inB (((10 : Int32) * a1) + a2) 100) ((gd (inB (((10 : Int32) * a2) + a1) 100) ((gd (inB (((10 : Int32) * a1) + a2) 100) ((gd (inB (((10 : Int32) * a2) + a1) 100) (some (upA (upA zS 4 (upd (upd (zS 4) (Int32.toNatClampNeg (((10 : Int32) * a1) + a2)) a4) (Int32.toNatClampNeg (((10 : Int32) * a2) + a1)) a4)) 5 (upd (upd (zS 5) (Int32.toNatClampNeg (((10 : Int32) * a1) + a2)) a3) (Int32.toNatClampNeg (((10 : Int32) * a2) + a1)) a3))))))))))
set_option maxHeartbeats 4000000 in
set_option maxRecDepth 100000 in
theorem c_X6_setTie (l : Launch) (D : va_G) (cI cJ cZ : ClassId) (n : Nat) (qS : Nat → Nat) (sz : Nat) (zS : TI) (zL : TL) (a1 : Int32) (a2 : Int32) (a3 : Int32) (a4 : Int32) (out : TI) (hm : m_X6_setTie n zS zL a1 a2 a3 a4 = some out) : Met l yX6_setTie (wsM yX6_setTie cX6_setTie 5 none) { frames := 0, cells := 0, slots := 0, locals := 0 } (xPre D (kT cI cJ cZ) (w6 cI cJ cZ qS zS zL) sz [.ref (qS 0), .int a1, .int a2, .int a3, .int a4]) (xQv D (kT cI cJ cZ) (w6 cI cJ cZ qS zS zL) (w6 cI cJ cZ qS out zL) sz) 0 0 (va_A (w6 cI cJ cZ qS zS zL) sz) := by
  refine Met.ofW (cc := cX6_setTie) (maxL := 5) (ret := none) (by decide) rfl ?_
  intro p e s m args below meth c s₁ B hml hv
  obtain ⟨hv, hsz, hP, hK, hD0, hN⟩ := hv
  have hx := B.exec; have hb := B.bytes; have hr := B.returns
  have hts := atoms_spec (ws := (wsM yX6_setTie cX6_setTie 5 none)) B.pre
  have hown : s.vm.findClass RX6 = some m.cls := findClass_of_methodNamed B.named
  have hlocks := B.notSynchronized
  subst hsz
  have hD := hD0.self (sz := s.heap.size)
  obtain ⟨A, hAe⟩ : ∃ A, A = va_A (w6 cI cJ cZ qS zS zL) s.heap.size := ⟨_, rfl⟩
  rw [← hAe] at hD
  have hA : ∀ q : Nat, s.heap.size ≤ q → A q := fun q h => by rw [hAe]; exact Or.inr h
  have htl : ∀ w ∈ wsL_law, w.before args s = true := fun w h => hts w (List.mem_cons_of_mem _ h)
  refine xHead (R' := { frames := 0, cells := 0, slots := 0, locals := 0 }) rfl (fun Q H hQ hH => ?_)
  have hP : va_P D vwCl (w6 cI cJ cZ qS zS zL) H := by rw [hH]; exact hP
  have hS : va_S A s.heap H [] := by rw [hH]; exact va_S.rf
  refine xStart hv (Nat.le_of_ble_eq_true rfl) (lv := [(0, .ref (qS 0)), (1, .int a1), (2, .int a2), (3, .int a3), (4, .int a4)]) rfl (fun ls hl => ?_)
  have h := hm
  unfold m_X6_setTie at h
  refine lv_aload_n hx hb (dAt zX6_setTie_0 0 rfl) rfl (lv_at hl 0 rfl) ?_
  refine va_get (D := D) (ci := 6) (v := .ref (qS 4)) (C := RX6) (T := TX6) (N := 32) hx hb htl inlX6 hown hK hP 0 rfl rfl 3 (by decide) (htl _ W_85) (fun _ h9 => h9) rfl (dAt zX6_setTie_0 1 rfl) ?_
  refine lv_bipush (v := 10) hx hb (dAt zX6_setTie_0 2 rfl) (by decide) ?_
  refine lv_iload_n hx hb (dAt zX6_setTie_0 3 rfl) rfl (lv_at hl 1 rfl) ?_
  refine lv_imul hx hb (dAt zX6_setTie_0 4 rfl) ?_
  refine lv_iload_n hx hb (dAt zX6_setTie_0 5 rfl) rfl (lv_at hl 2 rfl) ?_
  refine lv_iadd hx hb (dAt zX6_setTie_0 6 rfl) ?_
  refine lv_iload hx hb (dAt zX6_setTie_0 7 rfl) (lv_at hl 4 rfl) ?_
  obtain ⟨hi_12, h⟩ := q_in h
  refine va_iast hx hb hK hP hD hS 1 0 rfl rfl hi_12 (dAt zX6_setTie_0 8 rfl) (fun H locs hP hD hS => ?_)
  have hP : va_P D vwCl (w6x cI cJ cZ qS (zS 0 0) (zS 0 1) (zS 0 2) (zS 0 8) (zS 0 10) (zS 0 14) (zS 0 15) (zS 0 16) (zS 0 17) (zS 0 19) (zS 0 20) (zS 0 21) (zS 0 22) (zS 0 23) (zS 0 30) (zS 0 31) (upd (zS 4) (Int32.toNatClampNeg (((10 : Int32) * a1) + a2)) a4) (zS 5) (zS 6) (zS 7) (zS 8) (zS 10) (zS 12) (zS 13) (zS 14) (zS 19) (zS 25) (zS 26) (zL 27) (zS 28) (zS 29) (zS 30)) H := hP
  have hD : va_D A (w6x cI cJ cZ qS (zS 0 0) (zS 0 1) (zS 0 2) (zS 0 8) (zS 0 10) (zS 0 14) (zS 0 15) (zS 0 16) (zS 0 17) (zS 0 19) (zS 0 20) (zS 0 21) (zS 0 22) (zS 0 23) (zS 0 30) (zS 0 31) (upd (zS 4) (Int32.toNatClampNeg (((10 : Int32) * a1) + a2)) a4) (zS 5) (zS 6) (zS 7) (zS 8) (zS 10) (zS 12) (zS 13) (zS 14) (zS 19) (zS 25) (zS 26) (zL 27) (zS 28) (zS 29) (zS 30)) := hD
  refine lv_aload_n hx hb (dAt zX6_setTie_0 9 rfl) rfl (lv_at hl 0 rfl) ?_
  refine va_get (D := D) (ci := 6) (v := .ref (qS 4)) (C := RX6) (T := TX6) (N := 32) hx hb htl inlX6 hown hK hP 0 rfl rfl 3 (by decide) (htl _ W_85) (fun _ h9 => h9) rfl (dAt zX6_setTie_0 10 rfl) ?_
  refine lv_bipush (v := 10) hx hb (dAt zX6_setTie_0 11 rfl) (by decide) ?_
  refine lv_iload_n hx hb (dAt zX6_setTie_0 12 rfl) rfl (lv_at hl 2 rfl) ?_
  refine lv_imul hx hb (dAt zX6_setTie_0 13 rfl) ?_
  refine lv_iload_n hx hb (dAt zX6_setTie_0 14 rfl) rfl (lv_at hl 1 rfl) ?_
  refine lv_iadd hx hb (dAt zX6_setTie_0 15 rfl) ?_
  refine lv_iload hx hb (dAt zX6_setTie_0 16 rfl) (lv_at hl 4 rfl) ?_
  obtain ⟨hi_25, h⟩ := q_in h
  refine va_iast hx hb hK hP hD hS 1 0 rfl rfl hi_25 (dAt zX6_setTie_0 17 rfl) (fun H locs hP hD hS => ?_)
  have hP : va_P D vwCl (w6x cI cJ cZ qS (zS 0 0) (zS 0 1) (zS 0 2) (zS 0 8) (zS 0 10) (zS 0 14) (zS 0 15) (zS 0 16) (zS 0 17) (zS 0 19) (zS 0 20) (zS 0 21) (zS 0 22) (zS 0 23) (zS 0 30) (zS 0 31) (upd (upd (zS 4) (Int32.toNatClampNeg (((10 : Int32) * a1) + a2)) a4) (Int32.toNatClampNeg (((10 : Int32) * a2) + a1)) a4) (zS 5) (zS 6) (zS 7) (zS 8) (zS 10) (zS 12) (zS 13) (zS 14) (zS 19) (zS 25) (zS 26) (zL 27) (zS 28) (zS 29) (zS 30)) H := hP
  have hD : va_D A (w6x cI cJ cZ qS (zS 0 0) (zS 0 1) (zS 0 2) (zS 0 8) (zS 0 10) (zS 0 14) (zS 0 15) (zS 0 16) (zS 0 17) (zS 0 19) (zS 0 20) (zS 0 21) (zS 0 22) (zS 0 23) (zS 0 30) (zS 0 31) (upd (upd (zS 4) (Int32.toNatClampNeg (((10 : Int32) * a1) + a2)) a4) (Int32.toNatClampNeg (((10 : Int32) * a2) + a1)) a4) (zS 5) (zS 6) (zS 7) (zS 8) (zS 10) (zS 12) (zS 13) (zS 14) (zS 19) (zS 25) (zS 26) (zL 27) (zS 28) (zS 29) (zS 30)) := hD
  refine lv_aload_n hx hb (dAt zX6_setTie_0 18 rfl) rfl (lv_at hl 0 rfl) ?_
  refine va_get (D := D) (ci := 6) (v := .ref (qS 5)) (C := RX6) (T := TX6) (N := 32) hx hb htl inlX6 hown hK hP 0 rfl rfl 4 (by decide) (htl _ W_86) (fun _ h9 => h9) rfl (dAt zX6_setTie_0 19 rfl) ?_
  refine lv_bipush (v := 10) hx hb (dAt zX6_setTie_0 20 rfl) (by decide) ?_
  refine lv_iload_n hx hb (dAt zX6_setTie_0 21 rfl) rfl (lv_at hl 1 rfl) ?_
  refine lv_imul hx hb (dAt zX6_setTie_0 22 rfl) ?_
  refine lv_iload_n hx hb (dAt zX6_setTie_0 23 rfl) rfl (lv_at hl 2 rfl) ?_
  refine lv_iadd hx hb (dAt zX6_setTie_0 24 rfl) ?_
  refine lv_iload_n hx hb (dAt zX6_setTie_0 25 rfl) rfl (lv_at hl 3 rfl) ?_
  obtain ⟨hi_37, h⟩ := q_in h
  refine va_iast hx hb hK hP hD hS 2 0 rfl rfl hi_37 (dAt zX6_setTie_0 26 rfl) (fun H locs hP hD hS => ?_)
  have hP : va_P D vwCl (w6x cI cJ cZ qS (zS 0 0) (zS 0 1) (zS 0 2) (zS 0 8) (zS 0 10) (zS 0 14) (zS 0 15) (zS 0 16) (zS 0 17) (zS 0 19) (zS 0 20) (zS 0 21) (zS 0 22) (zS 0 23) (zS 0 30) (zS 0 31) (upd (upd (zS 4) (Int32.toNatClampNeg (((10 : Int32) * a1) + a2)) a4) (Int32.toNatClampNeg (((10 : Int32) * a2) + a1)) a4) (upd (zS 5) (Int32.toNatClampNeg (((10 : Int32) * a1) + a2)) a3) (zS 6) (zS 7) (zS 8) (zS 10) (zS 12) (zS 13) (zS 14) (zS 19) (zS 25) (zS 26) (zL 27) (zS 28) (zS 29) (zS 30)) H := hP
  have hD : va_D A (w6x cI cJ cZ qS (zS 0 0) (zS 0 1) (zS 0 2) (zS 0 8) (zS 0 10) (zS 0 14) (zS 0 15) (zS 0 16) (zS 0 17) (zS 0 19) (zS 0 20) (zS 0 21) (zS 0 22) (zS 0 23) (zS 0 30) (zS 0 31) (upd (upd (zS 4) (Int32.toNatClampNeg (((10 : Int32) * a1) + a2)) a4) (Int32.toNatClampNeg (((10 : Int32) * a2) + a1)) a4) (upd (zS 5) (Int32.toNatClampNeg (((10 : Int32) * a1) + a2)) a3) (zS 6) (zS 7) (zS 8) (zS 10) (zS 12) (zS 13) (zS 14) (zS 19) (zS 25) (zS 26) (zL 27) (zS 28) (zS 29) (zS 30)) := hD
  refine lv_aload_n hx hb (dAt zX6_setTie_0 27 rfl) rfl (lv_at hl 0 rfl) ?_
  refine va_get (D := D) (ci := 6) (v := .ref (qS 5)) (C := RX6) (T := TX6) (N := 32) hx hb htl inlX6 hown hK hP 0 rfl rfl 4 (by decide) (htl _ W_86) (fun _ h9 => h9) rfl (dAt zX6_setTie_0 28 rfl) ?_
  refine lv_bipush (v := 10) hx hb (dAt zX6_setTie_0 29 rfl) (by decide) ?_
  refine lv_iload_n hx hb (dAt zX6_setTie_0 30 rfl) rfl (lv_at hl 2 rfl) ?_
  refine lv_imul hx hb (dAt zX6_setTie_0 31 rfl) ?_
  refine lv_iload_n hx hb (dAt zX6_setTie_0 32 rfl) rfl (lv_at hl 1 rfl) ?_
  refine lv_iadd hx hb (dAt zX6_setTie_0 33 rfl) ?_
  refine lv_iload_n hx hb (dAt zX6_setTie_0 34 rfl) rfl (lv_at hl 3 rfl) ?_
  obtain ⟨hi_49, h⟩ := q_in h
  refine va_iast hx hb hK hP hD hS 2 0 rfl rfl hi_49 (dAt zX6_setTie_0 35 rfl) (fun H locs hP hD hS => ?_)
  have hP : va_P D vwCl (w6x cI cJ cZ qS (zS 0 0) (zS 0 1) (zS 0 2) (zS 0 8) (zS 0 10) (zS 0 14) (zS 0 15) (zS 0 16) (zS 0 17) (zS 0 19) (zS 0 20) (zS 0 21) (zS 0 22) (zS 0 23) (zS 0 30) (zS 0 31) (upd (upd (zS 4) (Int32.toNatClampNeg (((10 : Int32) * a1) + a2)) a4) (Int32.toNatClampNeg (((10 : Int32) * a2) + a1)) a4) (upd (upd (zS 5) (Int32.toNatClampNeg (((10 : Int32) * a1) + a2)) a3) (Int32.toNatClampNeg (((10 : Int32) * a2) + a1)) a3) (zS 6) (zS 7) (zS 8) (zS 10) (zS 12) (zS 13) (zS 14) (zS 19) (zS 25) (zS 26) (zL 27) (zS 28) (zS 29) (zS 30)) H := hP
  have hD : va_D A (w6x cI cJ cZ qS (zS 0 0) (zS 0 1) (zS 0 2) (zS 0 8) (zS 0 10) (zS 0 14) (zS 0 15) (zS 0 16) (zS 0 17) (zS 0 19) (zS 0 20) (zS 0 21) (zS 0 22) (zS 0 23) (zS 0 30) (zS 0 31) (upd (upd (zS 4) (Int32.toNatClampNeg (((10 : Int32) * a1) + a2)) a4) (Int32.toNatClampNeg (((10 : Int32) * a2) + a1)) a4) (upd (upd (zS 5) (Int32.toNatClampNeg (((10 : Int32) * a1) + a2)) a3) (Int32.toNatClampNeg (((10 : Int32) * a2) + a1)) a3) (zS 6) (zS 7) (zS 8) (zS 10) (zS 12) (zS 13) (zS 14) (zS 19) (zS 25) (zS 26) (zL 27) (zS 28) (zS 29) (zS 30)) := hD
  have hP : va_P D vwCl (w6 cI cJ cZ qS (upA (upA zS 4 (upd (upd (zS 4) (Int32.toNatClampNeg (((10 : Int32) * a1) + a2)) a4) (Int32.toNatClampNeg (((10 : Int32) * a2) + a1)) a4)) 5 (upd (upd (zS 5) (Int32.toNatClampNeg (((10 : Int32) * a1) + a2)) a3) (Int32.toNatClampNeg (((10 : Int32) * a2) + a1)) a3)) zL) H := hP
  have hD : va_D A (w6 cI cJ cZ qS (upA (upA zS 4 (upd (upd (zS 4) (Int32.toNatClampNeg (((10 : Int32) * a1) + a2)) a4) (Int32.toNatClampNeg (((10 : Int32) * a2) + a1)) a4)) 5 (upd (upd (zS 5) (Int32.toNatClampNeg (((10 : Int32) * a1) + a2)) a3) (Int32.toNatClampNeg (((10 : Int32) * a2) + a1)) a3)) zL) := hD
  obtain rfl := q_some h
  exact xRv hx hb hr hlocks hQ hAe hP hD hK hS (dAt zX6_setTie_0 36 rfl)
def m_X6_tie (n : Nat) (zS : TI) (zL : TL) (a1 : Int32) (a2 : Int32) (a3 : Int32) (a4 : Int32) : Option (Int32 × TI) := ((m_X6_isOne n  a1).bind fun u1 => (if u1 = 0 then some ((-1), zS) else ((m_X6_isOne n  a2).bind fun u8 => (if u8 = 0 then some ((-1), zS) else (if a1 = a2 then some ((-1), zS) else ((m_X6_in n  (Int32.toInt64 a3) 0 3).bind fun u27 => (if u27 = 0 then some ((-2), zS) else ((m_X6_in n  (Int32.toInt64 a4) 0 9).bind fun u40 => (if u40 = 0 then some ((-2), zS) else (gd (inB (((10 : Int32) * a1) + a2) 100) (((m_X6_setTie n zS zL a1 a2 a3 a4).bind fun u68 => some (((zS 4) (Int32.toNatClampNeg (((10 : Int32) * a1) + a2))), u68)))))))))))))
set_option maxHeartbeats 4000000 in
set_option maxRecDepth 100000 in
theorem c_X6_tie (l : Launch) (D : va_G) (cI cJ cZ : ClassId) (n : Nat) (qS : Nat → Nat) (sz : Nat) (zS : TI) (zL : TL) (a1 : Int32) (a2 : Int32) (a3 : Int32) (a4 : Int32) (out : Int32 × TI) (hm : m_X6_tie n zS zL a1 a2 a3 a4 = some out) : Met l yX6_tie (wsM yX6_tie cX6_tie 6 (some .int)) { frames := 2, cells := 0, slots := 0, locals := 45 } (xPre D (kT cI cJ cZ) (w6 cI cJ cZ qS zS zL) sz [.ref (qS 0), .int a1, .int a2, .int a3, .int a4]) (xQi D (kT cI cJ cZ) (w6 cI cJ cZ qS zS zL) (w6 cI cJ cZ qS out.2 zL) sz out.1) 0 0 (va_A (w6 cI cJ cZ qS zS zL) sz) := by
  refine Met.ofW (cc := cX6_tie) (maxL := 6) (ret := (some .int)) (by decide) rfl ?_
  intro p e s m args below meth c s₁ B hml hv
  obtain ⟨hv, hsz, hP, hK, hD0, hN⟩ := hv
  have hx := B.exec; have hb := B.bytes; have hr := B.returns
  have hts := atoms_spec (ws := (wsM yX6_tie cX6_tie 6 (some .int))) B.pre
  have hown : s.vm.findClass RX6 = some m.cls := findClass_of_methodNamed B.named
  have hlocks := B.notSynchronized
  subst hsz
  have hD := hD0.self (sz := s.heap.size)
  obtain ⟨A, hAe⟩ : ∃ A, A = va_A (w6 cI cJ cZ qS zS zL) s.heap.size := ⟨_, rfl⟩
  rw [← hAe] at hD
  have hA : ∀ q : Nat, s.heap.size ≤ q → A q := fun q h => by rw [hAe]; exact Or.inr h
  have htl : ∀ w ∈ wsL_law, w.before args s = true := fun w h => hts w (List.mem_cons_of_mem _ h)
  refine xHead (R' := { frames := 2, cells := 0, slots := 0, locals := 45 }) rfl (fun Q H hQ hH => ?_)
  have hP : va_P D vwCl (w6 cI cJ cZ qS zS zL) H := by rw [hH]; exact hP
  have hS : va_S A s.heap H [] := by rw [hH]; exact va_S.rf
  refine xStart hv (Nat.le_of_ble_eq_true rfl) (lv := [(0, .ref (qS 0)), (1, .int a1), (2, .int a2), (3, .int a3), (4, .int a4)]) rfl (fun ls hl => ?_)
  have h := hm
  unfold m_X6_tie at h
  refine lv_iload_n hx hb (dAt zX6_tie_0 0 rfl) rfl (lv_at hl 1 rfl) ?_
  obtain ⟨u1, hu1, h⟩ := q_bind h
  refine xFz (wc := ([] : va_W)) (w1 := ([] : va_W)) (wr := (w6 cI cJ cZ qS zS zL)) (ws2 := (w6 cI cJ cZ qS zS zL)) (va_runS (As := [.int a1]) (rest := []) ⟨hx, hb, hml, hown, htl⟩ (c_X6_isOne l D cI cJ cZ n  H.size  a1 u1 hu1) (va_cwS 1 htl (gS W_127 W_128 W_5 W_129) rfl rfl rfl (by decide +kernel) ⟨Nat.le_of_ble_eq_true rfl, Nat.le_of_ble_eq_true rfl⟩) (xPS xP0 (xD0 A) hK hN) rfl rfl hl.1 rfl (lv_room (Nat.le_of_ble_eq_true rfl)) (dAt zX6_tie_0 1 rfl) ⟨Nat.zero_le _, Nat.zero_le _⟩) hS hA hP hD [] [0, 1, 2, 3, 4, 5, 6, 7, 8, 9, 10, 11, 12, 13, 14, 15, 16] [0, 1, 2, 3, 4, 5, 6, 7, 8, 9, 10, 11, 12, 13, 14, 15, 16] rfl rfl (by decide) (by decide) rfl (by decide) (fun H locs hz1 hP hD hS => ?_)
  refine lv_if_eq (tgt := 19) hx hb (dAt zX6_tie_0 2 rfl) (by decide) (fun c_4 => ?_) (fun c_4 => ?_)
  · have h := q_pos c_4 h
    refine lv_iconst (v := (-1)) hx hb (dAt zX6_tie_0 9 rfl) (by decide) ?_
    obtain rfl := q_some h
    exact xRi hx hb hr hlocks hQ hAe hP hD hK hS rfl (dAt zX6_tie_0 10 rfl)
  · have h := q_neg c_4 h
    refine lv_iload_n hx hb (dAt zX6_tie_0 3 rfl) rfl (lv_at hl 2 rfl) ?_
    obtain ⟨u8, hu8, h⟩ := q_bind h
    refine xFz (wc := ([] : va_W)) (w1 := ([] : va_W)) (wr := (w6 cI cJ cZ qS zS zL)) (ws2 := (w6 cI cJ cZ qS zS zL)) (va_runS (As := [.int a2]) (rest := []) ⟨hx, hb, hml, hown, htl⟩ (c_X6_isOne l D cI cJ cZ n  H.size  a2 u8 hu8) (va_cwS 1 htl (gS W_127 W_128 W_5 W_129) rfl rfl rfl (by decide +kernel) ⟨Nat.le_of_ble_eq_true rfl, Nat.le_of_ble_eq_true rfl⟩) (xPS xP0 (xD0 A) hK hN) rfl rfl hl.1 rfl (lv_room (Nat.le_of_ble_eq_true rfl)) (dAt zX6_tie_0 4 rfl) ⟨Nat.zero_le _, Nat.zero_le _⟩) hS hA hP hD [] [0, 1, 2, 3, 4, 5, 6, 7, 8, 9, 10, 11, 12, 13, 14, 15, 16] [0, 1, 2, 3, 4, 5, 6, 7, 8, 9, 10, 11, 12, 13, 14, 15, 16] rfl rfl (by decide) (by decide) rfl (by decide) (fun H locs hz8 hP hD hS => ?_)
    refine lv_if_eq (tgt := 19) hx hb (dAt zX6_tie_0 5 rfl) (by decide) (fun c_11 => ?_) (fun c_11 => ?_)
    · have h := q_pos c_11 h
      refine lv_iconst (v := (-1)) hx hb (dAt zX6_tie_0 9 rfl) (by decide) ?_
      obtain rfl := q_some h
      exact xRi hx hb hr hlocks hQ hAe hP hD hK hS rfl (dAt zX6_tie_0 10 rfl)
    · have h := q_neg c_11 h
      refine lv_iload_n hx hb (dAt zX6_tie_0 6 rfl) rfl (lv_at hl 1 rfl) ?_
      refine lv_iload_n hx hb (dAt zX6_tie_0 7 rfl) rfl (lv_at hl 2 rfl) ?_
      refine lv_icmp_ne (tgt := 21) hx hb (dAt zX6_tie_0 8 rfl) (by decide) (fun c_16 => ?_) (fun c_16 => ?_)
      · have h := q_neg c_16 h
        refine lv_iload_n hx hb (dAt zX6_tie_0 11 rfl) rfl (lv_at hl 3 rfl) ?_
        refine lv_i2l (v := (Int32.toInt64 a3)) hx hb (dAt zX6_tie_0 12 rfl) rfl ?_
        refine lv_lconst (v := 0) hx hb (dAt zX6_tie_0 13 rfl) (by decide) ?_
        refine lv_ldc2 (v := 3) hx hb hown (htl _ W_125) (dAt zX6_tie_0 14 rfl) ?_
        obtain ⟨u27, hu27, h⟩ := q_bind h
        refine xFz (wc := ([] : va_W)) (w1 := ([] : va_W)) (wr := (w6 cI cJ cZ qS zS zL)) (ws2 := (w6 cI cJ cZ qS zS zL)) (va_runS (As := [.long (Int32.toInt64 a3), .long 0, .long 3]) (rest := []) ⟨hx, hb, hml, hown, htl⟩ (c_X6_in l D cI cJ cZ n  H.size  (Int32.toInt64 a3) 0 3 u27 hu27) (va_cwS 3 htl (gS W_130 W_131 W_5 W_132) rfl rfl rfl (by decide +kernel) ⟨Nat.le_of_ble_eq_true rfl, Nat.le_of_ble_eq_true rfl⟩) (xPS xP0 (xD0 A) hK hN) rfl rfl hl.1 rfl (lv_room (Nat.le_of_ble_eq_true rfl)) (dAt zX6_tie_0 15 rfl) ⟨Nat.zero_le _, Nat.zero_le _⟩) hS hA hP hD [] [0, 1, 2, 3, 4, 5, 6, 7, 8, 9, 10, 11, 12, 13, 14, 15, 16] [0, 1, 2, 3, 4, 5, 6, 7, 8, 9, 10, 11, 12, 13, 14, 15, 16] rfl rfl (by decide) (by decide) rfl (by decide) (fun H locs hz27 hP hD hS => ?_)
        refine lv_if_eq (tgt := 46) hx hb (dAt zX6_tie_0 16 rfl) (by decide) (fun c_30 => ?_) (fun c_30 => ?_)
        · have h := q_pos c_30 h
          refine lv_bipush (v := (-2)) hx hb (dAt zX6_tie_0 23 rfl) (by decide) ?_
          obtain rfl := q_some h
          exact xRi hx hb hr hlocks hQ hAe hP hD hK hS rfl (dAt zX6_tie_0 24 rfl)
        · have h := q_neg c_30 h
          refine lv_iload hx hb (dAt zX6_tie_0 17 rfl) (lv_at hl 4 rfl) ?_
          refine lv_i2l (v := (Int32.toInt64 a4)) hx hb (dAt zX6_tie_0 18 rfl) rfl ?_
          refine lv_lconst (v := 0) hx hb (dAt zX6_tie_0 19 rfl) (by decide) ?_
          refine lv_ldc2 (v := 9) hx hb hown (htl _ W_126) (dAt zX6_tie_0 20 rfl) ?_
          obtain ⟨u40, hu40, h⟩ := q_bind h
          refine xFz (wc := ([] : va_W)) (w1 := ([] : va_W)) (wr := (w6 cI cJ cZ qS zS zL)) (ws2 := (w6 cI cJ cZ qS zS zL)) (va_runS (As := [.long (Int32.toInt64 a4), .long 0, .long 9]) (rest := []) ⟨hx, hb, hml, hown, htl⟩ (c_X6_in l D cI cJ cZ n  H.size  (Int32.toInt64 a4) 0 9 u40 hu40) (va_cwS 3 htl (gS W_130 W_131 W_5 W_132) rfl rfl rfl (by decide +kernel) ⟨Nat.le_of_ble_eq_true rfl, Nat.le_of_ble_eq_true rfl⟩) (xPS xP0 (xD0 A) hK hN) rfl rfl hl.1 rfl (lv_room (Nat.le_of_ble_eq_true rfl)) (dAt zX6_tie_0 21 rfl) ⟨Nat.zero_le _, Nat.zero_le _⟩) hS hA hP hD [] [0, 1, 2, 3, 4, 5, 6, 7, 8, 9, 10, 11, 12, 13, 14, 15, 16] [0, 1, 2, 3, 4, 5, 6, 7, 8, 9, 10, 11, 12, 13, 14, 15, 16] rfl rfl (by decide) (by decide) rfl (by decide) (fun H locs hz40 hP hD hS => ?_)
          refine lv_if_ne (tgt := 49) hx hb (dAt zX6_tie_0 22 rfl) (by decide) (fun c_43 => ?_) (fun c_43 => ?_)
          · have h := q_neg c_43 h
            refine lv_aload_n hx hb (dAt zX6_tie_0 25 rfl) rfl (lv_at hl 0 rfl) ?_
            refine va_get (D := D) (ci := 6) (v := .ref (qS 4)) (C := RX6) (T := TX6) (N := 32) hx hb htl inlX6 hown hK hP 0 rfl rfl 3 (by decide) (htl _ W_85) (fun _ h9 => h9) rfl (dAt zX6_tie_0 26 rfl) ?_
            refine lv_bipush (v := 10) hx hb (dAt zX6_tie_0 27 rfl) (by decide) ?_
            refine lv_iload_n hx hb (dAt zX6_tie_0 28 rfl) rfl (lv_at hl 1 rfl) ?_
            refine lv_imul hx hb (dAt zX6_tie_0 29 rfl) ?_
            refine lv_iload_n hx hb (dAt zX6_tie_0 30 rfl) rfl (lv_at hl 2 rfl) ?_
            refine lv_iadd hx hb (dAt zX6_tie_0 31 rfl) ?_
            obtain ⟨hi_59, h⟩ := q_in h
            refine va_iald hx hb hK hP 1 0 rfl rfl hi_59 (dAt zX6_tie_0 32 rfl) ?_
            refine lv_istore (lv' := [(5, .int ((zS 4) (Int32.toNatClampNeg (((10 : Int32) * a1) + a2)))), (0, .ref (qS 0)), (1, .int a1), (2, .int a2), (3, .int a3), (4, .int a4)]) hx hb (dAt zX6_tie_0 33 rfl) hl (by decide) rfl (fun ls hl => ?_)
            refine lv_aload_n hx hb (dAt zX6_tie_0 34 rfl) rfl (lv_at hl 1 rfl) ?_
            refine lv_iload_n hx hb (dAt zX6_tie_0 35 rfl) rfl (lv_at hl 2 rfl) ?_
            refine lv_iload_n hx hb (dAt zX6_tie_0 36 rfl) rfl (lv_at hl 3 rfl) ?_
            refine lv_iload_n hx hb (dAt zX6_tie_0 37 rfl) rfl (lv_at hl 4 rfl) ?_
            refine lv_iload hx hb (dAt zX6_tie_0 38 rfl) (lv_at hl 5 rfl) ?_
            obtain ⟨u68, hu68, h⟩ := q_bind h
            refine xFv (wc := (w6 cI cJ cZ qS zS zL)) (w1 := (w6 cI cJ cZ qS u68 zL)) (wr := ([] : va_W)) (ws2 := (w6 cI cJ cZ qS u68 zL)) (va_runV (As := [.int a1, .int a2, .int a3, .int a4]) (rest := []) ⟨hx, hb, hml, hown, htl⟩ (c_X6_setTie l D cI cJ cZ n qS H.size zS zL a1 a2 a3 a4 u68 hu68) (cwV 4 htl (gV W_133 W_134 W_135 W_5 W_136) rfl rfl rfl (by decide +kernel) ⟨Nat.le_of_ble_eq_true rfl, Nat.le_of_ble_eq_true rfl⟩) (xPV hP hD hK hN 0 rfl rfl) rfl rfl hl.1 rfl (lv_room (Nat.le_of_ble_eq_true rfl)) (dAt zX6_tie_0 39 rfl) ⟨Nat.zero_le _, Nat.zero_le _⟩) hS hA hP hD [0, 1, 2, 3, 4, 5, 6, 7, 8, 9, 10, 11, 12, 13, 14, 15, 16] [] [0, 1, 2, 3, 4, 5, 6, 7, 8, 9, 10, 11, 12, 13, 14, 15, 16] rfl rfl (by decide) (by decide) rfl (by decide) (fun H locs hP hD hS => ?_)
            refine lv_iload hx hb (dAt zX6_tie_0 40 rfl) (lv_at hl 0 rfl) ?_
            obtain rfl := q_some h
            exact xRi hx hb hr hlocks hQ hAe hP hD hK hS rfl (dAt zX6_tie_0 41 rfl)
          · have h := q_pos c_43 h
            refine lv_bipush (v := (-2)) hx hb (dAt zX6_tie_0 23 rfl) (by decide) ?_
            obtain rfl := q_some h
            exact xRi hx hb hr hlocks hQ hAe hP hD hK hS rfl (dAt zX6_tie_0 24 rfl)
      · have h := q_pos c_16 h
        refine lv_iconst (v := (-1)) hx hb (dAt zX6_tie_0 9 rfl) (by decide) ?_
        obtain rfl := q_some h
        exact xRi hx hb hr hlocks hQ hAe hP hD hK hS rfl (dAt zX6_tie_0 10 rfl)
def m_X6_with (n : Nat) (a1 : Int32) (a2 : Int32) (a3 : Int32) : Option Int32 := (if a3 = 1 then some (a1 ||| ((1 : Int32) <<< (a2 &&& 31))) else some (a1 &&& (((1 : Int32) <<< (a2 &&& 31)) ^^^ (-1 : Int32))))
set_option maxHeartbeats 4000000 in
set_option maxRecDepth 100000 in
theorem c_X6_with (l : Launch) (D : va_G) (cI cJ cZ : ClassId) (n : Nat)  (sz : Nat) (a1 : Int32) (a2 : Int32) (a3 : Int32) (out : Int32) (hm : m_X6_with n a1 a2 a3 = some out) : Met l yX6_with (wsM yX6_with cX6_with 3 (some .int)) { frames := 0, cells := 0, slots := 0, locals := 0 } (xPre D (kT cI cJ cZ) ([] : va_W) sz [.int a1, .int a2, .int a3]) (xQi D (kT cI cJ cZ) ([] : va_W) ([] : va_W) sz out) 0 0 (va_A ([] : va_W) sz) := by
  refine Met.ofW (cc := cX6_with) (maxL := 3) (ret := (some .int)) (by decide) rfl ?_
  intro p e s m args below meth c s₁ B hml hv
  obtain ⟨hv, hsz, hP, hK, hD0, hN⟩ := hv
  have hx := B.exec; have hb := B.bytes; have hr := B.returns
  have hts := atoms_spec (ws := (wsM yX6_with cX6_with 3 (some .int))) B.pre
  have hown : s.vm.findClass RX6 = some m.cls := findClass_of_methodNamed B.named
  have hlocks := B.notSynchronized
  subst hsz
  have hD := hD0.self (sz := s.heap.size)
  obtain ⟨A, hAe⟩ : ∃ A, A = va_A ([] : va_W) s.heap.size := ⟨_, rfl⟩
  rw [← hAe] at hD
  have hA : ∀ q : Nat, s.heap.size ≤ q → A q := fun q h => by rw [hAe]; exact Or.inr h
  have htl : ∀ w ∈ wsL_law, w.before args s = true := fun w h => hts w (List.mem_cons_of_mem _ h)
  refine xHead (R' := { frames := 0, cells := 0, slots := 0, locals := 0 }) rfl (fun Q H hQ hH => ?_)
  have hP : va_P D vwCl ([] : va_W) H := by rw [hH]; exact hP
  have hS : va_S A s.heap H [] := by rw [hH]; exact va_S.rf
  refine xStart hv (Nat.le_of_ble_eq_true rfl) (lv := [(0, .int a1), (1, .int a2), (2, .int a3)]) rfl (fun ls hl => ?_)
  have h := hm
  unfold m_X6_with at h
  refine lv_iload_n hx hb (dAt zX6_with_0 0 rfl) rfl (lv_at hl 2 rfl) ?_
  refine lv_iconst (v := 1) hx hb (dAt zX6_with_0 1 rfl) (by decide) ?_
  refine lv_icmp_ne (tgt := 13) hx hb (dAt zX6_with_0 2 rfl) (by decide) (fun c_2 => ?_) (fun c_2 => ?_)
  · have h := q_neg c_2 h
    refine lv_iload_n hx hb (dAt zX6_with_0 9 rfl) rfl (lv_at hl 0 rfl) ?_
    refine lv_iconst (v := 1) hx hb (dAt zX6_with_0 10 rfl) (by decide) ?_
    refine lv_iload_n hx hb (dAt zX6_with_0 11 rfl) rfl (lv_at hl 1 rfl) ?_
    refine lv_ishl hx hb (dAt zX6_with_0 12 rfl) ?_
    refine lv_iconst (v := (-1)) hx hb (dAt zX6_with_0 13 rfl) (by decide) ?_
    refine lv_ixor hx hb (dAt zX6_with_0 14 rfl) ?_
    refine lv_iand hx hb (dAt zX6_with_0 15 rfl) ?_
    obtain rfl := q_some h
    exact xRi hx hb hr hlocks hQ hAe hP hD hK hS rfl (dAt zX6_with_0 16 rfl)
  · have h := q_pos c_2 h
    refine lv_iload_n hx hb (dAt zX6_with_0 3 rfl) rfl (lv_at hl 0 rfl) ?_
    refine lv_iconst (v := 1) hx hb (dAt zX6_with_0 4 rfl) (by decide) ?_
    refine lv_iload_n hx hb (dAt zX6_with_0 5 rfl) rfl (lv_at hl 1 rfl) ?_
    refine lv_ishl hx hb (dAt zX6_with_0 6 rfl) ?_
    refine lv_ior hx hb (dAt zX6_with_0 7 rfl) ?_
    refine lv_goto (tgt := 20) hx hb (dAt zX6_with_0 8 rfl) (by decide) ?_
    obtain rfl := q_some h
    exact xRi hx hb hr hlocks hQ hAe hP hD hK hS rfl (dAt zX6_with_0 16 rfl)
def m_X6_one (n : Nat) (zS : TI) (zL : TL) (a1 : Int32) (a2 : Int32) (a3 : Int32) : Option (Int32 × TI) := ((m_X6_isOne n  a1).bind fun u1 => (if u1 = 0 then some ((-1), zS) else ((m_X6_in n  (Int32.toInt64 a2) 0 1).bind fun u13 => (if u13 = 0 then some ((-2), zS) else ((m_X6_in n  (Int32.toInt64 a3) 0 1).bind fun u23 => (if u23 = 0 then some ((-2), zS) else ((m_X6_with n  (zS 0 0) a1 a2).bind fun u39 => ((m_X6_with n  (zS 0 1) a1 a3).bind fun u52 => ((m_X6_with n  (zS 0 2) a1 0).bind fun u65 => ((m_X6_ones n  u39).bind fun u75 => some (u75, (sf (sf (sf zS 0 u39) 1 u52) 2 u65))))))))))))
set_option maxHeartbeats 4000000 in
set_option maxRecDepth 100000 in
theorem c_X6_one (l : Launch) (D : va_G) (cI cJ cZ : ClassId) (n : Nat) (qS : Nat → Nat) (sz : Nat) (zS : TI) (zL : TL) (a1 : Int32) (a2 : Int32) (a3 : Int32) (out : Int32 × TI) (hm : m_X6_one n zS zL a1 a2 a3 = some out) : Met l yX6_one (wsM yX6_one cX6_one 4 (some .int)) { frames := 2, cells := 0, slots := 0, locals := 45 } (xPre D (kT cI cJ cZ) (w6 cI cJ cZ qS zS zL) sz [.ref (qS 0), .int a1, .int a2, .int a3]) (xQi D (kT cI cJ cZ) (w6 cI cJ cZ qS zS zL) (w6 cI cJ cZ qS out.2 zL) sz out.1) 0 0 (va_A (w6 cI cJ cZ qS zS zL) sz) := by
  refine Met.ofW (cc := cX6_one) (maxL := 4) (ret := (some .int)) (by decide) rfl ?_
  intro p e s m args below meth c s₁ B hml hv
  obtain ⟨hv, hsz, hP, hK, hD0, hN⟩ := hv
  have hx := B.exec; have hb := B.bytes; have hr := B.returns
  have hts := atoms_spec (ws := (wsM yX6_one cX6_one 4 (some .int))) B.pre
  have hown : s.vm.findClass RX6 = some m.cls := findClass_of_methodNamed B.named
  have hlocks := B.notSynchronized
  subst hsz
  have hD := hD0.self (sz := s.heap.size)
  obtain ⟨A, hAe⟩ : ∃ A, A = va_A (w6 cI cJ cZ qS zS zL) s.heap.size := ⟨_, rfl⟩
  rw [← hAe] at hD
  have hA : ∀ q : Nat, s.heap.size ≤ q → A q := fun q h => by rw [hAe]; exact Or.inr h
  have htl : ∀ w ∈ wsL_law, w.before args s = true := fun w h => hts w (List.mem_cons_of_mem _ h)
  refine xHead (R' := { frames := 2, cells := 0, slots := 0, locals := 45 }) rfl (fun Q H hQ hH => ?_)
  have hP : va_P D vwCl (w6 cI cJ cZ qS zS zL) H := by rw [hH]; exact hP
  have hS : va_S A s.heap H [] := by rw [hH]; exact va_S.rf
  refine xStart hv (Nat.le_of_ble_eq_true rfl) (lv := [(0, .ref (qS 0)), (1, .int a1), (2, .int a2), (3, .int a3)]) rfl (fun ls hl => ?_)
  have h := hm
  unfold m_X6_one at h
  refine lv_iload_n hx hb (dAt zX6_one_0 0 rfl) rfl (lv_at hl 1 rfl) ?_
  obtain ⟨u1, hu1, h⟩ := q_bind h
  refine xFz (wc := ([] : va_W)) (w1 := ([] : va_W)) (wr := (w6 cI cJ cZ qS zS zL)) (ws2 := (w6 cI cJ cZ qS zS zL)) (va_runS (As := [.int a1]) (rest := []) ⟨hx, hb, hml, hown, htl⟩ (c_X6_isOne l D cI cJ cZ n  H.size  a1 u1 hu1) (va_cwS 1 htl (gS W_127 W_128 W_5 W_129) rfl rfl rfl (by decide +kernel) ⟨Nat.le_of_ble_eq_true rfl, Nat.le_of_ble_eq_true rfl⟩) (xPS xP0 (xD0 A) hK hN) rfl rfl hl.1 rfl (lv_room (Nat.le_of_ble_eq_true rfl)) (dAt zX6_one_0 1 rfl) ⟨Nat.zero_le _, Nat.zero_le _⟩) hS hA hP hD [] [0, 1, 2, 3, 4, 5, 6, 7, 8, 9, 10, 11, 12, 13, 14, 15, 16] [0, 1, 2, 3, 4, 5, 6, 7, 8, 9, 10, 11, 12, 13, 14, 15, 16] rfl rfl (by decide) (by decide) rfl (by decide) (fun H locs hz1 hP hD hS => ?_)
  refine lv_if_ne (tgt := 9) hx hb (dAt zX6_one_0 2 rfl) (by decide) (fun c_4 => ?_) (fun c_4 => ?_)
  · have h := q_neg c_4 h
    refine lv_iload_n hx hb (dAt zX6_one_0 5 rfl) rfl (lv_at hl 2 rfl) ?_
    refine lv_i2l (v := (Int32.toInt64 a2)) hx hb (dAt zX6_one_0 6 rfl) rfl ?_
    refine lv_lconst (v := 0) hx hb (dAt zX6_one_0 7 rfl) (by decide) ?_
    refine lv_lconst (v := 1) hx hb (dAt zX6_one_0 8 rfl) (by decide) ?_
    obtain ⟨u13, hu13, h⟩ := q_bind h
    refine xFz (wc := ([] : va_W)) (w1 := ([] : va_W)) (wr := (w6 cI cJ cZ qS zS zL)) (ws2 := (w6 cI cJ cZ qS zS zL)) (va_runS (As := [.long (Int32.toInt64 a2), .long 0, .long 1]) (rest := []) ⟨hx, hb, hml, hown, htl⟩ (c_X6_in l D cI cJ cZ n  H.size  (Int32.toInt64 a2) 0 1 u13 hu13) (va_cwS 3 htl (gS W_130 W_131 W_5 W_132) rfl rfl rfl (by decide +kernel) ⟨Nat.le_of_ble_eq_true rfl, Nat.le_of_ble_eq_true rfl⟩) (xPS xP0 (xD0 A) hK hN) rfl rfl hl.1 rfl (lv_room (Nat.le_of_ble_eq_true rfl)) (dAt zX6_one_0 9 rfl) ⟨Nat.zero_le _, Nat.zero_le _⟩) hS hA hP hD [] [0, 1, 2, 3, 4, 5, 6, 7, 8, 9, 10, 11, 12, 13, 14, 15, 16] [0, 1, 2, 3, 4, 5, 6, 7, 8, 9, 10, 11, 12, 13, 14, 15, 16] rfl rfl (by decide) (by decide) rfl (by decide) (fun H locs hz13 hP hD hS => ?_)
    refine lv_if_eq (tgt := 29) hx hb (dAt zX6_one_0 10 rfl) (by decide) (fun c_16 => ?_) (fun c_16 => ?_)
    · have h := q_pos c_16 h
      refine lv_bipush (v := (-2)) hx hb (dAt zX6_one_0 17 rfl) (by decide) ?_
      obtain rfl := q_some h
      exact xRi hx hb hr hlocks hQ hAe hP hD hK hS rfl (dAt zX6_one_0 18 rfl)
    · have h := q_neg c_16 h
      refine lv_iload_n hx hb (dAt zX6_one_0 11 rfl) rfl (lv_at hl 3 rfl) ?_
      refine lv_i2l (v := (Int32.toInt64 a3)) hx hb (dAt zX6_one_0 12 rfl) rfl ?_
      refine lv_lconst (v := 0) hx hb (dAt zX6_one_0 13 rfl) (by decide) ?_
      refine lv_lconst (v := 1) hx hb (dAt zX6_one_0 14 rfl) (by decide) ?_
      obtain ⟨u23, hu23, h⟩ := q_bind h
      refine xFz (wc := ([] : va_W)) (w1 := ([] : va_W)) (wr := (w6 cI cJ cZ qS zS zL)) (ws2 := (w6 cI cJ cZ qS zS zL)) (va_runS (As := [.long (Int32.toInt64 a3), .long 0, .long 1]) (rest := []) ⟨hx, hb, hml, hown, htl⟩ (c_X6_in l D cI cJ cZ n  H.size  (Int32.toInt64 a3) 0 1 u23 hu23) (va_cwS 3 htl (gS W_130 W_131 W_5 W_132) rfl rfl rfl (by decide +kernel) ⟨Nat.le_of_ble_eq_true rfl, Nat.le_of_ble_eq_true rfl⟩) (xPS xP0 (xD0 A) hK hN) rfl rfl hl.1 rfl (lv_room (Nat.le_of_ble_eq_true rfl)) (dAt zX6_one_0 15 rfl) ⟨Nat.zero_le _, Nat.zero_le _⟩) hS hA hP hD [] [0, 1, 2, 3, 4, 5, 6, 7, 8, 9, 10, 11, 12, 13, 14, 15, 16] [0, 1, 2, 3, 4, 5, 6, 7, 8, 9, 10, 11, 12, 13, 14, 15, 16] rfl rfl (by decide) (by decide) rfl (by decide) (fun H locs hz23 hP hD hS => ?_)
      refine lv_if_ne (tgt := 32) hx hb (dAt zX6_one_0 16 rfl) (by decide) (fun c_26 => ?_) (fun c_26 => ?_)
      · have h := q_neg c_26 h
        refine lv_aload_n hx hb (dAt zX6_one_0 19 rfl) rfl (lv_at hl 0 rfl) ?_
        refine lv_aload_n hx hb (dAt zX6_one_0 20 rfl) rfl (lv_at hl 0 rfl) ?_
        refine va_get (D := D) (ci := 6) (v := .int (zS 0 0)) (C := RX6) (T := TX6) (N := 32) hx hb htl inlX6 hown hK hP 0 rfl rfl 0 (by decide) (htl _ W_102) (fun _ h9 => h9) rfl (dAt zX6_one_0 21 rfl) ?_
        refine lv_iload_n hx hb (dAt zX6_one_0 22 rfl) rfl (lv_at hl 1 rfl) ?_
        refine lv_iload_n hx hb (dAt zX6_one_0 23 rfl) rfl (lv_at hl 2 rfl) ?_
        obtain ⟨u39, hu39, h⟩ := q_bind h
        refine xFi (wc := ([] : va_W)) (w1 := ([] : va_W)) (wr := (w6 cI cJ cZ qS zS zL)) (ws2 := (w6 cI cJ cZ qS zS zL)) (va_runS (As := [.int (zS 0 0), .int a1, .int a2]) (rest := [.ref (qS 0)]) ⟨hx, hb, hml, hown, htl⟩ (c_X6_with l D cI cJ cZ n  H.size  (zS 0 0) a1 a2 u39 hu39) (va_cwS 3 htl (gS W_162 W_163 W_5 W_164) rfl rfl rfl (by decide +kernel) ⟨Nat.le_of_ble_eq_true rfl, Nat.le_of_ble_eq_true rfl⟩) (xPS xP0 (xD0 A) hK hN) rfl rfl hl.1 rfl (lv_room (Nat.le_of_ble_eq_true rfl)) (dAt zX6_one_0 24 rfl) ⟨Nat.zero_le _, Nat.zero_le _⟩) hS hA hP hD [] [0, 1, 2, 3, 4, 5, 6, 7, 8, 9, 10, 11, 12, 13, 14, 15, 16] [0, 1, 2, 3, 4, 5, 6, 7, 8, 9, 10, 11, 12, 13, 14, 15, 16] rfl rfl (by decide) (by decide) rfl (by decide) (fun H locs hP hD hS => ?_)
        refine va_put (D := D) (ci := 6) (v := .int u39) (ty := .int) (C := RX6) (T := TX6) (N := 32) hx hb htl inlX6 tyX6 tyX6_ok nmX6 hown hK hP hD hS 0 rfl rfl 0 (by decide) (htl _ W_102) (fun _ h9 => h9) rfl (by decide +kernel) rfl rfl (Nat.le_of_ble_eq_true rfl) (dAt zX6_one_0 25 rfl) (fun H locs hP hD hS => ?_)
        have hP : va_P D vwCl (w6x cI cJ cZ qS u39 (zS 0 1) (zS 0 2) (zS 0 8) (zS 0 10) (zS 0 14) (zS 0 15) (zS 0 16) (zS 0 17) (zS 0 19) (zS 0 20) (zS 0 21) (zS 0 22) (zS 0 23) (zS 0 30) (zS 0 31) (zS 4) (zS 5) (zS 6) (zS 7) (zS 8) (zS 10) (zS 12) (zS 13) (zS 14) (zS 19) (zS 25) (zS 26) (zL 27) (zS 28) (zS 29) (zS 30)) H := hP
        have hD : va_D A (w6x cI cJ cZ qS u39 (zS 0 1) (zS 0 2) (zS 0 8) (zS 0 10) (zS 0 14) (zS 0 15) (zS 0 16) (zS 0 17) (zS 0 19) (zS 0 20) (zS 0 21) (zS 0 22) (zS 0 23) (zS 0 30) (zS 0 31) (zS 4) (zS 5) (zS 6) (zS 7) (zS 8) (zS 10) (zS 12) (zS 13) (zS 14) (zS 19) (zS 25) (zS 26) (zL 27) (zS 28) (zS 29) (zS 30)) := hD
        refine lv_aload_n hx hb (dAt zX6_one_0 26 rfl) rfl (lv_at hl 0 rfl) ?_
        refine lv_aload_n hx hb (dAt zX6_one_0 27 rfl) rfl (lv_at hl 0 rfl) ?_
        refine va_get (D := D) (ci := 6) (v := .int (zS 0 1)) (C := RX6) (T := TX6) (N := 32) hx hb htl inlX6 hown hK hP 0 rfl rfl 1 (by decide) (htl _ W_160) (fun _ h9 => h9) rfl (dAt zX6_one_0 28 rfl) ?_
        refine lv_iload_n hx hb (dAt zX6_one_0 29 rfl) rfl (lv_at hl 1 rfl) ?_
        refine lv_iload_n hx hb (dAt zX6_one_0 30 rfl) rfl (lv_at hl 3 rfl) ?_
        have hP : va_P D vwCl (w6 cI cJ cZ qS (sf zS 0 u39) zL) H := hP
        have hD : va_D A (w6 cI cJ cZ qS (sf zS 0 u39) zL) := hD
        obtain ⟨u52, hu52, h⟩ := q_bind h
        refine xFi (wc := ([] : va_W)) (w1 := ([] : va_W)) (wr := (w6 cI cJ cZ qS (sf zS 0 u39) zL)) (ws2 := (w6 cI cJ cZ qS (sf zS 0 u39) zL)) (va_runS (As := [.int (zS 0 1), .int a1, .int a3]) (rest := [.ref (qS 0)]) ⟨hx, hb, hml, hown, htl⟩ (c_X6_with l D cI cJ cZ n  H.size  (zS 0 1) a1 a3 u52 hu52) (va_cwS 3 htl (gS W_162 W_163 W_5 W_164) rfl rfl rfl (by decide +kernel) ⟨Nat.le_of_ble_eq_true rfl, Nat.le_of_ble_eq_true rfl⟩) (xPS xP0 (xD0 A) hK hN) rfl rfl hl.1 rfl (lv_room (Nat.le_of_ble_eq_true rfl)) (dAt zX6_one_0 31 rfl) ⟨Nat.zero_le _, Nat.zero_le _⟩) hS hA hP hD [] [0, 1, 2, 3, 4, 5, 6, 7, 8, 9, 10, 11, 12, 13, 14, 15, 16] [0, 1, 2, 3, 4, 5, 6, 7, 8, 9, 10, 11, 12, 13, 14, 15, 16] rfl rfl (by decide) (by decide) rfl (by decide) (fun H locs hP hD hS => ?_)
        refine va_put (D := D) (ci := 6) (v := .int u52) (ty := .int) (C := RX6) (T := TX6) (N := 32) hx hb htl inlX6 tyX6 tyX6_ok nmX6 hown hK hP hD hS 0 rfl rfl 1 (by decide) (htl _ W_160) (fun _ h9 => h9) rfl (by decide +kernel) rfl rfl (Nat.le_of_ble_eq_true rfl) (dAt zX6_one_0 32 rfl) (fun H locs hP hD hS => ?_)
        have hP : va_P D vwCl (w6x cI cJ cZ qS u39 u52 (zS 0 2) (zS 0 8) (zS 0 10) (zS 0 14) (zS 0 15) (zS 0 16) (zS 0 17) (zS 0 19) (zS 0 20) (zS 0 21) (zS 0 22) (zS 0 23) (zS 0 30) (zS 0 31) (zS 4) (zS 5) (zS 6) (zS 7) (zS 8) (zS 10) (zS 12) (zS 13) (zS 14) (zS 19) (zS 25) (zS 26) (zL 27) (zS 28) (zS 29) (zS 30)) H := hP
        have hD : va_D A (w6x cI cJ cZ qS u39 u52 (zS 0 2) (zS 0 8) (zS 0 10) (zS 0 14) (zS 0 15) (zS 0 16) (zS 0 17) (zS 0 19) (zS 0 20) (zS 0 21) (zS 0 22) (zS 0 23) (zS 0 30) (zS 0 31) (zS 4) (zS 5) (zS 6) (zS 7) (zS 8) (zS 10) (zS 12) (zS 13) (zS 14) (zS 19) (zS 25) (zS 26) (zL 27) (zS 28) (zS 29) (zS 30)) := hD
        refine lv_aload_n hx hb (dAt zX6_one_0 33 rfl) rfl (lv_at hl 0 rfl) ?_
        refine lv_aload_n hx hb (dAt zX6_one_0 34 rfl) rfl (lv_at hl 0 rfl) ?_
        refine va_get (D := D) (ci := 6) (v := .int (zS 0 2)) (C := RX6) (T := TX6) (N := 32) hx hb htl inlX6 hown hK hP 0 rfl rfl 2 (by decide) (htl _ W_161) (fun _ h9 => h9) rfl (dAt zX6_one_0 35 rfl) ?_
        refine lv_iload_n hx hb (dAt zX6_one_0 36 rfl) rfl (lv_at hl 1 rfl) ?_
        refine lv_iconst (v := 0) hx hb (dAt zX6_one_0 37 rfl) (by decide) ?_
        have hP : va_P D vwCl (w6 cI cJ cZ qS (sf (sf zS 0 u39) 1 u52) zL) H := hP
        have hD : va_D A (w6 cI cJ cZ qS (sf (sf zS 0 u39) 1 u52) zL) := hD
        obtain ⟨u65, hu65, h⟩ := q_bind h
        refine xFi (wc := ([] : va_W)) (w1 := ([] : va_W)) (wr := (w6 cI cJ cZ qS (sf (sf zS 0 u39) 1 u52) zL)) (ws2 := (w6 cI cJ cZ qS (sf (sf zS 0 u39) 1 u52) zL)) (va_runS (As := [.int (zS 0 2), .int a1, .int 0]) (rest := [.ref (qS 0)]) ⟨hx, hb, hml, hown, htl⟩ (c_X6_with l D cI cJ cZ n  H.size  (zS 0 2) a1 0 u65 hu65) (va_cwS 3 htl (gS W_162 W_163 W_5 W_164) rfl rfl rfl (by decide +kernel) ⟨Nat.le_of_ble_eq_true rfl, Nat.le_of_ble_eq_true rfl⟩) (xPS xP0 (xD0 A) hK hN) rfl rfl hl.1 rfl (lv_room (Nat.le_of_ble_eq_true rfl)) (dAt zX6_one_0 38 rfl) ⟨Nat.zero_le _, Nat.zero_le _⟩) hS hA hP hD [] [0, 1, 2, 3, 4, 5, 6, 7, 8, 9, 10, 11, 12, 13, 14, 15, 16] [0, 1, 2, 3, 4, 5, 6, 7, 8, 9, 10, 11, 12, 13, 14, 15, 16] rfl rfl (by decide) (by decide) rfl (by decide) (fun H locs hP hD hS => ?_)
        refine va_put (D := D) (ci := 6) (v := .int u65) (ty := .int) (C := RX6) (T := TX6) (N := 32) hx hb htl inlX6 tyX6 tyX6_ok nmX6 hown hK hP hD hS 0 rfl rfl 2 (by decide) (htl _ W_161) (fun _ h9 => h9) rfl (by decide +kernel) rfl rfl (Nat.le_of_ble_eq_true rfl) (dAt zX6_one_0 39 rfl) (fun H locs hP hD hS => ?_)
        have hP : va_P D vwCl (w6x cI cJ cZ qS u39 u52 u65 (zS 0 8) (zS 0 10) (zS 0 14) (zS 0 15) (zS 0 16) (zS 0 17) (zS 0 19) (zS 0 20) (zS 0 21) (zS 0 22) (zS 0 23) (zS 0 30) (zS 0 31) (zS 4) (zS 5) (zS 6) (zS 7) (zS 8) (zS 10) (zS 12) (zS 13) (zS 14) (zS 19) (zS 25) (zS 26) (zL 27) (zS 28) (zS 29) (zS 30)) H := hP
        have hD : va_D A (w6x cI cJ cZ qS u39 u52 u65 (zS 0 8) (zS 0 10) (zS 0 14) (zS 0 15) (zS 0 16) (zS 0 17) (zS 0 19) (zS 0 20) (zS 0 21) (zS 0 22) (zS 0 23) (zS 0 30) (zS 0 31) (zS 4) (zS 5) (zS 6) (zS 7) (zS 8) (zS 10) (zS 12) (zS 13) (zS 14) (zS 19) (zS 25) (zS 26) (zL 27) (zS 28) (zS 29) (zS 30)) := hD
        refine lv_aload_n hx hb (dAt zX6_one_0 40 rfl) rfl (lv_at hl 0 rfl) ?_
        refine va_get (D := D) (ci := 6) (v := .int u39) (C := RX6) (T := TX6) (N := 32) hx hb htl inlX6 hown hK hP 0 rfl rfl 0 (by decide) (htl _ W_102) (fun _ h9 => h9) rfl (dAt zX6_one_0 41 rfl) ?_
        have hP : va_P D vwCl (w6 cI cJ cZ qS (sf (sf (sf zS 0 u39) 1 u52) 2 u65) zL) H := hP
        have hD : va_D A (w6 cI cJ cZ qS (sf (sf (sf zS 0 u39) 1 u52) 2 u65) zL) := hD
        obtain ⟨u75, hu75, h⟩ := q_bind h
        refine xFi (wc := ([] : va_W)) (w1 := ([] : va_W)) (wr := (w6 cI cJ cZ qS (sf (sf (sf zS 0 u39) 1 u52) 2 u65) zL)) (ws2 := (w6 cI cJ cZ qS (sf (sf (sf zS 0 u39) 1 u52) 2 u65) zL)) (va_runS (As := [.int u39]) (rest := []) ⟨hx, hb, hml, hown, htl⟩ (c_X6_ones l D cI cJ cZ n  H.size  u39 u75 hu75) (va_cwS 1 htl (gS W_165 W_166 W_5 W_167) rfl rfl rfl (by decide +kernel) ⟨Nat.le_of_ble_eq_true rfl, Nat.le_of_ble_eq_true rfl⟩) (xPS xP0 (xD0 A) hK hN) rfl rfl hl.1 rfl (lv_room (Nat.le_of_ble_eq_true rfl)) (dAt zX6_one_0 42 rfl) ⟨Nat.zero_le _, Nat.zero_le _⟩) hS hA hP hD [] [0, 1, 2, 3, 4, 5, 6, 7, 8, 9, 10, 11, 12, 13, 14, 15, 16] [0, 1, 2, 3, 4, 5, 6, 7, 8, 9, 10, 11, 12, 13, 14, 15, 16] rfl rfl (by decide) (by decide) rfl (by decide) (fun H locs hP hD hS => ?_)
        have hP : va_P D vwCl (w6 cI cJ cZ qS (sf (sf (sf zS 0 u39) 1 u52) 2 u65) zL) H := hP
        have hD : va_D A (w6 cI cJ cZ qS (sf (sf (sf zS 0 u39) 1 u52) 2 u65) zL) := hD
        obtain rfl := q_some h
        exact xRi hx hb hr hlocks hQ hAe hP hD hK hS rfl (dAt zX6_one_0 43 rfl)
      · have h := q_pos c_26 h
        refine lv_bipush (v := (-2)) hx hb (dAt zX6_one_0 17 rfl) (by decide) ?_
        obtain rfl := q_some h
        exact xRi hx hb hr hlocks hQ hAe hP hD hK hS rfl (dAt zX6_one_0 18 rfl)
  · have h := q_pos c_4 h
    refine lv_iconst (v := (-1)) hx hb (dAt zX6_one_0 3 rfl) (by decide) ?_
    obtain rfl := q_some h
    exact xRi hx hb hr hlocks hQ hAe hP hD hK hS rfl (dAt zX6_one_0 4 rfl)
def m_X6_law (n : Nat) (zS : TI) (zL : TL) (a1 : Int32) (a2 : Int32) : Option (Int32 × TI) := ((m_X6_in n  (Int32.toInt64 a1) 0 3).bind fun u6 => (if u6 = 0 then some ((-2), zS) else (if 2 ≤ a1 then (if 2 ≤ a1 then ((m_X6_in n  (Int32.toInt64 a2) 0 1).bind fun u36 => (if u36 = 0 then some ((-2), zS) else (gd (inB a1 4) ((gd (inB a1 4) (some (((zS 6) (Int32.toNatClampNeg a1)), (upA zS 6 (upd (zS 6) (Int32.toNatClampNeg a1) a2))))))))) else ((m_X6_in n  (Int32.toInt64 a2) 0 9).bind fun u36 => (if u36 = 0 then some ((-2), zS) else (gd (inB a1 4) ((gd (inB a1 4) (some (((zS 6) (Int32.toNatClampNeg a1)), (upA zS 6 (upd (zS 6) (Int32.toNatClampNeg a1) a2)))))))))) else (if 2 ≤ a1 then ((m_X6_in n  (Int32.toInt64 a2) 1 1).bind fun u36 => (if u36 = 0 then some ((-2), zS) else (gd (inB a1 4) ((gd (inB a1 4) (some (((zS 6) (Int32.toNatClampNeg a1)), (upA zS 6 (upd (zS 6) (Int32.toNatClampNeg a1) a2))))))))) else ((m_X6_in n  (Int32.toInt64 a2) 1 9).bind fun u36 => (if u36 = 0 then some ((-2), zS) else (gd (inB a1 4) ((gd (inB a1 4) (some (((zS 6) (Int32.toNatClampNeg a1)), (upA zS 6 (upd (zS 6) (Int32.toNatClampNeg a1) a2)))))))))))))
set_option maxHeartbeats 4000000 in
set_option maxRecDepth 100000 in
theorem c_X6_law (l : Launch) (D : va_G) (cI cJ cZ : ClassId) (n : Nat) (qS : Nat → Nat) (sz : Nat) (zS : TI) (zL : TL) (a1 : Int32) (a2 : Int32) (out : Int32 × TI) (hm : m_X6_law n zS zL a1 a2 = some out) : Met l yX6_law (wsM yX6_law cX6_law 4 (some .int)) { frames := 1, cells := 0, slots := 0, locals := 25 } (xPre D (kT cI cJ cZ) (w6 cI cJ cZ qS zS zL) sz [.ref (qS 0), .int a1, .int a2]) (xQi D (kT cI cJ cZ) (w6 cI cJ cZ qS zS zL) (w6 cI cJ cZ qS out.2 zL) sz out.1) 0 0 (va_A (w6 cI cJ cZ qS zS zL) sz) := by
  refine Met.ofW (cc := cX6_law) (maxL := 4) (ret := (some .int)) (by decide) rfl ?_
  intro p e s m args below meth c s₁ B hml hv
  obtain ⟨hv, hsz, hP, hK, hD0, hN⟩ := hv
  have hx := B.exec; have hb := B.bytes; have hr := B.returns
  have hts := atoms_spec (ws := (wsM yX6_law cX6_law 4 (some .int))) B.pre
  have hown : s.vm.findClass RX6 = some m.cls := findClass_of_methodNamed B.named
  have hlocks := B.notSynchronized
  subst hsz
  have hD := hD0.self (sz := s.heap.size)
  obtain ⟨A, hAe⟩ : ∃ A, A = va_A (w6 cI cJ cZ qS zS zL) s.heap.size := ⟨_, rfl⟩
  rw [← hAe] at hD
  have hA : ∀ q : Nat, s.heap.size ≤ q → A q := fun q h => by rw [hAe]; exact Or.inr h
  have htl : ∀ w ∈ wsL_law, w.before args s = true := fun w h => hts w (List.mem_cons_of_mem _ h)
  refine xHead (R' := { frames := 1, cells := 0, slots := 0, locals := 25 }) rfl (fun Q H hQ hH => ?_)
  have hP : va_P D vwCl (w6 cI cJ cZ qS zS zL) H := by rw [hH]; exact hP
  have hS : va_S A s.heap H [] := by rw [hH]; exact va_S.rf
  refine xStart hv (Nat.le_of_ble_eq_true rfl) (lv := [(0, .ref (qS 0)), (1, .int a1), (2, .int a2)]) rfl (fun ls hl => ?_)
  have h := hm
  unfold m_X6_law at h
  refine lv_iload_n hx hb (dAt zX6_law_0 0 rfl) rfl (lv_at hl 1 rfl) ?_
  refine lv_i2l (v := (Int32.toInt64 a1)) hx hb (dAt zX6_law_0 1 rfl) rfl ?_
  refine lv_lconst (v := 0) hx hb (dAt zX6_law_0 2 rfl) (by decide) ?_
  refine lv_ldc2 (v := 3) hx hb hown (htl _ W_125) (dAt zX6_law_0 3 rfl) ?_
  obtain ⟨u6, hu6, h⟩ := q_bind h
  refine xFz (wc := ([] : va_W)) (w1 := ([] : va_W)) (wr := (w6 cI cJ cZ qS zS zL)) (ws2 := (w6 cI cJ cZ qS zS zL)) (va_runS (As := [.long (Int32.toInt64 a1), .long 0, .long 3]) (rest := []) ⟨hx, hb, hml, hown, htl⟩ (c_X6_in l D cI cJ cZ n  H.size  (Int32.toInt64 a1) 0 3 u6 hu6) (va_cwS 3 htl (gS W_130 W_131 W_5 W_132) rfl rfl rfl (by decide +kernel) ⟨Nat.le_of_ble_eq_true rfl, Nat.le_of_ble_eq_true rfl⟩) (xPS xP0 (xD0 A) hK hN) rfl rfl hl.1 rfl (lv_room (Nat.le_of_ble_eq_true rfl)) (dAt zX6_law_0 4 rfl) ⟨Nat.zero_le _, Nat.zero_le _⟩) hS hA hP hD [] [0, 1, 2, 3, 4, 5, 6, 7, 8, 9, 10, 11, 12, 13, 14, 15, 16] [0, 1, 2, 3, 4, 5, 6, 7, 8, 9, 10, 11, 12, 13, 14, 15, 16] rfl rfl (by decide) (by decide) rfl (by decide) (fun H locs hz6 hP hD hS => ?_)
  refine lv_if_eq (tgt := 42) hx hb (dAt zX6_law_0 5 rfl) (by decide) (fun c_9 => ?_) (fun c_9 => ?_)
  · have h := q_pos c_9 h
    refine lv_bipush (v := (-2)) hx hb (dAt zX6_law_0 22 rfl) (by decide) ?_
    obtain rfl := q_some h
    exact xRi hx hb hr hlocks hQ hAe hP hD hK hS rfl (dAt zX6_law_0 23 rfl)
  · have h := q_neg c_9 h
    refine lv_iload_n hx hb (dAt zX6_law_0 6 rfl) rfl (lv_at hl 2 rfl) ?_
    refine lv_i2l (v := (Int32.toInt64 a2)) hx hb (dAt zX6_law_0 7 rfl) rfl ?_
    refine lv_iload_n hx hb (dAt zX6_law_0 8 rfl) rfl (lv_at hl 1 rfl) ?_
    refine lv_iconst (v := 2) hx hb (dAt zX6_law_0 9 rfl) (by decide) ?_
    refine lv_icmp_ge (tgt := 23) hx hb (dAt zX6_law_0 10 rfl) (by decide) (fun c_16 => ?_) (fun c_16 => ?_)
    · have h := q_pos c_16 h
      refine lv_lconst (v := 0) hx hb (dAt zX6_law_0 13 rfl) (by decide) ?_
      refine lv_iload_n hx hb (dAt zX6_law_0 14 rfl) rfl (lv_at hl 1 rfl) ?_
      refine lv_iconst (v := 2) hx hb (dAt zX6_law_0 15 rfl) (by decide) ?_
      refine lv_icmp_ge (tgt := 35) hx hb (dAt zX6_law_0 16 rfl) (by decide) (fun c_26 => ?_) (fun c_26 => ?_)
      · have h := q_pos c_26 h
        refine lv_lconst (v := 1) hx hb (dAt zX6_law_0 19 rfl) (by decide) ?_
        obtain ⟨u36, hu36, h⟩ := q_bind h
        refine xFz (wc := ([] : va_W)) (w1 := ([] : va_W)) (wr := (w6 cI cJ cZ qS zS zL)) (ws2 := (w6 cI cJ cZ qS zS zL)) (va_runS (As := [.long (Int32.toInt64 a2), .long 0, .long 1]) (rest := []) ⟨hx, hb, hml, hown, htl⟩ (c_X6_in l D cI cJ cZ n  H.size  (Int32.toInt64 a2) 0 1 u36 hu36) (va_cwS 3 htl (gS W_130 W_131 W_5 W_132) rfl rfl rfl (by decide +kernel) ⟨Nat.le_of_ble_eq_true rfl, Nat.le_of_ble_eq_true rfl⟩) (xPS xP0 (xD0 A) hK hN) rfl rfl hl.1 rfl (lv_room (Nat.le_of_ble_eq_true rfl)) (dAt zX6_law_0 20 rfl) ⟨Nat.zero_le _, Nat.zero_le _⟩) hS hA hP hD [] [0, 1, 2, 3, 4, 5, 6, 7, 8, 9, 10, 11, 12, 13, 14, 15, 16] [0, 1, 2, 3, 4, 5, 6, 7, 8, 9, 10, 11, 12, 13, 14, 15, 16] rfl rfl (by decide) (by decide) rfl (by decide) (fun H locs hz36 hP hD hS => ?_)
        refine lv_if_ne (tgt := 45) hx hb (dAt zX6_law_0 21 rfl) (by decide) (fun c_39 => ?_) (fun c_39 => ?_)
        · have h := q_neg c_39 h
          refine lv_aload_n hx hb (dAt zX6_law_0 24 rfl) rfl (lv_at hl 0 rfl) ?_
          refine va_get (D := D) (ci := 6) (v := .ref (qS 6)) (C := RX6) (T := TX6) (N := 32) hx hb htl inlX6 hown hK hP 0 rfl rfl 5 (by decide) (htl _ W_87) (fun _ h9 => h9) rfl (dAt zX6_law_0 25 rfl) ?_
          refine lv_iload_n hx hb (dAt zX6_law_0 26 rfl) rfl (lv_at hl 1 rfl) ?_
          obtain ⟨hi_50, h⟩ := q_in h
          refine va_iald hx hb hK hP 3 0 rfl rfl hi_50 (dAt zX6_law_0 27 rfl) ?_
          refine lv_istore_n (lv' := [(3, .int ((zS 6) (Int32.toNatClampNeg a1))), (0, .ref (qS 0)), (1, .int a1), (2, .int a2)]) hx hb (dAt zX6_law_0 28 rfl) rfl hl (by decide) rfl (fun ls hl => ?_)
          refine lv_aload_n hx hb (dAt zX6_law_0 29 rfl) rfl (lv_at hl 1 rfl) ?_
          refine va_get (D := D) (ci := 6) (v := .ref (qS 6)) (C := RX6) (T := TX6) (N := 32) hx hb htl inlX6 hown hK hP 0 rfl rfl 5 (by decide) (htl _ W_87) (fun _ h9 => h9) rfl (dAt zX6_law_0 30 rfl) ?_
          refine lv_iload_n hx hb (dAt zX6_law_0 31 rfl) rfl (lv_at hl 2 rfl) ?_
          refine lv_iload_n hx hb (dAt zX6_law_0 32 rfl) rfl (lv_at hl 3 rfl) ?_
          obtain ⟨hi_58, h⟩ := q_in h
          refine va_iast hx hb hK hP hD hS 3 0 rfl rfl hi_58 (dAt zX6_law_0 33 rfl) (fun H locs hP hD hS => ?_)
          have hP : va_P D vwCl (w6x cI cJ cZ qS (zS 0 0) (zS 0 1) (zS 0 2) (zS 0 8) (zS 0 10) (zS 0 14) (zS 0 15) (zS 0 16) (zS 0 17) (zS 0 19) (zS 0 20) (zS 0 21) (zS 0 22) (zS 0 23) (zS 0 30) (zS 0 31) (zS 4) (zS 5) (upd (zS 6) (Int32.toNatClampNeg a1) a2) (zS 7) (zS 8) (zS 10) (zS 12) (zS 13) (zS 14) (zS 19) (zS 25) (zS 26) (zL 27) (zS 28) (zS 29) (zS 30)) H := hP
          have hD : va_D A (w6x cI cJ cZ qS (zS 0 0) (zS 0 1) (zS 0 2) (zS 0 8) (zS 0 10) (zS 0 14) (zS 0 15) (zS 0 16) (zS 0 17) (zS 0 19) (zS 0 20) (zS 0 21) (zS 0 22) (zS 0 23) (zS 0 30) (zS 0 31) (zS 4) (zS 5) (upd (zS 6) (Int32.toNatClampNeg a1) a2) (zS 7) (zS 8) (zS 10) (zS 12) (zS 13) (zS 14) (zS 19) (zS 25) (zS 26) (zL 27) (zS 28) (zS 29) (zS 30)) := hD
          refine lv_iload_n hx hb (dAt zX6_law_0 34 rfl) rfl (lv_at hl 0 rfl) ?_
          have hP : va_P D vwCl (w6 cI cJ cZ qS (upA zS 6 (upd (zS 6) (Int32.toNatClampNeg a1) a2)) zL) H := hP
          have hD : va_D A (w6 cI cJ cZ qS (upA zS 6 (upd (zS 6) (Int32.toNatClampNeg a1) a2)) zL) := hD
          obtain rfl := q_some h
          exact xRi hx hb hr hlocks hQ hAe hP hD hK hS rfl (dAt zX6_law_0 35 rfl)
        · have h := q_pos c_39 h
          refine lv_bipush (v := (-2)) hx hb (dAt zX6_law_0 22 rfl) (by decide) ?_
          obtain rfl := q_some h
          exact xRi hx hb hr hlocks hQ hAe hP hD hK hS rfl (dAt zX6_law_0 23 rfl)
      · have h := q_neg c_26 h
        refine lv_ldc2 (v := 9) hx hb hown (htl _ W_126) (dAt zX6_law_0 17 rfl) ?_
        refine lv_goto (tgt := 36) hx hb (dAt zX6_law_0 18 rfl) (by decide) ?_
        obtain ⟨u36, hu36, h⟩ := q_bind h
        refine xFz (wc := ([] : va_W)) (w1 := ([] : va_W)) (wr := (w6 cI cJ cZ qS zS zL)) (ws2 := (w6 cI cJ cZ qS zS zL)) (va_runS (As := [.long (Int32.toInt64 a2), .long 0, .long 9]) (rest := []) ⟨hx, hb, hml, hown, htl⟩ (c_X6_in l D cI cJ cZ n  H.size  (Int32.toInt64 a2) 0 9 u36 hu36) (va_cwS 3 htl (gS W_130 W_131 W_5 W_132) rfl rfl rfl (by decide +kernel) ⟨Nat.le_of_ble_eq_true rfl, Nat.le_of_ble_eq_true rfl⟩) (xPS xP0 (xD0 A) hK hN) rfl rfl hl.1 rfl (lv_room (Nat.le_of_ble_eq_true rfl)) (dAt zX6_law_0 20 rfl) ⟨Nat.zero_le _, Nat.zero_le _⟩) hS hA hP hD [] [0, 1, 2, 3, 4, 5, 6, 7, 8, 9, 10, 11, 12, 13, 14, 15, 16] [0, 1, 2, 3, 4, 5, 6, 7, 8, 9, 10, 11, 12, 13, 14, 15, 16] rfl rfl (by decide) (by decide) rfl (by decide) (fun H locs hz36 hP hD hS => ?_)
        refine lv_if_ne (tgt := 45) hx hb (dAt zX6_law_0 21 rfl) (by decide) (fun c_39 => ?_) (fun c_39 => ?_)
        · have h := q_neg c_39 h
          refine lv_aload_n hx hb (dAt zX6_law_0 24 rfl) rfl (lv_at hl 0 rfl) ?_
          refine va_get (D := D) (ci := 6) (v := .ref (qS 6)) (C := RX6) (T := TX6) (N := 32) hx hb htl inlX6 hown hK hP 0 rfl rfl 5 (by decide) (htl _ W_87) (fun _ h9 => h9) rfl (dAt zX6_law_0 25 rfl) ?_
          refine lv_iload_n hx hb (dAt zX6_law_0 26 rfl) rfl (lv_at hl 1 rfl) ?_
          obtain ⟨hi_50, h⟩ := q_in h
          refine va_iald hx hb hK hP 3 0 rfl rfl hi_50 (dAt zX6_law_0 27 rfl) ?_
          refine lv_istore_n (lv' := [(3, .int ((zS 6) (Int32.toNatClampNeg a1))), (0, .ref (qS 0)), (1, .int a1), (2, .int a2)]) hx hb (dAt zX6_law_0 28 rfl) rfl hl (by decide) rfl (fun ls hl => ?_)
          refine lv_aload_n hx hb (dAt zX6_law_0 29 rfl) rfl (lv_at hl 1 rfl) ?_
          refine va_get (D := D) (ci := 6) (v := .ref (qS 6)) (C := RX6) (T := TX6) (N := 32) hx hb htl inlX6 hown hK hP 0 rfl rfl 5 (by decide) (htl _ W_87) (fun _ h9 => h9) rfl (dAt zX6_law_0 30 rfl) ?_
          refine lv_iload_n hx hb (dAt zX6_law_0 31 rfl) rfl (lv_at hl 2 rfl) ?_
          refine lv_iload_n hx hb (dAt zX6_law_0 32 rfl) rfl (lv_at hl 3 rfl) ?_
          obtain ⟨hi_58, h⟩ := q_in h
          refine va_iast hx hb hK hP hD hS 3 0 rfl rfl hi_58 (dAt zX6_law_0 33 rfl) (fun H locs hP hD hS => ?_)
          have hP : va_P D vwCl (w6x cI cJ cZ qS (zS 0 0) (zS 0 1) (zS 0 2) (zS 0 8) (zS 0 10) (zS 0 14) (zS 0 15) (zS 0 16) (zS 0 17) (zS 0 19) (zS 0 20) (zS 0 21) (zS 0 22) (zS 0 23) (zS 0 30) (zS 0 31) (zS 4) (zS 5) (upd (zS 6) (Int32.toNatClampNeg a1) a2) (zS 7) (zS 8) (zS 10) (zS 12) (zS 13) (zS 14) (zS 19) (zS 25) (zS 26) (zL 27) (zS 28) (zS 29) (zS 30)) H := hP
          have hD : va_D A (w6x cI cJ cZ qS (zS 0 0) (zS 0 1) (zS 0 2) (zS 0 8) (zS 0 10) (zS 0 14) (zS 0 15) (zS 0 16) (zS 0 17) (zS 0 19) (zS 0 20) (zS 0 21) (zS 0 22) (zS 0 23) (zS 0 30) (zS 0 31) (zS 4) (zS 5) (upd (zS 6) (Int32.toNatClampNeg a1) a2) (zS 7) (zS 8) (zS 10) (zS 12) (zS 13) (zS 14) (zS 19) (zS 25) (zS 26) (zL 27) (zS 28) (zS 29) (zS 30)) := hD
          refine lv_iload_n hx hb (dAt zX6_law_0 34 rfl) rfl (lv_at hl 0 rfl) ?_
          have hP : va_P D vwCl (w6 cI cJ cZ qS (upA zS 6 (upd (zS 6) (Int32.toNatClampNeg a1) a2)) zL) H := hP
          have hD : va_D A (w6 cI cJ cZ qS (upA zS 6 (upd (zS 6) (Int32.toNatClampNeg a1) a2)) zL) := hD
          obtain rfl := q_some h
          exact xRi hx hb hr hlocks hQ hAe hP hD hK hS rfl (dAt zX6_law_0 35 rfl)
        · have h := q_pos c_39 h
          refine lv_bipush (v := (-2)) hx hb (dAt zX6_law_0 22 rfl) (by decide) ?_
          obtain rfl := q_some h
          exact xRi hx hb hr hlocks hQ hAe hP hD hK hS rfl (dAt zX6_law_0 23 rfl)
    · have h := q_neg c_16 h
      refine lv_lconst (v := 1) hx hb (dAt zX6_law_0 11 rfl) (by decide) ?_
      refine lv_goto (tgt := 24) hx hb (dAt zX6_law_0 12 rfl) (by decide) ?_
      refine lv_iload_n hx hb (dAt zX6_law_0 14 rfl) rfl (lv_at hl 1 rfl) ?_
      refine lv_iconst (v := 2) hx hb (dAt zX6_law_0 15 rfl) (by decide) ?_
      refine lv_icmp_ge (tgt := 35) hx hb (dAt zX6_law_0 16 rfl) (by decide) (fun c_26 => ?_) (fun c_26 => ?_)
      · have h := q_pos c_26 h
        refine lv_lconst (v := 1) hx hb (dAt zX6_law_0 19 rfl) (by decide) ?_
        obtain ⟨u36, hu36, h⟩ := q_bind h
        refine xFz (wc := ([] : va_W)) (w1 := ([] : va_W)) (wr := (w6 cI cJ cZ qS zS zL)) (ws2 := (w6 cI cJ cZ qS zS zL)) (va_runS (As := [.long (Int32.toInt64 a2), .long 1, .long 1]) (rest := []) ⟨hx, hb, hml, hown, htl⟩ (c_X6_in l D cI cJ cZ n  H.size  (Int32.toInt64 a2) 1 1 u36 hu36) (va_cwS 3 htl (gS W_130 W_131 W_5 W_132) rfl rfl rfl (by decide +kernel) ⟨Nat.le_of_ble_eq_true rfl, Nat.le_of_ble_eq_true rfl⟩) (xPS xP0 (xD0 A) hK hN) rfl rfl hl.1 rfl (lv_room (Nat.le_of_ble_eq_true rfl)) (dAt zX6_law_0 20 rfl) ⟨Nat.zero_le _, Nat.zero_le _⟩) hS hA hP hD [] [0, 1, 2, 3, 4, 5, 6, 7, 8, 9, 10, 11, 12, 13, 14, 15, 16] [0, 1, 2, 3, 4, 5, 6, 7, 8, 9, 10, 11, 12, 13, 14, 15, 16] rfl rfl (by decide) (by decide) rfl (by decide) (fun H locs hz36 hP hD hS => ?_)
        refine lv_if_ne (tgt := 45) hx hb (dAt zX6_law_0 21 rfl) (by decide) (fun c_39 => ?_) (fun c_39 => ?_)
        · have h := q_neg c_39 h
          refine lv_aload_n hx hb (dAt zX6_law_0 24 rfl) rfl (lv_at hl 0 rfl) ?_
          refine va_get (D := D) (ci := 6) (v := .ref (qS 6)) (C := RX6) (T := TX6) (N := 32) hx hb htl inlX6 hown hK hP 0 rfl rfl 5 (by decide) (htl _ W_87) (fun _ h9 => h9) rfl (dAt zX6_law_0 25 rfl) ?_
          refine lv_iload_n hx hb (dAt zX6_law_0 26 rfl) rfl (lv_at hl 1 rfl) ?_
          obtain ⟨hi_50, h⟩ := q_in h
          refine va_iald hx hb hK hP 3 0 rfl rfl hi_50 (dAt zX6_law_0 27 rfl) ?_
          refine lv_istore_n (lv' := [(3, .int ((zS 6) (Int32.toNatClampNeg a1))), (0, .ref (qS 0)), (1, .int a1), (2, .int a2)]) hx hb (dAt zX6_law_0 28 rfl) rfl hl (by decide) rfl (fun ls hl => ?_)
          refine lv_aload_n hx hb (dAt zX6_law_0 29 rfl) rfl (lv_at hl 1 rfl) ?_
          refine va_get (D := D) (ci := 6) (v := .ref (qS 6)) (C := RX6) (T := TX6) (N := 32) hx hb htl inlX6 hown hK hP 0 rfl rfl 5 (by decide) (htl _ W_87) (fun _ h9 => h9) rfl (dAt zX6_law_0 30 rfl) ?_
          refine lv_iload_n hx hb (dAt zX6_law_0 31 rfl) rfl (lv_at hl 2 rfl) ?_
          refine lv_iload_n hx hb (dAt zX6_law_0 32 rfl) rfl (lv_at hl 3 rfl) ?_
          obtain ⟨hi_58, h⟩ := q_in h
          refine va_iast hx hb hK hP hD hS 3 0 rfl rfl hi_58 (dAt zX6_law_0 33 rfl) (fun H locs hP hD hS => ?_)
          have hP : va_P D vwCl (w6x cI cJ cZ qS (zS 0 0) (zS 0 1) (zS 0 2) (zS 0 8) (zS 0 10) (zS 0 14) (zS 0 15) (zS 0 16) (zS 0 17) (zS 0 19) (zS 0 20) (zS 0 21) (zS 0 22) (zS 0 23) (zS 0 30) (zS 0 31) (zS 4) (zS 5) (upd (zS 6) (Int32.toNatClampNeg a1) a2) (zS 7) (zS 8) (zS 10) (zS 12) (zS 13) (zS 14) (zS 19) (zS 25) (zS 26) (zL 27) (zS 28) (zS 29) (zS 30)) H := hP
          have hD : va_D A (w6x cI cJ cZ qS (zS 0 0) (zS 0 1) (zS 0 2) (zS 0 8) (zS 0 10) (zS 0 14) (zS 0 15) (zS 0 16) (zS 0 17) (zS 0 19) (zS 0 20) (zS 0 21) (zS 0 22) (zS 0 23) (zS 0 30) (zS 0 31) (zS 4) (zS 5) (upd (zS 6) (Int32.toNatClampNeg a1) a2) (zS 7) (zS 8) (zS 10) (zS 12) (zS 13) (zS 14) (zS 19) (zS 25) (zS 26) (zL 27) (zS 28) (zS 29) (zS 30)) := hD
          refine lv_iload_n hx hb (dAt zX6_law_0 34 rfl) rfl (lv_at hl 0 rfl) ?_
          have hP : va_P D vwCl (w6 cI cJ cZ qS (upA zS 6 (upd (zS 6) (Int32.toNatClampNeg a1) a2)) zL) H := hP
          have hD : va_D A (w6 cI cJ cZ qS (upA zS 6 (upd (zS 6) (Int32.toNatClampNeg a1) a2)) zL) := hD
          obtain rfl := q_some h
          exact xRi hx hb hr hlocks hQ hAe hP hD hK hS rfl (dAt zX6_law_0 35 rfl)
        · have h := q_pos c_39 h
          refine lv_bipush (v := (-2)) hx hb (dAt zX6_law_0 22 rfl) (by decide) ?_
          obtain rfl := q_some h
          exact xRi hx hb hr hlocks hQ hAe hP hD hK hS rfl (dAt zX6_law_0 23 rfl)
      · have h := q_neg c_26 h
        refine lv_ldc2 (v := 9) hx hb hown (htl _ W_126) (dAt zX6_law_0 17 rfl) ?_
        refine lv_goto (tgt := 36) hx hb (dAt zX6_law_0 18 rfl) (by decide) ?_
        obtain ⟨u36, hu36, h⟩ := q_bind h
        refine xFz (wc := ([] : va_W)) (w1 := ([] : va_W)) (wr := (w6 cI cJ cZ qS zS zL)) (ws2 := (w6 cI cJ cZ qS zS zL)) (va_runS (As := [.long (Int32.toInt64 a2), .long 1, .long 9]) (rest := []) ⟨hx, hb, hml, hown, htl⟩ (c_X6_in l D cI cJ cZ n  H.size  (Int32.toInt64 a2) 1 9 u36 hu36) (va_cwS 3 htl (gS W_130 W_131 W_5 W_132) rfl rfl rfl (by decide +kernel) ⟨Nat.le_of_ble_eq_true rfl, Nat.le_of_ble_eq_true rfl⟩) (xPS xP0 (xD0 A) hK hN) rfl rfl hl.1 rfl (lv_room (Nat.le_of_ble_eq_true rfl)) (dAt zX6_law_0 20 rfl) ⟨Nat.zero_le _, Nat.zero_le _⟩) hS hA hP hD [] [0, 1, 2, 3, 4, 5, 6, 7, 8, 9, 10, 11, 12, 13, 14, 15, 16] [0, 1, 2, 3, 4, 5, 6, 7, 8, 9, 10, 11, 12, 13, 14, 15, 16] rfl rfl (by decide) (by decide) rfl (by decide) (fun H locs hz36 hP hD hS => ?_)
        refine lv_if_ne (tgt := 45) hx hb (dAt zX6_law_0 21 rfl) (by decide) (fun c_39 => ?_) (fun c_39 => ?_)
        · have h := q_neg c_39 h
          refine lv_aload_n hx hb (dAt zX6_law_0 24 rfl) rfl (lv_at hl 0 rfl) ?_
          refine va_get (D := D) (ci := 6) (v := .ref (qS 6)) (C := RX6) (T := TX6) (N := 32) hx hb htl inlX6 hown hK hP 0 rfl rfl 5 (by decide) (htl _ W_87) (fun _ h9 => h9) rfl (dAt zX6_law_0 25 rfl) ?_
          refine lv_iload_n hx hb (dAt zX6_law_0 26 rfl) rfl (lv_at hl 1 rfl) ?_
          obtain ⟨hi_50, h⟩ := q_in h
          refine va_iald hx hb hK hP 3 0 rfl rfl hi_50 (dAt zX6_law_0 27 rfl) ?_
          refine lv_istore_n (lv' := [(3, .int ((zS 6) (Int32.toNatClampNeg a1))), (0, .ref (qS 0)), (1, .int a1), (2, .int a2)]) hx hb (dAt zX6_law_0 28 rfl) rfl hl (by decide) rfl (fun ls hl => ?_)
          refine lv_aload_n hx hb (dAt zX6_law_0 29 rfl) rfl (lv_at hl 1 rfl) ?_
          refine va_get (D := D) (ci := 6) (v := .ref (qS 6)) (C := RX6) (T := TX6) (N := 32) hx hb htl inlX6 hown hK hP 0 rfl rfl 5 (by decide) (htl _ W_87) (fun _ h9 => h9) rfl (dAt zX6_law_0 30 rfl) ?_
          refine lv_iload_n hx hb (dAt zX6_law_0 31 rfl) rfl (lv_at hl 2 rfl) ?_
          refine lv_iload_n hx hb (dAt zX6_law_0 32 rfl) rfl (lv_at hl 3 rfl) ?_
          obtain ⟨hi_58, h⟩ := q_in h
          refine va_iast hx hb hK hP hD hS 3 0 rfl rfl hi_58 (dAt zX6_law_0 33 rfl) (fun H locs hP hD hS => ?_)
          have hP : va_P D vwCl (w6x cI cJ cZ qS (zS 0 0) (zS 0 1) (zS 0 2) (zS 0 8) (zS 0 10) (zS 0 14) (zS 0 15) (zS 0 16) (zS 0 17) (zS 0 19) (zS 0 20) (zS 0 21) (zS 0 22) (zS 0 23) (zS 0 30) (zS 0 31) (zS 4) (zS 5) (upd (zS 6) (Int32.toNatClampNeg a1) a2) (zS 7) (zS 8) (zS 10) (zS 12) (zS 13) (zS 14) (zS 19) (zS 25) (zS 26) (zL 27) (zS 28) (zS 29) (zS 30)) H := hP
          have hD : va_D A (w6x cI cJ cZ qS (zS 0 0) (zS 0 1) (zS 0 2) (zS 0 8) (zS 0 10) (zS 0 14) (zS 0 15) (zS 0 16) (zS 0 17) (zS 0 19) (zS 0 20) (zS 0 21) (zS 0 22) (zS 0 23) (zS 0 30) (zS 0 31) (zS 4) (zS 5) (upd (zS 6) (Int32.toNatClampNeg a1) a2) (zS 7) (zS 8) (zS 10) (zS 12) (zS 13) (zS 14) (zS 19) (zS 25) (zS 26) (zL 27) (zS 28) (zS 29) (zS 30)) := hD
          refine lv_iload_n hx hb (dAt zX6_law_0 34 rfl) rfl (lv_at hl 0 rfl) ?_
          have hP : va_P D vwCl (w6 cI cJ cZ qS (upA zS 6 (upd (zS 6) (Int32.toNatClampNeg a1) a2)) zL) H := hP
          have hD : va_D A (w6 cI cJ cZ qS (upA zS 6 (upd (zS 6) (Int32.toNatClampNeg a1) a2)) zL) := hD
          obtain rfl := q_some h
          exact xRi hx hb hr hlocks hQ hAe hP hD hK hS rfl (dAt zX6_law_0 35 rfl)
        · have h := q_pos c_39 h
          refine lv_bipush (v := (-2)) hx hb (dAt zX6_law_0 22 rfl) (by decide) ?_
          obtain rfl := q_some h
          exact xRi hx hb hr hlocks hQ hAe hP hD hK hS rfl (dAt zX6_law_0 23 rfl)
def m_X6_say (n : Nat) (zS : TI) (zL : TL) (a1 : Int32) : Option (Int32 × TI) := ((m_X6_in n  (Int32.toInt64 a1) 33 126).bind fun u8 => (if u8 = 0 then some ((-2), zS) else (if (zS 0 10) = 60 then some ((-4), zS) else (gd (inB (zS 0 10) 60) (some (((zS 0 10) + (1 : Int32)), (sf (upA zS 10 (upd (zS 10) (Int32.toNatClampNeg (zS 0 10)) a1)) 10 ((zS 0 10) + (1 : Int32)))))))))
set_option maxHeartbeats 4000000 in
set_option maxRecDepth 100000 in
theorem c_X6_say (l : Launch) (D : va_G) (cI cJ cZ : ClassId) (n : Nat) (qS : Nat → Nat) (sz : Nat) (zS : TI) (zL : TL) (a1 : Int32) (out : Int32 × TI) (hm : m_X6_say n zS zL a1 = some out) : Met l yX6_say (wsM yX6_say cX6_say 2 (some .int)) { frames := 1, cells := 0, slots := 0, locals := 25 } (xPre D (kT cI cJ cZ) (w6 cI cJ cZ qS zS zL) sz [.ref (qS 0), .int a1]) (xQi D (kT cI cJ cZ) (w6 cI cJ cZ qS zS zL) (w6 cI cJ cZ qS out.2 zL) sz out.1) 0 0 (va_A (w6 cI cJ cZ qS zS zL) sz) := by
  refine Met.ofW (cc := cX6_say) (maxL := 2) (ret := (some .int)) (by decide) rfl ?_
  intro p e s m args below meth c s₁ B hml hv
  obtain ⟨hv, hsz, hP, hK, hD0, hN⟩ := hv
  have hx := B.exec; have hb := B.bytes; have hr := B.returns
  have hts := atoms_spec (ws := (wsM yX6_say cX6_say 2 (some .int))) B.pre
  have hown : s.vm.findClass RX6 = some m.cls := findClass_of_methodNamed B.named
  have hlocks := B.notSynchronized
  subst hsz
  have hD := hD0.self (sz := s.heap.size)
  obtain ⟨A, hAe⟩ : ∃ A, A = va_A (w6 cI cJ cZ qS zS zL) s.heap.size := ⟨_, rfl⟩
  rw [← hAe] at hD
  have hA : ∀ q : Nat, s.heap.size ≤ q → A q := fun q h => by rw [hAe]; exact Or.inr h
  have htl : ∀ w ∈ wsL_law, w.before args s = true := fun w h => hts w (List.mem_cons_of_mem _ h)
  refine xHead (R' := { frames := 1, cells := 0, slots := 0, locals := 25 }) rfl (fun Q H hQ hH => ?_)
  have hP : va_P D vwCl (w6 cI cJ cZ qS zS zL) H := by rw [hH]; exact hP
  have hS : va_S A s.heap H [] := by rw [hH]; exact va_S.rf
  refine xStart hv (Nat.le_of_ble_eq_true rfl) (lv := [(0, .ref (qS 0)), (1, .int a1)]) rfl (fun ls hl => ?_)
  have h := hm
  unfold m_X6_say at h
  refine lv_iload_n hx hb (dAt zX6_say_0 0 rfl) rfl (lv_at hl 1 rfl) ?_
  refine lv_i2l (v := (Int32.toInt64 a1)) hx hb (dAt zX6_say_0 1 rfl) rfl ?_
  refine lv_ldc2 (v := 33) hx hb hown (htl _ W_200) (dAt zX6_say_0 2 rfl) ?_
  refine lv_ldc2 (v := 126) hx hb hown (htl _ W_201) (dAt zX6_say_0 3 rfl) ?_
  obtain ⟨u8, hu8, h⟩ := q_bind h
  refine xFz (wc := ([] : va_W)) (w1 := ([] : va_W)) (wr := (w6 cI cJ cZ qS zS zL)) (ws2 := (w6 cI cJ cZ qS zS zL)) (va_runS (As := [.long (Int32.toInt64 a1), .long 33, .long 126]) (rest := []) ⟨hx, hb, hml, hown, htl⟩ (c_X6_in l D cI cJ cZ n  H.size  (Int32.toInt64 a1) 33 126 u8 hu8) (va_cwS 3 htl (gS W_130 W_131 W_5 W_132) rfl rfl rfl (by decide +kernel) ⟨Nat.le_of_ble_eq_true rfl, Nat.le_of_ble_eq_true rfl⟩) (xPS xP0 (xD0 A) hK hN) rfl rfl hl.1 rfl (lv_room (Nat.le_of_ble_eq_true rfl)) (dAt zX6_say_0 4 rfl) ⟨Nat.zero_le _, Nat.zero_le _⟩) hS hA hP hD [] [0, 1, 2, 3, 4, 5, 6, 7, 8, 9, 10, 11, 12, 13, 14, 15, 16] [0, 1, 2, 3, 4, 5, 6, 7, 8, 9, 10, 11, 12, 13, 14, 15, 16] rfl rfl (by decide) (by decide) rfl (by decide) (fun H locs hz8 hP hD hS => ?_)
  refine lv_if_ne (tgt := 17) hx hb (dAt zX6_say_0 5 rfl) (by decide) (fun c_11 => ?_) (fun c_11 => ?_)
  · have h := q_neg c_11 h
    refine lv_aload_n hx hb (dAt zX6_say_0 8 rfl) rfl (lv_at hl 0 rfl) ?_
    refine va_get (D := D) (ci := 6) (v := .int (zS 0 10)) (C := RX6) (T := TX6) (N := 32) hx hb htl inlX6 hown hK hP 0 rfl rfl 10 (by decide) (htl _ W_202) (fun _ h9 => h9) rfl (dAt zX6_say_0 9 rfl) ?_
    refine lv_bipush (v := 60) hx hb (dAt zX6_say_0 10 rfl) (by decide) ?_
    refine lv_icmp_ne (tgt := 29) hx hb (dAt zX6_say_0 11 rfl) (by decide) (fun c_23 => ?_) (fun c_23 => ?_)
    · have h := q_neg c_23 h
      refine lv_aload_n hx hb (dAt zX6_say_0 14 rfl) rfl (lv_at hl 0 rfl) ?_
      refine va_get (D := D) (ci := 6) (v := .ref (qS 10)) (C := RX6) (T := TX6) (N := 32) hx hb htl inlX6 hown hK hP 0 rfl rfl 9 (by decide) (htl _ W_90) (fun _ h9 => h9) rfl (dAt zX6_say_0 15 rfl) ?_
      refine lv_aload_n hx hb (dAt zX6_say_0 16 rfl) rfl (lv_at hl 0 rfl) ?_
      refine va_get (D := D) (ci := 6) (v := .int (zS 0 10)) (C := RX6) (T := TX6) (N := 32) hx hb htl inlX6 hown hK hP 0 rfl rfl 10 (by decide) (htl _ W_202) (fun _ h9 => h9) rfl (dAt zX6_say_0 17 rfl) ?_
      refine lv_iload_n hx hb (dAt zX6_say_0 18 rfl) rfl (lv_at hl 1 rfl) ?_
      obtain ⟨hi_38, h⟩ := q_in h
      refine va_iast hx hb hK hP hD hS 6 0 rfl rfl hi_38 (dAt zX6_say_0 19 rfl) (fun H locs hP hD hS => ?_)
      have hP : va_P D vwCl (w6x cI cJ cZ qS (zS 0 0) (zS 0 1) (zS 0 2) (zS 0 8) (zS 0 10) (zS 0 14) (zS 0 15) (zS 0 16) (zS 0 17) (zS 0 19) (zS 0 20) (zS 0 21) (zS 0 22) (zS 0 23) (zS 0 30) (zS 0 31) (zS 4) (zS 5) (zS 6) (zS 7) (zS 8) (upd (zS 10) (Int32.toNatClampNeg (zS 0 10)) a1) (zS 12) (zS 13) (zS 14) (zS 19) (zS 25) (zS 26) (zL 27) (zS 28) (zS 29) (zS 30)) H := hP
      have hD : va_D A (w6x cI cJ cZ qS (zS 0 0) (zS 0 1) (zS 0 2) (zS 0 8) (zS 0 10) (zS 0 14) (zS 0 15) (zS 0 16) (zS 0 17) (zS 0 19) (zS 0 20) (zS 0 21) (zS 0 22) (zS 0 23) (zS 0 30) (zS 0 31) (zS 4) (zS 5) (zS 6) (zS 7) (zS 8) (upd (zS 10) (Int32.toNatClampNeg (zS 0 10)) a1) (zS 12) (zS 13) (zS 14) (zS 19) (zS 25) (zS 26) (zL 27) (zS 28) (zS 29) (zS 30)) := hD
      refine lv_aload_n hx hb (dAt zX6_say_0 20 rfl) rfl (lv_at hl 0 rfl) ?_
      refine lv_dup hx hb (dAt zX6_say_0 21 rfl) rfl ?_
      refine va_get (D := D) (ci := 6) (v := .int (zS 0 10)) (C := RX6) (T := TX6) (N := 32) hx hb htl inlX6 hown hK hP 0 rfl rfl 10 (by decide) (htl _ W_202) (fun _ h9 => h9) rfl (dAt zX6_say_0 22 rfl) ?_
      refine lv_iconst (v := 1) hx hb (dAt zX6_say_0 23 rfl) (by decide) ?_
      refine lv_iadd hx hb (dAt zX6_say_0 24 rfl) ?_
      refine va_put (D := D) (ci := 6) (v := .int ((zS 0 10) + (1 : Int32))) (ty := .int) (C := RX6) (T := TX6) (N := 32) hx hb htl inlX6 tyX6 tyX6_ok nmX6 hown hK hP hD hS 0 rfl rfl 10 (by decide) (htl _ W_202) (fun _ h9 => h9) rfl (by decide +kernel) rfl rfl (Nat.le_of_ble_eq_true rfl) (dAt zX6_say_0 25 rfl) (fun H locs hP hD hS => ?_)
      have hP : va_P D vwCl (w6x cI cJ cZ qS (zS 0 0) (zS 0 1) (zS 0 2) (zS 0 8) ((zS 0 10) + (1 : Int32)) (zS 0 14) (zS 0 15) (zS 0 16) (zS 0 17) (zS 0 19) (zS 0 20) (zS 0 21) (zS 0 22) (zS 0 23) (zS 0 30) (zS 0 31) (zS 4) (zS 5) (zS 6) (zS 7) (zS 8) (upd (zS 10) (Int32.toNatClampNeg (zS 0 10)) a1) (zS 12) (zS 13) (zS 14) (zS 19) (zS 25) (zS 26) (zL 27) (zS 28) (zS 29) (zS 30)) H := hP
      have hD : va_D A (w6x cI cJ cZ qS (zS 0 0) (zS 0 1) (zS 0 2) (zS 0 8) ((zS 0 10) + (1 : Int32)) (zS 0 14) (zS 0 15) (zS 0 16) (zS 0 17) (zS 0 19) (zS 0 20) (zS 0 21) (zS 0 22) (zS 0 23) (zS 0 30) (zS 0 31) (zS 4) (zS 5) (zS 6) (zS 7) (zS 8) (upd (zS 10) (Int32.toNatClampNeg (zS 0 10)) a1) (zS 12) (zS 13) (zS 14) (zS 19) (zS 25) (zS 26) (zL 27) (zS 28) (zS 29) (zS 30)) := hD
      refine lv_aload_n hx hb (dAt zX6_say_0 26 rfl) rfl (lv_at hl 0 rfl) ?_
      refine va_get (D := D) (ci := 6) (v := .int ((zS 0 10) + (1 : Int32))) (C := RX6) (T := TX6) (N := 32) hx hb htl inlX6 hown hK hP 0 rfl rfl 10 (by decide) (htl _ W_202) (fun _ h9 => h9) rfl (dAt zX6_say_0 27 rfl) ?_
      have hP : va_P D vwCl (w6 cI cJ cZ qS (sf (upA zS 10 (upd (zS 10) (Int32.toNatClampNeg (zS 0 10)) a1)) 10 ((zS 0 10) + (1 : Int32))) zL) H := hP
      have hD : va_D A (w6 cI cJ cZ qS (sf (upA zS 10 (upd (zS 10) (Int32.toNatClampNeg (zS 0 10)) a1)) 10 ((zS 0 10) + (1 : Int32))) zL) := hD
      obtain rfl := q_some h
      exact xRi hx hb hr hlocks hQ hAe hP hD hK hS rfl (dAt zX6_say_0 28 rfl)
    · have h := q_pos c_23 h
      refine lv_bipush (v := (-4)) hx hb (dAt zX6_say_0 12 rfl) (by decide) ?_
      obtain rfl := q_some h
      exact xRi hx hb hr hlocks hQ hAe hP hD hK hS rfl (dAt zX6_say_0 13 rfl)
  · have h := q_pos c_11 h
    refine lv_bipush (v := (-2)) hx hb (dAt zX6_say_0 6 rfl) (by decide) ?_
    obtain rfl := q_some h
    exact xRi hx hb hr hlocks hQ hAe hP hD hK hS rfl (dAt zX6_say_0 7 rfl)
def m_X6_wipe (n : Nat) (zS : TI) (zL : TL) : Option (Int32 × TI) := some ((zS 0 10), (sf zS 10 0))
set_option maxHeartbeats 4000000 in
set_option maxRecDepth 100000 in
theorem c_X6_wipe (l : Launch) (D : va_G) (cI cJ cZ : ClassId) (n : Nat) (qS : Nat → Nat) (sz : Nat) (zS : TI) (zL : TL) (out : Int32 × TI) (hm : m_X6_wipe n zS zL = some out) : Met l yX6_wipe (wsM yX6_wipe cX6_wipe 2 (some .int)) { frames := 0, cells := 0, slots := 0, locals := 0 } (xPre D (kT cI cJ cZ) (w6 cI cJ cZ qS zS zL) sz [.ref (qS 0)]) (xQi D (kT cI cJ cZ) (w6 cI cJ cZ qS zS zL) (w6 cI cJ cZ qS out.2 zL) sz out.1) 0 0 (va_A (w6 cI cJ cZ qS zS zL) sz) := by
  refine Met.ofW (cc := cX6_wipe) (maxL := 2) (ret := (some .int)) (by decide) rfl ?_
  intro p e s m args below meth c s₁ B hml hv
  obtain ⟨hv, hsz, hP, hK, hD0, hN⟩ := hv
  have hx := B.exec; have hb := B.bytes; have hr := B.returns
  have hts := atoms_spec (ws := (wsM yX6_wipe cX6_wipe 2 (some .int))) B.pre
  have hown : s.vm.findClass RX6 = some m.cls := findClass_of_methodNamed B.named
  have hlocks := B.notSynchronized
  subst hsz
  have hD := hD0.self (sz := s.heap.size)
  obtain ⟨A, hAe⟩ : ∃ A, A = va_A (w6 cI cJ cZ qS zS zL) s.heap.size := ⟨_, rfl⟩
  rw [← hAe] at hD
  have hA : ∀ q : Nat, s.heap.size ≤ q → A q := fun q h => by rw [hAe]; exact Or.inr h
  have htl : ∀ w ∈ wsL_law, w.before args s = true := fun w h => hts w (List.mem_cons_of_mem _ h)
  refine xHead (R' := { frames := 0, cells := 0, slots := 0, locals := 0 }) rfl (fun Q H hQ hH => ?_)
  have hP : va_P D vwCl (w6 cI cJ cZ qS zS zL) H := by rw [hH]; exact hP
  have hS : va_S A s.heap H [] := by rw [hH]; exact va_S.rf
  refine xStart hv (Nat.le_of_ble_eq_true rfl) (lv := [(0, .ref (qS 0))]) rfl (fun ls hl => ?_)
  have h := hm
  unfold m_X6_wipe at h
  refine lv_aload_n hx hb (dAt zX6_wipe_0 0 rfl) rfl (lv_at hl 0 rfl) ?_
  refine va_get (D := D) (ci := 6) (v := .int (zS 0 10)) (C := RX6) (T := TX6) (N := 32) hx hb htl inlX6 hown hK hP 0 rfl rfl 10 (by decide) (htl _ W_202) (fun _ h9 => h9) rfl (dAt zX6_wipe_0 1 rfl) ?_
  refine lv_istore_n (lv' := [(1, .int (zS 0 10)), (0, .ref (qS 0))]) hx hb (dAt zX6_wipe_0 2 rfl) rfl hl (by decide) rfl (fun ls hl => ?_)
  refine lv_aload_n hx hb (dAt zX6_wipe_0 3 rfl) rfl (lv_at hl 1 rfl) ?_
  refine lv_iconst (v := 0) hx hb (dAt zX6_wipe_0 4 rfl) (by decide) ?_
  refine va_put (D := D) (ci := 6) (v := .int 0) (ty := .int) (C := RX6) (T := TX6) (N := 32) hx hb htl inlX6 tyX6 tyX6_ok nmX6 hown hK hP hD hS 0 rfl rfl 10 (by decide) (htl _ W_202) (fun _ h9 => h9) rfl (by decide +kernel) rfl rfl (Nat.le_of_ble_eq_true rfl) (dAt zX6_wipe_0 5 rfl) (fun H locs hP hD hS => ?_)
  have hP : va_P D vwCl (w6x cI cJ cZ qS (zS 0 0) (zS 0 1) (zS 0 2) (zS 0 8) 0 (zS 0 14) (zS 0 15) (zS 0 16) (zS 0 17) (zS 0 19) (zS 0 20) (zS 0 21) (zS 0 22) (zS 0 23) (zS 0 30) (zS 0 31) (zS 4) (zS 5) (zS 6) (zS 7) (zS 8) (zS 10) (zS 12) (zS 13) (zS 14) (zS 19) (zS 25) (zS 26) (zL 27) (zS 28) (zS 29) (zS 30)) H := hP
  have hD : va_D A (w6x cI cJ cZ qS (zS 0 0) (zS 0 1) (zS 0 2) (zS 0 8) 0 (zS 0 14) (zS 0 15) (zS 0 16) (zS 0 17) (zS 0 19) (zS 0 20) (zS 0 21) (zS 0 22) (zS 0 23) (zS 0 30) (zS 0 31) (zS 4) (zS 5) (zS 6) (zS 7) (zS 8) (zS 10) (zS 12) (zS 13) (zS 14) (zS 19) (zS 25) (zS 26) (zL 27) (zS 28) (zS 29) (zS 30)) := hD
  refine lv_iload_n hx hb (dAt zX6_wipe_0 6 rfl) rfl (lv_at hl 0 rfl) ?_
  have hP : va_P D vwCl (w6 cI cJ cZ qS (sf zS 10 0) zL) H := hP
  have hD : va_D A (w6 cI cJ cZ qS (sf zS 10 0) zL) := hD
  obtain rfl := q_some h
  exact xRi hx hb hr hlocks hQ hAe hP hD hK hS rfl (dAt zX6_wipe_0 7 rfl)
def m_X6_close (n : Nat) (zS : TI) (zL : TL) (a1 : Int32) : Option (Int32 × TI) := (gd (inB (zS 0 14) 60) (some (0, (sf (upA zS 12 (upd (zS 12) (Int32.toNatClampNeg (zS 0 14)) a1)) 14 ((zS 0 14) + (1 : Int32))))))
set_option maxHeartbeats 4000000 in
set_option maxRecDepth 100000 in
theorem c_X6_close (l : Launch) (D : va_G) (cI cJ cZ : ClassId) (n : Nat) (qS : Nat → Nat) (sz : Nat) (zS : TI) (zL : TL) (a1 : Int32) (out : Int32 × TI) (hm : m_X6_close n zS zL a1 = some out) : Met l yX6_close (wsM yX6_close cX6_close 2 (some .int)) { frames := 0, cells := 0, slots := 0, locals := 0 } (xPre D (kT cI cJ cZ) (w6 cI cJ cZ qS zS zL) sz [.ref (qS 0), .int a1]) (xQi D (kT cI cJ cZ) (w6 cI cJ cZ qS zS zL) (w6 cI cJ cZ qS out.2 zL) sz out.1) 0 0 (va_A (w6 cI cJ cZ qS zS zL) sz) := by
  refine Met.ofW (cc := cX6_close) (maxL := 2) (ret := (some .int)) (by decide) rfl ?_
  intro p e s m args below meth c s₁ B hml hv
  obtain ⟨hv, hsz, hP, hK, hD0, hN⟩ := hv
  have hx := B.exec; have hb := B.bytes; have hr := B.returns
  have hts := atoms_spec (ws := (wsM yX6_close cX6_close 2 (some .int))) B.pre
  have hown : s.vm.findClass RX6 = some m.cls := findClass_of_methodNamed B.named
  have hlocks := B.notSynchronized
  subst hsz
  have hD := hD0.self (sz := s.heap.size)
  obtain ⟨A, hAe⟩ : ∃ A, A = va_A (w6 cI cJ cZ qS zS zL) s.heap.size := ⟨_, rfl⟩
  rw [← hAe] at hD
  have hA : ∀ q : Nat, s.heap.size ≤ q → A q := fun q h => by rw [hAe]; exact Or.inr h
  have htl : ∀ w ∈ wsL_law, w.before args s = true := fun w h => hts w (List.mem_cons_of_mem _ h)
  refine xHead (R' := { frames := 0, cells := 0, slots := 0, locals := 0 }) rfl (fun Q H hQ hH => ?_)
  have hP : va_P D vwCl (w6 cI cJ cZ qS zS zL) H := by rw [hH]; exact hP
  have hS : va_S A s.heap H [] := by rw [hH]; exact va_S.rf
  refine xStart hv (Nat.le_of_ble_eq_true rfl) (lv := [(0, .ref (qS 0)), (1, .int a1)]) rfl (fun ls hl => ?_)
  have h := hm
  unfold m_X6_close at h
  refine lv_aload_n hx hb (dAt zX6_close_0 0 rfl) rfl (lv_at hl 0 rfl) ?_
  refine va_get (D := D) (ci := 6) (v := .ref (qS 12)) (C := RX6) (T := TX6) (N := 32) hx hb htl inlX6 hown hK hP 0 rfl rfl 11 (by decide) (htl _ W_91) (fun _ h9 => h9) rfl (dAt zX6_close_0 1 rfl) ?_
  refine lv_aload_n hx hb (dAt zX6_close_0 2 rfl) rfl (lv_at hl 0 rfl) ?_
  refine va_get (D := D) (ci := 6) (v := .int (zS 0 14)) (C := RX6) (T := TX6) (N := 32) hx hb htl inlX6 hown hK hP 0 rfl rfl 14 (by decide) (htl _ W_238) (fun _ h9 => h9) rfl (dAt zX6_close_0 3 rfl) ?_
  refine lv_iload_n hx hb (dAt zX6_close_0 4 rfl) rfl (lv_at hl 1 rfl) ?_
  obtain ⟨hi_9, h⟩ := q_in h
  refine va_iast hx hb hK hP hD hS 7 0 rfl rfl hi_9 (dAt zX6_close_0 5 rfl) (fun H locs hP hD hS => ?_)
  have hP : va_P D vwCl (w6x cI cJ cZ qS (zS 0 0) (zS 0 1) (zS 0 2) (zS 0 8) (zS 0 10) (zS 0 14) (zS 0 15) (zS 0 16) (zS 0 17) (zS 0 19) (zS 0 20) (zS 0 21) (zS 0 22) (zS 0 23) (zS 0 30) (zS 0 31) (zS 4) (zS 5) (zS 6) (zS 7) (zS 8) (zS 10) (upd (zS 12) (Int32.toNatClampNeg (zS 0 14)) a1) (zS 13) (zS 14) (zS 19) (zS 25) (zS 26) (zL 27) (zS 28) (zS 29) (zS 30)) H := hP
  have hD : va_D A (w6x cI cJ cZ qS (zS 0 0) (zS 0 1) (zS 0 2) (zS 0 8) (zS 0 10) (zS 0 14) (zS 0 15) (zS 0 16) (zS 0 17) (zS 0 19) (zS 0 20) (zS 0 21) (zS 0 22) (zS 0 23) (zS 0 30) (zS 0 31) (zS 4) (zS 5) (zS 6) (zS 7) (zS 8) (zS 10) (upd (zS 12) (Int32.toNatClampNeg (zS 0 14)) a1) (zS 13) (zS 14) (zS 19) (zS 25) (zS 26) (zL 27) (zS 28) (zS 29) (zS 30)) := hD
  refine lv_aload_n hx hb (dAt zX6_close_0 6 rfl) rfl (lv_at hl 0 rfl) ?_
  refine lv_dup hx hb (dAt zX6_close_0 7 rfl) rfl ?_
  refine va_get (D := D) (ci := 6) (v := .int (zS 0 14)) (C := RX6) (T := TX6) (N := 32) hx hb htl inlX6 hown hK hP 0 rfl rfl 14 (by decide) (htl _ W_238) (fun _ h9 => h9) rfl (dAt zX6_close_0 8 rfl) ?_
  refine lv_iconst (v := 1) hx hb (dAt zX6_close_0 9 rfl) (by decide) ?_
  refine lv_iadd hx hb (dAt zX6_close_0 10 rfl) ?_
  refine va_put (D := D) (ci := 6) (v := .int ((zS 0 14) + (1 : Int32))) (ty := .int) (C := RX6) (T := TX6) (N := 32) hx hb htl inlX6 tyX6 tyX6_ok nmX6 hown hK hP hD hS 0 rfl rfl 14 (by decide) (htl _ W_238) (fun _ h9 => h9) rfl (by decide +kernel) rfl rfl (Nat.le_of_ble_eq_true rfl) (dAt zX6_close_0 11 rfl) (fun H locs hP hD hS => ?_)
  have hP : va_P D vwCl (w6x cI cJ cZ qS (zS 0 0) (zS 0 1) (zS 0 2) (zS 0 8) (zS 0 10) ((zS 0 14) + (1 : Int32)) (zS 0 15) (zS 0 16) (zS 0 17) (zS 0 19) (zS 0 20) (zS 0 21) (zS 0 22) (zS 0 23) (zS 0 30) (zS 0 31) (zS 4) (zS 5) (zS 6) (zS 7) (zS 8) (zS 10) (upd (zS 12) (Int32.toNatClampNeg (zS 0 14)) a1) (zS 13) (zS 14) (zS 19) (zS 25) (zS 26) (zL 27) (zS 28) (zS 29) (zS 30)) H := hP
  have hD : va_D A (w6x cI cJ cZ qS (zS 0 0) (zS 0 1) (zS 0 2) (zS 0 8) (zS 0 10) ((zS 0 14) + (1 : Int32)) (zS 0 15) (zS 0 16) (zS 0 17) (zS 0 19) (zS 0 20) (zS 0 21) (zS 0 22) (zS 0 23) (zS 0 30) (zS 0 31) (zS 4) (zS 5) (zS 6) (zS 7) (zS 8) (zS 10) (upd (zS 12) (Int32.toNatClampNeg (zS 0 14)) a1) (zS 13) (zS 14) (zS 19) (zS 25) (zS 26) (zL 27) (zS 28) (zS 29) (zS 30)) := hD
  refine lv_iconst (v := 0) hx hb (dAt zX6_close_0 12 rfl) (by decide) ?_
  have hP : va_P D vwCl (w6 cI cJ cZ qS (sf (upA zS 12 (upd (zS 12) (Int32.toNatClampNeg (zS 0 14)) a1)) 14 ((zS 0 14) + (1 : Int32))) zL) H := hP
  have hD : va_D A (w6 cI cJ cZ qS (sf (upA zS 12 (upd (zS 12) (Int32.toNatClampNeg (zS 0 14)) a1)) 14 ((zS 0 14) + (1 : Int32))) zL) := hD
  obtain rfl := q_some h
  exact xRi hx hb hr hlocks hQ hAe hP hD hK hS rfl (dAt zX6_close_0 13 rfl)
def m_X6_isLetter (n : Nat) (a1 : Int32) : Option Int32 := ((m_X6_in n  (Int32.toInt64 a1) 65 74).bind fun u8 => gd (isZ u8) (some u8))
set_option maxHeartbeats 4000000 in
set_option maxRecDepth 100000 in
theorem c_X6_isLetter (l : Launch) (D : va_G) (cI cJ cZ : ClassId) (n : Nat)  (sz : Nat) (a1 : Int32) (out : Int32) (hm : m_X6_isLetter n a1 = some out) : Met l yX6_isLetter (wsM yX6_isLetter cX6_isLetter 1 (some .boolean)) { frames := 1, cells := 0, slots := 0, locals := 25 } (xPre D (kT cI cJ cZ) ([] : va_W) sz [.int a1]) (xQz D (kT cI cJ cZ) ([] : va_W) ([] : va_W) sz out) 0 0 (va_A ([] : va_W) sz) := by
  refine Met.ofW (cc := cX6_isLetter) (maxL := 1) (ret := (some .boolean)) (by decide) rfl ?_
  intro p e s m args below meth c s₁ B hml hv
  obtain ⟨hv, hsz, hP, hK, hD0, hN⟩ := hv
  have hx := B.exec; have hb := B.bytes; have hr := B.returns
  have hts := atoms_spec (ws := (wsM yX6_isLetter cX6_isLetter 1 (some .boolean))) B.pre
  have hown : s.vm.findClass RX6 = some m.cls := findClass_of_methodNamed B.named
  have hlocks := B.notSynchronized
  subst hsz
  have hD := hD0.self (sz := s.heap.size)
  obtain ⟨A, hAe⟩ : ∃ A, A = va_A ([] : va_W) s.heap.size := ⟨_, rfl⟩
  rw [← hAe] at hD
  have hA : ∀ q : Nat, s.heap.size ≤ q → A q := fun q h => by rw [hAe]; exact Or.inr h
  have htl : ∀ w ∈ wsL_law, w.before args s = true := fun w h => hts w (List.mem_cons_of_mem _ h)
  refine xHead (R' := { frames := 1, cells := 0, slots := 0, locals := 25 }) rfl (fun Q H hQ hH => ?_)
  have hP : va_P D vwCl ([] : va_W) H := by rw [hH]; exact hP
  have hS : va_S A s.heap H [] := by rw [hH]; exact va_S.rf
  refine xStart hv (Nat.le_of_ble_eq_true rfl) (lv := [(0, .int a1)]) rfl (fun ls hl => ?_)
  have h := hm
  unfold m_X6_isLetter at h
  refine lv_iload_n hx hb (dAt zX6_isLetter_0 0 rfl) rfl (lv_at hl 0 rfl) ?_
  refine lv_i2l (v := (Int32.toInt64 a1)) hx hb (dAt zX6_isLetter_0 1 rfl) rfl ?_
  refine lv_ldc2 (v := 65) hx hb hown (htl _ W_250) (dAt zX6_isLetter_0 2 rfl) ?_
  refine lv_ldc2 (v := 74) hx hb hown (htl _ W_251) (dAt zX6_isLetter_0 3 rfl) ?_
  obtain ⟨u8, hu8, h⟩ := q_bind h
  refine xFz (wc := ([] : va_W)) (w1 := ([] : va_W)) (wr := ([] : va_W)) (ws2 := ([] : va_W)) (va_runS (As := [.long (Int32.toInt64 a1), .long 65, .long 74]) (rest := []) ⟨hx, hb, hml, hown, htl⟩ (c_X6_in l D cI cJ cZ n  H.size  (Int32.toInt64 a1) 65 74 u8 hu8) (va_cwS 3 htl (gS W_130 W_131 W_5 W_132) rfl rfl rfl (by decide +kernel) ⟨Nat.le_of_ble_eq_true rfl, Nat.le_of_ble_eq_true rfl⟩) (xPS hP hD hK hN) rfl rfl hl.1 rfl (lv_room (Nat.le_of_ble_eq_true rfl)) (dAt zX6_isLetter_0 4 rfl) ⟨Nat.zero_le _, Nat.zero_le _⟩) hS hA hP hD [] [] [] rfl rfl (by decide) (by decide) rfl (by decide) (fun H locs hz8 hP hD hS => ?_)
  obtain ⟨hzz, h⟩ := q_z h
  obtain rfl := q_some h
  exact xRz hx hb hr hlocks hQ hAe hP hD hK hS rfl hzz (dAt zX6_isLetter_0 5 rfl)
def m_X6_begin (n : Nat) (zS : TI) (zL : TL) (a1 : Int32) : Option (Int32 × TI) := ((m_X6_isLetter n  a1).bind fun u9 => (if u9 = 0 then (gd (inB (zS 0 14) 60) ((gd (inB (zS 0 14) 60) (((m_X6_isLetter n  a1).bind fun u35 => (if u35 = 0 then (if a1 = 46 then ((m_X6_close n (upA (upA zS 13 (upd (zS 13) (Int32.toNatClampNeg (zS 0 14)) 0)) 14 (upd (zS 14) (Int32.toNatClampNeg (zS 0 14)) 0)) zL 5).bind fun u53 => some (u53.1, u53.2)) else (if a1 = 126 then ((m_X6_close n (upA (upA zS 13 (upd (zS 13) (Int32.toNatClampNeg (zS 0 14)) 0)) 14 (upd (zS 14) (Int32.toNatClampNeg (zS 0 14)) 0)) zL 6).bind fun u68 => some (u68.1, u68.2)) else some ((-6), (upA (upA zS 13 (upd (zS 13) (Int32.toNatClampNeg (zS 0 14)) 0)) 14 (upd (zS 14) (Int32.toNatClampNeg (zS 0 14)) 0))))) else some (1, (upA (upA zS 13 (upd (zS 13) (Int32.toNatClampNeg (zS 0 14)) 0)) 14 (upd (zS 14) (Int32.toNatClampNeg (zS 0 14)) 0))))))))) else (gd (inB (zS 0 14) 60) ((gd (inB (zS 0 14) 60) (((m_X6_isLetter n  a1).bind fun u35 => (if u35 = 0 then (if a1 = 46 then ((m_X6_close n (upA (upA zS 13 (upd (zS 13) (Int32.toNatClampNeg (zS 0 14)) (a1 - (65 : Int32)))) 14 (upd (zS 14) (Int32.toNatClampNeg (zS 0 14)) 0)) zL 5).bind fun u53 => some (u53.1, u53.2)) else (if a1 = 126 then ((m_X6_close n (upA (upA zS 13 (upd (zS 13) (Int32.toNatClampNeg (zS 0 14)) (a1 - (65 : Int32)))) 14 (upd (zS 14) (Int32.toNatClampNeg (zS 0 14)) 0)) zL 6).bind fun u68 => some (u68.1, u68.2)) else some ((-6), (upA (upA zS 13 (upd (zS 13) (Int32.toNatClampNeg (zS 0 14)) (a1 - (65 : Int32)))) 14 (upd (zS 14) (Int32.toNatClampNeg (zS 0 14)) 0))))) else some (1, (upA (upA zS 13 (upd (zS 13) (Int32.toNatClampNeg (zS 0 14)) (a1 - (65 : Int32)))) 14 (upd (zS 14) (Int32.toNatClampNeg (zS 0 14)) 0)))))))))))
set_option maxHeartbeats 4000000 in
set_option maxRecDepth 100000 in
theorem c_X6_begin (l : Launch) (D : va_G) (cI cJ cZ : ClassId) (n : Nat) (qS : Nat → Nat) (sz : Nat) (zS : TI) (zL : TL) (a1 : Int32) (out : Int32 × TI) (hm : m_X6_begin n zS zL a1 = some out) : Met l yX6_begin (wsM yX6_begin cX6_begin 2 (some .int)) { frames := 2, cells := 0, slots := 0, locals := 45 } (xPre D (kT cI cJ cZ) (w6 cI cJ cZ qS zS zL) sz [.ref (qS 0), .int a1]) (xQi D (kT cI cJ cZ) (w6 cI cJ cZ qS zS zL) (w6 cI cJ cZ qS out.2 zL) sz out.1) 0 0 (va_A (w6 cI cJ cZ qS zS zL) sz) := by
  refine Met.ofW (cc := cX6_begin) (maxL := 2) (ret := (some .int)) (by decide) rfl ?_
  intro p e s m args below meth c s₁ B hml hv
  obtain ⟨hv, hsz, hP, hK, hD0, hN⟩ := hv
  have hx := B.exec; have hb := B.bytes; have hr := B.returns
  have hts := atoms_spec (ws := (wsM yX6_begin cX6_begin 2 (some .int))) B.pre
  have hown : s.vm.findClass RX6 = some m.cls := findClass_of_methodNamed B.named
  have hlocks := B.notSynchronized
  subst hsz
  have hD := hD0.self (sz := s.heap.size)
  obtain ⟨A, hAe⟩ : ∃ A, A = va_A (w6 cI cJ cZ qS zS zL) s.heap.size := ⟨_, rfl⟩
  rw [← hAe] at hD
  have hA : ∀ q : Nat, s.heap.size ≤ q → A q := fun q h => by rw [hAe]; exact Or.inr h
  have htl : ∀ w ∈ wsL_law, w.before args s = true := fun w h => hts w (List.mem_cons_of_mem _ h)
  refine xHead (R' := { frames := 2, cells := 0, slots := 0, locals := 45 }) rfl (fun Q H hQ hH => ?_)
  have hP : va_P D vwCl (w6 cI cJ cZ qS zS zL) H := by rw [hH]; exact hP
  have hS : va_S A s.heap H [] := by rw [hH]; exact va_S.rf
  refine xStart hv (Nat.le_of_ble_eq_true rfl) (lv := [(0, .ref (qS 0)), (1, .int a1)]) rfl (fun ls hl => ?_)
  have h := hm
  unfold m_X6_begin at h
  refine lv_aload_n hx hb (dAt zX6_begin_0 0 rfl) rfl (lv_at hl 0 rfl) ?_
  refine va_get (D := D) (ci := 6) (v := .ref (qS 13)) (C := RX6) (T := TX6) (N := 32) hx hb htl inlX6 hown hK hP 0 rfl rfl 12 (by decide) (htl _ W_92) (fun _ h9 => h9) rfl (dAt zX6_begin_0 1 rfl) ?_
  refine lv_aload_n hx hb (dAt zX6_begin_0 2 rfl) rfl (lv_at hl 0 rfl) ?_
  refine va_get (D := D) (ci := 6) (v := .int (zS 0 14)) (C := RX6) (T := TX6) (N := 32) hx hb htl inlX6 hown hK hP 0 rfl rfl 14 (by decide) (htl _ W_238) (fun _ h9 => h9) rfl (dAt zX6_begin_0 3 rfl) ?_
  refine lv_iload_n hx hb (dAt zX6_begin_0 4 rfl) rfl (lv_at hl 1 rfl) ?_
  obtain ⟨u9, hu9, h⟩ := q_bind h
  refine xFz (wc := ([] : va_W)) (w1 := ([] : va_W)) (wr := (w6 cI cJ cZ qS zS zL)) (ws2 := (w6 cI cJ cZ qS zS zL)) (va_runS (As := [.int a1]) (rest := [.int (zS 0 14), .ref (qS 13)]) ⟨hx, hb, hml, hown, htl⟩ (c_X6_isLetter l D cI cJ cZ n  H.size  a1 u9 hu9) (va_cwS 1 htl (gS W_247 W_248 W_5 W_249) rfl rfl rfl (by decide +kernel) ⟨Nat.le_of_ble_eq_true rfl, Nat.le_of_ble_eq_true rfl⟩) (xPS xP0 (xD0 A) hK hN) rfl rfl hl.1 rfl (lv_room (Nat.le_of_ble_eq_true rfl)) (dAt zX6_begin_0 5 rfl) ⟨Nat.zero_le _, Nat.zero_le _⟩) hS hA hP hD [] [0, 1, 2, 3, 4, 5, 6, 7, 8, 9, 10, 11, 12, 13, 14, 15, 16] [0, 1, 2, 3, 4, 5, 6, 7, 8, 9, 10, 11, 12, 13, 14, 15, 16] rfl rfl (by decide) (by decide) rfl (by decide) (fun H locs hz9 hP hD hS => ?_)
  refine lv_if_eq (tgt := 22) hx hb (dAt zX6_begin_0 6 rfl) (by decide) (fun c_12 => ?_) (fun c_12 => ?_)
  · have h := q_pos c_12 h
    refine lv_iconst (v := 0) hx hb (dAt zX6_begin_0 11 rfl) (by decide) ?_
    obtain ⟨hi_23, h⟩ := q_in h
    refine va_iast hx hb hK hP hD hS 8 0 rfl rfl hi_23 (dAt zX6_begin_0 12 rfl) (fun H locs hP hD hS => ?_)
    have hP : va_P D vwCl (w6x cI cJ cZ qS (zS 0 0) (zS 0 1) (zS 0 2) (zS 0 8) (zS 0 10) (zS 0 14) (zS 0 15) (zS 0 16) (zS 0 17) (zS 0 19) (zS 0 20) (zS 0 21) (zS 0 22) (zS 0 23) (zS 0 30) (zS 0 31) (zS 4) (zS 5) (zS 6) (zS 7) (zS 8) (zS 10) (zS 12) (upd (zS 13) (Int32.toNatClampNeg (zS 0 14)) 0) (zS 14) (zS 19) (zS 25) (zS 26) (zL 27) (zS 28) (zS 29) (zS 30)) H := hP
    have hD : va_D A (w6x cI cJ cZ qS (zS 0 0) (zS 0 1) (zS 0 2) (zS 0 8) (zS 0 10) (zS 0 14) (zS 0 15) (zS 0 16) (zS 0 17) (zS 0 19) (zS 0 20) (zS 0 21) (zS 0 22) (zS 0 23) (zS 0 30) (zS 0 31) (zS 4) (zS 5) (zS 6) (zS 7) (zS 8) (zS 10) (zS 12) (upd (zS 13) (Int32.toNatClampNeg (zS 0 14)) 0) (zS 14) (zS 19) (zS 25) (zS 26) (zL 27) (zS 28) (zS 29) (zS 30)) := hD
    refine lv_aload_n hx hb (dAt zX6_begin_0 13 rfl) rfl (lv_at hl 0 rfl) ?_
    refine va_get (D := D) (ci := 6) (v := .ref (qS 14)) (C := RX6) (T := TX6) (N := 32) hx hb htl inlX6 hown hK hP 0 rfl rfl 13 (by decide) (htl _ W_93) (fun _ h9 => h9) rfl (dAt zX6_begin_0 14 rfl) ?_
    refine lv_aload_n hx hb (dAt zX6_begin_0 15 rfl) rfl (lv_at hl 0 rfl) ?_
    refine va_get (D := D) (ci := 6) (v := .int (zS 0 14)) (C := RX6) (T := TX6) (N := 32) hx hb htl inlX6 hown hK hP 0 rfl rfl 14 (by decide) (htl _ W_238) (fun _ h9 => h9) rfl (dAt zX6_begin_0 16 rfl) ?_
    refine lv_iconst (v := 0) hx hb (dAt zX6_begin_0 17 rfl) (by decide) ?_
    obtain ⟨hi_33, h⟩ := q_in h
    refine va_iast hx hb hK hP hD hS 9 0 rfl rfl hi_33 (dAt zX6_begin_0 18 rfl) (fun H locs hP hD hS => ?_)
    have hP : va_P D vwCl (w6x cI cJ cZ qS (zS 0 0) (zS 0 1) (zS 0 2) (zS 0 8) (zS 0 10) (zS 0 14) (zS 0 15) (zS 0 16) (zS 0 17) (zS 0 19) (zS 0 20) (zS 0 21) (zS 0 22) (zS 0 23) (zS 0 30) (zS 0 31) (zS 4) (zS 5) (zS 6) (zS 7) (zS 8) (zS 10) (zS 12) (upd (zS 13) (Int32.toNatClampNeg (zS 0 14)) 0) (upd (zS 14) (Int32.toNatClampNeg (zS 0 14)) 0) (zS 19) (zS 25) (zS 26) (zL 27) (zS 28) (zS 29) (zS 30)) H := hP
    have hD : va_D A (w6x cI cJ cZ qS (zS 0 0) (zS 0 1) (zS 0 2) (zS 0 8) (zS 0 10) (zS 0 14) (zS 0 15) (zS 0 16) (zS 0 17) (zS 0 19) (zS 0 20) (zS 0 21) (zS 0 22) (zS 0 23) (zS 0 30) (zS 0 31) (zS 4) (zS 5) (zS 6) (zS 7) (zS 8) (zS 10) (zS 12) (upd (zS 13) (Int32.toNatClampNeg (zS 0 14)) 0) (upd (zS 14) (Int32.toNatClampNeg (zS 0 14)) 0) (zS 19) (zS 25) (zS 26) (zL 27) (zS 28) (zS 29) (zS 30)) := hD
    refine lv_iload_n hx hb (dAt zX6_begin_0 19 rfl) rfl (lv_at hl 1 rfl) ?_
    have hP : va_P D vwCl (w6 cI cJ cZ qS (upA (upA zS 13 (upd (zS 13) (Int32.toNatClampNeg (zS 0 14)) 0)) 14 (upd (zS 14) (Int32.toNatClampNeg (zS 0 14)) 0)) zL) H := hP
    have hD : va_D A (w6 cI cJ cZ qS (upA (upA zS 13 (upd (zS 13) (Int32.toNatClampNeg (zS 0 14)) 0)) 14 (upd (zS 14) (Int32.toNatClampNeg (zS 0 14)) 0)) zL) := hD
    obtain ⟨u35, hu35, h⟩ := q_bind h
    refine xFz (wc := ([] : va_W)) (w1 := ([] : va_W)) (wr := (w6 cI cJ cZ qS (upA (upA zS 13 (upd (zS 13) (Int32.toNatClampNeg (zS 0 14)) 0)) 14 (upd (zS 14) (Int32.toNatClampNeg (zS 0 14)) 0)) zL)) (ws2 := (w6 cI cJ cZ qS (upA (upA zS 13 (upd (zS 13) (Int32.toNatClampNeg (zS 0 14)) 0)) 14 (upd (zS 14) (Int32.toNatClampNeg (zS 0 14)) 0)) zL)) (va_runS (As := [.int a1]) (rest := []) ⟨hx, hb, hml, hown, htl⟩ (c_X6_isLetter l D cI cJ cZ n  H.size  a1 u35 hu35) (va_cwS 1 htl (gS W_247 W_248 W_5 W_249) rfl rfl rfl (by decide +kernel) ⟨Nat.le_of_ble_eq_true rfl, Nat.le_of_ble_eq_true rfl⟩) (xPS xP0 (xD0 A) hK hN) rfl rfl hl.1 rfl (lv_room (Nat.le_of_ble_eq_true rfl)) (dAt zX6_begin_0 20 rfl) ⟨Nat.zero_le _, Nat.zero_le _⟩) hS hA hP hD [] [0, 1, 2, 3, 4, 5, 6, 7, 8, 9, 10, 11, 12, 13, 14, 15, 16] [0, 1, 2, 3, 4, 5, 6, 7, 8, 9, 10, 11, 12, 13, 14, 15, 16] rfl rfl (by decide) (by decide) rfl (by decide) (fun H locs hz35 hP hD hS => ?_)
    refine lv_if_eq (tgt := 45) hx hb (dAt zX6_begin_0 21 rfl) (by decide) (fun c_38 => ?_) (fun c_38 => ?_)
    · have h := q_pos c_38 h
      refine lv_iload_n hx hb (dAt zX6_begin_0 24 rfl) rfl (lv_at hl 1 rfl) ?_
      refine lv_bipush (v := 46) hx hb (dAt zX6_begin_0 25 rfl) (by decide) ?_
      refine lv_icmp_ne (tgt := 59) hx hb (dAt zX6_begin_0 26 rfl) (by decide) (fun c_48 => ?_) (fun c_48 => ?_)
      · have h := q_neg c_48 h
        refine lv_iload_n hx hb (dAt zX6_begin_0 31 rfl) rfl (lv_at hl 1 rfl) ?_
        refine lv_bipush (v := 126) hx hb (dAt zX6_begin_0 32 rfl) (by decide) ?_
        refine lv_icmp_ne (tgt := 74) hx hb (dAt zX6_begin_0 33 rfl) (by decide) (fun c_62 => ?_) (fun c_62 => ?_)
        · have h := q_neg c_62 h
          refine lv_bipush (v := (-6)) hx hb (dAt zX6_begin_0 38 rfl) (by decide) ?_
          have hP : va_P D vwCl (w6 cI cJ cZ qS (upA (upA zS 13 (upd (zS 13) (Int32.toNatClampNeg (zS 0 14)) 0)) 14 (upd (zS 14) (Int32.toNatClampNeg (zS 0 14)) 0)) zL) H := hP
          have hD : va_D A (w6 cI cJ cZ qS (upA (upA zS 13 (upd (zS 13) (Int32.toNatClampNeg (zS 0 14)) 0)) 14 (upd (zS 14) (Int32.toNatClampNeg (zS 0 14)) 0)) zL) := hD
          obtain rfl := q_some h
          exact xRi hx hb hr hlocks hQ hAe hP hD hK hS rfl (dAt zX6_begin_0 39 rfl)
        · have h := q_pos c_62 h
          refine lv_aload_n hx hb (dAt zX6_begin_0 34 rfl) rfl (lv_at hl 0 rfl) ?_
          refine lv_bipush (v := 6) hx hb (dAt zX6_begin_0 35 rfl) (by decide) ?_
          have hP : va_P D vwCl (w6 cI cJ cZ qS (upA (upA zS 13 (upd (zS 13) (Int32.toNatClampNeg (zS 0 14)) 0)) 14 (upd (zS 14) (Int32.toNatClampNeg (zS 0 14)) 0)) zL) H := hP
          have hD : va_D A (w6 cI cJ cZ qS (upA (upA zS 13 (upd (zS 13) (Int32.toNatClampNeg (zS 0 14)) 0)) 14 (upd (zS 14) (Int32.toNatClampNeg (zS 0 14)) 0)) zL) := hD
          obtain ⟨u68, hu68, h⟩ := q_bind h
          refine xFi (wc := (w6 cI cJ cZ qS (upA (upA zS 13 (upd (zS 13) (Int32.toNatClampNeg (zS 0 14)) 0)) 14 (upd (zS 14) (Int32.toNatClampNeg (zS 0 14)) 0)) zL)) (w1 := (w6 cI cJ cZ qS u68.2 zL)) (wr := ([] : va_W)) (ws2 := (w6 cI cJ cZ qS u68.2 zL)) (va_runV (As := [.int 6]) (rest := []) ⟨hx, hb, hml, hown, htl⟩ (c_X6_close l D cI cJ cZ n qS H.size (upA (upA zS 13 (upd (zS 13) (Int32.toNatClampNeg (zS 0 14)) 0)) 14 (upd (zS 14) (Int32.toNatClampNeg (zS 0 14)) 0)) zL 6 u68 hu68) (cwV 1 htl (gV W_252 W_253 W_254 W_5 W_255) rfl rfl rfl (by decide +kernel) ⟨Nat.le_of_ble_eq_true rfl, Nat.le_of_ble_eq_true rfl⟩) (xPV hP hD hK hN 0 rfl rfl) rfl rfl hl.1 rfl (lv_room (Nat.le_of_ble_eq_true rfl)) (dAt zX6_begin_0 36 rfl) ⟨Nat.zero_le _, Nat.zero_le _⟩) hS hA hP hD [0, 1, 2, 3, 4, 5, 6, 7, 8, 9, 10, 11, 12, 13, 14, 15, 16] [] [0, 1, 2, 3, 4, 5, 6, 7, 8, 9, 10, 11, 12, 13, 14, 15, 16] rfl rfl (by decide) (by decide) rfl (by decide) (fun H locs hP hD hS => ?_)
          refine lv_goto (tgt := 76) hx hb (dAt zX6_begin_0 37 rfl) (by decide) ?_
          obtain rfl := q_some h
          exact xRi hx hb hr hlocks hQ hAe hP hD hK hS rfl (dAt zX6_begin_0 39 rfl)
      · have h := q_pos c_48 h
        refine lv_aload_n hx hb (dAt zX6_begin_0 27 rfl) rfl (lv_at hl 0 rfl) ?_
        refine lv_iconst (v := 5) hx hb (dAt zX6_begin_0 28 rfl) (by decide) ?_
        have hP : va_P D vwCl (w6 cI cJ cZ qS (upA (upA zS 13 (upd (zS 13) (Int32.toNatClampNeg (zS 0 14)) 0)) 14 (upd (zS 14) (Int32.toNatClampNeg (zS 0 14)) 0)) zL) H := hP
        have hD : va_D A (w6 cI cJ cZ qS (upA (upA zS 13 (upd (zS 13) (Int32.toNatClampNeg (zS 0 14)) 0)) 14 (upd (zS 14) (Int32.toNatClampNeg (zS 0 14)) 0)) zL) := hD
        obtain ⟨u53, hu53, h⟩ := q_bind h
        refine xFi (wc := (w6 cI cJ cZ qS (upA (upA zS 13 (upd (zS 13) (Int32.toNatClampNeg (zS 0 14)) 0)) 14 (upd (zS 14) (Int32.toNatClampNeg (zS 0 14)) 0)) zL)) (w1 := (w6 cI cJ cZ qS u53.2 zL)) (wr := ([] : va_W)) (ws2 := (w6 cI cJ cZ qS u53.2 zL)) (va_runV (As := [.int 5]) (rest := []) ⟨hx, hb, hml, hown, htl⟩ (c_X6_close l D cI cJ cZ n qS H.size (upA (upA zS 13 (upd (zS 13) (Int32.toNatClampNeg (zS 0 14)) 0)) 14 (upd (zS 14) (Int32.toNatClampNeg (zS 0 14)) 0)) zL 5 u53 hu53) (cwV 1 htl (gV W_252 W_253 W_254 W_5 W_255) rfl rfl rfl (by decide +kernel) ⟨Nat.le_of_ble_eq_true rfl, Nat.le_of_ble_eq_true rfl⟩) (xPV hP hD hK hN 0 rfl rfl) rfl rfl hl.1 rfl (lv_room (Nat.le_of_ble_eq_true rfl)) (dAt zX6_begin_0 29 rfl) ⟨Nat.zero_le _, Nat.zero_le _⟩) hS hA hP hD [0, 1, 2, 3, 4, 5, 6, 7, 8, 9, 10, 11, 12, 13, 14, 15, 16] [] [0, 1, 2, 3, 4, 5, 6, 7, 8, 9, 10, 11, 12, 13, 14, 15, 16] rfl rfl (by decide) (by decide) rfl (by decide) (fun H locs hP hD hS => ?_)
        refine lv_goto (tgt := 76) hx hb (dAt zX6_begin_0 30 rfl) (by decide) ?_
        obtain rfl := q_some h
        exact xRi hx hb hr hlocks hQ hAe hP hD hK hS rfl (dAt zX6_begin_0 39 rfl)
    · have h := q_neg c_38 h
      refine lv_iconst (v := 1) hx hb (dAt zX6_begin_0 22 rfl) (by decide) ?_
      refine lv_goto (tgt := 76) hx hb (dAt zX6_begin_0 23 rfl) (by decide) ?_
      have hP : va_P D vwCl (w6 cI cJ cZ qS (upA (upA zS 13 (upd (zS 13) (Int32.toNatClampNeg (zS 0 14)) 0)) 14 (upd (zS 14) (Int32.toNatClampNeg (zS 0 14)) 0)) zL) H := hP
      have hD : va_D A (w6 cI cJ cZ qS (upA (upA zS 13 (upd (zS 13) (Int32.toNatClampNeg (zS 0 14)) 0)) 14 (upd (zS 14) (Int32.toNatClampNeg (zS 0 14)) 0)) zL) := hD
      obtain rfl := q_some h
      exact xRi hx hb hr hlocks hQ hAe hP hD hK hS rfl (dAt zX6_begin_0 39 rfl)
  · have h := q_neg c_12 h
    refine lv_iload_n hx hb (dAt zX6_begin_0 7 rfl) rfl (lv_at hl 1 rfl) ?_
    refine lv_bipush (v := 65) hx hb (dAt zX6_begin_0 8 rfl) (by decide) ?_
    refine lv_isub hx hb (dAt zX6_begin_0 9 rfl) ?_
    refine lv_goto (tgt := 23) hx hb (dAt zX6_begin_0 10 rfl) (by decide) ?_
    obtain ⟨hi_23, h⟩ := q_in h
    refine va_iast hx hb hK hP hD hS 8 0 rfl rfl hi_23 (dAt zX6_begin_0 12 rfl) (fun H locs hP hD hS => ?_)
    have hP : va_P D vwCl (w6x cI cJ cZ qS (zS 0 0) (zS 0 1) (zS 0 2) (zS 0 8) (zS 0 10) (zS 0 14) (zS 0 15) (zS 0 16) (zS 0 17) (zS 0 19) (zS 0 20) (zS 0 21) (zS 0 22) (zS 0 23) (zS 0 30) (zS 0 31) (zS 4) (zS 5) (zS 6) (zS 7) (zS 8) (zS 10) (zS 12) (upd (zS 13) (Int32.toNatClampNeg (zS 0 14)) (a1 - (65 : Int32))) (zS 14) (zS 19) (zS 25) (zS 26) (zL 27) (zS 28) (zS 29) (zS 30)) H := hP
    have hD : va_D A (w6x cI cJ cZ qS (zS 0 0) (zS 0 1) (zS 0 2) (zS 0 8) (zS 0 10) (zS 0 14) (zS 0 15) (zS 0 16) (zS 0 17) (zS 0 19) (zS 0 20) (zS 0 21) (zS 0 22) (zS 0 23) (zS 0 30) (zS 0 31) (zS 4) (zS 5) (zS 6) (zS 7) (zS 8) (zS 10) (zS 12) (upd (zS 13) (Int32.toNatClampNeg (zS 0 14)) (a1 - (65 : Int32))) (zS 14) (zS 19) (zS 25) (zS 26) (zL 27) (zS 28) (zS 29) (zS 30)) := hD
    refine lv_aload_n hx hb (dAt zX6_begin_0 13 rfl) rfl (lv_at hl 0 rfl) ?_
    refine va_get (D := D) (ci := 6) (v := .ref (qS 14)) (C := RX6) (T := TX6) (N := 32) hx hb htl inlX6 hown hK hP 0 rfl rfl 13 (by decide) (htl _ W_93) (fun _ h9 => h9) rfl (dAt zX6_begin_0 14 rfl) ?_
    refine lv_aload_n hx hb (dAt zX6_begin_0 15 rfl) rfl (lv_at hl 0 rfl) ?_
    refine va_get (D := D) (ci := 6) (v := .int (zS 0 14)) (C := RX6) (T := TX6) (N := 32) hx hb htl inlX6 hown hK hP 0 rfl rfl 14 (by decide) (htl _ W_238) (fun _ h9 => h9) rfl (dAt zX6_begin_0 16 rfl) ?_
    refine lv_iconst (v := 0) hx hb (dAt zX6_begin_0 17 rfl) (by decide) ?_
    obtain ⟨hi_33, h⟩ := q_in h
    refine va_iast hx hb hK hP hD hS 9 0 rfl rfl hi_33 (dAt zX6_begin_0 18 rfl) (fun H locs hP hD hS => ?_)
    have hP : va_P D vwCl (w6x cI cJ cZ qS (zS 0 0) (zS 0 1) (zS 0 2) (zS 0 8) (zS 0 10) (zS 0 14) (zS 0 15) (zS 0 16) (zS 0 17) (zS 0 19) (zS 0 20) (zS 0 21) (zS 0 22) (zS 0 23) (zS 0 30) (zS 0 31) (zS 4) (zS 5) (zS 6) (zS 7) (zS 8) (zS 10) (zS 12) (upd (zS 13) (Int32.toNatClampNeg (zS 0 14)) (a1 - (65 : Int32))) (upd (zS 14) (Int32.toNatClampNeg (zS 0 14)) 0) (zS 19) (zS 25) (zS 26) (zL 27) (zS 28) (zS 29) (zS 30)) H := hP
    have hD : va_D A (w6x cI cJ cZ qS (zS 0 0) (zS 0 1) (zS 0 2) (zS 0 8) (zS 0 10) (zS 0 14) (zS 0 15) (zS 0 16) (zS 0 17) (zS 0 19) (zS 0 20) (zS 0 21) (zS 0 22) (zS 0 23) (zS 0 30) (zS 0 31) (zS 4) (zS 5) (zS 6) (zS 7) (zS 8) (zS 10) (zS 12) (upd (zS 13) (Int32.toNatClampNeg (zS 0 14)) (a1 - (65 : Int32))) (upd (zS 14) (Int32.toNatClampNeg (zS 0 14)) 0) (zS 19) (zS 25) (zS 26) (zL 27) (zS 28) (zS 29) (zS 30)) := hD
    refine lv_iload_n hx hb (dAt zX6_begin_0 19 rfl) rfl (lv_at hl 1 rfl) ?_
    have hP : va_P D vwCl (w6 cI cJ cZ qS (upA (upA zS 13 (upd (zS 13) (Int32.toNatClampNeg (zS 0 14)) (a1 - (65 : Int32)))) 14 (upd (zS 14) (Int32.toNatClampNeg (zS 0 14)) 0)) zL) H := hP
    have hD : va_D A (w6 cI cJ cZ qS (upA (upA zS 13 (upd (zS 13) (Int32.toNatClampNeg (zS 0 14)) (a1 - (65 : Int32)))) 14 (upd (zS 14) (Int32.toNatClampNeg (zS 0 14)) 0)) zL) := hD
    obtain ⟨u35, hu35, h⟩ := q_bind h
    refine xFz (wc := ([] : va_W)) (w1 := ([] : va_W)) (wr := (w6 cI cJ cZ qS (upA (upA zS 13 (upd (zS 13) (Int32.toNatClampNeg (zS 0 14)) (a1 - (65 : Int32)))) 14 (upd (zS 14) (Int32.toNatClampNeg (zS 0 14)) 0)) zL)) (ws2 := (w6 cI cJ cZ qS (upA (upA zS 13 (upd (zS 13) (Int32.toNatClampNeg (zS 0 14)) (a1 - (65 : Int32)))) 14 (upd (zS 14) (Int32.toNatClampNeg (zS 0 14)) 0)) zL)) (va_runS (As := [.int a1]) (rest := []) ⟨hx, hb, hml, hown, htl⟩ (c_X6_isLetter l D cI cJ cZ n  H.size  a1 u35 hu35) (va_cwS 1 htl (gS W_247 W_248 W_5 W_249) rfl rfl rfl (by decide +kernel) ⟨Nat.le_of_ble_eq_true rfl, Nat.le_of_ble_eq_true rfl⟩) (xPS xP0 (xD0 A) hK hN) rfl rfl hl.1 rfl (lv_room (Nat.le_of_ble_eq_true rfl)) (dAt zX6_begin_0 20 rfl) ⟨Nat.zero_le _, Nat.zero_le _⟩) hS hA hP hD [] [0, 1, 2, 3, 4, 5, 6, 7, 8, 9, 10, 11, 12, 13, 14, 15, 16] [0, 1, 2, 3, 4, 5, 6, 7, 8, 9, 10, 11, 12, 13, 14, 15, 16] rfl rfl (by decide) (by decide) rfl (by decide) (fun H locs hz35 hP hD hS => ?_)
    refine lv_if_eq (tgt := 45) hx hb (dAt zX6_begin_0 21 rfl) (by decide) (fun c_38 => ?_) (fun c_38 => ?_)
    · have h := q_pos c_38 h
      refine lv_iload_n hx hb (dAt zX6_begin_0 24 rfl) rfl (lv_at hl 1 rfl) ?_
      refine lv_bipush (v := 46) hx hb (dAt zX6_begin_0 25 rfl) (by decide) ?_
      refine lv_icmp_ne (tgt := 59) hx hb (dAt zX6_begin_0 26 rfl) (by decide) (fun c_48 => ?_) (fun c_48 => ?_)
      · have h := q_neg c_48 h
        refine lv_iload_n hx hb (dAt zX6_begin_0 31 rfl) rfl (lv_at hl 1 rfl) ?_
        refine lv_bipush (v := 126) hx hb (dAt zX6_begin_0 32 rfl) (by decide) ?_
        refine lv_icmp_ne (tgt := 74) hx hb (dAt zX6_begin_0 33 rfl) (by decide) (fun c_62 => ?_) (fun c_62 => ?_)
        · have h := q_neg c_62 h
          refine lv_bipush (v := (-6)) hx hb (dAt zX6_begin_0 38 rfl) (by decide) ?_
          have hP : va_P D vwCl (w6 cI cJ cZ qS (upA (upA zS 13 (upd (zS 13) (Int32.toNatClampNeg (zS 0 14)) (a1 - (65 : Int32)))) 14 (upd (zS 14) (Int32.toNatClampNeg (zS 0 14)) 0)) zL) H := hP
          have hD : va_D A (w6 cI cJ cZ qS (upA (upA zS 13 (upd (zS 13) (Int32.toNatClampNeg (zS 0 14)) (a1 - (65 : Int32)))) 14 (upd (zS 14) (Int32.toNatClampNeg (zS 0 14)) 0)) zL) := hD
          obtain rfl := q_some h
          exact xRi hx hb hr hlocks hQ hAe hP hD hK hS rfl (dAt zX6_begin_0 39 rfl)
        · have h := q_pos c_62 h
          refine lv_aload_n hx hb (dAt zX6_begin_0 34 rfl) rfl (lv_at hl 0 rfl) ?_
          refine lv_bipush (v := 6) hx hb (dAt zX6_begin_0 35 rfl) (by decide) ?_
          have hP : va_P D vwCl (w6 cI cJ cZ qS (upA (upA zS 13 (upd (zS 13) (Int32.toNatClampNeg (zS 0 14)) (a1 - (65 : Int32)))) 14 (upd (zS 14) (Int32.toNatClampNeg (zS 0 14)) 0)) zL) H := hP
          have hD : va_D A (w6 cI cJ cZ qS (upA (upA zS 13 (upd (zS 13) (Int32.toNatClampNeg (zS 0 14)) (a1 - (65 : Int32)))) 14 (upd (zS 14) (Int32.toNatClampNeg (zS 0 14)) 0)) zL) := hD
          obtain ⟨u68, hu68, h⟩ := q_bind h
          refine xFi (wc := (w6 cI cJ cZ qS (upA (upA zS 13 (upd (zS 13) (Int32.toNatClampNeg (zS 0 14)) (a1 - (65 : Int32)))) 14 (upd (zS 14) (Int32.toNatClampNeg (zS 0 14)) 0)) zL)) (w1 := (w6 cI cJ cZ qS u68.2 zL)) (wr := ([] : va_W)) (ws2 := (w6 cI cJ cZ qS u68.2 zL)) (va_runV (As := [.int 6]) (rest := []) ⟨hx, hb, hml, hown, htl⟩ (c_X6_close l D cI cJ cZ n qS H.size (upA (upA zS 13 (upd (zS 13) (Int32.toNatClampNeg (zS 0 14)) (a1 - (65 : Int32)))) 14 (upd (zS 14) (Int32.toNatClampNeg (zS 0 14)) 0)) zL 6 u68 hu68) (cwV 1 htl (gV W_252 W_253 W_254 W_5 W_255) rfl rfl rfl (by decide +kernel) ⟨Nat.le_of_ble_eq_true rfl, Nat.le_of_ble_eq_true rfl⟩) (xPV hP hD hK hN 0 rfl rfl) rfl rfl hl.1 rfl (lv_room (Nat.le_of_ble_eq_true rfl)) (dAt zX6_begin_0 36 rfl) ⟨Nat.zero_le _, Nat.zero_le _⟩) hS hA hP hD [0, 1, 2, 3, 4, 5, 6, 7, 8, 9, 10, 11, 12, 13, 14, 15, 16] [] [0, 1, 2, 3, 4, 5, 6, 7, 8, 9, 10, 11, 12, 13, 14, 15, 16] rfl rfl (by decide) (by decide) rfl (by decide) (fun H locs hP hD hS => ?_)
          refine lv_goto (tgt := 76) hx hb (dAt zX6_begin_0 37 rfl) (by decide) ?_
          obtain rfl := q_some h
          exact xRi hx hb hr hlocks hQ hAe hP hD hK hS rfl (dAt zX6_begin_0 39 rfl)
      · have h := q_pos c_48 h
        refine lv_aload_n hx hb (dAt zX6_begin_0 27 rfl) rfl (lv_at hl 0 rfl) ?_
        refine lv_iconst (v := 5) hx hb (dAt zX6_begin_0 28 rfl) (by decide) ?_
        have hP : va_P D vwCl (w6 cI cJ cZ qS (upA (upA zS 13 (upd (zS 13) (Int32.toNatClampNeg (zS 0 14)) (a1 - (65 : Int32)))) 14 (upd (zS 14) (Int32.toNatClampNeg (zS 0 14)) 0)) zL) H := hP
        have hD : va_D A (w6 cI cJ cZ qS (upA (upA zS 13 (upd (zS 13) (Int32.toNatClampNeg (zS 0 14)) (a1 - (65 : Int32)))) 14 (upd (zS 14) (Int32.toNatClampNeg (zS 0 14)) 0)) zL) := hD
        obtain ⟨u53, hu53, h⟩ := q_bind h
        refine xFi (wc := (w6 cI cJ cZ qS (upA (upA zS 13 (upd (zS 13) (Int32.toNatClampNeg (zS 0 14)) (a1 - (65 : Int32)))) 14 (upd (zS 14) (Int32.toNatClampNeg (zS 0 14)) 0)) zL)) (w1 := (w6 cI cJ cZ qS u53.2 zL)) (wr := ([] : va_W)) (ws2 := (w6 cI cJ cZ qS u53.2 zL)) (va_runV (As := [.int 5]) (rest := []) ⟨hx, hb, hml, hown, htl⟩ (c_X6_close l D cI cJ cZ n qS H.size (upA (upA zS 13 (upd (zS 13) (Int32.toNatClampNeg (zS 0 14)) (a1 - (65 : Int32)))) 14 (upd (zS 14) (Int32.toNatClampNeg (zS 0 14)) 0)) zL 5 u53 hu53) (cwV 1 htl (gV W_252 W_253 W_254 W_5 W_255) rfl rfl rfl (by decide +kernel) ⟨Nat.le_of_ble_eq_true rfl, Nat.le_of_ble_eq_true rfl⟩) (xPV hP hD hK hN 0 rfl rfl) rfl rfl hl.1 rfl (lv_room (Nat.le_of_ble_eq_true rfl)) (dAt zX6_begin_0 29 rfl) ⟨Nat.zero_le _, Nat.zero_le _⟩) hS hA hP hD [0, 1, 2, 3, 4, 5, 6, 7, 8, 9, 10, 11, 12, 13, 14, 15, 16] [] [0, 1, 2, 3, 4, 5, 6, 7, 8, 9, 10, 11, 12, 13, 14, 15, 16] rfl rfl (by decide) (by decide) rfl (by decide) (fun H locs hP hD hS => ?_)
        refine lv_goto (tgt := 76) hx hb (dAt zX6_begin_0 30 rfl) (by decide) ?_
        obtain rfl := q_some h
        exact xRi hx hb hr hlocks hQ hAe hP hD hK hS rfl (dAt zX6_begin_0 39 rfl)
    · have h := q_neg c_38 h
      refine lv_iconst (v := 1) hx hb (dAt zX6_begin_0 22 rfl) (by decide) ?_
      refine lv_goto (tgt := 76) hx hb (dAt zX6_begin_0 23 rfl) (by decide) ?_
      have hP : va_P D vwCl (w6 cI cJ cZ qS (upA (upA zS 13 (upd (zS 13) (Int32.toNatClampNeg (zS 0 14)) (a1 - (65 : Int32)))) 14 (upd (zS 14) (Int32.toNatClampNeg (zS 0 14)) 0)) zL) H := hP
      have hD : va_D A (w6 cI cJ cZ qS (upA (upA zS 13 (upd (zS 13) (Int32.toNatClampNeg (zS 0 14)) (a1 - (65 : Int32)))) 14 (upd (zS 14) (Int32.toNatClampNeg (zS 0 14)) 0)) zL) := hD
      obtain rfl := q_some h
      exact xRi hx hb hr hlocks hQ hAe hP hD hK hS rfl (dAt zX6_begin_0 39 rfl)
def m_X6_deed (n : Nat) (zS : TI) (zL : TL) (a1 : Int32) : Option (Int32 × TI) := (if a1 = 36 then some (4, zS) else (if a1 = 43 then some (2, zS) else (if a1 = 45 then some (3, zS) else (if a1 = 62 then ((m_X6_close n zS zL 4).bind fun u66 => some (u66.1, u66.2)) else (if a1 = 100 then ((m_X6_close n zS zL 3).bind fun u60 => some (u60.1, u60.2)) else some ((-6), zS))))))
set_option maxHeartbeats 4000000 in
set_option maxRecDepth 100000 in
theorem c_X6_deed (l : Launch) (D : va_G) (cI cJ cZ : ClassId) (n : Nat) (qS : Nat → Nat) (sz : Nat) (zS : TI) (zL : TL) (a1 : Int32) (out : Int32 × TI) (hm : m_X6_deed n zS zL a1 = some out) : Met l yX6_deed (wsM yX6_deed cX6_deed 2 (some .int)) { frames := 1, cells := 0, slots := 0, locals := 21 } (xPre D (kT cI cJ cZ) (w6 cI cJ cZ qS zS zL) sz [.ref (qS 0), .int a1]) (xQi D (kT cI cJ cZ) (w6 cI cJ cZ qS zS zL) (w6 cI cJ cZ qS out.2 zL) sz out.1) 0 0 (va_A (w6 cI cJ cZ qS zS zL) sz) := by
  refine Met.ofW (cc := cX6_deed) (maxL := 2) (ret := (some .int)) (by decide) rfl ?_
  intro p e s m args below meth c s₁ B hml hv
  obtain ⟨hv, hsz, hP, hK, hD0, hN⟩ := hv
  have hx := B.exec; have hb := B.bytes; have hr := B.returns
  have hts := atoms_spec (ws := (wsM yX6_deed cX6_deed 2 (some .int))) B.pre
  have hown : s.vm.findClass RX6 = some m.cls := findClass_of_methodNamed B.named
  have hlocks := B.notSynchronized
  subst hsz
  have hD := hD0.self (sz := s.heap.size)
  obtain ⟨A, hAe⟩ : ∃ A, A = va_A (w6 cI cJ cZ qS zS zL) s.heap.size := ⟨_, rfl⟩
  rw [← hAe] at hD
  have hA : ∀ q : Nat, s.heap.size ≤ q → A q := fun q h => by rw [hAe]; exact Or.inr h
  have htl : ∀ w ∈ wsL_law, w.before args s = true := fun w h => hts w (List.mem_cons_of_mem _ h)
  refine xHead (R' := { frames := 1, cells := 0, slots := 0, locals := 21 }) rfl (fun Q H hQ hH => ?_)
  have hP : va_P D vwCl (w6 cI cJ cZ qS zS zL) H := by rw [hH]; exact hP
  have hS : va_S A s.heap H [] := by rw [hH]; exact va_S.rf
  refine xStart hv (Nat.le_of_ble_eq_true rfl) (lv := [(0, .ref (qS 0)), (1, .int a1)]) rfl (fun ls hl => ?_)
  have h := hm
  unfold m_X6_deed at h
  refine lv_iload_n hx hb (dAt zX6_deed_0 0 rfl) rfl (lv_at hl 1 rfl) ?_
  by_cases c_1_36 : a1 = 36
  · have h := q_pos c_1_36 h
    refine lv_lookup (off := 55) (tgt := 56) hx hb (dAt zX6_deed_0 1 rfl) (by decide) (by rw [c_1_36]; decide) (by decide) ?_
    refine lv_iconst (v := 4) hx hb (dAt zX6_deed_0 6 rfl) (by decide) ?_
    obtain rfl := q_some h
    exact xRi hx hb hr hlocks hQ hAe hP hD hK hS rfl (dAt zX6_deed_0 7 rfl)
  · have h := q_neg c_1_36 h
    by_cases c_1_43 : a1 = 43
    · have h := q_pos c_1_43 h
      refine lv_lookup (off := 51) (tgt := 52) hx hb (dAt zX6_deed_0 1 rfl) (by decide) (by rw [c_1_43]; decide) (by decide) ?_
      refine lv_iconst (v := 2) hx hb (dAt zX6_deed_0 2 rfl) (by decide) ?_
      obtain rfl := q_some h
      exact xRi hx hb hr hlocks hQ hAe hP hD hK hS rfl (dAt zX6_deed_0 3 rfl)
    · have h := q_neg c_1_43 h
      by_cases c_1_45 : a1 = 45
      · have h := q_pos c_1_45 h
        refine lv_lookup (off := 53) (tgt := 54) hx hb (dAt zX6_deed_0 1 rfl) (by decide) (by rw [c_1_45]; decide) (by decide) ?_
        refine lv_iconst (v := 3) hx hb (dAt zX6_deed_0 4 rfl) (by decide) ?_
        obtain rfl := q_some h
        exact xRi hx hb hr hlocks hQ hAe hP hD hK hS rfl (dAt zX6_deed_0 5 rfl)
      · have h := q_neg c_1_45 h
        by_cases c_1_62 : a1 = 62
        · have h := q_pos c_1_62 h
          refine lv_lookup (off := 63) (tgt := 64) hx hb (dAt zX6_deed_0 1 rfl) (by decide) (by rw [c_1_62]; decide) (by decide) ?_
          refine lv_aload_n hx hb (dAt zX6_deed_0 12 rfl) rfl (lv_at hl 0 rfl) ?_
          refine lv_iconst (v := 4) hx hb (dAt zX6_deed_0 13 rfl) (by decide) ?_
          obtain ⟨u66, hu66, h⟩ := q_bind h
          refine xFi (wc := (w6 cI cJ cZ qS zS zL)) (w1 := (w6 cI cJ cZ qS u66.2 zL)) (wr := ([] : va_W)) (ws2 := (w6 cI cJ cZ qS u66.2 zL)) (va_runV (As := [.int 4]) (rest := []) ⟨hx, hb, hml, hown, htl⟩ (c_X6_close l D cI cJ cZ n qS H.size zS zL 4 u66 hu66) (cwV 1 htl (gV W_252 W_253 W_254 W_5 W_255) rfl rfl rfl (by decide +kernel) ⟨Nat.le_of_ble_eq_true rfl, Nat.le_of_ble_eq_true rfl⟩) (xPV hP hD hK hN 0 rfl rfl) rfl rfl hl.1 rfl (lv_room (Nat.le_of_ble_eq_true rfl)) (dAt zX6_deed_0 14 rfl) ⟨Nat.zero_le _, Nat.zero_le _⟩) hS hA hP hD [0, 1, 2, 3, 4, 5, 6, 7, 8, 9, 10, 11, 12, 13, 14, 15, 16] [] [0, 1, 2, 3, 4, 5, 6, 7, 8, 9, 10, 11, 12, 13, 14, 15, 16] rfl rfl (by decide) (by decide) rfl (by decide) (fun H locs hP hD hS => ?_)
          obtain rfl := q_some h
          exact xRi hx hb hr hlocks hQ hAe hP hD hK hS rfl (dAt zX6_deed_0 15 rfl)
        · have h := q_neg c_1_62 h
          by_cases c_1_100 : a1 = 100
          · have h := q_pos c_1_100 h
            refine lv_lookup (off := 57) (tgt := 58) hx hb (dAt zX6_deed_0 1 rfl) (by decide) (by rw [c_1_100]; decide) (by decide) ?_
            refine lv_aload_n hx hb (dAt zX6_deed_0 8 rfl) rfl (lv_at hl 0 rfl) ?_
            refine lv_iconst (v := 3) hx hb (dAt zX6_deed_0 9 rfl) (by decide) ?_
            obtain ⟨u60, hu60, h⟩ := q_bind h
            refine xFi (wc := (w6 cI cJ cZ qS zS zL)) (w1 := (w6 cI cJ cZ qS u60.2 zL)) (wr := ([] : va_W)) (ws2 := (w6 cI cJ cZ qS u60.2 zL)) (va_runV (As := [.int 3]) (rest := []) ⟨hx, hb, hml, hown, htl⟩ (c_X6_close l D cI cJ cZ n qS H.size zS zL 3 u60 hu60) (cwV 1 htl (gV W_252 W_253 W_254 W_5 W_255) rfl rfl rfl (by decide +kernel) ⟨Nat.le_of_ble_eq_true rfl, Nat.le_of_ble_eq_true rfl⟩) (xPV hP hD hK hN 0 rfl rfl) rfl rfl hl.1 rfl (lv_room (Nat.le_of_ble_eq_true rfl)) (dAt zX6_deed_0 10 rfl) ⟨Nat.zero_le _, Nat.zero_le _⟩) hS hA hP hD [0, 1, 2, 3, 4, 5, 6, 7, 8, 9, 10, 11, 12, 13, 14, 15, 16] [] [0, 1, 2, 3, 4, 5, 6, 7, 8, 9, 10, 11, 12, 13, 14, 15, 16] rfl rfl (by decide) (by decide) rfl (by decide) (fun H locs hP hD hS => ?_)
            obtain rfl := q_some h
            exact xRi hx hb hr hlocks hQ hAe hP hD hK hS rfl (dAt zX6_deed_0 11 rfl)
          · have h := q_neg c_1_100 h
            refine lv_lookup (off := 69) (tgt := 70) hx hb (dAt zX6_deed_0 1 rfl) (by decide) (by rw [lv_osw c_1_36 (by decide)]; rw [lv_osw c_1_43 (by decide)]; rw [lv_osw c_1_45 (by decide)]; rw [lv_osw c_1_62 (by decide)]; rw [lv_osw c_1_100 (by decide)]; rfl) (by decide) ?_
            refine lv_bipush (v := (-6)) hx hb (dAt zX6_deed_0 16 rfl) (by decide) ?_
            obtain rfl := q_some h
            exact xRi hx hb hr hlocks hQ hAe hP hD hK hS rfl (dAt zX6_deed_0 17 rfl)
def m_X6_readOn (n : Nat) (zS : TI) (zL : TL) (a1 : Int32) (a2 : Int32) : Option (Int32 × TI) := (if a1 = 0 then ((m_X6_begin n zS zL a2).bind fun u6 => some (u6.1, u6.2)) else (if a1 = 1 then ((m_X6_deed n zS zL a2).bind fun u17 => some (u17.1, u17.2)) else (gd (inB (zS 0 14) 60) (((m_X6_isLetter n  a2).bind fun u35 => (if u35 = 0 then some ((-6), (upA zS 14 (upd (zS 14) (Int32.toNatClampNeg (zS 0 14)) (a2 - (65 : Int32))))) else (if a1 = 2 then ((m_X6_close n (upA zS 14 (upd (zS 14) (Int32.toNatClampNeg (zS 0 14)) (a2 - (65 : Int32)))) zL 0).bind fun u61 => some (u61.1, u61.2)) else (if a1 = 3 then ((m_X6_close n (upA zS 14 (upd (zS 14) (Int32.toNatClampNeg (zS 0 14)) (a2 - (65 : Int32)))) zL 1).bind fun u61 => some (u61.1, u61.2)) else ((m_X6_close n (upA zS 14 (upd (zS 14) (Int32.toNatClampNeg (zS 0 14)) (a2 - (65 : Int32)))) zL 2).bind fun u61 => some (u61.1, u61.2))))))))))
set_option maxHeartbeats 4000000 in
set_option maxRecDepth 100000 in
theorem c_X6_readOn (l : Launch) (D : va_G) (cI cJ cZ : ClassId) (n : Nat) (qS : Nat → Nat) (sz : Nat) (zS : TI) (zL : TL) (a1 : Int32) (a2 : Int32) (out : Int32 × TI) (hm : m_X6_readOn n zS zL a1 a2 = some out) : Met l yX6_readOn (wsM yX6_readOn cX6_readOn 3 (some .int)) { frames := 3, cells := 0, slots := 0, locals := 66 } (xPre D (kT cI cJ cZ) (w6 cI cJ cZ qS zS zL) sz [.ref (qS 0), .int a1, .int a2]) (xQi D (kT cI cJ cZ) (w6 cI cJ cZ qS zS zL) (w6 cI cJ cZ qS out.2 zL) sz out.1) 0 0 (va_A (w6 cI cJ cZ qS zS zL) sz) := by
  refine Met.ofW (cc := cX6_readOn) (maxL := 3) (ret := (some .int)) (by decide) rfl ?_
  intro p e s m args below meth c s₁ B hml hv
  obtain ⟨hv, hsz, hP, hK, hD0, hN⟩ := hv
  have hx := B.exec; have hb := B.bytes; have hr := B.returns
  have hts := atoms_spec (ws := (wsM yX6_readOn cX6_readOn 3 (some .int))) B.pre
  have hown : s.vm.findClass RX6 = some m.cls := findClass_of_methodNamed B.named
  have hlocks := B.notSynchronized
  subst hsz
  have hD := hD0.self (sz := s.heap.size)
  obtain ⟨A, hAe⟩ : ∃ A, A = va_A (w6 cI cJ cZ qS zS zL) s.heap.size := ⟨_, rfl⟩
  rw [← hAe] at hD
  have hA : ∀ q : Nat, s.heap.size ≤ q → A q := fun q h => by rw [hAe]; exact Or.inr h
  have htl : ∀ w ∈ wsL_law, w.before args s = true := fun w h => hts w (List.mem_cons_of_mem _ h)
  refine xHead (R' := { frames := 3, cells := 0, slots := 0, locals := 66 }) rfl (fun Q H hQ hH => ?_)
  have hP : va_P D vwCl (w6 cI cJ cZ qS zS zL) H := by rw [hH]; exact hP
  have hS : va_S A s.heap H [] := by rw [hH]; exact va_S.rf
  refine xStart hv (Nat.le_of_ble_eq_true rfl) (lv := [(0, .ref (qS 0)), (1, .int a1), (2, .int a2)]) rfl (fun ls hl => ?_)
  have h := hm
  unfold m_X6_readOn at h
  refine lv_iload_n hx hb (dAt zX6_readOn_0 0 rfl) rfl (lv_at hl 1 rfl) ?_
  refine lv_if_ne (tgt := 10) hx hb (dAt zX6_readOn_0 1 rfl) (by decide) (fun c_1 => ?_) (fun c_1 => ?_)
  · have h := q_neg c_1 h
    refine lv_iload_n hx hb (dAt zX6_readOn_0 6 rfl) rfl (lv_at hl 1 rfl) ?_
    refine lv_iconst (v := 1) hx hb (dAt zX6_readOn_0 7 rfl) (by decide) ?_
    refine lv_icmp_ne (tgt := 21) hx hb (dAt zX6_readOn_0 8 rfl) (by decide) (fun c_12 => ?_) (fun c_12 => ?_)
    · have h := q_neg c_12 h
      refine lv_aload_n hx hb (dAt zX6_readOn_0 13 rfl) rfl (lv_at hl 0 rfl) ?_
      refine va_get (D := D) (ci := 6) (v := .ref (qS 14)) (C := RX6) (T := TX6) (N := 32) hx hb htl inlX6 hown hK hP 0 rfl rfl 13 (by decide) (htl _ W_93) (fun _ h9 => h9) rfl (dAt zX6_readOn_0 14 rfl) ?_
      refine lv_aload_n hx hb (dAt zX6_readOn_0 15 rfl) rfl (lv_at hl 0 rfl) ?_
      refine va_get (D := D) (ci := 6) (v := .int (zS 0 14)) (C := RX6) (T := TX6) (N := 32) hx hb htl inlX6 hown hK hP 0 rfl rfl 14 (by decide) (htl _ W_238) (fun _ h9 => h9) rfl (dAt zX6_readOn_0 16 rfl) ?_
      refine lv_iload_n hx hb (dAt zX6_readOn_0 17 rfl) rfl (lv_at hl 2 rfl) ?_
      refine lv_bipush (v := 65) hx hb (dAt zX6_readOn_0 18 rfl) (by decide) ?_
      refine lv_isub hx hb (dAt zX6_readOn_0 19 rfl) ?_
      obtain ⟨hi_33, h⟩ := q_in h
      refine va_iast hx hb hK hP hD hS 9 0 rfl rfl hi_33 (dAt zX6_readOn_0 20 rfl) (fun H locs hP hD hS => ?_)
      have hP : va_P D vwCl (w6x cI cJ cZ qS (zS 0 0) (zS 0 1) (zS 0 2) (zS 0 8) (zS 0 10) (zS 0 14) (zS 0 15) (zS 0 16) (zS 0 17) (zS 0 19) (zS 0 20) (zS 0 21) (zS 0 22) (zS 0 23) (zS 0 30) (zS 0 31) (zS 4) (zS 5) (zS 6) (zS 7) (zS 8) (zS 10) (zS 12) (zS 13) (upd (zS 14) (Int32.toNatClampNeg (zS 0 14)) (a2 - (65 : Int32))) (zS 19) (zS 25) (zS 26) (zL 27) (zS 28) (zS 29) (zS 30)) H := hP
      have hD : va_D A (w6x cI cJ cZ qS (zS 0 0) (zS 0 1) (zS 0 2) (zS 0 8) (zS 0 10) (zS 0 14) (zS 0 15) (zS 0 16) (zS 0 17) (zS 0 19) (zS 0 20) (zS 0 21) (zS 0 22) (zS 0 23) (zS 0 30) (zS 0 31) (zS 4) (zS 5) (zS 6) (zS 7) (zS 8) (zS 10) (zS 12) (zS 13) (upd (zS 14) (Int32.toNatClampNeg (zS 0 14)) (a2 - (65 : Int32))) (zS 19) (zS 25) (zS 26) (zL 27) (zS 28) (zS 29) (zS 30)) := hD
      refine lv_iload_n hx hb (dAt zX6_readOn_0 21 rfl) rfl (lv_at hl 2 rfl) ?_
      have hP : va_P D vwCl (w6 cI cJ cZ qS (upA zS 14 (upd (zS 14) (Int32.toNatClampNeg (zS 0 14)) (a2 - (65 : Int32)))) zL) H := hP
      have hD : va_D A (w6 cI cJ cZ qS (upA zS 14 (upd (zS 14) (Int32.toNatClampNeg (zS 0 14)) (a2 - (65 : Int32)))) zL) := hD
      obtain ⟨u35, hu35, h⟩ := q_bind h
      refine xFz (wc := ([] : va_W)) (w1 := ([] : va_W)) (wr := (w6 cI cJ cZ qS (upA zS 14 (upd (zS 14) (Int32.toNatClampNeg (zS 0 14)) (a2 - (65 : Int32)))) zL)) (ws2 := (w6 cI cJ cZ qS (upA zS 14 (upd (zS 14) (Int32.toNatClampNeg (zS 0 14)) (a2 - (65 : Int32)))) zL)) (va_runS (As := [.int a2]) (rest := []) ⟨hx, hb, hml, hown, htl⟩ (c_X6_isLetter l D cI cJ cZ n  H.size  a2 u35 hu35) (va_cwS 1 htl (gS W_247 W_248 W_5 W_249) rfl rfl rfl (by decide +kernel) ⟨Nat.le_of_ble_eq_true rfl, Nat.le_of_ble_eq_true rfl⟩) (xPS xP0 (xD0 A) hK hN) rfl rfl hl.1 rfl (lv_room (Nat.le_of_ble_eq_true rfl)) (dAt zX6_readOn_0 22 rfl) ⟨Nat.zero_le _, Nat.zero_le _⟩) hS hA hP hD [] [0, 1, 2, 3, 4, 5, 6, 7, 8, 9, 10, 11, 12, 13, 14, 15, 16] [0, 1, 2, 3, 4, 5, 6, 7, 8, 9, 10, 11, 12, 13, 14, 15, 16] rfl rfl (by decide) (by decide) rfl (by decide) (fun H locs hz35 hP hD hS => ?_)
      refine lv_if_eq (tgt := 67) hx hb (dAt zX6_readOn_0 23 rfl) (by decide) (fun c_38 => ?_) (fun c_38 => ?_)
      · have h := q_pos c_38 h
        refine lv_bipush (v := (-6)) hx hb (dAt zX6_readOn_0 38 rfl) (by decide) ?_
        have hP : va_P D vwCl (w6 cI cJ cZ qS (upA zS 14 (upd (zS 14) (Int32.toNatClampNeg (zS 0 14)) (a2 - (65 : Int32)))) zL) H := hP
        have hD : va_D A (w6 cI cJ cZ qS (upA zS 14 (upd (zS 14) (Int32.toNatClampNeg (zS 0 14)) (a2 - (65 : Int32)))) zL) := hD
        obtain rfl := q_some h
        exact xRi hx hb hr hlocks hQ hAe hP hD hK hS rfl (dAt zX6_readOn_0 39 rfl)
      · have h := q_neg c_38 h
        refine lv_aload_n hx hb (dAt zX6_readOn_0 24 rfl) rfl (lv_at hl 0 rfl) ?_
        refine lv_iload_n hx hb (dAt zX6_readOn_0 25 rfl) rfl (lv_at hl 1 rfl) ?_
        refine lv_iconst (v := 2) hx hb (dAt zX6_readOn_0 26 rfl) (by decide) ?_
        refine lv_icmp_ne (tgt := 51) hx hb (dAt zX6_readOn_0 27 rfl) (by decide) (fun c_44 => ?_) (fun c_44 => ?_)
        · have h := q_neg c_44 h
          refine lv_iload_n hx hb (dAt zX6_readOn_0 30 rfl) rfl (lv_at hl 1 rfl) ?_
          refine lv_iconst (v := 3) hx hb (dAt zX6_readOn_0 31 rfl) (by decide) ?_
          refine lv_icmp_ne (tgt := 60) hx hb (dAt zX6_readOn_0 32 rfl) (by decide) (fun c_53 => ?_) (fun c_53 => ?_)
          · have h := q_neg c_53 h
            refine lv_iconst (v := 2) hx hb (dAt zX6_readOn_0 35 rfl) (by decide) ?_
            have hP : va_P D vwCl (w6 cI cJ cZ qS (upA zS 14 (upd (zS 14) (Int32.toNatClampNeg (zS 0 14)) (a2 - (65 : Int32)))) zL) H := hP
            have hD : va_D A (w6 cI cJ cZ qS (upA zS 14 (upd (zS 14) (Int32.toNatClampNeg (zS 0 14)) (a2 - (65 : Int32)))) zL) := hD
            obtain ⟨u61, hu61, h⟩ := q_bind h
            refine xFi (wc := (w6 cI cJ cZ qS (upA zS 14 (upd (zS 14) (Int32.toNatClampNeg (zS 0 14)) (a2 - (65 : Int32)))) zL)) (w1 := (w6 cI cJ cZ qS u61.2 zL)) (wr := ([] : va_W)) (ws2 := (w6 cI cJ cZ qS u61.2 zL)) (va_runV (As := [.int 2]) (rest := []) ⟨hx, hb, hml, hown, htl⟩ (c_X6_close l D cI cJ cZ n qS H.size (upA zS 14 (upd (zS 14) (Int32.toNatClampNeg (zS 0 14)) (a2 - (65 : Int32)))) zL 2 u61 hu61) (cwV 1 htl (gV W_252 W_253 W_254 W_5 W_255) rfl rfl rfl (by decide +kernel) ⟨Nat.le_of_ble_eq_true rfl, Nat.le_of_ble_eq_true rfl⟩) (xPV hP hD hK hN 0 rfl rfl) rfl rfl hl.1 rfl (lv_room (Nat.le_of_ble_eq_true rfl)) (dAt zX6_readOn_0 36 rfl) ⟨Nat.zero_le _, Nat.zero_le _⟩) hS hA hP hD [0, 1, 2, 3, 4, 5, 6, 7, 8, 9, 10, 11, 12, 13, 14, 15, 16] [] [0, 1, 2, 3, 4, 5, 6, 7, 8, 9, 10, 11, 12, 13, 14, 15, 16] rfl rfl (by decide) (by decide) rfl (by decide) (fun H locs hP hD hS => ?_)
            refine lv_goto (tgt := 69) hx hb (dAt zX6_readOn_0 37 rfl) (by decide) ?_
            obtain rfl := q_some h
            exact xRi hx hb hr hlocks hQ hAe hP hD hK hS rfl (dAt zX6_readOn_0 39 rfl)
          · have h := q_pos c_53 h
            refine lv_iconst (v := 1) hx hb (dAt zX6_readOn_0 33 rfl) (by decide) ?_
            refine lv_goto (tgt := 61) hx hb (dAt zX6_readOn_0 34 rfl) (by decide) ?_
            have hP : va_P D vwCl (w6 cI cJ cZ qS (upA zS 14 (upd (zS 14) (Int32.toNatClampNeg (zS 0 14)) (a2 - (65 : Int32)))) zL) H := hP
            have hD : va_D A (w6 cI cJ cZ qS (upA zS 14 (upd (zS 14) (Int32.toNatClampNeg (zS 0 14)) (a2 - (65 : Int32)))) zL) := hD
            obtain ⟨u61, hu61, h⟩ := q_bind h
            refine xFi (wc := (w6 cI cJ cZ qS (upA zS 14 (upd (zS 14) (Int32.toNatClampNeg (zS 0 14)) (a2 - (65 : Int32)))) zL)) (w1 := (w6 cI cJ cZ qS u61.2 zL)) (wr := ([] : va_W)) (ws2 := (w6 cI cJ cZ qS u61.2 zL)) (va_runV (As := [.int 1]) (rest := []) ⟨hx, hb, hml, hown, htl⟩ (c_X6_close l D cI cJ cZ n qS H.size (upA zS 14 (upd (zS 14) (Int32.toNatClampNeg (zS 0 14)) (a2 - (65 : Int32)))) zL 1 u61 hu61) (cwV 1 htl (gV W_252 W_253 W_254 W_5 W_255) rfl rfl rfl (by decide +kernel) ⟨Nat.le_of_ble_eq_true rfl, Nat.le_of_ble_eq_true rfl⟩) (xPV hP hD hK hN 0 rfl rfl) rfl rfl hl.1 rfl (lv_room (Nat.le_of_ble_eq_true rfl)) (dAt zX6_readOn_0 36 rfl) ⟨Nat.zero_le _, Nat.zero_le _⟩) hS hA hP hD [0, 1, 2, 3, 4, 5, 6, 7, 8, 9, 10, 11, 12, 13, 14, 15, 16] [] [0, 1, 2, 3, 4, 5, 6, 7, 8, 9, 10, 11, 12, 13, 14, 15, 16] rfl rfl (by decide) (by decide) rfl (by decide) (fun H locs hP hD hS => ?_)
            refine lv_goto (tgt := 69) hx hb (dAt zX6_readOn_0 37 rfl) (by decide) ?_
            obtain rfl := q_some h
            exact xRi hx hb hr hlocks hQ hAe hP hD hK hS rfl (dAt zX6_readOn_0 39 rfl)
        · have h := q_pos c_44 h
          refine lv_iconst (v := 0) hx hb (dAt zX6_readOn_0 28 rfl) (by decide) ?_
          refine lv_goto (tgt := 61) hx hb (dAt zX6_readOn_0 29 rfl) (by decide) ?_
          have hP : va_P D vwCl (w6 cI cJ cZ qS (upA zS 14 (upd (zS 14) (Int32.toNatClampNeg (zS 0 14)) (a2 - (65 : Int32)))) zL) H := hP
          have hD : va_D A (w6 cI cJ cZ qS (upA zS 14 (upd (zS 14) (Int32.toNatClampNeg (zS 0 14)) (a2 - (65 : Int32)))) zL) := hD
          obtain ⟨u61, hu61, h⟩ := q_bind h
          refine xFi (wc := (w6 cI cJ cZ qS (upA zS 14 (upd (zS 14) (Int32.toNatClampNeg (zS 0 14)) (a2 - (65 : Int32)))) zL)) (w1 := (w6 cI cJ cZ qS u61.2 zL)) (wr := ([] : va_W)) (ws2 := (w6 cI cJ cZ qS u61.2 zL)) (va_runV (As := [.int 0]) (rest := []) ⟨hx, hb, hml, hown, htl⟩ (c_X6_close l D cI cJ cZ n qS H.size (upA zS 14 (upd (zS 14) (Int32.toNatClampNeg (zS 0 14)) (a2 - (65 : Int32)))) zL 0 u61 hu61) (cwV 1 htl (gV W_252 W_253 W_254 W_5 W_255) rfl rfl rfl (by decide +kernel) ⟨Nat.le_of_ble_eq_true rfl, Nat.le_of_ble_eq_true rfl⟩) (xPV hP hD hK hN 0 rfl rfl) rfl rfl hl.1 rfl (lv_room (Nat.le_of_ble_eq_true rfl)) (dAt zX6_readOn_0 36 rfl) ⟨Nat.zero_le _, Nat.zero_le _⟩) hS hA hP hD [0, 1, 2, 3, 4, 5, 6, 7, 8, 9, 10, 11, 12, 13, 14, 15, 16] [] [0, 1, 2, 3, 4, 5, 6, 7, 8, 9, 10, 11, 12, 13, 14, 15, 16] rfl rfl (by decide) (by decide) rfl (by decide) (fun H locs hP hD hS => ?_)
          refine lv_goto (tgt := 69) hx hb (dAt zX6_readOn_0 37 rfl) (by decide) ?_
          obtain rfl := q_some h
          exact xRi hx hb hr hlocks hQ hAe hP hD hK hS rfl (dAt zX6_readOn_0 39 rfl)
    · have h := q_pos c_12 h
      refine lv_aload_n hx hb (dAt zX6_readOn_0 9 rfl) rfl (lv_at hl 0 rfl) ?_
      refine lv_iload_n hx hb (dAt zX6_readOn_0 10 rfl) rfl (lv_at hl 2 rfl) ?_
      obtain ⟨u17, hu17, h⟩ := q_bind h
      refine xFi (wc := (w6 cI cJ cZ qS zS zL)) (w1 := (w6 cI cJ cZ qS u17.2 zL)) (wr := ([] : va_W)) (ws2 := (w6 cI cJ cZ qS u17.2 zL)) (va_runV (As := [.int a2]) (rest := []) ⟨hx, hb, hml, hown, htl⟩ (c_X6_deed l D cI cJ cZ n qS H.size zS zL a2 u17 hu17) (cwV 1 htl (gV W_256 W_257 W_258 W_5 W_259) rfl rfl rfl (by decide +kernel) ⟨Nat.le_of_ble_eq_true rfl, Nat.le_of_ble_eq_true rfl⟩) (xPV hP hD hK hN 0 rfl rfl) rfl rfl hl.1 rfl (lv_room (Nat.le_of_ble_eq_true rfl)) (dAt zX6_readOn_0 11 rfl) ⟨Nat.zero_le _, Nat.zero_le _⟩) hS hA hP hD [0, 1, 2, 3, 4, 5, 6, 7, 8, 9, 10, 11, 12, 13, 14, 15, 16] [] [0, 1, 2, 3, 4, 5, 6, 7, 8, 9, 10, 11, 12, 13, 14, 15, 16] rfl rfl (by decide) (by decide) rfl (by decide) (fun H locs hP hD hS => ?_)
      obtain rfl := q_some h
      exact xRi hx hb hr hlocks hQ hAe hP hD hK hS rfl (dAt zX6_readOn_0 12 rfl)
  · have h := q_pos c_1 h
    refine lv_aload_n hx hb (dAt zX6_readOn_0 2 rfl) rfl (lv_at hl 0 rfl) ?_
    refine lv_iload_n hx hb (dAt zX6_readOn_0 3 rfl) rfl (lv_at hl 2 rfl) ?_
    obtain ⟨u6, hu6, h⟩ := q_bind h
    refine xFi (wc := (w6 cI cJ cZ qS zS zL)) (w1 := (w6 cI cJ cZ qS u6.2 zL)) (wr := ([] : va_W)) (ws2 := (w6 cI cJ cZ qS u6.2 zL)) (va_runV (As := [.int a2]) (rest := []) ⟨hx, hb, hml, hown, htl⟩ (c_X6_begin l D cI cJ cZ n qS H.size zS zL a2 u6 hu6) (cwV 1 htl (gV W_243 W_244 W_245 W_5 W_246) rfl rfl rfl (by decide +kernel) ⟨Nat.le_of_ble_eq_true rfl, Nat.le_of_ble_eq_true rfl⟩) (xPV hP hD hK hN 0 rfl rfl) rfl rfl hl.1 rfl (lv_room (Nat.le_of_ble_eq_true rfl)) (dAt zX6_readOn_0 4 rfl) ⟨Nat.zero_le _, Nat.zero_le _⟩) hS hA hP hD [0, 1, 2, 3, 4, 5, 6, 7, 8, 9, 10, 11, 12, 13, 14, 15, 16] [] [0, 1, 2, 3, 4, 5, 6, 7, 8, 9, 10, 11, 12, 13, 14, 15, 16] rfl rfl (by decide) (by decide) rfl (by decide) (fun H locs hP hD hS => ?_)
    obtain rfl := q_some h
    exact xRi hx hb hr hlocks hQ hAe hP hD hK hS rfl (dAt zX6_readOn_0 5 rfl)
def b_X6_fault_9 (n : Nat) (zL : TL) (s_9 : Int32 × Int32 × TI) (k_9 : Int32 × Int32 × TI → Option (Int32 × TI)) : Option (Int32 × TI) := (if (s_9.2.2 0 10) ≤ s_9.2.1 then (if s_9.1 = 0 then some ((-6), s_9.2.2) else some ((s_9.2.2 0 10), s_9.2.2)) else (gd (inB s_9.2.1 60) (((m_X6_readOn n s_9.2.2 zL s_9.1 ((s_9.2.2 10) (Int32.toNatClampNeg s_9.2.1))).bind fun u25 => (if 0 ≤ u25.1 then (k_9 (u25.1, (s_9.2.1 + 1), u25.2)) else some (s_9.2.1, u25.2))))))
def m_X6_fault (n : Nat) (zS : TI) (zL : TL) : Option (Int32 × TI) := (loopF (b_X6_fault_9 n zL ) n (0, 0, (sf zS 14 0)))
set_option maxHeartbeats 4000000 in
set_option maxRecDepth 100000 in
theorem c_X6_fault (l : Launch) (D : va_G) (cI cJ cZ : ClassId) (n : Nat) (qS : Nat → Nat) (sz : Nat) (zS : TI) (zL : TL) (out : Int32 × TI) (hm : m_X6_fault n zS zL = some out) : Met l yX6_fault (wsM yX6_fault cX6_fault 3 (some .int)) { frames := 4, cells := 0, slots := 0, locals := 88 } (xPre D (kT cI cJ cZ) (w6 cI cJ cZ qS zS zL) sz [.ref (qS 0)]) (xQi D (kT cI cJ cZ) (w6 cI cJ cZ qS zS zL) (w6 cI cJ cZ qS out.2 zL) sz out.1) 0 0 (va_A (w6 cI cJ cZ qS zS zL) sz) := by
  refine Met.ofW (cc := cX6_fault) (maxL := 3) (ret := (some .int)) (by decide) rfl ?_
  intro p e s m args below meth c s₁ B hml hv
  obtain ⟨hv, hsz, hP, hK, hD0, hN⟩ := hv
  have hx := B.exec; have hb := B.bytes; have hr := B.returns
  have hts := atoms_spec (ws := (wsM yX6_fault cX6_fault 3 (some .int))) B.pre
  have hown : s.vm.findClass RX6 = some m.cls := findClass_of_methodNamed B.named
  have hlocks := B.notSynchronized
  subst hsz
  have hD := hD0.self (sz := s.heap.size)
  obtain ⟨A, hAe⟩ : ∃ A, A = va_A (w6 cI cJ cZ qS zS zL) s.heap.size := ⟨_, rfl⟩
  rw [← hAe] at hD
  have hA : ∀ q : Nat, s.heap.size ≤ q → A q := fun q h => by rw [hAe]; exact Or.inr h
  have htl : ∀ w ∈ wsL_law, w.before args s = true := fun w h => hts w (List.mem_cons_of_mem _ h)
  refine xHead (R' := { frames := 4, cells := 0, slots := 0, locals := 88 }) rfl (fun Q H hQ hH => ?_)
  have hP : va_P D vwCl (w6 cI cJ cZ qS zS zL) H := by rw [hH]; exact hP
  have hS : va_S A s.heap H [] := by rw [hH]; exact va_S.rf
  refine xStart hv (Nat.le_of_ble_eq_true rfl) (lv := [(0, .ref (qS 0))]) rfl (fun ls hl => ?_)
  have h := hm
  unfold m_X6_fault at h
  refine lv_aload_n hx hb (dAt zX6_fault_0 0 rfl) rfl (lv_at hl 0 rfl) ?_
  refine lv_iconst (v := 0) hx hb (dAt zX6_fault_0 1 rfl) (by decide) ?_
  refine va_put (D := D) (ci := 6) (v := .int 0) (ty := .int) (C := RX6) (T := TX6) (N := 32) hx hb htl inlX6 tyX6 tyX6_ok nmX6 hown hK hP hD hS 0 rfl rfl 14 (by decide) (htl _ W_238) (fun _ h9 => h9) rfl (by decide +kernel) rfl rfl (Nat.le_of_ble_eq_true rfl) (dAt zX6_fault_0 2 rfl) (fun H locs hP hD hS => ?_)
  have hP : va_P D vwCl (w6x cI cJ cZ qS (zS 0 0) (zS 0 1) (zS 0 2) (zS 0 8) (zS 0 10) 0 (zS 0 15) (zS 0 16) (zS 0 17) (zS 0 19) (zS 0 20) (zS 0 21) (zS 0 22) (zS 0 23) (zS 0 30) (zS 0 31) (zS 4) (zS 5) (zS 6) (zS 7) (zS 8) (zS 10) (zS 12) (zS 13) (zS 14) (zS 19) (zS 25) (zS 26) (zL 27) (zS 28) (zS 29) (zS 30)) H := hP
  have hD : va_D A (w6x cI cJ cZ qS (zS 0 0) (zS 0 1) (zS 0 2) (zS 0 8) (zS 0 10) 0 (zS 0 15) (zS 0 16) (zS 0 17) (zS 0 19) (zS 0 20) (zS 0 21) (zS 0 22) (zS 0 23) (zS 0 30) (zS 0 31) (zS 4) (zS 5) (zS 6) (zS 7) (zS 8) (zS 10) (zS 12) (zS 13) (zS 14) (zS 19) (zS 25) (zS 26) (zL 27) (zS 28) (zS 29) (zS 30)) := hD
  refine lv_iconst (v := 0) hx hb (dAt zX6_fault_0 3 rfl) (by decide) ?_
  refine lv_istore_n (lv' := [(1, .int 0), (0, .ref (qS 0))]) hx hb (dAt zX6_fault_0 4 rfl) rfl hl (by decide) rfl (fun ls hl => ?_)
  refine lv_iconst (v := 0) hx hb (dAt zX6_fault_0 5 rfl) (by decide) ?_
  refine lv_istore_n (lv' := [(2, .int 0), (1, .int 0), (0, .ref (qS 0))]) hx hb (dAt zX6_fault_0 6 rfl) rfl hl (by decide) rfl (fun ls hl => ?_)
  have hP : va_P D vwCl (w6 cI cJ cZ qS (sf zS 14 0) zL) H := hP
  have hD : va_D A (w6 cI cJ cZ qS (sf zS 14 0) zL) := hD
  have L_9 : ∀ (j_9 : Nat) (v1_9 : Int32) (v2_9 : Int32) (zS_9 : TI) (H : Heap) (locs : List Loc) (ls : Array Slot), loopF (b_X6_fault_9 n zL) j_9 (v1_9, v2_9, zS_9) = some out → va_P D vwCl (w6 cI cJ cZ qS zS_9 zL) H → va_D A (w6 cI cJ cZ qS zS_9 zL) → va_S A s.heap H locs → lv_has ls 3 [(0, .ref (qS 0)), (1, .int v1_9), (2, .int v2_9)] → W p l e { frames := 4, cells := 0, slots := 0, locals := 88 } s m args below meth c H locs 0 0 Q (F0 m 9 ls []) := by
    intro j_9
    induction j_9 with
    | zero => intro v1_9 v2_9 zS_9 H locs ls h hP hD hS hl; exact loopF_0 h
    | succ j_9 ih_9 =>
      intro v1_9 v2_9 zS_9 H locs ls h hP hD hS hl
      have h := loopF_s h
      unfold b_X6_fault_9 at h
      refine lv_iload_n hx hb (dAt zX6_fault_0 7 rfl) rfl (lv_at hl 2 rfl) ?_
      refine lv_aload_n hx hb (dAt zX6_fault_0 8 rfl) rfl (lv_at hl 0 rfl) ?_
      refine va_get (D := D) (ci := 6) (v := .int (zS_9 0 10)) (C := RX6) (T := TX6) (N := 32) hx hb htl inlX6 hown hK hP 0 rfl rfl 10 (by decide) (htl _ W_202) (fun _ h9 => h9) rfl (dAt zX6_fault_0 9 rfl) ?_
      refine lv_icmp_ge (tgt := 41) hx hb (dAt zX6_fault_0 10 rfl) (by decide) (fun c_14 => ?_) (fun c_14 => ?_)
      · have h := q_pos c_14 h
        refine lv_iload_n hx hb (dAt zX6_fault_0 25 rfl) rfl (lv_at hl 1 rfl) ?_
        refine lv_if_ne (tgt := 50) hx hb (dAt zX6_fault_0 26 rfl) (by decide) (fun c_42 => ?_) (fun c_42 => ?_)
        · have h := q_neg c_42 h
          refine lv_aload_n hx hb (dAt zX6_fault_0 29 rfl) rfl (lv_at hl 0 rfl) ?_
          refine va_get (D := D) (ci := 6) (v := .int (zS_9 0 10)) (C := RX6) (T := TX6) (N := 32) hx hb htl inlX6 hown hK hP 0 rfl rfl 10 (by decide) (htl _ W_202) (fun _ h9 => h9) rfl (dAt zX6_fault_0 30 rfl) ?_
          obtain rfl := q_some h
          exact xRi hx hb hr hlocks hQ hAe hP hD hK hS rfl (dAt zX6_fault_0 31 rfl)
        · have h := q_pos c_42 h
          refine lv_bipush (v := (-6)) hx hb (dAt zX6_fault_0 27 rfl) (by decide) ?_
          refine lv_goto (tgt := 54) hx hb (dAt zX6_fault_0 28 rfl) (by decide) ?_
          obtain rfl := q_some h
          exact xRi hx hb hr hlocks hQ hAe hP hD hK hS rfl (dAt zX6_fault_0 31 rfl)
      · have h := q_neg c_14 h
        refine lv_aload_n hx hb (dAt zX6_fault_0 11 rfl) rfl (lv_at hl 0 rfl) ?_
        refine lv_iload_n hx hb (dAt zX6_fault_0 12 rfl) rfl (lv_at hl 1 rfl) ?_
        refine lv_aload_n hx hb (dAt zX6_fault_0 13 rfl) rfl (lv_at hl 0 rfl) ?_
        refine va_get (D := D) (ci := 6) (v := .ref (qS 10)) (C := RX6) (T := TX6) (N := 32) hx hb htl inlX6 hown hK hP 0 rfl rfl 9 (by decide) (htl _ W_90) (fun _ h9 => h9) rfl (dAt zX6_fault_0 14 rfl) ?_
        refine lv_iload_n hx hb (dAt zX6_fault_0 15 rfl) rfl (lv_at hl 2 rfl) ?_
        obtain ⟨hi_24, h⟩ := q_in h
        refine va_iald hx hb hK hP 6 0 rfl rfl hi_24 (dAt zX6_fault_0 16 rfl) ?_
        obtain ⟨u25, hu25, h⟩ := q_bind h
        refine xFi (wc := (w6 cI cJ cZ qS zS_9 zL)) (w1 := (w6 cI cJ cZ qS u25.2 zL)) (wr := ([] : va_W)) (ws2 := (w6 cI cJ cZ qS u25.2 zL)) (va_runV (As := [.int v1_9, .int ((zS_9 10) (Int32.toNatClampNeg v2_9))]) (rest := []) ⟨hx, hb, hml, hown, htl⟩ (c_X6_readOn l D cI cJ cZ n qS H.size zS_9 zL v1_9 ((zS_9 10) (Int32.toNatClampNeg v2_9)) u25 hu25) (cwV 2 htl (gV W_239 W_240 W_241 W_5 W_242) rfl rfl rfl (by decide +kernel) ⟨Nat.le_of_ble_eq_true rfl, Nat.le_of_ble_eq_true rfl⟩) (xPV hP hD hK hN 0 rfl rfl) rfl rfl hl.1 rfl (lv_room (Nat.le_of_ble_eq_true rfl)) (dAt zX6_fault_0 17 rfl) ⟨Nat.zero_le _, Nat.zero_le _⟩) hS hA hP hD [0, 1, 2, 3, 4, 5, 6, 7, 8, 9, 10, 11, 12, 13, 14, 15, 16] [] [0, 1, 2, 3, 4, 5, 6, 7, 8, 9, 10, 11, 12, 13, 14, 15, 16] rfl rfl (by decide) (by decide) rfl (by decide) (fun H locs hP hD hS => ?_)
        refine lv_istore_n (lv' := [(1, .int u25.1), (0, .ref (qS 0)), (2, .int v2_9)]) hx hb (dAt zX6_fault_0 18 rfl) rfl hl (by decide) rfl (fun ls hl => ?_)
        refine lv_iload_n hx hb (dAt zX6_fault_0 19 rfl) rfl (lv_at hl 0 rfl) ?_
        refine lv_if_ge (tgt := 35) hx hb (dAt zX6_fault_0 20 rfl) (by decide) (fun c_30 => ?_) (fun c_30 => ?_)
        · have h := q_pos c_30 h
          refine lv_iinc (v := (v2_9 + 1)) (lv' := [(2, .int (v2_9 + 1)), (1, .int u25.1), (0, .ref (qS 0))]) hx hb (dAt zX6_fault_0 23 rfl) hl (k := 2) rfl rfl (by decide) rfl (fun ls hl => ?_)
          refine lv_goto (tgt := 9) hx hb (dAt zX6_fault_0 24 rfl) (by decide) ?_
          exact ih_9 u25.1 (v2_9 + 1) u25.2 _ _ _ h hP hD hS (lv_sub hl [2, 1, 0] rfl)
        · have h := q_neg c_30 h
          refine lv_iload_n hx hb (dAt zX6_fault_0 21 rfl) rfl (lv_at hl 2 rfl) ?_
          obtain rfl := q_some h
          exact xRi hx hb hr hlocks hQ hAe hP hD hK hS rfl (dAt zX6_fault_0 22 rfl)
  exact L_9 n 0 0 (sf zS 14 0) _ _ _ h hP hD hS (lv_sub hl [2, 1, 0] rfl)
def m_X6_counts (n : Nat) (zS : TI) (zL : TL) (a1 : Int32) (a2 : Int32) : Option Int32 := (if a1 = a2 then some 0 else (gd (inB (((10 : Int32) * a1) + a2) 100) ((if ((zS 4) (Int32.toNatClampNeg (((10 : Int32) * a1) + a2))) < ((zS 6) 1) then some 0 else (gd (inB (((10 : Int32) * a1) + a2) 100) ((if ((zS 5) (Int32.toNatClampNeg (((10 : Int32) * a1) + a2))) = 3 then (if ((zS 6) 2) = 1 then some 1 else some 0) else some 1)))))))
set_option maxHeartbeats 4000000 in
set_option maxRecDepth 100000 in
theorem c_X6_counts (l : Launch) (D : va_G) (cI cJ cZ : ClassId) (n : Nat) (qS : Nat → Nat) (sz : Nat) (zS : TI) (zL : TL) (a1 : Int32) (a2 : Int32) (out : Int32) (hm : m_X6_counts n zS zL a1 a2 = some out) : Met l yX6_counts (wsM yX6_counts cX6_counts 4 (some .boolean)) { frames := 0, cells := 0, slots := 0, locals := 0 } (xPre D (kT cI cJ cZ) (w6 cI cJ cZ qS zS zL) sz [.ref (qS 0), .int a1, .int a2]) (xQz D (kT cI cJ cZ) (w6 cI cJ cZ qS zS zL) (w6 cI cJ cZ qS zS zL) sz out) 0 0 (va_A (w6 cI cJ cZ qS zS zL) sz) := by
  refine Met.ofW (cc := cX6_counts) (maxL := 4) (ret := (some .boolean)) (by decide) rfl ?_
  intro p e s m args below meth c s₁ B hml hv
  obtain ⟨hv, hsz, hP, hK, hD0, hN⟩ := hv
  have hx := B.exec; have hb := B.bytes; have hr := B.returns
  have hts := atoms_spec (ws := (wsM yX6_counts cX6_counts 4 (some .boolean))) B.pre
  have hown : s.vm.findClass RX6 = some m.cls := findClass_of_methodNamed B.named
  have hlocks := B.notSynchronized
  subst hsz
  have hD := hD0.self (sz := s.heap.size)
  obtain ⟨A, hAe⟩ : ∃ A, A = va_A (w6 cI cJ cZ qS zS zL) s.heap.size := ⟨_, rfl⟩
  rw [← hAe] at hD
  have hA : ∀ q : Nat, s.heap.size ≤ q → A q := fun q h => by rw [hAe]; exact Or.inr h
  have htl : ∀ w ∈ wsL_law, w.before args s = true := fun w h => hts w (List.mem_cons_of_mem _ h)
  refine xHead (R' := { frames := 0, cells := 0, slots := 0, locals := 0 }) rfl (fun Q H hQ hH => ?_)
  have hP : va_P D vwCl (w6 cI cJ cZ qS zS zL) H := by rw [hH]; exact hP
  have hS : va_S A s.heap H [] := by rw [hH]; exact va_S.rf
  refine xStart hv (Nat.le_of_ble_eq_true rfl) (lv := [(0, .ref (qS 0)), (1, .int a1), (2, .int a2)]) rfl (fun ls hl => ?_)
  have h := hm
  unfold m_X6_counts at h
  refine lv_bipush (v := 10) hx hb (dAt zX6_counts_0 0 rfl) (by decide) ?_
  refine lv_iload_n hx hb (dAt zX6_counts_0 1 rfl) rfl (lv_at hl 1 rfl) ?_
  refine lv_imul hx hb (dAt zX6_counts_0 2 rfl) ?_
  refine lv_iload_n hx hb (dAt zX6_counts_0 3 rfl) rfl (lv_at hl 2 rfl) ?_
  refine lv_iadd hx hb (dAt zX6_counts_0 4 rfl) ?_
  refine lv_istore_n (lv' := [(3, .int (((10 : Int32) * a1) + a2)), (0, .ref (qS 0)), (1, .int a1), (2, .int a2)]) hx hb (dAt zX6_counts_0 5 rfl) rfl hl (by decide) rfl (fun ls hl => ?_)
  refine lv_iload_n hx hb (dAt zX6_counts_0 6 rfl) rfl (lv_at hl 2 rfl) ?_
  refine lv_iload_n hx hb (dAt zX6_counts_0 7 rfl) rfl (lv_at hl 3 rfl) ?_
  refine lv_icmp_eq (tgt := 51) hx hb (dAt zX6_counts_0 8 rfl) (by decide) (fun c_9 => ?_) (fun c_9 => ?_)
  · have h := q_pos c_9 h
    refine lv_iconst (v := 0) hx hb (dAt zX6_counts_0 32 rfl) (by decide) ?_
    obtain rfl := q_some h
    exact xRz hx hb hr hlocks hQ hAe hP hD hK hS rfl rfl (dAt zX6_counts_0 33 rfl)
  · have h := q_neg c_9 h
    refine lv_aload_n hx hb (dAt zX6_counts_0 9 rfl) rfl (lv_at hl 1 rfl) ?_
    refine va_get (D := D) (ci := 6) (v := .ref (qS 4)) (C := RX6) (T := TX6) (N := 32) hx hb htl inlX6 hown hK hP 0 rfl rfl 3 (by decide) (htl _ W_85) (fun _ h9 => h9) rfl (dAt zX6_counts_0 10 rfl) ?_
    refine lv_iload_n hx hb (dAt zX6_counts_0 11 rfl) rfl (lv_at hl 0 rfl) ?_
    obtain ⟨hi_17, h⟩ := q_in h
    refine va_iald hx hb hK hP 1 0 rfl rfl hi_17 (dAt zX6_counts_0 12 rfl) ?_
    refine lv_aload_n hx hb (dAt zX6_counts_0 13 rfl) rfl (lv_at hl 1 rfl) ?_
    refine va_get (D := D) (ci := 6) (v := .ref (qS 6)) (C := RX6) (T := TX6) (N := 32) hx hb htl inlX6 hown hK hP 0 rfl rfl 5 (by decide) (htl _ W_87) (fun _ h9 => h9) rfl (dAt zX6_counts_0 14 rfl) ?_
    refine lv_iconst (v := 1) hx hb (dAt zX6_counts_0 15 rfl) (by decide) ?_
    refine va_iald hx hb hK hP 3 0 rfl rfl (q_inb (by decide)) (dAt zX6_counts_0 16 rfl) ?_
    refine lv_icmp_lt (tgt := 51) hx hb (dAt zX6_counts_0 17 rfl) (by decide) (fun c_24 => ?_) (fun c_24 => ?_)
    · have h := q_pos c_24 h
      refine lv_iconst (v := 0) hx hb (dAt zX6_counts_0 32 rfl) (by decide) ?_
      obtain rfl := q_some h
      exact xRz hx hb hr hlocks hQ hAe hP hD hK hS rfl rfl (dAt zX6_counts_0 33 rfl)
    · have h := q_neg c_24 h
      refine lv_aload_n hx hb (dAt zX6_counts_0 18 rfl) rfl (lv_at hl 1 rfl) ?_
      refine va_get (D := D) (ci := 6) (v := .ref (qS 5)) (C := RX6) (T := TX6) (N := 32) hx hb htl inlX6 hown hK hP 0 rfl rfl 4 (by decide) (htl _ W_86) (fun _ h9 => h9) rfl (dAt zX6_counts_0 19 rfl) ?_
      refine lv_iload_n hx hb (dAt zX6_counts_0 20 rfl) rfl (lv_at hl 0 rfl) ?_
      obtain ⟨hi_32, h⟩ := q_in h
      refine va_iald hx hb hK hP 2 0 rfl rfl hi_32 (dAt zX6_counts_0 21 rfl) ?_
      refine lv_iconst (v := 3) hx hb (dAt zX6_counts_0 22 rfl) (by decide) ?_
      refine lv_icmp_ne (tgt := 47) hx hb (dAt zX6_counts_0 23 rfl) (by decide) (fun c_34 => ?_) (fun c_34 => ?_)
      · have h := q_neg c_34 h
        refine lv_iconst (v := 1) hx hb (dAt zX6_counts_0 30 rfl) (by decide) ?_
        refine lv_goto (tgt := 52) hx hb (dAt zX6_counts_0 31 rfl) (by decide) ?_
        obtain rfl := q_some h
        exact xRz hx hb hr hlocks hQ hAe hP hD hK hS rfl rfl (dAt zX6_counts_0 33 rfl)
      · have h := q_pos c_34 h
        refine lv_aload_n hx hb (dAt zX6_counts_0 24 rfl) rfl (lv_at hl 1 rfl) ?_
        refine va_get (D := D) (ci := 6) (v := .ref (qS 6)) (C := RX6) (T := TX6) (N := 32) hx hb htl inlX6 hown hK hP 0 rfl rfl 5 (by decide) (htl _ W_87) (fun _ h9 => h9) rfl (dAt zX6_counts_0 25 rfl) ?_
        refine lv_iconst (v := 2) hx hb (dAt zX6_counts_0 26 rfl) (by decide) ?_
        refine va_iald hx hb hK hP 3 0 rfl rfl (q_inb (by decide)) (dAt zX6_counts_0 27 rfl) ?_
        refine lv_iconst (v := 1) hx hb (dAt zX6_counts_0 28 rfl) (by decide) ?_
        refine lv_icmp_ne (tgt := 51) hx hb (dAt zX6_counts_0 29 rfl) (by decide) (fun c_44 => ?_) (fun c_44 => ?_)
        · have h := q_neg c_44 h
          refine lv_iconst (v := 0) hx hb (dAt zX6_counts_0 32 rfl) (by decide) ?_
          obtain rfl := q_some h
          exact xRz hx hb hr hlocks hQ hAe hP hD hK hS rfl rfl (dAt zX6_counts_0 33 rfl)
        · have h := q_pos c_44 h
          refine lv_iconst (v := 1) hx hb (dAt zX6_counts_0 30 rfl) (by decide) ?_
          refine lv_goto (tgt := 52) hx hb (dAt zX6_counts_0 31 rfl) (by decide) ?_
          obtain rfl := q_some h
          exact xRz hx hb hr hlocks hQ hAe hP hD hK hS rfl rfl (dAt zX6_counts_0 33 rfl)
def b_X6_tiesThatCount_5 (n : Nat) (zS : TI) (zL : TL) (a1 : Int32) (a2 : Int32) (s_5 : Int32 × Int32) (k_5 : Int32 × Int32 → Option Int32) : Option Int32 := (if 10 ≤ s_5.2 then some s_5.1 else ((m_X6_has n  a1 s_5.2).bind fun u16 => (if u16 = 0 then (k_5 ((s_5.1 + (0 : Int32)), (s_5.2 + 1))) else ((m_X6_counts n zS zL a2 s_5.2).bind fun u26 => (if u26 = 0 then (k_5 ((s_5.1 + (0 : Int32)), (s_5.2 + 1))) else (k_5 ((s_5.1 + (1 : Int32)), (s_5.2 + 1))))))))
def m_X6_tiesThatCount (n : Nat) (zS : TI) (zL : TL) (a1 : Int32) (a2 : Int32) : Option Int32 := (loopF (b_X6_tiesThatCount_5 n zS zL a1 a2 ) n (0, 0))
set_option maxHeartbeats 4000000 in
set_option maxRecDepth 100000 in
theorem c_X6_tiesThatCount (l : Launch) (D : va_G) (cI cJ cZ : ClassId) (n : Nat) (qS : Nat → Nat) (sz : Nat) (zS : TI) (zL : TL) (a1 : Int32) (a2 : Int32) (out : Int32) (hm : m_X6_tiesThatCount n zS zL a1 a2 = some out) : Met l yX6_tiesThatCount (wsM yX6_tiesThatCount cX6_tiesThatCount 5 (some .int)) { frames := 1, cells := 0, slots := 0, locals := 23 } (xPre D (kT cI cJ cZ) (w6 cI cJ cZ qS zS zL) sz [.ref (qS 0), .int a1, .int a2]) (xQi D (kT cI cJ cZ) (w6 cI cJ cZ qS zS zL) (w6 cI cJ cZ qS zS zL) sz out) 0 0 (va_A (w6 cI cJ cZ qS zS zL) sz) := by
  refine Met.ofW (cc := cX6_tiesThatCount) (maxL := 5) (ret := (some .int)) (by decide) rfl ?_
  intro p e s m args below meth c s₁ B hml hv
  obtain ⟨hv, hsz, hP, hK, hD0, hN⟩ := hv
  have hx := B.exec; have hb := B.bytes; have hr := B.returns
  have hts := atoms_spec (ws := (wsM yX6_tiesThatCount cX6_tiesThatCount 5 (some .int))) B.pre
  have hown : s.vm.findClass RX6 = some m.cls := findClass_of_methodNamed B.named
  have hlocks := B.notSynchronized
  subst hsz
  have hD := hD0.self (sz := s.heap.size)
  obtain ⟨A, hAe⟩ : ∃ A, A = va_A (w6 cI cJ cZ qS zS zL) s.heap.size := ⟨_, rfl⟩
  rw [← hAe] at hD
  have hA : ∀ q : Nat, s.heap.size ≤ q → A q := fun q h => by rw [hAe]; exact Or.inr h
  have htl : ∀ w ∈ wsL_law, w.before args s = true := fun w h => hts w (List.mem_cons_of_mem _ h)
  refine xHead (R' := { frames := 1, cells := 0, slots := 0, locals := 23 }) rfl (fun Q H hQ hH => ?_)
  have hP : va_P D vwCl (w6 cI cJ cZ qS zS zL) H := by rw [hH]; exact hP
  have hS : va_S A s.heap H [] := by rw [hH]; exact va_S.rf
  refine xStart hv (Nat.le_of_ble_eq_true rfl) (lv := [(0, .ref (qS 0)), (1, .int a1), (2, .int a2)]) rfl (fun ls hl => ?_)
  have h := hm
  unfold m_X6_tiesThatCount at h
  refine lv_iconst (v := 0) hx hb (dAt zX6_tiesThatCount_0 0 rfl) (by decide) ?_
  refine lv_istore_n (lv' := [(3, .int 0), (0, .ref (qS 0)), (1, .int a1), (2, .int a2)]) hx hb (dAt zX6_tiesThatCount_0 1 rfl) rfl hl (by decide) rfl (fun ls hl => ?_)
  refine lv_iconst (v := 0) hx hb (dAt zX6_tiesThatCount_0 2 rfl) (by decide) ?_
  refine lv_istore (lv' := [(4, .int 0), (3, .int 0), (0, .ref (qS 0)), (1, .int a1), (2, .int a2)]) hx hb (dAt zX6_tiesThatCount_0 3 rfl) hl (by decide) rfl (fun ls hl => ?_)
  have L_5 : ∀ (j_5 : Nat) (v3_5 : Int32) (v4_5 : Int32) (H : Heap) (locs : List Loc) (ls : Array Slot), loopF (b_X6_tiesThatCount_5 n zS zL a1 a2) j_5 (v3_5, v4_5) = some out → va_P D vwCl (w6 cI cJ cZ qS zS zL) H → va_D A (w6 cI cJ cZ qS zS zL) → va_S A s.heap H locs → lv_has ls 5 [(0, .ref (qS 0)), (1, .int a1), (2, .int a2), (3, .int v3_5), (4, .int v4_5)] → W p l e { frames := 1, cells := 0, slots := 0, locals := 23 } s m args below meth c H locs 0 0 Q (F0 m 5 ls []) := by
    intro j_5
    induction j_5 with
    | zero => intro v3_5 v4_5 H locs ls h hP hD hS hl; exact loopF_0 h
    | succ j_5 ih_5 =>
      intro v3_5 v4_5 H locs ls h hP hD hS hl
      have h := loopF_s h
      unfold b_X6_tiesThatCount_5 at h
      refine lv_iload hx hb (dAt zX6_tiesThatCount_0 4 rfl) (lv_at hl 4 rfl) ?_
      refine lv_bipush (v := 10) hx hb (dAt zX6_tiesThatCount_0 5 rfl) (by decide) ?_
      refine lv_icmp_ge (tgt := 45) hx hb (dAt zX6_tiesThatCount_0 6 rfl) (by decide) (fun c_9 => ?_) (fun c_9 => ?_)
      · have h := q_pos c_9 h
        refine lv_iload_n hx hb (dAt zX6_tiesThatCount_0 24 rfl) rfl (lv_at hl 3 rfl) ?_
        obtain rfl := q_some h
        exact xRi hx hb hr hlocks hQ hAe hP hD hK hS rfl (dAt zX6_tiesThatCount_0 25 rfl)
      · have h := q_neg c_9 h
        refine lv_iload_n hx hb (dAt zX6_tiesThatCount_0 7 rfl) rfl (lv_at hl 3 rfl) ?_
        refine lv_iload_n hx hb (dAt zX6_tiesThatCount_0 8 rfl) rfl (lv_at hl 1 rfl) ?_
        refine lv_iload hx hb (dAt zX6_tiesThatCount_0 9 rfl) (lv_at hl 4 rfl) ?_
        obtain ⟨u16, hu16, h⟩ := q_bind h
        refine xFz (wc := ([] : va_W)) (w1 := ([] : va_W)) (wr := (w6 cI cJ cZ qS zS zL)) (ws2 := (w6 cI cJ cZ qS zS zL)) (va_runS (As := [.int a1, .int v4_5]) (rest := [.int v3_5]) ⟨hx, hb, hml, hown, htl⟩ (c_X6_has l D cI cJ cZ n  H.size  a1 v4_5 u16 hu16) (va_cwS 2 htl (gS W_407 W_408 W_5 W_409) rfl rfl rfl (by decide +kernel) ⟨Nat.le_of_ble_eq_true rfl, Nat.le_of_ble_eq_true rfl⟩) (xPS xP0 (xD0 A) hK hN) rfl rfl hl.1 rfl (lv_room (Nat.le_of_ble_eq_true rfl)) (dAt zX6_tiesThatCount_0 10 rfl) ⟨Nat.zero_le _, Nat.zero_le _⟩) hS hA hP hD [] [0, 1, 2, 3, 4, 5, 6, 7, 8, 9, 10, 11, 12, 13, 14, 15, 16] [0, 1, 2, 3, 4, 5, 6, 7, 8, 9, 10, 11, 12, 13, 14, 15, 16] rfl rfl (by decide) (by decide) rfl (by decide) (fun H locs hz16 hP hD hS => ?_)
        refine lv_if_eq (tgt := 36) hx hb (dAt zX6_tiesThatCount_0 11 rfl) (by decide) (fun c_19 => ?_) (fun c_19 => ?_)
        · have h := q_pos c_19 h
          refine lv_iconst (v := 0) hx hb (dAt zX6_tiesThatCount_0 19 rfl) (by decide) ?_
          refine lv_iadd hx hb (dAt zX6_tiesThatCount_0 20 rfl) ?_
          refine lv_istore_n (lv' := [(3, .int (v3_5 + (0 : Int32))), (0, .ref (qS 0)), (1, .int a1), (2, .int a2), (4, .int v4_5)]) hx hb (dAt zX6_tiesThatCount_0 21 rfl) rfl hl (by decide) rfl (fun ls hl => ?_)
          refine lv_iinc (v := (v4_5 + 1)) (lv' := [(4, .int (v4_5 + 1)), (3, .int (v3_5 + (0 : Int32))), (0, .ref (qS 0)), (1, .int a1), (2, .int a2)]) hx hb (dAt zX6_tiesThatCount_0 22 rfl) hl (k := 4) rfl rfl (by decide) rfl (fun ls hl => ?_)
          refine lv_goto (tgt := 5) hx hb (dAt zX6_tiesThatCount_0 23 rfl) (by decide) ?_
          exact ih_5 (v3_5 + (0 : Int32)) (v4_5 + 1) _ _ _ h hP hD hS (lv_sub hl [2, 3, 4, 1, 0] rfl)
        · have h := q_neg c_19 h
          refine lv_aload_n hx hb (dAt zX6_tiesThatCount_0 12 rfl) rfl (lv_at hl 0 rfl) ?_
          refine lv_iload_n hx hb (dAt zX6_tiesThatCount_0 13 rfl) rfl (lv_at hl 2 rfl) ?_
          refine lv_iload hx hb (dAt zX6_tiesThatCount_0 14 rfl) (lv_at hl 4 rfl) ?_
          obtain ⟨u26, hu26, h⟩ := q_bind h
          refine xFz (wc := (w6 cI cJ cZ qS zS zL)) (w1 := (w6 cI cJ cZ qS zS zL)) (wr := ([] : va_W)) (ws2 := (w6 cI cJ cZ qS zS zL)) (va_runV (As := [.int a2, .int v4_5]) (rest := [.int v3_5]) ⟨hx, hb, hml, hown, htl⟩ (c_X6_counts l D cI cJ cZ n qS H.size zS zL a2 v4_5 u26 hu26) (cwV 2 htl (gV W_447 W_448 W_449 W_5 W_450) rfl rfl rfl (by decide +kernel) ⟨Nat.le_of_ble_eq_true rfl, Nat.le_of_ble_eq_true rfl⟩) (xPV hP hD hK hN 0 rfl rfl) rfl rfl hl.1 rfl (lv_room (Nat.le_of_ble_eq_true rfl)) (dAt zX6_tiesThatCount_0 15 rfl) ⟨Nat.zero_le _, Nat.zero_le _⟩) hS hA hP hD [0, 1, 2, 3, 4, 5, 6, 7, 8, 9, 10, 11, 12, 13, 14, 15, 16] [] [0, 1, 2, 3, 4, 5, 6, 7, 8, 9, 10, 11, 12, 13, 14, 15, 16] rfl rfl (by decide) (by decide) rfl (by decide) (fun H locs hz26 hP hD hS => ?_)
          refine lv_if_eq (tgt := 36) hx hb (dAt zX6_tiesThatCount_0 16 rfl) (by decide) (fun c_29 => ?_) (fun c_29 => ?_)
          · have h := q_pos c_29 h
            refine lv_iconst (v := 0) hx hb (dAt zX6_tiesThatCount_0 19 rfl) (by decide) ?_
            refine lv_iadd hx hb (dAt zX6_tiesThatCount_0 20 rfl) ?_
            refine lv_istore_n (lv' := [(3, .int (v3_5 + (0 : Int32))), (0, .ref (qS 0)), (1, .int a1), (2, .int a2), (4, .int v4_5)]) hx hb (dAt zX6_tiesThatCount_0 21 rfl) rfl hl (by decide) rfl (fun ls hl => ?_)
            refine lv_iinc (v := (v4_5 + 1)) (lv' := [(4, .int (v4_5 + 1)), (3, .int (v3_5 + (0 : Int32))), (0, .ref (qS 0)), (1, .int a1), (2, .int a2)]) hx hb (dAt zX6_tiesThatCount_0 22 rfl) hl (k := 4) rfl rfl (by decide) rfl (fun ls hl => ?_)
            refine lv_goto (tgt := 5) hx hb (dAt zX6_tiesThatCount_0 23 rfl) (by decide) ?_
            exact ih_5 (v3_5 + (0 : Int32)) (v4_5 + 1) _ _ _ h hP hD hS (lv_sub hl [2, 3, 4, 1, 0] rfl)
          · have h := q_neg c_29 h
            refine lv_iconst (v := 1) hx hb (dAt zX6_tiesThatCount_0 17 rfl) (by decide) ?_
            refine lv_goto (tgt := 37) hx hb (dAt zX6_tiesThatCount_0 18 rfl) (by decide) ?_
            refine lv_iadd hx hb (dAt zX6_tiesThatCount_0 20 rfl) ?_
            refine lv_istore_n (lv' := [(3, .int (v3_5 + (1 : Int32))), (0, .ref (qS 0)), (1, .int a1), (2, .int a2), (4, .int v4_5)]) hx hb (dAt zX6_tiesThatCount_0 21 rfl) rfl hl (by decide) rfl (fun ls hl => ?_)
            refine lv_iinc (v := (v4_5 + 1)) (lv' := [(4, .int (v4_5 + 1)), (3, .int (v3_5 + (1 : Int32))), (0, .ref (qS 0)), (1, .int a1), (2, .int a2)]) hx hb (dAt zX6_tiesThatCount_0 22 rfl) hl (k := 4) rfl rfl (by decide) rfl (fun ls hl => ?_)
            refine lv_goto (tgt := 5) hx hb (dAt zX6_tiesThatCount_0 23 rfl) (by decide) ?_
            exact ih_5 (v3_5 + (1 : Int32)) (v4_5 + 1) _ _ _ h hP hD hS (lv_sub hl [2, 3, 4, 1, 0] rfl)
  exact L_5 n 0 0 _ _ _ h hP hD hS (lv_sub hl [2, 3, 4, 1, 0] rfl)
def m_X6_dogOf (n : Nat) (zS : TI) (zL : TL) (a1 : Int32) : Option Int32 := (if ((zS 6) 3) = 1 then ((m_X6_has n  (zS 0 1) a1).bind fun u15 => (if u15 = 0 then some 0 else some 1)) else some 0)
set_option maxHeartbeats 4000000 in
set_option maxRecDepth 100000 in
theorem c_X6_dogOf (l : Launch) (D : va_G) (cI cJ cZ : ClassId) (n : Nat) (qS : Nat → Nat) (sz : Nat) (zS : TI) (zL : TL) (a1 : Int32) (out : Int32) (hm : m_X6_dogOf n zS zL a1 = some out) : Met l yX6_dogOf (wsM yX6_dogOf cX6_dogOf 2 (some .int)) { frames := 1, cells := 0, slots := 0, locals := 21 } (xPre D (kT cI cJ cZ) (w6 cI cJ cZ qS zS zL) sz [.ref (qS 0), .int a1]) (xQi D (kT cI cJ cZ) (w6 cI cJ cZ qS zS zL) (w6 cI cJ cZ qS zS zL) sz out) 0 0 (va_A (w6 cI cJ cZ qS zS zL) sz) := by
  refine Met.ofW (cc := cX6_dogOf) (maxL := 2) (ret := (some .int)) (by decide) rfl ?_
  intro p e s m args below meth c s₁ B hml hv
  obtain ⟨hv, hsz, hP, hK, hD0, hN⟩ := hv
  have hx := B.exec; have hb := B.bytes; have hr := B.returns
  have hts := atoms_spec (ws := (wsM yX6_dogOf cX6_dogOf 2 (some .int))) B.pre
  have hown : s.vm.findClass RX6 = some m.cls := findClass_of_methodNamed B.named
  have hlocks := B.notSynchronized
  subst hsz
  have hD := hD0.self (sz := s.heap.size)
  obtain ⟨A, hAe⟩ : ∃ A, A = va_A (w6 cI cJ cZ qS zS zL) s.heap.size := ⟨_, rfl⟩
  rw [← hAe] at hD
  have hA : ∀ q : Nat, s.heap.size ≤ q → A q := fun q h => by rw [hAe]; exact Or.inr h
  have htl : ∀ w ∈ wsL_law, w.before args s = true := fun w h => hts w (List.mem_cons_of_mem _ h)
  refine xHead (R' := { frames := 1, cells := 0, slots := 0, locals := 21 }) rfl (fun Q H hQ hH => ?_)
  have hP : va_P D vwCl (w6 cI cJ cZ qS zS zL) H := by rw [hH]; exact hP
  have hS : va_S A s.heap H [] := by rw [hH]; exact va_S.rf
  refine xStart hv (Nat.le_of_ble_eq_true rfl) (lv := [(0, .ref (qS 0)), (1, .int a1)]) rfl (fun ls hl => ?_)
  have h := hm
  unfold m_X6_dogOf at h
  refine lv_aload_n hx hb (dAt zX6_dogOf_0 0 rfl) rfl (lv_at hl 0 rfl) ?_
  refine va_get (D := D) (ci := 6) (v := .ref (qS 6)) (C := RX6) (T := TX6) (N := 32) hx hb htl inlX6 hown hK hP 0 rfl rfl 5 (by decide) (htl _ W_87) (fun _ h9 => h9) rfl (dAt zX6_dogOf_0 1 rfl) ?_
  refine lv_iconst (v := 3) hx hb (dAt zX6_dogOf_0 2 rfl) (by decide) ?_
  refine va_iald hx hb hK hP 3 0 rfl rfl (q_inb (by decide)) (dAt zX6_dogOf_0 3 rfl) ?_
  refine lv_iconst (v := 1) hx hb (dAt zX6_dogOf_0 4 rfl) (by decide) ?_
  refine lv_icmp_ne (tgt := 25) hx hb (dAt zX6_dogOf_0 5 rfl) (by decide) (fun c_7 => ?_) (fun c_7 => ?_)
  · have h := q_neg c_7 h
    refine lv_iconst (v := 0) hx hb (dAt zX6_dogOf_0 13 rfl) (by decide) ?_
    obtain rfl := q_some h
    exact xRi hx hb hr hlocks hQ hAe hP hD hK hS rfl (dAt zX6_dogOf_0 14 rfl)
  · have h := q_pos c_7 h
    refine lv_aload_n hx hb (dAt zX6_dogOf_0 6 rfl) rfl (lv_at hl 0 rfl) ?_
    refine va_get (D := D) (ci := 6) (v := .int (zS 0 1)) (C := RX6) (T := TX6) (N := 32) hx hb htl inlX6 hown hK hP 0 rfl rfl 1 (by decide) (htl _ W_160) (fun _ h9 => h9) rfl (dAt zX6_dogOf_0 7 rfl) ?_
    refine lv_iload_n hx hb (dAt zX6_dogOf_0 8 rfl) rfl (lv_at hl 1 rfl) ?_
    obtain ⟨u15, hu15, h⟩ := q_bind h
    refine xFz (wc := ([] : va_W)) (w1 := ([] : va_W)) (wr := (w6 cI cJ cZ qS zS zL)) (ws2 := (w6 cI cJ cZ qS zS zL)) (va_runS (As := [.int (zS 0 1), .int a1]) (rest := []) ⟨hx, hb, hml, hown, htl⟩ (c_X6_has l D cI cJ cZ n  H.size  (zS 0 1) a1 u15 hu15) (va_cwS 2 htl (gS W_407 W_408 W_5 W_409) rfl rfl rfl (by decide +kernel) ⟨Nat.le_of_ble_eq_true rfl, Nat.le_of_ble_eq_true rfl⟩) (xPS xP0 (xD0 A) hK hN) rfl rfl hl.1 rfl (lv_room (Nat.le_of_ble_eq_true rfl)) (dAt zX6_dogOf_0 9 rfl) ⟨Nat.zero_le _, Nat.zero_le _⟩) hS hA hP hD [] [0, 1, 2, 3, 4, 5, 6, 7, 8, 9, 10, 11, 12, 13, 14, 15, 16] [0, 1, 2, 3, 4, 5, 6, 7, 8, 9, 10, 11, 12, 13, 14, 15, 16] rfl rfl (by decide) (by decide) rfl (by decide) (fun H locs hz15 hP hD hS => ?_)
    refine lv_if_eq (tgt := 25) hx hb (dAt zX6_dogOf_0 10 rfl) (by decide) (fun c_18 => ?_) (fun c_18 => ?_)
    · have h := q_pos c_18 h
      refine lv_iconst (v := 0) hx hb (dAt zX6_dogOf_0 13 rfl) (by decide) ?_
      obtain rfl := q_some h
      exact xRi hx hb hr hlocks hQ hAe hP hD hK hS rfl (dAt zX6_dogOf_0 14 rfl)
    · have h := q_neg c_18 h
      refine lv_iconst (v := 1) hx hb (dAt zX6_dogOf_0 11 rfl) (by decide) ?_
      refine lv_goto (tgt := 26) hx hb (dAt zX6_dogOf_0 12 rfl) (by decide) ?_
      obtain rfl := q_some h
      exact xRi hx hb hr hlocks hQ hAe hP hD hK hS rfl (dAt zX6_dogOf_0 14 rfl)
def m_X6_isMissedIn (n : Nat) (zS : TI) (zL : TL) (a1 : Int32) (a2 : Int32) : Option Int32 := ((m_X6_tiesThatCount n zS zL a1 a2).bind fun u3 => ((m_X6_dogOf n zS zL a2).bind fun u8 => (if (u3 + u8) < ((zS 6) 0) then some 0 else some 1)))
set_option maxHeartbeats 4000000 in
set_option maxRecDepth 100000 in
theorem c_X6_isMissedIn (l : Launch) (D : va_G) (cI cJ cZ : ClassId) (n : Nat) (qS : Nat → Nat) (sz : Nat) (zS : TI) (zL : TL) (a1 : Int32) (a2 : Int32) (out : Int32) (hm : m_X6_isMissedIn n zS zL a1 a2 = some out) : Met l yX6_isMissedIn (wsM yX6_isMissedIn cX6_isMissedIn 3 (some .boolean)) { frames := 2, cells := 0, slots := 0, locals := 47 } (xPre D (kT cI cJ cZ) (w6 cI cJ cZ qS zS zL) sz [.ref (qS 0), .int a1, .int a2]) (xQz D (kT cI cJ cZ) (w6 cI cJ cZ qS zS zL) (w6 cI cJ cZ qS zS zL) sz out) 0 0 (va_A (w6 cI cJ cZ qS zS zL) sz) := by
  refine Met.ofW (cc := cX6_isMissedIn) (maxL := 3) (ret := (some .boolean)) (by decide) rfl ?_
  intro p e s m args below meth c s₁ B hml hv
  obtain ⟨hv, hsz, hP, hK, hD0, hN⟩ := hv
  have hx := B.exec; have hb := B.bytes; have hr := B.returns
  have hts := atoms_spec (ws := (wsM yX6_isMissedIn cX6_isMissedIn 3 (some .boolean))) B.pre
  have hown : s.vm.findClass RX6 = some m.cls := findClass_of_methodNamed B.named
  have hlocks := B.notSynchronized
  subst hsz
  have hD := hD0.self (sz := s.heap.size)
  obtain ⟨A, hAe⟩ : ∃ A, A = va_A (w6 cI cJ cZ qS zS zL) s.heap.size := ⟨_, rfl⟩
  rw [← hAe] at hD
  have hA : ∀ q : Nat, s.heap.size ≤ q → A q := fun q h => by rw [hAe]; exact Or.inr h
  have htl : ∀ w ∈ wsL_law, w.before args s = true := fun w h => hts w (List.mem_cons_of_mem _ h)
  refine xHead (R' := { frames := 2, cells := 0, slots := 0, locals := 47 }) rfl (fun Q H hQ hH => ?_)
  have hP : va_P D vwCl (w6 cI cJ cZ qS zS zL) H := by rw [hH]; exact hP
  have hS : va_S A s.heap H [] := by rw [hH]; exact va_S.rf
  refine xStart hv (Nat.le_of_ble_eq_true rfl) (lv := [(0, .ref (qS 0)), (1, .int a1), (2, .int a2)]) rfl (fun ls hl => ?_)
  have h := hm
  unfold m_X6_isMissedIn at h
  refine lv_aload_n hx hb (dAt zX6_isMissedIn_0 0 rfl) rfl (lv_at hl 0 rfl) ?_
  refine lv_iload_n hx hb (dAt zX6_isMissedIn_0 1 rfl) rfl (lv_at hl 1 rfl) ?_
  refine lv_iload_n hx hb (dAt zX6_isMissedIn_0 2 rfl) rfl (lv_at hl 2 rfl) ?_
  obtain ⟨u3, hu3, h⟩ := q_bind h
  refine xFi (wc := (w6 cI cJ cZ qS zS zL)) (w1 := (w6 cI cJ cZ qS zS zL)) (wr := ([] : va_W)) (ws2 := (w6 cI cJ cZ qS zS zL)) (va_runV (As := [.int a1, .int a2]) (rest := []) ⟨hx, hb, hml, hown, htl⟩ (c_X6_tiesThatCount l D cI cJ cZ n qS H.size zS zL a1 a2 u3 hu3) (cwV 2 htl (gV W_443 W_444 W_445 W_5 W_446) rfl rfl rfl (by decide +kernel) ⟨Nat.le_of_ble_eq_true rfl, Nat.le_of_ble_eq_true rfl⟩) (xPV hP hD hK hN 0 rfl rfl) rfl rfl hl.1 rfl (lv_room (Nat.le_of_ble_eq_true rfl)) (dAt zX6_isMissedIn_0 3 rfl) ⟨Nat.zero_le _, Nat.zero_le _⟩) hS hA hP hD [0, 1, 2, 3, 4, 5, 6, 7, 8, 9, 10, 11, 12, 13, 14, 15, 16] [] [0, 1, 2, 3, 4, 5, 6, 7, 8, 9, 10, 11, 12, 13, 14, 15, 16] rfl rfl (by decide) (by decide) rfl (by decide) (fun H locs hP hD hS => ?_)
  refine lv_aload_n hx hb (dAt zX6_isMissedIn_0 4 rfl) rfl (lv_at hl 0 rfl) ?_
  refine lv_iload_n hx hb (dAt zX6_isMissedIn_0 5 rfl) rfl (lv_at hl 2 rfl) ?_
  obtain ⟨u8, hu8, h⟩ := q_bind h
  refine xFi (wc := (w6 cI cJ cZ qS zS zL)) (w1 := (w6 cI cJ cZ qS zS zL)) (wr := ([] : va_W)) (ws2 := (w6 cI cJ cZ qS zS zL)) (va_runV (As := [.int a2]) (rest := [.int u3]) ⟨hx, hb, hml, hown, htl⟩ (c_X6_dogOf l D cI cJ cZ n qS H.size zS zL a2 u8 hu8) (cwV 1 htl (gV W_451 W_452 W_453 W_5 W_454) rfl rfl rfl (by decide +kernel) ⟨Nat.le_of_ble_eq_true rfl, Nat.le_of_ble_eq_true rfl⟩) (xPV hP hD hK hN 0 rfl rfl) rfl rfl hl.1 rfl (lv_room (Nat.le_of_ble_eq_true rfl)) (dAt zX6_isMissedIn_0 6 rfl) ⟨Nat.zero_le _, Nat.zero_le _⟩) hS hA hP hD [0, 1, 2, 3, 4, 5, 6, 7, 8, 9, 10, 11, 12, 13, 14, 15, 16] [] [0, 1, 2, 3, 4, 5, 6, 7, 8, 9, 10, 11, 12, 13, 14, 15, 16] rfl rfl (by decide) (by decide) rfl (by decide) (fun H locs hP hD hS => ?_)
  refine lv_iadd hx hb (dAt zX6_isMissedIn_0 7 rfl) ?_
  refine lv_aload_n hx hb (dAt zX6_isMissedIn_0 8 rfl) rfl (lv_at hl 0 rfl) ?_
  refine va_get (D := D) (ci := 6) (v := .ref (qS 6)) (C := RX6) (T := TX6) (N := 32) hx hb htl inlX6 hown hK hP 0 rfl rfl 5 (by decide) (htl _ W_87) (fun _ h9 => h9) rfl (dAt zX6_isMissedIn_0 9 rfl) ?_
  refine lv_iconst (v := 0) hx hb (dAt zX6_isMissedIn_0 10 rfl) (by decide) ?_
  refine va_iald hx hb hK hP 3 0 rfl rfl (q_inb (by decide)) (dAt zX6_isMissedIn_0 11 rfl) ?_
  refine lv_icmp_lt (tgt := 25) hx hb (dAt zX6_isMissedIn_0 12 rfl) (by decide) (fun c_18 => ?_) (fun c_18 => ?_)
  · have h := q_pos c_18 h
    refine lv_iconst (v := 0) hx hb (dAt zX6_isMissedIn_0 15 rfl) (by decide) ?_
    obtain rfl := q_some h
    exact xRz hx hb hr hlocks hQ hAe hP hD hK hS rfl rfl (dAt zX6_isMissedIn_0 16 rfl)
  · have h := q_neg c_18 h
    refine lv_iconst (v := 1) hx hb (dAt zX6_isMissedIn_0 13 rfl) (by decide) ?_
    refine lv_goto (tgt := 26) hx hb (dAt zX6_isMissedIn_0 14 rfl) (by decide) ?_
    obtain rfl := q_some h
    exact xRz hx hb hr hlocks hQ hAe hP hD hK hS rfl rfl (dAt zX6_isMissedIn_0 16 rfl)
def b_X6_missedIn_4 (n : Nat) (zS : TI) (zL : TL) (a1 : Int32) (s_4 : Int32 × Int32) (k_4 : Int32 × Int32 → Option Int32) : Option Int32 := (if 10 ≤ s_4.2 then some s_4.1 else ((m_X6_has n  a1 s_4.2).bind fun u13 => (if u13 = 0 then (k_4 ((s_4.1 ||| (0 : Int32)), (s_4.2 + 1))) else ((m_X6_isMissedIn n zS zL a1 s_4.2).bind fun u22 => (if u22 = 0 then (k_4 ((s_4.1 ||| (0 : Int32)), (s_4.2 + 1))) else (k_4 ((s_4.1 ||| ((1 : Int32) <<< (s_4.2 &&& 31))), (s_4.2 + 1))))))))
def m_X6_missedIn (n : Nat) (zS : TI) (zL : TL) (a1 : Int32) : Option Int32 := (loopF (b_X6_missedIn_4 n zS zL a1 ) n (0, 0))
set_option maxHeartbeats 4000000 in
set_option maxRecDepth 100000 in
theorem c_X6_missedIn (l : Launch) (D : va_G) (cI cJ cZ : ClassId) (n : Nat) (qS : Nat → Nat) (sz : Nat) (zS : TI) (zL : TL) (a1 : Int32) (out : Int32) (hm : m_X6_missedIn n zS zL a1 = some out) : Met l yX6_missedIn (wsM yX6_missedIn cX6_missedIn 4 (some .int)) { frames := 3, cells := 0, slots := 0, locals := 69 } (xPre D (kT cI cJ cZ) (w6 cI cJ cZ qS zS zL) sz [.ref (qS 0), .int a1]) (xQi D (kT cI cJ cZ) (w6 cI cJ cZ qS zS zL) (w6 cI cJ cZ qS zS zL) sz out) 0 0 (va_A (w6 cI cJ cZ qS zS zL) sz) := by
  refine Met.ofW (cc := cX6_missedIn) (maxL := 4) (ret := (some .int)) (by decide) rfl ?_
  intro p e s m args below meth c s₁ B hml hv
  obtain ⟨hv, hsz, hP, hK, hD0, hN⟩ := hv
  have hx := B.exec; have hb := B.bytes; have hr := B.returns
  have hts := atoms_spec (ws := (wsM yX6_missedIn cX6_missedIn 4 (some .int))) B.pre
  have hown : s.vm.findClass RX6 = some m.cls := findClass_of_methodNamed B.named
  have hlocks := B.notSynchronized
  subst hsz
  have hD := hD0.self (sz := s.heap.size)
  obtain ⟨A, hAe⟩ : ∃ A, A = va_A (w6 cI cJ cZ qS zS zL) s.heap.size := ⟨_, rfl⟩
  rw [← hAe] at hD
  have hA : ∀ q : Nat, s.heap.size ≤ q → A q := fun q h => by rw [hAe]; exact Or.inr h
  have htl : ∀ w ∈ wsL_law, w.before args s = true := fun w h => hts w (List.mem_cons_of_mem _ h)
  refine xHead (R' := { frames := 3, cells := 0, slots := 0, locals := 69 }) rfl (fun Q H hQ hH => ?_)
  have hP : va_P D vwCl (w6 cI cJ cZ qS zS zL) H := by rw [hH]; exact hP
  have hS : va_S A s.heap H [] := by rw [hH]; exact va_S.rf
  refine xStart hv (Nat.le_of_ble_eq_true rfl) (lv := [(0, .ref (qS 0)), (1, .int a1)]) rfl (fun ls hl => ?_)
  have h := hm
  unfold m_X6_missedIn at h
  refine lv_iconst (v := 0) hx hb (dAt zX6_missedIn_0 0 rfl) (by decide) ?_
  refine lv_istore_n (lv' := [(2, .int 0), (0, .ref (qS 0)), (1, .int a1)]) hx hb (dAt zX6_missedIn_0 1 rfl) rfl hl (by decide) rfl (fun ls hl => ?_)
  refine lv_iconst (v := 0) hx hb (dAt zX6_missedIn_0 2 rfl) (by decide) ?_
  refine lv_istore_n (lv' := [(3, .int 0), (2, .int 0), (0, .ref (qS 0)), (1, .int a1)]) hx hb (dAt zX6_missedIn_0 3 rfl) rfl hl (by decide) rfl (fun ls hl => ?_)
  have L_4 : ∀ (j_4 : Nat) (v2_4 : Int32) (v3_4 : Int32) (H : Heap) (locs : List Loc) (ls : Array Slot), loopF (b_X6_missedIn_4 n zS zL a1) j_4 (v2_4, v3_4) = some out → va_P D vwCl (w6 cI cJ cZ qS zS zL) H → va_D A (w6 cI cJ cZ qS zS zL) → va_S A s.heap H locs → lv_has ls 4 [(0, .ref (qS 0)), (1, .int a1), (2, .int v2_4), (3, .int v3_4)] → W p l e { frames := 3, cells := 0, slots := 0, locals := 69 } s m args below meth c H locs 0 0 Q (F0 m 4 ls []) := by
    intro j_4
    induction j_4 with
    | zero => intro v2_4 v3_4 H locs ls h hP hD hS hl; exact loopF_0 h
    | succ j_4 ih_4 =>
      intro v2_4 v3_4 H locs ls h hP hD hS hl
      have h := loopF_s h
      unfold b_X6_missedIn_4 at h
      refine lv_iload_n hx hb (dAt zX6_missedIn_0 4 rfl) rfl (lv_at hl 3 rfl) ?_
      refine lv_bipush (v := 10) hx hb (dAt zX6_missedIn_0 5 rfl) (by decide) ?_
      refine lv_icmp_ge (tgt := 43) hx hb (dAt zX6_missedIn_0 6 rfl) (by decide) (fun c_7 => ?_) (fun c_7 => ?_)
      · have h := q_pos c_7 h
        refine lv_iload_n hx hb (dAt zX6_missedIn_0 26 rfl) rfl (lv_at hl 2 rfl) ?_
        obtain rfl := q_some h
        exact xRi hx hb hr hlocks hQ hAe hP hD hK hS rfl (dAt zX6_missedIn_0 27 rfl)
      · have h := q_neg c_7 h
        refine lv_iload_n hx hb (dAt zX6_missedIn_0 7 rfl) rfl (lv_at hl 2 rfl) ?_
        refine lv_iload_n hx hb (dAt zX6_missedIn_0 8 rfl) rfl (lv_at hl 1 rfl) ?_
        refine lv_iload_n hx hb (dAt zX6_missedIn_0 9 rfl) rfl (lv_at hl 3 rfl) ?_
        obtain ⟨u13, hu13, h⟩ := q_bind h
        refine xFz (wc := ([] : va_W)) (w1 := ([] : va_W)) (wr := (w6 cI cJ cZ qS zS zL)) (ws2 := (w6 cI cJ cZ qS zS zL)) (va_runS (As := [.int a1, .int v3_4]) (rest := [.int v2_4]) ⟨hx, hb, hml, hown, htl⟩ (c_X6_has l D cI cJ cZ n  H.size  a1 v3_4 u13 hu13) (va_cwS 2 htl (gS W_407 W_408 W_5 W_409) rfl rfl rfl (by decide +kernel) ⟨Nat.le_of_ble_eq_true rfl, Nat.le_of_ble_eq_true rfl⟩) (xPS xP0 (xD0 A) hK hN) rfl rfl hl.1 rfl (lv_room (Nat.le_of_ble_eq_true rfl)) (dAt zX6_missedIn_0 10 rfl) ⟨Nat.zero_le _, Nat.zero_le _⟩) hS hA hP hD [] [0, 1, 2, 3, 4, 5, 6, 7, 8, 9, 10, 11, 12, 13, 14, 15, 16] [0, 1, 2, 3, 4, 5, 6, 7, 8, 9, 10, 11, 12, 13, 14, 15, 16] rfl rfl (by decide) (by decide) rfl (by decide) (fun H locs hz13 hP hD hS => ?_)
        refine lv_if_eq (tgt := 34) hx hb (dAt zX6_missedIn_0 11 rfl) (by decide) (fun c_16 => ?_) (fun c_16 => ?_)
        · have h := q_pos c_16 h
          refine lv_iconst (v := 0) hx hb (dAt zX6_missedIn_0 21 rfl) (by decide) ?_
          refine lv_ior hx hb (dAt zX6_missedIn_0 22 rfl) ?_
          refine lv_istore_n (lv' := [(2, .int (v2_4 ||| (0 : Int32))), (0, .ref (qS 0)), (1, .int a1), (3, .int v3_4)]) hx hb (dAt zX6_missedIn_0 23 rfl) rfl hl (by decide) rfl (fun ls hl => ?_)
          refine lv_iinc (v := (v3_4 + 1)) (lv' := [(3, .int (v3_4 + 1)), (2, .int (v2_4 ||| (0 : Int32))), (0, .ref (qS 0)), (1, .int a1)]) hx hb (dAt zX6_missedIn_0 24 rfl) hl (k := 3) rfl rfl (by decide) rfl (fun ls hl => ?_)
          refine lv_goto (tgt := 4) hx hb (dAt zX6_missedIn_0 25 rfl) (by decide) ?_
          exact ih_4 (v2_4 ||| (0 : Int32)) (v3_4 + 1) _ _ _ h hP hD hS (lv_sub hl [2, 3, 1, 0] rfl)
        · have h := q_neg c_16 h
          refine lv_aload_n hx hb (dAt zX6_missedIn_0 12 rfl) rfl (lv_at hl 0 rfl) ?_
          refine lv_iload_n hx hb (dAt zX6_missedIn_0 13 rfl) rfl (lv_at hl 1 rfl) ?_
          refine lv_iload_n hx hb (dAt zX6_missedIn_0 14 rfl) rfl (lv_at hl 3 rfl) ?_
          obtain ⟨u22, hu22, h⟩ := q_bind h
          refine xFz (wc := (w6 cI cJ cZ qS zS zL)) (w1 := (w6 cI cJ cZ qS zS zL)) (wr := ([] : va_W)) (ws2 := (w6 cI cJ cZ qS zS zL)) (va_runV (As := [.int a1, .int v3_4]) (rest := [.int v2_4]) ⟨hx, hb, hml, hown, htl⟩ (c_X6_isMissedIn l D cI cJ cZ n qS H.size zS zL a1 v3_4 u22 hu22) (cwV 2 htl (gV W_439 W_440 W_441 W_5 W_442) rfl rfl rfl (by decide +kernel) ⟨Nat.le_of_ble_eq_true rfl, Nat.le_of_ble_eq_true rfl⟩) (xPV hP hD hK hN 0 rfl rfl) rfl rfl hl.1 rfl (lv_room (Nat.le_of_ble_eq_true rfl)) (dAt zX6_missedIn_0 15 rfl) ⟨Nat.zero_le _, Nat.zero_le _⟩) hS hA hP hD [0, 1, 2, 3, 4, 5, 6, 7, 8, 9, 10, 11, 12, 13, 14, 15, 16] [] [0, 1, 2, 3, 4, 5, 6, 7, 8, 9, 10, 11, 12, 13, 14, 15, 16] rfl rfl (by decide) (by decide) rfl (by decide) (fun H locs hz22 hP hD hS => ?_)
          refine lv_if_eq (tgt := 34) hx hb (dAt zX6_missedIn_0 16 rfl) (by decide) (fun c_25 => ?_) (fun c_25 => ?_)
          · have h := q_pos c_25 h
            refine lv_iconst (v := 0) hx hb (dAt zX6_missedIn_0 21 rfl) (by decide) ?_
            refine lv_ior hx hb (dAt zX6_missedIn_0 22 rfl) ?_
            refine lv_istore_n (lv' := [(2, .int (v2_4 ||| (0 : Int32))), (0, .ref (qS 0)), (1, .int a1), (3, .int v3_4)]) hx hb (dAt zX6_missedIn_0 23 rfl) rfl hl (by decide) rfl (fun ls hl => ?_)
            refine lv_iinc (v := (v3_4 + 1)) (lv' := [(3, .int (v3_4 + 1)), (2, .int (v2_4 ||| (0 : Int32))), (0, .ref (qS 0)), (1, .int a1)]) hx hb (dAt zX6_missedIn_0 24 rfl) hl (k := 3) rfl rfl (by decide) rfl (fun ls hl => ?_)
            refine lv_goto (tgt := 4) hx hb (dAt zX6_missedIn_0 25 rfl) (by decide) ?_
            exact ih_4 (v2_4 ||| (0 : Int32)) (v3_4 + 1) _ _ _ h hP hD hS (lv_sub hl [2, 3, 1, 0] rfl)
          · have h := q_neg c_25 h
            refine lv_iconst (v := 1) hx hb (dAt zX6_missedIn_0 17 rfl) (by decide) ?_
            refine lv_iload_n hx hb (dAt zX6_missedIn_0 18 rfl) rfl (lv_at hl 3 rfl) ?_
            refine lv_ishl hx hb (dAt zX6_missedIn_0 19 rfl) ?_
            refine lv_goto (tgt := 35) hx hb (dAt zX6_missedIn_0 20 rfl) (by decide) ?_
            refine lv_ior hx hb (dAt zX6_missedIn_0 22 rfl) ?_
            refine lv_istore_n (lv' := [(2, .int (v2_4 ||| ((1 : Int32) <<< (v3_4 &&& 31)))), (0, .ref (qS 0)), (1, .int a1), (3, .int v3_4)]) hx hb (dAt zX6_missedIn_0 23 rfl) rfl hl (by decide) rfl (fun ls hl => ?_)
            refine lv_iinc (v := (v3_4 + 1)) (lv' := [(3, .int (v3_4 + 1)), (2, .int (v2_4 ||| ((1 : Int32) <<< (v3_4 &&& 31)))), (0, .ref (qS 0)), (1, .int a1)]) hx hb (dAt zX6_missedIn_0 24 rfl) hl (k := 3) rfl rfl (by decide) rfl (fun ls hl => ?_)
            refine lv_goto (tgt := 4) hx hb (dAt zX6_missedIn_0 25 rfl) (by decide) ?_
            exact ih_4 (v2_4 ||| ((1 : Int32) <<< (v3_4 &&& 31))) (v3_4 + 1) _ _ _ h hP hD hS (lv_sub hl [2, 3, 1, 0] rfl)
  exact L_4 n 0 0 _ _ _ h hP hD hS (lv_sub hl [2, 3, 1, 0] rfl)
def m_X6_canFade (n : Nat) (zS : TI) (zL : TL) (a1 : Int32) (a2 : Int32) : Option Int32 := (if a2 ≤ a1 then some 0 else ((m_X6_has n  (zS 0 0) a1).bind fun u17 => (if u17 = 0 then some 0 else ((m_X6_has n  (zS 0 0) a2).bind fun u28 => (if u28 = 0 then some 0 else (gd (inB (((10 : Int32) * a1) + a2) 100) ((if ((zS 5) (Int32.toNatClampNeg (((10 : Int32) * a1) + a2))) = 3 then some 0 else (gd (inB (((10 : Int32) * a1) + a2) 100) ((if ((zS 4) (Int32.toNatClampNeg (((10 : Int32) * a1) + a2))) ≤ 0 then some 0 else some 1)))))))))))
set_option maxHeartbeats 4000000 in
set_option maxRecDepth 100000 in
theorem c_X6_canFade (l : Launch) (D : va_G) (cI cJ cZ : ClassId) (n : Nat) (qS : Nat → Nat) (sz : Nat) (zS : TI) (zL : TL) (a1 : Int32) (a2 : Int32) (out : Int32) (hm : m_X6_canFade n zS zL a1 a2 = some out) : Met l yX6_canFade (wsM yX6_canFade cX6_canFade 4 (some .boolean)) { frames := 1, cells := 0, slots := 0, locals := 21 } (xPre D (kT cI cJ cZ) (w6 cI cJ cZ qS zS zL) sz [.ref (qS 0), .int a1, .int a2]) (xQz D (kT cI cJ cZ) (w6 cI cJ cZ qS zS zL) (w6 cI cJ cZ qS zS zL) sz out) 0 0 (va_A (w6 cI cJ cZ qS zS zL) sz) := by
  refine Met.ofW (cc := cX6_canFade) (maxL := 4) (ret := (some .boolean)) (by decide) rfl ?_
  intro p e s m args below meth c s₁ B hml hv
  obtain ⟨hv, hsz, hP, hK, hD0, hN⟩ := hv
  have hx := B.exec; have hb := B.bytes; have hr := B.returns
  have hts := atoms_spec (ws := (wsM yX6_canFade cX6_canFade 4 (some .boolean))) B.pre
  have hown : s.vm.findClass RX6 = some m.cls := findClass_of_methodNamed B.named
  have hlocks := B.notSynchronized
  subst hsz
  have hD := hD0.self (sz := s.heap.size)
  obtain ⟨A, hAe⟩ : ∃ A, A = va_A (w6 cI cJ cZ qS zS zL) s.heap.size := ⟨_, rfl⟩
  rw [← hAe] at hD
  have hA : ∀ q : Nat, s.heap.size ≤ q → A q := fun q h => by rw [hAe]; exact Or.inr h
  have htl : ∀ w ∈ wsL_law, w.before args s = true := fun w h => hts w (List.mem_cons_of_mem _ h)
  refine xHead (R' := { frames := 1, cells := 0, slots := 0, locals := 21 }) rfl (fun Q H hQ hH => ?_)
  have hP : va_P D vwCl (w6 cI cJ cZ qS zS zL) H := by rw [hH]; exact hP
  have hS : va_S A s.heap H [] := by rw [hH]; exact va_S.rf
  refine xStart hv (Nat.le_of_ble_eq_true rfl) (lv := [(0, .ref (qS 0)), (1, .int a1), (2, .int a2)]) rfl (fun ls hl => ?_)
  have h := hm
  unfold m_X6_canFade at h
  refine lv_bipush (v := 10) hx hb (dAt zX6_canFade_0 0 rfl) (by decide) ?_
  refine lv_iload_n hx hb (dAt zX6_canFade_0 1 rfl) rfl (lv_at hl 1 rfl) ?_
  refine lv_imul hx hb (dAt zX6_canFade_0 2 rfl) ?_
  refine lv_iload_n hx hb (dAt zX6_canFade_0 3 rfl) rfl (lv_at hl 2 rfl) ?_
  refine lv_iadd hx hb (dAt zX6_canFade_0 4 rfl) ?_
  refine lv_istore_n (lv' := [(3, .int (((10 : Int32) * a1) + a2)), (0, .ref (qS 0)), (1, .int a1), (2, .int a2)]) hx hb (dAt zX6_canFade_0 5 rfl) rfl hl (by decide) rfl (fun ls hl => ?_)
  refine lv_iload_n hx hb (dAt zX6_canFade_0 6 rfl) rfl (lv_at hl 2 rfl) ?_
  refine lv_iload_n hx hb (dAt zX6_canFade_0 7 rfl) rfl (lv_at hl 3 rfl) ?_
  refine lv_icmp_ge (tgt := 57) hx hb (dAt zX6_canFade_0 8 rfl) (by decide) (fun c_9 => ?_) (fun c_9 => ?_)
  · have h := q_pos c_9 h
    refine lv_iconst (v := 0) hx hb (dAt zX6_canFade_0 32 rfl) (by decide) ?_
    obtain rfl := q_some h
    exact xRz hx hb hr hlocks hQ hAe hP hD hK hS rfl rfl (dAt zX6_canFade_0 33 rfl)
  · have h := q_neg c_9 h
    refine lv_aload_n hx hb (dAt zX6_canFade_0 9 rfl) rfl (lv_at hl 1 rfl) ?_
    refine va_get (D := D) (ci := 6) (v := .int (zS 0 0)) (C := RX6) (T := TX6) (N := 32) hx hb htl inlX6 hown hK hP 0 rfl rfl 0 (by decide) (htl _ W_102) (fun _ h9 => h9) rfl (dAt zX6_canFade_0 10 rfl) ?_
    refine lv_iload_n hx hb (dAt zX6_canFade_0 11 rfl) rfl (lv_at hl 2 rfl) ?_
    obtain ⟨u17, hu17, h⟩ := q_bind h
    refine xFz (wc := ([] : va_W)) (w1 := ([] : va_W)) (wr := (w6 cI cJ cZ qS zS zL)) (ws2 := (w6 cI cJ cZ qS zS zL)) (va_runS (As := [.int (zS 0 0), .int a1]) (rest := []) ⟨hx, hb, hml, hown, htl⟩ (c_X6_has l D cI cJ cZ n  H.size  (zS 0 0) a1 u17 hu17) (va_cwS 2 htl (gS W_407 W_408 W_5 W_409) rfl rfl rfl (by decide +kernel) ⟨Nat.le_of_ble_eq_true rfl, Nat.le_of_ble_eq_true rfl⟩) (xPS xP0 (xD0 A) hK hN) rfl rfl hl.1 rfl (lv_room (Nat.le_of_ble_eq_true rfl)) (dAt zX6_canFade_0 12 rfl) ⟨Nat.zero_le _, Nat.zero_le _⟩) hS hA hP hD [] [0, 1, 2, 3, 4, 5, 6, 7, 8, 9, 10, 11, 12, 13, 14, 15, 16] [0, 1, 2, 3, 4, 5, 6, 7, 8, 9, 10, 11, 12, 13, 14, 15, 16] rfl rfl (by decide) (by decide) rfl (by decide) (fun H locs hz17 hP hD hS => ?_)
    refine lv_if_eq (tgt := 57) hx hb (dAt zX6_canFade_0 13 rfl) (by decide) (fun c_20 => ?_) (fun c_20 => ?_)
    · have h := q_pos c_20 h
      refine lv_iconst (v := 0) hx hb (dAt zX6_canFade_0 32 rfl) (by decide) ?_
      obtain rfl := q_some h
      exact xRz hx hb hr hlocks hQ hAe hP hD hK hS rfl rfl (dAt zX6_canFade_0 33 rfl)
    · have h := q_neg c_20 h
      refine lv_aload_n hx hb (dAt zX6_canFade_0 14 rfl) rfl (lv_at hl 1 rfl) ?_
      refine va_get (D := D) (ci := 6) (v := .int (zS 0 0)) (C := RX6) (T := TX6) (N := 32) hx hb htl inlX6 hown hK hP 0 rfl rfl 0 (by decide) (htl _ W_102) (fun _ h9 => h9) rfl (dAt zX6_canFade_0 15 rfl) ?_
      refine lv_iload_n hx hb (dAt zX6_canFade_0 16 rfl) rfl (lv_at hl 3 rfl) ?_
      obtain ⟨u28, hu28, h⟩ := q_bind h
      refine xFz (wc := ([] : va_W)) (w1 := ([] : va_W)) (wr := (w6 cI cJ cZ qS zS zL)) (ws2 := (w6 cI cJ cZ qS zS zL)) (va_runS (As := [.int (zS 0 0), .int a2]) (rest := []) ⟨hx, hb, hml, hown, htl⟩ (c_X6_has l D cI cJ cZ n  H.size  (zS 0 0) a2 u28 hu28) (va_cwS 2 htl (gS W_407 W_408 W_5 W_409) rfl rfl rfl (by decide +kernel) ⟨Nat.le_of_ble_eq_true rfl, Nat.le_of_ble_eq_true rfl⟩) (xPS xP0 (xD0 A) hK hN) rfl rfl hl.1 rfl (lv_room (Nat.le_of_ble_eq_true rfl)) (dAt zX6_canFade_0 17 rfl) ⟨Nat.zero_le _, Nat.zero_le _⟩) hS hA hP hD [] [0, 1, 2, 3, 4, 5, 6, 7, 8, 9, 10, 11, 12, 13, 14, 15, 16] [0, 1, 2, 3, 4, 5, 6, 7, 8, 9, 10, 11, 12, 13, 14, 15, 16] rfl rfl (by decide) (by decide) rfl (by decide) (fun H locs hz28 hP hD hS => ?_)
      refine lv_if_eq (tgt := 57) hx hb (dAt zX6_canFade_0 18 rfl) (by decide) (fun c_31 => ?_) (fun c_31 => ?_)
      · have h := q_pos c_31 h
        refine lv_iconst (v := 0) hx hb (dAt zX6_canFade_0 32 rfl) (by decide) ?_
        obtain rfl := q_some h
        exact xRz hx hb hr hlocks hQ hAe hP hD hK hS rfl rfl (dAt zX6_canFade_0 33 rfl)
      · have h := q_neg c_31 h
        refine lv_aload_n hx hb (dAt zX6_canFade_0 19 rfl) rfl (lv_at hl 1 rfl) ?_
        refine va_get (D := D) (ci := 6) (v := .ref (qS 5)) (C := RX6) (T := TX6) (N := 32) hx hb htl inlX6 hown hK hP 0 rfl rfl 4 (by decide) (htl _ W_86) (fun _ h9 => h9) rfl (dAt zX6_canFade_0 20 rfl) ?_
        refine lv_iload_n hx hb (dAt zX6_canFade_0 21 rfl) rfl (lv_at hl 0 rfl) ?_
        obtain ⟨hi_39, h⟩ := q_in h
        refine va_iald hx hb hK hP 2 0 rfl rfl hi_39 (dAt zX6_canFade_0 22 rfl) ?_
        refine lv_iconst (v := 3) hx hb (dAt zX6_canFade_0 23 rfl) (by decide) ?_
        refine lv_icmp_eq (tgt := 57) hx hb (dAt zX6_canFade_0 24 rfl) (by decide) (fun c_41 => ?_) (fun c_41 => ?_)
        · have h := q_pos c_41 h
          refine lv_iconst (v := 0) hx hb (dAt zX6_canFade_0 32 rfl) (by decide) ?_
          obtain rfl := q_some h
          exact xRz hx hb hr hlocks hQ hAe hP hD hK hS rfl rfl (dAt zX6_canFade_0 33 rfl)
        · have h := q_neg c_41 h
          refine lv_aload_n hx hb (dAt zX6_canFade_0 25 rfl) rfl (lv_at hl 1 rfl) ?_
          refine va_get (D := D) (ci := 6) (v := .ref (qS 4)) (C := RX6) (T := TX6) (N := 32) hx hb htl inlX6 hown hK hP 0 rfl rfl 3 (by decide) (htl _ W_85) (fun _ h9 => h9) rfl (dAt zX6_canFade_0 26 rfl) ?_
          refine lv_iload_n hx hb (dAt zX6_canFade_0 27 rfl) rfl (lv_at hl 0 rfl) ?_
          obtain ⟨hi_49, h⟩ := q_in h
          refine va_iald hx hb hK hP 1 0 rfl rfl hi_49 (dAt zX6_canFade_0 28 rfl) ?_
          refine lv_if_le (tgt := 57) hx hb (dAt zX6_canFade_0 29 rfl) (by decide) (fun c_50 => ?_) (fun c_50 => ?_)
          · have h := q_pos c_50 h
            refine lv_iconst (v := 0) hx hb (dAt zX6_canFade_0 32 rfl) (by decide) ?_
            obtain rfl := q_some h
            exact xRz hx hb hr hlocks hQ hAe hP hD hK hS rfl rfl (dAt zX6_canFade_0 33 rfl)
          · have h := q_neg c_50 h
            refine lv_iconst (v := 1) hx hb (dAt zX6_canFade_0 30 rfl) (by decide) ?_
            refine lv_goto (tgt := 58) hx hb (dAt zX6_canFade_0 31 rfl) (by decide) ?_
            obtain rfl := q_some h
            exact xRz hx hb hr hlocks hQ hAe hP hD hK hS rfl rfl (dAt zX6_canFade_0 33 rfl)
def b_X6_canAnyFade_4 (n : Nat) (zS : TI) (zL : TL) (s_4 : Int32 × Int32) (k_4 : Int32 × Int32 → Option Int32) : Option Int32 := (if 100 ≤ s_4.2 then gd (isZ s_4.1) (some s_4.1) else (if s_4.1 = 0 then ((m_X6_canFade n zS zL (s_4.2 / (10 : Int32)) (jrem s_4.2 (10 : Int32))).bind fun u23 => (if u23 = 0 then (k_4 (0, (s_4.2 + 1))) else (k_4 (1, (s_4.2 + 1))))) else (k_4 (1, (s_4.2 + 1)))))
def m_X6_canAnyFade (n : Nat) (zS : TI) (zL : TL) : Option Int32 := (loopF (b_X6_canAnyFade_4 n zS zL ) n (0, 0))
set_option maxHeartbeats 4000000 in
set_option maxRecDepth 100000 in
theorem c_X6_canAnyFade (l : Launch) (D : va_G) (cI cJ cZ : ClassId) (n : Nat) (qS : Nat → Nat) (sz : Nat) (zS : TI) (zL : TL) (out : Int32) (hm : m_X6_canAnyFade n zS zL = some out) : Met l yX6_canAnyFade (wsM yX6_canAnyFade cX6_canAnyFade 3 (some .boolean)) { frames := 2, cells := 0, slots := 0, locals := 44 } (xPre D (kT cI cJ cZ) (w6 cI cJ cZ qS zS zL) sz [.ref (qS 0)]) (xQz D (kT cI cJ cZ) (w6 cI cJ cZ qS zS zL) (w6 cI cJ cZ qS zS zL) sz out) 0 0 (va_A (w6 cI cJ cZ qS zS zL) sz) := by
  refine Met.ofW (cc := cX6_canAnyFade) (maxL := 3) (ret := (some .boolean)) (by decide) rfl ?_
  intro p e s m args below meth c s₁ B hml hv
  obtain ⟨hv, hsz, hP, hK, hD0, hN⟩ := hv
  have hx := B.exec; have hb := B.bytes; have hr := B.returns
  have hts := atoms_spec (ws := (wsM yX6_canAnyFade cX6_canAnyFade 3 (some .boolean))) B.pre
  have hown : s.vm.findClass RX6 = some m.cls := findClass_of_methodNamed B.named
  have hlocks := B.notSynchronized
  subst hsz
  have hD := hD0.self (sz := s.heap.size)
  obtain ⟨A, hAe⟩ : ∃ A, A = va_A (w6 cI cJ cZ qS zS zL) s.heap.size := ⟨_, rfl⟩
  rw [← hAe] at hD
  have hA : ∀ q : Nat, s.heap.size ≤ q → A q := fun q h => by rw [hAe]; exact Or.inr h
  have htl : ∀ w ∈ wsL_law, w.before args s = true := fun w h => hts w (List.mem_cons_of_mem _ h)
  refine xHead (R' := { frames := 2, cells := 0, slots := 0, locals := 44 }) rfl (fun Q H hQ hH => ?_)
  have hP : va_P D vwCl (w6 cI cJ cZ qS zS zL) H := by rw [hH]; exact hP
  have hS : va_S A s.heap H [] := by rw [hH]; exact va_S.rf
  refine xStart hv (Nat.le_of_ble_eq_true rfl) (lv := [(0, .ref (qS 0))]) rfl (fun ls hl => ?_)
  have h := hm
  unfold m_X6_canAnyFade at h
  refine lv_iconst (v := 0) hx hb (dAt zX6_canAnyFade_0 0 rfl) (by decide) ?_
  refine lv_istore_n (lv' := [(1, .int 0), (0, .ref (qS 0))]) hx hb (dAt zX6_canAnyFade_0 1 rfl) rfl hl (by decide) rfl (fun ls hl => ?_)
  refine lv_iconst (v := 0) hx hb (dAt zX6_canAnyFade_0 2 rfl) (by decide) ?_
  refine lv_istore_n (lv' := [(2, .int 0), (1, .int 0), (0, .ref (qS 0))]) hx hb (dAt zX6_canAnyFade_0 3 rfl) rfl hl (by decide) rfl (fun ls hl => ?_)
  have L_4 : ∀ (j_4 : Nat) (v1_4 : Int32) (v2_4 : Int32) (H : Heap) (locs : List Loc) (ls : Array Slot), loopF (b_X6_canAnyFade_4 n zS zL) j_4 (v1_4, v2_4) = some out → va_P D vwCl (w6 cI cJ cZ qS zS zL) H → va_D A (w6 cI cJ cZ qS zS zL) → va_S A s.heap H locs → lv_has ls 3 [(0, .ref (qS 0)), (1, .int v1_4), (2, .int v2_4)] → W p l e { frames := 2, cells := 0, slots := 0, locals := 44 } s m args below meth c H locs 0 0 Q (F0 m 4 ls []) := by
    intro j_4
    induction j_4 with
    | zero => intro v1_4 v2_4 H locs ls h hP hD hS hl; exact loopF_0 h
    | succ j_4 ih_4 =>
      intro v1_4 v2_4 H locs ls h hP hD hS hl
      have h := loopF_s h
      unfold b_X6_canAnyFade_4 at h
      refine lv_iload_n hx hb (dAt zX6_canAnyFade_0 4 rfl) rfl (lv_at hl 2 rfl) ?_
      refine lv_bipush (v := 100) hx hb (dAt zX6_canAnyFade_0 5 rfl) (by decide) ?_
      refine lv_icmp_ge (tgt := 41) hx hb (dAt zX6_canAnyFade_0 6 rfl) (by decide) (fun c_7 => ?_) (fun c_7 => ?_)
      · have h := q_pos c_7 h
        refine lv_iload_n hx hb (dAt zX6_canAnyFade_0 24 rfl) rfl (lv_at hl 1 rfl) ?_
        obtain ⟨hzz, h⟩ := q_z h
        obtain rfl := q_some h
        exact xRz hx hb hr hlocks hQ hAe hP hD hK hS rfl hzz (dAt zX6_canAnyFade_0 25 rfl)
      · have h := q_neg c_7 h
        refine lv_iload_n hx hb (dAt zX6_canAnyFade_0 7 rfl) rfl (lv_at hl 1 rfl) ?_
        refine lv_if_ne (tgt := 29) hx hb (dAt zX6_canAnyFade_0 8 rfl) (by decide) (fun c_11 => ?_) (fun c_11 => ?_)
        · have h := q_neg c_11 h
          refine lv_iconst (v := 1) hx hb (dAt zX6_canAnyFade_0 18 rfl) (by decide) ?_
          refine lv_goto (tgt := 34) hx hb (dAt zX6_canAnyFade_0 19 rfl) (by decide) ?_
          refine lv_istore_n (lv' := [(1, .int 1), (0, .ref (qS 0)), (2, .int v2_4)]) hx hb (dAt zX6_canAnyFade_0 21 rfl) rfl hl (by decide) rfl (fun ls hl => ?_)
          refine lv_iinc (v := (v2_4 + 1)) (lv' := [(2, .int (v2_4 + 1)), (1, .int 1), (0, .ref (qS 0))]) hx hb (dAt zX6_canAnyFade_0 22 rfl) hl (k := 2) rfl rfl (by decide) rfl (fun ls hl => ?_)
          refine lv_goto (tgt := 4) hx hb (dAt zX6_canAnyFade_0 23 rfl) (by decide) ?_
          exact ih_4 1 (v2_4 + 1) _ _ _ h hP hD hS (lv_sub hl [2, 1, 0] rfl)
        · have h := q_pos c_11 h
          refine lv_aload_n hx hb (dAt zX6_canAnyFade_0 9 rfl) rfl (lv_at hl 0 rfl) ?_
          refine lv_iload_n hx hb (dAt zX6_canAnyFade_0 10 rfl) rfl (lv_at hl 2 rfl) ?_
          refine lv_bipush (v := 10) hx hb (dAt zX6_canAnyFade_0 11 rfl) (by decide) ?_
          refine lv_idiv hx hb (dAt zX6_canAnyFade_0 12 rfl) (by decide) ?_
          refine lv_iload_n hx hb (dAt zX6_canAnyFade_0 13 rfl) rfl (lv_at hl 2 rfl) ?_
          refine lv_bipush (v := 10) hx hb (dAt zX6_canAnyFade_0 14 rfl) (by decide) ?_
          refine lv_irem hx hb (dAt zX6_canAnyFade_0 15 rfl) (by decide) ?_
          obtain ⟨u23, hu23, h⟩ := q_bind h
          refine xFz (wc := (w6 cI cJ cZ qS zS zL)) (w1 := (w6 cI cJ cZ qS zS zL)) (wr := ([] : va_W)) (ws2 := (w6 cI cJ cZ qS zS zL)) (va_runV (As := [.int (v2_4 / (10 : Int32)), .int (jrem v2_4 (10 : Int32))]) (rest := []) ⟨hx, hb, hml, hown, htl⟩ (c_X6_canFade l D cI cJ cZ n qS H.size zS zL (v2_4 / (10 : Int32)) (jrem v2_4 (10 : Int32)) u23 hu23) (cwV 2 htl (gV W_403 W_404 W_405 W_5 W_406) rfl rfl rfl (by decide +kernel) ⟨Nat.le_of_ble_eq_true rfl, Nat.le_of_ble_eq_true rfl⟩) (xPV hP hD hK hN 0 rfl rfl) rfl rfl hl.1 rfl (lv_room (Nat.le_of_ble_eq_true rfl)) (dAt zX6_canAnyFade_0 16 rfl) ⟨Nat.zero_le _, Nat.zero_le _⟩) hS hA hP hD [0, 1, 2, 3, 4, 5, 6, 7, 8, 9, 10, 11, 12, 13, 14, 15, 16] [] [0, 1, 2, 3, 4, 5, 6, 7, 8, 9, 10, 11, 12, 13, 14, 15, 16] rfl rfl (by decide) (by decide) rfl (by decide) (fun H locs hz23 hP hD hS => ?_)
          refine lv_if_eq (tgt := 33) hx hb (dAt zX6_canAnyFade_0 17 rfl) (by decide) (fun c_26 => ?_) (fun c_26 => ?_)
          · have h := q_pos c_26 h
            refine lv_iconst (v := 0) hx hb (dAt zX6_canAnyFade_0 20 rfl) (by decide) ?_
            refine lv_istore_n (lv' := [(1, .int 0), (0, .ref (qS 0)), (2, .int v2_4)]) hx hb (dAt zX6_canAnyFade_0 21 rfl) rfl hl (by decide) rfl (fun ls hl => ?_)
            refine lv_iinc (v := (v2_4 + 1)) (lv' := [(2, .int (v2_4 + 1)), (1, .int 0), (0, .ref (qS 0))]) hx hb (dAt zX6_canAnyFade_0 22 rfl) hl (k := 2) rfl rfl (by decide) rfl (fun ls hl => ?_)
            refine lv_goto (tgt := 4) hx hb (dAt zX6_canAnyFade_0 23 rfl) (by decide) ?_
            exact ih_4 0 (v2_4 + 1) _ _ _ h hP hD hS (lv_sub hl [2, 1, 0] rfl)
          · have h := q_neg c_26 h
            refine lv_iconst (v := 1) hx hb (dAt zX6_canAnyFade_0 18 rfl) (by decide) ?_
            refine lv_goto (tgt := 34) hx hb (dAt zX6_canAnyFade_0 19 rfl) (by decide) ?_
            refine lv_istore_n (lv' := [(1, .int 1), (0, .ref (qS 0)), (2, .int v2_4)]) hx hb (dAt zX6_canAnyFade_0 21 rfl) rfl hl (by decide) rfl (fun ls hl => ?_)
            refine lv_iinc (v := (v2_4 + 1)) (lv' := [(2, .int (v2_4 + 1)), (1, .int 1), (0, .ref (qS 0))]) hx hb (dAt zX6_canAnyFade_0 22 rfl) hl (k := 2) rfl rfl (by decide) rfl (fun ls hl => ?_)
            refine lv_goto (tgt := 4) hx hb (dAt zX6_canAnyFade_0 23 rfl) (by decide) ?_
            exact ih_4 1 (v2_4 + 1) _ _ _ h hP hD hS (lv_sub hl [2, 1, 0] rfl)
  exact L_4 n 0 0 _ _ _ h hP hD hS (lv_sub hl [2, 1, 0] rfl)
def m_X6_whyNoTie (n : Nat) (zS : TI) (zL : TL) (a1 : Int32) (a2 : Int32) (a3 : Int32) : Option Int32 := ((m_X6_has n  (zS 0 0) a3).bind fun u5 => (if u5 = 0 then some 1 else (if a2 = a3 then some 2 else (if a1 = 0 then (gd (inB (((10 : Int32) * a2) + a3) 100) ((if ((zS 4) (Int32.toNatClampNeg (((10 : Int32) * a2) + a3))) = 9 then some 3 else some 0))) else (if a1 = 1 then (gd (inB (((10 : Int32) * a2) + a3) 100) ((if ((zS 4) (Int32.toNatClampNeg (((10 : Int32) * a2) + a3))) = 0 then some 3 else some 0))) else (gd (inB (((10 : Int32) * a2) + a3) 100) ((if ((zS 4) (Int32.toNatClampNeg (((10 : Int32) * a2) + a3))) = 9 then (gd (inB (((10 : Int32) * a2) + a3) 100) ((if ((zS 5) (Int32.toNatClampNeg (((10 : Int32) * a2) + a3))) = 3 then some 3 else some 0))) else some 0))))))))
set_option maxHeartbeats 4000000 in
set_option maxRecDepth 100000 in
theorem c_X6_whyNoTie (l : Launch) (D : va_G) (cI cJ cZ : ClassId) (n : Nat) (qS : Nat → Nat) (sz : Nat) (zS : TI) (zL : TL) (a1 : Int32) (a2 : Int32) (a3 : Int32) (out : Int32) (hm : m_X6_whyNoTie n zS zL a1 a2 a3 = some out) : Met l yX6_whyNoTie (wsM yX6_whyNoTie cX6_whyNoTie 6 (some .int)) { frames := 1, cells := 0, slots := 0, locals := 21 } (xPre D (kT cI cJ cZ) (w6 cI cJ cZ qS zS zL) sz [.ref (qS 0), .int a1, .int a2, .int a3]) (xQi D (kT cI cJ cZ) (w6 cI cJ cZ qS zS zL) (w6 cI cJ cZ qS zS zL) sz out) 0 0 (va_A (w6 cI cJ cZ qS zS zL) sz) := by
  refine Met.ofW (cc := cX6_whyNoTie) (maxL := 6) (ret := (some .int)) (by decide) rfl ?_
  intro p e s m args below meth c s₁ B hml hv
  obtain ⟨hv, hsz, hP, hK, hD0, hN⟩ := hv
  have hx := B.exec; have hb := B.bytes; have hr := B.returns
  have hts := atoms_spec (ws := (wsM yX6_whyNoTie cX6_whyNoTie 6 (some .int))) B.pre
  have hown : s.vm.findClass RX6 = some m.cls := findClass_of_methodNamed B.named
  have hlocks := B.notSynchronized
  subst hsz
  have hD := hD0.self (sz := s.heap.size)
  obtain ⟨A, hAe⟩ : ∃ A, A = va_A (w6 cI cJ cZ qS zS zL) s.heap.size := ⟨_, rfl⟩
  rw [← hAe] at hD
  have hA : ∀ q : Nat, s.heap.size ≤ q → A q := fun q h => by rw [hAe]; exact Or.inr h
  have htl : ∀ w ∈ wsL_law, w.before args s = true := fun w h => hts w (List.mem_cons_of_mem _ h)
  refine xHead (R' := { frames := 1, cells := 0, slots := 0, locals := 21 }) rfl (fun Q H hQ hH => ?_)
  have hP : va_P D vwCl (w6 cI cJ cZ qS zS zL) H := by rw [hH]; exact hP
  have hS : va_S A s.heap H [] := by rw [hH]; exact va_S.rf
  refine xStart hv (Nat.le_of_ble_eq_true rfl) (lv := [(0, .ref (qS 0)), (1, .int a1), (2, .int a2), (3, .int a3)]) rfl (fun ls hl => ?_)
  have h := hm
  unfold m_X6_whyNoTie at h
  refine lv_aload_n hx hb (dAt zX6_whyNoTie_0 0 rfl) rfl (lv_at hl 0 rfl) ?_
  refine va_get (D := D) (ci := 6) (v := .int (zS 0 0)) (C := RX6) (T := TX6) (N := 32) hx hb htl inlX6 hown hK hP 0 rfl rfl 0 (by decide) (htl _ W_102) (fun _ h9 => h9) rfl (dAt zX6_whyNoTie_0 1 rfl) ?_
  refine lv_iload_n hx hb (dAt zX6_whyNoTie_0 2 rfl) rfl (lv_at hl 3 rfl) ?_
  obtain ⟨u5, hu5, h⟩ := q_bind h
  refine xFz (wc := ([] : va_W)) (w1 := ([] : va_W)) (wr := (w6 cI cJ cZ qS zS zL)) (ws2 := (w6 cI cJ cZ qS zS zL)) (va_runS (As := [.int (zS 0 0), .int a3]) (rest := []) ⟨hx, hb, hml, hown, htl⟩ (c_X6_has l D cI cJ cZ n  H.size  (zS 0 0) a3 u5 hu5) (va_cwS 2 htl (gS W_407 W_408 W_5 W_409) rfl rfl rfl (by decide +kernel) ⟨Nat.le_of_ble_eq_true rfl, Nat.le_of_ble_eq_true rfl⟩) (xPS xP0 (xD0 A) hK hN) rfl rfl hl.1 rfl (lv_room (Nat.le_of_ble_eq_true rfl)) (dAt zX6_whyNoTie_0 3 rfl) ⟨Nat.zero_le _, Nat.zero_le _⟩) hS hA hP hD [] [0, 1, 2, 3, 4, 5, 6, 7, 8, 9, 10, 11, 12, 13, 14, 15, 16] [0, 1, 2, 3, 4, 5, 6, 7, 8, 9, 10, 11, 12, 13, 14, 15, 16] rfl rfl (by decide) (by decide) rfl (by decide) (fun H locs hz5 hP hD hS => ?_)
  refine lv_if_ne (tgt := 13) hx hb (dAt zX6_whyNoTie_0 4 rfl) (by decide) (fun c_8 => ?_) (fun c_8 => ?_)
  · have h := q_neg c_8 h
    refine lv_iload_n hx hb (dAt zX6_whyNoTie_0 7 rfl) rfl (lv_at hl 2 rfl) ?_
    refine lv_iload_n hx hb (dAt zX6_whyNoTie_0 8 rfl) rfl (lv_at hl 3 rfl) ?_
    refine lv_icmp_ne (tgt := 20) hx hb (dAt zX6_whyNoTie_0 9 rfl) (by decide) (fun c_15 => ?_) (fun c_15 => ?_)
    · have h := q_neg c_15 h
      refine lv_bipush (v := 10) hx hb (dAt zX6_whyNoTie_0 12 rfl) (by decide) ?_
      refine lv_iload_n hx hb (dAt zX6_whyNoTie_0 13 rfl) rfl (lv_at hl 2 rfl) ?_
      refine lv_imul hx hb (dAt zX6_whyNoTie_0 14 rfl) ?_
      refine lv_iload_n hx hb (dAt zX6_whyNoTie_0 15 rfl) rfl (lv_at hl 3 rfl) ?_
      refine lv_iadd hx hb (dAt zX6_whyNoTie_0 16 rfl) ?_
      refine lv_istore (lv' := [(4, .int (((10 : Int32) * a2) + a3)), (0, .ref (qS 0)), (1, .int a1), (2, .int a2), (3, .int a3)]) hx hb (dAt zX6_whyNoTie_0 17 rfl) hl (by decide) rfl (fun ls hl => ?_)
      refine lv_iload_n hx hb (dAt zX6_whyNoTie_0 18 rfl) rfl (lv_at hl 2 rfl) ?_
      refine lv_if_ne (tgt := 52) hx hb (dAt zX6_whyNoTie_0 19 rfl) (by decide) (fun c_29 => ?_) (fun c_29 => ?_)
      · have h := q_neg c_29 h
        refine lv_iload_n hx hb (dAt zX6_whyNoTie_0 30 rfl) rfl (lv_at hl 2 rfl) ?_
        refine lv_iconst (v := 1) hx hb (dAt zX6_whyNoTie_0 31 rfl) (by decide) ?_
        refine lv_icmp_ne (tgt := 75) hx hb (dAt zX6_whyNoTie_0 32 rfl) (by decide) (fun c_54 => ?_) (fun c_54 => ?_)
        · have h := q_neg c_54 h
          refine lv_aload_n hx hb (dAt zX6_whyNoTie_0 42 rfl) rfl (lv_at hl 1 rfl) ?_
          refine va_get (D := D) (ci := 6) (v := .ref (qS 4)) (C := RX6) (T := TX6) (N := 32) hx hb htl inlX6 hown hK hP 0 rfl rfl 3 (by decide) (htl _ W_85) (fun _ h9 => h9) rfl (dAt zX6_whyNoTie_0 43 rfl) ?_
          refine lv_iload hx hb (dAt zX6_whyNoTie_0 44 rfl) (lv_at hl 0 rfl) ?_
          obtain ⟨hi_81, h⟩ := q_in h
          refine va_iald hx hb hK hP 1 0 rfl rfl hi_81 (dAt zX6_whyNoTie_0 45 rfl) ?_
          refine lv_bipush (v := 9) hx hb (dAt zX6_whyNoTie_0 46 rfl) (by decide) ?_
          refine lv_icmp_ne (tgt := 102) hx hb (dAt zX6_whyNoTie_0 47 rfl) (by decide) (fun c_84 => ?_) (fun c_84 => ?_)
          · have h := q_neg c_84 h
            refine lv_iconst (v := 0) hx hb (dAt zX6_whyNoTie_0 56 rfl) (by decide) ?_
            refine lv_istore (lv' := [(5, .int 0), (4, .int (((10 : Int32) * a2) + a3)), (0, .ref (qS 0)), (1, .int a1), (2, .int a2), (3, .int a3)]) hx hb (dAt zX6_whyNoTie_0 57 rfl) hl (by decide) rfl (fun ls hl => ?_)
            refine lv_iload hx hb (dAt zX6_whyNoTie_0 58 rfl) (lv_at hl 0 rfl) ?_
            refine lv_if_eq (tgt := 114) hx hb (dAt zX6_whyNoTie_0 59 rfl) (by decide) (fun _ => ?_) (fun c => absurd (by decide) c)
            refine lv_iconst (v := 0) hx hb (dAt zX6_whyNoTie_0 62 rfl) (by decide) ?_
            obtain rfl := q_some h
            exact xRi hx hb hr hlocks hQ hAe hP hD hK hS rfl (dAt zX6_whyNoTie_0 63 rfl)
          · have h := q_pos c_84 h
            refine lv_aload_n hx hb (dAt zX6_whyNoTie_0 48 rfl) rfl (lv_at hl 1 rfl) ?_
            refine va_get (D := D) (ci := 6) (v := .ref (qS 5)) (C := RX6) (T := TX6) (N := 32) hx hb htl inlX6 hown hK hP 0 rfl rfl 4 (by decide) (htl _ W_86) (fun _ h9 => h9) rfl (dAt zX6_whyNoTie_0 49 rfl) ?_
            refine lv_iload hx hb (dAt zX6_whyNoTie_0 50 rfl) (lv_at hl 0 rfl) ?_
            obtain ⟨hi_93, h⟩ := q_in h
            refine va_iald hx hb hK hP 2 0 rfl rfl hi_93 (dAt zX6_whyNoTie_0 51 rfl) ?_
            refine lv_iconst (v := 3) hx hb (dAt zX6_whyNoTie_0 52 rfl) (by decide) ?_
            refine lv_icmp_ne (tgt := 102) hx hb (dAt zX6_whyNoTie_0 53 rfl) (by decide) (fun c_95 => ?_) (fun c_95 => ?_)
            · have h := q_neg c_95 h
              refine lv_iconst (v := 0) hx hb (dAt zX6_whyNoTie_0 56 rfl) (by decide) ?_
              refine lv_istore (lv' := [(5, .int 0), (4, .int (((10 : Int32) * a2) + a3)), (0, .ref (qS 0)), (1, .int a1), (2, .int a2), (3, .int a3)]) hx hb (dAt zX6_whyNoTie_0 57 rfl) hl (by decide) rfl (fun ls hl => ?_)
              refine lv_iload hx hb (dAt zX6_whyNoTie_0 58 rfl) (lv_at hl 0 rfl) ?_
              refine lv_if_eq (tgt := 114) hx hb (dAt zX6_whyNoTie_0 59 rfl) (by decide) (fun _ => ?_) (fun c => absurd (by decide) c)
              refine lv_iconst (v := 0) hx hb (dAt zX6_whyNoTie_0 62 rfl) (by decide) ?_
              obtain rfl := q_some h
              exact xRi hx hb hr hlocks hQ hAe hP hD hK hS rfl (dAt zX6_whyNoTie_0 63 rfl)
            · have h := q_pos c_95 h
              refine lv_iconst (v := 1) hx hb (dAt zX6_whyNoTie_0 54 rfl) (by decide) ?_
              refine lv_goto (tgt := 103) hx hb (dAt zX6_whyNoTie_0 55 rfl) (by decide) ?_
              refine lv_istore (lv' := [(5, .int 1), (4, .int (((10 : Int32) * a2) + a3)), (0, .ref (qS 0)), (1, .int a1), (2, .int a2), (3, .int a3)]) hx hb (dAt zX6_whyNoTie_0 57 rfl) hl (by decide) rfl (fun ls hl => ?_)
              refine lv_iload hx hb (dAt zX6_whyNoTie_0 58 rfl) (lv_at hl 0 rfl) ?_
              refine lv_if_eq (tgt := 114) hx hb (dAt zX6_whyNoTie_0 59 rfl) (by decide) (fun c => absurd c (by decide)) (fun _ => ?_)
              refine lv_iconst (v := 3) hx hb (dAt zX6_whyNoTie_0 60 rfl) (by decide) ?_
              refine lv_goto (tgt := 115) hx hb (dAt zX6_whyNoTie_0 61 rfl) (by decide) ?_
              obtain rfl := q_some h
              exact xRi hx hb hr hlocks hQ hAe hP hD hK hS rfl (dAt zX6_whyNoTie_0 63 rfl)
        · have h := q_pos c_54 h
          refine lv_aload_n hx hb (dAt zX6_whyNoTie_0 33 rfl) rfl (lv_at hl 1 rfl) ?_
          refine va_get (D := D) (ci := 6) (v := .ref (qS 4)) (C := RX6) (T := TX6) (N := 32) hx hb htl inlX6 hown hK hP 0 rfl rfl 3 (by decide) (htl _ W_85) (fun _ h9 => h9) rfl (dAt zX6_whyNoTie_0 34 rfl) ?_
          refine lv_iload hx hb (dAt zX6_whyNoTie_0 35 rfl) (lv_at hl 0 rfl) ?_
          obtain ⟨hi_63, h⟩ := q_in h
          refine va_iald hx hb hK hP 1 0 rfl rfl hi_63 (dAt zX6_whyNoTie_0 36 rfl) ?_
          refine lv_if_ne (tgt := 71) hx hb (dAt zX6_whyNoTie_0 37 rfl) (by decide) (fun c_64 => ?_) (fun c_64 => ?_)
          · have h := q_neg c_64 h
            refine lv_iconst (v := 0) hx hb (dAt zX6_whyNoTie_0 40 rfl) (by decide) ?_
            refine lv_goto (tgt := 103) hx hb (dAt zX6_whyNoTie_0 41 rfl) (by decide) ?_
            refine lv_istore (lv' := [(5, .int 0), (4, .int (((10 : Int32) * a2) + a3)), (0, .ref (qS 0)), (1, .int a1), (2, .int a2), (3, .int a3)]) hx hb (dAt zX6_whyNoTie_0 57 rfl) hl (by decide) rfl (fun ls hl => ?_)
            refine lv_iload hx hb (dAt zX6_whyNoTie_0 58 rfl) (lv_at hl 0 rfl) ?_
            refine lv_if_eq (tgt := 114) hx hb (dAt zX6_whyNoTie_0 59 rfl) (by decide) (fun _ => ?_) (fun c => absurd (by decide) c)
            refine lv_iconst (v := 0) hx hb (dAt zX6_whyNoTie_0 62 rfl) (by decide) ?_
            obtain rfl := q_some h
            exact xRi hx hb hr hlocks hQ hAe hP hD hK hS rfl (dAt zX6_whyNoTie_0 63 rfl)
          · have h := q_pos c_64 h
            refine lv_iconst (v := 1) hx hb (dAt zX6_whyNoTie_0 38 rfl) (by decide) ?_
            refine lv_goto (tgt := 103) hx hb (dAt zX6_whyNoTie_0 39 rfl) (by decide) ?_
            refine lv_istore (lv' := [(5, .int 1), (4, .int (((10 : Int32) * a2) + a3)), (0, .ref (qS 0)), (1, .int a1), (2, .int a2), (3, .int a3)]) hx hb (dAt zX6_whyNoTie_0 57 rfl) hl (by decide) rfl (fun ls hl => ?_)
            refine lv_iload hx hb (dAt zX6_whyNoTie_0 58 rfl) (lv_at hl 0 rfl) ?_
            refine lv_if_eq (tgt := 114) hx hb (dAt zX6_whyNoTie_0 59 rfl) (by decide) (fun c => absurd c (by decide)) (fun _ => ?_)
            refine lv_iconst (v := 3) hx hb (dAt zX6_whyNoTie_0 60 rfl) (by decide) ?_
            refine lv_goto (tgt := 115) hx hb (dAt zX6_whyNoTie_0 61 rfl) (by decide) ?_
            obtain rfl := q_some h
            exact xRi hx hb hr hlocks hQ hAe hP hD hK hS rfl (dAt zX6_whyNoTie_0 63 rfl)
      · have h := q_pos c_29 h
        refine lv_aload_n hx hb (dAt zX6_whyNoTie_0 20 rfl) rfl (lv_at hl 1 rfl) ?_
        refine va_get (D := D) (ci := 6) (v := .ref (qS 4)) (C := RX6) (T := TX6) (N := 32) hx hb htl inlX6 hown hK hP 0 rfl rfl 3 (by decide) (htl _ W_85) (fun _ h9 => h9) rfl (dAt zX6_whyNoTie_0 21 rfl) ?_
        refine lv_iload hx hb (dAt zX6_whyNoTie_0 22 rfl) (lv_at hl 0 rfl) ?_
        obtain ⟨hi_38, h⟩ := q_in h
        refine va_iald hx hb hK hP 1 0 rfl rfl hi_38 (dAt zX6_whyNoTie_0 23 rfl) ?_
        refine lv_bipush (v := 9) hx hb (dAt zX6_whyNoTie_0 24 rfl) (by decide) ?_
        refine lv_icmp_ne (tgt := 48) hx hb (dAt zX6_whyNoTie_0 25 rfl) (by decide) (fun c_41 => ?_) (fun c_41 => ?_)
        · have h := q_neg c_41 h
          refine lv_iconst (v := 0) hx hb (dAt zX6_whyNoTie_0 28 rfl) (by decide) ?_
          refine lv_goto (tgt := 103) hx hb (dAt zX6_whyNoTie_0 29 rfl) (by decide) ?_
          refine lv_istore (lv' := [(5, .int 0), (4, .int (((10 : Int32) * a2) + a3)), (0, .ref (qS 0)), (1, .int a1), (2, .int a2), (3, .int a3)]) hx hb (dAt zX6_whyNoTie_0 57 rfl) hl (by decide) rfl (fun ls hl => ?_)
          refine lv_iload hx hb (dAt zX6_whyNoTie_0 58 rfl) (lv_at hl 0 rfl) ?_
          refine lv_if_eq (tgt := 114) hx hb (dAt zX6_whyNoTie_0 59 rfl) (by decide) (fun _ => ?_) (fun c => absurd (by decide) c)
          refine lv_iconst (v := 0) hx hb (dAt zX6_whyNoTie_0 62 rfl) (by decide) ?_
          obtain rfl := q_some h
          exact xRi hx hb hr hlocks hQ hAe hP hD hK hS rfl (dAt zX6_whyNoTie_0 63 rfl)
        · have h := q_pos c_41 h
          refine lv_iconst (v := 1) hx hb (dAt zX6_whyNoTie_0 26 rfl) (by decide) ?_
          refine lv_goto (tgt := 103) hx hb (dAt zX6_whyNoTie_0 27 rfl) (by decide) ?_
          refine lv_istore (lv' := [(5, .int 1), (4, .int (((10 : Int32) * a2) + a3)), (0, .ref (qS 0)), (1, .int a1), (2, .int a2), (3, .int a3)]) hx hb (dAt zX6_whyNoTie_0 57 rfl) hl (by decide) rfl (fun ls hl => ?_)
          refine lv_iload hx hb (dAt zX6_whyNoTie_0 58 rfl) (lv_at hl 0 rfl) ?_
          refine lv_if_eq (tgt := 114) hx hb (dAt zX6_whyNoTie_0 59 rfl) (by decide) (fun c => absurd c (by decide)) (fun _ => ?_)
          refine lv_iconst (v := 3) hx hb (dAt zX6_whyNoTie_0 60 rfl) (by decide) ?_
          refine lv_goto (tgt := 115) hx hb (dAt zX6_whyNoTie_0 61 rfl) (by decide) ?_
          obtain rfl := q_some h
          exact xRi hx hb hr hlocks hQ hAe hP hD hK hS rfl (dAt zX6_whyNoTie_0 63 rfl)
    · have h := q_pos c_15 h
      refine lv_iconst (v := 2) hx hb (dAt zX6_whyNoTie_0 10 rfl) (by decide) ?_
      obtain rfl := q_some h
      exact xRi hx hb hr hlocks hQ hAe hP hD hK hS rfl (dAt zX6_whyNoTie_0 11 rfl)
  · have h := q_pos c_8 h
    refine lv_iconst (v := 1) hx hb (dAt zX6_whyNoTie_0 5 rfl) (by decide) ?_
    obtain rfl := q_some h
    exact xRi hx hb hr hlocks hQ hAe hP hD hK hS rfl (dAt zX6_whyNoTie_0 6 rfl)
def m_X6_whyNot (n : Nat) (zS : TI) (zL : TL) (a1 : Int32) (a2 : Int32) (a3 : Int32) : Option Int32 := (if a1 = 5 then (if (zS 0 2) = 0 then some 4 else some 0) else (if a1 = 6 then ((m_X6_canAnyFade n zS zL).bind fun u25 => (if u25 = 0 then some 5 else some 0)) else ((m_X6_has n  (zS 0 0) a2).bind fun u42 => (if u42 = 0 then some 1 else (if 3 ≤ a1 then some 0 else ((m_X6_whyNoTie n zS zL a1 a2 a3).bind fun u59 => some u59))))))
set_option maxHeartbeats 4000000 in
set_option maxRecDepth 100000 in
theorem c_X6_whyNot (l : Launch) (D : va_G) (cI cJ cZ : ClassId) (n : Nat) (qS : Nat → Nat) (sz : Nat) (zS : TI) (zL : TL) (a1 : Int32) (a2 : Int32) (a3 : Int32) (out : Int32) (hm : m_X6_whyNot n zS zL a1 a2 a3 = some out) : Met l yX6_whyNot (wsM yX6_whyNot cX6_whyNot 4 (some .int)) { frames := 3, cells := 0, slots := 0, locals := 66 } (xPre D (kT cI cJ cZ) (w6 cI cJ cZ qS zS zL) sz [.ref (qS 0), .int a1, .int a2, .int a3]) (xQi D (kT cI cJ cZ) (w6 cI cJ cZ qS zS zL) (w6 cI cJ cZ qS zS zL) sz out) 0 0 (va_A (w6 cI cJ cZ qS zS zL) sz) := by
  refine Met.ofW (cc := cX6_whyNot) (maxL := 4) (ret := (some .int)) (by decide) rfl ?_
  intro p e s m args below meth c s₁ B hml hv
  obtain ⟨hv, hsz, hP, hK, hD0, hN⟩ := hv
  have hx := B.exec; have hb := B.bytes; have hr := B.returns
  have hts := atoms_spec (ws := (wsM yX6_whyNot cX6_whyNot 4 (some .int))) B.pre
  have hown : s.vm.findClass RX6 = some m.cls := findClass_of_methodNamed B.named
  have hlocks := B.notSynchronized
  subst hsz
  have hD := hD0.self (sz := s.heap.size)
  obtain ⟨A, hAe⟩ : ∃ A, A = va_A (w6 cI cJ cZ qS zS zL) s.heap.size := ⟨_, rfl⟩
  rw [← hAe] at hD
  have hA : ∀ q : Nat, s.heap.size ≤ q → A q := fun q h => by rw [hAe]; exact Or.inr h
  have htl : ∀ w ∈ wsL_law, w.before args s = true := fun w h => hts w (List.mem_cons_of_mem _ h)
  refine xHead (R' := { frames := 3, cells := 0, slots := 0, locals := 66 }) rfl (fun Q H hQ hH => ?_)
  have hP : va_P D vwCl (w6 cI cJ cZ qS zS zL) H := by rw [hH]; exact hP
  have hS : va_S A s.heap H [] := by rw [hH]; exact va_S.rf
  refine xStart hv (Nat.le_of_ble_eq_true rfl) (lv := [(0, .ref (qS 0)), (1, .int a1), (2, .int a2), (3, .int a3)]) rfl (fun ls hl => ?_)
  have h := hm
  unfold m_X6_whyNot at h
  refine lv_iload_n hx hb (dAt zX6_whyNot_0 0 rfl) rfl (lv_at hl 1 rfl) ?_
  refine lv_iconst (v := 5) hx hb (dAt zX6_whyNot_0 1 rfl) (by decide) ?_
  refine lv_icmp_ne (tgt := 18) hx hb (dAt zX6_whyNot_0 2 rfl) (by decide) (fun c_2 => ?_) (fun c_2 => ?_)
  · have h := q_neg c_2 h
    refine lv_iload_n hx hb (dAt zX6_whyNot_0 10 rfl) rfl (lv_at hl 1 rfl) ?_
    refine lv_bipush (v := 6) hx hb (dAt zX6_whyNot_0 11 rfl) (by decide) ?_
    refine lv_icmp_ne (tgt := 37) hx hb (dAt zX6_whyNot_0 12 rfl) (by decide) (fun c_21 => ?_) (fun c_21 => ?_)
    · have h := q_neg c_21 h
      refine lv_aload_n hx hb (dAt zX6_whyNot_0 20 rfl) rfl (lv_at hl 0 rfl) ?_
      refine va_get (D := D) (ci := 6) (v := .int (zS 0 0)) (C := RX6) (T := TX6) (N := 32) hx hb htl inlX6 hown hK hP 0 rfl rfl 0 (by decide) (htl _ W_102) (fun _ h9 => h9) rfl (dAt zX6_whyNot_0 21 rfl) ?_
      refine lv_iload_n hx hb (dAt zX6_whyNot_0 22 rfl) rfl (lv_at hl 2 rfl) ?_
      obtain ⟨u42, hu42, h⟩ := q_bind h
      refine xFz (wc := ([] : va_W)) (w1 := ([] : va_W)) (wr := (w6 cI cJ cZ qS zS zL)) (ws2 := (w6 cI cJ cZ qS zS zL)) (va_runS (As := [.int (zS 0 0), .int a2]) (rest := []) ⟨hx, hb, hml, hown, htl⟩ (c_X6_has l D cI cJ cZ n  H.size  (zS 0 0) a2 u42 hu42) (va_cwS 2 htl (gS W_407 W_408 W_5 W_409) rfl rfl rfl (by decide +kernel) ⟨Nat.le_of_ble_eq_true rfl, Nat.le_of_ble_eq_true rfl⟩) (xPS xP0 (xD0 A) hK hN) rfl rfl hl.1 rfl (lv_room (Nat.le_of_ble_eq_true rfl)) (dAt zX6_whyNot_0 23 rfl) ⟨Nat.zero_le _, Nat.zero_le _⟩) hS hA hP hD [] [0, 1, 2, 3, 4, 5, 6, 7, 8, 9, 10, 11, 12, 13, 14, 15, 16] [0, 1, 2, 3, 4, 5, 6, 7, 8, 9, 10, 11, 12, 13, 14, 15, 16] rfl rfl (by decide) (by decide) rfl (by decide) (fun H locs hz42 hP hD hS => ?_)
      refine lv_if_ne (tgt := 50) hx hb (dAt zX6_whyNot_0 24 rfl) (by decide) (fun c_45 => ?_) (fun c_45 => ?_)
      · have h := q_neg c_45 h
        refine lv_iload_n hx hb (dAt zX6_whyNot_0 27 rfl) rfl (lv_at hl 1 rfl) ?_
        refine lv_iconst (v := 3) hx hb (dAt zX6_whyNot_0 28 rfl) (by decide) ?_
        refine lv_icmp_ge (tgt := 65) hx hb (dAt zX6_whyNot_0 29 rfl) (by decide) (fun c_52 => ?_) (fun c_52 => ?_)
        · have h := q_pos c_52 h
          refine lv_iconst (v := 0) hx hb (dAt zX6_whyNot_0 36 rfl) (by decide) ?_
          obtain rfl := q_some h
          exact xRi hx hb hr hlocks hQ hAe hP hD hK hS rfl (dAt zX6_whyNot_0 37 rfl)
        · have h := q_neg c_52 h
          refine lv_aload_n hx hb (dAt zX6_whyNot_0 30 rfl) rfl (lv_at hl 0 rfl) ?_
          refine lv_iload_n hx hb (dAt zX6_whyNot_0 31 rfl) rfl (lv_at hl 1 rfl) ?_
          refine lv_iload_n hx hb (dAt zX6_whyNot_0 32 rfl) rfl (lv_at hl 2 rfl) ?_
          refine lv_iload_n hx hb (dAt zX6_whyNot_0 33 rfl) rfl (lv_at hl 3 rfl) ?_
          obtain ⟨u59, hu59, h⟩ := q_bind h
          refine xFi (wc := (w6 cI cJ cZ qS zS zL)) (w1 := (w6 cI cJ cZ qS zS zL)) (wr := ([] : va_W)) (ws2 := (w6 cI cJ cZ qS zS zL)) (va_runV (As := [.int a1, .int a2, .int a3]) (rest := []) ⟨hx, hb, hml, hown, htl⟩ (c_X6_whyNoTie l D cI cJ cZ n qS H.size zS zL a1 a2 a3 u59 hu59) (cwV 3 htl (gV W_410 W_411 W_412 W_5 W_413) rfl rfl rfl (by decide +kernel) ⟨Nat.le_of_ble_eq_true rfl, Nat.le_of_ble_eq_true rfl⟩) (xPV hP hD hK hN 0 rfl rfl) rfl rfl hl.1 rfl (lv_room (Nat.le_of_ble_eq_true rfl)) (dAt zX6_whyNot_0 34 rfl) ⟨Nat.zero_le _, Nat.zero_le _⟩) hS hA hP hD [0, 1, 2, 3, 4, 5, 6, 7, 8, 9, 10, 11, 12, 13, 14, 15, 16] [] [0, 1, 2, 3, 4, 5, 6, 7, 8, 9, 10, 11, 12, 13, 14, 15, 16] rfl rfl (by decide) (by decide) rfl (by decide) (fun H locs hP hD hS => ?_)
          refine lv_goto (tgt := 66) hx hb (dAt zX6_whyNot_0 35 rfl) (by decide) ?_
          obtain rfl := q_some h
          exact xRi hx hb hr hlocks hQ hAe hP hD hK hS rfl (dAt zX6_whyNot_0 37 rfl)
      · have h := q_pos c_45 h
        refine lv_iconst (v := 1) hx hb (dAt zX6_whyNot_0 25 rfl) (by decide) ?_
        obtain rfl := q_some h
        exact xRi hx hb hr hlocks hQ hAe hP hD hK hS rfl (dAt zX6_whyNot_0 26 rfl)
    · have h := q_pos c_21 h
      refine lv_aload_n hx hb (dAt zX6_whyNot_0 13 rfl) rfl (lv_at hl 0 rfl) ?_
      obtain ⟨u25, hu25, h⟩ := q_bind h
      refine xFz (wc := (w6 cI cJ cZ qS zS zL)) (w1 := (w6 cI cJ cZ qS zS zL)) (wr := ([] : va_W)) (ws2 := (w6 cI cJ cZ qS zS zL)) (va_runV (As := []) (rest := []) ⟨hx, hb, hml, hown, htl⟩ (c_X6_canAnyFade l D cI cJ cZ n qS H.size zS zL  u25 hu25) (cwV 0 htl (gV W_399 W_400 W_401 W_5 W_402) rfl rfl rfl (by decide +kernel) ⟨Nat.le_of_ble_eq_true rfl, Nat.le_of_ble_eq_true rfl⟩) (xPV hP hD hK hN 0 rfl rfl) rfl rfl hl.1 rfl (lv_room (Nat.le_of_ble_eq_true rfl)) (dAt zX6_whyNot_0 14 rfl) ⟨Nat.zero_le _, Nat.zero_le _⟩) hS hA hP hD [0, 1, 2, 3, 4, 5, 6, 7, 8, 9, 10, 11, 12, 13, 14, 15, 16] [] [0, 1, 2, 3, 4, 5, 6, 7, 8, 9, 10, 11, 12, 13, 14, 15, 16] rfl rfl (by decide) (by decide) rfl (by decide) (fun H locs hz25 hP hD hS => ?_)
      refine lv_if_eq (tgt := 35) hx hb (dAt zX6_whyNot_0 15 rfl) (by decide) (fun c_28 => ?_) (fun c_28 => ?_)
      · have h := q_pos c_28 h
        refine lv_iconst (v := 5) hx hb (dAt zX6_whyNot_0 18 rfl) (by decide) ?_
        obtain rfl := q_some h
        exact xRi hx hb hr hlocks hQ hAe hP hD hK hS rfl (dAt zX6_whyNot_0 19 rfl)
      · have h := q_neg c_28 h
        refine lv_iconst (v := 0) hx hb (dAt zX6_whyNot_0 16 rfl) (by decide) ?_
        refine lv_goto (tgt := 36) hx hb (dAt zX6_whyNot_0 17 rfl) (by decide) ?_
        obtain rfl := q_some h
        exact xRi hx hb hr hlocks hQ hAe hP hD hK hS rfl (dAt zX6_whyNot_0 19 rfl)
  · have h := q_pos c_2 h
    refine lv_aload_n hx hb (dAt zX6_whyNot_0 3 rfl) rfl (lv_at hl 0 rfl) ?_
    refine va_get (D := D) (ci := 6) (v := .int (zS 0 2)) (C := RX6) (T := TX6) (N := 32) hx hb htl inlX6 hown hK hP 0 rfl rfl 2 (by decide) (htl _ W_161) (fun _ h9 => h9) rfl (dAt zX6_whyNot_0 4 rfl) ?_
    refine lv_if_ne (tgt := 16) hx hb (dAt zX6_whyNot_0 5 rfl) (by decide) (fun c_9 => ?_) (fun c_9 => ?_)
    · have h := q_neg c_9 h
      refine lv_iconst (v := 0) hx hb (dAt zX6_whyNot_0 8 rfl) (by decide) ?_
      obtain rfl := q_some h
      exact xRi hx hb hr hlocks hQ hAe hP hD hK hS rfl (dAt zX6_whyNot_0 9 rfl)
    · have h := q_pos c_9 h
      refine lv_iconst (v := 4) hx hb (dAt zX6_whyNot_0 6 rfl) (by decide) ?_
      refine lv_goto (tgt := 17) hx hb (dAt zX6_whyNot_0 7 rfl) (by decide) ?_
      obtain rfl := q_some h
      exact xRi hx hb hr hlocks hQ hAe hP hD hK hS rfl (dAt zX6_whyNot_0 9 rfl)
def b_X6_tiesBetween_5 (n : Nat) (zS : TI) (a1 : Int32) (a2 : Int32) (s_5 : Int32 × Int32) (k_5 : Int32 × Int32 → Option Int32) : Option Int32 := (if 100 ≤ s_5.2 then some s_5.1 else ((m_X6_has n  a1 (s_5.2 / (10 : Int32))).bind fun u19 => (if u19 = 0 then (k_5 ((s_5.1 + (0 : Int32)), (s_5.2 + 1))) else ((m_X6_has n  a2 (jrem s_5.2 (10 : Int32))).bind fun u31 => (if u31 = 0 then (k_5 ((s_5.1 + (0 : Int32)), (s_5.2 + 1))) else (gd (inB s_5.2 100) ((k_5 ((s_5.1 + ((zS 4) (Int32.toNatClampNeg s_5.2))), (s_5.2 + 1))))))))))
def m_X6_tiesBetween (n : Nat) (zS : TI) (zL : TL) (a1 : Int32) (a2 : Int32) : Option Int32 := (loopF (b_X6_tiesBetween_5 n zS a1 a2 ) n (0, 0))
set_option maxHeartbeats 4000000 in
set_option maxRecDepth 100000 in
theorem c_X6_tiesBetween (l : Launch) (D : va_G) (cI cJ cZ : ClassId) (n : Nat) (qS : Nat → Nat) (sz : Nat) (zS : TI) (zL : TL) (a1 : Int32) (a2 : Int32) (out : Int32) (hm : m_X6_tiesBetween n zS zL a1 a2 = some out) : Met l yX6_tiesBetween (wsM yX6_tiesBetween cX6_tiesBetween 5 (some .int)) { frames := 1, cells := 0, slots := 0, locals := 21 } (xPre D (kT cI cJ cZ) (w6 cI cJ cZ qS zS zL) sz [.ref (qS 0), .int a1, .int a2]) (xQi D (kT cI cJ cZ) (w6 cI cJ cZ qS zS zL) (w6 cI cJ cZ qS zS zL) sz out) 0 0 (va_A (w6 cI cJ cZ qS zS zL) sz) := by
  refine Met.ofW (cc := cX6_tiesBetween) (maxL := 5) (ret := (some .int)) (by decide) rfl ?_
  intro p e s m args below meth c s₁ B hml hv
  obtain ⟨hv, hsz, hP, hK, hD0, hN⟩ := hv
  have hx := B.exec; have hb := B.bytes; have hr := B.returns
  have hts := atoms_spec (ws := (wsM yX6_tiesBetween cX6_tiesBetween 5 (some .int))) B.pre
  have hown : s.vm.findClass RX6 = some m.cls := findClass_of_methodNamed B.named
  have hlocks := B.notSynchronized
  subst hsz
  have hD := hD0.self (sz := s.heap.size)
  obtain ⟨A, hAe⟩ : ∃ A, A = va_A (w6 cI cJ cZ qS zS zL) s.heap.size := ⟨_, rfl⟩
  rw [← hAe] at hD
  have hA : ∀ q : Nat, s.heap.size ≤ q → A q := fun q h => by rw [hAe]; exact Or.inr h
  have htl : ∀ w ∈ wsL_law, w.before args s = true := fun w h => hts w (List.mem_cons_of_mem _ h)
  refine xHead (R' := { frames := 1, cells := 0, slots := 0, locals := 21 }) rfl (fun Q H hQ hH => ?_)
  have hP : va_P D vwCl (w6 cI cJ cZ qS zS zL) H := by rw [hH]; exact hP
  have hS : va_S A s.heap H [] := by rw [hH]; exact va_S.rf
  refine xStart hv (Nat.le_of_ble_eq_true rfl) (lv := [(0, .ref (qS 0)), (1, .int a1), (2, .int a2)]) rfl (fun ls hl => ?_)
  have h := hm
  unfold m_X6_tiesBetween at h
  refine lv_iconst (v := 0) hx hb (dAt zX6_tiesBetween_0 0 rfl) (by decide) ?_
  refine lv_istore_n (lv' := [(3, .int 0), (0, .ref (qS 0)), (1, .int a1), (2, .int a2)]) hx hb (dAt zX6_tiesBetween_0 1 rfl) rfl hl (by decide) rfl (fun ls hl => ?_)
  refine lv_iconst (v := 0) hx hb (dAt zX6_tiesBetween_0 2 rfl) (by decide) ?_
  refine lv_istore (lv' := [(4, .int 0), (3, .int 0), (0, .ref (qS 0)), (1, .int a1), (2, .int a2)]) hx hb (dAt zX6_tiesBetween_0 3 rfl) hl (by decide) rfl (fun ls hl => ?_)
  have L_5 : ∀ (j_5 : Nat) (v3_5 : Int32) (v4_5 : Int32) (H : Heap) (locs : List Loc) (ls : Array Slot), loopF (b_X6_tiesBetween_5 n zS a1 a2) j_5 (v3_5, v4_5) = some out → va_P D vwCl (w6 cI cJ cZ qS zS zL) H → va_D A (w6 cI cJ cZ qS zS zL) → va_S A s.heap H locs → lv_has ls 5 [(0, .ref (qS 0)), (1, .int a1), (2, .int a2), (3, .int v3_5), (4, .int v4_5)] → W p l e { frames := 1, cells := 0, slots := 0, locals := 21 } s m args below meth c H locs 0 0 Q (F0 m 5 ls []) := by
    intro j_5
    induction j_5 with
    | zero => intro v3_5 v4_5 H locs ls h hP hD hS hl; exact loopF_0 h
    | succ j_5 ih_5 =>
      intro v3_5 v4_5 H locs ls h hP hD hS hl
      have h := loopF_s h
      unfold b_X6_tiesBetween_5 at h
      refine lv_iload hx hb (dAt zX6_tiesBetween_0 4 rfl) (lv_at hl 4 rfl) ?_
      refine lv_bipush (v := 100) hx hb (dAt zX6_tiesBetween_0 5 rfl) (by decide) ?_
      refine lv_icmp_ge (tgt := 56) hx hb (dAt zX6_tiesBetween_0 6 rfl) (by decide) (fun c_9 => ?_) (fun c_9 => ?_)
      · have h := q_pos c_9 h
        refine lv_iload_n hx hb (dAt zX6_tiesBetween_0 30 rfl) rfl (lv_at hl 3 rfl) ?_
        obtain rfl := q_some h
        exact xRi hx hb hr hlocks hQ hAe hP hD hK hS rfl (dAt zX6_tiesBetween_0 31 rfl)
      · have h := q_neg c_9 h
        refine lv_iload_n hx hb (dAt zX6_tiesBetween_0 7 rfl) rfl (lv_at hl 3 rfl) ?_
        refine lv_iload_n hx hb (dAt zX6_tiesBetween_0 8 rfl) rfl (lv_at hl 1 rfl) ?_
        refine lv_iload hx hb (dAt zX6_tiesBetween_0 9 rfl) (lv_at hl 4 rfl) ?_
        refine lv_bipush (v := 10) hx hb (dAt zX6_tiesBetween_0 10 rfl) (by decide) ?_
        refine lv_idiv hx hb (dAt zX6_tiesBetween_0 11 rfl) (by decide) ?_
        obtain ⟨u19, hu19, h⟩ := q_bind h
        refine xFz (wc := ([] : va_W)) (w1 := ([] : va_W)) (wr := (w6 cI cJ cZ qS zS zL)) (ws2 := (w6 cI cJ cZ qS zS zL)) (va_runS (As := [.int a1, .int (v4_5 / (10 : Int32))]) (rest := [.int v3_5]) ⟨hx, hb, hml, hown, htl⟩ (c_X6_has l D cI cJ cZ n  H.size  a1 (v4_5 / (10 : Int32)) u19 hu19) (va_cwS 2 htl (gS W_407 W_408 W_5 W_409) rfl rfl rfl (by decide +kernel) ⟨Nat.le_of_ble_eq_true rfl, Nat.le_of_ble_eq_true rfl⟩) (xPS xP0 (xD0 A) hK hN) rfl rfl hl.1 rfl (lv_room (Nat.le_of_ble_eq_true rfl)) (dAt zX6_tiesBetween_0 12 rfl) ⟨Nat.zero_le _, Nat.zero_le _⟩) hS hA hP hD [] [0, 1, 2, 3, 4, 5, 6, 7, 8, 9, 10, 11, 12, 13, 14, 15, 16] [0, 1, 2, 3, 4, 5, 6, 7, 8, 9, 10, 11, 12, 13, 14, 15, 16] rfl rfl (by decide) (by decide) rfl (by decide) (fun H locs hz19 hP hD hS => ?_)
        refine lv_if_eq (tgt := 47) hx hb (dAt zX6_tiesBetween_0 13 rfl) (by decide) (fun c_22 => ?_) (fun c_22 => ?_)
        · have h := q_pos c_22 h
          refine lv_iconst (v := 0) hx hb (dAt zX6_tiesBetween_0 25 rfl) (by decide) ?_
          refine lv_iadd hx hb (dAt zX6_tiesBetween_0 26 rfl) ?_
          refine lv_istore_n (lv' := [(3, .int (v3_5 + (0 : Int32))), (0, .ref (qS 0)), (1, .int a1), (2, .int a2), (4, .int v4_5)]) hx hb (dAt zX6_tiesBetween_0 27 rfl) rfl hl (by decide) rfl (fun ls hl => ?_)
          refine lv_iinc (v := (v4_5 + 1)) (lv' := [(4, .int (v4_5 + 1)), (3, .int (v3_5 + (0 : Int32))), (0, .ref (qS 0)), (1, .int a1), (2, .int a2)]) hx hb (dAt zX6_tiesBetween_0 28 rfl) hl (k := 4) rfl rfl (by decide) rfl (fun ls hl => ?_)
          refine lv_goto (tgt := 5) hx hb (dAt zX6_tiesBetween_0 29 rfl) (by decide) ?_
          exact ih_5 (v3_5 + (0 : Int32)) (v4_5 + 1) _ _ _ h hP hD hS (lv_sub hl [2, 3, 4, 1, 0] rfl)
        · have h := q_neg c_22 h
          refine lv_iload_n hx hb (dAt zX6_tiesBetween_0 14 rfl) rfl (lv_at hl 2 rfl) ?_
          refine lv_iload hx hb (dAt zX6_tiesBetween_0 15 rfl) (lv_at hl 4 rfl) ?_
          refine lv_bipush (v := 10) hx hb (dAt zX6_tiesBetween_0 16 rfl) (by decide) ?_
          refine lv_irem hx hb (dAt zX6_tiesBetween_0 17 rfl) (by decide) ?_
          obtain ⟨u31, hu31, h⟩ := q_bind h
          refine xFz (wc := ([] : va_W)) (w1 := ([] : va_W)) (wr := (w6 cI cJ cZ qS zS zL)) (ws2 := (w6 cI cJ cZ qS zS zL)) (va_runS (As := [.int a2, .int (jrem v4_5 (10 : Int32))]) (rest := [.int v3_5]) ⟨hx, hb, hml, hown, htl⟩ (c_X6_has l D cI cJ cZ n  H.size  a2 (jrem v4_5 (10 : Int32)) u31 hu31) (va_cwS 2 htl (gS W_407 W_408 W_5 W_409) rfl rfl rfl (by decide +kernel) ⟨Nat.le_of_ble_eq_true rfl, Nat.le_of_ble_eq_true rfl⟩) (xPS xP0 (xD0 A) hK hN) rfl rfl hl.1 rfl (lv_room (Nat.le_of_ble_eq_true rfl)) (dAt zX6_tiesBetween_0 18 rfl) ⟨Nat.zero_le _, Nat.zero_le _⟩) hS hA hP hD [] [0, 1, 2, 3, 4, 5, 6, 7, 8, 9, 10, 11, 12, 13, 14, 15, 16] [0, 1, 2, 3, 4, 5, 6, 7, 8, 9, 10, 11, 12, 13, 14, 15, 16] rfl rfl (by decide) (by decide) rfl (by decide) (fun H locs hz31 hP hD hS => ?_)
          refine lv_if_eq (tgt := 47) hx hb (dAt zX6_tiesBetween_0 19 rfl) (by decide) (fun c_34 => ?_) (fun c_34 => ?_)
          · have h := q_pos c_34 h
            refine lv_iconst (v := 0) hx hb (dAt zX6_tiesBetween_0 25 rfl) (by decide) ?_
            refine lv_iadd hx hb (dAt zX6_tiesBetween_0 26 rfl) ?_
            refine lv_istore_n (lv' := [(3, .int (v3_5 + (0 : Int32))), (0, .ref (qS 0)), (1, .int a1), (2, .int a2), (4, .int v4_5)]) hx hb (dAt zX6_tiesBetween_0 27 rfl) rfl hl (by decide) rfl (fun ls hl => ?_)
            refine lv_iinc (v := (v4_5 + 1)) (lv' := [(4, .int (v4_5 + 1)), (3, .int (v3_5 + (0 : Int32))), (0, .ref (qS 0)), (1, .int a1), (2, .int a2)]) hx hb (dAt zX6_tiesBetween_0 28 rfl) hl (k := 4) rfl rfl (by decide) rfl (fun ls hl => ?_)
            refine lv_goto (tgt := 5) hx hb (dAt zX6_tiesBetween_0 29 rfl) (by decide) ?_
            exact ih_5 (v3_5 + (0 : Int32)) (v4_5 + 1) _ _ _ h hP hD hS (lv_sub hl [2, 3, 4, 1, 0] rfl)
          · have h := q_neg c_34 h
            refine lv_aload_n hx hb (dAt zX6_tiesBetween_0 20 rfl) rfl (lv_at hl 0 rfl) ?_
            refine va_get (D := D) (ci := 6) (v := .ref (qS 4)) (C := RX6) (T := TX6) (N := 32) hx hb htl inlX6 hown hK hP 0 rfl rfl 3 (by decide) (htl _ W_85) (fun _ h9 => h9) rfl (dAt zX6_tiesBetween_0 21 rfl) ?_
            refine lv_iload hx hb (dAt zX6_tiesBetween_0 22 rfl) (lv_at hl 4 rfl) ?_
            obtain ⟨hi_43, h⟩ := q_in h
            refine va_iald hx hb hK hP 1 0 rfl rfl hi_43 (dAt zX6_tiesBetween_0 23 rfl) ?_
            refine lv_goto (tgt := 48) hx hb (dAt zX6_tiesBetween_0 24 rfl) (by decide) ?_
            refine lv_iadd hx hb (dAt zX6_tiesBetween_0 26 rfl) ?_
            refine lv_istore_n (lv' := [(3, .int (v3_5 + ((zS 4) (Int32.toNatClampNeg v4_5)))), (0, .ref (qS 0)), (1, .int a1), (2, .int a2), (4, .int v4_5)]) hx hb (dAt zX6_tiesBetween_0 27 rfl) rfl hl (by decide) rfl (fun ls hl => ?_)
            refine lv_iinc (v := (v4_5 + 1)) (lv' := [(4, .int (v4_5 + 1)), (3, .int (v3_5 + ((zS 4) (Int32.toNatClampNeg v4_5)))), (0, .ref (qS 0)), (1, .int a1), (2, .int a2)]) hx hb (dAt zX6_tiesBetween_0 28 rfl) hl (k := 4) rfl rfl (by decide) rfl (fun ls hl => ?_)
            refine lv_goto (tgt := 5) hx hb (dAt zX6_tiesBetween_0 29 rfl) (by decide) ?_
            exact ih_5 (v3_5 + ((zS 4) (Int32.toNatClampNeg v4_5))) (v4_5 + 1) _ _ _ h hP hD hS (lv_sub hl [2, 3, 4, 1, 0] rfl)
  exact L_5 n 0 0 _ _ _ h hP hD hS (lv_sub hl [2, 3, 4, 1, 0] rfl)
def m_X6_night (n : Nat) (zS : TI) (zL : TL) : Option TI := ((m_X6_missedIn n zS zL (zS 0 0)).bind fun u9 => ((m_X6_ones n  ((zS 0 2) &&& (u9 ^^^ (-1 : Int32)))).bind fun u39 => ((m_X6_tiesBetween n (sf (sf (sf zS 0 ((zS 0 0) &&& (((zS 0 2) &&& (u9 ^^^ (-1 : Int32))) ^^^ (-1 : Int32)))) 2 0) 15 ((zS 0 15) + u39)) zL ((zS 0 2) &&& (u9 ^^^ (-1 : Int32))) ((zS 0 0) &&& (((zS 0 2) &&& (u9 ^^^ (-1 : Int32))) ^^^ (-1 : Int32)))).bind fun u57 => some (sf (sf (sf (sf (sf zS 0 ((zS 0 0) &&& (((zS 0 2) &&& (u9 ^^^ (-1 : Int32))) ^^^ (-1 : Int32)))) 2 0) 15 ((zS 0 15) + u39)) 16 ((zS 0 16) + u57)) 17 ((zS 0 2) &&& (u9 ^^^ (-1 : Int32)))))))
set_option maxHeartbeats 4000000 in
set_option maxRecDepth 100000 in
theorem c_X6_night (l : Launch) (D : va_G) (cI cJ cZ : ClassId) (n : Nat) (qS : Nat → Nat) (sz : Nat) (zS : TI) (zL : TL) (out : TI) (hm : m_X6_night n zS zL = some out) : Met l yX6_night (wsM yX6_night cX6_night 2 none) { frames := 4, cells := 0, slots := 0, locals := 92 } (xPre D (kT cI cJ cZ) (w6 cI cJ cZ qS zS zL) sz [.ref (qS 0)]) (xQv D (kT cI cJ cZ) (w6 cI cJ cZ qS zS zL) (w6 cI cJ cZ qS out zL) sz) 0 0 (va_A (w6 cI cJ cZ qS zS zL) sz) := by
  refine Met.ofW (cc := cX6_night) (maxL := 2) (ret := none) (by decide) rfl ?_
  intro p e s m args below meth c s₁ B hml hv
  obtain ⟨hv, hsz, hP, hK, hD0, hN⟩ := hv
  have hx := B.exec; have hb := B.bytes; have hr := B.returns
  have hts := atoms_spec (ws := (wsM yX6_night cX6_night 2 none)) B.pre
  have hown : s.vm.findClass RX6 = some m.cls := findClass_of_methodNamed B.named
  have hlocks := B.notSynchronized
  subst hsz
  have hD := hD0.self (sz := s.heap.size)
  obtain ⟨A, hAe⟩ : ∃ A, A = va_A (w6 cI cJ cZ qS zS zL) s.heap.size := ⟨_, rfl⟩
  rw [← hAe] at hD
  have hA : ∀ q : Nat, s.heap.size ≤ q → A q := fun q h => by rw [hAe]; exact Or.inr h
  have htl : ∀ w ∈ wsL_law, w.before args s = true := fun w h => hts w (List.mem_cons_of_mem _ h)
  refine xHead (R' := { frames := 4, cells := 0, slots := 0, locals := 92 }) rfl (fun Q H hQ hH => ?_)
  have hP : va_P D vwCl (w6 cI cJ cZ qS zS zL) H := by rw [hH]; exact hP
  have hS : va_S A s.heap H [] := by rw [hH]; exact va_S.rf
  refine xStart hv (Nat.le_of_ble_eq_true rfl) (lv := [(0, .ref (qS 0))]) rfl (fun ls hl => ?_)
  have h := hm
  unfold m_X6_night at h
  refine lv_aload_n hx hb (dAt zX6_night_0 0 rfl) rfl (lv_at hl 0 rfl) ?_
  refine va_get (D := D) (ci := 6) (v := .int (zS 0 2)) (C := RX6) (T := TX6) (N := 32) hx hb htl inlX6 hown hK hP 0 rfl rfl 2 (by decide) (htl _ W_161) (fun _ h9 => h9) rfl (dAt zX6_night_0 1 rfl) ?_
  refine lv_aload_n hx hb (dAt zX6_night_0 2 rfl) rfl (lv_at hl 0 rfl) ?_
  refine lv_aload_n hx hb (dAt zX6_night_0 3 rfl) rfl (lv_at hl 0 rfl) ?_
  refine va_get (D := D) (ci := 6) (v := .int (zS 0 0)) (C := RX6) (T := TX6) (N := 32) hx hb htl inlX6 hown hK hP 0 rfl rfl 0 (by decide) (htl _ W_102) (fun _ h9 => h9) rfl (dAt zX6_night_0 4 rfl) ?_
  obtain ⟨u9, hu9, h⟩ := q_bind h
  refine xFi (wc := (w6 cI cJ cZ qS zS zL)) (w1 := (w6 cI cJ cZ qS zS zL)) (wr := ([] : va_W)) (ws2 := (w6 cI cJ cZ qS zS zL)) (va_runV (As := [.int (zS 0 0)]) (rest := [.int (zS 0 2)]) ⟨hx, hb, hml, hown, htl⟩ (c_X6_missedIn l D cI cJ cZ n qS H.size zS zL (zS 0 0) u9 hu9) (cwV 1 htl (gV W_435 W_436 W_437 W_5 W_438) rfl rfl rfl (by decide +kernel) ⟨Nat.le_of_ble_eq_true rfl, Nat.le_of_ble_eq_true rfl⟩) (xPV hP hD hK hN 0 rfl rfl) rfl rfl hl.1 rfl (lv_room (Nat.le_of_ble_eq_true rfl)) (dAt zX6_night_0 5 rfl) ⟨Nat.zero_le _, Nat.zero_le _⟩) hS hA hP hD [0, 1, 2, 3, 4, 5, 6, 7, 8, 9, 10, 11, 12, 13, 14, 15, 16] [] [0, 1, 2, 3, 4, 5, 6, 7, 8, 9, 10, 11, 12, 13, 14, 15, 16] rfl rfl (by decide) (by decide) rfl (by decide) (fun H locs hP hD hS => ?_)
  refine lv_iconst (v := (-1)) hx hb (dAt zX6_night_0 6 rfl) (by decide) ?_
  refine lv_ixor hx hb (dAt zX6_night_0 7 rfl) ?_
  refine lv_iand hx hb (dAt zX6_night_0 8 rfl) ?_
  refine lv_istore_n (lv' := [(1, .int ((zS 0 2) &&& (u9 ^^^ (-1 : Int32)))), (0, .ref (qS 0))]) hx hb (dAt zX6_night_0 9 rfl) rfl hl (by decide) rfl (fun ls hl => ?_)
  refine lv_aload_n hx hb (dAt zX6_night_0 10 rfl) rfl (lv_at hl 1 rfl) ?_
  refine lv_dup hx hb (dAt zX6_night_0 11 rfl) rfl ?_
  refine va_get (D := D) (ci := 6) (v := .int (zS 0 0)) (C := RX6) (T := TX6) (N := 32) hx hb htl inlX6 hown hK hP 0 rfl rfl 0 (by decide) (htl _ W_102) (fun _ h9 => h9) rfl (dAt zX6_night_0 12 rfl) ?_
  refine lv_iload_n hx hb (dAt zX6_night_0 13 rfl) rfl (lv_at hl 0 rfl) ?_
  refine lv_iconst (v := (-1)) hx hb (dAt zX6_night_0 14 rfl) (by decide) ?_
  refine lv_ixor hx hb (dAt zX6_night_0 15 rfl) ?_
  refine lv_iand hx hb (dAt zX6_night_0 16 rfl) ?_
  refine va_put (D := D) (ci := 6) (v := .int ((zS 0 0) &&& (((zS 0 2) &&& (u9 ^^^ (-1 : Int32))) ^^^ (-1 : Int32)))) (ty := .int) (C := RX6) (T := TX6) (N := 32) hx hb htl inlX6 tyX6 tyX6_ok nmX6 hown hK hP hD hS 0 rfl rfl 0 (by decide) (htl _ W_102) (fun _ h9 => h9) rfl (by decide +kernel) rfl rfl (Nat.le_of_ble_eq_true rfl) (dAt zX6_night_0 17 rfl) (fun H locs hP hD hS => ?_)
  have hP : va_P D vwCl (w6x cI cJ cZ qS ((zS 0 0) &&& (((zS 0 2) &&& (u9 ^^^ (-1 : Int32))) ^^^ (-1 : Int32))) (zS 0 1) (zS 0 2) (zS 0 8) (zS 0 10) (zS 0 14) (zS 0 15) (zS 0 16) (zS 0 17) (zS 0 19) (zS 0 20) (zS 0 21) (zS 0 22) (zS 0 23) (zS 0 30) (zS 0 31) (zS 4) (zS 5) (zS 6) (zS 7) (zS 8) (zS 10) (zS 12) (zS 13) (zS 14) (zS 19) (zS 25) (zS 26) (zL 27) (zS 28) (zS 29) (zS 30)) H := hP
  have hD : va_D A (w6x cI cJ cZ qS ((zS 0 0) &&& (((zS 0 2) &&& (u9 ^^^ (-1 : Int32))) ^^^ (-1 : Int32))) (zS 0 1) (zS 0 2) (zS 0 8) (zS 0 10) (zS 0 14) (zS 0 15) (zS 0 16) (zS 0 17) (zS 0 19) (zS 0 20) (zS 0 21) (zS 0 22) (zS 0 23) (zS 0 30) (zS 0 31) (zS 4) (zS 5) (zS 6) (zS 7) (zS 8) (zS 10) (zS 12) (zS 13) (zS 14) (zS 19) (zS 25) (zS 26) (zL 27) (zS 28) (zS 29) (zS 30)) := hD
  refine lv_aload_n hx hb (dAt zX6_night_0 18 rfl) rfl (lv_at hl 1 rfl) ?_
  refine lv_iconst (v := 0) hx hb (dAt zX6_night_0 19 rfl) (by decide) ?_
  refine va_put (D := D) (ci := 6) (v := .int 0) (ty := .int) (C := RX6) (T := TX6) (N := 32) hx hb htl inlX6 tyX6 tyX6_ok nmX6 hown hK hP hD hS 0 rfl rfl 2 (by decide) (htl _ W_161) (fun _ h9 => h9) rfl (by decide +kernel) rfl rfl (Nat.le_of_ble_eq_true rfl) (dAt zX6_night_0 20 rfl) (fun H locs hP hD hS => ?_)
  have hP : va_P D vwCl (w6x cI cJ cZ qS ((zS 0 0) &&& (((zS 0 2) &&& (u9 ^^^ (-1 : Int32))) ^^^ (-1 : Int32))) (zS 0 1) 0 (zS 0 8) (zS 0 10) (zS 0 14) (zS 0 15) (zS 0 16) (zS 0 17) (zS 0 19) (zS 0 20) (zS 0 21) (zS 0 22) (zS 0 23) (zS 0 30) (zS 0 31) (zS 4) (zS 5) (zS 6) (zS 7) (zS 8) (zS 10) (zS 12) (zS 13) (zS 14) (zS 19) (zS 25) (zS 26) (zL 27) (zS 28) (zS 29) (zS 30)) H := hP
  have hD : va_D A (w6x cI cJ cZ qS ((zS 0 0) &&& (((zS 0 2) &&& (u9 ^^^ (-1 : Int32))) ^^^ (-1 : Int32))) (zS 0 1) 0 (zS 0 8) (zS 0 10) (zS 0 14) (zS 0 15) (zS 0 16) (zS 0 17) (zS 0 19) (zS 0 20) (zS 0 21) (zS 0 22) (zS 0 23) (zS 0 30) (zS 0 31) (zS 4) (zS 5) (zS 6) (zS 7) (zS 8) (zS 10) (zS 12) (zS 13) (zS 14) (zS 19) (zS 25) (zS 26) (zL 27) (zS 28) (zS 29) (zS 30)) := hD
  refine lv_aload_n hx hb (dAt zX6_night_0 21 rfl) rfl (lv_at hl 1 rfl) ?_
  refine lv_dup hx hb (dAt zX6_night_0 22 rfl) rfl ?_
  refine va_get (D := D) (ci := 6) (v := .int (zS 0 15)) (C := RX6) (T := TX6) (N := 32) hx hb htl inlX6 hown hK hP 0 rfl rfl 15 (by decide) (htl _ W_378) (fun _ h9 => h9) rfl (dAt zX6_night_0 23 rfl) ?_
  refine lv_iload_n hx hb (dAt zX6_night_0 24 rfl) rfl (lv_at hl 0 rfl) ?_
  have hP : va_P D vwCl (w6 cI cJ cZ qS (sf (sf zS 0 ((zS 0 0) &&& (((zS 0 2) &&& (u9 ^^^ (-1 : Int32))) ^^^ (-1 : Int32)))) 2 0) zL) H := hP
  have hD : va_D A (w6 cI cJ cZ qS (sf (sf zS 0 ((zS 0 0) &&& (((zS 0 2) &&& (u9 ^^^ (-1 : Int32))) ^^^ (-1 : Int32)))) 2 0) zL) := hD
  obtain ⟨u39, hu39, h⟩ := q_bind h
  refine xFi (wc := ([] : va_W)) (w1 := ([] : va_W)) (wr := (w6 cI cJ cZ qS (sf (sf zS 0 ((zS 0 0) &&& (((zS 0 2) &&& (u9 ^^^ (-1 : Int32))) ^^^ (-1 : Int32)))) 2 0) zL)) (ws2 := (w6 cI cJ cZ qS (sf (sf zS 0 ((zS 0 0) &&& (((zS 0 2) &&& (u9 ^^^ (-1 : Int32))) ^^^ (-1 : Int32)))) 2 0) zL)) (va_runS (As := [.int ((zS 0 2) &&& (u9 ^^^ (-1 : Int32)))]) (rest := [.int (zS 0 15), .ref (qS 0)]) ⟨hx, hb, hml, hown, htl⟩ (c_X6_ones l D cI cJ cZ n  H.size  ((zS 0 2) &&& (u9 ^^^ (-1 : Int32))) u39 hu39) (va_cwS 1 htl (gS W_165 W_166 W_5 W_167) rfl rfl rfl (by decide +kernel) ⟨Nat.le_of_ble_eq_true rfl, Nat.le_of_ble_eq_true rfl⟩) (xPS xP0 (xD0 A) hK hN) rfl rfl hl.1 rfl (lv_room (Nat.le_of_ble_eq_true rfl)) (dAt zX6_night_0 25 rfl) ⟨Nat.zero_le _, Nat.zero_le _⟩) hS hA hP hD [] [0, 1, 2, 3, 4, 5, 6, 7, 8, 9, 10, 11, 12, 13, 14, 15, 16] [0, 1, 2, 3, 4, 5, 6, 7, 8, 9, 10, 11, 12, 13, 14, 15, 16] rfl rfl (by decide) (by decide) rfl (by decide) (fun H locs hP hD hS => ?_)
  refine lv_iadd hx hb (dAt zX6_night_0 26 rfl) ?_
  refine va_put (D := D) (ci := 6) (v := .int ((zS 0 15) + u39)) (ty := .int) (C := RX6) (T := TX6) (N := 32) hx hb htl inlX6 tyX6 tyX6_ok nmX6 hown hK hP hD hS 0 rfl rfl 15 (by decide) (htl _ W_378) (fun _ h9 => h9) rfl (by decide +kernel) rfl rfl (Nat.le_of_ble_eq_true rfl) (dAt zX6_night_0 27 rfl) (fun H locs hP hD hS => ?_)
  have hP : va_P D vwCl (w6x cI cJ cZ qS ((zS 0 0) &&& (((zS 0 2) &&& (u9 ^^^ (-1 : Int32))) ^^^ (-1 : Int32))) (zS 0 1) 0 (zS 0 8) (zS 0 10) (zS 0 14) ((zS 0 15) + u39) (zS 0 16) (zS 0 17) (zS 0 19) (zS 0 20) (zS 0 21) (zS 0 22) (zS 0 23) (zS 0 30) (zS 0 31) (zS 4) (zS 5) (zS 6) (zS 7) (zS 8) (zS 10) (zS 12) (zS 13) (zS 14) (zS 19) (zS 25) (zS 26) (zL 27) (zS 28) (zS 29) (zS 30)) H := hP
  have hD : va_D A (w6x cI cJ cZ qS ((zS 0 0) &&& (((zS 0 2) &&& (u9 ^^^ (-1 : Int32))) ^^^ (-1 : Int32))) (zS 0 1) 0 (zS 0 8) (zS 0 10) (zS 0 14) ((zS 0 15) + u39) (zS 0 16) (zS 0 17) (zS 0 19) (zS 0 20) (zS 0 21) (zS 0 22) (zS 0 23) (zS 0 30) (zS 0 31) (zS 4) (zS 5) (zS 6) (zS 7) (zS 8) (zS 10) (zS 12) (zS 13) (zS 14) (zS 19) (zS 25) (zS 26) (zL 27) (zS 28) (zS 29) (zS 30)) := hD
  refine lv_aload_n hx hb (dAt zX6_night_0 28 rfl) rfl (lv_at hl 1 rfl) ?_
  refine lv_dup hx hb (dAt zX6_night_0 29 rfl) rfl ?_
  refine va_get (D := D) (ci := 6) (v := .int (zS 0 16)) (C := RX6) (T := TX6) (N := 32) hx hb htl inlX6 hown hK hP 0 rfl rfl 16 (by decide) (htl _ W_392) (fun _ h9 => h9) rfl (dAt zX6_night_0 30 rfl) ?_
  refine lv_aload_n hx hb (dAt zX6_night_0 31 rfl) rfl (lv_at hl 1 rfl) ?_
  refine lv_iload_n hx hb (dAt zX6_night_0 32 rfl) rfl (lv_at hl 0 rfl) ?_
  refine lv_aload_n hx hb (dAt zX6_night_0 33 rfl) rfl (lv_at hl 1 rfl) ?_
  refine va_get (D := D) (ci := 6) (v := .int ((zS 0 0) &&& (((zS 0 2) &&& (u9 ^^^ (-1 : Int32))) ^^^ (-1 : Int32)))) (C := RX6) (T := TX6) (N := 32) hx hb htl inlX6 hown hK hP 0 rfl rfl 0 (by decide) (htl _ W_102) (fun _ h9 => h9) rfl (dAt zX6_night_0 34 rfl) ?_
  have hP : va_P D vwCl (w6 cI cJ cZ qS (sf (sf (sf zS 0 ((zS 0 0) &&& (((zS 0 2) &&& (u9 ^^^ (-1 : Int32))) ^^^ (-1 : Int32)))) 2 0) 15 ((zS 0 15) + u39)) zL) H := hP
  have hD : va_D A (w6 cI cJ cZ qS (sf (sf (sf zS 0 ((zS 0 0) &&& (((zS 0 2) &&& (u9 ^^^ (-1 : Int32))) ^^^ (-1 : Int32)))) 2 0) 15 ((zS 0 15) + u39)) zL) := hD
  obtain ⟨u57, hu57, h⟩ := q_bind h
  refine xFi (wc := (w6 cI cJ cZ qS (sf (sf (sf zS 0 ((zS 0 0) &&& (((zS 0 2) &&& (u9 ^^^ (-1 : Int32))) ^^^ (-1 : Int32)))) 2 0) 15 ((zS 0 15) + u39)) zL)) (w1 := (w6 cI cJ cZ qS (sf (sf (sf zS 0 ((zS 0 0) &&& (((zS 0 2) &&& (u9 ^^^ (-1 : Int32))) ^^^ (-1 : Int32)))) 2 0) 15 ((zS 0 15) + u39)) zL)) (wr := ([] : va_W)) (ws2 := (w6 cI cJ cZ qS (sf (sf (sf zS 0 ((zS 0 0) &&& (((zS 0 2) &&& (u9 ^^^ (-1 : Int32))) ^^^ (-1 : Int32)))) 2 0) 15 ((zS 0 15) + u39)) zL)) (va_runV (As := [.int ((zS 0 2) &&& (u9 ^^^ (-1 : Int32))), .int ((zS 0 0) &&& (((zS 0 2) &&& (u9 ^^^ (-1 : Int32))) ^^^ (-1 : Int32)))]) (rest := [.int (zS 0 16), .ref (qS 0)]) ⟨hx, hb, hml, hown, htl⟩ (c_X6_tiesBetween l D cI cJ cZ n qS H.size (sf (sf (sf zS 0 ((zS 0 0) &&& (((zS 0 2) &&& (u9 ^^^ (-1 : Int32))) ^^^ (-1 : Int32)))) 2 0) 15 ((zS 0 15) + u39)) zL ((zS 0 2) &&& (u9 ^^^ (-1 : Int32))) ((zS 0 0) &&& (((zS 0 2) &&& (u9 ^^^ (-1 : Int32))) ^^^ (-1 : Int32))) u57 hu57) (cwV 2 htl (gV W_455 W_456 W_457 W_5 W_458) rfl rfl rfl (by decide +kernel) ⟨Nat.le_of_ble_eq_true rfl, Nat.le_of_ble_eq_true rfl⟩) (xPV hP hD hK hN 0 rfl rfl) rfl rfl hl.1 rfl (lv_room (Nat.le_of_ble_eq_true rfl)) (dAt zX6_night_0 35 rfl) ⟨Nat.zero_le _, Nat.zero_le _⟩) hS hA hP hD [0, 1, 2, 3, 4, 5, 6, 7, 8, 9, 10, 11, 12, 13, 14, 15, 16] [] [0, 1, 2, 3, 4, 5, 6, 7, 8, 9, 10, 11, 12, 13, 14, 15, 16] rfl rfl (by decide) (by decide) rfl (by decide) (fun H locs hP hD hS => ?_)
  refine lv_iadd hx hb (dAt zX6_night_0 36 rfl) ?_
  refine va_put (D := D) (ci := 6) (v := .int ((zS 0 16) + u57)) (ty := .int) (C := RX6) (T := TX6) (N := 32) hx hb htl inlX6 tyX6 tyX6_ok nmX6 hown hK hP hD hS 0 rfl rfl 16 (by decide) (htl _ W_392) (fun _ h9 => h9) rfl (by decide +kernel) rfl rfl (Nat.le_of_ble_eq_true rfl) (dAt zX6_night_0 37 rfl) (fun H locs hP hD hS => ?_)
  have hP : va_P D vwCl (w6x cI cJ cZ qS ((zS 0 0) &&& (((zS 0 2) &&& (u9 ^^^ (-1 : Int32))) ^^^ (-1 : Int32))) (zS 0 1) 0 (zS 0 8) (zS 0 10) (zS 0 14) ((zS 0 15) + u39) ((zS 0 16) + u57) (zS 0 17) (zS 0 19) (zS 0 20) (zS 0 21) (zS 0 22) (zS 0 23) (zS 0 30) (zS 0 31) (zS 4) (zS 5) (zS 6) (zS 7) (zS 8) (zS 10) (zS 12) (zS 13) (zS 14) (zS 19) (zS 25) (zS 26) (zL 27) (zS 28) (zS 29) (zS 30)) H := hP
  have hD : va_D A (w6x cI cJ cZ qS ((zS 0 0) &&& (((zS 0 2) &&& (u9 ^^^ (-1 : Int32))) ^^^ (-1 : Int32))) (zS 0 1) 0 (zS 0 8) (zS 0 10) (zS 0 14) ((zS 0 15) + u39) ((zS 0 16) + u57) (zS 0 17) (zS 0 19) (zS 0 20) (zS 0 21) (zS 0 22) (zS 0 23) (zS 0 30) (zS 0 31) (zS 4) (zS 5) (zS 6) (zS 7) (zS 8) (zS 10) (zS 12) (zS 13) (zS 14) (zS 19) (zS 25) (zS 26) (zL 27) (zS 28) (zS 29) (zS 30)) := hD
  refine lv_aload_n hx hb (dAt zX6_night_0 38 rfl) rfl (lv_at hl 1 rfl) ?_
  refine lv_iload_n hx hb (dAt zX6_night_0 39 rfl) rfl (lv_at hl 0 rfl) ?_
  refine va_put (D := D) (ci := 6) (v := .int ((zS 0 2) &&& (u9 ^^^ (-1 : Int32)))) (ty := .int) (C := RX6) (T := TX6) (N := 32) hx hb htl inlX6 tyX6 tyX6_ok nmX6 hown hK hP hD hS 0 rfl rfl 17 (by decide) (htl _ W_418) (fun _ h9 => h9) rfl (by decide +kernel) rfl rfl (Nat.le_of_ble_eq_true rfl) (dAt zX6_night_0 40 rfl) (fun H locs hP hD hS => ?_)
  have hP : va_P D vwCl (w6x cI cJ cZ qS ((zS 0 0) &&& (((zS 0 2) &&& (u9 ^^^ (-1 : Int32))) ^^^ (-1 : Int32))) (zS 0 1) 0 (zS 0 8) (zS 0 10) (zS 0 14) ((zS 0 15) + u39) ((zS 0 16) + u57) ((zS 0 2) &&& (u9 ^^^ (-1 : Int32))) (zS 0 19) (zS 0 20) (zS 0 21) (zS 0 22) (zS 0 23) (zS 0 30) (zS 0 31) (zS 4) (zS 5) (zS 6) (zS 7) (zS 8) (zS 10) (zS 12) (zS 13) (zS 14) (zS 19) (zS 25) (zS 26) (zL 27) (zS 28) (zS 29) (zS 30)) H := hP
  have hD : va_D A (w6x cI cJ cZ qS ((zS 0 0) &&& (((zS 0 2) &&& (u9 ^^^ (-1 : Int32))) ^^^ (-1 : Int32))) (zS 0 1) 0 (zS 0 8) (zS 0 10) (zS 0 14) ((zS 0 15) + u39) ((zS 0 16) + u57) ((zS 0 2) &&& (u9 ^^^ (-1 : Int32))) (zS 0 19) (zS 0 20) (zS 0 21) (zS 0 22) (zS 0 23) (zS 0 30) (zS 0 31) (zS 4) (zS 5) (zS 6) (zS 7) (zS 8) (zS 10) (zS 12) (zS 13) (zS 14) (zS 19) (zS 25) (zS 26) (zL 27) (zS 28) (zS 29) (zS 30)) := hD
  have hP : va_P D vwCl (w6 cI cJ cZ qS (sf (sf (sf (sf (sf zS 0 ((zS 0 0) &&& (((zS 0 2) &&& (u9 ^^^ (-1 : Int32))) ^^^ (-1 : Int32)))) 2 0) 15 ((zS 0 15) + u39)) 16 ((zS 0 16) + u57)) 17 ((zS 0 2) &&& (u9 ^^^ (-1 : Int32)))) zL) H := hP
  have hD : va_D A (w6 cI cJ cZ qS (sf (sf (sf (sf (sf zS 0 ((zS 0 0) &&& (((zS 0 2) &&& (u9 ^^^ (-1 : Int32))) ^^^ (-1 : Int32)))) 2 0) 15 ((zS 0 15) + u39)) 16 ((zS 0 16) + u57)) 17 ((zS 0 2) &&& (u9 ^^^ (-1 : Int32)))) zL) := hD
  obtain rfl := q_some h
  exact xRv hx hb hr hlocks hQ hAe hP hD hK hS (dAt zX6_night_0 41 rfl)
def b_X6_month_2 (n : Nat) (zL : TL) (s_2 : Int32 × TI) (k_2 : Int32 × TI → Option TI) : Option TI := (if 100 ≤ s_2.1 then some s_2.2 else ((m_X6_canFade n s_2.2 zL (s_2.1 / (10 : Int32)) (jrem s_2.1 (10 : Int32))).bind fun u17 => (if u17 = 0 then (k_2 ((s_2.1 + 1), s_2.2)) else (gd (inB s_2.1 100) ((gd (inB s_2.1 100) (((m_X6_setTie n s_2.2 zL (s_2.1 / (10 : Int32)) (jrem s_2.1 (10 : Int32)) ((s_2.2 5) (Int32.toNatClampNeg s_2.1)) (((s_2.2 4) (Int32.toNatClampNeg s_2.1)) - (1 : Int32))).bind fun u46 => (k_2 ((s_2.1 + 1), u46))))))))))
def m_X6_month (n : Nat) (zS : TI) (zL : TL) : Option TI := (loopF (b_X6_month_2 n zL ) n (0, zS))
set_option maxHeartbeats 4000000 in
set_option maxRecDepth 100000 in
theorem c_X6_month (l : Launch) (D : va_G) (cI cJ cZ : ClassId) (n : Nat) (qS : Nat → Nat) (sz : Nat) (zS : TI) (zL : TL) (out : TI) (hm : m_X6_month n zS zL = some out) : Met l yX6_month (wsM yX6_month cX6_month 2 none) { frames := 2, cells := 0, slots := 0, locals := 44 } (xPre D (kT cI cJ cZ) (w6 cI cJ cZ qS zS zL) sz [.ref (qS 0)]) (xQv D (kT cI cJ cZ) (w6 cI cJ cZ qS zS zL) (w6 cI cJ cZ qS out zL) sz) 0 0 (va_A (w6 cI cJ cZ qS zS zL) sz) := by
  refine Met.ofW (cc := cX6_month) (maxL := 2) (ret := none) (by decide) rfl ?_
  intro p e s m args below meth c s₁ B hml hv
  obtain ⟨hv, hsz, hP, hK, hD0, hN⟩ := hv
  have hx := B.exec; have hb := B.bytes; have hr := B.returns
  have hts := atoms_spec (ws := (wsM yX6_month cX6_month 2 none)) B.pre
  have hown : s.vm.findClass RX6 = some m.cls := findClass_of_methodNamed B.named
  have hlocks := B.notSynchronized
  subst hsz
  have hD := hD0.self (sz := s.heap.size)
  obtain ⟨A, hAe⟩ : ∃ A, A = va_A (w6 cI cJ cZ qS zS zL) s.heap.size := ⟨_, rfl⟩
  rw [← hAe] at hD
  have hA : ∀ q : Nat, s.heap.size ≤ q → A q := fun q h => by rw [hAe]; exact Or.inr h
  have htl : ∀ w ∈ wsL_law, w.before args s = true := fun w h => hts w (List.mem_cons_of_mem _ h)
  refine xHead (R' := { frames := 2, cells := 0, slots := 0, locals := 44 }) rfl (fun Q H hQ hH => ?_)
  have hP : va_P D vwCl (w6 cI cJ cZ qS zS zL) H := by rw [hH]; exact hP
  have hS : va_S A s.heap H [] := by rw [hH]; exact va_S.rf
  refine xStart hv (Nat.le_of_ble_eq_true rfl) (lv := [(0, .ref (qS 0))]) rfl (fun ls hl => ?_)
  have h := hm
  unfold m_X6_month at h
  refine lv_iconst (v := 0) hx hb (dAt zX6_month_0 0 rfl) (by decide) ?_
  refine lv_istore_n (lv' := [(1, .int 0), (0, .ref (qS 0))]) hx hb (dAt zX6_month_0 1 rfl) rfl hl (by decide) rfl (fun ls hl => ?_)
  have L_2 : ∀ (j_2 : Nat) (v1_2 : Int32) (zS_2 : TI) (H : Heap) (locs : List Loc) (ls : Array Slot), loopF (b_X6_month_2 n zL) j_2 (v1_2, zS_2) = some out → va_P D vwCl (w6 cI cJ cZ qS zS_2 zL) H → va_D A (w6 cI cJ cZ qS zS_2 zL) → va_S A s.heap H locs → lv_has ls 2 [(0, .ref (qS 0)), (1, .int v1_2)] → W p l e { frames := 2, cells := 0, slots := 0, locals := 44 } s m args below meth c H locs 0 0 Q (F0 m 2 ls []) := by
    intro j_2
    induction j_2 with
    | zero => intro v1_2 zS_2 H locs ls h hP hD hS hl; exact loopF_0 h
    | succ j_2 ih_2 =>
      intro v1_2 zS_2 H locs ls h hP hD hS hl
      have h := loopF_s h
      unfold b_X6_month_2 at h
      refine lv_iload_n hx hb (dAt zX6_month_0 2 rfl) rfl (lv_at hl 1 rfl) ?_
      refine lv_bipush (v := 100) hx hb (dAt zX6_month_0 3 rfl) (by decide) ?_
      refine lv_icmp_ge (tgt := 55) hx hb (dAt zX6_month_0 4 rfl) (by decide) (fun c_5 => ?_) (fun c_5 => ?_)
      · have h := q_pos c_5 h
        obtain rfl := q_some h
        exact xRv hx hb hr hlocks hQ hAe hP hD hK hS (dAt zX6_month_0 34 rfl)
      · have h := q_neg c_5 h
        refine lv_aload_n hx hb (dAt zX6_month_0 5 rfl) rfl (lv_at hl 0 rfl) ?_
        refine lv_iload_n hx hb (dAt zX6_month_0 6 rfl) rfl (lv_at hl 1 rfl) ?_
        refine lv_bipush (v := 10) hx hb (dAt zX6_month_0 7 rfl) (by decide) ?_
        refine lv_idiv hx hb (dAt zX6_month_0 8 rfl) (by decide) ?_
        refine lv_iload_n hx hb (dAt zX6_month_0 9 rfl) rfl (lv_at hl 1 rfl) ?_
        refine lv_bipush (v := 10) hx hb (dAt zX6_month_0 10 rfl) (by decide) ?_
        refine lv_irem hx hb (dAt zX6_month_0 11 rfl) (by decide) ?_
        obtain ⟨u17, hu17, h⟩ := q_bind h
        refine xFz (wc := (w6 cI cJ cZ qS zS_2 zL)) (w1 := (w6 cI cJ cZ qS zS_2 zL)) (wr := ([] : va_W)) (ws2 := (w6 cI cJ cZ qS zS_2 zL)) (va_runV (As := [.int (v1_2 / (10 : Int32)), .int (jrem v1_2 (10 : Int32))]) (rest := []) ⟨hx, hb, hml, hown, htl⟩ (c_X6_canFade l D cI cJ cZ n qS H.size zS_2 zL (v1_2 / (10 : Int32)) (jrem v1_2 (10 : Int32)) u17 hu17) (cwV 2 htl (gV W_403 W_404 W_405 W_5 W_406) rfl rfl rfl (by decide +kernel) ⟨Nat.le_of_ble_eq_true rfl, Nat.le_of_ble_eq_true rfl⟩) (xPV hP hD hK hN 0 rfl rfl) rfl rfl hl.1 rfl (lv_room (Nat.le_of_ble_eq_true rfl)) (dAt zX6_month_0 12 rfl) ⟨Nat.zero_le _, Nat.zero_le _⟩) hS hA hP hD [0, 1, 2, 3, 4, 5, 6, 7, 8, 9, 10, 11, 12, 13, 14, 15, 16] [] [0, 1, 2, 3, 4, 5, 6, 7, 8, 9, 10, 11, 12, 13, 14, 15, 16] rfl rfl (by decide) (by decide) rfl (by decide) (fun H locs hz17 hP hD hS => ?_)
        refine lv_if_eq (tgt := 49) hx hb (dAt zX6_month_0 13 rfl) (by decide) (fun c_20 => ?_) (fun c_20 => ?_)
        · have h := q_pos c_20 h
          refine lv_iinc (v := (v1_2 + 1)) (lv' := [(1, .int (v1_2 + 1)), (0, .ref (qS 0))]) hx hb (dAt zX6_month_0 32 rfl) hl (k := 1) rfl rfl (by decide) rfl (fun ls hl => ?_)
          refine lv_goto (tgt := 2) hx hb (dAt zX6_month_0 33 rfl) (by decide) ?_
          exact ih_2 (v1_2 + 1) zS_2 _ _ _ h hP hD hS (lv_sub hl [1, 0] rfl)
        · have h := q_neg c_20 h
          refine lv_aload_n hx hb (dAt zX6_month_0 14 rfl) rfl (lv_at hl 0 rfl) ?_
          refine lv_iload_n hx hb (dAt zX6_month_0 15 rfl) rfl (lv_at hl 1 rfl) ?_
          refine lv_bipush (v := 10) hx hb (dAt zX6_month_0 16 rfl) (by decide) ?_
          refine lv_idiv hx hb (dAt zX6_month_0 17 rfl) (by decide) ?_
          refine lv_iload_n hx hb (dAt zX6_month_0 18 rfl) rfl (lv_at hl 1 rfl) ?_
          refine lv_bipush (v := 10) hx hb (dAt zX6_month_0 19 rfl) (by decide) ?_
          refine lv_irem hx hb (dAt zX6_month_0 20 rfl) (by decide) ?_
          refine lv_aload_n hx hb (dAt zX6_month_0 21 rfl) rfl (lv_at hl 0 rfl) ?_
          refine va_get (D := D) (ci := 6) (v := .ref (qS 5)) (C := RX6) (T := TX6) (N := 32) hx hb htl inlX6 hown hK hP 0 rfl rfl 4 (by decide) (htl _ W_86) (fun _ h9 => h9) rfl (dAt zX6_month_0 22 rfl) ?_
          refine lv_iload_n hx hb (dAt zX6_month_0 23 rfl) rfl (lv_at hl 1 rfl) ?_
          obtain ⟨hi_37, h⟩ := q_in h
          refine va_iald hx hb hK hP 2 0 rfl rfl hi_37 (dAt zX6_month_0 24 rfl) ?_
          refine lv_aload_n hx hb (dAt zX6_month_0 25 rfl) rfl (lv_at hl 0 rfl) ?_
          refine va_get (D := D) (ci := 6) (v := .ref (qS 4)) (C := RX6) (T := TX6) (N := 32) hx hb htl inlX6 hown hK hP 0 rfl rfl 3 (by decide) (htl _ W_85) (fun _ h9 => h9) rfl (dAt zX6_month_0 26 rfl) ?_
          refine lv_iload_n hx hb (dAt zX6_month_0 27 rfl) rfl (lv_at hl 1 rfl) ?_
          obtain ⟨hi_43, h⟩ := q_in h
          refine va_iald hx hb hK hP 1 0 rfl rfl hi_43 (dAt zX6_month_0 28 rfl) ?_
          refine lv_iconst (v := 1) hx hb (dAt zX6_month_0 29 rfl) (by decide) ?_
          refine lv_isub hx hb (dAt zX6_month_0 30 rfl) ?_
          obtain ⟨u46, hu46, h⟩ := q_bind h
          refine xFv (wc := (w6 cI cJ cZ qS zS_2 zL)) (w1 := (w6 cI cJ cZ qS u46 zL)) (wr := ([] : va_W)) (ws2 := (w6 cI cJ cZ qS u46 zL)) (va_runV (As := [.int (v1_2 / (10 : Int32)), .int (jrem v1_2 (10 : Int32)), .int ((zS_2 5) (Int32.toNatClampNeg v1_2)), .int (((zS_2 4) (Int32.toNatClampNeg v1_2)) - (1 : Int32))]) (rest := []) ⟨hx, hb, hml, hown, htl⟩ (c_X6_setTie l D cI cJ cZ n qS H.size zS_2 zL (v1_2 / (10 : Int32)) (jrem v1_2 (10 : Int32)) ((zS_2 5) (Int32.toNatClampNeg v1_2)) (((zS_2 4) (Int32.toNatClampNeg v1_2)) - (1 : Int32)) u46 hu46) (cwV 4 htl (gV W_133 W_134 W_135 W_5 W_136) rfl rfl rfl (by decide +kernel) ⟨Nat.le_of_ble_eq_true rfl, Nat.le_of_ble_eq_true rfl⟩) (xPV hP hD hK hN 0 rfl rfl) rfl rfl hl.1 rfl (lv_room (Nat.le_of_ble_eq_true rfl)) (dAt zX6_month_0 31 rfl) ⟨Nat.zero_le _, Nat.zero_le _⟩) hS hA hP hD [0, 1, 2, 3, 4, 5, 6, 7, 8, 9, 10, 11, 12, 13, 14, 15, 16] [] [0, 1, 2, 3, 4, 5, 6, 7, 8, 9, 10, 11, 12, 13, 14, 15, 16] rfl rfl (by decide) (by decide) rfl (by decide) (fun H locs hP hD hS => ?_)
          refine lv_iinc (v := (v1_2 + 1)) (lv' := [(1, .int (v1_2 + 1)), (0, .ref (qS 0))]) hx hb (dAt zX6_month_0 32 rfl) hl (k := 1) rfl rfl (by decide) rfl (fun ls hl => ?_)
          refine lv_goto (tgt := 2) hx hb (dAt zX6_month_0 33 rfl) (by decide) ?_
          exact ih_2 (v1_2 + 1) u46 _ _ _ h hP hD hS (lv_sub hl [1, 0] rfl)
  exact L_2 n 0 zS _ _ _ h hP hD hS (lv_sub hl [1, 0] rfl)
def m_X6_meet (n : Nat) (zS : TI) (zL : TL) (a1 : Int32) (a2 : Int32) : Option TI := (gd (inB (((10 : Int32) * a1) + a2) 100) ((gd (inB (((10 : Int32) * a1) + a2) 100) ((if (((zS 4) (Int32.toNatClampNeg (((10 : Int32) * a1) + a2))) + (2 : Int32)) ≤ 9 then ((m_X6_setTie n zS zL a1 a2 ((zS 5) (Int32.toNatClampNeg (((10 : Int32) * a1) + a2))) (((zS 4) (Int32.toNatClampNeg (((10 : Int32) * a1) + a2))) + (2 : Int32))).bind fun u40 => some u40) else ((m_X6_setTie n zS zL a1 a2 ((zS 5) (Int32.toNatClampNeg (((10 : Int32) * a1) + a2))) 9).bind fun u40 => some u40))))))
set_option maxHeartbeats 4000000 in
set_option maxRecDepth 100000 in
theorem c_X6_meet (l : Launch) (D : va_G) (cI cJ cZ : ClassId) (n : Nat) (qS : Nat → Nat) (sz : Nat) (zS : TI) (zL : TL) (a1 : Int32) (a2 : Int32) (out : TI) (hm : m_X6_meet n zS zL a1 a2 = some out) : Met l yX6_meet (wsM yX6_meet cX6_meet 4 none) { frames := 1, cells := 0, slots := 0, locals := 24 } (xPre D (kT cI cJ cZ) (w6 cI cJ cZ qS zS zL) sz [.ref (qS 0), .int a1, .int a2]) (xQv D (kT cI cJ cZ) (w6 cI cJ cZ qS zS zL) (w6 cI cJ cZ qS out zL) sz) 0 0 (va_A (w6 cI cJ cZ qS zS zL) sz) := by
  refine Met.ofW (cc := cX6_meet) (maxL := 4) (ret := none) (by decide) rfl ?_
  intro p e s m args below meth c s₁ B hml hv
  obtain ⟨hv, hsz, hP, hK, hD0, hN⟩ := hv
  have hx := B.exec; have hb := B.bytes; have hr := B.returns
  have hts := atoms_spec (ws := (wsM yX6_meet cX6_meet 4 none)) B.pre
  have hown : s.vm.findClass RX6 = some m.cls := findClass_of_methodNamed B.named
  have hlocks := B.notSynchronized
  subst hsz
  have hD := hD0.self (sz := s.heap.size)
  obtain ⟨A, hAe⟩ : ∃ A, A = va_A (w6 cI cJ cZ qS zS zL) s.heap.size := ⟨_, rfl⟩
  rw [← hAe] at hD
  have hA : ∀ q : Nat, s.heap.size ≤ q → A q := fun q h => by rw [hAe]; exact Or.inr h
  have htl : ∀ w ∈ wsL_law, w.before args s = true := fun w h => hts w (List.mem_cons_of_mem _ h)
  refine xHead (R' := { frames := 1, cells := 0, slots := 0, locals := 24 }) rfl (fun Q H hQ hH => ?_)
  have hP : va_P D vwCl (w6 cI cJ cZ qS zS zL) H := by rw [hH]; exact hP
  have hS : va_S A s.heap H [] := by rw [hH]; exact va_S.rf
  refine xStart hv (Nat.le_of_ble_eq_true rfl) (lv := [(0, .ref (qS 0)), (1, .int a1), (2, .int a2)]) rfl (fun ls hl => ?_)
  have h := hm
  unfold m_X6_meet at h
  refine lv_aload_n hx hb (dAt zX6_meet_0 0 rfl) rfl (lv_at hl 0 rfl) ?_
  refine va_get (D := D) (ci := 6) (v := .ref (qS 4)) (C := RX6) (T := TX6) (N := 32) hx hb htl inlX6 hown hK hP 0 rfl rfl 3 (by decide) (htl _ W_85) (fun _ h9 => h9) rfl (dAt zX6_meet_0 1 rfl) ?_
  refine lv_bipush (v := 10) hx hb (dAt zX6_meet_0 2 rfl) (by decide) ?_
  refine lv_iload_n hx hb (dAt zX6_meet_0 3 rfl) rfl (lv_at hl 1 rfl) ?_
  refine lv_imul hx hb (dAt zX6_meet_0 4 rfl) ?_
  refine lv_iload_n hx hb (dAt zX6_meet_0 5 rfl) rfl (lv_at hl 2 rfl) ?_
  refine lv_iadd hx hb (dAt zX6_meet_0 6 rfl) ?_
  obtain ⟨hi_10, h⟩ := q_in h
  refine va_iald hx hb hK hP 1 0 rfl rfl hi_10 (dAt zX6_meet_0 7 rfl) ?_
  refine lv_iconst (v := 2) hx hb (dAt zX6_meet_0 8 rfl) (by decide) ?_
  refine lv_iadd hx hb (dAt zX6_meet_0 9 rfl) ?_
  refine lv_istore_n (lv' := [(3, .int (((zS 4) (Int32.toNatClampNeg (((10 : Int32) * a1) + a2))) + (2 : Int32))), (0, .ref (qS 0)), (1, .int a1), (2, .int a2)]) hx hb (dAt zX6_meet_0 10 rfl) rfl hl (by decide) rfl (fun ls hl => ?_)
  refine lv_aload_n hx hb (dAt zX6_meet_0 11 rfl) rfl (lv_at hl 1 rfl) ?_
  refine lv_iload_n hx hb (dAt zX6_meet_0 12 rfl) rfl (lv_at hl 2 rfl) ?_
  refine lv_iload_n hx hb (dAt zX6_meet_0 13 rfl) rfl (lv_at hl 3 rfl) ?_
  refine lv_aload_n hx hb (dAt zX6_meet_0 14 rfl) rfl (lv_at hl 1 rfl) ?_
  refine va_get (D := D) (ci := 6) (v := .ref (qS 5)) (C := RX6) (T := TX6) (N := 32) hx hb htl inlX6 hown hK hP 0 rfl rfl 4 (by decide) (htl _ W_86) (fun _ h9 => h9) rfl (dAt zX6_meet_0 15 rfl) ?_
  refine lv_bipush (v := 10) hx hb (dAt zX6_meet_0 16 rfl) (by decide) ?_
  refine lv_iload_n hx hb (dAt zX6_meet_0 17 rfl) rfl (lv_at hl 2 rfl) ?_
  refine lv_imul hx hb (dAt zX6_meet_0 18 rfl) ?_
  refine lv_iload_n hx hb (dAt zX6_meet_0 19 rfl) rfl (lv_at hl 3 rfl) ?_
  refine lv_iadd hx hb (dAt zX6_meet_0 20 rfl) ?_
  obtain ⟨hi_27, h⟩ := q_in h
  refine va_iald hx hb hK hP 2 0 rfl rfl hi_27 (dAt zX6_meet_0 21 rfl) ?_
  refine lv_iload_n hx hb (dAt zX6_meet_0 22 rfl) rfl (lv_at hl 0 rfl) ?_
  refine lv_bipush (v := 9) hx hb (dAt zX6_meet_0 23 rfl) (by decide) ?_
  refine lv_icmp_le (tgt := 39) hx hb (dAt zX6_meet_0 24 rfl) (by decide) (fun c_31 => ?_) (fun c_31 => ?_)
  · have h := q_pos c_31 h
    refine lv_iload_n hx hb (dAt zX6_meet_0 27 rfl) rfl (lv_at hl 0 rfl) ?_
    obtain ⟨u40, hu40, h⟩ := q_bind h
    refine xFv (wc := (w6 cI cJ cZ qS zS zL)) (w1 := (w6 cI cJ cZ qS u40 zL)) (wr := ([] : va_W)) (ws2 := (w6 cI cJ cZ qS u40 zL)) (va_runV (As := [.int a1, .int a2, .int ((zS 5) (Int32.toNatClampNeg (((10 : Int32) * a1) + a2))), .int (((zS 4) (Int32.toNatClampNeg (((10 : Int32) * a1) + a2))) + (2 : Int32))]) (rest := []) ⟨hx, hb, hml, hown, htl⟩ (c_X6_setTie l D cI cJ cZ n qS H.size zS zL a1 a2 ((zS 5) (Int32.toNatClampNeg (((10 : Int32) * a1) + a2))) (((zS 4) (Int32.toNatClampNeg (((10 : Int32) * a1) + a2))) + (2 : Int32)) u40 hu40) (cwV 4 htl (gV W_133 W_134 W_135 W_5 W_136) rfl rfl rfl (by decide +kernel) ⟨Nat.le_of_ble_eq_true rfl, Nat.le_of_ble_eq_true rfl⟩) (xPV hP hD hK hN 0 rfl rfl) rfl rfl hl.1 rfl (lv_room (Nat.le_of_ble_eq_true rfl)) (dAt zX6_meet_0 28 rfl) ⟨Nat.zero_le _, Nat.zero_le _⟩) hS hA hP hD [0, 1, 2, 3, 4, 5, 6, 7, 8, 9, 10, 11, 12, 13, 14, 15, 16] [] [0, 1, 2, 3, 4, 5, 6, 7, 8, 9, 10, 11, 12, 13, 14, 15, 16] rfl rfl (by decide) (by decide) rfl (by decide) (fun H locs hP hD hS => ?_)
    obtain rfl := q_some h
    exact xRv hx hb hr hlocks hQ hAe hP hD hK hS (dAt zX6_meet_0 29 rfl)
  · have h := q_neg c_31 h
    refine lv_bipush (v := 9) hx hb (dAt zX6_meet_0 25 rfl) (by decide) ?_
    refine lv_goto (tgt := 40) hx hb (dAt zX6_meet_0 26 rfl) (by decide) ?_
    obtain ⟨u40, hu40, h⟩ := q_bind h
    refine xFv (wc := (w6 cI cJ cZ qS zS zL)) (w1 := (w6 cI cJ cZ qS u40 zL)) (wr := ([] : va_W)) (ws2 := (w6 cI cJ cZ qS u40 zL)) (va_runV (As := [.int a1, .int a2, .int ((zS 5) (Int32.toNatClampNeg (((10 : Int32) * a1) + a2))), .int 9]) (rest := []) ⟨hx, hb, hml, hown, htl⟩ (c_X6_setTie l D cI cJ cZ n qS H.size zS zL a1 a2 ((zS 5) (Int32.toNatClampNeg (((10 : Int32) * a1) + a2))) 9 u40 hu40) (cwV 4 htl (gV W_133 W_134 W_135 W_5 W_136) rfl rfl rfl (by decide +kernel) ⟨Nat.le_of_ble_eq_true rfl, Nat.le_of_ble_eq_true rfl⟩) (xPV hP hD hK hN 0 rfl rfl) rfl rfl hl.1 rfl (lv_room (Nat.le_of_ble_eq_true rfl)) (dAt zX6_meet_0 28 rfl) ⟨Nat.zero_le _, Nat.zero_le _⟩) hS hA hP hD [0, 1, 2, 3, 4, 5, 6, 7, 8, 9, 10, 11, 12, 13, 14, 15, 16] [] [0, 1, 2, 3, 4, 5, 6, 7, 8, 9, 10, 11, 12, 13, 14, 15, 16] rfl rfl (by decide) (by decide) rfl (by decide) (fun H locs hP hD hS => ?_)
    obtain rfl := q_some h
    exact xRv hx hb hr hlocks hQ hAe hP hD hK hS (dAt zX6_meet_0 29 rfl)
def m_X6_quarrel (n : Nat) (zS : TI) (zL : TL) (a1 : Int32) (a2 : Int32) : Option TI := (gd (inB (((10 : Int32) * a1) + a2) 100) ((gd (inB (((10 : Int32) * a1) + a2) 100) ((if 0 ≤ (((zS 4) (Int32.toNatClampNeg (((10 : Int32) * a1) + a2))) - (3 : Int32)) then ((m_X6_setTie n zS zL a1 a2 ((zS 5) (Int32.toNatClampNeg (((10 : Int32) * a1) + a2))) (((zS 4) (Int32.toNatClampNeg (((10 : Int32) * a1) + a2))) - (3 : Int32))).bind fun u37 => some u37) else ((m_X6_setTie n zS zL a1 a2 ((zS 5) (Int32.toNatClampNeg (((10 : Int32) * a1) + a2))) 0).bind fun u37 => some u37))))))
set_option maxHeartbeats 4000000 in
set_option maxRecDepth 100000 in
theorem c_X6_quarrel (l : Launch) (D : va_G) (cI cJ cZ : ClassId) (n : Nat) (qS : Nat → Nat) (sz : Nat) (zS : TI) (zL : TL) (a1 : Int32) (a2 : Int32) (out : TI) (hm : m_X6_quarrel n zS zL a1 a2 = some out) : Met l yX6_quarrel (wsM yX6_quarrel cX6_quarrel 4 none) { frames := 1, cells := 0, slots := 0, locals := 24 } (xPre D (kT cI cJ cZ) (w6 cI cJ cZ qS zS zL) sz [.ref (qS 0), .int a1, .int a2]) (xQv D (kT cI cJ cZ) (w6 cI cJ cZ qS zS zL) (w6 cI cJ cZ qS out zL) sz) 0 0 (va_A (w6 cI cJ cZ qS zS zL) sz) := by
  refine Met.ofW (cc := cX6_quarrel) (maxL := 4) (ret := none) (by decide) rfl ?_
  intro p e s m args below meth c s₁ B hml hv
  obtain ⟨hv, hsz, hP, hK, hD0, hN⟩ := hv
  have hx := B.exec; have hb := B.bytes; have hr := B.returns
  have hts := atoms_spec (ws := (wsM yX6_quarrel cX6_quarrel 4 none)) B.pre
  have hown : s.vm.findClass RX6 = some m.cls := findClass_of_methodNamed B.named
  have hlocks := B.notSynchronized
  subst hsz
  have hD := hD0.self (sz := s.heap.size)
  obtain ⟨A, hAe⟩ : ∃ A, A = va_A (w6 cI cJ cZ qS zS zL) s.heap.size := ⟨_, rfl⟩
  rw [← hAe] at hD
  have hA : ∀ q : Nat, s.heap.size ≤ q → A q := fun q h => by rw [hAe]; exact Or.inr h
  have htl : ∀ w ∈ wsL_law, w.before args s = true := fun w h => hts w (List.mem_cons_of_mem _ h)
  refine xHead (R' := { frames := 1, cells := 0, slots := 0, locals := 24 }) rfl (fun Q H hQ hH => ?_)
  have hP : va_P D vwCl (w6 cI cJ cZ qS zS zL) H := by rw [hH]; exact hP
  have hS : va_S A s.heap H [] := by rw [hH]; exact va_S.rf
  refine xStart hv (Nat.le_of_ble_eq_true rfl) (lv := [(0, .ref (qS 0)), (1, .int a1), (2, .int a2)]) rfl (fun ls hl => ?_)
  have h := hm
  unfold m_X6_quarrel at h
  refine lv_aload_n hx hb (dAt zX6_quarrel_0 0 rfl) rfl (lv_at hl 0 rfl) ?_
  refine va_get (D := D) (ci := 6) (v := .ref (qS 4)) (C := RX6) (T := TX6) (N := 32) hx hb htl inlX6 hown hK hP 0 rfl rfl 3 (by decide) (htl _ W_85) (fun _ h9 => h9) rfl (dAt zX6_quarrel_0 1 rfl) ?_
  refine lv_bipush (v := 10) hx hb (dAt zX6_quarrel_0 2 rfl) (by decide) ?_
  refine lv_iload_n hx hb (dAt zX6_quarrel_0 3 rfl) rfl (lv_at hl 1 rfl) ?_
  refine lv_imul hx hb (dAt zX6_quarrel_0 4 rfl) ?_
  refine lv_iload_n hx hb (dAt zX6_quarrel_0 5 rfl) rfl (lv_at hl 2 rfl) ?_
  refine lv_iadd hx hb (dAt zX6_quarrel_0 6 rfl) ?_
  obtain ⟨hi_10, h⟩ := q_in h
  refine va_iald hx hb hK hP 1 0 rfl rfl hi_10 (dAt zX6_quarrel_0 7 rfl) ?_
  refine lv_iconst (v := 3) hx hb (dAt zX6_quarrel_0 8 rfl) (by decide) ?_
  refine lv_isub hx hb (dAt zX6_quarrel_0 9 rfl) ?_
  refine lv_istore_n (lv' := [(3, .int (((zS 4) (Int32.toNatClampNeg (((10 : Int32) * a1) + a2))) - (3 : Int32))), (0, .ref (qS 0)), (1, .int a1), (2, .int a2)]) hx hb (dAt zX6_quarrel_0 10 rfl) rfl hl (by decide) rfl (fun ls hl => ?_)
  refine lv_aload_n hx hb (dAt zX6_quarrel_0 11 rfl) rfl (lv_at hl 1 rfl) ?_
  refine lv_iload_n hx hb (dAt zX6_quarrel_0 12 rfl) rfl (lv_at hl 2 rfl) ?_
  refine lv_iload_n hx hb (dAt zX6_quarrel_0 13 rfl) rfl (lv_at hl 3 rfl) ?_
  refine lv_aload_n hx hb (dAt zX6_quarrel_0 14 rfl) rfl (lv_at hl 1 rfl) ?_
  refine va_get (D := D) (ci := 6) (v := .ref (qS 5)) (C := RX6) (T := TX6) (N := 32) hx hb htl inlX6 hown hK hP 0 rfl rfl 4 (by decide) (htl _ W_86) (fun _ h9 => h9) rfl (dAt zX6_quarrel_0 15 rfl) ?_
  refine lv_bipush (v := 10) hx hb (dAt zX6_quarrel_0 16 rfl) (by decide) ?_
  refine lv_iload_n hx hb (dAt zX6_quarrel_0 17 rfl) rfl (lv_at hl 2 rfl) ?_
  refine lv_imul hx hb (dAt zX6_quarrel_0 18 rfl) ?_
  refine lv_iload_n hx hb (dAt zX6_quarrel_0 19 rfl) rfl (lv_at hl 3 rfl) ?_
  refine lv_iadd hx hb (dAt zX6_quarrel_0 20 rfl) ?_
  obtain ⟨hi_27, h⟩ := q_in h
  refine va_iald hx hb hK hP 2 0 rfl rfl hi_27 (dAt zX6_quarrel_0 21 rfl) ?_
  refine lv_iload_n hx hb (dAt zX6_quarrel_0 22 rfl) rfl (lv_at hl 0 rfl) ?_
  refine lv_if_ge (tgt := 36) hx hb (dAt zX6_quarrel_0 23 rfl) (by decide) (fun c_29 => ?_) (fun c_29 => ?_)
  · have h := q_pos c_29 h
    refine lv_iload_n hx hb (dAt zX6_quarrel_0 26 rfl) rfl (lv_at hl 0 rfl) ?_
    obtain ⟨u37, hu37, h⟩ := q_bind h
    refine xFv (wc := (w6 cI cJ cZ qS zS zL)) (w1 := (w6 cI cJ cZ qS u37 zL)) (wr := ([] : va_W)) (ws2 := (w6 cI cJ cZ qS u37 zL)) (va_runV (As := [.int a1, .int a2, .int ((zS 5) (Int32.toNatClampNeg (((10 : Int32) * a1) + a2))), .int (((zS 4) (Int32.toNatClampNeg (((10 : Int32) * a1) + a2))) - (3 : Int32))]) (rest := []) ⟨hx, hb, hml, hown, htl⟩ (c_X6_setTie l D cI cJ cZ n qS H.size zS zL a1 a2 ((zS 5) (Int32.toNatClampNeg (((10 : Int32) * a1) + a2))) (((zS 4) (Int32.toNatClampNeg (((10 : Int32) * a1) + a2))) - (3 : Int32)) u37 hu37) (cwV 4 htl (gV W_133 W_134 W_135 W_5 W_136) rfl rfl rfl (by decide +kernel) ⟨Nat.le_of_ble_eq_true rfl, Nat.le_of_ble_eq_true rfl⟩) (xPV hP hD hK hN 0 rfl rfl) rfl rfl hl.1 rfl (lv_room (Nat.le_of_ble_eq_true rfl)) (dAt zX6_quarrel_0 27 rfl) ⟨Nat.zero_le _, Nat.zero_le _⟩) hS hA hP hD [0, 1, 2, 3, 4, 5, 6, 7, 8, 9, 10, 11, 12, 13, 14, 15, 16] [] [0, 1, 2, 3, 4, 5, 6, 7, 8, 9, 10, 11, 12, 13, 14, 15, 16] rfl rfl (by decide) (by decide) rfl (by decide) (fun H locs hP hD hS => ?_)
    obtain rfl := q_some h
    exact xRv hx hb hr hlocks hQ hAe hP hD hK hS (dAt zX6_quarrel_0 28 rfl)
  · have h := q_neg c_29 h
    refine lv_iconst (v := 0) hx hb (dAt zX6_quarrel_0 24 rfl) (by decide) ?_
    refine lv_goto (tgt := 37) hx hb (dAt zX6_quarrel_0 25 rfl) (by decide) ?_
    obtain ⟨u37, hu37, h⟩ := q_bind h
    refine xFv (wc := (w6 cI cJ cZ qS zS zL)) (w1 := (w6 cI cJ cZ qS u37 zL)) (wr := ([] : va_W)) (ws2 := (w6 cI cJ cZ qS u37 zL)) (va_runV (As := [.int a1, .int a2, .int ((zS 5) (Int32.toNatClampNeg (((10 : Int32) * a1) + a2))), .int 0]) (rest := []) ⟨hx, hb, hml, hown, htl⟩ (c_X6_setTie l D cI cJ cZ n qS H.size zS zL a1 a2 ((zS 5) (Int32.toNatClampNeg (((10 : Int32) * a1) + a2))) 0 u37 hu37) (cwV 4 htl (gV W_133 W_134 W_135 W_5 W_136) rfl rfl rfl (by decide +kernel) ⟨Nat.le_of_ble_eq_true rfl, Nat.le_of_ble_eq_true rfl⟩) (xPV hP hD hK hN 0 rfl rfl) rfl rfl hl.1 rfl (lv_room (Nat.le_of_ble_eq_true rfl)) (dAt zX6_quarrel_0 27 rfl) ⟨Nat.zero_le _, Nat.zero_le _⟩) hS hA hP hD [0, 1, 2, 3, 4, 5, 6, 7, 8, 9, 10, 11, 12, 13, 14, 15, 16] [] [0, 1, 2, 3, 4, 5, 6, 7, 8, 9, 10, 11, 12, 13, 14, 15, 16] rfl rfl (by decide) (by decide) rfl (by decide) (fun H locs hP hD hS => ?_)
    obtain rfl := q_some h
    exact xRv hx hb hr hlocks hQ hAe hP hD hK hS (dAt zX6_quarrel_0 28 rfl)
def m_X6_happen (n : Nat) (zS : TI) (zL : TL) (a1 : Int32) (a2 : Int32) (a3 : Int32) : Option TI := (if a1 = 0 then ((m_X6_meet n (sf zS 17 0) zL a2 a3).bind fun u47 => some u47) else (if a1 = 1 then ((m_X6_quarrel n (sf zS 17 0) zL a2 a3).bind fun u56 => some u56) else (if a1 = 2 then ((m_X6_setTie n (sf zS 17 0) zL a2 a3 3 9).bind fun u68 => some u68) else (if a1 = 3 then some (sf (sf zS 1 ((zS 0 1) ^^^ ((1 : Int32) <<< (a2 &&& 31)))) 17 0) else (if a1 = 4 then some (sf (sf zS 2 ((zS 0 2) ^^^ ((1 : Int32) <<< (a2 &&& 31)))) 17 0) else (if a1 = 5 then ((m_X6_night n (sf zS 17 0) zL).bind fun u105 => some u105) else ((m_X6_month n (sf zS 17 0) zL).bind fun u112 => some u112)))))))
set_option maxHeartbeats 4000000 in
set_option maxRecDepth 100000 in
theorem c_X6_happen (l : Launch) (D : va_G) (cI cJ cZ : ClassId) (n : Nat) (qS : Nat → Nat) (sz : Nat) (zS : TI) (zL : TL) (a1 : Int32) (a2 : Int32) (a3 : Int32) (out : TI) (hm : m_X6_happen n zS zL a1 a2 a3 = some out) : Met l yX6_happen (wsM yX6_happen cX6_happen 4 none) { frames := 5, cells := 0, slots := 0, locals := 113 } (xPre D (kT cI cJ cZ) (w6 cI cJ cZ qS zS zL) sz [.ref (qS 0), .int a1, .int a2, .int a3]) (xQv D (kT cI cJ cZ) (w6 cI cJ cZ qS zS zL) (w6 cI cJ cZ qS out zL) sz) 0 0 (va_A (w6 cI cJ cZ qS zS zL) sz) := by
  refine Met.ofW (cc := cX6_happen) (maxL := 4) (ret := none) (by decide) rfl ?_
  intro p e s m args below meth c s₁ B hml hv
  obtain ⟨hv, hsz, hP, hK, hD0, hN⟩ := hv
  have hx := B.exec; have hb := B.bytes; have hr := B.returns
  have hts := atoms_spec (ws := (wsM yX6_happen cX6_happen 4 none)) B.pre
  have hown : s.vm.findClass RX6 = some m.cls := findClass_of_methodNamed B.named
  have hlocks := B.notSynchronized
  subst hsz
  have hD := hD0.self (sz := s.heap.size)
  obtain ⟨A, hAe⟩ : ∃ A, A = va_A (w6 cI cJ cZ qS zS zL) s.heap.size := ⟨_, rfl⟩
  rw [← hAe] at hD
  have hA : ∀ q : Nat, s.heap.size ≤ q → A q := fun q h => by rw [hAe]; exact Or.inr h
  have htl : ∀ w ∈ wsL_law, w.before args s = true := fun w h => hts w (List.mem_cons_of_mem _ h)
  refine xHead (R' := { frames := 5, cells := 0, slots := 0, locals := 113 }) rfl (fun Q H hQ hH => ?_)
  have hP : va_P D vwCl (w6 cI cJ cZ qS zS zL) H := by rw [hH]; exact hP
  have hS : va_S A s.heap H [] := by rw [hH]; exact va_S.rf
  refine xStart hv (Nat.le_of_ble_eq_true rfl) (lv := [(0, .ref (qS 0)), (1, .int a1), (2, .int a2), (3, .int a3)]) rfl (fun ls hl => ?_)
  have h := hm
  unfold m_X6_happen at h
  refine lv_aload_n hx hb (dAt zX6_happen_0 0 rfl) rfl (lv_at hl 0 rfl) ?_
  refine lv_iconst (v := 0) hx hb (dAt zX6_happen_0 1 rfl) (by decide) ?_
  refine va_put (D := D) (ci := 6) (v := .int 0) (ty := .int) (C := RX6) (T := TX6) (N := 32) hx hb htl inlX6 tyX6 tyX6_ok nmX6 hown hK hP hD hS 0 rfl rfl 17 (by decide) (htl _ W_418) (fun _ h9 => h9) rfl (by decide +kernel) rfl rfl (Nat.le_of_ble_eq_true rfl) (dAt zX6_happen_0 2 rfl) (fun H locs hP hD hS => ?_)
  have hP : va_P D vwCl (w6x cI cJ cZ qS (zS 0 0) (zS 0 1) (zS 0 2) (zS 0 8) (zS 0 10) (zS 0 14) (zS 0 15) (zS 0 16) 0 (zS 0 19) (zS 0 20) (zS 0 21) (zS 0 22) (zS 0 23) (zS 0 30) (zS 0 31) (zS 4) (zS 5) (zS 6) (zS 7) (zS 8) (zS 10) (zS 12) (zS 13) (zS 14) (zS 19) (zS 25) (zS 26) (zL 27) (zS 28) (zS 29) (zS 30)) H := hP
  have hD : va_D A (w6x cI cJ cZ qS (zS 0 0) (zS 0 1) (zS 0 2) (zS 0 8) (zS 0 10) (zS 0 14) (zS 0 15) (zS 0 16) 0 (zS 0 19) (zS 0 20) (zS 0 21) (zS 0 22) (zS 0 23) (zS 0 30) (zS 0 31) (zS 4) (zS 5) (zS 6) (zS 7) (zS 8) (zS 10) (zS 12) (zS 13) (zS 14) (zS 19) (zS 25) (zS 26) (zL 27) (zS 28) (zS 29) (zS 30)) := hD
  refine lv_iload_n hx hb (dAt zX6_happen_0 3 rfl) rfl (lv_at hl 1 rfl) ?_
  by_cases c_6_0 : a1 = 0
  · have h := q_pos c_6_0 h
    refine lv_tableIn (off := 38) (tgt := 44) hx hb (dAt zX6_happen_0 4 rfl) (by rw [c_6_0]; decide) (by rw [c_6_0]; decide) (by rw [c_6_0]; rfl) (by decide) ?_
    refine lv_aload_n hx hb (dAt zX6_happen_0 5 rfl) rfl (lv_at hl 0 rfl) ?_
    refine lv_iload_n hx hb (dAt zX6_happen_0 6 rfl) rfl (lv_at hl 2 rfl) ?_
    refine lv_iload_n hx hb (dAt zX6_happen_0 7 rfl) rfl (lv_at hl 3 rfl) ?_
    have hP : va_P D vwCl (w6 cI cJ cZ qS (sf zS 17 0) zL) H := hP
    have hD : va_D A (w6 cI cJ cZ qS (sf zS 17 0) zL) := hD
    obtain ⟨u47, hu47, h⟩ := q_bind h
    refine xFv (wc := (w6 cI cJ cZ qS (sf zS 17 0) zL)) (w1 := (w6 cI cJ cZ qS u47 zL)) (wr := ([] : va_W)) (ws2 := (w6 cI cJ cZ qS u47 zL)) (va_runV (As := [.int a2, .int a3]) (rest := []) ⟨hx, hb, hml, hown, htl⟩ (c_X6_meet l D cI cJ cZ n qS H.size (sf zS 17 0) zL a2 a3 u47 hu47) (cwV 2 htl (gV W_423 W_424 W_425 W_5 W_426) rfl rfl rfl (by decide +kernel) ⟨Nat.le_of_ble_eq_true rfl, Nat.le_of_ble_eq_true rfl⟩) (xPV hP hD hK hN 0 rfl rfl) rfl rfl hl.1 rfl (lv_room (Nat.le_of_ble_eq_true rfl)) (dAt zX6_happen_0 8 rfl) ⟨Nat.zero_le _, Nat.zero_le _⟩) hS hA hP hD [0, 1, 2, 3, 4, 5, 6, 7, 8, 9, 10, 11, 12, 13, 14, 15, 16] [] [0, 1, 2, 3, 4, 5, 6, 7, 8, 9, 10, 11, 12, 13, 14, 15, 16] rfl rfl (by decide) (by decide) rfl (by decide) (fun H locs hP hD hS => ?_)
    refine lv_goto (tgt := 115) hx hb (dAt zX6_happen_0 9 rfl) (by decide) ?_
    obtain rfl := q_some h
    exact xRv hx hb hr hlocks hQ hAe hP hD hK hS (dAt zX6_happen_0 45 rfl)
  · have h := q_neg c_6_0 h
    by_cases c_6_1 : a1 = 1
    · have h := q_pos c_6_1 h
      refine lv_tableIn (off := 47) (tgt := 53) hx hb (dAt zX6_happen_0 4 rfl) (by rw [c_6_1]; decide) (by rw [c_6_1]; decide) (by rw [c_6_1]; rfl) (by decide) ?_
      refine lv_aload_n hx hb (dAt zX6_happen_0 10 rfl) rfl (lv_at hl 0 rfl) ?_
      refine lv_iload_n hx hb (dAt zX6_happen_0 11 rfl) rfl (lv_at hl 2 rfl) ?_
      refine lv_iload_n hx hb (dAt zX6_happen_0 12 rfl) rfl (lv_at hl 3 rfl) ?_
      have hP : va_P D vwCl (w6 cI cJ cZ qS (sf zS 17 0) zL) H := hP
      have hD : va_D A (w6 cI cJ cZ qS (sf zS 17 0) zL) := hD
      obtain ⟨u56, hu56, h⟩ := q_bind h
      refine xFv (wc := (w6 cI cJ cZ qS (sf zS 17 0) zL)) (w1 := (w6 cI cJ cZ qS u56 zL)) (wr := ([] : va_W)) (ws2 := (w6 cI cJ cZ qS u56 zL)) (va_runV (As := [.int a2, .int a3]) (rest := []) ⟨hx, hb, hml, hown, htl⟩ (c_X6_quarrel l D cI cJ cZ n qS H.size (sf zS 17 0) zL a2 a3 u56 hu56) (cwV 2 htl (gV W_427 W_428 W_429 W_5 W_430) rfl rfl rfl (by decide +kernel) ⟨Nat.le_of_ble_eq_true rfl, Nat.le_of_ble_eq_true rfl⟩) (xPV hP hD hK hN 0 rfl rfl) rfl rfl hl.1 rfl (lv_room (Nat.le_of_ble_eq_true rfl)) (dAt zX6_happen_0 13 rfl) ⟨Nat.zero_le _, Nat.zero_le _⟩) hS hA hP hD [0, 1, 2, 3, 4, 5, 6, 7, 8, 9, 10, 11, 12, 13, 14, 15, 16] [] [0, 1, 2, 3, 4, 5, 6, 7, 8, 9, 10, 11, 12, 13, 14, 15, 16] rfl rfl (by decide) (by decide) rfl (by decide) (fun H locs hP hD hS => ?_)
      refine lv_goto (tgt := 115) hx hb (dAt zX6_happen_0 14 rfl) (by decide) ?_
      obtain rfl := q_some h
      exact xRv hx hb hr hlocks hQ hAe hP hD hK hS (dAt zX6_happen_0 45 rfl)
    · have h := q_neg c_6_1 h
      by_cases c_6_2 : a1 = 2
      · have h := q_pos c_6_2 h
        refine lv_tableIn (off := 56) (tgt := 62) hx hb (dAt zX6_happen_0 4 rfl) (by rw [c_6_2]; decide) (by rw [c_6_2]; decide) (by rw [c_6_2]; rfl) (by decide) ?_
        refine lv_aload_n hx hb (dAt zX6_happen_0 15 rfl) rfl (lv_at hl 0 rfl) ?_
        refine lv_iload_n hx hb (dAt zX6_happen_0 16 rfl) rfl (lv_at hl 2 rfl) ?_
        refine lv_iload_n hx hb (dAt zX6_happen_0 17 rfl) rfl (lv_at hl 3 rfl) ?_
        refine lv_iconst (v := 3) hx hb (dAt zX6_happen_0 18 rfl) (by decide) ?_
        refine lv_bipush (v := 9) hx hb (dAt zX6_happen_0 19 rfl) (by decide) ?_
        have hP : va_P D vwCl (w6 cI cJ cZ qS (sf zS 17 0) zL) H := hP
        have hD : va_D A (w6 cI cJ cZ qS (sf zS 17 0) zL) := hD
        obtain ⟨u68, hu68, h⟩ := q_bind h
        refine xFv (wc := (w6 cI cJ cZ qS (sf zS 17 0) zL)) (w1 := (w6 cI cJ cZ qS u68 zL)) (wr := ([] : va_W)) (ws2 := (w6 cI cJ cZ qS u68 zL)) (va_runV (As := [.int a2, .int a3, .int 3, .int 9]) (rest := []) ⟨hx, hb, hml, hown, htl⟩ (c_X6_setTie l D cI cJ cZ n qS H.size (sf zS 17 0) zL a2 a3 3 9 u68 hu68) (cwV 4 htl (gV W_133 W_134 W_135 W_5 W_136) rfl rfl rfl (by decide +kernel) ⟨Nat.le_of_ble_eq_true rfl, Nat.le_of_ble_eq_true rfl⟩) (xPV hP hD hK hN 0 rfl rfl) rfl rfl hl.1 rfl (lv_room (Nat.le_of_ble_eq_true rfl)) (dAt zX6_happen_0 20 rfl) ⟨Nat.zero_le _, Nat.zero_le _⟩) hS hA hP hD [0, 1, 2, 3, 4, 5, 6, 7, 8, 9, 10, 11, 12, 13, 14, 15, 16] [] [0, 1, 2, 3, 4, 5, 6, 7, 8, 9, 10, 11, 12, 13, 14, 15, 16] rfl rfl (by decide) (by decide) rfl (by decide) (fun H locs hP hD hS => ?_)
        refine lv_goto (tgt := 115) hx hb (dAt zX6_happen_0 21 rfl) (by decide) ?_
        obtain rfl := q_some h
        exact xRv hx hb hr hlocks hQ hAe hP hD hK hS (dAt zX6_happen_0 45 rfl)
      · have h := q_neg c_6_2 h
        by_cases c_6_3 : a1 = 3
        · have h := q_pos c_6_3 h
          refine lv_tableIn (off := 68) (tgt := 74) hx hb (dAt zX6_happen_0 4 rfl) (by rw [c_6_3]; decide) (by rw [c_6_3]; decide) (by rw [c_6_3]; rfl) (by decide) ?_
          refine lv_aload_n hx hb (dAt zX6_happen_0 22 rfl) rfl (lv_at hl 0 rfl) ?_
          refine lv_dup hx hb (dAt zX6_happen_0 23 rfl) rfl ?_
          refine va_get (D := D) (ci := 6) (v := .int (zS 0 1)) (C := RX6) (T := TX6) (N := 32) hx hb htl inlX6 hown hK hP 0 rfl rfl 1 (by decide) (htl _ W_160) (fun _ h9 => h9) rfl (dAt zX6_happen_0 24 rfl) ?_
          refine lv_iconst (v := 1) hx hb (dAt zX6_happen_0 25 rfl) (by decide) ?_
          refine lv_iload_n hx hb (dAt zX6_happen_0 26 rfl) rfl (lv_at hl 2 rfl) ?_
          refine lv_ishl hx hb (dAt zX6_happen_0 27 rfl) ?_
          refine lv_ixor hx hb (dAt zX6_happen_0 28 rfl) ?_
          refine va_put (D := D) (ci := 6) (v := .int ((zS 0 1) ^^^ ((1 : Int32) <<< (a2 &&& 31)))) (ty := .int) (C := RX6) (T := TX6) (N := 32) hx hb htl inlX6 tyX6 tyX6_ok nmX6 hown hK hP hD hS 0 rfl rfl 1 (by decide) (htl _ W_160) (fun _ h9 => h9) rfl (by decide +kernel) rfl rfl (Nat.le_of_ble_eq_true rfl) (dAt zX6_happen_0 29 rfl) (fun H locs hP hD hS => ?_)
          have hP : va_P D vwCl (w6x cI cJ cZ qS (zS 0 0) ((zS 0 1) ^^^ ((1 : Int32) <<< (a2 &&& 31))) (zS 0 2) (zS 0 8) (zS 0 10) (zS 0 14) (zS 0 15) (zS 0 16) 0 (zS 0 19) (zS 0 20) (zS 0 21) (zS 0 22) (zS 0 23) (zS 0 30) (zS 0 31) (zS 4) (zS 5) (zS 6) (zS 7) (zS 8) (zS 10) (zS 12) (zS 13) (zS 14) (zS 19) (zS 25) (zS 26) (zL 27) (zS 28) (zS 29) (zS 30)) H := hP
          have hD : va_D A (w6x cI cJ cZ qS (zS 0 0) ((zS 0 1) ^^^ ((1 : Int32) <<< (a2 &&& 31))) (zS 0 2) (zS 0 8) (zS 0 10) (zS 0 14) (zS 0 15) (zS 0 16) 0 (zS 0 19) (zS 0 20) (zS 0 21) (zS 0 22) (zS 0 23) (zS 0 30) (zS 0 31) (zS 4) (zS 5) (zS 6) (zS 7) (zS 8) (zS 10) (zS 12) (zS 13) (zS 14) (zS 19) (zS 25) (zS 26) (zL 27) (zS 28) (zS 29) (zS 30)) := hD
          refine lv_goto (tgt := 115) hx hb (dAt zX6_happen_0 30 rfl) (by decide) ?_
          have hP : va_P D vwCl (w6 cI cJ cZ qS (sf (sf zS 1 ((zS 0 1) ^^^ ((1 : Int32) <<< (a2 &&& 31)))) 17 0) zL) H := hP
          have hD : va_D A (w6 cI cJ cZ qS (sf (sf zS 1 ((zS 0 1) ^^^ ((1 : Int32) <<< (a2 &&& 31)))) 17 0) zL) := hD
          obtain rfl := q_some h
          exact xRv hx hb hr hlocks hQ hAe hP hD hK hS (dAt zX6_happen_0 45 rfl)
        · have h := q_neg c_6_3 h
          by_cases c_6_4 : a1 = 4
          · have h := q_pos c_6_4 h
            refine lv_tableIn (off := 83) (tgt := 89) hx hb (dAt zX6_happen_0 4 rfl) (by rw [c_6_4]; decide) (by rw [c_6_4]; decide) (by rw [c_6_4]; rfl) (by decide) ?_
            refine lv_aload_n hx hb (dAt zX6_happen_0 31 rfl) rfl (lv_at hl 0 rfl) ?_
            refine lv_dup hx hb (dAt zX6_happen_0 32 rfl) rfl ?_
            refine va_get (D := D) (ci := 6) (v := .int (zS 0 2)) (C := RX6) (T := TX6) (N := 32) hx hb htl inlX6 hown hK hP 0 rfl rfl 2 (by decide) (htl _ W_161) (fun _ h9 => h9) rfl (dAt zX6_happen_0 33 rfl) ?_
            refine lv_iconst (v := 1) hx hb (dAt zX6_happen_0 34 rfl) (by decide) ?_
            refine lv_iload_n hx hb (dAt zX6_happen_0 35 rfl) rfl (lv_at hl 2 rfl) ?_
            refine lv_ishl hx hb (dAt zX6_happen_0 36 rfl) ?_
            refine lv_ixor hx hb (dAt zX6_happen_0 37 rfl) ?_
            refine va_put (D := D) (ci := 6) (v := .int ((zS 0 2) ^^^ ((1 : Int32) <<< (a2 &&& 31)))) (ty := .int) (C := RX6) (T := TX6) (N := 32) hx hb htl inlX6 tyX6 tyX6_ok nmX6 hown hK hP hD hS 0 rfl rfl 2 (by decide) (htl _ W_161) (fun _ h9 => h9) rfl (by decide +kernel) rfl rfl (Nat.le_of_ble_eq_true rfl) (dAt zX6_happen_0 38 rfl) (fun H locs hP hD hS => ?_)
            have hP : va_P D vwCl (w6x cI cJ cZ qS (zS 0 0) (zS 0 1) ((zS 0 2) ^^^ ((1 : Int32) <<< (a2 &&& 31))) (zS 0 8) (zS 0 10) (zS 0 14) (zS 0 15) (zS 0 16) 0 (zS 0 19) (zS 0 20) (zS 0 21) (zS 0 22) (zS 0 23) (zS 0 30) (zS 0 31) (zS 4) (zS 5) (zS 6) (zS 7) (zS 8) (zS 10) (zS 12) (zS 13) (zS 14) (zS 19) (zS 25) (zS 26) (zL 27) (zS 28) (zS 29) (zS 30)) H := hP
            have hD : va_D A (w6x cI cJ cZ qS (zS 0 0) (zS 0 1) ((zS 0 2) ^^^ ((1 : Int32) <<< (a2 &&& 31))) (zS 0 8) (zS 0 10) (zS 0 14) (zS 0 15) (zS 0 16) 0 (zS 0 19) (zS 0 20) (zS 0 21) (zS 0 22) (zS 0 23) (zS 0 30) (zS 0 31) (zS 4) (zS 5) (zS 6) (zS 7) (zS 8) (zS 10) (zS 12) (zS 13) (zS 14) (zS 19) (zS 25) (zS 26) (zL 27) (zS 28) (zS 29) (zS 30)) := hD
            refine lv_goto (tgt := 115) hx hb (dAt zX6_happen_0 39 rfl) (by decide) ?_
            have hP : va_P D vwCl (w6 cI cJ cZ qS (sf (sf zS 2 ((zS 0 2) ^^^ ((1 : Int32) <<< (a2 &&& 31)))) 17 0) zL) H := hP
            have hD : va_D A (w6 cI cJ cZ qS (sf (sf zS 2 ((zS 0 2) ^^^ ((1 : Int32) <<< (a2 &&& 31)))) 17 0) zL) := hD
            obtain rfl := q_some h
            exact xRv hx hb hr hlocks hQ hAe hP hD hK hS (dAt zX6_happen_0 45 rfl)
          · have h := q_neg c_6_4 h
            by_cases c_6_5 : a1 = 5
            · have h := q_pos c_6_5 h
              refine lv_tableIn (off := 98) (tgt := 104) hx hb (dAt zX6_happen_0 4 rfl) (by rw [c_6_5]; decide) (by rw [c_6_5]; decide) (by rw [c_6_5]; rfl) (by decide) ?_
              refine lv_aload_n hx hb (dAt zX6_happen_0 40 rfl) rfl (lv_at hl 0 rfl) ?_
              have hP : va_P D vwCl (w6 cI cJ cZ qS (sf zS 17 0) zL) H := hP
              have hD : va_D A (w6 cI cJ cZ qS (sf zS 17 0) zL) := hD
              obtain ⟨u105, hu105, h⟩ := q_bind h
              refine xFv (wc := (w6 cI cJ cZ qS (sf zS 17 0) zL)) (w1 := (w6 cI cJ cZ qS u105 zL)) (wr := ([] : va_W)) (ws2 := (w6 cI cJ cZ qS u105 zL)) (va_runV (As := []) (rest := []) ⟨hx, hb, hml, hown, htl⟩ (c_X6_night l D cI cJ cZ n qS H.size (sf zS 17 0) zL  u105 hu105) (cwV 0 htl (gV W_431 W_432 W_433 W_5 W_434) rfl rfl rfl (by decide +kernel) ⟨Nat.le_of_ble_eq_true rfl, Nat.le_of_ble_eq_true rfl⟩) (xPV hP hD hK hN 0 rfl rfl) rfl rfl hl.1 rfl (lv_room (Nat.le_of_ble_eq_true rfl)) (dAt zX6_happen_0 41 rfl) ⟨Nat.zero_le _, Nat.zero_le _⟩) hS hA hP hD [0, 1, 2, 3, 4, 5, 6, 7, 8, 9, 10, 11, 12, 13, 14, 15, 16] [] [0, 1, 2, 3, 4, 5, 6, 7, 8, 9, 10, 11, 12, 13, 14, 15, 16] rfl rfl (by decide) (by decide) rfl (by decide) (fun H locs hP hD hS => ?_)
              refine lv_goto (tgt := 115) hx hb (dAt zX6_happen_0 42 rfl) (by decide) ?_
              obtain rfl := q_some h
              exact xRv hx hb hr hlocks hQ hAe hP hD hK hS (dAt zX6_happen_0 45 rfl)
            · have h := q_neg c_6_5 h
              refine lv_tableOut (tgt := 111) hx hb (dAt zX6_happen_0 4 rfl) (tabOut (fun k h1 h2 q => by
                  have q0 : k = 0 ∨ k = 1 ∨ k = 2 ∨ k = 3 ∨ k = 4 ∨ k = 5 := by omega
                  rcases q0 with q0 | q0 | q0 | q0 | q0 | q0
                  · exact c_6_0 (Int32.toInt_inj.mp (by rw [q, q0]; rfl))
                  · exact c_6_1 (Int32.toInt_inj.mp (by rw [q, q0]; rfl))
                  · exact c_6_2 (Int32.toInt_inj.mp (by rw [q, q0]; rfl))
                  · exact c_6_3 (Int32.toInt_inj.mp (by rw [q, q0]; rfl))
                  · exact c_6_4 (Int32.toInt_inj.mp (by rw [q, q0]; rfl))
                  · exact c_6_5 (Int32.toInt_inj.mp (by rw [q, q0]; rfl))
                  )) (by decide) ?_
              refine lv_aload_n hx hb (dAt zX6_happen_0 43 rfl) rfl (lv_at hl 0 rfl) ?_
              have hP : va_P D vwCl (w6 cI cJ cZ qS (sf zS 17 0) zL) H := hP
              have hD : va_D A (w6 cI cJ cZ qS (sf zS 17 0) zL) := hD
              obtain ⟨u112, hu112, h⟩ := q_bind h
              refine xFv (wc := (w6 cI cJ cZ qS (sf zS 17 0) zL)) (w1 := (w6 cI cJ cZ qS u112 zL)) (wr := ([] : va_W)) (ws2 := (w6 cI cJ cZ qS u112 zL)) (va_runV (As := []) (rest := []) ⟨hx, hb, hml, hown, htl⟩ (c_X6_month l D cI cJ cZ n qS H.size (sf zS 17 0) zL  u112 hu112) (cwV 0 htl (gV W_459 W_460 W_461 W_5 W_462) rfl rfl rfl (by decide +kernel) ⟨Nat.le_of_ble_eq_true rfl, Nat.le_of_ble_eq_true rfl⟩) (xPV hP hD hK hN 0 rfl rfl) rfl rfl hl.1 rfl (lv_room (Nat.le_of_ble_eq_true rfl)) (dAt zX6_happen_0 44 rfl) ⟨Nat.zero_le _, Nat.zero_le _⟩) hS hA hP hD [0, 1, 2, 3, 4, 5, 6, 7, 8, 9, 10, 11, 12, 13, 14, 15, 16] [] [0, 1, 2, 3, 4, 5, 6, 7, 8, 9, 10, 11, 12, 13, 14, 15, 16] rfl rfl (by decide) (by decide) rfl (by decide) (fun H locs hP hD hS => ?_)
              obtain rfl := q_some h
              exact xRv hx hb hr hlocks hQ hAe hP hD hK hS (dAt zX6_happen_0 45 rfl)
def b_X6_keepNow_2 (n : Nat) (s_2 : Int32 × TI) (k_2 : Int32 × TI → Option TI) : Option TI := (if 100 ≤ s_2.1 then some (upA s_2.2 19 (upd (upd (upd (s_2.2 19) 200 (s_2.2 0 0)) 201 (s_2.2 0 1)) 202 (s_2.2 0 2))) else (gd (inB s_2.1 100) ((gd (inB s_2.1 203) ((gd (inB s_2.1 100) ((gd (inB ((100 : Int32) + s_2.1) 203) ((k_2 ((s_2.1 + 1), (upA s_2.2 19 (upd (upd (s_2.2 19) (Int32.toNatClampNeg s_2.1) ((s_2.2 4) (Int32.toNatClampNeg s_2.1))) (Int32.toNatClampNeg ((100 : Int32) + s_2.1)) ((s_2.2 5) (Int32.toNatClampNeg s_2.1)))))))))))))))
def m_X6_keepNow (n : Nat) (zS : TI) (zL : TL) : Option TI := (loopF (b_X6_keepNow_2 n ) n (0, zS))
set_option maxHeartbeats 4000000 in
set_option maxRecDepth 100000 in
theorem c_X6_keepNow (l : Launch) (D : va_G) (cI cJ cZ : ClassId) (n : Nat) (qS : Nat → Nat) (sz : Nat) (zS : TI) (zL : TL) (out : TI) (hm : m_X6_keepNow n zS zL = some out) : Met l yX6_keepNow (wsM yX6_keepNow cX6_keepNow 2 none) { frames := 0, cells := 0, slots := 0, locals := 0 } (xPre D (kT cI cJ cZ) (w6 cI cJ cZ qS zS zL) sz [.ref (qS 0)]) (xQv D (kT cI cJ cZ) (w6 cI cJ cZ qS zS zL) (w6 cI cJ cZ qS out zL) sz) 0 0 (va_A (w6 cI cJ cZ qS zS zL) sz) := by
  refine Met.ofW (cc := cX6_keepNow) (maxL := 2) (ret := none) (by decide) rfl ?_
  intro p e s m args below meth c s₁ B hml hv
  obtain ⟨hv, hsz, hP, hK, hD0, hN⟩ := hv
  have hx := B.exec; have hb := B.bytes; have hr := B.returns
  have hts := atoms_spec (ws := (wsM yX6_keepNow cX6_keepNow 2 none)) B.pre
  have hown : s.vm.findClass RX6 = some m.cls := findClass_of_methodNamed B.named
  have hlocks := B.notSynchronized
  subst hsz
  have hD := hD0.self (sz := s.heap.size)
  obtain ⟨A, hAe⟩ : ∃ A, A = va_A (w6 cI cJ cZ qS zS zL) s.heap.size := ⟨_, rfl⟩
  rw [← hAe] at hD
  have hA : ∀ q : Nat, s.heap.size ≤ q → A q := fun q h => by rw [hAe]; exact Or.inr h
  have htl : ∀ w ∈ wsL_law, w.before args s = true := fun w h => hts w (List.mem_cons_of_mem _ h)
  refine xHead (R' := { frames := 0, cells := 0, slots := 0, locals := 0 }) rfl (fun Q H hQ hH => ?_)
  have hP : va_P D vwCl (w6 cI cJ cZ qS zS zL) H := by rw [hH]; exact hP
  have hS : va_S A s.heap H [] := by rw [hH]; exact va_S.rf
  refine xStart hv (Nat.le_of_ble_eq_true rfl) (lv := [(0, .ref (qS 0))]) rfl (fun ls hl => ?_)
  have h := hm
  unfold m_X6_keepNow at h
  refine lv_iconst (v := 0) hx hb (dAt zX6_keepNow_0 0 rfl) (by decide) ?_
  refine lv_istore_n (lv' := [(1, .int 0), (0, .ref (qS 0))]) hx hb (dAt zX6_keepNow_0 1 rfl) rfl hl (by decide) rfl (fun ls hl => ?_)
  have L_2 : ∀ (j_2 : Nat) (v1_2 : Int32) (zS_2 : TI) (H : Heap) (locs : List Loc) (ls : Array Slot), loopF (b_X6_keepNow_2 n) j_2 (v1_2, zS_2) = some out → va_P D vwCl (w6 cI cJ cZ qS zS_2 zL) H → va_D A (w6 cI cJ cZ qS zS_2 zL) → va_S A s.heap H locs → lv_has ls 2 [(0, .ref (qS 0)), (1, .int v1_2)] → W p l e { frames := 0, cells := 0, slots := 0, locals := 0 } s m args below meth c H locs 0 0 Q (F0 m 2 ls []) := by
    intro j_2
    induction j_2 with
    | zero => intro v1_2 zS_2 H locs ls h hP hD hS hl; exact loopF_0 h
    | succ j_2 ih_2 =>
      intro v1_2 zS_2 H locs ls h hP hD hS hl
      have h := loopF_s h
      unfold b_X6_keepNow_2 at h
      refine lv_iload_n hx hb (dAt zX6_keepNow_0 2 rfl) rfl (lv_at hl 1 rfl) ?_
      refine lv_bipush (v := 100) hx hb (dAt zX6_keepNow_0 3 rfl) (by decide) ?_
      refine lv_icmp_ge (tgt := 41) hx hb (dAt zX6_keepNow_0 4 rfl) (by decide) (fun c_5 => ?_) (fun c_5 => ?_)
      · have h := q_pos c_5 h
        refine lv_aload_n hx hb (dAt zX6_keepNow_0 25 rfl) rfl (lv_at hl 0 rfl) ?_
        refine va_get (D := D) (ci := 6) (v := .ref (qS 19)) (C := RX6) (T := TX6) (N := 32) hx hb htl inlX6 hown hK hP 0 rfl rfl 18 (by decide) (htl _ W_94) (fun _ h9 => h9) rfl (dAt zX6_keepNow_0 26 rfl) ?_
        refine lv_sipush (v := 200) hx hb (dAt zX6_keepNow_0 27 rfl) (by decide) ?_
        refine lv_aload_n hx hb (dAt zX6_keepNow_0 28 rfl) rfl (lv_at hl 0 rfl) ?_
        refine va_get (D := D) (ci := 6) (v := .int (zS_2 0 0)) (C := RX6) (T := TX6) (N := 32) hx hb htl inlX6 hown hK hP 0 rfl rfl 0 (by decide) (htl _ W_102) (fun _ h9 => h9) rfl (dAt zX6_keepNow_0 29 rfl) ?_
        refine va_iast hx hb hK hP hD hS 10 0 rfl rfl (q_inb (by decide)) (dAt zX6_keepNow_0 30 rfl) (fun H locs hP hD hS => ?_)
        have hP : va_P D vwCl (w6x cI cJ cZ qS (zS_2 0 0) (zS_2 0 1) (zS_2 0 2) (zS_2 0 8) (zS_2 0 10) (zS_2 0 14) (zS_2 0 15) (zS_2 0 16) (zS_2 0 17) (zS_2 0 19) (zS_2 0 20) (zS_2 0 21) (zS_2 0 22) (zS_2 0 23) (zS_2 0 30) (zS_2 0 31) (zS_2 4) (zS_2 5) (zS_2 6) (zS_2 7) (zS_2 8) (zS_2 10) (zS_2 12) (zS_2 13) (zS_2 14) (upd (zS_2 19) 200 (zS_2 0 0)) (zS_2 25) (zS_2 26) (zL 27) (zS_2 28) (zS_2 29) (zS_2 30)) H := hP
        have hD : va_D A (w6x cI cJ cZ qS (zS_2 0 0) (zS_2 0 1) (zS_2 0 2) (zS_2 0 8) (zS_2 0 10) (zS_2 0 14) (zS_2 0 15) (zS_2 0 16) (zS_2 0 17) (zS_2 0 19) (zS_2 0 20) (zS_2 0 21) (zS_2 0 22) (zS_2 0 23) (zS_2 0 30) (zS_2 0 31) (zS_2 4) (zS_2 5) (zS_2 6) (zS_2 7) (zS_2 8) (zS_2 10) (zS_2 12) (zS_2 13) (zS_2 14) (upd (zS_2 19) 200 (zS_2 0 0)) (zS_2 25) (zS_2 26) (zL 27) (zS_2 28) (zS_2 29) (zS_2 30)) := hD
        refine lv_aload_n hx hb (dAt zX6_keepNow_0 31 rfl) rfl (lv_at hl 0 rfl) ?_
        refine va_get (D := D) (ci := 6) (v := .ref (qS 19)) (C := RX6) (T := TX6) (N := 32) hx hb htl inlX6 hown hK hP 0 rfl rfl 18 (by decide) (htl _ W_94) (fun _ h9 => h9) rfl (dAt zX6_keepNow_0 32 rfl) ?_
        refine lv_sipush (v := 201) hx hb (dAt zX6_keepNow_0 33 rfl) (by decide) ?_
        refine lv_aload_n hx hb (dAt zX6_keepNow_0 34 rfl) rfl (lv_at hl 0 rfl) ?_
        refine va_get (D := D) (ci := 6) (v := .int (zS_2 0 1)) (C := RX6) (T := TX6) (N := 32) hx hb htl inlX6 hown hK hP 0 rfl rfl 1 (by decide) (htl _ W_160) (fun _ h9 => h9) rfl (dAt zX6_keepNow_0 35 rfl) ?_
        refine va_iast hx hb hK hP hD hS 10 0 rfl rfl (q_inb (by decide)) (dAt zX6_keepNow_0 36 rfl) (fun H locs hP hD hS => ?_)
        have hP : va_P D vwCl (w6x cI cJ cZ qS (zS_2 0 0) (zS_2 0 1) (zS_2 0 2) (zS_2 0 8) (zS_2 0 10) (zS_2 0 14) (zS_2 0 15) (zS_2 0 16) (zS_2 0 17) (zS_2 0 19) (zS_2 0 20) (zS_2 0 21) (zS_2 0 22) (zS_2 0 23) (zS_2 0 30) (zS_2 0 31) (zS_2 4) (zS_2 5) (zS_2 6) (zS_2 7) (zS_2 8) (zS_2 10) (zS_2 12) (zS_2 13) (zS_2 14) (upd (upd (zS_2 19) 200 (zS_2 0 0)) 201 (zS_2 0 1)) (zS_2 25) (zS_2 26) (zL 27) (zS_2 28) (zS_2 29) (zS_2 30)) H := hP
        have hD : va_D A (w6x cI cJ cZ qS (zS_2 0 0) (zS_2 0 1) (zS_2 0 2) (zS_2 0 8) (zS_2 0 10) (zS_2 0 14) (zS_2 0 15) (zS_2 0 16) (zS_2 0 17) (zS_2 0 19) (zS_2 0 20) (zS_2 0 21) (zS_2 0 22) (zS_2 0 23) (zS_2 0 30) (zS_2 0 31) (zS_2 4) (zS_2 5) (zS_2 6) (zS_2 7) (zS_2 8) (zS_2 10) (zS_2 12) (zS_2 13) (zS_2 14) (upd (upd (zS_2 19) 200 (zS_2 0 0)) 201 (zS_2 0 1)) (zS_2 25) (zS_2 26) (zL 27) (zS_2 28) (zS_2 29) (zS_2 30)) := hD
        refine lv_aload_n hx hb (dAt zX6_keepNow_0 37 rfl) rfl (lv_at hl 0 rfl) ?_
        refine va_get (D := D) (ci := 6) (v := .ref (qS 19)) (C := RX6) (T := TX6) (N := 32) hx hb htl inlX6 hown hK hP 0 rfl rfl 18 (by decide) (htl _ W_94) (fun _ h9 => h9) rfl (dAt zX6_keepNow_0 38 rfl) ?_
        refine lv_sipush (v := 202) hx hb (dAt zX6_keepNow_0 39 rfl) (by decide) ?_
        refine lv_aload_n hx hb (dAt zX6_keepNow_0 40 rfl) rfl (lv_at hl 0 rfl) ?_
        refine va_get (D := D) (ci := 6) (v := .int (zS_2 0 2)) (C := RX6) (T := TX6) (N := 32) hx hb htl inlX6 hown hK hP 0 rfl rfl 2 (by decide) (htl _ W_161) (fun _ h9 => h9) rfl (dAt zX6_keepNow_0 41 rfl) ?_
        refine va_iast hx hb hK hP hD hS 10 0 rfl rfl (q_inb (by decide)) (dAt zX6_keepNow_0 42 rfl) (fun H locs hP hD hS => ?_)
        have hP : va_P D vwCl (w6x cI cJ cZ qS (zS_2 0 0) (zS_2 0 1) (zS_2 0 2) (zS_2 0 8) (zS_2 0 10) (zS_2 0 14) (zS_2 0 15) (zS_2 0 16) (zS_2 0 17) (zS_2 0 19) (zS_2 0 20) (zS_2 0 21) (zS_2 0 22) (zS_2 0 23) (zS_2 0 30) (zS_2 0 31) (zS_2 4) (zS_2 5) (zS_2 6) (zS_2 7) (zS_2 8) (zS_2 10) (zS_2 12) (zS_2 13) (zS_2 14) (upd (upd (upd (zS_2 19) 200 (zS_2 0 0)) 201 (zS_2 0 1)) 202 (zS_2 0 2)) (zS_2 25) (zS_2 26) (zL 27) (zS_2 28) (zS_2 29) (zS_2 30)) H := hP
        have hD : va_D A (w6x cI cJ cZ qS (zS_2 0 0) (zS_2 0 1) (zS_2 0 2) (zS_2 0 8) (zS_2 0 10) (zS_2 0 14) (zS_2 0 15) (zS_2 0 16) (zS_2 0 17) (zS_2 0 19) (zS_2 0 20) (zS_2 0 21) (zS_2 0 22) (zS_2 0 23) (zS_2 0 30) (zS_2 0 31) (zS_2 4) (zS_2 5) (zS_2 6) (zS_2 7) (zS_2 8) (zS_2 10) (zS_2 12) (zS_2 13) (zS_2 14) (upd (upd (upd (zS_2 19) 200 (zS_2 0 0)) 201 (zS_2 0 1)) 202 (zS_2 0 2)) (zS_2 25) (zS_2 26) (zL 27) (zS_2 28) (zS_2 29) (zS_2 30)) := hD
        have hP : va_P D vwCl (w6 cI cJ cZ qS (upA zS_2 19 (upd (upd (upd (zS_2 19) 200 (zS_2 0 0)) 201 (zS_2 0 1)) 202 (zS_2 0 2))) zL) H := hP
        have hD : va_D A (w6 cI cJ cZ qS (upA zS_2 19 (upd (upd (upd (zS_2 19) 200 (zS_2 0 0)) 201 (zS_2 0 1)) 202 (zS_2 0 2))) zL) := hD
        obtain rfl := q_some h
        exact xRv hx hb hr hlocks hQ hAe hP hD hK hS (dAt zX6_keepNow_0 43 rfl)
      · have h := q_neg c_5 h
        refine lv_aload_n hx hb (dAt zX6_keepNow_0 5 rfl) rfl (lv_at hl 0 rfl) ?_
        refine va_get (D := D) (ci := 6) (v := .ref (qS 19)) (C := RX6) (T := TX6) (N := 32) hx hb htl inlX6 hown hK hP 0 rfl rfl 18 (by decide) (htl _ W_94) (fun _ h9 => h9) rfl (dAt zX6_keepNow_0 6 rfl) ?_
        refine lv_iload_n hx hb (dAt zX6_keepNow_0 7 rfl) rfl (lv_at hl 1 rfl) ?_
        refine lv_aload_n hx hb (dAt zX6_keepNow_0 8 rfl) rfl (lv_at hl 0 rfl) ?_
        refine va_get (D := D) (ci := 6) (v := .ref (qS 4)) (C := RX6) (T := TX6) (N := 32) hx hb htl inlX6 hown hK hP 0 rfl rfl 3 (by decide) (htl _ W_85) (fun _ h9 => h9) rfl (dAt zX6_keepNow_0 9 rfl) ?_
        refine lv_iload_n hx hb (dAt zX6_keepNow_0 10 rfl) rfl (lv_at hl 1 rfl) ?_
        obtain ⟨hi_18, h⟩ := q_in h
        refine va_iald hx hb hK hP 1 0 rfl rfl hi_18 (dAt zX6_keepNow_0 11 rfl) ?_
        obtain ⟨hi_19, h⟩ := q_in h
        refine va_iast hx hb hK hP hD hS 10 0 rfl rfl hi_19 (dAt zX6_keepNow_0 12 rfl) (fun H locs hP hD hS => ?_)
        have hP : va_P D vwCl (w6x cI cJ cZ qS (zS_2 0 0) (zS_2 0 1) (zS_2 0 2) (zS_2 0 8) (zS_2 0 10) (zS_2 0 14) (zS_2 0 15) (zS_2 0 16) (zS_2 0 17) (zS_2 0 19) (zS_2 0 20) (zS_2 0 21) (zS_2 0 22) (zS_2 0 23) (zS_2 0 30) (zS_2 0 31) (zS_2 4) (zS_2 5) (zS_2 6) (zS_2 7) (zS_2 8) (zS_2 10) (zS_2 12) (zS_2 13) (zS_2 14) (upd (zS_2 19) (Int32.toNatClampNeg v1_2) ((zS_2 4) (Int32.toNatClampNeg v1_2))) (zS_2 25) (zS_2 26) (zL 27) (zS_2 28) (zS_2 29) (zS_2 30)) H := hP
        have hD : va_D A (w6x cI cJ cZ qS (zS_2 0 0) (zS_2 0 1) (zS_2 0 2) (zS_2 0 8) (zS_2 0 10) (zS_2 0 14) (zS_2 0 15) (zS_2 0 16) (zS_2 0 17) (zS_2 0 19) (zS_2 0 20) (zS_2 0 21) (zS_2 0 22) (zS_2 0 23) (zS_2 0 30) (zS_2 0 31) (zS_2 4) (zS_2 5) (zS_2 6) (zS_2 7) (zS_2 8) (zS_2 10) (zS_2 12) (zS_2 13) (zS_2 14) (upd (zS_2 19) (Int32.toNatClampNeg v1_2) ((zS_2 4) (Int32.toNatClampNeg v1_2))) (zS_2 25) (zS_2 26) (zL 27) (zS_2 28) (zS_2 29) (zS_2 30)) := hD
        refine lv_aload_n hx hb (dAt zX6_keepNow_0 13 rfl) rfl (lv_at hl 0 rfl) ?_
        refine va_get (D := D) (ci := 6) (v := .ref (qS 19)) (C := RX6) (T := TX6) (N := 32) hx hb htl inlX6 hown hK hP 0 rfl rfl 18 (by decide) (htl _ W_94) (fun _ h9 => h9) rfl (dAt zX6_keepNow_0 14 rfl) ?_
        refine lv_bipush (v := 100) hx hb (dAt zX6_keepNow_0 15 rfl) (by decide) ?_
        refine lv_iload_n hx hb (dAt zX6_keepNow_0 16 rfl) rfl (lv_at hl 1 rfl) ?_
        refine lv_iadd hx hb (dAt zX6_keepNow_0 17 rfl) ?_
        refine lv_aload_n hx hb (dAt zX6_keepNow_0 18 rfl) rfl (lv_at hl 0 rfl) ?_
        refine va_get (D := D) (ci := 6) (v := .ref (qS 5)) (C := RX6) (T := TX6) (N := 32) hx hb htl inlX6 hown hK hP 0 rfl rfl 4 (by decide) (htl _ W_86) (fun _ h9 => h9) rfl (dAt zX6_keepNow_0 19 rfl) ?_
        refine lv_iload_n hx hb (dAt zX6_keepNow_0 20 rfl) rfl (lv_at hl 1 rfl) ?_
        obtain ⟨hi_33, h⟩ := q_in h
        refine va_iald hx hb hK hP 2 0 rfl rfl hi_33 (dAt zX6_keepNow_0 21 rfl) ?_
        obtain ⟨hi_34, h⟩ := q_in h
        refine va_iast hx hb hK hP hD hS 10 0 rfl rfl hi_34 (dAt zX6_keepNow_0 22 rfl) (fun H locs hP hD hS => ?_)
        have hP : va_P D vwCl (w6x cI cJ cZ qS (zS_2 0 0) (zS_2 0 1) (zS_2 0 2) (zS_2 0 8) (zS_2 0 10) (zS_2 0 14) (zS_2 0 15) (zS_2 0 16) (zS_2 0 17) (zS_2 0 19) (zS_2 0 20) (zS_2 0 21) (zS_2 0 22) (zS_2 0 23) (zS_2 0 30) (zS_2 0 31) (zS_2 4) (zS_2 5) (zS_2 6) (zS_2 7) (zS_2 8) (zS_2 10) (zS_2 12) (zS_2 13) (zS_2 14) (upd (upd (zS_2 19) (Int32.toNatClampNeg v1_2) ((zS_2 4) (Int32.toNatClampNeg v1_2))) (Int32.toNatClampNeg ((100 : Int32) + v1_2)) ((zS_2 5) (Int32.toNatClampNeg v1_2))) (zS_2 25) (zS_2 26) (zL 27) (zS_2 28) (zS_2 29) (zS_2 30)) H := hP
        have hD : va_D A (w6x cI cJ cZ qS (zS_2 0 0) (zS_2 0 1) (zS_2 0 2) (zS_2 0 8) (zS_2 0 10) (zS_2 0 14) (zS_2 0 15) (zS_2 0 16) (zS_2 0 17) (zS_2 0 19) (zS_2 0 20) (zS_2 0 21) (zS_2 0 22) (zS_2 0 23) (zS_2 0 30) (zS_2 0 31) (zS_2 4) (zS_2 5) (zS_2 6) (zS_2 7) (zS_2 8) (zS_2 10) (zS_2 12) (zS_2 13) (zS_2 14) (upd (upd (zS_2 19) (Int32.toNatClampNeg v1_2) ((zS_2 4) (Int32.toNatClampNeg v1_2))) (Int32.toNatClampNeg ((100 : Int32) + v1_2)) ((zS_2 5) (Int32.toNatClampNeg v1_2))) (zS_2 25) (zS_2 26) (zL 27) (zS_2 28) (zS_2 29) (zS_2 30)) := hD
        refine lv_iinc (v := (v1_2 + 1)) (lv' := [(1, .int (v1_2 + 1)), (0, .ref (qS 0))]) hx hb (dAt zX6_keepNow_0 23 rfl) hl (k := 1) rfl rfl (by decide) rfl (fun ls hl => ?_)
        refine lv_goto (tgt := 2) hx hb (dAt zX6_keepNow_0 24 rfl) (by decide) ?_
        have hP : va_P D vwCl (w6 cI cJ cZ qS (upA zS_2 19 (upd (upd (zS_2 19) (Int32.toNatClampNeg v1_2) ((zS_2 4) (Int32.toNatClampNeg v1_2))) (Int32.toNatClampNeg ((100 : Int32) + v1_2)) ((zS_2 5) (Int32.toNatClampNeg v1_2)))) zL) H := hP
        have hD : va_D A (w6 cI cJ cZ qS (upA zS_2 19 (upd (upd (zS_2 19) (Int32.toNatClampNeg v1_2) ((zS_2 4) (Int32.toNatClampNeg v1_2))) (Int32.toNatClampNeg ((100 : Int32) + v1_2)) ((zS_2 5) (Int32.toNatClampNeg v1_2)))) zL) := hD
        exact ih_2 (v1_2 + 1) (upA zS_2 19 (upd (upd (zS_2 19) (Int32.toNatClampNeg v1_2) ((zS_2 4) (Int32.toNatClampNeg v1_2))) (Int32.toNatClampNeg ((100 : Int32) + v1_2)) ((zS_2 5) (Int32.toNatClampNeg v1_2)))) _ _ _ h hP hD hS (lv_sub hl [1, 0] rfl)
  exact L_2 n 0 zS _ _ _ h hP hD hS (lv_sub hl [1, 0] rfl)
def b_X6_back_2 (n : Nat) (a1 : Int32) (s_2 : Int32 × TI) (k_2 : Int32 × TI → Option (Int32 × TI)) : Option (Int32 × TI) := (if 100 ≤ s_2.1 then some (a1, (sf (sf (sf s_2.2 0 ((s_2.2 19) 200)) 1 ((s_2.2 19) 201)) 2 ((s_2.2 19) 202))) else (gd (inB s_2.1 203) ((gd (inB s_2.1 100) ((gd (inB ((100 : Int32) + s_2.1) 203) ((gd (inB s_2.1 100) ((k_2 ((s_2.1 + 1), (upA (upA s_2.2 4 (upd (s_2.2 4) (Int32.toNatClampNeg s_2.1) ((s_2.2 19) (Int32.toNatClampNeg s_2.1)))) 5 (upd (s_2.2 5) (Int32.toNatClampNeg s_2.1) ((s_2.2 19) (Int32.toNatClampNeg ((100 : Int32) + s_2.1))))))))))))))))
def m_X6_back (n : Nat) (zS : TI) (zL : TL) (a1 : Int32) : Option (Int32 × TI) := (loopF (b_X6_back_2 n a1 ) n (0, zS))
set_option maxHeartbeats 4000000 in
set_option maxRecDepth 100000 in
theorem c_X6_back (l : Launch) (D : va_G) (cI cJ cZ : ClassId) (n : Nat) (qS : Nat → Nat) (sz : Nat) (zS : TI) (zL : TL) (a1 : Int32) (out : Int32 × TI) (hm : m_X6_back n zS zL a1 = some out) : Met l yX6_back (wsM yX6_back cX6_back 3 (some .int)) { frames := 0, cells := 0, slots := 0, locals := 0 } (xPre D (kT cI cJ cZ) (w6 cI cJ cZ qS zS zL) sz [.ref (qS 0), .int a1]) (xQi D (kT cI cJ cZ) (w6 cI cJ cZ qS zS zL) (w6 cI cJ cZ qS out.2 zL) sz out.1) 0 0 (va_A (w6 cI cJ cZ qS zS zL) sz) := by
  refine Met.ofW (cc := cX6_back) (maxL := 3) (ret := (some .int)) (by decide) rfl ?_
  intro p e s m args below meth c s₁ B hml hv
  obtain ⟨hv, hsz, hP, hK, hD0, hN⟩ := hv
  have hx := B.exec; have hb := B.bytes; have hr := B.returns
  have hts := atoms_spec (ws := (wsM yX6_back cX6_back 3 (some .int))) B.pre
  have hown : s.vm.findClass RX6 = some m.cls := findClass_of_methodNamed B.named
  have hlocks := B.notSynchronized
  subst hsz
  have hD := hD0.self (sz := s.heap.size)
  obtain ⟨A, hAe⟩ : ∃ A, A = va_A (w6 cI cJ cZ qS zS zL) s.heap.size := ⟨_, rfl⟩
  rw [← hAe] at hD
  have hA : ∀ q : Nat, s.heap.size ≤ q → A q := fun q h => by rw [hAe]; exact Or.inr h
  have htl : ∀ w ∈ wsL_law, w.before args s = true := fun w h => hts w (List.mem_cons_of_mem _ h)
  refine xHead (R' := { frames := 0, cells := 0, slots := 0, locals := 0 }) rfl (fun Q H hQ hH => ?_)
  have hP : va_P D vwCl (w6 cI cJ cZ qS zS zL) H := by rw [hH]; exact hP
  have hS : va_S A s.heap H [] := by rw [hH]; exact va_S.rf
  refine xStart hv (Nat.le_of_ble_eq_true rfl) (lv := [(0, .ref (qS 0)), (1, .int a1)]) rfl (fun ls hl => ?_)
  have h := hm
  unfold m_X6_back at h
  refine lv_iconst (v := 0) hx hb (dAt zX6_back_0 0 rfl) (by decide) ?_
  refine lv_istore_n (lv' := [(2, .int 0), (0, .ref (qS 0)), (1, .int a1)]) hx hb (dAt zX6_back_0 1 rfl) rfl hl (by decide) rfl (fun ls hl => ?_)
  have L_2 : ∀ (j_2 : Nat) (v2_2 : Int32) (zS_2 : TI) (H : Heap) (locs : List Loc) (ls : Array Slot), loopF (b_X6_back_2 n a1) j_2 (v2_2, zS_2) = some out → va_P D vwCl (w6 cI cJ cZ qS zS_2 zL) H → va_D A (w6 cI cJ cZ qS zS_2 zL) → va_S A s.heap H locs → lv_has ls 3 [(0, .ref (qS 0)), (1, .int a1), (2, .int v2_2)] → W p l e { frames := 0, cells := 0, slots := 0, locals := 0 } s m args below meth c H locs 0 0 Q (F0 m 2 ls []) := by
    intro j_2
    induction j_2 with
    | zero => intro v2_2 zS_2 H locs ls h hP hD hS hl; exact loopF_0 h
    | succ j_2 ih_2 =>
      intro v2_2 zS_2 H locs ls h hP hD hS hl
      have h := loopF_s h
      unfold b_X6_back_2 at h
      refine lv_iload_n hx hb (dAt zX6_back_0 2 rfl) rfl (lv_at hl 2 rfl) ?_
      refine lv_bipush (v := 100) hx hb (dAt zX6_back_0 3 rfl) (by decide) ?_
      refine lv_icmp_ge (tgt := 41) hx hb (dAt zX6_back_0 4 rfl) (by decide) (fun c_5 => ?_) (fun c_5 => ?_)
      · have h := q_pos c_5 h
        refine lv_aload_n hx hb (dAt zX6_back_0 25 rfl) rfl (lv_at hl 0 rfl) ?_
        refine lv_aload_n hx hb (dAt zX6_back_0 26 rfl) rfl (lv_at hl 0 rfl) ?_
        refine va_get (D := D) (ci := 6) (v := .ref (qS 19)) (C := RX6) (T := TX6) (N := 32) hx hb htl inlX6 hown hK hP 0 rfl rfl 18 (by decide) (htl _ W_94) (fun _ h9 => h9) rfl (dAt zX6_back_0 27 rfl) ?_
        refine lv_sipush (v := 200) hx hb (dAt zX6_back_0 28 rfl) (by decide) ?_
        refine va_iald hx hb hK hP 10 0 rfl rfl (q_inb (by decide)) (dAt zX6_back_0 29 rfl) ?_
        refine va_put (D := D) (ci := 6) (v := .int ((zS_2 19) 200)) (ty := .int) (C := RX6) (T := TX6) (N := 32) hx hb htl inlX6 tyX6 tyX6_ok nmX6 hown hK hP hD hS 0 rfl rfl 0 (by decide) (htl _ W_102) (fun _ h9 => h9) rfl (by decide +kernel) rfl rfl (Nat.le_of_ble_eq_true rfl) (dAt zX6_back_0 30 rfl) (fun H locs hP hD hS => ?_)
        have hP : va_P D vwCl (w6x cI cJ cZ qS ((zS_2 19) 200) (zS_2 0 1) (zS_2 0 2) (zS_2 0 8) (zS_2 0 10) (zS_2 0 14) (zS_2 0 15) (zS_2 0 16) (zS_2 0 17) (zS_2 0 19) (zS_2 0 20) (zS_2 0 21) (zS_2 0 22) (zS_2 0 23) (zS_2 0 30) (zS_2 0 31) (zS_2 4) (zS_2 5) (zS_2 6) (zS_2 7) (zS_2 8) (zS_2 10) (zS_2 12) (zS_2 13) (zS_2 14) (zS_2 19) (zS_2 25) (zS_2 26) (zL 27) (zS_2 28) (zS_2 29) (zS_2 30)) H := hP
        have hD : va_D A (w6x cI cJ cZ qS ((zS_2 19) 200) (zS_2 0 1) (zS_2 0 2) (zS_2 0 8) (zS_2 0 10) (zS_2 0 14) (zS_2 0 15) (zS_2 0 16) (zS_2 0 17) (zS_2 0 19) (zS_2 0 20) (zS_2 0 21) (zS_2 0 22) (zS_2 0 23) (zS_2 0 30) (zS_2 0 31) (zS_2 4) (zS_2 5) (zS_2 6) (zS_2 7) (zS_2 8) (zS_2 10) (zS_2 12) (zS_2 13) (zS_2 14) (zS_2 19) (zS_2 25) (zS_2 26) (zL 27) (zS_2 28) (zS_2 29) (zS_2 30)) := hD
        refine lv_aload_n hx hb (dAt zX6_back_0 31 rfl) rfl (lv_at hl 0 rfl) ?_
        refine lv_aload_n hx hb (dAt zX6_back_0 32 rfl) rfl (lv_at hl 0 rfl) ?_
        refine va_get (D := D) (ci := 6) (v := .ref (qS 19)) (C := RX6) (T := TX6) (N := 32) hx hb htl inlX6 hown hK hP 0 rfl rfl 18 (by decide) (htl _ W_94) (fun _ h9 => h9) rfl (dAt zX6_back_0 33 rfl) ?_
        refine lv_sipush (v := 201) hx hb (dAt zX6_back_0 34 rfl) (by decide) ?_
        refine va_iald hx hb hK hP 10 0 rfl rfl (q_inb (by decide)) (dAt zX6_back_0 35 rfl) ?_
        refine va_put (D := D) (ci := 6) (v := .int ((zS_2 19) 201)) (ty := .int) (C := RX6) (T := TX6) (N := 32) hx hb htl inlX6 tyX6 tyX6_ok nmX6 hown hK hP hD hS 0 rfl rfl 1 (by decide) (htl _ W_160) (fun _ h9 => h9) rfl (by decide +kernel) rfl rfl (Nat.le_of_ble_eq_true rfl) (dAt zX6_back_0 36 rfl) (fun H locs hP hD hS => ?_)
        have hP : va_P D vwCl (w6x cI cJ cZ qS ((zS_2 19) 200) ((zS_2 19) 201) (zS_2 0 2) (zS_2 0 8) (zS_2 0 10) (zS_2 0 14) (zS_2 0 15) (zS_2 0 16) (zS_2 0 17) (zS_2 0 19) (zS_2 0 20) (zS_2 0 21) (zS_2 0 22) (zS_2 0 23) (zS_2 0 30) (zS_2 0 31) (zS_2 4) (zS_2 5) (zS_2 6) (zS_2 7) (zS_2 8) (zS_2 10) (zS_2 12) (zS_2 13) (zS_2 14) (zS_2 19) (zS_2 25) (zS_2 26) (zL 27) (zS_2 28) (zS_2 29) (zS_2 30)) H := hP
        have hD : va_D A (w6x cI cJ cZ qS ((zS_2 19) 200) ((zS_2 19) 201) (zS_2 0 2) (zS_2 0 8) (zS_2 0 10) (zS_2 0 14) (zS_2 0 15) (zS_2 0 16) (zS_2 0 17) (zS_2 0 19) (zS_2 0 20) (zS_2 0 21) (zS_2 0 22) (zS_2 0 23) (zS_2 0 30) (zS_2 0 31) (zS_2 4) (zS_2 5) (zS_2 6) (zS_2 7) (zS_2 8) (zS_2 10) (zS_2 12) (zS_2 13) (zS_2 14) (zS_2 19) (zS_2 25) (zS_2 26) (zL 27) (zS_2 28) (zS_2 29) (zS_2 30)) := hD
        refine lv_aload_n hx hb (dAt zX6_back_0 37 rfl) rfl (lv_at hl 0 rfl) ?_
        refine lv_aload_n hx hb (dAt zX6_back_0 38 rfl) rfl (lv_at hl 0 rfl) ?_
        refine va_get (D := D) (ci := 6) (v := .ref (qS 19)) (C := RX6) (T := TX6) (N := 32) hx hb htl inlX6 hown hK hP 0 rfl rfl 18 (by decide) (htl _ W_94) (fun _ h9 => h9) rfl (dAt zX6_back_0 39 rfl) ?_
        refine lv_sipush (v := 202) hx hb (dAt zX6_back_0 40 rfl) (by decide) ?_
        refine va_iald hx hb hK hP 10 0 rfl rfl (q_inb (by decide)) (dAt zX6_back_0 41 rfl) ?_
        refine va_put (D := D) (ci := 6) (v := .int ((zS_2 19) 202)) (ty := .int) (C := RX6) (T := TX6) (N := 32) hx hb htl inlX6 tyX6 tyX6_ok nmX6 hown hK hP hD hS 0 rfl rfl 2 (by decide) (htl _ W_161) (fun _ h9 => h9) rfl (by decide +kernel) rfl rfl (Nat.le_of_ble_eq_true rfl) (dAt zX6_back_0 42 rfl) (fun H locs hP hD hS => ?_)
        have hP : va_P D vwCl (w6x cI cJ cZ qS ((zS_2 19) 200) ((zS_2 19) 201) ((zS_2 19) 202) (zS_2 0 8) (zS_2 0 10) (zS_2 0 14) (zS_2 0 15) (zS_2 0 16) (zS_2 0 17) (zS_2 0 19) (zS_2 0 20) (zS_2 0 21) (zS_2 0 22) (zS_2 0 23) (zS_2 0 30) (zS_2 0 31) (zS_2 4) (zS_2 5) (zS_2 6) (zS_2 7) (zS_2 8) (zS_2 10) (zS_2 12) (zS_2 13) (zS_2 14) (zS_2 19) (zS_2 25) (zS_2 26) (zL 27) (zS_2 28) (zS_2 29) (zS_2 30)) H := hP
        have hD : va_D A (w6x cI cJ cZ qS ((zS_2 19) 200) ((zS_2 19) 201) ((zS_2 19) 202) (zS_2 0 8) (zS_2 0 10) (zS_2 0 14) (zS_2 0 15) (zS_2 0 16) (zS_2 0 17) (zS_2 0 19) (zS_2 0 20) (zS_2 0 21) (zS_2 0 22) (zS_2 0 23) (zS_2 0 30) (zS_2 0 31) (zS_2 4) (zS_2 5) (zS_2 6) (zS_2 7) (zS_2 8) (zS_2 10) (zS_2 12) (zS_2 13) (zS_2 14) (zS_2 19) (zS_2 25) (zS_2 26) (zL 27) (zS_2 28) (zS_2 29) (zS_2 30)) := hD
        refine lv_iload_n hx hb (dAt zX6_back_0 43 rfl) rfl (lv_at hl 1 rfl) ?_
        have hP : va_P D vwCl (w6 cI cJ cZ qS (sf (sf (sf zS_2 0 ((zS_2 19) 200)) 1 ((zS_2 19) 201)) 2 ((zS_2 19) 202)) zL) H := hP
        have hD : va_D A (w6 cI cJ cZ qS (sf (sf (sf zS_2 0 ((zS_2 19) 200)) 1 ((zS_2 19) 201)) 2 ((zS_2 19) 202)) zL) := hD
        obtain rfl := q_some h
        exact xRi hx hb hr hlocks hQ hAe hP hD hK hS rfl (dAt zX6_back_0 44 rfl)
      · have h := q_neg c_5 h
        refine lv_aload_n hx hb (dAt zX6_back_0 5 rfl) rfl (lv_at hl 0 rfl) ?_
        refine va_get (D := D) (ci := 6) (v := .ref (qS 4)) (C := RX6) (T := TX6) (N := 32) hx hb htl inlX6 hown hK hP 0 rfl rfl 3 (by decide) (htl _ W_85) (fun _ h9 => h9) rfl (dAt zX6_back_0 6 rfl) ?_
        refine lv_iload_n hx hb (dAt zX6_back_0 7 rfl) rfl (lv_at hl 2 rfl) ?_
        refine lv_aload_n hx hb (dAt zX6_back_0 8 rfl) rfl (lv_at hl 0 rfl) ?_
        refine va_get (D := D) (ci := 6) (v := .ref (qS 19)) (C := RX6) (T := TX6) (N := 32) hx hb htl inlX6 hown hK hP 0 rfl rfl 18 (by decide) (htl _ W_94) (fun _ h9 => h9) rfl (dAt zX6_back_0 9 rfl) ?_
        refine lv_iload_n hx hb (dAt zX6_back_0 10 rfl) rfl (lv_at hl 2 rfl) ?_
        obtain ⟨hi_18, h⟩ := q_in h
        refine va_iald hx hb hK hP 10 0 rfl rfl hi_18 (dAt zX6_back_0 11 rfl) ?_
        obtain ⟨hi_19, h⟩ := q_in h
        refine va_iast hx hb hK hP hD hS 1 0 rfl rfl hi_19 (dAt zX6_back_0 12 rfl) (fun H locs hP hD hS => ?_)
        have hP : va_P D vwCl (w6x cI cJ cZ qS (zS_2 0 0) (zS_2 0 1) (zS_2 0 2) (zS_2 0 8) (zS_2 0 10) (zS_2 0 14) (zS_2 0 15) (zS_2 0 16) (zS_2 0 17) (zS_2 0 19) (zS_2 0 20) (zS_2 0 21) (zS_2 0 22) (zS_2 0 23) (zS_2 0 30) (zS_2 0 31) (upd (zS_2 4) (Int32.toNatClampNeg v2_2) ((zS_2 19) (Int32.toNatClampNeg v2_2))) (zS_2 5) (zS_2 6) (zS_2 7) (zS_2 8) (zS_2 10) (zS_2 12) (zS_2 13) (zS_2 14) (zS_2 19) (zS_2 25) (zS_2 26) (zL 27) (zS_2 28) (zS_2 29) (zS_2 30)) H := hP
        have hD : va_D A (w6x cI cJ cZ qS (zS_2 0 0) (zS_2 0 1) (zS_2 0 2) (zS_2 0 8) (zS_2 0 10) (zS_2 0 14) (zS_2 0 15) (zS_2 0 16) (zS_2 0 17) (zS_2 0 19) (zS_2 0 20) (zS_2 0 21) (zS_2 0 22) (zS_2 0 23) (zS_2 0 30) (zS_2 0 31) (upd (zS_2 4) (Int32.toNatClampNeg v2_2) ((zS_2 19) (Int32.toNatClampNeg v2_2))) (zS_2 5) (zS_2 6) (zS_2 7) (zS_2 8) (zS_2 10) (zS_2 12) (zS_2 13) (zS_2 14) (zS_2 19) (zS_2 25) (zS_2 26) (zL 27) (zS_2 28) (zS_2 29) (zS_2 30)) := hD
        refine lv_aload_n hx hb (dAt zX6_back_0 13 rfl) rfl (lv_at hl 0 rfl) ?_
        refine va_get (D := D) (ci := 6) (v := .ref (qS 5)) (C := RX6) (T := TX6) (N := 32) hx hb htl inlX6 hown hK hP 0 rfl rfl 4 (by decide) (htl _ W_86) (fun _ h9 => h9) rfl (dAt zX6_back_0 14 rfl) ?_
        refine lv_iload_n hx hb (dAt zX6_back_0 15 rfl) rfl (lv_at hl 2 rfl) ?_
        refine lv_aload_n hx hb (dAt zX6_back_0 16 rfl) rfl (lv_at hl 0 rfl) ?_
        refine va_get (D := D) (ci := 6) (v := .ref (qS 19)) (C := RX6) (T := TX6) (N := 32) hx hb htl inlX6 hown hK hP 0 rfl rfl 18 (by decide) (htl _ W_94) (fun _ h9 => h9) rfl (dAt zX6_back_0 17 rfl) ?_
        refine lv_bipush (v := 100) hx hb (dAt zX6_back_0 18 rfl) (by decide) ?_
        refine lv_iload_n hx hb (dAt zX6_back_0 19 rfl) rfl (lv_at hl 2 rfl) ?_
        refine lv_iadd hx hb (dAt zX6_back_0 20 rfl) ?_
        obtain ⟨hi_33, h⟩ := q_in h
        refine va_iald hx hb hK hP 10 0 rfl rfl hi_33 (dAt zX6_back_0 21 rfl) ?_
        obtain ⟨hi_34, h⟩ := q_in h
        refine va_iast hx hb hK hP hD hS 2 0 rfl rfl hi_34 (dAt zX6_back_0 22 rfl) (fun H locs hP hD hS => ?_)
        have hP : va_P D vwCl (w6x cI cJ cZ qS (zS_2 0 0) (zS_2 0 1) (zS_2 0 2) (zS_2 0 8) (zS_2 0 10) (zS_2 0 14) (zS_2 0 15) (zS_2 0 16) (zS_2 0 17) (zS_2 0 19) (zS_2 0 20) (zS_2 0 21) (zS_2 0 22) (zS_2 0 23) (zS_2 0 30) (zS_2 0 31) (upd (zS_2 4) (Int32.toNatClampNeg v2_2) ((zS_2 19) (Int32.toNatClampNeg v2_2))) (upd (zS_2 5) (Int32.toNatClampNeg v2_2) ((zS_2 19) (Int32.toNatClampNeg ((100 : Int32) + v2_2)))) (zS_2 6) (zS_2 7) (zS_2 8) (zS_2 10) (zS_2 12) (zS_2 13) (zS_2 14) (zS_2 19) (zS_2 25) (zS_2 26) (zL 27) (zS_2 28) (zS_2 29) (zS_2 30)) H := hP
        have hD : va_D A (w6x cI cJ cZ qS (zS_2 0 0) (zS_2 0 1) (zS_2 0 2) (zS_2 0 8) (zS_2 0 10) (zS_2 0 14) (zS_2 0 15) (zS_2 0 16) (zS_2 0 17) (zS_2 0 19) (zS_2 0 20) (zS_2 0 21) (zS_2 0 22) (zS_2 0 23) (zS_2 0 30) (zS_2 0 31) (upd (zS_2 4) (Int32.toNatClampNeg v2_2) ((zS_2 19) (Int32.toNatClampNeg v2_2))) (upd (zS_2 5) (Int32.toNatClampNeg v2_2) ((zS_2 19) (Int32.toNatClampNeg ((100 : Int32) + v2_2)))) (zS_2 6) (zS_2 7) (zS_2 8) (zS_2 10) (zS_2 12) (zS_2 13) (zS_2 14) (zS_2 19) (zS_2 25) (zS_2 26) (zL 27) (zS_2 28) (zS_2 29) (zS_2 30)) := hD
        refine lv_iinc (v := (v2_2 + 1)) (lv' := [(2, .int (v2_2 + 1)), (0, .ref (qS 0)), (1, .int a1)]) hx hb (dAt zX6_back_0 23 rfl) hl (k := 2) rfl rfl (by decide) rfl (fun ls hl => ?_)
        refine lv_goto (tgt := 2) hx hb (dAt zX6_back_0 24 rfl) (by decide) ?_
        have hP : va_P D vwCl (w6 cI cJ cZ qS (upA (upA zS_2 4 (upd (zS_2 4) (Int32.toNatClampNeg v2_2) ((zS_2 19) (Int32.toNatClampNeg v2_2)))) 5 (upd (zS_2 5) (Int32.toNatClampNeg v2_2) ((zS_2 19) (Int32.toNatClampNeg ((100 : Int32) + v2_2))))) zL) H := hP
        have hD : va_D A (w6 cI cJ cZ qS (upA (upA zS_2 4 (upd (zS_2 4) (Int32.toNatClampNeg v2_2) ((zS_2 19) (Int32.toNatClampNeg v2_2)))) 5 (upd (zS_2 5) (Int32.toNatClampNeg v2_2) ((zS_2 19) (Int32.toNatClampNeg ((100 : Int32) + v2_2))))) zL) := hD
        exact ih_2 (v2_2 + 1) (upA (upA zS_2 4 (upd (zS_2 4) (Int32.toNatClampNeg v2_2) ((zS_2 19) (Int32.toNatClampNeg v2_2)))) 5 (upd (zS_2 5) (Int32.toNatClampNeg v2_2) ((zS_2 19) (Int32.toNatClampNeg ((100 : Int32) + v2_2))))) _ _ _ h hP hD hS (lv_sub hl [1, 2, 0] rfl)
  exact L_2 n 0 zS _ _ _ h hP hD hS (lv_sub hl [1, 2, 0] rfl)
def b_X6_leastOf_6 (n : Nat) (a1 : Int32) (s_6 : Int32 × Int32) (k_6 : Int32 × Int32 → Option Int32) : Option Int32 := (if s_6.2 < 0 then some s_6.1 else ((m_X6_has n  a1 s_6.2).bind fun u12 => (if u12 = 0 then (k_6 (s_6.1, (s_6.2 + (-1)))) else (k_6 (s_6.2, (s_6.2 + (-1)))))))
def m_X6_leastOf (n : Nat) (a1 : Int32) : Option Int32 := (loopF (b_X6_leastOf_6 n a1 ) n ((-6), 9))
set_option maxHeartbeats 4000000 in
set_option maxRecDepth 100000 in
theorem c_X6_leastOf (l : Launch) (D : va_G) (cI cJ cZ : ClassId) (n : Nat)  (sz : Nat) (a1 : Int32) (out : Int32) (hm : m_X6_leastOf n a1 = some out) : Met l yX6_leastOf (wsM yX6_leastOf cX6_leastOf 3 (some .int)) { frames := 1, cells := 0, slots := 0, locals := 21 } (xPre D (kT cI cJ cZ) ([] : va_W) sz [.int a1]) (xQi D (kT cI cJ cZ) ([] : va_W) ([] : va_W) sz out) 0 0 (va_A ([] : va_W) sz) := by
  refine Met.ofW (cc := cX6_leastOf) (maxL := 3) (ret := (some .int)) (by decide) rfl ?_
  intro p e s m args below meth c s₁ B hml hv
  obtain ⟨hv, hsz, hP, hK, hD0, hN⟩ := hv
  have hx := B.exec; have hb := B.bytes; have hr := B.returns
  have hts := atoms_spec (ws := (wsM yX6_leastOf cX6_leastOf 3 (some .int))) B.pre
  have hown : s.vm.findClass RX6 = some m.cls := findClass_of_methodNamed B.named
  have hlocks := B.notSynchronized
  subst hsz
  have hD := hD0.self (sz := s.heap.size)
  obtain ⟨A, hAe⟩ : ∃ A, A = va_A ([] : va_W) s.heap.size := ⟨_, rfl⟩
  rw [← hAe] at hD
  have hA : ∀ q : Nat, s.heap.size ≤ q → A q := fun q h => by rw [hAe]; exact Or.inr h
  have htl : ∀ w ∈ wsL_law, w.before args s = true := fun w h => hts w (List.mem_cons_of_mem _ h)
  refine xHead (R' := { frames := 1, cells := 0, slots := 0, locals := 21 }) rfl (fun Q H hQ hH => ?_)
  have hP : va_P D vwCl ([] : va_W) H := by rw [hH]; exact hP
  have hS : va_S A s.heap H [] := by rw [hH]; exact va_S.rf
  refine xStart hv (Nat.le_of_ble_eq_true rfl) (lv := [(0, .int a1)]) rfl (fun ls hl => ?_)
  have h := hm
  unfold m_X6_leastOf at h
  refine lv_bipush (v := (-6)) hx hb (dAt zX6_leastOf_0 0 rfl) (by decide) ?_
  refine lv_istore_n (lv' := [(1, .int (-6)), (0, .int a1)]) hx hb (dAt zX6_leastOf_0 1 rfl) rfl hl (by decide) rfl (fun ls hl => ?_)
  refine lv_bipush (v := 9) hx hb (dAt zX6_leastOf_0 2 rfl) (by decide) ?_
  refine lv_istore_n (lv' := [(2, .int 9), (1, .int (-6)), (0, .int a1)]) hx hb (dAt zX6_leastOf_0 3 rfl) rfl hl (by decide) rfl (fun ls hl => ?_)
  have L_6 : ∀ (j_6 : Nat) (v1_6 : Int32) (v2_6 : Int32) (H : Heap) (locs : List Loc) (ls : Array Slot), loopF (b_X6_leastOf_6 n a1) j_6 (v1_6, v2_6) = some out → va_P D vwCl ([] : va_W) H → va_D A ([] : va_W) → va_S A s.heap H locs → lv_has ls 3 [(0, .int a1), (1, .int v1_6), (2, .int v2_6)] → W p l e { frames := 1, cells := 0, slots := 0, locals := 21 } s m args below meth c H locs 0 0 Q (F0 m 6 ls []) := by
    intro j_6
    induction j_6 with
    | zero => intro v1_6 v2_6 H locs ls h hP hD hS hl; exact loopF_0 h
    | succ j_6 ih_6 =>
      intro v1_6 v2_6 H locs ls h hP hD hS hl
      have h := loopF_s h
      unfold b_X6_leastOf_6 at h
      refine lv_iload_n hx hb (dAt zX6_leastOf_0 4 rfl) rfl (lv_at hl 2 rfl) ?_
      refine lv_if_lt (tgt := 30) hx hb (dAt zX6_leastOf_0 5 rfl) (by decide) (fun c_7 => ?_) (fun c_7 => ?_)
      · have h := q_pos c_7 h
        refine lv_iload_n hx hb (dAt zX6_leastOf_0 16 rfl) rfl (lv_at hl 1 rfl) ?_
        obtain rfl := q_some h
        exact xRi hx hb hr hlocks hQ hAe hP hD hK hS rfl (dAt zX6_leastOf_0 17 rfl)
      · have h := q_neg c_7 h
        refine lv_iload_n hx hb (dAt zX6_leastOf_0 6 rfl) rfl (lv_at hl 0 rfl) ?_
        refine lv_iload_n hx hb (dAt zX6_leastOf_0 7 rfl) rfl (lv_at hl 2 rfl) ?_
        obtain ⟨u12, hu12, h⟩ := q_bind h
        refine xFz (wc := ([] : va_W)) (w1 := ([] : va_W)) (wr := ([] : va_W)) (ws2 := ([] : va_W)) (va_runS (As := [.int a1, .int v2_6]) (rest := []) ⟨hx, hb, hml, hown, htl⟩ (c_X6_has l D cI cJ cZ n  H.size  a1 v2_6 u12 hu12) (va_cwS 2 htl (gS W_407 W_408 W_5 W_409) rfl rfl rfl (by decide +kernel) ⟨Nat.le_of_ble_eq_true rfl, Nat.le_of_ble_eq_true rfl⟩) (xPS hP hD hK hN) rfl rfl hl.1 rfl (lv_room (Nat.le_of_ble_eq_true rfl)) (dAt zX6_leastOf_0 8 rfl) ⟨Nat.zero_le _, Nat.zero_le _⟩) hS hA hP hD [] [] [] rfl rfl (by decide) (by decide) rfl (by decide) (fun H locs hz12 hP hD hS => ?_)
        refine lv_if_eq (tgt := 22) hx hb (dAt zX6_leastOf_0 9 rfl) (by decide) (fun c_15 => ?_) (fun c_15 => ?_)
        · have h := q_pos c_15 h
          refine lv_iload_n hx hb (dAt zX6_leastOf_0 12 rfl) rfl (lv_at hl 1 rfl) ?_
          refine lv_istore_n (lv' := [(1, .int v1_6), (0, .int a1), (2, .int v2_6)]) hx hb (dAt zX6_leastOf_0 13 rfl) rfl hl (by decide) rfl (fun ls hl => ?_)
          refine lv_iinc (v := (v2_6 + (-1))) (lv' := [(2, .int (v2_6 + (-1))), (1, .int v1_6), (0, .int a1)]) hx hb (dAt zX6_leastOf_0 14 rfl) hl (k := 2) rfl rfl (by decide) rfl (fun ls hl => ?_)
          refine lv_goto (tgt := 6) hx hb (dAt zX6_leastOf_0 15 rfl) (by decide) ?_
          exact ih_6 v1_6 (v2_6 + (-1)) _ _ _ h hP hD hS (lv_sub hl [2, 1, 0] rfl)
        · have h := q_neg c_15 h
          refine lv_iload_n hx hb (dAt zX6_leastOf_0 10 rfl) rfl (lv_at hl 2 rfl) ?_
          refine lv_goto (tgt := 23) hx hb (dAt zX6_leastOf_0 11 rfl) (by decide) ?_
          refine lv_istore_n (lv' := [(1, .int v2_6), (0, .int a1), (2, .int v2_6)]) hx hb (dAt zX6_leastOf_0 13 rfl) rfl hl (by decide) rfl (fun ls hl => ?_)
          refine lv_iinc (v := (v2_6 + (-1))) (lv' := [(2, .int (v2_6 + (-1))), (1, .int v2_6), (0, .int a1)]) hx hb (dAt zX6_leastOf_0 14 rfl) hl (k := 2) rfl rfl (by decide) rfl (fun ls hl => ?_)
          refine lv_goto (tgt := 6) hx hb (dAt zX6_leastOf_0 15 rfl) (by decide) ?_
          exact ih_6 v2_6 (v2_6 + (-1)) _ _ _ h hP hD hS (lv_sub hl [2, 1, 0] rfl)
  exact L_6 n (-6) 9 _ _ _ h hP hD hS (lv_sub hl [2, 1, 0] rfl)
def m_X6_goOne (n : Nat) (zS : TI) (zL : TL) (a1 : Int32) : Option TI := (gd (inB a1 60) ((gd (inB a1 60) ((gd (inB a1 60) (((m_X6_happen n zS zL ((zS 12) (Int32.toNatClampNeg a1)) ((zS 13) (Int32.toNatClampNeg a1)) ((zS 14) (Int32.toNatClampNeg a1))).bind fun u19 => (if (u19 0 17) = 0 then some u19 else (if 0 ≤ (u19 0 21) then some u19 else ((m_X6_leastOf n  (u19 0 17)).bind fun u46 => some (sf (sf u19 21 a1) 22 u46)))))))))))
set_option maxHeartbeats 4000000 in
set_option maxRecDepth 100000 in
theorem c_X6_goOne (l : Launch) (D : va_G) (cI cJ cZ : ClassId) (n : Nat) (qS : Nat → Nat) (sz : Nat) (zS : TI) (zL : TL) (a1 : Int32) (out : TI) (hm : m_X6_goOne n zS zL a1 = some out) : Met l yX6_goOne (wsM yX6_goOne cX6_goOne 2 none) { frames := 6, cells := 0, slots := 0, locals := 136 } (xPre D (kT cI cJ cZ) (w6 cI cJ cZ qS zS zL) sz [.ref (qS 0), .int a1]) (xQv D (kT cI cJ cZ) (w6 cI cJ cZ qS zS zL) (w6 cI cJ cZ qS out zL) sz) 0 0 (va_A (w6 cI cJ cZ qS zS zL) sz) := by
  refine Met.ofW (cc := cX6_goOne) (maxL := 2) (ret := none) (by decide) rfl ?_
  intro p e s m args below meth c s₁ B hml hv
  obtain ⟨hv, hsz, hP, hK, hD0, hN⟩ := hv
  have hx := B.exec; have hb := B.bytes; have hr := B.returns
  have hts := atoms_spec (ws := (wsM yX6_goOne cX6_goOne 2 none)) B.pre
  have hown : s.vm.findClass RX6 = some m.cls := findClass_of_methodNamed B.named
  have hlocks := B.notSynchronized
  subst hsz
  have hD := hD0.self (sz := s.heap.size)
  obtain ⟨A, hAe⟩ : ∃ A, A = va_A (w6 cI cJ cZ qS zS zL) s.heap.size := ⟨_, rfl⟩
  rw [← hAe] at hD
  have hA : ∀ q : Nat, s.heap.size ≤ q → A q := fun q h => by rw [hAe]; exact Or.inr h
  have htl : ∀ w ∈ wsL_law, w.before args s = true := fun w h => hts w (List.mem_cons_of_mem _ h)
  refine xHead (R' := { frames := 6, cells := 0, slots := 0, locals := 136 }) rfl (fun Q H hQ hH => ?_)
  have hP : va_P D vwCl (w6 cI cJ cZ qS zS zL) H := by rw [hH]; exact hP
  have hS : va_S A s.heap H [] := by rw [hH]; exact va_S.rf
  refine xStart hv (Nat.le_of_ble_eq_true rfl) (lv := [(0, .ref (qS 0)), (1, .int a1)]) rfl (fun ls hl => ?_)
  have h := hm
  unfold m_X6_goOne at h
  refine lv_aload_n hx hb (dAt zX6_goOne_0 0 rfl) rfl (lv_at hl 0 rfl) ?_
  refine lv_aload_n hx hb (dAt zX6_goOne_0 1 rfl) rfl (lv_at hl 0 rfl) ?_
  refine va_get (D := D) (ci := 6) (v := .ref (qS 12)) (C := RX6) (T := TX6) (N := 32) hx hb htl inlX6 hown hK hP 0 rfl rfl 11 (by decide) (htl _ W_91) (fun _ h9 => h9) rfl (dAt zX6_goOne_0 2 rfl) ?_
  refine lv_iload_n hx hb (dAt zX6_goOne_0 3 rfl) rfl (lv_at hl 1 rfl) ?_
  obtain ⟨hi_6, h⟩ := q_in h
  refine va_iald hx hb hK hP 7 0 rfl rfl hi_6 (dAt zX6_goOne_0 4 rfl) ?_
  refine lv_aload_n hx hb (dAt zX6_goOne_0 5 rfl) rfl (lv_at hl 0 rfl) ?_
  refine va_get (D := D) (ci := 6) (v := .ref (qS 13)) (C := RX6) (T := TX6) (N := 32) hx hb htl inlX6 hown hK hP 0 rfl rfl 12 (by decide) (htl _ W_92) (fun _ h9 => h9) rfl (dAt zX6_goOne_0 6 rfl) ?_
  refine lv_iload_n hx hb (dAt zX6_goOne_0 7 rfl) rfl (lv_at hl 1 rfl) ?_
  obtain ⟨hi_12, h⟩ := q_in h
  refine va_iald hx hb hK hP 8 0 rfl rfl hi_12 (dAt zX6_goOne_0 8 rfl) ?_
  refine lv_aload_n hx hb (dAt zX6_goOne_0 9 rfl) rfl (lv_at hl 0 rfl) ?_
  refine va_get (D := D) (ci := 6) (v := .ref (qS 14)) (C := RX6) (T := TX6) (N := 32) hx hb htl inlX6 hown hK hP 0 rfl rfl 13 (by decide) (htl _ W_93) (fun _ h9 => h9) rfl (dAt zX6_goOne_0 10 rfl) ?_
  refine lv_iload_n hx hb (dAt zX6_goOne_0 11 rfl) rfl (lv_at hl 1 rfl) ?_
  obtain ⟨hi_18, h⟩ := q_in h
  refine va_iald hx hb hK hP 9 0 rfl rfl hi_18 (dAt zX6_goOne_0 12 rfl) ?_
  obtain ⟨u19, hu19, h⟩ := q_bind h
  refine xFv (wc := (w6 cI cJ cZ qS zS zL)) (w1 := (w6 cI cJ cZ qS u19 zL)) (wr := ([] : va_W)) (ws2 := (w6 cI cJ cZ qS u19 zL)) (va_runV (As := [.int ((zS 12) (Int32.toNatClampNeg a1)), .int ((zS 13) (Int32.toNatClampNeg a1)), .int ((zS 14) (Int32.toNatClampNeg a1))]) (rest := []) ⟨hx, hb, hml, hown, htl⟩ (c_X6_happen l D cI cJ cZ n qS H.size zS zL ((zS 12) (Int32.toNatClampNeg a1)) ((zS 13) (Int32.toNatClampNeg a1)) ((zS 14) (Int32.toNatClampNeg a1)) u19 hu19) (cwV 3 htl (gV W_419 W_420 W_421 W_5 W_422) rfl rfl rfl (by decide +kernel) ⟨Nat.le_of_ble_eq_true rfl, Nat.le_of_ble_eq_true rfl⟩) (xPV hP hD hK hN 0 rfl rfl) rfl rfl hl.1 rfl (lv_room (Nat.le_of_ble_eq_true rfl)) (dAt zX6_goOne_0 13 rfl) ⟨Nat.zero_le _, Nat.zero_le _⟩) hS hA hP hD [0, 1, 2, 3, 4, 5, 6, 7, 8, 9, 10, 11, 12, 13, 14, 15, 16] [] [0, 1, 2, 3, 4, 5, 6, 7, 8, 9, 10, 11, 12, 13, 14, 15, 16] rfl rfl (by decide) (by decide) rfl (by decide) (fun H locs hP hD hS => ?_)
  refine lv_aload_n hx hb (dAt zX6_goOne_0 14 rfl) rfl (lv_at hl 0 rfl) ?_
  refine va_get (D := D) (ci := 6) (v := .int (u19 0 17)) (C := RX6) (T := TX6) (N := 32) hx hb htl inlX6 hown hK hP 0 rfl rfl 17 (by decide) (htl _ W_418) (fun _ h9 => h9) rfl (dAt zX6_goOne_0 15 rfl) ?_
  refine lv_if_eq (tgt := 52) hx hb (dAt zX6_goOne_0 16 rfl) (by decide) (fun c_26 => ?_) (fun c_26 => ?_)
  · have h := q_pos c_26 h
    obtain rfl := q_some h
    exact xRv hx hb hr hlocks hQ hAe hP hD hK hS (dAt zX6_goOne_0 28 rfl)
  · have h := q_neg c_26 h
    refine lv_aload_n hx hb (dAt zX6_goOne_0 17 rfl) rfl (lv_at hl 0 rfl) ?_
    refine va_get (D := D) (ci := 6) (v := .int (u19 0 21)) (C := RX6) (T := TX6) (N := 32) hx hb htl inlX6 hown hK hP 0 rfl rfl 21 (by decide) (htl _ W_393) (fun _ h9 => h9) rfl (dAt zX6_goOne_0 18 rfl) ?_
    refine lv_if_ge (tgt := 52) hx hb (dAt zX6_goOne_0 19 rfl) (by decide) (fun c_33 => ?_) (fun c_33 => ?_)
    · have h := q_pos c_33 h
      obtain rfl := q_some h
      exact xRv hx hb hr hlocks hQ hAe hP hD hK hS (dAt zX6_goOne_0 28 rfl)
    · have h := q_neg c_33 h
      refine lv_aload_n hx hb (dAt zX6_goOne_0 20 rfl) rfl (lv_at hl 0 rfl) ?_
      refine lv_iload_n hx hb (dAt zX6_goOne_0 21 rfl) rfl (lv_at hl 1 rfl) ?_
      refine va_put (D := D) (ci := 6) (v := .int a1) (ty := .int) (C := RX6) (T := TX6) (N := 32) hx hb htl inlX6 tyX6 tyX6_ok nmX6 hown hK hP hD hS 0 rfl rfl 21 (by decide) (htl _ W_393) (fun _ h9 => h9) rfl (by decide +kernel) rfl rfl (Nat.le_of_ble_eq_true rfl) (dAt zX6_goOne_0 22 rfl) (fun H locs hP hD hS => ?_)
      have hP : va_P D vwCl (w6x cI cJ cZ qS (u19 0 0) (u19 0 1) (u19 0 2) (u19 0 8) (u19 0 10) (u19 0 14) (u19 0 15) (u19 0 16) (u19 0 17) (u19 0 19) (u19 0 20) a1 (u19 0 22) (u19 0 23) (u19 0 30) (u19 0 31) (u19 4) (u19 5) (u19 6) (u19 7) (u19 8) (u19 10) (u19 12) (u19 13) (u19 14) (u19 19) (u19 25) (u19 26) (zL 27) (u19 28) (u19 29) (u19 30)) H := hP
      have hD : va_D A (w6x cI cJ cZ qS (u19 0 0) (u19 0 1) (u19 0 2) (u19 0 8) (u19 0 10) (u19 0 14) (u19 0 15) (u19 0 16) (u19 0 17) (u19 0 19) (u19 0 20) a1 (u19 0 22) (u19 0 23) (u19 0 30) (u19 0 31) (u19 4) (u19 5) (u19 6) (u19 7) (u19 8) (u19 10) (u19 12) (u19 13) (u19 14) (u19 19) (u19 25) (u19 26) (zL 27) (u19 28) (u19 29) (u19 30)) := hD
      refine lv_aload_n hx hb (dAt zX6_goOne_0 23 rfl) rfl (lv_at hl 0 rfl) ?_
      refine lv_aload_n hx hb (dAt zX6_goOne_0 24 rfl) rfl (lv_at hl 0 rfl) ?_
      refine va_get (D := D) (ci := 6) (v := .int (u19 0 17)) (C := RX6) (T := TX6) (N := 32) hx hb htl inlX6 hown hK hP 0 rfl rfl 17 (by decide) (htl _ W_418) (fun _ h9 => h9) rfl (dAt zX6_goOne_0 25 rfl) ?_
      have hP : va_P D vwCl (w6 cI cJ cZ qS (sf u19 21 a1) zL) H := hP
      have hD : va_D A (w6 cI cJ cZ qS (sf u19 21 a1) zL) := hD
      obtain ⟨u46, hu46, h⟩ := q_bind h
      refine xFi (wc := ([] : va_W)) (w1 := ([] : va_W)) (wr := (w6 cI cJ cZ qS (sf u19 21 a1) zL)) (ws2 := (w6 cI cJ cZ qS (sf u19 21 a1) zL)) (va_runS (As := [.int (u19 0 17)]) (rest := [.ref (qS 0)]) ⟨hx, hb, hml, hown, htl⟩ (c_X6_leastOf l D cI cJ cZ n  H.size  (u19 0 17) u46 hu46) (va_cwS 1 htl (gS W_463 W_464 W_5 W_465) rfl rfl rfl (by decide +kernel) ⟨Nat.le_of_ble_eq_true rfl, Nat.le_of_ble_eq_true rfl⟩) (xPS xP0 (xD0 A) hK hN) rfl rfl hl.1 rfl (lv_room (Nat.le_of_ble_eq_true rfl)) (dAt zX6_goOne_0 26 rfl) ⟨Nat.zero_le _, Nat.zero_le _⟩) hS hA hP hD [] [0, 1, 2, 3, 4, 5, 6, 7, 8, 9, 10, 11, 12, 13, 14, 15, 16] [0, 1, 2, 3, 4, 5, 6, 7, 8, 9, 10, 11, 12, 13, 14, 15, 16] rfl rfl (by decide) (by decide) rfl (by decide) (fun H locs hP hD hS => ?_)
      refine va_put (D := D) (ci := 6) (v := .int u46) (ty := .int) (C := RX6) (T := TX6) (N := 32) hx hb htl inlX6 tyX6 tyX6_ok nmX6 hown hK hP hD hS 0 rfl rfl 22 (by decide) (htl _ W_394) (fun _ h9 => h9) rfl (by decide +kernel) rfl rfl (Nat.le_of_ble_eq_true rfl) (dAt zX6_goOne_0 27 rfl) (fun H locs hP hD hS => ?_)
      have hP : va_P D vwCl (w6x cI cJ cZ qS (u19 0 0) (u19 0 1) (u19 0 2) (u19 0 8) (u19 0 10) (u19 0 14) (u19 0 15) (u19 0 16) (u19 0 17) (u19 0 19) (u19 0 20) a1 u46 (u19 0 23) (u19 0 30) (u19 0 31) (u19 4) (u19 5) (u19 6) (u19 7) (u19 8) (u19 10) (u19 12) (u19 13) (u19 14) (u19 19) (u19 25) (u19 26) (zL 27) (u19 28) (u19 29) (u19 30)) H := hP
      have hD : va_D A (w6x cI cJ cZ qS (u19 0 0) (u19 0 1) (u19 0 2) (u19 0 8) (u19 0 10) (u19 0 14) (u19 0 15) (u19 0 16) (u19 0 17) (u19 0 19) (u19 0 20) a1 u46 (u19 0 23) (u19 0 30) (u19 0 31) (u19 4) (u19 5) (u19 6) (u19 7) (u19 8) (u19 10) (u19 12) (u19 13) (u19 14) (u19 19) (u19 25) (u19 26) (zL 27) (u19 28) (u19 29) (u19 30)) := hD
      have hP : va_P D vwCl (w6 cI cJ cZ qS (sf (sf u19 21 a1) 22 u46) zL) H := hP
      have hD : va_D A (w6 cI cJ cZ qS (sf (sf u19 21 a1) 22 u46) zL) := hD
      obtain rfl := q_some h
      exact xRv hx hb hr hlocks hQ hAe hP hD hK hS (dAt zX6_goOne_0 28 rfl)
def b_X6_goMonths_36 (n : Nat) (zL : TL) (s_36 : Int32 × TI) (k_36 : Int32 × TI → Option TI) : Option TI := (if (s_36.2 0 14) ≤ s_36.1 then some s_36.2 else (if 0 ≤ (s_36.2 0 19) then some s_36.2 else (gd (inB s_36.1 60) ((gd (inB s_36.1 60) ((gd (inB s_36.1 60) (((m_X6_whyNot n s_36.2 zL ((s_36.2 12) (Int32.toNatClampNeg s_36.1)) ((s_36.2 13) (Int32.toNatClampNeg s_36.1)) ((s_36.2 14) (Int32.toNatClampNeg s_36.1))).bind fun u70 => (if u70 ≤ 0 then (if u70 ≤ 0 then (if u70 = 0 then ((m_X6_goOne n (sf (sf s_36.2 19 (-6)) 20 (-6)) zL s_36.1).bind fun u108 => (k_36 ((s_36.1 + 1), u108))) else (k_36 ((s_36.1 + 1), (sf (sf s_36.2 19 (-6)) 20 (-6))))) else (if u70 = 0 then ((m_X6_goOne n (sf (sf s_36.2 19 (-6)) 20 u70) zL s_36.1).bind fun u108 => (k_36 ((s_36.1 + 1), u108))) else (k_36 ((s_36.1 + 1), (sf (sf s_36.2 19 (-6)) 20 u70))))) else (if u70 ≤ 0 then (if u70 = 0 then ((m_X6_goOne n (sf (sf s_36.2 19 s_36.1) 20 (-6)) zL s_36.1).bind fun u108 => (k_36 ((s_36.1 + 1), u108))) else (k_36 ((s_36.1 + 1), (sf (sf s_36.2 19 s_36.1) 20 (-6))))) else (if u70 = 0 then ((m_X6_goOne n (sf (sf s_36.2 19 s_36.1) 20 u70) zL s_36.1).bind fun u108 => (k_36 ((s_36.1 + 1), u108))) else (k_36 ((s_36.1 + 1), (sf (sf s_36.2 19 s_36.1) 20 u70)))))))))))))))
def m_X6_goMonths (n : Nat) (zS : TI) (zL : TL) : Option TI := (loopF (b_X6_goMonths_36 n zL ) n (0, (sf (sf (sf (sf (sf (sf zS 15 0) 16 0) 19 (-6)) 20 (-6)) 21 (-6)) 22 (-6))))
set_option maxHeartbeats 4000000 in
set_option maxRecDepth 100000 in
theorem c_X6_goMonths (l : Launch) (D : va_G) (cI cJ cZ : ClassId) (n : Nat) (qS : Nat → Nat) (sz : Nat) (zS : TI) (zL : TL) (out : TI) (hm : m_X6_goMonths n zS zL = some out) : Met l yX6_goMonths (wsM yX6_goMonths cX6_goMonths 3 none) { frames := 7, cells := 0, slots := 0, locals := 157 } (xPre D (kT cI cJ cZ) (w6 cI cJ cZ qS zS zL) sz [.ref (qS 0)]) (xQv D (kT cI cJ cZ) (w6 cI cJ cZ qS zS zL) (w6 cI cJ cZ qS out zL) sz) 0 0 (va_A (w6 cI cJ cZ qS zS zL) sz) := by
  refine Met.ofW (cc := cX6_goMonths) (maxL := 3) (ret := none) (by decide) rfl ?_
  intro p e s m args below meth c s₁ B hml hv
  obtain ⟨hv, hsz, hP, hK, hD0, hN⟩ := hv
  have hx := B.exec; have hb := B.bytes; have hr := B.returns
  have hts := atoms_spec (ws := (wsM yX6_goMonths cX6_goMonths 3 none)) B.pre
  have hown : s.vm.findClass RX6 = some m.cls := findClass_of_methodNamed B.named
  have hlocks := B.notSynchronized
  subst hsz
  have hD := hD0.self (sz := s.heap.size)
  obtain ⟨A, hAe⟩ : ∃ A, A = va_A (w6 cI cJ cZ qS zS zL) s.heap.size := ⟨_, rfl⟩
  rw [← hAe] at hD
  have hA : ∀ q : Nat, s.heap.size ≤ q → A q := fun q h => by rw [hAe]; exact Or.inr h
  have htl : ∀ w ∈ wsL_law, w.before args s = true := fun w h => hts w (List.mem_cons_of_mem _ h)
  refine xHead (R' := { frames := 7, cells := 0, slots := 0, locals := 157 }) rfl (fun Q H hQ hH => ?_)
  have hP : va_P D vwCl (w6 cI cJ cZ qS zS zL) H := by rw [hH]; exact hP
  have hS : va_S A s.heap H [] := by rw [hH]; exact va_S.rf
  refine xStart hv (Nat.le_of_ble_eq_true rfl) (lv := [(0, .ref (qS 0))]) rfl (fun ls hl => ?_)
  have h := hm
  unfold m_X6_goMonths at h
  refine lv_aload_n hx hb (dAt zX6_goMonths_0 0 rfl) rfl (lv_at hl 0 rfl) ?_
  refine lv_bipush (v := (-6)) hx hb (dAt zX6_goMonths_0 1 rfl) (by decide) ?_
  refine va_put (D := D) (ci := 6) (v := .int (-6)) (ty := .int) (C := RX6) (T := TX6) (N := 32) hx hb htl inlX6 tyX6 tyX6_ok nmX6 hown hK hP hD hS 0 rfl rfl 19 (by decide) (htl _ W_376) (fun _ h9 => h9) rfl (by decide +kernel) rfl rfl (Nat.le_of_ble_eq_true rfl) (dAt zX6_goMonths_0 2 rfl) (fun H locs hP hD hS => ?_)
  have hP : va_P D vwCl (w6x cI cJ cZ qS (zS 0 0) (zS 0 1) (zS 0 2) (zS 0 8) (zS 0 10) (zS 0 14) (zS 0 15) (zS 0 16) (zS 0 17) (-6) (zS 0 20) (zS 0 21) (zS 0 22) (zS 0 23) (zS 0 30) (zS 0 31) (zS 4) (zS 5) (zS 6) (zS 7) (zS 8) (zS 10) (zS 12) (zS 13) (zS 14) (zS 19) (zS 25) (zS 26) (zL 27) (zS 28) (zS 29) (zS 30)) H := hP
  have hD : va_D A (w6x cI cJ cZ qS (zS 0 0) (zS 0 1) (zS 0 2) (zS 0 8) (zS 0 10) (zS 0 14) (zS 0 15) (zS 0 16) (zS 0 17) (-6) (zS 0 20) (zS 0 21) (zS 0 22) (zS 0 23) (zS 0 30) (zS 0 31) (zS 4) (zS 5) (zS 6) (zS 7) (zS 8) (zS 10) (zS 12) (zS 13) (zS 14) (zS 19) (zS 25) (zS 26) (zL 27) (zS 28) (zS 29) (zS 30)) := hD
  refine lv_aload_n hx hb (dAt zX6_goMonths_0 3 rfl) rfl (lv_at hl 0 rfl) ?_
  refine lv_bipush (v := (-6)) hx hb (dAt zX6_goMonths_0 4 rfl) (by decide) ?_
  refine va_put (D := D) (ci := 6) (v := .int (-6)) (ty := .int) (C := RX6) (T := TX6) (N := 32) hx hb htl inlX6 tyX6 tyX6_ok nmX6 hown hK hP hD hS 0 rfl rfl 20 (by decide) (htl _ W_377) (fun _ h9 => h9) rfl (by decide +kernel) rfl rfl (Nat.le_of_ble_eq_true rfl) (dAt zX6_goMonths_0 5 rfl) (fun H locs hP hD hS => ?_)
  have hP : va_P D vwCl (w6x cI cJ cZ qS (zS 0 0) (zS 0 1) (zS 0 2) (zS 0 8) (zS 0 10) (zS 0 14) (zS 0 15) (zS 0 16) (zS 0 17) (-6) (-6) (zS 0 21) (zS 0 22) (zS 0 23) (zS 0 30) (zS 0 31) (zS 4) (zS 5) (zS 6) (zS 7) (zS 8) (zS 10) (zS 12) (zS 13) (zS 14) (zS 19) (zS 25) (zS 26) (zL 27) (zS 28) (zS 29) (zS 30)) H := hP
  have hD : va_D A (w6x cI cJ cZ qS (zS 0 0) (zS 0 1) (zS 0 2) (zS 0 8) (zS 0 10) (zS 0 14) (zS 0 15) (zS 0 16) (zS 0 17) (-6) (-6) (zS 0 21) (zS 0 22) (zS 0 23) (zS 0 30) (zS 0 31) (zS 4) (zS 5) (zS 6) (zS 7) (zS 8) (zS 10) (zS 12) (zS 13) (zS 14) (zS 19) (zS 25) (zS 26) (zL 27) (zS 28) (zS 29) (zS 30)) := hD
  refine lv_aload_n hx hb (dAt zX6_goMonths_0 6 rfl) rfl (lv_at hl 0 rfl) ?_
  refine lv_iconst (v := 0) hx hb (dAt zX6_goMonths_0 7 rfl) (by decide) ?_
  refine va_put (D := D) (ci := 6) (v := .int 0) (ty := .int) (C := RX6) (T := TX6) (N := 32) hx hb htl inlX6 tyX6 tyX6_ok nmX6 hown hK hP hD hS 0 rfl rfl 15 (by decide) (htl _ W_378) (fun _ h9 => h9) rfl (by decide +kernel) rfl rfl (Nat.le_of_ble_eq_true rfl) (dAt zX6_goMonths_0 8 rfl) (fun H locs hP hD hS => ?_)
  have hP : va_P D vwCl (w6x cI cJ cZ qS (zS 0 0) (zS 0 1) (zS 0 2) (zS 0 8) (zS 0 10) (zS 0 14) 0 (zS 0 16) (zS 0 17) (-6) (-6) (zS 0 21) (zS 0 22) (zS 0 23) (zS 0 30) (zS 0 31) (zS 4) (zS 5) (zS 6) (zS 7) (zS 8) (zS 10) (zS 12) (zS 13) (zS 14) (zS 19) (zS 25) (zS 26) (zL 27) (zS 28) (zS 29) (zS 30)) H := hP
  have hD : va_D A (w6x cI cJ cZ qS (zS 0 0) (zS 0 1) (zS 0 2) (zS 0 8) (zS 0 10) (zS 0 14) 0 (zS 0 16) (zS 0 17) (-6) (-6) (zS 0 21) (zS 0 22) (zS 0 23) (zS 0 30) (zS 0 31) (zS 4) (zS 5) (zS 6) (zS 7) (zS 8) (zS 10) (zS 12) (zS 13) (zS 14) (zS 19) (zS 25) (zS 26) (zL 27) (zS 28) (zS 29) (zS 30)) := hD
  refine lv_aload_n hx hb (dAt zX6_goMonths_0 9 rfl) rfl (lv_at hl 0 rfl) ?_
  refine lv_iconst (v := 0) hx hb (dAt zX6_goMonths_0 10 rfl) (by decide) ?_
  refine va_put (D := D) (ci := 6) (v := .int 0) (ty := .int) (C := RX6) (T := TX6) (N := 32) hx hb htl inlX6 tyX6 tyX6_ok nmX6 hown hK hP hD hS 0 rfl rfl 16 (by decide) (htl _ W_392) (fun _ h9 => h9) rfl (by decide +kernel) rfl rfl (Nat.le_of_ble_eq_true rfl) (dAt zX6_goMonths_0 11 rfl) (fun H locs hP hD hS => ?_)
  have hP : va_P D vwCl (w6x cI cJ cZ qS (zS 0 0) (zS 0 1) (zS 0 2) (zS 0 8) (zS 0 10) (zS 0 14) 0 0 (zS 0 17) (-6) (-6) (zS 0 21) (zS 0 22) (zS 0 23) (zS 0 30) (zS 0 31) (zS 4) (zS 5) (zS 6) (zS 7) (zS 8) (zS 10) (zS 12) (zS 13) (zS 14) (zS 19) (zS 25) (zS 26) (zL 27) (zS 28) (zS 29) (zS 30)) H := hP
  have hD : va_D A (w6x cI cJ cZ qS (zS 0 0) (zS 0 1) (zS 0 2) (zS 0 8) (zS 0 10) (zS 0 14) 0 0 (zS 0 17) (-6) (-6) (zS 0 21) (zS 0 22) (zS 0 23) (zS 0 30) (zS 0 31) (zS 4) (zS 5) (zS 6) (zS 7) (zS 8) (zS 10) (zS 12) (zS 13) (zS 14) (zS 19) (zS 25) (zS 26) (zL 27) (zS 28) (zS 29) (zS 30)) := hD
  refine lv_aload_n hx hb (dAt zX6_goMonths_0 12 rfl) rfl (lv_at hl 0 rfl) ?_
  refine lv_bipush (v := (-6)) hx hb (dAt zX6_goMonths_0 13 rfl) (by decide) ?_
  refine va_put (D := D) (ci := 6) (v := .int (-6)) (ty := .int) (C := RX6) (T := TX6) (N := 32) hx hb htl inlX6 tyX6 tyX6_ok nmX6 hown hK hP hD hS 0 rfl rfl 21 (by decide) (htl _ W_393) (fun _ h9 => h9) rfl (by decide +kernel) rfl rfl (Nat.le_of_ble_eq_true rfl) (dAt zX6_goMonths_0 14 rfl) (fun H locs hP hD hS => ?_)
  have hP : va_P D vwCl (w6x cI cJ cZ qS (zS 0 0) (zS 0 1) (zS 0 2) (zS 0 8) (zS 0 10) (zS 0 14) 0 0 (zS 0 17) (-6) (-6) (-6) (zS 0 22) (zS 0 23) (zS 0 30) (zS 0 31) (zS 4) (zS 5) (zS 6) (zS 7) (zS 8) (zS 10) (zS 12) (zS 13) (zS 14) (zS 19) (zS 25) (zS 26) (zL 27) (zS 28) (zS 29) (zS 30)) H := hP
  have hD : va_D A (w6x cI cJ cZ qS (zS 0 0) (zS 0 1) (zS 0 2) (zS 0 8) (zS 0 10) (zS 0 14) 0 0 (zS 0 17) (-6) (-6) (-6) (zS 0 22) (zS 0 23) (zS 0 30) (zS 0 31) (zS 4) (zS 5) (zS 6) (zS 7) (zS 8) (zS 10) (zS 12) (zS 13) (zS 14) (zS 19) (zS 25) (zS 26) (zL 27) (zS 28) (zS 29) (zS 30)) := hD
  refine lv_aload_n hx hb (dAt zX6_goMonths_0 15 rfl) rfl (lv_at hl 0 rfl) ?_
  refine lv_bipush (v := (-6)) hx hb (dAt zX6_goMonths_0 16 rfl) (by decide) ?_
  refine va_put (D := D) (ci := 6) (v := .int (-6)) (ty := .int) (C := RX6) (T := TX6) (N := 32) hx hb htl inlX6 tyX6 tyX6_ok nmX6 hown hK hP hD hS 0 rfl rfl 22 (by decide) (htl _ W_394) (fun _ h9 => h9) rfl (by decide +kernel) rfl rfl (Nat.le_of_ble_eq_true rfl) (dAt zX6_goMonths_0 17 rfl) (fun H locs hP hD hS => ?_)
  have hP : va_P D vwCl (w6x cI cJ cZ qS (zS 0 0) (zS 0 1) (zS 0 2) (zS 0 8) (zS 0 10) (zS 0 14) 0 0 (zS 0 17) (-6) (-6) (-6) (-6) (zS 0 23) (zS 0 30) (zS 0 31) (zS 4) (zS 5) (zS 6) (zS 7) (zS 8) (zS 10) (zS 12) (zS 13) (zS 14) (zS 19) (zS 25) (zS 26) (zL 27) (zS 28) (zS 29) (zS 30)) H := hP
  have hD : va_D A (w6x cI cJ cZ qS (zS 0 0) (zS 0 1) (zS 0 2) (zS 0 8) (zS 0 10) (zS 0 14) 0 0 (zS 0 17) (-6) (-6) (-6) (-6) (zS 0 23) (zS 0 30) (zS 0 31) (zS 4) (zS 5) (zS 6) (zS 7) (zS 8) (zS 10) (zS 12) (zS 13) (zS 14) (zS 19) (zS 25) (zS 26) (zL 27) (zS 28) (zS 29) (zS 30)) := hD
  refine lv_iconst (v := 0) hx hb (dAt zX6_goMonths_0 18 rfl) (by decide) ?_
  refine lv_istore_n (lv' := [(1, .int 0), (0, .ref (qS 0))]) hx hb (dAt zX6_goMonths_0 19 rfl) rfl hl (by decide) rfl (fun ls hl => ?_)
  have hP : va_P D vwCl (w6 cI cJ cZ qS (sf (sf (sf (sf (sf (sf zS 15 0) 16 0) 19 (-6)) 20 (-6)) 21 (-6)) 22 (-6)) zL) H := hP
  have hD : va_D A (w6 cI cJ cZ qS (sf (sf (sf (sf (sf (sf zS 15 0) 16 0) 19 (-6)) 20 (-6)) 21 (-6)) 22 (-6)) zL) := hD
  have L_36 : ∀ (j_36 : Nat) (v1_36 : Int32) (zS_36 : TI) (H : Heap) (locs : List Loc) (ls : Array Slot), loopF (b_X6_goMonths_36 n zL) j_36 (v1_36, zS_36) = some out → va_P D vwCl (w6 cI cJ cZ qS zS_36 zL) H → va_D A (w6 cI cJ cZ qS zS_36 zL) → va_S A s.heap H locs → lv_has ls 3 [(0, .ref (qS 0)), (1, .int v1_36)] → W p l e { frames := 7, cells := 0, slots := 0, locals := 157 } s m args below meth c H locs 0 0 Q (F0 m 36 ls []) := by
    intro j_36
    induction j_36 with
    | zero => intro v1_36 zS_36 H locs ls h hP hD hS hl; exact loopF_0 h
    | succ j_36 ih_36 =>
      intro v1_36 zS_36 H locs ls h hP hD hS hl
      have h := loopF_s h
      unfold b_X6_goMonths_36 at h
      refine lv_iload_n hx hb (dAt zX6_goMonths_0 20 rfl) rfl (lv_at hl 1 rfl) ?_
      refine lv_aload_n hx hb (dAt zX6_goMonths_0 21 rfl) rfl (lv_at hl 0 rfl) ?_
      refine va_get (D := D) (ci := 6) (v := .int (zS_36 0 14)) (C := RX6) (T := TX6) (N := 32) hx hb htl inlX6 hown hK hP 0 rfl rfl 14 (by decide) (htl _ W_238) (fun _ h9 => h9) rfl (dAt zX6_goMonths_0 22 rfl) ?_
      refine lv_icmp_ge (tgt := 117) hx hb (dAt zX6_goMonths_0 23 rfl) (by decide) (fun c_41 => ?_) (fun c_41 => ?_)
      · have h := q_pos c_41 h
        obtain rfl := q_some h
        exact xRv hx hb hr hlocks hQ hAe hP hD hK hS (dAt zX6_goMonths_0 63 rfl)
      · have h := q_neg c_41 h
        refine lv_aload_n hx hb (dAt zX6_goMonths_0 24 rfl) rfl (lv_at hl 0 rfl) ?_
        refine va_get (D := D) (ci := 6) (v := .int (zS_36 0 19)) (C := RX6) (T := TX6) (N := 32) hx hb htl inlX6 hown hK hP 0 rfl rfl 19 (by decide) (htl _ W_376) (fun _ h9 => h9) rfl (dAt zX6_goMonths_0 25 rfl) ?_
        refine lv_if_ge (tgt := 117) hx hb (dAt zX6_goMonths_0 26 rfl) (by decide) (fun c_48 => ?_) (fun c_48 => ?_)
        · have h := q_pos c_48 h
          obtain rfl := q_some h
          exact xRv hx hb hr hlocks hQ hAe hP hD hK hS (dAt zX6_goMonths_0 63 rfl)
        · have h := q_neg c_48 h
          refine lv_aload_n hx hb (dAt zX6_goMonths_0 27 rfl) rfl (lv_at hl 0 rfl) ?_
          refine lv_aload_n hx hb (dAt zX6_goMonths_0 28 rfl) rfl (lv_at hl 0 rfl) ?_
          refine va_get (D := D) (ci := 6) (v := .ref (qS 12)) (C := RX6) (T := TX6) (N := 32) hx hb htl inlX6 hown hK hP 0 rfl rfl 11 (by decide) (htl _ W_91) (fun _ h9 => h9) rfl (dAt zX6_goMonths_0 29 rfl) ?_
          refine lv_iload_n hx hb (dAt zX6_goMonths_0 30 rfl) rfl (lv_at hl 1 rfl) ?_
          obtain ⟨hi_57, h⟩ := q_in h
          refine va_iald hx hb hK hP 7 0 rfl rfl hi_57 (dAt zX6_goMonths_0 31 rfl) ?_
          refine lv_aload_n hx hb (dAt zX6_goMonths_0 32 rfl) rfl (lv_at hl 0 rfl) ?_
          refine va_get (D := D) (ci := 6) (v := .ref (qS 13)) (C := RX6) (T := TX6) (N := 32) hx hb htl inlX6 hown hK hP 0 rfl rfl 12 (by decide) (htl _ W_92) (fun _ h9 => h9) rfl (dAt zX6_goMonths_0 33 rfl) ?_
          refine lv_iload_n hx hb (dAt zX6_goMonths_0 34 rfl) rfl (lv_at hl 1 rfl) ?_
          obtain ⟨hi_63, h⟩ := q_in h
          refine va_iald hx hb hK hP 8 0 rfl rfl hi_63 (dAt zX6_goMonths_0 35 rfl) ?_
          refine lv_aload_n hx hb (dAt zX6_goMonths_0 36 rfl) rfl (lv_at hl 0 rfl) ?_
          refine va_get (D := D) (ci := 6) (v := .ref (qS 14)) (C := RX6) (T := TX6) (N := 32) hx hb htl inlX6 hown hK hP 0 rfl rfl 13 (by decide) (htl _ W_93) (fun _ h9 => h9) rfl (dAt zX6_goMonths_0 37 rfl) ?_
          refine lv_iload_n hx hb (dAt zX6_goMonths_0 38 rfl) rfl (lv_at hl 1 rfl) ?_
          obtain ⟨hi_69, h⟩ := q_in h
          refine va_iald hx hb hK hP 9 0 rfl rfl hi_69 (dAt zX6_goMonths_0 39 rfl) ?_
          obtain ⟨u70, hu70, h⟩ := q_bind h
          refine xFi (wc := (w6 cI cJ cZ qS zS_36 zL)) (w1 := (w6 cI cJ cZ qS zS_36 zL)) (wr := ([] : va_W)) (ws2 := (w6 cI cJ cZ qS zS_36 zL)) (va_runV (As := [.int ((zS_36 12) (Int32.toNatClampNeg v1_36)), .int ((zS_36 13) (Int32.toNatClampNeg v1_36)), .int ((zS_36 14) (Int32.toNatClampNeg v1_36))]) (rest := []) ⟨hx, hb, hml, hown, htl⟩ (c_X6_whyNot l D cI cJ cZ n qS H.size zS_36 zL ((zS_36 12) (Int32.toNatClampNeg v1_36)) ((zS_36 13) (Int32.toNatClampNeg v1_36)) ((zS_36 14) (Int32.toNatClampNeg v1_36)) u70 hu70) (cwV 3 htl (gV W_395 W_396 W_397 W_5 W_398) rfl rfl rfl (by decide +kernel) ⟨Nat.le_of_ble_eq_true rfl, Nat.le_of_ble_eq_true rfl⟩) (xPV hP hD hK hN 0 rfl rfl) rfl rfl hl.1 rfl (lv_room (Nat.le_of_ble_eq_true rfl)) (dAt zX6_goMonths_0 40 rfl) ⟨Nat.zero_le _, Nat.zero_le _⟩) hS hA hP hD [0, 1, 2, 3, 4, 5, 6, 7, 8, 9, 10, 11, 12, 13, 14, 15, 16] [] [0, 1, 2, 3, 4, 5, 6, 7, 8, 9, 10, 11, 12, 13, 14, 15, 16] rfl rfl (by decide) (by decide) rfl (by decide) (fun H locs hP hD hS => ?_)
          refine lv_istore_n (lv' := [(2, .int u70), (0, .ref (qS 0)), (1, .int v1_36)]) hx hb (dAt zX6_goMonths_0 41 rfl) rfl hl (by decide) rfl (fun ls hl => ?_)
          refine lv_aload_n hx hb (dAt zX6_goMonths_0 42 rfl) rfl (lv_at hl 1 rfl) ?_
          refine lv_iload_n hx hb (dAt zX6_goMonths_0 43 rfl) rfl (lv_at hl 0 rfl) ?_
          refine lv_if_le (tgt := 83) hx hb (dAt zX6_goMonths_0 44 rfl) (by decide) (fun c_76 => ?_) (fun c_76 => ?_)
          · have h := q_pos c_76 h
            refine lv_bipush (v := (-6)) hx hb (dAt zX6_goMonths_0 47 rfl) (by decide) ?_
            refine va_put (D := D) (ci := 6) (v := .int (-6)) (ty := .int) (C := RX6) (T := TX6) (N := 32) hx hb htl inlX6 tyX6 tyX6_ok nmX6 hown hK hP hD hS 0 rfl rfl 19 (by decide) (htl _ W_376) (fun _ h9 => h9) rfl (by decide +kernel) rfl rfl (Nat.le_of_ble_eq_true rfl) (dAt zX6_goMonths_0 48 rfl) (fun H locs hP hD hS => ?_)
            have hP : va_P D vwCl (w6x cI cJ cZ qS (zS_36 0 0) (zS_36 0 1) (zS_36 0 2) (zS_36 0 8) (zS_36 0 10) (zS_36 0 14) (zS_36 0 15) (zS_36 0 16) (zS_36 0 17) (-6) (zS_36 0 20) (zS_36 0 21) (zS_36 0 22) (zS_36 0 23) (zS_36 0 30) (zS_36 0 31) (zS_36 4) (zS_36 5) (zS_36 6) (zS_36 7) (zS_36 8) (zS_36 10) (zS_36 12) (zS_36 13) (zS_36 14) (zS_36 19) (zS_36 25) (zS_36 26) (zL 27) (zS_36 28) (zS_36 29) (zS_36 30)) H := hP
            have hD : va_D A (w6x cI cJ cZ qS (zS_36 0 0) (zS_36 0 1) (zS_36 0 2) (zS_36 0 8) (zS_36 0 10) (zS_36 0 14) (zS_36 0 15) (zS_36 0 16) (zS_36 0 17) (-6) (zS_36 0 20) (zS_36 0 21) (zS_36 0 22) (zS_36 0 23) (zS_36 0 30) (zS_36 0 31) (zS_36 4) (zS_36 5) (zS_36 6) (zS_36 7) (zS_36 8) (zS_36 10) (zS_36 12) (zS_36 13) (zS_36 14) (zS_36 19) (zS_36 25) (zS_36 26) (zL 27) (zS_36 28) (zS_36 29) (zS_36 30)) := hD
            refine lv_aload_n hx hb (dAt zX6_goMonths_0 49 rfl) rfl (lv_at hl 1 rfl) ?_
            refine lv_iload_n hx hb (dAt zX6_goMonths_0 50 rfl) rfl (lv_at hl 0 rfl) ?_
            refine lv_if_le (tgt := 97) hx hb (dAt zX6_goMonths_0 51 rfl) (by decide) (fun c_90 => ?_) (fun c_90 => ?_)
            · have h := q_pos c_90 h
              refine lv_bipush (v := (-6)) hx hb (dAt zX6_goMonths_0 54 rfl) (by decide) ?_
              refine va_put (D := D) (ci := 6) (v := .int (-6)) (ty := .int) (C := RX6) (T := TX6) (N := 32) hx hb htl inlX6 tyX6 tyX6_ok nmX6 hown hK hP hD hS 0 rfl rfl 20 (by decide) (htl _ W_377) (fun _ h9 => h9) rfl (by decide +kernel) rfl rfl (Nat.le_of_ble_eq_true rfl) (dAt zX6_goMonths_0 55 rfl) (fun H locs hP hD hS => ?_)
              have hP : va_P D vwCl (w6x cI cJ cZ qS (zS_36 0 0) (zS_36 0 1) (zS_36 0 2) (zS_36 0 8) (zS_36 0 10) (zS_36 0 14) (zS_36 0 15) (zS_36 0 16) (zS_36 0 17) (-6) (-6) (zS_36 0 21) (zS_36 0 22) (zS_36 0 23) (zS_36 0 30) (zS_36 0 31) (zS_36 4) (zS_36 5) (zS_36 6) (zS_36 7) (zS_36 8) (zS_36 10) (zS_36 12) (zS_36 13) (zS_36 14) (zS_36 19) (zS_36 25) (zS_36 26) (zL 27) (zS_36 28) (zS_36 29) (zS_36 30)) H := hP
              have hD : va_D A (w6x cI cJ cZ qS (zS_36 0 0) (zS_36 0 1) (zS_36 0 2) (zS_36 0 8) (zS_36 0 10) (zS_36 0 14) (zS_36 0 15) (zS_36 0 16) (zS_36 0 17) (-6) (-6) (zS_36 0 21) (zS_36 0 22) (zS_36 0 23) (zS_36 0 30) (zS_36 0 31) (zS_36 4) (zS_36 5) (zS_36 6) (zS_36 7) (zS_36 8) (zS_36 10) (zS_36 12) (zS_36 13) (zS_36 14) (zS_36 19) (zS_36 25) (zS_36 26) (zL 27) (zS_36 28) (zS_36 29) (zS_36 30)) := hD
              refine lv_iload_n hx hb (dAt zX6_goMonths_0 56 rfl) rfl (lv_at hl 0 rfl) ?_
              refine lv_if_ne (tgt := 111) hx hb (dAt zX6_goMonths_0 57 rfl) (by decide) (fun c_103 => ?_) (fun c_103 => ?_)
              · have h := q_neg c_103 h
                refine lv_iinc (v := (v1_36 + 1)) (lv' := [(1, .int (v1_36 + 1)), (2, .int u70), (0, .ref (qS 0))]) hx hb (dAt zX6_goMonths_0 61 rfl) hl (k := 2) rfl rfl (by decide) rfl (fun ls hl => ?_)
                refine lv_goto (tgt := 36) hx hb (dAt zX6_goMonths_0 62 rfl) (by decide) ?_
                have hP : va_P D vwCl (w6 cI cJ cZ qS (sf (sf zS_36 19 (-6)) 20 (-6)) zL) H := hP
                have hD : va_D A (w6 cI cJ cZ qS (sf (sf zS_36 19 (-6)) 20 (-6)) zL) := hD
                exact ih_36 (v1_36 + 1) (sf (sf zS_36 19 (-6)) 20 (-6)) _ _ _ h hP hD hS (lv_sub hl [2, 0] rfl)
              · have h := q_pos c_103 h
                refine lv_aload_n hx hb (dAt zX6_goMonths_0 58 rfl) rfl (lv_at hl 1 rfl) ?_
                refine lv_iload_n hx hb (dAt zX6_goMonths_0 59 rfl) rfl (lv_at hl 2 rfl) ?_
                have hP : va_P D vwCl (w6 cI cJ cZ qS (sf (sf zS_36 19 (-6)) 20 (-6)) zL) H := hP
                have hD : va_D A (w6 cI cJ cZ qS (sf (sf zS_36 19 (-6)) 20 (-6)) zL) := hD
                obtain ⟨u108, hu108, h⟩ := q_bind h
                refine xFv (wc := (w6 cI cJ cZ qS (sf (sf zS_36 19 (-6)) 20 (-6)) zL)) (w1 := (w6 cI cJ cZ qS u108 zL)) (wr := ([] : va_W)) (ws2 := (w6 cI cJ cZ qS u108 zL)) (va_runV (As := [.int v1_36]) (rest := []) ⟨hx, hb, hml, hown, htl⟩ (c_X6_goOne l D cI cJ cZ n qS H.size (sf (sf zS_36 19 (-6)) 20 (-6)) zL v1_36 u108 hu108) (cwV 1 htl (gV W_414 W_415 W_416 W_5 W_417) rfl rfl rfl (by decide +kernel) ⟨Nat.le_of_ble_eq_true rfl, Nat.le_of_ble_eq_true rfl⟩) (xPV hP hD hK hN 0 rfl rfl) rfl rfl hl.1 rfl (lv_room (Nat.le_of_ble_eq_true rfl)) (dAt zX6_goMonths_0 60 rfl) ⟨Nat.zero_le _, Nat.zero_le _⟩) hS hA hP hD [0, 1, 2, 3, 4, 5, 6, 7, 8, 9, 10, 11, 12, 13, 14, 15, 16] [] [0, 1, 2, 3, 4, 5, 6, 7, 8, 9, 10, 11, 12, 13, 14, 15, 16] rfl rfl (by decide) (by decide) rfl (by decide) (fun H locs hP hD hS => ?_)
                refine lv_iinc (v := (v1_36 + 1)) (lv' := [(1, .int (v1_36 + 1)), (2, .int u70), (0, .ref (qS 0))]) hx hb (dAt zX6_goMonths_0 61 rfl) hl (k := 2) rfl rfl (by decide) rfl (fun ls hl => ?_)
                refine lv_goto (tgt := 36) hx hb (dAt zX6_goMonths_0 62 rfl) (by decide) ?_
                exact ih_36 (v1_36 + 1) u108 _ _ _ h hP hD hS (lv_sub hl [2, 0] rfl)
            · have h := q_neg c_90 h
              refine lv_iload_n hx hb (dAt zX6_goMonths_0 52 rfl) rfl (lv_at hl 0 rfl) ?_
              refine lv_goto (tgt := 99) hx hb (dAt zX6_goMonths_0 53 rfl) (by decide) ?_
              refine va_put (D := D) (ci := 6) (v := .int u70) (ty := .int) (C := RX6) (T := TX6) (N := 32) hx hb htl inlX6 tyX6 tyX6_ok nmX6 hown hK hP hD hS 0 rfl rfl 20 (by decide) (htl _ W_377) (fun _ h9 => h9) rfl (by decide +kernel) rfl rfl (Nat.le_of_ble_eq_true rfl) (dAt zX6_goMonths_0 55 rfl) (fun H locs hP hD hS => ?_)
              have hP : va_P D vwCl (w6x cI cJ cZ qS (zS_36 0 0) (zS_36 0 1) (zS_36 0 2) (zS_36 0 8) (zS_36 0 10) (zS_36 0 14) (zS_36 0 15) (zS_36 0 16) (zS_36 0 17) (-6) u70 (zS_36 0 21) (zS_36 0 22) (zS_36 0 23) (zS_36 0 30) (zS_36 0 31) (zS_36 4) (zS_36 5) (zS_36 6) (zS_36 7) (zS_36 8) (zS_36 10) (zS_36 12) (zS_36 13) (zS_36 14) (zS_36 19) (zS_36 25) (zS_36 26) (zL 27) (zS_36 28) (zS_36 29) (zS_36 30)) H := hP
              have hD : va_D A (w6x cI cJ cZ qS (zS_36 0 0) (zS_36 0 1) (zS_36 0 2) (zS_36 0 8) (zS_36 0 10) (zS_36 0 14) (zS_36 0 15) (zS_36 0 16) (zS_36 0 17) (-6) u70 (zS_36 0 21) (zS_36 0 22) (zS_36 0 23) (zS_36 0 30) (zS_36 0 31) (zS_36 4) (zS_36 5) (zS_36 6) (zS_36 7) (zS_36 8) (zS_36 10) (zS_36 12) (zS_36 13) (zS_36 14) (zS_36 19) (zS_36 25) (zS_36 26) (zL 27) (zS_36 28) (zS_36 29) (zS_36 30)) := hD
              refine lv_iload_n hx hb (dAt zX6_goMonths_0 56 rfl) rfl (lv_at hl 0 rfl) ?_
              refine lv_if_ne (tgt := 111) hx hb (dAt zX6_goMonths_0 57 rfl) (by decide) (fun c_103 => ?_) (fun c_103 => ?_)
              · have h := q_neg c_103 h
                refine lv_iinc (v := (v1_36 + 1)) (lv' := [(1, .int (v1_36 + 1)), (2, .int u70), (0, .ref (qS 0))]) hx hb (dAt zX6_goMonths_0 61 rfl) hl (k := 2) rfl rfl (by decide) rfl (fun ls hl => ?_)
                refine lv_goto (tgt := 36) hx hb (dAt zX6_goMonths_0 62 rfl) (by decide) ?_
                have hP : va_P D vwCl (w6 cI cJ cZ qS (sf (sf zS_36 19 (-6)) 20 u70) zL) H := hP
                have hD : va_D A (w6 cI cJ cZ qS (sf (sf zS_36 19 (-6)) 20 u70) zL) := hD
                exact ih_36 (v1_36 + 1) (sf (sf zS_36 19 (-6)) 20 u70) _ _ _ h hP hD hS (lv_sub hl [2, 0] rfl)
              · have h := q_pos c_103 h
                refine lv_aload_n hx hb (dAt zX6_goMonths_0 58 rfl) rfl (lv_at hl 1 rfl) ?_
                refine lv_iload_n hx hb (dAt zX6_goMonths_0 59 rfl) rfl (lv_at hl 2 rfl) ?_
                have hP : va_P D vwCl (w6 cI cJ cZ qS (sf (sf zS_36 19 (-6)) 20 u70) zL) H := hP
                have hD : va_D A (w6 cI cJ cZ qS (sf (sf zS_36 19 (-6)) 20 u70) zL) := hD
                obtain ⟨u108, hu108, h⟩ := q_bind h
                refine xFv (wc := (w6 cI cJ cZ qS (sf (sf zS_36 19 (-6)) 20 u70) zL)) (w1 := (w6 cI cJ cZ qS u108 zL)) (wr := ([] : va_W)) (ws2 := (w6 cI cJ cZ qS u108 zL)) (va_runV (As := [.int v1_36]) (rest := []) ⟨hx, hb, hml, hown, htl⟩ (c_X6_goOne l D cI cJ cZ n qS H.size (sf (sf zS_36 19 (-6)) 20 u70) zL v1_36 u108 hu108) (cwV 1 htl (gV W_414 W_415 W_416 W_5 W_417) rfl rfl rfl (by decide +kernel) ⟨Nat.le_of_ble_eq_true rfl, Nat.le_of_ble_eq_true rfl⟩) (xPV hP hD hK hN 0 rfl rfl) rfl rfl hl.1 rfl (lv_room (Nat.le_of_ble_eq_true rfl)) (dAt zX6_goMonths_0 60 rfl) ⟨Nat.zero_le _, Nat.zero_le _⟩) hS hA hP hD [0, 1, 2, 3, 4, 5, 6, 7, 8, 9, 10, 11, 12, 13, 14, 15, 16] [] [0, 1, 2, 3, 4, 5, 6, 7, 8, 9, 10, 11, 12, 13, 14, 15, 16] rfl rfl (by decide) (by decide) rfl (by decide) (fun H locs hP hD hS => ?_)
                refine lv_iinc (v := (v1_36 + 1)) (lv' := [(1, .int (v1_36 + 1)), (2, .int u70), (0, .ref (qS 0))]) hx hb (dAt zX6_goMonths_0 61 rfl) hl (k := 2) rfl rfl (by decide) rfl (fun ls hl => ?_)
                refine lv_goto (tgt := 36) hx hb (dAt zX6_goMonths_0 62 rfl) (by decide) ?_
                exact ih_36 (v1_36 + 1) u108 _ _ _ h hP hD hS (lv_sub hl [2, 0] rfl)
          · have h := q_neg c_76 h
            refine lv_iload_n hx hb (dAt zX6_goMonths_0 45 rfl) rfl (lv_at hl 2 rfl) ?_
            refine lv_goto (tgt := 85) hx hb (dAt zX6_goMonths_0 46 rfl) (by decide) ?_
            refine va_put (D := D) (ci := 6) (v := .int v1_36) (ty := .int) (C := RX6) (T := TX6) (N := 32) hx hb htl inlX6 tyX6 tyX6_ok nmX6 hown hK hP hD hS 0 rfl rfl 19 (by decide) (htl _ W_376) (fun _ h9 => h9) rfl (by decide +kernel) rfl rfl (Nat.le_of_ble_eq_true rfl) (dAt zX6_goMonths_0 48 rfl) (fun H locs hP hD hS => ?_)
            have hP : va_P D vwCl (w6x cI cJ cZ qS (zS_36 0 0) (zS_36 0 1) (zS_36 0 2) (zS_36 0 8) (zS_36 0 10) (zS_36 0 14) (zS_36 0 15) (zS_36 0 16) (zS_36 0 17) v1_36 (zS_36 0 20) (zS_36 0 21) (zS_36 0 22) (zS_36 0 23) (zS_36 0 30) (zS_36 0 31) (zS_36 4) (zS_36 5) (zS_36 6) (zS_36 7) (zS_36 8) (zS_36 10) (zS_36 12) (zS_36 13) (zS_36 14) (zS_36 19) (zS_36 25) (zS_36 26) (zL 27) (zS_36 28) (zS_36 29) (zS_36 30)) H := hP
            have hD : va_D A (w6x cI cJ cZ qS (zS_36 0 0) (zS_36 0 1) (zS_36 0 2) (zS_36 0 8) (zS_36 0 10) (zS_36 0 14) (zS_36 0 15) (zS_36 0 16) (zS_36 0 17) v1_36 (zS_36 0 20) (zS_36 0 21) (zS_36 0 22) (zS_36 0 23) (zS_36 0 30) (zS_36 0 31) (zS_36 4) (zS_36 5) (zS_36 6) (zS_36 7) (zS_36 8) (zS_36 10) (zS_36 12) (zS_36 13) (zS_36 14) (zS_36 19) (zS_36 25) (zS_36 26) (zL 27) (zS_36 28) (zS_36 29) (zS_36 30)) := hD
            refine lv_aload_n hx hb (dAt zX6_goMonths_0 49 rfl) rfl (lv_at hl 1 rfl) ?_
            refine lv_iload_n hx hb (dAt zX6_goMonths_0 50 rfl) rfl (lv_at hl 0 rfl) ?_
            refine lv_if_le (tgt := 97) hx hb (dAt zX6_goMonths_0 51 rfl) (by decide) (fun c_90 => ?_) (fun c_90 => ?_)
            · have h := q_pos c_90 h
              refine lv_bipush (v := (-6)) hx hb (dAt zX6_goMonths_0 54 rfl) (by decide) ?_
              refine va_put (D := D) (ci := 6) (v := .int (-6)) (ty := .int) (C := RX6) (T := TX6) (N := 32) hx hb htl inlX6 tyX6 tyX6_ok nmX6 hown hK hP hD hS 0 rfl rfl 20 (by decide) (htl _ W_377) (fun _ h9 => h9) rfl (by decide +kernel) rfl rfl (Nat.le_of_ble_eq_true rfl) (dAt zX6_goMonths_0 55 rfl) (fun H locs hP hD hS => ?_)
              have hP : va_P D vwCl (w6x cI cJ cZ qS (zS_36 0 0) (zS_36 0 1) (zS_36 0 2) (zS_36 0 8) (zS_36 0 10) (zS_36 0 14) (zS_36 0 15) (zS_36 0 16) (zS_36 0 17) v1_36 (-6) (zS_36 0 21) (zS_36 0 22) (zS_36 0 23) (zS_36 0 30) (zS_36 0 31) (zS_36 4) (zS_36 5) (zS_36 6) (zS_36 7) (zS_36 8) (zS_36 10) (zS_36 12) (zS_36 13) (zS_36 14) (zS_36 19) (zS_36 25) (zS_36 26) (zL 27) (zS_36 28) (zS_36 29) (zS_36 30)) H := hP
              have hD : va_D A (w6x cI cJ cZ qS (zS_36 0 0) (zS_36 0 1) (zS_36 0 2) (zS_36 0 8) (zS_36 0 10) (zS_36 0 14) (zS_36 0 15) (zS_36 0 16) (zS_36 0 17) v1_36 (-6) (zS_36 0 21) (zS_36 0 22) (zS_36 0 23) (zS_36 0 30) (zS_36 0 31) (zS_36 4) (zS_36 5) (zS_36 6) (zS_36 7) (zS_36 8) (zS_36 10) (zS_36 12) (zS_36 13) (zS_36 14) (zS_36 19) (zS_36 25) (zS_36 26) (zL 27) (zS_36 28) (zS_36 29) (zS_36 30)) := hD
              refine lv_iload_n hx hb (dAt zX6_goMonths_0 56 rfl) rfl (lv_at hl 0 rfl) ?_
              refine lv_if_ne (tgt := 111) hx hb (dAt zX6_goMonths_0 57 rfl) (by decide) (fun c_103 => ?_) (fun c_103 => ?_)
              · have h := q_neg c_103 h
                refine lv_iinc (v := (v1_36 + 1)) (lv' := [(1, .int (v1_36 + 1)), (2, .int u70), (0, .ref (qS 0))]) hx hb (dAt zX6_goMonths_0 61 rfl) hl (k := 2) rfl rfl (by decide) rfl (fun ls hl => ?_)
                refine lv_goto (tgt := 36) hx hb (dAt zX6_goMonths_0 62 rfl) (by decide) ?_
                have hP : va_P D vwCl (w6 cI cJ cZ qS (sf (sf zS_36 19 v1_36) 20 (-6)) zL) H := hP
                have hD : va_D A (w6 cI cJ cZ qS (sf (sf zS_36 19 v1_36) 20 (-6)) zL) := hD
                exact ih_36 (v1_36 + 1) (sf (sf zS_36 19 v1_36) 20 (-6)) _ _ _ h hP hD hS (lv_sub hl [2, 0] rfl)
              · have h := q_pos c_103 h
                refine lv_aload_n hx hb (dAt zX6_goMonths_0 58 rfl) rfl (lv_at hl 1 rfl) ?_
                refine lv_iload_n hx hb (dAt zX6_goMonths_0 59 rfl) rfl (lv_at hl 2 rfl) ?_
                have hP : va_P D vwCl (w6 cI cJ cZ qS (sf (sf zS_36 19 v1_36) 20 (-6)) zL) H := hP
                have hD : va_D A (w6 cI cJ cZ qS (sf (sf zS_36 19 v1_36) 20 (-6)) zL) := hD
                obtain ⟨u108, hu108, h⟩ := q_bind h
                refine xFv (wc := (w6 cI cJ cZ qS (sf (sf zS_36 19 v1_36) 20 (-6)) zL)) (w1 := (w6 cI cJ cZ qS u108 zL)) (wr := ([] : va_W)) (ws2 := (w6 cI cJ cZ qS u108 zL)) (va_runV (As := [.int v1_36]) (rest := []) ⟨hx, hb, hml, hown, htl⟩ (c_X6_goOne l D cI cJ cZ n qS H.size (sf (sf zS_36 19 v1_36) 20 (-6)) zL v1_36 u108 hu108) (cwV 1 htl (gV W_414 W_415 W_416 W_5 W_417) rfl rfl rfl (by decide +kernel) ⟨Nat.le_of_ble_eq_true rfl, Nat.le_of_ble_eq_true rfl⟩) (xPV hP hD hK hN 0 rfl rfl) rfl rfl hl.1 rfl (lv_room (Nat.le_of_ble_eq_true rfl)) (dAt zX6_goMonths_0 60 rfl) ⟨Nat.zero_le _, Nat.zero_le _⟩) hS hA hP hD [0, 1, 2, 3, 4, 5, 6, 7, 8, 9, 10, 11, 12, 13, 14, 15, 16] [] [0, 1, 2, 3, 4, 5, 6, 7, 8, 9, 10, 11, 12, 13, 14, 15, 16] rfl rfl (by decide) (by decide) rfl (by decide) (fun H locs hP hD hS => ?_)
                refine lv_iinc (v := (v1_36 + 1)) (lv' := [(1, .int (v1_36 + 1)), (2, .int u70), (0, .ref (qS 0))]) hx hb (dAt zX6_goMonths_0 61 rfl) hl (k := 2) rfl rfl (by decide) rfl (fun ls hl => ?_)
                refine lv_goto (tgt := 36) hx hb (dAt zX6_goMonths_0 62 rfl) (by decide) ?_
                exact ih_36 (v1_36 + 1) u108 _ _ _ h hP hD hS (lv_sub hl [2, 0] rfl)
            · have h := q_neg c_90 h
              refine lv_iload_n hx hb (dAt zX6_goMonths_0 52 rfl) rfl (lv_at hl 0 rfl) ?_
              refine lv_goto (tgt := 99) hx hb (dAt zX6_goMonths_0 53 rfl) (by decide) ?_
              refine va_put (D := D) (ci := 6) (v := .int u70) (ty := .int) (C := RX6) (T := TX6) (N := 32) hx hb htl inlX6 tyX6 tyX6_ok nmX6 hown hK hP hD hS 0 rfl rfl 20 (by decide) (htl _ W_377) (fun _ h9 => h9) rfl (by decide +kernel) rfl rfl (Nat.le_of_ble_eq_true rfl) (dAt zX6_goMonths_0 55 rfl) (fun H locs hP hD hS => ?_)
              have hP : va_P D vwCl (w6x cI cJ cZ qS (zS_36 0 0) (zS_36 0 1) (zS_36 0 2) (zS_36 0 8) (zS_36 0 10) (zS_36 0 14) (zS_36 0 15) (zS_36 0 16) (zS_36 0 17) v1_36 u70 (zS_36 0 21) (zS_36 0 22) (zS_36 0 23) (zS_36 0 30) (zS_36 0 31) (zS_36 4) (zS_36 5) (zS_36 6) (zS_36 7) (zS_36 8) (zS_36 10) (zS_36 12) (zS_36 13) (zS_36 14) (zS_36 19) (zS_36 25) (zS_36 26) (zL 27) (zS_36 28) (zS_36 29) (zS_36 30)) H := hP
              have hD : va_D A (w6x cI cJ cZ qS (zS_36 0 0) (zS_36 0 1) (zS_36 0 2) (zS_36 0 8) (zS_36 0 10) (zS_36 0 14) (zS_36 0 15) (zS_36 0 16) (zS_36 0 17) v1_36 u70 (zS_36 0 21) (zS_36 0 22) (zS_36 0 23) (zS_36 0 30) (zS_36 0 31) (zS_36 4) (zS_36 5) (zS_36 6) (zS_36 7) (zS_36 8) (zS_36 10) (zS_36 12) (zS_36 13) (zS_36 14) (zS_36 19) (zS_36 25) (zS_36 26) (zL 27) (zS_36 28) (zS_36 29) (zS_36 30)) := hD
              refine lv_iload_n hx hb (dAt zX6_goMonths_0 56 rfl) rfl (lv_at hl 0 rfl) ?_
              refine lv_if_ne (tgt := 111) hx hb (dAt zX6_goMonths_0 57 rfl) (by decide) (fun c_103 => ?_) (fun c_103 => ?_)
              · have h := q_neg c_103 h
                refine lv_iinc (v := (v1_36 + 1)) (lv' := [(1, .int (v1_36 + 1)), (2, .int u70), (0, .ref (qS 0))]) hx hb (dAt zX6_goMonths_0 61 rfl) hl (k := 2) rfl rfl (by decide) rfl (fun ls hl => ?_)
                refine lv_goto (tgt := 36) hx hb (dAt zX6_goMonths_0 62 rfl) (by decide) ?_
                have hP : va_P D vwCl (w6 cI cJ cZ qS (sf (sf zS_36 19 v1_36) 20 u70) zL) H := hP
                have hD : va_D A (w6 cI cJ cZ qS (sf (sf zS_36 19 v1_36) 20 u70) zL) := hD
                exact ih_36 (v1_36 + 1) (sf (sf zS_36 19 v1_36) 20 u70) _ _ _ h hP hD hS (lv_sub hl [2, 0] rfl)
              · have h := q_pos c_103 h
                refine lv_aload_n hx hb (dAt zX6_goMonths_0 58 rfl) rfl (lv_at hl 1 rfl) ?_
                refine lv_iload_n hx hb (dAt zX6_goMonths_0 59 rfl) rfl (lv_at hl 2 rfl) ?_
                have hP : va_P D vwCl (w6 cI cJ cZ qS (sf (sf zS_36 19 v1_36) 20 u70) zL) H := hP
                have hD : va_D A (w6 cI cJ cZ qS (sf (sf zS_36 19 v1_36) 20 u70) zL) := hD
                obtain ⟨u108, hu108, h⟩ := q_bind h
                refine xFv (wc := (w6 cI cJ cZ qS (sf (sf zS_36 19 v1_36) 20 u70) zL)) (w1 := (w6 cI cJ cZ qS u108 zL)) (wr := ([] : va_W)) (ws2 := (w6 cI cJ cZ qS u108 zL)) (va_runV (As := [.int v1_36]) (rest := []) ⟨hx, hb, hml, hown, htl⟩ (c_X6_goOne l D cI cJ cZ n qS H.size (sf (sf zS_36 19 v1_36) 20 u70) zL v1_36 u108 hu108) (cwV 1 htl (gV W_414 W_415 W_416 W_5 W_417) rfl rfl rfl (by decide +kernel) ⟨Nat.le_of_ble_eq_true rfl, Nat.le_of_ble_eq_true rfl⟩) (xPV hP hD hK hN 0 rfl rfl) rfl rfl hl.1 rfl (lv_room (Nat.le_of_ble_eq_true rfl)) (dAt zX6_goMonths_0 60 rfl) ⟨Nat.zero_le _, Nat.zero_le _⟩) hS hA hP hD [0, 1, 2, 3, 4, 5, 6, 7, 8, 9, 10, 11, 12, 13, 14, 15, 16] [] [0, 1, 2, 3, 4, 5, 6, 7, 8, 9, 10, 11, 12, 13, 14, 15, 16] rfl rfl (by decide) (by decide) rfl (by decide) (fun H locs hP hD hS => ?_)
                refine lv_iinc (v := (v1_36 + 1)) (lv' := [(1, .int (v1_36 + 1)), (2, .int u70), (0, .ref (qS 0))]) hx hb (dAt zX6_goMonths_0 61 rfl) hl (k := 2) rfl rfl (by decide) rfl (fun ls hl => ?_)
                refine lv_goto (tgt := 36) hx hb (dAt zX6_goMonths_0 62 rfl) (by decide) ?_
                exact ih_36 (v1_36 + 1) u108 _ _ _ h hP hD hS (lv_sub hl [2, 0] rfl)
  exact L_36 n 0 (sf (sf (sf (sf (sf (sf zS 15 0) 16 0) 19 (-6)) 20 (-6)) 21 (-6)) 22 (-6)) _ _ _ h hP hD hS (lv_sub hl [1, 0] rfl)
def m_X6_refusal (n : Nat) (zS : TI) (zL : TL) : Option (Int32 × TI) := ((m_X6_keepNow n zS zL).bind fun u1 => ((m_X6_fault n u1 zL).bind fun u5 => (if u5.1 < 0 then ((m_X6_goMonths n u5.2 zL).bind fun u15 => (if (u15 0 19) < 0 then some ((-6), u15) else some ((-3), u15))) else some ((-5), u5.2))))
set_option maxHeartbeats 4000000 in
set_option maxRecDepth 100000 in
theorem c_X6_refusal (l : Launch) (D : va_G) (cI cJ cZ : ClassId) (n : Nat) (qS : Nat → Nat) (sz : Nat) (zS : TI) (zL : TL) (out : Int32 × TI) (hm : m_X6_refusal n zS zL = some out) : Met l yX6_refusal (wsM yX6_refusal cX6_refusal 1 (some .int)) { frames := 8, cells := 0, slots := 0, locals := 179 } (xPre D (kT cI cJ cZ) (w6 cI cJ cZ qS zS zL) sz [.ref (qS 0)]) (xQi D (kT cI cJ cZ) (w6 cI cJ cZ qS zS zL) (w6 cI cJ cZ qS out.2 zL) sz out.1) 0 0 (va_A (w6 cI cJ cZ qS zS zL) sz) := by
  refine Met.ofW (cc := cX6_refusal) (maxL := 1) (ret := (some .int)) (by decide) rfl ?_
  intro p e s m args below meth c s₁ B hml hv
  obtain ⟨hv, hsz, hP, hK, hD0, hN⟩ := hv
  have hx := B.exec; have hb := B.bytes; have hr := B.returns
  have hts := atoms_spec (ws := (wsM yX6_refusal cX6_refusal 1 (some .int))) B.pre
  have hown : s.vm.findClass RX6 = some m.cls := findClass_of_methodNamed B.named
  have hlocks := B.notSynchronized
  subst hsz
  have hD := hD0.self (sz := s.heap.size)
  obtain ⟨A, hAe⟩ : ∃ A, A = va_A (w6 cI cJ cZ qS zS zL) s.heap.size := ⟨_, rfl⟩
  rw [← hAe] at hD
  have hA : ∀ q : Nat, s.heap.size ≤ q → A q := fun q h => by rw [hAe]; exact Or.inr h
  have htl : ∀ w ∈ wsL_law, w.before args s = true := fun w h => hts w (List.mem_cons_of_mem _ h)
  refine xHead (R' := { frames := 8, cells := 0, slots := 0, locals := 179 }) rfl (fun Q H hQ hH => ?_)
  have hP : va_P D vwCl (w6 cI cJ cZ qS zS zL) H := by rw [hH]; exact hP
  have hS : va_S A s.heap H [] := by rw [hH]; exact va_S.rf
  refine xStart hv (Nat.le_of_ble_eq_true rfl) (lv := [(0, .ref (qS 0))]) rfl (fun ls hl => ?_)
  have h := hm
  unfold m_X6_refusal at h
  refine lv_aload_n hx hb (dAt zX6_refusal_0 0 rfl) rfl (lv_at hl 0 rfl) ?_
  obtain ⟨u1, hu1, h⟩ := q_bind h
  refine xFv (wc := (w6 cI cJ cZ qS zS zL)) (w1 := (w6 cI cJ cZ qS u1 zL)) (wr := ([] : va_W)) (ws2 := (w6 cI cJ cZ qS u1 zL)) (va_runV (As := []) (rest := []) ⟨hx, hb, hml, hown, htl⟩ (c_X6_keepNow l D cI cJ cZ n qS H.size zS zL  u1 hu1) (cwV 0 htl (gV W_383 W_384 W_385 W_5 W_386) rfl rfl rfl (by decide +kernel) ⟨Nat.le_of_ble_eq_true rfl, Nat.le_of_ble_eq_true rfl⟩) (xPV hP hD hK hN 0 rfl rfl) rfl rfl hl.1 rfl (lv_room (Nat.le_of_ble_eq_true rfl)) (dAt zX6_refusal_0 1 rfl) ⟨Nat.zero_le _, Nat.zero_le _⟩) hS hA hP hD [0, 1, 2, 3, 4, 5, 6, 7, 8, 9, 10, 11, 12, 13, 14, 15, 16] [] [0, 1, 2, 3, 4, 5, 6, 7, 8, 9, 10, 11, 12, 13, 14, 15, 16] rfl rfl (by decide) (by decide) rfl (by decide) (fun H locs hP hD hS => ?_)
  refine lv_aload_n hx hb (dAt zX6_refusal_0 2 rfl) rfl (lv_at hl 0 rfl) ?_
  obtain ⟨u5, hu5, h⟩ := q_bind h
  refine xFi (wc := (w6 cI cJ cZ qS u1 zL)) (w1 := (w6 cI cJ cZ qS u5.2 zL)) (wr := ([] : va_W)) (ws2 := (w6 cI cJ cZ qS u5.2 zL)) (va_runV (As := []) (rest := []) ⟨hx, hb, hml, hown, htl⟩ (c_X6_fault l D cI cJ cZ n qS H.size u1 zL  u5 hu5) (cwV 0 htl (gV W_387 W_235 W_236 W_5 W_237) rfl rfl rfl (by decide +kernel) ⟨Nat.le_of_ble_eq_true rfl, Nat.le_of_ble_eq_true rfl⟩) (xPV hP hD hK hN 0 rfl rfl) rfl rfl hl.1 rfl (lv_room (Nat.le_of_ble_eq_true rfl)) (dAt zX6_refusal_0 3 rfl) ⟨Nat.zero_le _, Nat.zero_le _⟩) hS hA hP hD [0, 1, 2, 3, 4, 5, 6, 7, 8, 9, 10, 11, 12, 13, 14, 15, 16] [] [0, 1, 2, 3, 4, 5, 6, 7, 8, 9, 10, 11, 12, 13, 14, 15, 16] rfl rfl (by decide) (by decide) rfl (by decide) (fun H locs hP hD hS => ?_)
  refine lv_if_lt (tgt := 14) hx hb (dAt zX6_refusal_0 4 rfl) (by decide) (fun c_8 => ?_) (fun c_8 => ?_)
  · have h := q_pos c_8 h
    refine lv_aload_n hx hb (dAt zX6_refusal_0 7 rfl) rfl (lv_at hl 0 rfl) ?_
    obtain ⟨u15, hu15, h⟩ := q_bind h
    refine xFv (wc := (w6 cI cJ cZ qS u5.2 zL)) (w1 := (w6 cI cJ cZ qS u15 zL)) (wr := ([] : va_W)) (ws2 := (w6 cI cJ cZ qS u15 zL)) (va_runV (As := []) (rest := []) ⟨hx, hb, hml, hown, htl⟩ (c_X6_goMonths l D cI cJ cZ n qS H.size u5.2 zL  u15 hu15) (cwV 0 htl (gV W_388 W_389 W_390 W_5 W_391) rfl rfl rfl (by decide +kernel) ⟨Nat.le_of_ble_eq_true rfl, Nat.le_of_ble_eq_true rfl⟩) (xPV hP hD hK hN 0 rfl rfl) rfl rfl hl.1 rfl (lv_room (Nat.le_of_ble_eq_true rfl)) (dAt zX6_refusal_0 8 rfl) ⟨Nat.zero_le _, Nat.zero_le _⟩) hS hA hP hD [0, 1, 2, 3, 4, 5, 6, 7, 8, 9, 10, 11, 12, 13, 14, 15, 16] [] [0, 1, 2, 3, 4, 5, 6, 7, 8, 9, 10, 11, 12, 13, 14, 15, 16] rfl rfl (by decide) (by decide) rfl (by decide) (fun H locs hP hD hS => ?_)
    refine lv_aload_n hx hb (dAt zX6_refusal_0 9 rfl) rfl (lv_at hl 0 rfl) ?_
    refine va_get (D := D) (ci := 6) (v := .int (u15 0 19)) (C := RX6) (T := TX6) (N := 32) hx hb htl inlX6 hown hK hP 0 rfl rfl 19 (by decide) (htl _ W_376) (fun _ h9 => h9) rfl (dAt zX6_refusal_0 10 rfl) ?_
    refine lv_if_lt (tgt := 30) hx hb (dAt zX6_refusal_0 11 rfl) (by decide) (fun c_22 => ?_) (fun c_22 => ?_)
    · have h := q_pos c_22 h
      refine lv_bipush (v := (-6)) hx hb (dAt zX6_refusal_0 14 rfl) (by decide) ?_
      obtain rfl := q_some h
      exact xRi hx hb hr hlocks hQ hAe hP hD hK hS rfl (dAt zX6_refusal_0 15 rfl)
    · have h := q_neg c_22 h
      refine lv_bipush (v := (-3)) hx hb (dAt zX6_refusal_0 12 rfl) (by decide) ?_
      refine lv_goto (tgt := 32) hx hb (dAt zX6_refusal_0 13 rfl) (by decide) ?_
      obtain rfl := q_some h
      exact xRi hx hb hr hlocks hQ hAe hP hD hK hS rfl (dAt zX6_refusal_0 15 rfl)
  · have h := q_neg c_8 h
    refine lv_bipush (v := (-5)) hx hb (dAt zX6_refusal_0 5 rfl) (by decide) ?_
    obtain rfl := q_some h
    exact xRi hx hb hr hlocks hQ hAe hP hD hK hS rfl (dAt zX6_refusal_0 6 rfl)
def m_X6_judge (n : Nat) (zS : TI) (zL : TL) (a1 : Int32) : Option (Int32 × TI) := ((m_X6_in n  (Int32.toInt64 a1) 0 2).bind fun u6 => (if u6 = 0 then some ((-2), zS) else ((m_X6_refusal n zS zL).bind fun u17 => ((m_X6_back n u17.2 zL u17.1).bind fun u20 => (if u20.1 = (-5) then some (u20.1, u20.2) else (if a1 ≤ 1 then (if a1 = 0 then some ((u20.2 0 19), u20.2) else (if a1 = 1 then some ((u20.2 0 20), u20.2) else some ((u20.2 0 15), u20.2))) else (if u20.1 = (-3) then some (u20.1, u20.2) else (if a1 = 0 then some ((u20.2 0 19), u20.2) else (if a1 = 1 then some ((u20.2 0 20), u20.2) else some ((u20.2 0 15), u20.2))))))))))
set_option maxHeartbeats 4000000 in
set_option maxRecDepth 100000 in
theorem c_X6_judge (l : Launch) (D : va_G) (cI cJ cZ : ClassId) (n : Nat) (qS : Nat → Nat) (sz : Nat) (zS : TI) (zL : TL) (a1 : Int32) (out : Int32 × TI) (hm : m_X6_judge n zS zL a1 = some out) : Met l yX6_judge (wsM yX6_judge cX6_judge 3 (some .int)) { frames := 9, cells := 0, slots := 0, locals := 199 } (xPre D (kT cI cJ cZ) (w6 cI cJ cZ qS zS zL) sz [.ref (qS 0), .int a1]) (xQi D (kT cI cJ cZ) (w6 cI cJ cZ qS zS zL) (w6 cI cJ cZ qS out.2 zL) sz out.1) 0 0 (va_A (w6 cI cJ cZ qS zS zL) sz) := by
  refine Met.ofW (cc := cX6_judge) (maxL := 3) (ret := (some .int)) (by decide) rfl ?_
  intro p e s m args below meth c s₁ B hml hv
  obtain ⟨hv, hsz, hP, hK, hD0, hN⟩ := hv
  have hx := B.exec; have hb := B.bytes; have hr := B.returns
  have hts := atoms_spec (ws := (wsM yX6_judge cX6_judge 3 (some .int))) B.pre
  have hown : s.vm.findClass RX6 = some m.cls := findClass_of_methodNamed B.named
  have hlocks := B.notSynchronized
  subst hsz
  have hD := hD0.self (sz := s.heap.size)
  obtain ⟨A, hAe⟩ : ∃ A, A = va_A (w6 cI cJ cZ qS zS zL) s.heap.size := ⟨_, rfl⟩
  rw [← hAe] at hD
  have hA : ∀ q : Nat, s.heap.size ≤ q → A q := fun q h => by rw [hAe]; exact Or.inr h
  have htl : ∀ w ∈ wsL_law, w.before args s = true := fun w h => hts w (List.mem_cons_of_mem _ h)
  refine xHead (R' := { frames := 9, cells := 0, slots := 0, locals := 199 }) rfl (fun Q H hQ hH => ?_)
  have hP : va_P D vwCl (w6 cI cJ cZ qS zS zL) H := by rw [hH]; exact hP
  have hS : va_S A s.heap H [] := by rw [hH]; exact va_S.rf
  refine xStart hv (Nat.le_of_ble_eq_true rfl) (lv := [(0, .ref (qS 0)), (1, .int a1)]) rfl (fun ls hl => ?_)
  have h := hm
  unfold m_X6_judge at h
  refine lv_iload_n hx hb (dAt zX6_judge_0 0 rfl) rfl (lv_at hl 1 rfl) ?_
  refine lv_i2l (v := (Int32.toInt64 a1)) hx hb (dAt zX6_judge_0 1 rfl) rfl ?_
  refine lv_lconst (v := 0) hx hb (dAt zX6_judge_0 2 rfl) (by decide) ?_
  refine lv_ldc2 (v := 2) hx hb hown (htl _ W_375) (dAt zX6_judge_0 3 rfl) ?_
  obtain ⟨u6, hu6, h⟩ := q_bind h
  refine xFz (wc := ([] : va_W)) (w1 := ([] : va_W)) (wr := (w6 cI cJ cZ qS zS zL)) (ws2 := (w6 cI cJ cZ qS zS zL)) (va_runS (As := [.long (Int32.toInt64 a1), .long 0, .long 2]) (rest := []) ⟨hx, hb, hml, hown, htl⟩ (c_X6_in l D cI cJ cZ n  H.size  (Int32.toInt64 a1) 0 2 u6 hu6) (va_cwS 3 htl (gS W_130 W_131 W_5 W_132) rfl rfl rfl (by decide +kernel) ⟨Nat.le_of_ble_eq_true rfl, Nat.le_of_ble_eq_true rfl⟩) (xPS xP0 (xD0 A) hK hN) rfl rfl hl.1 rfl (lv_room (Nat.le_of_ble_eq_true rfl)) (dAt zX6_judge_0 4 rfl) ⟨Nat.zero_le _, Nat.zero_le _⟩) hS hA hP hD [] [0, 1, 2, 3, 4, 5, 6, 7, 8, 9, 10, 11, 12, 13, 14, 15, 16] [0, 1, 2, 3, 4, 5, 6, 7, 8, 9, 10, 11, 12, 13, 14, 15, 16] rfl rfl (by decide) (by decide) rfl (by decide) (fun H locs hz6 hP hD hS => ?_)
  refine lv_if_ne (tgt := 15) hx hb (dAt zX6_judge_0 5 rfl) (by decide) (fun c_9 => ?_) (fun c_9 => ?_)
  · have h := q_neg c_9 h
    refine lv_aload_n hx hb (dAt zX6_judge_0 8 rfl) rfl (lv_at hl 0 rfl) ?_
    refine lv_aload_n hx hb (dAt zX6_judge_0 9 rfl) rfl (lv_at hl 0 rfl) ?_
    obtain ⟨u17, hu17, h⟩ := q_bind h
    refine xFi (wc := (w6 cI cJ cZ qS zS zL)) (w1 := (w6 cI cJ cZ qS u17.2 zL)) (wr := ([] : va_W)) (ws2 := (w6 cI cJ cZ qS u17.2 zL)) (va_runV (As := []) (rest := [.ref (qS 0)]) ⟨hx, hb, hml, hown, htl⟩ (c_X6_refusal l D cI cJ cZ n qS H.size zS zL  u17 hu17) (cwV 0 htl (gV W_379 W_380 W_381 W_5 W_382) rfl rfl rfl (by decide +kernel) ⟨Nat.le_of_ble_eq_true rfl, Nat.le_of_ble_eq_true rfl⟩) (xPV hP hD hK hN 0 rfl rfl) rfl rfl hl.1 rfl (lv_room (Nat.le_of_ble_eq_true rfl)) (dAt zX6_judge_0 10 rfl) ⟨Nat.zero_le _, Nat.zero_le _⟩) hS hA hP hD [0, 1, 2, 3, 4, 5, 6, 7, 8, 9, 10, 11, 12, 13, 14, 15, 16] [] [0, 1, 2, 3, 4, 5, 6, 7, 8, 9, 10, 11, 12, 13, 14, 15, 16] rfl rfl (by decide) (by decide) rfl (by decide) (fun H locs hP hD hS => ?_)
    obtain ⟨u20, hu20, h⟩ := q_bind h
    refine xFi (wc := (w6 cI cJ cZ qS u17.2 zL)) (w1 := (w6 cI cJ cZ qS u20.2 zL)) (wr := ([] : va_W)) (ws2 := (w6 cI cJ cZ qS u20.2 zL)) (va_runV (As := [.int u17.1]) (rest := []) ⟨hx, hb, hml, hown, htl⟩ (c_X6_back l D cI cJ cZ n qS H.size u17.2 zL u17.1 u20 hu20) (cwV 1 htl (gV W_466 W_467 W_468 W_5 W_469) rfl rfl rfl (by decide +kernel) ⟨Nat.le_of_ble_eq_true rfl, Nat.le_of_ble_eq_true rfl⟩) (xPV hP hD hK hN 0 rfl rfl) rfl rfl hl.1 rfl (lv_room (Nat.le_of_ble_eq_true rfl)) (dAt zX6_judge_0 11 rfl) ⟨Nat.zero_le _, Nat.zero_le _⟩) hS hA hP hD [0, 1, 2, 3, 4, 5, 6, 7, 8, 9, 10, 11, 12, 13, 14, 15, 16] [] [0, 1, 2, 3, 4, 5, 6, 7, 8, 9, 10, 11, 12, 13, 14, 15, 16] rfl rfl (by decide) (by decide) rfl (by decide) (fun H locs hP hD hS => ?_)
    refine lv_istore_n (lv' := [(2, .int u20.1), (0, .ref (qS 0)), (1, .int a1)]) hx hb (dAt zX6_judge_0 12 rfl) rfl hl (by decide) rfl (fun ls hl => ?_)
    refine lv_iload_n hx hb (dAt zX6_judge_0 13 rfl) rfl (lv_at hl 0 rfl) ?_
    refine lv_bipush (v := (-5)) hx hb (dAt zX6_judge_0 14 rfl) (by decide) ?_
    refine lv_icmp_eq (tgt := 41) hx hb (dAt zX6_judge_0 15 rfl) (by decide) (fun c_27 => ?_) (fun c_27 => ?_)
    · have h := q_pos c_27 h
      refine lv_iload_n hx hb (dAt zX6_judge_0 22 rfl) rfl (lv_at hl 0 rfl) ?_
      obtain rfl := q_some h
      exact xRi hx hb hr hlocks hQ hAe hP hD hK hS rfl (dAt zX6_judge_0 23 rfl)
    · have h := q_neg c_27 h
      refine lv_iload_n hx hb (dAt zX6_judge_0 16 rfl) rfl (lv_at hl 2 rfl) ?_
      refine lv_iconst (v := 1) hx hb (dAt zX6_judge_0 17 rfl) (by decide) ?_
      refine lv_icmp_le (tgt := 43) hx hb (dAt zX6_judge_0 18 rfl) (by decide) (fun c_32 => ?_) (fun c_32 => ?_)
      · have h := q_pos c_32 h
        refine lv_iload_n hx hb (dAt zX6_judge_0 24 rfl) rfl (lv_at hl 2 rfl) ?_
        refine lv_if_ne (tgt := 54) hx hb (dAt zX6_judge_0 25 rfl) (by decide) (fun c_44 => ?_) (fun c_44 => ?_)
        · have h := q_neg c_44 h
          refine lv_iload_n hx hb (dAt zX6_judge_0 29 rfl) rfl (lv_at hl 2 rfl) ?_
          refine lv_iconst (v := 1) hx hb (dAt zX6_judge_0 30 rfl) (by decide) ?_
          refine lv_icmp_ne (tgt := 66) hx hb (dAt zX6_judge_0 31 rfl) (by decide) (fun c_56 => ?_) (fun c_56 => ?_)
          · have h := q_neg c_56 h
            refine lv_aload_n hx hb (dAt zX6_judge_0 35 rfl) rfl (lv_at hl 1 rfl) ?_
            refine va_get (D := D) (ci := 6) (v := .int (u20.2 0 15)) (C := RX6) (T := TX6) (N := 32) hx hb htl inlX6 hown hK hP 0 rfl rfl 15 (by decide) (htl _ W_378) (fun _ h9 => h9) rfl (dAt zX6_judge_0 36 rfl) ?_
            obtain rfl := q_some h
            exact xRi hx hb hr hlocks hQ hAe hP hD hK hS rfl (dAt zX6_judge_0 37 rfl)
          · have h := q_pos c_56 h
            refine lv_aload_n hx hb (dAt zX6_judge_0 32 rfl) rfl (lv_at hl 1 rfl) ?_
            refine va_get (D := D) (ci := 6) (v := .int (u20.2 0 20)) (C := RX6) (T := TX6) (N := 32) hx hb htl inlX6 hown hK hP 0 rfl rfl 20 (by decide) (htl _ W_377) (fun _ h9 => h9) rfl (dAt zX6_judge_0 33 rfl) ?_
            refine lv_goto (tgt := 70) hx hb (dAt zX6_judge_0 34 rfl) (by decide) ?_
            obtain rfl := q_some h
            exact xRi hx hb hr hlocks hQ hAe hP hD hK hS rfl (dAt zX6_judge_0 37 rfl)
        · have h := q_pos c_44 h
          refine lv_aload_n hx hb (dAt zX6_judge_0 26 rfl) rfl (lv_at hl 1 rfl) ?_
          refine va_get (D := D) (ci := 6) (v := .int (u20.2 0 19)) (C := RX6) (T := TX6) (N := 32) hx hb htl inlX6 hown hK hP 0 rfl rfl 19 (by decide) (htl _ W_376) (fun _ h9 => h9) rfl (dAt zX6_judge_0 27 rfl) ?_
          refine lv_goto (tgt := 70) hx hb (dAt zX6_judge_0 28 rfl) (by decide) ?_
          obtain rfl := q_some h
          exact xRi hx hb hr hlocks hQ hAe hP hD hK hS rfl (dAt zX6_judge_0 37 rfl)
      · have h := q_neg c_32 h
        refine lv_iload_n hx hb (dAt zX6_judge_0 19 rfl) rfl (lv_at hl 0 rfl) ?_
        refine lv_bipush (v := (-3)) hx hb (dAt zX6_judge_0 20 rfl) (by decide) ?_
        refine lv_icmp_ne (tgt := 43) hx hb (dAt zX6_judge_0 21 rfl) (by decide) (fun c_38 => ?_) (fun c_38 => ?_)
        · have h := q_neg c_38 h
          refine lv_iload_n hx hb (dAt zX6_judge_0 24 rfl) rfl (lv_at hl 2 rfl) ?_
          refine lv_if_ne (tgt := 54) hx hb (dAt zX6_judge_0 25 rfl) (by decide) (fun c_44 => ?_) (fun c_44 => ?_)
          · have h := q_neg c_44 h
            refine lv_iload_n hx hb (dAt zX6_judge_0 29 rfl) rfl (lv_at hl 2 rfl) ?_
            refine lv_iconst (v := 1) hx hb (dAt zX6_judge_0 30 rfl) (by decide) ?_
            refine lv_icmp_ne (tgt := 66) hx hb (dAt zX6_judge_0 31 rfl) (by decide) (fun c_56 => ?_) (fun c_56 => ?_)
            · have h := q_neg c_56 h
              refine lv_aload_n hx hb (dAt zX6_judge_0 35 rfl) rfl (lv_at hl 1 rfl) ?_
              refine va_get (D := D) (ci := 6) (v := .int (u20.2 0 15)) (C := RX6) (T := TX6) (N := 32) hx hb htl inlX6 hown hK hP 0 rfl rfl 15 (by decide) (htl _ W_378) (fun _ h9 => h9) rfl (dAt zX6_judge_0 36 rfl) ?_
              obtain rfl := q_some h
              exact xRi hx hb hr hlocks hQ hAe hP hD hK hS rfl (dAt zX6_judge_0 37 rfl)
            · have h := q_pos c_56 h
              refine lv_aload_n hx hb (dAt zX6_judge_0 32 rfl) rfl (lv_at hl 1 rfl) ?_
              refine va_get (D := D) (ci := 6) (v := .int (u20.2 0 20)) (C := RX6) (T := TX6) (N := 32) hx hb htl inlX6 hown hK hP 0 rfl rfl 20 (by decide) (htl _ W_377) (fun _ h9 => h9) rfl (dAt zX6_judge_0 33 rfl) ?_
              refine lv_goto (tgt := 70) hx hb (dAt zX6_judge_0 34 rfl) (by decide) ?_
              obtain rfl := q_some h
              exact xRi hx hb hr hlocks hQ hAe hP hD hK hS rfl (dAt zX6_judge_0 37 rfl)
          · have h := q_pos c_44 h
            refine lv_aload_n hx hb (dAt zX6_judge_0 26 rfl) rfl (lv_at hl 1 rfl) ?_
            refine va_get (D := D) (ci := 6) (v := .int (u20.2 0 19)) (C := RX6) (T := TX6) (N := 32) hx hb htl inlX6 hown hK hP 0 rfl rfl 19 (by decide) (htl _ W_376) (fun _ h9 => h9) rfl (dAt zX6_judge_0 27 rfl) ?_
            refine lv_goto (tgt := 70) hx hb (dAt zX6_judge_0 28 rfl) (by decide) ?_
            obtain rfl := q_some h
            exact xRi hx hb hr hlocks hQ hAe hP hD hK hS rfl (dAt zX6_judge_0 37 rfl)
        · have h := q_pos c_38 h
          refine lv_iload_n hx hb (dAt zX6_judge_0 22 rfl) rfl (lv_at hl 0 rfl) ?_
          obtain rfl := q_some h
          exact xRi hx hb hr hlocks hQ hAe hP hD hK hS rfl (dAt zX6_judge_0 23 rfl)
  · have h := q_pos c_9 h
    refine lv_bipush (v := (-2)) hx hb (dAt zX6_judge_0 6 rfl) (by decide) ?_
    obtain rfl := q_some h
    exact xRi hx hb hr hlocks hQ hAe hP hD hK hS rfl (dAt zX6_judge_0 7 rfl)
def m_X6_ofOne (n : Nat) (zS : TI) (zL : TL) (a1 : Int32) (a2 : Int32) : Option Int32 := (if a2 = 0 then some (((zS 0 0) >>> (a1 &&& 31)) &&& (1 : Int32)) else (if a2 = 1 then some (((zS 0 1) >>> (a1 &&& 31)) &&& (1 : Int32)) else (if a2 = 2 then some (((zS 0 2) >>> (a1 &&& 31)) &&& (1 : Int32)) else (if a2 = 3 then ((m_X6_has n  (zS 0 0) a1).bind fun u64 => (if u64 = 0 then some (-6) else ((m_X6_isMissedIn n zS zL (zS 0 0) a1).bind fun u81 => (if u81 = 0 then some 0 else some 1)))) else ((m_X6_tiesBetween n zS zL ((1 : Int32) <<< (a1 &&& 31)) ((zS 0 0) &&& (((1 : Int32) <<< (a1 &&& 31)) ^^^ (-1 : Int32)))).bind fun u107 => some u107)))))
set_option maxHeartbeats 4000000 in
set_option maxRecDepth 100000 in
theorem c_X6_ofOne (l : Launch) (D : va_G) (cI cJ cZ : ClassId) (n : Nat) (qS : Nat → Nat) (sz : Nat) (zS : TI) (zL : TL) (a1 : Int32) (a2 : Int32) (out : Int32) (hm : m_X6_ofOne n zS zL a1 a2 = some out) : Met l yX6_ofOne (wsM yX6_ofOne cX6_ofOne 3 (some .int)) { frames := 3, cells := 0, slots := 0, locals := 69 } (xPre D (kT cI cJ cZ) (w6 cI cJ cZ qS zS zL) sz [.ref (qS 0), .int a1, .int a2]) (xQi D (kT cI cJ cZ) (w6 cI cJ cZ qS zS zL) (w6 cI cJ cZ qS zS zL) sz out) 0 0 (va_A (w6 cI cJ cZ qS zS zL) sz) := by
  refine Met.ofW (cc := cX6_ofOne) (maxL := 3) (ret := (some .int)) (by decide) rfl ?_
  intro p e s m args below meth c s₁ B hml hv
  obtain ⟨hv, hsz, hP, hK, hD0, hN⟩ := hv
  have hx := B.exec; have hb := B.bytes; have hr := B.returns
  have hts := atoms_spec (ws := (wsM yX6_ofOne cX6_ofOne 3 (some .int))) B.pre
  have hown : s.vm.findClass RX6 = some m.cls := findClass_of_methodNamed B.named
  have hlocks := B.notSynchronized
  subst hsz
  have hD := hD0.self (sz := s.heap.size)
  obtain ⟨A, hAe⟩ : ∃ A, A = va_A (w6 cI cJ cZ qS zS zL) s.heap.size := ⟨_, rfl⟩
  rw [← hAe] at hD
  have hA : ∀ q : Nat, s.heap.size ≤ q → A q := fun q h => by rw [hAe]; exact Or.inr h
  have htl : ∀ w ∈ wsL_law, w.before args s = true := fun w h => hts w (List.mem_cons_of_mem _ h)
  refine xHead (R' := { frames := 3, cells := 0, slots := 0, locals := 69 }) rfl (fun Q H hQ hH => ?_)
  have hP : va_P D vwCl (w6 cI cJ cZ qS zS zL) H := by rw [hH]; exact hP
  have hS : va_S A s.heap H [] := by rw [hH]; exact va_S.rf
  refine xStart hv (Nat.le_of_ble_eq_true rfl) (lv := [(0, .ref (qS 0)), (1, .int a1), (2, .int a2)]) rfl (fun ls hl => ?_)
  have h := hm
  unfold m_X6_ofOne at h
  refine lv_iload_n hx hb (dAt zX6_ofOne_0 0 rfl) rfl (lv_at hl 2 rfl) ?_
  by_cases c_1_0 : a2 = 0
  · have h := q_pos c_1_0 h
    refine lv_tableIn (off := 31) (tgt := 32) hx hb (dAt zX6_ofOne_0 1 rfl) (by rw [c_1_0]; decide) (by rw [c_1_0]; decide) (by rw [c_1_0]; rfl) (by decide) ?_
    refine lv_aload_n hx hb (dAt zX6_ofOne_0 2 rfl) rfl (lv_at hl 0 rfl) ?_
    refine va_get (D := D) (ci := 6) (v := .int (zS 0 0)) (C := RX6) (T := TX6) (N := 32) hx hb htl inlX6 hown hK hP 0 rfl rfl 0 (by decide) (htl _ W_102) (fun _ h9 => h9) rfl (dAt zX6_ofOne_0 3 rfl) ?_
    refine lv_iload_n hx hb (dAt zX6_ofOne_0 4 rfl) rfl (lv_at hl 1 rfl) ?_
    refine lv_ishr hx hb (dAt zX6_ofOne_0 5 rfl) ?_
    refine lv_iconst (v := 1) hx hb (dAt zX6_ofOne_0 6 rfl) (by decide) ?_
    refine lv_iand hx hb (dAt zX6_ofOne_0 7 rfl) ?_
    obtain rfl := q_some h
    exact xRi hx hb hr hlocks hQ hAe hP hD hK hS rfl (dAt zX6_ofOne_0 8 rfl)
  · have h := q_neg c_1_0 h
    by_cases c_1_1 : a2 = 1
    · have h := q_pos c_1_1 h
      refine lv_tableIn (off := 40) (tgt := 41) hx hb (dAt zX6_ofOne_0 1 rfl) (by rw [c_1_1]; decide) (by rw [c_1_1]; decide) (by rw [c_1_1]; rfl) (by decide) ?_
      refine lv_aload_n hx hb (dAt zX6_ofOne_0 9 rfl) rfl (lv_at hl 0 rfl) ?_
      refine va_get (D := D) (ci := 6) (v := .int (zS 0 1)) (C := RX6) (T := TX6) (N := 32) hx hb htl inlX6 hown hK hP 0 rfl rfl 1 (by decide) (htl _ W_160) (fun _ h9 => h9) rfl (dAt zX6_ofOne_0 10 rfl) ?_
      refine lv_iload_n hx hb (dAt zX6_ofOne_0 11 rfl) rfl (lv_at hl 1 rfl) ?_
      refine lv_ishr hx hb (dAt zX6_ofOne_0 12 rfl) ?_
      refine lv_iconst (v := 1) hx hb (dAt zX6_ofOne_0 13 rfl) (by decide) ?_
      refine lv_iand hx hb (dAt zX6_ofOne_0 14 rfl) ?_
      obtain rfl := q_some h
      exact xRi hx hb hr hlocks hQ hAe hP hD hK hS rfl (dAt zX6_ofOne_0 15 rfl)
    · have h := q_neg c_1_1 h
      by_cases c_1_2 : a2 = 2
      · have h := q_pos c_1_2 h
        refine lv_tableIn (off := 49) (tgt := 50) hx hb (dAt zX6_ofOne_0 1 rfl) (by rw [c_1_2]; decide) (by rw [c_1_2]; decide) (by rw [c_1_2]; rfl) (by decide) ?_
        refine lv_aload_n hx hb (dAt zX6_ofOne_0 16 rfl) rfl (lv_at hl 0 rfl) ?_
        refine va_get (D := D) (ci := 6) (v := .int (zS 0 2)) (C := RX6) (T := TX6) (N := 32) hx hb htl inlX6 hown hK hP 0 rfl rfl 2 (by decide) (htl _ W_161) (fun _ h9 => h9) rfl (dAt zX6_ofOne_0 17 rfl) ?_
        refine lv_iload_n hx hb (dAt zX6_ofOne_0 18 rfl) rfl (lv_at hl 1 rfl) ?_
        refine lv_ishr hx hb (dAt zX6_ofOne_0 19 rfl) ?_
        refine lv_iconst (v := 1) hx hb (dAt zX6_ofOne_0 20 rfl) (by decide) ?_
        refine lv_iand hx hb (dAt zX6_ofOne_0 21 rfl) ?_
        obtain rfl := q_some h
        exact xRi hx hb hr hlocks hQ hAe hP hD hK hS rfl (dAt zX6_ofOne_0 22 rfl)
      · have h := q_neg c_1_2 h
        by_cases c_1_3 : a2 = 3
        · have h := q_pos c_1_3 h
          refine lv_tableIn (off := 58) (tgt := 59) hx hb (dAt zX6_ofOne_0 1 rfl) (by rw [c_1_3]; decide) (by rw [c_1_3]; decide) (by rw [c_1_3]; rfl) (by decide) ?_
          refine lv_aload_n hx hb (dAt zX6_ofOne_0 23 rfl) rfl (lv_at hl 0 rfl) ?_
          refine va_get (D := D) (ci := 6) (v := .int (zS 0 0)) (C := RX6) (T := TX6) (N := 32) hx hb htl inlX6 hown hK hP 0 rfl rfl 0 (by decide) (htl _ W_102) (fun _ h9 => h9) rfl (dAt zX6_ofOne_0 24 rfl) ?_
          refine lv_iload_n hx hb (dAt zX6_ofOne_0 25 rfl) rfl (lv_at hl 1 rfl) ?_
          obtain ⟨u64, hu64, h⟩ := q_bind h
          refine xFz (wc := ([] : va_W)) (w1 := ([] : va_W)) (wr := (w6 cI cJ cZ qS zS zL)) (ws2 := (w6 cI cJ cZ qS zS zL)) (va_runS (As := [.int (zS 0 0), .int a1]) (rest := []) ⟨hx, hb, hml, hown, htl⟩ (c_X6_has l D cI cJ cZ n  H.size  (zS 0 0) a1 u64 hu64) (va_cwS 2 htl (gS W_407 W_408 W_5 W_409) rfl rfl rfl (by decide +kernel) ⟨Nat.le_of_ble_eq_true rfl, Nat.le_of_ble_eq_true rfl⟩) (xPS xP0 (xD0 A) hK hN) rfl rfl hl.1 rfl (lv_room (Nat.le_of_ble_eq_true rfl)) (dAt zX6_ofOne_0 26 rfl) ⟨Nat.zero_le _, Nat.zero_le _⟩) hS hA hP hD [] [0, 1, 2, 3, 4, 5, 6, 7, 8, 9, 10, 11, 12, 13, 14, 15, 16] [0, 1, 2, 3, 4, 5, 6, 7, 8, 9, 10, 11, 12, 13, 14, 15, 16] rfl rfl (by decide) (by decide) rfl (by decide) (fun H locs hz64 hP hD hS => ?_)
          refine lv_if_ne (tgt := 75) hx hb (dAt zX6_ofOne_0 27 rfl) (by decide) (fun c_67 => ?_) (fun c_67 => ?_)
          · have h := q_neg c_67 h
            refine lv_aload_n hx hb (dAt zX6_ofOne_0 30 rfl) rfl (lv_at hl 0 rfl) ?_
            refine lv_aload_n hx hb (dAt zX6_ofOne_0 31 rfl) rfl (lv_at hl 0 rfl) ?_
            refine va_get (D := D) (ci := 6) (v := .int (zS 0 0)) (C := RX6) (T := TX6) (N := 32) hx hb htl inlX6 hown hK hP 0 rfl rfl 0 (by decide) (htl _ W_102) (fun _ h9 => h9) rfl (dAt zX6_ofOne_0 32 rfl) ?_
            refine lv_iload_n hx hb (dAt zX6_ofOne_0 33 rfl) rfl (lv_at hl 1 rfl) ?_
            obtain ⟨u81, hu81, h⟩ := q_bind h
            refine xFz (wc := (w6 cI cJ cZ qS zS zL)) (w1 := (w6 cI cJ cZ qS zS zL)) (wr := ([] : va_W)) (ws2 := (w6 cI cJ cZ qS zS zL)) (va_runV (As := [.int (zS 0 0), .int a1]) (rest := []) ⟨hx, hb, hml, hown, htl⟩ (c_X6_isMissedIn l D cI cJ cZ n qS H.size zS zL (zS 0 0) a1 u81 hu81) (cwV 2 htl (gV W_439 W_440 W_441 W_5 W_442) rfl rfl rfl (by decide +kernel) ⟨Nat.le_of_ble_eq_true rfl, Nat.le_of_ble_eq_true rfl⟩) (xPV hP hD hK hN 0 rfl rfl) rfl rfl hl.1 rfl (lv_room (Nat.le_of_ble_eq_true rfl)) (dAt zX6_ofOne_0 34 rfl) ⟨Nat.zero_le _, Nat.zero_le _⟩) hS hA hP hD [0, 1, 2, 3, 4, 5, 6, 7, 8, 9, 10, 11, 12, 13, 14, 15, 16] [] [0, 1, 2, 3, 4, 5, 6, 7, 8, 9, 10, 11, 12, 13, 14, 15, 16] rfl rfl (by decide) (by decide) rfl (by decide) (fun H locs hz81 hP hD hS => ?_)
            refine lv_if_eq (tgt := 91) hx hb (dAt zX6_ofOne_0 35 rfl) (by decide) (fun c_84 => ?_) (fun c_84 => ?_)
            · have h := q_pos c_84 h
              refine lv_iconst (v := 0) hx hb (dAt zX6_ofOne_0 38 rfl) (by decide) ?_
              obtain rfl := q_some h
              exact xRi hx hb hr hlocks hQ hAe hP hD hK hS rfl (dAt zX6_ofOne_0 39 rfl)
            · have h := q_neg c_84 h
              refine lv_iconst (v := 1) hx hb (dAt zX6_ofOne_0 36 rfl) (by decide) ?_
              refine lv_goto (tgt := 92) hx hb (dAt zX6_ofOne_0 37 rfl) (by decide) ?_
              obtain rfl := q_some h
              exact xRi hx hb hr hlocks hQ hAe hP hD hK hS rfl (dAt zX6_ofOne_0 39 rfl)
          · have h := q_pos c_67 h
            refine lv_bipush (v := (-6)) hx hb (dAt zX6_ofOne_0 28 rfl) (by decide) ?_
            refine lv_goto (tgt := 92) hx hb (dAt zX6_ofOne_0 29 rfl) (by decide) ?_
            obtain rfl := q_some h
            exact xRi hx hb hr hlocks hQ hAe hP hD hK hS rfl (dAt zX6_ofOne_0 39 rfl)
        · have h := q_neg c_1_3 h
          refine lv_tableOut (tgt := 93) hx hb (dAt zX6_ofOne_0 1 rfl) (tabOut (fun k h1 h2 q => by
              have q0 : k = 0 ∨ k = 1 ∨ k = 2 ∨ k = 3 := by omega
              rcases q0 with q0 | q0 | q0 | q0
              · exact c_1_0 (Int32.toInt_inj.mp (by rw [q, q0]; rfl))
              · exact c_1_1 (Int32.toInt_inj.mp (by rw [q, q0]; rfl))
              · exact c_1_2 (Int32.toInt_inj.mp (by rw [q, q0]; rfl))
              · exact c_1_3 (Int32.toInt_inj.mp (by rw [q, q0]; rfl))
              )) (by decide) ?_
          refine lv_aload_n hx hb (dAt zX6_ofOne_0 40 rfl) rfl (lv_at hl 0 rfl) ?_
          refine lv_iconst (v := 1) hx hb (dAt zX6_ofOne_0 41 rfl) (by decide) ?_
          refine lv_iload_n hx hb (dAt zX6_ofOne_0 42 rfl) rfl (lv_at hl 1 rfl) ?_
          refine lv_ishl hx hb (dAt zX6_ofOne_0 43 rfl) ?_
          refine lv_aload_n hx hb (dAt zX6_ofOne_0 44 rfl) rfl (lv_at hl 0 rfl) ?_
          refine va_get (D := D) (ci := 6) (v := .int (zS 0 0)) (C := RX6) (T := TX6) (N := 32) hx hb htl inlX6 hown hK hP 0 rfl rfl 0 (by decide) (htl _ W_102) (fun _ h9 => h9) rfl (dAt zX6_ofOne_0 45 rfl) ?_
          refine lv_iconst (v := 1) hx hb (dAt zX6_ofOne_0 46 rfl) (by decide) ?_
          refine lv_iload_n hx hb (dAt zX6_ofOne_0 47 rfl) rfl (lv_at hl 1 rfl) ?_
          refine lv_ishl hx hb (dAt zX6_ofOne_0 48 rfl) ?_
          refine lv_iconst (v := (-1)) hx hb (dAt zX6_ofOne_0 49 rfl) (by decide) ?_
          refine lv_ixor hx hb (dAt zX6_ofOne_0 50 rfl) ?_
          refine lv_iand hx hb (dAt zX6_ofOne_0 51 rfl) ?_
          obtain ⟨u107, hu107, h⟩ := q_bind h
          refine xFi (wc := (w6 cI cJ cZ qS zS zL)) (w1 := (w6 cI cJ cZ qS zS zL)) (wr := ([] : va_W)) (ws2 := (w6 cI cJ cZ qS zS zL)) (va_runV (As := [.int ((1 : Int32) <<< (a1 &&& 31)), .int ((zS 0 0) &&& (((1 : Int32) <<< (a1 &&& 31)) ^^^ (-1 : Int32)))]) (rest := []) ⟨hx, hb, hml, hown, htl⟩ (c_X6_tiesBetween l D cI cJ cZ n qS H.size zS zL ((1 : Int32) <<< (a1 &&& 31)) ((zS 0 0) &&& (((1 : Int32) <<< (a1 &&& 31)) ^^^ (-1 : Int32))) u107 hu107) (cwV 2 htl (gV W_455 W_456 W_457 W_5 W_458) rfl rfl rfl (by decide +kernel) ⟨Nat.le_of_ble_eq_true rfl, Nat.le_of_ble_eq_true rfl⟩) (xPV hP hD hK hN 0 rfl rfl) rfl rfl hl.1 rfl (lv_room (Nat.le_of_ble_eq_true rfl)) (dAt zX6_ofOne_0 52 rfl) ⟨Nat.zero_le _, Nat.zero_le _⟩) hS hA hP hD [0, 1, 2, 3, 4, 5, 6, 7, 8, 9, 10, 11, 12, 13, 14, 15, 16] [] [0, 1, 2, 3, 4, 5, 6, 7, 8, 9, 10, 11, 12, 13, 14, 15, 16] rfl rfl (by decide) (by decide) rfl (by decide) (fun H locs hP hD hS => ?_)
          obtain rfl := q_some h
          exact xRi hx hb hr hlocks hQ hAe hP hD hK hS rfl (dAt zX6_ofOne_0 53 rfl)
def m_X6_behind (n : Nat) (zS : TI) (zL : TL) (a1 : Int32) (a2 : Int32) : Option (Int32 × TI) := ((m_X6_isOne n  a1).bind fun u1 => (if u1 = 0 then some ((-1), zS) else ((m_X6_in n  (Int32.toInt64 a2) 0 4).bind fun u15 => (if u15 = 0 then some ((-2), zS) else ((m_X6_refusal n zS zL).bind fun u25 => (if u25.1 = (-6) then ((m_X6_ofOne n u25.2 zL a1 a2).bind fun u43 => ((m_X6_back n u25.2 zL u43).bind fun u46 => some (u46.1, u46.2))) else ((m_X6_back n u25.2 zL u25.1).bind fun u46 => some (u46.1, u46.2))))))))
set_option maxHeartbeats 4000000 in
set_option maxRecDepth 100000 in
theorem c_X6_behind (l : Launch) (D : va_G) (cI cJ cZ : ClassId) (n : Nat) (qS : Nat → Nat) (sz : Nat) (zS : TI) (zL : TL) (a1 : Int32) (a2 : Int32) (out : Int32 × TI) (hm : m_X6_behind n zS zL a1 a2 = some out) : Met l yX6_behind (wsM yX6_behind cX6_behind 4 (some .int)) { frames := 9, cells := 0, slots := 0, locals := 199 } (xPre D (kT cI cJ cZ) (w6 cI cJ cZ qS zS zL) sz [.ref (qS 0), .int a1, .int a2]) (xQi D (kT cI cJ cZ) (w6 cI cJ cZ qS zS zL) (w6 cI cJ cZ qS out.2 zL) sz out.1) 0 0 (va_A (w6 cI cJ cZ qS zS zL) sz) := by
  refine Met.ofW (cc := cX6_behind) (maxL := 4) (ret := (some .int)) (by decide) rfl ?_
  intro p e s m args below meth c s₁ B hml hv
  obtain ⟨hv, hsz, hP, hK, hD0, hN⟩ := hv
  have hx := B.exec; have hb := B.bytes; have hr := B.returns
  have hts := atoms_spec (ws := (wsM yX6_behind cX6_behind 4 (some .int))) B.pre
  have hown : s.vm.findClass RX6 = some m.cls := findClass_of_methodNamed B.named
  have hlocks := B.notSynchronized
  subst hsz
  have hD := hD0.self (sz := s.heap.size)
  obtain ⟨A, hAe⟩ : ∃ A, A = va_A (w6 cI cJ cZ qS zS zL) s.heap.size := ⟨_, rfl⟩
  rw [← hAe] at hD
  have hA : ∀ q : Nat, s.heap.size ≤ q → A q := fun q h => by rw [hAe]; exact Or.inr h
  have htl : ∀ w ∈ wsL_law, w.before args s = true := fun w h => hts w (List.mem_cons_of_mem _ h)
  refine xHead (R' := { frames := 9, cells := 0, slots := 0, locals := 199 }) rfl (fun Q H hQ hH => ?_)
  have hP : va_P D vwCl (w6 cI cJ cZ qS zS zL) H := by rw [hH]; exact hP
  have hS : va_S A s.heap H [] := by rw [hH]; exact va_S.rf
  refine xStart hv (Nat.le_of_ble_eq_true rfl) (lv := [(0, .ref (qS 0)), (1, .int a1), (2, .int a2)]) rfl (fun ls hl => ?_)
  have h := hm
  unfold m_X6_behind at h
  refine lv_iload_n hx hb (dAt zX6_behind_0 0 rfl) rfl (lv_at hl 1 rfl) ?_
  obtain ⟨u1, hu1, h⟩ := q_bind h
  refine xFz (wc := ([] : va_W)) (w1 := ([] : va_W)) (wr := (w6 cI cJ cZ qS zS zL)) (ws2 := (w6 cI cJ cZ qS zS zL)) (va_runS (As := [.int a1]) (rest := []) ⟨hx, hb, hml, hown, htl⟩ (c_X6_isOne l D cI cJ cZ n  H.size  a1 u1 hu1) (va_cwS 1 htl (gS W_127 W_128 W_5 W_129) rfl rfl rfl (by decide +kernel) ⟨Nat.le_of_ble_eq_true rfl, Nat.le_of_ble_eq_true rfl⟩) (xPS xP0 (xD0 A) hK hN) rfl rfl hl.1 rfl (lv_room (Nat.le_of_ble_eq_true rfl)) (dAt zX6_behind_0 1 rfl) ⟨Nat.zero_le _, Nat.zero_le _⟩) hS hA hP hD [] [0, 1, 2, 3, 4, 5, 6, 7, 8, 9, 10, 11, 12, 13, 14, 15, 16] [0, 1, 2, 3, 4, 5, 6, 7, 8, 9, 10, 11, 12, 13, 14, 15, 16] rfl rfl (by decide) (by decide) rfl (by decide) (fun H locs hz1 hP hD hS => ?_)
  refine lv_if_ne (tgt := 9) hx hb (dAt zX6_behind_0 2 rfl) (by decide) (fun c_4 => ?_) (fun c_4 => ?_)
  · have h := q_neg c_4 h
    refine lv_iload_n hx hb (dAt zX6_behind_0 5 rfl) rfl (lv_at hl 2 rfl) ?_
    refine lv_i2l (v := (Int32.toInt64 a2)) hx hb (dAt zX6_behind_0 6 rfl) rfl ?_
    refine lv_lconst (v := 0) hx hb (dAt zX6_behind_0 7 rfl) (by decide) ?_
    refine lv_ldc2 (v := 4) hx hb hown (htl _ W_485) (dAt zX6_behind_0 8 rfl) ?_
    obtain ⟨u15, hu15, h⟩ := q_bind h
    refine xFz (wc := ([] : va_W)) (w1 := ([] : va_W)) (wr := (w6 cI cJ cZ qS zS zL)) (ws2 := (w6 cI cJ cZ qS zS zL)) (va_runS (As := [.long (Int32.toInt64 a2), .long 0, .long 4]) (rest := []) ⟨hx, hb, hml, hown, htl⟩ (c_X6_in l D cI cJ cZ n  H.size  (Int32.toInt64 a2) 0 4 u15 hu15) (va_cwS 3 htl (gS W_130 W_131 W_5 W_132) rfl rfl rfl (by decide +kernel) ⟨Nat.le_of_ble_eq_true rfl, Nat.le_of_ble_eq_true rfl⟩) (xPS xP0 (xD0 A) hK hN) rfl rfl hl.1 rfl (lv_room (Nat.le_of_ble_eq_true rfl)) (dAt zX6_behind_0 9 rfl) ⟨Nat.zero_le _, Nat.zero_le _⟩) hS hA hP hD [] [0, 1, 2, 3, 4, 5, 6, 7, 8, 9, 10, 11, 12, 13, 14, 15, 16] [0, 1, 2, 3, 4, 5, 6, 7, 8, 9, 10, 11, 12, 13, 14, 15, 16] rfl rfl (by decide) (by decide) rfl (by decide) (fun H locs hz15 hP hD hS => ?_)
    refine lv_if_ne (tgt := 24) hx hb (dAt zX6_behind_0 10 rfl) (by decide) (fun c_18 => ?_) (fun c_18 => ?_)
    · have h := q_neg c_18 h
      refine lv_aload_n hx hb (dAt zX6_behind_0 13 rfl) rfl (lv_at hl 0 rfl) ?_
      obtain ⟨u25, hu25, h⟩ := q_bind h
      refine xFi (wc := (w6 cI cJ cZ qS zS zL)) (w1 := (w6 cI cJ cZ qS u25.2 zL)) (wr := ([] : va_W)) (ws2 := (w6 cI cJ cZ qS u25.2 zL)) (va_runV (As := []) (rest := []) ⟨hx, hb, hml, hown, htl⟩ (c_X6_refusal l D cI cJ cZ n qS H.size zS zL  u25 hu25) (cwV 0 htl (gV W_379 W_380 W_381 W_5 W_382) rfl rfl rfl (by decide +kernel) ⟨Nat.le_of_ble_eq_true rfl, Nat.le_of_ble_eq_true rfl⟩) (xPV hP hD hK hN 0 rfl rfl) rfl rfl hl.1 rfl (lv_room (Nat.le_of_ble_eq_true rfl)) (dAt zX6_behind_0 14 rfl) ⟨Nat.zero_le _, Nat.zero_le _⟩) hS hA hP hD [0, 1, 2, 3, 4, 5, 6, 7, 8, 9, 10, 11, 12, 13, 14, 15, 16] [] [0, 1, 2, 3, 4, 5, 6, 7, 8, 9, 10, 11, 12, 13, 14, 15, 16] rfl rfl (by decide) (by decide) rfl (by decide) (fun H locs hP hD hS => ?_)
      refine lv_istore_n (lv' := [(3, .int u25.1), (0, .ref (qS 0)), (1, .int a1), (2, .int a2)]) hx hb (dAt zX6_behind_0 15 rfl) rfl hl (by decide) rfl (fun ls hl => ?_)
      refine lv_aload_n hx hb (dAt zX6_behind_0 16 rfl) rfl (lv_at hl 1 rfl) ?_
      refine lv_iload_n hx hb (dAt zX6_behind_0 17 rfl) rfl (lv_at hl 0 rfl) ?_
      refine lv_bipush (v := (-6)) hx hb (dAt zX6_behind_0 18 rfl) (by decide) ?_
      refine lv_icmp_eq (tgt := 40) hx hb (dAt zX6_behind_0 19 rfl) (by decide) (fun c_33 => ?_) (fun c_33 => ?_)
      · have h := q_pos c_33 h
        refine lv_aload_n hx hb (dAt zX6_behind_0 22 rfl) rfl (lv_at hl 1 rfl) ?_
        refine lv_iload_n hx hb (dAt zX6_behind_0 23 rfl) rfl (lv_at hl 2 rfl) ?_
        refine lv_iload_n hx hb (dAt zX6_behind_0 24 rfl) rfl (lv_at hl 3 rfl) ?_
        obtain ⟨u43, hu43, h⟩ := q_bind h
        refine xFi (wc := (w6 cI cJ cZ qS u25.2 zL)) (w1 := (w6 cI cJ cZ qS u25.2 zL)) (wr := ([] : va_W)) (ws2 := (w6 cI cJ cZ qS u25.2 zL)) (va_runV (As := [.int a1, .int a2]) (rest := [.ref (qS 0)]) ⟨hx, hb, hml, hown, htl⟩ (c_X6_ofOne l D cI cJ cZ n qS H.size u25.2 zL a1 a2 u43 hu43) (cwV 2 htl (gV W_486 W_487 W_488 W_5 W_489) rfl rfl rfl (by decide +kernel) ⟨Nat.le_of_ble_eq_true rfl, Nat.le_of_ble_eq_true rfl⟩) (xPV hP hD hK hN 0 rfl rfl) rfl rfl hl.1 rfl (lv_room (Nat.le_of_ble_eq_true rfl)) (dAt zX6_behind_0 25 rfl) ⟨Nat.zero_le _, Nat.zero_le _⟩) hS hA hP hD [0, 1, 2, 3, 4, 5, 6, 7, 8, 9, 10, 11, 12, 13, 14, 15, 16] [] [0, 1, 2, 3, 4, 5, 6, 7, 8, 9, 10, 11, 12, 13, 14, 15, 16] rfl rfl (by decide) (by decide) rfl (by decide) (fun H locs hP hD hS => ?_)
        obtain ⟨u46, hu46, h⟩ := q_bind h
        refine xFi (wc := (w6 cI cJ cZ qS u25.2 zL)) (w1 := (w6 cI cJ cZ qS u46.2 zL)) (wr := ([] : va_W)) (ws2 := (w6 cI cJ cZ qS u46.2 zL)) (va_runV (As := [.int u43]) (rest := []) ⟨hx, hb, hml, hown, htl⟩ (c_X6_back l D cI cJ cZ n qS H.size u25.2 zL u43 u46 hu46) (cwV 1 htl (gV W_466 W_467 W_468 W_5 W_469) rfl rfl rfl (by decide +kernel) ⟨Nat.le_of_ble_eq_true rfl, Nat.le_of_ble_eq_true rfl⟩) (xPV hP hD hK hN 0 rfl rfl) rfl rfl hl.1 rfl (lv_room (Nat.le_of_ble_eq_true rfl)) (dAt zX6_behind_0 26 rfl) ⟨Nat.zero_le _, Nat.zero_le _⟩) hS hA hP hD [0, 1, 2, 3, 4, 5, 6, 7, 8, 9, 10, 11, 12, 13, 14, 15, 16] [] [0, 1, 2, 3, 4, 5, 6, 7, 8, 9, 10, 11, 12, 13, 14, 15, 16] rfl rfl (by decide) (by decide) rfl (by decide) (fun H locs hP hD hS => ?_)
        obtain rfl := q_some h
        exact xRi hx hb hr hlocks hQ hAe hP hD hK hS rfl (dAt zX6_behind_0 27 rfl)
      · have h := q_neg c_33 h
        refine lv_iload_n hx hb (dAt zX6_behind_0 20 rfl) rfl (lv_at hl 0 rfl) ?_
        refine lv_goto (tgt := 46) hx hb (dAt zX6_behind_0 21 rfl) (by decide) ?_
        obtain ⟨u46, hu46, h⟩ := q_bind h
        refine xFi (wc := (w6 cI cJ cZ qS u25.2 zL)) (w1 := (w6 cI cJ cZ qS u46.2 zL)) (wr := ([] : va_W)) (ws2 := (w6 cI cJ cZ qS u46.2 zL)) (va_runV (As := [.int u25.1]) (rest := []) ⟨hx, hb, hml, hown, htl⟩ (c_X6_back l D cI cJ cZ n qS H.size u25.2 zL u25.1 u46 hu46) (cwV 1 htl (gV W_466 W_467 W_468 W_5 W_469) rfl rfl rfl (by decide +kernel) ⟨Nat.le_of_ble_eq_true rfl, Nat.le_of_ble_eq_true rfl⟩) (xPV hP hD hK hN 0 rfl rfl) rfl rfl hl.1 rfl (lv_room (Nat.le_of_ble_eq_true rfl)) (dAt zX6_behind_0 26 rfl) ⟨Nat.zero_le _, Nat.zero_le _⟩) hS hA hP hD [0, 1, 2, 3, 4, 5, 6, 7, 8, 9, 10, 11, 12, 13, 14, 15, 16] [] [0, 1, 2, 3, 4, 5, 6, 7, 8, 9, 10, 11, 12, 13, 14, 15, 16] rfl rfl (by decide) (by decide) rfl (by decide) (fun H locs hP hD hS => ?_)
        obtain rfl := q_some h
        exact xRi hx hb hr hlocks hQ hAe hP hD hK hS rfl (dAt zX6_behind_0 27 rfl)
    · have h := q_pos c_18 h
      refine lv_bipush (v := (-2)) hx hb (dAt zX6_behind_0 11 rfl) (by decide) ?_
      obtain rfl := q_some h
      exact xRi hx hb hr hlocks hQ hAe hP hD hK hS rfl (dAt zX6_behind_0 12 rfl)
  · have h := q_pos c_4 h
    refine lv_iconst (v := (-1)) hx hb (dAt zX6_behind_0 3 rfl) (by decide) ?_
    obtain rfl := q_some h
    exact xRi hx hb hr hlocks hQ hAe hP hD hK hS rfl (dAt zX6_behind_0 4 rfl)
def m_X6_city (n : Nat) (zS : TI) (zL : TL) (a1 : Int32) : Option (Int32 × TI) := ((m_X6_in n  (Int32.toInt64 a1) 0 2).bind fun u6 => (if u6 = 0 then some ((-2), zS) else ((m_X6_refusal n zS zL).bind fun u16 => (if a1 = 0 then (if u16.1 = (-6) then ((m_X6_back n u16.2 zL (u16.2 0 0)).bind fun u64 => some (u64.1, u64.2)) else ((m_X6_back n u16.2 zL u16.1).bind fun u64 => some (u64.1, u64.2))) else (if a1 = 1 then ((m_X6_missedIn n u16.2 zL (u16.2 0 0)).bind fun u41 => (if u16.1 = (-6) then ((m_X6_back n u16.2 zL u41).bind fun u64 => some (u64.1, u64.2)) else ((m_X6_back n u16.2 zL u16.1).bind fun u64 => some (u64.1, u64.2)))) else (if u16.1 = (-6) then ((m_X6_back n u16.2 zL (u16.2 0 16)).bind fun u64 => some (u64.1, u64.2)) else ((m_X6_back n u16.2 zL u16.1).bind fun u64 => some (u64.1, u64.2))))))))
set_option maxHeartbeats 4000000 in
set_option maxRecDepth 100000 in
theorem c_X6_city (l : Launch) (D : va_G) (cI cJ cZ : ClassId) (n : Nat) (qS : Nat → Nat) (sz : Nat) (zS : TI) (zL : TL) (a1 : Int32) (out : Int32 × TI) (hm : m_X6_city n zS zL a1 = some out) : Met l yX6_city (wsM yX6_city cX6_city 4 (some .int)) { frames := 9, cells := 0, slots := 0, locals := 199 } (xPre D (kT cI cJ cZ) (w6 cI cJ cZ qS zS zL) sz [.ref (qS 0), .int a1]) (xQi D (kT cI cJ cZ) (w6 cI cJ cZ qS zS zL) (w6 cI cJ cZ qS out.2 zL) sz out.1) 0 0 (va_A (w6 cI cJ cZ qS zS zL) sz) := by
  refine Met.ofW (cc := cX6_city) (maxL := 4) (ret := (some .int)) (by decide) rfl ?_
  intro p e s m args below meth c s₁ B hml hv
  obtain ⟨hv, hsz, hP, hK, hD0, hN⟩ := hv
  have hx := B.exec; have hb := B.bytes; have hr := B.returns
  have hts := atoms_spec (ws := (wsM yX6_city cX6_city 4 (some .int))) B.pre
  have hown : s.vm.findClass RX6 = some m.cls := findClass_of_methodNamed B.named
  have hlocks := B.notSynchronized
  subst hsz
  have hD := hD0.self (sz := s.heap.size)
  obtain ⟨A, hAe⟩ : ∃ A, A = va_A (w6 cI cJ cZ qS zS zL) s.heap.size := ⟨_, rfl⟩
  rw [← hAe] at hD
  have hA : ∀ q : Nat, s.heap.size ≤ q → A q := fun q h => by rw [hAe]; exact Or.inr h
  have htl : ∀ w ∈ wsL_law, w.before args s = true := fun w h => hts w (List.mem_cons_of_mem _ h)
  refine xHead (R' := { frames := 9, cells := 0, slots := 0, locals := 199 }) rfl (fun Q H hQ hH => ?_)
  have hP : va_P D vwCl (w6 cI cJ cZ qS zS zL) H := by rw [hH]; exact hP
  have hS : va_S A s.heap H [] := by rw [hH]; exact va_S.rf
  refine xStart hv (Nat.le_of_ble_eq_true rfl) (lv := [(0, .ref (qS 0)), (1, .int a1)]) rfl (fun ls hl => ?_)
  have h := hm
  unfold m_X6_city at h
  refine lv_iload_n hx hb (dAt zX6_city_0 0 rfl) rfl (lv_at hl 1 rfl) ?_
  refine lv_i2l (v := (Int32.toInt64 a1)) hx hb (dAt zX6_city_0 1 rfl) rfl ?_
  refine lv_lconst (v := 0) hx hb (dAt zX6_city_0 2 rfl) (by decide) ?_
  refine lv_ldc2 (v := 2) hx hb hown (htl _ W_375) (dAt zX6_city_0 3 rfl) ?_
  obtain ⟨u6, hu6, h⟩ := q_bind h
  refine xFz (wc := ([] : va_W)) (w1 := ([] : va_W)) (wr := (w6 cI cJ cZ qS zS zL)) (ws2 := (w6 cI cJ cZ qS zS zL)) (va_runS (As := [.long (Int32.toInt64 a1), .long 0, .long 2]) (rest := []) ⟨hx, hb, hml, hown, htl⟩ (c_X6_in l D cI cJ cZ n  H.size  (Int32.toInt64 a1) 0 2 u6 hu6) (va_cwS 3 htl (gS W_130 W_131 W_5 W_132) rfl rfl rfl (by decide +kernel) ⟨Nat.le_of_ble_eq_true rfl, Nat.le_of_ble_eq_true rfl⟩) (xPS xP0 (xD0 A) hK hN) rfl rfl hl.1 rfl (lv_room (Nat.le_of_ble_eq_true rfl)) (dAt zX6_city_0 4 rfl) ⟨Nat.zero_le _, Nat.zero_le _⟩) hS hA hP hD [] [0, 1, 2, 3, 4, 5, 6, 7, 8, 9, 10, 11, 12, 13, 14, 15, 16] [0, 1, 2, 3, 4, 5, 6, 7, 8, 9, 10, 11, 12, 13, 14, 15, 16] rfl rfl (by decide) (by decide) rfl (by decide) (fun H locs hz6 hP hD hS => ?_)
  refine lv_if_ne (tgt := 15) hx hb (dAt zX6_city_0 5 rfl) (by decide) (fun c_9 => ?_) (fun c_9 => ?_)
  · have h := q_neg c_9 h
    refine lv_aload_n hx hb (dAt zX6_city_0 8 rfl) rfl (lv_at hl 0 rfl) ?_
    obtain ⟨u16, hu16, h⟩ := q_bind h
    refine xFi (wc := (w6 cI cJ cZ qS zS zL)) (w1 := (w6 cI cJ cZ qS u16.2 zL)) (wr := ([] : va_W)) (ws2 := (w6 cI cJ cZ qS u16.2 zL)) (va_runV (As := []) (rest := []) ⟨hx, hb, hml, hown, htl⟩ (c_X6_refusal l D cI cJ cZ n qS H.size zS zL  u16 hu16) (cwV 0 htl (gV W_379 W_380 W_381 W_5 W_382) rfl rfl rfl (by decide +kernel) ⟨Nat.le_of_ble_eq_true rfl, Nat.le_of_ble_eq_true rfl⟩) (xPV hP hD hK hN 0 rfl rfl) rfl rfl hl.1 rfl (lv_room (Nat.le_of_ble_eq_true rfl)) (dAt zX6_city_0 9 rfl) ⟨Nat.zero_le _, Nat.zero_le _⟩) hS hA hP hD [0, 1, 2, 3, 4, 5, 6, 7, 8, 9, 10, 11, 12, 13, 14, 15, 16] [] [0, 1, 2, 3, 4, 5, 6, 7, 8, 9, 10, 11, 12, 13, 14, 15, 16] rfl rfl (by decide) (by decide) rfl (by decide) (fun H locs hP hD hS => ?_)
    refine lv_istore_n (lv' := [(2, .int u16.1), (0, .ref (qS 0)), (1, .int a1)]) hx hb (dAt zX6_city_0 10 rfl) rfl hl (by decide) rfl (fun ls hl => ?_)
    refine lv_iload_n hx hb (dAt zX6_city_0 11 rfl) rfl (lv_at hl 2 rfl) ?_
    refine lv_if_ne (tgt := 31) hx hb (dAt zX6_city_0 12 rfl) (by decide) (fun c_21 => ?_) (fun c_21 => ?_)
    · have h := q_neg c_21 h
      refine lv_iload_n hx hb (dAt zX6_city_0 16 rfl) rfl (lv_at hl 2 rfl) ?_
      refine lv_iconst (v := 1) hx hb (dAt zX6_city_0 17 rfl) (by decide) ?_
      refine lv_icmp_ne (tgt := 47) hx hb (dAt zX6_city_0 18 rfl) (by decide) (fun c_33 => ?_) (fun c_33 => ?_)
      · have h := q_neg c_33 h
        refine lv_aload_n hx hb (dAt zX6_city_0 24 rfl) rfl (lv_at hl 1 rfl) ?_
        refine va_get (D := D) (ci := 6) (v := .int (u16.2 0 16)) (C := RX6) (T := TX6) (N := 32) hx hb htl inlX6 hown hK hP 0 rfl rfl 16 (by decide) (htl _ W_392) (fun _ h9 => h9) rfl (dAt zX6_city_0 25 rfl) ?_
        refine lv_istore_n (lv' := [(3, .int (u16.2 0 16)), (2, .int u16.1), (0, .ref (qS 0)), (1, .int a1)]) hx hb (dAt zX6_city_0 26 rfl) rfl hl (by decide) rfl (fun ls hl => ?_)
        refine lv_aload_n hx hb (dAt zX6_city_0 27 rfl) rfl (lv_at hl 2 rfl) ?_
        refine lv_iload_n hx hb (dAt zX6_city_0 28 rfl) rfl (lv_at hl 1 rfl) ?_
        refine lv_bipush (v := (-6)) hx hb (dAt zX6_city_0 29 rfl) (by decide) ?_
        refine lv_icmp_eq (tgt := 63) hx hb (dAt zX6_city_0 30 rfl) (by decide) (fun c_56 => ?_) (fun c_56 => ?_)
        · have h := q_pos c_56 h
          refine lv_iload_n hx hb (dAt zX6_city_0 33 rfl) rfl (lv_at hl 0 rfl) ?_
          obtain ⟨u64, hu64, h⟩ := q_bind h
          refine xFi (wc := (w6 cI cJ cZ qS u16.2 zL)) (w1 := (w6 cI cJ cZ qS u64.2 zL)) (wr := ([] : va_W)) (ws2 := (w6 cI cJ cZ qS u64.2 zL)) (va_runV (As := [.int (u16.2 0 16)]) (rest := []) ⟨hx, hb, hml, hown, htl⟩ (c_X6_back l D cI cJ cZ n qS H.size u16.2 zL (u16.2 0 16) u64 hu64) (cwV 1 htl (gV W_466 W_467 W_468 W_5 W_469) rfl rfl rfl (by decide +kernel) ⟨Nat.le_of_ble_eq_true rfl, Nat.le_of_ble_eq_true rfl⟩) (xPV hP hD hK hN 0 rfl rfl) rfl rfl hl.1 rfl (lv_room (Nat.le_of_ble_eq_true rfl)) (dAt zX6_city_0 34 rfl) ⟨Nat.zero_le _, Nat.zero_le _⟩) hS hA hP hD [0, 1, 2, 3, 4, 5, 6, 7, 8, 9, 10, 11, 12, 13, 14, 15, 16] [] [0, 1, 2, 3, 4, 5, 6, 7, 8, 9, 10, 11, 12, 13, 14, 15, 16] rfl rfl (by decide) (by decide) rfl (by decide) (fun H locs hP hD hS => ?_)
          obtain rfl := q_some h
          exact xRi hx hb hr hlocks hQ hAe hP hD hK hS rfl (dAt zX6_city_0 35 rfl)
        · have h := q_neg c_56 h
          refine lv_iload_n hx hb (dAt zX6_city_0 31 rfl) rfl (lv_at hl 1 rfl) ?_
          refine lv_goto (tgt := 64) hx hb (dAt zX6_city_0 32 rfl) (by decide) ?_
          obtain ⟨u64, hu64, h⟩ := q_bind h
          refine xFi (wc := (w6 cI cJ cZ qS u16.2 zL)) (w1 := (w6 cI cJ cZ qS u64.2 zL)) (wr := ([] : va_W)) (ws2 := (w6 cI cJ cZ qS u64.2 zL)) (va_runV (As := [.int u16.1]) (rest := []) ⟨hx, hb, hml, hown, htl⟩ (c_X6_back l D cI cJ cZ n qS H.size u16.2 zL u16.1 u64 hu64) (cwV 1 htl (gV W_466 W_467 W_468 W_5 W_469) rfl rfl rfl (by decide +kernel) ⟨Nat.le_of_ble_eq_true rfl, Nat.le_of_ble_eq_true rfl⟩) (xPV hP hD hK hN 0 rfl rfl) rfl rfl hl.1 rfl (lv_room (Nat.le_of_ble_eq_true rfl)) (dAt zX6_city_0 34 rfl) ⟨Nat.zero_le _, Nat.zero_le _⟩) hS hA hP hD [0, 1, 2, 3, 4, 5, 6, 7, 8, 9, 10, 11, 12, 13, 14, 15, 16] [] [0, 1, 2, 3, 4, 5, 6, 7, 8, 9, 10, 11, 12, 13, 14, 15, 16] rfl rfl (by decide) (by decide) rfl (by decide) (fun H locs hP hD hS => ?_)
          obtain rfl := q_some h
          exact xRi hx hb hr hlocks hQ hAe hP hD hK hS rfl (dAt zX6_city_0 35 rfl)
      · have h := q_pos c_33 h
        refine lv_aload_n hx hb (dAt zX6_city_0 19 rfl) rfl (lv_at hl 1 rfl) ?_
        refine lv_aload_n hx hb (dAt zX6_city_0 20 rfl) rfl (lv_at hl 1 rfl) ?_
        refine va_get (D := D) (ci := 6) (v := .int (u16.2 0 0)) (C := RX6) (T := TX6) (N := 32) hx hb htl inlX6 hown hK hP 0 rfl rfl 0 (by decide) (htl _ W_102) (fun _ h9 => h9) rfl (dAt zX6_city_0 21 rfl) ?_
        obtain ⟨u41, hu41, h⟩ := q_bind h
        refine xFi (wc := (w6 cI cJ cZ qS u16.2 zL)) (w1 := (w6 cI cJ cZ qS u16.2 zL)) (wr := ([] : va_W)) (ws2 := (w6 cI cJ cZ qS u16.2 zL)) (va_runV (As := [.int (u16.2 0 0)]) (rest := []) ⟨hx, hb, hml, hown, htl⟩ (c_X6_missedIn l D cI cJ cZ n qS H.size u16.2 zL (u16.2 0 0) u41 hu41) (cwV 1 htl (gV W_435 W_436 W_437 W_5 W_438) rfl rfl rfl (by decide +kernel) ⟨Nat.le_of_ble_eq_true rfl, Nat.le_of_ble_eq_true rfl⟩) (xPV hP hD hK hN 0 rfl rfl) rfl rfl hl.1 rfl (lv_room (Nat.le_of_ble_eq_true rfl)) (dAt zX6_city_0 22 rfl) ⟨Nat.zero_le _, Nat.zero_le _⟩) hS hA hP hD [0, 1, 2, 3, 4, 5, 6, 7, 8, 9, 10, 11, 12, 13, 14, 15, 16] [] [0, 1, 2, 3, 4, 5, 6, 7, 8, 9, 10, 11, 12, 13, 14, 15, 16] rfl rfl (by decide) (by decide) rfl (by decide) (fun H locs hP hD hS => ?_)
        refine lv_goto (tgt := 51) hx hb (dAt zX6_city_0 23 rfl) (by decide) ?_
        refine lv_istore_n (lv' := [(3, .int u41), (2, .int u16.1), (0, .ref (qS 0)), (1, .int a1)]) hx hb (dAt zX6_city_0 26 rfl) rfl hl (by decide) rfl (fun ls hl => ?_)
        refine lv_aload_n hx hb (dAt zX6_city_0 27 rfl) rfl (lv_at hl 2 rfl) ?_
        refine lv_iload_n hx hb (dAt zX6_city_0 28 rfl) rfl (lv_at hl 1 rfl) ?_
        refine lv_bipush (v := (-6)) hx hb (dAt zX6_city_0 29 rfl) (by decide) ?_
        refine lv_icmp_eq (tgt := 63) hx hb (dAt zX6_city_0 30 rfl) (by decide) (fun c_56 => ?_) (fun c_56 => ?_)
        · have h := q_pos c_56 h
          refine lv_iload_n hx hb (dAt zX6_city_0 33 rfl) rfl (lv_at hl 0 rfl) ?_
          obtain ⟨u64, hu64, h⟩ := q_bind h
          refine xFi (wc := (w6 cI cJ cZ qS u16.2 zL)) (w1 := (w6 cI cJ cZ qS u64.2 zL)) (wr := ([] : va_W)) (ws2 := (w6 cI cJ cZ qS u64.2 zL)) (va_runV (As := [.int u41]) (rest := []) ⟨hx, hb, hml, hown, htl⟩ (c_X6_back l D cI cJ cZ n qS H.size u16.2 zL u41 u64 hu64) (cwV 1 htl (gV W_466 W_467 W_468 W_5 W_469) rfl rfl rfl (by decide +kernel) ⟨Nat.le_of_ble_eq_true rfl, Nat.le_of_ble_eq_true rfl⟩) (xPV hP hD hK hN 0 rfl rfl) rfl rfl hl.1 rfl (lv_room (Nat.le_of_ble_eq_true rfl)) (dAt zX6_city_0 34 rfl) ⟨Nat.zero_le _, Nat.zero_le _⟩) hS hA hP hD [0, 1, 2, 3, 4, 5, 6, 7, 8, 9, 10, 11, 12, 13, 14, 15, 16] [] [0, 1, 2, 3, 4, 5, 6, 7, 8, 9, 10, 11, 12, 13, 14, 15, 16] rfl rfl (by decide) (by decide) rfl (by decide) (fun H locs hP hD hS => ?_)
          obtain rfl := q_some h
          exact xRi hx hb hr hlocks hQ hAe hP hD hK hS rfl (dAt zX6_city_0 35 rfl)
        · have h := q_neg c_56 h
          refine lv_iload_n hx hb (dAt zX6_city_0 31 rfl) rfl (lv_at hl 1 rfl) ?_
          refine lv_goto (tgt := 64) hx hb (dAt zX6_city_0 32 rfl) (by decide) ?_
          obtain ⟨u64, hu64, h⟩ := q_bind h
          refine xFi (wc := (w6 cI cJ cZ qS u16.2 zL)) (w1 := (w6 cI cJ cZ qS u64.2 zL)) (wr := ([] : va_W)) (ws2 := (w6 cI cJ cZ qS u64.2 zL)) (va_runV (As := [.int u16.1]) (rest := []) ⟨hx, hb, hml, hown, htl⟩ (c_X6_back l D cI cJ cZ n qS H.size u16.2 zL u16.1 u64 hu64) (cwV 1 htl (gV W_466 W_467 W_468 W_5 W_469) rfl rfl rfl (by decide +kernel) ⟨Nat.le_of_ble_eq_true rfl, Nat.le_of_ble_eq_true rfl⟩) (xPV hP hD hK hN 0 rfl rfl) rfl rfl hl.1 rfl (lv_room (Nat.le_of_ble_eq_true rfl)) (dAt zX6_city_0 34 rfl) ⟨Nat.zero_le _, Nat.zero_le _⟩) hS hA hP hD [0, 1, 2, 3, 4, 5, 6, 7, 8, 9, 10, 11, 12, 13, 14, 15, 16] [] [0, 1, 2, 3, 4, 5, 6, 7, 8, 9, 10, 11, 12, 13, 14, 15, 16] rfl rfl (by decide) (by decide) rfl (by decide) (fun H locs hP hD hS => ?_)
          obtain rfl := q_some h
          exact xRi hx hb hr hlocks hQ hAe hP hD hK hS rfl (dAt zX6_city_0 35 rfl)
    · have h := q_pos c_21 h
      refine lv_aload_n hx hb (dAt zX6_city_0 13 rfl) rfl (lv_at hl 1 rfl) ?_
      refine va_get (D := D) (ci := 6) (v := .int (u16.2 0 0)) (C := RX6) (T := TX6) (N := 32) hx hb htl inlX6 hown hK hP 0 rfl rfl 0 (by decide) (htl _ W_102) (fun _ h9 => h9) rfl (dAt zX6_city_0 14 rfl) ?_
      refine lv_goto (tgt := 51) hx hb (dAt zX6_city_0 15 rfl) (by decide) ?_
      refine lv_istore_n (lv' := [(3, .int (u16.2 0 0)), (2, .int u16.1), (0, .ref (qS 0)), (1, .int a1)]) hx hb (dAt zX6_city_0 26 rfl) rfl hl (by decide) rfl (fun ls hl => ?_)
      refine lv_aload_n hx hb (dAt zX6_city_0 27 rfl) rfl (lv_at hl 2 rfl) ?_
      refine lv_iload_n hx hb (dAt zX6_city_0 28 rfl) rfl (lv_at hl 1 rfl) ?_
      refine lv_bipush (v := (-6)) hx hb (dAt zX6_city_0 29 rfl) (by decide) ?_
      refine lv_icmp_eq (tgt := 63) hx hb (dAt zX6_city_0 30 rfl) (by decide) (fun c_56 => ?_) (fun c_56 => ?_)
      · have h := q_pos c_56 h
        refine lv_iload_n hx hb (dAt zX6_city_0 33 rfl) rfl (lv_at hl 0 rfl) ?_
        obtain ⟨u64, hu64, h⟩ := q_bind h
        refine xFi (wc := (w6 cI cJ cZ qS u16.2 zL)) (w1 := (w6 cI cJ cZ qS u64.2 zL)) (wr := ([] : va_W)) (ws2 := (w6 cI cJ cZ qS u64.2 zL)) (va_runV (As := [.int (u16.2 0 0)]) (rest := []) ⟨hx, hb, hml, hown, htl⟩ (c_X6_back l D cI cJ cZ n qS H.size u16.2 zL (u16.2 0 0) u64 hu64) (cwV 1 htl (gV W_466 W_467 W_468 W_5 W_469) rfl rfl rfl (by decide +kernel) ⟨Nat.le_of_ble_eq_true rfl, Nat.le_of_ble_eq_true rfl⟩) (xPV hP hD hK hN 0 rfl rfl) rfl rfl hl.1 rfl (lv_room (Nat.le_of_ble_eq_true rfl)) (dAt zX6_city_0 34 rfl) ⟨Nat.zero_le _, Nat.zero_le _⟩) hS hA hP hD [0, 1, 2, 3, 4, 5, 6, 7, 8, 9, 10, 11, 12, 13, 14, 15, 16] [] [0, 1, 2, 3, 4, 5, 6, 7, 8, 9, 10, 11, 12, 13, 14, 15, 16] rfl rfl (by decide) (by decide) rfl (by decide) (fun H locs hP hD hS => ?_)
        obtain rfl := q_some h
        exact xRi hx hb hr hlocks hQ hAe hP hD hK hS rfl (dAt zX6_city_0 35 rfl)
      · have h := q_neg c_56 h
        refine lv_iload_n hx hb (dAt zX6_city_0 31 rfl) rfl (lv_at hl 1 rfl) ?_
        refine lv_goto (tgt := 64) hx hb (dAt zX6_city_0 32 rfl) (by decide) ?_
        obtain ⟨u64, hu64, h⟩ := q_bind h
        refine xFi (wc := (w6 cI cJ cZ qS u16.2 zL)) (w1 := (w6 cI cJ cZ qS u64.2 zL)) (wr := ([] : va_W)) (ws2 := (w6 cI cJ cZ qS u64.2 zL)) (va_runV (As := [.int u16.1]) (rest := []) ⟨hx, hb, hml, hown, htl⟩ (c_X6_back l D cI cJ cZ n qS H.size u16.2 zL u16.1 u64 hu64) (cwV 1 htl (gV W_466 W_467 W_468 W_5 W_469) rfl rfl rfl (by decide +kernel) ⟨Nat.le_of_ble_eq_true rfl, Nat.le_of_ble_eq_true rfl⟩) (xPV hP hD hK hN 0 rfl rfl) rfl rfl hl.1 rfl (lv_room (Nat.le_of_ble_eq_true rfl)) (dAt zX6_city_0 34 rfl) ⟨Nat.zero_le _, Nat.zero_le _⟩) hS hA hP hD [0, 1, 2, 3, 4, 5, 6, 7, 8, 9, 10, 11, 12, 13, 14, 15, 16] [] [0, 1, 2, 3, 4, 5, 6, 7, 8, 9, 10, 11, 12, 13, 14, 15, 16] rfl rfl (by decide) (by decide) rfl (by decide) (fun H locs hP hD hS => ?_)
        obtain rfl := q_some h
        exact xRi hx hb hr hlocks hQ hAe hP hD hK hS rfl (dAt zX6_city_0 35 rfl)
  · have h := q_pos c_9 h
    refine lv_bipush (v := (-2)) hx hb (dAt zX6_city_0 6 rfl) (by decide) ?_
    obtain rfl := q_some h
    exact xRi hx hb hr hlocks hQ hAe hP hD hK hS rfl (dAt zX6_city_0 7 rfl)
def m_X6_taken (n : Nat) (zS : TI) (zL : TL) (a1 : Int32) : Option (Int32 × TI) := ((m_X6_in n  (Int32.toInt64 a1) 0 1).bind fun u4 => (if u4 = 0 then some ((-2), zS) else ((m_X6_refusal n zS zL).bind fun u15 => ((m_X6_back n u15.2 zL u15.1).bind fun u18 => (if u18.1 = (-6) then (if a1 = 0 then some ((u18.2 0 21), u18.2) else some ((u18.2 0 22), u18.2)) else some (u18.1, u18.2))))))
set_option maxHeartbeats 4000000 in
set_option maxRecDepth 100000 in
theorem c_X6_taken (l : Launch) (D : va_G) (cI cJ cZ : ClassId) (n : Nat) (qS : Nat → Nat) (sz : Nat) (zS : TI) (zL : TL) (a1 : Int32) (out : Int32 × TI) (hm : m_X6_taken n zS zL a1 = some out) : Met l yX6_taken (wsM yX6_taken cX6_taken 3 (some .int)) { frames := 9, cells := 0, slots := 0, locals := 199 } (xPre D (kT cI cJ cZ) (w6 cI cJ cZ qS zS zL) sz [.ref (qS 0), .int a1]) (xQi D (kT cI cJ cZ) (w6 cI cJ cZ qS zS zL) (w6 cI cJ cZ qS out.2 zL) sz out.1) 0 0 (va_A (w6 cI cJ cZ qS zS zL) sz) := by
  refine Met.ofW (cc := cX6_taken) (maxL := 3) (ret := (some .int)) (by decide) rfl ?_
  intro p e s m args below meth c s₁ B hml hv
  obtain ⟨hv, hsz, hP, hK, hD0, hN⟩ := hv
  have hx := B.exec; have hb := B.bytes; have hr := B.returns
  have hts := atoms_spec (ws := (wsM yX6_taken cX6_taken 3 (some .int))) B.pre
  have hown : s.vm.findClass RX6 = some m.cls := findClass_of_methodNamed B.named
  have hlocks := B.notSynchronized
  subst hsz
  have hD := hD0.self (sz := s.heap.size)
  obtain ⟨A, hAe⟩ : ∃ A, A = va_A (w6 cI cJ cZ qS zS zL) s.heap.size := ⟨_, rfl⟩
  rw [← hAe] at hD
  have hA : ∀ q : Nat, s.heap.size ≤ q → A q := fun q h => by rw [hAe]; exact Or.inr h
  have htl : ∀ w ∈ wsL_law, w.before args s = true := fun w h => hts w (List.mem_cons_of_mem _ h)
  refine xHead (R' := { frames := 9, cells := 0, slots := 0, locals := 199 }) rfl (fun Q H hQ hH => ?_)
  have hP : va_P D vwCl (w6 cI cJ cZ qS zS zL) H := by rw [hH]; exact hP
  have hS : va_S A s.heap H [] := by rw [hH]; exact va_S.rf
  refine xStart hv (Nat.le_of_ble_eq_true rfl) (lv := [(0, .ref (qS 0)), (1, .int a1)]) rfl (fun ls hl => ?_)
  have h := hm
  unfold m_X6_taken at h
  refine lv_iload_n hx hb (dAt zX6_taken_0 0 rfl) rfl (lv_at hl 1 rfl) ?_
  refine lv_i2l (v := (Int32.toInt64 a1)) hx hb (dAt zX6_taken_0 1 rfl) rfl ?_
  refine lv_lconst (v := 0) hx hb (dAt zX6_taken_0 2 rfl) (by decide) ?_
  refine lv_lconst (v := 1) hx hb (dAt zX6_taken_0 3 rfl) (by decide) ?_
  obtain ⟨u4, hu4, h⟩ := q_bind h
  refine xFz (wc := ([] : va_W)) (w1 := ([] : va_W)) (wr := (w6 cI cJ cZ qS zS zL)) (ws2 := (w6 cI cJ cZ qS zS zL)) (va_runS (As := [.long (Int32.toInt64 a1), .long 0, .long 1]) (rest := []) ⟨hx, hb, hml, hown, htl⟩ (c_X6_in l D cI cJ cZ n  H.size  (Int32.toInt64 a1) 0 1 u4 hu4) (va_cwS 3 htl (gS W_130 W_131 W_5 W_132) rfl rfl rfl (by decide +kernel) ⟨Nat.le_of_ble_eq_true rfl, Nat.le_of_ble_eq_true rfl⟩) (xPS xP0 (xD0 A) hK hN) rfl rfl hl.1 rfl (lv_room (Nat.le_of_ble_eq_true rfl)) (dAt zX6_taken_0 4 rfl) ⟨Nat.zero_le _, Nat.zero_le _⟩) hS hA hP hD [] [0, 1, 2, 3, 4, 5, 6, 7, 8, 9, 10, 11, 12, 13, 14, 15, 16] [0, 1, 2, 3, 4, 5, 6, 7, 8, 9, 10, 11, 12, 13, 14, 15, 16] rfl rfl (by decide) (by decide) rfl (by decide) (fun H locs hz4 hP hD hS => ?_)
  refine lv_if_ne (tgt := 13) hx hb (dAt zX6_taken_0 5 rfl) (by decide) (fun c_7 => ?_) (fun c_7 => ?_)
  · have h := q_neg c_7 h
    refine lv_aload_n hx hb (dAt zX6_taken_0 8 rfl) rfl (lv_at hl 0 rfl) ?_
    refine lv_aload_n hx hb (dAt zX6_taken_0 9 rfl) rfl (lv_at hl 0 rfl) ?_
    obtain ⟨u15, hu15, h⟩ := q_bind h
    refine xFi (wc := (w6 cI cJ cZ qS zS zL)) (w1 := (w6 cI cJ cZ qS u15.2 zL)) (wr := ([] : va_W)) (ws2 := (w6 cI cJ cZ qS u15.2 zL)) (va_runV (As := []) (rest := [.ref (qS 0)]) ⟨hx, hb, hml, hown, htl⟩ (c_X6_refusal l D cI cJ cZ n qS H.size zS zL  u15 hu15) (cwV 0 htl (gV W_379 W_380 W_381 W_5 W_382) rfl rfl rfl (by decide +kernel) ⟨Nat.le_of_ble_eq_true rfl, Nat.le_of_ble_eq_true rfl⟩) (xPV hP hD hK hN 0 rfl rfl) rfl rfl hl.1 rfl (lv_room (Nat.le_of_ble_eq_true rfl)) (dAt zX6_taken_0 10 rfl) ⟨Nat.zero_le _, Nat.zero_le _⟩) hS hA hP hD [0, 1, 2, 3, 4, 5, 6, 7, 8, 9, 10, 11, 12, 13, 14, 15, 16] [] [0, 1, 2, 3, 4, 5, 6, 7, 8, 9, 10, 11, 12, 13, 14, 15, 16] rfl rfl (by decide) (by decide) rfl (by decide) (fun H locs hP hD hS => ?_)
    obtain ⟨u18, hu18, h⟩ := q_bind h
    refine xFi (wc := (w6 cI cJ cZ qS u15.2 zL)) (w1 := (w6 cI cJ cZ qS u18.2 zL)) (wr := ([] : va_W)) (ws2 := (w6 cI cJ cZ qS u18.2 zL)) (va_runV (As := [.int u15.1]) (rest := []) ⟨hx, hb, hml, hown, htl⟩ (c_X6_back l D cI cJ cZ n qS H.size u15.2 zL u15.1 u18 hu18) (cwV 1 htl (gV W_466 W_467 W_468 W_5 W_469) rfl rfl rfl (by decide +kernel) ⟨Nat.le_of_ble_eq_true rfl, Nat.le_of_ble_eq_true rfl⟩) (xPV hP hD hK hN 0 rfl rfl) rfl rfl hl.1 rfl (lv_room (Nat.le_of_ble_eq_true rfl)) (dAt zX6_taken_0 11 rfl) ⟨Nat.zero_le _, Nat.zero_le _⟩) hS hA hP hD [0, 1, 2, 3, 4, 5, 6, 7, 8, 9, 10, 11, 12, 13, 14, 15, 16] [] [0, 1, 2, 3, 4, 5, 6, 7, 8, 9, 10, 11, 12, 13, 14, 15, 16] rfl rfl (by decide) (by decide) rfl (by decide) (fun H locs hP hD hS => ?_)
    refine lv_istore_n (lv' := [(2, .int u18.1), (0, .ref (qS 0)), (1, .int a1)]) hx hb (dAt zX6_taken_0 12 rfl) rfl hl (by decide) rfl (fun ls hl => ?_)
    refine lv_iload_n hx hb (dAt zX6_taken_0 13 rfl) rfl (lv_at hl 0 rfl) ?_
    refine lv_bipush (v := (-6)) hx hb (dAt zX6_taken_0 14 rfl) (by decide) ?_
    refine lv_icmp_eq (tgt := 32) hx hb (dAt zX6_taken_0 15 rfl) (by decide) (fun c_25 => ?_) (fun c_25 => ?_)
    · have h := q_pos c_25 h
      refine lv_iload_n hx hb (dAt zX6_taken_0 18 rfl) rfl (lv_at hl 2 rfl) ?_
      refine lv_if_ne (tgt := 43) hx hb (dAt zX6_taken_0 19 rfl) (by decide) (fun c_33 => ?_) (fun c_33 => ?_)
      · have h := q_neg c_33 h
        refine lv_aload_n hx hb (dAt zX6_taken_0 23 rfl) rfl (lv_at hl 1 rfl) ?_
        refine va_get (D := D) (ci := 6) (v := .int (u18.2 0 22)) (C := RX6) (T := TX6) (N := 32) hx hb htl inlX6 hown hK hP 0 rfl rfl 22 (by decide) (htl _ W_394) (fun _ h9 => h9) rfl (dAt zX6_taken_0 24 rfl) ?_
        obtain rfl := q_some h
        exact xRi hx hb hr hlocks hQ hAe hP hD hK hS rfl (dAt zX6_taken_0 25 rfl)
      · have h := q_pos c_33 h
        refine lv_aload_n hx hb (dAt zX6_taken_0 20 rfl) rfl (lv_at hl 1 rfl) ?_
        refine va_get (D := D) (ci := 6) (v := .int (u18.2 0 21)) (C := RX6) (T := TX6) (N := 32) hx hb htl inlX6 hown hK hP 0 rfl rfl 21 (by decide) (htl _ W_393) (fun _ h9 => h9) rfl (dAt zX6_taken_0 21 rfl) ?_
        refine lv_goto (tgt := 47) hx hb (dAt zX6_taken_0 22 rfl) (by decide) ?_
        obtain rfl := q_some h
        exact xRi hx hb hr hlocks hQ hAe hP hD hK hS rfl (dAt zX6_taken_0 25 rfl)
    · have h := q_neg c_25 h
      refine lv_iload_n hx hb (dAt zX6_taken_0 16 rfl) rfl (lv_at hl 0 rfl) ?_
      refine lv_goto (tgt := 47) hx hb (dAt zX6_taken_0 17 rfl) (by decide) ?_
      obtain rfl := q_some h
      exact xRi hx hb hr hlocks hQ hAe hP hD hK hS rfl (dAt zX6_taken_0 25 rfl)
  · have h := q_pos c_7 h
    refine lv_bipush (v := (-2)) hx hb (dAt zX6_taken_0 6 rfl) (by decide) ?_
    obtain rfl := q_some h
    exact xRi hx hb hr hlocks hQ hAe hP hD hK hS rfl (dAt zX6_taken_0 7 rfl)
def m_X6_done (n : Nat) (zS : TI) (zL : TL) : Option (Int32 × TI) := ((m_X6_refusal n zS zL).bind fun u1 => (if u1.1 = (-6) then some ((u1.2 0 14), (sf u1.2 10 0)) else ((m_X6_back n u1.2 zL u1.1).bind fun u13 => some (u13.1, u13.2))))
set_option maxHeartbeats 4000000 in
set_option maxRecDepth 100000 in
theorem c_X6_done (l : Launch) (D : va_G) (cI cJ cZ : ClassId) (n : Nat) (qS : Nat → Nat) (sz : Nat) (zS : TI) (zL : TL) (out : Int32 × TI) (hm : m_X6_done n zS zL = some out) : Met l yX6_done (wsM yX6_done cX6_done 2 (some .int)) { frames := 9, cells := 0, slots := 0, locals := 199 } (xPre D (kT cI cJ cZ) (w6 cI cJ cZ qS zS zL) sz [.ref (qS 0)]) (xQi D (kT cI cJ cZ) (w6 cI cJ cZ qS zS zL) (w6 cI cJ cZ qS out.2 zL) sz out.1) 0 0 (va_A (w6 cI cJ cZ qS zS zL) sz) := by
  refine Met.ofW (cc := cX6_done) (maxL := 2) (ret := (some .int)) (by decide) rfl ?_
  intro p e s m args below meth c s₁ B hml hv
  obtain ⟨hv, hsz, hP, hK, hD0, hN⟩ := hv
  have hx := B.exec; have hb := B.bytes; have hr := B.returns
  have hts := atoms_spec (ws := (wsM yX6_done cX6_done 2 (some .int))) B.pre
  have hown : s.vm.findClass RX6 = some m.cls := findClass_of_methodNamed B.named
  have hlocks := B.notSynchronized
  subst hsz
  have hD := hD0.self (sz := s.heap.size)
  obtain ⟨A, hAe⟩ : ∃ A, A = va_A (w6 cI cJ cZ qS zS zL) s.heap.size := ⟨_, rfl⟩
  rw [← hAe] at hD
  have hA : ∀ q : Nat, s.heap.size ≤ q → A q := fun q h => by rw [hAe]; exact Or.inr h
  have htl : ∀ w ∈ wsL_law, w.before args s = true := fun w h => hts w (List.mem_cons_of_mem _ h)
  refine xHead (R' := { frames := 9, cells := 0, slots := 0, locals := 199 }) rfl (fun Q H hQ hH => ?_)
  have hP : va_P D vwCl (w6 cI cJ cZ qS zS zL) H := by rw [hH]; exact hP
  have hS : va_S A s.heap H [] := by rw [hH]; exact va_S.rf
  refine xStart hv (Nat.le_of_ble_eq_true rfl) (lv := [(0, .ref (qS 0))]) rfl (fun ls hl => ?_)
  have h := hm
  unfold m_X6_done at h
  refine lv_aload_n hx hb (dAt zX6_done_0 0 rfl) rfl (lv_at hl 0 rfl) ?_
  obtain ⟨u1, hu1, h⟩ := q_bind h
  refine xFi (wc := (w6 cI cJ cZ qS zS zL)) (w1 := (w6 cI cJ cZ qS u1.2 zL)) (wr := ([] : va_W)) (ws2 := (w6 cI cJ cZ qS u1.2 zL)) (va_runV (As := []) (rest := []) ⟨hx, hb, hml, hown, htl⟩ (c_X6_refusal l D cI cJ cZ n qS H.size zS zL  u1 hu1) (cwV 0 htl (gV W_379 W_380 W_381 W_5 W_382) rfl rfl rfl (by decide +kernel) ⟨Nat.le_of_ble_eq_true rfl, Nat.le_of_ble_eq_true rfl⟩) (xPV hP hD hK hN 0 rfl rfl) rfl rfl hl.1 rfl (lv_room (Nat.le_of_ble_eq_true rfl)) (dAt zX6_done_0 1 rfl) ⟨Nat.zero_le _, Nat.zero_le _⟩) hS hA hP hD [0, 1, 2, 3, 4, 5, 6, 7, 8, 9, 10, 11, 12, 13, 14, 15, 16] [] [0, 1, 2, 3, 4, 5, 6, 7, 8, 9, 10, 11, 12, 13, 14, 15, 16] rfl rfl (by decide) (by decide) rfl (by decide) (fun H locs hP hD hS => ?_)
  refine lv_istore_n (lv' := [(1, .int u1.1), (0, .ref (qS 0))]) hx hb (dAt zX6_done_0 2 rfl) rfl hl (by decide) rfl (fun ls hl => ?_)
  refine lv_iload_n hx hb (dAt zX6_done_0 3 rfl) rfl (lv_at hl 0 rfl) ?_
  refine lv_bipush (v := (-6)) hx hb (dAt zX6_done_0 4 rfl) (by decide) ?_
  refine lv_icmp_eq (tgt := 17) hx hb (dAt zX6_done_0 5 rfl) (by decide) (fun c_8 => ?_) (fun c_8 => ?_)
  · have h := q_pos c_8 h
    refine lv_aload_n hx hb (dAt zX6_done_0 10 rfl) rfl (lv_at hl 1 rfl) ?_
    refine lv_iconst (v := 0) hx hb (dAt zX6_done_0 11 rfl) (by decide) ?_
    refine va_put (D := D) (ci := 6) (v := .int 0) (ty := .int) (C := RX6) (T := TX6) (N := 32) hx hb htl inlX6 tyX6 tyX6_ok nmX6 hown hK hP hD hS 0 rfl rfl 10 (by decide) (htl _ W_202) (fun _ h9 => h9) rfl (by decide +kernel) rfl rfl (Nat.le_of_ble_eq_true rfl) (dAt zX6_done_0 12 rfl) (fun H locs hP hD hS => ?_)
    have hP : va_P D vwCl (w6x cI cJ cZ qS (u1.2 0 0) (u1.2 0 1) (u1.2 0 2) (u1.2 0 8) 0 (u1.2 0 14) (u1.2 0 15) (u1.2 0 16) (u1.2 0 17) (u1.2 0 19) (u1.2 0 20) (u1.2 0 21) (u1.2 0 22) (u1.2 0 23) (u1.2 0 30) (u1.2 0 31) (u1.2 4) (u1.2 5) (u1.2 6) (u1.2 7) (u1.2 8) (u1.2 10) (u1.2 12) (u1.2 13) (u1.2 14) (u1.2 19) (u1.2 25) (u1.2 26) (zL 27) (u1.2 28) (u1.2 29) (u1.2 30)) H := hP
    have hD : va_D A (w6x cI cJ cZ qS (u1.2 0 0) (u1.2 0 1) (u1.2 0 2) (u1.2 0 8) 0 (u1.2 0 14) (u1.2 0 15) (u1.2 0 16) (u1.2 0 17) (u1.2 0 19) (u1.2 0 20) (u1.2 0 21) (u1.2 0 22) (u1.2 0 23) (u1.2 0 30) (u1.2 0 31) (u1.2 4) (u1.2 5) (u1.2 6) (u1.2 7) (u1.2 8) (u1.2 10) (u1.2 12) (u1.2 13) (u1.2 14) (u1.2 19) (u1.2 25) (u1.2 26) (zL 27) (u1.2 28) (u1.2 29) (u1.2 30)) := hD
    refine lv_aload_n hx hb (dAt zX6_done_0 13 rfl) rfl (lv_at hl 1 rfl) ?_
    refine va_get (D := D) (ci := 6) (v := .int (u1.2 0 14)) (C := RX6) (T := TX6) (N := 32) hx hb htl inlX6 hown hK hP 0 rfl rfl 14 (by decide) (htl _ W_238) (fun _ h9 => h9) rfl (dAt zX6_done_0 14 rfl) ?_
    have hP : va_P D vwCl (w6 cI cJ cZ qS (sf u1.2 10 0) zL) H := hP
    have hD : va_D A (w6 cI cJ cZ qS (sf u1.2 10 0) zL) := hD
    obtain rfl := q_some h
    exact xRi hx hb hr hlocks hQ hAe hP hD hK hS rfl (dAt zX6_done_0 15 rfl)
  · have h := q_neg c_8 h
    refine lv_aload_n hx hb (dAt zX6_done_0 6 rfl) rfl (lv_at hl 1 rfl) ?_
    refine lv_iload_n hx hb (dAt zX6_done_0 7 rfl) rfl (lv_at hl 0 rfl) ?_
    obtain ⟨u13, hu13, h⟩ := q_bind h
    refine xFi (wc := (w6 cI cJ cZ qS u1.2 zL)) (w1 := (w6 cI cJ cZ qS u13.2 zL)) (wr := ([] : va_W)) (ws2 := (w6 cI cJ cZ qS u13.2 zL)) (va_runV (As := [.int u1.1]) (rest := []) ⟨hx, hb, hml, hown, htl⟩ (c_X6_back l D cI cJ cZ n qS H.size u1.2 zL u1.1 u13 hu13) (cwV 1 htl (gV W_466 W_467 W_468 W_5 W_469) rfl rfl rfl (by decide +kernel) ⟨Nat.le_of_ble_eq_true rfl, Nat.le_of_ble_eq_true rfl⟩) (xPV hP hD hK hN 0 rfl rfl) rfl rfl hl.1 rfl (lv_room (Nat.le_of_ble_eq_true rfl)) (dAt zX6_done_0 8 rfl) ⟨Nat.zero_le _, Nat.zero_le _⟩) hS hA hP hD [0, 1, 2, 3, 4, 5, 6, 7, 8, 9, 10, 11, 12, 13, 14, 15, 16] [] [0, 1, 2, 3, 4, 5, 6, 7, 8, 9, 10, 11, 12, 13, 14, 15, 16] rfl rfl (by decide) (by decide) rfl (by decide) (fun H locs hP hD hS => ?_)
    obtain rfl := q_some h
    exact xRi hx hb hr hlocks hQ hAe hP hD hK hS rfl (dAt zX6_done_0 9 rfl)
def b_X6_staysBy_24 (n : Nat) (zL : TL) (a1 : Int32) (s_24 : Int32 × Int32 × TI) (k_24 : Int32 × Int32 × TI → Option (Int32 × TI)) : Option (Int32 × TI) := (if s_24.2.1 = 0 then some (s_24.1, s_24.2.2) else ((m_X6_missedIn n (sf s_24.2.2 23 ((s_24.2.2 0 23) + (1 : Int32))) zL (s_24.1 &&& (s_24.2.1 ^^^ (-1 : Int32)))).bind fun u47 => (k_24 ((s_24.1 &&& (s_24.2.1 ^^^ (-1 : Int32))), (((s_24.1 &&& (s_24.2.1 ^^^ (-1 : Int32))) &&& (u47 ^^^ (-1 : Int32))) &&& (a1 ^^^ (-1 : Int32))), (sf s_24.2.2 23 ((s_24.2.2 0 23) + (1 : Int32)))))))
def m_X6_staysBy (n : Nat) (zS : TI) (zL : TL) (a1 : Int32) : Option (Int32 × TI) := ((m_X6_missedIn n (sf zS 23 0) zL (zS 0 0)).bind fun u13 => (loopF (b_X6_staysBy_24 n zL a1 ) n ((zS 0 0), (((zS 0 0) &&& (u13 ^^^ (-1 : Int32))) &&& (a1 ^^^ (-1 : Int32))), (sf zS 23 0))))
set_option maxHeartbeats 4000000 in
set_option maxRecDepth 100000 in
theorem c_X6_staysBy (l : Launch) (D : va_G) (cI cJ cZ : ClassId) (n : Nat) (qS : Nat → Nat) (sz : Nat) (zS : TI) (zL : TL) (a1 : Int32) (out : Int32 × TI) (hm : m_X6_staysBy n zS zL a1 = some out) : Met l yX6_staysBy (wsM yX6_staysBy cX6_staysBy 4 (some .int)) { frames := 4, cells := 0, slots := 0, locals := 92 } (xPre D (kT cI cJ cZ) (w6 cI cJ cZ qS zS zL) sz [.ref (qS 0), .int a1]) (xQi D (kT cI cJ cZ) (w6 cI cJ cZ qS zS zL) (w6 cI cJ cZ qS out.2 zL) sz out.1) 0 0 (va_A (w6 cI cJ cZ qS zS zL) sz) := by
  refine Met.ofW (cc := cX6_staysBy) (maxL := 4) (ret := (some .int)) (by decide) rfl ?_
  intro p e s m args below meth c s₁ B hml hv
  obtain ⟨hv, hsz, hP, hK, hD0, hN⟩ := hv
  have hx := B.exec; have hb := B.bytes; have hr := B.returns
  have hts := atoms_spec (ws := (wsM yX6_staysBy cX6_staysBy 4 (some .int))) B.pre
  have hown : s.vm.findClass RX6 = some m.cls := findClass_of_methodNamed B.named
  have hlocks := B.notSynchronized
  subst hsz
  have hD := hD0.self (sz := s.heap.size)
  obtain ⟨A, hAe⟩ : ∃ A, A = va_A (w6 cI cJ cZ qS zS zL) s.heap.size := ⟨_, rfl⟩
  rw [← hAe] at hD
  have hA : ∀ q : Nat, s.heap.size ≤ q → A q := fun q h => by rw [hAe]; exact Or.inr h
  have htl : ∀ w ∈ wsL_law, w.before args s = true := fun w h => hts w (List.mem_cons_of_mem _ h)
  refine xHead (R' := { frames := 4, cells := 0, slots := 0, locals := 92 }) rfl (fun Q H hQ hH => ?_)
  have hP : va_P D vwCl (w6 cI cJ cZ qS zS zL) H := by rw [hH]; exact hP
  have hS : va_S A s.heap H [] := by rw [hH]; exact va_S.rf
  refine xStart hv (Nat.le_of_ble_eq_true rfl) (lv := [(0, .ref (qS 0)), (1, .int a1)]) rfl (fun ls hl => ?_)
  have h := hm
  unfold m_X6_staysBy at h
  refine lv_aload_n hx hb (dAt zX6_staysBy_0 0 rfl) rfl (lv_at hl 0 rfl) ?_
  refine va_get (D := D) (ci := 6) (v := .int (zS 0 0)) (C := RX6) (T := TX6) (N := 32) hx hb htl inlX6 hown hK hP 0 rfl rfl 0 (by decide) (htl _ W_102) (fun _ h9 => h9) rfl (dAt zX6_staysBy_0 1 rfl) ?_
  refine lv_istore_n (lv' := [(2, .int (zS 0 0)), (0, .ref (qS 0)), (1, .int a1)]) hx hb (dAt zX6_staysBy_0 2 rfl) rfl hl (by decide) rfl (fun ls hl => ?_)
  refine lv_aload_n hx hb (dAt zX6_staysBy_0 3 rfl) rfl (lv_at hl 1 rfl) ?_
  refine lv_iconst (v := 0) hx hb (dAt zX6_staysBy_0 4 rfl) (by decide) ?_
  refine va_put (D := D) (ci := 6) (v := .int 0) (ty := .int) (C := RX6) (T := TX6) (N := 32) hx hb htl inlX6 tyX6 tyX6_ok nmX6 hown hK hP hD hS 0 rfl rfl 23 (by decide) (htl _ W_551) (fun _ h9 => h9) rfl (by decide +kernel) rfl rfl (Nat.le_of_ble_eq_true rfl) (dAt zX6_staysBy_0 5 rfl) (fun H locs hP hD hS => ?_)
  have hP : va_P D vwCl (w6x cI cJ cZ qS (zS 0 0) (zS 0 1) (zS 0 2) (zS 0 8) (zS 0 10) (zS 0 14) (zS 0 15) (zS 0 16) (zS 0 17) (zS 0 19) (zS 0 20) (zS 0 21) (zS 0 22) 0 (zS 0 30) (zS 0 31) (zS 4) (zS 5) (zS 6) (zS 7) (zS 8) (zS 10) (zS 12) (zS 13) (zS 14) (zS 19) (zS 25) (zS 26) (zL 27) (zS 28) (zS 29) (zS 30)) H := hP
  have hD : va_D A (w6x cI cJ cZ qS (zS 0 0) (zS 0 1) (zS 0 2) (zS 0 8) (zS 0 10) (zS 0 14) (zS 0 15) (zS 0 16) (zS 0 17) (zS 0 19) (zS 0 20) (zS 0 21) (zS 0 22) 0 (zS 0 30) (zS 0 31) (zS 4) (zS 5) (zS 6) (zS 7) (zS 8) (zS 10) (zS 12) (zS 13) (zS 14) (zS 19) (zS 25) (zS 26) (zL 27) (zS 28) (zS 29) (zS 30)) := hD
  refine lv_iload_n hx hb (dAt zX6_staysBy_0 6 rfl) rfl (lv_at hl 0 rfl) ?_
  refine lv_aload_n hx hb (dAt zX6_staysBy_0 7 rfl) rfl (lv_at hl 1 rfl) ?_
  refine lv_iload_n hx hb (dAt zX6_staysBy_0 8 rfl) rfl (lv_at hl 0 rfl) ?_
  have hP : va_P D vwCl (w6 cI cJ cZ qS (sf zS 23 0) zL) H := hP
  have hD : va_D A (w6 cI cJ cZ qS (sf zS 23 0) zL) := hD
  obtain ⟨u13, hu13, h⟩ := q_bind h
  refine xFi (wc := (w6 cI cJ cZ qS (sf zS 23 0) zL)) (w1 := (w6 cI cJ cZ qS (sf zS 23 0) zL)) (wr := ([] : va_W)) (ws2 := (w6 cI cJ cZ qS (sf zS 23 0) zL)) (va_runV (As := [.int (zS 0 0)]) (rest := [.int (zS 0 0)]) ⟨hx, hb, hml, hown, htl⟩ (c_X6_missedIn l D cI cJ cZ n qS H.size (sf zS 23 0) zL (zS 0 0) u13 hu13) (cwV 1 htl (gV W_435 W_436 W_437 W_5 W_438) rfl rfl rfl (by decide +kernel) ⟨Nat.le_of_ble_eq_true rfl, Nat.le_of_ble_eq_true rfl⟩) (xPV hP hD hK hN 0 rfl rfl) rfl rfl hl.1 rfl (lv_room (Nat.le_of_ble_eq_true rfl)) (dAt zX6_staysBy_0 9 rfl) ⟨Nat.zero_le _, Nat.zero_le _⟩) hS hA hP hD [0, 1, 2, 3, 4, 5, 6, 7, 8, 9, 10, 11, 12, 13, 14, 15, 16] [] [0, 1, 2, 3, 4, 5, 6, 7, 8, 9, 10, 11, 12, 13, 14, 15, 16] rfl rfl (by decide) (by decide) rfl (by decide) (fun H locs hP hD hS => ?_)
  refine lv_iconst (v := (-1)) hx hb (dAt zX6_staysBy_0 10 rfl) (by decide) ?_
  refine lv_ixor hx hb (dAt zX6_staysBy_0 11 rfl) ?_
  refine lv_iand hx hb (dAt zX6_staysBy_0 12 rfl) ?_
  refine lv_iload_n hx hb (dAt zX6_staysBy_0 13 rfl) rfl (lv_at hl 2 rfl) ?_
  refine lv_iconst (v := (-1)) hx hb (dAt zX6_staysBy_0 14 rfl) (by decide) ?_
  refine lv_ixor hx hb (dAt zX6_staysBy_0 15 rfl) ?_
  refine lv_iand hx hb (dAt zX6_staysBy_0 16 rfl) ?_
  refine lv_istore_n (lv' := [(3, .int (((zS 0 0) &&& (u13 ^^^ (-1 : Int32))) &&& (a1 ^^^ (-1 : Int32)))), (2, .int (zS 0 0)), (0, .ref (qS 0)), (1, .int a1)]) hx hb (dAt zX6_staysBy_0 17 rfl) rfl hl (by decide) rfl (fun ls hl => ?_)
  have hP : va_P D vwCl (w6 cI cJ cZ qS (sf zS 23 0) zL) H := hP
  have hD : va_D A (w6 cI cJ cZ qS (sf zS 23 0) zL) := hD
  have L_24 : ∀ (j_24 : Nat) (v2_24 : Int32) (v3_24 : Int32) (zS_24 : TI) (H : Heap) (locs : List Loc) (ls : Array Slot), loopF (b_X6_staysBy_24 n zL a1) j_24 (v2_24, v3_24, zS_24) = some out → va_P D vwCl (w6 cI cJ cZ qS zS_24 zL) H → va_D A (w6 cI cJ cZ qS zS_24 zL) → va_S A s.heap H locs → lv_has ls 4 [(0, .ref (qS 0)), (1, .int a1), (2, .int v2_24), (3, .int v3_24)] → W p l e { frames := 4, cells := 0, slots := 0, locals := 92 } s m args below meth c H locs 0 0 Q (F0 m 24 ls []) := by
    intro j_24
    induction j_24 with
    | zero => intro v2_24 v3_24 zS_24 H locs ls h hP hD hS hl; exact loopF_0 h
    | succ j_24 ih_24 =>
      intro v2_24 v3_24 zS_24 H locs ls h hP hD hS hl
      have h := loopF_s h
      unfold b_X6_staysBy_24 at h
      refine lv_iload_n hx hb (dAt zX6_staysBy_0 18 rfl) rfl (lv_at hl 3 rfl) ?_
      refine lv_if_eq (tgt := 61) hx hb (dAt zX6_staysBy_0 19 rfl) (by decide) (fun c_25 => ?_) (fun c_25 => ?_)
      · have h := q_pos c_25 h
        refine lv_iload_n hx hb (dAt zX6_staysBy_0 45 rfl) rfl (lv_at hl 2 rfl) ?_
        obtain rfl := q_some h
        exact xRi hx hb hr hlocks hQ hAe hP hD hK hS rfl (dAt zX6_staysBy_0 46 rfl)
      · have h := q_neg c_25 h
        refine lv_iload_n hx hb (dAt zX6_staysBy_0 20 rfl) rfl (lv_at hl 2 rfl) ?_
        refine lv_iload_n hx hb (dAt zX6_staysBy_0 21 rfl) rfl (lv_at hl 3 rfl) ?_
        refine lv_iconst (v := (-1)) hx hb (dAt zX6_staysBy_0 22 rfl) (by decide) ?_
        refine lv_ixor hx hb (dAt zX6_staysBy_0 23 rfl) ?_
        refine lv_iand hx hb (dAt zX6_staysBy_0 24 rfl) ?_
        refine lv_istore_n (lv' := [(2, .int (v2_24 &&& (v3_24 ^^^ (-1 : Int32)))), (0, .ref (qS 0)), (1, .int a1), (3, .int v3_24)]) hx hb (dAt zX6_staysBy_0 25 rfl) rfl hl (by decide) rfl (fun ls hl => ?_)
        refine lv_aload_n hx hb (dAt zX6_staysBy_0 26 rfl) rfl (lv_at hl 1 rfl) ?_
        refine lv_dup hx hb (dAt zX6_staysBy_0 27 rfl) rfl ?_
        refine va_get (D := D) (ci := 6) (v := .int (zS_24 0 23)) (C := RX6) (T := TX6) (N := 32) hx hb htl inlX6 hown hK hP 0 rfl rfl 23 (by decide) (htl _ W_551) (fun _ h9 => h9) rfl (dAt zX6_staysBy_0 28 rfl) ?_
        refine lv_iconst (v := 1) hx hb (dAt zX6_staysBy_0 29 rfl) (by decide) ?_
        refine lv_iadd hx hb (dAt zX6_staysBy_0 30 rfl) ?_
        refine va_put (D := D) (ci := 6) (v := .int ((zS_24 0 23) + (1 : Int32))) (ty := .int) (C := RX6) (T := TX6) (N := 32) hx hb htl inlX6 tyX6 tyX6_ok nmX6 hown hK hP hD hS 0 rfl rfl 23 (by decide) (htl _ W_551) (fun _ h9 => h9) rfl (by decide +kernel) rfl rfl (Nat.le_of_ble_eq_true rfl) (dAt zX6_staysBy_0 31 rfl) (fun H locs hP hD hS => ?_)
        have hP : va_P D vwCl (w6x cI cJ cZ qS (zS_24 0 0) (zS_24 0 1) (zS_24 0 2) (zS_24 0 8) (zS_24 0 10) (zS_24 0 14) (zS_24 0 15) (zS_24 0 16) (zS_24 0 17) (zS_24 0 19) (zS_24 0 20) (zS_24 0 21) (zS_24 0 22) ((zS_24 0 23) + (1 : Int32)) (zS_24 0 30) (zS_24 0 31) (zS_24 4) (zS_24 5) (zS_24 6) (zS_24 7) (zS_24 8) (zS_24 10) (zS_24 12) (zS_24 13) (zS_24 14) (zS_24 19) (zS_24 25) (zS_24 26) (zL 27) (zS_24 28) (zS_24 29) (zS_24 30)) H := hP
        have hD : va_D A (w6x cI cJ cZ qS (zS_24 0 0) (zS_24 0 1) (zS_24 0 2) (zS_24 0 8) (zS_24 0 10) (zS_24 0 14) (zS_24 0 15) (zS_24 0 16) (zS_24 0 17) (zS_24 0 19) (zS_24 0 20) (zS_24 0 21) (zS_24 0 22) ((zS_24 0 23) + (1 : Int32)) (zS_24 0 30) (zS_24 0 31) (zS_24 4) (zS_24 5) (zS_24 6) (zS_24 7) (zS_24 8) (zS_24 10) (zS_24 12) (zS_24 13) (zS_24 14) (zS_24 19) (zS_24 25) (zS_24 26) (zL 27) (zS_24 28) (zS_24 29) (zS_24 30)) := hD
        refine lv_iload_n hx hb (dAt zX6_staysBy_0 32 rfl) rfl (lv_at hl 0 rfl) ?_
        refine lv_aload_n hx hb (dAt zX6_staysBy_0 33 rfl) rfl (lv_at hl 1 rfl) ?_
        refine lv_iload_n hx hb (dAt zX6_staysBy_0 34 rfl) rfl (lv_at hl 0 rfl) ?_
        have hP : va_P D vwCl (w6 cI cJ cZ qS (sf zS_24 23 ((zS_24 0 23) + (1 : Int32))) zL) H := hP
        have hD : va_D A (w6 cI cJ cZ qS (sf zS_24 23 ((zS_24 0 23) + (1 : Int32))) zL) := hD
        obtain ⟨u47, hu47, h⟩ := q_bind h
        refine xFi (wc := (w6 cI cJ cZ qS (sf zS_24 23 ((zS_24 0 23) + (1 : Int32))) zL)) (w1 := (w6 cI cJ cZ qS (sf zS_24 23 ((zS_24 0 23) + (1 : Int32))) zL)) (wr := ([] : va_W)) (ws2 := (w6 cI cJ cZ qS (sf zS_24 23 ((zS_24 0 23) + (1 : Int32))) zL)) (va_runV (As := [.int (v2_24 &&& (v3_24 ^^^ (-1 : Int32)))]) (rest := [.int (v2_24 &&& (v3_24 ^^^ (-1 : Int32)))]) ⟨hx, hb, hml, hown, htl⟩ (c_X6_missedIn l D cI cJ cZ n qS H.size (sf zS_24 23 ((zS_24 0 23) + (1 : Int32))) zL (v2_24 &&& (v3_24 ^^^ (-1 : Int32))) u47 hu47) (cwV 1 htl (gV W_435 W_436 W_437 W_5 W_438) rfl rfl rfl (by decide +kernel) ⟨Nat.le_of_ble_eq_true rfl, Nat.le_of_ble_eq_true rfl⟩) (xPV hP hD hK hN 0 rfl rfl) rfl rfl hl.1 rfl (lv_room (Nat.le_of_ble_eq_true rfl)) (dAt zX6_staysBy_0 35 rfl) ⟨Nat.zero_le _, Nat.zero_le _⟩) hS hA hP hD [0, 1, 2, 3, 4, 5, 6, 7, 8, 9, 10, 11, 12, 13, 14, 15, 16] [] [0, 1, 2, 3, 4, 5, 6, 7, 8, 9, 10, 11, 12, 13, 14, 15, 16] rfl rfl (by decide) (by decide) rfl (by decide) (fun H locs hP hD hS => ?_)
        refine lv_iconst (v := (-1)) hx hb (dAt zX6_staysBy_0 36 rfl) (by decide) ?_
        refine lv_ixor hx hb (dAt zX6_staysBy_0 37 rfl) ?_
        refine lv_iand hx hb (dAt zX6_staysBy_0 38 rfl) ?_
        refine lv_iload_n hx hb (dAt zX6_staysBy_0 39 rfl) rfl (lv_at hl 2 rfl) ?_
        refine lv_iconst (v := (-1)) hx hb (dAt zX6_staysBy_0 40 rfl) (by decide) ?_
        refine lv_ixor hx hb (dAt zX6_staysBy_0 41 rfl) ?_
        refine lv_iand hx hb (dAt zX6_staysBy_0 42 rfl) ?_
        refine lv_istore_n (lv' := [(3, .int (((v2_24 &&& (v3_24 ^^^ (-1 : Int32))) &&& (u47 ^^^ (-1 : Int32))) &&& (a1 ^^^ (-1 : Int32)))), (2, .int (v2_24 &&& (v3_24 ^^^ (-1 : Int32)))), (0, .ref (qS 0)), (1, .int a1)]) hx hb (dAt zX6_staysBy_0 43 rfl) rfl hl (by decide) rfl (fun ls hl => ?_)
        refine lv_goto (tgt := 24) hx hb (dAt zX6_staysBy_0 44 rfl) (by decide) ?_
        have hP : va_P D vwCl (w6 cI cJ cZ qS (sf zS_24 23 ((zS_24 0 23) + (1 : Int32))) zL) H := hP
        have hD : va_D A (w6 cI cJ cZ qS (sf zS_24 23 ((zS_24 0 23) + (1 : Int32))) zL) := hD
        exact ih_24 (v2_24 &&& (v3_24 ^^^ (-1 : Int32))) (((v2_24 &&& (v3_24 ^^^ (-1 : Int32))) &&& (u47 ^^^ (-1 : Int32))) &&& (a1 ^^^ (-1 : Int32))) (sf zS_24 23 ((zS_24 0 23) + (1 : Int32))) _ _ _ h hP hD hS (lv_sub hl [2, 3, 1, 0] rfl)
  exact L_24 n (zS 0 0) (((zS 0 0) &&& (u13 ^^^ (-1 : Int32))) &&& (a1 ^^^ (-1 : Int32))) (sf zS 23 0) _ _ _ h hP hD hS (lv_sub hl [2, 3, 1, 0] rfl)
def m_X6_stays (n : Nat) (zS : TI) (zL : TL) (a1 : Int32) : Option (Int32 × TI) := ((m_X6_in n  (Int32.toInt64 a1) 0 1).bind fun u4 => (if u4 = 0 then some ((-2), zS) else ((m_X6_staysBy n zS zL 0).bind fun u15 => (if a1 = 0 then some (u15.1, u15.2) else some ((u15.2 0 23), u15.2)))))
set_option maxHeartbeats 4000000 in
set_option maxRecDepth 100000 in
theorem c_X6_stays (l : Launch) (D : va_G) (cI cJ cZ : ClassId) (n : Nat) (qS : Nat → Nat) (sz : Nat) (zS : TI) (zL : TL) (a1 : Int32) (out : Int32 × TI) (hm : m_X6_stays n zS zL a1 = some out) : Met l yX6_stays (wsM yX6_stays cX6_stays 3 (some .int)) { frames := 5, cells := 0, slots := 0, locals := 115 } (xPre D (kT cI cJ cZ) (w6 cI cJ cZ qS zS zL) sz [.ref (qS 0), .int a1]) (xQi D (kT cI cJ cZ) (w6 cI cJ cZ qS zS zL) (w6 cI cJ cZ qS out.2 zL) sz out.1) 0 0 (va_A (w6 cI cJ cZ qS zS zL) sz) := by
  refine Met.ofW (cc := cX6_stays) (maxL := 3) (ret := (some .int)) (by decide) rfl ?_
  intro p e s m args below meth c s₁ B hml hv
  obtain ⟨hv, hsz, hP, hK, hD0, hN⟩ := hv
  have hx := B.exec; have hb := B.bytes; have hr := B.returns
  have hts := atoms_spec (ws := (wsM yX6_stays cX6_stays 3 (some .int))) B.pre
  have hown : s.vm.findClass RX6 = some m.cls := findClass_of_methodNamed B.named
  have hlocks := B.notSynchronized
  subst hsz
  have hD := hD0.self (sz := s.heap.size)
  obtain ⟨A, hAe⟩ : ∃ A, A = va_A (w6 cI cJ cZ qS zS zL) s.heap.size := ⟨_, rfl⟩
  rw [← hAe] at hD
  have hA : ∀ q : Nat, s.heap.size ≤ q → A q := fun q h => by rw [hAe]; exact Or.inr h
  have htl : ∀ w ∈ wsL_law, w.before args s = true := fun w h => hts w (List.mem_cons_of_mem _ h)
  refine xHead (R' := { frames := 5, cells := 0, slots := 0, locals := 115 }) rfl (fun Q H hQ hH => ?_)
  have hP : va_P D vwCl (w6 cI cJ cZ qS zS zL) H := by rw [hH]; exact hP
  have hS : va_S A s.heap H [] := by rw [hH]; exact va_S.rf
  refine xStart hv (Nat.le_of_ble_eq_true rfl) (lv := [(0, .ref (qS 0)), (1, .int a1)]) rfl (fun ls hl => ?_)
  have h := hm
  unfold m_X6_stays at h
  refine lv_iload_n hx hb (dAt zX6_stays_0 0 rfl) rfl (lv_at hl 1 rfl) ?_
  refine lv_i2l (v := (Int32.toInt64 a1)) hx hb (dAt zX6_stays_0 1 rfl) rfl ?_
  refine lv_lconst (v := 0) hx hb (dAt zX6_stays_0 2 rfl) (by decide) ?_
  refine lv_lconst (v := 1) hx hb (dAt zX6_stays_0 3 rfl) (by decide) ?_
  obtain ⟨u4, hu4, h⟩ := q_bind h
  refine xFz (wc := ([] : va_W)) (w1 := ([] : va_W)) (wr := (w6 cI cJ cZ qS zS zL)) (ws2 := (w6 cI cJ cZ qS zS zL)) (va_runS (As := [.long (Int32.toInt64 a1), .long 0, .long 1]) (rest := []) ⟨hx, hb, hml, hown, htl⟩ (c_X6_in l D cI cJ cZ n  H.size  (Int32.toInt64 a1) 0 1 u4 hu4) (va_cwS 3 htl (gS W_130 W_131 W_5 W_132) rfl rfl rfl (by decide +kernel) ⟨Nat.le_of_ble_eq_true rfl, Nat.le_of_ble_eq_true rfl⟩) (xPS xP0 (xD0 A) hK hN) rfl rfl hl.1 rfl (lv_room (Nat.le_of_ble_eq_true rfl)) (dAt zX6_stays_0 4 rfl) ⟨Nat.zero_le _, Nat.zero_le _⟩) hS hA hP hD [] [0, 1, 2, 3, 4, 5, 6, 7, 8, 9, 10, 11, 12, 13, 14, 15, 16] [0, 1, 2, 3, 4, 5, 6, 7, 8, 9, 10, 11, 12, 13, 14, 15, 16] rfl rfl (by decide) (by decide) rfl (by decide) (fun H locs hz4 hP hD hS => ?_)
  refine lv_if_ne (tgt := 13) hx hb (dAt zX6_stays_0 5 rfl) (by decide) (fun c_7 => ?_) (fun c_7 => ?_)
  · have h := q_neg c_7 h
    refine lv_aload_n hx hb (dAt zX6_stays_0 8 rfl) rfl (lv_at hl 0 rfl) ?_
    refine lv_iconst (v := 0) hx hb (dAt zX6_stays_0 9 rfl) (by decide) ?_
    obtain ⟨u15, hu15, h⟩ := q_bind h
    refine xFi (wc := (w6 cI cJ cZ qS zS zL)) (w1 := (w6 cI cJ cZ qS u15.2 zL)) (wr := ([] : va_W)) (ws2 := (w6 cI cJ cZ qS u15.2 zL)) (va_runV (As := [.int 0]) (rest := []) ⟨hx, hb, hml, hown, htl⟩ (c_X6_staysBy l D cI cJ cZ n qS H.size zS zL 0 u15 hu15) (cwV 1 htl (gV W_552 W_553 W_554 W_5 W_555) rfl rfl rfl (by decide +kernel) ⟨Nat.le_of_ble_eq_true rfl, Nat.le_of_ble_eq_true rfl⟩) (xPV hP hD hK hN 0 rfl rfl) rfl rfl hl.1 rfl (lv_room (Nat.le_of_ble_eq_true rfl)) (dAt zX6_stays_0 10 rfl) ⟨Nat.zero_le _, Nat.zero_le _⟩) hS hA hP hD [0, 1, 2, 3, 4, 5, 6, 7, 8, 9, 10, 11, 12, 13, 14, 15, 16] [] [0, 1, 2, 3, 4, 5, 6, 7, 8, 9, 10, 11, 12, 13, 14, 15, 16] rfl rfl (by decide) (by decide) rfl (by decide) (fun H locs hP hD hS => ?_)
    refine lv_istore_n (lv' := [(2, .int u15.1), (0, .ref (qS 0)), (1, .int a1)]) hx hb (dAt zX6_stays_0 11 rfl) rfl hl (by decide) rfl (fun ls hl => ?_)
    refine lv_iload_n hx hb (dAt zX6_stays_0 12 rfl) rfl (lv_at hl 2 rfl) ?_
    refine lv_if_ne (tgt := 27) hx hb (dAt zX6_stays_0 13 rfl) (by decide) (fun c_20 => ?_) (fun c_20 => ?_)
    · have h := q_neg c_20 h
      refine lv_aload_n hx hb (dAt zX6_stays_0 16 rfl) rfl (lv_at hl 1 rfl) ?_
      refine va_get (D := D) (ci := 6) (v := .int (u15.2 0 23)) (C := RX6) (T := TX6) (N := 32) hx hb htl inlX6 hown hK hP 0 rfl rfl 23 (by decide) (htl _ W_551) (fun _ h9 => h9) rfl (dAt zX6_stays_0 17 rfl) ?_
      obtain rfl := q_some h
      exact xRi hx hb hr hlocks hQ hAe hP hD hK hS rfl (dAt zX6_stays_0 18 rfl)
    · have h := q_pos c_20 h
      refine lv_iload_n hx hb (dAt zX6_stays_0 14 rfl) rfl (lv_at hl 0 rfl) ?_
      refine lv_goto (tgt := 31) hx hb (dAt zX6_stays_0 15 rfl) (by decide) ?_
      obtain rfl := q_some h
      exact xRi hx hb hr hlocks hQ hAe hP hD hK hS rfl (dAt zX6_stays_0 18 rfl)
  · have h := q_pos c_7 h
    refine lv_bipush (v := (-2)) hx hb (dAt zX6_stays_0 6 rfl) (by decide) ?_
    obtain rfl := q_some h
    exact xRi hx hb hr hlocks hQ hAe hP hD hK hS rfl (dAt zX6_stays_0 7 rfl)
def m_X6_isHere (n : Nat) (zS : TI) (zL : TL) (a1 : Int32) : Option Int32 := ((m_X6_isOne n  a1).bind fun u1 => (if u1 = 0 then some 0 else ((m_X6_has n  (zS 0 0) a1).bind fun u12 => (if u12 = 0 then some 0 else some 1))))
set_option maxHeartbeats 4000000 in
set_option maxRecDepth 100000 in
theorem c_X6_isHere (l : Launch) (D : va_G) (cI cJ cZ : ClassId) (n : Nat) (qS : Nat → Nat) (sz : Nat) (zS : TI) (zL : TL) (a1 : Int32) (out : Int32) (hm : m_X6_isHere n zS zL a1 = some out) : Met l yX6_isHere (wsM yX6_isHere cX6_isHere 2 (some .boolean)) { frames := 2, cells := 0, slots := 0, locals := 45 } (xPre D (kT cI cJ cZ) (w6 cI cJ cZ qS zS zL) sz [.ref (qS 0), .int a1]) (xQz D (kT cI cJ cZ) (w6 cI cJ cZ qS zS zL) (w6 cI cJ cZ qS zS zL) sz out) 0 0 (va_A (w6 cI cJ cZ qS zS zL) sz) := by
  refine Met.ofW (cc := cX6_isHere) (maxL := 2) (ret := (some .boolean)) (by decide) rfl ?_
  intro p e s m args below meth c s₁ B hml hv
  obtain ⟨hv, hsz, hP, hK, hD0, hN⟩ := hv
  have hx := B.exec; have hb := B.bytes; have hr := B.returns
  have hts := atoms_spec (ws := (wsM yX6_isHere cX6_isHere 2 (some .boolean))) B.pre
  have hown : s.vm.findClass RX6 = some m.cls := findClass_of_methodNamed B.named
  have hlocks := B.notSynchronized
  subst hsz
  have hD := hD0.self (sz := s.heap.size)
  obtain ⟨A, hAe⟩ : ∃ A, A = va_A (w6 cI cJ cZ qS zS zL) s.heap.size := ⟨_, rfl⟩
  rw [← hAe] at hD
  have hA : ∀ q : Nat, s.heap.size ≤ q → A q := fun q h => by rw [hAe]; exact Or.inr h
  have htl : ∀ w ∈ wsL_law, w.before args s = true := fun w h => hts w (List.mem_cons_of_mem _ h)
  refine xHead (R' := { frames := 2, cells := 0, slots := 0, locals := 45 }) rfl (fun Q H hQ hH => ?_)
  have hP : va_P D vwCl (w6 cI cJ cZ qS zS zL) H := by rw [hH]; exact hP
  have hS : va_S A s.heap H [] := by rw [hH]; exact va_S.rf
  refine xStart hv (Nat.le_of_ble_eq_true rfl) (lv := [(0, .ref (qS 0)), (1, .int a1)]) rfl (fun ls hl => ?_)
  have h := hm
  unfold m_X6_isHere at h
  refine lv_iload_n hx hb (dAt zX6_isHere_0 0 rfl) rfl (lv_at hl 1 rfl) ?_
  obtain ⟨u1, hu1, h⟩ := q_bind h
  refine xFz (wc := ([] : va_W)) (w1 := ([] : va_W)) (wr := (w6 cI cJ cZ qS zS zL)) (ws2 := (w6 cI cJ cZ qS zS zL)) (va_runS (As := [.int a1]) (rest := []) ⟨hx, hb, hml, hown, htl⟩ (c_X6_isOne l D cI cJ cZ n  H.size  a1 u1 hu1) (va_cwS 1 htl (gS W_127 W_128 W_5 W_129) rfl rfl rfl (by decide +kernel) ⟨Nat.le_of_ble_eq_true rfl, Nat.le_of_ble_eq_true rfl⟩) (xPS xP0 (xD0 A) hK hN) rfl rfl hl.1 rfl (lv_room (Nat.le_of_ble_eq_true rfl)) (dAt zX6_isHere_0 1 rfl) ⟨Nat.zero_le _, Nat.zero_le _⟩) hS hA hP hD [] [0, 1, 2, 3, 4, 5, 6, 7, 8, 9, 10, 11, 12, 13, 14, 15, 16] [0, 1, 2, 3, 4, 5, 6, 7, 8, 9, 10, 11, 12, 13, 14, 15, 16] rfl rfl (by decide) (by decide) rfl (by decide) (fun H locs hz1 hP hD hS => ?_)
  refine lv_if_eq (tgt := 22) hx hb (dAt zX6_isHere_0 2 rfl) (by decide) (fun c_4 => ?_) (fun c_4 => ?_)
  · have h := q_pos c_4 h
    refine lv_iconst (v := 0) hx hb (dAt zX6_isHere_0 10 rfl) (by decide) ?_
    obtain rfl := q_some h
    exact xRz hx hb hr hlocks hQ hAe hP hD hK hS rfl rfl (dAt zX6_isHere_0 11 rfl)
  · have h := q_neg c_4 h
    refine lv_aload_n hx hb (dAt zX6_isHere_0 3 rfl) rfl (lv_at hl 0 rfl) ?_
    refine va_get (D := D) (ci := 6) (v := .int (zS 0 0)) (C := RX6) (T := TX6) (N := 32) hx hb htl inlX6 hown hK hP 0 rfl rfl 0 (by decide) (htl _ W_102) (fun _ h9 => h9) rfl (dAt zX6_isHere_0 4 rfl) ?_
    refine lv_iload_n hx hb (dAt zX6_isHere_0 5 rfl) rfl (lv_at hl 1 rfl) ?_
    obtain ⟨u12, hu12, h⟩ := q_bind h
    refine xFz (wc := ([] : va_W)) (w1 := ([] : va_W)) (wr := (w6 cI cJ cZ qS zS zL)) (ws2 := (w6 cI cJ cZ qS zS zL)) (va_runS (As := [.int (zS 0 0), .int a1]) (rest := []) ⟨hx, hb, hml, hown, htl⟩ (c_X6_has l D cI cJ cZ n  H.size  (zS 0 0) a1 u12 hu12) (va_cwS 2 htl (gS W_407 W_408 W_5 W_409) rfl rfl rfl (by decide +kernel) ⟨Nat.le_of_ble_eq_true rfl, Nat.le_of_ble_eq_true rfl⟩) (xPS xP0 (xD0 A) hK hN) rfl rfl hl.1 rfl (lv_room (Nat.le_of_ble_eq_true rfl)) (dAt zX6_isHere_0 6 rfl) ⟨Nat.zero_le _, Nat.zero_le _⟩) hS hA hP hD [] [0, 1, 2, 3, 4, 5, 6, 7, 8, 9, 10, 11, 12, 13, 14, 15, 16] [0, 1, 2, 3, 4, 5, 6, 7, 8, 9, 10, 11, 12, 13, 14, 15, 16] rfl rfl (by decide) (by decide) rfl (by decide) (fun H locs hz12 hP hD hS => ?_)
    refine lv_if_eq (tgt := 22) hx hb (dAt zX6_isHere_0 7 rfl) (by decide) (fun c_15 => ?_) (fun c_15 => ?_)
    · have h := q_pos c_15 h
      refine lv_iconst (v := 0) hx hb (dAt zX6_isHere_0 10 rfl) (by decide) ?_
      obtain rfl := q_some h
      exact xRz hx hb hr hlocks hQ hAe hP hD hK hS rfl rfl (dAt zX6_isHere_0 11 rfl)
    · have h := q_neg c_15 h
      refine lv_iconst (v := 1) hx hb (dAt zX6_isHere_0 8 rfl) (by decide) ?_
      refine lv_goto (tgt := 23) hx hb (dAt zX6_isHere_0 9 rfl) (by decide) ?_
      obtain rfl := q_some h
      exact xRz hx hb hr hlocks hQ hAe hP hD hK hS rfl rfl (dAt zX6_isHere_0 11 rfl)
def b_X6_keep_29 (n : Nat) (zL : TL) (a1 : Int32) (a2 : Int32) (s_29 : Int32 × Int32 × TI) (k_29 : Int32 × Int32 × TI → Option (Int32 × TI)) : Option (Int32 × TI) := (if 1023 < s_29.2.1 then (if s_29.1 < 0 then some (s_29.1, s_29.2.2) else (if a2 = 1 then some (s_29.1, s_29.2.2) else ((m_X6_ones n  s_29.1).bind fun u138 => some (u138, s_29.2.2)))) else (if (s_29.2.1 &&& ((s_29.2.2 0 0) ^^^ (-1 : Int32))) = 0 then ((m_X6_has n  s_29.2.1 a1).bind fun u52 => (if u52 = 0 then (if s_29.1 < 0 then ((m_X6_staysBy n s_29.2.2 zL s_29.2.1).bind fun u101 => ((m_X6_has n  u101.1 a1).bind fun u105 => (if u105 = 0 then (k_29 (s_29.1, (s_29.2.1 + 1), u101.2)) else (k_29 (s_29.2.1, (s_29.2.1 + 1), u101.2))))) else ((m_X6_ones n  s_29.2.1).bind fun u71 => ((m_X6_ones n  s_29.1).bind fun u75 => (if u75 ≤ u71 then (k_29 (s_29.1, (s_29.2.1 + 1), s_29.2.2)) else ((m_X6_staysBy n s_29.2.2 zL s_29.2.1).bind fun u101 => ((m_X6_has n  u101.1 a1).bind fun u105 => (if u105 = 0 then (k_29 (s_29.1, (s_29.2.1 + 1), u101.2)) else (k_29 (s_29.2.1, (s_29.2.1 + 1), u101.2))))))))) else (if s_29.1 < 0 then (k_29 (s_29.1, (s_29.2.1 + 1), s_29.2.2)) else ((m_X6_ones n  s_29.2.1).bind fun u71 => ((m_X6_ones n  s_29.1).bind fun u75 => (if u75 ≤ u71 then (k_29 (s_29.1, (s_29.2.1 + 1), s_29.2.2)) else (k_29 (s_29.1, (s_29.2.1 + 1), s_29.2.2)))))))) else (if s_29.1 < 0 then (k_29 (s_29.1, (s_29.2.1 + 1), s_29.2.2)) else ((m_X6_ones n  s_29.2.1).bind fun u71 => ((m_X6_ones n  s_29.1).bind fun u75 => (if u75 ≤ u71 then (k_29 (s_29.1, (s_29.2.1 + 1), s_29.2.2)) else (k_29 (s_29.1, (s_29.2.1 + 1), s_29.2.2))))))))
def m_X6_keep (n : Nat) (zS : TI) (zL : TL) (a1 : Int32) (a2 : Int32) : Option (Int32 × TI) := ((m_X6_isHere n zS zL a1).bind fun u2 => (if u2 = 0 then some ((-1), zS) else ((m_X6_in n  (Int32.toInt64 a2) 0 1).bind fun u14 => (if u14 = 0 then some ((-2), zS) else (loopF (b_X6_keep_29 n zL a1 a2 ) n ((-6), 0, zS))))))
set_option maxHeartbeats 4000000 in
set_option maxRecDepth 100000 in
theorem c_X6_keep (l : Launch) (D : va_G) (cI cJ cZ : ClassId) (n : Nat) (qS : Nat → Nat) (sz : Nat) (zS : TI) (zL : TL) (a1 : Int32) (a2 : Int32) (out : Int32 × TI) (hm : m_X6_keep n zS zL a1 a2 = some out) : Met l yX6_keep (wsM yX6_keep cX6_keep 7 (some .int)) { frames := 5, cells := 0, slots := 0, locals := 115 } (xPre D (kT cI cJ cZ) (w6 cI cJ cZ qS zS zL) sz [.ref (qS 0), .int a1, .int a2]) (xQi D (kT cI cJ cZ) (w6 cI cJ cZ qS zS zL) (w6 cI cJ cZ qS out.2 zL) sz out.1) 0 0 (va_A (w6 cI cJ cZ qS zS zL) sz) := by
  refine Met.ofW (cc := cX6_keep) (maxL := 7) (ret := (some .int)) (by decide) rfl ?_
  intro p e s m args below meth c s₁ B hml hv
  obtain ⟨hv, hsz, hP, hK, hD0, hN⟩ := hv
  have hx := B.exec; have hb := B.bytes; have hr := B.returns
  have hts := atoms_spec (ws := (wsM yX6_keep cX6_keep 7 (some .int))) B.pre
  have hown : s.vm.findClass RX6 = some m.cls := findClass_of_methodNamed B.named
  have hlocks := B.notSynchronized
  subst hsz
  have hD := hD0.self (sz := s.heap.size)
  obtain ⟨A, hAe⟩ : ∃ A, A = va_A (w6 cI cJ cZ qS zS zL) s.heap.size := ⟨_, rfl⟩
  rw [← hAe] at hD
  have hA : ∀ q : Nat, s.heap.size ≤ q → A q := fun q h => by rw [hAe]; exact Or.inr h
  have htl : ∀ w ∈ wsL_law, w.before args s = true := fun w h => hts w (List.mem_cons_of_mem _ h)
  refine xHead (R' := { frames := 5, cells := 0, slots := 0, locals := 115 }) rfl (fun Q H hQ hH => ?_)
  have hP : va_P D vwCl (w6 cI cJ cZ qS zS zL) H := by rw [hH]; exact hP
  have hS : va_S A s.heap H [] := by rw [hH]; exact va_S.rf
  refine xStart hv (Nat.le_of_ble_eq_true rfl) (lv := [(0, .ref (qS 0)), (1, .int a1), (2, .int a2)]) rfl (fun ls hl => ?_)
  have h := hm
  unfold m_X6_keep at h
  refine lv_aload_n hx hb (dAt zX6_keep_0 0 rfl) rfl (lv_at hl 0 rfl) ?_
  refine lv_iload_n hx hb (dAt zX6_keep_0 1 rfl) rfl (lv_at hl 1 rfl) ?_
  obtain ⟨u2, hu2, h⟩ := q_bind h
  refine xFz (wc := (w6 cI cJ cZ qS zS zL)) (w1 := (w6 cI cJ cZ qS zS zL)) (wr := ([] : va_W)) (ws2 := (w6 cI cJ cZ qS zS zL)) (va_runV (As := [.int a1]) (rest := []) ⟨hx, hb, hml, hown, htl⟩ (c_X6_isHere l D cI cJ cZ n qS H.size zS zL a1 u2 hu2) (cwV 1 htl (gV W_570 W_571 W_572 W_5 W_573) rfl rfl rfl (by decide +kernel) ⟨Nat.le_of_ble_eq_true rfl, Nat.le_of_ble_eq_true rfl⟩) (xPV hP hD hK hN 0 rfl rfl) rfl rfl hl.1 rfl (lv_room (Nat.le_of_ble_eq_true rfl)) (dAt zX6_keep_0 2 rfl) ⟨Nat.zero_le _, Nat.zero_le _⟩) hS hA hP hD [0, 1, 2, 3, 4, 5, 6, 7, 8, 9, 10, 11, 12, 13, 14, 15, 16] [] [0, 1, 2, 3, 4, 5, 6, 7, 8, 9, 10, 11, 12, 13, 14, 15, 16] rfl rfl (by decide) (by decide) rfl (by decide) (fun H locs hz2 hP hD hS => ?_)
  refine lv_if_ne (tgt := 10) hx hb (dAt zX6_keep_0 3 rfl) (by decide) (fun c_5 => ?_) (fun c_5 => ?_)
  · have h := q_neg c_5 h
    refine lv_iload_n hx hb (dAt zX6_keep_0 6 rfl) rfl (lv_at hl 2 rfl) ?_
    refine lv_i2l (v := (Int32.toInt64 a2)) hx hb (dAt zX6_keep_0 7 rfl) rfl ?_
    refine lv_lconst (v := 0) hx hb (dAt zX6_keep_0 8 rfl) (by decide) ?_
    refine lv_lconst (v := 1) hx hb (dAt zX6_keep_0 9 rfl) (by decide) ?_
    obtain ⟨u14, hu14, h⟩ := q_bind h
    refine xFz (wc := ([] : va_W)) (w1 := ([] : va_W)) (wr := (w6 cI cJ cZ qS zS zL)) (ws2 := (w6 cI cJ cZ qS zS zL)) (va_runS (As := [.long (Int32.toInt64 a2), .long 0, .long 1]) (rest := []) ⟨hx, hb, hml, hown, htl⟩ (c_X6_in l D cI cJ cZ n  H.size  (Int32.toInt64 a2) 0 1 u14 hu14) (va_cwS 3 htl (gS W_130 W_131 W_5 W_132) rfl rfl rfl (by decide +kernel) ⟨Nat.le_of_ble_eq_true rfl, Nat.le_of_ble_eq_true rfl⟩) (xPS xP0 (xD0 A) hK hN) rfl rfl hl.1 rfl (lv_room (Nat.le_of_ble_eq_true rfl)) (dAt zX6_keep_0 10 rfl) ⟨Nat.zero_le _, Nat.zero_le _⟩) hS hA hP hD [] [0, 1, 2, 3, 4, 5, 6, 7, 8, 9, 10, 11, 12, 13, 14, 15, 16] [0, 1, 2, 3, 4, 5, 6, 7, 8, 9, 10, 11, 12, 13, 14, 15, 16] rfl rfl (by decide) (by decide) rfl (by decide) (fun H locs hz14 hP hD hS => ?_)
    refine lv_if_ne (tgt := 23) hx hb (dAt zX6_keep_0 11 rfl) (by decide) (fun c_17 => ?_) (fun c_17 => ?_)
    · have h := q_neg c_17 h
      refine lv_bipush (v := (-6)) hx hb (dAt zX6_keep_0 14 rfl) (by decide) ?_
      refine lv_istore_n (lv' := [(3, .int (-6)), (0, .ref (qS 0)), (1, .int a1), (2, .int a2)]) hx hb (dAt zX6_keep_0 15 rfl) rfl hl (by decide) rfl (fun ls hl => ?_)
      refine lv_iconst (v := 0) hx hb (dAt zX6_keep_0 16 rfl) (by decide) ?_
      refine lv_istore (lv' := [(4, .int 0), (3, .int (-6)), (0, .ref (qS 0)), (1, .int a1), (2, .int a2)]) hx hb (dAt zX6_keep_0 17 rfl) hl (by decide) rfl (fun ls hl => ?_)
      have L_29 : ∀ (j_29 : Nat) (v3_29 : Int32) (v4_29 : Int32) (zS_29 : TI) (H : Heap) (locs : List Loc) (ls : Array Slot), loopF (b_X6_keep_29 n zL a1 a2) j_29 (v3_29, v4_29, zS_29) = some out → va_P D vwCl (w6 cI cJ cZ qS zS_29 zL) H → va_D A (w6 cI cJ cZ qS zS_29 zL) → va_S A s.heap H locs → lv_has ls 7 [(0, .ref (qS 0)), (1, .int a1), (2, .int a2), (3, .int v3_29), (4, .int v4_29)] → W p l e { frames := 5, cells := 0, slots := 0, locals := 115 } s m args below meth c H locs 0 0 Q (F0 m 29 ls []) := by
        intro j_29
        induction j_29 with
        | zero => intro v3_29 v4_29 zS_29 H locs ls h hP hD hS hl; exact loopF_0 h
        | succ j_29 ih_29 =>
          intro v3_29 v4_29 zS_29 H locs ls h hP hD hS hl
          have h := loopF_s h
          unfold b_X6_keep_29 at h
          refine lv_iload hx hb (dAt zX6_keep_0 18 rfl) (lv_at hl 4 rfl) ?_
          refine lv_sipush (v := 1023) hx hb (dAt zX6_keep_0 19 rfl) (by decide) ?_
          refine lv_icmp_gt (tgt := 124) hx hb (dAt zX6_keep_0 20 rfl) (by decide) (fun c_34 => ?_) (fun c_34 => ?_)
          · have h := q_pos c_34 h
            refine lv_iload_n hx hb (dAt zX6_keep_0 63 rfl) rfl (lv_at hl 3 rfl) ?_
            refine lv_if_lt (tgt := 133) hx hb (dAt zX6_keep_0 64 rfl) (by decide) (fun c_125 => ?_) (fun c_125 => ?_)
            · have h := q_pos c_125 h
              refine lv_iload_n hx hb (dAt zX6_keep_0 68 rfl) rfl (lv_at hl 3 rfl) ?_
              refine lv_goto (tgt := 141) hx hb (dAt zX6_keep_0 69 rfl) (by decide) ?_
              obtain rfl := q_some h
              exact xRi hx hb hr hlocks hQ hAe hP hD hK hS rfl (dAt zX6_keep_0 72 rfl)
            · have h := q_neg c_125 h
              refine lv_iload_n hx hb (dAt zX6_keep_0 65 rfl) rfl (lv_at hl 2 rfl) ?_
              refine lv_iconst (v := 1) hx hb (dAt zX6_keep_0 66 rfl) (by decide) ?_
              refine lv_icmp_ne (tgt := 137) hx hb (dAt zX6_keep_0 67 rfl) (by decide) (fun c_130 => ?_) (fun c_130 => ?_)
              · have h := q_neg c_130 h
                refine lv_iload_n hx hb (dAt zX6_keep_0 70 rfl) rfl (lv_at hl 3 rfl) ?_
                obtain ⟨u138, hu138, h⟩ := q_bind h
                refine xFi (wc := ([] : va_W)) (w1 := ([] : va_W)) (wr := (w6 cI cJ cZ qS zS_29 zL)) (ws2 := (w6 cI cJ cZ qS zS_29 zL)) (va_runS (As := [.int v3_29]) (rest := []) ⟨hx, hb, hml, hown, htl⟩ (c_X6_ones l D cI cJ cZ n  H.size  v3_29 u138 hu138) (va_cwS 1 htl (gS W_165 W_166 W_5 W_167) rfl rfl rfl (by decide +kernel) ⟨Nat.le_of_ble_eq_true rfl, Nat.le_of_ble_eq_true rfl⟩) (xPS xP0 (xD0 A) hK hN) rfl rfl hl.1 rfl (lv_room (Nat.le_of_ble_eq_true rfl)) (dAt zX6_keep_0 71 rfl) ⟨Nat.zero_le _, Nat.zero_le _⟩) hS hA hP hD [] [0, 1, 2, 3, 4, 5, 6, 7, 8, 9, 10, 11, 12, 13, 14, 15, 16] [0, 1, 2, 3, 4, 5, 6, 7, 8, 9, 10, 11, 12, 13, 14, 15, 16] rfl rfl (by decide) (by decide) rfl (by decide) (fun H locs hP hD hS => ?_)
                obtain rfl := q_some h
                exact xRi hx hb hr hlocks hQ hAe hP hD hK hS rfl (dAt zX6_keep_0 72 rfl)
              · have h := q_pos c_130 h
                refine lv_iload_n hx hb (dAt zX6_keep_0 68 rfl) rfl (lv_at hl 3 rfl) ?_
                refine lv_goto (tgt := 141) hx hb (dAt zX6_keep_0 69 rfl) (by decide) ?_
                obtain rfl := q_some h
                exact xRi hx hb hr hlocks hQ hAe hP hD hK hS rfl (dAt zX6_keep_0 72 rfl)
          · have h := q_neg c_34 h
            refine lv_iload hx hb (dAt zX6_keep_0 21 rfl) (lv_at hl 4 rfl) ?_
            refine lv_aload_n hx hb (dAt zX6_keep_0 22 rfl) rfl (lv_at hl 0 rfl) ?_
            refine va_get (D := D) (ci := 6) (v := .int (zS_29 0 0)) (C := RX6) (T := TX6) (N := 32) hx hb htl inlX6 hown hK hP 0 rfl rfl 0 (by decide) (htl _ W_102) (fun _ h9 => h9) rfl (dAt zX6_keep_0 23 rfl) ?_
            refine lv_iconst (v := (-1)) hx hb (dAt zX6_keep_0 24 rfl) (by decide) ?_
            refine lv_ixor hx hb (dAt zX6_keep_0 25 rfl) ?_
            refine lv_iand hx hb (dAt zX6_keep_0 26 rfl) ?_
            refine lv_if_ne (tgt := 62) hx hb (dAt zX6_keep_0 27 rfl) (by decide) (fun c_46 => ?_) (fun c_46 => ?_)
            · have h := q_neg c_46 h
              refine lv_iconst (v := 0) hx hb (dAt zX6_keep_0 34 rfl) (by decide) ?_
              refine lv_istore (lv' := [(5, .int 0), (0, .ref (qS 0)), (1, .int a1), (2, .int a2), (3, .int v3_29), (4, .int v4_29)]) hx hb (dAt zX6_keep_0 35 rfl) hl (by decide) rfl (fun ls hl => ?_)
              refine lv_iload_n hx hb (dAt zX6_keep_0 36 rfl) rfl (lv_at hl 4 rfl) ?_
              refine lv_if_lt (tgt := 81) hx hb (dAt zX6_keep_0 37 rfl) (by decide) (fun c_66 => ?_) (fun c_66 => ?_)
              · have h := q_pos c_66 h
                refine lv_iconst (v := 1) hx hb (dAt zX6_keep_0 43 rfl) (by decide) ?_
                refine lv_goto (tgt := 86) hx hb (dAt zX6_keep_0 44 rfl) (by decide) ?_
                refine lv_istore (lv' := [(6, .int 1), (5, .int 0), (0, .ref (qS 0)), (1, .int a1), (2, .int a2), (3, .int v3_29), (4, .int v4_29)]) hx hb (dAt zX6_keep_0 46 rfl) hl (by decide) rfl (fun ls hl => ?_)
                refine lv_iload hx hb (dAt zX6_keep_0 47 rfl) (lv_at hl 1 rfl) ?_
                refine lv_if_eq (tgt := 116) hx hb (dAt zX6_keep_0 48 rfl) (by decide) (fun _ => ?_) (fun c => absurd (by decide) c)
                refine lv_iload_n hx hb (dAt zX6_keep_0 59 rfl) rfl (lv_at hl 5 rfl) ?_
                refine lv_istore_n (lv' := [(3, .int v3_29), (6, .int 1), (5, .int 0), (0, .ref (qS 0)), (1, .int a1), (2, .int a2), (4, .int v4_29)]) hx hb (dAt zX6_keep_0 60 rfl) rfl hl (by decide) rfl (fun ls hl => ?_)
                refine lv_iinc (v := (v4_29 + 1)) (lv' := [(4, .int (v4_29 + 1)), (3, .int v3_29), (6, .int 1), (5, .int 0), (0, .ref (qS 0)), (1, .int a1), (2, .int a2)]) hx hb (dAt zX6_keep_0 61 rfl) hl (k := 6) rfl rfl (by decide) rfl (fun ls hl => ?_)
                refine lv_goto (tgt := 29) hx hb (dAt zX6_keep_0 62 rfl) (by decide) ?_
                exact ih_29 v3_29 (v4_29 + 1) zS_29 _ _ _ h hP hD hS (lv_sub hl [4, 5, 6, 1, 0] rfl)
              · have h := q_neg c_66 h
                refine lv_iload hx hb (dAt zX6_keep_0 38 rfl) (lv_at hl 5 rfl) ?_
                obtain ⟨u71, hu71, h⟩ := q_bind h
                refine xFi (wc := ([] : va_W)) (w1 := ([] : va_W)) (wr := (w6 cI cJ cZ qS zS_29 zL)) (ws2 := (w6 cI cJ cZ qS zS_29 zL)) (va_runS (As := [.int v4_29]) (rest := []) ⟨hx, hb, hml, hown, htl⟩ (c_X6_ones l D cI cJ cZ n  H.size  v4_29 u71 hu71) (va_cwS 1 htl (gS W_165 W_166 W_5 W_167) rfl rfl rfl (by decide +kernel) ⟨Nat.le_of_ble_eq_true rfl, Nat.le_of_ble_eq_true rfl⟩) (xPS xP0 (xD0 A) hK hN) rfl rfl hl.1 rfl (lv_room (Nat.le_of_ble_eq_true rfl)) (dAt zX6_keep_0 39 rfl) ⟨Nat.zero_le _, Nat.zero_le _⟩) hS hA hP hD [] [0, 1, 2, 3, 4, 5, 6, 7, 8, 9, 10, 11, 12, 13, 14, 15, 16] [0, 1, 2, 3, 4, 5, 6, 7, 8, 9, 10, 11, 12, 13, 14, 15, 16] rfl rfl (by decide) (by decide) rfl (by decide) (fun H locs hP hD hS => ?_)
                refine lv_iload_n hx hb (dAt zX6_keep_0 40 rfl) rfl (lv_at hl 4 rfl) ?_
                obtain ⟨u75, hu75, h⟩ := q_bind h
                refine xFi (wc := ([] : va_W)) (w1 := ([] : va_W)) (wr := (w6 cI cJ cZ qS zS_29 zL)) (ws2 := (w6 cI cJ cZ qS zS_29 zL)) (va_runS (As := [.int v3_29]) (rest := [.int u71]) ⟨hx, hb, hml, hown, htl⟩ (c_X6_ones l D cI cJ cZ n  H.size  v3_29 u75 hu75) (va_cwS 1 htl (gS W_165 W_166 W_5 W_167) rfl rfl rfl (by decide +kernel) ⟨Nat.le_of_ble_eq_true rfl, Nat.le_of_ble_eq_true rfl⟩) (xPS xP0 (xD0 A) hK hN) rfl rfl hl.1 rfl (lv_room (Nat.le_of_ble_eq_true rfl)) (dAt zX6_keep_0 41 rfl) ⟨Nat.zero_le _, Nat.zero_le _⟩) hS hA hP hD [] [0, 1, 2, 3, 4, 5, 6, 7, 8, 9, 10, 11, 12, 13, 14, 15, 16] [0, 1, 2, 3, 4, 5, 6, 7, 8, 9, 10, 11, 12, 13, 14, 15, 16] rfl rfl (by decide) (by decide) rfl (by decide) (fun H locs hP hD hS => ?_)
                refine lv_icmp_ge (tgt := 85) hx hb (dAt zX6_keep_0 42 rfl) (by decide) (fun c_78 => ?_) (fun c_78 => ?_)
                · have h := q_pos c_78 h
                  refine lv_iconst (v := 0) hx hb (dAt zX6_keep_0 45 rfl) (by decide) ?_
                  refine lv_istore (lv' := [(6, .int 0), (5, .int 0), (0, .ref (qS 0)), (1, .int a1), (2, .int a2), (3, .int v3_29), (4, .int v4_29)]) hx hb (dAt zX6_keep_0 46 rfl) hl (by decide) rfl (fun ls hl => ?_)
                  refine lv_iload hx hb (dAt zX6_keep_0 47 rfl) (lv_at hl 1 rfl) ?_
                  refine lv_if_eq (tgt := 116) hx hb (dAt zX6_keep_0 48 rfl) (by decide) (fun _ => ?_) (fun c => absurd (by decide) c)
                  refine lv_iload_n hx hb (dAt zX6_keep_0 59 rfl) rfl (lv_at hl 5 rfl) ?_
                  refine lv_istore_n (lv' := [(3, .int v3_29), (6, .int 0), (5, .int 0), (0, .ref (qS 0)), (1, .int a1), (2, .int a2), (4, .int v4_29)]) hx hb (dAt zX6_keep_0 60 rfl) rfl hl (by decide) rfl (fun ls hl => ?_)
                  refine lv_iinc (v := (v4_29 + 1)) (lv' := [(4, .int (v4_29 + 1)), (3, .int v3_29), (6, .int 0), (5, .int 0), (0, .ref (qS 0)), (1, .int a1), (2, .int a2)]) hx hb (dAt zX6_keep_0 61 rfl) hl (k := 6) rfl rfl (by decide) rfl (fun ls hl => ?_)
                  refine lv_goto (tgt := 29) hx hb (dAt zX6_keep_0 62 rfl) (by decide) ?_
                  exact ih_29 v3_29 (v4_29 + 1) zS_29 _ _ _ h hP hD hS (lv_sub hl [4, 5, 6, 1, 0] rfl)
                · have h := q_neg c_78 h
                  refine lv_iconst (v := 1) hx hb (dAt zX6_keep_0 43 rfl) (by decide) ?_
                  refine lv_goto (tgt := 86) hx hb (dAt zX6_keep_0 44 rfl) (by decide) ?_
                  refine lv_istore (lv' := [(6, .int 1), (5, .int 0), (0, .ref (qS 0)), (1, .int a1), (2, .int a2), (3, .int v3_29), (4, .int v4_29)]) hx hb (dAt zX6_keep_0 46 rfl) hl (by decide) rfl (fun ls hl => ?_)
                  refine lv_iload hx hb (dAt zX6_keep_0 47 rfl) (lv_at hl 1 rfl) ?_
                  refine lv_if_eq (tgt := 116) hx hb (dAt zX6_keep_0 48 rfl) (by decide) (fun _ => ?_) (fun c => absurd (by decide) c)
                  refine lv_iload_n hx hb (dAt zX6_keep_0 59 rfl) rfl (lv_at hl 5 rfl) ?_
                  refine lv_istore_n (lv' := [(3, .int v3_29), (6, .int 1), (5, .int 0), (0, .ref (qS 0)), (1, .int a1), (2, .int a2), (4, .int v4_29)]) hx hb (dAt zX6_keep_0 60 rfl) rfl hl (by decide) rfl (fun ls hl => ?_)
                  refine lv_iinc (v := (v4_29 + 1)) (lv' := [(4, .int (v4_29 + 1)), (3, .int v3_29), (6, .int 1), (5, .int 0), (0, .ref (qS 0)), (1, .int a1), (2, .int a2)]) hx hb (dAt zX6_keep_0 61 rfl) hl (k := 6) rfl rfl (by decide) rfl (fun ls hl => ?_)
                  refine lv_goto (tgt := 29) hx hb (dAt zX6_keep_0 62 rfl) (by decide) ?_
                  exact ih_29 v3_29 (v4_29 + 1) zS_29 _ _ _ h hP hD hS (lv_sub hl [4, 5, 6, 1, 0] rfl)
            · have h := q_pos c_46 h
              refine lv_iload hx hb (dAt zX6_keep_0 28 rfl) (lv_at hl 4 rfl) ?_
              refine lv_iload_n hx hb (dAt zX6_keep_0 29 rfl) rfl (lv_at hl 1 rfl) ?_
              obtain ⟨u52, hu52, h⟩ := q_bind h
              refine xFz (wc := ([] : va_W)) (w1 := ([] : va_W)) (wr := (w6 cI cJ cZ qS zS_29 zL)) (ws2 := (w6 cI cJ cZ qS zS_29 zL)) (va_runS (As := [.int v4_29, .int a1]) (rest := []) ⟨hx, hb, hml, hown, htl⟩ (c_X6_has l D cI cJ cZ n  H.size  v4_29 a1 u52 hu52) (va_cwS 2 htl (gS W_407 W_408 W_5 W_409) rfl rfl rfl (by decide +kernel) ⟨Nat.le_of_ble_eq_true rfl, Nat.le_of_ble_eq_true rfl⟩) (xPS xP0 (xD0 A) hK hN) rfl rfl hl.1 rfl (lv_room (Nat.le_of_ble_eq_true rfl)) (dAt zX6_keep_0 30 rfl) ⟨Nat.zero_le _, Nat.zero_le _⟩) hS hA hP hD [] [0, 1, 2, 3, 4, 5, 6, 7, 8, 9, 10, 11, 12, 13, 14, 15, 16] [0, 1, 2, 3, 4, 5, 6, 7, 8, 9, 10, 11, 12, 13, 14, 15, 16] rfl rfl (by decide) (by decide) rfl (by decide) (fun H locs hz52 hP hD hS => ?_)
              refine lv_if_ne (tgt := 62) hx hb (dAt zX6_keep_0 31 rfl) (by decide) (fun c_55 => ?_) (fun c_55 => ?_)
              · have h := q_neg c_55 h
                refine lv_iconst (v := 0) hx hb (dAt zX6_keep_0 34 rfl) (by decide) ?_
                refine lv_istore (lv' := [(5, .int 0), (0, .ref (qS 0)), (1, .int a1), (2, .int a2), (3, .int v3_29), (4, .int v4_29)]) hx hb (dAt zX6_keep_0 35 rfl) hl (by decide) rfl (fun ls hl => ?_)
                refine lv_iload_n hx hb (dAt zX6_keep_0 36 rfl) rfl (lv_at hl 4 rfl) ?_
                refine lv_if_lt (tgt := 81) hx hb (dAt zX6_keep_0 37 rfl) (by decide) (fun c_66 => ?_) (fun c_66 => ?_)
                · have h := q_pos c_66 h
                  refine lv_iconst (v := 1) hx hb (dAt zX6_keep_0 43 rfl) (by decide) ?_
                  refine lv_goto (tgt := 86) hx hb (dAt zX6_keep_0 44 rfl) (by decide) ?_
                  refine lv_istore (lv' := [(6, .int 1), (5, .int 0), (0, .ref (qS 0)), (1, .int a1), (2, .int a2), (3, .int v3_29), (4, .int v4_29)]) hx hb (dAt zX6_keep_0 46 rfl) hl (by decide) rfl (fun ls hl => ?_)
                  refine lv_iload hx hb (dAt zX6_keep_0 47 rfl) (lv_at hl 1 rfl) ?_
                  refine lv_if_eq (tgt := 116) hx hb (dAt zX6_keep_0 48 rfl) (by decide) (fun _ => ?_) (fun c => absurd (by decide) c)
                  refine lv_iload_n hx hb (dAt zX6_keep_0 59 rfl) rfl (lv_at hl 5 rfl) ?_
                  refine lv_istore_n (lv' := [(3, .int v3_29), (6, .int 1), (5, .int 0), (0, .ref (qS 0)), (1, .int a1), (2, .int a2), (4, .int v4_29)]) hx hb (dAt zX6_keep_0 60 rfl) rfl hl (by decide) rfl (fun ls hl => ?_)
                  refine lv_iinc (v := (v4_29 + 1)) (lv' := [(4, .int (v4_29 + 1)), (3, .int v3_29), (6, .int 1), (5, .int 0), (0, .ref (qS 0)), (1, .int a1), (2, .int a2)]) hx hb (dAt zX6_keep_0 61 rfl) hl (k := 6) rfl rfl (by decide) rfl (fun ls hl => ?_)
                  refine lv_goto (tgt := 29) hx hb (dAt zX6_keep_0 62 rfl) (by decide) ?_
                  exact ih_29 v3_29 (v4_29 + 1) zS_29 _ _ _ h hP hD hS (lv_sub hl [4, 5, 6, 1, 0] rfl)
                · have h := q_neg c_66 h
                  refine lv_iload hx hb (dAt zX6_keep_0 38 rfl) (lv_at hl 5 rfl) ?_
                  obtain ⟨u71, hu71, h⟩ := q_bind h
                  refine xFi (wc := ([] : va_W)) (w1 := ([] : va_W)) (wr := (w6 cI cJ cZ qS zS_29 zL)) (ws2 := (w6 cI cJ cZ qS zS_29 zL)) (va_runS (As := [.int v4_29]) (rest := []) ⟨hx, hb, hml, hown, htl⟩ (c_X6_ones l D cI cJ cZ n  H.size  v4_29 u71 hu71) (va_cwS 1 htl (gS W_165 W_166 W_5 W_167) rfl rfl rfl (by decide +kernel) ⟨Nat.le_of_ble_eq_true rfl, Nat.le_of_ble_eq_true rfl⟩) (xPS xP0 (xD0 A) hK hN) rfl rfl hl.1 rfl (lv_room (Nat.le_of_ble_eq_true rfl)) (dAt zX6_keep_0 39 rfl) ⟨Nat.zero_le _, Nat.zero_le _⟩) hS hA hP hD [] [0, 1, 2, 3, 4, 5, 6, 7, 8, 9, 10, 11, 12, 13, 14, 15, 16] [0, 1, 2, 3, 4, 5, 6, 7, 8, 9, 10, 11, 12, 13, 14, 15, 16] rfl rfl (by decide) (by decide) rfl (by decide) (fun H locs hP hD hS => ?_)
                  refine lv_iload_n hx hb (dAt zX6_keep_0 40 rfl) rfl (lv_at hl 4 rfl) ?_
                  obtain ⟨u75, hu75, h⟩ := q_bind h
                  refine xFi (wc := ([] : va_W)) (w1 := ([] : va_W)) (wr := (w6 cI cJ cZ qS zS_29 zL)) (ws2 := (w6 cI cJ cZ qS zS_29 zL)) (va_runS (As := [.int v3_29]) (rest := [.int u71]) ⟨hx, hb, hml, hown, htl⟩ (c_X6_ones l D cI cJ cZ n  H.size  v3_29 u75 hu75) (va_cwS 1 htl (gS W_165 W_166 W_5 W_167) rfl rfl rfl (by decide +kernel) ⟨Nat.le_of_ble_eq_true rfl, Nat.le_of_ble_eq_true rfl⟩) (xPS xP0 (xD0 A) hK hN) rfl rfl hl.1 rfl (lv_room (Nat.le_of_ble_eq_true rfl)) (dAt zX6_keep_0 41 rfl) ⟨Nat.zero_le _, Nat.zero_le _⟩) hS hA hP hD [] [0, 1, 2, 3, 4, 5, 6, 7, 8, 9, 10, 11, 12, 13, 14, 15, 16] [0, 1, 2, 3, 4, 5, 6, 7, 8, 9, 10, 11, 12, 13, 14, 15, 16] rfl rfl (by decide) (by decide) rfl (by decide) (fun H locs hP hD hS => ?_)
                  refine lv_icmp_ge (tgt := 85) hx hb (dAt zX6_keep_0 42 rfl) (by decide) (fun c_78 => ?_) (fun c_78 => ?_)
                  · have h := q_pos c_78 h
                    refine lv_iconst (v := 0) hx hb (dAt zX6_keep_0 45 rfl) (by decide) ?_
                    refine lv_istore (lv' := [(6, .int 0), (5, .int 0), (0, .ref (qS 0)), (1, .int a1), (2, .int a2), (3, .int v3_29), (4, .int v4_29)]) hx hb (dAt zX6_keep_0 46 rfl) hl (by decide) rfl (fun ls hl => ?_)
                    refine lv_iload hx hb (dAt zX6_keep_0 47 rfl) (lv_at hl 1 rfl) ?_
                    refine lv_if_eq (tgt := 116) hx hb (dAt zX6_keep_0 48 rfl) (by decide) (fun _ => ?_) (fun c => absurd (by decide) c)
                    refine lv_iload_n hx hb (dAt zX6_keep_0 59 rfl) rfl (lv_at hl 5 rfl) ?_
                    refine lv_istore_n (lv' := [(3, .int v3_29), (6, .int 0), (5, .int 0), (0, .ref (qS 0)), (1, .int a1), (2, .int a2), (4, .int v4_29)]) hx hb (dAt zX6_keep_0 60 rfl) rfl hl (by decide) rfl (fun ls hl => ?_)
                    refine lv_iinc (v := (v4_29 + 1)) (lv' := [(4, .int (v4_29 + 1)), (3, .int v3_29), (6, .int 0), (5, .int 0), (0, .ref (qS 0)), (1, .int a1), (2, .int a2)]) hx hb (dAt zX6_keep_0 61 rfl) hl (k := 6) rfl rfl (by decide) rfl (fun ls hl => ?_)
                    refine lv_goto (tgt := 29) hx hb (dAt zX6_keep_0 62 rfl) (by decide) ?_
                    exact ih_29 v3_29 (v4_29 + 1) zS_29 _ _ _ h hP hD hS (lv_sub hl [4, 5, 6, 1, 0] rfl)
                  · have h := q_neg c_78 h
                    refine lv_iconst (v := 1) hx hb (dAt zX6_keep_0 43 rfl) (by decide) ?_
                    refine lv_goto (tgt := 86) hx hb (dAt zX6_keep_0 44 rfl) (by decide) ?_
                    refine lv_istore (lv' := [(6, .int 1), (5, .int 0), (0, .ref (qS 0)), (1, .int a1), (2, .int a2), (3, .int v3_29), (4, .int v4_29)]) hx hb (dAt zX6_keep_0 46 rfl) hl (by decide) rfl (fun ls hl => ?_)
                    refine lv_iload hx hb (dAt zX6_keep_0 47 rfl) (lv_at hl 1 rfl) ?_
                    refine lv_if_eq (tgt := 116) hx hb (dAt zX6_keep_0 48 rfl) (by decide) (fun _ => ?_) (fun c => absurd (by decide) c)
                    refine lv_iload_n hx hb (dAt zX6_keep_0 59 rfl) rfl (lv_at hl 5 rfl) ?_
                    refine lv_istore_n (lv' := [(3, .int v3_29), (6, .int 1), (5, .int 0), (0, .ref (qS 0)), (1, .int a1), (2, .int a2), (4, .int v4_29)]) hx hb (dAt zX6_keep_0 60 rfl) rfl hl (by decide) rfl (fun ls hl => ?_)
                    refine lv_iinc (v := (v4_29 + 1)) (lv' := [(4, .int (v4_29 + 1)), (3, .int v3_29), (6, .int 1), (5, .int 0), (0, .ref (qS 0)), (1, .int a1), (2, .int a2)]) hx hb (dAt zX6_keep_0 61 rfl) hl (k := 6) rfl rfl (by decide) rfl (fun ls hl => ?_)
                    refine lv_goto (tgt := 29) hx hb (dAt zX6_keep_0 62 rfl) (by decide) ?_
                    exact ih_29 v3_29 (v4_29 + 1) zS_29 _ _ _ h hP hD hS (lv_sub hl [4, 5, 6, 1, 0] rfl)
              · have h := q_pos c_55 h
                refine lv_iconst (v := 1) hx hb (dAt zX6_keep_0 32 rfl) (by decide) ?_
                refine lv_goto (tgt := 63) hx hb (dAt zX6_keep_0 33 rfl) (by decide) ?_
                refine lv_istore (lv' := [(5, .int 1), (0, .ref (qS 0)), (1, .int a1), (2, .int a2), (3, .int v3_29), (4, .int v4_29)]) hx hb (dAt zX6_keep_0 35 rfl) hl (by decide) rfl (fun ls hl => ?_)
                refine lv_iload_n hx hb (dAt zX6_keep_0 36 rfl) rfl (lv_at hl 4 rfl) ?_
                refine lv_if_lt (tgt := 81) hx hb (dAt zX6_keep_0 37 rfl) (by decide) (fun c_66 => ?_) (fun c_66 => ?_)
                · have h := q_pos c_66 h
                  refine lv_iconst (v := 1) hx hb (dAt zX6_keep_0 43 rfl) (by decide) ?_
                  refine lv_goto (tgt := 86) hx hb (dAt zX6_keep_0 44 rfl) (by decide) ?_
                  refine lv_istore (lv' := [(6, .int 1), (5, .int 1), (0, .ref (qS 0)), (1, .int a1), (2, .int a2), (3, .int v3_29), (4, .int v4_29)]) hx hb (dAt zX6_keep_0 46 rfl) hl (by decide) rfl (fun ls hl => ?_)
                  refine lv_iload hx hb (dAt zX6_keep_0 47 rfl) (lv_at hl 1 rfl) ?_
                  refine lv_if_eq (tgt := 116) hx hb (dAt zX6_keep_0 48 rfl) (by decide) (fun c => absurd c (by decide)) (fun _ => ?_)
                  refine lv_iload hx hb (dAt zX6_keep_0 49 rfl) (lv_at hl 0 rfl) ?_
                  refine lv_if_eq (tgt := 116) hx hb (dAt zX6_keep_0 50 rfl) (by decide) (fun c => absurd c (by decide)) (fun _ => ?_)
                  refine lv_aload_n hx hb (dAt zX6_keep_0 51 rfl) rfl (lv_at hl 2 rfl) ?_
                  refine lv_iload hx hb (dAt zX6_keep_0 52 rfl) (lv_at hl 6 rfl) ?_
                  obtain ⟨u101, hu101, h⟩ := q_bind h
                  refine xFi (wc := (w6 cI cJ cZ qS zS_29 zL)) (w1 := (w6 cI cJ cZ qS u101.2 zL)) (wr := ([] : va_W)) (ws2 := (w6 cI cJ cZ qS u101.2 zL)) (va_runV (As := [.int v4_29]) (rest := []) ⟨hx, hb, hml, hown, htl⟩ (c_X6_staysBy l D cI cJ cZ n qS H.size zS_29 zL v4_29 u101 hu101) (cwV 1 htl (gV W_552 W_553 W_554 W_5 W_555) rfl rfl rfl (by decide +kernel) ⟨Nat.le_of_ble_eq_true rfl, Nat.le_of_ble_eq_true rfl⟩) (xPV hP hD hK hN 0 rfl rfl) rfl rfl hl.1 rfl (lv_room (Nat.le_of_ble_eq_true rfl)) (dAt zX6_keep_0 53 rfl) ⟨Nat.zero_le _, Nat.zero_le _⟩) hS hA hP hD [0, 1, 2, 3, 4, 5, 6, 7, 8, 9, 10, 11, 12, 13, 14, 15, 16] [] [0, 1, 2, 3, 4, 5, 6, 7, 8, 9, 10, 11, 12, 13, 14, 15, 16] rfl rfl (by decide) (by decide) rfl (by decide) (fun H locs hP hD hS => ?_)
                  refine lv_iload_n hx hb (dAt zX6_keep_0 54 rfl) rfl (lv_at hl 3 rfl) ?_
                  obtain ⟨u105, hu105, h⟩ := q_bind h
                  refine xFz (wc := ([] : va_W)) (w1 := ([] : va_W)) (wr := (w6 cI cJ cZ qS u101.2 zL)) (ws2 := (w6 cI cJ cZ qS u101.2 zL)) (va_runS (As := [.int u101.1, .int a1]) (rest := []) ⟨hx, hb, hml, hown, htl⟩ (c_X6_has l D cI cJ cZ n  H.size  u101.1 a1 u105 hu105) (va_cwS 2 htl (gS W_407 W_408 W_5 W_409) rfl rfl rfl (by decide +kernel) ⟨Nat.le_of_ble_eq_true rfl, Nat.le_of_ble_eq_true rfl⟩) (xPS xP0 (xD0 A) hK hN) rfl rfl hl.1 rfl (lv_room (Nat.le_of_ble_eq_true rfl)) (dAt zX6_keep_0 55 rfl) ⟨Nat.zero_le _, Nat.zero_le _⟩) hS hA hP hD [] [0, 1, 2, 3, 4, 5, 6, 7, 8, 9, 10, 11, 12, 13, 14, 15, 16] [0, 1, 2, 3, 4, 5, 6, 7, 8, 9, 10, 11, 12, 13, 14, 15, 16] rfl rfl (by decide) (by decide) rfl (by decide) (fun H locs hz105 hP hD hS => ?_)
                  refine lv_if_eq (tgt := 116) hx hb (dAt zX6_keep_0 56 rfl) (by decide) (fun c_108 => ?_) (fun c_108 => ?_)
                  · have h := q_pos c_108 h
                    refine lv_iload_n hx hb (dAt zX6_keep_0 59 rfl) rfl (lv_at hl 5 rfl) ?_
                    refine lv_istore_n (lv' := [(3, .int v3_29), (6, .int 1), (5, .int 1), (0, .ref (qS 0)), (1, .int a1), (2, .int a2), (4, .int v4_29)]) hx hb (dAt zX6_keep_0 60 rfl) rfl hl (by decide) rfl (fun ls hl => ?_)
                    refine lv_iinc (v := (v4_29 + 1)) (lv' := [(4, .int (v4_29 + 1)), (3, .int v3_29), (6, .int 1), (5, .int 1), (0, .ref (qS 0)), (1, .int a1), (2, .int a2)]) hx hb (dAt zX6_keep_0 61 rfl) hl (k := 6) rfl rfl (by decide) rfl (fun ls hl => ?_)
                    refine lv_goto (tgt := 29) hx hb (dAt zX6_keep_0 62 rfl) (by decide) ?_
                    exact ih_29 v3_29 (v4_29 + 1) u101.2 _ _ _ h hP hD hS (lv_sub hl [4, 5, 6, 1, 0] rfl)
                  · have h := q_neg c_108 h
                    refine lv_iload hx hb (dAt zX6_keep_0 57 rfl) (lv_at hl 6 rfl) ?_
                    refine lv_goto (tgt := 117) hx hb (dAt zX6_keep_0 58 rfl) (by decide) ?_
                    refine lv_istore_n (lv' := [(3, .int v4_29), (6, .int 1), (5, .int 1), (0, .ref (qS 0)), (1, .int a1), (2, .int a2), (4, .int v4_29)]) hx hb (dAt zX6_keep_0 60 rfl) rfl hl (by decide) rfl (fun ls hl => ?_)
                    refine lv_iinc (v := (v4_29 + 1)) (lv' := [(4, .int (v4_29 + 1)), (3, .int v4_29), (6, .int 1), (5, .int 1), (0, .ref (qS 0)), (1, .int a1), (2, .int a2)]) hx hb (dAt zX6_keep_0 61 rfl) hl (k := 6) rfl rfl (by decide) rfl (fun ls hl => ?_)
                    refine lv_goto (tgt := 29) hx hb (dAt zX6_keep_0 62 rfl) (by decide) ?_
                    exact ih_29 v4_29 (v4_29 + 1) u101.2 _ _ _ h hP hD hS (lv_sub hl [4, 5, 6, 1, 0] rfl)
                · have h := q_neg c_66 h
                  refine lv_iload hx hb (dAt zX6_keep_0 38 rfl) (lv_at hl 5 rfl) ?_
                  obtain ⟨u71, hu71, h⟩ := q_bind h
                  refine xFi (wc := ([] : va_W)) (w1 := ([] : va_W)) (wr := (w6 cI cJ cZ qS zS_29 zL)) (ws2 := (w6 cI cJ cZ qS zS_29 zL)) (va_runS (As := [.int v4_29]) (rest := []) ⟨hx, hb, hml, hown, htl⟩ (c_X6_ones l D cI cJ cZ n  H.size  v4_29 u71 hu71) (va_cwS 1 htl (gS W_165 W_166 W_5 W_167) rfl rfl rfl (by decide +kernel) ⟨Nat.le_of_ble_eq_true rfl, Nat.le_of_ble_eq_true rfl⟩) (xPS xP0 (xD0 A) hK hN) rfl rfl hl.1 rfl (lv_room (Nat.le_of_ble_eq_true rfl)) (dAt zX6_keep_0 39 rfl) ⟨Nat.zero_le _, Nat.zero_le _⟩) hS hA hP hD [] [0, 1, 2, 3, 4, 5, 6, 7, 8, 9, 10, 11, 12, 13, 14, 15, 16] [0, 1, 2, 3, 4, 5, 6, 7, 8, 9, 10, 11, 12, 13, 14, 15, 16] rfl rfl (by decide) (by decide) rfl (by decide) (fun H locs hP hD hS => ?_)
                  refine lv_iload_n hx hb (dAt zX6_keep_0 40 rfl) rfl (lv_at hl 4 rfl) ?_
                  obtain ⟨u75, hu75, h⟩ := q_bind h
                  refine xFi (wc := ([] : va_W)) (w1 := ([] : va_W)) (wr := (w6 cI cJ cZ qS zS_29 zL)) (ws2 := (w6 cI cJ cZ qS zS_29 zL)) (va_runS (As := [.int v3_29]) (rest := [.int u71]) ⟨hx, hb, hml, hown, htl⟩ (c_X6_ones l D cI cJ cZ n  H.size  v3_29 u75 hu75) (va_cwS 1 htl (gS W_165 W_166 W_5 W_167) rfl rfl rfl (by decide +kernel) ⟨Nat.le_of_ble_eq_true rfl, Nat.le_of_ble_eq_true rfl⟩) (xPS xP0 (xD0 A) hK hN) rfl rfl hl.1 rfl (lv_room (Nat.le_of_ble_eq_true rfl)) (dAt zX6_keep_0 41 rfl) ⟨Nat.zero_le _, Nat.zero_le _⟩) hS hA hP hD [] [0, 1, 2, 3, 4, 5, 6, 7, 8, 9, 10, 11, 12, 13, 14, 15, 16] [0, 1, 2, 3, 4, 5, 6, 7, 8, 9, 10, 11, 12, 13, 14, 15, 16] rfl rfl (by decide) (by decide) rfl (by decide) (fun H locs hP hD hS => ?_)
                  refine lv_icmp_ge (tgt := 85) hx hb (dAt zX6_keep_0 42 rfl) (by decide) (fun c_78 => ?_) (fun c_78 => ?_)
                  · have h := q_pos c_78 h
                    refine lv_iconst (v := 0) hx hb (dAt zX6_keep_0 45 rfl) (by decide) ?_
                    refine lv_istore (lv' := [(6, .int 0), (5, .int 1), (0, .ref (qS 0)), (1, .int a1), (2, .int a2), (3, .int v3_29), (4, .int v4_29)]) hx hb (dAt zX6_keep_0 46 rfl) hl (by decide) rfl (fun ls hl => ?_)
                    refine lv_iload hx hb (dAt zX6_keep_0 47 rfl) (lv_at hl 1 rfl) ?_
                    refine lv_if_eq (tgt := 116) hx hb (dAt zX6_keep_0 48 rfl) (by decide) (fun c => absurd c (by decide)) (fun _ => ?_)
                    refine lv_iload hx hb (dAt zX6_keep_0 49 rfl) (lv_at hl 0 rfl) ?_
                    refine lv_if_eq (tgt := 116) hx hb (dAt zX6_keep_0 50 rfl) (by decide) (fun _ => ?_) (fun c => absurd (by decide) c)
                    refine lv_iload_n hx hb (dAt zX6_keep_0 59 rfl) rfl (lv_at hl 5 rfl) ?_
                    refine lv_istore_n (lv' := [(3, .int v3_29), (6, .int 0), (5, .int 1), (0, .ref (qS 0)), (1, .int a1), (2, .int a2), (4, .int v4_29)]) hx hb (dAt zX6_keep_0 60 rfl) rfl hl (by decide) rfl (fun ls hl => ?_)
                    refine lv_iinc (v := (v4_29 + 1)) (lv' := [(4, .int (v4_29 + 1)), (3, .int v3_29), (6, .int 0), (5, .int 1), (0, .ref (qS 0)), (1, .int a1), (2, .int a2)]) hx hb (dAt zX6_keep_0 61 rfl) hl (k := 6) rfl rfl (by decide) rfl (fun ls hl => ?_)
                    refine lv_goto (tgt := 29) hx hb (dAt zX6_keep_0 62 rfl) (by decide) ?_
                    exact ih_29 v3_29 (v4_29 + 1) zS_29 _ _ _ h hP hD hS (lv_sub hl [4, 5, 6, 1, 0] rfl)
                  · have h := q_neg c_78 h
                    refine lv_iconst (v := 1) hx hb (dAt zX6_keep_0 43 rfl) (by decide) ?_
                    refine lv_goto (tgt := 86) hx hb (dAt zX6_keep_0 44 rfl) (by decide) ?_
                    refine lv_istore (lv' := [(6, .int 1), (5, .int 1), (0, .ref (qS 0)), (1, .int a1), (2, .int a2), (3, .int v3_29), (4, .int v4_29)]) hx hb (dAt zX6_keep_0 46 rfl) hl (by decide) rfl (fun ls hl => ?_)
                    refine lv_iload hx hb (dAt zX6_keep_0 47 rfl) (lv_at hl 1 rfl) ?_
                    refine lv_if_eq (tgt := 116) hx hb (dAt zX6_keep_0 48 rfl) (by decide) (fun c => absurd c (by decide)) (fun _ => ?_)
                    refine lv_iload hx hb (dAt zX6_keep_0 49 rfl) (lv_at hl 0 rfl) ?_
                    refine lv_if_eq (tgt := 116) hx hb (dAt zX6_keep_0 50 rfl) (by decide) (fun c => absurd c (by decide)) (fun _ => ?_)
                    refine lv_aload_n hx hb (dAt zX6_keep_0 51 rfl) rfl (lv_at hl 2 rfl) ?_
                    refine lv_iload hx hb (dAt zX6_keep_0 52 rfl) (lv_at hl 6 rfl) ?_
                    obtain ⟨u101, hu101, h⟩ := q_bind h
                    refine xFi (wc := (w6 cI cJ cZ qS zS_29 zL)) (w1 := (w6 cI cJ cZ qS u101.2 zL)) (wr := ([] : va_W)) (ws2 := (w6 cI cJ cZ qS u101.2 zL)) (va_runV (As := [.int v4_29]) (rest := []) ⟨hx, hb, hml, hown, htl⟩ (c_X6_staysBy l D cI cJ cZ n qS H.size zS_29 zL v4_29 u101 hu101) (cwV 1 htl (gV W_552 W_553 W_554 W_5 W_555) rfl rfl rfl (by decide +kernel) ⟨Nat.le_of_ble_eq_true rfl, Nat.le_of_ble_eq_true rfl⟩) (xPV hP hD hK hN 0 rfl rfl) rfl rfl hl.1 rfl (lv_room (Nat.le_of_ble_eq_true rfl)) (dAt zX6_keep_0 53 rfl) ⟨Nat.zero_le _, Nat.zero_le _⟩) hS hA hP hD [0, 1, 2, 3, 4, 5, 6, 7, 8, 9, 10, 11, 12, 13, 14, 15, 16] [] [0, 1, 2, 3, 4, 5, 6, 7, 8, 9, 10, 11, 12, 13, 14, 15, 16] rfl rfl (by decide) (by decide) rfl (by decide) (fun H locs hP hD hS => ?_)
                    refine lv_iload_n hx hb (dAt zX6_keep_0 54 rfl) rfl (lv_at hl 3 rfl) ?_
                    obtain ⟨u105, hu105, h⟩ := q_bind h
                    refine xFz (wc := ([] : va_W)) (w1 := ([] : va_W)) (wr := (w6 cI cJ cZ qS u101.2 zL)) (ws2 := (w6 cI cJ cZ qS u101.2 zL)) (va_runS (As := [.int u101.1, .int a1]) (rest := []) ⟨hx, hb, hml, hown, htl⟩ (c_X6_has l D cI cJ cZ n  H.size  u101.1 a1 u105 hu105) (va_cwS 2 htl (gS W_407 W_408 W_5 W_409) rfl rfl rfl (by decide +kernel) ⟨Nat.le_of_ble_eq_true rfl, Nat.le_of_ble_eq_true rfl⟩) (xPS xP0 (xD0 A) hK hN) rfl rfl hl.1 rfl (lv_room (Nat.le_of_ble_eq_true rfl)) (dAt zX6_keep_0 55 rfl) ⟨Nat.zero_le _, Nat.zero_le _⟩) hS hA hP hD [] [0, 1, 2, 3, 4, 5, 6, 7, 8, 9, 10, 11, 12, 13, 14, 15, 16] [0, 1, 2, 3, 4, 5, 6, 7, 8, 9, 10, 11, 12, 13, 14, 15, 16] rfl rfl (by decide) (by decide) rfl (by decide) (fun H locs hz105 hP hD hS => ?_)
                    refine lv_if_eq (tgt := 116) hx hb (dAt zX6_keep_0 56 rfl) (by decide) (fun c_108 => ?_) (fun c_108 => ?_)
                    · have h := q_pos c_108 h
                      refine lv_iload_n hx hb (dAt zX6_keep_0 59 rfl) rfl (lv_at hl 5 rfl) ?_
                      refine lv_istore_n (lv' := [(3, .int v3_29), (6, .int 1), (5, .int 1), (0, .ref (qS 0)), (1, .int a1), (2, .int a2), (4, .int v4_29)]) hx hb (dAt zX6_keep_0 60 rfl) rfl hl (by decide) rfl (fun ls hl => ?_)
                      refine lv_iinc (v := (v4_29 + 1)) (lv' := [(4, .int (v4_29 + 1)), (3, .int v3_29), (6, .int 1), (5, .int 1), (0, .ref (qS 0)), (1, .int a1), (2, .int a2)]) hx hb (dAt zX6_keep_0 61 rfl) hl (k := 6) rfl rfl (by decide) rfl (fun ls hl => ?_)
                      refine lv_goto (tgt := 29) hx hb (dAt zX6_keep_0 62 rfl) (by decide) ?_
                      exact ih_29 v3_29 (v4_29 + 1) u101.2 _ _ _ h hP hD hS (lv_sub hl [4, 5, 6, 1, 0] rfl)
                    · have h := q_neg c_108 h
                      refine lv_iload hx hb (dAt zX6_keep_0 57 rfl) (lv_at hl 6 rfl) ?_
                      refine lv_goto (tgt := 117) hx hb (dAt zX6_keep_0 58 rfl) (by decide) ?_
                      refine lv_istore_n (lv' := [(3, .int v4_29), (6, .int 1), (5, .int 1), (0, .ref (qS 0)), (1, .int a1), (2, .int a2), (4, .int v4_29)]) hx hb (dAt zX6_keep_0 60 rfl) rfl hl (by decide) rfl (fun ls hl => ?_)
                      refine lv_iinc (v := (v4_29 + 1)) (lv' := [(4, .int (v4_29 + 1)), (3, .int v4_29), (6, .int 1), (5, .int 1), (0, .ref (qS 0)), (1, .int a1), (2, .int a2)]) hx hb (dAt zX6_keep_0 61 rfl) hl (k := 6) rfl rfl (by decide) rfl (fun ls hl => ?_)
                      refine lv_goto (tgt := 29) hx hb (dAt zX6_keep_0 62 rfl) (by decide) ?_
                      exact ih_29 v4_29 (v4_29 + 1) u101.2 _ _ _ h hP hD hS (lv_sub hl [4, 5, 6, 1, 0] rfl)
      exact L_29 n (-6) 0 zS _ _ _ h hP hD hS (lv_sub hl [2, 3, 4, 1, 0] rfl)
    · have h := q_pos c_17 h
      refine lv_bipush (v := (-2)) hx hb (dAt zX6_keep_0 12 rfl) (by decide) ?_
      obtain rfl := q_some h
      exact xRi hx hb hr hlocks hQ hAe hP hD hK hS rfl (dAt zX6_keep_0 13 rfl)
  · have h := q_pos c_5 h
    refine lv_iconst (v := (-1)) hx hb (dAt zX6_keep_0 4 rfl) (by decide) ?_
    obtain rfl := q_some h
    exact xRi hx hb hr hlocks hQ hAe hP hD hK hS rfl (dAt zX6_keep_0 5 rfl)
def b_X6_loose_66 (n : Nat) (zS : TI) (zL : TL) (a1 : Int32) (a2 : Int32) (u29 : Int32) (u36 : Int32) (s_66 : Int32 × Int32) (k_66 : Int32 × Int32 → Option Int32) : Option Int32 := (if 10 ≤ s_66.2 then (if a2 = 1 then some s_66.1 else ((m_X6_ones n  s_66.1).bind fun u148 => some u148)) else ((m_X6_has n  (zS 0 0) s_66.2).bind fun u79 => (if u79 = 0 then (k_66 ((s_66.1 ||| (0 : Int32)), (s_66.2 + 1))) else ((m_X6_counts n zS zL a1 s_66.2).bind fun u89 => (if u89 = 0 then (k_66 ((s_66.1 ||| (0 : Int32)), (s_66.2 + 1))) else ((m_X6_ones n  s_66.1).bind fun u97 => (if (((u29 + u36) - ((zS 6) 0)) + (1 : Int32)) ≤ u97 then (k_66 ((s_66.1 ||| (0 : Int32)), (s_66.2 + 1))) else (k_66 ((s_66.1 ||| ((1 : Int32) <<< (s_66.2 &&& 31))), (s_66.2 + 1))))))))))
def m_X6_loose (n : Nat) (zS : TI) (zL : TL) (a1 : Int32) (a2 : Int32) : Option Int32 := ((m_X6_isHere n zS zL a1).bind fun u2 => (if u2 = 0 then some (-1) else ((m_X6_in n  (Int32.toInt64 a2) 0 1).bind fun u14 => (if u14 = 0 then some (-2) else ((m_X6_tiesThatCount n zS zL (zS 0 0) a1).bind fun u29 => ((m_X6_dogOf n zS zL a1).bind fun u36 => (if (((u29 + u36) - ((zS 6) 0)) + (1 : Int32)) ≤ u29 then (loopF (b_X6_loose_66 n zS zL a1 a2 u29 u36 ) n (0, 0)) else some (-6))))))))
set_option maxHeartbeats 4000000 in
set_option maxRecDepth 100000 in
theorem c_X6_loose (l : Launch) (D : va_G) (cI cJ cZ : ClassId) (n : Nat) (qS : Nat → Nat) (sz : Nat) (zS : TI) (zL : TL) (a1 : Int32) (a2 : Int32) (out : Int32) (hm : m_X6_loose n zS zL a1 a2 = some out) : Met l yX6_loose (wsM yX6_loose cX6_loose 8 (some .int)) { frames := 3, cells := 0, slots := 0, locals := 66 } (xPre D (kT cI cJ cZ) (w6 cI cJ cZ qS zS zL) sz [.ref (qS 0), .int a1, .int a2]) (xQi D (kT cI cJ cZ) (w6 cI cJ cZ qS zS zL) (w6 cI cJ cZ qS zS zL) sz out) 0 0 (va_A (w6 cI cJ cZ qS zS zL) sz) := by
  refine Met.ofW (cc := cX6_loose) (maxL := 8) (ret := (some .int)) (by decide) rfl ?_
  intro p e s m args below meth c s₁ B hml hv
  obtain ⟨hv, hsz, hP, hK, hD0, hN⟩ := hv
  have hx := B.exec; have hb := B.bytes; have hr := B.returns
  have hts := atoms_spec (ws := (wsM yX6_loose cX6_loose 8 (some .int))) B.pre
  have hown : s.vm.findClass RX6 = some m.cls := findClass_of_methodNamed B.named
  have hlocks := B.notSynchronized
  subst hsz
  have hD := hD0.self (sz := s.heap.size)
  obtain ⟨A, hAe⟩ : ∃ A, A = va_A (w6 cI cJ cZ qS zS zL) s.heap.size := ⟨_, rfl⟩
  rw [← hAe] at hD
  have hA : ∀ q : Nat, s.heap.size ≤ q → A q := fun q h => by rw [hAe]; exact Or.inr h
  have htl : ∀ w ∈ wsL_law, w.before args s = true := fun w h => hts w (List.mem_cons_of_mem _ h)
  refine xHead (R' := { frames := 3, cells := 0, slots := 0, locals := 66 }) rfl (fun Q H hQ hH => ?_)
  have hP : va_P D vwCl (w6 cI cJ cZ qS zS zL) H := by rw [hH]; exact hP
  have hS : va_S A s.heap H [] := by rw [hH]; exact va_S.rf
  refine xStart hv (Nat.le_of_ble_eq_true rfl) (lv := [(0, .ref (qS 0)), (1, .int a1), (2, .int a2)]) rfl (fun ls hl => ?_)
  have h := hm
  unfold m_X6_loose at h
  refine lv_aload_n hx hb (dAt zX6_loose_0 0 rfl) rfl (lv_at hl 0 rfl) ?_
  refine lv_iload_n hx hb (dAt zX6_loose_0 1 rfl) rfl (lv_at hl 1 rfl) ?_
  obtain ⟨u2, hu2, h⟩ := q_bind h
  refine xFz (wc := (w6 cI cJ cZ qS zS zL)) (w1 := (w6 cI cJ cZ qS zS zL)) (wr := ([] : va_W)) (ws2 := (w6 cI cJ cZ qS zS zL)) (va_runV (As := [.int a1]) (rest := []) ⟨hx, hb, hml, hown, htl⟩ (c_X6_isHere l D cI cJ cZ n qS H.size zS zL a1 u2 hu2) (cwV 1 htl (gV W_570 W_571 W_572 W_5 W_573) rfl rfl rfl (by decide +kernel) ⟨Nat.le_of_ble_eq_true rfl, Nat.le_of_ble_eq_true rfl⟩) (xPV hP hD hK hN 0 rfl rfl) rfl rfl hl.1 rfl (lv_room (Nat.le_of_ble_eq_true rfl)) (dAt zX6_loose_0 2 rfl) ⟨Nat.zero_le _, Nat.zero_le _⟩) hS hA hP hD [0, 1, 2, 3, 4, 5, 6, 7, 8, 9, 10, 11, 12, 13, 14, 15, 16] [] [0, 1, 2, 3, 4, 5, 6, 7, 8, 9, 10, 11, 12, 13, 14, 15, 16] rfl rfl (by decide) (by decide) rfl (by decide) (fun H locs hz2 hP hD hS => ?_)
  refine lv_if_ne (tgt := 10) hx hb (dAt zX6_loose_0 3 rfl) (by decide) (fun c_5 => ?_) (fun c_5 => ?_)
  · have h := q_neg c_5 h
    refine lv_iload_n hx hb (dAt zX6_loose_0 6 rfl) rfl (lv_at hl 2 rfl) ?_
    refine lv_i2l (v := (Int32.toInt64 a2)) hx hb (dAt zX6_loose_0 7 rfl) rfl ?_
    refine lv_lconst (v := 0) hx hb (dAt zX6_loose_0 8 rfl) (by decide) ?_
    refine lv_lconst (v := 1) hx hb (dAt zX6_loose_0 9 rfl) (by decide) ?_
    obtain ⟨u14, hu14, h⟩ := q_bind h
    refine xFz (wc := ([] : va_W)) (w1 := ([] : va_W)) (wr := (w6 cI cJ cZ qS zS zL)) (ws2 := (w6 cI cJ cZ qS zS zL)) (va_runS (As := [.long (Int32.toInt64 a2), .long 0, .long 1]) (rest := []) ⟨hx, hb, hml, hown, htl⟩ (c_X6_in l D cI cJ cZ n  H.size  (Int32.toInt64 a2) 0 1 u14 hu14) (va_cwS 3 htl (gS W_130 W_131 W_5 W_132) rfl rfl rfl (by decide +kernel) ⟨Nat.le_of_ble_eq_true rfl, Nat.le_of_ble_eq_true rfl⟩) (xPS xP0 (xD0 A) hK hN) rfl rfl hl.1 rfl (lv_room (Nat.le_of_ble_eq_true rfl)) (dAt zX6_loose_0 10 rfl) ⟨Nat.zero_le _, Nat.zero_le _⟩) hS hA hP hD [] [0, 1, 2, 3, 4, 5, 6, 7, 8, 9, 10, 11, 12, 13, 14, 15, 16] [0, 1, 2, 3, 4, 5, 6, 7, 8, 9, 10, 11, 12, 13, 14, 15, 16] rfl rfl (by decide) (by decide) rfl (by decide) (fun H locs hz14 hP hD hS => ?_)
    refine lv_if_ne (tgt := 23) hx hb (dAt zX6_loose_0 11 rfl) (by decide) (fun c_17 => ?_) (fun c_17 => ?_)
    · have h := q_neg c_17 h
      refine lv_aload_n hx hb (dAt zX6_loose_0 14 rfl) rfl (lv_at hl 0 rfl) ?_
      refine lv_aload_n hx hb (dAt zX6_loose_0 15 rfl) rfl (lv_at hl 0 rfl) ?_
      refine va_get (D := D) (ci := 6) (v := .int (zS 0 0)) (C := RX6) (T := TX6) (N := 32) hx hb htl inlX6 hown hK hP 0 rfl rfl 0 (by decide) (htl _ W_102) (fun _ h9 => h9) rfl (dAt zX6_loose_0 16 rfl) ?_
      refine lv_iload_n hx hb (dAt zX6_loose_0 17 rfl) rfl (lv_at hl 1 rfl) ?_
      obtain ⟨u29, hu29, h⟩ := q_bind h
      refine xFi (wc := (w6 cI cJ cZ qS zS zL)) (w1 := (w6 cI cJ cZ qS zS zL)) (wr := ([] : va_W)) (ws2 := (w6 cI cJ cZ qS zS zL)) (va_runV (As := [.int (zS 0 0), .int a1]) (rest := []) ⟨hx, hb, hml, hown, htl⟩ (c_X6_tiesThatCount l D cI cJ cZ n qS H.size zS zL (zS 0 0) a1 u29 hu29) (cwV 2 htl (gV W_443 W_444 W_445 W_5 W_446) rfl rfl rfl (by decide +kernel) ⟨Nat.le_of_ble_eq_true rfl, Nat.le_of_ble_eq_true rfl⟩) (xPV hP hD hK hN 0 rfl rfl) rfl rfl hl.1 rfl (lv_room (Nat.le_of_ble_eq_true rfl)) (dAt zX6_loose_0 18 rfl) ⟨Nat.zero_le _, Nat.zero_le _⟩) hS hA hP hD [0, 1, 2, 3, 4, 5, 6, 7, 8, 9, 10, 11, 12, 13, 14, 15, 16] [] [0, 1, 2, 3, 4, 5, 6, 7, 8, 9, 10, 11, 12, 13, 14, 15, 16] rfl rfl (by decide) (by decide) rfl (by decide) (fun H locs hP hD hS => ?_)
      refine lv_istore_n (lv' := [(3, .int u29), (0, .ref (qS 0)), (1, .int a1), (2, .int a2)]) hx hb (dAt zX6_loose_0 19 rfl) rfl hl (by decide) rfl (fun ls hl => ?_)
      refine lv_iload_n hx hb (dAt zX6_loose_0 20 rfl) rfl (lv_at hl 0 rfl) ?_
      refine lv_aload_n hx hb (dAt zX6_loose_0 21 rfl) rfl (lv_at hl 1 rfl) ?_
      refine lv_iload_n hx hb (dAt zX6_loose_0 22 rfl) rfl (lv_at hl 2 rfl) ?_
      obtain ⟨u36, hu36, h⟩ := q_bind h
      refine xFi (wc := (w6 cI cJ cZ qS zS zL)) (w1 := (w6 cI cJ cZ qS zS zL)) (wr := ([] : va_W)) (ws2 := (w6 cI cJ cZ qS zS zL)) (va_runV (As := [.int a1]) (rest := [.int u29]) ⟨hx, hb, hml, hown, htl⟩ (c_X6_dogOf l D cI cJ cZ n qS H.size zS zL a1 u36 hu36) (cwV 1 htl (gV W_451 W_452 W_453 W_5 W_454) rfl rfl rfl (by decide +kernel) ⟨Nat.le_of_ble_eq_true rfl, Nat.le_of_ble_eq_true rfl⟩) (xPV hP hD hK hN 0 rfl rfl) rfl rfl hl.1 rfl (lv_room (Nat.le_of_ble_eq_true rfl)) (dAt zX6_loose_0 23 rfl) ⟨Nat.zero_le _, Nat.zero_le _⟩) hS hA hP hD [0, 1, 2, 3, 4, 5, 6, 7, 8, 9, 10, 11, 12, 13, 14, 15, 16] [] [0, 1, 2, 3, 4, 5, 6, 7, 8, 9, 10, 11, 12, 13, 14, 15, 16] rfl rfl (by decide) (by decide) rfl (by decide) (fun H locs hP hD hS => ?_)
      refine lv_iadd hx hb (dAt zX6_loose_0 24 rfl) ?_
      refine lv_aload_n hx hb (dAt zX6_loose_0 25 rfl) rfl (lv_at hl 1 rfl) ?_
      refine va_get (D := D) (ci := 6) (v := .ref (qS 6)) (C := RX6) (T := TX6) (N := 32) hx hb htl inlX6 hown hK hP 0 rfl rfl 5 (by decide) (htl _ W_87) (fun _ h9 => h9) rfl (dAt zX6_loose_0 26 rfl) ?_
      refine lv_iconst (v := 0) hx hb (dAt zX6_loose_0 27 rfl) (by decide) ?_
      refine va_iald hx hb hK hP 3 0 rfl rfl (q_inb (by decide)) (dAt zX6_loose_0 28 rfl) ?_
      refine lv_isub hx hb (dAt zX6_loose_0 29 rfl) ?_
      refine lv_iconst (v := 1) hx hb (dAt zX6_loose_0 30 rfl) (by decide) ?_
      refine lv_iadd hx hb (dAt zX6_loose_0 31 rfl) ?_
      refine lv_istore (lv' := [(4, .int (((u29 + u36) - ((zS 6) 0)) + (1 : Int32))), (3, .int u29), (0, .ref (qS 0)), (1, .int a1), (2, .int a2)]) hx hb (dAt zX6_loose_0 32 rfl) hl (by decide) rfl (fun ls hl => ?_)
      refine lv_iload hx hb (dAt zX6_loose_0 33 rfl) (lv_at hl 0 rfl) ?_
      refine lv_iload_n hx hb (dAt zX6_loose_0 34 rfl) rfl (lv_at hl 1 rfl) ?_
      refine lv_icmp_le (tgt := 60) hx hb (dAt zX6_loose_0 35 rfl) (by decide) (fun c_54 => ?_) (fun c_54 => ?_)
      · have h := q_pos c_54 h
        refine lv_iconst (v := 0) hx hb (dAt zX6_loose_0 38 rfl) (by decide) ?_
        refine lv_istore (lv' := [(5, .int 0), (4, .int (((u29 + u36) - ((zS 6) 0)) + (1 : Int32))), (3, .int u29), (0, .ref (qS 0)), (1, .int a1), (2, .int a2)]) hx hb (dAt zX6_loose_0 39 rfl) hl (by decide) rfl (fun ls hl => ?_)
        refine lv_iconst (v := 0) hx hb (dAt zX6_loose_0 40 rfl) (by decide) ?_
        refine lv_istore (lv' := [(6, .int 0), (5, .int 0), (4, .int (((u29 + u36) - ((zS 6) 0)) + (1 : Int32))), (3, .int u29), (0, .ref (qS 0)), (1, .int a1), (2, .int a2)]) hx hb (dAt zX6_loose_0 41 rfl) hl (by decide) rfl (fun ls hl => ?_)
        have L_66 : ∀ (j_66 : Nat) (v5_66 : Int32) (v6_66 : Int32) (H : Heap) (locs : List Loc) (ls : Array Slot), loopF (b_X6_loose_66 n zS zL a1 a2 u29 u36) j_66 (v5_66, v6_66) = some out → va_P D vwCl (w6 cI cJ cZ qS zS zL) H → va_D A (w6 cI cJ cZ qS zS zL) → va_S A s.heap H locs → lv_has ls 8 [(0, .ref (qS 0)), (1, .int a1), (2, .int a2), (4, .int (((u29 + u36) - ((zS 6) 0)) + (1 : Int32))), (5, .int v5_66), (6, .int v6_66)] → W p l e { frames := 3, cells := 0, slots := 0, locals := 66 } s m args below meth c H locs 0 0 Q (F0 m 66 ls []) := by
          intro j_66
          induction j_66 with
          | zero => intro v5_66 v6_66 H locs ls h hP hD hS hl; exact loopF_0 h
          | succ j_66 ih_66 =>
            intro v5_66 v6_66 H locs ls h hP hD hS hl
            have h := loopF_s h
            unfold b_X6_loose_66 at h
            refine lv_iload hx hb (dAt zX6_loose_0 42 rfl) (lv_at hl 5 rfl) ?_
            refine lv_bipush (v := 10) hx hb (dAt zX6_loose_0 43 rfl) (by decide) ?_
            refine lv_icmp_ge (tgt := 136) hx hb (dAt zX6_loose_0 44 rfl) (by decide) (fun c_70 => ?_) (fun c_70 => ?_)
            · have h := q_pos c_70 h
              refine lv_iload_n hx hb (dAt zX6_loose_0 75 rfl) rfl (lv_at hl 2 rfl) ?_
              refine lv_iconst (v := 1) hx hb (dAt zX6_loose_0 76 rfl) (by decide) ?_
              refine lv_icmp_ne (tgt := 146) hx hb (dAt zX6_loose_0 77 rfl) (by decide) (fun c_138 => ?_) (fun c_138 => ?_)
              · have h := q_neg c_138 h
                refine lv_iload hx hb (dAt zX6_loose_0 80 rfl) (lv_at hl 4 rfl) ?_
                obtain ⟨u148, hu148, h⟩ := q_bind h
                refine xFi (wc := ([] : va_W)) (w1 := ([] : va_W)) (wr := (w6 cI cJ cZ qS zS zL)) (ws2 := (w6 cI cJ cZ qS zS zL)) (va_runS (As := [.int v5_66]) (rest := []) ⟨hx, hb, hml, hown, htl⟩ (c_X6_ones l D cI cJ cZ n  H.size  v5_66 u148 hu148) (va_cwS 1 htl (gS W_165 W_166 W_5 W_167) rfl rfl rfl (by decide +kernel) ⟨Nat.le_of_ble_eq_true rfl, Nat.le_of_ble_eq_true rfl⟩) (xPS xP0 (xD0 A) hK hN) rfl rfl hl.1 rfl (lv_room (Nat.le_of_ble_eq_true rfl)) (dAt zX6_loose_0 81 rfl) ⟨Nat.zero_le _, Nat.zero_le _⟩) hS hA hP hD [] [0, 1, 2, 3, 4, 5, 6, 7, 8, 9, 10, 11, 12, 13, 14, 15, 16] [0, 1, 2, 3, 4, 5, 6, 7, 8, 9, 10, 11, 12, 13, 14, 15, 16] rfl rfl (by decide) (by decide) rfl (by decide) (fun H locs hP hD hS => ?_)
                obtain rfl := q_some h
                exact xRi hx hb hr hlocks hQ hAe hP hD hK hS rfl (dAt zX6_loose_0 82 rfl)
              · have h := q_pos c_138 h
                refine lv_iload hx hb (dAt zX6_loose_0 78 rfl) (lv_at hl 4 rfl) ?_
                refine lv_goto (tgt := 151) hx hb (dAt zX6_loose_0 79 rfl) (by decide) ?_
                obtain rfl := q_some h
                exact xRi hx hb hr hlocks hQ hAe hP hD hK hS rfl (dAt zX6_loose_0 82 rfl)
            · have h := q_neg c_70 h
              refine lv_aload_n hx hb (dAt zX6_loose_0 45 rfl) rfl (lv_at hl 0 rfl) ?_
              refine va_get (D := D) (ci := 6) (v := .int (zS 0 0)) (C := RX6) (T := TX6) (N := 32) hx hb htl inlX6 hown hK hP 0 rfl rfl 0 (by decide) (htl _ W_102) (fun _ h9 => h9) rfl (dAt zX6_loose_0 46 rfl) ?_
              refine lv_iload hx hb (dAt zX6_loose_0 47 rfl) (lv_at hl 5 rfl) ?_
              obtain ⟨u79, hu79, h⟩ := q_bind h
              refine xFz (wc := ([] : va_W)) (w1 := ([] : va_W)) (wr := (w6 cI cJ cZ qS zS zL)) (ws2 := (w6 cI cJ cZ qS zS zL)) (va_runS (As := [.int (zS 0 0), .int v6_66]) (rest := []) ⟨hx, hb, hml, hown, htl⟩ (c_X6_has l D cI cJ cZ n  H.size  (zS 0 0) v6_66 u79 hu79) (va_cwS 2 htl (gS W_407 W_408 W_5 W_409) rfl rfl rfl (by decide +kernel) ⟨Nat.le_of_ble_eq_true rfl, Nat.le_of_ble_eq_true rfl⟩) (xPS xP0 (xD0 A) hK hN) rfl rfl hl.1 rfl (lv_room (Nat.le_of_ble_eq_true rfl)) (dAt zX6_loose_0 48 rfl) ⟨Nat.zero_le _, Nat.zero_le _⟩) hS hA hP hD [] [0, 1, 2, 3, 4, 5, 6, 7, 8, 9, 10, 11, 12, 13, 14, 15, 16] [0, 1, 2, 3, 4, 5, 6, 7, 8, 9, 10, 11, 12, 13, 14, 15, 16] rfl rfl (by decide) (by decide) rfl (by decide) (fun H locs hz79 hP hD hS => ?_)
              refine lv_if_eq (tgt := 109) hx hb (dAt zX6_loose_0 49 rfl) (by decide) (fun c_82 => ?_) (fun c_82 => ?_)
              · have h := q_pos c_82 h
                refine lv_iconst (v := 0) hx hb (dAt zX6_loose_0 61 rfl) (by decide) ?_
                refine lv_istore (lv' := [(7, .int 0), (0, .ref (qS 0)), (1, .int a1), (2, .int a2), (4, .int (((u29 + u36) - ((zS 6) 0)) + (1 : Int32))), (5, .int v5_66), (6, .int v6_66)]) hx hb (dAt zX6_loose_0 62 rfl) hl (by decide) rfl (fun ls hl => ?_)
                refine lv_iload hx hb (dAt zX6_loose_0 63 rfl) (lv_at hl 5 rfl) ?_
                refine lv_iload hx hb (dAt zX6_loose_0 64 rfl) (lv_at hl 0 rfl) ?_
                refine lv_if_eq (tgt := 126) hx hb (dAt zX6_loose_0 65 rfl) (by decide) (fun _ => ?_) (fun c => absurd (by decide) c)
                refine lv_iconst (v := 0) hx hb (dAt zX6_loose_0 70 rfl) (by decide) ?_
                refine lv_ior hx hb (dAt zX6_loose_0 71 rfl) ?_
                refine lv_istore (lv' := [(5, .int (v5_66 ||| (0 : Int32))), (7, .int 0), (0, .ref (qS 0)), (1, .int a1), (2, .int a2), (4, .int (((u29 + u36) - ((zS 6) 0)) + (1 : Int32))), (6, .int v6_66)]) hx hb (dAt zX6_loose_0 72 rfl) hl (by decide) rfl (fun ls hl => ?_)
                refine lv_iinc (v := (v6_66 + 1)) (lv' := [(6, .int (v6_66 + 1)), (5, .int (v5_66 ||| (0 : Int32))), (7, .int 0), (0, .ref (qS 0)), (1, .int a1), (2, .int a2), (4, .int (((u29 + u36) - ((zS 6) 0)) + (1 : Int32)))]) hx hb (dAt zX6_loose_0 73 rfl) hl (k := 6) rfl rfl (by decide) rfl (fun ls hl => ?_)
                refine lv_goto (tgt := 66) hx hb (dAt zX6_loose_0 74 rfl) (by decide) ?_
                exact ih_66 (v5_66 ||| (0 : Int32)) (v6_66 + 1) _ _ _ h hP hD hS (lv_sub hl [3, 4, 5, 6, 1, 0] rfl)
              · have h := q_neg c_82 h
                refine lv_aload_n hx hb (dAt zX6_loose_0 50 rfl) rfl (lv_at hl 0 rfl) ?_
                refine lv_iload_n hx hb (dAt zX6_loose_0 51 rfl) rfl (lv_at hl 1 rfl) ?_
                refine lv_iload hx hb (dAt zX6_loose_0 52 rfl) (lv_at hl 5 rfl) ?_
                obtain ⟨u89, hu89, h⟩ := q_bind h
                refine xFz (wc := (w6 cI cJ cZ qS zS zL)) (w1 := (w6 cI cJ cZ qS zS zL)) (wr := ([] : va_W)) (ws2 := (w6 cI cJ cZ qS zS zL)) (va_runV (As := [.int a1, .int v6_66]) (rest := []) ⟨hx, hb, hml, hown, htl⟩ (c_X6_counts l D cI cJ cZ n qS H.size zS zL a1 v6_66 u89 hu89) (cwV 2 htl (gV W_447 W_448 W_449 W_5 W_450) rfl rfl rfl (by decide +kernel) ⟨Nat.le_of_ble_eq_true rfl, Nat.le_of_ble_eq_true rfl⟩) (xPV hP hD hK hN 0 rfl rfl) rfl rfl hl.1 rfl (lv_room (Nat.le_of_ble_eq_true rfl)) (dAt zX6_loose_0 53 rfl) ⟨Nat.zero_le _, Nat.zero_le _⟩) hS hA hP hD [0, 1, 2, 3, 4, 5, 6, 7, 8, 9, 10, 11, 12, 13, 14, 15, 16] [] [0, 1, 2, 3, 4, 5, 6, 7, 8, 9, 10, 11, 12, 13, 14, 15, 16] rfl rfl (by decide) (by decide) rfl (by decide) (fun H locs hz89 hP hD hS => ?_)
                refine lv_if_eq (tgt := 109) hx hb (dAt zX6_loose_0 54 rfl) (by decide) (fun c_92 => ?_) (fun c_92 => ?_)
                · have h := q_pos c_92 h
                  refine lv_iconst (v := 0) hx hb (dAt zX6_loose_0 61 rfl) (by decide) ?_
                  refine lv_istore (lv' := [(7, .int 0), (0, .ref (qS 0)), (1, .int a1), (2, .int a2), (4, .int (((u29 + u36) - ((zS 6) 0)) + (1 : Int32))), (5, .int v5_66), (6, .int v6_66)]) hx hb (dAt zX6_loose_0 62 rfl) hl (by decide) rfl (fun ls hl => ?_)
                  refine lv_iload hx hb (dAt zX6_loose_0 63 rfl) (lv_at hl 5 rfl) ?_
                  refine lv_iload hx hb (dAt zX6_loose_0 64 rfl) (lv_at hl 0 rfl) ?_
                  refine lv_if_eq (tgt := 126) hx hb (dAt zX6_loose_0 65 rfl) (by decide) (fun _ => ?_) (fun c => absurd (by decide) c)
                  refine lv_iconst (v := 0) hx hb (dAt zX6_loose_0 70 rfl) (by decide) ?_
                  refine lv_ior hx hb (dAt zX6_loose_0 71 rfl) ?_
                  refine lv_istore (lv' := [(5, .int (v5_66 ||| (0 : Int32))), (7, .int 0), (0, .ref (qS 0)), (1, .int a1), (2, .int a2), (4, .int (((u29 + u36) - ((zS 6) 0)) + (1 : Int32))), (6, .int v6_66)]) hx hb (dAt zX6_loose_0 72 rfl) hl (by decide) rfl (fun ls hl => ?_)
                  refine lv_iinc (v := (v6_66 + 1)) (lv' := [(6, .int (v6_66 + 1)), (5, .int (v5_66 ||| (0 : Int32))), (7, .int 0), (0, .ref (qS 0)), (1, .int a1), (2, .int a2), (4, .int (((u29 + u36) - ((zS 6) 0)) + (1 : Int32)))]) hx hb (dAt zX6_loose_0 73 rfl) hl (k := 6) rfl rfl (by decide) rfl (fun ls hl => ?_)
                  refine lv_goto (tgt := 66) hx hb (dAt zX6_loose_0 74 rfl) (by decide) ?_
                  exact ih_66 (v5_66 ||| (0 : Int32)) (v6_66 + 1) _ _ _ h hP hD hS (lv_sub hl [3, 4, 5, 6, 1, 0] rfl)
                · have h := q_neg c_92 h
                  refine lv_iload hx hb (dAt zX6_loose_0 55 rfl) (lv_at hl 4 rfl) ?_
                  obtain ⟨u97, hu97, h⟩ := q_bind h
                  refine xFi (wc := ([] : va_W)) (w1 := ([] : va_W)) (wr := (w6 cI cJ cZ qS zS zL)) (ws2 := (w6 cI cJ cZ qS zS zL)) (va_runS (As := [.int v5_66]) (rest := []) ⟨hx, hb, hml, hown, htl⟩ (c_X6_ones l D cI cJ cZ n  H.size  v5_66 u97 hu97) (va_cwS 1 htl (gS W_165 W_166 W_5 W_167) rfl rfl rfl (by decide +kernel) ⟨Nat.le_of_ble_eq_true rfl, Nat.le_of_ble_eq_true rfl⟩) (xPS xP0 (xD0 A) hK hN) rfl rfl hl.1 rfl (lv_room (Nat.le_of_ble_eq_true rfl)) (dAt zX6_loose_0 56 rfl) ⟨Nat.zero_le _, Nat.zero_le _⟩) hS hA hP hD [] [0, 1, 2, 3, 4, 5, 6, 7, 8, 9, 10, 11, 12, 13, 14, 15, 16] [0, 1, 2, 3, 4, 5, 6, 7, 8, 9, 10, 11, 12, 13, 14, 15, 16] rfl rfl (by decide) (by decide) rfl (by decide) (fun H locs hP hD hS => ?_)
                  refine lv_iload hx hb (dAt zX6_loose_0 57 rfl) (lv_at hl 3 rfl) ?_
                  refine lv_icmp_ge (tgt := 109) hx hb (dAt zX6_loose_0 58 rfl) (by decide) (fun c_102 => ?_) (fun c_102 => ?_)
                  · have h := q_pos c_102 h
                    refine lv_iconst (v := 0) hx hb (dAt zX6_loose_0 61 rfl) (by decide) ?_
                    refine lv_istore (lv' := [(7, .int 0), (0, .ref (qS 0)), (1, .int a1), (2, .int a2), (4, .int (((u29 + u36) - ((zS 6) 0)) + (1 : Int32))), (5, .int v5_66), (6, .int v6_66)]) hx hb (dAt zX6_loose_0 62 rfl) hl (by decide) rfl (fun ls hl => ?_)
                    refine lv_iload hx hb (dAt zX6_loose_0 63 rfl) (lv_at hl 5 rfl) ?_
                    refine lv_iload hx hb (dAt zX6_loose_0 64 rfl) (lv_at hl 0 rfl) ?_
                    refine lv_if_eq (tgt := 126) hx hb (dAt zX6_loose_0 65 rfl) (by decide) (fun _ => ?_) (fun c => absurd (by decide) c)
                    refine lv_iconst (v := 0) hx hb (dAt zX6_loose_0 70 rfl) (by decide) ?_
                    refine lv_ior hx hb (dAt zX6_loose_0 71 rfl) ?_
                    refine lv_istore (lv' := [(5, .int (v5_66 ||| (0 : Int32))), (7, .int 0), (0, .ref (qS 0)), (1, .int a1), (2, .int a2), (4, .int (((u29 + u36) - ((zS 6) 0)) + (1 : Int32))), (6, .int v6_66)]) hx hb (dAt zX6_loose_0 72 rfl) hl (by decide) rfl (fun ls hl => ?_)
                    refine lv_iinc (v := (v6_66 + 1)) (lv' := [(6, .int (v6_66 + 1)), (5, .int (v5_66 ||| (0 : Int32))), (7, .int 0), (0, .ref (qS 0)), (1, .int a1), (2, .int a2), (4, .int (((u29 + u36) - ((zS 6) 0)) + (1 : Int32)))]) hx hb (dAt zX6_loose_0 73 rfl) hl (k := 6) rfl rfl (by decide) rfl (fun ls hl => ?_)
                    refine lv_goto (tgt := 66) hx hb (dAt zX6_loose_0 74 rfl) (by decide) ?_
                    exact ih_66 (v5_66 ||| (0 : Int32)) (v6_66 + 1) _ _ _ h hP hD hS (lv_sub hl [3, 4, 5, 6, 1, 0] rfl)
                  · have h := q_neg c_102 h
                    refine lv_iconst (v := 1) hx hb (dAt zX6_loose_0 59 rfl) (by decide) ?_
                    refine lv_goto (tgt := 110) hx hb (dAt zX6_loose_0 60 rfl) (by decide) ?_
                    refine lv_istore (lv' := [(7, .int 1), (0, .ref (qS 0)), (1, .int a1), (2, .int a2), (4, .int (((u29 + u36) - ((zS 6) 0)) + (1 : Int32))), (5, .int v5_66), (6, .int v6_66)]) hx hb (dAt zX6_loose_0 62 rfl) hl (by decide) rfl (fun ls hl => ?_)
                    refine lv_iload hx hb (dAt zX6_loose_0 63 rfl) (lv_at hl 5 rfl) ?_
                    refine lv_iload hx hb (dAt zX6_loose_0 64 rfl) (lv_at hl 0 rfl) ?_
                    refine lv_if_eq (tgt := 126) hx hb (dAt zX6_loose_0 65 rfl) (by decide) (fun c => absurd c (by decide)) (fun _ => ?_)
                    refine lv_iconst (v := 1) hx hb (dAt zX6_loose_0 66 rfl) (by decide) ?_
                    refine lv_iload hx hb (dAt zX6_loose_0 67 rfl) (lv_at hl 6 rfl) ?_
                    refine lv_ishl hx hb (dAt zX6_loose_0 68 rfl) ?_
                    refine lv_goto (tgt := 127) hx hb (dAt zX6_loose_0 69 rfl) (by decide) ?_
                    refine lv_ior hx hb (dAt zX6_loose_0 71 rfl) ?_
                    refine lv_istore (lv' := [(5, .int (v5_66 ||| ((1 : Int32) <<< (v6_66 &&& 31)))), (7, .int 1), (0, .ref (qS 0)), (1, .int a1), (2, .int a2), (4, .int (((u29 + u36) - ((zS 6) 0)) + (1 : Int32))), (6, .int v6_66)]) hx hb (dAt zX6_loose_0 72 rfl) hl (by decide) rfl (fun ls hl => ?_)
                    refine lv_iinc (v := (v6_66 + 1)) (lv' := [(6, .int (v6_66 + 1)), (5, .int (v5_66 ||| ((1 : Int32) <<< (v6_66 &&& 31)))), (7, .int 1), (0, .ref (qS 0)), (1, .int a1), (2, .int a2), (4, .int (((u29 + u36) - ((zS 6) 0)) + (1 : Int32)))]) hx hb (dAt zX6_loose_0 73 rfl) hl (k := 6) rfl rfl (by decide) rfl (fun ls hl => ?_)
                    refine lv_goto (tgt := 66) hx hb (dAt zX6_loose_0 74 rfl) (by decide) ?_
                    exact ih_66 (v5_66 ||| ((1 : Int32) <<< (v6_66 &&& 31))) (v6_66 + 1) _ _ _ h hP hD hS (lv_sub hl [3, 4, 5, 6, 1, 0] rfl)
        exact L_66 n 0 0 _ _ _ h hP hD hS (lv_sub hl [4, 5, 6, 2, 1, 0] rfl)
      · have h := q_neg c_54 h
        refine lv_bipush (v := (-6)) hx hb (dAt zX6_loose_0 36 rfl) (by decide) ?_
        obtain rfl := q_some h
        exact xRi hx hb hr hlocks hQ hAe hP hD hK hS rfl (dAt zX6_loose_0 37 rfl)
    · have h := q_pos c_17 h
      refine lv_bipush (v := (-2)) hx hb (dAt zX6_loose_0 12 rfl) (by decide) ?_
      obtain rfl := q_some h
      exact xRi hx hb hr hlocks hQ hAe hP hD hK hS rfl (dAt zX6_loose_0 13 rfl)
  · have h := q_pos c_5 h
    refine lv_iconst (v := (-1)) hx hb (dAt zX6_loose_0 4 rfl) (by decide) ?_
    obtain rfl := q_some h
    exact xRi hx hb hr hlocks hQ hAe hP hD hK hS rfl (dAt zX6_loose_0 5 rfl)
def b_X6_areApart_4 (n : Nat) (zS : TI) (a1 : Int32) (s_4 : Int32 × Int32) (k_4 : Int32 × Int32 → Option Int32) : Option Int32 := (if 100 ≤ s_4.2 then gd (isZ s_4.1) (some s_4.1) else (if s_4.1 = 0 then (k_4 (0, (s_4.2 + 1))) else ((m_X6_has n  a1 (s_4.2 / (10 : Int32))).bind fun u19 => (if u19 = 0 then (k_4 (1, (s_4.2 + 1))) else ((m_X6_has n  a1 (jrem s_4.2 (10 : Int32))).bind fun u30 => (if u30 = 0 then (k_4 (1, (s_4.2 + 1))) else (gd (inB s_4.2 100) ((if 0 < ((zS 4) (Int32.toNatClampNeg s_4.2)) then (k_4 (0, (s_4.2 + 1))) else (k_4 (1, (s_4.2 + 1))))))))))))
def m_X6_areApart (n : Nat) (zS : TI) (zL : TL) (a1 : Int32) : Option Int32 := (loopF (b_X6_areApart_4 n zS a1 ) n (1, 0))
set_option maxHeartbeats 4000000 in
set_option maxRecDepth 100000 in
theorem c_X6_areApart (l : Launch) (D : va_G) (cI cJ cZ : ClassId) (n : Nat) (qS : Nat → Nat) (sz : Nat) (zS : TI) (zL : TL) (a1 : Int32) (out : Int32) (hm : m_X6_areApart n zS zL a1 = some out) : Met l yX6_areApart (wsM yX6_areApart cX6_areApart 4 (some .boolean)) { frames := 1, cells := 0, slots := 0, locals := 21 } (xPre D (kT cI cJ cZ) (w6 cI cJ cZ qS zS zL) sz [.ref (qS 0), .int a1]) (xQz D (kT cI cJ cZ) (w6 cI cJ cZ qS zS zL) (w6 cI cJ cZ qS zS zL) sz out) 0 0 (va_A (w6 cI cJ cZ qS zS zL) sz) := by
  refine Met.ofW (cc := cX6_areApart) (maxL := 4) (ret := (some .boolean)) (by decide) rfl ?_
  intro p e s m args below meth c s₁ B hml hv
  obtain ⟨hv, hsz, hP, hK, hD0, hN⟩ := hv
  have hx := B.exec; have hb := B.bytes; have hr := B.returns
  have hts := atoms_spec (ws := (wsM yX6_areApart cX6_areApart 4 (some .boolean))) B.pre
  have hown : s.vm.findClass RX6 = some m.cls := findClass_of_methodNamed B.named
  have hlocks := B.notSynchronized
  subst hsz
  have hD := hD0.self (sz := s.heap.size)
  obtain ⟨A, hAe⟩ : ∃ A, A = va_A (w6 cI cJ cZ qS zS zL) s.heap.size := ⟨_, rfl⟩
  rw [← hAe] at hD
  have hA : ∀ q : Nat, s.heap.size ≤ q → A q := fun q h => by rw [hAe]; exact Or.inr h
  have htl : ∀ w ∈ wsL_law, w.before args s = true := fun w h => hts w (List.mem_cons_of_mem _ h)
  refine xHead (R' := { frames := 1, cells := 0, slots := 0, locals := 21 }) rfl (fun Q H hQ hH => ?_)
  have hP : va_P D vwCl (w6 cI cJ cZ qS zS zL) H := by rw [hH]; exact hP
  have hS : va_S A s.heap H [] := by rw [hH]; exact va_S.rf
  refine xStart hv (Nat.le_of_ble_eq_true rfl) (lv := [(0, .ref (qS 0)), (1, .int a1)]) rfl (fun ls hl => ?_)
  have h := hm
  unfold m_X6_areApart at h
  refine lv_iconst (v := 1) hx hb (dAt zX6_areApart_0 0 rfl) (by decide) ?_
  refine lv_istore_n (lv' := [(2, .int 1), (0, .ref (qS 0)), (1, .int a1)]) hx hb (dAt zX6_areApart_0 1 rfl) rfl hl (by decide) rfl (fun ls hl => ?_)
  refine lv_iconst (v := 0) hx hb (dAt zX6_areApart_0 2 rfl) (by decide) ?_
  refine lv_istore_n (lv' := [(3, .int 0), (2, .int 1), (0, .ref (qS 0)), (1, .int a1)]) hx hb (dAt zX6_areApart_0 3 rfl) rfl hl (by decide) rfl (fun ls hl => ?_)
  have L_4 : ∀ (j_4 : Nat) (v2_4 : Int32) (v3_4 : Int32) (H : Heap) (locs : List Loc) (ls : Array Slot), loopF (b_X6_areApart_4 n zS a1) j_4 (v2_4, v3_4) = some out → va_P D vwCl (w6 cI cJ cZ qS zS zL) H → va_D A (w6 cI cJ cZ qS zS zL) → va_S A s.heap H locs → lv_has ls 4 [(0, .ref (qS 0)), (1, .int a1), (2, .int v2_4), (3, .int v3_4)] → W p l e { frames := 1, cells := 0, slots := 0, locals := 21 } s m args below meth c H locs 0 0 Q (F0 m 4 ls []) := by
    intro j_4
    induction j_4 with
    | zero => intro v2_4 v3_4 H locs ls h hP hD hS hl; exact loopF_0 h
    | succ j_4 ih_4 =>
      intro v2_4 v3_4 H locs ls h hP hD hS hl
      have h := loopF_s h
      unfold b_X6_areApart_4 at h
      refine lv_iload_n hx hb (dAt zX6_areApart_0 4 rfl) rfl (lv_at hl 3 rfl) ?_
      refine lv_bipush (v := 100) hx hb (dAt zX6_areApart_0 5 rfl) (by decide) ?_
      refine lv_icmp_ge (tgt := 57) hx hb (dAt zX6_areApart_0 6 rfl) (by decide) (fun c_7 => ?_) (fun c_7 => ?_)
      · have h := q_pos c_7 h
        refine lv_iload_n hx hb (dAt zX6_areApart_0 32 rfl) rfl (lv_at hl 2 rfl) ?_
        obtain ⟨hzz, h⟩ := q_z h
        obtain rfl := q_some h
        exact xRz hx hb hr hlocks hQ hAe hP hD hK hS rfl hzz (dAt zX6_areApart_0 33 rfl)
      · have h := q_neg c_7 h
        refine lv_iload_n hx hb (dAt zX6_areApart_0 7 rfl) rfl (lv_at hl 2 rfl) ?_
        refine lv_if_eq (tgt := 49) hx hb (dAt zX6_areApart_0 8 rfl) (by decide) (fun c_11 => ?_) (fun c_11 => ?_)
        · have h := q_pos c_11 h
          refine lv_iconst (v := 0) hx hb (dAt zX6_areApart_0 28 rfl) (by decide) ?_
          refine lv_istore_n (lv' := [(2, .int 0), (0, .ref (qS 0)), (1, .int a1), (3, .int v3_4)]) hx hb (dAt zX6_areApart_0 29 rfl) rfl hl (by decide) rfl (fun ls hl => ?_)
          refine lv_iinc (v := (v3_4 + 1)) (lv' := [(3, .int (v3_4 + 1)), (2, .int 0), (0, .ref (qS 0)), (1, .int a1)]) hx hb (dAt zX6_areApart_0 30 rfl) hl (k := 3) rfl rfl (by decide) rfl (fun ls hl => ?_)
          refine lv_goto (tgt := 4) hx hb (dAt zX6_areApart_0 31 rfl) (by decide) ?_
          exact ih_4 0 (v3_4 + 1) _ _ _ h hP hD hS (lv_sub hl [2, 3, 1, 0] rfl)
        · have h := q_neg c_11 h
          refine lv_iload_n hx hb (dAt zX6_areApart_0 9 rfl) rfl (lv_at hl 1 rfl) ?_
          refine lv_iload_n hx hb (dAt zX6_areApart_0 10 rfl) rfl (lv_at hl 3 rfl) ?_
          refine lv_bipush (v := 10) hx hb (dAt zX6_areApart_0 11 rfl) (by decide) ?_
          refine lv_idiv hx hb (dAt zX6_areApart_0 12 rfl) (by decide) ?_
          obtain ⟨u19, hu19, h⟩ := q_bind h
          refine xFz (wc := ([] : va_W)) (w1 := ([] : va_W)) (wr := (w6 cI cJ cZ qS zS zL)) (ws2 := (w6 cI cJ cZ qS zS zL)) (va_runS (As := [.int a1, .int (v3_4 / (10 : Int32))]) (rest := []) ⟨hx, hb, hml, hown, htl⟩ (c_X6_has l D cI cJ cZ n  H.size  a1 (v3_4 / (10 : Int32)) u19 hu19) (va_cwS 2 htl (gS W_407 W_408 W_5 W_409) rfl rfl rfl (by decide +kernel) ⟨Nat.le_of_ble_eq_true rfl, Nat.le_of_ble_eq_true rfl⟩) (xPS xP0 (xD0 A) hK hN) rfl rfl hl.1 rfl (lv_room (Nat.le_of_ble_eq_true rfl)) (dAt zX6_areApart_0 13 rfl) ⟨Nat.zero_le _, Nat.zero_le _⟩) hS hA hP hD [] [0, 1, 2, 3, 4, 5, 6, 7, 8, 9, 10, 11, 12, 13, 14, 15, 16] [0, 1, 2, 3, 4, 5, 6, 7, 8, 9, 10, 11, 12, 13, 14, 15, 16] rfl rfl (by decide) (by decide) rfl (by decide) (fun H locs hz19 hP hD hS => ?_)
          refine lv_if_eq (tgt := 45) hx hb (dAt zX6_areApart_0 14 rfl) (by decide) (fun c_22 => ?_) (fun c_22 => ?_)
          · have h := q_pos c_22 h
            refine lv_iconst (v := 1) hx hb (dAt zX6_areApart_0 26 rfl) (by decide) ?_
            refine lv_goto (tgt := 50) hx hb (dAt zX6_areApart_0 27 rfl) (by decide) ?_
            refine lv_istore_n (lv' := [(2, .int 1), (0, .ref (qS 0)), (1, .int a1), (3, .int v3_4)]) hx hb (dAt zX6_areApart_0 29 rfl) rfl hl (by decide) rfl (fun ls hl => ?_)
            refine lv_iinc (v := (v3_4 + 1)) (lv' := [(3, .int (v3_4 + 1)), (2, .int 1), (0, .ref (qS 0)), (1, .int a1)]) hx hb (dAt zX6_areApart_0 30 rfl) hl (k := 3) rfl rfl (by decide) rfl (fun ls hl => ?_)
            refine lv_goto (tgt := 4) hx hb (dAt zX6_areApart_0 31 rfl) (by decide) ?_
            exact ih_4 1 (v3_4 + 1) _ _ _ h hP hD hS (lv_sub hl [2, 3, 1, 0] rfl)
          · have h := q_neg c_22 h
            refine lv_iload_n hx hb (dAt zX6_areApart_0 15 rfl) rfl (lv_at hl 1 rfl) ?_
            refine lv_iload_n hx hb (dAt zX6_areApart_0 16 rfl) rfl (lv_at hl 3 rfl) ?_
            refine lv_bipush (v := 10) hx hb (dAt zX6_areApart_0 17 rfl) (by decide) ?_
            refine lv_irem hx hb (dAt zX6_areApart_0 18 rfl) (by decide) ?_
            obtain ⟨u30, hu30, h⟩ := q_bind h
            refine xFz (wc := ([] : va_W)) (w1 := ([] : va_W)) (wr := (w6 cI cJ cZ qS zS zL)) (ws2 := (w6 cI cJ cZ qS zS zL)) (va_runS (As := [.int a1, .int (jrem v3_4 (10 : Int32))]) (rest := []) ⟨hx, hb, hml, hown, htl⟩ (c_X6_has l D cI cJ cZ n  H.size  a1 (jrem v3_4 (10 : Int32)) u30 hu30) (va_cwS 2 htl (gS W_407 W_408 W_5 W_409) rfl rfl rfl (by decide +kernel) ⟨Nat.le_of_ble_eq_true rfl, Nat.le_of_ble_eq_true rfl⟩) (xPS xP0 (xD0 A) hK hN) rfl rfl hl.1 rfl (lv_room (Nat.le_of_ble_eq_true rfl)) (dAt zX6_areApart_0 19 rfl) ⟨Nat.zero_le _, Nat.zero_le _⟩) hS hA hP hD [] [0, 1, 2, 3, 4, 5, 6, 7, 8, 9, 10, 11, 12, 13, 14, 15, 16] [0, 1, 2, 3, 4, 5, 6, 7, 8, 9, 10, 11, 12, 13, 14, 15, 16] rfl rfl (by decide) (by decide) rfl (by decide) (fun H locs hz30 hP hD hS => ?_)
            refine lv_if_eq (tgt := 45) hx hb (dAt zX6_areApart_0 20 rfl) (by decide) (fun c_33 => ?_) (fun c_33 => ?_)
            · have h := q_pos c_33 h
              refine lv_iconst (v := 1) hx hb (dAt zX6_areApart_0 26 rfl) (by decide) ?_
              refine lv_goto (tgt := 50) hx hb (dAt zX6_areApart_0 27 rfl) (by decide) ?_
              refine lv_istore_n (lv' := [(2, .int 1), (0, .ref (qS 0)), (1, .int a1), (3, .int v3_4)]) hx hb (dAt zX6_areApart_0 29 rfl) rfl hl (by decide) rfl (fun ls hl => ?_)
              refine lv_iinc (v := (v3_4 + 1)) (lv' := [(3, .int (v3_4 + 1)), (2, .int 1), (0, .ref (qS 0)), (1, .int a1)]) hx hb (dAt zX6_areApart_0 30 rfl) hl (k := 3) rfl rfl (by decide) rfl (fun ls hl => ?_)
              refine lv_goto (tgt := 4) hx hb (dAt zX6_areApart_0 31 rfl) (by decide) ?_
              exact ih_4 1 (v3_4 + 1) _ _ _ h hP hD hS (lv_sub hl [2, 3, 1, 0] rfl)
            · have h := q_neg c_33 h
              refine lv_aload_n hx hb (dAt zX6_areApart_0 21 rfl) rfl (lv_at hl 0 rfl) ?_
              refine va_get (D := D) (ci := 6) (v := .ref (qS 4)) (C := RX6) (T := TX6) (N := 32) hx hb htl inlX6 hown hK hP 0 rfl rfl 3 (by decide) (htl _ W_85) (fun _ h9 => h9) rfl (dAt zX6_areApart_0 22 rfl) ?_
              refine lv_iload_n hx hb (dAt zX6_areApart_0 23 rfl) rfl (lv_at hl 3 rfl) ?_
              obtain ⟨hi_41, h⟩ := q_in h
              refine va_iald hx hb hK hP 1 0 rfl rfl hi_41 (dAt zX6_areApart_0 24 rfl) ?_
              refine lv_if_gt (tgt := 49) hx hb (dAt zX6_areApart_0 25 rfl) (by decide) (fun c_42 => ?_) (fun c_42 => ?_)
              · have h := q_pos c_42 h
                refine lv_iconst (v := 0) hx hb (dAt zX6_areApart_0 28 rfl) (by decide) ?_
                refine lv_istore_n (lv' := [(2, .int 0), (0, .ref (qS 0)), (1, .int a1), (3, .int v3_4)]) hx hb (dAt zX6_areApart_0 29 rfl) rfl hl (by decide) rfl (fun ls hl => ?_)
                refine lv_iinc (v := (v3_4 + 1)) (lv' := [(3, .int (v3_4 + 1)), (2, .int 0), (0, .ref (qS 0)), (1, .int a1)]) hx hb (dAt zX6_areApart_0 30 rfl) hl (k := 3) rfl rfl (by decide) rfl (fun ls hl => ?_)
                refine lv_goto (tgt := 4) hx hb (dAt zX6_areApart_0 31 rfl) (by decide) ?_
                exact ih_4 0 (v3_4 + 1) _ _ _ h hP hD hS (lv_sub hl [2, 3, 1, 0] rfl)
              · have h := q_neg c_42 h
                refine lv_iconst (v := 1) hx hb (dAt zX6_areApart_0 26 rfl) (by decide) ?_
                refine lv_goto (tgt := 50) hx hb (dAt zX6_areApart_0 27 rfl) (by decide) ?_
                refine lv_istore_n (lv' := [(2, .int 1), (0, .ref (qS 0)), (1, .int a1), (3, .int v3_4)]) hx hb (dAt zX6_areApart_0 29 rfl) rfl hl (by decide) rfl (fun ls hl => ?_)
                refine lv_iinc (v := (v3_4 + 1)) (lv' := [(3, .int (v3_4 + 1)), (2, .int 1), (0, .ref (qS 0)), (1, .int a1)]) hx hb (dAt zX6_areApart_0 30 rfl) hl (k := 3) rfl rfl (by decide) rfl (fun ls hl => ?_)
                refine lv_goto (tgt := 4) hx hb (dAt zX6_areApart_0 31 rfl) (by decide) ?_
                exact ih_4 1 (v3_4 + 1) _ _ _ h hP hD hS (lv_sub hl [2, 3, 1, 0] rfl)
  exact L_4 n 1 0 _ _ _ h hP hD hS (lv_sub hl [2, 3, 1, 0] rfl)
def b_X6_seats_47 (n : Nat) (zS : TI) (zL : TL) (a1 : Int32) (a2 : Int32) (u34 : Int32) (s_47 : Int32 × Int32) (k_47 : Int32 × Int32 → Option Int32) : Option Int32 := (if 1023 < s_47.2 then (if a2 = 0 then ((m_X6_ones n  s_47.1).bind fun u128 => some u128) else some s_47.1) else (if (s_47.2 &&& (((zS 0 0) &&& (u34 ^^^ (-1 : Int32))) ^^^ (-1 : Int32))) = 0 then ((m_X6_ones n  s_47.2).bind fun u66 => (if a1 < u66 then (k_47 (s_47.1, (s_47.2 + 1))) else ((m_X6_ones n  s_47.2).bind fun u75 => ((m_X6_ones n  s_47.1).bind fun u80 => (if u75 ≤ u80 then (k_47 (s_47.1, (s_47.2 + 1))) else ((m_X6_areApart n zS zL s_47.2).bind fun u101 => (if u101 = 0 then (k_47 (s_47.1, (s_47.2 + 1))) else (k_47 (s_47.2, (s_47.2 + 1)))))))))) else (k_47 (s_47.1, (s_47.2 + 1)))))
def m_X6_seats (n : Nat) (zS : TI) (zL : TL) (a1 : Int32) (a2 : Int32) : Option Int32 := ((m_X6_in n  (Int32.toInt64 a1) 0 9).bind fun u6 => (if u6 = 0 then some (-2) else ((m_X6_in n  (Int32.toInt64 a2) 0 1).bind fun u16 => (if u16 = 0 then some (-2) else ((m_X6_missedIn n zS zL (zS 0 0)).bind fun u34 => (loopF (b_X6_seats_47 n zS zL a1 a2 u34 ) n (0, 1)))))))
set_option maxHeartbeats 4000000 in
set_option maxRecDepth 100000 in
theorem c_X6_seats (l : Launch) (D : va_G) (cI cJ cZ : ClassId) (n : Nat) (qS : Nat → Nat) (sz : Nat) (zS : TI) (zL : TL) (a1 : Int32) (a2 : Int32) (out : Int32) (hm : m_X6_seats n zS zL a1 a2 = some out) : Met l yX6_seats (wsM yX6_seats cX6_seats 7 (some .int)) { frames := 4, cells := 0, slots := 0, locals := 92 } (xPre D (kT cI cJ cZ) (w6 cI cJ cZ qS zS zL) sz [.ref (qS 0), .int a1, .int a2]) (xQi D (kT cI cJ cZ) (w6 cI cJ cZ qS zS zL) (w6 cI cJ cZ qS zS zL) sz out) 0 0 (va_A (w6 cI cJ cZ qS zS zL) sz) := by
  refine Met.ofW (cc := cX6_seats) (maxL := 7) (ret := (some .int)) (by decide) rfl ?_
  intro p e s m args below meth c s₁ B hml hv
  obtain ⟨hv, hsz, hP, hK, hD0, hN⟩ := hv
  have hx := B.exec; have hb := B.bytes; have hr := B.returns
  have hts := atoms_spec (ws := (wsM yX6_seats cX6_seats 7 (some .int))) B.pre
  have hown : s.vm.findClass RX6 = some m.cls := findClass_of_methodNamed B.named
  have hlocks := B.notSynchronized
  subst hsz
  have hD := hD0.self (sz := s.heap.size)
  obtain ⟨A, hAe⟩ : ∃ A, A = va_A (w6 cI cJ cZ qS zS zL) s.heap.size := ⟨_, rfl⟩
  rw [← hAe] at hD
  have hA : ∀ q : Nat, s.heap.size ≤ q → A q := fun q h => by rw [hAe]; exact Or.inr h
  have htl : ∀ w ∈ wsL_law, w.before args s = true := fun w h => hts w (List.mem_cons_of_mem _ h)
  refine xHead (R' := { frames := 4, cells := 0, slots := 0, locals := 92 }) rfl (fun Q H hQ hH => ?_)
  have hP : va_P D vwCl (w6 cI cJ cZ qS zS zL) H := by rw [hH]; exact hP
  have hS : va_S A s.heap H [] := by rw [hH]; exact va_S.rf
  refine xStart hv (Nat.le_of_ble_eq_true rfl) (lv := [(0, .ref (qS 0)), (1, .int a1), (2, .int a2)]) rfl (fun ls hl => ?_)
  have h := hm
  unfold m_X6_seats at h
  refine lv_iload_n hx hb (dAt zX6_seats_0 0 rfl) rfl (lv_at hl 1 rfl) ?_
  refine lv_i2l (v := (Int32.toInt64 a1)) hx hb (dAt zX6_seats_0 1 rfl) rfl ?_
  refine lv_lconst (v := 0) hx hb (dAt zX6_seats_0 2 rfl) (by decide) ?_
  refine lv_ldc2 (v := 9) hx hb hown (htl _ W_126) (dAt zX6_seats_0 3 rfl) ?_
  obtain ⟨u6, hu6, h⟩ := q_bind h
  refine xFz (wc := ([] : va_W)) (w1 := ([] : va_W)) (wr := (w6 cI cJ cZ qS zS zL)) (ws2 := (w6 cI cJ cZ qS zS zL)) (va_runS (As := [.long (Int32.toInt64 a1), .long 0, .long 9]) (rest := []) ⟨hx, hb, hml, hown, htl⟩ (c_X6_in l D cI cJ cZ n  H.size  (Int32.toInt64 a1) 0 9 u6 hu6) (va_cwS 3 htl (gS W_130 W_131 W_5 W_132) rfl rfl rfl (by decide +kernel) ⟨Nat.le_of_ble_eq_true rfl, Nat.le_of_ble_eq_true rfl⟩) (xPS xP0 (xD0 A) hK hN) rfl rfl hl.1 rfl (lv_room (Nat.le_of_ble_eq_true rfl)) (dAt zX6_seats_0 4 rfl) ⟨Nat.zero_le _, Nat.zero_le _⟩) hS hA hP hD [] [0, 1, 2, 3, 4, 5, 6, 7, 8, 9, 10, 11, 12, 13, 14, 15, 16] [0, 1, 2, 3, 4, 5, 6, 7, 8, 9, 10, 11, 12, 13, 14, 15, 16] rfl rfl (by decide) (by decide) rfl (by decide) (fun H locs hz6 hP hD hS => ?_)
  refine lv_if_eq (tgt := 22) hx hb (dAt zX6_seats_0 5 rfl) (by decide) (fun c_9 => ?_) (fun c_9 => ?_)
  · have h := q_pos c_9 h
    refine lv_bipush (v := (-2)) hx hb (dAt zX6_seats_0 12 rfl) (by decide) ?_
    obtain rfl := q_some h
    exact xRi hx hb hr hlocks hQ hAe hP hD hK hS rfl (dAt zX6_seats_0 13 rfl)
  · have h := q_neg c_9 h
    refine lv_iload_n hx hb (dAt zX6_seats_0 6 rfl) rfl (lv_at hl 2 rfl) ?_
    refine lv_i2l (v := (Int32.toInt64 a2)) hx hb (dAt zX6_seats_0 7 rfl) rfl ?_
    refine lv_lconst (v := 0) hx hb (dAt zX6_seats_0 8 rfl) (by decide) ?_
    refine lv_lconst (v := 1) hx hb (dAt zX6_seats_0 9 rfl) (by decide) ?_
    obtain ⟨u16, hu16, h⟩ := q_bind h
    refine xFz (wc := ([] : va_W)) (w1 := ([] : va_W)) (wr := (w6 cI cJ cZ qS zS zL)) (ws2 := (w6 cI cJ cZ qS zS zL)) (va_runS (As := [.long (Int32.toInt64 a2), .long 0, .long 1]) (rest := []) ⟨hx, hb, hml, hown, htl⟩ (c_X6_in l D cI cJ cZ n  H.size  (Int32.toInt64 a2) 0 1 u16 hu16) (va_cwS 3 htl (gS W_130 W_131 W_5 W_132) rfl rfl rfl (by decide +kernel) ⟨Nat.le_of_ble_eq_true rfl, Nat.le_of_ble_eq_true rfl⟩) (xPS xP0 (xD0 A) hK hN) rfl rfl hl.1 rfl (lv_room (Nat.le_of_ble_eq_true rfl)) (dAt zX6_seats_0 10 rfl) ⟨Nat.zero_le _, Nat.zero_le _⟩) hS hA hP hD [] [0, 1, 2, 3, 4, 5, 6, 7, 8, 9, 10, 11, 12, 13, 14, 15, 16] [0, 1, 2, 3, 4, 5, 6, 7, 8, 9, 10, 11, 12, 13, 14, 15, 16] rfl rfl (by decide) (by decide) rfl (by decide) (fun H locs hz16 hP hD hS => ?_)
    refine lv_if_ne (tgt := 25) hx hb (dAt zX6_seats_0 11 rfl) (by decide) (fun c_19 => ?_) (fun c_19 => ?_)
    · have h := q_neg c_19 h
      refine lv_aload_n hx hb (dAt zX6_seats_0 14 rfl) rfl (lv_at hl 0 rfl) ?_
      refine va_get (D := D) (ci := 6) (v := .int (zS 0 0)) (C := RX6) (T := TX6) (N := 32) hx hb htl inlX6 hown hK hP 0 rfl rfl 0 (by decide) (htl _ W_102) (fun _ h9 => h9) rfl (dAt zX6_seats_0 15 rfl) ?_
      refine lv_aload_n hx hb (dAt zX6_seats_0 16 rfl) rfl (lv_at hl 0 rfl) ?_
      refine lv_aload_n hx hb (dAt zX6_seats_0 17 rfl) rfl (lv_at hl 0 rfl) ?_
      refine va_get (D := D) (ci := 6) (v := .int (zS 0 0)) (C := RX6) (T := TX6) (N := 32) hx hb htl inlX6 hown hK hP 0 rfl rfl 0 (by decide) (htl _ W_102) (fun _ h9 => h9) rfl (dAt zX6_seats_0 18 rfl) ?_
      obtain ⟨u34, hu34, h⟩ := q_bind h
      refine xFi (wc := (w6 cI cJ cZ qS zS zL)) (w1 := (w6 cI cJ cZ qS zS zL)) (wr := ([] : va_W)) (ws2 := (w6 cI cJ cZ qS zS zL)) (va_runV (As := [.int (zS 0 0)]) (rest := [.int (zS 0 0)]) ⟨hx, hb, hml, hown, htl⟩ (c_X6_missedIn l D cI cJ cZ n qS H.size zS zL (zS 0 0) u34 hu34) (cwV 1 htl (gV W_435 W_436 W_437 W_5 W_438) rfl rfl rfl (by decide +kernel) ⟨Nat.le_of_ble_eq_true rfl, Nat.le_of_ble_eq_true rfl⟩) (xPV hP hD hK hN 0 rfl rfl) rfl rfl hl.1 rfl (lv_room (Nat.le_of_ble_eq_true rfl)) (dAt zX6_seats_0 19 rfl) ⟨Nat.zero_le _, Nat.zero_le _⟩) hS hA hP hD [0, 1, 2, 3, 4, 5, 6, 7, 8, 9, 10, 11, 12, 13, 14, 15, 16] [] [0, 1, 2, 3, 4, 5, 6, 7, 8, 9, 10, 11, 12, 13, 14, 15, 16] rfl rfl (by decide) (by decide) rfl (by decide) (fun H locs hP hD hS => ?_)
      refine lv_iconst (v := (-1)) hx hb (dAt zX6_seats_0 20 rfl) (by decide) ?_
      refine lv_ixor hx hb (dAt zX6_seats_0 21 rfl) ?_
      refine lv_iand hx hb (dAt zX6_seats_0 22 rfl) ?_
      refine lv_istore_n (lv' := [(3, .int ((zS 0 0) &&& (u34 ^^^ (-1 : Int32)))), (0, .ref (qS 0)), (1, .int a1), (2, .int a2)]) hx hb (dAt zX6_seats_0 23 rfl) rfl hl (by decide) rfl (fun ls hl => ?_)
      refine lv_iconst (v := 0) hx hb (dAt zX6_seats_0 24 rfl) (by decide) ?_
      refine lv_istore (lv' := [(4, .int 0), (3, .int ((zS 0 0) &&& (u34 ^^^ (-1 : Int32)))), (0, .ref (qS 0)), (1, .int a1), (2, .int a2)]) hx hb (dAt zX6_seats_0 25 rfl) hl (by decide) rfl (fun ls hl => ?_)
      refine lv_iconst (v := 1) hx hb (dAt zX6_seats_0 26 rfl) (by decide) ?_
      refine lv_istore (lv' := [(5, .int 1), (4, .int 0), (3, .int ((zS 0 0) &&& (u34 ^^^ (-1 : Int32)))), (0, .ref (qS 0)), (1, .int a1), (2, .int a2)]) hx hb (dAt zX6_seats_0 27 rfl) hl (by decide) rfl (fun ls hl => ?_)
      have L_47 : ∀ (j_47 : Nat) (v4_47 : Int32) (v5_47 : Int32) (H : Heap) (locs : List Loc) (ls : Array Slot), loopF (b_X6_seats_47 n zS zL a1 a2 u34) j_47 (v4_47, v5_47) = some out → va_P D vwCl (w6 cI cJ cZ qS zS zL) H → va_D A (w6 cI cJ cZ qS zS zL) → va_S A s.heap H locs → lv_has ls 7 [(0, .ref (qS 0)), (1, .int a1), (2, .int a2), (3, .int ((zS 0 0) &&& (u34 ^^^ (-1 : Int32)))), (4, .int v4_47), (5, .int v5_47)] → W p l e { frames := 4, cells := 0, slots := 0, locals := 92 } s m args below meth c H locs 0 0 Q (F0 m 47 ls []) := by
        intro j_47
        induction j_47 with
        | zero => intro v4_47 v5_47 H locs ls h hP hD hS hl; exact loopF_0 h
        | succ j_47 ih_47 =>
          intro v4_47 v5_47 H locs ls h hP hD hS hl
          have h := loopF_s h
          unfold b_X6_seats_47 at h
          refine lv_iload hx hb (dAt zX6_seats_0 28 rfl) (lv_at hl 5 rfl) ?_
          refine lv_sipush (v := 1023) hx hb (dAt zX6_seats_0 29 rfl) (by decide) ?_
          refine lv_icmp_gt (tgt := 122) hx hb (dAt zX6_seats_0 30 rfl) (by decide) (fun c_52 => ?_) (fun c_52 => ?_)
          · have h := q_pos c_52 h
            refine lv_iload_n hx hb (dAt zX6_seats_0 62 rfl) rfl (lv_at hl 2 rfl) ?_
            refine lv_if_ne (tgt := 134) hx hb (dAt zX6_seats_0 63 rfl) (by decide) (fun c_123 => ?_) (fun c_123 => ?_)
            · have h := q_neg c_123 h
              refine lv_iload hx hb (dAt zX6_seats_0 67 rfl) (lv_at hl 4 rfl) ?_
              obtain rfl := q_some h
              exact xRi hx hb hr hlocks hQ hAe hP hD hK hS rfl (dAt zX6_seats_0 68 rfl)
            · have h := q_pos c_123 h
              refine lv_iload hx hb (dAt zX6_seats_0 64 rfl) (lv_at hl 4 rfl) ?_
              obtain ⟨u128, hu128, h⟩ := q_bind h
              refine xFi (wc := ([] : va_W)) (w1 := ([] : va_W)) (wr := (w6 cI cJ cZ qS zS zL)) (ws2 := (w6 cI cJ cZ qS zS zL)) (va_runS (As := [.int v4_47]) (rest := []) ⟨hx, hb, hml, hown, htl⟩ (c_X6_ones l D cI cJ cZ n  H.size  v4_47 u128 hu128) (va_cwS 1 htl (gS W_165 W_166 W_5 W_167) rfl rfl rfl (by decide +kernel) ⟨Nat.le_of_ble_eq_true rfl, Nat.le_of_ble_eq_true rfl⟩) (xPS xP0 (xD0 A) hK hN) rfl rfl hl.1 rfl (lv_room (Nat.le_of_ble_eq_true rfl)) (dAt zX6_seats_0 65 rfl) ⟨Nat.zero_le _, Nat.zero_le _⟩) hS hA hP hD [] [0, 1, 2, 3, 4, 5, 6, 7, 8, 9, 10, 11, 12, 13, 14, 15, 16] [0, 1, 2, 3, 4, 5, 6, 7, 8, 9, 10, 11, 12, 13, 14, 15, 16] rfl rfl (by decide) (by decide) rfl (by decide) (fun H locs hP hD hS => ?_)
              refine lv_goto (tgt := 136) hx hb (dAt zX6_seats_0 66 rfl) (by decide) ?_
              obtain rfl := q_some h
              exact xRi hx hb hr hlocks hQ hAe hP hD hK hS rfl (dAt zX6_seats_0 68 rfl)
          · have h := q_neg c_52 h
            refine lv_iload hx hb (dAt zX6_seats_0 31 rfl) (lv_at hl 5 rfl) ?_
            refine lv_iload_n hx hb (dAt zX6_seats_0 32 rfl) rfl (lv_at hl 3 rfl) ?_
            refine lv_iconst (v := (-1)) hx hb (dAt zX6_seats_0 33 rfl) (by decide) ?_
            refine lv_ixor hx hb (dAt zX6_seats_0 34 rfl) ?_
            refine lv_iand hx hb (dAt zX6_seats_0 35 rfl) ?_
            refine lv_if_ne (tgt := 90) hx hb (dAt zX6_seats_0 36 rfl) (by decide) (fun c_61 => ?_) (fun c_61 => ?_)
            · have h := q_neg c_61 h
              refine lv_iconst (v := 0) hx hb (dAt zX6_seats_0 48 rfl) (by decide) ?_
              refine lv_istore (lv' := [(6, .int 0), (0, .ref (qS 0)), (1, .int a1), (2, .int a2), (3, .int ((zS 0 0) &&& (u34 ^^^ (-1 : Int32)))), (4, .int v4_47), (5, .int v5_47)]) hx hb (dAt zX6_seats_0 49 rfl) hl (by decide) rfl (fun ls hl => ?_)
              refine lv_iload hx hb (dAt zX6_seats_0 50 rfl) (lv_at hl 0 rfl) ?_
              refine lv_if_eq (tgt := 112) hx hb (dAt zX6_seats_0 51 rfl) (by decide) (fun _ => ?_) (fun c => absurd (by decide) c)
              refine lv_iload hx hb (dAt zX6_seats_0 58 rfl) (lv_at hl 5 rfl) ?_
              refine lv_istore (lv' := [(4, .int v4_47), (6, .int 0), (0, .ref (qS 0)), (1, .int a1), (2, .int a2), (3, .int ((zS 0 0) &&& (u34 ^^^ (-1 : Int32)))), (5, .int v5_47)]) hx hb (dAt zX6_seats_0 59 rfl) hl (by decide) rfl (fun ls hl => ?_)
              refine lv_iinc (v := (v5_47 + 1)) (lv' := [(5, .int (v5_47 + 1)), (4, .int v4_47), (6, .int 0), (0, .ref (qS 0)), (1, .int a1), (2, .int a2), (3, .int ((zS 0 0) &&& (u34 ^^^ (-1 : Int32))))]) hx hb (dAt zX6_seats_0 60 rfl) hl (k := 6) rfl rfl (by decide) rfl (fun ls hl => ?_)
              refine lv_goto (tgt := 47) hx hb (dAt zX6_seats_0 61 rfl) (by decide) ?_
              exact ih_47 v4_47 (v5_47 + 1) _ _ _ h hP hD hS (lv_sub hl [3, 4, 5, 6, 1, 0] rfl)
            · have h := q_pos c_61 h
              refine lv_iload hx hb (dAt zX6_seats_0 37 rfl) (lv_at hl 5 rfl) ?_
              obtain ⟨u66, hu66, h⟩ := q_bind h
              refine xFi (wc := ([] : va_W)) (w1 := ([] : va_W)) (wr := (w6 cI cJ cZ qS zS zL)) (ws2 := (w6 cI cJ cZ qS zS zL)) (va_runS (As := [.int v5_47]) (rest := []) ⟨hx, hb, hml, hown, htl⟩ (c_X6_ones l D cI cJ cZ n  H.size  v5_47 u66 hu66) (va_cwS 1 htl (gS W_165 W_166 W_5 W_167) rfl rfl rfl (by decide +kernel) ⟨Nat.le_of_ble_eq_true rfl, Nat.le_of_ble_eq_true rfl⟩) (xPS xP0 (xD0 A) hK hN) rfl rfl hl.1 rfl (lv_room (Nat.le_of_ble_eq_true rfl)) (dAt zX6_seats_0 38 rfl) ⟨Nat.zero_le _, Nat.zero_le _⟩) hS hA hP hD [] [0, 1, 2, 3, 4, 5, 6, 7, 8, 9, 10, 11, 12, 13, 14, 15, 16] [0, 1, 2, 3, 4, 5, 6, 7, 8, 9, 10, 11, 12, 13, 14, 15, 16] rfl rfl (by decide) (by decide) rfl (by decide) (fun H locs hP hD hS => ?_)
              refine lv_iload_n hx hb (dAt zX6_seats_0 39 rfl) rfl (lv_at hl 1 rfl) ?_
              refine lv_icmp_gt (tgt := 90) hx hb (dAt zX6_seats_0 40 rfl) (by decide) (fun c_70 => ?_) (fun c_70 => ?_)
              · have h := q_pos c_70 h
                refine lv_iconst (v := 0) hx hb (dAt zX6_seats_0 48 rfl) (by decide) ?_
                refine lv_istore (lv' := [(6, .int 0), (0, .ref (qS 0)), (1, .int a1), (2, .int a2), (3, .int ((zS 0 0) &&& (u34 ^^^ (-1 : Int32)))), (4, .int v4_47), (5, .int v5_47)]) hx hb (dAt zX6_seats_0 49 rfl) hl (by decide) rfl (fun ls hl => ?_)
                refine lv_iload hx hb (dAt zX6_seats_0 50 rfl) (lv_at hl 0 rfl) ?_
                refine lv_if_eq (tgt := 112) hx hb (dAt zX6_seats_0 51 rfl) (by decide) (fun _ => ?_) (fun c => absurd (by decide) c)
                refine lv_iload hx hb (dAt zX6_seats_0 58 rfl) (lv_at hl 5 rfl) ?_
                refine lv_istore (lv' := [(4, .int v4_47), (6, .int 0), (0, .ref (qS 0)), (1, .int a1), (2, .int a2), (3, .int ((zS 0 0) &&& (u34 ^^^ (-1 : Int32)))), (5, .int v5_47)]) hx hb (dAt zX6_seats_0 59 rfl) hl (by decide) rfl (fun ls hl => ?_)
                refine lv_iinc (v := (v5_47 + 1)) (lv' := [(5, .int (v5_47 + 1)), (4, .int v4_47), (6, .int 0), (0, .ref (qS 0)), (1, .int a1), (2, .int a2), (3, .int ((zS 0 0) &&& (u34 ^^^ (-1 : Int32))))]) hx hb (dAt zX6_seats_0 60 rfl) hl (k := 6) rfl rfl (by decide) rfl (fun ls hl => ?_)
                refine lv_goto (tgt := 47) hx hb (dAt zX6_seats_0 61 rfl) (by decide) ?_
                exact ih_47 v4_47 (v5_47 + 1) _ _ _ h hP hD hS (lv_sub hl [3, 4, 5, 6, 1, 0] rfl)
              · have h := q_neg c_70 h
                refine lv_iload hx hb (dAt zX6_seats_0 41 rfl) (lv_at hl 5 rfl) ?_
                obtain ⟨u75, hu75, h⟩ := q_bind h
                refine xFi (wc := ([] : va_W)) (w1 := ([] : va_W)) (wr := (w6 cI cJ cZ qS zS zL)) (ws2 := (w6 cI cJ cZ qS zS zL)) (va_runS (As := [.int v5_47]) (rest := []) ⟨hx, hb, hml, hown, htl⟩ (c_X6_ones l D cI cJ cZ n  H.size  v5_47 u75 hu75) (va_cwS 1 htl (gS W_165 W_166 W_5 W_167) rfl rfl rfl (by decide +kernel) ⟨Nat.le_of_ble_eq_true rfl, Nat.le_of_ble_eq_true rfl⟩) (xPS xP0 (xD0 A) hK hN) rfl rfl hl.1 rfl (lv_room (Nat.le_of_ble_eq_true rfl)) (dAt zX6_seats_0 42 rfl) ⟨Nat.zero_le _, Nat.zero_le _⟩) hS hA hP hD [] [0, 1, 2, 3, 4, 5, 6, 7, 8, 9, 10, 11, 12, 13, 14, 15, 16] [0, 1, 2, 3, 4, 5, 6, 7, 8, 9, 10, 11, 12, 13, 14, 15, 16] rfl rfl (by decide) (by decide) rfl (by decide) (fun H locs hP hD hS => ?_)
                refine lv_iload hx hb (dAt zX6_seats_0 43 rfl) (lv_at hl 4 rfl) ?_
                obtain ⟨u80, hu80, h⟩ := q_bind h
                refine xFi (wc := ([] : va_W)) (w1 := ([] : va_W)) (wr := (w6 cI cJ cZ qS zS zL)) (ws2 := (w6 cI cJ cZ qS zS zL)) (va_runS (As := [.int v4_47]) (rest := [.int u75]) ⟨hx, hb, hml, hown, htl⟩ (c_X6_ones l D cI cJ cZ n  H.size  v4_47 u80 hu80) (va_cwS 1 htl (gS W_165 W_166 W_5 W_167) rfl rfl rfl (by decide +kernel) ⟨Nat.le_of_ble_eq_true rfl, Nat.le_of_ble_eq_true rfl⟩) (xPS xP0 (xD0 A) hK hN) rfl rfl hl.1 rfl (lv_room (Nat.le_of_ble_eq_true rfl)) (dAt zX6_seats_0 44 rfl) ⟨Nat.zero_le _, Nat.zero_le _⟩) hS hA hP hD [] [0, 1, 2, 3, 4, 5, 6, 7, 8, 9, 10, 11, 12, 13, 14, 15, 16] [0, 1, 2, 3, 4, 5, 6, 7, 8, 9, 10, 11, 12, 13, 14, 15, 16] rfl rfl (by decide) (by decide) rfl (by decide) (fun H locs hP hD hS => ?_)
                refine lv_icmp_le (tgt := 90) hx hb (dAt zX6_seats_0 45 rfl) (by decide) (fun c_83 => ?_) (fun c_83 => ?_)
                · have h := q_pos c_83 h
                  refine lv_iconst (v := 0) hx hb (dAt zX6_seats_0 48 rfl) (by decide) ?_
                  refine lv_istore (lv' := [(6, .int 0), (0, .ref (qS 0)), (1, .int a1), (2, .int a2), (3, .int ((zS 0 0) &&& (u34 ^^^ (-1 : Int32)))), (4, .int v4_47), (5, .int v5_47)]) hx hb (dAt zX6_seats_0 49 rfl) hl (by decide) rfl (fun ls hl => ?_)
                  refine lv_iload hx hb (dAt zX6_seats_0 50 rfl) (lv_at hl 0 rfl) ?_
                  refine lv_if_eq (tgt := 112) hx hb (dAt zX6_seats_0 51 rfl) (by decide) (fun _ => ?_) (fun c => absurd (by decide) c)
                  refine lv_iload hx hb (dAt zX6_seats_0 58 rfl) (lv_at hl 5 rfl) ?_
                  refine lv_istore (lv' := [(4, .int v4_47), (6, .int 0), (0, .ref (qS 0)), (1, .int a1), (2, .int a2), (3, .int ((zS 0 0) &&& (u34 ^^^ (-1 : Int32)))), (5, .int v5_47)]) hx hb (dAt zX6_seats_0 59 rfl) hl (by decide) rfl (fun ls hl => ?_)
                  refine lv_iinc (v := (v5_47 + 1)) (lv' := [(5, .int (v5_47 + 1)), (4, .int v4_47), (6, .int 0), (0, .ref (qS 0)), (1, .int a1), (2, .int a2), (3, .int ((zS 0 0) &&& (u34 ^^^ (-1 : Int32))))]) hx hb (dAt zX6_seats_0 60 rfl) hl (k := 6) rfl rfl (by decide) rfl (fun ls hl => ?_)
                  refine lv_goto (tgt := 47) hx hb (dAt zX6_seats_0 61 rfl) (by decide) ?_
                  exact ih_47 v4_47 (v5_47 + 1) _ _ _ h hP hD hS (lv_sub hl [3, 4, 5, 6, 1, 0] rfl)
                · have h := q_neg c_83 h
                  refine lv_iconst (v := 1) hx hb (dAt zX6_seats_0 46 rfl) (by decide) ?_
                  refine lv_goto (tgt := 91) hx hb (dAt zX6_seats_0 47 rfl) (by decide) ?_
                  refine lv_istore (lv' := [(6, .int 1), (0, .ref (qS 0)), (1, .int a1), (2, .int a2), (3, .int ((zS 0 0) &&& (u34 ^^^ (-1 : Int32)))), (4, .int v4_47), (5, .int v5_47)]) hx hb (dAt zX6_seats_0 49 rfl) hl (by decide) rfl (fun ls hl => ?_)
                  refine lv_iload hx hb (dAt zX6_seats_0 50 rfl) (lv_at hl 0 rfl) ?_
                  refine lv_if_eq (tgt := 112) hx hb (dAt zX6_seats_0 51 rfl) (by decide) (fun c => absurd c (by decide)) (fun _ => ?_)
                  refine lv_aload_n hx hb (dAt zX6_seats_0 52 rfl) rfl (lv_at hl 1 rfl) ?_
                  refine lv_iload hx hb (dAt zX6_seats_0 53 rfl) (lv_at hl 6 rfl) ?_
                  obtain ⟨u101, hu101, h⟩ := q_bind h
                  refine xFz (wc := (w6 cI cJ cZ qS zS zL)) (w1 := (w6 cI cJ cZ qS zS zL)) (wr := ([] : va_W)) (ws2 := (w6 cI cJ cZ qS zS zL)) (va_runV (As := [.int v5_47]) (rest := []) ⟨hx, hb, hml, hown, htl⟩ (c_X6_areApart l D cI cJ cZ n qS H.size zS zL v5_47 u101 hu101) (cwV 1 htl (gV W_606 W_607 W_608 W_5 W_609) rfl rfl rfl (by decide +kernel) ⟨Nat.le_of_ble_eq_true rfl, Nat.le_of_ble_eq_true rfl⟩) (xPV hP hD hK hN 0 rfl rfl) rfl rfl hl.1 rfl (lv_room (Nat.le_of_ble_eq_true rfl)) (dAt zX6_seats_0 54 rfl) ⟨Nat.zero_le _, Nat.zero_le _⟩) hS hA hP hD [0, 1, 2, 3, 4, 5, 6, 7, 8, 9, 10, 11, 12, 13, 14, 15, 16] [] [0, 1, 2, 3, 4, 5, 6, 7, 8, 9, 10, 11, 12, 13, 14, 15, 16] rfl rfl (by decide) (by decide) rfl (by decide) (fun H locs hz101 hP hD hS => ?_)
                  refine lv_if_eq (tgt := 112) hx hb (dAt zX6_seats_0 55 rfl) (by decide) (fun c_104 => ?_) (fun c_104 => ?_)
                  · have h := q_pos c_104 h
                    refine lv_iload hx hb (dAt zX6_seats_0 58 rfl) (lv_at hl 5 rfl) ?_
                    refine lv_istore (lv' := [(4, .int v4_47), (6, .int 1), (0, .ref (qS 0)), (1, .int a1), (2, .int a2), (3, .int ((zS 0 0) &&& (u34 ^^^ (-1 : Int32)))), (5, .int v5_47)]) hx hb (dAt zX6_seats_0 59 rfl) hl (by decide) rfl (fun ls hl => ?_)
                    refine lv_iinc (v := (v5_47 + 1)) (lv' := [(5, .int (v5_47 + 1)), (4, .int v4_47), (6, .int 1), (0, .ref (qS 0)), (1, .int a1), (2, .int a2), (3, .int ((zS 0 0) &&& (u34 ^^^ (-1 : Int32))))]) hx hb (dAt zX6_seats_0 60 rfl) hl (k := 6) rfl rfl (by decide) rfl (fun ls hl => ?_)
                    refine lv_goto (tgt := 47) hx hb (dAt zX6_seats_0 61 rfl) (by decide) ?_
                    exact ih_47 v4_47 (v5_47 + 1) _ _ _ h hP hD hS (lv_sub hl [3, 4, 5, 6, 1, 0] rfl)
                  · have h := q_neg c_104 h
                    refine lv_iload hx hb (dAt zX6_seats_0 56 rfl) (lv_at hl 6 rfl) ?_
                    refine lv_goto (tgt := 114) hx hb (dAt zX6_seats_0 57 rfl) (by decide) ?_
                    refine lv_istore (lv' := [(4, .int v5_47), (6, .int 1), (0, .ref (qS 0)), (1, .int a1), (2, .int a2), (3, .int ((zS 0 0) &&& (u34 ^^^ (-1 : Int32)))), (5, .int v5_47)]) hx hb (dAt zX6_seats_0 59 rfl) hl (by decide) rfl (fun ls hl => ?_)
                    refine lv_iinc (v := (v5_47 + 1)) (lv' := [(5, .int (v5_47 + 1)), (4, .int v5_47), (6, .int 1), (0, .ref (qS 0)), (1, .int a1), (2, .int a2), (3, .int ((zS 0 0) &&& (u34 ^^^ (-1 : Int32))))]) hx hb (dAt zX6_seats_0 60 rfl) hl (k := 6) rfl rfl (by decide) rfl (fun ls hl => ?_)
                    refine lv_goto (tgt := 47) hx hb (dAt zX6_seats_0 61 rfl) (by decide) ?_
                    exact ih_47 v5_47 (v5_47 + 1) _ _ _ h hP hD hS (lv_sub hl [3, 4, 5, 6, 1, 0] rfl)
      exact L_47 n 0 1 _ _ _ h hP hD hS (lv_sub hl [3, 4, 5, 2, 1, 0] rfl)
    · have h := q_pos c_19 h
      refine lv_bipush (v := (-2)) hx hb (dAt zX6_seats_0 12 rfl) (by decide) ?_
      obtain rfl := q_some h
      exact xRi hx hb hr hlocks hQ hAe hP hD hK hS rfl (dAt zX6_seats_0 13 rfl)
def b_X6_readOdds_48 (n : Nat) (v3_34 : Int32) (v4_34 : Int32) (zS_34 : TI) (k_34 : Int32 × Int32 × TI → Option TI) (s_48 : Int32 × Int32) (k_48 : Int32 × Int32 → Option TI) : Option TI := (if 6 ≤ s_48.2 then (gd (inB v4_34 6) ((k_34 ((v3_34 ||| ((1 : Int32) <<< (s_48.1 &&& 31))), (v4_34 + 1), (upA zS_34 26 (upd (zS_34 26) (Int32.toNatClampNeg v4_34) s_48.1)))))) else ((m_X6_has n  v3_34 s_48.2).bind fun u58 => (if u58 = 0 then (if s_48.1 < 0 then (k_48 (s_48.2, (s_48.2 + 1))) else (gd (inB s_48.2 6) ((gd (inB s_48.1 6) ((if ((zS_34 25) (Int32.toNatClampNeg s_48.2)) ≤ ((zS_34 25) (Int32.toNatClampNeg s_48.1)) then (k_48 (s_48.1, (s_48.2 + 1))) else (k_48 (s_48.2, (s_48.2 + 1))))))))) else (k_48 (s_48.1, (s_48.2 + 1))))))
def b_X6_readOdds_34 (n : Nat) (s_34 : Int32 × Int32 × TI) (k_34 : Int32 × Int32 × TI → Option TI) : Option TI := (if 6 ≤ s_34.2.1 then some s_34.2.2 else (loopF (b_X6_readOdds_48 n s_34.1 s_34.2.1 s_34.2.2 k_34) n ((-6), 0)))
def b_X6_readOdds_4 (n : Nat) (s_4 : Int32 × Int32 × TI) (k_4 : Int32 × Int32 × TI → Option TI) : Option TI := (if s_4.2.1 < 0 then (loopF (b_X6_readOdds_34 n ) n (0, 0, s_4.2.2)) else (gd (inB s_4.2.1 6) ((k_4 ((s_4.1 / (10 : Int32)), (s_4.2.1 + (-1)), (upA s_4.2.2 25 (upd (s_4.2.2 25) (Int32.toNatClampNeg s_4.2.1) (jrem s_4.1 (10 : Int32)))))))))
def m_X6_readOdds (n : Nat) (zS : TI) (zL : TL) (a1 : Int32) : Option TI := (loopF (b_X6_readOdds_4 n ) n (a1, 5, zS))
set_option maxHeartbeats 4000000 in
set_option maxRecDepth 100000 in
theorem c_X6_readOdds (l : Launch) (D : va_G) (cI cJ cZ : ClassId) (n : Nat) (qS : Nat → Nat) (sz : Nat) (zS : TI) (zL : TL) (a1 : Int32) (out : TI) (hm : m_X6_readOdds n zS zL a1 = some out) : Met l yX6_readOdds (wsM yX6_readOdds cX6_readOdds 7 none) { frames := 1, cells := 0, slots := 0, locals := 21 } (xPre D (kT cI cJ cZ) (w6 cI cJ cZ qS zS zL) sz [.ref (qS 0), .int a1]) (xQv D (kT cI cJ cZ) (w6 cI cJ cZ qS zS zL) (w6 cI cJ cZ qS out zL) sz) 0 0 (va_A (w6 cI cJ cZ qS zS zL) sz) := by
  refine Met.ofW (cc := cX6_readOdds) (maxL := 7) (ret := none) (by decide) rfl ?_
  intro p e s m args below meth c s₁ B hml hv
  obtain ⟨hv, hsz, hP, hK, hD0, hN⟩ := hv
  have hx := B.exec; have hb := B.bytes; have hr := B.returns
  have hts := atoms_spec (ws := (wsM yX6_readOdds cX6_readOdds 7 none)) B.pre
  have hown : s.vm.findClass RX6 = some m.cls := findClass_of_methodNamed B.named
  have hlocks := B.notSynchronized
  subst hsz
  have hD := hD0.self (sz := s.heap.size)
  obtain ⟨A, hAe⟩ : ∃ A, A = va_A (w6 cI cJ cZ qS zS zL) s.heap.size := ⟨_, rfl⟩
  rw [← hAe] at hD
  have hA : ∀ q : Nat, s.heap.size ≤ q → A q := fun q h => by rw [hAe]; exact Or.inr h
  have htl : ∀ w ∈ wsL_law, w.before args s = true := fun w h => hts w (List.mem_cons_of_mem _ h)
  refine xHead (R' := { frames := 1, cells := 0, slots := 0, locals := 21 }) rfl (fun Q H hQ hH => ?_)
  have hP : va_P D vwCl (w6 cI cJ cZ qS zS zL) H := by rw [hH]; exact hP
  have hS : va_S A s.heap H [] := by rw [hH]; exact va_S.rf
  refine xStart hv (Nat.le_of_ble_eq_true rfl) (lv := [(0, .ref (qS 0)), (1, .int a1)]) rfl (fun ls hl => ?_)
  have h := hm
  unfold m_X6_readOdds at h
  refine lv_iload_n hx hb (dAt zX6_readOdds_0 0 rfl) rfl (lv_at hl 1 rfl) ?_
  refine lv_istore_n (lv' := [(2, .int a1), (0, .ref (qS 0)), (1, .int a1)]) hx hb (dAt zX6_readOdds_0 1 rfl) rfl hl (by decide) rfl (fun ls hl => ?_)
  refine lv_iconst (v := 5) hx hb (dAt zX6_readOdds_0 2 rfl) (by decide) ?_
  refine lv_istore_n (lv' := [(3, .int 5), (2, .int a1), (0, .ref (qS 0)), (1, .int a1)]) hx hb (dAt zX6_readOdds_0 3 rfl) rfl hl (by decide) rfl (fun ls hl => ?_)
  have L_4 : ∀ (j_4 : Nat) (v2_4 : Int32) (v3_4 : Int32) (zS_4 : TI) (H : Heap) (locs : List Loc) (ls : Array Slot), loopF (b_X6_readOdds_4 n) j_4 (v2_4, v3_4, zS_4) = some out → va_P D vwCl (w6 cI cJ cZ qS zS_4 zL) H → va_D A (w6 cI cJ cZ qS zS_4 zL) → va_S A s.heap H locs → lv_has ls 7 [(0, .ref (qS 0)), (2, .int v2_4), (3, .int v3_4)] → W p l e { frames := 1, cells := 0, slots := 0, locals := 21 } s m args below meth c H locs 0 0 Q (F0 m 4 ls []) := by
    intro j_4
    induction j_4 with
    | zero => intro v2_4 v3_4 zS_4 H locs ls h hP hD hS hl; exact loopF_0 h
    | succ j_4 ih_4 =>
      intro v2_4 v3_4 zS_4 H locs ls h hP hD hS hl
      have h := loopF_s h
      unfold b_X6_readOdds_4 at h
      refine lv_iload_n hx hb (dAt zX6_readOdds_0 4 rfl) rfl (lv_at hl 2 rfl) ?_
      refine lv_if_lt (tgt := 29) hx hb (dAt zX6_readOdds_0 5 rfl) (by decide) (fun c_5 => ?_) (fun c_5 => ?_)
      · have h := q_pos c_5 h
        refine lv_iconst (v := 0) hx hb (dAt zX6_readOdds_0 19 rfl) (by decide) ?_
        refine lv_istore_n (lv' := [(3, .int 0), (0, .ref (qS 0)), (2, .int v2_4)]) hx hb (dAt zX6_readOdds_0 20 rfl) rfl hl (by decide) rfl (fun ls hl => ?_)
        refine lv_iconst (v := 0) hx hb (dAt zX6_readOdds_0 21 rfl) (by decide) ?_
        refine lv_istore (lv' := [(4, .int 0), (3, .int 0), (0, .ref (qS 0)), (2, .int v2_4)]) hx hb (dAt zX6_readOdds_0 22 rfl) hl (by decide) rfl (fun ls hl => ?_)
        have L_34 : ∀ (j_34 : Nat) (v3_34 : Int32) (v4_34 : Int32) (zS_34 : TI) (H : Heap) (locs : List Loc) (ls : Array Slot), loopF (b_X6_readOdds_34 n) j_34 (v3_34, v4_34, zS_34) = some out → va_P D vwCl (w6 cI cJ cZ qS zS_34 zL) H → va_D A (w6 cI cJ cZ qS zS_34 zL) → va_S A s.heap H locs → lv_has ls 7 [(0, .ref (qS 0)), (3, .int v3_34), (4, .int v4_34)] → W p l e { frames := 1, cells := 0, slots := 0, locals := 21 } s m args below meth c H locs 0 0 Q (F0 m 34 ls []) := by
          intro j_34
          induction j_34 with
          | zero => intro v3_34 v4_34 zS_34 H locs ls h hP hD hS hl; exact loopF_0 h
          | succ j_34 ih_34 =>
            intro v3_34 v4_34 zS_34 H locs ls h hP hD hS hl
            have h := loopF_s h
            unfold b_X6_readOdds_34 at h
            refine lv_iload hx hb (dAt zX6_readOdds_0 23 rfl) (lv_at hl 2 rfl) ?_
            refine lv_bipush (v := 6) hx hb (dAt zX6_readOdds_0 24 rfl) (by decide) ?_
            refine lv_icmp_ge (tgt := 123) hx hb (dAt zX6_readOdds_0 25 rfl) (by decide) (fun c_38 => ?_) (fun c_38 => ?_)
            · have h := q_pos c_38 h
              obtain rfl := q_some h
              exact xRv hx hb hr hlocks hQ hAe hP hD hK hS (dAt zX6_readOdds_0 67 rfl)
            · have h := q_neg c_38 h
              refine lv_bipush (v := (-6)) hx hb (dAt zX6_readOdds_0 26 rfl) (by decide) ?_
              refine lv_istore (lv' := [(5, .int (-6)), (0, .ref (qS 0)), (3, .int v3_34), (4, .int v4_34)]) hx hb (dAt zX6_readOdds_0 27 rfl) hl (by decide) rfl (fun ls hl => ?_)
              refine lv_iconst (v := 0) hx hb (dAt zX6_readOdds_0 28 rfl) (by decide) ?_
              refine lv_istore (lv' := [(6, .int 0), (5, .int (-6)), (0, .ref (qS 0)), (3, .int v3_34), (4, .int v4_34)]) hx hb (dAt zX6_readOdds_0 29 rfl) hl (by decide) rfl (fun ls hl => ?_)
              have L_48 : ∀ (j_48 : Nat) (v5_48 : Int32) (v6_48 : Int32) (H : Heap) (locs : List Loc) (ls : Array Slot), loopF (b_X6_readOdds_48 n v3_34 v4_34 zS_34 (loopF (b_X6_readOdds_34 n) j_34)) j_48 (v5_48, v6_48) = some out → va_P D vwCl (w6 cI cJ cZ qS zS_34 zL) H → va_D A (w6 cI cJ cZ qS zS_34 zL) → va_S A s.heap H locs → lv_has ls 7 [(0, .ref (qS 0)), (3, .int v3_34), (4, .int v4_34), (5, .int v5_48), (6, .int v6_48)] → W p l e { frames := 1, cells := 0, slots := 0, locals := 21 } s m args below meth c H locs 0 0 Q (F0 m 48 ls []) := by
                intro j_48
                induction j_48 with
                | zero => intro v5_48 v6_48 H locs ls h hP hD hS hl; exact loopF_0 h
                | succ j_48 ih_48 =>
                  intro v5_48 v6_48 H locs ls h hP hD hS hl
                  have h := loopF_s h
                  unfold b_X6_readOdds_48 at h
                  refine lv_iload hx hb (dAt zX6_readOdds_0 30 rfl) (lv_at hl 4 rfl) ?_
                  refine lv_bipush (v := 6) hx hb (dAt zX6_readOdds_0 31 rfl) (by decide) ?_
                  refine lv_icmp_ge (tgt := 101) hx hb (dAt zX6_readOdds_0 32 rfl) (by decide) (fun c_52 => ?_) (fun c_52 => ?_)
                  · have h := q_pos c_52 h
                    refine lv_iload_n hx hb (dAt zX6_readOdds_0 54 rfl) rfl (lv_at hl 1 rfl) ?_
                    refine lv_iconst (v := 1) hx hb (dAt zX6_readOdds_0 55 rfl) (by decide) ?_
                    refine lv_iload hx hb (dAt zX6_readOdds_0 56 rfl) (lv_at hl 3 rfl) ?_
                    refine lv_ishl hx hb (dAt zX6_readOdds_0 57 rfl) ?_
                    refine lv_ior hx hb (dAt zX6_readOdds_0 58 rfl) ?_
                    refine lv_istore_n (lv' := [(3, .int (v3_34 ||| ((1 : Int32) <<< (v5_48 &&& 31)))), (0, .ref (qS 0)), (4, .int v4_34), (5, .int v5_48), (6, .int v6_48)]) hx hb (dAt zX6_readOdds_0 59 rfl) rfl hl (by decide) rfl (fun ls hl => ?_)
                    refine lv_aload_n hx hb (dAt zX6_readOdds_0 60 rfl) rfl (lv_at hl 1 rfl) ?_
                    refine va_get (D := D) (ci := 6) (v := .ref (qS 26)) (C := RX6) (T := TX6) (N := 32) hx hb htl inlX6 hown hK hP 0 rfl rfl 25 (by decide) (htl _ W_96) (fun _ h9 => h9) rfl (dAt zX6_readOdds_0 61 rfl) ?_
                    refine lv_iload hx hb (dAt zX6_readOdds_0 62 rfl) (lv_at hl 2 rfl) ?_
                    refine lv_iload hx hb (dAt zX6_readOdds_0 63 rfl) (lv_at hl 3 rfl) ?_
                    obtain ⟨hi_116, h⟩ := q_in h
                    refine va_iast hx hb hK hP hD hS 12 0 rfl rfl hi_116 (dAt zX6_readOdds_0 64 rfl) (fun H locs hP hD hS => ?_)
                    have hP : va_P D vwCl (w6x cI cJ cZ qS (zS_34 0 0) (zS_34 0 1) (zS_34 0 2) (zS_34 0 8) (zS_34 0 10) (zS_34 0 14) (zS_34 0 15) (zS_34 0 16) (zS_34 0 17) (zS_34 0 19) (zS_34 0 20) (zS_34 0 21) (zS_34 0 22) (zS_34 0 23) (zS_34 0 30) (zS_34 0 31) (zS_34 4) (zS_34 5) (zS_34 6) (zS_34 7) (zS_34 8) (zS_34 10) (zS_34 12) (zS_34 13) (zS_34 14) (zS_34 19) (zS_34 25) (upd (zS_34 26) (Int32.toNatClampNeg v4_34) v5_48) (zL 27) (zS_34 28) (zS_34 29) (zS_34 30)) H := hP
                    have hD : va_D A (w6x cI cJ cZ qS (zS_34 0 0) (zS_34 0 1) (zS_34 0 2) (zS_34 0 8) (zS_34 0 10) (zS_34 0 14) (zS_34 0 15) (zS_34 0 16) (zS_34 0 17) (zS_34 0 19) (zS_34 0 20) (zS_34 0 21) (zS_34 0 22) (zS_34 0 23) (zS_34 0 30) (zS_34 0 31) (zS_34 4) (zS_34 5) (zS_34 6) (zS_34 7) (zS_34 8) (zS_34 10) (zS_34 12) (zS_34 13) (zS_34 14) (zS_34 19) (zS_34 25) (upd (zS_34 26) (Int32.toNatClampNeg v4_34) v5_48) (zL 27) (zS_34 28) (zS_34 29) (zS_34 30)) := hD
                    refine lv_iinc (v := (v4_34 + 1)) (lv' := [(4, .int (v4_34 + 1)), (3, .int (v3_34 ||| ((1 : Int32) <<< (v5_48 &&& 31)))), (0, .ref (qS 0)), (5, .int v5_48), (6, .int v6_48)]) hx hb (dAt zX6_readOdds_0 65 rfl) hl (k := 2) rfl rfl (by decide) rfl (fun ls hl => ?_)
                    refine lv_goto (tgt := 34) hx hb (dAt zX6_readOdds_0 66 rfl) (by decide) ?_
                    have hP : va_P D vwCl (w6 cI cJ cZ qS (upA zS_34 26 (upd (zS_34 26) (Int32.toNatClampNeg v4_34) v5_48)) zL) H := hP
                    have hD : va_D A (w6 cI cJ cZ qS (upA zS_34 26 (upd (zS_34 26) (Int32.toNatClampNeg v4_34) v5_48)) zL) := hD
                    exact ih_34 (v3_34 ||| ((1 : Int32) <<< (v5_48 &&& 31))) (v4_34 + 1) (upA zS_34 26 (upd (zS_34 26) (Int32.toNatClampNeg v4_34) v5_48)) _ _ _ h hP hD hS (lv_sub hl [2, 1, 0] rfl)
                  · have h := q_neg c_52 h
                    refine lv_iload_n hx hb (dAt zX6_readOdds_0 33 rfl) rfl (lv_at hl 1 rfl) ?_
                    refine lv_iload hx hb (dAt zX6_readOdds_0 34 rfl) (lv_at hl 4 rfl) ?_
                    obtain ⟨u58, hu58, h⟩ := q_bind h
                    refine xFz (wc := ([] : va_W)) (w1 := ([] : va_W)) (wr := (w6 cI cJ cZ qS zS_34 zL)) (ws2 := (w6 cI cJ cZ qS zS_34 zL)) (va_runS (As := [.int v3_34, .int v6_48]) (rest := []) ⟨hx, hb, hml, hown, htl⟩ (c_X6_has l D cI cJ cZ n  H.size  v3_34 v6_48 u58 hu58) (va_cwS 2 htl (gS W_407 W_408 W_5 W_409) rfl rfl rfl (by decide +kernel) ⟨Nat.le_of_ble_eq_true rfl, Nat.le_of_ble_eq_true rfl⟩) (xPS xP0 (xD0 A) hK hN) rfl rfl hl.1 rfl (lv_room (Nat.le_of_ble_eq_true rfl)) (dAt zX6_readOdds_0 35 rfl) ⟨Nat.zero_le _, Nat.zero_le _⟩) hS hA hP hD [] [0, 1, 2, 3, 4, 5, 6, 7, 8, 9, 10, 11, 12, 13, 14, 15, 16] [0, 1, 2, 3, 4, 5, 6, 7, 8, 9, 10, 11, 12, 13, 14, 15, 16] rfl rfl (by decide) (by decide) rfl (by decide) (fun H locs hz58 hP hD hS => ?_)
                    refine lv_if_ne (tgt := 91) hx hb (dAt zX6_readOdds_0 36 rfl) (by decide) (fun c_61 => ?_) (fun c_61 => ?_)
                    · have h := q_neg c_61 h
                      refine lv_iload hx hb (dAt zX6_readOdds_0 50 rfl) (lv_at hl 3 rfl) ?_
                      refine lv_istore (lv' := [(5, .int v5_48), (0, .ref (qS 0)), (3, .int v3_34), (4, .int v4_34), (6, .int v6_48)]) hx hb (dAt zX6_readOdds_0 51 rfl) hl (by decide) rfl (fun ls hl => ?_)
                      refine lv_iinc (v := (v6_48 + 1)) (lv' := [(6, .int (v6_48 + 1)), (5, .int v5_48), (0, .ref (qS 0)), (3, .int v3_34), (4, .int v4_34)]) hx hb (dAt zX6_readOdds_0 52 rfl) hl (k := 4) rfl rfl (by decide) rfl (fun ls hl => ?_)
                      refine lv_goto (tgt := 48) hx hb (dAt zX6_readOdds_0 53 rfl) (by decide) ?_
                      exact ih_48 v5_48 (v6_48 + 1) _ _ _ h hP hD hS (lv_sub hl [2, 3, 4, 1, 0] rfl)
                    · have h := q_pos c_61 h
                      refine lv_iload hx hb (dAt zX6_readOdds_0 37 rfl) (lv_at hl 3 rfl) ?_
                      refine lv_if_lt (tgt := 86) hx hb (dAt zX6_readOdds_0 38 rfl) (by decide) (fun c_66 => ?_) (fun c_66 => ?_)
                      · have h := q_pos c_66 h
                        refine lv_iload hx hb (dAt zX6_readOdds_0 48 rfl) (lv_at hl 4 rfl) ?_
                        refine lv_goto (tgt := 93) hx hb (dAt zX6_readOdds_0 49 rfl) (by decide) ?_
                        refine lv_istore (lv' := [(5, .int v6_48), (0, .ref (qS 0)), (3, .int v3_34), (4, .int v4_34), (6, .int v6_48)]) hx hb (dAt zX6_readOdds_0 51 rfl) hl (by decide) rfl (fun ls hl => ?_)
                        refine lv_iinc (v := (v6_48 + 1)) (lv' := [(6, .int (v6_48 + 1)), (5, .int v6_48), (0, .ref (qS 0)), (3, .int v3_34), (4, .int v4_34)]) hx hb (dAt zX6_readOdds_0 52 rfl) hl (k := 4) rfl rfl (by decide) rfl (fun ls hl => ?_)
                        refine lv_goto (tgt := 48) hx hb (dAt zX6_readOdds_0 53 rfl) (by decide) ?_
                        exact ih_48 v6_48 (v6_48 + 1) _ _ _ h hP hD hS (lv_sub hl [2, 3, 4, 1, 0] rfl)
                      · have h := q_neg c_66 h
                        refine lv_aload_n hx hb (dAt zX6_readOdds_0 39 rfl) rfl (lv_at hl 0 rfl) ?_
                        refine va_get (D := D) (ci := 6) (v := .ref (qS 25)) (C := RX6) (T := TX6) (N := 32) hx hb htl inlX6 hown hK hP 0 rfl rfl 24 (by decide) (htl _ W_95) (fun _ h9 => h9) rfl (dAt zX6_readOdds_0 40 rfl) ?_
                        refine lv_iload hx hb (dAt zX6_readOdds_0 41 rfl) (lv_at hl 4 rfl) ?_
                        obtain ⟨hi_75, h⟩ := q_in h
                        refine va_iald hx hb hK hP 11 0 rfl rfl hi_75 (dAt zX6_readOdds_0 42 rfl) ?_
                        refine lv_aload_n hx hb (dAt zX6_readOdds_0 43 rfl) rfl (lv_at hl 0 rfl) ?_
                        refine va_get (D := D) (ci := 6) (v := .ref (qS 25)) (C := RX6) (T := TX6) (N := 32) hx hb htl inlX6 hown hK hP 0 rfl rfl 24 (by decide) (htl _ W_95) (fun _ h9 => h9) rfl (dAt zX6_readOdds_0 44 rfl) ?_
                        refine lv_iload hx hb (dAt zX6_readOdds_0 45 rfl) (lv_at hl 3 rfl) ?_
                        obtain ⟨hi_82, h⟩ := q_in h
                        refine va_iald hx hb hK hP 11 0 rfl rfl hi_82 (dAt zX6_readOdds_0 46 rfl) ?_
                        refine lv_icmp_le (tgt := 91) hx hb (dAt zX6_readOdds_0 47 rfl) (by decide) (fun c_83 => ?_) (fun c_83 => ?_)
                        · have h := q_pos c_83 h
                          refine lv_iload hx hb (dAt zX6_readOdds_0 50 rfl) (lv_at hl 3 rfl) ?_
                          refine lv_istore (lv' := [(5, .int v5_48), (0, .ref (qS 0)), (3, .int v3_34), (4, .int v4_34), (6, .int v6_48)]) hx hb (dAt zX6_readOdds_0 51 rfl) hl (by decide) rfl (fun ls hl => ?_)
                          refine lv_iinc (v := (v6_48 + 1)) (lv' := [(6, .int (v6_48 + 1)), (5, .int v5_48), (0, .ref (qS 0)), (3, .int v3_34), (4, .int v4_34)]) hx hb (dAt zX6_readOdds_0 52 rfl) hl (k := 4) rfl rfl (by decide) rfl (fun ls hl => ?_)
                          refine lv_goto (tgt := 48) hx hb (dAt zX6_readOdds_0 53 rfl) (by decide) ?_
                          exact ih_48 v5_48 (v6_48 + 1) _ _ _ h hP hD hS (lv_sub hl [2, 3, 4, 1, 0] rfl)
                        · have h := q_neg c_83 h
                          refine lv_iload hx hb (dAt zX6_readOdds_0 48 rfl) (lv_at hl 4 rfl) ?_
                          refine lv_goto (tgt := 93) hx hb (dAt zX6_readOdds_0 49 rfl) (by decide) ?_
                          refine lv_istore (lv' := [(5, .int v6_48), (0, .ref (qS 0)), (3, .int v3_34), (4, .int v4_34), (6, .int v6_48)]) hx hb (dAt zX6_readOdds_0 51 rfl) hl (by decide) rfl (fun ls hl => ?_)
                          refine lv_iinc (v := (v6_48 + 1)) (lv' := [(6, .int (v6_48 + 1)), (5, .int v6_48), (0, .ref (qS 0)), (3, .int v3_34), (4, .int v4_34)]) hx hb (dAt zX6_readOdds_0 52 rfl) hl (k := 4) rfl rfl (by decide) rfl (fun ls hl => ?_)
                          refine lv_goto (tgt := 48) hx hb (dAt zX6_readOdds_0 53 rfl) (by decide) ?_
                          exact ih_48 v6_48 (v6_48 + 1) _ _ _ h hP hD hS (lv_sub hl [2, 3, 4, 1, 0] rfl)
              exact L_48 n (-6) 0 _ _ _ h hP hD hS (lv_sub hl [2, 3, 4, 1, 0] rfl)
        exact L_34 n 0 0 zS_4 _ _ _ h hP hD hS (lv_sub hl [2, 1, 0] rfl)
      · have h := q_neg c_5 h
        refine lv_aload_n hx hb (dAt zX6_readOdds_0 6 rfl) rfl (lv_at hl 0 rfl) ?_
        refine va_get (D := D) (ci := 6) (v := .ref (qS 25)) (C := RX6) (T := TX6) (N := 32) hx hb htl inlX6 hown hK hP 0 rfl rfl 24 (by decide) (htl _ W_95) (fun _ h9 => h9) rfl (dAt zX6_readOdds_0 7 rfl) ?_
        refine lv_iload_n hx hb (dAt zX6_readOdds_0 8 rfl) rfl (lv_at hl 2 rfl) ?_
        refine lv_iload_n hx hb (dAt zX6_readOdds_0 9 rfl) rfl (lv_at hl 1 rfl) ?_
        refine lv_bipush (v := 10) hx hb (dAt zX6_readOdds_0 10 rfl) (by decide) ?_
        refine lv_irem hx hb (dAt zX6_readOdds_0 11 rfl) (by decide) ?_
        obtain ⟨hi_17, h⟩ := q_in h
        refine va_iast hx hb hK hP hD hS 11 0 rfl rfl hi_17 (dAt zX6_readOdds_0 12 rfl) (fun H locs hP hD hS => ?_)
        have hP : va_P D vwCl (w6x cI cJ cZ qS (zS_4 0 0) (zS_4 0 1) (zS_4 0 2) (zS_4 0 8) (zS_4 0 10) (zS_4 0 14) (zS_4 0 15) (zS_4 0 16) (zS_4 0 17) (zS_4 0 19) (zS_4 0 20) (zS_4 0 21) (zS_4 0 22) (zS_4 0 23) (zS_4 0 30) (zS_4 0 31) (zS_4 4) (zS_4 5) (zS_4 6) (zS_4 7) (zS_4 8) (zS_4 10) (zS_4 12) (zS_4 13) (zS_4 14) (zS_4 19) (upd (zS_4 25) (Int32.toNatClampNeg v3_4) (jrem v2_4 (10 : Int32))) (zS_4 26) (zL 27) (zS_4 28) (zS_4 29) (zS_4 30)) H := hP
        have hD : va_D A (w6x cI cJ cZ qS (zS_4 0 0) (zS_4 0 1) (zS_4 0 2) (zS_4 0 8) (zS_4 0 10) (zS_4 0 14) (zS_4 0 15) (zS_4 0 16) (zS_4 0 17) (zS_4 0 19) (zS_4 0 20) (zS_4 0 21) (zS_4 0 22) (zS_4 0 23) (zS_4 0 30) (zS_4 0 31) (zS_4 4) (zS_4 5) (zS_4 6) (zS_4 7) (zS_4 8) (zS_4 10) (zS_4 12) (zS_4 13) (zS_4 14) (zS_4 19) (upd (zS_4 25) (Int32.toNatClampNeg v3_4) (jrem v2_4 (10 : Int32))) (zS_4 26) (zL 27) (zS_4 28) (zS_4 29) (zS_4 30)) := hD
        refine lv_iload_n hx hb (dAt zX6_readOdds_0 13 rfl) rfl (lv_at hl 1 rfl) ?_
        refine lv_bipush (v := 10) hx hb (dAt zX6_readOdds_0 14 rfl) (by decide) ?_
        refine lv_idiv hx hb (dAt zX6_readOdds_0 15 rfl) (by decide) ?_
        refine lv_istore_n (lv' := [(2, .int (v2_4 / (10 : Int32))), (0, .ref (qS 0)), (3, .int v3_4)]) hx hb (dAt zX6_readOdds_0 16 rfl) rfl hl (by decide) rfl (fun ls hl => ?_)
        refine lv_iinc (v := (v3_4 + (-1))) (lv' := [(3, .int (v3_4 + (-1))), (2, .int (v2_4 / (10 : Int32))), (0, .ref (qS 0))]) hx hb (dAt zX6_readOdds_0 17 rfl) hl (k := 2) rfl rfl (by decide) rfl (fun ls hl => ?_)
        refine lv_goto (tgt := 4) hx hb (dAt zX6_readOdds_0 18 rfl) (by decide) ?_
        have hP : va_P D vwCl (w6 cI cJ cZ qS (upA zS_4 25 (upd (zS_4 25) (Int32.toNatClampNeg v3_4) (jrem v2_4 (10 : Int32)))) zL) H := hP
        have hD : va_D A (w6 cI cJ cZ qS (upA zS_4 25 (upd (zS_4 25) (Int32.toNatClampNeg v3_4) (jrem v2_4 (10 : Int32)))) zL) := hD
        exact ih_4 (v2_4 / (10 : Int32)) (v3_4 + (-1)) (upA zS_4 25 (upd (zS_4 25) (Int32.toNatClampNeg v3_4) (jrem v2_4 (10 : Int32)))) _ _ _ h hP hD hS (lv_sub hl [2, 1, 0] rfl)
  exact L_4 n a1 5 zS _ _ _ h hP hD hS (lv_sub hl [2, 1, 0] rfl)
def b_X6_lowest_6 (n : Nat) (a1 : Int64) (a2 : Int64) (a3 : Int32) (s_6 : Int64 × Int64) (k_6 : Int64 × Int64 → Option Int64) : Option Int64 := (if (lg_cmp s_6.2 (0 : Int64)) = 0 then (if a3 = 0 then (gd (nzL s_6.1) (some (a1 / s_6.1))) else (gd (nzL s_6.1) (some (a2 / s_6.1)))) else (gd (nzL s_6.2) ((k_6 (s_6.2, (jremL s_6.1 s_6.2))))))
def m_X6_lowest (n : Nat) (a1 : Int64) (a2 : Int64) (a3 : Int32) : Option Int64 := (loopF (b_X6_lowest_6 n a1 a2 a3 ) n (a2, a1))
set_option maxHeartbeats 4000000 in
set_option maxRecDepth 100000 in
theorem c_X6_lowest (l : Launch) (D : va_G) (cI cJ cZ : ClassId) (n : Nat)  (sz : Nat) (a1 : Int64) (a2 : Int64) (a3 : Int32) (out : Int64) (hm : m_X6_lowest n a1 a2 a3 = some out) : Met l yX6_lowest (wsM yX6_lowest cX6_lowest 11 (some .long)) { frames := 0, cells := 0, slots := 0, locals := 0 } (xPre D (kT cI cJ cZ) ([] : va_W) sz [.long a1, .long a2, .int a3]) (xQl D (kT cI cJ cZ) ([] : va_W) ([] : va_W) sz out) 0 0 (va_A ([] : va_W) sz) := by
  refine Met.ofW (cc := cX6_lowest) (maxL := 11) (ret := (some .long)) (by decide) rfl ?_
  intro p e s m args below meth c s₁ B hml hv
  obtain ⟨hv, hsz, hP, hK, hD0, hN⟩ := hv
  have hx := B.exec; have hb := B.bytes; have hr := B.returns
  have hts := atoms_spec (ws := (wsM yX6_lowest cX6_lowest 11 (some .long))) B.pre
  have hown : s.vm.findClass RX6 = some m.cls := findClass_of_methodNamed B.named
  have hlocks := B.notSynchronized
  subst hsz
  have hD := hD0.self (sz := s.heap.size)
  obtain ⟨A, hAe⟩ : ∃ A, A = va_A ([] : va_W) s.heap.size := ⟨_, rfl⟩
  rw [← hAe] at hD
  have hA : ∀ q : Nat, s.heap.size ≤ q → A q := fun q h => by rw [hAe]; exact Or.inr h
  have htl : ∀ w ∈ wsL_law, w.before args s = true := fun w h => hts w (List.mem_cons_of_mem _ h)
  refine xHead (R' := { frames := 0, cells := 0, slots := 0, locals := 0 }) rfl (fun Q H hQ hH => ?_)
  have hP : va_P D vwCl ([] : va_W) H := by rw [hH]; exact hP
  have hS : va_S A s.heap H [] := by rw [hH]; exact va_S.rf
  refine xStart hv (Nat.le_of_ble_eq_true rfl) (lv := [(0, .long a1), (2, .long a2), (4, .int a3)]) rfl (fun ls hl => ?_)
  have h := hm
  unfold m_X6_lowest at h
  refine lv_lload_n hx hb (dAt zX6_lowest_0 0 rfl) rfl (lv_at hl 1 rfl) ?_
  refine lv_lstore (lv' := [(5, .long a2), (0, .long a1), (2, .long a2), (4, .int a3)]) hx hb (dAt zX6_lowest_0 1 rfl) hl (by decide) rfl (fun ls hl => ?_)
  refine lv_lload_n hx hb (dAt zX6_lowest_0 2 rfl) rfl (lv_at hl 1 rfl) ?_
  refine lv_lstore (lv' := [(7, .long a1), (5, .long a2), (0, .long a1), (2, .long a2), (4, .int a3)]) hx hb (dAt zX6_lowest_0 3 rfl) hl (by decide) rfl (fun ls hl => ?_)
  have L_6 : ∀ (j_6 : Nat) (v5_6 : Int64) (v7_6 : Int64) (H : Heap) (locs : List Loc) (ls : Array Slot), loopF (b_X6_lowest_6 n a1 a2 a3) j_6 (v5_6, v7_6) = some out → va_P D vwCl ([] : va_W) H → va_D A ([] : va_W) → va_S A s.heap H locs → lv_has ls 11 [(0, .long a1), (2, .long a2), (4, .int a3), (5, .long v5_6), (7, .long v7_6)] → W p l e { frames := 0, cells := 0, slots := 0, locals := 0 } s m args below meth c H locs 0 0 Q (F0 m 6 ls []) := by
    intro j_6
    induction j_6 with
    | zero => intro v5_6 v7_6 H locs ls h hP hD hS hl; exact loopF_0 h
    | succ j_6 ih_6 =>
      intro v5_6 v7_6 H locs ls h hP hD hS hl
      have h := loopF_s h
      unfold b_X6_lowest_6 at h
      refine lv_lload hx hb (dAt zX6_lowest_0 4 rfl) (lv_at hl 4 rfl) ?_
      refine lv_lconst (v := 0) hx hb (dAt zX6_lowest_0 5 rfl) (by decide) ?_
      refine W.lcmp hx hb (dAt zX6_lowest_0 6 rfl) ?_
      refine lv_if_eq (tgt := 31) hx hb (dAt zX6_lowest_0 7 rfl) (by decide) (fun c_10 => ?_) (fun c_10 => ?_)
      · have h := q_pos c_10 h
        refine lv_iload hx hb (dAt zX6_lowest_0 17 rfl) (lv_at hl 2 rfl) ?_
        refine lv_if_ne (tgt := 43) hx hb (dAt zX6_lowest_0 18 rfl) (by decide) (fun c_33 => ?_) (fun c_33 => ?_)
        · have h := q_neg c_33 h
          refine lv_lload_n hx hb (dAt zX6_lowest_0 23 rfl) rfl (lv_at hl 1 rfl) ?_
          refine lv_lload hx hb (dAt zX6_lowest_0 24 rfl) (lv_at hl 3 rfl) ?_
          obtain ⟨hn_46, h⟩ := q_nzL h
          refine lv_ldiv hx hb (dAt zX6_lowest_0 25 rfl) hn_46 ?_
          obtain rfl := q_some h
          exact xRl hx hb hr hlocks hQ hAe hP hD hK hS rfl (dAt zX6_lowest_0 26 rfl)
        · have h := q_pos c_33 h
          refine lv_lload_n hx hb (dAt zX6_lowest_0 19 rfl) rfl (lv_at hl 0 rfl) ?_
          refine lv_lload hx hb (dAt zX6_lowest_0 20 rfl) (lv_at hl 3 rfl) ?_
          obtain ⟨hn_39, h⟩ := q_nzL h
          refine lv_ldiv hx hb (dAt zX6_lowest_0 21 rfl) hn_39 ?_
          refine lv_goto (tgt := 47) hx hb (dAt zX6_lowest_0 22 rfl) (by decide) ?_
          obtain rfl := q_some h
          exact xRl hx hb hr hlocks hQ hAe hP hD hK hS rfl (dAt zX6_lowest_0 26 rfl)
      · have h := q_neg c_10 h
        refine lv_lload hx hb (dAt zX6_lowest_0 8 rfl) (lv_at hl 3 rfl) ?_
        refine lv_lload hx hb (dAt zX6_lowest_0 9 rfl) (lv_at hl 4 rfl) ?_
        obtain ⟨hn_17, h⟩ := q_nzL h
        refine lv_lrem hx hb (dAt zX6_lowest_0 10 rfl) hn_17 ?_
        refine lv_lstore (lv' := [(9, .long (jremL v5_6 v7_6)), (0, .long a1), (2, .long a2), (4, .int a3), (5, .long v5_6), (7, .long v7_6)]) hx hb (dAt zX6_lowest_0 11 rfl) hl (by decide) rfl (fun ls hl => ?_)
        refine lv_lload hx hb (dAt zX6_lowest_0 12 rfl) (lv_at hl 5 rfl) ?_
        refine lv_lstore (lv' := [(5, .long v7_6), (9, .long (jremL v5_6 v7_6)), (0, .long a1), (2, .long a2), (4, .int a3), (7, .long v7_6)]) hx hb (dAt zX6_lowest_0 13 rfl) hl (by decide) rfl (fun ls hl => ?_)
        refine lv_lload hx hb (dAt zX6_lowest_0 14 rfl) (lv_at hl 1 rfl) ?_
        refine lv_lstore (lv' := [(7, .long (jremL v5_6 v7_6)), (5, .long v7_6), (9, .long (jremL v5_6 v7_6)), (0, .long a1), (2, .long a2), (4, .int a3)]) hx hb (dAt zX6_lowest_0 15 rfl) hl (by decide) rfl (fun ls hl => ?_)
        refine lv_goto (tgt := 6) hx hb (dAt zX6_lowest_0 16 rfl) (by decide) ?_
        exact ih_6 v7_6 (jremL v5_6 v7_6) _ _ _ h hP hD hS (lv_sub hl [3, 4, 5, 1, 0] rfl)
  exact L_6 n a2 a1 _ _ _ h hP hD hS (lv_sub hl [2, 3, 4, 1, 0] rfl)
def b_X6_calls_42 (n : Nat) (a2 : Int32) (u28 : TI) (s_42 : Int64 × Int64 × Int64 × Int32) (k_42 : Int64 × Int64 × Int64 × Int32 → Option (Int64 × TI)) : Option (Int64 × TI) := (if 5 ≤ s_42.2.2.2 then ((m_X6_lowest n  s_42.2.2.1 s_42.1 a2).bind fun u97 => some (u97, u28)) else (gd (inB s_42.2.2.2 6) ((gd (inB ((u28 26) (Int32.toNatClampNeg s_42.2.2.2)) 6) ((k_42 ((s_42.1 * (10 : Int64)), (s_42.2.1 * ((10 : Int64) - (Int32.toInt64 ((u28 25) (Int32.toNatClampNeg ((u28 26) (Int32.toNatClampNeg s_42.2.2.2))))))), (((10 : Int64) * s_42.2.2.1) + (s_42.2.1 * ((10 : Int64) - (Int32.toInt64 ((u28 25) (Int32.toNatClampNeg ((u28 26) (Int32.toNatClampNeg s_42.2.2.2)))))))), (s_42.2.2.2 + 1))))))))
def m_X6_calls (n : Nat) (zS : TI) (zL : TL) (a1 : Int32) (a2 : Int32) : Option (Int64 × TI) := ((m_X6_in n  (Int32.toInt64 a1) 0 999999).bind fun u6 => (if u6 = 0 then some ((-1000000000000000002), zS) else ((m_X6_in n  (Int32.toInt64 a2) 0 1).bind fun u16 => (if u16 = 0 then some ((-1000000000000000002), zS) else ((m_X6_readOdds n zS zL a1).bind fun u28 => (loopF (b_X6_calls_42 n a2 u28 ) n (1, 1, 1, 0)))))))
set_option maxHeartbeats 4000000 in
set_option maxRecDepth 100000 in
theorem c_X6_calls (l : Launch) (D : va_G) (cI cJ cZ : ClassId) (n : Nat) (qS : Nat → Nat) (sz : Nat) (zS : TI) (zL : TL) (a1 : Int32) (a2 : Int32) (out : Int64 × TI) (hm : m_X6_calls n zS zL a1 a2 = some out) : Met l yX6_calls (wsM yX6_calls cX6_calls 10 (some .long)) { frames := 2, cells := 0, slots := 0, locals := 47 } (xPre D (kT cI cJ cZ) (w6 cI cJ cZ qS zS zL) sz [.ref (qS 0), .int a1, .int a2]) (xQl D (kT cI cJ cZ) (w6 cI cJ cZ qS zS zL) (w6 cI cJ cZ qS out.2 zL) sz out.1) 0 0 (va_A (w6 cI cJ cZ qS zS zL) sz) := by
  refine Met.ofW (cc := cX6_calls) (maxL := 10) (ret := (some .long)) (by decide) rfl ?_
  intro p e s m args below meth c s₁ B hml hv
  obtain ⟨hv, hsz, hP, hK, hD0, hN⟩ := hv
  have hx := B.exec; have hb := B.bytes; have hr := B.returns
  have hts := atoms_spec (ws := (wsM yX6_calls cX6_calls 10 (some .long))) B.pre
  have hown : s.vm.findClass RX6 = some m.cls := findClass_of_methodNamed B.named
  have hlocks := B.notSynchronized
  subst hsz
  have hD := hD0.self (sz := s.heap.size)
  obtain ⟨A, hAe⟩ : ∃ A, A = va_A (w6 cI cJ cZ qS zS zL) s.heap.size := ⟨_, rfl⟩
  rw [← hAe] at hD
  have hA : ∀ q : Nat, s.heap.size ≤ q → A q := fun q h => by rw [hAe]; exact Or.inr h
  have htl : ∀ w ∈ wsL_law, w.before args s = true := fun w h => hts w (List.mem_cons_of_mem _ h)
  refine xHead (R' := { frames := 2, cells := 0, slots := 0, locals := 47 }) rfl (fun Q H hQ hH => ?_)
  have hP : va_P D vwCl (w6 cI cJ cZ qS zS zL) H := by rw [hH]; exact hP
  have hS : va_S A s.heap H [] := by rw [hH]; exact va_S.rf
  refine xStart hv (Nat.le_of_ble_eq_true rfl) (lv := [(0, .ref (qS 0)), (1, .int a1), (2, .int a2)]) rfl (fun ls hl => ?_)
  have h := hm
  unfold m_X6_calls at h
  refine lv_iload_n hx hb (dAt zX6_calls_0 0 rfl) rfl (lv_at hl 1 rfl) ?_
  refine lv_i2l (v := (Int32.toInt64 a1)) hx hb (dAt zX6_calls_0 1 rfl) rfl ?_
  refine lv_lconst (v := 0) hx hb (dAt zX6_calls_0 2 rfl) (by decide) ?_
  refine lv_ldc2 (v := 999999) hx hb hown (htl _ W_634) (dAt zX6_calls_0 3 rfl) ?_
  obtain ⟨u6, hu6, h⟩ := q_bind h
  refine xFz (wc := ([] : va_W)) (w1 := ([] : va_W)) (wr := (w6 cI cJ cZ qS zS zL)) (ws2 := (w6 cI cJ cZ qS zS zL)) (va_runS (As := [.long (Int32.toInt64 a1), .long 0, .long 999999]) (rest := []) ⟨hx, hb, hml, hown, htl⟩ (c_X6_in l D cI cJ cZ n  H.size  (Int32.toInt64 a1) 0 999999 u6 hu6) (va_cwS 3 htl (gS W_130 W_131 W_5 W_132) rfl rfl rfl (by decide +kernel) ⟨Nat.le_of_ble_eq_true rfl, Nat.le_of_ble_eq_true rfl⟩) (xPS xP0 (xD0 A) hK hN) rfl rfl hl.1 rfl (lv_room (Nat.le_of_ble_eq_true rfl)) (dAt zX6_calls_0 4 rfl) ⟨Nat.zero_le _, Nat.zero_le _⟩) hS hA hP hD [] [0, 1, 2, 3, 4, 5, 6, 7, 8, 9, 10, 11, 12, 13, 14, 15, 16] [0, 1, 2, 3, 4, 5, 6, 7, 8, 9, 10, 11, 12, 13, 14, 15, 16] rfl rfl (by decide) (by decide) rfl (by decide) (fun H locs hz6 hP hD hS => ?_)
  refine lv_if_eq (tgt := 22) hx hb (dAt zX6_calls_0 5 rfl) (by decide) (fun c_9 => ?_) (fun c_9 => ?_)
  · have h := q_pos c_9 h
    refine lv_ldc2 (v := (-1000000000000000002)) hx hb hown (htl _ W_635) (dAt zX6_calls_0 12 rfl) ?_
    obtain rfl := q_some h
    exact xRl hx hb hr hlocks hQ hAe hP hD hK hS rfl (dAt zX6_calls_0 13 rfl)
  · have h := q_neg c_9 h
    refine lv_iload_n hx hb (dAt zX6_calls_0 6 rfl) rfl (lv_at hl 2 rfl) ?_
    refine lv_i2l (v := (Int32.toInt64 a2)) hx hb (dAt zX6_calls_0 7 rfl) rfl ?_
    refine lv_lconst (v := 0) hx hb (dAt zX6_calls_0 8 rfl) (by decide) ?_
    refine lv_lconst (v := 1) hx hb (dAt zX6_calls_0 9 rfl) (by decide) ?_
    obtain ⟨u16, hu16, h⟩ := q_bind h
    refine xFz (wc := ([] : va_W)) (w1 := ([] : va_W)) (wr := (w6 cI cJ cZ qS zS zL)) (ws2 := (w6 cI cJ cZ qS zS zL)) (va_runS (As := [.long (Int32.toInt64 a2), .long 0, .long 1]) (rest := []) ⟨hx, hb, hml, hown, htl⟩ (c_X6_in l D cI cJ cZ n  H.size  (Int32.toInt64 a2) 0 1 u16 hu16) (va_cwS 3 htl (gS W_130 W_131 W_5 W_132) rfl rfl rfl (by decide +kernel) ⟨Nat.le_of_ble_eq_true rfl, Nat.le_of_ble_eq_true rfl⟩) (xPS xP0 (xD0 A) hK hN) rfl rfl hl.1 rfl (lv_room (Nat.le_of_ble_eq_true rfl)) (dAt zX6_calls_0 10 rfl) ⟨Nat.zero_le _, Nat.zero_le _⟩) hS hA hP hD [] [0, 1, 2, 3, 4, 5, 6, 7, 8, 9, 10, 11, 12, 13, 14, 15, 16] [0, 1, 2, 3, 4, 5, 6, 7, 8, 9, 10, 11, 12, 13, 14, 15, 16] rfl rfl (by decide) (by decide) rfl (by decide) (fun H locs hz16 hP hD hS => ?_)
    refine lv_if_ne (tgt := 26) hx hb (dAt zX6_calls_0 11 rfl) (by decide) (fun c_19 => ?_) (fun c_19 => ?_)
    · have h := q_neg c_19 h
      refine lv_aload_n hx hb (dAt zX6_calls_0 14 rfl) rfl (lv_at hl 0 rfl) ?_
      refine lv_iload_n hx hb (dAt zX6_calls_0 15 rfl) rfl (lv_at hl 1 rfl) ?_
      obtain ⟨u28, hu28, h⟩ := q_bind h
      refine xFv (wc := (w6 cI cJ cZ qS zS zL)) (w1 := (w6 cI cJ cZ qS u28 zL)) (wr := ([] : va_W)) (ws2 := (w6 cI cJ cZ qS u28 zL)) (va_runV (As := [.int a1]) (rest := []) ⟨hx, hb, hml, hown, htl⟩ (c_X6_readOdds l D cI cJ cZ n qS H.size zS zL a1 u28 hu28) (cwV 1 htl (gV W_637 W_638 W_639 W_5 W_640) rfl rfl rfl (by decide +kernel) ⟨Nat.le_of_ble_eq_true rfl, Nat.le_of_ble_eq_true rfl⟩) (xPV hP hD hK hN 0 rfl rfl) rfl rfl hl.1 rfl (lv_room (Nat.le_of_ble_eq_true rfl)) (dAt zX6_calls_0 16 rfl) ⟨Nat.zero_le _, Nat.zero_le _⟩) hS hA hP hD [0, 1, 2, 3, 4, 5, 6, 7, 8, 9, 10, 11, 12, 13, 14, 15, 16] [] [0, 1, 2, 3, 4, 5, 6, 7, 8, 9, 10, 11, 12, 13, 14, 15, 16] rfl rfl (by decide) (by decide) rfl (by decide) (fun H locs hP hD hS => ?_)
      refine lv_lconst (v := 1) hx hb (dAt zX6_calls_0 17 rfl) (by decide) ?_
      refine lv_lstore_n (lv' := [(3, .long 1), (0, .ref (qS 0)), (1, .int a1), (2, .int a2)]) hx hb (dAt zX6_calls_0 18 rfl) rfl hl (by decide) rfl (fun ls hl => ?_)
      refine lv_lconst (v := 1) hx hb (dAt zX6_calls_0 19 rfl) (by decide) ?_
      refine lv_lstore (lv' := [(5, .long 1), (3, .long 1), (0, .ref (qS 0)), (1, .int a1), (2, .int a2)]) hx hb (dAt zX6_calls_0 20 rfl) hl (by decide) rfl (fun ls hl => ?_)
      refine lv_lconst (v := 1) hx hb (dAt zX6_calls_0 21 rfl) (by decide) ?_
      refine lv_lstore (lv' := [(7, .long 1), (5, .long 1), (3, .long 1), (0, .ref (qS 0)), (1, .int a1), (2, .int a2)]) hx hb (dAt zX6_calls_0 22 rfl) hl (by decide) rfl (fun ls hl => ?_)
      refine lv_iconst (v := 0) hx hb (dAt zX6_calls_0 23 rfl) (by decide) ?_
      refine lv_istore (lv' := [(9, .int 0), (7, .long 1), (5, .long 1), (3, .long 1), (0, .ref (qS 0)), (1, .int a1), (2, .int a2)]) hx hb (dAt zX6_calls_0 24 rfl) hl (by decide) rfl (fun ls hl => ?_)
      have L_42 : ∀ (j_42 : Nat) (v3_42 : Int64) (v5_42 : Int64) (v7_42 : Int64) (v9_42 : Int32) (H : Heap) (locs : List Loc) (ls : Array Slot), loopF (b_X6_calls_42 n a2 u28) j_42 (v3_42, v5_42, v7_42, v9_42) = some out → va_P D vwCl (w6 cI cJ cZ qS u28 zL) H → va_D A (w6 cI cJ cZ qS u28 zL) → va_S A s.heap H locs → lv_has ls 10 [(0, .ref (qS 0)), (2, .int a2), (3, .long v3_42), (5, .long v5_42), (7, .long v7_42), (9, .int v9_42)] → W p l e { frames := 2, cells := 0, slots := 0, locals := 47 } s m args below meth c H locs 0 0 Q (F0 m 42 ls []) := by
        intro j_42
        induction j_42 with
        | zero => intro v3_42 v5_42 v7_42 v9_42 H locs ls h hP hD hS hl; exact loopF_0 h
        | succ j_42 ih_42 =>
          intro v3_42 v5_42 v7_42 v9_42 H locs ls h hP hD hS hl
          have h := loopF_s h
          unfold b_X6_calls_42 at h
          refine lv_iload hx hb (dAt zX6_calls_0 25 rfl) (lv_at hl 5 rfl) ?_
          refine lv_iconst (v := 5) hx hb (dAt zX6_calls_0 26 rfl) (by decide) ?_
          refine lv_icmp_ge (tgt := 93) hx hb (dAt zX6_calls_0 27 rfl) (by decide) (fun c_45 => ?_) (fun c_45 => ?_)
          · have h := q_pos c_45 h
            refine lv_lload hx hb (dAt zX6_calls_0 53 rfl) (lv_at hl 4 rfl) ?_
            refine lv_lload_n hx hb (dAt zX6_calls_0 54 rfl) rfl (lv_at hl 2 rfl) ?_
            refine lv_iload_n hx hb (dAt zX6_calls_0 55 rfl) rfl (lv_at hl 1 rfl) ?_
            obtain ⟨u97, hu97, h⟩ := q_bind h
            refine xFl (wc := ([] : va_W)) (w1 := ([] : va_W)) (wr := (w6 cI cJ cZ qS u28 zL)) (ws2 := (w6 cI cJ cZ qS u28 zL)) (va_runS (As := [.long v7_42, .long v3_42, .int a2]) (rest := []) ⟨hx, hb, hml, hown, htl⟩ (c_X6_lowest l D cI cJ cZ n  H.size  v7_42 v3_42 a2 u97 hu97) (va_cwS 3 htl (gS W_641 W_642 W_5 W_643) rfl rfl rfl (by decide +kernel) ⟨Nat.le_of_ble_eq_true rfl, Nat.le_of_ble_eq_true rfl⟩) (xPS xP0 (xD0 A) hK hN) rfl rfl hl.1 rfl (lv_room (Nat.le_of_ble_eq_true rfl)) (dAt zX6_calls_0 56 rfl) ⟨Nat.zero_le _, Nat.zero_le _⟩) hS hA hP hD [] [0, 1, 2, 3, 4, 5, 6, 7, 8, 9, 10, 11, 12, 13, 14, 15, 16] [0, 1, 2, 3, 4, 5, 6, 7, 8, 9, 10, 11, 12, 13, 14, 15, 16] rfl rfl (by decide) (by decide) rfl (by decide) (fun H locs hP hD hS => ?_)
            obtain rfl := q_some h
            exact xRl hx hb hr hlocks hQ hAe hP hD hK hS rfl (dAt zX6_calls_0 57 rfl)
          · have h := q_neg c_45 h
            refine lv_lload_n hx hb (dAt zX6_calls_0 28 rfl) rfl (lv_at hl 2 rfl) ?_
            refine lv_ldc2 (v := 10) hx hb hown (htl _ W_636) (dAt zX6_calls_0 29 rfl) ?_
            refine lv_lmul hx hb (dAt zX6_calls_0 30 rfl) ?_
            refine lv_lstore_n (lv' := [(3, .long (v3_42 * (10 : Int64))), (0, .ref (qS 0)), (2, .int a2), (5, .long v5_42), (7, .long v7_42), (9, .int v9_42)]) hx hb (dAt zX6_calls_0 31 rfl) rfl hl (by decide) rfl (fun ls hl => ?_)
            refine lv_lload hx hb (dAt zX6_calls_0 32 rfl) (lv_at hl 3 rfl) ?_
            refine lv_ldc2 (v := 10) hx hb hown (htl _ W_636) (dAt zX6_calls_0 33 rfl) ?_
            refine lv_aload_n hx hb (dAt zX6_calls_0 34 rfl) rfl (lv_at hl 1 rfl) ?_
            refine va_get (D := D) (ci := 6) (v := .ref (qS 25)) (C := RX6) (T := TX6) (N := 32) hx hb htl inlX6 hown hK hP 0 rfl rfl 24 (by decide) (htl _ W_95) (fun _ h9 => h9) rfl (dAt zX6_calls_0 35 rfl) ?_
            refine lv_aload_n hx hb (dAt zX6_calls_0 36 rfl) rfl (lv_at hl 1 rfl) ?_
            refine va_get (D := D) (ci := 6) (v := .ref (qS 26)) (C := RX6) (T := TX6) (N := 32) hx hb htl inlX6 hown hK hP 0 rfl rfl 25 (by decide) (htl _ W_96) (fun _ h9 => h9) rfl (dAt zX6_calls_0 37 rfl) ?_
            refine lv_iload hx hb (dAt zX6_calls_0 38 rfl) (lv_at hl 5 rfl) ?_
            obtain ⟨hi_69, h⟩ := q_in h
            refine va_iald hx hb hK hP 12 0 rfl rfl hi_69 (dAt zX6_calls_0 39 rfl) ?_
            obtain ⟨hi_70, h⟩ := q_in h
            refine va_iald hx hb hK hP 11 0 rfl rfl hi_70 (dAt zX6_calls_0 40 rfl) ?_
            refine lv_i2l (v := (Int32.toInt64 ((u28 25) (Int32.toNatClampNeg ((u28 26) (Int32.toNatClampNeg v9_42)))))) hx hb (dAt zX6_calls_0 41 rfl) rfl ?_
            refine lv_lsub hx hb (dAt zX6_calls_0 42 rfl) ?_
            refine lv_lmul hx hb (dAt zX6_calls_0 43 rfl) ?_
            refine lv_lstore (lv' := [(5, .long (v5_42 * ((10 : Int64) - (Int32.toInt64 ((u28 25) (Int32.toNatClampNeg ((u28 26) (Int32.toNatClampNeg v9_42)))))))), (3, .long (v3_42 * (10 : Int64))), (0, .ref (qS 0)), (2, .int a2), (7, .long v7_42), (9, .int v9_42)]) hx hb (dAt zX6_calls_0 44 rfl) hl (by decide) rfl (fun ls hl => ?_)
            refine lv_ldc2 (v := 10) hx hb hown (htl _ W_636) (dAt zX6_calls_0 45 rfl) ?_
            refine lv_lload hx hb (dAt zX6_calls_0 46 rfl) (lv_at hl 4 rfl) ?_
            refine lv_lmul hx hb (dAt zX6_calls_0 47 rfl) ?_
            refine lv_lload hx hb (dAt zX6_calls_0 48 rfl) (lv_at hl 0 rfl) ?_
            refine lv_ladd hx hb (dAt zX6_calls_0 49 rfl) ?_
            refine lv_lstore (lv' := [(7, .long (((10 : Int64) * v7_42) + (v5_42 * ((10 : Int64) - (Int32.toInt64 ((u28 25) (Int32.toNatClampNeg ((u28 26) (Int32.toNatClampNeg v9_42))))))))), (5, .long (v5_42 * ((10 : Int64) - (Int32.toInt64 ((u28 25) (Int32.toNatClampNeg ((u28 26) (Int32.toNatClampNeg v9_42)))))))), (3, .long (v3_42 * (10 : Int64))), (0, .ref (qS 0)), (2, .int a2), (9, .int v9_42)]) hx hb (dAt zX6_calls_0 50 rfl) hl (by decide) rfl (fun ls hl => ?_)
            refine lv_iinc (v := (v9_42 + 1)) (lv' := [(9, .int (v9_42 + 1)), (7, .long (((10 : Int64) * v7_42) + (v5_42 * ((10 : Int64) - (Int32.toInt64 ((u28 25) (Int32.toNatClampNeg ((u28 26) (Int32.toNatClampNeg v9_42))))))))), (5, .long (v5_42 * ((10 : Int64) - (Int32.toInt64 ((u28 25) (Int32.toNatClampNeg ((u28 26) (Int32.toNatClampNeg v9_42)))))))), (3, .long (v3_42 * (10 : Int64))), (0, .ref (qS 0)), (2, .int a2)]) hx hb (dAt zX6_calls_0 51 rfl) hl (k := 5) rfl rfl (by decide) rfl (fun ls hl => ?_)
            refine lv_goto (tgt := 42) hx hb (dAt zX6_calls_0 52 rfl) (by decide) ?_
            exact ih_42 (v3_42 * (10 : Int64)) (v5_42 * ((10 : Int64) - (Int32.toInt64 ((u28 25) (Int32.toNatClampNeg ((u28 26) (Int32.toNatClampNeg v9_42))))))) (((10 : Int64) * v7_42) + (v5_42 * ((10 : Int64) - (Int32.toInt64 ((u28 25) (Int32.toNatClampNeg ((u28 26) (Int32.toNatClampNeg v9_42)))))))) (v9_42 + 1) _ _ _ h hP hD hS (lv_sub hl [4, 5, 3, 2, 1, 0] rfl)
      exact L_42 n 1 1 1 0 _ _ _ h hP hD hS (lv_sub hl [4, 6, 3, 2, 1, 0] rfl)
    · have h := q_pos c_19 h
      refine lv_ldc2 (v := (-1000000000000000002)) hx hb hown (htl _ W_635) (dAt zX6_calls_0 12 rfl) ?_
      obtain rfl := q_some h
      exact xRl hx hb hr hlocks hQ hAe hP hD hK hS rfl (dAt zX6_calls_0 13 rfl)
def b_X6_order_24 (n : Nat) (u17 : TI) (s_24 : Int32 × Int32) (k_24 : Int32 × Int32 → Option (Int32 × TI)) : Option (Int32 × TI) := (if 6 ≤ s_24.2 then some (s_24.1, u17) else (gd (inB s_24.2 6) ((k_24 ((((10 : Int32) * s_24.1) + ((u17 26) (Int32.toNatClampNeg s_24.2))), (s_24.2 + 1))))))
def m_X6_order (n : Nat) (zS : TI) (zL : TL) (a1 : Int32) : Option (Int32 × TI) := ((m_X6_in n  (Int32.toInt64 a1) 0 999999).bind fun u6 => (if u6 = 0 then some ((-2), zS) else ((m_X6_readOdds n zS zL a1).bind fun u17 => (loopF (b_X6_order_24 n u17 ) n (0, 0)))))
set_option maxHeartbeats 4000000 in
set_option maxRecDepth 100000 in
theorem c_X6_order (l : Launch) (D : va_G) (cI cJ cZ : ClassId) (n : Nat) (qS : Nat → Nat) (sz : Nat) (zS : TI) (zL : TL) (a1 : Int32) (out : Int32 × TI) (hm : m_X6_order n zS zL a1 = some out) : Met l yX6_order (wsM yX6_order cX6_order 4 (some .int)) { frames := 2, cells := 0, slots := 0, locals := 47 } (xPre D (kT cI cJ cZ) (w6 cI cJ cZ qS zS zL) sz [.ref (qS 0), .int a1]) (xQi D (kT cI cJ cZ) (w6 cI cJ cZ qS zS zL) (w6 cI cJ cZ qS out.2 zL) sz out.1) 0 0 (va_A (w6 cI cJ cZ qS zS zL) sz) := by
  refine Met.ofW (cc := cX6_order) (maxL := 4) (ret := (some .int)) (by decide) rfl ?_
  intro p e s m args below meth c s₁ B hml hv
  obtain ⟨hv, hsz, hP, hK, hD0, hN⟩ := hv
  have hx := B.exec; have hb := B.bytes; have hr := B.returns
  have hts := atoms_spec (ws := (wsM yX6_order cX6_order 4 (some .int))) B.pre
  have hown : s.vm.findClass RX6 = some m.cls := findClass_of_methodNamed B.named
  have hlocks := B.notSynchronized
  subst hsz
  have hD := hD0.self (sz := s.heap.size)
  obtain ⟨A, hAe⟩ : ∃ A, A = va_A (w6 cI cJ cZ qS zS zL) s.heap.size := ⟨_, rfl⟩
  rw [← hAe] at hD
  have hA : ∀ q : Nat, s.heap.size ≤ q → A q := fun q h => by rw [hAe]; exact Or.inr h
  have htl : ∀ w ∈ wsL_law, w.before args s = true := fun w h => hts w (List.mem_cons_of_mem _ h)
  refine xHead (R' := { frames := 2, cells := 0, slots := 0, locals := 47 }) rfl (fun Q H hQ hH => ?_)
  have hP : va_P D vwCl (w6 cI cJ cZ qS zS zL) H := by rw [hH]; exact hP
  have hS : va_S A s.heap H [] := by rw [hH]; exact va_S.rf
  refine xStart hv (Nat.le_of_ble_eq_true rfl) (lv := [(0, .ref (qS 0)), (1, .int a1)]) rfl (fun ls hl => ?_)
  have h := hm
  unfold m_X6_order at h
  refine lv_iload_n hx hb (dAt zX6_order_0 0 rfl) rfl (lv_at hl 1 rfl) ?_
  refine lv_i2l (v := (Int32.toInt64 a1)) hx hb (dAt zX6_order_0 1 rfl) rfl ?_
  refine lv_lconst (v := 0) hx hb (dAt zX6_order_0 2 rfl) (by decide) ?_
  refine lv_ldc2 (v := 999999) hx hb hown (htl _ W_634) (dAt zX6_order_0 3 rfl) ?_
  obtain ⟨u6, hu6, h⟩ := q_bind h
  refine xFz (wc := ([] : va_W)) (w1 := ([] : va_W)) (wr := (w6 cI cJ cZ qS zS zL)) (ws2 := (w6 cI cJ cZ qS zS zL)) (va_runS (As := [.long (Int32.toInt64 a1), .long 0, .long 999999]) (rest := []) ⟨hx, hb, hml, hown, htl⟩ (c_X6_in l D cI cJ cZ n  H.size  (Int32.toInt64 a1) 0 999999 u6 hu6) (va_cwS 3 htl (gS W_130 W_131 W_5 W_132) rfl rfl rfl (by decide +kernel) ⟨Nat.le_of_ble_eq_true rfl, Nat.le_of_ble_eq_true rfl⟩) (xPS xP0 (xD0 A) hK hN) rfl rfl hl.1 rfl (lv_room (Nat.le_of_ble_eq_true rfl)) (dAt zX6_order_0 4 rfl) ⟨Nat.zero_le _, Nat.zero_le _⟩) hS hA hP hD [] [0, 1, 2, 3, 4, 5, 6, 7, 8, 9, 10, 11, 12, 13, 14, 15, 16] [0, 1, 2, 3, 4, 5, 6, 7, 8, 9, 10, 11, 12, 13, 14, 15, 16] rfl rfl (by decide) (by decide) rfl (by decide) (fun H locs hz6 hP hD hS => ?_)
  refine lv_if_ne (tgt := 15) hx hb (dAt zX6_order_0 5 rfl) (by decide) (fun c_9 => ?_) (fun c_9 => ?_)
  · have h := q_neg c_9 h
    refine lv_aload_n hx hb (dAt zX6_order_0 8 rfl) rfl (lv_at hl 0 rfl) ?_
    refine lv_iload_n hx hb (dAt zX6_order_0 9 rfl) rfl (lv_at hl 1 rfl) ?_
    obtain ⟨u17, hu17, h⟩ := q_bind h
    refine xFv (wc := (w6 cI cJ cZ qS zS zL)) (w1 := (w6 cI cJ cZ qS u17 zL)) (wr := ([] : va_W)) (ws2 := (w6 cI cJ cZ qS u17 zL)) (va_runV (As := [.int a1]) (rest := []) ⟨hx, hb, hml, hown, htl⟩ (c_X6_readOdds l D cI cJ cZ n qS H.size zS zL a1 u17 hu17) (cwV 1 htl (gV W_637 W_638 W_639 W_5 W_640) rfl rfl rfl (by decide +kernel) ⟨Nat.le_of_ble_eq_true rfl, Nat.le_of_ble_eq_true rfl⟩) (xPV hP hD hK hN 0 rfl rfl) rfl rfl hl.1 rfl (lv_room (Nat.le_of_ble_eq_true rfl)) (dAt zX6_order_0 10 rfl) ⟨Nat.zero_le _, Nat.zero_le _⟩) hS hA hP hD [0, 1, 2, 3, 4, 5, 6, 7, 8, 9, 10, 11, 12, 13, 14, 15, 16] [] [0, 1, 2, 3, 4, 5, 6, 7, 8, 9, 10, 11, 12, 13, 14, 15, 16] rfl rfl (by decide) (by decide) rfl (by decide) (fun H locs hP hD hS => ?_)
    refine lv_iconst (v := 0) hx hb (dAt zX6_order_0 11 rfl) (by decide) ?_
    refine lv_istore_n (lv' := [(2, .int 0), (0, .ref (qS 0)), (1, .int a1)]) hx hb (dAt zX6_order_0 12 rfl) rfl hl (by decide) rfl (fun ls hl => ?_)
    refine lv_iconst (v := 0) hx hb (dAt zX6_order_0 13 rfl) (by decide) ?_
    refine lv_istore_n (lv' := [(3, .int 0), (2, .int 0), (0, .ref (qS 0)), (1, .int a1)]) hx hb (dAt zX6_order_0 14 rfl) rfl hl (by decide) rfl (fun ls hl => ?_)
    have L_24 : ∀ (j_24 : Nat) (v2_24 : Int32) (v3_24 : Int32) (H : Heap) (locs : List Loc) (ls : Array Slot), loopF (b_X6_order_24 n u17) j_24 (v2_24, v3_24) = some out → va_P D vwCl (w6 cI cJ cZ qS u17 zL) H → va_D A (w6 cI cJ cZ qS u17 zL) → va_S A s.heap H locs → lv_has ls 4 [(0, .ref (qS 0)), (2, .int v2_24), (3, .int v3_24)] → W p l e { frames := 2, cells := 0, slots := 0, locals := 47 } s m args below meth c H locs 0 0 Q (F0 m 24 ls []) := by
      intro j_24
      induction j_24 with
      | zero => intro v2_24 v3_24 H locs ls h hP hD hS hl; exact loopF_0 h
      | succ j_24 ih_24 =>
        intro v2_24 v3_24 H locs ls h hP hD hS hl
        have h := loopF_s h
        unfold b_X6_order_24 at h
        refine lv_iload_n hx hb (dAt zX6_order_0 15 rfl) rfl (lv_at hl 2 rfl) ?_
        refine lv_bipush (v := 6) hx hb (dAt zX6_order_0 16 rfl) (by decide) ?_
        refine lv_icmp_ge (tgt := 48) hx hb (dAt zX6_order_0 17 rfl) (by decide) (fun c_27 => ?_) (fun c_27 => ?_)
        · have h := q_pos c_27 h
          refine lv_iload_n hx hb (dAt zX6_order_0 29 rfl) rfl (lv_at hl 1 rfl) ?_
          obtain rfl := q_some h
          exact xRi hx hb hr hlocks hQ hAe hP hD hK hS rfl (dAt zX6_order_0 30 rfl)
        · have h := q_neg c_27 h
          refine lv_bipush (v := 10) hx hb (dAt zX6_order_0 18 rfl) (by decide) ?_
          refine lv_iload_n hx hb (dAt zX6_order_0 19 rfl) rfl (lv_at hl 1 rfl) ?_
          refine lv_imul hx hb (dAt zX6_order_0 20 rfl) ?_
          refine lv_aload_n hx hb (dAt zX6_order_0 21 rfl) rfl (lv_at hl 0 rfl) ?_
          refine va_get (D := D) (ci := 6) (v := .ref (qS 26)) (C := RX6) (T := TX6) (N := 32) hx hb htl inlX6 hown hK hP 0 rfl rfl 25 (by decide) (htl _ W_96) (fun _ h9 => h9) rfl (dAt zX6_order_0 22 rfl) ?_
          refine lv_iload_n hx hb (dAt zX6_order_0 23 rfl) rfl (lv_at hl 2 rfl) ?_
          obtain ⟨hi_39, h⟩ := q_in h
          refine va_iald hx hb hK hP 12 0 rfl rfl hi_39 (dAt zX6_order_0 24 rfl) ?_
          refine lv_iadd hx hb (dAt zX6_order_0 25 rfl) ?_
          refine lv_istore_n (lv' := [(2, .int (((10 : Int32) * v2_24) + ((u17 26) (Int32.toNatClampNeg v3_24)))), (0, .ref (qS 0)), (3, .int v3_24)]) hx hb (dAt zX6_order_0 26 rfl) rfl hl (by decide) rfl (fun ls hl => ?_)
          refine lv_iinc (v := (v3_24 + 1)) (lv' := [(3, .int (v3_24 + 1)), (2, .int (((10 : Int32) * v2_24) + ((u17 26) (Int32.toNatClampNeg v3_24)))), (0, .ref (qS 0))]) hx hb (dAt zX6_order_0 27 rfl) hl (k := 2) rfl rfl (by decide) rfl (fun ls hl => ?_)
          refine lv_goto (tgt := 24) hx hb (dAt zX6_order_0 28 rfl) (by decide) ?_
          exact ih_24 (((10 : Int32) * v2_24) + ((u17 26) (Int32.toNatClampNeg v3_24))) (v3_24 + 1) _ _ _ h hP hD hS (lv_sub hl [2, 1, 0] rfl)
    exact L_24 n 0 0 _ _ _ h hP hD hS (lv_sub hl [2, 1, 0] rfl)
  · have h := q_pos c_9 h
    refine lv_bipush (v := (-2)) hx hb (dAt zX6_order_0 6 rfl) (by decide) ?_
    obtain rfl := q_some h
    exact xRi hx hb hr hlocks hQ hAe hP hD hK hS rfl (dAt zX6_order_0 7 rfl)
def m_X6_rung (n : Nat) (zS : TI) (zL : TL) (a1 : Int32) (a2 : Int32) : Option (Int32 × TI) := ((m_X6_isOne n  a1).bind fun u1 => (if u1 = 0 then some ((-1), zS) else (if (zS 0 8) = 8 then some ((-4), zS) else (gd (inB (zS 0 8) 8) ((if a2 = 0 then (gd (inB (zS 0 8) 8) (some (((zS 0 8) + (1 : Int32)), (sf (upA (upA zS 7 (upd (zS 7) (Int32.toNatClampNeg (zS 0 8)) a1)) 8 (upd (zS 8) (Int32.toNatClampNeg (zS 0 8)) 0)) 8 ((zS 0 8) + (1 : Int32)))))) else (gd (inB (zS 0 8) 8) (some (((zS 0 8) + (1 : Int32)), (sf (upA (upA zS 7 (upd (zS 7) (Int32.toNatClampNeg (zS 0 8)) a1)) 8 (upd (zS 8) (Int32.toNatClampNeg (zS 0 8)) 1)) 8 ((zS 0 8) + (1 : Int32))))))))))))
set_option maxHeartbeats 4000000 in
set_option maxRecDepth 100000 in
theorem c_X6_rung (l : Launch) (D : va_G) (cI cJ cZ : ClassId) (n : Nat) (qS : Nat → Nat) (sz : Nat) (zS : TI) (zL : TL) (a1 : Int32) (a2 : Int32) (out : Int32 × TI) (hm : m_X6_rung n zS zL a1 a2 = some out) : Met l yX6_rung (wsM yX6_rung cX6_rung 3 (some .int)) { frames := 2, cells := 0, slots := 0, locals := 45 } (xPre D (kT cI cJ cZ) (w6 cI cJ cZ qS zS zL) sz [.ref (qS 0), .int a1, .int a2]) (xQi D (kT cI cJ cZ) (w6 cI cJ cZ qS zS zL) (w6 cI cJ cZ qS out.2 zL) sz out.1) 0 0 (va_A (w6 cI cJ cZ qS zS zL) sz) := by
  refine Met.ofW (cc := cX6_rung) (maxL := 3) (ret := (some .int)) (by decide) rfl ?_
  intro p e s m args below meth c s₁ B hml hv
  obtain ⟨hv, hsz, hP, hK, hD0, hN⟩ := hv
  have hx := B.exec; have hb := B.bytes; have hr := B.returns
  have hts := atoms_spec (ws := (wsM yX6_rung cX6_rung 3 (some .int))) B.pre
  have hown : s.vm.findClass RX6 = some m.cls := findClass_of_methodNamed B.named
  have hlocks := B.notSynchronized
  subst hsz
  have hD := hD0.self (sz := s.heap.size)
  obtain ⟨A, hAe⟩ : ∃ A, A = va_A (w6 cI cJ cZ qS zS zL) s.heap.size := ⟨_, rfl⟩
  rw [← hAe] at hD
  have hA : ∀ q : Nat, s.heap.size ≤ q → A q := fun q h => by rw [hAe]; exact Or.inr h
  have htl : ∀ w ∈ wsL_law, w.before args s = true := fun w h => hts w (List.mem_cons_of_mem _ h)
  refine xHead (R' := { frames := 2, cells := 0, slots := 0, locals := 45 }) rfl (fun Q H hQ hH => ?_)
  have hP : va_P D vwCl (w6 cI cJ cZ qS zS zL) H := by rw [hH]; exact hP
  have hS : va_S A s.heap H [] := by rw [hH]; exact va_S.rf
  refine xStart hv (Nat.le_of_ble_eq_true rfl) (lv := [(0, .ref (qS 0)), (1, .int a1), (2, .int a2)]) rfl (fun ls hl => ?_)
  have h := hm
  unfold m_X6_rung at h
  refine lv_iload_n hx hb (dAt zX6_rung_0 0 rfl) rfl (lv_at hl 1 rfl) ?_
  obtain ⟨u1, hu1, h⟩ := q_bind h
  refine xFz (wc := ([] : va_W)) (w1 := ([] : va_W)) (wr := (w6 cI cJ cZ qS zS zL)) (ws2 := (w6 cI cJ cZ qS zS zL)) (va_runS (As := [.int a1]) (rest := []) ⟨hx, hb, hml, hown, htl⟩ (c_X6_isOne l D cI cJ cZ n  H.size  a1 u1 hu1) (va_cwS 1 htl (gS W_127 W_128 W_5 W_129) rfl rfl rfl (by decide +kernel) ⟨Nat.le_of_ble_eq_true rfl, Nat.le_of_ble_eq_true rfl⟩) (xPS xP0 (xD0 A) hK hN) rfl rfl hl.1 rfl (lv_room (Nat.le_of_ble_eq_true rfl)) (dAt zX6_rung_0 1 rfl) ⟨Nat.zero_le _, Nat.zero_le _⟩) hS hA hP hD [] [0, 1, 2, 3, 4, 5, 6, 7, 8, 9, 10, 11, 12, 13, 14, 15, 16] [0, 1, 2, 3, 4, 5, 6, 7, 8, 9, 10, 11, 12, 13, 14, 15, 16] rfl rfl (by decide) (by decide) rfl (by decide) (fun H locs hz1 hP hD hS => ?_)
  refine lv_if_ne (tgt := 9) hx hb (dAt zX6_rung_0 2 rfl) (by decide) (fun c_4 => ?_) (fun c_4 => ?_)
  · have h := q_neg c_4 h
    refine lv_aload_n hx hb (dAt zX6_rung_0 5 rfl) rfl (lv_at hl 0 rfl) ?_
    refine va_get (D := D) (ci := 6) (v := .int (zS 0 8)) (C := RX6) (T := TX6) (N := 32) hx hb htl inlX6 hown hK hP 0 rfl rfl 8 (by decide) (htl _ W_665) (fun _ h9 => h9) rfl (dAt zX6_rung_0 6 rfl) ?_
    refine lv_bipush (v := 8) hx hb (dAt zX6_rung_0 7 rfl) (by decide) ?_
    refine lv_icmp_ne (tgt := 21) hx hb (dAt zX6_rung_0 8 rfl) (by decide) (fun c_15 => ?_) (fun c_15 => ?_)
    · have h := q_neg c_15 h
      refine lv_aload_n hx hb (dAt zX6_rung_0 11 rfl) rfl (lv_at hl 0 rfl) ?_
      refine va_get (D := D) (ci := 6) (v := .ref (qS 7)) (C := RX6) (T := TX6) (N := 32) hx hb htl inlX6 hown hK hP 0 rfl rfl 6 (by decide) (htl _ W_88) (fun _ h9 => h9) rfl (dAt zX6_rung_0 12 rfl) ?_
      refine lv_aload_n hx hb (dAt zX6_rung_0 13 rfl) rfl (lv_at hl 0 rfl) ?_
      refine va_get (D := D) (ci := 6) (v := .int (zS 0 8)) (C := RX6) (T := TX6) (N := 32) hx hb htl inlX6 hown hK hP 0 rfl rfl 8 (by decide) (htl _ W_665) (fun _ h9 => h9) rfl (dAt zX6_rung_0 14 rfl) ?_
      refine lv_iload_n hx hb (dAt zX6_rung_0 15 rfl) rfl (lv_at hl 1 rfl) ?_
      obtain ⟨hi_30, h⟩ := q_in h
      refine va_iast hx hb hK hP hD hS 4 0 rfl rfl hi_30 (dAt zX6_rung_0 16 rfl) (fun H locs hP hD hS => ?_)
      have hP : va_P D vwCl (w6x cI cJ cZ qS (zS 0 0) (zS 0 1) (zS 0 2) (zS 0 8) (zS 0 10) (zS 0 14) (zS 0 15) (zS 0 16) (zS 0 17) (zS 0 19) (zS 0 20) (zS 0 21) (zS 0 22) (zS 0 23) (zS 0 30) (zS 0 31) (zS 4) (zS 5) (zS 6) (upd (zS 7) (Int32.toNatClampNeg (zS 0 8)) a1) (zS 8) (zS 10) (zS 12) (zS 13) (zS 14) (zS 19) (zS 25) (zS 26) (zL 27) (zS 28) (zS 29) (zS 30)) H := hP
      have hD : va_D A (w6x cI cJ cZ qS (zS 0 0) (zS 0 1) (zS 0 2) (zS 0 8) (zS 0 10) (zS 0 14) (zS 0 15) (zS 0 16) (zS 0 17) (zS 0 19) (zS 0 20) (zS 0 21) (zS 0 22) (zS 0 23) (zS 0 30) (zS 0 31) (zS 4) (zS 5) (zS 6) (upd (zS 7) (Int32.toNatClampNeg (zS 0 8)) a1) (zS 8) (zS 10) (zS 12) (zS 13) (zS 14) (zS 19) (zS 25) (zS 26) (zL 27) (zS 28) (zS 29) (zS 30)) := hD
      refine lv_aload_n hx hb (dAt zX6_rung_0 17 rfl) rfl (lv_at hl 0 rfl) ?_
      refine va_get (D := D) (ci := 6) (v := .ref (qS 8)) (C := RX6) (T := TX6) (N := 32) hx hb htl inlX6 hown hK hP 0 rfl rfl 7 (by decide) (htl _ W_89) (fun _ h9 => h9) rfl (dAt zX6_rung_0 18 rfl) ?_
      refine lv_aload_n hx hb (dAt zX6_rung_0 19 rfl) rfl (lv_at hl 0 rfl) ?_
      refine va_get (D := D) (ci := 6) (v := .int (zS 0 8)) (C := RX6) (T := TX6) (N := 32) hx hb htl inlX6 hown hK hP 0 rfl rfl 8 (by decide) (htl _ W_665) (fun _ h9 => h9) rfl (dAt zX6_rung_0 20 rfl) ?_
      refine lv_iload_n hx hb (dAt zX6_rung_0 21 rfl) rfl (lv_at hl 2 rfl) ?_
      refine lv_if_eq (tgt := 47) hx hb (dAt zX6_rung_0 22 rfl) (by decide) (fun c_40 => ?_) (fun c_40 => ?_)
      · have h := q_pos c_40 h
        refine lv_iconst (v := 0) hx hb (dAt zX6_rung_0 25 rfl) (by decide) ?_
        obtain ⟨hi_48, h⟩ := q_in h
        refine va_iast hx hb hK hP hD hS 5 0 rfl rfl hi_48 (dAt zX6_rung_0 26 rfl) (fun H locs hP hD hS => ?_)
        have hP : va_P D vwCl (w6x cI cJ cZ qS (zS 0 0) (zS 0 1) (zS 0 2) (zS 0 8) (zS 0 10) (zS 0 14) (zS 0 15) (zS 0 16) (zS 0 17) (zS 0 19) (zS 0 20) (zS 0 21) (zS 0 22) (zS 0 23) (zS 0 30) (zS 0 31) (zS 4) (zS 5) (zS 6) (upd (zS 7) (Int32.toNatClampNeg (zS 0 8)) a1) (upd (zS 8) (Int32.toNatClampNeg (zS 0 8)) 0) (zS 10) (zS 12) (zS 13) (zS 14) (zS 19) (zS 25) (zS 26) (zL 27) (zS 28) (zS 29) (zS 30)) H := hP
        have hD : va_D A (w6x cI cJ cZ qS (zS 0 0) (zS 0 1) (zS 0 2) (zS 0 8) (zS 0 10) (zS 0 14) (zS 0 15) (zS 0 16) (zS 0 17) (zS 0 19) (zS 0 20) (zS 0 21) (zS 0 22) (zS 0 23) (zS 0 30) (zS 0 31) (zS 4) (zS 5) (zS 6) (upd (zS 7) (Int32.toNatClampNeg (zS 0 8)) a1) (upd (zS 8) (Int32.toNatClampNeg (zS 0 8)) 0) (zS 10) (zS 12) (zS 13) (zS 14) (zS 19) (zS 25) (zS 26) (zL 27) (zS 28) (zS 29) (zS 30)) := hD
        refine lv_aload_n hx hb (dAt zX6_rung_0 27 rfl) rfl (lv_at hl 0 rfl) ?_
        refine lv_dup hx hb (dAt zX6_rung_0 28 rfl) rfl ?_
        refine va_get (D := D) (ci := 6) (v := .int (zS 0 8)) (C := RX6) (T := TX6) (N := 32) hx hb htl inlX6 hown hK hP 0 rfl rfl 8 (by decide) (htl _ W_665) (fun _ h9 => h9) rfl (dAt zX6_rung_0 29 rfl) ?_
        refine lv_iconst (v := 1) hx hb (dAt zX6_rung_0 30 rfl) (by decide) ?_
        refine lv_iadd hx hb (dAt zX6_rung_0 31 rfl) ?_
        refine va_put (D := D) (ci := 6) (v := .int ((zS 0 8) + (1 : Int32))) (ty := .int) (C := RX6) (T := TX6) (N := 32) hx hb htl inlX6 tyX6 tyX6_ok nmX6 hown hK hP hD hS 0 rfl rfl 8 (by decide) (htl _ W_665) (fun _ h9 => h9) rfl (by decide +kernel) rfl rfl (Nat.le_of_ble_eq_true rfl) (dAt zX6_rung_0 32 rfl) (fun H locs hP hD hS => ?_)
        have hP : va_P D vwCl (w6x cI cJ cZ qS (zS 0 0) (zS 0 1) (zS 0 2) ((zS 0 8) + (1 : Int32)) (zS 0 10) (zS 0 14) (zS 0 15) (zS 0 16) (zS 0 17) (zS 0 19) (zS 0 20) (zS 0 21) (zS 0 22) (zS 0 23) (zS 0 30) (zS 0 31) (zS 4) (zS 5) (zS 6) (upd (zS 7) (Int32.toNatClampNeg (zS 0 8)) a1) (upd (zS 8) (Int32.toNatClampNeg (zS 0 8)) 0) (zS 10) (zS 12) (zS 13) (zS 14) (zS 19) (zS 25) (zS 26) (zL 27) (zS 28) (zS 29) (zS 30)) H := hP
        have hD : va_D A (w6x cI cJ cZ qS (zS 0 0) (zS 0 1) (zS 0 2) ((zS 0 8) + (1 : Int32)) (zS 0 10) (zS 0 14) (zS 0 15) (zS 0 16) (zS 0 17) (zS 0 19) (zS 0 20) (zS 0 21) (zS 0 22) (zS 0 23) (zS 0 30) (zS 0 31) (zS 4) (zS 5) (zS 6) (upd (zS 7) (Int32.toNatClampNeg (zS 0 8)) a1) (upd (zS 8) (Int32.toNatClampNeg (zS 0 8)) 0) (zS 10) (zS 12) (zS 13) (zS 14) (zS 19) (zS 25) (zS 26) (zL 27) (zS 28) (zS 29) (zS 30)) := hD
        refine lv_aload_n hx hb (dAt zX6_rung_0 33 rfl) rfl (lv_at hl 0 rfl) ?_
        refine va_get (D := D) (ci := 6) (v := .int ((zS 0 8) + (1 : Int32))) (C := RX6) (T := TX6) (N := 32) hx hb htl inlX6 hown hK hP 0 rfl rfl 8 (by decide) (htl _ W_665) (fun _ h9 => h9) rfl (dAt zX6_rung_0 34 rfl) ?_
        have hP : va_P D vwCl (w6 cI cJ cZ qS (sf (upA (upA zS 7 (upd (zS 7) (Int32.toNatClampNeg (zS 0 8)) a1)) 8 (upd (zS 8) (Int32.toNatClampNeg (zS 0 8)) 0)) 8 ((zS 0 8) + (1 : Int32))) zL) H := hP
        have hD : va_D A (w6 cI cJ cZ qS (sf (upA (upA zS 7 (upd (zS 7) (Int32.toNatClampNeg (zS 0 8)) a1)) 8 (upd (zS 8) (Int32.toNatClampNeg (zS 0 8)) 0)) 8 ((zS 0 8) + (1 : Int32))) zL) := hD
        obtain rfl := q_some h
        exact xRi hx hb hr hlocks hQ hAe hP hD hK hS rfl (dAt zX6_rung_0 35 rfl)
      · have h := q_neg c_40 h
        refine lv_iconst (v := 1) hx hb (dAt zX6_rung_0 23 rfl) (by decide) ?_
        refine lv_goto (tgt := 48) hx hb (dAt zX6_rung_0 24 rfl) (by decide) ?_
        obtain ⟨hi_48, h⟩ := q_in h
        refine va_iast hx hb hK hP hD hS 5 0 rfl rfl hi_48 (dAt zX6_rung_0 26 rfl) (fun H locs hP hD hS => ?_)
        have hP : va_P D vwCl (w6x cI cJ cZ qS (zS 0 0) (zS 0 1) (zS 0 2) (zS 0 8) (zS 0 10) (zS 0 14) (zS 0 15) (zS 0 16) (zS 0 17) (zS 0 19) (zS 0 20) (zS 0 21) (zS 0 22) (zS 0 23) (zS 0 30) (zS 0 31) (zS 4) (zS 5) (zS 6) (upd (zS 7) (Int32.toNatClampNeg (zS 0 8)) a1) (upd (zS 8) (Int32.toNatClampNeg (zS 0 8)) 1) (zS 10) (zS 12) (zS 13) (zS 14) (zS 19) (zS 25) (zS 26) (zL 27) (zS 28) (zS 29) (zS 30)) H := hP
        have hD : va_D A (w6x cI cJ cZ qS (zS 0 0) (zS 0 1) (zS 0 2) (zS 0 8) (zS 0 10) (zS 0 14) (zS 0 15) (zS 0 16) (zS 0 17) (zS 0 19) (zS 0 20) (zS 0 21) (zS 0 22) (zS 0 23) (zS 0 30) (zS 0 31) (zS 4) (zS 5) (zS 6) (upd (zS 7) (Int32.toNatClampNeg (zS 0 8)) a1) (upd (zS 8) (Int32.toNatClampNeg (zS 0 8)) 1) (zS 10) (zS 12) (zS 13) (zS 14) (zS 19) (zS 25) (zS 26) (zL 27) (zS 28) (zS 29) (zS 30)) := hD
        refine lv_aload_n hx hb (dAt zX6_rung_0 27 rfl) rfl (lv_at hl 0 rfl) ?_
        refine lv_dup hx hb (dAt zX6_rung_0 28 rfl) rfl ?_
        refine va_get (D := D) (ci := 6) (v := .int (zS 0 8)) (C := RX6) (T := TX6) (N := 32) hx hb htl inlX6 hown hK hP 0 rfl rfl 8 (by decide) (htl _ W_665) (fun _ h9 => h9) rfl (dAt zX6_rung_0 29 rfl) ?_
        refine lv_iconst (v := 1) hx hb (dAt zX6_rung_0 30 rfl) (by decide) ?_
        refine lv_iadd hx hb (dAt zX6_rung_0 31 rfl) ?_
        refine va_put (D := D) (ci := 6) (v := .int ((zS 0 8) + (1 : Int32))) (ty := .int) (C := RX6) (T := TX6) (N := 32) hx hb htl inlX6 tyX6 tyX6_ok nmX6 hown hK hP hD hS 0 rfl rfl 8 (by decide) (htl _ W_665) (fun _ h9 => h9) rfl (by decide +kernel) rfl rfl (Nat.le_of_ble_eq_true rfl) (dAt zX6_rung_0 32 rfl) (fun H locs hP hD hS => ?_)
        have hP : va_P D vwCl (w6x cI cJ cZ qS (zS 0 0) (zS 0 1) (zS 0 2) ((zS 0 8) + (1 : Int32)) (zS 0 10) (zS 0 14) (zS 0 15) (zS 0 16) (zS 0 17) (zS 0 19) (zS 0 20) (zS 0 21) (zS 0 22) (zS 0 23) (zS 0 30) (zS 0 31) (zS 4) (zS 5) (zS 6) (upd (zS 7) (Int32.toNatClampNeg (zS 0 8)) a1) (upd (zS 8) (Int32.toNatClampNeg (zS 0 8)) 1) (zS 10) (zS 12) (zS 13) (zS 14) (zS 19) (zS 25) (zS 26) (zL 27) (zS 28) (zS 29) (zS 30)) H := hP
        have hD : va_D A (w6x cI cJ cZ qS (zS 0 0) (zS 0 1) (zS 0 2) ((zS 0 8) + (1 : Int32)) (zS 0 10) (zS 0 14) (zS 0 15) (zS 0 16) (zS 0 17) (zS 0 19) (zS 0 20) (zS 0 21) (zS 0 22) (zS 0 23) (zS 0 30) (zS 0 31) (zS 4) (zS 5) (zS 6) (upd (zS 7) (Int32.toNatClampNeg (zS 0 8)) a1) (upd (zS 8) (Int32.toNatClampNeg (zS 0 8)) 1) (zS 10) (zS 12) (zS 13) (zS 14) (zS 19) (zS 25) (zS 26) (zL 27) (zS 28) (zS 29) (zS 30)) := hD
        refine lv_aload_n hx hb (dAt zX6_rung_0 33 rfl) rfl (lv_at hl 0 rfl) ?_
        refine va_get (D := D) (ci := 6) (v := .int ((zS 0 8) + (1 : Int32))) (C := RX6) (T := TX6) (N := 32) hx hb htl inlX6 hown hK hP 0 rfl rfl 8 (by decide) (htl _ W_665) (fun _ h9 => h9) rfl (dAt zX6_rung_0 34 rfl) ?_
        have hP : va_P D vwCl (w6 cI cJ cZ qS (sf (upA (upA zS 7 (upd (zS 7) (Int32.toNatClampNeg (zS 0 8)) a1)) 8 (upd (zS 8) (Int32.toNatClampNeg (zS 0 8)) 1)) 8 ((zS 0 8) + (1 : Int32))) zL) H := hP
        have hD : va_D A (w6 cI cJ cZ qS (sf (upA (upA zS 7 (upd (zS 7) (Int32.toNatClampNeg (zS 0 8)) a1)) 8 (upd (zS 8) (Int32.toNatClampNeg (zS 0 8)) 1)) 8 ((zS 0 8) + (1 : Int32))) zL) := hD
        obtain rfl := q_some h
        exact xRi hx hb hr hlocks hQ hAe hP hD hK hS rfl (dAt zX6_rung_0 35 rfl)
    · have h := q_pos c_15 h
      refine lv_bipush (v := (-4)) hx hb (dAt zX6_rung_0 9 rfl) (by decide) ?_
      obtain rfl := q_some h
      exact xRi hx hb hr hlocks hQ hAe hP hD hK hS rfl (dAt zX6_rung_0 10 rfl)
  · have h := q_pos c_4 h
    refine lv_iconst (v := (-1)) hx hb (dAt zX6_rung_0 3 rfl) (by decide) ?_
    obtain rfl := q_some h
    exact xRi hx hb hr hlocks hQ hAe hP hD hK hS rfl (dAt zX6_rung_0 4 rfl)
def m_X6_forget (n : Nat) (zS : TI) (zL : TL) : Option (Int32 × TI) := some ((zS 0 8), (sf zS 8 0))
set_option maxHeartbeats 4000000 in
set_option maxRecDepth 100000 in
theorem c_X6_forget (l : Launch) (D : va_G) (cI cJ cZ : ClassId) (n : Nat) (qS : Nat → Nat) (sz : Nat) (zS : TI) (zL : TL) (out : Int32 × TI) (hm : m_X6_forget n zS zL = some out) : Met l yX6_forget (wsM yX6_forget cX6_forget 2 (some .int)) { frames := 0, cells := 0, slots := 0, locals := 0 } (xPre D (kT cI cJ cZ) (w6 cI cJ cZ qS zS zL) sz [.ref (qS 0)]) (xQi D (kT cI cJ cZ) (w6 cI cJ cZ qS zS zL) (w6 cI cJ cZ qS out.2 zL) sz out.1) 0 0 (va_A (w6 cI cJ cZ qS zS zL) sz) := by
  refine Met.ofW (cc := cX6_forget) (maxL := 2) (ret := (some .int)) (by decide) rfl ?_
  intro p e s m args below meth c s₁ B hml hv
  obtain ⟨hv, hsz, hP, hK, hD0, hN⟩ := hv
  have hx := B.exec; have hb := B.bytes; have hr := B.returns
  have hts := atoms_spec (ws := (wsM yX6_forget cX6_forget 2 (some .int))) B.pre
  have hown : s.vm.findClass RX6 = some m.cls := findClass_of_methodNamed B.named
  have hlocks := B.notSynchronized
  subst hsz
  have hD := hD0.self (sz := s.heap.size)
  obtain ⟨A, hAe⟩ : ∃ A, A = va_A (w6 cI cJ cZ qS zS zL) s.heap.size := ⟨_, rfl⟩
  rw [← hAe] at hD
  have hA : ∀ q : Nat, s.heap.size ≤ q → A q := fun q h => by rw [hAe]; exact Or.inr h
  have htl : ∀ w ∈ wsL_law, w.before args s = true := fun w h => hts w (List.mem_cons_of_mem _ h)
  refine xHead (R' := { frames := 0, cells := 0, slots := 0, locals := 0 }) rfl (fun Q H hQ hH => ?_)
  have hP : va_P D vwCl (w6 cI cJ cZ qS zS zL) H := by rw [hH]; exact hP
  have hS : va_S A s.heap H [] := by rw [hH]; exact va_S.rf
  refine xStart hv (Nat.le_of_ble_eq_true rfl) (lv := [(0, .ref (qS 0))]) rfl (fun ls hl => ?_)
  have h := hm
  unfold m_X6_forget at h
  refine lv_aload_n hx hb (dAt zX6_forget_0 0 rfl) rfl (lv_at hl 0 rfl) ?_
  refine va_get (D := D) (ci := 6) (v := .int (zS 0 8)) (C := RX6) (T := TX6) (N := 32) hx hb htl inlX6 hown hK hP 0 rfl rfl 8 (by decide) (htl _ W_665) (fun _ h9 => h9) rfl (dAt zX6_forget_0 1 rfl) ?_
  refine lv_istore_n (lv' := [(1, .int (zS 0 8)), (0, .ref (qS 0))]) hx hb (dAt zX6_forget_0 2 rfl) rfl hl (by decide) rfl (fun ls hl => ?_)
  refine lv_aload_n hx hb (dAt zX6_forget_0 3 rfl) rfl (lv_at hl 1 rfl) ?_
  refine lv_iconst (v := 0) hx hb (dAt zX6_forget_0 4 rfl) (by decide) ?_
  refine va_put (D := D) (ci := 6) (v := .int 0) (ty := .int) (C := RX6) (T := TX6) (N := 32) hx hb htl inlX6 tyX6 tyX6_ok nmX6 hown hK hP hD hS 0 rfl rfl 8 (by decide) (htl _ W_665) (fun _ h9 => h9) rfl (by decide +kernel) rfl rfl (Nat.le_of_ble_eq_true rfl) (dAt zX6_forget_0 5 rfl) (fun H locs hP hD hS => ?_)
  have hP : va_P D vwCl (w6x cI cJ cZ qS (zS 0 0) (zS 0 1) (zS 0 2) 0 (zS 0 10) (zS 0 14) (zS 0 15) (zS 0 16) (zS 0 17) (zS 0 19) (zS 0 20) (zS 0 21) (zS 0 22) (zS 0 23) (zS 0 30) (zS 0 31) (zS 4) (zS 5) (zS 6) (zS 7) (zS 8) (zS 10) (zS 12) (zS 13) (zS 14) (zS 19) (zS 25) (zS 26) (zL 27) (zS 28) (zS 29) (zS 30)) H := hP
  have hD : va_D A (w6x cI cJ cZ qS (zS 0 0) (zS 0 1) (zS 0 2) 0 (zS 0 10) (zS 0 14) (zS 0 15) (zS 0 16) (zS 0 17) (zS 0 19) (zS 0 20) (zS 0 21) (zS 0 22) (zS 0 23) (zS 0 30) (zS 0 31) (zS 4) (zS 5) (zS 6) (zS 7) (zS 8) (zS 10) (zS 12) (zS 13) (zS 14) (zS 19) (zS 25) (zS 26) (zL 27) (zS 28) (zS 29) (zS 30)) := hD
  refine lv_iload_n hx hb (dAt zX6_forget_0 6 rfl) rfl (lv_at hl 0 rfl) ?_
  have hP : va_P D vwCl (w6 cI cJ cZ qS (sf zS 8 0) zL) H := hP
  have hD : va_D A (w6 cI cJ cZ qS (sf zS 8 0) zL) := hD
  obtain rfl := q_some h
  exact xRi hx hb hr hlocks hQ hAe hP hD hK hS rfl (dAt zX6_forget_0 7 rfl)
def b_X6_yesBy_4 (n : Nat) (zS : TI) (a1 : Int32) (s_4 : Int32 × Int32) (k_4 : Int32 × Int32 → Option Int32) : Option Int32 := (if 10 ≤ s_4.2 then some s_4.1 else (if s_4.2 = a1 then (k_4 ((s_4.1 ||| (0 : Int32)), (s_4.2 + 1))) else (gd (inB (((10 : Int32) * a1) + s_4.2) 100) ((if ((zS 4) (Int32.toNatClampNeg (((10 : Int32) * a1) + s_4.2))) < ((zS 6) 1) then (k_4 ((s_4.1 ||| (0 : Int32)), (s_4.2 + 1))) else (k_4 ((s_4.1 ||| ((1 : Int32) <<< (s_4.2 &&& 31))), (s_4.2 + 1))))))))
def m_X6_yesBy (n : Nat) (zS : TI) (zL : TL) (a1 : Int32) : Option Int32 := (loopF (b_X6_yesBy_4 n zS a1 ) n (0, 0))
set_option maxHeartbeats 4000000 in
set_option maxRecDepth 100000 in
theorem c_X6_yesBy (l : Launch) (D : va_G) (cI cJ cZ : ClassId) (n : Nat) (qS : Nat → Nat) (sz : Nat) (zS : TI) (zL : TL) (a1 : Int32) (out : Int32) (hm : m_X6_yesBy n zS zL a1 = some out) : Met l yX6_yesBy (wsM yX6_yesBy cX6_yesBy 4 (some .int)) { frames := 0, cells := 0, slots := 0, locals := 0 } (xPre D (kT cI cJ cZ) (w6 cI cJ cZ qS zS zL) sz [.ref (qS 0), .int a1]) (xQi D (kT cI cJ cZ) (w6 cI cJ cZ qS zS zL) (w6 cI cJ cZ qS zS zL) sz out) 0 0 (va_A (w6 cI cJ cZ qS zS zL) sz) := by
  refine Met.ofW (cc := cX6_yesBy) (maxL := 4) (ret := (some .int)) (by decide) rfl ?_
  intro p e s m args below meth c s₁ B hml hv
  obtain ⟨hv, hsz, hP, hK, hD0, hN⟩ := hv
  have hx := B.exec; have hb := B.bytes; have hr := B.returns
  have hts := atoms_spec (ws := (wsM yX6_yesBy cX6_yesBy 4 (some .int))) B.pre
  have hown : s.vm.findClass RX6 = some m.cls := findClass_of_methodNamed B.named
  have hlocks := B.notSynchronized
  subst hsz
  have hD := hD0.self (sz := s.heap.size)
  obtain ⟨A, hAe⟩ : ∃ A, A = va_A (w6 cI cJ cZ qS zS zL) s.heap.size := ⟨_, rfl⟩
  rw [← hAe] at hD
  have hA : ∀ q : Nat, s.heap.size ≤ q → A q := fun q h => by rw [hAe]; exact Or.inr h
  have htl : ∀ w ∈ wsL_law, w.before args s = true := fun w h => hts w (List.mem_cons_of_mem _ h)
  refine xHead (R' := { frames := 0, cells := 0, slots := 0, locals := 0 }) rfl (fun Q H hQ hH => ?_)
  have hP : va_P D vwCl (w6 cI cJ cZ qS zS zL) H := by rw [hH]; exact hP
  have hS : va_S A s.heap H [] := by rw [hH]; exact va_S.rf
  refine xStart hv (Nat.le_of_ble_eq_true rfl) (lv := [(0, .ref (qS 0)), (1, .int a1)]) rfl (fun ls hl => ?_)
  have h := hm
  unfold m_X6_yesBy at h
  refine lv_iconst (v := 0) hx hb (dAt zX6_yesBy_0 0 rfl) (by decide) ?_
  refine lv_istore_n (lv' := [(2, .int 0), (0, .ref (qS 0)), (1, .int a1)]) hx hb (dAt zX6_yesBy_0 1 rfl) rfl hl (by decide) rfl (fun ls hl => ?_)
  refine lv_iconst (v := 0) hx hb (dAt zX6_yesBy_0 2 rfl) (by decide) ?_
  refine lv_istore_n (lv' := [(3, .int 0), (2, .int 0), (0, .ref (qS 0)), (1, .int a1)]) hx hb (dAt zX6_yesBy_0 3 rfl) rfl hl (by decide) rfl (fun ls hl => ?_)
  have L_4 : ∀ (j_4 : Nat) (v2_4 : Int32) (v3_4 : Int32) (H : Heap) (locs : List Loc) (ls : Array Slot), loopF (b_X6_yesBy_4 n zS a1) j_4 (v2_4, v3_4) = some out → va_P D vwCl (w6 cI cJ cZ qS zS zL) H → va_D A (w6 cI cJ cZ qS zS zL) → va_S A s.heap H locs → lv_has ls 4 [(0, .ref (qS 0)), (1, .int a1), (2, .int v2_4), (3, .int v3_4)] → W p l e { frames := 0, cells := 0, slots := 0, locals := 0 } s m args below meth c H locs 0 0 Q (F0 m 4 ls []) := by
    intro j_4
    induction j_4 with
    | zero => intro v2_4 v3_4 H locs ls h hP hD hS hl; exact loopF_0 h
    | succ j_4 ih_4 =>
      intro v2_4 v3_4 H locs ls h hP hD hS hl
      have h := loopF_s h
      unfold b_X6_yesBy_4 at h
      refine lv_iload_n hx hb (dAt zX6_yesBy_0 4 rfl) rfl (lv_at hl 3 rfl) ?_
      refine lv_bipush (v := 10) hx hb (dAt zX6_yesBy_0 5 rfl) (by decide) ?_
      refine lv_icmp_ge (tgt := 51) hx hb (dAt zX6_yesBy_0 6 rfl) (by decide) (fun c_7 => ?_) (fun c_7 => ?_)
      · have h := q_pos c_7 h
        refine lv_iload_n hx hb (dAt zX6_yesBy_0 33 rfl) rfl (lv_at hl 2 rfl) ?_
        obtain rfl := q_some h
        exact xRi hx hb hr hlocks hQ hAe hP hD hK hS rfl (dAt zX6_yesBy_0 34 rfl)
      · have h := q_neg c_7 h
        refine lv_iload_n hx hb (dAt zX6_yesBy_0 7 rfl) rfl (lv_at hl 2 rfl) ?_
        refine lv_iload_n hx hb (dAt zX6_yesBy_0 8 rfl) rfl (lv_at hl 3 rfl) ?_
        refine lv_iload_n hx hb (dAt zX6_yesBy_0 9 rfl) rfl (lv_at hl 1 rfl) ?_
        refine lv_icmp_eq (tgt := 42) hx hb (dAt zX6_yesBy_0 10 rfl) (by decide) (fun c_13 => ?_) (fun c_13 => ?_)
        · have h := q_pos c_13 h
          refine lv_iconst (v := 0) hx hb (dAt zX6_yesBy_0 28 rfl) (by decide) ?_
          refine lv_ior hx hb (dAt zX6_yesBy_0 29 rfl) ?_
          refine lv_istore_n (lv' := [(2, .int (v2_4 ||| (0 : Int32))), (0, .ref (qS 0)), (1, .int a1), (3, .int v3_4)]) hx hb (dAt zX6_yesBy_0 30 rfl) rfl hl (by decide) rfl (fun ls hl => ?_)
          refine lv_iinc (v := (v3_4 + 1)) (lv' := [(3, .int (v3_4 + 1)), (2, .int (v2_4 ||| (0 : Int32))), (0, .ref (qS 0)), (1, .int a1)]) hx hb (dAt zX6_yesBy_0 31 rfl) hl (k := 3) rfl rfl (by decide) rfl (fun ls hl => ?_)
          refine lv_goto (tgt := 4) hx hb (dAt zX6_yesBy_0 32 rfl) (by decide) ?_
          exact ih_4 (v2_4 ||| (0 : Int32)) (v3_4 + 1) _ _ _ h hP hD hS (lv_sub hl [2, 3, 1, 0] rfl)
        · have h := q_neg c_13 h
          refine lv_aload_n hx hb (dAt zX6_yesBy_0 11 rfl) rfl (lv_at hl 0 rfl) ?_
          refine va_get (D := D) (ci := 6) (v := .ref (qS 4)) (C := RX6) (T := TX6) (N := 32) hx hb htl inlX6 hown hK hP 0 rfl rfl 3 (by decide) (htl _ W_85) (fun _ h9 => h9) rfl (dAt zX6_yesBy_0 12 rfl) ?_
          refine lv_bipush (v := 10) hx hb (dAt zX6_yesBy_0 13 rfl) (by decide) ?_
          refine lv_iload_n hx hb (dAt zX6_yesBy_0 14 rfl) rfl (lv_at hl 1 rfl) ?_
          refine lv_imul hx hb (dAt zX6_yesBy_0 15 rfl) ?_
          refine lv_iload_n hx hb (dAt zX6_yesBy_0 16 rfl) rfl (lv_at hl 3 rfl) ?_
          refine lv_iadd hx hb (dAt zX6_yesBy_0 17 rfl) ?_
          obtain ⟨hi_26, h⟩ := q_in h
          refine va_iald hx hb hK hP 1 0 rfl rfl hi_26 (dAt zX6_yesBy_0 18 rfl) ?_
          refine lv_aload_n hx hb (dAt zX6_yesBy_0 19 rfl) rfl (lv_at hl 0 rfl) ?_
          refine va_get (D := D) (ci := 6) (v := .ref (qS 6)) (C := RX6) (T := TX6) (N := 32) hx hb htl inlX6 hown hK hP 0 rfl rfl 5 (by decide) (htl _ W_87) (fun _ h9 => h9) rfl (dAt zX6_yesBy_0 20 rfl) ?_
          refine lv_iconst (v := 1) hx hb (dAt zX6_yesBy_0 21 rfl) (by decide) ?_
          refine va_iald hx hb hK hP 3 0 rfl rfl (q_inb (by decide)) (dAt zX6_yesBy_0 22 rfl) ?_
          refine lv_icmp_lt (tgt := 42) hx hb (dAt zX6_yesBy_0 23 rfl) (by decide) (fun c_33 => ?_) (fun c_33 => ?_)
          · have h := q_pos c_33 h
            refine lv_iconst (v := 0) hx hb (dAt zX6_yesBy_0 28 rfl) (by decide) ?_
            refine lv_ior hx hb (dAt zX6_yesBy_0 29 rfl) ?_
            refine lv_istore_n (lv' := [(2, .int (v2_4 ||| (0 : Int32))), (0, .ref (qS 0)), (1, .int a1), (3, .int v3_4)]) hx hb (dAt zX6_yesBy_0 30 rfl) rfl hl (by decide) rfl (fun ls hl => ?_)
            refine lv_iinc (v := (v3_4 + 1)) (lv' := [(3, .int (v3_4 + 1)), (2, .int (v2_4 ||| (0 : Int32))), (0, .ref (qS 0)), (1, .int a1)]) hx hb (dAt zX6_yesBy_0 31 rfl) hl (k := 3) rfl rfl (by decide) rfl (fun ls hl => ?_)
            refine lv_goto (tgt := 4) hx hb (dAt zX6_yesBy_0 32 rfl) (by decide) ?_
            exact ih_4 (v2_4 ||| (0 : Int32)) (v3_4 + 1) _ _ _ h hP hD hS (lv_sub hl [2, 3, 1, 0] rfl)
          · have h := q_neg c_33 h
            refine lv_iconst (v := 1) hx hb (dAt zX6_yesBy_0 24 rfl) (by decide) ?_
            refine lv_iload_n hx hb (dAt zX6_yesBy_0 25 rfl) rfl (lv_at hl 3 rfl) ?_
            refine lv_ishl hx hb (dAt zX6_yesBy_0 26 rfl) ?_
            refine lv_goto (tgt := 43) hx hb (dAt zX6_yesBy_0 27 rfl) (by decide) ?_
            refine lv_ior hx hb (dAt zX6_yesBy_0 29 rfl) ?_
            refine lv_istore_n (lv' := [(2, .int (v2_4 ||| ((1 : Int32) <<< (v3_4 &&& 31)))), (0, .ref (qS 0)), (1, .int a1), (3, .int v3_4)]) hx hb (dAt zX6_yesBy_0 30 rfl) rfl hl (by decide) rfl (fun ls hl => ?_)
            refine lv_iinc (v := (v3_4 + 1)) (lv' := [(3, .int (v3_4 + 1)), (2, .int (v2_4 ||| ((1 : Int32) <<< (v3_4 &&& 31)))), (0, .ref (qS 0)), (1, .int a1)]) hx hb (dAt zX6_yesBy_0 31 rfl) hl (k := 3) rfl rfl (by decide) rfl (fun ls hl => ?_)
            refine lv_goto (tgt := 4) hx hb (dAt zX6_yesBy_0 32 rfl) (by decide) ?_
            exact ih_4 (v2_4 ||| ((1 : Int32) <<< (v3_4 &&& 31))) (v3_4 + 1) _ _ _ h hP hD hS (lv_sub hl [2, 3, 1, 0] rfl)
  exact L_4 n 0 0 _ _ _ h hP hD hS (lv_sub hl [2, 3, 1, 0] rfl)
def b_X6_who_6 (n : Nat) (zS : TI) (zL : TL) (s_6 : Int32 × Int32) (k_6 : Int32 × Int32 → Option Int32) : Option Int32 := (if (zS 0 8) ≤ s_6.2 then some s_6.1 else (gd (inB s_6.2 8) (((m_X6_yesBy n zS zL ((zS 7) (Int32.toNatClampNeg s_6.2))).bind fun u21 => (gd (inB s_6.2 8) ((if ((zS 8) (Int32.toNatClampNeg s_6.2)) = 1 then (k_6 ((s_6.1 &&& u21), (s_6.2 + 1))) else (k_6 ((s_6.1 &&& ((1023 : Int32) &&& (u21 ^^^ (-1 : Int32)))), (s_6.2 + 1))))))))))
def m_X6_who (n : Nat) (zS : TI) (zL : TL) : Option Int32 := (loopF (b_X6_who_6 n zS zL ) n (1023, 0))
set_option maxHeartbeats 4000000 in
set_option maxRecDepth 100000 in
theorem c_X6_who (l : Launch) (D : va_G) (cI cJ cZ : ClassId) (n : Nat) (qS : Nat → Nat) (sz : Nat) (zS : TI) (zL : TL) (out : Int32) (hm : m_X6_who n zS zL = some out) : Met l yX6_who (wsM yX6_who cX6_who 4 (some .int)) { frames := 1, cells := 0, slots := 0, locals := 23 } (xPre D (kT cI cJ cZ) (w6 cI cJ cZ qS zS zL) sz [.ref (qS 0)]) (xQi D (kT cI cJ cZ) (w6 cI cJ cZ qS zS zL) (w6 cI cJ cZ qS zS zL) sz out) 0 0 (va_A (w6 cI cJ cZ qS zS zL) sz) := by
  refine Met.ofW (cc := cX6_who) (maxL := 4) (ret := (some .int)) (by decide) rfl ?_
  intro p e s m args below meth c s₁ B hml hv
  obtain ⟨hv, hsz, hP, hK, hD0, hN⟩ := hv
  have hx := B.exec; have hb := B.bytes; have hr := B.returns
  have hts := atoms_spec (ws := (wsM yX6_who cX6_who 4 (some .int))) B.pre
  have hown : s.vm.findClass RX6 = some m.cls := findClass_of_methodNamed B.named
  have hlocks := B.notSynchronized
  subst hsz
  have hD := hD0.self (sz := s.heap.size)
  obtain ⟨A, hAe⟩ : ∃ A, A = va_A (w6 cI cJ cZ qS zS zL) s.heap.size := ⟨_, rfl⟩
  rw [← hAe] at hD
  have hA : ∀ q : Nat, s.heap.size ≤ q → A q := fun q h => by rw [hAe]; exact Or.inr h
  have htl : ∀ w ∈ wsL_law, w.before args s = true := fun w h => hts w (List.mem_cons_of_mem _ h)
  refine xHead (R' := { frames := 1, cells := 0, slots := 0, locals := 23 }) rfl (fun Q H hQ hH => ?_)
  have hP : va_P D vwCl (w6 cI cJ cZ qS zS zL) H := by rw [hH]; exact hP
  have hS : va_S A s.heap H [] := by rw [hH]; exact va_S.rf
  refine xStart hv (Nat.le_of_ble_eq_true rfl) (lv := [(0, .ref (qS 0))]) rfl (fun ls hl => ?_)
  have h := hm
  unfold m_X6_who at h
  refine lv_sipush (v := 1023) hx hb (dAt zX6_who_0 0 rfl) (by decide) ?_
  refine lv_istore_n (lv' := [(1, .int 1023), (0, .ref (qS 0))]) hx hb (dAt zX6_who_0 1 rfl) rfl hl (by decide) rfl (fun ls hl => ?_)
  refine lv_iconst (v := 0) hx hb (dAt zX6_who_0 2 rfl) (by decide) ?_
  refine lv_istore_n (lv' := [(2, .int 0), (1, .int 1023), (0, .ref (qS 0))]) hx hb (dAt zX6_who_0 3 rfl) rfl hl (by decide) rfl (fun ls hl => ?_)
  have L_6 : ∀ (j_6 : Nat) (v1_6 : Int32) (v2_6 : Int32) (H : Heap) (locs : List Loc) (ls : Array Slot), loopF (b_X6_who_6 n zS zL) j_6 (v1_6, v2_6) = some out → va_P D vwCl (w6 cI cJ cZ qS zS zL) H → va_D A (w6 cI cJ cZ qS zS zL) → va_S A s.heap H locs → lv_has ls 4 [(0, .ref (qS 0)), (1, .int v1_6), (2, .int v2_6)] → W p l e { frames := 1, cells := 0, slots := 0, locals := 23 } s m args below meth c H locs 0 0 Q (F0 m 6 ls []) := by
    intro j_6
    induction j_6 with
    | zero => intro v1_6 v2_6 H locs ls h hP hD hS hl; exact loopF_0 h
    | succ j_6 ih_6 =>
      intro v1_6 v2_6 H locs ls h hP hD hS hl
      have h := loopF_s h
      unfold b_X6_who_6 at h
      refine lv_iload_n hx hb (dAt zX6_who_0 4 rfl) rfl (lv_at hl 2 rfl) ?_
      refine lv_aload_n hx hb (dAt zX6_who_0 5 rfl) rfl (lv_at hl 0 rfl) ?_
      refine va_get (D := D) (ci := 6) (v := .int (zS 0 8)) (C := RX6) (T := TX6) (N := 32) hx hb htl inlX6 hown hK hP 0 rfl rfl 8 (by decide) (htl _ W_665) (fun _ h9 => h9) rfl (dAt zX6_who_0 6 rfl) ?_
      refine lv_icmp_ge (tgt := 55) hx hb (dAt zX6_who_0 7 rfl) (by decide) (fun c_11 => ?_) (fun c_11 => ?_)
      · have h := q_pos c_11 h
        refine lv_iload_n hx hb (dAt zX6_who_0 33 rfl) rfl (lv_at hl 1 rfl) ?_
        obtain rfl := q_some h
        exact xRi hx hb hr hlocks hQ hAe hP hD hK hS rfl (dAt zX6_who_0 34 rfl)
      · have h := q_neg c_11 h
        refine lv_aload_n hx hb (dAt zX6_who_0 8 rfl) rfl (lv_at hl 0 rfl) ?_
        refine lv_aload_n hx hb (dAt zX6_who_0 9 rfl) rfl (lv_at hl 0 rfl) ?_
        refine va_get (D := D) (ci := 6) (v := .ref (qS 7)) (C := RX6) (T := TX6) (N := 32) hx hb htl inlX6 hown hK hP 0 rfl rfl 6 (by decide) (htl _ W_88) (fun _ h9 => h9) rfl (dAt zX6_who_0 10 rfl) ?_
        refine lv_iload_n hx hb (dAt zX6_who_0 11 rfl) rfl (lv_at hl 2 rfl) ?_
        obtain ⟨hi_20, h⟩ := q_in h
        refine va_iald hx hb hK hP 4 0 rfl rfl hi_20 (dAt zX6_who_0 12 rfl) ?_
        obtain ⟨u21, hu21, h⟩ := q_bind h
        refine xFi (wc := (w6 cI cJ cZ qS zS zL)) (w1 := (w6 cI cJ cZ qS zS zL)) (wr := ([] : va_W)) (ws2 := (w6 cI cJ cZ qS zS zL)) (va_runV (As := [.int ((zS 7) (Int32.toNatClampNeg v2_6))]) (rest := []) ⟨hx, hb, hml, hown, htl⟩ (c_X6_yesBy l D cI cJ cZ n qS H.size zS zL ((zS 7) (Int32.toNatClampNeg v2_6)) u21 hu21) (cwV 1 htl (gV W_691 W_692 W_693 W_5 W_694) rfl rfl rfl (by decide +kernel) ⟨Nat.le_of_ble_eq_true rfl, Nat.le_of_ble_eq_true rfl⟩) (xPV hP hD hK hN 0 rfl rfl) rfl rfl hl.1 rfl (lv_room (Nat.le_of_ble_eq_true rfl)) (dAt zX6_who_0 13 rfl) ⟨Nat.zero_le _, Nat.zero_le _⟩) hS hA hP hD [0, 1, 2, 3, 4, 5, 6, 7, 8, 9, 10, 11, 12, 13, 14, 15, 16] [] [0, 1, 2, 3, 4, 5, 6, 7, 8, 9, 10, 11, 12, 13, 14, 15, 16] rfl rfl (by decide) (by decide) rfl (by decide) (fun H locs hP hD hS => ?_)
        refine lv_istore_n (lv' := [(3, .int u21), (0, .ref (qS 0)), (1, .int v1_6), (2, .int v2_6)]) hx hb (dAt zX6_who_0 14 rfl) rfl hl (by decide) rfl (fun ls hl => ?_)
        refine lv_iload_n hx hb (dAt zX6_who_0 15 rfl) rfl (lv_at hl 2 rfl) ?_
        refine lv_aload_n hx hb (dAt zX6_who_0 16 rfl) rfl (lv_at hl 1 rfl) ?_
        refine va_get (D := D) (ci := 6) (v := .ref (qS 8)) (C := RX6) (T := TX6) (N := 32) hx hb htl inlX6 hown hK hP 0 rfl rfl 7 (by decide) (htl _ W_89) (fun _ h9 => h9) rfl (dAt zX6_who_0 17 rfl) ?_
        refine lv_iload_n hx hb (dAt zX6_who_0 18 rfl) rfl (lv_at hl 3 rfl) ?_
        obtain ⟨hi_31, h⟩ := q_in h
        refine va_iald hx hb hK hP 5 0 rfl rfl hi_31 (dAt zX6_who_0 19 rfl) ?_
        refine lv_iconst (v := 1) hx hb (dAt zX6_who_0 20 rfl) (by decide) ?_
        refine lv_icmp_ne (tgt := 40) hx hb (dAt zX6_who_0 21 rfl) (by decide) (fun c_33 => ?_) (fun c_33 => ?_)
        · have h := q_neg c_33 h
          refine lv_sipush (v := 1023) hx hb (dAt zX6_who_0 24 rfl) (by decide) ?_
          refine lv_iload_n hx hb (dAt zX6_who_0 25 rfl) rfl (lv_at hl 0 rfl) ?_
          refine lv_iconst (v := (-1)) hx hb (dAt zX6_who_0 26 rfl) (by decide) ?_
          refine lv_ixor hx hb (dAt zX6_who_0 27 rfl) ?_
          refine lv_iand hx hb (dAt zX6_who_0 28 rfl) ?_
          refine lv_iand hx hb (dAt zX6_who_0 29 rfl) ?_
          refine lv_istore_n (lv' := [(1, .int (v1_6 &&& ((1023 : Int32) &&& (u21 ^^^ (-1 : Int32))))), (3, .int u21), (0, .ref (qS 0)), (2, .int v2_6)]) hx hb (dAt zX6_who_0 30 rfl) rfl hl (by decide) rfl (fun ls hl => ?_)
          refine lv_iinc (v := (v2_6 + 1)) (lv' := [(2, .int (v2_6 + 1)), (1, .int (v1_6 &&& ((1023 : Int32) &&& (u21 ^^^ (-1 : Int32))))), (3, .int u21), (0, .ref (qS 0))]) hx hb (dAt zX6_who_0 31 rfl) hl (k := 3) rfl rfl (by decide) rfl (fun ls hl => ?_)
          refine lv_goto (tgt := 6) hx hb (dAt zX6_who_0 32 rfl) (by decide) ?_
          exact ih_6 (v1_6 &&& ((1023 : Int32) &&& (u21 ^^^ (-1 : Int32)))) (v2_6 + 1) _ _ _ h hP hD hS (lv_sub hl [3, 1, 0] rfl)
        · have h := q_pos c_33 h
          refine lv_iload_n hx hb (dAt zX6_who_0 22 rfl) rfl (lv_at hl 0 rfl) ?_
          refine lv_goto (tgt := 47) hx hb (dAt zX6_who_0 23 rfl) (by decide) ?_
          refine lv_iand hx hb (dAt zX6_who_0 29 rfl) ?_
          refine lv_istore_n (lv' := [(1, .int (v1_6 &&& u21)), (3, .int u21), (0, .ref (qS 0)), (2, .int v2_6)]) hx hb (dAt zX6_who_0 30 rfl) rfl hl (by decide) rfl (fun ls hl => ?_)
          refine lv_iinc (v := (v2_6 + 1)) (lv' := [(2, .int (v2_6 + 1)), (1, .int (v1_6 &&& u21)), (3, .int u21), (0, .ref (qS 0))]) hx hb (dAt zX6_who_0 31 rfl) hl (k := 3) rfl rfl (by decide) rfl (fun ls hl => ?_)
          refine lv_goto (tgt := 6) hx hb (dAt zX6_who_0 32 rfl) (by decide) ?_
          exact ih_6 (v1_6 &&& u21) (v2_6 + 1) _ _ _ h hP hD hS (lv_sub hl [3, 1, 0] rfl)
  exact L_6 n 1023 0 _ _ _ h hP hD hS (lv_sub hl [2, 1, 0] rfl)
def m_X6_more (n : Nat) (a1 : Int32) (a2 : Int32) : Option Int32 := (if a1 ≤ a2 then some a2 else some a1)
set_option maxHeartbeats 4000000 in
set_option maxRecDepth 100000 in
theorem c_X6_more (l : Launch) (D : va_G) (cI cJ cZ : ClassId) (n : Nat)  (sz : Nat) (a1 : Int32) (a2 : Int32) (out : Int32) (hm : m_X6_more n a1 a2 = some out) : Met l yX6_more (wsM yX6_more cX6_more 2 (some .int)) { frames := 0, cells := 0, slots := 0, locals := 0 } (xPre D (kT cI cJ cZ) ([] : va_W) sz [.int a1, .int a2]) (xQi D (kT cI cJ cZ) ([] : va_W) ([] : va_W) sz out) 0 0 (va_A ([] : va_W) sz) := by
  refine Met.ofW (cc := cX6_more) (maxL := 2) (ret := (some .int)) (by decide) rfl ?_
  intro p e s m args below meth c s₁ B hml hv
  obtain ⟨hv, hsz, hP, hK, hD0, hN⟩ := hv
  have hx := B.exec; have hb := B.bytes; have hr := B.returns
  have hts := atoms_spec (ws := (wsM yX6_more cX6_more 2 (some .int))) B.pre
  have hown : s.vm.findClass RX6 = some m.cls := findClass_of_methodNamed B.named
  have hlocks := B.notSynchronized
  subst hsz
  have hD := hD0.self (sz := s.heap.size)
  obtain ⟨A, hAe⟩ : ∃ A, A = va_A ([] : va_W) s.heap.size := ⟨_, rfl⟩
  rw [← hAe] at hD
  have hA : ∀ q : Nat, s.heap.size ≤ q → A q := fun q h => by rw [hAe]; exact Or.inr h
  have htl : ∀ w ∈ wsL_law, w.before args s = true := fun w h => hts w (List.mem_cons_of_mem _ h)
  refine xHead (R' := { frames := 0, cells := 0, slots := 0, locals := 0 }) rfl (fun Q H hQ hH => ?_)
  have hP : va_P D vwCl ([] : va_W) H := by rw [hH]; exact hP
  have hS : va_S A s.heap H [] := by rw [hH]; exact va_S.rf
  refine xStart hv (Nat.le_of_ble_eq_true rfl) (lv := [(0, .int a1), (1, .int a2)]) rfl (fun ls hl => ?_)
  have h := hm
  unfold m_X6_more at h
  refine lv_iload_n hx hb (dAt zX6_more_0 0 rfl) rfl (lv_at hl 0 rfl) ?_
  refine lv_iload_n hx hb (dAt zX6_more_0 1 rfl) rfl (lv_at hl 1 rfl) ?_
  refine lv_icmp_le (tgt := 9) hx hb (dAt zX6_more_0 2 rfl) (by decide) (fun c_2 => ?_) (fun c_2 => ?_)
  · have h := q_pos c_2 h
    refine lv_iload_n hx hb (dAt zX6_more_0 5 rfl) rfl (lv_at hl 1 rfl) ?_
    obtain rfl := q_some h
    exact xRi hx hb hr hlocks hQ hAe hP hD hK hS rfl (dAt zX6_more_0 6 rfl)
  · have h := q_neg c_2 h
    refine lv_iload_n hx hb (dAt zX6_more_0 3 rfl) rfl (lv_at hl 0 rfl) ?_
    refine lv_goto (tgt := 10) hx hb (dAt zX6_more_0 4 rfl) (by decide) ?_
    obtain rfl := q_some h
    exact xRi hx hb hr hlocks hQ hAe hP hD hK hS rfl (dAt zX6_more_0 6 rfl)
def b_X6_ring_34 (n : Nat) (zS : TI) (zL : TL) (a1 : Int32) (u14 : Int32) (s_34 : Int32 × Int32 × Int32) (k_34 : Int32 × Int32 × Int32 → Option Int32) : Option Int32 := (if 10 ≤ s_34.2.2 then (if a1 = 0 then some s_34.1 else some s_34.2.1) else ((m_X6_yesBy n zS zL s_34.2.2).bind fun u45 => ((m_X6_ones n  (u14 &&& u45)).bind fun u49 => ((m_X6_ones n  u14).bind fun u57 => ((m_X6_more n  u49 (u57 - u49)).bind fun u63 => (if s_34.2.1 ≤ u63 then (if s_34.2.1 ≤ u63 then (k_34 (s_34.1, s_34.2.1, (s_34.2.2 + 1))) else (k_34 (s_34.1, u63, (s_34.2.2 + 1)))) else (if s_34.2.1 ≤ u63 then (k_34 (s_34.2.2, s_34.2.1, (s_34.2.2 + 1))) else (k_34 (s_34.2.2, u63, (s_34.2.2 + 1))))))))))
def m_X6_ring (n : Nat) (zS : TI) (zL : TL) (a1 : Int32) : Option Int32 := ((m_X6_in n  (Int32.toInt64 a1) 0 1).bind fun u4 => (if u4 = 0 then some (-2) else ((m_X6_who n zS zL).bind fun u14 => (if u14 = 0 then some (-6) else (loopF (b_X6_ring_34 n zS zL a1 u14 ) n (0, 11, 0))))))
set_option maxHeartbeats 4000000 in
set_option maxRecDepth 100000 in
theorem c_X6_ring (l : Launch) (D : va_G) (cI cJ cZ : ClassId) (n : Nat) (qS : Nat → Nat) (sz : Nat) (zS : TI) (zL : TL) (a1 : Int32) (out : Int32) (hm : m_X6_ring n zS zL a1 = some out) : Met l yX6_ring (wsM yX6_ring cX6_ring 8 (some .int)) { frames := 2, cells := 0, slots := 0, locals := 46 } (xPre D (kT cI cJ cZ) (w6 cI cJ cZ qS zS zL) sz [.ref (qS 0), .int a1]) (xQi D (kT cI cJ cZ) (w6 cI cJ cZ qS zS zL) (w6 cI cJ cZ qS zS zL) sz out) 0 0 (va_A (w6 cI cJ cZ qS zS zL) sz) := by
  refine Met.ofW (cc := cX6_ring) (maxL := 8) (ret := (some .int)) (by decide) rfl ?_
  intro p e s m args below meth c s₁ B hml hv
  obtain ⟨hv, hsz, hP, hK, hD0, hN⟩ := hv
  have hx := B.exec; have hb := B.bytes; have hr := B.returns
  have hts := atoms_spec (ws := (wsM yX6_ring cX6_ring 8 (some .int))) B.pre
  have hown : s.vm.findClass RX6 = some m.cls := findClass_of_methodNamed B.named
  have hlocks := B.notSynchronized
  subst hsz
  have hD := hD0.self (sz := s.heap.size)
  obtain ⟨A, hAe⟩ : ∃ A, A = va_A (w6 cI cJ cZ qS zS zL) s.heap.size := ⟨_, rfl⟩
  rw [← hAe] at hD
  have hA : ∀ q : Nat, s.heap.size ≤ q → A q := fun q h => by rw [hAe]; exact Or.inr h
  have htl : ∀ w ∈ wsL_law, w.before args s = true := fun w h => hts w (List.mem_cons_of_mem _ h)
  refine xHead (R' := { frames := 2, cells := 0, slots := 0, locals := 46 }) rfl (fun Q H hQ hH => ?_)
  have hP : va_P D vwCl (w6 cI cJ cZ qS zS zL) H := by rw [hH]; exact hP
  have hS : va_S A s.heap H [] := by rw [hH]; exact va_S.rf
  refine xStart hv (Nat.le_of_ble_eq_true rfl) (lv := [(0, .ref (qS 0)), (1, .int a1)]) rfl (fun ls hl => ?_)
  have h := hm
  unfold m_X6_ring at h
  refine lv_iload_n hx hb (dAt zX6_ring_0 0 rfl) rfl (lv_at hl 1 rfl) ?_
  refine lv_i2l (v := (Int32.toInt64 a1)) hx hb (dAt zX6_ring_0 1 rfl) rfl ?_
  refine lv_lconst (v := 0) hx hb (dAt zX6_ring_0 2 rfl) (by decide) ?_
  refine lv_lconst (v := 1) hx hb (dAt zX6_ring_0 3 rfl) (by decide) ?_
  obtain ⟨u4, hu4, h⟩ := q_bind h
  refine xFz (wc := ([] : va_W)) (w1 := ([] : va_W)) (wr := (w6 cI cJ cZ qS zS zL)) (ws2 := (w6 cI cJ cZ qS zS zL)) (va_runS (As := [.long (Int32.toInt64 a1), .long 0, .long 1]) (rest := []) ⟨hx, hb, hml, hown, htl⟩ (c_X6_in l D cI cJ cZ n  H.size  (Int32.toInt64 a1) 0 1 u4 hu4) (va_cwS 3 htl (gS W_130 W_131 W_5 W_132) rfl rfl rfl (by decide +kernel) ⟨Nat.le_of_ble_eq_true rfl, Nat.le_of_ble_eq_true rfl⟩) (xPS xP0 (xD0 A) hK hN) rfl rfl hl.1 rfl (lv_room (Nat.le_of_ble_eq_true rfl)) (dAt zX6_ring_0 4 rfl) ⟨Nat.zero_le _, Nat.zero_le _⟩) hS hA hP hD [] [0, 1, 2, 3, 4, 5, 6, 7, 8, 9, 10, 11, 12, 13, 14, 15, 16] [0, 1, 2, 3, 4, 5, 6, 7, 8, 9, 10, 11, 12, 13, 14, 15, 16] rfl rfl (by decide) (by decide) rfl (by decide) (fun H locs hz4 hP hD hS => ?_)
  refine lv_if_ne (tgt := 13) hx hb (dAt zX6_ring_0 5 rfl) (by decide) (fun c_7 => ?_) (fun c_7 => ?_)
  · have h := q_neg c_7 h
    refine lv_aload_n hx hb (dAt zX6_ring_0 8 rfl) rfl (lv_at hl 0 rfl) ?_
    obtain ⟨u14, hu14, h⟩ := q_bind h
    refine xFi (wc := (w6 cI cJ cZ qS zS zL)) (w1 := (w6 cI cJ cZ qS zS zL)) (wr := ([] : va_W)) (ws2 := (w6 cI cJ cZ qS zS zL)) (va_runV (As := []) (rest := []) ⟨hx, hb, hml, hown, htl⟩ (c_X6_who l D cI cJ cZ n qS H.size zS zL  u14 hu14) (cwV 0 htl (gV W_707 W_688 W_689 W_5 W_690) rfl rfl rfl (by decide +kernel) ⟨Nat.le_of_ble_eq_true rfl, Nat.le_of_ble_eq_true rfl⟩) (xPV hP hD hK hN 0 rfl rfl) rfl rfl hl.1 rfl (lv_room (Nat.le_of_ble_eq_true rfl)) (dAt zX6_ring_0 9 rfl) ⟨Nat.zero_le _, Nat.zero_le _⟩) hS hA hP hD [0, 1, 2, 3, 4, 5, 6, 7, 8, 9, 10, 11, 12, 13, 14, 15, 16] [] [0, 1, 2, 3, 4, 5, 6, 7, 8, 9, 10, 11, 12, 13, 14, 15, 16] rfl rfl (by decide) (by decide) rfl (by decide) (fun H locs hP hD hS => ?_)
    refine lv_istore_n (lv' := [(2, .int u14), (0, .ref (qS 0)), (1, .int a1)]) hx hb (dAt zX6_ring_0 10 rfl) rfl hl (by decide) rfl (fun ls hl => ?_)
    refine lv_iload_n hx hb (dAt zX6_ring_0 11 rfl) rfl (lv_at hl 0 rfl) ?_
    refine lv_if_ne (tgt := 25) hx hb (dAt zX6_ring_0 12 rfl) (by decide) (fun c_19 => ?_) (fun c_19 => ?_)
    · have h := q_neg c_19 h
      refine lv_iconst (v := 0) hx hb (dAt zX6_ring_0 15 rfl) (by decide) ?_
      refine lv_istore_n (lv' := [(3, .int 0), (2, .int u14), (0, .ref (qS 0)), (1, .int a1)]) hx hb (dAt zX6_ring_0 16 rfl) rfl hl (by decide) rfl (fun ls hl => ?_)
      refine lv_bipush (v := 11) hx hb (dAt zX6_ring_0 17 rfl) (by decide) ?_
      refine lv_istore (lv' := [(4, .int 11), (3, .int 0), (2, .int u14), (0, .ref (qS 0)), (1, .int a1)]) hx hb (dAt zX6_ring_0 18 rfl) hl (by decide) rfl (fun ls hl => ?_)
      refine lv_iconst (v := 0) hx hb (dAt zX6_ring_0 19 rfl) (by decide) ?_
      refine lv_istore (lv' := [(5, .int 0), (4, .int 11), (3, .int 0), (2, .int u14), (0, .ref (qS 0)), (1, .int a1)]) hx hb (dAt zX6_ring_0 20 rfl) hl (by decide) rfl (fun ls hl => ?_)
      have L_34 : ∀ (j_34 : Nat) (v3_34 : Int32) (v4_34 : Int32) (v5_34 : Int32) (H : Heap) (locs : List Loc) (ls : Array Slot), loopF (b_X6_ring_34 n zS zL a1 u14) j_34 (v3_34, v4_34, v5_34) = some out → va_P D vwCl (w6 cI cJ cZ qS zS zL) H → va_D A (w6 cI cJ cZ qS zS zL) → va_S A s.heap H locs → lv_has ls 8 [(0, .ref (qS 0)), (1, .int a1), (2, .int u14), (3, .int v3_34), (4, .int v4_34), (5, .int v5_34)] → W p l e { frames := 2, cells := 0, slots := 0, locals := 46 } s m args below meth c H locs 0 0 Q (F0 m 34 ls []) := by
        intro j_34
        induction j_34 with
        | zero => intro v3_34 v4_34 v5_34 H locs ls h hP hD hS hl; exact loopF_0 h
        | succ j_34 ih_34 =>
          intro v3_34 v4_34 v5_34 H locs ls h hP hD hS hl
          have h := loopF_s h
          unfold b_X6_ring_34 at h
          refine lv_iload hx hb (dAt zX6_ring_0 21 rfl) (lv_at hl 5 rfl) ?_
          refine lv_bipush (v := 10) hx hb (dAt zX6_ring_0 22 rfl) (by decide) ?_
          refine lv_icmp_ge (tgt := 104) hx hb (dAt zX6_ring_0 23 rfl) (by decide) (fun c_38 => ?_) (fun c_38 => ?_)
          · have h := q_pos c_38 h
            refine lv_iload_n hx hb (dAt zX6_ring_0 54 rfl) rfl (lv_at hl 1 rfl) ?_
            refine lv_if_ne (tgt := 112) hx hb (dAt zX6_ring_0 55 rfl) (by decide) (fun c_105 => ?_) (fun c_105 => ?_)
            · have h := q_neg c_105 h
              refine lv_iload hx hb (dAt zX6_ring_0 58 rfl) (lv_at hl 4 rfl) ?_
              obtain rfl := q_some h
              exact xRi hx hb hr hlocks hQ hAe hP hD hK hS rfl (dAt zX6_ring_0 59 rfl)
            · have h := q_pos c_105 h
              refine lv_iload_n hx hb (dAt zX6_ring_0 56 rfl) rfl (lv_at hl 3 rfl) ?_
              refine lv_goto (tgt := 114) hx hb (dAt zX6_ring_0 57 rfl) (by decide) ?_
              obtain rfl := q_some h
              exact xRi hx hb hr hlocks hQ hAe hP hD hK hS rfl (dAt zX6_ring_0 59 rfl)
          · have h := q_neg c_38 h
            refine lv_iload_n hx hb (dAt zX6_ring_0 24 rfl) rfl (lv_at hl 2 rfl) ?_
            refine lv_aload_n hx hb (dAt zX6_ring_0 25 rfl) rfl (lv_at hl 0 rfl) ?_
            refine lv_iload hx hb (dAt zX6_ring_0 26 rfl) (lv_at hl 5 rfl) ?_
            obtain ⟨u45, hu45, h⟩ := q_bind h
            refine xFi (wc := (w6 cI cJ cZ qS zS zL)) (w1 := (w6 cI cJ cZ qS zS zL)) (wr := ([] : va_W)) (ws2 := (w6 cI cJ cZ qS zS zL)) (va_runV (As := [.int v5_34]) (rest := [.int u14]) ⟨hx, hb, hml, hown, htl⟩ (c_X6_yesBy l D cI cJ cZ n qS H.size zS zL v5_34 u45 hu45) (cwV 1 htl (gV W_691 W_692 W_693 W_5 W_694) rfl rfl rfl (by decide +kernel) ⟨Nat.le_of_ble_eq_true rfl, Nat.le_of_ble_eq_true rfl⟩) (xPV hP hD hK hN 0 rfl rfl) rfl rfl hl.1 rfl (lv_room (Nat.le_of_ble_eq_true rfl)) (dAt zX6_ring_0 27 rfl) ⟨Nat.zero_le _, Nat.zero_le _⟩) hS hA hP hD [0, 1, 2, 3, 4, 5, 6, 7, 8, 9, 10, 11, 12, 13, 14, 15, 16] [] [0, 1, 2, 3, 4, 5, 6, 7, 8, 9, 10, 11, 12, 13, 14, 15, 16] rfl rfl (by decide) (by decide) rfl (by decide) (fun H locs hP hD hS => ?_)
            refine lv_iand hx hb (dAt zX6_ring_0 28 rfl) ?_
            obtain ⟨u49, hu49, h⟩ := q_bind h
            refine xFi (wc := ([] : va_W)) (w1 := ([] : va_W)) (wr := (w6 cI cJ cZ qS zS zL)) (ws2 := (w6 cI cJ cZ qS zS zL)) (va_runS (As := [.int (u14 &&& u45)]) (rest := []) ⟨hx, hb, hml, hown, htl⟩ (c_X6_ones l D cI cJ cZ n  H.size  (u14 &&& u45) u49 hu49) (va_cwS 1 htl (gS W_165 W_166 W_5 W_167) rfl rfl rfl (by decide +kernel) ⟨Nat.le_of_ble_eq_true rfl, Nat.le_of_ble_eq_true rfl⟩) (xPS xP0 (xD0 A) hK hN) rfl rfl hl.1 rfl (lv_room (Nat.le_of_ble_eq_true rfl)) (dAt zX6_ring_0 29 rfl) ⟨Nat.zero_le _, Nat.zero_le _⟩) hS hA hP hD [] [0, 1, 2, 3, 4, 5, 6, 7, 8, 9, 10, 11, 12, 13, 14, 15, 16] [0, 1, 2, 3, 4, 5, 6, 7, 8, 9, 10, 11, 12, 13, 14, 15, 16] rfl rfl (by decide) (by decide) rfl (by decide) (fun H locs hP hD hS => ?_)
            refine lv_istore (lv' := [(6, .int u49), (0, .ref (qS 0)), (1, .int a1), (2, .int u14), (3, .int v3_34), (4, .int v4_34), (5, .int v5_34)]) hx hb (dAt zX6_ring_0 30 rfl) hl (by decide) rfl (fun ls hl => ?_)
            refine lv_iload hx hb (dAt zX6_ring_0 31 rfl) (lv_at hl 0 rfl) ?_
            refine lv_iload_n hx hb (dAt zX6_ring_0 32 rfl) rfl (lv_at hl 3 rfl) ?_
            obtain ⟨u57, hu57, h⟩ := q_bind h
            refine xFi (wc := ([] : va_W)) (w1 := ([] : va_W)) (wr := (w6 cI cJ cZ qS zS zL)) (ws2 := (w6 cI cJ cZ qS zS zL)) (va_runS (As := [.int u14]) (rest := [.int u49]) ⟨hx, hb, hml, hown, htl⟩ (c_X6_ones l D cI cJ cZ n  H.size  u14 u57 hu57) (va_cwS 1 htl (gS W_165 W_166 W_5 W_167) rfl rfl rfl (by decide +kernel) ⟨Nat.le_of_ble_eq_true rfl, Nat.le_of_ble_eq_true rfl⟩) (xPS xP0 (xD0 A) hK hN) rfl rfl hl.1 rfl (lv_room (Nat.le_of_ble_eq_true rfl)) (dAt zX6_ring_0 33 rfl) ⟨Nat.zero_le _, Nat.zero_le _⟩) hS hA hP hD [] [0, 1, 2, 3, 4, 5, 6, 7, 8, 9, 10, 11, 12, 13, 14, 15, 16] [0, 1, 2, 3, 4, 5, 6, 7, 8, 9, 10, 11, 12, 13, 14, 15, 16] rfl rfl (by decide) (by decide) rfl (by decide) (fun H locs hP hD hS => ?_)
            refine lv_iload hx hb (dAt zX6_ring_0 34 rfl) (lv_at hl 0 rfl) ?_
            refine lv_isub hx hb (dAt zX6_ring_0 35 rfl) ?_
            obtain ⟨u63, hu63, h⟩ := q_bind h
            refine xFi (wc := ([] : va_W)) (w1 := ([] : va_W)) (wr := (w6 cI cJ cZ qS zS zL)) (ws2 := (w6 cI cJ cZ qS zS zL)) (va_runS (As := [.int u49, .int (u57 - u49)]) (rest := []) ⟨hx, hb, hml, hown, htl⟩ (c_X6_more l D cI cJ cZ n  H.size  u49 (u57 - u49) u63 hu63) (va_cwS 2 htl (gS W_708 W_709 W_5 W_710) rfl rfl rfl (by decide +kernel) ⟨Nat.le_of_ble_eq_true rfl, Nat.le_of_ble_eq_true rfl⟩) (xPS xP0 (xD0 A) hK hN) rfl rfl hl.1 rfl (lv_room (Nat.le_of_ble_eq_true rfl)) (dAt zX6_ring_0 36 rfl) ⟨Nat.zero_le _, Nat.zero_le _⟩) hS hA hP hD [] [0, 1, 2, 3, 4, 5, 6, 7, 8, 9, 10, 11, 12, 13, 14, 15, 16] [0, 1, 2, 3, 4, 5, 6, 7, 8, 9, 10, 11, 12, 13, 14, 15, 16] rfl rfl (by decide) (by decide) rfl (by decide) (fun H locs hP hD hS => ?_)
            refine lv_istore (lv' := [(7, .int u63), (6, .int u49), (0, .ref (qS 0)), (1, .int a1), (2, .int u14), (3, .int v3_34), (4, .int v4_34), (5, .int v5_34)]) hx hb (dAt zX6_ring_0 37 rfl) hl (by decide) rfl (fun ls hl => ?_)
            refine lv_iload hx hb (dAt zX6_ring_0 38 rfl) (lv_at hl 0 rfl) ?_
            refine lv_iload hx hb (dAt zX6_ring_0 39 rfl) (lv_at hl 6 rfl) ?_
            refine lv_icmp_ge (tgt := 80) hx hb (dAt zX6_ring_0 40 rfl) (by decide) (fun c_72 => ?_) (fun c_72 => ?_)
            · have h := q_pos c_72 h
              refine lv_iload_n hx hb (dAt zX6_ring_0 43 rfl) rfl (lv_at hl 5 rfl) ?_
              refine lv_istore_n (lv' := [(3, .int v3_34), (7, .int u63), (6, .int u49), (0, .ref (qS 0)), (1, .int a1), (2, .int u14), (4, .int v4_34), (5, .int v5_34)]) hx hb (dAt zX6_ring_0 44 rfl) rfl hl (by decide) rfl (fun ls hl => ?_)
              refine lv_iload hx hb (dAt zX6_ring_0 45 rfl) (lv_at hl 1 rfl) ?_
              refine lv_iload hx hb (dAt zX6_ring_0 46 rfl) (lv_at hl 6 rfl) ?_
              refine lv_icmp_ge (tgt := 94) hx hb (dAt zX6_ring_0 47 rfl) (by decide) (fun c_86 => ?_) (fun c_86 => ?_)
              · have h := q_pos c_86 h
                refine lv_iload hx hb (dAt zX6_ring_0 50 rfl) (lv_at hl 6 rfl) ?_
                refine lv_istore (lv' := [(4, .int v4_34), (3, .int v3_34), (7, .int u63), (6, .int u49), (0, .ref (qS 0)), (1, .int a1), (2, .int u14), (5, .int v5_34)]) hx hb (dAt zX6_ring_0 51 rfl) hl (by decide) rfl (fun ls hl => ?_)
                refine lv_iinc (v := (v5_34 + 1)) (lv' := [(5, .int (v5_34 + 1)), (4, .int v4_34), (3, .int v3_34), (7, .int u63), (6, .int u49), (0, .ref (qS 0)), (1, .int a1), (2, .int u14)]) hx hb (dAt zX6_ring_0 52 rfl) hl (k := 7) rfl rfl (by decide) rfl (fun ls hl => ?_)
                refine lv_goto (tgt := 34) hx hb (dAt zX6_ring_0 53 rfl) (by decide) ?_
                exact ih_34 v3_34 v4_34 (v5_34 + 1) _ _ _ h hP hD hS (lv_sub hl [5, 6, 7, 2, 1, 0] rfl)
              · have h := q_neg c_86 h
                refine lv_iload hx hb (dAt zX6_ring_0 48 rfl) (lv_at hl 1 rfl) ?_
                refine lv_goto (tgt := 96) hx hb (dAt zX6_ring_0 49 rfl) (by decide) ?_
                refine lv_istore (lv' := [(4, .int u63), (3, .int v3_34), (7, .int u63), (6, .int u49), (0, .ref (qS 0)), (1, .int a1), (2, .int u14), (5, .int v5_34)]) hx hb (dAt zX6_ring_0 51 rfl) hl (by decide) rfl (fun ls hl => ?_)
                refine lv_iinc (v := (v5_34 + 1)) (lv' := [(5, .int (v5_34 + 1)), (4, .int u63), (3, .int v3_34), (7, .int u63), (6, .int u49), (0, .ref (qS 0)), (1, .int a1), (2, .int u14)]) hx hb (dAt zX6_ring_0 52 rfl) hl (k := 7) rfl rfl (by decide) rfl (fun ls hl => ?_)
                refine lv_goto (tgt := 34) hx hb (dAt zX6_ring_0 53 rfl) (by decide) ?_
                exact ih_34 v3_34 u63 (v5_34 + 1) _ _ _ h hP hD hS (lv_sub hl [5, 6, 7, 2, 1, 0] rfl)
            · have h := q_neg c_72 h
              refine lv_iload hx hb (dAt zX6_ring_0 41 rfl) (lv_at hl 7 rfl) ?_
              refine lv_goto (tgt := 81) hx hb (dAt zX6_ring_0 42 rfl) (by decide) ?_
              refine lv_istore_n (lv' := [(3, .int v5_34), (7, .int u63), (6, .int u49), (0, .ref (qS 0)), (1, .int a1), (2, .int u14), (4, .int v4_34), (5, .int v5_34)]) hx hb (dAt zX6_ring_0 44 rfl) rfl hl (by decide) rfl (fun ls hl => ?_)
              refine lv_iload hx hb (dAt zX6_ring_0 45 rfl) (lv_at hl 1 rfl) ?_
              refine lv_iload hx hb (dAt zX6_ring_0 46 rfl) (lv_at hl 6 rfl) ?_
              refine lv_icmp_ge (tgt := 94) hx hb (dAt zX6_ring_0 47 rfl) (by decide) (fun c_86 => ?_) (fun c_86 => ?_)
              · have h := q_pos c_86 h
                refine lv_iload hx hb (dAt zX6_ring_0 50 rfl) (lv_at hl 6 rfl) ?_
                refine lv_istore (lv' := [(4, .int v4_34), (3, .int v5_34), (7, .int u63), (6, .int u49), (0, .ref (qS 0)), (1, .int a1), (2, .int u14), (5, .int v5_34)]) hx hb (dAt zX6_ring_0 51 rfl) hl (by decide) rfl (fun ls hl => ?_)
                refine lv_iinc (v := (v5_34 + 1)) (lv' := [(5, .int (v5_34 + 1)), (4, .int v4_34), (3, .int v5_34), (7, .int u63), (6, .int u49), (0, .ref (qS 0)), (1, .int a1), (2, .int u14)]) hx hb (dAt zX6_ring_0 52 rfl) hl (k := 7) rfl rfl (by decide) rfl (fun ls hl => ?_)
                refine lv_goto (tgt := 34) hx hb (dAt zX6_ring_0 53 rfl) (by decide) ?_
                exact ih_34 v5_34 v4_34 (v5_34 + 1) _ _ _ h hP hD hS (lv_sub hl [5, 6, 7, 2, 1, 0] rfl)
              · have h := q_neg c_86 h
                refine lv_iload hx hb (dAt zX6_ring_0 48 rfl) (lv_at hl 1 rfl) ?_
                refine lv_goto (tgt := 96) hx hb (dAt zX6_ring_0 49 rfl) (by decide) ?_
                refine lv_istore (lv' := [(4, .int u63), (3, .int v5_34), (7, .int u63), (6, .int u49), (0, .ref (qS 0)), (1, .int a1), (2, .int u14), (5, .int v5_34)]) hx hb (dAt zX6_ring_0 51 rfl) hl (by decide) rfl (fun ls hl => ?_)
                refine lv_iinc (v := (v5_34 + 1)) (lv' := [(5, .int (v5_34 + 1)), (4, .int u63), (3, .int v5_34), (7, .int u63), (6, .int u49), (0, .ref (qS 0)), (1, .int a1), (2, .int u14)]) hx hb (dAt zX6_ring_0 52 rfl) hl (k := 7) rfl rfl (by decide) rfl (fun ls hl => ?_)
                refine lv_goto (tgt := 34) hx hb (dAt zX6_ring_0 53 rfl) (by decide) ?_
                exact ih_34 v5_34 u63 (v5_34 + 1) _ _ _ h hP hD hS (lv_sub hl [5, 6, 7, 2, 1, 0] rfl)
      exact L_34 n 0 11 0 _ _ _ h hP hD hS (lv_sub hl [4, 5, 3, 2, 1, 0] rfl)
    · have h := q_pos c_19 h
      refine lv_bipush (v := (-6)) hx hb (dAt zX6_ring_0 13 rfl) (by decide) ?_
      obtain rfl := q_some h
      exact xRi hx hb hr hlocks hQ hAe hP hD hK hS rfl (dAt zX6_ring_0 14 rfl)
  · have h := q_pos c_7 h
    refine lv_bipush (v := (-2)) hx hb (dAt zX6_ring_0 6 rfl) (by decide) ?_
    obtain rfl := q_some h
    exact xRi hx hb hr hlocks hQ hAe hP hD hK hS rfl (dAt zX6_ring_0 7 rfl)
def b_X6_answers_169 (n : Nat) (zS : TI) (a2 : Int32) (v6_99 : Int64) (v8_99 : Int64) (v10_99 : Int32) (zL_99 : TL) (k_99 : Int64 × Int64 × Int32 × TL → Option (Int64 × TL)) (s_169 : Int32 × TL) (k_169 : Int32 × TL → Option (Int64 × TL)) : Option (Int64 × TL) := (if s_169.1 < 0 then (k_99 ((v6_99 * (10 : Int64)), ((10 : Int64) * ((v8_99 + v6_99) - ((zL_99 27) (Int32.toNatClampNeg ((zS 6) 0))))), (v10_99 + 1), s_169.2)) else (gd (inB s_169.1 10) ((if s_169.1 ≤ 0 then (gd (inB s_169.1 10) ((k_169 ((s_169.1 + (-1)), (upAL s_169.2 27 (vp_updL (s_169.2 27) (Int32.toNatClampNeg s_169.1) ((((10 : Int64) - (Int32.toInt64 a2)) * ((s_169.2 27) (Int32.toNatClampNeg s_169.1))) + (0 : Int64)))))))) else (gd (inB (s_169.1 - (1 : Int32)) 10) ((gd (inB s_169.1 10) ((k_169 ((s_169.1 + (-1)), (upAL s_169.2 27 (vp_updL (s_169.2 27) (Int32.toNatClampNeg s_169.1) ((((10 : Int64) - (Int32.toInt64 a2)) * ((s_169.2 27) (Int32.toNatClampNeg s_169.1))) + ((Int32.toInt64 a2) * ((s_169.2 27) (Int32.toNatClampNeg (s_169.1 - (1 : Int32))))))))))))))))))
def b_X6_answers_99 (n : Nat) (zS : TI) (a1 : Int32) (a2 : Int32) (a3 : Int32) (a4 : Int32) (s_99 : Int64 × Int64 × Int32 × TL) (k_99 : Int64 × Int64 × Int32 × TL → Option (Int64 × TL)) : Option (Int64 × TL) := (if a1 ≤ s_99.2.2.1 then (if a3 = 0 then (gd (inB ((zS 6) 0) 10) (((m_X6_lowest n  ((s_99.2.2.2 27) (Int32.toNatClampNeg ((zS 6) 0))) s_99.1 a4).bind fun u249 => some (u249, s_99.2.2.2)))) else ((m_X6_lowest n  s_99.2.1 s_99.1 a4).bind fun u249 => some (u249, s_99.2.2.2))) else (gd (inB ((zS 6) 0) 10) ((gd (inB ((zS 6) 0) 10) ((gd (inB (((zS 6) 0) - (1 : Int32)) 10) ((gd (inB ((zS 6) 0) 10) ((loopF (b_X6_answers_169 n zS a2 s_99.1 s_99.2.1 s_99.2.2.1 s_99.2.2.2 k_99) n ((((zS 6) 0) - (1 : Int32)), (upAL s_99.2.2.2 27 (vp_updL (s_99.2.2.2 27) (Int32.toNatClampNeg ((zS 6) 0)) (((10 : Int64) * ((s_99.2.2.2 27) (Int32.toNatClampNeg ((zS 6) 0)))) + ((Int32.toInt64 a2) * ((s_99.2.2.2 27) (Int32.toNatClampNeg (((zS 6) 0) - (1 : Int32)))))))))))))))))))
def b_X6_answers_60 (n : Nat) (zS : TI) (a1 : Int32) (a2 : Int32) (a3 : Int32) (a4 : Int32) (s_60 : Int32 × TL) (k_60 : Int32 × TL → Option (Int64 × TL)) : Option (Int64 × TL) := (if 10 ≤ s_60.1 then (loopF (b_X6_answers_99 n zS a1 a2 a3 a4 ) n (1, 0, 0, s_60.2)) else (if s_60.1 = 0 then (gd (inB s_60.1 10) ((k_60 ((s_60.1 + 1), (upAL s_60.2 27 (vp_updL (s_60.2 27) (Int32.toNatClampNeg s_60.1) 1)))))) else (gd (inB s_60.1 10) ((k_60 ((s_60.1 + 1), (upAL s_60.2 27 (vp_updL (s_60.2 27) (Int32.toNatClampNeg s_60.1) 0))))))))
def m_X6_answers (n : Nat) (zS : TI) (zL : TL) (a1 : Int32) (a2 : Int32) (a3 : Int32) (a4 : Int32) : Option (Int64 × TL) := ((m_X6_in n  (Int32.toInt64 a1) 0 10).bind fun u6 => (if u6 = 0 then some ((-1000000000000000002), zL) else ((m_X6_in n  (Int32.toInt64 a2) 0 10).bind fun u18 => (if u18 = 0 then some ((-1000000000000000002), zL) else ((m_X6_in n  (Int32.toInt64 a3) 0 1).bind fun u28 => (if u28 = 0 then some ((-1000000000000000002), zL) else ((m_X6_in n  (Int32.toInt64 a4) 0 1).bind fun u39 => (if u39 = 0 then some ((-1000000000000000002), zL) else (loopF (b_X6_answers_60 n zS a1 a2 a3 a4 ) n (0, zL))))))))))
set_option maxHeartbeats 4000000 in
set_option maxRecDepth 100000 in
theorem c_X6_answers (l : Launch) (D : va_G) (cI cJ cZ : ClassId) (n : Nat) (qS : Nat → Nat) (sz : Nat) (zS : TI) (zL : TL) (a1 : Int32) (a2 : Int32) (a3 : Int32) (a4 : Int32) (out : Int64 × TL) (hm : m_X6_answers n zS zL a1 a2 a3 a4 = some out) : Met l yX6_answers (wsM yX6_answers cX6_answers 12 (some .long)) { frames := 1, cells := 0, slots := 0, locals := 30 } (xPre D (kT cI cJ cZ) (w6 cI cJ cZ qS zS zL) sz [.ref (qS 0), .int a1, .int a2, .int a3, .int a4]) (xQl D (kT cI cJ cZ) (w6 cI cJ cZ qS zS zL) (w6 cI cJ cZ qS zS out.2) sz out.1) 0 0 (va_A (w6 cI cJ cZ qS zS zL) sz) := by
  refine Met.ofW (cc := cX6_answers) (maxL := 12) (ret := (some .long)) (by decide) rfl ?_
  intro p e s m args below meth c s₁ B hml hv
  obtain ⟨hv, hsz, hP, hK, hD0, hN⟩ := hv
  have hx := B.exec; have hb := B.bytes; have hr := B.returns
  have hts := atoms_spec (ws := (wsM yX6_answers cX6_answers 12 (some .long))) B.pre
  have hown : s.vm.findClass RX6 = some m.cls := findClass_of_methodNamed B.named
  have hlocks := B.notSynchronized
  subst hsz
  have hD := hD0.self (sz := s.heap.size)
  obtain ⟨A, hAe⟩ : ∃ A, A = va_A (w6 cI cJ cZ qS zS zL) s.heap.size := ⟨_, rfl⟩
  rw [← hAe] at hD
  have hA : ∀ q : Nat, s.heap.size ≤ q → A q := fun q h => by rw [hAe]; exact Or.inr h
  have htl : ∀ w ∈ wsL_law, w.before args s = true := fun w h => hts w (List.mem_cons_of_mem _ h)
  refine xHead (R' := { frames := 1, cells := 0, slots := 0, locals := 30 }) rfl (fun Q H hQ hH => ?_)
  have hP : va_P D vwCl (w6 cI cJ cZ qS zS zL) H := by rw [hH]; exact hP
  have hS : va_S A s.heap H [] := by rw [hH]; exact va_S.rf
  refine xStart hv (Nat.le_of_ble_eq_true rfl) (lv := [(0, .ref (qS 0)), (1, .int a1), (2, .int a2), (3, .int a3), (4, .int a4)]) rfl (fun ls hl => ?_)
  have h := hm
  unfold m_X6_answers at h
  refine lv_iload_n hx hb (dAt zX6_answers_0 0 rfl) rfl (lv_at hl 1 rfl) ?_
  refine lv_i2l (v := (Int32.toInt64 a1)) hx hb (dAt zX6_answers_0 1 rfl) rfl ?_
  refine lv_lconst (v := 0) hx hb (dAt zX6_answers_0 2 rfl) (by decide) ?_
  refine lv_ldc2 (v := 10) hx hb hown (htl _ W_636) (dAt zX6_answers_0 3 rfl) ?_
  obtain ⟨u6, hu6, h⟩ := q_bind h
  refine xFz (wc := ([] : va_W)) (w1 := ([] : va_W)) (wr := (w6 cI cJ cZ qS zS zL)) (ws2 := (w6 cI cJ cZ qS zS zL)) (va_runS (As := [.long (Int32.toInt64 a1), .long 0, .long 10]) (rest := []) ⟨hx, hb, hml, hown, htl⟩ (c_X6_in l D cI cJ cZ n  H.size  (Int32.toInt64 a1) 0 10 u6 hu6) (va_cwS 3 htl (gS W_130 W_131 W_5 W_132) rfl rfl rfl (by decide +kernel) ⟨Nat.le_of_ble_eq_true rfl, Nat.le_of_ble_eq_true rfl⟩) (xPS xP0 (xD0 A) hK hN) rfl rfl hl.1 rfl (lv_room (Nat.le_of_ble_eq_true rfl)) (dAt zX6_answers_0 4 rfl) ⟨Nat.zero_le _, Nat.zero_le _⟩) hS hA hP hD [] [0, 1, 2, 3, 4, 5, 6, 7, 8, 9, 10, 11, 12, 13, 14, 15, 16] [0, 1, 2, 3, 4, 5, 6, 7, 8, 9, 10, 11, 12, 13, 14, 15, 16] rfl rfl (by decide) (by decide) rfl (by decide) (fun H locs hz6 hP hD hS => ?_)
  refine lv_if_eq (tgt := 45) hx hb (dAt zX6_answers_0 5 rfl) (by decide) (fun c_9 => ?_) (fun c_9 => ?_)
  · have h := q_pos c_9 h
    refine lv_ldc2 (v := (-1000000000000000002)) hx hb hown (htl _ W_635) (dAt zX6_answers_0 24 rfl) ?_
    obtain rfl := q_some h
    exact xRl hx hb hr hlocks hQ hAe hP hD hK hS rfl (dAt zX6_answers_0 25 rfl)
  · have h := q_neg c_9 h
    refine lv_iload_n hx hb (dAt zX6_answers_0 6 rfl) rfl (lv_at hl 2 rfl) ?_
    refine lv_i2l (v := (Int32.toInt64 a2)) hx hb (dAt zX6_answers_0 7 rfl) rfl ?_
    refine lv_lconst (v := 0) hx hb (dAt zX6_answers_0 8 rfl) (by decide) ?_
    refine lv_ldc2 (v := 10) hx hb hown (htl _ W_636) (dAt zX6_answers_0 9 rfl) ?_
    obtain ⟨u18, hu18, h⟩ := q_bind h
    refine xFz (wc := ([] : va_W)) (w1 := ([] : va_W)) (wr := (w6 cI cJ cZ qS zS zL)) (ws2 := (w6 cI cJ cZ qS zS zL)) (va_runS (As := [.long (Int32.toInt64 a2), .long 0, .long 10]) (rest := []) ⟨hx, hb, hml, hown, htl⟩ (c_X6_in l D cI cJ cZ n  H.size  (Int32.toInt64 a2) 0 10 u18 hu18) (va_cwS 3 htl (gS W_130 W_131 W_5 W_132) rfl rfl rfl (by decide +kernel) ⟨Nat.le_of_ble_eq_true rfl, Nat.le_of_ble_eq_true rfl⟩) (xPS xP0 (xD0 A) hK hN) rfl rfl hl.1 rfl (lv_room (Nat.le_of_ble_eq_true rfl)) (dAt zX6_answers_0 10 rfl) ⟨Nat.zero_le _, Nat.zero_le _⟩) hS hA hP hD [] [0, 1, 2, 3, 4, 5, 6, 7, 8, 9, 10, 11, 12, 13, 14, 15, 16] [0, 1, 2, 3, 4, 5, 6, 7, 8, 9, 10, 11, 12, 13, 14, 15, 16] rfl rfl (by decide) (by decide) rfl (by decide) (fun H locs hz18 hP hD hS => ?_)
    refine lv_if_eq (tgt := 45) hx hb (dAt zX6_answers_0 11 rfl) (by decide) (fun c_21 => ?_) (fun c_21 => ?_)
    · have h := q_pos c_21 h
      refine lv_ldc2 (v := (-1000000000000000002)) hx hb hown (htl _ W_635) (dAt zX6_answers_0 24 rfl) ?_
      obtain rfl := q_some h
      exact xRl hx hb hr hlocks hQ hAe hP hD hK hS rfl (dAt zX6_answers_0 25 rfl)
    · have h := q_neg c_21 h
      refine lv_iload_n hx hb (dAt zX6_answers_0 12 rfl) rfl (lv_at hl 3 rfl) ?_
      refine lv_i2l (v := (Int32.toInt64 a3)) hx hb (dAt zX6_answers_0 13 rfl) rfl ?_
      refine lv_lconst (v := 0) hx hb (dAt zX6_answers_0 14 rfl) (by decide) ?_
      refine lv_lconst (v := 1) hx hb (dAt zX6_answers_0 15 rfl) (by decide) ?_
      obtain ⟨u28, hu28, h⟩ := q_bind h
      refine xFz (wc := ([] : va_W)) (w1 := ([] : va_W)) (wr := (w6 cI cJ cZ qS zS zL)) (ws2 := (w6 cI cJ cZ qS zS zL)) (va_runS (As := [.long (Int32.toInt64 a3), .long 0, .long 1]) (rest := []) ⟨hx, hb, hml, hown, htl⟩ (c_X6_in l D cI cJ cZ n  H.size  (Int32.toInt64 a3) 0 1 u28 hu28) (va_cwS 3 htl (gS W_130 W_131 W_5 W_132) rfl rfl rfl (by decide +kernel) ⟨Nat.le_of_ble_eq_true rfl, Nat.le_of_ble_eq_true rfl⟩) (xPS xP0 (xD0 A) hK hN) rfl rfl hl.1 rfl (lv_room (Nat.le_of_ble_eq_true rfl)) (dAt zX6_answers_0 16 rfl) ⟨Nat.zero_le _, Nat.zero_le _⟩) hS hA hP hD [] [0, 1, 2, 3, 4, 5, 6, 7, 8, 9, 10, 11, 12, 13, 14, 15, 16] [0, 1, 2, 3, 4, 5, 6, 7, 8, 9, 10, 11, 12, 13, 14, 15, 16] rfl rfl (by decide) (by decide) rfl (by decide) (fun H locs hz28 hP hD hS => ?_)
      refine lv_if_eq (tgt := 45) hx hb (dAt zX6_answers_0 17 rfl) (by decide) (fun c_31 => ?_) (fun c_31 => ?_)
      · have h := q_pos c_31 h
        refine lv_ldc2 (v := (-1000000000000000002)) hx hb hown (htl _ W_635) (dAt zX6_answers_0 24 rfl) ?_
        obtain rfl := q_some h
        exact xRl hx hb hr hlocks hQ hAe hP hD hK hS rfl (dAt zX6_answers_0 25 rfl)
      · have h := q_neg c_31 h
        refine lv_iload hx hb (dAt zX6_answers_0 18 rfl) (lv_at hl 4 rfl) ?_
        refine lv_i2l (v := (Int32.toInt64 a4)) hx hb (dAt zX6_answers_0 19 rfl) rfl ?_
        refine lv_lconst (v := 0) hx hb (dAt zX6_answers_0 20 rfl) (by decide) ?_
        refine lv_lconst (v := 1) hx hb (dAt zX6_answers_0 21 rfl) (by decide) ?_
        obtain ⟨u39, hu39, h⟩ := q_bind h
        refine xFz (wc := ([] : va_W)) (w1 := ([] : va_W)) (wr := (w6 cI cJ cZ qS zS zL)) (ws2 := (w6 cI cJ cZ qS zS zL)) (va_runS (As := [.long (Int32.toInt64 a4), .long 0, .long 1]) (rest := []) ⟨hx, hb, hml, hown, htl⟩ (c_X6_in l D cI cJ cZ n  H.size  (Int32.toInt64 a4) 0 1 u39 hu39) (va_cwS 3 htl (gS W_130 W_131 W_5 W_132) rfl rfl rfl (by decide +kernel) ⟨Nat.le_of_ble_eq_true rfl, Nat.le_of_ble_eq_true rfl⟩) (xPS xP0 (xD0 A) hK hN) rfl rfl hl.1 rfl (lv_room (Nat.le_of_ble_eq_true rfl)) (dAt zX6_answers_0 22 rfl) ⟨Nat.zero_le _, Nat.zero_le _⟩) hS hA hP hD [] [0, 1, 2, 3, 4, 5, 6, 7, 8, 9, 10, 11, 12, 13, 14, 15, 16] [0, 1, 2, 3, 4, 5, 6, 7, 8, 9, 10, 11, 12, 13, 14, 15, 16] rfl rfl (by decide) (by decide) rfl (by decide) (fun H locs hz39 hP hD hS => ?_)
        refine lv_if_ne (tgt := 49) hx hb (dAt zX6_answers_0 23 rfl) (by decide) (fun c_42 => ?_) (fun c_42 => ?_)
        · have h := q_neg c_42 h
          refine lv_aload_n hx hb (dAt zX6_answers_0 26 rfl) rfl (lv_at hl 0 rfl) ?_
          refine va_get (D := D) (ci := 6) (v := .ref (qS 6)) (C := RX6) (T := TX6) (N := 32) hx hb htl inlX6 hown hK hP 0 rfl rfl 5 (by decide) (htl _ W_87) (fun _ h9 => h9) rfl (dAt zX6_answers_0 27 rfl) ?_
          refine lv_iconst (v := 0) hx hb (dAt zX6_answers_0 28 rfl) (by decide) ?_
          refine va_iald hx hb hK hP 3 0 rfl rfl (q_inb (by decide)) (dAt zX6_answers_0 29 rfl) ?_
          refine lv_istore (lv' := [(5, .int ((zS 6) 0)), (0, .ref (qS 0)), (1, .int a1), (2, .int a2), (3, .int a3), (4, .int a4)]) hx hb (dAt zX6_answers_0 30 rfl) hl (by decide) rfl (fun ls hl => ?_)
          refine lv_iconst (v := 0) hx hb (dAt zX6_answers_0 31 rfl) (by decide) ?_
          refine lv_istore (lv' := [(6, .int 0), (5, .int ((zS 6) 0)), (0, .ref (qS 0)), (1, .int a1), (2, .int a2), (3, .int a3), (4, .int a4)]) hx hb (dAt zX6_answers_0 32 rfl) hl (by decide) rfl (fun ls hl => ?_)
          have L_60 : ∀ (j_60 : Nat) (v6_60 : Int32) (zL_60 : TL) (H : Heap) (locs : List Loc) (ls : Array Slot), loopF (b_X6_answers_60 n zS a1 a2 a3 a4) j_60 (v6_60, zL_60) = some out → va_P D vwCl (w6 cI cJ cZ qS zS zL_60) H → va_D A (w6 cI cJ cZ qS zS zL_60) → va_S A s.heap H locs → lv_has ls 12 [(0, .ref (qS 0)), (1, .int a1), (2, .int a2), (3, .int a3), (4, .int a4), (5, .int ((zS 6) 0)), (6, .int v6_60)] → W p l e { frames := 1, cells := 0, slots := 0, locals := 30 } s m args below meth c H locs 0 0 Q (F0 m 60 ls []) := by
            intro j_60
            induction j_60 with
            | zero => intro v6_60 zL_60 H locs ls h hP hD hS hl; exact loopF_0 h
            | succ j_60 ih_60 =>
              intro v6_60 zL_60 H locs ls h hP hD hS hl
              have h := loopF_s h
              unfold b_X6_answers_60 at h
              refine lv_iload hx hb (dAt zX6_answers_0 33 rfl) (lv_at hl 6 rfl) ?_
              refine lv_bipush (v := 10) hx hb (dAt zX6_answers_0 34 rfl) (by decide) ?_
              refine lv_icmp_ge (tgt := 90) hx hb (dAt zX6_answers_0 35 rfl) (by decide) (fun c_64 => ?_) (fun c_64 => ?_)
              · have h := q_pos c_64 h
                refine lv_lconst (v := 1) hx hb (dAt zX6_answers_0 47 rfl) (by decide) ?_
                refine lv_lstore (lv' := [(6, .long 1), (0, .ref (qS 0)), (1, .int a1), (2, .int a2), (3, .int a3), (4, .int a4), (5, .int ((zS 6) 0))]) hx hb (dAt zX6_answers_0 48 rfl) hl (by decide) rfl (fun ls hl => ?_)
                refine lv_lconst (v := 0) hx hb (dAt zX6_answers_0 49 rfl) (by decide) ?_
                refine lv_lstore (lv' := [(8, .long 0), (6, .long 1), (0, .ref (qS 0)), (1, .int a1), (2, .int a2), (3, .int a3), (4, .int a4), (5, .int ((zS 6) 0))]) hx hb (dAt zX6_answers_0 50 rfl) hl (by decide) rfl (fun ls hl => ?_)
                refine lv_iconst (v := 0) hx hb (dAt zX6_answers_0 51 rfl) (by decide) ?_
                refine lv_istore (lv' := [(10, .int 0), (8, .long 0), (6, .long 1), (0, .ref (qS 0)), (1, .int a1), (2, .int a2), (3, .int a3), (4, .int a4), (5, .int ((zS 6) 0))]) hx hb (dAt zX6_answers_0 52 rfl) hl (by decide) rfl (fun ls hl => ?_)
                have L_99 : ∀ (j_99 : Nat) (v6_99 : Int64) (v8_99 : Int64) (v10_99 : Int32) (zL_99 : TL) (H : Heap) (locs : List Loc) (ls : Array Slot), loopF (b_X6_answers_99 n zS a1 a2 a3 a4) j_99 (v6_99, v8_99, v10_99, zL_99) = some out → va_P D vwCl (w6 cI cJ cZ qS zS zL_99) H → va_D A (w6 cI cJ cZ qS zS zL_99) → va_S A s.heap H locs → lv_has ls 12 [(0, .ref (qS 0)), (1, .int a1), (2, .int a2), (3, .int a3), (4, .int a4), (5, .int ((zS 6) 0)), (6, .long v6_99), (8, .long v8_99), (10, .int v10_99)] → W p l e { frames := 1, cells := 0, slots := 0, locals := 30 } s m args below meth c H locs 0 0 Q (F0 m 99 ls []) := by
                  intro j_99
                  induction j_99 with
                  | zero => intro v6_99 v8_99 v10_99 zL_99 H locs ls h hP hD hS hl; exact loopF_0 h
                  | succ j_99 ih_99 =>
                    intro v6_99 v8_99 v10_99 zL_99 H locs ls h hP hD hS hl
                    have h := loopF_s h
                    unfold b_X6_answers_99 at h
                    refine lv_iload hx hb (dAt zX6_answers_0 53 rfl) (lv_at hl 8 rfl) ?_
                    refine lv_iload_n hx hb (dAt zX6_answers_0 54 rfl) rfl (lv_at hl 1 rfl) ?_
                    refine lv_icmp_ge (tgt := 229) hx hb (dAt zX6_answers_0 55 rfl) (by decide) (fun c_102 => ?_) (fun c_102 => ?_)
                    · have h := q_pos c_102 h
                      refine lv_iload_n hx hb (dAt zX6_answers_1 28 rfl) rfl (lv_at hl 3 rfl) ?_
                      refine lv_if_ne (tgt := 243) hx hb (dAt zX6_answers_1 29 rfl) (by decide) (fun c_230 => ?_) (fun c_230 => ?_)
                      · have h := q_neg c_230 h
                        refine lv_lload hx hb (dAt zX6_answers_1 35 rfl) (lv_at hl 7 rfl) ?_
                        refine lv_lload hx hb (dAt zX6_answers_1 36 rfl) (lv_at hl 6 rfl) ?_
                        refine lv_iload hx hb (dAt zX6_answers_1 37 rfl) (lv_at hl 4 rfl) ?_
                        obtain ⟨u249, hu249, h⟩ := q_bind h
                        refine xFl (wc := ([] : va_W)) (w1 := ([] : va_W)) (wr := (w6 cI cJ cZ qS zS zL_99)) (ws2 := (w6 cI cJ cZ qS zS zL_99)) (va_runS (As := [.long v8_99, .long v6_99, .int a4]) (rest := []) ⟨hx, hb, hml, hown, htl⟩ (c_X6_lowest l D cI cJ cZ n  H.size  v8_99 v6_99 a4 u249 hu249) (va_cwS 3 htl (gS W_641 W_642 W_5 W_643) rfl rfl rfl (by decide +kernel) ⟨Nat.le_of_ble_eq_true rfl, Nat.le_of_ble_eq_true rfl⟩) (xPS xP0 (xD0 A) hK hN) rfl rfl hl.1 rfl (lv_room (Nat.le_of_ble_eq_true rfl)) (dAt zX6_answers_1 38 rfl) ⟨Nat.zero_le _, Nat.zero_le _⟩) hS hA hP hD [] [0, 1, 2, 3, 4, 5, 6, 7, 8, 9, 10, 11, 12, 13, 14, 15, 16] [0, 1, 2, 3, 4, 5, 6, 7, 8, 9, 10, 11, 12, 13, 14, 15, 16] rfl rfl (by decide) (by decide) rfl (by decide) (fun H locs hP hD hS => ?_)
                        obtain rfl := q_some h
                        exact xRl hx hb hr hlocks hQ hAe hP hD hK hS rfl (dAt zX6_answers_1 39 rfl)
                      · have h := q_pos c_230 h
                        refine lv_aload_n hx hb (dAt zX6_answers_1 30 rfl) rfl (lv_at hl 0 rfl) ?_
                        refine va_get (D := D) (ci := 6) (v := .ref (qS 27)) (C := RX6) (T := TX6) (N := 32) hx hb htl inlX6 hown hK hP 0 rfl rfl 26 (by decide) (htl _ W_97) (fun _ h9 => h9) rfl (dAt zX6_answers_1 31 rfl) ?_
                        refine lv_iload hx hb (dAt zX6_answers_1 32 rfl) (lv_at hl 5 rfl) ?_
                        obtain ⟨hi_239, h⟩ := q_in h
                        refine va_lald hx hb hK hP 13 1 rfl rfl hi_239 (dAt zX6_answers_1 33 rfl) ?_
                        refine lv_goto (tgt := 245) hx hb (dAt zX6_answers_1 34 rfl) (by decide) ?_
                        refine lv_lload hx hb (dAt zX6_answers_1 36 rfl) (lv_at hl 6 rfl) ?_
                        refine lv_iload hx hb (dAt zX6_answers_1 37 rfl) (lv_at hl 4 rfl) ?_
                        obtain ⟨u249, hu249, h⟩ := q_bind h
                        refine xFl (wc := ([] : va_W)) (w1 := ([] : va_W)) (wr := (w6 cI cJ cZ qS zS zL_99)) (ws2 := (w6 cI cJ cZ qS zS zL_99)) (va_runS (As := [.long ((zL_99 27) (Int32.toNatClampNeg ((zS 6) 0))), .long v6_99, .int a4]) (rest := []) ⟨hx, hb, hml, hown, htl⟩ (c_X6_lowest l D cI cJ cZ n  H.size  ((zL_99 27) (Int32.toNatClampNeg ((zS 6) 0))) v6_99 a4 u249 hu249) (va_cwS 3 htl (gS W_641 W_642 W_5 W_643) rfl rfl rfl (by decide +kernel) ⟨Nat.le_of_ble_eq_true rfl, Nat.le_of_ble_eq_true rfl⟩) (xPS xP0 (xD0 A) hK hN) rfl rfl hl.1 rfl (lv_room (Nat.le_of_ble_eq_true rfl)) (dAt zX6_answers_1 38 rfl) ⟨Nat.zero_le _, Nat.zero_le _⟩) hS hA hP hD [] [0, 1, 2, 3, 4, 5, 6, 7, 8, 9, 10, 11, 12, 13, 14, 15, 16] [0, 1, 2, 3, 4, 5, 6, 7, 8, 9, 10, 11, 12, 13, 14, 15, 16] rfl rfl (by decide) (by decide) rfl (by decide) (fun H locs hP hD hS => ?_)
                        obtain rfl := q_some h
                        exact xRl hx hb hr hlocks hQ hAe hP hD hK hS rfl (dAt zX6_answers_1 39 rfl)
                    · have h := q_neg c_102 h
                      refine lv_ldc2 (v := 10) hx hb hown (htl _ W_636) (dAt zX6_answers_0 56 rfl) ?_
                      refine lv_lload hx hb (dAt zX6_answers_0 57 rfl) (lv_at hl 7 rfl) ?_
                      refine lv_lload hx hb (dAt zX6_answers_0 58 rfl) (lv_at hl 6 rfl) ?_
                      refine lv_ladd hx hb (dAt zX6_answers_0 59 rfl) ?_
                      refine lv_aload_n hx hb (dAt zX6_answers_0 60 rfl) rfl (lv_at hl 0 rfl) ?_
                      refine va_get (D := D) (ci := 6) (v := .ref (qS 27)) (C := RX6) (T := TX6) (N := 32) hx hb htl inlX6 hown hK hP 0 rfl rfl 26 (by decide) (htl _ W_97) (fun _ h9 => h9) rfl (dAt zX6_answers_0 61 rfl) ?_
                      refine lv_iload hx hb (dAt zX6_answers_0 62 rfl) (lv_at hl 5 rfl) ?_
                      obtain ⟨hi_119, h⟩ := q_in h
                      refine va_lald hx hb hK hP 13 1 rfl rfl hi_119 (dAt zX6_answers_0 63 rfl) ?_
                      refine lv_lsub hx hb (dAt zX6_answers_0 64 rfl) ?_
                      refine lv_lmul hx hb (dAt zX6_answers_0 65 rfl) ?_
                      refine lv_lstore (lv' := [(8, .long ((10 : Int64) * ((v8_99 + v6_99) - ((zL_99 27) (Int32.toNatClampNeg ((zS 6) 0)))))), (0, .ref (qS 0)), (1, .int a1), (2, .int a2), (3, .int a3), (4, .int a4), (5, .int ((zS 6) 0)), (6, .long v6_99), (10, .int v10_99)]) hx hb (dAt zX6_answers_0 66 rfl) hl (by decide) rfl (fun ls hl => ?_)
                      refine lv_lload hx hb (dAt zX6_answers_0 67 rfl) (lv_at hl 7 rfl) ?_
                      refine lv_ldc2 (v := 10) hx hb hown (htl _ W_636) (dAt zX6_answers_0 68 rfl) ?_
                      refine lv_lmul hx hb (dAt zX6_answers_0 69 rfl) ?_
                      refine lv_lstore (lv' := [(6, .long (v6_99 * (10 : Int64))), (8, .long ((10 : Int64) * ((v8_99 + v6_99) - ((zL_99 27) (Int32.toNatClampNeg ((zS 6) 0)))))), (0, .ref (qS 0)), (1, .int a1), (2, .int a2), (3, .int a3), (4, .int a4), (5, .int ((zS 6) 0)), (10, .int v10_99)]) hx hb (dAt zX6_answers_0 70 rfl) hl (by decide) rfl (fun ls hl => ?_)
                      refine lv_aload_n hx hb (dAt zX6_answers_0 71 rfl) rfl (lv_at hl 2 rfl) ?_
                      refine va_get (D := D) (ci := 6) (v := .ref (qS 27)) (C := RX6) (T := TX6) (N := 32) hx hb htl inlX6 hown hK hP 0 rfl rfl 26 (by decide) (htl _ W_97) (fun _ h9 => h9) rfl (dAt zX6_answers_0 72 rfl) ?_
                      refine lv_iload hx hb (dAt zX6_answers_0 73 rfl) (lv_at hl 7 rfl) ?_
                      refine lv_ldc2 (v := 10) hx hb hown (htl _ W_636) (dAt zX6_answers_0 74 rfl) ?_
                      refine lv_aload_n hx hb (dAt zX6_answers_0 75 rfl) rfl (lv_at hl 2 rfl) ?_
                      refine va_get (D := D) (ci := 6) (v := .ref (qS 27)) (C := RX6) (T := TX6) (N := 32) hx hb htl inlX6 hown hK hP 0 rfl rfl 26 (by decide) (htl _ W_97) (fun _ h9 => h9) rfl (dAt zX6_answers_0 76 rfl) ?_
                      refine lv_iload hx hb (dAt zX6_answers_0 77 rfl) (lv_at hl 7 rfl) ?_
                      obtain ⟨hi_147, h⟩ := q_in h
                      refine va_lald hx hb hK hP 13 1 rfl rfl hi_147 (dAt zX6_answers_0 78 rfl) ?_
                      refine lv_lmul hx hb (dAt zX6_answers_0 79 rfl) ?_
                      refine lv_iload_n hx hb (dAt zX6_answers_0 80 rfl) rfl (lv_at hl 4 rfl) ?_
                      refine lv_i2l (v := (Int32.toInt64 a2)) hx hb (dAt zX6_answers_0 81 rfl) rfl ?_
                      refine lv_aload_n hx hb (dAt zX6_answers_0 82 rfl) rfl (lv_at hl 2 rfl) ?_
                      refine va_get (D := D) (ci := 6) (v := .ref (qS 27)) (C := RX6) (T := TX6) (N := 32) hx hb htl inlX6 hown hK hP 0 rfl rfl 26 (by decide) (htl _ W_97) (fun _ h9 => h9) rfl (dAt zX6_answers_0 83 rfl) ?_
                      refine lv_iload hx hb (dAt zX6_answers_0 84 rfl) (lv_at hl 7 rfl) ?_
                      refine lv_iconst (v := 1) hx hb (dAt zX6_answers_0 85 rfl) (by decide) ?_
                      refine lv_isub hx hb (dAt zX6_answers_0 86 rfl) ?_
                      obtain ⟨hi_159, h⟩ := q_in h
                      refine va_lald hx hb hK hP 13 1 rfl rfl hi_159 (dAt zX6_answers_0 87 rfl) ?_
                      refine lv_lmul hx hb (dAt zX6_answers_0 88 rfl) ?_
                      refine lv_ladd hx hb (dAt zX6_answers_0 89 rfl) ?_
                      obtain ⟨hi_162, h⟩ := q_in h
                      refine va_last hx hb hK hP hD hS 13 1 rfl rfl hi_162 (dAt zX6_answers_0 90 rfl) (fun H locs hP hD hS => ?_)
                      have hP : va_P D vwCl (w6x cI cJ cZ qS (zS 0 0) (zS 0 1) (zS 0 2) (zS 0 8) (zS 0 10) (zS 0 14) (zS 0 15) (zS 0 16) (zS 0 17) (zS 0 19) (zS 0 20) (zS 0 21) (zS 0 22) (zS 0 23) (zS 0 30) (zS 0 31) (zS 4) (zS 5) (zS 6) (zS 7) (zS 8) (zS 10) (zS 12) (zS 13) (zS 14) (zS 19) (zS 25) (zS 26) (vp_updL (zL_99 27) (Int32.toNatClampNeg ((zS 6) 0)) (((10 : Int64) * ((zL_99 27) (Int32.toNatClampNeg ((zS 6) 0)))) + ((Int32.toInt64 a2) * ((zL_99 27) (Int32.toNatClampNeg (((zS 6) 0) - (1 : Int32))))))) (zS 28) (zS 29) (zS 30)) H := hP
                      have hD : va_D A (w6x cI cJ cZ qS (zS 0 0) (zS 0 1) (zS 0 2) (zS 0 8) (zS 0 10) (zS 0 14) (zS 0 15) (zS 0 16) (zS 0 17) (zS 0 19) (zS 0 20) (zS 0 21) (zS 0 22) (zS 0 23) (zS 0 30) (zS 0 31) (zS 4) (zS 5) (zS 6) (zS 7) (zS 8) (zS 10) (zS 12) (zS 13) (zS 14) (zS 19) (zS 25) (zS 26) (vp_updL (zL_99 27) (Int32.toNatClampNeg ((zS 6) 0)) (((10 : Int64) * ((zL_99 27) (Int32.toNatClampNeg ((zS 6) 0)))) + ((Int32.toInt64 a2) * ((zL_99 27) (Int32.toNatClampNeg (((zS 6) 0) - (1 : Int32))))))) (zS 28) (zS 29) (zS 30)) := hD
                      refine lv_iload hx hb (dAt zX6_answers_0 91 rfl) (lv_at hl 7 rfl) ?_
                      refine lv_iconst (v := 1) hx hb (dAt zX6_answers_0 92 rfl) (by decide) ?_
                      refine lv_isub hx hb (dAt zX6_answers_0 93 rfl) ?_
                      refine lv_istore (lv' := [(11, .int (((zS 6) 0) - (1 : Int32))), (6, .long (v6_99 * (10 : Int64))), (8, .long ((10 : Int64) * ((v8_99 + v6_99) - ((zL_99 27) (Int32.toNatClampNeg ((zS 6) 0)))))), (0, .ref (qS 0)), (1, .int a1), (2, .int a2), (3, .int a3), (4, .int a4), (5, .int ((zS 6) 0)), (10, .int v10_99)]) hx hb (dAt zX6_answers_0 94 rfl) hl (by decide) rfl (fun ls hl => ?_)
                      have hP : va_P D vwCl (w6 cI cJ cZ qS zS (upAL zL_99 27 (vp_updL (zL_99 27) (Int32.toNatClampNeg ((zS 6) 0)) (((10 : Int64) * ((zL_99 27) (Int32.toNatClampNeg ((zS 6) 0)))) + ((Int32.toInt64 a2) * ((zL_99 27) (Int32.toNatClampNeg (((zS 6) 0) - (1 : Int32))))))))) H := hP
                      have hD : va_D A (w6 cI cJ cZ qS zS (upAL zL_99 27 (vp_updL (zL_99 27) (Int32.toNatClampNeg ((zS 6) 0)) (((10 : Int64) * ((zL_99 27) (Int32.toNatClampNeg ((zS 6) 0)))) + ((Int32.toInt64 a2) * ((zL_99 27) (Int32.toNatClampNeg (((zS 6) 0) - (1 : Int32))))))))) := hD
                      have L_169 : ∀ (j_169 : Nat) (v11_169 : Int32) (zL_169 : TL) (H : Heap) (locs : List Loc) (ls : Array Slot), loopF (b_X6_answers_169 n zS a2 v6_99 v8_99 v10_99 zL_99 (loopF (b_X6_answers_99 n zS a1 a2 a3 a4) j_99)) j_169 (v11_169, zL_169) = some out → va_P D vwCl (w6 cI cJ cZ qS zS zL_169) H → va_D A (w6 cI cJ cZ qS zS zL_169) → va_S A s.heap H locs → lv_has ls 12 [(0, .ref (qS 0)), (1, .int a1), (2, .int a2), (3, .int a3), (4, .int a4), (5, .int ((zS 6) 0)), (6, .long (v6_99 * (10 : Int64))), (8, .long ((10 : Int64) * ((v8_99 + v6_99) - ((zL_99 27) (Int32.toNatClampNeg ((zS 6) 0)))))), (10, .int v10_99), (11, .int v11_169)] → W p l e { frames := 1, cells := 0, slots := 0, locals := 30 } s m args below meth c H locs 0 0 Q (F0 m 169 ls []) := by
                        intro j_169
                        induction j_169 with
                        | zero => intro v11_169 zL_169 H locs ls h hP hD hS hl; exact loopF_0 h
                        | succ j_169 ih_169 =>
                          intro v11_169 zL_169 H locs ls h hP hD hS hl
                          have h := loopF_s h
                          unfold b_X6_answers_169 at h
                          refine lv_iload hx hb (dAt zX6_answers_0 95 rfl) (lv_at hl 9 rfl) ?_
                          refine lv_if_lt (tgt := 223) hx hb (dAt zX6_answers_0 96 rfl) (by decide) (fun c_171 => ?_) (fun c_171 => ?_)
                          · have h := q_pos c_171 h
                            refine lv_iinc (v := (v10_99 + 1)) (lv' := [(10, .int (v10_99 + 1)), (0, .ref (qS 0)), (1, .int a1), (2, .int a2), (3, .int a3), (4, .int a4), (5, .int ((zS 6) 0)), (6, .long (v6_99 * (10 : Int64))), (8, .long ((10 : Int64) * ((v8_99 + v6_99) - ((zL_99 27) (Int32.toNatClampNeg ((zS 6) 0)))))), (11, .int v11_169)]) hx hb (dAt zX6_answers_1 26 rfl) hl (k := 8) rfl rfl (by decide) rfl (fun ls hl => ?_)
                            refine lv_goto (tgt := 99) hx hb (dAt zX6_answers_1 27 rfl) (by decide) ?_
                            exact ih_99 (v6_99 * (10 : Int64)) ((10 : Int64) * ((v8_99 + v6_99) - ((zL_99 27) (Int32.toNatClampNeg ((zS 6) 0))))) (v10_99 + 1) zL_169 _ _ _ h hP hD hS (lv_sub hl [1, 2, 3, 4, 5, 6, 7, 8, 0] rfl)
                          · have h := q_neg c_171 h
                            refine lv_aload_n hx hb (dAt zX6_answers_0 97 rfl) rfl (lv_at hl 0 rfl) ?_
                            refine va_get (D := D) (ci := 6) (v := .ref (qS 27)) (C := RX6) (T := TX6) (N := 32) hx hb htl inlX6 hown hK hP 0 rfl rfl 26 (by decide) (htl _ W_97) (fun _ h9 => h9) rfl (dAt zX6_answers_0 98 rfl) ?_
                            refine lv_iload hx hb (dAt zX6_answers_0 99 rfl) (lv_at hl 9 rfl) ?_
                            refine lv_ldc2 (v := 10) hx hb hown (htl _ W_636) (dAt zX6_answers_1 0 rfl) ?_
                            refine lv_iload_n hx hb (dAt zX6_answers_1 1 rfl) rfl (lv_at hl 2 rfl) ?_
                            refine lv_i2l (v := (Int32.toInt64 a2)) hx hb (dAt zX6_answers_1 2 rfl) rfl ?_
                            refine lv_lsub hx hb (dAt zX6_answers_1 3 rfl) ?_
                            refine lv_aload_n hx hb (dAt zX6_answers_1 4 rfl) rfl (lv_at hl 0 rfl) ?_
                            refine va_get (D := D) (ci := 6) (v := .ref (qS 27)) (C := RX6) (T := TX6) (N := 32) hx hb htl inlX6 hown hK hP 0 rfl rfl 26 (by decide) (htl _ W_97) (fun _ h9 => h9) rfl (dAt zX6_answers_1 5 rfl) ?_
                            refine lv_iload hx hb (dAt zX6_answers_1 6 rfl) (lv_at hl 9 rfl) ?_
                            obtain ⟨hi_192, h⟩ := q_in h
                            refine va_lald hx hb hK hP 13 1 rfl rfl hi_192 (dAt zX6_answers_1 7 rfl) ?_
                            refine lv_lmul hx hb (dAt zX6_answers_1 8 rfl) ?_
                            refine lv_iload hx hb (dAt zX6_answers_1 9 rfl) (lv_at hl 9 rfl) ?_
                            refine lv_if_le (tgt := 214) hx hb (dAt zX6_answers_1 10 rfl) (by decide) (fun c_196 => ?_) (fun c_196 => ?_)
                            · have h := q_pos c_196 h
                              refine lv_lconst (v := 0) hx hb (dAt zX6_answers_1 21 rfl) (by decide) ?_
                              refine lv_ladd hx hb (dAt zX6_answers_1 22 rfl) ?_
                              obtain ⟨hi_216, h⟩ := q_in h
                              refine va_last hx hb hK hP hD hS 13 1 rfl rfl hi_216 (dAt zX6_answers_1 23 rfl) (fun H locs hP hD hS => ?_)
                              have hP : va_P D vwCl (w6x cI cJ cZ qS (zS 0 0) (zS 0 1) (zS 0 2) (zS 0 8) (zS 0 10) (zS 0 14) (zS 0 15) (zS 0 16) (zS 0 17) (zS 0 19) (zS 0 20) (zS 0 21) (zS 0 22) (zS 0 23) (zS 0 30) (zS 0 31) (zS 4) (zS 5) (zS 6) (zS 7) (zS 8) (zS 10) (zS 12) (zS 13) (zS 14) (zS 19) (zS 25) (zS 26) (vp_updL (zL_169 27) (Int32.toNatClampNeg v11_169) ((((10 : Int64) - (Int32.toInt64 a2)) * ((zL_169 27) (Int32.toNatClampNeg v11_169))) + (0 : Int64))) (zS 28) (zS 29) (zS 30)) H := hP
                              have hD : va_D A (w6x cI cJ cZ qS (zS 0 0) (zS 0 1) (zS 0 2) (zS 0 8) (zS 0 10) (zS 0 14) (zS 0 15) (zS 0 16) (zS 0 17) (zS 0 19) (zS 0 20) (zS 0 21) (zS 0 22) (zS 0 23) (zS 0 30) (zS 0 31) (zS 4) (zS 5) (zS 6) (zS 7) (zS 8) (zS 10) (zS 12) (zS 13) (zS 14) (zS 19) (zS 25) (zS 26) (vp_updL (zL_169 27) (Int32.toNatClampNeg v11_169) ((((10 : Int64) - (Int32.toInt64 a2)) * ((zL_169 27) (Int32.toNatClampNeg v11_169))) + (0 : Int64))) (zS 28) (zS 29) (zS 30)) := hD
                              refine lv_iinc (v := (v11_169 + (-1))) (lv' := [(11, .int (v11_169 + (-1))), (0, .ref (qS 0)), (1, .int a1), (2, .int a2), (3, .int a3), (4, .int a4), (5, .int ((zS 6) 0)), (6, .long (v6_99 * (10 : Int64))), (8, .long ((10 : Int64) * ((v8_99 + v6_99) - ((zL_99 27) (Int32.toNatClampNeg ((zS 6) 0)))))), (10, .int v10_99)]) hx hb (dAt zX6_answers_1 24 rfl) hl (k := 9) rfl rfl (by decide) rfl (fun ls hl => ?_)
                              refine lv_goto (tgt := 169) hx hb (dAt zX6_answers_1 25 rfl) (by decide) ?_
                              have hP : va_P D vwCl (w6 cI cJ cZ qS zS (upAL zL_169 27 (vp_updL (zL_169 27) (Int32.toNatClampNeg v11_169) ((((10 : Int64) - (Int32.toInt64 a2)) * ((zL_169 27) (Int32.toNatClampNeg v11_169))) + (0 : Int64))))) H := hP
                              have hD : va_D A (w6 cI cJ cZ qS zS (upAL zL_169 27 (vp_updL (zL_169 27) (Int32.toNatClampNeg v11_169) ((((10 : Int64) - (Int32.toInt64 a2)) * ((zL_169 27) (Int32.toNatClampNeg v11_169))) + (0 : Int64))))) := hD
                              exact ih_169 (v11_169 + (-1)) (upAL zL_169 27 (vp_updL (zL_169 27) (Int32.toNatClampNeg v11_169) ((((10 : Int64) - (Int32.toInt64 a2)) * ((zL_169 27) (Int32.toNatClampNeg v11_169))) + (0 : Int64)))) _ _ _ h hP hD hS (lv_sub hl [1, 2, 3, 4, 5, 6, 7, 8, 9, 0] rfl)
                            · have h := q_neg c_196 h
                              refine lv_iload_n hx hb (dAt zX6_answers_1 11 rfl) rfl (lv_at hl 2 rfl) ?_
                              refine lv_i2l (v := (Int32.toInt64 a2)) hx hb (dAt zX6_answers_1 12 rfl) rfl ?_
                              refine lv_aload_n hx hb (dAt zX6_answers_1 13 rfl) rfl (lv_at hl 0 rfl) ?_
                              refine va_get (D := D) (ci := 6) (v := .ref (qS 27)) (C := RX6) (T := TX6) (N := 32) hx hb htl inlX6 hown hK hP 0 rfl rfl 26 (by decide) (htl _ W_97) (fun _ h9 => h9) rfl (dAt zX6_answers_1 14 rfl) ?_
                              refine lv_iload hx hb (dAt zX6_answers_1 15 rfl) (lv_at hl 9 rfl) ?_
                              refine lv_iconst (v := 1) hx hb (dAt zX6_answers_1 16 rfl) (by decide) ?_
                              refine lv_isub hx hb (dAt zX6_answers_1 17 rfl) ?_
                              obtain ⟨hi_209, h⟩ := q_in h
                              refine va_lald hx hb hK hP 13 1 rfl rfl hi_209 (dAt zX6_answers_1 18 rfl) ?_
                              refine lv_lmul hx hb (dAt zX6_answers_1 19 rfl) ?_
                              refine lv_goto (tgt := 215) hx hb (dAt zX6_answers_1 20 rfl) (by decide) ?_
                              refine lv_ladd hx hb (dAt zX6_answers_1 22 rfl) ?_
                              obtain ⟨hi_216, h⟩ := q_in h
                              refine va_last hx hb hK hP hD hS 13 1 rfl rfl hi_216 (dAt zX6_answers_1 23 rfl) (fun H locs hP hD hS => ?_)
                              have hP : va_P D vwCl (w6x cI cJ cZ qS (zS 0 0) (zS 0 1) (zS 0 2) (zS 0 8) (zS 0 10) (zS 0 14) (zS 0 15) (zS 0 16) (zS 0 17) (zS 0 19) (zS 0 20) (zS 0 21) (zS 0 22) (zS 0 23) (zS 0 30) (zS 0 31) (zS 4) (zS 5) (zS 6) (zS 7) (zS 8) (zS 10) (zS 12) (zS 13) (zS 14) (zS 19) (zS 25) (zS 26) (vp_updL (zL_169 27) (Int32.toNatClampNeg v11_169) ((((10 : Int64) - (Int32.toInt64 a2)) * ((zL_169 27) (Int32.toNatClampNeg v11_169))) + ((Int32.toInt64 a2) * ((zL_169 27) (Int32.toNatClampNeg (v11_169 - (1 : Int32))))))) (zS 28) (zS 29) (zS 30)) H := hP
                              have hD : va_D A (w6x cI cJ cZ qS (zS 0 0) (zS 0 1) (zS 0 2) (zS 0 8) (zS 0 10) (zS 0 14) (zS 0 15) (zS 0 16) (zS 0 17) (zS 0 19) (zS 0 20) (zS 0 21) (zS 0 22) (zS 0 23) (zS 0 30) (zS 0 31) (zS 4) (zS 5) (zS 6) (zS 7) (zS 8) (zS 10) (zS 12) (zS 13) (zS 14) (zS 19) (zS 25) (zS 26) (vp_updL (zL_169 27) (Int32.toNatClampNeg v11_169) ((((10 : Int64) - (Int32.toInt64 a2)) * ((zL_169 27) (Int32.toNatClampNeg v11_169))) + ((Int32.toInt64 a2) * ((zL_169 27) (Int32.toNatClampNeg (v11_169 - (1 : Int32))))))) (zS 28) (zS 29) (zS 30)) := hD
                              refine lv_iinc (v := (v11_169 + (-1))) (lv' := [(11, .int (v11_169 + (-1))), (0, .ref (qS 0)), (1, .int a1), (2, .int a2), (3, .int a3), (4, .int a4), (5, .int ((zS 6) 0)), (6, .long (v6_99 * (10 : Int64))), (8, .long ((10 : Int64) * ((v8_99 + v6_99) - ((zL_99 27) (Int32.toNatClampNeg ((zS 6) 0)))))), (10, .int v10_99)]) hx hb (dAt zX6_answers_1 24 rfl) hl (k := 9) rfl rfl (by decide) rfl (fun ls hl => ?_)
                              refine lv_goto (tgt := 169) hx hb (dAt zX6_answers_1 25 rfl) (by decide) ?_
                              have hP : va_P D vwCl (w6 cI cJ cZ qS zS (upAL zL_169 27 (vp_updL (zL_169 27) (Int32.toNatClampNeg v11_169) ((((10 : Int64) - (Int32.toInt64 a2)) * ((zL_169 27) (Int32.toNatClampNeg v11_169))) + ((Int32.toInt64 a2) * ((zL_169 27) (Int32.toNatClampNeg (v11_169 - (1 : Int32))))))))) H := hP
                              have hD : va_D A (w6 cI cJ cZ qS zS (upAL zL_169 27 (vp_updL (zL_169 27) (Int32.toNatClampNeg v11_169) ((((10 : Int64) - (Int32.toInt64 a2)) * ((zL_169 27) (Int32.toNatClampNeg v11_169))) + ((Int32.toInt64 a2) * ((zL_169 27) (Int32.toNatClampNeg (v11_169 - (1 : Int32))))))))) := hD
                              exact ih_169 (v11_169 + (-1)) (upAL zL_169 27 (vp_updL (zL_169 27) (Int32.toNatClampNeg v11_169) ((((10 : Int64) - (Int32.toInt64 a2)) * ((zL_169 27) (Int32.toNatClampNeg v11_169))) + ((Int32.toInt64 a2) * ((zL_169 27) (Int32.toNatClampNeg (v11_169 - (1 : Int32)))))))) _ _ _ h hP hD hS (lv_sub hl [1, 2, 3, 4, 5, 6, 7, 8, 9, 0] rfl)
                      exact L_169 n (((zS 6) 0) - (1 : Int32)) (upAL zL_99 27 (vp_updL (zL_99 27) (Int32.toNatClampNeg ((zS 6) 0)) (((10 : Int64) * ((zL_99 27) (Int32.toNatClampNeg ((zS 6) 0)))) + ((Int32.toInt64 a2) * ((zL_99 27) (Int32.toNatClampNeg (((zS 6) 0) - (1 : Int32)))))))) _ _ _ h hP hD hS (lv_sub hl [3, 4, 5, 6, 7, 8, 1, 2, 9, 0] rfl)
                exact L_99 n 1 0 0 zL_60 _ _ _ h hP hD hS (lv_sub hl [3, 4, 5, 6, 7, 8, 2, 1, 0] rfl)
              · have h := q_neg c_64 h
                refine lv_aload_n hx hb (dAt zX6_answers_0 36 rfl) rfl (lv_at hl 0 rfl) ?_
                refine va_get (D := D) (ci := 6) (v := .ref (qS 27)) (C := RX6) (T := TX6) (N := 32) hx hb htl inlX6 hown hK hP 0 rfl rfl 26 (by decide) (htl _ W_97) (fun _ h9 => h9) rfl (dAt zX6_answers_0 37 rfl) ?_
                refine lv_iload hx hb (dAt zX6_answers_0 38 rfl) (lv_at hl 6 rfl) ?_
                refine lv_iload hx hb (dAt zX6_answers_0 39 rfl) (lv_at hl 6 rfl) ?_
                refine lv_if_ne (tgt := 82) hx hb (dAt zX6_answers_0 40 rfl) (by decide) (fun c_75 => ?_) (fun c_75 => ?_)
                · have h := q_neg c_75 h
                  refine lv_lconst (v := 0) hx hb (dAt zX6_answers_0 43 rfl) (by decide) ?_
                  obtain ⟨hi_83, h⟩ := q_in h
                  refine va_last hx hb hK hP hD hS 13 1 rfl rfl hi_83 (dAt zX6_answers_0 44 rfl) (fun H locs hP hD hS => ?_)
                  have hP : va_P D vwCl (w6x cI cJ cZ qS (zS 0 0) (zS 0 1) (zS 0 2) (zS 0 8) (zS 0 10) (zS 0 14) (zS 0 15) (zS 0 16) (zS 0 17) (zS 0 19) (zS 0 20) (zS 0 21) (zS 0 22) (zS 0 23) (zS 0 30) (zS 0 31) (zS 4) (zS 5) (zS 6) (zS 7) (zS 8) (zS 10) (zS 12) (zS 13) (zS 14) (zS 19) (zS 25) (zS 26) (vp_updL (zL_60 27) (Int32.toNatClampNeg v6_60) 0) (zS 28) (zS 29) (zS 30)) H := hP
                  have hD : va_D A (w6x cI cJ cZ qS (zS 0 0) (zS 0 1) (zS 0 2) (zS 0 8) (zS 0 10) (zS 0 14) (zS 0 15) (zS 0 16) (zS 0 17) (zS 0 19) (zS 0 20) (zS 0 21) (zS 0 22) (zS 0 23) (zS 0 30) (zS 0 31) (zS 4) (zS 5) (zS 6) (zS 7) (zS 8) (zS 10) (zS 12) (zS 13) (zS 14) (zS 19) (zS 25) (zS 26) (vp_updL (zL_60 27) (Int32.toNatClampNeg v6_60) 0) (zS 28) (zS 29) (zS 30)) := hD
                  refine lv_iinc (v := (v6_60 + 1)) (lv' := [(6, .int (v6_60 + 1)), (0, .ref (qS 0)), (1, .int a1), (2, .int a2), (3, .int a3), (4, .int a4), (5, .int ((zS 6) 0))]) hx hb (dAt zX6_answers_0 45 rfl) hl (k := 6) rfl rfl (by decide) rfl (fun ls hl => ?_)
                  refine lv_goto (tgt := 60) hx hb (dAt zX6_answers_0 46 rfl) (by decide) ?_
                  have hP : va_P D vwCl (w6 cI cJ cZ qS zS (upAL zL_60 27 (vp_updL (zL_60 27) (Int32.toNatClampNeg v6_60) 0))) H := hP
                  have hD : va_D A (w6 cI cJ cZ qS zS (upAL zL_60 27 (vp_updL (zL_60 27) (Int32.toNatClampNeg v6_60) 0))) := hD
                  exact ih_60 (v6_60 + 1) (upAL zL_60 27 (vp_updL (zL_60 27) (Int32.toNatClampNeg v6_60) 0)) _ _ _ h hP hD hS (lv_sub hl [1, 2, 3, 4, 5, 6, 0] rfl)
                · have h := q_pos c_75 h
                  refine lv_lconst (v := 1) hx hb (dAt zX6_answers_0 41 rfl) (by decide) ?_
                  refine lv_goto (tgt := 83) hx hb (dAt zX6_answers_0 42 rfl) (by decide) ?_
                  obtain ⟨hi_83, h⟩ := q_in h
                  refine va_last hx hb hK hP hD hS 13 1 rfl rfl hi_83 (dAt zX6_answers_0 44 rfl) (fun H locs hP hD hS => ?_)
                  have hP : va_P D vwCl (w6x cI cJ cZ qS (zS 0 0) (zS 0 1) (zS 0 2) (zS 0 8) (zS 0 10) (zS 0 14) (zS 0 15) (zS 0 16) (zS 0 17) (zS 0 19) (zS 0 20) (zS 0 21) (zS 0 22) (zS 0 23) (zS 0 30) (zS 0 31) (zS 4) (zS 5) (zS 6) (zS 7) (zS 8) (zS 10) (zS 12) (zS 13) (zS 14) (zS 19) (zS 25) (zS 26) (vp_updL (zL_60 27) (Int32.toNatClampNeg v6_60) 1) (zS 28) (zS 29) (zS 30)) H := hP
                  have hD : va_D A (w6x cI cJ cZ qS (zS 0 0) (zS 0 1) (zS 0 2) (zS 0 8) (zS 0 10) (zS 0 14) (zS 0 15) (zS 0 16) (zS 0 17) (zS 0 19) (zS 0 20) (zS 0 21) (zS 0 22) (zS 0 23) (zS 0 30) (zS 0 31) (zS 4) (zS 5) (zS 6) (zS 7) (zS 8) (zS 10) (zS 12) (zS 13) (zS 14) (zS 19) (zS 25) (zS 26) (vp_updL (zL_60 27) (Int32.toNatClampNeg v6_60) 1) (zS 28) (zS 29) (zS 30)) := hD
                  refine lv_iinc (v := (v6_60 + 1)) (lv' := [(6, .int (v6_60 + 1)), (0, .ref (qS 0)), (1, .int a1), (2, .int a2), (3, .int a3), (4, .int a4), (5, .int ((zS 6) 0))]) hx hb (dAt zX6_answers_0 45 rfl) hl (k := 6) rfl rfl (by decide) rfl (fun ls hl => ?_)
                  refine lv_goto (tgt := 60) hx hb (dAt zX6_answers_0 46 rfl) (by decide) ?_
                  have hP : va_P D vwCl (w6 cI cJ cZ qS zS (upAL zL_60 27 (vp_updL (zL_60 27) (Int32.toNatClampNeg v6_60) 1))) H := hP
                  have hD : va_D A (w6 cI cJ cZ qS zS (upAL zL_60 27 (vp_updL (zL_60 27) (Int32.toNatClampNeg v6_60) 1))) := hD
                  exact ih_60 (v6_60 + 1) (upAL zL_60 27 (vp_updL (zL_60 27) (Int32.toNatClampNeg v6_60) 1)) _ _ _ h hP hD hS (lv_sub hl [1, 2, 3, 4, 5, 6, 0] rfl)
          exact L_60 n 0 zL _ _ _ h hP hD hS (lv_sub hl [2, 3, 4, 5, 6, 1, 0] rfl)
        · have h := q_pos c_42 h
          refine lv_ldc2 (v := (-1000000000000000002)) hx hb hown (htl _ W_635) (dAt zX6_answers_0 24 rfl) ?_
          obtain rfl := q_some h
          exact xRl hx hb hr hlocks hQ hAe hP hD hK hS rfl (dAt zX6_answers_0 25 rfl)
def b_X6_bestTake_5 (n : Nat) (zS : TI) (a1 : Int32) (s_5 : Int32 × Int32) (k_5 : Int32 × Int32 → Option Int32) : Option Int32 := (if s_5.2 ≤ 0 then some s_5.1 else (if (jrem a1 (10 : Int32)) = s_5.2 then (gd (inB (a1 - s_5.2) 1000) ((if ((zS 28) (Int32.toNatClampNeg (a1 - s_5.2))) = 0 then (k_5 (s_5.2, (s_5.2 + (-1)))) else (k_5 (s_5.1, (s_5.2 + (-1))))))) else (if (jrem (a1 / (10 : Int32)) (10 : Int32)) = s_5.2 then (gd (inB (a1 - s_5.2) 1000) ((if ((zS 28) (Int32.toNatClampNeg (a1 - s_5.2))) = 0 then (k_5 (s_5.2, (s_5.2 + (-1)))) else (k_5 (s_5.1, (s_5.2 + (-1))))))) else (if (a1 / (100 : Int32)) = s_5.2 then (gd (inB (a1 - s_5.2) 1000) ((if ((zS 28) (Int32.toNatClampNeg (a1 - s_5.2))) = 0 then (k_5 (s_5.2, (s_5.2 + (-1)))) else (k_5 (s_5.1, (s_5.2 + (-1))))))) else (k_5 (s_5.1, (s_5.2 + (-1))))))))
def m_X6_bestTake (n : Nat) (zS : TI) (zL : TL) (a1 : Int32) : Option Int32 := (loopF (b_X6_bestTake_5 n zS a1 ) n (0, 9))
set_option maxHeartbeats 4000000 in
set_option maxRecDepth 100000 in
theorem c_X6_bestTake (l : Launch) (D : va_G) (cI cJ cZ : ClassId) (n : Nat) (qS : Nat → Nat) (sz : Nat) (zS : TI) (zL : TL) (a1 : Int32) (out : Int32) (hm : m_X6_bestTake n zS zL a1 = some out) : Met l yX6_bestTake (wsM yX6_bestTake cX6_bestTake 5 (some .int)) { frames := 0, cells := 0, slots := 0, locals := 0 } (xPre D (kT cI cJ cZ) (w6 cI cJ cZ qS zS zL) sz [.ref (qS 0), .int a1]) (xQi D (kT cI cJ cZ) (w6 cI cJ cZ qS zS zL) (w6 cI cJ cZ qS zS zL) sz out) 0 0 (va_A (w6 cI cJ cZ qS zS zL) sz) := by
  refine Met.ofW (cc := cX6_bestTake) (maxL := 5) (ret := (some .int)) (by decide) rfl ?_
  intro p e s m args below meth c s₁ B hml hv
  obtain ⟨hv, hsz, hP, hK, hD0, hN⟩ := hv
  have hx := B.exec; have hb := B.bytes; have hr := B.returns
  have hts := atoms_spec (ws := (wsM yX6_bestTake cX6_bestTake 5 (some .int))) B.pre
  have hown : s.vm.findClass RX6 = some m.cls := findClass_of_methodNamed B.named
  have hlocks := B.notSynchronized
  subst hsz
  have hD := hD0.self (sz := s.heap.size)
  obtain ⟨A, hAe⟩ : ∃ A, A = va_A (w6 cI cJ cZ qS zS zL) s.heap.size := ⟨_, rfl⟩
  rw [← hAe] at hD
  have hA : ∀ q : Nat, s.heap.size ≤ q → A q := fun q h => by rw [hAe]; exact Or.inr h
  have htl : ∀ w ∈ wsL_law, w.before args s = true := fun w h => hts w (List.mem_cons_of_mem _ h)
  refine xHead (R' := { frames := 0, cells := 0, slots := 0, locals := 0 }) rfl (fun Q H hQ hH => ?_)
  have hP : va_P D vwCl (w6 cI cJ cZ qS zS zL) H := by rw [hH]; exact hP
  have hS : va_S A s.heap H [] := by rw [hH]; exact va_S.rf
  refine xStart hv (Nat.le_of_ble_eq_true rfl) (lv := [(0, .ref (qS 0)), (1, .int a1)]) rfl (fun ls hl => ?_)
  have h := hm
  unfold m_X6_bestTake at h
  refine lv_iconst (v := 0) hx hb (dAt zX6_bestTake_0 0 rfl) (by decide) ?_
  refine lv_istore_n (lv' := [(2, .int 0), (0, .ref (qS 0)), (1, .int a1)]) hx hb (dAt zX6_bestTake_0 1 rfl) rfl hl (by decide) rfl (fun ls hl => ?_)
  refine lv_bipush (v := 9) hx hb (dAt zX6_bestTake_0 2 rfl) (by decide) ?_
  refine lv_istore_n (lv' := [(3, .int 9), (2, .int 0), (0, .ref (qS 0)), (1, .int a1)]) hx hb (dAt zX6_bestTake_0 3 rfl) rfl hl (by decide) rfl (fun ls hl => ?_)
  have L_5 : ∀ (j_5 : Nat) (v2_5 : Int32) (v3_5 : Int32) (H : Heap) (locs : List Loc) (ls : Array Slot), loopF (b_X6_bestTake_5 n zS a1) j_5 (v2_5, v3_5) = some out → va_P D vwCl (w6 cI cJ cZ qS zS zL) H → va_D A (w6 cI cJ cZ qS zS zL) → va_S A s.heap H locs → lv_has ls 5 [(0, .ref (qS 0)), (1, .int a1), (2, .int v2_5), (3, .int v3_5)] → W p l e { frames := 0, cells := 0, slots := 0, locals := 0 } s m args below meth c H locs 0 0 Q (F0 m 5 ls []) := by
    intro j_5
    induction j_5 with
    | zero => intro v2_5 v3_5 H locs ls h hP hD hS hl; exact loopF_0 h
    | succ j_5 ih_5 =>
      intro v2_5 v3_5 H locs ls h hP hD hS hl
      have h := loopF_s h
      unfold b_X6_bestTake_5 at h
      refine lv_iload_n hx hb (dAt zX6_bestTake_0 4 rfl) rfl (lv_at hl 3 rfl) ?_
      refine lv_if_le (tgt := 80) hx hb (dAt zX6_bestTake_0 5 rfl) (by decide) (fun c_6 => ?_) (fun c_6 => ?_)
      · have h := q_pos c_6 h
        refine lv_iload_n hx hb (dAt zX6_bestTake_0 46 rfl) rfl (lv_at hl 2 rfl) ?_
        obtain rfl := q_some h
        exact xRi hx hb hr hlocks hQ hAe hP hD hK hS rfl (dAt zX6_bestTake_0 47 rfl)
      · have h := q_neg c_6 h
        refine lv_iload_n hx hb (dAt zX6_bestTake_0 6 rfl) rfl (lv_at hl 1 rfl) ?_
        refine lv_bipush (v := 10) hx hb (dAt zX6_bestTake_0 7 rfl) (by decide) ?_
        refine lv_irem hx hb (dAt zX6_bestTake_0 8 rfl) (by decide) ?_
        refine lv_iload_n hx hb (dAt zX6_bestTake_0 9 rfl) rfl (lv_at hl 3 rfl) ?_
        refine lv_icmp_eq (tgt := 36) hx hb (dAt zX6_bestTake_0 10 rfl) (by decide) (fun c_14 => ?_) (fun c_14 => ?_)
        · have h := q_pos c_14 h
          refine lv_iconst (v := 1) hx hb (dAt zX6_bestTake_0 23 rfl) (by decide) ?_
          refine lv_goto (tgt := 41) hx hb (dAt zX6_bestTake_0 24 rfl) (by decide) ?_
          refine lv_istore (lv' := [(4, .int 1), (0, .ref (qS 0)), (1, .int a1), (2, .int v2_5), (3, .int v3_5)]) hx hb (dAt zX6_bestTake_0 26 rfl) hl (by decide) rfl (fun ls hl => ?_)
          refine lv_iload hx hb (dAt zX6_bestTake_0 27 rfl) (lv_at hl 0 rfl) ?_
          refine lv_if_eq (tgt := 72) hx hb (dAt zX6_bestTake_0 28 rfl) (by decide) (fun c => absurd c (by decide)) (fun _ => ?_)
          refine lv_aload_n hx hb (dAt zX6_bestTake_0 29 rfl) rfl (lv_at hl 1 rfl) ?_
          refine va_get (D := D) (ci := 6) (v := .ref (qS 28)) (C := RX6) (T := TX6) (N := 32) hx hb htl inlX6 hown hK hP 0 rfl rfl 27 (by decide) (htl _ W_98) (fun _ h9 => h9) rfl (dAt zX6_bestTake_0 30 rfl) ?_
          refine lv_iload_n hx hb (dAt zX6_bestTake_0 31 rfl) rfl (lv_at hl 2 rfl) ?_
          refine lv_iload hx hb (dAt zX6_bestTake_0 32 rfl) (lv_at hl 0 rfl) ?_
          refine lv_if_eq (tgt := 62) hx hb (dAt zX6_bestTake_0 33 rfl) (by decide) (fun c => absurd c (by decide)) (fun _ => ?_)
          refine lv_iload_n hx hb (dAt zX6_bestTake_0 34 rfl) rfl (lv_at hl 4 rfl) ?_
          refine lv_goto (tgt := 63) hx hb (dAt zX6_bestTake_0 35 rfl) (by decide) ?_
          refine lv_isub hx hb (dAt zX6_bestTake_0 37 rfl) ?_
          obtain ⟨hi_64, h⟩ := q_in h
          refine va_iald hx hb hK hP 14 0 rfl rfl hi_64 (dAt zX6_bestTake_0 38 rfl) ?_
          refine lv_if_ne (tgt := 72) hx hb (dAt zX6_bestTake_0 39 rfl) (by decide) (fun c_65 => ?_) (fun c_65 => ?_)
          · have h := q_neg c_65 h
            refine lv_iload_n hx hb (dAt zX6_bestTake_0 42 rfl) rfl (lv_at hl 3 rfl) ?_
            refine lv_istore_n (lv' := [(2, .int v2_5), (4, .int 1), (0, .ref (qS 0)), (1, .int a1), (3, .int v3_5)]) hx hb (dAt zX6_bestTake_0 43 rfl) rfl hl (by decide) rfl (fun ls hl => ?_)
            refine lv_iinc (v := (v3_5 + (-1))) (lv' := [(3, .int (v3_5 + (-1))), (2, .int v2_5), (4, .int 1), (0, .ref (qS 0)), (1, .int a1)]) hx hb (dAt zX6_bestTake_0 44 rfl) hl (k := 4) rfl rfl (by decide) rfl (fun ls hl => ?_)
            refine lv_goto (tgt := 5) hx hb (dAt zX6_bestTake_0 45 rfl) (by decide) ?_
            exact ih_5 v2_5 (v3_5 + (-1)) _ _ _ h hP hD hS (lv_sub hl [3, 4, 1, 0] rfl)
          · have h := q_pos c_65 h
            refine lv_iload_n hx hb (dAt zX6_bestTake_0 40 rfl) rfl (lv_at hl 4 rfl) ?_
            refine lv_goto (tgt := 73) hx hb (dAt zX6_bestTake_0 41 rfl) (by decide) ?_
            refine lv_istore_n (lv' := [(2, .int v3_5), (4, .int 1), (0, .ref (qS 0)), (1, .int a1), (3, .int v3_5)]) hx hb (dAt zX6_bestTake_0 43 rfl) rfl hl (by decide) rfl (fun ls hl => ?_)
            refine lv_iinc (v := (v3_5 + (-1))) (lv' := [(3, .int (v3_5 + (-1))), (2, .int v3_5), (4, .int 1), (0, .ref (qS 0)), (1, .int a1)]) hx hb (dAt zX6_bestTake_0 44 rfl) hl (k := 4) rfl rfl (by decide) rfl (fun ls hl => ?_)
            refine lv_goto (tgt := 5) hx hb (dAt zX6_bestTake_0 45 rfl) (by decide) ?_
            exact ih_5 v3_5 (v3_5 + (-1)) _ _ _ h hP hD hS (lv_sub hl [3, 4, 1, 0] rfl)
        · have h := q_neg c_14 h
          refine lv_iload_n hx hb (dAt zX6_bestTake_0 11 rfl) rfl (lv_at hl 1 rfl) ?_
          refine lv_bipush (v := 10) hx hb (dAt zX6_bestTake_0 12 rfl) (by decide) ?_
          refine lv_idiv hx hb (dAt zX6_bestTake_0 13 rfl) (by decide) ?_
          refine lv_bipush (v := 10) hx hb (dAt zX6_bestTake_0 14 rfl) (by decide) ?_
          refine lv_irem hx hb (dAt zX6_bestTake_0 15 rfl) (by decide) ?_
          refine lv_iload_n hx hb (dAt zX6_bestTake_0 16 rfl) rfl (lv_at hl 3 rfl) ?_
          refine lv_icmp_eq (tgt := 36) hx hb (dAt zX6_bestTake_0 17 rfl) (by decide) (fun c_25 => ?_) (fun c_25 => ?_)
          · have h := q_pos c_25 h
            refine lv_iconst (v := 1) hx hb (dAt zX6_bestTake_0 23 rfl) (by decide) ?_
            refine lv_goto (tgt := 41) hx hb (dAt zX6_bestTake_0 24 rfl) (by decide) ?_
            refine lv_istore (lv' := [(4, .int 1), (0, .ref (qS 0)), (1, .int a1), (2, .int v2_5), (3, .int v3_5)]) hx hb (dAt zX6_bestTake_0 26 rfl) hl (by decide) rfl (fun ls hl => ?_)
            refine lv_iload hx hb (dAt zX6_bestTake_0 27 rfl) (lv_at hl 0 rfl) ?_
            refine lv_if_eq (tgt := 72) hx hb (dAt zX6_bestTake_0 28 rfl) (by decide) (fun c => absurd c (by decide)) (fun _ => ?_)
            refine lv_aload_n hx hb (dAt zX6_bestTake_0 29 rfl) rfl (lv_at hl 1 rfl) ?_
            refine va_get (D := D) (ci := 6) (v := .ref (qS 28)) (C := RX6) (T := TX6) (N := 32) hx hb htl inlX6 hown hK hP 0 rfl rfl 27 (by decide) (htl _ W_98) (fun _ h9 => h9) rfl (dAt zX6_bestTake_0 30 rfl) ?_
            refine lv_iload_n hx hb (dAt zX6_bestTake_0 31 rfl) rfl (lv_at hl 2 rfl) ?_
            refine lv_iload hx hb (dAt zX6_bestTake_0 32 rfl) (lv_at hl 0 rfl) ?_
            refine lv_if_eq (tgt := 62) hx hb (dAt zX6_bestTake_0 33 rfl) (by decide) (fun c => absurd c (by decide)) (fun _ => ?_)
            refine lv_iload_n hx hb (dAt zX6_bestTake_0 34 rfl) rfl (lv_at hl 4 rfl) ?_
            refine lv_goto (tgt := 63) hx hb (dAt zX6_bestTake_0 35 rfl) (by decide) ?_
            refine lv_isub hx hb (dAt zX6_bestTake_0 37 rfl) ?_
            obtain ⟨hi_64, h⟩ := q_in h
            refine va_iald hx hb hK hP 14 0 rfl rfl hi_64 (dAt zX6_bestTake_0 38 rfl) ?_
            refine lv_if_ne (tgt := 72) hx hb (dAt zX6_bestTake_0 39 rfl) (by decide) (fun c_65 => ?_) (fun c_65 => ?_)
            · have h := q_neg c_65 h
              refine lv_iload_n hx hb (dAt zX6_bestTake_0 42 rfl) rfl (lv_at hl 3 rfl) ?_
              refine lv_istore_n (lv' := [(2, .int v2_5), (4, .int 1), (0, .ref (qS 0)), (1, .int a1), (3, .int v3_5)]) hx hb (dAt zX6_bestTake_0 43 rfl) rfl hl (by decide) rfl (fun ls hl => ?_)
              refine lv_iinc (v := (v3_5 + (-1))) (lv' := [(3, .int (v3_5 + (-1))), (2, .int v2_5), (4, .int 1), (0, .ref (qS 0)), (1, .int a1)]) hx hb (dAt zX6_bestTake_0 44 rfl) hl (k := 4) rfl rfl (by decide) rfl (fun ls hl => ?_)
              refine lv_goto (tgt := 5) hx hb (dAt zX6_bestTake_0 45 rfl) (by decide) ?_
              exact ih_5 v2_5 (v3_5 + (-1)) _ _ _ h hP hD hS (lv_sub hl [3, 4, 1, 0] rfl)
            · have h := q_pos c_65 h
              refine lv_iload_n hx hb (dAt zX6_bestTake_0 40 rfl) rfl (lv_at hl 4 rfl) ?_
              refine lv_goto (tgt := 73) hx hb (dAt zX6_bestTake_0 41 rfl) (by decide) ?_
              refine lv_istore_n (lv' := [(2, .int v3_5), (4, .int 1), (0, .ref (qS 0)), (1, .int a1), (3, .int v3_5)]) hx hb (dAt zX6_bestTake_0 43 rfl) rfl hl (by decide) rfl (fun ls hl => ?_)
              refine lv_iinc (v := (v3_5 + (-1))) (lv' := [(3, .int (v3_5 + (-1))), (2, .int v3_5), (4, .int 1), (0, .ref (qS 0)), (1, .int a1)]) hx hb (dAt zX6_bestTake_0 44 rfl) hl (k := 4) rfl rfl (by decide) rfl (fun ls hl => ?_)
              refine lv_goto (tgt := 5) hx hb (dAt zX6_bestTake_0 45 rfl) (by decide) ?_
              exact ih_5 v3_5 (v3_5 + (-1)) _ _ _ h hP hD hS (lv_sub hl [3, 4, 1, 0] rfl)
          · have h := q_neg c_25 h
            refine lv_iload_n hx hb (dAt zX6_bestTake_0 18 rfl) rfl (lv_at hl 1 rfl) ?_
            refine lv_bipush (v := 100) hx hb (dAt zX6_bestTake_0 19 rfl) (by decide) ?_
            refine lv_idiv hx hb (dAt zX6_bestTake_0 20 rfl) (by decide) ?_
            refine lv_iload_n hx hb (dAt zX6_bestTake_0 21 rfl) rfl (lv_at hl 3 rfl) ?_
            refine lv_icmp_ne (tgt := 40) hx hb (dAt zX6_bestTake_0 22 rfl) (by decide) (fun c_33 => ?_) (fun c_33 => ?_)
            · have h := q_neg c_33 h
              refine lv_iconst (v := 0) hx hb (dAt zX6_bestTake_0 25 rfl) (by decide) ?_
              refine lv_istore (lv' := [(4, .int 0), (0, .ref (qS 0)), (1, .int a1), (2, .int v2_5), (3, .int v3_5)]) hx hb (dAt zX6_bestTake_0 26 rfl) hl (by decide) rfl (fun ls hl => ?_)
              refine lv_iload hx hb (dAt zX6_bestTake_0 27 rfl) (lv_at hl 0 rfl) ?_
              refine lv_if_eq (tgt := 72) hx hb (dAt zX6_bestTake_0 28 rfl) (by decide) (fun _ => ?_) (fun c => absurd (by decide) c)
              refine lv_iload_n hx hb (dAt zX6_bestTake_0 42 rfl) rfl (lv_at hl 3 rfl) ?_
              refine lv_istore_n (lv' := [(2, .int v2_5), (4, .int 0), (0, .ref (qS 0)), (1, .int a1), (3, .int v3_5)]) hx hb (dAt zX6_bestTake_0 43 rfl) rfl hl (by decide) rfl (fun ls hl => ?_)
              refine lv_iinc (v := (v3_5 + (-1))) (lv' := [(3, .int (v3_5 + (-1))), (2, .int v2_5), (4, .int 0), (0, .ref (qS 0)), (1, .int a1)]) hx hb (dAt zX6_bestTake_0 44 rfl) hl (k := 4) rfl rfl (by decide) rfl (fun ls hl => ?_)
              refine lv_goto (tgt := 5) hx hb (dAt zX6_bestTake_0 45 rfl) (by decide) ?_
              exact ih_5 v2_5 (v3_5 + (-1)) _ _ _ h hP hD hS (lv_sub hl [3, 4, 1, 0] rfl)
            · have h := q_pos c_33 h
              refine lv_iconst (v := 1) hx hb (dAt zX6_bestTake_0 23 rfl) (by decide) ?_
              refine lv_goto (tgt := 41) hx hb (dAt zX6_bestTake_0 24 rfl) (by decide) ?_
              refine lv_istore (lv' := [(4, .int 1), (0, .ref (qS 0)), (1, .int a1), (2, .int v2_5), (3, .int v3_5)]) hx hb (dAt zX6_bestTake_0 26 rfl) hl (by decide) rfl (fun ls hl => ?_)
              refine lv_iload hx hb (dAt zX6_bestTake_0 27 rfl) (lv_at hl 0 rfl) ?_
              refine lv_if_eq (tgt := 72) hx hb (dAt zX6_bestTake_0 28 rfl) (by decide) (fun c => absurd c (by decide)) (fun _ => ?_)
              refine lv_aload_n hx hb (dAt zX6_bestTake_0 29 rfl) rfl (lv_at hl 1 rfl) ?_
              refine va_get (D := D) (ci := 6) (v := .ref (qS 28)) (C := RX6) (T := TX6) (N := 32) hx hb htl inlX6 hown hK hP 0 rfl rfl 27 (by decide) (htl _ W_98) (fun _ h9 => h9) rfl (dAt zX6_bestTake_0 30 rfl) ?_
              refine lv_iload_n hx hb (dAt zX6_bestTake_0 31 rfl) rfl (lv_at hl 2 rfl) ?_
              refine lv_iload hx hb (dAt zX6_bestTake_0 32 rfl) (lv_at hl 0 rfl) ?_
              refine lv_if_eq (tgt := 62) hx hb (dAt zX6_bestTake_0 33 rfl) (by decide) (fun c => absurd c (by decide)) (fun _ => ?_)
              refine lv_iload_n hx hb (dAt zX6_bestTake_0 34 rfl) rfl (lv_at hl 4 rfl) ?_
              refine lv_goto (tgt := 63) hx hb (dAt zX6_bestTake_0 35 rfl) (by decide) ?_
              refine lv_isub hx hb (dAt zX6_bestTake_0 37 rfl) ?_
              obtain ⟨hi_64, h⟩ := q_in h
              refine va_iald hx hb hK hP 14 0 rfl rfl hi_64 (dAt zX6_bestTake_0 38 rfl) ?_
              refine lv_if_ne (tgt := 72) hx hb (dAt zX6_bestTake_0 39 rfl) (by decide) (fun c_65 => ?_) (fun c_65 => ?_)
              · have h := q_neg c_65 h
                refine lv_iload_n hx hb (dAt zX6_bestTake_0 42 rfl) rfl (lv_at hl 3 rfl) ?_
                refine lv_istore_n (lv' := [(2, .int v2_5), (4, .int 1), (0, .ref (qS 0)), (1, .int a1), (3, .int v3_5)]) hx hb (dAt zX6_bestTake_0 43 rfl) rfl hl (by decide) rfl (fun ls hl => ?_)
                refine lv_iinc (v := (v3_5 + (-1))) (lv' := [(3, .int (v3_5 + (-1))), (2, .int v2_5), (4, .int 1), (0, .ref (qS 0)), (1, .int a1)]) hx hb (dAt zX6_bestTake_0 44 rfl) hl (k := 4) rfl rfl (by decide) rfl (fun ls hl => ?_)
                refine lv_goto (tgt := 5) hx hb (dAt zX6_bestTake_0 45 rfl) (by decide) ?_
                exact ih_5 v2_5 (v3_5 + (-1)) _ _ _ h hP hD hS (lv_sub hl [3, 4, 1, 0] rfl)
              · have h := q_pos c_65 h
                refine lv_iload_n hx hb (dAt zX6_bestTake_0 40 rfl) rfl (lv_at hl 4 rfl) ?_
                refine lv_goto (tgt := 73) hx hb (dAt zX6_bestTake_0 41 rfl) (by decide) ?_
                refine lv_istore_n (lv' := [(2, .int v3_5), (4, .int 1), (0, .ref (qS 0)), (1, .int a1), (3, .int v3_5)]) hx hb (dAt zX6_bestTake_0 43 rfl) rfl hl (by decide) rfl (fun ls hl => ?_)
                refine lv_iinc (v := (v3_5 + (-1))) (lv' := [(3, .int (v3_5 + (-1))), (2, .int v3_5), (4, .int 1), (0, .ref (qS 0)), (1, .int a1)]) hx hb (dAt zX6_bestTake_0 44 rfl) hl (k := 4) rfl rfl (by decide) rfl (fun ls hl => ?_)
                refine lv_goto (tgt := 5) hx hb (dAt zX6_bestTake_0 45 rfl) (by decide) ?_
                exact ih_5 v3_5 (v3_5 + (-1)) _ _ _ h hP hD hS (lv_sub hl [3, 4, 1, 0] rfl)
  exact L_5 n 0 9 _ _ _ h hP hD hS (lv_sub hl [2, 3, 1, 0] rfl)
def b_X6_number_27 (n : Nat) (zL : TL) (a1 : Int32) (a2 : Int32) (s_27 : Int32 × TI) (k_27 : Int32 × TI → Option (Int32 × TI)) : Option (Int32 × TI) := (if a1 < s_27.1 then (gd (inB a1 1000) ((if a2 = 0 then (if ((s_27.2 28) (Int32.toNatClampNeg a1)) ≤ 0 then some (0, s_27.2) else some (1, s_27.2)) else (if ((s_27.2 28) (Int32.toNatClampNeg a1)) ≤ 0 then some ((-6), s_27.2) else some (((s_27.2 28) (Int32.toNatClampNeg a1)), s_27.2))))) else ((m_X6_bestTake n s_27.2 zL s_27.1).bind fun u39 => (gd (inB s_27.1 1000) ((k_27 ((s_27.1 + 1), (upA s_27.2 28 (upd (s_27.2 28) (Int32.toNatClampNeg s_27.1) u39))))))))
def m_X6_number (n : Nat) (zS : TI) (zL : TL) (a1 : Int32) (a2 : Int32) : Option (Int32 × TI) := ((m_X6_in n  (Int32.toInt64 a1) 0 999).bind fun u6 => (if u6 = 0 then some ((-2), zS) else ((m_X6_in n  (Int32.toInt64 a2) 0 1).bind fun u16 => (if u16 = 0 then some ((-2), zS) else (loopF (b_X6_number_27 n zL a1 a2 ) n (0, zS))))))
set_option maxHeartbeats 4000000 in
set_option maxRecDepth 100000 in
theorem c_X6_number (l : Launch) (D : va_G) (cI cJ cZ : ClassId) (n : Nat) (qS : Nat → Nat) (sz : Nat) (zS : TI) (zL : TL) (a1 : Int32) (a2 : Int32) (out : Int32 × TI) (hm : m_X6_number n zS zL a1 a2 = some out) : Met l yX6_number (wsM yX6_number cX6_number 4 (some .int)) { frames := 1, cells := 0, slots := 0, locals := 25 } (xPre D (kT cI cJ cZ) (w6 cI cJ cZ qS zS zL) sz [.ref (qS 0), .int a1, .int a2]) (xQi D (kT cI cJ cZ) (w6 cI cJ cZ qS zS zL) (w6 cI cJ cZ qS out.2 zL) sz out.1) 0 0 (va_A (w6 cI cJ cZ qS zS zL) sz) := by
  refine Met.ofW (cc := cX6_number) (maxL := 4) (ret := (some .int)) (by decide) rfl ?_
  intro p e s m args below meth c s₁ B hml hv
  obtain ⟨hv, hsz, hP, hK, hD0, hN⟩ := hv
  have hx := B.exec; have hb := B.bytes; have hr := B.returns
  have hts := atoms_spec (ws := (wsM yX6_number cX6_number 4 (some .int))) B.pre
  have hown : s.vm.findClass RX6 = some m.cls := findClass_of_methodNamed B.named
  have hlocks := B.notSynchronized
  subst hsz
  have hD := hD0.self (sz := s.heap.size)
  obtain ⟨A, hAe⟩ : ∃ A, A = va_A (w6 cI cJ cZ qS zS zL) s.heap.size := ⟨_, rfl⟩
  rw [← hAe] at hD
  have hA : ∀ q : Nat, s.heap.size ≤ q → A q := fun q h => by rw [hAe]; exact Or.inr h
  have htl : ∀ w ∈ wsL_law, w.before args s = true := fun w h => hts w (List.mem_cons_of_mem _ h)
  refine xHead (R' := { frames := 1, cells := 0, slots := 0, locals := 25 }) rfl (fun Q H hQ hH => ?_)
  have hP : va_P D vwCl (w6 cI cJ cZ qS zS zL) H := by rw [hH]; exact hP
  have hS : va_S A s.heap H [] := by rw [hH]; exact va_S.rf
  refine xStart hv (Nat.le_of_ble_eq_true rfl) (lv := [(0, .ref (qS 0)), (1, .int a1), (2, .int a2)]) rfl (fun ls hl => ?_)
  have h := hm
  unfold m_X6_number at h
  refine lv_iload_n hx hb (dAt zX6_number_0 0 rfl) rfl (lv_at hl 1 rfl) ?_
  refine lv_i2l (v := (Int32.toInt64 a1)) hx hb (dAt zX6_number_0 1 rfl) rfl ?_
  refine lv_lconst (v := 0) hx hb (dAt zX6_number_0 2 rfl) (by decide) ?_
  refine lv_ldc2 (v := 999) hx hb hown (htl _ W_747) (dAt zX6_number_0 3 rfl) ?_
  obtain ⟨u6, hu6, h⟩ := q_bind h
  refine xFz (wc := ([] : va_W)) (w1 := ([] : va_W)) (wr := (w6 cI cJ cZ qS zS zL)) (ws2 := (w6 cI cJ cZ qS zS zL)) (va_runS (As := [.long (Int32.toInt64 a1), .long 0, .long 999]) (rest := []) ⟨hx, hb, hml, hown, htl⟩ (c_X6_in l D cI cJ cZ n  H.size  (Int32.toInt64 a1) 0 999 u6 hu6) (va_cwS 3 htl (gS W_130 W_131 W_5 W_132) rfl rfl rfl (by decide +kernel) ⟨Nat.le_of_ble_eq_true rfl, Nat.le_of_ble_eq_true rfl⟩) (xPS xP0 (xD0 A) hK hN) rfl rfl hl.1 rfl (lv_room (Nat.le_of_ble_eq_true rfl)) (dAt zX6_number_0 4 rfl) ⟨Nat.zero_le _, Nat.zero_le _⟩) hS hA hP hD [] [0, 1, 2, 3, 4, 5, 6, 7, 8, 9, 10, 11, 12, 13, 14, 15, 16] [0, 1, 2, 3, 4, 5, 6, 7, 8, 9, 10, 11, 12, 13, 14, 15, 16] rfl rfl (by decide) (by decide) rfl (by decide) (fun H locs hz6 hP hD hS => ?_)
  refine lv_if_eq (tgt := 22) hx hb (dAt zX6_number_0 5 rfl) (by decide) (fun c_9 => ?_) (fun c_9 => ?_)
  · have h := q_pos c_9 h
    refine lv_bipush (v := (-2)) hx hb (dAt zX6_number_0 12 rfl) (by decide) ?_
    obtain rfl := q_some h
    exact xRi hx hb hr hlocks hQ hAe hP hD hK hS rfl (dAt zX6_number_0 13 rfl)
  · have h := q_neg c_9 h
    refine lv_iload_n hx hb (dAt zX6_number_0 6 rfl) rfl (lv_at hl 2 rfl) ?_
    refine lv_i2l (v := (Int32.toInt64 a2)) hx hb (dAt zX6_number_0 7 rfl) rfl ?_
    refine lv_lconst (v := 0) hx hb (dAt zX6_number_0 8 rfl) (by decide) ?_
    refine lv_lconst (v := 1) hx hb (dAt zX6_number_0 9 rfl) (by decide) ?_
    obtain ⟨u16, hu16, h⟩ := q_bind h
    refine xFz (wc := ([] : va_W)) (w1 := ([] : va_W)) (wr := (w6 cI cJ cZ qS zS zL)) (ws2 := (w6 cI cJ cZ qS zS zL)) (va_runS (As := [.long (Int32.toInt64 a2), .long 0, .long 1]) (rest := []) ⟨hx, hb, hml, hown, htl⟩ (c_X6_in l D cI cJ cZ n  H.size  (Int32.toInt64 a2) 0 1 u16 hu16) (va_cwS 3 htl (gS W_130 W_131 W_5 W_132) rfl rfl rfl (by decide +kernel) ⟨Nat.le_of_ble_eq_true rfl, Nat.le_of_ble_eq_true rfl⟩) (xPS xP0 (xD0 A) hK hN) rfl rfl hl.1 rfl (lv_room (Nat.le_of_ble_eq_true rfl)) (dAt zX6_number_0 10 rfl) ⟨Nat.zero_le _, Nat.zero_le _⟩) hS hA hP hD [] [0, 1, 2, 3, 4, 5, 6, 7, 8, 9, 10, 11, 12, 13, 14, 15, 16] [0, 1, 2, 3, 4, 5, 6, 7, 8, 9, 10, 11, 12, 13, 14, 15, 16] rfl rfl (by decide) (by decide) rfl (by decide) (fun H locs hz16 hP hD hS => ?_)
    refine lv_if_ne (tgt := 25) hx hb (dAt zX6_number_0 11 rfl) (by decide) (fun c_19 => ?_) (fun c_19 => ?_)
    · have h := q_neg c_19 h
      refine lv_iconst (v := 0) hx hb (dAt zX6_number_0 14 rfl) (by decide) ?_
      refine lv_istore_n (lv' := [(3, .int 0), (0, .ref (qS 0)), (1, .int a1), (2, .int a2)]) hx hb (dAt zX6_number_0 15 rfl) rfl hl (by decide) rfl (fun ls hl => ?_)
      have L_27 : ∀ (j_27 : Nat) (v3_27 : Int32) (zS_27 : TI) (H : Heap) (locs : List Loc) (ls : Array Slot), loopF (b_X6_number_27 n zL a1 a2) j_27 (v3_27, zS_27) = some out → va_P D vwCl (w6 cI cJ cZ qS zS_27 zL) H → va_D A (w6 cI cJ cZ qS zS_27 zL) → va_S A s.heap H locs → lv_has ls 4 [(0, .ref (qS 0)), (1, .int a1), (2, .int a2), (3, .int v3_27)] → W p l e { frames := 1, cells := 0, slots := 0, locals := 25 } s m args below meth c H locs 0 0 Q (F0 m 27 ls []) := by
        intro j_27
        induction j_27 with
        | zero => intro v3_27 zS_27 H locs ls h hP hD hS hl; exact loopF_0 h
        | succ j_27 ih_27 =>
          intro v3_27 zS_27 H locs ls h hP hD hS hl
          have h := loopF_s h
          unfold b_X6_number_27 at h
          refine lv_iload_n hx hb (dAt zX6_number_0 16 rfl) rfl (lv_at hl 3 rfl) ?_
          refine lv_iload_n hx hb (dAt zX6_number_0 17 rfl) rfl (lv_at hl 1 rfl) ?_
          refine lv_icmp_gt (tgt := 49) hx hb (dAt zX6_number_0 18 rfl) (by decide) (fun c_29 => ?_) (fun c_29 => ?_)
          · have h := q_pos c_29 h
            refine lv_aload_n hx hb (dAt zX6_number_0 28 rfl) rfl (lv_at hl 0 rfl) ?_
            refine va_get (D := D) (ci := 6) (v := .ref (qS 28)) (C := RX6) (T := TX6) (N := 32) hx hb htl inlX6 hown hK hP 0 rfl rfl 27 (by decide) (htl _ W_98) (fun _ h9 => h9) rfl (dAt zX6_number_0 29 rfl) ?_
            refine lv_iload_n hx hb (dAt zX6_number_0 30 rfl) rfl (lv_at hl 1 rfl) ?_
            obtain ⟨hi_54, h⟩ := q_in h
            refine va_iald hx hb hK hP 14 0 rfl rfl hi_54 (dAt zX6_number_0 31 rfl) ?_
            refine lv_istore_n (lv' := [(3, .int ((zS_27 28) (Int32.toNatClampNeg a1))), (0, .ref (qS 0)), (1, .int a1), (2, .int a2)]) hx hb (dAt zX6_number_0 32 rfl) rfl hl (by decide) rfl (fun ls hl => ?_)
            refine lv_iload_n hx hb (dAt zX6_number_0 33 rfl) rfl (lv_at hl 3 rfl) ?_
            refine lv_if_ne (tgt := 72) hx hb (dAt zX6_number_0 34 rfl) (by decide) (fun c_57 => ?_) (fun c_57 => ?_)
            · have h := q_neg c_57 h
              refine lv_iload_n hx hb (dAt zX6_number_0 41 rfl) rfl (lv_at hl 0 rfl) ?_
              refine lv_if_le (tgt := 80) hx hb (dAt zX6_number_0 42 rfl) (by decide) (fun c_73 => ?_) (fun c_73 => ?_)
              · have h := q_pos c_73 h
                refine lv_bipush (v := (-6)) hx hb (dAt zX6_number_0 45 rfl) (by decide) ?_
                obtain rfl := q_some h
                exact xRi hx hb hr hlocks hQ hAe hP hD hK hS rfl (dAt zX6_number_0 46 rfl)
              · have h := q_neg c_73 h
                refine lv_iload_n hx hb (dAt zX6_number_0 43 rfl) rfl (lv_at hl 0 rfl) ?_
                refine lv_goto (tgt := 82) hx hb (dAt zX6_number_0 44 rfl) (by decide) ?_
                obtain rfl := q_some h
                exact xRi hx hb hr hlocks hQ hAe hP hD hK hS rfl (dAt zX6_number_0 46 rfl)
            · have h := q_pos c_57 h
              refine lv_iload_n hx hb (dAt zX6_number_0 35 rfl) rfl (lv_at hl 0 rfl) ?_
              refine lv_if_le (tgt := 68) hx hb (dAt zX6_number_0 36 rfl) (by decide) (fun c_61 => ?_) (fun c_61 => ?_)
              · have h := q_pos c_61 h
                refine lv_iconst (v := 0) hx hb (dAt zX6_number_0 39 rfl) (by decide) ?_
                refine lv_goto (tgt := 82) hx hb (dAt zX6_number_0 40 rfl) (by decide) ?_
                obtain rfl := q_some h
                exact xRi hx hb hr hlocks hQ hAe hP hD hK hS rfl (dAt zX6_number_0 46 rfl)
              · have h := q_neg c_61 h
                refine lv_iconst (v := 1) hx hb (dAt zX6_number_0 37 rfl) (by decide) ?_
                refine lv_goto (tgt := 82) hx hb (dAt zX6_number_0 38 rfl) (by decide) ?_
                obtain rfl := q_some h
                exact xRi hx hb hr hlocks hQ hAe hP hD hK hS rfl (dAt zX6_number_0 46 rfl)
          · have h := q_neg c_29 h
            refine lv_aload_n hx hb (dAt zX6_number_0 19 rfl) rfl (lv_at hl 0 rfl) ?_
            refine va_get (D := D) (ci := 6) (v := .ref (qS 28)) (C := RX6) (T := TX6) (N := 32) hx hb htl inlX6 hown hK hP 0 rfl rfl 27 (by decide) (htl _ W_98) (fun _ h9 => h9) rfl (dAt zX6_number_0 20 rfl) ?_
            refine lv_iload_n hx hb (dAt zX6_number_0 21 rfl) rfl (lv_at hl 3 rfl) ?_
            refine lv_aload_n hx hb (dAt zX6_number_0 22 rfl) rfl (lv_at hl 0 rfl) ?_
            refine lv_iload_n hx hb (dAt zX6_number_0 23 rfl) rfl (lv_at hl 3 rfl) ?_
            obtain ⟨u39, hu39, h⟩ := q_bind h
            refine xFi (wc := (w6 cI cJ cZ qS zS_27 zL)) (w1 := (w6 cI cJ cZ qS zS_27 zL)) (wr := ([] : va_W)) (ws2 := (w6 cI cJ cZ qS zS_27 zL)) (va_runV (As := [.int v3_27]) (rest := [.int v3_27, .ref (qS 28)]) ⟨hx, hb, hml, hown, htl⟩ (c_X6_bestTake l D cI cJ cZ n qS H.size zS_27 zL v3_27 u39 hu39) (cwV 1 htl (gV W_748 W_749 W_750 W_5 W_751) rfl rfl rfl (by decide +kernel) ⟨Nat.le_of_ble_eq_true rfl, Nat.le_of_ble_eq_true rfl⟩) (xPV hP hD hK hN 0 rfl rfl) rfl rfl hl.1 rfl (lv_room (Nat.le_of_ble_eq_true rfl)) (dAt zX6_number_0 24 rfl) ⟨Nat.zero_le _, Nat.zero_le _⟩) hS hA hP hD [0, 1, 2, 3, 4, 5, 6, 7, 8, 9, 10, 11, 12, 13, 14, 15, 16] [] [0, 1, 2, 3, 4, 5, 6, 7, 8, 9, 10, 11, 12, 13, 14, 15, 16] rfl rfl (by decide) (by decide) rfl (by decide) (fun H locs hP hD hS => ?_)
            obtain ⟨hi_42, h⟩ := q_in h
            refine va_iast hx hb hK hP hD hS 14 0 rfl rfl hi_42 (dAt zX6_number_0 25 rfl) (fun H locs hP hD hS => ?_)
            have hP : va_P D vwCl (w6x cI cJ cZ qS (zS_27 0 0) (zS_27 0 1) (zS_27 0 2) (zS_27 0 8) (zS_27 0 10) (zS_27 0 14) (zS_27 0 15) (zS_27 0 16) (zS_27 0 17) (zS_27 0 19) (zS_27 0 20) (zS_27 0 21) (zS_27 0 22) (zS_27 0 23) (zS_27 0 30) (zS_27 0 31) (zS_27 4) (zS_27 5) (zS_27 6) (zS_27 7) (zS_27 8) (zS_27 10) (zS_27 12) (zS_27 13) (zS_27 14) (zS_27 19) (zS_27 25) (zS_27 26) (zL 27) (upd (zS_27 28) (Int32.toNatClampNeg v3_27) u39) (zS_27 29) (zS_27 30)) H := hP
            have hD : va_D A (w6x cI cJ cZ qS (zS_27 0 0) (zS_27 0 1) (zS_27 0 2) (zS_27 0 8) (zS_27 0 10) (zS_27 0 14) (zS_27 0 15) (zS_27 0 16) (zS_27 0 17) (zS_27 0 19) (zS_27 0 20) (zS_27 0 21) (zS_27 0 22) (zS_27 0 23) (zS_27 0 30) (zS_27 0 31) (zS_27 4) (zS_27 5) (zS_27 6) (zS_27 7) (zS_27 8) (zS_27 10) (zS_27 12) (zS_27 13) (zS_27 14) (zS_27 19) (zS_27 25) (zS_27 26) (zL 27) (upd (zS_27 28) (Int32.toNatClampNeg v3_27) u39) (zS_27 29) (zS_27 30)) := hD
            refine lv_iinc (v := (v3_27 + 1)) (lv' := [(3, .int (v3_27 + 1)), (0, .ref (qS 0)), (1, .int a1), (2, .int a2)]) hx hb (dAt zX6_number_0 26 rfl) hl (k := 3) rfl rfl (by decide) rfl (fun ls hl => ?_)
            refine lv_goto (tgt := 27) hx hb (dAt zX6_number_0 27 rfl) (by decide) ?_
            have hP : va_P D vwCl (w6 cI cJ cZ qS (upA zS_27 28 (upd (zS_27 28) (Int32.toNatClampNeg v3_27) u39)) zL) H := hP
            have hD : va_D A (w6 cI cJ cZ qS (upA zS_27 28 (upd (zS_27 28) (Int32.toNatClampNeg v3_27) u39)) zL) := hD
            exact ih_27 (v3_27 + 1) (upA zS_27 28 (upd (zS_27 28) (Int32.toNatClampNeg v3_27) u39)) _ _ _ h hP hD hS (lv_sub hl [1, 2, 3, 0] rfl)
      exact L_27 n 0 zS _ _ _ h hP hD hS (lv_sub hl [1, 2, 3, 0] rfl)
    · have h := q_pos c_19 h
      refine lv_bipush (v := (-2)) hx hb (dAt zX6_number_0 12 rfl) (by decide) ?_
      obtain rfl := q_some h
      exact xRi hx hb hr hlocks hQ hAe hP hD hK hS rfl (dAt zX6_number_0 13 rfl)
def m_X6_actBy (n : Nat) (a1 : Int32) : Option Int32 := (if 2 ≤ a1 then (if a1 = 2 then some 1 else (if a1 = 3 then some 2 else (if 6 ≤ a1 then (if a1 = 6 then some 5 else some 6) else some 4))) else some 0)
set_option maxHeartbeats 4000000 in
set_option maxRecDepth 100000 in
theorem c_X6_actBy (l : Launch) (D : va_G) (cI cJ cZ : ClassId) (n : Nat)  (sz : Nat) (a1 : Int32) (out : Int32) (hm : m_X6_actBy n a1 = some out) : Met l yX6_actBy (wsM yX6_actBy cX6_actBy 1 (some .int)) { frames := 0, cells := 0, slots := 0, locals := 0 } (xPre D (kT cI cJ cZ) ([] : va_W) sz [.int a1]) (xQi D (kT cI cJ cZ) ([] : va_W) ([] : va_W) sz out) 0 0 (va_A ([] : va_W) sz) := by
  refine Met.ofW (cc := cX6_actBy) (maxL := 1) (ret := (some .int)) (by decide) rfl ?_
  intro p e s m args below meth c s₁ B hml hv
  obtain ⟨hv, hsz, hP, hK, hD0, hN⟩ := hv
  have hx := B.exec; have hb := B.bytes; have hr := B.returns
  have hts := atoms_spec (ws := (wsM yX6_actBy cX6_actBy 1 (some .int))) B.pre
  have hown : s.vm.findClass RX6 = some m.cls := findClass_of_methodNamed B.named
  have hlocks := B.notSynchronized
  subst hsz
  have hD := hD0.self (sz := s.heap.size)
  obtain ⟨A, hAe⟩ : ∃ A, A = va_A ([] : va_W) s.heap.size := ⟨_, rfl⟩
  rw [← hAe] at hD
  have hA : ∀ q : Nat, s.heap.size ≤ q → A q := fun q h => by rw [hAe]; exact Or.inr h
  have htl : ∀ w ∈ wsL_law, w.before args s = true := fun w h => hts w (List.mem_cons_of_mem _ h)
  refine xHead (R' := { frames := 0, cells := 0, slots := 0, locals := 0 }) rfl (fun Q H hQ hH => ?_)
  have hP : va_P D vwCl ([] : va_W) H := by rw [hH]; exact hP
  have hS : va_S A s.heap H [] := by rw [hH]; exact va_S.rf
  refine xStart hv (Nat.le_of_ble_eq_true rfl) (lv := [(0, .int a1)]) rfl (fun ls hl => ?_)
  have h := hm
  unfold m_X6_actBy at h
  refine lv_iload_n hx hb (dAt zX6_actBy_0 0 rfl) rfl (lv_at hl 0 rfl) ?_
  refine lv_iconst (v := 2) hx hb (dAt zX6_actBy_0 1 rfl) (by decide) ?_
  refine lv_icmp_ge (tgt := 9) hx hb (dAt zX6_actBy_0 2 rfl) (by decide) (fun c_2 => ?_) (fun c_2 => ?_)
  · have h := q_pos c_2 h
    refine lv_iload_n hx hb (dAt zX6_actBy_0 5 rfl) rfl (lv_at hl 0 rfl) ?_
    refine lv_iconst (v := 2) hx hb (dAt zX6_actBy_0 6 rfl) (by decide) ?_
    refine lv_icmp_ne (tgt := 18) hx hb (dAt zX6_actBy_0 7 rfl) (by decide) (fun c_11 => ?_) (fun c_11 => ?_)
    · have h := q_neg c_11 h
      refine lv_iload_n hx hb (dAt zX6_actBy_0 10 rfl) rfl (lv_at hl 0 rfl) ?_
      refine lv_iconst (v := 3) hx hb (dAt zX6_actBy_0 11 rfl) (by decide) ?_
      refine lv_icmp_ne (tgt := 27) hx hb (dAt zX6_actBy_0 12 rfl) (by decide) (fun c_20 => ?_) (fun c_20 => ?_)
      · have h := q_neg c_20 h
        refine lv_iload_n hx hb (dAt zX6_actBy_0 15 rfl) rfl (lv_at hl 0 rfl) ?_
        refine lv_bipush (v := 6) hx hb (dAt zX6_actBy_0 16 rfl) (by decide) ?_
        refine lv_icmp_ge (tgt := 37) hx hb (dAt zX6_actBy_0 17 rfl) (by decide) (fun c_30 => ?_) (fun c_30 => ?_)
        · have h := q_pos c_30 h
          refine lv_iload_n hx hb (dAt zX6_actBy_0 20 rfl) rfl (lv_at hl 0 rfl) ?_
          refine lv_bipush (v := 6) hx hb (dAt zX6_actBy_0 21 rfl) (by decide) ?_
          refine lv_icmp_ne (tgt := 47) hx hb (dAt zX6_actBy_0 22 rfl) (by decide) (fun c_40 => ?_) (fun c_40 => ?_)
          · have h := q_neg c_40 h
            refine lv_bipush (v := 6) hx hb (dAt zX6_actBy_0 25 rfl) (by decide) ?_
            obtain rfl := q_some h
            exact xRi hx hb hr hlocks hQ hAe hP hD hK hS rfl (dAt zX6_actBy_0 26 rfl)
          · have h := q_pos c_40 h
            refine lv_iconst (v := 5) hx hb (dAt zX6_actBy_0 23 rfl) (by decide) ?_
            refine lv_goto (tgt := 49) hx hb (dAt zX6_actBy_0 24 rfl) (by decide) ?_
            obtain rfl := q_some h
            exact xRi hx hb hr hlocks hQ hAe hP hD hK hS rfl (dAt zX6_actBy_0 26 rfl)
        · have h := q_neg c_30 h
          refine lv_iconst (v := 4) hx hb (dAt zX6_actBy_0 18 rfl) (by decide) ?_
          refine lv_goto (tgt := 49) hx hb (dAt zX6_actBy_0 19 rfl) (by decide) ?_
          obtain rfl := q_some h
          exact xRi hx hb hr hlocks hQ hAe hP hD hK hS rfl (dAt zX6_actBy_0 26 rfl)
      · have h := q_pos c_20 h
        refine lv_iconst (v := 2) hx hb (dAt zX6_actBy_0 13 rfl) (by decide) ?_
        refine lv_goto (tgt := 49) hx hb (dAt zX6_actBy_0 14 rfl) (by decide) ?_
        obtain rfl := q_some h
        exact xRi hx hb hr hlocks hQ hAe hP hD hK hS rfl (dAt zX6_actBy_0 26 rfl)
    · have h := q_pos c_11 h
      refine lv_iconst (v := 1) hx hb (dAt zX6_actBy_0 8 rfl) (by decide) ?_
      refine lv_goto (tgt := 49) hx hb (dAt zX6_actBy_0 9 rfl) (by decide) ?_
      obtain rfl := q_some h
      exact xRi hx hb hr hlocks hQ hAe hP hD hK hS rfl (dAt zX6_actBy_0 26 rfl)
  · have h := q_neg c_2 h
    refine lv_iconst (v := 0) hx hb (dAt zX6_actBy_0 3 rfl) (by decide) ?_
    refine lv_goto (tgt := 49) hx hb (dAt zX6_actBy_0 4 rfl) (by decide) ?_
    obtain rfl := q_some h
    exact xRi hx hb hr hlocks hQ hAe hP hD hK hS rfl (dAt zX6_actBy_0 26 rfl)
def b_X6_year_54 (n : Nat) (zL : TL) (a2 : Int32) (a3 : Int32) (s_54 : Int32 × Int32 × TI) (k_54 : Int32 × Int32 × TI → Option (Int32 × TI)) : Option (Int32 × TI) := (if a2 ≤ s_54.2.1 then (if a3 = 0 then ((m_X6_ones n  (s_54.2.2 0 0)).bind fun u145 => ((m_X6_back n s_54.2.2 zL u145).bind fun u180 => some (u180.1, u180.2))) else (if a3 = 1 then ((m_X6_tiesBetween n s_54.2.2 zL 1023 1023).bind fun u163 => ((m_X6_back n s_54.2.2 zL (u163 / (2 : Int32))).bind fun u180 => some (u180.1, u180.2))) else ((m_X6_back n s_54.2.2 zL (s_54.2.2 0 16)).bind fun u180 => some (u180.1, u180.2)))) else ((m_X6_actBy n  (jrem ((Int64.toInt32 (jremL (((75 : Int64) * (Int32.toInt64 s_54.1)) + (74 : Int64)) (65537 : Int64))) / (100 : Int32)) (8 : Int32))).bind fun u86 => ((m_X6_whyNot n s_54.2.2 zL u86 (jrem (Int64.toInt32 (jremL (((75 : Int64) * (Int32.toInt64 s_54.1)) + (74 : Int64)) (65537 : Int64))) (10 : Int32)) (jrem ((Int64.toInt32 (jremL (((75 : Int64) * (Int32.toInt64 s_54.1)) + (74 : Int64)) (65537 : Int64))) / (10 : Int32)) (10 : Int32))).bind fun u115 => (if u115 = 0 then ((m_X6_happen n s_54.2.2 zL u86 (jrem (Int64.toInt32 (jremL (((75 : Int64) * (Int32.toInt64 s_54.1)) + (74 : Int64)) (65537 : Int64))) (10 : Int32)) (jrem ((Int64.toInt32 (jremL (((75 : Int64) * (Int32.toInt64 s_54.1)) + (74 : Int64)) (65537 : Int64))) / (10 : Int32)) (10 : Int32))).bind fun u128 => (k_54 ((Int64.toInt32 (jremL (((75 : Int64) * (Int32.toInt64 s_54.1)) + (74 : Int64)) (65537 : Int64))), (s_54.2.1 + 1), u128))) else (k_54 ((Int64.toInt32 (jremL (((75 : Int64) * (Int32.toInt64 s_54.1)) + (74 : Int64)) (65537 : Int64))), (s_54.2.1 + 1), s_54.2.2))))))
def m_X6_year (n : Nat) (zS : TI) (zL : TL) (a1 : Int32) (a2 : Int32) (a3 : Int32) : Option (Int32 × TI) := ((m_X6_in n  (Int32.toInt64 a1) 0 9999).bind fun u6 => (if u6 = 0 then some ((-2), zS) else ((m_X6_in n  (Int32.toInt64 a2) 1 99).bind fun u18 => (if u18 = 0 then some ((-2), zS) else ((m_X6_in n  (Int32.toInt64 a3) 0 2).bind fun u30 => (if u30 = 0 then some ((-2), zS) else ((m_X6_keepNow n zS zL).bind fun u40 => (loopF (b_X6_year_54 n zL a2 a3 ) n (a1, 0, (sf u40 16 0))))))))))
set_option maxHeartbeats 4000000 in
set_option maxRecDepth 100000 in
theorem c_X6_year (l : Launch) (D : va_G) (cI cJ cZ : ClassId) (n : Nat) (qS : Nat → Nat) (sz : Nat) (zS : TI) (zL : TL) (a1 : Int32) (a2 : Int32) (a3 : Int32) (out : Int32 × TI) (hm : m_X6_year n zS zL a1 a2 a3 = some out) : Met l yX6_year (wsM yX6_year cX6_year 9 (some .int)) { frames := 6, cells := 0, slots := 0, locals := 136 } (xPre D (kT cI cJ cZ) (w6 cI cJ cZ qS zS zL) sz [.ref (qS 0), .int a1, .int a2, .int a3]) (xQi D (kT cI cJ cZ) (w6 cI cJ cZ qS zS zL) (w6 cI cJ cZ qS out.2 zL) sz out.1) 0 0 (va_A (w6 cI cJ cZ qS zS zL) sz) := by
  refine Met.ofW (cc := cX6_year) (maxL := 9) (ret := (some .int)) (by decide) rfl ?_
  intro p e s m args below meth c s₁ B hml hv
  obtain ⟨hv, hsz, hP, hK, hD0, hN⟩ := hv
  have hx := B.exec; have hb := B.bytes; have hr := B.returns
  have hts := atoms_spec (ws := (wsM yX6_year cX6_year 9 (some .int))) B.pre
  have hown : s.vm.findClass RX6 = some m.cls := findClass_of_methodNamed B.named
  have hlocks := B.notSynchronized
  subst hsz
  have hD := hD0.self (sz := s.heap.size)
  obtain ⟨A, hAe⟩ : ∃ A, A = va_A (w6 cI cJ cZ qS zS zL) s.heap.size := ⟨_, rfl⟩
  rw [← hAe] at hD
  have hA : ∀ q : Nat, s.heap.size ≤ q → A q := fun q h => by rw [hAe]; exact Or.inr h
  have htl : ∀ w ∈ wsL_law, w.before args s = true := fun w h => hts w (List.mem_cons_of_mem _ h)
  refine xHead (R' := { frames := 6, cells := 0, slots := 0, locals := 136 }) rfl (fun Q H hQ hH => ?_)
  have hP : va_P D vwCl (w6 cI cJ cZ qS zS zL) H := by rw [hH]; exact hP
  have hS : va_S A s.heap H [] := by rw [hH]; exact va_S.rf
  refine xStart hv (Nat.le_of_ble_eq_true rfl) (lv := [(0, .ref (qS 0)), (1, .int a1), (2, .int a2), (3, .int a3)]) rfl (fun ls hl => ?_)
  have h := hm
  unfold m_X6_year at h
  refine lv_iload_n hx hb (dAt zX6_year_0 0 rfl) rfl (lv_at hl 1 rfl) ?_
  refine lv_i2l (v := (Int32.toInt64 a1)) hx hb (dAt zX6_year_0 1 rfl) rfl ?_
  refine lv_lconst (v := 0) hx hb (dAt zX6_year_0 2 rfl) (by decide) ?_
  refine lv_ldc2 (v := 9999) hx hb hown (htl _ W_771) (dAt zX6_year_0 3 rfl) ?_
  obtain ⟨u6, hu6, h⟩ := q_bind h
  refine xFz (wc := ([] : va_W)) (w1 := ([] : va_W)) (wr := (w6 cI cJ cZ qS zS zL)) (ws2 := (w6 cI cJ cZ qS zS zL)) (va_runS (As := [.long (Int32.toInt64 a1), .long 0, .long 9999]) (rest := []) ⟨hx, hb, hml, hown, htl⟩ (c_X6_in l D cI cJ cZ n  H.size  (Int32.toInt64 a1) 0 9999 u6 hu6) (va_cwS 3 htl (gS W_130 W_131 W_5 W_132) rfl rfl rfl (by decide +kernel) ⟨Nat.le_of_ble_eq_true rfl, Nat.le_of_ble_eq_true rfl⟩) (xPS xP0 (xD0 A) hK hN) rfl rfl hl.1 rfl (lv_room (Nat.le_of_ble_eq_true rfl)) (dAt zX6_year_0 4 rfl) ⟨Nat.zero_le _, Nat.zero_le _⟩) hS hA hP hD [] [0, 1, 2, 3, 4, 5, 6, 7, 8, 9, 10, 11, 12, 13, 14, 15, 16] [0, 1, 2, 3, 4, 5, 6, 7, 8, 9, 10, 11, 12, 13, 14, 15, 16] rfl rfl (by decide) (by decide) rfl (by decide) (fun H locs hz6 hP hD hS => ?_)
  refine lv_if_eq (tgt := 36) hx hb (dAt zX6_year_0 5 rfl) (by decide) (fun c_9 => ?_) (fun c_9 => ?_)
  · have h := q_pos c_9 h
    refine lv_bipush (v := (-2)) hx hb (dAt zX6_year_0 18 rfl) (by decide) ?_
    obtain rfl := q_some h
    exact xRi hx hb hr hlocks hQ hAe hP hD hK hS rfl (dAt zX6_year_0 19 rfl)
  · have h := q_neg c_9 h
    refine lv_iload_n hx hb (dAt zX6_year_0 6 rfl) rfl (lv_at hl 2 rfl) ?_
    refine lv_i2l (v := (Int32.toInt64 a2)) hx hb (dAt zX6_year_0 7 rfl) rfl ?_
    refine lv_lconst (v := 1) hx hb (dAt zX6_year_0 8 rfl) (by decide) ?_
    refine lv_ldc2 (v := 99) hx hb hown (htl _ W_772) (dAt zX6_year_0 9 rfl) ?_
    obtain ⟨u18, hu18, h⟩ := q_bind h
    refine xFz (wc := ([] : va_W)) (w1 := ([] : va_W)) (wr := (w6 cI cJ cZ qS zS zL)) (ws2 := (w6 cI cJ cZ qS zS zL)) (va_runS (As := [.long (Int32.toInt64 a2), .long 1, .long 99]) (rest := []) ⟨hx, hb, hml, hown, htl⟩ (c_X6_in l D cI cJ cZ n  H.size  (Int32.toInt64 a2) 1 99 u18 hu18) (va_cwS 3 htl (gS W_130 W_131 W_5 W_132) rfl rfl rfl (by decide +kernel) ⟨Nat.le_of_ble_eq_true rfl, Nat.le_of_ble_eq_true rfl⟩) (xPS xP0 (xD0 A) hK hN) rfl rfl hl.1 rfl (lv_room (Nat.le_of_ble_eq_true rfl)) (dAt zX6_year_0 10 rfl) ⟨Nat.zero_le _, Nat.zero_le _⟩) hS hA hP hD [] [0, 1, 2, 3, 4, 5, 6, 7, 8, 9, 10, 11, 12, 13, 14, 15, 16] [0, 1, 2, 3, 4, 5, 6, 7, 8, 9, 10, 11, 12, 13, 14, 15, 16] rfl rfl (by decide) (by decide) rfl (by decide) (fun H locs hz18 hP hD hS => ?_)
    refine lv_if_eq (tgt := 36) hx hb (dAt zX6_year_0 11 rfl) (by decide) (fun c_21 => ?_) (fun c_21 => ?_)
    · have h := q_pos c_21 h
      refine lv_bipush (v := (-2)) hx hb (dAt zX6_year_0 18 rfl) (by decide) ?_
      obtain rfl := q_some h
      exact xRi hx hb hr hlocks hQ hAe hP hD hK hS rfl (dAt zX6_year_0 19 rfl)
    · have h := q_neg c_21 h
      refine lv_iload_n hx hb (dAt zX6_year_0 12 rfl) rfl (lv_at hl 3 rfl) ?_
      refine lv_i2l (v := (Int32.toInt64 a3)) hx hb (dAt zX6_year_0 13 rfl) rfl ?_
      refine lv_lconst (v := 0) hx hb (dAt zX6_year_0 14 rfl) (by decide) ?_
      refine lv_ldc2 (v := 2) hx hb hown (htl _ W_375) (dAt zX6_year_0 15 rfl) ?_
      obtain ⟨u30, hu30, h⟩ := q_bind h
      refine xFz (wc := ([] : va_W)) (w1 := ([] : va_W)) (wr := (w6 cI cJ cZ qS zS zL)) (ws2 := (w6 cI cJ cZ qS zS zL)) (va_runS (As := [.long (Int32.toInt64 a3), .long 0, .long 2]) (rest := []) ⟨hx, hb, hml, hown, htl⟩ (c_X6_in l D cI cJ cZ n  H.size  (Int32.toInt64 a3) 0 2 u30 hu30) (va_cwS 3 htl (gS W_130 W_131 W_5 W_132) rfl rfl rfl (by decide +kernel) ⟨Nat.le_of_ble_eq_true rfl, Nat.le_of_ble_eq_true rfl⟩) (xPS xP0 (xD0 A) hK hN) rfl rfl hl.1 rfl (lv_room (Nat.le_of_ble_eq_true rfl)) (dAt zX6_year_0 16 rfl) ⟨Nat.zero_le _, Nat.zero_le _⟩) hS hA hP hD [] [0, 1, 2, 3, 4, 5, 6, 7, 8, 9, 10, 11, 12, 13, 14, 15, 16] [0, 1, 2, 3, 4, 5, 6, 7, 8, 9, 10, 11, 12, 13, 14, 15, 16] rfl rfl (by decide) (by decide) rfl (by decide) (fun H locs hz30 hP hD hS => ?_)
      refine lv_if_ne (tgt := 39) hx hb (dAt zX6_year_0 17 rfl) (by decide) (fun c_33 => ?_) (fun c_33 => ?_)
      · have h := q_neg c_33 h
        refine lv_aload_n hx hb (dAt zX6_year_0 20 rfl) rfl (lv_at hl 0 rfl) ?_
        obtain ⟨u40, hu40, h⟩ := q_bind h
        refine xFv (wc := (w6 cI cJ cZ qS zS zL)) (w1 := (w6 cI cJ cZ qS u40 zL)) (wr := ([] : va_W)) (ws2 := (w6 cI cJ cZ qS u40 zL)) (va_runV (As := []) (rest := []) ⟨hx, hb, hml, hown, htl⟩ (c_X6_keepNow l D cI cJ cZ n qS H.size zS zL  u40 hu40) (cwV 0 htl (gV W_383 W_384 W_385 W_5 W_386) rfl rfl rfl (by decide +kernel) ⟨Nat.le_of_ble_eq_true rfl, Nat.le_of_ble_eq_true rfl⟩) (xPV hP hD hK hN 0 rfl rfl) rfl rfl hl.1 rfl (lv_room (Nat.le_of_ble_eq_true rfl)) (dAt zX6_year_0 21 rfl) ⟨Nat.zero_le _, Nat.zero_le _⟩) hS hA hP hD [0, 1, 2, 3, 4, 5, 6, 7, 8, 9, 10, 11, 12, 13, 14, 15, 16] [] [0, 1, 2, 3, 4, 5, 6, 7, 8, 9, 10, 11, 12, 13, 14, 15, 16] rfl rfl (by decide) (by decide) rfl (by decide) (fun H locs hP hD hS => ?_)
        refine lv_aload_n hx hb (dAt zX6_year_0 22 rfl) rfl (lv_at hl 0 rfl) ?_
        refine lv_iconst (v := 0) hx hb (dAt zX6_year_0 23 rfl) (by decide) ?_
        refine va_put (D := D) (ci := 6) (v := .int 0) (ty := .int) (C := RX6) (T := TX6) (N := 32) hx hb htl inlX6 tyX6 tyX6_ok nmX6 hown hK hP hD hS 0 rfl rfl 16 (by decide) (htl _ W_392) (fun _ h9 => h9) rfl (by decide +kernel) rfl rfl (Nat.le_of_ble_eq_true rfl) (dAt zX6_year_0 24 rfl) (fun H locs hP hD hS => ?_)
        have hP : va_P D vwCl (w6x cI cJ cZ qS (u40 0 0) (u40 0 1) (u40 0 2) (u40 0 8) (u40 0 10) (u40 0 14) (u40 0 15) 0 (u40 0 17) (u40 0 19) (u40 0 20) (u40 0 21) (u40 0 22) (u40 0 23) (u40 0 30) (u40 0 31) (u40 4) (u40 5) (u40 6) (u40 7) (u40 8) (u40 10) (u40 12) (u40 13) (u40 14) (u40 19) (u40 25) (u40 26) (zL 27) (u40 28) (u40 29) (u40 30)) H := hP
        have hD : va_D A (w6x cI cJ cZ qS (u40 0 0) (u40 0 1) (u40 0 2) (u40 0 8) (u40 0 10) (u40 0 14) (u40 0 15) 0 (u40 0 17) (u40 0 19) (u40 0 20) (u40 0 21) (u40 0 22) (u40 0 23) (u40 0 30) (u40 0 31) (u40 4) (u40 5) (u40 6) (u40 7) (u40 8) (u40 10) (u40 12) (u40 13) (u40 14) (u40 19) (u40 25) (u40 26) (zL 27) (u40 28) (u40 29) (u40 30)) := hD
        refine lv_iload_n hx hb (dAt zX6_year_0 25 rfl) rfl (lv_at hl 1 rfl) ?_
        refine lv_istore (lv' := [(4, .int a1), (0, .ref (qS 0)), (1, .int a1), (2, .int a2), (3, .int a3)]) hx hb (dAt zX6_year_0 26 rfl) hl (by decide) rfl (fun ls hl => ?_)
        refine lv_iconst (v := 0) hx hb (dAt zX6_year_0 27 rfl) (by decide) ?_
        refine lv_istore (lv' := [(5, .int 0), (4, .int a1), (0, .ref (qS 0)), (1, .int a1), (2, .int a2), (3, .int a3)]) hx hb (dAt zX6_year_0 28 rfl) hl (by decide) rfl (fun ls hl => ?_)
        have hP : va_P D vwCl (w6 cI cJ cZ qS (sf u40 16 0) zL) H := hP
        have hD : va_D A (w6 cI cJ cZ qS (sf u40 16 0) zL) := hD
        have L_54 : ∀ (j_54 : Nat) (v4_54 : Int32) (v5_54 : Int32) (zS_54 : TI) (H : Heap) (locs : List Loc) (ls : Array Slot), loopF (b_X6_year_54 n zL a2 a3) j_54 (v4_54, v5_54, zS_54) = some out → va_P D vwCl (w6 cI cJ cZ qS zS_54 zL) H → va_D A (w6 cI cJ cZ qS zS_54 zL) → va_S A s.heap H locs → lv_has ls 9 [(0, .ref (qS 0)), (2, .int a2), (3, .int a3), (4, .int v4_54), (5, .int v5_54)] → W p l e { frames := 6, cells := 0, slots := 0, locals := 136 } s m args below meth c H locs 0 0 Q (F0 m 54 ls []) := by
          intro j_54
          induction j_54 with
          | zero => intro v4_54 v5_54 zS_54 H locs ls h hP hD hS hl; exact loopF_0 h
          | succ j_54 ih_54 =>
            intro v4_54 v5_54 zS_54 H locs ls h hP hD hS hl
            have h := loopF_s h
            unfold b_X6_year_54 at h
            refine lv_iload hx hb (dAt zX6_year_0 29 rfl) (lv_at hl 4 rfl) ?_
            refine lv_iload_n hx hb (dAt zX6_year_0 30 rfl) rfl (lv_at hl 1 rfl) ?_
            refine lv_icmp_ge (tgt := 137) hx hb (dAt zX6_year_0 31 rfl) (by decide) (fun c_57 => ?_) (fun c_57 => ?_)
            · have h := q_pos c_57 h
              refine lv_iload_n hx hb (dAt zX6_year_0 72 rfl) rfl (lv_at hl 2 rfl) ?_
              refine lv_if_ne (tgt := 151) hx hb (dAt zX6_year_0 73 rfl) (by decide) (fun c_138 => ?_) (fun c_138 => ?_)
              · have h := q_neg c_138 h
                refine lv_iload_n hx hb (dAt zX6_year_0 78 rfl) rfl (lv_at hl 2 rfl) ?_
                refine lv_iconst (v := 1) hx hb (dAt zX6_year_0 79 rfl) (by decide) ?_
                refine lv_icmp_ne (tgt := 171) hx hb (dAt zX6_year_0 80 rfl) (by decide) (fun c_153 => ?_) (fun c_153 => ?_)
                · have h := q_neg c_153 h
                  refine lv_aload_n hx hb (dAt zX6_year_0 88 rfl) rfl (lv_at hl 0 rfl) ?_
                  refine va_get (D := D) (ci := 6) (v := .int (zS_54 0 16)) (C := RX6) (T := TX6) (N := 32) hx hb htl inlX6 hown hK hP 0 rfl rfl 16 (by decide) (htl _ W_392) (fun _ h9 => h9) rfl (dAt zX6_year_0 89 rfl) ?_
                  refine lv_istore (lv' := [(5, .int (zS_54 0 16)), (0, .ref (qS 0)), (2, .int a2), (3, .int a3), (4, .int v4_54)]) hx hb (dAt zX6_year_0 90 rfl) hl (by decide) rfl (fun ls hl => ?_)
                  refine lv_aload_n hx hb (dAt zX6_year_0 91 rfl) rfl (lv_at hl 1 rfl) ?_
                  refine lv_iload hx hb (dAt zX6_year_0 92 rfl) (lv_at hl 0 rfl) ?_
                  obtain ⟨u180, hu180, h⟩ := q_bind h
                  refine xFi (wc := (w6 cI cJ cZ qS zS_54 zL)) (w1 := (w6 cI cJ cZ qS u180.2 zL)) (wr := ([] : va_W)) (ws2 := (w6 cI cJ cZ qS u180.2 zL)) (va_runV (As := [.int (zS_54 0 16)]) (rest := []) ⟨hx, hb, hml, hown, htl⟩ (c_X6_back l D cI cJ cZ n qS H.size zS_54 zL (zS_54 0 16) u180 hu180) (cwV 1 htl (gV W_466 W_467 W_468 W_5 W_469) rfl rfl rfl (by decide +kernel) ⟨Nat.le_of_ble_eq_true rfl, Nat.le_of_ble_eq_true rfl⟩) (xPV hP hD hK hN 0 rfl rfl) rfl rfl hl.1 rfl (lv_room (Nat.le_of_ble_eq_true rfl)) (dAt zX6_year_0 93 rfl) ⟨Nat.zero_le _, Nat.zero_le _⟩) hS hA hP hD [0, 1, 2, 3, 4, 5, 6, 7, 8, 9, 10, 11, 12, 13, 14, 15, 16] [] [0, 1, 2, 3, 4, 5, 6, 7, 8, 9, 10, 11, 12, 13, 14, 15, 16] rfl rfl (by decide) (by decide) rfl (by decide) (fun H locs hP hD hS => ?_)
                  obtain rfl := q_some h
                  exact xRi hx hb hr hlocks hQ hAe hP hD hK hS rfl (dAt zX6_year_0 94 rfl)
                · have h := q_pos c_153 h
                  refine lv_aload_n hx hb (dAt zX6_year_0 81 rfl) rfl (lv_at hl 0 rfl) ?_
                  refine lv_sipush (v := 1023) hx hb (dAt zX6_year_0 82 rfl) (by decide) ?_
                  refine lv_sipush (v := 1023) hx hb (dAt zX6_year_0 83 rfl) (by decide) ?_
                  obtain ⟨u163, hu163, h⟩ := q_bind h
                  refine xFi (wc := (w6 cI cJ cZ qS zS_54 zL)) (w1 := (w6 cI cJ cZ qS zS_54 zL)) (wr := ([] : va_W)) (ws2 := (w6 cI cJ cZ qS zS_54 zL)) (va_runV (As := [.int 1023, .int 1023]) (rest := []) ⟨hx, hb, hml, hown, htl⟩ (c_X6_tiesBetween l D cI cJ cZ n qS H.size zS_54 zL 1023 1023 u163 hu163) (cwV 2 htl (gV W_455 W_456 W_457 W_5 W_458) rfl rfl rfl (by decide +kernel) ⟨Nat.le_of_ble_eq_true rfl, Nat.le_of_ble_eq_true rfl⟩) (xPV hP hD hK hN 0 rfl rfl) rfl rfl hl.1 rfl (lv_room (Nat.le_of_ble_eq_true rfl)) (dAt zX6_year_0 84 rfl) ⟨Nat.zero_le _, Nat.zero_le _⟩) hS hA hP hD [0, 1, 2, 3, 4, 5, 6, 7, 8, 9, 10, 11, 12, 13, 14, 15, 16] [] [0, 1, 2, 3, 4, 5, 6, 7, 8, 9, 10, 11, 12, 13, 14, 15, 16] rfl rfl (by decide) (by decide) rfl (by decide) (fun H locs hP hD hS => ?_)
                  refine lv_iconst (v := 2) hx hb (dAt zX6_year_0 85 rfl) (by decide) ?_
                  refine lv_idiv hx hb (dAt zX6_year_0 86 rfl) (by decide) ?_
                  refine lv_goto (tgt := 175) hx hb (dAt zX6_year_0 87 rfl) (by decide) ?_
                  refine lv_istore (lv' := [(5, .int (u163 / (2 : Int32))), (0, .ref (qS 0)), (2, .int a2), (3, .int a3), (4, .int v4_54)]) hx hb (dAt zX6_year_0 90 rfl) hl (by decide) rfl (fun ls hl => ?_)
                  refine lv_aload_n hx hb (dAt zX6_year_0 91 rfl) rfl (lv_at hl 1 rfl) ?_
                  refine lv_iload hx hb (dAt zX6_year_0 92 rfl) (lv_at hl 0 rfl) ?_
                  obtain ⟨u180, hu180, h⟩ := q_bind h
                  refine xFi (wc := (w6 cI cJ cZ qS zS_54 zL)) (w1 := (w6 cI cJ cZ qS u180.2 zL)) (wr := ([] : va_W)) (ws2 := (w6 cI cJ cZ qS u180.2 zL)) (va_runV (As := [.int (u163 / (2 : Int32))]) (rest := []) ⟨hx, hb, hml, hown, htl⟩ (c_X6_back l D cI cJ cZ n qS H.size zS_54 zL (u163 / (2 : Int32)) u180 hu180) (cwV 1 htl (gV W_466 W_467 W_468 W_5 W_469) rfl rfl rfl (by decide +kernel) ⟨Nat.le_of_ble_eq_true rfl, Nat.le_of_ble_eq_true rfl⟩) (xPV hP hD hK hN 0 rfl rfl) rfl rfl hl.1 rfl (lv_room (Nat.le_of_ble_eq_true rfl)) (dAt zX6_year_0 93 rfl) ⟨Nat.zero_le _, Nat.zero_le _⟩) hS hA hP hD [0, 1, 2, 3, 4, 5, 6, 7, 8, 9, 10, 11, 12, 13, 14, 15, 16] [] [0, 1, 2, 3, 4, 5, 6, 7, 8, 9, 10, 11, 12, 13, 14, 15, 16] rfl rfl (by decide) (by decide) rfl (by decide) (fun H locs hP hD hS => ?_)
                  obtain rfl := q_some h
                  exact xRi hx hb hr hlocks hQ hAe hP hD hK hS rfl (dAt zX6_year_0 94 rfl)
              · have h := q_pos c_138 h
                refine lv_aload_n hx hb (dAt zX6_year_0 74 rfl) rfl (lv_at hl 0 rfl) ?_
                refine va_get (D := D) (ci := 6) (v := .int (zS_54 0 0)) (C := RX6) (T := TX6) (N := 32) hx hb htl inlX6 hown hK hP 0 rfl rfl 0 (by decide) (htl _ W_102) (fun _ h9 => h9) rfl (dAt zX6_year_0 75 rfl) ?_
                obtain ⟨u145, hu145, h⟩ := q_bind h
                refine xFi (wc := ([] : va_W)) (w1 := ([] : va_W)) (wr := (w6 cI cJ cZ qS zS_54 zL)) (ws2 := (w6 cI cJ cZ qS zS_54 zL)) (va_runS (As := [.int (zS_54 0 0)]) (rest := []) ⟨hx, hb, hml, hown, htl⟩ (c_X6_ones l D cI cJ cZ n  H.size  (zS_54 0 0) u145 hu145) (va_cwS 1 htl (gS W_165 W_166 W_5 W_167) rfl rfl rfl (by decide +kernel) ⟨Nat.le_of_ble_eq_true rfl, Nat.le_of_ble_eq_true rfl⟩) (xPS xP0 (xD0 A) hK hN) rfl rfl hl.1 rfl (lv_room (Nat.le_of_ble_eq_true rfl)) (dAt zX6_year_0 76 rfl) ⟨Nat.zero_le _, Nat.zero_le _⟩) hS hA hP hD [] [0, 1, 2, 3, 4, 5, 6, 7, 8, 9, 10, 11, 12, 13, 14, 15, 16] [0, 1, 2, 3, 4, 5, 6, 7, 8, 9, 10, 11, 12, 13, 14, 15, 16] rfl rfl (by decide) (by decide) rfl (by decide) (fun H locs hP hD hS => ?_)
                refine lv_goto (tgt := 175) hx hb (dAt zX6_year_0 77 rfl) (by decide) ?_
                refine lv_istore (lv' := [(5, .int u145), (0, .ref (qS 0)), (2, .int a2), (3, .int a3), (4, .int v4_54)]) hx hb (dAt zX6_year_0 90 rfl) hl (by decide) rfl (fun ls hl => ?_)
                refine lv_aload_n hx hb (dAt zX6_year_0 91 rfl) rfl (lv_at hl 1 rfl) ?_
                refine lv_iload hx hb (dAt zX6_year_0 92 rfl) (lv_at hl 0 rfl) ?_
                obtain ⟨u180, hu180, h⟩ := q_bind h
                refine xFi (wc := (w6 cI cJ cZ qS zS_54 zL)) (w1 := (w6 cI cJ cZ qS u180.2 zL)) (wr := ([] : va_W)) (ws2 := (w6 cI cJ cZ qS u180.2 zL)) (va_runV (As := [.int u145]) (rest := []) ⟨hx, hb, hml, hown, htl⟩ (c_X6_back l D cI cJ cZ n qS H.size zS_54 zL u145 u180 hu180) (cwV 1 htl (gV W_466 W_467 W_468 W_5 W_469) rfl rfl rfl (by decide +kernel) ⟨Nat.le_of_ble_eq_true rfl, Nat.le_of_ble_eq_true rfl⟩) (xPV hP hD hK hN 0 rfl rfl) rfl rfl hl.1 rfl (lv_room (Nat.le_of_ble_eq_true rfl)) (dAt zX6_year_0 93 rfl) ⟨Nat.zero_le _, Nat.zero_le _⟩) hS hA hP hD [0, 1, 2, 3, 4, 5, 6, 7, 8, 9, 10, 11, 12, 13, 14, 15, 16] [] [0, 1, 2, 3, 4, 5, 6, 7, 8, 9, 10, 11, 12, 13, 14, 15, 16] rfl rfl (by decide) (by decide) rfl (by decide) (fun H locs hP hD hS => ?_)
                obtain rfl := q_some h
                exact xRi hx hb hr hlocks hQ hAe hP hD hK hS rfl (dAt zX6_year_0 94 rfl)
            · have h := q_neg c_57 h
              refine lv_ldc2 (v := 75) hx hb hown (htl _ W_773) (dAt zX6_year_0 32 rfl) ?_
              refine lv_iload hx hb (dAt zX6_year_0 33 rfl) (lv_at hl 3 rfl) ?_
              refine lv_i2l (v := (Int32.toInt64 v4_54)) hx hb (dAt zX6_year_0 34 rfl) rfl ?_
              refine lv_lmul hx hb (dAt zX6_year_0 35 rfl) ?_
              refine lv_ldc2 (v := 74) hx hb hown (htl _ W_251) (dAt zX6_year_0 36 rfl) ?_
              refine lv_ladd hx hb (dAt zX6_year_0 37 rfl) ?_
              refine lv_ldc2 (v := 65537) hx hb hown (htl _ W_774) (dAt zX6_year_0 38 rfl) ?_
              refine lv_lrem hx hb (dAt zX6_year_0 39 rfl) (by decide) ?_
              refine lv_l2i (v := (Int64.toInt32 (jremL (((75 : Int64) * (Int32.toInt64 v4_54)) + (74 : Int64)) (65537 : Int64)))) hx hb (dAt zX6_year_0 40 rfl) rfl ?_
              refine lv_istore (lv' := [(4, .int (Int64.toInt32 (jremL (((75 : Int64) * (Int32.toInt64 v4_54)) + (74 : Int64)) (65537 : Int64)))), (0, .ref (qS 0)), (2, .int a2), (3, .int a3), (5, .int v5_54)]) hx hb (dAt zX6_year_0 41 rfl) hl (by decide) rfl (fun ls hl => ?_)
              refine lv_iload hx hb (dAt zX6_year_0 42 rfl) (lv_at hl 0 rfl) ?_
              refine lv_bipush (v := 100) hx hb (dAt zX6_year_0 43 rfl) (by decide) ?_
              refine lv_idiv hx hb (dAt zX6_year_0 44 rfl) (by decide) ?_
              refine lv_bipush (v := 8) hx hb (dAt zX6_year_0 45 rfl) (by decide) ?_
              refine lv_irem hx hb (dAt zX6_year_0 46 rfl) (by decide) ?_
              obtain ⟨u86, hu86, h⟩ := q_bind h
              refine xFi (wc := ([] : va_W)) (w1 := ([] : va_W)) (wr := (w6 cI cJ cZ qS zS_54 zL)) (ws2 := (w6 cI cJ cZ qS zS_54 zL)) (va_runS (As := [.int (jrem ((Int64.toInt32 (jremL (((75 : Int64) * (Int32.toInt64 v4_54)) + (74 : Int64)) (65537 : Int64))) / (100 : Int32)) (8 : Int32))]) (rest := []) ⟨hx, hb, hml, hown, htl⟩ (c_X6_actBy l D cI cJ cZ n  H.size  (jrem ((Int64.toInt32 (jremL (((75 : Int64) * (Int32.toInt64 v4_54)) + (74 : Int64)) (65537 : Int64))) / (100 : Int32)) (8 : Int32)) u86 hu86) (va_cwS 1 htl (gS W_775 W_776 W_5 W_777) rfl rfl rfl (by decide +kernel) ⟨Nat.le_of_ble_eq_true rfl, Nat.le_of_ble_eq_true rfl⟩) (xPS xP0 (xD0 A) hK hN) rfl rfl hl.1 rfl (lv_room (Nat.le_of_ble_eq_true rfl)) (dAt zX6_year_0 47 rfl) ⟨Nat.zero_le _, Nat.zero_le _⟩) hS hA hP hD [] [0, 1, 2, 3, 4, 5, 6, 7, 8, 9, 10, 11, 12, 13, 14, 15, 16] [0, 1, 2, 3, 4, 5, 6, 7, 8, 9, 10, 11, 12, 13, 14, 15, 16] rfl rfl (by decide) (by decide) rfl (by decide) (fun H locs hP hD hS => ?_)
              refine lv_istore (lv' := [(6, .int u86), (4, .int (Int64.toInt32 (jremL (((75 : Int64) * (Int32.toInt64 v4_54)) + (74 : Int64)) (65537 : Int64)))), (0, .ref (qS 0)), (2, .int a2), (3, .int a3), (5, .int v5_54)]) hx hb (dAt zX6_year_0 48 rfl) hl (by decide) rfl (fun ls hl => ?_)
              refine lv_iload hx hb (dAt zX6_year_0 49 rfl) (lv_at hl 1 rfl) ?_
              refine lv_bipush (v := 10) hx hb (dAt zX6_year_0 50 rfl) (by decide) ?_
              refine lv_irem hx hb (dAt zX6_year_0 51 rfl) (by decide) ?_
              refine lv_istore (lv' := [(7, .int (jrem (Int64.toInt32 (jremL (((75 : Int64) * (Int32.toInt64 v4_54)) + (74 : Int64)) (65537 : Int64))) (10 : Int32))), (6, .int u86), (4, .int (Int64.toInt32 (jremL (((75 : Int64) * (Int32.toInt64 v4_54)) + (74 : Int64)) (65537 : Int64)))), (0, .ref (qS 0)), (2, .int a2), (3, .int a3), (5, .int v5_54)]) hx hb (dAt zX6_year_0 52 rfl) hl (by decide) rfl (fun ls hl => ?_)
              refine lv_iload hx hb (dAt zX6_year_0 53 rfl) (lv_at hl 2 rfl) ?_
              refine lv_bipush (v := 10) hx hb (dAt zX6_year_0 54 rfl) (by decide) ?_
              refine lv_idiv hx hb (dAt zX6_year_0 55 rfl) (by decide) ?_
              refine lv_bipush (v := 10) hx hb (dAt zX6_year_0 56 rfl) (by decide) ?_
              refine lv_irem hx hb (dAt zX6_year_0 57 rfl) (by decide) ?_
              refine lv_istore (lv' := [(8, .int (jrem ((Int64.toInt32 (jremL (((75 : Int64) * (Int32.toInt64 v4_54)) + (74 : Int64)) (65537 : Int64))) / (10 : Int32)) (10 : Int32))), (7, .int (jrem (Int64.toInt32 (jremL (((75 : Int64) * (Int32.toInt64 v4_54)) + (74 : Int64)) (65537 : Int64))) (10 : Int32))), (6, .int u86), (4, .int (Int64.toInt32 (jremL (((75 : Int64) * (Int32.toInt64 v4_54)) + (74 : Int64)) (65537 : Int64)))), (0, .ref (qS 0)), (2, .int a2), (3, .int a3), (5, .int v5_54)]) hx hb (dAt zX6_year_0 58 rfl) hl (by decide) rfl (fun ls hl => ?_)
              refine lv_aload_n hx hb (dAt zX6_year_0 59 rfl) rfl (lv_at hl 4 rfl) ?_
              refine lv_iload hx hb (dAt zX6_year_0 60 rfl) (lv_at hl 2 rfl) ?_
              refine lv_iload hx hb (dAt zX6_year_0 61 rfl) (lv_at hl 1 rfl) ?_
              refine lv_iload hx hb (dAt zX6_year_0 62 rfl) (lv_at hl 0 rfl) ?_
              obtain ⟨u115, hu115, h⟩ := q_bind h
              refine xFi (wc := (w6 cI cJ cZ qS zS_54 zL)) (w1 := (w6 cI cJ cZ qS zS_54 zL)) (wr := ([] : va_W)) (ws2 := (w6 cI cJ cZ qS zS_54 zL)) (va_runV (As := [.int u86, .int (jrem (Int64.toInt32 (jremL (((75 : Int64) * (Int32.toInt64 v4_54)) + (74 : Int64)) (65537 : Int64))) (10 : Int32)), .int (jrem ((Int64.toInt32 (jremL (((75 : Int64) * (Int32.toInt64 v4_54)) + (74 : Int64)) (65537 : Int64))) / (10 : Int32)) (10 : Int32))]) (rest := []) ⟨hx, hb, hml, hown, htl⟩ (c_X6_whyNot l D cI cJ cZ n qS H.size zS_54 zL u86 (jrem (Int64.toInt32 (jremL (((75 : Int64) * (Int32.toInt64 v4_54)) + (74 : Int64)) (65537 : Int64))) (10 : Int32)) (jrem ((Int64.toInt32 (jremL (((75 : Int64) * (Int32.toInt64 v4_54)) + (74 : Int64)) (65537 : Int64))) / (10 : Int32)) (10 : Int32)) u115 hu115) (cwV 3 htl (gV W_395 W_396 W_397 W_5 W_398) rfl rfl rfl (by decide +kernel) ⟨Nat.le_of_ble_eq_true rfl, Nat.le_of_ble_eq_true rfl⟩) (xPV hP hD hK hN 0 rfl rfl) rfl rfl hl.1 rfl (lv_room (Nat.le_of_ble_eq_true rfl)) (dAt zX6_year_0 63 rfl) ⟨Nat.zero_le _, Nat.zero_le _⟩) hS hA hP hD [0, 1, 2, 3, 4, 5, 6, 7, 8, 9, 10, 11, 12, 13, 14, 15, 16] [] [0, 1, 2, 3, 4, 5, 6, 7, 8, 9, 10, 11, 12, 13, 14, 15, 16] rfl rfl (by decide) (by decide) rfl (by decide) (fun H locs hP hD hS => ?_)
              refine lv_if_ne (tgt := 131) hx hb (dAt zX6_year_0 64 rfl) (by decide) (fun c_118 => ?_) (fun c_118 => ?_)
              · have h := q_neg c_118 h
                refine lv_iinc (v := (v5_54 + 1)) (lv' := [(5, .int (v5_54 + 1)), (8, .int (jrem ((Int64.toInt32 (jremL (((75 : Int64) * (Int32.toInt64 v4_54)) + (74 : Int64)) (65537 : Int64))) / (10 : Int32)) (10 : Int32))), (7, .int (jrem (Int64.toInt32 (jremL (((75 : Int64) * (Int32.toInt64 v4_54)) + (74 : Int64)) (65537 : Int64))) (10 : Int32))), (6, .int u86), (4, .int (Int64.toInt32 (jremL (((75 : Int64) * (Int32.toInt64 v4_54)) + (74 : Int64)) (65537 : Int64)))), (0, .ref (qS 0)), (2, .int a2), (3, .int a3)]) hx hb (dAt zX6_year_0 70 rfl) hl (k := 7) rfl rfl (by decide) rfl (fun ls hl => ?_)
                refine lv_goto (tgt := 54) hx hb (dAt zX6_year_0 71 rfl) (by decide) ?_
                exact ih_54 (Int64.toInt32 (jremL (((75 : Int64) * (Int32.toInt64 v4_54)) + (74 : Int64)) (65537 : Int64))) (v5_54 + 1) zS_54 _ _ _ h hP hD hS (lv_sub hl [5, 6, 7, 4, 0] rfl)
              · have h := q_pos c_118 h
                refine lv_aload_n hx hb (dAt zX6_year_0 65 rfl) rfl (lv_at hl 4 rfl) ?_
                refine lv_iload hx hb (dAt zX6_year_0 66 rfl) (lv_at hl 2 rfl) ?_
                refine lv_iload hx hb (dAt zX6_year_0 67 rfl) (lv_at hl 1 rfl) ?_
                refine lv_iload hx hb (dAt zX6_year_0 68 rfl) (lv_at hl 0 rfl) ?_
                obtain ⟨u128, hu128, h⟩ := q_bind h
                refine xFv (wc := (w6 cI cJ cZ qS zS_54 zL)) (w1 := (w6 cI cJ cZ qS u128 zL)) (wr := ([] : va_W)) (ws2 := (w6 cI cJ cZ qS u128 zL)) (va_runV (As := [.int u86, .int (jrem (Int64.toInt32 (jremL (((75 : Int64) * (Int32.toInt64 v4_54)) + (74 : Int64)) (65537 : Int64))) (10 : Int32)), .int (jrem ((Int64.toInt32 (jremL (((75 : Int64) * (Int32.toInt64 v4_54)) + (74 : Int64)) (65537 : Int64))) / (10 : Int32)) (10 : Int32))]) (rest := []) ⟨hx, hb, hml, hown, htl⟩ (c_X6_happen l D cI cJ cZ n qS H.size zS_54 zL u86 (jrem (Int64.toInt32 (jremL (((75 : Int64) * (Int32.toInt64 v4_54)) + (74 : Int64)) (65537 : Int64))) (10 : Int32)) (jrem ((Int64.toInt32 (jremL (((75 : Int64) * (Int32.toInt64 v4_54)) + (74 : Int64)) (65537 : Int64))) / (10 : Int32)) (10 : Int32)) u128 hu128) (cwV 3 htl (gV W_419 W_420 W_421 W_5 W_422) rfl rfl rfl (by decide +kernel) ⟨Nat.le_of_ble_eq_true rfl, Nat.le_of_ble_eq_true rfl⟩) (xPV hP hD hK hN 0 rfl rfl) rfl rfl hl.1 rfl (lv_room (Nat.le_of_ble_eq_true rfl)) (dAt zX6_year_0 69 rfl) ⟨Nat.zero_le _, Nat.zero_le _⟩) hS hA hP hD [0, 1, 2, 3, 4, 5, 6, 7, 8, 9, 10, 11, 12, 13, 14, 15, 16] [] [0, 1, 2, 3, 4, 5, 6, 7, 8, 9, 10, 11, 12, 13, 14, 15, 16] rfl rfl (by decide) (by decide) rfl (by decide) (fun H locs hP hD hS => ?_)
                refine lv_iinc (v := (v5_54 + 1)) (lv' := [(5, .int (v5_54 + 1)), (8, .int (jrem ((Int64.toInt32 (jremL (((75 : Int64) * (Int32.toInt64 v4_54)) + (74 : Int64)) (65537 : Int64))) / (10 : Int32)) (10 : Int32))), (7, .int (jrem (Int64.toInt32 (jremL (((75 : Int64) * (Int32.toInt64 v4_54)) + (74 : Int64)) (65537 : Int64))) (10 : Int32))), (6, .int u86), (4, .int (Int64.toInt32 (jremL (((75 : Int64) * (Int32.toInt64 v4_54)) + (74 : Int64)) (65537 : Int64)))), (0, .ref (qS 0)), (2, .int a2), (3, .int a3)]) hx hb (dAt zX6_year_0 70 rfl) hl (k := 7) rfl rfl (by decide) rfl (fun ls hl => ?_)
                refine lv_goto (tgt := 54) hx hb (dAt zX6_year_0 71 rfl) (by decide) ?_
                exact ih_54 (Int64.toInt32 (jremL (((75 : Int64) * (Int32.toInt64 v4_54)) + (74 : Int64)) (65537 : Int64))) (v5_54 + 1) u128 _ _ _ h hP hD hS (lv_sub hl [5, 6, 7, 4, 0] rfl)
        exact L_54 n a1 0 (sf u40 16 0) _ _ _ h hP hD hS (lv_sub hl [2, 4, 5, 1, 0] rfl)
      · have h := q_pos c_33 h
        refine lv_bipush (v := (-2)) hx hb (dAt zX6_year_0 18 rfl) (by decide) ?_
        obtain rfl := q_some h
        exact xRi hx hb hr hlocks hQ hAe hP hD hK hS rfl (dAt zX6_year_0 19 rfl)
def m_X6_pass (n : Nat) (zS : TI) (zL : TL) (a1 : Int32) : Option (Int32 × TI) := (if (zS 0 31) = 0 then (gd (inB (zS 0 30) 480) ((gd (inB (zS 0 30) 480) (some (((zS 29) (Int32.toNatClampNeg (zS 0 30))), (sf (upA zS 29 (upd (zS 29) (Int32.toNatClampNeg (zS 0 30)) ((zS 29) (Int32.toNatClampNeg (zS 0 30))))) 30 ((zS 0 30) + (1 : Int32)))))))) else (gd (inB (zS 0 30) 480) (some (a1, (sf (upA zS 29 (upd (zS 29) (Int32.toNatClampNeg (zS 0 30)) a1)) 30 ((zS 0 30) + (1 : Int32)))))))
set_option maxHeartbeats 4000000 in
set_option maxRecDepth 100000 in
theorem c_X6_pass (l : Launch) (D : va_G) (cI cJ cZ : ClassId) (n : Nat) (qS : Nat → Nat) (sz : Nat) (zS : TI) (zL : TL) (a1 : Int32) (out : Int32 × TI) (hm : m_X6_pass n zS zL a1 = some out) : Met l yX6_pass (wsM yX6_pass cX6_pass 3 (some .int)) { frames := 0, cells := 0, slots := 0, locals := 0 } (xPre D (kT cI cJ cZ) (w6 cI cJ cZ qS zS zL) sz [.ref (qS 0), .int a1]) (xQi D (kT cI cJ cZ) (w6 cI cJ cZ qS zS zL) (w6 cI cJ cZ qS out.2 zL) sz out.1) 0 0 (va_A (w6 cI cJ cZ qS zS zL) sz) := by
  refine Met.ofW (cc := cX6_pass) (maxL := 3) (ret := (some .int)) (by decide) rfl ?_
  intro p e s m args below meth c s₁ B hml hv
  obtain ⟨hv, hsz, hP, hK, hD0, hN⟩ := hv
  have hx := B.exec; have hb := B.bytes; have hr := B.returns
  have hts := atoms_spec (ws := (wsM yX6_pass cX6_pass 3 (some .int))) B.pre
  have hown : s.vm.findClass RX6 = some m.cls := findClass_of_methodNamed B.named
  have hlocks := B.notSynchronized
  subst hsz
  have hD := hD0.self (sz := s.heap.size)
  obtain ⟨A, hAe⟩ : ∃ A, A = va_A (w6 cI cJ cZ qS zS zL) s.heap.size := ⟨_, rfl⟩
  rw [← hAe] at hD
  have hA : ∀ q : Nat, s.heap.size ≤ q → A q := fun q h => by rw [hAe]; exact Or.inr h
  have htl : ∀ w ∈ wsL_law, w.before args s = true := fun w h => hts w (List.mem_cons_of_mem _ h)
  refine xHead (R' := { frames := 0, cells := 0, slots := 0, locals := 0 }) rfl (fun Q H hQ hH => ?_)
  have hP : va_P D vwCl (w6 cI cJ cZ qS zS zL) H := by rw [hH]; exact hP
  have hS : va_S A s.heap H [] := by rw [hH]; exact va_S.rf
  refine xStart hv (Nat.le_of_ble_eq_true rfl) (lv := [(0, .ref (qS 0)), (1, .int a1)]) rfl (fun ls hl => ?_)
  have h := hm
  unfold m_X6_pass at h
  refine lv_aload_n hx hb (dAt zX6_pass_0 0 rfl) rfl (lv_at hl 0 rfl) ?_
  refine va_get (D := D) (ci := 6) (v := .int (zS 0 31)) (C := RX6) (T := TX6) (N := 32) hx hb htl inlX6 hown hK hP 0 rfl rfl 31 (by decide) (htl _ W_791) (fun _ h9 => h9) rfl (dAt zX6_pass_0 1 rfl) ?_
  refine lv_if_eq (tgt := 11) hx hb (dAt zX6_pass_0 2 rfl) (by decide) (fun c_4 => ?_) (fun c_4 => ?_)
  · have h := q_pos c_4 h
    refine lv_aload_n hx hb (dAt zX6_pass_0 5 rfl) rfl (lv_at hl 0 rfl) ?_
    refine va_get (D := D) (ci := 6) (v := .ref (qS 29)) (C := RX6) (T := TX6) (N := 32) hx hb htl inlX6 hown hK hP 0 rfl rfl 28 (by decide) (htl _ W_99) (fun _ h9 => h9) rfl (dAt zX6_pass_0 6 rfl) ?_
    refine lv_aload_n hx hb (dAt zX6_pass_0 7 rfl) rfl (lv_at hl 0 rfl) ?_
    refine va_get (D := D) (ci := 6) (v := .int (zS 0 30)) (C := RX6) (T := TX6) (N := 32) hx hb htl inlX6 hown hK hP 0 rfl rfl 30 (by decide) (htl _ W_790) (fun _ h9 => h9) rfl (dAt zX6_pass_0 8 rfl) ?_
    obtain ⟨hi_19, h⟩ := q_in h
    refine va_iald hx hb hK hP 15 0 rfl rfl hi_19 (dAt zX6_pass_0 9 rfl) ?_
    refine lv_istore_n (lv' := [(2, .int ((zS 29) (Int32.toNatClampNeg (zS 0 30)))), (0, .ref (qS 0)), (1, .int a1)]) hx hb (dAt zX6_pass_0 10 rfl) rfl hl (by decide) rfl (fun ls hl => ?_)
    refine lv_aload_n hx hb (dAt zX6_pass_0 11 rfl) rfl (lv_at hl 1 rfl) ?_
    refine va_get (D := D) (ci := 6) (v := .ref (qS 29)) (C := RX6) (T := TX6) (N := 32) hx hb htl inlX6 hown hK hP 0 rfl rfl 28 (by decide) (htl _ W_99) (fun _ h9 => h9) rfl (dAt zX6_pass_0 12 rfl) ?_
    refine lv_aload_n hx hb (dAt zX6_pass_0 13 rfl) rfl (lv_at hl 1 rfl) ?_
    refine va_get (D := D) (ci := 6) (v := .int (zS 0 30)) (C := RX6) (T := TX6) (N := 32) hx hb htl inlX6 hown hK hP 0 rfl rfl 30 (by decide) (htl _ W_790) (fun _ h9 => h9) rfl (dAt zX6_pass_0 14 rfl) ?_
    refine lv_iload_n hx hb (dAt zX6_pass_0 15 rfl) rfl (lv_at hl 0 rfl) ?_
    obtain ⟨hi_30, h⟩ := q_in h
    refine va_iast hx hb hK hP hD hS 15 0 rfl rfl hi_30 (dAt zX6_pass_0 16 rfl) (fun H locs hP hD hS => ?_)
    have hP : va_P D vwCl (w6x cI cJ cZ qS (zS 0 0) (zS 0 1) (zS 0 2) (zS 0 8) (zS 0 10) (zS 0 14) (zS 0 15) (zS 0 16) (zS 0 17) (zS 0 19) (zS 0 20) (zS 0 21) (zS 0 22) (zS 0 23) (zS 0 30) (zS 0 31) (zS 4) (zS 5) (zS 6) (zS 7) (zS 8) (zS 10) (zS 12) (zS 13) (zS 14) (zS 19) (zS 25) (zS 26) (zL 27) (zS 28) (upd (zS 29) (Int32.toNatClampNeg (zS 0 30)) ((zS 29) (Int32.toNatClampNeg (zS 0 30)))) (zS 30)) H := hP
    have hD : va_D A (w6x cI cJ cZ qS (zS 0 0) (zS 0 1) (zS 0 2) (zS 0 8) (zS 0 10) (zS 0 14) (zS 0 15) (zS 0 16) (zS 0 17) (zS 0 19) (zS 0 20) (zS 0 21) (zS 0 22) (zS 0 23) (zS 0 30) (zS 0 31) (zS 4) (zS 5) (zS 6) (zS 7) (zS 8) (zS 10) (zS 12) (zS 13) (zS 14) (zS 19) (zS 25) (zS 26) (zL 27) (zS 28) (upd (zS 29) (Int32.toNatClampNeg (zS 0 30)) ((zS 29) (Int32.toNatClampNeg (zS 0 30)))) (zS 30)) := hD
    refine lv_aload_n hx hb (dAt zX6_pass_0 17 rfl) rfl (lv_at hl 1 rfl) ?_
    refine lv_dup hx hb (dAt zX6_pass_0 18 rfl) rfl ?_
    refine va_get (D := D) (ci := 6) (v := .int (zS 0 30)) (C := RX6) (T := TX6) (N := 32) hx hb htl inlX6 hown hK hP 0 rfl rfl 30 (by decide) (htl _ W_790) (fun _ h9 => h9) rfl (dAt zX6_pass_0 19 rfl) ?_
    refine lv_iconst (v := 1) hx hb (dAt zX6_pass_0 20 rfl) (by decide) ?_
    refine lv_iadd hx hb (dAt zX6_pass_0 21 rfl) ?_
    refine va_put (D := D) (ci := 6) (v := .int ((zS 0 30) + (1 : Int32))) (ty := .int) (C := RX6) (T := TX6) (N := 32) hx hb htl inlX6 tyX6 tyX6_ok nmX6 hown hK hP hD hS 0 rfl rfl 30 (by decide) (htl _ W_790) (fun _ h9 => h9) rfl (by decide +kernel) rfl rfl (Nat.le_of_ble_eq_true rfl) (dAt zX6_pass_0 22 rfl) (fun H locs hP hD hS => ?_)
    have hP : va_P D vwCl (w6x cI cJ cZ qS (zS 0 0) (zS 0 1) (zS 0 2) (zS 0 8) (zS 0 10) (zS 0 14) (zS 0 15) (zS 0 16) (zS 0 17) (zS 0 19) (zS 0 20) (zS 0 21) (zS 0 22) (zS 0 23) ((zS 0 30) + (1 : Int32)) (zS 0 31) (zS 4) (zS 5) (zS 6) (zS 7) (zS 8) (zS 10) (zS 12) (zS 13) (zS 14) (zS 19) (zS 25) (zS 26) (zL 27) (zS 28) (upd (zS 29) (Int32.toNatClampNeg (zS 0 30)) ((zS 29) (Int32.toNatClampNeg (zS 0 30)))) (zS 30)) H := hP
    have hD : va_D A (w6x cI cJ cZ qS (zS 0 0) (zS 0 1) (zS 0 2) (zS 0 8) (zS 0 10) (zS 0 14) (zS 0 15) (zS 0 16) (zS 0 17) (zS 0 19) (zS 0 20) (zS 0 21) (zS 0 22) (zS 0 23) ((zS 0 30) + (1 : Int32)) (zS 0 31) (zS 4) (zS 5) (zS 6) (zS 7) (zS 8) (zS 10) (zS 12) (zS 13) (zS 14) (zS 19) (zS 25) (zS 26) (zL 27) (zS 28) (upd (zS 29) (Int32.toNatClampNeg (zS 0 30)) ((zS 29) (Int32.toNatClampNeg (zS 0 30)))) (zS 30)) := hD
    refine lv_iload_n hx hb (dAt zX6_pass_0 23 rfl) rfl (lv_at hl 0 rfl) ?_
    have hP : va_P D vwCl (w6 cI cJ cZ qS (sf (upA zS 29 (upd (zS 29) (Int32.toNatClampNeg (zS 0 30)) ((zS 29) (Int32.toNatClampNeg (zS 0 30))))) 30 ((zS 0 30) + (1 : Int32))) zL) H := hP
    have hD : va_D A (w6 cI cJ cZ qS (sf (upA zS 29 (upd (zS 29) (Int32.toNatClampNeg (zS 0 30)) ((zS 29) (Int32.toNatClampNeg (zS 0 30))))) 30 ((zS 0 30) + (1 : Int32))) zL) := hD
    obtain rfl := q_some h
    exact xRi hx hb hr hlocks hQ hAe hP hD hK hS rfl (dAt zX6_pass_0 24 rfl)
  · have h := q_neg c_4 h
    refine lv_iload_n hx hb (dAt zX6_pass_0 3 rfl) rfl (lv_at hl 1 rfl) ?_
    refine lv_goto (tgt := 20) hx hb (dAt zX6_pass_0 4 rfl) (by decide) ?_
    refine lv_istore_n (lv' := [(2, .int a1), (0, .ref (qS 0)), (1, .int a1)]) hx hb (dAt zX6_pass_0 10 rfl) rfl hl (by decide) rfl (fun ls hl => ?_)
    refine lv_aload_n hx hb (dAt zX6_pass_0 11 rfl) rfl (lv_at hl 1 rfl) ?_
    refine va_get (D := D) (ci := 6) (v := .ref (qS 29)) (C := RX6) (T := TX6) (N := 32) hx hb htl inlX6 hown hK hP 0 rfl rfl 28 (by decide) (htl _ W_99) (fun _ h9 => h9) rfl (dAt zX6_pass_0 12 rfl) ?_
    refine lv_aload_n hx hb (dAt zX6_pass_0 13 rfl) rfl (lv_at hl 1 rfl) ?_
    refine va_get (D := D) (ci := 6) (v := .int (zS 0 30)) (C := RX6) (T := TX6) (N := 32) hx hb htl inlX6 hown hK hP 0 rfl rfl 30 (by decide) (htl _ W_790) (fun _ h9 => h9) rfl (dAt zX6_pass_0 14 rfl) ?_
    refine lv_iload_n hx hb (dAt zX6_pass_0 15 rfl) rfl (lv_at hl 0 rfl) ?_
    obtain ⟨hi_30, h⟩ := q_in h
    refine va_iast hx hb hK hP hD hS 15 0 rfl rfl hi_30 (dAt zX6_pass_0 16 rfl) (fun H locs hP hD hS => ?_)
    have hP : va_P D vwCl (w6x cI cJ cZ qS (zS 0 0) (zS 0 1) (zS 0 2) (zS 0 8) (zS 0 10) (zS 0 14) (zS 0 15) (zS 0 16) (zS 0 17) (zS 0 19) (zS 0 20) (zS 0 21) (zS 0 22) (zS 0 23) (zS 0 30) (zS 0 31) (zS 4) (zS 5) (zS 6) (zS 7) (zS 8) (zS 10) (zS 12) (zS 13) (zS 14) (zS 19) (zS 25) (zS 26) (zL 27) (zS 28) (upd (zS 29) (Int32.toNatClampNeg (zS 0 30)) a1) (zS 30)) H := hP
    have hD : va_D A (w6x cI cJ cZ qS (zS 0 0) (zS 0 1) (zS 0 2) (zS 0 8) (zS 0 10) (zS 0 14) (zS 0 15) (zS 0 16) (zS 0 17) (zS 0 19) (zS 0 20) (zS 0 21) (zS 0 22) (zS 0 23) (zS 0 30) (zS 0 31) (zS 4) (zS 5) (zS 6) (zS 7) (zS 8) (zS 10) (zS 12) (zS 13) (zS 14) (zS 19) (zS 25) (zS 26) (zL 27) (zS 28) (upd (zS 29) (Int32.toNatClampNeg (zS 0 30)) a1) (zS 30)) := hD
    refine lv_aload_n hx hb (dAt zX6_pass_0 17 rfl) rfl (lv_at hl 1 rfl) ?_
    refine lv_dup hx hb (dAt zX6_pass_0 18 rfl) rfl ?_
    refine va_get (D := D) (ci := 6) (v := .int (zS 0 30)) (C := RX6) (T := TX6) (N := 32) hx hb htl inlX6 hown hK hP 0 rfl rfl 30 (by decide) (htl _ W_790) (fun _ h9 => h9) rfl (dAt zX6_pass_0 19 rfl) ?_
    refine lv_iconst (v := 1) hx hb (dAt zX6_pass_0 20 rfl) (by decide) ?_
    refine lv_iadd hx hb (dAt zX6_pass_0 21 rfl) ?_
    refine va_put (D := D) (ci := 6) (v := .int ((zS 0 30) + (1 : Int32))) (ty := .int) (C := RX6) (T := TX6) (N := 32) hx hb htl inlX6 tyX6 tyX6_ok nmX6 hown hK hP hD hS 0 rfl rfl 30 (by decide) (htl _ W_790) (fun _ h9 => h9) rfl (by decide +kernel) rfl rfl (Nat.le_of_ble_eq_true rfl) (dAt zX6_pass_0 22 rfl) (fun H locs hP hD hS => ?_)
    have hP : va_P D vwCl (w6x cI cJ cZ qS (zS 0 0) (zS 0 1) (zS 0 2) (zS 0 8) (zS 0 10) (zS 0 14) (zS 0 15) (zS 0 16) (zS 0 17) (zS 0 19) (zS 0 20) (zS 0 21) (zS 0 22) (zS 0 23) ((zS 0 30) + (1 : Int32)) (zS 0 31) (zS 4) (zS 5) (zS 6) (zS 7) (zS 8) (zS 10) (zS 12) (zS 13) (zS 14) (zS 19) (zS 25) (zS 26) (zL 27) (zS 28) (upd (zS 29) (Int32.toNatClampNeg (zS 0 30)) a1) (zS 30)) H := hP
    have hD : va_D A (w6x cI cJ cZ qS (zS 0 0) (zS 0 1) (zS 0 2) (zS 0 8) (zS 0 10) (zS 0 14) (zS 0 15) (zS 0 16) (zS 0 17) (zS 0 19) (zS 0 20) (zS 0 21) (zS 0 22) (zS 0 23) ((zS 0 30) + (1 : Int32)) (zS 0 31) (zS 4) (zS 5) (zS 6) (zS 7) (zS 8) (zS 10) (zS 12) (zS 13) (zS 14) (zS 19) (zS 25) (zS 26) (zL 27) (zS 28) (upd (zS 29) (Int32.toNatClampNeg (zS 0 30)) a1) (zS 30)) := hD
    refine lv_iload_n hx hb (dAt zX6_pass_0 23 rfl) rfl (lv_at hl 0 rfl) ?_
    have hP : va_P D vwCl (w6 cI cJ cZ qS (sf (upA zS 29 (upd (zS 29) (Int32.toNatClampNeg (zS 0 30)) a1)) 30 ((zS 0 30) + (1 : Int32))) zL) H := hP
    have hD : va_D A (w6 cI cJ cZ qS (sf (upA zS 29 (upd (zS 29) (Int32.toNatClampNeg (zS 0 30)) a1)) 30 ((zS 0 30) + (1 : Int32))) zL) := hD
    obtain rfl := q_some h
    exact xRi hx hb hr hlocks hQ hAe hP hD hK hS rfl (dAt zX6_pass_0 24 rfl)
def b_X6_passRow__s3_2 (n : Nat) (zL : TL) (a2 : Int32) (s_2 : Int32 × TI) (k_2 : Int32 × TI → Option TI) : Option TI := (if a2 ≤ s_2.1 then some s_2.2 else (gd (inB s_2.1 100) (((m_X6_pass n s_2.2 zL ((s_2.2 4) (Int32.toNatClampNeg s_2.1))).bind fun u13 => (gd (inB s_2.1 100) ((k_2 ((s_2.1 + 1), (upA u13.2 4 (upd (u13.2 4) (Int32.toNatClampNeg s_2.1) u13.1))))))))))
def m_X6_passRow__s3 (n : Nat) (zS : TI) (zL : TL) (a2 : Int32) : Option TI := (loopF (b_X6_passRow__s3_2 n zL a2 ) n (0, zS))
set_option maxHeartbeats 4000000 in
set_option maxRecDepth 100000 in
theorem c_X6_passRow__s3 (l : Launch) (D : va_G) (cI cJ cZ : ClassId) (n : Nat) (qS : Nat → Nat) (sz : Nat) (zS : TI) (zL : TL) (a2 : Int32) (out : TI) (hm : m_X6_passRow__s3 n zS zL a2 = some out) : Met l yX6_passRow (wsM yX6_passRow cX6_passRow 4 none) { frames := 1, cells := 0, slots := 0, locals := 22 } (xPre D (kT cI cJ cZ) (w6 cI cJ cZ qS zS zL) sz [.ref (qS 0), .ref (qS 4), .int a2]) (xQv D (kT cI cJ cZ) (w6 cI cJ cZ qS zS zL) (w6 cI cJ cZ qS out zL) sz) 0 0 (va_A (w6 cI cJ cZ qS zS zL) sz) := by
  refine Met.ofW (cc := cX6_passRow) (maxL := 4) (ret := none) (by decide) rfl ?_
  intro p e s m args below meth c s₁ B hml hv
  obtain ⟨hv, hsz, hP, hK, hD0, hN⟩ := hv
  have hx := B.exec; have hb := B.bytes; have hr := B.returns
  have hts := atoms_spec (ws := (wsM yX6_passRow cX6_passRow 4 none)) B.pre
  have hown : s.vm.findClass RX6 = some m.cls := findClass_of_methodNamed B.named
  have hlocks := B.notSynchronized
  subst hsz
  have hD := hD0.self (sz := s.heap.size)
  obtain ⟨A, hAe⟩ : ∃ A, A = va_A (w6 cI cJ cZ qS zS zL) s.heap.size := ⟨_, rfl⟩
  rw [← hAe] at hD
  have hA : ∀ q : Nat, s.heap.size ≤ q → A q := fun q h => by rw [hAe]; exact Or.inr h
  have htl : ∀ w ∈ wsL_law, w.before args s = true := fun w h => hts w (List.mem_cons_of_mem _ h)
  refine xHead (R' := { frames := 1, cells := 0, slots := 0, locals := 22 }) rfl (fun Q H hQ hH => ?_)
  have hP : va_P D vwCl (w6 cI cJ cZ qS zS zL) H := by rw [hH]; exact hP
  have hS : va_S A s.heap H [] := by rw [hH]; exact va_S.rf
  refine xStart hv (Nat.le_of_ble_eq_true rfl) (lv := [(0, .ref (qS 0)), (1, .ref (qS 4)), (2, .int a2)]) rfl (fun ls hl => ?_)
  have h := hm
  unfold m_X6_passRow__s3 at h
  refine lv_iconst (v := 0) hx hb (dAt zX6_passRow_0 0 rfl) (by decide) ?_
  refine lv_istore_n (lv' := [(3, .int 0), (0, .ref (qS 0)), (1, .ref (qS 4)), (2, .int a2)]) hx hb (dAt zX6_passRow_0 1 rfl) rfl hl (by decide) rfl (fun ls hl => ?_)
  have L_2 : ∀ (j_2 : Nat) (v3_2 : Int32) (zS_2 : TI) (H : Heap) (locs : List Loc) (ls : Array Slot), loopF (b_X6_passRow__s3_2 n zL a2) j_2 (v3_2, zS_2) = some out → va_P D vwCl (w6 cI cJ cZ qS zS_2 zL) H → va_D A (w6 cI cJ cZ qS zS_2 zL) → va_S A s.heap H locs → lv_has ls 4 [(0, .ref (qS 0)), (1, .ref (qS 4)), (2, .int a2), (3, .int v3_2)] → W p l e { frames := 1, cells := 0, slots := 0, locals := 22 } s m args below meth c H locs 0 0 Q (F0 m 2 ls []) := by
    intro j_2
    induction j_2 with
    | zero => intro v3_2 zS_2 H locs ls h hP hD hS hl; exact loopF_0 h
    | succ j_2 ih_2 =>
      intro v3_2 zS_2 H locs ls h hP hD hS hl
      have h := loopF_s h
      unfold b_X6_passRow__s3_2 at h
      refine lv_iload_n hx hb (dAt zX6_passRow_0 2 rfl) rfl (lv_at hl 3 rfl) ?_
      refine lv_iload_n hx hb (dAt zX6_passRow_0 3 rfl) rfl (lv_at hl 2 rfl) ?_
      refine lv_icmp_ge (tgt := 23) hx hb (dAt zX6_passRow_0 4 rfl) (by decide) (fun c_4 => ?_) (fun c_4 => ?_)
      · have h := q_pos c_4 h
        obtain rfl := q_some h
        exact xRv hx hb hr hlocks hQ hAe hP hD hK hS (dAt zX6_passRow_0 15 rfl)
      · have h := q_neg c_4 h
        refine lv_aload_n hx hb (dAt zX6_passRow_0 5 rfl) rfl (lv_at hl 1 rfl) ?_
        refine lv_iload_n hx hb (dAt zX6_passRow_0 6 rfl) rfl (lv_at hl 3 rfl) ?_
        refine lv_aload_n hx hb (dAt zX6_passRow_0 7 rfl) rfl (lv_at hl 0 rfl) ?_
        refine lv_aload_n hx hb (dAt zX6_passRow_0 8 rfl) rfl (lv_at hl 1 rfl) ?_
        refine lv_iload_n hx hb (dAt zX6_passRow_0 9 rfl) rfl (lv_at hl 3 rfl) ?_
        obtain ⟨hi_12, h⟩ := q_in h
        refine va_iald hx hb hK hP 1 0 rfl rfl hi_12 (dAt zX6_passRow_0 10 rfl) ?_
        obtain ⟨u13, hu13, h⟩ := q_bind h
        refine xFi (wc := (w6 cI cJ cZ qS zS_2 zL)) (w1 := (w6 cI cJ cZ qS u13.2 zL)) (wr := ([] : va_W)) (ws2 := (w6 cI cJ cZ qS u13.2 zL)) (va_runV (As := [.int ((zS_2 4) (Int32.toNatClampNeg v3_2))]) (rest := [.int v3_2, .ref (qS 4)]) ⟨hx, hb, hml, hown, htl⟩ (c_X6_pass l D cI cJ cZ n qS H.size zS_2 zL ((zS_2 4) (Int32.toNatClampNeg v3_2)) u13 hu13) (cwV 1 htl (gV W_796 W_797 W_798 W_5 W_799) rfl rfl rfl (by decide +kernel) ⟨Nat.le_of_ble_eq_true rfl, Nat.le_of_ble_eq_true rfl⟩) (xPV hP hD hK hN 0 rfl rfl) rfl rfl hl.1 rfl (lv_room (Nat.le_of_ble_eq_true rfl)) (dAt zX6_passRow_0 11 rfl) ⟨Nat.zero_le _, Nat.zero_le _⟩) hS hA hP hD [0, 1, 2, 3, 4, 5, 6, 7, 8, 9, 10, 11, 12, 13, 14, 15, 16] [] [0, 1, 2, 3, 4, 5, 6, 7, 8, 9, 10, 11, 12, 13, 14, 15, 16] rfl rfl (by decide) (by decide) rfl (by decide) (fun H locs hP hD hS => ?_)
        obtain ⟨hi_16, h⟩ := q_in h
        refine va_iast hx hb hK hP hD hS 1 0 rfl rfl hi_16 (dAt zX6_passRow_0 12 rfl) (fun H locs hP hD hS => ?_)
        have hP : va_P D vwCl (w6x cI cJ cZ qS (u13.2 0 0) (u13.2 0 1) (u13.2 0 2) (u13.2 0 8) (u13.2 0 10) (u13.2 0 14) (u13.2 0 15) (u13.2 0 16) (u13.2 0 17) (u13.2 0 19) (u13.2 0 20) (u13.2 0 21) (u13.2 0 22) (u13.2 0 23) (u13.2 0 30) (u13.2 0 31) (upd (u13.2 4) (Int32.toNatClampNeg v3_2) u13.1) (u13.2 5) (u13.2 6) (u13.2 7) (u13.2 8) (u13.2 10) (u13.2 12) (u13.2 13) (u13.2 14) (u13.2 19) (u13.2 25) (u13.2 26) (zL 27) (u13.2 28) (u13.2 29) (u13.2 30)) H := hP
        have hD : va_D A (w6x cI cJ cZ qS (u13.2 0 0) (u13.2 0 1) (u13.2 0 2) (u13.2 0 8) (u13.2 0 10) (u13.2 0 14) (u13.2 0 15) (u13.2 0 16) (u13.2 0 17) (u13.2 0 19) (u13.2 0 20) (u13.2 0 21) (u13.2 0 22) (u13.2 0 23) (u13.2 0 30) (u13.2 0 31) (upd (u13.2 4) (Int32.toNatClampNeg v3_2) u13.1) (u13.2 5) (u13.2 6) (u13.2 7) (u13.2 8) (u13.2 10) (u13.2 12) (u13.2 13) (u13.2 14) (u13.2 19) (u13.2 25) (u13.2 26) (zL 27) (u13.2 28) (u13.2 29) (u13.2 30)) := hD
        refine lv_iinc (v := (v3_2 + 1)) (lv' := [(3, .int (v3_2 + 1)), (0, .ref (qS 0)), (1, .ref (qS 4)), (2, .int a2)]) hx hb (dAt zX6_passRow_0 13 rfl) hl (k := 3) rfl rfl (by decide) rfl (fun ls hl => ?_)
        refine lv_goto (tgt := 2) hx hb (dAt zX6_passRow_0 14 rfl) (by decide) ?_
        have hP : va_P D vwCl (w6 cI cJ cZ qS (upA u13.2 4 (upd (u13.2 4) (Int32.toNatClampNeg v3_2) u13.1)) zL) H := hP
        have hD : va_D A (w6 cI cJ cZ qS (upA u13.2 4 (upd (u13.2 4) (Int32.toNatClampNeg v3_2) u13.1)) zL) := hD
        exact ih_2 (v3_2 + 1) (upA u13.2 4 (upd (u13.2 4) (Int32.toNatClampNeg v3_2) u13.1)) _ _ _ h hP hD hS (lv_sub hl [1, 2, 3, 0] rfl)
  exact L_2 n 0 zS _ _ _ h hP hD hS (lv_sub hl [1, 2, 3, 0] rfl)
def b_X6_passRow__s4_2 (n : Nat) (zL : TL) (a2 : Int32) (s_2 : Int32 × TI) (k_2 : Int32 × TI → Option TI) : Option TI := (if a2 ≤ s_2.1 then some s_2.2 else (gd (inB s_2.1 100) (((m_X6_pass n s_2.2 zL ((s_2.2 5) (Int32.toNatClampNeg s_2.1))).bind fun u13 => (gd (inB s_2.1 100) ((k_2 ((s_2.1 + 1), (upA u13.2 5 (upd (u13.2 5) (Int32.toNatClampNeg s_2.1) u13.1))))))))))
def m_X6_passRow__s4 (n : Nat) (zS : TI) (zL : TL) (a2 : Int32) : Option TI := (loopF (b_X6_passRow__s4_2 n zL a2 ) n (0, zS))
set_option maxHeartbeats 4000000 in
set_option maxRecDepth 100000 in
theorem c_X6_passRow__s4 (l : Launch) (D : va_G) (cI cJ cZ : ClassId) (n : Nat) (qS : Nat → Nat) (sz : Nat) (zS : TI) (zL : TL) (a2 : Int32) (out : TI) (hm : m_X6_passRow__s4 n zS zL a2 = some out) : Met l yX6_passRow (wsM yX6_passRow cX6_passRow 4 none) { frames := 1, cells := 0, slots := 0, locals := 22 } (xPre D (kT cI cJ cZ) (w6 cI cJ cZ qS zS zL) sz [.ref (qS 0), .ref (qS 5), .int a2]) (xQv D (kT cI cJ cZ) (w6 cI cJ cZ qS zS zL) (w6 cI cJ cZ qS out zL) sz) 0 0 (va_A (w6 cI cJ cZ qS zS zL) sz) := by
  refine Met.ofW (cc := cX6_passRow) (maxL := 4) (ret := none) (by decide) rfl ?_
  intro p e s m args below meth c s₁ B hml hv
  obtain ⟨hv, hsz, hP, hK, hD0, hN⟩ := hv
  have hx := B.exec; have hb := B.bytes; have hr := B.returns
  have hts := atoms_spec (ws := (wsM yX6_passRow cX6_passRow 4 none)) B.pre
  have hown : s.vm.findClass RX6 = some m.cls := findClass_of_methodNamed B.named
  have hlocks := B.notSynchronized
  subst hsz
  have hD := hD0.self (sz := s.heap.size)
  obtain ⟨A, hAe⟩ : ∃ A, A = va_A (w6 cI cJ cZ qS zS zL) s.heap.size := ⟨_, rfl⟩
  rw [← hAe] at hD
  have hA : ∀ q : Nat, s.heap.size ≤ q → A q := fun q h => by rw [hAe]; exact Or.inr h
  have htl : ∀ w ∈ wsL_law, w.before args s = true := fun w h => hts w (List.mem_cons_of_mem _ h)
  refine xHead (R' := { frames := 1, cells := 0, slots := 0, locals := 22 }) rfl (fun Q H hQ hH => ?_)
  have hP : va_P D vwCl (w6 cI cJ cZ qS zS zL) H := by rw [hH]; exact hP
  have hS : va_S A s.heap H [] := by rw [hH]; exact va_S.rf
  refine xStart hv (Nat.le_of_ble_eq_true rfl) (lv := [(0, .ref (qS 0)), (1, .ref (qS 5)), (2, .int a2)]) rfl (fun ls hl => ?_)
  have h := hm
  unfold m_X6_passRow__s4 at h
  refine lv_iconst (v := 0) hx hb (dAt zX6_passRow_0 0 rfl) (by decide) ?_
  refine lv_istore_n (lv' := [(3, .int 0), (0, .ref (qS 0)), (1, .ref (qS 5)), (2, .int a2)]) hx hb (dAt zX6_passRow_0 1 rfl) rfl hl (by decide) rfl (fun ls hl => ?_)
  have L_2 : ∀ (j_2 : Nat) (v3_2 : Int32) (zS_2 : TI) (H : Heap) (locs : List Loc) (ls : Array Slot), loopF (b_X6_passRow__s4_2 n zL a2) j_2 (v3_2, zS_2) = some out → va_P D vwCl (w6 cI cJ cZ qS zS_2 zL) H → va_D A (w6 cI cJ cZ qS zS_2 zL) → va_S A s.heap H locs → lv_has ls 4 [(0, .ref (qS 0)), (1, .ref (qS 5)), (2, .int a2), (3, .int v3_2)] → W p l e { frames := 1, cells := 0, slots := 0, locals := 22 } s m args below meth c H locs 0 0 Q (F0 m 2 ls []) := by
    intro j_2
    induction j_2 with
    | zero => intro v3_2 zS_2 H locs ls h hP hD hS hl; exact loopF_0 h
    | succ j_2 ih_2 =>
      intro v3_2 zS_2 H locs ls h hP hD hS hl
      have h := loopF_s h
      unfold b_X6_passRow__s4_2 at h
      refine lv_iload_n hx hb (dAt zX6_passRow_0 2 rfl) rfl (lv_at hl 3 rfl) ?_
      refine lv_iload_n hx hb (dAt zX6_passRow_0 3 rfl) rfl (lv_at hl 2 rfl) ?_
      refine lv_icmp_ge (tgt := 23) hx hb (dAt zX6_passRow_0 4 rfl) (by decide) (fun c_4 => ?_) (fun c_4 => ?_)
      · have h := q_pos c_4 h
        obtain rfl := q_some h
        exact xRv hx hb hr hlocks hQ hAe hP hD hK hS (dAt zX6_passRow_0 15 rfl)
      · have h := q_neg c_4 h
        refine lv_aload_n hx hb (dAt zX6_passRow_0 5 rfl) rfl (lv_at hl 1 rfl) ?_
        refine lv_iload_n hx hb (dAt zX6_passRow_0 6 rfl) rfl (lv_at hl 3 rfl) ?_
        refine lv_aload_n hx hb (dAt zX6_passRow_0 7 rfl) rfl (lv_at hl 0 rfl) ?_
        refine lv_aload_n hx hb (dAt zX6_passRow_0 8 rfl) rfl (lv_at hl 1 rfl) ?_
        refine lv_iload_n hx hb (dAt zX6_passRow_0 9 rfl) rfl (lv_at hl 3 rfl) ?_
        obtain ⟨hi_12, h⟩ := q_in h
        refine va_iald hx hb hK hP 2 0 rfl rfl hi_12 (dAt zX6_passRow_0 10 rfl) ?_
        obtain ⟨u13, hu13, h⟩ := q_bind h
        refine xFi (wc := (w6 cI cJ cZ qS zS_2 zL)) (w1 := (w6 cI cJ cZ qS u13.2 zL)) (wr := ([] : va_W)) (ws2 := (w6 cI cJ cZ qS u13.2 zL)) (va_runV (As := [.int ((zS_2 5) (Int32.toNatClampNeg v3_2))]) (rest := [.int v3_2, .ref (qS 5)]) ⟨hx, hb, hml, hown, htl⟩ (c_X6_pass l D cI cJ cZ n qS H.size zS_2 zL ((zS_2 5) (Int32.toNatClampNeg v3_2)) u13 hu13) (cwV 1 htl (gV W_796 W_797 W_798 W_5 W_799) rfl rfl rfl (by decide +kernel) ⟨Nat.le_of_ble_eq_true rfl, Nat.le_of_ble_eq_true rfl⟩) (xPV hP hD hK hN 0 rfl rfl) rfl rfl hl.1 rfl (lv_room (Nat.le_of_ble_eq_true rfl)) (dAt zX6_passRow_0 11 rfl) ⟨Nat.zero_le _, Nat.zero_le _⟩) hS hA hP hD [0, 1, 2, 3, 4, 5, 6, 7, 8, 9, 10, 11, 12, 13, 14, 15, 16] [] [0, 1, 2, 3, 4, 5, 6, 7, 8, 9, 10, 11, 12, 13, 14, 15, 16] rfl rfl (by decide) (by decide) rfl (by decide) (fun H locs hP hD hS => ?_)
        obtain ⟨hi_16, h⟩ := q_in h
        refine va_iast hx hb hK hP hD hS 2 0 rfl rfl hi_16 (dAt zX6_passRow_0 12 rfl) (fun H locs hP hD hS => ?_)
        have hP : va_P D vwCl (w6x cI cJ cZ qS (u13.2 0 0) (u13.2 0 1) (u13.2 0 2) (u13.2 0 8) (u13.2 0 10) (u13.2 0 14) (u13.2 0 15) (u13.2 0 16) (u13.2 0 17) (u13.2 0 19) (u13.2 0 20) (u13.2 0 21) (u13.2 0 22) (u13.2 0 23) (u13.2 0 30) (u13.2 0 31) (u13.2 4) (upd (u13.2 5) (Int32.toNatClampNeg v3_2) u13.1) (u13.2 6) (u13.2 7) (u13.2 8) (u13.2 10) (u13.2 12) (u13.2 13) (u13.2 14) (u13.2 19) (u13.2 25) (u13.2 26) (zL 27) (u13.2 28) (u13.2 29) (u13.2 30)) H := hP
        have hD : va_D A (w6x cI cJ cZ qS (u13.2 0 0) (u13.2 0 1) (u13.2 0 2) (u13.2 0 8) (u13.2 0 10) (u13.2 0 14) (u13.2 0 15) (u13.2 0 16) (u13.2 0 17) (u13.2 0 19) (u13.2 0 20) (u13.2 0 21) (u13.2 0 22) (u13.2 0 23) (u13.2 0 30) (u13.2 0 31) (u13.2 4) (upd (u13.2 5) (Int32.toNatClampNeg v3_2) u13.1) (u13.2 6) (u13.2 7) (u13.2 8) (u13.2 10) (u13.2 12) (u13.2 13) (u13.2 14) (u13.2 19) (u13.2 25) (u13.2 26) (zL 27) (u13.2 28) (u13.2 29) (u13.2 30)) := hD
        refine lv_iinc (v := (v3_2 + 1)) (lv' := [(3, .int (v3_2 + 1)), (0, .ref (qS 0)), (1, .ref (qS 5)), (2, .int a2)]) hx hb (dAt zX6_passRow_0 13 rfl) hl (k := 3) rfl rfl (by decide) rfl (fun ls hl => ?_)
        refine lv_goto (tgt := 2) hx hb (dAt zX6_passRow_0 14 rfl) (by decide) ?_
        have hP : va_P D vwCl (w6 cI cJ cZ qS (upA u13.2 5 (upd (u13.2 5) (Int32.toNatClampNeg v3_2) u13.1)) zL) H := hP
        have hD : va_D A (w6 cI cJ cZ qS (upA u13.2 5 (upd (u13.2 5) (Int32.toNatClampNeg v3_2) u13.1)) zL) := hD
        exact ih_2 (v3_2 + 1) (upA u13.2 5 (upd (u13.2 5) (Int32.toNatClampNeg v3_2) u13.1)) _ _ _ h hP hD hS (lv_sub hl [1, 2, 3, 0] rfl)
  exact L_2 n 0 zS _ _ _ h hP hD hS (lv_sub hl [1, 2, 3, 0] rfl)
def b_X6_passRow__s5_2 (n : Nat) (zL : TL) (a2 : Int32) (s_2 : Int32 × TI) (k_2 : Int32 × TI → Option TI) : Option TI := (if a2 ≤ s_2.1 then some s_2.2 else (gd (inB s_2.1 4) (((m_X6_pass n s_2.2 zL ((s_2.2 6) (Int32.toNatClampNeg s_2.1))).bind fun u13 => (gd (inB s_2.1 4) ((k_2 ((s_2.1 + 1), (upA u13.2 6 (upd (u13.2 6) (Int32.toNatClampNeg s_2.1) u13.1))))))))))
def m_X6_passRow__s5 (n : Nat) (zS : TI) (zL : TL) (a2 : Int32) : Option TI := (loopF (b_X6_passRow__s5_2 n zL a2 ) n (0, zS))
set_option maxHeartbeats 4000000 in
set_option maxRecDepth 100000 in
theorem c_X6_passRow__s5 (l : Launch) (D : va_G) (cI cJ cZ : ClassId) (n : Nat) (qS : Nat → Nat) (sz : Nat) (zS : TI) (zL : TL) (a2 : Int32) (out : TI) (hm : m_X6_passRow__s5 n zS zL a2 = some out) : Met l yX6_passRow (wsM yX6_passRow cX6_passRow 4 none) { frames := 1, cells := 0, slots := 0, locals := 22 } (xPre D (kT cI cJ cZ) (w6 cI cJ cZ qS zS zL) sz [.ref (qS 0), .ref (qS 6), .int a2]) (xQv D (kT cI cJ cZ) (w6 cI cJ cZ qS zS zL) (w6 cI cJ cZ qS out zL) sz) 0 0 (va_A (w6 cI cJ cZ qS zS zL) sz) := by
  refine Met.ofW (cc := cX6_passRow) (maxL := 4) (ret := none) (by decide) rfl ?_
  intro p e s m args below meth c s₁ B hml hv
  obtain ⟨hv, hsz, hP, hK, hD0, hN⟩ := hv
  have hx := B.exec; have hb := B.bytes; have hr := B.returns
  have hts := atoms_spec (ws := (wsM yX6_passRow cX6_passRow 4 none)) B.pre
  have hown : s.vm.findClass RX6 = some m.cls := findClass_of_methodNamed B.named
  have hlocks := B.notSynchronized
  subst hsz
  have hD := hD0.self (sz := s.heap.size)
  obtain ⟨A, hAe⟩ : ∃ A, A = va_A (w6 cI cJ cZ qS zS zL) s.heap.size := ⟨_, rfl⟩
  rw [← hAe] at hD
  have hA : ∀ q : Nat, s.heap.size ≤ q → A q := fun q h => by rw [hAe]; exact Or.inr h
  have htl : ∀ w ∈ wsL_law, w.before args s = true := fun w h => hts w (List.mem_cons_of_mem _ h)
  refine xHead (R' := { frames := 1, cells := 0, slots := 0, locals := 22 }) rfl (fun Q H hQ hH => ?_)
  have hP : va_P D vwCl (w6 cI cJ cZ qS zS zL) H := by rw [hH]; exact hP
  have hS : va_S A s.heap H [] := by rw [hH]; exact va_S.rf
  refine xStart hv (Nat.le_of_ble_eq_true rfl) (lv := [(0, .ref (qS 0)), (1, .ref (qS 6)), (2, .int a2)]) rfl (fun ls hl => ?_)
  have h := hm
  unfold m_X6_passRow__s5 at h
  refine lv_iconst (v := 0) hx hb (dAt zX6_passRow_0 0 rfl) (by decide) ?_
  refine lv_istore_n (lv' := [(3, .int 0), (0, .ref (qS 0)), (1, .ref (qS 6)), (2, .int a2)]) hx hb (dAt zX6_passRow_0 1 rfl) rfl hl (by decide) rfl (fun ls hl => ?_)
  have L_2 : ∀ (j_2 : Nat) (v3_2 : Int32) (zS_2 : TI) (H : Heap) (locs : List Loc) (ls : Array Slot), loopF (b_X6_passRow__s5_2 n zL a2) j_2 (v3_2, zS_2) = some out → va_P D vwCl (w6 cI cJ cZ qS zS_2 zL) H → va_D A (w6 cI cJ cZ qS zS_2 zL) → va_S A s.heap H locs → lv_has ls 4 [(0, .ref (qS 0)), (1, .ref (qS 6)), (2, .int a2), (3, .int v3_2)] → W p l e { frames := 1, cells := 0, slots := 0, locals := 22 } s m args below meth c H locs 0 0 Q (F0 m 2 ls []) := by
    intro j_2
    induction j_2 with
    | zero => intro v3_2 zS_2 H locs ls h hP hD hS hl; exact loopF_0 h
    | succ j_2 ih_2 =>
      intro v3_2 zS_2 H locs ls h hP hD hS hl
      have h := loopF_s h
      unfold b_X6_passRow__s5_2 at h
      refine lv_iload_n hx hb (dAt zX6_passRow_0 2 rfl) rfl (lv_at hl 3 rfl) ?_
      refine lv_iload_n hx hb (dAt zX6_passRow_0 3 rfl) rfl (lv_at hl 2 rfl) ?_
      refine lv_icmp_ge (tgt := 23) hx hb (dAt zX6_passRow_0 4 rfl) (by decide) (fun c_4 => ?_) (fun c_4 => ?_)
      · have h := q_pos c_4 h
        obtain rfl := q_some h
        exact xRv hx hb hr hlocks hQ hAe hP hD hK hS (dAt zX6_passRow_0 15 rfl)
      · have h := q_neg c_4 h
        refine lv_aload_n hx hb (dAt zX6_passRow_0 5 rfl) rfl (lv_at hl 1 rfl) ?_
        refine lv_iload_n hx hb (dAt zX6_passRow_0 6 rfl) rfl (lv_at hl 3 rfl) ?_
        refine lv_aload_n hx hb (dAt zX6_passRow_0 7 rfl) rfl (lv_at hl 0 rfl) ?_
        refine lv_aload_n hx hb (dAt zX6_passRow_0 8 rfl) rfl (lv_at hl 1 rfl) ?_
        refine lv_iload_n hx hb (dAt zX6_passRow_0 9 rfl) rfl (lv_at hl 3 rfl) ?_
        obtain ⟨hi_12, h⟩ := q_in h
        refine va_iald hx hb hK hP 3 0 rfl rfl hi_12 (dAt zX6_passRow_0 10 rfl) ?_
        obtain ⟨u13, hu13, h⟩ := q_bind h
        refine xFi (wc := (w6 cI cJ cZ qS zS_2 zL)) (w1 := (w6 cI cJ cZ qS u13.2 zL)) (wr := ([] : va_W)) (ws2 := (w6 cI cJ cZ qS u13.2 zL)) (va_runV (As := [.int ((zS_2 6) (Int32.toNatClampNeg v3_2))]) (rest := [.int v3_2, .ref (qS 6)]) ⟨hx, hb, hml, hown, htl⟩ (c_X6_pass l D cI cJ cZ n qS H.size zS_2 zL ((zS_2 6) (Int32.toNatClampNeg v3_2)) u13 hu13) (cwV 1 htl (gV W_796 W_797 W_798 W_5 W_799) rfl rfl rfl (by decide +kernel) ⟨Nat.le_of_ble_eq_true rfl, Nat.le_of_ble_eq_true rfl⟩) (xPV hP hD hK hN 0 rfl rfl) rfl rfl hl.1 rfl (lv_room (Nat.le_of_ble_eq_true rfl)) (dAt zX6_passRow_0 11 rfl) ⟨Nat.zero_le _, Nat.zero_le _⟩) hS hA hP hD [0, 1, 2, 3, 4, 5, 6, 7, 8, 9, 10, 11, 12, 13, 14, 15, 16] [] [0, 1, 2, 3, 4, 5, 6, 7, 8, 9, 10, 11, 12, 13, 14, 15, 16] rfl rfl (by decide) (by decide) rfl (by decide) (fun H locs hP hD hS => ?_)
        obtain ⟨hi_16, h⟩ := q_in h
        refine va_iast hx hb hK hP hD hS 3 0 rfl rfl hi_16 (dAt zX6_passRow_0 12 rfl) (fun H locs hP hD hS => ?_)
        have hP : va_P D vwCl (w6x cI cJ cZ qS (u13.2 0 0) (u13.2 0 1) (u13.2 0 2) (u13.2 0 8) (u13.2 0 10) (u13.2 0 14) (u13.2 0 15) (u13.2 0 16) (u13.2 0 17) (u13.2 0 19) (u13.2 0 20) (u13.2 0 21) (u13.2 0 22) (u13.2 0 23) (u13.2 0 30) (u13.2 0 31) (u13.2 4) (u13.2 5) (upd (u13.2 6) (Int32.toNatClampNeg v3_2) u13.1) (u13.2 7) (u13.2 8) (u13.2 10) (u13.2 12) (u13.2 13) (u13.2 14) (u13.2 19) (u13.2 25) (u13.2 26) (zL 27) (u13.2 28) (u13.2 29) (u13.2 30)) H := hP
        have hD : va_D A (w6x cI cJ cZ qS (u13.2 0 0) (u13.2 0 1) (u13.2 0 2) (u13.2 0 8) (u13.2 0 10) (u13.2 0 14) (u13.2 0 15) (u13.2 0 16) (u13.2 0 17) (u13.2 0 19) (u13.2 0 20) (u13.2 0 21) (u13.2 0 22) (u13.2 0 23) (u13.2 0 30) (u13.2 0 31) (u13.2 4) (u13.2 5) (upd (u13.2 6) (Int32.toNatClampNeg v3_2) u13.1) (u13.2 7) (u13.2 8) (u13.2 10) (u13.2 12) (u13.2 13) (u13.2 14) (u13.2 19) (u13.2 25) (u13.2 26) (zL 27) (u13.2 28) (u13.2 29) (u13.2 30)) := hD
        refine lv_iinc (v := (v3_2 + 1)) (lv' := [(3, .int (v3_2 + 1)), (0, .ref (qS 0)), (1, .ref (qS 6)), (2, .int a2)]) hx hb (dAt zX6_passRow_0 13 rfl) hl (k := 3) rfl rfl (by decide) rfl (fun ls hl => ?_)
        refine lv_goto (tgt := 2) hx hb (dAt zX6_passRow_0 14 rfl) (by decide) ?_
        have hP : va_P D vwCl (w6 cI cJ cZ qS (upA u13.2 6 (upd (u13.2 6) (Int32.toNatClampNeg v3_2) u13.1)) zL) H := hP
        have hD : va_D A (w6 cI cJ cZ qS (upA u13.2 6 (upd (u13.2 6) (Int32.toNatClampNeg v3_2) u13.1)) zL) := hD
        exact ih_2 (v3_2 + 1) (upA u13.2 6 (upd (u13.2 6) (Int32.toNatClampNeg v3_2) u13.1)) _ _ _ h hP hD hS (lv_sub hl [1, 2, 3, 0] rfl)
  exact L_2 n 0 zS _ _ _ h hP hD hS (lv_sub hl [1, 2, 3, 0] rfl)
def b_X6_passRow__s6_2 (n : Nat) (zL : TL) (a2 : Int32) (s_2 : Int32 × TI) (k_2 : Int32 × TI → Option TI) : Option TI := (if a2 ≤ s_2.1 then some s_2.2 else (gd (inB s_2.1 8) (((m_X6_pass n s_2.2 zL ((s_2.2 7) (Int32.toNatClampNeg s_2.1))).bind fun u13 => (gd (inB s_2.1 8) ((k_2 ((s_2.1 + 1), (upA u13.2 7 (upd (u13.2 7) (Int32.toNatClampNeg s_2.1) u13.1))))))))))
def m_X6_passRow__s6 (n : Nat) (zS : TI) (zL : TL) (a2 : Int32) : Option TI := (loopF (b_X6_passRow__s6_2 n zL a2 ) n (0, zS))
set_option maxHeartbeats 4000000 in
set_option maxRecDepth 100000 in
theorem c_X6_passRow__s6 (l : Launch) (D : va_G) (cI cJ cZ : ClassId) (n : Nat) (qS : Nat → Nat) (sz : Nat) (zS : TI) (zL : TL) (a2 : Int32) (out : TI) (hm : m_X6_passRow__s6 n zS zL a2 = some out) : Met l yX6_passRow (wsM yX6_passRow cX6_passRow 4 none) { frames := 1, cells := 0, slots := 0, locals := 22 } (xPre D (kT cI cJ cZ) (w6 cI cJ cZ qS zS zL) sz [.ref (qS 0), .ref (qS 7), .int a2]) (xQv D (kT cI cJ cZ) (w6 cI cJ cZ qS zS zL) (w6 cI cJ cZ qS out zL) sz) 0 0 (va_A (w6 cI cJ cZ qS zS zL) sz) := by
  refine Met.ofW (cc := cX6_passRow) (maxL := 4) (ret := none) (by decide) rfl ?_
  intro p e s m args below meth c s₁ B hml hv
  obtain ⟨hv, hsz, hP, hK, hD0, hN⟩ := hv
  have hx := B.exec; have hb := B.bytes; have hr := B.returns
  have hts := atoms_spec (ws := (wsM yX6_passRow cX6_passRow 4 none)) B.pre
  have hown : s.vm.findClass RX6 = some m.cls := findClass_of_methodNamed B.named
  have hlocks := B.notSynchronized
  subst hsz
  have hD := hD0.self (sz := s.heap.size)
  obtain ⟨A, hAe⟩ : ∃ A, A = va_A (w6 cI cJ cZ qS zS zL) s.heap.size := ⟨_, rfl⟩
  rw [← hAe] at hD
  have hA : ∀ q : Nat, s.heap.size ≤ q → A q := fun q h => by rw [hAe]; exact Or.inr h
  have htl : ∀ w ∈ wsL_law, w.before args s = true := fun w h => hts w (List.mem_cons_of_mem _ h)
  refine xHead (R' := { frames := 1, cells := 0, slots := 0, locals := 22 }) rfl (fun Q H hQ hH => ?_)
  have hP : va_P D vwCl (w6 cI cJ cZ qS zS zL) H := by rw [hH]; exact hP
  have hS : va_S A s.heap H [] := by rw [hH]; exact va_S.rf
  refine xStart hv (Nat.le_of_ble_eq_true rfl) (lv := [(0, .ref (qS 0)), (1, .ref (qS 7)), (2, .int a2)]) rfl (fun ls hl => ?_)
  have h := hm
  unfold m_X6_passRow__s6 at h
  refine lv_iconst (v := 0) hx hb (dAt zX6_passRow_0 0 rfl) (by decide) ?_
  refine lv_istore_n (lv' := [(3, .int 0), (0, .ref (qS 0)), (1, .ref (qS 7)), (2, .int a2)]) hx hb (dAt zX6_passRow_0 1 rfl) rfl hl (by decide) rfl (fun ls hl => ?_)
  have L_2 : ∀ (j_2 : Nat) (v3_2 : Int32) (zS_2 : TI) (H : Heap) (locs : List Loc) (ls : Array Slot), loopF (b_X6_passRow__s6_2 n zL a2) j_2 (v3_2, zS_2) = some out → va_P D vwCl (w6 cI cJ cZ qS zS_2 zL) H → va_D A (w6 cI cJ cZ qS zS_2 zL) → va_S A s.heap H locs → lv_has ls 4 [(0, .ref (qS 0)), (1, .ref (qS 7)), (2, .int a2), (3, .int v3_2)] → W p l e { frames := 1, cells := 0, slots := 0, locals := 22 } s m args below meth c H locs 0 0 Q (F0 m 2 ls []) := by
    intro j_2
    induction j_2 with
    | zero => intro v3_2 zS_2 H locs ls h hP hD hS hl; exact loopF_0 h
    | succ j_2 ih_2 =>
      intro v3_2 zS_2 H locs ls h hP hD hS hl
      have h := loopF_s h
      unfold b_X6_passRow__s6_2 at h
      refine lv_iload_n hx hb (dAt zX6_passRow_0 2 rfl) rfl (lv_at hl 3 rfl) ?_
      refine lv_iload_n hx hb (dAt zX6_passRow_0 3 rfl) rfl (lv_at hl 2 rfl) ?_
      refine lv_icmp_ge (tgt := 23) hx hb (dAt zX6_passRow_0 4 rfl) (by decide) (fun c_4 => ?_) (fun c_4 => ?_)
      · have h := q_pos c_4 h
        obtain rfl := q_some h
        exact xRv hx hb hr hlocks hQ hAe hP hD hK hS (dAt zX6_passRow_0 15 rfl)
      · have h := q_neg c_4 h
        refine lv_aload_n hx hb (dAt zX6_passRow_0 5 rfl) rfl (lv_at hl 1 rfl) ?_
        refine lv_iload_n hx hb (dAt zX6_passRow_0 6 rfl) rfl (lv_at hl 3 rfl) ?_
        refine lv_aload_n hx hb (dAt zX6_passRow_0 7 rfl) rfl (lv_at hl 0 rfl) ?_
        refine lv_aload_n hx hb (dAt zX6_passRow_0 8 rfl) rfl (lv_at hl 1 rfl) ?_
        refine lv_iload_n hx hb (dAt zX6_passRow_0 9 rfl) rfl (lv_at hl 3 rfl) ?_
        obtain ⟨hi_12, h⟩ := q_in h
        refine va_iald hx hb hK hP 4 0 rfl rfl hi_12 (dAt zX6_passRow_0 10 rfl) ?_
        obtain ⟨u13, hu13, h⟩ := q_bind h
        refine xFi (wc := (w6 cI cJ cZ qS zS_2 zL)) (w1 := (w6 cI cJ cZ qS u13.2 zL)) (wr := ([] : va_W)) (ws2 := (w6 cI cJ cZ qS u13.2 zL)) (va_runV (As := [.int ((zS_2 7) (Int32.toNatClampNeg v3_2))]) (rest := [.int v3_2, .ref (qS 7)]) ⟨hx, hb, hml, hown, htl⟩ (c_X6_pass l D cI cJ cZ n qS H.size zS_2 zL ((zS_2 7) (Int32.toNatClampNeg v3_2)) u13 hu13) (cwV 1 htl (gV W_796 W_797 W_798 W_5 W_799) rfl rfl rfl (by decide +kernel) ⟨Nat.le_of_ble_eq_true rfl, Nat.le_of_ble_eq_true rfl⟩) (xPV hP hD hK hN 0 rfl rfl) rfl rfl hl.1 rfl (lv_room (Nat.le_of_ble_eq_true rfl)) (dAt zX6_passRow_0 11 rfl) ⟨Nat.zero_le _, Nat.zero_le _⟩) hS hA hP hD [0, 1, 2, 3, 4, 5, 6, 7, 8, 9, 10, 11, 12, 13, 14, 15, 16] [] [0, 1, 2, 3, 4, 5, 6, 7, 8, 9, 10, 11, 12, 13, 14, 15, 16] rfl rfl (by decide) (by decide) rfl (by decide) (fun H locs hP hD hS => ?_)
        obtain ⟨hi_16, h⟩ := q_in h
        refine va_iast hx hb hK hP hD hS 4 0 rfl rfl hi_16 (dAt zX6_passRow_0 12 rfl) (fun H locs hP hD hS => ?_)
        have hP : va_P D vwCl (w6x cI cJ cZ qS (u13.2 0 0) (u13.2 0 1) (u13.2 0 2) (u13.2 0 8) (u13.2 0 10) (u13.2 0 14) (u13.2 0 15) (u13.2 0 16) (u13.2 0 17) (u13.2 0 19) (u13.2 0 20) (u13.2 0 21) (u13.2 0 22) (u13.2 0 23) (u13.2 0 30) (u13.2 0 31) (u13.2 4) (u13.2 5) (u13.2 6) (upd (u13.2 7) (Int32.toNatClampNeg v3_2) u13.1) (u13.2 8) (u13.2 10) (u13.2 12) (u13.2 13) (u13.2 14) (u13.2 19) (u13.2 25) (u13.2 26) (zL 27) (u13.2 28) (u13.2 29) (u13.2 30)) H := hP
        have hD : va_D A (w6x cI cJ cZ qS (u13.2 0 0) (u13.2 0 1) (u13.2 0 2) (u13.2 0 8) (u13.2 0 10) (u13.2 0 14) (u13.2 0 15) (u13.2 0 16) (u13.2 0 17) (u13.2 0 19) (u13.2 0 20) (u13.2 0 21) (u13.2 0 22) (u13.2 0 23) (u13.2 0 30) (u13.2 0 31) (u13.2 4) (u13.2 5) (u13.2 6) (upd (u13.2 7) (Int32.toNatClampNeg v3_2) u13.1) (u13.2 8) (u13.2 10) (u13.2 12) (u13.2 13) (u13.2 14) (u13.2 19) (u13.2 25) (u13.2 26) (zL 27) (u13.2 28) (u13.2 29) (u13.2 30)) := hD
        refine lv_iinc (v := (v3_2 + 1)) (lv' := [(3, .int (v3_2 + 1)), (0, .ref (qS 0)), (1, .ref (qS 7)), (2, .int a2)]) hx hb (dAt zX6_passRow_0 13 rfl) hl (k := 3) rfl rfl (by decide) rfl (fun ls hl => ?_)
        refine lv_goto (tgt := 2) hx hb (dAt zX6_passRow_0 14 rfl) (by decide) ?_
        have hP : va_P D vwCl (w6 cI cJ cZ qS (upA u13.2 7 (upd (u13.2 7) (Int32.toNatClampNeg v3_2) u13.1)) zL) H := hP
        have hD : va_D A (w6 cI cJ cZ qS (upA u13.2 7 (upd (u13.2 7) (Int32.toNatClampNeg v3_2) u13.1)) zL) := hD
        exact ih_2 (v3_2 + 1) (upA u13.2 7 (upd (u13.2 7) (Int32.toNatClampNeg v3_2) u13.1)) _ _ _ h hP hD hS (lv_sub hl [1, 2, 3, 0] rfl)
  exact L_2 n 0 zS _ _ _ h hP hD hS (lv_sub hl [1, 2, 3, 0] rfl)
def b_X6_passRow__s7_2 (n : Nat) (zL : TL) (a2 : Int32) (s_2 : Int32 × TI) (k_2 : Int32 × TI → Option TI) : Option TI := (if a2 ≤ s_2.1 then some s_2.2 else (gd (inB s_2.1 8) (((m_X6_pass n s_2.2 zL ((s_2.2 8) (Int32.toNatClampNeg s_2.1))).bind fun u13 => (gd (inB s_2.1 8) ((k_2 ((s_2.1 + 1), (upA u13.2 8 (upd (u13.2 8) (Int32.toNatClampNeg s_2.1) u13.1))))))))))
def m_X6_passRow__s7 (n : Nat) (zS : TI) (zL : TL) (a2 : Int32) : Option TI := (loopF (b_X6_passRow__s7_2 n zL a2 ) n (0, zS))
set_option maxHeartbeats 4000000 in
set_option maxRecDepth 100000 in
theorem c_X6_passRow__s7 (l : Launch) (D : va_G) (cI cJ cZ : ClassId) (n : Nat) (qS : Nat → Nat) (sz : Nat) (zS : TI) (zL : TL) (a2 : Int32) (out : TI) (hm : m_X6_passRow__s7 n zS zL a2 = some out) : Met l yX6_passRow (wsM yX6_passRow cX6_passRow 4 none) { frames := 1, cells := 0, slots := 0, locals := 22 } (xPre D (kT cI cJ cZ) (w6 cI cJ cZ qS zS zL) sz [.ref (qS 0), .ref (qS 8), .int a2]) (xQv D (kT cI cJ cZ) (w6 cI cJ cZ qS zS zL) (w6 cI cJ cZ qS out zL) sz) 0 0 (va_A (w6 cI cJ cZ qS zS zL) sz) := by
  refine Met.ofW (cc := cX6_passRow) (maxL := 4) (ret := none) (by decide) rfl ?_
  intro p e s m args below meth c s₁ B hml hv
  obtain ⟨hv, hsz, hP, hK, hD0, hN⟩ := hv
  have hx := B.exec; have hb := B.bytes; have hr := B.returns
  have hts := atoms_spec (ws := (wsM yX6_passRow cX6_passRow 4 none)) B.pre
  have hown : s.vm.findClass RX6 = some m.cls := findClass_of_methodNamed B.named
  have hlocks := B.notSynchronized
  subst hsz
  have hD := hD0.self (sz := s.heap.size)
  obtain ⟨A, hAe⟩ : ∃ A, A = va_A (w6 cI cJ cZ qS zS zL) s.heap.size := ⟨_, rfl⟩
  rw [← hAe] at hD
  have hA : ∀ q : Nat, s.heap.size ≤ q → A q := fun q h => by rw [hAe]; exact Or.inr h
  have htl : ∀ w ∈ wsL_law, w.before args s = true := fun w h => hts w (List.mem_cons_of_mem _ h)
  refine xHead (R' := { frames := 1, cells := 0, slots := 0, locals := 22 }) rfl (fun Q H hQ hH => ?_)
  have hP : va_P D vwCl (w6 cI cJ cZ qS zS zL) H := by rw [hH]; exact hP
  have hS : va_S A s.heap H [] := by rw [hH]; exact va_S.rf
  refine xStart hv (Nat.le_of_ble_eq_true rfl) (lv := [(0, .ref (qS 0)), (1, .ref (qS 8)), (2, .int a2)]) rfl (fun ls hl => ?_)
  have h := hm
  unfold m_X6_passRow__s7 at h
  refine lv_iconst (v := 0) hx hb (dAt zX6_passRow_0 0 rfl) (by decide) ?_
  refine lv_istore_n (lv' := [(3, .int 0), (0, .ref (qS 0)), (1, .ref (qS 8)), (2, .int a2)]) hx hb (dAt zX6_passRow_0 1 rfl) rfl hl (by decide) rfl (fun ls hl => ?_)
  have L_2 : ∀ (j_2 : Nat) (v3_2 : Int32) (zS_2 : TI) (H : Heap) (locs : List Loc) (ls : Array Slot), loopF (b_X6_passRow__s7_2 n zL a2) j_2 (v3_2, zS_2) = some out → va_P D vwCl (w6 cI cJ cZ qS zS_2 zL) H → va_D A (w6 cI cJ cZ qS zS_2 zL) → va_S A s.heap H locs → lv_has ls 4 [(0, .ref (qS 0)), (1, .ref (qS 8)), (2, .int a2), (3, .int v3_2)] → W p l e { frames := 1, cells := 0, slots := 0, locals := 22 } s m args below meth c H locs 0 0 Q (F0 m 2 ls []) := by
    intro j_2
    induction j_2 with
    | zero => intro v3_2 zS_2 H locs ls h hP hD hS hl; exact loopF_0 h
    | succ j_2 ih_2 =>
      intro v3_2 zS_2 H locs ls h hP hD hS hl
      have h := loopF_s h
      unfold b_X6_passRow__s7_2 at h
      refine lv_iload_n hx hb (dAt zX6_passRow_0 2 rfl) rfl (lv_at hl 3 rfl) ?_
      refine lv_iload_n hx hb (dAt zX6_passRow_0 3 rfl) rfl (lv_at hl 2 rfl) ?_
      refine lv_icmp_ge (tgt := 23) hx hb (dAt zX6_passRow_0 4 rfl) (by decide) (fun c_4 => ?_) (fun c_4 => ?_)
      · have h := q_pos c_4 h
        obtain rfl := q_some h
        exact xRv hx hb hr hlocks hQ hAe hP hD hK hS (dAt zX6_passRow_0 15 rfl)
      · have h := q_neg c_4 h
        refine lv_aload_n hx hb (dAt zX6_passRow_0 5 rfl) rfl (lv_at hl 1 rfl) ?_
        refine lv_iload_n hx hb (dAt zX6_passRow_0 6 rfl) rfl (lv_at hl 3 rfl) ?_
        refine lv_aload_n hx hb (dAt zX6_passRow_0 7 rfl) rfl (lv_at hl 0 rfl) ?_
        refine lv_aload_n hx hb (dAt zX6_passRow_0 8 rfl) rfl (lv_at hl 1 rfl) ?_
        refine lv_iload_n hx hb (dAt zX6_passRow_0 9 rfl) rfl (lv_at hl 3 rfl) ?_
        obtain ⟨hi_12, h⟩ := q_in h
        refine va_iald hx hb hK hP 5 0 rfl rfl hi_12 (dAt zX6_passRow_0 10 rfl) ?_
        obtain ⟨u13, hu13, h⟩ := q_bind h
        refine xFi (wc := (w6 cI cJ cZ qS zS_2 zL)) (w1 := (w6 cI cJ cZ qS u13.2 zL)) (wr := ([] : va_W)) (ws2 := (w6 cI cJ cZ qS u13.2 zL)) (va_runV (As := [.int ((zS_2 8) (Int32.toNatClampNeg v3_2))]) (rest := [.int v3_2, .ref (qS 8)]) ⟨hx, hb, hml, hown, htl⟩ (c_X6_pass l D cI cJ cZ n qS H.size zS_2 zL ((zS_2 8) (Int32.toNatClampNeg v3_2)) u13 hu13) (cwV 1 htl (gV W_796 W_797 W_798 W_5 W_799) rfl rfl rfl (by decide +kernel) ⟨Nat.le_of_ble_eq_true rfl, Nat.le_of_ble_eq_true rfl⟩) (xPV hP hD hK hN 0 rfl rfl) rfl rfl hl.1 rfl (lv_room (Nat.le_of_ble_eq_true rfl)) (dAt zX6_passRow_0 11 rfl) ⟨Nat.zero_le _, Nat.zero_le _⟩) hS hA hP hD [0, 1, 2, 3, 4, 5, 6, 7, 8, 9, 10, 11, 12, 13, 14, 15, 16] [] [0, 1, 2, 3, 4, 5, 6, 7, 8, 9, 10, 11, 12, 13, 14, 15, 16] rfl rfl (by decide) (by decide) rfl (by decide) (fun H locs hP hD hS => ?_)
        obtain ⟨hi_16, h⟩ := q_in h
        refine va_iast hx hb hK hP hD hS 5 0 rfl rfl hi_16 (dAt zX6_passRow_0 12 rfl) (fun H locs hP hD hS => ?_)
        have hP : va_P D vwCl (w6x cI cJ cZ qS (u13.2 0 0) (u13.2 0 1) (u13.2 0 2) (u13.2 0 8) (u13.2 0 10) (u13.2 0 14) (u13.2 0 15) (u13.2 0 16) (u13.2 0 17) (u13.2 0 19) (u13.2 0 20) (u13.2 0 21) (u13.2 0 22) (u13.2 0 23) (u13.2 0 30) (u13.2 0 31) (u13.2 4) (u13.2 5) (u13.2 6) (u13.2 7) (upd (u13.2 8) (Int32.toNatClampNeg v3_2) u13.1) (u13.2 10) (u13.2 12) (u13.2 13) (u13.2 14) (u13.2 19) (u13.2 25) (u13.2 26) (zL 27) (u13.2 28) (u13.2 29) (u13.2 30)) H := hP
        have hD : va_D A (w6x cI cJ cZ qS (u13.2 0 0) (u13.2 0 1) (u13.2 0 2) (u13.2 0 8) (u13.2 0 10) (u13.2 0 14) (u13.2 0 15) (u13.2 0 16) (u13.2 0 17) (u13.2 0 19) (u13.2 0 20) (u13.2 0 21) (u13.2 0 22) (u13.2 0 23) (u13.2 0 30) (u13.2 0 31) (u13.2 4) (u13.2 5) (u13.2 6) (u13.2 7) (upd (u13.2 8) (Int32.toNatClampNeg v3_2) u13.1) (u13.2 10) (u13.2 12) (u13.2 13) (u13.2 14) (u13.2 19) (u13.2 25) (u13.2 26) (zL 27) (u13.2 28) (u13.2 29) (u13.2 30)) := hD
        refine lv_iinc (v := (v3_2 + 1)) (lv' := [(3, .int (v3_2 + 1)), (0, .ref (qS 0)), (1, .ref (qS 8)), (2, .int a2)]) hx hb (dAt zX6_passRow_0 13 rfl) hl (k := 3) rfl rfl (by decide) rfl (fun ls hl => ?_)
        refine lv_goto (tgt := 2) hx hb (dAt zX6_passRow_0 14 rfl) (by decide) ?_
        have hP : va_P D vwCl (w6 cI cJ cZ qS (upA u13.2 8 (upd (u13.2 8) (Int32.toNatClampNeg v3_2) u13.1)) zL) H := hP
        have hD : va_D A (w6 cI cJ cZ qS (upA u13.2 8 (upd (u13.2 8) (Int32.toNatClampNeg v3_2) u13.1)) zL) := hD
        exact ih_2 (v3_2 + 1) (upA u13.2 8 (upd (u13.2 8) (Int32.toNatClampNeg v3_2) u13.1)) _ _ _ h hP hD hS (lv_sub hl [1, 2, 3, 0] rfl)
  exact L_2 n 0 zS _ _ _ h hP hD hS (lv_sub hl [1, 2, 3, 0] rfl)
def m_X6_passAll (n : Nat) (zS : TI) (zL : TL) : Option TI := ((m_X6_pass n zS zL (zS 0 0)).bind fun u6 => ((m_X6_pass n (sf u6.2 0 u6.1) zL (u6.2 0 1)).bind fun u18 => ((m_X6_pass n (sf u18.2 1 u18.1) zL (u18.2 0 2)).bind fun u30 => ((m_X6_pass n (sf u30.2 2 u30.1) zL (u30.2 0 8)).bind fun u42 => ((m_X6_passRow__s3 n (sf u42.2 8 u42.1) zL 100).bind fun u55 => ((m_X6_passRow__s4 n u55 zL 100).bind fun u65 => ((m_X6_passRow__s5 n u65 zL 4).bind fun u74 => ((m_X6_passRow__s6 n u74 zL 8).bind fun u84 => ((m_X6_passRow__s7 n u84 zL 8).bind fun u94 => some u94)))))))))
set_option maxHeartbeats 4000000 in
set_option maxRecDepth 100000 in
theorem c_X6_passAll (l : Launch) (D : va_G) (cI cJ cZ : ClassId) (n : Nat) (qS : Nat → Nat) (sz : Nat) (zS : TI) (zL : TL) (out : TI) (hm : m_X6_passAll n zS zL = some out) : Met l yX6_passAll (wsM yX6_passAll cX6_passAll 1 none) { frames := 2, cells := 0, slots := 0, locals := 45 } (xPre D (kT cI cJ cZ) (w6 cI cJ cZ qS zS zL) sz [.ref (qS 0)]) (xQv D (kT cI cJ cZ) (w6 cI cJ cZ qS zS zL) (w6 cI cJ cZ qS out zL) sz) 0 0 (va_A (w6 cI cJ cZ qS zS zL) sz) := by
  refine Met.ofW (cc := cX6_passAll) (maxL := 1) (ret := none) (by decide) rfl ?_
  intro p e s m args below meth c s₁ B hml hv
  obtain ⟨hv, hsz, hP, hK, hD0, hN⟩ := hv
  have hx := B.exec; have hb := B.bytes; have hr := B.returns
  have hts := atoms_spec (ws := (wsM yX6_passAll cX6_passAll 1 none)) B.pre
  have hown : s.vm.findClass RX6 = some m.cls := findClass_of_methodNamed B.named
  have hlocks := B.notSynchronized
  subst hsz
  have hD := hD0.self (sz := s.heap.size)
  obtain ⟨A, hAe⟩ : ∃ A, A = va_A (w6 cI cJ cZ qS zS zL) s.heap.size := ⟨_, rfl⟩
  rw [← hAe] at hD
  have hA : ∀ q : Nat, s.heap.size ≤ q → A q := fun q h => by rw [hAe]; exact Or.inr h
  have htl : ∀ w ∈ wsL_law, w.before args s = true := fun w h => hts w (List.mem_cons_of_mem _ h)
  refine xHead (R' := { frames := 2, cells := 0, slots := 0, locals := 45 }) rfl (fun Q H hQ hH => ?_)
  have hP : va_P D vwCl (w6 cI cJ cZ qS zS zL) H := by rw [hH]; exact hP
  have hS : va_S A s.heap H [] := by rw [hH]; exact va_S.rf
  refine xStart hv (Nat.le_of_ble_eq_true rfl) (lv := [(0, .ref (qS 0))]) rfl (fun ls hl => ?_)
  have h := hm
  unfold m_X6_passAll at h
  refine lv_aload_n hx hb (dAt zX6_passAll_0 0 rfl) rfl (lv_at hl 0 rfl) ?_
  refine lv_aload_n hx hb (dAt zX6_passAll_0 1 rfl) rfl (lv_at hl 0 rfl) ?_
  refine lv_aload_n hx hb (dAt zX6_passAll_0 2 rfl) rfl (lv_at hl 0 rfl) ?_
  refine va_get (D := D) (ci := 6) (v := .int (zS 0 0)) (C := RX6) (T := TX6) (N := 32) hx hb htl inlX6 hown hK hP 0 rfl rfl 0 (by decide) (htl _ W_102) (fun _ h9 => h9) rfl (dAt zX6_passAll_0 3 rfl) ?_
  obtain ⟨u6, hu6, h⟩ := q_bind h
  refine xFi (wc := (w6 cI cJ cZ qS zS zL)) (w1 := (w6 cI cJ cZ qS u6.2 zL)) (wr := ([] : va_W)) (ws2 := (w6 cI cJ cZ qS u6.2 zL)) (va_runV (As := [.int (zS 0 0)]) (rest := [.ref (qS 0)]) ⟨hx, hb, hml, hown, htl⟩ (c_X6_pass l D cI cJ cZ n qS H.size zS zL (zS 0 0) u6 hu6) (cwV 1 htl (gV W_796 W_797 W_798 W_5 W_799) rfl rfl rfl (by decide +kernel) ⟨Nat.le_of_ble_eq_true rfl, Nat.le_of_ble_eq_true rfl⟩) (xPV hP hD hK hN 0 rfl rfl) rfl rfl hl.1 rfl (lv_room (Nat.le_of_ble_eq_true rfl)) (dAt zX6_passAll_0 4 rfl) ⟨Nat.zero_le _, Nat.zero_le _⟩) hS hA hP hD [0, 1, 2, 3, 4, 5, 6, 7, 8, 9, 10, 11, 12, 13, 14, 15, 16] [] [0, 1, 2, 3, 4, 5, 6, 7, 8, 9, 10, 11, 12, 13, 14, 15, 16] rfl rfl (by decide) (by decide) rfl (by decide) (fun H locs hP hD hS => ?_)
  refine va_put (D := D) (ci := 6) (v := .int u6.1) (ty := .int) (C := RX6) (T := TX6) (N := 32) hx hb htl inlX6 tyX6 tyX6_ok nmX6 hown hK hP hD hS 0 rfl rfl 0 (by decide) (htl _ W_102) (fun _ h9 => h9) rfl (by decide +kernel) rfl rfl (Nat.le_of_ble_eq_true rfl) (dAt zX6_passAll_0 5 rfl) (fun H locs hP hD hS => ?_)
  have hP : va_P D vwCl (w6x cI cJ cZ qS u6.1 (u6.2 0 1) (u6.2 0 2) (u6.2 0 8) (u6.2 0 10) (u6.2 0 14) (u6.2 0 15) (u6.2 0 16) (u6.2 0 17) (u6.2 0 19) (u6.2 0 20) (u6.2 0 21) (u6.2 0 22) (u6.2 0 23) (u6.2 0 30) (u6.2 0 31) (u6.2 4) (u6.2 5) (u6.2 6) (u6.2 7) (u6.2 8) (u6.2 10) (u6.2 12) (u6.2 13) (u6.2 14) (u6.2 19) (u6.2 25) (u6.2 26) (zL 27) (u6.2 28) (u6.2 29) (u6.2 30)) H := hP
  have hD : va_D A (w6x cI cJ cZ qS u6.1 (u6.2 0 1) (u6.2 0 2) (u6.2 0 8) (u6.2 0 10) (u6.2 0 14) (u6.2 0 15) (u6.2 0 16) (u6.2 0 17) (u6.2 0 19) (u6.2 0 20) (u6.2 0 21) (u6.2 0 22) (u6.2 0 23) (u6.2 0 30) (u6.2 0 31) (u6.2 4) (u6.2 5) (u6.2 6) (u6.2 7) (u6.2 8) (u6.2 10) (u6.2 12) (u6.2 13) (u6.2 14) (u6.2 19) (u6.2 25) (u6.2 26) (zL 27) (u6.2 28) (u6.2 29) (u6.2 30)) := hD
  refine lv_aload_n hx hb (dAt zX6_passAll_0 6 rfl) rfl (lv_at hl 0 rfl) ?_
  refine lv_aload_n hx hb (dAt zX6_passAll_0 7 rfl) rfl (lv_at hl 0 rfl) ?_
  refine lv_aload_n hx hb (dAt zX6_passAll_0 8 rfl) rfl (lv_at hl 0 rfl) ?_
  refine va_get (D := D) (ci := 6) (v := .int (u6.2 0 1)) (C := RX6) (T := TX6) (N := 32) hx hb htl inlX6 hown hK hP 0 rfl rfl 1 (by decide) (htl _ W_160) (fun _ h9 => h9) rfl (dAt zX6_passAll_0 9 rfl) ?_
  have hP : va_P D vwCl (w6 cI cJ cZ qS (sf u6.2 0 u6.1) zL) H := hP
  have hD : va_D A (w6 cI cJ cZ qS (sf u6.2 0 u6.1) zL) := hD
  obtain ⟨u18, hu18, h⟩ := q_bind h
  refine xFi (wc := (w6 cI cJ cZ qS (sf u6.2 0 u6.1) zL)) (w1 := (w6 cI cJ cZ qS u18.2 zL)) (wr := ([] : va_W)) (ws2 := (w6 cI cJ cZ qS u18.2 zL)) (va_runV (As := [.int (u6.2 0 1)]) (rest := [.ref (qS 0)]) ⟨hx, hb, hml, hown, htl⟩ (c_X6_pass l D cI cJ cZ n qS H.size (sf u6.2 0 u6.1) zL (u6.2 0 1) u18 hu18) (cwV 1 htl (gV W_796 W_797 W_798 W_5 W_799) rfl rfl rfl (by decide +kernel) ⟨Nat.le_of_ble_eq_true rfl, Nat.le_of_ble_eq_true rfl⟩) (xPV hP hD hK hN 0 rfl rfl) rfl rfl hl.1 rfl (lv_room (Nat.le_of_ble_eq_true rfl)) (dAt zX6_passAll_0 10 rfl) ⟨Nat.zero_le _, Nat.zero_le _⟩) hS hA hP hD [0, 1, 2, 3, 4, 5, 6, 7, 8, 9, 10, 11, 12, 13, 14, 15, 16] [] [0, 1, 2, 3, 4, 5, 6, 7, 8, 9, 10, 11, 12, 13, 14, 15, 16] rfl rfl (by decide) (by decide) rfl (by decide) (fun H locs hP hD hS => ?_)
  refine va_put (D := D) (ci := 6) (v := .int u18.1) (ty := .int) (C := RX6) (T := TX6) (N := 32) hx hb htl inlX6 tyX6 tyX6_ok nmX6 hown hK hP hD hS 0 rfl rfl 1 (by decide) (htl _ W_160) (fun _ h9 => h9) rfl (by decide +kernel) rfl rfl (Nat.le_of_ble_eq_true rfl) (dAt zX6_passAll_0 11 rfl) (fun H locs hP hD hS => ?_)
  have hP : va_P D vwCl (w6x cI cJ cZ qS (u18.2 0 0) u18.1 (u18.2 0 2) (u18.2 0 8) (u18.2 0 10) (u18.2 0 14) (u18.2 0 15) (u18.2 0 16) (u18.2 0 17) (u18.2 0 19) (u18.2 0 20) (u18.2 0 21) (u18.2 0 22) (u18.2 0 23) (u18.2 0 30) (u18.2 0 31) (u18.2 4) (u18.2 5) (u18.2 6) (u18.2 7) (u18.2 8) (u18.2 10) (u18.2 12) (u18.2 13) (u18.2 14) (u18.2 19) (u18.2 25) (u18.2 26) (zL 27) (u18.2 28) (u18.2 29) (u18.2 30)) H := hP
  have hD : va_D A (w6x cI cJ cZ qS (u18.2 0 0) u18.1 (u18.2 0 2) (u18.2 0 8) (u18.2 0 10) (u18.2 0 14) (u18.2 0 15) (u18.2 0 16) (u18.2 0 17) (u18.2 0 19) (u18.2 0 20) (u18.2 0 21) (u18.2 0 22) (u18.2 0 23) (u18.2 0 30) (u18.2 0 31) (u18.2 4) (u18.2 5) (u18.2 6) (u18.2 7) (u18.2 8) (u18.2 10) (u18.2 12) (u18.2 13) (u18.2 14) (u18.2 19) (u18.2 25) (u18.2 26) (zL 27) (u18.2 28) (u18.2 29) (u18.2 30)) := hD
  refine lv_aload_n hx hb (dAt zX6_passAll_0 12 rfl) rfl (lv_at hl 0 rfl) ?_
  refine lv_aload_n hx hb (dAt zX6_passAll_0 13 rfl) rfl (lv_at hl 0 rfl) ?_
  refine lv_aload_n hx hb (dAt zX6_passAll_0 14 rfl) rfl (lv_at hl 0 rfl) ?_
  refine va_get (D := D) (ci := 6) (v := .int (u18.2 0 2)) (C := RX6) (T := TX6) (N := 32) hx hb htl inlX6 hown hK hP 0 rfl rfl 2 (by decide) (htl _ W_161) (fun _ h9 => h9) rfl (dAt zX6_passAll_0 15 rfl) ?_
  have hP : va_P D vwCl (w6 cI cJ cZ qS (sf u18.2 1 u18.1) zL) H := hP
  have hD : va_D A (w6 cI cJ cZ qS (sf u18.2 1 u18.1) zL) := hD
  obtain ⟨u30, hu30, h⟩ := q_bind h
  refine xFi (wc := (w6 cI cJ cZ qS (sf u18.2 1 u18.1) zL)) (w1 := (w6 cI cJ cZ qS u30.2 zL)) (wr := ([] : va_W)) (ws2 := (w6 cI cJ cZ qS u30.2 zL)) (va_runV (As := [.int (u18.2 0 2)]) (rest := [.ref (qS 0)]) ⟨hx, hb, hml, hown, htl⟩ (c_X6_pass l D cI cJ cZ n qS H.size (sf u18.2 1 u18.1) zL (u18.2 0 2) u30 hu30) (cwV 1 htl (gV W_796 W_797 W_798 W_5 W_799) rfl rfl rfl (by decide +kernel) ⟨Nat.le_of_ble_eq_true rfl, Nat.le_of_ble_eq_true rfl⟩) (xPV hP hD hK hN 0 rfl rfl) rfl rfl hl.1 rfl (lv_room (Nat.le_of_ble_eq_true rfl)) (dAt zX6_passAll_0 16 rfl) ⟨Nat.zero_le _, Nat.zero_le _⟩) hS hA hP hD [0, 1, 2, 3, 4, 5, 6, 7, 8, 9, 10, 11, 12, 13, 14, 15, 16] [] [0, 1, 2, 3, 4, 5, 6, 7, 8, 9, 10, 11, 12, 13, 14, 15, 16] rfl rfl (by decide) (by decide) rfl (by decide) (fun H locs hP hD hS => ?_)
  refine va_put (D := D) (ci := 6) (v := .int u30.1) (ty := .int) (C := RX6) (T := TX6) (N := 32) hx hb htl inlX6 tyX6 tyX6_ok nmX6 hown hK hP hD hS 0 rfl rfl 2 (by decide) (htl _ W_161) (fun _ h9 => h9) rfl (by decide +kernel) rfl rfl (Nat.le_of_ble_eq_true rfl) (dAt zX6_passAll_0 17 rfl) (fun H locs hP hD hS => ?_)
  have hP : va_P D vwCl (w6x cI cJ cZ qS (u30.2 0 0) (u30.2 0 1) u30.1 (u30.2 0 8) (u30.2 0 10) (u30.2 0 14) (u30.2 0 15) (u30.2 0 16) (u30.2 0 17) (u30.2 0 19) (u30.2 0 20) (u30.2 0 21) (u30.2 0 22) (u30.2 0 23) (u30.2 0 30) (u30.2 0 31) (u30.2 4) (u30.2 5) (u30.2 6) (u30.2 7) (u30.2 8) (u30.2 10) (u30.2 12) (u30.2 13) (u30.2 14) (u30.2 19) (u30.2 25) (u30.2 26) (zL 27) (u30.2 28) (u30.2 29) (u30.2 30)) H := hP
  have hD : va_D A (w6x cI cJ cZ qS (u30.2 0 0) (u30.2 0 1) u30.1 (u30.2 0 8) (u30.2 0 10) (u30.2 0 14) (u30.2 0 15) (u30.2 0 16) (u30.2 0 17) (u30.2 0 19) (u30.2 0 20) (u30.2 0 21) (u30.2 0 22) (u30.2 0 23) (u30.2 0 30) (u30.2 0 31) (u30.2 4) (u30.2 5) (u30.2 6) (u30.2 7) (u30.2 8) (u30.2 10) (u30.2 12) (u30.2 13) (u30.2 14) (u30.2 19) (u30.2 25) (u30.2 26) (zL 27) (u30.2 28) (u30.2 29) (u30.2 30)) := hD
  refine lv_aload_n hx hb (dAt zX6_passAll_0 18 rfl) rfl (lv_at hl 0 rfl) ?_
  refine lv_aload_n hx hb (dAt zX6_passAll_0 19 rfl) rfl (lv_at hl 0 rfl) ?_
  refine lv_aload_n hx hb (dAt zX6_passAll_0 20 rfl) rfl (lv_at hl 0 rfl) ?_
  refine va_get (D := D) (ci := 6) (v := .int (u30.2 0 8)) (C := RX6) (T := TX6) (N := 32) hx hb htl inlX6 hown hK hP 0 rfl rfl 8 (by decide) (htl _ W_665) (fun _ h9 => h9) rfl (dAt zX6_passAll_0 21 rfl) ?_
  have hP : va_P D vwCl (w6 cI cJ cZ qS (sf u30.2 2 u30.1) zL) H := hP
  have hD : va_D A (w6 cI cJ cZ qS (sf u30.2 2 u30.1) zL) := hD
  obtain ⟨u42, hu42, h⟩ := q_bind h
  refine xFi (wc := (w6 cI cJ cZ qS (sf u30.2 2 u30.1) zL)) (w1 := (w6 cI cJ cZ qS u42.2 zL)) (wr := ([] : va_W)) (ws2 := (w6 cI cJ cZ qS u42.2 zL)) (va_runV (As := [.int (u30.2 0 8)]) (rest := [.ref (qS 0)]) ⟨hx, hb, hml, hown, htl⟩ (c_X6_pass l D cI cJ cZ n qS H.size (sf u30.2 2 u30.1) zL (u30.2 0 8) u42 hu42) (cwV 1 htl (gV W_796 W_797 W_798 W_5 W_799) rfl rfl rfl (by decide +kernel) ⟨Nat.le_of_ble_eq_true rfl, Nat.le_of_ble_eq_true rfl⟩) (xPV hP hD hK hN 0 rfl rfl) rfl rfl hl.1 rfl (lv_room (Nat.le_of_ble_eq_true rfl)) (dAt zX6_passAll_0 22 rfl) ⟨Nat.zero_le _, Nat.zero_le _⟩) hS hA hP hD [0, 1, 2, 3, 4, 5, 6, 7, 8, 9, 10, 11, 12, 13, 14, 15, 16] [] [0, 1, 2, 3, 4, 5, 6, 7, 8, 9, 10, 11, 12, 13, 14, 15, 16] rfl rfl (by decide) (by decide) rfl (by decide) (fun H locs hP hD hS => ?_)
  refine va_put (D := D) (ci := 6) (v := .int u42.1) (ty := .int) (C := RX6) (T := TX6) (N := 32) hx hb htl inlX6 tyX6 tyX6_ok nmX6 hown hK hP hD hS 0 rfl rfl 8 (by decide) (htl _ W_665) (fun _ h9 => h9) rfl (by decide +kernel) rfl rfl (Nat.le_of_ble_eq_true rfl) (dAt zX6_passAll_0 23 rfl) (fun H locs hP hD hS => ?_)
  have hP : va_P D vwCl (w6x cI cJ cZ qS (u42.2 0 0) (u42.2 0 1) (u42.2 0 2) u42.1 (u42.2 0 10) (u42.2 0 14) (u42.2 0 15) (u42.2 0 16) (u42.2 0 17) (u42.2 0 19) (u42.2 0 20) (u42.2 0 21) (u42.2 0 22) (u42.2 0 23) (u42.2 0 30) (u42.2 0 31) (u42.2 4) (u42.2 5) (u42.2 6) (u42.2 7) (u42.2 8) (u42.2 10) (u42.2 12) (u42.2 13) (u42.2 14) (u42.2 19) (u42.2 25) (u42.2 26) (zL 27) (u42.2 28) (u42.2 29) (u42.2 30)) H := hP
  have hD : va_D A (w6x cI cJ cZ qS (u42.2 0 0) (u42.2 0 1) (u42.2 0 2) u42.1 (u42.2 0 10) (u42.2 0 14) (u42.2 0 15) (u42.2 0 16) (u42.2 0 17) (u42.2 0 19) (u42.2 0 20) (u42.2 0 21) (u42.2 0 22) (u42.2 0 23) (u42.2 0 30) (u42.2 0 31) (u42.2 4) (u42.2 5) (u42.2 6) (u42.2 7) (u42.2 8) (u42.2 10) (u42.2 12) (u42.2 13) (u42.2 14) (u42.2 19) (u42.2 25) (u42.2 26) (zL 27) (u42.2 28) (u42.2 29) (u42.2 30)) := hD
  refine lv_aload_n hx hb (dAt zX6_passAll_0 24 rfl) rfl (lv_at hl 0 rfl) ?_
  refine lv_aload_n hx hb (dAt zX6_passAll_0 25 rfl) rfl (lv_at hl 0 rfl) ?_
  refine va_get (D := D) (ci := 6) (v := .ref (qS 4)) (C := RX6) (T := TX6) (N := 32) hx hb htl inlX6 hown hK hP 0 rfl rfl 3 (by decide) (htl _ W_85) (fun _ h9 => h9) rfl (dAt zX6_passAll_0 26 rfl) ?_
  refine lv_bipush (v := 100) hx hb (dAt zX6_passAll_0 27 rfl) (by decide) ?_
  have hP : va_P D vwCl (w6 cI cJ cZ qS (sf u42.2 8 u42.1) zL) H := hP
  have hD : va_D A (w6 cI cJ cZ qS (sf u42.2 8 u42.1) zL) := hD
  obtain ⟨u55, hu55, h⟩ := q_bind h
  refine xFv (wc := (w6 cI cJ cZ qS (sf u42.2 8 u42.1) zL)) (w1 := (w6 cI cJ cZ qS u55 zL)) (wr := ([] : va_W)) (ws2 := (w6 cI cJ cZ qS u55 zL)) (va_runV (As := [.ref (qS 4), .int 100]) (rest := []) ⟨hx, hb, hml, hown, htl⟩ (c_X6_passRow__s3 l D cI cJ cZ n qS H.size (sf u42.2 8 u42.1) zL 100 u55 hu55) (cwV 2 htl (gV W_800 W_801 W_802 W_5 W_803) rfl rfl rfl (by decide +kernel) ⟨Nat.le_of_ble_eq_true rfl, Nat.le_of_ble_eq_true rfl⟩) (xPV hP hD hK hN 0 rfl rfl) rfl rfl hl.1 rfl (lv_room (Nat.le_of_ble_eq_true rfl)) (dAt zX6_passAll_0 28 rfl) ⟨Nat.zero_le _, Nat.zero_le _⟩) hS hA hP hD [0, 1, 2, 3, 4, 5, 6, 7, 8, 9, 10, 11, 12, 13, 14, 15, 16] [] [0, 1, 2, 3, 4, 5, 6, 7, 8, 9, 10, 11, 12, 13, 14, 15, 16] rfl rfl (by decide) (by decide) rfl (by decide) (fun H locs hP hD hS => ?_)
  refine lv_aload_n hx hb (dAt zX6_passAll_0 29 rfl) rfl (lv_at hl 0 rfl) ?_
  refine lv_aload_n hx hb (dAt zX6_passAll_0 30 rfl) rfl (lv_at hl 0 rfl) ?_
  refine va_get (D := D) (ci := 6) (v := .ref (qS 5)) (C := RX6) (T := TX6) (N := 32) hx hb htl inlX6 hown hK hP 0 rfl rfl 4 (by decide) (htl _ W_86) (fun _ h9 => h9) rfl (dAt zX6_passAll_0 31 rfl) ?_
  refine lv_bipush (v := 100) hx hb (dAt zX6_passAll_0 32 rfl) (by decide) ?_
  obtain ⟨u65, hu65, h⟩ := q_bind h
  refine xFv (wc := (w6 cI cJ cZ qS u55 zL)) (w1 := (w6 cI cJ cZ qS u65 zL)) (wr := ([] : va_W)) (ws2 := (w6 cI cJ cZ qS u65 zL)) (va_runV (As := [.ref (qS 5), .int 100]) (rest := []) ⟨hx, hb, hml, hown, htl⟩ (c_X6_passRow__s4 l D cI cJ cZ n qS H.size u55 zL 100 u65 hu65) (cwV 2 htl (gV W_800 W_801 W_802 W_5 W_803) rfl rfl rfl (by decide +kernel) ⟨Nat.le_of_ble_eq_true rfl, Nat.le_of_ble_eq_true rfl⟩) (xPV hP hD hK hN 0 rfl rfl) rfl rfl hl.1 rfl (lv_room (Nat.le_of_ble_eq_true rfl)) (dAt zX6_passAll_0 33 rfl) ⟨Nat.zero_le _, Nat.zero_le _⟩) hS hA hP hD [0, 1, 2, 3, 4, 5, 6, 7, 8, 9, 10, 11, 12, 13, 14, 15, 16] [] [0, 1, 2, 3, 4, 5, 6, 7, 8, 9, 10, 11, 12, 13, 14, 15, 16] rfl rfl (by decide) (by decide) rfl (by decide) (fun H locs hP hD hS => ?_)
  refine lv_aload_n hx hb (dAt zX6_passAll_0 34 rfl) rfl (lv_at hl 0 rfl) ?_
  refine lv_aload_n hx hb (dAt zX6_passAll_0 35 rfl) rfl (lv_at hl 0 rfl) ?_
  refine va_get (D := D) (ci := 6) (v := .ref (qS 6)) (C := RX6) (T := TX6) (N := 32) hx hb htl inlX6 hown hK hP 0 rfl rfl 5 (by decide) (htl _ W_87) (fun _ h9 => h9) rfl (dAt zX6_passAll_0 36 rfl) ?_
  refine lv_iconst (v := 4) hx hb (dAt zX6_passAll_0 37 rfl) (by decide) ?_
  obtain ⟨u74, hu74, h⟩ := q_bind h
  refine xFv (wc := (w6 cI cJ cZ qS u65 zL)) (w1 := (w6 cI cJ cZ qS u74 zL)) (wr := ([] : va_W)) (ws2 := (w6 cI cJ cZ qS u74 zL)) (va_runV (As := [.ref (qS 6), .int 4]) (rest := []) ⟨hx, hb, hml, hown, htl⟩ (c_X6_passRow__s5 l D cI cJ cZ n qS H.size u65 zL 4 u74 hu74) (cwV 2 htl (gV W_800 W_801 W_802 W_5 W_803) rfl rfl rfl (by decide +kernel) ⟨Nat.le_of_ble_eq_true rfl, Nat.le_of_ble_eq_true rfl⟩) (xPV hP hD hK hN 0 rfl rfl) rfl rfl hl.1 rfl (lv_room (Nat.le_of_ble_eq_true rfl)) (dAt zX6_passAll_0 38 rfl) ⟨Nat.zero_le _, Nat.zero_le _⟩) hS hA hP hD [0, 1, 2, 3, 4, 5, 6, 7, 8, 9, 10, 11, 12, 13, 14, 15, 16] [] [0, 1, 2, 3, 4, 5, 6, 7, 8, 9, 10, 11, 12, 13, 14, 15, 16] rfl rfl (by decide) (by decide) rfl (by decide) (fun H locs hP hD hS => ?_)
  refine lv_aload_n hx hb (dAt zX6_passAll_0 39 rfl) rfl (lv_at hl 0 rfl) ?_
  refine lv_aload_n hx hb (dAt zX6_passAll_0 40 rfl) rfl (lv_at hl 0 rfl) ?_
  refine va_get (D := D) (ci := 6) (v := .ref (qS 7)) (C := RX6) (T := TX6) (N := 32) hx hb htl inlX6 hown hK hP 0 rfl rfl 6 (by decide) (htl _ W_88) (fun _ h9 => h9) rfl (dAt zX6_passAll_0 41 rfl) ?_
  refine lv_bipush (v := 8) hx hb (dAt zX6_passAll_0 42 rfl) (by decide) ?_
  obtain ⟨u84, hu84, h⟩ := q_bind h
  refine xFv (wc := (w6 cI cJ cZ qS u74 zL)) (w1 := (w6 cI cJ cZ qS u84 zL)) (wr := ([] : va_W)) (ws2 := (w6 cI cJ cZ qS u84 zL)) (va_runV (As := [.ref (qS 7), .int 8]) (rest := []) ⟨hx, hb, hml, hown, htl⟩ (c_X6_passRow__s6 l D cI cJ cZ n qS H.size u74 zL 8 u84 hu84) (cwV 2 htl (gV W_800 W_801 W_802 W_5 W_803) rfl rfl rfl (by decide +kernel) ⟨Nat.le_of_ble_eq_true rfl, Nat.le_of_ble_eq_true rfl⟩) (xPV hP hD hK hN 0 rfl rfl) rfl rfl hl.1 rfl (lv_room (Nat.le_of_ble_eq_true rfl)) (dAt zX6_passAll_0 43 rfl) ⟨Nat.zero_le _, Nat.zero_le _⟩) hS hA hP hD [0, 1, 2, 3, 4, 5, 6, 7, 8, 9, 10, 11, 12, 13, 14, 15, 16] [] [0, 1, 2, 3, 4, 5, 6, 7, 8, 9, 10, 11, 12, 13, 14, 15, 16] rfl rfl (by decide) (by decide) rfl (by decide) (fun H locs hP hD hS => ?_)
  refine lv_aload_n hx hb (dAt zX6_passAll_0 44 rfl) rfl (lv_at hl 0 rfl) ?_
  refine lv_aload_n hx hb (dAt zX6_passAll_0 45 rfl) rfl (lv_at hl 0 rfl) ?_
  refine va_get (D := D) (ci := 6) (v := .ref (qS 8)) (C := RX6) (T := TX6) (N := 32) hx hb htl inlX6 hown hK hP 0 rfl rfl 7 (by decide) (htl _ W_89) (fun _ h9 => h9) rfl (dAt zX6_passAll_0 46 rfl) ?_
  refine lv_bipush (v := 8) hx hb (dAt zX6_passAll_0 47 rfl) (by decide) ?_
  obtain ⟨u94, hu94, h⟩ := q_bind h
  refine xFv (wc := (w6 cI cJ cZ qS u84 zL)) (w1 := (w6 cI cJ cZ qS u94 zL)) (wr := ([] : va_W)) (ws2 := (w6 cI cJ cZ qS u94 zL)) (va_runV (As := [.ref (qS 8), .int 8]) (rest := []) ⟨hx, hb, hml, hown, htl⟩ (c_X6_passRow__s7 l D cI cJ cZ n qS H.size u84 zL 8 u94 hu94) (cwV 2 htl (gV W_800 W_801 W_802 W_5 W_803) rfl rfl rfl (by decide +kernel) ⟨Nat.le_of_ble_eq_true rfl, Nat.le_of_ble_eq_true rfl⟩) (xPV hP hD hK hN 0 rfl rfl) rfl rfl hl.1 rfl (lv_room (Nat.le_of_ble_eq_true rfl)) (dAt zX6_passAll_0 48 rfl) ⟨Nat.zero_le _, Nat.zero_le _⟩) hS hA hP hD [0, 1, 2, 3, 4, 5, 6, 7, 8, 9, 10, 11, 12, 13, 14, 15, 16] [] [0, 1, 2, 3, 4, 5, 6, 7, 8, 9, 10, 11, 12, 13, 14, 15, 16] rfl rfl (by decide) (by decide) rfl (by decide) (fun H locs hP hD hS => ?_)
  obtain rfl := q_some h
  exact xRv hx hb hr hlocks hQ hAe hP hD hK hS (dAt zX6_passAll_0 49 rfl)
def m_X6_image (n : Nat) (zS : TI) (zL : TL) (a1 : Int32) : Option (Int32 × TI) := ((m_X6_in n  (Int32.toInt64 a1) 0 1).bind fun u4 => (if u4 = 0 then some ((-2), zS) else ((m_X6_passAll n (sf (sf zS 30 ((240 : Int32) * a1)) 31 1) zL).bind fun u28 => (gd (inB a1 2) (some (1, (upA u28 30 (upd (u28 30) (Int32.toNatClampNeg a1) 1))))))))
set_option maxHeartbeats 4000000 in
set_option maxRecDepth 100000 in
theorem c_X6_image (l : Launch) (D : va_G) (cI cJ cZ : ClassId) (n : Nat) (qS : Nat → Nat) (sz : Nat) (zS : TI) (zL : TL) (a1 : Int32) (out : Int32 × TI) (hm : m_X6_image n zS zL a1 = some out) : Met l yX6_image (wsM yX6_image cX6_image 2 (some .int)) { frames := 3, cells := 0, slots := 0, locals := 65 } (xPre D (kT cI cJ cZ) (w6 cI cJ cZ qS zS zL) sz [.ref (qS 0), .int a1]) (xQi D (kT cI cJ cZ) (w6 cI cJ cZ qS zS zL) (w6 cI cJ cZ qS out.2 zL) sz out.1) 0 0 (va_A (w6 cI cJ cZ qS zS zL) sz) := by
  refine Met.ofW (cc := cX6_image) (maxL := 2) (ret := (some .int)) (by decide) rfl ?_
  intro p e s m args below meth c s₁ B hml hv
  obtain ⟨hv, hsz, hP, hK, hD0, hN⟩ := hv
  have hx := B.exec; have hb := B.bytes; have hr := B.returns
  have hts := atoms_spec (ws := (wsM yX6_image cX6_image 2 (some .int))) B.pre
  have hown : s.vm.findClass RX6 = some m.cls := findClass_of_methodNamed B.named
  have hlocks := B.notSynchronized
  subst hsz
  have hD := hD0.self (sz := s.heap.size)
  obtain ⟨A, hAe⟩ : ∃ A, A = va_A (w6 cI cJ cZ qS zS zL) s.heap.size := ⟨_, rfl⟩
  rw [← hAe] at hD
  have hA : ∀ q : Nat, s.heap.size ≤ q → A q := fun q h => by rw [hAe]; exact Or.inr h
  have htl : ∀ w ∈ wsL_law, w.before args s = true := fun w h => hts w (List.mem_cons_of_mem _ h)
  refine xHead (R' := { frames := 3, cells := 0, slots := 0, locals := 65 }) rfl (fun Q H hQ hH => ?_)
  have hP : va_P D vwCl (w6 cI cJ cZ qS zS zL) H := by rw [hH]; exact hP
  have hS : va_S A s.heap H [] := by rw [hH]; exact va_S.rf
  refine xStart hv (Nat.le_of_ble_eq_true rfl) (lv := [(0, .ref (qS 0)), (1, .int a1)]) rfl (fun ls hl => ?_)
  have h := hm
  unfold m_X6_image at h
  refine lv_iload_n hx hb (dAt zX6_image_0 0 rfl) rfl (lv_at hl 1 rfl) ?_
  refine lv_i2l (v := (Int32.toInt64 a1)) hx hb (dAt zX6_image_0 1 rfl) rfl ?_
  refine lv_lconst (v := 0) hx hb (dAt zX6_image_0 2 rfl) (by decide) ?_
  refine lv_lconst (v := 1) hx hb (dAt zX6_image_0 3 rfl) (by decide) ?_
  obtain ⟨u4, hu4, h⟩ := q_bind h
  refine xFz (wc := ([] : va_W)) (w1 := ([] : va_W)) (wr := (w6 cI cJ cZ qS zS zL)) (ws2 := (w6 cI cJ cZ qS zS zL)) (va_runS (As := [.long (Int32.toInt64 a1), .long 0, .long 1]) (rest := []) ⟨hx, hb, hml, hown, htl⟩ (c_X6_in l D cI cJ cZ n  H.size  (Int32.toInt64 a1) 0 1 u4 hu4) (va_cwS 3 htl (gS W_130 W_131 W_5 W_132) rfl rfl rfl (by decide +kernel) ⟨Nat.le_of_ble_eq_true rfl, Nat.le_of_ble_eq_true rfl⟩) (xPS xP0 (xD0 A) hK hN) rfl rfl hl.1 rfl (lv_room (Nat.le_of_ble_eq_true rfl)) (dAt zX6_image_0 4 rfl) ⟨Nat.zero_le _, Nat.zero_le _⟩) hS hA hP hD [] [0, 1, 2, 3, 4, 5, 6, 7, 8, 9, 10, 11, 12, 13, 14, 15, 16] [0, 1, 2, 3, 4, 5, 6, 7, 8, 9, 10, 11, 12, 13, 14, 15, 16] rfl rfl (by decide) (by decide) rfl (by decide) (fun H locs hz4 hP hD hS => ?_)
  refine lv_if_ne (tgt := 13) hx hb (dAt zX6_image_0 5 rfl) (by decide) (fun c_7 => ?_) (fun c_7 => ?_)
  · have h := q_neg c_7 h
    refine lv_aload_n hx hb (dAt zX6_image_0 8 rfl) rfl (lv_at hl 0 rfl) ?_
    refine lv_sipush (v := 240) hx hb (dAt zX6_image_0 9 rfl) (by decide) ?_
    refine lv_iload_n hx hb (dAt zX6_image_0 10 rfl) rfl (lv_at hl 1 rfl) ?_
    refine lv_imul hx hb (dAt zX6_image_0 11 rfl) ?_
    refine va_put (D := D) (ci := 6) (v := .int ((240 : Int32) * a1)) (ty := .int) (C := RX6) (T := TX6) (N := 32) hx hb htl inlX6 tyX6 tyX6_ok nmX6 hown hK hP hD hS 0 rfl rfl 30 (by decide) (htl _ W_790) (fun _ h9 => h9) rfl (by decide +kernel) rfl rfl (Nat.le_of_ble_eq_true rfl) (dAt zX6_image_0 12 rfl) (fun H locs hP hD hS => ?_)
    have hP : va_P D vwCl (w6x cI cJ cZ qS (zS 0 0) (zS 0 1) (zS 0 2) (zS 0 8) (zS 0 10) (zS 0 14) (zS 0 15) (zS 0 16) (zS 0 17) (zS 0 19) (zS 0 20) (zS 0 21) (zS 0 22) (zS 0 23) ((240 : Int32) * a1) (zS 0 31) (zS 4) (zS 5) (zS 6) (zS 7) (zS 8) (zS 10) (zS 12) (zS 13) (zS 14) (zS 19) (zS 25) (zS 26) (zL 27) (zS 28) (zS 29) (zS 30)) H := hP
    have hD : va_D A (w6x cI cJ cZ qS (zS 0 0) (zS 0 1) (zS 0 2) (zS 0 8) (zS 0 10) (zS 0 14) (zS 0 15) (zS 0 16) (zS 0 17) (zS 0 19) (zS 0 20) (zS 0 21) (zS 0 22) (zS 0 23) ((240 : Int32) * a1) (zS 0 31) (zS 4) (zS 5) (zS 6) (zS 7) (zS 8) (zS 10) (zS 12) (zS 13) (zS 14) (zS 19) (zS 25) (zS 26) (zL 27) (zS 28) (zS 29) (zS 30)) := hD
    refine lv_aload_n hx hb (dAt zX6_image_0 13 rfl) rfl (lv_at hl 0 rfl) ?_
    refine lv_iconst (v := 1) hx hb (dAt zX6_image_0 14 rfl) (by decide) ?_
    refine va_put (D := D) (ci := 6) (v := .int 1) (ty := .boolean) (C := RX6) (T := TX6) (N := 32) hx hb htl inlX6 tyX6 tyX6_ok nmX6 hown hK hP hD hS 0 rfl rfl 31 (by decide) (htl _ W_791) (fun _ h9 => h9) rfl (by decide +kernel) rfl rfl (Nat.le_of_ble_eq_true rfl) (dAt zX6_image_0 15 rfl) (fun H locs hP hD hS => ?_)
    have hP : va_P D vwCl (w6x cI cJ cZ qS (zS 0 0) (zS 0 1) (zS 0 2) (zS 0 8) (zS 0 10) (zS 0 14) (zS 0 15) (zS 0 16) (zS 0 17) (zS 0 19) (zS 0 20) (zS 0 21) (zS 0 22) (zS 0 23) ((240 : Int32) * a1) 1 (zS 4) (zS 5) (zS 6) (zS 7) (zS 8) (zS 10) (zS 12) (zS 13) (zS 14) (zS 19) (zS 25) (zS 26) (zL 27) (zS 28) (zS 29) (zS 30)) H := hP
    have hD : va_D A (w6x cI cJ cZ qS (zS 0 0) (zS 0 1) (zS 0 2) (zS 0 8) (zS 0 10) (zS 0 14) (zS 0 15) (zS 0 16) (zS 0 17) (zS 0 19) (zS 0 20) (zS 0 21) (zS 0 22) (zS 0 23) ((240 : Int32) * a1) 1 (zS 4) (zS 5) (zS 6) (zS 7) (zS 8) (zS 10) (zS 12) (zS 13) (zS 14) (zS 19) (zS 25) (zS 26) (zL 27) (zS 28) (zS 29) (zS 30)) := hD
    refine lv_aload_n hx hb (dAt zX6_image_0 16 rfl) rfl (lv_at hl 0 rfl) ?_
    have hP : va_P D vwCl (w6 cI cJ cZ qS (sf (sf zS 30 ((240 : Int32) * a1)) 31 1) zL) H := hP
    have hD : va_D A (w6 cI cJ cZ qS (sf (sf zS 30 ((240 : Int32) * a1)) 31 1) zL) := hD
    obtain ⟨u28, hu28, h⟩ := q_bind h
    refine xFv (wc := (w6 cI cJ cZ qS (sf (sf zS 30 ((240 : Int32) * a1)) 31 1) zL)) (w1 := (w6 cI cJ cZ qS u28 zL)) (wr := ([] : va_W)) (ws2 := (w6 cI cJ cZ qS u28 zL)) (va_runV (As := []) (rest := []) ⟨hx, hb, hml, hown, htl⟩ (c_X6_passAll l D cI cJ cZ n qS H.size (sf (sf zS 30 ((240 : Int32) * a1)) 31 1) zL  u28 hu28) (cwV 0 htl (gV W_792 W_793 W_794 W_5 W_795) rfl rfl rfl (by decide +kernel) ⟨Nat.le_of_ble_eq_true rfl, Nat.le_of_ble_eq_true rfl⟩) (xPV hP hD hK hN 0 rfl rfl) rfl rfl hl.1 rfl (lv_room (Nat.le_of_ble_eq_true rfl)) (dAt zX6_image_0 17 rfl) ⟨Nat.zero_le _, Nat.zero_le _⟩) hS hA hP hD [0, 1, 2, 3, 4, 5, 6, 7, 8, 9, 10, 11, 12, 13, 14, 15, 16] [] [0, 1, 2, 3, 4, 5, 6, 7, 8, 9, 10, 11, 12, 13, 14, 15, 16] rfl rfl (by decide) (by decide) rfl (by decide) (fun H locs hP hD hS => ?_)
    refine lv_aload_n hx hb (dAt zX6_image_0 18 rfl) rfl (lv_at hl 0 rfl) ?_
    refine va_get (D := D) (ci := 6) (v := .ref (qS 30)) (C := RX6) (T := TX6) (N := 32) hx hb htl inlX6 hown hK hP 0 rfl rfl 29 (by decide) (htl _ W_101) (fun _ h9 => h9) rfl (dAt zX6_image_0 19 rfl) ?_
    refine lv_iload_n hx hb (dAt zX6_image_0 20 rfl) rfl (lv_at hl 1 rfl) ?_
    refine lv_iconst (v := 1) hx hb (dAt zX6_image_0 21 rfl) (by decide) ?_
    obtain ⟨hi_37, h⟩ := q_in h
    refine va_zast hx hb hK hP hD hS 16 2 rfl rfl hi_37 (dAt zX6_image_0 22 rfl) (fun H locs hP hD hS => ?_)
    have hP : va_P D vwCl (w6x cI cJ cZ qS (u28 0 0) (u28 0 1) (u28 0 2) (u28 0 8) (u28 0 10) (u28 0 14) (u28 0 15) (u28 0 16) (u28 0 17) (u28 0 19) (u28 0 20) (u28 0 21) (u28 0 22) (u28 0 23) (u28 0 30) (u28 0 31) (u28 4) (u28 5) (u28 6) (u28 7) (u28 8) (u28 10) (u28 12) (u28 13) (u28 14) (u28 19) (u28 25) (u28 26) (zL 27) (u28 28) (u28 29) (upd (u28 30) (Int32.toNatClampNeg a1) 1)) H := hP
    have hD : va_D A (w6x cI cJ cZ qS (u28 0 0) (u28 0 1) (u28 0 2) (u28 0 8) (u28 0 10) (u28 0 14) (u28 0 15) (u28 0 16) (u28 0 17) (u28 0 19) (u28 0 20) (u28 0 21) (u28 0 22) (u28 0 23) (u28 0 30) (u28 0 31) (u28 4) (u28 5) (u28 6) (u28 7) (u28 8) (u28 10) (u28 12) (u28 13) (u28 14) (u28 19) (u28 25) (u28 26) (zL 27) (u28 28) (u28 29) (upd (u28 30) (Int32.toNatClampNeg a1) 1)) := hD
    refine lv_iconst (v := 1) hx hb (dAt zX6_image_0 23 rfl) (by decide) ?_
    have hP : va_P D vwCl (w6 cI cJ cZ qS (upA u28 30 (upd (u28 30) (Int32.toNatClampNeg a1) 1)) zL) H := hP
    have hD : va_D A (w6 cI cJ cZ qS (upA u28 30 (upd (u28 30) (Int32.toNatClampNeg a1) 1)) zL) := hD
    obtain rfl := q_some h
    exact xRi hx hb hr hlocks hQ hAe hP hD hK hS rfl (dAt zX6_image_0 24 rfl)
  · have h := q_pos c_7 h
    refine lv_bipush (v := (-2)) hx hb (dAt zX6_image_0 6 rfl) (by decide) ?_
    obtain rfl := q_some h
    exact xRi hx hb hr hlocks hQ hAe hP hD hK hS rfl (dAt zX6_image_0 7 rfl)
def m_X6_restore (n : Nat) (zS : TI) (zL : TL) (a1 : Int32) : Option (Int32 × TI) := ((m_X6_in n  (Int32.toInt64 a1) 0 1).bind fun u4 => (if u4 = 0 then some ((-2), zS) else (gd (inB a1 2) ((if ((zS 30) (Int32.toNatClampNeg a1)) = 0 then some ((-3), zS) else ((m_X6_passAll n (sf (sf zS 30 ((240 : Int32) * a1)) 31 0) zL).bind fun u40 => some (1, u40)))))))
set_option maxHeartbeats 4000000 in
set_option maxRecDepth 100000 in
theorem c_X6_restore (l : Launch) (D : va_G) (cI cJ cZ : ClassId) (n : Nat) (qS : Nat → Nat) (sz : Nat) (zS : TI) (zL : TL) (a1 : Int32) (out : Int32 × TI) (hm : m_X6_restore n zS zL a1 = some out) : Met l yX6_restore (wsM yX6_restore cX6_restore 2 (some .int)) { frames := 3, cells := 0, slots := 0, locals := 65 } (xPre D (kT cI cJ cZ) (w6 cI cJ cZ qS zS zL) sz [.ref (qS 0), .int a1]) (xQi D (kT cI cJ cZ) (w6 cI cJ cZ qS zS zL) (w6 cI cJ cZ qS out.2 zL) sz out.1) 0 0 (va_A (w6 cI cJ cZ qS zS zL) sz) := by
  refine Met.ofW (cc := cX6_restore) (maxL := 2) (ret := (some .int)) (by decide) rfl ?_
  intro p e s m args below meth c s₁ B hml hv
  obtain ⟨hv, hsz, hP, hK, hD0, hN⟩ := hv
  have hx := B.exec; have hb := B.bytes; have hr := B.returns
  have hts := atoms_spec (ws := (wsM yX6_restore cX6_restore 2 (some .int))) B.pre
  have hown : s.vm.findClass RX6 = some m.cls := findClass_of_methodNamed B.named
  have hlocks := B.notSynchronized
  subst hsz
  have hD := hD0.self (sz := s.heap.size)
  obtain ⟨A, hAe⟩ : ∃ A, A = va_A (w6 cI cJ cZ qS zS zL) s.heap.size := ⟨_, rfl⟩
  rw [← hAe] at hD
  have hA : ∀ q : Nat, s.heap.size ≤ q → A q := fun q h => by rw [hAe]; exact Or.inr h
  have htl : ∀ w ∈ wsL_law, w.before args s = true := fun w h => hts w (List.mem_cons_of_mem _ h)
  refine xHead (R' := { frames := 3, cells := 0, slots := 0, locals := 65 }) rfl (fun Q H hQ hH => ?_)
  have hP : va_P D vwCl (w6 cI cJ cZ qS zS zL) H := by rw [hH]; exact hP
  have hS : va_S A s.heap H [] := by rw [hH]; exact va_S.rf
  refine xStart hv (Nat.le_of_ble_eq_true rfl) (lv := [(0, .ref (qS 0)), (1, .int a1)]) rfl (fun ls hl => ?_)
  have h := hm
  unfold m_X6_restore at h
  refine lv_iload_n hx hb (dAt zX6_restore_0 0 rfl) rfl (lv_at hl 1 rfl) ?_
  refine lv_i2l (v := (Int32.toInt64 a1)) hx hb (dAt zX6_restore_0 1 rfl) rfl ?_
  refine lv_lconst (v := 0) hx hb (dAt zX6_restore_0 2 rfl) (by decide) ?_
  refine lv_lconst (v := 1) hx hb (dAt zX6_restore_0 3 rfl) (by decide) ?_
  obtain ⟨u4, hu4, h⟩ := q_bind h
  refine xFz (wc := ([] : va_W)) (w1 := ([] : va_W)) (wr := (w6 cI cJ cZ qS zS zL)) (ws2 := (w6 cI cJ cZ qS zS zL)) (va_runS (As := [.long (Int32.toInt64 a1), .long 0, .long 1]) (rest := []) ⟨hx, hb, hml, hown, htl⟩ (c_X6_in l D cI cJ cZ n  H.size  (Int32.toInt64 a1) 0 1 u4 hu4) (va_cwS 3 htl (gS W_130 W_131 W_5 W_132) rfl rfl rfl (by decide +kernel) ⟨Nat.le_of_ble_eq_true rfl, Nat.le_of_ble_eq_true rfl⟩) (xPS xP0 (xD0 A) hK hN) rfl rfl hl.1 rfl (lv_room (Nat.le_of_ble_eq_true rfl)) (dAt zX6_restore_0 4 rfl) ⟨Nat.zero_le _, Nat.zero_le _⟩) hS hA hP hD [] [0, 1, 2, 3, 4, 5, 6, 7, 8, 9, 10, 11, 12, 13, 14, 15, 16] [0, 1, 2, 3, 4, 5, 6, 7, 8, 9, 10, 11, 12, 13, 14, 15, 16] rfl rfl (by decide) (by decide) rfl (by decide) (fun H locs hz4 hP hD hS => ?_)
  refine lv_if_ne (tgt := 13) hx hb (dAt zX6_restore_0 5 rfl) (by decide) (fun c_7 => ?_) (fun c_7 => ?_)
  · have h := q_neg c_7 h
    refine lv_aload_n hx hb (dAt zX6_restore_0 8 rfl) rfl (lv_at hl 0 rfl) ?_
    refine va_get (D := D) (ci := 6) (v := .ref (qS 30)) (C := RX6) (T := TX6) (N := 32) hx hb htl inlX6 hown hK hP 0 rfl rfl 29 (by decide) (htl _ W_101) (fun _ h9 => h9) rfl (dAt zX6_restore_0 9 rfl) ?_
    refine lv_iload_n hx hb (dAt zX6_restore_0 10 rfl) rfl (lv_at hl 1 rfl) ?_
    obtain ⟨hi_18, h⟩ := q_in h
    refine va_zald hx hb hK hP 16 2 rfl rfl hi_18 (dAt zX6_restore_0 11 rfl) ?_
    refine lv_if_ne (tgt := 25) hx hb (dAt zX6_restore_0 12 rfl) (by decide) (fun c_19 => ?_) (fun c_19 => ?_)
    · have h := q_neg c_19 h
      refine lv_aload_n hx hb (dAt zX6_restore_0 15 rfl) rfl (lv_at hl 0 rfl) ?_
      refine lv_sipush (v := 240) hx hb (dAt zX6_restore_0 16 rfl) (by decide) ?_
      refine lv_iload_n hx hb (dAt zX6_restore_0 17 rfl) rfl (lv_at hl 1 rfl) ?_
      refine lv_imul hx hb (dAt zX6_restore_0 18 rfl) ?_
      refine va_put (D := D) (ci := 6) (v := .int ((240 : Int32) * a1)) (ty := .int) (C := RX6) (T := TX6) (N := 32) hx hb htl inlX6 tyX6 tyX6_ok nmX6 hown hK hP hD hS 0 rfl rfl 30 (by decide) (htl _ W_790) (fun _ h9 => h9) rfl (by decide +kernel) rfl rfl (Nat.le_of_ble_eq_true rfl) (dAt zX6_restore_0 19 rfl) (fun H locs hP hD hS => ?_)
      have hP : va_P D vwCl (w6x cI cJ cZ qS (zS 0 0) (zS 0 1) (zS 0 2) (zS 0 8) (zS 0 10) (zS 0 14) (zS 0 15) (zS 0 16) (zS 0 17) (zS 0 19) (zS 0 20) (zS 0 21) (zS 0 22) (zS 0 23) ((240 : Int32) * a1) (zS 0 31) (zS 4) (zS 5) (zS 6) (zS 7) (zS 8) (zS 10) (zS 12) (zS 13) (zS 14) (zS 19) (zS 25) (zS 26) (zL 27) (zS 28) (zS 29) (zS 30)) H := hP
      have hD : va_D A (w6x cI cJ cZ qS (zS 0 0) (zS 0 1) (zS 0 2) (zS 0 8) (zS 0 10) (zS 0 14) (zS 0 15) (zS 0 16) (zS 0 17) (zS 0 19) (zS 0 20) (zS 0 21) (zS 0 22) (zS 0 23) ((240 : Int32) * a1) (zS 0 31) (zS 4) (zS 5) (zS 6) (zS 7) (zS 8) (zS 10) (zS 12) (zS 13) (zS 14) (zS 19) (zS 25) (zS 26) (zL 27) (zS 28) (zS 29) (zS 30)) := hD
      refine lv_aload_n hx hb (dAt zX6_restore_0 20 rfl) rfl (lv_at hl 0 rfl) ?_
      refine lv_iconst (v := 0) hx hb (dAt zX6_restore_0 21 rfl) (by decide) ?_
      refine va_put (D := D) (ci := 6) (v := .int 0) (ty := .boolean) (C := RX6) (T := TX6) (N := 32) hx hb htl inlX6 tyX6 tyX6_ok nmX6 hown hK hP hD hS 0 rfl rfl 31 (by decide) (htl _ W_791) (fun _ h9 => h9) rfl (by decide +kernel) rfl rfl (Nat.le_of_ble_eq_true rfl) (dAt zX6_restore_0 22 rfl) (fun H locs hP hD hS => ?_)
      have hP : va_P D vwCl (w6x cI cJ cZ qS (zS 0 0) (zS 0 1) (zS 0 2) (zS 0 8) (zS 0 10) (zS 0 14) (zS 0 15) (zS 0 16) (zS 0 17) (zS 0 19) (zS 0 20) (zS 0 21) (zS 0 22) (zS 0 23) ((240 : Int32) * a1) 0 (zS 4) (zS 5) (zS 6) (zS 7) (zS 8) (zS 10) (zS 12) (zS 13) (zS 14) (zS 19) (zS 25) (zS 26) (zL 27) (zS 28) (zS 29) (zS 30)) H := hP
      have hD : va_D A (w6x cI cJ cZ qS (zS 0 0) (zS 0 1) (zS 0 2) (zS 0 8) (zS 0 10) (zS 0 14) (zS 0 15) (zS 0 16) (zS 0 17) (zS 0 19) (zS 0 20) (zS 0 21) (zS 0 22) (zS 0 23) ((240 : Int32) * a1) 0 (zS 4) (zS 5) (zS 6) (zS 7) (zS 8) (zS 10) (zS 12) (zS 13) (zS 14) (zS 19) (zS 25) (zS 26) (zL 27) (zS 28) (zS 29) (zS 30)) := hD
      refine lv_aload_n hx hb (dAt zX6_restore_0 23 rfl) rfl (lv_at hl 0 rfl) ?_
      have hP : va_P D vwCl (w6 cI cJ cZ qS (sf (sf zS 30 ((240 : Int32) * a1)) 31 0) zL) H := hP
      have hD : va_D A (w6 cI cJ cZ qS (sf (sf zS 30 ((240 : Int32) * a1)) 31 0) zL) := hD
      obtain ⟨u40, hu40, h⟩ := q_bind h
      refine xFv (wc := (w6 cI cJ cZ qS (sf (sf zS 30 ((240 : Int32) * a1)) 31 0) zL)) (w1 := (w6 cI cJ cZ qS u40 zL)) (wr := ([] : va_W)) (ws2 := (w6 cI cJ cZ qS u40 zL)) (va_runV (As := []) (rest := []) ⟨hx, hb, hml, hown, htl⟩ (c_X6_passAll l D cI cJ cZ n qS H.size (sf (sf zS 30 ((240 : Int32) * a1)) 31 0) zL  u40 hu40) (cwV 0 htl (gV W_792 W_793 W_794 W_5 W_795) rfl rfl rfl (by decide +kernel) ⟨Nat.le_of_ble_eq_true rfl, Nat.le_of_ble_eq_true rfl⟩) (xPV hP hD hK hN 0 rfl rfl) rfl rfl hl.1 rfl (lv_room (Nat.le_of_ble_eq_true rfl)) (dAt zX6_restore_0 24 rfl) ⟨Nat.zero_le _, Nat.zero_le _⟩) hS hA hP hD [0, 1, 2, 3, 4, 5, 6, 7, 8, 9, 10, 11, 12, 13, 14, 15, 16] [] [0, 1, 2, 3, 4, 5, 6, 7, 8, 9, 10, 11, 12, 13, 14, 15, 16] rfl rfl (by decide) (by decide) rfl (by decide) (fun H locs hP hD hS => ?_)
      refine lv_iconst (v := 1) hx hb (dAt zX6_restore_0 25 rfl) (by decide) ?_
      obtain rfl := q_some h
      exact xRi hx hb hr hlocks hQ hAe hP hD hK hS rfl (dAt zX6_restore_0 26 rfl)
    · have h := q_pos c_19 h
      refine lv_bipush (v := (-3)) hx hb (dAt zX6_restore_0 13 rfl) (by decide) ?_
      obtain rfl := q_some h
      exact xRi hx hb hr hlocks hQ hAe hP hD hK hS rfl (dAt zX6_restore_0 14 rfl)
  · have h := q_pos c_7 h
    refine lv_bipush (v := (-2)) hx hb (dAt zX6_restore_0 6 rfl) (by decide) ?_
    obtain rfl := q_some h
    exact xRi hx hb hr hlocks hQ hAe hP hD hK hS rfl (dAt zX6_restore_0 7 rfl)
def m_X6_toldOfAll (n : Nat) (zS : TI) (zL : TL) (a1 : Int32) : Option Int32 := (if a1 = 0 then some (zS 0 10) else (if a1 = 1 then some (zS 0 0) else (if a1 = 2 then some (zS 0 1) else (if a1 = 3 then some (zS 0 2) else (if a1 = 4 then ((m_X6_missedIn n zS zL (zS 0 0)).bind fun u65 => some u65) else (if a1 = 5 then some (zS 0 8) else some (-2)))))))
set_option maxHeartbeats 4000000 in
set_option maxRecDepth 100000 in
theorem c_X6_toldOfAll (l : Launch) (D : va_G) (cI cJ cZ : ClassId) (n : Nat) (qS : Nat → Nat) (sz : Nat) (zS : TI) (zL : TL) (a1 : Int32) (out : Int32) (hm : m_X6_toldOfAll n zS zL a1 = some out) : Met l yX6_toldOfAll (wsM yX6_toldOfAll cX6_toldOfAll 2 (some .int)) { frames := 4, cells := 0, slots := 0, locals := 92 } (xPre D (kT cI cJ cZ) (w6 cI cJ cZ qS zS zL) sz [.ref (qS 0), .int a1]) (xQi D (kT cI cJ cZ) (w6 cI cJ cZ qS zS zL) (w6 cI cJ cZ qS zS zL) sz out) 0 0 (va_A (w6 cI cJ cZ qS zS zL) sz) := by
  refine Met.ofW (cc := cX6_toldOfAll) (maxL := 2) (ret := (some .int)) (by decide) rfl ?_
  intro p e s m args below meth c s₁ B hml hv
  obtain ⟨hv, hsz, hP, hK, hD0, hN⟩ := hv
  have hx := B.exec; have hb := B.bytes; have hr := B.returns
  have hts := atoms_spec (ws := (wsM yX6_toldOfAll cX6_toldOfAll 2 (some .int))) B.pre
  have hown : s.vm.findClass RX6 = some m.cls := findClass_of_methodNamed B.named
  have hlocks := B.notSynchronized
  subst hsz
  have hD := hD0.self (sz := s.heap.size)
  obtain ⟨A, hAe⟩ : ∃ A, A = va_A (w6 cI cJ cZ qS zS zL) s.heap.size := ⟨_, rfl⟩
  rw [← hAe] at hD
  have hA : ∀ q : Nat, s.heap.size ≤ q → A q := fun q h => by rw [hAe]; exact Or.inr h
  have htl : ∀ w ∈ wsL_law, w.before args s = true := fun w h => hts w (List.mem_cons_of_mem _ h)
  refine xHead (R' := { frames := 4, cells := 0, slots := 0, locals := 92 }) rfl (fun Q H hQ hH => ?_)
  have hP : va_P D vwCl (w6 cI cJ cZ qS zS zL) H := by rw [hH]; exact hP
  have hS : va_S A s.heap H [] := by rw [hH]; exact va_S.rf
  refine xStart hv (Nat.le_of_ble_eq_true rfl) (lv := [(0, .ref (qS 0)), (1, .int a1)]) rfl (fun ls hl => ?_)
  have h := hm
  unfold m_X6_toldOfAll at h
  refine lv_iload_n hx hb (dAt zX6_toldOfAll_0 0 rfl) rfl (lv_at hl 1 rfl) ?_
  by_cases c_1_0 : a1 = 0
  · have h := q_pos c_1_0 h
    refine lv_tableIn (off := 39) (tgt := 40) hx hb (dAt zX6_toldOfAll_0 1 rfl) (by rw [c_1_0]; decide) (by rw [c_1_0]; decide) (by rw [c_1_0]; rfl) (by decide) ?_
    refine lv_aload_n hx hb (dAt zX6_toldOfAll_0 2 rfl) rfl (lv_at hl 0 rfl) ?_
    refine va_get (D := D) (ci := 6) (v := .int (zS 0 10)) (C := RX6) (T := TX6) (N := 32) hx hb htl inlX6 hown hK hP 0 rfl rfl 10 (by decide) (htl _ W_202) (fun _ h9 => h9) rfl (dAt zX6_toldOfAll_0 3 rfl) ?_
    obtain rfl := q_some h
    exact xRi hx hb hr hlocks hQ hAe hP hD hK hS rfl (dAt zX6_toldOfAll_0 4 rfl)
  · have h := q_neg c_1_0 h
    by_cases c_1_1 : a1 = 1
    · have h := q_pos c_1_1 h
      refine lv_tableIn (off := 44) (tgt := 45) hx hb (dAt zX6_toldOfAll_0 1 rfl) (by rw [c_1_1]; decide) (by rw [c_1_1]; decide) (by rw [c_1_1]; rfl) (by decide) ?_
      refine lv_aload_n hx hb (dAt zX6_toldOfAll_0 5 rfl) rfl (lv_at hl 0 rfl) ?_
      refine va_get (D := D) (ci := 6) (v := .int (zS 0 0)) (C := RX6) (T := TX6) (N := 32) hx hb htl inlX6 hown hK hP 0 rfl rfl 0 (by decide) (htl _ W_102) (fun _ h9 => h9) rfl (dAt zX6_toldOfAll_0 6 rfl) ?_
      obtain rfl := q_some h
      exact xRi hx hb hr hlocks hQ hAe hP hD hK hS rfl (dAt zX6_toldOfAll_0 7 rfl)
    · have h := q_neg c_1_1 h
      by_cases c_1_2 : a1 = 2
      · have h := q_pos c_1_2 h
        refine lv_tableIn (off := 49) (tgt := 50) hx hb (dAt zX6_toldOfAll_0 1 rfl) (by rw [c_1_2]; decide) (by rw [c_1_2]; decide) (by rw [c_1_2]; rfl) (by decide) ?_
        refine lv_aload_n hx hb (dAt zX6_toldOfAll_0 8 rfl) rfl (lv_at hl 0 rfl) ?_
        refine va_get (D := D) (ci := 6) (v := .int (zS 0 1)) (C := RX6) (T := TX6) (N := 32) hx hb htl inlX6 hown hK hP 0 rfl rfl 1 (by decide) (htl _ W_160) (fun _ h9 => h9) rfl (dAt zX6_toldOfAll_0 9 rfl) ?_
        obtain rfl := q_some h
        exact xRi hx hb hr hlocks hQ hAe hP hD hK hS rfl (dAt zX6_toldOfAll_0 10 rfl)
      · have h := q_neg c_1_2 h
        by_cases c_1_3 : a1 = 3
        · have h := q_pos c_1_3 h
          refine lv_tableIn (off := 54) (tgt := 55) hx hb (dAt zX6_toldOfAll_0 1 rfl) (by rw [c_1_3]; decide) (by rw [c_1_3]; decide) (by rw [c_1_3]; rfl) (by decide) ?_
          refine lv_aload_n hx hb (dAt zX6_toldOfAll_0 11 rfl) rfl (lv_at hl 0 rfl) ?_
          refine va_get (D := D) (ci := 6) (v := .int (zS 0 2)) (C := RX6) (T := TX6) (N := 32) hx hb htl inlX6 hown hK hP 0 rfl rfl 2 (by decide) (htl _ W_161) (fun _ h9 => h9) rfl (dAt zX6_toldOfAll_0 12 rfl) ?_
          obtain rfl := q_some h
          exact xRi hx hb hr hlocks hQ hAe hP hD hK hS rfl (dAt zX6_toldOfAll_0 13 rfl)
        · have h := q_neg c_1_3 h
          by_cases c_1_4 : a1 = 4
          · have h := q_pos c_1_4 h
            refine lv_tableIn (off := 59) (tgt := 60) hx hb (dAt zX6_toldOfAll_0 1 rfl) (by rw [c_1_4]; decide) (by rw [c_1_4]; decide) (by rw [c_1_4]; rfl) (by decide) ?_
            refine lv_aload_n hx hb (dAt zX6_toldOfAll_0 14 rfl) rfl (lv_at hl 0 rfl) ?_
            refine lv_aload_n hx hb (dAt zX6_toldOfAll_0 15 rfl) rfl (lv_at hl 0 rfl) ?_
            refine va_get (D := D) (ci := 6) (v := .int (zS 0 0)) (C := RX6) (T := TX6) (N := 32) hx hb htl inlX6 hown hK hP 0 rfl rfl 0 (by decide) (htl _ W_102) (fun _ h9 => h9) rfl (dAt zX6_toldOfAll_0 16 rfl) ?_
            obtain ⟨u65, hu65, h⟩ := q_bind h
            refine xFi (wc := (w6 cI cJ cZ qS zS zL)) (w1 := (w6 cI cJ cZ qS zS zL)) (wr := ([] : va_W)) (ws2 := (w6 cI cJ cZ qS zS zL)) (va_runV (As := [.int (zS 0 0)]) (rest := []) ⟨hx, hb, hml, hown, htl⟩ (c_X6_missedIn l D cI cJ cZ n qS H.size zS zL (zS 0 0) u65 hu65) (cwV 1 htl (gV W_435 W_436 W_437 W_5 W_438) rfl rfl rfl (by decide +kernel) ⟨Nat.le_of_ble_eq_true rfl, Nat.le_of_ble_eq_true rfl⟩) (xPV hP hD hK hN 0 rfl rfl) rfl rfl hl.1 rfl (lv_room (Nat.le_of_ble_eq_true rfl)) (dAt zX6_toldOfAll_0 17 rfl) ⟨Nat.zero_le _, Nat.zero_le _⟩) hS hA hP hD [0, 1, 2, 3, 4, 5, 6, 7, 8, 9, 10, 11, 12, 13, 14, 15, 16] [] [0, 1, 2, 3, 4, 5, 6, 7, 8, 9, 10, 11, 12, 13, 14, 15, 16] rfl rfl (by decide) (by decide) rfl (by decide) (fun H locs hP hD hS => ?_)
            obtain rfl := q_some h
            exact xRi hx hb hr hlocks hQ hAe hP hD hK hS rfl (dAt zX6_toldOfAll_0 18 rfl)
          · have h := q_neg c_1_4 h
            by_cases c_1_5 : a1 = 5
            · have h := q_pos c_1_5 h
              refine lv_tableIn (off := 68) (tgt := 69) hx hb (dAt zX6_toldOfAll_0 1 rfl) (by rw [c_1_5]; decide) (by rw [c_1_5]; decide) (by rw [c_1_5]; rfl) (by decide) ?_
              refine lv_aload_n hx hb (dAt zX6_toldOfAll_0 19 rfl) rfl (lv_at hl 0 rfl) ?_
              refine va_get (D := D) (ci := 6) (v := .int (zS 0 8)) (C := RX6) (T := TX6) (N := 32) hx hb htl inlX6 hown hK hP 0 rfl rfl 8 (by decide) (htl _ W_665) (fun _ h9 => h9) rfl (dAt zX6_toldOfAll_0 20 rfl) ?_
              obtain rfl := q_some h
              exact xRi hx hb hr hlocks hQ hAe hP hD hK hS rfl (dAt zX6_toldOfAll_0 21 rfl)
            · have h := q_neg c_1_5 h
              refine lv_tableOut (tgt := 74) hx hb (dAt zX6_toldOfAll_0 1 rfl) (tabOut (fun k h1 h2 q => by
                  have q0 : k = 0 ∨ k = 1 ∨ k = 2 ∨ k = 3 ∨ k = 4 ∨ k = 5 := by omega
                  rcases q0 with q0 | q0 | q0 | q0 | q0 | q0
                  · exact c_1_0 (Int32.toInt_inj.mp (by rw [q, q0]; rfl))
                  · exact c_1_1 (Int32.toInt_inj.mp (by rw [q, q0]; rfl))
                  · exact c_1_2 (Int32.toInt_inj.mp (by rw [q, q0]; rfl))
                  · exact c_1_3 (Int32.toInt_inj.mp (by rw [q, q0]; rfl))
                  · exact c_1_4 (Int32.toInt_inj.mp (by rw [q, q0]; rfl))
                  · exact c_1_5 (Int32.toInt_inj.mp (by rw [q, q0]; rfl))
                  )) (by decide) ?_
              refine lv_bipush (v := (-2)) hx hb (dAt zX6_toldOfAll_0 22 rfl) (by decide) ?_
              obtain rfl := q_some h
              exact xRi hx hb hr hlocks hQ hAe hP hD hK hS rfl (dAt zX6_toldOfAll_0 23 rfl)
def m_X6_told (n : Nat) (zS : TI) (zL : TL) (a1 : Int32) : Option Int32 := ((m_X6_in n  (Int32.toInt64 a1) 100 199).bind fun u8 => (if u8 = 0 then ((m_X6_in n  (Int32.toInt64 a1) 200 299).bind fun u32 => (if u32 = 0 then ((m_X6_in n  (Int32.toInt64 a1) 10 13).bind fun u75 => (if u75 = 0 then ((m_X6_toldOfAll n zS zL a1).bind fun u95 => some u95) else (gd (inB (a1 - (10 : Int32)) 4) (some ((zS 6) (Int32.toNatClampNeg (a1 - (10 : Int32)))))))) else (if ((a1 - (200 : Int32)) / (10 : Int32)) = (jrem (a1 - (200 : Int32)) (10 : Int32)) then some (-6) else (gd (inB (a1 - (200 : Int32)) 100) (some ((zS 5) (Int32.toNatClampNeg (a1 - (200 : Int32))))))))) else (gd (inB (a1 - (100 : Int32)) 100) (some ((zS 4) (Int32.toNatClampNeg (a1 - (100 : Int32))))))))
set_option maxHeartbeats 4000000 in
set_option maxRecDepth 100000 in
theorem c_X6_told (l : Launch) (D : va_G) (cI cJ cZ : ClassId) (n : Nat) (qS : Nat → Nat) (sz : Nat) (zS : TI) (zL : TL) (a1 : Int32) (out : Int32) (hm : m_X6_told n zS zL a1 = some out) : Met l yX6_told (wsM yX6_told cX6_told 3 (some .int)) { frames := 5, cells := 0, slots := 0, locals := 113 } (xPre D (kT cI cJ cZ) (w6 cI cJ cZ qS zS zL) sz [.ref (qS 0), .int a1]) (xQi D (kT cI cJ cZ) (w6 cI cJ cZ qS zS zL) (w6 cI cJ cZ qS zS zL) sz out) 0 0 (va_A (w6 cI cJ cZ qS zS zL) sz) := by
  refine Met.ofW (cc := cX6_told) (maxL := 3) (ret := (some .int)) (by decide) rfl ?_
  intro p e s m args below meth c s₁ B hml hv
  obtain ⟨hv, hsz, hP, hK, hD0, hN⟩ := hv
  have hx := B.exec; have hb := B.bytes; have hr := B.returns
  have hts := atoms_spec (ws := (wsM yX6_told cX6_told 3 (some .int))) B.pre
  have hown : s.vm.findClass RX6 = some m.cls := findClass_of_methodNamed B.named
  have hlocks := B.notSynchronized
  subst hsz
  have hD := hD0.self (sz := s.heap.size)
  obtain ⟨A, hAe⟩ : ∃ A, A = va_A (w6 cI cJ cZ qS zS zL) s.heap.size := ⟨_, rfl⟩
  rw [← hAe] at hD
  have hA : ∀ q : Nat, s.heap.size ≤ q → A q := fun q h => by rw [hAe]; exact Or.inr h
  have htl : ∀ w ∈ wsL_law, w.before args s = true := fun w h => hts w (List.mem_cons_of_mem _ h)
  refine xHead (R' := { frames := 5, cells := 0, slots := 0, locals := 113 }) rfl (fun Q H hQ hH => ?_)
  have hP : va_P D vwCl (w6 cI cJ cZ qS zS zL) H := by rw [hH]; exact hP
  have hS : va_S A s.heap H [] := by rw [hH]; exact va_S.rf
  refine xStart hv (Nat.le_of_ble_eq_true rfl) (lv := [(0, .ref (qS 0)), (1, .int a1)]) rfl (fun ls hl => ?_)
  have h := hm
  unfold m_X6_told at h
  refine lv_iload_n hx hb (dAt zX6_told_0 0 rfl) rfl (lv_at hl 1 rfl) ?_
  refine lv_i2l (v := (Int32.toInt64 a1)) hx hb (dAt zX6_told_0 1 rfl) rfl ?_
  refine lv_ldc2 (v := 100) hx hb hown (htl _ W_823) (dAt zX6_told_0 2 rfl) ?_
  refine lv_ldc2 (v := 199) hx hb hown (htl _ W_824) (dAt zX6_told_0 3 rfl) ?_
  obtain ⟨u8, hu8, h⟩ := q_bind h
  refine xFz (wc := ([] : va_W)) (w1 := ([] : va_W)) (wr := (w6 cI cJ cZ qS zS zL)) (ws2 := (w6 cI cJ cZ qS zS zL)) (va_runS (As := [.long (Int32.toInt64 a1), .long 100, .long 199]) (rest := []) ⟨hx, hb, hml, hown, htl⟩ (c_X6_in l D cI cJ cZ n  H.size  (Int32.toInt64 a1) 100 199 u8 hu8) (va_cwS 3 htl (gS W_130 W_131 W_5 W_132) rfl rfl rfl (by decide +kernel) ⟨Nat.le_of_ble_eq_true rfl, Nat.le_of_ble_eq_true rfl⟩) (xPS xP0 (xD0 A) hK hN) rfl rfl hl.1 rfl (lv_room (Nat.le_of_ble_eq_true rfl)) (dAt zX6_told_0 4 rfl) ⟨Nat.zero_le _, Nat.zero_le _⟩) hS hA hP hD [] [0, 1, 2, 3, 4, 5, 6, 7, 8, 9, 10, 11, 12, 13, 14, 15, 16] [0, 1, 2, 3, 4, 5, 6, 7, 8, 9, 10, 11, 12, 13, 14, 15, 16] rfl rfl (by decide) (by decide) rfl (by decide) (fun H locs hz8 hP hD hS => ?_)
  refine lv_if_eq (tgt := 24) hx hb (dAt zX6_told_0 5 rfl) (by decide) (fun c_11 => ?_) (fun c_11 => ?_)
  · have h := q_pos c_11 h
    refine lv_iload_n hx hb (dAt zX6_told_0 13 rfl) rfl (lv_at hl 1 rfl) ?_
    refine lv_i2l (v := (Int32.toInt64 a1)) hx hb (dAt zX6_told_0 14 rfl) rfl ?_
    refine lv_ldc2 (v := 200) hx hb hown (htl _ W_825) (dAt zX6_told_0 15 rfl) ?_
    refine lv_ldc2 (v := 299) hx hb hown (htl _ W_826) (dAt zX6_told_0 16 rfl) ?_
    obtain ⟨u32, hu32, h⟩ := q_bind h
    refine xFz (wc := ([] : va_W)) (w1 := ([] : va_W)) (wr := (w6 cI cJ cZ qS zS zL)) (ws2 := (w6 cI cJ cZ qS zS zL)) (va_runS (As := [.long (Int32.toInt64 a1), .long 200, .long 299]) (rest := []) ⟨hx, hb, hml, hown, htl⟩ (c_X6_in l D cI cJ cZ n  H.size  (Int32.toInt64 a1) 200 299 u32 hu32) (va_cwS 3 htl (gS W_130 W_131 W_5 W_132) rfl rfl rfl (by decide +kernel) ⟨Nat.le_of_ble_eq_true rfl, Nat.le_of_ble_eq_true rfl⟩) (xPS xP0 (xD0 A) hK hN) rfl rfl hl.1 rfl (lv_room (Nat.le_of_ble_eq_true rfl)) (dAt zX6_told_0 17 rfl) ⟨Nat.zero_le _, Nat.zero_le _⟩) hS hA hP hD [] [0, 1, 2, 3, 4, 5, 6, 7, 8, 9, 10, 11, 12, 13, 14, 15, 16] [0, 1, 2, 3, 4, 5, 6, 7, 8, 9, 10, 11, 12, 13, 14, 15, 16] rfl rfl (by decide) (by decide) rfl (by decide) (fun H locs hz32 hP hD hS => ?_)
    refine lv_if_eq (tgt := 67) hx hb (dAt zX6_told_0 18 rfl) (by decide) (fun c_35 => ?_) (fun c_35 => ?_)
    · have h := q_pos c_35 h
      refine lv_iload_n hx hb (dAt zX6_told_0 37 rfl) rfl (lv_at hl 1 rfl) ?_
      refine lv_i2l (v := (Int32.toInt64 a1)) hx hb (dAt zX6_told_0 38 rfl) rfl ?_
      refine lv_ldc2 (v := 10) hx hb hown (htl _ W_636) (dAt zX6_told_0 39 rfl) ?_
      refine lv_ldc2 (v := 13) hx hb hown (htl _ W_827) (dAt zX6_told_0 40 rfl) ?_
      obtain ⟨u75, hu75, h⟩ := q_bind h
      refine xFz (wc := ([] : va_W)) (w1 := ([] : va_W)) (wr := (w6 cI cJ cZ qS zS zL)) (ws2 := (w6 cI cJ cZ qS zS zL)) (va_runS (As := [.long (Int32.toInt64 a1), .long 10, .long 13]) (rest := []) ⟨hx, hb, hml, hown, htl⟩ (c_X6_in l D cI cJ cZ n  H.size  (Int32.toInt64 a1) 10 13 u75 hu75) (va_cwS 3 htl (gS W_130 W_131 W_5 W_132) rfl rfl rfl (by decide +kernel) ⟨Nat.le_of_ble_eq_true rfl, Nat.le_of_ble_eq_true rfl⟩) (xPS xP0 (xD0 A) hK hN) rfl rfl hl.1 rfl (lv_room (Nat.le_of_ble_eq_true rfl)) (dAt zX6_told_0 41 rfl) ⟨Nat.zero_le _, Nat.zero_le _⟩) hS hA hP hD [] [0, 1, 2, 3, 4, 5, 6, 7, 8, 9, 10, 11, 12, 13, 14, 15, 16] [0, 1, 2, 3, 4, 5, 6, 7, 8, 9, 10, 11, 12, 13, 14, 15, 16] rfl rfl (by decide) (by decide) rfl (by decide) (fun H locs hz75 hP hD hS => ?_)
      refine lv_if_eq (tgt := 93) hx hb (dAt zX6_told_0 42 rfl) (by decide) (fun c_78 => ?_) (fun c_78 => ?_)
      · have h := q_pos c_78 h
        refine lv_aload_n hx hb (dAt zX6_told_0 50 rfl) rfl (lv_at hl 0 rfl) ?_
        refine lv_iload_n hx hb (dAt zX6_told_0 51 rfl) rfl (lv_at hl 1 rfl) ?_
        obtain ⟨u95, hu95, h⟩ := q_bind h
        refine xFi (wc := (w6 cI cJ cZ qS zS zL)) (w1 := (w6 cI cJ cZ qS zS zL)) (wr := ([] : va_W)) (ws2 := (w6 cI cJ cZ qS zS zL)) (va_runV (As := [.int a1]) (rest := []) ⟨hx, hb, hml, hown, htl⟩ (c_X6_toldOfAll l D cI cJ cZ n qS H.size zS zL a1 u95 hu95) (cwV 1 htl (gV W_828 W_829 W_830 W_5 W_831) rfl rfl rfl (by decide +kernel) ⟨Nat.le_of_ble_eq_true rfl, Nat.le_of_ble_eq_true rfl⟩) (xPV hP hD hK hN 0 rfl rfl) rfl rfl hl.1 rfl (lv_room (Nat.le_of_ble_eq_true rfl)) (dAt zX6_told_0 52 rfl) ⟨Nat.zero_le _, Nat.zero_le _⟩) hS hA hP hD [0, 1, 2, 3, 4, 5, 6, 7, 8, 9, 10, 11, 12, 13, 14, 15, 16] [] [0, 1, 2, 3, 4, 5, 6, 7, 8, 9, 10, 11, 12, 13, 14, 15, 16] rfl rfl (by decide) (by decide) rfl (by decide) (fun H locs hP hD hS => ?_)
        obtain rfl := q_some h
        exact xRi hx hb hr hlocks hQ hAe hP hD hK hS rfl (dAt zX6_told_0 53 rfl)
      · have h := q_neg c_78 h
        refine lv_aload_n hx hb (dAt zX6_told_0 43 rfl) rfl (lv_at hl 0 rfl) ?_
        refine va_get (D := D) (ci := 6) (v := .ref (qS 6)) (C := RX6) (T := TX6) (N := 32) hx hb htl inlX6 hown hK hP 0 rfl rfl 5 (by decide) (htl _ W_87) (fun _ h9 => h9) rfl (dAt zX6_told_0 44 rfl) ?_
        refine lv_iload_n hx hb (dAt zX6_told_0 45 rfl) rfl (lv_at hl 1 rfl) ?_
        refine lv_bipush (v := 10) hx hb (dAt zX6_told_0 46 rfl) (by decide) ?_
        refine lv_isub hx hb (dAt zX6_told_0 47 rfl) ?_
        obtain ⟨hi_89, h⟩ := q_in h
        refine va_iald hx hb hK hP 3 0 rfl rfl hi_89 (dAt zX6_told_0 48 rfl) ?_
        refine lv_goto (tgt := 98) hx hb (dAt zX6_told_0 49 rfl) (by decide) ?_
        obtain rfl := q_some h
        exact xRi hx hb hr hlocks hQ hAe hP hD hK hS rfl (dAt zX6_told_0 53 rfl)
    · have h := q_neg c_35 h
      refine lv_iload_n hx hb (dAt zX6_told_0 19 rfl) rfl (lv_at hl 1 rfl) ?_
      refine lv_sipush (v := 200) hx hb (dAt zX6_told_0 20 rfl) (by decide) ?_
      refine lv_isub hx hb (dAt zX6_told_0 21 rfl) ?_
      refine lv_istore_n (lv' := [(2, .int (a1 - (200 : Int32))), (0, .ref (qS 0)), (1, .int a1)]) hx hb (dAt zX6_told_0 22 rfl) rfl hl (by decide) rfl (fun ls hl => ?_)
      refine lv_iload_n hx hb (dAt zX6_told_0 23 rfl) rfl (lv_at hl 0 rfl) ?_
      refine lv_bipush (v := 10) hx hb (dAt zX6_told_0 24 rfl) (by decide) ?_
      refine lv_idiv hx hb (dAt zX6_told_0 25 rfl) (by decide) ?_
      refine lv_iload_n hx hb (dAt zX6_told_0 26 rfl) rfl (lv_at hl 0 rfl) ?_
      refine lv_bipush (v := 10) hx hb (dAt zX6_told_0 27 rfl) (by decide) ?_
      refine lv_irem hx hb (dAt zX6_told_0 28 rfl) (by decide) ?_
      refine lv_icmp_ne (tgt := 60) hx hb (dAt zX6_told_0 29 rfl) (by decide) (fun c_52 => ?_) (fun c_52 => ?_)
      · have h := q_neg c_52 h
        refine lv_aload_n hx hb (dAt zX6_told_0 32 rfl) rfl (lv_at hl 1 rfl) ?_
        refine va_get (D := D) (ci := 6) (v := .ref (qS 5)) (C := RX6) (T := TX6) (N := 32) hx hb htl inlX6 hown hK hP 0 rfl rfl 4 (by decide) (htl _ W_86) (fun _ h9 => h9) rfl (dAt zX6_told_0 33 rfl) ?_
        refine lv_iload_n hx hb (dAt zX6_told_0 34 rfl) rfl (lv_at hl 0 rfl) ?_
        obtain ⟨hi_65, h⟩ := q_in h
        refine va_iald hx hb hK hP 2 0 rfl rfl hi_65 (dAt zX6_told_0 35 rfl) ?_
        obtain rfl := q_some h
        exact xRi hx hb hr hlocks hQ hAe hP hD hK hS rfl (dAt zX6_told_0 36 rfl)
      · have h := q_pos c_52 h
        refine lv_bipush (v := (-6)) hx hb (dAt zX6_told_0 30 rfl) (by decide) ?_
        refine lv_goto (tgt := 66) hx hb (dAt zX6_told_0 31 rfl) (by decide) ?_
        obtain rfl := q_some h
        exact xRi hx hb hr hlocks hQ hAe hP hD hK hS rfl (dAt zX6_told_0 36 rfl)
  · have h := q_neg c_11 h
    refine lv_aload_n hx hb (dAt zX6_told_0 6 rfl) rfl (lv_at hl 0 rfl) ?_
    refine va_get (D := D) (ci := 6) (v := .ref (qS 4)) (C := RX6) (T := TX6) (N := 32) hx hb htl inlX6 hown hK hP 0 rfl rfl 3 (by decide) (htl _ W_85) (fun _ h9 => h9) rfl (dAt zX6_told_0 7 rfl) ?_
    refine lv_iload_n hx hb (dAt zX6_told_0 8 rfl) rfl (lv_at hl 1 rfl) ?_
    refine lv_bipush (v := 100) hx hb (dAt zX6_told_0 9 rfl) (by decide) ?_
    refine lv_isub hx hb (dAt zX6_told_0 10 rfl) ?_
    obtain ⟨hi_22, h⟩ := q_in h
    refine va_iald hx hb hK hP 1 0 rfl rfl hi_22 (dAt zX6_told_0 11 rfl) ?_
    obtain rfl := q_some h
    exact xRi hx hb hr hlocks hQ hAe hP hD hK hS rfl (dAt zX6_told_0 12 rfl)
