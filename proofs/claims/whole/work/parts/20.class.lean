def m_X5_isOne (n : Nat) (a1 : Int32) : Option Int32 := (if a1 < 0 then some 0 else (if 10 ≤ a1 then some 0 else some 1))
set_option maxHeartbeats 4000000 in
set_option maxRecDepth 100000 in
theorem c_X5_isOne (l : Launch) (D : va_G) (cI cJ cZ : ClassId) (n : Nat)  (sz : Nat) (a1 : Int32) (out : Int32) (hm : m_X5_isOne n a1 = some out) : Met l yX5_isOne (wsM yX5_isOne cX5_isOne 1 (some .boolean)) { frames := 0, cells := 0, slots := 0, locals := 0 } (xPre D (kT cI cJ cZ) ([] : va_W) sz [.int a1]) (xQz D (kT cI cJ cZ) ([] : va_W) ([] : va_W) sz out) 0 0 (va_A ([] : va_W) sz) := by
  refine Met.ofW (cc := cX5_isOne) (maxL := 1) (ret := (some .boolean)) (by decide) rfl ?_
  intro p e s m args below meth c s₁ B hml hv
  obtain ⟨hv, hsz, hP, hK, hD0, hN⟩ := hv
  have hx := B.exec; have hb := B.bytes; have hr := B.returns
  have hts := atoms_spec (ws := (wsM yX5_isOne cX5_isOne 1 (some .boolean))) B.pre
  have hown : s.vm.findClass RX5 = some m.cls := findClass_of_methodNamed B.named
  have hlocks := B.notSynchronized
  subst hsz
  have hD := hD0.self (sz := s.heap.size)
  obtain ⟨A, hAe⟩ : ∃ A, A = va_A ([] : va_W) s.heap.size := ⟨_, rfl⟩
  rw [← hAe] at hD
  have hA : ∀ q : Nat, s.heap.size ≤ q → A q := fun q h => by rw [hAe]; exact Or.inr h
  have htl : ∀ w ∈ wsL_law, w.before args s = true := fun w h => hts w (List.mem_cons_of_mem _ h)
  refine xHead (R' := { frames := 0, cells := 0, slots := 0, locals := 0 }) rfl (fun Q H hQ hH => ?_)
  have hP : va_P D vwCl ([] : va_W) H := by rw [hH]; exact hP
  have hS : va_S A s.heap H [] := by rw [hH]; exact va_S.rf
  refine xStart hv (Nat.le_of_ble_eq_true rfl) (lv := [(0, .int a1)]) rfl (fun ls hl => ?_)
  have h := hm
  unfold m_X5_isOne at h
  refine lv_iload_n hx hb (dAt zX5_isOne_0 0 rfl) rfl (lv_at hl 0 rfl) ?_
  refine lv_if_lt (tgt := 14) hx hb (dAt zX5_isOne_0 1 rfl) (by decide) (fun c_1 => ?_) (fun c_1 => ?_)
  · have h := q_pos c_1 h
    refine lv_iconst (v := 0) hx hb (dAt zX5_isOne_0 7 rfl) (by decide) ?_
    obtain rfl := q_some h
    exact xRz hx hb hr hlocks hQ hAe hP hD hK hS rfl rfl (dAt zX5_isOne_0 8 rfl)
  · have h := q_neg c_1 h
    refine lv_iload_n hx hb (dAt zX5_isOne_0 2 rfl) rfl (lv_at hl 0 rfl) ?_
    refine lv_bipush (v := 10) hx hb (dAt zX5_isOne_0 3 rfl) (by decide) ?_
    refine lv_icmp_ge (tgt := 14) hx hb (dAt zX5_isOne_0 4 rfl) (by decide) (fun c_7 => ?_) (fun c_7 => ?_)
    · have h := q_pos c_7 h
      refine lv_iconst (v := 0) hx hb (dAt zX5_isOne_0 7 rfl) (by decide) ?_
      obtain rfl := q_some h
      exact xRz hx hb hr hlocks hQ hAe hP hD hK hS rfl rfl (dAt zX5_isOne_0 8 rfl)
    · have h := q_neg c_7 h
      refine lv_iconst (v := 1) hx hb (dAt zX5_isOne_0 5 rfl) (by decide) ?_
      refine lv_goto (tgt := 15) hx hb (dAt zX5_isOne_0 6 rfl) (by decide) ?_
      obtain rfl := q_some h
      exact xRz hx hb hr hlocks hQ hAe hP hD hK hS rfl rfl (dAt zX5_isOne_0 8 rfl)
def m_X5_isWithin (n : Nat) (a1 : Int32) (a2 : Int32) (a3 : Int32) : Option Int32 := (if a1 < a2 then some 0 else (if a3 < a1 then some 0 else some 1))
set_option maxHeartbeats 4000000 in
set_option maxRecDepth 100000 in
theorem c_X5_isWithin (l : Launch) (D : va_G) (cI cJ cZ : ClassId) (n : Nat)  (sz : Nat) (a1 : Int32) (a2 : Int32) (a3 : Int32) (out : Int32) (hm : m_X5_isWithin n a1 a2 a3 = some out) : Met l yX5_isWithin (wsM yX5_isWithin cX5_isWithin 3 (some .boolean)) { frames := 0, cells := 0, slots := 0, locals := 0 } (xPre D (kT cI cJ cZ) ([] : va_W) sz [.int a1, .int a2, .int a3]) (xQz D (kT cI cJ cZ) ([] : va_W) ([] : va_W) sz out) 0 0 (va_A ([] : va_W) sz) := by
  refine Met.ofW (cc := cX5_isWithin) (maxL := 3) (ret := (some .boolean)) (by decide) rfl ?_
  intro p e s m args below meth c s₁ B hml hv
  obtain ⟨hv, hsz, hP, hK, hD0, hN⟩ := hv
  have hx := B.exec; have hb := B.bytes; have hr := B.returns
  have hts := atoms_spec (ws := (wsM yX5_isWithin cX5_isWithin 3 (some .boolean))) B.pre
  have hown : s.vm.findClass RX5 = some m.cls := findClass_of_methodNamed B.named
  have hlocks := B.notSynchronized
  subst hsz
  have hD := hD0.self (sz := s.heap.size)
  obtain ⟨A, hAe⟩ : ∃ A, A = va_A ([] : va_W) s.heap.size := ⟨_, rfl⟩
  rw [← hAe] at hD
  have hA : ∀ q : Nat, s.heap.size ≤ q → A q := fun q h => by rw [hAe]; exact Or.inr h
  have htl : ∀ w ∈ wsL_law, w.before args s = true := fun w h => hts w (List.mem_cons_of_mem _ h)
  refine xHead (R' := { frames := 0, cells := 0, slots := 0, locals := 0 }) rfl (fun Q H hQ hH => ?_)
  have hP : va_P D vwCl ([] : va_W) H := by rw [hH]; exact hP
  have hS : va_S A s.heap H [] := by rw [hH]; exact va_S.rf
  refine xStart hv (Nat.le_of_ble_eq_true rfl) (lv := [(0, .int a1), (1, .int a2), (2, .int a3)]) rfl (fun ls hl => ?_)
  have h := hm
  unfold m_X5_isWithin at h
  refine lv_iload_n hx hb (dAt zX5_isWithin_0 0 rfl) rfl (lv_at hl 0 rfl) ?_
  refine lv_iload_n hx hb (dAt zX5_isWithin_0 1 rfl) rfl (lv_at hl 1 rfl) ?_
  refine lv_icmp_lt (tgt := 14) hx hb (dAt zX5_isWithin_0 2 rfl) (by decide) (fun c_2 => ?_) (fun c_2 => ?_)
  · have h := q_pos c_2 h
    refine lv_iconst (v := 0) hx hb (dAt zX5_isWithin_0 8 rfl) (by decide) ?_
    obtain rfl := q_some h
    exact xRz hx hb hr hlocks hQ hAe hP hD hK hS rfl rfl (dAt zX5_isWithin_0 9 rfl)
  · have h := q_neg c_2 h
    refine lv_iload_n hx hb (dAt zX5_isWithin_0 3 rfl) rfl (lv_at hl 0 rfl) ?_
    refine lv_iload_n hx hb (dAt zX5_isWithin_0 4 rfl) rfl (lv_at hl 2 rfl) ?_
    refine lv_icmp_gt (tgt := 14) hx hb (dAt zX5_isWithin_0 5 rfl) (by decide) (fun c_7 => ?_) (fun c_7 => ?_)
    · have h := q_pos c_7 h
      refine lv_iconst (v := 0) hx hb (dAt zX5_isWithin_0 8 rfl) (by decide) ?_
      obtain rfl := q_some h
      exact xRz hx hb hr hlocks hQ hAe hP hD hK hS rfl rfl (dAt zX5_isWithin_0 9 rfl)
    · have h := q_neg c_7 h
      refine lv_iconst (v := 1) hx hb (dAt zX5_isWithin_0 6 rfl) (by decide) ?_
      refine lv_goto (tgt := 15) hx hb (dAt zX5_isWithin_0 7 rfl) (by decide) ?_
      obtain rfl := q_some h
      exact xRz hx hb hr hlocks hQ hAe hP hD hK hS rfl rfl (dAt zX5_isWithin_0 9 rfl)
def m_X4_strength (n : Nat) (zT : TI) (a1 : Int32) (a2 : Int32) : Option Int32 := (if a1 < 0 then some 0 else (if 10 ≤ a1 then some 0 else (if a2 < 0 then some 0 else (if a2 < 10 then (gd (inB ((a1 * (10 : Int32)) + a2) 100) (some ((zT 6) (Int32.toNatClampNeg ((a1 * (10 : Int32)) + a2))))) else some 0))))
set_option maxHeartbeats 4000000 in
set_option maxRecDepth 100000 in
theorem c_X4_strength (l : Launch) (D : va_G) (cI cJ cZ : ClassId) (n : Nat) (qT : Nat → Nat) (sz : Nat) (zT : TI) (a1 : Int32) (a2 : Int32) (out : Int32) (hm : m_X4_strength n zT a1 a2 = some out) : Met l yX4_strength (wsM yX4_strength cX4_strength 3 (some .int)) { frames := 0, cells := 0, slots := 0, locals := 0 } (xPre D (kT cI cJ cZ) (w4 cI qT zT) sz [.ref (qT 0), .int a1, .int a2]) (xQi D (kT cI cJ cZ) (w4 cI qT zT) (w4 cI qT zT) sz out) 0 0 (va_A (w4 cI qT zT) sz) := by
  refine Met.ofW (cc := cX4_strength) (maxL := 3) (ret := (some .int)) (by decide) rfl ?_
  intro p e s m args below meth c s₁ B hml hv
  obtain ⟨hv, hsz, hP, hK, hD0, hN⟩ := hv
  have hx := B.exec; have hb := B.bytes; have hr := B.returns
  have hts := atoms_spec (ws := (wsM yX4_strength cX4_strength 3 (some .int))) B.pre
  have hown : s.vm.findClass RX4 = some m.cls := findClass_of_methodNamed B.named
  have hlocks := B.notSynchronized
  subst hsz
  have hD := hD0.self (sz := s.heap.size)
  obtain ⟨A, hAe⟩ : ∃ A, A = va_A (w4 cI qT zT) s.heap.size := ⟨_, rfl⟩
  rw [← hAe] at hD
  have hA : ∀ q : Nat, s.heap.size ≤ q → A q := fun q h => by rw [hAe]; exact Or.inr h
  have htl : ∀ w ∈ wsL_law, w.before args s = true := fun w h => hts w (List.mem_cons_of_mem _ h)
  refine xHead (R' := { frames := 0, cells := 0, slots := 0, locals := 0 }) rfl (fun Q H hQ hH => ?_)
  have hP : va_P D vwCl (w4 cI qT zT) H := by rw [hH]; exact hP
  have hS : va_S A s.heap H [] := by rw [hH]; exact va_S.rf
  refine xStart hv (Nat.le_of_ble_eq_true rfl) (lv := [(0, .ref (qT 0)), (1, .int a1), (2, .int a2)]) rfl (fun ls hl => ?_)
  have h := hm
  unfold m_X4_strength at h
  refine lv_iload_n hx hb (dAt zX4_strength_0 0 rfl) rfl (lv_at hl 1 rfl) ?_
  refine lv_if_lt (tgt := 20) hx hb (dAt zX4_strength_0 1 rfl) (by decide) (fun c_1 => ?_) (fun c_1 => ?_)
  · have h := q_pos c_1 h
    refine lv_iconst (v := 0) hx hb (dAt zX4_strength_0 10 rfl) (by decide) ?_
    obtain rfl := q_some h
    exact xRi hx hb hr hlocks hQ hAe hP hD hK hS rfl (dAt zX4_strength_0 11 rfl)
  · have h := q_neg c_1 h
    refine lv_iload_n hx hb (dAt zX4_strength_0 2 rfl) rfl (lv_at hl 1 rfl) ?_
    refine lv_bipush (v := 10) hx hb (dAt zX4_strength_0 3 rfl) (by decide) ?_
    refine lv_icmp_ge (tgt := 20) hx hb (dAt zX4_strength_0 4 rfl) (by decide) (fun c_7 => ?_) (fun c_7 => ?_)
    · have h := q_pos c_7 h
      refine lv_iconst (v := 0) hx hb (dAt zX4_strength_0 10 rfl) (by decide) ?_
      obtain rfl := q_some h
      exact xRi hx hb hr hlocks hQ hAe hP hD hK hS rfl (dAt zX4_strength_0 11 rfl)
    · have h := q_neg c_7 h
      refine lv_iload_n hx hb (dAt zX4_strength_0 5 rfl) rfl (lv_at hl 2 rfl) ?_
      refine lv_if_lt (tgt := 20) hx hb (dAt zX4_strength_0 6 rfl) (by decide) (fun c_11 => ?_) (fun c_11 => ?_)
      · have h := q_pos c_11 h
        refine lv_iconst (v := 0) hx hb (dAt zX4_strength_0 10 rfl) (by decide) ?_
        obtain rfl := q_some h
        exact xRi hx hb hr hlocks hQ hAe hP hD hK hS rfl (dAt zX4_strength_0 11 rfl)
      · have h := q_neg c_11 h
        refine lv_iload_n hx hb (dAt zX4_strength_0 7 rfl) rfl (lv_at hl 2 rfl) ?_
        refine lv_bipush (v := 10) hx hb (dAt zX4_strength_0 8 rfl) (by decide) ?_
        refine lv_icmp_lt (tgt := 22) hx hb (dAt zX4_strength_0 9 rfl) (by decide) (fun c_17 => ?_) (fun c_17 => ?_)
        · have h := q_pos c_17 h
          refine lv_aload_n hx hb (dAt zX4_strength_0 12 rfl) rfl (lv_at hl 0 rfl) ?_
          refine va_get (D := D) (ci := 4) (v := .ref (qT 6)) (C := RX4) (T := TX4) (N := 9) hx hb htl inlX4 hown hK hP 0 rfl rfl 5 (by decide) (htl _ W_45) (fun _ h9 => h9) rfl (dAt zX4_strength_0 13 rfl) ?_
          refine lv_iload_n hx hb (dAt zX4_strength_0 14 rfl) rfl (lv_at hl 1 rfl) ?_
          refine lv_bipush (v := 10) hx hb (dAt zX4_strength_0 15 rfl) (by decide) ?_
          refine lv_imul hx hb (dAt zX4_strength_0 16 rfl) ?_
          refine lv_iload_n hx hb (dAt zX4_strength_0 17 rfl) rfl (lv_at hl 2 rfl) ?_
          refine lv_iadd hx hb (dAt zX4_strength_0 18 rfl) ?_
          obtain ⟨hi_32, h⟩ := q_in h
          refine va_iald hx hb hK hP 1 0 rfl rfl hi_32 (dAt zX4_strength_0 19 rfl) ?_
          obtain rfl := q_some h
          exact xRi hx hb hr hlocks hQ hAe hP hD hK hS rfl (dAt zX4_strength_0 20 rfl)
        · have h := q_neg c_17 h
          refine lv_iconst (v := 0) hx hb (dAt zX4_strength_0 10 rfl) (by decide) ?_
          obtain rfl := q_some h
          exact xRi hx hb hr hlocks hQ hAe hP hD hK hS rfl (dAt zX4_strength_0 11 rfl)
def m_X4_bind (n : Nat) (zT : TI) (a1 : Int32) (a2 : Int32) (a3 : Int32) (a4 : Int32) : Option TI := (if a1 < 0 then some zT else (if 10 ≤ a1 then some zT else (if a2 < 0 then some zT else (if 10 ≤ a2 then some zT else (if a1 = a2 then some zT else (gd (inB ((a1 * (10 : Int32)) + a2) 100) ((gd (inB ((a2 * (10 : Int32)) + a1) 100) ((gd (inB ((a1 * (10 : Int32)) + a2) 100) ((gd (inB ((a2 * (10 : Int32)) + a1) 100) (some (upA (upA zT 6 (upd (upd (zT 6) (Int32.toNatClampNeg ((a1 * (10 : Int32)) + a2)) a4) (Int32.toNatClampNeg ((a2 * (10 : Int32)) + a1)) a4)) 7 (upd (upd (zT 7) (Int32.toNatClampNeg ((a1 * (10 : Int32)) + a2)) a3) (Int32.toNatClampNeg ((a2 * (10 : Int32)) + a1)) a3)))))))))))))))
set_option maxHeartbeats 4000000 in
set_option maxRecDepth 100000 in
theorem c_X4_bind (l : Launch) (D : va_G) (cI cJ cZ : ClassId) (n : Nat) (qT : Nat → Nat) (sz : Nat) (zT : TI) (a1 : Int32) (a2 : Int32) (a3 : Int32) (a4 : Int32) (out : TI) (hm : m_X4_bind n zT a1 a2 a3 a4 = some out) : Met l yX4_bind (wsM yX4_bind cX4_bind 5 none) { frames := 0, cells := 0, slots := 0, locals := 0 } (xPre D (kT cI cJ cZ) (w4 cI qT zT) sz [.ref (qT 0), .int a1, .int a2, .int a3, .int a4]) (xQv D (kT cI cJ cZ) (w4 cI qT zT) (w4 cI qT out) sz) 0 0 (va_A (w4 cI qT zT) sz) := by
  refine Met.ofW (cc := cX4_bind) (maxL := 5) (ret := none) (by decide) rfl ?_
  intro p e s m args below meth c s₁ B hml hv
  obtain ⟨hv, hsz, hP, hK, hD0, hN⟩ := hv
  have hx := B.exec; have hb := B.bytes; have hr := B.returns
  have hts := atoms_spec (ws := (wsM yX4_bind cX4_bind 5 none)) B.pre
  have hown : s.vm.findClass RX4 = some m.cls := findClass_of_methodNamed B.named
  have hlocks := B.notSynchronized
  subst hsz
  have hD := hD0.self (sz := s.heap.size)
  obtain ⟨A, hAe⟩ : ∃ A, A = va_A (w4 cI qT zT) s.heap.size := ⟨_, rfl⟩
  rw [← hAe] at hD
  have hA : ∀ q : Nat, s.heap.size ≤ q → A q := fun q h => by rw [hAe]; exact Or.inr h
  have htl : ∀ w ∈ wsL_law, w.before args s = true := fun w h => hts w (List.mem_cons_of_mem _ h)
  refine xHead (R' := { frames := 0, cells := 0, slots := 0, locals := 0 }) rfl (fun Q H hQ hH => ?_)
  have hP : va_P D vwCl (w4 cI qT zT) H := by rw [hH]; exact hP
  have hS : va_S A s.heap H [] := by rw [hH]; exact va_S.rf
  refine xStart hv (Nat.le_of_ble_eq_true rfl) (lv := [(0, .ref (qT 0)), (1, .int a1), (2, .int a2), (3, .int a3), (4, .int a4)]) rfl (fun ls hl => ?_)
  have h := hm
  unfold m_X4_bind at h
  refine lv_iload_n hx hb (dAt zX4_bind_0 0 rfl) rfl (lv_at hl 1 rfl) ?_
  refine lv_if_lt (tgt := 25) hx hb (dAt zX4_bind_0 1 rfl) (by decide) (fun c_1 => ?_) (fun c_1 => ?_)
  · have h := q_pos c_1 h
    obtain rfl := q_some h
    exact xRv hx hb hr hlocks hQ hAe hP hD hK hS (dAt zX4_bind_0 13 rfl)
  · have h := q_neg c_1 h
    refine lv_iload_n hx hb (dAt zX4_bind_0 2 rfl) rfl (lv_at hl 1 rfl) ?_
    refine lv_bipush (v := 10) hx hb (dAt zX4_bind_0 3 rfl) (by decide) ?_
    refine lv_icmp_ge (tgt := 25) hx hb (dAt zX4_bind_0 4 rfl) (by decide) (fun c_7 => ?_) (fun c_7 => ?_)
    · have h := q_pos c_7 h
      obtain rfl := q_some h
      exact xRv hx hb hr hlocks hQ hAe hP hD hK hS (dAt zX4_bind_0 13 rfl)
    · have h := q_neg c_7 h
      refine lv_iload_n hx hb (dAt zX4_bind_0 5 rfl) rfl (lv_at hl 2 rfl) ?_
      refine lv_if_lt (tgt := 25) hx hb (dAt zX4_bind_0 6 rfl) (by decide) (fun c_11 => ?_) (fun c_11 => ?_)
      · have h := q_pos c_11 h
        obtain rfl := q_some h
        exact xRv hx hb hr hlocks hQ hAe hP hD hK hS (dAt zX4_bind_0 13 rfl)
      · have h := q_neg c_11 h
        refine lv_iload_n hx hb (dAt zX4_bind_0 7 rfl) rfl (lv_at hl 2 rfl) ?_
        refine lv_bipush (v := 10) hx hb (dAt zX4_bind_0 8 rfl) (by decide) ?_
        refine lv_icmp_ge (tgt := 25) hx hb (dAt zX4_bind_0 9 rfl) (by decide) (fun c_17 => ?_) (fun c_17 => ?_)
        · have h := q_pos c_17 h
          obtain rfl := q_some h
          exact xRv hx hb hr hlocks hQ hAe hP hD hK hS (dAt zX4_bind_0 13 rfl)
        · have h := q_neg c_17 h
          refine lv_iload_n hx hb (dAt zX4_bind_0 10 rfl) rfl (lv_at hl 1 rfl) ?_
          refine lv_iload_n hx hb (dAt zX4_bind_0 11 rfl) rfl (lv_at hl 2 rfl) ?_
          refine lv_icmp_ne (tgt := 26) hx hb (dAt zX4_bind_0 12 rfl) (by decide) (fun c_22 => ?_) (fun c_22 => ?_)
          · have h := q_neg c_22 h
            refine lv_aload_n hx hb (dAt zX4_bind_0 14 rfl) rfl (lv_at hl 0 rfl) ?_
            refine va_get (D := D) (ci := 4) (v := .ref (qT 6)) (C := RX4) (T := TX4) (N := 9) hx hb htl inlX4 hown hK hP 0 rfl rfl 5 (by decide) (htl _ W_45) (fun _ h9 => h9) rfl (dAt zX4_bind_0 15 rfl) ?_
            refine lv_iload_n hx hb (dAt zX4_bind_0 16 rfl) rfl (lv_at hl 1 rfl) ?_
            refine lv_bipush (v := 10) hx hb (dAt zX4_bind_0 17 rfl) (by decide) ?_
            refine lv_imul hx hb (dAt zX4_bind_0 18 rfl) ?_
            refine lv_iload_n hx hb (dAt zX4_bind_0 19 rfl) rfl (lv_at hl 2 rfl) ?_
            refine lv_iadd hx hb (dAt zX4_bind_0 20 rfl) ?_
            refine lv_iload hx hb (dAt zX4_bind_0 21 rfl) (lv_at hl 4 rfl) ?_
            obtain ⟨hi_38, h⟩ := q_in h
            refine va_iast hx hb hK hP hD hS 1 0 rfl rfl hi_38 (dAt zX4_bind_0 22 rfl) (fun H locs hP hD hS => ?_)
            have hP : va_P D vwCl (w4x cI qT (zT 0 0) (zT 0 1) (zT 0 2) (zT 0 3) (zT 0 4) (upd (zT 6) (Int32.toNatClampNeg ((a1 * (10 : Int32)) + a2)) a4) (zT 7) (zT 8) (zT 9)) H := hP
            have hD : va_D A (w4x cI qT (zT 0 0) (zT 0 1) (zT 0 2) (zT 0 3) (zT 0 4) (upd (zT 6) (Int32.toNatClampNeg ((a1 * (10 : Int32)) + a2)) a4) (zT 7) (zT 8) (zT 9)) := hD
            refine lv_aload_n hx hb (dAt zX4_bind_0 23 rfl) rfl (lv_at hl 0 rfl) ?_
            refine va_get (D := D) (ci := 4) (v := .ref (qT 6)) (C := RX4) (T := TX4) (N := 9) hx hb htl inlX4 hown hK hP 0 rfl rfl 5 (by decide) (htl _ W_45) (fun _ h9 => h9) rfl (dAt zX4_bind_0 24 rfl) ?_
            refine lv_iload_n hx hb (dAt zX4_bind_0 25 rfl) rfl (lv_at hl 2 rfl) ?_
            refine lv_bipush (v := 10) hx hb (dAt zX4_bind_0 26 rfl) (by decide) ?_
            refine lv_imul hx hb (dAt zX4_bind_0 27 rfl) ?_
            refine lv_iload_n hx hb (dAt zX4_bind_0 28 rfl) rfl (lv_at hl 1 rfl) ?_
            refine lv_iadd hx hb (dAt zX4_bind_0 29 rfl) ?_
            refine lv_iload hx hb (dAt zX4_bind_0 30 rfl) (lv_at hl 4 rfl) ?_
            obtain ⟨hi_51, h⟩ := q_in h
            refine va_iast hx hb hK hP hD hS 1 0 rfl rfl hi_51 (dAt zX4_bind_0 31 rfl) (fun H locs hP hD hS => ?_)
            have hP : va_P D vwCl (w4x cI qT (zT 0 0) (zT 0 1) (zT 0 2) (zT 0 3) (zT 0 4) (upd (upd (zT 6) (Int32.toNatClampNeg ((a1 * (10 : Int32)) + a2)) a4) (Int32.toNatClampNeg ((a2 * (10 : Int32)) + a1)) a4) (zT 7) (zT 8) (zT 9)) H := hP
            have hD : va_D A (w4x cI qT (zT 0 0) (zT 0 1) (zT 0 2) (zT 0 3) (zT 0 4) (upd (upd (zT 6) (Int32.toNatClampNeg ((a1 * (10 : Int32)) + a2)) a4) (Int32.toNatClampNeg ((a2 * (10 : Int32)) + a1)) a4) (zT 7) (zT 8) (zT 9)) := hD
            refine lv_aload_n hx hb (dAt zX4_bind_0 32 rfl) rfl (lv_at hl 0 rfl) ?_
            refine va_get (D := D) (ci := 4) (v := .ref (qT 7)) (C := RX4) (T := TX4) (N := 9) hx hb htl inlX4 hown hK hP 0 rfl rfl 6 (by decide) (htl _ W_46) (fun _ h9 => h9) rfl (dAt zX4_bind_0 33 rfl) ?_
            refine lv_iload_n hx hb (dAt zX4_bind_0 34 rfl) rfl (lv_at hl 1 rfl) ?_
            refine lv_bipush (v := 10) hx hb (dAt zX4_bind_0 35 rfl) (by decide) ?_
            refine lv_imul hx hb (dAt zX4_bind_0 36 rfl) ?_
            refine lv_iload_n hx hb (dAt zX4_bind_0 37 rfl) rfl (lv_at hl 2 rfl) ?_
            refine lv_iadd hx hb (dAt zX4_bind_0 38 rfl) ?_
            refine lv_iload_n hx hb (dAt zX4_bind_0 39 rfl) rfl (lv_at hl 3 rfl) ?_
            obtain ⟨hi_63, h⟩ := q_in h
            refine va_iast hx hb hK hP hD hS 2 0 rfl rfl hi_63 (dAt zX4_bind_0 40 rfl) (fun H locs hP hD hS => ?_)
            have hP : va_P D vwCl (w4x cI qT (zT 0 0) (zT 0 1) (zT 0 2) (zT 0 3) (zT 0 4) (upd (upd (zT 6) (Int32.toNatClampNeg ((a1 * (10 : Int32)) + a2)) a4) (Int32.toNatClampNeg ((a2 * (10 : Int32)) + a1)) a4) (upd (zT 7) (Int32.toNatClampNeg ((a1 * (10 : Int32)) + a2)) a3) (zT 8) (zT 9)) H := hP
            have hD : va_D A (w4x cI qT (zT 0 0) (zT 0 1) (zT 0 2) (zT 0 3) (zT 0 4) (upd (upd (zT 6) (Int32.toNatClampNeg ((a1 * (10 : Int32)) + a2)) a4) (Int32.toNatClampNeg ((a2 * (10 : Int32)) + a1)) a4) (upd (zT 7) (Int32.toNatClampNeg ((a1 * (10 : Int32)) + a2)) a3) (zT 8) (zT 9)) := hD
            refine lv_aload_n hx hb (dAt zX4_bind_0 41 rfl) rfl (lv_at hl 0 rfl) ?_
            refine va_get (D := D) (ci := 4) (v := .ref (qT 7)) (C := RX4) (T := TX4) (N := 9) hx hb htl inlX4 hown hK hP 0 rfl rfl 6 (by decide) (htl _ W_46) (fun _ h9 => h9) rfl (dAt zX4_bind_0 42 rfl) ?_
            refine lv_iload_n hx hb (dAt zX4_bind_0 43 rfl) rfl (lv_at hl 2 rfl) ?_
            refine lv_bipush (v := 10) hx hb (dAt zX4_bind_0 44 rfl) (by decide) ?_
            refine lv_imul hx hb (dAt zX4_bind_0 45 rfl) ?_
            refine lv_iload_n hx hb (dAt zX4_bind_0 46 rfl) rfl (lv_at hl 1 rfl) ?_
            refine lv_iadd hx hb (dAt zX4_bind_0 47 rfl) ?_
            refine lv_iload_n hx hb (dAt zX4_bind_0 48 rfl) rfl (lv_at hl 3 rfl) ?_
            obtain ⟨hi_75, h⟩ := q_in h
            refine va_iast hx hb hK hP hD hS 2 0 rfl rfl hi_75 (dAt zX4_bind_0 49 rfl) (fun H locs hP hD hS => ?_)
            have hP : va_P D vwCl (w4x cI qT (zT 0 0) (zT 0 1) (zT 0 2) (zT 0 3) (zT 0 4) (upd (upd (zT 6) (Int32.toNatClampNeg ((a1 * (10 : Int32)) + a2)) a4) (Int32.toNatClampNeg ((a2 * (10 : Int32)) + a1)) a4) (upd (upd (zT 7) (Int32.toNatClampNeg ((a1 * (10 : Int32)) + a2)) a3) (Int32.toNatClampNeg ((a2 * (10 : Int32)) + a1)) a3) (zT 8) (zT 9)) H := hP
            have hD : va_D A (w4x cI qT (zT 0 0) (zT 0 1) (zT 0 2) (zT 0 3) (zT 0 4) (upd (upd (zT 6) (Int32.toNatClampNeg ((a1 * (10 : Int32)) + a2)) a4) (Int32.toNatClampNeg ((a2 * (10 : Int32)) + a1)) a4) (upd (upd (zT 7) (Int32.toNatClampNeg ((a1 * (10 : Int32)) + a2)) a3) (Int32.toNatClampNeg ((a2 * (10 : Int32)) + a1)) a3) (zT 8) (zT 9)) := hD
            have hP : va_P D vwCl (w4 cI qT (upA (upA zT 6 (upd (upd (zT 6) (Int32.toNatClampNeg ((a1 * (10 : Int32)) + a2)) a4) (Int32.toNatClampNeg ((a2 * (10 : Int32)) + a1)) a4)) 7 (upd (upd (zT 7) (Int32.toNatClampNeg ((a1 * (10 : Int32)) + a2)) a3) (Int32.toNatClampNeg ((a2 * (10 : Int32)) + a1)) a3))) H := hP
            have hD : va_D A (w4 cI qT (upA (upA zT 6 (upd (upd (zT 6) (Int32.toNatClampNeg ((a1 * (10 : Int32)) + a2)) a4) (Int32.toNatClampNeg ((a2 * (10 : Int32)) + a1)) a4)) 7 (upd (upd (zT 7) (Int32.toNatClampNeg ((a1 * (10 : Int32)) + a2)) a3) (Int32.toNatClampNeg ((a2 * (10 : Int32)) + a1)) a3))) := hD
            obtain rfl := q_some h
            exact xRv hx hb hr hlocks hQ hAe hP hD hK hS (dAt zX4_bind_0 50 rfl)
          · have h := q_pos c_22 h
            obtain rfl := q_some h
            exact xRv hx hb hr hlocks hQ hAe hP hD hK hS (dAt zX4_bind_0 13 rfl)
def m_X5_tie (n : Nat) (zX : TI) (zT : TI) (zI : TI) (zJ : TI) (zP : TI) (zC : TI) (zV : TI) (zF : TI) (zA : TL) (a1 : Int32) (a2 : Int32) (a3 : Int32) (a4 : Int32) : Option (Int32 × TI) := ((m_X5_isOne n  a1).bind fun u1 => (if u1 = 0 then some ((-1), zT) else ((m_X5_isOne n  a2).bind fun u8 => (if u8 = 0 then some ((-1), zT) else (if a1 = a2 then some ((-1), zT) else ((m_X5_isWithin n  a3 0 3).bind fun u24 => (if u24 = 0 then some ((-2), zT) else ((m_X5_isWithin n  a4 0 9).bind fun u35 => (if u35 = 0 then some ((-2), zT) else ((m_X4_strength n zT a1 a2).bind fun u50 => ((m_X4_bind n zT a1 a2 a3 a4).bind fun u64 => some (u50, u64))))))))))))
set_option maxHeartbeats 4000000 in
set_option maxRecDepth 100000 in
theorem c_X5_tie (l : Launch) (D : va_G) (cI cJ cZ : ClassId) (n : Nat) (qX : Nat → Nat) (qT : Nat → Nat) (qI : Nat → Nat) (qJ : Nat → Nat) (qP : Nat → Nat) (qC : Nat → Nat) (qV : Nat → Nat) (qF : Nat → Nat) (qA : Nat → Nat) (sz : Nat) (zX : TI) (zT : TI) (zI : TI) (zJ : TI) (zP : TI) (zC : TI) (zV : TI) (zF : TI) (zA : TL) (a1 : Int32) (a2 : Int32) (a3 : Int32) (a4 : Int32) (out : Int32 × TI) (hm : m_X5_tie n zX zT zI zJ zP zC zV zF zA a1 a2 a3 a4 = some out) : Met l yX5_tie (wsM yX5_tie cX5_tie 6 (some .int)) { frames := 1, cells := 0, slots := 0, locals := 24 } (xPre D (kT cI cJ cZ) (w5 qX qT qI qJ qP qC qF qA zX ++ (w4 cI qT zT ++ (w4 cI qI zI ++ (w4 cI qJ zJ ++ (w2 cI qP zP ++ (w1 qC qV zC ++ (w4 cI qV zV ++ (w3 cI qF zF ++ (w0 cJ qA zA))))))))) sz [.ref (qX 0), .int a1, .int a2, .int a3, .int a4]) (xQi D (kT cI cJ cZ) (w5 qX qT qI qJ qP qC qF qA zX ++ (w4 cI qT zT ++ (w4 cI qI zI ++ (w4 cI qJ zJ ++ (w2 cI qP zP ++ (w1 qC qV zC ++ (w4 cI qV zV ++ (w3 cI qF zF ++ (w0 cJ qA zA))))))))) (w5 qX qT qI qJ qP qC qF qA zX ++ (w4 cI qT out.2 ++ (w4 cI qI zI ++ (w4 cI qJ zJ ++ (w2 cI qP zP ++ (w1 qC qV zC ++ (w4 cI qV zV ++ (w3 cI qF zF ++ (w0 cJ qA zA))))))))) sz out.1) 0 0 (va_A (w5 qX qT qI qJ qP qC qF qA zX ++ (w4 cI qT zT ++ (w4 cI qI zI ++ (w4 cI qJ zJ ++ (w2 cI qP zP ++ (w1 qC qV zC ++ (w4 cI qV zV ++ (w3 cI qF zF ++ (w0 cJ qA zA))))))))) sz) := by
  refine Met.ofW (cc := cX5_tie) (maxL := 6) (ret := (some .int)) (by decide) rfl ?_
  intro p e s m args below meth c s₁ B hml hv
  obtain ⟨hv, hsz, hP, hK, hD0, hN⟩ := hv
  have hx := B.exec; have hb := B.bytes; have hr := B.returns
  have hts := atoms_spec (ws := (wsM yX5_tie cX5_tie 6 (some .int))) B.pre
  have hown : s.vm.findClass RX5 = some m.cls := findClass_of_methodNamed B.named
  have hlocks := B.notSynchronized
  subst hsz
  have hD := hD0.self (sz := s.heap.size)
  obtain ⟨A, hAe⟩ : ∃ A, A = va_A (w5 qX qT qI qJ qP qC qF qA zX ++ (w4 cI qT zT ++ (w4 cI qI zI ++ (w4 cI qJ zJ ++ (w2 cI qP zP ++ (w1 qC qV zC ++ (w4 cI qV zV ++ (w3 cI qF zF ++ (w0 cJ qA zA))))))))) s.heap.size := ⟨_, rfl⟩
  rw [← hAe] at hD
  have hA : ∀ q : Nat, s.heap.size ≤ q → A q := fun q h => by rw [hAe]; exact Or.inr h
  have htl : ∀ w ∈ wsL_law, w.before args s = true := fun w h => hts w (List.mem_cons_of_mem _ h)
  refine xHead (R' := { frames := 1, cells := 0, slots := 0, locals := 24 }) rfl (fun Q H hQ hH => ?_)
  have hP : va_P D vwCl (w5 qX qT qI qJ qP qC qF qA zX ++ (w4 cI qT zT ++ (w4 cI qI zI ++ (w4 cI qJ zJ ++ (w2 cI qP zP ++ (w1 qC qV zC ++ (w4 cI qV zV ++ (w3 cI qF zF ++ (w0 cJ qA zA))))))))) H := by rw [hH]; exact hP
  have hS : va_S A s.heap H [] := by rw [hH]; exact va_S.rf
  refine xStart hv (Nat.le_of_ble_eq_true rfl) (lv := [(0, .ref (qX 0)), (1, .int a1), (2, .int a2), (3, .int a3), (4, .int a4)]) rfl (fun ls hl => ?_)
  have h := hm
  unfold m_X5_tie at h
  refine lv_iload_n hx hb (dAt zX5_tie_0 0 rfl) rfl (lv_at hl 1 rfl) ?_
  obtain ⟨u1, hu1, h⟩ := q_bind h
  refine xFz (wc := ([] : va_W)) (w1 := ([] : va_W)) (wr := (w5 qX qT qI qJ qP qC qF qA zX ++ (w4 cI qT zT ++ (w4 cI qI zI ++ (w4 cI qJ zJ ++ (w2 cI qP zP ++ (w1 qC qV zC ++ (w4 cI qV zV ++ (w3 cI qF zF ++ (w0 cJ qA zA)))))))))) (ws2 := (w5 qX qT qI qJ qP qC qF qA zX ++ (w4 cI qT zT ++ (w4 cI qI zI ++ (w4 cI qJ zJ ++ (w2 cI qP zP ++ (w1 qC qV zC ++ (w4 cI qV zV ++ (w3 cI qF zF ++ (w0 cJ qA zA)))))))))) (va_runS (As := [.int a1]) (rest := []) ⟨hx, hb, hml, hown, htl⟩ (c_X5_isOne l D cI cJ cZ n  H.size  a1 u1 hu1) (va_cwS 1 htl (gS W_107 W_108 W_2 W_109) rfl rfl rfl (by decide +kernel) ⟨Nat.le_of_ble_eq_true rfl, Nat.le_of_ble_eq_true rfl⟩) (xPS xP0 (xD0 A) hK hN) rfl rfl hl.1 rfl (lv_room (Nat.le_of_ble_eq_true rfl)) (dAt zX5_tie_0 1 rfl) ⟨Nat.zero_le _, Nat.zero_le _⟩) hS hA hP hD [] [0, 1, 2, 3, 4, 5, 6, 7, 8, 9, 10, 11, 12, 13, 14, 15, 16, 17, 18, 19, 20, 21, 22, 23, 24, 25, 26, 27, 28, 29] [0, 1, 2, 3, 4, 5, 6, 7, 8, 9, 10, 11, 12, 13, 14, 15, 16, 17, 18, 19, 20, 21, 22, 23, 24, 25, 26, 27, 28, 29] rfl rfl (by decide) (by decide) rfl (by decide) (fun H locs hz1 hP hD hS => ?_)
  refine lv_if_eq (tgt := 19) hx hb (dAt zX5_tie_0 2 rfl) (by decide) (fun c_4 => ?_) (fun c_4 => ?_)
  · have h := q_pos c_4 h
    refine lv_iconst (v := (-1)) hx hb (dAt zX5_tie_0 9 rfl) (by decide) ?_
    obtain rfl := q_some h
    exact xRi hx hb hr hlocks hQ hAe hP hD hK hS rfl (dAt zX5_tie_0 10 rfl)
  · have h := q_neg c_4 h
    refine lv_iload_n hx hb (dAt zX5_tie_0 3 rfl) rfl (lv_at hl 2 rfl) ?_
    obtain ⟨u8, hu8, h⟩ := q_bind h
    refine xFz (wc := ([] : va_W)) (w1 := ([] : va_W)) (wr := (w5 qX qT qI qJ qP qC qF qA zX ++ (w4 cI qT zT ++ (w4 cI qI zI ++ (w4 cI qJ zJ ++ (w2 cI qP zP ++ (w1 qC qV zC ++ (w4 cI qV zV ++ (w3 cI qF zF ++ (w0 cJ qA zA)))))))))) (ws2 := (w5 qX qT qI qJ qP qC qF qA zX ++ (w4 cI qT zT ++ (w4 cI qI zI ++ (w4 cI qJ zJ ++ (w2 cI qP zP ++ (w1 qC qV zC ++ (w4 cI qV zV ++ (w3 cI qF zF ++ (w0 cJ qA zA)))))))))) (va_runS (As := [.int a2]) (rest := []) ⟨hx, hb, hml, hown, htl⟩ (c_X5_isOne l D cI cJ cZ n  H.size  a2 u8 hu8) (va_cwS 1 htl (gS W_107 W_108 W_2 W_109) rfl rfl rfl (by decide +kernel) ⟨Nat.le_of_ble_eq_true rfl, Nat.le_of_ble_eq_true rfl⟩) (xPS xP0 (xD0 A) hK hN) rfl rfl hl.1 rfl (lv_room (Nat.le_of_ble_eq_true rfl)) (dAt zX5_tie_0 4 rfl) ⟨Nat.zero_le _, Nat.zero_le _⟩) hS hA hP hD [] [0, 1, 2, 3, 4, 5, 6, 7, 8, 9, 10, 11, 12, 13, 14, 15, 16, 17, 18, 19, 20, 21, 22, 23, 24, 25, 26, 27, 28, 29] [0, 1, 2, 3, 4, 5, 6, 7, 8, 9, 10, 11, 12, 13, 14, 15, 16, 17, 18, 19, 20, 21, 22, 23, 24, 25, 26, 27, 28, 29] rfl rfl (by decide) (by decide) rfl (by decide) (fun H locs hz8 hP hD hS => ?_)
    refine lv_if_eq (tgt := 19) hx hb (dAt zX5_tie_0 5 rfl) (by decide) (fun c_11 => ?_) (fun c_11 => ?_)
    · have h := q_pos c_11 h
      refine lv_iconst (v := (-1)) hx hb (dAt zX5_tie_0 9 rfl) (by decide) ?_
      obtain rfl := q_some h
      exact xRi hx hb hr hlocks hQ hAe hP hD hK hS rfl (dAt zX5_tie_0 10 rfl)
    · have h := q_neg c_11 h
      refine lv_iload_n hx hb (dAt zX5_tie_0 6 rfl) rfl (lv_at hl 1 rfl) ?_
      refine lv_iload_n hx hb (dAt zX5_tie_0 7 rfl) rfl (lv_at hl 2 rfl) ?_
      refine lv_icmp_ne (tgt := 21) hx hb (dAt zX5_tie_0 8 rfl) (by decide) (fun c_16 => ?_) (fun c_16 => ?_)
      · have h := q_neg c_16 h
        refine lv_iload_n hx hb (dAt zX5_tie_0 11 rfl) rfl (lv_at hl 3 rfl) ?_
        refine lv_iconst (v := 0) hx hb (dAt zX5_tie_0 12 rfl) (by decide) ?_
        refine lv_iconst (v := 3) hx hb (dAt zX5_tie_0 13 rfl) (by decide) ?_
        obtain ⟨u24, hu24, h⟩ := q_bind h
        refine xFz (wc := ([] : va_W)) (w1 := ([] : va_W)) (wr := (w5 qX qT qI qJ qP qC qF qA zX ++ (w4 cI qT zT ++ (w4 cI qI zI ++ (w4 cI qJ zJ ++ (w2 cI qP zP ++ (w1 qC qV zC ++ (w4 cI qV zV ++ (w3 cI qF zF ++ (w0 cJ qA zA)))))))))) (ws2 := (w5 qX qT qI qJ qP qC qF qA zX ++ (w4 cI qT zT ++ (w4 cI qI zI ++ (w4 cI qJ zJ ++ (w2 cI qP zP ++ (w1 qC qV zC ++ (w4 cI qV zV ++ (w3 cI qF zF ++ (w0 cJ qA zA)))))))))) (va_runS (As := [.int a3, .int 0, .int 3]) (rest := []) ⟨hx, hb, hml, hown, htl⟩ (c_X5_isWithin l D cI cJ cZ n  H.size  a3 0 3 u24 hu24) (va_cwS 3 htl (gS W_110 W_111 W_2 W_112) rfl rfl rfl (by decide +kernel) ⟨Nat.le_of_ble_eq_true rfl, Nat.le_of_ble_eq_true rfl⟩) (xPS xP0 (xD0 A) hK hN) rfl rfl hl.1 rfl (lv_room (Nat.le_of_ble_eq_true rfl)) (dAt zX5_tie_0 14 rfl) ⟨Nat.zero_le _, Nat.zero_le _⟩) hS hA hP hD [] [0, 1, 2, 3, 4, 5, 6, 7, 8, 9, 10, 11, 12, 13, 14, 15, 16, 17, 18, 19, 20, 21, 22, 23, 24, 25, 26, 27, 28, 29] [0, 1, 2, 3, 4, 5, 6, 7, 8, 9, 10, 11, 12, 13, 14, 15, 16, 17, 18, 19, 20, 21, 22, 23, 24, 25, 26, 27, 28, 29] rfl rfl (by decide) (by decide) rfl (by decide) (fun H locs hz24 hP hD hS => ?_)
        refine lv_if_eq (tgt := 41) hx hb (dAt zX5_tie_0 15 rfl) (by decide) (fun c_27 => ?_) (fun c_27 => ?_)
        · have h := q_pos c_27 h
          refine lv_bipush (v := (-2)) hx hb (dAt zX5_tie_0 21 rfl) (by decide) ?_
          obtain rfl := q_some h
          exact xRi hx hb hr hlocks hQ hAe hP hD hK hS rfl (dAt zX5_tie_0 22 rfl)
        · have h := q_neg c_27 h
          refine lv_iload hx hb (dAt zX5_tie_0 16 rfl) (lv_at hl 4 rfl) ?_
          refine lv_iconst (v := 0) hx hb (dAt zX5_tie_0 17 rfl) (by decide) ?_
          refine lv_bipush (v := 9) hx hb (dAt zX5_tie_0 18 rfl) (by decide) ?_
          obtain ⟨u35, hu35, h⟩ := q_bind h
          refine xFz (wc := ([] : va_W)) (w1 := ([] : va_W)) (wr := (w5 qX qT qI qJ qP qC qF qA zX ++ (w4 cI qT zT ++ (w4 cI qI zI ++ (w4 cI qJ zJ ++ (w2 cI qP zP ++ (w1 qC qV zC ++ (w4 cI qV zV ++ (w3 cI qF zF ++ (w0 cJ qA zA)))))))))) (ws2 := (w5 qX qT qI qJ qP qC qF qA zX ++ (w4 cI qT zT ++ (w4 cI qI zI ++ (w4 cI qJ zJ ++ (w2 cI qP zP ++ (w1 qC qV zC ++ (w4 cI qV zV ++ (w3 cI qF zF ++ (w0 cJ qA zA)))))))))) (va_runS (As := [.int a4, .int 0, .int 9]) (rest := []) ⟨hx, hb, hml, hown, htl⟩ (c_X5_isWithin l D cI cJ cZ n  H.size  a4 0 9 u35 hu35) (va_cwS 3 htl (gS W_110 W_111 W_2 W_112) rfl rfl rfl (by decide +kernel) ⟨Nat.le_of_ble_eq_true rfl, Nat.le_of_ble_eq_true rfl⟩) (xPS xP0 (xD0 A) hK hN) rfl rfl hl.1 rfl (lv_room (Nat.le_of_ble_eq_true rfl)) (dAt zX5_tie_0 19 rfl) ⟨Nat.zero_le _, Nat.zero_le _⟩) hS hA hP hD [] [0, 1, 2, 3, 4, 5, 6, 7, 8, 9, 10, 11, 12, 13, 14, 15, 16, 17, 18, 19, 20, 21, 22, 23, 24, 25, 26, 27, 28, 29] [0, 1, 2, 3, 4, 5, 6, 7, 8, 9, 10, 11, 12, 13, 14, 15, 16, 17, 18, 19, 20, 21, 22, 23, 24, 25, 26, 27, 28, 29] rfl rfl (by decide) (by decide) rfl (by decide) (fun H locs hz35 hP hD hS => ?_)
          refine lv_if_ne (tgt := 44) hx hb (dAt zX5_tie_0 20 rfl) (by decide) (fun c_38 => ?_) (fun c_38 => ?_)
          · have h := q_neg c_38 h
            refine lv_aload_n hx hb (dAt zX5_tie_0 23 rfl) rfl (lv_at hl 0 rfl) ?_
            refine va_get (D := D) (ci := 5) (v := .ref (qT 0)) (C := RX5) (T := TX5) (N := 8) hx hb htl inlX5 hown hK hP 0 rfl rfl 0 (by decide) (htl _ W_15) (fun _ h9 => h9) rfl (dAt zX5_tie_0 24 rfl) ?_
            refine lv_iload_n hx hb (dAt zX5_tie_0 25 rfl) rfl (lv_at hl 1 rfl) ?_
            refine lv_iload_n hx hb (dAt zX5_tie_0 26 rfl) rfl (lv_at hl 2 rfl) ?_
            obtain ⟨u50, hu50, h⟩ := q_bind h
            have hPc : va_P D vwCl (w4 cI qT zT) H := hP.sub [1, 2, 3, 4, 5] rfl
            have hDc : va_D A (w4 cI qT zT) := hD.sub [1, 2, 3, 4, 5] (by decide) rfl
            refine xFi (wc := (w4 cI qT zT)) (w1 := (w4 cI qT zT)) (wr := (w5 qX qT qI qJ qP qC qF qA zX ++ (w4 cI qI zI ++ (w4 cI qJ zJ ++ (w2 cI qP zP ++ (w1 qC qV zC ++ (w4 cI qV zV ++ (w3 cI qF zF ++ (w0 cJ qA zA))))))))) (ws2 := (w5 qX qT qI qJ qP qC qF qA zX ++ (w4 cI qT zT ++ (w4 cI qI zI ++ (w4 cI qJ zJ ++ (w2 cI qP zP ++ (w1 qC qV zC ++ (w4 cI qV zV ++ (w3 cI qF zF ++ (w0 cJ qA zA)))))))))) (va_runV (As := [.int a1, .int a2]) (rest := []) ⟨hx, hb, hml, hown, htl⟩ (c_X4_strength l D cI cJ cZ n qT H.size zT a1 a2 u50 hu50) (cwV 2 htl (gV W_113 W_114 W_115 W_14 W_116) rfl rfl rfl (by decide +kernel) ⟨Nat.le_of_ble_eq_true rfl, Nat.le_of_ble_eq_true rfl⟩) (xPV hPc hDc hK hN 0 rfl rfl) rfl rfl hl.1 rfl (lv_room (Nat.le_of_ble_eq_true rfl)) (dAt zX5_tie_0 27 rfl) ⟨Nat.zero_le _, Nat.zero_le _⟩) hS hA hP hD [1, 2, 3, 4, 5] [0, 6, 7, 8, 9, 10, 11, 12, 13, 14, 15, 16, 17, 18, 19, 20, 21, 22, 23, 24, 25, 26, 27, 28, 29] [0, 25, 26, 27, 28, 29, 1, 2, 3, 4, 5, 6, 7, 8, 9, 10, 11, 12, 13, 14, 15, 16, 17, 18, 19, 20, 21, 22, 23, 24] rfl rfl (by decide) (by decide) rfl (by decide) (fun H locs hP hD hS => ?_)
            refine lv_istore (lv' := [(5, .int u50), (0, .ref (qX 0)), (1, .int a1), (2, .int a2), (3, .int a3), (4, .int a4)]) hx hb (dAt zX5_tie_0 28 rfl) hl (by decide) rfl (fun ls hl => ?_)
            refine lv_aload_n hx hb (dAt zX5_tie_0 29 rfl) rfl (lv_at hl 1 rfl) ?_
            refine va_get (D := D) (ci := 5) (v := .ref (qT 0)) (C := RX5) (T := TX5) (N := 8) hx hb htl inlX5 hown hK hP 0 rfl rfl 0 (by decide) (htl _ W_15) (fun _ h9 => h9) rfl (dAt zX5_tie_0 30 rfl) ?_
            refine lv_iload_n hx hb (dAt zX5_tie_0 31 rfl) rfl (lv_at hl 2 rfl) ?_
            refine lv_iload_n hx hb (dAt zX5_tie_0 32 rfl) rfl (lv_at hl 3 rfl) ?_
            refine lv_iload_n hx hb (dAt zX5_tie_0 33 rfl) rfl (lv_at hl 4 rfl) ?_
            refine lv_iload hx hb (dAt zX5_tie_0 34 rfl) (lv_at hl 5 rfl) ?_
            obtain ⟨u64, hu64, h⟩ := q_bind h
            have hPc : va_P D vwCl (w4 cI qT zT) H := hP.sub [1, 2, 3, 4, 5] rfl
            have hDc : va_D A (w4 cI qT zT) := hD.sub [1, 2, 3, 4, 5] (by decide) rfl
            refine xFv (wc := (w4 cI qT zT)) (w1 := (w4 cI qT u64)) (wr := (w5 qX qT qI qJ qP qC qF qA zX ++ (w4 cI qI zI ++ (w4 cI qJ zJ ++ (w2 cI qP zP ++ (w1 qC qV zC ++ (w4 cI qV zV ++ (w3 cI qF zF ++ (w0 cJ qA zA))))))))) (ws2 := (w5 qX qT qI qJ qP qC qF qA zX ++ (w4 cI qT u64 ++ (w4 cI qI zI ++ (w4 cI qJ zJ ++ (w2 cI qP zP ++ (w1 qC qV zC ++ (w4 cI qV zV ++ (w3 cI qF zF ++ (w0 cJ qA zA)))))))))) (va_runV (As := [.int a1, .int a2, .int a3, .int a4]) (rest := []) ⟨hx, hb, hml, hown, htl⟩ (c_X4_bind l D cI cJ cZ n qT H.size zT a1 a2 a3 a4 u64 hu64) (cwV 4 htl (gV W_117 W_118 W_119 W_14 W_120) rfl rfl rfl (by decide +kernel) ⟨Nat.le_of_ble_eq_true rfl, Nat.le_of_ble_eq_true rfl⟩) (xPV hPc hDc hK hN 0 rfl rfl) rfl rfl hl.1 rfl (lv_room (Nat.le_of_ble_eq_true rfl)) (dAt zX5_tie_0 35 rfl) ⟨Nat.zero_le _, Nat.zero_le _⟩) hS hA hP hD [1, 2, 3, 4, 5] [0, 6, 7, 8, 9, 10, 11, 12, 13, 14, 15, 16, 17, 18, 19, 20, 21, 22, 23, 24, 25, 26, 27, 28, 29] [0, 25, 26, 27, 28, 29, 1, 2, 3, 4, 5, 6, 7, 8, 9, 10, 11, 12, 13, 14, 15, 16, 17, 18, 19, 20, 21, 22, 23, 24] rfl rfl (by decide) (by decide) rfl (by decide) (fun H locs hP hD hS => ?_)
            refine lv_iload hx hb (dAt zX5_tie_0 36 rfl) (lv_at hl 0 rfl) ?_
            obtain rfl := q_some h
            exact xRi hx hb hr hlocks hQ hAe hP hD hK hS rfl (dAt zX5_tie_0 37 rfl)
          · have h := q_pos c_38 h
            refine lv_bipush (v := (-2)) hx hb (dAt zX5_tie_0 21 rfl) (by decide) ?_
            obtain rfl := q_some h
            exact xRi hx hb hr hlocks hQ hAe hP hD hK hS rfl (dAt zX5_tie_0 22 rfl)
      · have h := q_pos c_16 h
        refine lv_iconst (v := (-1)) hx hb (dAt zX5_tie_0 9 rfl) (by decide) ?_
        obtain rfl := q_some h
        exact xRi hx hb hr hlocks hQ hAe hP hD hK hS rfl (dAt zX5_tie_0 10 rfl)
def m_X5_isFlag (n : Nat) (a1 : Int32) : Option Int32 := (if a1 = 0 then some 1 else (if a1 = 1 then some 1 else some 0))
set_option maxHeartbeats 4000000 in
set_option maxRecDepth 100000 in
theorem c_X5_isFlag (l : Launch) (D : va_G) (cI cJ cZ : ClassId) (n : Nat)  (sz : Nat) (a1 : Int32) (out : Int32) (hm : m_X5_isFlag n a1 = some out) : Met l yX5_isFlag (wsM yX5_isFlag cX5_isFlag 1 (some .boolean)) { frames := 0, cells := 0, slots := 0, locals := 0 } (xPre D (kT cI cJ cZ) ([] : va_W) sz [.int a1]) (xQz D (kT cI cJ cZ) ([] : va_W) ([] : va_W) sz out) 0 0 (va_A ([] : va_W) sz) := by
  refine Met.ofW (cc := cX5_isFlag) (maxL := 1) (ret := (some .boolean)) (by decide) rfl ?_
  intro p e s m args below meth c s₁ B hml hv
  obtain ⟨hv, hsz, hP, hK, hD0, hN⟩ := hv
  have hx := B.exec; have hb := B.bytes; have hr := B.returns
  have hts := atoms_spec (ws := (wsM yX5_isFlag cX5_isFlag 1 (some .boolean))) B.pre
  have hown : s.vm.findClass RX5 = some m.cls := findClass_of_methodNamed B.named
  have hlocks := B.notSynchronized
  subst hsz
  have hD := hD0.self (sz := s.heap.size)
  obtain ⟨A, hAe⟩ : ∃ A, A = va_A ([] : va_W) s.heap.size := ⟨_, rfl⟩
  rw [← hAe] at hD
  have hA : ∀ q : Nat, s.heap.size ≤ q → A q := fun q h => by rw [hAe]; exact Or.inr h
  have htl : ∀ w ∈ wsL_law, w.before args s = true := fun w h => hts w (List.mem_cons_of_mem _ h)
  refine xHead (R' := { frames := 0, cells := 0, slots := 0, locals := 0 }) rfl (fun Q H hQ hH => ?_)
  have hP : va_P D vwCl ([] : va_W) H := by rw [hH]; exact hP
  have hS : va_S A s.heap H [] := by rw [hH]; exact va_S.rf
  refine xStart hv (Nat.le_of_ble_eq_true rfl) (lv := [(0, .int a1)]) rfl (fun ls hl => ?_)
  have h := hm
  unfold m_X5_isFlag at h
  refine lv_iload_n hx hb (dAt zX5_isFlag_0 0 rfl) rfl (lv_at hl 0 rfl) ?_
  refine lv_if_eq (tgt := 9) hx hb (dAt zX5_isFlag_0 1 rfl) (by decide) (fun c_1 => ?_) (fun c_1 => ?_)
  · have h := q_pos c_1 h
    refine lv_iconst (v := 1) hx hb (dAt zX5_isFlag_0 5 rfl) (by decide) ?_
    refine lv_goto (tgt := 14) hx hb (dAt zX5_isFlag_0 6 rfl) (by decide) ?_
    obtain rfl := q_some h
    exact xRz hx hb hr hlocks hQ hAe hP hD hK hS rfl rfl (dAt zX5_isFlag_0 8 rfl)
  · have h := q_neg c_1 h
    refine lv_iload_n hx hb (dAt zX5_isFlag_0 2 rfl) rfl (lv_at hl 0 rfl) ?_
    refine lv_iconst (v := 1) hx hb (dAt zX5_isFlag_0 3 rfl) (by decide) ?_
    refine lv_icmp_ne (tgt := 13) hx hb (dAt zX5_isFlag_0 4 rfl) (by decide) (fun c_6 => ?_) (fun c_6 => ?_)
    · have h := q_neg c_6 h
      refine lv_iconst (v := 0) hx hb (dAt zX5_isFlag_0 7 rfl) (by decide) ?_
      obtain rfl := q_some h
      exact xRz hx hb hr hlocks hQ hAe hP hD hK hS rfl rfl (dAt zX5_isFlag_0 8 rfl)
    · have h := q_pos c_6 h
      refine lv_iconst (v := 1) hx hb (dAt zX5_isFlag_0 5 rfl) (by decide) ?_
      refine lv_goto (tgt := 14) hx hb (dAt zX5_isFlag_0 6 rfl) (by decide) ?_
      obtain rfl := q_some h
      exact xRz hx hb hr hlocks hQ hAe hP hD hK hS rfl rfl (dAt zX5_isFlag_0 8 rfl)
def m_X4_place (n : Nat) (zT : TI) (a1 : Int32) (a2 : Int32) (a3 : Int32) : Option TI := (if a2 = 0 then (if a3 = 0 then some (sf (sf (sf zT 0 ((zT 0 0) &&& (((1 : Int32) <<< (a1 &&& 31)) ^^^ (-1 : Int32)))) 1 ((zT 0 1) &&& (((1 : Int32) <<< (a1 &&& 31)) ^^^ (-1 : Int32)))) 2 ((zT 0 2) &&& (((1 : Int32) <<< (a1 &&& 31)) ^^^ (-1 : Int32)))) else some (sf (sf (sf zT 0 ((zT 0 0) &&& (((1 : Int32) <<< (a1 &&& 31)) ^^^ (-1 : Int32)))) 1 ((zT 0 1) ||| ((1 : Int32) <<< (a1 &&& 31)))) 2 ((zT 0 2) &&& (((1 : Int32) <<< (a1 &&& 31)) ^^^ (-1 : Int32))))) else (if a3 = 0 then some (sf (sf (sf zT 0 ((zT 0 0) ||| ((1 : Int32) <<< (a1 &&& 31)))) 1 ((zT 0 1) &&& (((1 : Int32) <<< (a1 &&& 31)) ^^^ (-1 : Int32)))) 2 ((zT 0 2) &&& (((1 : Int32) <<< (a1 &&& 31)) ^^^ (-1 : Int32)))) else some (sf (sf (sf zT 0 ((zT 0 0) ||| ((1 : Int32) <<< (a1 &&& 31)))) 1 ((zT 0 1) ||| ((1 : Int32) <<< (a1 &&& 31)))) 2 ((zT 0 2) &&& (((1 : Int32) <<< (a1 &&& 31)) ^^^ (-1 : Int32))))))
set_option maxHeartbeats 4000000 in
set_option maxRecDepth 100000 in
theorem c_X4_place (l : Launch) (D : va_G) (cI cJ cZ : ClassId) (n : Nat) (qT : Nat → Nat) (sz : Nat) (zT : TI) (a1 : Int32) (a2 : Int32) (a3 : Int32) (out : TI) (hm : m_X4_place n zT a1 a2 a3 = some out) : Met l yX4_place (wsM yX4_place cX4_place 5 none) { frames := 0, cells := 0, slots := 0, locals := 0 } (xPre D (kT cI cJ cZ) (w4 cI qT zT) sz [.ref (qT 0), .int a1, .int a2, .int a3]) (xQv D (kT cI cJ cZ) (w4 cI qT zT) (w4 cI qT out) sz) 0 0 (va_A (w4 cI qT zT) sz) := by
  refine Met.ofW (cc := cX4_place) (maxL := 5) (ret := none) (by decide) rfl ?_
  intro p e s m args below meth c s₁ B hml hv
  obtain ⟨hv, hsz, hP, hK, hD0, hN⟩ := hv
  have hx := B.exec; have hb := B.bytes; have hr := B.returns
  have hts := atoms_spec (ws := (wsM yX4_place cX4_place 5 none)) B.pre
  have hown : s.vm.findClass RX4 = some m.cls := findClass_of_methodNamed B.named
  have hlocks := B.notSynchronized
  subst hsz
  have hD := hD0.self (sz := s.heap.size)
  obtain ⟨A, hAe⟩ : ∃ A, A = va_A (w4 cI qT zT) s.heap.size := ⟨_, rfl⟩
  rw [← hAe] at hD
  have hA : ∀ q : Nat, s.heap.size ≤ q → A q := fun q h => by rw [hAe]; exact Or.inr h
  have htl : ∀ w ∈ wsL_law, w.before args s = true := fun w h => hts w (List.mem_cons_of_mem _ h)
  refine xHead (R' := { frames := 0, cells := 0, slots := 0, locals := 0 }) rfl (fun Q H hQ hH => ?_)
  have hP : va_P D vwCl (w4 cI qT zT) H := by rw [hH]; exact hP
  have hS : va_S A s.heap H [] := by rw [hH]; exact va_S.rf
  refine xStart hv (Nat.le_of_ble_eq_true rfl) (lv := [(0, .ref (qT 0)), (1, .int a1), (2, .int a2), (3, .int a3)]) rfl (fun ls hl => ?_)
  have h := hm
  unfold m_X4_place at h
  refine lv_iconst (v := 1) hx hb (dAt zX4_place_0 0 rfl) (by decide) ?_
  refine lv_iload_n hx hb (dAt zX4_place_0 1 rfl) rfl (lv_at hl 1 rfl) ?_
  refine lv_ishl hx hb (dAt zX4_place_0 2 rfl) ?_
  refine lv_istore (lv' := [(4, .int ((1 : Int32) <<< (a1 &&& 31))), (0, .ref (qT 0)), (1, .int a1), (2, .int a2), (3, .int a3)]) hx hb (dAt zX4_place_0 3 rfl) hl (by decide) rfl (fun ls hl => ?_)
  refine lv_aload_n hx hb (dAt zX4_place_0 4 rfl) rfl (lv_at hl 1 rfl) ?_
  refine lv_iload_n hx hb (dAt zX4_place_0 5 rfl) rfl (lv_at hl 3 rfl) ?_
  refine lv_if_eq (tgt := 20) hx hb (dAt zX4_place_0 6 rfl) (by decide) (fun c_7 => ?_) (fun c_7 => ?_)
  · have h := q_pos c_7 h
    refine lv_aload_n hx hb (dAt zX4_place_0 12 rfl) rfl (lv_at hl 1 rfl) ?_
    refine va_get (D := D) (ci := 4) (v := .int (zT 0 0)) (C := RX4) (T := TX4) (N := 9) hx hb htl inlX4 hown hK hP 0 rfl rfl 0 (by decide) (htl _ W_39) (fun _ h9 => h9) rfl (dAt zX4_place_0 13 rfl) ?_
    refine lv_iload hx hb (dAt zX4_place_0 14 rfl) (lv_at hl 0 rfl) ?_
    refine lv_iconst (v := (-1)) hx hb (dAt zX4_place_0 15 rfl) (by decide) ?_
    refine lv_ixor hx hb (dAt zX4_place_0 16 rfl) ?_
    refine lv_iand hx hb (dAt zX4_place_0 17 rfl) ?_
    refine va_put (D := D) (ci := 4) (v := .int ((zT 0 0) &&& (((1 : Int32) <<< (a1 &&& 31)) ^^^ (-1 : Int32)))) (ty := .int) (C := RX4) (T := TX4) (N := 9) hx hb htl inlX4 tyX4 tyX4_ok nmX4 hown hK hP hD hS 0 rfl rfl 0 (by decide) (htl _ W_39) (fun _ h9 => h9) rfl (by decide +kernel) rfl rfl (Nat.le_of_ble_eq_true rfl) (dAt zX4_place_0 18 rfl) (fun H locs hP hD hS => ?_)
    have hP : va_P D vwCl (w4x cI qT ((zT 0 0) &&& (((1 : Int32) <<< (a1 &&& 31)) ^^^ (-1 : Int32))) (zT 0 1) (zT 0 2) (zT 0 3) (zT 0 4) (zT 6) (zT 7) (zT 8) (zT 9)) H := hP
    have hD : va_D A (w4x cI qT ((zT 0 0) &&& (((1 : Int32) <<< (a1 &&& 31)) ^^^ (-1 : Int32))) (zT 0 1) (zT 0 2) (zT 0 3) (zT 0 4) (zT 6) (zT 7) (zT 8) (zT 9)) := hD
    refine lv_aload_n hx hb (dAt zX4_place_0 19 rfl) rfl (lv_at hl 1 rfl) ?_
    refine lv_iload_n hx hb (dAt zX4_place_0 20 rfl) rfl (lv_at hl 4 rfl) ?_
    refine lv_if_eq (tgt := 47) hx hb (dAt zX4_place_0 21 rfl) (by decide) (fun c_34 => ?_) (fun c_34 => ?_)
    · have h := q_pos c_34 h
      refine lv_aload_n hx hb (dAt zX4_place_0 27 rfl) rfl (lv_at hl 1 rfl) ?_
      refine va_get (D := D) (ci := 4) (v := .int (zT 0 1)) (C := RX4) (T := TX4) (N := 9) hx hb htl inlX4 hown hK hP 0 rfl rfl 1 (by decide) (htl _ W_40) (fun _ h9 => h9) rfl (dAt zX4_place_0 28 rfl) ?_
      refine lv_iload hx hb (dAt zX4_place_0 29 rfl) (lv_at hl 0 rfl) ?_
      refine lv_iconst (v := (-1)) hx hb (dAt zX4_place_0 30 rfl) (by decide) ?_
      refine lv_ixor hx hb (dAt zX4_place_0 31 rfl) ?_
      refine lv_iand hx hb (dAt zX4_place_0 32 rfl) ?_
      refine va_put (D := D) (ci := 4) (v := .int ((zT 0 1) &&& (((1 : Int32) <<< (a1 &&& 31)) ^^^ (-1 : Int32)))) (ty := .int) (C := RX4) (T := TX4) (N := 9) hx hb htl inlX4 tyX4 tyX4_ok nmX4 hown hK hP hD hS 0 rfl rfl 1 (by decide) (htl _ W_40) (fun _ h9 => h9) rfl (by decide +kernel) rfl rfl (Nat.le_of_ble_eq_true rfl) (dAt zX4_place_0 33 rfl) (fun H locs hP hD hS => ?_)
      have hP : va_P D vwCl (w4x cI qT ((zT 0 0) &&& (((1 : Int32) <<< (a1 &&& 31)) ^^^ (-1 : Int32))) ((zT 0 1) &&& (((1 : Int32) <<< (a1 &&& 31)) ^^^ (-1 : Int32))) (zT 0 2) (zT 0 3) (zT 0 4) (zT 6) (zT 7) (zT 8) (zT 9)) H := hP
      have hD : va_D A (w4x cI qT ((zT 0 0) &&& (((1 : Int32) <<< (a1 &&& 31)) ^^^ (-1 : Int32))) ((zT 0 1) &&& (((1 : Int32) <<< (a1 &&& 31)) ^^^ (-1 : Int32))) (zT 0 2) (zT 0 3) (zT 0 4) (zT 6) (zT 7) (zT 8) (zT 9)) := hD
      refine lv_aload_n hx hb (dAt zX4_place_0 34 rfl) rfl (lv_at hl 1 rfl) ?_
      refine lv_dup hx hb (dAt zX4_place_0 35 rfl) rfl ?_
      refine va_get (D := D) (ci := 4) (v := .int (zT 0 2)) (C := RX4) (T := TX4) (N := 9) hx hb htl inlX4 hown hK hP 0 rfl rfl 2 (by decide) (htl _ W_41) (fun _ h9 => h9) rfl (dAt zX4_place_0 36 rfl) ?_
      refine lv_iload hx hb (dAt zX4_place_0 37 rfl) (lv_at hl 0 rfl) ?_
      refine lv_iconst (v := (-1)) hx hb (dAt zX4_place_0 38 rfl) (by decide) ?_
      refine lv_ixor hx hb (dAt zX4_place_0 39 rfl) ?_
      refine lv_iand hx hb (dAt zX4_place_0 40 rfl) ?_
      refine va_put (D := D) (ci := 4) (v := .int ((zT 0 2) &&& (((1 : Int32) <<< (a1 &&& 31)) ^^^ (-1 : Int32)))) (ty := .int) (C := RX4) (T := TX4) (N := 9) hx hb htl inlX4 tyX4 tyX4_ok nmX4 hown hK hP hD hS 0 rfl rfl 2 (by decide) (htl _ W_41) (fun _ h9 => h9) rfl (by decide +kernel) rfl rfl (Nat.le_of_ble_eq_true rfl) (dAt zX4_place_0 41 rfl) (fun H locs hP hD hS => ?_)
      have hP : va_P D vwCl (w4x cI qT ((zT 0 0) &&& (((1 : Int32) <<< (a1 &&& 31)) ^^^ (-1 : Int32))) ((zT 0 1) &&& (((1 : Int32) <<< (a1 &&& 31)) ^^^ (-1 : Int32))) ((zT 0 2) &&& (((1 : Int32) <<< (a1 &&& 31)) ^^^ (-1 : Int32))) (zT 0 3) (zT 0 4) (zT 6) (zT 7) (zT 8) (zT 9)) H := hP
      have hD : va_D A (w4x cI qT ((zT 0 0) &&& (((1 : Int32) <<< (a1 &&& 31)) ^^^ (-1 : Int32))) ((zT 0 1) &&& (((1 : Int32) <<< (a1 &&& 31)) ^^^ (-1 : Int32))) ((zT 0 2) &&& (((1 : Int32) <<< (a1 &&& 31)) ^^^ (-1 : Int32))) (zT 0 3) (zT 0 4) (zT 6) (zT 7) (zT 8) (zT 9)) := hD
      have hP : va_P D vwCl (w4 cI qT (sf (sf (sf zT 0 ((zT 0 0) &&& (((1 : Int32) <<< (a1 &&& 31)) ^^^ (-1 : Int32)))) 1 ((zT 0 1) &&& (((1 : Int32) <<< (a1 &&& 31)) ^^^ (-1 : Int32)))) 2 ((zT 0 2) &&& (((1 : Int32) <<< (a1 &&& 31)) ^^^ (-1 : Int32))))) H := hP
      have hD : va_D A (w4 cI qT (sf (sf (sf zT 0 ((zT 0 0) &&& (((1 : Int32) <<< (a1 &&& 31)) ^^^ (-1 : Int32)))) 1 ((zT 0 1) &&& (((1 : Int32) <<< (a1 &&& 31)) ^^^ (-1 : Int32)))) 2 ((zT 0 2) &&& (((1 : Int32) <<< (a1 &&& 31)) ^^^ (-1 : Int32))))) := hD
      obtain rfl := q_some h
      exact xRv hx hb hr hlocks hQ hAe hP hD hK hS (dAt zX4_place_0 42 rfl)
    · have h := q_neg c_34 h
      refine lv_aload_n hx hb (dAt zX4_place_0 22 rfl) rfl (lv_at hl 1 rfl) ?_
      refine va_get (D := D) (ci := 4) (v := .int (zT 0 1)) (C := RX4) (T := TX4) (N := 9) hx hb htl inlX4 hown hK hP 0 rfl rfl 1 (by decide) (htl _ W_40) (fun _ h9 => h9) rfl (dAt zX4_place_0 23 rfl) ?_
      refine lv_iload hx hb (dAt zX4_place_0 24 rfl) (lv_at hl 0 rfl) ?_
      refine lv_ior hx hb (dAt zX4_place_0 25 rfl) ?_
      refine lv_goto (tgt := 56) hx hb (dAt zX4_place_0 26 rfl) (by decide) ?_
      refine va_put (D := D) (ci := 4) (v := .int ((zT 0 1) ||| ((1 : Int32) <<< (a1 &&& 31)))) (ty := .int) (C := RX4) (T := TX4) (N := 9) hx hb htl inlX4 tyX4 tyX4_ok nmX4 hown hK hP hD hS 0 rfl rfl 1 (by decide) (htl _ W_40) (fun _ h9 => h9) rfl (by decide +kernel) rfl rfl (Nat.le_of_ble_eq_true rfl) (dAt zX4_place_0 33 rfl) (fun H locs hP hD hS => ?_)
      have hP : va_P D vwCl (w4x cI qT ((zT 0 0) &&& (((1 : Int32) <<< (a1 &&& 31)) ^^^ (-1 : Int32))) ((zT 0 1) ||| ((1 : Int32) <<< (a1 &&& 31))) (zT 0 2) (zT 0 3) (zT 0 4) (zT 6) (zT 7) (zT 8) (zT 9)) H := hP
      have hD : va_D A (w4x cI qT ((zT 0 0) &&& (((1 : Int32) <<< (a1 &&& 31)) ^^^ (-1 : Int32))) ((zT 0 1) ||| ((1 : Int32) <<< (a1 &&& 31))) (zT 0 2) (zT 0 3) (zT 0 4) (zT 6) (zT 7) (zT 8) (zT 9)) := hD
      refine lv_aload_n hx hb (dAt zX4_place_0 34 rfl) rfl (lv_at hl 1 rfl) ?_
      refine lv_dup hx hb (dAt zX4_place_0 35 rfl) rfl ?_
      refine va_get (D := D) (ci := 4) (v := .int (zT 0 2)) (C := RX4) (T := TX4) (N := 9) hx hb htl inlX4 hown hK hP 0 rfl rfl 2 (by decide) (htl _ W_41) (fun _ h9 => h9) rfl (dAt zX4_place_0 36 rfl) ?_
      refine lv_iload hx hb (dAt zX4_place_0 37 rfl) (lv_at hl 0 rfl) ?_
      refine lv_iconst (v := (-1)) hx hb (dAt zX4_place_0 38 rfl) (by decide) ?_
      refine lv_ixor hx hb (dAt zX4_place_0 39 rfl) ?_
      refine lv_iand hx hb (dAt zX4_place_0 40 rfl) ?_
      refine va_put (D := D) (ci := 4) (v := .int ((zT 0 2) &&& (((1 : Int32) <<< (a1 &&& 31)) ^^^ (-1 : Int32)))) (ty := .int) (C := RX4) (T := TX4) (N := 9) hx hb htl inlX4 tyX4 tyX4_ok nmX4 hown hK hP hD hS 0 rfl rfl 2 (by decide) (htl _ W_41) (fun _ h9 => h9) rfl (by decide +kernel) rfl rfl (Nat.le_of_ble_eq_true rfl) (dAt zX4_place_0 41 rfl) (fun H locs hP hD hS => ?_)
      have hP : va_P D vwCl (w4x cI qT ((zT 0 0) &&& (((1 : Int32) <<< (a1 &&& 31)) ^^^ (-1 : Int32))) ((zT 0 1) ||| ((1 : Int32) <<< (a1 &&& 31))) ((zT 0 2) &&& (((1 : Int32) <<< (a1 &&& 31)) ^^^ (-1 : Int32))) (zT 0 3) (zT 0 4) (zT 6) (zT 7) (zT 8) (zT 9)) H := hP
      have hD : va_D A (w4x cI qT ((zT 0 0) &&& (((1 : Int32) <<< (a1 &&& 31)) ^^^ (-1 : Int32))) ((zT 0 1) ||| ((1 : Int32) <<< (a1 &&& 31))) ((zT 0 2) &&& (((1 : Int32) <<< (a1 &&& 31)) ^^^ (-1 : Int32))) (zT 0 3) (zT 0 4) (zT 6) (zT 7) (zT 8) (zT 9)) := hD
      have hP : va_P D vwCl (w4 cI qT (sf (sf (sf zT 0 ((zT 0 0) &&& (((1 : Int32) <<< (a1 &&& 31)) ^^^ (-1 : Int32)))) 1 ((zT 0 1) ||| ((1 : Int32) <<< (a1 &&& 31)))) 2 ((zT 0 2) &&& (((1 : Int32) <<< (a1 &&& 31)) ^^^ (-1 : Int32))))) H := hP
      have hD : va_D A (w4 cI qT (sf (sf (sf zT 0 ((zT 0 0) &&& (((1 : Int32) <<< (a1 &&& 31)) ^^^ (-1 : Int32)))) 1 ((zT 0 1) ||| ((1 : Int32) <<< (a1 &&& 31)))) 2 ((zT 0 2) &&& (((1 : Int32) <<< (a1 &&& 31)) ^^^ (-1 : Int32))))) := hD
      obtain rfl := q_some h
      exact xRv hx hb hr hlocks hQ hAe hP hD hK hS (dAt zX4_place_0 42 rfl)
  · have h := q_neg c_7 h
    refine lv_aload_n hx hb (dAt zX4_place_0 7 rfl) rfl (lv_at hl 1 rfl) ?_
    refine va_get (D := D) (ci := 4) (v := .int (zT 0 0)) (C := RX4) (T := TX4) (N := 9) hx hb htl inlX4 hown hK hP 0 rfl rfl 0 (by decide) (htl _ W_39) (fun _ h9 => h9) rfl (dAt zX4_place_0 8 rfl) ?_
    refine lv_iload hx hb (dAt zX4_place_0 9 rfl) (lv_at hl 0 rfl) ?_
    refine lv_ior hx hb (dAt zX4_place_0 10 rfl) ?_
    refine lv_goto (tgt := 29) hx hb (dAt zX4_place_0 11 rfl) (by decide) ?_
    refine va_put (D := D) (ci := 4) (v := .int ((zT 0 0) ||| ((1 : Int32) <<< (a1 &&& 31)))) (ty := .int) (C := RX4) (T := TX4) (N := 9) hx hb htl inlX4 tyX4 tyX4_ok nmX4 hown hK hP hD hS 0 rfl rfl 0 (by decide) (htl _ W_39) (fun _ h9 => h9) rfl (by decide +kernel) rfl rfl (Nat.le_of_ble_eq_true rfl) (dAt zX4_place_0 18 rfl) (fun H locs hP hD hS => ?_)
    have hP : va_P D vwCl (w4x cI qT ((zT 0 0) ||| ((1 : Int32) <<< (a1 &&& 31))) (zT 0 1) (zT 0 2) (zT 0 3) (zT 0 4) (zT 6) (zT 7) (zT 8) (zT 9)) H := hP
    have hD : va_D A (w4x cI qT ((zT 0 0) ||| ((1 : Int32) <<< (a1 &&& 31))) (zT 0 1) (zT 0 2) (zT 0 3) (zT 0 4) (zT 6) (zT 7) (zT 8) (zT 9)) := hD
    refine lv_aload_n hx hb (dAt zX4_place_0 19 rfl) rfl (lv_at hl 1 rfl) ?_
    refine lv_iload_n hx hb (dAt zX4_place_0 20 rfl) rfl (lv_at hl 4 rfl) ?_
    refine lv_if_eq (tgt := 47) hx hb (dAt zX4_place_0 21 rfl) (by decide) (fun c_34 => ?_) (fun c_34 => ?_)
    · have h := q_pos c_34 h
      refine lv_aload_n hx hb (dAt zX4_place_0 27 rfl) rfl (lv_at hl 1 rfl) ?_
      refine va_get (D := D) (ci := 4) (v := .int (zT 0 1)) (C := RX4) (T := TX4) (N := 9) hx hb htl inlX4 hown hK hP 0 rfl rfl 1 (by decide) (htl _ W_40) (fun _ h9 => h9) rfl (dAt zX4_place_0 28 rfl) ?_
      refine lv_iload hx hb (dAt zX4_place_0 29 rfl) (lv_at hl 0 rfl) ?_
      refine lv_iconst (v := (-1)) hx hb (dAt zX4_place_0 30 rfl) (by decide) ?_
      refine lv_ixor hx hb (dAt zX4_place_0 31 rfl) ?_
      refine lv_iand hx hb (dAt zX4_place_0 32 rfl) ?_
      refine va_put (D := D) (ci := 4) (v := .int ((zT 0 1) &&& (((1 : Int32) <<< (a1 &&& 31)) ^^^ (-1 : Int32)))) (ty := .int) (C := RX4) (T := TX4) (N := 9) hx hb htl inlX4 tyX4 tyX4_ok nmX4 hown hK hP hD hS 0 rfl rfl 1 (by decide) (htl _ W_40) (fun _ h9 => h9) rfl (by decide +kernel) rfl rfl (Nat.le_of_ble_eq_true rfl) (dAt zX4_place_0 33 rfl) (fun H locs hP hD hS => ?_)
      have hP : va_P D vwCl (w4x cI qT ((zT 0 0) ||| ((1 : Int32) <<< (a1 &&& 31))) ((zT 0 1) &&& (((1 : Int32) <<< (a1 &&& 31)) ^^^ (-1 : Int32))) (zT 0 2) (zT 0 3) (zT 0 4) (zT 6) (zT 7) (zT 8) (zT 9)) H := hP
      have hD : va_D A (w4x cI qT ((zT 0 0) ||| ((1 : Int32) <<< (a1 &&& 31))) ((zT 0 1) &&& (((1 : Int32) <<< (a1 &&& 31)) ^^^ (-1 : Int32))) (zT 0 2) (zT 0 3) (zT 0 4) (zT 6) (zT 7) (zT 8) (zT 9)) := hD
      refine lv_aload_n hx hb (dAt zX4_place_0 34 rfl) rfl (lv_at hl 1 rfl) ?_
      refine lv_dup hx hb (dAt zX4_place_0 35 rfl) rfl ?_
      refine va_get (D := D) (ci := 4) (v := .int (zT 0 2)) (C := RX4) (T := TX4) (N := 9) hx hb htl inlX4 hown hK hP 0 rfl rfl 2 (by decide) (htl _ W_41) (fun _ h9 => h9) rfl (dAt zX4_place_0 36 rfl) ?_
      refine lv_iload hx hb (dAt zX4_place_0 37 rfl) (lv_at hl 0 rfl) ?_
      refine lv_iconst (v := (-1)) hx hb (dAt zX4_place_0 38 rfl) (by decide) ?_
      refine lv_ixor hx hb (dAt zX4_place_0 39 rfl) ?_
      refine lv_iand hx hb (dAt zX4_place_0 40 rfl) ?_
      refine va_put (D := D) (ci := 4) (v := .int ((zT 0 2) &&& (((1 : Int32) <<< (a1 &&& 31)) ^^^ (-1 : Int32)))) (ty := .int) (C := RX4) (T := TX4) (N := 9) hx hb htl inlX4 tyX4 tyX4_ok nmX4 hown hK hP hD hS 0 rfl rfl 2 (by decide) (htl _ W_41) (fun _ h9 => h9) rfl (by decide +kernel) rfl rfl (Nat.le_of_ble_eq_true rfl) (dAt zX4_place_0 41 rfl) (fun H locs hP hD hS => ?_)
      have hP : va_P D vwCl (w4x cI qT ((zT 0 0) ||| ((1 : Int32) <<< (a1 &&& 31))) ((zT 0 1) &&& (((1 : Int32) <<< (a1 &&& 31)) ^^^ (-1 : Int32))) ((zT 0 2) &&& (((1 : Int32) <<< (a1 &&& 31)) ^^^ (-1 : Int32))) (zT 0 3) (zT 0 4) (zT 6) (zT 7) (zT 8) (zT 9)) H := hP
      have hD : va_D A (w4x cI qT ((zT 0 0) ||| ((1 : Int32) <<< (a1 &&& 31))) ((zT 0 1) &&& (((1 : Int32) <<< (a1 &&& 31)) ^^^ (-1 : Int32))) ((zT 0 2) &&& (((1 : Int32) <<< (a1 &&& 31)) ^^^ (-1 : Int32))) (zT 0 3) (zT 0 4) (zT 6) (zT 7) (zT 8) (zT 9)) := hD
      have hP : va_P D vwCl (w4 cI qT (sf (sf (sf zT 0 ((zT 0 0) ||| ((1 : Int32) <<< (a1 &&& 31)))) 1 ((zT 0 1) &&& (((1 : Int32) <<< (a1 &&& 31)) ^^^ (-1 : Int32)))) 2 ((zT 0 2) &&& (((1 : Int32) <<< (a1 &&& 31)) ^^^ (-1 : Int32))))) H := hP
      have hD : va_D A (w4 cI qT (sf (sf (sf zT 0 ((zT 0 0) ||| ((1 : Int32) <<< (a1 &&& 31)))) 1 ((zT 0 1) &&& (((1 : Int32) <<< (a1 &&& 31)) ^^^ (-1 : Int32)))) 2 ((zT 0 2) &&& (((1 : Int32) <<< (a1 &&& 31)) ^^^ (-1 : Int32))))) := hD
      obtain rfl := q_some h
      exact xRv hx hb hr hlocks hQ hAe hP hD hK hS (dAt zX4_place_0 42 rfl)
    · have h := q_neg c_34 h
      refine lv_aload_n hx hb (dAt zX4_place_0 22 rfl) rfl (lv_at hl 1 rfl) ?_
      refine va_get (D := D) (ci := 4) (v := .int (zT 0 1)) (C := RX4) (T := TX4) (N := 9) hx hb htl inlX4 hown hK hP 0 rfl rfl 1 (by decide) (htl _ W_40) (fun _ h9 => h9) rfl (dAt zX4_place_0 23 rfl) ?_
      refine lv_iload hx hb (dAt zX4_place_0 24 rfl) (lv_at hl 0 rfl) ?_
      refine lv_ior hx hb (dAt zX4_place_0 25 rfl) ?_
      refine lv_goto (tgt := 56) hx hb (dAt zX4_place_0 26 rfl) (by decide) ?_
      refine va_put (D := D) (ci := 4) (v := .int ((zT 0 1) ||| ((1 : Int32) <<< (a1 &&& 31)))) (ty := .int) (C := RX4) (T := TX4) (N := 9) hx hb htl inlX4 tyX4 tyX4_ok nmX4 hown hK hP hD hS 0 rfl rfl 1 (by decide) (htl _ W_40) (fun _ h9 => h9) rfl (by decide +kernel) rfl rfl (Nat.le_of_ble_eq_true rfl) (dAt zX4_place_0 33 rfl) (fun H locs hP hD hS => ?_)
      have hP : va_P D vwCl (w4x cI qT ((zT 0 0) ||| ((1 : Int32) <<< (a1 &&& 31))) ((zT 0 1) ||| ((1 : Int32) <<< (a1 &&& 31))) (zT 0 2) (zT 0 3) (zT 0 4) (zT 6) (zT 7) (zT 8) (zT 9)) H := hP
      have hD : va_D A (w4x cI qT ((zT 0 0) ||| ((1 : Int32) <<< (a1 &&& 31))) ((zT 0 1) ||| ((1 : Int32) <<< (a1 &&& 31))) (zT 0 2) (zT 0 3) (zT 0 4) (zT 6) (zT 7) (zT 8) (zT 9)) := hD
      refine lv_aload_n hx hb (dAt zX4_place_0 34 rfl) rfl (lv_at hl 1 rfl) ?_
      refine lv_dup hx hb (dAt zX4_place_0 35 rfl) rfl ?_
      refine va_get (D := D) (ci := 4) (v := .int (zT 0 2)) (C := RX4) (T := TX4) (N := 9) hx hb htl inlX4 hown hK hP 0 rfl rfl 2 (by decide) (htl _ W_41) (fun _ h9 => h9) rfl (dAt zX4_place_0 36 rfl) ?_
      refine lv_iload hx hb (dAt zX4_place_0 37 rfl) (lv_at hl 0 rfl) ?_
      refine lv_iconst (v := (-1)) hx hb (dAt zX4_place_0 38 rfl) (by decide) ?_
      refine lv_ixor hx hb (dAt zX4_place_0 39 rfl) ?_
      refine lv_iand hx hb (dAt zX4_place_0 40 rfl) ?_
      refine va_put (D := D) (ci := 4) (v := .int ((zT 0 2) &&& (((1 : Int32) <<< (a1 &&& 31)) ^^^ (-1 : Int32)))) (ty := .int) (C := RX4) (T := TX4) (N := 9) hx hb htl inlX4 tyX4 tyX4_ok nmX4 hown hK hP hD hS 0 rfl rfl 2 (by decide) (htl _ W_41) (fun _ h9 => h9) rfl (by decide +kernel) rfl rfl (Nat.le_of_ble_eq_true rfl) (dAt zX4_place_0 41 rfl) (fun H locs hP hD hS => ?_)
      have hP : va_P D vwCl (w4x cI qT ((zT 0 0) ||| ((1 : Int32) <<< (a1 &&& 31))) ((zT 0 1) ||| ((1 : Int32) <<< (a1 &&& 31))) ((zT 0 2) &&& (((1 : Int32) <<< (a1 &&& 31)) ^^^ (-1 : Int32))) (zT 0 3) (zT 0 4) (zT 6) (zT 7) (zT 8) (zT 9)) H := hP
      have hD : va_D A (w4x cI qT ((zT 0 0) ||| ((1 : Int32) <<< (a1 &&& 31))) ((zT 0 1) ||| ((1 : Int32) <<< (a1 &&& 31))) ((zT 0 2) &&& (((1 : Int32) <<< (a1 &&& 31)) ^^^ (-1 : Int32))) (zT 0 3) (zT 0 4) (zT 6) (zT 7) (zT 8) (zT 9)) := hD
      have hP : va_P D vwCl (w4 cI qT (sf (sf (sf zT 0 ((zT 0 0) ||| ((1 : Int32) <<< (a1 &&& 31)))) 1 ((zT 0 1) ||| ((1 : Int32) <<< (a1 &&& 31)))) 2 ((zT 0 2) &&& (((1 : Int32) <<< (a1 &&& 31)) ^^^ (-1 : Int32))))) H := hP
      have hD : va_D A (w4 cI qT (sf (sf (sf zT 0 ((zT 0 0) ||| ((1 : Int32) <<< (a1 &&& 31)))) 1 ((zT 0 1) ||| ((1 : Int32) <<< (a1 &&& 31)))) 2 ((zT 0 2) &&& (((1 : Int32) <<< (a1 &&& 31)) ^^^ (-1 : Int32))))) := hD
      obtain rfl := q_some h
      exact xRv hx hb hr hlocks hQ hAe hP hD hK hS (dAt zX4_place_0 42 rfl)
def m_J6_bitCount_0f7a4 (n : Nat) (a1 : Int32) : Option Int32 := some ((((((((a1 - ((jushr a1 (1 : Int32)) &&& (1431655765 : Int32))) &&& (858993459 : Int32)) + ((jushr (a1 - ((jushr a1 (1 : Int32)) &&& (1431655765 : Int32))) (2 : Int32)) &&& (858993459 : Int32))) + (jushr (((a1 - ((jushr a1 (1 : Int32)) &&& (1431655765 : Int32))) &&& (858993459 : Int32)) + ((jushr (a1 - ((jushr a1 (1 : Int32)) &&& (1431655765 : Int32))) (2 : Int32)) &&& (858993459 : Int32))) (4 : Int32))) &&& (252645135 : Int32)) + (jushr (((((a1 - ((jushr a1 (1 : Int32)) &&& (1431655765 : Int32))) &&& (858993459 : Int32)) + ((jushr (a1 - ((jushr a1 (1 : Int32)) &&& (1431655765 : Int32))) (2 : Int32)) &&& (858993459 : Int32))) + (jushr (((a1 - ((jushr a1 (1 : Int32)) &&& (1431655765 : Int32))) &&& (858993459 : Int32)) + ((jushr (a1 - ((jushr a1 (1 : Int32)) &&& (1431655765 : Int32))) (2 : Int32)) &&& (858993459 : Int32))) (4 : Int32))) &&& (252645135 : Int32)) (8 : Int32))) + (jushr ((((((a1 - ((jushr a1 (1 : Int32)) &&& (1431655765 : Int32))) &&& (858993459 : Int32)) + ((jushr (a1 - ((jushr a1 (1 : Int32)) &&& (1431655765 : Int32))) (2 : Int32)) &&& (858993459 : Int32))) + (jushr (((a1 - ((jushr a1 (1 : Int32)) &&& (1431655765 : Int32))) &&& (858993459 : Int32)) + ((jushr (a1 - ((jushr a1 (1 : Int32)) &&& (1431655765 : Int32))) (2 : Int32)) &&& (858993459 : Int32))) (4 : Int32))) &&& (252645135 : Int32)) + (jushr (((((a1 - ((jushr a1 (1 : Int32)) &&& (1431655765 : Int32))) &&& (858993459 : Int32)) + ((jushr (a1 - ((jushr a1 (1 : Int32)) &&& (1431655765 : Int32))) (2 : Int32)) &&& (858993459 : Int32))) + (jushr (((a1 - ((jushr a1 (1 : Int32)) &&& (1431655765 : Int32))) &&& (858993459 : Int32)) + ((jushr (a1 - ((jushr a1 (1 : Int32)) &&& (1431655765 : Int32))) (2 : Int32)) &&& (858993459 : Int32))) (4 : Int32))) &&& (252645135 : Int32)) (8 : Int32))) (16 : Int32))) &&& (63 : Int32))
set_option maxHeartbeats 4000000 in
set_option maxRecDepth 100000 in
theorem c_J6_bitCount_0f7a4 (l : Launch) (D : va_G) (cI cJ cZ : ClassId) (n : Nat)  (sz : Nat) (a1 : Int32) (out : Int32) (hm : m_J6_bitCount_0f7a4 n a1 = some out) : Met l yJ6_bitCount_0f7a4 (wsM yJ6_bitCount_0f7a4 cJ6_bitCount_0f7a4 1 (some .int)) { frames := 0, cells := 0, slots := 0, locals := 0 } (xPre D (kT cI cJ cZ) ([] : va_W) sz [.int a1]) (xQi D (kT cI cJ cZ) ([] : va_W) ([] : va_W) sz out) 0 0 (va_A ([] : va_W) sz) := by
  refine Met.ofW (cc := cJ6_bitCount_0f7a4) (maxL := 1) (ret := (some .int)) (by decide) rfl ?_
  intro p e s m args below meth c s₁ B hml hv
  obtain ⟨hv, hsz, hP, hK, hD0, hN⟩ := hv
  have hx := B.exec; have hb := B.bytes; have hr := B.returns
  have hts := atoms_spec (ws := (wsM yJ6_bitCount_0f7a4 cJ6_bitCount_0f7a4 1 (some .int))) B.pre
  have hown : s.vm.findClass RJ6 = some m.cls := findClass_of_methodNamed B.named
  have hlocks := B.notSynchronized
  subst hsz
  have hD := hD0.self (sz := s.heap.size)
  obtain ⟨A, hAe⟩ : ∃ A, A = va_A ([] : va_W) s.heap.size := ⟨_, rfl⟩
  rw [← hAe] at hD
  have hA : ∀ q : Nat, s.heap.size ≤ q → A q := fun q h => by rw [hAe]; exact Or.inr h
  have htl : ∀ w ∈ wsL_law, w.before args s = true := fun w h => hts w (List.mem_cons_of_mem _ h)
  refine xHead (R' := { frames := 0, cells := 0, slots := 0, locals := 0 }) rfl (fun Q H hQ hH => ?_)
  have hP : va_P D vwCl ([] : va_W) H := by rw [hH]; exact hP
  have hS : va_S A s.heap H [] := by rw [hH]; exact va_S.rf
  refine xStart hv (Nat.le_of_ble_eq_true rfl) (lv := [(0, .int a1)]) rfl (fun ls hl => ?_)
  have h := hm
  unfold m_J6_bitCount_0f7a4 at h
  refine lv_iload_n hx hb (dAt zJ6_bitCount_0f7a4_0 0 rfl) rfl (lv_at hl 0 rfl) ?_
  refine lv_iload_n hx hb (dAt zJ6_bitCount_0f7a4_0 1 rfl) rfl (lv_at hl 0 rfl) ?_
  refine lv_iconst (v := 1) hx hb (dAt zJ6_bitCount_0f7a4_0 2 rfl) (by decide) ?_
  refine lv_iushr (v := (jushr a1 (1 : Int32))) hx hb (dAt zJ6_bitCount_0f7a4_0 3 rfl) rfl ?_
  refine lv_ldcw (v := 1431655765) hx hb hown (htl _ W_153) (dAt zJ6_bitCount_0f7a4_0 4 rfl) ?_
  refine lv_iand hx hb (dAt zJ6_bitCount_0f7a4_0 5 rfl) ?_
  refine lv_isub hx hb (dAt zJ6_bitCount_0f7a4_0 6 rfl) ?_
  refine lv_istore_n (lv' := [(0, .int (a1 - ((jushr a1 (1 : Int32)) &&& (1431655765 : Int32))))]) hx hb (dAt zJ6_bitCount_0f7a4_0 7 rfl) rfl hl (by decide) rfl (fun ls hl => ?_)
  refine lv_iload_n hx hb (dAt zJ6_bitCount_0f7a4_0 8 rfl) rfl (lv_at hl 0 rfl) ?_
  refine lv_ldcw (v := 858993459) hx hb hown (htl _ W_154) (dAt zJ6_bitCount_0f7a4_0 9 rfl) ?_
  refine lv_iand hx hb (dAt zJ6_bitCount_0f7a4_0 10 rfl) ?_
  refine lv_iload_n hx hb (dAt zJ6_bitCount_0f7a4_0 11 rfl) rfl (lv_at hl 0 rfl) ?_
  refine lv_iconst (v := 2) hx hb (dAt zJ6_bitCount_0f7a4_0 12 rfl) (by decide) ?_
  refine lv_iushr (v := (jushr (a1 - ((jushr a1 (1 : Int32)) &&& (1431655765 : Int32))) (2 : Int32))) hx hb (dAt zJ6_bitCount_0f7a4_0 13 rfl) rfl ?_
  refine lv_ldcw (v := 858993459) hx hb hown (htl _ W_154) (dAt zJ6_bitCount_0f7a4_0 14 rfl) ?_
  refine lv_iand hx hb (dAt zJ6_bitCount_0f7a4_0 15 rfl) ?_
  refine lv_iadd hx hb (dAt zJ6_bitCount_0f7a4_0 16 rfl) ?_
  refine lv_istore_n (lv' := [(0, .int (((a1 - ((jushr a1 (1 : Int32)) &&& (1431655765 : Int32))) &&& (858993459 : Int32)) + ((jushr (a1 - ((jushr a1 (1 : Int32)) &&& (1431655765 : Int32))) (2 : Int32)) &&& (858993459 : Int32))))]) hx hb (dAt zJ6_bitCount_0f7a4_0 17 rfl) rfl hl (by decide) rfl (fun ls hl => ?_)
  refine lv_iload_n hx hb (dAt zJ6_bitCount_0f7a4_0 18 rfl) rfl (lv_at hl 0 rfl) ?_
  refine lv_iload_n hx hb (dAt zJ6_bitCount_0f7a4_0 19 rfl) rfl (lv_at hl 0 rfl) ?_
  refine lv_iconst (v := 4) hx hb (dAt zJ6_bitCount_0f7a4_0 20 rfl) (by decide) ?_
  refine lv_iushr (v := (jushr (((a1 - ((jushr a1 (1 : Int32)) &&& (1431655765 : Int32))) &&& (858993459 : Int32)) + ((jushr (a1 - ((jushr a1 (1 : Int32)) &&& (1431655765 : Int32))) (2 : Int32)) &&& (858993459 : Int32))) (4 : Int32))) hx hb (dAt zJ6_bitCount_0f7a4_0 21 rfl) rfl ?_
  refine lv_iadd hx hb (dAt zJ6_bitCount_0f7a4_0 22 rfl) ?_
  refine lv_ldcw (v := 252645135) hx hb hown (htl _ W_155) (dAt zJ6_bitCount_0f7a4_0 23 rfl) ?_
  refine lv_iand hx hb (dAt zJ6_bitCount_0f7a4_0 24 rfl) ?_
  refine lv_istore_n (lv' := [(0, .int (((((a1 - ((jushr a1 (1 : Int32)) &&& (1431655765 : Int32))) &&& (858993459 : Int32)) + ((jushr (a1 - ((jushr a1 (1 : Int32)) &&& (1431655765 : Int32))) (2 : Int32)) &&& (858993459 : Int32))) + (jushr (((a1 - ((jushr a1 (1 : Int32)) &&& (1431655765 : Int32))) &&& (858993459 : Int32)) + ((jushr (a1 - ((jushr a1 (1 : Int32)) &&& (1431655765 : Int32))) (2 : Int32)) &&& (858993459 : Int32))) (4 : Int32))) &&& (252645135 : Int32)))]) hx hb (dAt zJ6_bitCount_0f7a4_0 25 rfl) rfl hl (by decide) rfl (fun ls hl => ?_)
  refine lv_iload_n hx hb (dAt zJ6_bitCount_0f7a4_0 26 rfl) rfl (lv_at hl 0 rfl) ?_
  refine lv_iload_n hx hb (dAt zJ6_bitCount_0f7a4_0 27 rfl) rfl (lv_at hl 0 rfl) ?_
  refine lv_bipush (v := 8) hx hb (dAt zJ6_bitCount_0f7a4_0 28 rfl) (by decide) ?_
  refine lv_iushr (v := (jushr (((((a1 - ((jushr a1 (1 : Int32)) &&& (1431655765 : Int32))) &&& (858993459 : Int32)) + ((jushr (a1 - ((jushr a1 (1 : Int32)) &&& (1431655765 : Int32))) (2 : Int32)) &&& (858993459 : Int32))) + (jushr (((a1 - ((jushr a1 (1 : Int32)) &&& (1431655765 : Int32))) &&& (858993459 : Int32)) + ((jushr (a1 - ((jushr a1 (1 : Int32)) &&& (1431655765 : Int32))) (2 : Int32)) &&& (858993459 : Int32))) (4 : Int32))) &&& (252645135 : Int32)) (8 : Int32))) hx hb (dAt zJ6_bitCount_0f7a4_0 29 rfl) rfl ?_
  refine lv_iadd hx hb (dAt zJ6_bitCount_0f7a4_0 30 rfl) ?_
  refine lv_istore_n (lv' := [(0, .int ((((((a1 - ((jushr a1 (1 : Int32)) &&& (1431655765 : Int32))) &&& (858993459 : Int32)) + ((jushr (a1 - ((jushr a1 (1 : Int32)) &&& (1431655765 : Int32))) (2 : Int32)) &&& (858993459 : Int32))) + (jushr (((a1 - ((jushr a1 (1 : Int32)) &&& (1431655765 : Int32))) &&& (858993459 : Int32)) + ((jushr (a1 - ((jushr a1 (1 : Int32)) &&& (1431655765 : Int32))) (2 : Int32)) &&& (858993459 : Int32))) (4 : Int32))) &&& (252645135 : Int32)) + (jushr (((((a1 - ((jushr a1 (1 : Int32)) &&& (1431655765 : Int32))) &&& (858993459 : Int32)) + ((jushr (a1 - ((jushr a1 (1 : Int32)) &&& (1431655765 : Int32))) (2 : Int32)) &&& (858993459 : Int32))) + (jushr (((a1 - ((jushr a1 (1 : Int32)) &&& (1431655765 : Int32))) &&& (858993459 : Int32)) + ((jushr (a1 - ((jushr a1 (1 : Int32)) &&& (1431655765 : Int32))) (2 : Int32)) &&& (858993459 : Int32))) (4 : Int32))) &&& (252645135 : Int32)) (8 : Int32))))]) hx hb (dAt zJ6_bitCount_0f7a4_0 31 rfl) rfl hl (by decide) rfl (fun ls hl => ?_)
  refine lv_iload_n hx hb (dAt zJ6_bitCount_0f7a4_0 32 rfl) rfl (lv_at hl 0 rfl) ?_
  refine lv_iload_n hx hb (dAt zJ6_bitCount_0f7a4_0 33 rfl) rfl (lv_at hl 0 rfl) ?_
  refine lv_bipush (v := 16) hx hb (dAt zJ6_bitCount_0f7a4_0 34 rfl) (by decide) ?_
  refine lv_iushr (v := (jushr ((((((a1 - ((jushr a1 (1 : Int32)) &&& (1431655765 : Int32))) &&& (858993459 : Int32)) + ((jushr (a1 - ((jushr a1 (1 : Int32)) &&& (1431655765 : Int32))) (2 : Int32)) &&& (858993459 : Int32))) + (jushr (((a1 - ((jushr a1 (1 : Int32)) &&& (1431655765 : Int32))) &&& (858993459 : Int32)) + ((jushr (a1 - ((jushr a1 (1 : Int32)) &&& (1431655765 : Int32))) (2 : Int32)) &&& (858993459 : Int32))) (4 : Int32))) &&& (252645135 : Int32)) + (jushr (((((a1 - ((jushr a1 (1 : Int32)) &&& (1431655765 : Int32))) &&& (858993459 : Int32)) + ((jushr (a1 - ((jushr a1 (1 : Int32)) &&& (1431655765 : Int32))) (2 : Int32)) &&& (858993459 : Int32))) + (jushr (((a1 - ((jushr a1 (1 : Int32)) &&& (1431655765 : Int32))) &&& (858993459 : Int32)) + ((jushr (a1 - ((jushr a1 (1 : Int32)) &&& (1431655765 : Int32))) (2 : Int32)) &&& (858993459 : Int32))) (4 : Int32))) &&& (252645135 : Int32)) (8 : Int32))) (16 : Int32))) hx hb (dAt zJ6_bitCount_0f7a4_0 35 rfl) rfl ?_
  refine lv_iadd hx hb (dAt zJ6_bitCount_0f7a4_0 36 rfl) ?_
  refine lv_istore_n (lv' := [(0, .int (((((((a1 - ((jushr a1 (1 : Int32)) &&& (1431655765 : Int32))) &&& (858993459 : Int32)) + ((jushr (a1 - ((jushr a1 (1 : Int32)) &&& (1431655765 : Int32))) (2 : Int32)) &&& (858993459 : Int32))) + (jushr (((a1 - ((jushr a1 (1 : Int32)) &&& (1431655765 : Int32))) &&& (858993459 : Int32)) + ((jushr (a1 - ((jushr a1 (1 : Int32)) &&& (1431655765 : Int32))) (2 : Int32)) &&& (858993459 : Int32))) (4 : Int32))) &&& (252645135 : Int32)) + (jushr (((((a1 - ((jushr a1 (1 : Int32)) &&& (1431655765 : Int32))) &&& (858993459 : Int32)) + ((jushr (a1 - ((jushr a1 (1 : Int32)) &&& (1431655765 : Int32))) (2 : Int32)) &&& (858993459 : Int32))) + (jushr (((a1 - ((jushr a1 (1 : Int32)) &&& (1431655765 : Int32))) &&& (858993459 : Int32)) + ((jushr (a1 - ((jushr a1 (1 : Int32)) &&& (1431655765 : Int32))) (2 : Int32)) &&& (858993459 : Int32))) (4 : Int32))) &&& (252645135 : Int32)) (8 : Int32))) + (jushr ((((((a1 - ((jushr a1 (1 : Int32)) &&& (1431655765 : Int32))) &&& (858993459 : Int32)) + ((jushr (a1 - ((jushr a1 (1 : Int32)) &&& (1431655765 : Int32))) (2 : Int32)) &&& (858993459 : Int32))) + (jushr (((a1 - ((jushr a1 (1 : Int32)) &&& (1431655765 : Int32))) &&& (858993459 : Int32)) + ((jushr (a1 - ((jushr a1 (1 : Int32)) &&& (1431655765 : Int32))) (2 : Int32)) &&& (858993459 : Int32))) (4 : Int32))) &&& (252645135 : Int32)) + (jushr (((((a1 - ((jushr a1 (1 : Int32)) &&& (1431655765 : Int32))) &&& (858993459 : Int32)) + ((jushr (a1 - ((jushr a1 (1 : Int32)) &&& (1431655765 : Int32))) (2 : Int32)) &&& (858993459 : Int32))) + (jushr (((a1 - ((jushr a1 (1 : Int32)) &&& (1431655765 : Int32))) &&& (858993459 : Int32)) + ((jushr (a1 - ((jushr a1 (1 : Int32)) &&& (1431655765 : Int32))) (2 : Int32)) &&& (858993459 : Int32))) (4 : Int32))) &&& (252645135 : Int32)) (8 : Int32))) (16 : Int32))))]) hx hb (dAt zJ6_bitCount_0f7a4_0 37 rfl) rfl hl (by decide) rfl (fun ls hl => ?_)
  refine lv_iload_n hx hb (dAt zJ6_bitCount_0f7a4_0 38 rfl) rfl (lv_at hl 0 rfl) ?_
  refine lv_bipush (v := 63) hx hb (dAt zJ6_bitCount_0f7a4_0 39 rfl) (by decide) ?_
  refine lv_iand hx hb (dAt zJ6_bitCount_0f7a4_0 40 rfl) ?_
  obtain rfl := q_some h
  exact xRi hx hb hr hlocks hQ hAe hP hD hK hS rfl (dAt zJ6_bitCount_0f7a4_0 41 rfl)
def m_X5_one (n : Nat) (zX : TI) (zT : TI) (zI : TI) (zJ : TI) (zP : TI) (zC : TI) (zV : TI) (zF : TI) (zA : TL) (a1 : Int32) (a2 : Int32) (a3 : Int32) : Option (Int32 × TI) := ((m_X5_isOne n  a1).bind fun u1 => (if u1 = 0 then some ((-1), zT) else ((m_X5_isFlag n  a2).bind fun u10 => (if u10 = 0 then some ((-2), zT) else ((m_X5_isFlag n  a3).bind fun u17 => (if u17 = 0 then some ((-2), zT) else (if a2 = 1 then (if a3 = 1 then ((m_X4_place n zT a1 1 1).bind fun u51 => ((m_J6_bitCount_0f7a4 n  (u51 0 0)).bind fun u61 => some (u61, u51))) else ((m_X4_place n zT a1 1 0).bind fun u51 => ((m_J6_bitCount_0f7a4 n  (u51 0 0)).bind fun u61 => some (u61, u51)))) else (if a3 = 1 then ((m_X4_place n zT a1 0 1).bind fun u51 => ((m_J6_bitCount_0f7a4 n  (u51 0 0)).bind fun u61 => some (u61, u51))) else ((m_X4_place n zT a1 0 0).bind fun u51 => ((m_J6_bitCount_0f7a4 n  (u51 0 0)).bind fun u61 => some (u61, u51)))))))))))
set_option maxHeartbeats 4000000 in
set_option maxRecDepth 100000 in
theorem c_X5_one (l : Launch) (D : va_G) (cI cJ cZ : ClassId) (n : Nat) (qX : Nat → Nat) (qT : Nat → Nat) (qI : Nat → Nat) (qJ : Nat → Nat) (qP : Nat → Nat) (qC : Nat → Nat) (qV : Nat → Nat) (qF : Nat → Nat) (qA : Nat → Nat) (sz : Nat) (zX : TI) (zT : TI) (zI : TI) (zJ : TI) (zP : TI) (zC : TI) (zV : TI) (zF : TI) (zA : TL) (a1 : Int32) (a2 : Int32) (a3 : Int32) (out : Int32 × TI) (hm : m_X5_one n zX zT zI zJ zP zC zV zF zA a1 a2 a3 = some out) : Met l yX5_one (wsM yX5_one cX5_one 4 (some .int)) { frames := 1, cells := 0, slots := 0, locals := 24 } (xPre D (kT cI cJ cZ) (w5 qX qT qI qJ qP qC qF qA zX ++ (w4 cI qT zT ++ (w4 cI qI zI ++ (w4 cI qJ zJ ++ (w2 cI qP zP ++ (w1 qC qV zC ++ (w4 cI qV zV ++ (w3 cI qF zF ++ (w0 cJ qA zA))))))))) sz [.ref (qX 0), .int a1, .int a2, .int a3]) (xQi D (kT cI cJ cZ) (w5 qX qT qI qJ qP qC qF qA zX ++ (w4 cI qT zT ++ (w4 cI qI zI ++ (w4 cI qJ zJ ++ (w2 cI qP zP ++ (w1 qC qV zC ++ (w4 cI qV zV ++ (w3 cI qF zF ++ (w0 cJ qA zA))))))))) (w5 qX qT qI qJ qP qC qF qA zX ++ (w4 cI qT out.2 ++ (w4 cI qI zI ++ (w4 cI qJ zJ ++ (w2 cI qP zP ++ (w1 qC qV zC ++ (w4 cI qV zV ++ (w3 cI qF zF ++ (w0 cJ qA zA))))))))) sz out.1) 0 0 (va_A (w5 qX qT qI qJ qP qC qF qA zX ++ (w4 cI qT zT ++ (w4 cI qI zI ++ (w4 cI qJ zJ ++ (w2 cI qP zP ++ (w1 qC qV zC ++ (w4 cI qV zV ++ (w3 cI qF zF ++ (w0 cJ qA zA))))))))) sz) := by
  refine Met.ofW (cc := cX5_one) (maxL := 4) (ret := (some .int)) (by decide) rfl ?_
  intro p e s m args below meth c s₁ B hml hv
  obtain ⟨hv, hsz, hP, hK, hD0, hN⟩ := hv
  have hx := B.exec; have hb := B.bytes; have hr := B.returns
  have hts := atoms_spec (ws := (wsM yX5_one cX5_one 4 (some .int))) B.pre
  have hown : s.vm.findClass RX5 = some m.cls := findClass_of_methodNamed B.named
  have hlocks := B.notSynchronized
  subst hsz
  have hD := hD0.self (sz := s.heap.size)
  obtain ⟨A, hAe⟩ : ∃ A, A = va_A (w5 qX qT qI qJ qP qC qF qA zX ++ (w4 cI qT zT ++ (w4 cI qI zI ++ (w4 cI qJ zJ ++ (w2 cI qP zP ++ (w1 qC qV zC ++ (w4 cI qV zV ++ (w3 cI qF zF ++ (w0 cJ qA zA))))))))) s.heap.size := ⟨_, rfl⟩
  rw [← hAe] at hD
  have hA : ∀ q : Nat, s.heap.size ≤ q → A q := fun q h => by rw [hAe]; exact Or.inr h
  have htl : ∀ w ∈ wsL_law, w.before args s = true := fun w h => hts w (List.mem_cons_of_mem _ h)
  refine xHead (R' := { frames := 1, cells := 0, slots := 0, locals := 24 }) rfl (fun Q H hQ hH => ?_)
  have hP : va_P D vwCl (w5 qX qT qI qJ qP qC qF qA zX ++ (w4 cI qT zT ++ (w4 cI qI zI ++ (w4 cI qJ zJ ++ (w2 cI qP zP ++ (w1 qC qV zC ++ (w4 cI qV zV ++ (w3 cI qF zF ++ (w0 cJ qA zA))))))))) H := by rw [hH]; exact hP
  have hS : va_S A s.heap H [] := by rw [hH]; exact va_S.rf
  refine xStart hv (Nat.le_of_ble_eq_true rfl) (lv := [(0, .ref (qX 0)), (1, .int a1), (2, .int a2), (3, .int a3)]) rfl (fun ls hl => ?_)
  have h := hm
  unfold m_X5_one at h
  refine lv_iload_n hx hb (dAt zX5_one_0 0 rfl) rfl (lv_at hl 1 rfl) ?_
  obtain ⟨u1, hu1, h⟩ := q_bind h
  refine xFz (wc := ([] : va_W)) (w1 := ([] : va_W)) (wr := (w5 qX qT qI qJ qP qC qF qA zX ++ (w4 cI qT zT ++ (w4 cI qI zI ++ (w4 cI qJ zJ ++ (w2 cI qP zP ++ (w1 qC qV zC ++ (w4 cI qV zV ++ (w3 cI qF zF ++ (w0 cJ qA zA)))))))))) (ws2 := (w5 qX qT qI qJ qP qC qF qA zX ++ (w4 cI qT zT ++ (w4 cI qI zI ++ (w4 cI qJ zJ ++ (w2 cI qP zP ++ (w1 qC qV zC ++ (w4 cI qV zV ++ (w3 cI qF zF ++ (w0 cJ qA zA)))))))))) (va_runS (As := [.int a1]) (rest := []) ⟨hx, hb, hml, hown, htl⟩ (c_X5_isOne l D cI cJ cZ n  H.size  a1 u1 hu1) (va_cwS 1 htl (gS W_107 W_108 W_2 W_109) rfl rfl rfl (by decide +kernel) ⟨Nat.le_of_ble_eq_true rfl, Nat.le_of_ble_eq_true rfl⟩) (xPS xP0 (xD0 A) hK hN) rfl rfl hl.1 rfl (lv_room (Nat.le_of_ble_eq_true rfl)) (dAt zX5_one_0 1 rfl) ⟨Nat.zero_le _, Nat.zero_le _⟩) hS hA hP hD [] [0, 1, 2, 3, 4, 5, 6, 7, 8, 9, 10, 11, 12, 13, 14, 15, 16, 17, 18, 19, 20, 21, 22, 23, 24, 25, 26, 27, 28, 29] [0, 1, 2, 3, 4, 5, 6, 7, 8, 9, 10, 11, 12, 13, 14, 15, 16, 17, 18, 19, 20, 21, 22, 23, 24, 25, 26, 27, 28, 29] rfl rfl (by decide) (by decide) rfl (by decide) (fun H locs hz1 hP hD hS => ?_)
  refine lv_if_ne (tgt := 9) hx hb (dAt zX5_one_0 2 rfl) (by decide) (fun c_4 => ?_) (fun c_4 => ?_)
  · have h := q_neg c_4 h
    refine lv_iload_n hx hb (dAt zX5_one_0 5 rfl) rfl (lv_at hl 2 rfl) ?_
    obtain ⟨u10, hu10, h⟩ := q_bind h
    refine xFz (wc := ([] : va_W)) (w1 := ([] : va_W)) (wr := (w5 qX qT qI qJ qP qC qF qA zX ++ (w4 cI qT zT ++ (w4 cI qI zI ++ (w4 cI qJ zJ ++ (w2 cI qP zP ++ (w1 qC qV zC ++ (w4 cI qV zV ++ (w3 cI qF zF ++ (w0 cJ qA zA)))))))))) (ws2 := (w5 qX qT qI qJ qP qC qF qA zX ++ (w4 cI qT zT ++ (w4 cI qI zI ++ (w4 cI qJ zJ ++ (w2 cI qP zP ++ (w1 qC qV zC ++ (w4 cI qV zV ++ (w3 cI qF zF ++ (w0 cJ qA zA)))))))))) (va_runS (As := [.int a2]) (rest := []) ⟨hx, hb, hml, hown, htl⟩ (c_X5_isFlag l D cI cJ cZ n  H.size  a2 u10 hu10) (va_cwS 1 htl (gS W_142 W_143 W_2 W_144) rfl rfl rfl (by decide +kernel) ⟨Nat.le_of_ble_eq_true rfl, Nat.le_of_ble_eq_true rfl⟩) (xPS xP0 (xD0 A) hK hN) rfl rfl hl.1 rfl (lv_room (Nat.le_of_ble_eq_true rfl)) (dAt zX5_one_0 6 rfl) ⟨Nat.zero_le _, Nat.zero_le _⟩) hS hA hP hD [] [0, 1, 2, 3, 4, 5, 6, 7, 8, 9, 10, 11, 12, 13, 14, 15, 16, 17, 18, 19, 20, 21, 22, 23, 24, 25, 26, 27, 28, 29] [0, 1, 2, 3, 4, 5, 6, 7, 8, 9, 10, 11, 12, 13, 14, 15, 16, 17, 18, 19, 20, 21, 22, 23, 24, 25, 26, 27, 28, 29] rfl rfl (by decide) (by decide) rfl (by decide) (fun H locs hz10 hP hD hS => ?_)
    refine lv_if_eq (tgt := 23) hx hb (dAt zX5_one_0 7 rfl) (by decide) (fun c_13 => ?_) (fun c_13 => ?_)
    · have h := q_pos c_13 h
      refine lv_bipush (v := (-2)) hx hb (dAt zX5_one_0 11 rfl) (by decide) ?_
      obtain rfl := q_some h
      exact xRi hx hb hr hlocks hQ hAe hP hD hK hS rfl (dAt zX5_one_0 12 rfl)
    · have h := q_neg c_13 h
      refine lv_iload_n hx hb (dAt zX5_one_0 8 rfl) rfl (lv_at hl 3 rfl) ?_
      obtain ⟨u17, hu17, h⟩ := q_bind h
      refine xFz (wc := ([] : va_W)) (w1 := ([] : va_W)) (wr := (w5 qX qT qI qJ qP qC qF qA zX ++ (w4 cI qT zT ++ (w4 cI qI zI ++ (w4 cI qJ zJ ++ (w2 cI qP zP ++ (w1 qC qV zC ++ (w4 cI qV zV ++ (w3 cI qF zF ++ (w0 cJ qA zA)))))))))) (ws2 := (w5 qX qT qI qJ qP qC qF qA zX ++ (w4 cI qT zT ++ (w4 cI qI zI ++ (w4 cI qJ zJ ++ (w2 cI qP zP ++ (w1 qC qV zC ++ (w4 cI qV zV ++ (w3 cI qF zF ++ (w0 cJ qA zA)))))))))) (va_runS (As := [.int a3]) (rest := []) ⟨hx, hb, hml, hown, htl⟩ (c_X5_isFlag l D cI cJ cZ n  H.size  a3 u17 hu17) (va_cwS 1 htl (gS W_142 W_143 W_2 W_144) rfl rfl rfl (by decide +kernel) ⟨Nat.le_of_ble_eq_true rfl, Nat.le_of_ble_eq_true rfl⟩) (xPS xP0 (xD0 A) hK hN) rfl rfl hl.1 rfl (lv_room (Nat.le_of_ble_eq_true rfl)) (dAt zX5_one_0 9 rfl) ⟨Nat.zero_le _, Nat.zero_le _⟩) hS hA hP hD [] [0, 1, 2, 3, 4, 5, 6, 7, 8, 9, 10, 11, 12, 13, 14, 15, 16, 17, 18, 19, 20, 21, 22, 23, 24, 25, 26, 27, 28, 29] [0, 1, 2, 3, 4, 5, 6, 7, 8, 9, 10, 11, 12, 13, 14, 15, 16, 17, 18, 19, 20, 21, 22, 23, 24, 25, 26, 27, 28, 29] rfl rfl (by decide) (by decide) rfl (by decide) (fun H locs hz17 hP hD hS => ?_)
      refine lv_if_ne (tgt := 26) hx hb (dAt zX5_one_0 10 rfl) (by decide) (fun c_20 => ?_) (fun c_20 => ?_)
      · have h := q_neg c_20 h
        refine lv_aload_n hx hb (dAt zX5_one_0 13 rfl) rfl (lv_at hl 0 rfl) ?_
        refine va_get (D := D) (ci := 5) (v := .ref (qT 0)) (C := RX5) (T := TX5) (N := 8) hx hb htl inlX5 hown hK hP 0 rfl rfl 0 (by decide) (htl _ W_15) (fun _ h9 => h9) rfl (dAt zX5_one_0 14 rfl) ?_
        refine lv_iload_n hx hb (dAt zX5_one_0 15 rfl) rfl (lv_at hl 1 rfl) ?_
        refine lv_iload_n hx hb (dAt zX5_one_0 16 rfl) rfl (lv_at hl 2 rfl) ?_
        refine lv_iconst (v := 1) hx hb (dAt zX5_one_0 17 rfl) (by decide) ?_
        refine lv_icmp_ne (tgt := 40) hx hb (dAt zX5_one_0 18 rfl) (by decide) (fun c_33 => ?_) (fun c_33 => ?_)
        · have h := q_neg c_33 h
          refine lv_iconst (v := 0) hx hb (dAt zX5_one_0 21 rfl) (by decide) ?_
          refine lv_iload_n hx hb (dAt zX5_one_0 22 rfl) rfl (lv_at hl 3 rfl) ?_
          refine lv_iconst (v := 1) hx hb (dAt zX5_one_0 23 rfl) (by decide) ?_
          refine lv_icmp_ne (tgt := 50) hx hb (dAt zX5_one_0 24 rfl) (by decide) (fun c_43 => ?_) (fun c_43 => ?_)
          · have h := q_neg c_43 h
            refine lv_iconst (v := 0) hx hb (dAt zX5_one_0 27 rfl) (by decide) ?_
            obtain ⟨u51, hu51, h⟩ := q_bind h
            have hPc : va_P D vwCl (w4 cI qT zT) H := hP.sub [1, 2, 3, 4, 5] rfl
            have hDc : va_D A (w4 cI qT zT) := hD.sub [1, 2, 3, 4, 5] (by decide) rfl
            refine xFv (wc := (w4 cI qT zT)) (w1 := (w4 cI qT u51)) (wr := (w5 qX qT qI qJ qP qC qF qA zX ++ (w4 cI qI zI ++ (w4 cI qJ zJ ++ (w2 cI qP zP ++ (w1 qC qV zC ++ (w4 cI qV zV ++ (w3 cI qF zF ++ (w0 cJ qA zA))))))))) (ws2 := (w5 qX qT qI qJ qP qC qF qA zX ++ (w4 cI qT u51 ++ (w4 cI qI zI ++ (w4 cI qJ zJ ++ (w2 cI qP zP ++ (w1 qC qV zC ++ (w4 cI qV zV ++ (w3 cI qF zF ++ (w0 cJ qA zA)))))))))) (va_runV (As := [.int a1, .int 0, .int 0]) (rest := []) ⟨hx, hb, hml, hown, htl⟩ (c_X4_place l D cI cJ cZ n qT H.size zT a1 0 0 u51 hu51) (cwV 3 htl (gV W_145 W_146 W_147 W_14 W_148) rfl rfl rfl (by decide +kernel) ⟨Nat.le_of_ble_eq_true rfl, Nat.le_of_ble_eq_true rfl⟩) (xPV hPc hDc hK hN 0 rfl rfl) rfl rfl hl.1 rfl (lv_room (Nat.le_of_ble_eq_true rfl)) (dAt zX5_one_0 28 rfl) ⟨Nat.zero_le _, Nat.zero_le _⟩) hS hA hP hD [1, 2, 3, 4, 5] [0, 6, 7, 8, 9, 10, 11, 12, 13, 14, 15, 16, 17, 18, 19, 20, 21, 22, 23, 24, 25, 26, 27, 28, 29] [0, 25, 26, 27, 28, 29, 1, 2, 3, 4, 5, 6, 7, 8, 9, 10, 11, 12, 13, 14, 15, 16, 17, 18, 19, 20, 21, 22, 23, 24] rfl rfl (by decide) (by decide) rfl (by decide) (fun H locs hP hD hS => ?_)
            refine lv_aload_n hx hb (dAt zX5_one_0 29 rfl) rfl (lv_at hl 0 rfl) ?_
            refine va_get (D := D) (ci := 5) (v := .ref (qT 0)) (C := RX5) (T := TX5) (N := 8) hx hb htl inlX5 hown hK hP 0 rfl rfl 0 (by decide) (htl _ W_15) (fun _ h9 => h9) rfl (dAt zX5_one_0 30 rfl) ?_
            refine va_get (D := D) (ci := 4) (v := .int (u51 0 0)) (C := RX4) (T := TX4) (N := 9) hx hb htl inlX4 hown hK hP 1 rfl rfl 0 (by decide) (htl _ W_141) (fun _ h9 => h9) rfl (dAt zX5_one_0 31 rfl) ?_
            obtain ⟨u61, hu61, h⟩ := q_bind h
            refine xFi (wc := ([] : va_W)) (w1 := ([] : va_W)) (wr := (w5 qX qT qI qJ qP qC qF qA zX ++ (w4 cI qT u51 ++ (w4 cI qI zI ++ (w4 cI qJ zJ ++ (w2 cI qP zP ++ (w1 qC qV zC ++ (w4 cI qV zV ++ (w3 cI qF zF ++ (w0 cJ qA zA)))))))))) (ws2 := (w5 qX qT qI qJ qP qC qF qA zX ++ (w4 cI qT u51 ++ (w4 cI qI zI ++ (w4 cI qJ zJ ++ (w2 cI qP zP ++ (w1 qC qV zC ++ (w4 cI qV zV ++ (w3 cI qF zF ++ (w0 cJ qA zA)))))))))) (va_runS (As := [.int (u51 0 0)]) (rest := []) ⟨hx, hb, hml, hown, htl⟩ (c_J6_bitCount_0f7a4 l D cI cJ cZ n  H.size  (u51 0 0) u61 hu61) (va_cwS 1 htl (gS W_149 W_150 W_151 W_152) rfl rfl rfl (by decide +kernel) ⟨Nat.le_of_ble_eq_true rfl, Nat.le_of_ble_eq_true rfl⟩) (xPS xP0 (xD0 A) hK hN) rfl rfl hl.1 rfl (lv_room (Nat.le_of_ble_eq_true rfl)) (dAt zX5_one_0 32 rfl) ⟨Nat.zero_le _, Nat.zero_le _⟩) hS hA hP hD [] [0, 1, 2, 3, 4, 5, 6, 7, 8, 9, 10, 11, 12, 13, 14, 15, 16, 17, 18, 19, 20, 21, 22, 23, 24, 25, 26, 27, 28, 29] [0, 1, 2, 3, 4, 5, 6, 7, 8, 9, 10, 11, 12, 13, 14, 15, 16, 17, 18, 19, 20, 21, 22, 23, 24, 25, 26, 27, 28, 29] rfl rfl (by decide) (by decide) rfl (by decide) (fun H locs hP hD hS => ?_)
            obtain rfl := q_some h
            exact xRi hx hb hr hlocks hQ hAe hP hD hK hS rfl (dAt zX5_one_0 33 rfl)
          · have h := q_pos c_43 h
            refine lv_iconst (v := 1) hx hb (dAt zX5_one_0 25 rfl) (by decide) ?_
            refine lv_goto (tgt := 51) hx hb (dAt zX5_one_0 26 rfl) (by decide) ?_
            obtain ⟨u51, hu51, h⟩ := q_bind h
            have hPc : va_P D vwCl (w4 cI qT zT) H := hP.sub [1, 2, 3, 4, 5] rfl
            have hDc : va_D A (w4 cI qT zT) := hD.sub [1, 2, 3, 4, 5] (by decide) rfl
            refine xFv (wc := (w4 cI qT zT)) (w1 := (w4 cI qT u51)) (wr := (w5 qX qT qI qJ qP qC qF qA zX ++ (w4 cI qI zI ++ (w4 cI qJ zJ ++ (w2 cI qP zP ++ (w1 qC qV zC ++ (w4 cI qV zV ++ (w3 cI qF zF ++ (w0 cJ qA zA))))))))) (ws2 := (w5 qX qT qI qJ qP qC qF qA zX ++ (w4 cI qT u51 ++ (w4 cI qI zI ++ (w4 cI qJ zJ ++ (w2 cI qP zP ++ (w1 qC qV zC ++ (w4 cI qV zV ++ (w3 cI qF zF ++ (w0 cJ qA zA)))))))))) (va_runV (As := [.int a1, .int 0, .int 1]) (rest := []) ⟨hx, hb, hml, hown, htl⟩ (c_X4_place l D cI cJ cZ n qT H.size zT a1 0 1 u51 hu51) (cwV 3 htl (gV W_145 W_146 W_147 W_14 W_148) rfl rfl rfl (by decide +kernel) ⟨Nat.le_of_ble_eq_true rfl, Nat.le_of_ble_eq_true rfl⟩) (xPV hPc hDc hK hN 0 rfl rfl) rfl rfl hl.1 rfl (lv_room (Nat.le_of_ble_eq_true rfl)) (dAt zX5_one_0 28 rfl) ⟨Nat.zero_le _, Nat.zero_le _⟩) hS hA hP hD [1, 2, 3, 4, 5] [0, 6, 7, 8, 9, 10, 11, 12, 13, 14, 15, 16, 17, 18, 19, 20, 21, 22, 23, 24, 25, 26, 27, 28, 29] [0, 25, 26, 27, 28, 29, 1, 2, 3, 4, 5, 6, 7, 8, 9, 10, 11, 12, 13, 14, 15, 16, 17, 18, 19, 20, 21, 22, 23, 24] rfl rfl (by decide) (by decide) rfl (by decide) (fun H locs hP hD hS => ?_)
            refine lv_aload_n hx hb (dAt zX5_one_0 29 rfl) rfl (lv_at hl 0 rfl) ?_
            refine va_get (D := D) (ci := 5) (v := .ref (qT 0)) (C := RX5) (T := TX5) (N := 8) hx hb htl inlX5 hown hK hP 0 rfl rfl 0 (by decide) (htl _ W_15) (fun _ h9 => h9) rfl (dAt zX5_one_0 30 rfl) ?_
            refine va_get (D := D) (ci := 4) (v := .int (u51 0 0)) (C := RX4) (T := TX4) (N := 9) hx hb htl inlX4 hown hK hP 1 rfl rfl 0 (by decide) (htl _ W_141) (fun _ h9 => h9) rfl (dAt zX5_one_0 31 rfl) ?_
            obtain ⟨u61, hu61, h⟩ := q_bind h
            refine xFi (wc := ([] : va_W)) (w1 := ([] : va_W)) (wr := (w5 qX qT qI qJ qP qC qF qA zX ++ (w4 cI qT u51 ++ (w4 cI qI zI ++ (w4 cI qJ zJ ++ (w2 cI qP zP ++ (w1 qC qV zC ++ (w4 cI qV zV ++ (w3 cI qF zF ++ (w0 cJ qA zA)))))))))) (ws2 := (w5 qX qT qI qJ qP qC qF qA zX ++ (w4 cI qT u51 ++ (w4 cI qI zI ++ (w4 cI qJ zJ ++ (w2 cI qP zP ++ (w1 qC qV zC ++ (w4 cI qV zV ++ (w3 cI qF zF ++ (w0 cJ qA zA)))))))))) (va_runS (As := [.int (u51 0 0)]) (rest := []) ⟨hx, hb, hml, hown, htl⟩ (c_J6_bitCount_0f7a4 l D cI cJ cZ n  H.size  (u51 0 0) u61 hu61) (va_cwS 1 htl (gS W_149 W_150 W_151 W_152) rfl rfl rfl (by decide +kernel) ⟨Nat.le_of_ble_eq_true rfl, Nat.le_of_ble_eq_true rfl⟩) (xPS xP0 (xD0 A) hK hN) rfl rfl hl.1 rfl (lv_room (Nat.le_of_ble_eq_true rfl)) (dAt zX5_one_0 32 rfl) ⟨Nat.zero_le _, Nat.zero_le _⟩) hS hA hP hD [] [0, 1, 2, 3, 4, 5, 6, 7, 8, 9, 10, 11, 12, 13, 14, 15, 16, 17, 18, 19, 20, 21, 22, 23, 24, 25, 26, 27, 28, 29] [0, 1, 2, 3, 4, 5, 6, 7, 8, 9, 10, 11, 12, 13, 14, 15, 16, 17, 18, 19, 20, 21, 22, 23, 24, 25, 26, 27, 28, 29] rfl rfl (by decide) (by decide) rfl (by decide) (fun H locs hP hD hS => ?_)
            obtain rfl := q_some h
            exact xRi hx hb hr hlocks hQ hAe hP hD hK hS rfl (dAt zX5_one_0 33 rfl)
        · have h := q_pos c_33 h
          refine lv_iconst (v := 1) hx hb (dAt zX5_one_0 19 rfl) (by decide) ?_
          refine lv_goto (tgt := 41) hx hb (dAt zX5_one_0 20 rfl) (by decide) ?_
          refine lv_iload_n hx hb (dAt zX5_one_0 22 rfl) rfl (lv_at hl 3 rfl) ?_
          refine lv_iconst (v := 1) hx hb (dAt zX5_one_0 23 rfl) (by decide) ?_
          refine lv_icmp_ne (tgt := 50) hx hb (dAt zX5_one_0 24 rfl) (by decide) (fun c_43 => ?_) (fun c_43 => ?_)
          · have h := q_neg c_43 h
            refine lv_iconst (v := 0) hx hb (dAt zX5_one_0 27 rfl) (by decide) ?_
            obtain ⟨u51, hu51, h⟩ := q_bind h
            have hPc : va_P D vwCl (w4 cI qT zT) H := hP.sub [1, 2, 3, 4, 5] rfl
            have hDc : va_D A (w4 cI qT zT) := hD.sub [1, 2, 3, 4, 5] (by decide) rfl
            refine xFv (wc := (w4 cI qT zT)) (w1 := (w4 cI qT u51)) (wr := (w5 qX qT qI qJ qP qC qF qA zX ++ (w4 cI qI zI ++ (w4 cI qJ zJ ++ (w2 cI qP zP ++ (w1 qC qV zC ++ (w4 cI qV zV ++ (w3 cI qF zF ++ (w0 cJ qA zA))))))))) (ws2 := (w5 qX qT qI qJ qP qC qF qA zX ++ (w4 cI qT u51 ++ (w4 cI qI zI ++ (w4 cI qJ zJ ++ (w2 cI qP zP ++ (w1 qC qV zC ++ (w4 cI qV zV ++ (w3 cI qF zF ++ (w0 cJ qA zA)))))))))) (va_runV (As := [.int a1, .int 1, .int 0]) (rest := []) ⟨hx, hb, hml, hown, htl⟩ (c_X4_place l D cI cJ cZ n qT H.size zT a1 1 0 u51 hu51) (cwV 3 htl (gV W_145 W_146 W_147 W_14 W_148) rfl rfl rfl (by decide +kernel) ⟨Nat.le_of_ble_eq_true rfl, Nat.le_of_ble_eq_true rfl⟩) (xPV hPc hDc hK hN 0 rfl rfl) rfl rfl hl.1 rfl (lv_room (Nat.le_of_ble_eq_true rfl)) (dAt zX5_one_0 28 rfl) ⟨Nat.zero_le _, Nat.zero_le _⟩) hS hA hP hD [1, 2, 3, 4, 5] [0, 6, 7, 8, 9, 10, 11, 12, 13, 14, 15, 16, 17, 18, 19, 20, 21, 22, 23, 24, 25, 26, 27, 28, 29] [0, 25, 26, 27, 28, 29, 1, 2, 3, 4, 5, 6, 7, 8, 9, 10, 11, 12, 13, 14, 15, 16, 17, 18, 19, 20, 21, 22, 23, 24] rfl rfl (by decide) (by decide) rfl (by decide) (fun H locs hP hD hS => ?_)
            refine lv_aload_n hx hb (dAt zX5_one_0 29 rfl) rfl (lv_at hl 0 rfl) ?_
            refine va_get (D := D) (ci := 5) (v := .ref (qT 0)) (C := RX5) (T := TX5) (N := 8) hx hb htl inlX5 hown hK hP 0 rfl rfl 0 (by decide) (htl _ W_15) (fun _ h9 => h9) rfl (dAt zX5_one_0 30 rfl) ?_
            refine va_get (D := D) (ci := 4) (v := .int (u51 0 0)) (C := RX4) (T := TX4) (N := 9) hx hb htl inlX4 hown hK hP 1 rfl rfl 0 (by decide) (htl _ W_141) (fun _ h9 => h9) rfl (dAt zX5_one_0 31 rfl) ?_
            obtain ⟨u61, hu61, h⟩ := q_bind h
            refine xFi (wc := ([] : va_W)) (w1 := ([] : va_W)) (wr := (w5 qX qT qI qJ qP qC qF qA zX ++ (w4 cI qT u51 ++ (w4 cI qI zI ++ (w4 cI qJ zJ ++ (w2 cI qP zP ++ (w1 qC qV zC ++ (w4 cI qV zV ++ (w3 cI qF zF ++ (w0 cJ qA zA)))))))))) (ws2 := (w5 qX qT qI qJ qP qC qF qA zX ++ (w4 cI qT u51 ++ (w4 cI qI zI ++ (w4 cI qJ zJ ++ (w2 cI qP zP ++ (w1 qC qV zC ++ (w4 cI qV zV ++ (w3 cI qF zF ++ (w0 cJ qA zA)))))))))) (va_runS (As := [.int (u51 0 0)]) (rest := []) ⟨hx, hb, hml, hown, htl⟩ (c_J6_bitCount_0f7a4 l D cI cJ cZ n  H.size  (u51 0 0) u61 hu61) (va_cwS 1 htl (gS W_149 W_150 W_151 W_152) rfl rfl rfl (by decide +kernel) ⟨Nat.le_of_ble_eq_true rfl, Nat.le_of_ble_eq_true rfl⟩) (xPS xP0 (xD0 A) hK hN) rfl rfl hl.1 rfl (lv_room (Nat.le_of_ble_eq_true rfl)) (dAt zX5_one_0 32 rfl) ⟨Nat.zero_le _, Nat.zero_le _⟩) hS hA hP hD [] [0, 1, 2, 3, 4, 5, 6, 7, 8, 9, 10, 11, 12, 13, 14, 15, 16, 17, 18, 19, 20, 21, 22, 23, 24, 25, 26, 27, 28, 29] [0, 1, 2, 3, 4, 5, 6, 7, 8, 9, 10, 11, 12, 13, 14, 15, 16, 17, 18, 19, 20, 21, 22, 23, 24, 25, 26, 27, 28, 29] rfl rfl (by decide) (by decide) rfl (by decide) (fun H locs hP hD hS => ?_)
            obtain rfl := q_some h
            exact xRi hx hb hr hlocks hQ hAe hP hD hK hS rfl (dAt zX5_one_0 33 rfl)
          · have h := q_pos c_43 h
            refine lv_iconst (v := 1) hx hb (dAt zX5_one_0 25 rfl) (by decide) ?_
            refine lv_goto (tgt := 51) hx hb (dAt zX5_one_0 26 rfl) (by decide) ?_
            obtain ⟨u51, hu51, h⟩ := q_bind h
            have hPc : va_P D vwCl (w4 cI qT zT) H := hP.sub [1, 2, 3, 4, 5] rfl
            have hDc : va_D A (w4 cI qT zT) := hD.sub [1, 2, 3, 4, 5] (by decide) rfl
            refine xFv (wc := (w4 cI qT zT)) (w1 := (w4 cI qT u51)) (wr := (w5 qX qT qI qJ qP qC qF qA zX ++ (w4 cI qI zI ++ (w4 cI qJ zJ ++ (w2 cI qP zP ++ (w1 qC qV zC ++ (w4 cI qV zV ++ (w3 cI qF zF ++ (w0 cJ qA zA))))))))) (ws2 := (w5 qX qT qI qJ qP qC qF qA zX ++ (w4 cI qT u51 ++ (w4 cI qI zI ++ (w4 cI qJ zJ ++ (w2 cI qP zP ++ (w1 qC qV zC ++ (w4 cI qV zV ++ (w3 cI qF zF ++ (w0 cJ qA zA)))))))))) (va_runV (As := [.int a1, .int 1, .int 1]) (rest := []) ⟨hx, hb, hml, hown, htl⟩ (c_X4_place l D cI cJ cZ n qT H.size zT a1 1 1 u51 hu51) (cwV 3 htl (gV W_145 W_146 W_147 W_14 W_148) rfl rfl rfl (by decide +kernel) ⟨Nat.le_of_ble_eq_true rfl, Nat.le_of_ble_eq_true rfl⟩) (xPV hPc hDc hK hN 0 rfl rfl) rfl rfl hl.1 rfl (lv_room (Nat.le_of_ble_eq_true rfl)) (dAt zX5_one_0 28 rfl) ⟨Nat.zero_le _, Nat.zero_le _⟩) hS hA hP hD [1, 2, 3, 4, 5] [0, 6, 7, 8, 9, 10, 11, 12, 13, 14, 15, 16, 17, 18, 19, 20, 21, 22, 23, 24, 25, 26, 27, 28, 29] [0, 25, 26, 27, 28, 29, 1, 2, 3, 4, 5, 6, 7, 8, 9, 10, 11, 12, 13, 14, 15, 16, 17, 18, 19, 20, 21, 22, 23, 24] rfl rfl (by decide) (by decide) rfl (by decide) (fun H locs hP hD hS => ?_)
            refine lv_aload_n hx hb (dAt zX5_one_0 29 rfl) rfl (lv_at hl 0 rfl) ?_
            refine va_get (D := D) (ci := 5) (v := .ref (qT 0)) (C := RX5) (T := TX5) (N := 8) hx hb htl inlX5 hown hK hP 0 rfl rfl 0 (by decide) (htl _ W_15) (fun _ h9 => h9) rfl (dAt zX5_one_0 30 rfl) ?_
            refine va_get (D := D) (ci := 4) (v := .int (u51 0 0)) (C := RX4) (T := TX4) (N := 9) hx hb htl inlX4 hown hK hP 1 rfl rfl 0 (by decide) (htl _ W_141) (fun _ h9 => h9) rfl (dAt zX5_one_0 31 rfl) ?_
            obtain ⟨u61, hu61, h⟩ := q_bind h
            refine xFi (wc := ([] : va_W)) (w1 := ([] : va_W)) (wr := (w5 qX qT qI qJ qP qC qF qA zX ++ (w4 cI qT u51 ++ (w4 cI qI zI ++ (w4 cI qJ zJ ++ (w2 cI qP zP ++ (w1 qC qV zC ++ (w4 cI qV zV ++ (w3 cI qF zF ++ (w0 cJ qA zA)))))))))) (ws2 := (w5 qX qT qI qJ qP qC qF qA zX ++ (w4 cI qT u51 ++ (w4 cI qI zI ++ (w4 cI qJ zJ ++ (w2 cI qP zP ++ (w1 qC qV zC ++ (w4 cI qV zV ++ (w3 cI qF zF ++ (w0 cJ qA zA)))))))))) (va_runS (As := [.int (u51 0 0)]) (rest := []) ⟨hx, hb, hml, hown, htl⟩ (c_J6_bitCount_0f7a4 l D cI cJ cZ n  H.size  (u51 0 0) u61 hu61) (va_cwS 1 htl (gS W_149 W_150 W_151 W_152) rfl rfl rfl (by decide +kernel) ⟨Nat.le_of_ble_eq_true rfl, Nat.le_of_ble_eq_true rfl⟩) (xPS xP0 (xD0 A) hK hN) rfl rfl hl.1 rfl (lv_room (Nat.le_of_ble_eq_true rfl)) (dAt zX5_one_0 32 rfl) ⟨Nat.zero_le _, Nat.zero_le _⟩) hS hA hP hD [] [0, 1, 2, 3, 4, 5, 6, 7, 8, 9, 10, 11, 12, 13, 14, 15, 16, 17, 18, 19, 20, 21, 22, 23, 24, 25, 26, 27, 28, 29] [0, 1, 2, 3, 4, 5, 6, 7, 8, 9, 10, 11, 12, 13, 14, 15, 16, 17, 18, 19, 20, 21, 22, 23, 24, 25, 26, 27, 28, 29] rfl rfl (by decide) (by decide) rfl (by decide) (fun H locs hP hD hS => ?_)
            obtain rfl := q_some h
            exact xRi hx hb hr hlocks hQ hAe hP hD hK hS rfl (dAt zX5_one_0 33 rfl)
      · have h := q_pos c_20 h
        refine lv_bipush (v := (-2)) hx hb (dAt zX5_one_0 11 rfl) (by decide) ?_
        obtain rfl := q_some h
        exact xRi hx hb hr hlocks hQ hAe hP hD hK hS rfl (dAt zX5_one_0 12 rfl)
  · have h := q_pos c_4 h
    refine lv_iconst (v := (-1)) hx hb (dAt zX5_one_0 3 rfl) (by decide) ?_
    obtain rfl := q_some h
    exact xRi hx hb hr hlocks hQ hAe hP hD hK hS rfl (dAt zX5_one_0 4 rfl)
def m_X5_isLawful (n : Nat) (a1 : Int32) (a2 : Int32) : Option Int32 := (if a1 = 0 then ((m_X5_isWithin n  a2 1 9).bind fun u13 => gd (isZ u13) (some u13)) else (if a1 = 1 then ((m_X5_isWithin n  a2 1 9).bind fun u13 => gd (isZ u13) (some u13)) else ((m_X5_isFlag n  a2).bind fun u20 => gd (isZ u20) (some u20))))
set_option maxHeartbeats 4000000 in
set_option maxRecDepth 100000 in
theorem c_X5_isLawful (l : Launch) (D : va_G) (cI cJ cZ : ClassId) (n : Nat)  (sz : Nat) (a1 : Int32) (a2 : Int32) (out : Int32) (hm : m_X5_isLawful n a1 a2 = some out) : Met l yX5_isLawful (wsM yX5_isLawful cX5_isLawful 2 (some .boolean)) { frames := 1, cells := 0, slots := 0, locals := 22 } (xPre D (kT cI cJ cZ) ([] : va_W) sz [.int a1, .int a2]) (xQz D (kT cI cJ cZ) ([] : va_W) ([] : va_W) sz out) 0 0 (va_A ([] : va_W) sz) := by
  refine Met.ofW (cc := cX5_isLawful) (maxL := 2) (ret := (some .boolean)) (by decide) rfl ?_
  intro p e s m args below meth c s₁ B hml hv
  obtain ⟨hv, hsz, hP, hK, hD0, hN⟩ := hv
  have hx := B.exec; have hb := B.bytes; have hr := B.returns
  have hts := atoms_spec (ws := (wsM yX5_isLawful cX5_isLawful 2 (some .boolean))) B.pre
  have hown : s.vm.findClass RX5 = some m.cls := findClass_of_methodNamed B.named
  have hlocks := B.notSynchronized
  subst hsz
  have hD := hD0.self (sz := s.heap.size)
  obtain ⟨A, hAe⟩ : ∃ A, A = va_A ([] : va_W) s.heap.size := ⟨_, rfl⟩
  rw [← hAe] at hD
  have hA : ∀ q : Nat, s.heap.size ≤ q → A q := fun q h => by rw [hAe]; exact Or.inr h
  have htl : ∀ w ∈ wsL_law, w.before args s = true := fun w h => hts w (List.mem_cons_of_mem _ h)
  refine xHead (R' := { frames := 1, cells := 0, slots := 0, locals := 22 }) rfl (fun Q H hQ hH => ?_)
  have hP : va_P D vwCl ([] : va_W) H := by rw [hH]; exact hP
  have hS : va_S A s.heap H [] := by rw [hH]; exact va_S.rf
  refine xStart hv (Nat.le_of_ble_eq_true rfl) (lv := [(0, .int a1), (1, .int a2)]) rfl (fun ls hl => ?_)
  have h := hm
  unfold m_X5_isLawful at h
  refine lv_iload_n hx hb (dAt zX5_isLawful_0 0 rfl) rfl (lv_at hl 0 rfl) ?_
  refine lv_if_eq (tgt := 9) hx hb (dAt zX5_isLawful_0 1 rfl) (by decide) (fun c_1 => ?_) (fun c_1 => ?_)
  · have h := q_pos c_1 h
    refine lv_iload_n hx hb (dAt zX5_isLawful_0 5 rfl) rfl (lv_at hl 1 rfl) ?_
    refine lv_iconst (v := 1) hx hb (dAt zX5_isLawful_0 6 rfl) (by decide) ?_
    refine lv_bipush (v := 9) hx hb (dAt zX5_isLawful_0 7 rfl) (by decide) ?_
    obtain ⟨u13, hu13, h⟩ := q_bind h
    refine xFz (wc := ([] : va_W)) (w1 := ([] : va_W)) (wr := ([] : va_W)) (ws2 := ([] : va_W)) (va_runS (As := [.int a2, .int 1, .int 9]) (rest := []) ⟨hx, hb, hml, hown, htl⟩ (c_X5_isWithin l D cI cJ cZ n  H.size  a2 1 9 u13 hu13) (va_cwS 3 htl (gS W_110 W_111 W_2 W_112) rfl rfl rfl (by decide +kernel) ⟨Nat.le_of_ble_eq_true rfl, Nat.le_of_ble_eq_true rfl⟩) (xPS hP hD hK hN) rfl rfl hl.1 rfl (lv_room (Nat.le_of_ble_eq_true rfl)) (dAt zX5_isLawful_0 8 rfl) ⟨Nat.zero_le _, Nat.zero_le _⟩) hS hA hP hD [] [] [] rfl rfl (by decide) (by decide) rfl (by decide) (fun H locs hz13 hP hD hS => ?_)
    refine lv_goto (tgt := 23) hx hb (dAt zX5_isLawful_0 9 rfl) (by decide) ?_
    obtain ⟨hzz, h⟩ := q_z h
    obtain rfl := q_some h
    exact xRz hx hb hr hlocks hQ hAe hP hD hK hS rfl hzz (dAt zX5_isLawful_0 12 rfl)
  · have h := q_neg c_1 h
    refine lv_iload_n hx hb (dAt zX5_isLawful_0 2 rfl) rfl (lv_at hl 0 rfl) ?_
    refine lv_iconst (v := 1) hx hb (dAt zX5_isLawful_0 3 rfl) (by decide) ?_
    refine lv_icmp_ne (tgt := 19) hx hb (dAt zX5_isLawful_0 4 rfl) (by decide) (fun c_6 => ?_) (fun c_6 => ?_)
    · have h := q_neg c_6 h
      refine lv_iload_n hx hb (dAt zX5_isLawful_0 10 rfl) rfl (lv_at hl 1 rfl) ?_
      obtain ⟨u20, hu20, h⟩ := q_bind h
      refine xFz (wc := ([] : va_W)) (w1 := ([] : va_W)) (wr := ([] : va_W)) (ws2 := ([] : va_W)) (va_runS (As := [.int a2]) (rest := []) ⟨hx, hb, hml, hown, htl⟩ (c_X5_isFlag l D cI cJ cZ n  H.size  a2 u20 hu20) (va_cwS 1 htl (gS W_142 W_143 W_2 W_144) rfl rfl rfl (by decide +kernel) ⟨Nat.le_of_ble_eq_true rfl, Nat.le_of_ble_eq_true rfl⟩) (xPS hP hD hK hN) rfl rfl hl.1 rfl (lv_room (Nat.le_of_ble_eq_true rfl)) (dAt zX5_isLawful_0 11 rfl) ⟨Nat.zero_le _, Nat.zero_le _⟩) hS hA hP hD [] [] [] rfl rfl (by decide) (by decide) rfl (by decide) (fun H locs hz20 hP hD hS => ?_)
      obtain ⟨hzz, h⟩ := q_z h
      obtain rfl := q_some h
      exact xRz hx hb hr hlocks hQ hAe hP hD hK hS rfl hzz (dAt zX5_isLawful_0 12 rfl)
    · have h := q_pos c_6 h
      refine lv_iload_n hx hb (dAt zX5_isLawful_0 5 rfl) rfl (lv_at hl 1 rfl) ?_
      refine lv_iconst (v := 1) hx hb (dAt zX5_isLawful_0 6 rfl) (by decide) ?_
      refine lv_bipush (v := 9) hx hb (dAt zX5_isLawful_0 7 rfl) (by decide) ?_
      obtain ⟨u13, hu13, h⟩ := q_bind h
      refine xFz (wc := ([] : va_W)) (w1 := ([] : va_W)) (wr := ([] : va_W)) (ws2 := ([] : va_W)) (va_runS (As := [.int a2, .int 1, .int 9]) (rest := []) ⟨hx, hb, hml, hown, htl⟩ (c_X5_isWithin l D cI cJ cZ n  H.size  a2 1 9 u13 hu13) (va_cwS 3 htl (gS W_110 W_111 W_2 W_112) rfl rfl rfl (by decide +kernel) ⟨Nat.le_of_ble_eq_true rfl, Nat.le_of_ble_eq_true rfl⟩) (xPS hP hD hK hN) rfl rfl hl.1 rfl (lv_room (Nat.le_of_ble_eq_true rfl)) (dAt zX5_isLawful_0 8 rfl) ⟨Nat.zero_le _, Nat.zero_le _⟩) hS hA hP hD [] [] [] rfl rfl (by decide) (by decide) rfl (by decide) (fun H locs hz13 hP hD hS => ?_)
      refine lv_goto (tgt := 23) hx hb (dAt zX5_isLawful_0 9 rfl) (by decide) ?_
      obtain ⟨hzz, h⟩ := q_z h
      obtain rfl := q_some h
      exact xRz hx hb hr hlocks hQ hAe hP hD hK hS rfl hzz (dAt zX5_isLawful_0 12 rfl)
def m_X4_rule (n : Nat) (zT : TI) (a1 : Int32) : Option Int32 := (if a1 < 0 then some 0 else (if 4 ≤ a1 then some 0 else (gd (inB a1 4) (some ((zT 8) (Int32.toNatClampNeg a1))))))
set_option maxHeartbeats 4000000 in
set_option maxRecDepth 100000 in
theorem c_X4_rule (l : Launch) (D : va_G) (cI cJ cZ : ClassId) (n : Nat) (qT : Nat → Nat) (sz : Nat) (zT : TI) (a1 : Int32) (out : Int32) (hm : m_X4_rule n zT a1 = some out) : Met l yX4_rule (wsM yX4_rule cX4_rule 2 (some .int)) { frames := 0, cells := 0, slots := 0, locals := 0 } (xPre D (kT cI cJ cZ) (w4 cI qT zT) sz [.ref (qT 0), .int a1]) (xQi D (kT cI cJ cZ) (w4 cI qT zT) (w4 cI qT zT) sz out) 0 0 (va_A (w4 cI qT zT) sz) := by
  refine Met.ofW (cc := cX4_rule) (maxL := 2) (ret := (some .int)) (by decide) rfl ?_
  intro p e s m args below meth c s₁ B hml hv
  obtain ⟨hv, hsz, hP, hK, hD0, hN⟩ := hv
  have hx := B.exec; have hb := B.bytes; have hr := B.returns
  have hts := atoms_spec (ws := (wsM yX4_rule cX4_rule 2 (some .int))) B.pre
  have hown : s.vm.findClass RX4 = some m.cls := findClass_of_methodNamed B.named
  have hlocks := B.notSynchronized
  subst hsz
  have hD := hD0.self (sz := s.heap.size)
  obtain ⟨A, hAe⟩ : ∃ A, A = va_A (w4 cI qT zT) s.heap.size := ⟨_, rfl⟩
  rw [← hAe] at hD
  have hA : ∀ q : Nat, s.heap.size ≤ q → A q := fun q h => by rw [hAe]; exact Or.inr h
  have htl : ∀ w ∈ wsL_law, w.before args s = true := fun w h => hts w (List.mem_cons_of_mem _ h)
  refine xHead (R' := { frames := 0, cells := 0, slots := 0, locals := 0 }) rfl (fun Q H hQ hH => ?_)
  have hP : va_P D vwCl (w4 cI qT zT) H := by rw [hH]; exact hP
  have hS : va_S A s.heap H [] := by rw [hH]; exact va_S.rf
  refine xStart hv (Nat.le_of_ble_eq_true rfl) (lv := [(0, .ref (qT 0)), (1, .int a1)]) rfl (fun ls hl => ?_)
  have h := hm
  unfold m_X4_rule at h
  refine lv_iload_n hx hb (dAt zX4_rule_0 0 rfl) rfl (lv_at hl 1 rfl) ?_
  refine lv_if_lt (tgt := 22) hx hb (dAt zX4_rule_0 1 rfl) (by decide) (fun c_1 => ?_) (fun c_1 => ?_)
  · have h := q_pos c_1 h
    refine lv_iconst (v := 0) hx hb (dAt zX4_rule_0 12 rfl) (by decide) ?_
    obtain rfl := q_some h
    exact xRi hx hb hr hlocks hQ hAe hP hD hK hS rfl (dAt zX4_rule_0 13 rfl)
  · have h := q_neg c_1 h
    refine lv_iload_n hx hb (dAt zX4_rule_0 2 rfl) rfl (lv_at hl 1 rfl) ?_
    refine lv_aload_n hx hb (dAt zX4_rule_0 3 rfl) rfl (lv_at hl 0 rfl) ?_
    refine va_get (D := D) (ci := 4) (v := .ref (qT 8)) (C := RX4) (T := TX4) (N := 9) hx hb htl inlX4 hown hK hP 0 rfl rfl 7 (by decide) (htl _ W_47) (fun _ h9 => h9) rfl (dAt zX4_rule_0 4 rfl) ?_
    refine va_alen (ty := .int) (v := 4) hx hb hK hP 3 0 rfl rfl rfl (dAt zX4_rule_0 5 rfl) ?_
    refine lv_icmp_ge (tgt := 22) hx hb (dAt zX4_rule_0 6 rfl) (by decide) (fun c_10 => ?_) (fun c_10 => ?_)
    · have h := q_pos c_10 h
      refine lv_iconst (v := 0) hx hb (dAt zX4_rule_0 12 rfl) (by decide) ?_
      obtain rfl := q_some h
      exact xRi hx hb hr hlocks hQ hAe hP hD hK hS rfl (dAt zX4_rule_0 13 rfl)
    · have h := q_neg c_10 h
      refine lv_aload_n hx hb (dAt zX4_rule_0 7 rfl) rfl (lv_at hl 0 rfl) ?_
      refine va_get (D := D) (ci := 4) (v := .ref (qT 8)) (C := RX4) (T := TX4) (N := 9) hx hb htl inlX4 hown hK hP 0 rfl rfl 7 (by decide) (htl _ W_47) (fun _ h9 => h9) rfl (dAt zX4_rule_0 8 rfl) ?_
      refine lv_iload_n hx hb (dAt zX4_rule_0 9 rfl) rfl (lv_at hl 1 rfl) ?_
      obtain ⟨hi_18, h⟩ := q_in h
      refine va_iald hx hb hK hP 3 0 rfl rfl hi_18 (dAt zX4_rule_0 10 rfl) ?_
      refine lv_goto (tgt := 23) hx hb (dAt zX4_rule_0 11 rfl) (by decide) ?_
      obtain rfl := q_some h
      exact xRi hx hb hr hlocks hQ hAe hP hD hK hS rfl (dAt zX4_rule_0 13 rfl)
def m_X4_setRule (n : Nat) (zT : TI) (a1 : Int32) (a2 : Int32) : Option TI := (if a1 < 0 then some zT else (if 4 ≤ a1 then some zT else (gd (inB a1 4) (some (upA zT 8 (upd (zT 8) (Int32.toNatClampNeg a1) a2))))))
set_option maxHeartbeats 4000000 in
set_option maxRecDepth 100000 in
theorem c_X4_setRule (l : Launch) (D : va_G) (cI cJ cZ : ClassId) (n : Nat) (qT : Nat → Nat) (sz : Nat) (zT : TI) (a1 : Int32) (a2 : Int32) (out : TI) (hm : m_X4_setRule n zT a1 a2 = some out) : Met l yX4_setRule (wsM yX4_setRule cX4_setRule 3 none) { frames := 0, cells := 0, slots := 0, locals := 0 } (xPre D (kT cI cJ cZ) (w4 cI qT zT) sz [.ref (qT 0), .int a1, .int a2]) (xQv D (kT cI cJ cZ) (w4 cI qT zT) (w4 cI qT out) sz) 0 0 (va_A (w4 cI qT zT) sz) := by
  refine Met.ofW (cc := cX4_setRule) (maxL := 3) (ret := none) (by decide) rfl ?_
  intro p e s m args below meth c s₁ B hml hv
  obtain ⟨hv, hsz, hP, hK, hD0, hN⟩ := hv
  have hx := B.exec; have hb := B.bytes; have hr := B.returns
  have hts := atoms_spec (ws := (wsM yX4_setRule cX4_setRule 3 none)) B.pre
  have hown : s.vm.findClass RX4 = some m.cls := findClass_of_methodNamed B.named
  have hlocks := B.notSynchronized
  subst hsz
  have hD := hD0.self (sz := s.heap.size)
  obtain ⟨A, hAe⟩ : ∃ A, A = va_A (w4 cI qT zT) s.heap.size := ⟨_, rfl⟩
  rw [← hAe] at hD
  have hA : ∀ q : Nat, s.heap.size ≤ q → A q := fun q h => by rw [hAe]; exact Or.inr h
  have htl : ∀ w ∈ wsL_law, w.before args s = true := fun w h => hts w (List.mem_cons_of_mem _ h)
  refine xHead (R' := { frames := 0, cells := 0, slots := 0, locals := 0 }) rfl (fun Q H hQ hH => ?_)
  have hP : va_P D vwCl (w4 cI qT zT) H := by rw [hH]; exact hP
  have hS : va_S A s.heap H [] := by rw [hH]; exact va_S.rf
  refine xStart hv (Nat.le_of_ble_eq_true rfl) (lv := [(0, .ref (qT 0)), (1, .int a1), (2, .int a2)]) rfl (fun ls hl => ?_)
  have h := hm
  unfold m_X4_setRule at h
  refine lv_iload_n hx hb (dAt zX4_setRule_0 0 rfl) rfl (lv_at hl 1 rfl) ?_
  refine lv_if_lt (tgt := 20) hx hb (dAt zX4_setRule_0 1 rfl) (by decide) (fun c_1 => ?_) (fun c_1 => ?_)
  · have h := q_pos c_1 h
    obtain rfl := q_some h
    exact xRv hx hb hr hlocks hQ hAe hP hD hK hS (dAt zX4_setRule_0 12 rfl)
  · have h := q_neg c_1 h
    refine lv_iload_n hx hb (dAt zX4_setRule_0 2 rfl) rfl (lv_at hl 1 rfl) ?_
    refine lv_aload_n hx hb (dAt zX4_setRule_0 3 rfl) rfl (lv_at hl 0 rfl) ?_
    refine va_get (D := D) (ci := 4) (v := .ref (qT 8)) (C := RX4) (T := TX4) (N := 9) hx hb htl inlX4 hown hK hP 0 rfl rfl 7 (by decide) (htl _ W_47) (fun _ h9 => h9) rfl (dAt zX4_setRule_0 4 rfl) ?_
    refine va_alen (ty := .int) (v := 4) hx hb hK hP 3 0 rfl rfl rfl (dAt zX4_setRule_0 5 rfl) ?_
    refine lv_icmp_ge (tgt := 20) hx hb (dAt zX4_setRule_0 6 rfl) (by decide) (fun c_10 => ?_) (fun c_10 => ?_)
    · have h := q_pos c_10 h
      obtain rfl := q_some h
      exact xRv hx hb hr hlocks hQ hAe hP hD hK hS (dAt zX4_setRule_0 12 rfl)
    · have h := q_neg c_10 h
      refine lv_aload_n hx hb (dAt zX4_setRule_0 7 rfl) rfl (lv_at hl 0 rfl) ?_
      refine va_get (D := D) (ci := 4) (v := .ref (qT 8)) (C := RX4) (T := TX4) (N := 9) hx hb htl inlX4 hown hK hP 0 rfl rfl 7 (by decide) (htl _ W_47) (fun _ h9 => h9) rfl (dAt zX4_setRule_0 8 rfl) ?_
      refine lv_iload_n hx hb (dAt zX4_setRule_0 9 rfl) rfl (lv_at hl 1 rfl) ?_
      refine lv_iload_n hx hb (dAt zX4_setRule_0 10 rfl) rfl (lv_at hl 2 rfl) ?_
      obtain ⟨hi_19, h⟩ := q_in h
      refine va_iast hx hb hK hP hD hS 3 0 rfl rfl hi_19 (dAt zX4_setRule_0 11 rfl) (fun H locs hP hD hS => ?_)
      have hP : va_P D vwCl (w4x cI qT (zT 0 0) (zT 0 1) (zT 0 2) (zT 0 3) (zT 0 4) (zT 6) (zT 7) (upd (zT 8) (Int32.toNatClampNeg a1) a2) (zT 9)) H := hP
      have hD : va_D A (w4x cI qT (zT 0 0) (zT 0 1) (zT 0 2) (zT 0 3) (zT 0 4) (zT 6) (zT 7) (upd (zT 8) (Int32.toNatClampNeg a1) a2) (zT 9)) := hD
      have hP : va_P D vwCl (w4 cI qT (upA zT 8 (upd (zT 8) (Int32.toNatClampNeg a1) a2))) H := hP
      have hD : va_D A (w4 cI qT (upA zT 8 (upd (zT 8) (Int32.toNatClampNeg a1) a2))) := hD
      obtain rfl := q_some h
      exact xRv hx hb hr hlocks hQ hAe hP hD hK hS (dAt zX4_setRule_0 12 rfl)
def m_X5_law (n : Nat) (zX : TI) (zT : TI) (zI : TI) (zJ : TI) (zP : TI) (zC : TI) (zV : TI) (zF : TI) (zA : TL) (a1 : Int32) (a2 : Int32) : Option (Int32 × TI) := ((m_X5_isWithin n  a1 0 3).bind fun u3 => (if u3 = 0 then some ((-2), zT) else ((m_X5_isLawful n  a1 a2).bind fun u11 => (if u11 = 0 then some ((-2), zT) else ((m_X4_rule n zT a1).bind fun u25 => ((m_X4_setRule n zT a1 a2).bind fun u35 => some (u25, u35)))))))
set_option maxHeartbeats 4000000 in
set_option maxRecDepth 100000 in
theorem c_X5_law (l : Launch) (D : va_G) (cI cJ cZ : ClassId) (n : Nat) (qX : Nat → Nat) (qT : Nat → Nat) (qI : Nat → Nat) (qJ : Nat → Nat) (qP : Nat → Nat) (qC : Nat → Nat) (qV : Nat → Nat) (qF : Nat → Nat) (qA : Nat → Nat) (sz : Nat) (zX : TI) (zT : TI) (zI : TI) (zJ : TI) (zP : TI) (zC : TI) (zV : TI) (zF : TI) (zA : TL) (a1 : Int32) (a2 : Int32) (out : Int32 × TI) (hm : m_X5_law n zX zT zI zJ zP zC zV zF zA a1 a2 = some out) : Met l yX5_law (wsM yX5_law cX5_law 4 (some .int)) { frames := 2, cells := 0, slots := 0, locals := 43 } (xPre D (kT cI cJ cZ) (w5 qX qT qI qJ qP qC qF qA zX ++ (w4 cI qT zT ++ (w4 cI qI zI ++ (w4 cI qJ zJ ++ (w2 cI qP zP ++ (w1 qC qV zC ++ (w4 cI qV zV ++ (w3 cI qF zF ++ (w0 cJ qA zA))))))))) sz [.ref (qX 0), .int a1, .int a2]) (xQi D (kT cI cJ cZ) (w5 qX qT qI qJ qP qC qF qA zX ++ (w4 cI qT zT ++ (w4 cI qI zI ++ (w4 cI qJ zJ ++ (w2 cI qP zP ++ (w1 qC qV zC ++ (w4 cI qV zV ++ (w3 cI qF zF ++ (w0 cJ qA zA))))))))) (w5 qX qT qI qJ qP qC qF qA zX ++ (w4 cI qT out.2 ++ (w4 cI qI zI ++ (w4 cI qJ zJ ++ (w2 cI qP zP ++ (w1 qC qV zC ++ (w4 cI qV zV ++ (w3 cI qF zF ++ (w0 cJ qA zA))))))))) sz out.1) 0 0 (va_A (w5 qX qT qI qJ qP qC qF qA zX ++ (w4 cI qT zT ++ (w4 cI qI zI ++ (w4 cI qJ zJ ++ (w2 cI qP zP ++ (w1 qC qV zC ++ (w4 cI qV zV ++ (w3 cI qF zF ++ (w0 cJ qA zA))))))))) sz) := by
  refine Met.ofW (cc := cX5_law) (maxL := 4) (ret := (some .int)) (by decide) rfl ?_
  intro p e s m args below meth c s₁ B hml hv
  obtain ⟨hv, hsz, hP, hK, hD0, hN⟩ := hv
  have hx := B.exec; have hb := B.bytes; have hr := B.returns
  have hts := atoms_spec (ws := (wsM yX5_law cX5_law 4 (some .int))) B.pre
  have hown : s.vm.findClass RX5 = some m.cls := findClass_of_methodNamed B.named
  have hlocks := B.notSynchronized
  subst hsz
  have hD := hD0.self (sz := s.heap.size)
  obtain ⟨A, hAe⟩ : ∃ A, A = va_A (w5 qX qT qI qJ qP qC qF qA zX ++ (w4 cI qT zT ++ (w4 cI qI zI ++ (w4 cI qJ zJ ++ (w2 cI qP zP ++ (w1 qC qV zC ++ (w4 cI qV zV ++ (w3 cI qF zF ++ (w0 cJ qA zA))))))))) s.heap.size := ⟨_, rfl⟩
  rw [← hAe] at hD
  have hA : ∀ q : Nat, s.heap.size ≤ q → A q := fun q h => by rw [hAe]; exact Or.inr h
  have htl : ∀ w ∈ wsL_law, w.before args s = true := fun w h => hts w (List.mem_cons_of_mem _ h)
  refine xHead (R' := { frames := 2, cells := 0, slots := 0, locals := 43 }) rfl (fun Q H hQ hH => ?_)
  have hP : va_P D vwCl (w5 qX qT qI qJ qP qC qF qA zX ++ (w4 cI qT zT ++ (w4 cI qI zI ++ (w4 cI qJ zJ ++ (w2 cI qP zP ++ (w1 qC qV zC ++ (w4 cI qV zV ++ (w3 cI qF zF ++ (w0 cJ qA zA))))))))) H := by rw [hH]; exact hP
  have hS : va_S A s.heap H [] := by rw [hH]; exact va_S.rf
  refine xStart hv (Nat.le_of_ble_eq_true rfl) (lv := [(0, .ref (qX 0)), (1, .int a1), (2, .int a2)]) rfl (fun ls hl => ?_)
  have h := hm
  unfold m_X5_law at h
  refine lv_iload_n hx hb (dAt zX5_law_0 0 rfl) rfl (lv_at hl 1 rfl) ?_
  refine lv_iconst (v := 0) hx hb (dAt zX5_law_0 1 rfl) (by decide) ?_
  refine lv_iconst (v := 3) hx hb (dAt zX5_law_0 2 rfl) (by decide) ?_
  obtain ⟨u3, hu3, h⟩ := q_bind h
  refine xFz (wc := ([] : va_W)) (w1 := ([] : va_W)) (wr := (w5 qX qT qI qJ qP qC qF qA zX ++ (w4 cI qT zT ++ (w4 cI qI zI ++ (w4 cI qJ zJ ++ (w2 cI qP zP ++ (w1 qC qV zC ++ (w4 cI qV zV ++ (w3 cI qF zF ++ (w0 cJ qA zA)))))))))) (ws2 := (w5 qX qT qI qJ qP qC qF qA zX ++ (w4 cI qT zT ++ (w4 cI qI zI ++ (w4 cI qJ zJ ++ (w2 cI qP zP ++ (w1 qC qV zC ++ (w4 cI qV zV ++ (w3 cI qF zF ++ (w0 cJ qA zA)))))))))) (va_runS (As := [.int a1, .int 0, .int 3]) (rest := []) ⟨hx, hb, hml, hown, htl⟩ (c_X5_isWithin l D cI cJ cZ n  H.size  a1 0 3 u3 hu3) (va_cwS 3 htl (gS W_110 W_111 W_2 W_112) rfl rfl rfl (by decide +kernel) ⟨Nat.le_of_ble_eq_true rfl, Nat.le_of_ble_eq_true rfl⟩) (xPS xP0 (xD0 A) hK hN) rfl rfl hl.1 rfl (lv_room (Nat.le_of_ble_eq_true rfl)) (dAt zX5_law_0 3 rfl) ⟨Nat.zero_le _, Nat.zero_le _⟩) hS hA hP hD [] [0, 1, 2, 3, 4, 5, 6, 7, 8, 9, 10, 11, 12, 13, 14, 15, 16, 17, 18, 19, 20, 21, 22, 23, 24, 25, 26, 27, 28, 29] [0, 1, 2, 3, 4, 5, 6, 7, 8, 9, 10, 11, 12, 13, 14, 15, 16, 17, 18, 19, 20, 21, 22, 23, 24, 25, 26, 27, 28, 29] rfl rfl (by decide) (by decide) rfl (by decide) (fun H locs hz3 hP hD hS => ?_)
  refine lv_if_eq (tgt := 17) hx hb (dAt zX5_law_0 4 rfl) (by decide) (fun c_6 => ?_) (fun c_6 => ?_)
  · have h := q_pos c_6 h
    refine lv_bipush (v := (-2)) hx hb (dAt zX5_law_0 9 rfl) (by decide) ?_
    obtain rfl := q_some h
    exact xRi hx hb hr hlocks hQ hAe hP hD hK hS rfl (dAt zX5_law_0 10 rfl)
  · have h := q_neg c_6 h
    refine lv_iload_n hx hb (dAt zX5_law_0 5 rfl) rfl (lv_at hl 1 rfl) ?_
    refine lv_iload_n hx hb (dAt zX5_law_0 6 rfl) rfl (lv_at hl 2 rfl) ?_
    obtain ⟨u11, hu11, h⟩ := q_bind h
    refine xFz (wc := ([] : va_W)) (w1 := ([] : va_W)) (wr := (w5 qX qT qI qJ qP qC qF qA zX ++ (w4 cI qT zT ++ (w4 cI qI zI ++ (w4 cI qJ zJ ++ (w2 cI qP zP ++ (w1 qC qV zC ++ (w4 cI qV zV ++ (w3 cI qF zF ++ (w0 cJ qA zA)))))))))) (ws2 := (w5 qX qT qI qJ qP qC qF qA zX ++ (w4 cI qT zT ++ (w4 cI qI zI ++ (w4 cI qJ zJ ++ (w2 cI qP zP ++ (w1 qC qV zC ++ (w4 cI qV zV ++ (w3 cI qF zF ++ (w0 cJ qA zA)))))))))) (va_runS (As := [.int a1, .int a2]) (rest := []) ⟨hx, hb, hml, hown, htl⟩ (c_X5_isLawful l D cI cJ cZ n  H.size  a1 a2 u11 hu11) (va_cwS 2 htl (gS W_172 W_173 W_2 W_174) rfl rfl rfl (by decide +kernel) ⟨Nat.le_of_ble_eq_true rfl, Nat.le_of_ble_eq_true rfl⟩) (xPS xP0 (xD0 A) hK hN) rfl rfl hl.1 rfl (lv_room (Nat.le_of_ble_eq_true rfl)) (dAt zX5_law_0 7 rfl) ⟨Nat.zero_le _, Nat.zero_le _⟩) hS hA hP hD [] [0, 1, 2, 3, 4, 5, 6, 7, 8, 9, 10, 11, 12, 13, 14, 15, 16, 17, 18, 19, 20, 21, 22, 23, 24, 25, 26, 27, 28, 29] [0, 1, 2, 3, 4, 5, 6, 7, 8, 9, 10, 11, 12, 13, 14, 15, 16, 17, 18, 19, 20, 21, 22, 23, 24, 25, 26, 27, 28, 29] rfl rfl (by decide) (by decide) rfl (by decide) (fun H locs hz11 hP hD hS => ?_)
    refine lv_if_ne (tgt := 20) hx hb (dAt zX5_law_0 8 rfl) (by decide) (fun c_14 => ?_) (fun c_14 => ?_)
    · have h := q_neg c_14 h
      refine lv_aload_n hx hb (dAt zX5_law_0 11 rfl) rfl (lv_at hl 0 rfl) ?_
      refine va_get (D := D) (ci := 5) (v := .ref (qT 0)) (C := RX5) (T := TX5) (N := 8) hx hb htl inlX5 hown hK hP 0 rfl rfl 0 (by decide) (htl _ W_15) (fun _ h9 => h9) rfl (dAt zX5_law_0 12 rfl) ?_
      refine lv_iload_n hx hb (dAt zX5_law_0 13 rfl) rfl (lv_at hl 1 rfl) ?_
      obtain ⟨u25, hu25, h⟩ := q_bind h
      have hPc : va_P D vwCl (w4 cI qT zT) H := hP.sub [1, 2, 3, 4, 5] rfl
      have hDc : va_D A (w4 cI qT zT) := hD.sub [1, 2, 3, 4, 5] (by decide) rfl
      refine xFi (wc := (w4 cI qT zT)) (w1 := (w4 cI qT zT)) (wr := (w5 qX qT qI qJ qP qC qF qA zX ++ (w4 cI qI zI ++ (w4 cI qJ zJ ++ (w2 cI qP zP ++ (w1 qC qV zC ++ (w4 cI qV zV ++ (w3 cI qF zF ++ (w0 cJ qA zA))))))))) (ws2 := (w5 qX qT qI qJ qP qC qF qA zX ++ (w4 cI qT zT ++ (w4 cI qI zI ++ (w4 cI qJ zJ ++ (w2 cI qP zP ++ (w1 qC qV zC ++ (w4 cI qV zV ++ (w3 cI qF zF ++ (w0 cJ qA zA)))))))))) (va_runV (As := [.int a1]) (rest := []) ⟨hx, hb, hml, hown, htl⟩ (c_X4_rule l D cI cJ cZ n qT H.size zT a1 u25 hu25) (cwV 1 htl (gV W_175 W_176 W_177 W_14 W_178) rfl rfl rfl (by decide +kernel) ⟨Nat.le_of_ble_eq_true rfl, Nat.le_of_ble_eq_true rfl⟩) (xPV hPc hDc hK hN 0 rfl rfl) rfl rfl hl.1 rfl (lv_room (Nat.le_of_ble_eq_true rfl)) (dAt zX5_law_0 14 rfl) ⟨Nat.zero_le _, Nat.zero_le _⟩) hS hA hP hD [1, 2, 3, 4, 5] [0, 6, 7, 8, 9, 10, 11, 12, 13, 14, 15, 16, 17, 18, 19, 20, 21, 22, 23, 24, 25, 26, 27, 28, 29] [0, 25, 26, 27, 28, 29, 1, 2, 3, 4, 5, 6, 7, 8, 9, 10, 11, 12, 13, 14, 15, 16, 17, 18, 19, 20, 21, 22, 23, 24] rfl rfl (by decide) (by decide) rfl (by decide) (fun H locs hP hD hS => ?_)
      refine lv_istore_n (lv' := [(3, .int u25), (0, .ref (qX 0)), (1, .int a1), (2, .int a2)]) hx hb (dAt zX5_law_0 15 rfl) rfl hl (by decide) rfl (fun ls hl => ?_)
      refine lv_aload_n hx hb (dAt zX5_law_0 16 rfl) rfl (lv_at hl 1 rfl) ?_
      refine va_get (D := D) (ci := 5) (v := .ref (qT 0)) (C := RX5) (T := TX5) (N := 8) hx hb htl inlX5 hown hK hP 0 rfl rfl 0 (by decide) (htl _ W_15) (fun _ h9 => h9) rfl (dAt zX5_law_0 17 rfl) ?_
      refine lv_iload_n hx hb (dAt zX5_law_0 18 rfl) rfl (lv_at hl 2 rfl) ?_
      refine lv_iload_n hx hb (dAt zX5_law_0 19 rfl) rfl (lv_at hl 3 rfl) ?_
      obtain ⟨u35, hu35, h⟩ := q_bind h
      have hPc : va_P D vwCl (w4 cI qT zT) H := hP.sub [1, 2, 3, 4, 5] rfl
      have hDc : va_D A (w4 cI qT zT) := hD.sub [1, 2, 3, 4, 5] (by decide) rfl
      refine xFv (wc := (w4 cI qT zT)) (w1 := (w4 cI qT u35)) (wr := (w5 qX qT qI qJ qP qC qF qA zX ++ (w4 cI qI zI ++ (w4 cI qJ zJ ++ (w2 cI qP zP ++ (w1 qC qV zC ++ (w4 cI qV zV ++ (w3 cI qF zF ++ (w0 cJ qA zA))))))))) (ws2 := (w5 qX qT qI qJ qP qC qF qA zX ++ (w4 cI qT u35 ++ (w4 cI qI zI ++ (w4 cI qJ zJ ++ (w2 cI qP zP ++ (w1 qC qV zC ++ (w4 cI qV zV ++ (w3 cI qF zF ++ (w0 cJ qA zA)))))))))) (va_runV (As := [.int a1, .int a2]) (rest := []) ⟨hx, hb, hml, hown, htl⟩ (c_X4_setRule l D cI cJ cZ n qT H.size zT a1 a2 u35 hu35) (cwV 2 htl (gV W_179 W_180 W_181 W_14 W_182) rfl rfl rfl (by decide +kernel) ⟨Nat.le_of_ble_eq_true rfl, Nat.le_of_ble_eq_true rfl⟩) (xPV hPc hDc hK hN 0 rfl rfl) rfl rfl hl.1 rfl (lv_room (Nat.le_of_ble_eq_true rfl)) (dAt zX5_law_0 20 rfl) ⟨Nat.zero_le _, Nat.zero_le _⟩) hS hA hP hD [1, 2, 3, 4, 5] [0, 6, 7, 8, 9, 10, 11, 12, 13, 14, 15, 16, 17, 18, 19, 20, 21, 22, 23, 24, 25, 26, 27, 28, 29] [0, 25, 26, 27, 28, 29, 1, 2, 3, 4, 5, 6, 7, 8, 9, 10, 11, 12, 13, 14, 15, 16, 17, 18, 19, 20, 21, 22, 23, 24] rfl rfl (by decide) (by decide) rfl (by decide) (fun H locs hP hD hS => ?_)
      refine lv_iload_n hx hb (dAt zX5_law_0 21 rfl) rfl (lv_at hl 0 rfl) ?_
      obtain rfl := q_some h
      exact xRi hx hb hr hlocks hQ hAe hP hD hK hS rfl (dAt zX5_law_0 22 rfl)
    · have h := q_pos c_14 h
      refine lv_bipush (v := (-2)) hx hb (dAt zX5_law_0 9 rfl) (by decide) ?_
      obtain rfl := q_some h
      exact xRi hx hb hr hlocks hQ hAe hP hD hK hS rfl (dAt zX5_law_0 10 rfl)
def m_X2_add (n : Nat) (zP : TI) (a1 : Int32) : Option (Int32 × TI) := (if (zP 0 1) < 0 then some (0, zP) else (if (zP 0 1) < 60 then (gd (inB (zP 0 1) 60) (some (1, (sf (upA zP 1 (upd (zP 1) (Int32.toNatClampNeg (zP 0 1)) a1)) 1 ((zP 0 1) + (1 : Int32)))))) else some (0, zP)))
set_option maxHeartbeats 4000000 in
set_option maxRecDepth 100000 in
theorem c_X2_add (l : Launch) (D : va_G) (cI cJ cZ : ClassId) (n : Nat) (qP : Nat → Nat) (sz : Nat) (zP : TI) (a1 : Int32) (out : Int32 × TI) (hm : m_X2_add n zP a1 = some out) : Met l yX2_add (wsM yX2_add cX2_add 2 (some .boolean)) { frames := 0, cells := 0, slots := 0, locals := 0 } (xPre D (kT cI cJ cZ) (w2 cI qP zP) sz [.ref (qP 0), .int a1]) (xQz D (kT cI cJ cZ) (w2 cI qP zP) (w2 cI qP out.2) sz out.1) 0 0 (va_A (w2 cI qP zP) sz) := by
  refine Met.ofW (cc := cX2_add) (maxL := 2) (ret := (some .boolean)) (by decide) rfl ?_
  intro p e s m args below meth c s₁ B hml hv
  obtain ⟨hv, hsz, hP, hK, hD0, hN⟩ := hv
  have hx := B.exec; have hb := B.bytes; have hr := B.returns
  have hts := atoms_spec (ws := (wsM yX2_add cX2_add 2 (some .boolean))) B.pre
  have hown : s.vm.findClass RX2 = some m.cls := findClass_of_methodNamed B.named
  have hlocks := B.notSynchronized
  subst hsz
  have hD := hD0.self (sz := s.heap.size)
  obtain ⟨A, hAe⟩ : ∃ A, A = va_A (w2 cI qP zP) s.heap.size := ⟨_, rfl⟩
  rw [← hAe] at hD
  have hA : ∀ q : Nat, s.heap.size ≤ q → A q := fun q h => by rw [hAe]; exact Or.inr h
  have htl : ∀ w ∈ wsL_law, w.before args s = true := fun w h => hts w (List.mem_cons_of_mem _ h)
  refine xHead (R' := { frames := 0, cells := 0, slots := 0, locals := 0 }) rfl (fun Q H hQ hH => ?_)
  have hP : va_P D vwCl (w2 cI qP zP) H := by rw [hH]; exact hP
  have hS : va_S A s.heap H [] := by rw [hH]; exact va_S.rf
  refine xStart hv (Nat.le_of_ble_eq_true rfl) (lv := [(0, .ref (qP 0)), (1, .int a1)]) rfl (fun ls hl => ?_)
  have h := hm
  unfold m_X2_add at h
  refine lv_aload_n hx hb (dAt zX2_add_0 0 rfl) rfl (lv_at hl 0 rfl) ?_
  refine va_get (D := D) (ci := 2) (v := .int (zP 0 1)) (C := RX2) (T := TX2) (N := 2) hx hb htl inlX2 hown hK hP 0 rfl rfl 1 (by decide) (htl _ W_53) (fun _ h9 => h9) rfl (dAt zX2_add_0 1 rfl) ?_
  refine lv_if_lt (tgt := 19) hx hb (dAt zX2_add_0 2 rfl) (by decide) (fun c_4 => ?_) (fun c_4 => ?_)
  · have h := q_pos c_4 h
    refine lv_iconst (v := 0) hx hb (dAt zX2_add_0 9 rfl) (by decide) ?_
    obtain rfl := q_some h
    exact xRz hx hb hr hlocks hQ hAe hP hD hK hS rfl rfl (dAt zX2_add_0 10 rfl)
  · have h := q_neg c_4 h
    refine lv_aload_n hx hb (dAt zX2_add_0 3 rfl) rfl (lv_at hl 0 rfl) ?_
    refine va_get (D := D) (ci := 2) (v := .int (zP 0 1)) (C := RX2) (T := TX2) (N := 2) hx hb htl inlX2 hown hK hP 0 rfl rfl 1 (by decide) (htl _ W_53) (fun _ h9 => h9) rfl (dAt zX2_add_0 4 rfl) ?_
    refine lv_aload_n hx hb (dAt zX2_add_0 5 rfl) rfl (lv_at hl 0 rfl) ?_
    refine va_get (D := D) (ci := 2) (v := .ref (qP 1)) (C := RX2) (T := TX2) (N := 2) hx hb htl inlX2 hown hK hP 0 rfl rfl 0 (by decide) (htl _ W_52) (fun _ h9 => h9) rfl (dAt zX2_add_0 6 rfl) ?_
    refine va_alen (ty := .int) (v := 60) hx hb hK hP 1 0 rfl rfl rfl (dAt zX2_add_0 7 rfl) ?_
    refine lv_icmp_lt (tgt := 21) hx hb (dAt zX2_add_0 8 rfl) (by decide) (fun c_16 => ?_) (fun c_16 => ?_)
    · have h := q_pos c_16 h
      refine lv_aload_n hx hb (dAt zX2_add_0 11 rfl) rfl (lv_at hl 0 rfl) ?_
      refine va_get (D := D) (ci := 2) (v := .ref (qP 1)) (C := RX2) (T := TX2) (N := 2) hx hb htl inlX2 hown hK hP 0 rfl rfl 0 (by decide) (htl _ W_52) (fun _ h9 => h9) rfl (dAt zX2_add_0 12 rfl) ?_
      refine lv_aload_n hx hb (dAt zX2_add_0 13 rfl) rfl (lv_at hl 0 rfl) ?_
      refine va_get (D := D) (ci := 2) (v := .int (zP 0 1)) (C := RX2) (T := TX2) (N := 2) hx hb htl inlX2 hown hK hP 0 rfl rfl 1 (by decide) (htl _ W_53) (fun _ h9 => h9) rfl (dAt zX2_add_0 14 rfl) ?_
      refine lv_iload_n hx hb (dAt zX2_add_0 15 rfl) rfl (lv_at hl 1 rfl) ?_
      obtain ⟨hi_30, h⟩ := q_in h
      refine va_iast hx hb hK hP hD hS 1 0 rfl rfl hi_30 (dAt zX2_add_0 16 rfl) (fun H locs hP hD hS => ?_)
      have hP : va_P D vwCl (w2x cI qP (zP 0 1) (upd (zP 1) (Int32.toNatClampNeg (zP 0 1)) a1)) H := hP
      have hD : va_D A (w2x cI qP (zP 0 1) (upd (zP 1) (Int32.toNatClampNeg (zP 0 1)) a1)) := hD
      refine lv_aload_n hx hb (dAt zX2_add_0 17 rfl) rfl (lv_at hl 0 rfl) ?_
      refine lv_dup hx hb (dAt zX2_add_0 18 rfl) rfl ?_
      refine va_get (D := D) (ci := 2) (v := .int (zP 0 1)) (C := RX2) (T := TX2) (N := 2) hx hb htl inlX2 hown hK hP 0 rfl rfl 1 (by decide) (htl _ W_53) (fun _ h9 => h9) rfl (dAt zX2_add_0 19 rfl) ?_
      refine lv_iconst (v := 1) hx hb (dAt zX2_add_0 20 rfl) (by decide) ?_
      refine lv_iadd hx hb (dAt zX2_add_0 21 rfl) ?_
      refine va_put (D := D) (ci := 2) (v := .int ((zP 0 1) + (1 : Int32))) (ty := .int) (C := RX2) (T := TX2) (N := 2) hx hb htl inlX2 tyX2 tyX2_ok nmX2 hown hK hP hD hS 0 rfl rfl 1 (by decide) (htl _ W_53) (fun _ h9 => h9) rfl (by decide +kernel) rfl rfl (Nat.le_of_ble_eq_true rfl) (dAt zX2_add_0 22 rfl) (fun H locs hP hD hS => ?_)
      have hP : va_P D vwCl (w2x cI qP ((zP 0 1) + (1 : Int32)) (upd (zP 1) (Int32.toNatClampNeg (zP 0 1)) a1)) H := hP
      have hD : va_D A (w2x cI qP ((zP 0 1) + (1 : Int32)) (upd (zP 1) (Int32.toNatClampNeg (zP 0 1)) a1)) := hD
      refine lv_iconst (v := 1) hx hb (dAt zX2_add_0 23 rfl) (by decide) ?_
      have hP : va_P D vwCl (w2 cI qP (sf (upA zP 1 (upd (zP 1) (Int32.toNatClampNeg (zP 0 1)) a1)) 1 ((zP 0 1) + (1 : Int32)))) H := hP
      have hD : va_D A (w2 cI qP (sf (upA zP 1 (upd (zP 1) (Int32.toNatClampNeg (zP 0 1)) a1)) 1 ((zP 0 1) + (1 : Int32)))) := hD
      obtain rfl := q_some h
      exact xRz hx hb hr hlocks hQ hAe hP hD hK hS rfl rfl (dAt zX2_add_0 24 rfl)
    · have h := q_neg c_16 h
      refine lv_iconst (v := 0) hx hb (dAt zX2_add_0 9 rfl) (by decide) ?_
      obtain rfl := q_some h
      exact xRz hx hb hr hlocks hQ hAe hP hD hK hS rfl rfl (dAt zX2_add_0 10 rfl)
def m_X5_say (n : Nat) (zX : TI) (zT : TI) (zI : TI) (zJ : TI) (zP : TI) (zC : TI) (zV : TI) (zF : TI) (zA : TL) (a1 : Int32) : Option (Int32 × TI) := ((m_X5_isWithin n  a1 33 126).bind fun u5 => (if u5 = 0 then some ((-2), zP) else ((m_X2_add n zP a1).bind fun u19 => (if u19.1 = 0 then some ((-4), u19.2) else some ((u19.2 0 1), u19.2)))))
set_option maxHeartbeats 4000000 in
set_option maxRecDepth 100000 in
theorem c_X5_say (l : Launch) (D : va_G) (cI cJ cZ : ClassId) (n : Nat) (qX : Nat → Nat) (qT : Nat → Nat) (qI : Nat → Nat) (qJ : Nat → Nat) (qP : Nat → Nat) (qC : Nat → Nat) (qV : Nat → Nat) (qF : Nat → Nat) (qA : Nat → Nat) (sz : Nat) (zX : TI) (zT : TI) (zI : TI) (zJ : TI) (zP : TI) (zC : TI) (zV : TI) (zF : TI) (zA : TL) (a1 : Int32) (out : Int32 × TI) (hm : m_X5_say n zX zT zI zJ zP zC zV zF zA a1 = some out) : Met l yX5_say (wsM yX5_say cX5_say 2 (some .int)) { frames := 1, cells := 0, slots := 0, locals := 22 } (xPre D (kT cI cJ cZ) (w5 qX qT qI qJ qP qC qF qA zX ++ (w4 cI qT zT ++ (w4 cI qI zI ++ (w4 cI qJ zJ ++ (w2 cI qP zP ++ (w1 qC qV zC ++ (w4 cI qV zV ++ (w3 cI qF zF ++ (w0 cJ qA zA))))))))) sz [.ref (qX 0), .int a1]) (xQi D (kT cI cJ cZ) (w5 qX qT qI qJ qP qC qF qA zX ++ (w4 cI qT zT ++ (w4 cI qI zI ++ (w4 cI qJ zJ ++ (w2 cI qP zP ++ (w1 qC qV zC ++ (w4 cI qV zV ++ (w3 cI qF zF ++ (w0 cJ qA zA))))))))) (w5 qX qT qI qJ qP qC qF qA zX ++ (w4 cI qT zT ++ (w4 cI qI zI ++ (w4 cI qJ zJ ++ (w2 cI qP out.2 ++ (w1 qC qV zC ++ (w4 cI qV zV ++ (w3 cI qF zF ++ (w0 cJ qA zA))))))))) sz out.1) 0 0 (va_A (w5 qX qT qI qJ qP qC qF qA zX ++ (w4 cI qT zT ++ (w4 cI qI zI ++ (w4 cI qJ zJ ++ (w2 cI qP zP ++ (w1 qC qV zC ++ (w4 cI qV zV ++ (w3 cI qF zF ++ (w0 cJ qA zA))))))))) sz) := by
  refine Met.ofW (cc := cX5_say) (maxL := 2) (ret := (some .int)) (by decide) rfl ?_
  intro p e s m args below meth c s₁ B hml hv
  obtain ⟨hv, hsz, hP, hK, hD0, hN⟩ := hv
  have hx := B.exec; have hb := B.bytes; have hr := B.returns
  have hts := atoms_spec (ws := (wsM yX5_say cX5_say 2 (some .int))) B.pre
  have hown : s.vm.findClass RX5 = some m.cls := findClass_of_methodNamed B.named
  have hlocks := B.notSynchronized
  subst hsz
  have hD := hD0.self (sz := s.heap.size)
  obtain ⟨A, hAe⟩ : ∃ A, A = va_A (w5 qX qT qI qJ qP qC qF qA zX ++ (w4 cI qT zT ++ (w4 cI qI zI ++ (w4 cI qJ zJ ++ (w2 cI qP zP ++ (w1 qC qV zC ++ (w4 cI qV zV ++ (w3 cI qF zF ++ (w0 cJ qA zA))))))))) s.heap.size := ⟨_, rfl⟩
  rw [← hAe] at hD
  have hA : ∀ q : Nat, s.heap.size ≤ q → A q := fun q h => by rw [hAe]; exact Or.inr h
  have htl : ∀ w ∈ wsL_law, w.before args s = true := fun w h => hts w (List.mem_cons_of_mem _ h)
  refine xHead (R' := { frames := 1, cells := 0, slots := 0, locals := 22 }) rfl (fun Q H hQ hH => ?_)
  have hP : va_P D vwCl (w5 qX qT qI qJ qP qC qF qA zX ++ (w4 cI qT zT ++ (w4 cI qI zI ++ (w4 cI qJ zJ ++ (w2 cI qP zP ++ (w1 qC qV zC ++ (w4 cI qV zV ++ (w3 cI qF zF ++ (w0 cJ qA zA))))))))) H := by rw [hH]; exact hP
  have hS : va_S A s.heap H [] := by rw [hH]; exact va_S.rf
  refine xStart hv (Nat.le_of_ble_eq_true rfl) (lv := [(0, .ref (qX 0)), (1, .int a1)]) rfl (fun ls hl => ?_)
  have h := hm
  unfold m_X5_say at h
  refine lv_iload_n hx hb (dAt zX5_say_0 0 rfl) rfl (lv_at hl 1 rfl) ?_
  refine lv_bipush (v := 33) hx hb (dAt zX5_say_0 1 rfl) (by decide) ?_
  refine lv_bipush (v := 126) hx hb (dAt zX5_say_0 2 rfl) (by decide) ?_
  obtain ⟨u5, hu5, h⟩ := q_bind h
  refine xFz (wc := ([] : va_W)) (w1 := ([] : va_W)) (wr := (w5 qX qT qI qJ qP qC qF qA zX ++ (w4 cI qT zT ++ (w4 cI qI zI ++ (w4 cI qJ zJ ++ (w2 cI qP zP ++ (w1 qC qV zC ++ (w4 cI qV zV ++ (w3 cI qF zF ++ (w0 cJ qA zA)))))))))) (ws2 := (w5 qX qT qI qJ qP qC qF qA zX ++ (w4 cI qT zT ++ (w4 cI qI zI ++ (w4 cI qJ zJ ++ (w2 cI qP zP ++ (w1 qC qV zC ++ (w4 cI qV zV ++ (w3 cI qF zF ++ (w0 cJ qA zA)))))))))) (va_runS (As := [.int a1, .int 33, .int 126]) (rest := []) ⟨hx, hb, hml, hown, htl⟩ (c_X5_isWithin l D cI cJ cZ n  H.size  a1 33 126 u5 hu5) (va_cwS 3 htl (gS W_110 W_111 W_2 W_112) rfl rfl rfl (by decide +kernel) ⟨Nat.le_of_ble_eq_true rfl, Nat.le_of_ble_eq_true rfl⟩) (xPS xP0 (xD0 A) hK hN) rfl rfl hl.1 rfl (lv_room (Nat.le_of_ble_eq_true rfl)) (dAt zX5_say_0 3 rfl) ⟨Nat.zero_le _, Nat.zero_le _⟩) hS hA hP hD [] [0, 1, 2, 3, 4, 5, 6, 7, 8, 9, 10, 11, 12, 13, 14, 15, 16, 17, 18, 19, 20, 21, 22, 23, 24, 25, 26, 27, 28, 29] [0, 1, 2, 3, 4, 5, 6, 7, 8, 9, 10, 11, 12, 13, 14, 15, 16, 17, 18, 19, 20, 21, 22, 23, 24, 25, 26, 27, 28, 29] rfl rfl (by decide) (by decide) rfl (by decide) (fun H locs hz5 hP hD hS => ?_)
  refine lv_if_ne (tgt := 14) hx hb (dAt zX5_say_0 4 rfl) (by decide) (fun c_8 => ?_) (fun c_8 => ?_)
  · have h := q_neg c_8 h
    refine lv_aload_n hx hb (dAt zX5_say_0 7 rfl) rfl (lv_at hl 0 rfl) ?_
    refine va_get (D := D) (ci := 5) (v := .ref (qP 0)) (C := RX5) (T := TX5) (N := 8) hx hb htl inlX5 hown hK hP 0 rfl rfl 4 (by decide) (htl _ W_22) (fun _ h9 => h9) rfl (dAt zX5_say_0 8 rfl) ?_
    refine lv_iload_n hx hb (dAt zX5_say_0 9 rfl) rfl (lv_at hl 1 rfl) ?_
    obtain ⟨u19, hu19, h⟩ := q_bind h
    have hPc : va_P D vwCl (w2 cI qP zP) H := hP.sub [16, 17] rfl
    have hDc : va_D A (w2 cI qP zP) := hD.sub [16, 17] (by decide) rfl
    refine xFz (wc := (w2 cI qP zP)) (w1 := (w2 cI qP u19.2)) (wr := (w5 qX qT qI qJ qP qC qF qA zX ++ (w4 cI qT zT ++ (w4 cI qI zI ++ (w4 cI qJ zJ ++ (w1 qC qV zC ++ (w4 cI qV zV ++ (w3 cI qF zF ++ (w0 cJ qA zA))))))))) (ws2 := (w5 qX qT qI qJ qP qC qF qA zX ++ (w4 cI qT zT ++ (w4 cI qI zI ++ (w4 cI qJ zJ ++ (w2 cI qP u19.2 ++ (w1 qC qV zC ++ (w4 cI qV zV ++ (w3 cI qF zF ++ (w0 cJ qA zA)))))))))) (va_runV (As := [.int a1]) (rest := []) ⟨hx, hb, hml, hown, htl⟩ (c_X2_add l D cI cJ cZ n qP H.size zP a1 u19 hu19) (cwV 1 htl (gV W_192 W_193 W_194 W_21 W_195) rfl rfl rfl (by decide +kernel) ⟨Nat.le_of_ble_eq_true rfl, Nat.le_of_ble_eq_true rfl⟩) (xPV hPc hDc hK hN 0 rfl rfl) rfl rfl hl.1 rfl (lv_room (Nat.le_of_ble_eq_true rfl)) (dAt zX5_say_0 10 rfl) ⟨Nat.zero_le _, Nat.zero_le _⟩) hS hA hP hD [16, 17] [0, 1, 2, 3, 4, 5, 6, 7, 8, 9, 10, 11, 12, 13, 14, 15, 18, 19, 20, 21, 22, 23, 24, 25, 26, 27, 28, 29] [0, 1, 2, 3, 4, 5, 6, 7, 8, 9, 10, 11, 12, 13, 14, 15, 28, 29, 16, 17, 18, 19, 20, 21, 22, 23, 24, 25, 26, 27] rfl rfl (by decide) (by decide) rfl (by decide) (fun H locs hz19 hP hD hS => ?_)
    refine lv_if_eq (tgt := 35) hx hb (dAt zX5_say_0 11 rfl) (by decide) (fun c_22 => ?_) (fun c_22 => ?_)
    · have h := q_pos c_22 h
      refine lv_bipush (v := (-4)) hx hb (dAt zX5_say_0 16 rfl) (by decide) ?_
      obtain rfl := q_some h
      exact xRi hx hb hr hlocks hQ hAe hP hD hK hS rfl (dAt zX5_say_0 17 rfl)
    · have h := q_neg c_22 h
      refine lv_aload_n hx hb (dAt zX5_say_0 12 rfl) rfl (lv_at hl 0 rfl) ?_
      refine va_get (D := D) (ci := 5) (v := .ref (qP 0)) (C := RX5) (T := TX5) (N := 8) hx hb htl inlX5 hown hK hP 0 rfl rfl 4 (by decide) (htl _ W_22) (fun _ h9 => h9) rfl (dAt zX5_say_0 13 rfl) ?_
      refine va_get (D := D) (ci := 2) (v := .int (u19.2 0 1)) (C := RX2) (T := TX2) (N := 2) hx hb htl inlX2 hown hK hP 16 rfl rfl 1 (by decide) (htl _ W_191) (fun _ h9 => h9) rfl (dAt zX5_say_0 14 rfl) ?_
      refine lv_goto (tgt := 37) hx hb (dAt zX5_say_0 15 rfl) (by decide) ?_
      obtain rfl := q_some h
      exact xRi hx hb hr hlocks hQ hAe hP hD hK hS rfl (dAt zX5_say_0 17 rfl)
  · have h := q_pos c_8 h
    refine lv_bipush (v := (-2)) hx hb (dAt zX5_say_0 5 rfl) (by decide) ?_
    obtain rfl := q_some h
    exact xRi hx hb hr hlocks hQ hAe hP hD hK hS rfl (dAt zX5_say_0 6 rfl)
def m_X5_wipe (n : Nat) (zX : TI) (zT : TI) (zI : TI) (zJ : TI) (zP : TI) (zC : TI) (zV : TI) (zF : TI) (zA : TL) : Option (Int32 × TI) := some ((zP 0 1), (sf zP 1 0))
set_option maxHeartbeats 4000000 in
set_option maxRecDepth 100000 in
theorem c_X5_wipe (l : Launch) (D : va_G) (cI cJ cZ : ClassId) (n : Nat) (qX : Nat → Nat) (qT : Nat → Nat) (qI : Nat → Nat) (qJ : Nat → Nat) (qP : Nat → Nat) (qC : Nat → Nat) (qV : Nat → Nat) (qF : Nat → Nat) (qA : Nat → Nat) (sz : Nat) (zX : TI) (zT : TI) (zI : TI) (zJ : TI) (zP : TI) (zC : TI) (zV : TI) (zF : TI) (zA : TL) (out : Int32 × TI) (hm : m_X5_wipe n zX zT zI zJ zP zC zV zF zA = some out) : Met l yX5_wipe (wsM yX5_wipe cX5_wipe 2 (some .int)) { frames := 0, cells := 0, slots := 0, locals := 0 } (xPre D (kT cI cJ cZ) (w5 qX qT qI qJ qP qC qF qA zX ++ (w4 cI qT zT ++ (w4 cI qI zI ++ (w4 cI qJ zJ ++ (w2 cI qP zP ++ (w1 qC qV zC ++ (w4 cI qV zV ++ (w3 cI qF zF ++ (w0 cJ qA zA))))))))) sz [.ref (qX 0)]) (xQi D (kT cI cJ cZ) (w5 qX qT qI qJ qP qC qF qA zX ++ (w4 cI qT zT ++ (w4 cI qI zI ++ (w4 cI qJ zJ ++ (w2 cI qP zP ++ (w1 qC qV zC ++ (w4 cI qV zV ++ (w3 cI qF zF ++ (w0 cJ qA zA))))))))) (w5 qX qT qI qJ qP qC qF qA zX ++ (w4 cI qT zT ++ (w4 cI qI zI ++ (w4 cI qJ zJ ++ (w2 cI qP out.2 ++ (w1 qC qV zC ++ (w4 cI qV zV ++ (w3 cI qF zF ++ (w0 cJ qA zA))))))))) sz out.1) 0 0 (va_A (w5 qX qT qI qJ qP qC qF qA zX ++ (w4 cI qT zT ++ (w4 cI qI zI ++ (w4 cI qJ zJ ++ (w2 cI qP zP ++ (w1 qC qV zC ++ (w4 cI qV zV ++ (w3 cI qF zF ++ (w0 cJ qA zA))))))))) sz) := by
  refine Met.ofW (cc := cX5_wipe) (maxL := 2) (ret := (some .int)) (by decide) rfl ?_
  intro p e s m args below meth c s₁ B hml hv
  obtain ⟨hv, hsz, hP, hK, hD0, hN⟩ := hv
  have hx := B.exec; have hb := B.bytes; have hr := B.returns
  have hts := atoms_spec (ws := (wsM yX5_wipe cX5_wipe 2 (some .int))) B.pre
  have hown : s.vm.findClass RX5 = some m.cls := findClass_of_methodNamed B.named
  have hlocks := B.notSynchronized
  subst hsz
  have hD := hD0.self (sz := s.heap.size)
  obtain ⟨A, hAe⟩ : ∃ A, A = va_A (w5 qX qT qI qJ qP qC qF qA zX ++ (w4 cI qT zT ++ (w4 cI qI zI ++ (w4 cI qJ zJ ++ (w2 cI qP zP ++ (w1 qC qV zC ++ (w4 cI qV zV ++ (w3 cI qF zF ++ (w0 cJ qA zA))))))))) s.heap.size := ⟨_, rfl⟩
  rw [← hAe] at hD
  have hA : ∀ q : Nat, s.heap.size ≤ q → A q := fun q h => by rw [hAe]; exact Or.inr h
  have htl : ∀ w ∈ wsL_law, w.before args s = true := fun w h => hts w (List.mem_cons_of_mem _ h)
  refine xHead (R' := { frames := 0, cells := 0, slots := 0, locals := 0 }) rfl (fun Q H hQ hH => ?_)
  have hP : va_P D vwCl (w5 qX qT qI qJ qP qC qF qA zX ++ (w4 cI qT zT ++ (w4 cI qI zI ++ (w4 cI qJ zJ ++ (w2 cI qP zP ++ (w1 qC qV zC ++ (w4 cI qV zV ++ (w3 cI qF zF ++ (w0 cJ qA zA))))))))) H := by rw [hH]; exact hP
  have hS : va_S A s.heap H [] := by rw [hH]; exact va_S.rf
  refine xStart hv (Nat.le_of_ble_eq_true rfl) (lv := [(0, .ref (qX 0))]) rfl (fun ls hl => ?_)
  have h := hm
  unfold m_X5_wipe at h
  refine lv_aload_n hx hb (dAt zX5_wipe_0 0 rfl) rfl (lv_at hl 0 rfl) ?_
  refine va_get (D := D) (ci := 5) (v := .ref (qP 0)) (C := RX5) (T := TX5) (N := 8) hx hb htl inlX5 hown hK hP 0 rfl rfl 4 (by decide) (htl _ W_22) (fun _ h9 => h9) rfl (dAt zX5_wipe_0 1 rfl) ?_
  refine va_get (D := D) (ci := 2) (v := .int (zP 0 1)) (C := RX2) (T := TX2) (N := 2) hx hb htl inlX2 hown hK hP 16 rfl rfl 1 (by decide) (htl _ W_191) (fun _ h9 => h9) rfl (dAt zX5_wipe_0 2 rfl) ?_
  refine lv_istore_n (lv' := [(1, .int (zP 0 1)), (0, .ref (qX 0))]) hx hb (dAt zX5_wipe_0 3 rfl) rfl hl (by decide) rfl (fun ls hl => ?_)
  refine lv_aload_n hx hb (dAt zX5_wipe_0 4 rfl) rfl (lv_at hl 1 rfl) ?_
  refine va_get (D := D) (ci := 5) (v := .ref (qP 0)) (C := RX5) (T := TX5) (N := 8) hx hb htl inlX5 hown hK hP 0 rfl rfl 4 (by decide) (htl _ W_22) (fun _ h9 => h9) rfl (dAt zX5_wipe_0 5 rfl) ?_
  refine lv_iconst (v := 0) hx hb (dAt zX5_wipe_0 6 rfl) (by decide) ?_
  refine va_put (D := D) (ci := 2) (v := .int 0) (ty := .int) (C := RX2) (T := TX2) (N := 2) hx hb htl inlX2 tyX2 tyX2_ok nmX2 hown hK hP hD hS 16 rfl rfl 1 (by decide) (htl _ W_191) (fun _ h9 => h9) rfl (by decide +kernel) rfl rfl (Nat.le_of_ble_eq_true rfl) (dAt zX5_wipe_0 7 rfl) (fun H locs hP hD hS => ?_)
  have hP : va_P D vwCl (w5 qX qT qI qJ qP qC qF qA zX ++ (w4 cI qT zT ++ (w4 cI qI zI ++ (w4 cI qJ zJ ++ (w2x cI qP 0 (zP 1) ++ (w1 qC qV zC ++ (w4 cI qV zV ++ (w3 cI qF zF ++ (w0 cJ qA zA))))))))) H := hP
  have hD : va_D A (w5 qX qT qI qJ qP qC qF qA zX ++ (w4 cI qT zT ++ (w4 cI qI zI ++ (w4 cI qJ zJ ++ (w2x cI qP 0 (zP 1) ++ (w1 qC qV zC ++ (w4 cI qV zV ++ (w3 cI qF zF ++ (w0 cJ qA zA))))))))) := hD
  refine lv_iload_n hx hb (dAt zX5_wipe_0 8 rfl) rfl (lv_at hl 0 rfl) ?_
  have hP : va_P D vwCl (w5 qX qT qI qJ qP qC qF qA zX ++ (w4 cI qT zT ++ (w4 cI qI zI ++ (w4 cI qJ zJ ++ (w2 cI qP (sf zP 1 0) ++ (w1 qC qV zC ++ (w4 cI qV zV ++ (w3 cI qF zF ++ (w0 cJ qA zA))))))))) H := hP
  have hD : va_D A (w5 qX qT qI qJ qP qC qF qA zX ++ (w4 cI qT zT ++ (w4 cI qI zI ++ (w4 cI qJ zJ ++ (w2 cI qP (sf zP 1 0) ++ (w1 qC qV zC ++ (w4 cI qV zV ++ (w3 cI qF zF ++ (w0 cJ qA zA))))))))) := hD
  obtain rfl := q_some h
  exact xRi hx hb hr hlocks hQ hAe hP hD hK hS rfl (dAt zX5_wipe_0 9 rfl)
def m_X2_signAt (n : Nat) (zP : TI) (a1 : Int32) : Option Int32 := (if a1 < 0 then some 0 else (if (zP 0 1) ≤ a1 then some 0 else (if 60 ≤ a1 then some 0 else (gd (inB a1 60) (some ((zP 1) (Int32.toNatClampNeg a1)))))))
set_option maxHeartbeats 4000000 in
set_option maxRecDepth 100000 in
theorem c_X2_signAt (l : Launch) (D : va_G) (cI cJ cZ : ClassId) (n : Nat) (qP : Nat → Nat) (sz : Nat) (zP : TI) (a1 : Int32) (out : Int32) (hm : m_X2_signAt n zP a1 = some out) : Met l yX2_signAt (wsM yX2_signAt cX2_signAt 2 (some .int)) { frames := 0, cells := 0, slots := 0, locals := 0 } (xPre D (kT cI cJ cZ) (w2 cI qP zP) sz [.ref (qP 0), .int a1]) (xQi D (kT cI cJ cZ) (w2 cI qP zP) (w2 cI qP zP) sz out) 0 0 (va_A (w2 cI qP zP) sz) := by
  refine Met.ofW (cc := cX2_signAt) (maxL := 2) (ret := (some .int)) (by decide) rfl ?_
  intro p e s m args below meth c s₁ B hml hv
  obtain ⟨hv, hsz, hP, hK, hD0, hN⟩ := hv
  have hx := B.exec; have hb := B.bytes; have hr := B.returns
  have hts := atoms_spec (ws := (wsM yX2_signAt cX2_signAt 2 (some .int))) B.pre
  have hown : s.vm.findClass RX2 = some m.cls := findClass_of_methodNamed B.named
  have hlocks := B.notSynchronized
  subst hsz
  have hD := hD0.self (sz := s.heap.size)
  obtain ⟨A, hAe⟩ : ∃ A, A = va_A (w2 cI qP zP) s.heap.size := ⟨_, rfl⟩
  rw [← hAe] at hD
  have hA : ∀ q : Nat, s.heap.size ≤ q → A q := fun q h => by rw [hAe]; exact Or.inr h
  have htl : ∀ w ∈ wsL_law, w.before args s = true := fun w h => hts w (List.mem_cons_of_mem _ h)
  refine xHead (R' := { frames := 0, cells := 0, slots := 0, locals := 0 }) rfl (fun Q H hQ hH => ?_)
  have hP : va_P D vwCl (w2 cI qP zP) H := by rw [hH]; exact hP
  have hS : va_S A s.heap H [] := by rw [hH]; exact va_S.rf
  refine xStart hv (Nat.le_of_ble_eq_true rfl) (lv := [(0, .ref (qP 0)), (1, .int a1)]) rfl (fun ls hl => ?_)
  have h := hm
  unfold m_X2_signAt at h
  refine lv_iload_n hx hb (dAt zX2_signAt_0 0 rfl) rfl (lv_at hl 1 rfl) ?_
  refine lv_if_lt (tgt := 30) hx hb (dAt zX2_signAt_0 1 rfl) (by decide) (fun c_1 => ?_) (fun c_1 => ?_)
  · have h := q_pos c_1 h
    refine lv_iconst (v := 0) hx hb (dAt zX2_signAt_0 16 rfl) (by decide) ?_
    obtain rfl := q_some h
    exact xRi hx hb hr hlocks hQ hAe hP hD hK hS rfl (dAt zX2_signAt_0 17 rfl)
  · have h := q_neg c_1 h
    refine lv_iload_n hx hb (dAt zX2_signAt_0 2 rfl) rfl (lv_at hl 1 rfl) ?_
    refine lv_aload_n hx hb (dAt zX2_signAt_0 3 rfl) rfl (lv_at hl 0 rfl) ?_
    refine va_get (D := D) (ci := 2) (v := .int (zP 0 1)) (C := RX2) (T := TX2) (N := 2) hx hb htl inlX2 hown hK hP 0 rfl rfl 1 (by decide) (htl _ W_53) (fun _ h9 => h9) rfl (dAt zX2_signAt_0 4 rfl) ?_
    refine lv_icmp_ge (tgt := 30) hx hb (dAt zX2_signAt_0 5 rfl) (by decide) (fun c_9 => ?_) (fun c_9 => ?_)
    · have h := q_pos c_9 h
      refine lv_iconst (v := 0) hx hb (dAt zX2_signAt_0 16 rfl) (by decide) ?_
      obtain rfl := q_some h
      exact xRi hx hb hr hlocks hQ hAe hP hD hK hS rfl (dAt zX2_signAt_0 17 rfl)
    · have h := q_neg c_9 h
      refine lv_iload_n hx hb (dAt zX2_signAt_0 6 rfl) rfl (lv_at hl 1 rfl) ?_
      refine lv_aload_n hx hb (dAt zX2_signAt_0 7 rfl) rfl (lv_at hl 0 rfl) ?_
      refine va_get (D := D) (ci := 2) (v := .ref (qP 1)) (C := RX2) (T := TX2) (N := 2) hx hb htl inlX2 hown hK hP 0 rfl rfl 0 (by decide) (htl _ W_52) (fun _ h9 => h9) rfl (dAt zX2_signAt_0 8 rfl) ?_
      refine va_alen (ty := .int) (v := 60) hx hb hK hP 1 0 rfl rfl rfl (dAt zX2_signAt_0 9 rfl) ?_
      refine lv_icmp_ge (tgt := 30) hx hb (dAt zX2_signAt_0 10 rfl) (by decide) (fun c_18 => ?_) (fun c_18 => ?_)
      · have h := q_pos c_18 h
        refine lv_iconst (v := 0) hx hb (dAt zX2_signAt_0 16 rfl) (by decide) ?_
        obtain rfl := q_some h
        exact xRi hx hb hr hlocks hQ hAe hP hD hK hS rfl (dAt zX2_signAt_0 17 rfl)
      · have h := q_neg c_18 h
        refine lv_aload_n hx hb (dAt zX2_signAt_0 11 rfl) rfl (lv_at hl 0 rfl) ?_
        refine va_get (D := D) (ci := 2) (v := .ref (qP 1)) (C := RX2) (T := TX2) (N := 2) hx hb htl inlX2 hown hK hP 0 rfl rfl 0 (by decide) (htl _ W_52) (fun _ h9 => h9) rfl (dAt zX2_signAt_0 12 rfl) ?_
        refine lv_iload_n hx hb (dAt zX2_signAt_0 13 rfl) rfl (lv_at hl 1 rfl) ?_
        obtain ⟨hi_26, h⟩ := q_in h
        refine va_iald hx hb hK hP 1 0 rfl rfl hi_26 (dAt zX2_signAt_0 14 rfl) ?_
        refine lv_goto (tgt := 31) hx hb (dAt zX2_signAt_0 15 rfl) (by decide) ?_
        obtain rfl := q_some h
        exact xRi hx hb hr hlocks hQ hAe hP hD hK hS rfl (dAt zX2_signAt_0 17 rfl)
def m_X2_isOfTwo (n : Nat) (a1 : Int32) : Option Int32 := (if a1 = 43 then some 1 else (if a1 = 45 then some 1 else (if a1 = 36 then some 1 else some 0)))
set_option maxHeartbeats 4000000 in
set_option maxRecDepth 100000 in
theorem c_X2_isOfTwo (l : Launch) (D : va_G) (cI cJ cZ : ClassId) (n : Nat)  (sz : Nat) (a1 : Int32) (out : Int32) (hm : m_X2_isOfTwo n a1 = some out) : Met l yX2_isOfTwo (wsM yX2_isOfTwo cX2_isOfTwo 1 (some .boolean)) { frames := 0, cells := 0, slots := 0, locals := 0 } (xPre D (kT cI cJ cZ) ([] : va_W) sz [.int a1]) (xQz D (kT cI cJ cZ) ([] : va_W) ([] : va_W) sz out) 0 0 (va_A ([] : va_W) sz) := by
  refine Met.ofW (cc := cX2_isOfTwo) (maxL := 1) (ret := (some .boolean)) (by decide) rfl ?_
  intro p e s m args below meth c s₁ B hml hv
  obtain ⟨hv, hsz, hP, hK, hD0, hN⟩ := hv
  have hx := B.exec; have hb := B.bytes; have hr := B.returns
  have hts := atoms_spec (ws := (wsM yX2_isOfTwo cX2_isOfTwo 1 (some .boolean))) B.pre
  have hown : s.vm.findClass RX2 = some m.cls := findClass_of_methodNamed B.named
  have hlocks := B.notSynchronized
  subst hsz
  have hD := hD0.self (sz := s.heap.size)
  obtain ⟨A, hAe⟩ : ∃ A, A = va_A ([] : va_W) s.heap.size := ⟨_, rfl⟩
  rw [← hAe] at hD
  have hA : ∀ q : Nat, s.heap.size ≤ q → A q := fun q h => by rw [hAe]; exact Or.inr h
  have htl : ∀ w ∈ wsL_law, w.before args s = true := fun w h => hts w (List.mem_cons_of_mem _ h)
  refine xHead (R' := { frames := 0, cells := 0, slots := 0, locals := 0 }) rfl (fun Q H hQ hH => ?_)
  have hP : va_P D vwCl ([] : va_W) H := by rw [hH]; exact hP
  have hS : va_S A s.heap H [] := by rw [hH]; exact va_S.rf
  refine xStart hv (Nat.le_of_ble_eq_true rfl) (lv := [(0, .int a1)]) rfl (fun ls hl => ?_)
  have h := hm
  unfold m_X2_isOfTwo at h
  refine lv_iload_n hx hb (dAt zX2_isOfTwo_0 0 rfl) rfl (lv_at hl 0 rfl) ?_
  refine lv_bipush (v := 43) hx hb (dAt zX2_isOfTwo_0 1 rfl) (by decide) ?_
  refine lv_icmp_eq (tgt := 18) hx hb (dAt zX2_isOfTwo_0 2 rfl) (by decide) (fun c_3 => ?_) (fun c_3 => ?_)
  · have h := q_pos c_3 h
    refine lv_iconst (v := 1) hx hb (dAt zX2_isOfTwo_0 9 rfl) (by decide) ?_
    refine lv_goto (tgt := 23) hx hb (dAt zX2_isOfTwo_0 10 rfl) (by decide) ?_
    obtain rfl := q_some h
    exact xRz hx hb hr hlocks hQ hAe hP hD hK hS rfl rfl (dAt zX2_isOfTwo_0 12 rfl)
  · have h := q_neg c_3 h
    refine lv_iload_n hx hb (dAt zX2_isOfTwo_0 3 rfl) rfl (lv_at hl 0 rfl) ?_
    refine lv_bipush (v := 45) hx hb (dAt zX2_isOfTwo_0 4 rfl) (by decide) ?_
    refine lv_icmp_eq (tgt := 18) hx hb (dAt zX2_isOfTwo_0 5 rfl) (by decide) (fun c_9 => ?_) (fun c_9 => ?_)
    · have h := q_pos c_9 h
      refine lv_iconst (v := 1) hx hb (dAt zX2_isOfTwo_0 9 rfl) (by decide) ?_
      refine lv_goto (tgt := 23) hx hb (dAt zX2_isOfTwo_0 10 rfl) (by decide) ?_
      obtain rfl := q_some h
      exact xRz hx hb hr hlocks hQ hAe hP hD hK hS rfl rfl (dAt zX2_isOfTwo_0 12 rfl)
    · have h := q_neg c_9 h
      refine lv_iload_n hx hb (dAt zX2_isOfTwo_0 6 rfl) rfl (lv_at hl 0 rfl) ?_
      refine lv_bipush (v := 36) hx hb (dAt zX2_isOfTwo_0 7 rfl) (by decide) ?_
      refine lv_icmp_ne (tgt := 22) hx hb (dAt zX2_isOfTwo_0 8 rfl) (by decide) (fun c_15 => ?_) (fun c_15 => ?_)
      · have h := q_neg c_15 h
        refine lv_iconst (v := 0) hx hb (dAt zX2_isOfTwo_0 11 rfl) (by decide) ?_
        obtain rfl := q_some h
        exact xRz hx hb hr hlocks hQ hAe hP hD hK hS rfl rfl (dAt zX2_isOfTwo_0 12 rfl)
      · have h := q_pos c_15 h
        refine lv_iconst (v := 1) hx hb (dAt zX2_isOfTwo_0 9 rfl) (by decide) ?_
        refine lv_goto (tgt := 23) hx hb (dAt zX2_isOfTwo_0 10 rfl) (by decide) ?_
        obtain rfl := q_some h
        exact xRz hx hb hr hlocks hQ hAe hP hD hK hS rfl rfl (dAt zX2_isOfTwo_0 12 rfl)
def m_X2_isOfNobody (n : Nat) (a1 : Int32) : Option Int32 := (if a1 = 46 then some 1 else (if a1 = 126 then some 1 else some 0))
set_option maxHeartbeats 4000000 in
set_option maxRecDepth 100000 in
theorem c_X2_isOfNobody (l : Launch) (D : va_G) (cI cJ cZ : ClassId) (n : Nat)  (sz : Nat) (a1 : Int32) (out : Int32) (hm : m_X2_isOfNobody n a1 = some out) : Met l yX2_isOfNobody (wsM yX2_isOfNobody cX2_isOfNobody 1 (some .boolean)) { frames := 0, cells := 0, slots := 0, locals := 0 } (xPre D (kT cI cJ cZ) ([] : va_W) sz [.int a1]) (xQz D (kT cI cJ cZ) ([] : va_W) ([] : va_W) sz out) 0 0 (va_A ([] : va_W) sz) := by
  refine Met.ofW (cc := cX2_isOfNobody) (maxL := 1) (ret := (some .boolean)) (by decide) rfl ?_
  intro p e s m args below meth c s₁ B hml hv
  obtain ⟨hv, hsz, hP, hK, hD0, hN⟩ := hv
  have hx := B.exec; have hb := B.bytes; have hr := B.returns
  have hts := atoms_spec (ws := (wsM yX2_isOfNobody cX2_isOfNobody 1 (some .boolean))) B.pre
  have hown : s.vm.findClass RX2 = some m.cls := findClass_of_methodNamed B.named
  have hlocks := B.notSynchronized
  subst hsz
  have hD := hD0.self (sz := s.heap.size)
  obtain ⟨A, hAe⟩ : ∃ A, A = va_A ([] : va_W) s.heap.size := ⟨_, rfl⟩
  rw [← hAe] at hD
  have hA : ∀ q : Nat, s.heap.size ≤ q → A q := fun q h => by rw [hAe]; exact Or.inr h
  have htl : ∀ w ∈ wsL_law, w.before args s = true := fun w h => hts w (List.mem_cons_of_mem _ h)
  refine xHead (R' := { frames := 0, cells := 0, slots := 0, locals := 0 }) rfl (fun Q H hQ hH => ?_)
  have hP : va_P D vwCl ([] : va_W) H := by rw [hH]; exact hP
  have hS : va_S A s.heap H [] := by rw [hH]; exact va_S.rf
  refine xStart hv (Nat.le_of_ble_eq_true rfl) (lv := [(0, .int a1)]) rfl (fun ls hl => ?_)
  have h := hm
  unfold m_X2_isOfNobody at h
  refine lv_iload_n hx hb (dAt zX2_isOfNobody_0 0 rfl) rfl (lv_at hl 0 rfl) ?_
  refine lv_bipush (v := 46) hx hb (dAt zX2_isOfNobody_0 1 rfl) (by decide) ?_
  refine lv_icmp_eq (tgt := 12) hx hb (dAt zX2_isOfNobody_0 2 rfl) (by decide) (fun c_3 => ?_) (fun c_3 => ?_)
  · have h := q_pos c_3 h
    refine lv_iconst (v := 1) hx hb (dAt zX2_isOfNobody_0 6 rfl) (by decide) ?_
    refine lv_goto (tgt := 17) hx hb (dAt zX2_isOfNobody_0 7 rfl) (by decide) ?_
    obtain rfl := q_some h
    exact xRz hx hb hr hlocks hQ hAe hP hD hK hS rfl rfl (dAt zX2_isOfNobody_0 9 rfl)
  · have h := q_neg c_3 h
    refine lv_iload_n hx hb (dAt zX2_isOfNobody_0 3 rfl) rfl (lv_at hl 0 rfl) ?_
    refine lv_bipush (v := 126) hx hb (dAt zX2_isOfNobody_0 4 rfl) (by decide) ?_
    refine lv_icmp_ne (tgt := 16) hx hb (dAt zX2_isOfNobody_0 5 rfl) (by decide) (fun c_9 => ?_) (fun c_9 => ?_)
    · have h := q_neg c_9 h
      refine lv_iconst (v := 0) hx hb (dAt zX2_isOfNobody_0 8 rfl) (by decide) ?_
      obtain rfl := q_some h
      exact xRz hx hb hr hlocks hQ hAe hP hD hK hS rfl rfl (dAt zX2_isOfNobody_0 9 rfl)
    · have h := q_pos c_9 h
      refine lv_iconst (v := 1) hx hb (dAt zX2_isOfNobody_0 6 rfl) (by decide) ?_
      refine lv_goto (tgt := 17) hx hb (dAt zX2_isOfNobody_0 7 rfl) (by decide) ?_
      obtain rfl := q_some h
      exact xRz hx hb hr hlocks hQ hAe hP hD hK hS rfl rfl (dAt zX2_isOfNobody_0 9 rfl)
def m_X5_isLetter (n : Nat) (a1 : Int32) : Option Int32 := ((m_X5_isOne n  (a1 - (65 : Int32))).bind fun u4 => gd (isZ u4) (some u4))
set_option maxHeartbeats 4000000 in
set_option maxRecDepth 100000 in
theorem c_X5_isLetter (l : Launch) (D : va_G) (cI cJ cZ : ClassId) (n : Nat)  (sz : Nat) (a1 : Int32) (out : Int32) (hm : m_X5_isLetter n a1 = some out) : Met l yX5_isLetter (wsM yX5_isLetter cX5_isLetter 1 (some .boolean)) { frames := 1, cells := 0, slots := 0, locals := 20 } (xPre D (kT cI cJ cZ) ([] : va_W) sz [.int a1]) (xQz D (kT cI cJ cZ) ([] : va_W) ([] : va_W) sz out) 0 0 (va_A ([] : va_W) sz) := by
  refine Met.ofW (cc := cX5_isLetter) (maxL := 1) (ret := (some .boolean)) (by decide) rfl ?_
  intro p e s m args below meth c s₁ B hml hv
  obtain ⟨hv, hsz, hP, hK, hD0, hN⟩ := hv
  have hx := B.exec; have hb := B.bytes; have hr := B.returns
  have hts := atoms_spec (ws := (wsM yX5_isLetter cX5_isLetter 1 (some .boolean))) B.pre
  have hown : s.vm.findClass RX5 = some m.cls := findClass_of_methodNamed B.named
  have hlocks := B.notSynchronized
  subst hsz
  have hD := hD0.self (sz := s.heap.size)
  obtain ⟨A, hAe⟩ : ∃ A, A = va_A ([] : va_W) s.heap.size := ⟨_, rfl⟩
  rw [← hAe] at hD
  have hA : ∀ q : Nat, s.heap.size ≤ q → A q := fun q h => by rw [hAe]; exact Or.inr h
  have htl : ∀ w ∈ wsL_law, w.before args s = true := fun w h => hts w (List.mem_cons_of_mem _ h)
  refine xHead (R' := { frames := 1, cells := 0, slots := 0, locals := 20 }) rfl (fun Q H hQ hH => ?_)
  have hP : va_P D vwCl ([] : va_W) H := by rw [hH]; exact hP
  have hS : va_S A s.heap H [] := by rw [hH]; exact va_S.rf
  refine xStart hv (Nat.le_of_ble_eq_true rfl) (lv := [(0, .int a1)]) rfl (fun ls hl => ?_)
  have h := hm
  unfold m_X5_isLetter at h
  refine lv_iload_n hx hb (dAt zX5_isLetter_0 0 rfl) rfl (lv_at hl 0 rfl) ?_
  refine lv_bipush (v := 65) hx hb (dAt zX5_isLetter_0 1 rfl) (by decide) ?_
  refine lv_isub hx hb (dAt zX5_isLetter_0 2 rfl) ?_
  obtain ⟨u4, hu4, h⟩ := q_bind h
  refine xFz (wc := ([] : va_W)) (w1 := ([] : va_W)) (wr := ([] : va_W)) (ws2 := ([] : va_W)) (va_runS (As := [.int (a1 - (65 : Int32))]) (rest := []) ⟨hx, hb, hml, hown, htl⟩ (c_X5_isOne l D cI cJ cZ n  H.size  (a1 - (65 : Int32)) u4 hu4) (va_cwS 1 htl (gS W_107 W_108 W_2 W_109) rfl rfl rfl (by decide +kernel) ⟨Nat.le_of_ble_eq_true rfl, Nat.le_of_ble_eq_true rfl⟩) (xPS hP hD hK hN) rfl rfl hl.1 rfl (lv_room (Nat.le_of_ble_eq_true rfl)) (dAt zX5_isLetter_0 3 rfl) ⟨Nat.zero_le _, Nat.zero_le _⟩) hS hA hP hD [] [] [] rfl rfl (by decide) (by decide) rfl (by decide) (fun H locs hz4 hP hD hS => ?_)
  obtain ⟨hzz, h⟩ := q_z h
  obtain rfl := q_some h
  exact xRz hx hb hr hlocks hQ hAe hP hD hK hS rfl hzz (dAt zX5_isLetter_0 4 rfl)
def m_X2_dueAfter (n : Nat) (a1 : Int32) (a2 : Int32) : Option Int32 := (if a1 = 1 then (if a2 = 100 then some 0 else (if a2 = 62 then some 0 else ((m_X2_isOfTwo n  a2).bind fun u20 => (if u20 = 0 then some 3 else some 2)))) else (if a1 = 0 then ((m_X2_isOfNobody n  a2).bind fun u37 => (if u37 = 0 then ((m_X5_isLetter n  a2).bind fun u46 => (if u46 = 0 then some 3 else (if a1 = 0 then some 1 else some 0))) else some 0)) else ((m_X5_isLetter n  a2).bind fun u46 => (if u46 = 0 then some 3 else (if a1 = 0 then some 1 else some 0)))))
set_option maxHeartbeats 4000000 in
set_option maxRecDepth 100000 in
theorem c_X2_dueAfter (l : Launch) (D : va_G) (cI cJ cZ : ClassId) (n : Nat)  (sz : Nat) (a1 : Int32) (a2 : Int32) (out : Int32) (hm : m_X2_dueAfter n a1 a2 = some out) : Met l yX2_dueAfter (wsM yX2_dueAfter cX2_dueAfter 2 (some .int)) { frames := 2, cells := 0, slots := 0, locals := 40 } (xPre D (kT cI cJ cZ) ([] : va_W) sz [.int a1, .int a2]) (xQi D (kT cI cJ cZ) ([] : va_W) ([] : va_W) sz out) 0 0 (va_A ([] : va_W) sz) := by
  refine Met.ofW (cc := cX2_dueAfter) (maxL := 2) (ret := (some .int)) (by decide) rfl ?_
  intro p e s m args below meth c s₁ B hml hv
  obtain ⟨hv, hsz, hP, hK, hD0, hN⟩ := hv
  have hx := B.exec; have hb := B.bytes; have hr := B.returns
  have hts := atoms_spec (ws := (wsM yX2_dueAfter cX2_dueAfter 2 (some .int))) B.pre
  have hown : s.vm.findClass RX2 = some m.cls := findClass_of_methodNamed B.named
  have hlocks := B.notSynchronized
  subst hsz
  have hD := hD0.self (sz := s.heap.size)
  obtain ⟨A, hAe⟩ : ∃ A, A = va_A ([] : va_W) s.heap.size := ⟨_, rfl⟩
  rw [← hAe] at hD
  have hA : ∀ q : Nat, s.heap.size ≤ q → A q := fun q h => by rw [hAe]; exact Or.inr h
  have htl : ∀ w ∈ wsL_law, w.before args s = true := fun w h => hts w (List.mem_cons_of_mem _ h)
  refine xHead (R' := { frames := 2, cells := 0, slots := 0, locals := 40 }) rfl (fun Q H hQ hH => ?_)
  have hP : va_P D vwCl ([] : va_W) H := by rw [hH]; exact hP
  have hS : va_S A s.heap H [] := by rw [hH]; exact va_S.rf
  refine xStart hv (Nat.le_of_ble_eq_true rfl) (lv := [(0, .int a1), (1, .int a2)]) rfl (fun ls hl => ?_)
  have h := hm
  unfold m_X2_dueAfter at h
  refine lv_iload_n hx hb (dAt zX2_dueAfter_0 0 rfl) rfl (lv_at hl 0 rfl) ?_
  refine lv_iconst (v := 1) hx hb (dAt zX2_dueAfter_0 1 rfl) (by decide) ?_
  refine lv_icmp_ne (tgt := 32) hx hb (dAt zX2_dueAfter_0 2 rfl) (by decide) (fun c_2 => ?_) (fun c_2 => ?_)
  · have h := q_neg c_2 h
    refine lv_iload_n hx hb (dAt zX2_dueAfter_0 18 rfl) rfl (lv_at hl 0 rfl) ?_
    refine lv_if_ne (tgt := 45) hx hb (dAt zX2_dueAfter_0 19 rfl) (by decide) (fun c_33 => ?_) (fun c_33 => ?_)
    · have h := q_neg c_33 h
      refine lv_iload_n hx hb (dAt zX2_dueAfter_0 25 rfl) rfl (lv_at hl 1 rfl) ?_
      obtain ⟨u46, hu46, h⟩ := q_bind h
      refine xFz (wc := ([] : va_W)) (w1 := ([] : va_W)) (wr := ([] : va_W)) (ws2 := ([] : va_W)) (va_runSN (host := RX5) (As := [.int a2]) (rest := []) ⟨hx, hb, hml, hown, htl⟩ (c_X5_isLetter l D cI cJ cZ n  H.size  a2 u46 hu46) ⟨va_cnB 1 htl (gM W_233) rfl rfl rfl hN.2.1 (htl _ W_2) (by decide +kernel) ⟨Nat.le_of_ble_eq_true rfl, Nat.le_of_ble_eq_true rfl⟩, htl _ W_232, trivial⟩ (xPS hP hD hK hN) rfl rfl hl.1 rfl (lv_room (Nat.le_of_ble_eq_true rfl)) (dAt zX2_dueAfter_0 26 rfl) ⟨Nat.zero_le _, Nat.zero_le _⟩) hS hA hP hD [] [] [] rfl rfl (by decide) (by decide) rfl (by decide) (fun H locs hz46 hP hD hS => ?_)
      refine lv_if_ne (tgt := 54) hx hb (dAt zX2_dueAfter_0 27 rfl) (by decide) (fun c_49 => ?_) (fun c_49 => ?_)
      · have h := q_neg c_49 h
        refine lv_iload_n hx hb (dAt zX2_dueAfter_0 30 rfl) rfl (lv_at hl 0 rfl) ?_
        refine lv_if_ne (tgt := 62) hx hb (dAt zX2_dueAfter_0 31 rfl) (by decide) (fun c_55 => ?_) (fun c_55 => ?_)
        · have h := q_neg c_55 h
          refine lv_iconst (v := 0) hx hb (dAt zX2_dueAfter_0 34 rfl) (by decide) ?_
          obtain rfl := q_some h
          exact xRi hx hb hr hlocks hQ hAe hP hD hK hS rfl (dAt zX2_dueAfter_0 35 rfl)
        · have h := q_pos c_55 h
          refine lv_iconst (v := 1) hx hb (dAt zX2_dueAfter_0 32 rfl) (by decide) ?_
          refine lv_goto (tgt := 63) hx hb (dAt zX2_dueAfter_0 33 rfl) (by decide) ?_
          obtain rfl := q_some h
          exact xRi hx hb hr hlocks hQ hAe hP hD hK hS rfl (dAt zX2_dueAfter_0 35 rfl)
      · have h := q_pos c_49 h
        refine lv_iconst (v := 3) hx hb (dAt zX2_dueAfter_0 28 rfl) (by decide) ?_
        obtain rfl := q_some h
        exact xRi hx hb hr hlocks hQ hAe hP hD hK hS rfl (dAt zX2_dueAfter_0 29 rfl)
    · have h := q_pos c_33 h
      refine lv_iload_n hx hb (dAt zX2_dueAfter_0 20 rfl) rfl (lv_at hl 1 rfl) ?_
      obtain ⟨u37, hu37, h⟩ := q_bind h
      refine xFz (wc := ([] : va_W)) (w1 := ([] : va_W)) (wr := ([] : va_W)) (ws2 := ([] : va_W)) (va_runS (As := [.int a2]) (rest := []) ⟨hx, hb, hml, hown, htl⟩ (c_X2_isOfNobody l D cI cJ cZ n  H.size  a2 u37 hu37) (va_cwS 1 htl (gS W_229 W_230 W_21 W_231) rfl rfl rfl (by decide +kernel) ⟨Nat.le_of_ble_eq_true rfl, Nat.le_of_ble_eq_true rfl⟩) (xPS hP hD hK hN) rfl rfl hl.1 rfl (lv_room (Nat.le_of_ble_eq_true rfl)) (dAt zX2_dueAfter_0 21 rfl) ⟨Nat.zero_le _, Nat.zero_le _⟩) hS hA hP hD [] [] [] rfl rfl (by decide) (by decide) rfl (by decide) (fun H locs hz37 hP hD hS => ?_)
      refine lv_if_eq (tgt := 45) hx hb (dAt zX2_dueAfter_0 22 rfl) (by decide) (fun c_40 => ?_) (fun c_40 => ?_)
      · have h := q_pos c_40 h
        refine lv_iload_n hx hb (dAt zX2_dueAfter_0 25 rfl) rfl (lv_at hl 1 rfl) ?_
        obtain ⟨u46, hu46, h⟩ := q_bind h
        refine xFz (wc := ([] : va_W)) (w1 := ([] : va_W)) (wr := ([] : va_W)) (ws2 := ([] : va_W)) (va_runSN (host := RX5) (As := [.int a2]) (rest := []) ⟨hx, hb, hml, hown, htl⟩ (c_X5_isLetter l D cI cJ cZ n  H.size  a2 u46 hu46) ⟨va_cnB 1 htl (gM W_233) rfl rfl rfl hN.2.1 (htl _ W_2) (by decide +kernel) ⟨Nat.le_of_ble_eq_true rfl, Nat.le_of_ble_eq_true rfl⟩, htl _ W_232, trivial⟩ (xPS hP hD hK hN) rfl rfl hl.1 rfl (lv_room (Nat.le_of_ble_eq_true rfl)) (dAt zX2_dueAfter_0 26 rfl) ⟨Nat.zero_le _, Nat.zero_le _⟩) hS hA hP hD [] [] [] rfl rfl (by decide) (by decide) rfl (by decide) (fun H locs hz46 hP hD hS => ?_)
        refine lv_if_ne (tgt := 54) hx hb (dAt zX2_dueAfter_0 27 rfl) (by decide) (fun c_49 => ?_) (fun c_49 => ?_)
        · have h := q_neg c_49 h
          refine lv_iload_n hx hb (dAt zX2_dueAfter_0 30 rfl) rfl (lv_at hl 0 rfl) ?_
          refine lv_if_ne (tgt := 62) hx hb (dAt zX2_dueAfter_0 31 rfl) (by decide) (fun c_55 => ?_) (fun c_55 => ?_)
          · have h := q_neg c_55 h
            refine lv_iconst (v := 0) hx hb (dAt zX2_dueAfter_0 34 rfl) (by decide) ?_
            obtain rfl := q_some h
            exact xRi hx hb hr hlocks hQ hAe hP hD hK hS rfl (dAt zX2_dueAfter_0 35 rfl)
          · have h := q_pos c_55 h
            refine lv_iconst (v := 1) hx hb (dAt zX2_dueAfter_0 32 rfl) (by decide) ?_
            refine lv_goto (tgt := 63) hx hb (dAt zX2_dueAfter_0 33 rfl) (by decide) ?_
            obtain rfl := q_some h
            exact xRi hx hb hr hlocks hQ hAe hP hD hK hS rfl (dAt zX2_dueAfter_0 35 rfl)
        · have h := q_pos c_49 h
          refine lv_iconst (v := 3) hx hb (dAt zX2_dueAfter_0 28 rfl) (by decide) ?_
          obtain rfl := q_some h
          exact xRi hx hb hr hlocks hQ hAe hP hD hK hS rfl (dAt zX2_dueAfter_0 29 rfl)
      · have h := q_neg c_40 h
        refine lv_iconst (v := 0) hx hb (dAt zX2_dueAfter_0 23 rfl) (by decide) ?_
        obtain rfl := q_some h
        exact xRi hx hb hr hlocks hQ hAe hP hD hK hS rfl (dAt zX2_dueAfter_0 24 rfl)
  · have h := q_pos c_2 h
    refine lv_iload_n hx hb (dAt zX2_dueAfter_0 3 rfl) rfl (lv_at hl 1 rfl) ?_
    refine lv_bipush (v := 100) hx hb (dAt zX2_dueAfter_0 4 rfl) (by decide) ?_
    refine lv_icmp_eq (tgt := 17) hx hb (dAt zX2_dueAfter_0 5 rfl) (by decide) (fun c_8 => ?_) (fun c_8 => ?_)
    · have h := q_pos c_8 h
      refine lv_iconst (v := 0) hx hb (dAt zX2_dueAfter_0 9 rfl) (by decide) ?_
      obtain rfl := q_some h
      exact xRi hx hb hr hlocks hQ hAe hP hD hK hS rfl (dAt zX2_dueAfter_0 10 rfl)
    · have h := q_neg c_8 h
      refine lv_iload_n hx hb (dAt zX2_dueAfter_0 6 rfl) rfl (lv_at hl 1 rfl) ?_
      refine lv_bipush (v := 62) hx hb (dAt zX2_dueAfter_0 7 rfl) (by decide) ?_
      refine lv_icmp_ne (tgt := 19) hx hb (dAt zX2_dueAfter_0 8 rfl) (by decide) (fun c_14 => ?_) (fun c_14 => ?_)
      · have h := q_neg c_14 h
        refine lv_iload_n hx hb (dAt zX2_dueAfter_0 11 rfl) rfl (lv_at hl 1 rfl) ?_
        obtain ⟨u20, hu20, h⟩ := q_bind h
        refine xFz (wc := ([] : va_W)) (w1 := ([] : va_W)) (wr := ([] : va_W)) (ws2 := ([] : va_W)) (va_runS (As := [.int a2]) (rest := []) ⟨hx, hb, hml, hown, htl⟩ (c_X2_isOfTwo l D cI cJ cZ n  H.size  a2 u20 hu20) (va_cwS 1 htl (gS W_226 W_227 W_21 W_228) rfl rfl rfl (by decide +kernel) ⟨Nat.le_of_ble_eq_true rfl, Nat.le_of_ble_eq_true rfl⟩) (xPS hP hD hK hN) rfl rfl hl.1 rfl (lv_room (Nat.le_of_ble_eq_true rfl)) (dAt zX2_dueAfter_0 12 rfl) ⟨Nat.zero_le _, Nat.zero_le _⟩) hS hA hP hD [] [] [] rfl rfl (by decide) (by decide) rfl (by decide) (fun H locs hz20 hP hD hS => ?_)
        refine lv_if_eq (tgt := 30) hx hb (dAt zX2_dueAfter_0 13 rfl) (by decide) (fun c_23 => ?_) (fun c_23 => ?_)
        · have h := q_pos c_23 h
          refine lv_iconst (v := 3) hx hb (dAt zX2_dueAfter_0 16 rfl) (by decide) ?_
          obtain rfl := q_some h
          exact xRi hx hb hr hlocks hQ hAe hP hD hK hS rfl (dAt zX2_dueAfter_0 17 rfl)
        · have h := q_neg c_23 h
          refine lv_iconst (v := 2) hx hb (dAt zX2_dueAfter_0 14 rfl) (by decide) ?_
          refine lv_goto (tgt := 31) hx hb (dAt zX2_dueAfter_0 15 rfl) (by decide) ?_
          obtain rfl := q_some h
          exact xRi hx hb hr hlocks hQ hAe hP hD hK hS rfl (dAt zX2_dueAfter_0 17 rfl)
      · have h := q_pos c_14 h
        refine lv_iconst (v := 0) hx hb (dAt zX2_dueAfter_0 9 rfl) (by decide) ?_
        obtain rfl := q_some h
        exact xRi hx hb hr hlocks hQ hAe hP hD hK hS rfl (dAt zX2_dueAfter_0 10 rfl)
def b_X2_firstFault_4 (n : Nat) (zP : TI) (s_4 : Int32 × Int32) (k_4 : Int32 × Int32 → Option Int32) : Option Int32 := (if (zP 0 1) ≤ s_4.2 then (if s_4.1 = 0 then some (-6) else some (zP 0 1)) else ((m_X2_signAt n zP s_4.2).bind fun u15 => ((m_X2_dueAfter n  s_4.1 u15).bind fun u18 => (if u18 = 3 then some s_4.2 else (k_4 (u18, (s_4.2 + 1)))))))
def m_X2_firstFault (n : Nat) (zP : TI) : Option Int32 := (loopF (b_X2_firstFault_4 n zP ) n (0, 0))
set_option maxHeartbeats 4000000 in
set_option maxRecDepth 100000 in
theorem c_X2_firstFault (l : Launch) (D : va_G) (cI cJ cZ : ClassId) (n : Nat) (qP : Nat → Nat) (sz : Nat) (zP : TI) (out : Int32) (hm : m_X2_firstFault n zP = some out) : Met l yX2_firstFault (wsM yX2_firstFault cX2_firstFault 3 (some .int)) { frames := 3, cells := 0, slots := 0, locals := 61 } (xPre D (kT cI cJ cZ) (w2 cI qP zP) sz [.ref (qP 0)]) (xQi D (kT cI cJ cZ) (w2 cI qP zP) (w2 cI qP zP) sz out) 0 0 (va_A (w2 cI qP zP) sz) := by
  refine Met.ofW (cc := cX2_firstFault) (maxL := 3) (ret := (some .int)) (by decide) rfl ?_
  intro p e s m args below meth c s₁ B hml hv
  obtain ⟨hv, hsz, hP, hK, hD0, hN⟩ := hv
  have hx := B.exec; have hb := B.bytes; have hr := B.returns
  have hts := atoms_spec (ws := (wsM yX2_firstFault cX2_firstFault 3 (some .int))) B.pre
  have hown : s.vm.findClass RX2 = some m.cls := findClass_of_methodNamed B.named
  have hlocks := B.notSynchronized
  subst hsz
  have hD := hD0.self (sz := s.heap.size)
  obtain ⟨A, hAe⟩ : ∃ A, A = va_A (w2 cI qP zP) s.heap.size := ⟨_, rfl⟩
  rw [← hAe] at hD
  have hA : ∀ q : Nat, s.heap.size ≤ q → A q := fun q h => by rw [hAe]; exact Or.inr h
  have htl : ∀ w ∈ wsL_law, w.before args s = true := fun w h => hts w (List.mem_cons_of_mem _ h)
  refine xHead (R' := { frames := 3, cells := 0, slots := 0, locals := 61 }) rfl (fun Q H hQ hH => ?_)
  have hP : va_P D vwCl (w2 cI qP zP) H := by rw [hH]; exact hP
  have hS : va_S A s.heap H [] := by rw [hH]; exact va_S.rf
  refine xStart hv (Nat.le_of_ble_eq_true rfl) (lv := [(0, .ref (qP 0))]) rfl (fun ls hl => ?_)
  have h := hm
  unfold m_X2_firstFault at h
  refine lv_iconst (v := 0) hx hb (dAt zX2_firstFault_0 0 rfl) (by decide) ?_
  refine lv_istore_n (lv' := [(1, .int 0), (0, .ref (qP 0))]) hx hb (dAt zX2_firstFault_0 1 rfl) rfl hl (by decide) rfl (fun ls hl => ?_)
  refine lv_iconst (v := 0) hx hb (dAt zX2_firstFault_0 2 rfl) (by decide) ?_
  refine lv_istore_n (lv' := [(2, .int 0), (1, .int 0), (0, .ref (qP 0))]) hx hb (dAt zX2_firstFault_0 3 rfl) rfl hl (by decide) rfl (fun ls hl => ?_)
  have L_4 : ∀ (j_4 : Nat) (v1_4 : Int32) (v2_4 : Int32) (H : Heap) (locs : List Loc) (ls : Array Slot), loopF (b_X2_firstFault_4 n zP) j_4 (v1_4, v2_4) = some out → va_P D vwCl (w2 cI qP zP) H → va_D A (w2 cI qP zP) → va_S A s.heap H locs → lv_has ls 3 [(0, .ref (qP 0)), (1, .int v1_4), (2, .int v2_4)] → W p l e { frames := 3, cells := 0, slots := 0, locals := 61 } s m args below meth c H locs 0 0 Q (F0 m 4 ls []) := by
    intro j_4
    induction j_4 with
    | zero => intro v1_4 v2_4 H locs ls h hP hD hS hl; exact loopF_0 h
    | succ j_4 ih_4 =>
      intro v1_4 v2_4 H locs ls h hP hD hS hl
      have h := loopF_s h
      unfold b_X2_firstFault_4 at h
      refine lv_iload_n hx hb (dAt zX2_firstFault_0 4 rfl) rfl (lv_at hl 2 rfl) ?_
      refine lv_aload_n hx hb (dAt zX2_firstFault_0 5 rfl) rfl (lv_at hl 0 rfl) ?_
      refine va_get (D := D) (ci := 2) (v := .int (zP 0 1)) (C := RX2) (T := TX2) (N := 2) hx hb htl inlX2 hown hK hP 0 rfl rfl 1 (by decide) (htl _ W_53) (fun _ h9 => h9) rfl (dAt zX2_firstFault_0 6 rfl) ?_
      refine lv_icmp_ge (tgt := 35) hx hb (dAt zX2_firstFault_0 7 rfl) (by decide) (fun c_9 => ?_) (fun c_9 => ?_)
      · have h := q_pos c_9 h
        refine lv_iload_n hx hb (dAt zX2_firstFault_0 21 rfl) rfl (lv_at hl 1 rfl) ?_
        refine lv_if_ne (tgt := 44) hx hb (dAt zX2_firstFault_0 22 rfl) (by decide) (fun c_36 => ?_) (fun c_36 => ?_)
        · have h := q_neg c_36 h
          refine lv_aload_n hx hb (dAt zX2_firstFault_0 25 rfl) rfl (lv_at hl 0 rfl) ?_
          refine va_get (D := D) (ci := 2) (v := .int (zP 0 1)) (C := RX2) (T := TX2) (N := 2) hx hb htl inlX2 hown hK hP 0 rfl rfl 1 (by decide) (htl _ W_53) (fun _ h9 => h9) rfl (dAt zX2_firstFault_0 26 rfl) ?_
          obtain rfl := q_some h
          exact xRi hx hb hr hlocks hQ hAe hP hD hK hS rfl (dAt zX2_firstFault_0 27 rfl)
        · have h := q_pos c_36 h
          refine lv_bipush (v := (-6)) hx hb (dAt zX2_firstFault_0 23 rfl) (by decide) ?_
          refine lv_goto (tgt := 48) hx hb (dAt zX2_firstFault_0 24 rfl) (by decide) ?_
          obtain rfl := q_some h
          exact xRi hx hb hr hlocks hQ hAe hP hD hK hS rfl (dAt zX2_firstFault_0 27 rfl)
      · have h := q_neg c_9 h
        refine lv_iload_n hx hb (dAt zX2_firstFault_0 8 rfl) rfl (lv_at hl 1 rfl) ?_
        refine lv_aload_n hx hb (dAt zX2_firstFault_0 9 rfl) rfl (lv_at hl 0 rfl) ?_
        refine lv_iload_n hx hb (dAt zX2_firstFault_0 10 rfl) rfl (lv_at hl 2 rfl) ?_
        obtain ⟨u15, hu15, h⟩ := q_bind h
        refine xFi (wc := (w2 cI qP zP)) (w1 := (w2 cI qP zP)) (wr := ([] : va_W)) (ws2 := (w2 cI qP zP)) (va_runV (As := [.int v2_4]) (rest := [.int v1_4]) ⟨hx, hb, hml, hown, htl⟩ (c_X2_signAt l D cI cJ cZ n qP H.size zP v2_4 u15 hu15) (cwV 1 htl (gV W_219 W_220 W_221 W_21 W_222) rfl rfl rfl (by decide +kernel) ⟨Nat.le_of_ble_eq_true rfl, Nat.le_of_ble_eq_true rfl⟩) (xPV hP hD hK hN 0 rfl rfl) rfl rfl hl.1 rfl (lv_room (Nat.le_of_ble_eq_true rfl)) (dAt zX2_firstFault_0 11 rfl) ⟨Nat.zero_le _, Nat.zero_le _⟩) hS hA hP hD [0, 1] [] [0, 1] rfl rfl (by decide) (by decide) rfl (by decide) (fun H locs hP hD hS => ?_)
        obtain ⟨u18, hu18, h⟩ := q_bind h
        refine xFi (wc := ([] : va_W)) (w1 := ([] : va_W)) (wr := (w2 cI qP zP)) (ws2 := (w2 cI qP zP)) (va_runS (As := [.int v1_4, .int u15]) (rest := []) ⟨hx, hb, hml, hown, htl⟩ (c_X2_dueAfter l D cI cJ cZ n  H.size  v1_4 u15 u18 hu18) (va_cwS 2 htl (gS W_223 W_224 W_21 W_225) rfl rfl rfl (by decide +kernel) ⟨Nat.le_of_ble_eq_true rfl, Nat.le_of_ble_eq_true rfl⟩) (xPS xP0 (xD0 A) hK hN) rfl rfl hl.1 rfl (lv_room (Nat.le_of_ble_eq_true rfl)) (dAt zX2_firstFault_0 12 rfl) ⟨Nat.zero_le _, Nat.zero_le _⟩) hS hA hP hD [] [0, 1] [0, 1] rfl rfl (by decide) (by decide) rfl (by decide) (fun H locs hP hD hS => ?_)
        refine lv_istore_n (lv' := [(1, .int u18), (0, .ref (qP 0)), (2, .int v2_4)]) hx hb (dAt zX2_firstFault_0 13 rfl) rfl hl (by decide) rfl (fun ls hl => ?_)
        refine lv_iload_n hx hb (dAt zX2_firstFault_0 14 rfl) rfl (lv_at hl 0 rfl) ?_
        refine lv_iconst (v := 3) hx hb (dAt zX2_firstFault_0 15 rfl) (by decide) ?_
        refine lv_icmp_ne (tgt := 29) hx hb (dAt zX2_firstFault_0 16 rfl) (by decide) (fun c_24 => ?_) (fun c_24 => ?_)
        · have h := q_neg c_24 h
          refine lv_iinc (v := (v2_4 + 1)) (lv' := [(2, .int (v2_4 + 1)), (1, .int u18), (0, .ref (qP 0))]) hx hb (dAt zX2_firstFault_0 19 rfl) hl (k := 2) rfl rfl (by decide) rfl (fun ls hl => ?_)
          refine lv_goto (tgt := 4) hx hb (dAt zX2_firstFault_0 20 rfl) (by decide) ?_
          exact ih_4 u18 (v2_4 + 1) _ _ _ h hP hD hS (lv_sub hl [2, 1, 0] rfl)
        · have h := q_pos c_24 h
          refine lv_iload_n hx hb (dAt zX2_firstFault_0 17 rfl) rfl (lv_at hl 2 rfl) ?_
          obtain rfl := q_some h
          exact xRi hx hb hr hlocks hQ hAe hP hD hK hS rfl (dAt zX2_firstFault_0 18 rfl)
  exact L_4 n 0 0 _ _ _ h hP hD hS (lv_sub hl [2, 1, 0] rfl)
def m_X5_fault (n : Nat) (zX : TI) (zT : TI) (zI : TI) (zJ : TI) (zP : TI) (zC : TI) (zV : TI) (zF : TI) (zA : TL) : Option Int32 := ((m_X2_firstFault n zP).bind fun u4 => some u4)
set_option maxHeartbeats 4000000 in
set_option maxRecDepth 100000 in
theorem c_X5_fault (l : Launch) (D : va_G) (cI cJ cZ : ClassId) (n : Nat) (qX : Nat → Nat) (qT : Nat → Nat) (qI : Nat → Nat) (qJ : Nat → Nat) (qP : Nat → Nat) (qC : Nat → Nat) (qV : Nat → Nat) (qF : Nat → Nat) (qA : Nat → Nat) (sz : Nat) (zX : TI) (zT : TI) (zI : TI) (zJ : TI) (zP : TI) (zC : TI) (zV : TI) (zF : TI) (zA : TL) (out : Int32) (hm : m_X5_fault n zX zT zI zJ zP zC zV zF zA = some out) : Met l yX5_fault (wsM yX5_fault cX5_fault 1 (some .int)) { frames := 4, cells := 0, slots := 0, locals := 83 } (xPre D (kT cI cJ cZ) (w5 qX qT qI qJ qP qC qF qA zX ++ (w4 cI qT zT ++ (w4 cI qI zI ++ (w4 cI qJ zJ ++ (w2 cI qP zP ++ (w1 qC qV zC ++ (w4 cI qV zV ++ (w3 cI qF zF ++ (w0 cJ qA zA))))))))) sz [.ref (qX 0)]) (xQi D (kT cI cJ cZ) (w5 qX qT qI qJ qP qC qF qA zX ++ (w4 cI qT zT ++ (w4 cI qI zI ++ (w4 cI qJ zJ ++ (w2 cI qP zP ++ (w1 qC qV zC ++ (w4 cI qV zV ++ (w3 cI qF zF ++ (w0 cJ qA zA))))))))) (w5 qX qT qI qJ qP qC qF qA zX ++ (w4 cI qT zT ++ (w4 cI qI zI ++ (w4 cI qJ zJ ++ (w2 cI qP zP ++ (w1 qC qV zC ++ (w4 cI qV zV ++ (w3 cI qF zF ++ (w0 cJ qA zA))))))))) sz out) 0 0 (va_A (w5 qX qT qI qJ qP qC qF qA zX ++ (w4 cI qT zT ++ (w4 cI qI zI ++ (w4 cI qJ zJ ++ (w2 cI qP zP ++ (w1 qC qV zC ++ (w4 cI qV zV ++ (w3 cI qF zF ++ (w0 cJ qA zA))))))))) sz) := by
  refine Met.ofW (cc := cX5_fault) (maxL := 1) (ret := (some .int)) (by decide) rfl ?_
  intro p e s m args below meth c s₁ B hml hv
  obtain ⟨hv, hsz, hP, hK, hD0, hN⟩ := hv
  have hx := B.exec; have hb := B.bytes; have hr := B.returns
  have hts := atoms_spec (ws := (wsM yX5_fault cX5_fault 1 (some .int))) B.pre
  have hown : s.vm.findClass RX5 = some m.cls := findClass_of_methodNamed B.named
  have hlocks := B.notSynchronized
  subst hsz
  have hD := hD0.self (sz := s.heap.size)
  obtain ⟨A, hAe⟩ : ∃ A, A = va_A (w5 qX qT qI qJ qP qC qF qA zX ++ (w4 cI qT zT ++ (w4 cI qI zI ++ (w4 cI qJ zJ ++ (w2 cI qP zP ++ (w1 qC qV zC ++ (w4 cI qV zV ++ (w3 cI qF zF ++ (w0 cJ qA zA))))))))) s.heap.size := ⟨_, rfl⟩
  rw [← hAe] at hD
  have hA : ∀ q : Nat, s.heap.size ≤ q → A q := fun q h => by rw [hAe]; exact Or.inr h
  have htl : ∀ w ∈ wsL_law, w.before args s = true := fun w h => hts w (List.mem_cons_of_mem _ h)
  refine xHead (R' := { frames := 4, cells := 0, slots := 0, locals := 83 }) rfl (fun Q H hQ hH => ?_)
  have hP : va_P D vwCl (w5 qX qT qI qJ qP qC qF qA zX ++ (w4 cI qT zT ++ (w4 cI qI zI ++ (w4 cI qJ zJ ++ (w2 cI qP zP ++ (w1 qC qV zC ++ (w4 cI qV zV ++ (w3 cI qF zF ++ (w0 cJ qA zA))))))))) H := by rw [hH]; exact hP
  have hS : va_S A s.heap H [] := by rw [hH]; exact va_S.rf
  refine xStart hv (Nat.le_of_ble_eq_true rfl) (lv := [(0, .ref (qX 0))]) rfl (fun ls hl => ?_)
  have h := hm
  unfold m_X5_fault at h
  refine lv_aload_n hx hb (dAt zX5_fault_0 0 rfl) rfl (lv_at hl 0 rfl) ?_
  refine va_get (D := D) (ci := 5) (v := .ref (qP 0)) (C := RX5) (T := TX5) (N := 8) hx hb htl inlX5 hown hK hP 0 rfl rfl 4 (by decide) (htl _ W_22) (fun _ h9 => h9) rfl (dAt zX5_fault_0 1 rfl) ?_
  obtain ⟨u4, hu4, h⟩ := q_bind h
  have hPc : va_P D vwCl (w2 cI qP zP) H := hP.sub [16, 17] rfl
  have hDc : va_D A (w2 cI qP zP) := hD.sub [16, 17] (by decide) rfl
  refine xFi (wc := (w2 cI qP zP)) (w1 := (w2 cI qP zP)) (wr := (w5 qX qT qI qJ qP qC qF qA zX ++ (w4 cI qT zT ++ (w4 cI qI zI ++ (w4 cI qJ zJ ++ (w1 qC qV zC ++ (w4 cI qV zV ++ (w3 cI qF zF ++ (w0 cJ qA zA))))))))) (ws2 := (w5 qX qT qI qJ qP qC qF qA zX ++ (w4 cI qT zT ++ (w4 cI qI zI ++ (w4 cI qJ zJ ++ (w2 cI qP zP ++ (w1 qC qV zC ++ (w4 cI qV zV ++ (w3 cI qF zF ++ (w0 cJ qA zA)))))))))) (va_runV (As := []) (rest := []) ⟨hx, hb, hml, hown, htl⟩ (c_X2_firstFault l D cI cJ cZ n qP H.size zP  u4 hu4) (cwV 0 htl (gV W_215 W_216 W_217 W_21 W_218) rfl rfl rfl (by decide +kernel) ⟨Nat.le_of_ble_eq_true rfl, Nat.le_of_ble_eq_true rfl⟩) (xPV hPc hDc hK hN 0 rfl rfl) rfl rfl hl.1 rfl (lv_room (Nat.le_of_ble_eq_true rfl)) (dAt zX5_fault_0 2 rfl) ⟨Nat.zero_le _, Nat.zero_le _⟩) hS hA hP hD [16, 17] [0, 1, 2, 3, 4, 5, 6, 7, 8, 9, 10, 11, 12, 13, 14, 15, 18, 19, 20, 21, 22, 23, 24, 25, 26, 27, 28, 29] [0, 1, 2, 3, 4, 5, 6, 7, 8, 9, 10, 11, 12, 13, 14, 15, 28, 29, 16, 17, 18, 19, 20, 21, 22, 23, 24, 25, 26, 27] rfl rfl (by decide) (by decide) rfl (by decide) (fun H locs hP hD hS => ?_)
  obtain rfl := q_some h
  exact xRi hx hb hr hlocks hQ hAe hP hD hK hS rfl (dAt zX5_fault_0 3 rfl)
def b_X4_copyRow_2 (n : Nat) (nf : Nat) (zf : Nat → Int32) (ng : Nat) (s_2 : Int32 × (Nat → Int32)) (k_2 : Int32 × (Nat → Int32) → Option (Nat → Int32)) : Option (Nat → Int32) := (if (Int32.ofNat nf) ≤ s_2.1 then some s_2.2 else (if (Int32.ofNat ng) ≤ s_2.1 then some s_2.2 else (gd (inB s_2.1 nf) ((gd (inB s_2.1 ng) ((k_2 ((s_2.1 + 1), (upd s_2.2 (Int32.toNatClampNeg s_2.1) (zf (Int32.toNatClampNeg s_2.1)))))))))))
def m_X4_copyRow (n : Nat) (nf : Nat) (zf : Nat → Int32) (ng : Nat) (zg : Nat → Int32) : Option (Nat → Int32) := (loopF (b_X4_copyRow_2 n nf zf ng ) n (0, zg))
set_option maxHeartbeats 4000000 in
set_option maxRecDepth 100000 in
theorem c_X4_copyRow (l : Launch) (D : va_G) (cI cJ cZ : ClassId) (n : Nat) (af : Nat) (ag : Nat) (sz : Nat) (nf : Nat) (zf : Nat → Int32) (ng : Nat) (zg : Nat → Int32) (out : (Nat → Int32)) (hm : m_X4_copyRow n nf zf ng zg = some out) : Met l yX4_copyRow (wsM yX4_copyRow cX4_copyRow 3 none) { frames := 0, cells := 0, slots := 0, locals := 0 } (xPre D (kT cI cJ cZ) (wA cI af nf zf ++ (wA cI ag ng zg)) sz [.ref af, .ref ag]) (xQv D (kT cI cJ cZ) (wA cI af nf zf ++ (wA cI ag ng zg)) (wA cI af nf zf ++ (wA cI ag ng out)) sz) 0 0 (va_A (wA cI af nf zf ++ (wA cI ag ng zg)) sz) := by
  refine Met.ofW (cc := cX4_copyRow) (maxL := 3) (ret := none) (by decide) rfl ?_
  intro p e s m args below meth c s₁ B hml hv
  obtain ⟨hv, hsz, hP, hK, hD0, hN⟩ := hv
  have hx := B.exec; have hb := B.bytes; have hr := B.returns
  have hts := atoms_spec (ws := (wsM yX4_copyRow cX4_copyRow 3 none)) B.pre
  have hown : s.vm.findClass RX4 = some m.cls := findClass_of_methodNamed B.named
  have hlocks := B.notSynchronized
  subst hsz
  have hD := hD0.self (sz := s.heap.size)
  obtain ⟨A, hAe⟩ : ∃ A, A = va_A (wA cI af nf zf ++ (wA cI ag ng zg)) s.heap.size := ⟨_, rfl⟩
  rw [← hAe] at hD
  have hA : ∀ q : Nat, s.heap.size ≤ q → A q := fun q h => by rw [hAe]; exact Or.inr h
  have htl : ∀ w ∈ wsL_law, w.before args s = true := fun w h => hts w (List.mem_cons_of_mem _ h)
  refine xHead (R' := { frames := 0, cells := 0, slots := 0, locals := 0 }) rfl (fun Q H hQ hH => ?_)
  have hP : va_P D vwCl (wA cI af nf zf ++ (wA cI ag ng zg)) H := by rw [hH]; exact hP
  have hS : va_S A s.heap H [] := by rw [hH]; exact va_S.rf
  refine xStart hv (Nat.le_of_ble_eq_true rfl) (lv := [(0, .ref af), (1, .ref ag)]) rfl (fun ls hl => ?_)
  have h := hm
  unfold m_X4_copyRow at h
  refine lv_iconst (v := 0) hx hb (dAt zX4_copyRow_0 0 rfl) (by decide) ?_
  refine lv_istore_n (lv' := [(2, .int 0), (0, .ref af), (1, .ref ag)]) hx hb (dAt zX4_copyRow_0 1 rfl) rfl hl (by decide) rfl (fun ls hl => ?_)
  have L_2 : ∀ (j_2 : Nat) (v2_2 : Int32) (zg_2 : (Nat → Int32)) (H : Heap) (locs : List Loc) (ls : Array Slot), loopF (b_X4_copyRow_2 n nf zf ng) j_2 (v2_2, zg_2) = some out → va_P D vwCl (wA cI af nf zf ++ (wA cI ag ng zg_2)) H → va_D A (wA cI af nf zf ++ (wA cI ag ng zg_2)) → va_S A s.heap H locs → lv_has ls 3 [(0, .ref af), (1, .ref ag), (2, .int v2_2)] → W p l e { frames := 0, cells := 0, slots := 0, locals := 0 } s m args below meth c H locs 0 0 Q (F0 m 2 ls []) := by
    intro j_2
    induction j_2 with
    | zero => intro v2_2 zg_2 H locs ls h hP hD hS hl; exact loopF_0 h
    | succ j_2 ih_2 =>
      intro v2_2 zg_2 H locs ls h hP hD hS hl
      have h := loopF_s h
      unfold b_X4_copyRow_2 at h
      refine lv_iload_n hx hb (dAt zX4_copyRow_0 2 rfl) rfl (lv_at hl 2 rfl) ?_
      refine lv_aload_n hx hb (dAt zX4_copyRow_0 3 rfl) rfl (lv_at hl 0 rfl) ?_
      refine va_alen (ty := .int) (v := (Int32.ofNat nf)) hx hb hK hP 0 0 rfl rfl rfl (dAt zX4_copyRow_0 4 rfl) ?_
      refine lv_icmp_ge (tgt := 26) hx hb (dAt zX4_copyRow_0 5 rfl) (by decide) (fun c_5 => ?_) (fun c_5 => ?_)
      · have h := q_pos c_5 h
        obtain rfl := q_some h
        exact xRv hx hb hr hlocks hQ hAe hP hD hK hS (dAt zX4_copyRow_0 18 rfl)
      · have h := q_neg c_5 h
        refine lv_iload_n hx hb (dAt zX4_copyRow_0 6 rfl) rfl (lv_at hl 2 rfl) ?_
        refine lv_aload_n hx hb (dAt zX4_copyRow_0 7 rfl) rfl (lv_at hl 1 rfl) ?_
        refine va_alen (ty := .int) (v := (Int32.ofNat ng)) hx hb hK hP 1 0 rfl rfl rfl (dAt zX4_copyRow_0 8 rfl) ?_
        refine lv_icmp_ge (tgt := 26) hx hb (dAt zX4_copyRow_0 9 rfl) (by decide) (fun c_11 => ?_) (fun c_11 => ?_)
        · have h := q_pos c_11 h
          obtain rfl := q_some h
          exact xRv hx hb hr hlocks hQ hAe hP hD hK hS (dAt zX4_copyRow_0 18 rfl)
        · have h := q_neg c_11 h
          refine lv_aload_n hx hb (dAt zX4_copyRow_0 10 rfl) rfl (lv_at hl 1 rfl) ?_
          refine lv_iload_n hx hb (dAt zX4_copyRow_0 11 rfl) rfl (lv_at hl 2 rfl) ?_
          refine lv_aload_n hx hb (dAt zX4_copyRow_0 12 rfl) rfl (lv_at hl 0 rfl) ?_
          refine lv_iload_n hx hb (dAt zX4_copyRow_0 13 rfl) rfl (lv_at hl 2 rfl) ?_
          obtain ⟨hi_18, h⟩ := q_in h
          refine va_iald hx hb hK hP 0 0 rfl rfl hi_18 (dAt zX4_copyRow_0 14 rfl) ?_
          obtain ⟨hi_19, h⟩ := q_in h
          refine va_iast hx hb hK hP hD hS 1 0 rfl rfl hi_19 (dAt zX4_copyRow_0 15 rfl) (fun H locs hP hD hS => ?_)
          have hP : va_P D vwCl (wA cI af nf zf ++ (wA cI ag ng (upd zg_2 (Int32.toNatClampNeg v2_2) (zf (Int32.toNatClampNeg v2_2))))) H := hP
          have hD : va_D A (wA cI af nf zf ++ (wA cI ag ng (upd zg_2 (Int32.toNatClampNeg v2_2) (zf (Int32.toNatClampNeg v2_2))))) := hD
          refine lv_iinc (v := (v2_2 + 1)) (lv' := [(2, .int (v2_2 + 1)), (0, .ref af), (1, .ref ag)]) hx hb (dAt zX4_copyRow_0 16 rfl) hl (k := 2) rfl rfl (by decide) rfl (fun ls hl => ?_)
          refine lv_goto (tgt := 2) hx hb (dAt zX4_copyRow_0 17 rfl) (by decide) ?_
          exact ih_2 (v2_2 + 1) (upd zg_2 (Int32.toNatClampNeg v2_2) (zf (Int32.toNatClampNeg v2_2))) _ _ _ h hP hD hS (lv_sub hl [1, 2, 0] rfl)
  exact L_2 n 0 zg _ _ _ h hP hD hS (lv_sub hl [1, 2, 0] rfl)
def m_X4_copyFrom (n : Nat) (zT : TI) (zU : TI) : Option TI := ((m_X4_copyRow n 100 (zU 6) 100 (zT 6)).bind fun u53 => ((m_X4_copyRow n 100 (zU 7) 100 (zT 7)).bind fun u64 => ((m_X4_copyRow n 4 (zU 8) 4 (zT 8)).bind fun u75 => ((m_X4_copyRow n 8 (zU 9) 8 (zT 9)).bind fun u86 => some (sf (sf (sf (sf (sf (upA (upA (upA (upA zT 6 u53) 7 u64) 8 u75) 9 u86) 0 (zU 0 0)) 1 (zU 0 1)) 2 (zU 0 2)) 3 (zU 0 3)) 4 (zU 0 4))))))
set_option maxHeartbeats 4000000 in
set_option maxRecDepth 100000 in
theorem c_X4_copyFrom (l : Launch) (D : va_G) (cI cJ cZ : ClassId) (n : Nat) (qT : Nat → Nat) (qU : Nat → Nat) (sz : Nat) (zT : TI) (zU : TI) (out : TI) (hm : m_X4_copyFrom n zT zU = some out) : Met l yX4_copyFrom (wsM yX4_copyFrom cX4_copyFrom 2 none) { frames := 1, cells := 0, slots := 0, locals := 22 } (xPre D (kT cI cJ cZ) (w4 cI qT zT ++ (w4 cI qU zU)) sz [.ref (qT 0), .ref (qU 0)]) (xQv D (kT cI cJ cZ) (w4 cI qT zT ++ (w4 cI qU zU)) (w4 cI qT out ++ (w4 cI qU zU)) sz) 0 0 (va_A (w4 cI qT zT ++ (w4 cI qU zU)) sz) := by
  refine Met.ofW (cc := cX4_copyFrom) (maxL := 2) (ret := none) (by decide) rfl ?_
  intro p e s m args below meth c s₁ B hml hv
  obtain ⟨hv, hsz, hP, hK, hD0, hN⟩ := hv
  have hx := B.exec; have hb := B.bytes; have hr := B.returns
  have hts := atoms_spec (ws := (wsM yX4_copyFrom cX4_copyFrom 2 none)) B.pre
  have hown : s.vm.findClass RX4 = some m.cls := findClass_of_methodNamed B.named
  have hlocks := B.notSynchronized
  subst hsz
  have hD := hD0.self (sz := s.heap.size)
  obtain ⟨A, hAe⟩ : ∃ A, A = va_A (w4 cI qT zT ++ (w4 cI qU zU)) s.heap.size := ⟨_, rfl⟩
  rw [← hAe] at hD
  have hA : ∀ q : Nat, s.heap.size ≤ q → A q := fun q h => by rw [hAe]; exact Or.inr h
  have htl : ∀ w ∈ wsL_law, w.before args s = true := fun w h => hts w (List.mem_cons_of_mem _ h)
  refine xHead (R' := { frames := 1, cells := 0, slots := 0, locals := 22 }) rfl (fun Q H hQ hH => ?_)
  have hP : va_P D vwCl (w4 cI qT zT ++ (w4 cI qU zU)) H := by rw [hH]; exact hP
  have hS : va_S A s.heap H [] := by rw [hH]; exact va_S.rf
  refine xStart hv (Nat.le_of_ble_eq_true rfl) (lv := [(0, .ref (qT 0)), (1, .ref (qU 0))]) rfl (fun ls hl => ?_)
  have h := hm
  unfold m_X4_copyFrom at h
  refine lv_aload_n hx hb (dAt zX4_copyFrom_0 0 rfl) rfl (lv_at hl 1 rfl) ?_
  refine lv_ifnonnull (tgt := 5) hx hb (dAt zX4_copyFrom_0 1 rfl) (by decide) ?_
  refine lv_aload_n hx hb (dAt zX4_copyFrom_0 3 rfl) rfl (lv_at hl 0 rfl) ?_
  refine lv_aload_n hx hb (dAt zX4_copyFrom_0 4 rfl) rfl (lv_at hl 1 rfl) ?_
  refine va_get (D := D) (ci := 4) (v := .int (zU 0 0)) (C := RX4) (T := TX4) (N := 9) hx hb htl inlX4 hown hK hP 5 rfl rfl 0 (by decide) (htl _ W_39) (fun _ h9 => h9) rfl (dAt zX4_copyFrom_0 5 rfl) ?_
  refine va_put (D := D) (ci := 4) (v := .int (zU 0 0)) (ty := .int) (C := RX4) (T := TX4) (N := 9) hx hb htl inlX4 tyX4 tyX4_ok nmX4 hown hK hP hD hS 0 rfl rfl 0 (by decide) (htl _ W_39) (fun _ h9 => h9) rfl (by decide +kernel) rfl rfl (Nat.le_of_ble_eq_true rfl) (dAt zX4_copyFrom_0 6 rfl) (fun H locs hP hD hS => ?_)
  have hP : va_P D vwCl (w4x cI qT (zU 0 0) (zT 0 1) (zT 0 2) (zT 0 3) (zT 0 4) (zT 6) (zT 7) (zT 8) (zT 9) ++ (w4 cI qU zU)) H := hP
  have hD : va_D A (w4x cI qT (zU 0 0) (zT 0 1) (zT 0 2) (zT 0 3) (zT 0 4) (zT 6) (zT 7) (zT 8) (zT 9) ++ (w4 cI qU zU)) := hD
  refine lv_aload_n hx hb (dAt zX4_copyFrom_0 7 rfl) rfl (lv_at hl 0 rfl) ?_
  refine lv_aload_n hx hb (dAt zX4_copyFrom_0 8 rfl) rfl (lv_at hl 1 rfl) ?_
  refine va_get (D := D) (ci := 4) (v := .int (zU 0 1)) (C := RX4) (T := TX4) (N := 9) hx hb htl inlX4 hown hK hP 5 rfl rfl 1 (by decide) (htl _ W_40) (fun _ h9 => h9) rfl (dAt zX4_copyFrom_0 9 rfl) ?_
  refine va_put (D := D) (ci := 4) (v := .int (zU 0 1)) (ty := .int) (C := RX4) (T := TX4) (N := 9) hx hb htl inlX4 tyX4 tyX4_ok nmX4 hown hK hP hD hS 0 rfl rfl 1 (by decide) (htl _ W_40) (fun _ h9 => h9) rfl (by decide +kernel) rfl rfl (Nat.le_of_ble_eq_true rfl) (dAt zX4_copyFrom_0 10 rfl) (fun H locs hP hD hS => ?_)
  have hP : va_P D vwCl (w4x cI qT (zU 0 0) (zU 0 1) (zT 0 2) (zT 0 3) (zT 0 4) (zT 6) (zT 7) (zT 8) (zT 9) ++ (w4 cI qU zU)) H := hP
  have hD : va_D A (w4x cI qT (zU 0 0) (zU 0 1) (zT 0 2) (zT 0 3) (zT 0 4) (zT 6) (zT 7) (zT 8) (zT 9) ++ (w4 cI qU zU)) := hD
  refine lv_aload_n hx hb (dAt zX4_copyFrom_0 11 rfl) rfl (lv_at hl 0 rfl) ?_
  refine lv_aload_n hx hb (dAt zX4_copyFrom_0 12 rfl) rfl (lv_at hl 1 rfl) ?_
  refine va_get (D := D) (ci := 4) (v := .int (zU 0 2)) (C := RX4) (T := TX4) (N := 9) hx hb htl inlX4 hown hK hP 5 rfl rfl 2 (by decide) (htl _ W_41) (fun _ h9 => h9) rfl (dAt zX4_copyFrom_0 13 rfl) ?_
  refine va_put (D := D) (ci := 4) (v := .int (zU 0 2)) (ty := .int) (C := RX4) (T := TX4) (N := 9) hx hb htl inlX4 tyX4 tyX4_ok nmX4 hown hK hP hD hS 0 rfl rfl 2 (by decide) (htl _ W_41) (fun _ h9 => h9) rfl (by decide +kernel) rfl rfl (Nat.le_of_ble_eq_true rfl) (dAt zX4_copyFrom_0 14 rfl) (fun H locs hP hD hS => ?_)
  have hP : va_P D vwCl (w4x cI qT (zU 0 0) (zU 0 1) (zU 0 2) (zT 0 3) (zT 0 4) (zT 6) (zT 7) (zT 8) (zT 9) ++ (w4 cI qU zU)) H := hP
  have hD : va_D A (w4x cI qT (zU 0 0) (zU 0 1) (zU 0 2) (zT 0 3) (zT 0 4) (zT 6) (zT 7) (zT 8) (zT 9) ++ (w4 cI qU zU)) := hD
  refine lv_aload_n hx hb (dAt zX4_copyFrom_0 15 rfl) rfl (lv_at hl 0 rfl) ?_
  refine lv_aload_n hx hb (dAt zX4_copyFrom_0 16 rfl) rfl (lv_at hl 1 rfl) ?_
  refine va_get (D := D) (ci := 4) (v := .int (zU 0 3)) (C := RX4) (T := TX4) (N := 9) hx hb htl inlX4 hown hK hP 5 rfl rfl 3 (by decide) (htl _ W_42) (fun _ h9 => h9) rfl (dAt zX4_copyFrom_0 17 rfl) ?_
  refine va_put (D := D) (ci := 4) (v := .int (zU 0 3)) (ty := .int) (C := RX4) (T := TX4) (N := 9) hx hb htl inlX4 tyX4 tyX4_ok nmX4 hown hK hP hD hS 0 rfl rfl 3 (by decide) (htl _ W_42) (fun _ h9 => h9) rfl (by decide +kernel) rfl rfl (Nat.le_of_ble_eq_true rfl) (dAt zX4_copyFrom_0 18 rfl) (fun H locs hP hD hS => ?_)
  have hP : va_P D vwCl (w4x cI qT (zU 0 0) (zU 0 1) (zU 0 2) (zU 0 3) (zT 0 4) (zT 6) (zT 7) (zT 8) (zT 9) ++ (w4 cI qU zU)) H := hP
  have hD : va_D A (w4x cI qT (zU 0 0) (zU 0 1) (zU 0 2) (zU 0 3) (zT 0 4) (zT 6) (zT 7) (zT 8) (zT 9) ++ (w4 cI qU zU)) := hD
  refine lv_aload_n hx hb (dAt zX4_copyFrom_0 19 rfl) rfl (lv_at hl 0 rfl) ?_
  refine lv_aload_n hx hb (dAt zX4_copyFrom_0 20 rfl) rfl (lv_at hl 1 rfl) ?_
  refine va_get (D := D) (ci := 4) (v := .int (zU 0 4)) (C := RX4) (T := TX4) (N := 9) hx hb htl inlX4 hown hK hP 5 rfl rfl 4 (by decide) (htl _ W_43) (fun _ h9 => h9) rfl (dAt zX4_copyFrom_0 21 rfl) ?_
  refine va_put (D := D) (ci := 4) (v := .int (zU 0 4)) (ty := .int) (C := RX4) (T := TX4) (N := 9) hx hb htl inlX4 tyX4 tyX4_ok nmX4 hown hK hP hD hS 0 rfl rfl 4 (by decide) (htl _ W_43) (fun _ h9 => h9) rfl (by decide +kernel) rfl rfl (Nat.le_of_ble_eq_true rfl) (dAt zX4_copyFrom_0 22 rfl) (fun H locs hP hD hS => ?_)
  have hP : va_P D vwCl (w4x cI qT (zU 0 0) (zU 0 1) (zU 0 2) (zU 0 3) (zU 0 4) (zT 6) (zT 7) (zT 8) (zT 9) ++ (w4 cI qU zU)) H := hP
  have hD : va_D A (w4x cI qT (zU 0 0) (zU 0 1) (zU 0 2) (zU 0 3) (zU 0 4) (zT 6) (zT 7) (zT 8) (zT 9) ++ (w4 cI qU zU)) := hD
  refine lv_aload_n hx hb (dAt zX4_copyFrom_0 23 rfl) rfl (lv_at hl 1 rfl) ?_
  refine va_get (D := D) (ci := 4) (v := .ref (qU 6)) (C := RX4) (T := TX4) (N := 9) hx hb htl inlX4 hown hK hP 5 rfl rfl 5 (by decide) (htl _ W_45) (fun _ h9 => h9) rfl (dAt zX4_copyFrom_0 24 rfl) ?_
  refine lv_aload_n hx hb (dAt zX4_copyFrom_0 25 rfl) rfl (lv_at hl 0 rfl) ?_
  refine va_get (D := D) (ci := 4) (v := .ref (qT 6)) (C := RX4) (T := TX4) (N := 9) hx hb htl inlX4 hown hK hP 0 rfl rfl 5 (by decide) (htl _ W_45) (fun _ h9 => h9) rfl (dAt zX4_copyFrom_0 26 rfl) ?_
  have hP : va_P D vwCl (w4 cI qT (sf (sf (sf (sf (sf zT 0 (zU 0 0)) 1 (zU 0 1)) 2 (zU 0 2)) 3 (zU 0 3)) 4 (zU 0 4)) ++ (w4 cI qU zU)) H := hP
  have hD : va_D A (w4 cI qT (sf (sf (sf (sf (sf zT 0 (zU 0 0)) 1 (zU 0 1)) 2 (zU 0 2)) 3 (zU 0 3)) 4 (zU 0 4)) ++ (w4 cI qU zU)) := hD
  obtain ⟨u53, hu53, h⟩ := q_bind h
  have hPc : va_P D vwCl (wA cI (qU 6) 100 (zU 6) ++ (wA cI (qT 6) 100 (zT 6))) H := hP.sub [6, 1] rfl
  have hDc : va_D A (wA cI (qU 6) 100 (zU 6) ++ (wA cI (qT 6) 100 (zT 6))) := hD.sub [6, 1] (by decide) rfl
  refine xFv (wc := (wA cI (qU 6) 100 (zU 6) ++ (wA cI (qT 6) 100 (zT 6)))) (w1 := (wA cI (qU 6) 100 (zU 6) ++ (wA cI (qT 6) 100 u53))) (wr := ([0, 2, 3, 4, 5, 7, 8, 9].filterMap (fun i => (w4 cI qT (sf (sf (sf (sf (sf zT 0 (zU 0 0)) 1 (zU 0 1)) 2 (zU 0 2)) 3 (zU 0 3)) 4 (zU 0 4)) ++ (w4 cI qU zU))[i]?))) (ws2 := (w4 cI qT (sf (sf (sf (sf (sf (upA zT 6 u53) 0 (zU 0 0)) 1 (zU 0 1)) 2 (zU 0 2)) 3 (zU 0 3)) 4 (zU 0 4)) ++ (w4 cI qU zU))) (va_runS (As := [.ref (qU 6), .ref (qT 6)]) (rest := []) ⟨hx, hb, hml, hown, htl⟩ (c_X4_copyRow l D cI cJ cZ n (qU 6) (qT 6) H.size 100 (zU 6) 100 (zT 6)  u53 hu53) (va_cwS 2 htl (gS W_281 W_282 W_14 W_283) rfl rfl rfl (by decide +kernel) ⟨Nat.le_of_ble_eq_true rfl, Nat.le_of_ble_eq_true rfl⟩) (xPS hPc hDc hK hN) rfl rfl hl.1 rfl (lv_room (Nat.le_of_ble_eq_true rfl)) (dAt zX4_copyFrom_0 27 rfl) ⟨Nat.zero_le _, Nat.zero_le _⟩) hS hA hP hD [6, 1] [0, 2, 3, 4, 5, 7, 8, 9] [0, 9, 1, 2, 3, 4, 8, 5, 6, 7] rfl rfl (by decide) (by decide) rfl (by decide) (fun H locs hP hD hS => ?_)
  refine lv_aload_n hx hb (dAt zX4_copyFrom_0 28 rfl) rfl (lv_at hl 1 rfl) ?_
  refine va_get (D := D) (ci := 4) (v := .ref (qU 7)) (C := RX4) (T := TX4) (N := 9) hx hb htl inlX4 hown hK hP 5 rfl rfl 6 (by decide) (htl _ W_46) (fun _ h9 => h9) rfl (dAt zX4_copyFrom_0 29 rfl) ?_
  refine lv_aload_n hx hb (dAt zX4_copyFrom_0 30 rfl) rfl (lv_at hl 0 rfl) ?_
  refine va_get (D := D) (ci := 4) (v := .ref (qT 7)) (C := RX4) (T := TX4) (N := 9) hx hb htl inlX4 hown hK hP 0 rfl rfl 6 (by decide) (htl _ W_46) (fun _ h9 => h9) rfl (dAt zX4_copyFrom_0 31 rfl) ?_
  have hP : va_P D vwCl (w4 cI qT (sf (sf (sf (sf (sf (upA zT 6 u53) 0 (zU 0 0)) 1 (zU 0 1)) 2 (zU 0 2)) 3 (zU 0 3)) 4 (zU 0 4)) ++ (w4 cI qU zU)) H := hP
  have hD : va_D A (w4 cI qT (sf (sf (sf (sf (sf (upA zT 6 u53) 0 (zU 0 0)) 1 (zU 0 1)) 2 (zU 0 2)) 3 (zU 0 3)) 4 (zU 0 4)) ++ (w4 cI qU zU)) := hD
  obtain ⟨u64, hu64, h⟩ := q_bind h
  have hPc : va_P D vwCl (wA cI (qU 7) 100 (zU 7) ++ (wA cI (qT 7) 100 (zT 7))) H := hP.sub [7, 2] rfl
  have hDc : va_D A (wA cI (qU 7) 100 (zU 7) ++ (wA cI (qT 7) 100 (zT 7))) := hD.sub [7, 2] (by decide) rfl
  refine xFv (wc := (wA cI (qU 7) 100 (zU 7) ++ (wA cI (qT 7) 100 (zT 7)))) (w1 := (wA cI (qU 7) 100 (zU 7) ++ (wA cI (qT 7) 100 u64))) (wr := ([0, 1, 3, 4, 5, 6, 8, 9].filterMap (fun i => (w4 cI qT (sf (sf (sf (sf (sf (upA zT 6 u53) 0 (zU 0 0)) 1 (zU 0 1)) 2 (zU 0 2)) 3 (zU 0 3)) 4 (zU 0 4)) ++ (w4 cI qU zU))[i]?))) (ws2 := (w4 cI qT (sf (sf (sf (sf (sf (upA (upA zT 6 u53) 7 u64) 0 (zU 0 0)) 1 (zU 0 1)) 2 (zU 0 2)) 3 (zU 0 3)) 4 (zU 0 4)) ++ (w4 cI qU zU))) (va_runS (As := [.ref (qU 7), .ref (qT 7)]) (rest := []) ⟨hx, hb, hml, hown, htl⟩ (c_X4_copyRow l D cI cJ cZ n (qU 7) (qT 7) H.size 100 (zU 7) 100 (zT 7)  u64 hu64) (va_cwS 2 htl (gS W_281 W_282 W_14 W_283) rfl rfl rfl (by decide +kernel) ⟨Nat.le_of_ble_eq_true rfl, Nat.le_of_ble_eq_true rfl⟩) (xPS hPc hDc hK hN) rfl rfl hl.1 rfl (lv_room (Nat.le_of_ble_eq_true rfl)) (dAt zX4_copyFrom_0 32 rfl) ⟨Nat.zero_le _, Nat.zero_le _⟩) hS hA hP hD [7, 2] [0, 1, 3, 4, 5, 6, 8, 9] [0, 1, 9, 2, 3, 4, 5, 8, 6, 7] rfl rfl (by decide) (by decide) rfl (by decide) (fun H locs hP hD hS => ?_)
  refine lv_aload_n hx hb (dAt zX4_copyFrom_0 33 rfl) rfl (lv_at hl 1 rfl) ?_
  refine va_get (D := D) (ci := 4) (v := .ref (qU 8)) (C := RX4) (T := TX4) (N := 9) hx hb htl inlX4 hown hK hP 5 rfl rfl 7 (by decide) (htl _ W_47) (fun _ h9 => h9) rfl (dAt zX4_copyFrom_0 34 rfl) ?_
  refine lv_aload_n hx hb (dAt zX4_copyFrom_0 35 rfl) rfl (lv_at hl 0 rfl) ?_
  refine va_get (D := D) (ci := 4) (v := .ref (qT 8)) (C := RX4) (T := TX4) (N := 9) hx hb htl inlX4 hown hK hP 0 rfl rfl 7 (by decide) (htl _ W_47) (fun _ h9 => h9) rfl (dAt zX4_copyFrom_0 36 rfl) ?_
  have hP : va_P D vwCl (w4 cI qT (sf (sf (sf (sf (sf (upA (upA zT 6 u53) 7 u64) 0 (zU 0 0)) 1 (zU 0 1)) 2 (zU 0 2)) 3 (zU 0 3)) 4 (zU 0 4)) ++ (w4 cI qU zU)) H := hP
  have hD : va_D A (w4 cI qT (sf (sf (sf (sf (sf (upA (upA zT 6 u53) 7 u64) 0 (zU 0 0)) 1 (zU 0 1)) 2 (zU 0 2)) 3 (zU 0 3)) 4 (zU 0 4)) ++ (w4 cI qU zU)) := hD
  obtain ⟨u75, hu75, h⟩ := q_bind h
  have hPc : va_P D vwCl (wA cI (qU 8) 4 (zU 8) ++ (wA cI (qT 8) 4 (zT 8))) H := hP.sub [8, 3] rfl
  have hDc : va_D A (wA cI (qU 8) 4 (zU 8) ++ (wA cI (qT 8) 4 (zT 8))) := hD.sub [8, 3] (by decide) rfl
  refine xFv (wc := (wA cI (qU 8) 4 (zU 8) ++ (wA cI (qT 8) 4 (zT 8)))) (w1 := (wA cI (qU 8) 4 (zU 8) ++ (wA cI (qT 8) 4 u75))) (wr := ([0, 1, 2, 4, 5, 6, 7, 9].filterMap (fun i => (w4 cI qT (sf (sf (sf (sf (sf (upA (upA zT 6 u53) 7 u64) 0 (zU 0 0)) 1 (zU 0 1)) 2 (zU 0 2)) 3 (zU 0 3)) 4 (zU 0 4)) ++ (w4 cI qU zU))[i]?))) (ws2 := (w4 cI qT (sf (sf (sf (sf (sf (upA (upA (upA zT 6 u53) 7 u64) 8 u75) 0 (zU 0 0)) 1 (zU 0 1)) 2 (zU 0 2)) 3 (zU 0 3)) 4 (zU 0 4)) ++ (w4 cI qU zU))) (va_runS (As := [.ref (qU 8), .ref (qT 8)]) (rest := []) ⟨hx, hb, hml, hown, htl⟩ (c_X4_copyRow l D cI cJ cZ n (qU 8) (qT 8) H.size 4 (zU 8) 4 (zT 8)  u75 hu75) (va_cwS 2 htl (gS W_281 W_282 W_14 W_283) rfl rfl rfl (by decide +kernel) ⟨Nat.le_of_ble_eq_true rfl, Nat.le_of_ble_eq_true rfl⟩) (xPS hPc hDc hK hN) rfl rfl hl.1 rfl (lv_room (Nat.le_of_ble_eq_true rfl)) (dAt zX4_copyFrom_0 37 rfl) ⟨Nat.zero_le _, Nat.zero_le _⟩) hS hA hP hD [8, 3] [0, 1, 2, 4, 5, 6, 7, 9] [0, 1, 2, 9, 3, 4, 5, 6, 8, 7] rfl rfl (by decide) (by decide) rfl (by decide) (fun H locs hP hD hS => ?_)
  refine lv_aload_n hx hb (dAt zX4_copyFrom_0 38 rfl) rfl (lv_at hl 1 rfl) ?_
  refine va_get (D := D) (ci := 4) (v := .ref (qU 9)) (C := RX4) (T := TX4) (N := 9) hx hb htl inlX4 hown hK hP 5 rfl rfl 8 (by decide) (htl _ W_48) (fun _ h9 => h9) rfl (dAt zX4_copyFrom_0 39 rfl) ?_
  refine lv_aload_n hx hb (dAt zX4_copyFrom_0 40 rfl) rfl (lv_at hl 0 rfl) ?_
  refine va_get (D := D) (ci := 4) (v := .ref (qT 9)) (C := RX4) (T := TX4) (N := 9) hx hb htl inlX4 hown hK hP 0 rfl rfl 8 (by decide) (htl _ W_48) (fun _ h9 => h9) rfl (dAt zX4_copyFrom_0 41 rfl) ?_
  have hP : va_P D vwCl (w4 cI qT (sf (sf (sf (sf (sf (upA (upA (upA zT 6 u53) 7 u64) 8 u75) 0 (zU 0 0)) 1 (zU 0 1)) 2 (zU 0 2)) 3 (zU 0 3)) 4 (zU 0 4)) ++ (w4 cI qU zU)) H := hP
  have hD : va_D A (w4 cI qT (sf (sf (sf (sf (sf (upA (upA (upA zT 6 u53) 7 u64) 8 u75) 0 (zU 0 0)) 1 (zU 0 1)) 2 (zU 0 2)) 3 (zU 0 3)) 4 (zU 0 4)) ++ (w4 cI qU zU)) := hD
  obtain ⟨u86, hu86, h⟩ := q_bind h
  have hPc : va_P D vwCl (wA cI (qU 9) 8 (zU 9) ++ (wA cI (qT 9) 8 (zT 9))) H := hP.sub [9, 4] rfl
  have hDc : va_D A (wA cI (qU 9) 8 (zU 9) ++ (wA cI (qT 9) 8 (zT 9))) := hD.sub [9, 4] (by decide) rfl
  refine xFv (wc := (wA cI (qU 9) 8 (zU 9) ++ (wA cI (qT 9) 8 (zT 9)))) (w1 := (wA cI (qU 9) 8 (zU 9) ++ (wA cI (qT 9) 8 u86))) (wr := ([0, 1, 2, 3, 5, 6, 7, 8].filterMap (fun i => (w4 cI qT (sf (sf (sf (sf (sf (upA (upA (upA zT 6 u53) 7 u64) 8 u75) 0 (zU 0 0)) 1 (zU 0 1)) 2 (zU 0 2)) 3 (zU 0 3)) 4 (zU 0 4)) ++ (w4 cI qU zU))[i]?))) (ws2 := (w4 cI qT (sf (sf (sf (sf (sf (upA (upA (upA (upA zT 6 u53) 7 u64) 8 u75) 9 u86) 0 (zU 0 0)) 1 (zU 0 1)) 2 (zU 0 2)) 3 (zU 0 3)) 4 (zU 0 4)) ++ (w4 cI qU zU))) (va_runS (As := [.ref (qU 9), .ref (qT 9)]) (rest := []) ⟨hx, hb, hml, hown, htl⟩ (c_X4_copyRow l D cI cJ cZ n (qU 9) (qT 9) H.size 8 (zU 9) 8 (zT 9)  u86 hu86) (va_cwS 2 htl (gS W_281 W_282 W_14 W_283) rfl rfl rfl (by decide +kernel) ⟨Nat.le_of_ble_eq_true rfl, Nat.le_of_ble_eq_true rfl⟩) (xPS hPc hDc hK hN) rfl rfl hl.1 rfl (lv_room (Nat.le_of_ble_eq_true rfl)) (dAt zX4_copyFrom_0 42 rfl) ⟨Nat.zero_le _, Nat.zero_le _⟩) hS hA hP hD [9, 4] [0, 1, 2, 3, 5, 6, 7, 8] [0, 1, 2, 3, 9, 4, 5, 6, 7, 8] rfl rfl (by decide) (by decide) rfl (by decide) (fun H locs hP hD hS => ?_)
  have hP : va_P D vwCl (w4 cI qT (sf (sf (sf (sf (sf (upA (upA (upA (upA zT 6 u53) 7 u64) 8 u75) 9 u86) 0 (zU 0 0)) 1 (zU 0 1)) 2 (zU 0 2)) 3 (zU 0 3)) 4 (zU 0 4)) ++ (w4 cI qU zU)) H := hP
  have hD : va_D A (w4 cI qT (sf (sf (sf (sf (sf (upA (upA (upA (upA zT 6 u53) 7 u64) 8 u75) 9 u86) 0 (zU 0 0)) 1 (zU 0 1)) 2 (zU 0 2)) 3 (zU 0 3)) 4 (zU 0 4)) ++ (w4 cI qU zU)) := hD
  obtain rfl := q_some h
  exact xRv hx hb hr hlocks hQ hAe hP hD hK hS (dAt zX4_copyFrom_0 43 rfl)
def m_X1_startFrom (n : Nat) (zC : TI) (zT : TI) (zU : TI) : Option (TI × TI) := ((m_X4_copyFrom n zT zU).bind fun u5 => some ((sf (sf (sf (sf (sf (sf zC 1 0) 2 0) 3 0) 4 0) 5 (-6)) 6 (-6)), u5))
set_option maxHeartbeats 4000000 in
set_option maxRecDepth 100000 in
theorem c_X1_startFrom (l : Launch) (D : va_G) (cI cJ cZ : ClassId) (n : Nat) (qC : Nat → Nat) (qT : Nat → Nat) (qU : Nat → Nat) (sz : Nat) (zC : TI) (zT : TI) (zU : TI) (out : TI × TI) (hm : m_X1_startFrom n zC zT zU = some out) : Met l yX1_startFrom (wsM yX1_startFrom cX1_startFrom 2 none) { frames := 2, cells := 0, slots := 0, locals := 43 } (xPre D (kT cI cJ cZ) (w1 qC qT zC ++ (w4 cI qT zT ++ (w4 cI qU zU))) sz [.ref (qC 0), .ref (qU 0)]) (xQv D (kT cI cJ cZ) (w1 qC qT zC ++ (w4 cI qT zT ++ (w4 cI qU zU))) (w1 qC qT out.1 ++ (w4 cI qT out.2 ++ (w4 cI qU zU))) sz) 0 0 (va_A (w1 qC qT zC ++ (w4 cI qT zT ++ (w4 cI qU zU))) sz) := by
  refine Met.ofW (cc := cX1_startFrom) (maxL := 2) (ret := none) (by decide) rfl ?_
  intro p e s m args below meth c s₁ B hml hv
  obtain ⟨hv, hsz, hP, hK, hD0, hN⟩ := hv
  have hx := B.exec; have hb := B.bytes; have hr := B.returns
  have hts := atoms_spec (ws := (wsM yX1_startFrom cX1_startFrom 2 none)) B.pre
  have hown : s.vm.findClass RX1 = some m.cls := findClass_of_methodNamed B.named
  have hlocks := B.notSynchronized
  subst hsz
  have hD := hD0.self (sz := s.heap.size)
  obtain ⟨A, hAe⟩ : ∃ A, A = va_A (w1 qC qT zC ++ (w4 cI qT zT ++ (w4 cI qU zU))) s.heap.size := ⟨_, rfl⟩
  rw [← hAe] at hD
  have hA : ∀ q : Nat, s.heap.size ≤ q → A q := fun q h => by rw [hAe]; exact Or.inr h
  have htl : ∀ w ∈ wsL_law, w.before args s = true := fun w h => hts w (List.mem_cons_of_mem _ h)
  refine xHead (R' := { frames := 2, cells := 0, slots := 0, locals := 43 }) rfl (fun Q H hQ hH => ?_)
  have hP : va_P D vwCl (w1 qC qT zC ++ (w4 cI qT zT ++ (w4 cI qU zU))) H := by rw [hH]; exact hP
  have hS : va_S A s.heap H [] := by rw [hH]; exact va_S.rf
  refine xStart hv (Nat.le_of_ble_eq_true rfl) (lv := [(0, .ref (qC 0)), (1, .ref (qU 0))]) rfl (fun ls hl => ?_)
  have h := hm
  unfold m_X1_startFrom at h
  refine lv_aload_n hx hb (dAt zX1_startFrom_0 0 rfl) rfl (lv_at hl 0 rfl) ?_
  refine va_get (D := D) (ci := 1) (v := .ref (qT 0)) (C := RX1) (T := TX1) (N := 7) hx hb htl inlX1 hown hK hP 0 rfl rfl 0 (by decide) (htl _ W_58) (fun _ h9 => h9) rfl (dAt zX1_startFrom_0 1 rfl) ?_
  refine lv_aload_n hx hb (dAt zX1_startFrom_0 2 rfl) rfl (lv_at hl 1 rfl) ?_
  obtain ⟨u5, hu5, h⟩ := q_bind h
  have hPc : va_P D vwCl (w4 cI qT zT ++ (w4 cI qU zU)) H := hP.sub [1, 2, 3, 4, 5, 6, 7, 8, 9, 10] rfl
  have hDc : va_D A (w4 cI qT zT ++ (w4 cI qU zU)) := hD.sub [1, 2, 3, 4, 5, 6, 7, 8, 9, 10] (by decide) rfl
  refine xFv (wc := (w4 cI qT zT ++ (w4 cI qU zU))) (w1 := (w4 cI qT u5 ++ (w4 cI qU zU))) (wr := (w1 qC qT zC)) (ws2 := (w1 qC qT zC ++ (w4 cI qT u5 ++ (w4 cI qU zU)))) (va_runV (As := [.ref (qU 0)]) (rest := []) ⟨hx, hb, hml, hown, htl⟩ (c_X4_copyFrom l D cI cJ cZ n qT qU H.size zT zU  u5 hu5) (cwV 1 htl (gV W_277 W_278 W_279 W_14 W_280) rfl rfl rfl (by decide +kernel) ⟨Nat.le_of_ble_eq_true rfl, Nat.le_of_ble_eq_true rfl⟩) (xPV hPc hDc hK hN 0 rfl rfl) rfl rfl hl.1 rfl (lv_room (Nat.le_of_ble_eq_true rfl)) (dAt zX1_startFrom_0 3 rfl) ⟨Nat.zero_le _, Nat.zero_le _⟩) hS hA hP hD [1, 2, 3, 4, 5, 6, 7, 8, 9, 10] [0] [0, 1, 2, 3, 4, 5, 6, 7, 8, 9, 10] rfl rfl (by decide) (by decide) rfl (by decide) (fun H locs hP hD hS => ?_)
  refine lv_aload_n hx hb (dAt zX1_startFrom_0 4 rfl) rfl (lv_at hl 0 rfl) ?_
  refine lv_iconst (v := 0) hx hb (dAt zX1_startFrom_0 5 rfl) (by decide) ?_
  refine va_put (D := D) (ci := 1) (v := .int 0) (ty := .int) (C := RX1) (T := TX1) (N := 7) hx hb htl inlX1 tyX1 tyX1_ok nmX1 hown hK hP hD hS 0 rfl rfl 1 (by decide) (htl _ W_59) (fun _ h9 => h9) rfl (by decide +kernel) rfl rfl (Nat.le_of_ble_eq_true rfl) (dAt zX1_startFrom_0 6 rfl) (fun H locs hP hD hS => ?_)
  have hP : va_P D vwCl (w1x qC qT 0 (zC 0 2) (zC 0 3) (zC 0 4) (zC 0 5) (zC 0 6) ++ (w4 cI qT u5 ++ (w4 cI qU zU))) H := hP
  have hD : va_D A (w1x qC qT 0 (zC 0 2) (zC 0 3) (zC 0 4) (zC 0 5) (zC 0 6) ++ (w4 cI qT u5 ++ (w4 cI qU zU))) := hD
  refine lv_aload_n hx hb (dAt zX1_startFrom_0 7 rfl) rfl (lv_at hl 0 rfl) ?_
  refine lv_iconst (v := 0) hx hb (dAt zX1_startFrom_0 8 rfl) (by decide) ?_
  refine va_put (D := D) (ci := 1) (v := .int 0) (ty := .int) (C := RX1) (T := TX1) (N := 7) hx hb htl inlX1 tyX1 tyX1_ok nmX1 hown hK hP hD hS 0 rfl rfl 2 (by decide) (htl _ W_60) (fun _ h9 => h9) rfl (by decide +kernel) rfl rfl (Nat.le_of_ble_eq_true rfl) (dAt zX1_startFrom_0 9 rfl) (fun H locs hP hD hS => ?_)
  have hP : va_P D vwCl (w1x qC qT 0 0 (zC 0 3) (zC 0 4) (zC 0 5) (zC 0 6) ++ (w4 cI qT u5 ++ (w4 cI qU zU))) H := hP
  have hD : va_D A (w1x qC qT 0 0 (zC 0 3) (zC 0 4) (zC 0 5) (zC 0 6) ++ (w4 cI qT u5 ++ (w4 cI qU zU))) := hD
  refine lv_aload_n hx hb (dAt zX1_startFrom_0 10 rfl) rfl (lv_at hl 0 rfl) ?_
  refine lv_iconst (v := 0) hx hb (dAt zX1_startFrom_0 11 rfl) (by decide) ?_
  refine va_put (D := D) (ci := 1) (v := .int 0) (ty := .int) (C := RX1) (T := TX1) (N := 7) hx hb htl inlX1 tyX1 tyX1_ok nmX1 hown hK hP hD hS 0 rfl rfl 3 (by decide) (htl _ W_61) (fun _ h9 => h9) rfl (by decide +kernel) rfl rfl (Nat.le_of_ble_eq_true rfl) (dAt zX1_startFrom_0 12 rfl) (fun H locs hP hD hS => ?_)
  have hP : va_P D vwCl (w1x qC qT 0 0 0 (zC 0 4) (zC 0 5) (zC 0 6) ++ (w4 cI qT u5 ++ (w4 cI qU zU))) H := hP
  have hD : va_D A (w1x qC qT 0 0 0 (zC 0 4) (zC 0 5) (zC 0 6) ++ (w4 cI qT u5 ++ (w4 cI qU zU))) := hD
  refine lv_aload_n hx hb (dAt zX1_startFrom_0 13 rfl) rfl (lv_at hl 0 rfl) ?_
  refine lv_iconst (v := 0) hx hb (dAt zX1_startFrom_0 14 rfl) (by decide) ?_
  refine va_put (D := D) (ci := 1) (v := .int 0) (ty := .int) (C := RX1) (T := TX1) (N := 7) hx hb htl inlX1 tyX1 tyX1_ok nmX1 hown hK hP hD hS 0 rfl rfl 4 (by decide) (htl _ W_62) (fun _ h9 => h9) rfl (by decide +kernel) rfl rfl (Nat.le_of_ble_eq_true rfl) (dAt zX1_startFrom_0 15 rfl) (fun H locs hP hD hS => ?_)
  have hP : va_P D vwCl (w1x qC qT 0 0 0 0 (zC 0 5) (zC 0 6) ++ (w4 cI qT u5 ++ (w4 cI qU zU))) H := hP
  have hD : va_D A (w1x qC qT 0 0 0 0 (zC 0 5) (zC 0 6) ++ (w4 cI qT u5 ++ (w4 cI qU zU))) := hD
  refine lv_aload_n hx hb (dAt zX1_startFrom_0 16 rfl) rfl (lv_at hl 0 rfl) ?_
  refine lv_bipush (v := (-6)) hx hb (dAt zX1_startFrom_0 17 rfl) (by decide) ?_
  refine va_put (D := D) (ci := 1) (v := .int (-6)) (ty := .int) (C := RX1) (T := TX1) (N := 7) hx hb htl inlX1 tyX1 tyX1_ok nmX1 hown hK hP hD hS 0 rfl rfl 5 (by decide) (htl _ W_63) (fun _ h9 => h9) rfl (by decide +kernel) rfl rfl (Nat.le_of_ble_eq_true rfl) (dAt zX1_startFrom_0 18 rfl) (fun H locs hP hD hS => ?_)
  have hP : va_P D vwCl (w1x qC qT 0 0 0 0 (-6) (zC 0 6) ++ (w4 cI qT u5 ++ (w4 cI qU zU))) H := hP
  have hD : va_D A (w1x qC qT 0 0 0 0 (-6) (zC 0 6) ++ (w4 cI qT u5 ++ (w4 cI qU zU))) := hD
  refine lv_aload_n hx hb (dAt zX1_startFrom_0 19 rfl) rfl (lv_at hl 0 rfl) ?_
  refine lv_bipush (v := (-6)) hx hb (dAt zX1_startFrom_0 20 rfl) (by decide) ?_
  refine va_put (D := D) (ci := 1) (v := .int (-6)) (ty := .int) (C := RX1) (T := TX1) (N := 7) hx hb htl inlX1 tyX1 tyX1_ok nmX1 hown hK hP hD hS 0 rfl rfl 6 (by decide) (htl _ W_64) (fun _ h9 => h9) rfl (by decide +kernel) rfl rfl (Nat.le_of_ble_eq_true rfl) (dAt zX1_startFrom_0 21 rfl) (fun H locs hP hD hS => ?_)
  have hP : va_P D vwCl (w1x qC qT 0 0 0 0 (-6) (-6) ++ (w4 cI qT u5 ++ (w4 cI qU zU))) H := hP
  have hD : va_D A (w1x qC qT 0 0 0 0 (-6) (-6) ++ (w4 cI qT u5 ++ (w4 cI qU zU))) := hD
  have hP : va_P D vwCl (w1 qC qT (sf (sf (sf (sf (sf (sf zC 1 0) 2 0) 3 0) 4 0) 5 (-6)) 6 (-6)) ++ (w4 cI qT u5 ++ (w4 cI qU zU))) H := hP
  have hD : va_D A (w1 qC qT (sf (sf (sf (sf (sf (sf zC 1 0) 2 0) 3 0) 4 0) 5 (-6)) 6 (-6)) ++ (w4 cI qT u5 ++ (w4 cI qU zU))) := hD
  obtain rfl := q_some h
  exact xRv hx hb hr hlocks hQ hAe hP hD hK hS (dAt zX1_startFrom_0 22 rfl)
def m_X2_deedFrom (n : Nat) (zP : TI) (a1 : Int32) : Option Int32 := ((m_X2_signAt n zP a1).bind fun u2 => ((m_X2_isOfNobody n  u2).bind fun u7 => (if u7 = 0 then ((m_X2_signAt n zP (a1 + (1 : Int32))).bind fun u21 => some u21) else some u2)))
set_option maxHeartbeats 4000000 in
set_option maxRecDepth 100000 in
theorem c_X2_deedFrom (l : Launch) (D : va_G) (cI cJ cZ : ClassId) (n : Nat) (qP : Nat → Nat) (sz : Nat) (zP : TI) (a1 : Int32) (out : Int32) (hm : m_X2_deedFrom n zP a1 = some out) : Met l yX2_deedFrom (wsM yX2_deedFrom cX2_deedFrom 3 (some .int)) { frames := 1, cells := 0, slots := 0, locals := 21 } (xPre D (kT cI cJ cZ) (w2 cI qP zP) sz [.ref (qP 0), .int a1]) (xQi D (kT cI cJ cZ) (w2 cI qP zP) (w2 cI qP zP) sz out) 0 0 (va_A (w2 cI qP zP) sz) := by
  refine Met.ofW (cc := cX2_deedFrom) (maxL := 3) (ret := (some .int)) (by decide) rfl ?_
  intro p e s m args below meth c s₁ B hml hv
  obtain ⟨hv, hsz, hP, hK, hD0, hN⟩ := hv
  have hx := B.exec; have hb := B.bytes; have hr := B.returns
  have hts := atoms_spec (ws := (wsM yX2_deedFrom cX2_deedFrom 3 (some .int))) B.pre
  have hown : s.vm.findClass RX2 = some m.cls := findClass_of_methodNamed B.named
  have hlocks := B.notSynchronized
  subst hsz
  have hD := hD0.self (sz := s.heap.size)
  obtain ⟨A, hAe⟩ : ∃ A, A = va_A (w2 cI qP zP) s.heap.size := ⟨_, rfl⟩
  rw [← hAe] at hD
  have hA : ∀ q : Nat, s.heap.size ≤ q → A q := fun q h => by rw [hAe]; exact Or.inr h
  have htl : ∀ w ∈ wsL_law, w.before args s = true := fun w h => hts w (List.mem_cons_of_mem _ h)
  refine xHead (R' := { frames := 1, cells := 0, slots := 0, locals := 21 }) rfl (fun Q H hQ hH => ?_)
  have hP : va_P D vwCl (w2 cI qP zP) H := by rw [hH]; exact hP
  have hS : va_S A s.heap H [] := by rw [hH]; exact va_S.rf
  refine xStart hv (Nat.le_of_ble_eq_true rfl) (lv := [(0, .ref (qP 0)), (1, .int a1)]) rfl (fun ls hl => ?_)
  have h := hm
  unfold m_X2_deedFrom at h
  refine lv_aload_n hx hb (dAt zX2_deedFrom_0 0 rfl) rfl (lv_at hl 0 rfl) ?_
  refine lv_iload_n hx hb (dAt zX2_deedFrom_0 1 rfl) rfl (lv_at hl 1 rfl) ?_
  obtain ⟨u2, hu2, h⟩ := q_bind h
  refine xFi (wc := (w2 cI qP zP)) (w1 := (w2 cI qP zP)) (wr := ([] : va_W)) (ws2 := (w2 cI qP zP)) (va_runV (As := [.int a1]) (rest := []) ⟨hx, hb, hml, hown, htl⟩ (c_X2_signAt l D cI cJ cZ n qP H.size zP a1 u2 hu2) (cwV 1 htl (gV W_219 W_220 W_221 W_21 W_222) rfl rfl rfl (by decide +kernel) ⟨Nat.le_of_ble_eq_true rfl, Nat.le_of_ble_eq_true rfl⟩) (xPV hP hD hK hN 0 rfl rfl) rfl rfl hl.1 rfl (lv_room (Nat.le_of_ble_eq_true rfl)) (dAt zX2_deedFrom_0 2 rfl) ⟨Nat.zero_le _, Nat.zero_le _⟩) hS hA hP hD [0, 1] [] [0, 1] rfl rfl (by decide) (by decide) rfl (by decide) (fun H locs hP hD hS => ?_)
  refine lv_istore_n (lv' := [(2, .int u2), (0, .ref (qP 0)), (1, .int a1)]) hx hb (dAt zX2_deedFrom_0 3 rfl) rfl hl (by decide) rfl (fun ls hl => ?_)
  refine lv_iload_n hx hb (dAt zX2_deedFrom_0 4 rfl) rfl (lv_at hl 0 rfl) ?_
  obtain ⟨u7, hu7, h⟩ := q_bind h
  refine xFz (wc := ([] : va_W)) (w1 := ([] : va_W)) (wr := (w2 cI qP zP)) (ws2 := (w2 cI qP zP)) (va_runS (As := [.int u2]) (rest := []) ⟨hx, hb, hml, hown, htl⟩ (c_X2_isOfNobody l D cI cJ cZ n  H.size  u2 u7 hu7) (va_cwS 1 htl (gS W_229 W_230 W_21 W_231) rfl rfl rfl (by decide +kernel) ⟨Nat.le_of_ble_eq_true rfl, Nat.le_of_ble_eq_true rfl⟩) (xPS xP0 (xD0 A) hK hN) rfl rfl hl.1 rfl (lv_room (Nat.le_of_ble_eq_true rfl)) (dAt zX2_deedFrom_0 5 rfl) ⟨Nat.zero_le _, Nat.zero_le _⟩) hS hA hP hD [] [0, 1] [0, 1] rfl rfl (by decide) (by decide) rfl (by decide) (fun H locs hz7 hP hD hS => ?_)
  refine lv_if_eq (tgt := 17) hx hb (dAt zX2_deedFrom_0 6 rfl) (by decide) (fun c_10 => ?_) (fun c_10 => ?_)
  · have h := q_pos c_10 h
    refine lv_aload_n hx hb (dAt zX2_deedFrom_0 9 rfl) rfl (lv_at hl 1 rfl) ?_
    refine lv_iload_n hx hb (dAt zX2_deedFrom_0 10 rfl) rfl (lv_at hl 2 rfl) ?_
    refine lv_iconst (v := 1) hx hb (dAt zX2_deedFrom_0 11 rfl) (by decide) ?_
    refine lv_iadd hx hb (dAt zX2_deedFrom_0 12 rfl) ?_
    obtain ⟨u21, hu21, h⟩ := q_bind h
    refine xFi (wc := (w2 cI qP zP)) (w1 := (w2 cI qP zP)) (wr := ([] : va_W)) (ws2 := (w2 cI qP zP)) (va_runV (As := [.int (a1 + (1 : Int32))]) (rest := []) ⟨hx, hb, hml, hown, htl⟩ (c_X2_signAt l D cI cJ cZ n qP H.size zP (a1 + (1 : Int32)) u21 hu21) (cwV 1 htl (gV W_219 W_220 W_221 W_21 W_222) rfl rfl rfl (by decide +kernel) ⟨Nat.le_of_ble_eq_true rfl, Nat.le_of_ble_eq_true rfl⟩) (xPV hP hD hK hN 0 rfl rfl) rfl rfl hl.1 rfl (lv_room (Nat.le_of_ble_eq_true rfl)) (dAt zX2_deedFrom_0 13 rfl) ⟨Nat.zero_le _, Nat.zero_le _⟩) hS hA hP hD [0, 1] [] [0, 1] rfl rfl (by decide) (by decide) rfl (by decide) (fun H locs hP hD hS => ?_)
    obtain rfl := q_some h
    exact xRi hx hb hr hlocks hQ hAe hP hD hK hS rfl (dAt zX2_deedFrom_0 14 rfl)
  · have h := q_neg c_10 h
    refine lv_iload_n hx hb (dAt zX2_deedFrom_0 7 rfl) rfl (lv_at hl 0 rfl) ?_
    refine lv_goto (tgt := 24) hx hb (dAt zX2_deedFrom_0 8 rfl) (by decide) ?_
    obtain rfl := q_some h
    exact xRi hx hb hr hlocks hQ hAe hP hD hK hS rfl (dAt zX2_deedFrom_0 14 rfl)
def m_X4_isHere (n : Nat) (zT : TI) (a1 : Int32) : Option Int32 := (if a1 < 0 then some 0 else (if 10 ≤ a1 then some 0 else (if (((zT 0 0) >>> (a1 &&& 31)) &&& (1 : Int32)) = 1 then some 1 else some 0)))
set_option maxHeartbeats 4000000 in
set_option maxRecDepth 100000 in
theorem c_X4_isHere (l : Launch) (D : va_G) (cI cJ cZ : ClassId) (n : Nat) (qT : Nat → Nat) (sz : Nat) (zT : TI) (a1 : Int32) (out : Int32) (hm : m_X4_isHere n zT a1 = some out) : Met l yX4_isHere (wsM yX4_isHere cX4_isHere 2 (some .boolean)) { frames := 0, cells := 0, slots := 0, locals := 0 } (xPre D (kT cI cJ cZ) (w4 cI qT zT) sz [.ref (qT 0), .int a1]) (xQz D (kT cI cJ cZ) (w4 cI qT zT) (w4 cI qT zT) sz out) 0 0 (va_A (w4 cI qT zT) sz) := by
  refine Met.ofW (cc := cX4_isHere) (maxL := 2) (ret := (some .boolean)) (by decide) rfl ?_
  intro p e s m args below meth c s₁ B hml hv
  obtain ⟨hv, hsz, hP, hK, hD0, hN⟩ := hv
  have hx := B.exec; have hb := B.bytes; have hr := B.returns
  have hts := atoms_spec (ws := (wsM yX4_isHere cX4_isHere 2 (some .boolean))) B.pre
  have hown : s.vm.findClass RX4 = some m.cls := findClass_of_methodNamed B.named
  have hlocks := B.notSynchronized
  subst hsz
  have hD := hD0.self (sz := s.heap.size)
  obtain ⟨A, hAe⟩ : ∃ A, A = va_A (w4 cI qT zT) s.heap.size := ⟨_, rfl⟩
  rw [← hAe] at hD
  have hA : ∀ q : Nat, s.heap.size ≤ q → A q := fun q h => by rw [hAe]; exact Or.inr h
  have htl : ∀ w ∈ wsL_law, w.before args s = true := fun w h => hts w (List.mem_cons_of_mem _ h)
  refine xHead (R' := { frames := 0, cells := 0, slots := 0, locals := 0 }) rfl (fun Q H hQ hH => ?_)
  have hP : va_P D vwCl (w4 cI qT zT) H := by rw [hH]; exact hP
  have hS : va_S A s.heap H [] := by rw [hH]; exact va_S.rf
  refine xStart hv (Nat.le_of_ble_eq_true rfl) (lv := [(0, .ref (qT 0)), (1, .int a1)]) rfl (fun ls hl => ?_)
  have h := hm
  unfold m_X4_isHere at h
  refine lv_iload_n hx hb (dAt zX4_isHere_0 0 rfl) rfl (lv_at hl 1 rfl) ?_
  refine lv_if_lt (tgt := 26) hx hb (dAt zX4_isHere_0 1 rfl) (by decide) (fun c_1 => ?_) (fun c_1 => ?_)
  · have h := q_pos c_1 h
    refine lv_iconst (v := 0) hx hb (dAt zX4_isHere_0 15 rfl) (by decide) ?_
    obtain rfl := q_some h
    exact xRz hx hb hr hlocks hQ hAe hP hD hK hS rfl rfl (dAt zX4_isHere_0 16 rfl)
  · have h := q_neg c_1 h
    refine lv_iload_n hx hb (dAt zX4_isHere_0 2 rfl) rfl (lv_at hl 1 rfl) ?_
    refine lv_bipush (v := 10) hx hb (dAt zX4_isHere_0 3 rfl) (by decide) ?_
    refine lv_icmp_ge (tgt := 26) hx hb (dAt zX4_isHere_0 4 rfl) (by decide) (fun c_7 => ?_) (fun c_7 => ?_)
    · have h := q_pos c_7 h
      refine lv_iconst (v := 0) hx hb (dAt zX4_isHere_0 15 rfl) (by decide) ?_
      obtain rfl := q_some h
      exact xRz hx hb hr hlocks hQ hAe hP hD hK hS rfl rfl (dAt zX4_isHere_0 16 rfl)
    · have h := q_neg c_7 h
      refine lv_aload_n hx hb (dAt zX4_isHere_0 5 rfl) rfl (lv_at hl 0 rfl) ?_
      refine va_get (D := D) (ci := 4) (v := .int (zT 0 0)) (C := RX4) (T := TX4) (N := 9) hx hb htl inlX4 hown hK hP 0 rfl rfl 0 (by decide) (htl _ W_39) (fun _ h9 => h9) rfl (dAt zX4_isHere_0 6 rfl) ?_
      refine lv_iload_n hx hb (dAt zX4_isHere_0 7 rfl) rfl (lv_at hl 1 rfl) ?_
      refine lv_ishr hx hb (dAt zX4_isHere_0 8 rfl) ?_
      refine lv_iconst (v := 1) hx hb (dAt zX4_isHere_0 9 rfl) (by decide) ?_
      refine lv_iand hx hb (dAt zX4_isHere_0 10 rfl) ?_
      refine lv_iconst (v := 1) hx hb (dAt zX4_isHere_0 11 rfl) (by decide) ?_
      refine lv_icmp_ne (tgt := 26) hx hb (dAt zX4_isHere_0 12 rfl) (by decide) (fun c_19 => ?_) (fun c_19 => ?_)
      · have h := q_neg c_19 h
        refine lv_iconst (v := 0) hx hb (dAt zX4_isHere_0 15 rfl) (by decide) ?_
        obtain rfl := q_some h
        exact xRz hx hb hr hlocks hQ hAe hP hD hK hS rfl rfl (dAt zX4_isHere_0 16 rfl)
      · have h := q_pos c_19 h
        refine lv_iconst (v := 1) hx hb (dAt zX4_isHere_0 13 rfl) (by decide) ?_
        refine lv_goto (tgt := 27) hx hb (dAt zX4_isHere_0 14 rfl) (by decide) ?_
        obtain rfl := q_some h
        exact xRz hx hb hr hlocks hQ hAe hP hD hK hS rfl rfl (dAt zX4_isHere_0 16 rfl)
def m_X4_kind (n : Nat) (zT : TI) (a1 : Int32) (a2 : Int32) : Option Int32 := (if a1 < 0 then some (-6) else (if 10 ≤ a1 then some (-6) else (if a2 < 0 then some (-6) else (if 10 ≤ a2 then some (-6) else (if a1 = a2 then some (-6) else (gd (inB ((a1 * (10 : Int32)) + a2) 100) (some ((zT 7) (Int32.toNatClampNeg ((a1 * (10 : Int32)) + a2))))))))))
set_option maxHeartbeats 4000000 in
set_option maxRecDepth 100000 in
theorem c_X4_kind (l : Launch) (D : va_G) (cI cJ cZ : ClassId) (n : Nat) (qT : Nat → Nat) (sz : Nat) (zT : TI) (a1 : Int32) (a2 : Int32) (out : Int32) (hm : m_X4_kind n zT a1 a2 = some out) : Met l yX4_kind (wsM yX4_kind cX4_kind 3 (some .int)) { frames := 0, cells := 0, slots := 0, locals := 0 } (xPre D (kT cI cJ cZ) (w4 cI qT zT) sz [.ref (qT 0), .int a1, .int a2]) (xQi D (kT cI cJ cZ) (w4 cI qT zT) (w4 cI qT zT) sz out) 0 0 (va_A (w4 cI qT zT) sz) := by
  refine Met.ofW (cc := cX4_kind) (maxL := 3) (ret := (some .int)) (by decide) rfl ?_
  intro p e s m args below meth c s₁ B hml hv
  obtain ⟨hv, hsz, hP, hK, hD0, hN⟩ := hv
  have hx := B.exec; have hb := B.bytes; have hr := B.returns
  have hts := atoms_spec (ws := (wsM yX4_kind cX4_kind 3 (some .int))) B.pre
  have hown : s.vm.findClass RX4 = some m.cls := findClass_of_methodNamed B.named
  have hlocks := B.notSynchronized
  subst hsz
  have hD := hD0.self (sz := s.heap.size)
  obtain ⟨A, hAe⟩ : ∃ A, A = va_A (w4 cI qT zT) s.heap.size := ⟨_, rfl⟩
  rw [← hAe] at hD
  have hA : ∀ q : Nat, s.heap.size ≤ q → A q := fun q h => by rw [hAe]; exact Or.inr h
  have htl : ∀ w ∈ wsL_law, w.before args s = true := fun w h => hts w (List.mem_cons_of_mem _ h)
  refine xHead (R' := { frames := 0, cells := 0, slots := 0, locals := 0 }) rfl (fun Q H hQ hH => ?_)
  have hP : va_P D vwCl (w4 cI qT zT) H := by rw [hH]; exact hP
  have hS : va_S A s.heap H [] := by rw [hH]; exact va_S.rf
  refine xStart hv (Nat.le_of_ble_eq_true rfl) (lv := [(0, .ref (qT 0)), (1, .int a1), (2, .int a2)]) rfl (fun ls hl => ?_)
  have h := hm
  unfold m_X4_kind at h
  refine lv_iload_n hx hb (dAt zX4_kind_0 0 rfl) rfl (lv_at hl 1 rfl) ?_
  refine lv_if_lt (tgt := 25) hx hb (dAt zX4_kind_0 1 rfl) (by decide) (fun c_1 => ?_) (fun c_1 => ?_)
  · have h := q_pos c_1 h
    refine lv_bipush (v := (-6)) hx hb (dAt zX4_kind_0 13 rfl) (by decide) ?_
    obtain rfl := q_some h
    exact xRi hx hb hr hlocks hQ hAe hP hD hK hS rfl (dAt zX4_kind_0 14 rfl)
  · have h := q_neg c_1 h
    refine lv_iload_n hx hb (dAt zX4_kind_0 2 rfl) rfl (lv_at hl 1 rfl) ?_
    refine lv_bipush (v := 10) hx hb (dAt zX4_kind_0 3 rfl) (by decide) ?_
    refine lv_icmp_ge (tgt := 25) hx hb (dAt zX4_kind_0 4 rfl) (by decide) (fun c_7 => ?_) (fun c_7 => ?_)
    · have h := q_pos c_7 h
      refine lv_bipush (v := (-6)) hx hb (dAt zX4_kind_0 13 rfl) (by decide) ?_
      obtain rfl := q_some h
      exact xRi hx hb hr hlocks hQ hAe hP hD hK hS rfl (dAt zX4_kind_0 14 rfl)
    · have h := q_neg c_7 h
      refine lv_iload_n hx hb (dAt zX4_kind_0 5 rfl) rfl (lv_at hl 2 rfl) ?_
      refine lv_if_lt (tgt := 25) hx hb (dAt zX4_kind_0 6 rfl) (by decide) (fun c_11 => ?_) (fun c_11 => ?_)
      · have h := q_pos c_11 h
        refine lv_bipush (v := (-6)) hx hb (dAt zX4_kind_0 13 rfl) (by decide) ?_
        obtain rfl := q_some h
        exact xRi hx hb hr hlocks hQ hAe hP hD hK hS rfl (dAt zX4_kind_0 14 rfl)
      · have h := q_neg c_11 h
        refine lv_iload_n hx hb (dAt zX4_kind_0 7 rfl) rfl (lv_at hl 2 rfl) ?_
        refine lv_bipush (v := 10) hx hb (dAt zX4_kind_0 8 rfl) (by decide) ?_
        refine lv_icmp_ge (tgt := 25) hx hb (dAt zX4_kind_0 9 rfl) (by decide) (fun c_17 => ?_) (fun c_17 => ?_)
        · have h := q_pos c_17 h
          refine lv_bipush (v := (-6)) hx hb (dAt zX4_kind_0 13 rfl) (by decide) ?_
          obtain rfl := q_some h
          exact xRi hx hb hr hlocks hQ hAe hP hD hK hS rfl (dAt zX4_kind_0 14 rfl)
        · have h := q_neg c_17 h
          refine lv_iload_n hx hb (dAt zX4_kind_0 10 rfl) rfl (lv_at hl 1 rfl) ?_
          refine lv_iload_n hx hb (dAt zX4_kind_0 11 rfl) rfl (lv_at hl 2 rfl) ?_
          refine lv_icmp_ne (tgt := 28) hx hb (dAt zX4_kind_0 12 rfl) (by decide) (fun c_22 => ?_) (fun c_22 => ?_)
          · have h := q_neg c_22 h
            refine lv_aload_n hx hb (dAt zX4_kind_0 15 rfl) rfl (lv_at hl 0 rfl) ?_
            refine va_get (D := D) (ci := 4) (v := .ref (qT 7)) (C := RX4) (T := TX4) (N := 9) hx hb htl inlX4 hown hK hP 0 rfl rfl 6 (by decide) (htl _ W_46) (fun _ h9 => h9) rfl (dAt zX4_kind_0 16 rfl) ?_
            refine lv_iload_n hx hb (dAt zX4_kind_0 17 rfl) rfl (lv_at hl 1 rfl) ?_
            refine lv_bipush (v := 10) hx hb (dAt zX4_kind_0 18 rfl) (by decide) ?_
            refine lv_imul hx hb (dAt zX4_kind_0 19 rfl) ?_
            refine lv_iload_n hx hb (dAt zX4_kind_0 20 rfl) rfl (lv_at hl 2 rfl) ?_
            refine lv_iadd hx hb (dAt zX4_kind_0 21 rfl) ?_
            obtain ⟨hi_38, h⟩ := q_in h
            refine va_iald hx hb hK hP 2 0 rfl rfl hi_38 (dAt zX4_kind_0 22 rfl) ?_
            obtain rfl := q_some h
            exact xRi hx hb hr hlocks hQ hAe hP hD hK hS rfl (dAt zX4_kind_0 23 rfl)
          · have h := q_pos c_22 h
            refine lv_bipush (v := (-6)) hx hb (dAt zX4_kind_0 13 rfl) (by decide) ?_
            obtain rfl := q_some h
            exact xRi hx hb hr hlocks hQ hAe hP hD hK hS rfl (dAt zX4_kind_0 14 rfl)
def m_X4_fades (n : Nat) (zT : TI) (a1 : Int32) (a2 : Int32) : Option Int32 := ((m_X4_isHere n zT a1).bind fun u2 => (if u2 = 0 then some 0 else ((m_X4_isHere n zT a2).bind fun u10 => (if u10 = 0 then some 0 else ((m_X4_kind n zT a1 a2).bind fun u19 => (if u19 = 3 then some 0 else ((m_X4_strength n zT a1 a2).bind fun u29 => (if u29 ≤ 0 then some 0 else some 1))))))))
set_option maxHeartbeats 4000000 in
set_option maxRecDepth 100000 in
theorem c_X4_fades (l : Launch) (D : va_G) (cI cJ cZ : ClassId) (n : Nat) (qT : Nat → Nat) (sz : Nat) (zT : TI) (a1 : Int32) (a2 : Int32) (out : Int32) (hm : m_X4_fades n zT a1 a2 = some out) : Met l yX4_fades (wsM yX4_fades cX4_fades 3 (some .boolean)) { frames := 1, cells := 0, slots := 0, locals := 22 } (xPre D (kT cI cJ cZ) (w4 cI qT zT) sz [.ref (qT 0), .int a1, .int a2]) (xQz D (kT cI cJ cZ) (w4 cI qT zT) (w4 cI qT zT) sz out) 0 0 (va_A (w4 cI qT zT) sz) := by
  refine Met.ofW (cc := cX4_fades) (maxL := 3) (ret := (some .boolean)) (by decide) rfl ?_
  intro p e s m args below meth c s₁ B hml hv
  obtain ⟨hv, hsz, hP, hK, hD0, hN⟩ := hv
  have hx := B.exec; have hb := B.bytes; have hr := B.returns
  have hts := atoms_spec (ws := (wsM yX4_fades cX4_fades 3 (some .boolean))) B.pre
  have hown : s.vm.findClass RX4 = some m.cls := findClass_of_methodNamed B.named
  have hlocks := B.notSynchronized
  subst hsz
  have hD := hD0.self (sz := s.heap.size)
  obtain ⟨A, hAe⟩ : ∃ A, A = va_A (w4 cI qT zT) s.heap.size := ⟨_, rfl⟩
  rw [← hAe] at hD
  have hA : ∀ q : Nat, s.heap.size ≤ q → A q := fun q h => by rw [hAe]; exact Or.inr h
  have htl : ∀ w ∈ wsL_law, w.before args s = true := fun w h => hts w (List.mem_cons_of_mem _ h)
  refine xHead (R' := { frames := 1, cells := 0, slots := 0, locals := 22 }) rfl (fun Q H hQ hH => ?_)
  have hP : va_P D vwCl (w4 cI qT zT) H := by rw [hH]; exact hP
  have hS : va_S A s.heap H [] := by rw [hH]; exact va_S.rf
  refine xStart hv (Nat.le_of_ble_eq_true rfl) (lv := [(0, .ref (qT 0)), (1, .int a1), (2, .int a2)]) rfl (fun ls hl => ?_)
  have h := hm
  unfold m_X4_fades at h
  refine lv_aload_n hx hb (dAt zX4_fades_0 0 rfl) rfl (lv_at hl 0 rfl) ?_
  refine lv_iload_n hx hb (dAt zX4_fades_0 1 rfl) rfl (lv_at hl 1 rfl) ?_
  obtain ⟨u2, hu2, h⟩ := q_bind h
  refine xFz (wc := (w4 cI qT zT)) (w1 := (w4 cI qT zT)) (wr := ([] : va_W)) (ws2 := (w4 cI qT zT)) (va_runV (As := [.int a1]) (rest := []) ⟨hx, hb, hml, hown, htl⟩ (c_X4_isHere l D cI cJ cZ n qT H.size zT a1 u2 hu2) (cwV 1 htl (gV W_305 W_306 W_307 W_14 W_308) rfl rfl rfl (by decide +kernel) ⟨Nat.le_of_ble_eq_true rfl, Nat.le_of_ble_eq_true rfl⟩) (xPV hP hD hK hN 0 rfl rfl) rfl rfl hl.1 rfl (lv_room (Nat.le_of_ble_eq_true rfl)) (dAt zX4_fades_0 2 rfl) ⟨Nat.zero_le _, Nat.zero_le _⟩) hS hA hP hD [0, 1, 2, 3, 4] [] [0, 1, 2, 3, 4] rfl rfl (by decide) (by decide) rfl (by decide) (fun H locs hz2 hP hD hS => ?_)
  refine lv_if_eq (tgt := 39) hx hb (dAt zX4_fades_0 3 rfl) (by decide) (fun c_5 => ?_) (fun c_5 => ?_)
  · have h := q_pos c_5 h
    refine lv_iconst (v := 0) hx hb (dAt zX4_fades_0 21 rfl) (by decide) ?_
    obtain rfl := q_some h
    exact xRz hx hb hr hlocks hQ hAe hP hD hK hS rfl rfl (dAt zX4_fades_0 22 rfl)
  · have h := q_neg c_5 h
    refine lv_aload_n hx hb (dAt zX4_fades_0 4 rfl) rfl (lv_at hl 0 rfl) ?_
    refine lv_iload_n hx hb (dAt zX4_fades_0 5 rfl) rfl (lv_at hl 2 rfl) ?_
    obtain ⟨u10, hu10, h⟩ := q_bind h
    refine xFz (wc := (w4 cI qT zT)) (w1 := (w4 cI qT zT)) (wr := ([] : va_W)) (ws2 := (w4 cI qT zT)) (va_runV (As := [.int a2]) (rest := []) ⟨hx, hb, hml, hown, htl⟩ (c_X4_isHere l D cI cJ cZ n qT H.size zT a2 u10 hu10) (cwV 1 htl (gV W_305 W_306 W_307 W_14 W_308) rfl rfl rfl (by decide +kernel) ⟨Nat.le_of_ble_eq_true rfl, Nat.le_of_ble_eq_true rfl⟩) (xPV hP hD hK hN 0 rfl rfl) rfl rfl hl.1 rfl (lv_room (Nat.le_of_ble_eq_true rfl)) (dAt zX4_fades_0 6 rfl) ⟨Nat.zero_le _, Nat.zero_le _⟩) hS hA hP hD [0, 1, 2, 3, 4] [] [0, 1, 2, 3, 4] rfl rfl (by decide) (by decide) rfl (by decide) (fun H locs hz10 hP hD hS => ?_)
    refine lv_if_eq (tgt := 39) hx hb (dAt zX4_fades_0 7 rfl) (by decide) (fun c_13 => ?_) (fun c_13 => ?_)
    · have h := q_pos c_13 h
      refine lv_iconst (v := 0) hx hb (dAt zX4_fades_0 21 rfl) (by decide) ?_
      obtain rfl := q_some h
      exact xRz hx hb hr hlocks hQ hAe hP hD hK hS rfl rfl (dAt zX4_fades_0 22 rfl)
    · have h := q_neg c_13 h
      refine lv_aload_n hx hb (dAt zX4_fades_0 8 rfl) rfl (lv_at hl 0 rfl) ?_
      refine lv_iload_n hx hb (dAt zX4_fades_0 9 rfl) rfl (lv_at hl 1 rfl) ?_
      refine lv_iload_n hx hb (dAt zX4_fades_0 10 rfl) rfl (lv_at hl 2 rfl) ?_
      obtain ⟨u19, hu19, h⟩ := q_bind h
      refine xFi (wc := (w4 cI qT zT)) (w1 := (w4 cI qT zT)) (wr := ([] : va_W)) (ws2 := (w4 cI qT zT)) (va_runV (As := [.int a1, .int a2]) (rest := []) ⟨hx, hb, hml, hown, htl⟩ (c_X4_kind l D cI cJ cZ n qT H.size zT a1 a2 u19 hu19) (cwV 2 htl (gV W_309 W_310 W_311 W_14 W_312) rfl rfl rfl (by decide +kernel) ⟨Nat.le_of_ble_eq_true rfl, Nat.le_of_ble_eq_true rfl⟩) (xPV hP hD hK hN 0 rfl rfl) rfl rfl hl.1 rfl (lv_room (Nat.le_of_ble_eq_true rfl)) (dAt zX4_fades_0 11 rfl) ⟨Nat.zero_le _, Nat.zero_le _⟩) hS hA hP hD [0, 1, 2, 3, 4] [] [0, 1, 2, 3, 4] rfl rfl (by decide) (by decide) rfl (by decide) (fun H locs hP hD hS => ?_)
      refine lv_iconst (v := 3) hx hb (dAt zX4_fades_0 12 rfl) (by decide) ?_
      refine lv_icmp_eq (tgt := 39) hx hb (dAt zX4_fades_0 13 rfl) (by decide) (fun c_23 => ?_) (fun c_23 => ?_)
      · have h := q_pos c_23 h
        refine lv_iconst (v := 0) hx hb (dAt zX4_fades_0 21 rfl) (by decide) ?_
        obtain rfl := q_some h
        exact xRz hx hb hr hlocks hQ hAe hP hD hK hS rfl rfl (dAt zX4_fades_0 22 rfl)
      · have h := q_neg c_23 h
        refine lv_aload_n hx hb (dAt zX4_fades_0 14 rfl) rfl (lv_at hl 0 rfl) ?_
        refine lv_iload_n hx hb (dAt zX4_fades_0 15 rfl) rfl (lv_at hl 1 rfl) ?_
        refine lv_iload_n hx hb (dAt zX4_fades_0 16 rfl) rfl (lv_at hl 2 rfl) ?_
        obtain ⟨u29, hu29, h⟩ := q_bind h
        refine xFi (wc := (w4 cI qT zT)) (w1 := (w4 cI qT zT)) (wr := ([] : va_W)) (ws2 := (w4 cI qT zT)) (va_runV (As := [.int a1, .int a2]) (rest := []) ⟨hx, hb, hml, hown, htl⟩ (c_X4_strength l D cI cJ cZ n qT H.size zT a1 a2 u29 hu29) (cwV 2 htl (gV W_313 W_114 W_115 W_14 W_116) rfl rfl rfl (by decide +kernel) ⟨Nat.le_of_ble_eq_true rfl, Nat.le_of_ble_eq_true rfl⟩) (xPV hP hD hK hN 0 rfl rfl) rfl rfl hl.1 rfl (lv_room (Nat.le_of_ble_eq_true rfl)) (dAt zX4_fades_0 17 rfl) ⟨Nat.zero_le _, Nat.zero_le _⟩) hS hA hP hD [0, 1, 2, 3, 4] [] [0, 1, 2, 3, 4] rfl rfl (by decide) (by decide) rfl (by decide) (fun H locs hP hD hS => ?_)
        refine lv_if_le (tgt := 39) hx hb (dAt zX4_fades_0 18 rfl) (by decide) (fun c_32 => ?_) (fun c_32 => ?_)
        · have h := q_pos c_32 h
          refine lv_iconst (v := 0) hx hb (dAt zX4_fades_0 21 rfl) (by decide) ?_
          obtain rfl := q_some h
          exact xRz hx hb hr hlocks hQ hAe hP hD hK hS rfl rfl (dAt zX4_fades_0 22 rfl)
        · have h := q_neg c_32 h
          refine lv_iconst (v := 1) hx hb (dAt zX4_fades_0 19 rfl) (by decide) ?_
          refine lv_goto (tgt := 40) hx hb (dAt zX4_fades_0 20 rfl) (by decide) ?_
          obtain rfl := q_some h
          exact xRz hx hb hr hlocks hQ hAe hP hD hK hS rfl rfl (dAt zX4_fades_0 22 rfl)
def b_X4_anyTieFades_12 (n : Nat) (zT : TI) (v1_2 : Int32) (k_2 : Int32 → Option Int32) (s_12 : Int32) (k_12 : Int32 → Option Int32) : Option Int32 := (if 10 ≤ s_12 then (k_2 (v1_2 + 1)) else ((m_X4_fades n zT v1_2 s_12).bind fun u21 => (if u21 = 0 then (k_12 (s_12 + 1)) else some 1)))
def b_X4_anyTieFades_2 (n : Nat) (zT : TI) (s_2 : Int32) (k_2 : Int32 → Option Int32) : Option Int32 := (if 10 ≤ s_2 then some 0 else (loopF (b_X4_anyTieFades_12 n zT s_2 k_2) n (s_2 + (1 : Int32))))
def m_X4_anyTieFades (n : Nat) (zT : TI) : Option Int32 := (loopF (b_X4_anyTieFades_2 n zT ) n 0)
set_option maxHeartbeats 4000000 in
set_option maxRecDepth 100000 in
theorem c_X4_anyTieFades (l : Launch) (D : va_G) (cI cJ cZ : ClassId) (n : Nat) (qT : Nat → Nat) (sz : Nat) (zT : TI) (out : Int32) (hm : m_X4_anyTieFades n zT = some out) : Met l yX4_anyTieFades (wsM yX4_anyTieFades cX4_anyTieFades 3 (some .boolean)) { frames := 2, cells := 0, slots := 0, locals := 44 } (xPre D (kT cI cJ cZ) (w4 cI qT zT) sz [.ref (qT 0)]) (xQz D (kT cI cJ cZ) (w4 cI qT zT) (w4 cI qT zT) sz out) 0 0 (va_A (w4 cI qT zT) sz) := by
  refine Met.ofW (cc := cX4_anyTieFades) (maxL := 3) (ret := (some .boolean)) (by decide) rfl ?_
  intro p e s m args below meth c s₁ B hml hv
  obtain ⟨hv, hsz, hP, hK, hD0, hN⟩ := hv
  have hx := B.exec; have hb := B.bytes; have hr := B.returns
  have hts := atoms_spec (ws := (wsM yX4_anyTieFades cX4_anyTieFades 3 (some .boolean))) B.pre
  have hown : s.vm.findClass RX4 = some m.cls := findClass_of_methodNamed B.named
  have hlocks := B.notSynchronized
  subst hsz
  have hD := hD0.self (sz := s.heap.size)
  obtain ⟨A, hAe⟩ : ∃ A, A = va_A (w4 cI qT zT) s.heap.size := ⟨_, rfl⟩
  rw [← hAe] at hD
  have hA : ∀ q : Nat, s.heap.size ≤ q → A q := fun q h => by rw [hAe]; exact Or.inr h
  have htl : ∀ w ∈ wsL_law, w.before args s = true := fun w h => hts w (List.mem_cons_of_mem _ h)
  refine xHead (R' := { frames := 2, cells := 0, slots := 0, locals := 44 }) rfl (fun Q H hQ hH => ?_)
  have hP : va_P D vwCl (w4 cI qT zT) H := by rw [hH]; exact hP
  have hS : va_S A s.heap H [] := by rw [hH]; exact va_S.rf
  refine xStart hv (Nat.le_of_ble_eq_true rfl) (lv := [(0, .ref (qT 0))]) rfl (fun ls hl => ?_)
  have h := hm
  unfold m_X4_anyTieFades at h
  refine lv_iconst (v := 0) hx hb (dAt zX4_anyTieFades_0 0 rfl) (by decide) ?_
  refine lv_istore_n (lv' := [(1, .int 0), (0, .ref (qT 0))]) hx hb (dAt zX4_anyTieFades_0 1 rfl) rfl hl (by decide) rfl (fun ls hl => ?_)
  have L_2 : ∀ (j_2 : Nat) (v1_2 : Int32) (H : Heap) (locs : List Loc) (ls : Array Slot), loopF (b_X4_anyTieFades_2 n zT) j_2 v1_2 = some out → va_P D vwCl (w4 cI qT zT) H → va_D A (w4 cI qT zT) → va_S A s.heap H locs → lv_has ls 3 [(0, .ref (qT 0)), (1, .int v1_2)] → W p l e { frames := 2, cells := 0, slots := 0, locals := 44 } s m args below meth c H locs 0 0 Q (F0 m 2 ls []) := by
    intro j_2
    induction j_2 with
    | zero => intro v1_2 H locs ls h hP hD hS hl; exact loopF_0 h
    | succ j_2 ih_2 =>
      intro v1_2 H locs ls h hP hD hS hl
      have h := loopF_s h
      unfold b_X4_anyTieFades_2 at h
      refine lv_iload_n hx hb (dAt zX4_anyTieFades_0 2 rfl) rfl (lv_at hl 1 rfl) ?_
      refine lv_bipush (v := 10) hx hb (dAt zX4_anyTieFades_0 3 rfl) (by decide) ?_
      refine lv_icmp_ge (tgt := 41) hx hb (dAt zX4_anyTieFades_0 4 rfl) (by decide) (fun c_5 => ?_) (fun c_5 => ?_)
      · have h := q_pos c_5 h
        refine lv_iconst (v := 0) hx hb (dAt zX4_anyTieFades_0 23 rfl) (by decide) ?_
        obtain rfl := q_some h
        exact xRz hx hb hr hlocks hQ hAe hP hD hK hS rfl rfl (dAt zX4_anyTieFades_0 24 rfl)
      · have h := q_neg c_5 h
        refine lv_iload_n hx hb (dAt zX4_anyTieFades_0 5 rfl) rfl (lv_at hl 1 rfl) ?_
        refine lv_iconst (v := 1) hx hb (dAt zX4_anyTieFades_0 6 rfl) (by decide) ?_
        refine lv_iadd hx hb (dAt zX4_anyTieFades_0 7 rfl) ?_
        refine lv_istore_n (lv' := [(2, .int (v1_2 + (1 : Int32))), (0, .ref (qT 0)), (1, .int v1_2)]) hx hb (dAt zX4_anyTieFades_0 8 rfl) rfl hl (by decide) rfl (fun ls hl => ?_)
        have L_12 : ∀ (j_12 : Nat) (v2_12 : Int32) (H : Heap) (locs : List Loc) (ls : Array Slot), loopF (b_X4_anyTieFades_12 n zT v1_2 (loopF (b_X4_anyTieFades_2 n zT) j_2)) j_12 v2_12 = some out → va_P D vwCl (w4 cI qT zT) H → va_D A (w4 cI qT zT) → va_S A s.heap H locs → lv_has ls 3 [(0, .ref (qT 0)), (1, .int v1_2), (2, .int v2_12)] → W p l e { frames := 2, cells := 0, slots := 0, locals := 44 } s m args below meth c H locs 0 0 Q (F0 m 12 ls []) := by
          intro j_12
          induction j_12 with
          | zero => intro v2_12 H locs ls h hP hD hS hl; exact loopF_0 h
          | succ j_12 ih_12 =>
            intro v2_12 H locs ls h hP hD hS hl
            have h := loopF_s h
            unfold b_X4_anyTieFades_12 at h
            refine lv_iload_n hx hb (dAt zX4_anyTieFades_0 9 rfl) rfl (lv_at hl 2 rfl) ?_
            refine lv_bipush (v := 10) hx hb (dAt zX4_anyTieFades_0 10 rfl) (by decide) ?_
            refine lv_icmp_ge (tgt := 35) hx hb (dAt zX4_anyTieFades_0 11 rfl) (by decide) (fun c_15 => ?_) (fun c_15 => ?_)
            · have h := q_pos c_15 h
              refine lv_iinc (v := (v1_2 + 1)) (lv' := [(1, .int (v1_2 + 1)), (0, .ref (qT 0)), (2, .int v2_12)]) hx hb (dAt zX4_anyTieFades_0 21 rfl) hl (k := 1) rfl rfl (by decide) rfl (fun ls hl => ?_)
              refine lv_goto (tgt := 2) hx hb (dAt zX4_anyTieFades_0 22 rfl) (by decide) ?_
              exact ih_2 (v1_2 + 1) _ _ _ h hP hD hS (lv_sub hl [1, 0] rfl)
            · have h := q_neg c_15 h
              refine lv_aload_n hx hb (dAt zX4_anyTieFades_0 12 rfl) rfl (lv_at hl 0 rfl) ?_
              refine lv_iload_n hx hb (dAt zX4_anyTieFades_0 13 rfl) rfl (lv_at hl 1 rfl) ?_
              refine lv_iload_n hx hb (dAt zX4_anyTieFades_0 14 rfl) rfl (lv_at hl 2 rfl) ?_
              obtain ⟨u21, hu21, h⟩ := q_bind h
              refine xFz (wc := (w4 cI qT zT)) (w1 := (w4 cI qT zT)) (wr := ([] : va_W)) (ws2 := (w4 cI qT zT)) (va_runV (As := [.int v1_2, .int v2_12]) (rest := []) ⟨hx, hb, hml, hown, htl⟩ (c_X4_fades l D cI cJ cZ n qT H.size zT v1_2 v2_12 u21 hu21) (cwV 2 htl (gV W_301 W_302 W_303 W_14 W_304) rfl rfl rfl (by decide +kernel) ⟨Nat.le_of_ble_eq_true rfl, Nat.le_of_ble_eq_true rfl⟩) (xPV hP hD hK hN 0 rfl rfl) rfl rfl hl.1 rfl (lv_room (Nat.le_of_ble_eq_true rfl)) (dAt zX4_anyTieFades_0 15 rfl) ⟨Nat.zero_le _, Nat.zero_le _⟩) hS hA hP hD [0, 1, 2, 3, 4] [] [0, 1, 2, 3, 4] rfl rfl (by decide) (by decide) rfl (by decide) (fun H locs hz21 hP hD hS => ?_)
              refine lv_if_eq (tgt := 29) hx hb (dAt zX4_anyTieFades_0 16 rfl) (by decide) (fun c_24 => ?_) (fun c_24 => ?_)
              · have h := q_pos c_24 h
                refine lv_iinc (v := (v2_12 + 1)) (lv' := [(2, .int (v2_12 + 1)), (0, .ref (qT 0)), (1, .int v1_2)]) hx hb (dAt zX4_anyTieFades_0 19 rfl) hl (k := 2) rfl rfl (by decide) rfl (fun ls hl => ?_)
                refine lv_goto (tgt := 12) hx hb (dAt zX4_anyTieFades_0 20 rfl) (by decide) ?_
                exact ih_12 (v2_12 + 1) _ _ _ h hP hD hS (lv_sub hl [1, 2, 0] rfl)
              · have h := q_neg c_24 h
                refine lv_iconst (v := 1) hx hb (dAt zX4_anyTieFades_0 17 rfl) (by decide) ?_
                obtain rfl := q_some h
                exact xRz hx hb hr hlocks hQ hAe hP hD hK hS rfl rfl (dAt zX4_anyTieFades_0 18 rfl)
        exact L_12 n (v1_2 + (1 : Int32)) _ _ _ h hP hD hS (lv_sub hl [1, 2, 0] rfl)
  exact L_2 n 0 _ _ _ h hP hD hS (lv_sub hl [1, 0] rfl)
def m_X4_tieForbids (n : Nat) (zT : TI) (a1 : Int32) (a2 : Int32) (a3 : Int32) : Option Int32 := ((m_X4_strength n zT a2 a3).bind fun u3 => (if a1 = 45 then (if u3 = 0 then some 1 else some 0) else (if u3 = 9 then (if a1 = 43 then some 1 else ((m_X4_kind n zT a2 a3).bind fun u41 => (if u41 = 3 then some 1 else some 0))) else some 0)))
set_option maxHeartbeats 4000000 in
set_option maxRecDepth 100000 in
theorem c_X4_tieForbids (l : Launch) (D : va_G) (cI cJ cZ : ClassId) (n : Nat) (qT : Nat → Nat) (sz : Nat) (zT : TI) (a1 : Int32) (a2 : Int32) (a3 : Int32) (out : Int32) (hm : m_X4_tieForbids n zT a1 a2 a3 = some out) : Met l yX4_tieForbids (wsM yX4_tieForbids cX4_tieForbids 5 (some .boolean)) { frames := 1, cells := 0, slots := 0, locals := 22 } (xPre D (kT cI cJ cZ) (w4 cI qT zT) sz [.ref (qT 0), .int a1, .int a2, .int a3]) (xQz D (kT cI cJ cZ) (w4 cI qT zT) (w4 cI qT zT) sz out) 0 0 (va_A (w4 cI qT zT) sz) := by
  refine Met.ofW (cc := cX4_tieForbids) (maxL := 5) (ret := (some .boolean)) (by decide) rfl ?_
  intro p e s m args below meth c s₁ B hml hv
  obtain ⟨hv, hsz, hP, hK, hD0, hN⟩ := hv
  have hx := B.exec; have hb := B.bytes; have hr := B.returns
  have hts := atoms_spec (ws := (wsM yX4_tieForbids cX4_tieForbids 5 (some .boolean))) B.pre
  have hown : s.vm.findClass RX4 = some m.cls := findClass_of_methodNamed B.named
  have hlocks := B.notSynchronized
  subst hsz
  have hD := hD0.self (sz := s.heap.size)
  obtain ⟨A, hAe⟩ : ∃ A, A = va_A (w4 cI qT zT) s.heap.size := ⟨_, rfl⟩
  rw [← hAe] at hD
  have hA : ∀ q : Nat, s.heap.size ≤ q → A q := fun q h => by rw [hAe]; exact Or.inr h
  have htl : ∀ w ∈ wsL_law, w.before args s = true := fun w h => hts w (List.mem_cons_of_mem _ h)
  refine xHead (R' := { frames := 1, cells := 0, slots := 0, locals := 22 }) rfl (fun Q H hQ hH => ?_)
  have hP : va_P D vwCl (w4 cI qT zT) H := by rw [hH]; exact hP
  have hS : va_S A s.heap H [] := by rw [hH]; exact va_S.rf
  refine xStart hv (Nat.le_of_ble_eq_true rfl) (lv := [(0, .ref (qT 0)), (1, .int a1), (2, .int a2), (3, .int a3)]) rfl (fun ls hl => ?_)
  have h := hm
  unfold m_X4_tieForbids at h
  refine lv_aload_n hx hb (dAt zX4_tieForbids_0 0 rfl) rfl (lv_at hl 0 rfl) ?_
  refine lv_iload_n hx hb (dAt zX4_tieForbids_0 1 rfl) rfl (lv_at hl 2 rfl) ?_
  refine lv_iload_n hx hb (dAt zX4_tieForbids_0 2 rfl) rfl (lv_at hl 3 rfl) ?_
  obtain ⟨u3, hu3, h⟩ := q_bind h
  refine xFi (wc := (w4 cI qT zT)) (w1 := (w4 cI qT zT)) (wr := ([] : va_W)) (ws2 := (w4 cI qT zT)) (va_runV (As := [.int a2, .int a3]) (rest := []) ⟨hx, hb, hml, hown, htl⟩ (c_X4_strength l D cI cJ cZ n qT H.size zT a2 a3 u3 hu3) (cwV 2 htl (gV W_313 W_114 W_115 W_14 W_116) rfl rfl rfl (by decide +kernel) ⟨Nat.le_of_ble_eq_true rfl, Nat.le_of_ble_eq_true rfl⟩) (xPV hP hD hK hN 0 rfl rfl) rfl rfl hl.1 rfl (lv_room (Nat.le_of_ble_eq_true rfl)) (dAt zX4_tieForbids_0 3 rfl) ⟨Nat.zero_le _, Nat.zero_le _⟩) hS hA hP hD [0, 1, 2, 3, 4] [] [0, 1, 2, 3, 4] rfl rfl (by decide) (by decide) rfl (by decide) (fun H locs hP hD hS => ?_)
  refine lv_istore (lv' := [(4, .int u3), (0, .ref (qT 0)), (1, .int a1), (2, .int a2), (3, .int a3)]) hx hb (dAt zX4_tieForbids_0 4 rfl) hl (by decide) rfl (fun ls hl => ?_)
  refine lv_iload_n hx hb (dAt zX4_tieForbids_0 5 rfl) rfl (lv_at hl 2 rfl) ?_
  refine lv_bipush (v := 45) hx hb (dAt zX4_tieForbids_0 6 rfl) (by decide) ?_
  refine lv_icmp_ne (tgt := 25) hx hb (dAt zX4_tieForbids_0 7 rfl) (by decide) (fun c_11 => ?_) (fun c_11 => ?_)
  · have h := q_neg c_11 h
    refine lv_iload hx hb (dAt zX4_tieForbids_0 14 rfl) (lv_at hl 0 rfl) ?_
    refine lv_bipush (v := 9) hx hb (dAt zX4_tieForbids_0 15 rfl) (by decide) ?_
    refine lv_icmp_ne (tgt := 52) hx hb (dAt zX4_tieForbids_0 16 rfl) (by decide) (fun c_29 => ?_) (fun c_29 => ?_)
    · have h := q_neg c_29 h
      refine lv_iconst (v := 0) hx hb (dAt zX4_tieForbids_0 28 rfl) (by decide) ?_
      obtain rfl := q_some h
      exact xRz hx hb hr hlocks hQ hAe hP hD hK hS rfl rfl (dAt zX4_tieForbids_0 29 rfl)
    · have h := q_pos c_29 h
      refine lv_iload_n hx hb (dAt zX4_tieForbids_0 17 rfl) rfl (lv_at hl 2 rfl) ?_
      refine lv_bipush (v := 43) hx hb (dAt zX4_tieForbids_0 18 rfl) (by decide) ?_
      refine lv_icmp_eq (tgt := 48) hx hb (dAt zX4_tieForbids_0 19 rfl) (by decide) (fun c_35 => ?_) (fun c_35 => ?_)
      · have h := q_pos c_35 h
        refine lv_iconst (v := 1) hx hb (dAt zX4_tieForbids_0 26 rfl) (by decide) ?_
        refine lv_goto (tgt := 53) hx hb (dAt zX4_tieForbids_0 27 rfl) (by decide) ?_
        obtain rfl := q_some h
        exact xRz hx hb hr hlocks hQ hAe hP hD hK hS rfl rfl (dAt zX4_tieForbids_0 29 rfl)
      · have h := q_neg c_35 h
        refine lv_aload_n hx hb (dAt zX4_tieForbids_0 20 rfl) rfl (lv_at hl 1 rfl) ?_
        refine lv_iload_n hx hb (dAt zX4_tieForbids_0 21 rfl) rfl (lv_at hl 3 rfl) ?_
        refine lv_iload_n hx hb (dAt zX4_tieForbids_0 22 rfl) rfl (lv_at hl 4 rfl) ?_
        obtain ⟨u41, hu41, h⟩ := q_bind h
        refine xFi (wc := (w4 cI qT zT)) (w1 := (w4 cI qT zT)) (wr := ([] : va_W)) (ws2 := (w4 cI qT zT)) (va_runV (As := [.int a2, .int a3]) (rest := []) ⟨hx, hb, hml, hown, htl⟩ (c_X4_kind l D cI cJ cZ n qT H.size zT a2 a3 u41 hu41) (cwV 2 htl (gV W_309 W_310 W_311 W_14 W_312) rfl rfl rfl (by decide +kernel) ⟨Nat.le_of_ble_eq_true rfl, Nat.le_of_ble_eq_true rfl⟩) (xPV hP hD hK hN 0 rfl rfl) rfl rfl hl.1 rfl (lv_room (Nat.le_of_ble_eq_true rfl)) (dAt zX4_tieForbids_0 23 rfl) ⟨Nat.zero_le _, Nat.zero_le _⟩) hS hA hP hD [0, 1, 2, 3, 4] [] [0, 1, 2, 3, 4] rfl rfl (by decide) (by decide) rfl (by decide) (fun H locs hP hD hS => ?_)
        refine lv_iconst (v := 3) hx hb (dAt zX4_tieForbids_0 24 rfl) (by decide) ?_
        refine lv_icmp_ne (tgt := 52) hx hb (dAt zX4_tieForbids_0 25 rfl) (by decide) (fun c_45 => ?_) (fun c_45 => ?_)
        · have h := q_neg c_45 h
          refine lv_iconst (v := 0) hx hb (dAt zX4_tieForbids_0 28 rfl) (by decide) ?_
          obtain rfl := q_some h
          exact xRz hx hb hr hlocks hQ hAe hP hD hK hS rfl rfl (dAt zX4_tieForbids_0 29 rfl)
        · have h := q_pos c_45 h
          refine lv_iconst (v := 1) hx hb (dAt zX4_tieForbids_0 26 rfl) (by decide) ?_
          refine lv_goto (tgt := 53) hx hb (dAt zX4_tieForbids_0 27 rfl) (by decide) ?_
          obtain rfl := q_some h
          exact xRz hx hb hr hlocks hQ hAe hP hD hK hS rfl rfl (dAt zX4_tieForbids_0 29 rfl)
  · have h := q_pos c_11 h
    refine lv_iload hx hb (dAt zX4_tieForbids_0 8 rfl) (lv_at hl 0 rfl) ?_
    refine lv_if_ne (tgt := 23) hx hb (dAt zX4_tieForbids_0 9 rfl) (by decide) (fun c_16 => ?_) (fun c_16 => ?_)
    · have h := q_neg c_16 h
      refine lv_iconst (v := 0) hx hb (dAt zX4_tieForbids_0 12 rfl) (by decide) ?_
      obtain rfl := q_some h
      exact xRz hx hb hr hlocks hQ hAe hP hD hK hS rfl rfl (dAt zX4_tieForbids_0 13 rfl)
    · have h := q_pos c_16 h
      refine lv_iconst (v := 1) hx hb (dAt zX4_tieForbids_0 10 rfl) (by decide) ?_
      refine lv_goto (tgt := 24) hx hb (dAt zX4_tieForbids_0 11 rfl) (by decide) ?_
      obtain rfl := q_some h
      exact xRz hx hb hr hlocks hQ hAe hP hD hK hS rfl rfl (dAt zX4_tieForbids_0 13 rfl)
def m_X4_reasonAgainst (n : Nat) (zT : TI) (a1 : Int32) (a2 : Int32) (a3 : Int32) : Option Int32 := (if a1 = 46 then (if (zT 0 2) = 0 then some 4 else some 0) else (if a1 = 126 then ((m_X4_anyTieFades n zT).bind fun u26 => (if u26 = 0 then some 5 else some 0)) else ((m_X4_isHere n zT a2).bind fun u40 => (if u40 = 0 then some 1 else (if a1 = 100 then some 0 else (if a1 = 62 then some 0 else ((m_X4_isHere n zT a3).bind fun u64 => (if u64 = 0 then some 1 else (if a2 = a3 then some 2 else ((m_X4_tieForbids n zT a1 a2 a3).bind fun u83 => (if u83 = 0 then some 0 else some 3)))))))))))
set_option maxHeartbeats 4000000 in
set_option maxRecDepth 100000 in
theorem c_X4_reasonAgainst (l : Launch) (D : va_G) (cI cJ cZ : ClassId) (n : Nat) (qT : Nat → Nat) (sz : Nat) (zT : TI) (a1 : Int32) (a2 : Int32) (a3 : Int32) (out : Int32) (hm : m_X4_reasonAgainst n zT a1 a2 a3 = some out) : Met l yX4_reasonAgainst (wsM yX4_reasonAgainst cX4_reasonAgainst 4 (some .int)) { frames := 3, cells := 0, slots := 0, locals := 66 } (xPre D (kT cI cJ cZ) (w4 cI qT zT) sz [.ref (qT 0), .int a1, .int a2, .int a3]) (xQi D (kT cI cJ cZ) (w4 cI qT zT) (w4 cI qT zT) sz out) 0 0 (va_A (w4 cI qT zT) sz) := by
  refine Met.ofW (cc := cX4_reasonAgainst) (maxL := 4) (ret := (some .int)) (by decide) rfl ?_
  intro p e s m args below meth c s₁ B hml hv
  obtain ⟨hv, hsz, hP, hK, hD0, hN⟩ := hv
  have hx := B.exec; have hb := B.bytes; have hr := B.returns
  have hts := atoms_spec (ws := (wsM yX4_reasonAgainst cX4_reasonAgainst 4 (some .int))) B.pre
  have hown : s.vm.findClass RX4 = some m.cls := findClass_of_methodNamed B.named
  have hlocks := B.notSynchronized
  subst hsz
  have hD := hD0.self (sz := s.heap.size)
  obtain ⟨A, hAe⟩ : ∃ A, A = va_A (w4 cI qT zT) s.heap.size := ⟨_, rfl⟩
  rw [← hAe] at hD
  have hA : ∀ q : Nat, s.heap.size ≤ q → A q := fun q h => by rw [hAe]; exact Or.inr h
  have htl : ∀ w ∈ wsL_law, w.before args s = true := fun w h => hts w (List.mem_cons_of_mem _ h)
  refine xHead (R' := { frames := 3, cells := 0, slots := 0, locals := 66 }) rfl (fun Q H hQ hH => ?_)
  have hP : va_P D vwCl (w4 cI qT zT) H := by rw [hH]; exact hP
  have hS : va_S A s.heap H [] := by rw [hH]; exact va_S.rf
  refine xStart hv (Nat.le_of_ble_eq_true rfl) (lv := [(0, .ref (qT 0)), (1, .int a1), (2, .int a2), (3, .int a3)]) rfl (fun ls hl => ?_)
  have h := hm
  unfold m_X4_reasonAgainst at h
  refine lv_iload_n hx hb (dAt zX4_reasonAgainst_0 0 rfl) rfl (lv_at hl 1 rfl) ?_
  refine lv_bipush (v := 46) hx hb (dAt zX4_reasonAgainst_0 1 rfl) (by decide) ?_
  refine lv_icmp_ne (tgt := 19) hx hb (dAt zX4_reasonAgainst_0 2 rfl) (by decide) (fun c_3 => ?_) (fun c_3 => ?_)
  · have h := q_neg c_3 h
    refine lv_iload_n hx hb (dAt zX4_reasonAgainst_0 10 rfl) rfl (lv_at hl 1 rfl) ?_
    refine lv_bipush (v := 126) hx hb (dAt zX4_reasonAgainst_0 11 rfl) (by decide) ?_
    refine lv_icmp_ne (tgt := 38) hx hb (dAt zX4_reasonAgainst_0 12 rfl) (by decide) (fun c_22 => ?_) (fun c_22 => ?_)
    · have h := q_neg c_22 h
      refine lv_aload_n hx hb (dAt zX4_reasonAgainst_0 20 rfl) rfl (lv_at hl 0 rfl) ?_
      refine lv_iload_n hx hb (dAt zX4_reasonAgainst_0 21 rfl) rfl (lv_at hl 2 rfl) ?_
      obtain ⟨u40, hu40, h⟩ := q_bind h
      refine xFz (wc := (w4 cI qT zT)) (w1 := (w4 cI qT zT)) (wr := ([] : va_W)) (ws2 := (w4 cI qT zT)) (va_runV (As := [.int a2]) (rest := []) ⟨hx, hb, hml, hown, htl⟩ (c_X4_isHere l D cI cJ cZ n qT H.size zT a2 u40 hu40) (cwV 1 htl (gV W_305 W_306 W_307 W_14 W_308) rfl rfl rfl (by decide +kernel) ⟨Nat.le_of_ble_eq_true rfl, Nat.le_of_ble_eq_true rfl⟩) (xPV hP hD hK hN 0 rfl rfl) rfl rfl hl.1 rfl (lv_room (Nat.le_of_ble_eq_true rfl)) (dAt zX4_reasonAgainst_0 22 rfl) ⟨Nat.zero_le _, Nat.zero_le _⟩) hS hA hP hD [0, 1, 2, 3, 4] [] [0, 1, 2, 3, 4] rfl rfl (by decide) (by decide) rfl (by decide) (fun H locs hz40 hP hD hS => ?_)
      refine lv_if_ne (tgt := 48) hx hb (dAt zX4_reasonAgainst_0 23 rfl) (by decide) (fun c_43 => ?_) (fun c_43 => ?_)
      · have h := q_neg c_43 h
        refine lv_iload_n hx hb (dAt zX4_reasonAgainst_0 26 rfl) rfl (lv_at hl 1 rfl) ?_
        refine lv_bipush (v := 100) hx hb (dAt zX4_reasonAgainst_0 27 rfl) (by decide) ?_
        refine lv_icmp_eq (tgt := 60) hx hb (dAt zX4_reasonAgainst_0 28 rfl) (by decide) (fun c_51 => ?_) (fun c_51 => ?_)
        · have h := q_pos c_51 h
          refine lv_iconst (v := 0) hx hb (dAt zX4_reasonAgainst_0 32 rfl) (by decide) ?_
          obtain rfl := q_some h
          exact xRi hx hb hr hlocks hQ hAe hP hD hK hS rfl (dAt zX4_reasonAgainst_0 33 rfl)
        · have h := q_neg c_51 h
          refine lv_iload_n hx hb (dAt zX4_reasonAgainst_0 29 rfl) rfl (lv_at hl 1 rfl) ?_
          refine lv_bipush (v := 62) hx hb (dAt zX4_reasonAgainst_0 30 rfl) (by decide) ?_
          refine lv_icmp_ne (tgt := 62) hx hb (dAt zX4_reasonAgainst_0 31 rfl) (by decide) (fun c_57 => ?_) (fun c_57 => ?_)
          · have h := q_neg c_57 h
            refine lv_aload_n hx hb (dAt zX4_reasonAgainst_0 34 rfl) rfl (lv_at hl 0 rfl) ?_
            refine lv_iload_n hx hb (dAt zX4_reasonAgainst_0 35 rfl) rfl (lv_at hl 3 rfl) ?_
            obtain ⟨u64, hu64, h⟩ := q_bind h
            refine xFz (wc := (w4 cI qT zT)) (w1 := (w4 cI qT zT)) (wr := ([] : va_W)) (ws2 := (w4 cI qT zT)) (va_runV (As := [.int a3]) (rest := []) ⟨hx, hb, hml, hown, htl⟩ (c_X4_isHere l D cI cJ cZ n qT H.size zT a3 u64 hu64) (cwV 1 htl (gV W_305 W_306 W_307 W_14 W_308) rfl rfl rfl (by decide +kernel) ⟨Nat.le_of_ble_eq_true rfl, Nat.le_of_ble_eq_true rfl⟩) (xPV hP hD hK hN 0 rfl rfl) rfl rfl hl.1 rfl (lv_room (Nat.le_of_ble_eq_true rfl)) (dAt zX4_reasonAgainst_0 36 rfl) ⟨Nat.zero_le _, Nat.zero_le _⟩) hS hA hP hD [0, 1, 2, 3, 4] [] [0, 1, 2, 3, 4] rfl rfl (by decide) (by decide) rfl (by decide) (fun H locs hz64 hP hD hS => ?_)
            refine lv_if_ne (tgt := 72) hx hb (dAt zX4_reasonAgainst_0 37 rfl) (by decide) (fun c_67 => ?_) (fun c_67 => ?_)
            · have h := q_neg c_67 h
              refine lv_iload_n hx hb (dAt zX4_reasonAgainst_0 40 rfl) rfl (lv_at hl 2 rfl) ?_
              refine lv_iload_n hx hb (dAt zX4_reasonAgainst_0 41 rfl) rfl (lv_at hl 3 rfl) ?_
              refine lv_icmp_ne (tgt := 79) hx hb (dAt zX4_reasonAgainst_0 42 rfl) (by decide) (fun c_74 => ?_) (fun c_74 => ?_)
              · have h := q_neg c_74 h
                refine lv_aload_n hx hb (dAt zX4_reasonAgainst_0 45 rfl) rfl (lv_at hl 0 rfl) ?_
                refine lv_iload_n hx hb (dAt zX4_reasonAgainst_0 46 rfl) rfl (lv_at hl 1 rfl) ?_
                refine lv_iload_n hx hb (dAt zX4_reasonAgainst_0 47 rfl) rfl (lv_at hl 2 rfl) ?_
                refine lv_iload_n hx hb (dAt zX4_reasonAgainst_0 48 rfl) rfl (lv_at hl 3 rfl) ?_
                obtain ⟨u83, hu83, h⟩ := q_bind h
                refine xFz (wc := (w4 cI qT zT)) (w1 := (w4 cI qT zT)) (wr := ([] : va_W)) (ws2 := (w4 cI qT zT)) (va_runV (As := [.int a1, .int a2, .int a3]) (rest := []) ⟨hx, hb, hml, hown, htl⟩ (c_X4_tieForbids l D cI cJ cZ n qT H.size zT a1 a2 a3 u83 hu83) (cwV 3 htl (gV W_314 W_315 W_316 W_14 W_317) rfl rfl rfl (by decide +kernel) ⟨Nat.le_of_ble_eq_true rfl, Nat.le_of_ble_eq_true rfl⟩) (xPV hP hD hK hN 0 rfl rfl) rfl rfl hl.1 rfl (lv_room (Nat.le_of_ble_eq_true rfl)) (dAt zX4_reasonAgainst_0 49 rfl) ⟨Nat.zero_le _, Nat.zero_le _⟩) hS hA hP hD [0, 1, 2, 3, 4] [] [0, 1, 2, 3, 4] rfl rfl (by decide) (by decide) rfl (by decide) (fun H locs hz83 hP hD hS => ?_)
                refine lv_if_eq (tgt := 93) hx hb (dAt zX4_reasonAgainst_0 50 rfl) (by decide) (fun c_86 => ?_) (fun c_86 => ?_)
                · have h := q_pos c_86 h
                  refine lv_iconst (v := 0) hx hb (dAt zX4_reasonAgainst_0 53 rfl) (by decide) ?_
                  obtain rfl := q_some h
                  exact xRi hx hb hr hlocks hQ hAe hP hD hK hS rfl (dAt zX4_reasonAgainst_0 54 rfl)
                · have h := q_neg c_86 h
                  refine lv_iconst (v := 3) hx hb (dAt zX4_reasonAgainst_0 51 rfl) (by decide) ?_
                  refine lv_goto (tgt := 94) hx hb (dAt zX4_reasonAgainst_0 52 rfl) (by decide) ?_
                  obtain rfl := q_some h
                  exact xRi hx hb hr hlocks hQ hAe hP hD hK hS rfl (dAt zX4_reasonAgainst_0 54 rfl)
              · have h := q_pos c_74 h
                refine lv_iconst (v := 2) hx hb (dAt zX4_reasonAgainst_0 43 rfl) (by decide) ?_
                obtain rfl := q_some h
                exact xRi hx hb hr hlocks hQ hAe hP hD hK hS rfl (dAt zX4_reasonAgainst_0 44 rfl)
            · have h := q_pos c_67 h
              refine lv_iconst (v := 1) hx hb (dAt zX4_reasonAgainst_0 38 rfl) (by decide) ?_
              obtain rfl := q_some h
              exact xRi hx hb hr hlocks hQ hAe hP hD hK hS rfl (dAt zX4_reasonAgainst_0 39 rfl)
          · have h := q_pos c_57 h
            refine lv_iconst (v := 0) hx hb (dAt zX4_reasonAgainst_0 32 rfl) (by decide) ?_
            obtain rfl := q_some h
            exact xRi hx hb hr hlocks hQ hAe hP hD hK hS rfl (dAt zX4_reasonAgainst_0 33 rfl)
      · have h := q_pos c_43 h
        refine lv_iconst (v := 1) hx hb (dAt zX4_reasonAgainst_0 24 rfl) (by decide) ?_
        obtain rfl := q_some h
        exact xRi hx hb hr hlocks hQ hAe hP hD hK hS rfl (dAt zX4_reasonAgainst_0 25 rfl)
    · have h := q_pos c_22 h
      refine lv_aload_n hx hb (dAt zX4_reasonAgainst_0 13 rfl) rfl (lv_at hl 0 rfl) ?_
      obtain ⟨u26, hu26, h⟩ := q_bind h
      refine xFz (wc := (w4 cI qT zT)) (w1 := (w4 cI qT zT)) (wr := ([] : va_W)) (ws2 := (w4 cI qT zT)) (va_runV (As := []) (rest := []) ⟨hx, hb, hml, hown, htl⟩ (c_X4_anyTieFades l D cI cJ cZ n qT H.size zT  u26 hu26) (cwV 0 htl (gV W_297 W_298 W_299 W_14 W_300) rfl rfl rfl (by decide +kernel) ⟨Nat.le_of_ble_eq_true rfl, Nat.le_of_ble_eq_true rfl⟩) (xPV hP hD hK hN 0 rfl rfl) rfl rfl hl.1 rfl (lv_room (Nat.le_of_ble_eq_true rfl)) (dAt zX4_reasonAgainst_0 14 rfl) ⟨Nat.zero_le _, Nat.zero_le _⟩) hS hA hP hD [0, 1, 2, 3, 4] [] [0, 1, 2, 3, 4] rfl rfl (by decide) (by decide) rfl (by decide) (fun H locs hz26 hP hD hS => ?_)
      refine lv_if_eq (tgt := 36) hx hb (dAt zX4_reasonAgainst_0 15 rfl) (by decide) (fun c_29 => ?_) (fun c_29 => ?_)
      · have h := q_pos c_29 h
        refine lv_iconst (v := 5) hx hb (dAt zX4_reasonAgainst_0 18 rfl) (by decide) ?_
        obtain rfl := q_some h
        exact xRi hx hb hr hlocks hQ hAe hP hD hK hS rfl (dAt zX4_reasonAgainst_0 19 rfl)
      · have h := q_neg c_29 h
        refine lv_iconst (v := 0) hx hb (dAt zX4_reasonAgainst_0 16 rfl) (by decide) ?_
        refine lv_goto (tgt := 37) hx hb (dAt zX4_reasonAgainst_0 17 rfl) (by decide) ?_
        obtain rfl := q_some h
        exact xRi hx hb hr hlocks hQ hAe hP hD hK hS rfl (dAt zX4_reasonAgainst_0 19 rfl)
  · have h := q_pos c_3 h
    refine lv_aload_n hx hb (dAt zX4_reasonAgainst_0 3 rfl) rfl (lv_at hl 0 rfl) ?_
    refine va_get (D := D) (ci := 4) (v := .int (zT 0 2)) (C := RX4) (T := TX4) (N := 9) hx hb htl inlX4 hown hK hP 0 rfl rfl 2 (by decide) (htl _ W_41) (fun _ h9 => h9) rfl (dAt zX4_reasonAgainst_0 4 rfl) ?_
    refine lv_if_ne (tgt := 17) hx hb (dAt zX4_reasonAgainst_0 5 rfl) (by decide) (fun c_10 => ?_) (fun c_10 => ?_)
    · have h := q_neg c_10 h
      refine lv_iconst (v := 0) hx hb (dAt zX4_reasonAgainst_0 8 rfl) (by decide) ?_
      obtain rfl := q_some h
      exact xRi hx hb hr hlocks hQ hAe hP hD hK hS rfl (dAt zX4_reasonAgainst_0 9 rfl)
    · have h := q_pos c_10 h
      refine lv_iconst (v := 4) hx hb (dAt zX4_reasonAgainst_0 6 rfl) (by decide) ?_
      refine lv_goto (tgt := 18) hx hb (dAt zX4_reasonAgainst_0 7 rfl) (by decide) ?_
      obtain rfl := q_some h
      exact xRi hx hb hr hlocks hQ hAe hP hD hK hS rfl (dAt zX4_reasonAgainst_0 9 rfl)
def b_X4_missingIt_27 (n : Nat) (zT : TI) (a1 : Int32) (u2 : Int32) (s_27 : Int32 × Int32 × Int32) (k_27 : Int32 × Int32 × Int32 → Option Int32) : Option Int32 := (if 10 ≤ s_27.2.2 then some s_27.2.1 else ((m_X4_strength n zT a1 s_27.2.2).bind fun u38 => (if u38 < u2 then (k_27 (s_27.1, s_27.2.1, (s_27.2.2 + 1))) else (if s_27.1 = 0 then ((m_X4_kind n zT a1 s_27.2.2).bind fun u53 => (if u53 = 3 then (k_27 (s_27.1, s_27.2.1, (s_27.2.2 + 1))) else (k_27 (s_27.1, (s_27.2.1 ||| ((1 : Int32) <<< (s_27.2.2 &&& 31))), (s_27.2.2 + 1))))) else (k_27 (s_27.1, (s_27.2.1 ||| ((1 : Int32) <<< (s_27.2.2 &&& 31))), (s_27.2.2 + 1)))))))
def m_X4_missingIt (n : Nat) (zT : TI) (a1 : Int32) : Option Int32 := ((m_X4_rule n zT 1).bind fun u2 => ((m_X4_rule n zT 2).bind fun u8 => (if u8 = 1 then (loopF (b_X4_missingIt_27 n zT a1 u2 ) n (1, 0, 0)) else (loopF (b_X4_missingIt_27 n zT a1 u2 ) n (0, 0, 0)))))
set_option maxHeartbeats 4000000 in
set_option maxRecDepth 100000 in
theorem c_X4_missingIt (l : Launch) (D : va_G) (cI cJ cZ : ClassId) (n : Nat) (qT : Nat → Nat) (sz : Nat) (zT : TI) (a1 : Int32) (out : Int32) (hm : m_X4_missingIt n zT a1 = some out) : Met l yX4_missingIt (wsM yX4_missingIt cX4_missingIt 6 (some .int)) { frames := 1, cells := 0, slots := 0, locals := 22 } (xPre D (kT cI cJ cZ) (w4 cI qT zT) sz [.ref (qT 0), .int a1]) (xQi D (kT cI cJ cZ) (w4 cI qT zT) (w4 cI qT zT) sz out) 0 0 (va_A (w4 cI qT zT) sz) := by
  refine Met.ofW (cc := cX4_missingIt) (maxL := 6) (ret := (some .int)) (by decide) rfl ?_
  intro p e s m args below meth c s₁ B hml hv
  obtain ⟨hv, hsz, hP, hK, hD0, hN⟩ := hv
  have hx := B.exec; have hb := B.bytes; have hr := B.returns
  have hts := atoms_spec (ws := (wsM yX4_missingIt cX4_missingIt 6 (some .int))) B.pre
  have hown : s.vm.findClass RX4 = some m.cls := findClass_of_methodNamed B.named
  have hlocks := B.notSynchronized
  subst hsz
  have hD := hD0.self (sz := s.heap.size)
  obtain ⟨A, hAe⟩ : ∃ A, A = va_A (w4 cI qT zT) s.heap.size := ⟨_, rfl⟩
  rw [← hAe] at hD
  have hA : ∀ q : Nat, s.heap.size ≤ q → A q := fun q h => by rw [hAe]; exact Or.inr h
  have htl : ∀ w ∈ wsL_law, w.before args s = true := fun w h => hts w (List.mem_cons_of_mem _ h)
  refine xHead (R' := { frames := 1, cells := 0, slots := 0, locals := 22 }) rfl (fun Q H hQ hH => ?_)
  have hP : va_P D vwCl (w4 cI qT zT) H := by rw [hH]; exact hP
  have hS : va_S A s.heap H [] := by rw [hH]; exact va_S.rf
  refine xStart hv (Nat.le_of_ble_eq_true rfl) (lv := [(0, .ref (qT 0)), (1, .int a1)]) rfl (fun ls hl => ?_)
  have h := hm
  unfold m_X4_missingIt at h
  refine lv_aload_n hx hb (dAt zX4_missingIt_0 0 rfl) rfl (lv_at hl 0 rfl) ?_
  refine lv_iconst (v := 1) hx hb (dAt zX4_missingIt_0 1 rfl) (by decide) ?_
  obtain ⟨u2, hu2, h⟩ := q_bind h
  refine xFi (wc := (w4 cI qT zT)) (w1 := (w4 cI qT zT)) (wr := ([] : va_W)) (ws2 := (w4 cI qT zT)) (va_runV (As := [.int 1]) (rest := []) ⟨hx, hb, hml, hown, htl⟩ (c_X4_rule l D cI cJ cZ n qT H.size zT 1 u2 hu2) (cwV 1 htl (gV W_332 W_176 W_177 W_14 W_178) rfl rfl rfl (by decide +kernel) ⟨Nat.le_of_ble_eq_true rfl, Nat.le_of_ble_eq_true rfl⟩) (xPV hP hD hK hN 0 rfl rfl) rfl rfl hl.1 rfl (lv_room (Nat.le_of_ble_eq_true rfl)) (dAt zX4_missingIt_0 2 rfl) ⟨Nat.zero_le _, Nat.zero_le _⟩) hS hA hP hD [0, 1, 2, 3, 4] [] [0, 1, 2, 3, 4] rfl rfl (by decide) (by decide) rfl (by decide) (fun H locs hP hD hS => ?_)
  refine lv_istore_n (lv' := [(2, .int u2), (0, .ref (qT 0)), (1, .int a1)]) hx hb (dAt zX4_missingIt_0 3 rfl) rfl hl (by decide) rfl (fun ls hl => ?_)
  refine lv_aload_n hx hb (dAt zX4_missingIt_0 4 rfl) rfl (lv_at hl 1 rfl) ?_
  refine lv_iconst (v := 2) hx hb (dAt zX4_missingIt_0 5 rfl) (by decide) ?_
  obtain ⟨u8, hu8, h⟩ := q_bind h
  refine xFi (wc := (w4 cI qT zT)) (w1 := (w4 cI qT zT)) (wr := ([] : va_W)) (ws2 := (w4 cI qT zT)) (va_runV (As := [.int 2]) (rest := []) ⟨hx, hb, hml, hown, htl⟩ (c_X4_rule l D cI cJ cZ n qT H.size zT 2 u8 hu8) (cwV 1 htl (gV W_332 W_176 W_177 W_14 W_178) rfl rfl rfl (by decide +kernel) ⟨Nat.le_of_ble_eq_true rfl, Nat.le_of_ble_eq_true rfl⟩) (xPV hP hD hK hN 0 rfl rfl) rfl rfl hl.1 rfl (lv_room (Nat.le_of_ble_eq_true rfl)) (dAt zX4_missingIt_0 6 rfl) ⟨Nat.zero_le _, Nat.zero_le _⟩) hS hA hP hD [0, 1, 2, 3, 4] [] [0, 1, 2, 3, 4] rfl rfl (by decide) (by decide) rfl (by decide) (fun H locs hP hD hS => ?_)
  refine lv_iconst (v := 1) hx hb (dAt zX4_missingIt_0 7 rfl) (by decide) ?_
  refine lv_icmp_ne (tgt := 19) hx hb (dAt zX4_missingIt_0 8 rfl) (by decide) (fun c_12 => ?_) (fun c_12 => ?_)
  · have h := q_neg c_12 h
    refine lv_iconst (v := 0) hx hb (dAt zX4_missingIt_0 11 rfl) (by decide) ?_
    refine lv_istore_n (lv' := [(3, .int 0), (2, .int u2), (0, .ref (qT 0)), (1, .int a1)]) hx hb (dAt zX4_missingIt_0 12 rfl) rfl hl (by decide) rfl (fun ls hl => ?_)
    refine lv_iconst (v := 0) hx hb (dAt zX4_missingIt_0 13 rfl) (by decide) ?_
    refine lv_istore (lv' := [(4, .int 0), (3, .int 0), (2, .int u2), (0, .ref (qT 0)), (1, .int a1)]) hx hb (dAt zX4_missingIt_0 14 rfl) hl (by decide) rfl (fun ls hl => ?_)
    refine lv_iconst (v := 0) hx hb (dAt zX4_missingIt_0 15 rfl) (by decide) ?_
    refine lv_istore (lv' := [(5, .int 0), (4, .int 0), (3, .int 0), (2, .int u2), (0, .ref (qT 0)), (1, .int a1)]) hx hb (dAt zX4_missingIt_0 16 rfl) hl (by decide) rfl (fun ls hl => ?_)
    have L_27 : ∀ (j_27 : Nat) (v3_27 : Int32) (v4_27 : Int32) (v5_27 : Int32) (H : Heap) (locs : List Loc) (ls : Array Slot), loopF (b_X4_missingIt_27 n zT a1 u2) j_27 (v3_27, v4_27, v5_27) = some out → va_P D vwCl (w4 cI qT zT) H → va_D A (w4 cI qT zT) → va_S A s.heap H locs → lv_has ls 6 [(0, .ref (qT 0)), (1, .int a1), (2, .int u2), (3, .int v3_27), (4, .int v4_27), (5, .int v5_27)] → W p l e { frames := 1, cells := 0, slots := 0, locals := 22 } s m args below meth c H locs 0 0 Q (F0 m 27 ls []) := by
      intro j_27
      induction j_27 with
      | zero => intro v3_27 v4_27 v5_27 H locs ls h hP hD hS hl; exact loopF_0 h
      | succ j_27 ih_27 =>
        intro v3_27 v4_27 v5_27 H locs ls h hP hD hS hl
        have h := loopF_s h
        unfold b_X4_missingIt_27 at h
        refine lv_iload hx hb (dAt zX4_missingIt_0 17 rfl) (lv_at hl 5 rfl) ?_
        refine lv_bipush (v := 10) hx hb (dAt zX4_missingIt_0 18 rfl) (by decide) ?_
        refine lv_icmp_ge (tgt := 75) hx hb (dAt zX4_missingIt_0 19 rfl) (by decide) (fun c_31 => ?_) (fun c_31 => ?_)
        · have h := q_pos c_31 h
          refine lv_iload hx hb (dAt zX4_missingIt_0 42 rfl) (lv_at hl 4 rfl) ?_
          obtain rfl := q_some h
          exact xRi hx hb hr hlocks hQ hAe hP hD hK hS rfl (dAt zX4_missingIt_0 43 rfl)
        · have h := q_neg c_31 h
          refine lv_aload_n hx hb (dAt zX4_missingIt_0 20 rfl) rfl (lv_at hl 0 rfl) ?_
          refine lv_iload_n hx hb (dAt zX4_missingIt_0 21 rfl) rfl (lv_at hl 1 rfl) ?_
          refine lv_iload hx hb (dAt zX4_missingIt_0 22 rfl) (lv_at hl 5 rfl) ?_
          obtain ⟨u38, hu38, h⟩ := q_bind h
          refine xFi (wc := (w4 cI qT zT)) (w1 := (w4 cI qT zT)) (wr := ([] : va_W)) (ws2 := (w4 cI qT zT)) (va_runV (As := [.int a1, .int v5_27]) (rest := []) ⟨hx, hb, hml, hown, htl⟩ (c_X4_strength l D cI cJ cZ n qT H.size zT a1 v5_27 u38 hu38) (cwV 2 htl (gV W_313 W_114 W_115 W_14 W_116) rfl rfl rfl (by decide +kernel) ⟨Nat.le_of_ble_eq_true rfl, Nat.le_of_ble_eq_true rfl⟩) (xPV hP hD hK hN 0 rfl rfl) rfl rfl hl.1 rfl (lv_room (Nat.le_of_ble_eq_true rfl)) (dAt zX4_missingIt_0 23 rfl) ⟨Nat.zero_le _, Nat.zero_le _⟩) hS hA hP hD [0, 1, 2, 3, 4] [] [0, 1, 2, 3, 4] rfl rfl (by decide) (by decide) rfl (by decide) (fun H locs hP hD hS => ?_)
          refine lv_iload_n hx hb (dAt zX4_missingIt_0 24 rfl) rfl (lv_at hl 2 rfl) ?_
          refine lv_icmp_lt (tgt := 69) hx hb (dAt zX4_missingIt_0 25 rfl) (by decide) (fun c_42 => ?_) (fun c_42 => ?_)
          · have h := q_pos c_42 h
            refine lv_iinc (v := (v5_27 + 1)) (lv' := [(5, .int (v5_27 + 1)), (0, .ref (qT 0)), (1, .int a1), (2, .int u2), (3, .int v3_27), (4, .int v4_27)]) hx hb (dAt zX4_missingIt_0 40 rfl) hl (k := 5) rfl rfl (by decide) rfl (fun ls hl => ?_)
            refine lv_goto (tgt := 27) hx hb (dAt zX4_missingIt_0 41 rfl) (by decide) ?_
            exact ih_27 v3_27 v4_27 (v5_27 + 1) _ _ _ h hP hD hS (lv_sub hl [1, 2, 3, 4, 5, 0] rfl)
          · have h := q_neg c_42 h
            refine lv_iload_n hx hb (dAt zX4_missingIt_0 26 rfl) rfl (lv_at hl 3 rfl) ?_
            refine lv_if_ne (tgt := 60) hx hb (dAt zX4_missingIt_0 27 rfl) (by decide) (fun c_46 => ?_) (fun c_46 => ?_)
            · have h := q_neg c_46 h
              refine lv_iload hx hb (dAt zX4_missingIt_0 34 rfl) (lv_at hl 4 rfl) ?_
              refine lv_iconst (v := 1) hx hb (dAt zX4_missingIt_0 35 rfl) (by decide) ?_
              refine lv_iload hx hb (dAt zX4_missingIt_0 36 rfl) (lv_at hl 5 rfl) ?_
              refine lv_ishl hx hb (dAt zX4_missingIt_0 37 rfl) ?_
              refine lv_ior hx hb (dAt zX4_missingIt_0 38 rfl) ?_
              refine lv_istore (lv' := [(4, .int (v4_27 ||| ((1 : Int32) <<< (v5_27 &&& 31)))), (0, .ref (qT 0)), (1, .int a1), (2, .int u2), (3, .int v3_27), (5, .int v5_27)]) hx hb (dAt zX4_missingIt_0 39 rfl) hl (by decide) rfl (fun ls hl => ?_)
              refine lv_iinc (v := (v5_27 + 1)) (lv' := [(5, .int (v5_27 + 1)), (4, .int (v4_27 ||| ((1 : Int32) <<< (v5_27 &&& 31)))), (0, .ref (qT 0)), (1, .int a1), (2, .int u2), (3, .int v3_27)]) hx hb (dAt zX4_missingIt_0 40 rfl) hl (k := 5) rfl rfl (by decide) rfl (fun ls hl => ?_)
              refine lv_goto (tgt := 27) hx hb (dAt zX4_missingIt_0 41 rfl) (by decide) ?_
              exact ih_27 v3_27 (v4_27 ||| ((1 : Int32) <<< (v5_27 &&& 31))) (v5_27 + 1) _ _ _ h hP hD hS (lv_sub hl [2, 3, 4, 5, 1, 0] rfl)
            · have h := q_pos c_46 h
              refine lv_aload_n hx hb (dAt zX4_missingIt_0 28 rfl) rfl (lv_at hl 0 rfl) ?_
              refine lv_iload_n hx hb (dAt zX4_missingIt_0 29 rfl) rfl (lv_at hl 1 rfl) ?_
              refine lv_iload hx hb (dAt zX4_missingIt_0 30 rfl) (lv_at hl 5 rfl) ?_
              obtain ⟨u53, hu53, h⟩ := q_bind h
              refine xFi (wc := (w4 cI qT zT)) (w1 := (w4 cI qT zT)) (wr := ([] : va_W)) (ws2 := (w4 cI qT zT)) (va_runV (As := [.int a1, .int v5_27]) (rest := []) ⟨hx, hb, hml, hown, htl⟩ (c_X4_kind l D cI cJ cZ n qT H.size zT a1 v5_27 u53 hu53) (cwV 2 htl (gV W_309 W_310 W_311 W_14 W_312) rfl rfl rfl (by decide +kernel) ⟨Nat.le_of_ble_eq_true rfl, Nat.le_of_ble_eq_true rfl⟩) (xPV hP hD hK hN 0 rfl rfl) rfl rfl hl.1 rfl (lv_room (Nat.le_of_ble_eq_true rfl)) (dAt zX4_missingIt_0 31 rfl) ⟨Nat.zero_le _, Nat.zero_le _⟩) hS hA hP hD [0, 1, 2, 3, 4] [] [0, 1, 2, 3, 4] rfl rfl (by decide) (by decide) rfl (by decide) (fun H locs hP hD hS => ?_)
              refine lv_iconst (v := 3) hx hb (dAt zX4_missingIt_0 32 rfl) (by decide) ?_
              refine lv_icmp_eq (tgt := 69) hx hb (dAt zX4_missingIt_0 33 rfl) (by decide) (fun c_57 => ?_) (fun c_57 => ?_)
              · have h := q_pos c_57 h
                refine lv_iinc (v := (v5_27 + 1)) (lv' := [(5, .int (v5_27 + 1)), (0, .ref (qT 0)), (1, .int a1), (2, .int u2), (3, .int v3_27), (4, .int v4_27)]) hx hb (dAt zX4_missingIt_0 40 rfl) hl (k := 5) rfl rfl (by decide) rfl (fun ls hl => ?_)
                refine lv_goto (tgt := 27) hx hb (dAt zX4_missingIt_0 41 rfl) (by decide) ?_
                exact ih_27 v3_27 v4_27 (v5_27 + 1) _ _ _ h hP hD hS (lv_sub hl [1, 2, 3, 4, 5, 0] rfl)
              · have h := q_neg c_57 h
                refine lv_iload hx hb (dAt zX4_missingIt_0 34 rfl) (lv_at hl 4 rfl) ?_
                refine lv_iconst (v := 1) hx hb (dAt zX4_missingIt_0 35 rfl) (by decide) ?_
                refine lv_iload hx hb (dAt zX4_missingIt_0 36 rfl) (lv_at hl 5 rfl) ?_
                refine lv_ishl hx hb (dAt zX4_missingIt_0 37 rfl) ?_
                refine lv_ior hx hb (dAt zX4_missingIt_0 38 rfl) ?_
                refine lv_istore (lv' := [(4, .int (v4_27 ||| ((1 : Int32) <<< (v5_27 &&& 31)))), (0, .ref (qT 0)), (1, .int a1), (2, .int u2), (3, .int v3_27), (5, .int v5_27)]) hx hb (dAt zX4_missingIt_0 39 rfl) hl (by decide) rfl (fun ls hl => ?_)
                refine lv_iinc (v := (v5_27 + 1)) (lv' := [(5, .int (v5_27 + 1)), (4, .int (v4_27 ||| ((1 : Int32) <<< (v5_27 &&& 31)))), (0, .ref (qT 0)), (1, .int a1), (2, .int u2), (3, .int v3_27)]) hx hb (dAt zX4_missingIt_0 40 rfl) hl (k := 5) rfl rfl (by decide) rfl (fun ls hl => ?_)
                refine lv_goto (tgt := 27) hx hb (dAt zX4_missingIt_0 41 rfl) (by decide) ?_
                exact ih_27 v3_27 (v4_27 ||| ((1 : Int32) <<< (v5_27 &&& 31))) (v5_27 + 1) _ _ _ h hP hD hS (lv_sub hl [2, 3, 4, 5, 1, 0] rfl)
    exact L_27 n 0 0 0 _ _ _ h hP hD hS (lv_sub hl [4, 5, 3, 2, 1, 0] rfl)
  · have h := q_pos c_12 h
    refine lv_iconst (v := 1) hx hb (dAt zX4_missingIt_0 9 rfl) (by decide) ?_
    refine lv_goto (tgt := 20) hx hb (dAt zX4_missingIt_0 10 rfl) (by decide) ?_
    refine lv_istore_n (lv' := [(3, .int 1), (2, .int u2), (0, .ref (qT 0)), (1, .int a1)]) hx hb (dAt zX4_missingIt_0 12 rfl) rfl hl (by decide) rfl (fun ls hl => ?_)
    refine lv_iconst (v := 0) hx hb (dAt zX4_missingIt_0 13 rfl) (by decide) ?_
    refine lv_istore (lv' := [(4, .int 0), (3, .int 1), (2, .int u2), (0, .ref (qT 0)), (1, .int a1)]) hx hb (dAt zX4_missingIt_0 14 rfl) hl (by decide) rfl (fun ls hl => ?_)
    refine lv_iconst (v := 0) hx hb (dAt zX4_missingIt_0 15 rfl) (by decide) ?_
    refine lv_istore (lv' := [(5, .int 0), (4, .int 0), (3, .int 1), (2, .int u2), (0, .ref (qT 0)), (1, .int a1)]) hx hb (dAt zX4_missingIt_0 16 rfl) hl (by decide) rfl (fun ls hl => ?_)
    have L_27 : ∀ (j_27 : Nat) (v3_27 : Int32) (v4_27 : Int32) (v5_27 : Int32) (H : Heap) (locs : List Loc) (ls : Array Slot), loopF (b_X4_missingIt_27 n zT a1 u2) j_27 (v3_27, v4_27, v5_27) = some out → va_P D vwCl (w4 cI qT zT) H → va_D A (w4 cI qT zT) → va_S A s.heap H locs → lv_has ls 6 [(0, .ref (qT 0)), (1, .int a1), (2, .int u2), (3, .int v3_27), (4, .int v4_27), (5, .int v5_27)] → W p l e { frames := 1, cells := 0, slots := 0, locals := 22 } s m args below meth c H locs 0 0 Q (F0 m 27 ls []) := by
      intro j_27
      induction j_27 with
      | zero => intro v3_27 v4_27 v5_27 H locs ls h hP hD hS hl; exact loopF_0 h
      | succ j_27 ih_27 =>
        intro v3_27 v4_27 v5_27 H locs ls h hP hD hS hl
        have h := loopF_s h
        unfold b_X4_missingIt_27 at h
        refine lv_iload hx hb (dAt zX4_missingIt_0 17 rfl) (lv_at hl 5 rfl) ?_
        refine lv_bipush (v := 10) hx hb (dAt zX4_missingIt_0 18 rfl) (by decide) ?_
        refine lv_icmp_ge (tgt := 75) hx hb (dAt zX4_missingIt_0 19 rfl) (by decide) (fun c_31 => ?_) (fun c_31 => ?_)
        · have h := q_pos c_31 h
          refine lv_iload hx hb (dAt zX4_missingIt_0 42 rfl) (lv_at hl 4 rfl) ?_
          obtain rfl := q_some h
          exact xRi hx hb hr hlocks hQ hAe hP hD hK hS rfl (dAt zX4_missingIt_0 43 rfl)
        · have h := q_neg c_31 h
          refine lv_aload_n hx hb (dAt zX4_missingIt_0 20 rfl) rfl (lv_at hl 0 rfl) ?_
          refine lv_iload_n hx hb (dAt zX4_missingIt_0 21 rfl) rfl (lv_at hl 1 rfl) ?_
          refine lv_iload hx hb (dAt zX4_missingIt_0 22 rfl) (lv_at hl 5 rfl) ?_
          obtain ⟨u38, hu38, h⟩ := q_bind h
          refine xFi (wc := (w4 cI qT zT)) (w1 := (w4 cI qT zT)) (wr := ([] : va_W)) (ws2 := (w4 cI qT zT)) (va_runV (As := [.int a1, .int v5_27]) (rest := []) ⟨hx, hb, hml, hown, htl⟩ (c_X4_strength l D cI cJ cZ n qT H.size zT a1 v5_27 u38 hu38) (cwV 2 htl (gV W_313 W_114 W_115 W_14 W_116) rfl rfl rfl (by decide +kernel) ⟨Nat.le_of_ble_eq_true rfl, Nat.le_of_ble_eq_true rfl⟩) (xPV hP hD hK hN 0 rfl rfl) rfl rfl hl.1 rfl (lv_room (Nat.le_of_ble_eq_true rfl)) (dAt zX4_missingIt_0 23 rfl) ⟨Nat.zero_le _, Nat.zero_le _⟩) hS hA hP hD [0, 1, 2, 3, 4] [] [0, 1, 2, 3, 4] rfl rfl (by decide) (by decide) rfl (by decide) (fun H locs hP hD hS => ?_)
          refine lv_iload_n hx hb (dAt zX4_missingIt_0 24 rfl) rfl (lv_at hl 2 rfl) ?_
          refine lv_icmp_lt (tgt := 69) hx hb (dAt zX4_missingIt_0 25 rfl) (by decide) (fun c_42 => ?_) (fun c_42 => ?_)
          · have h := q_pos c_42 h
            refine lv_iinc (v := (v5_27 + 1)) (lv' := [(5, .int (v5_27 + 1)), (0, .ref (qT 0)), (1, .int a1), (2, .int u2), (3, .int v3_27), (4, .int v4_27)]) hx hb (dAt zX4_missingIt_0 40 rfl) hl (k := 5) rfl rfl (by decide) rfl (fun ls hl => ?_)
            refine lv_goto (tgt := 27) hx hb (dAt zX4_missingIt_0 41 rfl) (by decide) ?_
            exact ih_27 v3_27 v4_27 (v5_27 + 1) _ _ _ h hP hD hS (lv_sub hl [1, 2, 3, 4, 5, 0] rfl)
          · have h := q_neg c_42 h
            refine lv_iload_n hx hb (dAt zX4_missingIt_0 26 rfl) rfl (lv_at hl 3 rfl) ?_
            refine lv_if_ne (tgt := 60) hx hb (dAt zX4_missingIt_0 27 rfl) (by decide) (fun c_46 => ?_) (fun c_46 => ?_)
            · have h := q_neg c_46 h
              refine lv_iload hx hb (dAt zX4_missingIt_0 34 rfl) (lv_at hl 4 rfl) ?_
              refine lv_iconst (v := 1) hx hb (dAt zX4_missingIt_0 35 rfl) (by decide) ?_
              refine lv_iload hx hb (dAt zX4_missingIt_0 36 rfl) (lv_at hl 5 rfl) ?_
              refine lv_ishl hx hb (dAt zX4_missingIt_0 37 rfl) ?_
              refine lv_ior hx hb (dAt zX4_missingIt_0 38 rfl) ?_
              refine lv_istore (lv' := [(4, .int (v4_27 ||| ((1 : Int32) <<< (v5_27 &&& 31)))), (0, .ref (qT 0)), (1, .int a1), (2, .int u2), (3, .int v3_27), (5, .int v5_27)]) hx hb (dAt zX4_missingIt_0 39 rfl) hl (by decide) rfl (fun ls hl => ?_)
              refine lv_iinc (v := (v5_27 + 1)) (lv' := [(5, .int (v5_27 + 1)), (4, .int (v4_27 ||| ((1 : Int32) <<< (v5_27 &&& 31)))), (0, .ref (qT 0)), (1, .int a1), (2, .int u2), (3, .int v3_27)]) hx hb (dAt zX4_missingIt_0 40 rfl) hl (k := 5) rfl rfl (by decide) rfl (fun ls hl => ?_)
              refine lv_goto (tgt := 27) hx hb (dAt zX4_missingIt_0 41 rfl) (by decide) ?_
              exact ih_27 v3_27 (v4_27 ||| ((1 : Int32) <<< (v5_27 &&& 31))) (v5_27 + 1) _ _ _ h hP hD hS (lv_sub hl [2, 3, 4, 5, 1, 0] rfl)
            · have h := q_pos c_46 h
              refine lv_aload_n hx hb (dAt zX4_missingIt_0 28 rfl) rfl (lv_at hl 0 rfl) ?_
              refine lv_iload_n hx hb (dAt zX4_missingIt_0 29 rfl) rfl (lv_at hl 1 rfl) ?_
              refine lv_iload hx hb (dAt zX4_missingIt_0 30 rfl) (lv_at hl 5 rfl) ?_
              obtain ⟨u53, hu53, h⟩ := q_bind h
              refine xFi (wc := (w4 cI qT zT)) (w1 := (w4 cI qT zT)) (wr := ([] : va_W)) (ws2 := (w4 cI qT zT)) (va_runV (As := [.int a1, .int v5_27]) (rest := []) ⟨hx, hb, hml, hown, htl⟩ (c_X4_kind l D cI cJ cZ n qT H.size zT a1 v5_27 u53 hu53) (cwV 2 htl (gV W_309 W_310 W_311 W_14 W_312) rfl rfl rfl (by decide +kernel) ⟨Nat.le_of_ble_eq_true rfl, Nat.le_of_ble_eq_true rfl⟩) (xPV hP hD hK hN 0 rfl rfl) rfl rfl hl.1 rfl (lv_room (Nat.le_of_ble_eq_true rfl)) (dAt zX4_missingIt_0 31 rfl) ⟨Nat.zero_le _, Nat.zero_le _⟩) hS hA hP hD [0, 1, 2, 3, 4] [] [0, 1, 2, 3, 4] rfl rfl (by decide) (by decide) rfl (by decide) (fun H locs hP hD hS => ?_)
              refine lv_iconst (v := 3) hx hb (dAt zX4_missingIt_0 32 rfl) (by decide) ?_
              refine lv_icmp_eq (tgt := 69) hx hb (dAt zX4_missingIt_0 33 rfl) (by decide) (fun c_57 => ?_) (fun c_57 => ?_)
              · have h := q_pos c_57 h
                refine lv_iinc (v := (v5_27 + 1)) (lv' := [(5, .int (v5_27 + 1)), (0, .ref (qT 0)), (1, .int a1), (2, .int u2), (3, .int v3_27), (4, .int v4_27)]) hx hb (dAt zX4_missingIt_0 40 rfl) hl (k := 5) rfl rfl (by decide) rfl (fun ls hl => ?_)
                refine lv_goto (tgt := 27) hx hb (dAt zX4_missingIt_0 41 rfl) (by decide) ?_
                exact ih_27 v3_27 v4_27 (v5_27 + 1) _ _ _ h hP hD hS (lv_sub hl [1, 2, 3, 4, 5, 0] rfl)
              · have h := q_neg c_57 h
                refine lv_iload hx hb (dAt zX4_missingIt_0 34 rfl) (lv_at hl 4 rfl) ?_
                refine lv_iconst (v := 1) hx hb (dAt zX4_missingIt_0 35 rfl) (by decide) ?_
                refine lv_iload hx hb (dAt zX4_missingIt_0 36 rfl) (lv_at hl 5 rfl) ?_
                refine lv_ishl hx hb (dAt zX4_missingIt_0 37 rfl) ?_
                refine lv_ior hx hb (dAt zX4_missingIt_0 38 rfl) ?_
                refine lv_istore (lv' := [(4, .int (v4_27 ||| ((1 : Int32) <<< (v5_27 &&& 31)))), (0, .ref (qT 0)), (1, .int a1), (2, .int u2), (3, .int v3_27), (5, .int v5_27)]) hx hb (dAt zX4_missingIt_0 39 rfl) hl (by decide) rfl (fun ls hl => ?_)
                refine lv_iinc (v := (v5_27 + 1)) (lv' := [(5, .int (v5_27 + 1)), (4, .int (v4_27 ||| ((1 : Int32) <<< (v5_27 &&& 31)))), (0, .ref (qT 0)), (1, .int a1), (2, .int u2), (3, .int v3_27)]) hx hb (dAt zX4_missingIt_0 40 rfl) hl (k := 5) rfl rfl (by decide) rfl (fun ls hl => ?_)
                refine lv_goto (tgt := 27) hx hb (dAt zX4_missingIt_0 41 rfl) (by decide) ?_
                exact ih_27 v3_27 (v4_27 ||| ((1 : Int32) <<< (v5_27 &&& 31))) (v5_27 + 1) _ _ _ h hP hD hS (lv_sub hl [2, 3, 4, 5, 1, 0] rfl)
    exact L_27 n 1 0 0 _ _ _ h hP hD hS (lv_sub hl [4, 5, 3, 2, 1, 0] rfl)
def m_X5_holds (n : Nat) (a1 : Int32) (a2 : Int32) : Option Int32 := (if ((a1 >>> (a2 &&& 31)) &&& (1 : Int32)) = 1 then some 1 else some 0)
set_option maxHeartbeats 4000000 in
set_option maxRecDepth 100000 in
theorem c_X5_holds (l : Launch) (D : va_G) (cI cJ cZ : ClassId) (n : Nat)  (sz : Nat) (a1 : Int32) (a2 : Int32) (out : Int32) (hm : m_X5_holds n a1 a2 = some out) : Met l yX5_holds (wsM yX5_holds cX5_holds 2 (some .boolean)) { frames := 0, cells := 0, slots := 0, locals := 0 } (xPre D (kT cI cJ cZ) ([] : va_W) sz [.int a1, .int a2]) (xQz D (kT cI cJ cZ) ([] : va_W) ([] : va_W) sz out) 0 0 (va_A ([] : va_W) sz) := by
  refine Met.ofW (cc := cX5_holds) (maxL := 2) (ret := (some .boolean)) (by decide) rfl ?_
  intro p e s m args below meth c s₁ B hml hv
  obtain ⟨hv, hsz, hP, hK, hD0, hN⟩ := hv
  have hx := B.exec; have hb := B.bytes; have hr := B.returns
  have hts := atoms_spec (ws := (wsM yX5_holds cX5_holds 2 (some .boolean))) B.pre
  have hown : s.vm.findClass RX5 = some m.cls := findClass_of_methodNamed B.named
  have hlocks := B.notSynchronized
  subst hsz
  have hD := hD0.self (sz := s.heap.size)
  obtain ⟨A, hAe⟩ : ∃ A, A = va_A ([] : va_W) s.heap.size := ⟨_, rfl⟩
  rw [← hAe] at hD
  have hA : ∀ q : Nat, s.heap.size ≤ q → A q := fun q h => by rw [hAe]; exact Or.inr h
  have htl : ∀ w ∈ wsL_law, w.before args s = true := fun w h => hts w (List.mem_cons_of_mem _ h)
  refine xHead (R' := { frames := 0, cells := 0, slots := 0, locals := 0 }) rfl (fun Q H hQ hH => ?_)
  have hP : va_P D vwCl ([] : va_W) H := by rw [hH]; exact hP
  have hS : va_S A s.heap H [] := by rw [hH]; exact va_S.rf
  refine xStart hv (Nat.le_of_ble_eq_true rfl) (lv := [(0, .int a1), (1, .int a2)]) rfl (fun ls hl => ?_)
  have h := hm
  unfold m_X5_holds at h
  refine lv_iload_n hx hb (dAt zX5_holds_0 0 rfl) rfl (lv_at hl 0 rfl) ?_
  refine lv_iload_n hx hb (dAt zX5_holds_0 1 rfl) rfl (lv_at hl 1 rfl) ?_
  refine lv_ishr hx hb (dAt zX5_holds_0 2 rfl) ?_
  refine lv_iconst (v := 1) hx hb (dAt zX5_holds_0 3 rfl) (by decide) ?_
  refine lv_iand hx hb (dAt zX5_holds_0 4 rfl) ?_
  refine lv_iconst (v := 1) hx hb (dAt zX5_holds_0 5 rfl) (by decide) ?_
  refine lv_icmp_ne (tgt := 13) hx hb (dAt zX5_holds_0 6 rfl) (by decide) (fun c_6 => ?_) (fun c_6 => ?_)
  · have h := q_neg c_6 h
    refine lv_iconst (v := 0) hx hb (dAt zX5_holds_0 9 rfl) (by decide) ?_
    obtain rfl := q_some h
    exact xRz hx hb hr hlocks hQ hAe hP hD hK hS rfl rfl (dAt zX5_holds_0 10 rfl)
  · have h := q_pos c_6 h
    refine lv_iconst (v := 1) hx hb (dAt zX5_holds_0 7 rfl) (by decide) ?_
    refine lv_goto (tgt := 14) hx hb (dAt zX5_holds_0 8 rfl) (by decide) ?_
    obtain rfl := q_some h
    exact xRz hx hb hr hlocks hQ hAe hP hD hK hS rfl rfl (dAt zX5_holds_0 10 rfl)
def m_X4_tiesNeeded (n : Nat) (zT : TI) (a1 : Int32) : Option Int32 := ((m_X4_rule n zT 3).bind fun u2 => (if u2 = 1 then ((m_X5_holds n  (zT 0 1) a1).bind fun u14 => (if u14 = 0 then ((m_X4_rule n zT 0).bind fun u32 => some u32) else ((m_X4_rule n zT 0).bind fun u22 => some (u22 - (1 : Int32))))) else ((m_X4_rule n zT 0).bind fun u32 => some u32)))
set_option maxHeartbeats 4000000 in
set_option maxRecDepth 100000 in
theorem c_X4_tiesNeeded (l : Launch) (D : va_G) (cI cJ cZ : ClassId) (n : Nat) (qT : Nat → Nat) (sz : Nat) (zT : TI) (a1 : Int32) (out : Int32) (hm : m_X4_tiesNeeded n zT a1 = some out) : Met l yX4_tiesNeeded (wsM yX4_tiesNeeded cX4_tiesNeeded 2 (some .int)) { frames := 1, cells := 0, slots := 0, locals := 21 } (xPre D (kT cI cJ cZ) (w4 cI qT zT) sz [.ref (qT 0), .int a1]) (xQi D (kT cI cJ cZ) (w4 cI qT zT) (w4 cI qT zT) sz out) 0 0 (va_A (w4 cI qT zT) sz) := by
  refine Met.ofW (cc := cX4_tiesNeeded) (maxL := 2) (ret := (some .int)) (by decide) rfl ?_
  intro p e s m args below meth c s₁ B hml hv
  obtain ⟨hv, hsz, hP, hK, hD0, hN⟩ := hv
  have hx := B.exec; have hb := B.bytes; have hr := B.returns
  have hts := atoms_spec (ws := (wsM yX4_tiesNeeded cX4_tiesNeeded 2 (some .int))) B.pre
  have hown : s.vm.findClass RX4 = some m.cls := findClass_of_methodNamed B.named
  have hlocks := B.notSynchronized
  subst hsz
  have hD := hD0.self (sz := s.heap.size)
  obtain ⟨A, hAe⟩ : ∃ A, A = va_A (w4 cI qT zT) s.heap.size := ⟨_, rfl⟩
  rw [← hAe] at hD
  have hA : ∀ q : Nat, s.heap.size ≤ q → A q := fun q h => by rw [hAe]; exact Or.inr h
  have htl : ∀ w ∈ wsL_law, w.before args s = true := fun w h => hts w (List.mem_cons_of_mem _ h)
  refine xHead (R' := { frames := 1, cells := 0, slots := 0, locals := 21 }) rfl (fun Q H hQ hH => ?_)
  have hP : va_P D vwCl (w4 cI qT zT) H := by rw [hH]; exact hP
  have hS : va_S A s.heap H [] := by rw [hH]; exact va_S.rf
  refine xStart hv (Nat.le_of_ble_eq_true rfl) (lv := [(0, .ref (qT 0)), (1, .int a1)]) rfl (fun ls hl => ?_)
  have h := hm
  unfold m_X4_tiesNeeded at h
  refine lv_aload_n hx hb (dAt zX4_tiesNeeded_0 0 rfl) rfl (lv_at hl 0 rfl) ?_
  refine lv_iconst (v := 3) hx hb (dAt zX4_tiesNeeded_0 1 rfl) (by decide) ?_
  obtain ⟨u2, hu2, h⟩ := q_bind h
  refine xFi (wc := (w4 cI qT zT)) (w1 := (w4 cI qT zT)) (wr := ([] : va_W)) (ws2 := (w4 cI qT zT)) (va_runV (As := [.int 3]) (rest := []) ⟨hx, hb, hml, hown, htl⟩ (c_X4_rule l D cI cJ cZ n qT H.size zT 3 u2 hu2) (cwV 1 htl (gV W_332 W_176 W_177 W_14 W_178) rfl rfl rfl (by decide +kernel) ⟨Nat.le_of_ble_eq_true rfl, Nat.le_of_ble_eq_true rfl⟩) (xPV hP hD hK hN 0 rfl rfl) rfl rfl hl.1 rfl (lv_room (Nat.le_of_ble_eq_true rfl)) (dAt zX4_tiesNeeded_0 2 rfl) ⟨Nat.zero_le _, Nat.zero_le _⟩) hS hA hP hD [0, 1, 2, 3, 4] [] [0, 1, 2, 3, 4] rfl rfl (by decide) (by decide) rfl (by decide) (fun H locs hP hD hS => ?_)
  refine lv_iconst (v := 1) hx hb (dAt zX4_tiesNeeded_0 3 rfl) (by decide) ?_
  refine lv_icmp_ne (tgt := 30) hx hb (dAt zX4_tiesNeeded_0 4 rfl) (by decide) (fun c_6 => ?_) (fun c_6 => ?_)
  · have h := q_neg c_6 h
    refine lv_aload_n hx hb (dAt zX4_tiesNeeded_0 16 rfl) rfl (lv_at hl 0 rfl) ?_
    refine lv_iconst (v := 0) hx hb (dAt zX4_tiesNeeded_0 17 rfl) (by decide) ?_
    obtain ⟨u32, hu32, h⟩ := q_bind h
    refine xFi (wc := (w4 cI qT zT)) (w1 := (w4 cI qT zT)) (wr := ([] : va_W)) (ws2 := (w4 cI qT zT)) (va_runV (As := [.int 0]) (rest := []) ⟨hx, hb, hml, hown, htl⟩ (c_X4_rule l D cI cJ cZ n qT H.size zT 0 u32 hu32) (cwV 1 htl (gV W_332 W_176 W_177 W_14 W_178) rfl rfl rfl (by decide +kernel) ⟨Nat.le_of_ble_eq_true rfl, Nat.le_of_ble_eq_true rfl⟩) (xPV hP hD hK hN 0 rfl rfl) rfl rfl hl.1 rfl (lv_room (Nat.le_of_ble_eq_true rfl)) (dAt zX4_tiesNeeded_0 18 rfl) ⟨Nat.zero_le _, Nat.zero_le _⟩) hS hA hP hD [0, 1, 2, 3, 4] [] [0, 1, 2, 3, 4] rfl rfl (by decide) (by decide) rfl (by decide) (fun H locs hP hD hS => ?_)
    obtain rfl := q_some h
    exact xRi hx hb hr hlocks hQ hAe hP hD hK hS rfl (dAt zX4_tiesNeeded_0 19 rfl)
  · have h := q_pos c_6 h
    refine lv_aload_n hx hb (dAt zX4_tiesNeeded_0 5 rfl) rfl (lv_at hl 0 rfl) ?_
    refine va_get (D := D) (ci := 4) (v := .int (zT 0 1)) (C := RX4) (T := TX4) (N := 9) hx hb htl inlX4 hown hK hP 0 rfl rfl 1 (by decide) (htl _ W_40) (fun _ h9 => h9) rfl (dAt zX4_tiesNeeded_0 6 rfl) ?_
    refine lv_iload_n hx hb (dAt zX4_tiesNeeded_0 7 rfl) rfl (lv_at hl 1 rfl) ?_
    obtain ⟨u14, hu14, h⟩ := q_bind h
    refine xFz (wc := ([] : va_W)) (w1 := ([] : va_W)) (wr := (w4 cI qT zT)) (ws2 := (w4 cI qT zT)) (va_runSN (host := RX5) (As := [.int (zT 0 1), .int a1]) (rest := []) ⟨hx, hb, hml, hown, htl⟩ (c_X5_holds l D cI cJ cZ n  H.size  (zT 0 1) a1 u14 hu14) ⟨va_cnB 2 htl (gM W_339) rfl rfl rfl hN.2.2.2.1 (htl _ W_2) (by decide +kernel) ⟨Nat.le_of_ble_eq_true rfl, Nat.le_of_ble_eq_true rfl⟩, htl _ W_338, trivial⟩ (xPS xP0 (xD0 A) hK hN) rfl rfl hl.1 rfl (lv_room (Nat.le_of_ble_eq_true rfl)) (dAt zX4_tiesNeeded_0 8 rfl) ⟨Nat.zero_le _, Nat.zero_le _⟩) hS hA hP hD [] [0, 1, 2, 3, 4] [0, 1, 2, 3, 4] rfl rfl (by decide) (by decide) rfl (by decide) (fun H locs hz14 hP hD hS => ?_)
    refine lv_if_eq (tgt := 30) hx hb (dAt zX4_tiesNeeded_0 9 rfl) (by decide) (fun c_17 => ?_) (fun c_17 => ?_)
    · have h := q_pos c_17 h
      refine lv_aload_n hx hb (dAt zX4_tiesNeeded_0 16 rfl) rfl (lv_at hl 0 rfl) ?_
      refine lv_iconst (v := 0) hx hb (dAt zX4_tiesNeeded_0 17 rfl) (by decide) ?_
      obtain ⟨u32, hu32, h⟩ := q_bind h
      refine xFi (wc := (w4 cI qT zT)) (w1 := (w4 cI qT zT)) (wr := ([] : va_W)) (ws2 := (w4 cI qT zT)) (va_runV (As := [.int 0]) (rest := []) ⟨hx, hb, hml, hown, htl⟩ (c_X4_rule l D cI cJ cZ n qT H.size zT 0 u32 hu32) (cwV 1 htl (gV W_332 W_176 W_177 W_14 W_178) rfl rfl rfl (by decide +kernel) ⟨Nat.le_of_ble_eq_true rfl, Nat.le_of_ble_eq_true rfl⟩) (xPV hP hD hK hN 0 rfl rfl) rfl rfl hl.1 rfl (lv_room (Nat.le_of_ble_eq_true rfl)) (dAt zX4_tiesNeeded_0 18 rfl) ⟨Nat.zero_le _, Nat.zero_le _⟩) hS hA hP hD [0, 1, 2, 3, 4] [] [0, 1, 2, 3, 4] rfl rfl (by decide) (by decide) rfl (by decide) (fun H locs hP hD hS => ?_)
      obtain rfl := q_some h
      exact xRi hx hb hr hlocks hQ hAe hP hD hK hS rfl (dAt zX4_tiesNeeded_0 19 rfl)
    · have h := q_neg c_17 h
      refine lv_aload_n hx hb (dAt zX4_tiesNeeded_0 10 rfl) rfl (lv_at hl 0 rfl) ?_
      refine lv_iconst (v := 0) hx hb (dAt zX4_tiesNeeded_0 11 rfl) (by decide) ?_
      obtain ⟨u22, hu22, h⟩ := q_bind h
      refine xFi (wc := (w4 cI qT zT)) (w1 := (w4 cI qT zT)) (wr := ([] : va_W)) (ws2 := (w4 cI qT zT)) (va_runV (As := [.int 0]) (rest := []) ⟨hx, hb, hml, hown, htl⟩ (c_X4_rule l D cI cJ cZ n qT H.size zT 0 u22 hu22) (cwV 1 htl (gV W_332 W_176 W_177 W_14 W_178) rfl rfl rfl (by decide +kernel) ⟨Nat.le_of_ble_eq_true rfl, Nat.le_of_ble_eq_true rfl⟩) (xPV hP hD hK hN 0 rfl rfl) rfl rfl hl.1 rfl (lv_room (Nat.le_of_ble_eq_true rfl)) (dAt zX4_tiesNeeded_0 12 rfl) ⟨Nat.zero_le _, Nat.zero_le _⟩) hS hA hP hD [0, 1, 2, 3, 4] [] [0, 1, 2, 3, 4] rfl rfl (by decide) (by decide) rfl (by decide) (fun H locs hP hD hS => ?_)
      refine lv_iconst (v := 1) hx hb (dAt zX4_tiesNeeded_0 13 rfl) (by decide) ?_
      refine lv_isub hx hb (dAt zX4_tiesNeeded_0 14 rfl) ?_
      refine lv_goto (tgt := 35) hx hb (dAt zX4_tiesNeeded_0 15 rfl) (by decide) ?_
      obtain rfl := q_some h
      exact xRi hx hb hr hlocks hQ hAe hP hD hK hS rfl (dAt zX4_tiesNeeded_0 19 rfl)
def b_X4_missed_4 (n : Nat) (zT : TI) (s_4 : Int32 × Int32) (k_4 : Int32 × Int32 → Option Int32) : Option Int32 := (if 10 ≤ s_4.2 then some s_4.1 else ((m_X4_isHere n zT s_4.2).bind fun u12 => (if u12 = 0 then (k_4 (s_4.1, (s_4.2 + 1))) else ((m_X4_missingIt n zT s_4.2).bind fun u20 => ((m_J6_bitCount_0f7a4 n  (u20 &&& (zT 0 0))).bind fun u28 => ((m_X4_tiesNeeded n zT s_4.2).bind fun u33 => (if u28 < u33 then (k_4 (s_4.1, (s_4.2 + 1))) else (k_4 ((s_4.1 ||| ((1 : Int32) <<< (s_4.2 &&& 31))), (s_4.2 + 1))))))))))
def m_X4_missed (n : Nat) (zT : TI) : Option Int32 := (loopF (b_X4_missed_4 n zT ) n (0, 0))
set_option maxHeartbeats 4000000 in
set_option maxRecDepth 100000 in
theorem c_X4_missed (l : Launch) (D : va_G) (cI cJ cZ : ClassId) (n : Nat) (qT : Nat → Nat) (sz : Nat) (zT : TI) (out : Int32) (hm : m_X4_missed n zT = some out) : Met l yX4_missed (wsM yX4_missed cX4_missed 3 (some .int)) { frames := 2, cells := 0, slots := 0, locals := 47 } (xPre D (kT cI cJ cZ) (w4 cI qT zT) sz [.ref (qT 0)]) (xQi D (kT cI cJ cZ) (w4 cI qT zT) (w4 cI qT zT) sz out) 0 0 (va_A (w4 cI qT zT) sz) := by
  refine Met.ofW (cc := cX4_missed) (maxL := 3) (ret := (some .int)) (by decide) rfl ?_
  intro p e s m args below meth c s₁ B hml hv
  obtain ⟨hv, hsz, hP, hK, hD0, hN⟩ := hv
  have hx := B.exec; have hb := B.bytes; have hr := B.returns
  have hts := atoms_spec (ws := (wsM yX4_missed cX4_missed 3 (some .int))) B.pre
  have hown : s.vm.findClass RX4 = some m.cls := findClass_of_methodNamed B.named
  have hlocks := B.notSynchronized
  subst hsz
  have hD := hD0.self (sz := s.heap.size)
  obtain ⟨A, hAe⟩ : ∃ A, A = va_A (w4 cI qT zT) s.heap.size := ⟨_, rfl⟩
  rw [← hAe] at hD
  have hA : ∀ q : Nat, s.heap.size ≤ q → A q := fun q h => by rw [hAe]; exact Or.inr h
  have htl : ∀ w ∈ wsL_law, w.before args s = true := fun w h => hts w (List.mem_cons_of_mem _ h)
  refine xHead (R' := { frames := 2, cells := 0, slots := 0, locals := 47 }) rfl (fun Q H hQ hH => ?_)
  have hP : va_P D vwCl (w4 cI qT zT) H := by rw [hH]; exact hP
  have hS : va_S A s.heap H [] := by rw [hH]; exact va_S.rf
  refine xStart hv (Nat.le_of_ble_eq_true rfl) (lv := [(0, .ref (qT 0))]) rfl (fun ls hl => ?_)
  have h := hm
  unfold m_X4_missed at h
  refine lv_iconst (v := 0) hx hb (dAt zX4_missed_0 0 rfl) (by decide) ?_
  refine lv_istore_n (lv' := [(1, .int 0), (0, .ref (qT 0))]) hx hb (dAt zX4_missed_0 1 rfl) rfl hl (by decide) rfl (fun ls hl => ?_)
  refine lv_iconst (v := 0) hx hb (dAt zX4_missed_0 2 rfl) (by decide) ?_
  refine lv_istore_n (lv' := [(2, .int 0), (1, .int 0), (0, .ref (qT 0))]) hx hb (dAt zX4_missed_0 3 rfl) rfl hl (by decide) rfl (fun ls hl => ?_)
  have L_4 : ∀ (j_4 : Nat) (v1_4 : Int32) (v2_4 : Int32) (H : Heap) (locs : List Loc) (ls : Array Slot), loopF (b_X4_missed_4 n zT) j_4 (v1_4, v2_4) = some out → va_P D vwCl (w4 cI qT zT) H → va_D A (w4 cI qT zT) → va_S A s.heap H locs → lv_has ls 3 [(0, .ref (qT 0)), (1, .int v1_4), (2, .int v2_4)] → W p l e { frames := 2, cells := 0, slots := 0, locals := 47 } s m args below meth c H locs 0 0 Q (F0 m 4 ls []) := by
    intro j_4
    induction j_4 with
    | zero => intro v1_4 v2_4 H locs ls h hP hD hS hl; exact loopF_0 h
    | succ j_4 ih_4 =>
      intro v1_4 v2_4 H locs ls h hP hD hS hl
      have h := loopF_s h
      unfold b_X4_missed_4 at h
      refine lv_iload_n hx hb (dAt zX4_missed_0 4 rfl) rfl (lv_at hl 2 rfl) ?_
      refine lv_bipush (v := 10) hx hb (dAt zX4_missed_0 5 rfl) (by decide) ?_
      refine lv_icmp_ge (tgt := 51) hx hb (dAt zX4_missed_0 6 rfl) (by decide) (fun c_7 => ?_) (fun c_7 => ?_)
      · have h := q_pos c_7 h
        refine lv_iload_n hx hb (dAt zX4_missed_0 30 rfl) rfl (lv_at hl 1 rfl) ?_
        obtain rfl := q_some h
        exact xRi hx hb hr hlocks hQ hAe hP hD hK hS rfl (dAt zX4_missed_0 31 rfl)
      · have h := q_neg c_7 h
        refine lv_aload_n hx hb (dAt zX4_missed_0 7 rfl) rfl (lv_at hl 0 rfl) ?_
        refine lv_iload_n hx hb (dAt zX4_missed_0 8 rfl) rfl (lv_at hl 2 rfl) ?_
        obtain ⟨u12, hu12, h⟩ := q_bind h
        refine xFz (wc := (w4 cI qT zT)) (w1 := (w4 cI qT zT)) (wr := ([] : va_W)) (ws2 := (w4 cI qT zT)) (va_runV (As := [.int v2_4]) (rest := []) ⟨hx, hb, hml, hown, htl⟩ (c_X4_isHere l D cI cJ cZ n qT H.size zT v2_4 u12 hu12) (cwV 1 htl (gV W_305 W_306 W_307 W_14 W_308) rfl rfl rfl (by decide +kernel) ⟨Nat.le_of_ble_eq_true rfl, Nat.le_of_ble_eq_true rfl⟩) (xPV hP hD hK hN 0 rfl rfl) rfl rfl hl.1 rfl (lv_room (Nat.le_of_ble_eq_true rfl)) (dAt zX4_missed_0 9 rfl) ⟨Nat.zero_le _, Nat.zero_le _⟩) hS hA hP hD [0, 1, 2, 3, 4] [] [0, 1, 2, 3, 4] rfl rfl (by decide) (by decide) rfl (by decide) (fun H locs hz12 hP hD hS => ?_)
        refine lv_if_eq (tgt := 45) hx hb (dAt zX4_missed_0 10 rfl) (by decide) (fun c_15 => ?_) (fun c_15 => ?_)
        · have h := q_pos c_15 h
          refine lv_iinc (v := (v2_4 + 1)) (lv' := [(2, .int (v2_4 + 1)), (0, .ref (qT 0)), (1, .int v1_4)]) hx hb (dAt zX4_missed_0 28 rfl) hl (k := 2) rfl rfl (by decide) rfl (fun ls hl => ?_)
          refine lv_goto (tgt := 4) hx hb (dAt zX4_missed_0 29 rfl) (by decide) ?_
          exact ih_4 v1_4 (v2_4 + 1) _ _ _ h hP hD hS (lv_sub hl [1, 2, 0] rfl)
        · have h := q_neg c_15 h
          refine lv_aload_n hx hb (dAt zX4_missed_0 11 rfl) rfl (lv_at hl 0 rfl) ?_
          refine lv_iload_n hx hb (dAt zX4_missed_0 12 rfl) rfl (lv_at hl 2 rfl) ?_
          obtain ⟨u20, hu20, h⟩ := q_bind h
          refine xFi (wc := (w4 cI qT zT)) (w1 := (w4 cI qT zT)) (wr := ([] : va_W)) (ws2 := (w4 cI qT zT)) (va_runV (As := [.int v2_4]) (rest := []) ⟨hx, hb, hml, hown, htl⟩ (c_X4_missingIt l D cI cJ cZ n qT H.size zT v2_4 u20 hu20) (cwV 1 htl (gV W_328 W_329 W_330 W_14 W_331) rfl rfl rfl (by decide +kernel) ⟨Nat.le_of_ble_eq_true rfl, Nat.le_of_ble_eq_true rfl⟩) (xPV hP hD hK hN 0 rfl rfl) rfl rfl hl.1 rfl (lv_room (Nat.le_of_ble_eq_true rfl)) (dAt zX4_missed_0 13 rfl) ⟨Nat.zero_le _, Nat.zero_le _⟩) hS hA hP hD [0, 1, 2, 3, 4] [] [0, 1, 2, 3, 4] rfl rfl (by decide) (by decide) rfl (by decide) (fun H locs hP hD hS => ?_)
          refine lv_aload_n hx hb (dAt zX4_missed_0 14 rfl) rfl (lv_at hl 0 rfl) ?_
          refine va_get (D := D) (ci := 4) (v := .int (zT 0 0)) (C := RX4) (T := TX4) (N := 9) hx hb htl inlX4 hown hK hP 0 rfl rfl 0 (by decide) (htl _ W_39) (fun _ h9 => h9) rfl (dAt zX4_missed_0 15 rfl) ?_
          refine lv_iand hx hb (dAt zX4_missed_0 16 rfl) ?_
          obtain ⟨u28, hu28, h⟩ := q_bind h
          refine xFi (wc := ([] : va_W)) (w1 := ([] : va_W)) (wr := (w4 cI qT zT)) (ws2 := (w4 cI qT zT)) (va_runS (As := [.int (u20 &&& (zT 0 0))]) (rest := []) ⟨hx, hb, hml, hown, htl⟩ (c_J6_bitCount_0f7a4 l D cI cJ cZ n  H.size  (u20 &&& (zT 0 0)) u28 hu28) (va_cwS 1 htl (gS W_333 W_150 W_151 W_152) rfl rfl rfl (by decide +kernel) ⟨Nat.le_of_ble_eq_true rfl, Nat.le_of_ble_eq_true rfl⟩) (xPS xP0 (xD0 A) hK hN) rfl rfl hl.1 rfl (lv_room (Nat.le_of_ble_eq_true rfl)) (dAt zX4_missed_0 17 rfl) ⟨Nat.zero_le _, Nat.zero_le _⟩) hS hA hP hD [] [0, 1, 2, 3, 4] [0, 1, 2, 3, 4] rfl rfl (by decide) (by decide) rfl (by decide) (fun H locs hP hD hS => ?_)
          refine lv_aload_n hx hb (dAt zX4_missed_0 18 rfl) rfl (lv_at hl 0 rfl) ?_
          refine lv_iload_n hx hb (dAt zX4_missed_0 19 rfl) rfl (lv_at hl 2 rfl) ?_
          obtain ⟨u33, hu33, h⟩ := q_bind h
          refine xFi (wc := (w4 cI qT zT)) (w1 := (w4 cI qT zT)) (wr := ([] : va_W)) (ws2 := (w4 cI qT zT)) (va_runV (As := [.int v2_4]) (rest := [.int u28]) ⟨hx, hb, hml, hown, htl⟩ (c_X4_tiesNeeded l D cI cJ cZ n qT H.size zT v2_4 u33 hu33) (cwV 1 htl (gV W_334 W_335 W_336 W_14 W_337) rfl rfl rfl (by decide +kernel) ⟨Nat.le_of_ble_eq_true rfl, Nat.le_of_ble_eq_true rfl⟩) (xPV hP hD hK hN 0 rfl rfl) rfl rfl hl.1 rfl (lv_room (Nat.le_of_ble_eq_true rfl)) (dAt zX4_missed_0 20 rfl) ⟨Nat.zero_le _, Nat.zero_le _⟩) hS hA hP hD [0, 1, 2, 3, 4] [] [0, 1, 2, 3, 4] rfl rfl (by decide) (by decide) rfl (by decide) (fun H locs hP hD hS => ?_)
          refine lv_icmp_lt (tgt := 45) hx hb (dAt zX4_missed_0 21 rfl) (by decide) (fun c_36 => ?_) (fun c_36 => ?_)
          · have h := q_pos c_36 h
            refine lv_iinc (v := (v2_4 + 1)) (lv' := [(2, .int (v2_4 + 1)), (0, .ref (qT 0)), (1, .int v1_4)]) hx hb (dAt zX4_missed_0 28 rfl) hl (k := 2) rfl rfl (by decide) rfl (fun ls hl => ?_)
            refine lv_goto (tgt := 4) hx hb (dAt zX4_missed_0 29 rfl) (by decide) ?_
            exact ih_4 v1_4 (v2_4 + 1) _ _ _ h hP hD hS (lv_sub hl [1, 2, 0] rfl)
          · have h := q_neg c_36 h
            refine lv_iload_n hx hb (dAt zX4_missed_0 22 rfl) rfl (lv_at hl 1 rfl) ?_
            refine lv_iconst (v := 1) hx hb (dAt zX4_missed_0 23 rfl) (by decide) ?_
            refine lv_iload_n hx hb (dAt zX4_missed_0 24 rfl) rfl (lv_at hl 2 rfl) ?_
            refine lv_ishl hx hb (dAt zX4_missed_0 25 rfl) ?_
            refine lv_ior hx hb (dAt zX4_missed_0 26 rfl) ?_
            refine lv_istore_n (lv' := [(1, .int (v1_4 ||| ((1 : Int32) <<< (v2_4 &&& 31)))), (0, .ref (qT 0)), (2, .int v2_4)]) hx hb (dAt zX4_missed_0 27 rfl) rfl hl (by decide) rfl (fun ls hl => ?_)
            refine lv_iinc (v := (v2_4 + 1)) (lv' := [(2, .int (v2_4 + 1)), (1, .int (v1_4 ||| ((1 : Int32) <<< (v2_4 &&& 31)))), (0, .ref (qT 0))]) hx hb (dAt zX4_missed_0 28 rfl) hl (k := 2) rfl rfl (by decide) rfl (fun ls hl => ?_)
            refine lv_goto (tgt := 4) hx hb (dAt zX4_missed_0 29 rfl) (by decide) ?_
            exact ih_4 (v1_4 ||| ((1 : Int32) <<< (v2_4 &&& 31))) (v2_4 + 1) _ _ _ h hP hD hS (lv_sub hl [2, 1, 0] rfl)
  exact L_4 n 0 0 _ _ _ h hP hD hS (lv_sub hl [2, 1, 0] rfl)
def m_X4_endNight (n : Nat) (zT : TI) (a1 : Int32) : Option TI := some (sf (sf zT 0 ((zT 0 0) &&& (a1 ^^^ (-1 : Int32)))) 2 0)
set_option maxHeartbeats 4000000 in
set_option maxRecDepth 100000 in
theorem c_X4_endNight (l : Launch) (D : va_G) (cI cJ cZ : ClassId) (n : Nat) (qT : Nat → Nat) (sz : Nat) (zT : TI) (a1 : Int32) (out : TI) (hm : m_X4_endNight n zT a1 = some out) : Met l yX4_endNight (wsM yX4_endNight cX4_endNight 2 none) { frames := 0, cells := 0, slots := 0, locals := 0 } (xPre D (kT cI cJ cZ) (w4 cI qT zT) sz [.ref (qT 0), .int a1]) (xQv D (kT cI cJ cZ) (w4 cI qT zT) (w4 cI qT out) sz) 0 0 (va_A (w4 cI qT zT) sz) := by
  refine Met.ofW (cc := cX4_endNight) (maxL := 2) (ret := none) (by decide) rfl ?_
  intro p e s m args below meth c s₁ B hml hv
  obtain ⟨hv, hsz, hP, hK, hD0, hN⟩ := hv
  have hx := B.exec; have hb := B.bytes; have hr := B.returns
  have hts := atoms_spec (ws := (wsM yX4_endNight cX4_endNight 2 none)) B.pre
  have hown : s.vm.findClass RX4 = some m.cls := findClass_of_methodNamed B.named
  have hlocks := B.notSynchronized
  subst hsz
  have hD := hD0.self (sz := s.heap.size)
  obtain ⟨A, hAe⟩ : ∃ A, A = va_A (w4 cI qT zT) s.heap.size := ⟨_, rfl⟩
  rw [← hAe] at hD
  have hA : ∀ q : Nat, s.heap.size ≤ q → A q := fun q h => by rw [hAe]; exact Or.inr h
  have htl : ∀ w ∈ wsL_law, w.before args s = true := fun w h => hts w (List.mem_cons_of_mem _ h)
  refine xHead (R' := { frames := 0, cells := 0, slots := 0, locals := 0 }) rfl (fun Q H hQ hH => ?_)
  have hP : va_P D vwCl (w4 cI qT zT) H := by rw [hH]; exact hP
  have hS : va_S A s.heap H [] := by rw [hH]; exact va_S.rf
  refine xStart hv (Nat.le_of_ble_eq_true rfl) (lv := [(0, .ref (qT 0)), (1, .int a1)]) rfl (fun ls hl => ?_)
  have h := hm
  unfold m_X4_endNight at h
  refine lv_aload_n hx hb (dAt zX4_endNight_0 0 rfl) rfl (lv_at hl 0 rfl) ?_
  refine lv_dup hx hb (dAt zX4_endNight_0 1 rfl) rfl ?_
  refine va_get (D := D) (ci := 4) (v := .int (zT 0 0)) (C := RX4) (T := TX4) (N := 9) hx hb htl inlX4 hown hK hP 0 rfl rfl 0 (by decide) (htl _ W_39) (fun _ h9 => h9) rfl (dAt zX4_endNight_0 2 rfl) ?_
  refine lv_iload_n hx hb (dAt zX4_endNight_0 3 rfl) rfl (lv_at hl 1 rfl) ?_
  refine lv_iconst (v := (-1)) hx hb (dAt zX4_endNight_0 4 rfl) (by decide) ?_
  refine lv_ixor hx hb (dAt zX4_endNight_0 5 rfl) ?_
  refine lv_iand hx hb (dAt zX4_endNight_0 6 rfl) ?_
  refine va_put (D := D) (ci := 4) (v := .int ((zT 0 0) &&& (a1 ^^^ (-1 : Int32)))) (ty := .int) (C := RX4) (T := TX4) (N := 9) hx hb htl inlX4 tyX4 tyX4_ok nmX4 hown hK hP hD hS 0 rfl rfl 0 (by decide) (htl _ W_39) (fun _ h9 => h9) rfl (by decide +kernel) rfl rfl (Nat.le_of_ble_eq_true rfl) (dAt zX4_endNight_0 7 rfl) (fun H locs hP hD hS => ?_)
  have hP : va_P D vwCl (w4x cI qT ((zT 0 0) &&& (a1 ^^^ (-1 : Int32))) (zT 0 1) (zT 0 2) (zT 0 3) (zT 0 4) (zT 6) (zT 7) (zT 8) (zT 9)) H := hP
  have hD : va_D A (w4x cI qT ((zT 0 0) &&& (a1 ^^^ (-1 : Int32))) (zT 0 1) (zT 0 2) (zT 0 3) (zT 0 4) (zT 6) (zT 7) (zT 8) (zT 9)) := hD
  refine lv_aload_n hx hb (dAt zX4_endNight_0 8 rfl) rfl (lv_at hl 0 rfl) ?_
  refine lv_iconst (v := 0) hx hb (dAt zX4_endNight_0 9 rfl) (by decide) ?_
  refine va_put (D := D) (ci := 4) (v := .int 0) (ty := .int) (C := RX4) (T := TX4) (N := 9) hx hb htl inlX4 tyX4 tyX4_ok nmX4 hown hK hP hD hS 0 rfl rfl 2 (by decide) (htl _ W_41) (fun _ h9 => h9) rfl (by decide +kernel) rfl rfl (Nat.le_of_ble_eq_true rfl) (dAt zX4_endNight_0 10 rfl) (fun H locs hP hD hS => ?_)
  have hP : va_P D vwCl (w4x cI qT ((zT 0 0) &&& (a1 ^^^ (-1 : Int32))) (zT 0 1) 0 (zT 0 3) (zT 0 4) (zT 6) (zT 7) (zT 8) (zT 9)) H := hP
  have hD : va_D A (w4x cI qT ((zT 0 0) &&& (a1 ^^^ (-1 : Int32))) (zT 0 1) 0 (zT 0 3) (zT 0 4) (zT 6) (zT 7) (zT 8) (zT 9)) := hD
  have hP : va_P D vwCl (w4 cI qT (sf (sf zT 0 ((zT 0 0) &&& (a1 ^^^ (-1 : Int32)))) 2 0)) H := hP
  have hD : va_D A (w4 cI qT (sf (sf zT 0 ((zT 0 0) &&& (a1 ^^^ (-1 : Int32)))) 2 0)) := hD
  obtain rfl := q_some h
  exact xRv hx hb hr hlocks hQ hAe hP hD hK hS (dAt zX4_endNight_0 11 rfl)
def b_X4_strengthBetween_15 (n : Nat) (zT : TI) (a1 : Int32) (a2 : Int32) (v4_5 : Int32) (k_5 : Int32 × Int32 → Option Int32) (s_15 : Int32 × Int32) (k_15 : Int32 × Int32 → Option Int32) : Option Int32 := (if 10 ≤ s_15.2 then (k_5 (s_15.1, (v4_5 + 1))) else ((m_X5_holds n  a1 v4_5).bind fun u25 => (if u25 = 0 then (k_15 (s_15.1, (s_15.2 + 1))) else ((m_X5_holds n  a2 s_15.2).bind fun u34 => (if u34 = 0 then (k_15 (s_15.1, (s_15.2 + 1))) else ((m_X4_strength n zT v4_5 s_15.2).bind fun u46 => (k_15 ((s_15.1 + u46), (s_15.2 + 1)))))))))
def b_X4_strengthBetween_5 (n : Nat) (zT : TI) (a1 : Int32) (a2 : Int32) (s_5 : Int32 × Int32) (k_5 : Int32 × Int32 → Option Int32) : Option Int32 := (if 10 ≤ s_5.2 then some s_5.1 else (loopF (b_X4_strengthBetween_15 n zT a1 a2 s_5.2 k_5) n (s_5.1, 0)))
def m_X4_strengthBetween (n : Nat) (zT : TI) (a1 : Int32) (a2 : Int32) : Option Int32 := (loopF (b_X4_strengthBetween_5 n zT a1 a2 ) n (0, 0))
set_option maxHeartbeats 4000000 in
set_option maxRecDepth 100000 in
theorem c_X4_strengthBetween (l : Launch) (D : va_G) (cI cJ cZ : ClassId) (n : Nat) (qT : Nat → Nat) (sz : Nat) (zT : TI) (a1 : Int32) (a2 : Int32) (out : Int32) (hm : m_X4_strengthBetween n zT a1 a2 = some out) : Met l yX4_strengthBetween (wsM yX4_strengthBetween cX4_strengthBetween 6 (some .int)) { frames := 1, cells := 0, slots := 0, locals := 22 } (xPre D (kT cI cJ cZ) (w4 cI qT zT) sz [.ref (qT 0), .int a1, .int a2]) (xQi D (kT cI cJ cZ) (w4 cI qT zT) (w4 cI qT zT) sz out) 0 0 (va_A (w4 cI qT zT) sz) := by
  refine Met.ofW (cc := cX4_strengthBetween) (maxL := 6) (ret := (some .int)) (by decide) rfl ?_
  intro p e s m args below meth c s₁ B hml hv
  obtain ⟨hv, hsz, hP, hK, hD0, hN⟩ := hv
  have hx := B.exec; have hb := B.bytes; have hr := B.returns
  have hts := atoms_spec (ws := (wsM yX4_strengthBetween cX4_strengthBetween 6 (some .int))) B.pre
  have hown : s.vm.findClass RX4 = some m.cls := findClass_of_methodNamed B.named
  have hlocks := B.notSynchronized
  subst hsz
  have hD := hD0.self (sz := s.heap.size)
  obtain ⟨A, hAe⟩ : ∃ A, A = va_A (w4 cI qT zT) s.heap.size := ⟨_, rfl⟩
  rw [← hAe] at hD
  have hA : ∀ q : Nat, s.heap.size ≤ q → A q := fun q h => by rw [hAe]; exact Or.inr h
  have htl : ∀ w ∈ wsL_law, w.before args s = true := fun w h => hts w (List.mem_cons_of_mem _ h)
  refine xHead (R' := { frames := 1, cells := 0, slots := 0, locals := 22 }) rfl (fun Q H hQ hH => ?_)
  have hP : va_P D vwCl (w4 cI qT zT) H := by rw [hH]; exact hP
  have hS : va_S A s.heap H [] := by rw [hH]; exact va_S.rf
  refine xStart hv (Nat.le_of_ble_eq_true rfl) (lv := [(0, .ref (qT 0)), (1, .int a1), (2, .int a2)]) rfl (fun ls hl => ?_)
  have h := hm
  unfold m_X4_strengthBetween at h
  refine lv_iconst (v := 0) hx hb (dAt zX4_strengthBetween_0 0 rfl) (by decide) ?_
  refine lv_istore_n (lv' := [(3, .int 0), (0, .ref (qT 0)), (1, .int a1), (2, .int a2)]) hx hb (dAt zX4_strengthBetween_0 1 rfl) rfl hl (by decide) rfl (fun ls hl => ?_)
  refine lv_iconst (v := 0) hx hb (dAt zX4_strengthBetween_0 2 rfl) (by decide) ?_
  refine lv_istore (lv' := [(4, .int 0), (3, .int 0), (0, .ref (qT 0)), (1, .int a1), (2, .int a2)]) hx hb (dAt zX4_strengthBetween_0 3 rfl) hl (by decide) rfl (fun ls hl => ?_)
  have L_5 : ∀ (j_5 : Nat) (v3_5 : Int32) (v4_5 : Int32) (H : Heap) (locs : List Loc) (ls : Array Slot), loopF (b_X4_strengthBetween_5 n zT a1 a2) j_5 (v3_5, v4_5) = some out → va_P D vwCl (w4 cI qT zT) H → va_D A (w4 cI qT zT) → va_S A s.heap H locs → lv_has ls 6 [(0, .ref (qT 0)), (1, .int a1), (2, .int a2), (3, .int v3_5), (4, .int v4_5)] → W p l e { frames := 1, cells := 0, slots := 0, locals := 22 } s m args below meth c H locs 0 0 Q (F0 m 5 ls []) := by
    intro j_5
    induction j_5 with
    | zero => intro v3_5 v4_5 H locs ls h hP hD hS hl; exact loopF_0 h
    | succ j_5 ih_5 =>
      intro v3_5 v4_5 H locs ls h hP hD hS hl
      have h := loopF_s h
      unfold b_X4_strengthBetween_5 at h
      refine lv_iload hx hb (dAt zX4_strengthBetween_0 4 rfl) (lv_at hl 4 rfl) ?_
      refine lv_bipush (v := 10) hx hb (dAt zX4_strengthBetween_0 5 rfl) (by decide) ?_
      refine lv_icmp_ge (tgt := 63) hx hb (dAt zX4_strengthBetween_0 6 rfl) (by decide) (fun c_9 => ?_) (fun c_9 => ?_)
      · have h := q_pos c_9 h
        refine lv_iload_n hx hb (dAt zX4_strengthBetween_0 31 rfl) rfl (lv_at hl 3 rfl) ?_
        obtain rfl := q_some h
        exact xRi hx hb hr hlocks hQ hAe hP hD hK hS rfl (dAt zX4_strengthBetween_0 32 rfl)
      · have h := q_neg c_9 h
        refine lv_iconst (v := 0) hx hb (dAt zX4_strengthBetween_0 7 rfl) (by decide) ?_
        refine lv_istore (lv' := [(5, .int 0), (0, .ref (qT 0)), (1, .int a1), (2, .int a2), (3, .int v3_5), (4, .int v4_5)]) hx hb (dAt zX4_strengthBetween_0 8 rfl) hl (by decide) rfl (fun ls hl => ?_)
        have L_15 : ∀ (j_15 : Nat) (v3_15 : Int32) (v5_15 : Int32) (H : Heap) (locs : List Loc) (ls : Array Slot), loopF (b_X4_strengthBetween_15 n zT a1 a2 v4_5 (loopF (b_X4_strengthBetween_5 n zT a1 a2) j_5)) j_15 (v3_15, v5_15) = some out → va_P D vwCl (w4 cI qT zT) H → va_D A (w4 cI qT zT) → va_S A s.heap H locs → lv_has ls 6 [(0, .ref (qT 0)), (1, .int a1), (2, .int a2), (3, .int v3_15), (4, .int v4_5), (5, .int v5_15)] → W p l e { frames := 1, cells := 0, slots := 0, locals := 22 } s m args below meth c H locs 0 0 Q (F0 m 15 ls []) := by
          intro j_15
          induction j_15 with
          | zero => intro v3_15 v5_15 H locs ls h hP hD hS hl; exact loopF_0 h
          | succ j_15 ih_15 =>
            intro v3_15 v5_15 H locs ls h hP hD hS hl
            have h := loopF_s h
            unfold b_X4_strengthBetween_15 at h
            refine lv_iload hx hb (dAt zX4_strengthBetween_0 9 rfl) (lv_at hl 5 rfl) ?_
            refine lv_bipush (v := 10) hx hb (dAt zX4_strengthBetween_0 10 rfl) (by decide) ?_
            refine lv_icmp_ge (tgt := 57) hx hb (dAt zX4_strengthBetween_0 11 rfl) (by decide) (fun c_19 => ?_) (fun c_19 => ?_)
            · have h := q_pos c_19 h
              refine lv_iinc (v := (v4_5 + 1)) (lv' := [(4, .int (v4_5 + 1)), (0, .ref (qT 0)), (1, .int a1), (2, .int a2), (3, .int v3_15), (5, .int v5_15)]) hx hb (dAt zX4_strengthBetween_0 29 rfl) hl (k := 4) rfl rfl (by decide) rfl (fun ls hl => ?_)
              refine lv_goto (tgt := 5) hx hb (dAt zX4_strengthBetween_0 30 rfl) (by decide) ?_
              exact ih_5 v3_15 (v4_5 + 1) _ _ _ h hP hD hS (lv_sub hl [1, 2, 3, 4, 0] rfl)
            · have h := q_neg c_19 h
              refine lv_iload_n hx hb (dAt zX4_strengthBetween_0 12 rfl) rfl (lv_at hl 1 rfl) ?_
              refine lv_iload hx hb (dAt zX4_strengthBetween_0 13 rfl) (lv_at hl 4 rfl) ?_
              obtain ⟨u25, hu25, h⟩ := q_bind h
              refine xFz (wc := ([] : va_W)) (w1 := ([] : va_W)) (wr := (w4 cI qT zT)) (ws2 := (w4 cI qT zT)) (va_runSN (host := RX5) (As := [.int a1, .int v4_5]) (rest := []) ⟨hx, hb, hml, hown, htl⟩ (c_X5_holds l D cI cJ cZ n  H.size  a1 v4_5 u25 hu25) ⟨va_cnB 2 htl (gM W_339) rfl rfl rfl hN.2.2.2.1 (htl _ W_2) (by decide +kernel) ⟨Nat.le_of_ble_eq_true rfl, Nat.le_of_ble_eq_true rfl⟩, htl _ W_338, trivial⟩ (xPS xP0 (xD0 A) hK hN) rfl rfl hl.1 rfl (lv_room (Nat.le_of_ble_eq_true rfl)) (dAt zX4_strengthBetween_0 14 rfl) ⟨Nat.zero_le _, Nat.zero_le _⟩) hS hA hP hD [] [0, 1, 2, 3, 4] [0, 1, 2, 3, 4] rfl rfl (by decide) (by decide) rfl (by decide) (fun H locs hz25 hP hD hS => ?_)
              refine lv_if_eq (tgt := 51) hx hb (dAt zX4_strengthBetween_0 15 rfl) (by decide) (fun c_28 => ?_) (fun c_28 => ?_)
              · have h := q_pos c_28 h
                refine lv_iinc (v := (v5_15 + 1)) (lv' := [(5, .int (v5_15 + 1)), (0, .ref (qT 0)), (1, .int a1), (2, .int a2), (3, .int v3_15), (4, .int v4_5)]) hx hb (dAt zX4_strengthBetween_0 27 rfl) hl (k := 5) rfl rfl (by decide) rfl (fun ls hl => ?_)
                refine lv_goto (tgt := 15) hx hb (dAt zX4_strengthBetween_0 28 rfl) (by decide) ?_
                exact ih_15 v3_15 (v5_15 + 1) _ _ _ h hP hD hS (lv_sub hl [1, 2, 3, 4, 5, 0] rfl)
              · have h := q_neg c_28 h
                refine lv_iload_n hx hb (dAt zX4_strengthBetween_0 16 rfl) rfl (lv_at hl 2 rfl) ?_
                refine lv_iload hx hb (dAt zX4_strengthBetween_0 17 rfl) (lv_at hl 5 rfl) ?_
                obtain ⟨u34, hu34, h⟩ := q_bind h
                refine xFz (wc := ([] : va_W)) (w1 := ([] : va_W)) (wr := (w4 cI qT zT)) (ws2 := (w4 cI qT zT)) (va_runSN (host := RX5) (As := [.int a2, .int v5_15]) (rest := []) ⟨hx, hb, hml, hown, htl⟩ (c_X5_holds l D cI cJ cZ n  H.size  a2 v5_15 u34 hu34) ⟨va_cnB 2 htl (gM W_339) rfl rfl rfl hN.2.2.2.1 (htl _ W_2) (by decide +kernel) ⟨Nat.le_of_ble_eq_true rfl, Nat.le_of_ble_eq_true rfl⟩, htl _ W_338, trivial⟩ (xPS xP0 (xD0 A) hK hN) rfl rfl hl.1 rfl (lv_room (Nat.le_of_ble_eq_true rfl)) (dAt zX4_strengthBetween_0 18 rfl) ⟨Nat.zero_le _, Nat.zero_le _⟩) hS hA hP hD [] [0, 1, 2, 3, 4] [0, 1, 2, 3, 4] rfl rfl (by decide) (by decide) rfl (by decide) (fun H locs hz34 hP hD hS => ?_)
                refine lv_if_eq (tgt := 51) hx hb (dAt zX4_strengthBetween_0 19 rfl) (by decide) (fun c_37 => ?_) (fun c_37 => ?_)
                · have h := q_pos c_37 h
                  refine lv_iinc (v := (v5_15 + 1)) (lv' := [(5, .int (v5_15 + 1)), (0, .ref (qT 0)), (1, .int a1), (2, .int a2), (3, .int v3_15), (4, .int v4_5)]) hx hb (dAt zX4_strengthBetween_0 27 rfl) hl (k := 5) rfl rfl (by decide) rfl (fun ls hl => ?_)
                  refine lv_goto (tgt := 15) hx hb (dAt zX4_strengthBetween_0 28 rfl) (by decide) ?_
                  exact ih_15 v3_15 (v5_15 + 1) _ _ _ h hP hD hS (lv_sub hl [1, 2, 3, 4, 5, 0] rfl)
                · have h := q_neg c_37 h
                  refine lv_iload_n hx hb (dAt zX4_strengthBetween_0 20 rfl) rfl (lv_at hl 3 rfl) ?_
                  refine lv_aload_n hx hb (dAt zX4_strengthBetween_0 21 rfl) rfl (lv_at hl 0 rfl) ?_
                  refine lv_iload hx hb (dAt zX4_strengthBetween_0 22 rfl) (lv_at hl 4 rfl) ?_
                  refine lv_iload hx hb (dAt zX4_strengthBetween_0 23 rfl) (lv_at hl 5 rfl) ?_
                  obtain ⟨u46, hu46, h⟩ := q_bind h
                  refine xFi (wc := (w4 cI qT zT)) (w1 := (w4 cI qT zT)) (wr := ([] : va_W)) (ws2 := (w4 cI qT zT)) (va_runV (As := [.int v4_5, .int v5_15]) (rest := [.int v3_15]) ⟨hx, hb, hml, hown, htl⟩ (c_X4_strength l D cI cJ cZ n qT H.size zT v4_5 v5_15 u46 hu46) (cwV 2 htl (gV W_313 W_114 W_115 W_14 W_116) rfl rfl rfl (by decide +kernel) ⟨Nat.le_of_ble_eq_true rfl, Nat.le_of_ble_eq_true rfl⟩) (xPV hP hD hK hN 0 rfl rfl) rfl rfl hl.1 rfl (lv_room (Nat.le_of_ble_eq_true rfl)) (dAt zX4_strengthBetween_0 24 rfl) ⟨Nat.zero_le _, Nat.zero_le _⟩) hS hA hP hD [0, 1, 2, 3, 4] [] [0, 1, 2, 3, 4] rfl rfl (by decide) (by decide) rfl (by decide) (fun H locs hP hD hS => ?_)
                  refine lv_iadd hx hb (dAt zX4_strengthBetween_0 25 rfl) ?_
                  refine lv_istore_n (lv' := [(3, .int (v3_15 + u46)), (0, .ref (qT 0)), (1, .int a1), (2, .int a2), (4, .int v4_5), (5, .int v5_15)]) hx hb (dAt zX4_strengthBetween_0 26 rfl) rfl hl (by decide) rfl (fun ls hl => ?_)
                  refine lv_iinc (v := (v5_15 + 1)) (lv' := [(5, .int (v5_15 + 1)), (3, .int (v3_15 + u46)), (0, .ref (qT 0)), (1, .int a1), (2, .int a2), (4, .int v4_5)]) hx hb (dAt zX4_strengthBetween_0 27 rfl) hl (k := 5) rfl rfl (by decide) rfl (fun ls hl => ?_)
                  refine lv_goto (tgt := 15) hx hb (dAt zX4_strengthBetween_0 28 rfl) (by decide) ?_
                  exact ih_15 (v3_15 + u46) (v5_15 + 1) _ _ _ h hP hD hS (lv_sub hl [2, 3, 4, 1, 5, 0] rfl)
        exact L_15 n v3_5 0 _ _ _ h hP hD hS (lv_sub hl [1, 2, 3, 4, 5, 0] rfl)
  exact L_5 n 0 0 _ _ _ h hP hD hS (lv_sub hl [2, 3, 4, 1, 0] rfl)
def b_X5_leastOne_2 (n : Nat) (a1 : Int32) (s_2 : Int32) (k_2 : Int32 → Option Int32) : Option Int32 := (if 10 ≤ s_2 then some (-6) else ((m_X5_holds n  a1 s_2).bind fun u10 => (if u10 = 0 then (k_2 (s_2 + 1)) else some s_2)))
def m_X5_leastOne (n : Nat) (a1 : Int32) : Option Int32 := (loopF (b_X5_leastOne_2 n a1 ) n 0)
set_option maxHeartbeats 4000000 in
set_option maxRecDepth 100000 in
theorem c_X5_leastOne (l : Launch) (D : va_G) (cI cJ cZ : ClassId) (n : Nat)  (sz : Nat) (a1 : Int32) (out : Int32) (hm : m_X5_leastOne n a1 = some out) : Met l yX5_leastOne (wsM yX5_leastOne cX5_leastOne 2 (some .int)) { frames := 1, cells := 0, slots := 0, locals := 21 } (xPre D (kT cI cJ cZ) ([] : va_W) sz [.int a1]) (xQi D (kT cI cJ cZ) ([] : va_W) ([] : va_W) sz out) 0 0 (va_A ([] : va_W) sz) := by
  refine Met.ofW (cc := cX5_leastOne) (maxL := 2) (ret := (some .int)) (by decide) rfl ?_
  intro p e s m args below meth c s₁ B hml hv
  obtain ⟨hv, hsz, hP, hK, hD0, hN⟩ := hv
  have hx := B.exec; have hb := B.bytes; have hr := B.returns
  have hts := atoms_spec (ws := (wsM yX5_leastOne cX5_leastOne 2 (some .int))) B.pre
  have hown : s.vm.findClass RX5 = some m.cls := findClass_of_methodNamed B.named
  have hlocks := B.notSynchronized
  subst hsz
  have hD := hD0.self (sz := s.heap.size)
  obtain ⟨A, hAe⟩ : ∃ A, A = va_A ([] : va_W) s.heap.size := ⟨_, rfl⟩
  rw [← hAe] at hD
  have hA : ∀ q : Nat, s.heap.size ≤ q → A q := fun q h => by rw [hAe]; exact Or.inr h
  have htl : ∀ w ∈ wsL_law, w.before args s = true := fun w h => hts w (List.mem_cons_of_mem _ h)
  refine xHead (R' := { frames := 1, cells := 0, slots := 0, locals := 21 }) rfl (fun Q H hQ hH => ?_)
  have hP : va_P D vwCl ([] : va_W) H := by rw [hH]; exact hP
  have hS : va_S A s.heap H [] := by rw [hH]; exact va_S.rf
  refine xStart hv (Nat.le_of_ble_eq_true rfl) (lv := [(0, .int a1)]) rfl (fun ls hl => ?_)
  have h := hm
  unfold m_X5_leastOne at h
  refine lv_iconst (v := 0) hx hb (dAt zX5_leastOne_0 0 rfl) (by decide) ?_
  refine lv_istore_n (lv' := [(1, .int 0), (0, .int a1)]) hx hb (dAt zX5_leastOne_0 1 rfl) rfl hl (by decide) rfl (fun ls hl => ?_)
  have L_2 : ∀ (j_2 : Nat) (v1_2 : Int32) (H : Heap) (locs : List Loc) (ls : Array Slot), loopF (b_X5_leastOne_2 n a1) j_2 v1_2 = some out → va_P D vwCl ([] : va_W) H → va_D A ([] : va_W) → va_S A s.heap H locs → lv_has ls 2 [(0, .int a1), (1, .int v1_2)] → W p l e { frames := 1, cells := 0, slots := 0, locals := 21 } s m args below meth c H locs 0 0 Q (F0 m 2 ls []) := by
    intro j_2
    induction j_2 with
    | zero => intro v1_2 H locs ls h hP hD hS hl; exact loopF_0 h
    | succ j_2 ih_2 =>
      intro v1_2 H locs ls h hP hD hS hl
      have h := loopF_s h
      unfold b_X5_leastOne_2 at h
      refine lv_iload_n hx hb (dAt zX5_leastOne_0 2 rfl) rfl (lv_at hl 1 rfl) ?_
      refine lv_bipush (v := 10) hx hb (dAt zX5_leastOne_0 3 rfl) (by decide) ?_
      refine lv_icmp_ge (tgt := 24) hx hb (dAt zX5_leastOne_0 4 rfl) (by decide) (fun c_5 => ?_) (fun c_5 => ?_)
      · have h := q_pos c_5 h
        refine lv_bipush (v := (-6)) hx hb (dAt zX5_leastOne_0 13 rfl) (by decide) ?_
        obtain rfl := q_some h
        exact xRi hx hb hr hlocks hQ hAe hP hD hK hS rfl (dAt zX5_leastOne_0 14 rfl)
      · have h := q_neg c_5 h
        refine lv_iload_n hx hb (dAt zX5_leastOne_0 5 rfl) rfl (lv_at hl 0 rfl) ?_
        refine lv_iload_n hx hb (dAt zX5_leastOne_0 6 rfl) rfl (lv_at hl 1 rfl) ?_
        obtain ⟨u10, hu10, h⟩ := q_bind h
        refine xFz (wc := ([] : va_W)) (w1 := ([] : va_W)) (wr := ([] : va_W)) (ws2 := ([] : va_W)) (va_runS (As := [.int a1, .int v1_2]) (rest := []) ⟨hx, hb, hml, hown, htl⟩ (c_X5_holds l D cI cJ cZ n  H.size  a1 v1_2 u10 hu10) (va_cwS 2 htl (gS W_351 W_338 W_2 W_339) rfl rfl rfl (by decide +kernel) ⟨Nat.le_of_ble_eq_true rfl, Nat.le_of_ble_eq_true rfl⟩) (xPS hP hD hK hN) rfl rfl hl.1 rfl (lv_room (Nat.le_of_ble_eq_true rfl)) (dAt zX5_leastOne_0 7 rfl) ⟨Nat.zero_le _, Nat.zero_le _⟩) hS hA hP hD [] [] [] rfl rfl (by decide) (by decide) rfl (by decide) (fun H locs hz10 hP hD hS => ?_)
        refine lv_if_eq (tgt := 18) hx hb (dAt zX5_leastOne_0 8 rfl) (by decide) (fun c_13 => ?_) (fun c_13 => ?_)
        · have h := q_pos c_13 h
          refine lv_iinc (v := (v1_2 + 1)) (lv' := [(1, .int (v1_2 + 1)), (0, .int a1)]) hx hb (dAt zX5_leastOne_0 11 rfl) hl (k := 1) rfl rfl (by decide) rfl (fun ls hl => ?_)
          refine lv_goto (tgt := 2) hx hb (dAt zX5_leastOne_0 12 rfl) (by decide) ?_
          exact ih_2 (v1_2 + 1) _ _ _ h hP hD hS (lv_sub hl [1, 0] rfl)
        · have h := q_neg c_13 h
          refine lv_iload_n hx hb (dAt zX5_leastOne_0 9 rfl) rfl (lv_at hl 1 rfl) ?_
          obtain rfl := q_some h
          exact xRi hx hb hr hlocks hQ hAe hP hD hK hS rfl (dAt zX5_leastOne_0 10 rfl)
  exact L_2 n 0 _ _ _ h hP hD hS (lv_sub hl [1, 0] rfl)
def m_X1_runTrain (n : Nat) (zC : TI) (zT : TI) : Option (TI × TI) := ((m_X4_missed n zT).bind fun u11 => ((m_X4_endNight n zT ((zT 0 2) &&& (u11 ^^^ (-1 : Int32)))).bind fun u23 => (if ((zT 0 2) &&& (u11 ^^^ (-1 : Int32))) = 0 then some (zC, u23) else ((m_J6_bitCount_0f7a4 n  ((zT 0 2) &&& (u11 ^^^ (-1 : Int32)))).bind fun u37 => ((m_X4_strengthBetween n u23 ((zT 0 2) &&& (u11 ^^^ (-1 : Int32))) (u23 0 0)).bind fun u61 => (if (zC 0 5) = (-6) then ((m_X5_leastOne n  ((zT 0 2) &&& (u11 ^^^ (-1 : Int32)))).bind fun u87 => some ((sf (sf (sf (sf zC 3 ((zC 0 3) + u37)) 4 ((zC 0 4) + u61)) 5 (zC 0 1)) 6 u87), u23)) else some ((sf (sf zC 3 ((zC 0 3) + u37)) 4 ((zC 0 4) + u61)), u23)))))))
set_option maxHeartbeats 4000000 in
set_option maxRecDepth 100000 in
theorem c_X1_runTrain (l : Launch) (D : va_G) (cI cJ cZ : ClassId) (n : Nat) (qC : Nat → Nat) (qT : Nat → Nat) (sz : Nat) (zC : TI) (zT : TI) (out : TI × TI) (hm : m_X1_runTrain n zC zT = some out) : Met l yX1_runTrain (wsM yX1_runTrain cX1_runTrain 2 none) { frames := 3, cells := 0, slots := 0, locals := 69 } (xPre D (kT cI cJ cZ) (w1 qC qT zC ++ (w4 cI qT zT)) sz [.ref (qC 0)]) (xQv D (kT cI cJ cZ) (w1 qC qT zC ++ (w4 cI qT zT)) (w1 qC qT out.1 ++ (w4 cI qT out.2)) sz) 0 0 (va_A (w1 qC qT zC ++ (w4 cI qT zT)) sz) := by
  refine Met.ofW (cc := cX1_runTrain) (maxL := 2) (ret := none) (by decide) rfl ?_
  intro p e s m args below meth c s₁ B hml hv
  obtain ⟨hv, hsz, hP, hK, hD0, hN⟩ := hv
  have hx := B.exec; have hb := B.bytes; have hr := B.returns
  have hts := atoms_spec (ws := (wsM yX1_runTrain cX1_runTrain 2 none)) B.pre
  have hown : s.vm.findClass RX1 = some m.cls := findClass_of_methodNamed B.named
  have hlocks := B.notSynchronized
  subst hsz
  have hD := hD0.self (sz := s.heap.size)
  obtain ⟨A, hAe⟩ : ∃ A, A = va_A (w1 qC qT zC ++ (w4 cI qT zT)) s.heap.size := ⟨_, rfl⟩
  rw [← hAe] at hD
  have hA : ∀ q : Nat, s.heap.size ≤ q → A q := fun q h => by rw [hAe]; exact Or.inr h
  have htl : ∀ w ∈ wsL_law, w.before args s = true := fun w h => hts w (List.mem_cons_of_mem _ h)
  refine xHead (R' := { frames := 3, cells := 0, slots := 0, locals := 69 }) rfl (fun Q H hQ hH => ?_)
  have hP : va_P D vwCl (w1 qC qT zC ++ (w4 cI qT zT)) H := by rw [hH]; exact hP
  have hS : va_S A s.heap H [] := by rw [hH]; exact va_S.rf
  refine xStart hv (Nat.le_of_ble_eq_true rfl) (lv := [(0, .ref (qC 0))]) rfl (fun ls hl => ?_)
  have h := hm
  unfold m_X1_runTrain at h
  refine lv_aload_n hx hb (dAt zX1_runTrain_0 0 rfl) rfl (lv_at hl 0 rfl) ?_
  refine va_get (D := D) (ci := 1) (v := .ref (qT 0)) (C := RX1) (T := TX1) (N := 7) hx hb htl inlX1 hown hK hP 0 rfl rfl 0 (by decide) (htl _ W_58) (fun _ h9 => h9) rfl (dAt zX1_runTrain_0 1 rfl) ?_
  refine va_get (D := D) (ci := 4) (v := .int (zT 0 2)) (C := RX4) (T := TX4) (N := 9) hx hb htl inlX4 hown hK hP 1 rfl rfl 2 (by decide) (htl _ W_322) (fun _ h9 => h9) rfl (dAt zX1_runTrain_0 2 rfl) ?_
  refine lv_aload_n hx hb (dAt zX1_runTrain_0 3 rfl) rfl (lv_at hl 0 rfl) ?_
  refine va_get (D := D) (ci := 1) (v := .ref (qT 0)) (C := RX1) (T := TX1) (N := 7) hx hb htl inlX1 hown hK hP 0 rfl rfl 0 (by decide) (htl _ W_58) (fun _ h9 => h9) rfl (dAt zX1_runTrain_0 4 rfl) ?_
  obtain ⟨u11, hu11, h⟩ := q_bind h
  have hPc : va_P D vwCl (w4 cI qT zT) H := hP.sub [1, 2, 3, 4, 5] rfl
  have hDc : va_D A (w4 cI qT zT) := hD.sub [1, 2, 3, 4, 5] (by decide) rfl
  refine xFi (wc := (w4 cI qT zT)) (w1 := (w4 cI qT zT)) (wr := (w1 qC qT zC)) (ws2 := (w1 qC qT zC ++ (w4 cI qT zT))) (va_runV (As := []) (rest := [.int (zT 0 2)]) ⟨hx, hb, hml, hown, htl⟩ (c_X4_missed l D cI cJ cZ n qT H.size zT  u11 hu11) (cwV 0 htl (gV W_324 W_325 W_326 W_14 W_327) rfl rfl rfl (by decide +kernel) ⟨Nat.le_of_ble_eq_true rfl, Nat.le_of_ble_eq_true rfl⟩) (xPV hPc hDc hK hN 0 rfl rfl) rfl rfl hl.1 rfl (lv_room (Nat.le_of_ble_eq_true rfl)) (dAt zX1_runTrain_0 5 rfl) ⟨Nat.zero_le _, Nat.zero_le _⟩) hS hA hP hD [1, 2, 3, 4, 5] [0] [0, 1, 2, 3, 4, 5] rfl rfl (by decide) (by decide) rfl (by decide) (fun H locs hP hD hS => ?_)
  refine lv_iconst (v := (-1)) hx hb (dAt zX1_runTrain_0 6 rfl) (by decide) ?_
  refine lv_ixor hx hb (dAt zX1_runTrain_0 7 rfl) ?_
  refine lv_iand hx hb (dAt zX1_runTrain_0 8 rfl) ?_
  refine lv_istore_n (lv' := [(1, .int ((zT 0 2) &&& (u11 ^^^ (-1 : Int32)))), (0, .ref (qC 0))]) hx hb (dAt zX1_runTrain_0 9 rfl) rfl hl (by decide) rfl (fun ls hl => ?_)
  refine lv_aload_n hx hb (dAt zX1_runTrain_0 10 rfl) rfl (lv_at hl 1 rfl) ?_
  refine va_get (D := D) (ci := 1) (v := .ref (qT 0)) (C := RX1) (T := TX1) (N := 7) hx hb htl inlX1 hown hK hP 0 rfl rfl 0 (by decide) (htl _ W_58) (fun _ h9 => h9) rfl (dAt zX1_runTrain_0 11 rfl) ?_
  refine lv_iload_n hx hb (dAt zX1_runTrain_0 12 rfl) rfl (lv_at hl 0 rfl) ?_
  obtain ⟨u23, hu23, h⟩ := q_bind h
  have hPc : va_P D vwCl (w4 cI qT zT) H := hP.sub [1, 2, 3, 4, 5] rfl
  have hDc : va_D A (w4 cI qT zT) := hD.sub [1, 2, 3, 4, 5] (by decide) rfl
  refine xFv (wc := (w4 cI qT zT)) (w1 := (w4 cI qT u23)) (wr := (w1 qC qT zC)) (ws2 := (w1 qC qT zC ++ (w4 cI qT u23))) (va_runV (As := [.int ((zT 0 2) &&& (u11 ^^^ (-1 : Int32)))]) (rest := []) ⟨hx, hb, hml, hown, htl⟩ (c_X4_endNight l D cI cJ cZ n qT H.size zT ((zT 0 2) &&& (u11 ^^^ (-1 : Int32))) u23 hu23) (cwV 1 htl (gV W_340 W_341 W_342 W_14 W_343) rfl rfl rfl (by decide +kernel) ⟨Nat.le_of_ble_eq_true rfl, Nat.le_of_ble_eq_true rfl⟩) (xPV hPc hDc hK hN 0 rfl rfl) rfl rfl hl.1 rfl (lv_room (Nat.le_of_ble_eq_true rfl)) (dAt zX1_runTrain_0 13 rfl) ⟨Nat.zero_le _, Nat.zero_le _⟩) hS hA hP hD [1, 2, 3, 4, 5] [0] [0, 1, 2, 3, 4, 5] rfl rfl (by decide) (by decide) rfl (by decide) (fun H locs hP hD hS => ?_)
  refine lv_iload_n hx hb (dAt zX1_runTrain_0 14 rfl) rfl (lv_at hl 0 rfl) ?_
  refine lv_if_ne (tgt := 31) hx hb (dAt zX1_runTrain_0 15 rfl) (by decide) (fun c_27 => ?_) (fun c_27 => ?_)
  · have h := q_neg c_27 h
    refine lv_aload_n hx hb (dAt zX1_runTrain_0 17 rfl) rfl (lv_at hl 1 rfl) ?_
    refine lv_dup hx hb (dAt zX1_runTrain_0 18 rfl) rfl ?_
    refine va_get (D := D) (ci := 1) (v := .int (zC 0 3)) (C := RX1) (T := TX1) (N := 7) hx hb htl inlX1 hown hK hP 0 rfl rfl 3 (by decide) (htl _ W_61) (fun _ h9 => h9) rfl (dAt zX1_runTrain_0 19 rfl) ?_
    refine lv_iload_n hx hb (dAt zX1_runTrain_0 20 rfl) rfl (lv_at hl 0 rfl) ?_
    obtain ⟨u37, hu37, h⟩ := q_bind h
    refine xFi (wc := ([] : va_W)) (w1 := ([] : va_W)) (wr := (w1 qC qT zC ++ (w4 cI qT u23))) (ws2 := (w1 qC qT zC ++ (w4 cI qT u23))) (va_runS (As := [.int ((zT 0 2) &&& (u11 ^^^ (-1 : Int32)))]) (rest := [.int (zC 0 3), .ref (qC 0)]) ⟨hx, hb, hml, hown, htl⟩ (c_J6_bitCount_0f7a4 l D cI cJ cZ n  H.size  ((zT 0 2) &&& (u11 ^^^ (-1 : Int32))) u37 hu37) (va_cwS 1 htl (gS W_344 W_150 W_151 W_152) rfl rfl rfl (by decide +kernel) ⟨Nat.le_of_ble_eq_true rfl, Nat.le_of_ble_eq_true rfl⟩) (xPS xP0 (xD0 A) hK hN) rfl rfl hl.1 rfl (lv_room (Nat.le_of_ble_eq_true rfl)) (dAt zX1_runTrain_0 21 rfl) ⟨Nat.zero_le _, Nat.zero_le _⟩) hS hA hP hD [] [0, 1, 2, 3, 4, 5] [0, 1, 2, 3, 4, 5] rfl rfl (by decide) (by decide) rfl (by decide) (fun H locs hP hD hS => ?_)
    refine lv_iadd hx hb (dAt zX1_runTrain_0 22 rfl) ?_
    refine va_put (D := D) (ci := 1) (v := .int ((zC 0 3) + u37)) (ty := .int) (C := RX1) (T := TX1) (N := 7) hx hb htl inlX1 tyX1 tyX1_ok nmX1 hown hK hP hD hS 0 rfl rfl 3 (by decide) (htl _ W_61) (fun _ h9 => h9) rfl (by decide +kernel) rfl rfl (Nat.le_of_ble_eq_true rfl) (dAt zX1_runTrain_0 23 rfl) (fun H locs hP hD hS => ?_)
    have hP : va_P D vwCl (w1x qC qT (zC 0 1) (zC 0 2) ((zC 0 3) + u37) (zC 0 4) (zC 0 5) (zC 0 6) ++ (w4 cI qT u23)) H := hP
    have hD : va_D A (w1x qC qT (zC 0 1) (zC 0 2) ((zC 0 3) + u37) (zC 0 4) (zC 0 5) (zC 0 6) ++ (w4 cI qT u23)) := hD
    refine lv_aload_n hx hb (dAt zX1_runTrain_0 24 rfl) rfl (lv_at hl 1 rfl) ?_
    refine lv_dup hx hb (dAt zX1_runTrain_0 25 rfl) rfl ?_
    refine va_get (D := D) (ci := 1) (v := .int (zC 0 4)) (C := RX1) (T := TX1) (N := 7) hx hb htl inlX1 hown hK hP 0 rfl rfl 4 (by decide) (htl _ W_62) (fun _ h9 => h9) rfl (dAt zX1_runTrain_0 26 rfl) ?_
    refine lv_aload_n hx hb (dAt zX1_runTrain_0 27 rfl) rfl (lv_at hl 1 rfl) ?_
    refine va_get (D := D) (ci := 1) (v := .ref (qT 0)) (C := RX1) (T := TX1) (N := 7) hx hb htl inlX1 hown hK hP 0 rfl rfl 0 (by decide) (htl _ W_58) (fun _ h9 => h9) rfl (dAt zX1_runTrain_0 28 rfl) ?_
    refine lv_iload_n hx hb (dAt zX1_runTrain_0 29 rfl) rfl (lv_at hl 0 rfl) ?_
    refine lv_aload_n hx hb (dAt zX1_runTrain_0 30 rfl) rfl (lv_at hl 1 rfl) ?_
    refine va_get (D := D) (ci := 1) (v := .ref (qT 0)) (C := RX1) (T := TX1) (N := 7) hx hb htl inlX1 hown hK hP 0 rfl rfl 0 (by decide) (htl _ W_58) (fun _ h9 => h9) rfl (dAt zX1_runTrain_0 31 rfl) ?_
    refine va_get (D := D) (ci := 4) (v := .int (u23 0 0)) (C := RX4) (T := TX4) (N := 9) hx hb htl inlX4 hown hK hP 1 rfl rfl 0 (by decide) (htl _ W_323) (fun _ h9 => h9) rfl (dAt zX1_runTrain_0 32 rfl) ?_
    have hP : va_P D vwCl (w1 qC qT (sf zC 3 ((zC 0 3) + u37)) ++ (w4 cI qT u23)) H := hP
    have hD : va_D A (w1 qC qT (sf zC 3 ((zC 0 3) + u37)) ++ (w4 cI qT u23)) := hD
    obtain ⟨u61, hu61, h⟩ := q_bind h
    have hPc : va_P D vwCl (w4 cI qT u23) H := hP.sub [1, 2, 3, 4, 5] rfl
    have hDc : va_D A (w4 cI qT u23) := hD.sub [1, 2, 3, 4, 5] (by decide) rfl
    refine xFi (wc := (w4 cI qT u23)) (w1 := (w4 cI qT u23)) (wr := (w1 qC qT (sf zC 3 ((zC 0 3) + u37)))) (ws2 := (w1 qC qT (sf zC 3 ((zC 0 3) + u37)) ++ (w4 cI qT u23))) (va_runV (As := [.int ((zT 0 2) &&& (u11 ^^^ (-1 : Int32))), .int (u23 0 0)]) (rest := [.int (zC 0 4), .ref (qC 0)]) ⟨hx, hb, hml, hown, htl⟩ (c_X4_strengthBetween l D cI cJ cZ n qT H.size u23 ((zT 0 2) &&& (u11 ^^^ (-1 : Int32))) (u23 0 0) u61 hu61) (cwV 2 htl (gV W_345 W_346 W_347 W_14 W_348) rfl rfl rfl (by decide +kernel) ⟨Nat.le_of_ble_eq_true rfl, Nat.le_of_ble_eq_true rfl⟩) (xPV hPc hDc hK hN 0 rfl rfl) rfl rfl hl.1 rfl (lv_room (Nat.le_of_ble_eq_true rfl)) (dAt zX1_runTrain_0 33 rfl) ⟨Nat.zero_le _, Nat.zero_le _⟩) hS hA hP hD [1, 2, 3, 4, 5] [0] [0, 1, 2, 3, 4, 5] rfl rfl (by decide) (by decide) rfl (by decide) (fun H locs hP hD hS => ?_)
    refine lv_iadd hx hb (dAt zX1_runTrain_0 34 rfl) ?_
    refine va_put (D := D) (ci := 1) (v := .int ((zC 0 4) + u61)) (ty := .int) (C := RX1) (T := TX1) (N := 7) hx hb htl inlX1 tyX1 tyX1_ok nmX1 hown hK hP hD hS 0 rfl rfl 4 (by decide) (htl _ W_62) (fun _ h9 => h9) rfl (by decide +kernel) rfl rfl (Nat.le_of_ble_eq_true rfl) (dAt zX1_runTrain_0 35 rfl) (fun H locs hP hD hS => ?_)
    have hP : va_P D vwCl (w1x qC qT (zC 0 1) (zC 0 2) ((zC 0 3) + u37) ((zC 0 4) + u61) (zC 0 5) (zC 0 6) ++ (w4 cI qT u23)) H := hP
    have hD : va_D A (w1x qC qT (zC 0 1) (zC 0 2) ((zC 0 3) + u37) ((zC 0 4) + u61) (zC 0 5) (zC 0 6) ++ (w4 cI qT u23)) := hD
    refine lv_aload_n hx hb (dAt zX1_runTrain_0 36 rfl) rfl (lv_at hl 1 rfl) ?_
    refine va_get (D := D) (ci := 1) (v := .int (zC 0 5)) (C := RX1) (T := TX1) (N := 7) hx hb htl inlX1 hown hK hP 0 rfl rfl 5 (by decide) (htl _ W_63) (fun _ h9 => h9) rfl (dAt zX1_runTrain_0 37 rfl) ?_
    refine lv_bipush (v := (-6)) hx hb (dAt zX1_runTrain_0 38 rfl) (by decide) ?_
    refine lv_icmp_ne (tgt := 93) hx hb (dAt zX1_runTrain_0 39 rfl) (by decide) (fun c_74 => ?_) (fun c_74 => ?_)
    · have h := q_neg c_74 h
      have hP : va_P D vwCl (w1 qC qT (sf (sf zC 3 ((zC 0 3) + u37)) 4 ((zC 0 4) + u61)) ++ (w4 cI qT u23)) H := hP
      have hD : va_D A (w1 qC qT (sf (sf zC 3 ((zC 0 3) + u37)) 4 ((zC 0 4) + u61)) ++ (w4 cI qT u23)) := hD
      obtain rfl := q_some h
      exact xRv hx hb hr hlocks hQ hAe hP hD hK hS (dAt zX1_runTrain_0 48 rfl)
    · have h := q_pos c_74 h
      refine lv_aload_n hx hb (dAt zX1_runTrain_0 40 rfl) rfl (lv_at hl 1 rfl) ?_
      refine lv_aload_n hx hb (dAt zX1_runTrain_0 41 rfl) rfl (lv_at hl 1 rfl) ?_
      refine va_get (D := D) (ci := 1) (v := .int (zC 0 1)) (C := RX1) (T := TX1) (N := 7) hx hb htl inlX1 hown hK hP 0 rfl rfl 1 (by decide) (htl _ W_59) (fun _ h9 => h9) rfl (dAt zX1_runTrain_0 42 rfl) ?_
      refine va_put (D := D) (ci := 1) (v := .int (zC 0 1)) (ty := .int) (C := RX1) (T := TX1) (N := 7) hx hb htl inlX1 tyX1 tyX1_ok nmX1 hown hK hP hD hS 0 rfl rfl 5 (by decide) (htl _ W_63) (fun _ h9 => h9) rfl (by decide +kernel) rfl rfl (Nat.le_of_ble_eq_true rfl) (dAt zX1_runTrain_0 43 rfl) (fun H locs hP hD hS => ?_)
      have hP : va_P D vwCl (w1x qC qT (zC 0 1) (zC 0 2) ((zC 0 3) + u37) ((zC 0 4) + u61) (zC 0 1) (zC 0 6) ++ (w4 cI qT u23)) H := hP
      have hD : va_D A (w1x qC qT (zC 0 1) (zC 0 2) ((zC 0 3) + u37) ((zC 0 4) + u61) (zC 0 1) (zC 0 6) ++ (w4 cI qT u23)) := hD
      refine lv_aload_n hx hb (dAt zX1_runTrain_0 44 rfl) rfl (lv_at hl 1 rfl) ?_
      refine lv_iload_n hx hb (dAt zX1_runTrain_0 45 rfl) rfl (lv_at hl 0 rfl) ?_
      have hP : va_P D vwCl (w1 qC qT (sf (sf (sf zC 3 ((zC 0 3) + u37)) 4 ((zC 0 4) + u61)) 5 (zC 0 1)) ++ (w4 cI qT u23)) H := hP
      have hD : va_D A (w1 qC qT (sf (sf (sf zC 3 ((zC 0 3) + u37)) 4 ((zC 0 4) + u61)) 5 (zC 0 1)) ++ (w4 cI qT u23)) := hD
      obtain ⟨u87, hu87, h⟩ := q_bind h
      refine xFi (wc := ([] : va_W)) (w1 := ([] : va_W)) (wr := (w1 qC qT (sf (sf (sf zC 3 ((zC 0 3) + u37)) 4 ((zC 0 4) + u61)) 5 (zC 0 1)) ++ (w4 cI qT u23))) (ws2 := (w1 qC qT (sf (sf (sf zC 3 ((zC 0 3) + u37)) 4 ((zC 0 4) + u61)) 5 (zC 0 1)) ++ (w4 cI qT u23))) (va_runSN (host := RX5) (As := [.int ((zT 0 2) &&& (u11 ^^^ (-1 : Int32)))]) (rest := [.ref (qC 0)]) ⟨hx, hb, hml, hown, htl⟩ (c_X5_leastOne l D cI cJ cZ n  H.size  ((zT 0 2) &&& (u11 ^^^ (-1 : Int32))) u87 hu87) ⟨va_cnB 1 htl (gM W_350) rfl rfl rfl hN.1 (htl _ W_2) (by decide +kernel) ⟨Nat.le_of_ble_eq_true rfl, Nat.le_of_ble_eq_true rfl⟩, htl _ W_349, trivial⟩ (xPS xP0 (xD0 A) hK hN) rfl rfl hl.1 rfl (lv_room (Nat.le_of_ble_eq_true rfl)) (dAt zX1_runTrain_0 46 rfl) ⟨Nat.zero_le _, Nat.zero_le _⟩) hS hA hP hD [] [0, 1, 2, 3, 4, 5] [0, 1, 2, 3, 4, 5] rfl rfl (by decide) (by decide) rfl (by decide) (fun H locs hP hD hS => ?_)
      refine va_put (D := D) (ci := 1) (v := .int u87) (ty := .int) (C := RX1) (T := TX1) (N := 7) hx hb htl inlX1 tyX1 tyX1_ok nmX1 hown hK hP hD hS 0 rfl rfl 6 (by decide) (htl _ W_64) (fun _ h9 => h9) rfl (by decide +kernel) rfl rfl (Nat.le_of_ble_eq_true rfl) (dAt zX1_runTrain_0 47 rfl) (fun H locs hP hD hS => ?_)
      have hP : va_P D vwCl (w1x qC qT (zC 0 1) (zC 0 2) ((zC 0 3) + u37) ((zC 0 4) + u61) (zC 0 1) u87 ++ (w4 cI qT u23)) H := hP
      have hD : va_D A (w1x qC qT (zC 0 1) (zC 0 2) ((zC 0 3) + u37) ((zC 0 4) + u61) (zC 0 1) u87 ++ (w4 cI qT u23)) := hD
      have hP : va_P D vwCl (w1 qC qT (sf (sf (sf (sf zC 3 ((zC 0 3) + u37)) 4 ((zC 0 4) + u61)) 5 (zC 0 1)) 6 u87) ++ (w4 cI qT u23)) H := hP
      have hD : va_D A (w1 qC qT (sf (sf (sf (sf zC 3 ((zC 0 3) + u37)) 4 ((zC 0 4) + u61)) 5 (zC 0 1)) 6 u87) ++ (w4 cI qT u23)) := hD
      obtain rfl := q_some h
      exact xRv hx hb hr hlocks hQ hAe hP hD hK hS (dAt zX1_runTrain_0 48 rfl)
  · have h := q_pos c_27 h
    obtain rfl := q_some h
    exact xRv hx hb hr hlocks hQ hAe hP hD hK hS (dAt zX1_runTrain_0 16 rfl)
def b_X4_fadeAll_12 (n : Nat) (v1_2 : Int32) (k_2 : Int32 × TI → Option TI) (s_12 : Int32 × TI) (k_12 : Int32 × TI → Option TI) : Option TI := (if 10 ≤ s_12.1 then (k_2 ((v1_2 + 1), s_12.2)) else ((m_X4_fades n s_12.2 v1_2 s_12.1).bind fun u21 => (if u21 = 0 then (k_12 ((s_12.1 + 1), s_12.2)) else ((m_X4_kind n s_12.2 v1_2 s_12.1).bind fun u33 => ((m_X4_strength n s_12.2 v1_2 s_12.1).bind fun u39 => ((m_X4_bind n s_12.2 v1_2 s_12.1 u33 (u39 - (1 : Int32))).bind fun u44 => (k_12 ((s_12.1 + 1), u44))))))))
def b_X4_fadeAll_2 (n : Nat) (s_2 : Int32 × TI) (k_2 : Int32 × TI → Option TI) : Option TI := (if 10 ≤ s_2.1 then some s_2.2 else (loopF (b_X4_fadeAll_12 n s_2.1 k_2) n ((s_2.1 + (1 : Int32)), s_2.2)))
def m_X4_fadeAll (n : Nat) (zT : TI) : Option TI := (loopF (b_X4_fadeAll_2 n ) n (0, zT))
set_option maxHeartbeats 4000000 in
set_option maxRecDepth 100000 in
theorem c_X4_fadeAll (l : Launch) (D : va_G) (cI cJ cZ : ClassId) (n : Nat) (qT : Nat → Nat) (sz : Nat) (zT : TI) (out : TI) (hm : m_X4_fadeAll n zT = some out) : Met l yX4_fadeAll (wsM yX4_fadeAll cX4_fadeAll 3 none) { frames := 2, cells := 0, slots := 0, locals := 44 } (xPre D (kT cI cJ cZ) (w4 cI qT zT) sz [.ref (qT 0)]) (xQv D (kT cI cJ cZ) (w4 cI qT zT) (w4 cI qT out) sz) 0 0 (va_A (w4 cI qT zT) sz) := by
  refine Met.ofW (cc := cX4_fadeAll) (maxL := 3) (ret := none) (by decide) rfl ?_
  intro p e s m args below meth c s₁ B hml hv
  obtain ⟨hv, hsz, hP, hK, hD0, hN⟩ := hv
  have hx := B.exec; have hb := B.bytes; have hr := B.returns
  have hts := atoms_spec (ws := (wsM yX4_fadeAll cX4_fadeAll 3 none)) B.pre
  have hown : s.vm.findClass RX4 = some m.cls := findClass_of_methodNamed B.named
  have hlocks := B.notSynchronized
  subst hsz
  have hD := hD0.self (sz := s.heap.size)
  obtain ⟨A, hAe⟩ : ∃ A, A = va_A (w4 cI qT zT) s.heap.size := ⟨_, rfl⟩
  rw [← hAe] at hD
  have hA : ∀ q : Nat, s.heap.size ≤ q → A q := fun q h => by rw [hAe]; exact Or.inr h
  have htl : ∀ w ∈ wsL_law, w.before args s = true := fun w h => hts w (List.mem_cons_of_mem _ h)
  refine xHead (R' := { frames := 2, cells := 0, slots := 0, locals := 44 }) rfl (fun Q H hQ hH => ?_)
  have hP : va_P D vwCl (w4 cI qT zT) H := by rw [hH]; exact hP
  have hS : va_S A s.heap H [] := by rw [hH]; exact va_S.rf
  refine xStart hv (Nat.le_of_ble_eq_true rfl) (lv := [(0, .ref (qT 0))]) rfl (fun ls hl => ?_)
  have h := hm
  unfold m_X4_fadeAll at h
  refine lv_iconst (v := 0) hx hb (dAt zX4_fadeAll_0 0 rfl) (by decide) ?_
  refine lv_istore_n (lv' := [(1, .int 0), (0, .ref (qT 0))]) hx hb (dAt zX4_fadeAll_0 1 rfl) rfl hl (by decide) rfl (fun ls hl => ?_)
  have L_2 : ∀ (j_2 : Nat) (v1_2 : Int32) (zT_2 : TI) (H : Heap) (locs : List Loc) (ls : Array Slot), loopF (b_X4_fadeAll_2 n) j_2 (v1_2, zT_2) = some out → va_P D vwCl (w4 cI qT zT_2) H → va_D A (w4 cI qT zT_2) → va_S A s.heap H locs → lv_has ls 3 [(0, .ref (qT 0)), (1, .int v1_2)] → W p l e { frames := 2, cells := 0, slots := 0, locals := 44 } s m args below meth c H locs 0 0 Q (F0 m 2 ls []) := by
    intro j_2
    induction j_2 with
    | zero => intro v1_2 zT_2 H locs ls h hP hD hS hl; exact loopF_0 h
    | succ j_2 ih_2 =>
      intro v1_2 zT_2 H locs ls h hP hD hS hl
      have h := loopF_s h
      unfold b_X4_fadeAll_2 at h
      refine lv_iload_n hx hb (dAt zX4_fadeAll_0 2 rfl) rfl (lv_at hl 1 rfl) ?_
      refine lv_bipush (v := 10) hx hb (dAt zX4_fadeAll_0 3 rfl) (by decide) ?_
      refine lv_icmp_ge (tgt := 59) hx hb (dAt zX4_fadeAll_0 4 rfl) (by decide) (fun c_5 => ?_) (fun c_5 => ?_)
      · have h := q_pos c_5 h
        obtain rfl := q_some h
        exact xRv hx hb hr hlocks hQ hAe hP hD hK hS (dAt zX4_fadeAll_0 35 rfl)
      · have h := q_neg c_5 h
        refine lv_iload_n hx hb (dAt zX4_fadeAll_0 5 rfl) rfl (lv_at hl 1 rfl) ?_
        refine lv_iconst (v := 1) hx hb (dAt zX4_fadeAll_0 6 rfl) (by decide) ?_
        refine lv_iadd hx hb (dAt zX4_fadeAll_0 7 rfl) ?_
        refine lv_istore_n (lv' := [(2, .int (v1_2 + (1 : Int32))), (0, .ref (qT 0)), (1, .int v1_2)]) hx hb (dAt zX4_fadeAll_0 8 rfl) rfl hl (by decide) rfl (fun ls hl => ?_)
        have L_12 : ∀ (j_12 : Nat) (v2_12 : Int32) (zT_12 : TI) (H : Heap) (locs : List Loc) (ls : Array Slot), loopF (b_X4_fadeAll_12 n v1_2 (loopF (b_X4_fadeAll_2 n) j_2)) j_12 (v2_12, zT_12) = some out → va_P D vwCl (w4 cI qT zT_12) H → va_D A (w4 cI qT zT_12) → va_S A s.heap H locs → lv_has ls 3 [(0, .ref (qT 0)), (1, .int v1_2), (2, .int v2_12)] → W p l e { frames := 2, cells := 0, slots := 0, locals := 44 } s m args below meth c H locs 0 0 Q (F0 m 12 ls []) := by
          intro j_12
          induction j_12 with
          | zero => intro v2_12 zT_12 H locs ls h hP hD hS hl; exact loopF_0 h
          | succ j_12 ih_12 =>
            intro v2_12 zT_12 H locs ls h hP hD hS hl
            have h := loopF_s h
            unfold b_X4_fadeAll_12 at h
            refine lv_iload_n hx hb (dAt zX4_fadeAll_0 9 rfl) rfl (lv_at hl 2 rfl) ?_
            refine lv_bipush (v := 10) hx hb (dAt zX4_fadeAll_0 10 rfl) (by decide) ?_
            refine lv_icmp_ge (tgt := 53) hx hb (dAt zX4_fadeAll_0 11 rfl) (by decide) (fun c_15 => ?_) (fun c_15 => ?_)
            · have h := q_pos c_15 h
              refine lv_iinc (v := (v1_2 + 1)) (lv' := [(1, .int (v1_2 + 1)), (0, .ref (qT 0)), (2, .int v2_12)]) hx hb (dAt zX4_fadeAll_0 33 rfl) hl (k := 1) rfl rfl (by decide) rfl (fun ls hl => ?_)
              refine lv_goto (tgt := 2) hx hb (dAt zX4_fadeAll_0 34 rfl) (by decide) ?_
              exact ih_2 (v1_2 + 1) zT_12 _ _ _ h hP hD hS (lv_sub hl [1, 0] rfl)
            · have h := q_neg c_15 h
              refine lv_aload_n hx hb (dAt zX4_fadeAll_0 12 rfl) rfl (lv_at hl 0 rfl) ?_
              refine lv_iload_n hx hb (dAt zX4_fadeAll_0 13 rfl) rfl (lv_at hl 1 rfl) ?_
              refine lv_iload_n hx hb (dAt zX4_fadeAll_0 14 rfl) rfl (lv_at hl 2 rfl) ?_
              obtain ⟨u21, hu21, h⟩ := q_bind h
              refine xFz (wc := (w4 cI qT zT_12)) (w1 := (w4 cI qT zT_12)) (wr := ([] : va_W)) (ws2 := (w4 cI qT zT_12)) (va_runV (As := [.int v1_2, .int v2_12]) (rest := []) ⟨hx, hb, hml, hown, htl⟩ (c_X4_fades l D cI cJ cZ n qT H.size zT_12 v1_2 v2_12 u21 hu21) (cwV 2 htl (gV W_301 W_302 W_303 W_14 W_304) rfl rfl rfl (by decide +kernel) ⟨Nat.le_of_ble_eq_true rfl, Nat.le_of_ble_eq_true rfl⟩) (xPV hP hD hK hN 0 rfl rfl) rfl rfl hl.1 rfl (lv_room (Nat.le_of_ble_eq_true rfl)) (dAt zX4_fadeAll_0 15 rfl) ⟨Nat.zero_le _, Nat.zero_le _⟩) hS hA hP hD [0, 1, 2, 3, 4] [] [0, 1, 2, 3, 4] rfl rfl (by decide) (by decide) rfl (by decide) (fun H locs hz21 hP hD hS => ?_)
              refine lv_if_eq (tgt := 47) hx hb (dAt zX4_fadeAll_0 16 rfl) (by decide) (fun c_24 => ?_) (fun c_24 => ?_)
              · have h := q_pos c_24 h
                refine lv_iinc (v := (v2_12 + 1)) (lv' := [(2, .int (v2_12 + 1)), (0, .ref (qT 0)), (1, .int v1_2)]) hx hb (dAt zX4_fadeAll_0 31 rfl) hl (k := 2) rfl rfl (by decide) rfl (fun ls hl => ?_)
                refine lv_goto (tgt := 12) hx hb (dAt zX4_fadeAll_0 32 rfl) (by decide) ?_
                exact ih_12 (v2_12 + 1) zT_12 _ _ _ h hP hD hS (lv_sub hl [1, 2, 0] rfl)
              · have h := q_neg c_24 h
                refine lv_aload_n hx hb (dAt zX4_fadeAll_0 17 rfl) rfl (lv_at hl 0 rfl) ?_
                refine lv_iload_n hx hb (dAt zX4_fadeAll_0 18 rfl) rfl (lv_at hl 1 rfl) ?_
                refine lv_iload_n hx hb (dAt zX4_fadeAll_0 19 rfl) rfl (lv_at hl 2 rfl) ?_
                refine lv_aload_n hx hb (dAt zX4_fadeAll_0 20 rfl) rfl (lv_at hl 0 rfl) ?_
                refine lv_iload_n hx hb (dAt zX4_fadeAll_0 21 rfl) rfl (lv_at hl 1 rfl) ?_
                refine lv_iload_n hx hb (dAt zX4_fadeAll_0 22 rfl) rfl (lv_at hl 2 rfl) ?_
                obtain ⟨u33, hu33, h⟩ := q_bind h
                refine xFi (wc := (w4 cI qT zT_12)) (w1 := (w4 cI qT zT_12)) (wr := ([] : va_W)) (ws2 := (w4 cI qT zT_12)) (va_runV (As := [.int v1_2, .int v2_12]) (rest := [.int v2_12, .int v1_2, .ref (qT 0)]) ⟨hx, hb, hml, hown, htl⟩ (c_X4_kind l D cI cJ cZ n qT H.size zT_12 v1_2 v2_12 u33 hu33) (cwV 2 htl (gV W_309 W_310 W_311 W_14 W_312) rfl rfl rfl (by decide +kernel) ⟨Nat.le_of_ble_eq_true rfl, Nat.le_of_ble_eq_true rfl⟩) (xPV hP hD hK hN 0 rfl rfl) rfl rfl hl.1 rfl (lv_room (Nat.le_of_ble_eq_true rfl)) (dAt zX4_fadeAll_0 23 rfl) ⟨Nat.zero_le _, Nat.zero_le _⟩) hS hA hP hD [0, 1, 2, 3, 4] [] [0, 1, 2, 3, 4] rfl rfl (by decide) (by decide) rfl (by decide) (fun H locs hP hD hS => ?_)
                refine lv_aload_n hx hb (dAt zX4_fadeAll_0 24 rfl) rfl (lv_at hl 0 rfl) ?_
                refine lv_iload_n hx hb (dAt zX4_fadeAll_0 25 rfl) rfl (lv_at hl 1 rfl) ?_
                refine lv_iload_n hx hb (dAt zX4_fadeAll_0 26 rfl) rfl (lv_at hl 2 rfl) ?_
                obtain ⟨u39, hu39, h⟩ := q_bind h
                refine xFi (wc := (w4 cI qT zT_12)) (w1 := (w4 cI qT zT_12)) (wr := ([] : va_W)) (ws2 := (w4 cI qT zT_12)) (va_runV (As := [.int v1_2, .int v2_12]) (rest := [.int u33, .int v2_12, .int v1_2, .ref (qT 0)]) ⟨hx, hb, hml, hown, htl⟩ (c_X4_strength l D cI cJ cZ n qT H.size zT_12 v1_2 v2_12 u39 hu39) (cwV 2 htl (gV W_313 W_114 W_115 W_14 W_116) rfl rfl rfl (by decide +kernel) ⟨Nat.le_of_ble_eq_true rfl, Nat.le_of_ble_eq_true rfl⟩) (xPV hP hD hK hN 0 rfl rfl) rfl rfl hl.1 rfl (lv_room (Nat.le_of_ble_eq_true rfl)) (dAt zX4_fadeAll_0 27 rfl) ⟨Nat.zero_le _, Nat.zero_le _⟩) hS hA hP hD [0, 1, 2, 3, 4] [] [0, 1, 2, 3, 4] rfl rfl (by decide) (by decide) rfl (by decide) (fun H locs hP hD hS => ?_)
                refine lv_iconst (v := 1) hx hb (dAt zX4_fadeAll_0 28 rfl) (by decide) ?_
                refine lv_isub hx hb (dAt zX4_fadeAll_0 29 rfl) ?_
                obtain ⟨u44, hu44, h⟩ := q_bind h
                refine xFv (wc := (w4 cI qT zT_12)) (w1 := (w4 cI qT u44)) (wr := ([] : va_W)) (ws2 := (w4 cI qT u44)) (va_runV (As := [.int v1_2, .int v2_12, .int u33, .int (u39 - (1 : Int32))]) (rest := []) ⟨hx, hb, hml, hown, htl⟩ (c_X4_bind l D cI cJ cZ n qT H.size zT_12 v1_2 v2_12 u33 (u39 - (1 : Int32)) u44 hu44) (cwV 4 htl (gV W_363 W_118 W_119 W_14 W_120) rfl rfl rfl (by decide +kernel) ⟨Nat.le_of_ble_eq_true rfl, Nat.le_of_ble_eq_true rfl⟩) (xPV hP hD hK hN 0 rfl rfl) rfl rfl hl.1 rfl (lv_room (Nat.le_of_ble_eq_true rfl)) (dAt zX4_fadeAll_0 30 rfl) ⟨Nat.zero_le _, Nat.zero_le _⟩) hS hA hP hD [0, 1, 2, 3, 4] [] [0, 1, 2, 3, 4] rfl rfl (by decide) (by decide) rfl (by decide) (fun H locs hP hD hS => ?_)
                refine lv_iinc (v := (v2_12 + 1)) (lv' := [(2, .int (v2_12 + 1)), (0, .ref (qT 0)), (1, .int v1_2)]) hx hb (dAt zX4_fadeAll_0 31 rfl) hl (k := 2) rfl rfl (by decide) rfl (fun ls hl => ?_)
                refine lv_goto (tgt := 12) hx hb (dAt zX4_fadeAll_0 32 rfl) (by decide) ?_
                exact ih_12 (v2_12 + 1) u44 _ _ _ h hP hD hS (lv_sub hl [1, 2, 0] rfl)
        exact L_12 n (v1_2 + (1 : Int32)) zT_2 _ _ _ h hP hD hS (lv_sub hl [1, 2, 0] rfl)
  exact L_2 n 0 zT _ _ _ h hP hD hS (lv_sub hl [1, 0] rfl)
def m_X4_perform (n : Nat) (zT : TI) (a1 : Int32) (a2 : Int32) (a3 : Int32) : Option TI := ((m_X4_kind n zT a2 a3).bind fun u3 => ((m_X4_strength n zT a2 a3).bind fun u11 => (if a1 = 36 then ((m_X4_bind n zT a2 a3 3 9).bind fun u121 => some u121) else (if a1 = 43 then ((m_X4_bind n zT a2 a3 u3 (if (u11 + (2 : Int32)) < 9 then (u11 + (2 : Int32)) else 9)).bind fun u90 => some u90) else (if a1 = 45 then ((m_X4_bind n zT a2 a3 u3 (if 0 < (u11 - (3 : Int32)) then (u11 - (3 : Int32)) else 0)).bind fun u109 => some u109) else (if a1 = 62 then some (sf zT 2 ((zT 0 2) ^^^ ((1 : Int32) <<< (a2 &&& 31)))) else (if a1 = 100 then some (sf zT 1 ((zT 0 1) ^^^ ((1 : Int32) <<< (a2 &&& 31)))) else (if a1 = 126 then ((m_X4_fadeAll n zT).bind fun u158 => some u158) else some zT))))))))
set_option maxHeartbeats 4000000 in
set_option maxRecDepth 100000 in
theorem c_X4_perform (l : Launch) (D : va_G) (cI cJ cZ : ClassId) (n : Nat) (qT : Nat → Nat) (sz : Nat) (zT : TI) (a1 : Int32) (a2 : Int32) (a3 : Int32) (out : TI) (hm : m_X4_perform n zT a1 a2 a3 = some out) : Met l yX4_perform (wsM yX4_perform cX4_perform 6 none) { frames := 3, cells := 0, slots := 0, locals := 66 } (xPre D (kT cI cJ cZ) (w4 cI qT zT) sz [.ref (qT 0), .int a1, .int a2, .int a3]) (xQv D (kT cI cJ cZ) (w4 cI qT zT) (w4 cI qT out) sz) 0 0 (va_A (w4 cI qT zT) sz) := by
  refine Met.ofW (cc := cX4_perform) (maxL := 6) (ret := none) (by decide) rfl ?_
  intro p e s m args below meth c s₁ B hml hv
  obtain ⟨hv, hsz, hP, hK, hD0, hN⟩ := hv
  have hx := B.exec; have hb := B.bytes; have hr := B.returns
  have hts := atoms_spec (ws := (wsM yX4_perform cX4_perform 6 none)) B.pre
  have hown : s.vm.findClass RX4 = some m.cls := findClass_of_methodNamed B.named
  have hlocks := B.notSynchronized
  subst hsz
  have hD := hD0.self (sz := s.heap.size)
  obtain ⟨A, hAe⟩ : ∃ A, A = va_A (w4 cI qT zT) s.heap.size := ⟨_, rfl⟩
  rw [← hAe] at hD
  have hA : ∀ q : Nat, s.heap.size ≤ q → A q := fun q h => by rw [hAe]; exact Or.inr h
  have htl : ∀ w ∈ wsL_law, w.before args s = true := fun w h => hts w (List.mem_cons_of_mem _ h)
  refine xHead (R' := { frames := 3, cells := 0, slots := 0, locals := 66 }) rfl (fun Q H hQ hH => ?_)
  have hP : va_P D vwCl (w4 cI qT zT) H := by rw [hH]; exact hP
  have hS : va_S A s.heap H [] := by rw [hH]; exact va_S.rf
  refine xStart hv (Nat.le_of_ble_eq_true rfl) (lv := [(0, .ref (qT 0)), (1, .int a1), (2, .int a2), (3, .int a3)]) rfl (fun ls hl => ?_)
  have h := hm
  unfold m_X4_perform at h
  refine lv_aload_n hx hb (dAt zX4_perform_0 0 rfl) rfl (lv_at hl 0 rfl) ?_
  refine lv_iload_n hx hb (dAt zX4_perform_0 1 rfl) rfl (lv_at hl 2 rfl) ?_
  refine lv_iload_n hx hb (dAt zX4_perform_0 2 rfl) rfl (lv_at hl 3 rfl) ?_
  obtain ⟨u3, hu3, h⟩ := q_bind h
  refine xFi (wc := (w4 cI qT zT)) (w1 := (w4 cI qT zT)) (wr := ([] : va_W)) (ws2 := (w4 cI qT zT)) (va_runV (As := [.int a2, .int a3]) (rest := []) ⟨hx, hb, hml, hown, htl⟩ (c_X4_kind l D cI cJ cZ n qT H.size zT a2 a3 u3 hu3) (cwV 2 htl (gV W_309 W_310 W_311 W_14 W_312) rfl rfl rfl (by decide +kernel) ⟨Nat.le_of_ble_eq_true rfl, Nat.le_of_ble_eq_true rfl⟩) (xPV hP hD hK hN 0 rfl rfl) rfl rfl hl.1 rfl (lv_room (Nat.le_of_ble_eq_true rfl)) (dAt zX4_perform_0 3 rfl) ⟨Nat.zero_le _, Nat.zero_le _⟩) hS hA hP hD [0, 1, 2, 3, 4] [] [0, 1, 2, 3, 4] rfl rfl (by decide) (by decide) rfl (by decide) (fun H locs hP hD hS => ?_)
  refine lv_istore (lv' := [(4, .int u3), (0, .ref (qT 0)), (1, .int a1), (2, .int a2), (3, .int a3)]) hx hb (dAt zX4_perform_0 4 rfl) hl (by decide) rfl (fun ls hl => ?_)
  refine lv_aload_n hx hb (dAt zX4_perform_0 5 rfl) rfl (lv_at hl 1 rfl) ?_
  refine lv_iload_n hx hb (dAt zX4_perform_0 6 rfl) rfl (lv_at hl 3 rfl) ?_
  refine lv_iload_n hx hb (dAt zX4_perform_0 7 rfl) rfl (lv_at hl 4 rfl) ?_
  obtain ⟨u11, hu11, h⟩ := q_bind h
  refine xFi (wc := (w4 cI qT zT)) (w1 := (w4 cI qT zT)) (wr := ([] : va_W)) (ws2 := (w4 cI qT zT)) (va_runV (As := [.int a2, .int a3]) (rest := []) ⟨hx, hb, hml, hown, htl⟩ (c_X4_strength l D cI cJ cZ n qT H.size zT a2 a3 u11 hu11) (cwV 2 htl (gV W_313 W_114 W_115 W_14 W_116) rfl rfl rfl (by decide +kernel) ⟨Nat.le_of_ble_eq_true rfl, Nat.le_of_ble_eq_true rfl⟩) (xPV hP hD hK hN 0 rfl rfl) rfl rfl hl.1 rfl (lv_room (Nat.le_of_ble_eq_true rfl)) (dAt zX4_perform_0 8 rfl) ⟨Nat.zero_le _, Nat.zero_le _⟩) hS hA hP hD [0, 1, 2, 3, 4] [] [0, 1, 2, 3, 4] rfl rfl (by decide) (by decide) rfl (by decide) (fun H locs hP hD hS => ?_)
  refine lv_istore (lv' := [(5, .int u11), (4, .int u3), (0, .ref (qT 0)), (1, .int a1), (2, .int a2), (3, .int a3)]) hx hb (dAt zX4_perform_0 9 rfl) hl (by decide) rfl (fun ls hl => ?_)
  refine lv_iload_n hx hb (dAt zX4_perform_0 10 rfl) rfl (lv_at hl 3 rfl) ?_
  by_cases c_17_36 : a1 = 36
  · have h := q_pos c_17_36 h
    refine lv_lookup (off := 98) (tgt := 115) hx hb (dAt zX4_perform_0 11 rfl) (by decide) (by rw [c_17_36]; decide) (by decide) ?_
    refine lv_aload_n hx hb (dAt zX4_perform_0 34 rfl) rfl (lv_at hl 2 rfl) ?_
    refine lv_iload_n hx hb (dAt zX4_perform_0 35 rfl) rfl (lv_at hl 4 rfl) ?_
    refine lv_iload_n hx hb (dAt zX4_perform_0 36 rfl) rfl (lv_at hl 5 rfl) ?_
    refine lv_iconst (v := 3) hx hb (dAt zX4_perform_0 37 rfl) (by decide) ?_
    refine lv_bipush (v := 9) hx hb (dAt zX4_perform_0 38 rfl) (by decide) ?_
    obtain ⟨u121, hu121, h⟩ := q_bind h
    refine xFv (wc := (w4 cI qT zT)) (w1 := (w4 cI qT u121)) (wr := ([] : va_W)) (ws2 := (w4 cI qT u121)) (va_runV (As := [.int a2, .int a3, .int 3, .int 9]) (rest := []) ⟨hx, hb, hml, hown, htl⟩ (c_X4_bind l D cI cJ cZ n qT H.size zT a2 a3 3 9 u121 hu121) (cwV 4 htl (gV W_363 W_118 W_119 W_14 W_120) rfl rfl rfl (by decide +kernel) ⟨Nat.le_of_ble_eq_true rfl, Nat.le_of_ble_eq_true rfl⟩) (xPV hP hD hK hN 0 rfl rfl) rfl rfl hl.1 rfl (lv_room (Nat.le_of_ble_eq_true rfl)) (dAt zX4_perform_0 39 rfl) ⟨Nat.zero_le _, Nat.zero_le _⟩) hS hA hP hD [0, 1, 2, 3, 4] [] [0, 1, 2, 3, 4] rfl rfl (by decide) (by decide) rfl (by decide) (fun H locs hP hD hS => ?_)
    refine lv_goto (tgt := 164) hx hb (dAt zX4_perform_0 40 rfl) (by decide) ?_
    obtain rfl := q_some h
    exact xRv hx hb hr hlocks hQ hAe hP hD hK hS (dAt zX4_perform_0 62 rfl)
  · have h := q_neg c_17_36 h
    by_cases c_17_43 : a1 = 43
    · have h := q_pos c_17_43 h
      refine lv_lookup (off := 59) (tgt := 76) hx hb (dAt zX4_perform_0 11 rfl) (by decide) (by rw [c_17_43]; decide) (by decide) ?_
      refine lv_aload_n hx hb (dAt zX4_perform_0 12 rfl) rfl (lv_at hl 2 rfl) ?_
      refine lv_iload_n hx hb (dAt zX4_perform_0 13 rfl) rfl (lv_at hl 4 rfl) ?_
      refine lv_iload_n hx hb (dAt zX4_perform_0 14 rfl) rfl (lv_at hl 5 rfl) ?_
      refine lv_iload hx hb (dAt zX4_perform_0 15 rfl) (lv_at hl 1 rfl) ?_
      refine lv_bipush (v := 9) hx hb (dAt zX4_perform_0 16 rfl) (by decide) ?_
      refine lv_iload hx hb (dAt zX4_perform_0 17 rfl) (lv_at hl 0 rfl) ?_
      refine lv_iconst (v := 2) hx hb (dAt zX4_perform_0 18 rfl) (by decide) ?_
      refine lv_iadd hx hb (dAt zX4_perform_0 19 rfl) ?_
      refine va_mmin (rest := [.int u3, .int a3, .int a2, .ref (qT 0)]) hx hb (hml.trans hl.1.symm) hown (htl _ W_356) (htl _ W_357) (htl _ W_358) (htl _ W_359) (Nat.le_of_ble_eq_true rfl) (Nat.le_of_ble_eq_true rfl) (Nat.zero_le _) (Nat.zero_le _) (dAt zX4_perform_0 20 rfl) ?_
      obtain ⟨u90, hu90, h⟩ := q_bind h
      refine xFv (wc := (w4 cI qT zT)) (w1 := (w4 cI qT u90)) (wr := ([] : va_W)) (ws2 := (w4 cI qT u90)) (va_runV (As := [.int a2, .int a3, .int u3, .int (if (u11 + (2 : Int32)) < 9 then (u11 + (2 : Int32)) else 9)]) (rest := []) ⟨hx, hb, hml, hown, htl⟩ (c_X4_bind l D cI cJ cZ n qT H.size zT a2 a3 u3 (if (u11 + (2 : Int32)) < 9 then (u11 + (2 : Int32)) else 9) u90 hu90) (cwV 4 htl (gV W_363 W_118 W_119 W_14 W_120) rfl rfl rfl (by decide +kernel) ⟨Nat.le_of_ble_eq_true rfl, Nat.le_of_ble_eq_true rfl⟩) (xPV hP hD hK hN 0 rfl rfl) rfl rfl hl.1 rfl (lv_room (Nat.le_of_ble_eq_true rfl)) (dAt zX4_perform_0 21 rfl) ⟨Nat.zero_le _, Nat.zero_le _⟩) hS hA hP hD [0, 1, 2, 3, 4] [] [0, 1, 2, 3, 4] rfl rfl (by decide) (by decide) rfl (by decide) (fun H locs hP hD hS => ?_)
      refine lv_goto (tgt := 164) hx hb (dAt zX4_perform_0 22 rfl) (by decide) ?_
      obtain rfl := q_some h
      exact xRv hx hb hr hlocks hQ hAe hP hD hK hS (dAt zX4_perform_0 62 rfl)
    · have h := q_neg c_17_43 h
      by_cases c_17_45 : a1 = 45
      · have h := q_pos c_17_45 h
        refine lv_lookup (off := 79) (tgt := 96) hx hb (dAt zX4_perform_0 11 rfl) (by decide) (by rw [c_17_45]; decide) (by decide) ?_
        refine lv_aload_n hx hb (dAt zX4_perform_0 23 rfl) rfl (lv_at hl 2 rfl) ?_
        refine lv_iload_n hx hb (dAt zX4_perform_0 24 rfl) rfl (lv_at hl 4 rfl) ?_
        refine lv_iload_n hx hb (dAt zX4_perform_0 25 rfl) rfl (lv_at hl 5 rfl) ?_
        refine lv_iload hx hb (dAt zX4_perform_0 26 rfl) (lv_at hl 1 rfl) ?_
        refine lv_iconst (v := 0) hx hb (dAt zX4_perform_0 27 rfl) (by decide) ?_
        refine lv_iload hx hb (dAt zX4_perform_0 28 rfl) (lv_at hl 0 rfl) ?_
        refine lv_iconst (v := 3) hx hb (dAt zX4_perform_0 29 rfl) (by decide) ?_
        refine lv_isub hx hb (dAt zX4_perform_0 30 rfl) ?_
        refine va_mmax (rest := [.int u3, .int a3, .int a2, .ref (qT 0)]) hx hb (hml.trans hl.1.symm) hown (htl _ W_360) (htl _ W_361) (htl _ W_358) (htl _ W_362) (Nat.le_of_ble_eq_true rfl) (Nat.le_of_ble_eq_true rfl) (Nat.zero_le _) (Nat.zero_le _) (dAt zX4_perform_0 31 rfl) ?_
        obtain ⟨u109, hu109, h⟩ := q_bind h
        refine xFv (wc := (w4 cI qT zT)) (w1 := (w4 cI qT u109)) (wr := ([] : va_W)) (ws2 := (w4 cI qT u109)) (va_runV (As := [.int a2, .int a3, .int u3, .int (if 0 < (u11 - (3 : Int32)) then (u11 - (3 : Int32)) else 0)]) (rest := []) ⟨hx, hb, hml, hown, htl⟩ (c_X4_bind l D cI cJ cZ n qT H.size zT a2 a3 u3 (if 0 < (u11 - (3 : Int32)) then (u11 - (3 : Int32)) else 0) u109 hu109) (cwV 4 htl (gV W_363 W_118 W_119 W_14 W_120) rfl rfl rfl (by decide +kernel) ⟨Nat.le_of_ble_eq_true rfl, Nat.le_of_ble_eq_true rfl⟩) (xPV hP hD hK hN 0 rfl rfl) rfl rfl hl.1 rfl (lv_room (Nat.le_of_ble_eq_true rfl)) (dAt zX4_perform_0 32 rfl) ⟨Nat.zero_le _, Nat.zero_le _⟩) hS hA hP hD [0, 1, 2, 3, 4] [] [0, 1, 2, 3, 4] rfl rfl (by decide) (by decide) rfl (by decide) (fun H locs hP hD hS => ?_)
        refine lv_goto (tgt := 164) hx hb (dAt zX4_perform_0 33 rfl) (by decide) ?_
        obtain rfl := q_some h
        exact xRv hx hb hr hlocks hQ hAe hP hD hK hS (dAt zX4_perform_0 62 rfl)
      · have h := q_neg c_17_45 h
        by_cases c_17_62 : a1 = 62
        · have h := q_pos c_17_62 h
          refine lv_lookup (off := 125) (tgt := 142) hx hb (dAt zX4_perform_0 11 rfl) (by decide) (by rw [c_17_62]; decide) (by decide) ?_
          refine lv_aload_n hx hb (dAt zX4_perform_0 50 rfl) rfl (lv_at hl 2 rfl) ?_
          refine lv_dup hx hb (dAt zX4_perform_0 51 rfl) rfl ?_
          refine va_get (D := D) (ci := 4) (v := .int (zT 0 2)) (C := RX4) (T := TX4) (N := 9) hx hb htl inlX4 hown hK hP 0 rfl rfl 2 (by decide) (htl _ W_41) (fun _ h9 => h9) rfl (dAt zX4_perform_0 52 rfl) ?_
          refine lv_iconst (v := 1) hx hb (dAt zX4_perform_0 53 rfl) (by decide) ?_
          refine lv_iload_n hx hb (dAt zX4_perform_0 54 rfl) rfl (lv_at hl 4 rfl) ?_
          refine lv_ishl hx hb (dAt zX4_perform_0 55 rfl) ?_
          refine lv_ixor hx hb (dAt zX4_perform_0 56 rfl) ?_
          refine va_put (D := D) (ci := 4) (v := .int ((zT 0 2) ^^^ ((1 : Int32) <<< (a2 &&& 31)))) (ty := .int) (C := RX4) (T := TX4) (N := 9) hx hb htl inlX4 tyX4 tyX4_ok nmX4 hown hK hP hD hS 0 rfl rfl 2 (by decide) (htl _ W_41) (fun _ h9 => h9) rfl (by decide +kernel) rfl rfl (Nat.le_of_ble_eq_true rfl) (dAt zX4_perform_0 57 rfl) (fun H locs hP hD hS => ?_)
          have hP : va_P D vwCl (w4x cI qT (zT 0 0) (zT 0 1) ((zT 0 2) ^^^ ((1 : Int32) <<< (a2 &&& 31))) (zT 0 3) (zT 0 4) (zT 6) (zT 7) (zT 8) (zT 9)) H := hP
          have hD : va_D A (w4x cI qT (zT 0 0) (zT 0 1) ((zT 0 2) ^^^ ((1 : Int32) <<< (a2 &&& 31))) (zT 0 3) (zT 0 4) (zT 6) (zT 7) (zT 8) (zT 9)) := hD
          refine lv_goto (tgt := 164) hx hb (dAt zX4_perform_0 58 rfl) (by decide) ?_
          have hP : va_P D vwCl (w4 cI qT (sf zT 2 ((zT 0 2) ^^^ ((1 : Int32) <<< (a2 &&& 31))))) H := hP
          have hD : va_D A (w4 cI qT (sf zT 2 ((zT 0 2) ^^^ ((1 : Int32) <<< (a2 &&& 31))))) := hD
          obtain rfl := q_some h
          exact xRv hx hb hr hlocks hQ hAe hP hD hK hS (dAt zX4_perform_0 62 rfl)
        · have h := q_neg c_17_62 h
          by_cases c_17_100 : a1 = 100
          · have h := q_pos c_17_100 h
            refine lv_lookup (off := 110) (tgt := 127) hx hb (dAt zX4_perform_0 11 rfl) (by decide) (by rw [c_17_100]; decide) (by decide) ?_
            refine lv_aload_n hx hb (dAt zX4_perform_0 41 rfl) rfl (lv_at hl 2 rfl) ?_
            refine lv_dup hx hb (dAt zX4_perform_0 42 rfl) rfl ?_
            refine va_get (D := D) (ci := 4) (v := .int (zT 0 1)) (C := RX4) (T := TX4) (N := 9) hx hb htl inlX4 hown hK hP 0 rfl rfl 1 (by decide) (htl _ W_40) (fun _ h9 => h9) rfl (dAt zX4_perform_0 43 rfl) ?_
            refine lv_iconst (v := 1) hx hb (dAt zX4_perform_0 44 rfl) (by decide) ?_
            refine lv_iload_n hx hb (dAt zX4_perform_0 45 rfl) rfl (lv_at hl 4 rfl) ?_
            refine lv_ishl hx hb (dAt zX4_perform_0 46 rfl) ?_
            refine lv_ixor hx hb (dAt zX4_perform_0 47 rfl) ?_
            refine va_put (D := D) (ci := 4) (v := .int ((zT 0 1) ^^^ ((1 : Int32) <<< (a2 &&& 31)))) (ty := .int) (C := RX4) (T := TX4) (N := 9) hx hb htl inlX4 tyX4 tyX4_ok nmX4 hown hK hP hD hS 0 rfl rfl 1 (by decide) (htl _ W_40) (fun _ h9 => h9) rfl (by decide +kernel) rfl rfl (Nat.le_of_ble_eq_true rfl) (dAt zX4_perform_0 48 rfl) (fun H locs hP hD hS => ?_)
            have hP : va_P D vwCl (w4x cI qT (zT 0 0) ((zT 0 1) ^^^ ((1 : Int32) <<< (a2 &&& 31))) (zT 0 2) (zT 0 3) (zT 0 4) (zT 6) (zT 7) (zT 8) (zT 9)) H := hP
            have hD : va_D A (w4x cI qT (zT 0 0) ((zT 0 1) ^^^ ((1 : Int32) <<< (a2 &&& 31))) (zT 0 2) (zT 0 3) (zT 0 4) (zT 6) (zT 7) (zT 8) (zT 9)) := hD
            refine lv_goto (tgt := 164) hx hb (dAt zX4_perform_0 49 rfl) (by decide) ?_
            have hP : va_P D vwCl (w4 cI qT (sf zT 1 ((zT 0 1) ^^^ ((1 : Int32) <<< (a2 &&& 31))))) H := hP
            have hD : va_D A (w4 cI qT (sf zT 1 ((zT 0 1) ^^^ ((1 : Int32) <<< (a2 &&& 31))))) := hD
            obtain rfl := q_some h
            exact xRv hx hb hr hlocks hQ hAe hP hD hK hS (dAt zX4_perform_0 62 rfl)
          · have h := q_neg c_17_100 h
            by_cases c_17_126 : a1 = 126
            · have h := q_pos c_17_126 h
              refine lv_lookup (off := 140) (tgt := 157) hx hb (dAt zX4_perform_0 11 rfl) (by decide) (by rw [c_17_126]; decide) (by decide) ?_
              refine lv_aload_n hx hb (dAt zX4_perform_0 59 rfl) rfl (lv_at hl 2 rfl) ?_
              obtain ⟨u158, hu158, h⟩ := q_bind h
              refine xFv (wc := (w4 cI qT zT)) (w1 := (w4 cI qT u158)) (wr := ([] : va_W)) (ws2 := (w4 cI qT u158)) (va_runV (As := []) (rest := []) ⟨hx, hb, hml, hown, htl⟩ (c_X4_fadeAll l D cI cJ cZ n qT H.size zT  u158 hu158) (cwV 0 htl (gV W_364 W_365 W_366 W_14 W_367) rfl rfl rfl (by decide +kernel) ⟨Nat.le_of_ble_eq_true rfl, Nat.le_of_ble_eq_true rfl⟩) (xPV hP hD hK hN 0 rfl rfl) rfl rfl hl.1 rfl (lv_room (Nat.le_of_ble_eq_true rfl)) (dAt zX4_perform_0 60 rfl) ⟨Nat.zero_le _, Nat.zero_le _⟩) hS hA hP hD [0, 1, 2, 3, 4] [] [0, 1, 2, 3, 4] rfl rfl (by decide) (by decide) rfl (by decide) (fun H locs hP hD hS => ?_)
              refine lv_goto (tgt := 164) hx hb (dAt zX4_perform_0 61 rfl) (by decide) ?_
              obtain rfl := q_some h
              exact xRv hx hb hr hlocks hQ hAe hP hD hK hS (dAt zX4_perform_0 62 rfl)
            · have h := q_neg c_17_126 h
              refine lv_lookup (off := 147) (tgt := 164) hx hb (dAt zX4_perform_0 11 rfl) (by decide) (by rw [lv_osw c_17_36 (by decide)]; rw [lv_osw c_17_43 (by decide)]; rw [lv_osw c_17_45 (by decide)]; rw [lv_osw c_17_62 (by decide)]; rw [lv_osw c_17_100 (by decide)]; rw [lv_osw c_17_126 (by decide)]; rfl) (by decide) ?_
              obtain rfl := q_some h
              exact xRv hx hb hr hlocks hQ hAe hP hD hK hS (dAt zX4_perform_0 62 rfl)
def m_X1_attempt (n : Nat) (zC : TI) (zT : TI) (a1 : Int32) (a2 : Int32) (a3 : Int32) : Option (Int32 × TI × TI) := ((m_X4_reasonAgainst n zT a1 a2 a3).bind fun u7 => (if u7 = 0 then (if a1 = 46 then ((m_X1_runTrain n zC zT).bind fun u27 => some (0, (sf u27.1 1 ((u27.1 0 1) + (1 : Int32))), u27.2)) else ((m_X4_perform n zT a1 a2 a3).bind fun u40 => some (0, (sf zC 1 ((zC 0 1) + (1 : Int32))), u40))) else some (u7, zC, zT)))
set_option maxHeartbeats 4000000 in
set_option maxRecDepth 100000 in
theorem c_X1_attempt (l : Launch) (D : va_G) (cI cJ cZ : ClassId) (n : Nat) (qC : Nat → Nat) (qT : Nat → Nat) (sz : Nat) (zC : TI) (zT : TI) (a1 : Int32) (a2 : Int32) (a3 : Int32) (out : Int32 × TI × TI) (hm : m_X1_attempt n zC zT a1 a2 a3 = some out) : Met l yX1_attempt (wsM yX1_attempt cX1_attempt 5 (some .int)) { frames := 4, cells := 0, slots := 0, locals := 91 } (xPre D (kT cI cJ cZ) (w1 qC qT zC ++ (w4 cI qT zT)) sz [.ref (qC 0), .int a1, .int a2, .int a3]) (xQi D (kT cI cJ cZ) (w1 qC qT zC ++ (w4 cI qT zT)) (w1 qC qT out.2.1 ++ (w4 cI qT out.2.2)) sz out.1) 0 0 (va_A (w1 qC qT zC ++ (w4 cI qT zT)) sz) := by
  refine Met.ofW (cc := cX1_attempt) (maxL := 5) (ret := (some .int)) (by decide) rfl ?_
  intro p e s m args below meth c s₁ B hml hv
  obtain ⟨hv, hsz, hP, hK, hD0, hN⟩ := hv
  have hx := B.exec; have hb := B.bytes; have hr := B.returns
  have hts := atoms_spec (ws := (wsM yX1_attempt cX1_attempt 5 (some .int))) B.pre
  have hown : s.vm.findClass RX1 = some m.cls := findClass_of_methodNamed B.named
  have hlocks := B.notSynchronized
  subst hsz
  have hD := hD0.self (sz := s.heap.size)
  obtain ⟨A, hAe⟩ : ∃ A, A = va_A (w1 qC qT zC ++ (w4 cI qT zT)) s.heap.size := ⟨_, rfl⟩
  rw [← hAe] at hD
  have hA : ∀ q : Nat, s.heap.size ≤ q → A q := fun q h => by rw [hAe]; exact Or.inr h
  have htl : ∀ w ∈ wsL_law, w.before args s = true := fun w h => hts w (List.mem_cons_of_mem _ h)
  refine xHead (R' := { frames := 4, cells := 0, slots := 0, locals := 91 }) rfl (fun Q H hQ hH => ?_)
  have hP : va_P D vwCl (w1 qC qT zC ++ (w4 cI qT zT)) H := by rw [hH]; exact hP
  have hS : va_S A s.heap H [] := by rw [hH]; exact va_S.rf
  refine xStart hv (Nat.le_of_ble_eq_true rfl) (lv := [(0, .ref (qC 0)), (1, .int a1), (2, .int a2), (3, .int a3)]) rfl (fun ls hl => ?_)
  have h := hm
  unfold m_X1_attempt at h
  refine lv_aload_n hx hb (dAt zX1_attempt_0 0 rfl) rfl (lv_at hl 0 rfl) ?_
  refine va_get (D := D) (ci := 1) (v := .ref (qT 0)) (C := RX1) (T := TX1) (N := 7) hx hb htl inlX1 hown hK hP 0 rfl rfl 0 (by decide) (htl _ W_58) (fun _ h9 => h9) rfl (dAt zX1_attempt_0 1 rfl) ?_
  refine lv_iload_n hx hb (dAt zX1_attempt_0 2 rfl) rfl (lv_at hl 1 rfl) ?_
  refine lv_iload_n hx hb (dAt zX1_attempt_0 3 rfl) rfl (lv_at hl 2 rfl) ?_
  refine lv_iload_n hx hb (dAt zX1_attempt_0 4 rfl) rfl (lv_at hl 3 rfl) ?_
  obtain ⟨u7, hu7, h⟩ := q_bind h
  have hPc : va_P D vwCl (w4 cI qT zT) H := hP.sub [1, 2, 3, 4, 5] rfl
  have hDc : va_D A (w4 cI qT zT) := hD.sub [1, 2, 3, 4, 5] (by decide) rfl
  refine xFi (wc := (w4 cI qT zT)) (w1 := (w4 cI qT zT)) (wr := (w1 qC qT zC)) (ws2 := (w1 qC qT zC ++ (w4 cI qT zT))) (va_runV (As := [.int a1, .int a2, .int a3]) (rest := []) ⟨hx, hb, hml, hown, htl⟩ (c_X4_reasonAgainst l D cI cJ cZ n qT H.size zT a1 a2 a3 u7 hu7) (cwV 3 htl (gV W_293 W_294 W_295 W_14 W_296) rfl rfl rfl (by decide +kernel) ⟨Nat.le_of_ble_eq_true rfl, Nat.le_of_ble_eq_true rfl⟩) (xPV hPc hDc hK hN 0 rfl rfl) rfl rfl hl.1 rfl (lv_room (Nat.le_of_ble_eq_true rfl)) (dAt zX1_attempt_0 5 rfl) ⟨Nat.zero_le _, Nat.zero_le _⟩) hS hA hP hD [1, 2, 3, 4, 5] [0] [0, 1, 2, 3, 4, 5] rfl rfl (by decide) (by decide) rfl (by decide) (fun H locs hP hD hS => ?_)
  refine lv_istore (lv' := [(4, .int u7), (0, .ref (qC 0)), (1, .int a1), (2, .int a2), (3, .int a3)]) hx hb (dAt zX1_attempt_0 6 rfl) hl (by decide) rfl (fun ls hl => ?_)
  refine lv_iload hx hb (dAt zX1_attempt_0 7 rfl) (lv_at hl 0 rfl) ?_
  refine lv_if_eq (tgt := 20) hx hb (dAt zX1_attempt_0 8 rfl) (by decide) (fun c_14 => ?_) (fun c_14 => ?_)
  · have h := q_pos c_14 h
    refine lv_iload_n hx hb (dAt zX1_attempt_0 11 rfl) rfl (lv_at hl 2 rfl) ?_
    refine lv_bipush (v := 46) hx hb (dAt zX1_attempt_0 12 rfl) (by decide) ?_
    refine lv_icmp_ne (tgt := 33) hx hb (dAt zX1_attempt_0 13 rfl) (by decide) (fun c_23 => ?_) (fun c_23 => ?_)
    · have h := q_neg c_23 h
      refine lv_aload_n hx hb (dAt zX1_attempt_0 17 rfl) rfl (lv_at hl 1 rfl) ?_
      refine va_get (D := D) (ci := 1) (v := .ref (qT 0)) (C := RX1) (T := TX1) (N := 7) hx hb htl inlX1 hown hK hP 0 rfl rfl 0 (by decide) (htl _ W_58) (fun _ h9 => h9) rfl (dAt zX1_attempt_0 18 rfl) ?_
      refine lv_iload_n hx hb (dAt zX1_attempt_0 19 rfl) rfl (lv_at hl 2 rfl) ?_
      refine lv_iload_n hx hb (dAt zX1_attempt_0 20 rfl) rfl (lv_at hl 3 rfl) ?_
      refine lv_iload_n hx hb (dAt zX1_attempt_0 21 rfl) rfl (lv_at hl 4 rfl) ?_
      obtain ⟨u40, hu40, h⟩ := q_bind h
      have hPc : va_P D vwCl (w4 cI qT zT) H := hP.sub [1, 2, 3, 4, 5] rfl
      have hDc : va_D A (w4 cI qT zT) := hD.sub [1, 2, 3, 4, 5] (by decide) rfl
      refine xFv (wc := (w4 cI qT zT)) (w1 := (w4 cI qT u40)) (wr := (w1 qC qT zC)) (ws2 := (w1 qC qT zC ++ (w4 cI qT u40))) (va_runV (As := [.int a1, .int a2, .int a3]) (rest := []) ⟨hx, hb, hml, hown, htl⟩ (c_X4_perform l D cI cJ cZ n qT H.size zT a1 a2 a3 u40 hu40) (cwV 3 htl (gV W_352 W_353 W_354 W_14 W_355) rfl rfl rfl (by decide +kernel) ⟨Nat.le_of_ble_eq_true rfl, Nat.le_of_ble_eq_true rfl⟩) (xPV hPc hDc hK hN 0 rfl rfl) rfl rfl hl.1 rfl (lv_room (Nat.le_of_ble_eq_true rfl)) (dAt zX1_attempt_0 22 rfl) ⟨Nat.zero_le _, Nat.zero_le _⟩) hS hA hP hD [1, 2, 3, 4, 5] [0] [0, 1, 2, 3, 4, 5] rfl rfl (by decide) (by decide) rfl (by decide) (fun H locs hP hD hS => ?_)
      refine lv_aload_n hx hb (dAt zX1_attempt_0 23 rfl) rfl (lv_at hl 1 rfl) ?_
      refine lv_dup hx hb (dAt zX1_attempt_0 24 rfl) rfl ?_
      refine va_get (D := D) (ci := 1) (v := .int (zC 0 1)) (C := RX1) (T := TX1) (N := 7) hx hb htl inlX1 hown hK hP 0 rfl rfl 1 (by decide) (htl _ W_59) (fun _ h9 => h9) rfl (dAt zX1_attempt_0 25 rfl) ?_
      refine lv_iconst (v := 1) hx hb (dAt zX1_attempt_0 26 rfl) (by decide) ?_
      refine lv_iadd hx hb (dAt zX1_attempt_0 27 rfl) ?_
      refine va_put (D := D) (ci := 1) (v := .int ((zC 0 1) + (1 : Int32))) (ty := .int) (C := RX1) (T := TX1) (N := 7) hx hb htl inlX1 tyX1 tyX1_ok nmX1 hown hK hP hD hS 0 rfl rfl 1 (by decide) (htl _ W_59) (fun _ h9 => h9) rfl (by decide +kernel) rfl rfl (Nat.le_of_ble_eq_true rfl) (dAt zX1_attempt_0 28 rfl) (fun H locs hP hD hS => ?_)
      have hP : va_P D vwCl (w1x qC qT ((zC 0 1) + (1 : Int32)) (zC 0 2) (zC 0 3) (zC 0 4) (zC 0 5) (zC 0 6) ++ (w4 cI qT u40)) H := hP
      have hD : va_D A (w1x qC qT ((zC 0 1) + (1 : Int32)) (zC 0 2) (zC 0 3) (zC 0 4) (zC 0 5) (zC 0 6) ++ (w4 cI qT u40)) := hD
      refine lv_iconst (v := 0) hx hb (dAt zX1_attempt_0 29 rfl) (by decide) ?_
      have hP : va_P D vwCl (w1 qC qT (sf zC 1 ((zC 0 1) + (1 : Int32))) ++ (w4 cI qT u40)) H := hP
      have hD : va_D A (w1 qC qT (sf zC 1 ((zC 0 1) + (1 : Int32))) ++ (w4 cI qT u40)) := hD
      obtain rfl := q_some h
      exact xRi hx hb hr hlocks hQ hAe hP hD hK hS rfl (dAt zX1_attempt_0 30 rfl)
    · have h := q_pos c_23 h
      refine lv_aload_n hx hb (dAt zX1_attempt_0 14 rfl) rfl (lv_at hl 1 rfl) ?_
      obtain ⟨u27, hu27, h⟩ := q_bind h
      refine xFv (wc := (w1 qC qT zC ++ (w4 cI qT zT))) (w1 := (w1 qC qT u27.1 ++ (w4 cI qT u27.2))) (wr := ([] : va_W)) (ws2 := (w1 qC qT u27.1 ++ (w4 cI qT u27.2))) (va_runV (As := []) (rest := []) ⟨hx, hb, hml, hown, htl⟩ (c_X1_runTrain l D cI cJ cZ n qC qT H.size zC zT  u27 hu27) (cwV 0 htl (gV W_318 W_319 W_320 W_25 W_321) rfl rfl rfl (by decide +kernel) ⟨Nat.le_of_ble_eq_true rfl, Nat.le_of_ble_eq_true rfl⟩) (xPV hP hD hK hN 0 rfl rfl) rfl rfl hl.1 rfl (lv_room (Nat.le_of_ble_eq_true rfl)) (dAt zX1_attempt_0 15 rfl) ⟨Nat.zero_le _, Nat.zero_le _⟩) hS hA hP hD [0, 1, 2, 3, 4, 5] [] [0, 1, 2, 3, 4, 5] rfl rfl (by decide) (by decide) rfl (by decide) (fun H locs hP hD hS => ?_)
      refine lv_goto (tgt := 43) hx hb (dAt zX1_attempt_0 16 rfl) (by decide) ?_
      refine lv_aload_n hx hb (dAt zX1_attempt_0 23 rfl) rfl (lv_at hl 1 rfl) ?_
      refine lv_dup hx hb (dAt zX1_attempt_0 24 rfl) rfl ?_
      refine va_get (D := D) (ci := 1) (v := .int (u27.1 0 1)) (C := RX1) (T := TX1) (N := 7) hx hb htl inlX1 hown hK hP 0 rfl rfl 1 (by decide) (htl _ W_59) (fun _ h9 => h9) rfl (dAt zX1_attempt_0 25 rfl) ?_
      refine lv_iconst (v := 1) hx hb (dAt zX1_attempt_0 26 rfl) (by decide) ?_
      refine lv_iadd hx hb (dAt zX1_attempt_0 27 rfl) ?_
      refine va_put (D := D) (ci := 1) (v := .int ((u27.1 0 1) + (1 : Int32))) (ty := .int) (C := RX1) (T := TX1) (N := 7) hx hb htl inlX1 tyX1 tyX1_ok nmX1 hown hK hP hD hS 0 rfl rfl 1 (by decide) (htl _ W_59) (fun _ h9 => h9) rfl (by decide +kernel) rfl rfl (Nat.le_of_ble_eq_true rfl) (dAt zX1_attempt_0 28 rfl) (fun H locs hP hD hS => ?_)
      have hP : va_P D vwCl (w1x qC qT ((u27.1 0 1) + (1 : Int32)) (u27.1 0 2) (u27.1 0 3) (u27.1 0 4) (u27.1 0 5) (u27.1 0 6) ++ (w4 cI qT u27.2)) H := hP
      have hD : va_D A (w1x qC qT ((u27.1 0 1) + (1 : Int32)) (u27.1 0 2) (u27.1 0 3) (u27.1 0 4) (u27.1 0 5) (u27.1 0 6) ++ (w4 cI qT u27.2)) := hD
      refine lv_iconst (v := 0) hx hb (dAt zX1_attempt_0 29 rfl) (by decide) ?_
      have hP : va_P D vwCl (w1 qC qT (sf u27.1 1 ((u27.1 0 1) + (1 : Int32))) ++ (w4 cI qT u27.2)) H := hP
      have hD : va_D A (w1 qC qT (sf u27.1 1 ((u27.1 0 1) + (1 : Int32))) ++ (w4 cI qT u27.2)) := hD
      obtain rfl := q_some h
      exact xRi hx hb hr hlocks hQ hAe hP hD hK hS rfl (dAt zX1_attempt_0 30 rfl)
  · have h := q_neg c_14 h
    refine lv_iload hx hb (dAt zX1_attempt_0 9 rfl) (lv_at hl 0 rfl) ?_
    obtain rfl := q_some h
    exact xRi hx hb hr hlocks hQ hAe hP hD hK hS rfl (dAt zX1_attempt_0 10 rfl)
def m_X2_lengthOf (n : Nat) (a1 : Int32) : Option Int32 := ((m_X2_isOfNobody n  a1).bind fun u1 => (if u1 = 0 then ((m_X2_isOfTwo n  a1).bind fun u10 => (if u10 = 0 then some 2 else some 3)) else some 1))
set_option maxHeartbeats 4000000 in
set_option maxRecDepth 100000 in
theorem c_X2_lengthOf (l : Launch) (D : va_G) (cI cJ cZ : ClassId) (n : Nat)  (sz : Nat) (a1 : Int32) (out : Int32) (hm : m_X2_lengthOf n a1 = some out) : Met l yX2_lengthOf (wsM yX2_lengthOf cX2_lengthOf 1 (some .int)) { frames := 1, cells := 0, slots := 0, locals := 20 } (xPre D (kT cI cJ cZ) ([] : va_W) sz [.int a1]) (xQi D (kT cI cJ cZ) ([] : va_W) ([] : va_W) sz out) 0 0 (va_A ([] : va_W) sz) := by
  refine Met.ofW (cc := cX2_lengthOf) (maxL := 1) (ret := (some .int)) (by decide) rfl ?_
  intro p e s m args below meth c s₁ B hml hv
  obtain ⟨hv, hsz, hP, hK, hD0, hN⟩ := hv
  have hx := B.exec; have hb := B.bytes; have hr := B.returns
  have hts := atoms_spec (ws := (wsM yX2_lengthOf cX2_lengthOf 1 (some .int))) B.pre
  have hown : s.vm.findClass RX2 = some m.cls := findClass_of_methodNamed B.named
  have hlocks := B.notSynchronized
  subst hsz
  have hD := hD0.self (sz := s.heap.size)
  obtain ⟨A, hAe⟩ : ∃ A, A = va_A ([] : va_W) s.heap.size := ⟨_, rfl⟩
  rw [← hAe] at hD
  have hA : ∀ q : Nat, s.heap.size ≤ q → A q := fun q h => by rw [hAe]; exact Or.inr h
  have htl : ∀ w ∈ wsL_law, w.before args s = true := fun w h => hts w (List.mem_cons_of_mem _ h)
  refine xHead (R' := { frames := 1, cells := 0, slots := 0, locals := 20 }) rfl (fun Q H hQ hH => ?_)
  have hP : va_P D vwCl ([] : va_W) H := by rw [hH]; exact hP
  have hS : va_S A s.heap H [] := by rw [hH]; exact va_S.rf
  refine xStart hv (Nat.le_of_ble_eq_true rfl) (lv := [(0, .int a1)]) rfl (fun ls hl => ?_)
  have h := hm
  unfold m_X2_lengthOf at h
  refine lv_iload_n hx hb (dAt zX2_lengthOf_0 0 rfl) rfl (lv_at hl 0 rfl) ?_
  obtain ⟨u1, hu1, h⟩ := q_bind h
  refine xFz (wc := ([] : va_W)) (w1 := ([] : va_W)) (wr := ([] : va_W)) (ws2 := ([] : va_W)) (va_runS (As := [.int a1]) (rest := []) ⟨hx, hb, hml, hown, htl⟩ (c_X2_isOfNobody l D cI cJ cZ n  H.size  a1 u1 hu1) (va_cwS 1 htl (gS W_229 W_230 W_21 W_231) rfl rfl rfl (by decide +kernel) ⟨Nat.le_of_ble_eq_true rfl, Nat.le_of_ble_eq_true rfl⟩) (xPS hP hD hK hN) rfl rfl hl.1 rfl (lv_room (Nat.le_of_ble_eq_true rfl)) (dAt zX2_lengthOf_0 1 rfl) ⟨Nat.zero_le _, Nat.zero_le _⟩) hS hA hP hD [] [] [] rfl rfl (by decide) (by decide) rfl (by decide) (fun H locs hz1 hP hD hS => ?_)
  refine lv_if_eq (tgt := 9) hx hb (dAt zX2_lengthOf_0 2 rfl) (by decide) (fun c_4 => ?_) (fun c_4 => ?_)
  · have h := q_pos c_4 h
    refine lv_iload_n hx hb (dAt zX2_lengthOf_0 5 rfl) rfl (lv_at hl 0 rfl) ?_
    obtain ⟨u10, hu10, h⟩ := q_bind h
    refine xFz (wc := ([] : va_W)) (w1 := ([] : va_W)) (wr := ([] : va_W)) (ws2 := ([] : va_W)) (va_runS (As := [.int a1]) (rest := []) ⟨hx, hb, hml, hown, htl⟩ (c_X2_isOfTwo l D cI cJ cZ n  H.size  a1 u10 hu10) (va_cwS 1 htl (gS W_226 W_227 W_21 W_228) rfl rfl rfl (by decide +kernel) ⟨Nat.le_of_ble_eq_true rfl, Nat.le_of_ble_eq_true rfl⟩) (xPS hP hD hK hN) rfl rfl hl.1 rfl (lv_room (Nat.le_of_ble_eq_true rfl)) (dAt zX2_lengthOf_0 6 rfl) ⟨Nat.zero_le _, Nat.zero_le _⟩) hS hA hP hD [] [] [] rfl rfl (by decide) (by decide) rfl (by decide) (fun H locs hz10 hP hD hS => ?_)
    refine lv_if_eq (tgt := 20) hx hb (dAt zX2_lengthOf_0 7 rfl) (by decide) (fun c_13 => ?_) (fun c_13 => ?_)
    · have h := q_pos c_13 h
      refine lv_iconst (v := 2) hx hb (dAt zX2_lengthOf_0 10 rfl) (by decide) ?_
      obtain rfl := q_some h
      exact xRi hx hb hr hlocks hQ hAe hP hD hK hS rfl (dAt zX2_lengthOf_0 11 rfl)
    · have h := q_neg c_13 h
      refine lv_iconst (v := 3) hx hb (dAt zX2_lengthOf_0 8 rfl) (by decide) ?_
      refine lv_goto (tgt := 21) hx hb (dAt zX2_lengthOf_0 9 rfl) (by decide) ?_
      obtain rfl := q_some h
      exact xRi hx hb hr hlocks hQ hAe hP hD hK hS rfl (dAt zX2_lengthOf_0 11 rfl)
  · have h := q_neg c_4 h
    refine lv_iconst (v := 1) hx hb (dAt zX2_lengthOf_0 3 rfl) (by decide) ?_
    obtain rfl := q_some h
    exact xRi hx hb hr hlocks hQ hAe hP hD hK hS rfl (dAt zX2_lengthOf_0 4 rfl)
def b_X1_play_22 (n : Nat) (zP : TI) (s_22 : Int32 × Int32 × TI × TI) (k_22 : Int32 × Int32 × TI × TI → Option (Int32 × TI × TI)) : Option (Int32 × TI × TI) := (if 60 ≤ s_22.2.1 then some (0, s_22.2.2.1, s_22.2.2.2) else (if (zP 0 1) ≤ s_22.1 then some (0, s_22.2.2.1, s_22.2.2.2) else ((m_X2_deedFrom n zP s_22.1).bind fun u39 => ((m_X2_signAt n zP s_22.1).bind fun u50 => ((m_X2_signAt n zP (s_22.1 + (2 : Int32))).bind fun u60 => ((m_X1_attempt n s_22.2.2.1 s_22.2.2.2 u39 (u50 - (65 : Int32)) (u60 - (65 : Int32))).bind fun u66 => (if u66.1 = 0 then ((m_X2_lengthOf n  u39).bind fun u85 => (k_22 ((s_22.1 + u85), (s_22.2.1 + 1), (sf u66.2.1 2 u66.1), u66.2.2))) else some ((-3), (sf u66.2.1 2 u66.1), u66.2.2))))))))
def m_X1_play (n : Nat) (zC : TI) (zT : TI) (zP : TI) (zU : TI) : Option (Int32 × TI × TI) := ((m_X2_firstFault n zP).bind fun u1 => (if u1 = (-6) then ((m_X1_startFrom n zC zT zU).bind fun u14 => (loopF (b_X1_play_22 n zP ) n (0, 0, u14.1, u14.2))) else some ((-5), zC, zT)))
set_option maxHeartbeats 4000000 in
set_option maxRecDepth 100000 in
theorem c_X1_play (l : Launch) (D : va_G) (cI cJ cZ : ClassId) (n : Nat) (qC : Nat → Nat) (qT : Nat → Nat) (qP : Nat → Nat) (qU : Nat → Nat) (sz : Nat) (zC : TI) (zT : TI) (zP : TI) (zU : TI) (out : Int32 × TI × TI) (hm : m_X1_play n zC zT zP zU = some out) : Met l yX1_play (wsM yX1_play cX1_play 6 (some .int)) { frames := 5, cells := 0, slots := 0, locals := 115 } (xPre D (kT cI cJ cZ) (w1 qC qT zC ++ (w4 cI qT zT ++ (w2 cI qP zP ++ (w4 cI qU zU)))) sz [.ref (qC 0), .ref (qP 0), .ref (qU 0)]) (xQi D (kT cI cJ cZ) (w1 qC qT zC ++ (w4 cI qT zT ++ (w2 cI qP zP ++ (w4 cI qU zU)))) (w1 qC qT out.2.1 ++ (w4 cI qT out.2.2 ++ (w2 cI qP zP ++ (w4 cI qU zU)))) sz out.1) 0 0 (va_A (w1 qC qT zC ++ (w4 cI qT zT ++ (w2 cI qP zP ++ (w4 cI qU zU)))) sz) := by
  refine Met.ofW (cc := cX1_play) (maxL := 6) (ret := (some .int)) (by decide) rfl ?_
  intro p e s m args below meth c s₁ B hml hv
  obtain ⟨hv, hsz, hP, hK, hD0, hN⟩ := hv
  have hx := B.exec; have hb := B.bytes; have hr := B.returns
  have hts := atoms_spec (ws := (wsM yX1_play cX1_play 6 (some .int))) B.pre
  have hown : s.vm.findClass RX1 = some m.cls := findClass_of_methodNamed B.named
  have hlocks := B.notSynchronized
  subst hsz
  have hD := hD0.self (sz := s.heap.size)
  obtain ⟨A, hAe⟩ : ∃ A, A = va_A (w1 qC qT zC ++ (w4 cI qT zT ++ (w2 cI qP zP ++ (w4 cI qU zU)))) s.heap.size := ⟨_, rfl⟩
  rw [← hAe] at hD
  have hA : ∀ q : Nat, s.heap.size ≤ q → A q := fun q h => by rw [hAe]; exact Or.inr h
  have htl : ∀ w ∈ wsL_law, w.before args s = true := fun w h => hts w (List.mem_cons_of_mem _ h)
  refine xHead (R' := { frames := 5, cells := 0, slots := 0, locals := 115 }) rfl (fun Q H hQ hH => ?_)
  have hP : va_P D vwCl (w1 qC qT zC ++ (w4 cI qT zT ++ (w2 cI qP zP ++ (w4 cI qU zU)))) H := by rw [hH]; exact hP
  have hS : va_S A s.heap H [] := by rw [hH]; exact va_S.rf
  refine xStart hv (Nat.le_of_ble_eq_true rfl) (lv := [(0, .ref (qC 0)), (1, .ref (qP 0)), (2, .ref (qU 0))]) rfl (fun ls hl => ?_)
  have h := hm
  unfold m_X1_play at h
  refine lv_aload_n hx hb (dAt zX1_play_0 0 rfl) rfl (lv_at hl 1 rfl) ?_
  obtain ⟨u1, hu1, h⟩ := q_bind h
  have hPc : va_P D vwCl (w2 cI qP zP) H := hP.sub [6, 7] rfl
  have hDc : va_D A (w2 cI qP zP) := hD.sub [6, 7] (by decide) rfl
  refine xFi (wc := (w2 cI qP zP)) (w1 := (w2 cI qP zP)) (wr := (w1 qC qT zC ++ (w4 cI qT zT ++ (w4 cI qU zU)))) (ws2 := (w1 qC qT zC ++ (w4 cI qT zT ++ (w2 cI qP zP ++ (w4 cI qU zU))))) (va_runV (As := []) (rest := []) ⟨hx, hb, hml, hown, htl⟩ (c_X2_firstFault l D cI cJ cZ n qP H.size zP  u1 hu1) (cwV 0 htl (gV W_272 W_216 W_217 W_21 W_218) rfl rfl rfl (by decide +kernel) ⟨Nat.le_of_ble_eq_true rfl, Nat.le_of_ble_eq_true rfl⟩) (xPV hPc hDc hK hN 0 rfl rfl) rfl rfl hl.1 rfl (lv_room (Nat.le_of_ble_eq_true rfl)) (dAt zX1_play_0 1 rfl) ⟨Nat.zero_le _, Nat.zero_le _⟩) hS hA hP hD [6, 7] [0, 1, 2, 3, 4, 5, 8, 9, 10, 11, 12] [0, 1, 2, 3, 4, 5, 11, 12, 6, 7, 8, 9, 10] rfl rfl (by decide) (by decide) rfl (by decide) (fun H locs hP hD hS => ?_)
  refine lv_bipush (v := (-6)) hx hb (dAt zX1_play_0 2 rfl) (by decide) ?_
  refine lv_icmp_eq (tgt := 12) hx hb (dAt zX1_play_0 3 rfl) (by decide) (fun c_6 => ?_) (fun c_6 => ?_)
  · have h := q_pos c_6 h
    refine lv_aload_n hx hb (dAt zX1_play_0 6 rfl) rfl (lv_at hl 0 rfl) ?_
    refine lv_aload_n hx hb (dAt zX1_play_0 7 rfl) rfl (lv_at hl 2 rfl) ?_
    obtain ⟨u14, hu14, h⟩ := q_bind h
    have hPc : va_P D vwCl (w1 qC qT zC ++ (w4 cI qT zT ++ (w4 cI qU zU))) H := hP.sub [0, 1, 2, 3, 4, 5, 8, 9, 10, 11, 12] rfl
    have hDc : va_D A (w1 qC qT zC ++ (w4 cI qT zT ++ (w4 cI qU zU))) := hD.sub [0, 1, 2, 3, 4, 5, 8, 9, 10, 11, 12] (by decide) rfl
    refine xFv (wc := (w1 qC qT zC ++ (w4 cI qT zT ++ (w4 cI qU zU)))) (w1 := (w1 qC qT u14.1 ++ (w4 cI qT u14.2 ++ (w4 cI qU zU)))) (wr := (w2 cI qP zP)) (ws2 := (w1 qC qT u14.1 ++ (w4 cI qT u14.2 ++ (w2 cI qP zP ++ (w4 cI qU zU))))) (va_runV (As := [.ref (qU 0)]) (rest := []) ⟨hx, hb, hml, hown, htl⟩ (c_X1_startFrom l D cI cJ cZ n qC qT qU H.size zC zT zU  u14 hu14) (cwV 1 htl (gV W_273 W_274 W_275 W_25 W_276) rfl rfl rfl (by decide +kernel) ⟨Nat.le_of_ble_eq_true rfl, Nat.le_of_ble_eq_true rfl⟩) (xPV hPc hDc hK hN 0 rfl rfl) rfl rfl hl.1 rfl (lv_room (Nat.le_of_ble_eq_true rfl)) (dAt zX1_play_0 8 rfl) ⟨Nat.zero_le _, Nat.zero_le _⟩) hS hA hP hD [0, 1, 2, 3, 4, 5, 8, 9, 10, 11, 12] [6, 7] [2, 3, 4, 5, 6, 7, 0, 1, 8, 9, 10, 11, 12] rfl rfl (by decide) (by decide) rfl (by decide) (fun H locs hP hD hS => ?_)
    refine lv_iconst (v := 0) hx hb (dAt zX1_play_0 9 rfl) (by decide) ?_
    refine lv_istore_n (lv' := [(3, .int 0), (0, .ref (qC 0)), (1, .ref (qP 0)), (2, .ref (qU 0))]) hx hb (dAt zX1_play_0 10 rfl) rfl hl (by decide) rfl (fun ls hl => ?_)
    refine lv_iconst (v := 0) hx hb (dAt zX1_play_0 11 rfl) (by decide) ?_
    refine lv_istore (lv' := [(4, .int 0), (3, .int 0), (0, .ref (qC 0)), (1, .ref (qP 0)), (2, .ref (qU 0))]) hx hb (dAt zX1_play_0 12 rfl) hl (by decide) rfl (fun ls hl => ?_)
    have L_22 : ∀ (j_22 : Nat) (v3_22 : Int32) (v4_22 : Int32) (zC_22 : TI) (zT_22 : TI) (H : Heap) (locs : List Loc) (ls : Array Slot), loopF (b_X1_play_22 n zP) j_22 (v3_22, v4_22, zC_22, zT_22) = some out → va_P D vwCl (w1 qC qT zC_22 ++ (w4 cI qT zT_22 ++ (w2 cI qP zP ++ (w4 cI qU zU)))) H → va_D A (w1 qC qT zC_22 ++ (w4 cI qT zT_22 ++ (w2 cI qP zP ++ (w4 cI qU zU)))) → va_S A s.heap H locs → lv_has ls 6 [(0, .ref (qC 0)), (1, .ref (qP 0)), (3, .int v3_22), (4, .int v4_22)] → W p l e { frames := 5, cells := 0, slots := 0, locals := 115 } s m args below meth c H locs 0 0 Q (F0 m 22 ls []) := by
      intro j_22
      induction j_22 with
      | zero => intro v3_22 v4_22 zC_22 zT_22 H locs ls h hP hD hS hl; exact loopF_0 h
      | succ j_22 ih_22 =>
        intro v3_22 v4_22 zC_22 zT_22 H locs ls h hP hD hS hl
        have h := loopF_s h
        unfold b_X1_play_22 at h
        refine lv_iload hx hb (dAt zX1_play_0 13 rfl) (lv_at hl 3 rfl) ?_
        refine lv_bipush (v := 60) hx hb (dAt zX1_play_0 14 rfl) (by decide) ?_
        refine lv_icmp_ge (tgt := 96) hx hb (dAt zX1_play_0 15 rfl) (by decide) (fun c_26 => ?_) (fun c_26 => ?_)
        · have h := q_pos c_26 h
          refine lv_iconst (v := 0) hx hb (dAt zX1_play_0 53 rfl) (by decide) ?_
          obtain rfl := q_some h
          exact xRi hx hb hr hlocks hQ hAe hP hD hK hS rfl (dAt zX1_play_0 54 rfl)
        · have h := q_neg c_26 h
          refine lv_iload_n hx hb (dAt zX1_play_0 16 rfl) rfl (lv_at hl 2 rfl) ?_
          refine lv_aload_n hx hb (dAt zX1_play_0 17 rfl) rfl (lv_at hl 1 rfl) ?_
          refine va_get (D := D) (ci := 2) (v := .int (zP 0 1)) (C := RX2) (T := TX2) (N := 2) hx hb htl inlX2 hown hK hP 6 rfl rfl 1 (by decide) (htl _ W_271) (fun _ h9 => h9) rfl (dAt zX1_play_0 18 rfl) ?_
          refine lv_icmp_ge (tgt := 96) hx hb (dAt zX1_play_0 19 rfl) (by decide) (fun c_34 => ?_) (fun c_34 => ?_)
          · have h := q_pos c_34 h
            refine lv_iconst (v := 0) hx hb (dAt zX1_play_0 53 rfl) (by decide) ?_
            obtain rfl := q_some h
            exact xRi hx hb hr hlocks hQ hAe hP hD hK hS rfl (dAt zX1_play_0 54 rfl)
          · have h := q_neg c_34 h
            refine lv_aload_n hx hb (dAt zX1_play_0 20 rfl) rfl (lv_at hl 1 rfl) ?_
            refine lv_iload_n hx hb (dAt zX1_play_0 21 rfl) rfl (lv_at hl 2 rfl) ?_
            obtain ⟨u39, hu39, h⟩ := q_bind h
            have hPc : va_P D vwCl (w2 cI qP zP) H := hP.sub [6, 7] rfl
            have hDc : va_D A (w2 cI qP zP) := hD.sub [6, 7] (by decide) rfl
            refine xFi (wc := (w2 cI qP zP)) (w1 := (w2 cI qP zP)) (wr := (w1 qC qT zC_22 ++ (w4 cI qT zT_22 ++ (w4 cI qU zU)))) (ws2 := (w1 qC qT zC_22 ++ (w4 cI qT zT_22 ++ (w2 cI qP zP ++ (w4 cI qU zU))))) (va_runV (As := [.int v3_22]) (rest := []) ⟨hx, hb, hml, hown, htl⟩ (c_X2_deedFrom l D cI cJ cZ n qP H.size zP v3_22 u39 hu39) (cwV 1 htl (gV W_284 W_285 W_286 W_21 W_287) rfl rfl rfl (by decide +kernel) ⟨Nat.le_of_ble_eq_true rfl, Nat.le_of_ble_eq_true rfl⟩) (xPV hPc hDc hK hN 0 rfl rfl) rfl rfl hl.1 rfl (lv_room (Nat.le_of_ble_eq_true rfl)) (dAt zX1_play_0 22 rfl) ⟨Nat.zero_le _, Nat.zero_le _⟩) hS hA hP hD [6, 7] [0, 1, 2, 3, 4, 5, 8, 9, 10, 11, 12] [0, 1, 2, 3, 4, 5, 11, 12, 6, 7, 8, 9, 10] rfl rfl (by decide) (by decide) rfl (by decide) (fun H locs hP hD hS => ?_)
            refine lv_istore (lv' := [(5, .int u39), (0, .ref (qC 0)), (1, .ref (qP 0)), (3, .int v3_22), (4, .int v4_22)]) hx hb (dAt zX1_play_0 23 rfl) hl (by decide) rfl (fun ls hl => ?_)
            refine lv_aload_n hx hb (dAt zX1_play_0 24 rfl) rfl (lv_at hl 1 rfl) ?_
            refine lv_aload_n hx hb (dAt zX1_play_0 25 rfl) rfl (lv_at hl 1 rfl) ?_
            refine lv_iload hx hb (dAt zX1_play_0 26 rfl) (lv_at hl 0 rfl) ?_
            refine lv_aload_n hx hb (dAt zX1_play_0 27 rfl) rfl (lv_at hl 2 rfl) ?_
            refine lv_iload_n hx hb (dAt zX1_play_0 28 rfl) rfl (lv_at hl 3 rfl) ?_
            obtain ⟨u50, hu50, h⟩ := q_bind h
            have hPc : va_P D vwCl (w2 cI qP zP) H := hP.sub [6, 7] rfl
            have hDc : va_D A (w2 cI qP zP) := hD.sub [6, 7] (by decide) rfl
            refine xFi (wc := (w2 cI qP zP)) (w1 := (w2 cI qP zP)) (wr := (w1 qC qT zC_22 ++ (w4 cI qT zT_22 ++ (w4 cI qU zU)))) (ws2 := (w1 qC qT zC_22 ++ (w4 cI qT zT_22 ++ (w2 cI qP zP ++ (w4 cI qU zU))))) (va_runV (As := [.int v3_22]) (rest := [.int u39, .ref (qC 0), .ref (qC 0)]) ⟨hx, hb, hml, hown, htl⟩ (c_X2_signAt l D cI cJ cZ n qP H.size zP v3_22 u50 hu50) (cwV 1 htl (gV W_288 W_220 W_221 W_21 W_222) rfl rfl rfl (by decide +kernel) ⟨Nat.le_of_ble_eq_true rfl, Nat.le_of_ble_eq_true rfl⟩) (xPV hPc hDc hK hN 0 rfl rfl) rfl rfl hl.1 rfl (lv_room (Nat.le_of_ble_eq_true rfl)) (dAt zX1_play_0 29 rfl) ⟨Nat.zero_le _, Nat.zero_le _⟩) hS hA hP hD [6, 7] [0, 1, 2, 3, 4, 5, 8, 9, 10, 11, 12] [0, 1, 2, 3, 4, 5, 11, 12, 6, 7, 8, 9, 10] rfl rfl (by decide) (by decide) rfl (by decide) (fun H locs hP hD hS => ?_)
            refine lv_bipush (v := 65) hx hb (dAt zX1_play_0 30 rfl) (by decide) ?_
            refine lv_isub hx hb (dAt zX1_play_0 31 rfl) ?_
            refine lv_aload_n hx hb (dAt zX1_play_0 32 rfl) rfl (lv_at hl 2 rfl) ?_
            refine lv_iload_n hx hb (dAt zX1_play_0 33 rfl) rfl (lv_at hl 3 rfl) ?_
            refine lv_iconst (v := 2) hx hb (dAt zX1_play_0 34 rfl) (by decide) ?_
            refine lv_iadd hx hb (dAt zX1_play_0 35 rfl) ?_
            obtain ⟨u60, hu60, h⟩ := q_bind h
            have hPc : va_P D vwCl (w2 cI qP zP) H := hP.sub [6, 7] rfl
            have hDc : va_D A (w2 cI qP zP) := hD.sub [6, 7] (by decide) rfl
            refine xFi (wc := (w2 cI qP zP)) (w1 := (w2 cI qP zP)) (wr := (w1 qC qT zC_22 ++ (w4 cI qT zT_22 ++ (w4 cI qU zU)))) (ws2 := (w1 qC qT zC_22 ++ (w4 cI qT zT_22 ++ (w2 cI qP zP ++ (w4 cI qU zU))))) (va_runV (As := [.int (v3_22 + (2 : Int32))]) (rest := [.int (u50 - (65 : Int32)), .int u39, .ref (qC 0), .ref (qC 0)]) ⟨hx, hb, hml, hown, htl⟩ (c_X2_signAt l D cI cJ cZ n qP H.size zP (v3_22 + (2 : Int32)) u60 hu60) (cwV 1 htl (gV W_288 W_220 W_221 W_21 W_222) rfl rfl rfl (by decide +kernel) ⟨Nat.le_of_ble_eq_true rfl, Nat.le_of_ble_eq_true rfl⟩) (xPV hPc hDc hK hN 0 rfl rfl) rfl rfl hl.1 rfl (lv_room (Nat.le_of_ble_eq_true rfl)) (dAt zX1_play_0 36 rfl) ⟨Nat.zero_le _, Nat.zero_le _⟩) hS hA hP hD [6, 7] [0, 1, 2, 3, 4, 5, 8, 9, 10, 11, 12] [0, 1, 2, 3, 4, 5, 11, 12, 6, 7, 8, 9, 10] rfl rfl (by decide) (by decide) rfl (by decide) (fun H locs hP hD hS => ?_)
            refine lv_bipush (v := 65) hx hb (dAt zX1_play_0 37 rfl) (by decide) ?_
            refine lv_isub hx hb (dAt zX1_play_0 38 rfl) ?_
            obtain ⟨u66, hu66, h⟩ := q_bind h
            have hPc : va_P D vwCl (w1 qC qT zC_22 ++ (w4 cI qT zT_22)) H := hP.sub [0, 1, 2, 3, 4, 5] rfl
            have hDc : va_D A (w1 qC qT zC_22 ++ (w4 cI qT zT_22)) := hD.sub [0, 1, 2, 3, 4, 5] (by decide) rfl
            refine xFi (wc := (w1 qC qT zC_22 ++ (w4 cI qT zT_22))) (w1 := (w1 qC qT u66.2.1 ++ (w4 cI qT u66.2.2))) (wr := (w2 cI qP zP ++ (w4 cI qU zU))) (ws2 := (w1 qC qT u66.2.1 ++ (w4 cI qT u66.2.2 ++ (w2 cI qP zP ++ (w4 cI qU zU))))) (va_runV (As := [.int u39, .int (u50 - (65 : Int32)), .int (u60 - (65 : Int32))]) (rest := [.ref (qC 0)]) ⟨hx, hb, hml, hown, htl⟩ (c_X1_attempt l D cI cJ cZ n qC qT H.size zC_22 zT_22 u39 (u50 - (65 : Int32)) (u60 - (65 : Int32)) u66 hu66) (cwV 3 htl (gV W_289 W_290 W_291 W_25 W_292) rfl rfl rfl (by decide +kernel) ⟨Nat.le_of_ble_eq_true rfl, Nat.le_of_ble_eq_true rfl⟩) (xPV hPc hDc hK hN 0 rfl rfl) rfl rfl hl.1 rfl (lv_room (Nat.le_of_ble_eq_true rfl)) (dAt zX1_play_0 39 rfl) ⟨Nat.zero_le _, Nat.zero_le _⟩) hS hA hP hD [0, 1, 2, 3, 4, 5] [6, 7, 8, 9, 10, 11, 12] [7, 8, 9, 10, 11, 12, 0, 1, 2, 3, 4, 5, 6] rfl rfl (by decide) (by decide) rfl (by decide) (fun H locs hP hD hS => ?_)
            refine va_put (D := D) (ci := 1) (v := .int u66.1) (ty := .int) (C := RX1) (T := TX1) (N := 7) hx hb htl inlX1 tyX1 tyX1_ok nmX1 hown hK hP hD hS 0 rfl rfl 2 (by decide) (htl _ W_60) (fun _ h9 => h9) rfl (by decide +kernel) rfl rfl (Nat.le_of_ble_eq_true rfl) (dAt zX1_play_0 40 rfl) (fun H locs hP hD hS => ?_)
            have hP : va_P D vwCl (w1x qC qT (u66.2.1 0 1) u66.1 (u66.2.1 0 3) (u66.2.1 0 4) (u66.2.1 0 5) (u66.2.1 0 6) ++ (w4 cI qT u66.2.2 ++ (w2 cI qP zP ++ (w4 cI qU zU)))) H := hP
            have hD : va_D A (w1x qC qT (u66.2.1 0 1) u66.1 (u66.2.1 0 3) (u66.2.1 0 4) (u66.2.1 0 5) (u66.2.1 0 6) ++ (w4 cI qT u66.2.2 ++ (w2 cI qP zP ++ (w4 cI qU zU)))) := hD
            refine lv_aload_n hx hb (dAt zX1_play_0 41 rfl) rfl (lv_at hl 1 rfl) ?_
            refine va_get (D := D) (ci := 1) (v := .int u66.1) (C := RX1) (T := TX1) (N := 7) hx hb htl inlX1 hown hK hP 0 rfl rfl 2 (by decide) (htl _ W_60) (fun _ h9 => h9) rfl (dAt zX1_play_0 42 rfl) ?_
            refine lv_if_eq (tgt := 82) hx hb (dAt zX1_play_0 43 rfl) (by decide) (fun c_76 => ?_) (fun c_76 => ?_)
            · have h := q_pos c_76 h
              refine lv_iload_n hx hb (dAt zX1_play_0 46 rfl) rfl (lv_at hl 3 rfl) ?_
              refine lv_iload hx hb (dAt zX1_play_0 47 rfl) (lv_at hl 0 rfl) ?_
              have hP : va_P D vwCl (w1 qC qT (sf u66.2.1 2 u66.1) ++ (w4 cI qT u66.2.2 ++ (w2 cI qP zP ++ (w4 cI qU zU)))) H := hP
              have hD : va_D A (w1 qC qT (sf u66.2.1 2 u66.1) ++ (w4 cI qT u66.2.2 ++ (w2 cI qP zP ++ (w4 cI qU zU)))) := hD
              obtain ⟨u85, hu85, h⟩ := q_bind h
              refine xFi (wc := ([] : va_W)) (w1 := ([] : va_W)) (wr := (w1 qC qT (sf u66.2.1 2 u66.1) ++ (w4 cI qT u66.2.2 ++ (w2 cI qP zP ++ (w4 cI qU zU))))) (ws2 := (w1 qC qT (sf u66.2.1 2 u66.1) ++ (w4 cI qT u66.2.2 ++ (w2 cI qP zP ++ (w4 cI qU zU))))) (va_runS (As := [.int u39]) (rest := [.int v3_22]) ⟨hx, hb, hml, hown, htl⟩ (c_X2_lengthOf l D cI cJ cZ n  H.size  u39 u85 hu85) (va_cwS 1 htl (gS W_368 W_369 W_21 W_370) rfl rfl rfl (by decide +kernel) ⟨Nat.le_of_ble_eq_true rfl, Nat.le_of_ble_eq_true rfl⟩) (xPS xP0 (xD0 A) hK hN) rfl rfl hl.1 rfl (lv_room (Nat.le_of_ble_eq_true rfl)) (dAt zX1_play_0 48 rfl) ⟨Nat.zero_le _, Nat.zero_le _⟩) hS hA hP hD [] [0, 1, 2, 3, 4, 5, 6, 7, 8, 9, 10, 11, 12] [0, 1, 2, 3, 4, 5, 6, 7, 8, 9, 10, 11, 12] rfl rfl (by decide) (by decide) rfl (by decide) (fun H locs hP hD hS => ?_)
              refine lv_iadd hx hb (dAt zX1_play_0 49 rfl) ?_
              refine lv_istore_n (lv' := [(3, .int (v3_22 + u85)), (5, .int u39), (0, .ref (qC 0)), (1, .ref (qP 0)), (4, .int v4_22)]) hx hb (dAt zX1_play_0 50 rfl) rfl hl (by decide) rfl (fun ls hl => ?_)
              refine lv_iinc (v := (v4_22 + 1)) (lv' := [(4, .int (v4_22 + 1)), (3, .int (v3_22 + u85)), (5, .int u39), (0, .ref (qC 0)), (1, .ref (qP 0))]) hx hb (dAt zX1_play_0 51 rfl) hl (k := 4) rfl rfl (by decide) rfl (fun ls hl => ?_)
              refine lv_goto (tgt := 22) hx hb (dAt zX1_play_0 52 rfl) (by decide) ?_
              have hP : va_P D vwCl (w1 qC qT (sf u66.2.1 2 u66.1) ++ (w4 cI qT u66.2.2 ++ (w2 cI qP zP ++ (w4 cI qU zU)))) H := hP
              have hD : va_D A (w1 qC qT (sf u66.2.1 2 u66.1) ++ (w4 cI qT u66.2.2 ++ (w2 cI qP zP ++ (w4 cI qU zU)))) := hD
              exact ih_22 (v3_22 + u85) (v4_22 + 1) (sf u66.2.1 2 u66.1) u66.2.2 _ _ _ h hP hD hS (lv_sub hl [3, 4, 1, 0] rfl)
            · have h := q_neg c_76 h
              refine lv_bipush (v := (-3)) hx hb (dAt zX1_play_0 44 rfl) (by decide) ?_
              have hP : va_P D vwCl (w1 qC qT (sf u66.2.1 2 u66.1) ++ (w4 cI qT u66.2.2 ++ (w2 cI qP zP ++ (w4 cI qU zU)))) H := hP
              have hD : va_D A (w1 qC qT (sf u66.2.1 2 u66.1) ++ (w4 cI qT u66.2.2 ++ (w2 cI qP zP ++ (w4 cI qU zU)))) := hD
              obtain rfl := q_some h
              exact xRi hx hb hr hlocks hQ hAe hP hD hK hS rfl (dAt zX1_play_0 45 rfl)
    exact L_22 n 0 0 u14.1 u14.2 _ _ _ h hP hD hS (lv_sub hl [2, 3, 1, 0] rfl)
  · have h := q_neg c_6 h
    refine lv_bipush (v := (-5)) hx hb (dAt zX1_play_0 4 rfl) (by decide) ?_
    obtain rfl := q_some h
    exact xRi hx hb hr hlocks hQ hAe hP hD hK hS rfl (dAt zX1_play_0 5 rfl)
def m_X5_judge (n : Nat) (zX : TI) (zT : TI) (zI : TI) (zJ : TI) (zP : TI) (zC : TI) (zV : TI) (zF : TI) (zA : TL) (a1 : Int32) : Option (Int32 × TI × TI) := ((m_X5_isWithin n  a1 0 2).bind fun u3 => (if u3 = 0 then some ((-2), zC, zV) else ((m_X1_play n zC zV zP zT).bind fun u24 => (if u24.1 = (-5) then some (u24.1, u24.2.1, u24.2.2) else (if a1 = 2 then (if u24.1 = (-3) then some (u24.1, u24.2.1, u24.2.2) else (if a1 = 2 then some ((u24.2.1 0 3), u24.2.1, u24.2.2) else (if u24.1 = (-3) then (if a1 = 0 then some ((u24.2.1 0 1), u24.2.1, u24.2.2) else some ((u24.2.1 0 2), u24.2.1, u24.2.2)) else some ((-6), u24.2.1, u24.2.2)))) else (if a1 = 2 then some ((u24.2.1 0 3), u24.2.1, u24.2.2) else (if u24.1 = (-3) then (if a1 = 0 then some ((u24.2.1 0 1), u24.2.1, u24.2.2) else some ((u24.2.1 0 2), u24.2.1, u24.2.2)) else some ((-6), u24.2.1, u24.2.2))))))))
set_option maxHeartbeats 4000000 in
set_option maxRecDepth 100000 in
theorem c_X5_judge (l : Launch) (D : va_G) (cI cJ cZ : ClassId) (n : Nat) (qX : Nat → Nat) (qT : Nat → Nat) (qI : Nat → Nat) (qJ : Nat → Nat) (qP : Nat → Nat) (qC : Nat → Nat) (qV : Nat → Nat) (qF : Nat → Nat) (qA : Nat → Nat) (sz : Nat) (zX : TI) (zT : TI) (zI : TI) (zJ : TI) (zP : TI) (zC : TI) (zV : TI) (zF : TI) (zA : TL) (a1 : Int32) (out : Int32 × TI × TI) (hm : m_X5_judge n zX zT zI zJ zP zC zV zF zA a1 = some out) : Met l yX5_judge (wsM yX5_judge cX5_judge 3 (some .int)) { frames := 6, cells := 0, slots := 0, locals := 140 } (xPre D (kT cI cJ cZ) (w5 qX qT qI qJ qP qC qF qA zX ++ (w4 cI qT zT ++ (w4 cI qI zI ++ (w4 cI qJ zJ ++ (w2 cI qP zP ++ (w1 qC qV zC ++ (w4 cI qV zV ++ (w3 cI qF zF ++ (w0 cJ qA zA))))))))) sz [.ref (qX 0), .int a1]) (xQi D (kT cI cJ cZ) (w5 qX qT qI qJ qP qC qF qA zX ++ (w4 cI qT zT ++ (w4 cI qI zI ++ (w4 cI qJ zJ ++ (w2 cI qP zP ++ (w1 qC qV zC ++ (w4 cI qV zV ++ (w3 cI qF zF ++ (w0 cJ qA zA))))))))) (w5 qX qT qI qJ qP qC qF qA zX ++ (w4 cI qT zT ++ (w4 cI qI zI ++ (w4 cI qJ zJ ++ (w2 cI qP zP ++ (w1 qC qV out.2.1 ++ (w4 cI qV out.2.2 ++ (w3 cI qF zF ++ (w0 cJ qA zA))))))))) sz out.1) 0 0 (va_A (w5 qX qT qI qJ qP qC qF qA zX ++ (w4 cI qT zT ++ (w4 cI qI zI ++ (w4 cI qJ zJ ++ (w2 cI qP zP ++ (w1 qC qV zC ++ (w4 cI qV zV ++ (w3 cI qF zF ++ (w0 cJ qA zA))))))))) sz) := by
  refine Met.ofW (cc := cX5_judge) (maxL := 3) (ret := (some .int)) (by decide) rfl ?_
  intro p e s m args below meth c s₁ B hml hv
  obtain ⟨hv, hsz, hP, hK, hD0, hN⟩ := hv
  have hx := B.exec; have hb := B.bytes; have hr := B.returns
  have hts := atoms_spec (ws := (wsM yX5_judge cX5_judge 3 (some .int))) B.pre
  have hown : s.vm.findClass RX5 = some m.cls := findClass_of_methodNamed B.named
  have hlocks := B.notSynchronized
  subst hsz
  have hD := hD0.self (sz := s.heap.size)
  obtain ⟨A, hAe⟩ : ∃ A, A = va_A (w5 qX qT qI qJ qP qC qF qA zX ++ (w4 cI qT zT ++ (w4 cI qI zI ++ (w4 cI qJ zJ ++ (w2 cI qP zP ++ (w1 qC qV zC ++ (w4 cI qV zV ++ (w3 cI qF zF ++ (w0 cJ qA zA))))))))) s.heap.size := ⟨_, rfl⟩
  rw [← hAe] at hD
  have hA : ∀ q : Nat, s.heap.size ≤ q → A q := fun q h => by rw [hAe]; exact Or.inr h
  have htl : ∀ w ∈ wsL_law, w.before args s = true := fun w h => hts w (List.mem_cons_of_mem _ h)
  refine xHead (R' := { frames := 6, cells := 0, slots := 0, locals := 140 }) rfl (fun Q H hQ hH => ?_)
  have hP : va_P D vwCl (w5 qX qT qI qJ qP qC qF qA zX ++ (w4 cI qT zT ++ (w4 cI qI zI ++ (w4 cI qJ zJ ++ (w2 cI qP zP ++ (w1 qC qV zC ++ (w4 cI qV zV ++ (w3 cI qF zF ++ (w0 cJ qA zA))))))))) H := by rw [hH]; exact hP
  have hS : va_S A s.heap H [] := by rw [hH]; exact va_S.rf
  refine xStart hv (Nat.le_of_ble_eq_true rfl) (lv := [(0, .ref (qX 0)), (1, .int a1)]) rfl (fun ls hl => ?_)
  have h := hm
  unfold m_X5_judge at h
  refine lv_iload_n hx hb (dAt zX5_judge_0 0 rfl) rfl (lv_at hl 1 rfl) ?_
  refine lv_iconst (v := 0) hx hb (dAt zX5_judge_0 1 rfl) (by decide) ?_
  refine lv_iconst (v := 2) hx hb (dAt zX5_judge_0 2 rfl) (by decide) ?_
  obtain ⟨u3, hu3, h⟩ := q_bind h
  refine xFz (wc := ([] : va_W)) (w1 := ([] : va_W)) (wr := (w5 qX qT qI qJ qP qC qF qA zX ++ (w4 cI qT zT ++ (w4 cI qI zI ++ (w4 cI qJ zJ ++ (w2 cI qP zP ++ (w1 qC qV zC ++ (w4 cI qV zV ++ (w3 cI qF zF ++ (w0 cJ qA zA)))))))))) (ws2 := (w5 qX qT qI qJ qP qC qF qA zX ++ (w4 cI qT zT ++ (w4 cI qI zI ++ (w4 cI qJ zJ ++ (w2 cI qP zP ++ (w1 qC qV zC ++ (w4 cI qV zV ++ (w3 cI qF zF ++ (w0 cJ qA zA)))))))))) (va_runS (As := [.int a1, .int 0, .int 2]) (rest := []) ⟨hx, hb, hml, hown, htl⟩ (c_X5_isWithin l D cI cJ cZ n  H.size  a1 0 2 u3 hu3) (va_cwS 3 htl (gS W_110 W_111 W_2 W_112) rfl rfl rfl (by decide +kernel) ⟨Nat.le_of_ble_eq_true rfl, Nat.le_of_ble_eq_true rfl⟩) (xPS xP0 (xD0 A) hK hN) rfl rfl hl.1 rfl (lv_room (Nat.le_of_ble_eq_true rfl)) (dAt zX5_judge_0 3 rfl) ⟨Nat.zero_le _, Nat.zero_le _⟩) hS hA hP hD [] [0, 1, 2, 3, 4, 5, 6, 7, 8, 9, 10, 11, 12, 13, 14, 15, 16, 17, 18, 19, 20, 21, 22, 23, 24, 25, 26, 27, 28, 29] [0, 1, 2, 3, 4, 5, 6, 7, 8, 9, 10, 11, 12, 13, 14, 15, 16, 17, 18, 19, 20, 21, 22, 23, 24, 25, 26, 27, 28, 29] rfl rfl (by decide) (by decide) rfl (by decide) (fun H locs hz3 hP hD hS => ?_)
  refine lv_if_ne (tgt := 12) hx hb (dAt zX5_judge_0 4 rfl) (by decide) (fun c_6 => ?_) (fun c_6 => ?_)
  · have h := q_neg c_6 h
    refine lv_aload_n hx hb (dAt zX5_judge_0 7 rfl) rfl (lv_at hl 0 rfl) ?_
    refine va_get (D := D) (ci := 5) (v := .ref (qC 0)) (C := RX5) (T := TX5) (N := 8) hx hb htl inlX5 hown hK hP 0 rfl rfl 5 (by decide) (htl _ W_26) (fun _ h9 => h9) rfl (dAt zX5_judge_0 8 rfl) ?_
    refine lv_aload_n hx hb (dAt zX5_judge_0 9 rfl) rfl (lv_at hl 0 rfl) ?_
    refine va_get (D := D) (ci := 5) (v := .ref (qP 0)) (C := RX5) (T := TX5) (N := 8) hx hb htl inlX5 hown hK hP 0 rfl rfl 4 (by decide) (htl _ W_22) (fun _ h9 => h9) rfl (dAt zX5_judge_0 10 rfl) ?_
    refine lv_aload_n hx hb (dAt zX5_judge_0 11 rfl) rfl (lv_at hl 0 rfl) ?_
    refine va_get (D := D) (ci := 5) (v := .ref (qT 0)) (C := RX5) (T := TX5) (N := 8) hx hb htl inlX5 hown hK hP 0 rfl rfl 0 (by decide) (htl _ W_15) (fun _ h9 => h9) rfl (dAt zX5_judge_0 12 rfl) ?_
    obtain ⟨u24, hu24, h⟩ := q_bind h
    have hPc : va_P D vwCl (w1 qC qV zC ++ (w4 cI qV zV ++ (w2 cI qP zP ++ (w4 cI qT zT)))) H := hP.sub [18, 19, 20, 21, 22, 23, 16, 17, 1, 2, 3, 4, 5] rfl
    have hDc : va_D A (w1 qC qV zC ++ (w4 cI qV zV ++ (w2 cI qP zP ++ (w4 cI qT zT)))) := hD.sub [18, 19, 20, 21, 22, 23, 16, 17, 1, 2, 3, 4, 5] (by decide) rfl
    refine xFi (wc := (w1 qC qV zC ++ (w4 cI qV zV ++ (w2 cI qP zP ++ (w4 cI qT zT))))) (w1 := (w1 qC qV u24.2.1 ++ (w4 cI qV u24.2.2 ++ (w2 cI qP zP ++ (w4 cI qT zT))))) (wr := (w5 qX qT qI qJ qP qC qF qA zX ++ (w4 cI qI zI ++ (w4 cI qJ zJ ++ (w3 cI qF zF ++ (w0 cJ qA zA)))))) (ws2 := (w5 qX qT qI qJ qP qC qF qA zX ++ (w4 cI qT zT ++ (w4 cI qI zI ++ (w4 cI qJ zJ ++ (w2 cI qP zP ++ (w1 qC qV u24.2.1 ++ (w4 cI qV u24.2.2 ++ (w3 cI qF zF ++ (w0 cJ qA zA)))))))))) (va_runV (As := [.ref (qP 0), .ref (qT 0)]) (rest := []) ⟨hx, hb, hml, hown, htl⟩ (c_X1_play l D cI cJ cZ n qC qV qP qT H.size zC zV zP zT  u24 hu24) (cwV 2 htl (gV W_267 W_268 W_269 W_25 W_270) rfl rfl rfl (by decide +kernel) ⟨Nat.le_of_ble_eq_true rfl, Nat.le_of_ble_eq_true rfl⟩) (xPV hPc hDc hK hN 0 rfl rfl) rfl rfl hl.1 rfl (lv_room (Nat.le_of_ble_eq_true rfl)) (dAt zX5_judge_0 13 rfl) ⟨Nat.zero_le _, Nat.zero_le _⟩) hS hA hP hD [18, 19, 20, 21, 22, 23, 16, 17, 1, 2, 3, 4, 5] [0, 6, 7, 8, 9, 10, 11, 12, 13, 14, 15, 24, 25, 26, 27, 28, 29] [0, 25, 26, 27, 28, 29, 1, 2, 3, 4, 5, 6, 7, 8, 9, 10, 23, 24, 17, 18, 19, 20, 21, 22, 11, 12, 13, 14, 15, 16] rfl rfl (by decide) (by decide) rfl (by decide) (fun H locs hP hD hS => ?_)
    refine lv_istore_n (lv' := [(2, .int u24.1), (0, .ref (qX 0)), (1, .int a1)]) hx hb (dAt zX5_judge_0 14 rfl) rfl hl (by decide) rfl (fun ls hl => ?_)
    refine lv_iload_n hx hb (dAt zX5_judge_0 15 rfl) rfl (lv_at hl 0 rfl) ?_
    refine lv_bipush (v := (-5)) hx hb (dAt zX5_judge_0 16 rfl) (by decide) ?_
    refine lv_icmp_eq (tgt := 45) hx hb (dAt zX5_judge_0 17 rfl) (by decide) (fun c_31 => ?_) (fun c_31 => ?_)
    · have h := q_pos c_31 h
      refine lv_iload_n hx hb (dAt zX5_judge_0 24 rfl) rfl (lv_at hl 0 rfl) ?_
      obtain rfl := q_some h
      exact xRi hx hb hr hlocks hQ hAe hP hD hK hS rfl (dAt zX5_judge_0 25 rfl)
    · have h := q_neg c_31 h
      refine lv_iload_n hx hb (dAt zX5_judge_0 18 rfl) rfl (lv_at hl 2 rfl) ?_
      refine lv_iconst (v := 2) hx hb (dAt zX5_judge_0 19 rfl) (by decide) ?_
      refine lv_icmp_ne (tgt := 47) hx hb (dAt zX5_judge_0 20 rfl) (by decide) (fun c_36 => ?_) (fun c_36 => ?_)
      · have h := q_neg c_36 h
        refine lv_iload_n hx hb (dAt zX5_judge_0 26 rfl) rfl (lv_at hl 2 rfl) ?_
        refine lv_iconst (v := 2) hx hb (dAt zX5_judge_0 27 rfl) (by decide) ?_
        refine lv_icmp_ne (tgt := 60) hx hb (dAt zX5_judge_0 28 rfl) (by decide) (fun c_49 => ?_) (fun c_49 => ?_)
        · have h := q_neg c_49 h
          refine lv_iload_n hx hb (dAt zX5_judge_0 33 rfl) rfl (lv_at hl 0 rfl) ?_
          refine lv_bipush (v := (-3)) hx hb (dAt zX5_judge_0 34 rfl) (by decide) ?_
          refine lv_icmp_eq (tgt := 69) hx hb (dAt zX5_judge_0 35 rfl) (by decide) (fun c_63 => ?_) (fun c_63 => ?_)
          · have h := q_pos c_63 h
            refine lv_iload_n hx hb (dAt zX5_judge_0 38 rfl) rfl (lv_at hl 2 rfl) ?_
            refine lv_if_ne (tgt := 83) hx hb (dAt zX5_judge_0 39 rfl) (by decide) (fun c_70 => ?_) (fun c_70 => ?_)
            · have h := q_neg c_70 h
              refine lv_aload_n hx hb (dAt zX5_judge_0 44 rfl) rfl (lv_at hl 1 rfl) ?_
              refine va_get (D := D) (ci := 5) (v := .ref (qC 0)) (C := RX5) (T := TX5) (N := 8) hx hb htl inlX5 hown hK hP 0 rfl rfl 5 (by decide) (htl _ W_26) (fun _ h9 => h9) rfl (dAt zX5_judge_0 45 rfl) ?_
              refine va_get (D := D) (ci := 1) (v := .int (u24.2.1 0 2)) (C := RX1) (T := TX1) (N := 7) hx hb htl inlX1 hown hK hP 18 rfl rfl 2 (by decide) (htl _ W_266) (fun _ h9 => h9) rfl (dAt zX5_judge_0 46 rfl) ?_
              obtain rfl := q_some h
              exact xRi hx hb hr hlocks hQ hAe hP hD hK hS rfl (dAt zX5_judge_0 47 rfl)
            · have h := q_pos c_70 h
              refine lv_aload_n hx hb (dAt zX5_judge_0 40 rfl) rfl (lv_at hl 1 rfl) ?_
              refine va_get (D := D) (ci := 5) (v := .ref (qC 0)) (C := RX5) (T := TX5) (N := 8) hx hb htl inlX5 hown hK hP 0 rfl rfl 5 (by decide) (htl _ W_26) (fun _ h9 => h9) rfl (dAt zX5_judge_0 41 rfl) ?_
              refine va_get (D := D) (ci := 1) (v := .int (u24.2.1 0 1)) (C := RX1) (T := TX1) (N := 7) hx hb htl inlX1 hown hK hP 18 rfl rfl 1 (by decide) (htl _ W_265) (fun _ h9 => h9) rfl (dAt zX5_judge_0 42 rfl) ?_
              refine lv_goto (tgt := 90) hx hb (dAt zX5_judge_0 43 rfl) (by decide) ?_
              obtain rfl := q_some h
              exact xRi hx hb hr hlocks hQ hAe hP hD hK hS rfl (dAt zX5_judge_0 47 rfl)
          · have h := q_neg c_63 h
            refine lv_bipush (v := (-6)) hx hb (dAt zX5_judge_0 36 rfl) (by decide) ?_
            obtain rfl := q_some h
            exact xRi hx hb hr hlocks hQ hAe hP hD hK hS rfl (dAt zX5_judge_0 37 rfl)
        · have h := q_pos c_49 h
          refine lv_aload_n hx hb (dAt zX5_judge_0 29 rfl) rfl (lv_at hl 1 rfl) ?_
          refine va_get (D := D) (ci := 5) (v := .ref (qC 0)) (C := RX5) (T := TX5) (N := 8) hx hb htl inlX5 hown hK hP 0 rfl rfl 5 (by decide) (htl _ W_26) (fun _ h9 => h9) rfl (dAt zX5_judge_0 30 rfl) ?_
          refine va_get (D := D) (ci := 1) (v := .int (u24.2.1 0 3)) (C := RX1) (T := TX1) (N := 7) hx hb htl inlX1 hown hK hP 18 rfl rfl 3 (by decide) (htl _ W_264) (fun _ h9 => h9) rfl (dAt zX5_judge_0 31 rfl) ?_
          obtain rfl := q_some h
          exact xRi hx hb hr hlocks hQ hAe hP hD hK hS rfl (dAt zX5_judge_0 32 rfl)
      · have h := q_pos c_36 h
        refine lv_iload_n hx hb (dAt zX5_judge_0 21 rfl) rfl (lv_at hl 0 rfl) ?_
        refine lv_bipush (v := (-3)) hx hb (dAt zX5_judge_0 22 rfl) (by decide) ?_
        refine lv_icmp_ne (tgt := 47) hx hb (dAt zX5_judge_0 23 rfl) (by decide) (fun c_42 => ?_) (fun c_42 => ?_)
        · have h := q_neg c_42 h
          refine lv_iload_n hx hb (dAt zX5_judge_0 26 rfl) rfl (lv_at hl 2 rfl) ?_
          refine lv_iconst (v := 2) hx hb (dAt zX5_judge_0 27 rfl) (by decide) ?_
          refine lv_icmp_ne (tgt := 60) hx hb (dAt zX5_judge_0 28 rfl) (by decide) (fun c_49 => ?_) (fun c_49 => ?_)
          · have h := q_neg c_49 h
            refine lv_iload_n hx hb (dAt zX5_judge_0 33 rfl) rfl (lv_at hl 0 rfl) ?_
            refine lv_bipush (v := (-3)) hx hb (dAt zX5_judge_0 34 rfl) (by decide) ?_
            refine lv_icmp_eq (tgt := 69) hx hb (dAt zX5_judge_0 35 rfl) (by decide) (fun c_63 => ?_) (fun c_63 => ?_)
            · have h := q_pos c_63 h
              refine lv_iload_n hx hb (dAt zX5_judge_0 38 rfl) rfl (lv_at hl 2 rfl) ?_
              refine lv_if_ne (tgt := 83) hx hb (dAt zX5_judge_0 39 rfl) (by decide) (fun c_70 => ?_) (fun c_70 => ?_)
              · have h := q_neg c_70 h
                refine lv_aload_n hx hb (dAt zX5_judge_0 44 rfl) rfl (lv_at hl 1 rfl) ?_
                refine va_get (D := D) (ci := 5) (v := .ref (qC 0)) (C := RX5) (T := TX5) (N := 8) hx hb htl inlX5 hown hK hP 0 rfl rfl 5 (by decide) (htl _ W_26) (fun _ h9 => h9) rfl (dAt zX5_judge_0 45 rfl) ?_
                refine va_get (D := D) (ci := 1) (v := .int (u24.2.1 0 2)) (C := RX1) (T := TX1) (N := 7) hx hb htl inlX1 hown hK hP 18 rfl rfl 2 (by decide) (htl _ W_266) (fun _ h9 => h9) rfl (dAt zX5_judge_0 46 rfl) ?_
                obtain rfl := q_some h
                exact xRi hx hb hr hlocks hQ hAe hP hD hK hS rfl (dAt zX5_judge_0 47 rfl)
              · have h := q_pos c_70 h
                refine lv_aload_n hx hb (dAt zX5_judge_0 40 rfl) rfl (lv_at hl 1 rfl) ?_
                refine va_get (D := D) (ci := 5) (v := .ref (qC 0)) (C := RX5) (T := TX5) (N := 8) hx hb htl inlX5 hown hK hP 0 rfl rfl 5 (by decide) (htl _ W_26) (fun _ h9 => h9) rfl (dAt zX5_judge_0 41 rfl) ?_
                refine va_get (D := D) (ci := 1) (v := .int (u24.2.1 0 1)) (C := RX1) (T := TX1) (N := 7) hx hb htl inlX1 hown hK hP 18 rfl rfl 1 (by decide) (htl _ W_265) (fun _ h9 => h9) rfl (dAt zX5_judge_0 42 rfl) ?_
                refine lv_goto (tgt := 90) hx hb (dAt zX5_judge_0 43 rfl) (by decide) ?_
                obtain rfl := q_some h
                exact xRi hx hb hr hlocks hQ hAe hP hD hK hS rfl (dAt zX5_judge_0 47 rfl)
            · have h := q_neg c_63 h
              refine lv_bipush (v := (-6)) hx hb (dAt zX5_judge_0 36 rfl) (by decide) ?_
              obtain rfl := q_some h
              exact xRi hx hb hr hlocks hQ hAe hP hD hK hS rfl (dAt zX5_judge_0 37 rfl)
          · have h := q_pos c_49 h
            refine lv_aload_n hx hb (dAt zX5_judge_0 29 rfl) rfl (lv_at hl 1 rfl) ?_
            refine va_get (D := D) (ci := 5) (v := .ref (qC 0)) (C := RX5) (T := TX5) (N := 8) hx hb htl inlX5 hown hK hP 0 rfl rfl 5 (by decide) (htl _ W_26) (fun _ h9 => h9) rfl (dAt zX5_judge_0 30 rfl) ?_
            refine va_get (D := D) (ci := 1) (v := .int (u24.2.1 0 3)) (C := RX1) (T := TX1) (N := 7) hx hb htl inlX1 hown hK hP 18 rfl rfl 3 (by decide) (htl _ W_264) (fun _ h9 => h9) rfl (dAt zX5_judge_0 31 rfl) ?_
            obtain rfl := q_some h
            exact xRi hx hb hr hlocks hQ hAe hP hD hK hS rfl (dAt zX5_judge_0 32 rfl)
        · have h := q_pos c_42 h
          refine lv_iload_n hx hb (dAt zX5_judge_0 24 rfl) rfl (lv_at hl 0 rfl) ?_
          obtain rfl := q_some h
          exact xRi hx hb hr hlocks hQ hAe hP hD hK hS rfl (dAt zX5_judge_0 25 rfl)
  · have h := q_pos c_6 h
    refine lv_bipush (v := (-2)) hx hb (dAt zX5_judge_0 5 rfl) (by decide) ?_
    obtain rfl := q_some h
    exact xRi hx hb hr hlocks hQ hAe hP hD hK hS rfl (dAt zX5_judge_0 6 rfl)
def m_X4_toldOf (n : Nat) (zT : TI) (a1 : Int32) (a2 : Int32) : Option Int32 := (if a2 = 0 then ((m_X4_isHere n zT a1).bind fun u34 => (if u34 = 0 then some 0 else some 1)) else (if a2 = 1 then ((m_X5_holds n  (zT 0 1) a1).bind fun u51 => (if u51 = 0 then some 0 else some 1)) else (if a2 = 2 then ((m_X5_holds n  (zT 0 2) a1).bind fun u68 => (if u68 = 0 then some 0 else some 1)) else (if a2 = 3 then ((m_X4_isHere n zT a1).bind fun u82 => (if u82 = 0 then some (-6) else ((m_X4_missed n zT).bind fun u92 => ((m_X5_holds n  u92 a1).bind fun u96 => (if u96 = 0 then some 0 else some 1))))) else ((m_X4_strengthBetween n zT ((1 : Int32) <<< (a1 &&& 31)) (zT 0 0)).bind fun u116 => some u116)))))
set_option maxHeartbeats 4000000 in
set_option maxRecDepth 100000 in
theorem c_X4_toldOf (l : Launch) (D : va_G) (cI cJ cZ : ClassId) (n : Nat) (qT : Nat → Nat) (sz : Nat) (zT : TI) (a1 : Int32) (a2 : Int32) (out : Int32) (hm : m_X4_toldOf n zT a1 a2 = some out) : Met l yX4_toldOf (wsM yX4_toldOf cX4_toldOf 3 (some .int)) { frames := 3, cells := 0, slots := 0, locals := 69 } (xPre D (kT cI cJ cZ) (w4 cI qT zT) sz [.ref (qT 0), .int a1, .int a2]) (xQi D (kT cI cJ cZ) (w4 cI qT zT) (w4 cI qT zT) sz out) 0 0 (va_A (w4 cI qT zT) sz) := by
  refine Met.ofW (cc := cX4_toldOf) (maxL := 3) (ret := (some .int)) (by decide) rfl ?_
  intro p e s m args below meth c s₁ B hml hv
  obtain ⟨hv, hsz, hP, hK, hD0, hN⟩ := hv
  have hx := B.exec; have hb := B.bytes; have hr := B.returns
  have hts := atoms_spec (ws := (wsM yX4_toldOf cX4_toldOf 3 (some .int))) B.pre
  have hown : s.vm.findClass RX4 = some m.cls := findClass_of_methodNamed B.named
  have hlocks := B.notSynchronized
  subst hsz
  have hD := hD0.self (sz := s.heap.size)
  obtain ⟨A, hAe⟩ : ∃ A, A = va_A (w4 cI qT zT) s.heap.size := ⟨_, rfl⟩
  rw [← hAe] at hD
  have hA : ∀ q : Nat, s.heap.size ≤ q → A q := fun q h => by rw [hAe]; exact Or.inr h
  have htl : ∀ w ∈ wsL_law, w.before args s = true := fun w h => hts w (List.mem_cons_of_mem _ h)
  refine xHead (R' := { frames := 3, cells := 0, slots := 0, locals := 69 }) rfl (fun Q H hQ hH => ?_)
  have hP : va_P D vwCl (w4 cI qT zT) H := by rw [hH]; exact hP
  have hS : va_S A s.heap H [] := by rw [hH]; exact va_S.rf
  refine xStart hv (Nat.le_of_ble_eq_true rfl) (lv := [(0, .ref (qT 0)), (1, .int a1), (2, .int a2)]) rfl (fun ls hl => ?_)
  have h := hm
  unfold m_X4_toldOf at h
  refine lv_iload_n hx hb (dAt zX4_toldOf_0 0 rfl) rfl (lv_at hl 2 rfl) ?_
  by_cases c_1_0 : a2 = 0
  · have h := q_pos c_1_0 h
    refine lv_tableIn (off := 31) (tgt := 32) hx hb (dAt zX4_toldOf_0 1 rfl) (by rw [c_1_0]; decide) (by rw [c_1_0]; decide) (by rw [c_1_0]; rfl) (by decide) ?_
    refine lv_aload_n hx hb (dAt zX4_toldOf_0 2 rfl) rfl (lv_at hl 0 rfl) ?_
    refine lv_iload_n hx hb (dAt zX4_toldOf_0 3 rfl) rfl (lv_at hl 1 rfl) ?_
    obtain ⟨u34, hu34, h⟩ := q_bind h
    refine xFz (wc := (w4 cI qT zT)) (w1 := (w4 cI qT zT)) (wr := ([] : va_W)) (ws2 := (w4 cI qT zT)) (va_runV (As := [.int a1]) (rest := []) ⟨hx, hb, hml, hown, htl⟩ (c_X4_isHere l D cI cJ cZ n qT H.size zT a1 u34 hu34) (cwV 1 htl (gV W_305 W_306 W_307 W_14 W_308) rfl rfl rfl (by decide +kernel) ⟨Nat.le_of_ble_eq_true rfl, Nat.le_of_ble_eq_true rfl⟩) (xPV hP hD hK hN 0 rfl rfl) rfl rfl hl.1 rfl (lv_room (Nat.le_of_ble_eq_true rfl)) (dAt zX4_toldOf_0 4 rfl) ⟨Nat.zero_le _, Nat.zero_le _⟩) hS hA hP hD [0, 1, 2, 3, 4] [] [0, 1, 2, 3, 4] rfl rfl (by decide) (by decide) rfl (by decide) (fun H locs hz34 hP hD hS => ?_)
    refine lv_if_eq (tgt := 44) hx hb (dAt zX4_toldOf_0 5 rfl) (by decide) (fun c_37 => ?_) (fun c_37 => ?_)
    · have h := q_pos c_37 h
      refine lv_iconst (v := 0) hx hb (dAt zX4_toldOf_0 8 rfl) (by decide) ?_
      obtain rfl := q_some h
      exact xRi hx hb hr hlocks hQ hAe hP hD hK hS rfl (dAt zX4_toldOf_0 9 rfl)
    · have h := q_neg c_37 h
      refine lv_iconst (v := 1) hx hb (dAt zX4_toldOf_0 6 rfl) (by decide) ?_
      refine lv_goto (tgt := 45) hx hb (dAt zX4_toldOf_0 7 rfl) (by decide) ?_
      obtain rfl := q_some h
      exact xRi hx hb hr hlocks hQ hAe hP hD hK hS rfl (dAt zX4_toldOf_0 9 rfl)
  · have h := q_neg c_1_0 h
    by_cases c_1_1 : a2 = 1
    · have h := q_pos c_1_1 h
      refine lv_tableIn (off := 45) (tgt := 46) hx hb (dAt zX4_toldOf_0 1 rfl) (by rw [c_1_1]; decide) (by rw [c_1_1]; decide) (by rw [c_1_1]; rfl) (by decide) ?_
      refine lv_aload_n hx hb (dAt zX4_toldOf_0 10 rfl) rfl (lv_at hl 0 rfl) ?_
      refine va_get (D := D) (ci := 4) (v := .int (zT 0 1)) (C := RX4) (T := TX4) (N := 9) hx hb htl inlX4 hown hK hP 0 rfl rfl 1 (by decide) (htl _ W_40) (fun _ h9 => h9) rfl (dAt zX4_toldOf_0 11 rfl) ?_
      refine lv_iload_n hx hb (dAt zX4_toldOf_0 12 rfl) rfl (lv_at hl 1 rfl) ?_
      obtain ⟨u51, hu51, h⟩ := q_bind h
      refine xFz (wc := ([] : va_W)) (w1 := ([] : va_W)) (wr := (w4 cI qT zT)) (ws2 := (w4 cI qT zT)) (va_runSN (host := RX5) (As := [.int (zT 0 1), .int a1]) (rest := []) ⟨hx, hb, hml, hown, htl⟩ (c_X5_holds l D cI cJ cZ n  H.size  (zT 0 1) a1 u51 hu51) ⟨va_cnB 2 htl (gM W_339) rfl rfl rfl hN.2.2.2.1 (htl _ W_2) (by decide +kernel) ⟨Nat.le_of_ble_eq_true rfl, Nat.le_of_ble_eq_true rfl⟩, htl _ W_338, trivial⟩ (xPS xP0 (xD0 A) hK hN) rfl rfl hl.1 rfl (lv_room (Nat.le_of_ble_eq_true rfl)) (dAt zX4_toldOf_0 13 rfl) ⟨Nat.zero_le _, Nat.zero_le _⟩) hS hA hP hD [] [0, 1, 2, 3, 4] [0, 1, 2, 3, 4] rfl rfl (by decide) (by decide) rfl (by decide) (fun H locs hz51 hP hD hS => ?_)
      refine lv_if_eq (tgt := 61) hx hb (dAt zX4_toldOf_0 14 rfl) (by decide) (fun c_54 => ?_) (fun c_54 => ?_)
      · have h := q_pos c_54 h
        refine lv_iconst (v := 0) hx hb (dAt zX4_toldOf_0 17 rfl) (by decide) ?_
        obtain rfl := q_some h
        exact xRi hx hb hr hlocks hQ hAe hP hD hK hS rfl (dAt zX4_toldOf_0 18 rfl)
      · have h := q_neg c_54 h
        refine lv_iconst (v := 1) hx hb (dAt zX4_toldOf_0 15 rfl) (by decide) ?_
        refine lv_goto (tgt := 62) hx hb (dAt zX4_toldOf_0 16 rfl) (by decide) ?_
        obtain rfl := q_some h
        exact xRi hx hb hr hlocks hQ hAe hP hD hK hS rfl (dAt zX4_toldOf_0 18 rfl)
    · have h := q_neg c_1_1 h
      by_cases c_1_2 : a2 = 2
      · have h := q_pos c_1_2 h
        refine lv_tableIn (off := 62) (tgt := 63) hx hb (dAt zX4_toldOf_0 1 rfl) (by rw [c_1_2]; decide) (by rw [c_1_2]; decide) (by rw [c_1_2]; rfl) (by decide) ?_
        refine lv_aload_n hx hb (dAt zX4_toldOf_0 19 rfl) rfl (lv_at hl 0 rfl) ?_
        refine va_get (D := D) (ci := 4) (v := .int (zT 0 2)) (C := RX4) (T := TX4) (N := 9) hx hb htl inlX4 hown hK hP 0 rfl rfl 2 (by decide) (htl _ W_41) (fun _ h9 => h9) rfl (dAt zX4_toldOf_0 20 rfl) ?_
        refine lv_iload_n hx hb (dAt zX4_toldOf_0 21 rfl) rfl (lv_at hl 1 rfl) ?_
        obtain ⟨u68, hu68, h⟩ := q_bind h
        refine xFz (wc := ([] : va_W)) (w1 := ([] : va_W)) (wr := (w4 cI qT zT)) (ws2 := (w4 cI qT zT)) (va_runSN (host := RX5) (As := [.int (zT 0 2), .int a1]) (rest := []) ⟨hx, hb, hml, hown, htl⟩ (c_X5_holds l D cI cJ cZ n  H.size  (zT 0 2) a1 u68 hu68) ⟨va_cnB 2 htl (gM W_339) rfl rfl rfl hN.2.2.2.1 (htl _ W_2) (by decide +kernel) ⟨Nat.le_of_ble_eq_true rfl, Nat.le_of_ble_eq_true rfl⟩, htl _ W_338, trivial⟩ (xPS xP0 (xD0 A) hK hN) rfl rfl hl.1 rfl (lv_room (Nat.le_of_ble_eq_true rfl)) (dAt zX4_toldOf_0 22 rfl) ⟨Nat.zero_le _, Nat.zero_le _⟩) hS hA hP hD [] [0, 1, 2, 3, 4] [0, 1, 2, 3, 4] rfl rfl (by decide) (by decide) rfl (by decide) (fun H locs hz68 hP hD hS => ?_)
        refine lv_if_eq (tgt := 78) hx hb (dAt zX4_toldOf_0 23 rfl) (by decide) (fun c_71 => ?_) (fun c_71 => ?_)
        · have h := q_pos c_71 h
          refine lv_iconst (v := 0) hx hb (dAt zX4_toldOf_0 26 rfl) (by decide) ?_
          obtain rfl := q_some h
          exact xRi hx hb hr hlocks hQ hAe hP hD hK hS rfl (dAt zX4_toldOf_0 27 rfl)
        · have h := q_neg c_71 h
          refine lv_iconst (v := 1) hx hb (dAt zX4_toldOf_0 24 rfl) (by decide) ?_
          refine lv_goto (tgt := 79) hx hb (dAt zX4_toldOf_0 25 rfl) (by decide) ?_
          obtain rfl := q_some h
          exact xRi hx hb hr hlocks hQ hAe hP hD hK hS rfl (dAt zX4_toldOf_0 27 rfl)
      · have h := q_neg c_1_2 h
        by_cases c_1_3 : a2 = 3
        · have h := q_pos c_1_3 h
          refine lv_tableIn (off := 79) (tgt := 80) hx hb (dAt zX4_toldOf_0 1 rfl) (by rw [c_1_3]; decide) (by rw [c_1_3]; decide) (by rw [c_1_3]; rfl) (by decide) ?_
          refine lv_aload_n hx hb (dAt zX4_toldOf_0 28 rfl) rfl (lv_at hl 0 rfl) ?_
          refine lv_iload_n hx hb (dAt zX4_toldOf_0 29 rfl) rfl (lv_at hl 1 rfl) ?_
          obtain ⟨u82, hu82, h⟩ := q_bind h
          refine xFz (wc := (w4 cI qT zT)) (w1 := (w4 cI qT zT)) (wr := ([] : va_W)) (ws2 := (w4 cI qT zT)) (va_runV (As := [.int a1]) (rest := []) ⟨hx, hb, hml, hown, htl⟩ (c_X4_isHere l D cI cJ cZ n qT H.size zT a1 u82 hu82) (cwV 1 htl (gV W_305 W_306 W_307 W_14 W_308) rfl rfl rfl (by decide +kernel) ⟨Nat.le_of_ble_eq_true rfl, Nat.le_of_ble_eq_true rfl⟩) (xPV hP hD hK hN 0 rfl rfl) rfl rfl hl.1 rfl (lv_room (Nat.le_of_ble_eq_true rfl)) (dAt zX4_toldOf_0 30 rfl) ⟨Nat.zero_le _, Nat.zero_le _⟩) hS hA hP hD [0, 1, 2, 3, 4] [] [0, 1, 2, 3, 4] rfl rfl (by decide) (by decide) rfl (by decide) (fun H locs hz82 hP hD hS => ?_)
          refine lv_if_ne (tgt := 91) hx hb (dAt zX4_toldOf_0 31 rfl) (by decide) (fun c_85 => ?_) (fun c_85 => ?_)
          · have h := q_neg c_85 h
            refine lv_aload_n hx hb (dAt zX4_toldOf_0 34 rfl) rfl (lv_at hl 0 rfl) ?_
            obtain ⟨u92, hu92, h⟩ := q_bind h
            refine xFi (wc := (w4 cI qT zT)) (w1 := (w4 cI qT zT)) (wr := ([] : va_W)) (ws2 := (w4 cI qT zT)) (va_runV (As := []) (rest := []) ⟨hx, hb, hml, hown, htl⟩ (c_X4_missed l D cI cJ cZ n qT H.size zT  u92 hu92) (cwV 0 htl (gV W_479 W_325 W_326 W_14 W_327) rfl rfl rfl (by decide +kernel) ⟨Nat.le_of_ble_eq_true rfl, Nat.le_of_ble_eq_true rfl⟩) (xPV hP hD hK hN 0 rfl rfl) rfl rfl hl.1 rfl (lv_room (Nat.le_of_ble_eq_true rfl)) (dAt zX4_toldOf_0 35 rfl) ⟨Nat.zero_le _, Nat.zero_le _⟩) hS hA hP hD [0, 1, 2, 3, 4] [] [0, 1, 2, 3, 4] rfl rfl (by decide) (by decide) rfl (by decide) (fun H locs hP hD hS => ?_)
            refine lv_iload_n hx hb (dAt zX4_toldOf_0 36 rfl) rfl (lv_at hl 1 rfl) ?_
            obtain ⟨u96, hu96, h⟩ := q_bind h
            refine xFz (wc := ([] : va_W)) (w1 := ([] : va_W)) (wr := (w4 cI qT zT)) (ws2 := (w4 cI qT zT)) (va_runSN (host := RX5) (As := [.int u92, .int a1]) (rest := []) ⟨hx, hb, hml, hown, htl⟩ (c_X5_holds l D cI cJ cZ n  H.size  u92 a1 u96 hu96) ⟨va_cnB 2 htl (gM W_339) rfl rfl rfl hN.2.2.2.1 (htl _ W_2) (by decide +kernel) ⟨Nat.le_of_ble_eq_true rfl, Nat.le_of_ble_eq_true rfl⟩, htl _ W_338, trivial⟩ (xPS xP0 (xD0 A) hK hN) rfl rfl hl.1 rfl (lv_room (Nat.le_of_ble_eq_true rfl)) (dAt zX4_toldOf_0 37 rfl) ⟨Nat.zero_le _, Nat.zero_le _⟩) hS hA hP hD [] [0, 1, 2, 3, 4] [0, 1, 2, 3, 4] rfl rfl (by decide) (by decide) rfl (by decide) (fun H locs hz96 hP hD hS => ?_)
            refine lv_if_eq (tgt := 106) hx hb (dAt zX4_toldOf_0 38 rfl) (by decide) (fun c_99 => ?_) (fun c_99 => ?_)
            · have h := q_pos c_99 h
              refine lv_iconst (v := 0) hx hb (dAt zX4_toldOf_0 41 rfl) (by decide) ?_
              obtain rfl := q_some h
              exact xRi hx hb hr hlocks hQ hAe hP hD hK hS rfl (dAt zX4_toldOf_0 42 rfl)
            · have h := q_neg c_99 h
              refine lv_iconst (v := 1) hx hb (dAt zX4_toldOf_0 39 rfl) (by decide) ?_
              refine lv_goto (tgt := 107) hx hb (dAt zX4_toldOf_0 40 rfl) (by decide) ?_
              obtain rfl := q_some h
              exact xRi hx hb hr hlocks hQ hAe hP hD hK hS rfl (dAt zX4_toldOf_0 42 rfl)
          · have h := q_pos c_85 h
            refine lv_bipush (v := (-6)) hx hb (dAt zX4_toldOf_0 32 rfl) (by decide) ?_
            obtain rfl := q_some h
            exact xRi hx hb hr hlocks hQ hAe hP hD hK hS rfl (dAt zX4_toldOf_0 33 rfl)
        · have h := q_neg c_1_3 h
          refine lv_tableOut (tgt := 108) hx hb (dAt zX4_toldOf_0 1 rfl) (tabOut (fun k h1 h2 q => by
              have q0 : k = 0 ∨ k = 1 ∨ k = 2 ∨ k = 3 := by omega
              rcases q0 with q0 | q0 | q0 | q0
              · exact c_1_0 (Int32.toInt_inj.mp (by rw [q, q0]; rfl))
              · exact c_1_1 (Int32.toInt_inj.mp (by rw [q, q0]; rfl))
              · exact c_1_2 (Int32.toInt_inj.mp (by rw [q, q0]; rfl))
              · exact c_1_3 (Int32.toInt_inj.mp (by rw [q, q0]; rfl))
              )) (by decide) ?_
          refine lv_aload_n hx hb (dAt zX4_toldOf_0 43 rfl) rfl (lv_at hl 0 rfl) ?_
          refine lv_iconst (v := 1) hx hb (dAt zX4_toldOf_0 44 rfl) (by decide) ?_
          refine lv_iload_n hx hb (dAt zX4_toldOf_0 45 rfl) rfl (lv_at hl 1 rfl) ?_
          refine lv_ishl hx hb (dAt zX4_toldOf_0 46 rfl) ?_
          refine lv_aload_n hx hb (dAt zX4_toldOf_0 47 rfl) rfl (lv_at hl 0 rfl) ?_
          refine va_get (D := D) (ci := 4) (v := .int (zT 0 0)) (C := RX4) (T := TX4) (N := 9) hx hb htl inlX4 hown hK hP 0 rfl rfl 0 (by decide) (htl _ W_39) (fun _ h9 => h9) rfl (dAt zX4_toldOf_0 48 rfl) ?_
          obtain ⟨u116, hu116, h⟩ := q_bind h
          refine xFi (wc := (w4 cI qT zT)) (w1 := (w4 cI qT zT)) (wr := ([] : va_W)) (ws2 := (w4 cI qT zT)) (va_runV (As := [.int ((1 : Int32) <<< (a1 &&& 31)), .int (zT 0 0)]) (rest := []) ⟨hx, hb, hml, hown, htl⟩ (c_X4_strengthBetween l D cI cJ cZ n qT H.size zT ((1 : Int32) <<< (a1 &&& 31)) (zT 0 0) u116 hu116) (cwV 2 htl (gV W_480 W_346 W_347 W_14 W_348) rfl rfl rfl (by decide +kernel) ⟨Nat.le_of_ble_eq_true rfl, Nat.le_of_ble_eq_true rfl⟩) (xPV hP hD hK hN 0 rfl rfl) rfl rfl hl.1 rfl (lv_room (Nat.le_of_ble_eq_true rfl)) (dAt zX4_toldOf_0 49 rfl) ⟨Nat.zero_le _, Nat.zero_le _⟩) hS hA hP hD [0, 1, 2, 3, 4] [] [0, 1, 2, 3, 4] rfl rfl (by decide) (by decide) rfl (by decide) (fun H locs hP hD hS => ?_)
          obtain rfl := q_some h
          exact xRi hx hb hr hlocks hQ hAe hP hD hK hS rfl (dAt zX4_toldOf_0 50 rfl)
def m_X5_behind (n : Nat) (zX : TI) (zT : TI) (zI : TI) (zJ : TI) (zP : TI) (zC : TI) (zV : TI) (zF : TI) (zA : TL) (a1 : Int32) (a2 : Int32) : Option (Int32 × TI × TI) := ((m_X5_isOne n  a1).bind fun u1 => (if u1 = 0 then some ((-1), zC, zV) else ((m_X5_isWithin n  a2 0 4).bind fun u12 => (if u12 = 0 then some ((-2), zC, zV) else ((m_X1_play n zC zV zP zT).bind fun u33 => (if u33.1 = 0 then ((m_X4_toldOf n u33.2.2 a1 a2).bind fun u54 => some (u54, u33.2.1, u33.2.2)) else some (u33.1, u33.2.1, u33.2.2)))))))
set_option maxHeartbeats 4000000 in
set_option maxRecDepth 100000 in
theorem c_X5_behind (l : Launch) (D : va_G) (cI cJ cZ : ClassId) (n : Nat) (qX : Nat → Nat) (qT : Nat → Nat) (qI : Nat → Nat) (qJ : Nat → Nat) (qP : Nat → Nat) (qC : Nat → Nat) (qV : Nat → Nat) (qF : Nat → Nat) (qA : Nat → Nat) (sz : Nat) (zX : TI) (zT : TI) (zI : TI) (zJ : TI) (zP : TI) (zC : TI) (zV : TI) (zF : TI) (zA : TL) (a1 : Int32) (a2 : Int32) (out : Int32 × TI × TI) (hm : m_X5_behind n zX zT zI zJ zP zC zV zF zA a1 a2 = some out) : Met l yX5_behind (wsM yX5_behind cX5_behind 4 (some .int)) { frames := 6, cells := 0, slots := 0, locals := 140 } (xPre D (kT cI cJ cZ) (w5 qX qT qI qJ qP qC qF qA zX ++ (w4 cI qT zT ++ (w4 cI qI zI ++ (w4 cI qJ zJ ++ (w2 cI qP zP ++ (w1 qC qV zC ++ (w4 cI qV zV ++ (w3 cI qF zF ++ (w0 cJ qA zA))))))))) sz [.ref (qX 0), .int a1, .int a2]) (xQi D (kT cI cJ cZ) (w5 qX qT qI qJ qP qC qF qA zX ++ (w4 cI qT zT ++ (w4 cI qI zI ++ (w4 cI qJ zJ ++ (w2 cI qP zP ++ (w1 qC qV zC ++ (w4 cI qV zV ++ (w3 cI qF zF ++ (w0 cJ qA zA))))))))) (w5 qX qT qI qJ qP qC qF qA zX ++ (w4 cI qT zT ++ (w4 cI qI zI ++ (w4 cI qJ zJ ++ (w2 cI qP zP ++ (w1 qC qV out.2.1 ++ (w4 cI qV out.2.2 ++ (w3 cI qF zF ++ (w0 cJ qA zA))))))))) sz out.1) 0 0 (va_A (w5 qX qT qI qJ qP qC qF qA zX ++ (w4 cI qT zT ++ (w4 cI qI zI ++ (w4 cI qJ zJ ++ (w2 cI qP zP ++ (w1 qC qV zC ++ (w4 cI qV zV ++ (w3 cI qF zF ++ (w0 cJ qA zA))))))))) sz) := by
  refine Met.ofW (cc := cX5_behind) (maxL := 4) (ret := (some .int)) (by decide) rfl ?_
  intro p e s m args below meth c s₁ B hml hv
  obtain ⟨hv, hsz, hP, hK, hD0, hN⟩ := hv
  have hx := B.exec; have hb := B.bytes; have hr := B.returns
  have hts := atoms_spec (ws := (wsM yX5_behind cX5_behind 4 (some .int))) B.pre
  have hown : s.vm.findClass RX5 = some m.cls := findClass_of_methodNamed B.named
  have hlocks := B.notSynchronized
  subst hsz
  have hD := hD0.self (sz := s.heap.size)
  obtain ⟨A, hAe⟩ : ∃ A, A = va_A (w5 qX qT qI qJ qP qC qF qA zX ++ (w4 cI qT zT ++ (w4 cI qI zI ++ (w4 cI qJ zJ ++ (w2 cI qP zP ++ (w1 qC qV zC ++ (w4 cI qV zV ++ (w3 cI qF zF ++ (w0 cJ qA zA))))))))) s.heap.size := ⟨_, rfl⟩
  rw [← hAe] at hD
  have hA : ∀ q : Nat, s.heap.size ≤ q → A q := fun q h => by rw [hAe]; exact Or.inr h
  have htl : ∀ w ∈ wsL_law, w.before args s = true := fun w h => hts w (List.mem_cons_of_mem _ h)
  refine xHead (R' := { frames := 6, cells := 0, slots := 0, locals := 140 }) rfl (fun Q H hQ hH => ?_)
  have hP : va_P D vwCl (w5 qX qT qI qJ qP qC qF qA zX ++ (w4 cI qT zT ++ (w4 cI qI zI ++ (w4 cI qJ zJ ++ (w2 cI qP zP ++ (w1 qC qV zC ++ (w4 cI qV zV ++ (w3 cI qF zF ++ (w0 cJ qA zA))))))))) H := by rw [hH]; exact hP
  have hS : va_S A s.heap H [] := by rw [hH]; exact va_S.rf
  refine xStart hv (Nat.le_of_ble_eq_true rfl) (lv := [(0, .ref (qX 0)), (1, .int a1), (2, .int a2)]) rfl (fun ls hl => ?_)
  have h := hm
  unfold m_X5_behind at h
  refine lv_iload_n hx hb (dAt zX5_behind_0 0 rfl) rfl (lv_at hl 1 rfl) ?_
  obtain ⟨u1, hu1, h⟩ := q_bind h
  refine xFz (wc := ([] : va_W)) (w1 := ([] : va_W)) (wr := (w5 qX qT qI qJ qP qC qF qA zX ++ (w4 cI qT zT ++ (w4 cI qI zI ++ (w4 cI qJ zJ ++ (w2 cI qP zP ++ (w1 qC qV zC ++ (w4 cI qV zV ++ (w3 cI qF zF ++ (w0 cJ qA zA)))))))))) (ws2 := (w5 qX qT qI qJ qP qC qF qA zX ++ (w4 cI qT zT ++ (w4 cI qI zI ++ (w4 cI qJ zJ ++ (w2 cI qP zP ++ (w1 qC qV zC ++ (w4 cI qV zV ++ (w3 cI qF zF ++ (w0 cJ qA zA)))))))))) (va_runS (As := [.int a1]) (rest := []) ⟨hx, hb, hml, hown, htl⟩ (c_X5_isOne l D cI cJ cZ n  H.size  a1 u1 hu1) (va_cwS 1 htl (gS W_107 W_108 W_2 W_109) rfl rfl rfl (by decide +kernel) ⟨Nat.le_of_ble_eq_true rfl, Nat.le_of_ble_eq_true rfl⟩) (xPS xP0 (xD0 A) hK hN) rfl rfl hl.1 rfl (lv_room (Nat.le_of_ble_eq_true rfl)) (dAt zX5_behind_0 1 rfl) ⟨Nat.zero_le _, Nat.zero_le _⟩) hS hA hP hD [] [0, 1, 2, 3, 4, 5, 6, 7, 8, 9, 10, 11, 12, 13, 14, 15, 16, 17, 18, 19, 20, 21, 22, 23, 24, 25, 26, 27, 28, 29] [0, 1, 2, 3, 4, 5, 6, 7, 8, 9, 10, 11, 12, 13, 14, 15, 16, 17, 18, 19, 20, 21, 22, 23, 24, 25, 26, 27, 28, 29] rfl rfl (by decide) (by decide) rfl (by decide) (fun H locs hz1 hP hD hS => ?_)
  refine lv_if_ne (tgt := 9) hx hb (dAt zX5_behind_0 2 rfl) (by decide) (fun c_4 => ?_) (fun c_4 => ?_)
  · have h := q_neg c_4 h
    refine lv_iload_n hx hb (dAt zX5_behind_0 5 rfl) rfl (lv_at hl 2 rfl) ?_
    refine lv_iconst (v := 0) hx hb (dAt zX5_behind_0 6 rfl) (by decide) ?_
    refine lv_iconst (v := 4) hx hb (dAt zX5_behind_0 7 rfl) (by decide) ?_
    obtain ⟨u12, hu12, h⟩ := q_bind h
    refine xFz (wc := ([] : va_W)) (w1 := ([] : va_W)) (wr := (w5 qX qT qI qJ qP qC qF qA zX ++ (w4 cI qT zT ++ (w4 cI qI zI ++ (w4 cI qJ zJ ++ (w2 cI qP zP ++ (w1 qC qV zC ++ (w4 cI qV zV ++ (w3 cI qF zF ++ (w0 cJ qA zA)))))))))) (ws2 := (w5 qX qT qI qJ qP qC qF qA zX ++ (w4 cI qT zT ++ (w4 cI qI zI ++ (w4 cI qJ zJ ++ (w2 cI qP zP ++ (w1 qC qV zC ++ (w4 cI qV zV ++ (w3 cI qF zF ++ (w0 cJ qA zA)))))))))) (va_runS (As := [.int a2, .int 0, .int 4]) (rest := []) ⟨hx, hb, hml, hown, htl⟩ (c_X5_isWithin l D cI cJ cZ n  H.size  a2 0 4 u12 hu12) (va_cwS 3 htl (gS W_110 W_111 W_2 W_112) rfl rfl rfl (by decide +kernel) ⟨Nat.le_of_ble_eq_true rfl, Nat.le_of_ble_eq_true rfl⟩) (xPS xP0 (xD0 A) hK hN) rfl rfl hl.1 rfl (lv_room (Nat.le_of_ble_eq_true rfl)) (dAt zX5_behind_0 8 rfl) ⟨Nat.zero_le _, Nat.zero_le _⟩) hS hA hP hD [] [0, 1, 2, 3, 4, 5, 6, 7, 8, 9, 10, 11, 12, 13, 14, 15, 16, 17, 18, 19, 20, 21, 22, 23, 24, 25, 26, 27, 28, 29] [0, 1, 2, 3, 4, 5, 6, 7, 8, 9, 10, 11, 12, 13, 14, 15, 16, 17, 18, 19, 20, 21, 22, 23, 24, 25, 26, 27, 28, 29] rfl rfl (by decide) (by decide) rfl (by decide) (fun H locs hz12 hP hD hS => ?_)
    refine lv_if_ne (tgt := 21) hx hb (dAt zX5_behind_0 9 rfl) (by decide) (fun c_15 => ?_) (fun c_15 => ?_)
    · have h := q_neg c_15 h
      refine lv_aload_n hx hb (dAt zX5_behind_0 12 rfl) rfl (lv_at hl 0 rfl) ?_
      refine va_get (D := D) (ci := 5) (v := .ref (qC 0)) (C := RX5) (T := TX5) (N := 8) hx hb htl inlX5 hown hK hP 0 rfl rfl 5 (by decide) (htl _ W_26) (fun _ h9 => h9) rfl (dAt zX5_behind_0 13 rfl) ?_
      refine lv_aload_n hx hb (dAt zX5_behind_0 14 rfl) rfl (lv_at hl 0 rfl) ?_
      refine va_get (D := D) (ci := 5) (v := .ref (qP 0)) (C := RX5) (T := TX5) (N := 8) hx hb htl inlX5 hown hK hP 0 rfl rfl 4 (by decide) (htl _ W_22) (fun _ h9 => h9) rfl (dAt zX5_behind_0 15 rfl) ?_
      refine lv_aload_n hx hb (dAt zX5_behind_0 16 rfl) rfl (lv_at hl 0 rfl) ?_
      refine va_get (D := D) (ci := 5) (v := .ref (qT 0)) (C := RX5) (T := TX5) (N := 8) hx hb htl inlX5 hown hK hP 0 rfl rfl 0 (by decide) (htl _ W_15) (fun _ h9 => h9) rfl (dAt zX5_behind_0 17 rfl) ?_
      obtain ⟨u33, hu33, h⟩ := q_bind h
      have hPc : va_P D vwCl (w1 qC qV zC ++ (w4 cI qV zV ++ (w2 cI qP zP ++ (w4 cI qT zT)))) H := hP.sub [18, 19, 20, 21, 22, 23, 16, 17, 1, 2, 3, 4, 5] rfl
      have hDc : va_D A (w1 qC qV zC ++ (w4 cI qV zV ++ (w2 cI qP zP ++ (w4 cI qT zT)))) := hD.sub [18, 19, 20, 21, 22, 23, 16, 17, 1, 2, 3, 4, 5] (by decide) rfl
      refine xFi (wc := (w1 qC qV zC ++ (w4 cI qV zV ++ (w2 cI qP zP ++ (w4 cI qT zT))))) (w1 := (w1 qC qV u33.2.1 ++ (w4 cI qV u33.2.2 ++ (w2 cI qP zP ++ (w4 cI qT zT))))) (wr := (w5 qX qT qI qJ qP qC qF qA zX ++ (w4 cI qI zI ++ (w4 cI qJ zJ ++ (w3 cI qF zF ++ (w0 cJ qA zA)))))) (ws2 := (w5 qX qT qI qJ qP qC qF qA zX ++ (w4 cI qT zT ++ (w4 cI qI zI ++ (w4 cI qJ zJ ++ (w2 cI qP zP ++ (w1 qC qV u33.2.1 ++ (w4 cI qV u33.2.2 ++ (w3 cI qF zF ++ (w0 cJ qA zA)))))))))) (va_runV (As := [.ref (qP 0), .ref (qT 0)]) (rest := []) ⟨hx, hb, hml, hown, htl⟩ (c_X1_play l D cI cJ cZ n qC qV qP qT H.size zC zV zP zT  u33 hu33) (cwV 2 htl (gV W_267 W_268 W_269 W_25 W_270) rfl rfl rfl (by decide +kernel) ⟨Nat.le_of_ble_eq_true rfl, Nat.le_of_ble_eq_true rfl⟩) (xPV hPc hDc hK hN 0 rfl rfl) rfl rfl hl.1 rfl (lv_room (Nat.le_of_ble_eq_true rfl)) (dAt zX5_behind_0 18 rfl) ⟨Nat.zero_le _, Nat.zero_le _⟩) hS hA hP hD [18, 19, 20, 21, 22, 23, 16, 17, 1, 2, 3, 4, 5] [0, 6, 7, 8, 9, 10, 11, 12, 13, 14, 15, 24, 25, 26, 27, 28, 29] [0, 25, 26, 27, 28, 29, 1, 2, 3, 4, 5, 6, 7, 8, 9, 10, 23, 24, 17, 18, 19, 20, 21, 22, 11, 12, 13, 14, 15, 16] rfl rfl (by decide) (by decide) rfl (by decide) (fun H locs hP hD hS => ?_)
      refine lv_istore_n (lv' := [(3, .int u33.1), (0, .ref (qX 0)), (1, .int a1), (2, .int a2)]) hx hb (dAt zX5_behind_0 19 rfl) rfl hl (by decide) rfl (fun ls hl => ?_)
      refine lv_iload_n hx hb (dAt zX5_behind_0 20 rfl) rfl (lv_at hl 0 rfl) ?_
      refine lv_if_eq (tgt := 45) hx hb (dAt zX5_behind_0 21 rfl) (by decide) (fun c_38 => ?_) (fun c_38 => ?_)
      · have h := q_pos c_38 h
        refine lv_aload_n hx hb (dAt zX5_behind_0 24 rfl) rfl (lv_at hl 1 rfl) ?_
        refine va_get (D := D) (ci := 5) (v := .ref (qC 0)) (C := RX5) (T := TX5) (N := 8) hx hb htl inlX5 hown hK hP 0 rfl rfl 5 (by decide) (htl _ W_26) (fun _ h9 => h9) rfl (dAt zX5_behind_0 25 rfl) ?_
        refine va_get (D := D) (ci := 1) (v := .ref (qV 0)) (C := RX1) (T := TX1) (N := 7) hx hb htl inlX1 hown hK hP 18 rfl rfl 0 (by decide) (htl _ W_474) (fun _ h9 => h9) rfl (dAt zX5_behind_0 26 rfl) ?_
        refine lv_iload_n hx hb (dAt zX5_behind_0 27 rfl) rfl (lv_at hl 2 rfl) ?_
        refine lv_iload_n hx hb (dAt zX5_behind_0 28 rfl) rfl (lv_at hl 3 rfl) ?_
        obtain ⟨u54, hu54, h⟩ := q_bind h
        have hPc : va_P D vwCl (w4 cI qV u33.2.2) H := hP.sub [19, 20, 21, 22, 23] rfl
        have hDc : va_D A (w4 cI qV u33.2.2) := hD.sub [19, 20, 21, 22, 23] (by decide) rfl
        refine xFi (wc := (w4 cI qV u33.2.2)) (w1 := (w4 cI qV u33.2.2)) (wr := (w5 qX qT qI qJ qP qC qF qA zX ++ (w4 cI qT zT ++ (w4 cI qI zI ++ (w4 cI qJ zJ ++ (w2 cI qP zP ++ (w1 qC qV u33.2.1 ++ (w3 cI qF zF ++ (w0 cJ qA zA))))))))) (ws2 := (w5 qX qT qI qJ qP qC qF qA zX ++ (w4 cI qT zT ++ (w4 cI qI zI ++ (w4 cI qJ zJ ++ (w2 cI qP zP ++ (w1 qC qV u33.2.1 ++ (w4 cI qV u33.2.2 ++ (w3 cI qF zF ++ (w0 cJ qA zA)))))))))) (va_runV (As := [.int a1, .int a2]) (rest := []) ⟨hx, hb, hml, hown, htl⟩ (c_X4_toldOf l D cI cJ cZ n qV H.size u33.2.2 a1 a2 u54 hu54) (cwV 2 htl (gV W_475 W_476 W_477 W_14 W_478) rfl rfl rfl (by decide +kernel) ⟨Nat.le_of_ble_eq_true rfl, Nat.le_of_ble_eq_true rfl⟩) (xPV hPc hDc hK hN 0 rfl rfl) rfl rfl hl.1 rfl (lv_room (Nat.le_of_ble_eq_true rfl)) (dAt zX5_behind_0 29 rfl) ⟨Nat.zero_le _, Nat.zero_le _⟩) hS hA hP hD [19, 20, 21, 22, 23] [0, 1, 2, 3, 4, 5, 6, 7, 8, 9, 10, 11, 12, 13, 14, 15, 16, 17, 18, 24, 25, 26, 27, 28, 29] [0, 1, 2, 3, 4, 5, 6, 7, 8, 9, 10, 11, 12, 13, 14, 15, 16, 17, 18, 25, 26, 27, 28, 29, 19, 20, 21, 22, 23, 24] rfl rfl (by decide) (by decide) rfl (by decide) (fun H locs hP hD hS => ?_)
        obtain rfl := q_some h
        exact xRi hx hb hr hlocks hQ hAe hP hD hK hS rfl (dAt zX5_behind_0 30 rfl)
      · have h := q_neg c_38 h
        refine lv_iload_n hx hb (dAt zX5_behind_0 22 rfl) rfl (lv_at hl 0 rfl) ?_
        refine lv_goto (tgt := 57) hx hb (dAt zX5_behind_0 23 rfl) (by decide) ?_
        obtain rfl := q_some h
        exact xRi hx hb hr hlocks hQ hAe hP hD hK hS rfl (dAt zX5_behind_0 30 rfl)
    · have h := q_pos c_15 h
      refine lv_bipush (v := (-2)) hx hb (dAt zX5_behind_0 10 rfl) (by decide) ?_
      obtain rfl := q_some h
      exact xRi hx hb hr hlocks hQ hAe hP hD hK hS rfl (dAt zX5_behind_0 11 rfl)
  · have h := q_pos c_4 h
    refine lv_iconst (v := (-1)) hx hb (dAt zX5_behind_0 3 rfl) (by decide) ?_
    obtain rfl := q_some h
    exact xRi hx hb hr hlocks hQ hAe hP hD hK hS rfl (dAt zX5_behind_0 4 rfl)
def m_X5_city (n : Nat) (zX : TI) (zT : TI) (zI : TI) (zJ : TI) (zP : TI) (zC : TI) (zV : TI) (zF : TI) (zA : TL) (a1 : Int32) : Option (Int32 × TI × TI) := ((m_X5_isWithin n  a1 0 2).bind fun u3 => (if u3 = 0 then some ((-2), zC, zV) else ((m_X1_play n zC zV zP zT).bind fun u24 => (if u24.1 = 0 then (if a1 = 0 then some ((u24.2.2 0 0), u24.2.1, u24.2.2) else (if a1 = 1 then ((m_X4_missed n u24.2.2).bind fun u61 => some (u61, u24.2.1, u24.2.2)) else some ((u24.2.1 0 4), u24.2.1, u24.2.2))) else some (u24.1, u24.2.1, u24.2.2)))))
set_option maxHeartbeats 4000000 in
set_option maxRecDepth 100000 in
theorem c_X5_city (l : Launch) (D : va_G) (cI cJ cZ : ClassId) (n : Nat) (qX : Nat → Nat) (qT : Nat → Nat) (qI : Nat → Nat) (qJ : Nat → Nat) (qP : Nat → Nat) (qC : Nat → Nat) (qV : Nat → Nat) (qF : Nat → Nat) (qA : Nat → Nat) (sz : Nat) (zX : TI) (zT : TI) (zI : TI) (zJ : TI) (zP : TI) (zC : TI) (zV : TI) (zF : TI) (zA : TL) (a1 : Int32) (out : Int32 × TI × TI) (hm : m_X5_city n zX zT zI zJ zP zC zV zF zA a1 = some out) : Met l yX5_city (wsM yX5_city cX5_city 3 (some .int)) { frames := 6, cells := 0, slots := 0, locals := 140 } (xPre D (kT cI cJ cZ) (w5 qX qT qI qJ qP qC qF qA zX ++ (w4 cI qT zT ++ (w4 cI qI zI ++ (w4 cI qJ zJ ++ (w2 cI qP zP ++ (w1 qC qV zC ++ (w4 cI qV zV ++ (w3 cI qF zF ++ (w0 cJ qA zA))))))))) sz [.ref (qX 0), .int a1]) (xQi D (kT cI cJ cZ) (w5 qX qT qI qJ qP qC qF qA zX ++ (w4 cI qT zT ++ (w4 cI qI zI ++ (w4 cI qJ zJ ++ (w2 cI qP zP ++ (w1 qC qV zC ++ (w4 cI qV zV ++ (w3 cI qF zF ++ (w0 cJ qA zA))))))))) (w5 qX qT qI qJ qP qC qF qA zX ++ (w4 cI qT zT ++ (w4 cI qI zI ++ (w4 cI qJ zJ ++ (w2 cI qP zP ++ (w1 qC qV out.2.1 ++ (w4 cI qV out.2.2 ++ (w3 cI qF zF ++ (w0 cJ qA zA))))))))) sz out.1) 0 0 (va_A (w5 qX qT qI qJ qP qC qF qA zX ++ (w4 cI qT zT ++ (w4 cI qI zI ++ (w4 cI qJ zJ ++ (w2 cI qP zP ++ (w1 qC qV zC ++ (w4 cI qV zV ++ (w3 cI qF zF ++ (w0 cJ qA zA))))))))) sz) := by
  refine Met.ofW (cc := cX5_city) (maxL := 3) (ret := (some .int)) (by decide) rfl ?_
  intro p e s m args below meth c s₁ B hml hv
  obtain ⟨hv, hsz, hP, hK, hD0, hN⟩ := hv
  have hx := B.exec; have hb := B.bytes; have hr := B.returns
  have hts := atoms_spec (ws := (wsM yX5_city cX5_city 3 (some .int))) B.pre
  have hown : s.vm.findClass RX5 = some m.cls := findClass_of_methodNamed B.named
  have hlocks := B.notSynchronized
  subst hsz
  have hD := hD0.self (sz := s.heap.size)
  obtain ⟨A, hAe⟩ : ∃ A, A = va_A (w5 qX qT qI qJ qP qC qF qA zX ++ (w4 cI qT zT ++ (w4 cI qI zI ++ (w4 cI qJ zJ ++ (w2 cI qP zP ++ (w1 qC qV zC ++ (w4 cI qV zV ++ (w3 cI qF zF ++ (w0 cJ qA zA))))))))) s.heap.size := ⟨_, rfl⟩
  rw [← hAe] at hD
  have hA : ∀ q : Nat, s.heap.size ≤ q → A q := fun q h => by rw [hAe]; exact Or.inr h
  have htl : ∀ w ∈ wsL_law, w.before args s = true := fun w h => hts w (List.mem_cons_of_mem _ h)
  refine xHead (R' := { frames := 6, cells := 0, slots := 0, locals := 140 }) rfl (fun Q H hQ hH => ?_)
  have hP : va_P D vwCl (w5 qX qT qI qJ qP qC qF qA zX ++ (w4 cI qT zT ++ (w4 cI qI zI ++ (w4 cI qJ zJ ++ (w2 cI qP zP ++ (w1 qC qV zC ++ (w4 cI qV zV ++ (w3 cI qF zF ++ (w0 cJ qA zA))))))))) H := by rw [hH]; exact hP
  have hS : va_S A s.heap H [] := by rw [hH]; exact va_S.rf
  refine xStart hv (Nat.le_of_ble_eq_true rfl) (lv := [(0, .ref (qX 0)), (1, .int a1)]) rfl (fun ls hl => ?_)
  have h := hm
  unfold m_X5_city at h
  refine lv_iload_n hx hb (dAt zX5_city_0 0 rfl) rfl (lv_at hl 1 rfl) ?_
  refine lv_iconst (v := 0) hx hb (dAt zX5_city_0 1 rfl) (by decide) ?_
  refine lv_iconst (v := 2) hx hb (dAt zX5_city_0 2 rfl) (by decide) ?_
  obtain ⟨u3, hu3, h⟩ := q_bind h
  refine xFz (wc := ([] : va_W)) (w1 := ([] : va_W)) (wr := (w5 qX qT qI qJ qP qC qF qA zX ++ (w4 cI qT zT ++ (w4 cI qI zI ++ (w4 cI qJ zJ ++ (w2 cI qP zP ++ (w1 qC qV zC ++ (w4 cI qV zV ++ (w3 cI qF zF ++ (w0 cJ qA zA)))))))))) (ws2 := (w5 qX qT qI qJ qP qC qF qA zX ++ (w4 cI qT zT ++ (w4 cI qI zI ++ (w4 cI qJ zJ ++ (w2 cI qP zP ++ (w1 qC qV zC ++ (w4 cI qV zV ++ (w3 cI qF zF ++ (w0 cJ qA zA)))))))))) (va_runS (As := [.int a1, .int 0, .int 2]) (rest := []) ⟨hx, hb, hml, hown, htl⟩ (c_X5_isWithin l D cI cJ cZ n  H.size  a1 0 2 u3 hu3) (va_cwS 3 htl (gS W_110 W_111 W_2 W_112) rfl rfl rfl (by decide +kernel) ⟨Nat.le_of_ble_eq_true rfl, Nat.le_of_ble_eq_true rfl⟩) (xPS xP0 (xD0 A) hK hN) rfl rfl hl.1 rfl (lv_room (Nat.le_of_ble_eq_true rfl)) (dAt zX5_city_0 3 rfl) ⟨Nat.zero_le _, Nat.zero_le _⟩) hS hA hP hD [] [0, 1, 2, 3, 4, 5, 6, 7, 8, 9, 10, 11, 12, 13, 14, 15, 16, 17, 18, 19, 20, 21, 22, 23, 24, 25, 26, 27, 28, 29] [0, 1, 2, 3, 4, 5, 6, 7, 8, 9, 10, 11, 12, 13, 14, 15, 16, 17, 18, 19, 20, 21, 22, 23, 24, 25, 26, 27, 28, 29] rfl rfl (by decide) (by decide) rfl (by decide) (fun H locs hz3 hP hD hS => ?_)
  refine lv_if_ne (tgt := 12) hx hb (dAt zX5_city_0 4 rfl) (by decide) (fun c_6 => ?_) (fun c_6 => ?_)
  · have h := q_neg c_6 h
    refine lv_aload_n hx hb (dAt zX5_city_0 7 rfl) rfl (lv_at hl 0 rfl) ?_
    refine va_get (D := D) (ci := 5) (v := .ref (qC 0)) (C := RX5) (T := TX5) (N := 8) hx hb htl inlX5 hown hK hP 0 rfl rfl 5 (by decide) (htl _ W_26) (fun _ h9 => h9) rfl (dAt zX5_city_0 8 rfl) ?_
    refine lv_aload_n hx hb (dAt zX5_city_0 9 rfl) rfl (lv_at hl 0 rfl) ?_
    refine va_get (D := D) (ci := 5) (v := .ref (qP 0)) (C := RX5) (T := TX5) (N := 8) hx hb htl inlX5 hown hK hP 0 rfl rfl 4 (by decide) (htl _ W_22) (fun _ h9 => h9) rfl (dAt zX5_city_0 10 rfl) ?_
    refine lv_aload_n hx hb (dAt zX5_city_0 11 rfl) rfl (lv_at hl 0 rfl) ?_
    refine va_get (D := D) (ci := 5) (v := .ref (qT 0)) (C := RX5) (T := TX5) (N := 8) hx hb htl inlX5 hown hK hP 0 rfl rfl 0 (by decide) (htl _ W_15) (fun _ h9 => h9) rfl (dAt zX5_city_0 12 rfl) ?_
    obtain ⟨u24, hu24, h⟩ := q_bind h
    have hPc : va_P D vwCl (w1 qC qV zC ++ (w4 cI qV zV ++ (w2 cI qP zP ++ (w4 cI qT zT)))) H := hP.sub [18, 19, 20, 21, 22, 23, 16, 17, 1, 2, 3, 4, 5] rfl
    have hDc : va_D A (w1 qC qV zC ++ (w4 cI qV zV ++ (w2 cI qP zP ++ (w4 cI qT zT)))) := hD.sub [18, 19, 20, 21, 22, 23, 16, 17, 1, 2, 3, 4, 5] (by decide) rfl
    refine xFi (wc := (w1 qC qV zC ++ (w4 cI qV zV ++ (w2 cI qP zP ++ (w4 cI qT zT))))) (w1 := (w1 qC qV u24.2.1 ++ (w4 cI qV u24.2.2 ++ (w2 cI qP zP ++ (w4 cI qT zT))))) (wr := (w5 qX qT qI qJ qP qC qF qA zX ++ (w4 cI qI zI ++ (w4 cI qJ zJ ++ (w3 cI qF zF ++ (w0 cJ qA zA)))))) (ws2 := (w5 qX qT qI qJ qP qC qF qA zX ++ (w4 cI qT zT ++ (w4 cI qI zI ++ (w4 cI qJ zJ ++ (w2 cI qP zP ++ (w1 qC qV u24.2.1 ++ (w4 cI qV u24.2.2 ++ (w3 cI qF zF ++ (w0 cJ qA zA)))))))))) (va_runV (As := [.ref (qP 0), .ref (qT 0)]) (rest := []) ⟨hx, hb, hml, hown, htl⟩ (c_X1_play l D cI cJ cZ n qC qV qP qT H.size zC zV zP zT  u24 hu24) (cwV 2 htl (gV W_267 W_268 W_269 W_25 W_270) rfl rfl rfl (by decide +kernel) ⟨Nat.le_of_ble_eq_true rfl, Nat.le_of_ble_eq_true rfl⟩) (xPV hPc hDc hK hN 0 rfl rfl) rfl rfl hl.1 rfl (lv_room (Nat.le_of_ble_eq_true rfl)) (dAt zX5_city_0 13 rfl) ⟨Nat.zero_le _, Nat.zero_le _⟩) hS hA hP hD [18, 19, 20, 21, 22, 23, 16, 17, 1, 2, 3, 4, 5] [0, 6, 7, 8, 9, 10, 11, 12, 13, 14, 15, 24, 25, 26, 27, 28, 29] [0, 25, 26, 27, 28, 29, 1, 2, 3, 4, 5, 6, 7, 8, 9, 10, 23, 24, 17, 18, 19, 20, 21, 22, 11, 12, 13, 14, 15, 16] rfl rfl (by decide) (by decide) rfl (by decide) (fun H locs hP hD hS => ?_)
    refine lv_istore_n (lv' := [(2, .int u24.1), (0, .ref (qX 0)), (1, .int a1)]) hx hb (dAt zX5_city_0 14 rfl) rfl hl (by decide) rfl (fun ls hl => ?_)
    refine lv_iload_n hx hb (dAt zX5_city_0 15 rfl) rfl (lv_at hl 0 rfl) ?_
    refine lv_if_eq (tgt := 34) hx hb (dAt zX5_city_0 16 rfl) (by decide) (fun c_29 => ?_) (fun c_29 => ?_)
    · have h := q_pos c_29 h
      refine lv_iload_n hx hb (dAt zX5_city_0 19 rfl) rfl (lv_at hl 2 rfl) ?_
      refine lv_if_ne (tgt := 49) hx hb (dAt zX5_city_0 20 rfl) (by decide) (fun c_35 => ?_) (fun c_35 => ?_)
      · have h := q_neg c_35 h
        refine lv_iload_n hx hb (dAt zX5_city_0 26 rfl) rfl (lv_at hl 2 rfl) ?_
        refine lv_iconst (v := 1) hx hb (dAt zX5_city_0 27 rfl) (by decide) ?_
        refine lv_icmp_ne (tgt := 67) hx hb (dAt zX5_city_0 28 rfl) (by decide) (fun c_51 => ?_) (fun c_51 => ?_)
        · have h := q_neg c_51 h
          refine lv_aload_n hx hb (dAt zX5_city_0 34 rfl) rfl (lv_at hl 1 rfl) ?_
          refine va_get (D := D) (ci := 5) (v := .ref (qC 0)) (C := RX5) (T := TX5) (N := 8) hx hb htl inlX5 hown hK hP 0 rfl rfl 5 (by decide) (htl _ W_26) (fun _ h9 => h9) rfl (dAt zX5_city_0 35 rfl) ?_
          refine va_get (D := D) (ci := 1) (v := .int (u24.2.1 0 4)) (C := RX1) (T := TX1) (N := 7) hx hb htl inlX1 hown hK hP 18 rfl rfl 4 (by decide) (htl _ W_494) (fun _ h9 => h9) rfl (dAt zX5_city_0 36 rfl) ?_
          obtain rfl := q_some h
          exact xRi hx hb hr hlocks hQ hAe hP hD hK hS rfl (dAt zX5_city_0 37 rfl)
        · have h := q_pos c_51 h
          refine lv_aload_n hx hb (dAt zX5_city_0 29 rfl) rfl (lv_at hl 1 rfl) ?_
          refine va_get (D := D) (ci := 5) (v := .ref (qC 0)) (C := RX5) (T := TX5) (N := 8) hx hb htl inlX5 hown hK hP 0 rfl rfl 5 (by decide) (htl _ W_26) (fun _ h9 => h9) rfl (dAt zX5_city_0 30 rfl) ?_
          refine va_get (D := D) (ci := 1) (v := .ref (qV 0)) (C := RX1) (T := TX1) (N := 7) hx hb htl inlX1 hown hK hP 18 rfl rfl 0 (by decide) (htl _ W_474) (fun _ h9 => h9) rfl (dAt zX5_city_0 31 rfl) ?_
          obtain ⟨u61, hu61, h⟩ := q_bind h
          have hPc : va_P D vwCl (w4 cI qV u24.2.2) H := hP.sub [19, 20, 21, 22, 23] rfl
          have hDc : va_D A (w4 cI qV u24.2.2) := hD.sub [19, 20, 21, 22, 23] (by decide) rfl
          refine xFi (wc := (w4 cI qV u24.2.2)) (w1 := (w4 cI qV u24.2.2)) (wr := (w5 qX qT qI qJ qP qC qF qA zX ++ (w4 cI qT zT ++ (w4 cI qI zI ++ (w4 cI qJ zJ ++ (w2 cI qP zP ++ (w1 qC qV u24.2.1 ++ (w3 cI qF zF ++ (w0 cJ qA zA))))))))) (ws2 := (w5 qX qT qI qJ qP qC qF qA zX ++ (w4 cI qT zT ++ (w4 cI qI zI ++ (w4 cI qJ zJ ++ (w2 cI qP zP ++ (w1 qC qV u24.2.1 ++ (w4 cI qV u24.2.2 ++ (w3 cI qF zF ++ (w0 cJ qA zA)))))))))) (va_runV (As := []) (rest := []) ⟨hx, hb, hml, hown, htl⟩ (c_X4_missed l D cI cJ cZ n qV H.size u24.2.2  u61 hu61) (cwV 0 htl (gV W_495 W_325 W_326 W_14 W_327) rfl rfl rfl (by decide +kernel) ⟨Nat.le_of_ble_eq_true rfl, Nat.le_of_ble_eq_true rfl⟩) (xPV hPc hDc hK hN 0 rfl rfl) rfl rfl hl.1 rfl (lv_room (Nat.le_of_ble_eq_true rfl)) (dAt zX5_city_0 32 rfl) ⟨Nat.zero_le _, Nat.zero_le _⟩) hS hA hP hD [19, 20, 21, 22, 23] [0, 1, 2, 3, 4, 5, 6, 7, 8, 9, 10, 11, 12, 13, 14, 15, 16, 17, 18, 24, 25, 26, 27, 28, 29] [0, 1, 2, 3, 4, 5, 6, 7, 8, 9, 10, 11, 12, 13, 14, 15, 16, 17, 18, 25, 26, 27, 28, 29, 19, 20, 21, 22, 23, 24] rfl rfl (by decide) (by decide) rfl (by decide) (fun H locs hP hD hS => ?_)
          refine lv_goto (tgt := 74) hx hb (dAt zX5_city_0 33 rfl) (by decide) ?_
          obtain rfl := q_some h
          exact xRi hx hb hr hlocks hQ hAe hP hD hK hS rfl (dAt zX5_city_0 37 rfl)
      · have h := q_pos c_35 h
        refine lv_aload_n hx hb (dAt zX5_city_0 21 rfl) rfl (lv_at hl 1 rfl) ?_
        refine va_get (D := D) (ci := 5) (v := .ref (qC 0)) (C := RX5) (T := TX5) (N := 8) hx hb htl inlX5 hown hK hP 0 rfl rfl 5 (by decide) (htl _ W_26) (fun _ h9 => h9) rfl (dAt zX5_city_0 22 rfl) ?_
        refine va_get (D := D) (ci := 1) (v := .ref (qV 0)) (C := RX1) (T := TX1) (N := 7) hx hb htl inlX1 hown hK hP 18 rfl rfl 0 (by decide) (htl _ W_474) (fun _ h9 => h9) rfl (dAt zX5_city_0 23 rfl) ?_
        refine va_get (D := D) (ci := 4) (v := .int (u24.2.2 0 0)) (C := RX4) (T := TX4) (N := 9) hx hb htl inlX4 hown hK hP 19 rfl rfl 0 (by decide) (htl _ W_141) (fun _ h9 => h9) rfl (dAt zX5_city_0 24 rfl) ?_
        obtain rfl := q_some h
        exact xRi hx hb hr hlocks hQ hAe hP hD hK hS rfl (dAt zX5_city_0 25 rfl)
    · have h := q_neg c_29 h
      refine lv_iload_n hx hb (dAt zX5_city_0 17 rfl) rfl (lv_at hl 0 rfl) ?_
      obtain rfl := q_some h
      exact xRi hx hb hr hlocks hQ hAe hP hD hK hS rfl (dAt zX5_city_0 18 rfl)
  · have h := q_pos c_6 h
    refine lv_bipush (v := (-2)) hx hb (dAt zX5_city_0 5 rfl) (by decide) ?_
    obtain rfl := q_some h
    exact xRi hx hb hr hlocks hQ hAe hP hD hK hS rfl (dAt zX5_city_0 6 rfl)
def m_X5_taken (n : Nat) (zX : TI) (zT : TI) (zI : TI) (zJ : TI) (zP : TI) (zC : TI) (zV : TI) (zF : TI) (zA : TL) (a1 : Int32) : Option (Int32 × TI × TI) := ((m_X5_isFlag n  a1).bind fun u1 => (if u1 = 0 then some ((-2), zC, zV) else ((m_X1_play n zC zV zP zT).bind fun u22 => (if u22.1 = 0 then (if a1 = 0 then some ((u22.2.1 0 5), u22.2.1, u22.2.2) else some ((u22.2.1 0 6), u22.2.1, u22.2.2)) else some (u22.1, u22.2.1, u22.2.2)))))
set_option maxHeartbeats 4000000 in
set_option maxRecDepth 100000 in
theorem c_X5_taken (l : Launch) (D : va_G) (cI cJ cZ : ClassId) (n : Nat) (qX : Nat → Nat) (qT : Nat → Nat) (qI : Nat → Nat) (qJ : Nat → Nat) (qP : Nat → Nat) (qC : Nat → Nat) (qV : Nat → Nat) (qF : Nat → Nat) (qA : Nat → Nat) (sz : Nat) (zX : TI) (zT : TI) (zI : TI) (zJ : TI) (zP : TI) (zC : TI) (zV : TI) (zF : TI) (zA : TL) (a1 : Int32) (out : Int32 × TI × TI) (hm : m_X5_taken n zX zT zI zJ zP zC zV zF zA a1 = some out) : Met l yX5_taken (wsM yX5_taken cX5_taken 3 (some .int)) { frames := 6, cells := 0, slots := 0, locals := 140 } (xPre D (kT cI cJ cZ) (w5 qX qT qI qJ qP qC qF qA zX ++ (w4 cI qT zT ++ (w4 cI qI zI ++ (w4 cI qJ zJ ++ (w2 cI qP zP ++ (w1 qC qV zC ++ (w4 cI qV zV ++ (w3 cI qF zF ++ (w0 cJ qA zA))))))))) sz [.ref (qX 0), .int a1]) (xQi D (kT cI cJ cZ) (w5 qX qT qI qJ qP qC qF qA zX ++ (w4 cI qT zT ++ (w4 cI qI zI ++ (w4 cI qJ zJ ++ (w2 cI qP zP ++ (w1 qC qV zC ++ (w4 cI qV zV ++ (w3 cI qF zF ++ (w0 cJ qA zA))))))))) (w5 qX qT qI qJ qP qC qF qA zX ++ (w4 cI qT zT ++ (w4 cI qI zI ++ (w4 cI qJ zJ ++ (w2 cI qP zP ++ (w1 qC qV out.2.1 ++ (w4 cI qV out.2.2 ++ (w3 cI qF zF ++ (w0 cJ qA zA))))))))) sz out.1) 0 0 (va_A (w5 qX qT qI qJ qP qC qF qA zX ++ (w4 cI qT zT ++ (w4 cI qI zI ++ (w4 cI qJ zJ ++ (w2 cI qP zP ++ (w1 qC qV zC ++ (w4 cI qV zV ++ (w3 cI qF zF ++ (w0 cJ qA zA))))))))) sz) := by
  refine Met.ofW (cc := cX5_taken) (maxL := 3) (ret := (some .int)) (by decide) rfl ?_
  intro p e s m args below meth c s₁ B hml hv
  obtain ⟨hv, hsz, hP, hK, hD0, hN⟩ := hv
  have hx := B.exec; have hb := B.bytes; have hr := B.returns
  have hts := atoms_spec (ws := (wsM yX5_taken cX5_taken 3 (some .int))) B.pre
  have hown : s.vm.findClass RX5 = some m.cls := findClass_of_methodNamed B.named
  have hlocks := B.notSynchronized
  subst hsz
  have hD := hD0.self (sz := s.heap.size)
  obtain ⟨A, hAe⟩ : ∃ A, A = va_A (w5 qX qT qI qJ qP qC qF qA zX ++ (w4 cI qT zT ++ (w4 cI qI zI ++ (w4 cI qJ zJ ++ (w2 cI qP zP ++ (w1 qC qV zC ++ (w4 cI qV zV ++ (w3 cI qF zF ++ (w0 cJ qA zA))))))))) s.heap.size := ⟨_, rfl⟩
  rw [← hAe] at hD
  have hA : ∀ q : Nat, s.heap.size ≤ q → A q := fun q h => by rw [hAe]; exact Or.inr h
  have htl : ∀ w ∈ wsL_law, w.before args s = true := fun w h => hts w (List.mem_cons_of_mem _ h)
  refine xHead (R' := { frames := 6, cells := 0, slots := 0, locals := 140 }) rfl (fun Q H hQ hH => ?_)
  have hP : va_P D vwCl (w5 qX qT qI qJ qP qC qF qA zX ++ (w4 cI qT zT ++ (w4 cI qI zI ++ (w4 cI qJ zJ ++ (w2 cI qP zP ++ (w1 qC qV zC ++ (w4 cI qV zV ++ (w3 cI qF zF ++ (w0 cJ qA zA))))))))) H := by rw [hH]; exact hP
  have hS : va_S A s.heap H [] := by rw [hH]; exact va_S.rf
  refine xStart hv (Nat.le_of_ble_eq_true rfl) (lv := [(0, .ref (qX 0)), (1, .int a1)]) rfl (fun ls hl => ?_)
  have h := hm
  unfold m_X5_taken at h
  refine lv_iload_n hx hb (dAt zX5_taken_0 0 rfl) rfl (lv_at hl 1 rfl) ?_
  obtain ⟨u1, hu1, h⟩ := q_bind h
  refine xFz (wc := ([] : va_W)) (w1 := ([] : va_W)) (wr := (w5 qX qT qI qJ qP qC qF qA zX ++ (w4 cI qT zT ++ (w4 cI qI zI ++ (w4 cI qJ zJ ++ (w2 cI qP zP ++ (w1 qC qV zC ++ (w4 cI qV zV ++ (w3 cI qF zF ++ (w0 cJ qA zA)))))))))) (ws2 := (w5 qX qT qI qJ qP qC qF qA zX ++ (w4 cI qT zT ++ (w4 cI qI zI ++ (w4 cI qJ zJ ++ (w2 cI qP zP ++ (w1 qC qV zC ++ (w4 cI qV zV ++ (w3 cI qF zF ++ (w0 cJ qA zA)))))))))) (va_runS (As := [.int a1]) (rest := []) ⟨hx, hb, hml, hown, htl⟩ (c_X5_isFlag l D cI cJ cZ n  H.size  a1 u1 hu1) (va_cwS 1 htl (gS W_142 W_143 W_2 W_144) rfl rfl rfl (by decide +kernel) ⟨Nat.le_of_ble_eq_true rfl, Nat.le_of_ble_eq_true rfl⟩) (xPS xP0 (xD0 A) hK hN) rfl rfl hl.1 rfl (lv_room (Nat.le_of_ble_eq_true rfl)) (dAt zX5_taken_0 1 rfl) ⟨Nat.zero_le _, Nat.zero_le _⟩) hS hA hP hD [] [0, 1, 2, 3, 4, 5, 6, 7, 8, 9, 10, 11, 12, 13, 14, 15, 16, 17, 18, 19, 20, 21, 22, 23, 24, 25, 26, 27, 28, 29] [0, 1, 2, 3, 4, 5, 6, 7, 8, 9, 10, 11, 12, 13, 14, 15, 16, 17, 18, 19, 20, 21, 22, 23, 24, 25, 26, 27, 28, 29] rfl rfl (by decide) (by decide) rfl (by decide) (fun H locs hz1 hP hD hS => ?_)
  refine lv_if_ne (tgt := 10) hx hb (dAt zX5_taken_0 2 rfl) (by decide) (fun c_4 => ?_) (fun c_4 => ?_)
  · have h := q_neg c_4 h
    refine lv_aload_n hx hb (dAt zX5_taken_0 5 rfl) rfl (lv_at hl 0 rfl) ?_
    refine va_get (D := D) (ci := 5) (v := .ref (qC 0)) (C := RX5) (T := TX5) (N := 8) hx hb htl inlX5 hown hK hP 0 rfl rfl 5 (by decide) (htl _ W_26) (fun _ h9 => h9) rfl (dAt zX5_taken_0 6 rfl) ?_
    refine lv_aload_n hx hb (dAt zX5_taken_0 7 rfl) rfl (lv_at hl 0 rfl) ?_
    refine va_get (D := D) (ci := 5) (v := .ref (qP 0)) (C := RX5) (T := TX5) (N := 8) hx hb htl inlX5 hown hK hP 0 rfl rfl 4 (by decide) (htl _ W_22) (fun _ h9 => h9) rfl (dAt zX5_taken_0 8 rfl) ?_
    refine lv_aload_n hx hb (dAt zX5_taken_0 9 rfl) rfl (lv_at hl 0 rfl) ?_
    refine va_get (D := D) (ci := 5) (v := .ref (qT 0)) (C := RX5) (T := TX5) (N := 8) hx hb htl inlX5 hown hK hP 0 rfl rfl 0 (by decide) (htl _ W_15) (fun _ h9 => h9) rfl (dAt zX5_taken_0 10 rfl) ?_
    obtain ⟨u22, hu22, h⟩ := q_bind h
    have hPc : va_P D vwCl (w1 qC qV zC ++ (w4 cI qV zV ++ (w2 cI qP zP ++ (w4 cI qT zT)))) H := hP.sub [18, 19, 20, 21, 22, 23, 16, 17, 1, 2, 3, 4, 5] rfl
    have hDc : va_D A (w1 qC qV zC ++ (w4 cI qV zV ++ (w2 cI qP zP ++ (w4 cI qT zT)))) := hD.sub [18, 19, 20, 21, 22, 23, 16, 17, 1, 2, 3, 4, 5] (by decide) rfl
    refine xFi (wc := (w1 qC qV zC ++ (w4 cI qV zV ++ (w2 cI qP zP ++ (w4 cI qT zT))))) (w1 := (w1 qC qV u22.2.1 ++ (w4 cI qV u22.2.2 ++ (w2 cI qP zP ++ (w4 cI qT zT))))) (wr := (w5 qX qT qI qJ qP qC qF qA zX ++ (w4 cI qI zI ++ (w4 cI qJ zJ ++ (w3 cI qF zF ++ (w0 cJ qA zA)))))) (ws2 := (w5 qX qT qI qJ qP qC qF qA zX ++ (w4 cI qT zT ++ (w4 cI qI zI ++ (w4 cI qJ zJ ++ (w2 cI qP zP ++ (w1 qC qV u22.2.1 ++ (w4 cI qV u22.2.2 ++ (w3 cI qF zF ++ (w0 cJ qA zA)))))))))) (va_runV (As := [.ref (qP 0), .ref (qT 0)]) (rest := []) ⟨hx, hb, hml, hown, htl⟩ (c_X1_play l D cI cJ cZ n qC qV qP qT H.size zC zV zP zT  u22 hu22) (cwV 2 htl (gV W_267 W_268 W_269 W_25 W_270) rfl rfl rfl (by decide +kernel) ⟨Nat.le_of_ble_eq_true rfl, Nat.le_of_ble_eq_true rfl⟩) (xPV hPc hDc hK hN 0 rfl rfl) rfl rfl hl.1 rfl (lv_room (Nat.le_of_ble_eq_true rfl)) (dAt zX5_taken_0 11 rfl) ⟨Nat.zero_le _, Nat.zero_le _⟩) hS hA hP hD [18, 19, 20, 21, 22, 23, 16, 17, 1, 2, 3, 4, 5] [0, 6, 7, 8, 9, 10, 11, 12, 13, 14, 15, 24, 25, 26, 27, 28, 29] [0, 25, 26, 27, 28, 29, 1, 2, 3, 4, 5, 6, 7, 8, 9, 10, 23, 24, 17, 18, 19, 20, 21, 22, 11, 12, 13, 14, 15, 16] rfl rfl (by decide) (by decide) rfl (by decide) (fun H locs hP hD hS => ?_)
    refine lv_istore_n (lv' := [(2, .int u22.1), (0, .ref (qX 0)), (1, .int a1)]) hx hb (dAt zX5_taken_0 12 rfl) rfl hl (by decide) rfl (fun ls hl => ?_)
    refine lv_iload_n hx hb (dAt zX5_taken_0 13 rfl) rfl (lv_at hl 0 rfl) ?_
    refine lv_if_eq (tgt := 32) hx hb (dAt zX5_taken_0 14 rfl) (by decide) (fun c_27 => ?_) (fun c_27 => ?_)
    · have h := q_pos c_27 h
      refine lv_iload_n hx hb (dAt zX5_taken_0 17 rfl) rfl (lv_at hl 2 rfl) ?_
      refine lv_if_ne (tgt := 46) hx hb (dAt zX5_taken_0 18 rfl) (by decide) (fun c_33 => ?_) (fun c_33 => ?_)
      · have h := q_neg c_33 h
        refine lv_aload_n hx hb (dAt zX5_taken_0 23 rfl) rfl (lv_at hl 1 rfl) ?_
        refine va_get (D := D) (ci := 5) (v := .ref (qC 0)) (C := RX5) (T := TX5) (N := 8) hx hb htl inlX5 hown hK hP 0 rfl rfl 5 (by decide) (htl _ W_26) (fun _ h9 => h9) rfl (dAt zX5_taken_0 24 rfl) ?_
        refine va_get (D := D) (ci := 1) (v := .int (u22.2.1 0 6)) (C := RX1) (T := TX1) (N := 7) hx hb htl inlX1 hown hK hP 18 rfl rfl 6 (by decide) (htl _ W_505) (fun _ h9 => h9) rfl (dAt zX5_taken_0 25 rfl) ?_
        obtain rfl := q_some h
        exact xRi hx hb hr hlocks hQ hAe hP hD hK hS rfl (dAt zX5_taken_0 26 rfl)
      · have h := q_pos c_33 h
        refine lv_aload_n hx hb (dAt zX5_taken_0 19 rfl) rfl (lv_at hl 1 rfl) ?_
        refine va_get (D := D) (ci := 5) (v := .ref (qC 0)) (C := RX5) (T := TX5) (N := 8) hx hb htl inlX5 hown hK hP 0 rfl rfl 5 (by decide) (htl _ W_26) (fun _ h9 => h9) rfl (dAt zX5_taken_0 20 rfl) ?_
        refine va_get (D := D) (ci := 1) (v := .int (u22.2.1 0 5)) (C := RX1) (T := TX1) (N := 7) hx hb htl inlX1 hown hK hP 18 rfl rfl 5 (by decide) (htl _ W_504) (fun _ h9 => h9) rfl (dAt zX5_taken_0 21 rfl) ?_
        refine lv_goto (tgt := 53) hx hb (dAt zX5_taken_0 22 rfl) (by decide) ?_
        obtain rfl := q_some h
        exact xRi hx hb hr hlocks hQ hAe hP hD hK hS rfl (dAt zX5_taken_0 26 rfl)
    · have h := q_neg c_27 h
      refine lv_iload_n hx hb (dAt zX5_taken_0 15 rfl) rfl (lv_at hl 0 rfl) ?_
      obtain rfl := q_some h
      exact xRi hx hb hr hlocks hQ hAe hP hD hK hS rfl (dAt zX5_taken_0 16 rfl)
  · have h := q_pos c_4 h
    refine lv_bipush (v := (-2)) hx hb (dAt zX5_taken_0 3 rfl) (by decide) ?_
    obtain rfl := q_some h
    exact xRi hx hb hr hlocks hQ hAe hP hD hK hS rfl (dAt zX5_taken_0 4 rfl)
def m_X5_done (n : Nat) (zX : TI) (zT : TI) (zI : TI) (zJ : TI) (zP : TI) (zC : TI) (zV : TI) (zF : TI) (zA : TL) : Option (Int32 × TI × TI × TI × TI) := ((m_X1_play n zC zV zP zT).bind fun u12 => (if u12.1 = 0 then ((m_X4_copyFrom n zT u12.2.2).bind fun u33 => some ((u12.2.1 0 1), u33, (sf zP 1 0), u12.2.1, u12.2.2)) else some (u12.1, zT, zP, u12.2.1, u12.2.2)))
set_option maxHeartbeats 4000000 in
set_option maxRecDepth 100000 in
theorem c_X5_done (l : Launch) (D : va_G) (cI cJ cZ : ClassId) (n : Nat) (qX : Nat → Nat) (qT : Nat → Nat) (qI : Nat → Nat) (qJ : Nat → Nat) (qP : Nat → Nat) (qC : Nat → Nat) (qV : Nat → Nat) (qF : Nat → Nat) (qA : Nat → Nat) (sz : Nat) (zX : TI) (zT : TI) (zI : TI) (zJ : TI) (zP : TI) (zC : TI) (zV : TI) (zF : TI) (zA : TL) (out : Int32 × TI × TI × TI × TI) (hm : m_X5_done n zX zT zI zJ zP zC zV zF zA = some out) : Met l yX5_done (wsM yX5_done cX5_done 2 (some .int)) { frames := 6, cells := 0, slots := 0, locals := 140 } (xPre D (kT cI cJ cZ) (w5 qX qT qI qJ qP qC qF qA zX ++ (w4 cI qT zT ++ (w4 cI qI zI ++ (w4 cI qJ zJ ++ (w2 cI qP zP ++ (w1 qC qV zC ++ (w4 cI qV zV ++ (w3 cI qF zF ++ (w0 cJ qA zA))))))))) sz [.ref (qX 0)]) (xQi D (kT cI cJ cZ) (w5 qX qT qI qJ qP qC qF qA zX ++ (w4 cI qT zT ++ (w4 cI qI zI ++ (w4 cI qJ zJ ++ (w2 cI qP zP ++ (w1 qC qV zC ++ (w4 cI qV zV ++ (w3 cI qF zF ++ (w0 cJ qA zA))))))))) (w5 qX qT qI qJ qP qC qF qA zX ++ (w4 cI qT out.2.1 ++ (w4 cI qI zI ++ (w4 cI qJ zJ ++ (w2 cI qP out.2.2.1 ++ (w1 qC qV out.2.2.2.1 ++ (w4 cI qV out.2.2.2.2 ++ (w3 cI qF zF ++ (w0 cJ qA zA))))))))) sz out.1) 0 0 (va_A (w5 qX qT qI qJ qP qC qF qA zX ++ (w4 cI qT zT ++ (w4 cI qI zI ++ (w4 cI qJ zJ ++ (w2 cI qP zP ++ (w1 qC qV zC ++ (w4 cI qV zV ++ (w3 cI qF zF ++ (w0 cJ qA zA))))))))) sz) := by
  refine Met.ofW (cc := cX5_done) (maxL := 2) (ret := (some .int)) (by decide) rfl ?_
  intro p e s m args below meth c s₁ B hml hv
  obtain ⟨hv, hsz, hP, hK, hD0, hN⟩ := hv
  have hx := B.exec; have hb := B.bytes; have hr := B.returns
  have hts := atoms_spec (ws := (wsM yX5_done cX5_done 2 (some .int))) B.pre
  have hown : s.vm.findClass RX5 = some m.cls := findClass_of_methodNamed B.named
  have hlocks := B.notSynchronized
  subst hsz
  have hD := hD0.self (sz := s.heap.size)
  obtain ⟨A, hAe⟩ : ∃ A, A = va_A (w5 qX qT qI qJ qP qC qF qA zX ++ (w4 cI qT zT ++ (w4 cI qI zI ++ (w4 cI qJ zJ ++ (w2 cI qP zP ++ (w1 qC qV zC ++ (w4 cI qV zV ++ (w3 cI qF zF ++ (w0 cJ qA zA))))))))) s.heap.size := ⟨_, rfl⟩
  rw [← hAe] at hD
  have hA : ∀ q : Nat, s.heap.size ≤ q → A q := fun q h => by rw [hAe]; exact Or.inr h
  have htl : ∀ w ∈ wsL_law, w.before args s = true := fun w h => hts w (List.mem_cons_of_mem _ h)
  refine xHead (R' := { frames := 6, cells := 0, slots := 0, locals := 140 }) rfl (fun Q H hQ hH => ?_)
  have hP : va_P D vwCl (w5 qX qT qI qJ qP qC qF qA zX ++ (w4 cI qT zT ++ (w4 cI qI zI ++ (w4 cI qJ zJ ++ (w2 cI qP zP ++ (w1 qC qV zC ++ (w4 cI qV zV ++ (w3 cI qF zF ++ (w0 cJ qA zA))))))))) H := by rw [hH]; exact hP
  have hS : va_S A s.heap H [] := by rw [hH]; exact va_S.rf
  refine xStart hv (Nat.le_of_ble_eq_true rfl) (lv := [(0, .ref (qX 0))]) rfl (fun ls hl => ?_)
  have h := hm
  unfold m_X5_done at h
  refine lv_aload_n hx hb (dAt zX5_done_0 0 rfl) rfl (lv_at hl 0 rfl) ?_
  refine va_get (D := D) (ci := 5) (v := .ref (qC 0)) (C := RX5) (T := TX5) (N := 8) hx hb htl inlX5 hown hK hP 0 rfl rfl 5 (by decide) (htl _ W_26) (fun _ h9 => h9) rfl (dAt zX5_done_0 1 rfl) ?_
  refine lv_aload_n hx hb (dAt zX5_done_0 2 rfl) rfl (lv_at hl 0 rfl) ?_
  refine va_get (D := D) (ci := 5) (v := .ref (qP 0)) (C := RX5) (T := TX5) (N := 8) hx hb htl inlX5 hown hK hP 0 rfl rfl 4 (by decide) (htl _ W_22) (fun _ h9 => h9) rfl (dAt zX5_done_0 3 rfl) ?_
  refine lv_aload_n hx hb (dAt zX5_done_0 4 rfl) rfl (lv_at hl 0 rfl) ?_
  refine va_get (D := D) (ci := 5) (v := .ref (qT 0)) (C := RX5) (T := TX5) (N := 8) hx hb htl inlX5 hown hK hP 0 rfl rfl 0 (by decide) (htl _ W_15) (fun _ h9 => h9) rfl (dAt zX5_done_0 5 rfl) ?_
  obtain ⟨u12, hu12, h⟩ := q_bind h
  have hPc : va_P D vwCl (w1 qC qV zC ++ (w4 cI qV zV ++ (w2 cI qP zP ++ (w4 cI qT zT)))) H := hP.sub [18, 19, 20, 21, 22, 23, 16, 17, 1, 2, 3, 4, 5] rfl
  have hDc : va_D A (w1 qC qV zC ++ (w4 cI qV zV ++ (w2 cI qP zP ++ (w4 cI qT zT)))) := hD.sub [18, 19, 20, 21, 22, 23, 16, 17, 1, 2, 3, 4, 5] (by decide) rfl
  refine xFi (wc := (w1 qC qV zC ++ (w4 cI qV zV ++ (w2 cI qP zP ++ (w4 cI qT zT))))) (w1 := (w1 qC qV u12.2.1 ++ (w4 cI qV u12.2.2 ++ (w2 cI qP zP ++ (w4 cI qT zT))))) (wr := (w5 qX qT qI qJ qP qC qF qA zX ++ (w4 cI qI zI ++ (w4 cI qJ zJ ++ (w3 cI qF zF ++ (w0 cJ qA zA)))))) (ws2 := (w5 qX qT qI qJ qP qC qF qA zX ++ (w4 cI qT zT ++ (w4 cI qI zI ++ (w4 cI qJ zJ ++ (w2 cI qP zP ++ (w1 qC qV u12.2.1 ++ (w4 cI qV u12.2.2 ++ (w3 cI qF zF ++ (w0 cJ qA zA)))))))))) (va_runV (As := [.ref (qP 0), .ref (qT 0)]) (rest := []) ⟨hx, hb, hml, hown, htl⟩ (c_X1_play l D cI cJ cZ n qC qV qP qT H.size zC zV zP zT  u12 hu12) (cwV 2 htl (gV W_267 W_268 W_269 W_25 W_270) rfl rfl rfl (by decide +kernel) ⟨Nat.le_of_ble_eq_true rfl, Nat.le_of_ble_eq_true rfl⟩) (xPV hPc hDc hK hN 0 rfl rfl) rfl rfl hl.1 rfl (lv_room (Nat.le_of_ble_eq_true rfl)) (dAt zX5_done_0 6 rfl) ⟨Nat.zero_le _, Nat.zero_le _⟩) hS hA hP hD [18, 19, 20, 21, 22, 23, 16, 17, 1, 2, 3, 4, 5] [0, 6, 7, 8, 9, 10, 11, 12, 13, 14, 15, 24, 25, 26, 27, 28, 29] [0, 25, 26, 27, 28, 29, 1, 2, 3, 4, 5, 6, 7, 8, 9, 10, 23, 24, 17, 18, 19, 20, 21, 22, 11, 12, 13, 14, 15, 16] rfl rfl (by decide) (by decide) rfl (by decide) (fun H locs hP hD hS => ?_)
  refine lv_istore_n (lv' := [(1, .int u12.1), (0, .ref (qX 0))]) hx hb (dAt zX5_done_0 7 rfl) rfl hl (by decide) rfl (fun ls hl => ?_)
  refine lv_iload_n hx hb (dAt zX5_done_0 8 rfl) rfl (lv_at hl 0 rfl) ?_
  refine lv_if_eq (tgt := 22) hx hb (dAt zX5_done_0 9 rfl) (by decide) (fun c_17 => ?_) (fun c_17 => ?_)
  · have h := q_pos c_17 h
    refine lv_aload_n hx hb (dAt zX5_done_0 12 rfl) rfl (lv_at hl 1 rfl) ?_
    refine va_get (D := D) (ci := 5) (v := .ref (qT 0)) (C := RX5) (T := TX5) (N := 8) hx hb htl inlX5 hown hK hP 0 rfl rfl 0 (by decide) (htl _ W_15) (fun _ h9 => h9) rfl (dAt zX5_done_0 13 rfl) ?_
    refine lv_aload_n hx hb (dAt zX5_done_0 14 rfl) rfl (lv_at hl 1 rfl) ?_
    refine va_get (D := D) (ci := 5) (v := .ref (qC 0)) (C := RX5) (T := TX5) (N := 8) hx hb htl inlX5 hown hK hP 0 rfl rfl 5 (by decide) (htl _ W_26) (fun _ h9 => h9) rfl (dAt zX5_done_0 15 rfl) ?_
    refine va_get (D := D) (ci := 1) (v := .ref (qV 0)) (C := RX1) (T := TX1) (N := 7) hx hb htl inlX1 hown hK hP 18 rfl rfl 0 (by decide) (htl _ W_474) (fun _ h9 => h9) rfl (dAt zX5_done_0 16 rfl) ?_
    obtain ⟨u33, hu33, h⟩ := q_bind h
    have hPc : va_P D vwCl (w4 cI qT zT ++ (w4 cI qV u12.2.2)) H := hP.sub [1, 2, 3, 4, 5, 19, 20, 21, 22, 23] rfl
    have hDc : va_D A (w4 cI qT zT ++ (w4 cI qV u12.2.2)) := hD.sub [1, 2, 3, 4, 5, 19, 20, 21, 22, 23] (by decide) rfl
    refine xFv (wc := (w4 cI qT zT ++ (w4 cI qV u12.2.2))) (w1 := (w4 cI qT u33 ++ (w4 cI qV u12.2.2))) (wr := (w5 qX qT qI qJ qP qC qF qA zX ++ (w4 cI qI zI ++ (w4 cI qJ zJ ++ (w2 cI qP zP ++ (w1 qC qV u12.2.1 ++ (w3 cI qF zF ++ (w0 cJ qA zA)))))))) (ws2 := (w5 qX qT qI qJ qP qC qF qA zX ++ (w4 cI qT u33 ++ (w4 cI qI zI ++ (w4 cI qJ zJ ++ (w2 cI qP zP ++ (w1 qC qV u12.2.1 ++ (w4 cI qV u12.2.2 ++ (w3 cI qF zF ++ (w0 cJ qA zA)))))))))) (va_runV (As := [.ref (qV 0)]) (rest := []) ⟨hx, hb, hml, hown, htl⟩ (c_X4_copyFrom l D cI cJ cZ n qT qV H.size zT u12.2.2  u33 hu33) (cwV 1 htl (gV W_514 W_278 W_279 W_14 W_280) rfl rfl rfl (by decide +kernel) ⟨Nat.le_of_ble_eq_true rfl, Nat.le_of_ble_eq_true rfl⟩) (xPV hPc hDc hK hN 0 rfl rfl) rfl rfl hl.1 rfl (lv_room (Nat.le_of_ble_eq_true rfl)) (dAt zX5_done_0 17 rfl) ⟨Nat.zero_le _, Nat.zero_le _⟩) hS hA hP hD [1, 2, 3, 4, 5, 19, 20, 21, 22, 23] [0, 6, 7, 8, 9, 10, 11, 12, 13, 14, 15, 16, 17, 18, 24, 25, 26, 27, 28, 29] [0, 20, 21, 22, 23, 24, 1, 2, 3, 4, 5, 6, 7, 8, 9, 10, 11, 12, 13, 25, 26, 27, 28, 29, 14, 15, 16, 17, 18, 19] rfl rfl (by decide) (by decide) rfl (by decide) (fun H locs hP hD hS => ?_)
    refine lv_aload_n hx hb (dAt zX5_done_0 18 rfl) rfl (lv_at hl 1 rfl) ?_
    refine va_get (D := D) (ci := 5) (v := .ref (qP 0)) (C := RX5) (T := TX5) (N := 8) hx hb htl inlX5 hown hK hP 0 rfl rfl 4 (by decide) (htl _ W_22) (fun _ h9 => h9) rfl (dAt zX5_done_0 19 rfl) ?_
    refine lv_iconst (v := 0) hx hb (dAt zX5_done_0 20 rfl) (by decide) ?_
    refine va_put (D := D) (ci := 2) (v := .int 0) (ty := .int) (C := RX2) (T := TX2) (N := 2) hx hb htl inlX2 tyX2 tyX2_ok nmX2 hown hK hP hD hS 16 rfl rfl 1 (by decide) (htl _ W_191) (fun _ h9 => h9) rfl (by decide +kernel) rfl rfl (Nat.le_of_ble_eq_true rfl) (dAt zX5_done_0 21 rfl) (fun H locs hP hD hS => ?_)
    have hP : va_P D vwCl (w5 qX qT qI qJ qP qC qF qA zX ++ (w4 cI qT u33 ++ (w4 cI qI zI ++ (w4 cI qJ zJ ++ (w2x cI qP 0 (zP 1) ++ (w1 qC qV u12.2.1 ++ (w4 cI qV u12.2.2 ++ (w3 cI qF zF ++ (w0 cJ qA zA))))))))) H := hP
    have hD : va_D A (w5 qX qT qI qJ qP qC qF qA zX ++ (w4 cI qT u33 ++ (w4 cI qI zI ++ (w4 cI qJ zJ ++ (w2x cI qP 0 (zP 1) ++ (w1 qC qV u12.2.1 ++ (w4 cI qV u12.2.2 ++ (w3 cI qF zF ++ (w0 cJ qA zA))))))))) := hD
    refine lv_aload_n hx hb (dAt zX5_done_0 22 rfl) rfl (lv_at hl 1 rfl) ?_
    refine va_get (D := D) (ci := 5) (v := .ref (qC 0)) (C := RX5) (T := TX5) (N := 8) hx hb htl inlX5 hown hK hP 0 rfl rfl 5 (by decide) (htl _ W_26) (fun _ h9 => h9) rfl (dAt zX5_done_0 23 rfl) ?_
    refine va_get (D := D) (ci := 1) (v := .int (u12.2.1 0 1)) (C := RX1) (T := TX1) (N := 7) hx hb htl inlX1 hown hK hP 18 rfl rfl 1 (by decide) (htl _ W_265) (fun _ h9 => h9) rfl (dAt zX5_done_0 24 rfl) ?_
    have hP : va_P D vwCl (w5 qX qT qI qJ qP qC qF qA zX ++ (w4 cI qT u33 ++ (w4 cI qI zI ++ (w4 cI qJ zJ ++ (w2 cI qP (sf zP 1 0) ++ (w1 qC qV u12.2.1 ++ (w4 cI qV u12.2.2 ++ (w3 cI qF zF ++ (w0 cJ qA zA))))))))) H := hP
    have hD : va_D A (w5 qX qT qI qJ qP qC qF qA zX ++ (w4 cI qT u33 ++ (w4 cI qI zI ++ (w4 cI qJ zJ ++ (w2 cI qP (sf zP 1 0) ++ (w1 qC qV u12.2.1 ++ (w4 cI qV u12.2.2 ++ (w3 cI qF zF ++ (w0 cJ qA zA))))))))) := hD
    obtain rfl := q_some h
    exact xRi hx hb hr hlocks hQ hAe hP hD hK hS rfl (dAt zX5_done_0 25 rfl)
  · have h := q_neg c_17 h
    refine lv_iload_n hx hb (dAt zX5_done_0 10 rfl) rfl (lv_at hl 0 rfl) ?_
    obtain rfl := q_some h
    exact xRi hx hb hr hlocks hQ hAe hP hD hK hS rfl (dAt zX5_done_0 11 rfl)
def b_X4_tiedTo_5 (n : Nat) (zT : TI) (a1 : Int32) (a2 : Int32) (s_5 : Int32 × Int32) (k_5 : Int32 × Int32 → Option Int32) : Option Int32 := (if 10 ≤ s_5.2 then some s_5.1 else ((m_X4_strength n zT a1 s_5.2).bind fun u16 => (if u16 < a2 then (k_5 (s_5.1, (s_5.2 + 1))) else (k_5 ((s_5.1 ||| ((1 : Int32) <<< (s_5.2 &&& 31))), (s_5.2 + 1))))))
def m_X4_tiedTo (n : Nat) (zT : TI) (a1 : Int32) (a2 : Int32) : Option Int32 := (loopF (b_X4_tiedTo_5 n zT a1 a2 ) n (0, 0))
set_option maxHeartbeats 4000000 in
set_option maxRecDepth 100000 in
theorem c_X4_tiedTo (l : Launch) (D : va_G) (cI cJ cZ : ClassId) (n : Nat) (qT : Nat → Nat) (sz : Nat) (zT : TI) (a1 : Int32) (a2 : Int32) (out : Int32) (hm : m_X4_tiedTo n zT a1 a2 = some out) : Met l yX4_tiedTo (wsM yX4_tiedTo cX4_tiedTo 5 (some .int)) { frames := 1, cells := 0, slots := 0, locals := 22 } (xPre D (kT cI cJ cZ) (w4 cI qT zT) sz [.ref (qT 0), .int a1, .int a2]) (xQi D (kT cI cJ cZ) (w4 cI qT zT) (w4 cI qT zT) sz out) 0 0 (va_A (w4 cI qT zT) sz) := by
  refine Met.ofW (cc := cX4_tiedTo) (maxL := 5) (ret := (some .int)) (by decide) rfl ?_
  intro p e s m args below meth c s₁ B hml hv
  obtain ⟨hv, hsz, hP, hK, hD0, hN⟩ := hv
  have hx := B.exec; have hb := B.bytes; have hr := B.returns
  have hts := atoms_spec (ws := (wsM yX4_tiedTo cX4_tiedTo 5 (some .int))) B.pre
  have hown : s.vm.findClass RX4 = some m.cls := findClass_of_methodNamed B.named
  have hlocks := B.notSynchronized
  subst hsz
  have hD := hD0.self (sz := s.heap.size)
  obtain ⟨A, hAe⟩ : ∃ A, A = va_A (w4 cI qT zT) s.heap.size := ⟨_, rfl⟩
  rw [← hAe] at hD
  have hA : ∀ q : Nat, s.heap.size ≤ q → A q := fun q h => by rw [hAe]; exact Or.inr h
  have htl : ∀ w ∈ wsL_law, w.before args s = true := fun w h => hts w (List.mem_cons_of_mem _ h)
  refine xHead (R' := { frames := 1, cells := 0, slots := 0, locals := 22 }) rfl (fun Q H hQ hH => ?_)
  have hP : va_P D vwCl (w4 cI qT zT) H := by rw [hH]; exact hP
  have hS : va_S A s.heap H [] := by rw [hH]; exact va_S.rf
  refine xStart hv (Nat.le_of_ble_eq_true rfl) (lv := [(0, .ref (qT 0)), (1, .int a1), (2, .int a2)]) rfl (fun ls hl => ?_)
  have h := hm
  unfold m_X4_tiedTo at h
  refine lv_iconst (v := 0) hx hb (dAt zX4_tiedTo_0 0 rfl) (by decide) ?_
  refine lv_istore_n (lv' := [(3, .int 0), (0, .ref (qT 0)), (1, .int a1), (2, .int a2)]) hx hb (dAt zX4_tiedTo_0 1 rfl) rfl hl (by decide) rfl (fun ls hl => ?_)
  refine lv_iconst (v := 0) hx hb (dAt zX4_tiedTo_0 2 rfl) (by decide) ?_
  refine lv_istore (lv' := [(4, .int 0), (3, .int 0), (0, .ref (qT 0)), (1, .int a1), (2, .int a2)]) hx hb (dAt zX4_tiedTo_0 3 rfl) hl (by decide) rfl (fun ls hl => ?_)
  have L_5 : ∀ (j_5 : Nat) (v3_5 : Int32) (v4_5 : Int32) (H : Heap) (locs : List Loc) (ls : Array Slot), loopF (b_X4_tiedTo_5 n zT a1 a2) j_5 (v3_5, v4_5) = some out → va_P D vwCl (w4 cI qT zT) H → va_D A (w4 cI qT zT) → va_S A s.heap H locs → lv_has ls 5 [(0, .ref (qT 0)), (1, .int a1), (2, .int a2), (3, .int v3_5), (4, .int v4_5)] → W p l e { frames := 1, cells := 0, slots := 0, locals := 22 } s m args below meth c H locs 0 0 Q (F0 m 5 ls []) := by
    intro j_5
    induction j_5 with
    | zero => intro v3_5 v4_5 H locs ls h hP hD hS hl; exact loopF_0 h
    | succ j_5 ih_5 =>
      intro v3_5 v4_5 H locs ls h hP hD hS hl
      have h := loopF_s h
      unfold b_X4_tiedTo_5 at h
      refine lv_iload hx hb (dAt zX4_tiedTo_0 4 rfl) (lv_at hl 4 rfl) ?_
      refine lv_bipush (v := 10) hx hb (dAt zX4_tiedTo_0 5 rfl) (by decide) ?_
      refine lv_icmp_ge (tgt := 36) hx hb (dAt zX4_tiedTo_0 6 rfl) (by decide) (fun c_9 => ?_) (fun c_9 => ?_)
      · have h := q_pos c_9 h
        refine lv_iload_n hx hb (dAt zX4_tiedTo_0 21 rfl) rfl (lv_at hl 3 rfl) ?_
        obtain rfl := q_some h
        exact xRi hx hb hr hlocks hQ hAe hP hD hK hS rfl (dAt zX4_tiedTo_0 22 rfl)
      · have h := q_neg c_9 h
        refine lv_aload_n hx hb (dAt zX4_tiedTo_0 7 rfl) rfl (lv_at hl 0 rfl) ?_
        refine lv_iload_n hx hb (dAt zX4_tiedTo_0 8 rfl) rfl (lv_at hl 1 rfl) ?_
        refine lv_iload hx hb (dAt zX4_tiedTo_0 9 rfl) (lv_at hl 4 rfl) ?_
        obtain ⟨u16, hu16, h⟩ := q_bind h
        refine xFi (wc := (w4 cI qT zT)) (w1 := (w4 cI qT zT)) (wr := ([] : va_W)) (ws2 := (w4 cI qT zT)) (va_runV (As := [.int a1, .int v4_5]) (rest := []) ⟨hx, hb, hml, hown, htl⟩ (c_X4_strength l D cI cJ cZ n qT H.size zT a1 v4_5 u16 hu16) (cwV 2 htl (gV W_313 W_114 W_115 W_14 W_116) rfl rfl rfl (by decide +kernel) ⟨Nat.le_of_ble_eq_true rfl, Nat.le_of_ble_eq_true rfl⟩) (xPV hP hD hK hN 0 rfl rfl) rfl rfl hl.1 rfl (lv_room (Nat.le_of_ble_eq_true rfl)) (dAt zX4_tiedTo_0 10 rfl) ⟨Nat.zero_le _, Nat.zero_le _⟩) hS hA hP hD [0, 1, 2, 3, 4] [] [0, 1, 2, 3, 4] rfl rfl (by decide) (by decide) rfl (by decide) (fun H locs hP hD hS => ?_)
        refine lv_iload_n hx hb (dAt zX4_tiedTo_0 11 rfl) rfl (lv_at hl 2 rfl) ?_
        refine lv_icmp_lt (tgt := 30) hx hb (dAt zX4_tiedTo_0 12 rfl) (by decide) (fun c_20 => ?_) (fun c_20 => ?_)
        · have h := q_pos c_20 h
          refine lv_iinc (v := (v4_5 + 1)) (lv' := [(4, .int (v4_5 + 1)), (0, .ref (qT 0)), (1, .int a1), (2, .int a2), (3, .int v3_5)]) hx hb (dAt zX4_tiedTo_0 19 rfl) hl (k := 4) rfl rfl (by decide) rfl (fun ls hl => ?_)
          refine lv_goto (tgt := 5) hx hb (dAt zX4_tiedTo_0 20 rfl) (by decide) ?_
          exact ih_5 v3_5 (v4_5 + 1) _ _ _ h hP hD hS (lv_sub hl [1, 2, 3, 4, 0] rfl)
        · have h := q_neg c_20 h
          refine lv_iload_n hx hb (dAt zX4_tiedTo_0 13 rfl) rfl (lv_at hl 3 rfl) ?_
          refine lv_iconst (v := 1) hx hb (dAt zX4_tiedTo_0 14 rfl) (by decide) ?_
          refine lv_iload hx hb (dAt zX4_tiedTo_0 15 rfl) (lv_at hl 4 rfl) ?_
          refine lv_ishl hx hb (dAt zX4_tiedTo_0 16 rfl) ?_
          refine lv_ior hx hb (dAt zX4_tiedTo_0 17 rfl) ?_
          refine lv_istore_n (lv' := [(3, .int (v3_5 ||| ((1 : Int32) <<< (v4_5 &&& 31)))), (0, .ref (qT 0)), (1, .int a1), (2, .int a2), (4, .int v4_5)]) hx hb (dAt zX4_tiedTo_0 18 rfl) rfl hl (by decide) rfl (fun ls hl => ?_)
          refine lv_iinc (v := (v4_5 + 1)) (lv' := [(4, .int (v4_5 + 1)), (3, .int (v3_5 ||| ((1 : Int32) <<< (v4_5 &&& 31)))), (0, .ref (qT 0)), (1, .int a1), (2, .int a2)]) hx hb (dAt zX4_tiedTo_0 19 rfl) hl (k := 4) rfl rfl (by decide) rfl (fun ls hl => ?_)
          refine lv_goto (tgt := 5) hx hb (dAt zX4_tiedTo_0 20 rfl) (by decide) ?_
          exact ih_5 (v3_5 ||| ((1 : Int32) <<< (v4_5 &&& 31))) (v4_5 + 1) _ _ _ h hP hD hS (lv_sub hl [2, 3, 4, 1, 0] rfl)
  exact L_5 n 0 0 _ _ _ h hP hD hS (lv_sub hl [2, 3, 4, 1, 0] rfl)
def b_X3_lookAt_10 (n : Nat) (zT : TI) (s_10 : Int32 × TI) (k_10 : Int32 × TI → Option TI) : Option TI := (if 10 ≤ s_10.1 then some s_10.2 else ((m_X4_missingIt n zT s_10.1).bind fun u23 => (gd (inB s_10.1 10) (((m_X4_tiesNeeded n zT s_10.1).bind fun u34 => (gd (inB s_10.1 10) (((m_X4_tiedTo n zT s_10.1 1).bind fun u46 => (gd (inB s_10.1 10) ((k_10 ((s_10.1 + 1), (upA (upA (upA s_10.2 1 (upd (s_10.2 1) (Int32.toNatClampNeg s_10.1) u23)) 2 (upd (s_10.2 2) (Int32.toNatClampNeg s_10.1) u34)) 3 (upd (s_10.2 3) (Int32.toNatClampNeg s_10.1) u46))))))))))))))
def m_X3_lookAt (n : Nat) (zF : TI) (zT : TI) : Option TI := (loopF (b_X3_lookAt_10 n zT ) n (0, (sf zF 3 (zT 0 0))))
set_option maxHeartbeats 4000000 in
set_option maxRecDepth 100000 in
theorem c_X3_lookAt (l : Launch) (D : va_G) (cI cJ cZ : ClassId) (n : Nat) (qF : Nat → Nat) (qT : Nat → Nat) (sz : Nat) (zF : TI) (zT : TI) (out : TI) (hm : m_X3_lookAt n zF zT = some out) : Met l yX3_lookAt (wsM yX3_lookAt cX3_lookAt 3 none) { frames := 2, cells := 0, slots := 0, locals := 47 } (xPre D (kT cI cJ cZ) (w3 cI qF zF ++ (w4 cI qT zT)) sz [.ref (qF 0), .ref (qT 0)]) (xQv D (kT cI cJ cZ) (w3 cI qF zF ++ (w4 cI qT zT)) (w3 cI qF out ++ (w4 cI qT zT)) sz) 0 0 (va_A (w3 cI qF zF ++ (w4 cI qT zT)) sz) := by
  refine Met.ofW (cc := cX3_lookAt) (maxL := 3) (ret := none) (by decide) rfl ?_
  intro p e s m args below meth c s₁ B hml hv
  obtain ⟨hv, hsz, hP, hK, hD0, hN⟩ := hv
  have hx := B.exec; have hb := B.bytes; have hr := B.returns
  have hts := atoms_spec (ws := (wsM yX3_lookAt cX3_lookAt 3 none)) B.pre
  have hown : s.vm.findClass RX3 = some m.cls := findClass_of_methodNamed B.named
  have hlocks := B.notSynchronized
  subst hsz
  have hD := hD0.self (sz := s.heap.size)
  obtain ⟨A, hAe⟩ : ∃ A, A = va_A (w3 cI qF zF ++ (w4 cI qT zT)) s.heap.size := ⟨_, rfl⟩
  rw [← hAe] at hD
  have hA : ∀ q : Nat, s.heap.size ≤ q → A q := fun q h => by rw [hAe]; exact Or.inr h
  have htl : ∀ w ∈ wsL_law, w.before args s = true := fun w h => hts w (List.mem_cons_of_mem _ h)
  refine xHead (R' := { frames := 2, cells := 0, slots := 0, locals := 47 }) rfl (fun Q H hQ hH => ?_)
  have hP : va_P D vwCl (w3 cI qF zF ++ (w4 cI qT zT)) H := by rw [hH]; exact hP
  have hS : va_S A s.heap H [] := by rw [hH]; exact va_S.rf
  refine xStart hv (Nat.le_of_ble_eq_true rfl) (lv := [(0, .ref (qF 0)), (1, .ref (qT 0))]) rfl (fun ls hl => ?_)
  have h := hm
  unfold m_X3_lookAt at h
  refine lv_aload_n hx hb (dAt zX3_lookAt_0 0 rfl) rfl (lv_at hl 0 rfl) ?_
  refine lv_aload_n hx hb (dAt zX3_lookAt_0 1 rfl) rfl (lv_at hl 1 rfl) ?_
  refine va_get (D := D) (ci := 4) (v := .int (zT 0 0)) (C := RX4) (T := TX4) (N := 9) hx hb htl inlX4 hown hK hP 4 rfl rfl 0 (by decide) (htl _ W_527) (fun _ h9 => h9) rfl (dAt zX3_lookAt_0 2 rfl) ?_
  refine va_put (D := D) (ci := 3) (v := .int (zT 0 0)) (ty := .int) (C := RX3) (T := TX3) (N := 4) hx hb htl inlX3 tyX3 tyX3_ok nmX3 hown hK hP hD hS 0 rfl rfl 3 (by decide) (htl _ W_72) (fun _ h9 => h9) rfl (by decide +kernel) rfl rfl (Nat.le_of_ble_eq_true rfl) (dAt zX3_lookAt_0 3 rfl) (fun H locs hP hD hS => ?_)
  have hP : va_P D vwCl (w3x cI qF (zT 0 0) (zF 1) (zF 2) (zF 3) ++ (w4 cI qT zT)) H := hP
  have hD : va_D A (w3x cI qF (zT 0 0) (zF 1) (zF 2) (zF 3) ++ (w4 cI qT zT)) := hD
  refine lv_iconst (v := 0) hx hb (dAt zX3_lookAt_0 4 rfl) (by decide) ?_
  refine lv_istore_n (lv' := [(2, .int 0), (0, .ref (qF 0)), (1, .ref (qT 0))]) hx hb (dAt zX3_lookAt_0 5 rfl) rfl hl (by decide) rfl (fun ls hl => ?_)
  have hP : va_P D vwCl (w3 cI qF (sf zF 3 (zT 0 0)) ++ (w4 cI qT zT)) H := hP
  have hD : va_D A (w3 cI qF (sf zF 3 (zT 0 0)) ++ (w4 cI qT zT)) := hD
  have L_10 : ∀ (j_10 : Nat) (v2_10 : Int32) (zF_10 : TI) (H : Heap) (locs : List Loc) (ls : Array Slot), loopF (b_X3_lookAt_10 n zT) j_10 (v2_10, zF_10) = some out → va_P D vwCl (w3 cI qF zF_10 ++ (w4 cI qT zT)) H → va_D A (w3 cI qF zF_10 ++ (w4 cI qT zT)) → va_S A s.heap H locs → lv_has ls 3 [(0, .ref (qF 0)), (1, .ref (qT 0)), (2, .int v2_10)] → W p l e { frames := 2, cells := 0, slots := 0, locals := 47 } s m args below meth c H locs 0 0 Q (F0 m 10 ls []) := by
    intro j_10
    induction j_10 with
    | zero => intro v2_10 zF_10 H locs ls h hP hD hS hl; exact loopF_0 h
    | succ j_10 ih_10 =>
      intro v2_10 zF_10 H locs ls h hP hD hS hl
      have h := loopF_s h
      unfold b_X3_lookAt_10 at h
      refine lv_iload_n hx hb (dAt zX3_lookAt_0 6 rfl) rfl (lv_at hl 2 rfl) ?_
      refine lv_bipush (v := 10) hx hb (dAt zX3_lookAt_0 7 rfl) (by decide) ?_
      refine lv_icmp_ge (tgt := 56) hx hb (dAt zX3_lookAt_0 8 rfl) (by decide) (fun c_13 => ?_) (fun c_13 => ?_)
      · have h := q_pos c_13 h
        obtain rfl := q_some h
        exact xRv hx hb hr hlocks hQ hAe hP hD hK hS (dAt zX3_lookAt_0 33 rfl)
      · have h := q_neg c_13 h
        refine lv_aload_n hx hb (dAt zX3_lookAt_0 9 rfl) rfl (lv_at hl 0 rfl) ?_
        refine va_get (D := D) (ci := 3) (v := .ref (qF 1)) (C := RX3) (T := TX3) (N := 4) hx hb htl inlX3 hown hK hP 0 rfl rfl 0 (by decide) (htl _ W_69) (fun _ h9 => h9) rfl (dAt zX3_lookAt_0 10 rfl) ?_
        refine lv_iload_n hx hb (dAt zX3_lookAt_0 11 rfl) rfl (lv_at hl 2 rfl) ?_
        refine lv_aload_n hx hb (dAt zX3_lookAt_0 12 rfl) rfl (lv_at hl 1 rfl) ?_
        refine lv_iload_n hx hb (dAt zX3_lookAt_0 13 rfl) rfl (lv_at hl 2 rfl) ?_
        obtain ⟨u23, hu23, h⟩ := q_bind h
        have hPc : va_P D vwCl (w4 cI qT zT) H := hP.sub [4, 5, 6, 7, 8] rfl
        have hDc : va_D A (w4 cI qT zT) := hD.sub [4, 5, 6, 7, 8] (by decide) rfl
        refine xFi (wc := (w4 cI qT zT)) (w1 := (w4 cI qT zT)) (wr := (w3 cI qF zF_10)) (ws2 := (w3 cI qF zF_10 ++ (w4 cI qT zT))) (va_runV (As := [.int v2_10]) (rest := [.int v2_10, .ref (qF 1)]) ⟨hx, hb, hml, hown, htl⟩ (c_X4_missingIt l D cI cJ cZ n qT H.size zT v2_10 u23 hu23) (cwV 1 htl (gV W_528 W_329 W_330 W_14 W_331) rfl rfl rfl (by decide +kernel) ⟨Nat.le_of_ble_eq_true rfl, Nat.le_of_ble_eq_true rfl⟩) (xPV hPc hDc hK hN 0 rfl rfl) rfl rfl hl.1 rfl (lv_room (Nat.le_of_ble_eq_true rfl)) (dAt zX3_lookAt_0 14 rfl) ⟨Nat.zero_le _, Nat.zero_le _⟩) hS hA hP hD [4, 5, 6, 7, 8] [0, 1, 2, 3] [0, 1, 2, 3, 4, 5, 6, 7, 8] rfl rfl (by decide) (by decide) rfl (by decide) (fun H locs hP hD hS => ?_)
        obtain ⟨hi_26, h⟩ := q_in h
        refine va_iast hx hb hK hP hD hS 1 0 rfl rfl hi_26 (dAt zX3_lookAt_0 15 rfl) (fun H locs hP hD hS => ?_)
        have hP : va_P D vwCl (w3x cI qF (zF_10 0 3) (upd (zF_10 1) (Int32.toNatClampNeg v2_10) u23) (zF_10 2) (zF_10 3) ++ (w4 cI qT zT)) H := hP
        have hD : va_D A (w3x cI qF (zF_10 0 3) (upd (zF_10 1) (Int32.toNatClampNeg v2_10) u23) (zF_10 2) (zF_10 3) ++ (w4 cI qT zT)) := hD
        refine lv_aload_n hx hb (dAt zX3_lookAt_0 16 rfl) rfl (lv_at hl 0 rfl) ?_
        refine va_get (D := D) (ci := 3) (v := .ref (qF 2)) (C := RX3) (T := TX3) (N := 4) hx hb htl inlX3 hown hK hP 0 rfl rfl 1 (by decide) (htl _ W_70) (fun _ h9 => h9) rfl (dAt zX3_lookAt_0 17 rfl) ?_
        refine lv_iload_n hx hb (dAt zX3_lookAt_0 18 rfl) rfl (lv_at hl 2 rfl) ?_
        refine lv_aload_n hx hb (dAt zX3_lookAt_0 19 rfl) rfl (lv_at hl 1 rfl) ?_
        refine lv_iload_n hx hb (dAt zX3_lookAt_0 20 rfl) rfl (lv_at hl 2 rfl) ?_
        have hP : va_P D vwCl (w3 cI qF (upA zF_10 1 (upd (zF_10 1) (Int32.toNatClampNeg v2_10) u23)) ++ (w4 cI qT zT)) H := hP
        have hD : va_D A (w3 cI qF (upA zF_10 1 (upd (zF_10 1) (Int32.toNatClampNeg v2_10) u23)) ++ (w4 cI qT zT)) := hD
        obtain ⟨u34, hu34, h⟩ := q_bind h
        have hPc : va_P D vwCl (w4 cI qT zT) H := hP.sub [4, 5, 6, 7, 8] rfl
        have hDc : va_D A (w4 cI qT zT) := hD.sub [4, 5, 6, 7, 8] (by decide) rfl
        refine xFi (wc := (w4 cI qT zT)) (w1 := (w4 cI qT zT)) (wr := (w3 cI qF (upA zF_10 1 (upd (zF_10 1) (Int32.toNatClampNeg v2_10) u23)))) (ws2 := (w3 cI qF (upA zF_10 1 (upd (zF_10 1) (Int32.toNatClampNeg v2_10) u23)) ++ (w4 cI qT zT))) (va_runV (As := [.int v2_10]) (rest := [.int v2_10, .ref (qF 2)]) ⟨hx, hb, hml, hown, htl⟩ (c_X4_tiesNeeded l D cI cJ cZ n qT H.size zT v2_10 u34 hu34) (cwV 1 htl (gV W_529 W_335 W_336 W_14 W_337) rfl rfl rfl (by decide +kernel) ⟨Nat.le_of_ble_eq_true rfl, Nat.le_of_ble_eq_true rfl⟩) (xPV hPc hDc hK hN 0 rfl rfl) rfl rfl hl.1 rfl (lv_room (Nat.le_of_ble_eq_true rfl)) (dAt zX3_lookAt_0 21 rfl) ⟨Nat.zero_le _, Nat.zero_le _⟩) hS hA hP hD [4, 5, 6, 7, 8] [0, 1, 2, 3] [0, 1, 2, 3, 4, 5, 6, 7, 8] rfl rfl (by decide) (by decide) rfl (by decide) (fun H locs hP hD hS => ?_)
        obtain ⟨hi_37, h⟩ := q_in h
        refine va_iast hx hb hK hP hD hS 2 0 rfl rfl hi_37 (dAt zX3_lookAt_0 22 rfl) (fun H locs hP hD hS => ?_)
        have hP : va_P D vwCl (w3x cI qF (zF_10 0 3) (upd (zF_10 1) (Int32.toNatClampNeg v2_10) u23) (upd (zF_10 2) (Int32.toNatClampNeg v2_10) u34) (zF_10 3) ++ (w4 cI qT zT)) H := hP
        have hD : va_D A (w3x cI qF (zF_10 0 3) (upd (zF_10 1) (Int32.toNatClampNeg v2_10) u23) (upd (zF_10 2) (Int32.toNatClampNeg v2_10) u34) (zF_10 3) ++ (w4 cI qT zT)) := hD
        refine lv_aload_n hx hb (dAt zX3_lookAt_0 23 rfl) rfl (lv_at hl 0 rfl) ?_
        refine va_get (D := D) (ci := 3) (v := .ref (qF 3)) (C := RX3) (T := TX3) (N := 4) hx hb htl inlX3 hown hK hP 0 rfl rfl 2 (by decide) (htl _ W_71) (fun _ h9 => h9) rfl (dAt zX3_lookAt_0 24 rfl) ?_
        refine lv_iload_n hx hb (dAt zX3_lookAt_0 25 rfl) rfl (lv_at hl 2 rfl) ?_
        refine lv_aload_n hx hb (dAt zX3_lookAt_0 26 rfl) rfl (lv_at hl 1 rfl) ?_
        refine lv_iload_n hx hb (dAt zX3_lookAt_0 27 rfl) rfl (lv_at hl 2 rfl) ?_
        refine lv_iconst (v := 1) hx hb (dAt zX3_lookAt_0 28 rfl) (by decide) ?_
        have hP : va_P D vwCl (w3 cI qF (upA (upA zF_10 1 (upd (zF_10 1) (Int32.toNatClampNeg v2_10) u23)) 2 (upd (zF_10 2) (Int32.toNatClampNeg v2_10) u34)) ++ (w4 cI qT zT)) H := hP
        have hD : va_D A (w3 cI qF (upA (upA zF_10 1 (upd (zF_10 1) (Int32.toNatClampNeg v2_10) u23)) 2 (upd (zF_10 2) (Int32.toNatClampNeg v2_10) u34)) ++ (w4 cI qT zT)) := hD
        obtain ⟨u46, hu46, h⟩ := q_bind h
        have hPc : va_P D vwCl (w4 cI qT zT) H := hP.sub [4, 5, 6, 7, 8] rfl
        have hDc : va_D A (w4 cI qT zT) := hD.sub [4, 5, 6, 7, 8] (by decide) rfl
        refine xFi (wc := (w4 cI qT zT)) (w1 := (w4 cI qT zT)) (wr := (w3 cI qF (upA (upA zF_10 1 (upd (zF_10 1) (Int32.toNatClampNeg v2_10) u23)) 2 (upd (zF_10 2) (Int32.toNatClampNeg v2_10) u34)))) (ws2 := (w3 cI qF (upA (upA zF_10 1 (upd (zF_10 1) (Int32.toNatClampNeg v2_10) u23)) 2 (upd (zF_10 2) (Int32.toNatClampNeg v2_10) u34)) ++ (w4 cI qT zT))) (va_runV (As := [.int v2_10, .int 1]) (rest := [.int v2_10, .ref (qF 3)]) ⟨hx, hb, hml, hown, htl⟩ (c_X4_tiedTo l D cI cJ cZ n qT H.size zT v2_10 1 u46 hu46) (cwV 2 htl (gV W_530 W_531 W_532 W_14 W_533) rfl rfl rfl (by decide +kernel) ⟨Nat.le_of_ble_eq_true rfl, Nat.le_of_ble_eq_true rfl⟩) (xPV hPc hDc hK hN 0 rfl rfl) rfl rfl hl.1 rfl (lv_room (Nat.le_of_ble_eq_true rfl)) (dAt zX3_lookAt_0 29 rfl) ⟨Nat.zero_le _, Nat.zero_le _⟩) hS hA hP hD [4, 5, 6, 7, 8] [0, 1, 2, 3] [0, 1, 2, 3, 4, 5, 6, 7, 8] rfl rfl (by decide) (by decide) rfl (by decide) (fun H locs hP hD hS => ?_)
        obtain ⟨hi_49, h⟩ := q_in h
        refine va_iast hx hb hK hP hD hS 3 0 rfl rfl hi_49 (dAt zX3_lookAt_0 30 rfl) (fun H locs hP hD hS => ?_)
        have hP : va_P D vwCl (w3x cI qF (zF_10 0 3) (upd (zF_10 1) (Int32.toNatClampNeg v2_10) u23) (upd (zF_10 2) (Int32.toNatClampNeg v2_10) u34) (upd (zF_10 3) (Int32.toNatClampNeg v2_10) u46) ++ (w4 cI qT zT)) H := hP
        have hD : va_D A (w3x cI qF (zF_10 0 3) (upd (zF_10 1) (Int32.toNatClampNeg v2_10) u23) (upd (zF_10 2) (Int32.toNatClampNeg v2_10) u34) (upd (zF_10 3) (Int32.toNatClampNeg v2_10) u46) ++ (w4 cI qT zT)) := hD
        refine lv_iinc (v := (v2_10 + 1)) (lv' := [(2, .int (v2_10 + 1)), (0, .ref (qF 0)), (1, .ref (qT 0))]) hx hb (dAt zX3_lookAt_0 31 rfl) hl (k := 2) rfl rfl (by decide) rfl (fun ls hl => ?_)
        refine lv_goto (tgt := 10) hx hb (dAt zX3_lookAt_0 32 rfl) (by decide) ?_
        have hP : va_P D vwCl (w3 cI qF (upA (upA (upA zF_10 1 (upd (zF_10 1) (Int32.toNatClampNeg v2_10) u23)) 2 (upd (zF_10 2) (Int32.toNatClampNeg v2_10) u34)) 3 (upd (zF_10 3) (Int32.toNatClampNeg v2_10) u46)) ++ (w4 cI qT zT)) H := hP
        have hD : va_D A (w3 cI qF (upA (upA (upA zF_10 1 (upd (zF_10 1) (Int32.toNatClampNeg v2_10) u23)) 2 (upd (zF_10 2) (Int32.toNatClampNeg v2_10) u34)) 3 (upd (zF_10 3) (Int32.toNatClampNeg v2_10) u46)) ++ (w4 cI qT zT)) := hD
        exact ih_10 (v2_10 + 1) (upA (upA (upA zF_10 1 (upd (zF_10 1) (Int32.toNatClampNeg v2_10) u23)) 2 (upd (zF_10 2) (Int32.toNatClampNeg v2_10) u34)) 3 (upd (zF_10 3) (Int32.toNatClampNeg v2_10) u46)) _ _ _ h hP hD hS (lv_sub hl [1, 2, 0] rfl)
  exact L_10 n 0 (sf zF 3 (zT 0 0)) _ _ _ h hP hD hS (lv_sub hl [1, 2, 0] rfl)
def b_X3_afterNight_14 (n : Nat) (zF : TI) (a1 : Int32) (a2 : Int32) (s_14 : Int32 × Int32) (k_14 : Int32 × Int32 → Option Int32) : Option Int32 := (if 10 ≤ s_14.2 then some s_14.1 else ((m_X5_holds n  (a1 &&& (a2 ^^^ (-1 : Int32))) s_14.2).bind fun u25 => (if u25 = 0 then (k_14 (s_14.1, (s_14.2 + 1))) else (gd (inB s_14.2 10) (((m_J6_bitCount_0f7a4 n  (((zF 1) (Int32.toNatClampNeg s_14.2)) &&& a1)).bind fun u40 => (gd (inB s_14.2 10) ((if u40 < ((zF 2) (Int32.toNatClampNeg s_14.2)) then (k_14 (s_14.1, (s_14.2 + 1))) else (k_14 ((s_14.1 ||| ((1 : Int32) <<< (s_14.2 &&& 31))), (s_14.2 + 1))))))))))))
def m_X3_afterNight (n : Nat) (zF : TI) (a1 : Int32) (a2 : Int32) : Option Int32 := (loopF (b_X3_afterNight_14 n zF a1 a2 ) n ((a1 &&& a2), 0))
set_option maxHeartbeats 4000000 in
set_option maxRecDepth 100000 in
theorem c_X3_afterNight (l : Launch) (D : va_G) (cI cJ cZ : ClassId) (n : Nat) (qF : Nat → Nat) (sz : Nat) (zF : TI) (a1 : Int32) (a2 : Int32) (out : Int32) (hm : m_X3_afterNight n zF a1 a2 = some out) : Met l yX3_afterNight (wsM yX3_afterNight cX3_afterNight 6 (some .int)) { frames := 1, cells := 0, slots := 0, locals := 21 } (xPre D (kT cI cJ cZ) (w3 cI qF zF) sz [.ref (qF 0), .int a1, .int a2]) (xQi D (kT cI cJ cZ) (w3 cI qF zF) (w3 cI qF zF) sz out) 0 0 (va_A (w3 cI qF zF) sz) := by
  refine Met.ofW (cc := cX3_afterNight) (maxL := 6) (ret := (some .int)) (by decide) rfl ?_
  intro p e s m args below meth c s₁ B hml hv
  obtain ⟨hv, hsz, hP, hK, hD0, hN⟩ := hv
  have hx := B.exec; have hb := B.bytes; have hr := B.returns
  have hts := atoms_spec (ws := (wsM yX3_afterNight cX3_afterNight 6 (some .int))) B.pre
  have hown : s.vm.findClass RX3 = some m.cls := findClass_of_methodNamed B.named
  have hlocks := B.notSynchronized
  subst hsz
  have hD := hD0.self (sz := s.heap.size)
  obtain ⟨A, hAe⟩ : ∃ A, A = va_A (w3 cI qF zF) s.heap.size := ⟨_, rfl⟩
  rw [← hAe] at hD
  have hA : ∀ q : Nat, s.heap.size ≤ q → A q := fun q h => by rw [hAe]; exact Or.inr h
  have htl : ∀ w ∈ wsL_law, w.before args s = true := fun w h => hts w (List.mem_cons_of_mem _ h)
  refine xHead (R' := { frames := 1, cells := 0, slots := 0, locals := 21 }) rfl (fun Q H hQ hH => ?_)
  have hP : va_P D vwCl (w3 cI qF zF) H := by rw [hH]; exact hP
  have hS : va_S A s.heap H [] := by rw [hH]; exact va_S.rf
  refine xStart hv (Nat.le_of_ble_eq_true rfl) (lv := [(0, .ref (qF 0)), (1, .int a1), (2, .int a2)]) rfl (fun ls hl => ?_)
  have h := hm
  unfold m_X3_afterNight at h
  refine lv_iload_n hx hb (dAt zX3_afterNight_0 0 rfl) rfl (lv_at hl 1 rfl) ?_
  refine lv_iload_n hx hb (dAt zX3_afterNight_0 1 rfl) rfl (lv_at hl 2 rfl) ?_
  refine lv_iand hx hb (dAt zX3_afterNight_0 2 rfl) ?_
  refine lv_istore_n (lv' := [(3, .int (a1 &&& a2)), (0, .ref (qF 0)), (1, .int a1), (2, .int a2)]) hx hb (dAt zX3_afterNight_0 3 rfl) rfl hl (by decide) rfl (fun ls hl => ?_)
  refine lv_iload_n hx hb (dAt zX3_afterNight_0 4 rfl) rfl (lv_at hl 2 rfl) ?_
  refine lv_iload_n hx hb (dAt zX3_afterNight_0 5 rfl) rfl (lv_at hl 3 rfl) ?_
  refine lv_iconst (v := (-1)) hx hb (dAt zX3_afterNight_0 6 rfl) (by decide) ?_
  refine lv_ixor hx hb (dAt zX3_afterNight_0 7 rfl) ?_
  refine lv_iand hx hb (dAt zX3_afterNight_0 8 rfl) ?_
  refine lv_istore (lv' := [(4, .int (a1 &&& (a2 ^^^ (-1 : Int32)))), (3, .int (a1 &&& a2)), (0, .ref (qF 0)), (1, .int a1), (2, .int a2)]) hx hb (dAt zX3_afterNight_0 9 rfl) hl (by decide) rfl (fun ls hl => ?_)
  refine lv_iconst (v := 0) hx hb (dAt zX3_afterNight_0 10 rfl) (by decide) ?_
  refine lv_istore (lv' := [(5, .int 0), (4, .int (a1 &&& (a2 ^^^ (-1 : Int32)))), (3, .int (a1 &&& a2)), (0, .ref (qF 0)), (1, .int a1), (2, .int a2)]) hx hb (dAt zX3_afterNight_0 11 rfl) hl (by decide) rfl (fun ls hl => ?_)
  have L_14 : ∀ (j_14 : Nat) (v3_14 : Int32) (v5_14 : Int32) (H : Heap) (locs : List Loc) (ls : Array Slot), loopF (b_X3_afterNight_14 n zF a1 a2) j_14 (v3_14, v5_14) = some out → va_P D vwCl (w3 cI qF zF) H → va_D A (w3 cI qF zF) → va_S A s.heap H locs → lv_has ls 6 [(0, .ref (qF 0)), (1, .int a1), (3, .int v3_14), (4, .int (a1 &&& (a2 ^^^ (-1 : Int32)))), (5, .int v5_14)] → W p l e { frames := 1, cells := 0, slots := 0, locals := 21 } s m args below meth c H locs 0 0 Q (F0 m 14 ls []) := by
    intro j_14
    induction j_14 with
    | zero => intro v3_14 v5_14 H locs ls h hP hD hS hl; exact loopF_0 h
    | succ j_14 ih_14 =>
      intro v3_14 v5_14 H locs ls h hP hD hS hl
      have h := loopF_s h
      unfold b_X3_afterNight_14 at h
      refine lv_iload hx hb (dAt zX3_afterNight_0 12 rfl) (lv_at hl 4 rfl) ?_
      refine lv_bipush (v := 10) hx hb (dAt zX3_afterNight_0 13 rfl) (by decide) ?_
      refine lv_icmp_ge (tgt := 66) hx hb (dAt zX3_afterNight_0 14 rfl) (by decide) (fun c_18 => ?_) (fun c_18 => ?_)
      · have h := q_pos c_18 h
        refine lv_iload_n hx hb (dAt zX3_afterNight_0 39 rfl) rfl (lv_at hl 2 rfl) ?_
        obtain rfl := q_some h
        exact xRi hx hb hr hlocks hQ hAe hP hD hK hS rfl (dAt zX3_afterNight_0 40 rfl)
      · have h := q_neg c_18 h
        refine lv_iload hx hb (dAt zX3_afterNight_0 15 rfl) (lv_at hl 3 rfl) ?_
        refine lv_iload hx hb (dAt zX3_afterNight_0 16 rfl) (lv_at hl 4 rfl) ?_
        obtain ⟨u25, hu25, h⟩ := q_bind h
        refine xFz (wc := ([] : va_W)) (w1 := ([] : va_W)) (wr := (w3 cI qF zF)) (ws2 := (w3 cI qF zF)) (va_runSN (host := RX5) (As := [.int (a1 &&& (a2 ^^^ (-1 : Int32))), .int v5_14]) (rest := []) ⟨hx, hb, hml, hown, htl⟩ (c_X5_holds l D cI cJ cZ n  H.size  (a1 &&& (a2 ^^^ (-1 : Int32))) v5_14 u25 hu25) ⟨va_cnB 2 htl (gM W_339) rfl rfl rfl hN.2.2.1 (htl _ W_2) (by decide +kernel) ⟨Nat.le_of_ble_eq_true rfl, Nat.le_of_ble_eq_true rfl⟩, htl _ W_338, trivial⟩ (xPS xP0 (xD0 A) hK hN) rfl rfl hl.1 rfl (lv_room (Nat.le_of_ble_eq_true rfl)) (dAt zX3_afterNight_0 17 rfl) ⟨Nat.zero_le _, Nat.zero_le _⟩) hS hA hP hD [] [0, 1, 2, 3] [0, 1, 2, 3] rfl rfl (by decide) (by decide) rfl (by decide) (fun H locs hz25 hP hD hS => ?_)
        refine lv_if_eq (tgt := 60) hx hb (dAt zX3_afterNight_0 18 rfl) (by decide) (fun c_28 => ?_) (fun c_28 => ?_)
        · have h := q_pos c_28 h
          refine lv_iinc (v := (v5_14 + 1)) (lv' := [(5, .int (v5_14 + 1)), (0, .ref (qF 0)), (1, .int a1), (3, .int v3_14), (4, .int (a1 &&& (a2 ^^^ (-1 : Int32))))]) hx hb (dAt zX3_afterNight_0 37 rfl) hl (k := 4) rfl rfl (by decide) rfl (fun ls hl => ?_)
          refine lv_goto (tgt := 14) hx hb (dAt zX3_afterNight_0 38 rfl) (by decide) ?_
          exact ih_14 v3_14 (v5_14 + 1) _ _ _ h hP hD hS (lv_sub hl [1, 2, 3, 4, 0] rfl)
        · have h := q_neg c_28 h
          refine lv_aload_n hx hb (dAt zX3_afterNight_0 19 rfl) rfl (lv_at hl 0 rfl) ?_
          refine va_get (D := D) (ci := 3) (v := .ref (qF 1)) (C := RX3) (T := TX3) (N := 4) hx hb htl inlX3 hown hK hP 0 rfl rfl 0 (by decide) (htl _ W_69) (fun _ h9 => h9) rfl (dAt zX3_afterNight_0 20 rfl) ?_
          refine lv_iload hx hb (dAt zX3_afterNight_0 21 rfl) (lv_at hl 4 rfl) ?_
          obtain ⟨hi_37, h⟩ := q_in h
          refine va_iald hx hb hK hP 1 0 rfl rfl hi_37 (dAt zX3_afterNight_0 22 rfl) ?_
          refine lv_iload_n hx hb (dAt zX3_afterNight_0 23 rfl) rfl (lv_at hl 1 rfl) ?_
          refine lv_iand hx hb (dAt zX3_afterNight_0 24 rfl) ?_
          obtain ⟨u40, hu40, h⟩ := q_bind h
          refine xFi (wc := ([] : va_W)) (w1 := ([] : va_W)) (wr := (w3 cI qF zF)) (ws2 := (w3 cI qF zF)) (va_runS (As := [.int (((zF 1) (Int32.toNatClampNeg v5_14)) &&& a1)]) (rest := []) ⟨hx, hb, hml, hown, htl⟩ (c_J6_bitCount_0f7a4 l D cI cJ cZ n  H.size  (((zF 1) (Int32.toNatClampNeg v5_14)) &&& a1) u40 hu40) (va_cwS 1 htl (gS W_542 W_150 W_151 W_152) rfl rfl rfl (by decide +kernel) ⟨Nat.le_of_ble_eq_true rfl, Nat.le_of_ble_eq_true rfl⟩) (xPS xP0 (xD0 A) hK hN) rfl rfl hl.1 rfl (lv_room (Nat.le_of_ble_eq_true rfl)) (dAt zX3_afterNight_0 25 rfl) ⟨Nat.zero_le _, Nat.zero_le _⟩) hS hA hP hD [] [0, 1, 2, 3] [0, 1, 2, 3] rfl rfl (by decide) (by decide) rfl (by decide) (fun H locs hP hD hS => ?_)
          refine lv_aload_n hx hb (dAt zX3_afterNight_0 26 rfl) rfl (lv_at hl 0 rfl) ?_
          refine va_get (D := D) (ci := 3) (v := .ref (qF 2)) (C := RX3) (T := TX3) (N := 4) hx hb htl inlX3 hown hK hP 0 rfl rfl 1 (by decide) (htl _ W_70) (fun _ h9 => h9) rfl (dAt zX3_afterNight_0 27 rfl) ?_
          refine lv_iload hx hb (dAt zX3_afterNight_0 28 rfl) (lv_at hl 4 rfl) ?_
          obtain ⟨hi_49, h⟩ := q_in h
          refine va_iald hx hb hK hP 2 0 rfl rfl hi_49 (dAt zX3_afterNight_0 29 rfl) ?_
          refine lv_icmp_lt (tgt := 60) hx hb (dAt zX3_afterNight_0 30 rfl) (by decide) (fun c_50 => ?_) (fun c_50 => ?_)
          · have h := q_pos c_50 h
            refine lv_iinc (v := (v5_14 + 1)) (lv' := [(5, .int (v5_14 + 1)), (0, .ref (qF 0)), (1, .int a1), (3, .int v3_14), (4, .int (a1 &&& (a2 ^^^ (-1 : Int32))))]) hx hb (dAt zX3_afterNight_0 37 rfl) hl (k := 4) rfl rfl (by decide) rfl (fun ls hl => ?_)
            refine lv_goto (tgt := 14) hx hb (dAt zX3_afterNight_0 38 rfl) (by decide) ?_
            exact ih_14 v3_14 (v5_14 + 1) _ _ _ h hP hD hS (lv_sub hl [1, 2, 3, 4, 0] rfl)
          · have h := q_neg c_50 h
            refine lv_iload_n hx hb (dAt zX3_afterNight_0 31 rfl) rfl (lv_at hl 2 rfl) ?_
            refine lv_iconst (v := 1) hx hb (dAt zX3_afterNight_0 32 rfl) (by decide) ?_
            refine lv_iload hx hb (dAt zX3_afterNight_0 33 rfl) (lv_at hl 4 rfl) ?_
            refine lv_ishl hx hb (dAt zX3_afterNight_0 34 rfl) ?_
            refine lv_ior hx hb (dAt zX3_afterNight_0 35 rfl) ?_
            refine lv_istore_n (lv' := [(3, .int (v3_14 ||| ((1 : Int32) <<< (v5_14 &&& 31)))), (0, .ref (qF 0)), (1, .int a1), (4, .int (a1 &&& (a2 ^^^ (-1 : Int32)))), (5, .int v5_14)]) hx hb (dAt zX3_afterNight_0 36 rfl) rfl hl (by decide) rfl (fun ls hl => ?_)
            refine lv_iinc (v := (v5_14 + 1)) (lv' := [(5, .int (v5_14 + 1)), (3, .int (v3_14 ||| ((1 : Int32) <<< (v5_14 &&& 31)))), (0, .ref (qF 0)), (1, .int a1), (4, .int (a1 &&& (a2 ^^^ (-1 : Int32))))]) hx hb (dAt zX3_afterNight_0 37 rfl) hl (k := 4) rfl rfl (by decide) rfl (fun ls hl => ?_)
            refine lv_goto (tgt := 14) hx hb (dAt zX3_afterNight_0 38 rfl) (by decide) ?_
            exact ih_14 (v3_14 ||| ((1 : Int32) <<< (v5_14 &&& 31))) (v5_14 + 1) _ _ _ h hP hD hS (lv_sub hl [2, 3, 1, 4, 0] rfl)
  exact L_14 n (a1 &&& a2) 0 _ _ _ h hP hD hS (lv_sub hl [3, 4, 2, 1, 0] rfl)
def b_X3_remaining_7 (n : Nat) (zF : TI) (a1 : Int32) (s_7 : Int32 × Int32) (k_7 : Int32 × Int32 → Option Int32) : Option Int32 := (if 10 < s_7.2 then some s_7.1 else ((m_X3_afterNight n zF s_7.1 a1).bind fun u16 => (if u16 = s_7.1 then some s_7.1 else (k_7 (u16, (s_7.2 + 1))))))
def m_X3_remaining (n : Nat) (zF : TI) (a1 : Int32) : Option Int32 := (loopF (b_X3_remaining_7 n zF a1 ) n ((zF 0 3), 0))
set_option maxHeartbeats 4000000 in
set_option maxRecDepth 100000 in
theorem c_X3_remaining (l : Launch) (D : va_G) (cI cJ cZ : ClassId) (n : Nat) (qF : Nat → Nat) (sz : Nat) (zF : TI) (a1 : Int32) (out : Int32) (hm : m_X3_remaining n zF a1 = some out) : Met l yX3_remaining (wsM yX3_remaining cX3_remaining 5 (some .int)) { frames := 2, cells := 0, slots := 0, locals := 46 } (xPre D (kT cI cJ cZ) (w3 cI qF zF) sz [.ref (qF 0), .int a1]) (xQi D (kT cI cJ cZ) (w3 cI qF zF) (w3 cI qF zF) sz out) 0 0 (va_A (w3 cI qF zF) sz) := by
  refine Met.ofW (cc := cX3_remaining) (maxL := 5) (ret := (some .int)) (by decide) rfl ?_
  intro p e s m args below meth c s₁ B hml hv
  obtain ⟨hv, hsz, hP, hK, hD0, hN⟩ := hv
  have hx := B.exec; have hb := B.bytes; have hr := B.returns
  have hts := atoms_spec (ws := (wsM yX3_remaining cX3_remaining 5 (some .int))) B.pre
  have hown : s.vm.findClass RX3 = some m.cls := findClass_of_methodNamed B.named
  have hlocks := B.notSynchronized
  subst hsz
  have hD := hD0.self (sz := s.heap.size)
  obtain ⟨A, hAe⟩ : ∃ A, A = va_A (w3 cI qF zF) s.heap.size := ⟨_, rfl⟩
  rw [← hAe] at hD
  have hA : ∀ q : Nat, s.heap.size ≤ q → A q := fun q h => by rw [hAe]; exact Or.inr h
  have htl : ∀ w ∈ wsL_law, w.before args s = true := fun w h => hts w (List.mem_cons_of_mem _ h)
  refine xHead (R' := { frames := 2, cells := 0, slots := 0, locals := 46 }) rfl (fun Q H hQ hH => ?_)
  have hP : va_P D vwCl (w3 cI qF zF) H := by rw [hH]; exact hP
  have hS : va_S A s.heap H [] := by rw [hH]; exact va_S.rf
  refine xStart hv (Nat.le_of_ble_eq_true rfl) (lv := [(0, .ref (qF 0)), (1, .int a1)]) rfl (fun ls hl => ?_)
  have h := hm
  unfold m_X3_remaining at h
  refine lv_aload_n hx hb (dAt zX3_remaining_0 0 rfl) rfl (lv_at hl 0 rfl) ?_
  refine va_get (D := D) (ci := 3) (v := .int (zF 0 3)) (C := RX3) (T := TX3) (N := 4) hx hb htl inlX3 hown hK hP 0 rfl rfl 3 (by decide) (htl _ W_72) (fun _ h9 => h9) rfl (dAt zX3_remaining_0 1 rfl) ?_
  refine lv_istore_n (lv' := [(2, .int (zF 0 3)), (0, .ref (qF 0)), (1, .int a1)]) hx hb (dAt zX3_remaining_0 2 rfl) rfl hl (by decide) rfl (fun ls hl => ?_)
  refine lv_iconst (v := 0) hx hb (dAt zX3_remaining_0 3 rfl) (by decide) ?_
  refine lv_istore_n (lv' := [(3, .int 0), (2, .int (zF 0 3)), (0, .ref (qF 0)), (1, .int a1)]) hx hb (dAt zX3_remaining_0 4 rfl) rfl hl (by decide) rfl (fun ls hl => ?_)
  have L_7 : ∀ (j_7 : Nat) (v2_7 : Int32) (v3_7 : Int32) (H : Heap) (locs : List Loc) (ls : Array Slot), loopF (b_X3_remaining_7 n zF a1) j_7 (v2_7, v3_7) = some out → va_P D vwCl (w3 cI qF zF) H → va_D A (w3 cI qF zF) → va_S A s.heap H locs → lv_has ls 5 [(0, .ref (qF 0)), (1, .int a1), (2, .int v2_7), (3, .int v3_7)] → W p l e { frames := 2, cells := 0, slots := 0, locals := 46 } s m args below meth c H locs 0 0 Q (F0 m 7 ls []) := by
    intro j_7
    induction j_7 with
    | zero => intro v2_7 v3_7 H locs ls h hP hD hS hl; exact loopF_0 h
    | succ j_7 ih_7 =>
      intro v2_7 v3_7 H locs ls h hP hD hS hl
      have h := loopF_s h
      unfold b_X3_remaining_7 at h
      refine lv_iload_n hx hb (dAt zX3_remaining_0 5 rfl) rfl (lv_at hl 3 rfl) ?_
      refine lv_bipush (v := 10) hx hb (dAt zX3_remaining_0 6 rfl) (by decide) ?_
      refine lv_icmp_gt (tgt := 38) hx hb (dAt zX3_remaining_0 7 rfl) (by decide) (fun c_10 => ?_) (fun c_10 => ?_)
      · have h := q_pos c_10 h
        refine lv_iload_n hx hb (dAt zX3_remaining_0 22 rfl) rfl (lv_at hl 2 rfl) ?_
        obtain rfl := q_some h
        exact xRi hx hb hr hlocks hQ hAe hP hD hK hS rfl (dAt zX3_remaining_0 23 rfl)
      · have h := q_neg c_10 h
        refine lv_aload_n hx hb (dAt zX3_remaining_0 8 rfl) rfl (lv_at hl 0 rfl) ?_
        refine lv_iload_n hx hb (dAt zX3_remaining_0 9 rfl) rfl (lv_at hl 2 rfl) ?_
        refine lv_iload_n hx hb (dAt zX3_remaining_0 10 rfl) rfl (lv_at hl 1 rfl) ?_
        obtain ⟨u16, hu16, h⟩ := q_bind h
        refine xFi (wc := (w3 cI qF zF)) (w1 := (w3 cI qF zF)) (wr := ([] : va_W)) (ws2 := (w3 cI qF zF)) (va_runV (As := [.int v2_7, .int a1]) (rest := []) ⟨hx, hb, hml, hown, htl⟩ (c_X3_afterNight l D cI cJ cZ n qF H.size zF v2_7 a1 u16 hu16) (cwV 2 htl (gV W_538 W_539 W_540 W_29 W_541) rfl rfl rfl (by decide +kernel) ⟨Nat.le_of_ble_eq_true rfl, Nat.le_of_ble_eq_true rfl⟩) (xPV hP hD hK hN 0 rfl rfl) rfl rfl hl.1 rfl (lv_room (Nat.le_of_ble_eq_true rfl)) (dAt zX3_remaining_0 11 rfl) ⟨Nat.zero_le _, Nat.zero_le _⟩) hS hA hP hD [0, 1, 2, 3] [] [0, 1, 2, 3] rfl rfl (by decide) (by decide) rfl (by decide) (fun H locs hP hD hS => ?_)
        refine lv_istore (lv' := [(4, .int u16), (0, .ref (qF 0)), (1, .int a1), (2, .int v2_7), (3, .int v3_7)]) hx hb (dAt zX3_remaining_0 12 rfl) hl (by decide) rfl (fun ls hl => ?_)
        refine lv_iload hx hb (dAt zX3_remaining_0 13 rfl) (lv_at hl 0 rfl) ?_
        refine lv_iload_n hx hb (dAt zX3_remaining_0 14 rfl) rfl (lv_at hl 3 rfl) ?_
        refine lv_icmp_ne (tgt := 29) hx hb (dAt zX3_remaining_0 15 rfl) (by decide) (fun c_24 => ?_) (fun c_24 => ?_)
        · have h := q_neg c_24 h
          refine lv_iload hx hb (dAt zX3_remaining_0 18 rfl) (lv_at hl 0 rfl) ?_
          refine lv_istore_n (lv' := [(2, .int u16), (4, .int u16), (0, .ref (qF 0)), (1, .int a1), (3, .int v3_7)]) hx hb (dAt zX3_remaining_0 19 rfl) rfl hl (by decide) rfl (fun ls hl => ?_)
          refine lv_iinc (v := (v3_7 + 1)) (lv' := [(3, .int (v3_7 + 1)), (2, .int u16), (4, .int u16), (0, .ref (qF 0)), (1, .int a1)]) hx hb (dAt zX3_remaining_0 20 rfl) hl (k := 4) rfl rfl (by decide) rfl (fun ls hl => ?_)
          refine lv_goto (tgt := 7) hx hb (dAt zX3_remaining_0 21 rfl) (by decide) ?_
          exact ih_7 u16 (v3_7 + 1) _ _ _ h hP hD hS (lv_sub hl [3, 4, 1, 0] rfl)
        · have h := q_pos c_24 h
          refine lv_iload_n hx hb (dAt zX3_remaining_0 16 rfl) rfl (lv_at hl 3 rfl) ?_
          obtain rfl := q_some h
          exact xRi hx hb hr hlocks hQ hAe hP hD hK hS rfl (dAt zX3_remaining_0 17 rfl)
  exact L_7 n (zF 0 3) 0 _ _ _ h hP hD hS (lv_sub hl [2, 3, 1, 0] rfl)
def b_X3_nightsOfLeaving_9 (n : Nat) (zF : TI) (s_9 : Int32 × Int32 × Int32) (k_9 : Int32 × Int32 × Int32 → Option Int32) : Option Int32 := (if 10 < s_9.2.2 then some s_9.2.1 else ((m_X3_afterNight n zF s_9.1 0).bind fun u18 => (if u18 = s_9.1 then some s_9.2.1 else (k_9 (u18, (s_9.2.1 + 1), (s_9.2.2 + 1))))))
def m_X3_nightsOfLeaving (n : Nat) (zF : TI) : Option Int32 := (loopF (b_X3_nightsOfLeaving_9 n zF ) n ((zF 0 3), 0, 0))
set_option maxHeartbeats 4000000 in
set_option maxRecDepth 100000 in
theorem c_X3_nightsOfLeaving (l : Launch) (D : va_G) (cI cJ cZ : ClassId) (n : Nat) (qF : Nat → Nat) (sz : Nat) (zF : TI) (out : Int32) (hm : m_X3_nightsOfLeaving n zF = some out) : Met l yX3_nightsOfLeaving (wsM yX3_nightsOfLeaving cX3_nightsOfLeaving 5 (some .int)) { frames := 2, cells := 0, slots := 0, locals := 46 } (xPre D (kT cI cJ cZ) (w3 cI qF zF) sz [.ref (qF 0)]) (xQi D (kT cI cJ cZ) (w3 cI qF zF) (w3 cI qF zF) sz out) 0 0 (va_A (w3 cI qF zF) sz) := by
  refine Met.ofW (cc := cX3_nightsOfLeaving) (maxL := 5) (ret := (some .int)) (by decide) rfl ?_
  intro p e s m args below meth c s₁ B hml hv
  obtain ⟨hv, hsz, hP, hK, hD0, hN⟩ := hv
  have hx := B.exec; have hb := B.bytes; have hr := B.returns
  have hts := atoms_spec (ws := (wsM yX3_nightsOfLeaving cX3_nightsOfLeaving 5 (some .int))) B.pre
  have hown : s.vm.findClass RX3 = some m.cls := findClass_of_methodNamed B.named
  have hlocks := B.notSynchronized
  subst hsz
  have hD := hD0.self (sz := s.heap.size)
  obtain ⟨A, hAe⟩ : ∃ A, A = va_A (w3 cI qF zF) s.heap.size := ⟨_, rfl⟩
  rw [← hAe] at hD
  have hA : ∀ q : Nat, s.heap.size ≤ q → A q := fun q h => by rw [hAe]; exact Or.inr h
  have htl : ∀ w ∈ wsL_law, w.before args s = true := fun w h => hts w (List.mem_cons_of_mem _ h)
  refine xHead (R' := { frames := 2, cells := 0, slots := 0, locals := 46 }) rfl (fun Q H hQ hH => ?_)
  have hP : va_P D vwCl (w3 cI qF zF) H := by rw [hH]; exact hP
  have hS : va_S A s.heap H [] := by rw [hH]; exact va_S.rf
  refine xStart hv (Nat.le_of_ble_eq_true rfl) (lv := [(0, .ref (qF 0))]) rfl (fun ls hl => ?_)
  have h := hm
  unfold m_X3_nightsOfLeaving at h
  refine lv_aload_n hx hb (dAt zX3_nightsOfLeaving_0 0 rfl) rfl (lv_at hl 0 rfl) ?_
  refine va_get (D := D) (ci := 3) (v := .int (zF 0 3)) (C := RX3) (T := TX3) (N := 4) hx hb htl inlX3 hown hK hP 0 rfl rfl 3 (by decide) (htl _ W_72) (fun _ h9 => h9) rfl (dAt zX3_nightsOfLeaving_0 1 rfl) ?_
  refine lv_istore_n (lv' := [(1, .int (zF 0 3)), (0, .ref (qF 0))]) hx hb (dAt zX3_nightsOfLeaving_0 2 rfl) rfl hl (by decide) rfl (fun ls hl => ?_)
  refine lv_iconst (v := 0) hx hb (dAt zX3_nightsOfLeaving_0 3 rfl) (by decide) ?_
  refine lv_istore_n (lv' := [(2, .int 0), (1, .int (zF 0 3)), (0, .ref (qF 0))]) hx hb (dAt zX3_nightsOfLeaving_0 4 rfl) rfl hl (by decide) rfl (fun ls hl => ?_)
  refine lv_iconst (v := 0) hx hb (dAt zX3_nightsOfLeaving_0 5 rfl) (by decide) ?_
  refine lv_istore_n (lv' := [(3, .int 0), (2, .int 0), (1, .int (zF 0 3)), (0, .ref (qF 0))]) hx hb (dAt zX3_nightsOfLeaving_0 6 rfl) rfl hl (by decide) rfl (fun ls hl => ?_)
  have L_9 : ∀ (j_9 : Nat) (v1_9 : Int32) (v2_9 : Int32) (v3_9 : Int32) (H : Heap) (locs : List Loc) (ls : Array Slot), loopF (b_X3_nightsOfLeaving_9 n zF) j_9 (v1_9, v2_9, v3_9) = some out → va_P D vwCl (w3 cI qF zF) H → va_D A (w3 cI qF zF) → va_S A s.heap H locs → lv_has ls 5 [(0, .ref (qF 0)), (1, .int v1_9), (2, .int v2_9), (3, .int v3_9)] → W p l e { frames := 2, cells := 0, slots := 0, locals := 46 } s m args below meth c H locs 0 0 Q (F0 m 9 ls []) := by
    intro j_9
    induction j_9 with
    | zero => intro v1_9 v2_9 v3_9 H locs ls h hP hD hS hl; exact loopF_0 h
    | succ j_9 ih_9 =>
      intro v1_9 v2_9 v3_9 H locs ls h hP hD hS hl
      have h := loopF_s h
      unfold b_X3_nightsOfLeaving_9 at h
      refine lv_iload_n hx hb (dAt zX3_nightsOfLeaving_0 7 rfl) rfl (lv_at hl 3 rfl) ?_
      refine lv_bipush (v := 10) hx hb (dAt zX3_nightsOfLeaving_0 8 rfl) (by decide) ?_
      refine lv_icmp_gt (tgt := 43) hx hb (dAt zX3_nightsOfLeaving_0 9 rfl) (by decide) (fun c_12 => ?_) (fun c_12 => ?_)
      · have h := q_pos c_12 h
        refine lv_iload_n hx hb (dAt zX3_nightsOfLeaving_0 25 rfl) rfl (lv_at hl 2 rfl) ?_
        obtain rfl := q_some h
        exact xRi hx hb hr hlocks hQ hAe hP hD hK hS rfl (dAt zX3_nightsOfLeaving_0 26 rfl)
      · have h := q_neg c_12 h
        refine lv_aload_n hx hb (dAt zX3_nightsOfLeaving_0 10 rfl) rfl (lv_at hl 0 rfl) ?_
        refine lv_iload_n hx hb (dAt zX3_nightsOfLeaving_0 11 rfl) rfl (lv_at hl 1 rfl) ?_
        refine lv_iconst (v := 0) hx hb (dAt zX3_nightsOfLeaving_0 12 rfl) (by decide) ?_
        obtain ⟨u18, hu18, h⟩ := q_bind h
        refine xFi (wc := (w3 cI qF zF)) (w1 := (w3 cI qF zF)) (wr := ([] : va_W)) (ws2 := (w3 cI qF zF)) (va_runV (As := [.int v1_9, .int 0]) (rest := []) ⟨hx, hb, hml, hown, htl⟩ (c_X3_afterNight l D cI cJ cZ n qF H.size zF v1_9 0 u18 hu18) (cwV 2 htl (gV W_538 W_539 W_540 W_29 W_541) rfl rfl rfl (by decide +kernel) ⟨Nat.le_of_ble_eq_true rfl, Nat.le_of_ble_eq_true rfl⟩) (xPV hP hD hK hN 0 rfl rfl) rfl rfl hl.1 rfl (lv_room (Nat.le_of_ble_eq_true rfl)) (dAt zX3_nightsOfLeaving_0 13 rfl) ⟨Nat.zero_le _, Nat.zero_le _⟩) hS hA hP hD [0, 1, 2, 3] [] [0, 1, 2, 3] rfl rfl (by decide) (by decide) rfl (by decide) (fun H locs hP hD hS => ?_)
        refine lv_istore (lv' := [(4, .int u18), (0, .ref (qF 0)), (1, .int v1_9), (2, .int v2_9), (3, .int v3_9)]) hx hb (dAt zX3_nightsOfLeaving_0 14 rfl) hl (by decide) rfl (fun ls hl => ?_)
        refine lv_iload hx hb (dAt zX3_nightsOfLeaving_0 15 rfl) (lv_at hl 0 rfl) ?_
        refine lv_iload_n hx hb (dAt zX3_nightsOfLeaving_0 16 rfl) rfl (lv_at hl 2 rfl) ?_
        refine lv_icmp_ne (tgt := 31) hx hb (dAt zX3_nightsOfLeaving_0 17 rfl) (by decide) (fun c_26 => ?_) (fun c_26 => ?_)
        · have h := q_neg c_26 h
          refine lv_iload hx hb (dAt zX3_nightsOfLeaving_0 20 rfl) (lv_at hl 0 rfl) ?_
          refine lv_istore_n (lv' := [(1, .int u18), (4, .int u18), (0, .ref (qF 0)), (2, .int v2_9), (3, .int v3_9)]) hx hb (dAt zX3_nightsOfLeaving_0 21 rfl) rfl hl (by decide) rfl (fun ls hl => ?_)
          refine lv_iinc (v := (v2_9 + 1)) (lv' := [(2, .int (v2_9 + 1)), (1, .int u18), (4, .int u18), (0, .ref (qF 0)), (3, .int v3_9)]) hx hb (dAt zX3_nightsOfLeaving_0 22 rfl) hl (k := 3) rfl rfl (by decide) rfl (fun ls hl => ?_)
          refine lv_iinc (v := (v3_9 + 1)) (lv' := [(3, .int (v3_9 + 1)), (2, .int (v2_9 + 1)), (1, .int u18), (4, .int u18), (0, .ref (qF 0))]) hx hb (dAt zX3_nightsOfLeaving_0 23 rfl) hl (k := 4) rfl rfl (by decide) rfl (fun ls hl => ?_)
          refine lv_goto (tgt := 9) hx hb (dAt zX3_nightsOfLeaving_0 24 rfl) (by decide) ?_
          exact ih_9 u18 (v2_9 + 1) (v3_9 + 1) _ _ _ h hP hD hS (lv_sub hl [4, 2, 1, 0] rfl)
        · have h := q_pos c_26 h
          refine lv_iload_n hx hb (dAt zX3_nightsOfLeaving_0 18 rfl) rfl (lv_at hl 3 rfl) ?_
          obtain rfl := q_some h
          exact xRi hx hb hr hlocks hQ hAe hP hD hK hS rfl (dAt zX3_nightsOfLeaving_0 19 rfl)
  exact L_9 n (zF 0 3) 0 0 _ _ _ h hP hD hS (lv_sub hl [3, 2, 1, 0] rfl)
def m_X5_stays (n : Nat) (zX : TI) (zT : TI) (zI : TI) (zJ : TI) (zP : TI) (zC : TI) (zV : TI) (zF : TI) (zA : TL) (a1 : Int32) : Option (Int32 × TI) := ((m_X5_isFlag n  a1).bind fun u1 => (if u1 = 0 then some ((-2), zF) else ((m_X3_lookAt n zF zT).bind fun u18 => (if a1 = 0 then ((m_X3_remaining n u18 0).bind fun u30 => some (u30, u18)) else ((m_X3_nightsOfLeaving n u18).bind fun u40 => some (u40, u18))))))
set_option maxHeartbeats 4000000 in
set_option maxRecDepth 100000 in
theorem c_X5_stays (l : Launch) (D : va_G) (cI cJ cZ : ClassId) (n : Nat) (qX : Nat → Nat) (qT : Nat → Nat) (qI : Nat → Nat) (qJ : Nat → Nat) (qP : Nat → Nat) (qC : Nat → Nat) (qV : Nat → Nat) (qF : Nat → Nat) (qA : Nat → Nat) (sz : Nat) (zX : TI) (zT : TI) (zI : TI) (zJ : TI) (zP : TI) (zC : TI) (zV : TI) (zF : TI) (zA : TL) (a1 : Int32) (out : Int32 × TI) (hm : m_X5_stays n zX zT zI zJ zP zC zV zF zA a1 = some out) : Met l yX5_stays (wsM yX5_stays cX5_stays 2 (some .int)) { frames := 3, cells := 0, slots := 0, locals := 70 } (xPre D (kT cI cJ cZ) (w5 qX qT qI qJ qP qC qF qA zX ++ (w4 cI qT zT ++ (w4 cI qI zI ++ (w4 cI qJ zJ ++ (w2 cI qP zP ++ (w1 qC qV zC ++ (w4 cI qV zV ++ (w3 cI qF zF ++ (w0 cJ qA zA))))))))) sz [.ref (qX 0), .int a1]) (xQi D (kT cI cJ cZ) (w5 qX qT qI qJ qP qC qF qA zX ++ (w4 cI qT zT ++ (w4 cI qI zI ++ (w4 cI qJ zJ ++ (w2 cI qP zP ++ (w1 qC qV zC ++ (w4 cI qV zV ++ (w3 cI qF zF ++ (w0 cJ qA zA))))))))) (w5 qX qT qI qJ qP qC qF qA zX ++ (w4 cI qT zT ++ (w4 cI qI zI ++ (w4 cI qJ zJ ++ (w2 cI qP zP ++ (w1 qC qV zC ++ (w4 cI qV zV ++ (w3 cI qF out.2 ++ (w0 cJ qA zA))))))))) sz out.1) 0 0 (va_A (w5 qX qT qI qJ qP qC qF qA zX ++ (w4 cI qT zT ++ (w4 cI qI zI ++ (w4 cI qJ zJ ++ (w2 cI qP zP ++ (w1 qC qV zC ++ (w4 cI qV zV ++ (w3 cI qF zF ++ (w0 cJ qA zA))))))))) sz) := by
  refine Met.ofW (cc := cX5_stays) (maxL := 2) (ret := (some .int)) (by decide) rfl ?_
  intro p e s m args below meth c s₁ B hml hv
  obtain ⟨hv, hsz, hP, hK, hD0, hN⟩ := hv
  have hx := B.exec; have hb := B.bytes; have hr := B.returns
  have hts := atoms_spec (ws := (wsM yX5_stays cX5_stays 2 (some .int))) B.pre
  have hown : s.vm.findClass RX5 = some m.cls := findClass_of_methodNamed B.named
  have hlocks := B.notSynchronized
  subst hsz
  have hD := hD0.self (sz := s.heap.size)
  obtain ⟨A, hAe⟩ : ∃ A, A = va_A (w5 qX qT qI qJ qP qC qF qA zX ++ (w4 cI qT zT ++ (w4 cI qI zI ++ (w4 cI qJ zJ ++ (w2 cI qP zP ++ (w1 qC qV zC ++ (w4 cI qV zV ++ (w3 cI qF zF ++ (w0 cJ qA zA))))))))) s.heap.size := ⟨_, rfl⟩
  rw [← hAe] at hD
  have hA : ∀ q : Nat, s.heap.size ≤ q → A q := fun q h => by rw [hAe]; exact Or.inr h
  have htl : ∀ w ∈ wsL_law, w.before args s = true := fun w h => hts w (List.mem_cons_of_mem _ h)
  refine xHead (R' := { frames := 3, cells := 0, slots := 0, locals := 70 }) rfl (fun Q H hQ hH => ?_)
  have hP : va_P D vwCl (w5 qX qT qI qJ qP qC qF qA zX ++ (w4 cI qT zT ++ (w4 cI qI zI ++ (w4 cI qJ zJ ++ (w2 cI qP zP ++ (w1 qC qV zC ++ (w4 cI qV zV ++ (w3 cI qF zF ++ (w0 cJ qA zA))))))))) H := by rw [hH]; exact hP
  have hS : va_S A s.heap H [] := by rw [hH]; exact va_S.rf
  refine xStart hv (Nat.le_of_ble_eq_true rfl) (lv := [(0, .ref (qX 0)), (1, .int a1)]) rfl (fun ls hl => ?_)
  have h := hm
  unfold m_X5_stays at h
  refine lv_iload_n hx hb (dAt zX5_stays_0 0 rfl) rfl (lv_at hl 1 rfl) ?_
  obtain ⟨u1, hu1, h⟩ := q_bind h
  refine xFz (wc := ([] : va_W)) (w1 := ([] : va_W)) (wr := (w5 qX qT qI qJ qP qC qF qA zX ++ (w4 cI qT zT ++ (w4 cI qI zI ++ (w4 cI qJ zJ ++ (w2 cI qP zP ++ (w1 qC qV zC ++ (w4 cI qV zV ++ (w3 cI qF zF ++ (w0 cJ qA zA)))))))))) (ws2 := (w5 qX qT qI qJ qP qC qF qA zX ++ (w4 cI qT zT ++ (w4 cI qI zI ++ (w4 cI qJ zJ ++ (w2 cI qP zP ++ (w1 qC qV zC ++ (w4 cI qV zV ++ (w3 cI qF zF ++ (w0 cJ qA zA)))))))))) (va_runS (As := [.int a1]) (rest := []) ⟨hx, hb, hml, hown, htl⟩ (c_X5_isFlag l D cI cJ cZ n  H.size  a1 u1 hu1) (va_cwS 1 htl (gS W_142 W_143 W_2 W_144) rfl rfl rfl (by decide +kernel) ⟨Nat.le_of_ble_eq_true rfl, Nat.le_of_ble_eq_true rfl⟩) (xPS xP0 (xD0 A) hK hN) rfl rfl hl.1 rfl (lv_room (Nat.le_of_ble_eq_true rfl)) (dAt zX5_stays_0 1 rfl) ⟨Nat.zero_le _, Nat.zero_le _⟩) hS hA hP hD [] [0, 1, 2, 3, 4, 5, 6, 7, 8, 9, 10, 11, 12, 13, 14, 15, 16, 17, 18, 19, 20, 21, 22, 23, 24, 25, 26, 27, 28, 29] [0, 1, 2, 3, 4, 5, 6, 7, 8, 9, 10, 11, 12, 13, 14, 15, 16, 17, 18, 19, 20, 21, 22, 23, 24, 25, 26, 27, 28, 29] rfl rfl (by decide) (by decide) rfl (by decide) (fun H locs hz1 hP hD hS => ?_)
  refine lv_if_ne (tgt := 10) hx hb (dAt zX5_stays_0 2 rfl) (by decide) (fun c_4 => ?_) (fun c_4 => ?_)
  · have h := q_neg c_4 h
    refine lv_aload_n hx hb (dAt zX5_stays_0 5 rfl) rfl (lv_at hl 0 rfl) ?_
    refine va_get (D := D) (ci := 5) (v := .ref (qF 0)) (C := RX5) (T := TX5) (N := 8) hx hb htl inlX5 hown hK hP 0 rfl rfl 6 (by decide) (htl _ W_30) (fun _ h9 => h9) rfl (dAt zX5_stays_0 6 rfl) ?_
    refine lv_aload_n hx hb (dAt zX5_stays_0 7 rfl) rfl (lv_at hl 0 rfl) ?_
    refine va_get (D := D) (ci := 5) (v := .ref (qT 0)) (C := RX5) (T := TX5) (N := 8) hx hb htl inlX5 hown hK hP 0 rfl rfl 0 (by decide) (htl _ W_15) (fun _ h9 => h9) rfl (dAt zX5_stays_0 8 rfl) ?_
    obtain ⟨u18, hu18, h⟩ := q_bind h
    have hPc : va_P D vwCl (w3 cI qF zF ++ (w4 cI qT zT)) H := hP.sub [24, 25, 26, 27, 1, 2, 3, 4, 5] rfl
    have hDc : va_D A (w3 cI qF zF ++ (w4 cI qT zT)) := hD.sub [24, 25, 26, 27, 1, 2, 3, 4, 5] (by decide) rfl
    refine xFv (wc := (w3 cI qF zF ++ (w4 cI qT zT))) (w1 := (w3 cI qF u18 ++ (w4 cI qT zT))) (wr := (w5 qX qT qI qJ qP qC qF qA zX ++ (w4 cI qI zI ++ (w4 cI qJ zJ ++ (w2 cI qP zP ++ (w1 qC qV zC ++ (w4 cI qV zV ++ (w0 cJ qA zA)))))))) (ws2 := (w5 qX qT qI qJ qP qC qF qA zX ++ (w4 cI qT zT ++ (w4 cI qI zI ++ (w4 cI qJ zJ ++ (w2 cI qP zP ++ (w1 qC qV zC ++ (w4 cI qV zV ++ (w3 cI qF u18 ++ (w0 cJ qA zA)))))))))) (va_runV (As := [.ref (qT 0)]) (rest := []) ⟨hx, hb, hml, hown, htl⟩ (c_X3_lookAt l D cI cJ cZ n qF qT H.size zF zT  u18 hu18) (cwV 1 htl (gV W_523 W_524 W_525 W_29 W_526) rfl rfl rfl (by decide +kernel) ⟨Nat.le_of_ble_eq_true rfl, Nat.le_of_ble_eq_true rfl⟩) (xPV hPc hDc hK hN 0 rfl rfl) rfl rfl hl.1 rfl (lv_room (Nat.le_of_ble_eq_true rfl)) (dAt zX5_stays_0 9 rfl) ⟨Nat.zero_le _, Nat.zero_le _⟩) hS hA hP hD [24, 25, 26, 27, 1, 2, 3, 4, 5] [0, 6, 7, 8, 9, 10, 11, 12, 13, 14, 15, 16, 17, 18, 19, 20, 21, 22, 23, 28, 29] [0, 25, 26, 27, 28, 29, 1, 2, 3, 4, 5, 6, 7, 8, 9, 10, 11, 12, 13, 14, 15, 16, 17, 18, 21, 22, 23, 24, 19, 20] rfl rfl (by decide) (by decide) rfl (by decide) (fun H locs hP hD hS => ?_)
    refine lv_iload_n hx hb (dAt zX5_stays_0 10 rfl) rfl (lv_at hl 1 rfl) ?_
    refine lv_if_ne (tgt := 36) hx hb (dAt zX5_stays_0 11 rfl) (by decide) (fun c_22 => ?_) (fun c_22 => ?_)
    · have h := q_neg c_22 h
      refine lv_aload_n hx hb (dAt zX5_stays_0 17 rfl) rfl (lv_at hl 0 rfl) ?_
      refine va_get (D := D) (ci := 5) (v := .ref (qF 0)) (C := RX5) (T := TX5) (N := 8) hx hb htl inlX5 hown hK hP 0 rfl rfl 6 (by decide) (htl _ W_30) (fun _ h9 => h9) rfl (dAt zX5_stays_0 18 rfl) ?_
      obtain ⟨u40, hu40, h⟩ := q_bind h
      have hPc : va_P D vwCl (w3 cI qF u18) H := hP.sub [24, 25, 26, 27] rfl
      have hDc : va_D A (w3 cI qF u18) := hD.sub [24, 25, 26, 27] (by decide) rfl
      refine xFi (wc := (w3 cI qF u18)) (w1 := (w3 cI qF u18)) (wr := (w5 qX qT qI qJ qP qC qF qA zX ++ (w4 cI qT zT ++ (w4 cI qI zI ++ (w4 cI qJ zJ ++ (w2 cI qP zP ++ (w1 qC qV zC ++ (w4 cI qV zV ++ (w0 cJ qA zA))))))))) (ws2 := (w5 qX qT qI qJ qP qC qF qA zX ++ (w4 cI qT zT ++ (w4 cI qI zI ++ (w4 cI qJ zJ ++ (w2 cI qP zP ++ (w1 qC qV zC ++ (w4 cI qV zV ++ (w3 cI qF u18 ++ (w0 cJ qA zA)))))))))) (va_runV (As := []) (rest := []) ⟨hx, hb, hml, hown, htl⟩ (c_X3_nightsOfLeaving l D cI cJ cZ n qF H.size u18  u40 hu40) (cwV 0 htl (gV W_543 W_544 W_545 W_29 W_546) rfl rfl rfl (by decide +kernel) ⟨Nat.le_of_ble_eq_true rfl, Nat.le_of_ble_eq_true rfl⟩) (xPV hPc hDc hK hN 0 rfl rfl) rfl rfl hl.1 rfl (lv_room (Nat.le_of_ble_eq_true rfl)) (dAt zX5_stays_0 19 rfl) ⟨Nat.zero_le _, Nat.zero_le _⟩) hS hA hP hD [24, 25, 26, 27] [0, 1, 2, 3, 4, 5, 6, 7, 8, 9, 10, 11, 12, 13, 14, 15, 16, 17, 18, 19, 20, 21, 22, 23, 28, 29] [0, 1, 2, 3, 4, 5, 6, 7, 8, 9, 10, 11, 12, 13, 14, 15, 16, 17, 18, 19, 20, 21, 22, 23, 26, 27, 28, 29, 24, 25] rfl rfl (by decide) (by decide) rfl (by decide) (fun H locs hP hD hS => ?_)
      obtain rfl := q_some h
      exact xRi hx hb hr hlocks hQ hAe hP hD hK hS rfl (dAt zX5_stays_0 20 rfl)
    · have h := q_pos c_22 h
      refine lv_aload_n hx hb (dAt zX5_stays_0 12 rfl) rfl (lv_at hl 0 rfl) ?_
      refine va_get (D := D) (ci := 5) (v := .ref (qF 0)) (C := RX5) (T := TX5) (N := 8) hx hb htl inlX5 hown hK hP 0 rfl rfl 6 (by decide) (htl _ W_30) (fun _ h9 => h9) rfl (dAt zX5_stays_0 13 rfl) ?_
      refine lv_iconst (v := 0) hx hb (dAt zX5_stays_0 14 rfl) (by decide) ?_
      obtain ⟨u30, hu30, h⟩ := q_bind h
      have hPc : va_P D vwCl (w3 cI qF u18) H := hP.sub [24, 25, 26, 27] rfl
      have hDc : va_D A (w3 cI qF u18) := hD.sub [24, 25, 26, 27] (by decide) rfl
      refine xFi (wc := (w3 cI qF u18)) (w1 := (w3 cI qF u18)) (wr := (w5 qX qT qI qJ qP qC qF qA zX ++ (w4 cI qT zT ++ (w4 cI qI zI ++ (w4 cI qJ zJ ++ (w2 cI qP zP ++ (w1 qC qV zC ++ (w4 cI qV zV ++ (w0 cJ qA zA))))))))) (ws2 := (w5 qX qT qI qJ qP qC qF qA zX ++ (w4 cI qT zT ++ (w4 cI qI zI ++ (w4 cI qJ zJ ++ (w2 cI qP zP ++ (w1 qC qV zC ++ (w4 cI qV zV ++ (w3 cI qF u18 ++ (w0 cJ qA zA)))))))))) (va_runV (As := [.int 0]) (rest := []) ⟨hx, hb, hml, hown, htl⟩ (c_X3_remaining l D cI cJ cZ n qF H.size u18 0 u30 hu30) (cwV 1 htl (gV W_534 W_535 W_536 W_29 W_537) rfl rfl rfl (by decide +kernel) ⟨Nat.le_of_ble_eq_true rfl, Nat.le_of_ble_eq_true rfl⟩) (xPV hPc hDc hK hN 0 rfl rfl) rfl rfl hl.1 rfl (lv_room (Nat.le_of_ble_eq_true rfl)) (dAt zX5_stays_0 15 rfl) ⟨Nat.zero_le _, Nat.zero_le _⟩) hS hA hP hD [24, 25, 26, 27] [0, 1, 2, 3, 4, 5, 6, 7, 8, 9, 10, 11, 12, 13, 14, 15, 16, 17, 18, 19, 20, 21, 22, 23, 28, 29] [0, 1, 2, 3, 4, 5, 6, 7, 8, 9, 10, 11, 12, 13, 14, 15, 16, 17, 18, 19, 20, 21, 22, 23, 26, 27, 28, 29, 24, 25] rfl rfl (by decide) (by decide) rfl (by decide) (fun H locs hP hD hS => ?_)
      refine lv_goto (tgt := 43) hx hb (dAt zX5_stays_0 16 rfl) (by decide) ?_
      obtain rfl := q_some h
      exact xRi hx hb hr hlocks hQ hAe hP hD hK hS rfl (dAt zX5_stays_0 20 rfl)
  · have h := q_pos c_4 h
    refine lv_bipush (v := (-2)) hx hb (dAt zX5_stays_0 3 rfl) (by decide) ?_
    obtain rfl := q_some h
    exact xRi hx hb hr hlocks hQ hAe hP hD hK hS rfl (dAt zX5_stays_0 4 rfl)
def b_X3_fewestToKeep_31 (n : Nat) (zF : TI) (a1 : Int32) (s_31 : Int32 × Int32) (k_31 : Int32 × Int32 → Option Int32) : Option Int32 := (if 1023 ≤ s_31.2 then some s_31.1 else ((m_J6_bitCount_0f7a4 n  s_31.2).bind fun u41 => ((m_J6_bitCount_0f7a4 n  s_31.1).bind fun u45 => (if u45 ≤ u41 then (k_31 (s_31.1, (s_31.2 + 1))) else (if (s_31.2 &&& (((zF 0 3) &&& (((1 : Int32) <<< (a1 &&& 31)) ^^^ (-1 : Int32))) ^^^ (-1 : Int32))) = 0 then ((m_X3_remaining n zF s_31.2).bind fun u75 => ((m_X5_holds n  u75 a1).bind fun u79 => (if u79 = 0 then (k_31 (s_31.1, (s_31.2 + 1))) else (k_31 (s_31.2, (s_31.2 + 1)))))) else (k_31 (s_31.1, (s_31.2 + 1))))))))
def m_X3_fewestToKeep (n : Nat) (zF : TI) (a1 : Int32) : Option Int32 := ((m_X3_remaining n zF ((zF 0 3) &&& (((1 : Int32) <<< (a1 &&& 31)) ^^^ (-1 : Int32)))).bind fun u13 => ((m_X5_holds n  u13 a1).bind fun u17 => (if u17 = 0 then some (-6) else (loopF (b_X3_fewestToKeep_31 n zF a1 ) n (((zF 0 3) &&& (((1 : Int32) <<< (a1 &&& 31)) ^^^ (-1 : Int32))), 0)))))
set_option maxHeartbeats 4000000 in
set_option maxRecDepth 100000 in
theorem c_X3_fewestToKeep (l : Launch) (D : va_G) (cI cJ cZ : ClassId) (n : Nat) (qF : Nat → Nat) (sz : Nat) (zF : TI) (a1 : Int32) (out : Int32) (hm : m_X3_fewestToKeep n zF a1 = some out) : Met l yX3_fewestToKeep (wsM yX3_fewestToKeep cX3_fewestToKeep 6 (some .int)) { frames := 3, cells := 0, slots := 0, locals := 70 } (xPre D (kT cI cJ cZ) (w3 cI qF zF) sz [.ref (qF 0), .int a1]) (xQi D (kT cI cJ cZ) (w3 cI qF zF) (w3 cI qF zF) sz out) 0 0 (va_A (w3 cI qF zF) sz) := by
  refine Met.ofW (cc := cX3_fewestToKeep) (maxL := 6) (ret := (some .int)) (by decide) rfl ?_
  intro p e s m args below meth c s₁ B hml hv
  obtain ⟨hv, hsz, hP, hK, hD0, hN⟩ := hv
  have hx := B.exec; have hb := B.bytes; have hr := B.returns
  have hts := atoms_spec (ws := (wsM yX3_fewestToKeep cX3_fewestToKeep 6 (some .int))) B.pre
  have hown : s.vm.findClass RX3 = some m.cls := findClass_of_methodNamed B.named
  have hlocks := B.notSynchronized
  subst hsz
  have hD := hD0.self (sz := s.heap.size)
  obtain ⟨A, hAe⟩ : ∃ A, A = va_A (w3 cI qF zF) s.heap.size := ⟨_, rfl⟩
  rw [← hAe] at hD
  have hA : ∀ q : Nat, s.heap.size ≤ q → A q := fun q h => by rw [hAe]; exact Or.inr h
  have htl : ∀ w ∈ wsL_law, w.before args s = true := fun w h => hts w (List.mem_cons_of_mem _ h)
  refine xHead (R' := { frames := 3, cells := 0, slots := 0, locals := 70 }) rfl (fun Q H hQ hH => ?_)
  have hP : va_P D vwCl (w3 cI qF zF) H := by rw [hH]; exact hP
  have hS : va_S A s.heap H [] := by rw [hH]; exact va_S.rf
  refine xStart hv (Nat.le_of_ble_eq_true rfl) (lv := [(0, .ref (qF 0)), (1, .int a1)]) rfl (fun ls hl => ?_)
  have h := hm
  unfold m_X3_fewestToKeep at h
  refine lv_aload_n hx hb (dAt zX3_fewestToKeep_0 0 rfl) rfl (lv_at hl 0 rfl) ?_
  refine va_get (D := D) (ci := 3) (v := .int (zF 0 3)) (C := RX3) (T := TX3) (N := 4) hx hb htl inlX3 hown hK hP 0 rfl rfl 3 (by decide) (htl _ W_72) (fun _ h9 => h9) rfl (dAt zX3_fewestToKeep_0 1 rfl) ?_
  refine lv_iconst (v := 1) hx hb (dAt zX3_fewestToKeep_0 2 rfl) (by decide) ?_
  refine lv_iload_n hx hb (dAt zX3_fewestToKeep_0 3 rfl) rfl (lv_at hl 1 rfl) ?_
  refine lv_ishl hx hb (dAt zX3_fewestToKeep_0 4 rfl) ?_
  refine lv_iconst (v := (-1)) hx hb (dAt zX3_fewestToKeep_0 5 rfl) (by decide) ?_
  refine lv_ixor hx hb (dAt zX3_fewestToKeep_0 6 rfl) ?_
  refine lv_iand hx hb (dAt zX3_fewestToKeep_0 7 rfl) ?_
  refine lv_istore_n (lv' := [(2, .int ((zF 0 3) &&& (((1 : Int32) <<< (a1 &&& 31)) ^^^ (-1 : Int32)))), (0, .ref (qF 0)), (1, .int a1)]) hx hb (dAt zX3_fewestToKeep_0 8 rfl) rfl hl (by decide) rfl (fun ls hl => ?_)
  refine lv_aload_n hx hb (dAt zX3_fewestToKeep_0 9 rfl) rfl (lv_at hl 1 rfl) ?_
  refine lv_iload_n hx hb (dAt zX3_fewestToKeep_0 10 rfl) rfl (lv_at hl 0 rfl) ?_
  obtain ⟨u13, hu13, h⟩ := q_bind h
  refine xFi (wc := (w3 cI qF zF)) (w1 := (w3 cI qF zF)) (wr := ([] : va_W)) (ws2 := (w3 cI qF zF)) (va_runV (As := [.int ((zF 0 3) &&& (((1 : Int32) <<< (a1 &&& 31)) ^^^ (-1 : Int32)))]) (rest := []) ⟨hx, hb, hml, hown, htl⟩ (c_X3_remaining l D cI cJ cZ n qF H.size zF ((zF 0 3) &&& (((1 : Int32) <<< (a1 &&& 31)) ^^^ (-1 : Int32))) u13 hu13) (cwV 1 htl (gV W_565 W_535 W_536 W_29 W_537) rfl rfl rfl (by decide +kernel) ⟨Nat.le_of_ble_eq_true rfl, Nat.le_of_ble_eq_true rfl⟩) (xPV hP hD hK hN 0 rfl rfl) rfl rfl hl.1 rfl (lv_room (Nat.le_of_ble_eq_true rfl)) (dAt zX3_fewestToKeep_0 11 rfl) ⟨Nat.zero_le _, Nat.zero_le _⟩) hS hA hP hD [0, 1, 2, 3] [] [0, 1, 2, 3] rfl rfl (by decide) (by decide) rfl (by decide) (fun H locs hP hD hS => ?_)
  refine lv_iload_n hx hb (dAt zX3_fewestToKeep_0 12 rfl) rfl (lv_at hl 2 rfl) ?_
  obtain ⟨u17, hu17, h⟩ := q_bind h
  refine xFz (wc := ([] : va_W)) (w1 := ([] : va_W)) (wr := (w3 cI qF zF)) (ws2 := (w3 cI qF zF)) (va_runSN (host := RX5) (As := [.int u13, .int a1]) (rest := []) ⟨hx, hb, hml, hown, htl⟩ (c_X5_holds l D cI cJ cZ n  H.size  u13 a1 u17 hu17) ⟨va_cnB 2 htl (gM W_339) rfl rfl rfl hN.2.2.1 (htl _ W_2) (by decide +kernel) ⟨Nat.le_of_ble_eq_true rfl, Nat.le_of_ble_eq_true rfl⟩, htl _ W_338, trivial⟩ (xPS xP0 (xD0 A) hK hN) rfl rfl hl.1 rfl (lv_room (Nat.le_of_ble_eq_true rfl)) (dAt zX3_fewestToKeep_0 13 rfl) ⟨Nat.zero_le _, Nat.zero_le _⟩) hS hA hP hD [] [0, 1, 2, 3] [0, 1, 2, 3] rfl rfl (by decide) (by decide) rfl (by decide) (fun H locs hz17 hP hD hS => ?_)
  refine lv_if_ne (tgt := 26) hx hb (dAt zX3_fewestToKeep_0 14 rfl) (by decide) (fun c_20 => ?_) (fun c_20 => ?_)
  · have h := q_neg c_20 h
    refine lv_iload_n hx hb (dAt zX3_fewestToKeep_0 17 rfl) rfl (lv_at hl 0 rfl) ?_
    refine lv_istore_n (lv' := [(3, .int ((zF 0 3) &&& (((1 : Int32) <<< (a1 &&& 31)) ^^^ (-1 : Int32)))), (2, .int ((zF 0 3) &&& (((1 : Int32) <<< (a1 &&& 31)) ^^^ (-1 : Int32)))), (0, .ref (qF 0)), (1, .int a1)]) hx hb (dAt zX3_fewestToKeep_0 18 rfl) rfl hl (by decide) rfl (fun ls hl => ?_)
    refine lv_iconst (v := 0) hx hb (dAt zX3_fewestToKeep_0 19 rfl) (by decide) ?_
    refine lv_istore (lv' := [(4, .int 0), (3, .int ((zF 0 3) &&& (((1 : Int32) <<< (a1 &&& 31)) ^^^ (-1 : Int32)))), (2, .int ((zF 0 3) &&& (((1 : Int32) <<< (a1 &&& 31)) ^^^ (-1 : Int32)))), (0, .ref (qF 0)), (1, .int a1)]) hx hb (dAt zX3_fewestToKeep_0 20 rfl) hl (by decide) rfl (fun ls hl => ?_)
    have L_31 : ∀ (j_31 : Nat) (v3_31 : Int32) (v4_31 : Int32) (H : Heap) (locs : List Loc) (ls : Array Slot), loopF (b_X3_fewestToKeep_31 n zF a1) j_31 (v3_31, v4_31) = some out → va_P D vwCl (w3 cI qF zF) H → va_D A (w3 cI qF zF) → va_S A s.heap H locs → lv_has ls 6 [(0, .ref (qF 0)), (1, .int a1), (2, .int ((zF 0 3) &&& (((1 : Int32) <<< (a1 &&& 31)) ^^^ (-1 : Int32)))), (3, .int v3_31), (4, .int v4_31)] → W p l e { frames := 3, cells := 0, slots := 0, locals := 70 } s m args below meth c H locs 0 0 Q (F0 m 31 ls []) := by
      intro j_31
      induction j_31 with
      | zero => intro v3_31 v4_31 H locs ls h hP hD hS hl; exact loopF_0 h
      | succ j_31 ih_31 =>
        intro v3_31 v4_31 H locs ls h hP hD hS hl
        have h := loopF_s h
        unfold b_X3_fewestToKeep_31 at h
        refine lv_iload hx hb (dAt zX3_fewestToKeep_0 21 rfl) (lv_at hl 4 rfl) ?_
        refine lv_sipush (v := 1023) hx hb (dAt zX3_fewestToKeep_0 22 rfl) (by decide) ?_
        refine lv_icmp_ge (tgt := 94) hx hb (dAt zX3_fewestToKeep_0 23 rfl) (by decide) (fun c_36 => ?_) (fun c_36 => ?_)
        · have h := q_pos c_36 h
          refine lv_iload_n hx hb (dAt zX3_fewestToKeep_0 51 rfl) rfl (lv_at hl 3 rfl) ?_
          obtain rfl := q_some h
          exact xRi hx hb hr hlocks hQ hAe hP hD hK hS rfl (dAt zX3_fewestToKeep_0 52 rfl)
        · have h := q_neg c_36 h
          refine lv_iload hx hb (dAt zX3_fewestToKeep_0 24 rfl) (lv_at hl 4 rfl) ?_
          obtain ⟨u41, hu41, h⟩ := q_bind h
          refine xFi (wc := ([] : va_W)) (w1 := ([] : va_W)) (wr := (w3 cI qF zF)) (ws2 := (w3 cI qF zF)) (va_runS (As := [.int v4_31]) (rest := []) ⟨hx, hb, hml, hown, htl⟩ (c_J6_bitCount_0f7a4 l D cI cJ cZ n  H.size  v4_31 u41 hu41) (va_cwS 1 htl (gS W_542 W_150 W_151 W_152) rfl rfl rfl (by decide +kernel) ⟨Nat.le_of_ble_eq_true rfl, Nat.le_of_ble_eq_true rfl⟩) (xPS xP0 (xD0 A) hK hN) rfl rfl hl.1 rfl (lv_room (Nat.le_of_ble_eq_true rfl)) (dAt zX3_fewestToKeep_0 25 rfl) ⟨Nat.zero_le _, Nat.zero_le _⟩) hS hA hP hD [] [0, 1, 2, 3] [0, 1, 2, 3] rfl rfl (by decide) (by decide) rfl (by decide) (fun H locs hP hD hS => ?_)
          refine lv_iload_n hx hb (dAt zX3_fewestToKeep_0 26 rfl) rfl (lv_at hl 3 rfl) ?_
          obtain ⟨u45, hu45, h⟩ := q_bind h
          refine xFi (wc := ([] : va_W)) (w1 := ([] : va_W)) (wr := (w3 cI qF zF)) (ws2 := (w3 cI qF zF)) (va_runS (As := [.int v3_31]) (rest := [.int u41]) ⟨hx, hb, hml, hown, htl⟩ (c_J6_bitCount_0f7a4 l D cI cJ cZ n  H.size  v3_31 u45 hu45) (va_cwS 1 htl (gS W_542 W_150 W_151 W_152) rfl rfl rfl (by decide +kernel) ⟨Nat.le_of_ble_eq_true rfl, Nat.le_of_ble_eq_true rfl⟩) (xPS xP0 (xD0 A) hK hN) rfl rfl hl.1 rfl (lv_room (Nat.le_of_ble_eq_true rfl)) (dAt zX3_fewestToKeep_0 27 rfl) ⟨Nat.zero_le _, Nat.zero_le _⟩) hS hA hP hD [] [0, 1, 2, 3] [0, 1, 2, 3] rfl rfl (by decide) (by decide) rfl (by decide) (fun H locs hP hD hS => ?_)
          refine lv_icmp_ge (tgt := 55) hx hb (dAt zX3_fewestToKeep_0 28 rfl) (by decide) (fun c_48 => ?_) (fun c_48 => ?_)
          · have h := q_pos c_48 h
            refine lv_iconst (v := 0) hx hb (dAt zX3_fewestToKeep_0 31 rfl) (by decide) ?_
            refine lv_istore (lv' := [(5, .int 0), (0, .ref (qF 0)), (1, .int a1), (2, .int ((zF 0 3) &&& (((1 : Int32) <<< (a1 &&& 31)) ^^^ (-1 : Int32)))), (3, .int v3_31), (4, .int v4_31)]) hx hb (dAt zX3_fewestToKeep_0 32 rfl) hl (by decide) rfl (fun ls hl => ?_)
            refine lv_iload hx hb (dAt zX3_fewestToKeep_0 33 rfl) (lv_at hl 0 rfl) ?_
            refine lv_if_eq (tgt := 88) hx hb (dAt zX3_fewestToKeep_0 34 rfl) (by decide) (fun _ => ?_) (fun c => absurd (by decide) c)
            refine lv_iinc (v := (v4_31 + 1)) (lv' := [(4, .int (v4_31 + 1)), (5, .int 0), (0, .ref (qF 0)), (1, .int a1), (2, .int ((zF 0 3) &&& (((1 : Int32) <<< (a1 &&& 31)) ^^^ (-1 : Int32)))), (3, .int v3_31)]) hx hb (dAt zX3_fewestToKeep_0 49 rfl) hl (k := 5) rfl rfl (by decide) rfl (fun ls hl => ?_)
            refine lv_goto (tgt := 31) hx hb (dAt zX3_fewestToKeep_0 50 rfl) (by decide) ?_
            exact ih_31 v3_31 (v4_31 + 1) _ _ _ h hP hD hS (lv_sub hl [2, 3, 4, 5, 0] rfl)
          · have h := q_neg c_48 h
            refine lv_iconst (v := 1) hx hb (dAt zX3_fewestToKeep_0 29 rfl) (by decide) ?_
            refine lv_goto (tgt := 56) hx hb (dAt zX3_fewestToKeep_0 30 rfl) (by decide) ?_
            refine lv_istore (lv' := [(5, .int 1), (0, .ref (qF 0)), (1, .int a1), (2, .int ((zF 0 3) &&& (((1 : Int32) <<< (a1 &&& 31)) ^^^ (-1 : Int32)))), (3, .int v3_31), (4, .int v4_31)]) hx hb (dAt zX3_fewestToKeep_0 32 rfl) hl (by decide) rfl (fun ls hl => ?_)
            refine lv_iload hx hb (dAt zX3_fewestToKeep_0 33 rfl) (lv_at hl 0 rfl) ?_
            refine lv_if_eq (tgt := 88) hx hb (dAt zX3_fewestToKeep_0 34 rfl) (by decide) (fun c => absurd c (by decide)) (fun _ => ?_)
            refine lv_iload hx hb (dAt zX3_fewestToKeep_0 35 rfl) (lv_at hl 5 rfl) ?_
            refine lv_iload_n hx hb (dAt zX3_fewestToKeep_0 36 rfl) rfl (lv_at hl 3 rfl) ?_
            refine lv_iconst (v := (-1)) hx hb (dAt zX3_fewestToKeep_0 37 rfl) (by decide) ?_
            refine lv_ixor hx hb (dAt zX3_fewestToKeep_0 38 rfl) ?_
            refine lv_iand hx hb (dAt zX3_fewestToKeep_0 39 rfl) ?_
            refine lv_if_ne (tgt := 88) hx hb (dAt zX3_fewestToKeep_0 40 rfl) (by decide) (fun c_69 => ?_) (fun c_69 => ?_)
            · have h := q_neg c_69 h
              refine lv_iinc (v := (v4_31 + 1)) (lv' := [(4, .int (v4_31 + 1)), (5, .int 1), (0, .ref (qF 0)), (1, .int a1), (2, .int ((zF 0 3) &&& (((1 : Int32) <<< (a1 &&& 31)) ^^^ (-1 : Int32)))), (3, .int v3_31)]) hx hb (dAt zX3_fewestToKeep_0 49 rfl) hl (k := 5) rfl rfl (by decide) rfl (fun ls hl => ?_)
              refine lv_goto (tgt := 31) hx hb (dAt zX3_fewestToKeep_0 50 rfl) (by decide) ?_
              exact ih_31 v3_31 (v4_31 + 1) _ _ _ h hP hD hS (lv_sub hl [2, 3, 4, 5, 0] rfl)
            · have h := q_pos c_69 h
              refine lv_aload_n hx hb (dAt zX3_fewestToKeep_0 41 rfl) rfl (lv_at hl 1 rfl) ?_
              refine lv_iload hx hb (dAt zX3_fewestToKeep_0 42 rfl) (lv_at hl 5 rfl) ?_
              obtain ⟨u75, hu75, h⟩ := q_bind h
              refine xFi (wc := (w3 cI qF zF)) (w1 := (w3 cI qF zF)) (wr := ([] : va_W)) (ws2 := (w3 cI qF zF)) (va_runV (As := [.int v4_31]) (rest := []) ⟨hx, hb, hml, hown, htl⟩ (c_X3_remaining l D cI cJ cZ n qF H.size zF v4_31 u75 hu75) (cwV 1 htl (gV W_565 W_535 W_536 W_29 W_537) rfl rfl rfl (by decide +kernel) ⟨Nat.le_of_ble_eq_true rfl, Nat.le_of_ble_eq_true rfl⟩) (xPV hP hD hK hN 0 rfl rfl) rfl rfl hl.1 rfl (lv_room (Nat.le_of_ble_eq_true rfl)) (dAt zX3_fewestToKeep_0 43 rfl) ⟨Nat.zero_le _, Nat.zero_le _⟩) hS hA hP hD [0, 1, 2, 3] [] [0, 1, 2, 3] rfl rfl (by decide) (by decide) rfl (by decide) (fun H locs hP hD hS => ?_)
              refine lv_iload_n hx hb (dAt zX3_fewestToKeep_0 44 rfl) rfl (lv_at hl 2 rfl) ?_
              obtain ⟨u79, hu79, h⟩ := q_bind h
              refine xFz (wc := ([] : va_W)) (w1 := ([] : va_W)) (wr := (w3 cI qF zF)) (ws2 := (w3 cI qF zF)) (va_runSN (host := RX5) (As := [.int u75, .int a1]) (rest := []) ⟨hx, hb, hml, hown, htl⟩ (c_X5_holds l D cI cJ cZ n  H.size  u75 a1 u79 hu79) ⟨va_cnB 2 htl (gM W_339) rfl rfl rfl hN.2.2.1 (htl _ W_2) (by decide +kernel) ⟨Nat.le_of_ble_eq_true rfl, Nat.le_of_ble_eq_true rfl⟩, htl _ W_338, trivial⟩ (xPS xP0 (xD0 A) hK hN) rfl rfl hl.1 rfl (lv_room (Nat.le_of_ble_eq_true rfl)) (dAt zX3_fewestToKeep_0 45 rfl) ⟨Nat.zero_le _, Nat.zero_le _⟩) hS hA hP hD [] [0, 1, 2, 3] [0, 1, 2, 3] rfl rfl (by decide) (by decide) rfl (by decide) (fun H locs hz79 hP hD hS => ?_)
              refine lv_if_eq (tgt := 88) hx hb (dAt zX3_fewestToKeep_0 46 rfl) (by decide) (fun c_82 => ?_) (fun c_82 => ?_)
              · have h := q_pos c_82 h
                refine lv_iinc (v := (v4_31 + 1)) (lv' := [(4, .int (v4_31 + 1)), (5, .int 1), (0, .ref (qF 0)), (1, .int a1), (2, .int ((zF 0 3) &&& (((1 : Int32) <<< (a1 &&& 31)) ^^^ (-1 : Int32)))), (3, .int v3_31)]) hx hb (dAt zX3_fewestToKeep_0 49 rfl) hl (k := 5) rfl rfl (by decide) rfl (fun ls hl => ?_)
                refine lv_goto (tgt := 31) hx hb (dAt zX3_fewestToKeep_0 50 rfl) (by decide) ?_
                exact ih_31 v3_31 (v4_31 + 1) _ _ _ h hP hD hS (lv_sub hl [2, 3, 4, 5, 0] rfl)
              · have h := q_neg c_82 h
                refine lv_iload hx hb (dAt zX3_fewestToKeep_0 47 rfl) (lv_at hl 5 rfl) ?_
                refine lv_istore_n (lv' := [(3, .int v4_31), (5, .int 1), (0, .ref (qF 0)), (1, .int a1), (2, .int ((zF 0 3) &&& (((1 : Int32) <<< (a1 &&& 31)) ^^^ (-1 : Int32)))), (4, .int v4_31)]) hx hb (dAt zX3_fewestToKeep_0 48 rfl) rfl hl (by decide) rfl (fun ls hl => ?_)
                refine lv_iinc (v := (v4_31 + 1)) (lv' := [(4, .int (v4_31 + 1)), (3, .int v4_31), (5, .int 1), (0, .ref (qF 0)), (1, .int a1), (2, .int ((zF 0 3) &&& (((1 : Int32) <<< (a1 &&& 31)) ^^^ (-1 : Int32))))]) hx hb (dAt zX3_fewestToKeep_0 49 rfl) hl (k := 5) rfl rfl (by decide) rfl (fun ls hl => ?_)
                refine lv_goto (tgt := 31) hx hb (dAt zX3_fewestToKeep_0 50 rfl) (by decide) ?_
                exact ih_31 v4_31 (v4_31 + 1) _ _ _ h hP hD hS (lv_sub hl [3, 4, 5, 1, 0] rfl)
    exact L_31 n ((zF 0 3) &&& (((1 : Int32) <<< (a1 &&& 31)) ^^^ (-1 : Int32))) 0 _ _ _ h hP hD hS (lv_sub hl [3, 4, 2, 1, 0] rfl)
  · have h := q_pos c_20 h
    refine lv_bipush (v := (-6)) hx hb (dAt zX3_fewestToKeep_0 15 rfl) (by decide) ?_
    obtain rfl := q_some h
    exact xRi hx hb hr hlocks hQ hAe hP hD hK hS rfl (dAt zX3_fewestToKeep_0 16 rfl)
def m_X5_keep (n : Nat) (zX : TI) (zT : TI) (zI : TI) (zJ : TI) (zP : TI) (zC : TI) (zV : TI) (zF : TI) (zA : TL) (a1 : Int32) (a2 : Int32) : Option (Int32 × TI) := ((m_X4_isHere n zT a1).bind fun u5 => (if u5 = 0 then some ((-1), zF) else ((m_X5_isFlag n  a2).bind fun u14 => (if u14 = 0 then some ((-2), zF) else ((m_X3_lookAt n zF zT).bind fun u31 => ((m_X3_fewestToKeep n u31 a1).bind fun u39 => (if a2 = 1 then some (u39, u31) else (if u39 = (-6) then some (u39, u31) else ((m_J6_bitCount_0f7a4 n  u39).bind fun u59 => some (u59, u31))))))))))
set_option maxHeartbeats 4000000 in
set_option maxRecDepth 100000 in
theorem c_X5_keep (l : Launch) (D : va_G) (cI cJ cZ : ClassId) (n : Nat) (qX : Nat → Nat) (qT : Nat → Nat) (qI : Nat → Nat) (qJ : Nat → Nat) (qP : Nat → Nat) (qC : Nat → Nat) (qV : Nat → Nat) (qF : Nat → Nat) (qA : Nat → Nat) (sz : Nat) (zX : TI) (zT : TI) (zI : TI) (zJ : TI) (zP : TI) (zC : TI) (zV : TI) (zF : TI) (zA : TL) (a1 : Int32) (a2 : Int32) (out : Int32 × TI) (hm : m_X5_keep n zX zT zI zJ zP zC zV zF zA a1 a2 = some out) : Met l yX5_keep (wsM yX5_keep cX5_keep 4 (some .int)) { frames := 4, cells := 0, slots := 0, locals := 95 } (xPre D (kT cI cJ cZ) (w5 qX qT qI qJ qP qC qF qA zX ++ (w4 cI qT zT ++ (w4 cI qI zI ++ (w4 cI qJ zJ ++ (w2 cI qP zP ++ (w1 qC qV zC ++ (w4 cI qV zV ++ (w3 cI qF zF ++ (w0 cJ qA zA))))))))) sz [.ref (qX 0), .int a1, .int a2]) (xQi D (kT cI cJ cZ) (w5 qX qT qI qJ qP qC qF qA zX ++ (w4 cI qT zT ++ (w4 cI qI zI ++ (w4 cI qJ zJ ++ (w2 cI qP zP ++ (w1 qC qV zC ++ (w4 cI qV zV ++ (w3 cI qF zF ++ (w0 cJ qA zA))))))))) (w5 qX qT qI qJ qP qC qF qA zX ++ (w4 cI qT zT ++ (w4 cI qI zI ++ (w4 cI qJ zJ ++ (w2 cI qP zP ++ (w1 qC qV zC ++ (w4 cI qV zV ++ (w3 cI qF out.2 ++ (w0 cJ qA zA))))))))) sz out.1) 0 0 (va_A (w5 qX qT qI qJ qP qC qF qA zX ++ (w4 cI qT zT ++ (w4 cI qI zI ++ (w4 cI qJ zJ ++ (w2 cI qP zP ++ (w1 qC qV zC ++ (w4 cI qV zV ++ (w3 cI qF zF ++ (w0 cJ qA zA))))))))) sz) := by
  refine Met.ofW (cc := cX5_keep) (maxL := 4) (ret := (some .int)) (by decide) rfl ?_
  intro p e s m args below meth c s₁ B hml hv
  obtain ⟨hv, hsz, hP, hK, hD0, hN⟩ := hv
  have hx := B.exec; have hb := B.bytes; have hr := B.returns
  have hts := atoms_spec (ws := (wsM yX5_keep cX5_keep 4 (some .int))) B.pre
  have hown : s.vm.findClass RX5 = some m.cls := findClass_of_methodNamed B.named
  have hlocks := B.notSynchronized
  subst hsz
  have hD := hD0.self (sz := s.heap.size)
  obtain ⟨A, hAe⟩ : ∃ A, A = va_A (w5 qX qT qI qJ qP qC qF qA zX ++ (w4 cI qT zT ++ (w4 cI qI zI ++ (w4 cI qJ zJ ++ (w2 cI qP zP ++ (w1 qC qV zC ++ (w4 cI qV zV ++ (w3 cI qF zF ++ (w0 cJ qA zA))))))))) s.heap.size := ⟨_, rfl⟩
  rw [← hAe] at hD
  have hA : ∀ q : Nat, s.heap.size ≤ q → A q := fun q h => by rw [hAe]; exact Or.inr h
  have htl : ∀ w ∈ wsL_law, w.before args s = true := fun w h => hts w (List.mem_cons_of_mem _ h)
  refine xHead (R' := { frames := 4, cells := 0, slots := 0, locals := 95 }) rfl (fun Q H hQ hH => ?_)
  have hP : va_P D vwCl (w5 qX qT qI qJ qP qC qF qA zX ++ (w4 cI qT zT ++ (w4 cI qI zI ++ (w4 cI qJ zJ ++ (w2 cI qP zP ++ (w1 qC qV zC ++ (w4 cI qV zV ++ (w3 cI qF zF ++ (w0 cJ qA zA))))))))) H := by rw [hH]; exact hP
  have hS : va_S A s.heap H [] := by rw [hH]; exact va_S.rf
  refine xStart hv (Nat.le_of_ble_eq_true rfl) (lv := [(0, .ref (qX 0)), (1, .int a1), (2, .int a2)]) rfl (fun ls hl => ?_)
  have h := hm
  unfold m_X5_keep at h
  refine lv_aload_n hx hb (dAt zX5_keep_0 0 rfl) rfl (lv_at hl 0 rfl) ?_
  refine va_get (D := D) (ci := 5) (v := .ref (qT 0)) (C := RX5) (T := TX5) (N := 8) hx hb htl inlX5 hown hK hP 0 rfl rfl 0 (by decide) (htl _ W_15) (fun _ h9 => h9) rfl (dAt zX5_keep_0 1 rfl) ?_
  refine lv_iload_n hx hb (dAt zX5_keep_0 2 rfl) rfl (lv_at hl 1 rfl) ?_
  obtain ⟨u5, hu5, h⟩ := q_bind h
  have hPc : va_P D vwCl (w4 cI qT zT) H := hP.sub [1, 2, 3, 4, 5] rfl
  have hDc : va_D A (w4 cI qT zT) := hD.sub [1, 2, 3, 4, 5] (by decide) rfl
  refine xFz (wc := (w4 cI qT zT)) (w1 := (w4 cI qT zT)) (wr := (w5 qX qT qI qJ qP qC qF qA zX ++ (w4 cI qI zI ++ (w4 cI qJ zJ ++ (w2 cI qP zP ++ (w1 qC qV zC ++ (w4 cI qV zV ++ (w3 cI qF zF ++ (w0 cJ qA zA))))))))) (ws2 := (w5 qX qT qI qJ qP qC qF qA zX ++ (w4 cI qT zT ++ (w4 cI qI zI ++ (w4 cI qJ zJ ++ (w2 cI qP zP ++ (w1 qC qV zC ++ (w4 cI qV zV ++ (w3 cI qF zF ++ (w0 cJ qA zA)))))))))) (va_runV (As := [.int a1]) (rest := []) ⟨hx, hb, hml, hown, htl⟩ (c_X4_isHere l D cI cJ cZ n qT H.size zT a1 u5 hu5) (cwV 1 htl (gV W_560 W_306 W_307 W_14 W_308) rfl rfl rfl (by decide +kernel) ⟨Nat.le_of_ble_eq_true rfl, Nat.le_of_ble_eq_true rfl⟩) (xPV hPc hDc hK hN 0 rfl rfl) rfl rfl hl.1 rfl (lv_room (Nat.le_of_ble_eq_true rfl)) (dAt zX5_keep_0 3 rfl) ⟨Nat.zero_le _, Nat.zero_le _⟩) hS hA hP hD [1, 2, 3, 4, 5] [0, 6, 7, 8, 9, 10, 11, 12, 13, 14, 15, 16, 17, 18, 19, 20, 21, 22, 23, 24, 25, 26, 27, 28, 29] [0, 25, 26, 27, 28, 29, 1, 2, 3, 4, 5, 6, 7, 8, 9, 10, 11, 12, 13, 14, 15, 16, 17, 18, 19, 20, 21, 22, 23, 24] rfl rfl (by decide) (by decide) rfl (by decide) (fun H locs hz5 hP hD hS => ?_)
  refine lv_if_ne (tgt := 13) hx hb (dAt zX5_keep_0 4 rfl) (by decide) (fun c_8 => ?_) (fun c_8 => ?_)
  · have h := q_neg c_8 h
    refine lv_iload_n hx hb (dAt zX5_keep_0 7 rfl) rfl (lv_at hl 2 rfl) ?_
    obtain ⟨u14, hu14, h⟩ := q_bind h
    refine xFz (wc := ([] : va_W)) (w1 := ([] : va_W)) (wr := (w5 qX qT qI qJ qP qC qF qA zX ++ (w4 cI qT zT ++ (w4 cI qI zI ++ (w4 cI qJ zJ ++ (w2 cI qP zP ++ (w1 qC qV zC ++ (w4 cI qV zV ++ (w3 cI qF zF ++ (w0 cJ qA zA)))))))))) (ws2 := (w5 qX qT qI qJ qP qC qF qA zX ++ (w4 cI qT zT ++ (w4 cI qI zI ++ (w4 cI qJ zJ ++ (w2 cI qP zP ++ (w1 qC qV zC ++ (w4 cI qV zV ++ (w3 cI qF zF ++ (w0 cJ qA zA)))))))))) (va_runS (As := [.int a2]) (rest := []) ⟨hx, hb, hml, hown, htl⟩ (c_X5_isFlag l D cI cJ cZ n  H.size  a2 u14 hu14) (va_cwS 1 htl (gS W_142 W_143 W_2 W_144) rfl rfl rfl (by decide +kernel) ⟨Nat.le_of_ble_eq_true rfl, Nat.le_of_ble_eq_true rfl⟩) (xPS xP0 (xD0 A) hK hN) rfl rfl hl.1 rfl (lv_room (Nat.le_of_ble_eq_true rfl)) (dAt zX5_keep_0 8 rfl) ⟨Nat.zero_le _, Nat.zero_le _⟩) hS hA hP hD [] [0, 1, 2, 3, 4, 5, 6, 7, 8, 9, 10, 11, 12, 13, 14, 15, 16, 17, 18, 19, 20, 21, 22, 23, 24, 25, 26, 27, 28, 29] [0, 1, 2, 3, 4, 5, 6, 7, 8, 9, 10, 11, 12, 13, 14, 15, 16, 17, 18, 19, 20, 21, 22, 23, 24, 25, 26, 27, 28, 29] rfl rfl (by decide) (by decide) rfl (by decide) (fun H locs hz14 hP hD hS => ?_)
    refine lv_if_ne (tgt := 23) hx hb (dAt zX5_keep_0 9 rfl) (by decide) (fun c_17 => ?_) (fun c_17 => ?_)
    · have h := q_neg c_17 h
      refine lv_aload_n hx hb (dAt zX5_keep_0 12 rfl) rfl (lv_at hl 0 rfl) ?_
      refine va_get (D := D) (ci := 5) (v := .ref (qF 0)) (C := RX5) (T := TX5) (N := 8) hx hb htl inlX5 hown hK hP 0 rfl rfl 6 (by decide) (htl _ W_30) (fun _ h9 => h9) rfl (dAt zX5_keep_0 13 rfl) ?_
      refine lv_aload_n hx hb (dAt zX5_keep_0 14 rfl) rfl (lv_at hl 0 rfl) ?_
      refine va_get (D := D) (ci := 5) (v := .ref (qT 0)) (C := RX5) (T := TX5) (N := 8) hx hb htl inlX5 hown hK hP 0 rfl rfl 0 (by decide) (htl _ W_15) (fun _ h9 => h9) rfl (dAt zX5_keep_0 15 rfl) ?_
      obtain ⟨u31, hu31, h⟩ := q_bind h
      have hPc : va_P D vwCl (w3 cI qF zF ++ (w4 cI qT zT)) H := hP.sub [24, 25, 26, 27, 1, 2, 3, 4, 5] rfl
      have hDc : va_D A (w3 cI qF zF ++ (w4 cI qT zT)) := hD.sub [24, 25, 26, 27, 1, 2, 3, 4, 5] (by decide) rfl
      refine xFv (wc := (w3 cI qF zF ++ (w4 cI qT zT))) (w1 := (w3 cI qF u31 ++ (w4 cI qT zT))) (wr := (w5 qX qT qI qJ qP qC qF qA zX ++ (w4 cI qI zI ++ (w4 cI qJ zJ ++ (w2 cI qP zP ++ (w1 qC qV zC ++ (w4 cI qV zV ++ (w0 cJ qA zA)))))))) (ws2 := (w5 qX qT qI qJ qP qC qF qA zX ++ (w4 cI qT zT ++ (w4 cI qI zI ++ (w4 cI qJ zJ ++ (w2 cI qP zP ++ (w1 qC qV zC ++ (w4 cI qV zV ++ (w3 cI qF u31 ++ (w0 cJ qA zA)))))))))) (va_runV (As := [.ref (qT 0)]) (rest := []) ⟨hx, hb, hml, hown, htl⟩ (c_X3_lookAt l D cI cJ cZ n qF qT H.size zF zT  u31 hu31) (cwV 1 htl (gV W_523 W_524 W_525 W_29 W_526) rfl rfl rfl (by decide +kernel) ⟨Nat.le_of_ble_eq_true rfl, Nat.le_of_ble_eq_true rfl⟩) (xPV hPc hDc hK hN 0 rfl rfl) rfl rfl hl.1 rfl (lv_room (Nat.le_of_ble_eq_true rfl)) (dAt zX5_keep_0 16 rfl) ⟨Nat.zero_le _, Nat.zero_le _⟩) hS hA hP hD [24, 25, 26, 27, 1, 2, 3, 4, 5] [0, 6, 7, 8, 9, 10, 11, 12, 13, 14, 15, 16, 17, 18, 19, 20, 21, 22, 23, 28, 29] [0, 25, 26, 27, 28, 29, 1, 2, 3, 4, 5, 6, 7, 8, 9, 10, 11, 12, 13, 14, 15, 16, 17, 18, 21, 22, 23, 24, 19, 20] rfl rfl (by decide) (by decide) rfl (by decide) (fun H locs hP hD hS => ?_)
      refine lv_aload_n hx hb (dAt zX5_keep_0 17 rfl) rfl (lv_at hl 0 rfl) ?_
      refine va_get (D := D) (ci := 5) (v := .ref (qF 0)) (C := RX5) (T := TX5) (N := 8) hx hb htl inlX5 hown hK hP 0 rfl rfl 6 (by decide) (htl _ W_30) (fun _ h9 => h9) rfl (dAt zX5_keep_0 18 rfl) ?_
      refine lv_iload_n hx hb (dAt zX5_keep_0 19 rfl) rfl (lv_at hl 1 rfl) ?_
      obtain ⟨u39, hu39, h⟩ := q_bind h
      have hPc : va_P D vwCl (w3 cI qF u31) H := hP.sub [24, 25, 26, 27] rfl
      have hDc : va_D A (w3 cI qF u31) := hD.sub [24, 25, 26, 27] (by decide) rfl
      refine xFi (wc := (w3 cI qF u31)) (w1 := (w3 cI qF u31)) (wr := (w5 qX qT qI qJ qP qC qF qA zX ++ (w4 cI qT zT ++ (w4 cI qI zI ++ (w4 cI qJ zJ ++ (w2 cI qP zP ++ (w1 qC qV zC ++ (w4 cI qV zV ++ (w0 cJ qA zA))))))))) (ws2 := (w5 qX qT qI qJ qP qC qF qA zX ++ (w4 cI qT zT ++ (w4 cI qI zI ++ (w4 cI qJ zJ ++ (w2 cI qP zP ++ (w1 qC qV zC ++ (w4 cI qV zV ++ (w3 cI qF u31 ++ (w0 cJ qA zA)))))))))) (va_runV (As := [.int a1]) (rest := []) ⟨hx, hb, hml, hown, htl⟩ (c_X3_fewestToKeep l D cI cJ cZ n qF H.size u31 a1 u39 hu39) (cwV 1 htl (gV W_561 W_562 W_563 W_29 W_564) rfl rfl rfl (by decide +kernel) ⟨Nat.le_of_ble_eq_true rfl, Nat.le_of_ble_eq_true rfl⟩) (xPV hPc hDc hK hN 0 rfl rfl) rfl rfl hl.1 rfl (lv_room (Nat.le_of_ble_eq_true rfl)) (dAt zX5_keep_0 20 rfl) ⟨Nat.zero_le _, Nat.zero_le _⟩) hS hA hP hD [24, 25, 26, 27] [0, 1, 2, 3, 4, 5, 6, 7, 8, 9, 10, 11, 12, 13, 14, 15, 16, 17, 18, 19, 20, 21, 22, 23, 28, 29] [0, 1, 2, 3, 4, 5, 6, 7, 8, 9, 10, 11, 12, 13, 14, 15, 16, 17, 18, 19, 20, 21, 22, 23, 26, 27, 28, 29, 24, 25] rfl rfl (by decide) (by decide) rfl (by decide) (fun H locs hP hD hS => ?_)
      refine lv_istore_n (lv' := [(3, .int u39), (0, .ref (qX 0)), (1, .int a1), (2, .int a2)]) hx hb (dAt zX5_keep_0 21 rfl) rfl hl (by decide) rfl (fun ls hl => ?_)
      refine lv_iload_n hx hb (dAt zX5_keep_0 22 rfl) rfl (lv_at hl 3 rfl) ?_
      refine lv_iconst (v := 1) hx hb (dAt zX5_keep_0 23 rfl) (by decide) ?_
      refine lv_icmp_eq (tgt := 54) hx hb (dAt zX5_keep_0 24 rfl) (by decide) (fun c_45 => ?_) (fun c_45 => ?_)
      · have h := q_pos c_45 h
        refine lv_iload_n hx hb (dAt zX5_keep_0 28 rfl) rfl (lv_at hl 0 rfl) ?_
        refine lv_goto (tgt := 62) hx hb (dAt zX5_keep_0 29 rfl) (by decide) ?_
        obtain rfl := q_some h
        exact xRi hx hb hr hlocks hQ hAe hP hD hK hS rfl (dAt zX5_keep_0 32 rfl)
      · have h := q_neg c_45 h
        refine lv_iload_n hx hb (dAt zX5_keep_0 25 rfl) rfl (lv_at hl 0 rfl) ?_
        refine lv_bipush (v := (-6)) hx hb (dAt zX5_keep_0 26 rfl) (by decide) ?_
        refine lv_icmp_ne (tgt := 58) hx hb (dAt zX5_keep_0 27 rfl) (by decide) (fun c_51 => ?_) (fun c_51 => ?_)
        · have h := q_neg c_51 h
          refine lv_iload_n hx hb (dAt zX5_keep_0 30 rfl) rfl (lv_at hl 0 rfl) ?_
          obtain ⟨u59, hu59, h⟩ := q_bind h
          refine xFi (wc := ([] : va_W)) (w1 := ([] : va_W)) (wr := (w5 qX qT qI qJ qP qC qF qA zX ++ (w4 cI qT zT ++ (w4 cI qI zI ++ (w4 cI qJ zJ ++ (w2 cI qP zP ++ (w1 qC qV zC ++ (w4 cI qV zV ++ (w3 cI qF u31 ++ (w0 cJ qA zA)))))))))) (ws2 := (w5 qX qT qI qJ qP qC qF qA zX ++ (w4 cI qT zT ++ (w4 cI qI zI ++ (w4 cI qJ zJ ++ (w2 cI qP zP ++ (w1 qC qV zC ++ (w4 cI qV zV ++ (w3 cI qF u31 ++ (w0 cJ qA zA)))))))))) (va_runS (As := [.int u39]) (rest := []) ⟨hx, hb, hml, hown, htl⟩ (c_J6_bitCount_0f7a4 l D cI cJ cZ n  H.size  u39 u59 hu59) (va_cwS 1 htl (gS W_149 W_150 W_151 W_152) rfl rfl rfl (by decide +kernel) ⟨Nat.le_of_ble_eq_true rfl, Nat.le_of_ble_eq_true rfl⟩) (xPS xP0 (xD0 A) hK hN) rfl rfl hl.1 rfl (lv_room (Nat.le_of_ble_eq_true rfl)) (dAt zX5_keep_0 31 rfl) ⟨Nat.zero_le _, Nat.zero_le _⟩) hS hA hP hD [] [0, 1, 2, 3, 4, 5, 6, 7, 8, 9, 10, 11, 12, 13, 14, 15, 16, 17, 18, 19, 20, 21, 22, 23, 24, 25, 26, 27, 28, 29] [0, 1, 2, 3, 4, 5, 6, 7, 8, 9, 10, 11, 12, 13, 14, 15, 16, 17, 18, 19, 20, 21, 22, 23, 24, 25, 26, 27, 28, 29] rfl rfl (by decide) (by decide) rfl (by decide) (fun H locs hP hD hS => ?_)
          obtain rfl := q_some h
          exact xRi hx hb hr hlocks hQ hAe hP hD hK hS rfl (dAt zX5_keep_0 32 rfl)
        · have h := q_pos c_51 h
          refine lv_iload_n hx hb (dAt zX5_keep_0 28 rfl) rfl (lv_at hl 0 rfl) ?_
          refine lv_goto (tgt := 62) hx hb (dAt zX5_keep_0 29 rfl) (by decide) ?_
          obtain rfl := q_some h
          exact xRi hx hb hr hlocks hQ hAe hP hD hK hS rfl (dAt zX5_keep_0 32 rfl)
    · have h := q_pos c_17 h
      refine lv_bipush (v := (-2)) hx hb (dAt zX5_keep_0 10 rfl) (by decide) ?_
      obtain rfl := q_some h
      exact xRi hx hb hr hlocks hQ hAe hP hD hK hS rfl (dAt zX5_keep_0 11 rfl)
  · have h := q_pos c_8 h
    refine lv_iconst (v := (-1)) hx hb (dAt zX5_keep_0 5 rfl) (by decide) ?_
    obtain rfl := q_some h
    exact xRi hx hb hr hlocks hQ hAe hP hD hK hS rfl (dAt zX5_keep_0 6 rfl)
def b_X5_leastOf_7 (n : Nat) (a1 : Int32) (s_7 : Int32 × Int32 × Int32) (k_7 : Int32 × Int32 × Int32 → Option Int32) : Option Int32 := (if 10 ≤ s_7.2.2 then some s_7.1 else (if s_7.2.1 ≤ 0 then some s_7.1 else ((m_X5_holds n  a1 s_7.2.2).bind fun u21 => (if u21 = 0 then (k_7 (s_7.1, s_7.2.1, (s_7.2.2 + 1))) else (k_7 ((s_7.1 ||| ((1 : Int32) <<< (s_7.2.2 &&& 31))), (s_7.2.1 + (-1)), (s_7.2.2 + 1)))))))
def m_X5_leastOf (n : Nat) (a1 : Int32) (a2 : Int32) : Option Int32 := (loopF (b_X5_leastOf_7 n a1 ) n (0, a2, 0))
set_option maxHeartbeats 4000000 in
set_option maxRecDepth 100000 in
theorem c_X5_leastOf (l : Launch) (D : va_G) (cI cJ cZ : ClassId) (n : Nat)  (sz : Nat) (a1 : Int32) (a2 : Int32) (out : Int32) (hm : m_X5_leastOf n a1 a2 = some out) : Met l yX5_leastOf (wsM yX5_leastOf cX5_leastOf 5 (some .int)) { frames := 1, cells := 0, slots := 0, locals := 21 } (xPre D (kT cI cJ cZ) ([] : va_W) sz [.int a1, .int a2]) (xQi D (kT cI cJ cZ) ([] : va_W) ([] : va_W) sz out) 0 0 (va_A ([] : va_W) sz) := by
  refine Met.ofW (cc := cX5_leastOf) (maxL := 5) (ret := (some .int)) (by decide) rfl ?_
  intro p e s m args below meth c s₁ B hml hv
  obtain ⟨hv, hsz, hP, hK, hD0, hN⟩ := hv
  have hx := B.exec; have hb := B.bytes; have hr := B.returns
  have hts := atoms_spec (ws := (wsM yX5_leastOf cX5_leastOf 5 (some .int))) B.pre
  have hown : s.vm.findClass RX5 = some m.cls := findClass_of_methodNamed B.named
  have hlocks := B.notSynchronized
  subst hsz
  have hD := hD0.self (sz := s.heap.size)
  obtain ⟨A, hAe⟩ : ∃ A, A = va_A ([] : va_W) s.heap.size := ⟨_, rfl⟩
  rw [← hAe] at hD
  have hA : ∀ q : Nat, s.heap.size ≤ q → A q := fun q h => by rw [hAe]; exact Or.inr h
  have htl : ∀ w ∈ wsL_law, w.before args s = true := fun w h => hts w (List.mem_cons_of_mem _ h)
  refine xHead (R' := { frames := 1, cells := 0, slots := 0, locals := 21 }) rfl (fun Q H hQ hH => ?_)
  have hP : va_P D vwCl ([] : va_W) H := by rw [hH]; exact hP
  have hS : va_S A s.heap H [] := by rw [hH]; exact va_S.rf
  refine xStart hv (Nat.le_of_ble_eq_true rfl) (lv := [(0, .int a1), (1, .int a2)]) rfl (fun ls hl => ?_)
  have h := hm
  unfold m_X5_leastOf at h
  refine lv_iconst (v := 0) hx hb (dAt zX5_leastOf_0 0 rfl) (by decide) ?_
  refine lv_istore_n (lv' := [(2, .int 0), (0, .int a1), (1, .int a2)]) hx hb (dAt zX5_leastOf_0 1 rfl) rfl hl (by decide) rfl (fun ls hl => ?_)
  refine lv_iload_n hx hb (dAt zX5_leastOf_0 2 rfl) rfl (lv_at hl 2 rfl) ?_
  refine lv_istore_n (lv' := [(3, .int a2), (2, .int 0), (0, .int a1), (1, .int a2)]) hx hb (dAt zX5_leastOf_0 3 rfl) rfl hl (by decide) rfl (fun ls hl => ?_)
  refine lv_iconst (v := 0) hx hb (dAt zX5_leastOf_0 4 rfl) (by decide) ?_
  refine lv_istore (lv' := [(4, .int 0), (3, .int a2), (2, .int 0), (0, .int a1), (1, .int a2)]) hx hb (dAt zX5_leastOf_0 5 rfl) hl (by decide) rfl (fun ls hl => ?_)
  have L_7 : ∀ (j_7 : Nat) (v2_7 : Int32) (v3_7 : Int32) (v4_7 : Int32) (H : Heap) (locs : List Loc) (ls : Array Slot), loopF (b_X5_leastOf_7 n a1) j_7 (v2_7, v3_7, v4_7) = some out → va_P D vwCl ([] : va_W) H → va_D A ([] : va_W) → va_S A s.heap H locs → lv_has ls 5 [(0, .int a1), (2, .int v2_7), (3, .int v3_7), (4, .int v4_7)] → W p l e { frames := 1, cells := 0, slots := 0, locals := 21 } s m args below meth c H locs 0 0 Q (F0 m 7 ls []) := by
    intro j_7
    induction j_7 with
    | zero => intro v2_7 v3_7 v4_7 H locs ls h hP hD hS hl; exact loopF_0 h
    | succ j_7 ih_7 =>
      intro v2_7 v3_7 v4_7 H locs ls h hP hD hS hl
      have h := loopF_s h
      unfold b_X5_leastOf_7 at h
      refine lv_iload hx hb (dAt zX5_leastOf_0 6 rfl) (lv_at hl 3 rfl) ?_
      refine lv_bipush (v := 10) hx hb (dAt zX5_leastOf_0 7 rfl) (by decide) ?_
      refine lv_icmp_ge (tgt := 43) hx hb (dAt zX5_leastOf_0 8 rfl) (by decide) (fun c_11 => ?_) (fun c_11 => ?_)
      · have h := q_pos c_11 h
        refine lv_iload_n hx hb (dAt zX5_leastOf_0 24 rfl) rfl (lv_at hl 1 rfl) ?_
        obtain rfl := q_some h
        exact xRi hx hb hr hlocks hQ hAe hP hD hK hS rfl (dAt zX5_leastOf_0 25 rfl)
      · have h := q_neg c_11 h
        refine lv_iload_n hx hb (dAt zX5_leastOf_0 9 rfl) rfl (lv_at hl 2 rfl) ?_
        refine lv_if_le (tgt := 43) hx hb (dAt zX5_leastOf_0 10 rfl) (by decide) (fun c_15 => ?_) (fun c_15 => ?_)
        · have h := q_pos c_15 h
          refine lv_iload_n hx hb (dAt zX5_leastOf_0 24 rfl) rfl (lv_at hl 1 rfl) ?_
          obtain rfl := q_some h
          exact xRi hx hb hr hlocks hQ hAe hP hD hK hS rfl (dAt zX5_leastOf_0 25 rfl)
        · have h := q_neg c_15 h
          refine lv_iload_n hx hb (dAt zX5_leastOf_0 11 rfl) rfl (lv_at hl 0 rfl) ?_
          refine lv_iload hx hb (dAt zX5_leastOf_0 12 rfl) (lv_at hl 3 rfl) ?_
          obtain ⟨u21, hu21, h⟩ := q_bind h
          refine xFz (wc := ([] : va_W)) (w1 := ([] : va_W)) (wr := ([] : va_W)) (ws2 := ([] : va_W)) (va_runS (As := [.int a1, .int v4_7]) (rest := []) ⟨hx, hb, hml, hown, htl⟩ (c_X5_holds l D cI cJ cZ n  H.size  a1 v4_7 u21 hu21) (va_cwS 2 htl (gS W_351 W_338 W_2 W_339) rfl rfl rfl (by decide +kernel) ⟨Nat.le_of_ble_eq_true rfl, Nat.le_of_ble_eq_true rfl⟩) (xPS hP hD hK hN) rfl rfl hl.1 rfl (lv_room (Nat.le_of_ble_eq_true rfl)) (dAt zX5_leastOf_0 13 rfl) ⟨Nat.zero_le _, Nat.zero_le _⟩) hS hA hP hD [] [] [] rfl rfl (by decide) (by decide) rfl (by decide) (fun H locs hz21 hP hD hS => ?_)
          refine lv_if_eq (tgt := 37) hx hb (dAt zX5_leastOf_0 14 rfl) (by decide) (fun c_24 => ?_) (fun c_24 => ?_)
          · have h := q_pos c_24 h
            refine lv_iinc (v := (v4_7 + 1)) (lv' := [(4, .int (v4_7 + 1)), (0, .int a1), (2, .int v2_7), (3, .int v3_7)]) hx hb (dAt zX5_leastOf_0 22 rfl) hl (k := 3) rfl rfl (by decide) rfl (fun ls hl => ?_)
            refine lv_goto (tgt := 7) hx hb (dAt zX5_leastOf_0 23 rfl) (by decide) ?_
            exact ih_7 v2_7 v3_7 (v4_7 + 1) _ _ _ h hP hD hS (lv_sub hl [1, 2, 3, 0] rfl)
          · have h := q_neg c_24 h
            refine lv_iload_n hx hb (dAt zX5_leastOf_0 15 rfl) rfl (lv_at hl 1 rfl) ?_
            refine lv_iconst (v := 1) hx hb (dAt zX5_leastOf_0 16 rfl) (by decide) ?_
            refine lv_iload hx hb (dAt zX5_leastOf_0 17 rfl) (lv_at hl 3 rfl) ?_
            refine lv_ishl hx hb (dAt zX5_leastOf_0 18 rfl) ?_
            refine lv_ior hx hb (dAt zX5_leastOf_0 19 rfl) ?_
            refine lv_istore_n (lv' := [(2, .int (v2_7 ||| ((1 : Int32) <<< (v4_7 &&& 31)))), (0, .int a1), (3, .int v3_7), (4, .int v4_7)]) hx hb (dAt zX5_leastOf_0 20 rfl) rfl hl (by decide) rfl (fun ls hl => ?_)
            refine lv_iinc (v := (v3_7 + (-1))) (lv' := [(3, .int (v3_7 + (-1))), (2, .int (v2_7 ||| ((1 : Int32) <<< (v4_7 &&& 31)))), (0, .int a1), (4, .int v4_7)]) hx hb (dAt zX5_leastOf_0 21 rfl) hl (k := 2) rfl rfl (by decide) rfl (fun ls hl => ?_)
            refine lv_iinc (v := (v4_7 + 1)) (lv' := [(4, .int (v4_7 + 1)), (3, .int (v3_7 + (-1))), (2, .int (v2_7 ||| ((1 : Int32) <<< (v4_7 &&& 31)))), (0, .int a1)]) hx hb (dAt zX5_leastOf_0 22 rfl) hl (k := 3) rfl rfl (by decide) rfl (fun ls hl => ?_)
            refine lv_goto (tgt := 7) hx hb (dAt zX5_leastOf_0 23 rfl) (by decide) ?_
            exact ih_7 (v2_7 ||| ((1 : Int32) <<< (v4_7 &&& 31))) (v3_7 + (-1)) (v4_7 + 1) _ _ _ h hP hD hS (lv_sub hl [3, 2, 1, 0] rfl)
  exact L_7 n 0 a2 0 _ _ _ h hP hD hS (lv_sub hl [3, 2, 1, 0] rfl)
def m_X5_loose (n : Nat) (zX : TI) (zT : TI) (zI : TI) (zJ : TI) (zP : TI) (zC : TI) (zV : TI) (zF : TI) (zA : TL) (a1 : Int32) (a2 : Int32) : Option Int32 := ((m_X4_isHere n zT a1).bind fun u5 => (if u5 = 0 then some (-1) else ((m_X5_isFlag n  a2).bind fun u14 => (if u14 = 0 then some (-2) else ((m_X4_missingIt n zT a1).bind fun u28 => ((m_J6_bitCount_0f7a4 n  (u28 &&& (zT 0 0))).bind fun u42 => ((m_X4_tiesNeeded n zT a1).bind fun u50 => ((m_J6_bitCount_0f7a4 n  (u28 &&& (zT 0 0))).bind fun u64 => (if (if 0 < ((u42 - u50) + (1 : Int32)) then ((u42 - u50) + (1 : Int32)) else 0) ≤ u64 then (if a2 = 0 then some (if 0 < ((u42 - u50) + (1 : Int32)) then ((u42 - u50) + (1 : Int32)) else 0) else ((m_X5_leastOf n  (u28 &&& (zT 0 0)) (if 0 < ((u42 - u50) + (1 : Int32)) then ((u42 - u50) + (1 : Int32)) else 0)).bind fun u85 => some u85)) else some (-6))))))))))
set_option maxHeartbeats 4000000 in
set_option maxRecDepth 100000 in
theorem c_X5_loose (l : Launch) (D : va_G) (cI cJ cZ : ClassId) (n : Nat) (qX : Nat → Nat) (qT : Nat → Nat) (qI : Nat → Nat) (qJ : Nat → Nat) (qP : Nat → Nat) (qC : Nat → Nat) (qV : Nat → Nat) (qF : Nat → Nat) (qA : Nat → Nat) (sz : Nat) (zX : TI) (zT : TI) (zI : TI) (zJ : TI) (zP : TI) (zC : TI) (zV : TI) (zF : TI) (zA : TL) (a1 : Int32) (a2 : Int32) (out : Int32) (hm : m_X5_loose n zX zT zI zJ zP zC zV zF zA a1 a2 = some out) : Met l yX5_loose (wsM yX5_loose cX5_loose 5 (some .int)) { frames := 2, cells := 0, slots := 0, locals := 47 } (xPre D (kT cI cJ cZ) (w5 qX qT qI qJ qP qC qF qA zX ++ (w4 cI qT zT ++ (w4 cI qI zI ++ (w4 cI qJ zJ ++ (w2 cI qP zP ++ (w1 qC qV zC ++ (w4 cI qV zV ++ (w3 cI qF zF ++ (w0 cJ qA zA))))))))) sz [.ref (qX 0), .int a1, .int a2]) (xQi D (kT cI cJ cZ) (w5 qX qT qI qJ qP qC qF qA zX ++ (w4 cI qT zT ++ (w4 cI qI zI ++ (w4 cI qJ zJ ++ (w2 cI qP zP ++ (w1 qC qV zC ++ (w4 cI qV zV ++ (w3 cI qF zF ++ (w0 cJ qA zA))))))))) (w5 qX qT qI qJ qP qC qF qA zX ++ (w4 cI qT zT ++ (w4 cI qI zI ++ (w4 cI qJ zJ ++ (w2 cI qP zP ++ (w1 qC qV zC ++ (w4 cI qV zV ++ (w3 cI qF zF ++ (w0 cJ qA zA))))))))) sz out) 0 0 (va_A (w5 qX qT qI qJ qP qC qF qA zX ++ (w4 cI qT zT ++ (w4 cI qI zI ++ (w4 cI qJ zJ ++ (w2 cI qP zP ++ (w1 qC qV zC ++ (w4 cI qV zV ++ (w3 cI qF zF ++ (w0 cJ qA zA))))))))) sz) := by
  refine Met.ofW (cc := cX5_loose) (maxL := 5) (ret := (some .int)) (by decide) rfl ?_
  intro p e s m args below meth c s₁ B hml hv
  obtain ⟨hv, hsz, hP, hK, hD0, hN⟩ := hv
  have hx := B.exec; have hb := B.bytes; have hr := B.returns
  have hts := atoms_spec (ws := (wsM yX5_loose cX5_loose 5 (some .int))) B.pre
  have hown : s.vm.findClass RX5 = some m.cls := findClass_of_methodNamed B.named
  have hlocks := B.notSynchronized
  subst hsz
  have hD := hD0.self (sz := s.heap.size)
  obtain ⟨A, hAe⟩ : ∃ A, A = va_A (w5 qX qT qI qJ qP qC qF qA zX ++ (w4 cI qT zT ++ (w4 cI qI zI ++ (w4 cI qJ zJ ++ (w2 cI qP zP ++ (w1 qC qV zC ++ (w4 cI qV zV ++ (w3 cI qF zF ++ (w0 cJ qA zA))))))))) s.heap.size := ⟨_, rfl⟩
  rw [← hAe] at hD
  have hA : ∀ q : Nat, s.heap.size ≤ q → A q := fun q h => by rw [hAe]; exact Or.inr h
  have htl : ∀ w ∈ wsL_law, w.before args s = true := fun w h => hts w (List.mem_cons_of_mem _ h)
  refine xHead (R' := { frames := 2, cells := 0, slots := 0, locals := 47 }) rfl (fun Q H hQ hH => ?_)
  have hP : va_P D vwCl (w5 qX qT qI qJ qP qC qF qA zX ++ (w4 cI qT zT ++ (w4 cI qI zI ++ (w4 cI qJ zJ ++ (w2 cI qP zP ++ (w1 qC qV zC ++ (w4 cI qV zV ++ (w3 cI qF zF ++ (w0 cJ qA zA))))))))) H := by rw [hH]; exact hP
  have hS : va_S A s.heap H [] := by rw [hH]; exact va_S.rf
  refine xStart hv (Nat.le_of_ble_eq_true rfl) (lv := [(0, .ref (qX 0)), (1, .int a1), (2, .int a2)]) rfl (fun ls hl => ?_)
  have h := hm
  unfold m_X5_loose at h
  refine lv_aload_n hx hb (dAt zX5_loose_0 0 rfl) rfl (lv_at hl 0 rfl) ?_
  refine va_get (D := D) (ci := 5) (v := .ref (qT 0)) (C := RX5) (T := TX5) (N := 8) hx hb htl inlX5 hown hK hP 0 rfl rfl 0 (by decide) (htl _ W_15) (fun _ h9 => h9) rfl (dAt zX5_loose_0 1 rfl) ?_
  refine lv_iload_n hx hb (dAt zX5_loose_0 2 rfl) rfl (lv_at hl 1 rfl) ?_
  obtain ⟨u5, hu5, h⟩ := q_bind h
  have hPc : va_P D vwCl (w4 cI qT zT) H := hP.sub [1, 2, 3, 4, 5] rfl
  have hDc : va_D A (w4 cI qT zT) := hD.sub [1, 2, 3, 4, 5] (by decide) rfl
  refine xFz (wc := (w4 cI qT zT)) (w1 := (w4 cI qT zT)) (wr := (w5 qX qT qI qJ qP qC qF qA zX ++ (w4 cI qI zI ++ (w4 cI qJ zJ ++ (w2 cI qP zP ++ (w1 qC qV zC ++ (w4 cI qV zV ++ (w3 cI qF zF ++ (w0 cJ qA zA))))))))) (ws2 := (w5 qX qT qI qJ qP qC qF qA zX ++ (w4 cI qT zT ++ (w4 cI qI zI ++ (w4 cI qJ zJ ++ (w2 cI qP zP ++ (w1 qC qV zC ++ (w4 cI qV zV ++ (w3 cI qF zF ++ (w0 cJ qA zA)))))))))) (va_runV (As := [.int a1]) (rest := []) ⟨hx, hb, hml, hown, htl⟩ (c_X4_isHere l D cI cJ cZ n qT H.size zT a1 u5 hu5) (cwV 1 htl (gV W_560 W_306 W_307 W_14 W_308) rfl rfl rfl (by decide +kernel) ⟨Nat.le_of_ble_eq_true rfl, Nat.le_of_ble_eq_true rfl⟩) (xPV hPc hDc hK hN 0 rfl rfl) rfl rfl hl.1 rfl (lv_room (Nat.le_of_ble_eq_true rfl)) (dAt zX5_loose_0 3 rfl) ⟨Nat.zero_le _, Nat.zero_le _⟩) hS hA hP hD [1, 2, 3, 4, 5] [0, 6, 7, 8, 9, 10, 11, 12, 13, 14, 15, 16, 17, 18, 19, 20, 21, 22, 23, 24, 25, 26, 27, 28, 29] [0, 25, 26, 27, 28, 29, 1, 2, 3, 4, 5, 6, 7, 8, 9, 10, 11, 12, 13, 14, 15, 16, 17, 18, 19, 20, 21, 22, 23, 24] rfl rfl (by decide) (by decide) rfl (by decide) (fun H locs hz5 hP hD hS => ?_)
  refine lv_if_ne (tgt := 13) hx hb (dAt zX5_loose_0 4 rfl) (by decide) (fun c_8 => ?_) (fun c_8 => ?_)
  · have h := q_neg c_8 h
    refine lv_iload_n hx hb (dAt zX5_loose_0 7 rfl) rfl (lv_at hl 2 rfl) ?_
    obtain ⟨u14, hu14, h⟩ := q_bind h
    refine xFz (wc := ([] : va_W)) (w1 := ([] : va_W)) (wr := (w5 qX qT qI qJ qP qC qF qA zX ++ (w4 cI qT zT ++ (w4 cI qI zI ++ (w4 cI qJ zJ ++ (w2 cI qP zP ++ (w1 qC qV zC ++ (w4 cI qV zV ++ (w3 cI qF zF ++ (w0 cJ qA zA)))))))))) (ws2 := (w5 qX qT qI qJ qP qC qF qA zX ++ (w4 cI qT zT ++ (w4 cI qI zI ++ (w4 cI qJ zJ ++ (w2 cI qP zP ++ (w1 qC qV zC ++ (w4 cI qV zV ++ (w3 cI qF zF ++ (w0 cJ qA zA)))))))))) (va_runS (As := [.int a2]) (rest := []) ⟨hx, hb, hml, hown, htl⟩ (c_X5_isFlag l D cI cJ cZ n  H.size  a2 u14 hu14) (va_cwS 1 htl (gS W_142 W_143 W_2 W_144) rfl rfl rfl (by decide +kernel) ⟨Nat.le_of_ble_eq_true rfl, Nat.le_of_ble_eq_true rfl⟩) (xPS xP0 (xD0 A) hK hN) rfl rfl hl.1 rfl (lv_room (Nat.le_of_ble_eq_true rfl)) (dAt zX5_loose_0 8 rfl) ⟨Nat.zero_le _, Nat.zero_le _⟩) hS hA hP hD [] [0, 1, 2, 3, 4, 5, 6, 7, 8, 9, 10, 11, 12, 13, 14, 15, 16, 17, 18, 19, 20, 21, 22, 23, 24, 25, 26, 27, 28, 29] [0, 1, 2, 3, 4, 5, 6, 7, 8, 9, 10, 11, 12, 13, 14, 15, 16, 17, 18, 19, 20, 21, 22, 23, 24, 25, 26, 27, 28, 29] rfl rfl (by decide) (by decide) rfl (by decide) (fun H locs hz14 hP hD hS => ?_)
    refine lv_if_ne (tgt := 23) hx hb (dAt zX5_loose_0 9 rfl) (by decide) (fun c_17 => ?_) (fun c_17 => ?_)
    · have h := q_neg c_17 h
      refine lv_aload_n hx hb (dAt zX5_loose_0 12 rfl) rfl (lv_at hl 0 rfl) ?_
      refine va_get (D := D) (ci := 5) (v := .ref (qT 0)) (C := RX5) (T := TX5) (N := 8) hx hb htl inlX5 hown hK hP 0 rfl rfl 0 (by decide) (htl _ W_15) (fun _ h9 => h9) rfl (dAt zX5_loose_0 13 rfl) ?_
      refine lv_iload_n hx hb (dAt zX5_loose_0 14 rfl) rfl (lv_at hl 1 rfl) ?_
      obtain ⟨u28, hu28, h⟩ := q_bind h
      have hPc : va_P D vwCl (w4 cI qT zT) H := hP.sub [1, 2, 3, 4, 5] rfl
      have hDc : va_D A (w4 cI qT zT) := hD.sub [1, 2, 3, 4, 5] (by decide) rfl
      refine xFi (wc := (w4 cI qT zT)) (w1 := (w4 cI qT zT)) (wr := (w5 qX qT qI qJ qP qC qF qA zX ++ (w4 cI qI zI ++ (w4 cI qJ zJ ++ (w2 cI qP zP ++ (w1 qC qV zC ++ (w4 cI qV zV ++ (w3 cI qF zF ++ (w0 cJ qA zA))))))))) (ws2 := (w5 qX qT qI qJ qP qC qF qA zX ++ (w4 cI qT zT ++ (w4 cI qI zI ++ (w4 cI qJ zJ ++ (w2 cI qP zP ++ (w1 qC qV zC ++ (w4 cI qV zV ++ (w3 cI qF zF ++ (w0 cJ qA zA)))))))))) (va_runV (As := [.int a1]) (rest := []) ⟨hx, hb, hml, hown, htl⟩ (c_X4_missingIt l D cI cJ cZ n qT H.size zT a1 u28 hu28) (cwV 1 htl (gV W_579 W_329 W_330 W_14 W_331) rfl rfl rfl (by decide +kernel) ⟨Nat.le_of_ble_eq_true rfl, Nat.le_of_ble_eq_true rfl⟩) (xPV hPc hDc hK hN 0 rfl rfl) rfl rfl hl.1 rfl (lv_room (Nat.le_of_ble_eq_true rfl)) (dAt zX5_loose_0 15 rfl) ⟨Nat.zero_le _, Nat.zero_le _⟩) hS hA hP hD [1, 2, 3, 4, 5] [0, 6, 7, 8, 9, 10, 11, 12, 13, 14, 15, 16, 17, 18, 19, 20, 21, 22, 23, 24, 25, 26, 27, 28, 29] [0, 25, 26, 27, 28, 29, 1, 2, 3, 4, 5, 6, 7, 8, 9, 10, 11, 12, 13, 14, 15, 16, 17, 18, 19, 20, 21, 22, 23, 24] rfl rfl (by decide) (by decide) rfl (by decide) (fun H locs hP hD hS => ?_)
      refine lv_aload_n hx hb (dAt zX5_loose_0 16 rfl) rfl (lv_at hl 0 rfl) ?_
      refine va_get (D := D) (ci := 5) (v := .ref (qT 0)) (C := RX5) (T := TX5) (N := 8) hx hb htl inlX5 hown hK hP 0 rfl rfl 0 (by decide) (htl _ W_15) (fun _ h9 => h9) rfl (dAt zX5_loose_0 17 rfl) ?_
      refine va_get (D := D) (ci := 4) (v := .int (zT 0 0)) (C := RX4) (T := TX4) (N := 9) hx hb htl inlX4 hown hK hP 1 rfl rfl 0 (by decide) (htl _ W_141) (fun _ h9 => h9) rfl (dAt zX5_loose_0 18 rfl) ?_
      refine lv_iand hx hb (dAt zX5_loose_0 19 rfl) ?_
      refine lv_istore_n (lv' := [(3, .int (u28 &&& (zT 0 0))), (0, .ref (qX 0)), (1, .int a1), (2, .int a2)]) hx hb (dAt zX5_loose_0 20 rfl) rfl hl (by decide) rfl (fun ls hl => ?_)
      refine lv_iconst (v := 0) hx hb (dAt zX5_loose_0 21 rfl) (by decide) ?_
      refine lv_iload_n hx hb (dAt zX5_loose_0 22 rfl) rfl (lv_at hl 0 rfl) ?_
      obtain ⟨u42, hu42, h⟩ := q_bind h
      refine xFi (wc := ([] : va_W)) (w1 := ([] : va_W)) (wr := (w5 qX qT qI qJ qP qC qF qA zX ++ (w4 cI qT zT ++ (w4 cI qI zI ++ (w4 cI qJ zJ ++ (w2 cI qP zP ++ (w1 qC qV zC ++ (w4 cI qV zV ++ (w3 cI qF zF ++ (w0 cJ qA zA)))))))))) (ws2 := (w5 qX qT qI qJ qP qC qF qA zX ++ (w4 cI qT zT ++ (w4 cI qI zI ++ (w4 cI qJ zJ ++ (w2 cI qP zP ++ (w1 qC qV zC ++ (w4 cI qV zV ++ (w3 cI qF zF ++ (w0 cJ qA zA)))))))))) (va_runS (As := [.int (u28 &&& (zT 0 0))]) (rest := [.int 0]) ⟨hx, hb, hml, hown, htl⟩ (c_J6_bitCount_0f7a4 l D cI cJ cZ n  H.size  (u28 &&& (zT 0 0)) u42 hu42) (va_cwS 1 htl (gS W_149 W_150 W_151 W_152) rfl rfl rfl (by decide +kernel) ⟨Nat.le_of_ble_eq_true rfl, Nat.le_of_ble_eq_true rfl⟩) (xPS xP0 (xD0 A) hK hN) rfl rfl hl.1 rfl (lv_room (Nat.le_of_ble_eq_true rfl)) (dAt zX5_loose_0 23 rfl) ⟨Nat.zero_le _, Nat.zero_le _⟩) hS hA hP hD [] [0, 1, 2, 3, 4, 5, 6, 7, 8, 9, 10, 11, 12, 13, 14, 15, 16, 17, 18, 19, 20, 21, 22, 23, 24, 25, 26, 27, 28, 29] [0, 1, 2, 3, 4, 5, 6, 7, 8, 9, 10, 11, 12, 13, 14, 15, 16, 17, 18, 19, 20, 21, 22, 23, 24, 25, 26, 27, 28, 29] rfl rfl (by decide) (by decide) rfl (by decide) (fun H locs hP hD hS => ?_)
      refine lv_aload_n hx hb (dAt zX5_loose_0 24 rfl) rfl (lv_at hl 1 rfl) ?_
      refine va_get (D := D) (ci := 5) (v := .ref (qT 0)) (C := RX5) (T := TX5) (N := 8) hx hb htl inlX5 hown hK hP 0 rfl rfl 0 (by decide) (htl _ W_15) (fun _ h9 => h9) rfl (dAt zX5_loose_0 25 rfl) ?_
      refine lv_iload_n hx hb (dAt zX5_loose_0 26 rfl) rfl (lv_at hl 2 rfl) ?_
      obtain ⟨u50, hu50, h⟩ := q_bind h
      have hPc : va_P D vwCl (w4 cI qT zT) H := hP.sub [1, 2, 3, 4, 5] rfl
      have hDc : va_D A (w4 cI qT zT) := hD.sub [1, 2, 3, 4, 5] (by decide) rfl
      refine xFi (wc := (w4 cI qT zT)) (w1 := (w4 cI qT zT)) (wr := (w5 qX qT qI qJ qP qC qF qA zX ++ (w4 cI qI zI ++ (w4 cI qJ zJ ++ (w2 cI qP zP ++ (w1 qC qV zC ++ (w4 cI qV zV ++ (w3 cI qF zF ++ (w0 cJ qA zA))))))))) (ws2 := (w5 qX qT qI qJ qP qC qF qA zX ++ (w4 cI qT zT ++ (w4 cI qI zI ++ (w4 cI qJ zJ ++ (w2 cI qP zP ++ (w1 qC qV zC ++ (w4 cI qV zV ++ (w3 cI qF zF ++ (w0 cJ qA zA)))))))))) (va_runV (As := [.int a1]) (rest := [.int u42, .int 0]) ⟨hx, hb, hml, hown, htl⟩ (c_X4_tiesNeeded l D cI cJ cZ n qT H.size zT a1 u50 hu50) (cwV 1 htl (gV W_580 W_335 W_336 W_14 W_337) rfl rfl rfl (by decide +kernel) ⟨Nat.le_of_ble_eq_true rfl, Nat.le_of_ble_eq_true rfl⟩) (xPV hPc hDc hK hN 0 rfl rfl) rfl rfl hl.1 rfl (lv_room (Nat.le_of_ble_eq_true rfl)) (dAt zX5_loose_0 27 rfl) ⟨Nat.zero_le _, Nat.zero_le _⟩) hS hA hP hD [1, 2, 3, 4, 5] [0, 6, 7, 8, 9, 10, 11, 12, 13, 14, 15, 16, 17, 18, 19, 20, 21, 22, 23, 24, 25, 26, 27, 28, 29] [0, 25, 26, 27, 28, 29, 1, 2, 3, 4, 5, 6, 7, 8, 9, 10, 11, 12, 13, 14, 15, 16, 17, 18, 19, 20, 21, 22, 23, 24] rfl rfl (by decide) (by decide) rfl (by decide) (fun H locs hP hD hS => ?_)
      refine lv_isub hx hb (dAt zX5_loose_0 28 rfl) ?_
      refine lv_iconst (v := 1) hx hb (dAt zX5_loose_0 29 rfl) (by decide) ?_
      refine lv_iadd hx hb (dAt zX5_loose_0 30 rfl) ?_
      refine va_mmax (rest := []) hx hb (hml.trans hl.1.symm) hown (htl _ W_578) (htl _ W_361) (htl _ W_358) (htl _ W_362) (Nat.le_of_ble_eq_true rfl) (Nat.le_of_ble_eq_true rfl) (Nat.zero_le _) (Nat.zero_le _) (dAt zX5_loose_0 31 rfl) ?_
      refine lv_istore (lv' := [(4, .int (if 0 < ((u42 - u50) + (1 : Int32)) then ((u42 - u50) + (1 : Int32)) else 0)), (3, .int (u28 &&& (zT 0 0))), (0, .ref (qX 0)), (1, .int a1), (2, .int a2)]) hx hb (dAt zX5_loose_0 32 rfl) hl (by decide) rfl (fun ls hl => ?_)
      refine lv_iload hx hb (dAt zX5_loose_0 33 rfl) (lv_at hl 0 rfl) ?_
      refine lv_iload_n hx hb (dAt zX5_loose_0 34 rfl) rfl (lv_at hl 1 rfl) ?_
      obtain ⟨u64, hu64, h⟩ := q_bind h
      refine xFi (wc := ([] : va_W)) (w1 := ([] : va_W)) (wr := (w5 qX qT qI qJ qP qC qF qA zX ++ (w4 cI qT zT ++ (w4 cI qI zI ++ (w4 cI qJ zJ ++ (w2 cI qP zP ++ (w1 qC qV zC ++ (w4 cI qV zV ++ (w3 cI qF zF ++ (w0 cJ qA zA)))))))))) (ws2 := (w5 qX qT qI qJ qP qC qF qA zX ++ (w4 cI qT zT ++ (w4 cI qI zI ++ (w4 cI qJ zJ ++ (w2 cI qP zP ++ (w1 qC qV zC ++ (w4 cI qV zV ++ (w3 cI qF zF ++ (w0 cJ qA zA)))))))))) (va_runS (As := [.int (u28 &&& (zT 0 0))]) (rest := [.int (if 0 < ((u42 - u50) + (1 : Int32)) then ((u42 - u50) + (1 : Int32)) else 0)]) ⟨hx, hb, hml, hown, htl⟩ (c_J6_bitCount_0f7a4 l D cI cJ cZ n  H.size  (u28 &&& (zT 0 0)) u64 hu64) (va_cwS 1 htl (gS W_149 W_150 W_151 W_152) rfl rfl rfl (by decide +kernel) ⟨Nat.le_of_ble_eq_true rfl, Nat.le_of_ble_eq_true rfl⟩) (xPS xP0 (xD0 A) hK hN) rfl rfl hl.1 rfl (lv_room (Nat.le_of_ble_eq_true rfl)) (dAt zX5_loose_0 35 rfl) ⟨Nat.zero_le _, Nat.zero_le _⟩) hS hA hP hD [] [0, 1, 2, 3, 4, 5, 6, 7, 8, 9, 10, 11, 12, 13, 14, 15, 16, 17, 18, 19, 20, 21, 22, 23, 24, 25, 26, 27, 28, 29] [0, 1, 2, 3, 4, 5, 6, 7, 8, 9, 10, 11, 12, 13, 14, 15, 16, 17, 18, 19, 20, 21, 22, 23, 24, 25, 26, 27, 28, 29] rfl rfl (by decide) (by decide) rfl (by decide) (fun H locs hP hD hS => ?_)
      refine lv_icmp_le (tgt := 73) hx hb (dAt zX5_loose_0 36 rfl) (by decide) (fun c_67 => ?_) (fun c_67 => ?_)
      · have h := q_pos c_67 h
        refine lv_iload_n hx hb (dAt zX5_loose_0 39 rfl) rfl (lv_at hl 4 rfl) ?_
        refine lv_if_ne (tgt := 82) hx hb (dAt zX5_loose_0 40 rfl) (by decide) (fun c_74 => ?_) (fun c_74 => ?_)
        · have h := q_neg c_74 h
          refine lv_iload_n hx hb (dAt zX5_loose_0 43 rfl) rfl (lv_at hl 1 rfl) ?_
          refine lv_iload hx hb (dAt zX5_loose_0 44 rfl) (lv_at hl 0 rfl) ?_
          obtain ⟨u85, hu85, h⟩ := q_bind h
          refine xFi (wc := ([] : va_W)) (w1 := ([] : va_W)) (wr := (w5 qX qT qI qJ qP qC qF qA zX ++ (w4 cI qT zT ++ (w4 cI qI zI ++ (w4 cI qJ zJ ++ (w2 cI qP zP ++ (w1 qC qV zC ++ (w4 cI qV zV ++ (w3 cI qF zF ++ (w0 cJ qA zA)))))))))) (ws2 := (w5 qX qT qI qJ qP qC qF qA zX ++ (w4 cI qT zT ++ (w4 cI qI zI ++ (w4 cI qJ zJ ++ (w2 cI qP zP ++ (w1 qC qV zC ++ (w4 cI qV zV ++ (w3 cI qF zF ++ (w0 cJ qA zA)))))))))) (va_runS (As := [.int (u28 &&& (zT 0 0)), .int (if 0 < ((u42 - u50) + (1 : Int32)) then ((u42 - u50) + (1 : Int32)) else 0)]) (rest := []) ⟨hx, hb, hml, hown, htl⟩ (c_X5_leastOf l D cI cJ cZ n  H.size  (u28 &&& (zT 0 0)) (if 0 < ((u42 - u50) + (1 : Int32)) then ((u42 - u50) + (1 : Int32)) else 0) u85 hu85) (va_cwS 2 htl (gS W_581 W_582 W_2 W_583) rfl rfl rfl (by decide +kernel) ⟨Nat.le_of_ble_eq_true rfl, Nat.le_of_ble_eq_true rfl⟩) (xPS xP0 (xD0 A) hK hN) rfl rfl hl.1 rfl (lv_room (Nat.le_of_ble_eq_true rfl)) (dAt zX5_loose_0 45 rfl) ⟨Nat.zero_le _, Nat.zero_le _⟩) hS hA hP hD [] [0, 1, 2, 3, 4, 5, 6, 7, 8, 9, 10, 11, 12, 13, 14, 15, 16, 17, 18, 19, 20, 21, 22, 23, 24, 25, 26, 27, 28, 29] [0, 1, 2, 3, 4, 5, 6, 7, 8, 9, 10, 11, 12, 13, 14, 15, 16, 17, 18, 19, 20, 21, 22, 23, 24, 25, 26, 27, 28, 29] rfl rfl (by decide) (by decide) rfl (by decide) (fun H locs hP hD hS => ?_)
          obtain rfl := q_some h
          exact xRi hx hb hr hlocks hQ hAe hP hD hK hS rfl (dAt zX5_loose_0 46 rfl)
        · have h := q_pos c_74 h
          refine lv_iload hx hb (dAt zX5_loose_0 41 rfl) (lv_at hl 0 rfl) ?_
          refine lv_goto (tgt := 88) hx hb (dAt zX5_loose_0 42 rfl) (by decide) ?_
          obtain rfl := q_some h
          exact xRi hx hb hr hlocks hQ hAe hP hD hK hS rfl (dAt zX5_loose_0 46 rfl)
      · have h := q_neg c_67 h
        refine lv_bipush (v := (-6)) hx hb (dAt zX5_loose_0 37 rfl) (by decide) ?_
        obtain rfl := q_some h
        exact xRi hx hb hr hlocks hQ hAe hP hD hK hS rfl (dAt zX5_loose_0 38 rfl)
    · have h := q_pos c_17 h
      refine lv_bipush (v := (-2)) hx hb (dAt zX5_loose_0 10 rfl) (by decide) ?_
      obtain rfl := q_some h
      exact xRi hx hb hr hlocks hQ hAe hP hD hK hS rfl (dAt zX5_loose_0 11 rfl)
  · have h := q_pos c_8 h
    refine lv_iconst (v := (-1)) hx hb (dAt zX5_loose_0 5 rfl) (by decide) ?_
    obtain rfl := q_some h
    exact xRi hx hb hr hlocks hQ hAe hP hD hK hS rfl (dAt zX5_loose_0 6 rfl)
def b_X3_areStrangers_2 (n : Nat) (zF : TI) (a1 : Int32) (s_2 : Int32) (k_2 : Int32 → Option Int32) : Option Int32 := (if 10 ≤ s_2 then some 1 else ((m_X5_holds n  a1 s_2).bind fun u10 => (if u10 = 0 then (k_2 (s_2 + 1)) else (gd (inB s_2 10) ((if (((zF 3) (Int32.toNatClampNeg s_2)) &&& a1) = 0 then (k_2 (s_2 + 1)) else some 0))))))
def m_X3_areStrangers (n : Nat) (zF : TI) (a1 : Int32) : Option Int32 := (loopF (b_X3_areStrangers_2 n zF a1 ) n 0)
set_option maxHeartbeats 4000000 in
set_option maxRecDepth 100000 in
theorem c_X3_areStrangers (l : Launch) (D : va_G) (cI cJ cZ : ClassId) (n : Nat) (qF : Nat → Nat) (sz : Nat) (zF : TI) (a1 : Int32) (out : Int32) (hm : m_X3_areStrangers n zF a1 = some out) : Met l yX3_areStrangers (wsM yX3_areStrangers cX3_areStrangers 3 (some .boolean)) { frames := 1, cells := 0, slots := 0, locals := 21 } (xPre D (kT cI cJ cZ) (w3 cI qF zF) sz [.ref (qF 0), .int a1]) (xQz D (kT cI cJ cZ) (w3 cI qF zF) (w3 cI qF zF) sz out) 0 0 (va_A (w3 cI qF zF) sz) := by
  refine Met.ofW (cc := cX3_areStrangers) (maxL := 3) (ret := (some .boolean)) (by decide) rfl ?_
  intro p e s m args below meth c s₁ B hml hv
  obtain ⟨hv, hsz, hP, hK, hD0, hN⟩ := hv
  have hx := B.exec; have hb := B.bytes; have hr := B.returns
  have hts := atoms_spec (ws := (wsM yX3_areStrangers cX3_areStrangers 3 (some .boolean))) B.pre
  have hown : s.vm.findClass RX3 = some m.cls := findClass_of_methodNamed B.named
  have hlocks := B.notSynchronized
  subst hsz
  have hD := hD0.self (sz := s.heap.size)
  obtain ⟨A, hAe⟩ : ∃ A, A = va_A (w3 cI qF zF) s.heap.size := ⟨_, rfl⟩
  rw [← hAe] at hD
  have hA : ∀ q : Nat, s.heap.size ≤ q → A q := fun q h => by rw [hAe]; exact Or.inr h
  have htl : ∀ w ∈ wsL_law, w.before args s = true := fun w h => hts w (List.mem_cons_of_mem _ h)
  refine xHead (R' := { frames := 1, cells := 0, slots := 0, locals := 21 }) rfl (fun Q H hQ hH => ?_)
  have hP : va_P D vwCl (w3 cI qF zF) H := by rw [hH]; exact hP
  have hS : va_S A s.heap H [] := by rw [hH]; exact va_S.rf
  refine xStart hv (Nat.le_of_ble_eq_true rfl) (lv := [(0, .ref (qF 0)), (1, .int a1)]) rfl (fun ls hl => ?_)
  have h := hm
  unfold m_X3_areStrangers at h
  refine lv_iconst (v := 0) hx hb (dAt zX3_areStrangers_0 0 rfl) (by decide) ?_
  refine lv_istore_n (lv' := [(2, .int 0), (0, .ref (qF 0)), (1, .int a1)]) hx hb (dAt zX3_areStrangers_0 1 rfl) rfl hl (by decide) rfl (fun ls hl => ?_)
  have L_2 : ∀ (j_2 : Nat) (v2_2 : Int32) (H : Heap) (locs : List Loc) (ls : Array Slot), loopF (b_X3_areStrangers_2 n zF a1) j_2 v2_2 = some out → va_P D vwCl (w3 cI qF zF) H → va_D A (w3 cI qF zF) → va_S A s.heap H locs → lv_has ls 3 [(0, .ref (qF 0)), (1, .int a1), (2, .int v2_2)] → W p l e { frames := 1, cells := 0, slots := 0, locals := 21 } s m args below meth c H locs 0 0 Q (F0 m 2 ls []) := by
    intro j_2
    induction j_2 with
    | zero => intro v2_2 H locs ls h hP hD hS hl; exact loopF_0 h
    | succ j_2 ih_2 =>
      intro v2_2 H locs ls h hP hD hS hl
      have h := loopF_s h
      unfold b_X3_areStrangers_2 at h
      refine lv_iload_n hx hb (dAt zX3_areStrangers_0 2 rfl) rfl (lv_at hl 2 rfl) ?_
      refine lv_bipush (v := 10) hx hb (dAt zX3_areStrangers_0 3 rfl) (by decide) ?_
      refine lv_icmp_ge (tgt := 35) hx hb (dAt zX3_areStrangers_0 4 rfl) (by decide) (fun c_5 => ?_) (fun c_5 => ?_)
      · have h := q_pos c_5 h
        refine lv_iconst (v := 1) hx hb (dAt zX3_areStrangers_0 20 rfl) (by decide) ?_
        obtain rfl := q_some h
        exact xRz hx hb hr hlocks hQ hAe hP hD hK hS rfl rfl (dAt zX3_areStrangers_0 21 rfl)
      · have h := q_neg c_5 h
        refine lv_iload_n hx hb (dAt zX3_areStrangers_0 5 rfl) rfl (lv_at hl 1 rfl) ?_
        refine lv_iload_n hx hb (dAt zX3_areStrangers_0 6 rfl) rfl (lv_at hl 2 rfl) ?_
        obtain ⟨u10, hu10, h⟩ := q_bind h
        refine xFz (wc := ([] : va_W)) (w1 := ([] : va_W)) (wr := (w3 cI qF zF)) (ws2 := (w3 cI qF zF)) (va_runSN (host := RX5) (As := [.int a1, .int v2_2]) (rest := []) ⟨hx, hb, hml, hown, htl⟩ (c_X5_holds l D cI cJ cZ n  H.size  a1 v2_2 u10 hu10) ⟨va_cnB 2 htl (gM W_339) rfl rfl rfl hN.2.2.1 (htl _ W_2) (by decide +kernel) ⟨Nat.le_of_ble_eq_true rfl, Nat.le_of_ble_eq_true rfl⟩, htl _ W_338, trivial⟩ (xPS xP0 (xD0 A) hK hN) rfl rfl hl.1 rfl (lv_room (Nat.le_of_ble_eq_true rfl)) (dAt zX3_areStrangers_0 7 rfl) ⟨Nat.zero_le _, Nat.zero_le _⟩) hS hA hP hD [] [0, 1, 2, 3] [0, 1, 2, 3] rfl rfl (by decide) (by decide) rfl (by decide) (fun H locs hz10 hP hD hS => ?_)
        refine lv_if_eq (tgt := 29) hx hb (dAt zX3_areStrangers_0 8 rfl) (by decide) (fun c_13 => ?_) (fun c_13 => ?_)
        · have h := q_pos c_13 h
          refine lv_iinc (v := (v2_2 + 1)) (lv' := [(2, .int (v2_2 + 1)), (0, .ref (qF 0)), (1, .int a1)]) hx hb (dAt zX3_areStrangers_0 18 rfl) hl (k := 2) rfl rfl (by decide) rfl (fun ls hl => ?_)
          refine lv_goto (tgt := 2) hx hb (dAt zX3_areStrangers_0 19 rfl) (by decide) ?_
          exact ih_2 (v2_2 + 1) _ _ _ h hP hD hS (lv_sub hl [1, 2, 0] rfl)
        · have h := q_neg c_13 h
          refine lv_aload_n hx hb (dAt zX3_areStrangers_0 9 rfl) rfl (lv_at hl 0 rfl) ?_
          refine va_get (D := D) (ci := 3) (v := .ref (qF 3)) (C := RX3) (T := TX3) (N := 4) hx hb htl inlX3 hown hK hP 0 rfl rfl 2 (by decide) (htl _ W_71) (fun _ h9 => h9) rfl (dAt zX3_areStrangers_0 10 rfl) ?_
          refine lv_iload_n hx hb (dAt zX3_areStrangers_0 11 rfl) rfl (lv_at hl 2 rfl) ?_
          obtain ⟨hi_21, h⟩ := q_in h
          refine va_iald hx hb hK hP 3 0 rfl rfl hi_21 (dAt zX3_areStrangers_0 12 rfl) ?_
          refine lv_iload_n hx hb (dAt zX3_areStrangers_0 13 rfl) rfl (lv_at hl 1 rfl) ?_
          refine lv_iand hx hb (dAt zX3_areStrangers_0 14 rfl) ?_
          refine lv_if_eq (tgt := 29) hx hb (dAt zX3_areStrangers_0 15 rfl) (by decide) (fun c_24 => ?_) (fun c_24 => ?_)
          · have h := q_pos c_24 h
            refine lv_iinc (v := (v2_2 + 1)) (lv' := [(2, .int (v2_2 + 1)), (0, .ref (qF 0)), (1, .int a1)]) hx hb (dAt zX3_areStrangers_0 18 rfl) hl (k := 2) rfl rfl (by decide) rfl (fun ls hl => ?_)
            refine lv_goto (tgt := 2) hx hb (dAt zX3_areStrangers_0 19 rfl) (by decide) ?_
            exact ih_2 (v2_2 + 1) _ _ _ h hP hD hS (lv_sub hl [1, 2, 0] rfl)
          · have h := q_neg c_24 h
            refine lv_iconst (v := 0) hx hb (dAt zX3_areStrangers_0 16 rfl) (by decide) ?_
            obtain rfl := q_some h
            exact xRz hx hb hr hlocks hQ hAe hP hD hK hS rfl rfl (dAt zX3_areStrangers_0 17 rfl)
  exact L_2 n 0 _ _ _ h hP hD hS (lv_sub hl [1, 2, 0] rfl)
def b_X3_mostStrangers_23 (n : Nat) (a2 : Int32) (u2 : TI) (u10 : Int32) (s_23 : Int32 × Int32) (k_23 : Int32 × Int32 → Option (Int32 × TI)) : Option (Int32 × TI) := (if 1023 < s_23.2 then some (s_23.1, u2) else ((m_J6_bitCount_0f7a4 n  s_23.2).bind fun u33 => ((m_J6_bitCount_0f7a4 n  s_23.1).bind fun u42 => (if u33 ≤ u42 then (k_23 (s_23.1, (s_23.2 + 1))) else (if a2 < u33 then (k_23 (s_23.1, (s_23.2 + 1))) else (if (s_23.2 &&& (((u2 0 3) &&& (u10 ^^^ (-1 : Int32))) ^^^ (-1 : Int32))) = 0 then ((m_X3_areStrangers n u2 s_23.2).bind fun u78 => (if u78 = 0 then (k_23 (s_23.1, (s_23.2 + 1))) else (k_23 (s_23.2, (s_23.2 + 1))))) else (k_23 (s_23.1, (s_23.2 + 1)))))))))
def m_X3_mostStrangers (n : Nat) (zF : TI) (zT : TI) (a2 : Int32) : Option (Int32 × TI) := ((m_X3_lookAt n zF zT).bind fun u2 => ((m_X4_missed n zT).bind fun u10 => (loopF (b_X3_mostStrangers_23 n a2 u2 u10 ) n (0, 0))))
set_option maxHeartbeats 4000000 in
set_option maxRecDepth 100000 in
theorem c_X3_mostStrangers (l : Launch) (D : va_G) (cI cJ cZ : ClassId) (n : Nat) (qF : Nat → Nat) (qT : Nat → Nat) (sz : Nat) (zF : TI) (zT : TI) (a2 : Int32) (out : Int32 × TI) (hm : m_X3_mostStrangers n zF zT a2 = some out) : Met l yX3_mostStrangers (wsM yX3_mostStrangers cX3_mostStrangers 8 (some .int)) { frames := 3, cells := 0, slots := 0, locals := 69 } (xPre D (kT cI cJ cZ) (w3 cI qF zF ++ (w4 cI qT zT)) sz [.ref (qF 0), .ref (qT 0), .int a2]) (xQi D (kT cI cJ cZ) (w3 cI qF zF ++ (w4 cI qT zT)) (w3 cI qF out.2 ++ (w4 cI qT zT)) sz out.1) 0 0 (va_A (w3 cI qF zF ++ (w4 cI qT zT)) sz) := by
  refine Met.ofW (cc := cX3_mostStrangers) (maxL := 8) (ret := (some .int)) (by decide) rfl ?_
  intro p e s m args below meth c s₁ B hml hv
  obtain ⟨hv, hsz, hP, hK, hD0, hN⟩ := hv
  have hx := B.exec; have hb := B.bytes; have hr := B.returns
  have hts := atoms_spec (ws := (wsM yX3_mostStrangers cX3_mostStrangers 8 (some .int))) B.pre
  have hown : s.vm.findClass RX3 = some m.cls := findClass_of_methodNamed B.named
  have hlocks := B.notSynchronized
  subst hsz
  have hD := hD0.self (sz := s.heap.size)
  obtain ⟨A, hAe⟩ : ∃ A, A = va_A (w3 cI qF zF ++ (w4 cI qT zT)) s.heap.size := ⟨_, rfl⟩
  rw [← hAe] at hD
  have hA : ∀ q : Nat, s.heap.size ≤ q → A q := fun q h => by rw [hAe]; exact Or.inr h
  have htl : ∀ w ∈ wsL_law, w.before args s = true := fun w h => hts w (List.mem_cons_of_mem _ h)
  refine xHead (R' := { frames := 3, cells := 0, slots := 0, locals := 69 }) rfl (fun Q H hQ hH => ?_)
  have hP : va_P D vwCl (w3 cI qF zF ++ (w4 cI qT zT)) H := by rw [hH]; exact hP
  have hS : va_S A s.heap H [] := by rw [hH]; exact va_S.rf
  refine xStart hv (Nat.le_of_ble_eq_true rfl) (lv := [(0, .ref (qF 0)), (1, .ref (qT 0)), (2, .int a2)]) rfl (fun ls hl => ?_)
  have h := hm
  unfold m_X3_mostStrangers at h
  refine lv_aload_n hx hb (dAt zX3_mostStrangers_0 0 rfl) rfl (lv_at hl 0 rfl) ?_
  refine lv_aload_n hx hb (dAt zX3_mostStrangers_0 1 rfl) rfl (lv_at hl 1 rfl) ?_
  obtain ⟨u2, hu2, h⟩ := q_bind h
  refine xFv (wc := (w3 cI qF zF ++ (w4 cI qT zT))) (w1 := (w3 cI qF u2 ++ (w4 cI qT zT))) (wr := ([] : va_W)) (ws2 := (w3 cI qF u2 ++ (w4 cI qT zT))) (va_runV (As := [.ref (qT 0)]) (rest := []) ⟨hx, hb, hml, hown, htl⟩ (c_X3_lookAt l D cI cJ cZ n qF qT H.size zF zT  u2 hu2) (cwV 1 htl (gV W_596 W_524 W_525 W_29 W_526) rfl rfl rfl (by decide +kernel) ⟨Nat.le_of_ble_eq_true rfl, Nat.le_of_ble_eq_true rfl⟩) (xPV hP hD hK hN 0 rfl rfl) rfl rfl hl.1 rfl (lv_room (Nat.le_of_ble_eq_true rfl)) (dAt zX3_mostStrangers_0 2 rfl) ⟨Nat.zero_le _, Nat.zero_le _⟩) hS hA hP hD [0, 1, 2, 3, 4, 5, 6, 7, 8] [] [0, 1, 2, 3, 4, 5, 6, 7, 8] rfl rfl (by decide) (by decide) rfl (by decide) (fun H locs hP hD hS => ?_)
  refine lv_aload_n hx hb (dAt zX3_mostStrangers_0 3 rfl) rfl (lv_at hl 0 rfl) ?_
  refine va_get (D := D) (ci := 3) (v := .int (u2 0 3)) (C := RX3) (T := TX3) (N := 4) hx hb htl inlX3 hown hK hP 0 rfl rfl 3 (by decide) (htl _ W_72) (fun _ h9 => h9) rfl (dAt zX3_mostStrangers_0 4 rfl) ?_
  refine lv_aload_n hx hb (dAt zX3_mostStrangers_0 5 rfl) rfl (lv_at hl 1 rfl) ?_
  obtain ⟨u10, hu10, h⟩ := q_bind h
  have hPc : va_P D vwCl (w4 cI qT zT) H := hP.sub [4, 5, 6, 7, 8] rfl
  have hDc : va_D A (w4 cI qT zT) := hD.sub [4, 5, 6, 7, 8] (by decide) rfl
  refine xFi (wc := (w4 cI qT zT)) (w1 := (w4 cI qT zT)) (wr := (w3 cI qF u2)) (ws2 := (w3 cI qF u2 ++ (w4 cI qT zT))) (va_runV (As := []) (rest := [.int (u2 0 3)]) ⟨hx, hb, hml, hown, htl⟩ (c_X4_missed l D cI cJ cZ n qT H.size zT  u10 hu10) (cwV 0 htl (gV W_597 W_325 W_326 W_14 W_327) rfl rfl rfl (by decide +kernel) ⟨Nat.le_of_ble_eq_true rfl, Nat.le_of_ble_eq_true rfl⟩) (xPV hPc hDc hK hN 0 rfl rfl) rfl rfl hl.1 rfl (lv_room (Nat.le_of_ble_eq_true rfl)) (dAt zX3_mostStrangers_0 6 rfl) ⟨Nat.zero_le _, Nat.zero_le _⟩) hS hA hP hD [4, 5, 6, 7, 8] [0, 1, 2, 3] [0, 1, 2, 3, 4, 5, 6, 7, 8] rfl rfl (by decide) (by decide) rfl (by decide) (fun H locs hP hD hS => ?_)
  refine lv_iconst (v := (-1)) hx hb (dAt zX3_mostStrangers_0 7 rfl) (by decide) ?_
  refine lv_ixor hx hb (dAt zX3_mostStrangers_0 8 rfl) ?_
  refine lv_iand hx hb (dAt zX3_mostStrangers_0 9 rfl) ?_
  refine lv_istore_n (lv' := [(3, .int ((u2 0 3) &&& (u10 ^^^ (-1 : Int32)))), (0, .ref (qF 0)), (1, .ref (qT 0)), (2, .int a2)]) hx hb (dAt zX3_mostStrangers_0 10 rfl) rfl hl (by decide) rfl (fun ls hl => ?_)
  refine lv_iconst (v := 0) hx hb (dAt zX3_mostStrangers_0 11 rfl) (by decide) ?_
  refine lv_istore (lv' := [(4, .int 0), (3, .int ((u2 0 3) &&& (u10 ^^^ (-1 : Int32)))), (0, .ref (qF 0)), (1, .ref (qT 0)), (2, .int a2)]) hx hb (dAt zX3_mostStrangers_0 12 rfl) hl (by decide) rfl (fun ls hl => ?_)
  refine lv_iconst (v := 0) hx hb (dAt zX3_mostStrangers_0 13 rfl) (by decide) ?_
  refine lv_istore (lv' := [(5, .int 0), (4, .int 0), (3, .int ((u2 0 3) &&& (u10 ^^^ (-1 : Int32)))), (0, .ref (qF 0)), (1, .ref (qT 0)), (2, .int a2)]) hx hb (dAt zX3_mostStrangers_0 14 rfl) hl (by decide) rfl (fun ls hl => ?_)
  have L_23 : ∀ (j_23 : Nat) (v4_23 : Int32) (v5_23 : Int32) (H : Heap) (locs : List Loc) (ls : Array Slot), loopF (b_X3_mostStrangers_23 n a2 u2 u10) j_23 (v4_23, v5_23) = some out → va_P D vwCl (w3 cI qF u2 ++ (w4 cI qT zT)) H → va_D A (w3 cI qF u2 ++ (w4 cI qT zT)) → va_S A s.heap H locs → lv_has ls 8 [(0, .ref (qF 0)), (2, .int a2), (3, .int ((u2 0 3) &&& (u10 ^^^ (-1 : Int32)))), (4, .int v4_23), (5, .int v5_23)] → W p l e { frames := 3, cells := 0, slots := 0, locals := 69 } s m args below meth c H locs 0 0 Q (F0 m 23 ls []) := by
    intro j_23
    induction j_23 with
    | zero => intro v4_23 v5_23 H locs ls h hP hD hS hl; exact loopF_0 h
    | succ j_23 ih_23 =>
      intro v4_23 v5_23 H locs ls h hP hD hS hl
      have h := loopF_s h
      unfold b_X3_mostStrangers_23 at h
      refine lv_iload hx hb (dAt zX3_mostStrangers_0 15 rfl) (lv_at hl 4 rfl) ?_
      refine lv_sipush (v := 1023) hx hb (dAt zX3_mostStrangers_0 16 rfl) (by decide) ?_
      refine lv_icmp_gt (tgt := 94) hx hb (dAt zX3_mostStrangers_0 17 rfl) (by decide) (fun c_28 => ?_) (fun c_28 => ?_)
      · have h := q_pos c_28 h
        refine lv_iload hx hb (dAt zX3_mostStrangers_0 48 rfl) (lv_at hl 3 rfl) ?_
        obtain rfl := q_some h
        exact xRi hx hb hr hlocks hQ hAe hP hD hK hS rfl (dAt zX3_mostStrangers_0 49 rfl)
      · have h := q_neg c_28 h
        refine lv_iload hx hb (dAt zX3_mostStrangers_0 18 rfl) (lv_at hl 4 rfl) ?_
        obtain ⟨u33, hu33, h⟩ := q_bind h
        refine xFi (wc := ([] : va_W)) (w1 := ([] : va_W)) (wr := (w3 cI qF u2 ++ (w4 cI qT zT))) (ws2 := (w3 cI qF u2 ++ (w4 cI qT zT))) (va_runS (As := [.int v5_23]) (rest := []) ⟨hx, hb, hml, hown, htl⟩ (c_J6_bitCount_0f7a4 l D cI cJ cZ n  H.size  v5_23 u33 hu33) (va_cwS 1 htl (gS W_542 W_150 W_151 W_152) rfl rfl rfl (by decide +kernel) ⟨Nat.le_of_ble_eq_true rfl, Nat.le_of_ble_eq_true rfl⟩) (xPS xP0 (xD0 A) hK hN) rfl rfl hl.1 rfl (lv_room (Nat.le_of_ble_eq_true rfl)) (dAt zX3_mostStrangers_0 19 rfl) ⟨Nat.zero_le _, Nat.zero_le _⟩) hS hA hP hD [] [0, 1, 2, 3, 4, 5, 6, 7, 8] [0, 1, 2, 3, 4, 5, 6, 7, 8] rfl rfl (by decide) (by decide) rfl (by decide) (fun H locs hP hD hS => ?_)
        refine lv_istore (lv' := [(6, .int u33), (0, .ref (qF 0)), (2, .int a2), (3, .int ((u2 0 3) &&& (u10 ^^^ (-1 : Int32)))), (4, .int v4_23), (5, .int v5_23)]) hx hb (dAt zX3_mostStrangers_0 20 rfl) hl (by decide) rfl (fun ls hl => ?_)
        refine lv_iload hx hb (dAt zX3_mostStrangers_0 21 rfl) (lv_at hl 0 rfl) ?_
        refine lv_iload hx hb (dAt zX3_mostStrangers_0 22 rfl) (lv_at hl 4 rfl) ?_
        obtain ⟨u42, hu42, h⟩ := q_bind h
        refine xFi (wc := ([] : va_W)) (w1 := ([] : va_W)) (wr := (w3 cI qF u2 ++ (w4 cI qT zT))) (ws2 := (w3 cI qF u2 ++ (w4 cI qT zT))) (va_runS (As := [.int v4_23]) (rest := [.int u33]) ⟨hx, hb, hml, hown, htl⟩ (c_J6_bitCount_0f7a4 l D cI cJ cZ n  H.size  v4_23 u42 hu42) (va_cwS 1 htl (gS W_542 W_150 W_151 W_152) rfl rfl rfl (by decide +kernel) ⟨Nat.le_of_ble_eq_true rfl, Nat.le_of_ble_eq_true rfl⟩) (xPS xP0 (xD0 A) hK hN) rfl rfl hl.1 rfl (lv_room (Nat.le_of_ble_eq_true rfl)) (dAt zX3_mostStrangers_0 23 rfl) ⟨Nat.zero_le _, Nat.zero_le _⟩) hS hA hP hD [] [0, 1, 2, 3, 4, 5, 6, 7, 8] [0, 1, 2, 3, 4, 5, 6, 7, 8] rfl rfl (by decide) (by decide) rfl (by decide) (fun H locs hP hD hS => ?_)
        refine lv_icmp_le (tgt := 58) hx hb (dAt zX3_mostStrangers_0 24 rfl) (by decide) (fun c_45 => ?_) (fun c_45 => ?_)
        · have h := q_pos c_45 h
          refine lv_iconst (v := 0) hx hb (dAt zX3_mostStrangers_0 30 rfl) (by decide) ?_
          refine lv_istore (lv' := [(7, .int 0), (6, .int u33), (0, .ref (qF 0)), (2, .int a2), (3, .int ((u2 0 3) &&& (u10 ^^^ (-1 : Int32)))), (4, .int v4_23), (5, .int v5_23)]) hx hb (dAt zX3_mostStrangers_0 31 rfl) hl (by decide) rfl (fun ls hl => ?_)
          refine lv_iload hx hb (dAt zX3_mostStrangers_0 32 rfl) (lv_at hl 0 rfl) ?_
          refine lv_if_eq (tgt := 88) hx hb (dAt zX3_mostStrangers_0 33 rfl) (by decide) (fun _ => ?_) (fun c => absurd (by decide) c)
          refine lv_iinc (v := (v5_23 + 1)) (lv' := [(5, .int (v5_23 + 1)), (7, .int 0), (6, .int u33), (0, .ref (qF 0)), (2, .int a2), (3, .int ((u2 0 3) &&& (u10 ^^^ (-1 : Int32)))), (4, .int v4_23)]) hx hb (dAt zX3_mostStrangers_0 46 rfl) hl (k := 6) rfl rfl (by decide) rfl (fun ls hl => ?_)
          refine lv_goto (tgt := 23) hx hb (dAt zX3_mostStrangers_0 47 rfl) (by decide) ?_
          exact ih_23 v4_23 (v5_23 + 1) _ _ _ h hP hD hS (lv_sub hl [3, 4, 5, 6, 0] rfl)
        · have h := q_neg c_45 h
          refine lv_iload hx hb (dAt zX3_mostStrangers_0 25 rfl) (lv_at hl 0 rfl) ?_
          refine lv_iload_n hx hb (dAt zX3_mostStrangers_0 26 rfl) rfl (lv_at hl 2 rfl) ?_
          refine lv_icmp_gt (tgt := 58) hx hb (dAt zX3_mostStrangers_0 27 rfl) (by decide) (fun c_51 => ?_) (fun c_51 => ?_)
          · have h := q_pos c_51 h
            refine lv_iconst (v := 0) hx hb (dAt zX3_mostStrangers_0 30 rfl) (by decide) ?_
            refine lv_istore (lv' := [(7, .int 0), (6, .int u33), (0, .ref (qF 0)), (2, .int a2), (3, .int ((u2 0 3) &&& (u10 ^^^ (-1 : Int32)))), (4, .int v4_23), (5, .int v5_23)]) hx hb (dAt zX3_mostStrangers_0 31 rfl) hl (by decide) rfl (fun ls hl => ?_)
            refine lv_iload hx hb (dAt zX3_mostStrangers_0 32 rfl) (lv_at hl 0 rfl) ?_
            refine lv_if_eq (tgt := 88) hx hb (dAt zX3_mostStrangers_0 33 rfl) (by decide) (fun _ => ?_) (fun c => absurd (by decide) c)
            refine lv_iinc (v := (v5_23 + 1)) (lv' := [(5, .int (v5_23 + 1)), (7, .int 0), (6, .int u33), (0, .ref (qF 0)), (2, .int a2), (3, .int ((u2 0 3) &&& (u10 ^^^ (-1 : Int32)))), (4, .int v4_23)]) hx hb (dAt zX3_mostStrangers_0 46 rfl) hl (k := 6) rfl rfl (by decide) rfl (fun ls hl => ?_)
            refine lv_goto (tgt := 23) hx hb (dAt zX3_mostStrangers_0 47 rfl) (by decide) ?_
            exact ih_23 v4_23 (v5_23 + 1) _ _ _ h hP hD hS (lv_sub hl [3, 4, 5, 6, 0] rfl)
          · have h := q_neg c_51 h
            refine lv_iconst (v := 1) hx hb (dAt zX3_mostStrangers_0 28 rfl) (by decide) ?_
            refine lv_goto (tgt := 59) hx hb (dAt zX3_mostStrangers_0 29 rfl) (by decide) ?_
            refine lv_istore (lv' := [(7, .int 1), (6, .int u33), (0, .ref (qF 0)), (2, .int a2), (3, .int ((u2 0 3) &&& (u10 ^^^ (-1 : Int32)))), (4, .int v4_23), (5, .int v5_23)]) hx hb (dAt zX3_mostStrangers_0 31 rfl) hl (by decide) rfl (fun ls hl => ?_)
            refine lv_iload hx hb (dAt zX3_mostStrangers_0 32 rfl) (lv_at hl 0 rfl) ?_
            refine lv_if_eq (tgt := 88) hx hb (dAt zX3_mostStrangers_0 33 rfl) (by decide) (fun c => absurd c (by decide)) (fun _ => ?_)
            refine lv_iload hx hb (dAt zX3_mostStrangers_0 34 rfl) (lv_at hl 6 rfl) ?_
            refine lv_iload_n hx hb (dAt zX3_mostStrangers_0 35 rfl) rfl (lv_at hl 4 rfl) ?_
            refine lv_iconst (v := (-1)) hx hb (dAt zX3_mostStrangers_0 36 rfl) (by decide) ?_
            refine lv_ixor hx hb (dAt zX3_mostStrangers_0 37 rfl) ?_
            refine lv_iand hx hb (dAt zX3_mostStrangers_0 38 rfl) ?_
            refine lv_if_ne (tgt := 88) hx hb (dAt zX3_mostStrangers_0 39 rfl) (by decide) (fun c_72 => ?_) (fun c_72 => ?_)
            · have h := q_neg c_72 h
              refine lv_iinc (v := (v5_23 + 1)) (lv' := [(5, .int (v5_23 + 1)), (7, .int 1), (6, .int u33), (0, .ref (qF 0)), (2, .int a2), (3, .int ((u2 0 3) &&& (u10 ^^^ (-1 : Int32)))), (4, .int v4_23)]) hx hb (dAt zX3_mostStrangers_0 46 rfl) hl (k := 6) rfl rfl (by decide) rfl (fun ls hl => ?_)
              refine lv_goto (tgt := 23) hx hb (dAt zX3_mostStrangers_0 47 rfl) (by decide) ?_
              exact ih_23 v4_23 (v5_23 + 1) _ _ _ h hP hD hS (lv_sub hl [3, 4, 5, 6, 0] rfl)
            · have h := q_pos c_72 h
              refine lv_aload_n hx hb (dAt zX3_mostStrangers_0 40 rfl) rfl (lv_at hl 2 rfl) ?_
              refine lv_iload hx hb (dAt zX3_mostStrangers_0 41 rfl) (lv_at hl 6 rfl) ?_
              obtain ⟨u78, hu78, h⟩ := q_bind h
              have hPc : va_P D vwCl (w3 cI qF u2) H := hP.sub [0, 1, 2, 3] rfl
              have hDc : va_D A (w3 cI qF u2) := hD.sub [0, 1, 2, 3] (by decide) rfl
              refine xFz (wc := (w3 cI qF u2)) (w1 := (w3 cI qF u2)) (wr := (w4 cI qT zT)) (ws2 := (w3 cI qF u2 ++ (w4 cI qT zT))) (va_runV (As := [.int v5_23]) (rest := []) ⟨hx, hb, hml, hown, htl⟩ (c_X3_areStrangers l D cI cJ cZ n qF H.size u2 v5_23 u78 hu78) (cwV 1 htl (gV W_598 W_599 W_600 W_29 W_601) rfl rfl rfl (by decide +kernel) ⟨Nat.le_of_ble_eq_true rfl, Nat.le_of_ble_eq_true rfl⟩) (xPV hPc hDc hK hN 0 rfl rfl) rfl rfl hl.1 rfl (lv_room (Nat.le_of_ble_eq_true rfl)) (dAt zX3_mostStrangers_0 42 rfl) ⟨Nat.zero_le _, Nat.zero_le _⟩) hS hA hP hD [0, 1, 2, 3] [4, 5, 6, 7, 8] [5, 6, 7, 8, 0, 1, 2, 3, 4] rfl rfl (by decide) (by decide) rfl (by decide) (fun H locs hz78 hP hD hS => ?_)
              refine lv_if_eq (tgt := 88) hx hb (dAt zX3_mostStrangers_0 43 rfl) (by decide) (fun c_81 => ?_) (fun c_81 => ?_)
              · have h := q_pos c_81 h
                refine lv_iinc (v := (v5_23 + 1)) (lv' := [(5, .int (v5_23 + 1)), (7, .int 1), (6, .int u33), (0, .ref (qF 0)), (2, .int a2), (3, .int ((u2 0 3) &&& (u10 ^^^ (-1 : Int32)))), (4, .int v4_23)]) hx hb (dAt zX3_mostStrangers_0 46 rfl) hl (k := 6) rfl rfl (by decide) rfl (fun ls hl => ?_)
                refine lv_goto (tgt := 23) hx hb (dAt zX3_mostStrangers_0 47 rfl) (by decide) ?_
                exact ih_23 v4_23 (v5_23 + 1) _ _ _ h hP hD hS (lv_sub hl [3, 4, 5, 6, 0] rfl)
              · have h := q_neg c_81 h
                refine lv_iload hx hb (dAt zX3_mostStrangers_0 44 rfl) (lv_at hl 6 rfl) ?_
                refine lv_istore (lv' := [(4, .int v5_23), (7, .int 1), (6, .int u33), (0, .ref (qF 0)), (2, .int a2), (3, .int ((u2 0 3) &&& (u10 ^^^ (-1 : Int32)))), (5, .int v5_23)]) hx hb (dAt zX3_mostStrangers_0 45 rfl) hl (by decide) rfl (fun ls hl => ?_)
                refine lv_iinc (v := (v5_23 + 1)) (lv' := [(5, .int (v5_23 + 1)), (4, .int v5_23), (7, .int 1), (6, .int u33), (0, .ref (qF 0)), (2, .int a2), (3, .int ((u2 0 3) &&& (u10 ^^^ (-1 : Int32))))]) hx hb (dAt zX3_mostStrangers_0 46 rfl) hl (k := 6) rfl rfl (by decide) rfl (fun ls hl => ?_)
                refine lv_goto (tgt := 23) hx hb (dAt zX3_mostStrangers_0 47 rfl) (by decide) ?_
                exact ih_23 v5_23 (v5_23 + 1) _ _ _ h hP hD hS (lv_sub hl [4, 5, 6, 1, 0] rfl)
  exact L_23 n 0 0 _ _ _ h hP hD hS (lv_sub hl [3, 5, 2, 1, 0] rfl)
def m_X5_seats (n : Nat) (zX : TI) (zT : TI) (zI : TI) (zJ : TI) (zP : TI) (zC : TI) (zV : TI) (zF : TI) (zA : TL) (a1 : Int32) (a2 : Int32) : Option (Int32 × TI) := ((m_X5_isWithin n  a1 0 9).bind fun u4 => (if u4 = 0 then some ((-2), zF) else ((m_X5_isFlag n  a2).bind fun u11 => (if u11 = 0 then some ((-2), zF) else ((m_X3_mostStrangers n zF zT a1).bind fun u29 => (if a2 = 0 then ((m_J6_bitCount_0f7a4 n  u29.1).bind fun u38 => some (u38, u29.2)) else some (u29.1, u29.2)))))))
set_option maxHeartbeats 4000000 in
set_option maxRecDepth 100000 in
theorem c_X5_seats (l : Launch) (D : va_G) (cI cJ cZ : ClassId) (n : Nat) (qX : Nat → Nat) (qT : Nat → Nat) (qI : Nat → Nat) (qJ : Nat → Nat) (qP : Nat → Nat) (qC : Nat → Nat) (qV : Nat → Nat) (qF : Nat → Nat) (qA : Nat → Nat) (sz : Nat) (zX : TI) (zT : TI) (zI : TI) (zJ : TI) (zP : TI) (zC : TI) (zV : TI) (zF : TI) (zA : TL) (a1 : Int32) (a2 : Int32) (out : Int32 × TI) (hm : m_X5_seats n zX zT zI zJ zP zC zV zF zA a1 a2 = some out) : Met l yX5_seats (wsM yX5_seats cX5_seats 4 (some .int)) { frames := 4, cells := 0, slots := 0, locals := 96 } (xPre D (kT cI cJ cZ) (w5 qX qT qI qJ qP qC qF qA zX ++ (w4 cI qT zT ++ (w4 cI qI zI ++ (w4 cI qJ zJ ++ (w2 cI qP zP ++ (w1 qC qV zC ++ (w4 cI qV zV ++ (w3 cI qF zF ++ (w0 cJ qA zA))))))))) sz [.ref (qX 0), .int a1, .int a2]) (xQi D (kT cI cJ cZ) (w5 qX qT qI qJ qP qC qF qA zX ++ (w4 cI qT zT ++ (w4 cI qI zI ++ (w4 cI qJ zJ ++ (w2 cI qP zP ++ (w1 qC qV zC ++ (w4 cI qV zV ++ (w3 cI qF zF ++ (w0 cJ qA zA))))))))) (w5 qX qT qI qJ qP qC qF qA zX ++ (w4 cI qT zT ++ (w4 cI qI zI ++ (w4 cI qJ zJ ++ (w2 cI qP zP ++ (w1 qC qV zC ++ (w4 cI qV zV ++ (w3 cI qF out.2 ++ (w0 cJ qA zA))))))))) sz out.1) 0 0 (va_A (w5 qX qT qI qJ qP qC qF qA zX ++ (w4 cI qT zT ++ (w4 cI qI zI ++ (w4 cI qJ zJ ++ (w2 cI qP zP ++ (w1 qC qV zC ++ (w4 cI qV zV ++ (w3 cI qF zF ++ (w0 cJ qA zA))))))))) sz) := by
  refine Met.ofW (cc := cX5_seats) (maxL := 4) (ret := (some .int)) (by decide) rfl ?_
  intro p e s m args below meth c s₁ B hml hv
  obtain ⟨hv, hsz, hP, hK, hD0, hN⟩ := hv
  have hx := B.exec; have hb := B.bytes; have hr := B.returns
  have hts := atoms_spec (ws := (wsM yX5_seats cX5_seats 4 (some .int))) B.pre
  have hown : s.vm.findClass RX5 = some m.cls := findClass_of_methodNamed B.named
  have hlocks := B.notSynchronized
  subst hsz
  have hD := hD0.self (sz := s.heap.size)
  obtain ⟨A, hAe⟩ : ∃ A, A = va_A (w5 qX qT qI qJ qP qC qF qA zX ++ (w4 cI qT zT ++ (w4 cI qI zI ++ (w4 cI qJ zJ ++ (w2 cI qP zP ++ (w1 qC qV zC ++ (w4 cI qV zV ++ (w3 cI qF zF ++ (w0 cJ qA zA))))))))) s.heap.size := ⟨_, rfl⟩
  rw [← hAe] at hD
  have hA : ∀ q : Nat, s.heap.size ≤ q → A q := fun q h => by rw [hAe]; exact Or.inr h
  have htl : ∀ w ∈ wsL_law, w.before args s = true := fun w h => hts w (List.mem_cons_of_mem _ h)
  refine xHead (R' := { frames := 4, cells := 0, slots := 0, locals := 96 }) rfl (fun Q H hQ hH => ?_)
  have hP : va_P D vwCl (w5 qX qT qI qJ qP qC qF qA zX ++ (w4 cI qT zT ++ (w4 cI qI zI ++ (w4 cI qJ zJ ++ (w2 cI qP zP ++ (w1 qC qV zC ++ (w4 cI qV zV ++ (w3 cI qF zF ++ (w0 cJ qA zA))))))))) H := by rw [hH]; exact hP
  have hS : va_S A s.heap H [] := by rw [hH]; exact va_S.rf
  refine xStart hv (Nat.le_of_ble_eq_true rfl) (lv := [(0, .ref (qX 0)), (1, .int a1), (2, .int a2)]) rfl (fun ls hl => ?_)
  have h := hm
  unfold m_X5_seats at h
  refine lv_iload_n hx hb (dAt zX5_seats_0 0 rfl) rfl (lv_at hl 1 rfl) ?_
  refine lv_iconst (v := 0) hx hb (dAt zX5_seats_0 1 rfl) (by decide) ?_
  refine lv_bipush (v := 9) hx hb (dAt zX5_seats_0 2 rfl) (by decide) ?_
  obtain ⟨u4, hu4, h⟩ := q_bind h
  refine xFz (wc := ([] : va_W)) (w1 := ([] : va_W)) (wr := (w5 qX qT qI qJ qP qC qF qA zX ++ (w4 cI qT zT ++ (w4 cI qI zI ++ (w4 cI qJ zJ ++ (w2 cI qP zP ++ (w1 qC qV zC ++ (w4 cI qV zV ++ (w3 cI qF zF ++ (w0 cJ qA zA)))))))))) (ws2 := (w5 qX qT qI qJ qP qC qF qA zX ++ (w4 cI qT zT ++ (w4 cI qI zI ++ (w4 cI qJ zJ ++ (w2 cI qP zP ++ (w1 qC qV zC ++ (w4 cI qV zV ++ (w3 cI qF zF ++ (w0 cJ qA zA)))))))))) (va_runS (As := [.int a1, .int 0, .int 9]) (rest := []) ⟨hx, hb, hml, hown, htl⟩ (c_X5_isWithin l D cI cJ cZ n  H.size  a1 0 9 u4 hu4) (va_cwS 3 htl (gS W_110 W_111 W_2 W_112) rfl rfl rfl (by decide +kernel) ⟨Nat.le_of_ble_eq_true rfl, Nat.le_of_ble_eq_true rfl⟩) (xPS xP0 (xD0 A) hK hN) rfl rfl hl.1 rfl (lv_room (Nat.le_of_ble_eq_true rfl)) (dAt zX5_seats_0 3 rfl) ⟨Nat.zero_le _, Nat.zero_le _⟩) hS hA hP hD [] [0, 1, 2, 3, 4, 5, 6, 7, 8, 9, 10, 11, 12, 13, 14, 15, 16, 17, 18, 19, 20, 21, 22, 23, 24, 25, 26, 27, 28, 29] [0, 1, 2, 3, 4, 5, 6, 7, 8, 9, 10, 11, 12, 13, 14, 15, 16, 17, 18, 19, 20, 21, 22, 23, 24, 25, 26, 27, 28, 29] rfl rfl (by decide) (by decide) rfl (by decide) (fun H locs hz4 hP hD hS => ?_)
  refine lv_if_eq (tgt := 17) hx hb (dAt zX5_seats_0 4 rfl) (by decide) (fun c_7 => ?_) (fun c_7 => ?_)
  · have h := q_pos c_7 h
    refine lv_bipush (v := (-2)) hx hb (dAt zX5_seats_0 8 rfl) (by decide) ?_
    obtain rfl := q_some h
    exact xRi hx hb hr hlocks hQ hAe hP hD hK hS rfl (dAt zX5_seats_0 9 rfl)
  · have h := q_neg c_7 h
    refine lv_iload_n hx hb (dAt zX5_seats_0 5 rfl) rfl (lv_at hl 2 rfl) ?_
    obtain ⟨u11, hu11, h⟩ := q_bind h
    refine xFz (wc := ([] : va_W)) (w1 := ([] : va_W)) (wr := (w5 qX qT qI qJ qP qC qF qA zX ++ (w4 cI qT zT ++ (w4 cI qI zI ++ (w4 cI qJ zJ ++ (w2 cI qP zP ++ (w1 qC qV zC ++ (w4 cI qV zV ++ (w3 cI qF zF ++ (w0 cJ qA zA)))))))))) (ws2 := (w5 qX qT qI qJ qP qC qF qA zX ++ (w4 cI qT zT ++ (w4 cI qI zI ++ (w4 cI qJ zJ ++ (w2 cI qP zP ++ (w1 qC qV zC ++ (w4 cI qV zV ++ (w3 cI qF zF ++ (w0 cJ qA zA)))))))))) (va_runS (As := [.int a2]) (rest := []) ⟨hx, hb, hml, hown, htl⟩ (c_X5_isFlag l D cI cJ cZ n  H.size  a2 u11 hu11) (va_cwS 1 htl (gS W_142 W_143 W_2 W_144) rfl rfl rfl (by decide +kernel) ⟨Nat.le_of_ble_eq_true rfl, Nat.le_of_ble_eq_true rfl⟩) (xPS xP0 (xD0 A) hK hN) rfl rfl hl.1 rfl (lv_room (Nat.le_of_ble_eq_true rfl)) (dAt zX5_seats_0 6 rfl) ⟨Nat.zero_le _, Nat.zero_le _⟩) hS hA hP hD [] [0, 1, 2, 3, 4, 5, 6, 7, 8, 9, 10, 11, 12, 13, 14, 15, 16, 17, 18, 19, 20, 21, 22, 23, 24, 25, 26, 27, 28, 29] [0, 1, 2, 3, 4, 5, 6, 7, 8, 9, 10, 11, 12, 13, 14, 15, 16, 17, 18, 19, 20, 21, 22, 23, 24, 25, 26, 27, 28, 29] rfl rfl (by decide) (by decide) rfl (by decide) (fun H locs hz11 hP hD hS => ?_)
    refine lv_if_ne (tgt := 20) hx hb (dAt zX5_seats_0 7 rfl) (by decide) (fun c_14 => ?_) (fun c_14 => ?_)
    · have h := q_neg c_14 h
      refine lv_aload_n hx hb (dAt zX5_seats_0 10 rfl) rfl (lv_at hl 0 rfl) ?_
      refine va_get (D := D) (ci := 5) (v := .ref (qF 0)) (C := RX5) (T := TX5) (N := 8) hx hb htl inlX5 hown hK hP 0 rfl rfl 6 (by decide) (htl _ W_30) (fun _ h9 => h9) rfl (dAt zX5_seats_0 11 rfl) ?_
      refine lv_aload_n hx hb (dAt zX5_seats_0 12 rfl) rfl (lv_at hl 0 rfl) ?_
      refine va_get (D := D) (ci := 5) (v := .ref (qT 0)) (C := RX5) (T := TX5) (N := 8) hx hb htl inlX5 hown hK hP 0 rfl rfl 0 (by decide) (htl _ W_15) (fun _ h9 => h9) rfl (dAt zX5_seats_0 13 rfl) ?_
      refine lv_iload_n hx hb (dAt zX5_seats_0 14 rfl) rfl (lv_at hl 1 rfl) ?_
      obtain ⟨u29, hu29, h⟩ := q_bind h
      have hPc : va_P D vwCl (w3 cI qF zF ++ (w4 cI qT zT)) H := hP.sub [24, 25, 26, 27, 1, 2, 3, 4, 5] rfl
      have hDc : va_D A (w3 cI qF zF ++ (w4 cI qT zT)) := hD.sub [24, 25, 26, 27, 1, 2, 3, 4, 5] (by decide) rfl
      refine xFi (wc := (w3 cI qF zF ++ (w4 cI qT zT))) (w1 := (w3 cI qF u29.2 ++ (w4 cI qT zT))) (wr := (w5 qX qT qI qJ qP qC qF qA zX ++ (w4 cI qI zI ++ (w4 cI qJ zJ ++ (w2 cI qP zP ++ (w1 qC qV zC ++ (w4 cI qV zV ++ (w0 cJ qA zA)))))))) (ws2 := (w5 qX qT qI qJ qP qC qF qA zX ++ (w4 cI qT zT ++ (w4 cI qI zI ++ (w4 cI qJ zJ ++ (w2 cI qP zP ++ (w1 qC qV zC ++ (w4 cI qV zV ++ (w3 cI qF u29.2 ++ (w0 cJ qA zA)))))))))) (va_runV (As := [.ref (qT 0), .int a1]) (rest := []) ⟨hx, hb, hml, hown, htl⟩ (c_X3_mostStrangers l D cI cJ cZ n qF qT H.size zF zT a1 u29 hu29) (cwV 2 htl (gV W_592 W_593 W_594 W_29 W_595) rfl rfl rfl (by decide +kernel) ⟨Nat.le_of_ble_eq_true rfl, Nat.le_of_ble_eq_true rfl⟩) (xPV hPc hDc hK hN 0 rfl rfl) rfl rfl hl.1 rfl (lv_room (Nat.le_of_ble_eq_true rfl)) (dAt zX5_seats_0 15 rfl) ⟨Nat.zero_le _, Nat.zero_le _⟩) hS hA hP hD [24, 25, 26, 27, 1, 2, 3, 4, 5] [0, 6, 7, 8, 9, 10, 11, 12, 13, 14, 15, 16, 17, 18, 19, 20, 21, 22, 23, 28, 29] [0, 25, 26, 27, 28, 29, 1, 2, 3, 4, 5, 6, 7, 8, 9, 10, 11, 12, 13, 14, 15, 16, 17, 18, 21, 22, 23, 24, 19, 20] rfl rfl (by decide) (by decide) rfl (by decide) (fun H locs hP hD hS => ?_)
      refine lv_istore_n (lv' := [(3, .int u29.1), (0, .ref (qX 0)), (1, .int a1), (2, .int a2)]) hx hb (dAt zX5_seats_0 16 rfl) rfl hl (by decide) rfl (fun ls hl => ?_)
      refine lv_iload_n hx hb (dAt zX5_seats_0 17 rfl) rfl (lv_at hl 3 rfl) ?_
      refine lv_if_ne (tgt := 44) hx hb (dAt zX5_seats_0 18 rfl) (by decide) (fun c_34 => ?_) (fun c_34 => ?_)
      · have h := q_neg c_34 h
        refine lv_iload_n hx hb (dAt zX5_seats_0 22 rfl) rfl (lv_at hl 0 rfl) ?_
        obtain rfl := q_some h
        exact xRi hx hb hr hlocks hQ hAe hP hD hK hS rfl (dAt zX5_seats_0 23 rfl)
      · have h := q_pos c_34 h
        refine lv_iload_n hx hb (dAt zX5_seats_0 19 rfl) rfl (lv_at hl 0 rfl) ?_
        obtain ⟨u38, hu38, h⟩ := q_bind h
        refine xFi (wc := ([] : va_W)) (w1 := ([] : va_W)) (wr := (w5 qX qT qI qJ qP qC qF qA zX ++ (w4 cI qT zT ++ (w4 cI qI zI ++ (w4 cI qJ zJ ++ (w2 cI qP zP ++ (w1 qC qV zC ++ (w4 cI qV zV ++ (w3 cI qF u29.2 ++ (w0 cJ qA zA)))))))))) (ws2 := (w5 qX qT qI qJ qP qC qF qA zX ++ (w4 cI qT zT ++ (w4 cI qI zI ++ (w4 cI qJ zJ ++ (w2 cI qP zP ++ (w1 qC qV zC ++ (w4 cI qV zV ++ (w3 cI qF u29.2 ++ (w0 cJ qA zA)))))))))) (va_runS (As := [.int u29.1]) (rest := []) ⟨hx, hb, hml, hown, htl⟩ (c_J6_bitCount_0f7a4 l D cI cJ cZ n  H.size  u29.1 u38 hu38) (va_cwS 1 htl (gS W_149 W_150 W_151 W_152) rfl rfl rfl (by decide +kernel) ⟨Nat.le_of_ble_eq_true rfl, Nat.le_of_ble_eq_true rfl⟩) (xPS xP0 (xD0 A) hK hN) rfl rfl hl.1 rfl (lv_room (Nat.le_of_ble_eq_true rfl)) (dAt zX5_seats_0 20 rfl) ⟨Nat.zero_le _, Nat.zero_le _⟩) hS hA hP hD [] [0, 1, 2, 3, 4, 5, 6, 7, 8, 9, 10, 11, 12, 13, 14, 15, 16, 17, 18, 19, 20, 21, 22, 23, 24, 25, 26, 27, 28, 29] [0, 1, 2, 3, 4, 5, 6, 7, 8, 9, 10, 11, 12, 13, 14, 15, 16, 17, 18, 19, 20, 21, 22, 23, 24, 25, 26, 27, 28, 29] rfl rfl (by decide) (by decide) rfl (by decide) (fun H locs hP hD hS => ?_)
        refine lv_goto (tgt := 45) hx hb (dAt zX5_seats_0 21 rfl) (by decide) ?_
        obtain rfl := q_some h
        exact xRi hx hb hr hlocks hQ hAe hP hD hK hS rfl (dAt zX5_seats_0 23 rfl)
    · have h := q_pos c_14 h
      refine lv_bipush (v := (-2)) hx hb (dAt zX5_seats_0 8 rfl) (by decide) ?_
      obtain rfl := q_some h
      exact xRi hx hb hr hlocks hQ hAe hP hD hK hS rfl (dAt zX5_seats_0 9 rfl)
def b_X5_digit_6 (n : Nat) (s_6 : Int32 × Int32) (k_6 : Int32 × Int32 → Option Int32) : Option Int32 := (if 6 ≤ s_6.2 then some (jrem s_6.1 (10 : Int32)) else (k_6 ((s_6.1 / (10 : Int32)), (s_6.2 + 1))))
def m_X5_digit (n : Nat) (a1 : Int32) (a2 : Int32) : Option Int32 := (loopF (b_X5_digit_6 n ) n (a1, (a2 + (1 : Int32))))
set_option maxHeartbeats 4000000 in
set_option maxRecDepth 100000 in
theorem c_X5_digit (l : Launch) (D : va_G) (cI cJ cZ : ClassId) (n : Nat)  (sz : Nat) (a1 : Int32) (a2 : Int32) (out : Int32) (hm : m_X5_digit n a1 a2 = some out) : Met l yX5_digit (wsM yX5_digit cX5_digit 4 (some .int)) { frames := 0, cells := 0, slots := 0, locals := 0 } (xPre D (kT cI cJ cZ) ([] : va_W) sz [.int a1, .int a2]) (xQi D (kT cI cJ cZ) ([] : va_W) ([] : va_W) sz out) 0 0 (va_A ([] : va_W) sz) := by
  refine Met.ofW (cc := cX5_digit) (maxL := 4) (ret := (some .int)) (by decide) rfl ?_
  intro p e s m args below meth c s₁ B hml hv
  obtain ⟨hv, hsz, hP, hK, hD0, hN⟩ := hv
  have hx := B.exec; have hb := B.bytes; have hr := B.returns
  have hts := atoms_spec (ws := (wsM yX5_digit cX5_digit 4 (some .int))) B.pre
  have hown : s.vm.findClass RX5 = some m.cls := findClass_of_methodNamed B.named
  have hlocks := B.notSynchronized
  subst hsz
  have hD := hD0.self (sz := s.heap.size)
  obtain ⟨A, hAe⟩ : ∃ A, A = va_A ([] : va_W) s.heap.size := ⟨_, rfl⟩
  rw [← hAe] at hD
  have hA : ∀ q : Nat, s.heap.size ≤ q → A q := fun q h => by rw [hAe]; exact Or.inr h
  have htl : ∀ w ∈ wsL_law, w.before args s = true := fun w h => hts w (List.mem_cons_of_mem _ h)
  refine xHead (R' := { frames := 0, cells := 0, slots := 0, locals := 0 }) rfl (fun Q H hQ hH => ?_)
  have hP : va_P D vwCl ([] : va_W) H := by rw [hH]; exact hP
  have hS : va_S A s.heap H [] := by rw [hH]; exact va_S.rf
  refine xStart hv (Nat.le_of_ble_eq_true rfl) (lv := [(0, .int a1), (1, .int a2)]) rfl (fun ls hl => ?_)
  have h := hm
  unfold m_X5_digit at h
  refine lv_iload_n hx hb (dAt zX5_digit_0 0 rfl) rfl (lv_at hl 0 rfl) ?_
  refine lv_istore_n (lv' := [(2, .int a1), (0, .int a1), (1, .int a2)]) hx hb (dAt zX5_digit_0 1 rfl) rfl hl (by decide) rfl (fun ls hl => ?_)
  refine lv_iload_n hx hb (dAt zX5_digit_0 2 rfl) rfl (lv_at hl 2 rfl) ?_
  refine lv_iconst (v := 1) hx hb (dAt zX5_digit_0 3 rfl) (by decide) ?_
  refine lv_iadd hx hb (dAt zX5_digit_0 4 rfl) ?_
  refine lv_istore_n (lv' := [(3, .int (a2 + (1 : Int32))), (2, .int a1), (0, .int a1), (1, .int a2)]) hx hb (dAt zX5_digit_0 5 rfl) rfl hl (by decide) rfl (fun ls hl => ?_)
  have L_6 : ∀ (j_6 : Nat) (v2_6 : Int32) (v3_6 : Int32) (H : Heap) (locs : List Loc) (ls : Array Slot), loopF (b_X5_digit_6 n) j_6 (v2_6, v3_6) = some out → va_P D vwCl ([] : va_W) H → va_D A ([] : va_W) → va_S A s.heap H locs → lv_has ls 4 [(2, .int v2_6), (3, .int v3_6)] → W p l e { frames := 0, cells := 0, slots := 0, locals := 0 } s m args below meth c H locs 0 0 Q (F0 m 6 ls []) := by
    intro j_6
    induction j_6 with
    | zero => intro v2_6 v3_6 H locs ls h hP hD hS hl; exact loopF_0 h
    | succ j_6 ih_6 =>
      intro v2_6 v3_6 H locs ls h hP hD hS hl
      have h := loopF_s h
      unfold b_X5_digit_6 at h
      refine lv_iload_n hx hb (dAt zX5_digit_0 6 rfl) rfl (lv_at hl 1 rfl) ?_
      refine lv_bipush (v := 6) hx hb (dAt zX5_digit_0 7 rfl) (by decide) ?_
      refine lv_icmp_ge (tgt := 23) hx hb (dAt zX5_digit_0 8 rfl) (by decide) (fun c_9 => ?_) (fun c_9 => ?_)
      · have h := q_pos c_9 h
        refine lv_iload_n hx hb (dAt zX5_digit_0 15 rfl) rfl (lv_at hl 0 rfl) ?_
        refine lv_bipush (v := 10) hx hb (dAt zX5_digit_0 16 rfl) (by decide) ?_
        refine lv_irem hx hb (dAt zX5_digit_0 17 rfl) (by decide) ?_
        obtain rfl := q_some h
        exact xRi hx hb hr hlocks hQ hAe hP hD hK hS rfl (dAt zX5_digit_0 18 rfl)
      · have h := q_neg c_9 h
        refine lv_iload_n hx hb (dAt zX5_digit_0 9 rfl) rfl (lv_at hl 0 rfl) ?_
        refine lv_bipush (v := 10) hx hb (dAt zX5_digit_0 10 rfl) (by decide) ?_
        refine lv_idiv hx hb (dAt zX5_digit_0 11 rfl) (by decide) ?_
        refine lv_istore_n (lv' := [(2, .int (v2_6 / (10 : Int32))), (3, .int v3_6)]) hx hb (dAt zX5_digit_0 12 rfl) rfl hl (by decide) rfl (fun ls hl => ?_)
        refine lv_iinc (v := (v3_6 + 1)) (lv' := [(3, .int (v3_6 + 1)), (2, .int (v2_6 / (10 : Int32)))]) hx hb (dAt zX5_digit_0 13 rfl) hl (k := 1) rfl rfl (by decide) rfl (fun ls hl => ?_)
        refine lv_goto (tgt := 6) hx hb (dAt zX5_digit_0 14 rfl) (by decide) ?_
        exact ih_6 (v2_6 / (10 : Int32)) (v3_6 + 1) _ _ _ h hP hD hS (lv_sub hl [1, 0] rfl)
  exact L_6 n a1 (a2 + (1 : Int32)) _ _ _ h hP hD hS (lv_sub hl [1, 0] rfl)
def b_X5_likeliest_5 (n : Nat) (a1 : Int32) (a2 : Int32) (s_5 : Int32 × Int32) (k_5 : Int32 × Int32 → Option Int32) : Option Int32 := (if 6 ≤ s_5.2 then some s_5.1 else (if s_5.1 = 6 then ((m_X5_holds n  a2 s_5.2).bind fun u39 => (if u39 = 0 then (k_5 (s_5.2, (s_5.2 + 1))) else (k_5 (s_5.1, (s_5.2 + 1))))) else ((m_X5_digit n  a1 s_5.2).bind fun u19 => ((m_X5_digit n  a1 s_5.1).bind fun u24 => (if u19 ≤ u24 then ((m_X5_holds n  a2 s_5.2).bind fun u39 => (if u39 = 0 then (k_5 (s_5.1, (s_5.2 + 1))) else (k_5 (s_5.1, (s_5.2 + 1))))) else ((m_X5_holds n  a2 s_5.2).bind fun u39 => (if u39 = 0 then (k_5 (s_5.2, (s_5.2 + 1))) else (k_5 (s_5.1, (s_5.2 + 1))))))))))
def m_X5_likeliest (n : Nat) (a1 : Int32) (a2 : Int32) : Option Int32 := (loopF (b_X5_likeliest_5 n a1 a2 ) n (6, 0))
set_option maxHeartbeats 4000000 in
set_option maxRecDepth 100000 in
theorem c_X5_likeliest (l : Launch) (D : va_G) (cI cJ cZ : ClassId) (n : Nat)  (sz : Nat) (a1 : Int32) (a2 : Int32) (out : Int32) (hm : m_X5_likeliest n a1 a2 = some out) : Met l yX5_likeliest (wsM yX5_likeliest cX5_likeliest 5 (some .int)) { frames := 1, cells := 0, slots := 0, locals := 23 } (xPre D (kT cI cJ cZ) ([] : va_W) sz [.int a1, .int a2]) (xQi D (kT cI cJ cZ) ([] : va_W) ([] : va_W) sz out) 0 0 (va_A ([] : va_W) sz) := by
  refine Met.ofW (cc := cX5_likeliest) (maxL := 5) (ret := (some .int)) (by decide) rfl ?_
  intro p e s m args below meth c s₁ B hml hv
  obtain ⟨hv, hsz, hP, hK, hD0, hN⟩ := hv
  have hx := B.exec; have hb := B.bytes; have hr := B.returns
  have hts := atoms_spec (ws := (wsM yX5_likeliest cX5_likeliest 5 (some .int))) B.pre
  have hown : s.vm.findClass RX5 = some m.cls := findClass_of_methodNamed B.named
  have hlocks := B.notSynchronized
  subst hsz
  have hD := hD0.self (sz := s.heap.size)
  obtain ⟨A, hAe⟩ : ∃ A, A = va_A ([] : va_W) s.heap.size := ⟨_, rfl⟩
  rw [← hAe] at hD
  have hA : ∀ q : Nat, s.heap.size ≤ q → A q := fun q h => by rw [hAe]; exact Or.inr h
  have htl : ∀ w ∈ wsL_law, w.before args s = true := fun w h => hts w (List.mem_cons_of_mem _ h)
  refine xHead (R' := { frames := 1, cells := 0, slots := 0, locals := 23 }) rfl (fun Q H hQ hH => ?_)
  have hP : va_P D vwCl ([] : va_W) H := by rw [hH]; exact hP
  have hS : va_S A s.heap H [] := by rw [hH]; exact va_S.rf
  refine xStart hv (Nat.le_of_ble_eq_true rfl) (lv := [(0, .int a1), (1, .int a2)]) rfl (fun ls hl => ?_)
  have h := hm
  unfold m_X5_likeliest at h
  refine lv_bipush (v := 6) hx hb (dAt zX5_likeliest_0 0 rfl) (by decide) ?_
  refine lv_istore_n (lv' := [(2, .int 6), (0, .int a1), (1, .int a2)]) hx hb (dAt zX5_likeliest_0 1 rfl) rfl hl (by decide) rfl (fun ls hl => ?_)
  refine lv_iconst (v := 0) hx hb (dAt zX5_likeliest_0 2 rfl) (by decide) ?_
  refine lv_istore_n (lv' := [(3, .int 0), (2, .int 6), (0, .int a1), (1, .int a2)]) hx hb (dAt zX5_likeliest_0 3 rfl) rfl hl (by decide) rfl (fun ls hl => ?_)
  have L_5 : ∀ (j_5 : Nat) (v2_5 : Int32) (v3_5 : Int32) (H : Heap) (locs : List Loc) (ls : Array Slot), loopF (b_X5_likeliest_5 n a1 a2) j_5 (v2_5, v3_5) = some out → va_P D vwCl ([] : va_W) H → va_D A ([] : va_W) → va_S A s.heap H locs → lv_has ls 5 [(0, .int a1), (1, .int a2), (2, .int v2_5), (3, .int v3_5)] → W p l e { frames := 1, cells := 0, slots := 0, locals := 23 } s m args below meth c H locs 0 0 Q (F0 m 5 ls []) := by
    intro j_5
    induction j_5 with
    | zero => intro v2_5 v3_5 H locs ls h hP hD hS hl; exact loopF_0 h
    | succ j_5 ih_5 =>
      intro v2_5 v3_5 H locs ls h hP hD hS hl
      have h := loopF_s h
      unfold b_X5_likeliest_5 at h
      refine lv_iload_n hx hb (dAt zX5_likeliest_0 4 rfl) rfl (lv_at hl 3 rfl) ?_
      refine lv_bipush (v := 6) hx hb (dAt zX5_likeliest_0 5 rfl) (by decide) ?_
      refine lv_icmp_ge (tgt := 58) hx hb (dAt zX5_likeliest_0 6 rfl) (by decide) (fun c_8 => ?_) (fun c_8 => ?_)
      · have h := q_pos c_8 h
        refine lv_iload_n hx hb (dAt zX5_likeliest_0 31 rfl) rfl (lv_at hl 2 rfl) ?_
        obtain rfl := q_some h
        exact xRi hx hb hr hlocks hQ hAe hP hD hK hS rfl (dAt zX5_likeliest_0 32 rfl)
      · have h := q_neg c_8 h
        refine lv_iload_n hx hb (dAt zX5_likeliest_0 7 rfl) rfl (lv_at hl 2 rfl) ?_
        refine lv_bipush (v := 6) hx hb (dAt zX5_likeliest_0 8 rfl) (by decide) ?_
        refine lv_icmp_eq (tgt := 30) hx hb (dAt zX5_likeliest_0 9 rfl) (by decide) (fun c_14 => ?_) (fun c_14 => ?_)
        · have h := q_pos c_14 h
          refine lv_iconst (v := 1) hx hb (dAt zX5_likeliest_0 17 rfl) (by decide) ?_
          refine lv_goto (tgt := 35) hx hb (dAt zX5_likeliest_0 18 rfl) (by decide) ?_
          refine lv_istore (lv' := [(4, .int 1), (0, .int a1), (1, .int a2), (2, .int v2_5), (3, .int v3_5)]) hx hb (dAt zX5_likeliest_0 20 rfl) hl (by decide) rfl (fun ls hl => ?_)
          refine lv_iload_n hx hb (dAt zX5_likeliest_0 21 rfl) rfl (lv_at hl 2 rfl) ?_
          refine lv_iload_n hx hb (dAt zX5_likeliest_0 22 rfl) rfl (lv_at hl 4 rfl) ?_
          obtain ⟨u39, hu39, h⟩ := q_bind h
          refine xFz (wc := ([] : va_W)) (w1 := ([] : va_W)) (wr := ([] : va_W)) (ws2 := ([] : va_W)) (va_runS (As := [.int a2, .int v3_5]) (rest := []) ⟨hx, hb, hml, hown, htl⟩ (c_X5_holds l D cI cJ cZ n  H.size  a2 v3_5 u39 hu39) (va_cwS 2 htl (gS W_351 W_338 W_2 W_339) rfl rfl rfl (by decide +kernel) ⟨Nat.le_of_ble_eq_true rfl, Nat.le_of_ble_eq_true rfl⟩) (xPS hP hD hK hN) rfl rfl hl.1 rfl (lv_room (Nat.le_of_ble_eq_true rfl)) (dAt zX5_likeliest_0 23 rfl) ⟨Nat.zero_le _, Nat.zero_le _⟩) hS hA hP hD [] [] [] rfl rfl (by decide) (by decide) rfl (by decide) (fun H locs hz39 hP hD hS => ?_)
          refine lv_if_ne (tgt := 52) hx hb (dAt zX5_likeliest_0 24 rfl) (by decide) (fun c_42 => ?_) (fun c_42 => ?_)
          · have h := q_neg c_42 h
            refine lv_iinc (v := (v3_5 + 1)) (lv' := [(3, .int (v3_5 + 1)), (4, .int 1), (0, .int a1), (1, .int a2), (2, .int v2_5)]) hx hb (dAt zX5_likeliest_0 29 rfl) hl (k := 4) rfl rfl (by decide) rfl (fun ls hl => ?_)
            refine lv_goto (tgt := 5) hx hb (dAt zX5_likeliest_0 30 rfl) (by decide) ?_
            exact ih_5 v2_5 (v3_5 + 1) _ _ _ h hP hD hS (lv_sub hl [2, 3, 4, 0] rfl)
          · have h := q_pos c_42 h
            refine lv_iload hx hb (dAt zX5_likeliest_0 25 rfl) (lv_at hl 0 rfl) ?_
            refine lv_if_eq (tgt := 52) hx hb (dAt zX5_likeliest_0 26 rfl) (by decide) (fun c => absurd c (by decide)) (fun _ => ?_)
            refine lv_iload_n hx hb (dAt zX5_likeliest_0 27 rfl) rfl (lv_at hl 4 rfl) ?_
            refine lv_istore_n (lv' := [(2, .int v3_5), (4, .int 1), (0, .int a1), (1, .int a2), (3, .int v3_5)]) hx hb (dAt zX5_likeliest_0 28 rfl) rfl hl (by decide) rfl (fun ls hl => ?_)
            refine lv_iinc (v := (v3_5 + 1)) (lv' := [(3, .int (v3_5 + 1)), (2, .int v3_5), (4, .int 1), (0, .int a1), (1, .int a2)]) hx hb (dAt zX5_likeliest_0 29 rfl) hl (k := 4) rfl rfl (by decide) rfl (fun ls hl => ?_)
            refine lv_goto (tgt := 5) hx hb (dAt zX5_likeliest_0 30 rfl) (by decide) ?_
            exact ih_5 v3_5 (v3_5 + 1) _ _ _ h hP hD hS (lv_sub hl [3, 4, 1, 0] rfl)
        · have h := q_neg c_14 h
          refine lv_iload_n hx hb (dAt zX5_likeliest_0 10 rfl) rfl (lv_at hl 0 rfl) ?_
          refine lv_iload_n hx hb (dAt zX5_likeliest_0 11 rfl) rfl (lv_at hl 3 rfl) ?_
          obtain ⟨u19, hu19, h⟩ := q_bind h
          refine xFi (wc := ([] : va_W)) (w1 := ([] : va_W)) (wr := ([] : va_W)) (ws2 := ([] : va_W)) (va_runS (As := [.int a1, .int v3_5]) (rest := []) ⟨hx, hb, hml, hown, htl⟩ (c_X5_digit l D cI cJ cZ n  H.size  a1 v3_5 u19 hu19) (va_cwS 2 htl (gS W_621 W_622 W_2 W_623) rfl rfl rfl (by decide +kernel) ⟨Nat.le_of_ble_eq_true rfl, Nat.le_of_ble_eq_true rfl⟩) (xPS hP hD hK hN) rfl rfl hl.1 rfl (lv_room (Nat.le_of_ble_eq_true rfl)) (dAt zX5_likeliest_0 12 rfl) ⟨Nat.zero_le _, Nat.zero_le _⟩) hS hA hP hD [] [] [] rfl rfl (by decide) (by decide) rfl (by decide) (fun H locs hP hD hS => ?_)
          refine lv_iload_n hx hb (dAt zX5_likeliest_0 13 rfl) rfl (lv_at hl 0 rfl) ?_
          refine lv_iload_n hx hb (dAt zX5_likeliest_0 14 rfl) rfl (lv_at hl 2 rfl) ?_
          obtain ⟨u24, hu24, h⟩ := q_bind h
          refine xFi (wc := ([] : va_W)) (w1 := ([] : va_W)) (wr := ([] : va_W)) (ws2 := ([] : va_W)) (va_runS (As := [.int a1, .int v2_5]) (rest := [.int u19]) ⟨hx, hb, hml, hown, htl⟩ (c_X5_digit l D cI cJ cZ n  H.size  a1 v2_5 u24 hu24) (va_cwS 2 htl (gS W_621 W_622 W_2 W_623) rfl rfl rfl (by decide +kernel) ⟨Nat.le_of_ble_eq_true rfl, Nat.le_of_ble_eq_true rfl⟩) (xPS hP hD hK hN) rfl rfl hl.1 rfl (lv_room (Nat.le_of_ble_eq_true rfl)) (dAt zX5_likeliest_0 15 rfl) ⟨Nat.zero_le _, Nat.zero_le _⟩) hS hA hP hD [] [] [] rfl rfl (by decide) (by decide) rfl (by decide) (fun H locs hP hD hS => ?_)
          refine lv_icmp_le (tgt := 34) hx hb (dAt zX5_likeliest_0 16 rfl) (by decide) (fun c_27 => ?_) (fun c_27 => ?_)
          · have h := q_pos c_27 h
            refine lv_iconst (v := 0) hx hb (dAt zX5_likeliest_0 19 rfl) (by decide) ?_
            refine lv_istore (lv' := [(4, .int 0), (0, .int a1), (1, .int a2), (2, .int v2_5), (3, .int v3_5)]) hx hb (dAt zX5_likeliest_0 20 rfl) hl (by decide) rfl (fun ls hl => ?_)
            refine lv_iload_n hx hb (dAt zX5_likeliest_0 21 rfl) rfl (lv_at hl 2 rfl) ?_
            refine lv_iload_n hx hb (dAt zX5_likeliest_0 22 rfl) rfl (lv_at hl 4 rfl) ?_
            obtain ⟨u39, hu39, h⟩ := q_bind h
            refine xFz (wc := ([] : va_W)) (w1 := ([] : va_W)) (wr := ([] : va_W)) (ws2 := ([] : va_W)) (va_runS (As := [.int a2, .int v3_5]) (rest := []) ⟨hx, hb, hml, hown, htl⟩ (c_X5_holds l D cI cJ cZ n  H.size  a2 v3_5 u39 hu39) (va_cwS 2 htl (gS W_351 W_338 W_2 W_339) rfl rfl rfl (by decide +kernel) ⟨Nat.le_of_ble_eq_true rfl, Nat.le_of_ble_eq_true rfl⟩) (xPS hP hD hK hN) rfl rfl hl.1 rfl (lv_room (Nat.le_of_ble_eq_true rfl)) (dAt zX5_likeliest_0 23 rfl) ⟨Nat.zero_le _, Nat.zero_le _⟩) hS hA hP hD [] [] [] rfl rfl (by decide) (by decide) rfl (by decide) (fun H locs hz39 hP hD hS => ?_)
            refine lv_if_ne (tgt := 52) hx hb (dAt zX5_likeliest_0 24 rfl) (by decide) (fun c_42 => ?_) (fun c_42 => ?_)
            · have h := q_neg c_42 h
              refine lv_iinc (v := (v3_5 + 1)) (lv' := [(3, .int (v3_5 + 1)), (4, .int 0), (0, .int a1), (1, .int a2), (2, .int v2_5)]) hx hb (dAt zX5_likeliest_0 29 rfl) hl (k := 4) rfl rfl (by decide) rfl (fun ls hl => ?_)
              refine lv_goto (tgt := 5) hx hb (dAt zX5_likeliest_0 30 rfl) (by decide) ?_
              exact ih_5 v2_5 (v3_5 + 1) _ _ _ h hP hD hS (lv_sub hl [2, 3, 4, 0] rfl)
            · have h := q_pos c_42 h
              refine lv_iload hx hb (dAt zX5_likeliest_0 25 rfl) (lv_at hl 0 rfl) ?_
              refine lv_if_eq (tgt := 52) hx hb (dAt zX5_likeliest_0 26 rfl) (by decide) (fun _ => ?_) (fun c => absurd (by decide) c)
              refine lv_iinc (v := (v3_5 + 1)) (lv' := [(3, .int (v3_5 + 1)), (4, .int 0), (0, .int a1), (1, .int a2), (2, .int v2_5)]) hx hb (dAt zX5_likeliest_0 29 rfl) hl (k := 4) rfl rfl (by decide) rfl (fun ls hl => ?_)
              refine lv_goto (tgt := 5) hx hb (dAt zX5_likeliest_0 30 rfl) (by decide) ?_
              exact ih_5 v2_5 (v3_5 + 1) _ _ _ h hP hD hS (lv_sub hl [2, 3, 4, 0] rfl)
          · have h := q_neg c_27 h
            refine lv_iconst (v := 1) hx hb (dAt zX5_likeliest_0 17 rfl) (by decide) ?_
            refine lv_goto (tgt := 35) hx hb (dAt zX5_likeliest_0 18 rfl) (by decide) ?_
            refine lv_istore (lv' := [(4, .int 1), (0, .int a1), (1, .int a2), (2, .int v2_5), (3, .int v3_5)]) hx hb (dAt zX5_likeliest_0 20 rfl) hl (by decide) rfl (fun ls hl => ?_)
            refine lv_iload_n hx hb (dAt zX5_likeliest_0 21 rfl) rfl (lv_at hl 2 rfl) ?_
            refine lv_iload_n hx hb (dAt zX5_likeliest_0 22 rfl) rfl (lv_at hl 4 rfl) ?_
            obtain ⟨u39, hu39, h⟩ := q_bind h
            refine xFz (wc := ([] : va_W)) (w1 := ([] : va_W)) (wr := ([] : va_W)) (ws2 := ([] : va_W)) (va_runS (As := [.int a2, .int v3_5]) (rest := []) ⟨hx, hb, hml, hown, htl⟩ (c_X5_holds l D cI cJ cZ n  H.size  a2 v3_5 u39 hu39) (va_cwS 2 htl (gS W_351 W_338 W_2 W_339) rfl rfl rfl (by decide +kernel) ⟨Nat.le_of_ble_eq_true rfl, Nat.le_of_ble_eq_true rfl⟩) (xPS hP hD hK hN) rfl rfl hl.1 rfl (lv_room (Nat.le_of_ble_eq_true rfl)) (dAt zX5_likeliest_0 23 rfl) ⟨Nat.zero_le _, Nat.zero_le _⟩) hS hA hP hD [] [] [] rfl rfl (by decide) (by decide) rfl (by decide) (fun H locs hz39 hP hD hS => ?_)
            refine lv_if_ne (tgt := 52) hx hb (dAt zX5_likeliest_0 24 rfl) (by decide) (fun c_42 => ?_) (fun c_42 => ?_)
            · have h := q_neg c_42 h
              refine lv_iinc (v := (v3_5 + 1)) (lv' := [(3, .int (v3_5 + 1)), (4, .int 1), (0, .int a1), (1, .int a2), (2, .int v2_5)]) hx hb (dAt zX5_likeliest_0 29 rfl) hl (k := 4) rfl rfl (by decide) rfl (fun ls hl => ?_)
              refine lv_goto (tgt := 5) hx hb (dAt zX5_likeliest_0 30 rfl) (by decide) ?_
              exact ih_5 v2_5 (v3_5 + 1) _ _ _ h hP hD hS (lv_sub hl [2, 3, 4, 0] rfl)
            · have h := q_pos c_42 h
              refine lv_iload hx hb (dAt zX5_likeliest_0 25 rfl) (lv_at hl 0 rfl) ?_
              refine lv_if_eq (tgt := 52) hx hb (dAt zX5_likeliest_0 26 rfl) (by decide) (fun c => absurd c (by decide)) (fun _ => ?_)
              refine lv_iload_n hx hb (dAt zX5_likeliest_0 27 rfl) rfl (lv_at hl 4 rfl) ?_
              refine lv_istore_n (lv' := [(2, .int v3_5), (4, .int 1), (0, .int a1), (1, .int a2), (3, .int v3_5)]) hx hb (dAt zX5_likeliest_0 28 rfl) rfl hl (by decide) rfl (fun ls hl => ?_)
              refine lv_iinc (v := (v3_5 + 1)) (lv' := [(3, .int (v3_5 + 1)), (2, .int v3_5), (4, .int 1), (0, .int a1), (1, .int a2)]) hx hb (dAt zX5_likeliest_0 29 rfl) hl (k := 4) rfl rfl (by decide) rfl (fun ls hl => ?_)
              refine lv_goto (tgt := 5) hx hb (dAt zX5_likeliest_0 30 rfl) (by decide) ?_
              exact ih_5 v3_5 (v3_5 + 1) _ _ _ h hP hD hS (lv_sub hl [3, 4, 1, 0] rfl)
  exact L_5 n 6 0 _ _ _ h hP hD hS (lv_sub hl [2, 3, 1, 0] rfl)
def b_X5_commonDivisor_9 (n : Nat) (s_9 : Int64 × Int64 × Int32) (k_9 : Int64 × Int64 × Int32 → Option Int64) : Option Int64 := (if 200 ≤ s_9.2.2 then some s_9.1 else (if (lg_cmp s_9.2.1 (0 : Int64)) = 0 then some s_9.1 else (gd (nzL s_9.2.1) ((k_9 (s_9.2.1, (jremL s_9.1 s_9.2.1), (s_9.2.2 + 1)))))))
def m_X5_commonDivisor (n : Nat) (a1 : Int64) (a2 : Int64) : Option Int64 := (loopF (b_X5_commonDivisor_9 n ) n (a1, a2, 0))
set_option maxHeartbeats 4000000 in
set_option maxRecDepth 100000 in
theorem c_X5_commonDivisor (l : Launch) (D : va_G) (cI cJ cZ : ClassId) (n : Nat)  (sz : Nat) (a1 : Int64) (a2 : Int64) (out : Int64) (hm : m_X5_commonDivisor n a1 a2 = some out) : Met l yX5_commonDivisor (wsM yX5_commonDivisor cX5_commonDivisor 11 (some .long)) { frames := 0, cells := 0, slots := 0, locals := 0 } (xPre D (kT cI cJ cZ) ([] : va_W) sz [.long a1, .long a2]) (xQl D (kT cI cJ cZ) ([] : va_W) ([] : va_W) sz out) 0 0 (va_A ([] : va_W) sz) := by
  refine Met.ofW (cc := cX5_commonDivisor) (maxL := 11) (ret := (some .long)) (by decide) rfl ?_
  intro p e s m args below meth c s₁ B hml hv
  obtain ⟨hv, hsz, hP, hK, hD0, hN⟩ := hv
  have hx := B.exec; have hb := B.bytes; have hr := B.returns
  have hts := atoms_spec (ws := (wsM yX5_commonDivisor cX5_commonDivisor 11 (some .long))) B.pre
  have hown : s.vm.findClass RX5 = some m.cls := findClass_of_methodNamed B.named
  have hlocks := B.notSynchronized
  subst hsz
  have hD := hD0.self (sz := s.heap.size)
  obtain ⟨A, hAe⟩ : ∃ A, A = va_A ([] : va_W) s.heap.size := ⟨_, rfl⟩
  rw [← hAe] at hD
  have hA : ∀ q : Nat, s.heap.size ≤ q → A q := fun q h => by rw [hAe]; exact Or.inr h
  have htl : ∀ w ∈ wsL_law, w.before args s = true := fun w h => hts w (List.mem_cons_of_mem _ h)
  refine xHead (R' := { frames := 0, cells := 0, slots := 0, locals := 0 }) rfl (fun Q H hQ hH => ?_)
  have hP : va_P D vwCl ([] : va_W) H := by rw [hH]; exact hP
  have hS : va_S A s.heap H [] := by rw [hH]; exact va_S.rf
  refine xStart hv (Nat.le_of_ble_eq_true rfl) (lv := [(0, .long a1), (2, .long a2)]) rfl (fun ls hl => ?_)
  have h := hm
  unfold m_X5_commonDivisor at h
  refine lv_lload_n hx hb (dAt zX5_commonDivisor_0 0 rfl) rfl (lv_at hl 0 rfl) ?_
  refine lv_lstore (lv' := [(4, .long a1), (0, .long a1), (2, .long a2)]) hx hb (dAt zX5_commonDivisor_0 1 rfl) hl (by decide) rfl (fun ls hl => ?_)
  refine lv_lload_n hx hb (dAt zX5_commonDivisor_0 2 rfl) rfl (lv_at hl 2 rfl) ?_
  refine lv_lstore (lv' := [(6, .long a2), (4, .long a1), (0, .long a1), (2, .long a2)]) hx hb (dAt zX5_commonDivisor_0 3 rfl) hl (by decide) rfl (fun ls hl => ?_)
  refine lv_iconst (v := 0) hx hb (dAt zX5_commonDivisor_0 4 rfl) (by decide) ?_
  refine lv_istore (lv' := [(8, .int 0), (6, .long a2), (4, .long a1), (0, .long a1), (2, .long a2)]) hx hb (dAt zX5_commonDivisor_0 5 rfl) hl (by decide) rfl (fun ls hl => ?_)
  have L_9 : ∀ (j_9 : Nat) (v4_9 : Int64) (v6_9 : Int64) (v8_9 : Int32) (H : Heap) (locs : List Loc) (ls : Array Slot), loopF (b_X5_commonDivisor_9 n) j_9 (v4_9, v6_9, v8_9) = some out → va_P D vwCl ([] : va_W) H → va_D A ([] : va_W) → va_S A s.heap H locs → lv_has ls 11 [(4, .long v4_9), (6, .long v6_9), (8, .int v8_9)] → W p l e { frames := 0, cells := 0, slots := 0, locals := 0 } s m args below meth c H locs 0 0 Q (F0 m 9 ls []) := by
    intro j_9
    induction j_9 with
    | zero => intro v4_9 v6_9 v8_9 H locs ls h hP hD hS hl; exact loopF_0 h
    | succ j_9 ih_9 =>
      intro v4_9 v6_9 v8_9 H locs ls h hP hD hS hl
      have h := loopF_s h
      unfold b_X5_commonDivisor_9 at h
      refine lv_iload hx hb (dAt zX5_commonDivisor_0 6 rfl) (lv_at hl 2 rfl) ?_
      refine lv_sipush (v := 200) hx hb (dAt zX5_commonDivisor_0 7 rfl) (by decide) ?_
      refine lv_icmp_ge (tgt := 45) hx hb (dAt zX5_commonDivisor_0 8 rfl) (by decide) (fun c_14 => ?_) (fun c_14 => ?_)
      · have h := q_pos c_14 h
        refine lv_lload hx hb (dAt zX5_commonDivisor_0 23 rfl) (lv_at hl 0 rfl) ?_
        obtain rfl := q_some h
        exact xRl hx hb hr hlocks hQ hAe hP hD hK hS rfl (dAt zX5_commonDivisor_0 24 rfl)
      · have h := q_neg c_14 h
        refine lv_lload hx hb (dAt zX5_commonDivisor_0 9 rfl) (lv_at hl 1 rfl) ?_
        refine lv_lconst (v := 0) hx hb (dAt zX5_commonDivisor_0 10 rfl) (by decide) ?_
        refine W.lcmp hx hb (dAt zX5_commonDivisor_0 11 rfl) ?_
        refine lv_if_eq (tgt := 45) hx hb (dAt zX5_commonDivisor_0 12 rfl) (by decide) (fun c_21 => ?_) (fun c_21 => ?_)
        · have h := q_pos c_21 h
          refine lv_lload hx hb (dAt zX5_commonDivisor_0 23 rfl) (lv_at hl 0 rfl) ?_
          obtain rfl := q_some h
          exact xRl hx hb hr hlocks hQ hAe hP hD hK hS rfl (dAt zX5_commonDivisor_0 24 rfl)
        · have h := q_neg c_21 h
          refine lv_lload hx hb (dAt zX5_commonDivisor_0 13 rfl) (lv_at hl 0 rfl) ?_
          refine lv_lload hx hb (dAt zX5_commonDivisor_0 14 rfl) (lv_at hl 1 rfl) ?_
          obtain ⟨hn_28, h⟩ := q_nzL h
          refine lv_lrem hx hb (dAt zX5_commonDivisor_0 15 rfl) hn_28 ?_
          refine lv_lstore (lv' := [(9, .long (jremL v4_9 v6_9)), (4, .long v4_9), (6, .long v6_9), (8, .int v8_9)]) hx hb (dAt zX5_commonDivisor_0 16 rfl) hl (by decide) rfl (fun ls hl => ?_)
          refine lv_lload hx hb (dAt zX5_commonDivisor_0 17 rfl) (lv_at hl 2 rfl) ?_
          refine lv_lstore (lv' := [(4, .long v6_9), (9, .long (jremL v4_9 v6_9)), (6, .long v6_9), (8, .int v8_9)]) hx hb (dAt zX5_commonDivisor_0 18 rfl) hl (by decide) rfl (fun ls hl => ?_)
          refine lv_lload hx hb (dAt zX5_commonDivisor_0 19 rfl) (lv_at hl 1 rfl) ?_
          refine lv_lstore (lv' := [(6, .long (jremL v4_9 v6_9)), (4, .long v6_9), (9, .long (jremL v4_9 v6_9)), (8, .int v8_9)]) hx hb (dAt zX5_commonDivisor_0 20 rfl) hl (by decide) rfl (fun ls hl => ?_)
          refine lv_iinc (v := (v8_9 + 1)) (lv' := [(8, .int (v8_9 + 1)), (6, .long (jremL v4_9 v6_9)), (4, .long v6_9), (9, .long (jremL v4_9 v6_9))]) hx hb (dAt zX5_commonDivisor_0 21 rfl) hl (k := 3) rfl rfl (by decide) rfl (fun ls hl => ?_)
          refine lv_goto (tgt := 9) hx hb (dAt zX5_commonDivisor_0 22 rfl) (by decide) ?_
          exact ih_9 v6_9 (jremL v4_9 v6_9) (v8_9 + 1) _ _ _ h hP hD hS (lv_sub hl [2, 1, 0] rfl)
  exact L_9 n a1 a2 0 _ _ _ h hP hD hS (lv_sub hl [2, 1, 0] rfl)
def m_X5_partOf (n : Nat) (a1 : Int64) (a2 : Int64) (a3 : Int32) : Option Int64 := ((m_X5_commonDivisor n  a1 a2).bind fun u2 => (if (lg_cmp u2 (0 : Int64)) = 0 then (if a3 = 0 then some a1 else some a2) else (if a3 = 0 then (gd (nzL u2) (some (a1 / u2))) else (gd (nzL u2) (some (a2 / u2))))))
set_option maxHeartbeats 4000000 in
set_option maxRecDepth 100000 in
theorem c_X5_partOf (l : Launch) (D : va_G) (cI cJ cZ : ClassId) (n : Nat)  (sz : Nat) (a1 : Int64) (a2 : Int64) (a3 : Int32) (out : Int64) (hm : m_X5_partOf n a1 a2 a3 = some out) : Met l yX5_partOf (wsM yX5_partOf cX5_partOf 7 (some .long)) { frames := 1, cells := 0, slots := 0, locals := 30 } (xPre D (kT cI cJ cZ) ([] : va_W) sz [.long a1, .long a2, .int a3]) (xQl D (kT cI cJ cZ) ([] : va_W) ([] : va_W) sz out) 0 0 (va_A ([] : va_W) sz) := by
  refine Met.ofW (cc := cX5_partOf) (maxL := 7) (ret := (some .long)) (by decide) rfl ?_
  intro p e s m args below meth c s₁ B hml hv
  obtain ⟨hv, hsz, hP, hK, hD0, hN⟩ := hv
  have hx := B.exec; have hb := B.bytes; have hr := B.returns
  have hts := atoms_spec (ws := (wsM yX5_partOf cX5_partOf 7 (some .long))) B.pre
  have hown : s.vm.findClass RX5 = some m.cls := findClass_of_methodNamed B.named
  have hlocks := B.notSynchronized
  subst hsz
  have hD := hD0.self (sz := s.heap.size)
  obtain ⟨A, hAe⟩ : ∃ A, A = va_A ([] : va_W) s.heap.size := ⟨_, rfl⟩
  rw [← hAe] at hD
  have hA : ∀ q : Nat, s.heap.size ≤ q → A q := fun q h => by rw [hAe]; exact Or.inr h
  have htl : ∀ w ∈ wsL_law, w.before args s = true := fun w h => hts w (List.mem_cons_of_mem _ h)
  refine xHead (R' := { frames := 1, cells := 0, slots := 0, locals := 30 }) rfl (fun Q H hQ hH => ?_)
  have hP : va_P D vwCl ([] : va_W) H := by rw [hH]; exact hP
  have hS : va_S A s.heap H [] := by rw [hH]; exact va_S.rf
  refine xStart hv (Nat.le_of_ble_eq_true rfl) (lv := [(0, .long a1), (2, .long a2), (4, .int a3)]) rfl (fun ls hl => ?_)
  have h := hm
  unfold m_X5_partOf at h
  refine lv_lload_n hx hb (dAt zX5_partOf_0 0 rfl) rfl (lv_at hl 0 rfl) ?_
  refine lv_lload_n hx hb (dAt zX5_partOf_0 1 rfl) rfl (lv_at hl 1 rfl) ?_
  obtain ⟨u2, hu2, h⟩ := q_bind h
  refine xFl (wc := ([] : va_W)) (w1 := ([] : va_W)) (wr := ([] : va_W)) (ws2 := ([] : va_W)) (va_runS (As := [.long a1, .long a2]) (rest := []) ⟨hx, hb, hml, hown, htl⟩ (c_X5_commonDivisor l D cI cJ cZ n  H.size  a1 a2 u2 hu2) (va_cwS 2 htl (gS W_627 W_628 W_2 W_629) rfl rfl rfl (by decide +kernel) ⟨Nat.le_of_ble_eq_true rfl, Nat.le_of_ble_eq_true rfl⟩) (xPS hP hD hK hN) rfl rfl hl.1 rfl (lv_room (Nat.le_of_ble_eq_true rfl)) (dAt zX5_partOf_0 2 rfl) ⟨Nat.zero_le _, Nat.zero_le _⟩) hS hA hP hD [] [] [] rfl rfl (by decide) (by decide) rfl (by decide) (fun H locs hP hD hS => ?_)
  refine lv_lstore (lv' := [(5, .long u2), (0, .long a1), (2, .long a2), (4, .int a3)]) hx hb (dAt zX5_partOf_0 3 rfl) hl (by decide) rfl (fun ls hl => ?_)
  refine lv_lload hx hb (dAt zX5_partOf_0 4 rfl) (lv_at hl 0 rfl) ?_
  refine lv_lconst (v := 0) hx hb (dAt zX5_partOf_0 5 rfl) (by decide) ?_
  refine W.lcmp hx hb (dAt zX5_partOf_0 6 rfl) ?_
  refine lv_if_ne (tgt := 25) hx hb (dAt zX5_partOf_0 7 rfl) (by decide) (fun c_11 => ?_) (fun c_11 => ?_)
  · have h := q_neg c_11 h
    refine lv_iload hx hb (dAt zX5_partOf_0 14 rfl) (lv_at hl 3 rfl) ?_
    refine lv_if_ne (tgt := 34) hx hb (dAt zX5_partOf_0 15 rfl) (by decide) (fun c_27 => ?_) (fun c_27 => ?_)
    · have h := q_neg c_27 h
      refine lv_lload_n hx hb (dAt zX5_partOf_0 18 rfl) rfl (lv_at hl 2 rfl) ?_
      refine lv_lload hx hb (dAt zX5_partOf_0 19 rfl) (lv_at hl 0 rfl) ?_
      obtain ⟨hn_37, h⟩ := q_nzL h
      refine lv_ldiv hx hb (dAt zX5_partOf_0 20 rfl) hn_37 ?_
      obtain rfl := q_some h
      exact xRl hx hb hr hlocks hQ hAe hP hD hK hS rfl (dAt zX5_partOf_0 21 rfl)
    · have h := q_pos c_27 h
      refine lv_lload_n hx hb (dAt zX5_partOf_0 16 rfl) rfl (lv_at hl 1 rfl) ?_
      refine lv_goto (tgt := 35) hx hb (dAt zX5_partOf_0 17 rfl) (by decide) ?_
      refine lv_lload hx hb (dAt zX5_partOf_0 19 rfl) (lv_at hl 0 rfl) ?_
      obtain ⟨hn_37, h⟩ := q_nzL h
      refine lv_ldiv hx hb (dAt zX5_partOf_0 20 rfl) hn_37 ?_
      obtain rfl := q_some h
      exact xRl hx hb hr hlocks hQ hAe hP hD hK hS rfl (dAt zX5_partOf_0 21 rfl)
  · have h := q_pos c_11 h
    refine lv_iload hx hb (dAt zX5_partOf_0 8 rfl) (lv_at hl 3 rfl) ?_
    refine lv_if_ne (tgt := 23) hx hb (dAt zX5_partOf_0 9 rfl) (by decide) (fun c_16 => ?_) (fun c_16 => ?_)
    · have h := q_neg c_16 h
      refine lv_lload_n hx hb (dAt zX5_partOf_0 12 rfl) rfl (lv_at hl 2 rfl) ?_
      obtain rfl := q_some h
      exact xRl hx hb hr hlocks hQ hAe hP hD hK hS rfl (dAt zX5_partOf_0 13 rfl)
    · have h := q_pos c_16 h
      refine lv_lload_n hx hb (dAt zX5_partOf_0 10 rfl) rfl (lv_at hl 1 rfl) ?_
      refine lv_goto (tgt := 24) hx hb (dAt zX5_partOf_0 11 rfl) (by decide) ?_
      obtain rfl := q_some h
      exact xRl hx hb hr hlocks hQ hAe hP hD hK hS rfl (dAt zX5_partOf_0 13 rfl)
def b_X5_calls_32 (n : Nat) (a1 : Int32) (a2 : Int32) (s_32 : Int64 × Int64 × Int32 × Int32) (k_32 : Int64 × Int64 × Int32 × Int32 → Option Int64) : Option Int64 := (if 6 ≤ s_32.2.2.2 then ((m_X5_partOf n  s_32.1 100000 a2).bind fun u91 => some u91) else ((m_X5_likeliest n  a1 s_32.2.2.1).bind fun u51 => ((m_X5_digit n  a1 u51).bind fun u63 => (k_32 (((s_32.1 * (10 : Int64)) + s_32.2.1), (s_32.2.1 * (Int32.toInt64 ((10 : Int32) - u63))), (s_32.2.2.1 ||| ((1 : Int32) <<< (u51 &&& 31))), (s_32.2.2.2 + 1))))))
def m_X5_calls (n : Nat) (zX : TI) (zT : TI) (zI : TI) (zJ : TI) (zP : TI) (zC : TI) (zV : TI) (zF : TI) (zA : TL) (a1 : Int32) (a2 : Int32) : Option Int64 := ((m_X5_isWithin n  a1 0 999999).bind fun u4 => (if u4 = 0 then some (-1000000000000000002) else ((m_X5_isFlag n  a2).bind fun u11 => (if u11 = 0 then some (-1000000000000000002) else (loopF (b_X5_calls_32 n a1 a2 ) n (0, 1, 0, 0))))))
set_option maxHeartbeats 4000000 in
set_option maxRecDepth 100000 in
theorem c_X5_calls (l : Launch) (D : va_G) (cI cJ cZ : ClassId) (n : Nat) (qX : Nat → Nat) (qT : Nat → Nat) (qI : Nat → Nat) (qJ : Nat → Nat) (qP : Nat → Nat) (qC : Nat → Nat) (qV : Nat → Nat) (qF : Nat → Nat) (qA : Nat → Nat) (sz : Nat) (zX : TI) (zT : TI) (zI : TI) (zJ : TI) (zP : TI) (zC : TI) (zV : TI) (zF : TI) (zA : TL) (a1 : Int32) (a2 : Int32) (out : Int64) (hm : m_X5_calls n zX zT zI zJ zP zC zV zF zA a1 a2 = some out) : Met l yX5_calls (wsM yX5_calls cX5_calls 10 (some .long)) { frames := 2, cells := 0, slots := 0, locals := 56 } (xPre D (kT cI cJ cZ) (w5 qX qT qI qJ qP qC qF qA zX ++ (w4 cI qT zT ++ (w4 cI qI zI ++ (w4 cI qJ zJ ++ (w2 cI qP zP ++ (w1 qC qV zC ++ (w4 cI qV zV ++ (w3 cI qF zF ++ (w0 cJ qA zA))))))))) sz [.ref (qX 0), .int a1, .int a2]) (xQl D (kT cI cJ cZ) (w5 qX qT qI qJ qP qC qF qA zX ++ (w4 cI qT zT ++ (w4 cI qI zI ++ (w4 cI qJ zJ ++ (w2 cI qP zP ++ (w1 qC qV zC ++ (w4 cI qV zV ++ (w3 cI qF zF ++ (w0 cJ qA zA))))))))) (w5 qX qT qI qJ qP qC qF qA zX ++ (w4 cI qT zT ++ (w4 cI qI zI ++ (w4 cI qJ zJ ++ (w2 cI qP zP ++ (w1 qC qV zC ++ (w4 cI qV zV ++ (w3 cI qF zF ++ (w0 cJ qA zA))))))))) sz out) 0 0 (va_A (w5 qX qT qI qJ qP qC qF qA zX ++ (w4 cI qT zT ++ (w4 cI qI zI ++ (w4 cI qJ zJ ++ (w2 cI qP zP ++ (w1 qC qV zC ++ (w4 cI qV zV ++ (w3 cI qF zF ++ (w0 cJ qA zA))))))))) sz) := by
  refine Met.ofW (cc := cX5_calls) (maxL := 10) (ret := (some .long)) (by decide) rfl ?_
  intro p e s m args below meth c s₁ B hml hv
  obtain ⟨hv, hsz, hP, hK, hD0, hN⟩ := hv
  have hx := B.exec; have hb := B.bytes; have hr := B.returns
  have hts := atoms_spec (ws := (wsM yX5_calls cX5_calls 10 (some .long))) B.pre
  have hown : s.vm.findClass RX5 = some m.cls := findClass_of_methodNamed B.named
  have hlocks := B.notSynchronized
  subst hsz
  have hD := hD0.self (sz := s.heap.size)
  obtain ⟨A, hAe⟩ : ∃ A, A = va_A (w5 qX qT qI qJ qP qC qF qA zX ++ (w4 cI qT zT ++ (w4 cI qI zI ++ (w4 cI qJ zJ ++ (w2 cI qP zP ++ (w1 qC qV zC ++ (w4 cI qV zV ++ (w3 cI qF zF ++ (w0 cJ qA zA))))))))) s.heap.size := ⟨_, rfl⟩
  rw [← hAe] at hD
  have hA : ∀ q : Nat, s.heap.size ≤ q → A q := fun q h => by rw [hAe]; exact Or.inr h
  have htl : ∀ w ∈ wsL_law, w.before args s = true := fun w h => hts w (List.mem_cons_of_mem _ h)
  refine xHead (R' := { frames := 2, cells := 0, slots := 0, locals := 56 }) rfl (fun Q H hQ hH => ?_)
  have hP : va_P D vwCl (w5 qX qT qI qJ qP qC qF qA zX ++ (w4 cI qT zT ++ (w4 cI qI zI ++ (w4 cI qJ zJ ++ (w2 cI qP zP ++ (w1 qC qV zC ++ (w4 cI qV zV ++ (w3 cI qF zF ++ (w0 cJ qA zA))))))))) H := by rw [hH]; exact hP
  have hS : va_S A s.heap H [] := by rw [hH]; exact va_S.rf
  refine xStart hv (Nat.le_of_ble_eq_true rfl) (lv := [(0, .ref (qX 0)), (1, .int a1), (2, .int a2)]) rfl (fun ls hl => ?_)
  have h := hm
  unfold m_X5_calls at h
  refine lv_iload_n hx hb (dAt zX5_calls_0 0 rfl) rfl (lv_at hl 1 rfl) ?_
  refine lv_iconst (v := 0) hx hb (dAt zX5_calls_0 1 rfl) (by decide) ?_
  refine lv_ldc (v := 999999) hx hb hown (htl _ W_614) (dAt zX5_calls_0 2 rfl) ?_
  obtain ⟨u4, hu4, h⟩ := q_bind h
  refine xFz (wc := ([] : va_W)) (w1 := ([] : va_W)) (wr := (w5 qX qT qI qJ qP qC qF qA zX ++ (w4 cI qT zT ++ (w4 cI qI zI ++ (w4 cI qJ zJ ++ (w2 cI qP zP ++ (w1 qC qV zC ++ (w4 cI qV zV ++ (w3 cI qF zF ++ (w0 cJ qA zA)))))))))) (ws2 := (w5 qX qT qI qJ qP qC qF qA zX ++ (w4 cI qT zT ++ (w4 cI qI zI ++ (w4 cI qJ zJ ++ (w2 cI qP zP ++ (w1 qC qV zC ++ (w4 cI qV zV ++ (w3 cI qF zF ++ (w0 cJ qA zA)))))))))) (va_runS (As := [.int a1, .int 0, .int 999999]) (rest := []) ⟨hx, hb, hml, hown, htl⟩ (c_X5_isWithin l D cI cJ cZ n  H.size  a1 0 999999 u4 hu4) (va_cwS 3 htl (gS W_110 W_111 W_2 W_112) rfl rfl rfl (by decide +kernel) ⟨Nat.le_of_ble_eq_true rfl, Nat.le_of_ble_eq_true rfl⟩) (xPS xP0 (xD0 A) hK hN) rfl rfl hl.1 rfl (lv_room (Nat.le_of_ble_eq_true rfl)) (dAt zX5_calls_0 3 rfl) ⟨Nat.zero_le _, Nat.zero_le _⟩) hS hA hP hD [] [0, 1, 2, 3, 4, 5, 6, 7, 8, 9, 10, 11, 12, 13, 14, 15, 16, 17, 18, 19, 20, 21, 22, 23, 24, 25, 26, 27, 28, 29] [0, 1, 2, 3, 4, 5, 6, 7, 8, 9, 10, 11, 12, 13, 14, 15, 16, 17, 18, 19, 20, 21, 22, 23, 24, 25, 26, 27, 28, 29] rfl rfl (by decide) (by decide) rfl (by decide) (fun H locs hz4 hP hD hS => ?_)
  refine lv_if_eq (tgt := 17) hx hb (dAt zX5_calls_0 4 rfl) (by decide) (fun c_7 => ?_) (fun c_7 => ?_)
  · have h := q_pos c_7 h
    refine lv_ldc2 (v := (-1000000000000000002)) hx hb hown (htl _ W_615) (dAt zX5_calls_0 8 rfl) ?_
    obtain rfl := q_some h
    exact xRl hx hb hr hlocks hQ hAe hP hD hK hS rfl (dAt zX5_calls_0 9 rfl)
  · have h := q_neg c_7 h
    refine lv_iload_n hx hb (dAt zX5_calls_0 5 rfl) rfl (lv_at hl 2 rfl) ?_
    obtain ⟨u11, hu11, h⟩ := q_bind h
    refine xFz (wc := ([] : va_W)) (w1 := ([] : va_W)) (wr := (w5 qX qT qI qJ qP qC qF qA zX ++ (w4 cI qT zT ++ (w4 cI qI zI ++ (w4 cI qJ zJ ++ (w2 cI qP zP ++ (w1 qC qV zC ++ (w4 cI qV zV ++ (w3 cI qF zF ++ (w0 cJ qA zA)))))))))) (ws2 := (w5 qX qT qI qJ qP qC qF qA zX ++ (w4 cI qT zT ++ (w4 cI qI zI ++ (w4 cI qJ zJ ++ (w2 cI qP zP ++ (w1 qC qV zC ++ (w4 cI qV zV ++ (w3 cI qF zF ++ (w0 cJ qA zA)))))))))) (va_runS (As := [.int a2]) (rest := []) ⟨hx, hb, hml, hown, htl⟩ (c_X5_isFlag l D cI cJ cZ n  H.size  a2 u11 hu11) (va_cwS 1 htl (gS W_142 W_143 W_2 W_144) rfl rfl rfl (by decide +kernel) ⟨Nat.le_of_ble_eq_true rfl, Nat.le_of_ble_eq_true rfl⟩) (xPS xP0 (xD0 A) hK hN) rfl rfl hl.1 rfl (lv_room (Nat.le_of_ble_eq_true rfl)) (dAt zX5_calls_0 6 rfl) ⟨Nat.zero_le _, Nat.zero_le _⟩) hS hA hP hD [] [0, 1, 2, 3, 4, 5, 6, 7, 8, 9, 10, 11, 12, 13, 14, 15, 16, 17, 18, 19, 20, 21, 22, 23, 24, 25, 26, 27, 28, 29] [0, 1, 2, 3, 4, 5, 6, 7, 8, 9, 10, 11, 12, 13, 14, 15, 16, 17, 18, 19, 20, 21, 22, 23, 24, 25, 26, 27, 28, 29] rfl rfl (by decide) (by decide) rfl (by decide) (fun H locs hz11 hP hD hS => ?_)
    refine lv_if_ne (tgt := 21) hx hb (dAt zX5_calls_0 7 rfl) (by decide) (fun c_14 => ?_) (fun c_14 => ?_)
    · have h := q_neg c_14 h
      refine lv_lconst (v := 0) hx hb (dAt zX5_calls_0 10 rfl) (by decide) ?_
      refine lv_lstore_n (lv' := [(3, .long 0), (0, .ref (qX 0)), (1, .int a1), (2, .int a2)]) hx hb (dAt zX5_calls_0 11 rfl) rfl hl (by decide) rfl (fun ls hl => ?_)
      refine lv_lconst (v := 1) hx hb (dAt zX5_calls_0 12 rfl) (by decide) ?_
      refine lv_lstore (lv' := [(5, .long 1), (3, .long 0), (0, .ref (qX 0)), (1, .int a1), (2, .int a2)]) hx hb (dAt zX5_calls_0 13 rfl) hl (by decide) rfl (fun ls hl => ?_)
      refine lv_iconst (v := 0) hx hb (dAt zX5_calls_0 14 rfl) (by decide) ?_
      refine lv_istore (lv' := [(7, .int 0), (5, .long 1), (3, .long 0), (0, .ref (qX 0)), (1, .int a1), (2, .int a2)]) hx hb (dAt zX5_calls_0 15 rfl) hl (by decide) rfl (fun ls hl => ?_)
      refine lv_iconst (v := 0) hx hb (dAt zX5_calls_0 16 rfl) (by decide) ?_
      refine lv_istore (lv' := [(8, .int 0), (7, .int 0), (5, .long 1), (3, .long 0), (0, .ref (qX 0)), (1, .int a1), (2, .int a2)]) hx hb (dAt zX5_calls_0 17 rfl) hl (by decide) rfl (fun ls hl => ?_)
      have L_32 : ∀ (j_32 : Nat) (v3_32 : Int64) (v5_32 : Int64) (v7_32 : Int32) (v8_32 : Int32) (H : Heap) (locs : List Loc) (ls : Array Slot), loopF (b_X5_calls_32 n a1 a2) j_32 (v3_32, v5_32, v7_32, v8_32) = some out → va_P D vwCl (w5 qX qT qI qJ qP qC qF qA zX ++ (w4 cI qT zT ++ (w4 cI qI zI ++ (w4 cI qJ zJ ++ (w2 cI qP zP ++ (w1 qC qV zC ++ (w4 cI qV zV ++ (w3 cI qF zF ++ (w0 cJ qA zA))))))))) H → va_D A (w5 qX qT qI qJ qP qC qF qA zX ++ (w4 cI qT zT ++ (w4 cI qI zI ++ (w4 cI qJ zJ ++ (w2 cI qP zP ++ (w1 qC qV zC ++ (w4 cI qV zV ++ (w3 cI qF zF ++ (w0 cJ qA zA))))))))) → va_S A s.heap H locs → lv_has ls 10 [(1, .int a1), (2, .int a2), (3, .long v3_32), (5, .long v5_32), (7, .int v7_32), (8, .int v8_32)] → W p l e { frames := 2, cells := 0, slots := 0, locals := 56 } s m args below meth c H locs 0 0 Q (F0 m 32 ls []) := by
        intro j_32
        induction j_32 with
        | zero => intro v3_32 v5_32 v7_32 v8_32 H locs ls h hP hD hS hl; exact loopF_0 h
        | succ j_32 ih_32 =>
          intro v3_32 v5_32 v7_32 v8_32 H locs ls h hP hD hS hl
          have h := loopF_s h
          unfold b_X5_calls_32 at h
          refine lv_iload hx hb (dAt zX5_calls_0 18 rfl) (lv_at hl 5 rfl) ?_
          refine lv_bipush (v := 6) hx hb (dAt zX5_calls_0 19 rfl) (by decide) ?_
          refine lv_icmp_ge (tgt := 86) hx hb (dAt zX5_calls_0 20 rfl) (by decide) (fun c_36 => ?_) (fun c_36 => ?_)
          · have h := q_pos c_36 h
            refine lv_lload_n hx hb (dAt zX5_calls_0 48 rfl) rfl (lv_at hl 2 rfl) ?_
            refine lv_ldc2 (v := 100000) hx hb hown (htl _ W_617) (dAt zX5_calls_0 49 rfl) ?_
            refine lv_iload_n hx hb (dAt zX5_calls_0 50 rfl) rfl (lv_at hl 1 rfl) ?_
            obtain ⟨u91, hu91, h⟩ := q_bind h
            refine xFl (wc := ([] : va_W)) (w1 := ([] : va_W)) (wr := (w5 qX qT qI qJ qP qC qF qA zX ++ (w4 cI qT zT ++ (w4 cI qI zI ++ (w4 cI qJ zJ ++ (w2 cI qP zP ++ (w1 qC qV zC ++ (w4 cI qV zV ++ (w3 cI qF zF ++ (w0 cJ qA zA)))))))))) (ws2 := (w5 qX qT qI qJ qP qC qF qA zX ++ (w4 cI qT zT ++ (w4 cI qI zI ++ (w4 cI qJ zJ ++ (w2 cI qP zP ++ (w1 qC qV zC ++ (w4 cI qV zV ++ (w3 cI qF zF ++ (w0 cJ qA zA)))))))))) (va_runS (As := [.long v3_32, .long 100000, .int a2]) (rest := []) ⟨hx, hb, hml, hown, htl⟩ (c_X5_partOf l D cI cJ cZ n  H.size  v3_32 100000 a2 u91 hu91) (va_cwS 3 htl (gS W_624 W_625 W_2 W_626) rfl rfl rfl (by decide +kernel) ⟨Nat.le_of_ble_eq_true rfl, Nat.le_of_ble_eq_true rfl⟩) (xPS xP0 (xD0 A) hK hN) rfl rfl hl.1 rfl (lv_room (Nat.le_of_ble_eq_true rfl)) (dAt zX5_calls_0 51 rfl) ⟨Nat.zero_le _, Nat.zero_le _⟩) hS hA hP hD [] [0, 1, 2, 3, 4, 5, 6, 7, 8, 9, 10, 11, 12, 13, 14, 15, 16, 17, 18, 19, 20, 21, 22, 23, 24, 25, 26, 27, 28, 29] [0, 1, 2, 3, 4, 5, 6, 7, 8, 9, 10, 11, 12, 13, 14, 15, 16, 17, 18, 19, 20, 21, 22, 23, 24, 25, 26, 27, 28, 29] rfl rfl (by decide) (by decide) rfl (by decide) (fun H locs hP hD hS => ?_)
            obtain rfl := q_some h
            exact xRl hx hb hr hlocks hQ hAe hP hD hK hS rfl (dAt zX5_calls_0 52 rfl)
          · have h := q_neg c_36 h
            refine lv_lload_n hx hb (dAt zX5_calls_0 21 rfl) rfl (lv_at hl 2 rfl) ?_
            refine lv_ldc2 (v := 10) hx hb hown (htl _ W_616) (dAt zX5_calls_0 22 rfl) ?_
            refine lv_lmul hx hb (dAt zX5_calls_0 23 rfl) ?_
            refine lv_lload hx hb (dAt zX5_calls_0 24 rfl) (lv_at hl 3 rfl) ?_
            refine lv_ladd hx hb (dAt zX5_calls_0 25 rfl) ?_
            refine lv_lstore_n (lv' := [(3, .long ((v3_32 * (10 : Int64)) + v5_32)), (1, .int a1), (2, .int a2), (5, .long v5_32), (7, .int v7_32), (8, .int v8_32)]) hx hb (dAt zX5_calls_0 26 rfl) rfl hl (by decide) rfl (fun ls hl => ?_)
            refine lv_iload_n hx hb (dAt zX5_calls_0 27 rfl) rfl (lv_at hl 1 rfl) ?_
            refine lv_iload hx hb (dAt zX5_calls_0 28 rfl) (lv_at hl 4 rfl) ?_
            obtain ⟨u51, hu51, h⟩ := q_bind h
            refine xFi (wc := ([] : va_W)) (w1 := ([] : va_W)) (wr := (w5 qX qT qI qJ qP qC qF qA zX ++ (w4 cI qT zT ++ (w4 cI qI zI ++ (w4 cI qJ zJ ++ (w2 cI qP zP ++ (w1 qC qV zC ++ (w4 cI qV zV ++ (w3 cI qF zF ++ (w0 cJ qA zA)))))))))) (ws2 := (w5 qX qT qI qJ qP qC qF qA zX ++ (w4 cI qT zT ++ (w4 cI qI zI ++ (w4 cI qJ zJ ++ (w2 cI qP zP ++ (w1 qC qV zC ++ (w4 cI qV zV ++ (w3 cI qF zF ++ (w0 cJ qA zA)))))))))) (va_runS (As := [.int a1, .int v7_32]) (rest := []) ⟨hx, hb, hml, hown, htl⟩ (c_X5_likeliest l D cI cJ cZ n  H.size  a1 v7_32 u51 hu51) (va_cwS 2 htl (gS W_618 W_619 W_2 W_620) rfl rfl rfl (by decide +kernel) ⟨Nat.le_of_ble_eq_true rfl, Nat.le_of_ble_eq_true rfl⟩) (xPS xP0 (xD0 A) hK hN) rfl rfl hl.1 rfl (lv_room (Nat.le_of_ble_eq_true rfl)) (dAt zX5_calls_0 29 rfl) ⟨Nat.zero_le _, Nat.zero_le _⟩) hS hA hP hD [] [0, 1, 2, 3, 4, 5, 6, 7, 8, 9, 10, 11, 12, 13, 14, 15, 16, 17, 18, 19, 20, 21, 22, 23, 24, 25, 26, 27, 28, 29] [0, 1, 2, 3, 4, 5, 6, 7, 8, 9, 10, 11, 12, 13, 14, 15, 16, 17, 18, 19, 20, 21, 22, 23, 24, 25, 26, 27, 28, 29] rfl rfl (by decide) (by decide) rfl (by decide) (fun H locs hP hD hS => ?_)
            refine lv_istore (lv' := [(9, .int u51), (3, .long ((v3_32 * (10 : Int64)) + v5_32)), (1, .int a1), (2, .int a2), (5, .long v5_32), (7, .int v7_32), (8, .int v8_32)]) hx hb (dAt zX5_calls_0 30 rfl) hl (by decide) rfl (fun ls hl => ?_)
            refine lv_lload hx hb (dAt zX5_calls_0 31 rfl) (lv_at hl 4 rfl) ?_
            refine lv_bipush (v := 10) hx hb (dAt zX5_calls_0 32 rfl) (by decide) ?_
            refine lv_iload_n hx hb (dAt zX5_calls_0 33 rfl) rfl (lv_at hl 2 rfl) ?_
            refine lv_iload hx hb (dAt zX5_calls_0 34 rfl) (lv_at hl 0 rfl) ?_
            obtain ⟨u63, hu63, h⟩ := q_bind h
            refine xFi (wc := ([] : va_W)) (w1 := ([] : va_W)) (wr := (w5 qX qT qI qJ qP qC qF qA zX ++ (w4 cI qT zT ++ (w4 cI qI zI ++ (w4 cI qJ zJ ++ (w2 cI qP zP ++ (w1 qC qV zC ++ (w4 cI qV zV ++ (w3 cI qF zF ++ (w0 cJ qA zA)))))))))) (ws2 := (w5 qX qT qI qJ qP qC qF qA zX ++ (w4 cI qT zT ++ (w4 cI qI zI ++ (w4 cI qJ zJ ++ (w2 cI qP zP ++ (w1 qC qV zC ++ (w4 cI qV zV ++ (w3 cI qF zF ++ (w0 cJ qA zA)))))))))) (va_runS (As := [.int a1, .int u51]) (rest := [.int 10, .long v5_32]) ⟨hx, hb, hml, hown, htl⟩ (c_X5_digit l D cI cJ cZ n  H.size  a1 u51 u63 hu63) (va_cwS 2 htl (gS W_621 W_622 W_2 W_623) rfl rfl rfl (by decide +kernel) ⟨Nat.le_of_ble_eq_true rfl, Nat.le_of_ble_eq_true rfl⟩) (xPS xP0 (xD0 A) hK hN) rfl rfl hl.1 rfl (lv_room (Nat.le_of_ble_eq_true rfl)) (dAt zX5_calls_0 35 rfl) ⟨Nat.zero_le _, Nat.zero_le _⟩) hS hA hP hD [] [0, 1, 2, 3, 4, 5, 6, 7, 8, 9, 10, 11, 12, 13, 14, 15, 16, 17, 18, 19, 20, 21, 22, 23, 24, 25, 26, 27, 28, 29] [0, 1, 2, 3, 4, 5, 6, 7, 8, 9, 10, 11, 12, 13, 14, 15, 16, 17, 18, 19, 20, 21, 22, 23, 24, 25, 26, 27, 28, 29] rfl rfl (by decide) (by decide) rfl (by decide) (fun H locs hP hD hS => ?_)
            refine lv_isub hx hb (dAt zX5_calls_0 36 rfl) ?_
            refine lv_i2l (v := (Int32.toInt64 ((10 : Int32) - u63))) hx hb (dAt zX5_calls_0 37 rfl) rfl ?_
            refine lv_lmul hx hb (dAt zX5_calls_0 38 rfl) ?_
            refine lv_lstore (lv' := [(5, .long (v5_32 * (Int32.toInt64 ((10 : Int32) - u63)))), (9, .int u51), (3, .long ((v3_32 * (10 : Int64)) + v5_32)), (1, .int a1), (2, .int a2), (7, .int v7_32), (8, .int v8_32)]) hx hb (dAt zX5_calls_0 39 rfl) hl (by decide) rfl (fun ls hl => ?_)
            refine lv_iload hx hb (dAt zX5_calls_0 40 rfl) (lv_at hl 5 rfl) ?_
            refine lv_iconst (v := 1) hx hb (dAt zX5_calls_0 41 rfl) (by decide) ?_
            refine lv_iload hx hb (dAt zX5_calls_0 42 rfl) (lv_at hl 1 rfl) ?_
            refine lv_ishl hx hb (dAt zX5_calls_0 43 rfl) ?_
            refine lv_ior hx hb (dAt zX5_calls_0 44 rfl) ?_
            refine lv_istore (lv' := [(7, .int (v7_32 ||| ((1 : Int32) <<< (u51 &&& 31)))), (5, .long (v5_32 * (Int32.toInt64 ((10 : Int32) - u63)))), (9, .int u51), (3, .long ((v3_32 * (10 : Int64)) + v5_32)), (1, .int a1), (2, .int a2), (8, .int v8_32)]) hx hb (dAt zX5_calls_0 45 rfl) hl (by decide) rfl (fun ls hl => ?_)
            refine lv_iinc (v := (v8_32 + 1)) (lv' := [(8, .int (v8_32 + 1)), (7, .int (v7_32 ||| ((1 : Int32) <<< (u51 &&& 31)))), (5, .long (v5_32 * (Int32.toInt64 ((10 : Int32) - u63)))), (9, .int u51), (3, .long ((v3_32 * (10 : Int64)) + v5_32)), (1, .int a1), (2, .int a2)]) hx hb (dAt zX5_calls_0 46 rfl) hl (k := 6) rfl rfl (by decide) rfl (fun ls hl => ?_)
            refine lv_goto (tgt := 32) hx hb (dAt zX5_calls_0 47 rfl) (by decide) ?_
            exact ih_32 ((v3_32 * (10 : Int64)) + v5_32) (v5_32 * (Int32.toInt64 ((10 : Int32) - u63))) (v7_32 ||| ((1 : Int32) <<< (u51 &&& 31))) (v8_32 + 1) _ _ _ h hP hD hS (lv_sub hl [5, 6, 4, 2, 1, 0] rfl)
      exact L_32 n 0 1 0 0 _ _ _ h hP hD hS (lv_sub hl [5, 6, 3, 2, 1, 0] rfl)
    · have h := q_pos c_14 h
      refine lv_ldc2 (v := (-1000000000000000002)) hx hb hown (htl _ W_615) (dAt zX5_calls_0 8 rfl) ?_
      obtain rfl := q_some h
      exact xRl hx hb hr hlocks hQ hAe hP hD hK hS rfl (dAt zX5_calls_0 9 rfl)
def b_X5_order_20 (n : Nat) (a1 : Int32) (s_20 : Int32 × Int32 × Int32) (k_20 : Int32 × Int32 × Int32 → Option Int32) : Option Int32 := (if 6 ≤ s_20.2.2 then some s_20.1 else ((m_X5_likeliest n  a1 s_20.2.1).bind fun u29 => (k_20 (((s_20.1 * (10 : Int32)) + u29), (s_20.2.1 ||| ((1 : Int32) <<< (u29 &&& 31))), (s_20.2.2 + 1)))))
def m_X5_order (n : Nat) (zX : TI) (zT : TI) (zI : TI) (zJ : TI) (zP : TI) (zC : TI) (zV : TI) (zF : TI) (zA : TL) (a1 : Int32) : Option Int32 := ((m_X5_isWithin n  a1 0 999999).bind fun u4 => (if u4 = 0 then some (-2) else (loopF (b_X5_order_20 n a1 ) n (0, 0, 0))))
set_option maxHeartbeats 4000000 in
set_option maxRecDepth 100000 in
theorem c_X5_order (l : Launch) (D : va_G) (cI cJ cZ : ClassId) (n : Nat) (qX : Nat → Nat) (qT : Nat → Nat) (qI : Nat → Nat) (qJ : Nat → Nat) (qP : Nat → Nat) (qC : Nat → Nat) (qV : Nat → Nat) (qF : Nat → Nat) (qA : Nat → Nat) (sz : Nat) (zX : TI) (zT : TI) (zI : TI) (zJ : TI) (zP : TI) (zC : TI) (zV : TI) (zF : TI) (zA : TL) (a1 : Int32) (out : Int32) (hm : m_X5_order n zX zT zI zJ zP zC zV zF zA a1 = some out) : Met l yX5_order (wsM yX5_order cX5_order 6 (some .int)) { frames := 2, cells := 0, slots := 0, locals := 47 } (xPre D (kT cI cJ cZ) (w5 qX qT qI qJ qP qC qF qA zX ++ (w4 cI qT zT ++ (w4 cI qI zI ++ (w4 cI qJ zJ ++ (w2 cI qP zP ++ (w1 qC qV zC ++ (w4 cI qV zV ++ (w3 cI qF zF ++ (w0 cJ qA zA))))))))) sz [.ref (qX 0), .int a1]) (xQi D (kT cI cJ cZ) (w5 qX qT qI qJ qP qC qF qA zX ++ (w4 cI qT zT ++ (w4 cI qI zI ++ (w4 cI qJ zJ ++ (w2 cI qP zP ++ (w1 qC qV zC ++ (w4 cI qV zV ++ (w3 cI qF zF ++ (w0 cJ qA zA))))))))) (w5 qX qT qI qJ qP qC qF qA zX ++ (w4 cI qT zT ++ (w4 cI qI zI ++ (w4 cI qJ zJ ++ (w2 cI qP zP ++ (w1 qC qV zC ++ (w4 cI qV zV ++ (w3 cI qF zF ++ (w0 cJ qA zA))))))))) sz out) 0 0 (va_A (w5 qX qT qI qJ qP qC qF qA zX ++ (w4 cI qT zT ++ (w4 cI qI zI ++ (w4 cI qJ zJ ++ (w2 cI qP zP ++ (w1 qC qV zC ++ (w4 cI qV zV ++ (w3 cI qF zF ++ (w0 cJ qA zA))))))))) sz) := by
  refine Met.ofW (cc := cX5_order) (maxL := 6) (ret := (some .int)) (by decide) rfl ?_
  intro p e s m args below meth c s₁ B hml hv
  obtain ⟨hv, hsz, hP, hK, hD0, hN⟩ := hv
  have hx := B.exec; have hb := B.bytes; have hr := B.returns
  have hts := atoms_spec (ws := (wsM yX5_order cX5_order 6 (some .int))) B.pre
  have hown : s.vm.findClass RX5 = some m.cls := findClass_of_methodNamed B.named
  have hlocks := B.notSynchronized
  subst hsz
  have hD := hD0.self (sz := s.heap.size)
  obtain ⟨A, hAe⟩ : ∃ A, A = va_A (w5 qX qT qI qJ qP qC qF qA zX ++ (w4 cI qT zT ++ (w4 cI qI zI ++ (w4 cI qJ zJ ++ (w2 cI qP zP ++ (w1 qC qV zC ++ (w4 cI qV zV ++ (w3 cI qF zF ++ (w0 cJ qA zA))))))))) s.heap.size := ⟨_, rfl⟩
  rw [← hAe] at hD
  have hA : ∀ q : Nat, s.heap.size ≤ q → A q := fun q h => by rw [hAe]; exact Or.inr h
  have htl : ∀ w ∈ wsL_law, w.before args s = true := fun w h => hts w (List.mem_cons_of_mem _ h)
  refine xHead (R' := { frames := 2, cells := 0, slots := 0, locals := 47 }) rfl (fun Q H hQ hH => ?_)
  have hP : va_P D vwCl (w5 qX qT qI qJ qP qC qF qA zX ++ (w4 cI qT zT ++ (w4 cI qI zI ++ (w4 cI qJ zJ ++ (w2 cI qP zP ++ (w1 qC qV zC ++ (w4 cI qV zV ++ (w3 cI qF zF ++ (w0 cJ qA zA))))))))) H := by rw [hH]; exact hP
  have hS : va_S A s.heap H [] := by rw [hH]; exact va_S.rf
  refine xStart hv (Nat.le_of_ble_eq_true rfl) (lv := [(0, .ref (qX 0)), (1, .int a1)]) rfl (fun ls hl => ?_)
  have h := hm
  unfold m_X5_order at h
  refine lv_iload_n hx hb (dAt zX5_order_0 0 rfl) rfl (lv_at hl 1 rfl) ?_
  refine lv_iconst (v := 0) hx hb (dAt zX5_order_0 1 rfl) (by decide) ?_
  refine lv_ldc (v := 999999) hx hb hown (htl _ W_614) (dAt zX5_order_0 2 rfl) ?_
  obtain ⟨u4, hu4, h⟩ := q_bind h
  refine xFz (wc := ([] : va_W)) (w1 := ([] : va_W)) (wr := (w5 qX qT qI qJ qP qC qF qA zX ++ (w4 cI qT zT ++ (w4 cI qI zI ++ (w4 cI qJ zJ ++ (w2 cI qP zP ++ (w1 qC qV zC ++ (w4 cI qV zV ++ (w3 cI qF zF ++ (w0 cJ qA zA)))))))))) (ws2 := (w5 qX qT qI qJ qP qC qF qA zX ++ (w4 cI qT zT ++ (w4 cI qI zI ++ (w4 cI qJ zJ ++ (w2 cI qP zP ++ (w1 qC qV zC ++ (w4 cI qV zV ++ (w3 cI qF zF ++ (w0 cJ qA zA)))))))))) (va_runS (As := [.int a1, .int 0, .int 999999]) (rest := []) ⟨hx, hb, hml, hown, htl⟩ (c_X5_isWithin l D cI cJ cZ n  H.size  a1 0 999999 u4 hu4) (va_cwS 3 htl (gS W_110 W_111 W_2 W_112) rfl rfl rfl (by decide +kernel) ⟨Nat.le_of_ble_eq_true rfl, Nat.le_of_ble_eq_true rfl⟩) (xPS xP0 (xD0 A) hK hN) rfl rfl hl.1 rfl (lv_room (Nat.le_of_ble_eq_true rfl)) (dAt zX5_order_0 3 rfl) ⟨Nat.zero_le _, Nat.zero_le _⟩) hS hA hP hD [] [0, 1, 2, 3, 4, 5, 6, 7, 8, 9, 10, 11, 12, 13, 14, 15, 16, 17, 18, 19, 20, 21, 22, 23, 24, 25, 26, 27, 28, 29] [0, 1, 2, 3, 4, 5, 6, 7, 8, 9, 10, 11, 12, 13, 14, 15, 16, 17, 18, 19, 20, 21, 22, 23, 24, 25, 26, 27, 28, 29] rfl rfl (by decide) (by decide) rfl (by decide) (fun H locs hz4 hP hD hS => ?_)
  refine lv_if_ne (tgt := 13) hx hb (dAt zX5_order_0 4 rfl) (by decide) (fun c_7 => ?_) (fun c_7 => ?_)
  · have h := q_neg c_7 h
    refine lv_iconst (v := 0) hx hb (dAt zX5_order_0 7 rfl) (by decide) ?_
    refine lv_istore_n (lv' := [(2, .int 0), (0, .ref (qX 0)), (1, .int a1)]) hx hb (dAt zX5_order_0 8 rfl) rfl hl (by decide) rfl (fun ls hl => ?_)
    refine lv_iconst (v := 0) hx hb (dAt zX5_order_0 9 rfl) (by decide) ?_
    refine lv_istore_n (lv' := [(3, .int 0), (2, .int 0), (0, .ref (qX 0)), (1, .int a1)]) hx hb (dAt zX5_order_0 10 rfl) rfl hl (by decide) rfl (fun ls hl => ?_)
    refine lv_iconst (v := 0) hx hb (dAt zX5_order_0 11 rfl) (by decide) ?_
    refine lv_istore (lv' := [(4, .int 0), (3, .int 0), (2, .int 0), (0, .ref (qX 0)), (1, .int a1)]) hx hb (dAt zX5_order_0 12 rfl) hl (by decide) rfl (fun ls hl => ?_)
    have L_20 : ∀ (j_20 : Nat) (v2_20 : Int32) (v3_20 : Int32) (v4_20 : Int32) (H : Heap) (locs : List Loc) (ls : Array Slot), loopF (b_X5_order_20 n a1) j_20 (v2_20, v3_20, v4_20) = some out → va_P D vwCl (w5 qX qT qI qJ qP qC qF qA zX ++ (w4 cI qT zT ++ (w4 cI qI zI ++ (w4 cI qJ zJ ++ (w2 cI qP zP ++ (w1 qC qV zC ++ (w4 cI qV zV ++ (w3 cI qF zF ++ (w0 cJ qA zA))))))))) H → va_D A (w5 qX qT qI qJ qP qC qF qA zX ++ (w4 cI qT zT ++ (w4 cI qI zI ++ (w4 cI qJ zJ ++ (w2 cI qP zP ++ (w1 qC qV zC ++ (w4 cI qV zV ++ (w3 cI qF zF ++ (w0 cJ qA zA))))))))) → va_S A s.heap H locs → lv_has ls 6 [(1, .int a1), (2, .int v2_20), (3, .int v3_20), (4, .int v4_20)] → W p l e { frames := 2, cells := 0, slots := 0, locals := 47 } s m args below meth c H locs 0 0 Q (F0 m 20 ls []) := by
      intro j_20
      induction j_20 with
      | zero => intro v2_20 v3_20 v4_20 H locs ls h hP hD hS hl; exact loopF_0 h
      | succ j_20 ih_20 =>
        intro v2_20 v3_20 v4_20 H locs ls h hP hD hS hl
        have h := loopF_s h
        unfold b_X5_order_20 at h
        refine lv_iload hx hb (dAt zX5_order_0 13 rfl) (lv_at hl 3 rfl) ?_
        refine lv_bipush (v := 6) hx hb (dAt zX5_order_0 14 rfl) (by decide) ?_
        refine lv_icmp_ge (tgt := 55) hx hb (dAt zX5_order_0 15 rfl) (by decide) (fun c_24 => ?_) (fun c_24 => ?_)
        · have h := q_pos c_24 h
          refine lv_iload_n hx hb (dAt zX5_order_0 34 rfl) rfl (lv_at hl 1 rfl) ?_
          obtain rfl := q_some h
          exact xRi hx hb hr hlocks hQ hAe hP hD hK hS rfl (dAt zX5_order_0 35 rfl)
        · have h := q_neg c_24 h
          refine lv_iload_n hx hb (dAt zX5_order_0 16 rfl) rfl (lv_at hl 0 rfl) ?_
          refine lv_iload_n hx hb (dAt zX5_order_0 17 rfl) rfl (lv_at hl 2 rfl) ?_
          obtain ⟨u29, hu29, h⟩ := q_bind h
          refine xFi (wc := ([] : va_W)) (w1 := ([] : va_W)) (wr := (w5 qX qT qI qJ qP qC qF qA zX ++ (w4 cI qT zT ++ (w4 cI qI zI ++ (w4 cI qJ zJ ++ (w2 cI qP zP ++ (w1 qC qV zC ++ (w4 cI qV zV ++ (w3 cI qF zF ++ (w0 cJ qA zA)))))))))) (ws2 := (w5 qX qT qI qJ qP qC qF qA zX ++ (w4 cI qT zT ++ (w4 cI qI zI ++ (w4 cI qJ zJ ++ (w2 cI qP zP ++ (w1 qC qV zC ++ (w4 cI qV zV ++ (w3 cI qF zF ++ (w0 cJ qA zA)))))))))) (va_runS (As := [.int a1, .int v3_20]) (rest := []) ⟨hx, hb, hml, hown, htl⟩ (c_X5_likeliest l D cI cJ cZ n  H.size  a1 v3_20 u29 hu29) (va_cwS 2 htl (gS W_618 W_619 W_2 W_620) rfl rfl rfl (by decide +kernel) ⟨Nat.le_of_ble_eq_true rfl, Nat.le_of_ble_eq_true rfl⟩) (xPS xP0 (xD0 A) hK hN) rfl rfl hl.1 rfl (lv_room (Nat.le_of_ble_eq_true rfl)) (dAt zX5_order_0 18 rfl) ⟨Nat.zero_le _, Nat.zero_le _⟩) hS hA hP hD [] [0, 1, 2, 3, 4, 5, 6, 7, 8, 9, 10, 11, 12, 13, 14, 15, 16, 17, 18, 19, 20, 21, 22, 23, 24, 25, 26, 27, 28, 29] [0, 1, 2, 3, 4, 5, 6, 7, 8, 9, 10, 11, 12, 13, 14, 15, 16, 17, 18, 19, 20, 21, 22, 23, 24, 25, 26, 27, 28, 29] rfl rfl (by decide) (by decide) rfl (by decide) (fun H locs hP hD hS => ?_)
          refine lv_istore (lv' := [(5, .int u29), (1, .int a1), (2, .int v2_20), (3, .int v3_20), (4, .int v4_20)]) hx hb (dAt zX5_order_0 19 rfl) hl (by decide) rfl (fun ls hl => ?_)
          refine lv_iload_n hx hb (dAt zX5_order_0 20 rfl) rfl (lv_at hl 2 rfl) ?_
          refine lv_bipush (v := 10) hx hb (dAt zX5_order_0 21 rfl) (by decide) ?_
          refine lv_imul hx hb (dAt zX5_order_0 22 rfl) ?_
          refine lv_iload hx hb (dAt zX5_order_0 23 rfl) (lv_at hl 0 rfl) ?_
          refine lv_iadd hx hb (dAt zX5_order_0 24 rfl) ?_
          refine lv_istore_n (lv' := [(2, .int ((v2_20 * (10 : Int32)) + u29)), (5, .int u29), (1, .int a1), (3, .int v3_20), (4, .int v4_20)]) hx hb (dAt zX5_order_0 25 rfl) rfl hl (by decide) rfl (fun ls hl => ?_)
          refine lv_iload_n hx hb (dAt zX5_order_0 26 rfl) rfl (lv_at hl 3 rfl) ?_
          refine lv_iconst (v := 1) hx hb (dAt zX5_order_0 27 rfl) (by decide) ?_
          refine lv_iload hx hb (dAt zX5_order_0 28 rfl) (lv_at hl 1 rfl) ?_
          refine lv_ishl hx hb (dAt zX5_order_0 29 rfl) ?_
          refine lv_ior hx hb (dAt zX5_order_0 30 rfl) ?_
          refine lv_istore_n (lv' := [(3, .int (v3_20 ||| ((1 : Int32) <<< (u29 &&& 31)))), (2, .int ((v2_20 * (10 : Int32)) + u29)), (5, .int u29), (1, .int a1), (4, .int v4_20)]) hx hb (dAt zX5_order_0 31 rfl) rfl hl (by decide) rfl (fun ls hl => ?_)
          refine lv_iinc (v := (v4_20 + 1)) (lv' := [(4, .int (v4_20 + 1)), (3, .int (v3_20 ||| ((1 : Int32) <<< (u29 &&& 31)))), (2, .int ((v2_20 * (10 : Int32)) + u29)), (5, .int u29), (1, .int a1)]) hx hb (dAt zX5_order_0 32 rfl) hl (k := 4) rfl rfl (by decide) rfl (fun ls hl => ?_)
          refine lv_goto (tgt := 20) hx hb (dAt zX5_order_0 33 rfl) (by decide) ?_
          exact ih_20 ((v2_20 * (10 : Int32)) + u29) (v3_20 ||| ((1 : Int32) <<< (u29 &&& 31))) (v4_20 + 1) _ _ _ h hP hD hS (lv_sub hl [4, 2, 1, 0] rfl)
    exact L_20 n 0 0 0 _ _ _ h hP hD hS (lv_sub hl [4, 2, 1, 0] rfl)
  · have h := q_pos c_7 h
    refine lv_bipush (v := (-2)) hx hb (dAt zX5_order_0 5 rfl) (by decide) ?_
    obtain rfl := q_some h
    exact xRi hx hb hr hlocks hQ hAe hP hD hK hS rfl (dAt zX5_order_0 6 rfl)
def m_X4_addSight (n : Nat) (zT : TI) (a1 : Int32) (a2 : Int32) : Option (Int32 × TI) := (if (zT 0 3) < 0 then some (0, zT) else (if (zT 0 3) < 8 then (gd (inB (zT 0 3) 8) ((if a2 = 0 then some (1, (sf (upA zT 9 (upd (zT 9) (Int32.toNatClampNeg (zT 0 3)) a1)) 3 ((zT 0 3) + (1 : Int32)))) else some (1, (sf (sf (upA zT 9 (upd (zT 9) (Int32.toNatClampNeg (zT 0 3)) a1)) 3 ((zT 0 3) + (1 : Int32))) 4 ((zT 0 4) ||| ((1 : Int32) <<< ((zT 0 3) &&& 31)))))))) else some (0, zT)))
set_option maxHeartbeats 4000000 in
set_option maxRecDepth 100000 in
theorem c_X4_addSight (l : Launch) (D : va_G) (cI cJ cZ : ClassId) (n : Nat) (qT : Nat → Nat) (sz : Nat) (zT : TI) (a1 : Int32) (a2 : Int32) (out : Int32 × TI) (hm : m_X4_addSight n zT a1 a2 = some out) : Met l yX4_addSight (wsM yX4_addSight cX4_addSight 3 (some .boolean)) { frames := 0, cells := 0, slots := 0, locals := 0 } (xPre D (kT cI cJ cZ) (w4 cI qT zT) sz [.ref (qT 0), .int a1, .int a2]) (xQz D (kT cI cJ cZ) (w4 cI qT zT) (w4 cI qT out.2) sz out.1) 0 0 (va_A (w4 cI qT zT) sz) := by
  refine Met.ofW (cc := cX4_addSight) (maxL := 3) (ret := (some .boolean)) (by decide) rfl ?_
  intro p e s m args below meth c s₁ B hml hv
  obtain ⟨hv, hsz, hP, hK, hD0, hN⟩ := hv
  have hx := B.exec; have hb := B.bytes; have hr := B.returns
  have hts := atoms_spec (ws := (wsM yX4_addSight cX4_addSight 3 (some .boolean))) B.pre
  have hown : s.vm.findClass RX4 = some m.cls := findClass_of_methodNamed B.named
  have hlocks := B.notSynchronized
  subst hsz
  have hD := hD0.self (sz := s.heap.size)
  obtain ⟨A, hAe⟩ : ∃ A, A = va_A (w4 cI qT zT) s.heap.size := ⟨_, rfl⟩
  rw [← hAe] at hD
  have hA : ∀ q : Nat, s.heap.size ≤ q → A q := fun q h => by rw [hAe]; exact Or.inr h
  have htl : ∀ w ∈ wsL_law, w.before args s = true := fun w h => hts w (List.mem_cons_of_mem _ h)
  refine xHead (R' := { frames := 0, cells := 0, slots := 0, locals := 0 }) rfl (fun Q H hQ hH => ?_)
  have hP : va_P D vwCl (w4 cI qT zT) H := by rw [hH]; exact hP
  have hS : va_S A s.heap H [] := by rw [hH]; exact va_S.rf
  refine xStart hv (Nat.le_of_ble_eq_true rfl) (lv := [(0, .ref (qT 0)), (1, .int a1), (2, .int a2)]) rfl (fun ls hl => ?_)
  have h := hm
  unfold m_X4_addSight at h
  refine lv_aload_n hx hb (dAt zX4_addSight_0 0 rfl) rfl (lv_at hl 0 rfl) ?_
  refine va_get (D := D) (ci := 4) (v := .int (zT 0 3)) (C := RX4) (T := TX4) (N := 9) hx hb htl inlX4 hown hK hP 0 rfl rfl 3 (by decide) (htl _ W_42) (fun _ h9 => h9) rfl (dAt zX4_addSight_0 1 rfl) ?_
  refine lv_if_lt (tgt := 19) hx hb (dAt zX4_addSight_0 2 rfl) (by decide) (fun c_4 => ?_) (fun c_4 => ?_)
  · have h := q_pos c_4 h
    refine lv_iconst (v := 0) hx hb (dAt zX4_addSight_0 9 rfl) (by decide) ?_
    obtain rfl := q_some h
    exact xRz hx hb hr hlocks hQ hAe hP hD hK hS rfl rfl (dAt zX4_addSight_0 10 rfl)
  · have h := q_neg c_4 h
    refine lv_aload_n hx hb (dAt zX4_addSight_0 3 rfl) rfl (lv_at hl 0 rfl) ?_
    refine va_get (D := D) (ci := 4) (v := .int (zT 0 3)) (C := RX4) (T := TX4) (N := 9) hx hb htl inlX4 hown hK hP 0 rfl rfl 3 (by decide) (htl _ W_42) (fun _ h9 => h9) rfl (dAt zX4_addSight_0 4 rfl) ?_
    refine lv_aload_n hx hb (dAt zX4_addSight_0 5 rfl) rfl (lv_at hl 0 rfl) ?_
    refine va_get (D := D) (ci := 4) (v := .ref (qT 9)) (C := RX4) (T := TX4) (N := 9) hx hb htl inlX4 hown hK hP 0 rfl rfl 8 (by decide) (htl _ W_48) (fun _ h9 => h9) rfl (dAt zX4_addSight_0 6 rfl) ?_
    refine va_alen (ty := .int) (v := 8) hx hb hK hP 4 0 rfl rfl rfl (dAt zX4_addSight_0 7 rfl) ?_
    refine lv_icmp_lt (tgt := 21) hx hb (dAt zX4_addSight_0 8 rfl) (by decide) (fun c_16 => ?_) (fun c_16 => ?_)
    · have h := q_pos c_16 h
      refine lv_aload_n hx hb (dAt zX4_addSight_0 11 rfl) rfl (lv_at hl 0 rfl) ?_
      refine va_get (D := D) (ci := 4) (v := .ref (qT 9)) (C := RX4) (T := TX4) (N := 9) hx hb htl inlX4 hown hK hP 0 rfl rfl 8 (by decide) (htl _ W_48) (fun _ h9 => h9) rfl (dAt zX4_addSight_0 12 rfl) ?_
      refine lv_aload_n hx hb (dAt zX4_addSight_0 13 rfl) rfl (lv_at hl 0 rfl) ?_
      refine va_get (D := D) (ci := 4) (v := .int (zT 0 3)) (C := RX4) (T := TX4) (N := 9) hx hb htl inlX4 hown hK hP 0 rfl rfl 3 (by decide) (htl _ W_42) (fun _ h9 => h9) rfl (dAt zX4_addSight_0 14 rfl) ?_
      refine lv_iload_n hx hb (dAt zX4_addSight_0 15 rfl) rfl (lv_at hl 1 rfl) ?_
      obtain ⟨hi_30, h⟩ := q_in h
      refine va_iast hx hb hK hP hD hS 4 0 rfl rfl hi_30 (dAt zX4_addSight_0 16 rfl) (fun H locs hP hD hS => ?_)
      have hP : va_P D vwCl (w4x cI qT (zT 0 0) (zT 0 1) (zT 0 2) (zT 0 3) (zT 0 4) (zT 6) (zT 7) (zT 8) (upd (zT 9) (Int32.toNatClampNeg (zT 0 3)) a1)) H := hP
      have hD : va_D A (w4x cI qT (zT 0 0) (zT 0 1) (zT 0 2) (zT 0 3) (zT 0 4) (zT 6) (zT 7) (zT 8) (upd (zT 9) (Int32.toNatClampNeg (zT 0 3)) a1)) := hD
      refine lv_iload_n hx hb (dAt zX4_addSight_0 17 rfl) rfl (lv_at hl 2 rfl) ?_
      refine lv_if_eq (tgt := 50) hx hb (dAt zX4_addSight_0 18 rfl) (by decide) (fun c_32 => ?_) (fun c_32 => ?_)
      · have h := q_pos c_32 h
        refine lv_aload_n hx hb (dAt zX4_addSight_0 28 rfl) rfl (lv_at hl 0 rfl) ?_
        refine lv_dup hx hb (dAt zX4_addSight_0 29 rfl) rfl ?_
        refine va_get (D := D) (ci := 4) (v := .int (zT 0 3)) (C := RX4) (T := TX4) (N := 9) hx hb htl inlX4 hown hK hP 0 rfl rfl 3 (by decide) (htl _ W_42) (fun _ h9 => h9) rfl (dAt zX4_addSight_0 30 rfl) ?_
        refine lv_iconst (v := 1) hx hb (dAt zX4_addSight_0 31 rfl) (by decide) ?_
        refine lv_iadd hx hb (dAt zX4_addSight_0 32 rfl) ?_
        refine va_put (D := D) (ci := 4) (v := .int ((zT 0 3) + (1 : Int32))) (ty := .int) (C := RX4) (T := TX4) (N := 9) hx hb htl inlX4 tyX4 tyX4_ok nmX4 hown hK hP hD hS 0 rfl rfl 3 (by decide) (htl _ W_42) (fun _ h9 => h9) rfl (by decide +kernel) rfl rfl (Nat.le_of_ble_eq_true rfl) (dAt zX4_addSight_0 33 rfl) (fun H locs hP hD hS => ?_)
        have hP : va_P D vwCl (w4x cI qT (zT 0 0) (zT 0 1) (zT 0 2) ((zT 0 3) + (1 : Int32)) (zT 0 4) (zT 6) (zT 7) (zT 8) (upd (zT 9) (Int32.toNatClampNeg (zT 0 3)) a1)) H := hP
        have hD : va_D A (w4x cI qT (zT 0 0) (zT 0 1) (zT 0 2) ((zT 0 3) + (1 : Int32)) (zT 0 4) (zT 6) (zT 7) (zT 8) (upd (zT 9) (Int32.toNatClampNeg (zT 0 3)) a1)) := hD
        refine lv_iconst (v := 1) hx hb (dAt zX4_addSight_0 34 rfl) (by decide) ?_
        have hP : va_P D vwCl (w4 cI qT (sf (upA zT 9 (upd (zT 9) (Int32.toNatClampNeg (zT 0 3)) a1)) 3 ((zT 0 3) + (1 : Int32)))) H := hP
        have hD : va_D A (w4 cI qT (sf (upA zT 9 (upd (zT 9) (Int32.toNatClampNeg (zT 0 3)) a1)) 3 ((zT 0 3) + (1 : Int32)))) := hD
        obtain rfl := q_some h
        exact xRz hx hb hr hlocks hQ hAe hP hD hK hS rfl rfl (dAt zX4_addSight_0 35 rfl)
      · have h := q_neg c_32 h
        refine lv_aload_n hx hb (dAt zX4_addSight_0 19 rfl) rfl (lv_at hl 0 rfl) ?_
        refine lv_dup hx hb (dAt zX4_addSight_0 20 rfl) rfl ?_
        refine va_get (D := D) (ci := 4) (v := .int (zT 0 4)) (C := RX4) (T := TX4) (N := 9) hx hb htl inlX4 hown hK hP 0 rfl rfl 4 (by decide) (htl _ W_43) (fun _ h9 => h9) rfl (dAt zX4_addSight_0 21 rfl) ?_
        refine lv_iconst (v := 1) hx hb (dAt zX4_addSight_0 22 rfl) (by decide) ?_
        refine lv_aload_n hx hb (dAt zX4_addSight_0 23 rfl) rfl (lv_at hl 0 rfl) ?_
        refine va_get (D := D) (ci := 4) (v := .int (zT 0 3)) (C := RX4) (T := TX4) (N := 9) hx hb htl inlX4 hown hK hP 0 rfl rfl 3 (by decide) (htl _ W_42) (fun _ h9 => h9) rfl (dAt zX4_addSight_0 24 rfl) ?_
        refine lv_ishl hx hb (dAt zX4_addSight_0 25 rfl) ?_
        refine lv_ior hx hb (dAt zX4_addSight_0 26 rfl) ?_
        refine va_put (D := D) (ci := 4) (v := .int ((zT 0 4) ||| ((1 : Int32) <<< ((zT 0 3) &&& 31)))) (ty := .int) (C := RX4) (T := TX4) (N := 9) hx hb htl inlX4 tyX4 tyX4_ok nmX4 hown hK hP hD hS 0 rfl rfl 4 (by decide) (htl _ W_43) (fun _ h9 => h9) rfl (by decide +kernel) rfl rfl (Nat.le_of_ble_eq_true rfl) (dAt zX4_addSight_0 27 rfl) (fun H locs hP hD hS => ?_)
        have hP : va_P D vwCl (w4x cI qT (zT 0 0) (zT 0 1) (zT 0 2) (zT 0 3) ((zT 0 4) ||| ((1 : Int32) <<< ((zT 0 3) &&& 31))) (zT 6) (zT 7) (zT 8) (upd (zT 9) (Int32.toNatClampNeg (zT 0 3)) a1)) H := hP
        have hD : va_D A (w4x cI qT (zT 0 0) (zT 0 1) (zT 0 2) (zT 0 3) ((zT 0 4) ||| ((1 : Int32) <<< ((zT 0 3) &&& 31))) (zT 6) (zT 7) (zT 8) (upd (zT 9) (Int32.toNatClampNeg (zT 0 3)) a1)) := hD
        refine lv_aload_n hx hb (dAt zX4_addSight_0 28 rfl) rfl (lv_at hl 0 rfl) ?_
        refine lv_dup hx hb (dAt zX4_addSight_0 29 rfl) rfl ?_
        refine va_get (D := D) (ci := 4) (v := .int (zT 0 3)) (C := RX4) (T := TX4) (N := 9) hx hb htl inlX4 hown hK hP 0 rfl rfl 3 (by decide) (htl _ W_42) (fun _ h9 => h9) rfl (dAt zX4_addSight_0 30 rfl) ?_
        refine lv_iconst (v := 1) hx hb (dAt zX4_addSight_0 31 rfl) (by decide) ?_
        refine lv_iadd hx hb (dAt zX4_addSight_0 32 rfl) ?_
        refine va_put (D := D) (ci := 4) (v := .int ((zT 0 3) + (1 : Int32))) (ty := .int) (C := RX4) (T := TX4) (N := 9) hx hb htl inlX4 tyX4 tyX4_ok nmX4 hown hK hP hD hS 0 rfl rfl 3 (by decide) (htl _ W_42) (fun _ h9 => h9) rfl (by decide +kernel) rfl rfl (Nat.le_of_ble_eq_true rfl) (dAt zX4_addSight_0 33 rfl) (fun H locs hP hD hS => ?_)
        have hP : va_P D vwCl (w4x cI qT (zT 0 0) (zT 0 1) (zT 0 2) ((zT 0 3) + (1 : Int32)) ((zT 0 4) ||| ((1 : Int32) <<< ((zT 0 3) &&& 31))) (zT 6) (zT 7) (zT 8) (upd (zT 9) (Int32.toNatClampNeg (zT 0 3)) a1)) H := hP
        have hD : va_D A (w4x cI qT (zT 0 0) (zT 0 1) (zT 0 2) ((zT 0 3) + (1 : Int32)) ((zT 0 4) ||| ((1 : Int32) <<< ((zT 0 3) &&& 31))) (zT 6) (zT 7) (zT 8) (upd (zT 9) (Int32.toNatClampNeg (zT 0 3)) a1)) := hD
        refine lv_iconst (v := 1) hx hb (dAt zX4_addSight_0 34 rfl) (by decide) ?_
        have hP : va_P D vwCl (w4 cI qT (sf (sf (upA zT 9 (upd (zT 9) (Int32.toNatClampNeg (zT 0 3)) a1)) 3 ((zT 0 3) + (1 : Int32))) 4 ((zT 0 4) ||| ((1 : Int32) <<< ((zT 0 3) &&& 31))))) H := hP
        have hD : va_D A (w4 cI qT (sf (sf (upA zT 9 (upd (zT 9) (Int32.toNatClampNeg (zT 0 3)) a1)) 3 ((zT 0 3) + (1 : Int32))) 4 ((zT 0 4) ||| ((1 : Int32) <<< ((zT 0 3) &&& 31))))) := hD
        obtain rfl := q_some h
        exact xRz hx hb hr hlocks hQ hAe hP hD hK hS rfl rfl (dAt zX4_addSight_0 35 rfl)
    · have h := q_neg c_16 h
      refine lv_iconst (v := 0) hx hb (dAt zX4_addSight_0 9 rfl) (by decide) ?_
      obtain rfl := q_some h
      exact xRz hx hb hr hlocks hQ hAe hP hD hK hS rfl rfl (dAt zX4_addSight_0 10 rfl)
def m_X5_rung (n : Nat) (zX : TI) (zT : TI) (zI : TI) (zJ : TI) (zP : TI) (zC : TI) (zV : TI) (zF : TI) (zA : TL) (a1 : Int32) (a2 : Int32) : Option (Int32 × TI) := ((m_X5_isOne n  a1).bind fun u1 => (if u1 = 0 then some ((-1), zT) else ((m_X4_addSight n zT a1 a2).bind fun u15 => (if u15.1 = 0 then some ((-4), u15.2) else some ((u15.2 0 3), u15.2)))))
set_option maxHeartbeats 4000000 in
set_option maxRecDepth 100000 in
theorem c_X5_rung (l : Launch) (D : va_G) (cI cJ cZ : ClassId) (n : Nat) (qX : Nat → Nat) (qT : Nat → Nat) (qI : Nat → Nat) (qJ : Nat → Nat) (qP : Nat → Nat) (qC : Nat → Nat) (qV : Nat → Nat) (qF : Nat → Nat) (qA : Nat → Nat) (sz : Nat) (zX : TI) (zT : TI) (zI : TI) (zJ : TI) (zP : TI) (zC : TI) (zV : TI) (zF : TI) (zA : TL) (a1 : Int32) (a2 : Int32) (out : Int32 × TI) (hm : m_X5_rung n zX zT zI zJ zP zC zV zF zA a1 a2 = some out) : Met l yX5_rung (wsM yX5_rung cX5_rung 3 (some .int)) { frames := 1, cells := 0, slots := 0, locals := 22 } (xPre D (kT cI cJ cZ) (w5 qX qT qI qJ qP qC qF qA zX ++ (w4 cI qT zT ++ (w4 cI qI zI ++ (w4 cI qJ zJ ++ (w2 cI qP zP ++ (w1 qC qV zC ++ (w4 cI qV zV ++ (w3 cI qF zF ++ (w0 cJ qA zA))))))))) sz [.ref (qX 0), .int a1, .int a2]) (xQi D (kT cI cJ cZ) (w5 qX qT qI qJ qP qC qF qA zX ++ (w4 cI qT zT ++ (w4 cI qI zI ++ (w4 cI qJ zJ ++ (w2 cI qP zP ++ (w1 qC qV zC ++ (w4 cI qV zV ++ (w3 cI qF zF ++ (w0 cJ qA zA))))))))) (w5 qX qT qI qJ qP qC qF qA zX ++ (w4 cI qT out.2 ++ (w4 cI qI zI ++ (w4 cI qJ zJ ++ (w2 cI qP zP ++ (w1 qC qV zC ++ (w4 cI qV zV ++ (w3 cI qF zF ++ (w0 cJ qA zA))))))))) sz out.1) 0 0 (va_A (w5 qX qT qI qJ qP qC qF qA zX ++ (w4 cI qT zT ++ (w4 cI qI zI ++ (w4 cI qJ zJ ++ (w2 cI qP zP ++ (w1 qC qV zC ++ (w4 cI qV zV ++ (w3 cI qF zF ++ (w0 cJ qA zA))))))))) sz) := by
  refine Met.ofW (cc := cX5_rung) (maxL := 3) (ret := (some .int)) (by decide) rfl ?_
  intro p e s m args below meth c s₁ B hml hv
  obtain ⟨hv, hsz, hP, hK, hD0, hN⟩ := hv
  have hx := B.exec; have hb := B.bytes; have hr := B.returns
  have hts := atoms_spec (ws := (wsM yX5_rung cX5_rung 3 (some .int))) B.pre
  have hown : s.vm.findClass RX5 = some m.cls := findClass_of_methodNamed B.named
  have hlocks := B.notSynchronized
  subst hsz
  have hD := hD0.self (sz := s.heap.size)
  obtain ⟨A, hAe⟩ : ∃ A, A = va_A (w5 qX qT qI qJ qP qC qF qA zX ++ (w4 cI qT zT ++ (w4 cI qI zI ++ (w4 cI qJ zJ ++ (w2 cI qP zP ++ (w1 qC qV zC ++ (w4 cI qV zV ++ (w3 cI qF zF ++ (w0 cJ qA zA))))))))) s.heap.size := ⟨_, rfl⟩
  rw [← hAe] at hD
  have hA : ∀ q : Nat, s.heap.size ≤ q → A q := fun q h => by rw [hAe]; exact Or.inr h
  have htl : ∀ w ∈ wsL_law, w.before args s = true := fun w h => hts w (List.mem_cons_of_mem _ h)
  refine xHead (R' := { frames := 1, cells := 0, slots := 0, locals := 22 }) rfl (fun Q H hQ hH => ?_)
  have hP : va_P D vwCl (w5 qX qT qI qJ qP qC qF qA zX ++ (w4 cI qT zT ++ (w4 cI qI zI ++ (w4 cI qJ zJ ++ (w2 cI qP zP ++ (w1 qC qV zC ++ (w4 cI qV zV ++ (w3 cI qF zF ++ (w0 cJ qA zA))))))))) H := by rw [hH]; exact hP
  have hS : va_S A s.heap H [] := by rw [hH]; exact va_S.rf
  refine xStart hv (Nat.le_of_ble_eq_true rfl) (lv := [(0, .ref (qX 0)), (1, .int a1), (2, .int a2)]) rfl (fun ls hl => ?_)
  have h := hm
  unfold m_X5_rung at h
  refine lv_iload_n hx hb (dAt zX5_rung_0 0 rfl) rfl (lv_at hl 1 rfl) ?_
  obtain ⟨u1, hu1, h⟩ := q_bind h
  refine xFz (wc := ([] : va_W)) (w1 := ([] : va_W)) (wr := (w5 qX qT qI qJ qP qC qF qA zX ++ (w4 cI qT zT ++ (w4 cI qI zI ++ (w4 cI qJ zJ ++ (w2 cI qP zP ++ (w1 qC qV zC ++ (w4 cI qV zV ++ (w3 cI qF zF ++ (w0 cJ qA zA)))))))))) (ws2 := (w5 qX qT qI qJ qP qC qF qA zX ++ (w4 cI qT zT ++ (w4 cI qI zI ++ (w4 cI qJ zJ ++ (w2 cI qP zP ++ (w1 qC qV zC ++ (w4 cI qV zV ++ (w3 cI qF zF ++ (w0 cJ qA zA)))))))))) (va_runS (As := [.int a1]) (rest := []) ⟨hx, hb, hml, hown, htl⟩ (c_X5_isOne l D cI cJ cZ n  H.size  a1 u1 hu1) (va_cwS 1 htl (gS W_107 W_108 W_2 W_109) rfl rfl rfl (by decide +kernel) ⟨Nat.le_of_ble_eq_true rfl, Nat.le_of_ble_eq_true rfl⟩) (xPS xP0 (xD0 A) hK hN) rfl rfl hl.1 rfl (lv_room (Nat.le_of_ble_eq_true rfl)) (dAt zX5_rung_0 1 rfl) ⟨Nat.zero_le _, Nat.zero_le _⟩) hS hA hP hD [] [0, 1, 2, 3, 4, 5, 6, 7, 8, 9, 10, 11, 12, 13, 14, 15, 16, 17, 18, 19, 20, 21, 22, 23, 24, 25, 26, 27, 28, 29] [0, 1, 2, 3, 4, 5, 6, 7, 8, 9, 10, 11, 12, 13, 14, 15, 16, 17, 18, 19, 20, 21, 22, 23, 24, 25, 26, 27, 28, 29] rfl rfl (by decide) (by decide) rfl (by decide) (fun H locs hz1 hP hD hS => ?_)
  refine lv_if_ne (tgt := 9) hx hb (dAt zX5_rung_0 2 rfl) (by decide) (fun c_4 => ?_) (fun c_4 => ?_)
  · have h := q_neg c_4 h
    refine lv_aload_n hx hb (dAt zX5_rung_0 5 rfl) rfl (lv_at hl 0 rfl) ?_
    refine va_get (D := D) (ci := 5) (v := .ref (qT 0)) (C := RX5) (T := TX5) (N := 8) hx hb htl inlX5 hown hK hP 0 rfl rfl 0 (by decide) (htl _ W_15) (fun _ h9 => h9) rfl (dAt zX5_rung_0 6 rfl) ?_
    refine lv_iload_n hx hb (dAt zX5_rung_0 7 rfl) rfl (lv_at hl 1 rfl) ?_
    refine lv_iload_n hx hb (dAt zX5_rung_0 8 rfl) rfl (lv_at hl 2 rfl) ?_
    obtain ⟨u15, hu15, h⟩ := q_bind h
    have hPc : va_P D vwCl (w4 cI qT zT) H := hP.sub [1, 2, 3, 4, 5] rfl
    have hDc : va_D A (w4 cI qT zT) := hD.sub [1, 2, 3, 4, 5] (by decide) rfl
    refine xFz (wc := (w4 cI qT zT)) (w1 := (w4 cI qT u15.2)) (wr := (w5 qX qT qI qJ qP qC qF qA zX ++ (w4 cI qI zI ++ (w4 cI qJ zJ ++ (w2 cI qP zP ++ (w1 qC qV zC ++ (w4 cI qV zV ++ (w3 cI qF zF ++ (w0 cJ qA zA))))))))) (ws2 := (w5 qX qT qI qJ qP qC qF qA zX ++ (w4 cI qT u15.2 ++ (w4 cI qI zI ++ (w4 cI qJ zJ ++ (w2 cI qP zP ++ (w1 qC qV zC ++ (w4 cI qV zV ++ (w3 cI qF zF ++ (w0 cJ qA zA)))))))))) (va_runV (As := [.int a1, .int a2]) (rest := []) ⟨hx, hb, hml, hown, htl⟩ (c_X4_addSight l D cI cJ cZ n qT H.size zT a1 a2 u15 hu15) (cwV 2 htl (gV W_657 W_658 W_659 W_14 W_660) rfl rfl rfl (by decide +kernel) ⟨Nat.le_of_ble_eq_true rfl, Nat.le_of_ble_eq_true rfl⟩) (xPV hPc hDc hK hN 0 rfl rfl) rfl rfl hl.1 rfl (lv_room (Nat.le_of_ble_eq_true rfl)) (dAt zX5_rung_0 9 rfl) ⟨Nat.zero_le _, Nat.zero_le _⟩) hS hA hP hD [1, 2, 3, 4, 5] [0, 6, 7, 8, 9, 10, 11, 12, 13, 14, 15, 16, 17, 18, 19, 20, 21, 22, 23, 24, 25, 26, 27, 28, 29] [0, 25, 26, 27, 28, 29, 1, 2, 3, 4, 5, 6, 7, 8, 9, 10, 11, 12, 13, 14, 15, 16, 17, 18, 19, 20, 21, 22, 23, 24] rfl rfl (by decide) (by decide) rfl (by decide) (fun H locs hz15 hP hD hS => ?_)
    refine lv_if_eq (tgt := 31) hx hb (dAt zX5_rung_0 10 rfl) (by decide) (fun c_18 => ?_) (fun c_18 => ?_)
    · have h := q_pos c_18 h
      refine lv_bipush (v := (-4)) hx hb (dAt zX5_rung_0 15 rfl) (by decide) ?_
      obtain rfl := q_some h
      exact xRi hx hb hr hlocks hQ hAe hP hD hK hS rfl (dAt zX5_rung_0 16 rfl)
    · have h := q_neg c_18 h
      refine lv_aload_n hx hb (dAt zX5_rung_0 11 rfl) rfl (lv_at hl 0 rfl) ?_
      refine va_get (D := D) (ci := 5) (v := .ref (qT 0)) (C := RX5) (T := TX5) (N := 8) hx hb htl inlX5 hown hK hP 0 rfl rfl 0 (by decide) (htl _ W_15) (fun _ h9 => h9) rfl (dAt zX5_rung_0 12 rfl) ?_
      refine va_get (D := D) (ci := 4) (v := .int (u15.2 0 3)) (C := RX4) (T := TX4) (N := 9) hx hb htl inlX4 hown hK hP 1 rfl rfl 3 (by decide) (htl _ W_656) (fun _ h9 => h9) rfl (dAt zX5_rung_0 13 rfl) ?_
      refine lv_goto (tgt := 33) hx hb (dAt zX5_rung_0 14 rfl) (by decide) ?_
      obtain rfl := q_some h
      exact xRi hx hb hr hlocks hQ hAe hP hD hK hS rfl (dAt zX5_rung_0 16 rfl)
  · have h := q_pos c_4 h
    refine lv_iconst (v := (-1)) hx hb (dAt zX5_rung_0 3 rfl) (by decide) ?_
    obtain rfl := q_some h
    exact xRi hx hb hr hlocks hQ hAe hP hD hK hS rfl (dAt zX5_rung_0 4 rfl)
def m_X4_dropSights (n : Nat) (zT : TI) : Option TI := some (sf (sf zT 3 0) 4 0)
set_option maxHeartbeats 4000000 in
set_option maxRecDepth 100000 in
theorem c_X4_dropSights (l : Launch) (D : va_G) (cI cJ cZ : ClassId) (n : Nat) (qT : Nat → Nat) (sz : Nat) (zT : TI) (out : TI) (hm : m_X4_dropSights n zT = some out) : Met l yX4_dropSights (wsM yX4_dropSights cX4_dropSights 1 none) { frames := 0, cells := 0, slots := 0, locals := 0 } (xPre D (kT cI cJ cZ) (w4 cI qT zT) sz [.ref (qT 0)]) (xQv D (kT cI cJ cZ) (w4 cI qT zT) (w4 cI qT out) sz) 0 0 (va_A (w4 cI qT zT) sz) := by
  refine Met.ofW (cc := cX4_dropSights) (maxL := 1) (ret := none) (by decide) rfl ?_
  intro p e s m args below meth c s₁ B hml hv
  obtain ⟨hv, hsz, hP, hK, hD0, hN⟩ := hv
  have hx := B.exec; have hb := B.bytes; have hr := B.returns
  have hts := atoms_spec (ws := (wsM yX4_dropSights cX4_dropSights 1 none)) B.pre
  have hown : s.vm.findClass RX4 = some m.cls := findClass_of_methodNamed B.named
  have hlocks := B.notSynchronized
  subst hsz
  have hD := hD0.self (sz := s.heap.size)
  obtain ⟨A, hAe⟩ : ∃ A, A = va_A (w4 cI qT zT) s.heap.size := ⟨_, rfl⟩
  rw [← hAe] at hD
  have hA : ∀ q : Nat, s.heap.size ≤ q → A q := fun q h => by rw [hAe]; exact Or.inr h
  have htl : ∀ w ∈ wsL_law, w.before args s = true := fun w h => hts w (List.mem_cons_of_mem _ h)
  refine xHead (R' := { frames := 0, cells := 0, slots := 0, locals := 0 }) rfl (fun Q H hQ hH => ?_)
  have hP : va_P D vwCl (w4 cI qT zT) H := by rw [hH]; exact hP
  have hS : va_S A s.heap H [] := by rw [hH]; exact va_S.rf
  refine xStart hv (Nat.le_of_ble_eq_true rfl) (lv := [(0, .ref (qT 0))]) rfl (fun ls hl => ?_)
  have h := hm
  unfold m_X4_dropSights at h
  refine lv_aload_n hx hb (dAt zX4_dropSights_0 0 rfl) rfl (lv_at hl 0 rfl) ?_
  refine lv_iconst (v := 0) hx hb (dAt zX4_dropSights_0 1 rfl) (by decide) ?_
  refine va_put (D := D) (ci := 4) (v := .int 0) (ty := .int) (C := RX4) (T := TX4) (N := 9) hx hb htl inlX4 tyX4 tyX4_ok nmX4 hown hK hP hD hS 0 rfl rfl 3 (by decide) (htl _ W_42) (fun _ h9 => h9) rfl (by decide +kernel) rfl rfl (Nat.le_of_ble_eq_true rfl) (dAt zX4_dropSights_0 2 rfl) (fun H locs hP hD hS => ?_)
  have hP : va_P D vwCl (w4x cI qT (zT 0 0) (zT 0 1) (zT 0 2) 0 (zT 0 4) (zT 6) (zT 7) (zT 8) (zT 9)) H := hP
  have hD : va_D A (w4x cI qT (zT 0 0) (zT 0 1) (zT 0 2) 0 (zT 0 4) (zT 6) (zT 7) (zT 8) (zT 9)) := hD
  refine lv_aload_n hx hb (dAt zX4_dropSights_0 3 rfl) rfl (lv_at hl 0 rfl) ?_
  refine lv_iconst (v := 0) hx hb (dAt zX4_dropSights_0 4 rfl) (by decide) ?_
  refine va_put (D := D) (ci := 4) (v := .int 0) (ty := .int) (C := RX4) (T := TX4) (N := 9) hx hb htl inlX4 tyX4 tyX4_ok nmX4 hown hK hP hD hS 0 rfl rfl 4 (by decide) (htl _ W_43) (fun _ h9 => h9) rfl (by decide +kernel) rfl rfl (Nat.le_of_ble_eq_true rfl) (dAt zX4_dropSights_0 5 rfl) (fun H locs hP hD hS => ?_)
  have hP : va_P D vwCl (w4x cI qT (zT 0 0) (zT 0 1) (zT 0 2) 0 0 (zT 6) (zT 7) (zT 8) (zT 9)) H := hP
  have hD : va_D A (w4x cI qT (zT 0 0) (zT 0 1) (zT 0 2) 0 0 (zT 6) (zT 7) (zT 8) (zT 9)) := hD
  have hP : va_P D vwCl (w4 cI qT (sf (sf zT 3 0) 4 0)) H := hP
  have hD : va_D A (w4 cI qT (sf (sf zT 3 0) 4 0)) := hD
  obtain rfl := q_some h
  exact xRv hx hb hr hlocks hQ hAe hP hD hK hS (dAt zX4_dropSights_0 6 rfl)
def m_X5_forget (n : Nat) (zX : TI) (zT : TI) (zI : TI) (zJ : TI) (zP : TI) (zC : TI) (zV : TI) (zF : TI) (zA : TL) : Option (Int32 × TI) := ((m_X4_dropSights n zT).bind fun u12 => some ((zT 0 3), u12))
set_option maxHeartbeats 4000000 in
set_option maxRecDepth 100000 in
theorem c_X5_forget (l : Launch) (D : va_G) (cI cJ cZ : ClassId) (n : Nat) (qX : Nat → Nat) (qT : Nat → Nat) (qI : Nat → Nat) (qJ : Nat → Nat) (qP : Nat → Nat) (qC : Nat → Nat) (qV : Nat → Nat) (qF : Nat → Nat) (qA : Nat → Nat) (sz : Nat) (zX : TI) (zT : TI) (zI : TI) (zJ : TI) (zP : TI) (zC : TI) (zV : TI) (zF : TI) (zA : TL) (out : Int32 × TI) (hm : m_X5_forget n zX zT zI zJ zP zC zV zF zA = some out) : Met l yX5_forget (wsM yX5_forget cX5_forget 2 (some .int)) { frames := 1, cells := 0, slots := 0, locals := 20 } (xPre D (kT cI cJ cZ) (w5 qX qT qI qJ qP qC qF qA zX ++ (w4 cI qT zT ++ (w4 cI qI zI ++ (w4 cI qJ zJ ++ (w2 cI qP zP ++ (w1 qC qV zC ++ (w4 cI qV zV ++ (w3 cI qF zF ++ (w0 cJ qA zA))))))))) sz [.ref (qX 0)]) (xQi D (kT cI cJ cZ) (w5 qX qT qI qJ qP qC qF qA zX ++ (w4 cI qT zT ++ (w4 cI qI zI ++ (w4 cI qJ zJ ++ (w2 cI qP zP ++ (w1 qC qV zC ++ (w4 cI qV zV ++ (w3 cI qF zF ++ (w0 cJ qA zA))))))))) (w5 qX qT qI qJ qP qC qF qA zX ++ (w4 cI qT out.2 ++ (w4 cI qI zI ++ (w4 cI qJ zJ ++ (w2 cI qP zP ++ (w1 qC qV zC ++ (w4 cI qV zV ++ (w3 cI qF zF ++ (w0 cJ qA zA))))))))) sz out.1) 0 0 (va_A (w5 qX qT qI qJ qP qC qF qA zX ++ (w4 cI qT zT ++ (w4 cI qI zI ++ (w4 cI qJ zJ ++ (w2 cI qP zP ++ (w1 qC qV zC ++ (w4 cI qV zV ++ (w3 cI qF zF ++ (w0 cJ qA zA))))))))) sz) := by
  refine Met.ofW (cc := cX5_forget) (maxL := 2) (ret := (some .int)) (by decide) rfl ?_
  intro p e s m args below meth c s₁ B hml hv
  obtain ⟨hv, hsz, hP, hK, hD0, hN⟩ := hv
  have hx := B.exec; have hb := B.bytes; have hr := B.returns
  have hts := atoms_spec (ws := (wsM yX5_forget cX5_forget 2 (some .int))) B.pre
  have hown : s.vm.findClass RX5 = some m.cls := findClass_of_methodNamed B.named
  have hlocks := B.notSynchronized
  subst hsz
  have hD := hD0.self (sz := s.heap.size)
  obtain ⟨A, hAe⟩ : ∃ A, A = va_A (w5 qX qT qI qJ qP qC qF qA zX ++ (w4 cI qT zT ++ (w4 cI qI zI ++ (w4 cI qJ zJ ++ (w2 cI qP zP ++ (w1 qC qV zC ++ (w4 cI qV zV ++ (w3 cI qF zF ++ (w0 cJ qA zA))))))))) s.heap.size := ⟨_, rfl⟩
  rw [← hAe] at hD
  have hA : ∀ q : Nat, s.heap.size ≤ q → A q := fun q h => by rw [hAe]; exact Or.inr h
  have htl : ∀ w ∈ wsL_law, w.before args s = true := fun w h => hts w (List.mem_cons_of_mem _ h)
  refine xHead (R' := { frames := 1, cells := 0, slots := 0, locals := 20 }) rfl (fun Q H hQ hH => ?_)
  have hP : va_P D vwCl (w5 qX qT qI qJ qP qC qF qA zX ++ (w4 cI qT zT ++ (w4 cI qI zI ++ (w4 cI qJ zJ ++ (w2 cI qP zP ++ (w1 qC qV zC ++ (w4 cI qV zV ++ (w3 cI qF zF ++ (w0 cJ qA zA))))))))) H := by rw [hH]; exact hP
  have hS : va_S A s.heap H [] := by rw [hH]; exact va_S.rf
  refine xStart hv (Nat.le_of_ble_eq_true rfl) (lv := [(0, .ref (qX 0))]) rfl (fun ls hl => ?_)
  have h := hm
  unfold m_X5_forget at h
  refine lv_aload_n hx hb (dAt zX5_forget_0 0 rfl) rfl (lv_at hl 0 rfl) ?_
  refine va_get (D := D) (ci := 5) (v := .ref (qT 0)) (C := RX5) (T := TX5) (N := 8) hx hb htl inlX5 hown hK hP 0 rfl rfl 0 (by decide) (htl _ W_15) (fun _ h9 => h9) rfl (dAt zX5_forget_0 1 rfl) ?_
  refine va_get (D := D) (ci := 4) (v := .int (zT 0 3)) (C := RX4) (T := TX4) (N := 9) hx hb htl inlX4 hown hK hP 1 rfl rfl 3 (by decide) (htl _ W_656) (fun _ h9 => h9) rfl (dAt zX5_forget_0 2 rfl) ?_
  refine lv_istore_n (lv' := [(1, .int (zT 0 3)), (0, .ref (qX 0))]) hx hb (dAt zX5_forget_0 3 rfl) rfl hl (by decide) rfl (fun ls hl => ?_)
  refine lv_aload_n hx hb (dAt zX5_forget_0 4 rfl) rfl (lv_at hl 1 rfl) ?_
  refine va_get (D := D) (ci := 5) (v := .ref (qT 0)) (C := RX5) (T := TX5) (N := 8) hx hb htl inlX5 hown hK hP 0 rfl rfl 0 (by decide) (htl _ W_15) (fun _ h9 => h9) rfl (dAt zX5_forget_0 5 rfl) ?_
  obtain ⟨u12, hu12, h⟩ := q_bind h
  have hPc : va_P D vwCl (w4 cI qT zT) H := hP.sub [1, 2, 3, 4, 5] rfl
  have hDc : va_D A (w4 cI qT zT) := hD.sub [1, 2, 3, 4, 5] (by decide) rfl
  refine xFv (wc := (w4 cI qT zT)) (w1 := (w4 cI qT u12)) (wr := (w5 qX qT qI qJ qP qC qF qA zX ++ (w4 cI qI zI ++ (w4 cI qJ zJ ++ (w2 cI qP zP ++ (w1 qC qV zC ++ (w4 cI qV zV ++ (w3 cI qF zF ++ (w0 cJ qA zA))))))))) (ws2 := (w5 qX qT qI qJ qP qC qF qA zX ++ (w4 cI qT u12 ++ (w4 cI qI zI ++ (w4 cI qJ zJ ++ (w2 cI qP zP ++ (w1 qC qV zC ++ (w4 cI qV zV ++ (w3 cI qF zF ++ (w0 cJ qA zA)))))))))) (va_runV (As := []) (rest := []) ⟨hx, hb, hml, hown, htl⟩ (c_X4_dropSights l D cI cJ cZ n qT H.size zT  u12 hu12) (cwV 0 htl (gV W_670 W_671 W_672 W_14 W_673) rfl rfl rfl (by decide +kernel) ⟨Nat.le_of_ble_eq_true rfl, Nat.le_of_ble_eq_true rfl⟩) (xPV hPc hDc hK hN 0 rfl rfl) rfl rfl hl.1 rfl (lv_room (Nat.le_of_ble_eq_true rfl)) (dAt zX5_forget_0 6 rfl) ⟨Nat.zero_le _, Nat.zero_le _⟩) hS hA hP hD [1, 2, 3, 4, 5] [0, 6, 7, 8, 9, 10, 11, 12, 13, 14, 15, 16, 17, 18, 19, 20, 21, 22, 23, 24, 25, 26, 27, 28, 29] [0, 25, 26, 27, 28, 29, 1, 2, 3, 4, 5, 6, 7, 8, 9, 10, 11, 12, 13, 14, 15, 16, 17, 18, 19, 20, 21, 22, 23, 24] rfl rfl (by decide) (by decide) rfl (by decide) (fun H locs hP hD hS => ?_)
  refine lv_iload_n hx hb (dAt zX5_forget_0 7 rfl) rfl (lv_at hl 0 rfl) ?_
  obtain rfl := q_some h
  exact xRi hx hb hr hlocks hQ hAe hP hD hK hS rfl (dAt zX5_forget_0 8 rfl)
def b_X4_fitting_6 (n : Nat) (zT : TI) (s_6 : Int32 × Int32) (k_6 : Int32 × Int32 → Option Int32) : Option Int32 := (if (zT 0 3) ≤ s_6.2 then some s_6.1 else (if 8 ≤ s_6.2 then some s_6.1 else (gd (inB s_6.2 8) (((m_X4_rule n zT 1).bind fun u32 => ((m_X4_tiedTo n zT ((zT 9) (Int32.toNatClampNeg s_6.2)) u32).bind fun u35 => ((m_X5_holds n  (zT 0 4) s_6.2).bind fun u45 => (if u45 = 0 then (k_6 ((s_6.1 &&& (u35 ^^^ (-1 : Int32))), (s_6.2 + 1))) else (k_6 ((s_6.1 &&& u35), (s_6.2 + 1)))))))))))
def m_X4_fitting (n : Nat) (zT : TI) : Option Int32 := (loopF (b_X4_fitting_6 n zT ) n (1023, 0))
set_option maxHeartbeats 4000000 in
set_option maxRecDepth 100000 in
theorem c_X4_fitting (l : Launch) (D : va_G) (cI cJ cZ : ClassId) (n : Nat) (qT : Nat → Nat) (sz : Nat) (zT : TI) (out : Int32) (hm : m_X4_fitting n zT = some out) : Met l yX4_fitting (wsM yX4_fitting cX4_fitting 4 (some .int)) { frames := 2, cells := 0, slots := 0, locals := 46 } (xPre D (kT cI cJ cZ) (w4 cI qT zT) sz [.ref (qT 0)]) (xQi D (kT cI cJ cZ) (w4 cI qT zT) (w4 cI qT zT) sz out) 0 0 (va_A (w4 cI qT zT) sz) := by
  refine Met.ofW (cc := cX4_fitting) (maxL := 4) (ret := (some .int)) (by decide) rfl ?_
  intro p e s m args below meth c s₁ B hml hv
  obtain ⟨hv, hsz, hP, hK, hD0, hN⟩ := hv
  have hx := B.exec; have hb := B.bytes; have hr := B.returns
  have hts := atoms_spec (ws := (wsM yX4_fitting cX4_fitting 4 (some .int))) B.pre
  have hown : s.vm.findClass RX4 = some m.cls := findClass_of_methodNamed B.named
  have hlocks := B.notSynchronized
  subst hsz
  have hD := hD0.self (sz := s.heap.size)
  obtain ⟨A, hAe⟩ : ∃ A, A = va_A (w4 cI qT zT) s.heap.size := ⟨_, rfl⟩
  rw [← hAe] at hD
  have hA : ∀ q : Nat, s.heap.size ≤ q → A q := fun q h => by rw [hAe]; exact Or.inr h
  have htl : ∀ w ∈ wsL_law, w.before args s = true := fun w h => hts w (List.mem_cons_of_mem _ h)
  refine xHead (R' := { frames := 2, cells := 0, slots := 0, locals := 46 }) rfl (fun Q H hQ hH => ?_)
  have hP : va_P D vwCl (w4 cI qT zT) H := by rw [hH]; exact hP
  have hS : va_S A s.heap H [] := by rw [hH]; exact va_S.rf
  refine xStart hv (Nat.le_of_ble_eq_true rfl) (lv := [(0, .ref (qT 0))]) rfl (fun ls hl => ?_)
  have h := hm
  unfold m_X4_fitting at h
  refine lv_sipush (v := 1023) hx hb (dAt zX4_fitting_0 0 rfl) (by decide) ?_
  refine lv_istore_n (lv' := [(1, .int 1023), (0, .ref (qT 0))]) hx hb (dAt zX4_fitting_0 1 rfl) rfl hl (by decide) rfl (fun ls hl => ?_)
  refine lv_iconst (v := 0) hx hb (dAt zX4_fitting_0 2 rfl) (by decide) ?_
  refine lv_istore_n (lv' := [(2, .int 0), (1, .int 1023), (0, .ref (qT 0))]) hx hb (dAt zX4_fitting_0 3 rfl) rfl hl (by decide) rfl (fun ls hl => ?_)
  have L_6 : ∀ (j_6 : Nat) (v1_6 : Int32) (v2_6 : Int32) (H : Heap) (locs : List Loc) (ls : Array Slot), loopF (b_X4_fitting_6 n zT) j_6 (v1_6, v2_6) = some out → va_P D vwCl (w4 cI qT zT) H → va_D A (w4 cI qT zT) → va_S A s.heap H locs → lv_has ls 4 [(0, .ref (qT 0)), (1, .int v1_6), (2, .int v2_6)] → W p l e { frames := 2, cells := 0, slots := 0, locals := 46 } s m args below meth c H locs 0 0 Q (F0 m 6 ls []) := by
    intro j_6
    induction j_6 with
    | zero => intro v1_6 v2_6 H locs ls h hP hD hS hl; exact loopF_0 h
    | succ j_6 ih_6 =>
      intro v1_6 v2_6 H locs ls h hP hD hS hl
      have h := loopF_s h
      unfold b_X4_fitting_6 at h
      refine lv_iload_n hx hb (dAt zX4_fitting_0 4 rfl) rfl (lv_at hl 2 rfl) ?_
      refine lv_aload_n hx hb (dAt zX4_fitting_0 5 rfl) rfl (lv_at hl 0 rfl) ?_
      refine va_get (D := D) (ci := 4) (v := .int (zT 0 3)) (C := RX4) (T := TX4) (N := 9) hx hb htl inlX4 hown hK hP 0 rfl rfl 3 (by decide) (htl _ W_42) (fun _ h9 => h9) rfl (dAt zX4_fitting_0 6 rfl) ?_
      refine lv_icmp_ge (tgt := 66) hx hb (dAt zX4_fitting_0 7 rfl) (by decide) (fun c_11 => ?_) (fun c_11 => ?_)
      · have h := q_pos c_11 h
        refine lv_iload_n hx hb (dAt zX4_fitting_0 38 rfl) rfl (lv_at hl 1 rfl) ?_
        obtain rfl := q_some h
        exact xRi hx hb hr hlocks hQ hAe hP hD hK hS rfl (dAt zX4_fitting_0 39 rfl)
      · have h := q_neg c_11 h
        refine lv_iload_n hx hb (dAt zX4_fitting_0 8 rfl) rfl (lv_at hl 2 rfl) ?_
        refine lv_aload_n hx hb (dAt zX4_fitting_0 9 rfl) rfl (lv_at hl 0 rfl) ?_
        refine va_get (D := D) (ci := 4) (v := .ref (qT 9)) (C := RX4) (T := TX4) (N := 9) hx hb htl inlX4 hown hK hP 0 rfl rfl 8 (by decide) (htl _ W_48) (fun _ h9 => h9) rfl (dAt zX4_fitting_0 10 rfl) ?_
        refine va_alen (ty := .int) (v := 8) hx hb hK hP 4 0 rfl rfl rfl (dAt zX4_fitting_0 11 rfl) ?_
        refine lv_icmp_ge (tgt := 66) hx hb (dAt zX4_fitting_0 12 rfl) (by decide) (fun c_20 => ?_) (fun c_20 => ?_)
        · have h := q_pos c_20 h
          refine lv_iload_n hx hb (dAt zX4_fitting_0 38 rfl) rfl (lv_at hl 1 rfl) ?_
          obtain rfl := q_some h
          exact xRi hx hb hr hlocks hQ hAe hP hD hK hS rfl (dAt zX4_fitting_0 39 rfl)
        · have h := q_neg c_20 h
          refine lv_aload_n hx hb (dAt zX4_fitting_0 13 rfl) rfl (lv_at hl 0 rfl) ?_
          refine lv_aload_n hx hb (dAt zX4_fitting_0 14 rfl) rfl (lv_at hl 0 rfl) ?_
          refine va_get (D := D) (ci := 4) (v := .ref (qT 9)) (C := RX4) (T := TX4) (N := 9) hx hb htl inlX4 hown hK hP 0 rfl rfl 8 (by decide) (htl _ W_48) (fun _ h9 => h9) rfl (dAt zX4_fitting_0 15 rfl) ?_
          refine lv_iload_n hx hb (dAt zX4_fitting_0 16 rfl) rfl (lv_at hl 2 rfl) ?_
          obtain ⟨hi_29, h⟩ := q_in h
          refine va_iald hx hb hK hP 4 0 rfl rfl hi_29 (dAt zX4_fitting_0 17 rfl) ?_
          refine lv_aload_n hx hb (dAt zX4_fitting_0 18 rfl) rfl (lv_at hl 0 rfl) ?_
          refine lv_iconst (v := 1) hx hb (dAt zX4_fitting_0 19 rfl) (by decide) ?_
          obtain ⟨u32, hu32, h⟩ := q_bind h
          refine xFi (wc := (w4 cI qT zT)) (w1 := (w4 cI qT zT)) (wr := ([] : va_W)) (ws2 := (w4 cI qT zT)) (va_runV (As := [.int 1]) (rest := [.int ((zT 9) (Int32.toNatClampNeg v2_6)), .ref (qT 0)]) ⟨hx, hb, hml, hown, htl⟩ (c_X4_rule l D cI cJ cZ n qT H.size zT 1 u32 hu32) (cwV 1 htl (gV W_332 W_176 W_177 W_14 W_178) rfl rfl rfl (by decide +kernel) ⟨Nat.le_of_ble_eq_true rfl, Nat.le_of_ble_eq_true rfl⟩) (xPV hP hD hK hN 0 rfl rfl) rfl rfl hl.1 rfl (lv_room (Nat.le_of_ble_eq_true rfl)) (dAt zX4_fitting_0 20 rfl) ⟨Nat.zero_le _, Nat.zero_le _⟩) hS hA hP hD [0, 1, 2, 3, 4] [] [0, 1, 2, 3, 4] rfl rfl (by decide) (by decide) rfl (by decide) (fun H locs hP hD hS => ?_)
          obtain ⟨u35, hu35, h⟩ := q_bind h
          refine xFi (wc := (w4 cI qT zT)) (w1 := (w4 cI qT zT)) (wr := ([] : va_W)) (ws2 := (w4 cI qT zT)) (va_runV (As := [.int ((zT 9) (Int32.toNatClampNeg v2_6)), .int u32]) (rest := []) ⟨hx, hb, hml, hown, htl⟩ (c_X4_tiedTo l D cI cJ cZ n qT H.size zT ((zT 9) (Int32.toNatClampNeg v2_6)) u32 u35 hu35) (cwV 2 htl (gV W_686 W_531 W_532 W_14 W_533) rfl rfl rfl (by decide +kernel) ⟨Nat.le_of_ble_eq_true rfl, Nat.le_of_ble_eq_true rfl⟩) (xPV hP hD hK hN 0 rfl rfl) rfl rfl hl.1 rfl (lv_room (Nat.le_of_ble_eq_true rfl)) (dAt zX4_fitting_0 21 rfl) ⟨Nat.zero_le _, Nat.zero_le _⟩) hS hA hP hD [0, 1, 2, 3, 4] [] [0, 1, 2, 3, 4] rfl rfl (by decide) (by decide) rfl (by decide) (fun H locs hP hD hS => ?_)
          refine lv_istore_n (lv' := [(3, .int u35), (0, .ref (qT 0)), (1, .int v1_6), (2, .int v2_6)]) hx hb (dAt zX4_fitting_0 22 rfl) rfl hl (by decide) rfl (fun ls hl => ?_)
          refine lv_iload_n hx hb (dAt zX4_fitting_0 23 rfl) rfl (lv_at hl 2 rfl) ?_
          refine lv_aload_n hx hb (dAt zX4_fitting_0 24 rfl) rfl (lv_at hl 1 rfl) ?_
          refine va_get (D := D) (ci := 4) (v := .int (zT 0 4)) (C := RX4) (T := TX4) (N := 9) hx hb htl inlX4 hown hK hP 0 rfl rfl 4 (by decide) (htl _ W_43) (fun _ h9 => h9) rfl (dAt zX4_fitting_0 25 rfl) ?_
          refine lv_iload_n hx hb (dAt zX4_fitting_0 26 rfl) rfl (lv_at hl 3 rfl) ?_
          obtain ⟨u45, hu45, h⟩ := q_bind h
          refine xFz (wc := ([] : va_W)) (w1 := ([] : va_W)) (wr := (w4 cI qT zT)) (ws2 := (w4 cI qT zT)) (va_runSN (host := RX5) (As := [.int (zT 0 4), .int v2_6]) (rest := [.int v1_6]) ⟨hx, hb, hml, hown, htl⟩ (c_X5_holds l D cI cJ cZ n  H.size  (zT 0 4) v2_6 u45 hu45) ⟨va_cnB 2 htl (gM W_339) rfl rfl rfl hN.2.2.2.1 (htl _ W_2) (by decide +kernel) ⟨Nat.le_of_ble_eq_true rfl, Nat.le_of_ble_eq_true rfl⟩, htl _ W_338, trivial⟩ (xPS xP0 (xD0 A) hK hN) rfl rfl hl.1 rfl (lv_room (Nat.le_of_ble_eq_true rfl)) (dAt zX4_fitting_0 27 rfl) ⟨Nat.zero_le _, Nat.zero_le _⟩) hS hA hP hD [] [0, 1, 2, 3, 4] [0, 1, 2, 3, 4] rfl rfl (by decide) (by decide) rfl (by decide) (fun H locs hz45 hP hD hS => ?_)
          refine lv_if_eq (tgt := 55) hx hb (dAt zX4_fitting_0 28 rfl) (by decide) (fun c_48 => ?_) (fun c_48 => ?_)
          · have h := q_pos c_48 h
            refine lv_iload_n hx hb (dAt zX4_fitting_0 31 rfl) rfl (lv_at hl 0 rfl) ?_
            refine lv_iconst (v := (-1)) hx hb (dAt zX4_fitting_0 32 rfl) (by decide) ?_
            refine lv_ixor hx hb (dAt zX4_fitting_0 33 rfl) ?_
            refine lv_iand hx hb (dAt zX4_fitting_0 34 rfl) ?_
            refine lv_istore_n (lv' := [(1, .int (v1_6 &&& (u35 ^^^ (-1 : Int32)))), (3, .int u35), (0, .ref (qT 0)), (2, .int v2_6)]) hx hb (dAt zX4_fitting_0 35 rfl) rfl hl (by decide) rfl (fun ls hl => ?_)
            refine lv_iinc (v := (v2_6 + 1)) (lv' := [(2, .int (v2_6 + 1)), (1, .int (v1_6 &&& (u35 ^^^ (-1 : Int32)))), (3, .int u35), (0, .ref (qT 0))]) hx hb (dAt zX4_fitting_0 36 rfl) hl (k := 3) rfl rfl (by decide) rfl (fun ls hl => ?_)
            refine lv_goto (tgt := 6) hx hb (dAt zX4_fitting_0 37 rfl) (by decide) ?_
            exact ih_6 (v1_6 &&& (u35 ^^^ (-1 : Int32))) (v2_6 + 1) _ _ _ h hP hD hS (lv_sub hl [3, 1, 0] rfl)
          · have h := q_neg c_48 h
            refine lv_iload_n hx hb (dAt zX4_fitting_0 29 rfl) rfl (lv_at hl 0 rfl) ?_
            refine lv_goto (tgt := 58) hx hb (dAt zX4_fitting_0 30 rfl) (by decide) ?_
            refine lv_iand hx hb (dAt zX4_fitting_0 34 rfl) ?_
            refine lv_istore_n (lv' := [(1, .int (v1_6 &&& u35)), (3, .int u35), (0, .ref (qT 0)), (2, .int v2_6)]) hx hb (dAt zX4_fitting_0 35 rfl) rfl hl (by decide) rfl (fun ls hl => ?_)
            refine lv_iinc (v := (v2_6 + 1)) (lv' := [(2, .int (v2_6 + 1)), (1, .int (v1_6 &&& u35)), (3, .int u35), (0, .ref (qT 0))]) hx hb (dAt zX4_fitting_0 36 rfl) hl (k := 3) rfl rfl (by decide) rfl (fun ls hl => ?_)
            refine lv_goto (tgt := 6) hx hb (dAt zX4_fitting_0 37 rfl) (by decide) ?_
            exact ih_6 (v1_6 &&& u35) (v2_6 + 1) _ _ _ h hP hD hS (lv_sub hl [3, 1, 0] rfl)
  exact L_6 n 1023 0 _ _ _ h hP hD hS (lv_sub hl [2, 1, 0] rfl)
def m_X5_who (n : Nat) (zX : TI) (zT : TI) (zI : TI) (zJ : TI) (zP : TI) (zC : TI) (zV : TI) (zF : TI) (zA : TL) : Option Int32 := ((m_X4_fitting n zT).bind fun u4 => some u4)
set_option maxHeartbeats 4000000 in
set_option maxRecDepth 100000 in
theorem c_X5_who (l : Launch) (D : va_G) (cI cJ cZ : ClassId) (n : Nat) (qX : Nat → Nat) (qT : Nat → Nat) (qI : Nat → Nat) (qJ : Nat → Nat) (qP : Nat → Nat) (qC : Nat → Nat) (qV : Nat → Nat) (qF : Nat → Nat) (qA : Nat → Nat) (sz : Nat) (zX : TI) (zT : TI) (zI : TI) (zJ : TI) (zP : TI) (zC : TI) (zV : TI) (zF : TI) (zA : TL) (out : Int32) (hm : m_X5_who n zX zT zI zJ zP zC zV zF zA = some out) : Met l yX5_who (wsM yX5_who cX5_who 1 (some .int)) { frames := 3, cells := 0, slots := 0, locals := 69 } (xPre D (kT cI cJ cZ) (w5 qX qT qI qJ qP qC qF qA zX ++ (w4 cI qT zT ++ (w4 cI qI zI ++ (w4 cI qJ zJ ++ (w2 cI qP zP ++ (w1 qC qV zC ++ (w4 cI qV zV ++ (w3 cI qF zF ++ (w0 cJ qA zA))))))))) sz [.ref (qX 0)]) (xQi D (kT cI cJ cZ) (w5 qX qT qI qJ qP qC qF qA zX ++ (w4 cI qT zT ++ (w4 cI qI zI ++ (w4 cI qJ zJ ++ (w2 cI qP zP ++ (w1 qC qV zC ++ (w4 cI qV zV ++ (w3 cI qF zF ++ (w0 cJ qA zA))))))))) (w5 qX qT qI qJ qP qC qF qA zX ++ (w4 cI qT zT ++ (w4 cI qI zI ++ (w4 cI qJ zJ ++ (w2 cI qP zP ++ (w1 qC qV zC ++ (w4 cI qV zV ++ (w3 cI qF zF ++ (w0 cJ qA zA))))))))) sz out) 0 0 (va_A (w5 qX qT qI qJ qP qC qF qA zX ++ (w4 cI qT zT ++ (w4 cI qI zI ++ (w4 cI qJ zJ ++ (w2 cI qP zP ++ (w1 qC qV zC ++ (w4 cI qV zV ++ (w3 cI qF zF ++ (w0 cJ qA zA))))))))) sz) := by
  refine Met.ofW (cc := cX5_who) (maxL := 1) (ret := (some .int)) (by decide) rfl ?_
  intro p e s m args below meth c s₁ B hml hv
  obtain ⟨hv, hsz, hP, hK, hD0, hN⟩ := hv
  have hx := B.exec; have hb := B.bytes; have hr := B.returns
  have hts := atoms_spec (ws := (wsM yX5_who cX5_who 1 (some .int))) B.pre
  have hown : s.vm.findClass RX5 = some m.cls := findClass_of_methodNamed B.named
  have hlocks := B.notSynchronized
  subst hsz
  have hD := hD0.self (sz := s.heap.size)
  obtain ⟨A, hAe⟩ : ∃ A, A = va_A (w5 qX qT qI qJ qP qC qF qA zX ++ (w4 cI qT zT ++ (w4 cI qI zI ++ (w4 cI qJ zJ ++ (w2 cI qP zP ++ (w1 qC qV zC ++ (w4 cI qV zV ++ (w3 cI qF zF ++ (w0 cJ qA zA))))))))) s.heap.size := ⟨_, rfl⟩
  rw [← hAe] at hD
  have hA : ∀ q : Nat, s.heap.size ≤ q → A q := fun q h => by rw [hAe]; exact Or.inr h
  have htl : ∀ w ∈ wsL_law, w.before args s = true := fun w h => hts w (List.mem_cons_of_mem _ h)
  refine xHead (R' := { frames := 3, cells := 0, slots := 0, locals := 69 }) rfl (fun Q H hQ hH => ?_)
  have hP : va_P D vwCl (w5 qX qT qI qJ qP qC qF qA zX ++ (w4 cI qT zT ++ (w4 cI qI zI ++ (w4 cI qJ zJ ++ (w2 cI qP zP ++ (w1 qC qV zC ++ (w4 cI qV zV ++ (w3 cI qF zF ++ (w0 cJ qA zA))))))))) H := by rw [hH]; exact hP
  have hS : va_S A s.heap H [] := by rw [hH]; exact va_S.rf
  refine xStart hv (Nat.le_of_ble_eq_true rfl) (lv := [(0, .ref (qX 0))]) rfl (fun ls hl => ?_)
  have h := hm
  unfold m_X5_who at h
  refine lv_aload_n hx hb (dAt zX5_who_0 0 rfl) rfl (lv_at hl 0 rfl) ?_
  refine va_get (D := D) (ci := 5) (v := .ref (qT 0)) (C := RX5) (T := TX5) (N := 8) hx hb htl inlX5 hown hK hP 0 rfl rfl 0 (by decide) (htl _ W_15) (fun _ h9 => h9) rfl (dAt zX5_who_0 1 rfl) ?_
  obtain ⟨u4, hu4, h⟩ := q_bind h
  have hPc : va_P D vwCl (w4 cI qT zT) H := hP.sub [1, 2, 3, 4, 5] rfl
  have hDc : va_D A (w4 cI qT zT) := hD.sub [1, 2, 3, 4, 5] (by decide) rfl
  refine xFi (wc := (w4 cI qT zT)) (w1 := (w4 cI qT zT)) (wr := (w5 qX qT qI qJ qP qC qF qA zX ++ (w4 cI qI zI ++ (w4 cI qJ zJ ++ (w2 cI qP zP ++ (w1 qC qV zC ++ (w4 cI qV zV ++ (w3 cI qF zF ++ (w0 cJ qA zA))))))))) (ws2 := (w5 qX qT qI qJ qP qC qF qA zX ++ (w4 cI qT zT ++ (w4 cI qI zI ++ (w4 cI qJ zJ ++ (w2 cI qP zP ++ (w1 qC qV zC ++ (w4 cI qV zV ++ (w3 cI qF zF ++ (w0 cJ qA zA)))))))))) (va_runV (As := []) (rest := []) ⟨hx, hb, hml, hown, htl⟩ (c_X4_fitting l D cI cJ cZ n qT H.size zT  u4 hu4) (cwV 0 htl (gV W_682 W_683 W_684 W_14 W_685) rfl rfl rfl (by decide +kernel) ⟨Nat.le_of_ble_eq_true rfl, Nat.le_of_ble_eq_true rfl⟩) (xPV hPc hDc hK hN 0 rfl rfl) rfl rfl hl.1 rfl (lv_room (Nat.le_of_ble_eq_true rfl)) (dAt zX5_who_0 2 rfl) ⟨Nat.zero_le _, Nat.zero_le _⟩) hS hA hP hD [1, 2, 3, 4, 5] [0, 6, 7, 8, 9, 10, 11, 12, 13, 14, 15, 16, 17, 18, 19, 20, 21, 22, 23, 24, 25, 26, 27, 28, 29] [0, 25, 26, 27, 28, 29, 1, 2, 3, 4, 5, 6, 7, 8, 9, 10, 11, 12, 13, 14, 15, 16, 17, 18, 19, 20, 21, 22, 23, 24] rfl rfl (by decide) (by decide) rfl (by decide) (fun H locs hP hD hS => ?_)
  obtain rfl := q_some h
  exact xRi hx hb hr hlocks hQ hAe hP hD hK hS rfl (dAt zX5_who_0 3 rfl)
def m_X4_leftAtMost (n : Nat) (zT : TI) (a1 : Int32) (a2 : Int32) : Option Int32 := ((m_X4_rule n zT 1).bind fun u4 => ((m_X4_tiedTo n zT a1 u4).bind fun u7 => ((m_J6_bitCount_0f7a4 n  (a2 &&& u7)).bind fun u14 => ((m_J6_bitCount_0f7a4 n  (a2 &&& (u7 ^^^ (-1 : Int32)))).bind fun u22 => some (if u14 < u22 then u22 else u14)))))
set_option maxHeartbeats 4000000 in
set_option maxRecDepth 100000 in
theorem c_X4_leftAtMost (l : Launch) (D : va_G) (cI cJ cZ : ClassId) (n : Nat) (qT : Nat → Nat) (sz : Nat) (zT : TI) (a1 : Int32) (a2 : Int32) (out : Int32) (hm : m_X4_leftAtMost n zT a1 a2 = some out) : Met l yX4_leftAtMost (wsM yX4_leftAtMost cX4_leftAtMost 4 (some .int)) { frames := 2, cells := 0, slots := 0, locals := 46 } (xPre D (kT cI cJ cZ) (w4 cI qT zT) sz [.ref (qT 0), .int a1, .int a2]) (xQi D (kT cI cJ cZ) (w4 cI qT zT) (w4 cI qT zT) sz out) 0 0 (va_A (w4 cI qT zT) sz) := by
  refine Met.ofW (cc := cX4_leftAtMost) (maxL := 4) (ret := (some .int)) (by decide) rfl ?_
  intro p e s m args below meth c s₁ B hml hv
  obtain ⟨hv, hsz, hP, hK, hD0, hN⟩ := hv
  have hx := B.exec; have hb := B.bytes; have hr := B.returns
  have hts := atoms_spec (ws := (wsM yX4_leftAtMost cX4_leftAtMost 4 (some .int))) B.pre
  have hown : s.vm.findClass RX4 = some m.cls := findClass_of_methodNamed B.named
  have hlocks := B.notSynchronized
  subst hsz
  have hD := hD0.self (sz := s.heap.size)
  obtain ⟨A, hAe⟩ : ∃ A, A = va_A (w4 cI qT zT) s.heap.size := ⟨_, rfl⟩
  rw [← hAe] at hD
  have hA : ∀ q : Nat, s.heap.size ≤ q → A q := fun q h => by rw [hAe]; exact Or.inr h
  have htl : ∀ w ∈ wsL_law, w.before args s = true := fun w h => hts w (List.mem_cons_of_mem _ h)
  refine xHead (R' := { frames := 2, cells := 0, slots := 0, locals := 46 }) rfl (fun Q H hQ hH => ?_)
  have hP : va_P D vwCl (w4 cI qT zT) H := by rw [hH]; exact hP
  have hS : va_S A s.heap H [] := by rw [hH]; exact va_S.rf
  refine xStart hv (Nat.le_of_ble_eq_true rfl) (lv := [(0, .ref (qT 0)), (1, .int a1), (2, .int a2)]) rfl (fun ls hl => ?_)
  have h := hm
  unfold m_X4_leftAtMost at h
  refine lv_aload_n hx hb (dAt zX4_leftAtMost_0 0 rfl) rfl (lv_at hl 0 rfl) ?_
  refine lv_iload_n hx hb (dAt zX4_leftAtMost_0 1 rfl) rfl (lv_at hl 1 rfl) ?_
  refine lv_aload_n hx hb (dAt zX4_leftAtMost_0 2 rfl) rfl (lv_at hl 0 rfl) ?_
  refine lv_iconst (v := 1) hx hb (dAt zX4_leftAtMost_0 3 rfl) (by decide) ?_
  obtain ⟨u4, hu4, h⟩ := q_bind h
  refine xFi (wc := (w4 cI qT zT)) (w1 := (w4 cI qT zT)) (wr := ([] : va_W)) (ws2 := (w4 cI qT zT)) (va_runV (As := [.int 1]) (rest := [.int a1, .ref (qT 0)]) ⟨hx, hb, hml, hown, htl⟩ (c_X4_rule l D cI cJ cZ n qT H.size zT 1 u4 hu4) (cwV 1 htl (gV W_332 W_176 W_177 W_14 W_178) rfl rfl rfl (by decide +kernel) ⟨Nat.le_of_ble_eq_true rfl, Nat.le_of_ble_eq_true rfl⟩) (xPV hP hD hK hN 0 rfl rfl) rfl rfl hl.1 rfl (lv_room (Nat.le_of_ble_eq_true rfl)) (dAt zX4_leftAtMost_0 4 rfl) ⟨Nat.zero_le _, Nat.zero_le _⟩) hS hA hP hD [0, 1, 2, 3, 4] [] [0, 1, 2, 3, 4] rfl rfl (by decide) (by decide) rfl (by decide) (fun H locs hP hD hS => ?_)
  obtain ⟨u7, hu7, h⟩ := q_bind h
  refine xFi (wc := (w4 cI qT zT)) (w1 := (w4 cI qT zT)) (wr := ([] : va_W)) (ws2 := (w4 cI qT zT)) (va_runV (As := [.int a1, .int u4]) (rest := []) ⟨hx, hb, hml, hown, htl⟩ (c_X4_tiedTo l D cI cJ cZ n qT H.size zT a1 u4 u7 hu7) (cwV 2 htl (gV W_686 W_531 W_532 W_14 W_533) rfl rfl rfl (by decide +kernel) ⟨Nat.le_of_ble_eq_true rfl, Nat.le_of_ble_eq_true rfl⟩) (xPV hP hD hK hN 0 rfl rfl) rfl rfl hl.1 rfl (lv_room (Nat.le_of_ble_eq_true rfl)) (dAt zX4_leftAtMost_0 5 rfl) ⟨Nat.zero_le _, Nat.zero_le _⟩) hS hA hP hD [0, 1, 2, 3, 4] [] [0, 1, 2, 3, 4] rfl rfl (by decide) (by decide) rfl (by decide) (fun H locs hP hD hS => ?_)
  refine lv_istore_n (lv' := [(3, .int u7), (0, .ref (qT 0)), (1, .int a1), (2, .int a2)]) hx hb (dAt zX4_leftAtMost_0 6 rfl) rfl hl (by decide) rfl (fun ls hl => ?_)
  refine lv_iload_n hx hb (dAt zX4_leftAtMost_0 7 rfl) rfl (lv_at hl 3 rfl) ?_
  refine lv_iload_n hx hb (dAt zX4_leftAtMost_0 8 rfl) rfl (lv_at hl 0 rfl) ?_
  refine lv_iand hx hb (dAt zX4_leftAtMost_0 9 rfl) ?_
  obtain ⟨u14, hu14, h⟩ := q_bind h
  refine xFi (wc := ([] : va_W)) (w1 := ([] : va_W)) (wr := (w4 cI qT zT)) (ws2 := (w4 cI qT zT)) (va_runS (As := [.int (a2 &&& u7)]) (rest := []) ⟨hx, hb, hml, hown, htl⟩ (c_J6_bitCount_0f7a4 l D cI cJ cZ n  H.size  (a2 &&& u7) u14 hu14) (va_cwS 1 htl (gS W_333 W_150 W_151 W_152) rfl rfl rfl (by decide +kernel) ⟨Nat.le_of_ble_eq_true rfl, Nat.le_of_ble_eq_true rfl⟩) (xPS xP0 (xD0 A) hK hN) rfl rfl hl.1 rfl (lv_room (Nat.le_of_ble_eq_true rfl)) (dAt zX4_leftAtMost_0 10 rfl) ⟨Nat.zero_le _, Nat.zero_le _⟩) hS hA hP hD [] [0, 1, 2, 3, 4] [0, 1, 2, 3, 4] rfl rfl (by decide) (by decide) rfl (by decide) (fun H locs hP hD hS => ?_)
  refine lv_iload_n hx hb (dAt zX4_leftAtMost_0 11 rfl) rfl (lv_at hl 3 rfl) ?_
  refine lv_iload_n hx hb (dAt zX4_leftAtMost_0 12 rfl) rfl (lv_at hl 0 rfl) ?_
  refine lv_iconst (v := (-1)) hx hb (dAt zX4_leftAtMost_0 13 rfl) (by decide) ?_
  refine lv_ixor hx hb (dAt zX4_leftAtMost_0 14 rfl) ?_
  refine lv_iand hx hb (dAt zX4_leftAtMost_0 15 rfl) ?_
  obtain ⟨u22, hu22, h⟩ := q_bind h
  refine xFi (wc := ([] : va_W)) (w1 := ([] : va_W)) (wr := (w4 cI qT zT)) (ws2 := (w4 cI qT zT)) (va_runS (As := [.int (a2 &&& (u7 ^^^ (-1 : Int32)))]) (rest := [.int u14]) ⟨hx, hb, hml, hown, htl⟩ (c_J6_bitCount_0f7a4 l D cI cJ cZ n  H.size  (a2 &&& (u7 ^^^ (-1 : Int32))) u22 hu22) (va_cwS 1 htl (gS W_333 W_150 W_151 W_152) rfl rfl rfl (by decide +kernel) ⟨Nat.le_of_ble_eq_true rfl, Nat.le_of_ble_eq_true rfl⟩) (xPS xP0 (xD0 A) hK hN) rfl rfl hl.1 rfl (lv_room (Nat.le_of_ble_eq_true rfl)) (dAt zX4_leftAtMost_0 16 rfl) ⟨Nat.zero_le _, Nat.zero_le _⟩) hS hA hP hD [] [0, 1, 2, 3, 4] [0, 1, 2, 3, 4] rfl rfl (by decide) (by decide) rfl (by decide) (fun H locs hP hD hS => ?_)
  refine va_mmax (rest := []) hx hb (hml.trans hl.1.symm) hown (htl _ W_360) (htl _ W_361) (htl _ W_358) (htl _ W_362) (Nat.le_of_ble_eq_true rfl) (Nat.le_of_ble_eq_true rfl) (Nat.zero_le _) (Nat.zero_le _) (dAt zX4_leftAtMost_0 17 rfl) ?_
  obtain rfl := q_some h
  exact xRi hx hb hr hlocks hQ hAe hP hD hK hS rfl (dAt zX4_leftAtMost_0 18 rfl)
def b_X5_ring_30 (n : Nat) (zT : TI) (a1 : Int32) (u14 : Int32) (s_30 : Int32 × Int32) (k_30 : Int32 × Int32 → Option Int32) : Option Int32 := (if 10 ≤ s_30.2 then (if a1 = 0 then some s_30.1 else ((m_X4_leftAtMost n zT s_30.1 u14).bind fun u82 => some u82)) else ((m_X4_leftAtMost n zT s_30.2 u14).bind fun u44 => ((m_X4_leftAtMost n zT s_30.1 u14).bind fun u53 => (if u53 ≤ u44 then (k_30 (s_30.1, (s_30.2 + 1))) else (k_30 (s_30.2, (s_30.2 + 1)))))))
def m_X5_ring (n : Nat) (zX : TI) (zT : TI) (zI : TI) (zJ : TI) (zP : TI) (zC : TI) (zV : TI) (zF : TI) (zA : TL) (a1 : Int32) : Option Int32 := ((m_X5_isFlag n  a1).bind fun u1 => (if u1 = 0 then some (-2) else ((m_X4_fitting n zT).bind fun u14 => (if u14 = 0 then some (-6) else (loopF (b_X5_ring_30 n zT a1 u14 ) n (0, 1))))))
set_option maxHeartbeats 4000000 in
set_option maxRecDepth 100000 in
theorem c_X5_ring (l : Launch) (D : va_G) (cI cJ cZ : ClassId) (n : Nat) (qX : Nat → Nat) (qT : Nat → Nat) (qI : Nat → Nat) (qJ : Nat → Nat) (qP : Nat → Nat) (qC : Nat → Nat) (qV : Nat → Nat) (qF : Nat → Nat) (qA : Nat → Nat) (sz : Nat) (zX : TI) (zT : TI) (zI : TI) (zJ : TI) (zP : TI) (zC : TI) (zV : TI) (zF : TI) (zA : TL) (a1 : Int32) (out : Int32) (hm : m_X5_ring n zX zT zI zJ zP zC zV zF zA a1 = some out) : Met l yX5_ring (wsM yX5_ring cX5_ring 5 (some .int)) { frames := 3, cells := 0, slots := 0, locals := 69 } (xPre D (kT cI cJ cZ) (w5 qX qT qI qJ qP qC qF qA zX ++ (w4 cI qT zT ++ (w4 cI qI zI ++ (w4 cI qJ zJ ++ (w2 cI qP zP ++ (w1 qC qV zC ++ (w4 cI qV zV ++ (w3 cI qF zF ++ (w0 cJ qA zA))))))))) sz [.ref (qX 0), .int a1]) (xQi D (kT cI cJ cZ) (w5 qX qT qI qJ qP qC qF qA zX ++ (w4 cI qT zT ++ (w4 cI qI zI ++ (w4 cI qJ zJ ++ (w2 cI qP zP ++ (w1 qC qV zC ++ (w4 cI qV zV ++ (w3 cI qF zF ++ (w0 cJ qA zA))))))))) (w5 qX qT qI qJ qP qC qF qA zX ++ (w4 cI qT zT ++ (w4 cI qI zI ++ (w4 cI qJ zJ ++ (w2 cI qP zP ++ (w1 qC qV zC ++ (w4 cI qV zV ++ (w3 cI qF zF ++ (w0 cJ qA zA))))))))) sz out) 0 0 (va_A (w5 qX qT qI qJ qP qC qF qA zX ++ (w4 cI qT zT ++ (w4 cI qI zI ++ (w4 cI qJ zJ ++ (w2 cI qP zP ++ (w1 qC qV zC ++ (w4 cI qV zV ++ (w3 cI qF zF ++ (w0 cJ qA zA))))))))) sz) := by
  refine Met.ofW (cc := cX5_ring) (maxL := 5) (ret := (some .int)) (by decide) rfl ?_
  intro p e s m args below meth c s₁ B hml hv
  obtain ⟨hv, hsz, hP, hK, hD0, hN⟩ := hv
  have hx := B.exec; have hb := B.bytes; have hr := B.returns
  have hts := atoms_spec (ws := (wsM yX5_ring cX5_ring 5 (some .int))) B.pre
  have hown : s.vm.findClass RX5 = some m.cls := findClass_of_methodNamed B.named
  have hlocks := B.notSynchronized
  subst hsz
  have hD := hD0.self (sz := s.heap.size)
  obtain ⟨A, hAe⟩ : ∃ A, A = va_A (w5 qX qT qI qJ qP qC qF qA zX ++ (w4 cI qT zT ++ (w4 cI qI zI ++ (w4 cI qJ zJ ++ (w2 cI qP zP ++ (w1 qC qV zC ++ (w4 cI qV zV ++ (w3 cI qF zF ++ (w0 cJ qA zA))))))))) s.heap.size := ⟨_, rfl⟩
  rw [← hAe] at hD
  have hA : ∀ q : Nat, s.heap.size ≤ q → A q := fun q h => by rw [hAe]; exact Or.inr h
  have htl : ∀ w ∈ wsL_law, w.before args s = true := fun w h => hts w (List.mem_cons_of_mem _ h)
  refine xHead (R' := { frames := 3, cells := 0, slots := 0, locals := 69 }) rfl (fun Q H hQ hH => ?_)
  have hP : va_P D vwCl (w5 qX qT qI qJ qP qC qF qA zX ++ (w4 cI qT zT ++ (w4 cI qI zI ++ (w4 cI qJ zJ ++ (w2 cI qP zP ++ (w1 qC qV zC ++ (w4 cI qV zV ++ (w3 cI qF zF ++ (w0 cJ qA zA))))))))) H := by rw [hH]; exact hP
  have hS : va_S A s.heap H [] := by rw [hH]; exact va_S.rf
  refine xStart hv (Nat.le_of_ble_eq_true rfl) (lv := [(0, .ref (qX 0)), (1, .int a1)]) rfl (fun ls hl => ?_)
  have h := hm
  unfold m_X5_ring at h
  refine lv_iload_n hx hb (dAt zX5_ring_0 0 rfl) rfl (lv_at hl 1 rfl) ?_
  obtain ⟨u1, hu1, h⟩ := q_bind h
  refine xFz (wc := ([] : va_W)) (w1 := ([] : va_W)) (wr := (w5 qX qT qI qJ qP qC qF qA zX ++ (w4 cI qT zT ++ (w4 cI qI zI ++ (w4 cI qJ zJ ++ (w2 cI qP zP ++ (w1 qC qV zC ++ (w4 cI qV zV ++ (w3 cI qF zF ++ (w0 cJ qA zA)))))))))) (ws2 := (w5 qX qT qI qJ qP qC qF qA zX ++ (w4 cI qT zT ++ (w4 cI qI zI ++ (w4 cI qJ zJ ++ (w2 cI qP zP ++ (w1 qC qV zC ++ (w4 cI qV zV ++ (w3 cI qF zF ++ (w0 cJ qA zA)))))))))) (va_runS (As := [.int a1]) (rest := []) ⟨hx, hb, hml, hown, htl⟩ (c_X5_isFlag l D cI cJ cZ n  H.size  a1 u1 hu1) (va_cwS 1 htl (gS W_142 W_143 W_2 W_144) rfl rfl rfl (by decide +kernel) ⟨Nat.le_of_ble_eq_true rfl, Nat.le_of_ble_eq_true rfl⟩) (xPS xP0 (xD0 A) hK hN) rfl rfl hl.1 rfl (lv_room (Nat.le_of_ble_eq_true rfl)) (dAt zX5_ring_0 1 rfl) ⟨Nat.zero_le _, Nat.zero_le _⟩) hS hA hP hD [] [0, 1, 2, 3, 4, 5, 6, 7, 8, 9, 10, 11, 12, 13, 14, 15, 16, 17, 18, 19, 20, 21, 22, 23, 24, 25, 26, 27, 28, 29] [0, 1, 2, 3, 4, 5, 6, 7, 8, 9, 10, 11, 12, 13, 14, 15, 16, 17, 18, 19, 20, 21, 22, 23, 24, 25, 26, 27, 28, 29] rfl rfl (by decide) (by decide) rfl (by decide) (fun H locs hz1 hP hD hS => ?_)
  refine lv_if_ne (tgt := 10) hx hb (dAt zX5_ring_0 2 rfl) (by decide) (fun c_4 => ?_) (fun c_4 => ?_)
  · have h := q_neg c_4 h
    refine lv_aload_n hx hb (dAt zX5_ring_0 5 rfl) rfl (lv_at hl 0 rfl) ?_
    refine va_get (D := D) (ci := 5) (v := .ref (qT 0)) (C := RX5) (T := TX5) (N := 8) hx hb htl inlX5 hown hK hP 0 rfl rfl 0 (by decide) (htl _ W_15) (fun _ h9 => h9) rfl (dAt zX5_ring_0 6 rfl) ?_
    obtain ⟨u14, hu14, h⟩ := q_bind h
    have hPc : va_P D vwCl (w4 cI qT zT) H := hP.sub [1, 2, 3, 4, 5] rfl
    have hDc : va_D A (w4 cI qT zT) := hD.sub [1, 2, 3, 4, 5] (by decide) rfl
    refine xFi (wc := (w4 cI qT zT)) (w1 := (w4 cI qT zT)) (wr := (w5 qX qT qI qJ qP qC qF qA zX ++ (w4 cI qI zI ++ (w4 cI qJ zJ ++ (w2 cI qP zP ++ (w1 qC qV zC ++ (w4 cI qV zV ++ (w3 cI qF zF ++ (w0 cJ qA zA))))))))) (ws2 := (w5 qX qT qI qJ qP qC qF qA zX ++ (w4 cI qT zT ++ (w4 cI qI zI ++ (w4 cI qJ zJ ++ (w2 cI qP zP ++ (w1 qC qV zC ++ (w4 cI qV zV ++ (w3 cI qF zF ++ (w0 cJ qA zA)))))))))) (va_runV (As := []) (rest := []) ⟨hx, hb, hml, hown, htl⟩ (c_X4_fitting l D cI cJ cZ n qT H.size zT  u14 hu14) (cwV 0 htl (gV W_682 W_683 W_684 W_14 W_685) rfl rfl rfl (by decide +kernel) ⟨Nat.le_of_ble_eq_true rfl, Nat.le_of_ble_eq_true rfl⟩) (xPV hPc hDc hK hN 0 rfl rfl) rfl rfl hl.1 rfl (lv_room (Nat.le_of_ble_eq_true rfl)) (dAt zX5_ring_0 7 rfl) ⟨Nat.zero_le _, Nat.zero_le _⟩) hS hA hP hD [1, 2, 3, 4, 5] [0, 6, 7, 8, 9, 10, 11, 12, 13, 14, 15, 16, 17, 18, 19, 20, 21, 22, 23, 24, 25, 26, 27, 28, 29] [0, 25, 26, 27, 28, 29, 1, 2, 3, 4, 5, 6, 7, 8, 9, 10, 11, 12, 13, 14, 15, 16, 17, 18, 19, 20, 21, 22, 23, 24] rfl rfl (by decide) (by decide) rfl (by decide) (fun H locs hP hD hS => ?_)
    refine lv_istore_n (lv' := [(2, .int u14), (0, .ref (qX 0)), (1, .int a1)]) hx hb (dAt zX5_ring_0 8 rfl) rfl hl (by decide) rfl (fun ls hl => ?_)
    refine lv_iload_n hx hb (dAt zX5_ring_0 9 rfl) rfl (lv_at hl 0 rfl) ?_
    refine lv_if_ne (tgt := 25) hx hb (dAt zX5_ring_0 10 rfl) (by decide) (fun c_19 => ?_) (fun c_19 => ?_)
    · have h := q_neg c_19 h
      refine lv_iconst (v := 0) hx hb (dAt zX5_ring_0 13 rfl) (by decide) ?_
      refine lv_istore_n (lv' := [(3, .int 0), (2, .int u14), (0, .ref (qX 0)), (1, .int a1)]) hx hb (dAt zX5_ring_0 14 rfl) rfl hl (by decide) rfl (fun ls hl => ?_)
      refine lv_iconst (v := 1) hx hb (dAt zX5_ring_0 15 rfl) (by decide) ?_
      refine lv_istore (lv' := [(4, .int 1), (3, .int 0), (2, .int u14), (0, .ref (qX 0)), (1, .int a1)]) hx hb (dAt zX5_ring_0 16 rfl) hl (by decide) rfl (fun ls hl => ?_)
      have L_30 : ∀ (j_30 : Nat) (v3_30 : Int32) (v4_30 : Int32) (H : Heap) (locs : List Loc) (ls : Array Slot), loopF (b_X5_ring_30 n zT a1 u14) j_30 (v3_30, v4_30) = some out → va_P D vwCl (w5 qX qT qI qJ qP qC qF qA zX ++ (w4 cI qT zT ++ (w4 cI qI zI ++ (w4 cI qJ zJ ++ (w2 cI qP zP ++ (w1 qC qV zC ++ (w4 cI qV zV ++ (w3 cI qF zF ++ (w0 cJ qA zA))))))))) H → va_D A (w5 qX qT qI qJ qP qC qF qA zX ++ (w4 cI qT zT ++ (w4 cI qI zI ++ (w4 cI qJ zJ ++ (w2 cI qP zP ++ (w1 qC qV zC ++ (w4 cI qV zV ++ (w3 cI qF zF ++ (w0 cJ qA zA))))))))) → va_S A s.heap H locs → lv_has ls 5 [(0, .ref (qX 0)), (1, .int a1), (2, .int u14), (3, .int v3_30), (4, .int v4_30)] → W p l e { frames := 3, cells := 0, slots := 0, locals := 69 } s m args below meth c H locs 0 0 Q (F0 m 30 ls []) := by
        intro j_30
        induction j_30 with
        | zero => intro v3_30 v4_30 H locs ls h hP hD hS hl; exact loopF_0 h
        | succ j_30 ih_30 =>
          intro v3_30 v4_30 H locs ls h hP hD hS hl
          have h := loopF_s h
          unfold b_X5_ring_30 at h
          refine lv_iload hx hb (dAt zX5_ring_0 17 rfl) (lv_at hl 4 rfl) ?_
          refine lv_bipush (v := 10) hx hb (dAt zX5_ring_0 18 rfl) (by decide) ?_
          refine lv_icmp_ge (tgt := 68) hx hb (dAt zX5_ring_0 19 rfl) (by decide) (fun c_34 => ?_) (fun c_34 => ?_)
          · have h := q_pos c_34 h
            refine lv_iload_n hx hb (dAt zX5_ring_0 35 rfl) rfl (lv_at hl 1 rfl) ?_
            refine lv_if_ne (tgt := 76) hx hb (dAt zX5_ring_0 36 rfl) (by decide) (fun c_69 => ?_) (fun c_69 => ?_)
            · have h := q_neg c_69 h
              refine lv_aload_n hx hb (dAt zX5_ring_0 39 rfl) rfl (lv_at hl 0 rfl) ?_
              refine va_get (D := D) (ci := 5) (v := .ref (qT 0)) (C := RX5) (T := TX5) (N := 8) hx hb htl inlX5 hown hK hP 0 rfl rfl 0 (by decide) (htl _ W_15) (fun _ h9 => h9) rfl (dAt zX5_ring_0 40 rfl) ?_
              refine lv_iload_n hx hb (dAt zX5_ring_0 41 rfl) rfl (lv_at hl 3 rfl) ?_
              refine lv_iload_n hx hb (dAt zX5_ring_0 42 rfl) rfl (lv_at hl 2 rfl) ?_
              obtain ⟨u82, hu82, h⟩ := q_bind h
              have hPc : va_P D vwCl (w4 cI qT zT) H := hP.sub [1, 2, 3, 4, 5] rfl
              have hDc : va_D A (w4 cI qT zT) := hD.sub [1, 2, 3, 4, 5] (by decide) rfl
              refine xFi (wc := (w4 cI qT zT)) (w1 := (w4 cI qT zT)) (wr := (w5 qX qT qI qJ qP qC qF qA zX ++ (w4 cI qI zI ++ (w4 cI qJ zJ ++ (w2 cI qP zP ++ (w1 qC qV zC ++ (w4 cI qV zV ++ (w3 cI qF zF ++ (w0 cJ qA zA))))))))) (ws2 := (w5 qX qT qI qJ qP qC qF qA zX ++ (w4 cI qT zT ++ (w4 cI qI zI ++ (w4 cI qJ zJ ++ (w2 cI qP zP ++ (w1 qC qV zC ++ (w4 cI qV zV ++ (w3 cI qF zF ++ (w0 cJ qA zA)))))))))) (va_runV (As := [.int v3_30, .int u14]) (rest := []) ⟨hx, hb, hml, hown, htl⟩ (c_X4_leftAtMost l D cI cJ cZ n qT H.size zT v3_30 u14 u82 hu82) (cwV 2 htl (gV W_699 W_700 W_701 W_14 W_702) rfl rfl rfl (by decide +kernel) ⟨Nat.le_of_ble_eq_true rfl, Nat.le_of_ble_eq_true rfl⟩) (xPV hPc hDc hK hN 0 rfl rfl) rfl rfl hl.1 rfl (lv_room (Nat.le_of_ble_eq_true rfl)) (dAt zX5_ring_0 43 rfl) ⟨Nat.zero_le _, Nat.zero_le _⟩) hS hA hP hD [1, 2, 3, 4, 5] [0, 6, 7, 8, 9, 10, 11, 12, 13, 14, 15, 16, 17, 18, 19, 20, 21, 22, 23, 24, 25, 26, 27, 28, 29] [0, 25, 26, 27, 28, 29, 1, 2, 3, 4, 5, 6, 7, 8, 9, 10, 11, 12, 13, 14, 15, 16, 17, 18, 19, 20, 21, 22, 23, 24] rfl rfl (by decide) (by decide) rfl (by decide) (fun H locs hP hD hS => ?_)
              obtain rfl := q_some h
              exact xRi hx hb hr hlocks hQ hAe hP hD hK hS rfl (dAt zX5_ring_0 44 rfl)
            · have h := q_pos c_69 h
              refine lv_iload_n hx hb (dAt zX5_ring_0 37 rfl) rfl (lv_at hl 3 rfl) ?_
              refine lv_goto (tgt := 85) hx hb (dAt zX5_ring_0 38 rfl) (by decide) ?_
              obtain rfl := q_some h
              exact xRi hx hb hr hlocks hQ hAe hP hD hK hS rfl (dAt zX5_ring_0 44 rfl)
          · have h := q_neg c_34 h
            refine lv_aload_n hx hb (dAt zX5_ring_0 20 rfl) rfl (lv_at hl 0 rfl) ?_
            refine va_get (D := D) (ci := 5) (v := .ref (qT 0)) (C := RX5) (T := TX5) (N := 8) hx hb htl inlX5 hown hK hP 0 rfl rfl 0 (by decide) (htl _ W_15) (fun _ h9 => h9) rfl (dAt zX5_ring_0 21 rfl) ?_
            refine lv_iload hx hb (dAt zX5_ring_0 22 rfl) (lv_at hl 4 rfl) ?_
            refine lv_iload_n hx hb (dAt zX5_ring_0 23 rfl) rfl (lv_at hl 2 rfl) ?_
            obtain ⟨u44, hu44, h⟩ := q_bind h
            have hPc : va_P D vwCl (w4 cI qT zT) H := hP.sub [1, 2, 3, 4, 5] rfl
            have hDc : va_D A (w4 cI qT zT) := hD.sub [1, 2, 3, 4, 5] (by decide) rfl
            refine xFi (wc := (w4 cI qT zT)) (w1 := (w4 cI qT zT)) (wr := (w5 qX qT qI qJ qP qC qF qA zX ++ (w4 cI qI zI ++ (w4 cI qJ zJ ++ (w2 cI qP zP ++ (w1 qC qV zC ++ (w4 cI qV zV ++ (w3 cI qF zF ++ (w0 cJ qA zA))))))))) (ws2 := (w5 qX qT qI qJ qP qC qF qA zX ++ (w4 cI qT zT ++ (w4 cI qI zI ++ (w4 cI qJ zJ ++ (w2 cI qP zP ++ (w1 qC qV zC ++ (w4 cI qV zV ++ (w3 cI qF zF ++ (w0 cJ qA zA)))))))))) (va_runV (As := [.int v4_30, .int u14]) (rest := []) ⟨hx, hb, hml, hown, htl⟩ (c_X4_leftAtMost l D cI cJ cZ n qT H.size zT v4_30 u14 u44 hu44) (cwV 2 htl (gV W_699 W_700 W_701 W_14 W_702) rfl rfl rfl (by decide +kernel) ⟨Nat.le_of_ble_eq_true rfl, Nat.le_of_ble_eq_true rfl⟩) (xPV hPc hDc hK hN 0 rfl rfl) rfl rfl hl.1 rfl (lv_room (Nat.le_of_ble_eq_true rfl)) (dAt zX5_ring_0 24 rfl) ⟨Nat.zero_le _, Nat.zero_le _⟩) hS hA hP hD [1, 2, 3, 4, 5] [0, 6, 7, 8, 9, 10, 11, 12, 13, 14, 15, 16, 17, 18, 19, 20, 21, 22, 23, 24, 25, 26, 27, 28, 29] [0, 25, 26, 27, 28, 29, 1, 2, 3, 4, 5, 6, 7, 8, 9, 10, 11, 12, 13, 14, 15, 16, 17, 18, 19, 20, 21, 22, 23, 24] rfl rfl (by decide) (by decide) rfl (by decide) (fun H locs hP hD hS => ?_)
            refine lv_aload_n hx hb (dAt zX5_ring_0 25 rfl) rfl (lv_at hl 0 rfl) ?_
            refine va_get (D := D) (ci := 5) (v := .ref (qT 0)) (C := RX5) (T := TX5) (N := 8) hx hb htl inlX5 hown hK hP 0 rfl rfl 0 (by decide) (htl _ W_15) (fun _ h9 => h9) rfl (dAt zX5_ring_0 26 rfl) ?_
            refine lv_iload_n hx hb (dAt zX5_ring_0 27 rfl) rfl (lv_at hl 3 rfl) ?_
            refine lv_iload_n hx hb (dAt zX5_ring_0 28 rfl) rfl (lv_at hl 2 rfl) ?_
            obtain ⟨u53, hu53, h⟩ := q_bind h
            have hPc : va_P D vwCl (w4 cI qT zT) H := hP.sub [1, 2, 3, 4, 5] rfl
            have hDc : va_D A (w4 cI qT zT) := hD.sub [1, 2, 3, 4, 5] (by decide) rfl
            refine xFi (wc := (w4 cI qT zT)) (w1 := (w4 cI qT zT)) (wr := (w5 qX qT qI qJ qP qC qF qA zX ++ (w4 cI qI zI ++ (w4 cI qJ zJ ++ (w2 cI qP zP ++ (w1 qC qV zC ++ (w4 cI qV zV ++ (w3 cI qF zF ++ (w0 cJ qA zA))))))))) (ws2 := (w5 qX qT qI qJ qP qC qF qA zX ++ (w4 cI qT zT ++ (w4 cI qI zI ++ (w4 cI qJ zJ ++ (w2 cI qP zP ++ (w1 qC qV zC ++ (w4 cI qV zV ++ (w3 cI qF zF ++ (w0 cJ qA zA)))))))))) (va_runV (As := [.int v3_30, .int u14]) (rest := [.int u44]) ⟨hx, hb, hml, hown, htl⟩ (c_X4_leftAtMost l D cI cJ cZ n qT H.size zT v3_30 u14 u53 hu53) (cwV 2 htl (gV W_699 W_700 W_701 W_14 W_702) rfl rfl rfl (by decide +kernel) ⟨Nat.le_of_ble_eq_true rfl, Nat.le_of_ble_eq_true rfl⟩) (xPV hPc hDc hK hN 0 rfl rfl) rfl rfl hl.1 rfl (lv_room (Nat.le_of_ble_eq_true rfl)) (dAt zX5_ring_0 29 rfl) ⟨Nat.zero_le _, Nat.zero_le _⟩) hS hA hP hD [1, 2, 3, 4, 5] [0, 6, 7, 8, 9, 10, 11, 12, 13, 14, 15, 16, 17, 18, 19, 20, 21, 22, 23, 24, 25, 26, 27, 28, 29] [0, 25, 26, 27, 28, 29, 1, 2, 3, 4, 5, 6, 7, 8, 9, 10, 11, 12, 13, 14, 15, 16, 17, 18, 19, 20, 21, 22, 23, 24] rfl rfl (by decide) (by decide) rfl (by decide) (fun H locs hP hD hS => ?_)
            refine lv_icmp_ge (tgt := 62) hx hb (dAt zX5_ring_0 30 rfl) (by decide) (fun c_56 => ?_) (fun c_56 => ?_)
            · have h := q_pos c_56 h
              refine lv_iinc (v := (v4_30 + 1)) (lv' := [(4, .int (v4_30 + 1)), (0, .ref (qX 0)), (1, .int a1), (2, .int u14), (3, .int v3_30)]) hx hb (dAt zX5_ring_0 33 rfl) hl (k := 4) rfl rfl (by decide) rfl (fun ls hl => ?_)
              refine lv_goto (tgt := 30) hx hb (dAt zX5_ring_0 34 rfl) (by decide) ?_
              exact ih_30 v3_30 (v4_30 + 1) _ _ _ h hP hD hS (lv_sub hl [1, 2, 3, 4, 0] rfl)
            · have h := q_neg c_56 h
              refine lv_iload hx hb (dAt zX5_ring_0 31 rfl) (lv_at hl 4 rfl) ?_
              refine lv_istore_n (lv' := [(3, .int v4_30), (0, .ref (qX 0)), (1, .int a1), (2, .int u14), (4, .int v4_30)]) hx hb (dAt zX5_ring_0 32 rfl) rfl hl (by decide) rfl (fun ls hl => ?_)
              refine lv_iinc (v := (v4_30 + 1)) (lv' := [(4, .int (v4_30 + 1)), (3, .int v4_30), (0, .ref (qX 0)), (1, .int a1), (2, .int u14)]) hx hb (dAt zX5_ring_0 33 rfl) hl (k := 4) rfl rfl (by decide) rfl (fun ls hl => ?_)
              refine lv_goto (tgt := 30) hx hb (dAt zX5_ring_0 34 rfl) (by decide) ?_
              exact ih_30 v4_30 (v4_30 + 1) _ _ _ h hP hD hS (lv_sub hl [2, 3, 4, 1, 0] rfl)
      exact L_30 n 0 1 _ _ _ h hP hD hS (lv_sub hl [3, 4, 2, 1, 0] rfl)
    · have h := q_pos c_19 h
      refine lv_bipush (v := (-6)) hx hb (dAt zX5_ring_0 11 rfl) (by decide) ?_
      obtain rfl := q_some h
      exact xRi hx hb hr hlocks hQ hAe hP hD hK hS rfl (dAt zX5_ring_0 12 rfl)
  · have h := q_pos c_4 h
    refine lv_bipush (v := (-2)) hx hb (dAt zX5_ring_0 3 rfl) (by decide) ?_
    obtain rfl := q_some h
    exact xRi hx hb hr hlocks hQ hAe hP hD hK hS rfl (dAt zX5_ring_0 4 rfl)
def b_X0_startChances_2 (n : Nat) (s_2 : Int32 × TL) (k_2 : Int32 × TL → Option TL) : Option TL := (if 11 ≤ s_2.1 then some s_2.2 else (if s_2.1 = 0 then (gd (inB s_2.1 11) ((k_2 ((s_2.1 + 1), (upAL s_2.2 1 (vp_updL (s_2.2 1) (Int32.toNatClampNeg s_2.1) 1)))))) else (gd (inB s_2.1 11) ((k_2 ((s_2.1 + 1), (upAL s_2.2 1 (vp_updL (s_2.2 1) (Int32.toNatClampNeg s_2.1) 0))))))))
def m_X0_startChances (n : Nat) (zA : TL) : Option TL := (loopF (b_X0_startChances_2 n ) n (0, zA))
set_option maxHeartbeats 4000000 in
set_option maxRecDepth 100000 in
theorem c_X0_startChances (l : Launch) (D : va_G) (cI cJ cZ : ClassId) (n : Nat) (qA : Nat → Nat) (sz : Nat) (zA : TL) (out : TL) (hm : m_X0_startChances n zA = some out) : Met l yX0_startChances (wsM yX0_startChances cX0_startChances 2 none) { frames := 0, cells := 0, slots := 0, locals := 0 } (xPre D (kT cI cJ cZ) (w0 cJ qA zA) sz [.ref (qA 0)]) (xQv D (kT cI cJ cZ) (w0 cJ qA zA) (w0 cJ qA out) sz) 0 0 (va_A (w0 cJ qA zA) sz) := by
  refine Met.ofW (cc := cX0_startChances) (maxL := 2) (ret := none) (by decide) rfl ?_
  intro p e s m args below meth c s₁ B hml hv
  obtain ⟨hv, hsz, hP, hK, hD0, hN⟩ := hv
  have hx := B.exec; have hb := B.bytes; have hr := B.returns
  have hts := atoms_spec (ws := (wsM yX0_startChances cX0_startChances 2 none)) B.pre
  have hown : s.vm.findClass RX0 = some m.cls := findClass_of_methodNamed B.named
  have hlocks := B.notSynchronized
  subst hsz
  have hD := hD0.self (sz := s.heap.size)
  obtain ⟨A, hAe⟩ : ∃ A, A = va_A (w0 cJ qA zA) s.heap.size := ⟨_, rfl⟩
  rw [← hAe] at hD
  have hA : ∀ q : Nat, s.heap.size ≤ q → A q := fun q h => by rw [hAe]; exact Or.inr h
  have htl : ∀ w ∈ wsL_law, w.before args s = true := fun w h => hts w (List.mem_cons_of_mem _ h)
  refine xHead (R' := { frames := 0, cells := 0, slots := 0, locals := 0 }) rfl (fun Q H hQ hH => ?_)
  have hP : va_P D vwCl (w0 cJ qA zA) H := by rw [hH]; exact hP
  have hS : va_S A s.heap H [] := by rw [hH]; exact va_S.rf
  refine xStart hv (Nat.le_of_ble_eq_true rfl) (lv := [(0, .ref (qA 0))]) rfl (fun ls hl => ?_)
  have h := hm
  unfold m_X0_startChances at h
  refine lv_iconst (v := 0) hx hb (dAt zX0_startChances_0 0 rfl) (by decide) ?_
  refine lv_istore_n (lv' := [(1, .int 0), (0, .ref (qA 0))]) hx hb (dAt zX0_startChances_0 1 rfl) rfl hl (by decide) rfl (fun ls hl => ?_)
  have L_2 : ∀ (j_2 : Nat) (v1_2 : Int32) (zA_2 : TL) (H : Heap) (locs : List Loc) (ls : Array Slot), loopF (b_X0_startChances_2 n) j_2 (v1_2, zA_2) = some out → va_P D vwCl (w0 cJ qA zA_2) H → va_D A (w0 cJ qA zA_2) → va_S A s.heap H locs → lv_has ls 2 [(0, .ref (qA 0)), (1, .int v1_2)] → W p l e { frames := 0, cells := 0, slots := 0, locals := 0 } s m args below meth c H locs 0 0 Q (F0 m 2 ls []) := by
    intro j_2
    induction j_2 with
    | zero => intro v1_2 zA_2 H locs ls h hP hD hS hl; exact loopF_0 h
    | succ j_2 ih_2 =>
      intro v1_2 zA_2 H locs ls h hP hD hS hl
      have h := loopF_s h
      unfold b_X0_startChances_2 at h
      refine lv_iload_n hx hb (dAt zX0_startChances_0 2 rfl) rfl (lv_at hl 1 rfl) ?_
      refine lv_aload_n hx hb (dAt zX0_startChances_0 3 rfl) rfl (lv_at hl 0 rfl) ?_
      refine va_get (D := D) (ci := 0) (v := .ref (qA 1)) (C := RX0) (T := TX0) (N := 4) hx hb htl inlX0 hown hK hP 0 rfl rfl 0 (by decide) (htl _ W_77) (fun _ h9 => h9) rfl (dAt zX0_startChances_0 4 rfl) ?_
      refine va_alen (ty := .long) (v := 11) hx hb hK hP 1 1 rfl rfl rfl (dAt zX0_startChances_0 5 rfl) ?_
      refine lv_icmp_ge (tgt := 32) hx hb (dAt zX0_startChances_0 6 rfl) (by decide) (fun c_8 => ?_) (fun c_8 => ?_)
      · have h := q_pos c_8 h
        obtain rfl := q_some h
        exact xRv hx hb hr hlocks hQ hAe hP hD hK hS (dAt zX0_startChances_0 18 rfl)
      · have h := q_neg c_8 h
        refine lv_aload_n hx hb (dAt zX0_startChances_0 7 rfl) rfl (lv_at hl 0 rfl) ?_
        refine va_get (D := D) (ci := 0) (v := .ref (qA 1)) (C := RX0) (T := TX0) (N := 4) hx hb htl inlX0 hown hK hP 0 rfl rfl 0 (by decide) (htl _ W_77) (fun _ h9 => h9) rfl (dAt zX0_startChances_0 8 rfl) ?_
        refine lv_iload_n hx hb (dAt zX0_startChances_0 9 rfl) rfl (lv_at hl 1 rfl) ?_
        refine lv_iload_n hx hb (dAt zX0_startChances_0 10 rfl) rfl (lv_at hl 1 rfl) ?_
        refine lv_if_ne (tgt := 24) hx hb (dAt zX0_startChances_0 11 rfl) (by decide) (fun c_17 => ?_) (fun c_17 => ?_)
        · have h := q_neg c_17 h
          refine lv_lconst (v := 0) hx hb (dAt zX0_startChances_0 14 rfl) (by decide) ?_
          obtain ⟨hi_25, h⟩ := q_in h
          refine va_last hx hb hK hP hD hS 1 1 rfl rfl hi_25 (dAt zX0_startChances_0 15 rfl) (fun H locs hP hD hS => ?_)
          have hP : va_P D vwCl (w0x cJ qA (zA_2 0 1) (zA_2 0 2) (zA_2 0 3) (vp_updL (zA_2 1) (Int32.toNatClampNeg v1_2) 0)) H := hP
          have hD : va_D A (w0x cJ qA (zA_2 0 1) (zA_2 0 2) (zA_2 0 3) (vp_updL (zA_2 1) (Int32.toNatClampNeg v1_2) 0)) := hD
          refine lv_iinc (v := (v1_2 + 1)) (lv' := [(1, .int (v1_2 + 1)), (0, .ref (qA 0))]) hx hb (dAt zX0_startChances_0 16 rfl) hl (k := 1) rfl rfl (by decide) rfl (fun ls hl => ?_)
          refine lv_goto (tgt := 2) hx hb (dAt zX0_startChances_0 17 rfl) (by decide) ?_
          have hP : va_P D vwCl (w0 cJ qA (upAL zA_2 1 (vp_updL (zA_2 1) (Int32.toNatClampNeg v1_2) 0))) H := hP
          have hD : va_D A (w0 cJ qA (upAL zA_2 1 (vp_updL (zA_2 1) (Int32.toNatClampNeg v1_2) 0))) := hD
          exact ih_2 (v1_2 + 1) (upAL zA_2 1 (vp_updL (zA_2 1) (Int32.toNatClampNeg v1_2) 0)) _ _ _ h hP hD hS (lv_sub hl [1, 0] rfl)
        · have h := q_pos c_17 h
          refine lv_lconst (v := 1) hx hb (dAt zX0_startChances_0 12 rfl) (by decide) ?_
          refine lv_goto (tgt := 25) hx hb (dAt zX0_startChances_0 13 rfl) (by decide) ?_
          obtain ⟨hi_25, h⟩ := q_in h
          refine va_last hx hb hK hP hD hS 1 1 rfl rfl hi_25 (dAt zX0_startChances_0 15 rfl) (fun H locs hP hD hS => ?_)
          have hP : va_P D vwCl (w0x cJ qA (zA_2 0 1) (zA_2 0 2) (zA_2 0 3) (vp_updL (zA_2 1) (Int32.toNatClampNeg v1_2) 1)) H := hP
          have hD : va_D A (w0x cJ qA (zA_2 0 1) (zA_2 0 2) (zA_2 0 3) (vp_updL (zA_2 1) (Int32.toNatClampNeg v1_2) 1)) := hD
          refine lv_iinc (v := (v1_2 + 1)) (lv' := [(1, .int (v1_2 + 1)), (0, .ref (qA 0))]) hx hb (dAt zX0_startChances_0 16 rfl) hl (k := 1) rfl rfl (by decide) rfl (fun ls hl => ?_)
          refine lv_goto (tgt := 2) hx hb (dAt zX0_startChances_0 17 rfl) (by decide) ?_
          have hP : va_P D vwCl (w0 cJ qA (upAL zA_2 1 (vp_updL (zA_2 1) (Int32.toNatClampNeg v1_2) 1))) H := hP
          have hD : va_D A (w0 cJ qA (upAL zA_2 1 (vp_updL (zA_2 1) (Int32.toNatClampNeg v1_2) 1))) := hD
          exact ih_2 (v1_2 + 1) (upAL zA_2 1 (vp_updL (zA_2 1) (Int32.toNatClampNeg v1_2) 1)) _ _ _ h hP hD hS (lv_sub hl [1, 0] rfl)
  exact L_2 n 0 zA _ _ _ h hP hD hS (lv_sub hl [1, 0] rfl)
def b_X0_tooFew_5 (n : Nat) (zA : TL) (a1 : Int32) (s_5 : Int64 × Int32) (k_5 : Int64 × Int32 → Option Int64) : Option Int64 := (if a1 ≤ s_5.2 then some s_5.1 else (if 11 ≤ s_5.2 then some s_5.1 else (gd (inB s_5.2 11) ((k_5 ((s_5.1 + ((zA 1) (Int32.toNatClampNeg s_5.2))), (s_5.2 + 1)))))))
def m_X0_tooFew (n : Nat) (zA : TL) (a1 : Int32) : Option Int64 := (loopF (b_X0_tooFew_5 n zA a1 ) n (0, 0))
set_option maxHeartbeats 4000000 in
set_option maxRecDepth 100000 in
theorem c_X0_tooFew (l : Launch) (D : va_G) (cI cJ cZ : ClassId) (n : Nat) (qA : Nat → Nat) (sz : Nat) (zA : TL) (a1 : Int32) (out : Int64) (hm : m_X0_tooFew n zA a1 = some out) : Met l yX0_tooFew (wsM yX0_tooFew cX0_tooFew 5 (some .long)) { frames := 0, cells := 0, slots := 0, locals := 0 } (xPre D (kT cI cJ cZ) (w0 cJ qA zA) sz [.ref (qA 0), .int a1]) (xQl D (kT cI cJ cZ) (w0 cJ qA zA) (w0 cJ qA zA) sz out) 0 0 (va_A (w0 cJ qA zA) sz) := by
  refine Met.ofW (cc := cX0_tooFew) (maxL := 5) (ret := (some .long)) (by decide) rfl ?_
  intro p e s m args below meth c s₁ B hml hv
  obtain ⟨hv, hsz, hP, hK, hD0, hN⟩ := hv
  have hx := B.exec; have hb := B.bytes; have hr := B.returns
  have hts := atoms_spec (ws := (wsM yX0_tooFew cX0_tooFew 5 (some .long))) B.pre
  have hown : s.vm.findClass RX0 = some m.cls := findClass_of_methodNamed B.named
  have hlocks := B.notSynchronized
  subst hsz
  have hD := hD0.self (sz := s.heap.size)
  obtain ⟨A, hAe⟩ : ∃ A, A = va_A (w0 cJ qA zA) s.heap.size := ⟨_, rfl⟩
  rw [← hAe] at hD
  have hA : ∀ q : Nat, s.heap.size ≤ q → A q := fun q h => by rw [hAe]; exact Or.inr h
  have htl : ∀ w ∈ wsL_law, w.before args s = true := fun w h => hts w (List.mem_cons_of_mem _ h)
  refine xHead (R' := { frames := 0, cells := 0, slots := 0, locals := 0 }) rfl (fun Q H hQ hH => ?_)
  have hP : va_P D vwCl (w0 cJ qA zA) H := by rw [hH]; exact hP
  have hS : va_S A s.heap H [] := by rw [hH]; exact va_S.rf
  refine xStart hv (Nat.le_of_ble_eq_true rfl) (lv := [(0, .ref (qA 0)), (1, .int a1)]) rfl (fun ls hl => ?_)
  have h := hm
  unfold m_X0_tooFew at h
  refine lv_lconst (v := 0) hx hb (dAt zX0_tooFew_0 0 rfl) (by decide) ?_
  refine lv_lstore_n (lv' := [(2, .long 0), (0, .ref (qA 0)), (1, .int a1)]) hx hb (dAt zX0_tooFew_0 1 rfl) rfl hl (by decide) rfl (fun ls hl => ?_)
  refine lv_iconst (v := 0) hx hb (dAt zX0_tooFew_0 2 rfl) (by decide) ?_
  refine lv_istore (lv' := [(4, .int 0), (2, .long 0), (0, .ref (qA 0)), (1, .int a1)]) hx hb (dAt zX0_tooFew_0 3 rfl) hl (by decide) rfl (fun ls hl => ?_)
  have L_5 : ∀ (j_5 : Nat) (v2_5 : Int64) (v4_5 : Int32) (H : Heap) (locs : List Loc) (ls : Array Slot), loopF (b_X0_tooFew_5 n zA a1) j_5 (v2_5, v4_5) = some out → va_P D vwCl (w0 cJ qA zA) H → va_D A (w0 cJ qA zA) → va_S A s.heap H locs → lv_has ls 5 [(0, .ref (qA 0)), (1, .int a1), (2, .long v2_5), (4, .int v4_5)] → W p l e { frames := 0, cells := 0, slots := 0, locals := 0 } s m args below meth c H locs 0 0 Q (F0 m 5 ls []) := by
    intro j_5
    induction j_5 with
    | zero => intro v2_5 v4_5 H locs ls h hP hD hS hl; exact loopF_0 h
    | succ j_5 ih_5 =>
      intro v2_5 v4_5 H locs ls h hP hD hS hl
      have h := loopF_s h
      unfold b_X0_tooFew_5 at h
      refine lv_iload hx hb (dAt zX0_tooFew_0 4 rfl) (lv_at hl 3 rfl) ?_
      refine lv_iload_n hx hb (dAt zX0_tooFew_0 5 rfl) rfl (lv_at hl 1 rfl) ?_
      refine lv_icmp_ge (tgt := 37) hx hb (dAt zX0_tooFew_0 6 rfl) (by decide) (fun c_8 => ?_) (fun c_8 => ?_)
      · have h := q_pos c_8 h
        refine lv_lload_n hx hb (dAt zX0_tooFew_0 21 rfl) rfl (lv_at hl 2 rfl) ?_
        obtain rfl := q_some h
        exact xRl hx hb hr hlocks hQ hAe hP hD hK hS rfl (dAt zX0_tooFew_0 22 rfl)
      · have h := q_neg c_8 h
        refine lv_iload hx hb (dAt zX0_tooFew_0 7 rfl) (lv_at hl 3 rfl) ?_
        refine lv_aload_n hx hb (dAt zX0_tooFew_0 8 rfl) rfl (lv_at hl 0 rfl) ?_
        refine va_get (D := D) (ci := 0) (v := .ref (qA 1)) (C := RX0) (T := TX0) (N := 4) hx hb htl inlX0 hown hK hP 0 rfl rfl 0 (by decide) (htl _ W_77) (fun _ h9 => h9) rfl (dAt zX0_tooFew_0 9 rfl) ?_
        refine va_alen (ty := .long) (v := 11) hx hb hK hP 1 1 rfl rfl rfl (dAt zX0_tooFew_0 10 rfl) ?_
        refine lv_icmp_ge (tgt := 37) hx hb (dAt zX0_tooFew_0 11 rfl) (by decide) (fun c_18 => ?_) (fun c_18 => ?_)
        · have h := q_pos c_18 h
          refine lv_lload_n hx hb (dAt zX0_tooFew_0 21 rfl) rfl (lv_at hl 2 rfl) ?_
          obtain rfl := q_some h
          exact xRl hx hb hr hlocks hQ hAe hP hD hK hS rfl (dAt zX0_tooFew_0 22 rfl)
        · have h := q_neg c_18 h
          refine lv_lload_n hx hb (dAt zX0_tooFew_0 12 rfl) rfl (lv_at hl 2 rfl) ?_
          refine lv_aload_n hx hb (dAt zX0_tooFew_0 13 rfl) rfl (lv_at hl 0 rfl) ?_
          refine va_get (D := D) (ci := 0) (v := .ref (qA 1)) (C := RX0) (T := TX0) (N := 4) hx hb htl inlX0 hown hK hP 0 rfl rfl 0 (by decide) (htl _ W_77) (fun _ h9 => h9) rfl (dAt zX0_tooFew_0 14 rfl) ?_
          refine lv_iload hx hb (dAt zX0_tooFew_0 15 rfl) (lv_at hl 3 rfl) ?_
          obtain ⟨hi_28, h⟩ := q_in h
          refine va_lald hx hb hK hP 1 1 rfl rfl hi_28 (dAt zX0_tooFew_0 16 rfl) ?_
          refine lv_ladd hx hb (dAt zX0_tooFew_0 17 rfl) ?_
          refine lv_lstore_n (lv' := [(2, .long (v2_5 + ((zA 1) (Int32.toNatClampNeg v4_5)))), (0, .ref (qA 0)), (1, .int a1), (4, .int v4_5)]) hx hb (dAt zX0_tooFew_0 18 rfl) rfl hl (by decide) rfl (fun ls hl => ?_)
          refine lv_iinc (v := (v4_5 + 1)) (lv' := [(4, .int (v4_5 + 1)), (2, .long (v2_5 + ((zA 1) (Int32.toNatClampNeg v4_5)))), (0, .ref (qA 0)), (1, .int a1)]) hx hb (dAt zX0_tooFew_0 19 rfl) hl (k := 3) rfl rfl (by decide) rfl (fun ls hl => ?_)
          refine lv_goto (tgt := 5) hx hb (dAt zX0_tooFew_0 20 rfl) (by decide) ?_
          exact ih_5 (v2_5 + ((zA 1) (Int32.toNatClampNeg v4_5))) (v4_5 + 1) _ _ _ h hP hD hS (lv_sub hl [2, 3, 1, 0] rfl)
  exact L_5 n 0 0 _ _ _ h hP hD hS (lv_sub hl [2, 3, 1, 0] rfl)
def b_X0_ringOne_5 (n : Nat) (a1 : Int32) (s_5 : Int64 × Int32 × TL) (k_5 : Int64 × Int32 × TL → Option TL) : Option TL := (if 11 ≤ s_5.2.1 then some s_5.2.2 else (gd (inB s_5.2.1 11) ((gd (inB s_5.2.1 11) ((k_5 (((s_5.2.2 1) (Int32.toNatClampNeg s_5.2.1)), (s_5.2.1 + 1), (upAL s_5.2.2 1 (vp_updL (s_5.2.2 1) (Int32.toNatClampNeg s_5.2.1) ((((s_5.2.2 1) (Int32.toNatClampNeg s_5.2.1)) * (Int32.toInt64 ((10 : Int32) - a1))) + (s_5.1 * (Int32.toInt64 a1))))))))))))
def m_X0_ringOne (n : Nat) (zA : TL) (a1 : Int32) : Option TL := (loopF (b_X0_ringOne_5 n a1 ) n (0, 0, zA))
set_option maxHeartbeats 4000000 in
set_option maxRecDepth 100000 in
theorem c_X0_ringOne (l : Launch) (D : va_G) (cI cJ cZ : ClassId) (n : Nat) (qA : Nat → Nat) (sz : Nat) (zA : TL) (a1 : Int32) (out : TL) (hm : m_X0_ringOne n zA a1 = some out) : Met l yX0_ringOne (wsM yX0_ringOne cX0_ringOne 7 none) { frames := 0, cells := 0, slots := 0, locals := 0 } (xPre D (kT cI cJ cZ) (w0 cJ qA zA) sz [.ref (qA 0), .int a1]) (xQv D (kT cI cJ cZ) (w0 cJ qA zA) (w0 cJ qA out) sz) 0 0 (va_A (w0 cJ qA zA) sz) := by
  refine Met.ofW (cc := cX0_ringOne) (maxL := 7) (ret := none) (by decide) rfl ?_
  intro p e s m args below meth c s₁ B hml hv
  obtain ⟨hv, hsz, hP, hK, hD0, hN⟩ := hv
  have hx := B.exec; have hb := B.bytes; have hr := B.returns
  have hts := atoms_spec (ws := (wsM yX0_ringOne cX0_ringOne 7 none)) B.pre
  have hown : s.vm.findClass RX0 = some m.cls := findClass_of_methodNamed B.named
  have hlocks := B.notSynchronized
  subst hsz
  have hD := hD0.self (sz := s.heap.size)
  obtain ⟨A, hAe⟩ : ∃ A, A = va_A (w0 cJ qA zA) s.heap.size := ⟨_, rfl⟩
  rw [← hAe] at hD
  have hA : ∀ q : Nat, s.heap.size ≤ q → A q := fun q h => by rw [hAe]; exact Or.inr h
  have htl : ∀ w ∈ wsL_law, w.before args s = true := fun w h => hts w (List.mem_cons_of_mem _ h)
  refine xHead (R' := { frames := 0, cells := 0, slots := 0, locals := 0 }) rfl (fun Q H hQ hH => ?_)
  have hP : va_P D vwCl (w0 cJ qA zA) H := by rw [hH]; exact hP
  have hS : va_S A s.heap H [] := by rw [hH]; exact va_S.rf
  refine xStart hv (Nat.le_of_ble_eq_true rfl) (lv := [(0, .ref (qA 0)), (1, .int a1)]) rfl (fun ls hl => ?_)
  have h := hm
  unfold m_X0_ringOne at h
  refine lv_lconst (v := 0) hx hb (dAt zX0_ringOne_0 0 rfl) (by decide) ?_
  refine lv_lstore_n (lv' := [(2, .long 0), (0, .ref (qA 0)), (1, .int a1)]) hx hb (dAt zX0_ringOne_0 1 rfl) rfl hl (by decide) rfl (fun ls hl => ?_)
  refine lv_iconst (v := 0) hx hb (dAt zX0_ringOne_0 2 rfl) (by decide) ?_
  refine lv_istore (lv' := [(4, .int 0), (2, .long 0), (0, .ref (qA 0)), (1, .int a1)]) hx hb (dAt zX0_ringOne_0 3 rfl) hl (by decide) rfl (fun ls hl => ?_)
  have L_5 : ∀ (j_5 : Nat) (v2_5 : Int64) (v4_5 : Int32) (zA_5 : TL) (H : Heap) (locs : List Loc) (ls : Array Slot), loopF (b_X0_ringOne_5 n a1) j_5 (v2_5, v4_5, zA_5) = some out → va_P D vwCl (w0 cJ qA zA_5) H → va_D A (w0 cJ qA zA_5) → va_S A s.heap H locs → lv_has ls 7 [(0, .ref (qA 0)), (1, .int a1), (2, .long v2_5), (4, .int v4_5)] → W p l e { frames := 0, cells := 0, slots := 0, locals := 0 } s m args below meth c H locs 0 0 Q (F0 m 5 ls []) := by
    intro j_5
    induction j_5 with
    | zero => intro v2_5 v4_5 zA_5 H locs ls h hP hD hS hl; exact loopF_0 h
    | succ j_5 ih_5 =>
      intro v2_5 v4_5 zA_5 H locs ls h hP hD hS hl
      have h := loopF_s h
      unfold b_X0_ringOne_5 at h
      refine lv_iload hx hb (dAt zX0_ringOne_0 4 rfl) (lv_at hl 3 rfl) ?_
      refine lv_aload_n hx hb (dAt zX0_ringOne_0 5 rfl) rfl (lv_at hl 0 rfl) ?_
      refine va_get (D := D) (ci := 0) (v := .ref (qA 1)) (C := RX0) (T := TX0) (N := 4) hx hb htl inlX0 hown hK hP 0 rfl rfl 0 (by decide) (htl _ W_77) (fun _ h9 => h9) rfl (dAt zX0_ringOne_0 6 rfl) ?_
      refine va_alen (ty := .long) (v := 11) hx hb hK hP 1 1 rfl rfl rfl (dAt zX0_ringOne_0 7 rfl) ?_
      refine lv_icmp_ge (tgt := 53) hx hb (dAt zX0_ringOne_0 8 rfl) (by decide) (fun c_12 => ?_) (fun c_12 => ?_)
      · have h := q_pos c_12 h
        obtain rfl := q_some h
        exact xRv hx hb hr hlocks hQ hAe hP hD hK hS (dAt zX0_ringOne_0 33 rfl)
      · have h := q_neg c_12 h
        refine lv_aload_n hx hb (dAt zX0_ringOne_0 9 rfl) rfl (lv_at hl 0 rfl) ?_
        refine va_get (D := D) (ci := 0) (v := .ref (qA 1)) (C := RX0) (T := TX0) (N := 4) hx hb htl inlX0 hown hK hP 0 rfl rfl 0 (by decide) (htl _ W_77) (fun _ h9 => h9) rfl (dAt zX0_ringOne_0 10 rfl) ?_
        refine lv_iload hx hb (dAt zX0_ringOne_0 11 rfl) (lv_at hl 3 rfl) ?_
        obtain ⟨hi_21, h⟩ := q_in h
        refine va_lald hx hb hK hP 1 1 rfl rfl hi_21 (dAt zX0_ringOne_0 12 rfl) ?_
        refine lv_lstore (lv' := [(5, .long ((zA_5 1) (Int32.toNatClampNeg v4_5))), (0, .ref (qA 0)), (1, .int a1), (2, .long v2_5), (4, .int v4_5)]) hx hb (dAt zX0_ringOne_0 13 rfl) hl (by decide) rfl (fun ls hl => ?_)
        refine lv_aload_n hx hb (dAt zX0_ringOne_0 14 rfl) rfl (lv_at hl 1 rfl) ?_
        refine va_get (D := D) (ci := 0) (v := .ref (qA 1)) (C := RX0) (T := TX0) (N := 4) hx hb htl inlX0 hown hK hP 0 rfl rfl 0 (by decide) (htl _ W_77) (fun _ h9 => h9) rfl (dAt zX0_ringOne_0 15 rfl) ?_
        refine lv_iload hx hb (dAt zX0_ringOne_0 16 rfl) (lv_at hl 4 rfl) ?_
        refine lv_lload hx hb (dAt zX0_ringOne_0 17 rfl) (lv_at hl 0 rfl) ?_
        refine lv_bipush (v := 10) hx hb (dAt zX0_ringOne_0 18 rfl) (by decide) ?_
        refine lv_iload_n hx hb (dAt zX0_ringOne_0 19 rfl) rfl (lv_at hl 2 rfl) ?_
        refine lv_isub hx hb (dAt zX0_ringOne_0 20 rfl) ?_
        refine lv_i2l (v := (Int32.toInt64 ((10 : Int32) - a1))) hx hb (dAt zX0_ringOne_0 21 rfl) rfl ?_
        refine lv_lmul hx hb (dAt zX0_ringOne_0 22 rfl) ?_
        refine lv_lload_n hx hb (dAt zX0_ringOne_0 23 rfl) rfl (lv_at hl 3 rfl) ?_
        refine lv_iload_n hx hb (dAt zX0_ringOne_0 24 rfl) rfl (lv_at hl 2 rfl) ?_
        refine lv_i2l (v := (Int32.toInt64 a1)) hx hb (dAt zX0_ringOne_0 25 rfl) rfl ?_
        refine lv_lmul hx hb (dAt zX0_ringOne_0 26 rfl) ?_
        refine lv_ladd hx hb (dAt zX0_ringOne_0 27 rfl) ?_
        obtain ⟨hi_43, h⟩ := q_in h
        refine va_last hx hb hK hP hD hS 1 1 rfl rfl hi_43 (dAt zX0_ringOne_0 28 rfl) (fun H locs hP hD hS => ?_)
        have hP : va_P D vwCl (w0x cJ qA (zA_5 0 1) (zA_5 0 2) (zA_5 0 3) (vp_updL (zA_5 1) (Int32.toNatClampNeg v4_5) ((((zA_5 1) (Int32.toNatClampNeg v4_5)) * (Int32.toInt64 ((10 : Int32) - a1))) + (v2_5 * (Int32.toInt64 a1))))) H := hP
        have hD : va_D A (w0x cJ qA (zA_5 0 1) (zA_5 0 2) (zA_5 0 3) (vp_updL (zA_5 1) (Int32.toNatClampNeg v4_5) ((((zA_5 1) (Int32.toNatClampNeg v4_5)) * (Int32.toInt64 ((10 : Int32) - a1))) + (v2_5 * (Int32.toInt64 a1))))) := hD
        refine lv_lload hx hb (dAt zX0_ringOne_0 29 rfl) (lv_at hl 0 rfl) ?_
        refine lv_lstore_n (lv' := [(2, .long ((zA_5 1) (Int32.toNatClampNeg v4_5))), (5, .long ((zA_5 1) (Int32.toNatClampNeg v4_5))), (0, .ref (qA 0)), (1, .int a1), (4, .int v4_5)]) hx hb (dAt zX0_ringOne_0 30 rfl) rfl hl (by decide) rfl (fun ls hl => ?_)
        refine lv_iinc (v := (v4_5 + 1)) (lv' := [(4, .int (v4_5 + 1)), (2, .long ((zA_5 1) (Int32.toNatClampNeg v4_5))), (5, .long ((zA_5 1) (Int32.toNatClampNeg v4_5))), (0, .ref (qA 0)), (1, .int a1)]) hx hb (dAt zX0_ringOne_0 31 rfl) hl (k := 4) rfl rfl (by decide) rfl (fun ls hl => ?_)
        refine lv_goto (tgt := 5) hx hb (dAt zX0_ringOne_0 32 rfl) (by decide) ?_
        have hP : va_P D vwCl (w0 cJ qA (upAL zA_5 1 (vp_updL (zA_5 1) (Int32.toNatClampNeg v4_5) ((((zA_5 1) (Int32.toNatClampNeg v4_5)) * (Int32.toInt64 ((10 : Int32) - a1))) + (v2_5 * (Int32.toInt64 a1)))))) H := hP
        have hD : va_D A (w0 cJ qA (upAL zA_5 1 (vp_updL (zA_5 1) (Int32.toNatClampNeg v4_5) ((((zA_5 1) (Int32.toNatClampNeg v4_5)) * (Int32.toInt64 ((10 : Int32) - a1))) + (v2_5 * (Int32.toInt64 a1)))))) := hD
        exact ih_5 ((zA_5 1) (Int32.toNatClampNeg v4_5)) (v4_5 + 1) (upAL zA_5 1 (vp_updL (zA_5 1) (Int32.toNatClampNeg v4_5) ((((zA_5 1) (Int32.toNatClampNeg v4_5)) * (Int32.toInt64 ((10 : Int32) - a1))) + (v2_5 * (Int32.toInt64 a1))))) _ _ _ h hP hD hS (lv_sub hl [3, 4, 1, 0] rfl)
  exact L_5 n 0 0 zA _ _ _ h hP hD hS (lv_sub hl [2, 3, 1, 0] rfl)
def b_X0_ringAll_17 (n : Nat) (a1 : Int32) (a2 : Int32) (a3 : Int32) (s_17 : Int32 × TL) (k_17 : Int32 × TL → Option TL) : Option TL := (if a1 ≤ s_17.1 then ((m_X0_tooFew n s_17.2 a3).bind fun u71 => some (sfL s_17.2 1 ((s_17.2 0 3) - u71))) else ((m_X0_tooFew n s_17.2 a3).bind fun u30 => ((m_X0_ringOne n (sfL s_17.2 2 (((s_17.2 0 2) + u30) * (10 : Int64))) a2).bind fun u43 => (k_17 ((s_17.1 + 1), (sfL u43 3 ((u43 0 3) * (10 : Int64))))))))
def m_X0_ringAll (n : Nat) (zA : TL) (a1 : Int32) (a2 : Int32) (a3 : Int32) : Option TL := ((m_X0_startChances n zA).bind fun u1 => (loopF (b_X0_ringAll_17 n a1 a2 a3 ) n (0, (sfL (sfL u1 2 0) 3 1))))
set_option maxHeartbeats 4000000 in
set_option maxRecDepth 100000 in
theorem c_X0_ringAll (l : Launch) (D : va_G) (cI cJ cZ : ClassId) (n : Nat) (qA : Nat → Nat) (sz : Nat) (zA : TL) (a1 : Int32) (a2 : Int32) (a3 : Int32) (out : TL) (hm : m_X0_ringAll n zA a1 a2 a3 = some out) : Met l yX0_ringAll (wsM yX0_ringAll cX0_ringAll 5 none) { frames := 1, cells := 0, slots := 0, locals := 26 } (xPre D (kT cI cJ cZ) (w0 cJ qA zA) sz [.ref (qA 0), .int a1, .int a2, .int a3]) (xQv D (kT cI cJ cZ) (w0 cJ qA zA) (w0 cJ qA out) sz) 0 0 (va_A (w0 cJ qA zA) sz) := by
  refine Met.ofW (cc := cX0_ringAll) (maxL := 5) (ret := none) (by decide) rfl ?_
  intro p e s m args below meth c s₁ B hml hv
  obtain ⟨hv, hsz, hP, hK, hD0, hN⟩ := hv
  have hx := B.exec; have hb := B.bytes; have hr := B.returns
  have hts := atoms_spec (ws := (wsM yX0_ringAll cX0_ringAll 5 none)) B.pre
  have hown : s.vm.findClass RX0 = some m.cls := findClass_of_methodNamed B.named
  have hlocks := B.notSynchronized
  subst hsz
  have hD := hD0.self (sz := s.heap.size)
  obtain ⟨A, hAe⟩ : ∃ A, A = va_A (w0 cJ qA zA) s.heap.size := ⟨_, rfl⟩
  rw [← hAe] at hD
  have hA : ∀ q : Nat, s.heap.size ≤ q → A q := fun q h => by rw [hAe]; exact Or.inr h
  have htl : ∀ w ∈ wsL_law, w.before args s = true := fun w h => hts w (List.mem_cons_of_mem _ h)
  refine xHead (R' := { frames := 1, cells := 0, slots := 0, locals := 26 }) rfl (fun Q H hQ hH => ?_)
  have hP : va_P D vwCl (w0 cJ qA zA) H := by rw [hH]; exact hP
  have hS : va_S A s.heap H [] := by rw [hH]; exact va_S.rf
  refine xStart hv (Nat.le_of_ble_eq_true rfl) (lv := [(0, .ref (qA 0)), (1, .int a1), (2, .int a2), (3, .int a3)]) rfl (fun ls hl => ?_)
  have h := hm
  unfold m_X0_ringAll at h
  refine lv_aload_n hx hb (dAt zX0_ringAll_0 0 rfl) rfl (lv_at hl 0 rfl) ?_
  obtain ⟨u1, hu1, h⟩ := q_bind h
  refine xFv (wc := (w0 cJ qA zA)) (w1 := (w0 cJ qA u1)) (wr := ([] : va_W)) (ws2 := (w0 cJ qA u1)) (va_runV (As := []) (rest := []) ⟨hx, hb, hml, hown, htl⟩ (c_X0_startChances l D cI cJ cZ n qA H.size zA  u1 hu1) (cwV 0 htl (gV W_723 W_724 W_725 W_33 W_726) rfl rfl rfl (by decide +kernel) ⟨Nat.le_of_ble_eq_true rfl, Nat.le_of_ble_eq_true rfl⟩) (xPV hP hD hK hN 0 rfl rfl) rfl rfl hl.1 rfl (lv_room (Nat.le_of_ble_eq_true rfl)) (dAt zX0_ringAll_0 1 rfl) ⟨Nat.zero_le _, Nat.zero_le _⟩) hS hA hP hD [0, 1] [] [0, 1] rfl rfl (by decide) (by decide) rfl (by decide) (fun H locs hP hD hS => ?_)
  refine lv_aload_n hx hb (dAt zX0_ringAll_0 2 rfl) rfl (lv_at hl 0 rfl) ?_
  refine lv_lconst (v := 1) hx hb (dAt zX0_ringAll_0 3 rfl) (by decide) ?_
  refine va_put (D := D) (ci := 0) (v := .long 1) (ty := .long) (C := RX0) (T := TX0) (N := 4) hx hb htl inlX0 tyX0 tyX0_ok nmX0 hown hK hP hD hS 0 rfl rfl 3 (by decide) (htl _ W_80) (fun _ h9 => h9) rfl (by decide +kernel) rfl rfl (Nat.le_of_ble_eq_true rfl) (dAt zX0_ringAll_0 4 rfl) (fun H locs hP hD hS => ?_)
  have hP : va_P D vwCl (w0x cJ qA (u1 0 1) (u1 0 2) 1 (u1 1)) H := hP
  have hD : va_D A (w0x cJ qA (u1 0 1) (u1 0 2) 1 (u1 1)) := hD
  refine lv_aload_n hx hb (dAt zX0_ringAll_0 5 rfl) rfl (lv_at hl 0 rfl) ?_
  refine lv_lconst (v := 0) hx hb (dAt zX0_ringAll_0 6 rfl) (by decide) ?_
  refine va_put (D := D) (ci := 0) (v := .long 0) (ty := .long) (C := RX0) (T := TX0) (N := 4) hx hb htl inlX0 tyX0 tyX0_ok nmX0 hown hK hP hD hS 0 rfl rfl 2 (by decide) (htl _ W_79) (fun _ h9 => h9) rfl (by decide +kernel) rfl rfl (Nat.le_of_ble_eq_true rfl) (dAt zX0_ringAll_0 7 rfl) (fun H locs hP hD hS => ?_)
  have hP : va_P D vwCl (w0x cJ qA (u1 0 1) 0 1 (u1 1)) H := hP
  have hD : va_D A (w0x cJ qA (u1 0 1) 0 1 (u1 1)) := hD
  refine lv_iconst (v := 0) hx hb (dAt zX0_ringAll_0 8 rfl) (by decide) ?_
  refine lv_istore (lv' := [(4, .int 0), (0, .ref (qA 0)), (1, .int a1), (2, .int a2), (3, .int a3)]) hx hb (dAt zX0_ringAll_0 9 rfl) hl (by decide) rfl (fun ls hl => ?_)
  have hP : va_P D vwCl (w0 cJ qA (sfL (sfL u1 2 0) 3 1)) H := hP
  have hD : va_D A (w0 cJ qA (sfL (sfL u1 2 0) 3 1)) := hD
  have L_17 : ∀ (j_17 : Nat) (v4_17 : Int32) (zA_17 : TL) (H : Heap) (locs : List Loc) (ls : Array Slot), loopF (b_X0_ringAll_17 n a1 a2 a3) j_17 (v4_17, zA_17) = some out → va_P D vwCl (w0 cJ qA zA_17) H → va_D A (w0 cJ qA zA_17) → va_S A s.heap H locs → lv_has ls 5 [(0, .ref (qA 0)), (1, .int a1), (2, .int a2), (3, .int a3), (4, .int v4_17)] → W p l e { frames := 1, cells := 0, slots := 0, locals := 26 } s m args below meth c H locs 0 0 Q (F0 m 17 ls []) := by
    intro j_17
    induction j_17 with
    | zero => intro v4_17 zA_17 H locs ls h hP hD hS hl; exact loopF_0 h
    | succ j_17 ih_17 =>
      intro v4_17 zA_17 H locs ls h hP hD hS hl
      have h := loopF_s h
      unfold b_X0_ringAll_17 at h
      refine lv_iload hx hb (dAt zX0_ringAll_0 10 rfl) (lv_at hl 4 rfl) ?_
      refine lv_iload_n hx hb (dAt zX0_ringAll_0 11 rfl) rfl (lv_at hl 1 rfl) ?_
      refine lv_icmp_ge (tgt := 64) hx hb (dAt zX0_ringAll_0 12 rfl) (by decide) (fun c_20 => ?_) (fun c_20 => ?_)
      · have h := q_pos c_20 h
        refine lv_aload_n hx hb (dAt zX0_ringAll_0 34 rfl) rfl (lv_at hl 0 rfl) ?_
        refine lv_aload_n hx hb (dAt zX0_ringAll_0 35 rfl) rfl (lv_at hl 0 rfl) ?_
        refine va_get (D := D) (ci := 0) (v := .long (zA_17 0 3)) (C := RX0) (T := TX0) (N := 4) hx hb htl inlX0 hown hK hP 0 rfl rfl 3 (by decide) (htl _ W_80) (fun _ h9 => h9) rfl (dAt zX0_ringAll_0 36 rfl) ?_
        refine lv_aload_n hx hb (dAt zX0_ringAll_0 37 rfl) rfl (lv_at hl 0 rfl) ?_
        refine lv_iload_n hx hb (dAt zX0_ringAll_0 38 rfl) rfl (lv_at hl 3 rfl) ?_
        obtain ⟨u71, hu71, h⟩ := q_bind h
        refine xFl (wc := (w0 cJ qA zA_17)) (w1 := (w0 cJ qA zA_17)) (wr := ([] : va_W)) (ws2 := (w0 cJ qA zA_17)) (va_runV (As := [.int a3]) (rest := [.long (zA_17 0 3), .ref (qA 0)]) ⟨hx, hb, hml, hown, htl⟩ (c_X0_tooFew l D cI cJ cZ n qA H.size zA_17 a3 u71 hu71) (cwV 1 htl (gV W_727 W_728 W_729 W_33 W_730) rfl rfl rfl (by decide +kernel) ⟨Nat.le_of_ble_eq_true rfl, Nat.le_of_ble_eq_true rfl⟩) (xPV hP hD hK hN 0 rfl rfl) rfl rfl hl.1 rfl (lv_room (Nat.le_of_ble_eq_true rfl)) (dAt zX0_ringAll_0 39 rfl) ⟨Nat.zero_le _, Nat.zero_le _⟩) hS hA hP hD [0, 1] [] [0, 1] rfl rfl (by decide) (by decide) rfl (by decide) (fun H locs hP hD hS => ?_)
        refine lv_lsub hx hb (dAt zX0_ringAll_0 40 rfl) ?_
        refine va_put (D := D) (ci := 0) (v := .long ((zA_17 0 3) - u71)) (ty := .long) (C := RX0) (T := TX0) (N := 4) hx hb htl inlX0 tyX0 tyX0_ok nmX0 hown hK hP hD hS 0 rfl rfl 1 (by decide) (htl _ W_78) (fun _ h9 => h9) rfl (by decide +kernel) rfl rfl (Nat.le_of_ble_eq_true rfl) (dAt zX0_ringAll_0 41 rfl) (fun H locs hP hD hS => ?_)
        have hP : va_P D vwCl (w0x cJ qA ((zA_17 0 3) - u71) (zA_17 0 2) (zA_17 0 3) (zA_17 1)) H := hP
        have hD : va_D A (w0x cJ qA ((zA_17 0 3) - u71) (zA_17 0 2) (zA_17 0 3) (zA_17 1)) := hD
        have hP : va_P D vwCl (w0 cJ qA (sfL zA_17 1 ((zA_17 0 3) - u71))) H := hP
        have hD : va_D A (w0 cJ qA (sfL zA_17 1 ((zA_17 0 3) - u71))) := hD
        obtain rfl := q_some h
        exact xRv hx hb hr hlocks hQ hAe hP hD hK hS (dAt zX0_ringAll_0 42 rfl)
      · have h := q_neg c_20 h
        refine lv_aload_n hx hb (dAt zX0_ringAll_0 13 rfl) rfl (lv_at hl 0 rfl) ?_
        refine lv_aload_n hx hb (dAt zX0_ringAll_0 14 rfl) rfl (lv_at hl 0 rfl) ?_
        refine va_get (D := D) (ci := 0) (v := .long (zA_17 0 2)) (C := RX0) (T := TX0) (N := 4) hx hb htl inlX0 hown hK hP 0 rfl rfl 2 (by decide) (htl _ W_79) (fun _ h9 => h9) rfl (dAt zX0_ringAll_0 15 rfl) ?_
        refine lv_aload_n hx hb (dAt zX0_ringAll_0 16 rfl) rfl (lv_at hl 0 rfl) ?_
        refine lv_iload_n hx hb (dAt zX0_ringAll_0 17 rfl) rfl (lv_at hl 3 rfl) ?_
        obtain ⟨u30, hu30, h⟩ := q_bind h
        refine xFl (wc := (w0 cJ qA zA_17)) (w1 := (w0 cJ qA zA_17)) (wr := ([] : va_W)) (ws2 := (w0 cJ qA zA_17)) (va_runV (As := [.int a3]) (rest := [.long (zA_17 0 2), .ref (qA 0)]) ⟨hx, hb, hml, hown, htl⟩ (c_X0_tooFew l D cI cJ cZ n qA H.size zA_17 a3 u30 hu30) (cwV 1 htl (gV W_727 W_728 W_729 W_33 W_730) rfl rfl rfl (by decide +kernel) ⟨Nat.le_of_ble_eq_true rfl, Nat.le_of_ble_eq_true rfl⟩) (xPV hP hD hK hN 0 rfl rfl) rfl rfl hl.1 rfl (lv_room (Nat.le_of_ble_eq_true rfl)) (dAt zX0_ringAll_0 18 rfl) ⟨Nat.zero_le _, Nat.zero_le _⟩) hS hA hP hD [0, 1] [] [0, 1] rfl rfl (by decide) (by decide) rfl (by decide) (fun H locs hP hD hS => ?_)
        refine lv_ladd hx hb (dAt zX0_ringAll_0 19 rfl) ?_
        refine lv_ldc2 (v := 10) hx hb hown (htl _ W_722) (dAt zX0_ringAll_0 20 rfl) ?_
        refine lv_lmul hx hb (dAt zX0_ringAll_0 21 rfl) ?_
        refine va_put (D := D) (ci := 0) (v := .long (((zA_17 0 2) + u30) * (10 : Int64))) (ty := .long) (C := RX0) (T := TX0) (N := 4) hx hb htl inlX0 tyX0 tyX0_ok nmX0 hown hK hP hD hS 0 rfl rfl 2 (by decide) (htl _ W_79) (fun _ h9 => h9) rfl (by decide +kernel) rfl rfl (Nat.le_of_ble_eq_true rfl) (dAt zX0_ringAll_0 22 rfl) (fun H locs hP hD hS => ?_)
        have hP : va_P D vwCl (w0x cJ qA (zA_17 0 1) (((zA_17 0 2) + u30) * (10 : Int64)) (zA_17 0 3) (zA_17 1)) H := hP
        have hD : va_D A (w0x cJ qA (zA_17 0 1) (((zA_17 0 2) + u30) * (10 : Int64)) (zA_17 0 3) (zA_17 1)) := hD
        refine lv_aload_n hx hb (dAt zX0_ringAll_0 23 rfl) rfl (lv_at hl 0 rfl) ?_
        refine lv_iload_n hx hb (dAt zX0_ringAll_0 24 rfl) rfl (lv_at hl 2 rfl) ?_
        have hP : va_P D vwCl (w0 cJ qA (sfL zA_17 2 (((zA_17 0 2) + u30) * (10 : Int64)))) H := hP
        have hD : va_D A (w0 cJ qA (sfL zA_17 2 (((zA_17 0 2) + u30) * (10 : Int64)))) := hD
        obtain ⟨u43, hu43, h⟩ := q_bind h
        refine xFv (wc := (w0 cJ qA (sfL zA_17 2 (((zA_17 0 2) + u30) * (10 : Int64))))) (w1 := (w0 cJ qA u43)) (wr := ([] : va_W)) (ws2 := (w0 cJ qA u43)) (va_runV (As := [.int a2]) (rest := []) ⟨hx, hb, hml, hown, htl⟩ (c_X0_ringOne l D cI cJ cZ n qA H.size (sfL zA_17 2 (((zA_17 0 2) + u30) * (10 : Int64))) a2 u43 hu43) (cwV 1 htl (gV W_731 W_732 W_733 W_33 W_734) rfl rfl rfl (by decide +kernel) ⟨Nat.le_of_ble_eq_true rfl, Nat.le_of_ble_eq_true rfl⟩) (xPV hP hD hK hN 0 rfl rfl) rfl rfl hl.1 rfl (lv_room (Nat.le_of_ble_eq_true rfl)) (dAt zX0_ringAll_0 25 rfl) ⟨Nat.zero_le _, Nat.zero_le _⟩) hS hA hP hD [0, 1] [] [0, 1] rfl rfl (by decide) (by decide) rfl (by decide) (fun H locs hP hD hS => ?_)
        refine lv_aload_n hx hb (dAt zX0_ringAll_0 26 rfl) rfl (lv_at hl 0 rfl) ?_
        refine lv_dup hx hb (dAt zX0_ringAll_0 27 rfl) rfl ?_
        refine va_get (D := D) (ci := 0) (v := .long (u43 0 3)) (C := RX0) (T := TX0) (N := 4) hx hb htl inlX0 hown hK hP 0 rfl rfl 3 (by decide) (htl _ W_80) (fun _ h9 => h9) rfl (dAt zX0_ringAll_0 28 rfl) ?_
        refine lv_ldc2 (v := 10) hx hb hown (htl _ W_722) (dAt zX0_ringAll_0 29 rfl) ?_
        refine lv_lmul hx hb (dAt zX0_ringAll_0 30 rfl) ?_
        refine va_put (D := D) (ci := 0) (v := .long ((u43 0 3) * (10 : Int64))) (ty := .long) (C := RX0) (T := TX0) (N := 4) hx hb htl inlX0 tyX0 tyX0_ok nmX0 hown hK hP hD hS 0 rfl rfl 3 (by decide) (htl _ W_80) (fun _ h9 => h9) rfl (by decide +kernel) rfl rfl (Nat.le_of_ble_eq_true rfl) (dAt zX0_ringAll_0 31 rfl) (fun H locs hP hD hS => ?_)
        have hP : va_P D vwCl (w0x cJ qA (u43 0 1) (u43 0 2) ((u43 0 3) * (10 : Int64)) (u43 1)) H := hP
        have hD : va_D A (w0x cJ qA (u43 0 1) (u43 0 2) ((u43 0 3) * (10 : Int64)) (u43 1)) := hD
        refine lv_iinc (v := (v4_17 + 1)) (lv' := [(4, .int (v4_17 + 1)), (0, .ref (qA 0)), (1, .int a1), (2, .int a2), (3, .int a3)]) hx hb (dAt zX0_ringAll_0 32 rfl) hl (k := 4) rfl rfl (by decide) rfl (fun ls hl => ?_)
        refine lv_goto (tgt := 17) hx hb (dAt zX0_ringAll_0 33 rfl) (by decide) ?_
        have hP : va_P D vwCl (w0 cJ qA (sfL u43 3 ((u43 0 3) * (10 : Int64)))) H := hP
        have hD : va_D A (w0 cJ qA (sfL u43 3 ((u43 0 3) * (10 : Int64)))) := hD
        exact ih_17 (v4_17 + 1) (sfL u43 3 ((u43 0 3) * (10 : Int64))) _ _ _ h hP hD hS (lv_sub hl [1, 2, 3, 4, 0] rfl)
  exact L_17 n 0 (sfL (sfL u1 2 0) 3 1) _ _ _ h hP hD hS (lv_sub hl [1, 2, 3, 4, 0] rfl)
def m_X5_answers (n : Nat) (zX : TI) (zT : TI) (zI : TI) (zJ : TI) (zP : TI) (zC : TI) (zV : TI) (zF : TI) (zA : TL) (a1 : Int32) (a2 : Int32) (a3 : Int32) (a4 : Int32) : Option (Int64 × TL) := ((m_X5_isWithin n  a1 0 10).bind fun u4 => (if u4 = 0 then some ((-1000000000000000002), zA) else ((m_X5_isWithin n  a2 0 10).bind fun u14 => (if u14 = 0 then some ((-1000000000000000002), zA) else ((m_X5_isFlag n  a3).bind fun u21 => (if u21 = 0 then some ((-1000000000000000002), zA) else ((m_X5_isFlag n  a4).bind fun u29 => (if u29 = 0 then some ((-1000000000000000002), zA) else ((m_X4_rule n zT 0).bind fun u50 => ((m_X0_ringAll n zA a1 a2 u50).bind fun u53 => (if a3 = 0 then ((m_X5_partOf n  (u53 0 1) (u53 0 3) a4).bind fun u86 => some (u86, u53)) else ((m_X5_partOf n  (u53 0 2) (u53 0 3) a4).bind fun u86 => some (u86, u53)))))))))))))
set_option maxHeartbeats 4000000 in
set_option maxRecDepth 100000 in
theorem c_X5_answers (l : Launch) (D : va_G) (cI cJ cZ : ClassId) (n : Nat) (qX : Nat → Nat) (qT : Nat → Nat) (qI : Nat → Nat) (qJ : Nat → Nat) (qP : Nat → Nat) (qC : Nat → Nat) (qV : Nat → Nat) (qF : Nat → Nat) (qA : Nat → Nat) (sz : Nat) (zX : TI) (zT : TI) (zI : TI) (zJ : TI) (zP : TI) (zC : TI) (zV : TI) (zF : TI) (zA : TL) (a1 : Int32) (a2 : Int32) (a3 : Int32) (a4 : Int32) (out : Int64 × TL) (hm : m_X5_answers n zX zT zI zJ zP zC zV zF zA a1 a2 a3 a4 = some out) : Met l yX5_answers (wsM yX5_answers cX5_answers 5 (some .long)) { frames := 2, cells := 0, slots := 0, locals := 56 } (xPre D (kT cI cJ cZ) (w5 qX qT qI qJ qP qC qF qA zX ++ (w4 cI qT zT ++ (w4 cI qI zI ++ (w4 cI qJ zJ ++ (w2 cI qP zP ++ (w1 qC qV zC ++ (w4 cI qV zV ++ (w3 cI qF zF ++ (w0 cJ qA zA))))))))) sz [.ref (qX 0), .int a1, .int a2, .int a3, .int a4]) (xQl D (kT cI cJ cZ) (w5 qX qT qI qJ qP qC qF qA zX ++ (w4 cI qT zT ++ (w4 cI qI zI ++ (w4 cI qJ zJ ++ (w2 cI qP zP ++ (w1 qC qV zC ++ (w4 cI qV zV ++ (w3 cI qF zF ++ (w0 cJ qA zA))))))))) (w5 qX qT qI qJ qP qC qF qA zX ++ (w4 cI qT zT ++ (w4 cI qI zI ++ (w4 cI qJ zJ ++ (w2 cI qP zP ++ (w1 qC qV zC ++ (w4 cI qV zV ++ (w3 cI qF zF ++ (w0 cJ qA out.2))))))))) sz out.1) 0 0 (va_A (w5 qX qT qI qJ qP qC qF qA zX ++ (w4 cI qT zT ++ (w4 cI qI zI ++ (w4 cI qJ zJ ++ (w2 cI qP zP ++ (w1 qC qV zC ++ (w4 cI qV zV ++ (w3 cI qF zF ++ (w0 cJ qA zA))))))))) sz) := by
  refine Met.ofW (cc := cX5_answers) (maxL := 5) (ret := (some .long)) (by decide) rfl ?_
  intro p e s m args below meth c s₁ B hml hv
  obtain ⟨hv, hsz, hP, hK, hD0, hN⟩ := hv
  have hx := B.exec; have hb := B.bytes; have hr := B.returns
  have hts := atoms_spec (ws := (wsM yX5_answers cX5_answers 5 (some .long))) B.pre
  have hown : s.vm.findClass RX5 = some m.cls := findClass_of_methodNamed B.named
  have hlocks := B.notSynchronized
  subst hsz
  have hD := hD0.self (sz := s.heap.size)
  obtain ⟨A, hAe⟩ : ∃ A, A = va_A (w5 qX qT qI qJ qP qC qF qA zX ++ (w4 cI qT zT ++ (w4 cI qI zI ++ (w4 cI qJ zJ ++ (w2 cI qP zP ++ (w1 qC qV zC ++ (w4 cI qV zV ++ (w3 cI qF zF ++ (w0 cJ qA zA))))))))) s.heap.size := ⟨_, rfl⟩
  rw [← hAe] at hD
  have hA : ∀ q : Nat, s.heap.size ≤ q → A q := fun q h => by rw [hAe]; exact Or.inr h
  have htl : ∀ w ∈ wsL_law, w.before args s = true := fun w h => hts w (List.mem_cons_of_mem _ h)
  refine xHead (R' := { frames := 2, cells := 0, slots := 0, locals := 56 }) rfl (fun Q H hQ hH => ?_)
  have hP : va_P D vwCl (w5 qX qT qI qJ qP qC qF qA zX ++ (w4 cI qT zT ++ (w4 cI qI zI ++ (w4 cI qJ zJ ++ (w2 cI qP zP ++ (w1 qC qV zC ++ (w4 cI qV zV ++ (w3 cI qF zF ++ (w0 cJ qA zA))))))))) H := by rw [hH]; exact hP
  have hS : va_S A s.heap H [] := by rw [hH]; exact va_S.rf
  refine xStart hv (Nat.le_of_ble_eq_true rfl) (lv := [(0, .ref (qX 0)), (1, .int a1), (2, .int a2), (3, .int a3), (4, .int a4)]) rfl (fun ls hl => ?_)
  have h := hm
  unfold m_X5_answers at h
  refine lv_iload_n hx hb (dAt zX5_answers_0 0 rfl) rfl (lv_at hl 1 rfl) ?_
  refine lv_iconst (v := 0) hx hb (dAt zX5_answers_0 1 rfl) (by decide) ?_
  refine lv_bipush (v := 10) hx hb (dAt zX5_answers_0 2 rfl) (by decide) ?_
  obtain ⟨u4, hu4, h⟩ := q_bind h
  refine xFz (wc := ([] : va_W)) (w1 := ([] : va_W)) (wr := (w5 qX qT qI qJ qP qC qF qA zX ++ (w4 cI qT zT ++ (w4 cI qI zI ++ (w4 cI qJ zJ ++ (w2 cI qP zP ++ (w1 qC qV zC ++ (w4 cI qV zV ++ (w3 cI qF zF ++ (w0 cJ qA zA)))))))))) (ws2 := (w5 qX qT qI qJ qP qC qF qA zX ++ (w4 cI qT zT ++ (w4 cI qI zI ++ (w4 cI qJ zJ ++ (w2 cI qP zP ++ (w1 qC qV zC ++ (w4 cI qV zV ++ (w3 cI qF zF ++ (w0 cJ qA zA)))))))))) (va_runS (As := [.int a1, .int 0, .int 10]) (rest := []) ⟨hx, hb, hml, hown, htl⟩ (c_X5_isWithin l D cI cJ cZ n  H.size  a1 0 10 u4 hu4) (va_cwS 3 htl (gS W_110 W_111 W_2 W_112) rfl rfl rfl (by decide +kernel) ⟨Nat.le_of_ble_eq_true rfl, Nat.le_of_ble_eq_true rfl⟩) (xPS xP0 (xD0 A) hK hN) rfl rfl hl.1 rfl (lv_room (Nat.le_of_ble_eq_true rfl)) (dAt zX5_answers_0 3 rfl) ⟨Nat.zero_le _, Nat.zero_le _⟩) hS hA hP hD [] [0, 1, 2, 3, 4, 5, 6, 7, 8, 9, 10, 11, 12, 13, 14, 15, 16, 17, 18, 19, 20, 21, 22, 23, 24, 25, 26, 27, 28, 29] [0, 1, 2, 3, 4, 5, 6, 7, 8, 9, 10, 11, 12, 13, 14, 15, 16, 17, 18, 19, 20, 21, 22, 23, 24, 25, 26, 27, 28, 29] rfl rfl (by decide) (by decide) rfl (by decide) (fun H locs hz4 hP hD hS => ?_)
  refine lv_if_eq (tgt := 35) hx hb (dAt zX5_answers_0 4 rfl) (by decide) (fun c_7 => ?_) (fun c_7 => ?_)
  · have h := q_pos c_7 h
    refine lv_ldc2 (v := (-1000000000000000002)) hx hb hown (htl _ W_615) (dAt zX5_answers_0 16 rfl) ?_
    obtain rfl := q_some h
    exact xRl hx hb hr hlocks hQ hAe hP hD hK hS rfl (dAt zX5_answers_0 17 rfl)
  · have h := q_neg c_7 h
    refine lv_iload_n hx hb (dAt zX5_answers_0 5 rfl) rfl (lv_at hl 2 rfl) ?_
    refine lv_iconst (v := 0) hx hb (dAt zX5_answers_0 6 rfl) (by decide) ?_
    refine lv_bipush (v := 10) hx hb (dAt zX5_answers_0 7 rfl) (by decide) ?_
    obtain ⟨u14, hu14, h⟩ := q_bind h
    refine xFz (wc := ([] : va_W)) (w1 := ([] : va_W)) (wr := (w5 qX qT qI qJ qP qC qF qA zX ++ (w4 cI qT zT ++ (w4 cI qI zI ++ (w4 cI qJ zJ ++ (w2 cI qP zP ++ (w1 qC qV zC ++ (w4 cI qV zV ++ (w3 cI qF zF ++ (w0 cJ qA zA)))))))))) (ws2 := (w5 qX qT qI qJ qP qC qF qA zX ++ (w4 cI qT zT ++ (w4 cI qI zI ++ (w4 cI qJ zJ ++ (w2 cI qP zP ++ (w1 qC qV zC ++ (w4 cI qV zV ++ (w3 cI qF zF ++ (w0 cJ qA zA)))))))))) (va_runS (As := [.int a2, .int 0, .int 10]) (rest := []) ⟨hx, hb, hml, hown, htl⟩ (c_X5_isWithin l D cI cJ cZ n  H.size  a2 0 10 u14 hu14) (va_cwS 3 htl (gS W_110 W_111 W_2 W_112) rfl rfl rfl (by decide +kernel) ⟨Nat.le_of_ble_eq_true rfl, Nat.le_of_ble_eq_true rfl⟩) (xPS xP0 (xD0 A) hK hN) rfl rfl hl.1 rfl (lv_room (Nat.le_of_ble_eq_true rfl)) (dAt zX5_answers_0 8 rfl) ⟨Nat.zero_le _, Nat.zero_le _⟩) hS hA hP hD [] [0, 1, 2, 3, 4, 5, 6, 7, 8, 9, 10, 11, 12, 13, 14, 15, 16, 17, 18, 19, 20, 21, 22, 23, 24, 25, 26, 27, 28, 29] [0, 1, 2, 3, 4, 5, 6, 7, 8, 9, 10, 11, 12, 13, 14, 15, 16, 17, 18, 19, 20, 21, 22, 23, 24, 25, 26, 27, 28, 29] rfl rfl (by decide) (by decide) rfl (by decide) (fun H locs hz14 hP hD hS => ?_)
    refine lv_if_eq (tgt := 35) hx hb (dAt zX5_answers_0 9 rfl) (by decide) (fun c_17 => ?_) (fun c_17 => ?_)
    · have h := q_pos c_17 h
      refine lv_ldc2 (v := (-1000000000000000002)) hx hb hown (htl _ W_615) (dAt zX5_answers_0 16 rfl) ?_
      obtain rfl := q_some h
      exact xRl hx hb hr hlocks hQ hAe hP hD hK hS rfl (dAt zX5_answers_0 17 rfl)
    · have h := q_neg c_17 h
      refine lv_iload_n hx hb (dAt zX5_answers_0 10 rfl) rfl (lv_at hl 3 rfl) ?_
      obtain ⟨u21, hu21, h⟩ := q_bind h
      refine xFz (wc := ([] : va_W)) (w1 := ([] : va_W)) (wr := (w5 qX qT qI qJ qP qC qF qA zX ++ (w4 cI qT zT ++ (w4 cI qI zI ++ (w4 cI qJ zJ ++ (w2 cI qP zP ++ (w1 qC qV zC ++ (w4 cI qV zV ++ (w3 cI qF zF ++ (w0 cJ qA zA)))))))))) (ws2 := (w5 qX qT qI qJ qP qC qF qA zX ++ (w4 cI qT zT ++ (w4 cI qI zI ++ (w4 cI qJ zJ ++ (w2 cI qP zP ++ (w1 qC qV zC ++ (w4 cI qV zV ++ (w3 cI qF zF ++ (w0 cJ qA zA)))))))))) (va_runS (As := [.int a3]) (rest := []) ⟨hx, hb, hml, hown, htl⟩ (c_X5_isFlag l D cI cJ cZ n  H.size  a3 u21 hu21) (va_cwS 1 htl (gS W_142 W_143 W_2 W_144) rfl rfl rfl (by decide +kernel) ⟨Nat.le_of_ble_eq_true rfl, Nat.le_of_ble_eq_true rfl⟩) (xPS xP0 (xD0 A) hK hN) rfl rfl hl.1 rfl (lv_room (Nat.le_of_ble_eq_true rfl)) (dAt zX5_answers_0 11 rfl) ⟨Nat.zero_le _, Nat.zero_le _⟩) hS hA hP hD [] [0, 1, 2, 3, 4, 5, 6, 7, 8, 9, 10, 11, 12, 13, 14, 15, 16, 17, 18, 19, 20, 21, 22, 23, 24, 25, 26, 27, 28, 29] [0, 1, 2, 3, 4, 5, 6, 7, 8, 9, 10, 11, 12, 13, 14, 15, 16, 17, 18, 19, 20, 21, 22, 23, 24, 25, 26, 27, 28, 29] rfl rfl (by decide) (by decide) rfl (by decide) (fun H locs hz21 hP hD hS => ?_)
      refine lv_if_eq (tgt := 35) hx hb (dAt zX5_answers_0 12 rfl) (by decide) (fun c_24 => ?_) (fun c_24 => ?_)
      · have h := q_pos c_24 h
        refine lv_ldc2 (v := (-1000000000000000002)) hx hb hown (htl _ W_615) (dAt zX5_answers_0 16 rfl) ?_
        obtain rfl := q_some h
        exact xRl hx hb hr hlocks hQ hAe hP hD hK hS rfl (dAt zX5_answers_0 17 rfl)
      · have h := q_neg c_24 h
        refine lv_iload hx hb (dAt zX5_answers_0 13 rfl) (lv_at hl 4 rfl) ?_
        obtain ⟨u29, hu29, h⟩ := q_bind h
        refine xFz (wc := ([] : va_W)) (w1 := ([] : va_W)) (wr := (w5 qX qT qI qJ qP qC qF qA zX ++ (w4 cI qT zT ++ (w4 cI qI zI ++ (w4 cI qJ zJ ++ (w2 cI qP zP ++ (w1 qC qV zC ++ (w4 cI qV zV ++ (w3 cI qF zF ++ (w0 cJ qA zA)))))))))) (ws2 := (w5 qX qT qI qJ qP qC qF qA zX ++ (w4 cI qT zT ++ (w4 cI qI zI ++ (w4 cI qJ zJ ++ (w2 cI qP zP ++ (w1 qC qV zC ++ (w4 cI qV zV ++ (w3 cI qF zF ++ (w0 cJ qA zA)))))))))) (va_runS (As := [.int a4]) (rest := []) ⟨hx, hb, hml, hown, htl⟩ (c_X5_isFlag l D cI cJ cZ n  H.size  a4 u29 hu29) (va_cwS 1 htl (gS W_142 W_143 W_2 W_144) rfl rfl rfl (by decide +kernel) ⟨Nat.le_of_ble_eq_true rfl, Nat.le_of_ble_eq_true rfl⟩) (xPS xP0 (xD0 A) hK hN) rfl rfl hl.1 rfl (lv_room (Nat.le_of_ble_eq_true rfl)) (dAt zX5_answers_0 14 rfl) ⟨Nat.zero_le _, Nat.zero_le _⟩) hS hA hP hD [] [0, 1, 2, 3, 4, 5, 6, 7, 8, 9, 10, 11, 12, 13, 14, 15, 16, 17, 18, 19, 20, 21, 22, 23, 24, 25, 26, 27, 28, 29] [0, 1, 2, 3, 4, 5, 6, 7, 8, 9, 10, 11, 12, 13, 14, 15, 16, 17, 18, 19, 20, 21, 22, 23, 24, 25, 26, 27, 28, 29] rfl rfl (by decide) (by decide) rfl (by decide) (fun H locs hz29 hP hD hS => ?_)
        refine lv_if_ne (tgt := 39) hx hb (dAt zX5_answers_0 15 rfl) (by decide) (fun c_32 => ?_) (fun c_32 => ?_)
        · have h := q_neg c_32 h
          refine lv_aload_n hx hb (dAt zX5_answers_0 18 rfl) rfl (lv_at hl 0 rfl) ?_
          refine va_get (D := D) (ci := 5) (v := .ref (qA 0)) (C := RX5) (T := TX5) (N := 8) hx hb htl inlX5 hown hK hP 0 rfl rfl 7 (by decide) (htl _ W_34) (fun _ h9 => h9) rfl (dAt zX5_answers_0 19 rfl) ?_
          refine lv_iload_n hx hb (dAt zX5_answers_0 20 rfl) rfl (lv_at hl 1 rfl) ?_
          refine lv_iload_n hx hb (dAt zX5_answers_0 21 rfl) rfl (lv_at hl 2 rfl) ?_
          refine lv_aload_n hx hb (dAt zX5_answers_0 22 rfl) rfl (lv_at hl 0 rfl) ?_
          refine va_get (D := D) (ci := 5) (v := .ref (qT 0)) (C := RX5) (T := TX5) (N := 8) hx hb htl inlX5 hown hK hP 0 rfl rfl 0 (by decide) (htl _ W_15) (fun _ h9 => h9) rfl (dAt zX5_answers_0 23 rfl) ?_
          refine lv_iconst (v := 0) hx hb (dAt zX5_answers_0 24 rfl) (by decide) ?_
          obtain ⟨u50, hu50, h⟩ := q_bind h
          have hPc : va_P D vwCl (w4 cI qT zT) H := hP.sub [1, 2, 3, 4, 5] rfl
          have hDc : va_D A (w4 cI qT zT) := hD.sub [1, 2, 3, 4, 5] (by decide) rfl
          refine xFi (wc := (w4 cI qT zT)) (w1 := (w4 cI qT zT)) (wr := (w5 qX qT qI qJ qP qC qF qA zX ++ (w4 cI qI zI ++ (w4 cI qJ zJ ++ (w2 cI qP zP ++ (w1 qC qV zC ++ (w4 cI qV zV ++ (w3 cI qF zF ++ (w0 cJ qA zA))))))))) (ws2 := (w5 qX qT qI qJ qP qC qF qA zX ++ (w4 cI qT zT ++ (w4 cI qI zI ++ (w4 cI qJ zJ ++ (w2 cI qP zP ++ (w1 qC qV zC ++ (w4 cI qV zV ++ (w3 cI qF zF ++ (w0 cJ qA zA)))))))))) (va_runV (As := [.int 0]) (rest := [.int a2, .int a1, .ref (qA 0)]) ⟨hx, hb, hml, hown, htl⟩ (c_X4_rule l D cI cJ cZ n qT H.size zT 0 u50 hu50) (cwV 1 htl (gV W_175 W_176 W_177 W_14 W_178) rfl rfl rfl (by decide +kernel) ⟨Nat.le_of_ble_eq_true rfl, Nat.le_of_ble_eq_true rfl⟩) (xPV hPc hDc hK hN 0 rfl rfl) rfl rfl hl.1 rfl (lv_room (Nat.le_of_ble_eq_true rfl)) (dAt zX5_answers_0 25 rfl) ⟨Nat.zero_le _, Nat.zero_le _⟩) hS hA hP hD [1, 2, 3, 4, 5] [0, 6, 7, 8, 9, 10, 11, 12, 13, 14, 15, 16, 17, 18, 19, 20, 21, 22, 23, 24, 25, 26, 27, 28, 29] [0, 25, 26, 27, 28, 29, 1, 2, 3, 4, 5, 6, 7, 8, 9, 10, 11, 12, 13, 14, 15, 16, 17, 18, 19, 20, 21, 22, 23, 24] rfl rfl (by decide) (by decide) rfl (by decide) (fun H locs hP hD hS => ?_)
          obtain ⟨u53, hu53, h⟩ := q_bind h
          have hPc : va_P D vwCl (w0 cJ qA zA) H := hP.sub [28, 29] rfl
          have hDc : va_D A (w0 cJ qA zA) := hD.sub [28, 29] (by decide) rfl
          refine xFv (wc := (w0 cJ qA zA)) (w1 := (w0 cJ qA u53)) (wr := (w5 qX qT qI qJ qP qC qF qA zX ++ (w4 cI qT zT ++ (w4 cI qI zI ++ (w4 cI qJ zJ ++ (w2 cI qP zP ++ (w1 qC qV zC ++ (w4 cI qV zV ++ (w3 cI qF zF))))))))) (ws2 := (w5 qX qT qI qJ qP qC qF qA zX ++ (w4 cI qT zT ++ (w4 cI qI zI ++ (w4 cI qJ zJ ++ (w2 cI qP zP ++ (w1 qC qV zC ++ (w4 cI qV zV ++ (w3 cI qF zF ++ (w0 cJ qA u53)))))))))) (va_runV (As := [.int a1, .int a2, .int u50]) (rest := []) ⟨hx, hb, hml, hown, htl⟩ (c_X0_ringAll l D cI cJ cZ n qA H.size zA a1 a2 u50 u53 hu53) (cwV 3 htl (gV W_718 W_719 W_720 W_33 W_721) rfl rfl rfl (by decide +kernel) ⟨Nat.le_of_ble_eq_true rfl, Nat.le_of_ble_eq_true rfl⟩) (xPV hPc hDc hK hN 0 rfl rfl) rfl rfl hl.1 rfl (lv_room (Nat.le_of_ble_eq_true rfl)) (dAt zX5_answers_0 26 rfl) ⟨Nat.zero_le _, Nat.zero_le _⟩) hS hA hP hD [28, 29] [0, 1, 2, 3, 4, 5, 6, 7, 8, 9, 10, 11, 12, 13, 14, 15, 16, 17, 18, 19, 20, 21, 22, 23, 24, 25, 26, 27] [0, 1, 2, 3, 4, 5, 6, 7, 8, 9, 10, 11, 12, 13, 14, 15, 16, 17, 18, 19, 20, 21, 22, 23, 24, 25, 26, 27, 28, 29] rfl rfl (by decide) (by decide) rfl (by decide) (fun H locs hP hD hS => ?_)
          refine lv_iload_n hx hb (dAt zX5_answers_0 27 rfl) rfl (lv_at hl 3 rfl) ?_
          refine lv_if_ne (tgt := 70) hx hb (dAt zX5_answers_0 28 rfl) (by decide) (fun c_57 => ?_) (fun c_57 => ?_)
          · have h := q_neg c_57 h
            refine lv_aload_n hx hb (dAt zX5_answers_0 33 rfl) rfl (lv_at hl 0 rfl) ?_
            refine va_get (D := D) (ci := 5) (v := .ref (qA 0)) (C := RX5) (T := TX5) (N := 8) hx hb htl inlX5 hown hK hP 0 rfl rfl 7 (by decide) (htl _ W_34) (fun _ h9 => h9) rfl (dAt zX5_answers_0 34 rfl) ?_
            refine va_get (D := D) (ci := 0) (v := .long (u53 0 2)) (C := RX0) (T := TX0) (N := 4) hx hb htl inlX0 hown hK hP 28 rfl rfl 2 (by decide) (htl _ W_716) (fun _ h9 => h9) rfl (dAt zX5_answers_0 35 rfl) ?_
            refine lv_aload_n hx hb (dAt zX5_answers_0 36 rfl) rfl (lv_at hl 0 rfl) ?_
            refine va_get (D := D) (ci := 5) (v := .ref (qA 0)) (C := RX5) (T := TX5) (N := 8) hx hb htl inlX5 hown hK hP 0 rfl rfl 7 (by decide) (htl _ W_34) (fun _ h9 => h9) rfl (dAt zX5_answers_0 37 rfl) ?_
            refine va_get (D := D) (ci := 0) (v := .long (u53 0 3)) (C := RX0) (T := TX0) (N := 4) hx hb htl inlX0 hown hK hP 28 rfl rfl 3 (by decide) (htl _ W_717) (fun _ h9 => h9) rfl (dAt zX5_answers_0 38 rfl) ?_
            refine lv_iload hx hb (dAt zX5_answers_0 39 rfl) (lv_at hl 4 rfl) ?_
            obtain ⟨u86, hu86, h⟩ := q_bind h
            refine xFl (wc := ([] : va_W)) (w1 := ([] : va_W)) (wr := (w5 qX qT qI qJ qP qC qF qA zX ++ (w4 cI qT zT ++ (w4 cI qI zI ++ (w4 cI qJ zJ ++ (w2 cI qP zP ++ (w1 qC qV zC ++ (w4 cI qV zV ++ (w3 cI qF zF ++ (w0 cJ qA u53)))))))))) (ws2 := (w5 qX qT qI qJ qP qC qF qA zX ++ (w4 cI qT zT ++ (w4 cI qI zI ++ (w4 cI qJ zJ ++ (w2 cI qP zP ++ (w1 qC qV zC ++ (w4 cI qV zV ++ (w3 cI qF zF ++ (w0 cJ qA u53)))))))))) (va_runS (As := [.long (u53 0 2), .long (u53 0 3), .int a4]) (rest := []) ⟨hx, hb, hml, hown, htl⟩ (c_X5_partOf l D cI cJ cZ n  H.size  (u53 0 2) (u53 0 3) a4 u86 hu86) (va_cwS 3 htl (gS W_624 W_625 W_2 W_626) rfl rfl rfl (by decide +kernel) ⟨Nat.le_of_ble_eq_true rfl, Nat.le_of_ble_eq_true rfl⟩) (xPS xP0 (xD0 A) hK hN) rfl rfl hl.1 rfl (lv_room (Nat.le_of_ble_eq_true rfl)) (dAt zX5_answers_0 40 rfl) ⟨Nat.zero_le _, Nat.zero_le _⟩) hS hA hP hD [] [0, 1, 2, 3, 4, 5, 6, 7, 8, 9, 10, 11, 12, 13, 14, 15, 16, 17, 18, 19, 20, 21, 22, 23, 24, 25, 26, 27, 28, 29] [0, 1, 2, 3, 4, 5, 6, 7, 8, 9, 10, 11, 12, 13, 14, 15, 16, 17, 18, 19, 20, 21, 22, 23, 24, 25, 26, 27, 28, 29] rfl rfl (by decide) (by decide) rfl (by decide) (fun H locs hP hD hS => ?_)
            obtain rfl := q_some h
            exact xRl hx hb hr hlocks hQ hAe hP hD hK hS rfl (dAt zX5_answers_0 41 rfl)
          · have h := q_pos c_57 h
            refine lv_aload_n hx hb (dAt zX5_answers_0 29 rfl) rfl (lv_at hl 0 rfl) ?_
            refine va_get (D := D) (ci := 5) (v := .ref (qA 0)) (C := RX5) (T := TX5) (N := 8) hx hb htl inlX5 hown hK hP 0 rfl rfl 7 (by decide) (htl _ W_34) (fun _ h9 => h9) rfl (dAt zX5_answers_0 30 rfl) ?_
            refine va_get (D := D) (ci := 0) (v := .long (u53 0 1)) (C := RX0) (T := TX0) (N := 4) hx hb htl inlX0 hown hK hP 28 rfl rfl 1 (by decide) (htl _ W_715) (fun _ h9 => h9) rfl (dAt zX5_answers_0 31 rfl) ?_
            refine lv_goto (tgt := 77) hx hb (dAt zX5_answers_0 32 rfl) (by decide) ?_
            refine lv_aload_n hx hb (dAt zX5_answers_0 36 rfl) rfl (lv_at hl 0 rfl) ?_
            refine va_get (D := D) (ci := 5) (v := .ref (qA 0)) (C := RX5) (T := TX5) (N := 8) hx hb htl inlX5 hown hK hP 0 rfl rfl 7 (by decide) (htl _ W_34) (fun _ h9 => h9) rfl (dAt zX5_answers_0 37 rfl) ?_
            refine va_get (D := D) (ci := 0) (v := .long (u53 0 3)) (C := RX0) (T := TX0) (N := 4) hx hb htl inlX0 hown hK hP 28 rfl rfl 3 (by decide) (htl _ W_717) (fun _ h9 => h9) rfl (dAt zX5_answers_0 38 rfl) ?_
            refine lv_iload hx hb (dAt zX5_answers_0 39 rfl) (lv_at hl 4 rfl) ?_
            obtain ⟨u86, hu86, h⟩ := q_bind h
            refine xFl (wc := ([] : va_W)) (w1 := ([] : va_W)) (wr := (w5 qX qT qI qJ qP qC qF qA zX ++ (w4 cI qT zT ++ (w4 cI qI zI ++ (w4 cI qJ zJ ++ (w2 cI qP zP ++ (w1 qC qV zC ++ (w4 cI qV zV ++ (w3 cI qF zF ++ (w0 cJ qA u53)))))))))) (ws2 := (w5 qX qT qI qJ qP qC qF qA zX ++ (w4 cI qT zT ++ (w4 cI qI zI ++ (w4 cI qJ zJ ++ (w2 cI qP zP ++ (w1 qC qV zC ++ (w4 cI qV zV ++ (w3 cI qF zF ++ (w0 cJ qA u53)))))))))) (va_runS (As := [.long (u53 0 1), .long (u53 0 3), .int a4]) (rest := []) ⟨hx, hb, hml, hown, htl⟩ (c_X5_partOf l D cI cJ cZ n  H.size  (u53 0 1) (u53 0 3) a4 u86 hu86) (va_cwS 3 htl (gS W_624 W_625 W_2 W_626) rfl rfl rfl (by decide +kernel) ⟨Nat.le_of_ble_eq_true rfl, Nat.le_of_ble_eq_true rfl⟩) (xPS xP0 (xD0 A) hK hN) rfl rfl hl.1 rfl (lv_room (Nat.le_of_ble_eq_true rfl)) (dAt zX5_answers_0 40 rfl) ⟨Nat.zero_le _, Nat.zero_le _⟩) hS hA hP hD [] [0, 1, 2, 3, 4, 5, 6, 7, 8, 9, 10, 11, 12, 13, 14, 15, 16, 17, 18, 19, 20, 21, 22, 23, 24, 25, 26, 27, 28, 29] [0, 1, 2, 3, 4, 5, 6, 7, 8, 9, 10, 11, 12, 13, 14, 15, 16, 17, 18, 19, 20, 21, 22, 23, 24, 25, 26, 27, 28, 29] rfl rfl (by decide) (by decide) rfl (by decide) (fun H locs hP hD hS => ?_)
            obtain rfl := q_some h
            exact xRl hx hb hr hlocks hQ hAe hP hD hK hS rfl (dAt zX5_answers_0 41 rfl)
        · have h := q_pos c_32 h
          refine lv_ldc2 (v := (-1000000000000000002)) hx hb hown (htl _ W_615) (dAt zX5_answers_0 16 rfl) ?_
          obtain rfl := q_some h
          exact xRl hx hb hr hlocks hQ hAe hP hD hK hS rfl (dAt zX5_answers_0 17 rfl)
def m_X5_number (n : Nat) (zX : TI) (zT : TI) (zI : TI) (zJ : TI) (zP : TI) (zC : TI) (zV : TI) (zF : TI) (zA : TL) (a1 : Int32) (a2 : Int32) : Option Int32 := ((m_X5_isWithin n  a1 0 999).bind fun u5 => (if u5 = 0 then some (-2) else ((m_X5_isFlag n  a2).bind fun u12 => (if u12 = 0 then some (-2) else (if a2 = 0 then (if (jrem a1 (10 : Int32)) = 0 then some 0 else some 1) else (if (jrem a1 (10 : Int32)) = 0 then some (-6) else some (jrem a1 (10 : Int32))))))))
set_option maxHeartbeats 4000000 in
set_option maxRecDepth 100000 in
theorem c_X5_number (l : Launch) (D : va_G) (cI cJ cZ : ClassId) (n : Nat) (qX : Nat → Nat) (qT : Nat → Nat) (qI : Nat → Nat) (qJ : Nat → Nat) (qP : Nat → Nat) (qC : Nat → Nat) (qV : Nat → Nat) (qF : Nat → Nat) (qA : Nat → Nat) (sz : Nat) (zX : TI) (zT : TI) (zI : TI) (zJ : TI) (zP : TI) (zC : TI) (zV : TI) (zF : TI) (zA : TL) (a1 : Int32) (a2 : Int32) (out : Int32) (hm : m_X5_number n zX zT zI zJ zP zC zV zF zA a1 a2 = some out) : Met l yX5_number (wsM yX5_number cX5_number 4 (some .int)) { frames := 1, cells := 0, slots := 0, locals := 22 } (xPre D (kT cI cJ cZ) (w5 qX qT qI qJ qP qC qF qA zX ++ (w4 cI qT zT ++ (w4 cI qI zI ++ (w4 cI qJ zJ ++ (w2 cI qP zP ++ (w1 qC qV zC ++ (w4 cI qV zV ++ (w3 cI qF zF ++ (w0 cJ qA zA))))))))) sz [.ref (qX 0), .int a1, .int a2]) (xQi D (kT cI cJ cZ) (w5 qX qT qI qJ qP qC qF qA zX ++ (w4 cI qT zT ++ (w4 cI qI zI ++ (w4 cI qJ zJ ++ (w2 cI qP zP ++ (w1 qC qV zC ++ (w4 cI qV zV ++ (w3 cI qF zF ++ (w0 cJ qA zA))))))))) (w5 qX qT qI qJ qP qC qF qA zX ++ (w4 cI qT zT ++ (w4 cI qI zI ++ (w4 cI qJ zJ ++ (w2 cI qP zP ++ (w1 qC qV zC ++ (w4 cI qV zV ++ (w3 cI qF zF ++ (w0 cJ qA zA))))))))) sz out) 0 0 (va_A (w5 qX qT qI qJ qP qC qF qA zX ++ (w4 cI qT zT ++ (w4 cI qI zI ++ (w4 cI qJ zJ ++ (w2 cI qP zP ++ (w1 qC qV zC ++ (w4 cI qV zV ++ (w3 cI qF zF ++ (w0 cJ qA zA))))))))) sz) := by
  refine Met.ofW (cc := cX5_number) (maxL := 4) (ret := (some .int)) (by decide) rfl ?_
  intro p e s m args below meth c s₁ B hml hv
  obtain ⟨hv, hsz, hP, hK, hD0, hN⟩ := hv
  have hx := B.exec; have hb := B.bytes; have hr := B.returns
  have hts := atoms_spec (ws := (wsM yX5_number cX5_number 4 (some .int))) B.pre
  have hown : s.vm.findClass RX5 = some m.cls := findClass_of_methodNamed B.named
  have hlocks := B.notSynchronized
  subst hsz
  have hD := hD0.self (sz := s.heap.size)
  obtain ⟨A, hAe⟩ : ∃ A, A = va_A (w5 qX qT qI qJ qP qC qF qA zX ++ (w4 cI qT zT ++ (w4 cI qI zI ++ (w4 cI qJ zJ ++ (w2 cI qP zP ++ (w1 qC qV zC ++ (w4 cI qV zV ++ (w3 cI qF zF ++ (w0 cJ qA zA))))))))) s.heap.size := ⟨_, rfl⟩
  rw [← hAe] at hD
  have hA : ∀ q : Nat, s.heap.size ≤ q → A q := fun q h => by rw [hAe]; exact Or.inr h
  have htl : ∀ w ∈ wsL_law, w.before args s = true := fun w h => hts w (List.mem_cons_of_mem _ h)
  refine xHead (R' := { frames := 1, cells := 0, slots := 0, locals := 22 }) rfl (fun Q H hQ hH => ?_)
  have hP : va_P D vwCl (w5 qX qT qI qJ qP qC qF qA zX ++ (w4 cI qT zT ++ (w4 cI qI zI ++ (w4 cI qJ zJ ++ (w2 cI qP zP ++ (w1 qC qV zC ++ (w4 cI qV zV ++ (w3 cI qF zF ++ (w0 cJ qA zA))))))))) H := by rw [hH]; exact hP
  have hS : va_S A s.heap H [] := by rw [hH]; exact va_S.rf
  refine xStart hv (Nat.le_of_ble_eq_true rfl) (lv := [(0, .ref (qX 0)), (1, .int a1), (2, .int a2)]) rfl (fun ls hl => ?_)
  have h := hm
  unfold m_X5_number at h
  refine lv_iload_n hx hb (dAt zX5_number_0 0 rfl) rfl (lv_at hl 1 rfl) ?_
  refine lv_iconst (v := 0) hx hb (dAt zX5_number_0 1 rfl) (by decide) ?_
  refine lv_sipush (v := 999) hx hb (dAt zX5_number_0 2 rfl) (by decide) ?_
  obtain ⟨u5, hu5, h⟩ := q_bind h
  refine xFz (wc := ([] : va_W)) (w1 := ([] : va_W)) (wr := (w5 qX qT qI qJ qP qC qF qA zX ++ (w4 cI qT zT ++ (w4 cI qI zI ++ (w4 cI qJ zJ ++ (w2 cI qP zP ++ (w1 qC qV zC ++ (w4 cI qV zV ++ (w3 cI qF zF ++ (w0 cJ qA zA)))))))))) (ws2 := (w5 qX qT qI qJ qP qC qF qA zX ++ (w4 cI qT zT ++ (w4 cI qI zI ++ (w4 cI qJ zJ ++ (w2 cI qP zP ++ (w1 qC qV zC ++ (w4 cI qV zV ++ (w3 cI qF zF ++ (w0 cJ qA zA)))))))))) (va_runS (As := [.int a1, .int 0, .int 999]) (rest := []) ⟨hx, hb, hml, hown, htl⟩ (c_X5_isWithin l D cI cJ cZ n  H.size  a1 0 999 u5 hu5) (va_cwS 3 htl (gS W_110 W_111 W_2 W_112) rfl rfl rfl (by decide +kernel) ⟨Nat.le_of_ble_eq_true rfl, Nat.le_of_ble_eq_true rfl⟩) (xPS xP0 (xD0 A) hK hN) rfl rfl hl.1 rfl (lv_room (Nat.le_of_ble_eq_true rfl)) (dAt zX5_number_0 3 rfl) ⟨Nat.zero_le _, Nat.zero_le _⟩) hS hA hP hD [] [0, 1, 2, 3, 4, 5, 6, 7, 8, 9, 10, 11, 12, 13, 14, 15, 16, 17, 18, 19, 20, 21, 22, 23, 24, 25, 26, 27, 28, 29] [0, 1, 2, 3, 4, 5, 6, 7, 8, 9, 10, 11, 12, 13, 14, 15, 16, 17, 18, 19, 20, 21, 22, 23, 24, 25, 26, 27, 28, 29] rfl rfl (by decide) (by decide) rfl (by decide) (fun H locs hz5 hP hD hS => ?_)
  refine lv_if_eq (tgt := 18) hx hb (dAt zX5_number_0 4 rfl) (by decide) (fun c_8 => ?_) (fun c_8 => ?_)
  · have h := q_pos c_8 h
    refine lv_bipush (v := (-2)) hx hb (dAt zX5_number_0 8 rfl) (by decide) ?_
    obtain rfl := q_some h
    exact xRi hx hb hr hlocks hQ hAe hP hD hK hS rfl (dAt zX5_number_0 9 rfl)
  · have h := q_neg c_8 h
    refine lv_iload_n hx hb (dAt zX5_number_0 5 rfl) rfl (lv_at hl 2 rfl) ?_
    obtain ⟨u12, hu12, h⟩ := q_bind h
    refine xFz (wc := ([] : va_W)) (w1 := ([] : va_W)) (wr := (w5 qX qT qI qJ qP qC qF qA zX ++ (w4 cI qT zT ++ (w4 cI qI zI ++ (w4 cI qJ zJ ++ (w2 cI qP zP ++ (w1 qC qV zC ++ (w4 cI qV zV ++ (w3 cI qF zF ++ (w0 cJ qA zA)))))))))) (ws2 := (w5 qX qT qI qJ qP qC qF qA zX ++ (w4 cI qT zT ++ (w4 cI qI zI ++ (w4 cI qJ zJ ++ (w2 cI qP zP ++ (w1 qC qV zC ++ (w4 cI qV zV ++ (w3 cI qF zF ++ (w0 cJ qA zA)))))))))) (va_runS (As := [.int a2]) (rest := []) ⟨hx, hb, hml, hown, htl⟩ (c_X5_isFlag l D cI cJ cZ n  H.size  a2 u12 hu12) (va_cwS 1 htl (gS W_142 W_143 W_2 W_144) rfl rfl rfl (by decide +kernel) ⟨Nat.le_of_ble_eq_true rfl, Nat.le_of_ble_eq_true rfl⟩) (xPS xP0 (xD0 A) hK hN) rfl rfl hl.1 rfl (lv_room (Nat.le_of_ble_eq_true rfl)) (dAt zX5_number_0 6 rfl) ⟨Nat.zero_le _, Nat.zero_le _⟩) hS hA hP hD [] [0, 1, 2, 3, 4, 5, 6, 7, 8, 9, 10, 11, 12, 13, 14, 15, 16, 17, 18, 19, 20, 21, 22, 23, 24, 25, 26, 27, 28, 29] [0, 1, 2, 3, 4, 5, 6, 7, 8, 9, 10, 11, 12, 13, 14, 15, 16, 17, 18, 19, 20, 21, 22, 23, 24, 25, 26, 27, 28, 29] rfl rfl (by decide) (by decide) rfl (by decide) (fun H locs hz12 hP hD hS => ?_)
    refine lv_if_ne (tgt := 21) hx hb (dAt zX5_number_0 7 rfl) (by decide) (fun c_15 => ?_) (fun c_15 => ?_)
    · have h := q_neg c_15 h
      refine lv_iload_n hx hb (dAt zX5_number_0 10 rfl) rfl (lv_at hl 1 rfl) ?_
      refine lv_bipush (v := 10) hx hb (dAt zX5_number_0 11 rfl) (by decide) ?_
      refine lv_irem hx hb (dAt zX5_number_0 12 rfl) (by decide) ?_
      refine lv_istore_n (lv' := [(3, .int (jrem a1 (10 : Int32))), (0, .ref (qX 0)), (1, .int a1), (2, .int a2)]) hx hb (dAt zX5_number_0 13 rfl) rfl hl (by decide) rfl (fun ls hl => ?_)
      refine lv_iload_n hx hb (dAt zX5_number_0 14 rfl) rfl (lv_at hl 3 rfl) ?_
      refine lv_if_ne (tgt := 40) hx hb (dAt zX5_number_0 15 rfl) (by decide) (fun c_27 => ?_) (fun c_27 => ?_)
      · have h := q_neg c_27 h
        refine lv_iload_n hx hb (dAt zX5_number_0 22 rfl) rfl (lv_at hl 0 rfl) ?_
        refine lv_if_ne (tgt := 49) hx hb (dAt zX5_number_0 23 rfl) (by decide) (fun c_41 => ?_) (fun c_41 => ?_)
        · have h := q_neg c_41 h
          refine lv_iload_n hx hb (dAt zX5_number_0 26 rfl) rfl (lv_at hl 0 rfl) ?_
          obtain rfl := q_some h
          exact xRi hx hb hr hlocks hQ hAe hP hD hK hS rfl (dAt zX5_number_0 27 rfl)
        · have h := q_pos c_41 h
          refine lv_bipush (v := (-6)) hx hb (dAt zX5_number_0 24 rfl) (by decide) ?_
          refine lv_goto (tgt := 50) hx hb (dAt zX5_number_0 25 rfl) (by decide) ?_
          obtain rfl := q_some h
          exact xRi hx hb hr hlocks hQ hAe hP hD hK hS rfl (dAt zX5_number_0 27 rfl)
      · have h := q_pos c_27 h
        refine lv_iload_n hx hb (dAt zX5_number_0 16 rfl) rfl (lv_at hl 0 rfl) ?_
        refine lv_if_ne (tgt := 38) hx hb (dAt zX5_number_0 17 rfl) (by decide) (fun c_31 => ?_) (fun c_31 => ?_)
        · have h := q_neg c_31 h
          refine lv_iconst (v := 1) hx hb (dAt zX5_number_0 20 rfl) (by decide) ?_
          obtain rfl := q_some h
          exact xRi hx hb hr hlocks hQ hAe hP hD hK hS rfl (dAt zX5_number_0 21 rfl)
        · have h := q_pos c_31 h
          refine lv_iconst (v := 0) hx hb (dAt zX5_number_0 18 rfl) (by decide) ?_
          refine lv_goto (tgt := 39) hx hb (dAt zX5_number_0 19 rfl) (by decide) ?_
          obtain rfl := q_some h
          exact xRi hx hb hr hlocks hQ hAe hP hD hK hS rfl (dAt zX5_number_0 21 rfl)
    · have h := q_pos c_15 h
      refine lv_bipush (v := (-2)) hx hb (dAt zX5_number_0 8 rfl) (by decide) ?_
      obtain rfl := q_some h
      exact xRi hx hb hr hlocks hQ hAe hP hD hK hS rfl (dAt zX5_number_0 9 rfl)
def m_X5_drawnDeed (n : Nat) (a1 : Int32) : Option Int32 := (if a1 < 0 then some 126 else (if 8 ≤ a1 then some 126 else (gd (inB a1 8) (some (vDeeds (Int32.toNatClampNeg a1))))))
set_option maxHeartbeats 4000000 in
set_option maxRecDepth 100000 in
theorem c_X5_drawnDeed (l : Launch) (D : va_G) (cI cJ cZ : ClassId) (n : Nat) (aP aD : Nat)  (sz : Nat) (a1 : Int32) (out : Int32) (hm : m_X5_drawnDeed n a1 = some out) : Met l yX5_drawnDeed (wsM yX5_drawnDeed cX5_drawnDeed 1 (some .int)) { frames := 0, cells := 0, slots := 0, locals := 0 } (xPreE aP aD D (kT cI cJ cZ) ([] : va_W) sz [.int a1]) (xQi D (kT cI cJ cZ) ([] : va_W) ([] : va_W) sz out) 0 0 (va_A ([] : va_W) sz) := by
  refine Met.ofW (cc := cX5_drawnDeed) (maxL := 1) (ret := (some .int)) (by decide) rfl ?_
  intro p e s m args below meth c s₁ B hml hv
  obtain ⟨hv, hsz, hP, hK, hD0, hN, hE⟩ := hv
  have hx := B.exec; have hb := B.bytes; have hr := B.returns
  have hts := atoms_spec (ws := (wsM yX5_drawnDeed cX5_drawnDeed 1 (some .int))) B.pre
  have hown : s.vm.findClass RX5 = some m.cls := findClass_of_methodNamed B.named
  have hlocks := B.notSynchronized
  subst hsz
  have hD := hD0.self (sz := s.heap.size)
  obtain ⟨A, hAe⟩ : ∃ A, A = va_A ([] : va_W) s.heap.size := ⟨_, rfl⟩
  rw [← hAe] at hD
  rw [← hAe] at hE
  have hA : ∀ q : Nat, s.heap.size ≤ q → A q := fun q h => by rw [hAe]; exact Or.inr h
  have htl : ∀ w ∈ wsL_law, w.before args s = true := fun w h => hts w (List.mem_cons_of_mem _ h)
  refine xHead (R' := { frames := 0, cells := 0, slots := 0, locals := 0 }) rfl (fun Q H hQ hH => ?_)
  have hP : va_P D vwCl ([] : va_W) H := by rw [hH]; exact hP
  have hS : va_S A s.heap H [] := by rw [hH]; exact va_S.rf
  refine xStart hv (Nat.le_of_ble_eq_true rfl) (lv := [(0, .int a1)]) rfl (fun ls hl => ?_)
  have h := hm
  unfold m_X5_drawnDeed at h
  refine lv_iload_n hx hb (dAt zX5_drawnDeed_0 0 rfl) rfl (lv_at hl 0 rfl) ?_
  refine lv_if_lt (tgt := 20) hx hb (dAt zX5_drawnDeed_0 1 rfl) (by decide) (fun c_1 => ?_) (fun c_1 => ?_)
  · have h := q_pos c_1 h
    refine lv_bipush (v := 126) hx hb (dAt zX5_drawnDeed_0 10 rfl) (by decide) ?_
    obtain rfl := q_some h
    exact xRi hx hb hr hlocks hQ hAe hP hD hK hS rfl (dAt zX5_drawnDeed_0 11 rfl)
  · have h := q_neg c_1 h
    refine lv_iload_n hx hb (dAt zX5_drawnDeed_0 2 rfl) rfl (lv_at hl 0 rfl) ?_
    refine va_gets (C := RX5) (n := "DRAWN_DEEDS") (d := "[I") (v := .ref aD) hx hb hE.1 hS hown (htl _ W_761) (fun _ h9 => h9) (dAt zX5_drawnDeed_0 3 rfl) ?_
    refine va_tlen (ty := .int) (v := 8) hx hb hE.2 hS rfl (dAt zX5_drawnDeed_0 4 rfl) ?_
    refine lv_icmp_ge (tgt := 20) hx hb (dAt zX5_drawnDeed_0 5 rfl) (by decide) (fun c_9 => ?_) (fun c_9 => ?_)
    · have h := q_pos c_9 h
      refine lv_bipush (v := 126) hx hb (dAt zX5_drawnDeed_0 10 rfl) (by decide) ?_
      obtain rfl := q_some h
      exact xRi hx hb hr hlocks hQ hAe hP hD hK hS rfl (dAt zX5_drawnDeed_0 11 rfl)
    · have h := q_neg c_9 h
      refine va_gets (C := RX5) (n := "DRAWN_DEEDS") (d := "[I") (v := .ref aD) hx hb hE.1 hS hown (htl _ W_761) (fun _ h9 => h9) (dAt zX5_drawnDeed_0 6 rfl) ?_
      refine lv_iload_n hx hb (dAt zX5_drawnDeed_0 7 rfl) rfl (lv_at hl 0 rfl) ?_
      obtain ⟨hi_16, h⟩ := q_in h
      refine va_ti hx hb hE.2 hS hi_16 (v := .int (vDeeds (Int32.toNatClampNeg a1))) rfl (dAt zX5_drawnDeed_0 8 rfl) ?_
      refine lv_goto (tgt := 22) hx hb (dAt zX5_drawnDeed_0 9 rfl) (by decide) ?_
      obtain rfl := q_some h
      exact xRi hx hb hr hlocks hQ hAe hP hD hK hS rfl (dAt zX5_drawnDeed_0 11 rfl)
def m_X4_strengthOfAll (n : Nat) (zT : TI) : Option Int32 := ((m_X4_strengthBetween n zT 1023 1023).bind fun u7 => some (u7 / (2 : Int32)))
set_option maxHeartbeats 4000000 in
set_option maxRecDepth 100000 in
theorem c_X4_strengthOfAll (l : Launch) (D : va_G) (cI cJ cZ : ClassId) (n : Nat) (qT : Nat → Nat) (sz : Nat) (zT : TI) (out : Int32) (hm : m_X4_strengthOfAll n zT = some out) : Met l yX4_strengthOfAll (wsM yX4_strengthOfAll cX4_strengthOfAll 1 (some .int)) { frames := 2, cells := 0, slots := 0, locals := 47 } (xPre D (kT cI cJ cZ) (w4 cI qT zT) sz [.ref (qT 0)]) (xQi D (kT cI cJ cZ) (w4 cI qT zT) (w4 cI qT zT) sz out) 0 0 (va_A (w4 cI qT zT) sz) := by
  refine Met.ofW (cc := cX4_strengthOfAll) (maxL := 1) (ret := (some .int)) (by decide) rfl ?_
  intro p e s m args below meth c s₁ B hml hv
  obtain ⟨hv, hsz, hP, hK, hD0, hN⟩ := hv
  have hx := B.exec; have hb := B.bytes; have hr := B.returns
  have hts := atoms_spec (ws := (wsM yX4_strengthOfAll cX4_strengthOfAll 1 (some .int))) B.pre
  have hown : s.vm.findClass RX4 = some m.cls := findClass_of_methodNamed B.named
  have hlocks := B.notSynchronized
  subst hsz
  have hD := hD0.self (sz := s.heap.size)
  obtain ⟨A, hAe⟩ : ∃ A, A = va_A (w4 cI qT zT) s.heap.size := ⟨_, rfl⟩
  rw [← hAe] at hD
  have hA : ∀ q : Nat, s.heap.size ≤ q → A q := fun q h => by rw [hAe]; exact Or.inr h
  have htl : ∀ w ∈ wsL_law, w.before args s = true := fun w h => hts w (List.mem_cons_of_mem _ h)
  refine xHead (R' := { frames := 2, cells := 0, slots := 0, locals := 47 }) rfl (fun Q H hQ hH => ?_)
  have hP : va_P D vwCl (w4 cI qT zT) H := by rw [hH]; exact hP
  have hS : va_S A s.heap H [] := by rw [hH]; exact va_S.rf
  refine xStart hv (Nat.le_of_ble_eq_true rfl) (lv := [(0, .ref (qT 0))]) rfl (fun ls hl => ?_)
  have h := hm
  unfold m_X4_strengthOfAll at h
  refine lv_aload_n hx hb (dAt zX4_strengthOfAll_0 0 rfl) rfl (lv_at hl 0 rfl) ?_
  refine lv_sipush (v := 1023) hx hb (dAt zX4_strengthOfAll_0 1 rfl) (by decide) ?_
  refine lv_sipush (v := 1023) hx hb (dAt zX4_strengthOfAll_0 2 rfl) (by decide) ?_
  obtain ⟨u7, hu7, h⟩ := q_bind h
  refine xFi (wc := (w4 cI qT zT)) (w1 := (w4 cI qT zT)) (wr := ([] : va_W)) (ws2 := (w4 cI qT zT)) (va_runV (As := [.int 1023, .int 1023]) (rest := []) ⟨hx, hb, hml, hown, htl⟩ (c_X4_strengthBetween l D cI cJ cZ n qT H.size zT 1023 1023 u7 hu7) (cwV 2 htl (gV W_480 W_346 W_347 W_14 W_348) rfl rfl rfl (by decide +kernel) ⟨Nat.le_of_ble_eq_true rfl, Nat.le_of_ble_eq_true rfl⟩) (xPV hP hD hK hN 0 rfl rfl) rfl rfl hl.1 rfl (lv_room (Nat.le_of_ble_eq_true rfl)) (dAt zX4_strengthOfAll_0 3 rfl) ⟨Nat.zero_le _, Nat.zero_le _⟩) hS hA hP hD [0, 1, 2, 3, 4] [] [0, 1, 2, 3, 4] rfl rfl (by decide) (by decide) rfl (by decide) (fun H locs hP hD hS => ?_)
  refine lv_iconst (v := 2) hx hb (dAt zX4_strengthOfAll_0 4 rfl) (by decide) ?_
  refine lv_idiv hx hb (dAt zX4_strengthOfAll_0 5 rfl) (by decide) ?_
  obtain rfl := q_some h
  exact xRi hx hb hr hlocks hQ hAe hP hD hK hS rfl (dAt zX4_strengthOfAll_0 6 rfl)
def b_X5_year_50 (n : Nat) (a2 : Int32) (a3 : Int32) (s_50 : Int32 × Int32 × TI × TI) (k_50 : Int32 × Int32 × TI × TI → Option (Int32 × TI × TI)) : Option (Int32 × TI × TI) := (if a2 ≤ s_50.2.1 then (if a3 = 0 then ((m_J6_bitCount_0f7a4 n  (s_50.2.2.2 0 0)).bind fun u121 => some (u121, s_50.2.2.1, s_50.2.2.2)) else (if a3 = 1 then ((m_X4_strengthOfAll n s_50.2.2.2).bind fun u137 => some (u137, s_50.2.2.1, s_50.2.2.2)) else some ((s_50.2.2.1 0 4), s_50.2.2.1, s_50.2.2.2))) else ((m_X5_drawnDeed n  (jrem ((jrem (((75 : Int32) * s_50.1) + (74 : Int32)) (65537 : Int32)) / (100 : Int32)) (8 : Int32))).bind fun u81 => ((m_X1_attempt n s_50.2.2.1 s_50.2.2.2 u81 (jrem (jrem (((75 : Int32) * s_50.1) + (74 : Int32)) (65537 : Int32)) (10 : Int32)) (jrem ((jrem (((75 : Int32) * s_50.1) + (74 : Int32)) (65537 : Int32)) / (10 : Int32)) (10 : Int32))).bind fun u97 => (k_50 ((jrem (((75 : Int32) * s_50.1) + (74 : Int32)) (65537 : Int32)), (s_50.2.1 + 1), u97.2.1, u97.2.2)))))
def m_X5_year (n : Nat) (zX : TI) (zT : TI) (zI : TI) (zJ : TI) (zP : TI) (zC : TI) (zV : TI) (zF : TI) (zA : TL) (a1 : Int32) (a2 : Int32) (a3 : Int32) : Option (Int32 × TI × TI) := ((m_X5_isWithin n  a1 0 9999).bind fun u5 => (if u5 = 0 then some ((-2), zC, zV) else ((m_X5_isWithin n  a2 1 99).bind fun u15 => (if u15 = 0 then some ((-2), zC, zV) else ((m_X5_isWithin n  a3 0 2).bind fun u24 => (if u24 = 0 then some ((-2), zC, zV) else ((m_X1_startFrom n zC zV zT).bind fun u41 => (loopF (b_X5_year_50 n a2 a3 ) n (a1, 0, u41.1, u41.2)))))))))
set_option maxHeartbeats 4000000 in
set_option maxRecDepth 100000 in
theorem c_X5_year (l : Launch) (D : va_G) (cI cJ cZ : ClassId) (n : Nat) (aP aD : Nat) (qX : Nat → Nat) (qT : Nat → Nat) (qI : Nat → Nat) (qJ : Nat → Nat) (qP : Nat → Nat) (qC : Nat → Nat) (qV : Nat → Nat) (qF : Nat → Nat) (qA : Nat → Nat) (sz : Nat) (zX : TI) (zT : TI) (zI : TI) (zJ : TI) (zP : TI) (zC : TI) (zV : TI) (zF : TI) (zA : TL) (a1 : Int32) (a2 : Int32) (a3 : Int32) (out : Int32 × TI × TI) (hm : m_X5_year n zX zT zI zJ zP zC zV zF zA a1 a2 a3 = some out) : Met l yX5_year (wsM yX5_year cX5_year 6 (some .int)) { frames := 5, cells := 0, slots := 0, locals := 115 } (xPreE aP aD D (kT cI cJ cZ) (w5 qX qT qI qJ qP qC qF qA zX ++ (w4 cI qT zT ++ (w4 cI qI zI ++ (w4 cI qJ zJ ++ (w2 cI qP zP ++ (w1 qC qV zC ++ (w4 cI qV zV ++ (w3 cI qF zF ++ (w0 cJ qA zA))))))))) sz [.ref (qX 0), .int a1, .int a2, .int a3]) (xQi D (kT cI cJ cZ) (w5 qX qT qI qJ qP qC qF qA zX ++ (w4 cI qT zT ++ (w4 cI qI zI ++ (w4 cI qJ zJ ++ (w2 cI qP zP ++ (w1 qC qV zC ++ (w4 cI qV zV ++ (w3 cI qF zF ++ (w0 cJ qA zA))))))))) (w5 qX qT qI qJ qP qC qF qA zX ++ (w4 cI qT zT ++ (w4 cI qI zI ++ (w4 cI qJ zJ ++ (w2 cI qP zP ++ (w1 qC qV out.2.1 ++ (w4 cI qV out.2.2 ++ (w3 cI qF zF ++ (w0 cJ qA zA))))))))) sz out.1) 0 0 (va_A (w5 qX qT qI qJ qP qC qF qA zX ++ (w4 cI qT zT ++ (w4 cI qI zI ++ (w4 cI qJ zJ ++ (w2 cI qP zP ++ (w1 qC qV zC ++ (w4 cI qV zV ++ (w3 cI qF zF ++ (w0 cJ qA zA))))))))) sz) := by
  refine Met.ofW (cc := cX5_year) (maxL := 6) (ret := (some .int)) (by decide) rfl ?_
  intro p e s m args below meth c s₁ B hml hv
  obtain ⟨hv, hsz, hP, hK, hD0, hN, hE⟩ := hv
  have hx := B.exec; have hb := B.bytes; have hr := B.returns
  have hts := atoms_spec (ws := (wsM yX5_year cX5_year 6 (some .int))) B.pre
  have hown : s.vm.findClass RX5 = some m.cls := findClass_of_methodNamed B.named
  have hlocks := B.notSynchronized
  subst hsz
  have hD := hD0.self (sz := s.heap.size)
  obtain ⟨A, hAe⟩ : ∃ A, A = va_A (w5 qX qT qI qJ qP qC qF qA zX ++ (w4 cI qT zT ++ (w4 cI qI zI ++ (w4 cI qJ zJ ++ (w2 cI qP zP ++ (w1 qC qV zC ++ (w4 cI qV zV ++ (w3 cI qF zF ++ (w0 cJ qA zA))))))))) s.heap.size := ⟨_, rfl⟩
  rw [← hAe] at hD
  rw [← hAe] at hE
  have hA : ∀ q : Nat, s.heap.size ≤ q → A q := fun q h => by rw [hAe]; exact Or.inr h
  have htl : ∀ w ∈ wsL_law, w.before args s = true := fun w h => hts w (List.mem_cons_of_mem _ h)
  refine xHead (R' := { frames := 5, cells := 0, slots := 0, locals := 115 }) rfl (fun Q H hQ hH => ?_)
  have hP : va_P D vwCl (w5 qX qT qI qJ qP qC qF qA zX ++ (w4 cI qT zT ++ (w4 cI qI zI ++ (w4 cI qJ zJ ++ (w2 cI qP zP ++ (w1 qC qV zC ++ (w4 cI qV zV ++ (w3 cI qF zF ++ (w0 cJ qA zA))))))))) H := by rw [hH]; exact hP
  have hS : va_S A s.heap H [] := by rw [hH]; exact va_S.rf
  refine xStart hv (Nat.le_of_ble_eq_true rfl) (lv := [(0, .ref (qX 0)), (1, .int a1), (2, .int a2), (3, .int a3)]) rfl (fun ls hl => ?_)
  have h := hm
  unfold m_X5_year at h
  refine lv_iload_n hx hb (dAt zX5_year_0 0 rfl) rfl (lv_at hl 1 rfl) ?_
  refine lv_iconst (v := 0) hx hb (dAt zX5_year_0 1 rfl) (by decide) ?_
  refine lv_sipush (v := 9999) hx hb (dAt zX5_year_0 2 rfl) (by decide) ?_
  obtain ⟨u5, hu5, h⟩ := q_bind h
  refine xFz (wc := ([] : va_W)) (w1 := ([] : va_W)) (wr := (w5 qX qT qI qJ qP qC qF qA zX ++ (w4 cI qT zT ++ (w4 cI qI zI ++ (w4 cI qJ zJ ++ (w2 cI qP zP ++ (w1 qC qV zC ++ (w4 cI qV zV ++ (w3 cI qF zF ++ (w0 cJ qA zA)))))))))) (ws2 := (w5 qX qT qI qJ qP qC qF qA zX ++ (w4 cI qT zT ++ (w4 cI qI zI ++ (w4 cI qJ zJ ++ (w2 cI qP zP ++ (w1 qC qV zC ++ (w4 cI qV zV ++ (w3 cI qF zF ++ (w0 cJ qA zA)))))))))) (va_runS (As := [.int a1, .int 0, .int 9999]) (rest := []) ⟨hx, hb, hml, hown, htl⟩ (c_X5_isWithin l D cI cJ cZ n  H.size  a1 0 9999 u5 hu5) (va_cwS 3 htl (gS W_110 W_111 W_2 W_112) rfl rfl rfl (by decide +kernel) ⟨Nat.le_of_ble_eq_true rfl, Nat.le_of_ble_eq_true rfl⟩) (xPS xP0 (xD0 A) hK hN) rfl rfl hl.1 rfl (lv_room (Nat.le_of_ble_eq_true rfl)) (dAt zX5_year_0 3 rfl) ⟨Nat.zero_le _, Nat.zero_le _⟩) hS hA hP hD [] [0, 1, 2, 3, 4, 5, 6, 7, 8, 9, 10, 11, 12, 13, 14, 15, 16, 17, 18, 19, 20, 21, 22, 23, 24, 25, 26, 27, 28, 29] [0, 1, 2, 3, 4, 5, 6, 7, 8, 9, 10, 11, 12, 13, 14, 15, 16, 17, 18, 19, 20, 21, 22, 23, 24, 25, 26, 27, 28, 29] rfl rfl (by decide) (by decide) rfl (by decide) (fun H locs hz5 hP hD hS => ?_)
  refine lv_if_eq (tgt := 30) hx hb (dAt zX5_year_0 4 rfl) (by decide) (fun c_8 => ?_) (fun c_8 => ?_)
  · have h := q_pos c_8 h
    refine lv_bipush (v := (-2)) hx hb (dAt zX5_year_0 15 rfl) (by decide) ?_
    obtain rfl := q_some h
    exact xRi hx hb hr hlocks hQ hAe hP hD hK hS rfl (dAt zX5_year_0 16 rfl)
  · have h := q_neg c_8 h
    refine lv_iload_n hx hb (dAt zX5_year_0 5 rfl) rfl (lv_at hl 2 rfl) ?_
    refine lv_iconst (v := 1) hx hb (dAt zX5_year_0 6 rfl) (by decide) ?_
    refine lv_bipush (v := 99) hx hb (dAt zX5_year_0 7 rfl) (by decide) ?_
    obtain ⟨u15, hu15, h⟩ := q_bind h
    refine xFz (wc := ([] : va_W)) (w1 := ([] : va_W)) (wr := (w5 qX qT qI qJ qP qC qF qA zX ++ (w4 cI qT zT ++ (w4 cI qI zI ++ (w4 cI qJ zJ ++ (w2 cI qP zP ++ (w1 qC qV zC ++ (w4 cI qV zV ++ (w3 cI qF zF ++ (w0 cJ qA zA)))))))))) (ws2 := (w5 qX qT qI qJ qP qC qF qA zX ++ (w4 cI qT zT ++ (w4 cI qI zI ++ (w4 cI qJ zJ ++ (w2 cI qP zP ++ (w1 qC qV zC ++ (w4 cI qV zV ++ (w3 cI qF zF ++ (w0 cJ qA zA)))))))))) (va_runS (As := [.int a2, .int 1, .int 99]) (rest := []) ⟨hx, hb, hml, hown, htl⟩ (c_X5_isWithin l D cI cJ cZ n  H.size  a2 1 99 u15 hu15) (va_cwS 3 htl (gS W_110 W_111 W_2 W_112) rfl rfl rfl (by decide +kernel) ⟨Nat.le_of_ble_eq_true rfl, Nat.le_of_ble_eq_true rfl⟩) (xPS xP0 (xD0 A) hK hN) rfl rfl hl.1 rfl (lv_room (Nat.le_of_ble_eq_true rfl)) (dAt zX5_year_0 8 rfl) ⟨Nat.zero_le _, Nat.zero_le _⟩) hS hA hP hD [] [0, 1, 2, 3, 4, 5, 6, 7, 8, 9, 10, 11, 12, 13, 14, 15, 16, 17, 18, 19, 20, 21, 22, 23, 24, 25, 26, 27, 28, 29] [0, 1, 2, 3, 4, 5, 6, 7, 8, 9, 10, 11, 12, 13, 14, 15, 16, 17, 18, 19, 20, 21, 22, 23, 24, 25, 26, 27, 28, 29] rfl rfl (by decide) (by decide) rfl (by decide) (fun H locs hz15 hP hD hS => ?_)
    refine lv_if_eq (tgt := 30) hx hb (dAt zX5_year_0 9 rfl) (by decide) (fun c_18 => ?_) (fun c_18 => ?_)
    · have h := q_pos c_18 h
      refine lv_bipush (v := (-2)) hx hb (dAt zX5_year_0 15 rfl) (by decide) ?_
      obtain rfl := q_some h
      exact xRi hx hb hr hlocks hQ hAe hP hD hK hS rfl (dAt zX5_year_0 16 rfl)
    · have h := q_neg c_18 h
      refine lv_iload_n hx hb (dAt zX5_year_0 10 rfl) rfl (lv_at hl 3 rfl) ?_
      refine lv_iconst (v := 0) hx hb (dAt zX5_year_0 11 rfl) (by decide) ?_
      refine lv_iconst (v := 2) hx hb (dAt zX5_year_0 12 rfl) (by decide) ?_
      obtain ⟨u24, hu24, h⟩ := q_bind h
      refine xFz (wc := ([] : va_W)) (w1 := ([] : va_W)) (wr := (w5 qX qT qI qJ qP qC qF qA zX ++ (w4 cI qT zT ++ (w4 cI qI zI ++ (w4 cI qJ zJ ++ (w2 cI qP zP ++ (w1 qC qV zC ++ (w4 cI qV zV ++ (w3 cI qF zF ++ (w0 cJ qA zA)))))))))) (ws2 := (w5 qX qT qI qJ qP qC qF qA zX ++ (w4 cI qT zT ++ (w4 cI qI zI ++ (w4 cI qJ zJ ++ (w2 cI qP zP ++ (w1 qC qV zC ++ (w4 cI qV zV ++ (w3 cI qF zF ++ (w0 cJ qA zA)))))))))) (va_runS (As := [.int a3, .int 0, .int 2]) (rest := []) ⟨hx, hb, hml, hown, htl⟩ (c_X5_isWithin l D cI cJ cZ n  H.size  a3 0 2 u24 hu24) (va_cwS 3 htl (gS W_110 W_111 W_2 W_112) rfl rfl rfl (by decide +kernel) ⟨Nat.le_of_ble_eq_true rfl, Nat.le_of_ble_eq_true rfl⟩) (xPS xP0 (xD0 A) hK hN) rfl rfl hl.1 rfl (lv_room (Nat.le_of_ble_eq_true rfl)) (dAt zX5_year_0 13 rfl) ⟨Nat.zero_le _, Nat.zero_le _⟩) hS hA hP hD [] [0, 1, 2, 3, 4, 5, 6, 7, 8, 9, 10, 11, 12, 13, 14, 15, 16, 17, 18, 19, 20, 21, 22, 23, 24, 25, 26, 27, 28, 29] [0, 1, 2, 3, 4, 5, 6, 7, 8, 9, 10, 11, 12, 13, 14, 15, 16, 17, 18, 19, 20, 21, 22, 23, 24, 25, 26, 27, 28, 29] rfl rfl (by decide) (by decide) rfl (by decide) (fun H locs hz24 hP hD hS => ?_)
      refine lv_if_ne (tgt := 33) hx hb (dAt zX5_year_0 14 rfl) (by decide) (fun c_27 => ?_) (fun c_27 => ?_)
      · have h := q_neg c_27 h
        refine lv_aload_n hx hb (dAt zX5_year_0 17 rfl) rfl (lv_at hl 0 rfl) ?_
        refine va_get (D := D) (ci := 5) (v := .ref (qC 0)) (C := RX5) (T := TX5) (N := 8) hx hb htl inlX5 hown hK hP 0 rfl rfl 5 (by decide) (htl _ W_26) (fun _ h9 => h9) rfl (dAt zX5_year_0 18 rfl) ?_
        refine lv_aload_n hx hb (dAt zX5_year_0 19 rfl) rfl (lv_at hl 0 rfl) ?_
        refine va_get (D := D) (ci := 5) (v := .ref (qT 0)) (C := RX5) (T := TX5) (N := 8) hx hb htl inlX5 hown hK hP 0 rfl rfl 0 (by decide) (htl _ W_15) (fun _ h9 => h9) rfl (dAt zX5_year_0 20 rfl) ?_
        obtain ⟨u41, hu41, h⟩ := q_bind h
        have hPc : va_P D vwCl (w1 qC qV zC ++ (w4 cI qV zV ++ (w4 cI qT zT))) H := hP.sub [18, 19, 20, 21, 22, 23, 1, 2, 3, 4, 5] rfl
        have hDc : va_D A (w1 qC qV zC ++ (w4 cI qV zV ++ (w4 cI qT zT))) := hD.sub [18, 19, 20, 21, 22, 23, 1, 2, 3, 4, 5] (by decide) rfl
        refine xFv (wc := (w1 qC qV zC ++ (w4 cI qV zV ++ (w4 cI qT zT)))) (w1 := (w1 qC qV u41.1 ++ (w4 cI qV u41.2 ++ (w4 cI qT zT)))) (wr := (w5 qX qT qI qJ qP qC qF qA zX ++ (w4 cI qI zI ++ (w4 cI qJ zJ ++ (w2 cI qP zP ++ (w3 cI qF zF ++ (w0 cJ qA zA))))))) (ws2 := (w5 qX qT qI qJ qP qC qF qA zX ++ (w4 cI qT zT ++ (w4 cI qI zI ++ (w4 cI qJ zJ ++ (w2 cI qP zP ++ (w1 qC qV u41.1 ++ (w4 cI qV u41.2 ++ (w3 cI qF zF ++ (w0 cJ qA zA)))))))))) (va_runV (As := [.ref (qT 0)]) (rest := []) ⟨hx, hb, hml, hown, htl⟩ (c_X1_startFrom l D cI cJ cZ n qC qV qT H.size zC zV zT  u41 hu41) (cwV 1 htl (gV W_757 W_274 W_275 W_25 W_276) rfl rfl rfl (by decide +kernel) ⟨Nat.le_of_ble_eq_true rfl, Nat.le_of_ble_eq_true rfl⟩) (xPV hPc hDc hK hN 0 rfl rfl) rfl rfl hl.1 rfl (lv_room (Nat.le_of_ble_eq_true rfl)) (dAt zX5_year_0 21 rfl) ⟨Nat.zero_le _, Nat.zero_le _⟩) hS hA hP hD [18, 19, 20, 21, 22, 23, 1, 2, 3, 4, 5] [0, 6, 7, 8, 9, 10, 11, 12, 13, 14, 15, 16, 17, 24, 25, 26, 27, 28, 29] [0, 25, 26, 27, 28, 29, 1, 2, 3, 4, 5, 6, 7, 8, 9, 10, 11, 12, 19, 20, 21, 22, 23, 24, 13, 14, 15, 16, 17, 18] rfl rfl (by decide) (by decide) rfl (by decide) (fun H locs hP hD hS => ?_)
        refine lv_iload_n hx hb (dAt zX5_year_0 22 rfl) rfl (lv_at hl 1 rfl) ?_
        refine lv_istore (lv' := [(4, .int a1), (0, .ref (qX 0)), (1, .int a1), (2, .int a2), (3, .int a3)]) hx hb (dAt zX5_year_0 23 rfl) hl (by decide) rfl (fun ls hl => ?_)
        refine lv_iconst (v := 0) hx hb (dAt zX5_year_0 24 rfl) (by decide) ?_
        refine lv_istore (lv' := [(5, .int 0), (4, .int a1), (0, .ref (qX 0)), (1, .int a1), (2, .int a2), (3, .int a3)]) hx hb (dAt zX5_year_0 25 rfl) hl (by decide) rfl (fun ls hl => ?_)
        have L_50 : ∀ (j_50 : Nat) (v4_50 : Int32) (v5_50 : Int32) (zC_50 : TI) (zV_50 : TI) (H : Heap) (locs : List Loc) (ls : Array Slot), loopF (b_X5_year_50 n a2 a3) j_50 (v4_50, v5_50, zC_50, zV_50) = some out → va_P D vwCl (w5 qX qT qI qJ qP qC qF qA zX ++ (w4 cI qT zT ++ (w4 cI qI zI ++ (w4 cI qJ zJ ++ (w2 cI qP zP ++ (w1 qC qV zC_50 ++ (w4 cI qV zV_50 ++ (w3 cI qF zF ++ (w0 cJ qA zA))))))))) H → va_D A (w5 qX qT qI qJ qP qC qF qA zX ++ (w4 cI qT zT ++ (w4 cI qI zI ++ (w4 cI qJ zJ ++ (w2 cI qP zP ++ (w1 qC qV zC_50 ++ (w4 cI qV zV_50 ++ (w3 cI qF zF ++ (w0 cJ qA zA))))))))) → va_S A s.heap H locs → lv_has ls 6 [(0, .ref (qX 0)), (2, .int a2), (3, .int a3), (4, .int v4_50), (5, .int v5_50)] → W p l e { frames := 5, cells := 0, slots := 0, locals := 115 } s m args below meth c H locs 0 0 Q (F0 m 50 ls []) := by
          intro j_50
          induction j_50 with
          | zero => intro v4_50 v5_50 zC_50 zV_50 H locs ls h hP hD hS hl; exact loopF_0 h
          | succ j_50 ih_50 =>
            intro v4_50 v5_50 zC_50 zV_50 H locs ls h hP hD hS hl
            have h := loopF_s h
            unfold b_X5_year_50 at h
            refine lv_iload hx hb (dAt zX5_year_0 26 rfl) (lv_at hl 4 rfl) ?_
            refine lv_iload_n hx hb (dAt zX5_year_0 27 rfl) rfl (lv_at hl 1 rfl) ?_
            refine lv_icmp_ge (tgt := 107) hx hb (dAt zX5_year_0 28 rfl) (by decide) (fun c_53 => ?_) (fun c_53 => ?_)
            · have h := q_pos c_53 h
              refine lv_iload_n hx hb (dAt zX5_year_0 57 rfl) rfl (lv_at hl 2 rfl) ?_
              refine lv_if_ne (tgt := 125) hx hb (dAt zX5_year_0 58 rfl) (by decide) (fun c_108 => ?_) (fun c_108 => ?_)
              · have h := q_neg c_108 h
                refine lv_iload_n hx hb (dAt zX5_year_0 65 rfl) rfl (lv_at hl 2 rfl) ?_
                refine lv_iconst (v := 1) hx hb (dAt zX5_year_0 66 rfl) (by decide) ?_
                refine lv_icmp_ne (tgt := 143) hx hb (dAt zX5_year_0 67 rfl) (by decide) (fun c_127 => ?_) (fun c_127 => ?_)
                · have h := q_neg c_127 h
                  refine lv_aload_n hx hb (dAt zX5_year_0 73 rfl) rfl (lv_at hl 0 rfl) ?_
                  refine va_get (D := D) (ci := 5) (v := .ref (qC 0)) (C := RX5) (T := TX5) (N := 8) hx hb htl inlX5 hown hK hP 0 rfl rfl 5 (by decide) (htl _ W_26) (fun _ h9 => h9) rfl (dAt zX5_year_0 74 rfl) ?_
                  refine va_get (D := D) (ci := 1) (v := .int (zC_50 0 4)) (C := RX1) (T := TX1) (N := 7) hx hb htl inlX1 hown hK hP 18 rfl rfl 4 (by decide) (htl _ W_494) (fun _ h9 => h9) rfl (dAt zX5_year_0 75 rfl) ?_
                  obtain rfl := q_some h
                  exact xRi hx hb hr hlocks hQ hAe hP hD hK hS rfl (dAt zX5_year_0 76 rfl)
                · have h := q_pos c_127 h
                  refine lv_aload_n hx hb (dAt zX5_year_0 68 rfl) rfl (lv_at hl 0 rfl) ?_
                  refine va_get (D := D) (ci := 5) (v := .ref (qC 0)) (C := RX5) (T := TX5) (N := 8) hx hb htl inlX5 hown hK hP 0 rfl rfl 5 (by decide) (htl _ W_26) (fun _ h9 => h9) rfl (dAt zX5_year_0 69 rfl) ?_
                  refine va_get (D := D) (ci := 1) (v := .ref (qV 0)) (C := RX1) (T := TX1) (N := 7) hx hb htl inlX1 hown hK hP 18 rfl rfl 0 (by decide) (htl _ W_474) (fun _ h9 => h9) rfl (dAt zX5_year_0 70 rfl) ?_
                  obtain ⟨u137, hu137, h⟩ := q_bind h
                  have hPc : va_P D vwCl (w4 cI qV zV_50) H := hP.sub [19, 20, 21, 22, 23] rfl
                  have hDc : va_D A (w4 cI qV zV_50) := hD.sub [19, 20, 21, 22, 23] (by decide) rfl
                  refine xFi (wc := (w4 cI qV zV_50)) (w1 := (w4 cI qV zV_50)) (wr := (w5 qX qT qI qJ qP qC qF qA zX ++ (w4 cI qT zT ++ (w4 cI qI zI ++ (w4 cI qJ zJ ++ (w2 cI qP zP ++ (w1 qC qV zC_50 ++ (w3 cI qF zF ++ (w0 cJ qA zA))))))))) (ws2 := (w5 qX qT qI qJ qP qC qF qA zX ++ (w4 cI qT zT ++ (w4 cI qI zI ++ (w4 cI qJ zJ ++ (w2 cI qP zP ++ (w1 qC qV zC_50 ++ (w4 cI qV zV_50 ++ (w3 cI qF zF ++ (w0 cJ qA zA)))))))))) (va_runV (As := []) (rest := []) ⟨hx, hb, hml, hown, htl⟩ (c_X4_strengthOfAll l D cI cJ cZ n qV H.size zV_50  u137 hu137) (cwV 0 htl (gV W_763 W_764 W_765 W_14 W_766) rfl rfl rfl (by decide +kernel) ⟨Nat.le_of_ble_eq_true rfl, Nat.le_of_ble_eq_true rfl⟩) (xPV hPc hDc hK hN 0 rfl rfl) rfl rfl hl.1 rfl (lv_room (Nat.le_of_ble_eq_true rfl)) (dAt zX5_year_0 71 rfl) ⟨Nat.zero_le _, Nat.zero_le _⟩) hS hA hP hD [19, 20, 21, 22, 23] [0, 1, 2, 3, 4, 5, 6, 7, 8, 9, 10, 11, 12, 13, 14, 15, 16, 17, 18, 24, 25, 26, 27, 28, 29] [0, 1, 2, 3, 4, 5, 6, 7, 8, 9, 10, 11, 12, 13, 14, 15, 16, 17, 18, 25, 26, 27, 28, 29, 19, 20, 21, 22, 23, 24] rfl rfl (by decide) (by decide) rfl (by decide) (fun H locs hP hD hS => ?_)
                  refine lv_goto (tgt := 150) hx hb (dAt zX5_year_0 72 rfl) (by decide) ?_
                  obtain rfl := q_some h
                  exact xRi hx hb hr hlocks hQ hAe hP hD hK hS rfl (dAt zX5_year_0 76 rfl)
              · have h := q_pos c_108 h
                refine lv_aload_n hx hb (dAt zX5_year_0 59 rfl) rfl (lv_at hl 0 rfl) ?_
                refine va_get (D := D) (ci := 5) (v := .ref (qC 0)) (C := RX5) (T := TX5) (N := 8) hx hb htl inlX5 hown hK hP 0 rfl rfl 5 (by decide) (htl _ W_26) (fun _ h9 => h9) rfl (dAt zX5_year_0 60 rfl) ?_
                refine va_get (D := D) (ci := 1) (v := .ref (qV 0)) (C := RX1) (T := TX1) (N := 7) hx hb htl inlX1 hown hK hP 18 rfl rfl 0 (by decide) (htl _ W_474) (fun _ h9 => h9) rfl (dAt zX5_year_0 61 rfl) ?_
                refine va_get (D := D) (ci := 4) (v := .int (zV_50 0 0)) (C := RX4) (T := TX4) (N := 9) hx hb htl inlX4 hown hK hP 19 rfl rfl 0 (by decide) (htl _ W_141) (fun _ h9 => h9) rfl (dAt zX5_year_0 62 rfl) ?_
                obtain ⟨u121, hu121, h⟩ := q_bind h
                refine xFi (wc := ([] : va_W)) (w1 := ([] : va_W)) (wr := (w5 qX qT qI qJ qP qC qF qA zX ++ (w4 cI qT zT ++ (w4 cI qI zI ++ (w4 cI qJ zJ ++ (w2 cI qP zP ++ (w1 qC qV zC_50 ++ (w4 cI qV zV_50 ++ (w3 cI qF zF ++ (w0 cJ qA zA)))))))))) (ws2 := (w5 qX qT qI qJ qP qC qF qA zX ++ (w4 cI qT zT ++ (w4 cI qI zI ++ (w4 cI qJ zJ ++ (w2 cI qP zP ++ (w1 qC qV zC_50 ++ (w4 cI qV zV_50 ++ (w3 cI qF zF ++ (w0 cJ qA zA)))))))))) (va_runS (As := [.int (zV_50 0 0)]) (rest := []) ⟨hx, hb, hml, hown, htl⟩ (c_J6_bitCount_0f7a4 l D cI cJ cZ n  H.size  (zV_50 0 0) u121 hu121) (va_cwS 1 htl (gS W_149 W_150 W_151 W_152) rfl rfl rfl (by decide +kernel) ⟨Nat.le_of_ble_eq_true rfl, Nat.le_of_ble_eq_true rfl⟩) (xPS xP0 (xD0 A) hK hN) rfl rfl hl.1 rfl (lv_room (Nat.le_of_ble_eq_true rfl)) (dAt zX5_year_0 63 rfl) ⟨Nat.zero_le _, Nat.zero_le _⟩) hS hA hP hD [] [0, 1, 2, 3, 4, 5, 6, 7, 8, 9, 10, 11, 12, 13, 14, 15, 16, 17, 18, 19, 20, 21, 22, 23, 24, 25, 26, 27, 28, 29] [0, 1, 2, 3, 4, 5, 6, 7, 8, 9, 10, 11, 12, 13, 14, 15, 16, 17, 18, 19, 20, 21, 22, 23, 24, 25, 26, 27, 28, 29] rfl rfl (by decide) (by decide) rfl (by decide) (fun H locs hP hD hS => ?_)
                obtain rfl := q_some h
                exact xRi hx hb hr hlocks hQ hAe hP hD hK hS rfl (dAt zX5_year_0 64 rfl)
            · have h := q_neg c_53 h
              refine lv_bipush (v := 75) hx hb (dAt zX5_year_0 29 rfl) (by decide) ?_
              refine lv_iload hx hb (dAt zX5_year_0 30 rfl) (lv_at hl 3 rfl) ?_
              refine lv_imul hx hb (dAt zX5_year_0 31 rfl) ?_
              refine lv_bipush (v := 74) hx hb (dAt zX5_year_0 32 rfl) (by decide) ?_
              refine lv_iadd hx hb (dAt zX5_year_0 33 rfl) ?_
              refine lv_ldc (v := 65537) hx hb hown (htl _ W_756) (dAt zX5_year_0 34 rfl) ?_
              refine lv_irem hx hb (dAt zX5_year_0 35 rfl) (by decide) ?_
              refine lv_istore (lv' := [(4, .int (jrem (((75 : Int32) * v4_50) + (74 : Int32)) (65537 : Int32))), (0, .ref (qX 0)), (2, .int a2), (3, .int a3), (5, .int v5_50)]) hx hb (dAt zX5_year_0 36 rfl) hl (by decide) rfl (fun ls hl => ?_)
              refine lv_aload_n hx hb (dAt zX5_year_0 37 rfl) rfl (lv_at hl 1 rfl) ?_
              refine va_get (D := D) (ci := 5) (v := .ref (qC 0)) (C := RX5) (T := TX5) (N := 8) hx hb htl inlX5 hown hK hP 0 rfl rfl 5 (by decide) (htl _ W_26) (fun _ h9 => h9) rfl (dAt zX5_year_0 38 rfl) ?_
              refine lv_iload hx hb (dAt zX5_year_0 39 rfl) (lv_at hl 0 rfl) ?_
              refine lv_bipush (v := 100) hx hb (dAt zX5_year_0 40 rfl) (by decide) ?_
              refine lv_idiv hx hb (dAt zX5_year_0 41 rfl) (by decide) ?_
              refine lv_bipush (v := 8) hx hb (dAt zX5_year_0 42 rfl) (by decide) ?_
              refine lv_irem hx hb (dAt zX5_year_0 43 rfl) (by decide) ?_
              obtain ⟨u81, hu81, h⟩ := q_bind h
              refine xFi (wc := ([] : va_W)) (w1 := ([] : va_W)) (wr := (w5 qX qT qI qJ qP qC qF qA zX ++ (w4 cI qT zT ++ (w4 cI qI zI ++ (w4 cI qJ zJ ++ (w2 cI qP zP ++ (w1 qC qV zC_50 ++ (w4 cI qV zV_50 ++ (w3 cI qF zF ++ (w0 cJ qA zA)))))))))) (ws2 := (w5 qX qT qI qJ qP qC qF qA zX ++ (w4 cI qT zT ++ (w4 cI qI zI ++ (w4 cI qJ zJ ++ (w2 cI qP zP ++ (w1 qC qV zC_50 ++ (w4 cI qV zV_50 ++ (w3 cI qF zF ++ (w0 cJ qA zA)))))))))) (va_runS (As := [.int (jrem ((jrem (((75 : Int32) * v4_50) + (74 : Int32)) (65537 : Int32)) / (100 : Int32)) (8 : Int32))]) (rest := [.ref (qC 0)]) ⟨hx, hb, hml, hown, htl⟩ (c_X5_drawnDeed l D cI cJ cZ n aP aD  H.size  (jrem ((jrem (((75 : Int32) * v4_50) + (74 : Int32)) (65537 : Int32)) / (100 : Int32)) (8 : Int32)) u81 hu81) (va_cwS 1 htl (gS W_758 W_759 W_2 W_760) rfl rfl rfl (by decide +kernel) ⟨Nat.le_of_ble_eq_true rfl, Nat.le_of_ble_eq_true rfl⟩) (xPSE xP0 (xD0 A) hK hN hE hS (va_free (wc := ([] : va_W)) hD hS hA [] rfl)) rfl rfl hl.1 rfl (lv_room (Nat.le_of_ble_eq_true rfl)) (dAt zX5_year_0 44 rfl) ⟨Nat.zero_le _, Nat.zero_le _⟩) hS hA hP hD [] [0, 1, 2, 3, 4, 5, 6, 7, 8, 9, 10, 11, 12, 13, 14, 15, 16, 17, 18, 19, 20, 21, 22, 23, 24, 25, 26, 27, 28, 29] [0, 1, 2, 3, 4, 5, 6, 7, 8, 9, 10, 11, 12, 13, 14, 15, 16, 17, 18, 19, 20, 21, 22, 23, 24, 25, 26, 27, 28, 29] rfl rfl (by decide) (by decide) rfl (by decide) (fun H locs hP hD hS => ?_)
              refine lv_iload hx hb (dAt zX5_year_0 45 rfl) (lv_at hl 0 rfl) ?_
              refine lv_bipush (v := 10) hx hb (dAt zX5_year_0 46 rfl) (by decide) ?_
              refine lv_irem hx hb (dAt zX5_year_0 47 rfl) (by decide) ?_
              refine lv_iload hx hb (dAt zX5_year_0 48 rfl) (lv_at hl 0 rfl) ?_
              refine lv_bipush (v := 10) hx hb (dAt zX5_year_0 49 rfl) (by decide) ?_
              refine lv_idiv hx hb (dAt zX5_year_0 50 rfl) (by decide) ?_
              refine lv_bipush (v := 10) hx hb (dAt zX5_year_0 51 rfl) (by decide) ?_
              refine lv_irem hx hb (dAt zX5_year_0 52 rfl) (by decide) ?_
              obtain ⟨u97, hu97, h⟩ := q_bind h
              have hPc : va_P D vwCl (w1 qC qV zC_50 ++ (w4 cI qV zV_50)) H := hP.sub [18, 19, 20, 21, 22, 23] rfl
              have hDc : va_D A (w1 qC qV zC_50 ++ (w4 cI qV zV_50)) := hD.sub [18, 19, 20, 21, 22, 23] (by decide) rfl
              refine xFi (wc := (w1 qC qV zC_50 ++ (w4 cI qV zV_50))) (w1 := (w1 qC qV u97.2.1 ++ (w4 cI qV u97.2.2))) (wr := (w5 qX qT qI qJ qP qC qF qA zX ++ (w4 cI qT zT ++ (w4 cI qI zI ++ (w4 cI qJ zJ ++ (w2 cI qP zP ++ (w3 cI qF zF ++ (w0 cJ qA zA)))))))) (ws2 := (w5 qX qT qI qJ qP qC qF qA zX ++ (w4 cI qT zT ++ (w4 cI qI zI ++ (w4 cI qJ zJ ++ (w2 cI qP zP ++ (w1 qC qV u97.2.1 ++ (w4 cI qV u97.2.2 ++ (w3 cI qF zF ++ (w0 cJ qA zA)))))))))) (va_runV (As := [.int u81, .int (jrem (jrem (((75 : Int32) * v4_50) + (74 : Int32)) (65537 : Int32)) (10 : Int32)), .int (jrem ((jrem (((75 : Int32) * v4_50) + (74 : Int32)) (65537 : Int32)) / (10 : Int32)) (10 : Int32))]) (rest := []) ⟨hx, hb, hml, hown, htl⟩ (c_X1_attempt l D cI cJ cZ n qC qV H.size zC_50 zV_50 u81 (jrem (jrem (((75 : Int32) * v4_50) + (74 : Int32)) (65537 : Int32)) (10 : Int32)) (jrem ((jrem (((75 : Int32) * v4_50) + (74 : Int32)) (65537 : Int32)) / (10 : Int32)) (10 : Int32)) u97 hu97) (cwV 3 htl (gV W_762 W_290 W_291 W_25 W_292) rfl rfl rfl (by decide +kernel) ⟨Nat.le_of_ble_eq_true rfl, Nat.le_of_ble_eq_true rfl⟩) (xPV hPc hDc hK hN 0 rfl rfl) rfl rfl hl.1 rfl (lv_room (Nat.le_of_ble_eq_true rfl)) (dAt zX5_year_0 53 rfl) ⟨Nat.zero_le _, Nat.zero_le _⟩) hS hA hP hD [18, 19, 20, 21, 22, 23] [0, 1, 2, 3, 4, 5, 6, 7, 8, 9, 10, 11, 12, 13, 14, 15, 16, 17, 24, 25, 26, 27, 28, 29] [0, 1, 2, 3, 4, 5, 6, 7, 8, 9, 10, 11, 12, 13, 14, 15, 16, 17, 24, 25, 26, 27, 28, 29, 18, 19, 20, 21, 22, 23] rfl rfl (by decide) (by decide) rfl (by decide) (fun H locs hP hD hS => ?_)
              refine lv_pop hx hb (dAt zX5_year_0 54 rfl) rfl ?_
              refine lv_iinc (v := (v5_50 + 1)) (lv' := [(5, .int (v5_50 + 1)), (4, .int (jrem (((75 : Int32) * v4_50) + (74 : Int32)) (65537 : Int32))), (0, .ref (qX 0)), (2, .int a2), (3, .int a3)]) hx hb (dAt zX5_year_0 55 rfl) hl (k := 4) rfl rfl (by decide) rfl (fun ls hl => ?_)
              refine lv_goto (tgt := 50) hx hb (dAt zX5_year_0 56 rfl) (by decide) ?_
              exact ih_50 (jrem (((75 : Int32) * v4_50) + (74 : Int32)) (65537 : Int32)) (v5_50 + 1) u97.2.1 u97.2.2 _ _ _ h hP hD hS (lv_sub hl [2, 3, 4, 1, 0] rfl)
        exact L_50 n a1 0 u41.1 u41.2 _ _ _ h hP hD hS (lv_sub hl [2, 4, 5, 1, 0] rfl)
      · have h := q_pos c_27 h
        refine lv_bipush (v := (-2)) hx hb (dAt zX5_year_0 15 rfl) (by decide) ?_
        obtain rfl := q_some h
        exact xRi hx hb hr hlocks hQ hAe hP hD hK hS rfl (dAt zX5_year_0 16 rfl)
set_option maxHeartbeats 4000000 in
set_option maxRecDepth 100000 in
theorem c_X5_imageOf (l : Launch) (D : va_G) (cI cJ cZ : ClassId) (n : Nat) (qX : Nat → Nat) (qT : Nat → Nat) (qI : Nat → Nat) (qJ : Nat → Nat) (qP : Nat → Nat) (qC : Nat → Nat) (qV : Nat → Nat) (qF : Nat → Nat) (qA : Nat → Nat) (sz : Nat) (zX : TI) (zT : TI) (zI : TI) (zJ : TI) (zP : TI) (zC : TI) (zV : TI) (zF : TI) (zA : TL) (a1 : Int32) (r : Nat) (hk : r = if a1 = 0 then qI 0 else qJ 0) : Met l yX5_imageOf (wsM yX5_imageOf cX5_imageOf 2 (some (.object "LastTrain$Town"))) { frames := 0, cells := 0, slots := 0, locals := 0 } (xPre D (kT cI cJ cZ) (w5 qX qT qI qJ qP qC qF qA zX ++ (w4 cI qT zT ++ (w4 cI qI zI ++ (w4 cI qJ zJ ++ (w2 cI qP zP ++ (w1 qC qV zC ++ (w4 cI qV zV ++ (w3 cI qF zF ++ (w0 cJ qA zA))))))))) sz [.ref (qX 0), .int a1]) (xQr D (kT cI cJ cZ) (w5 qX qT qI qJ qP qC qF qA zX ++ (w4 cI qT zT ++ (w4 cI qI zI ++ (w4 cI qJ zJ ++ (w2 cI qP zP ++ (w1 qC qV zC ++ (w4 cI qV zV ++ (w3 cI qF zF ++ (w0 cJ qA zA))))))))) (w5 qX qT qI qJ qP qC qF qA zX ++ (w4 cI qT zT ++ (w4 cI qI zI ++ (w4 cI qJ zJ ++ (w2 cI qP zP ++ (w1 qC qV zC ++ (w4 cI qV zV ++ (w3 cI qF zF ++ (w0 cJ qA zA))))))))) sz r) 0 0 (va_A (w5 qX qT qI qJ qP qC qF qA zX ++ (w4 cI qT zT ++ (w4 cI qI zI ++ (w4 cI qJ zJ ++ (w2 cI qP zP ++ (w1 qC qV zC ++ (w4 cI qV zV ++ (w3 cI qF zF ++ (w0 cJ qA zA))))))))) sz) := by
  refine Met.ofW (cc := cX5_imageOf) (maxL := 2) (ret := (some (.object "LastTrain$Town"))) (by decide) rfl ?_
  intro p e s m args below meth c s₁ B hml hv
  obtain ⟨hv, hsz, hP, hK, hD0, hN⟩ := hv
  have hx := B.exec; have hb := B.bytes; have hr := B.returns
  have hts := atoms_spec (ws := (wsM yX5_imageOf cX5_imageOf 2 (some (.object "LastTrain$Town")))) B.pre
  have hown : s.vm.findClass RX5 = some m.cls := findClass_of_methodNamed B.named
  have hlocks := B.notSynchronized
  subst hsz
  have hD := hD0.self (sz := s.heap.size)
  obtain ⟨A, hAe⟩ : ∃ A, A = va_A (w5 qX qT qI qJ qP qC qF qA zX ++ (w4 cI qT zT ++ (w4 cI qI zI ++ (w4 cI qJ zJ ++ (w2 cI qP zP ++ (w1 qC qV zC ++ (w4 cI qV zV ++ (w3 cI qF zF ++ (w0 cJ qA zA))))))))) s.heap.size := ⟨_, rfl⟩
  rw [← hAe] at hD
  have hA : ∀ q : Nat, s.heap.size ≤ q → A q := fun q h => by rw [hAe]; exact Or.inr h
  have htl : ∀ w ∈ wsL_law, w.before args s = true := fun w h => hts w (List.mem_cons_of_mem _ h)
  refine xHead (R' := { frames := 0, cells := 0, slots := 0, locals := 0 }) rfl (fun Q H hQ hH => ?_)
  have hP : va_P D vwCl (w5 qX qT qI qJ qP qC qF qA zX ++ (w4 cI qT zT ++ (w4 cI qI zI ++ (w4 cI qJ zJ ++ (w2 cI qP zP ++ (w1 qC qV zC ++ (w4 cI qV zV ++ (w3 cI qF zF ++ (w0 cJ qA zA))))))))) H := by rw [hH]; exact hP
  have hS : va_S A s.heap H [] := by rw [hH]; exact va_S.rf
  refine xStart hv (Nat.le_of_ble_eq_true rfl) (lv := [(0, .ref (qX 0)), (1, .int a1)]) rfl (fun ls hl => ?_)
  refine lv_iload_n hx hb (dAt zX5_imageOf_0 0 rfl) rfl (lv_at hl 1 rfl) ?_
  refine lv_if_ne (tgt := 11) hx hb (dAt zX5_imageOf_0 1 rfl) (by decide) (fun c_1 => ?_) (fun c_1 => ?_)
  · have hk := hk
    refine lv_aload_n hx hb (dAt zX5_imageOf_0 5 rfl) rfl (lv_at hl 0 rfl) ?_
    refine va_get (D := D) (ci := 5) (v := .ref (qJ 0)) (C := RX5) (T := TX5) (N := 8) hx hb htl inlX5 hown hK hP 0 rfl rfl 2 (by decide) (htl _ W_17) (fun _ h9 => h9) rfl (dAt zX5_imageOf_0 6 rfl) ?_
    exact xRr hx hb hr hlocks ⟨_, rfl⟩ hQ hAe hP hD hK hS (by rw [hk]; first | rw [if_pos c_1] | rw [if_neg c_1]) (dAt zX5_imageOf_0 7 rfl)
  · have hk := hk
    refine lv_aload_n hx hb (dAt zX5_imageOf_0 2 rfl) rfl (lv_at hl 0 rfl) ?_
    refine va_get (D := D) (ci := 5) (v := .ref (qI 0)) (C := RX5) (T := TX5) (N := 8) hx hb htl inlX5 hown hK hP 0 rfl rfl 1 (by decide) (htl _ W_16) (fun _ h9 => h9) rfl (dAt zX5_imageOf_0 3 rfl) ?_
    refine lv_goto (tgt := 15) hx hb (dAt zX5_imageOf_0 4 rfl) (by decide) ?_
    exact xRr hx hb hr hlocks ⟨_, rfl⟩ hQ hAe hP hD hK hS (by rw [hk]; first | rw [if_pos c_1] | rw [if_neg c_1]) (dAt zX5_imageOf_0 7 rfl)
def m_X5_image (n : Nat) (zX : TI) (zT : TI) (zI : TI) (zJ : TI) (zP : TI) (zC : TI) (zV : TI) (zF : TI) (zA : TL) (a1 : Int32) : Option (Int32 × TI × TI × TI) := ((m_X5_isFlag n  a1).bind fun u1 => (if u1 = 0 then some ((-2), zX, zI, zJ) else (if a1 = 0 then ((m_X4_copyFrom n zI zT).bind fun u19 => some (1, (sf zX 3 ((zX 0 3) ||| ((1 : Int32) <<< (a1 &&& 31)))), u19, zJ)) else ((m_X4_copyFrom n zJ zT).bind fun u19 => some (1, (sf zX 3 ((zX 0 3) ||| ((1 : Int32) <<< (a1 &&& 31)))), zI, u19)))))
set_option maxHeartbeats 4000000 in
set_option maxRecDepth 100000 in
theorem c_X5_image (l : Launch) (D : va_G) (cI cJ cZ : ClassId) (n : Nat) (qX : Nat → Nat) (qT : Nat → Nat) (qI : Nat → Nat) (qJ : Nat → Nat) (qP : Nat → Nat) (qC : Nat → Nat) (qV : Nat → Nat) (qF : Nat → Nat) (qA : Nat → Nat) (sz : Nat) (zX : TI) (zT : TI) (zI : TI) (zJ : TI) (zP : TI) (zC : TI) (zV : TI) (zF : TI) (zA : TL) (a1 : Int32) (out : Int32 × TI × TI × TI) (hm : m_X5_image n zX zT zI zJ zP zC zV zF zA a1 = some out) : Met l yX5_image (wsM yX5_image cX5_image 2 (some .int)) { frames := 2, cells := 0, slots := 0, locals := 43 } (xPre D (kT cI cJ cZ) (w5 qX qT qI qJ qP qC qF qA zX ++ (w4 cI qT zT ++ (w4 cI qI zI ++ (w4 cI qJ zJ ++ (w2 cI qP zP ++ (w1 qC qV zC ++ (w4 cI qV zV ++ (w3 cI qF zF ++ (w0 cJ qA zA))))))))) sz [.ref (qX 0), .int a1]) (xQi D (kT cI cJ cZ) (w5 qX qT qI qJ qP qC qF qA zX ++ (w4 cI qT zT ++ (w4 cI qI zI ++ (w4 cI qJ zJ ++ (w2 cI qP zP ++ (w1 qC qV zC ++ (w4 cI qV zV ++ (w3 cI qF zF ++ (w0 cJ qA zA))))))))) (w5 qX qT qI qJ qP qC qF qA out.2.1 ++ (w4 cI qT zT ++ (w4 cI qI out.2.2.1 ++ (w4 cI qJ out.2.2.2 ++ (w2 cI qP zP ++ (w1 qC qV zC ++ (w4 cI qV zV ++ (w3 cI qF zF ++ (w0 cJ qA zA))))))))) sz out.1) 0 0 (va_A (w5 qX qT qI qJ qP qC qF qA zX ++ (w4 cI qT zT ++ (w4 cI qI zI ++ (w4 cI qJ zJ ++ (w2 cI qP zP ++ (w1 qC qV zC ++ (w4 cI qV zV ++ (w3 cI qF zF ++ (w0 cJ qA zA))))))))) sz) := by
  refine Met.ofW (cc := cX5_image) (maxL := 2) (ret := (some .int)) (by decide) rfl ?_
  intro p e s m args below meth c s₁ B hml hv
  obtain ⟨hv, hsz, hP, hK, hD0, hN⟩ := hv
  have hx := B.exec; have hb := B.bytes; have hr := B.returns
  have hts := atoms_spec (ws := (wsM yX5_image cX5_image 2 (some .int))) B.pre
  have hown : s.vm.findClass RX5 = some m.cls := findClass_of_methodNamed B.named
  have hlocks := B.notSynchronized
  subst hsz
  have hD := hD0.self (sz := s.heap.size)
  obtain ⟨A, hAe⟩ : ∃ A, A = va_A (w5 qX qT qI qJ qP qC qF qA zX ++ (w4 cI qT zT ++ (w4 cI qI zI ++ (w4 cI qJ zJ ++ (w2 cI qP zP ++ (w1 qC qV zC ++ (w4 cI qV zV ++ (w3 cI qF zF ++ (w0 cJ qA zA))))))))) s.heap.size := ⟨_, rfl⟩
  rw [← hAe] at hD
  have hA : ∀ q : Nat, s.heap.size ≤ q → A q := fun q h => by rw [hAe]; exact Or.inr h
  have htl : ∀ w ∈ wsL_law, w.before args s = true := fun w h => hts w (List.mem_cons_of_mem _ h)
  refine xHead (R' := { frames := 2, cells := 0, slots := 0, locals := 43 }) rfl (fun Q H hQ hH => ?_)
  have hP : va_P D vwCl (w5 qX qT qI qJ qP qC qF qA zX ++ (w4 cI qT zT ++ (w4 cI qI zI ++ (w4 cI qJ zJ ++ (w2 cI qP zP ++ (w1 qC qV zC ++ (w4 cI qV zV ++ (w3 cI qF zF ++ (w0 cJ qA zA))))))))) H := by rw [hH]; exact hP
  have hS : va_S A s.heap H [] := by rw [hH]; exact va_S.rf
  refine xStart hv (Nat.le_of_ble_eq_true rfl) (lv := [(0, .ref (qX 0)), (1, .int a1)]) rfl (fun ls hl => ?_)
  have h := hm
  unfold m_X5_image at h
  refine lv_iload_n hx hb (dAt zX5_image_0 0 rfl) rfl (lv_at hl 1 rfl) ?_
  obtain ⟨u1, hu1, h⟩ := q_bind h
  refine xFz (wc := ([] : va_W)) (w1 := ([] : va_W)) (wr := (w5 qX qT qI qJ qP qC qF qA zX ++ (w4 cI qT zT ++ (w4 cI qI zI ++ (w4 cI qJ zJ ++ (w2 cI qP zP ++ (w1 qC qV zC ++ (w4 cI qV zV ++ (w3 cI qF zF ++ (w0 cJ qA zA)))))))))) (ws2 := (w5 qX qT qI qJ qP qC qF qA zX ++ (w4 cI qT zT ++ (w4 cI qI zI ++ (w4 cI qJ zJ ++ (w2 cI qP zP ++ (w1 qC qV zC ++ (w4 cI qV zV ++ (w3 cI qF zF ++ (w0 cJ qA zA)))))))))) (va_runS (As := [.int a1]) (rest := []) ⟨hx, hb, hml, hown, htl⟩ (c_X5_isFlag l D cI cJ cZ n  H.size  a1 u1 hu1) (va_cwS 1 htl (gS W_142 W_143 W_2 W_144) rfl rfl rfl (by decide +kernel) ⟨Nat.le_of_ble_eq_true rfl, Nat.le_of_ble_eq_true rfl⟩) (xPS xP0 (xD0 A) hK hN) rfl rfl hl.1 rfl (lv_room (Nat.le_of_ble_eq_true rfl)) (dAt zX5_image_0 1 rfl) ⟨Nat.zero_le _, Nat.zero_le _⟩) hS hA hP hD [] [0, 1, 2, 3, 4, 5, 6, 7, 8, 9, 10, 11, 12, 13, 14, 15, 16, 17, 18, 19, 20, 21, 22, 23, 24, 25, 26, 27, 28, 29] [0, 1, 2, 3, 4, 5, 6, 7, 8, 9, 10, 11, 12, 13, 14, 15, 16, 17, 18, 19, 20, 21, 22, 23, 24, 25, 26, 27, 28, 29] rfl rfl (by decide) (by decide) rfl (by decide) (fun H locs hz1 hP hD hS => ?_)
  refine lv_if_ne (tgt := 10) hx hb (dAt zX5_image_0 2 rfl) (by decide) (fun c_4 => ?_) (fun c_4 => ?_)
  · have h := q_neg c_4 h
    refine lv_aload_n hx hb (dAt zX5_image_0 5 rfl) rfl (lv_at hl 0 rfl) ?_
    refine lv_iload_n hx hb (dAt zX5_image_0 6 rfl) rfl (lv_at hl 1 rfl) ?_
    by_cases c_12 : a1 = 0
    · have h := q_pos c_12 h
      refine xFr (wc := (w5 qX qT qI qJ qP qC qF qA zX ++ (w4 cI qT zT ++ (w4 cI qI zI ++ (w4 cI qJ zJ ++ (w2 cI qP zP ++ (w1 qC qV zC ++ (w4 cI qV zV ++ (w3 cI qF zF ++ (w0 cJ qA zA)))))))))) (w1 := (w5 qX qT qI qJ qP qC qF qA zX ++ (w4 cI qT zT ++ (w4 cI qI zI ++ (w4 cI qJ zJ ++ (w2 cI qP zP ++ (w1 qC qV zC ++ (w4 cI qV zV ++ (w3 cI qF zF ++ (w0 cJ qA zA)))))))))) (wr := ([] : va_W)) (ws2 := (w5 qX qT qI qJ qP qC qF qA zX ++ (w4 cI qT zT ++ (w4 cI qI zI ++ (w4 cI qJ zJ ++ (w2 cI qP zP ++ (w1 qC qV zC ++ (w4 cI qV zV ++ (w3 cI qF zF ++ (w0 cJ qA zA)))))))))) (va_runV (As := [.int a1]) (rest := []) ⟨hx, hb, hml, hown, htl⟩ (c_X5_imageOf l D cI cJ cZ n qX qT qI qJ qP qC qV qF qA H.size zX zT zI zJ zP zC zV zF zA a1 (qI 0) (by rw [if_pos c_12])) (cwV 1 htl (gV W_782 W_783 W_784 W_2 W_785) rfl rfl rfl (by decide +kernel) ⟨Nat.le_of_ble_eq_true rfl, Nat.le_of_ble_eq_true rfl⟩) (xPV hP hD hK hN 0 rfl rfl) rfl rfl hl.1 rfl (lv_room (Nat.le_of_ble_eq_true rfl)) (dAt zX5_image_0 7 rfl) ⟨Nat.zero_le _, Nat.zero_le _⟩) hS hA hP hD [0, 1, 2, 3, 4, 5, 6, 7, 8, 9, 10, 11, 12, 13, 14, 15, 16, 17, 18, 19, 20, 21, 22, 23, 24, 25, 26, 27, 28, 29] [] [0, 1, 2, 3, 4, 5, 6, 7, 8, 9, 10, 11, 12, 13, 14, 15, 16, 17, 18, 19, 20, 21, 22, 23, 24, 25, 26, 27, 28, 29] rfl rfl (by decide) (by decide) rfl (by decide) (fun H locs hP hD hS => ?_)
      refine lv_aload_n hx hb (dAt zX5_image_0 8 rfl) rfl (lv_at hl 0 rfl) ?_
      refine va_get (D := D) (ci := 5) (v := .ref (qT 0)) (C := RX5) (T := TX5) (N := 8) hx hb htl inlX5 hown hK hP 0 rfl rfl 0 (by decide) (htl _ W_15) (fun _ h9 => h9) rfl (dAt zX5_image_0 9 rfl) ?_
      obtain ⟨u19, hu19, h⟩ := q_bind h
      have hPc : va_P D vwCl (w4 cI qI zI ++ (w4 cI qT zT)) H := hP.sub [6, 7, 8, 9, 10, 1, 2, 3, 4, 5] rfl
      have hDc : va_D A (w4 cI qI zI ++ (w4 cI qT zT)) := hD.sub [6, 7, 8, 9, 10, 1, 2, 3, 4, 5] (by decide) rfl
      refine xFv (wc := (w4 cI qI zI ++ (w4 cI qT zT))) (w1 := (w4 cI qI u19 ++ (w4 cI qT zT))) (wr := (w5 qX qT qI qJ qP qC qF qA zX ++ (w4 cI qJ zJ ++ (w2 cI qP zP ++ (w1 qC qV zC ++ (w4 cI qV zV ++ (w3 cI qF zF ++ (w0 cJ qA zA)))))))) (ws2 := (w5 qX qT qI qJ qP qC qF qA zX ++ (w4 cI qT zT ++ (w4 cI qI u19 ++ (w4 cI qJ zJ ++ (w2 cI qP zP ++ (w1 qC qV zC ++ (w4 cI qV zV ++ (w3 cI qF zF ++ (w0 cJ qA zA)))))))))) (va_runV (As := [.ref (qT 0)]) (rest := []) ⟨hx, hb, hml, hown, htl⟩ (c_X4_copyFrom l D cI cJ cZ n qI qT H.size zI zT  u19 hu19) (cwV 1 htl (gV W_514 W_278 W_279 W_14 W_280) rfl rfl rfl (by decide +kernel) ⟨Nat.le_of_ble_eq_true rfl, Nat.le_of_ble_eq_true rfl⟩) (xPV hPc hDc hK hN 0 rfl rfl) rfl rfl hl.1 rfl (lv_room (Nat.le_of_ble_eq_true rfl)) (dAt zX5_image_0 10 rfl) ⟨Nat.zero_le _, Nat.zero_le _⟩) hS hA hP hD [6, 7, 8, 9, 10, 1, 2, 3, 4, 5] [0, 11, 12, 13, 14, 15, 16, 17, 18, 19, 20, 21, 22, 23, 24, 25, 26, 27, 28, 29] [0, 25, 26, 27, 28, 29, 20, 21, 22, 23, 24, 1, 2, 3, 4, 5, 6, 7, 8, 9, 10, 11, 12, 13, 14, 15, 16, 17, 18, 19] rfl rfl (by decide) (by decide) rfl (by decide) (fun H locs hP hD hS => ?_)
      refine lv_aload_n hx hb (dAt zX5_image_0 11 rfl) rfl (lv_at hl 0 rfl) ?_
      refine lv_dup hx hb (dAt zX5_image_0 12 rfl) rfl ?_
      refine va_get (D := D) (ci := 5) (v := .int (zX 0 3)) (C := RX5) (T := TX5) (N := 8) hx hb htl inlX5 hown hK hP 0 rfl rfl 3 (by decide) (htl _ W_18) (fun _ h9 => h9) rfl (dAt zX5_image_0 13 rfl) ?_
      refine lv_iconst (v := 1) hx hb (dAt zX5_image_0 14 rfl) (by decide) ?_
      refine lv_iload_n hx hb (dAt zX5_image_0 15 rfl) rfl (lv_at hl 1 rfl) ?_
      refine lv_ishl hx hb (dAt zX5_image_0 16 rfl) ?_
      refine lv_ior hx hb (dAt zX5_image_0 17 rfl) ?_
      refine va_put (D := D) (ci := 5) (v := .int ((zX 0 3) ||| ((1 : Int32) <<< (a1 &&& 31)))) (ty := .int) (C := RX5) (T := TX5) (N := 8) hx hb htl inlX5 tyX5 tyX5_ok nmX5 hown hK hP hD hS 0 rfl rfl 3 (by decide) (htl _ W_18) (fun _ h9 => h9) rfl (by decide +kernel) rfl rfl (Nat.le_of_ble_eq_true rfl) (dAt zX5_image_0 18 rfl) (fun H locs hP hD hS => ?_)
      have hP : va_P D vwCl (w5x qX qT qI qJ qP qC qF qA ((zX 0 3) ||| ((1 : Int32) <<< (a1 &&& 31))) ++ (w4 cI qT zT ++ (w4 cI qI u19 ++ (w4 cI qJ zJ ++ (w2 cI qP zP ++ (w1 qC qV zC ++ (w4 cI qV zV ++ (w3 cI qF zF ++ (w0 cJ qA zA))))))))) H := hP
      have hD : va_D A (w5x qX qT qI qJ qP qC qF qA ((zX 0 3) ||| ((1 : Int32) <<< (a1 &&& 31))) ++ (w4 cI qT zT ++ (w4 cI qI u19 ++ (w4 cI qJ zJ ++ (w2 cI qP zP ++ (w1 qC qV zC ++ (w4 cI qV zV ++ (w3 cI qF zF ++ (w0 cJ qA zA))))))))) := hD
      refine lv_iconst (v := 1) hx hb (dAt zX5_image_0 19 rfl) (by decide) ?_
      have hP : va_P D vwCl (w5 qX qT qI qJ qP qC qF qA (sf zX 3 ((zX 0 3) ||| ((1 : Int32) <<< (a1 &&& 31)))) ++ (w4 cI qT zT ++ (w4 cI qI u19 ++ (w4 cI qJ zJ ++ (w2 cI qP zP ++ (w1 qC qV zC ++ (w4 cI qV zV ++ (w3 cI qF zF ++ (w0 cJ qA zA))))))))) H := hP
      have hD : va_D A (w5 qX qT qI qJ qP qC qF qA (sf zX 3 ((zX 0 3) ||| ((1 : Int32) <<< (a1 &&& 31)))) ++ (w4 cI qT zT ++ (w4 cI qI u19 ++ (w4 cI qJ zJ ++ (w2 cI qP zP ++ (w1 qC qV zC ++ (w4 cI qV zV ++ (w3 cI qF zF ++ (w0 cJ qA zA))))))))) := hD
      obtain rfl := q_some h
      exact xRi hx hb hr hlocks hQ hAe hP hD hK hS rfl (dAt zX5_image_0 20 rfl)
    · have h := q_neg c_12 h
      refine xFr (wc := (w5 qX qT qI qJ qP qC qF qA zX ++ (w4 cI qT zT ++ (w4 cI qI zI ++ (w4 cI qJ zJ ++ (w2 cI qP zP ++ (w1 qC qV zC ++ (w4 cI qV zV ++ (w3 cI qF zF ++ (w0 cJ qA zA)))))))))) (w1 := (w5 qX qT qI qJ qP qC qF qA zX ++ (w4 cI qT zT ++ (w4 cI qI zI ++ (w4 cI qJ zJ ++ (w2 cI qP zP ++ (w1 qC qV zC ++ (w4 cI qV zV ++ (w3 cI qF zF ++ (w0 cJ qA zA)))))))))) (wr := ([] : va_W)) (ws2 := (w5 qX qT qI qJ qP qC qF qA zX ++ (w4 cI qT zT ++ (w4 cI qI zI ++ (w4 cI qJ zJ ++ (w2 cI qP zP ++ (w1 qC qV zC ++ (w4 cI qV zV ++ (w3 cI qF zF ++ (w0 cJ qA zA)))))))))) (va_runV (As := [.int a1]) (rest := []) ⟨hx, hb, hml, hown, htl⟩ (c_X5_imageOf l D cI cJ cZ n qX qT qI qJ qP qC qV qF qA H.size zX zT zI zJ zP zC zV zF zA a1 (qJ 0) (by rw [if_neg c_12])) (cwV 1 htl (gV W_782 W_783 W_784 W_2 W_785) rfl rfl rfl (by decide +kernel) ⟨Nat.le_of_ble_eq_true rfl, Nat.le_of_ble_eq_true rfl⟩) (xPV hP hD hK hN 0 rfl rfl) rfl rfl hl.1 rfl (lv_room (Nat.le_of_ble_eq_true rfl)) (dAt zX5_image_0 7 rfl) ⟨Nat.zero_le _, Nat.zero_le _⟩) hS hA hP hD [0, 1, 2, 3, 4, 5, 6, 7, 8, 9, 10, 11, 12, 13, 14, 15, 16, 17, 18, 19, 20, 21, 22, 23, 24, 25, 26, 27, 28, 29] [] [0, 1, 2, 3, 4, 5, 6, 7, 8, 9, 10, 11, 12, 13, 14, 15, 16, 17, 18, 19, 20, 21, 22, 23, 24, 25, 26, 27, 28, 29] rfl rfl (by decide) (by decide) rfl (by decide) (fun H locs hP hD hS => ?_)
      refine lv_aload_n hx hb (dAt zX5_image_0 8 rfl) rfl (lv_at hl 0 rfl) ?_
      refine va_get (D := D) (ci := 5) (v := .ref (qT 0)) (C := RX5) (T := TX5) (N := 8) hx hb htl inlX5 hown hK hP 0 rfl rfl 0 (by decide) (htl _ W_15) (fun _ h9 => h9) rfl (dAt zX5_image_0 9 rfl) ?_
      obtain ⟨u19, hu19, h⟩ := q_bind h
      have hPc : va_P D vwCl (w4 cI qJ zJ ++ (w4 cI qT zT)) H := hP.sub [11, 12, 13, 14, 15, 1, 2, 3, 4, 5] rfl
      have hDc : va_D A (w4 cI qJ zJ ++ (w4 cI qT zT)) := hD.sub [11, 12, 13, 14, 15, 1, 2, 3, 4, 5] (by decide) rfl
      refine xFv (wc := (w4 cI qJ zJ ++ (w4 cI qT zT))) (w1 := (w4 cI qJ u19 ++ (w4 cI qT zT))) (wr := (w5 qX qT qI qJ qP qC qF qA zX ++ (w4 cI qI zI ++ (w2 cI qP zP ++ (w1 qC qV zC ++ (w4 cI qV zV ++ (w3 cI qF zF ++ (w0 cJ qA zA)))))))) (ws2 := (w5 qX qT qI qJ qP qC qF qA zX ++ (w4 cI qT zT ++ (w4 cI qI zI ++ (w4 cI qJ u19 ++ (w2 cI qP zP ++ (w1 qC qV zC ++ (w4 cI qV zV ++ (w3 cI qF zF ++ (w0 cJ qA zA)))))))))) (va_runV (As := [.ref (qT 0)]) (rest := []) ⟨hx, hb, hml, hown, htl⟩ (c_X4_copyFrom l D cI cJ cZ n qJ qT H.size zJ zT  u19 hu19) (cwV 1 htl (gV W_514 W_278 W_279 W_14 W_280) rfl rfl rfl (by decide +kernel) ⟨Nat.le_of_ble_eq_true rfl, Nat.le_of_ble_eq_true rfl⟩) (xPV hPc hDc hK hN 0 rfl rfl) rfl rfl hl.1 rfl (lv_room (Nat.le_of_ble_eq_true rfl)) (dAt zX5_image_0 10 rfl) ⟨Nat.zero_le _, Nat.zero_le _⟩) hS hA hP hD [11, 12, 13, 14, 15, 1, 2, 3, 4, 5] [0, 6, 7, 8, 9, 10, 16, 17, 18, 19, 20, 21, 22, 23, 24, 25, 26, 27, 28, 29] [0, 25, 26, 27, 28, 29, 1, 2, 3, 4, 5, 20, 21, 22, 23, 24, 6, 7, 8, 9, 10, 11, 12, 13, 14, 15, 16, 17, 18, 19] rfl rfl (by decide) (by decide) rfl (by decide) (fun H locs hP hD hS => ?_)
      refine lv_aload_n hx hb (dAt zX5_image_0 11 rfl) rfl (lv_at hl 0 rfl) ?_
      refine lv_dup hx hb (dAt zX5_image_0 12 rfl) rfl ?_
      refine va_get (D := D) (ci := 5) (v := .int (zX 0 3)) (C := RX5) (T := TX5) (N := 8) hx hb htl inlX5 hown hK hP 0 rfl rfl 3 (by decide) (htl _ W_18) (fun _ h9 => h9) rfl (dAt zX5_image_0 13 rfl) ?_
      refine lv_iconst (v := 1) hx hb (dAt zX5_image_0 14 rfl) (by decide) ?_
      refine lv_iload_n hx hb (dAt zX5_image_0 15 rfl) rfl (lv_at hl 1 rfl) ?_
      refine lv_ishl hx hb (dAt zX5_image_0 16 rfl) ?_
      refine lv_ior hx hb (dAt zX5_image_0 17 rfl) ?_
      refine va_put (D := D) (ci := 5) (v := .int ((zX 0 3) ||| ((1 : Int32) <<< (a1 &&& 31)))) (ty := .int) (C := RX5) (T := TX5) (N := 8) hx hb htl inlX5 tyX5 tyX5_ok nmX5 hown hK hP hD hS 0 rfl rfl 3 (by decide) (htl _ W_18) (fun _ h9 => h9) rfl (by decide +kernel) rfl rfl (Nat.le_of_ble_eq_true rfl) (dAt zX5_image_0 18 rfl) (fun H locs hP hD hS => ?_)
      have hP : va_P D vwCl (w5x qX qT qI qJ qP qC qF qA ((zX 0 3) ||| ((1 : Int32) <<< (a1 &&& 31))) ++ (w4 cI qT zT ++ (w4 cI qI zI ++ (w4 cI qJ u19 ++ (w2 cI qP zP ++ (w1 qC qV zC ++ (w4 cI qV zV ++ (w3 cI qF zF ++ (w0 cJ qA zA))))))))) H := hP
      have hD : va_D A (w5x qX qT qI qJ qP qC qF qA ((zX 0 3) ||| ((1 : Int32) <<< (a1 &&& 31))) ++ (w4 cI qT zT ++ (w4 cI qI zI ++ (w4 cI qJ u19 ++ (w2 cI qP zP ++ (w1 qC qV zC ++ (w4 cI qV zV ++ (w3 cI qF zF ++ (w0 cJ qA zA))))))))) := hD
      refine lv_iconst (v := 1) hx hb (dAt zX5_image_0 19 rfl) (by decide) ?_
      have hP : va_P D vwCl (w5 qX qT qI qJ qP qC qF qA (sf zX 3 ((zX 0 3) ||| ((1 : Int32) <<< (a1 &&& 31)))) ++ (w4 cI qT zT ++ (w4 cI qI zI ++ (w4 cI qJ u19 ++ (w2 cI qP zP ++ (w1 qC qV zC ++ (w4 cI qV zV ++ (w3 cI qF zF ++ (w0 cJ qA zA))))))))) H := hP
      have hD : va_D A (w5 qX qT qI qJ qP qC qF qA (sf zX 3 ((zX 0 3) ||| ((1 : Int32) <<< (a1 &&& 31)))) ++ (w4 cI qT zT ++ (w4 cI qI zI ++ (w4 cI qJ u19 ++ (w2 cI qP zP ++ (w1 qC qV zC ++ (w4 cI qV zV ++ (w3 cI qF zF ++ (w0 cJ qA zA))))))))) := hD
      obtain rfl := q_some h
      exact xRi hx hb hr hlocks hQ hAe hP hD hK hS rfl (dAt zX5_image_0 20 rfl)
  · have h := q_pos c_4 h
    refine lv_bipush (v := (-2)) hx hb (dAt zX5_image_0 3 rfl) (by decide) ?_
    obtain rfl := q_some h
    exact xRi hx hb hr hlocks hQ hAe hP hD hK hS rfl (dAt zX5_image_0 4 rfl)
def m_X5_restore (n : Nat) (zX : TI) (zT : TI) (zI : TI) (zJ : TI) (zP : TI) (zC : TI) (zV : TI) (zF : TI) (zA : TL) (a1 : Int32) : Option (Int32 × TI) := ((m_X5_isFlag n  a1).bind fun u1 => (if u1 = 0 then some ((-2), zT) else ((m_X5_holds n  (zX 0 3) a1).bind fun u15 => (if u15 = 0 then some ((-3), zT) else (if a1 = 0 then ((m_X4_copyFrom n zT zI).bind fun u33 => some (1, u33)) else ((m_X4_copyFrom n zT zJ).bind fun u33 => some (1, u33)))))))
set_option maxHeartbeats 4000000 in
set_option maxRecDepth 100000 in
theorem c_X5_restore (l : Launch) (D : va_G) (cI cJ cZ : ClassId) (n : Nat) (qX : Nat → Nat) (qT : Nat → Nat) (qI : Nat → Nat) (qJ : Nat → Nat) (qP : Nat → Nat) (qC : Nat → Nat) (qV : Nat → Nat) (qF : Nat → Nat) (qA : Nat → Nat) (sz : Nat) (zX : TI) (zT : TI) (zI : TI) (zJ : TI) (zP : TI) (zC : TI) (zV : TI) (zF : TI) (zA : TL) (a1 : Int32) (out : Int32 × TI) (hm : m_X5_restore n zX zT zI zJ zP zC zV zF zA a1 = some out) : Met l yX5_restore (wsM yX5_restore cX5_restore 2 (some .int)) { frames := 2, cells := 0, slots := 0, locals := 43 } (xPre D (kT cI cJ cZ) (w5 qX qT qI qJ qP qC qF qA zX ++ (w4 cI qT zT ++ (w4 cI qI zI ++ (w4 cI qJ zJ ++ (w2 cI qP zP ++ (w1 qC qV zC ++ (w4 cI qV zV ++ (w3 cI qF zF ++ (w0 cJ qA zA))))))))) sz [.ref (qX 0), .int a1]) (xQi D (kT cI cJ cZ) (w5 qX qT qI qJ qP qC qF qA zX ++ (w4 cI qT zT ++ (w4 cI qI zI ++ (w4 cI qJ zJ ++ (w2 cI qP zP ++ (w1 qC qV zC ++ (w4 cI qV zV ++ (w3 cI qF zF ++ (w0 cJ qA zA))))))))) (w5 qX qT qI qJ qP qC qF qA zX ++ (w4 cI qT out.2 ++ (w4 cI qI zI ++ (w4 cI qJ zJ ++ (w2 cI qP zP ++ (w1 qC qV zC ++ (w4 cI qV zV ++ (w3 cI qF zF ++ (w0 cJ qA zA))))))))) sz out.1) 0 0 (va_A (w5 qX qT qI qJ qP qC qF qA zX ++ (w4 cI qT zT ++ (w4 cI qI zI ++ (w4 cI qJ zJ ++ (w2 cI qP zP ++ (w1 qC qV zC ++ (w4 cI qV zV ++ (w3 cI qF zF ++ (w0 cJ qA zA))))))))) sz) := by
  refine Met.ofW (cc := cX5_restore) (maxL := 2) (ret := (some .int)) (by decide) rfl ?_
  intro p e s m args below meth c s₁ B hml hv
  obtain ⟨hv, hsz, hP, hK, hD0, hN⟩ := hv
  have hx := B.exec; have hb := B.bytes; have hr := B.returns
  have hts := atoms_spec (ws := (wsM yX5_restore cX5_restore 2 (some .int))) B.pre
  have hown : s.vm.findClass RX5 = some m.cls := findClass_of_methodNamed B.named
  have hlocks := B.notSynchronized
  subst hsz
  have hD := hD0.self (sz := s.heap.size)
  obtain ⟨A, hAe⟩ : ∃ A, A = va_A (w5 qX qT qI qJ qP qC qF qA zX ++ (w4 cI qT zT ++ (w4 cI qI zI ++ (w4 cI qJ zJ ++ (w2 cI qP zP ++ (w1 qC qV zC ++ (w4 cI qV zV ++ (w3 cI qF zF ++ (w0 cJ qA zA))))))))) s.heap.size := ⟨_, rfl⟩
  rw [← hAe] at hD
  have hA : ∀ q : Nat, s.heap.size ≤ q → A q := fun q h => by rw [hAe]; exact Or.inr h
  have htl : ∀ w ∈ wsL_law, w.before args s = true := fun w h => hts w (List.mem_cons_of_mem _ h)
  refine xHead (R' := { frames := 2, cells := 0, slots := 0, locals := 43 }) rfl (fun Q H hQ hH => ?_)
  have hP : va_P D vwCl (w5 qX qT qI qJ qP qC qF qA zX ++ (w4 cI qT zT ++ (w4 cI qI zI ++ (w4 cI qJ zJ ++ (w2 cI qP zP ++ (w1 qC qV zC ++ (w4 cI qV zV ++ (w3 cI qF zF ++ (w0 cJ qA zA))))))))) H := by rw [hH]; exact hP
  have hS : va_S A s.heap H [] := by rw [hH]; exact va_S.rf
  refine xStart hv (Nat.le_of_ble_eq_true rfl) (lv := [(0, .ref (qX 0)), (1, .int a1)]) rfl (fun ls hl => ?_)
  have h := hm
  unfold m_X5_restore at h
  refine lv_iload_n hx hb (dAt zX5_restore_0 0 rfl) rfl (lv_at hl 1 rfl) ?_
  obtain ⟨u1, hu1, h⟩ := q_bind h
  refine xFz (wc := ([] : va_W)) (w1 := ([] : va_W)) (wr := (w5 qX qT qI qJ qP qC qF qA zX ++ (w4 cI qT zT ++ (w4 cI qI zI ++ (w4 cI qJ zJ ++ (w2 cI qP zP ++ (w1 qC qV zC ++ (w4 cI qV zV ++ (w3 cI qF zF ++ (w0 cJ qA zA)))))))))) (ws2 := (w5 qX qT qI qJ qP qC qF qA zX ++ (w4 cI qT zT ++ (w4 cI qI zI ++ (w4 cI qJ zJ ++ (w2 cI qP zP ++ (w1 qC qV zC ++ (w4 cI qV zV ++ (w3 cI qF zF ++ (w0 cJ qA zA)))))))))) (va_runS (As := [.int a1]) (rest := []) ⟨hx, hb, hml, hown, htl⟩ (c_X5_isFlag l D cI cJ cZ n  H.size  a1 u1 hu1) (va_cwS 1 htl (gS W_142 W_143 W_2 W_144) rfl rfl rfl (by decide +kernel) ⟨Nat.le_of_ble_eq_true rfl, Nat.le_of_ble_eq_true rfl⟩) (xPS xP0 (xD0 A) hK hN) rfl rfl hl.1 rfl (lv_room (Nat.le_of_ble_eq_true rfl)) (dAt zX5_restore_0 1 rfl) ⟨Nat.zero_le _, Nat.zero_le _⟩) hS hA hP hD [] [0, 1, 2, 3, 4, 5, 6, 7, 8, 9, 10, 11, 12, 13, 14, 15, 16, 17, 18, 19, 20, 21, 22, 23, 24, 25, 26, 27, 28, 29] [0, 1, 2, 3, 4, 5, 6, 7, 8, 9, 10, 11, 12, 13, 14, 15, 16, 17, 18, 19, 20, 21, 22, 23, 24, 25, 26, 27, 28, 29] rfl rfl (by decide) (by decide) rfl (by decide) (fun H locs hz1 hP hD hS => ?_)
  refine lv_if_ne (tgt := 10) hx hb (dAt zX5_restore_0 2 rfl) (by decide) (fun c_4 => ?_) (fun c_4 => ?_)
  · have h := q_neg c_4 h
    refine lv_aload_n hx hb (dAt zX5_restore_0 5 rfl) rfl (lv_at hl 0 rfl) ?_
    refine va_get (D := D) (ci := 5) (v := .int (zX 0 3)) (C := RX5) (T := TX5) (N := 8) hx hb htl inlX5 hown hK hP 0 rfl rfl 3 (by decide) (htl _ W_18) (fun _ h9 => h9) rfl (dAt zX5_restore_0 6 rfl) ?_
    refine lv_iload_n hx hb (dAt zX5_restore_0 7 rfl) rfl (lv_at hl 1 rfl) ?_
    obtain ⟨u15, hu15, h⟩ := q_bind h
    refine xFz (wc := ([] : va_W)) (w1 := ([] : va_W)) (wr := (w5 qX qT qI qJ qP qC qF qA zX ++ (w4 cI qT zT ++ (w4 cI qI zI ++ (w4 cI qJ zJ ++ (w2 cI qP zP ++ (w1 qC qV zC ++ (w4 cI qV zV ++ (w3 cI qF zF ++ (w0 cJ qA zA)))))))))) (ws2 := (w5 qX qT qI qJ qP qC qF qA zX ++ (w4 cI qT zT ++ (w4 cI qI zI ++ (w4 cI qJ zJ ++ (w2 cI qP zP ++ (w1 qC qV zC ++ (w4 cI qV zV ++ (w3 cI qF zF ++ (w0 cJ qA zA)))))))))) (va_runS (As := [.int (zX 0 3), .int a1]) (rest := []) ⟨hx, hb, hml, hown, htl⟩ (c_X5_holds l D cI cJ cZ n  H.size  (zX 0 3) a1 u15 hu15) (va_cwS 2 htl (gS W_351 W_338 W_2 W_339) rfl rfl rfl (by decide +kernel) ⟨Nat.le_of_ble_eq_true rfl, Nat.le_of_ble_eq_true rfl⟩) (xPS xP0 (xD0 A) hK hN) rfl rfl hl.1 rfl (lv_room (Nat.le_of_ble_eq_true rfl)) (dAt zX5_restore_0 8 rfl) ⟨Nat.zero_le _, Nat.zero_le _⟩) hS hA hP hD [] [0, 1, 2, 3, 4, 5, 6, 7, 8, 9, 10, 11, 12, 13, 14, 15, 16, 17, 18, 19, 20, 21, 22, 23, 24, 25, 26, 27, 28, 29] [0, 1, 2, 3, 4, 5, 6, 7, 8, 9, 10, 11, 12, 13, 14, 15, 16, 17, 18, 19, 20, 21, 22, 23, 24, 25, 26, 27, 28, 29] rfl rfl (by decide) (by decide) rfl (by decide) (fun H locs hz15 hP hD hS => ?_)
    refine lv_if_ne (tgt := 24) hx hb (dAt zX5_restore_0 9 rfl) (by decide) (fun c_18 => ?_) (fun c_18 => ?_)
    · have h := q_neg c_18 h
      refine lv_aload_n hx hb (dAt zX5_restore_0 12 rfl) rfl (lv_at hl 0 rfl) ?_
      refine va_get (D := D) (ci := 5) (v := .ref (qT 0)) (C := RX5) (T := TX5) (N := 8) hx hb htl inlX5 hown hK hP 0 rfl rfl 0 (by decide) (htl _ W_15) (fun _ h9 => h9) rfl (dAt zX5_restore_0 13 rfl) ?_
      refine lv_aload_n hx hb (dAt zX5_restore_0 14 rfl) rfl (lv_at hl 0 rfl) ?_
      refine lv_iload_n hx hb (dAt zX5_restore_0 15 rfl) rfl (lv_at hl 1 rfl) ?_
      by_cases c_30 : a1 = 0
      · have h := q_pos c_30 h
        refine xFr (wc := (w5 qX qT qI qJ qP qC qF qA zX ++ (w4 cI qT zT ++ (w4 cI qI zI ++ (w4 cI qJ zJ ++ (w2 cI qP zP ++ (w1 qC qV zC ++ (w4 cI qV zV ++ (w3 cI qF zF ++ (w0 cJ qA zA)))))))))) (w1 := (w5 qX qT qI qJ qP qC qF qA zX ++ (w4 cI qT zT ++ (w4 cI qI zI ++ (w4 cI qJ zJ ++ (w2 cI qP zP ++ (w1 qC qV zC ++ (w4 cI qV zV ++ (w3 cI qF zF ++ (w0 cJ qA zA)))))))))) (wr := ([] : va_W)) (ws2 := (w5 qX qT qI qJ qP qC qF qA zX ++ (w4 cI qT zT ++ (w4 cI qI zI ++ (w4 cI qJ zJ ++ (w2 cI qP zP ++ (w1 qC qV zC ++ (w4 cI qV zV ++ (w3 cI qF zF ++ (w0 cJ qA zA)))))))))) (va_runV (As := [.int a1]) (rest := [.ref (qT 0)]) ⟨hx, hb, hml, hown, htl⟩ (c_X5_imageOf l D cI cJ cZ n qX qT qI qJ qP qC qV qF qA H.size zX zT zI zJ zP zC zV zF zA a1 (qI 0) (by rw [if_pos c_30])) (cwV 1 htl (gV W_782 W_783 W_784 W_2 W_785) rfl rfl rfl (by decide +kernel) ⟨Nat.le_of_ble_eq_true rfl, Nat.le_of_ble_eq_true rfl⟩) (xPV hP hD hK hN 0 rfl rfl) rfl rfl hl.1 rfl (lv_room (Nat.le_of_ble_eq_true rfl)) (dAt zX5_restore_0 16 rfl) ⟨Nat.zero_le _, Nat.zero_le _⟩) hS hA hP hD [0, 1, 2, 3, 4, 5, 6, 7, 8, 9, 10, 11, 12, 13, 14, 15, 16, 17, 18, 19, 20, 21, 22, 23, 24, 25, 26, 27, 28, 29] [] [0, 1, 2, 3, 4, 5, 6, 7, 8, 9, 10, 11, 12, 13, 14, 15, 16, 17, 18, 19, 20, 21, 22, 23, 24, 25, 26, 27, 28, 29] rfl rfl (by decide) (by decide) rfl (by decide) (fun H locs hP hD hS => ?_)
        obtain ⟨u33, hu33, h⟩ := q_bind h
        have hPc : va_P D vwCl (w4 cI qT zT ++ (w4 cI qI zI)) H := hP.sub [1, 2, 3, 4, 5, 6, 7, 8, 9, 10] rfl
        have hDc : va_D A (w4 cI qT zT ++ (w4 cI qI zI)) := hD.sub [1, 2, 3, 4, 5, 6, 7, 8, 9, 10] (by decide) rfl
        refine xFv (wc := (w4 cI qT zT ++ (w4 cI qI zI))) (w1 := (w4 cI qT u33 ++ (w4 cI qI zI))) (wr := (w5 qX qT qI qJ qP qC qF qA zX ++ (w4 cI qJ zJ ++ (w2 cI qP zP ++ (w1 qC qV zC ++ (w4 cI qV zV ++ (w3 cI qF zF ++ (w0 cJ qA zA)))))))) (ws2 := (w5 qX qT qI qJ qP qC qF qA zX ++ (w4 cI qT u33 ++ (w4 cI qI zI ++ (w4 cI qJ zJ ++ (w2 cI qP zP ++ (w1 qC qV zC ++ (w4 cI qV zV ++ (w3 cI qF zF ++ (w0 cJ qA zA)))))))))) (va_runV (As := [.ref (qI 0)]) (rest := []) ⟨hx, hb, hml, hown, htl⟩ (c_X4_copyFrom l D cI cJ cZ n qT qI H.size zT zI  u33 hu33) (cwV 1 htl (gV W_514 W_278 W_279 W_14 W_280) rfl rfl rfl (by decide +kernel) ⟨Nat.le_of_ble_eq_true rfl, Nat.le_of_ble_eq_true rfl⟩) (xPV hPc hDc hK hN 0 rfl rfl) rfl rfl hl.1 rfl (lv_room (Nat.le_of_ble_eq_true rfl)) (dAt zX5_restore_0 17 rfl) ⟨Nat.zero_le _, Nat.zero_le _⟩) hS hA hP hD [1, 2, 3, 4, 5, 6, 7, 8, 9, 10] [0, 11, 12, 13, 14, 15, 16, 17, 18, 19, 20, 21, 22, 23, 24, 25, 26, 27, 28, 29] [0, 20, 21, 22, 23, 24, 25, 26, 27, 28, 29, 1, 2, 3, 4, 5, 6, 7, 8, 9, 10, 11, 12, 13, 14, 15, 16, 17, 18, 19] rfl rfl (by decide) (by decide) rfl (by decide) (fun H locs hP hD hS => ?_)
        refine lv_iconst (v := 1) hx hb (dAt zX5_restore_0 18 rfl) (by decide) ?_
        obtain rfl := q_some h
        exact xRi hx hb hr hlocks hQ hAe hP hD hK hS rfl (dAt zX5_restore_0 19 rfl)
      · have h := q_neg c_30 h
        refine xFr (wc := (w5 qX qT qI qJ qP qC qF qA zX ++ (w4 cI qT zT ++ (w4 cI qI zI ++ (w4 cI qJ zJ ++ (w2 cI qP zP ++ (w1 qC qV zC ++ (w4 cI qV zV ++ (w3 cI qF zF ++ (w0 cJ qA zA)))))))))) (w1 := (w5 qX qT qI qJ qP qC qF qA zX ++ (w4 cI qT zT ++ (w4 cI qI zI ++ (w4 cI qJ zJ ++ (w2 cI qP zP ++ (w1 qC qV zC ++ (w4 cI qV zV ++ (w3 cI qF zF ++ (w0 cJ qA zA)))))))))) (wr := ([] : va_W)) (ws2 := (w5 qX qT qI qJ qP qC qF qA zX ++ (w4 cI qT zT ++ (w4 cI qI zI ++ (w4 cI qJ zJ ++ (w2 cI qP zP ++ (w1 qC qV zC ++ (w4 cI qV zV ++ (w3 cI qF zF ++ (w0 cJ qA zA)))))))))) (va_runV (As := [.int a1]) (rest := [.ref (qT 0)]) ⟨hx, hb, hml, hown, htl⟩ (c_X5_imageOf l D cI cJ cZ n qX qT qI qJ qP qC qV qF qA H.size zX zT zI zJ zP zC zV zF zA a1 (qJ 0) (by rw [if_neg c_30])) (cwV 1 htl (gV W_782 W_783 W_784 W_2 W_785) rfl rfl rfl (by decide +kernel) ⟨Nat.le_of_ble_eq_true rfl, Nat.le_of_ble_eq_true rfl⟩) (xPV hP hD hK hN 0 rfl rfl) rfl rfl hl.1 rfl (lv_room (Nat.le_of_ble_eq_true rfl)) (dAt zX5_restore_0 16 rfl) ⟨Nat.zero_le _, Nat.zero_le _⟩) hS hA hP hD [0, 1, 2, 3, 4, 5, 6, 7, 8, 9, 10, 11, 12, 13, 14, 15, 16, 17, 18, 19, 20, 21, 22, 23, 24, 25, 26, 27, 28, 29] [] [0, 1, 2, 3, 4, 5, 6, 7, 8, 9, 10, 11, 12, 13, 14, 15, 16, 17, 18, 19, 20, 21, 22, 23, 24, 25, 26, 27, 28, 29] rfl rfl (by decide) (by decide) rfl (by decide) (fun H locs hP hD hS => ?_)
        obtain ⟨u33, hu33, h⟩ := q_bind h
        have hPc : va_P D vwCl (w4 cI qT zT ++ (w4 cI qJ zJ)) H := hP.sub [1, 2, 3, 4, 5, 11, 12, 13, 14, 15] rfl
        have hDc : va_D A (w4 cI qT zT ++ (w4 cI qJ zJ)) := hD.sub [1, 2, 3, 4, 5, 11, 12, 13, 14, 15] (by decide) rfl
        refine xFv (wc := (w4 cI qT zT ++ (w4 cI qJ zJ))) (w1 := (w4 cI qT u33 ++ (w4 cI qJ zJ))) (wr := (w5 qX qT qI qJ qP qC qF qA zX ++ (w4 cI qI zI ++ (w2 cI qP zP ++ (w1 qC qV zC ++ (w4 cI qV zV ++ (w3 cI qF zF ++ (w0 cJ qA zA)))))))) (ws2 := (w5 qX qT qI qJ qP qC qF qA zX ++ (w4 cI qT u33 ++ (w4 cI qI zI ++ (w4 cI qJ zJ ++ (w2 cI qP zP ++ (w1 qC qV zC ++ (w4 cI qV zV ++ (w3 cI qF zF ++ (w0 cJ qA zA)))))))))) (va_runV (As := [.ref (qJ 0)]) (rest := []) ⟨hx, hb, hml, hown, htl⟩ (c_X4_copyFrom l D cI cJ cZ n qT qJ H.size zT zJ  u33 hu33) (cwV 1 htl (gV W_514 W_278 W_279 W_14 W_280) rfl rfl rfl (by decide +kernel) ⟨Nat.le_of_ble_eq_true rfl, Nat.le_of_ble_eq_true rfl⟩) (xPV hPc hDc hK hN 0 rfl rfl) rfl rfl hl.1 rfl (lv_room (Nat.le_of_ble_eq_true rfl)) (dAt zX5_restore_0 17 rfl) ⟨Nat.zero_le _, Nat.zero_le _⟩) hS hA hP hD [1, 2, 3, 4, 5, 11, 12, 13, 14, 15] [0, 6, 7, 8, 9, 10, 16, 17, 18, 19, 20, 21, 22, 23, 24, 25, 26, 27, 28, 29] [0, 20, 21, 22, 23, 24, 1, 2, 3, 4, 5, 25, 26, 27, 28, 29, 6, 7, 8, 9, 10, 11, 12, 13, 14, 15, 16, 17, 18, 19] rfl rfl (by decide) (by decide) rfl (by decide) (fun H locs hP hD hS => ?_)
        refine lv_iconst (v := 1) hx hb (dAt zX5_restore_0 18 rfl) (by decide) ?_
        obtain rfl := q_some h
        exact xRi hx hb hr hlocks hQ hAe hP hD hK hS rfl (dAt zX5_restore_0 19 rfl)
    · have h := q_pos c_18 h
      refine lv_bipush (v := (-3)) hx hb (dAt zX5_restore_0 10 rfl) (by decide) ?_
      obtain rfl := q_some h
      exact xRi hx hb hr hlocks hQ hAe hP hD hK hS rfl (dAt zX5_restore_0 11 rfl)
  · have h := q_pos c_4 h
    refine lv_bipush (v := (-2)) hx hb (dAt zX5_restore_0 3 rfl) (by decide) ?_
    obtain rfl := q_some h
    exact xRi hx hb hr hlocks hQ hAe hP hD hK hS rfl (dAt zX5_restore_0 4 rfl)
def m_X5_told (n : Nat) (zX : TI) (zT : TI) (zI : TI) (zJ : TI) (zP : TI) (zC : TI) (zV : TI) (zF : TI) (zA : TL) (a1 : Int32) : Option Int32 := ((m_X5_isWithin n  a1 10 13).bind fun u5 => (if u5 = 0 then ((m_X5_isWithin n  a1 100 199).bind fun u29 => (if u29 = 0 then ((m_X5_isWithin n  a1 200 299).bind fun u61 => (if u61 = 0 then (if a1 = 0 then some (zP 0 1) else (if a1 = 1 then some (zT 0 0) else (if a1 = 2 then some (zT 0 1) else (if a1 = 3 then some (zT 0 2) else (if a1 = 4 then ((m_X4_missed n zT).bind fun u160 => some u160) else (if a1 = 5 then some (zT 0 3) else some (-2))))))) else ((m_X4_kind n zT (jrem (a1 / (10 : Int32)) (10 : Int32)) (jrem a1 (10 : Int32))).bind fun u82 => some u82))) else ((m_X4_strength n zT (jrem (a1 / (10 : Int32)) (10 : Int32)) (jrem a1 (10 : Int32))).bind fun u50 => some u50))) else ((m_X4_rule n zT (a1 - (10 : Int32))).bind fun u19 => some u19)))
set_option maxHeartbeats 4000000 in
set_option maxRecDepth 100000 in
theorem c_X5_told (l : Launch) (D : va_G) (cI cJ cZ : ClassId) (n : Nat) (qX : Nat → Nat) (qT : Nat → Nat) (qI : Nat → Nat) (qJ : Nat → Nat) (qP : Nat → Nat) (qC : Nat → Nat) (qV : Nat → Nat) (qF : Nat → Nat) (qA : Nat → Nat) (sz : Nat) (zX : TI) (zT : TI) (zI : TI) (zJ : TI) (zP : TI) (zC : TI) (zV : TI) (zF : TI) (zA : TL) (a1 : Int32) (out : Int32) (hm : m_X5_told n zX zT zI zJ zP zC zV zF zA a1 = some out) : Met l yX5_told (wsM yX5_told cX5_told 2 (some .int)) { frames := 3, cells := 0, slots := 0, locals := 69 } (xPre D (kT cI cJ cZ) (w5 qX qT qI qJ qP qC qF qA zX ++ (w4 cI qT zT ++ (w4 cI qI zI ++ (w4 cI qJ zJ ++ (w2 cI qP zP ++ (w1 qC qV zC ++ (w4 cI qV zV ++ (w3 cI qF zF ++ (w0 cJ qA zA))))))))) sz [.ref (qX 0), .int a1]) (xQi D (kT cI cJ cZ) (w5 qX qT qI qJ qP qC qF qA zX ++ (w4 cI qT zT ++ (w4 cI qI zI ++ (w4 cI qJ zJ ++ (w2 cI qP zP ++ (w1 qC qV zC ++ (w4 cI qV zV ++ (w3 cI qF zF ++ (w0 cJ qA zA))))))))) (w5 qX qT qI qJ qP qC qF qA zX ++ (w4 cI qT zT ++ (w4 cI qI zI ++ (w4 cI qJ zJ ++ (w2 cI qP zP ++ (w1 qC qV zC ++ (w4 cI qV zV ++ (w3 cI qF zF ++ (w0 cJ qA zA))))))))) sz out) 0 0 (va_A (w5 qX qT qI qJ qP qC qF qA zX ++ (w4 cI qT zT ++ (w4 cI qI zI ++ (w4 cI qJ zJ ++ (w2 cI qP zP ++ (w1 qC qV zC ++ (w4 cI qV zV ++ (w3 cI qF zF ++ (w0 cJ qA zA))))))))) sz) := by
  refine Met.ofW (cc := cX5_told) (maxL := 2) (ret := (some .int)) (by decide) rfl ?_
  intro p e s m args below meth c s₁ B hml hv
  obtain ⟨hv, hsz, hP, hK, hD0, hN⟩ := hv
  have hx := B.exec; have hb := B.bytes; have hr := B.returns
  have hts := atoms_spec (ws := (wsM yX5_told cX5_told 2 (some .int))) B.pre
  have hown : s.vm.findClass RX5 = some m.cls := findClass_of_methodNamed B.named
  have hlocks := B.notSynchronized
  subst hsz
  have hD := hD0.self (sz := s.heap.size)
  obtain ⟨A, hAe⟩ : ∃ A, A = va_A (w5 qX qT qI qJ qP qC qF qA zX ++ (w4 cI qT zT ++ (w4 cI qI zI ++ (w4 cI qJ zJ ++ (w2 cI qP zP ++ (w1 qC qV zC ++ (w4 cI qV zV ++ (w3 cI qF zF ++ (w0 cJ qA zA))))))))) s.heap.size := ⟨_, rfl⟩
  rw [← hAe] at hD
  have hA : ∀ q : Nat, s.heap.size ≤ q → A q := fun q h => by rw [hAe]; exact Or.inr h
  have htl : ∀ w ∈ wsL_law, w.before args s = true := fun w h => hts w (List.mem_cons_of_mem _ h)
  refine xHead (R' := { frames := 3, cells := 0, slots := 0, locals := 69 }) rfl (fun Q H hQ hH => ?_)
  have hP : va_P D vwCl (w5 qX qT qI qJ qP qC qF qA zX ++ (w4 cI qT zT ++ (w4 cI qI zI ++ (w4 cI qJ zJ ++ (w2 cI qP zP ++ (w1 qC qV zC ++ (w4 cI qV zV ++ (w3 cI qF zF ++ (w0 cJ qA zA))))))))) H := by rw [hH]; exact hP
  have hS : va_S A s.heap H [] := by rw [hH]; exact va_S.rf
  refine xStart hv (Nat.le_of_ble_eq_true rfl) (lv := [(0, .ref (qX 0)), (1, .int a1)]) rfl (fun ls hl => ?_)
  have h := hm
  unfold m_X5_told at h
  refine lv_iload_n hx hb (dAt zX5_told_0 0 rfl) rfl (lv_at hl 1 rfl) ?_
  refine lv_bipush (v := 10) hx hb (dAt zX5_told_0 1 rfl) (by decide) ?_
  refine lv_bipush (v := 13) hx hb (dAt zX5_told_0 2 rfl) (by decide) ?_
  obtain ⟨u5, hu5, h⟩ := q_bind h
  refine xFz (wc := ([] : va_W)) (w1 := ([] : va_W)) (wr := (w5 qX qT qI qJ qP qC qF qA zX ++ (w4 cI qT zT ++ (w4 cI qI zI ++ (w4 cI qJ zJ ++ (w2 cI qP zP ++ (w1 qC qV zC ++ (w4 cI qV zV ++ (w3 cI qF zF ++ (w0 cJ qA zA)))))))))) (ws2 := (w5 qX qT qI qJ qP qC qF qA zX ++ (w4 cI qT zT ++ (w4 cI qI zI ++ (w4 cI qJ zJ ++ (w2 cI qP zP ++ (w1 qC qV zC ++ (w4 cI qV zV ++ (w3 cI qF zF ++ (w0 cJ qA zA)))))))))) (va_runS (As := [.int a1, .int 10, .int 13]) (rest := []) ⟨hx, hb, hml, hown, htl⟩ (c_X5_isWithin l D cI cJ cZ n  H.size  a1 10 13 u5 hu5) (va_cwS 3 htl (gS W_110 W_111 W_2 W_112) rfl rfl rfl (by decide +kernel) ⟨Nat.le_of_ble_eq_true rfl, Nat.le_of_ble_eq_true rfl⟩) (xPS xP0 (xD0 A) hK hN) rfl rfl hl.1 rfl (lv_room (Nat.le_of_ble_eq_true rfl)) (dAt zX5_told_0 3 rfl) ⟨Nat.zero_le _, Nat.zero_le _⟩) hS hA hP hD [] [0, 1, 2, 3, 4, 5, 6, 7, 8, 9, 10, 11, 12, 13, 14, 15, 16, 17, 18, 19, 20, 21, 22, 23, 24, 25, 26, 27, 28, 29] [0, 1, 2, 3, 4, 5, 6, 7, 8, 9, 10, 11, 12, 13, 14, 15, 16, 17, 18, 19, 20, 21, 22, 23, 24, 25, 26, 27, 28, 29] rfl rfl (by decide) (by decide) rfl (by decide) (fun H locs hz5 hP hD hS => ?_)
  refine lv_if_eq (tgt := 23) hx hb (dAt zX5_told_0 4 rfl) (by decide) (fun c_8 => ?_) (fun c_8 => ?_)
  · have h := q_pos c_8 h
    refine lv_iload_n hx hb (dAt zX5_told_0 12 rfl) rfl (lv_at hl 1 rfl) ?_
    refine lv_bipush (v := 100) hx hb (dAt zX5_told_0 13 rfl) (by decide) ?_
    refine lv_sipush (v := 199) hx hb (dAt zX5_told_0 14 rfl) (by decide) ?_
    obtain ⟨u29, hu29, h⟩ := q_bind h
    refine xFz (wc := ([] : va_W)) (w1 := ([] : va_W)) (wr := (w5 qX qT qI qJ qP qC qF qA zX ++ (w4 cI qT zT ++ (w4 cI qI zI ++ (w4 cI qJ zJ ++ (w2 cI qP zP ++ (w1 qC qV zC ++ (w4 cI qV zV ++ (w3 cI qF zF ++ (w0 cJ qA zA)))))))))) (ws2 := (w5 qX qT qI qJ qP qC qF qA zX ++ (w4 cI qT zT ++ (w4 cI qI zI ++ (w4 cI qJ zJ ++ (w2 cI qP zP ++ (w1 qC qV zC ++ (w4 cI qV zV ++ (w3 cI qF zF ++ (w0 cJ qA zA)))))))))) (va_runS (As := [.int a1, .int 100, .int 199]) (rest := []) ⟨hx, hb, hml, hown, htl⟩ (c_X5_isWithin l D cI cJ cZ n  H.size  a1 100 199 u29 hu29) (va_cwS 3 htl (gS W_110 W_111 W_2 W_112) rfl rfl rfl (by decide +kernel) ⟨Nat.le_of_ble_eq_true rfl, Nat.le_of_ble_eq_true rfl⟩) (xPS xP0 (xD0 A) hK hN) rfl rfl hl.1 rfl (lv_room (Nat.le_of_ble_eq_true rfl)) (dAt zX5_told_0 15 rfl) ⟨Nat.zero_le _, Nat.zero_le _⟩) hS hA hP hD [] [0, 1, 2, 3, 4, 5, 6, 7, 8, 9, 10, 11, 12, 13, 14, 15, 16, 17, 18, 19, 20, 21, 22, 23, 24, 25, 26, 27, 28, 29] [0, 1, 2, 3, 4, 5, 6, 7, 8, 9, 10, 11, 12, 13, 14, 15, 16, 17, 18, 19, 20, 21, 22, 23, 24, 25, 26, 27, 28, 29] rfl rfl (by decide) (by decide) rfl (by decide) (fun H locs hz29 hP hD hS => ?_)
    refine lv_if_eq (tgt := 54) hx hb (dAt zX5_told_0 16 rfl) (by decide) (fun c_32 => ?_) (fun c_32 => ?_)
    · have h := q_pos c_32 h
      refine lv_iload_n hx hb (dAt zX5_told_0 29 rfl) rfl (lv_at hl 1 rfl) ?_
      refine lv_sipush (v := 200) hx hb (dAt zX5_told_0 30 rfl) (by decide) ?_
      refine lv_sipush (v := 299) hx hb (dAt zX5_told_0 31 rfl) (by decide) ?_
      obtain ⟨u61, hu61, h⟩ := q_bind h
      refine xFz (wc := ([] : va_W)) (w1 := ([] : va_W)) (wr := (w5 qX qT qI qJ qP qC qF qA zX ++ (w4 cI qT zT ++ (w4 cI qI zI ++ (w4 cI qJ zJ ++ (w2 cI qP zP ++ (w1 qC qV zC ++ (w4 cI qV zV ++ (w3 cI qF zF ++ (w0 cJ qA zA)))))))))) (ws2 := (w5 qX qT qI qJ qP qC qF qA zX ++ (w4 cI qT zT ++ (w4 cI qI zI ++ (w4 cI qJ zJ ++ (w2 cI qP zP ++ (w1 qC qV zC ++ (w4 cI qV zV ++ (w3 cI qF zF ++ (w0 cJ qA zA)))))))))) (va_runS (As := [.int a1, .int 200, .int 299]) (rest := []) ⟨hx, hb, hml, hown, htl⟩ (c_X5_isWithin l D cI cJ cZ n  H.size  a1 200 299 u61 hu61) (va_cwS 3 htl (gS W_110 W_111 W_2 W_112) rfl rfl rfl (by decide +kernel) ⟨Nat.le_of_ble_eq_true rfl, Nat.le_of_ble_eq_true rfl⟩) (xPS xP0 (xD0 A) hK hN) rfl rfl hl.1 rfl (lv_room (Nat.le_of_ble_eq_true rfl)) (dAt zX5_told_0 32 rfl) ⟨Nat.zero_le _, Nat.zero_le _⟩) hS hA hP hD [] [0, 1, 2, 3, 4, 5, 6, 7, 8, 9, 10, 11, 12, 13, 14, 15, 16, 17, 18, 19, 20, 21, 22, 23, 24, 25, 26, 27, 28, 29] [0, 1, 2, 3, 4, 5, 6, 7, 8, 9, 10, 11, 12, 13, 14, 15, 16, 17, 18, 19, 20, 21, 22, 23, 24, 25, 26, 27, 28, 29] rfl rfl (by decide) (by decide) rfl (by decide) (fun H locs hz61 hP hD hS => ?_)
      refine lv_if_eq (tgt := 86) hx hb (dAt zX5_told_0 33 rfl) (by decide) (fun c_64 => ?_) (fun c_64 => ?_)
      · have h := q_pos c_64 h
        refine lv_iload_n hx hb (dAt zX5_told_0 46 rfl) rfl (lv_at hl 1 rfl) ?_
        by_cases c_87_0 : a1 = 0
        · have h := q_pos c_87_0 h
          refine lv_tableIn (off := 37) (tgt := 124) hx hb (dAt zX5_told_0 47 rfl) (by rw [c_87_0]; decide) (by rw [c_87_0]; decide) (by rw [c_87_0]; rfl) (by decide) ?_
          refine lv_aload_n hx hb (dAt zX5_told_0 48 rfl) rfl (lv_at hl 0 rfl) ?_
          refine va_get (D := D) (ci := 5) (v := .ref (qP 0)) (C := RX5) (T := TX5) (N := 8) hx hb htl inlX5 hown hK hP 0 rfl rfl 4 (by decide) (htl _ W_22) (fun _ h9 => h9) rfl (dAt zX5_told_0 49 rfl) ?_
          refine va_get (D := D) (ci := 2) (v := .int (zP 0 1)) (C := RX2) (T := TX2) (N := 2) hx hb htl inlX2 hown hK hP 16 rfl rfl 1 (by decide) (htl _ W_191) (fun _ h9 => h9) rfl (dAt zX5_told_0 50 rfl) ?_
          obtain rfl := q_some h
          exact xRi hx hb hr hlocks hQ hAe hP hD hK hS rfl (dAt zX5_told_0 51 rfl)
        · have h := q_neg c_87_0 h
          by_cases c_87_1 : a1 = 1
          · have h := q_pos c_87_1 h
            refine lv_tableIn (off := 45) (tgt := 132) hx hb (dAt zX5_told_0 47 rfl) (by rw [c_87_1]; decide) (by rw [c_87_1]; decide) (by rw [c_87_1]; rfl) (by decide) ?_
            refine lv_aload_n hx hb (dAt zX5_told_0 52 rfl) rfl (lv_at hl 0 rfl) ?_
            refine va_get (D := D) (ci := 5) (v := .ref (qT 0)) (C := RX5) (T := TX5) (N := 8) hx hb htl inlX5 hown hK hP 0 rfl rfl 0 (by decide) (htl _ W_15) (fun _ h9 => h9) rfl (dAt zX5_told_0 53 rfl) ?_
            refine va_get (D := D) (ci := 4) (v := .int (zT 0 0)) (C := RX4) (T := TX4) (N := 9) hx hb htl inlX4 hown hK hP 1 rfl rfl 0 (by decide) (htl _ W_141) (fun _ h9 => h9) rfl (dAt zX5_told_0 54 rfl) ?_
            obtain rfl := q_some h
            exact xRi hx hb hr hlocks hQ hAe hP hD hK hS rfl (dAt zX5_told_0 55 rfl)
          · have h := q_neg c_87_1 h
            by_cases c_87_2 : a1 = 2
            · have h := q_pos c_87_2 h
              refine lv_tableIn (off := 53) (tgt := 140) hx hb (dAt zX5_told_0 47 rfl) (by rw [c_87_2]; decide) (by rw [c_87_2]; decide) (by rw [c_87_2]; rfl) (by decide) ?_
              refine lv_aload_n hx hb (dAt zX5_told_0 56 rfl) rfl (lv_at hl 0 rfl) ?_
              refine va_get (D := D) (ci := 5) (v := .ref (qT 0)) (C := RX5) (T := TX5) (N := 8) hx hb htl inlX5 hown hK hP 0 rfl rfl 0 (by decide) (htl _ W_15) (fun _ h9 => h9) rfl (dAt zX5_told_0 57 rfl) ?_
              refine va_get (D := D) (ci := 4) (v := .int (zT 0 1)) (C := RX4) (T := TX4) (N := 9) hx hb htl inlX4 hown hK hP 1 rfl rfl 1 (by decide) (htl _ W_816) (fun _ h9 => h9) rfl (dAt zX5_told_0 58 rfl) ?_
              obtain rfl := q_some h
              exact xRi hx hb hr hlocks hQ hAe hP hD hK hS rfl (dAt zX5_told_0 59 rfl)
            · have h := q_neg c_87_2 h
              by_cases c_87_3 : a1 = 3
              · have h := q_pos c_87_3 h
                refine lv_tableIn (off := 61) (tgt := 148) hx hb (dAt zX5_told_0 47 rfl) (by rw [c_87_3]; decide) (by rw [c_87_3]; decide) (by rw [c_87_3]; rfl) (by decide) ?_
                refine lv_aload_n hx hb (dAt zX5_told_0 60 rfl) rfl (lv_at hl 0 rfl) ?_
                refine va_get (D := D) (ci := 5) (v := .ref (qT 0)) (C := RX5) (T := TX5) (N := 8) hx hb htl inlX5 hown hK hP 0 rfl rfl 0 (by decide) (htl _ W_15) (fun _ h9 => h9) rfl (dAt zX5_told_0 61 rfl) ?_
                refine va_get (D := D) (ci := 4) (v := .int (zT 0 2)) (C := RX4) (T := TX4) (N := 9) hx hb htl inlX4 hown hK hP 1 rfl rfl 2 (by decide) (htl _ W_817) (fun _ h9 => h9) rfl (dAt zX5_told_0 62 rfl) ?_
                obtain rfl := q_some h
                exact xRi hx hb hr hlocks hQ hAe hP hD hK hS rfl (dAt zX5_told_0 63 rfl)
              · have h := q_neg c_87_3 h
                by_cases c_87_4 : a1 = 4
                · have h := q_pos c_87_4 h
                  refine lv_tableIn (off := 69) (tgt := 156) hx hb (dAt zX5_told_0 47 rfl) (by rw [c_87_4]; decide) (by rw [c_87_4]; decide) (by rw [c_87_4]; rfl) (by decide) ?_
                  refine lv_aload_n hx hb (dAt zX5_told_0 64 rfl) rfl (lv_at hl 0 rfl) ?_
                  refine va_get (D := D) (ci := 5) (v := .ref (qT 0)) (C := RX5) (T := TX5) (N := 8) hx hb htl inlX5 hown hK hP 0 rfl rfl 0 (by decide) (htl _ W_15) (fun _ h9 => h9) rfl (dAt zX5_told_0 65 rfl) ?_
                  obtain ⟨u160, hu160, h⟩ := q_bind h
                  have hPc : va_P D vwCl (w4 cI qT zT) H := hP.sub [1, 2, 3, 4, 5] rfl
                  have hDc : va_D A (w4 cI qT zT) := hD.sub [1, 2, 3, 4, 5] (by decide) rfl
                  refine xFi (wc := (w4 cI qT zT)) (w1 := (w4 cI qT zT)) (wr := (w5 qX qT qI qJ qP qC qF qA zX ++ (w4 cI qI zI ++ (w4 cI qJ zJ ++ (w2 cI qP zP ++ (w1 qC qV zC ++ (w4 cI qV zV ++ (w3 cI qF zF ++ (w0 cJ qA zA))))))))) (ws2 := (w5 qX qT qI qJ qP qC qF qA zX ++ (w4 cI qT zT ++ (w4 cI qI zI ++ (w4 cI qJ zJ ++ (w2 cI qP zP ++ (w1 qC qV zC ++ (w4 cI qV zV ++ (w3 cI qF zF ++ (w0 cJ qA zA)))))))))) (va_runV (As := []) (rest := []) ⟨hx, hb, hml, hown, htl⟩ (c_X4_missed l D cI cJ cZ n qT H.size zT  u160 hu160) (cwV 0 htl (gV W_495 W_325 W_326 W_14 W_327) rfl rfl rfl (by decide +kernel) ⟨Nat.le_of_ble_eq_true rfl, Nat.le_of_ble_eq_true rfl⟩) (xPV hPc hDc hK hN 0 rfl rfl) rfl rfl hl.1 rfl (lv_room (Nat.le_of_ble_eq_true rfl)) (dAt zX5_told_0 66 rfl) ⟨Nat.zero_le _, Nat.zero_le _⟩) hS hA hP hD [1, 2, 3, 4, 5] [0, 6, 7, 8, 9, 10, 11, 12, 13, 14, 15, 16, 17, 18, 19, 20, 21, 22, 23, 24, 25, 26, 27, 28, 29] [0, 25, 26, 27, 28, 29, 1, 2, 3, 4, 5, 6, 7, 8, 9, 10, 11, 12, 13, 14, 15, 16, 17, 18, 19, 20, 21, 22, 23, 24] rfl rfl (by decide) (by decide) rfl (by decide) (fun H locs hP hD hS => ?_)
                  obtain rfl := q_some h
                  exact xRi hx hb hr hlocks hQ hAe hP hD hK hS rfl (dAt zX5_told_0 67 rfl)
                · have h := q_neg c_87_4 h
                  by_cases c_87_5 : a1 = 5
                  · have h := q_pos c_87_5 h
                    refine lv_tableIn (off := 77) (tgt := 164) hx hb (dAt zX5_told_0 47 rfl) (by rw [c_87_5]; decide) (by rw [c_87_5]; decide) (by rw [c_87_5]; rfl) (by decide) ?_
                    refine lv_aload_n hx hb (dAt zX5_told_0 68 rfl) rfl (lv_at hl 0 rfl) ?_
                    refine va_get (D := D) (ci := 5) (v := .ref (qT 0)) (C := RX5) (T := TX5) (N := 8) hx hb htl inlX5 hown hK hP 0 rfl rfl 0 (by decide) (htl _ W_15) (fun _ h9 => h9) rfl (dAt zX5_told_0 69 rfl) ?_
                    refine va_get (D := D) (ci := 4) (v := .int (zT 0 3)) (C := RX4) (T := TX4) (N := 9) hx hb htl inlX4 hown hK hP 1 rfl rfl 3 (by decide) (htl _ W_656) (fun _ h9 => h9) rfl (dAt zX5_told_0 70 rfl) ?_
                    obtain rfl := q_some h
                    exact xRi hx hb hr hlocks hQ hAe hP hD hK hS rfl (dAt zX5_told_0 71 rfl)
                  · have h := q_neg c_87_5 h
                    refine lv_tableOut (tgt := 172) hx hb (dAt zX5_told_0 47 rfl) (tabOut (fun k h1 h2 q => by
                        have q0 : k = 0 ∨ k = 1 ∨ k = 2 ∨ k = 3 ∨ k = 4 ∨ k = 5 := by omega
                        rcases q0 with q0 | q0 | q0 | q0 | q0 | q0
                        · exact c_87_0 (Int32.toInt_inj.mp (by rw [q, q0]; rfl))
                        · exact c_87_1 (Int32.toInt_inj.mp (by rw [q, q0]; rfl))
                        · exact c_87_2 (Int32.toInt_inj.mp (by rw [q, q0]; rfl))
                        · exact c_87_3 (Int32.toInt_inj.mp (by rw [q, q0]; rfl))
                        · exact c_87_4 (Int32.toInt_inj.mp (by rw [q, q0]; rfl))
                        · exact c_87_5 (Int32.toInt_inj.mp (by rw [q, q0]; rfl))
                        )) (by decide) ?_
                    refine lv_bipush (v := (-2)) hx hb (dAt zX5_told_0 72 rfl) (by decide) ?_
                    obtain rfl := q_some h
                    exact xRi hx hb hr hlocks hQ hAe hP hD hK hS rfl (dAt zX5_told_0 73 rfl)
      · have h := q_neg c_64 h
        refine lv_aload_n hx hb (dAt zX5_told_0 34 rfl) rfl (lv_at hl 0 rfl) ?_
        refine va_get (D := D) (ci := 5) (v := .ref (qT 0)) (C := RX5) (T := TX5) (N := 8) hx hb htl inlX5 hown hK hP 0 rfl rfl 0 (by decide) (htl _ W_15) (fun _ h9 => h9) rfl (dAt zX5_told_0 35 rfl) ?_
        refine lv_iload_n hx hb (dAt zX5_told_0 36 rfl) rfl (lv_at hl 1 rfl) ?_
        refine lv_bipush (v := 10) hx hb (dAt zX5_told_0 37 rfl) (by decide) ?_
        refine lv_idiv hx hb (dAt zX5_told_0 38 rfl) (by decide) ?_
        refine lv_bipush (v := 10) hx hb (dAt zX5_told_0 39 rfl) (by decide) ?_
        refine lv_irem hx hb (dAt zX5_told_0 40 rfl) (by decide) ?_
        refine lv_iload_n hx hb (dAt zX5_told_0 41 rfl) rfl (lv_at hl 1 rfl) ?_
        refine lv_bipush (v := 10) hx hb (dAt zX5_told_0 42 rfl) (by decide) ?_
        refine lv_irem hx hb (dAt zX5_told_0 43 rfl) (by decide) ?_
        obtain ⟨u82, hu82, h⟩ := q_bind h
        have hPc : va_P D vwCl (w4 cI qT zT) H := hP.sub [1, 2, 3, 4, 5] rfl
        have hDc : va_D A (w4 cI qT zT) := hD.sub [1, 2, 3, 4, 5] (by decide) rfl
        refine xFi (wc := (w4 cI qT zT)) (w1 := (w4 cI qT zT)) (wr := (w5 qX qT qI qJ qP qC qF qA zX ++ (w4 cI qI zI ++ (w4 cI qJ zJ ++ (w2 cI qP zP ++ (w1 qC qV zC ++ (w4 cI qV zV ++ (w3 cI qF zF ++ (w0 cJ qA zA))))))))) (ws2 := (w5 qX qT qI qJ qP qC qF qA zX ++ (w4 cI qT zT ++ (w4 cI qI zI ++ (w4 cI qJ zJ ++ (w2 cI qP zP ++ (w1 qC qV zC ++ (w4 cI qV zV ++ (w3 cI qF zF ++ (w0 cJ qA zA)))))))))) (va_runV (As := [.int (jrem (a1 / (10 : Int32)) (10 : Int32)), .int (jrem a1 (10 : Int32))]) (rest := []) ⟨hx, hb, hml, hown, htl⟩ (c_X4_kind l D cI cJ cZ n qT H.size zT (jrem (a1 / (10 : Int32)) (10 : Int32)) (jrem a1 (10 : Int32)) u82 hu82) (cwV 2 htl (gV W_818 W_310 W_311 W_14 W_312) rfl rfl rfl (by decide +kernel) ⟨Nat.le_of_ble_eq_true rfl, Nat.le_of_ble_eq_true rfl⟩) (xPV hPc hDc hK hN 0 rfl rfl) rfl rfl hl.1 rfl (lv_room (Nat.le_of_ble_eq_true rfl)) (dAt zX5_told_0 44 rfl) ⟨Nat.zero_le _, Nat.zero_le _⟩) hS hA hP hD [1, 2, 3, 4, 5] [0, 6, 7, 8, 9, 10, 11, 12, 13, 14, 15, 16, 17, 18, 19, 20, 21, 22, 23, 24, 25, 26, 27, 28, 29] [0, 25, 26, 27, 28, 29, 1, 2, 3, 4, 5, 6, 7, 8, 9, 10, 11, 12, 13, 14, 15, 16, 17, 18, 19, 20, 21, 22, 23, 24] rfl rfl (by decide) (by decide) rfl (by decide) (fun H locs hP hD hS => ?_)
        obtain rfl := q_some h
        exact xRi hx hb hr hlocks hQ hAe hP hD hK hS rfl (dAt zX5_told_0 45 rfl)
    · have h := q_neg c_32 h
      refine lv_aload_n hx hb (dAt zX5_told_0 17 rfl) rfl (lv_at hl 0 rfl) ?_
      refine va_get (D := D) (ci := 5) (v := .ref (qT 0)) (C := RX5) (T := TX5) (N := 8) hx hb htl inlX5 hown hK hP 0 rfl rfl 0 (by decide) (htl _ W_15) (fun _ h9 => h9) rfl (dAt zX5_told_0 18 rfl) ?_
      refine lv_iload_n hx hb (dAt zX5_told_0 19 rfl) rfl (lv_at hl 1 rfl) ?_
      refine lv_bipush (v := 10) hx hb (dAt zX5_told_0 20 rfl) (by decide) ?_
      refine lv_idiv hx hb (dAt zX5_told_0 21 rfl) (by decide) ?_
      refine lv_bipush (v := 10) hx hb (dAt zX5_told_0 22 rfl) (by decide) ?_
      refine lv_irem hx hb (dAt zX5_told_0 23 rfl) (by decide) ?_
      refine lv_iload_n hx hb (dAt zX5_told_0 24 rfl) rfl (lv_at hl 1 rfl) ?_
      refine lv_bipush (v := 10) hx hb (dAt zX5_told_0 25 rfl) (by decide) ?_
      refine lv_irem hx hb (dAt zX5_told_0 26 rfl) (by decide) ?_
      obtain ⟨u50, hu50, h⟩ := q_bind h
      have hPc : va_P D vwCl (w4 cI qT zT) H := hP.sub [1, 2, 3, 4, 5] rfl
      have hDc : va_D A (w4 cI qT zT) := hD.sub [1, 2, 3, 4, 5] (by decide) rfl
      refine xFi (wc := (w4 cI qT zT)) (w1 := (w4 cI qT zT)) (wr := (w5 qX qT qI qJ qP qC qF qA zX ++ (w4 cI qI zI ++ (w4 cI qJ zJ ++ (w2 cI qP zP ++ (w1 qC qV zC ++ (w4 cI qV zV ++ (w3 cI qF zF ++ (w0 cJ qA zA))))))))) (ws2 := (w5 qX qT qI qJ qP qC qF qA zX ++ (w4 cI qT zT ++ (w4 cI qI zI ++ (w4 cI qJ zJ ++ (w2 cI qP zP ++ (w1 qC qV zC ++ (w4 cI qV zV ++ (w3 cI qF zF ++ (w0 cJ qA zA)))))))))) (va_runV (As := [.int (jrem (a1 / (10 : Int32)) (10 : Int32)), .int (jrem a1 (10 : Int32))]) (rest := []) ⟨hx, hb, hml, hown, htl⟩ (c_X4_strength l D cI cJ cZ n qT H.size zT (jrem (a1 / (10 : Int32)) (10 : Int32)) (jrem a1 (10 : Int32)) u50 hu50) (cwV 2 htl (gV W_113 W_114 W_115 W_14 W_116) rfl rfl rfl (by decide +kernel) ⟨Nat.le_of_ble_eq_true rfl, Nat.le_of_ble_eq_true rfl⟩) (xPV hPc hDc hK hN 0 rfl rfl) rfl rfl hl.1 rfl (lv_room (Nat.le_of_ble_eq_true rfl)) (dAt zX5_told_0 27 rfl) ⟨Nat.zero_le _, Nat.zero_le _⟩) hS hA hP hD [1, 2, 3, 4, 5] [0, 6, 7, 8, 9, 10, 11, 12, 13, 14, 15, 16, 17, 18, 19, 20, 21, 22, 23, 24, 25, 26, 27, 28, 29] [0, 25, 26, 27, 28, 29, 1, 2, 3, 4, 5, 6, 7, 8, 9, 10, 11, 12, 13, 14, 15, 16, 17, 18, 19, 20, 21, 22, 23, 24] rfl rfl (by decide) (by decide) rfl (by decide) (fun H locs hP hD hS => ?_)
      obtain rfl := q_some h
      exact xRi hx hb hr hlocks hQ hAe hP hD hK hS rfl (dAt zX5_told_0 28 rfl)
  · have h := q_neg c_8 h
    refine lv_aload_n hx hb (dAt zX5_told_0 5 rfl) rfl (lv_at hl 0 rfl) ?_
    refine va_get (D := D) (ci := 5) (v := .ref (qT 0)) (C := RX5) (T := TX5) (N := 8) hx hb htl inlX5 hown hK hP 0 rfl rfl 0 (by decide) (htl _ W_15) (fun _ h9 => h9) rfl (dAt zX5_told_0 6 rfl) ?_
    refine lv_iload_n hx hb (dAt zX5_told_0 7 rfl) rfl (lv_at hl 1 rfl) ?_
    refine lv_bipush (v := 10) hx hb (dAt zX5_told_0 8 rfl) (by decide) ?_
    refine lv_isub hx hb (dAt zX5_told_0 9 rfl) ?_
    obtain ⟨u19, hu19, h⟩ := q_bind h
    have hPc : va_P D vwCl (w4 cI qT zT) H := hP.sub [1, 2, 3, 4, 5] rfl
    have hDc : va_D A (w4 cI qT zT) := hD.sub [1, 2, 3, 4, 5] (by decide) rfl
    refine xFi (wc := (w4 cI qT zT)) (w1 := (w4 cI qT zT)) (wr := (w5 qX qT qI qJ qP qC qF qA zX ++ (w4 cI qI zI ++ (w4 cI qJ zJ ++ (w2 cI qP zP ++ (w1 qC qV zC ++ (w4 cI qV zV ++ (w3 cI qF zF ++ (w0 cJ qA zA))))))))) (ws2 := (w5 qX qT qI qJ qP qC qF qA zX ++ (w4 cI qT zT ++ (w4 cI qI zI ++ (w4 cI qJ zJ ++ (w2 cI qP zP ++ (w1 qC qV zC ++ (w4 cI qV zV ++ (w3 cI qF zF ++ (w0 cJ qA zA)))))))))) (va_runV (As := [.int (a1 - (10 : Int32))]) (rest := []) ⟨hx, hb, hml, hown, htl⟩ (c_X4_rule l D cI cJ cZ n qT H.size zT (a1 - (10 : Int32)) u19 hu19) (cwV 1 htl (gV W_175 W_176 W_177 W_14 W_178) rfl rfl rfl (by decide +kernel) ⟨Nat.le_of_ble_eq_true rfl, Nat.le_of_ble_eq_true rfl⟩) (xPV hPc hDc hK hN 0 rfl rfl) rfl rfl hl.1 rfl (lv_room (Nat.le_of_ble_eq_true rfl)) (dAt zX5_told_0 10 rfl) ⟨Nat.zero_le _, Nat.zero_le _⟩) hS hA hP hD [1, 2, 3, 4, 5] [0, 6, 7, 8, 9, 10, 11, 12, 13, 14, 15, 16, 17, 18, 19, 20, 21, 22, 23, 24, 25, 26, 27, 28, 29] [0, 25, 26, 27, 28, 29, 1, 2, 3, 4, 5, 6, 7, 8, 9, 10, 11, 12, 13, 14, 15, 16, 17, 18, 19, 20, 21, 22, 23, 24] rfl rfl (by decide) (by decide) rfl (by decide) (fun H locs hP hD hS => ?_)
    obtain rfl := q_some h
    exact xRi hx hb hr hlocks hQ hAe hP hD hK hS rfl (dAt zX5_told_0 11 rfl)
