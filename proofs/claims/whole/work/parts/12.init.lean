def b_X4_init_88 (n : Nat) (zr42_64 : (Nat → Int32)) (s_88 : Int32 × (Nat → Int32)) (k_88 : Int32 × (Nat → Int32) → Option TI) : Option TI := (if 4 ≤ s_88.1 then some (mk4 1023 0 0 0 0 (fun _ => 0) zr42_64 s_88.2 (fun _ => 0)) else (gd (inB s_88.1 4) ((k_88 ((s_88.1 + 1), (upd s_88.2 (Int32.toNatClampNeg s_88.1) 1))))))
def b_X4_init_64 (n : Nat) (s_64 : Int32 × (Nat → Int32)) (k_64 : Int32 × (Nat → Int32) → Option TI) : Option TI := (if 100 ≤ s_64.1 then (loopF (b_X4_init_88 n s_64.2 ) n (0, (fun _ => 0))) else (gd (inB s_64.1 100) ((k_64 ((s_64.1 + 1), (upd s_64.2 (Int32.toNatClampNeg s_64.1) 2))))))
noncomputable def m_X4_init (n : Nat) : Option TI := (loopF (b_X4_init_64 n ) n (0, (fun _ => 0)))
set_option maxHeartbeats 4000000 in
set_option maxRecDepth 100000 in
theorem c_X4_init (l : Launch) (D : va_G) (cI cJ cZ : ClassId) (n : Nat) (b0 : Nat) (sz : Nat) (out : TI) (hm : m_X4_init n = some out) : Met l yX4_init (wsM yX4_init cX4_init 2 none) { frames := 1, cells := 4, slots := 212, locals := 12 } (xPre D (kT cI cJ cZ) ([(b0, .inr (4, [.int 0, .int 0, .int 0, .int 0, .int 0, .null, .null, .null, .null]))] : va_W) sz [.ref b0]) (xQvI D (kT cI cJ cZ) ([(b0, .inr (4, [.int 0, .int 0, .int 0, .int 0, .int 0, .null, .null, .null, .null]))] : va_W) (fun q : Nat → Nat => (w4 cI q out)) sz (fun q => q 0 = b0)) 4 212 (va_A ([(b0, .inr (4, [.int 0, .int 0, .int 0, .int 0, .int 0, .null, .null, .null, .null]))] : va_W) sz) := by
  refine Met.ofW (cc := cX4_init) (maxL := 2) (ret := none) (by decide) rfl ?_
  intro p e s m args below meth c s₁ B hml hv
  obtain ⟨hv, hsz, hP, hK, hD0, hN⟩ := hv
  have hx := B.exec; have hb := B.bytes; have hr := B.returns
  have hts := atoms_spec (ws := (wsM yX4_init cX4_init 2 none)) B.pre
  have hown : s.vm.findClass RX4 = some m.cls := findClass_of_methodNamed B.named
  have hlocks := B.notSynchronized
  have hin : meth.name = "<init>" := (name_of_methodNamed B.named B.method).1
  subst hsz
  have hD := hD0.self (sz := s.heap.size)
  obtain ⟨A, hAe⟩ : ∃ A, A = va_A ([(b0, .inr (4, [.int 0, .int 0, .int 0, .int 0, .int 0, .null, .null, .null, .null]))] : va_W) s.heap.size := ⟨_, rfl⟩
  rw [← hAe] at hD
  have hA : ∀ q : Nat, s.heap.size ≤ q → A q := fun q h => by rw [hAe]; exact Or.inr h
  have htl : ∀ w ∈ wsL_law, w.before args s = true := fun w h => hts w (List.mem_cons_of_mem _ h)
  refine xHead (R' := { frames := 1, cells := 4, slots := 212, locals := 12 }) rfl (fun Q H hQ hH => ?_)
  have hP : va_P D vwCl ([(b0, .inr (4, [.int 0, .int 0, .int 0, .int 0, .int 0, .null, .null, .null, .null]))] : va_W) H := by rw [hH]; exact hP
  have hS : va_S A s.heap H [] := by rw [hH]; exact va_S.rf
  refine xStart hv (Nat.le_of_ble_eq_true rfl) (lv := [(0, .ref b0)]) rfl (fun ls hl => ?_)
  have h := hm
  unfold m_X4_init at h
  refine lv_aload_n hx hb (dAt zX4_init_0 0 rfl) rfl (lv_at hl 0 rfl) ?_
  refine W.objInit hx hb hown (htl _ W_38) (htl _ W_10) (htl _ W_11) rfl (by rw [hml]; exact hl.1) rfl (dAt zX4_init_0 1 rfl) (Nat.le_of_ble_eq_true rfl) (Nat.le_of_ble_eq_true rfl) ?_
  refine W.eq (g2 := F0 m 4 ls []) rfl ?_
  refine lv_aload_n hx hb (dAt zX4_init_0 2 rfl) rfl (lv_at hl 0 rfl) ?_
  refine lv_sipush (v := 1023) hx hb (dAt zX4_init_0 3 rfl) (by decide) ?_
  refine va_put (D := D) (ci := 4) (v := .int 1023) (ty := .int) (C := RX4) (T := TX4) (N := 9) hx hb htl inlX4 tyX4 tyX4_ok nmX4 hown hK hP hD hS 0 rfl rfl 0 (by decide) (htl _ W_39) (fun _ h9 => h9) rfl (by decide +kernel) rfl rfl (Nat.le_of_ble_eq_true rfl) (dAt zX4_init_0 4 rfl) (fun H locs hP hD hS => ?_)
  have hP : va_P D vwCl (([(b0, .inr (4, [.int 1023, .int 0, .int 0, .int 0, .int 0, .null, .null, .null, .null]))] : va_W)) H := hP
  have hD : va_D A (([(b0, .inr (4, [.int 1023, .int 0, .int 0, .int 0, .int 0, .null, .null, .null, .null]))] : va_W)) := hD
  refine lv_aload_n hx hb (dAt zX4_init_0 5 rfl) rfl (lv_at hl 0 rfl) ?_
  refine lv_iconst (v := 0) hx hb (dAt zX4_init_0 6 rfl) (by decide) ?_
  refine va_put (D := D) (ci := 4) (v := .int 0) (ty := .int) (C := RX4) (T := TX4) (N := 9) hx hb htl inlX4 tyX4 tyX4_ok nmX4 hown hK hP hD hS 0 rfl rfl 1 (by decide) (htl _ W_40) (fun _ h9 => h9) rfl (by decide +kernel) rfl rfl (Nat.le_of_ble_eq_true rfl) (dAt zX4_init_0 7 rfl) (fun H locs hP hD hS => ?_)
  have hP : va_P D vwCl (([(b0, .inr (4, [.int 1023, .int 0, .int 0, .int 0, .int 0, .null, .null, .null, .null]))] : va_W)) H := hP
  have hD : va_D A (([(b0, .inr (4, [.int 1023, .int 0, .int 0, .int 0, .int 0, .null, .null, .null, .null]))] : va_W)) := hD
  refine lv_aload_n hx hb (dAt zX4_init_0 8 rfl) rfl (lv_at hl 0 rfl) ?_
  refine lv_iconst (v := 0) hx hb (dAt zX4_init_0 9 rfl) (by decide) ?_
  refine va_put (D := D) (ci := 4) (v := .int 0) (ty := .int) (C := RX4) (T := TX4) (N := 9) hx hb htl inlX4 tyX4 tyX4_ok nmX4 hown hK hP hD hS 0 rfl rfl 2 (by decide) (htl _ W_41) (fun _ h9 => h9) rfl (by decide +kernel) rfl rfl (Nat.le_of_ble_eq_true rfl) (dAt zX4_init_0 10 rfl) (fun H locs hP hD hS => ?_)
  have hP : va_P D vwCl (([(b0, .inr (4, [.int 1023, .int 0, .int 0, .int 0, .int 0, .null, .null, .null, .null]))] : va_W)) H := hP
  have hD : va_D A (([(b0, .inr (4, [.int 1023, .int 0, .int 0, .int 0, .int 0, .null, .null, .null, .null]))] : va_W)) := hD
  refine lv_aload_n hx hb (dAt zX4_init_0 11 rfl) rfl (lv_at hl 0 rfl) ?_
  refine lv_iconst (v := 0) hx hb (dAt zX4_init_0 12 rfl) (by decide) ?_
  refine va_put (D := D) (ci := 4) (v := .int 0) (ty := .int) (C := RX4) (T := TX4) (N := 9) hx hb htl inlX4 tyX4 tyX4_ok nmX4 hown hK hP hD hS 0 rfl rfl 3 (by decide) (htl _ W_42) (fun _ h9 => h9) rfl (by decide +kernel) rfl rfl (Nat.le_of_ble_eq_true rfl) (dAt zX4_init_0 13 rfl) (fun H locs hP hD hS => ?_)
  have hP : va_P D vwCl (([(b0, .inr (4, [.int 1023, .int 0, .int 0, .int 0, .int 0, .null, .null, .null, .null]))] : va_W)) H := hP
  have hD : va_D A (([(b0, .inr (4, [.int 1023, .int 0, .int 0, .int 0, .int 0, .null, .null, .null, .null]))] : va_W)) := hD
  refine lv_aload_n hx hb (dAt zX4_init_0 14 rfl) rfl (lv_at hl 0 rfl) ?_
  refine lv_iconst (v := 0) hx hb (dAt zX4_init_0 15 rfl) (by decide) ?_
  refine va_put (D := D) (ci := 4) (v := .int 0) (ty := .int) (C := RX4) (T := TX4) (N := 9) hx hb htl inlX4 tyX4 tyX4_ok nmX4 hown hK hP hD hS 0 rfl rfl 4 (by decide) (htl _ W_43) (fun _ h9 => h9) rfl (by decide +kernel) rfl rfl (Nat.le_of_ble_eq_true rfl) (dAt zX4_init_0 16 rfl) (fun H locs hP hD hS => ?_)
  have hP : va_P D vwCl (([(b0, .inr (4, [.int 1023, .int 0, .int 0, .int 0, .int 0, .null, .null, .null, .null]))] : va_W)) H := hP
  have hD : va_D A (([(b0, .inr (4, [.int 1023, .int 0, .int 0, .int 0, .int 0, .null, .null, .null, .null]))] : va_W)) := hD
  refine lv_aload_n hx hb (dAt zX4_init_0 17 rfl) rfl (lv_at hl 0 rfl) ?_
  refine lv_bipush (v := 100) hx hb (dAt zX4_init_0 18 rfl) (by decide) ?_
  refine xNewI (n := 100) (N' := 100) (hbig := by decide) hx hb (htl _ W_44) hK hP hD hS hA (by decide) (by decide) (Nat.le_of_ble_eq_true rfl) (Nat.le_of_ble_eq_true rfl) (dAt zX4_init_0 19 rfl) (fun r34 H hP hD hS => ?_)
  have hP : va_P D vwCl (([(b0, .inr (4, [.int 1023, .int 0, .int 0, .int 0, .int 0, .null, .null, .null, .null]))] : va_W) ++ (wA cI r34 100 (fun _ => 0))) H := hP
  have hD : va_D A (([(b0, .inr (4, [.int 1023, .int 0, .int 0, .int 0, .int 0, .null, .null, .null, .null]))] : va_W) ++ (wA cI r34 100 (fun _ => 0))) := hD
  refine W.widen (k := 1) (n := 100) (by omega) (by omega) ?_
  refine va_putF (D := D) (ci := 4) (v := .ref r34) (ty := (.array .int)) (C := RX4) (T := TX4) (N := 9) hx hb htl inlX4 tyX4 tyX4_ok nmX4 hown hK hP hD hS 0 rfl rfl 5 (by decide) (htl _ W_45) (fun _ h9 => h9) rfl hin rfl (by decide +kernel) rfl rfl (Nat.le_of_ble_eq_true rfl) (dAt zX4_init_0 20 rfl) (fun H locs hP hD hS => ?_)
  have hP : va_P D vwCl (([(b0, .inr (4, [.int 1023, .int 0, .int 0, .int 0, .int 0, .ref r34, .null, .null, .null]))] : va_W) ++ (wA cI r34 100 (fun _ => 0))) H := hP
  have hD : va_D A (([(b0, .inr (4, [.int 1023, .int 0, .int 0, .int 0, .int 0, .ref r34, .null, .null, .null]))] : va_W) ++ (wA cI r34 100 (fun _ => 0))) := hD
  refine lv_aload_n hx hb (dAt zX4_init_0 21 rfl) rfl (lv_at hl 0 rfl) ?_
  refine lv_bipush (v := 100) hx hb (dAt zX4_init_0 22 rfl) (by decide) ?_
  refine xNewI (n := 100) (N' := 100) (hbig := by decide) hx hb (htl _ W_44) hK hP hD hS hA (by decide) (by decide) (Nat.le_of_ble_eq_true rfl) (Nat.le_of_ble_eq_true rfl) (dAt zX4_init_0 23 rfl) (fun r42 H hP hD hS => ?_)
  have hP : va_P D vwCl (([(b0, .inr (4, [.int 1023, .int 0, .int 0, .int 0, .int 0, .ref r34, .null, .null, .null]))] : va_W) ++ (wA cI r34 100 (fun _ => 0) ++ (wA cI r42 100 (fun _ => 0)))) H := hP
  have hD : va_D A (([(b0, .inr (4, [.int 1023, .int 0, .int 0, .int 0, .int 0, .ref r34, .null, .null, .null]))] : va_W) ++ (wA cI r34 100 (fun _ => 0) ++ (wA cI r42 100 (fun _ => 0)))) := hD
  refine W.widen (k := 2) (n := 200) (by omega) (by omega) ?_
  refine va_putF (D := D) (ci := 4) (v := .ref r42) (ty := (.array .int)) (C := RX4) (T := TX4) (N := 9) hx hb htl inlX4 tyX4 tyX4_ok nmX4 hown hK hP hD hS 0 rfl rfl 6 (by decide) (htl _ W_46) (fun _ h9 => h9) rfl hin rfl (by decide +kernel) rfl rfl (Nat.le_of_ble_eq_true rfl) (dAt zX4_init_0 24 rfl) (fun H locs hP hD hS => ?_)
  have hP : va_P D vwCl (([(b0, .inr (4, [.int 1023, .int 0, .int 0, .int 0, .int 0, .ref r34, .ref r42, .null, .null]))] : va_W) ++ (wA cI r34 100 (fun _ => 0) ++ (wA cI r42 100 (fun _ => 0)))) H := hP
  have hD : va_D A (([(b0, .inr (4, [.int 1023, .int 0, .int 0, .int 0, .int 0, .ref r34, .ref r42, .null, .null]))] : va_W) ++ (wA cI r34 100 (fun _ => 0) ++ (wA cI r42 100 (fun _ => 0)))) := hD
  refine lv_aload_n hx hb (dAt zX4_init_0 25 rfl) rfl (lv_at hl 0 rfl) ?_
  refine lv_iconst (v := 4) hx hb (dAt zX4_init_0 26 rfl) (by decide) ?_
  refine xNewI (n := 4) (N' := 4) (hbig := by decide) hx hb (htl _ W_44) hK hP hD hS hA (by decide) (by decide) (Nat.le_of_ble_eq_true rfl) (Nat.le_of_ble_eq_true rfl) (dAt zX4_init_0 27 rfl) (fun r49 H hP hD hS => ?_)
  have hP : va_P D vwCl (([(b0, .inr (4, [.int 1023, .int 0, .int 0, .int 0, .int 0, .ref r34, .ref r42, .null, .null]))] : va_W) ++ (wA cI r34 100 (fun _ => 0) ++ (wA cI r42 100 (fun _ => 0) ++ (wA cI r49 4 (fun _ => 0))))) H := hP
  have hD : va_D A (([(b0, .inr (4, [.int 1023, .int 0, .int 0, .int 0, .int 0, .ref r34, .ref r42, .null, .null]))] : va_W) ++ (wA cI r34 100 (fun _ => 0) ++ (wA cI r42 100 (fun _ => 0) ++ (wA cI r49 4 (fun _ => 0))))) := hD
  refine W.widen (k := 3) (n := 204) (by omega) (by omega) ?_
  refine va_putF (D := D) (ci := 4) (v := .ref r49) (ty := (.array .int)) (C := RX4) (T := TX4) (N := 9) hx hb htl inlX4 tyX4 tyX4_ok nmX4 hown hK hP hD hS 0 rfl rfl 7 (by decide) (htl _ W_47) (fun _ h9 => h9) rfl hin rfl (by decide +kernel) rfl rfl (Nat.le_of_ble_eq_true rfl) (dAt zX4_init_0 28 rfl) (fun H locs hP hD hS => ?_)
  have hP : va_P D vwCl (([(b0, .inr (4, [.int 1023, .int 0, .int 0, .int 0, .int 0, .ref r34, .ref r42, .ref r49, .null]))] : va_W) ++ (wA cI r34 100 (fun _ => 0) ++ (wA cI r42 100 (fun _ => 0) ++ (wA cI r49 4 (fun _ => 0))))) H := hP
  have hD : va_D A (([(b0, .inr (4, [.int 1023, .int 0, .int 0, .int 0, .int 0, .ref r34, .ref r42, .ref r49, .null]))] : va_W) ++ (wA cI r34 100 (fun _ => 0) ++ (wA cI r42 100 (fun _ => 0) ++ (wA cI r49 4 (fun _ => 0))))) := hD
  refine lv_aload_n hx hb (dAt zX4_init_0 29 rfl) rfl (lv_at hl 0 rfl) ?_
  refine lv_bipush (v := 8) hx hb (dAt zX4_init_0 30 rfl) (by decide) ?_
  refine xNewI (n := 8) (N' := 8) (hbig := by decide) hx hb (htl _ W_44) hK hP hD hS hA (by decide) (by decide) (Nat.le_of_ble_eq_true rfl) (Nat.le_of_ble_eq_true rfl) (dAt zX4_init_0 31 rfl) (fun r57 H hP hD hS => ?_)
  have hP : va_P D vwCl (([(b0, .inr (4, [.int 1023, .int 0, .int 0, .int 0, .int 0, .ref r34, .ref r42, .ref r49, .null]))] : va_W) ++ (wA cI r34 100 (fun _ => 0) ++ (wA cI r42 100 (fun _ => 0) ++ (wA cI r49 4 (fun _ => 0) ++ (wA cI r57 8 (fun _ => 0)))))) H := hP
  have hD : va_D A (([(b0, .inr (4, [.int 1023, .int 0, .int 0, .int 0, .int 0, .ref r34, .ref r42, .ref r49, .null]))] : va_W) ++ (wA cI r34 100 (fun _ => 0) ++ (wA cI r42 100 (fun _ => 0) ++ (wA cI r49 4 (fun _ => 0) ++ (wA cI r57 8 (fun _ => 0)))))) := hD
  refine W.widen (k := 4) (n := 212) (by omega) (by omega) ?_
  refine va_putF (D := D) (ci := 4) (v := .ref r57) (ty := (.array .int)) (C := RX4) (T := TX4) (N := 9) hx hb htl inlX4 tyX4 tyX4_ok nmX4 hown hK hP hD hS 0 rfl rfl 8 (by decide) (htl _ W_48) (fun _ h9 => h9) rfl hin rfl (by decide +kernel) rfl rfl (Nat.le_of_ble_eq_true rfl) (dAt zX4_init_0 32 rfl) (fun H locs hP hD hS => ?_)
  have hP : va_P D vwCl (([(b0, .inr (4, [.int 1023, .int 0, .int 0, .int 0, .int 0, .ref r34, .ref r42, .ref r49, .ref r57]))] : va_W) ++ (wA cI r34 100 (fun _ => 0) ++ (wA cI r42 100 (fun _ => 0) ++ (wA cI r49 4 (fun _ => 0) ++ (wA cI r57 8 (fun _ => 0)))))) H := hP
  have hD : va_D A (([(b0, .inr (4, [.int 1023, .int 0, .int 0, .int 0, .int 0, .ref r34, .ref r42, .ref r49, .ref r57]))] : va_W) ++ (wA cI r34 100 (fun _ => 0) ++ (wA cI r42 100 (fun _ => 0) ++ (wA cI r49 4 (fun _ => 0) ++ (wA cI r57 8 (fun _ => 0)))))) := hD
  refine lv_iconst (v := 0) hx hb (dAt zX4_init_0 33 rfl) (by decide) ?_
  refine lv_istore_n (lv' := [(1, .int 0), (0, .ref b0)]) hx hb (dAt zX4_init_0 34 rfl) rfl hl (by decide) rfl (fun ls hl => ?_)
  have L_64 : ∀ (j_64 : Nat) (v1_64 : Int32) (zr42_64 : (Nat → Int32)) (H : Heap) (locs : List Loc) (ls : Array Slot), loopF (b_X4_init_64 n) j_64 (v1_64, zr42_64) = some out → va_P D vwCl (([(b0, .inr (4, [.int 1023, .int 0, .int 0, .int 0, .int 0, .ref r34, .ref r42, .ref r49, .ref r57]))] : va_W) ++ (wA cI r34 100 (fun _ => 0) ++ (wA cI r42 100 zr42_64 ++ (wA cI r49 4 (fun _ => 0) ++ (wA cI r57 8 (fun _ => 0)))))) H → va_D A (([(b0, .inr (4, [.int 1023, .int 0, .int 0, .int 0, .int 0, .ref r34, .ref r42, .ref r49, .ref r57]))] : va_W) ++ (wA cI r34 100 (fun _ => 0) ++ (wA cI r42 100 zr42_64 ++ (wA cI r49 4 (fun _ => 0) ++ (wA cI r57 8 (fun _ => 0)))))) → va_S A s.heap H locs → lv_has ls 2 [(0, .ref b0), (1, .int v1_64)] → W p l e { frames := 1, cells := 4, slots := 212, locals := 12 } s m args below meth c H locs 4 212 Q (F0 m 64 ls []) := by
    intro j_64
    induction j_64 with
    | zero => intro v1_64 zr42_64 H locs ls h hP hD hS hl; exact loopF_0 h
    | succ j_64 ih_64 =>
      intro v1_64 zr42_64 H locs ls h hP hD hS hl
      have h := loopF_s h
      unfold b_X4_init_64 at h
      refine lv_iload_n hx hb (dAt zX4_init_0 35 rfl) rfl (lv_at hl 1 rfl) ?_
      refine lv_aload_n hx hb (dAt zX4_init_0 36 rfl) rfl (lv_at hl 0 rfl) ?_
      refine va_get (D := D) (ci := 4) (v := .ref r42) (C := RX4) (T := TX4) (N := 9) hx hb htl inlX4 hown hK hP 0 rfl rfl 6 (by decide) (htl _ W_46) (fun _ h9 => h9) rfl (dAt zX4_init_0 37 rfl) ?_
      refine va_alen (ty := .int) (v := 100) hx hb hK hP 2 0 rfl rfl rfl (dAt zX4_init_0 38 rfl) ?_
      refine lv_icmp_ge (tgt := 86) hx hb (dAt zX4_init_0 39 rfl) (by decide) (fun c_70 => ?_) (fun c_70 => ?_)
      · have h := q_pos c_70 h
        refine lv_iconst (v := 0) hx hb (dAt zX4_init_0 47 rfl) (by decide) ?_
        refine lv_istore_n (lv' := [(1, .int 0), (0, .ref b0)]) hx hb (dAt zX4_init_0 48 rfl) rfl hl (by decide) rfl (fun ls hl => ?_)
        have L_88 : ∀ (j_88 : Nat) (v1_88 : Int32) (zr49_88 : (Nat → Int32)) (H : Heap) (locs : List Loc) (ls : Array Slot), loopF (b_X4_init_88 n zr42_64) j_88 (v1_88, zr49_88) = some out → va_P D vwCl (([(b0, .inr (4, [.int 1023, .int 0, .int 0, .int 0, .int 0, .ref r34, .ref r42, .ref r49, .ref r57]))] : va_W) ++ (wA cI r34 100 (fun _ => 0) ++ (wA cI r42 100 zr42_64 ++ (wA cI r49 4 zr49_88 ++ (wA cI r57 8 (fun _ => 0)))))) H → va_D A (([(b0, .inr (4, [.int 1023, .int 0, .int 0, .int 0, .int 0, .ref r34, .ref r42, .ref r49, .ref r57]))] : va_W) ++ (wA cI r34 100 (fun _ => 0) ++ (wA cI r42 100 zr42_64 ++ (wA cI r49 4 zr49_88 ++ (wA cI r57 8 (fun _ => 0)))))) → va_S A s.heap H locs → lv_has ls 2 [(0, .ref b0), (1, .int v1_88)] → W p l e { frames := 1, cells := 4, slots := 212, locals := 12 } s m args below meth c H locs 4 212 Q (F0 m 88 ls []) := by
          intro j_88
          induction j_88 with
          | zero => intro v1_88 zr49_88 H locs ls h hP hD hS hl; exact loopF_0 h
          | succ j_88 ih_88 =>
            intro v1_88 zr49_88 H locs ls h hP hD hS hl
            have h := loopF_s h
            unfold b_X4_init_88 at h
            refine lv_iload_n hx hb (dAt zX4_init_0 49 rfl) rfl (lv_at hl 1 rfl) ?_
            refine lv_aload_n hx hb (dAt zX4_init_0 50 rfl) rfl (lv_at hl 0 rfl) ?_
            refine va_get (D := D) (ci := 4) (v := .ref r49) (C := RX4) (T := TX4) (N := 9) hx hb htl inlX4 hown hK hP 0 rfl rfl 7 (by decide) (htl _ W_47) (fun _ h9 => h9) rfl (dAt zX4_init_0 51 rfl) ?_
            refine va_alen (ty := .int) (v := 4) hx hb hK hP 3 0 rfl rfl rfl (dAt zX4_init_0 52 rfl) ?_
            refine lv_icmp_ge (tgt := 110) hx hb (dAt zX4_init_0 53 rfl) (by decide) (fun c_94 => ?_) (fun c_94 => ?_)
            · have h := q_pos c_94 h
              obtain rfl := q_some h
              have hP : va_P D vwCl (w4 cI (fun k => match Nat.beq k 6 with | true => r34 | false => match Nat.beq k 7 with | true => r42 | false => match Nat.beq k 8 with | true => r49 | false => match Nat.beq k 9 with | true => r57 | false => b0) (mk4 1023 0 0 0 0 (fun _ => 0) zr42_64 zr49_88 (fun _ => 0))) H := hP
              have hD : va_D A (w4 cI (fun k => match Nat.beq k 6 with | true => r34 | false => match Nat.beq k 7 with | true => r42 | false => match Nat.beq k 8 with | true => r49 | false => match Nat.beq k 9 with | true => r57 | false => b0) (mk4 1023 0 0 0 0 (fun _ => 0) zr42_64 zr49_88 (fun _ => 0))) := hD
              exact xRvI (fun k => match Nat.beq k 6 with | true => r34 | false => match Nat.beq k 7 with | true => r42 | false => match Nat.beq k 8 with | true => r49 | false => match Nat.beq k 9 with | true => r57 | false => b0) hx hb hr hlocks hQ hAe (by simp) hP hD hK hS (dAt zX4_init_0 61 rfl)
            · have h := q_neg c_94 h
              refine lv_aload_n hx hb (dAt zX4_init_0 54 rfl) rfl (lv_at hl 0 rfl) ?_
              refine va_get (D := D) (ci := 4) (v := .ref r49) (C := RX4) (T := TX4) (N := 9) hx hb htl inlX4 hown hK hP 0 rfl rfl 7 (by decide) (htl _ W_47) (fun _ h9 => h9) rfl (dAt zX4_init_0 55 rfl) ?_
              refine lv_iload_n hx hb (dAt zX4_init_0 56 rfl) rfl (lv_at hl 1 rfl) ?_
              refine lv_iconst (v := 1) hx hb (dAt zX4_init_0 57 rfl) (by decide) ?_
              obtain ⟨hi_103, h⟩ := q_in h
              refine va_iast hx hb hK hP hD hS 3 0 rfl rfl hi_103 (dAt zX4_init_0 58 rfl) (fun H locs hP hD hS => ?_)
              have hP : va_P D vwCl (([(b0, .inr (4, [.int 1023, .int 0, .int 0, .int 0, .int 0, .ref r34, .ref r42, .ref r49, .ref r57]))] : va_W) ++ (wA cI r34 100 (fun _ => 0) ++ (wA cI r42 100 zr42_64 ++ (wA cI r49 4 (upd zr49_88 (Int32.toNatClampNeg v1_88) 1) ++ (wA cI r57 8 (fun _ => 0)))))) H := hP
              have hD : va_D A (([(b0, .inr (4, [.int 1023, .int 0, .int 0, .int 0, .int 0, .ref r34, .ref r42, .ref r49, .ref r57]))] : va_W) ++ (wA cI r34 100 (fun _ => 0) ++ (wA cI r42 100 zr42_64 ++ (wA cI r49 4 (upd zr49_88 (Int32.toNatClampNeg v1_88) 1) ++ (wA cI r57 8 (fun _ => 0)))))) := hD
              refine lv_iinc (v := (v1_88 + 1)) (lv' := [(1, .int (v1_88 + 1)), (0, .ref b0)]) hx hb (dAt zX4_init_0 59 rfl) hl (k := 1) rfl rfl (by decide) rfl (fun ls hl => ?_)
              refine lv_goto (tgt := 88) hx hb (dAt zX4_init_0 60 rfl) (by decide) ?_
              exact ih_88 (v1_88 + 1) (upd zr49_88 (Int32.toNatClampNeg v1_88) 1) _ _ _ h hP hD hS (lv_sub hl [1, 0] rfl)
        exact L_88 n 0 (fun _ => 0) _ _ _ h hP hD hS (lv_sub hl [1, 0] rfl)
      · have h := q_neg c_70 h
        refine lv_aload_n hx hb (dAt zX4_init_0 40 rfl) rfl (lv_at hl 0 rfl) ?_
        refine va_get (D := D) (ci := 4) (v := .ref r42) (C := RX4) (T := TX4) (N := 9) hx hb htl inlX4 hown hK hP 0 rfl rfl 6 (by decide) (htl _ W_46) (fun _ h9 => h9) rfl (dAt zX4_init_0 41 rfl) ?_
        refine lv_iload_n hx hb (dAt zX4_init_0 42 rfl) rfl (lv_at hl 1 rfl) ?_
        refine lv_iconst (v := 2) hx hb (dAt zX4_init_0 43 rfl) (by decide) ?_
        obtain ⟨hi_79, h⟩ := q_in h
        refine va_iast hx hb hK hP hD hS 2 0 rfl rfl hi_79 (dAt zX4_init_0 44 rfl) (fun H locs hP hD hS => ?_)
        have hP : va_P D vwCl (([(b0, .inr (4, [.int 1023, .int 0, .int 0, .int 0, .int 0, .ref r34, .ref r42, .ref r49, .ref r57]))] : va_W) ++ (wA cI r34 100 (fun _ => 0) ++ (wA cI r42 100 (upd zr42_64 (Int32.toNatClampNeg v1_64) 2) ++ (wA cI r49 4 (fun _ => 0) ++ (wA cI r57 8 (fun _ => 0)))))) H := hP
        have hD : va_D A (([(b0, .inr (4, [.int 1023, .int 0, .int 0, .int 0, .int 0, .ref r34, .ref r42, .ref r49, .ref r57]))] : va_W) ++ (wA cI r34 100 (fun _ => 0) ++ (wA cI r42 100 (upd zr42_64 (Int32.toNatClampNeg v1_64) 2) ++ (wA cI r49 4 (fun _ => 0) ++ (wA cI r57 8 (fun _ => 0)))))) := hD
        refine lv_iinc (v := (v1_64 + 1)) (lv' := [(1, .int (v1_64 + 1)), (0, .ref b0)]) hx hb (dAt zX4_init_0 45 rfl) hl (k := 1) rfl rfl (by decide) rfl (fun ls hl => ?_)
        refine lv_goto (tgt := 64) hx hb (dAt zX4_init_0 46 rfl) (by decide) ?_
        exact ih_64 (v1_64 + 1) (upd zr42_64 (Int32.toNatClampNeg v1_64) 2) _ _ _ h hP hD hS (lv_sub hl [1, 0] rfl)
  exact L_64 n 0 (fun _ => 0) _ _ _ h hP hD hS (lv_sub hl [1, 0] rfl)
noncomputable def m_X2_init (n : Nat) : Option TI := some (mk2 0 (fun _ => 0))
set_option maxHeartbeats 4000000 in
set_option maxRecDepth 100000 in
theorem c_X2_init (l : Launch) (D : va_G) (cI cJ cZ : ClassId) (n : Nat) (b0 : Nat) (sz : Nat) (out : TI) (hm : m_X2_init n = some out) : Met l yX2_init (wsM yX2_init cX2_init 1 none) { frames := 1, cells := 1, slots := 60, locals := 12 } (xPre D (kT cI cJ cZ) ([(b0, .inr (2, [.null, .int 0]))] : va_W) sz [.ref b0]) (xQvI D (kT cI cJ cZ) ([(b0, .inr (2, [.null, .int 0]))] : va_W) (fun q : Nat → Nat => (w2 cI q out)) sz (fun q => q 0 = b0)) 1 60 (va_A ([(b0, .inr (2, [.null, .int 0]))] : va_W) sz) := by
  refine Met.ofW (cc := cX2_init) (maxL := 1) (ret := none) (by decide) rfl ?_
  intro p e s m args below meth c s₁ B hml hv
  obtain ⟨hv, hsz, hP, hK, hD0, hN⟩ := hv
  have hx := B.exec; have hb := B.bytes; have hr := B.returns
  have hts := atoms_spec (ws := (wsM yX2_init cX2_init 1 none)) B.pre
  have hown : s.vm.findClass RX2 = some m.cls := findClass_of_methodNamed B.named
  have hlocks := B.notSynchronized
  have hin : meth.name = "<init>" := (name_of_methodNamed B.named B.method).1
  subst hsz
  have hD := hD0.self (sz := s.heap.size)
  obtain ⟨A, hAe⟩ : ∃ A, A = va_A ([(b0, .inr (2, [.null, .int 0]))] : va_W) s.heap.size := ⟨_, rfl⟩
  rw [← hAe] at hD
  have hA : ∀ q : Nat, s.heap.size ≤ q → A q := fun q h => by rw [hAe]; exact Or.inr h
  have htl : ∀ w ∈ wsL_law, w.before args s = true := fun w h => hts w (List.mem_cons_of_mem _ h)
  refine xHead (R' := { frames := 1, cells := 1, slots := 60, locals := 12 }) rfl (fun Q H hQ hH => ?_)
  have hP : va_P D vwCl ([(b0, .inr (2, [.null, .int 0]))] : va_W) H := by rw [hH]; exact hP
  have hS : va_S A s.heap H [] := by rw [hH]; exact va_S.rf
  refine xStart hv (Nat.le_of_ble_eq_true rfl) (lv := [(0, .ref b0)]) rfl (fun ls hl => ?_)
  have h := hm
  unfold m_X2_init at h
  refine lv_aload_n hx hb (dAt zX2_init_0 0 rfl) rfl (lv_at hl 0 rfl) ?_
  refine W.objInit hx hb hown (htl _ W_51) (htl _ W_10) (htl _ W_11) rfl (by rw [hml]; exact hl.1) rfl (dAt zX2_init_0 1 rfl) (Nat.le_of_ble_eq_true rfl) (Nat.le_of_ble_eq_true rfl) ?_
  refine W.eq (g2 := F0 m 4 ls []) rfl ?_
  refine lv_aload_n hx hb (dAt zX2_init_0 2 rfl) rfl (lv_at hl 0 rfl) ?_
  refine lv_bipush (v := 60) hx hb (dAt zX2_init_0 3 rfl) (by decide) ?_
  refine xNewI (n := 60) (N' := 60) (hbig := by decide) hx hb (htl _ W_44) hK hP hD hS hA (by decide) (by decide) (Nat.le_of_ble_eq_true rfl) (Nat.le_of_ble_eq_true rfl) (dAt zX2_init_0 4 rfl) (fun r7 H hP hD hS => ?_)
  have hP : va_P D vwCl (([(b0, .inr (2, [.null, .int 0]))] : va_W) ++ (wA cI r7 60 (fun _ => 0))) H := hP
  have hD : va_D A (([(b0, .inr (2, [.null, .int 0]))] : va_W) ++ (wA cI r7 60 (fun _ => 0))) := hD
  refine W.widen (k := 1) (n := 60) (by omega) (by omega) ?_
  refine va_putF (D := D) (ci := 2) (v := .ref r7) (ty := (.array .int)) (C := RX2) (T := TX2) (N := 2) hx hb htl inlX2 tyX2 tyX2_ok nmX2 hown hK hP hD hS 0 rfl rfl 0 (by decide) (htl _ W_52) (fun _ h9 => h9) rfl hin rfl (by decide +kernel) rfl rfl (Nat.le_of_ble_eq_true rfl) (dAt zX2_init_0 5 rfl) (fun H locs hP hD hS => ?_)
  have hP : va_P D vwCl (([(b0, .inr (2, [.ref r7, .int 0]))] : va_W) ++ (wA cI r7 60 (fun _ => 0))) H := hP
  have hD : va_D A (([(b0, .inr (2, [.ref r7, .int 0]))] : va_W) ++ (wA cI r7 60 (fun _ => 0))) := hD
  refine lv_aload_n hx hb (dAt zX2_init_0 6 rfl) rfl (lv_at hl 0 rfl) ?_
  refine lv_iconst (v := 0) hx hb (dAt zX2_init_0 7 rfl) (by decide) ?_
  refine va_put (D := D) (ci := 2) (v := .int 0) (ty := .int) (C := RX2) (T := TX2) (N := 2) hx hb htl inlX2 tyX2 tyX2_ok nmX2 hown hK hP hD hS 0 rfl rfl 1 (by decide) (htl _ W_53) (fun _ h9 => h9) rfl (by decide +kernel) rfl rfl (Nat.le_of_ble_eq_true rfl) (dAt zX2_init_0 8 rfl) (fun H locs hP hD hS => ?_)
  have hP : va_P D vwCl (([(b0, .inr (2, [.ref r7, .int 0]))] : va_W) ++ (wA cI r7 60 (fun _ => 0))) H := hP
  have hD : va_D A (([(b0, .inr (2, [.ref r7, .int 0]))] : va_W) ++ (wA cI r7 60 (fun _ => 0))) := hD
  obtain rfl := q_some h
  have hP : va_P D vwCl (w2 cI (fun k => match Nat.beq k 1 with | true => r7 | false => b0) (mk2 0 (fun _ => 0))) H := hP
  have hD : va_D A (w2 cI (fun k => match Nat.beq k 1 with | true => r7 | false => b0) (mk2 0 (fun _ => 0))) := hD
  exact xRvI (fun k => match Nat.beq k 1 with | true => r7 | false => b0) hx hb hr hlocks hQ hAe (by simp) hP hD hK hS (dAt zX2_init_0 9 rfl)
noncomputable def m_X1_init (n : Nat) : Option (TI × TI) := ((m_X4_init n).bind fun u9 => some (mk1 0 0 0 0 (-6) (-6), u9))
set_option maxHeartbeats 4000000 in
set_option maxRecDepth 100000 in
theorem c_X1_init (l : Launch) (D : va_G) (cI cJ cZ : ClassId) (n : Nat) (b0 : Nat) (sz : Nat) (out : TI × TI) (hm : m_X1_init n = some out) : Met l yX1_init (wsM yX1_init cX1_init 1 none) { frames := 2, cells := 5, slots := 221, locals := 33 } (xPre D (kT cI cJ cZ) ([(b0, .inr (1, [.null, .int 0, .int 0, .int 0, .int 0, .int 0, .int 0]))] : va_W) sz [.ref b0]) (xQvI D (kT cI cJ cZ) ([(b0, .inr (1, [.null, .int 0, .int 0, .int 0, .int 0, .int 0, .int 0]))] : va_W) (fun q : (Nat → Nat) × (Nat → Nat) => (w1 q.1 q.2 out.1 ++ w4 cI q.2 out.2)) sz (fun q => q.1 0 = b0)) 5 221 (va_A ([(b0, .inr (1, [.null, .int 0, .int 0, .int 0, .int 0, .int 0, .int 0]))] : va_W) sz) := by
  refine Met.ofW (cc := cX1_init) (maxL := 1) (ret := none) (by decide) rfl ?_
  intro p e s m args below meth c s₁ B hml hv
  obtain ⟨hv, hsz, hP, hK, hD0, hN⟩ := hv
  have hx := B.exec; have hb := B.bytes; have hr := B.returns
  have hts := atoms_spec (ws := (wsM yX1_init cX1_init 1 none)) B.pre
  have hown : s.vm.findClass RX1 = some m.cls := findClass_of_methodNamed B.named
  have hlocks := B.notSynchronized
  have hin : meth.name = "<init>" := (name_of_methodNamed B.named B.method).1
  subst hsz
  have hD := hD0.self (sz := s.heap.size)
  obtain ⟨A, hAe⟩ : ∃ A, A = va_A ([(b0, .inr (1, [.null, .int 0, .int 0, .int 0, .int 0, .int 0, .int 0]))] : va_W) s.heap.size := ⟨_, rfl⟩
  rw [← hAe] at hD
  have hA : ∀ q : Nat, s.heap.size ≤ q → A q := fun q h => by rw [hAe]; exact Or.inr h
  have htl : ∀ w ∈ wsL_law, w.before args s = true := fun w h => hts w (List.mem_cons_of_mem _ h)
  refine xHead (R' := { frames := 2, cells := 5, slots := 221, locals := 33 }) rfl (fun Q H hQ hH => ?_)
  have hP : va_P D vwCl ([(b0, .inr (1, [.null, .int 0, .int 0, .int 0, .int 0, .int 0, .int 0]))] : va_W) H := by rw [hH]; exact hP
  have hS : va_S A s.heap H [] := by rw [hH]; exact va_S.rf
  refine xStart hv (Nat.le_of_ble_eq_true rfl) (lv := [(0, .ref b0)]) rfl (fun ls hl => ?_)
  have h := hm
  unfold m_X1_init at h
  refine lv_aload_n hx hb (dAt zX1_init_0 0 rfl) rfl (lv_at hl 0 rfl) ?_
  refine W.objInit hx hb hown (htl _ W_56) (htl _ W_10) (htl _ W_11) rfl (by rw [hml]; exact hl.1) rfl (dAt zX1_init_0 1 rfl) (Nat.le_of_ble_eq_true rfl) (Nat.le_of_ble_eq_true rfl) ?_
  refine W.eq (g2 := F0 m 4 ls []) rfl ?_
  refine lv_aload_n hx hb (dAt zX1_init_0 2 rfl) rfl (lv_at hl 0 rfl) ?_
  refine va_new (ci := 4) (fs := [.int 0, .int 0, .int 0, .int 0, .int 0, .null, .null, .null, .null]) (C := RX4) (T := TX4) (N := 9) hx hb htl inlX4 tyX4 tyX4_ok hown (htl _ W_57) (htl _ W_13) (htl _ W_14) hK hP hD hS hA rfl (fun j hj => by rcases (show j = 0 ∨ j = 1 ∨ j = 2 ∨ j = 3 ∨ j = 4 ∨ j = 5 ∨ j = 6 ∨ j = 7 ∨ j = 8 by omega) with rfl | rfl | rfl | rfl | rfl | rfl | rfl | rfl | rfl <;> rfl) (Nat.le_of_ble_eq_true rfl) (Nat.le_of_ble_eq_true rfl) (dAt zX1_init_0 3 rfl) (fun b5 H hP hD hS => ?_)
  have hP : va_P D vwCl (([(b0, .inr (1, [.null, .int 0, .int 0, .int 0, .int 0, .int 0, .int 0]))] : va_W) ++ (([(b5, .inr (4, [.int 0, .int 0, .int 0, .int 0, .int 0, .null, .null, .null, .null]))] : va_W))) H := hP
  have hD : va_D A (([(b0, .inr (1, [.null, .int 0, .int 0, .int 0, .int 0, .int 0, .int 0]))] : va_W) ++ (([(b5, .inr (4, [.int 0, .int 0, .int 0, .int 0, .int 0, .null, .null, .null, .null]))] : va_W))) := hD
  refine W.widen (k := 1) (n := 9) (by omega) (by omega) ?_
  refine lv_dup hx hb (dAt zX1_init_0 4 rfl) rfl ?_
  obtain ⟨u9, hu9, h⟩ := q_bind h
  have hPc : va_P D vwCl ([(b5, .inr (4, [.int 0, .int 0, .int 0, .int 0, .int 0, .null, .null, .null, .null]))] : va_W) H := hP.sub [1] rfl
  have hDc : va_D A ([(b5, .inr (4, [.int 0, .int 0, .int 0, .int 0, .int 0, .null, .null, .null, .null]))] : va_W) := hD.sub [1] (by decide) rfl
  refine xFvI (wc := ([(b5, .inr (4, [.int 0, .int 0, .int 0, .int 0, .int 0, .null, .null, .null, .null]))] : va_W)) (wr := (([(b0, .inr (1, [.null, .int 0, .int 0, .int 0, .int 0, .int 0, .int 0]))] : va_W))) (va_runI (As := []) (rest := [.ref b5, .ref b0]) ⟨hx, hb, hml, hown, htl⟩ (c_X4_init l D cI cJ cZ n b5 H.size u9 hu9) (cwI 0 htl (gM W_37) rfl rfl rfl (htl _ W_14) (htl _ W_65) (htl _ W_36) rfl (by decide +kernel) ⟨Nat.le_of_ble_eq_true rfl, Nat.le_of_ble_eq_true rfl⟩) (xPS hPc hDc hK hN) rfl rfl hl.1 rfl (lv_room (Nat.le_of_ble_eq_true rfl)) (dAt zX1_init_0 5 rfl) ⟨Nat.le_of_ble_eq_true rfl, Nat.le_of_ble_eq_true rfl⟩) hS hA hP hD [1] [0] rfl rfl (by decide) (by decide) (fun q9 H2 locs2 e_q9 hP2 hD2 hS2 => ?_)
  subst e_q9
  have hS := hS2; clear hS2; have hP := hP2; clear hP2; have hD := hD2; clear hD2
  generalize H2 = H at hP hS ⊢; generalize locs2 = locs at hS ⊢
  have hP : va_P D vwCl (([(b0, .inr (1, [.null, .int 0, .int 0, .int 0, .int 0, .int 0, .int 0]))] : va_W) ++ ((w4 cI q9 u9))) H := hP
  have hD : va_D A (([(b0, .inr (1, [.null, .int 0, .int 0, .int 0, .int 0, .int 0, .int 0]))] : va_W) ++ ((w4 cI q9 u9))) := hD
  refine W.widen (k := 5) (n := 221) (by omega) (by omega) ?_
  refine va_putF (D := D) (ci := 1) (v := .ref (q9 0)) (ty := (.object "LastTrain$Town")) (C := RX1) (T := TX1) (N := 7) hx hb htl inlX1 tyX1 tyX1_ok nmX1 hown hK hP hD hS 0 rfl rfl 0 (by decide) (htl _ W_58) (fun _ h9 => h9) rfl hin rfl (by decide +kernel) rfl rfl (Nat.le_of_ble_eq_true rfl) (dAt zX1_init_0 6 rfl) (fun H locs hP hD hS => ?_)
  have hP : va_P D vwCl (([(b0, .inr (1, [.ref (q9 0), .int 0, .int 0, .int 0, .int 0, .int 0, .int 0]))] : va_W) ++ ((w4 cI q9 u9))) H := hP
  have hD : va_D A (([(b0, .inr (1, [.ref (q9 0), .int 0, .int 0, .int 0, .int 0, .int 0, .int 0]))] : va_W) ++ ((w4 cI q9 u9))) := hD
  refine lv_aload_n hx hb (dAt zX1_init_0 7 rfl) rfl (lv_at hl 0 rfl) ?_
  refine lv_iconst (v := 0) hx hb (dAt zX1_init_0 8 rfl) (by decide) ?_
  refine va_put (D := D) (ci := 1) (v := .int 0) (ty := .int) (C := RX1) (T := TX1) (N := 7) hx hb htl inlX1 tyX1 tyX1_ok nmX1 hown hK hP hD hS 0 rfl rfl 1 (by decide) (htl _ W_59) (fun _ h9 => h9) rfl (by decide +kernel) rfl rfl (Nat.le_of_ble_eq_true rfl) (dAt zX1_init_0 9 rfl) (fun H locs hP hD hS => ?_)
  have hP : va_P D vwCl (([(b0, .inr (1, [.ref (q9 0), .int 0, .int 0, .int 0, .int 0, .int 0, .int 0]))] : va_W) ++ ((w4 cI q9 u9))) H := hP
  have hD : va_D A (([(b0, .inr (1, [.ref (q9 0), .int 0, .int 0, .int 0, .int 0, .int 0, .int 0]))] : va_W) ++ ((w4 cI q9 u9))) := hD
  refine lv_aload_n hx hb (dAt zX1_init_0 10 rfl) rfl (lv_at hl 0 rfl) ?_
  refine lv_iconst (v := 0) hx hb (dAt zX1_init_0 11 rfl) (by decide) ?_
  refine va_put (D := D) (ci := 1) (v := .int 0) (ty := .int) (C := RX1) (T := TX1) (N := 7) hx hb htl inlX1 tyX1 tyX1_ok nmX1 hown hK hP hD hS 0 rfl rfl 2 (by decide) (htl _ W_60) (fun _ h9 => h9) rfl (by decide +kernel) rfl rfl (Nat.le_of_ble_eq_true rfl) (dAt zX1_init_0 12 rfl) (fun H locs hP hD hS => ?_)
  have hP : va_P D vwCl (([(b0, .inr (1, [.ref (q9 0), .int 0, .int 0, .int 0, .int 0, .int 0, .int 0]))] : va_W) ++ ((w4 cI q9 u9))) H := hP
  have hD : va_D A (([(b0, .inr (1, [.ref (q9 0), .int 0, .int 0, .int 0, .int 0, .int 0, .int 0]))] : va_W) ++ ((w4 cI q9 u9))) := hD
  refine lv_aload_n hx hb (dAt zX1_init_0 13 rfl) rfl (lv_at hl 0 rfl) ?_
  refine lv_iconst (v := 0) hx hb (dAt zX1_init_0 14 rfl) (by decide) ?_
  refine va_put (D := D) (ci := 1) (v := .int 0) (ty := .int) (C := RX1) (T := TX1) (N := 7) hx hb htl inlX1 tyX1 tyX1_ok nmX1 hown hK hP hD hS 0 rfl rfl 3 (by decide) (htl _ W_61) (fun _ h9 => h9) rfl (by decide +kernel) rfl rfl (Nat.le_of_ble_eq_true rfl) (dAt zX1_init_0 15 rfl) (fun H locs hP hD hS => ?_)
  have hP : va_P D vwCl (([(b0, .inr (1, [.ref (q9 0), .int 0, .int 0, .int 0, .int 0, .int 0, .int 0]))] : va_W) ++ ((w4 cI q9 u9))) H := hP
  have hD : va_D A (([(b0, .inr (1, [.ref (q9 0), .int 0, .int 0, .int 0, .int 0, .int 0, .int 0]))] : va_W) ++ ((w4 cI q9 u9))) := hD
  refine lv_aload_n hx hb (dAt zX1_init_0 16 rfl) rfl (lv_at hl 0 rfl) ?_
  refine lv_iconst (v := 0) hx hb (dAt zX1_init_0 17 rfl) (by decide) ?_
  refine va_put (D := D) (ci := 1) (v := .int 0) (ty := .int) (C := RX1) (T := TX1) (N := 7) hx hb htl inlX1 tyX1 tyX1_ok nmX1 hown hK hP hD hS 0 rfl rfl 4 (by decide) (htl _ W_62) (fun _ h9 => h9) rfl (by decide +kernel) rfl rfl (Nat.le_of_ble_eq_true rfl) (dAt zX1_init_0 18 rfl) (fun H locs hP hD hS => ?_)
  have hP : va_P D vwCl (([(b0, .inr (1, [.ref (q9 0), .int 0, .int 0, .int 0, .int 0, .int 0, .int 0]))] : va_W) ++ ((w4 cI q9 u9))) H := hP
  have hD : va_D A (([(b0, .inr (1, [.ref (q9 0), .int 0, .int 0, .int 0, .int 0, .int 0, .int 0]))] : va_W) ++ ((w4 cI q9 u9))) := hD
  refine lv_aload_n hx hb (dAt zX1_init_0 19 rfl) rfl (lv_at hl 0 rfl) ?_
  refine lv_bipush (v := (-6)) hx hb (dAt zX1_init_0 20 rfl) (by decide) ?_
  refine va_put (D := D) (ci := 1) (v := .int (-6)) (ty := .int) (C := RX1) (T := TX1) (N := 7) hx hb htl inlX1 tyX1 tyX1_ok nmX1 hown hK hP hD hS 0 rfl rfl 5 (by decide) (htl _ W_63) (fun _ h9 => h9) rfl (by decide +kernel) rfl rfl (Nat.le_of_ble_eq_true rfl) (dAt zX1_init_0 21 rfl) (fun H locs hP hD hS => ?_)
  have hP : va_P D vwCl (([(b0, .inr (1, [.ref (q9 0), .int 0, .int 0, .int 0, .int 0, .int (-6), .int 0]))] : va_W) ++ ((w4 cI q9 u9))) H := hP
  have hD : va_D A (([(b0, .inr (1, [.ref (q9 0), .int 0, .int 0, .int 0, .int 0, .int (-6), .int 0]))] : va_W) ++ ((w4 cI q9 u9))) := hD
  refine lv_aload_n hx hb (dAt zX1_init_0 22 rfl) rfl (lv_at hl 0 rfl) ?_
  refine lv_bipush (v := (-6)) hx hb (dAt zX1_init_0 23 rfl) (by decide) ?_
  refine va_put (D := D) (ci := 1) (v := .int (-6)) (ty := .int) (C := RX1) (T := TX1) (N := 7) hx hb htl inlX1 tyX1 tyX1_ok nmX1 hown hK hP hD hS 0 rfl rfl 6 (by decide) (htl _ W_64) (fun _ h9 => h9) rfl (by decide +kernel) rfl rfl (Nat.le_of_ble_eq_true rfl) (dAt zX1_init_0 24 rfl) (fun H locs hP hD hS => ?_)
  have hP : va_P D vwCl (([(b0, .inr (1, [.ref (q9 0), .int 0, .int 0, .int 0, .int 0, .int (-6), .int (-6)]))] : va_W) ++ ((w4 cI q9 u9))) H := hP
  have hD : va_D A (([(b0, .inr (1, [.ref (q9 0), .int 0, .int 0, .int 0, .int 0, .int (-6), .int (-6)]))] : va_W) ++ ((w4 cI q9 u9))) := hD
  obtain rfl := q_some h
  have hP : va_P D vwCl (w1 (fun _ => b0) q9 (mk1 0 0 0 0 (-6) (-6), u9).1 ++ w4 cI q9 (mk1 0 0 0 0 (-6) (-6), u9).2) H := hP
  have hD : va_D A (w1 (fun _ => b0) q9 (mk1 0 0 0 0 (-6) (-6), u9).1 ++ w4 cI q9 (mk1 0 0 0 0 (-6) (-6), u9).2) := hD
  exact xRvI ((fun _ => b0, q9)) hx hb hr hlocks hQ hAe (by simp) hP hD hK hS (dAt zX1_init_0 25 rfl)
noncomputable def m_X3_init (n : Nat) : Option TI := some (mk3 0 (fun _ => 0) (fun _ => 0) (fun _ => 0))
set_option maxHeartbeats 4000000 in
set_option maxRecDepth 100000 in
theorem c_X3_init (l : Launch) (D : va_G) (cI cJ cZ : ClassId) (n : Nat) (b0 : Nat) (sz : Nat) (out : TI) (hm : m_X3_init n = some out) : Met l yX3_init (wsM yX3_init cX3_init 1 none) { frames := 1, cells := 3, slots := 30, locals := 12 } (xPre D (kT cI cJ cZ) ([(b0, .inr (3, [.null, .null, .null, .int 0]))] : va_W) sz [.ref b0]) (xQvI D (kT cI cJ cZ) ([(b0, .inr (3, [.null, .null, .null, .int 0]))] : va_W) (fun q : Nat → Nat => (w3 cI q out)) sz (fun q => q 0 = b0)) 3 30 (va_A ([(b0, .inr (3, [.null, .null, .null, .int 0]))] : va_W) sz) := by
  refine Met.ofW (cc := cX3_init) (maxL := 1) (ret := none) (by decide) rfl ?_
  intro p e s m args below meth c s₁ B hml hv
  obtain ⟨hv, hsz, hP, hK, hD0, hN⟩ := hv
  have hx := B.exec; have hb := B.bytes; have hr := B.returns
  have hts := atoms_spec (ws := (wsM yX3_init cX3_init 1 none)) B.pre
  have hown : s.vm.findClass RX3 = some m.cls := findClass_of_methodNamed B.named
  have hlocks := B.notSynchronized
  have hin : meth.name = "<init>" := (name_of_methodNamed B.named B.method).1
  subst hsz
  have hD := hD0.self (sz := s.heap.size)
  obtain ⟨A, hAe⟩ : ∃ A, A = va_A ([(b0, .inr (3, [.null, .null, .null, .int 0]))] : va_W) s.heap.size := ⟨_, rfl⟩
  rw [← hAe] at hD
  have hA : ∀ q : Nat, s.heap.size ≤ q → A q := fun q h => by rw [hAe]; exact Or.inr h
  have htl : ∀ w ∈ wsL_law, w.before args s = true := fun w h => hts w (List.mem_cons_of_mem _ h)
  refine xHead (R' := { frames := 1, cells := 3, slots := 30, locals := 12 }) rfl (fun Q H hQ hH => ?_)
  have hP : va_P D vwCl ([(b0, .inr (3, [.null, .null, .null, .int 0]))] : va_W) H := by rw [hH]; exact hP
  have hS : va_S A s.heap H [] := by rw [hH]; exact va_S.rf
  refine xStart hv (Nat.le_of_ble_eq_true rfl) (lv := [(0, .ref b0)]) rfl (fun ls hl => ?_)
  have h := hm
  unfold m_X3_init at h
  refine lv_aload_n hx hb (dAt zX3_init_0 0 rfl) rfl (lv_at hl 0 rfl) ?_
  refine W.objInit hx hb hown (htl _ W_68) (htl _ W_10) (htl _ W_11) rfl (by rw [hml]; exact hl.1) rfl (dAt zX3_init_0 1 rfl) (Nat.le_of_ble_eq_true rfl) (Nat.le_of_ble_eq_true rfl) ?_
  refine W.eq (g2 := F0 m 4 ls []) rfl ?_
  refine lv_aload_n hx hb (dAt zX3_init_0 2 rfl) rfl (lv_at hl 0 rfl) ?_
  refine lv_bipush (v := 10) hx hb (dAt zX3_init_0 3 rfl) (by decide) ?_
  refine xNewI (n := 10) (N' := 10) (hbig := by decide) hx hb (htl _ W_44) hK hP hD hS hA (by decide) (by decide) (Nat.le_of_ble_eq_true rfl) (Nat.le_of_ble_eq_true rfl) (dAt zX3_init_0 4 rfl) (fun r7 H hP hD hS => ?_)
  have hP : va_P D vwCl (([(b0, .inr (3, [.null, .null, .null, .int 0]))] : va_W) ++ (wA cI r7 10 (fun _ => 0))) H := hP
  have hD : va_D A (([(b0, .inr (3, [.null, .null, .null, .int 0]))] : va_W) ++ (wA cI r7 10 (fun _ => 0))) := hD
  refine W.widen (k := 1) (n := 10) (by omega) (by omega) ?_
  refine va_putF (D := D) (ci := 3) (v := .ref r7) (ty := (.array .int)) (C := RX3) (T := TX3) (N := 4) hx hb htl inlX3 tyX3 tyX3_ok nmX3 hown hK hP hD hS 0 rfl rfl 0 (by decide) (htl _ W_69) (fun _ h9 => h9) rfl hin rfl (by decide +kernel) rfl rfl (Nat.le_of_ble_eq_true rfl) (dAt zX3_init_0 5 rfl) (fun H locs hP hD hS => ?_)
  have hP : va_P D vwCl (([(b0, .inr (3, [.ref r7, .null, .null, .int 0]))] : va_W) ++ (wA cI r7 10 (fun _ => 0))) H := hP
  have hD : va_D A (([(b0, .inr (3, [.ref r7, .null, .null, .int 0]))] : va_W) ++ (wA cI r7 10 (fun _ => 0))) := hD
  refine lv_aload_n hx hb (dAt zX3_init_0 6 rfl) rfl (lv_at hl 0 rfl) ?_
  refine lv_bipush (v := 10) hx hb (dAt zX3_init_0 7 rfl) (by decide) ?_
  refine xNewI (n := 10) (N' := 10) (hbig := by decide) hx hb (htl _ W_44) hK hP hD hS hA (by decide) (by decide) (Nat.le_of_ble_eq_true rfl) (Nat.le_of_ble_eq_true rfl) (dAt zX3_init_0 8 rfl) (fun r15 H hP hD hS => ?_)
  have hP : va_P D vwCl (([(b0, .inr (3, [.ref r7, .null, .null, .int 0]))] : va_W) ++ (wA cI r7 10 (fun _ => 0) ++ (wA cI r15 10 (fun _ => 0)))) H := hP
  have hD : va_D A (([(b0, .inr (3, [.ref r7, .null, .null, .int 0]))] : va_W) ++ (wA cI r7 10 (fun _ => 0) ++ (wA cI r15 10 (fun _ => 0)))) := hD
  refine W.widen (k := 2) (n := 20) (by omega) (by omega) ?_
  refine va_putF (D := D) (ci := 3) (v := .ref r15) (ty := (.array .int)) (C := RX3) (T := TX3) (N := 4) hx hb htl inlX3 tyX3 tyX3_ok nmX3 hown hK hP hD hS 0 rfl rfl 1 (by decide) (htl _ W_70) (fun _ h9 => h9) rfl hin rfl (by decide +kernel) rfl rfl (Nat.le_of_ble_eq_true rfl) (dAt zX3_init_0 9 rfl) (fun H locs hP hD hS => ?_)
  have hP : va_P D vwCl (([(b0, .inr (3, [.ref r7, .ref r15, .null, .int 0]))] : va_W) ++ (wA cI r7 10 (fun _ => 0) ++ (wA cI r15 10 (fun _ => 0)))) H := hP
  have hD : va_D A (([(b0, .inr (3, [.ref r7, .ref r15, .null, .int 0]))] : va_W) ++ (wA cI r7 10 (fun _ => 0) ++ (wA cI r15 10 (fun _ => 0)))) := hD
  refine lv_aload_n hx hb (dAt zX3_init_0 10 rfl) rfl (lv_at hl 0 rfl) ?_
  refine lv_bipush (v := 10) hx hb (dAt zX3_init_0 11 rfl) (by decide) ?_
  refine xNewI (n := 10) (N' := 10) (hbig := by decide) hx hb (htl _ W_44) hK hP hD hS hA (by decide) (by decide) (Nat.le_of_ble_eq_true rfl) (Nat.le_of_ble_eq_true rfl) (dAt zX3_init_0 12 rfl) (fun r23 H hP hD hS => ?_)
  have hP : va_P D vwCl (([(b0, .inr (3, [.ref r7, .ref r15, .null, .int 0]))] : va_W) ++ (wA cI r7 10 (fun _ => 0) ++ (wA cI r15 10 (fun _ => 0) ++ (wA cI r23 10 (fun _ => 0))))) H := hP
  have hD : va_D A (([(b0, .inr (3, [.ref r7, .ref r15, .null, .int 0]))] : va_W) ++ (wA cI r7 10 (fun _ => 0) ++ (wA cI r15 10 (fun _ => 0) ++ (wA cI r23 10 (fun _ => 0))))) := hD
  refine W.widen (k := 3) (n := 30) (by omega) (by omega) ?_
  refine va_putF (D := D) (ci := 3) (v := .ref r23) (ty := (.array .int)) (C := RX3) (T := TX3) (N := 4) hx hb htl inlX3 tyX3 tyX3_ok nmX3 hown hK hP hD hS 0 rfl rfl 2 (by decide) (htl _ W_71) (fun _ h9 => h9) rfl hin rfl (by decide +kernel) rfl rfl (Nat.le_of_ble_eq_true rfl) (dAt zX3_init_0 13 rfl) (fun H locs hP hD hS => ?_)
  have hP : va_P D vwCl (([(b0, .inr (3, [.ref r7, .ref r15, .ref r23, .int 0]))] : va_W) ++ (wA cI r7 10 (fun _ => 0) ++ (wA cI r15 10 (fun _ => 0) ++ (wA cI r23 10 (fun _ => 0))))) H := hP
  have hD : va_D A (([(b0, .inr (3, [.ref r7, .ref r15, .ref r23, .int 0]))] : va_W) ++ (wA cI r7 10 (fun _ => 0) ++ (wA cI r15 10 (fun _ => 0) ++ (wA cI r23 10 (fun _ => 0))))) := hD
  refine lv_aload_n hx hb (dAt zX3_init_0 14 rfl) rfl (lv_at hl 0 rfl) ?_
  refine lv_iconst (v := 0) hx hb (dAt zX3_init_0 15 rfl) (by decide) ?_
  refine va_put (D := D) (ci := 3) (v := .int 0) (ty := .int) (C := RX3) (T := TX3) (N := 4) hx hb htl inlX3 tyX3 tyX3_ok nmX3 hown hK hP hD hS 0 rfl rfl 3 (by decide) (htl _ W_72) (fun _ h9 => h9) rfl (by decide +kernel) rfl rfl (Nat.le_of_ble_eq_true rfl) (dAt zX3_init_0 16 rfl) (fun H locs hP hD hS => ?_)
  have hP : va_P D vwCl (([(b0, .inr (3, [.ref r7, .ref r15, .ref r23, .int 0]))] : va_W) ++ (wA cI r7 10 (fun _ => 0) ++ (wA cI r15 10 (fun _ => 0) ++ (wA cI r23 10 (fun _ => 0))))) H := hP
  have hD : va_D A (([(b0, .inr (3, [.ref r7, .ref r15, .ref r23, .int 0]))] : va_W) ++ (wA cI r7 10 (fun _ => 0) ++ (wA cI r15 10 (fun _ => 0) ++ (wA cI r23 10 (fun _ => 0))))) := hD
  obtain rfl := q_some h
  have hP : va_P D vwCl (w3 cI (fun k => match Nat.beq k 1 with | true => r7 | false => match Nat.beq k 2 with | true => r15 | false => match Nat.beq k 3 with | true => r23 | false => b0) (mk3 0 (fun _ => 0) (fun _ => 0) (fun _ => 0))) H := hP
  have hD : va_D A (w3 cI (fun k => match Nat.beq k 1 with | true => r7 | false => match Nat.beq k 2 with | true => r15 | false => match Nat.beq k 3 with | true => r23 | false => b0) (mk3 0 (fun _ => 0) (fun _ => 0) (fun _ => 0))) := hD
  exact xRvI (fun k => match Nat.beq k 1 with | true => r7 | false => match Nat.beq k 2 with | true => r15 | false => match Nat.beq k 3 with | true => r23 | false => b0) hx hb hr hlocks hQ hAe (by simp) hP hD hK hS (dAt zX3_init_0 17 rfl)
noncomputable def m_X0_init (n : Nat) : Option TL := some (mk0 0 0 1 (fun _ => 0))
set_option maxHeartbeats 4000000 in
set_option maxRecDepth 100000 in
theorem c_X0_init (l : Launch) (D : va_G) (cI cJ cZ : ClassId) (n : Nat) (b0 : Nat) (sz : Nat) (out : TL) (hm : m_X0_init n = some out) : Met l yX0_init (wsM yX0_init cX0_init 1 none) { frames := 1, cells := 1, slots := 11, locals := 12 } (xPre D (kT cI cJ cZ) ([(b0, .inr (0, [.null, .long 0, .long 0, .long 0]))] : va_W) sz [.ref b0]) (xQvI D (kT cI cJ cZ) ([(b0, .inr (0, [.null, .long 0, .long 0, .long 0]))] : va_W) (fun q : Nat → Nat => (w0 cJ q out)) sz (fun q => q 0 = b0)) 1 11 (va_A ([(b0, .inr (0, [.null, .long 0, .long 0, .long 0]))] : va_W) sz) := by
  refine Met.ofW (cc := cX0_init) (maxL := 1) (ret := none) (by decide) rfl ?_
  intro p e s m args below meth c s₁ B hml hv
  obtain ⟨hv, hsz, hP, hK, hD0, hN⟩ := hv
  have hx := B.exec; have hb := B.bytes; have hr := B.returns
  have hts := atoms_spec (ws := (wsM yX0_init cX0_init 1 none)) B.pre
  have hown : s.vm.findClass RX0 = some m.cls := findClass_of_methodNamed B.named
  have hlocks := B.notSynchronized
  have hin : meth.name = "<init>" := (name_of_methodNamed B.named B.method).1
  subst hsz
  have hD := hD0.self (sz := s.heap.size)
  obtain ⟨A, hAe⟩ : ∃ A, A = va_A ([(b0, .inr (0, [.null, .long 0, .long 0, .long 0]))] : va_W) s.heap.size := ⟨_, rfl⟩
  rw [← hAe] at hD
  have hA : ∀ q : Nat, s.heap.size ≤ q → A q := fun q h => by rw [hAe]; exact Or.inr h
  have htl : ∀ w ∈ wsL_law, w.before args s = true := fun w h => hts w (List.mem_cons_of_mem _ h)
  refine xHead (R' := { frames := 1, cells := 1, slots := 11, locals := 12 }) rfl (fun Q H hQ hH => ?_)
  have hP : va_P D vwCl ([(b0, .inr (0, [.null, .long 0, .long 0, .long 0]))] : va_W) H := by rw [hH]; exact hP
  have hS : va_S A s.heap H [] := by rw [hH]; exact va_S.rf
  refine xStart hv (Nat.le_of_ble_eq_true rfl) (lv := [(0, .ref b0)]) rfl (fun ls hl => ?_)
  have h := hm
  unfold m_X0_init at h
  refine lv_aload_n hx hb (dAt zX0_init_0 0 rfl) rfl (lv_at hl 0 rfl) ?_
  refine W.objInit hx hb hown (htl _ W_75) (htl _ W_10) (htl _ W_11) rfl (by rw [hml]; exact hl.1) rfl (dAt zX0_init_0 1 rfl) (Nat.le_of_ble_eq_true rfl) (Nat.le_of_ble_eq_true rfl) ?_
  refine W.eq (g2 := F0 m 4 ls []) rfl ?_
  refine lv_aload_n hx hb (dAt zX0_init_0 2 rfl) rfl (lv_at hl 0 rfl) ?_
  refine lv_bipush (v := 11) hx hb (dAt zX0_init_0 3 rfl) (by decide) ?_
  refine xNewJ (n := 11) (N' := 11) (hbig := by decide) hx hb (htl _ W_76) hK hP hD hS hA (by decide) (by decide) (Nat.le_of_ble_eq_true rfl) (Nat.le_of_ble_eq_true rfl) (dAt zX0_init_0 4 rfl) (fun r7 H hP hD hS => ?_)
  have hP : va_P D vwCl (([(b0, .inr (0, [.null, .long 0, .long 0, .long 0]))] : va_W) ++ (wAJ cJ r7 11 (fun _ => 0))) H := hP
  have hD : va_D A (([(b0, .inr (0, [.null, .long 0, .long 0, .long 0]))] : va_W) ++ (wAJ cJ r7 11 (fun _ => 0))) := hD
  refine W.widen (k := 1) (n := 11) (by omega) (by omega) ?_
  refine va_putF (D := D) (ci := 0) (v := .ref r7) (ty := (.array .long)) (C := RX0) (T := TX0) (N := 4) hx hb htl inlX0 tyX0 tyX0_ok nmX0 hown hK hP hD hS 0 rfl rfl 0 (by decide) (htl _ W_77) (fun _ h9 => h9) rfl hin rfl (by decide +kernel) rfl rfl (Nat.le_of_ble_eq_true rfl) (dAt zX0_init_0 5 rfl) (fun H locs hP hD hS => ?_)
  have hP : va_P D vwCl (([(b0, .inr (0, [.ref r7, .long 0, .long 0, .long 0]))] : va_W) ++ (wAJ cJ r7 11 (fun _ => 0))) H := hP
  have hD : va_D A (([(b0, .inr (0, [.ref r7, .long 0, .long 0, .long 0]))] : va_W) ++ (wAJ cJ r7 11 (fun _ => 0))) := hD
  refine lv_aload_n hx hb (dAt zX0_init_0 6 rfl) rfl (lv_at hl 0 rfl) ?_
  refine lv_lconst (v := 0) hx hb (dAt zX0_init_0 7 rfl) (by decide) ?_
  refine va_put (D := D) (ci := 0) (v := .long 0) (ty := .long) (C := RX0) (T := TX0) (N := 4) hx hb htl inlX0 tyX0 tyX0_ok nmX0 hown hK hP hD hS 0 rfl rfl 1 (by decide) (htl _ W_78) (fun _ h9 => h9) rfl (by decide +kernel) rfl rfl (Nat.le_of_ble_eq_true rfl) (dAt zX0_init_0 8 rfl) (fun H locs hP hD hS => ?_)
  have hP : va_P D vwCl (([(b0, .inr (0, [.ref r7, .long 0, .long 0, .long 0]))] : va_W) ++ (wAJ cJ r7 11 (fun _ => 0))) H := hP
  have hD : va_D A (([(b0, .inr (0, [.ref r7, .long 0, .long 0, .long 0]))] : va_W) ++ (wAJ cJ r7 11 (fun _ => 0))) := hD
  refine lv_aload_n hx hb (dAt zX0_init_0 9 rfl) rfl (lv_at hl 0 rfl) ?_
  refine lv_lconst (v := 0) hx hb (dAt zX0_init_0 10 rfl) (by decide) ?_
  refine va_put (D := D) (ci := 0) (v := .long 0) (ty := .long) (C := RX0) (T := TX0) (N := 4) hx hb htl inlX0 tyX0 tyX0_ok nmX0 hown hK hP hD hS 0 rfl rfl 2 (by decide) (htl _ W_79) (fun _ h9 => h9) rfl (by decide +kernel) rfl rfl (Nat.le_of_ble_eq_true rfl) (dAt zX0_init_0 11 rfl) (fun H locs hP hD hS => ?_)
  have hP : va_P D vwCl (([(b0, .inr (0, [.ref r7, .long 0, .long 0, .long 0]))] : va_W) ++ (wAJ cJ r7 11 (fun _ => 0))) H := hP
  have hD : va_D A (([(b0, .inr (0, [.ref r7, .long 0, .long 0, .long 0]))] : va_W) ++ (wAJ cJ r7 11 (fun _ => 0))) := hD
  refine lv_aload_n hx hb (dAt zX0_init_0 12 rfl) rfl (lv_at hl 0 rfl) ?_
  refine lv_lconst (v := 1) hx hb (dAt zX0_init_0 13 rfl) (by decide) ?_
  refine va_put (D := D) (ci := 0) (v := .long 1) (ty := .long) (C := RX0) (T := TX0) (N := 4) hx hb htl inlX0 tyX0 tyX0_ok nmX0 hown hK hP hD hS 0 rfl rfl 3 (by decide) (htl _ W_80) (fun _ h9 => h9) rfl (by decide +kernel) rfl rfl (Nat.le_of_ble_eq_true rfl) (dAt zX0_init_0 14 rfl) (fun H locs hP hD hS => ?_)
  have hP : va_P D vwCl (([(b0, .inr (0, [.ref r7, .long 0, .long 0, .long 1]))] : va_W) ++ (wAJ cJ r7 11 (fun _ => 0))) H := hP
  have hD : va_D A (([(b0, .inr (0, [.ref r7, .long 0, .long 0, .long 1]))] : va_W) ++ (wAJ cJ r7 11 (fun _ => 0))) := hD
  obtain rfl := q_some h
  have hP : va_P D vwCl (w0 cJ (fun k => match Nat.beq k 1 with | true => r7 | false => b0) (mk0 0 0 1 (fun _ => 0))) H := hP
  have hD : va_D A (w0 cJ (fun k => match Nat.beq k 1 with | true => r7 | false => b0) (mk0 0 0 1 (fun _ => 0))) := hD
  exact xRvI (fun k => match Nat.beq k 1 with | true => r7 | false => b0) hx hb hr hlocks hQ hAe (by simp) hP hD hK hS (dAt zX0_init_0 15 rfl)
def b_X6_init_163 (n : Nat) (zr15_142 : (Nat → Int32)) (s_163 : Int32 × (Nat → Int32)) (k_163 : Int32 × (Nat → Int32) → Option (TI × TL)) : Option (TI × TL) := (if 4 ≤ s_163.1 then some (mk6 1023 0 0 0 0 0 0 0 0 0 0 0 0 0 0 0 (fun _ => 0) zr15_142 s_163.2 (fun _ => 0) (fun _ => 0) (fun _ => 0) (fun _ => 0) (fun _ => 0) (fun _ => 0) (fun _ => 0) (fun _ => 0) (fun _ => 0) (fun _ => 0) (fun _ => 0) (fun _ => 0), mkL6 (fun _ => 0)) else (gd (inB s_163.1 4) ((k_163 ((s_163.1 + 1), (upd s_163.2 (Int32.toNatClampNeg s_163.1) 1))))))
def b_X6_init_142 (n : Nat) (s_142 : Int32 × (Nat → Int32)) (k_142 : Int32 × (Nat → Int32) → Option (TI × TL)) : Option (TI × TL) := (if 100 ≤ s_142.1 then (loopF (b_X6_init_163 n s_142.2 ) n (0, (fun _ => 0))) else (gd (inB s_142.1 100) ((k_142 ((s_142.1 + 1), (upd s_142.2 (Int32.toNatClampNeg s_142.1) 2))))))
noncomputable def m_X6_init (n : Nat) : Option (TI × TL) := (loopF (b_X6_init_142 n ) n (0, (fun _ => 0)))
set_option maxHeartbeats 4000000 in
set_option maxRecDepth 100000 in
theorem c_X6_init (l : Launch) (D : va_G) (cI cJ cZ : ClassId) (n : Nat) (b0 : Nat) (sz : Nat) (out : TI × TL) (hm : m_X6_init n = some out) : Met l yX6_init (wsM yX6_init cX6_init 2 none) { frames := 1, cells := 16, slots := 2167, locals := 12 } (xPre D (kT cI cJ cZ) ([(b0, .inr (6, [.int 0, .int 0, .int 0, .null, .null, .null, .null, .null, .int 0, .null, .int 0, .null, .null, .null, .int 0, .int 0, .int 0, .int 0, .null, .int 0, .int 0, .int 0, .int 0, .int 0, .null, .null, .null, .null, .null, .null, .int 0, .int 0]))] : va_W) sz [.ref b0]) (xQvI D (kT cI cJ cZ) ([(b0, .inr (6, [.int 0, .int 0, .int 0, .null, .null, .null, .null, .null, .int 0, .null, .int 0, .null, .null, .null, .int 0, .int 0, .int 0, .int 0, .null, .int 0, .int 0, .int 0, .int 0, .int 0, .null, .null, .null, .null, .null, .null, .int 0, .int 0]))] : va_W) (fun q : Nat → Nat => (w6 cI cJ cZ q out.1 out.2)) sz (fun q => q 0 = b0)) 16 2167 (va_A ([(b0, .inr (6, [.int 0, .int 0, .int 0, .null, .null, .null, .null, .null, .int 0, .null, .int 0, .null, .null, .null, .int 0, .int 0, .int 0, .int 0, .null, .int 0, .int 0, .int 0, .int 0, .int 0, .null, .null, .null, .null, .null, .null, .int 0, .int 0]))] : va_W) sz) := by
  refine Met.ofW (cc := cX6_init) (maxL := 2) (ret := none) (by decide) rfl ?_
  intro p e s m args below meth c s₁ B hml hv
  obtain ⟨hv, hsz, hP, hK, hD0, hN⟩ := hv
  have hx := B.exec; have hb := B.bytes; have hr := B.returns
  have hts := atoms_spec (ws := (wsM yX6_init cX6_init 2 none)) B.pre
  have hown : s.vm.findClass RX6 = some m.cls := findClass_of_methodNamed B.named
  have hlocks := B.notSynchronized
  have hin : meth.name = "<init>" := (name_of_methodNamed B.named B.method).1
  subst hsz
  have hD := hD0.self (sz := s.heap.size)
  obtain ⟨A, hAe⟩ : ∃ A, A = va_A ([(b0, .inr (6, [.int 0, .int 0, .int 0, .null, .null, .null, .null, .null, .int 0, .null, .int 0, .null, .null, .null, .int 0, .int 0, .int 0, .int 0, .null, .int 0, .int 0, .int 0, .int 0, .int 0, .null, .null, .null, .null, .null, .null, .int 0, .int 0]))] : va_W) s.heap.size := ⟨_, rfl⟩
  rw [← hAe] at hD
  have hA : ∀ q : Nat, s.heap.size ≤ q → A q := fun q h => by rw [hAe]; exact Or.inr h
  have htl : ∀ w ∈ wsL_law, w.before args s = true := fun w h => hts w (List.mem_cons_of_mem _ h)
  refine xHead (R' := { frames := 1, cells := 16, slots := 2167, locals := 12 }) rfl (fun Q H hQ hH => ?_)
  have hP : va_P D vwCl ([(b0, .inr (6, [.int 0, .int 0, .int 0, .null, .null, .null, .null, .null, .int 0, .null, .int 0, .null, .null, .null, .int 0, .int 0, .int 0, .int 0, .null, .int 0, .int 0, .int 0, .int 0, .int 0, .null, .null, .null, .null, .null, .null, .int 0, .int 0]))] : va_W) H := by rw [hH]; exact hP
  have hS : va_S A s.heap H [] := by rw [hH]; exact va_S.rf
  refine xStart hv (Nat.le_of_ble_eq_true rfl) (lv := [(0, .ref b0)]) rfl (fun ls hl => ?_)
  have h := hm
  unfold m_X6_init at h
  refine lv_aload_n hx hb (dAt zX6_init_0 0 rfl) rfl (lv_at hl 0 rfl) ?_
  refine W.objInit hx hb hown (htl _ W_84) (htl _ W_10) (htl _ W_11) rfl (by rw [hml]; exact hl.1) rfl (dAt zX6_init_0 1 rfl) (Nat.le_of_ble_eq_true rfl) (Nat.le_of_ble_eq_true rfl) ?_
  refine W.eq (g2 := F0 m 4 ls []) rfl ?_
  refine lv_aload_n hx hb (dAt zX6_init_0 2 rfl) rfl (lv_at hl 0 rfl) ?_
  refine lv_bipush (v := 100) hx hb (dAt zX6_init_0 3 rfl) (by decide) ?_
  refine xNewI (n := 100) (N' := 100) (hbig := by decide) hx hb (htl _ W_44) hK hP hD hS hA (by decide) (by decide) (Nat.le_of_ble_eq_true rfl) (Nat.le_of_ble_eq_true rfl) (dAt zX6_init_0 4 rfl) (fun r7 H hP hD hS => ?_)
  have hP : va_P D vwCl (([(b0, .inr (6, [.int 0, .int 0, .int 0, .null, .null, .null, .null, .null, .int 0, .null, .int 0, .null, .null, .null, .int 0, .int 0, .int 0, .int 0, .null, .int 0, .int 0, .int 0, .int 0, .int 0, .null, .null, .null, .null, .null, .null, .int 0, .int 0]))] : va_W) ++ (wA cI r7 100 (fun _ => 0))) H := hP
  have hD : va_D A (([(b0, .inr (6, [.int 0, .int 0, .int 0, .null, .null, .null, .null, .null, .int 0, .null, .int 0, .null, .null, .null, .int 0, .int 0, .int 0, .int 0, .null, .int 0, .int 0, .int 0, .int 0, .int 0, .null, .null, .null, .null, .null, .null, .int 0, .int 0]))] : va_W) ++ (wA cI r7 100 (fun _ => 0))) := hD
  refine W.widen (k := 1) (n := 100) (by omega) (by omega) ?_
  refine va_putF (D := D) (ci := 6) (v := .ref r7) (ty := (.array .int)) (C := RX6) (T := TX6) (N := 32) hx hb htl inlX6 tyX6 tyX6_ok nmX6 hown hK hP hD hS 0 rfl rfl 3 (by decide) (htl _ W_85) (fun _ h9 => h9) rfl hin rfl (by decide +kernel) rfl rfl (Nat.le_of_ble_eq_true rfl) (dAt zX6_init_0 5 rfl) (fun H locs hP hD hS => ?_)
  have hP : va_P D vwCl (([(b0, .inr (6, [.int 0, .int 0, .int 0, .ref r7, .null, .null, .null, .null, .int 0, .null, .int 0, .null, .null, .null, .int 0, .int 0, .int 0, .int 0, .null, .int 0, .int 0, .int 0, .int 0, .int 0, .null, .null, .null, .null, .null, .null, .int 0, .int 0]))] : va_W) ++ (wA cI r7 100 (fun _ => 0))) H := hP
  have hD : va_D A (([(b0, .inr (6, [.int 0, .int 0, .int 0, .ref r7, .null, .null, .null, .null, .int 0, .null, .int 0, .null, .null, .null, .int 0, .int 0, .int 0, .int 0, .null, .int 0, .int 0, .int 0, .int 0, .int 0, .null, .null, .null, .null, .null, .null, .int 0, .int 0]))] : va_W) ++ (wA cI r7 100 (fun _ => 0))) := hD
  refine lv_aload_n hx hb (dAt zX6_init_0 6 rfl) rfl (lv_at hl 0 rfl) ?_
  refine lv_bipush (v := 100) hx hb (dAt zX6_init_0 7 rfl) (by decide) ?_
  refine xNewI (n := 100) (N' := 100) (hbig := by decide) hx hb (htl _ W_44) hK hP hD hS hA (by decide) (by decide) (Nat.le_of_ble_eq_true rfl) (Nat.le_of_ble_eq_true rfl) (dAt zX6_init_0 8 rfl) (fun r15 H hP hD hS => ?_)
  have hP : va_P D vwCl (([(b0, .inr (6, [.int 0, .int 0, .int 0, .ref r7, .null, .null, .null, .null, .int 0, .null, .int 0, .null, .null, .null, .int 0, .int 0, .int 0, .int 0, .null, .int 0, .int 0, .int 0, .int 0, .int 0, .null, .null, .null, .null, .null, .null, .int 0, .int 0]))] : va_W) ++ (wA cI r7 100 (fun _ => 0) ++ (wA cI r15 100 (fun _ => 0)))) H := hP
  have hD : va_D A (([(b0, .inr (6, [.int 0, .int 0, .int 0, .ref r7, .null, .null, .null, .null, .int 0, .null, .int 0, .null, .null, .null, .int 0, .int 0, .int 0, .int 0, .null, .int 0, .int 0, .int 0, .int 0, .int 0, .null, .null, .null, .null, .null, .null, .int 0, .int 0]))] : va_W) ++ (wA cI r7 100 (fun _ => 0) ++ (wA cI r15 100 (fun _ => 0)))) := hD
  refine W.widen (k := 2) (n := 200) (by omega) (by omega) ?_
  refine va_putF (D := D) (ci := 6) (v := .ref r15) (ty := (.array .int)) (C := RX6) (T := TX6) (N := 32) hx hb htl inlX6 tyX6 tyX6_ok nmX6 hown hK hP hD hS 0 rfl rfl 4 (by decide) (htl _ W_86) (fun _ h9 => h9) rfl hin rfl (by decide +kernel) rfl rfl (Nat.le_of_ble_eq_true rfl) (dAt zX6_init_0 9 rfl) (fun H locs hP hD hS => ?_)
  have hP : va_P D vwCl (([(b0, .inr (6, [.int 0, .int 0, .int 0, .ref r7, .ref r15, .null, .null, .null, .int 0, .null, .int 0, .null, .null, .null, .int 0, .int 0, .int 0, .int 0, .null, .int 0, .int 0, .int 0, .int 0, .int 0, .null, .null, .null, .null, .null, .null, .int 0, .int 0]))] : va_W) ++ (wA cI r7 100 (fun _ => 0) ++ (wA cI r15 100 (fun _ => 0)))) H := hP
  have hD : va_D A (([(b0, .inr (6, [.int 0, .int 0, .int 0, .ref r7, .ref r15, .null, .null, .null, .int 0, .null, .int 0, .null, .null, .null, .int 0, .int 0, .int 0, .int 0, .null, .int 0, .int 0, .int 0, .int 0, .int 0, .null, .null, .null, .null, .null, .null, .int 0, .int 0]))] : va_W) ++ (wA cI r7 100 (fun _ => 0) ++ (wA cI r15 100 (fun _ => 0)))) := hD
  refine lv_aload_n hx hb (dAt zX6_init_0 10 rfl) rfl (lv_at hl 0 rfl) ?_
  refine lv_iconst (v := 4) hx hb (dAt zX6_init_0 11 rfl) (by decide) ?_
  refine xNewI (n := 4) (N' := 4) (hbig := by decide) hx hb (htl _ W_44) hK hP hD hS hA (by decide) (by decide) (Nat.le_of_ble_eq_true rfl) (Nat.le_of_ble_eq_true rfl) (dAt zX6_init_0 12 rfl) (fun r22 H hP hD hS => ?_)
  have hP : va_P D vwCl (([(b0, .inr (6, [.int 0, .int 0, .int 0, .ref r7, .ref r15, .null, .null, .null, .int 0, .null, .int 0, .null, .null, .null, .int 0, .int 0, .int 0, .int 0, .null, .int 0, .int 0, .int 0, .int 0, .int 0, .null, .null, .null, .null, .null, .null, .int 0, .int 0]))] : va_W) ++ (wA cI r7 100 (fun _ => 0) ++ (wA cI r15 100 (fun _ => 0) ++ (wA cI r22 4 (fun _ => 0))))) H := hP
  have hD : va_D A (([(b0, .inr (6, [.int 0, .int 0, .int 0, .ref r7, .ref r15, .null, .null, .null, .int 0, .null, .int 0, .null, .null, .null, .int 0, .int 0, .int 0, .int 0, .null, .int 0, .int 0, .int 0, .int 0, .int 0, .null, .null, .null, .null, .null, .null, .int 0, .int 0]))] : va_W) ++ (wA cI r7 100 (fun _ => 0) ++ (wA cI r15 100 (fun _ => 0) ++ (wA cI r22 4 (fun _ => 0))))) := hD
  refine W.widen (k := 3) (n := 204) (by omega) (by omega) ?_
  refine va_putF (D := D) (ci := 6) (v := .ref r22) (ty := (.array .int)) (C := RX6) (T := TX6) (N := 32) hx hb htl inlX6 tyX6 tyX6_ok nmX6 hown hK hP hD hS 0 rfl rfl 5 (by decide) (htl _ W_87) (fun _ h9 => h9) rfl hin rfl (by decide +kernel) rfl rfl (Nat.le_of_ble_eq_true rfl) (dAt zX6_init_0 13 rfl) (fun H locs hP hD hS => ?_)
  have hP : va_P D vwCl (([(b0, .inr (6, [.int 0, .int 0, .int 0, .ref r7, .ref r15, .ref r22, .null, .null, .int 0, .null, .int 0, .null, .null, .null, .int 0, .int 0, .int 0, .int 0, .null, .int 0, .int 0, .int 0, .int 0, .int 0, .null, .null, .null, .null, .null, .null, .int 0, .int 0]))] : va_W) ++ (wA cI r7 100 (fun _ => 0) ++ (wA cI r15 100 (fun _ => 0) ++ (wA cI r22 4 (fun _ => 0))))) H := hP
  have hD : va_D A (([(b0, .inr (6, [.int 0, .int 0, .int 0, .ref r7, .ref r15, .ref r22, .null, .null, .int 0, .null, .int 0, .null, .null, .null, .int 0, .int 0, .int 0, .int 0, .null, .int 0, .int 0, .int 0, .int 0, .int 0, .null, .null, .null, .null, .null, .null, .int 0, .int 0]))] : va_W) ++ (wA cI r7 100 (fun _ => 0) ++ (wA cI r15 100 (fun _ => 0) ++ (wA cI r22 4 (fun _ => 0))))) := hD
  refine lv_aload_n hx hb (dAt zX6_init_0 14 rfl) rfl (lv_at hl 0 rfl) ?_
  refine lv_bipush (v := 8) hx hb (dAt zX6_init_0 15 rfl) (by decide) ?_
  refine xNewI (n := 8) (N' := 8) (hbig := by decide) hx hb (htl _ W_44) hK hP hD hS hA (by decide) (by decide) (Nat.le_of_ble_eq_true rfl) (Nat.le_of_ble_eq_true rfl) (dAt zX6_init_0 16 rfl) (fun r30 H hP hD hS => ?_)
  have hP : va_P D vwCl (([(b0, .inr (6, [.int 0, .int 0, .int 0, .ref r7, .ref r15, .ref r22, .null, .null, .int 0, .null, .int 0, .null, .null, .null, .int 0, .int 0, .int 0, .int 0, .null, .int 0, .int 0, .int 0, .int 0, .int 0, .null, .null, .null, .null, .null, .null, .int 0, .int 0]))] : va_W) ++ (wA cI r7 100 (fun _ => 0) ++ (wA cI r15 100 (fun _ => 0) ++ (wA cI r22 4 (fun _ => 0) ++ (wA cI r30 8 (fun _ => 0)))))) H := hP
  have hD : va_D A (([(b0, .inr (6, [.int 0, .int 0, .int 0, .ref r7, .ref r15, .ref r22, .null, .null, .int 0, .null, .int 0, .null, .null, .null, .int 0, .int 0, .int 0, .int 0, .null, .int 0, .int 0, .int 0, .int 0, .int 0, .null, .null, .null, .null, .null, .null, .int 0, .int 0]))] : va_W) ++ (wA cI r7 100 (fun _ => 0) ++ (wA cI r15 100 (fun _ => 0) ++ (wA cI r22 4 (fun _ => 0) ++ (wA cI r30 8 (fun _ => 0)))))) := hD
  refine W.widen (k := 4) (n := 212) (by omega) (by omega) ?_
  refine va_putF (D := D) (ci := 6) (v := .ref r30) (ty := (.array .int)) (C := RX6) (T := TX6) (N := 32) hx hb htl inlX6 tyX6 tyX6_ok nmX6 hown hK hP hD hS 0 rfl rfl 6 (by decide) (htl _ W_88) (fun _ h9 => h9) rfl hin rfl (by decide +kernel) rfl rfl (Nat.le_of_ble_eq_true rfl) (dAt zX6_init_0 17 rfl) (fun H locs hP hD hS => ?_)
  have hP : va_P D vwCl (([(b0, .inr (6, [.int 0, .int 0, .int 0, .ref r7, .ref r15, .ref r22, .ref r30, .null, .int 0, .null, .int 0, .null, .null, .null, .int 0, .int 0, .int 0, .int 0, .null, .int 0, .int 0, .int 0, .int 0, .int 0, .null, .null, .null, .null, .null, .null, .int 0, .int 0]))] : va_W) ++ (wA cI r7 100 (fun _ => 0) ++ (wA cI r15 100 (fun _ => 0) ++ (wA cI r22 4 (fun _ => 0) ++ (wA cI r30 8 (fun _ => 0)))))) H := hP
  have hD : va_D A (([(b0, .inr (6, [.int 0, .int 0, .int 0, .ref r7, .ref r15, .ref r22, .ref r30, .null, .int 0, .null, .int 0, .null, .null, .null, .int 0, .int 0, .int 0, .int 0, .null, .int 0, .int 0, .int 0, .int 0, .int 0, .null, .null, .null, .null, .null, .null, .int 0, .int 0]))] : va_W) ++ (wA cI r7 100 (fun _ => 0) ++ (wA cI r15 100 (fun _ => 0) ++ (wA cI r22 4 (fun _ => 0) ++ (wA cI r30 8 (fun _ => 0)))))) := hD
  refine lv_aload_n hx hb (dAt zX6_init_0 18 rfl) rfl (lv_at hl 0 rfl) ?_
  refine lv_bipush (v := 8) hx hb (dAt zX6_init_0 19 rfl) (by decide) ?_
  refine xNewI (n := 8) (N' := 8) (hbig := by decide) hx hb (htl _ W_44) hK hP hD hS hA (by decide) (by decide) (Nat.le_of_ble_eq_true rfl) (Nat.le_of_ble_eq_true rfl) (dAt zX6_init_0 20 rfl) (fun r38 H hP hD hS => ?_)
  have hP : va_P D vwCl (([(b0, .inr (6, [.int 0, .int 0, .int 0, .ref r7, .ref r15, .ref r22, .ref r30, .null, .int 0, .null, .int 0, .null, .null, .null, .int 0, .int 0, .int 0, .int 0, .null, .int 0, .int 0, .int 0, .int 0, .int 0, .null, .null, .null, .null, .null, .null, .int 0, .int 0]))] : va_W) ++ (wA cI r7 100 (fun _ => 0) ++ (wA cI r15 100 (fun _ => 0) ++ (wA cI r22 4 (fun _ => 0) ++ (wA cI r30 8 (fun _ => 0) ++ (wA cI r38 8 (fun _ => 0))))))) H := hP
  have hD : va_D A (([(b0, .inr (6, [.int 0, .int 0, .int 0, .ref r7, .ref r15, .ref r22, .ref r30, .null, .int 0, .null, .int 0, .null, .null, .null, .int 0, .int 0, .int 0, .int 0, .null, .int 0, .int 0, .int 0, .int 0, .int 0, .null, .null, .null, .null, .null, .null, .int 0, .int 0]))] : va_W) ++ (wA cI r7 100 (fun _ => 0) ++ (wA cI r15 100 (fun _ => 0) ++ (wA cI r22 4 (fun _ => 0) ++ (wA cI r30 8 (fun _ => 0) ++ (wA cI r38 8 (fun _ => 0))))))) := hD
  refine W.widen (k := 5) (n := 220) (by omega) (by omega) ?_
  refine va_putF (D := D) (ci := 6) (v := .ref r38) (ty := (.array .int)) (C := RX6) (T := TX6) (N := 32) hx hb htl inlX6 tyX6 tyX6_ok nmX6 hown hK hP hD hS 0 rfl rfl 7 (by decide) (htl _ W_89) (fun _ h9 => h9) rfl hin rfl (by decide +kernel) rfl rfl (Nat.le_of_ble_eq_true rfl) (dAt zX6_init_0 21 rfl) (fun H locs hP hD hS => ?_)
  have hP : va_P D vwCl (([(b0, .inr (6, [.int 0, .int 0, .int 0, .ref r7, .ref r15, .ref r22, .ref r30, .ref r38, .int 0, .null, .int 0, .null, .null, .null, .int 0, .int 0, .int 0, .int 0, .null, .int 0, .int 0, .int 0, .int 0, .int 0, .null, .null, .null, .null, .null, .null, .int 0, .int 0]))] : va_W) ++ (wA cI r7 100 (fun _ => 0) ++ (wA cI r15 100 (fun _ => 0) ++ (wA cI r22 4 (fun _ => 0) ++ (wA cI r30 8 (fun _ => 0) ++ (wA cI r38 8 (fun _ => 0))))))) H := hP
  have hD : va_D A (([(b0, .inr (6, [.int 0, .int 0, .int 0, .ref r7, .ref r15, .ref r22, .ref r30, .ref r38, .int 0, .null, .int 0, .null, .null, .null, .int 0, .int 0, .int 0, .int 0, .null, .int 0, .int 0, .int 0, .int 0, .int 0, .null, .null, .null, .null, .null, .null, .int 0, .int 0]))] : va_W) ++ (wA cI r7 100 (fun _ => 0) ++ (wA cI r15 100 (fun _ => 0) ++ (wA cI r22 4 (fun _ => 0) ++ (wA cI r30 8 (fun _ => 0) ++ (wA cI r38 8 (fun _ => 0))))))) := hD
  refine lv_aload_n hx hb (dAt zX6_init_0 22 rfl) rfl (lv_at hl 0 rfl) ?_
  refine lv_bipush (v := 60) hx hb (dAt zX6_init_0 23 rfl) (by decide) ?_
  refine xNewI (n := 60) (N' := 60) (hbig := by decide) hx hb (htl _ W_44) hK hP hD hS hA (by decide) (by decide) (Nat.le_of_ble_eq_true rfl) (Nat.le_of_ble_eq_true rfl) (dAt zX6_init_0 24 rfl) (fun r46 H hP hD hS => ?_)
  have hP : va_P D vwCl (([(b0, .inr (6, [.int 0, .int 0, .int 0, .ref r7, .ref r15, .ref r22, .ref r30, .ref r38, .int 0, .null, .int 0, .null, .null, .null, .int 0, .int 0, .int 0, .int 0, .null, .int 0, .int 0, .int 0, .int 0, .int 0, .null, .null, .null, .null, .null, .null, .int 0, .int 0]))] : va_W) ++ (wA cI r7 100 (fun _ => 0) ++ (wA cI r15 100 (fun _ => 0) ++ (wA cI r22 4 (fun _ => 0) ++ (wA cI r30 8 (fun _ => 0) ++ (wA cI r38 8 (fun _ => 0) ++ (wA cI r46 60 (fun _ => 0)))))))) H := hP
  have hD : va_D A (([(b0, .inr (6, [.int 0, .int 0, .int 0, .ref r7, .ref r15, .ref r22, .ref r30, .ref r38, .int 0, .null, .int 0, .null, .null, .null, .int 0, .int 0, .int 0, .int 0, .null, .int 0, .int 0, .int 0, .int 0, .int 0, .null, .null, .null, .null, .null, .null, .int 0, .int 0]))] : va_W) ++ (wA cI r7 100 (fun _ => 0) ++ (wA cI r15 100 (fun _ => 0) ++ (wA cI r22 4 (fun _ => 0) ++ (wA cI r30 8 (fun _ => 0) ++ (wA cI r38 8 (fun _ => 0) ++ (wA cI r46 60 (fun _ => 0)))))))) := hD
  refine W.widen (k := 6) (n := 280) (by omega) (by omega) ?_
  refine va_putF (D := D) (ci := 6) (v := .ref r46) (ty := (.array .int)) (C := RX6) (T := TX6) (N := 32) hx hb htl inlX6 tyX6 tyX6_ok nmX6 hown hK hP hD hS 0 rfl rfl 9 (by decide) (htl _ W_90) (fun _ h9 => h9) rfl hin rfl (by decide +kernel) rfl rfl (Nat.le_of_ble_eq_true rfl) (dAt zX6_init_0 25 rfl) (fun H locs hP hD hS => ?_)
  have hP : va_P D vwCl (([(b0, .inr (6, [.int 0, .int 0, .int 0, .ref r7, .ref r15, .ref r22, .ref r30, .ref r38, .int 0, .ref r46, .int 0, .null, .null, .null, .int 0, .int 0, .int 0, .int 0, .null, .int 0, .int 0, .int 0, .int 0, .int 0, .null, .null, .null, .null, .null, .null, .int 0, .int 0]))] : va_W) ++ (wA cI r7 100 (fun _ => 0) ++ (wA cI r15 100 (fun _ => 0) ++ (wA cI r22 4 (fun _ => 0) ++ (wA cI r30 8 (fun _ => 0) ++ (wA cI r38 8 (fun _ => 0) ++ (wA cI r46 60 (fun _ => 0)))))))) H := hP
  have hD : va_D A (([(b0, .inr (6, [.int 0, .int 0, .int 0, .ref r7, .ref r15, .ref r22, .ref r30, .ref r38, .int 0, .ref r46, .int 0, .null, .null, .null, .int 0, .int 0, .int 0, .int 0, .null, .int 0, .int 0, .int 0, .int 0, .int 0, .null, .null, .null, .null, .null, .null, .int 0, .int 0]))] : va_W) ++ (wA cI r7 100 (fun _ => 0) ++ (wA cI r15 100 (fun _ => 0) ++ (wA cI r22 4 (fun _ => 0) ++ (wA cI r30 8 (fun _ => 0) ++ (wA cI r38 8 (fun _ => 0) ++ (wA cI r46 60 (fun _ => 0)))))))) := hD
  refine lv_aload_n hx hb (dAt zX6_init_0 26 rfl) rfl (lv_at hl 0 rfl) ?_
  refine lv_bipush (v := 60) hx hb (dAt zX6_init_0 27 rfl) (by decide) ?_
  refine xNewI (n := 60) (N' := 60) (hbig := by decide) hx hb (htl _ W_44) hK hP hD hS hA (by decide) (by decide) (Nat.le_of_ble_eq_true rfl) (Nat.le_of_ble_eq_true rfl) (dAt zX6_init_0 28 rfl) (fun r54 H hP hD hS => ?_)
  have hP : va_P D vwCl (([(b0, .inr (6, [.int 0, .int 0, .int 0, .ref r7, .ref r15, .ref r22, .ref r30, .ref r38, .int 0, .ref r46, .int 0, .null, .null, .null, .int 0, .int 0, .int 0, .int 0, .null, .int 0, .int 0, .int 0, .int 0, .int 0, .null, .null, .null, .null, .null, .null, .int 0, .int 0]))] : va_W) ++ (wA cI r7 100 (fun _ => 0) ++ (wA cI r15 100 (fun _ => 0) ++ (wA cI r22 4 (fun _ => 0) ++ (wA cI r30 8 (fun _ => 0) ++ (wA cI r38 8 (fun _ => 0) ++ (wA cI r46 60 (fun _ => 0) ++ (wA cI r54 60 (fun _ => 0))))))))) H := hP
  have hD : va_D A (([(b0, .inr (6, [.int 0, .int 0, .int 0, .ref r7, .ref r15, .ref r22, .ref r30, .ref r38, .int 0, .ref r46, .int 0, .null, .null, .null, .int 0, .int 0, .int 0, .int 0, .null, .int 0, .int 0, .int 0, .int 0, .int 0, .null, .null, .null, .null, .null, .null, .int 0, .int 0]))] : va_W) ++ (wA cI r7 100 (fun _ => 0) ++ (wA cI r15 100 (fun _ => 0) ++ (wA cI r22 4 (fun _ => 0) ++ (wA cI r30 8 (fun _ => 0) ++ (wA cI r38 8 (fun _ => 0) ++ (wA cI r46 60 (fun _ => 0) ++ (wA cI r54 60 (fun _ => 0))))))))) := hD
  refine W.widen (k := 7) (n := 340) (by omega) (by omega) ?_
  refine va_putF (D := D) (ci := 6) (v := .ref r54) (ty := (.array .int)) (C := RX6) (T := TX6) (N := 32) hx hb htl inlX6 tyX6 tyX6_ok nmX6 hown hK hP hD hS 0 rfl rfl 11 (by decide) (htl _ W_91) (fun _ h9 => h9) rfl hin rfl (by decide +kernel) rfl rfl (Nat.le_of_ble_eq_true rfl) (dAt zX6_init_0 29 rfl) (fun H locs hP hD hS => ?_)
  have hP : va_P D vwCl (([(b0, .inr (6, [.int 0, .int 0, .int 0, .ref r7, .ref r15, .ref r22, .ref r30, .ref r38, .int 0, .ref r46, .int 0, .ref r54, .null, .null, .int 0, .int 0, .int 0, .int 0, .null, .int 0, .int 0, .int 0, .int 0, .int 0, .null, .null, .null, .null, .null, .null, .int 0, .int 0]))] : va_W) ++ (wA cI r7 100 (fun _ => 0) ++ (wA cI r15 100 (fun _ => 0) ++ (wA cI r22 4 (fun _ => 0) ++ (wA cI r30 8 (fun _ => 0) ++ (wA cI r38 8 (fun _ => 0) ++ (wA cI r46 60 (fun _ => 0) ++ (wA cI r54 60 (fun _ => 0))))))))) H := hP
  have hD : va_D A (([(b0, .inr (6, [.int 0, .int 0, .int 0, .ref r7, .ref r15, .ref r22, .ref r30, .ref r38, .int 0, .ref r46, .int 0, .ref r54, .null, .null, .int 0, .int 0, .int 0, .int 0, .null, .int 0, .int 0, .int 0, .int 0, .int 0, .null, .null, .null, .null, .null, .null, .int 0, .int 0]))] : va_W) ++ (wA cI r7 100 (fun _ => 0) ++ (wA cI r15 100 (fun _ => 0) ++ (wA cI r22 4 (fun _ => 0) ++ (wA cI r30 8 (fun _ => 0) ++ (wA cI r38 8 (fun _ => 0) ++ (wA cI r46 60 (fun _ => 0) ++ (wA cI r54 60 (fun _ => 0))))))))) := hD
  refine lv_aload_n hx hb (dAt zX6_init_0 30 rfl) rfl (lv_at hl 0 rfl) ?_
  refine lv_bipush (v := 60) hx hb (dAt zX6_init_0 31 rfl) (by decide) ?_
  refine xNewI (n := 60) (N' := 60) (hbig := by decide) hx hb (htl _ W_44) hK hP hD hS hA (by decide) (by decide) (Nat.le_of_ble_eq_true rfl) (Nat.le_of_ble_eq_true rfl) (dAt zX6_init_0 32 rfl) (fun r62 H hP hD hS => ?_)
  have hP : va_P D vwCl (([(b0, .inr (6, [.int 0, .int 0, .int 0, .ref r7, .ref r15, .ref r22, .ref r30, .ref r38, .int 0, .ref r46, .int 0, .ref r54, .null, .null, .int 0, .int 0, .int 0, .int 0, .null, .int 0, .int 0, .int 0, .int 0, .int 0, .null, .null, .null, .null, .null, .null, .int 0, .int 0]))] : va_W) ++ (wA cI r7 100 (fun _ => 0) ++ (wA cI r15 100 (fun _ => 0) ++ (wA cI r22 4 (fun _ => 0) ++ (wA cI r30 8 (fun _ => 0) ++ (wA cI r38 8 (fun _ => 0) ++ (wA cI r46 60 (fun _ => 0) ++ (wA cI r54 60 (fun _ => 0) ++ (wA cI r62 60 (fun _ => 0)))))))))) H := hP
  have hD : va_D A (([(b0, .inr (6, [.int 0, .int 0, .int 0, .ref r7, .ref r15, .ref r22, .ref r30, .ref r38, .int 0, .ref r46, .int 0, .ref r54, .null, .null, .int 0, .int 0, .int 0, .int 0, .null, .int 0, .int 0, .int 0, .int 0, .int 0, .null, .null, .null, .null, .null, .null, .int 0, .int 0]))] : va_W) ++ (wA cI r7 100 (fun _ => 0) ++ (wA cI r15 100 (fun _ => 0) ++ (wA cI r22 4 (fun _ => 0) ++ (wA cI r30 8 (fun _ => 0) ++ (wA cI r38 8 (fun _ => 0) ++ (wA cI r46 60 (fun _ => 0) ++ (wA cI r54 60 (fun _ => 0) ++ (wA cI r62 60 (fun _ => 0)))))))))) := hD
  refine W.widen (k := 8) (n := 400) (by omega) (by omega) ?_
  refine va_putF (D := D) (ci := 6) (v := .ref r62) (ty := (.array .int)) (C := RX6) (T := TX6) (N := 32) hx hb htl inlX6 tyX6 tyX6_ok nmX6 hown hK hP hD hS 0 rfl rfl 12 (by decide) (htl _ W_92) (fun _ h9 => h9) rfl hin rfl (by decide +kernel) rfl rfl (Nat.le_of_ble_eq_true rfl) (dAt zX6_init_0 33 rfl) (fun H locs hP hD hS => ?_)
  have hP : va_P D vwCl (([(b0, .inr (6, [.int 0, .int 0, .int 0, .ref r7, .ref r15, .ref r22, .ref r30, .ref r38, .int 0, .ref r46, .int 0, .ref r54, .ref r62, .null, .int 0, .int 0, .int 0, .int 0, .null, .int 0, .int 0, .int 0, .int 0, .int 0, .null, .null, .null, .null, .null, .null, .int 0, .int 0]))] : va_W) ++ (wA cI r7 100 (fun _ => 0) ++ (wA cI r15 100 (fun _ => 0) ++ (wA cI r22 4 (fun _ => 0) ++ (wA cI r30 8 (fun _ => 0) ++ (wA cI r38 8 (fun _ => 0) ++ (wA cI r46 60 (fun _ => 0) ++ (wA cI r54 60 (fun _ => 0) ++ (wA cI r62 60 (fun _ => 0)))))))))) H := hP
  have hD : va_D A (([(b0, .inr (6, [.int 0, .int 0, .int 0, .ref r7, .ref r15, .ref r22, .ref r30, .ref r38, .int 0, .ref r46, .int 0, .ref r54, .ref r62, .null, .int 0, .int 0, .int 0, .int 0, .null, .int 0, .int 0, .int 0, .int 0, .int 0, .null, .null, .null, .null, .null, .null, .int 0, .int 0]))] : va_W) ++ (wA cI r7 100 (fun _ => 0) ++ (wA cI r15 100 (fun _ => 0) ++ (wA cI r22 4 (fun _ => 0) ++ (wA cI r30 8 (fun _ => 0) ++ (wA cI r38 8 (fun _ => 0) ++ (wA cI r46 60 (fun _ => 0) ++ (wA cI r54 60 (fun _ => 0) ++ (wA cI r62 60 (fun _ => 0)))))))))) := hD
  refine lv_aload_n hx hb (dAt zX6_init_0 34 rfl) rfl (lv_at hl 0 rfl) ?_
  refine lv_bipush (v := 60) hx hb (dAt zX6_init_0 35 rfl) (by decide) ?_
  refine xNewI (n := 60) (N' := 60) (hbig := by decide) hx hb (htl _ W_44) hK hP hD hS hA (by decide) (by decide) (Nat.le_of_ble_eq_true rfl) (Nat.le_of_ble_eq_true rfl) (dAt zX6_init_0 36 rfl) (fun r70 H hP hD hS => ?_)
  have hP : va_P D vwCl (([(b0, .inr (6, [.int 0, .int 0, .int 0, .ref r7, .ref r15, .ref r22, .ref r30, .ref r38, .int 0, .ref r46, .int 0, .ref r54, .ref r62, .null, .int 0, .int 0, .int 0, .int 0, .null, .int 0, .int 0, .int 0, .int 0, .int 0, .null, .null, .null, .null, .null, .null, .int 0, .int 0]))] : va_W) ++ (wA cI r7 100 (fun _ => 0) ++ (wA cI r15 100 (fun _ => 0) ++ (wA cI r22 4 (fun _ => 0) ++ (wA cI r30 8 (fun _ => 0) ++ (wA cI r38 8 (fun _ => 0) ++ (wA cI r46 60 (fun _ => 0) ++ (wA cI r54 60 (fun _ => 0) ++ (wA cI r62 60 (fun _ => 0) ++ (wA cI r70 60 (fun _ => 0))))))))))) H := hP
  have hD : va_D A (([(b0, .inr (6, [.int 0, .int 0, .int 0, .ref r7, .ref r15, .ref r22, .ref r30, .ref r38, .int 0, .ref r46, .int 0, .ref r54, .ref r62, .null, .int 0, .int 0, .int 0, .int 0, .null, .int 0, .int 0, .int 0, .int 0, .int 0, .null, .null, .null, .null, .null, .null, .int 0, .int 0]))] : va_W) ++ (wA cI r7 100 (fun _ => 0) ++ (wA cI r15 100 (fun _ => 0) ++ (wA cI r22 4 (fun _ => 0) ++ (wA cI r30 8 (fun _ => 0) ++ (wA cI r38 8 (fun _ => 0) ++ (wA cI r46 60 (fun _ => 0) ++ (wA cI r54 60 (fun _ => 0) ++ (wA cI r62 60 (fun _ => 0) ++ (wA cI r70 60 (fun _ => 0))))))))))) := hD
  refine W.widen (k := 9) (n := 460) (by omega) (by omega) ?_
  refine va_putF (D := D) (ci := 6) (v := .ref r70) (ty := (.array .int)) (C := RX6) (T := TX6) (N := 32) hx hb htl inlX6 tyX6 tyX6_ok nmX6 hown hK hP hD hS 0 rfl rfl 13 (by decide) (htl _ W_93) (fun _ h9 => h9) rfl hin rfl (by decide +kernel) rfl rfl (Nat.le_of_ble_eq_true rfl) (dAt zX6_init_0 37 rfl) (fun H locs hP hD hS => ?_)
  have hP : va_P D vwCl (([(b0, .inr (6, [.int 0, .int 0, .int 0, .ref r7, .ref r15, .ref r22, .ref r30, .ref r38, .int 0, .ref r46, .int 0, .ref r54, .ref r62, .ref r70, .int 0, .int 0, .int 0, .int 0, .null, .int 0, .int 0, .int 0, .int 0, .int 0, .null, .null, .null, .null, .null, .null, .int 0, .int 0]))] : va_W) ++ (wA cI r7 100 (fun _ => 0) ++ (wA cI r15 100 (fun _ => 0) ++ (wA cI r22 4 (fun _ => 0) ++ (wA cI r30 8 (fun _ => 0) ++ (wA cI r38 8 (fun _ => 0) ++ (wA cI r46 60 (fun _ => 0) ++ (wA cI r54 60 (fun _ => 0) ++ (wA cI r62 60 (fun _ => 0) ++ (wA cI r70 60 (fun _ => 0))))))))))) H := hP
  have hD : va_D A (([(b0, .inr (6, [.int 0, .int 0, .int 0, .ref r7, .ref r15, .ref r22, .ref r30, .ref r38, .int 0, .ref r46, .int 0, .ref r54, .ref r62, .ref r70, .int 0, .int 0, .int 0, .int 0, .null, .int 0, .int 0, .int 0, .int 0, .int 0, .null, .null, .null, .null, .null, .null, .int 0, .int 0]))] : va_W) ++ (wA cI r7 100 (fun _ => 0) ++ (wA cI r15 100 (fun _ => 0) ++ (wA cI r22 4 (fun _ => 0) ++ (wA cI r30 8 (fun _ => 0) ++ (wA cI r38 8 (fun _ => 0) ++ (wA cI r46 60 (fun _ => 0) ++ (wA cI r54 60 (fun _ => 0) ++ (wA cI r62 60 (fun _ => 0) ++ (wA cI r70 60 (fun _ => 0))))))))))) := hD
  refine lv_aload_n hx hb (dAt zX6_init_0 38 rfl) rfl (lv_at hl 0 rfl) ?_
  refine lv_sipush (v := 203) hx hb (dAt zX6_init_0 39 rfl) (by decide) ?_
  refine xNewI (n := 203) (N' := 203) (hbig := by decide) hx hb (htl _ W_44) hK hP hD hS hA (by decide) (by decide) (Nat.le_of_ble_eq_true rfl) (Nat.le_of_ble_eq_true rfl) (dAt zX6_init_0 40 rfl) (fun r79 H hP hD hS => ?_)
  have hP : va_P D vwCl (([(b0, .inr (6, [.int 0, .int 0, .int 0, .ref r7, .ref r15, .ref r22, .ref r30, .ref r38, .int 0, .ref r46, .int 0, .ref r54, .ref r62, .ref r70, .int 0, .int 0, .int 0, .int 0, .null, .int 0, .int 0, .int 0, .int 0, .int 0, .null, .null, .null, .null, .null, .null, .int 0, .int 0]))] : va_W) ++ (wA cI r7 100 (fun _ => 0) ++ (wA cI r15 100 (fun _ => 0) ++ (wA cI r22 4 (fun _ => 0) ++ (wA cI r30 8 (fun _ => 0) ++ (wA cI r38 8 (fun _ => 0) ++ (wA cI r46 60 (fun _ => 0) ++ (wA cI r54 60 (fun _ => 0) ++ (wA cI r62 60 (fun _ => 0) ++ (wA cI r70 60 (fun _ => 0) ++ (wA cI r79 203 (fun _ => 0)))))))))))) H := hP
  have hD : va_D A (([(b0, .inr (6, [.int 0, .int 0, .int 0, .ref r7, .ref r15, .ref r22, .ref r30, .ref r38, .int 0, .ref r46, .int 0, .ref r54, .ref r62, .ref r70, .int 0, .int 0, .int 0, .int 0, .null, .int 0, .int 0, .int 0, .int 0, .int 0, .null, .null, .null, .null, .null, .null, .int 0, .int 0]))] : va_W) ++ (wA cI r7 100 (fun _ => 0) ++ (wA cI r15 100 (fun _ => 0) ++ (wA cI r22 4 (fun _ => 0) ++ (wA cI r30 8 (fun _ => 0) ++ (wA cI r38 8 (fun _ => 0) ++ (wA cI r46 60 (fun _ => 0) ++ (wA cI r54 60 (fun _ => 0) ++ (wA cI r62 60 (fun _ => 0) ++ (wA cI r70 60 (fun _ => 0) ++ (wA cI r79 203 (fun _ => 0)))))))))))) := hD
  refine W.widen (k := 10) (n := 663) (by omega) (by omega) ?_
  refine va_putF (D := D) (ci := 6) (v := .ref r79) (ty := (.array .int)) (C := RX6) (T := TX6) (N := 32) hx hb htl inlX6 tyX6 tyX6_ok nmX6 hown hK hP hD hS 0 rfl rfl 18 (by decide) (htl _ W_94) (fun _ h9 => h9) rfl hin rfl (by decide +kernel) rfl rfl (Nat.le_of_ble_eq_true rfl) (dAt zX6_init_0 41 rfl) (fun H locs hP hD hS => ?_)
  have hP : va_P D vwCl (([(b0, .inr (6, [.int 0, .int 0, .int 0, .ref r7, .ref r15, .ref r22, .ref r30, .ref r38, .int 0, .ref r46, .int 0, .ref r54, .ref r62, .ref r70, .int 0, .int 0, .int 0, .int 0, .ref r79, .int 0, .int 0, .int 0, .int 0, .int 0, .null, .null, .null, .null, .null, .null, .int 0, .int 0]))] : va_W) ++ (wA cI r7 100 (fun _ => 0) ++ (wA cI r15 100 (fun _ => 0) ++ (wA cI r22 4 (fun _ => 0) ++ (wA cI r30 8 (fun _ => 0) ++ (wA cI r38 8 (fun _ => 0) ++ (wA cI r46 60 (fun _ => 0) ++ (wA cI r54 60 (fun _ => 0) ++ (wA cI r62 60 (fun _ => 0) ++ (wA cI r70 60 (fun _ => 0) ++ (wA cI r79 203 (fun _ => 0)))))))))))) H := hP
  have hD : va_D A (([(b0, .inr (6, [.int 0, .int 0, .int 0, .ref r7, .ref r15, .ref r22, .ref r30, .ref r38, .int 0, .ref r46, .int 0, .ref r54, .ref r62, .ref r70, .int 0, .int 0, .int 0, .int 0, .ref r79, .int 0, .int 0, .int 0, .int 0, .int 0, .null, .null, .null, .null, .null, .null, .int 0, .int 0]))] : va_W) ++ (wA cI r7 100 (fun _ => 0) ++ (wA cI r15 100 (fun _ => 0) ++ (wA cI r22 4 (fun _ => 0) ++ (wA cI r30 8 (fun _ => 0) ++ (wA cI r38 8 (fun _ => 0) ++ (wA cI r46 60 (fun _ => 0) ++ (wA cI r54 60 (fun _ => 0) ++ (wA cI r62 60 (fun _ => 0) ++ (wA cI r70 60 (fun _ => 0) ++ (wA cI r79 203 (fun _ => 0)))))))))))) := hD
  refine lv_aload_n hx hb (dAt zX6_init_0 42 rfl) rfl (lv_at hl 0 rfl) ?_
  refine lv_bipush (v := 6) hx hb (dAt zX6_init_0 43 rfl) (by decide) ?_
  refine xNewI (n := 6) (N' := 6) (hbig := by decide) hx hb (htl _ W_44) hK hP hD hS hA (by decide) (by decide) (Nat.le_of_ble_eq_true rfl) (Nat.le_of_ble_eq_true rfl) (dAt zX6_init_0 44 rfl) (fun r87 H hP hD hS => ?_)
  have hP : va_P D vwCl (([(b0, .inr (6, [.int 0, .int 0, .int 0, .ref r7, .ref r15, .ref r22, .ref r30, .ref r38, .int 0, .ref r46, .int 0, .ref r54, .ref r62, .ref r70, .int 0, .int 0, .int 0, .int 0, .ref r79, .int 0, .int 0, .int 0, .int 0, .int 0, .null, .null, .null, .null, .null, .null, .int 0, .int 0]))] : va_W) ++ (wA cI r7 100 (fun _ => 0) ++ (wA cI r15 100 (fun _ => 0) ++ (wA cI r22 4 (fun _ => 0) ++ (wA cI r30 8 (fun _ => 0) ++ (wA cI r38 8 (fun _ => 0) ++ (wA cI r46 60 (fun _ => 0) ++ (wA cI r54 60 (fun _ => 0) ++ (wA cI r62 60 (fun _ => 0) ++ (wA cI r70 60 (fun _ => 0) ++ (wA cI r79 203 (fun _ => 0) ++ (wA cI r87 6 (fun _ => 0))))))))))))) H := hP
  have hD : va_D A (([(b0, .inr (6, [.int 0, .int 0, .int 0, .ref r7, .ref r15, .ref r22, .ref r30, .ref r38, .int 0, .ref r46, .int 0, .ref r54, .ref r62, .ref r70, .int 0, .int 0, .int 0, .int 0, .ref r79, .int 0, .int 0, .int 0, .int 0, .int 0, .null, .null, .null, .null, .null, .null, .int 0, .int 0]))] : va_W) ++ (wA cI r7 100 (fun _ => 0) ++ (wA cI r15 100 (fun _ => 0) ++ (wA cI r22 4 (fun _ => 0) ++ (wA cI r30 8 (fun _ => 0) ++ (wA cI r38 8 (fun _ => 0) ++ (wA cI r46 60 (fun _ => 0) ++ (wA cI r54 60 (fun _ => 0) ++ (wA cI r62 60 (fun _ => 0) ++ (wA cI r70 60 (fun _ => 0) ++ (wA cI r79 203 (fun _ => 0) ++ (wA cI r87 6 (fun _ => 0))))))))))))) := hD
  refine W.widen (k := 11) (n := 669) (by omega) (by omega) ?_
  refine va_putF (D := D) (ci := 6) (v := .ref r87) (ty := (.array .int)) (C := RX6) (T := TX6) (N := 32) hx hb htl inlX6 tyX6 tyX6_ok nmX6 hown hK hP hD hS 0 rfl rfl 24 (by decide) (htl _ W_95) (fun _ h9 => h9) rfl hin rfl (by decide +kernel) rfl rfl (Nat.le_of_ble_eq_true rfl) (dAt zX6_init_0 45 rfl) (fun H locs hP hD hS => ?_)
  have hP : va_P D vwCl (([(b0, .inr (6, [.int 0, .int 0, .int 0, .ref r7, .ref r15, .ref r22, .ref r30, .ref r38, .int 0, .ref r46, .int 0, .ref r54, .ref r62, .ref r70, .int 0, .int 0, .int 0, .int 0, .ref r79, .int 0, .int 0, .int 0, .int 0, .int 0, .ref r87, .null, .null, .null, .null, .null, .int 0, .int 0]))] : va_W) ++ (wA cI r7 100 (fun _ => 0) ++ (wA cI r15 100 (fun _ => 0) ++ (wA cI r22 4 (fun _ => 0) ++ (wA cI r30 8 (fun _ => 0) ++ (wA cI r38 8 (fun _ => 0) ++ (wA cI r46 60 (fun _ => 0) ++ (wA cI r54 60 (fun _ => 0) ++ (wA cI r62 60 (fun _ => 0) ++ (wA cI r70 60 (fun _ => 0) ++ (wA cI r79 203 (fun _ => 0) ++ (wA cI r87 6 (fun _ => 0))))))))))))) H := hP
  have hD : va_D A (([(b0, .inr (6, [.int 0, .int 0, .int 0, .ref r7, .ref r15, .ref r22, .ref r30, .ref r38, .int 0, .ref r46, .int 0, .ref r54, .ref r62, .ref r70, .int 0, .int 0, .int 0, .int 0, .ref r79, .int 0, .int 0, .int 0, .int 0, .int 0, .ref r87, .null, .null, .null, .null, .null, .int 0, .int 0]))] : va_W) ++ (wA cI r7 100 (fun _ => 0) ++ (wA cI r15 100 (fun _ => 0) ++ (wA cI r22 4 (fun _ => 0) ++ (wA cI r30 8 (fun _ => 0) ++ (wA cI r38 8 (fun _ => 0) ++ (wA cI r46 60 (fun _ => 0) ++ (wA cI r54 60 (fun _ => 0) ++ (wA cI r62 60 (fun _ => 0) ++ (wA cI r70 60 (fun _ => 0) ++ (wA cI r79 203 (fun _ => 0) ++ (wA cI r87 6 (fun _ => 0))))))))))))) := hD
  refine lv_aload_n hx hb (dAt zX6_init_0 46 rfl) rfl (lv_at hl 0 rfl) ?_
  refine lv_bipush (v := 6) hx hb (dAt zX6_init_0 47 rfl) (by decide) ?_
  refine xNewI (n := 6) (N' := 6) (hbig := by decide) hx hb (htl _ W_44) hK hP hD hS hA (by decide) (by decide) (Nat.le_of_ble_eq_true rfl) (Nat.le_of_ble_eq_true rfl) (dAt zX6_init_0 48 rfl) (fun r95 H hP hD hS => ?_)
  have hP : va_P D vwCl (([(b0, .inr (6, [.int 0, .int 0, .int 0, .ref r7, .ref r15, .ref r22, .ref r30, .ref r38, .int 0, .ref r46, .int 0, .ref r54, .ref r62, .ref r70, .int 0, .int 0, .int 0, .int 0, .ref r79, .int 0, .int 0, .int 0, .int 0, .int 0, .ref r87, .null, .null, .null, .null, .null, .int 0, .int 0]))] : va_W) ++ (wA cI r7 100 (fun _ => 0) ++ (wA cI r15 100 (fun _ => 0) ++ (wA cI r22 4 (fun _ => 0) ++ (wA cI r30 8 (fun _ => 0) ++ (wA cI r38 8 (fun _ => 0) ++ (wA cI r46 60 (fun _ => 0) ++ (wA cI r54 60 (fun _ => 0) ++ (wA cI r62 60 (fun _ => 0) ++ (wA cI r70 60 (fun _ => 0) ++ (wA cI r79 203 (fun _ => 0) ++ (wA cI r87 6 (fun _ => 0) ++ (wA cI r95 6 (fun _ => 0)))))))))))))) H := hP
  have hD : va_D A (([(b0, .inr (6, [.int 0, .int 0, .int 0, .ref r7, .ref r15, .ref r22, .ref r30, .ref r38, .int 0, .ref r46, .int 0, .ref r54, .ref r62, .ref r70, .int 0, .int 0, .int 0, .int 0, .ref r79, .int 0, .int 0, .int 0, .int 0, .int 0, .ref r87, .null, .null, .null, .null, .null, .int 0, .int 0]))] : va_W) ++ (wA cI r7 100 (fun _ => 0) ++ (wA cI r15 100 (fun _ => 0) ++ (wA cI r22 4 (fun _ => 0) ++ (wA cI r30 8 (fun _ => 0) ++ (wA cI r38 8 (fun _ => 0) ++ (wA cI r46 60 (fun _ => 0) ++ (wA cI r54 60 (fun _ => 0) ++ (wA cI r62 60 (fun _ => 0) ++ (wA cI r70 60 (fun _ => 0) ++ (wA cI r79 203 (fun _ => 0) ++ (wA cI r87 6 (fun _ => 0) ++ (wA cI r95 6 (fun _ => 0)))))))))))))) := hD
  refine W.widen (k := 12) (n := 675) (by omega) (by omega) ?_
  refine va_putF (D := D) (ci := 6) (v := .ref r95) (ty := (.array .int)) (C := RX6) (T := TX6) (N := 32) hx hb htl inlX6 tyX6 tyX6_ok nmX6 hown hK hP hD hS 0 rfl rfl 25 (by decide) (htl _ W_96) (fun _ h9 => h9) rfl hin rfl (by decide +kernel) rfl rfl (Nat.le_of_ble_eq_true rfl) (dAt zX6_init_0 49 rfl) (fun H locs hP hD hS => ?_)
  have hP : va_P D vwCl (([(b0, .inr (6, [.int 0, .int 0, .int 0, .ref r7, .ref r15, .ref r22, .ref r30, .ref r38, .int 0, .ref r46, .int 0, .ref r54, .ref r62, .ref r70, .int 0, .int 0, .int 0, .int 0, .ref r79, .int 0, .int 0, .int 0, .int 0, .int 0, .ref r87, .ref r95, .null, .null, .null, .null, .int 0, .int 0]))] : va_W) ++ (wA cI r7 100 (fun _ => 0) ++ (wA cI r15 100 (fun _ => 0) ++ (wA cI r22 4 (fun _ => 0) ++ (wA cI r30 8 (fun _ => 0) ++ (wA cI r38 8 (fun _ => 0) ++ (wA cI r46 60 (fun _ => 0) ++ (wA cI r54 60 (fun _ => 0) ++ (wA cI r62 60 (fun _ => 0) ++ (wA cI r70 60 (fun _ => 0) ++ (wA cI r79 203 (fun _ => 0) ++ (wA cI r87 6 (fun _ => 0) ++ (wA cI r95 6 (fun _ => 0)))))))))))))) H := hP
  have hD : va_D A (([(b0, .inr (6, [.int 0, .int 0, .int 0, .ref r7, .ref r15, .ref r22, .ref r30, .ref r38, .int 0, .ref r46, .int 0, .ref r54, .ref r62, .ref r70, .int 0, .int 0, .int 0, .int 0, .ref r79, .int 0, .int 0, .int 0, .int 0, .int 0, .ref r87, .ref r95, .null, .null, .null, .null, .int 0, .int 0]))] : va_W) ++ (wA cI r7 100 (fun _ => 0) ++ (wA cI r15 100 (fun _ => 0) ++ (wA cI r22 4 (fun _ => 0) ++ (wA cI r30 8 (fun _ => 0) ++ (wA cI r38 8 (fun _ => 0) ++ (wA cI r46 60 (fun _ => 0) ++ (wA cI r54 60 (fun _ => 0) ++ (wA cI r62 60 (fun _ => 0) ++ (wA cI r70 60 (fun _ => 0) ++ (wA cI r79 203 (fun _ => 0) ++ (wA cI r87 6 (fun _ => 0) ++ (wA cI r95 6 (fun _ => 0)))))))))))))) := hD
  refine lv_aload_n hx hb (dAt zX6_init_0 50 rfl) rfl (lv_at hl 0 rfl) ?_
  refine lv_bipush (v := 10) hx hb (dAt zX6_init_0 51 rfl) (by decide) ?_
  refine xNewJ (n := 10) (N' := 10) (hbig := by decide) hx hb (htl _ W_76) hK hP hD hS hA (by decide) (by decide) (Nat.le_of_ble_eq_true rfl) (Nat.le_of_ble_eq_true rfl) (dAt zX6_init_0 52 rfl) (fun r103 H hP hD hS => ?_)
  have hP : va_P D vwCl (([(b0, .inr (6, [.int 0, .int 0, .int 0, .ref r7, .ref r15, .ref r22, .ref r30, .ref r38, .int 0, .ref r46, .int 0, .ref r54, .ref r62, .ref r70, .int 0, .int 0, .int 0, .int 0, .ref r79, .int 0, .int 0, .int 0, .int 0, .int 0, .ref r87, .ref r95, .null, .null, .null, .null, .int 0, .int 0]))] : va_W) ++ (wA cI r7 100 (fun _ => 0) ++ (wA cI r15 100 (fun _ => 0) ++ (wA cI r22 4 (fun _ => 0) ++ (wA cI r30 8 (fun _ => 0) ++ (wA cI r38 8 (fun _ => 0) ++ (wA cI r46 60 (fun _ => 0) ++ (wA cI r54 60 (fun _ => 0) ++ (wA cI r62 60 (fun _ => 0) ++ (wA cI r70 60 (fun _ => 0) ++ (wA cI r79 203 (fun _ => 0) ++ (wA cI r87 6 (fun _ => 0) ++ (wA cI r95 6 (fun _ => 0) ++ (wAJ cJ r103 10 (fun _ => 0))))))))))))))) H := hP
  have hD : va_D A (([(b0, .inr (6, [.int 0, .int 0, .int 0, .ref r7, .ref r15, .ref r22, .ref r30, .ref r38, .int 0, .ref r46, .int 0, .ref r54, .ref r62, .ref r70, .int 0, .int 0, .int 0, .int 0, .ref r79, .int 0, .int 0, .int 0, .int 0, .int 0, .ref r87, .ref r95, .null, .null, .null, .null, .int 0, .int 0]))] : va_W) ++ (wA cI r7 100 (fun _ => 0) ++ (wA cI r15 100 (fun _ => 0) ++ (wA cI r22 4 (fun _ => 0) ++ (wA cI r30 8 (fun _ => 0) ++ (wA cI r38 8 (fun _ => 0) ++ (wA cI r46 60 (fun _ => 0) ++ (wA cI r54 60 (fun _ => 0) ++ (wA cI r62 60 (fun _ => 0) ++ (wA cI r70 60 (fun _ => 0) ++ (wA cI r79 203 (fun _ => 0) ++ (wA cI r87 6 (fun _ => 0) ++ (wA cI r95 6 (fun _ => 0) ++ (wAJ cJ r103 10 (fun _ => 0))))))))))))))) := hD
  refine W.widen (k := 13) (n := 685) (by omega) (by omega) ?_
  refine va_putF (D := D) (ci := 6) (v := .ref r103) (ty := (.array .long)) (C := RX6) (T := TX6) (N := 32) hx hb htl inlX6 tyX6 tyX6_ok nmX6 hown hK hP hD hS 0 rfl rfl 26 (by decide) (htl _ W_97) (fun _ h9 => h9) rfl hin rfl (by decide +kernel) rfl rfl (Nat.le_of_ble_eq_true rfl) (dAt zX6_init_0 53 rfl) (fun H locs hP hD hS => ?_)
  have hP : va_P D vwCl (([(b0, .inr (6, [.int 0, .int 0, .int 0, .ref r7, .ref r15, .ref r22, .ref r30, .ref r38, .int 0, .ref r46, .int 0, .ref r54, .ref r62, .ref r70, .int 0, .int 0, .int 0, .int 0, .ref r79, .int 0, .int 0, .int 0, .int 0, .int 0, .ref r87, .ref r95, .ref r103, .null, .null, .null, .int 0, .int 0]))] : va_W) ++ (wA cI r7 100 (fun _ => 0) ++ (wA cI r15 100 (fun _ => 0) ++ (wA cI r22 4 (fun _ => 0) ++ (wA cI r30 8 (fun _ => 0) ++ (wA cI r38 8 (fun _ => 0) ++ (wA cI r46 60 (fun _ => 0) ++ (wA cI r54 60 (fun _ => 0) ++ (wA cI r62 60 (fun _ => 0) ++ (wA cI r70 60 (fun _ => 0) ++ (wA cI r79 203 (fun _ => 0) ++ (wA cI r87 6 (fun _ => 0) ++ (wA cI r95 6 (fun _ => 0) ++ (wAJ cJ r103 10 (fun _ => 0))))))))))))))) H := hP
  have hD : va_D A (([(b0, .inr (6, [.int 0, .int 0, .int 0, .ref r7, .ref r15, .ref r22, .ref r30, .ref r38, .int 0, .ref r46, .int 0, .ref r54, .ref r62, .ref r70, .int 0, .int 0, .int 0, .int 0, .ref r79, .int 0, .int 0, .int 0, .int 0, .int 0, .ref r87, .ref r95, .ref r103, .null, .null, .null, .int 0, .int 0]))] : va_W) ++ (wA cI r7 100 (fun _ => 0) ++ (wA cI r15 100 (fun _ => 0) ++ (wA cI r22 4 (fun _ => 0) ++ (wA cI r30 8 (fun _ => 0) ++ (wA cI r38 8 (fun _ => 0) ++ (wA cI r46 60 (fun _ => 0) ++ (wA cI r54 60 (fun _ => 0) ++ (wA cI r62 60 (fun _ => 0) ++ (wA cI r70 60 (fun _ => 0) ++ (wA cI r79 203 (fun _ => 0) ++ (wA cI r87 6 (fun _ => 0) ++ (wA cI r95 6 (fun _ => 0) ++ (wAJ cJ r103 10 (fun _ => 0))))))))))))))) := hD
  refine lv_aload_n hx hb (dAt zX6_init_0 54 rfl) rfl (lv_at hl 0 rfl) ?_
  refine lv_sipush (v := 1000) hx hb (dAt zX6_init_0 55 rfl) (by decide) ?_
  refine xNewI (n := 1000) (N' := 1000) (hbig := by decide) hx hb (htl _ W_44) hK hP hD hS hA (by decide) (by decide) (Nat.le_of_ble_eq_true rfl) (Nat.le_of_ble_eq_true rfl) (dAt zX6_init_0 56 rfl) (fun r112 H hP hD hS => ?_)
  have hP : va_P D vwCl (([(b0, .inr (6, [.int 0, .int 0, .int 0, .ref r7, .ref r15, .ref r22, .ref r30, .ref r38, .int 0, .ref r46, .int 0, .ref r54, .ref r62, .ref r70, .int 0, .int 0, .int 0, .int 0, .ref r79, .int 0, .int 0, .int 0, .int 0, .int 0, .ref r87, .ref r95, .ref r103, .null, .null, .null, .int 0, .int 0]))] : va_W) ++ (wA cI r7 100 (fun _ => 0) ++ (wA cI r15 100 (fun _ => 0) ++ (wA cI r22 4 (fun _ => 0) ++ (wA cI r30 8 (fun _ => 0) ++ (wA cI r38 8 (fun _ => 0) ++ (wA cI r46 60 (fun _ => 0) ++ (wA cI r54 60 (fun _ => 0) ++ (wA cI r62 60 (fun _ => 0) ++ (wA cI r70 60 (fun _ => 0) ++ (wA cI r79 203 (fun _ => 0) ++ (wA cI r87 6 (fun _ => 0) ++ (wA cI r95 6 (fun _ => 0) ++ (wAJ cJ r103 10 (fun _ => 0) ++ (wA cI r112 1000 (fun _ => 0)))))))))))))))) H := hP
  have hD : va_D A (([(b0, .inr (6, [.int 0, .int 0, .int 0, .ref r7, .ref r15, .ref r22, .ref r30, .ref r38, .int 0, .ref r46, .int 0, .ref r54, .ref r62, .ref r70, .int 0, .int 0, .int 0, .int 0, .ref r79, .int 0, .int 0, .int 0, .int 0, .int 0, .ref r87, .ref r95, .ref r103, .null, .null, .null, .int 0, .int 0]))] : va_W) ++ (wA cI r7 100 (fun _ => 0) ++ (wA cI r15 100 (fun _ => 0) ++ (wA cI r22 4 (fun _ => 0) ++ (wA cI r30 8 (fun _ => 0) ++ (wA cI r38 8 (fun _ => 0) ++ (wA cI r46 60 (fun _ => 0) ++ (wA cI r54 60 (fun _ => 0) ++ (wA cI r62 60 (fun _ => 0) ++ (wA cI r70 60 (fun _ => 0) ++ (wA cI r79 203 (fun _ => 0) ++ (wA cI r87 6 (fun _ => 0) ++ (wA cI r95 6 (fun _ => 0) ++ (wAJ cJ r103 10 (fun _ => 0) ++ (wA cI r112 1000 (fun _ => 0)))))))))))))))) := hD
  refine W.widen (k := 14) (n := 1685) (by omega) (by omega) ?_
  refine va_putF (D := D) (ci := 6) (v := .ref r112) (ty := (.array .int)) (C := RX6) (T := TX6) (N := 32) hx hb htl inlX6 tyX6 tyX6_ok nmX6 hown hK hP hD hS 0 rfl rfl 27 (by decide) (htl _ W_98) (fun _ h9 => h9) rfl hin rfl (by decide +kernel) rfl rfl (Nat.le_of_ble_eq_true rfl) (dAt zX6_init_0 57 rfl) (fun H locs hP hD hS => ?_)
  have hP : va_P D vwCl (([(b0, .inr (6, [.int 0, .int 0, .int 0, .ref r7, .ref r15, .ref r22, .ref r30, .ref r38, .int 0, .ref r46, .int 0, .ref r54, .ref r62, .ref r70, .int 0, .int 0, .int 0, .int 0, .ref r79, .int 0, .int 0, .int 0, .int 0, .int 0, .ref r87, .ref r95, .ref r103, .ref r112, .null, .null, .int 0, .int 0]))] : va_W) ++ (wA cI r7 100 (fun _ => 0) ++ (wA cI r15 100 (fun _ => 0) ++ (wA cI r22 4 (fun _ => 0) ++ (wA cI r30 8 (fun _ => 0) ++ (wA cI r38 8 (fun _ => 0) ++ (wA cI r46 60 (fun _ => 0) ++ (wA cI r54 60 (fun _ => 0) ++ (wA cI r62 60 (fun _ => 0) ++ (wA cI r70 60 (fun _ => 0) ++ (wA cI r79 203 (fun _ => 0) ++ (wA cI r87 6 (fun _ => 0) ++ (wA cI r95 6 (fun _ => 0) ++ (wAJ cJ r103 10 (fun _ => 0) ++ (wA cI r112 1000 (fun _ => 0)))))))))))))))) H := hP
  have hD : va_D A (([(b0, .inr (6, [.int 0, .int 0, .int 0, .ref r7, .ref r15, .ref r22, .ref r30, .ref r38, .int 0, .ref r46, .int 0, .ref r54, .ref r62, .ref r70, .int 0, .int 0, .int 0, .int 0, .ref r79, .int 0, .int 0, .int 0, .int 0, .int 0, .ref r87, .ref r95, .ref r103, .ref r112, .null, .null, .int 0, .int 0]))] : va_W) ++ (wA cI r7 100 (fun _ => 0) ++ (wA cI r15 100 (fun _ => 0) ++ (wA cI r22 4 (fun _ => 0) ++ (wA cI r30 8 (fun _ => 0) ++ (wA cI r38 8 (fun _ => 0) ++ (wA cI r46 60 (fun _ => 0) ++ (wA cI r54 60 (fun _ => 0) ++ (wA cI r62 60 (fun _ => 0) ++ (wA cI r70 60 (fun _ => 0) ++ (wA cI r79 203 (fun _ => 0) ++ (wA cI r87 6 (fun _ => 0) ++ (wA cI r95 6 (fun _ => 0) ++ (wAJ cJ r103 10 (fun _ => 0) ++ (wA cI r112 1000 (fun _ => 0)))))))))))))))) := hD
  refine lv_aload_n hx hb (dAt zX6_init_0 58 rfl) rfl (lv_at hl 0 rfl) ?_
  refine lv_sipush (v := 480) hx hb (dAt zX6_init_0 59 rfl) (by decide) ?_
  refine xNewI (n := 480) (N' := 480) (hbig := by decide) hx hb (htl _ W_44) hK hP hD hS hA (by decide) (by decide) (Nat.le_of_ble_eq_true rfl) (Nat.le_of_ble_eq_true rfl) (dAt zX6_init_0 60 rfl) (fun r121 H hP hD hS => ?_)
  have hP : va_P D vwCl (([(b0, .inr (6, [.int 0, .int 0, .int 0, .ref r7, .ref r15, .ref r22, .ref r30, .ref r38, .int 0, .ref r46, .int 0, .ref r54, .ref r62, .ref r70, .int 0, .int 0, .int 0, .int 0, .ref r79, .int 0, .int 0, .int 0, .int 0, .int 0, .ref r87, .ref r95, .ref r103, .ref r112, .null, .null, .int 0, .int 0]))] : va_W) ++ (wA cI r7 100 (fun _ => 0) ++ (wA cI r15 100 (fun _ => 0) ++ (wA cI r22 4 (fun _ => 0) ++ (wA cI r30 8 (fun _ => 0) ++ (wA cI r38 8 (fun _ => 0) ++ (wA cI r46 60 (fun _ => 0) ++ (wA cI r54 60 (fun _ => 0) ++ (wA cI r62 60 (fun _ => 0) ++ (wA cI r70 60 (fun _ => 0) ++ (wA cI r79 203 (fun _ => 0) ++ (wA cI r87 6 (fun _ => 0) ++ (wA cI r95 6 (fun _ => 0) ++ (wAJ cJ r103 10 (fun _ => 0) ++ (wA cI r112 1000 (fun _ => 0) ++ (wA cI r121 480 (fun _ => 0))))))))))))))))) H := hP
  have hD : va_D A (([(b0, .inr (6, [.int 0, .int 0, .int 0, .ref r7, .ref r15, .ref r22, .ref r30, .ref r38, .int 0, .ref r46, .int 0, .ref r54, .ref r62, .ref r70, .int 0, .int 0, .int 0, .int 0, .ref r79, .int 0, .int 0, .int 0, .int 0, .int 0, .ref r87, .ref r95, .ref r103, .ref r112, .null, .null, .int 0, .int 0]))] : va_W) ++ (wA cI r7 100 (fun _ => 0) ++ (wA cI r15 100 (fun _ => 0) ++ (wA cI r22 4 (fun _ => 0) ++ (wA cI r30 8 (fun _ => 0) ++ (wA cI r38 8 (fun _ => 0) ++ (wA cI r46 60 (fun _ => 0) ++ (wA cI r54 60 (fun _ => 0) ++ (wA cI r62 60 (fun _ => 0) ++ (wA cI r70 60 (fun _ => 0) ++ (wA cI r79 203 (fun _ => 0) ++ (wA cI r87 6 (fun _ => 0) ++ (wA cI r95 6 (fun _ => 0) ++ (wAJ cJ r103 10 (fun _ => 0) ++ (wA cI r112 1000 (fun _ => 0) ++ (wA cI r121 480 (fun _ => 0))))))))))))))))) := hD
  refine W.widen (k := 15) (n := 2165) (by omega) (by omega) ?_
  refine va_putF (D := D) (ci := 6) (v := .ref r121) (ty := (.array .int)) (C := RX6) (T := TX6) (N := 32) hx hb htl inlX6 tyX6 tyX6_ok nmX6 hown hK hP hD hS 0 rfl rfl 28 (by decide) (htl _ W_99) (fun _ h9 => h9) rfl hin rfl (by decide +kernel) rfl rfl (Nat.le_of_ble_eq_true rfl) (dAt zX6_init_0 61 rfl) (fun H locs hP hD hS => ?_)
  have hP : va_P D vwCl (([(b0, .inr (6, [.int 0, .int 0, .int 0, .ref r7, .ref r15, .ref r22, .ref r30, .ref r38, .int 0, .ref r46, .int 0, .ref r54, .ref r62, .ref r70, .int 0, .int 0, .int 0, .int 0, .ref r79, .int 0, .int 0, .int 0, .int 0, .int 0, .ref r87, .ref r95, .ref r103, .ref r112, .ref r121, .null, .int 0, .int 0]))] : va_W) ++ (wA cI r7 100 (fun _ => 0) ++ (wA cI r15 100 (fun _ => 0) ++ (wA cI r22 4 (fun _ => 0) ++ (wA cI r30 8 (fun _ => 0) ++ (wA cI r38 8 (fun _ => 0) ++ (wA cI r46 60 (fun _ => 0) ++ (wA cI r54 60 (fun _ => 0) ++ (wA cI r62 60 (fun _ => 0) ++ (wA cI r70 60 (fun _ => 0) ++ (wA cI r79 203 (fun _ => 0) ++ (wA cI r87 6 (fun _ => 0) ++ (wA cI r95 6 (fun _ => 0) ++ (wAJ cJ r103 10 (fun _ => 0) ++ (wA cI r112 1000 (fun _ => 0) ++ (wA cI r121 480 (fun _ => 0))))))))))))))))) H := hP
  have hD : va_D A (([(b0, .inr (6, [.int 0, .int 0, .int 0, .ref r7, .ref r15, .ref r22, .ref r30, .ref r38, .int 0, .ref r46, .int 0, .ref r54, .ref r62, .ref r70, .int 0, .int 0, .int 0, .int 0, .ref r79, .int 0, .int 0, .int 0, .int 0, .int 0, .ref r87, .ref r95, .ref r103, .ref r112, .ref r121, .null, .int 0, .int 0]))] : va_W) ++ (wA cI r7 100 (fun _ => 0) ++ (wA cI r15 100 (fun _ => 0) ++ (wA cI r22 4 (fun _ => 0) ++ (wA cI r30 8 (fun _ => 0) ++ (wA cI r38 8 (fun _ => 0) ++ (wA cI r46 60 (fun _ => 0) ++ (wA cI r54 60 (fun _ => 0) ++ (wA cI r62 60 (fun _ => 0) ++ (wA cI r70 60 (fun _ => 0) ++ (wA cI r79 203 (fun _ => 0) ++ (wA cI r87 6 (fun _ => 0) ++ (wA cI r95 6 (fun _ => 0) ++ (wAJ cJ r103 10 (fun _ => 0) ++ (wA cI r112 1000 (fun _ => 0) ++ (wA cI r121 480 (fun _ => 0))))))))))))))))) := hD
  refine lv_aload_n hx hb (dAt zX6_init_0 62 rfl) rfl (lv_at hl 0 rfl) ?_
  refine lv_iconst (v := 2) hx hb (dAt zX6_init_0 63 rfl) (by decide) ?_
  refine xNewZ (n := 2) (N' := 2) (hbig := by decide) hx hb (htl _ W_100) hK hP hD hS hA (by decide) (by decide) (Nat.le_of_ble_eq_true rfl) (Nat.le_of_ble_eq_true rfl) (dAt zX6_init_0 64 rfl) (fun r128 H hP hD hS => ?_)
  have hP : va_P D vwCl (([(b0, .inr (6, [.int 0, .int 0, .int 0, .ref r7, .ref r15, .ref r22, .ref r30, .ref r38, .int 0, .ref r46, .int 0, .ref r54, .ref r62, .ref r70, .int 0, .int 0, .int 0, .int 0, .ref r79, .int 0, .int 0, .int 0, .int 0, .int 0, .ref r87, .ref r95, .ref r103, .ref r112, .ref r121, .null, .int 0, .int 0]))] : va_W) ++ (wA cI r7 100 (fun _ => 0) ++ (wA cI r15 100 (fun _ => 0) ++ (wA cI r22 4 (fun _ => 0) ++ (wA cI r30 8 (fun _ => 0) ++ (wA cI r38 8 (fun _ => 0) ++ (wA cI r46 60 (fun _ => 0) ++ (wA cI r54 60 (fun _ => 0) ++ (wA cI r62 60 (fun _ => 0) ++ (wA cI r70 60 (fun _ => 0) ++ (wA cI r79 203 (fun _ => 0) ++ (wA cI r87 6 (fun _ => 0) ++ (wA cI r95 6 (fun _ => 0) ++ (wAJ cJ r103 10 (fun _ => 0) ++ (wA cI r112 1000 (fun _ => 0) ++ (wA cI r121 480 (fun _ => 0) ++ (wAZ cZ r128 2 (fun _ => 0)))))))))))))))))) H := hP
  have hD : va_D A (([(b0, .inr (6, [.int 0, .int 0, .int 0, .ref r7, .ref r15, .ref r22, .ref r30, .ref r38, .int 0, .ref r46, .int 0, .ref r54, .ref r62, .ref r70, .int 0, .int 0, .int 0, .int 0, .ref r79, .int 0, .int 0, .int 0, .int 0, .int 0, .ref r87, .ref r95, .ref r103, .ref r112, .ref r121, .null, .int 0, .int 0]))] : va_W) ++ (wA cI r7 100 (fun _ => 0) ++ (wA cI r15 100 (fun _ => 0) ++ (wA cI r22 4 (fun _ => 0) ++ (wA cI r30 8 (fun _ => 0) ++ (wA cI r38 8 (fun _ => 0) ++ (wA cI r46 60 (fun _ => 0) ++ (wA cI r54 60 (fun _ => 0) ++ (wA cI r62 60 (fun _ => 0) ++ (wA cI r70 60 (fun _ => 0) ++ (wA cI r79 203 (fun _ => 0) ++ (wA cI r87 6 (fun _ => 0) ++ (wA cI r95 6 (fun _ => 0) ++ (wAJ cJ r103 10 (fun _ => 0) ++ (wA cI r112 1000 (fun _ => 0) ++ (wA cI r121 480 (fun _ => 0) ++ (wAZ cZ r128 2 (fun _ => 0)))))))))))))))))) := hD
  refine W.widen (k := 16) (n := 2167) (by omega) (by omega) ?_
  refine va_putF (D := D) (ci := 6) (v := .ref r128) (ty := (.array .boolean)) (C := RX6) (T := TX6) (N := 32) hx hb htl inlX6 tyX6 tyX6_ok nmX6 hown hK hP hD hS 0 rfl rfl 29 (by decide) (htl _ W_101) (fun _ h9 => h9) rfl hin rfl (by decide +kernel) rfl rfl (Nat.le_of_ble_eq_true rfl) (dAt zX6_init_0 65 rfl) (fun H locs hP hD hS => ?_)
  have hP : va_P D vwCl (([(b0, .inr (6, [.int 0, .int 0, .int 0, .ref r7, .ref r15, .ref r22, .ref r30, .ref r38, .int 0, .ref r46, .int 0, .ref r54, .ref r62, .ref r70, .int 0, .int 0, .int 0, .int 0, .ref r79, .int 0, .int 0, .int 0, .int 0, .int 0, .ref r87, .ref r95, .ref r103, .ref r112, .ref r121, .ref r128, .int 0, .int 0]))] : va_W) ++ (wA cI r7 100 (fun _ => 0) ++ (wA cI r15 100 (fun _ => 0) ++ (wA cI r22 4 (fun _ => 0) ++ (wA cI r30 8 (fun _ => 0) ++ (wA cI r38 8 (fun _ => 0) ++ (wA cI r46 60 (fun _ => 0) ++ (wA cI r54 60 (fun _ => 0) ++ (wA cI r62 60 (fun _ => 0) ++ (wA cI r70 60 (fun _ => 0) ++ (wA cI r79 203 (fun _ => 0) ++ (wA cI r87 6 (fun _ => 0) ++ (wA cI r95 6 (fun _ => 0) ++ (wAJ cJ r103 10 (fun _ => 0) ++ (wA cI r112 1000 (fun _ => 0) ++ (wA cI r121 480 (fun _ => 0) ++ (wAZ cZ r128 2 (fun _ => 0)))))))))))))))))) H := hP
  have hD : va_D A (([(b0, .inr (6, [.int 0, .int 0, .int 0, .ref r7, .ref r15, .ref r22, .ref r30, .ref r38, .int 0, .ref r46, .int 0, .ref r54, .ref r62, .ref r70, .int 0, .int 0, .int 0, .int 0, .ref r79, .int 0, .int 0, .int 0, .int 0, .int 0, .ref r87, .ref r95, .ref r103, .ref r112, .ref r121, .ref r128, .int 0, .int 0]))] : va_W) ++ (wA cI r7 100 (fun _ => 0) ++ (wA cI r15 100 (fun _ => 0) ++ (wA cI r22 4 (fun _ => 0) ++ (wA cI r30 8 (fun _ => 0) ++ (wA cI r38 8 (fun _ => 0) ++ (wA cI r46 60 (fun _ => 0) ++ (wA cI r54 60 (fun _ => 0) ++ (wA cI r62 60 (fun _ => 0) ++ (wA cI r70 60 (fun _ => 0) ++ (wA cI r79 203 (fun _ => 0) ++ (wA cI r87 6 (fun _ => 0) ++ (wA cI r95 6 (fun _ => 0) ++ (wAJ cJ r103 10 (fun _ => 0) ++ (wA cI r112 1000 (fun _ => 0) ++ (wA cI r121 480 (fun _ => 0) ++ (wAZ cZ r128 2 (fun _ => 0)))))))))))))))))) := hD
  refine lv_aload_n hx hb (dAt zX6_init_0 66 rfl) rfl (lv_at hl 0 rfl) ?_
  refine lv_sipush (v := 1023) hx hb (dAt zX6_init_0 67 rfl) (by decide) ?_
  refine va_put (D := D) (ci := 6) (v := .int 1023) (ty := .int) (C := RX6) (T := TX6) (N := 32) hx hb htl inlX6 tyX6 tyX6_ok nmX6 hown hK hP hD hS 0 rfl rfl 0 (by decide) (htl _ W_102) (fun _ h9 => h9) rfl (by decide +kernel) rfl rfl (Nat.le_of_ble_eq_true rfl) (dAt zX6_init_0 68 rfl) (fun H locs hP hD hS => ?_)
  have hP : va_P D vwCl (([(b0, .inr (6, [.int 1023, .int 0, .int 0, .ref r7, .ref r15, .ref r22, .ref r30, .ref r38, .int 0, .ref r46, .int 0, .ref r54, .ref r62, .ref r70, .int 0, .int 0, .int 0, .int 0, .ref r79, .int 0, .int 0, .int 0, .int 0, .int 0, .ref r87, .ref r95, .ref r103, .ref r112, .ref r121, .ref r128, .int 0, .int 0]))] : va_W) ++ (wA cI r7 100 (fun _ => 0) ++ (wA cI r15 100 (fun _ => 0) ++ (wA cI r22 4 (fun _ => 0) ++ (wA cI r30 8 (fun _ => 0) ++ (wA cI r38 8 (fun _ => 0) ++ (wA cI r46 60 (fun _ => 0) ++ (wA cI r54 60 (fun _ => 0) ++ (wA cI r62 60 (fun _ => 0) ++ (wA cI r70 60 (fun _ => 0) ++ (wA cI r79 203 (fun _ => 0) ++ (wA cI r87 6 (fun _ => 0) ++ (wA cI r95 6 (fun _ => 0) ++ (wAJ cJ r103 10 (fun _ => 0) ++ (wA cI r112 1000 (fun _ => 0) ++ (wA cI r121 480 (fun _ => 0) ++ (wAZ cZ r128 2 (fun _ => 0)))))))))))))))))) H := hP
  have hD : va_D A (([(b0, .inr (6, [.int 1023, .int 0, .int 0, .ref r7, .ref r15, .ref r22, .ref r30, .ref r38, .int 0, .ref r46, .int 0, .ref r54, .ref r62, .ref r70, .int 0, .int 0, .int 0, .int 0, .ref r79, .int 0, .int 0, .int 0, .int 0, .int 0, .ref r87, .ref r95, .ref r103, .ref r112, .ref r121, .ref r128, .int 0, .int 0]))] : va_W) ++ (wA cI r7 100 (fun _ => 0) ++ (wA cI r15 100 (fun _ => 0) ++ (wA cI r22 4 (fun _ => 0) ++ (wA cI r30 8 (fun _ => 0) ++ (wA cI r38 8 (fun _ => 0) ++ (wA cI r46 60 (fun _ => 0) ++ (wA cI r54 60 (fun _ => 0) ++ (wA cI r62 60 (fun _ => 0) ++ (wA cI r70 60 (fun _ => 0) ++ (wA cI r79 203 (fun _ => 0) ++ (wA cI r87 6 (fun _ => 0) ++ (wA cI r95 6 (fun _ => 0) ++ (wAJ cJ r103 10 (fun _ => 0) ++ (wA cI r112 1000 (fun _ => 0) ++ (wA cI r121 480 (fun _ => 0) ++ (wAZ cZ r128 2 (fun _ => 0)))))))))))))))))) := hD
  refine lv_iconst (v := 0) hx hb (dAt zX6_init_0 69 rfl) (by decide) ?_
  refine lv_istore_n (lv' := [(1, .int 0), (0, .ref b0)]) hx hb (dAt zX6_init_0 70 rfl) rfl hl (by decide) rfl (fun ls hl => ?_)
  have L_142 : ∀ (j_142 : Nat) (v1_142 : Int32) (zr15_142 : (Nat → Int32)) (H : Heap) (locs : List Loc) (ls : Array Slot), loopF (b_X6_init_142 n) j_142 (v1_142, zr15_142) = some out → va_P D vwCl (([(b0, .inr (6, [.int 1023, .int 0, .int 0, .ref r7, .ref r15, .ref r22, .ref r30, .ref r38, .int 0, .ref r46, .int 0, .ref r54, .ref r62, .ref r70, .int 0, .int 0, .int 0, .int 0, .ref r79, .int 0, .int 0, .int 0, .int 0, .int 0, .ref r87, .ref r95, .ref r103, .ref r112, .ref r121, .ref r128, .int 0, .int 0]))] : va_W) ++ (wA cI r7 100 (fun _ => 0) ++ (wA cI r15 100 zr15_142 ++ (wA cI r22 4 (fun _ => 0) ++ (wA cI r30 8 (fun _ => 0) ++ (wA cI r38 8 (fun _ => 0) ++ (wA cI r46 60 (fun _ => 0) ++ (wA cI r54 60 (fun _ => 0) ++ (wA cI r62 60 (fun _ => 0) ++ (wA cI r70 60 (fun _ => 0) ++ (wA cI r79 203 (fun _ => 0) ++ (wA cI r87 6 (fun _ => 0) ++ (wA cI r95 6 (fun _ => 0) ++ (wAJ cJ r103 10 (fun _ => 0) ++ (wA cI r112 1000 (fun _ => 0) ++ (wA cI r121 480 (fun _ => 0) ++ (wAZ cZ r128 2 (fun _ => 0)))))))))))))))))) H → va_D A (([(b0, .inr (6, [.int 1023, .int 0, .int 0, .ref r7, .ref r15, .ref r22, .ref r30, .ref r38, .int 0, .ref r46, .int 0, .ref r54, .ref r62, .ref r70, .int 0, .int 0, .int 0, .int 0, .ref r79, .int 0, .int 0, .int 0, .int 0, .int 0, .ref r87, .ref r95, .ref r103, .ref r112, .ref r121, .ref r128, .int 0, .int 0]))] : va_W) ++ (wA cI r7 100 (fun _ => 0) ++ (wA cI r15 100 zr15_142 ++ (wA cI r22 4 (fun _ => 0) ++ (wA cI r30 8 (fun _ => 0) ++ (wA cI r38 8 (fun _ => 0) ++ (wA cI r46 60 (fun _ => 0) ++ (wA cI r54 60 (fun _ => 0) ++ (wA cI r62 60 (fun _ => 0) ++ (wA cI r70 60 (fun _ => 0) ++ (wA cI r79 203 (fun _ => 0) ++ (wA cI r87 6 (fun _ => 0) ++ (wA cI r95 6 (fun _ => 0) ++ (wAJ cJ r103 10 (fun _ => 0) ++ (wA cI r112 1000 (fun _ => 0) ++ (wA cI r121 480 (fun _ => 0) ++ (wAZ cZ r128 2 (fun _ => 0)))))))))))))))))) → va_S A s.heap H locs → lv_has ls 2 [(0, .ref b0), (1, .int v1_142)] → W p l e { frames := 1, cells := 16, slots := 2167, locals := 12 } s m args below meth c H locs 16 2167 Q (F0 m 142 ls []) := by
    intro j_142
    induction j_142 with
    | zero => intro v1_142 zr15_142 H locs ls h hP hD hS hl; exact loopF_0 h
    | succ j_142 ih_142 =>
      intro v1_142 zr15_142 H locs ls h hP hD hS hl
      have h := loopF_s h
      unfold b_X6_init_142 at h
      refine lv_iload_n hx hb (dAt zX6_init_0 71 rfl) rfl (lv_at hl 1 rfl) ?_
      refine lv_bipush (v := 100) hx hb (dAt zX6_init_0 72 rfl) (by decide) ?_
      refine lv_icmp_ge (tgt := 161) hx hb (dAt zX6_init_0 73 rfl) (by decide) (fun c_145 => ?_) (fun c_145 => ?_)
      · have h := q_pos c_145 h
        refine lv_iconst (v := 0) hx hb (dAt zX6_init_0 81 rfl) (by decide) ?_
        refine lv_istore_n (lv' := [(1, .int 0), (0, .ref b0)]) hx hb (dAt zX6_init_0 82 rfl) rfl hl (by decide) rfl (fun ls hl => ?_)
        have L_163 : ∀ (j_163 : Nat) (v1_163 : Int32) (zr22_163 : (Nat → Int32)) (H : Heap) (locs : List Loc) (ls : Array Slot), loopF (b_X6_init_163 n zr15_142) j_163 (v1_163, zr22_163) = some out → va_P D vwCl (([(b0, .inr (6, [.int 1023, .int 0, .int 0, .ref r7, .ref r15, .ref r22, .ref r30, .ref r38, .int 0, .ref r46, .int 0, .ref r54, .ref r62, .ref r70, .int 0, .int 0, .int 0, .int 0, .ref r79, .int 0, .int 0, .int 0, .int 0, .int 0, .ref r87, .ref r95, .ref r103, .ref r112, .ref r121, .ref r128, .int 0, .int 0]))] : va_W) ++ (wA cI r7 100 (fun _ => 0) ++ (wA cI r15 100 zr15_142 ++ (wA cI r22 4 zr22_163 ++ (wA cI r30 8 (fun _ => 0) ++ (wA cI r38 8 (fun _ => 0) ++ (wA cI r46 60 (fun _ => 0) ++ (wA cI r54 60 (fun _ => 0) ++ (wA cI r62 60 (fun _ => 0) ++ (wA cI r70 60 (fun _ => 0) ++ (wA cI r79 203 (fun _ => 0) ++ (wA cI r87 6 (fun _ => 0) ++ (wA cI r95 6 (fun _ => 0) ++ (wAJ cJ r103 10 (fun _ => 0) ++ (wA cI r112 1000 (fun _ => 0) ++ (wA cI r121 480 (fun _ => 0) ++ (wAZ cZ r128 2 (fun _ => 0)))))))))))))))))) H → va_D A (([(b0, .inr (6, [.int 1023, .int 0, .int 0, .ref r7, .ref r15, .ref r22, .ref r30, .ref r38, .int 0, .ref r46, .int 0, .ref r54, .ref r62, .ref r70, .int 0, .int 0, .int 0, .int 0, .ref r79, .int 0, .int 0, .int 0, .int 0, .int 0, .ref r87, .ref r95, .ref r103, .ref r112, .ref r121, .ref r128, .int 0, .int 0]))] : va_W) ++ (wA cI r7 100 (fun _ => 0) ++ (wA cI r15 100 zr15_142 ++ (wA cI r22 4 zr22_163 ++ (wA cI r30 8 (fun _ => 0) ++ (wA cI r38 8 (fun _ => 0) ++ (wA cI r46 60 (fun _ => 0) ++ (wA cI r54 60 (fun _ => 0) ++ (wA cI r62 60 (fun _ => 0) ++ (wA cI r70 60 (fun _ => 0) ++ (wA cI r79 203 (fun _ => 0) ++ (wA cI r87 6 (fun _ => 0) ++ (wA cI r95 6 (fun _ => 0) ++ (wAJ cJ r103 10 (fun _ => 0) ++ (wA cI r112 1000 (fun _ => 0) ++ (wA cI r121 480 (fun _ => 0) ++ (wAZ cZ r128 2 (fun _ => 0)))))))))))))))))) → va_S A s.heap H locs → lv_has ls 2 [(0, .ref b0), (1, .int v1_163)] → W p l e { frames := 1, cells := 16, slots := 2167, locals := 12 } s m args below meth c H locs 16 2167 Q (F0 m 163 ls []) := by
          intro j_163
          induction j_163 with
          | zero => intro v1_163 zr22_163 H locs ls h hP hD hS hl; exact loopF_0 h
          | succ j_163 ih_163 =>
            intro v1_163 zr22_163 H locs ls h hP hD hS hl
            have h := loopF_s h
            unfold b_X6_init_163 at h
            refine lv_iload_n hx hb (dAt zX6_init_0 83 rfl) rfl (lv_at hl 1 rfl) ?_
            refine lv_iconst (v := 4) hx hb (dAt zX6_init_0 84 rfl) (by decide) ?_
            refine lv_icmp_ge (tgt := 181) hx hb (dAt zX6_init_0 85 rfl) (by decide) (fun c_165 => ?_) (fun c_165 => ?_)
            · have h := q_pos c_165 h
              obtain rfl := q_some h
              have hP : va_P D vwCl (w6 cI cJ cZ (fun k => match Nat.beq k 4 with | true => r7 | false => match Nat.beq k 5 with | true => r15 | false => match Nat.beq k 6 with | true => r22 | false => match Nat.beq k 7 with | true => r30 | false => match Nat.beq k 8 with | true => r38 | false => match Nat.beq k 10 with | true => r46 | false => match Nat.beq k 12 with | true => r54 | false => match Nat.beq k 13 with | true => r62 | false => match Nat.beq k 14 with | true => r70 | false => match Nat.beq k 19 with | true => r79 | false => match Nat.beq k 25 with | true => r87 | false => match Nat.beq k 26 with | true => r95 | false => match Nat.beq k 27 with | true => r103 | false => match Nat.beq k 28 with | true => r112 | false => match Nat.beq k 29 with | true => r121 | false => match Nat.beq k 30 with | true => r128 | false => b0) (mk6 1023 0 0 0 0 0 0 0 0 0 0 0 0 0 0 0 (fun _ => 0) zr15_142 zr22_163 (fun _ => 0) (fun _ => 0) (fun _ => 0) (fun _ => 0) (fun _ => 0) (fun _ => 0) (fun _ => 0) (fun _ => 0) (fun _ => 0) (fun _ => 0) (fun _ => 0) (fun _ => 0), mkL6 (fun _ => 0)).1 (mk6 1023 0 0 0 0 0 0 0 0 0 0 0 0 0 0 0 (fun _ => 0) zr15_142 zr22_163 (fun _ => 0) (fun _ => 0) (fun _ => 0) (fun _ => 0) (fun _ => 0) (fun _ => 0) (fun _ => 0) (fun _ => 0) (fun _ => 0) (fun _ => 0) (fun _ => 0) (fun _ => 0), mkL6 (fun _ => 0)).2) H := hP
              have hD : va_D A (w6 cI cJ cZ (fun k => match Nat.beq k 4 with | true => r7 | false => match Nat.beq k 5 with | true => r15 | false => match Nat.beq k 6 with | true => r22 | false => match Nat.beq k 7 with | true => r30 | false => match Nat.beq k 8 with | true => r38 | false => match Nat.beq k 10 with | true => r46 | false => match Nat.beq k 12 with | true => r54 | false => match Nat.beq k 13 with | true => r62 | false => match Nat.beq k 14 with | true => r70 | false => match Nat.beq k 19 with | true => r79 | false => match Nat.beq k 25 with | true => r87 | false => match Nat.beq k 26 with | true => r95 | false => match Nat.beq k 27 with | true => r103 | false => match Nat.beq k 28 with | true => r112 | false => match Nat.beq k 29 with | true => r121 | false => match Nat.beq k 30 with | true => r128 | false => b0) (mk6 1023 0 0 0 0 0 0 0 0 0 0 0 0 0 0 0 (fun _ => 0) zr15_142 zr22_163 (fun _ => 0) (fun _ => 0) (fun _ => 0) (fun _ => 0) (fun _ => 0) (fun _ => 0) (fun _ => 0) (fun _ => 0) (fun _ => 0) (fun _ => 0) (fun _ => 0) (fun _ => 0), mkL6 (fun _ => 0)).1 (mk6 1023 0 0 0 0 0 0 0 0 0 0 0 0 0 0 0 (fun _ => 0) zr15_142 zr22_163 (fun _ => 0) (fun _ => 0) (fun _ => 0) (fun _ => 0) (fun _ => 0) (fun _ => 0) (fun _ => 0) (fun _ => 0) (fun _ => 0) (fun _ => 0) (fun _ => 0) (fun _ => 0), mkL6 (fun _ => 0)).2) := hD
              exact xRvI (fun k => match Nat.beq k 4 with | true => r7 | false => match Nat.beq k 5 with | true => r15 | false => match Nat.beq k 6 with | true => r22 | false => match Nat.beq k 7 with | true => r30 | false => match Nat.beq k 8 with | true => r38 | false => match Nat.beq k 10 with | true => r46 | false => match Nat.beq k 12 with | true => r54 | false => match Nat.beq k 13 with | true => r62 | false => match Nat.beq k 14 with | true => r70 | false => match Nat.beq k 19 with | true => r79 | false => match Nat.beq k 25 with | true => r87 | false => match Nat.beq k 26 with | true => r95 | false => match Nat.beq k 27 with | true => r103 | false => match Nat.beq k 28 with | true => r112 | false => match Nat.beq k 29 with | true => r121 | false => match Nat.beq k 30 with | true => r128 | false => b0) hx hb hr hlocks hQ hAe (by simp) hP hD hK hS (dAt zX6_init_0 93 rfl)
            · have h := q_neg c_165 h
              refine lv_aload_n hx hb (dAt zX6_init_0 86 rfl) rfl (lv_at hl 0 rfl) ?_
              refine va_get (D := D) (ci := 6) (v := .ref r22) (C := RX6) (T := TX6) (N := 32) hx hb htl inlX6 hown hK hP 0 rfl rfl 5 (by decide) (htl _ W_87) (fun _ h9 => h9) rfl (dAt zX6_init_0 87 rfl) ?_
              refine lv_iload_n hx hb (dAt zX6_init_0 88 rfl) rfl (lv_at hl 1 rfl) ?_
              refine lv_iconst (v := 1) hx hb (dAt zX6_init_0 89 rfl) (by decide) ?_
              obtain ⟨hi_174, h⟩ := q_in h
              refine va_iast hx hb hK hP hD hS 3 0 rfl rfl hi_174 (dAt zX6_init_0 90 rfl) (fun H locs hP hD hS => ?_)
              have hP : va_P D vwCl (([(b0, .inr (6, [.int 1023, .int 0, .int 0, .ref r7, .ref r15, .ref r22, .ref r30, .ref r38, .int 0, .ref r46, .int 0, .ref r54, .ref r62, .ref r70, .int 0, .int 0, .int 0, .int 0, .ref r79, .int 0, .int 0, .int 0, .int 0, .int 0, .ref r87, .ref r95, .ref r103, .ref r112, .ref r121, .ref r128, .int 0, .int 0]))] : va_W) ++ (wA cI r7 100 (fun _ => 0) ++ (wA cI r15 100 zr15_142 ++ (wA cI r22 4 (upd zr22_163 (Int32.toNatClampNeg v1_163) 1) ++ (wA cI r30 8 (fun _ => 0) ++ (wA cI r38 8 (fun _ => 0) ++ (wA cI r46 60 (fun _ => 0) ++ (wA cI r54 60 (fun _ => 0) ++ (wA cI r62 60 (fun _ => 0) ++ (wA cI r70 60 (fun _ => 0) ++ (wA cI r79 203 (fun _ => 0) ++ (wA cI r87 6 (fun _ => 0) ++ (wA cI r95 6 (fun _ => 0) ++ (wAJ cJ r103 10 (fun _ => 0) ++ (wA cI r112 1000 (fun _ => 0) ++ (wA cI r121 480 (fun _ => 0) ++ (wAZ cZ r128 2 (fun _ => 0)))))))))))))))))) H := hP
              have hD : va_D A (([(b0, .inr (6, [.int 1023, .int 0, .int 0, .ref r7, .ref r15, .ref r22, .ref r30, .ref r38, .int 0, .ref r46, .int 0, .ref r54, .ref r62, .ref r70, .int 0, .int 0, .int 0, .int 0, .ref r79, .int 0, .int 0, .int 0, .int 0, .int 0, .ref r87, .ref r95, .ref r103, .ref r112, .ref r121, .ref r128, .int 0, .int 0]))] : va_W) ++ (wA cI r7 100 (fun _ => 0) ++ (wA cI r15 100 zr15_142 ++ (wA cI r22 4 (upd zr22_163 (Int32.toNatClampNeg v1_163) 1) ++ (wA cI r30 8 (fun _ => 0) ++ (wA cI r38 8 (fun _ => 0) ++ (wA cI r46 60 (fun _ => 0) ++ (wA cI r54 60 (fun _ => 0) ++ (wA cI r62 60 (fun _ => 0) ++ (wA cI r70 60 (fun _ => 0) ++ (wA cI r79 203 (fun _ => 0) ++ (wA cI r87 6 (fun _ => 0) ++ (wA cI r95 6 (fun _ => 0) ++ (wAJ cJ r103 10 (fun _ => 0) ++ (wA cI r112 1000 (fun _ => 0) ++ (wA cI r121 480 (fun _ => 0) ++ (wAZ cZ r128 2 (fun _ => 0)))))))))))))))))) := hD
              refine lv_iinc (v := (v1_163 + 1)) (lv' := [(1, .int (v1_163 + 1)), (0, .ref b0)]) hx hb (dAt zX6_init_0 91 rfl) hl (k := 1) rfl rfl (by decide) rfl (fun ls hl => ?_)
              refine lv_goto (tgt := 163) hx hb (dAt zX6_init_0 92 rfl) (by decide) ?_
              exact ih_163 (v1_163 + 1) (upd zr22_163 (Int32.toNatClampNeg v1_163) 1) _ _ _ h hP hD hS (lv_sub hl [1, 0] rfl)
        exact L_163 n 0 (fun _ => 0) _ _ _ h hP hD hS (lv_sub hl [1, 0] rfl)
      · have h := q_neg c_145 h
        refine lv_aload_n hx hb (dAt zX6_init_0 74 rfl) rfl (lv_at hl 0 rfl) ?_
        refine va_get (D := D) (ci := 6) (v := .ref r15) (C := RX6) (T := TX6) (N := 32) hx hb htl inlX6 hown hK hP 0 rfl rfl 4 (by decide) (htl _ W_86) (fun _ h9 => h9) rfl (dAt zX6_init_0 75 rfl) ?_
        refine lv_iload_n hx hb (dAt zX6_init_0 76 rfl) rfl (lv_at hl 1 rfl) ?_
        refine lv_iconst (v := 2) hx hb (dAt zX6_init_0 77 rfl) (by decide) ?_
        obtain ⟨hi_154, h⟩ := q_in h
        refine va_iast hx hb hK hP hD hS 2 0 rfl rfl hi_154 (dAt zX6_init_0 78 rfl) (fun H locs hP hD hS => ?_)
        have hP : va_P D vwCl (([(b0, .inr (6, [.int 1023, .int 0, .int 0, .ref r7, .ref r15, .ref r22, .ref r30, .ref r38, .int 0, .ref r46, .int 0, .ref r54, .ref r62, .ref r70, .int 0, .int 0, .int 0, .int 0, .ref r79, .int 0, .int 0, .int 0, .int 0, .int 0, .ref r87, .ref r95, .ref r103, .ref r112, .ref r121, .ref r128, .int 0, .int 0]))] : va_W) ++ (wA cI r7 100 (fun _ => 0) ++ (wA cI r15 100 (upd zr15_142 (Int32.toNatClampNeg v1_142) 2) ++ (wA cI r22 4 (fun _ => 0) ++ (wA cI r30 8 (fun _ => 0) ++ (wA cI r38 8 (fun _ => 0) ++ (wA cI r46 60 (fun _ => 0) ++ (wA cI r54 60 (fun _ => 0) ++ (wA cI r62 60 (fun _ => 0) ++ (wA cI r70 60 (fun _ => 0) ++ (wA cI r79 203 (fun _ => 0) ++ (wA cI r87 6 (fun _ => 0) ++ (wA cI r95 6 (fun _ => 0) ++ (wAJ cJ r103 10 (fun _ => 0) ++ (wA cI r112 1000 (fun _ => 0) ++ (wA cI r121 480 (fun _ => 0) ++ (wAZ cZ r128 2 (fun _ => 0)))))))))))))))))) H := hP
        have hD : va_D A (([(b0, .inr (6, [.int 1023, .int 0, .int 0, .ref r7, .ref r15, .ref r22, .ref r30, .ref r38, .int 0, .ref r46, .int 0, .ref r54, .ref r62, .ref r70, .int 0, .int 0, .int 0, .int 0, .ref r79, .int 0, .int 0, .int 0, .int 0, .int 0, .ref r87, .ref r95, .ref r103, .ref r112, .ref r121, .ref r128, .int 0, .int 0]))] : va_W) ++ (wA cI r7 100 (fun _ => 0) ++ (wA cI r15 100 (upd zr15_142 (Int32.toNatClampNeg v1_142) 2) ++ (wA cI r22 4 (fun _ => 0) ++ (wA cI r30 8 (fun _ => 0) ++ (wA cI r38 8 (fun _ => 0) ++ (wA cI r46 60 (fun _ => 0) ++ (wA cI r54 60 (fun _ => 0) ++ (wA cI r62 60 (fun _ => 0) ++ (wA cI r70 60 (fun _ => 0) ++ (wA cI r79 203 (fun _ => 0) ++ (wA cI r87 6 (fun _ => 0) ++ (wA cI r95 6 (fun _ => 0) ++ (wAJ cJ r103 10 (fun _ => 0) ++ (wA cI r112 1000 (fun _ => 0) ++ (wA cI r121 480 (fun _ => 0) ++ (wAZ cZ r128 2 (fun _ => 0)))))))))))))))))) := hD
        refine lv_iinc (v := (v1_142 + 1)) (lv' := [(1, .int (v1_142 + 1)), (0, .ref b0)]) hx hb (dAt zX6_init_0 79 rfl) hl (k := 1) rfl rfl (by decide) rfl (fun ls hl => ?_)
        refine lv_goto (tgt := 142) hx hb (dAt zX6_init_0 80 rfl) (by decide) ?_
        exact ih_142 (v1_142 + 1) (upd zr15_142 (Int32.toNatClampNeg v1_142) 2) _ _ _ h hP hD hS (lv_sub hl [1, 0] rfl)
  exact L_142 n 0 (fun _ => 0) _ _ _ h hP hD hS (lv_sub hl [1, 0] rfl)
noncomputable def m_X5_init (n : Nat) : Option (TI × TI × TI × TI × TI × TI × TI × TI × TL) := ((m_X4_init n).bind fun u9 => ((m_X4_init n).bind fun u20 => ((m_X4_init n).bind fun u31 => ((m_X2_init n).bind fun u47 => ((m_X1_init n).bind fun u58 => ((m_X3_init n).bind fun u69 => ((m_X0_init n).bind fun u80 => some (mk5 0, u9, u20, u31, u47, u58.1, u58.2, u69, u80))))))))
set_option maxHeartbeats 4000000 in
set_option maxRecDepth 100000 in
theorem c_X5_init (l : Launch) (D : va_G) (cI cJ cZ : ClassId) (n : Nat) (b0 : Nat) (sz : Nat) (out : TI × TI × TI × TI × TI × TI × TI × TI × TL) (hm : m_X5_init n = some out) : Met l yX5_init (wsM yX5_init cX5_init 1 none) { frames := 3, cells := 29, slots := 1002, locals := 53 } (xPre D (kT cI cJ cZ) ([(b0, .inr (5, [.null, .null, .null, .int 0, .null, .null, .null, .null]))] : va_W) sz [.ref b0]) (xQvI D (kT cI cJ cZ) ([(b0, .inr (5, [.null, .null, .null, .int 0, .null, .null, .null, .null]))] : va_W) (fun q : (Nat → Nat) × (Nat → Nat) × (Nat → Nat) × (Nat → Nat) × (Nat → Nat) × (Nat → Nat) × (Nat → Nat) × (Nat → Nat) × (Nat → Nat) => (w5 q.1 q.2.1 q.2.2.1 q.2.2.2.1 q.2.2.2.2.1 q.2.2.2.2.2.1 q.2.2.2.2.2.2.2.1 q.2.2.2.2.2.2.2.2 out.1 ++ (w4 cI q.2.1 out.2.1 ++ (w4 cI q.2.2.1 out.2.2.1 ++ (w4 cI q.2.2.2.1 out.2.2.2.1 ++ (w2 cI q.2.2.2.2.1 out.2.2.2.2.1 ++ (w1 q.2.2.2.2.2.1 q.2.2.2.2.2.2.1 out.2.2.2.2.2.1 ++ (w4 cI q.2.2.2.2.2.2.1 out.2.2.2.2.2.2.1 ++ (w3 cI q.2.2.2.2.2.2.2.1 out.2.2.2.2.2.2.2.1 ++ (w0 cJ q.2.2.2.2.2.2.2.2 out.2.2.2.2.2.2.2.2)))))))))) sz (fun q => q.1 0 = b0)) 29 1002 (va_A ([(b0, .inr (5, [.null, .null, .null, .int 0, .null, .null, .null, .null]))] : va_W) sz) := by
  refine Met.ofW (cc := cX5_init) (maxL := 1) (ret := none) (by decide) rfl ?_
  intro p e s m args below meth c s₁ B hml hv
  obtain ⟨hv, hsz, hP, hK, hD0, hN⟩ := hv
  have hx := B.exec; have hb := B.bytes; have hr := B.returns
  have hts := atoms_spec (ws := (wsM yX5_init cX5_init 1 none)) B.pre
  have hown : s.vm.findClass RX5 = some m.cls := findClass_of_methodNamed B.named
  have hlocks := B.notSynchronized
  have hin : meth.name = "<init>" := (name_of_methodNamed B.named B.method).1
  subst hsz
  have hD := hD0.self (sz := s.heap.size)
  obtain ⟨A, hAe⟩ : ∃ A, A = va_A ([(b0, .inr (5, [.null, .null, .null, .int 0, .null, .null, .null, .null]))] : va_W) s.heap.size := ⟨_, rfl⟩
  rw [← hAe] at hD
  have hA : ∀ q : Nat, s.heap.size ≤ q → A q := fun q h => by rw [hAe]; exact Or.inr h
  have htl : ∀ w ∈ wsL_law, w.before args s = true := fun w h => hts w (List.mem_cons_of_mem _ h)
  refine xHead (R' := { frames := 3, cells := 29, slots := 1002, locals := 53 }) rfl (fun Q H hQ hH => ?_)
  have hP : va_P D vwCl ([(b0, .inr (5, [.null, .null, .null, .int 0, .null, .null, .null, .null]))] : va_W) H := by rw [hH]; exact hP
  have hS : va_S A s.heap H [] := by rw [hH]; exact va_S.rf
  refine xStart hv (Nat.le_of_ble_eq_true rfl) (lv := [(0, .ref b0)]) rfl (fun ls hl => ?_)
  have h := hm
  unfold m_X5_init at h
  refine lv_aload_n hx hb (dAt zX5_init_0 0 rfl) rfl (lv_at hl 0 rfl) ?_
  refine W.objInit hx hb hown (htl _ W_9) (htl _ W_10) (htl _ W_11) rfl (by rw [hml]; exact hl.1) rfl (dAt zX5_init_0 1 rfl) (Nat.le_of_ble_eq_true rfl) (Nat.le_of_ble_eq_true rfl) ?_
  refine W.eq (g2 := F0 m 4 ls []) rfl ?_
  refine lv_aload_n hx hb (dAt zX5_init_0 2 rfl) rfl (lv_at hl 0 rfl) ?_
  refine va_new (ci := 4) (fs := [.int 0, .int 0, .int 0, .int 0, .int 0, .null, .null, .null, .null]) (C := RX4) (T := TX4) (N := 9) hx hb htl inlX4 tyX4 tyX4_ok hown (htl _ W_12) (htl _ W_13) (htl _ W_14) hK hP hD hS hA rfl (fun j hj => by rcases (show j = 0 ∨ j = 1 ∨ j = 2 ∨ j = 3 ∨ j = 4 ∨ j = 5 ∨ j = 6 ∨ j = 7 ∨ j = 8 by omega) with rfl | rfl | rfl | rfl | rfl | rfl | rfl | rfl | rfl <;> rfl) (Nat.le_of_ble_eq_true rfl) (Nat.le_of_ble_eq_true rfl) (dAt zX5_init_0 3 rfl) (fun b5 H hP hD hS => ?_)
  have hP : va_P D vwCl (([(b0, .inr (5, [.null, .null, .null, .int 0, .null, .null, .null, .null]))] : va_W) ++ (([(b5, .inr (4, [.int 0, .int 0, .int 0, .int 0, .int 0, .null, .null, .null, .null]))] : va_W))) H := hP
  have hD : va_D A (([(b0, .inr (5, [.null, .null, .null, .int 0, .null, .null, .null, .null]))] : va_W) ++ (([(b5, .inr (4, [.int 0, .int 0, .int 0, .int 0, .int 0, .null, .null, .null, .null]))] : va_W))) := hD
  refine W.widen (k := 1) (n := 9) (by omega) (by omega) ?_
  refine lv_dup hx hb (dAt zX5_init_0 4 rfl) rfl ?_
  obtain ⟨u9, hu9, h⟩ := q_bind h
  have hPc : va_P D vwCl ([(b5, .inr (4, [.int 0, .int 0, .int 0, .int 0, .int 0, .null, .null, .null, .null]))] : va_W) H := hP.sub [1] rfl
  have hDc : va_D A ([(b5, .inr (4, [.int 0, .int 0, .int 0, .int 0, .int 0, .null, .null, .null, .null]))] : va_W) := hD.sub [1] (by decide) rfl
  refine xFvI (wc := ([(b5, .inr (4, [.int 0, .int 0, .int 0, .int 0, .int 0, .null, .null, .null, .null]))] : va_W)) (wr := (([(b0, .inr (5, [.null, .null, .null, .int 0, .null, .null, .null, .null]))] : va_W))) (va_runI (As := []) (rest := [.ref b5, .ref b0]) ⟨hx, hb, hml, hown, htl⟩ (c_X4_init l D cI cJ cZ n b5 H.size u9 hu9) (cwI 0 htl (gM W_37) rfl rfl rfl (htl _ W_14) (htl _ W_35) (htl _ W_36) rfl (by decide +kernel) ⟨Nat.le_of_ble_eq_true rfl, Nat.le_of_ble_eq_true rfl⟩) (xPS hPc hDc hK hN) rfl rfl hl.1 rfl (lv_room (Nat.le_of_ble_eq_true rfl)) (dAt zX5_init_0 5 rfl) ⟨Nat.le_of_ble_eq_true rfl, Nat.le_of_ble_eq_true rfl⟩) hS hA hP hD [1] [0] rfl rfl (by decide) (by decide) (fun q9 H2 locs2 e_q9 hP2 hD2 hS2 => ?_)
  subst e_q9
  have hS := hS2; clear hS2; have hP := hP2; clear hP2; have hD := hD2; clear hD2
  generalize H2 = H at hP hS ⊢; generalize locs2 = locs at hS ⊢
  have hP : va_P D vwCl (([(b0, .inr (5, [.null, .null, .null, .int 0, .null, .null, .null, .null]))] : va_W) ++ ((w4 cI q9 u9))) H := hP
  have hD : va_D A (([(b0, .inr (5, [.null, .null, .null, .int 0, .null, .null, .null, .null]))] : va_W) ++ ((w4 cI q9 u9))) := hD
  refine W.widen (k := 5) (n := 221) (by omega) (by omega) ?_
  refine va_putF (D := D) (ci := 5) (v := .ref (q9 0)) (ty := (.object "LastTrain$Town")) (C := RX5) (T := TX5) (N := 8) hx hb htl inlX5 tyX5 tyX5_ok nmX5 hown hK hP hD hS 0 rfl rfl 0 (by decide) (htl _ W_15) (fun _ h9 => h9) rfl hin rfl (by decide +kernel) rfl rfl (Nat.le_of_ble_eq_true rfl) (dAt zX5_init_0 6 rfl) (fun H locs hP hD hS => ?_)
  have hP : va_P D vwCl (([(b0, .inr (5, [.ref (q9 0), .null, .null, .int 0, .null, .null, .null, .null]))] : va_W) ++ ((w4 cI q9 u9))) H := hP
  have hD : va_D A (([(b0, .inr (5, [.ref (q9 0), .null, .null, .int 0, .null, .null, .null, .null]))] : va_W) ++ ((w4 cI q9 u9))) := hD
  refine lv_aload_n hx hb (dAt zX5_init_0 7 rfl) rfl (lv_at hl 0 rfl) ?_
  refine va_new (ci := 4) (fs := [.int 0, .int 0, .int 0, .int 0, .int 0, .null, .null, .null, .null]) (C := RX4) (T := TX4) (N := 9) hx hb htl inlX4 tyX4 tyX4_ok hown (htl _ W_12) (htl _ W_13) (htl _ W_14) hK hP hD hS hA rfl (fun j hj => by rcases (show j = 0 ∨ j = 1 ∨ j = 2 ∨ j = 3 ∨ j = 4 ∨ j = 5 ∨ j = 6 ∨ j = 7 ∨ j = 8 by omega) with rfl | rfl | rfl | rfl | rfl | rfl | rfl | rfl | rfl <;> rfl) (Nat.le_of_ble_eq_true rfl) (Nat.le_of_ble_eq_true rfl) (dAt zX5_init_0 8 rfl) (fun b16 H hP hD hS => ?_)
  have hP : va_P D vwCl (([(b0, .inr (5, [.ref (q9 0), .null, .null, .int 0, .null, .null, .null, .null]))] : va_W) ++ ((w4 cI q9 u9) ++ (([(b16, .inr (4, [.int 0, .int 0, .int 0, .int 0, .int 0, .null, .null, .null, .null]))] : va_W)))) H := hP
  have hD : va_D A (([(b0, .inr (5, [.ref (q9 0), .null, .null, .int 0, .null, .null, .null, .null]))] : va_W) ++ ((w4 cI q9 u9) ++ (([(b16, .inr (4, [.int 0, .int 0, .int 0, .int 0, .int 0, .null, .null, .null, .null]))] : va_W)))) := hD
  refine W.widen (k := 6) (n := 230) (by omega) (by omega) ?_
  refine lv_dup hx hb (dAt zX5_init_0 9 rfl) rfl ?_
  obtain ⟨u20, hu20, h⟩ := q_bind h
  have hPc : va_P D vwCl ([(b16, .inr (4, [.int 0, .int 0, .int 0, .int 0, .int 0, .null, .null, .null, .null]))] : va_W) H := hP.sub [6] rfl
  have hDc : va_D A ([(b16, .inr (4, [.int 0, .int 0, .int 0, .int 0, .int 0, .null, .null, .null, .null]))] : va_W) := hD.sub [6] (by decide) rfl
  refine xFvI (wc := ([(b16, .inr (4, [.int 0, .int 0, .int 0, .int 0, .int 0, .null, .null, .null, .null]))] : va_W)) (wr := (([(b0, .inr (5, [.ref (q9 0), .null, .null, .int 0, .null, .null, .null, .null]))] : va_W) ++ ((w4 cI q9 u9)))) (va_runI (As := []) (rest := [.ref b16, .ref b0]) ⟨hx, hb, hml, hown, htl⟩ (c_X4_init l D cI cJ cZ n b16 H.size u20 hu20) (cwI 0 htl (gM W_37) rfl rfl rfl (htl _ W_14) (htl _ W_35) (htl _ W_36) rfl (by decide +kernel) ⟨Nat.le_of_ble_eq_true rfl, Nat.le_of_ble_eq_true rfl⟩) (xPS hPc hDc hK hN) rfl rfl hl.1 rfl (lv_room (Nat.le_of_ble_eq_true rfl)) (dAt zX5_init_0 10 rfl) ⟨Nat.le_of_ble_eq_true rfl, Nat.le_of_ble_eq_true rfl⟩) hS hA hP hD [6] [0, 1, 2, 3, 4, 5] rfl rfl (by decide) (by decide) (fun q20 H2 locs2 e_q20 hP2 hD2 hS2 => ?_)
  subst e_q20
  have hS := hS2; clear hS2; have hP := hP2; clear hP2; have hD := hD2; clear hD2
  generalize H2 = H at hP hS ⊢; generalize locs2 = locs at hS ⊢
  have hP : va_P D vwCl (([(b0, .inr (5, [.ref (q9 0), .null, .null, .int 0, .null, .null, .null, .null]))] : va_W) ++ ((w4 cI q9 u9) ++ ((w4 cI q20 u20)))) H := hP
  have hD : va_D A (([(b0, .inr (5, [.ref (q9 0), .null, .null, .int 0, .null, .null, .null, .null]))] : va_W) ++ ((w4 cI q9 u9) ++ ((w4 cI q20 u20)))) := hD
  refine W.widen (k := 10) (n := 442) (by omega) (by omega) ?_
  refine va_putF (D := D) (ci := 5) (v := .ref (q20 0)) (ty := (.object "LastTrain$Town")) (C := RX5) (T := TX5) (N := 8) hx hb htl inlX5 tyX5 tyX5_ok nmX5 hown hK hP hD hS 0 rfl rfl 1 (by decide) (htl _ W_16) (fun _ h9 => h9) rfl hin rfl (by decide +kernel) rfl rfl (Nat.le_of_ble_eq_true rfl) (dAt zX5_init_0 11 rfl) (fun H locs hP hD hS => ?_)
  have hP : va_P D vwCl (([(b0, .inr (5, [.ref (q9 0), .ref (q20 0), .null, .int 0, .null, .null, .null, .null]))] : va_W) ++ ((w4 cI q9 u9) ++ ((w4 cI q20 u20)))) H := hP
  have hD : va_D A (([(b0, .inr (5, [.ref (q9 0), .ref (q20 0), .null, .int 0, .null, .null, .null, .null]))] : va_W) ++ ((w4 cI q9 u9) ++ ((w4 cI q20 u20)))) := hD
  refine lv_aload_n hx hb (dAt zX5_init_0 12 rfl) rfl (lv_at hl 0 rfl) ?_
  refine va_new (ci := 4) (fs := [.int 0, .int 0, .int 0, .int 0, .int 0, .null, .null, .null, .null]) (C := RX4) (T := TX4) (N := 9) hx hb htl inlX4 tyX4 tyX4_ok hown (htl _ W_12) (htl _ W_13) (htl _ W_14) hK hP hD hS hA rfl (fun j hj => by rcases (show j = 0 ∨ j = 1 ∨ j = 2 ∨ j = 3 ∨ j = 4 ∨ j = 5 ∨ j = 6 ∨ j = 7 ∨ j = 8 by omega) with rfl | rfl | rfl | rfl | rfl | rfl | rfl | rfl | rfl <;> rfl) (Nat.le_of_ble_eq_true rfl) (Nat.le_of_ble_eq_true rfl) (dAt zX5_init_0 13 rfl) (fun b27 H hP hD hS => ?_)
  have hP : va_P D vwCl (([(b0, .inr (5, [.ref (q9 0), .ref (q20 0), .null, .int 0, .null, .null, .null, .null]))] : va_W) ++ ((w4 cI q9 u9) ++ ((w4 cI q20 u20) ++ (([(b27, .inr (4, [.int 0, .int 0, .int 0, .int 0, .int 0, .null, .null, .null, .null]))] : va_W))))) H := hP
  have hD : va_D A (([(b0, .inr (5, [.ref (q9 0), .ref (q20 0), .null, .int 0, .null, .null, .null, .null]))] : va_W) ++ ((w4 cI q9 u9) ++ ((w4 cI q20 u20) ++ (([(b27, .inr (4, [.int 0, .int 0, .int 0, .int 0, .int 0, .null, .null, .null, .null]))] : va_W))))) := hD
  refine W.widen (k := 11) (n := 451) (by omega) (by omega) ?_
  refine lv_dup hx hb (dAt zX5_init_0 14 rfl) rfl ?_
  obtain ⟨u31, hu31, h⟩ := q_bind h
  have hPc : va_P D vwCl ([(b27, .inr (4, [.int 0, .int 0, .int 0, .int 0, .int 0, .null, .null, .null, .null]))] : va_W) H := hP.sub [11] rfl
  have hDc : va_D A ([(b27, .inr (4, [.int 0, .int 0, .int 0, .int 0, .int 0, .null, .null, .null, .null]))] : va_W) := hD.sub [11] (by decide) rfl
  refine xFvI (wc := ([(b27, .inr (4, [.int 0, .int 0, .int 0, .int 0, .int 0, .null, .null, .null, .null]))] : va_W)) (wr := (([(b0, .inr (5, [.ref (q9 0), .ref (q20 0), .null, .int 0, .null, .null, .null, .null]))] : va_W) ++ ((w4 cI q9 u9) ++ ((w4 cI q20 u20))))) (va_runI (As := []) (rest := [.ref b27, .ref b0]) ⟨hx, hb, hml, hown, htl⟩ (c_X4_init l D cI cJ cZ n b27 H.size u31 hu31) (cwI 0 htl (gM W_37) rfl rfl rfl (htl _ W_14) (htl _ W_35) (htl _ W_36) rfl (by decide +kernel) ⟨Nat.le_of_ble_eq_true rfl, Nat.le_of_ble_eq_true rfl⟩) (xPS hPc hDc hK hN) rfl rfl hl.1 rfl (lv_room (Nat.le_of_ble_eq_true rfl)) (dAt zX5_init_0 15 rfl) ⟨Nat.le_of_ble_eq_true rfl, Nat.le_of_ble_eq_true rfl⟩) hS hA hP hD [11] [0, 1, 2, 3, 4, 5, 6, 7, 8, 9, 10] rfl rfl (by decide) (by decide) (fun q31 H2 locs2 e_q31 hP2 hD2 hS2 => ?_)
  subst e_q31
  have hS := hS2; clear hS2; have hP := hP2; clear hP2; have hD := hD2; clear hD2
  generalize H2 = H at hP hS ⊢; generalize locs2 = locs at hS ⊢
  have hP : va_P D vwCl (([(b0, .inr (5, [.ref (q9 0), .ref (q20 0), .null, .int 0, .null, .null, .null, .null]))] : va_W) ++ ((w4 cI q9 u9) ++ ((w4 cI q20 u20) ++ ((w4 cI q31 u31))))) H := hP
  have hD : va_D A (([(b0, .inr (5, [.ref (q9 0), .ref (q20 0), .null, .int 0, .null, .null, .null, .null]))] : va_W) ++ ((w4 cI q9 u9) ++ ((w4 cI q20 u20) ++ ((w4 cI q31 u31))))) := hD
  refine W.widen (k := 15) (n := 663) (by omega) (by omega) ?_
  refine va_putF (D := D) (ci := 5) (v := .ref (q31 0)) (ty := (.object "LastTrain$Town")) (C := RX5) (T := TX5) (N := 8) hx hb htl inlX5 tyX5 tyX5_ok nmX5 hown hK hP hD hS 0 rfl rfl 2 (by decide) (htl _ W_17) (fun _ h9 => h9) rfl hin rfl (by decide +kernel) rfl rfl (Nat.le_of_ble_eq_true rfl) (dAt zX5_init_0 16 rfl) (fun H locs hP hD hS => ?_)
  have hP : va_P D vwCl (([(b0, .inr (5, [.ref (q9 0), .ref (q20 0), .ref (q31 0), .int 0, .null, .null, .null, .null]))] : va_W) ++ ((w4 cI q9 u9) ++ ((w4 cI q20 u20) ++ ((w4 cI q31 u31))))) H := hP
  have hD : va_D A (([(b0, .inr (5, [.ref (q9 0), .ref (q20 0), .ref (q31 0), .int 0, .null, .null, .null, .null]))] : va_W) ++ ((w4 cI q9 u9) ++ ((w4 cI q20 u20) ++ ((w4 cI q31 u31))))) := hD
  refine lv_aload_n hx hb (dAt zX5_init_0 17 rfl) rfl (lv_at hl 0 rfl) ?_
  refine lv_iconst (v := 0) hx hb (dAt zX5_init_0 18 rfl) (by decide) ?_
  refine va_put (D := D) (ci := 5) (v := .int 0) (ty := .int) (C := RX5) (T := TX5) (N := 8) hx hb htl inlX5 tyX5 tyX5_ok nmX5 hown hK hP hD hS 0 rfl rfl 3 (by decide) (htl _ W_18) (fun _ h9 => h9) rfl (by decide +kernel) rfl rfl (Nat.le_of_ble_eq_true rfl) (dAt zX5_init_0 19 rfl) (fun H locs hP hD hS => ?_)
  have hP : va_P D vwCl (([(b0, .inr (5, [.ref (q9 0), .ref (q20 0), .ref (q31 0), .int 0, .null, .null, .null, .null]))] : va_W) ++ ((w4 cI q9 u9) ++ ((w4 cI q20 u20) ++ ((w4 cI q31 u31))))) H := hP
  have hD : va_D A (([(b0, .inr (5, [.ref (q9 0), .ref (q20 0), .ref (q31 0), .int 0, .null, .null, .null, .null]))] : va_W) ++ ((w4 cI q9 u9) ++ ((w4 cI q20 u20) ++ ((w4 cI q31 u31))))) := hD
  refine lv_aload_n hx hb (dAt zX5_init_0 20 rfl) rfl (lv_at hl 0 rfl) ?_
  refine va_new (ci := 2) (fs := [.null, .int 0]) (C := RX2) (T := TX2) (N := 2) hx hb htl inlX2 tyX2 tyX2_ok hown (htl _ W_19) (htl _ W_20) (htl _ W_21) hK hP hD hS hA rfl (fun j hj => by rcases (show j = 0 ∨ j = 1 by omega) with rfl | rfl <;> rfl) (Nat.le_of_ble_eq_true rfl) (Nat.le_of_ble_eq_true rfl) (dAt zX5_init_0 21 rfl) (fun b43 H hP hD hS => ?_)
  have hP : va_P D vwCl (([(b0, .inr (5, [.ref (q9 0), .ref (q20 0), .ref (q31 0), .int 0, .null, .null, .null, .null]))] : va_W) ++ ((w4 cI q9 u9) ++ ((w4 cI q20 u20) ++ ((w4 cI q31 u31) ++ (([(b43, .inr (2, [.null, .int 0]))] : va_W)))))) H := hP
  have hD : va_D A (([(b0, .inr (5, [.ref (q9 0), .ref (q20 0), .ref (q31 0), .int 0, .null, .null, .null, .null]))] : va_W) ++ ((w4 cI q9 u9) ++ ((w4 cI q20 u20) ++ ((w4 cI q31 u31) ++ (([(b43, .inr (2, [.null, .int 0]))] : va_W)))))) := hD
  refine W.widen (k := 16) (n := 665) (by omega) (by omega) ?_
  refine lv_dup hx hb (dAt zX5_init_0 22 rfl) rfl ?_
  obtain ⟨u47, hu47, h⟩ := q_bind h
  have hPc : va_P D vwCl ([(b43, .inr (2, [.null, .int 0]))] : va_W) H := hP.sub [16] rfl
  have hDc : va_D A ([(b43, .inr (2, [.null, .int 0]))] : va_W) := hD.sub [16] (by decide) rfl
  refine xFvI (wc := ([(b43, .inr (2, [.null, .int 0]))] : va_W)) (wr := (([(b0, .inr (5, [.ref (q9 0), .ref (q20 0), .ref (q31 0), .int 0, .null, .null, .null, .null]))] : va_W) ++ ((w4 cI q9 u9) ++ ((w4 cI q20 u20) ++ ((w4 cI q31 u31)))))) (va_runIN (host := RX5) (As := []) (rest := [.ref b43, .ref b0]) ⟨hx, hb, hml, hown, htl⟩ (c_X2_init l D cI cJ cZ n b43 H.size u47 hu47) ⟨va_cnB 0 htl (gM W_50) rfl rfl rfl hN.2.2.2.2.1 (htl _ W_21) (by decide +kernel) ⟨Nat.le_of_ble_eq_true rfl, Nat.le_of_ble_eq_true rfl⟩, rfl, htl _ W_49⟩ (xPS hPc hDc hK hN) rfl rfl hl.1 rfl (lv_room (Nat.le_of_ble_eq_true rfl)) (dAt zX5_init_0 23 rfl) ⟨Nat.le_of_ble_eq_true rfl, Nat.le_of_ble_eq_true rfl⟩) hS hA hP hD [16] [0, 1, 2, 3, 4, 5, 6, 7, 8, 9, 10, 11, 12, 13, 14, 15] rfl rfl (by decide) (by decide) (fun q47 H2 locs2 e_q47 hP2 hD2 hS2 => ?_)
  subst e_q47
  have hS := hS2; clear hS2; have hP := hP2; clear hP2; have hD := hD2; clear hD2
  generalize H2 = H at hP hS ⊢; generalize locs2 = locs at hS ⊢
  have hP : va_P D vwCl (([(b0, .inr (5, [.ref (q9 0), .ref (q20 0), .ref (q31 0), .int 0, .null, .null, .null, .null]))] : va_W) ++ ((w4 cI q9 u9) ++ ((w4 cI q20 u20) ++ ((w4 cI q31 u31) ++ ((w2 cI q47 u47)))))) H := hP
  have hD : va_D A (([(b0, .inr (5, [.ref (q9 0), .ref (q20 0), .ref (q31 0), .int 0, .null, .null, .null, .null]))] : va_W) ++ ((w4 cI q9 u9) ++ ((w4 cI q20 u20) ++ ((w4 cI q31 u31) ++ ((w2 cI q47 u47)))))) := hD
  refine W.widen (k := 17) (n := 725) (by omega) (by omega) ?_
  refine va_putF (D := D) (ci := 5) (v := .ref (q47 0)) (ty := (.object "LastTrain$Pad")) (C := RX5) (T := TX5) (N := 8) hx hb htl inlX5 tyX5 tyX5_ok nmX5 hown hK hP hD hS 0 rfl rfl 4 (by decide) (htl _ W_22) (fun _ h9 => h9) rfl hin rfl (by decide +kernel) rfl rfl (Nat.le_of_ble_eq_true rfl) (dAt zX5_init_0 24 rfl) (fun H locs hP hD hS => ?_)
  have hP : va_P D vwCl (([(b0, .inr (5, [.ref (q9 0), .ref (q20 0), .ref (q31 0), .int 0, .ref (q47 0), .null, .null, .null]))] : va_W) ++ ((w4 cI q9 u9) ++ ((w4 cI q20 u20) ++ ((w4 cI q31 u31) ++ ((w2 cI q47 u47)))))) H := hP
  have hD : va_D A (([(b0, .inr (5, [.ref (q9 0), .ref (q20 0), .ref (q31 0), .int 0, .ref (q47 0), .null, .null, .null]))] : va_W) ++ ((w4 cI q9 u9) ++ ((w4 cI q20 u20) ++ ((w4 cI q31 u31) ++ ((w2 cI q47 u47)))))) := hD
  refine lv_aload_n hx hb (dAt zX5_init_0 25 rfl) rfl (lv_at hl 0 rfl) ?_
  refine va_new (ci := 1) (fs := [.null, .int 0, .int 0, .int 0, .int 0, .int 0, .int 0]) (C := RX1) (T := TX1) (N := 7) hx hb htl inlX1 tyX1 tyX1_ok hown (htl _ W_23) (htl _ W_24) (htl _ W_25) hK hP hD hS hA rfl (fun j hj => by rcases (show j = 0 ∨ j = 1 ∨ j = 2 ∨ j = 3 ∨ j = 4 ∨ j = 5 ∨ j = 6 by omega) with rfl | rfl | rfl | rfl | rfl | rfl | rfl <;> rfl) (Nat.le_of_ble_eq_true rfl) (Nat.le_of_ble_eq_true rfl) (dAt zX5_init_0 26 rfl) (fun b54 H hP hD hS => ?_)
  have hP : va_P D vwCl (([(b0, .inr (5, [.ref (q9 0), .ref (q20 0), .ref (q31 0), .int 0, .ref (q47 0), .null, .null, .null]))] : va_W) ++ ((w4 cI q9 u9) ++ ((w4 cI q20 u20) ++ ((w4 cI q31 u31) ++ ((w2 cI q47 u47) ++ (([(b54, .inr (1, [.null, .int 0, .int 0, .int 0, .int 0, .int 0, .int 0]))] : va_W))))))) H := hP
  have hD : va_D A (([(b0, .inr (5, [.ref (q9 0), .ref (q20 0), .ref (q31 0), .int 0, .ref (q47 0), .null, .null, .null]))] : va_W) ++ ((w4 cI q9 u9) ++ ((w4 cI q20 u20) ++ ((w4 cI q31 u31) ++ ((w2 cI q47 u47) ++ (([(b54, .inr (1, [.null, .int 0, .int 0, .int 0, .int 0, .int 0, .int 0]))] : va_W))))))) := hD
  refine W.widen (k := 18) (n := 732) (by omega) (by omega) ?_
  refine lv_dup hx hb (dAt zX5_init_0 27 rfl) rfl ?_
  obtain ⟨u58, hu58, h⟩ := q_bind h
  have hPc : va_P D vwCl ([(b54, .inr (1, [.null, .int 0, .int 0, .int 0, .int 0, .int 0, .int 0]))] : va_W) H := hP.sub [18] rfl
  have hDc : va_D A ([(b54, .inr (1, [.null, .int 0, .int 0, .int 0, .int 0, .int 0, .int 0]))] : va_W) := hD.sub [18] (by decide) rfl
  refine xFvI (wc := ([(b54, .inr (1, [.null, .int 0, .int 0, .int 0, .int 0, .int 0, .int 0]))] : va_W)) (wr := (([(b0, .inr (5, [.ref (q9 0), .ref (q20 0), .ref (q31 0), .int 0, .ref (q47 0), .null, .null, .null]))] : va_W) ++ ((w4 cI q9 u9) ++ ((w4 cI q20 u20) ++ ((w4 cI q31 u31) ++ ((w2 cI q47 u47))))))) (va_runIN (host := RX5) (As := []) (rest := [.ref b54, .ref b0]) ⟨hx, hb, hml, hown, htl⟩ (c_X1_init l D cI cJ cZ n b54 H.size u58 hu58) ⟨va_cnB 0 htl (gM W_55) rfl rfl rfl hN.2.2.2.2.2.1 (htl _ W_25) (by decide +kernel) ⟨Nat.le_of_ble_eq_true rfl, Nat.le_of_ble_eq_true rfl⟩, rfl, htl _ W_54⟩ (xPS hPc hDc hK hN) rfl rfl hl.1 rfl (lv_room (Nat.le_of_ble_eq_true rfl)) (dAt zX5_init_0 28 rfl) ⟨Nat.le_of_ble_eq_true rfl, Nat.le_of_ble_eq_true rfl⟩) hS hA hP hD [18] [0, 1, 2, 3, 4, 5, 6, 7, 8, 9, 10, 11, 12, 13, 14, 15, 16, 17] rfl rfl (by decide) (by decide) (fun q58 H2 locs2 e_q58 hP2 hD2 hS2 => ?_)
  subst e_q58
  have hS := hS2; clear hS2; have hP := hP2; clear hP2; have hD := hD2; clear hD2
  generalize H2 = H at hP hS ⊢; generalize locs2 = locs at hS ⊢
  have hP : va_P D vwCl (([(b0, .inr (5, [.ref (q9 0), .ref (q20 0), .ref (q31 0), .int 0, .ref (q47 0), .null, .null, .null]))] : va_W) ++ ((w4 cI q9 u9) ++ ((w4 cI q20 u20) ++ ((w4 cI q31 u31) ++ ((w2 cI q47 u47) ++ ((w1 q58.1 q58.2 u58.1 ++ w4 cI q58.2 u58.2))))))) H := hP
  have hD : va_D A (([(b0, .inr (5, [.ref (q9 0), .ref (q20 0), .ref (q31 0), .int 0, .ref (q47 0), .null, .null, .null]))] : va_W) ++ ((w4 cI q9 u9) ++ ((w4 cI q20 u20) ++ ((w4 cI q31 u31) ++ ((w2 cI q47 u47) ++ ((w1 q58.1 q58.2 u58.1 ++ w4 cI q58.2 u58.2))))))) := hD
  refine W.widen (k := 23) (n := 953) (by omega) (by omega) ?_
  refine va_putF (D := D) (ci := 5) (v := .ref (q58.1 0)) (ty := (.object "LastTrain$Course")) (C := RX5) (T := TX5) (N := 8) hx hb htl inlX5 tyX5 tyX5_ok nmX5 hown hK hP hD hS 0 rfl rfl 5 (by decide) (htl _ W_26) (fun _ h9 => h9) rfl hin rfl (by decide +kernel) rfl rfl (Nat.le_of_ble_eq_true rfl) (dAt zX5_init_0 29 rfl) (fun H locs hP hD hS => ?_)
  have hP : va_P D vwCl (([(b0, .inr (5, [.ref (q9 0), .ref (q20 0), .ref (q31 0), .int 0, .ref (q47 0), .ref (q58.1 0), .null, .null]))] : va_W) ++ ((w4 cI q9 u9) ++ ((w4 cI q20 u20) ++ ((w4 cI q31 u31) ++ ((w2 cI q47 u47) ++ ((w1 q58.1 q58.2 u58.1 ++ w4 cI q58.2 u58.2))))))) H := hP
  have hD : va_D A (([(b0, .inr (5, [.ref (q9 0), .ref (q20 0), .ref (q31 0), .int 0, .ref (q47 0), .ref (q58.1 0), .null, .null]))] : va_W) ++ ((w4 cI q9 u9) ++ ((w4 cI q20 u20) ++ ((w4 cI q31 u31) ++ ((w2 cI q47 u47) ++ ((w1 q58.1 q58.2 u58.1 ++ w4 cI q58.2 u58.2))))))) := hD
  refine lv_aload_n hx hb (dAt zX5_init_0 30 rfl) rfl (lv_at hl 0 rfl) ?_
  refine va_new (ci := 3) (fs := [.null, .null, .null, .int 0]) (C := RX3) (T := TX3) (N := 4) hx hb htl inlX3 tyX3 tyX3_ok hown (htl _ W_27) (htl _ W_28) (htl _ W_29) hK hP hD hS hA rfl (fun j hj => by rcases (show j = 0 ∨ j = 1 ∨ j = 2 ∨ j = 3 by omega) with rfl | rfl | rfl | rfl <;> rfl) (Nat.le_of_ble_eq_true rfl) (Nat.le_of_ble_eq_true rfl) (dAt zX5_init_0 31 rfl) (fun b65 H hP hD hS => ?_)
  have hP : va_P D vwCl (([(b0, .inr (5, [.ref (q9 0), .ref (q20 0), .ref (q31 0), .int 0, .ref (q47 0), .ref (q58.1 0), .null, .null]))] : va_W) ++ ((w4 cI q9 u9) ++ ((w4 cI q20 u20) ++ ((w4 cI q31 u31) ++ ((w2 cI q47 u47) ++ ((w1 q58.1 q58.2 u58.1 ++ w4 cI q58.2 u58.2) ++ (([(b65, .inr (3, [.null, .null, .null, .int 0]))] : va_W)))))))) H := hP
  have hD : va_D A (([(b0, .inr (5, [.ref (q9 0), .ref (q20 0), .ref (q31 0), .int 0, .ref (q47 0), .ref (q58.1 0), .null, .null]))] : va_W) ++ ((w4 cI q9 u9) ++ ((w4 cI q20 u20) ++ ((w4 cI q31 u31) ++ ((w2 cI q47 u47) ++ ((w1 q58.1 q58.2 u58.1 ++ w4 cI q58.2 u58.2) ++ (([(b65, .inr (3, [.null, .null, .null, .int 0]))] : va_W)))))))) := hD
  refine W.widen (k := 24) (n := 957) (by omega) (by omega) ?_
  refine lv_dup hx hb (dAt zX5_init_0 32 rfl) rfl ?_
  obtain ⟨u69, hu69, h⟩ := q_bind h
  have hPc : va_P D vwCl ([(b65, .inr (3, [.null, .null, .null, .int 0]))] : va_W) H := hP.sub [24] rfl
  have hDc : va_D A ([(b65, .inr (3, [.null, .null, .null, .int 0]))] : va_W) := hD.sub [24] (by decide) rfl
  refine xFvI (wc := ([(b65, .inr (3, [.null, .null, .null, .int 0]))] : va_W)) (wr := (([(b0, .inr (5, [.ref (q9 0), .ref (q20 0), .ref (q31 0), .int 0, .ref (q47 0), .ref (q58.1 0), .null, .null]))] : va_W) ++ ((w4 cI q9 u9) ++ ((w4 cI q20 u20) ++ ((w4 cI q31 u31) ++ ((w2 cI q47 u47) ++ ((w1 q58.1 q58.2 u58.1 ++ w4 cI q58.2 u58.2)))))))) (va_runIN (host := RX5) (As := []) (rest := [.ref b65, .ref b0]) ⟨hx, hb, hml, hown, htl⟩ (c_X3_init l D cI cJ cZ n b65 H.size u69 hu69) ⟨va_cnB 0 htl (gM W_67) rfl rfl rfl hN.2.2.2.2.2.2.1 (htl _ W_29) (by decide +kernel) ⟨Nat.le_of_ble_eq_true rfl, Nat.le_of_ble_eq_true rfl⟩, rfl, htl _ W_66⟩ (xPS hPc hDc hK hN) rfl rfl hl.1 rfl (lv_room (Nat.le_of_ble_eq_true rfl)) (dAt zX5_init_0 33 rfl) ⟨Nat.le_of_ble_eq_true rfl, Nat.le_of_ble_eq_true rfl⟩) hS hA hP hD [24] [0, 1, 2, 3, 4, 5, 6, 7, 8, 9, 10, 11, 12, 13, 14, 15, 16, 17, 18, 19, 20, 21, 22, 23] rfl rfl (by decide) (by decide) (fun q69 H2 locs2 e_q69 hP2 hD2 hS2 => ?_)
  subst e_q69
  have hS := hS2; clear hS2; have hP := hP2; clear hP2; have hD := hD2; clear hD2
  generalize H2 = H at hP hS ⊢; generalize locs2 = locs at hS ⊢
  have hP : va_P D vwCl (([(b0, .inr (5, [.ref (q9 0), .ref (q20 0), .ref (q31 0), .int 0, .ref (q47 0), .ref (q58.1 0), .null, .null]))] : va_W) ++ ((w4 cI q9 u9) ++ ((w4 cI q20 u20) ++ ((w4 cI q31 u31) ++ ((w2 cI q47 u47) ++ ((w1 q58.1 q58.2 u58.1 ++ w4 cI q58.2 u58.2) ++ ((w3 cI q69 u69)))))))) H := hP
  have hD : va_D A (([(b0, .inr (5, [.ref (q9 0), .ref (q20 0), .ref (q31 0), .int 0, .ref (q47 0), .ref (q58.1 0), .null, .null]))] : va_W) ++ ((w4 cI q9 u9) ++ ((w4 cI q20 u20) ++ ((w4 cI q31 u31) ++ ((w2 cI q47 u47) ++ ((w1 q58.1 q58.2 u58.1 ++ w4 cI q58.2 u58.2) ++ ((w3 cI q69 u69)))))))) := hD
  refine W.widen (k := 27) (n := 987) (by omega) (by omega) ?_
  refine va_putF (D := D) (ci := 5) (v := .ref (q69 0)) (ty := (.object "LastTrain$Platform")) (C := RX5) (T := TX5) (N := 8) hx hb htl inlX5 tyX5 tyX5_ok nmX5 hown hK hP hD hS 0 rfl rfl 6 (by decide) (htl _ W_30) (fun _ h9 => h9) rfl hin rfl (by decide +kernel) rfl rfl (Nat.le_of_ble_eq_true rfl) (dAt zX5_init_0 34 rfl) (fun H locs hP hD hS => ?_)
  have hP : va_P D vwCl (([(b0, .inr (5, [.ref (q9 0), .ref (q20 0), .ref (q31 0), .int 0, .ref (q47 0), .ref (q58.1 0), .ref (q69 0), .null]))] : va_W) ++ ((w4 cI q9 u9) ++ ((w4 cI q20 u20) ++ ((w4 cI q31 u31) ++ ((w2 cI q47 u47) ++ ((w1 q58.1 q58.2 u58.1 ++ w4 cI q58.2 u58.2) ++ ((w3 cI q69 u69)))))))) H := hP
  have hD : va_D A (([(b0, .inr (5, [.ref (q9 0), .ref (q20 0), .ref (q31 0), .int 0, .ref (q47 0), .ref (q58.1 0), .ref (q69 0), .null]))] : va_W) ++ ((w4 cI q9 u9) ++ ((w4 cI q20 u20) ++ ((w4 cI q31 u31) ++ ((w2 cI q47 u47) ++ ((w1 q58.1 q58.2 u58.1 ++ w4 cI q58.2 u58.2) ++ ((w3 cI q69 u69)))))))) := hD
  refine lv_aload_n hx hb (dAt zX5_init_0 35 rfl) rfl (lv_at hl 0 rfl) ?_
  refine va_new (ci := 0) (fs := [.null, .long 0, .long 0, .long 0]) (C := RX0) (T := TX0) (N := 4) hx hb htl inlX0 tyX0 tyX0_ok hown (htl _ W_31) (htl _ W_32) (htl _ W_33) hK hP hD hS hA rfl (fun j hj => by rcases (show j = 0 ∨ j = 1 ∨ j = 2 ∨ j = 3 by omega) with rfl | rfl | rfl | rfl <;> rfl) (Nat.le_of_ble_eq_true rfl) (Nat.le_of_ble_eq_true rfl) (dAt zX5_init_0 36 rfl) (fun b76 H hP hD hS => ?_)
  have hP : va_P D vwCl (([(b0, .inr (5, [.ref (q9 0), .ref (q20 0), .ref (q31 0), .int 0, .ref (q47 0), .ref (q58.1 0), .ref (q69 0), .null]))] : va_W) ++ ((w4 cI q9 u9) ++ ((w4 cI q20 u20) ++ ((w4 cI q31 u31) ++ ((w2 cI q47 u47) ++ ((w1 q58.1 q58.2 u58.1 ++ w4 cI q58.2 u58.2) ++ ((w3 cI q69 u69) ++ (([(b76, .inr (0, [.null, .long 0, .long 0, .long 0]))] : va_W))))))))) H := hP
  have hD : va_D A (([(b0, .inr (5, [.ref (q9 0), .ref (q20 0), .ref (q31 0), .int 0, .ref (q47 0), .ref (q58.1 0), .ref (q69 0), .null]))] : va_W) ++ ((w4 cI q9 u9) ++ ((w4 cI q20 u20) ++ ((w4 cI q31 u31) ++ ((w2 cI q47 u47) ++ ((w1 q58.1 q58.2 u58.1 ++ w4 cI q58.2 u58.2) ++ ((w3 cI q69 u69) ++ (([(b76, .inr (0, [.null, .long 0, .long 0, .long 0]))] : va_W))))))))) := hD
  refine W.widen (k := 28) (n := 991) (by omega) (by omega) ?_
  refine lv_dup hx hb (dAt zX5_init_0 37 rfl) rfl ?_
  obtain ⟨u80, hu80, h⟩ := q_bind h
  have hPc : va_P D vwCl ([(b76, .inr (0, [.null, .long 0, .long 0, .long 0]))] : va_W) H := hP.sub [28] rfl
  have hDc : va_D A ([(b76, .inr (0, [.null, .long 0, .long 0, .long 0]))] : va_W) := hD.sub [28] (by decide) rfl
  refine xFvI (wc := ([(b76, .inr (0, [.null, .long 0, .long 0, .long 0]))] : va_W)) (wr := (([(b0, .inr (5, [.ref (q9 0), .ref (q20 0), .ref (q31 0), .int 0, .ref (q47 0), .ref (q58.1 0), .ref (q69 0), .null]))] : va_W) ++ ((w4 cI q9 u9) ++ ((w4 cI q20 u20) ++ ((w4 cI q31 u31) ++ ((w2 cI q47 u47) ++ ((w1 q58.1 q58.2 u58.1 ++ w4 cI q58.2 u58.2) ++ ((w3 cI q69 u69))))))))) (va_runIN (host := RX5) (As := []) (rest := [.ref b76, .ref b0]) ⟨hx, hb, hml, hown, htl⟩ (c_X0_init l D cI cJ cZ n b76 H.size u80 hu80) ⟨va_cnB 0 htl (gM W_74) rfl rfl rfl hN.2.2.2.2.2.2.2 (htl _ W_33) (by decide +kernel) ⟨Nat.le_of_ble_eq_true rfl, Nat.le_of_ble_eq_true rfl⟩, rfl, htl _ W_73⟩ (xPS hPc hDc hK hN) rfl rfl hl.1 rfl (lv_room (Nat.le_of_ble_eq_true rfl)) (dAt zX5_init_0 38 rfl) ⟨Nat.le_of_ble_eq_true rfl, Nat.le_of_ble_eq_true rfl⟩) hS hA hP hD [28] [0, 1, 2, 3, 4, 5, 6, 7, 8, 9, 10, 11, 12, 13, 14, 15, 16, 17, 18, 19, 20, 21, 22, 23, 24, 25, 26, 27] rfl rfl (by decide) (by decide) (fun q80 H2 locs2 e_q80 hP2 hD2 hS2 => ?_)
  subst e_q80
  have hS := hS2; clear hS2; have hP := hP2; clear hP2; have hD := hD2; clear hD2
  generalize H2 = H at hP hS ⊢; generalize locs2 = locs at hS ⊢
  have hP : va_P D vwCl (([(b0, .inr (5, [.ref (q9 0), .ref (q20 0), .ref (q31 0), .int 0, .ref (q47 0), .ref (q58.1 0), .ref (q69 0), .null]))] : va_W) ++ ((w4 cI q9 u9) ++ ((w4 cI q20 u20) ++ ((w4 cI q31 u31) ++ ((w2 cI q47 u47) ++ ((w1 q58.1 q58.2 u58.1 ++ w4 cI q58.2 u58.2) ++ ((w3 cI q69 u69) ++ ((w0 cJ q80 u80))))))))) H := hP
  have hD : va_D A (([(b0, .inr (5, [.ref (q9 0), .ref (q20 0), .ref (q31 0), .int 0, .ref (q47 0), .ref (q58.1 0), .ref (q69 0), .null]))] : va_W) ++ ((w4 cI q9 u9) ++ ((w4 cI q20 u20) ++ ((w4 cI q31 u31) ++ ((w2 cI q47 u47) ++ ((w1 q58.1 q58.2 u58.1 ++ w4 cI q58.2 u58.2) ++ ((w3 cI q69 u69) ++ ((w0 cJ q80 u80))))))))) := hD
  refine W.widen (k := 29) (n := 1002) (by omega) (by omega) ?_
  refine va_putF (D := D) (ci := 5) (v := .ref (q80 0)) (ty := (.object "LastTrain$Answers")) (C := RX5) (T := TX5) (N := 8) hx hb htl inlX5 tyX5 tyX5_ok nmX5 hown hK hP hD hS 0 rfl rfl 7 (by decide) (htl _ W_34) (fun _ h9 => h9) rfl hin rfl (by decide +kernel) rfl rfl (Nat.le_of_ble_eq_true rfl) (dAt zX5_init_0 39 rfl) (fun H locs hP hD hS => ?_)
  have hP : va_P D vwCl (([(b0, .inr (5, [.ref (q9 0), .ref (q20 0), .ref (q31 0), .int 0, .ref (q47 0), .ref (q58.1 0), .ref (q69 0), .ref (q80 0)]))] : va_W) ++ ((w4 cI q9 u9) ++ ((w4 cI q20 u20) ++ ((w4 cI q31 u31) ++ ((w2 cI q47 u47) ++ ((w1 q58.1 q58.2 u58.1 ++ w4 cI q58.2 u58.2) ++ ((w3 cI q69 u69) ++ ((w0 cJ q80 u80))))))))) H := hP
  have hD : va_D A (([(b0, .inr (5, [.ref (q9 0), .ref (q20 0), .ref (q31 0), .int 0, .ref (q47 0), .ref (q58.1 0), .ref (q69 0), .ref (q80 0)]))] : va_W) ++ ((w4 cI q9 u9) ++ ((w4 cI q20 u20) ++ ((w4 cI q31 u31) ++ ((w2 cI q47 u47) ++ ((w1 q58.1 q58.2 u58.1 ++ w4 cI q58.2 u58.2) ++ ((w3 cI q69 u69) ++ ((w0 cJ q80 u80))))))))) := hD
  obtain rfl := q_some h
  have hP : va_P D vwCl (w5 (fun _ => b0) q9 q20 q31 q47 q58.1 q69 q80 (mk5 0) ++ (w4 cI q9 u9 ++ (w4 cI q20 u20 ++ (w4 cI q31 u31 ++ (w2 cI q47 u47 ++ (w1 q58.1 q58.2 u58.1 ++ (w4 cI q58.2 u58.2 ++ (w3 cI q69 u69 ++ (w0 cJ q80 u80))))))))) H := hP
  have hD : va_D A (w5 (fun _ => b0) q9 q20 q31 q47 q58.1 q69 q80 (mk5 0) ++ (w4 cI q9 u9 ++ (w4 cI q20 u20 ++ (w4 cI q31 u31 ++ (w2 cI q47 u47 ++ (w1 q58.1 q58.2 u58.1 ++ (w4 cI q58.2 u58.2 ++ (w3 cI q69 u69 ++ (w0 cJ q80 u80))))))))) := hD
  exact xRvI ((fun _ => b0, q9, q20, q31, q47, q58.1, q58.2, q69, q80)) hx hb hr hlocks hQ hAe (by simp) hP hD hK hS (dAt zX5_init_0 40 rfl)
