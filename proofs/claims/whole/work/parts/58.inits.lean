/-! constructors of the class's parts -/
set_option maxHeartbeats 40000000 in
set_option maxRecDepth 100000 in
theorem kX0_init (l : Launch) (D : va_G) (q : Nat → ClassId) (h0 sz : Nat) : Met l yX0_init (cW yX0_init cX0_init 1 none) ({ frames := 1, cells := 3, slots := 32, locals := 12 } : Room) (va_Pc [.ref h0] (fun U => U.heap.size = sz ∧ va_P D vwCl [(h0, .inr (0, [.int 0, .int 0, .int 0, .int 0, .null, .null, .null]))] U.heap ∧ va_K D vwCl (xTy q) U)) (va_Qv (fun _ : Nat × Nat × Nat => True) (fun (u : Nat × Nat × Nat) t => match u with | (a12, a20, a28) => va_P D vwCl [(h0, .inr (0, [.int (4 : Int32), .int 0, .int 0, .int 0, .ref a12, .ref a20, .ref a28])), (a12, .inl (q 0, 8, .inl (fun _ => 0))), (a20, .inl (q 0, 8, .inl (fun _ => 0))), (a28, .inl (q 0, 16, .inl (fun _ => 0)))] t.heap ∧ va_D (va_A [(h0, .inr (0, [.int 0, .int 0, .int 0, .int 0, .null, .null, .null]))] sz) [(h0, .inr (0, [.int (4 : Int32), .int 0, .int 0, .int 0, .ref a12, .ref a20, .ref a28])), (a12, .inl (q 0, 8, .inl (fun _ => 0))), (a20, .inl (q 0, 8, .inl (fun _ => 0))), (a28, .inl (q 0, 16, .inl (fun _ => 0)))]) (va_A [(h0, .inr (0, [.int 0, .int 0, .int 0, .int 0, .null, .null, .null]))] sz)) 3 32 (va_A [(h0, .inr (0, [.int 0, .int 0, .int 0, .int 0, .null, .null, .null]))] sz) := by
  refine Met.ofW (cc := cX0_init) (maxL := 1) (ret := none) (by decide) rfl ?_
  intro p e s m args below meth c s₁ B hml hv
  obtain ⟨hargs, hsz, hP, hK⟩ := hv
  have hx := B.exec
  have hb := B.bytes
  have hr := B.returns
  have hts := atoms_spec (ws := (cW yX0_init cX0_init 1 none)) B.pre
  have ht : ∀ w ∈ tG, w.before args s = true := fun w h => hts w (List.mem_cons_of_mem _ h)
  have hown : s.vm.findClass RX0 = some m.cls := findClass_of_methodNamed B.named
  have hlocks := B.notSynchronized
  have hin : meth.name = "<init>" := (name_of_methodNamed B.named B.method).1
  have S : CallFix p m c cX0_init 1 s args tG RX0 := ⟨hx, hb, hml, hown, ht⟩
  subst hsz
  have hD : va_D (va_A [(h0, .inr (0, [.int 0, .int 0, .int 0, .int 0, .null, .null, .null]))] s.heap.size) [(h0, .inr (0, [.int 0, .int 0, .int 0, .int 0, .null, .null, .null]))] := va_D1 (Or.inl ⟨0, _, rfl⟩)
  generalize hAe : va_A [(h0, .inr (0, [.int 0, .int 0, .int 0, .int 0, .null, .null, .null]))] s.heap.size = A at hD ⊢
  have hA : ∀ x : Nat, s.heap.size ≤ x → A x := fun x h => by rw [← hAe]; exact Or.inr h
  have hS : va_S A s.heap s.heap [] := va_S.rf
  refine g_entry (vs := [.ref h0]) hargs (Nat.le_of_ble_eq_true rfl) (fun ls hl => ?_)
  have hl : lv_has ls 1 [(0, .ref h0)] := hl
  refine lv_aload_n hx hb dX0_init_0 rfl (lv_at hl 0 rfl) ?_
  refine W.objInit hx hb hown (ht _ tw_ml_X0_3) (ht _ tw_im_objInit) (ht _ tw_co_objInit) rfl (by rw [hml]; exact hl.1) rfl dX0_init_1 (Nat.le_of_ble_eq_true rfl) (Nat.le_of_ble_eq_true rfl) ?_
  refine W.eq (g2 := F0 m 4 ls []) rfl ?_
  refine lv_aload_n hx hb dX0_init_4 rfl (lv_at hl 0 rfl) ?_
  refine lv_iconst (v := (4 : Int32)) hx hb dX0_init_5 (by decide) ?_
  refine va_put (D := D) (ci := 0) (v := .int (4 : Int32)) (C := RX0) (T := TX0) (N := 7) hx hb ht tl_X0 tyX0 tyX0_ok nmX0 hown hK hP hD hS 0 rfl rfl 0 (by decide) (ht _ tw_fl_X0_9) (fun _ h9 => h9) rfl rfl rfl rfl (Nat.le_of_ble_eq_true rfl) dX0_init_6 (fun H locs hP hD hS => ?_)
  have hP : va_P D vwCl [(h0, .inr (0, [.int (4 : Int32), .int 0, .int 0, .int 0, .null, .null, .null]))] H := hP
  have hD : va_D A [(h0, .inr (0, [.int (4 : Int32), .int 0, .int 0, .int 0, .null, .null, .null]))] := hD
  refine lv_aload_n hx hb dX0_init_9 rfl (lv_at hl 0 rfl) ?_
  refine lv_bipush (v := (8 : Int32)) hx hb dX0_init_10 (by decide) ?_
  refine g_newi hx hb ht hK hP hD hS hA 8 (by decide) rfl (by decide) (Nat.le_of_ble_eq_true rfl) (Nat.le_of_ble_eq_true rfl) dX0_init_12 (fun a12 H hP hD hS => ?_)
  have hP : va_P D vwCl [(h0, .inr (0, [.int (4 : Int32), .int 0, .int 0, .int 0, .null, .null, .null])), (a12, .inl (q 0, 8, .inl (fun _ => 0)))] H := hP
  have hD : va_D A [(h0, .inr (0, [.int (4 : Int32), .int 0, .int 0, .int 0, .null, .null, .null])), (a12, .inl (q 0, 8, .inl (fun _ => 0)))] := hD
  refine W.widen (k := 1) (n := 8) (Nat.le_of_ble_eq_true rfl) (Nat.le_of_ble_eq_true rfl) ?_
  refine va_putF (D := D) (ci := 0) (v := .ref a12) (C := RX0) (T := TX0) (N := 7) hx hb ht tl_X0 tyX0 tyX0_ok nmX0 hown hK hP hD hS 0 rfl rfl 4 (by decide) (ht _ tw_fl_X0_15) (fun _ h9 => h9) rfl hin rfl rfl rfl rfl (Nat.le_of_ble_eq_true rfl) dX0_init_14 (fun H locs hP hD hS => ?_)
  have hP : va_P D vwCl [(h0, .inr (0, [.int (4 : Int32), .int 0, .int 0, .int 0, .ref a12, .null, .null])), (a12, .inl (q 0, 8, .inl (fun _ => 0)))] H := hP
  have hD : va_D A [(h0, .inr (0, [.int (4 : Int32), .int 0, .int 0, .int 0, .ref a12, .null, .null])), (a12, .inl (q 0, 8, .inl (fun _ => 0)))] := hD
  refine lv_aload_n hx hb dX0_init_17 rfl (lv_at hl 0 rfl) ?_
  refine lv_bipush (v := (8 : Int32)) hx hb dX0_init_18 (by decide) ?_
  refine g_newi hx hb ht hK hP hD hS hA 8 (by decide) rfl (by decide) (Nat.le_of_ble_eq_true rfl) (Nat.le_of_ble_eq_true rfl) dX0_init_20 (fun a20 H hP hD hS => ?_)
  have hP : va_P D vwCl [(h0, .inr (0, [.int (4 : Int32), .int 0, .int 0, .int 0, .ref a12, .null, .null])), (a12, .inl (q 0, 8, .inl (fun _ => 0))), (a20, .inl (q 0, 8, .inl (fun _ => 0)))] H := hP
  have hD : va_D A [(h0, .inr (0, [.int (4 : Int32), .int 0, .int 0, .int 0, .ref a12, .null, .null])), (a12, .inl (q 0, 8, .inl (fun _ => 0))), (a20, .inl (q 0, 8, .inl (fun _ => 0)))] := hD
  refine W.widen (k := 2) (n := 16) (Nat.le_of_ble_eq_true rfl) (Nat.le_of_ble_eq_true rfl) ?_
  refine va_putF (D := D) (ci := 0) (v := .ref a20) (C := RX0) (T := TX0) (N := 7) hx hb ht tl_X0 tyX0 tyX0_ok nmX0 hown hK hP hD hS 0 rfl rfl 5 (by decide) (ht _ tw_fl_X0_19) (fun _ h9 => h9) rfl hin rfl rfl rfl rfl (Nat.le_of_ble_eq_true rfl) dX0_init_22 (fun H locs hP hD hS => ?_)
  have hP : va_P D vwCl [(h0, .inr (0, [.int (4 : Int32), .int 0, .int 0, .int 0, .ref a12, .ref a20, .null])), (a12, .inl (q 0, 8, .inl (fun _ => 0))), (a20, .inl (q 0, 8, .inl (fun _ => 0)))] H := hP
  have hD : va_D A [(h0, .inr (0, [.int (4 : Int32), .int 0, .int 0, .int 0, .ref a12, .ref a20, .null])), (a12, .inl (q 0, 8, .inl (fun _ => 0))), (a20, .inl (q 0, 8, .inl (fun _ => 0)))] := hD
  refine lv_aload_n hx hb dX0_init_25 rfl (lv_at hl 0 rfl) ?_
  refine lv_bipush (v := (16 : Int32)) hx hb dX0_init_26 (by decide) ?_
  refine g_newi hx hb ht hK hP hD hS hA 16 (by decide) rfl (by decide) (Nat.le_of_ble_eq_true rfl) (Nat.le_of_ble_eq_true rfl) dX0_init_28 (fun a28 H hP hD hS => ?_)
  have hP : va_P D vwCl [(h0, .inr (0, [.int (4 : Int32), .int 0, .int 0, .int 0, .ref a12, .ref a20, .null])), (a12, .inl (q 0, 8, .inl (fun _ => 0))), (a20, .inl (q 0, 8, .inl (fun _ => 0))), (a28, .inl (q 0, 16, .inl (fun _ => 0)))] H := hP
  have hD : va_D A [(h0, .inr (0, [.int (4 : Int32), .int 0, .int 0, .int 0, .ref a12, .ref a20, .null])), (a12, .inl (q 0, 8, .inl (fun _ => 0))), (a20, .inl (q 0, 8, .inl (fun _ => 0))), (a28, .inl (q 0, 16, .inl (fun _ => 0)))] := hD
  refine W.widen (k := 3) (n := 32) (Nat.le_of_ble_eq_true rfl) (Nat.le_of_ble_eq_true rfl) ?_
  refine va_putF (D := D) (ci := 0) (v := .ref a28) (C := RX0) (T := TX0) (N := 7) hx hb ht tl_X0 tyX0 tyX0_ok nmX0 hown hK hP hD hS 0 rfl rfl 6 (by decide) (ht _ tw_fl_X0_22) (fun _ h9 => h9) rfl hin rfl rfl rfl rfl (Nat.le_of_ble_eq_true rfl) dX0_init_30 (fun H locs hP hD hS => ?_)
  have hP : va_P D vwCl [(h0, .inr (0, [.int (4 : Int32), .int 0, .int 0, .int 0, .ref a12, .ref a20, .ref a28])), (a12, .inl (q 0, 8, .inl (fun _ => 0))), (a20, .inl (q 0, 8, .inl (fun _ => 0))), (a28, .inl (q 0, 16, .inl (fun _ => 0)))] H := hP
  have hD : va_D A [(h0, .inr (0, [.int (4 : Int32), .int 0, .int 0, .int 0, .ref a12, .ref a20, .ref a28])), (a12, .inl (q 0, 8, .inl (fun _ => 0))), (a20, .inl (q 0, 8, .inl (fun _ => 0))), (a28, .inl (q 0, 16, .inl (fun _ => 0)))] := hD
  exact W.vret hx hb hr (fun t ht1 hW => ⟨⟨(a12, a20, a28), rfl, trivial, by rw [ht1]; exact hP, hD⟩, hS.F ht1⟩) hS.2.2 dX0_init_33 hlocks
set_option maxHeartbeats 40000000 in
set_option maxRecDepth 100000 in
theorem kX5_init (l : Launch) (D : va_G) (q : Nat → ClassId) (h0 sz : Nat) : Met l yX5_init (cW yX5_init cX5_init 1 none) ({ frames := 1, cells := 1, slots := 160, locals := 12 } : Room) (va_Pc [.ref h0] (fun U => U.heap.size = sz ∧ va_P D vwCl [(h0, .inr (5, [.null, .int 0, .int 0, .int 0, .int 0, .int 0, .int 0, .int 0, .int 0]))] U.heap ∧ va_K D vwCl (xTy q) U)) (va_Qv (fun _ : Nat => True) (fun (a8 : Nat) t => va_P D vwCl [(h0, .inr (5, [.ref a8, .int 0, .int 0, .int 0, .int 0, .int 0, .int 0, .int 0, .int 0])), (a8, .inl (q 0, 160, .inl (fun _ => 0)))] t.heap ∧ va_D (va_A [(h0, .inr (5, [.null, .int 0, .int 0, .int 0, .int 0, .int 0, .int 0, .int 0, .int 0]))] sz) [(h0, .inr (5, [.ref a8, .int 0, .int 0, .int 0, .int 0, .int 0, .int 0, .int 0, .int 0])), (a8, .inl (q 0, 160, .inl (fun _ => 0)))]) (va_A [(h0, .inr (5, [.null, .int 0, .int 0, .int 0, .int 0, .int 0, .int 0, .int 0, .int 0]))] sz)) 1 160 (va_A [(h0, .inr (5, [.null, .int 0, .int 0, .int 0, .int 0, .int 0, .int 0, .int 0, .int 0]))] sz) := by
  refine Met.ofW (cc := cX5_init) (maxL := 1) (ret := none) (by decide) rfl ?_
  intro p e s m args below meth c s₁ B hml hv
  obtain ⟨hargs, hsz, hP, hK⟩ := hv
  have hx := B.exec
  have hb := B.bytes
  have hr := B.returns
  have hts := atoms_spec (ws := (cW yX5_init cX5_init 1 none)) B.pre
  have ht : ∀ w ∈ tG, w.before args s = true := fun w h => hts w (List.mem_cons_of_mem _ h)
  have hown : s.vm.findClass RX5 = some m.cls := findClass_of_methodNamed B.named
  have hlocks := B.notSynchronized
  have hin : meth.name = "<init>" := (name_of_methodNamed B.named B.method).1
  have S : CallFix p m c cX5_init 1 s args tG RX5 := ⟨hx, hb, hml, hown, ht⟩
  subst hsz
  have hD : va_D (va_A [(h0, .inr (5, [.null, .int 0, .int 0, .int 0, .int 0, .int 0, .int 0, .int 0, .int 0]))] s.heap.size) [(h0, .inr (5, [.null, .int 0, .int 0, .int 0, .int 0, .int 0, .int 0, .int 0, .int 0]))] := va_D1 (Or.inl ⟨0, _, rfl⟩)
  generalize hAe : va_A [(h0, .inr (5, [.null, .int 0, .int 0, .int 0, .int 0, .int 0, .int 0, .int 0, .int 0]))] s.heap.size = A at hD ⊢
  have hA : ∀ x : Nat, s.heap.size ≤ x → A x := fun x h => by rw [← hAe]; exact Or.inr h
  have hS : va_S A s.heap s.heap [] := va_S.rf
  refine g_entry (vs := [.ref h0]) hargs (Nat.le_of_ble_eq_true rfl) (fun ls hl => ?_)
  have hl : lv_has ls 1 [(0, .ref h0)] := hl
  refine lv_aload_n hx hb dX5_init_0 rfl (lv_at hl 0 rfl) ?_
  refine W.objInit hx hb hown (ht _ tw_ml_X5_3) (ht _ tw_im_objInit) (ht _ tw_co_objInit) rfl (by rw [hml]; exact hl.1) rfl dX5_init_1 (Nat.le_of_ble_eq_true rfl) (Nat.le_of_ble_eq_true rfl) ?_
  refine W.eq (g2 := F0 m 4 ls []) rfl ?_
  refine lv_aload_n hx hb dX5_init_4 rfl (lv_at hl 0 rfl) ?_
  refine lv_sipush (v := (160 : Int32)) hx hb dX5_init_5 (by decide) ?_
  refine g_newi hx hb ht hK hP hD hS hA 160 (by decide) rfl (by decide) (Nat.le_of_ble_eq_true rfl) (Nat.le_of_ble_eq_true rfl) dX5_init_8 (fun a8 H hP hD hS => ?_)
  have hP : va_P D vwCl [(h0, .inr (5, [.null, .int 0, .int 0, .int 0, .int 0, .int 0, .int 0, .int 0, .int 0])), (a8, .inl (q 0, 160, .inl (fun _ => 0)))] H := hP
  have hD : va_D A [(h0, .inr (5, [.null, .int 0, .int 0, .int 0, .int 0, .int 0, .int 0, .int 0, .int 0])), (a8, .inl (q 0, 160, .inl (fun _ => 0)))] := hD
  refine W.widen (k := 1) (n := 160) (Nat.le_of_ble_eq_true rfl) (Nat.le_of_ble_eq_true rfl) ?_
  refine va_putF (D := D) (ci := 5) (v := .ref a8) (C := RX5) (T := TX5) (N := 9) hx hb ht tl_X5 tyX5 tyX5_ok nmX5 hown hK hP hD hS 0 rfl rfl 0 (by decide) (ht _ tw_fl_X5_9) (fun _ h9 => h9) rfl hin rfl rfl rfl rfl (Nat.le_of_ble_eq_true rfl) dX5_init_10 (fun H locs hP hD hS => ?_)
  have hP : va_P D vwCl [(h0, .inr (5, [.ref a8, .int 0, .int 0, .int 0, .int 0, .int 0, .int 0, .int 0, .int 0])), (a8, .inl (q 0, 160, .inl (fun _ => 0)))] H := hP
  have hD : va_D A [(h0, .inr (5, [.ref a8, .int 0, .int 0, .int 0, .int 0, .int 0, .int 0, .int 0, .int 0])), (a8, .inl (q 0, 160, .inl (fun _ => 0)))] := hD
  exact W.vret hx hb hr (fun t ht1 hW => ⟨⟨a8, rfl, trivial, by rw [ht1]; exact hP, hD⟩, hS.F ht1⟩) hS.2.2 dX5_init_13 hlocks
set_option maxHeartbeats 40000000 in
set_option maxRecDepth 100000 in
theorem kX2_init (l : Launch) (D : va_G) (q : Nat → ClassId) (h0 sz : Nat) : Met l yX2_init (cW yX2_init cX2_init 1 none) ({ frames := 1, cells := 4, slots := 492, locals := 12 } : Room) (va_Pc [.ref h0] (fun U => U.heap.size = sz ∧ va_P D vwCl [(h0, .inr (2, [.null, .null, .null, .null, .int 0, .int 0, .int 0, .int 0, .int 0, .int 0, .int 0, .int 0, .int 0]))] U.heap ∧ va_K D vwCl (xTy q) U)) (va_Qv (fun _ : Nat × Nat × Nat × Nat => True) (fun (u : Nat × Nat × Nat × Nat) t => match u with | (a6, a13, a20, a29) => va_P D vwCl [(h0, .inr (2, [.ref a6, .ref a13, .ref a20, .ref a29, .int 0, .int 0, .int 0, .int 0, .int 0, .int 0, .int 0, .int 0, .int 0])), (a6, .inl (q 0, 4, .inl (fun _ => 0))), (a13, .inl (q 0, 4, .inl (fun _ => 0))), (a20, .inl (q 0, 4, .inl (fun _ => 0))), (a29, .inl (q 0, 480, .inl (fun _ => 0)))] t.heap ∧ va_D (va_A [(h0, .inr (2, [.null, .null, .null, .null, .int 0, .int 0, .int 0, .int 0, .int 0, .int 0, .int 0, .int 0, .int 0]))] sz) [(h0, .inr (2, [.ref a6, .ref a13, .ref a20, .ref a29, .int 0, .int 0, .int 0, .int 0, .int 0, .int 0, .int 0, .int 0, .int 0])), (a6, .inl (q 0, 4, .inl (fun _ => 0))), (a13, .inl (q 0, 4, .inl (fun _ => 0))), (a20, .inl (q 0, 4, .inl (fun _ => 0))), (a29, .inl (q 0, 480, .inl (fun _ => 0)))]) (va_A [(h0, .inr (2, [.null, .null, .null, .null, .int 0, .int 0, .int 0, .int 0, .int 0, .int 0, .int 0, .int 0, .int 0]))] sz)) 4 492 (va_A [(h0, .inr (2, [.null, .null, .null, .null, .int 0, .int 0, .int 0, .int 0, .int 0, .int 0, .int 0, .int 0, .int 0]))] sz) := by
  refine Met.ofW (cc := cX2_init) (maxL := 1) (ret := none) (by decide) rfl ?_
  intro p e s m args below meth c s₁ B hml hv
  obtain ⟨hargs, hsz, hP, hK⟩ := hv
  have hx := B.exec
  have hb := B.bytes
  have hr := B.returns
  have hts := atoms_spec (ws := (cW yX2_init cX2_init 1 none)) B.pre
  have ht : ∀ w ∈ tG, w.before args s = true := fun w h => hts w (List.mem_cons_of_mem _ h)
  have hown : s.vm.findClass RX2 = some m.cls := findClass_of_methodNamed B.named
  have hlocks := B.notSynchronized
  have hin : meth.name = "<init>" := (name_of_methodNamed B.named B.method).1
  have S : CallFix p m c cX2_init 1 s args tG RX2 := ⟨hx, hb, hml, hown, ht⟩
  subst hsz
  have hD : va_D (va_A [(h0, .inr (2, [.null, .null, .null, .null, .int 0, .int 0, .int 0, .int 0, .int 0, .int 0, .int 0, .int 0, .int 0]))] s.heap.size) [(h0, .inr (2, [.null, .null, .null, .null, .int 0, .int 0, .int 0, .int 0, .int 0, .int 0, .int 0, .int 0, .int 0]))] := va_D1 (Or.inl ⟨0, _, rfl⟩)
  generalize hAe : va_A [(h0, .inr (2, [.null, .null, .null, .null, .int 0, .int 0, .int 0, .int 0, .int 0, .int 0, .int 0, .int 0, .int 0]))] s.heap.size = A at hD ⊢
  have hA : ∀ x : Nat, s.heap.size ≤ x → A x := fun x h => by rw [← hAe]; exact Or.inr h
  have hS : va_S A s.heap s.heap [] := va_S.rf
  refine g_entry (vs := [.ref h0]) hargs (Nat.le_of_ble_eq_true rfl) (fun ls hl => ?_)
  have hl : lv_has ls 1 [(0, .ref h0)] := hl
  refine lv_aload_n hx hb dX2_init_0 rfl (lv_at hl 0 rfl) ?_
  refine W.objInit hx hb hown (ht _ tw_ml_X2_3) (ht _ tw_im_objInit) (ht _ tw_co_objInit) rfl (by rw [hml]; exact hl.1) rfl dX2_init_1 (Nat.le_of_ble_eq_true rfl) (Nat.le_of_ble_eq_true rfl) ?_
  refine W.eq (g2 := F0 m 4 ls []) rfl ?_
  refine lv_aload_n hx hb dX2_init_4 rfl (lv_at hl 0 rfl) ?_
  refine lv_iconst (v := (4 : Int32)) hx hb dX2_init_5 (by decide) ?_
  refine g_newi hx hb ht hK hP hD hS hA 4 (by decide) rfl (by decide) (Nat.le_of_ble_eq_true rfl) (Nat.le_of_ble_eq_true rfl) dX2_init_6 (fun a6 H hP hD hS => ?_)
  have hP : va_P D vwCl [(h0, .inr (2, [.null, .null, .null, .null, .int 0, .int 0, .int 0, .int 0, .int 0, .int 0, .int 0, .int 0, .int 0])), (a6, .inl (q 0, 4, .inl (fun _ => 0)))] H := hP
  have hD : va_D A [(h0, .inr (2, [.null, .null, .null, .null, .int 0, .int 0, .int 0, .int 0, .int 0, .int 0, .int 0, .int 0, .int 0])), (a6, .inl (q 0, 4, .inl (fun _ => 0)))] := hD
  refine W.widen (k := 1) (n := 4) (Nat.le_of_ble_eq_true rfl) (Nat.le_of_ble_eq_true rfl) ?_
  refine va_putF (D := D) (ci := 2) (v := .ref a6) (C := RX2) (T := TX2) (N := 13) hx hb ht tl_X2 tyX2 tyX2_ok nmX2 hown hK hP hD hS 0 rfl rfl 0 (by decide) (ht _ tw_fl_X2_9) (fun _ h9 => h9) rfl hin rfl rfl rfl rfl (Nat.le_of_ble_eq_true rfl) dX2_init_8 (fun H locs hP hD hS => ?_)
  have hP : va_P D vwCl [(h0, .inr (2, [.ref a6, .null, .null, .null, .int 0, .int 0, .int 0, .int 0, .int 0, .int 0, .int 0, .int 0, .int 0])), (a6, .inl (q 0, 4, .inl (fun _ => 0)))] H := hP
  have hD : va_D A [(h0, .inr (2, [.ref a6, .null, .null, .null, .int 0, .int 0, .int 0, .int 0, .int 0, .int 0, .int 0, .int 0, .int 0])), (a6, .inl (q 0, 4, .inl (fun _ => 0)))] := hD
  refine lv_aload_n hx hb dX2_init_11 rfl (lv_at hl 0 rfl) ?_
  refine lv_iconst (v := (4 : Int32)) hx hb dX2_init_12 (by decide) ?_
  refine g_newi hx hb ht hK hP hD hS hA 4 (by decide) rfl (by decide) (Nat.le_of_ble_eq_true rfl) (Nat.le_of_ble_eq_true rfl) dX2_init_13 (fun a13 H hP hD hS => ?_)
  have hP : va_P D vwCl [(h0, .inr (2, [.ref a6, .null, .null, .null, .int 0, .int 0, .int 0, .int 0, .int 0, .int 0, .int 0, .int 0, .int 0])), (a6, .inl (q 0, 4, .inl (fun _ => 0))), (a13, .inl (q 0, 4, .inl (fun _ => 0)))] H := hP
  have hD : va_D A [(h0, .inr (2, [.ref a6, .null, .null, .null, .int 0, .int 0, .int 0, .int 0, .int 0, .int 0, .int 0, .int 0, .int 0])), (a6, .inl (q 0, 4, .inl (fun _ => 0))), (a13, .inl (q 0, 4, .inl (fun _ => 0)))] := hD
  refine W.widen (k := 2) (n := 8) (Nat.le_of_ble_eq_true rfl) (Nat.le_of_ble_eq_true rfl) ?_
  refine va_putF (D := D) (ci := 2) (v := .ref a13) (C := RX2) (T := TX2) (N := 13) hx hb ht tl_X2 tyX2 tyX2_ok nmX2 hown hK hP hD hS 0 rfl rfl 1 (by decide) (ht _ tw_fl_X2_15) (fun _ h9 => h9) rfl hin rfl rfl rfl rfl (Nat.le_of_ble_eq_true rfl) dX2_init_15 (fun H locs hP hD hS => ?_)
  have hP : va_P D vwCl [(h0, .inr (2, [.ref a6, .ref a13, .null, .null, .int 0, .int 0, .int 0, .int 0, .int 0, .int 0, .int 0, .int 0, .int 0])), (a6, .inl (q 0, 4, .inl (fun _ => 0))), (a13, .inl (q 0, 4, .inl (fun _ => 0)))] H := hP
  have hD : va_D A [(h0, .inr (2, [.ref a6, .ref a13, .null, .null, .int 0, .int 0, .int 0, .int 0, .int 0, .int 0, .int 0, .int 0, .int 0])), (a6, .inl (q 0, 4, .inl (fun _ => 0))), (a13, .inl (q 0, 4, .inl (fun _ => 0)))] := hD
  refine lv_aload_n hx hb dX2_init_18 rfl (lv_at hl 0 rfl) ?_
  refine lv_iconst (v := (4 : Int32)) hx hb dX2_init_19 (by decide) ?_
  refine g_newi hx hb ht hK hP hD hS hA 4 (by decide) rfl (by decide) (Nat.le_of_ble_eq_true rfl) (Nat.le_of_ble_eq_true rfl) dX2_init_20 (fun a20 H hP hD hS => ?_)
  have hP : va_P D vwCl [(h0, .inr (2, [.ref a6, .ref a13, .null, .null, .int 0, .int 0, .int 0, .int 0, .int 0, .int 0, .int 0, .int 0, .int 0])), (a6, .inl (q 0, 4, .inl (fun _ => 0))), (a13, .inl (q 0, 4, .inl (fun _ => 0))), (a20, .inl (q 0, 4, .inl (fun _ => 0)))] H := hP
  have hD : va_D A [(h0, .inr (2, [.ref a6, .ref a13, .null, .null, .int 0, .int 0, .int 0, .int 0, .int 0, .int 0, .int 0, .int 0, .int 0])), (a6, .inl (q 0, 4, .inl (fun _ => 0))), (a13, .inl (q 0, 4, .inl (fun _ => 0))), (a20, .inl (q 0, 4, .inl (fun _ => 0)))] := hD
  refine W.widen (k := 3) (n := 12) (Nat.le_of_ble_eq_true rfl) (Nat.le_of_ble_eq_true rfl) ?_
  refine va_putF (D := D) (ci := 2) (v := .ref a20) (C := RX2) (T := TX2) (N := 13) hx hb ht tl_X2 tyX2 tyX2_ok nmX2 hown hK hP hD hS 0 rfl rfl 2 (by decide) (ht _ tw_fl_X2_18) (fun _ h9 => h9) rfl hin rfl rfl rfl rfl (Nat.le_of_ble_eq_true rfl) dX2_init_22 (fun H locs hP hD hS => ?_)
  have hP : va_P D vwCl [(h0, .inr (2, [.ref a6, .ref a13, .ref a20, .null, .int 0, .int 0, .int 0, .int 0, .int 0, .int 0, .int 0, .int 0, .int 0])), (a6, .inl (q 0, 4, .inl (fun _ => 0))), (a13, .inl (q 0, 4, .inl (fun _ => 0))), (a20, .inl (q 0, 4, .inl (fun _ => 0)))] H := hP
  have hD : va_D A [(h0, .inr (2, [.ref a6, .ref a13, .ref a20, .null, .int 0, .int 0, .int 0, .int 0, .int 0, .int 0, .int 0, .int 0, .int 0])), (a6, .inl (q 0, 4, .inl (fun _ => 0))), (a13, .inl (q 0, 4, .inl (fun _ => 0))), (a20, .inl (q 0, 4, .inl (fun _ => 0)))] := hD
  refine lv_aload_n hx hb dX2_init_25 rfl (lv_at hl 0 rfl) ?_
  refine lv_sipush (v := (480 : Int32)) hx hb dX2_init_26 (by decide) ?_
  refine g_newi hx hb ht hK hP hD hS hA 480 (by decide) rfl (by decide) (Nat.le_of_ble_eq_true rfl) (Nat.le_of_ble_eq_true rfl) dX2_init_29 (fun a29 H hP hD hS => ?_)
  have hP : va_P D vwCl [(h0, .inr (2, [.ref a6, .ref a13, .ref a20, .null, .int 0, .int 0, .int 0, .int 0, .int 0, .int 0, .int 0, .int 0, .int 0])), (a6, .inl (q 0, 4, .inl (fun _ => 0))), (a13, .inl (q 0, 4, .inl (fun _ => 0))), (a20, .inl (q 0, 4, .inl (fun _ => 0))), (a29, .inl (q 0, 480, .inl (fun _ => 0)))] H := hP
  have hD : va_D A [(h0, .inr (2, [.ref a6, .ref a13, .ref a20, .null, .int 0, .int 0, .int 0, .int 0, .int 0, .int 0, .int 0, .int 0, .int 0])), (a6, .inl (q 0, 4, .inl (fun _ => 0))), (a13, .inl (q 0, 4, .inl (fun _ => 0))), (a20, .inl (q 0, 4, .inl (fun _ => 0))), (a29, .inl (q 0, 480, .inl (fun _ => 0)))] := hD
  refine W.widen (k := 4) (n := 492) (Nat.le_of_ble_eq_true rfl) (Nat.le_of_ble_eq_true rfl) ?_
  refine va_putF (D := D) (ci := 2) (v := .ref a29) (C := RX2) (T := TX2) (N := 13) hx hb ht tl_X2 tyX2 tyX2_ok nmX2 hown hK hP hD hS 0 rfl rfl 3 (by decide) (ht _ tw_fl_X2_21) (fun _ h9 => h9) rfl hin rfl rfl rfl rfl (Nat.le_of_ble_eq_true rfl) dX2_init_31 (fun H locs hP hD hS => ?_)
  have hP : va_P D vwCl [(h0, .inr (2, [.ref a6, .ref a13, .ref a20, .ref a29, .int 0, .int 0, .int 0, .int 0, .int 0, .int 0, .int 0, .int 0, .int 0])), (a6, .inl (q 0, 4, .inl (fun _ => 0))), (a13, .inl (q 0, 4, .inl (fun _ => 0))), (a20, .inl (q 0, 4, .inl (fun _ => 0))), (a29, .inl (q 0, 480, .inl (fun _ => 0)))] H := hP
  have hD : va_D A [(h0, .inr (2, [.ref a6, .ref a13, .ref a20, .ref a29, .int 0, .int 0, .int 0, .int 0, .int 0, .int 0, .int 0, .int 0, .int 0])), (a6, .inl (q 0, 4, .inl (fun _ => 0))), (a13, .inl (q 0, 4, .inl (fun _ => 0))), (a20, .inl (q 0, 4, .inl (fun _ => 0))), (a29, .inl (q 0, 480, .inl (fun _ => 0)))] := hD
  exact W.vret hx hb hr (fun t ht1 hW => ⟨⟨(a6, a13, a20, a29), rfl, trivial, by rw [ht1]; exact hP, hD⟩, hS.F ht1⟩) hS.2.2 dX2_init_34 hlocks
set_option maxHeartbeats 40000000 in
set_option maxRecDepth 100000 in
theorem kX3_init (l : Launch) (D : va_G) (q : Nat → ClassId) (h0 sz : Nat) : Met l yX3_init (cW yX3_init cX3_init 1 none) ({ frames := 1, cells := 1, slots := 40, locals := 12 } : Room) (va_Pc [.ref h0] (fun U => U.heap.size = sz ∧ va_P D vwCl [(h0, .inr (3, [.null, .int 0, .int 0]))] U.heap ∧ va_K D vwCl (xTy q) U)) (va_Qv (fun _ : Nat => True) (fun (a7 : Nat) t => va_P D vwCl [(h0, .inr (3, [.ref a7, .int 0, .int (-1 : Int32)])), (a7, .inl (q 0, 40, .inl (fun _ => 0)))] t.heap ∧ va_D (va_A [(h0, .inr (3, [.null, .int 0, .int 0]))] sz) [(h0, .inr (3, [.ref a7, .int 0, .int (-1 : Int32)])), (a7, .inl (q 0, 40, .inl (fun _ => 0)))]) (va_A [(h0, .inr (3, [.null, .int 0, .int 0]))] sz)) 1 40 (va_A [(h0, .inr (3, [.null, .int 0, .int 0]))] sz) := by
  refine Met.ofW (cc := cX3_init) (maxL := 1) (ret := none) (by decide) rfl ?_
  intro p e s m args below meth c s₁ B hml hv
  obtain ⟨hargs, hsz, hP, hK⟩ := hv
  have hx := B.exec
  have hb := B.bytes
  have hr := B.returns
  have hts := atoms_spec (ws := (cW yX3_init cX3_init 1 none)) B.pre
  have ht : ∀ w ∈ tG, w.before args s = true := fun w h => hts w (List.mem_cons_of_mem _ h)
  have hown : s.vm.findClass RX3 = some m.cls := findClass_of_methodNamed B.named
  have hlocks := B.notSynchronized
  have hin : meth.name = "<init>" := (name_of_methodNamed B.named B.method).1
  have S : CallFix p m c cX3_init 1 s args tG RX3 := ⟨hx, hb, hml, hown, ht⟩
  subst hsz
  have hD : va_D (va_A [(h0, .inr (3, [.null, .int 0, .int 0]))] s.heap.size) [(h0, .inr (3, [.null, .int 0, .int 0]))] := va_D1 (Or.inl ⟨0, _, rfl⟩)
  generalize hAe : va_A [(h0, .inr (3, [.null, .int 0, .int 0]))] s.heap.size = A at hD ⊢
  have hA : ∀ x : Nat, s.heap.size ≤ x → A x := fun x h => by rw [← hAe]; exact Or.inr h
  have hS : va_S A s.heap s.heap [] := va_S.rf
  refine g_entry (vs := [.ref h0]) hargs (Nat.le_of_ble_eq_true rfl) (fun ls hl => ?_)
  have hl : lv_has ls 1 [(0, .ref h0)] := hl
  refine lv_aload_n hx hb dX3_init_0 rfl (lv_at hl 0 rfl) ?_
  refine W.objInit hx hb hown (ht _ tw_ml_X3_3) (ht _ tw_im_objInit) (ht _ tw_co_objInit) rfl (by rw [hml]; exact hl.1) rfl dX3_init_1 (Nat.le_of_ble_eq_true rfl) (Nat.le_of_ble_eq_true rfl) ?_
  refine W.eq (g2 := F0 m 4 ls []) rfl ?_
  refine lv_aload_n hx hb dX3_init_4 rfl (lv_at hl 0 rfl) ?_
  refine lv_bipush (v := (40 : Int32)) hx hb dX3_init_5 (by decide) ?_
  refine g_newi hx hb ht hK hP hD hS hA 40 (by decide) rfl (by decide) (Nat.le_of_ble_eq_true rfl) (Nat.le_of_ble_eq_true rfl) dX3_init_7 (fun a7 H hP hD hS => ?_)
  have hP : va_P D vwCl [(h0, .inr (3, [.null, .int 0, .int 0])), (a7, .inl (q 0, 40, .inl (fun _ => 0)))] H := hP
  have hD : va_D A [(h0, .inr (3, [.null, .int 0, .int 0])), (a7, .inl (q 0, 40, .inl (fun _ => 0)))] := hD
  refine W.widen (k := 1) (n := 40) (Nat.le_of_ble_eq_true rfl) (Nat.le_of_ble_eq_true rfl) ?_
  refine va_putF (D := D) (ci := 3) (v := .ref a7) (C := RX3) (T := TX3) (N := 3) hx hb ht tl_X3 tyX3 tyX3_ok nmX3 hown hK hP hD hS 0 rfl rfl 0 (by decide) (ht _ tw_fl_X3_9) (fun _ h9 => h9) rfl hin rfl rfl rfl rfl (Nat.le_of_ble_eq_true rfl) dX3_init_9 (fun H locs hP hD hS => ?_)
  have hP : va_P D vwCl [(h0, .inr (3, [.ref a7, .int 0, .int 0])), (a7, .inl (q 0, 40, .inl (fun _ => 0)))] H := hP
  have hD : va_D A [(h0, .inr (3, [.ref a7, .int 0, .int 0])), (a7, .inl (q 0, 40, .inl (fun _ => 0)))] := hD
  refine lv_aload_n hx hb dX3_init_12 rfl (lv_at hl 0 rfl) ?_
  refine lv_iconst (v := (-1 : Int32)) hx hb dX3_init_13 (by decide) ?_
  refine va_put (D := D) (ci := 3) (v := .int (-1 : Int32)) (C := RX3) (T := TX3) (N := 3) hx hb ht tl_X3 tyX3 tyX3_ok nmX3 hown hK hP hD hS 0 rfl rfl 2 (by decide) (ht _ tw_fl_X3_15) (fun _ h9 => h9) rfl rfl rfl rfl (Nat.le_of_ble_eq_true rfl) dX3_init_14 (fun H locs hP hD hS => ?_)
  have hP : va_P D vwCl [(h0, .inr (3, [.ref a7, .int 0, .int (-1 : Int32)])), (a7, .inl (q 0, 40, .inl (fun _ => 0)))] H := hP
  have hD : va_D A [(h0, .inr (3, [.ref a7, .int 0, .int (-1 : Int32)])), (a7, .inl (q 0, 40, .inl (fun _ => 0)))] := hD
  exact W.vret hx hb hr (fun t ht1 hW => ⟨⟨a7, rfl, trivial, by rw [ht1]; exact hP, hD⟩, hS.F ht1⟩) hS.2.2 dX3_init_17 hlocks
set_option maxHeartbeats 40000000 in
set_option maxRecDepth 100000 in
theorem kX6_init (l : Launch) (D : va_G) (q : Nat → ClassId) (h0 sz : Nat) (r1 : Nat) (r2 : Nat) : Met l yX6_init (cW yX6_init cX6_init 3 none) ({ frames := 1, cells := 0, slots := 0, locals := 12 } : Room) (va_Pc [.ref h0, .ref r1, .ref r2] (fun U => U.heap.size = sz ∧ va_P D vwCl [(h0, .inr (6, [.null, .null, .int 0]))] U.heap ∧ va_K D vwCl (xTy q) U)) (va_Qv (fun _ : Unit => True) (fun (_ : Unit) t => va_P D vwCl [(h0, .inr (6, [.ref r1, .ref r2, .int 0]))] t.heap ∧ va_D (va_A [(h0, .inr (6, [.null, .null, .int 0]))] sz) [(h0, .inr (6, [.ref r1, .ref r2, .int 0]))]) (va_A [(h0, .inr (6, [.null, .null, .int 0]))] sz)) 0 0 (va_A [(h0, .inr (6, [.null, .null, .int 0]))] sz) := by
  refine Met.ofW (cc := cX6_init) (maxL := 3) (ret := none) (by decide) rfl ?_
  intro p e s m args below meth c s₁ B hml hv
  obtain ⟨hargs, hsz, hP, hK⟩ := hv
  have hx := B.exec
  have hb := B.bytes
  have hr := B.returns
  have hts := atoms_spec (ws := (cW yX6_init cX6_init 3 none)) B.pre
  have ht : ∀ w ∈ tG, w.before args s = true := fun w h => hts w (List.mem_cons_of_mem _ h)
  have hown : s.vm.findClass RX6 = some m.cls := findClass_of_methodNamed B.named
  have hlocks := B.notSynchronized
  have hin : meth.name = "<init>" := (name_of_methodNamed B.named B.method).1
  have S : CallFix p m c cX6_init 3 s args tG RX6 := ⟨hx, hb, hml, hown, ht⟩
  subst hsz
  have hD : va_D (va_A [(h0, .inr (6, [.null, .null, .int 0]))] s.heap.size) [(h0, .inr (6, [.null, .null, .int 0]))] := va_D1 (Or.inl ⟨0, _, rfl⟩)
  generalize hAe : va_A [(h0, .inr (6, [.null, .null, .int 0]))] s.heap.size = A at hD ⊢
  have hA : ∀ x : Nat, s.heap.size ≤ x → A x := fun x h => by rw [← hAe]; exact Or.inr h
  have hS : va_S A s.heap s.heap [] := va_S.rf
  refine g_entry (vs := [.ref h0, .ref r1, .ref r2]) hargs (Nat.le_of_ble_eq_true rfl) (fun ls hl => ?_)
  have hl : lv_has ls 3 [(0, .ref h0), (1, .ref r1), (2, .ref r2)] := hl
  refine lv_aload_n hx hb dX6_init_0 rfl (lv_at hl 0 rfl) ?_
  refine W.objInit hx hb hown (ht _ tw_ml_X6_3) (ht _ tw_im_objInit) (ht _ tw_co_objInit) rfl (by rw [hml]; exact hl.1) rfl dX6_init_1 (Nat.le_of_ble_eq_true rfl) (Nat.le_of_ble_eq_true rfl) ?_
  refine W.eq (g2 := F0 m 4 ls []) rfl ?_
  refine lv_aload_n hx hb dX6_init_4 rfl (lv_at hl 0 rfl) ?_
  refine lv_aload_n hx hb dX6_init_5 rfl (lv_at hl 1 rfl) ?_
  refine va_putF (D := D) (ci := 6) (v := .ref r1) (C := RX6) (T := TX6) (N := 3) hx hb ht tl_X6 tyX6 tyX6_ok nmX6 hown hK hP hD hS 0 rfl rfl 0 (by decide) (ht _ tw_fl_X6_9) (fun _ h9 => h9) rfl hin rfl rfl rfl rfl (Nat.le_of_ble_eq_true rfl) dX6_init_6 (fun H locs hP hD hS => ?_)
  have hP : va_P D vwCl [(h0, .inr (6, [.ref r1, .null, .int 0]))] H := hP
  have hD : va_D A [(h0, .inr (6, [.ref r1, .null, .int 0]))] := hD
  refine lv_aload_n hx hb dX6_init_9 rfl (lv_at hl 0 rfl) ?_
  refine lv_aload_n hx hb dX6_init_10 rfl (lv_at hl 2 rfl) ?_
  refine va_putF (D := D) (ci := 6) (v := .ref r2) (C := RX6) (T := TX6) (N := 3) hx hb ht tl_X6 tyX6 tyX6_ok nmX6 hown hK hP hD hS 0 rfl rfl 1 (by decide) (ht _ tw_fl_X6_15) (fun _ h9 => h9) rfl hin rfl rfl rfl rfl (Nat.le_of_ble_eq_true rfl) dX6_init_11 (fun H locs hP hD hS => ?_)
  have hP : va_P D vwCl [(h0, .inr (6, [.ref r1, .ref r2, .int 0]))] H := hP
  have hD : va_D A [(h0, .inr (6, [.ref r1, .ref r2, .int 0]))] := hD
  exact W.vret hx hb hr (fun t ht1 hW => ⟨⟨(), rfl, trivial, by rw [ht1]; exact hP, hD⟩, hS.F ht1⟩) hS.2.2 dX6_init_14 hlocks
set_option maxHeartbeats 40000000 in
set_option maxRecDepth 100000 in
theorem kX1_init (l : Launch) (D : va_G) (q : Nat → ClassId) (h0 sz : Nat) (r1 : Nat) (r2 : Nat) : Met l yX1_init (cW yX1_init cX1_init 3 none) ({ frames := 1, cells := 0, slots := 0, locals := 12 } : Room) (va_Pc [.ref h0, .ref r1, .ref r2] (fun U => U.heap.size = sz ∧ va_P D vwCl [(h0, .inr (1, [.null, .null, .long 0, .long 0, .long 0]))] U.heap ∧ va_K D vwCl (xTy q) U)) (va_Qv (fun _ : Unit => True) (fun (_ : Unit) t => va_P D vwCl [(h0, .inr (1, [.ref r1, .ref r2, .long 0, .long 0, .long 0]))] t.heap ∧ va_D (va_A [(h0, .inr (1, [.null, .null, .long 0, .long 0, .long 0]))] sz) [(h0, .inr (1, [.ref r1, .ref r2, .long 0, .long 0, .long 0]))]) (va_A [(h0, .inr (1, [.null, .null, .long 0, .long 0, .long 0]))] sz)) 0 0 (va_A [(h0, .inr (1, [.null, .null, .long 0, .long 0, .long 0]))] sz) := by
  refine Met.ofW (cc := cX1_init) (maxL := 3) (ret := none) (by decide) rfl ?_
  intro p e s m args below meth c s₁ B hml hv
  obtain ⟨hargs, hsz, hP, hK⟩ := hv
  have hx := B.exec
  have hb := B.bytes
  have hr := B.returns
  have hts := atoms_spec (ws := (cW yX1_init cX1_init 3 none)) B.pre
  have ht : ∀ w ∈ tG, w.before args s = true := fun w h => hts w (List.mem_cons_of_mem _ h)
  have hown : s.vm.findClass RX1 = some m.cls := findClass_of_methodNamed B.named
  have hlocks := B.notSynchronized
  have hin : meth.name = "<init>" := (name_of_methodNamed B.named B.method).1
  have S : CallFix p m c cX1_init 3 s args tG RX1 := ⟨hx, hb, hml, hown, ht⟩
  subst hsz
  have hD : va_D (va_A [(h0, .inr (1, [.null, .null, .long 0, .long 0, .long 0]))] s.heap.size) [(h0, .inr (1, [.null, .null, .long 0, .long 0, .long 0]))] := va_D1 (Or.inl ⟨0, _, rfl⟩)
  generalize hAe : va_A [(h0, .inr (1, [.null, .null, .long 0, .long 0, .long 0]))] s.heap.size = A at hD ⊢
  have hA : ∀ x : Nat, s.heap.size ≤ x → A x := fun x h => by rw [← hAe]; exact Or.inr h
  have hS : va_S A s.heap s.heap [] := va_S.rf
  refine g_entry (vs := [.ref h0, .ref r1, .ref r2]) hargs (Nat.le_of_ble_eq_true rfl) (fun ls hl => ?_)
  have hl : lv_has ls 3 [(0, .ref h0), (1, .ref r1), (2, .ref r2)] := hl
  refine lv_aload_n hx hb dX1_init_0 rfl (lv_at hl 0 rfl) ?_
  refine W.objInit hx hb hown (ht _ tw_ml_X1_3) (ht _ tw_im_objInit) (ht _ tw_co_objInit) rfl (by rw [hml]; exact hl.1) rfl dX1_init_1 (Nat.le_of_ble_eq_true rfl) (Nat.le_of_ble_eq_true rfl) ?_
  refine W.eq (g2 := F0 m 4 ls []) rfl ?_
  refine lv_aload_n hx hb dX1_init_4 rfl (lv_at hl 0 rfl) ?_
  refine lv_aload_n hx hb dX1_init_5 rfl (lv_at hl 1 rfl) ?_
  refine va_putF (D := D) (ci := 1) (v := .ref r1) (C := RX1) (T := TX1) (N := 5) hx hb ht tl_X1 tyX1 tyX1_ok nmX1 hown hK hP hD hS 0 rfl rfl 0 (by decide) (ht _ tw_fl_X1_9) (fun _ h9 => h9) rfl hin rfl rfl rfl rfl (Nat.le_of_ble_eq_true rfl) dX1_init_6 (fun H locs hP hD hS => ?_)
  have hP : va_P D vwCl [(h0, .inr (1, [.ref r1, .null, .long 0, .long 0, .long 0]))] H := hP
  have hD : va_D A [(h0, .inr (1, [.ref r1, .null, .long 0, .long 0, .long 0]))] := hD
  refine lv_aload_n hx hb dX1_init_9 rfl (lv_at hl 0 rfl) ?_
  refine lv_aload_n hx hb dX1_init_10 rfl (lv_at hl 2 rfl) ?_
  refine va_putF (D := D) (ci := 1) (v := .ref r2) (C := RX1) (T := TX1) (N := 5) hx hb ht tl_X1 tyX1 tyX1_ok nmX1 hown hK hP hD hS 0 rfl rfl 1 (by decide) (ht _ tw_fl_X1_15) (fun _ h9 => h9) rfl hin rfl rfl rfl rfl (Nat.le_of_ble_eq_true rfl) dX1_init_11 (fun H locs hP hD hS => ?_)
  have hP : va_P D vwCl [(h0, .inr (1, [.ref r1, .ref r2, .long 0, .long 0, .long 0]))] H := hP
  have hD : va_D A [(h0, .inr (1, [.ref r1, .ref r2, .long 0, .long 0, .long 0]))] := hD
  exact W.vret hx hb hr (fun t ht1 hW => ⟨⟨(), rfl, trivial, by rw [ht1]; exact hP, hD⟩, hS.F ht1⟩) hS.2.2 dX1_init_14 hlocks
set_option maxHeartbeats 40000000 in
set_option maxRecDepth 100000 in
theorem kX4_init (l : Launch) (D : va_G) (q : Nat → ClassId) (h0 sz : Nat) (r1 : Nat) (r2 : Nat) : Met l yX4_init (cW yX4_init cX4_init 3 none) ({ frames := 1, cells := 4, slots := 498, locals := 12 } : Room) (va_Pc [.ref h0, .ref r1, .ref r2] (fun U => U.heap.size = sz ∧ va_P D vwCl [(h0, .inr (4, [.null, .null, .null, .null, .null, .null, .int 0, .int 0]))] U.heap ∧ va_K D vwCl (xTy q) U)) (va_Qv (fun _ : Nat × Nat × Nat × Nat => True) (fun (u : Nat × Nat × Nat × Nat) t => match u with | (a7, a15, a23, a32) => va_P D vwCl [(h0, .inr (4, [.ref r1, .ref r2, .ref a7, .ref a15, .ref a23, .ref a32, .int 0, .int 0])), (a7, .inl (q 0, 6, .inl (fun _ => 0))), (a15, .inl (q 0, 6, .inl (fun _ => 0))), (a23, .inl (q 0, 6, .inl (fun _ => 0))), (a32, .inl (q 0, 480, .inl (fun _ => 0)))] t.heap ∧ va_D (va_A [(h0, .inr (4, [.null, .null, .null, .null, .null, .null, .int 0, .int 0]))] sz) [(h0, .inr (4, [.ref r1, .ref r2, .ref a7, .ref a15, .ref a23, .ref a32, .int 0, .int 0])), (a7, .inl (q 0, 6, .inl (fun _ => 0))), (a15, .inl (q 0, 6, .inl (fun _ => 0))), (a23, .inl (q 0, 6, .inl (fun _ => 0))), (a32, .inl (q 0, 480, .inl (fun _ => 0)))]) (va_A [(h0, .inr (4, [.null, .null, .null, .null, .null, .null, .int 0, .int 0]))] sz)) 4 498 (va_A [(h0, .inr (4, [.null, .null, .null, .null, .null, .null, .int 0, .int 0]))] sz) := by
  refine Met.ofW (cc := cX4_init) (maxL := 3) (ret := none) (by decide) rfl ?_
  intro p e s m args below meth c s₁ B hml hv
  obtain ⟨hargs, hsz, hP, hK⟩ := hv
  have hx := B.exec
  have hb := B.bytes
  have hr := B.returns
  have hts := atoms_spec (ws := (cW yX4_init cX4_init 3 none)) B.pre
  have ht : ∀ w ∈ tG, w.before args s = true := fun w h => hts w (List.mem_cons_of_mem _ h)
  have hown : s.vm.findClass RX4 = some m.cls := findClass_of_methodNamed B.named
  have hlocks := B.notSynchronized
  have hin : meth.name = "<init>" := (name_of_methodNamed B.named B.method).1
  have S : CallFix p m c cX4_init 3 s args tG RX4 := ⟨hx, hb, hml, hown, ht⟩
  subst hsz
  have hD : va_D (va_A [(h0, .inr (4, [.null, .null, .null, .null, .null, .null, .int 0, .int 0]))] s.heap.size) [(h0, .inr (4, [.null, .null, .null, .null, .null, .null, .int 0, .int 0]))] := va_D1 (Or.inl ⟨0, _, rfl⟩)
  generalize hAe : va_A [(h0, .inr (4, [.null, .null, .null, .null, .null, .null, .int 0, .int 0]))] s.heap.size = A at hD ⊢
  have hA : ∀ x : Nat, s.heap.size ≤ x → A x := fun x h => by rw [← hAe]; exact Or.inr h
  have hS : va_S A s.heap s.heap [] := va_S.rf
  refine g_entry (vs := [.ref h0, .ref r1, .ref r2]) hargs (Nat.le_of_ble_eq_true rfl) (fun ls hl => ?_)
  have hl : lv_has ls 3 [(0, .ref h0), (1, .ref r1), (2, .ref r2)] := hl
  refine lv_aload_n hx hb dX4_init_0 rfl (lv_at hl 0 rfl) ?_
  refine W.objInit hx hb hown (ht _ tw_ml_X4_3) (ht _ tw_im_objInit) (ht _ tw_co_objInit) rfl (by rw [hml]; exact hl.1) rfl dX4_init_1 (Nat.le_of_ble_eq_true rfl) (Nat.le_of_ble_eq_true rfl) ?_
  refine W.eq (g2 := F0 m 4 ls []) rfl ?_
  refine lv_aload_n hx hb dX4_init_4 rfl (lv_at hl 0 rfl) ?_
  refine lv_bipush (v := (6 : Int32)) hx hb dX4_init_5 (by decide) ?_
  refine g_newi hx hb ht hK hP hD hS hA 6 (by decide) rfl (by decide) (Nat.le_of_ble_eq_true rfl) (Nat.le_of_ble_eq_true rfl) dX4_init_7 (fun a7 H hP hD hS => ?_)
  have hP : va_P D vwCl [(h0, .inr (4, [.null, .null, .null, .null, .null, .null, .int 0, .int 0])), (a7, .inl (q 0, 6, .inl (fun _ => 0)))] H := hP
  have hD : va_D A [(h0, .inr (4, [.null, .null, .null, .null, .null, .null, .int 0, .int 0])), (a7, .inl (q 0, 6, .inl (fun _ => 0)))] := hD
  refine W.widen (k := 1) (n := 6) (Nat.le_of_ble_eq_true rfl) (Nat.le_of_ble_eq_true rfl) ?_
  refine va_putF (D := D) (ci := 4) (v := .ref a7) (C := RX4) (T := TX4) (N := 8) hx hb ht tl_X4 tyX4 tyX4_ok nmX4 hown hK hP hD hS 0 rfl rfl 2 (by decide) (ht _ tw_fl_X4_9) (fun _ h9 => h9) rfl hin rfl rfl rfl rfl (Nat.le_of_ble_eq_true rfl) dX4_init_9 (fun H locs hP hD hS => ?_)
  have hP : va_P D vwCl [(h0, .inr (4, [.null, .null, .ref a7, .null, .null, .null, .int 0, .int 0])), (a7, .inl (q 0, 6, .inl (fun _ => 0)))] H := hP
  have hD : va_D A [(h0, .inr (4, [.null, .null, .ref a7, .null, .null, .null, .int 0, .int 0])), (a7, .inl (q 0, 6, .inl (fun _ => 0)))] := hD
  refine lv_aload_n hx hb dX4_init_12 rfl (lv_at hl 0 rfl) ?_
  refine lv_bipush (v := (6 : Int32)) hx hb dX4_init_13 (by decide) ?_
  refine g_newi hx hb ht hK hP hD hS hA 6 (by decide) rfl (by decide) (Nat.le_of_ble_eq_true rfl) (Nat.le_of_ble_eq_true rfl) dX4_init_15 (fun a15 H hP hD hS => ?_)
  have hP : va_P D vwCl [(h0, .inr (4, [.null, .null, .ref a7, .null, .null, .null, .int 0, .int 0])), (a7, .inl (q 0, 6, .inl (fun _ => 0))), (a15, .inl (q 0, 6, .inl (fun _ => 0)))] H := hP
  have hD : va_D A [(h0, .inr (4, [.null, .null, .ref a7, .null, .null, .null, .int 0, .int 0])), (a7, .inl (q 0, 6, .inl (fun _ => 0))), (a15, .inl (q 0, 6, .inl (fun _ => 0)))] := hD
  refine W.widen (k := 2) (n := 12) (Nat.le_of_ble_eq_true rfl) (Nat.le_of_ble_eq_true rfl) ?_
  refine va_putF (D := D) (ci := 4) (v := .ref a15) (C := RX4) (T := TX4) (N := 8) hx hb ht tl_X4 tyX4 tyX4_ok nmX4 hown hK hP hD hS 0 rfl rfl 3 (by decide) (ht _ tw_fl_X4_15) (fun _ h9 => h9) rfl hin rfl rfl rfl rfl (Nat.le_of_ble_eq_true rfl) dX4_init_17 (fun H locs hP hD hS => ?_)
  have hP : va_P D vwCl [(h0, .inr (4, [.null, .null, .ref a7, .ref a15, .null, .null, .int 0, .int 0])), (a7, .inl (q 0, 6, .inl (fun _ => 0))), (a15, .inl (q 0, 6, .inl (fun _ => 0)))] H := hP
  have hD : va_D A [(h0, .inr (4, [.null, .null, .ref a7, .ref a15, .null, .null, .int 0, .int 0])), (a7, .inl (q 0, 6, .inl (fun _ => 0))), (a15, .inl (q 0, 6, .inl (fun _ => 0)))] := hD
  refine lv_aload_n hx hb dX4_init_20 rfl (lv_at hl 0 rfl) ?_
  refine lv_bipush (v := (6 : Int32)) hx hb dX4_init_21 (by decide) ?_
  refine g_newi hx hb ht hK hP hD hS hA 6 (by decide) rfl (by decide) (Nat.le_of_ble_eq_true rfl) (Nat.le_of_ble_eq_true rfl) dX4_init_23 (fun a23 H hP hD hS => ?_)
  have hP : va_P D vwCl [(h0, .inr (4, [.null, .null, .ref a7, .ref a15, .null, .null, .int 0, .int 0])), (a7, .inl (q 0, 6, .inl (fun _ => 0))), (a15, .inl (q 0, 6, .inl (fun _ => 0))), (a23, .inl (q 0, 6, .inl (fun _ => 0)))] H := hP
  have hD : va_D A [(h0, .inr (4, [.null, .null, .ref a7, .ref a15, .null, .null, .int 0, .int 0])), (a7, .inl (q 0, 6, .inl (fun _ => 0))), (a15, .inl (q 0, 6, .inl (fun _ => 0))), (a23, .inl (q 0, 6, .inl (fun _ => 0)))] := hD
  refine W.widen (k := 3) (n := 18) (Nat.le_of_ble_eq_true rfl) (Nat.le_of_ble_eq_true rfl) ?_
  refine va_putF (D := D) (ci := 4) (v := .ref a23) (C := RX4) (T := TX4) (N := 8) hx hb ht tl_X4 tyX4 tyX4_ok nmX4 hown hK hP hD hS 0 rfl rfl 4 (by decide) (ht _ tw_fl_X4_18) (fun _ h9 => h9) rfl hin rfl rfl rfl rfl (Nat.le_of_ble_eq_true rfl) dX4_init_25 (fun H locs hP hD hS => ?_)
  have hP : va_P D vwCl [(h0, .inr (4, [.null, .null, .ref a7, .ref a15, .ref a23, .null, .int 0, .int 0])), (a7, .inl (q 0, 6, .inl (fun _ => 0))), (a15, .inl (q 0, 6, .inl (fun _ => 0))), (a23, .inl (q 0, 6, .inl (fun _ => 0)))] H := hP
  have hD : va_D A [(h0, .inr (4, [.null, .null, .ref a7, .ref a15, .ref a23, .null, .int 0, .int 0])), (a7, .inl (q 0, 6, .inl (fun _ => 0))), (a15, .inl (q 0, 6, .inl (fun _ => 0))), (a23, .inl (q 0, 6, .inl (fun _ => 0)))] := hD
  refine lv_aload_n hx hb dX4_init_28 rfl (lv_at hl 0 rfl) ?_
  refine lv_sipush (v := (480 : Int32)) hx hb dX4_init_29 (by decide) ?_
  refine g_newi hx hb ht hK hP hD hS hA 480 (by decide) rfl (by decide) (Nat.le_of_ble_eq_true rfl) (Nat.le_of_ble_eq_true rfl) dX4_init_32 (fun a32 H hP hD hS => ?_)
  have hP : va_P D vwCl [(h0, .inr (4, [.null, .null, .ref a7, .ref a15, .ref a23, .null, .int 0, .int 0])), (a7, .inl (q 0, 6, .inl (fun _ => 0))), (a15, .inl (q 0, 6, .inl (fun _ => 0))), (a23, .inl (q 0, 6, .inl (fun _ => 0))), (a32, .inl (q 0, 480, .inl (fun _ => 0)))] H := hP
  have hD : va_D A [(h0, .inr (4, [.null, .null, .ref a7, .ref a15, .ref a23, .null, .int 0, .int 0])), (a7, .inl (q 0, 6, .inl (fun _ => 0))), (a15, .inl (q 0, 6, .inl (fun _ => 0))), (a23, .inl (q 0, 6, .inl (fun _ => 0))), (a32, .inl (q 0, 480, .inl (fun _ => 0)))] := hD
  refine W.widen (k := 4) (n := 498) (Nat.le_of_ble_eq_true rfl) (Nat.le_of_ble_eq_true rfl) ?_
  refine va_putF (D := D) (ci := 4) (v := .ref a32) (C := RX4) (T := TX4) (N := 8) hx hb ht tl_X4 tyX4 tyX4_ok nmX4 hown hK hP hD hS 0 rfl rfl 5 (by decide) (ht _ tw_fl_X4_21) (fun _ h9 => h9) rfl hin rfl rfl rfl rfl (Nat.le_of_ble_eq_true rfl) dX4_init_34 (fun H locs hP hD hS => ?_)
  have hP : va_P D vwCl [(h0, .inr (4, [.null, .null, .ref a7, .ref a15, .ref a23, .ref a32, .int 0, .int 0])), (a7, .inl (q 0, 6, .inl (fun _ => 0))), (a15, .inl (q 0, 6, .inl (fun _ => 0))), (a23, .inl (q 0, 6, .inl (fun _ => 0))), (a32, .inl (q 0, 480, .inl (fun _ => 0)))] H := hP
  have hD : va_D A [(h0, .inr (4, [.null, .null, .ref a7, .ref a15, .ref a23, .ref a32, .int 0, .int 0])), (a7, .inl (q 0, 6, .inl (fun _ => 0))), (a15, .inl (q 0, 6, .inl (fun _ => 0))), (a23, .inl (q 0, 6, .inl (fun _ => 0))), (a32, .inl (q 0, 480, .inl (fun _ => 0)))] := hD
  refine lv_aload_n hx hb dX4_init_37 rfl (lv_at hl 0 rfl) ?_
  refine lv_aload_n hx hb dX4_init_38 rfl (lv_at hl 1 rfl) ?_
  refine va_putF (D := D) (ci := 4) (v := .ref r1) (C := RX4) (T := TX4) (N := 8) hx hb ht tl_X4 tyX4 tyX4_ok nmX4 hown hK hP hD hS 0 rfl rfl 0 (by decide) (ht _ tw_fl_X4_24) (fun _ h9 => h9) rfl hin rfl rfl rfl rfl (Nat.le_of_ble_eq_true rfl) dX4_init_39 (fun H locs hP hD hS => ?_)
  have hP : va_P D vwCl [(h0, .inr (4, [.ref r1, .null, .ref a7, .ref a15, .ref a23, .ref a32, .int 0, .int 0])), (a7, .inl (q 0, 6, .inl (fun _ => 0))), (a15, .inl (q 0, 6, .inl (fun _ => 0))), (a23, .inl (q 0, 6, .inl (fun _ => 0))), (a32, .inl (q 0, 480, .inl (fun _ => 0)))] H := hP
  have hD : va_D A [(h0, .inr (4, [.ref r1, .null, .ref a7, .ref a15, .ref a23, .ref a32, .int 0, .int 0])), (a7, .inl (q 0, 6, .inl (fun _ => 0))), (a15, .inl (q 0, 6, .inl (fun _ => 0))), (a23, .inl (q 0, 6, .inl (fun _ => 0))), (a32, .inl (q 0, 480, .inl (fun _ => 0)))] := hD
  refine lv_aload_n hx hb dX4_init_42 rfl (lv_at hl 0 rfl) ?_
  refine lv_aload_n hx hb dX4_init_43 rfl (lv_at hl 2 rfl) ?_
  refine va_putF (D := D) (ci := 4) (v := .ref r2) (C := RX4) (T := TX4) (N := 8) hx hb ht tl_X4 tyX4 tyX4_ok nmX4 hown hK hP hD hS 0 rfl rfl 1 (by decide) (ht _ tw_fl_X4_28) (fun _ h9 => h9) rfl hin rfl rfl rfl rfl (Nat.le_of_ble_eq_true rfl) dX4_init_44 (fun H locs hP hD hS => ?_)
  have hP : va_P D vwCl [(h0, .inr (4, [.ref r1, .ref r2, .ref a7, .ref a15, .ref a23, .ref a32, .int 0, .int 0])), (a7, .inl (q 0, 6, .inl (fun _ => 0))), (a15, .inl (q 0, 6, .inl (fun _ => 0))), (a23, .inl (q 0, 6, .inl (fun _ => 0))), (a32, .inl (q 0, 480, .inl (fun _ => 0)))] H := hP
  have hD : va_D A [(h0, .inr (4, [.ref r1, .ref r2, .ref a7, .ref a15, .ref a23, .ref a32, .int 0, .int 0])), (a7, .inl (q 0, 6, .inl (fun _ => 0))), (a15, .inl (q 0, 6, .inl (fun _ => 0))), (a23, .inl (q 0, 6, .inl (fun _ => 0))), (a32, .inl (q 0, 480, .inl (fun _ => 0)))] := hD
  exact W.vret hx hb hr (fun t ht1 hW => ⟨⟨(a7, a15, a23, a32), rfl, trivial, by rw [ht1]; exact hP, hD⟩, hS.F ht1⟩) hS.2.2 dX4_init_47 hlocks
