def pX2_begin (z : MX) (post : MX → Prop) : Prop :=
  ∀ z6 : MX, z6 = mf z 27 (fun k => if k < 4 then (-4 : Int32) else z.1 27 k) →
  ∀ z14 : MX, z14 = mf z6 28 (fun k => if k < 4 then (-1 : Int32) else z6.1 28 k) →
  ∀ z23 : MX, z23 = mf z14 29 (fun k => if k < 4 then (-4 : Int32) else z14.1 29 k) →
  ∀ z29 : MX, z29 = mw z23 26 5 (-4 : Int32) →
  ∀ z34 : MX, z34 = mw z29 26 9 (0 : Int32) →
  ∀ z39 : MX, z39 = mw z34 26 10 (0 : Int32) →
  ∀ z44 : MX, z44 = mw z39 26 11 (0 : Int32) →
  ∀ z49 : MX, z49 = mw z44 26 12 (0 : Int32) →
  post z49
set_option maxHeartbeats 4000000 in
set_option maxRecDepth 100000 in
theorem kX2_begin (l : Launch) (D : va_G) (q : Nat → ClassId) (ad : Nat → Nat) (A : Nat → Prop) (hD : ∀ z, va_D A (WX q ad z)) (z : MX) (post : MX → Prop) (h : pX2_begin  z post) : Met l yX2_begin (cW yX2_begin cX2_begin 1 none) ({ frames := 1, cells := 0, slots := 0, locals := 23 } : Room) (va_Pc [.ref (ad 26)] ((gB D vwCl (WX q ad) (xE D q ad A)) z)) (va_Qv post (gB D vwCl (WX q ad) (xE D q ad A)) A) 0 0 A := by
  refine Met.ofW (cc := cX2_begin) (maxL := 1) (ret := none) (by decide) rfl ?_
  intro p e s m args below meth c s₁ B hml hv
  obtain ⟨hargs, hP, hE⟩ := hv
  have hx := B.exec
  have hb := B.bytes
  have hr := B.returns
  have hts := atoms_spec (ws := (cW yX2_begin cX2_begin 1 none)) B.pre
  have ht : ∀ w ∈ tG, w.before args s = true := fun w h => hts w (List.mem_cons_of_mem _ h)
  have hown : s.vm.findClass RX2 = some m.cls := findClass_of_methodNamed B.named
  have hlocks := B.notSynchronized
  have hK := hE.1
  have hG := xE_G D q ad A
  have S : CallFix p m c cX2_begin 1 s args tG RX2 := ⟨hx, hb, hml, hown, ht⟩
  have hS : va_S A s.heap s.heap [] := va_S.rf
  refine g_entry (vs := [.ref (ad 26)]) hargs (Nat.le_of_ble_eq_true rfl) (fun ls hl => ?_)
  have hl : lv_has ls 1 [(0, .ref (ad 26))] := hl
  unfold pX2_begin at h
  refine lv_aload_n hx hb dX2_begin_0 rfl (lv_at hl 0 rfl) ?_
  refine va_get (D := D) (ci := 2) (v := .ref (ad 27)) (C := RX2) (T := TX2) (N := 13) hx hb ht tl_X2 hown hK hP 26 (wx_26 q ad z) rfl 0 (by decide) (ht _ tw_fl_X2_9) (fun _ h9 => h9) rfl dX2_begin_1 ?_
  refine lv_bipush (v := (-4 : Int32)) hx hb dX2_begin_4 (by decide) ?_
  refine g_cSv (Wd := WX q ad) (z := z) (As := [.ref (ad 27), .int (-4 : Int32)]) (rest := []) hG S (kJ7_fill l D q ad A hD (c := 27) (n := 4) (by decide) (fun z => (wx_27 q ad z)) (fun z => (ax_27 q ad z)) z (-4 : Int32)) (va_cwS 2 ht (cW_S (fun _ h => h) tw_co_J7_fill_53178 tw_ml_X2_53 tw_st_J7_fill_53178 tw_in_J7) rfl rfl rfl (by decide +kernel) ⟨by decide, by decide⟩) hE hP hS rfl hl.1 rfl (Nat.le_of_ble_eq_true rfl) dX2_begin_6 ⟨Nat.zero_le _, Nat.zero_le _⟩ (fun z6 H locs hz6 hP hS => ?_)
  have h := h z6 hz6
  refine lv_aload_n hx hb dX2_begin_9 rfl (lv_at hl 0 rfl) ?_
  refine va_get (D := D) (ci := 2) (v := .ref (ad 28)) (C := RX2) (T := TX2) (N := 13) hx hb ht tl_X2 hown hK hP 26 (wx_26 q ad z6) rfl 1 (by decide) (ht _ tw_fl_X2_15) (fun _ h9 => h9) rfl dX2_begin_10 ?_
  refine lv_iconst (v := (-1 : Int32)) hx hb dX2_begin_13 (by decide) ?_
  refine g_cSv (Wd := WX q ad) (z := z6) (As := [.ref (ad 28), .int (-1 : Int32)]) (rest := []) hG S (kJ7_fill l D q ad A hD (c := 28) (n := 4) (by decide) (fun z => (wx_28 q ad z)) (fun z => (ax_28 q ad z)) z6 (-1 : Int32)) (va_cwS 2 ht (cW_S (fun _ h => h) tw_co_J7_fill_53178 tw_ml_X2_53 tw_st_J7_fill_53178 tw_in_J7) rfl rfl rfl (by decide +kernel) ⟨by decide, by decide⟩) hE hP hS rfl hl.1 rfl (Nat.le_of_ble_eq_true rfl) dX2_begin_14 ⟨Nat.zero_le _, Nat.zero_le _⟩ (fun z14 H locs hz14 hP hS => ?_)
  have h := h z14 hz14
  refine lv_aload_n hx hb dX2_begin_17 rfl (lv_at hl 0 rfl) ?_
  refine va_get (D := D) (ci := 2) (v := .ref (ad 29)) (C := RX2) (T := TX2) (N := 13) hx hb ht tl_X2 hown hK hP 26 (wx_26 q ad z14) rfl 2 (by decide) (ht _ tw_fl_X2_18) (fun _ h9 => h9) rfl dX2_begin_18 ?_
  refine lv_bipush (v := (-4 : Int32)) hx hb dX2_begin_21 (by decide) ?_
  refine g_cSv (Wd := WX q ad) (z := z14) (As := [.ref (ad 29), .int (-4 : Int32)]) (rest := []) hG S (kJ7_fill l D q ad A hD (c := 29) (n := 4) (by decide) (fun z => (wx_29 q ad z)) (fun z => (ax_29 q ad z)) z14 (-4 : Int32)) (va_cwS 2 ht (cW_S (fun _ h => h) tw_co_J7_fill_53178 tw_ml_X2_53 tw_st_J7_fill_53178 tw_in_J7) rfl rfl rfl (by decide +kernel) ⟨by decide, by decide⟩) hE hP hS rfl hl.1 rfl (Nat.le_of_ble_eq_true rfl) dX2_begin_23 ⟨Nat.zero_le _, Nat.zero_le _⟩ (fun z23 H locs hz23 hP hS => ?_)
  have h := h z23 hz23
  refine lv_aload_n hx hb dX2_begin_26 rfl (lv_at hl 0 rfl) ?_
  refine lv_bipush (v := (-4 : Int32)) hx hb dX2_begin_27 (by decide) ?_
  refine g_put (D := D) (Wd := WX q ad) (z := z23) (ci := 2) (v := .int (-4 : Int32)) (ty := .int) (C := RX2) (T := TX2) (N := 13) hx hb ht tl_X2 tyX2 tyX2_ok nmX2 hown hK hP (hD z23) hS 26 (wx_26 q ad z23) rfl 5 (by decide) (ht _ tw_fl_X2_46) (fun _ h9 => h9) rfl rfl rfl rfl (Nat.le_of_ble_eq_true rfl) ((px_26_5 q ad z23) (-4 : Int32)) dX2_begin_29 (fun z29 H locs hz29 hP hS => ?_)
  have h := h z29 hz29
  refine lv_aload_n hx hb dX2_begin_32 rfl (lv_at hl 0 rfl) ?_
  refine lv_iconst (v := (0 : Int32)) hx hb dX2_begin_33 (by decide) ?_
  refine g_put (D := D) (Wd := WX q ad) (z := z29) (ci := 2) (v := .int (0 : Int32)) (ty := .int) (C := RX2) (T := TX2) (N := 13) hx hb ht tl_X2 tyX2 tyX2_ok nmX2 hown hK hP (hD z29) hS 26 (wx_26 q ad z29) rfl 9 (by decide) (ht _ tw_fl_X2_33) (fun _ h9 => h9) rfl rfl rfl rfl (Nat.le_of_ble_eq_true rfl) ((px_26_9 q ad z29) (0 : Int32)) dX2_begin_34 (fun z34 H locs hz34 hP hS => ?_)
  have h := h z34 hz34
  refine lv_aload_n hx hb dX2_begin_37 rfl (lv_at hl 0 rfl) ?_
  refine lv_iconst (v := (0 : Int32)) hx hb dX2_begin_38 (by decide) ?_
  refine g_put (D := D) (Wd := WX q ad) (z := z34) (ci := 2) (v := .int (0 : Int32)) (ty := .int) (C := RX2) (T := TX2) (N := 13) hx hb ht tl_X2 tyX2 tyX2_ok nmX2 hown hK hP (hD z34) hS 26 (wx_26 q ad z34) rfl 10 (by decide) (ht _ tw_fl_X2_59) (fun _ h9 => h9) rfl rfl rfl rfl (Nat.le_of_ble_eq_true rfl) ((px_26_10 q ad z34) (0 : Int32)) dX2_begin_39 (fun z39 H locs hz39 hP hS => ?_)
  have h := h z39 hz39
  refine lv_aload_n hx hb dX2_begin_42 rfl (lv_at hl 0 rfl) ?_
  refine lv_iconst (v := (0 : Int32)) hx hb dX2_begin_43 (by decide) ?_
  refine g_put (D := D) (Wd := WX q ad) (z := z39) (ci := 2) (v := .int (0 : Int32)) (ty := .int) (C := RX2) (T := TX2) (N := 13) hx hb ht tl_X2 tyX2 tyX2_ok nmX2 hown hK hP (hD z39) hS 26 (wx_26 q ad z39) rfl 11 (by decide) (ht _ tw_fl_X2_36) (fun _ h9 => h9) rfl rfl rfl rfl (Nat.le_of_ble_eq_true rfl) ((px_26_11 q ad z39) (0 : Int32)) dX2_begin_44 (fun z44 H locs hz44 hP hS => ?_)
  have h := h z44 hz44
  refine lv_aload_n hx hb dX2_begin_47 rfl (lv_at hl 0 rfl) ?_
  refine lv_iconst (v := (0 : Int32)) hx hb dX2_begin_48 (by decide) ?_
  refine g_put (D := D) (Wd := WX q ad) (z := z44) (ci := 2) (v := .int (0 : Int32)) (ty := .int) (C := RX2) (T := TX2) (N := 13) hx hb ht tl_X2 tyX2 tyX2_ok nmX2 hown hK hP (hD z44) hS 26 (wx_26 q ad z44) rfl 12 (by decide) (ht _ tw_fl_X2_62) (fun _ h9 => h9) rfl rfl rfl rfl (Nat.le_of_ble_eq_true rfl) ((px_26_12 q ad z44) (0 : Int32)) dX2_begin_49 (fun z49 H locs hz49 hP hS => ?_)
  have h := h z49 hz49
  exact g_rv hG hx hb hr hlocks hE hP hS h dX2_begin_52
def pX7_minutesFor (z : MX) (x0 : Int32) (x1 : Int32) (post : Int32 → MX → Prop) : Prop :=
  vp_in ((x0 * (5 : Int32)) + x1) 20 ∧
  post (xWait (Int32.toNatClampNeg ((x0 * (5 : Int32)) + x1))) z
set_option maxHeartbeats 4000000 in
set_option maxRecDepth 100000 in
theorem kX7_minutesFor (l : Launch) (D : va_G) (q : Nat → ClassId) (ad : Nat → Nat) (A : Nat → Prop) (hD : ∀ z, va_D A (WX q ad z)) (z : MX) (x0 : Int32) (x1 : Int32) (post : Int32 → MX → Prop) (h : pX7_minutesFor  z x0 x1 post) : Met l yX7_minutesFor (cW yX7_minutesFor cX7_minutesFor 2 (some .int)) ({ frames := 0, cells := 0, slots := 0, locals := 0 } : Room) (va_Pc [.int x0, .int x1] ((gB D vwCl (WX q ad) (xE D q ad A)) z)) (va_Qi post (gB D vwCl (WX q ad) (xE D q ad A)) A) 0 0 A := by
  refine Met.ofW (cc := cX7_minutesFor) (maxL := 2) (ret := (some .int)) (by decide) rfl ?_
  intro p e s m args below meth c s₁ B hml hv
  obtain ⟨hargs, hP, hE⟩ := hv
  have hx := B.exec
  have hb := B.bytes
  have hr := B.returns
  have hts := atoms_spec (ws := (cW yX7_minutesFor cX7_minutesFor 2 (some .int))) B.pre
  have ht : ∀ w ∈ tG, w.before args s = true := fun w h => hts w (List.mem_cons_of_mem _ h)
  have hown : s.vm.findClass RX7 = some m.cls := findClass_of_methodNamed B.named
  have hlocks := B.notSynchronized
  have hK := hE.1
  have hG := xE_G D q ad A
  have S : CallFix p m c cX7_minutesFor 2 s args tG RX7 := ⟨hx, hb, hml, hown, ht⟩
  have hS : va_S A s.heap s.heap [] := va_S.rf
  obtain ⟨tW, hT1, hT2⟩ := hE.2.1
  refine g_entry (vs := [.int x0, .int x1]) hargs (Nat.le_of_ble_eq_true rfl) (fun ls hl => ?_)
  have hl : lv_has ls 2 [(0, .int x0), (1, .int x1)] := hl
  unfold pX7_minutesFor at h
  refine va_gets hx hb hT1 hS hown (ht _ tw_fl_X7_311) (fun _ h9 => h9) dX7_minutesFor_0 ?_
  refine lv_iload_n hx hb dX7_minutesFor_3 rfl (lv_at hl 0 rfl) ?_
  refine lv_iconst (v := (5 : Int32)) hx hb dX7_minutesFor_4 (by decide) ?_
  refine lv_imul hx hb dX7_minutesFor_5 ?_
  refine lv_iload_n hx hb dX7_minutesFor_6 rfl (lv_at hl 1 rfl) ?_
  refine lv_iadd hx hb dX7_minutesFor_7 ?_
  have hi8 := h.1
  have h := h.2
  refine va_ti hx hb hT2 hS hi8 rfl dX7_minutesFor_8 ?_
  exact g_ri hG hx hb hr hlocks hE hP hS h dX7_minutesFor_9
def pX2_trainIn_l2 (rec2 : MX → Int32 → Int32 → Int32 → Prop) (post : Int32 → MX → Prop) (z : MX) (x1 : Int32) (x2 : Int32) (x3 : Int32) : Prop :=
    ((x2 ≤ x3 →
      post (-4 : Int32) z) ∧
    (¬ x2 ≤ x3 →
      vp_in x3 4 ∧
      ((¬ (z.1 27 (Int32.toNatClampNeg x3)) = x1 →
        ∀ x3_19 : Int32, x3_19 = x3 + (1 : Int32) →
        rec2 z x1 x2 x3_19) ∧
      ((z.1 27 (Int32.toNatClampNeg x3)) = x1 →
        post x3 z))))
def pX2_trainIn_L2 (post : Int32 → MX → Prop) : Nat → MX → Int32 → Int32 → Int32 → Prop
  | 0 => fun _ _ _ _ => False
  | n + 1 => fun z x1 x2 x3 => pX2_trainIn_l2  (pX2_trainIn_L2  post n) post z x1 x2 x3
def pX2_trainIn (z : MX) (x1 : Int32) (x2 : Int32) (post : Int32 → MX → Prop) : Prop :=
  ∃ n, pX2_trainIn_L2  post n z x1 x2 (0 : Int32)
set_option maxHeartbeats 4000000 in
set_option maxRecDepth 100000 in
theorem kX2_trainIn (l : Launch) (D : va_G) (q : Nat → ClassId) (ad : Nat → Nat) (A : Nat → Prop) (hD : ∀ z, va_D A (WX q ad z)) (z : MX) (x1 : Int32) (x2 : Int32) (post : Int32 → MX → Prop) (h : pX2_trainIn  z x1 x2 post) : Met l yX2_trainIn (cW yX2_trainIn cX2_trainIn 4 (some .int)) ({ frames := 0, cells := 0, slots := 0, locals := 0 } : Room) (va_Pc [.ref (ad 26), .int x1, .int x2] ((gB D vwCl (WX q ad) (xE D q ad A)) z)) (va_Qi post (gB D vwCl (WX q ad) (xE D q ad A)) A) 0 0 A := by
  refine Met.ofW (cc := cX2_trainIn) (maxL := 4) (ret := (some .int)) (by decide) rfl ?_
  intro p e s m args below meth c s₁ B hml hv
  obtain ⟨hargs, hP, hE⟩ := hv
  have hx := B.exec
  have hb := B.bytes
  have hr := B.returns
  have hts := atoms_spec (ws := (cW yX2_trainIn cX2_trainIn 4 (some .int))) B.pre
  have ht : ∀ w ∈ tG, w.before args s = true := fun w h => hts w (List.mem_cons_of_mem _ h)
  have hown : s.vm.findClass RX2 = some m.cls := findClass_of_methodNamed B.named
  have hlocks := B.notSynchronized
  have hK := hE.1
  have hG := xE_G D q ad A
  have S : CallFix p m c cX2_trainIn 4 s args tG RX2 := ⟨hx, hb, hml, hown, ht⟩
  have hS : va_S A s.heap s.heap [] := va_S.rf
  have B2 : ∀ (rec2 : MX → Int32 → Int32 → Int32 → Prop) (hrec2 : ∀ (z : MX) (x1 : Int32) (x2 : Int32) (x3 : Int32) (H : Heap) (locs : List Loc) (ls : Array Slot), rec2 z x1 x2 x3 → va_P D vwCl (WX q ad z) H → va_S A s.heap H locs → lv_has ls 4 [(0, .ref (ad 26)), (1, .int x1), (2, .int x2), (3, .int x3)] → W p l e (headSpec (cW yX2_trainIn cX2_trainIn 4 (some .int)) ({ frames := 0, cells := 0, slots := 0, locals := 0 } : Room)).room s m args below meth c H locs 0 0 (MQ below (va_Qi post (gB D vwCl (WX q ad) (xE D q ad A)) A) args s 0 0 A) (F0 m 2 ls [])) (z : MX) (x1 : Int32) (x2 : Int32) (x3 : Int32) (H : Heap) (locs : List Loc) (ls : Array Slot), pX2_trainIn_l2  rec2 post z x1 x2 x3 → va_P D vwCl (WX q ad z) H → va_S A s.heap H locs → lv_has ls 4 [(0, .ref (ad 26)), (1, .int x1), (2, .int x2), (3, .int x3)] → W p l e (headSpec (cW yX2_trainIn cX2_trainIn 4 (some .int)) ({ frames := 0, cells := 0, slots := 0, locals := 0 } : Room)).room s m args below meth c H locs 0 0 (MQ below (va_Qi post (gB D vwCl (WX q ad) (xE D q ad A)) A) args s 0 0 A) (F0 m 2 ls []) := by
    intro rec2 hrec2 z x1 x2 x3 H locs ls h hP hS hl
    unfold pX2_trainIn_l2 at h
    refine lv_iload_n hx hb dX2_trainIn_2 rfl (lv_at hl 3 rfl) ?_
    refine lv_iload_n hx hb dX2_trainIn_3 rfl (lv_at hl 2 rfl) ?_
    refine lv_icmp_ge (tgt := 25) hx hb dX2_trainIn_4 (by decide) (fun c4 => ?_) (fun c4 => ?_)
    · have h := h.1 c4
      refine lv_bipush (v := (-4 : Int32)) hx hb dX2_trainIn_25 (by decide) ?_
      exact g_ri hG hx hb hr hlocks hE hP hS h dX2_trainIn_27
    · have h := h.2 c4
      refine lv_aload_n hx hb dX2_trainIn_7 rfl (lv_at hl 0 rfl) ?_
      refine va_get (D := D) (ci := 2) (v := .ref (ad 27)) (C := RX2) (T := TX2) (N := 13) hx hb ht tl_X2 hown hK hP 26 (wx_26 q ad z) rfl 0 (by decide) (ht _ tw_fl_X2_9) (fun _ h9 => h9) rfl dX2_trainIn_8 ?_
      refine lv_iload_n hx hb dX2_trainIn_11 rfl (lv_at hl 3 rfl) ?_
      have hi12 := h.1
      have h := h.2
      refine va_iald hx hb hK hP 27 0 (wx_27 q ad z) rfl hi12 dX2_trainIn_12 ?_
      refine lv_iload_n hx hb dX2_trainIn_13 rfl (lv_at hl 1 rfl) ?_
      refine lv_icmp_ne (tgt := 19) hx hb dX2_trainIn_14 (by decide) (fun c14 => ?_) (fun c14 => ?_)
      · have h := h.1 c14
        obtain ⟨x3_19, ex3_19⟩ : ∃ w : Int32, w = x3 + (1 : Int32) := ⟨_, rfl⟩
        have h := h x3_19 ex3_19
        refine lv_iinc (v := x3_19) (lv' := [(3, .int x3_19), (0, .ref (ad 26)), (1, .int x1), (2, .int x2)]) hx hb dX2_trainIn_19 hl (k := 3) rfl (by rw [ex3_19]; rfl) (by decide) rfl (fun ls hl => ?_)
        refine lv_goto (tgt := 2) hx hb dX2_trainIn_22 (by decide) ?_
        exact hrec2 z x1 x2 x3_19 _ _ _ h hP hS (lv_sub hl [1, 2, 3, 0] rfl)
      · have h := h.2 c14
        refine lv_iload_n hx hb dX2_trainIn_17 rfl (lv_at hl 3 rfl) ?_
        exact g_ri hG hx hb hr hlocks hE hP hS h dX2_trainIn_18
  have L2 : ∀ (n : Nat) (z : MX) (x1 : Int32) (x2 : Int32) (x3 : Int32) (H : Heap) (locs : List Loc) (ls : Array Slot), pX2_trainIn_L2  post n z x1 x2 x3 → va_P D vwCl (WX q ad z) H → va_S A s.heap H locs → lv_has ls 4 [(0, .ref (ad 26)), (1, .int x1), (2, .int x2), (3, .int x3)] → W p l e (headSpec (cW yX2_trainIn cX2_trainIn 4 (some .int)) ({ frames := 0, cells := 0, slots := 0, locals := 0 } : Room)).room s m args below meth c H locs 0 0 (MQ below (va_Qi post (gB D vwCl (WX q ad) (xE D q ad A)) A) args s 0 0 A) (F0 m 2 ls []) := by
    intro n
    induction n with
    | zero =>
      intro z x1 x2 x3 H locs ls h
      exact False.elim h
    | succ n ih =>
      intro z x1 x2 x3 H locs ls h hP hS hl
      exact B2 (pX2_trainIn_L2  post n) ih z x1 x2 x3 H locs ls h hP hS hl
  refine g_entry (vs := [.ref (ad 26), .int x1, .int x2]) hargs (Nat.le_of_ble_eq_true rfl) (fun ls hl => ?_)
  have hl : lv_has ls 4 [(0, .ref (ad 26)), (1, .int x1), (2, .int x2)] := hl
  unfold pX2_trainIn at h
  refine lv_iconst (v := (0 : Int32)) hx hb dX2_trainIn_0 (by decide) ?_
  refine lv_istore_n (lv' := [(3, .int (0 : Int32)), (0, .ref (ad 26)), (1, .int x1), (2, .int x2)]) hx hb dX2_trainIn_1 rfl hl (by decide) rfl (fun ls hl => ?_)
  obtain ⟨n, h⟩ := h
  exact L2 n z x1 x2 (0 : Int32) _ _ _ h hP hS (lv_sub hl [1, 2, 3, 0] rfl)
def pX2_enter (i : Nat) (z : MX) (x2 : Int32) (x3 : Int32) (x4 : Int32) (post : MX → Prop) : Prop :=
  pX2_trainIn z x3 (z.1 (4 * i) 3) (fun (r6 : Int32) (z6 : MX) =>
  ((¬ r6 = (-4 : Int32) →
    pX0_isGuarded i z6 x3 (fun (r49 : Int32) (z49 : MX) =>
    ((r49 = 0 →
      ∀ z71 : MX, z71 = mw z49 26 5 x4 →
      ∀ z76 : MX, z76 = mw z71 26 6 x3 →
      ∀ z87 : MX, z87 = mw z76 26 7 (((10 : Int32) * x2) + r6) →
      post z87) ∧
    (¬ r49 = 0 →
      ∀ z62 : MX, z62 = mw z49 26 11 ((z49.1 26 11) + (1 : Int32)) →
      post z62)))) ∧
  (r6 = (-4 : Int32) →
    vp_in x2 4 ∧
    ∀ z24 : MX, z24 = mw z6 27 (Int32.toNatClampNeg x2) x3 →
    vp_in x2 4 ∧
    ∀ z31 : MX, z31 = mw z24 28 (Int32.toNatClampNeg x2) (-1 : Int32) →
    ∀ z41 : MX, z41 = mw z31 26 12 ((z31.1 26 12) ||| ((1 : Int32) <<< (x3 &&& 31))) →
    post z41)))
set_option maxHeartbeats 4000000 in
set_option maxRecDepth 100000 in
theorem kX2_enter (l : Launch) (D : va_G) (q : Nat → ClassId) (ad : Nat → Nat) (A : Nat → Prop) (hD : ∀ z, va_D A (WX q ad z)) (i : Nat) (hi : i < 4) (z : MX) (x2 : Int32) (x3 : Int32) (x4 : Int32) (post : MX → Prop) (h : pX2_enter i z x2 x3 x4 post) : Met l yX2_enter (cW yX2_enter cX2_enter 6 none) ({ frames := 1, cells := 0, slots := 0, locals := 23 } : Room) (va_Pc [.ref (ad 26), .ref (ad (4 * i)), .int x2, .int x3, .int x4] ((gB D vwCl (WX q ad) (xE D q ad A)) z)) (va_Qv post (gB D vwCl (WX q ad) (xE D q ad A)) A) 0 0 A := by
  refine Met.ofW (cc := cX2_enter) (maxL := 6) (ret := none) (by decide) rfl ?_
  intro p e s m args below meth c s₁ B hml hv
  obtain ⟨hargs, hP, hE⟩ := hv
  have hx := B.exec
  have hb := B.bytes
  have hr := B.returns
  have hts := atoms_spec (ws := (cW yX2_enter cX2_enter 6 none)) B.pre
  have ht : ∀ w ∈ tG, w.before args s = true := fun w h => hts w (List.mem_cons_of_mem _ h)
  have hown : s.vm.findClass RX2 = some m.cls := findClass_of_methodNamed B.named
  have hlocks := B.notSynchronized
  have hK := hE.1
  have hG := xE_G D q ad A
  have S : CallFix p m c cX2_enter 6 s args tG RX2 := ⟨hx, hb, hml, hown, ht⟩
  have hS : va_S A s.heap s.heap [] := va_S.rf
  refine g_entry (vs := [.ref (ad 26), .ref (ad (4 * i)), .int x2, .int x3, .int x4]) hargs (Nat.le_of_ble_eq_true rfl) (fun ls hl => ?_)
  have hl : lv_has ls 6 [(0, .ref (ad 26)), (1, .ref (ad (4 * i))), (2, .int x2), (3, .int x3), (4, .int x4)] := hl
  unfold pX2_enter at h
  refine lv_aload_n hx hb dX2_enter_0 rfl (lv_at hl 0 rfl) ?_
  refine lv_iload_n hx hb dX2_enter_1 rfl (lv_at hl 3 rfl) ?_
  refine lv_aload_n hx hb dX2_enter_2 rfl (lv_at hl 1 rfl) ?_
  refine va_get (D := D) (ci := 0) (v := .int (z.1 (4 * i) 3)) (C := RX0) (T := TX0) (N := 7) hx hb ht tl_X0 hown hK hP (4 * i) (wxl q ad z hi) rfl 3 (by decide) (ht _ tw_fl_X2_27) (fun _ h9 => h9) rfl dX2_enter_3 ?_
  refine g_cVi (Wd := WX q ad) (z := z) (As := [.int x3, .int (z.1 (4 * i) 3)]) (rest := []) hG S (kX2_trainIn l D q ad A hD z x3 (z.1 (4 * i) 3) _ h) (cwV 2 ht (cW_V (fun _ h => h) tw_co_X2_trainIn tw_ml_X2_90 tw_im_X2_trainIn tw_se_X2_trainIn tw_in_X2) rfl rfl rfl (by decide +kernel) ⟨by decide, by decide⟩) (va_recv hK hP (ci := 2) (q0 := 26) rfl (wx_26 q ad z)) hE hP hS rfl hl.1 rfl (Nat.le_of_ble_eq_true rfl) dX2_enter_6 ⟨Nat.zero_le _, Nat.zero_le _⟩ (fun r6 z6 H locs h hP hS => ?_)
  refine lv_istore (lv' := [(5, .int r6), (0, .ref (ad 26)), (1, .ref (ad (4 * i))), (2, .int x2), (3, .int x3), (4, .int x4)]) hx hb dX2_enter_9 hl (by decide) rfl (fun ls hl => ?_)
  refine lv_iload hx hb dX2_enter_11 (lv_at hl 0 rfl) ?_
  refine lv_bipush (v := (-4 : Int32)) hx hb dX2_enter_13 (by decide) ?_
  refine lv_icmp_ne (tgt := 47) hx hb dX2_enter_15 (by decide) (fun c15 => ?_) (fun c15 => ?_)
  · have h := h.1 c15
    refine lv_aload_n hx hb dX2_enter_47 rfl (lv_at hl 2 rfl) ?_
    refine lv_iload_n hx hb dX2_enter_48 rfl (lv_at hl 4 rfl) ?_
    refine g_cVi (Wd := WX q ad) (z := z6) (As := [.int x3]) (rest := []) hG S (kX0_isGuarded l D q ad A hD i hi z6 x3 _ h) (cwV 1 ht (cW_V (fun _ h => h) tw_co_X0_isGuarded tw_ml_X2_93 tw_im_X0_isGuarded tw_se_X0_isGuarded tw_in_X0) rfl rfl rfl (by decide +kernel) ⟨by decide, by decide⟩) (va_recv hK hP (ci := 0) (q0 := (4 * i)) rfl (wxl q ad z6 hi)) hE hP hS rfl hl.1 rfl (Nat.le_of_ble_eq_true rfl) dX2_enter_49 ⟨Nat.zero_le _, Nat.zero_le _⟩ (fun r49 z49 H locs h hP hS => ?_)
    refine lv_if_eq (tgt := 68) hx hb dX2_enter_52 (by decide) (fun c52 => ?_) (fun c52 => ?_)
    · have h := h.1 c52
      refine lv_aload_n hx hb dX2_enter_68 rfl (lv_at hl 1 rfl) ?_
      refine lv_iload hx hb dX2_enter_69 (lv_at hl 5 rfl) ?_
      refine g_put (D := D) (Wd := WX q ad) (z := z49) (ci := 2) (v := .int x4) (ty := .int) (C := RX2) (T := TX2) (N := 13) hx hb ht tl_X2 tyX2 tyX2_ok nmX2 hown hK hP (hD z49) hS 26 (wx_26 q ad z49) rfl 5 (by decide) (ht _ tw_fl_X2_46) (fun _ h9 => h9) rfl rfl rfl rfl (Nat.le_of_ble_eq_true rfl) ((px_26_5 q ad z49) x4) dX2_enter_71 (fun z71 H locs hz71 hP hS => ?_)
      have h := h z71 hz71
      refine lv_aload_n hx hb dX2_enter_74 rfl (lv_at hl 1 rfl) ?_
      refine lv_iload_n hx hb dX2_enter_75 rfl (lv_at hl 4 rfl) ?_
      refine g_put (D := D) (Wd := WX q ad) (z := z71) (ci := 2) (v := .int x3) (ty := .int) (C := RX2) (T := TX2) (N := 13) hx hb ht tl_X2 tyX2 tyX2_ok nmX2 hown hK hP (hD z71) hS 26 (wx_26 q ad z71) rfl 6 (by decide) (ht _ tw_fl_X2_97) (fun _ h9 => h9) rfl rfl rfl rfl (Nat.le_of_ble_eq_true rfl) ((px_26_6 q ad z71) x3) dX2_enter_76 (fun z76 H locs hz76 hP hS => ?_)
      have h := h z76 hz76
      refine lv_aload_n hx hb dX2_enter_79 rfl (lv_at hl 1 rfl) ?_
      refine lv_bipush (v := (10 : Int32)) hx hb dX2_enter_80 (by decide) ?_
      refine lv_iload_n hx hb dX2_enter_82 rfl (lv_at hl 3 rfl) ?_
      refine lv_imul hx hb dX2_enter_83 ?_
      refine lv_iload hx hb dX2_enter_84 (lv_at hl 0 rfl) ?_
      refine lv_iadd hx hb dX2_enter_86 ?_
      refine g_put (D := D) (Wd := WX q ad) (z := z76) (ci := 2) (v := .int (((10 : Int32) * x2) + r6)) (ty := .int) (C := RX2) (T := TX2) (N := 13) hx hb ht tl_X2 tyX2 tyX2_ok nmX2 hown hK hP (hD z76) hS 26 (wx_26 q ad z76) rfl 7 (by decide) (ht _ tw_fl_X2_100) (fun _ h9 => h9) rfl rfl rfl rfl (Nat.le_of_ble_eq_true rfl) ((px_26_7 q ad z76) (((10 : Int32) * x2) + r6)) dX2_enter_87 (fun z87 H locs hz87 hP hS => ?_)
      have h := h z87 hz87
      exact g_rv hG hx hb hr hlocks hE hP hS h dX2_enter_90
    · have h := h.2 c52
      refine lv_aload_n hx hb dX2_enter_55 rfl (lv_at hl 1 rfl) ?_
      refine lv_dup hx hb dX2_enter_56 rfl ?_
      refine va_get (D := D) (ci := 2) (v := .int (z49.1 26 11)) (C := RX2) (T := TX2) (N := 13) hx hb ht tl_X2 hown hK hP 26 (wx_26 q ad z49) rfl 11 (by decide) (ht _ tw_fl_X2_36) (fun _ h9 => h9) rfl dX2_enter_57 ?_
      refine lv_iconst (v := (1 : Int32)) hx hb dX2_enter_60 (by decide) ?_
      refine lv_iadd hx hb dX2_enter_61 ?_
      refine g_put (D := D) (Wd := WX q ad) (z := z49) (ci := 2) (v := .int ((z49.1 26 11) + (1 : Int32))) (ty := .int) (C := RX2) (T := TX2) (N := 13) hx hb ht tl_X2 tyX2 tyX2_ok nmX2 hown hK hP (hD z49) hS 26 (wx_26 q ad z49) rfl 11 (by decide) (ht _ tw_fl_X2_36) (fun _ h9 => h9) rfl rfl rfl rfl (Nat.le_of_ble_eq_true rfl) ((px_26_11 q ad z49) ((z49.1 26 11) + (1 : Int32))) dX2_enter_62 (fun z62 H locs hz62 hP hS => ?_)
      have h := h z62 hz62
      refine lv_goto (tgt := 90) hx hb dX2_enter_65 (by decide) ?_
      exact g_rv hG hx hb hr hlocks hE hP hS h dX2_enter_90
  · have h := h.2 c15
    refine lv_aload_n hx hb dX2_enter_18 rfl (lv_at hl 1 rfl) ?_
    refine va_get (D := D) (ci := 2) (v := .ref (ad 27)) (C := RX2) (T := TX2) (N := 13) hx hb ht tl_X2 hown hK hP 26 (wx_26 q ad z6) rfl 0 (by decide) (ht _ tw_fl_X2_9) (fun _ h9 => h9) rfl dX2_enter_19 ?_
    refine lv_iload_n hx hb dX2_enter_22 rfl (lv_at hl 3 rfl) ?_
    refine lv_iload_n hx hb dX2_enter_23 rfl (lv_at hl 4 rfl) ?_
    have hi24 := h.1
    have h := h.2
    refine g_iast (Wd := WX q ad) (z := z6) hx hb hK hP (hD z6) hS 27 (wx_27 q ad z6) rfl (ax_27 q ad z6) hi24 dX2_enter_24 (fun z24 H locs hz24 hP hS => ?_)
    have h := h z24 hz24
    refine lv_aload_n hx hb dX2_enter_25 rfl (lv_at hl 1 rfl) ?_
    refine va_get (D := D) (ci := 2) (v := .ref (ad 28)) (C := RX2) (T := TX2) (N := 13) hx hb ht tl_X2 hown hK hP 26 (wx_26 q ad z24) rfl 1 (by decide) (ht _ tw_fl_X2_15) (fun _ h9 => h9) rfl dX2_enter_26 ?_
    refine lv_iload_n hx hb dX2_enter_29 rfl (lv_at hl 3 rfl) ?_
    refine lv_iconst (v := (-1 : Int32)) hx hb dX2_enter_30 (by decide) ?_
    have hi31 := h.1
    have h := h.2
    refine g_iast (Wd := WX q ad) (z := z24) hx hb hK hP (hD z24) hS 28 (wx_28 q ad z24) rfl (ax_28 q ad z24) hi31 dX2_enter_31 (fun z31 H locs hz31 hP hS => ?_)
    have h := h z31 hz31
    refine lv_aload_n hx hb dX2_enter_32 rfl (lv_at hl 1 rfl) ?_
    refine lv_dup hx hb dX2_enter_33 rfl ?_
    refine va_get (D := D) (ci := 2) (v := .int (z31.1 26 12)) (C := RX2) (T := TX2) (N := 13) hx hb ht tl_X2 hown hK hP 26 (wx_26 q ad z31) rfl 12 (by decide) (ht _ tw_fl_X2_62) (fun _ h9 => h9) rfl dX2_enter_34 ?_
    refine lv_iconst (v := (1 : Int32)) hx hb dX2_enter_37 (by decide) ?_
    refine lv_iload_n hx hb dX2_enter_38 rfl (lv_at hl 4 rfl) ?_
    refine lv_ishl hx hb dX2_enter_39 ?_
    refine lv_ior hx hb dX2_enter_40 ?_
    refine g_put (D := D) (Wd := WX q ad) (z := z31) (ci := 2) (v := .int ((z31.1 26 12) ||| ((1 : Int32) <<< (x3 &&& 31)))) (ty := .int) (C := RX2) (T := TX2) (N := 13) hx hb ht tl_X2 tyX2 tyX2_ok nmX2 hown hK hP (hD z31) hS 26 (wx_26 q ad z31) rfl 12 (by decide) (ht _ tw_fl_X2_62) (fun _ h9 => h9) rfl rfl rfl rfl (Nat.le_of_ble_eq_true rfl) ((px_26_12 q ad z31) ((z31.1 26 12) ||| ((1 : Int32) <<< (x3 &&& 31)))) dX2_enter_41 (fun z41 H locs hz41 hP hS => ?_)
    have h := h z41 hz41
    refine lv_goto (tgt := 90) hx hb dX2_enter_44 (by decide) ?_
    exact g_rv hG hx hb hr hlocks hE hP hS h dX2_enter_90
def pX2_step_b85 (i : Nat) (post : MX → Prop) (z : MX) (x2 : Int32) (x3 : Int32) (x4 : Int32) : Prop :=
    vp_in x2 4 ∧
    (((z.1 28 (Int32.toNatClampNeg x2)) ≤ 0 →
      pX2_enter i z x2 x4 x3 (fun (z121 : MX) =>
      post z121)) ∧
    (¬ (z.1 28 (Int32.toNatClampNeg x2)) ≤ 0 →
      vp_in x2 4 ∧
      vp_in x2 4 ∧
      ∀ z103 : MX, z103 = mw z 28 (Int32.toNatClampNeg x2) ((z.1 28 (Int32.toNatClampNeg x2)) - (1 : Int32)) →
      ∀ z111 : MX, z111 = mw z103 26 10 ((z103.1 26 10) + (1 : Int32)) →
      post z111))
def pX2_step (i : Nat) (z : MX) (x2 : Int32) (x3 : Int32) (post : MX → Prop) : Prop :=
  vp_in x2 4 ∧
  pX0_lastBlockOf i z x2 (fun (r8 : Int32) (z8 : MX) =>
  ((¬ (z.1 27 (Int32.toNatClampNeg x2)) = r8 →
    vp_in x2 4 ∧
    pX0_nextBlockOf i z8 x2 (z8.1 27 (Int32.toNatClampNeg x2)) (fun (r48 : Int32) (z48 : MX) =>
    vp_in x2 4 ∧
    ((¬ (z48.1 28 (Int32.toNatClampNeg x2)) = (-1 : Int32) →
      pX2_step_b85 i post z48 x2 x3 r48) ∧
    ((z48.1 28 (Int32.toNatClampNeg x2)) = (-1 : Int32) →
      pX0_fact i z48 x2 (0 : Int32) (fun (r71 : Int32) (z71 : MX) =>
      vp_in r48 8 ∧
      pX7_minutesFor z71 r71 (z71.1 (4 * i + 1) (Int32.toNatClampNeg r48)) (fun (r81 : Int32) (z81 : MX) =>
      vp_in x2 4 ∧
      ∀ z84 : MX, z84 = mw z81 28 (Int32.toNatClampNeg x2) r81 →
      pX2_step_b85 i post z84 x2 x3 r48)))))) ∧
  ((z.1 27 (Int32.toNatClampNeg x2)) = r8 →
    vp_in x2 4 ∧
    ∀ z21 : MX, z21 = mw z8 27 (Int32.toNatClampNeg x2) (-4 : Int32) →
    vp_in x2 4 ∧
    ∀ z28 : MX, z28 = mw z21 29 (Int32.toNatClampNeg x2) x3 →
    ∀ z36 : MX, z36 = mw z28 26 9 ((z28.1 26 9) + (1 : Int32)) →
    post z36)))
set_option maxHeartbeats 4000000 in
set_option maxRecDepth 100000 in
theorem kX2_step (l : Launch) (D : va_G) (q : Nat → ClassId) (ad : Nat → Nat) (A : Nat → Prop) (hD : ∀ z, va_D A (WX q ad z)) (i : Nat) (hi : i < 4) (z : MX) (x2 : Int32) (x3 : Int32) (post : MX → Prop) (h : pX2_step i z x2 x3 post) : Met l yX2_step (cW yX2_step cX2_step 5 none) ({ frames := 2, cells := 0, slots := 0, locals := 48 } : Room) (va_Pc [.ref (ad 26), .ref (ad (4 * i)), .int x2, .int x3] ((gB D vwCl (WX q ad) (xE D q ad A)) z)) (va_Qv post (gB D vwCl (WX q ad) (xE D q ad A)) A) 0 0 A := by
  refine Met.ofW (cc := cX2_step) (maxL := 5) (ret := none) (by decide) rfl ?_
  intro p e s m args below meth c s₁ B hml hv
  obtain ⟨hargs, hP, hE⟩ := hv
  have hx := B.exec
  have hb := B.bytes
  have hr := B.returns
  have hts := atoms_spec (ws := (cW yX2_step cX2_step 5 none)) B.pre
  have ht : ∀ w ∈ tG, w.before args s = true := fun w h => hts w (List.mem_cons_of_mem _ h)
  have hown : s.vm.findClass RX2 = some m.cls := findClass_of_methodNamed B.named
  have hlocks := B.notSynchronized
  have hK := hE.1
  have hG := xE_G D q ad A
  have S : CallFix p m c cX2_step 5 s args tG RX2 := ⟨hx, hb, hml, hown, ht⟩
  have hS : va_S A s.heap s.heap [] := va_S.rf
  have B85 : ∀ (z : MX) (x2 : Int32) (x3 : Int32) (x4 : Int32) (H : Heap) (locs : List Loc) (ls : Array Slot), pX2_step_b85 i post z x2 x3 x4 → va_P D vwCl (WX q ad z) H → va_S A s.heap H locs → lv_has ls 5 [(0, .ref (ad 26)), (1, .ref (ad (4 * i))), (2, .int x2), (3, .int x3), (4, .int x4)] → W p l e (headSpec (cW yX2_step cX2_step 5 none) ({ frames := 2, cells := 0, slots := 0, locals := 48 } : Room)).room s m args below meth c H locs 0 0 (MQ below (va_Qv post (gB D vwCl (WX q ad) (xE D q ad A)) A) args s 0 0 A) (F0 m 85 ls []) := by
    intro z x2 x3 x4 H locs ls h hP hS hl
    unfold pX2_step_b85 at h
    refine lv_aload_n hx hb dX2_step_85 rfl (lv_at hl 0 rfl) ?_
    refine va_get (D := D) (ci := 2) (v := .ref (ad 28)) (C := RX2) (T := TX2) (N := 13) hx hb ht tl_X2 hown hK hP 26 (wx_26 q ad z) rfl 1 (by decide) (ht _ tw_fl_X2_15) (fun _ h9 => h9) rfl dX2_step_86 ?_
    refine lv_iload_n hx hb dX2_step_89 rfl (lv_at hl 2 rfl) ?_
    have hi90 := h.1
    have h := h.2
    refine va_iald hx hb hK hP 28 0 (wx_28 q ad z) rfl hi90 dX2_step_90 ?_
    refine lv_if_le (tgt := 115) hx hb dX2_step_91 (by decide) (fun c91 => ?_) (fun c91 => ?_)
    · have h := h.1 c91
      refine lv_aload_n hx hb dX2_step_115 rfl (lv_at hl 0 rfl) ?_
      refine lv_aload_n hx hb dX2_step_116 rfl (lv_at hl 1 rfl) ?_
      refine lv_iload_n hx hb dX2_step_117 rfl (lv_at hl 2 rfl) ?_
      refine lv_iload hx hb dX2_step_118 (lv_at hl 4 rfl) ?_
      refine lv_iload_n hx hb dX2_step_120 rfl (lv_at hl 3 rfl) ?_
      refine g_cVv (Wd := WX q ad) (z := z) (As := [.ref (ad (4 * i)), .int x2, .int x4, .int x3]) (rest := []) hG S (kX2_enter l D q ad A hD i hi z x2 x4 x3 _ h) (cwV 4 ht (cW_V (fun _ h => h) tw_co_X2_enter tw_ml_X2_86 tw_im_X2_enter tw_se_X2_enter tw_in_X2) rfl rfl rfl (by decide +kernel) ⟨by decide, by decide⟩) (va_recv hK hP (ci := 2) (q0 := 26) rfl (wx_26 q ad z)) hE hP hS rfl hl.1 rfl (Nat.le_of_ble_eq_true rfl) dX2_step_121 ⟨Nat.zero_le _, Nat.zero_le _⟩ (fun z121 H locs h hP hS => ?_)
      exact g_rv hG hx hb hr hlocks hE hP hS h dX2_step_124
    · have h := h.2 c91
      refine lv_aload_n hx hb dX2_step_94 rfl (lv_at hl 0 rfl) ?_
      refine va_get (D := D) (ci := 2) (v := .ref (ad 28)) (C := RX2) (T := TX2) (N := 13) hx hb ht tl_X2 hown hK hP 26 (wx_26 q ad z) rfl 1 (by decide) (ht _ tw_fl_X2_15) (fun _ h9 => h9) rfl dX2_step_95 ?_
      refine lv_iload_n hx hb dX2_step_98 rfl (lv_at hl 2 rfl) ?_
      refine lv_dup2_11 hx hb dX2_step_99 rfl rfl ?_
      have hi100 := h.1
      have h := h.2
      refine va_iald hx hb hK hP 28 0 (wx_28 q ad z) rfl hi100 dX2_step_100 ?_
      refine lv_iconst (v := (1 : Int32)) hx hb dX2_step_101 (by decide) ?_
      refine lv_isub hx hb dX2_step_102 ?_
      have hi103 := h.1
      have h := h.2
      refine g_iast (Wd := WX q ad) (z := z) hx hb hK hP (hD z) hS 28 (wx_28 q ad z) rfl (ax_28 q ad z) hi103 dX2_step_103 (fun z103 H locs hz103 hP hS => ?_)
      have h := h z103 hz103
      refine lv_aload_n hx hb dX2_step_104 rfl (lv_at hl 0 rfl) ?_
      refine lv_dup hx hb dX2_step_105 rfl ?_
      refine va_get (D := D) (ci := 2) (v := .int (z103.1 26 10)) (C := RX2) (T := TX2) (N := 13) hx hb ht tl_X2 hown hK hP 26 (wx_26 q ad z103) rfl 10 (by decide) (ht _ tw_fl_X2_59) (fun _ h9 => h9) rfl dX2_step_106 ?_
      refine lv_iconst (v := (1 : Int32)) hx hb dX2_step_109 (by decide) ?_
      refine lv_iadd hx hb dX2_step_110 ?_
      refine g_put (D := D) (Wd := WX q ad) (z := z103) (ci := 2) (v := .int ((z103.1 26 10) + (1 : Int32))) (ty := .int) (C := RX2) (T := TX2) (N := 13) hx hb ht tl_X2 tyX2 tyX2_ok nmX2 hown hK hP (hD z103) hS 26 (wx_26 q ad z103) rfl 10 (by decide) (ht _ tw_fl_X2_59) (fun _ h9 => h9) rfl rfl rfl rfl (Nat.le_of_ble_eq_true rfl) ((px_26_10 q ad z103) ((z103.1 26 10) + (1 : Int32))) dX2_step_111 (fun z111 H locs hz111 hP hS => ?_)
      have h := h z111 hz111
      exact g_rv hG hx hb hr hlocks hE hP hS h dX2_step_114
  refine g_entry (vs := [.ref (ad 26), .ref (ad (4 * i)), .int x2, .int x3]) hargs (Nat.le_of_ble_eq_true rfl) (fun ls hl => ?_)
  have hl : lv_has ls 5 [(0, .ref (ad 26)), (1, .ref (ad (4 * i))), (2, .int x2), (3, .int x3)] := hl
  unfold pX2_step at h
  refine lv_aload_n hx hb dX2_step_0 rfl (lv_at hl 0 rfl) ?_
  refine va_get (D := D) (ci := 2) (v := .ref (ad 27)) (C := RX2) (T := TX2) (N := 13) hx hb ht tl_X2 hown hK hP 26 (wx_26 q ad z) rfl 0 (by decide) (ht _ tw_fl_X2_9) (fun _ h9 => h9) rfl dX2_step_1 ?_
  refine lv_iload_n hx hb dX2_step_4 rfl (lv_at hl 2 rfl) ?_
  have hi5 := h.1
  have h := h.2
  refine va_iald hx hb hK hP 27 0 (wx_27 q ad z) rfl hi5 dX2_step_5 ?_
  refine lv_aload_n hx hb dX2_step_6 rfl (lv_at hl 1 rfl) ?_
  refine lv_iload_n hx hb dX2_step_7 rfl (lv_at hl 2 rfl) ?_
  refine g_cVi (Wd := WX q ad) (z := z) (As := [.int x2]) (rest := [.int (z.1 27 (Int32.toNatClampNeg x2))]) hG S (kX0_lastBlockOf l D q ad A hD i hi z x2 _ h) (cwV 1 ht (cW_V (fun _ h => h) tw_co_X0_lastBlockOf tw_ml_X2_73 tw_im_X0_lastBlockOf tw_se_X0_lastBlockOf tw_in_X0) rfl rfl rfl (by decide +kernel) ⟨by decide, by decide⟩) (va_recv hK hP (ci := 0) (q0 := (4 * i)) rfl (wxl q ad z hi)) hE hP hS rfl hl.1 rfl (Nat.le_of_ble_eq_true rfl) dX2_step_8 ⟨Nat.zero_le _, Nat.zero_le _⟩ (fun r8 z8 H locs h hP hS => ?_)
  refine lv_icmp_ne (tgt := 40) hx hb dX2_step_11 (by decide) (fun c11 => ?_) (fun c11 => ?_)
  · have h := h.1 c11
    refine lv_aload_n hx hb dX2_step_40 rfl (lv_at hl 1 rfl) ?_
    refine lv_iload_n hx hb dX2_step_41 rfl (lv_at hl 2 rfl) ?_
    refine lv_aload_n hx hb dX2_step_42 rfl (lv_at hl 0 rfl) ?_
    refine va_get (D := D) (ci := 2) (v := .ref (ad 27)) (C := RX2) (T := TX2) (N := 13) hx hb ht tl_X2 hown hK hP 26 (wx_26 q ad z8) rfl 0 (by decide) (ht _ tw_fl_X2_9) (fun _ h9 => h9) rfl dX2_step_43 ?_
    refine lv_iload_n hx hb dX2_step_46 rfl (lv_at hl 2 rfl) ?_
    have hi47 := h.1
    have h := h.2
    refine va_iald hx hb hK hP 27 0 (wx_27 q ad z8) rfl hi47 dX2_step_47 ?_
    refine g_cVi (Wd := WX q ad) (z := z8) (As := [.int x2, .int (z8.1 27 (Int32.toNatClampNeg x2))]) (rest := []) hG S (kX0_nextBlockOf l D q ad A hD i hi z8 x2 (z8.1 27 (Int32.toNatClampNeg x2)) _ h) (cwV 2 ht (cW_V (fun _ h => h) tw_co_X0_nextBlockOf tw_ml_X2_77 tw_im_X0_nextBlockOf tw_se_X0_nextBlockOf tw_in_X0) rfl rfl rfl (by decide +kernel) ⟨by decide, by decide⟩) (va_recv hK hP (ci := 0) (q0 := (4 * i)) rfl (wxl q ad z8 hi)) hE hP hS rfl hl.1 rfl (Nat.le_of_ble_eq_true rfl) dX2_step_48 ⟨Nat.zero_le _, Nat.zero_le _⟩ (fun r48 z48 H locs h hP hS => ?_)
    refine lv_istore (lv' := [(4, .int r48), (0, .ref (ad 26)), (1, .ref (ad (4 * i))), (2, .int x2), (3, .int x3)]) hx hb dX2_step_51 hl (by decide) rfl (fun ls hl => ?_)
    refine lv_aload_n hx hb dX2_step_53 rfl (lv_at hl 1 rfl) ?_
    refine va_get (D := D) (ci := 2) (v := .ref (ad 28)) (C := RX2) (T := TX2) (N := 13) hx hb ht tl_X2 hown hK hP 26 (wx_26 q ad z48) rfl 1 (by decide) (ht _ tw_fl_X2_15) (fun _ h9 => h9) rfl dX2_step_54 ?_
    refine lv_iload_n hx hb dX2_step_57 rfl (lv_at hl 3 rfl) ?_
    have hi58 := h.1
    have h := h.2
    refine va_iald hx hb hK hP 28 0 (wx_28 q ad z48) rfl hi58 dX2_step_58 ?_
    refine lv_iconst (v := (-1 : Int32)) hx hb dX2_step_59 (by decide) ?_
    refine lv_icmp_ne (tgt := 85) hx hb dX2_step_60 (by decide) (fun c60 => ?_) (fun c60 => ?_)
    · have h := h.1 c60
      exact B85 z48 x2 x3 r48 _ _ _ h hP hS (lv_sub hl [1, 2, 3, 4, 0] rfl)
    · have h := h.2 c60
      refine lv_aload_n hx hb dX2_step_63 rfl (lv_at hl 1 rfl) ?_
      refine va_get (D := D) (ci := 2) (v := .ref (ad 28)) (C := RX2) (T := TX2) (N := 13) hx hb ht tl_X2 hown hK hP 26 (wx_26 q ad z48) rfl 1 (by decide) (ht _ tw_fl_X2_15) (fun _ h9 => h9) rfl dX2_step_64 ?_
      refine lv_iload_n hx hb dX2_step_67 rfl (lv_at hl 3 rfl) ?_
      refine lv_aload_n hx hb dX2_step_68 rfl (lv_at hl 2 rfl) ?_
      refine lv_iload_n hx hb dX2_step_69 rfl (lv_at hl 3 rfl) ?_
      refine lv_iconst (v := (0 : Int32)) hx hb dX2_step_70 (by decide) ?_
      refine g_cVi (Wd := WX q ad) (z := z48) (As := [.int x2, .int (0 : Int32)]) (rest := [.int x2, .ref (ad 28)]) hG S (kX0_fact l D q ad A hD i hi z48 x2 (0 : Int32) _ h) (cwV 2 ht (cW_V (fun _ h => h) tw_co_X0_fact tw_ml_X2_65 tw_im_X0_fact tw_se_X0_fact tw_in_X0) rfl rfl rfl (by decide +kernel) ⟨by decide, by decide⟩) (va_recv hK hP (ci := 0) (q0 := (4 * i)) rfl (wxl q ad z48 hi)) hE hP hS rfl hl.1 rfl (Nat.le_of_ble_eq_true rfl) dX2_step_71 ⟨Nat.zero_le _, Nat.zero_le _⟩ (fun r71 z71 H locs h hP hS => ?_)
      refine lv_aload_n hx hb dX2_step_74 rfl (lv_at hl 2 rfl) ?_
      refine va_get (D := D) (ci := 0) (v := .ref (ad (4 * i + 1))) (C := RX0) (T := TX0) (N := 7) hx hb ht tl_X0 hown hK hP (4 * i) (wxl q ad z71 hi) rfl 4 (by decide) (ht _ tw_fl_X2_80) (fun _ h9 => h9) rfl dX2_step_75 ?_
      refine lv_iload hx hb dX2_step_78 (lv_at hl 0 rfl) ?_
      have hi80 := h.1
      have h := h.2
      refine va_iald hx hb hK hP (4 * i + 1) 0 (wxl1 q ad z71 hi) rfl hi80 dX2_step_80 ?_
      refine g_cNi (Wd := WX q ad) (z := z71) (As := [.int r71, .int (z71.1 (4 * i + 1) (Int32.toNatClampNeg r48))]) (rest := [.int x2, .ref (ad 28)]) hG S (kX7_minutesFor l D q ad A hD z71 r71 (z71.1 (4 * i + 1) (Int32.toNatClampNeg r48)) _ h) ⟨va_cnB 2 ht (cW_good (fun _ h => h) tw_co_X7_minutesFor) rfl rfl rfl hE.2.2.2.2.1 (ht _ tw_in_X7) (by decide +kernel) ⟨by decide, by decide⟩, ht _ tw_st_X7_minutesFor, trivial⟩ hE hP hS rfl hl.1 rfl (Nat.le_of_ble_eq_true rfl) dX2_step_81 ⟨Nat.zero_le _, Nat.zero_le _⟩ (fun r81 z81 H locs h hP hS => ?_)
      have hi84 := h.1
      have h := h.2
      refine g_iast (Wd := WX q ad) (z := z81) hx hb hK hP (hD z81) hS 28 (wx_28 q ad z81) rfl (ax_28 q ad z81) hi84 dX2_step_84 (fun z84 H locs hz84 hP hS => ?_)
      have h := h z84 hz84
      exact B85 z84 x2 x3 r48 _ _ _ h hP hS (lv_sub hl [1, 2, 3, 4, 0] rfl)
  · have h := h.2 c11
    refine lv_aload_n hx hb dX2_step_14 rfl (lv_at hl 0 rfl) ?_
    refine va_get (D := D) (ci := 2) (v := .ref (ad 27)) (C := RX2) (T := TX2) (N := 13) hx hb ht tl_X2 hown hK hP 26 (wx_26 q ad z8) rfl 0 (by decide) (ht _ tw_fl_X2_9) (fun _ h9 => h9) rfl dX2_step_15 ?_
    refine lv_iload_n hx hb dX2_step_18 rfl (lv_at hl 2 rfl) ?_
    refine lv_bipush (v := (-4 : Int32)) hx hb dX2_step_19 (by decide) ?_
    have hi21 := h.1
    have h := h.2
    refine g_iast (Wd := WX q ad) (z := z8) hx hb hK hP (hD z8) hS 27 (wx_27 q ad z8) rfl (ax_27 q ad z8) hi21 dX2_step_21 (fun z21 H locs hz21 hP hS => ?_)
    have h := h z21 hz21
    refine lv_aload_n hx hb dX2_step_22 rfl (lv_at hl 0 rfl) ?_
    refine va_get (D := D) (ci := 2) (v := .ref (ad 29)) (C := RX2) (T := TX2) (N := 13) hx hb ht tl_X2 hown hK hP 26 (wx_26 q ad z21) rfl 2 (by decide) (ht _ tw_fl_X2_18) (fun _ h9 => h9) rfl dX2_step_23 ?_
    refine lv_iload_n hx hb dX2_step_26 rfl (lv_at hl 2 rfl) ?_
    refine lv_iload_n hx hb dX2_step_27 rfl (lv_at hl 3 rfl) ?_
    have hi28 := h.1
    have h := h.2
    refine g_iast (Wd := WX q ad) (z := z21) hx hb hK hP (hD z21) hS 29 (wx_29 q ad z21) rfl (ax_29 q ad z21) hi28 dX2_step_28 (fun z28 H locs hz28 hP hS => ?_)
    have h := h z28 hz28
    refine lv_aload_n hx hb dX2_step_29 rfl (lv_at hl 0 rfl) ?_
    refine lv_dup hx hb dX2_step_30 rfl ?_
    refine va_get (D := D) (ci := 2) (v := .int (z28.1 26 9)) (C := RX2) (T := TX2) (N := 13) hx hb ht tl_X2 hown hK hP 26 (wx_26 q ad z28) rfl 9 (by decide) (ht _ tw_fl_X2_33) (fun _ h9 => h9) rfl dX2_step_31 ?_
    refine lv_iconst (v := (1 : Int32)) hx hb dX2_step_34 (by decide) ?_
    refine lv_iadd hx hb dX2_step_35 ?_
    refine g_put (D := D) (Wd := WX q ad) (z := z28) (ci := 2) (v := .int ((z28.1 26 9) + (1 : Int32))) (ty := .int) (C := RX2) (T := TX2) (N := 13) hx hb ht tl_X2 tyX2 tyX2_ok nmX2 hown hK hP (hD z28) hS 26 (wx_26 q ad z28) rfl 9 (by decide) (ht _ tw_fl_X2_33) (fun _ h9 => h9) rfl rfl rfl rfl (Nat.le_of_ble_eq_true rfl) ((px_26_9 q ad z28) ((z28.1 26 9) + (1 : Int32))) dX2_step_36 (fun z36 H locs hz36 hP hS => ?_)
    have h := h z36 hz36
    exact g_rv hG hx hb hr hlocks hE hP hS h dX2_step_39
def pX2_playMinute_l55 (i : Nat) (rec55 : MX → Int32 → Int32 → Prop) (post : MX → Prop) (z : MX) (x2 : Int32) (x3 : Int32) : Prop :=
    (((z.1 (4 * i) 3) ≤ x3 →
      post z) ∧
    (¬ (z.1 (4 * i) 3) ≤ x3 →
      vp_in x3 4 ∧
      vp_in ((x3 * (120 : Int32)) + x2) 480 ∧
      ∀ z79 : MX, z79 = mw z 30 (Int32.toNatClampNeg ((x3 * (120 : Int32)) + x2)) (z.1 27 (Int32.toNatClampNeg x3)) →
      ∀ x3_80 : Int32, x3_80 = x3 + (1 : Int32) →
      rec55 z79 x2 x3_80))
def pX2_playMinute_L55 (i : Nat) (post : MX → Prop) : Nat → MX → Int32 → Int32 → Prop
  | 0 => fun _ _ _ => False
  | n + 1 => fun z x2 x3 => pX2_playMinute_l55 i (pX2_playMinute_L55 i post n) post z x2 x3
def pX2_playMinute_b53 (i : Nat) (post : MX → Prop) (z : MX) (x2 : Int32) : Prop :=
    ∃ n, pX2_playMinute_L55 i post n z x2 (0 : Int32)
def pX2_playMinute_b47 (i : Nat) (rec2 : MX → Int32 → Int32 → Prop) (post : MX → Prop) (z : MX) (x2 : Int32) (x3 : Int32) : Prop :=
    ∀ x3_47 : Int32, x3_47 = x3 + (1 : Int32) →
    rec2 z x2 x3_47
def pX2_playMinute_l2 (i : Nat) (rec2 : MX → Int32 → Int32 → Prop) (post : MX → Prop) (z : MX) (x2 : Int32) (x3 : Int32) : Prop :=
    (((z.1 (4 * i) 3) ≤ x3 →
      pX2_playMinute_b53 i post z x2) ∧
    (¬ (z.1 (4 * i) 3) ≤ x3 →
      ((¬ (z.1 26 5) = (-4 : Int32) →
        pX2_playMinute_b53 i post z x2) ∧
      ((z.1 26 5) = (-4 : Int32) →
        pX0_fact i z x3 (2 : Int32) (fun (r23 : Int32) (z23 : MX) =>
        ((x2 < r23 →
          pX2_playMinute_b47 i rec2 post z23 x2 x3) ∧
        (¬ x2 < r23 →
          vp_in x3 4 ∧
          ((¬ (z23.1 29 (Int32.toNatClampNeg x3)) = (-4 : Int32) →
            pX2_playMinute_b47 i rec2 post z23 x2 x3) ∧
          ((z23.1 29 (Int32.toNatClampNeg x3)) = (-4 : Int32) →
            pX2_step i z23 x3 x2 (fun (z44 : MX) =>
            pX2_playMinute_b47 i rec2 post z44 x2 x3))))))))))
def pX2_playMinute_L2 (i : Nat) (post : MX → Prop) : Nat → MX → Int32 → Int32 → Prop
  | 0 => fun _ _ _ => False
  | n + 1 => fun z x2 x3 => pX2_playMinute_l2 i (pX2_playMinute_L2 i post n) post z x2 x3
def pX2_playMinute (i : Nat) (z : MX) (x2 : Int32) (post : MX → Prop) : Prop :=
  ∃ n, pX2_playMinute_L2 i post n z x2 (0 : Int32)
set_option maxHeartbeats 4000000 in
set_option maxRecDepth 100000 in
theorem kX2_playMinute (l : Launch) (D : va_G) (q : Nat → ClassId) (ad : Nat → Nat) (A : Nat → Prop) (hD : ∀ z, va_D A (WX q ad z)) (i : Nat) (hi : i < 4) (z : MX) (x2 : Int32) (post : MX → Prop) (h : pX2_playMinute i z x2 post) : Met l yX2_playMinute (cW yX2_playMinute cX2_playMinute 4 none) ({ frames := 3, cells := 0, slots := 0, locals := 72 } : Room) (va_Pc [.ref (ad 26), .ref (ad (4 * i)), .int x2] ((gB D vwCl (WX q ad) (xE D q ad A)) z)) (va_Qv post (gB D vwCl (WX q ad) (xE D q ad A)) A) 0 0 A := by
  refine Met.ofW (cc := cX2_playMinute) (maxL := 4) (ret := none) (by decide) rfl ?_
  intro p e s m args below meth c s₁ B hml hv
  obtain ⟨hargs, hP, hE⟩ := hv
  have hx := B.exec
  have hb := B.bytes
  have hr := B.returns
  have hts := atoms_spec (ws := (cW yX2_playMinute cX2_playMinute 4 none)) B.pre
  have ht : ∀ w ∈ tG, w.before args s = true := fun w h => hts w (List.mem_cons_of_mem _ h)
  have hown : s.vm.findClass RX2 = some m.cls := findClass_of_methodNamed B.named
  have hlocks := B.notSynchronized
  have hK := hE.1
  have hG := xE_G D q ad A
  have S : CallFix p m c cX2_playMinute 4 s args tG RX2 := ⟨hx, hb, hml, hown, ht⟩
  have hS : va_S A s.heap s.heap [] := va_S.rf
  have B55 : ∀ (rec55 : MX → Int32 → Int32 → Prop) (hrec55 : ∀ (z : MX) (x2 : Int32) (x3 : Int32) (H : Heap) (locs : List Loc) (ls : Array Slot), rec55 z x2 x3 → va_P D vwCl (WX q ad z) H → va_S A s.heap H locs → lv_has ls 4 [(0, .ref (ad 26)), (1, .ref (ad (4 * i))), (2, .int x2), (3, .int x3)] → W p l e (headSpec (cW yX2_playMinute cX2_playMinute 4 none) ({ frames := 3, cells := 0, slots := 0, locals := 72 } : Room)).room s m args below meth c H locs 0 0 (MQ below (va_Qv post (gB D vwCl (WX q ad) (xE D q ad A)) A) args s 0 0 A) (F0 m 55 ls [])) (z : MX) (x2 : Int32) (x3 : Int32) (H : Heap) (locs : List Loc) (ls : Array Slot), pX2_playMinute_l55 i rec55 post z x2 x3 → va_P D vwCl (WX q ad z) H → va_S A s.heap H locs → lv_has ls 4 [(0, .ref (ad 26)), (1, .ref (ad (4 * i))), (2, .int x2), (3, .int x3)] → W p l e (headSpec (cW yX2_playMinute cX2_playMinute 4 none) ({ frames := 3, cells := 0, slots := 0, locals := 72 } : Room)).room s m args below meth c H locs 0 0 (MQ below (va_Qv post (gB D vwCl (WX q ad) (xE D q ad A)) A) args s 0 0 A) (F0 m 55 ls []) := by
    intro rec55 hrec55 z x2 x3 H locs ls h hP hS hl
    unfold pX2_playMinute_l55 at h
    refine lv_iload_n hx hb dX2_playMinute_55 rfl (lv_at hl 3 rfl) ?_
    refine lv_aload_n hx hb dX2_playMinute_56 rfl (lv_at hl 1 rfl) ?_
    refine va_get (D := D) (ci := 0) (v := .int (z.1 (4 * i) 3)) (C := RX0) (T := TX0) (N := 7) hx hb ht tl_X0 hown hK hP (4 * i) (wxl q ad z hi) rfl 3 (by decide) (ht _ tw_fl_X2_27) (fun _ h9 => h9) rfl dX2_playMinute_57 ?_
    refine lv_icmp_ge (tgt := 86) hx hb dX2_playMinute_60 (by decide) (fun c60 => ?_) (fun c60 => ?_)
    · have h := h.1 c60
      exact g_rv hG hx hb hr hlocks hE hP hS h dX2_playMinute_86
    · have h := h.2 c60
      refine lv_aload_n hx hb dX2_playMinute_63 rfl (lv_at hl 0 rfl) ?_
      refine va_get (D := D) (ci := 2) (v := .ref (ad 30)) (C := RX2) (T := TX2) (N := 13) hx hb ht tl_X2 hown hK hP 26 (wx_26 q ad z) rfl 3 (by decide) (ht _ tw_fl_X2_21) (fun _ h9 => h9) rfl dX2_playMinute_64 ?_
      refine lv_iload_n hx hb dX2_playMinute_67 rfl (lv_at hl 3 rfl) ?_
      refine lv_bipush (v := (120 : Int32)) hx hb dX2_playMinute_68 (by decide) ?_
      refine lv_imul hx hb dX2_playMinute_70 ?_
      refine lv_iload_n hx hb dX2_playMinute_71 rfl (lv_at hl 2 rfl) ?_
      refine lv_iadd hx hb dX2_playMinute_72 ?_
      refine lv_aload_n hx hb dX2_playMinute_73 rfl (lv_at hl 0 rfl) ?_
      refine va_get (D := D) (ci := 2) (v := .ref (ad 27)) (C := RX2) (T := TX2) (N := 13) hx hb ht tl_X2 hown hK hP 26 (wx_26 q ad z) rfl 0 (by decide) (ht _ tw_fl_X2_9) (fun _ h9 => h9) rfl dX2_playMinute_74 ?_
      refine lv_iload_n hx hb dX2_playMinute_77 rfl (lv_at hl 3 rfl) ?_
      have hi78 := h.1
      have h := h.2
      refine va_iald hx hb hK hP 27 0 (wx_27 q ad z) rfl hi78 dX2_playMinute_78 ?_
      have hi79 := h.1
      have h := h.2
      refine g_iast (Wd := WX q ad) (z := z) hx hb hK hP (hD z) hS 30 (wx_30 q ad z) rfl (ax_30 q ad z) hi79 dX2_playMinute_79 (fun z79 H locs hz79 hP hS => ?_)
      have h := h z79 hz79
      obtain ⟨x3_80, ex3_80⟩ : ∃ w : Int32, w = x3 + (1 : Int32) := ⟨_, rfl⟩
      have h := h x3_80 ex3_80
      refine lv_iinc (v := x3_80) (lv' := [(3, .int x3_80), (0, .ref (ad 26)), (1, .ref (ad (4 * i))), (2, .int x2)]) hx hb dX2_playMinute_80 hl (k := 3) rfl (by rw [ex3_80]; rfl) (by decide) rfl (fun ls hl => ?_)
      refine lv_goto (tgt := 55) hx hb dX2_playMinute_83 (by decide) ?_
      exact hrec55 z79 x2 x3_80 _ _ _ h hP hS (lv_sub hl [1, 2, 3, 0] rfl)
  have L55 : ∀ (n : Nat) (z : MX) (x2 : Int32) (x3 : Int32) (H : Heap) (locs : List Loc) (ls : Array Slot), pX2_playMinute_L55 i post n z x2 x3 → va_P D vwCl (WX q ad z) H → va_S A s.heap H locs → lv_has ls 4 [(0, .ref (ad 26)), (1, .ref (ad (4 * i))), (2, .int x2), (3, .int x3)] → W p l e (headSpec (cW yX2_playMinute cX2_playMinute 4 none) ({ frames := 3, cells := 0, slots := 0, locals := 72 } : Room)).room s m args below meth c H locs 0 0 (MQ below (va_Qv post (gB D vwCl (WX q ad) (xE D q ad A)) A) args s 0 0 A) (F0 m 55 ls []) := by
    intro n
    induction n with
    | zero =>
      intro z x2 x3 H locs ls h
      exact False.elim h
    | succ n ih =>
      intro z x2 x3 H locs ls h hP hS hl
      exact B55 (pX2_playMinute_L55 i post n) ih z x2 x3 H locs ls h hP hS hl
  have B53 : ∀ (z : MX) (x2 : Int32) (H : Heap) (locs : List Loc) (ls : Array Slot), pX2_playMinute_b53 i post z x2 → va_P D vwCl (WX q ad z) H → va_S A s.heap H locs → lv_has ls 4 [(0, .ref (ad 26)), (1, .ref (ad (4 * i))), (2, .int x2)] → W p l e (headSpec (cW yX2_playMinute cX2_playMinute 4 none) ({ frames := 3, cells := 0, slots := 0, locals := 72 } : Room)).room s m args below meth c H locs 0 0 (MQ below (va_Qv post (gB D vwCl (WX q ad) (xE D q ad A)) A) args s 0 0 A) (F0 m 53 ls []) := by
    intro z x2 H locs ls h hP hS hl
    unfold pX2_playMinute_b53 at h
    refine lv_iconst (v := (0 : Int32)) hx hb dX2_playMinute_53 (by decide) ?_
    refine lv_istore_n (lv' := [(3, .int (0 : Int32)), (0, .ref (ad 26)), (1, .ref (ad (4 * i))), (2, .int x2)]) hx hb dX2_playMinute_54 rfl hl (by decide) rfl (fun ls hl => ?_)
    obtain ⟨n, h⟩ := h
    exact L55 n z x2 (0 : Int32) _ _ _ h hP hS (lv_sub hl [1, 2, 3, 0] rfl)
  have B47 : ∀ (rec2 : MX → Int32 → Int32 → Prop) (hrec2 : ∀ (z : MX) (x2 : Int32) (x3 : Int32) (H : Heap) (locs : List Loc) (ls : Array Slot), rec2 z x2 x3 → va_P D vwCl (WX q ad z) H → va_S A s.heap H locs → lv_has ls 4 [(0, .ref (ad 26)), (1, .ref (ad (4 * i))), (2, .int x2), (3, .int x3)] → W p l e (headSpec (cW yX2_playMinute cX2_playMinute 4 none) ({ frames := 3, cells := 0, slots := 0, locals := 72 } : Room)).room s m args below meth c H locs 0 0 (MQ below (va_Qv post (gB D vwCl (WX q ad) (xE D q ad A)) A) args s 0 0 A) (F0 m 2 ls [])) (z : MX) (x2 : Int32) (x3 : Int32) (H : Heap) (locs : List Loc) (ls : Array Slot), pX2_playMinute_b47 i rec2 post z x2 x3 → va_P D vwCl (WX q ad z) H → va_S A s.heap H locs → lv_has ls 4 [(0, .ref (ad 26)), (1, .ref (ad (4 * i))), (2, .int x2), (3, .int x3)] → W p l e (headSpec (cW yX2_playMinute cX2_playMinute 4 none) ({ frames := 3, cells := 0, slots := 0, locals := 72 } : Room)).room s m args below meth c H locs 0 0 (MQ below (va_Qv post (gB D vwCl (WX q ad) (xE D q ad A)) A) args s 0 0 A) (F0 m 47 ls []) := by
    intro rec2 hrec2 z x2 x3 H locs ls h hP hS hl
    unfold pX2_playMinute_b47 at h
    obtain ⟨x3_47, ex3_47⟩ : ∃ w : Int32, w = x3 + (1 : Int32) := ⟨_, rfl⟩
    have h := h x3_47 ex3_47
    refine lv_iinc (v := x3_47) (lv' := [(3, .int x3_47), (0, .ref (ad 26)), (1, .ref (ad (4 * i))), (2, .int x2)]) hx hb dX2_playMinute_47 hl (k := 3) rfl (by rw [ex3_47]; rfl) (by decide) rfl (fun ls hl => ?_)
    refine lv_goto (tgt := 2) hx hb dX2_playMinute_50 (by decide) ?_
    exact hrec2 z x2 x3_47 _ _ _ h hP hS (lv_sub hl [1, 2, 3, 0] rfl)
  have B2 : ∀ (rec2 : MX → Int32 → Int32 → Prop) (hrec2 : ∀ (z : MX) (x2 : Int32) (x3 : Int32) (H : Heap) (locs : List Loc) (ls : Array Slot), rec2 z x2 x3 → va_P D vwCl (WX q ad z) H → va_S A s.heap H locs → lv_has ls 4 [(0, .ref (ad 26)), (1, .ref (ad (4 * i))), (2, .int x2), (3, .int x3)] → W p l e (headSpec (cW yX2_playMinute cX2_playMinute 4 none) ({ frames := 3, cells := 0, slots := 0, locals := 72 } : Room)).room s m args below meth c H locs 0 0 (MQ below (va_Qv post (gB D vwCl (WX q ad) (xE D q ad A)) A) args s 0 0 A) (F0 m 2 ls [])) (z : MX) (x2 : Int32) (x3 : Int32) (H : Heap) (locs : List Loc) (ls : Array Slot), pX2_playMinute_l2 i rec2 post z x2 x3 → va_P D vwCl (WX q ad z) H → va_S A s.heap H locs → lv_has ls 4 [(0, .ref (ad 26)), (1, .ref (ad (4 * i))), (2, .int x2), (3, .int x3)] → W p l e (headSpec (cW yX2_playMinute cX2_playMinute 4 none) ({ frames := 3, cells := 0, slots := 0, locals := 72 } : Room)).room s m args below meth c H locs 0 0 (MQ below (va_Qv post (gB D vwCl (WX q ad) (xE D q ad A)) A) args s 0 0 A) (F0 m 2 ls []) := by
    intro rec2 hrec2 z x2 x3 H locs ls h hP hS hl
    unfold pX2_playMinute_l2 at h
    refine lv_iload_n hx hb dX2_playMinute_2 rfl (lv_at hl 3 rfl) ?_
    refine lv_aload_n hx hb dX2_playMinute_3 rfl (lv_at hl 1 rfl) ?_
    refine va_get (D := D) (ci := 0) (v := .int (z.1 (4 * i) 3)) (C := RX0) (T := TX0) (N := 7) hx hb ht tl_X0 hown hK hP (4 * i) (wxl q ad z hi) rfl 3 (by decide) (ht _ tw_fl_X2_27) (fun _ h9 => h9) rfl dX2_playMinute_4 ?_
    refine lv_icmp_ge (tgt := 53) hx hb dX2_playMinute_7 (by decide) (fun c7 => ?_) (fun c7 => ?_)
    · have h := h.1 c7
      exact B53 z x2 _ _ _ h hP hS (lv_sub hl [0, 1, 2] rfl)
    · have h := h.2 c7
      refine lv_aload_n hx hb dX2_playMinute_10 rfl (lv_at hl 0 rfl) ?_
      refine va_get (D := D) (ci := 2) (v := .int (z.1 26 5)) (C := RX2) (T := TX2) (N := 13) hx hb ht tl_X2 hown hK hP 26 (wx_26 q ad z) rfl 5 (by decide) (ht _ tw_fl_X2_46) (fun _ h9 => h9) rfl dX2_playMinute_11 ?_
      refine lv_bipush (v := (-4 : Int32)) hx hb dX2_playMinute_14 (by decide) ?_
      refine lv_icmp_ne (tgt := 53) hx hb dX2_playMinute_16 (by decide) (fun c16 => ?_) (fun c16 => ?_)
      · have h := h.1 c16
        exact B53 z x2 _ _ _ h hP hS (lv_sub hl [0, 1, 2] rfl)
      · have h := h.2 c16
        refine lv_iload_n hx hb dX2_playMinute_19 rfl (lv_at hl 2 rfl) ?_
        refine lv_aload_n hx hb dX2_playMinute_20 rfl (lv_at hl 1 rfl) ?_
        refine lv_iload_n hx hb dX2_playMinute_21 rfl (lv_at hl 3 rfl) ?_
        refine lv_iconst (v := (2 : Int32)) hx hb dX2_playMinute_22 (by decide) ?_
        refine g_cVi (Wd := WX q ad) (z := z) (As := [.int x3, .int (2 : Int32)]) (rest := [.int x2]) hG S (kX0_fact l D q ad A hD i hi z x3 (2 : Int32) _ h) (cwV 2 ht (cW_V (fun _ h => h) tw_co_X0_fact tw_ml_X2_65 tw_im_X0_fact tw_se_X0_fact tw_in_X0) rfl rfl rfl (by decide +kernel) ⟨by decide, by decide⟩) (va_recv hK hP (ci := 0) (q0 := (4 * i)) rfl (wxl q ad z hi)) hE hP hS rfl hl.1 rfl (Nat.le_of_ble_eq_true rfl) dX2_playMinute_23 ⟨Nat.zero_le _, Nat.zero_le _⟩ (fun r23 z23 H locs h hP hS => ?_)
        refine lv_icmp_lt (tgt := 47) hx hb dX2_playMinute_26 (by decide) (fun c26 => ?_) (fun c26 => ?_)
        · have h := h.1 c26
          exact B47 rec2 hrec2 z23 x2 x3 _ _ _ h hP hS (lv_sub hl [0, 1, 2, 3] rfl)
        · have h := h.2 c26
          refine lv_aload_n hx hb dX2_playMinute_29 rfl (lv_at hl 0 rfl) ?_
          refine va_get (D := D) (ci := 2) (v := .ref (ad 29)) (C := RX2) (T := TX2) (N := 13) hx hb ht tl_X2 hown hK hP 26 (wx_26 q ad z23) rfl 2 (by decide) (ht _ tw_fl_X2_18) (fun _ h9 => h9) rfl dX2_playMinute_30 ?_
          refine lv_iload_n hx hb dX2_playMinute_33 rfl (lv_at hl 3 rfl) ?_
          have hi34 := h.1
          have h := h.2
          refine va_iald hx hb hK hP 29 0 (wx_29 q ad z23) rfl hi34 dX2_playMinute_34 ?_
          refine lv_bipush (v := (-4 : Int32)) hx hb dX2_playMinute_35 (by decide) ?_
          refine lv_icmp_ne (tgt := 47) hx hb dX2_playMinute_37 (by decide) (fun c37 => ?_) (fun c37 => ?_)
          · have h := h.1 c37
            exact B47 rec2 hrec2 z23 x2 x3 _ _ _ h hP hS (lv_sub hl [0, 1, 2, 3] rfl)
          · have h := h.2 c37
            refine lv_aload_n hx hb dX2_playMinute_40 rfl (lv_at hl 0 rfl) ?_
            refine lv_aload_n hx hb dX2_playMinute_41 rfl (lv_at hl 1 rfl) ?_
            refine lv_iload_n hx hb dX2_playMinute_42 rfl (lv_at hl 3 rfl) ?_
            refine lv_iload_n hx hb dX2_playMinute_43 rfl (lv_at hl 2 rfl) ?_
            refine g_cVv (Wd := WX q ad) (z := z23) (As := [.ref (ad (4 * i)), .int x3, .int x2]) (rest := []) hG S (kX2_step l D q ad A hD i hi z23 x3 x2 _ h) (cwV 3 ht (cW_V (fun _ h => h) tw_co_X2_step tw_ml_X2_69 tw_im_X2_step tw_se_X2_step tw_in_X2) rfl rfl rfl (by decide +kernel) ⟨by decide, by decide⟩) (va_recv hK hP (ci := 2) (q0 := 26) rfl (wx_26 q ad z23)) hE hP hS rfl hl.1 rfl (Nat.le_of_ble_eq_true rfl) dX2_playMinute_44 ⟨Nat.zero_le _, Nat.zero_le _⟩ (fun z44 H locs h hP hS => ?_)
            exact B47 rec2 hrec2 z44 x2 x3 _ _ _ h hP hS (lv_sub hl [0, 1, 2, 3] rfl)
  have L2 : ∀ (n : Nat) (z : MX) (x2 : Int32) (x3 : Int32) (H : Heap) (locs : List Loc) (ls : Array Slot), pX2_playMinute_L2 i post n z x2 x3 → va_P D vwCl (WX q ad z) H → va_S A s.heap H locs → lv_has ls 4 [(0, .ref (ad 26)), (1, .ref (ad (4 * i))), (2, .int x2), (3, .int x3)] → W p l e (headSpec (cW yX2_playMinute cX2_playMinute 4 none) ({ frames := 3, cells := 0, slots := 0, locals := 72 } : Room)).room s m args below meth c H locs 0 0 (MQ below (va_Qv post (gB D vwCl (WX q ad) (xE D q ad A)) A) args s 0 0 A) (F0 m 2 ls []) := by
    intro n
    induction n with
    | zero =>
      intro z x2 x3 H locs ls h
      exact False.elim h
    | succ n ih =>
      intro z x2 x3 H locs ls h hP hS hl
      exact B2 (pX2_playMinute_L2 i post n) ih z x2 x3 H locs ls h hP hS hl
  refine g_entry (vs := [.ref (ad 26), .ref (ad (4 * i)), .int x2]) hargs (Nat.le_of_ble_eq_true rfl) (fun ls hl => ?_)
  have hl : lv_has ls 4 [(0, .ref (ad 26)), (1, .ref (ad (4 * i))), (2, .int x2)] := hl
  unfold pX2_playMinute at h
  refine lv_iconst (v := (0 : Int32)) hx hb dX2_playMinute_0 (by decide) ?_
  refine lv_istore_n (lv' := [(3, .int (0 : Int32)), (0, .ref (ad 26)), (1, .ref (ad (4 * i))), (2, .int x2)]) hx hb dX2_playMinute_1 rfl hl (by decide) rfl (fun ls hl => ?_)
  obtain ⟨n, h⟩ := h
  exact L2 n z x2 (0 : Int32) _ _ _ h hP hS (lv_sub hl [1, 2, 3, 0] rfl)
def pX2_countCost_b37 (i : Nat) (rec7 : MX → Int32 → Prop) (post : MX → Prop) (z : MX) (x2 : Int32) (y0 : Int32) : Prop :=
    pX0_fact i z x2 (3 : Int32) (fun (r47 : Int32) (z47 : MX) =>
    ∀ z52 : MX, z52 = mw z47 26 8 ((z.1 26 8) + (y0 * r47)) →
    ∀ x2_55 : Int32, x2_55 = x2 + (1 : Int32) →
    rec7 z52 x2_55)
def pX2_countCost_l7 (i : Nat) (rec7 : MX → Int32 → Prop) (post : MX → Prop) (z : MX) (x2 : Int32) : Prop :=
    (((z.1 (4 * i) 3) ≤ x2 →
      post z) ∧
    (¬ (z.1 (4 * i) 3) ≤ x2 →
      vp_in x2 4 ∧
      ((¬ (z.1 29 (Int32.toNatClampNeg x2)) = (-4 : Int32) →
        vp_in x2 4 ∧
        pX2_countCost_b37 i rec7 post z x2 (z.1 29 (Int32.toNatClampNeg x2))) ∧
      ((z.1 29 (Int32.toNatClampNeg x2)) = (-4 : Int32) →
        pX2_countCost_b37 i rec7 post z x2 (120 : Int32)))))
def pX2_countCost_L7 (i : Nat) (post : MX → Prop) : Nat → MX → Int32 → Prop
  | 0 => fun _ _ => False
  | n + 1 => fun z x2 => pX2_countCost_l7 i (pX2_countCost_L7 i post n) post z x2
def pX2_countCost (i : Nat) (z : MX) (post : MX → Prop) : Prop :=
  ∀ z2 : MX, z2 = mw z 26 8 (0 : Int32) →
  ∃ n, pX2_countCost_L7 i post n z2 (0 : Int32)
set_option maxHeartbeats 4000000 in
set_option maxRecDepth 100000 in
theorem kX2_countCost (l : Launch) (D : va_G) (q : Nat → ClassId) (ad : Nat → Nat) (A : Nat → Prop) (hD : ∀ z, va_D A (WX q ad z)) (i : Nat) (hi : i < 4) (z : MX) (post : MX → Prop) (h : pX2_countCost i z post) : Met l yX2_countCost (cW yX2_countCost cX2_countCost 4 none) ({ frames := 1, cells := 0, slots := 0, locals := 22 } : Room) (va_Pc [.ref (ad 26), .ref (ad (4 * i))] ((gB D vwCl (WX q ad) (xE D q ad A)) z)) (va_Qv post (gB D vwCl (WX q ad) (xE D q ad A)) A) 0 0 A := by
  refine Met.ofW (cc := cX2_countCost) (maxL := 4) (ret := none) (by decide) rfl ?_
  intro p e s m args below meth c s₁ B hml hv
  obtain ⟨hargs, hP, hE⟩ := hv
  have hx := B.exec
  have hb := B.bytes
  have hr := B.returns
  have hts := atoms_spec (ws := (cW yX2_countCost cX2_countCost 4 none)) B.pre
  have ht : ∀ w ∈ tG, w.before args s = true := fun w h => hts w (List.mem_cons_of_mem _ h)
  have hown : s.vm.findClass RX2 = some m.cls := findClass_of_methodNamed B.named
  have hlocks := B.notSynchronized
  have hK := hE.1
  have hG := xE_G D q ad A
  have S : CallFix p m c cX2_countCost 4 s args tG RX2 := ⟨hx, hb, hml, hown, ht⟩
  have hS : va_S A s.heap s.heap [] := va_S.rf
  have B37 : ∀ (rec7 : MX → Int32 → Prop) (hrec7 : ∀ (z : MX) (x2 : Int32) (H : Heap) (locs : List Loc) (ls : Array Slot), rec7 z x2 → va_P D vwCl (WX q ad z) H → va_S A s.heap H locs → lv_has ls 4 [(0, .ref (ad 26)), (1, .ref (ad (4 * i))), (2, .int x2)] → W p l e (headSpec (cW yX2_countCost cX2_countCost 4 none) ({ frames := 1, cells := 0, slots := 0, locals := 22 } : Room)).room s m args below meth c H locs 0 0 (MQ below (va_Qv post (gB D vwCl (WX q ad) (xE D q ad A)) A) args s 0 0 A) (F0 m 7 ls [])) (z : MX) (x2 : Int32) (y0 : Int32) (H : Heap) (locs : List Loc) (ls : Array Slot), pX2_countCost_b37 i rec7 post z x2 y0 → va_P D vwCl (WX q ad z) H → va_S A s.heap H locs → lv_has ls 4 [(0, .ref (ad 26)), (1, .ref (ad (4 * i))), (2, .int x2)] → W p l e (headSpec (cW yX2_countCost cX2_countCost 4 none) ({ frames := 1, cells := 0, slots := 0, locals := 22 } : Room)).room s m args below meth c H locs 0 0 (MQ below (va_Qv post (gB D vwCl (WX q ad) (xE D q ad A)) A) args s 0 0 A) (F0 m 37 ls [.int y0]) := by
    intro rec7 hrec7 z x2 y0 H locs ls h hP hS hl
    unfold pX2_countCost_b37 at h
    refine lv_istore_n (lv' := [(3, .int y0), (0, .ref (ad 26)), (1, .ref (ad (4 * i))), (2, .int x2)]) hx hb dX2_countCost_37 rfl hl (by decide) rfl (fun ls hl => ?_)
    refine lv_aload_n hx hb dX2_countCost_38 rfl (lv_at hl 1 rfl) ?_
    refine lv_dup hx hb dX2_countCost_39 rfl ?_
    refine va_get (D := D) (ci := 2) (v := .int (z.1 26 8)) (C := RX2) (T := TX2) (N := 13) hx hb ht tl_X2 hown hK hP 26 (wx_26 q ad z) rfl 8 (by decide) (ht _ tw_fl_X2_103) (fun _ h9 => h9) rfl dX2_countCost_40 ?_
    refine lv_iload_n hx hb dX2_countCost_43 rfl (lv_at hl 0 rfl) ?_
    refine lv_aload_n hx hb dX2_countCost_44 rfl (lv_at hl 2 rfl) ?_
    refine lv_iload_n hx hb dX2_countCost_45 rfl (lv_at hl 3 rfl) ?_
    refine lv_iconst (v := (3 : Int32)) hx hb dX2_countCost_46 (by decide) ?_
    refine g_cVi (Wd := WX q ad) (z := z) (As := [.int x2, .int (3 : Int32)]) (rest := [.int y0, .int (z.1 26 8), .ref (ad 26)]) hG S (kX0_fact l D q ad A hD i hi z x2 (3 : Int32) _ h) (cwV 2 ht (cW_V (fun _ h => h) tw_co_X0_fact tw_ml_X2_65 tw_im_X0_fact tw_se_X0_fact tw_in_X0) rfl rfl rfl (by decide +kernel) ⟨by decide, by decide⟩) (va_recv hK hP (ci := 0) (q0 := (4 * i)) rfl (wxl q ad z hi)) hE hP hS rfl hl.1 rfl (Nat.le_of_ble_eq_true rfl) dX2_countCost_47 ⟨Nat.zero_le _, Nat.zero_le _⟩ (fun r47 z47 H locs h hP hS => ?_)
    refine lv_imul hx hb dX2_countCost_50 ?_
    refine lv_iadd hx hb dX2_countCost_51 ?_
    refine g_put (D := D) (Wd := WX q ad) (z := z47) (ci := 2) (v := .int ((z.1 26 8) + (y0 * r47))) (ty := .int) (C := RX2) (T := TX2) (N := 13) hx hb ht tl_X2 tyX2 tyX2_ok nmX2 hown hK hP (hD z47) hS 26 (wx_26 q ad z47) rfl 8 (by decide) (ht _ tw_fl_X2_103) (fun _ h9 => h9) rfl rfl rfl rfl (Nat.le_of_ble_eq_true rfl) ((px_26_8 q ad z47) ((z.1 26 8) + (y0 * r47))) dX2_countCost_52 (fun z52 H locs hz52 hP hS => ?_)
    have h := h z52 hz52
    obtain ⟨x2_55, ex2_55⟩ : ∃ w : Int32, w = x2 + (1 : Int32) := ⟨_, rfl⟩
    have h := h x2_55 ex2_55
    refine lv_iinc (v := x2_55) (lv' := [(2, .int x2_55), (3, .int y0), (0, .ref (ad 26)), (1, .ref (ad (4 * i)))]) hx hb dX2_countCost_55 hl (k := 3) rfl (by rw [ex2_55]; rfl) (by decide) rfl (fun ls hl => ?_)
    refine lv_goto (tgt := 7) hx hb dX2_countCost_58 (by decide) ?_
    exact hrec7 z52 x2_55 _ _ _ h hP hS (lv_sub hl [2, 3, 0] rfl)
  have B7 : ∀ (rec7 : MX → Int32 → Prop) (hrec7 : ∀ (z : MX) (x2 : Int32) (H : Heap) (locs : List Loc) (ls : Array Slot), rec7 z x2 → va_P D vwCl (WX q ad z) H → va_S A s.heap H locs → lv_has ls 4 [(0, .ref (ad 26)), (1, .ref (ad (4 * i))), (2, .int x2)] → W p l e (headSpec (cW yX2_countCost cX2_countCost 4 none) ({ frames := 1, cells := 0, slots := 0, locals := 22 } : Room)).room s m args below meth c H locs 0 0 (MQ below (va_Qv post (gB D vwCl (WX q ad) (xE D q ad A)) A) args s 0 0 A) (F0 m 7 ls [])) (z : MX) (x2 : Int32) (H : Heap) (locs : List Loc) (ls : Array Slot), pX2_countCost_l7 i rec7 post z x2 → va_P D vwCl (WX q ad z) H → va_S A s.heap H locs → lv_has ls 4 [(0, .ref (ad 26)), (1, .ref (ad (4 * i))), (2, .int x2)] → W p l e (headSpec (cW yX2_countCost cX2_countCost 4 none) ({ frames := 1, cells := 0, slots := 0, locals := 22 } : Room)).room s m args below meth c H locs 0 0 (MQ below (va_Qv post (gB D vwCl (WX q ad) (xE D q ad A)) A) args s 0 0 A) (F0 m 7 ls []) := by
    intro rec7 hrec7 z x2 H locs ls h hP hS hl
    unfold pX2_countCost_l7 at h
    refine lv_iload_n hx hb dX2_countCost_7 rfl (lv_at hl 2 rfl) ?_
    refine lv_aload_n hx hb dX2_countCost_8 rfl (lv_at hl 1 rfl) ?_
    refine va_get (D := D) (ci := 0) (v := .int (z.1 (4 * i) 3)) (C := RX0) (T := TX0) (N := 7) hx hb ht tl_X0 hown hK hP (4 * i) (wxl q ad z hi) rfl 3 (by decide) (ht _ tw_fl_X2_27) (fun _ h9 => h9) rfl dX2_countCost_9 ?_
    refine lv_icmp_ge (tgt := 61) hx hb dX2_countCost_12 (by decide) (fun c12 => ?_) (fun c12 => ?_)
    · have h := h.1 c12
      exact g_rv hG hx hb hr hlocks hE hP hS h dX2_countCost_61
    · have h := h.2 c12
      refine lv_aload_n hx hb dX2_countCost_15 rfl (lv_at hl 0 rfl) ?_
      refine va_get (D := D) (ci := 2) (v := .ref (ad 29)) (C := RX2) (T := TX2) (N := 13) hx hb ht tl_X2 hown hK hP 26 (wx_26 q ad z) rfl 2 (by decide) (ht _ tw_fl_X2_18) (fun _ h9 => h9) rfl dX2_countCost_16 ?_
      refine lv_iload_n hx hb dX2_countCost_19 rfl (lv_at hl 2 rfl) ?_
      have hi20 := h.1
      have h := h.2
      refine va_iald hx hb hK hP 29 0 (wx_29 q ad z) rfl hi20 dX2_countCost_20 ?_
      refine lv_bipush (v := (-4 : Int32)) hx hb dX2_countCost_21 (by decide) ?_
      refine lv_icmp_ne (tgt := 31) hx hb dX2_countCost_23 (by decide) (fun c23 => ?_) (fun c23 => ?_)
      · have h := h.1 c23
        refine lv_aload_n hx hb dX2_countCost_31 rfl (lv_at hl 0 rfl) ?_
        refine va_get (D := D) (ci := 2) (v := .ref (ad 29)) (C := RX2) (T := TX2) (N := 13) hx hb ht tl_X2 hown hK hP 26 (wx_26 q ad z) rfl 2 (by decide) (ht _ tw_fl_X2_18) (fun _ h9 => h9) rfl dX2_countCost_32 ?_
        refine lv_iload_n hx hb dX2_countCost_35 rfl (lv_at hl 2 rfl) ?_
        have hi36 := h.1
        have h := h.2
        refine va_iald hx hb hK hP 29 0 (wx_29 q ad z) rfl hi36 dX2_countCost_36 ?_
        exact B37 rec7 hrec7 z x2 (z.1 29 (Int32.toNatClampNeg x2)) _ _ _ h hP hS (lv_sub hl [0, 1, 2] rfl)
      · have h := h.2 c23
        refine lv_bipush (v := (120 : Int32)) hx hb dX2_countCost_26 (by decide) ?_
        refine lv_goto (tgt := 37) hx hb dX2_countCost_28 (by decide) ?_
        exact B37 rec7 hrec7 z x2 (120 : Int32) _ _ _ h hP hS (lv_sub hl [0, 1, 2] rfl)
  have L7 : ∀ (n : Nat) (z : MX) (x2 : Int32) (H : Heap) (locs : List Loc) (ls : Array Slot), pX2_countCost_L7 i post n z x2 → va_P D vwCl (WX q ad z) H → va_S A s.heap H locs → lv_has ls 4 [(0, .ref (ad 26)), (1, .ref (ad (4 * i))), (2, .int x2)] → W p l e (headSpec (cW yX2_countCost cX2_countCost 4 none) ({ frames := 1, cells := 0, slots := 0, locals := 22 } : Room)).room s m args below meth c H locs 0 0 (MQ below (va_Qv post (gB D vwCl (WX q ad) (xE D q ad A)) A) args s 0 0 A) (F0 m 7 ls []) := by
    intro n
    induction n with
    | zero =>
      intro z x2 H locs ls h
      exact False.elim h
    | succ n ih =>
      intro z x2 H locs ls h hP hS hl
      exact B7 (pX2_countCost_L7 i post n) ih z x2 H locs ls h hP hS hl
  refine g_entry (vs := [.ref (ad 26), .ref (ad (4 * i))]) hargs (Nat.le_of_ble_eq_true rfl) (fun ls hl => ?_)
  have hl : lv_has ls 4 [(0, .ref (ad 26)), (1, .ref (ad (4 * i)))] := hl
  unfold pX2_countCost at h
  refine lv_aload_n hx hb dX2_countCost_0 rfl (lv_at hl 0 rfl) ?_
  refine lv_iconst (v := (0 : Int32)) hx hb dX2_countCost_1 (by decide) ?_
  refine g_put (D := D) (Wd := WX q ad) (z := z) (ci := 2) (v := .int (0 : Int32)) (ty := .int) (C := RX2) (T := TX2) (N := 13) hx hb ht tl_X2 tyX2 tyX2_ok nmX2 hown hK hP (hD z) hS 26 (wx_26 q ad z) rfl 8 (by decide) (ht _ tw_fl_X2_103) (fun _ h9 => h9) rfl rfl rfl rfl (Nat.le_of_ble_eq_true rfl) ((px_26_8 q ad z) (0 : Int32)) dX2_countCost_2 (fun z2 H locs hz2 hP hS => ?_)
  have h := h z2 hz2
  refine lv_iconst (v := (0 : Int32)) hx hb dX2_countCost_5 (by decide) ?_
  refine lv_istore_n (lv' := [(2, .int (0 : Int32)), (0, .ref (ad 26)), (1, .ref (ad (4 * i)))]) hx hb dX2_countCost_6 rfl hl (by decide) rfl (fun ls hl => ?_)
  obtain ⟨n, h⟩ := h
  exact L7 n z2 (0 : Int32) _ _ _ h hP hS (lv_sub hl [1, 2, 0] rfl)
def pX2_play_b106 (i : Nat) (post : MX → Prop) (z : MX) : Prop :=
    pX2_countCost i z (fun (z108 : MX) =>
    post z108)
def pX2_play_b99 (i : Nat) (rec8 : MX → Int32 → Int32 → Prop) (post : MX → Prop) (z : MX) (x3 : Int32) (y0 : Int32) : Prop :=
    ∀ x3_100 : Int32, x3_100 = x3 + (1 : Int32) →
    rec8 z y0 x3_100
def pX2_play_b94 (i : Nat) (rec8 : MX → Int32 → Int32 → Prop) (post : MX → Prop) (z : MX) (x3 : Int32) : Prop :=
    pX2_play_b99 i rec8 post z x3 (1 : Int32)
def pX2_play_b78 (i : Nat) (rec8 : MX → Int32 → Int32 → Prop) (post : MX → Prop) (z : MX) (x3 : Int32) (x4 : Int32) (x6 : Int32) : Prop :=
    ((x6 = x4 →
      pX2_play_b94 i rec8 post z x3) ∧
    (¬ x6 = x4 →
      (((z.1 26 5) = (-4 : Int32) →
        pX2_play_b99 i rec8 post z x3 (0 : Int32)) ∧
      (¬ (z.1 26 5) = (-4 : Int32) →
        pX2_play_b94 i rec8 post z x3))))
def pX2_play_l8 (i : Nat) (rec8 : MX → Int32 → Int32 → Prop) (post : MX → Prop) (z : MX) (x2 : Int32) (x3 : Int32) : Prop :=
    (((120 : Int32) ≤ x3 →
      pX2_play_b106 i post z) ∧
    (¬ (120 : Int32) ≤ x3 →
      ((¬ x2 = 0 →
        pX2_play_b106 i post z) ∧
      (x2 = 0 →
        ∀ x4_27 : Int32, x4_27 = (z.1 (4 * i) 3) - (z.1 26 9) →
        ∀ x5_33 : Int32, x5_33 = z.1 26 11 →
        pX2_playMinute i z x3 (fun (z38 : MX) =>
        ∀ z43 : MX, z43 = mw z38 26 4 x3 →
        ∀ x6_53 : Int32, x6_53 = (z43.1 26 11) - x5_33 →
        ((¬ x6_53 = x4_27 →
          pX2_play_b78 i rec8 post z43 x3 x4_27 x6_53) ∧
        (x6_53 = x4_27 →
          ∀ z75 : MX, z75 = mw z43 26 11 ((z43.1 26 11) + (x6_53 * ((119 : Int32) - x3))) →
          pX2_play_b78 i rec8 post z75 x3 x4_27 x6_53)))))))
def pX2_play_L8 (i : Nat) (post : MX → Prop) : Nat → MX → Int32 → Int32 → Prop
  | 0 => fun _ _ _ => False
  | n + 1 => fun z x2 x3 => pX2_play_l8 i (pX2_play_L8 i post n) post z x2 x3
def pX2_play (i : Nat) (z : MX) (post : MX → Prop) : Prop :=
  pX2_begin z (fun (z1 : MX) =>
  ∃ n, pX2_play_L8 i post n z1 (0 : Int32) (0 : Int32))
set_option maxHeartbeats 4000000 in
set_option maxRecDepth 100000 in
theorem kX2_play (l : Launch) (D : va_G) (q : Nat → ClassId) (ad : Nat → Nat) (A : Nat → Prop) (hD : ∀ z, va_D A (WX q ad z)) (i : Nat) (hi : i < 4) (z : MX) (post : MX → Prop) (h : pX2_play i z post) : Met l yX2_play (cW yX2_play cX2_play 7 none) ({ frames := 4, cells := 0, slots := 0, locals := 95 } : Room) (va_Pc [.ref (ad 26), .ref (ad (4 * i))] ((gB D vwCl (WX q ad) (xE D q ad A)) z)) (va_Qv post (gB D vwCl (WX q ad) (xE D q ad A)) A) 0 0 A := by
  refine Met.ofW (cc := cX2_play) (maxL := 7) (ret := none) (by decide) rfl ?_
  intro p e s m args below meth c s₁ B hml hv
  obtain ⟨hargs, hP, hE⟩ := hv
  have hx := B.exec
  have hb := B.bytes
  have hr := B.returns
  have hts := atoms_spec (ws := (cW yX2_play cX2_play 7 none)) B.pre
  have ht : ∀ w ∈ tG, w.before args s = true := fun w h => hts w (List.mem_cons_of_mem _ h)
  have hown : s.vm.findClass RX2 = some m.cls := findClass_of_methodNamed B.named
  have hlocks := B.notSynchronized
  have hK := hE.1
  have hG := xE_G D q ad A
  have S : CallFix p m c cX2_play 7 s args tG RX2 := ⟨hx, hb, hml, hown, ht⟩
  have hS : va_S A s.heap s.heap [] := va_S.rf
  have B106 : ∀ (z : MX) (H : Heap) (locs : List Loc) (ls : Array Slot), pX2_play_b106 i post z → va_P D vwCl (WX q ad z) H → va_S A s.heap H locs → lv_has ls 7 [(0, .ref (ad 26)), (1, .ref (ad (4 * i)))] → W p l e (headSpec (cW yX2_play cX2_play 7 none) ({ frames := 4, cells := 0, slots := 0, locals := 95 } : Room)).room s m args below meth c H locs 0 0 (MQ below (va_Qv post (gB D vwCl (WX q ad) (xE D q ad A)) A) args s 0 0 A) (F0 m 106 ls []) := by
    intro z H locs ls h hP hS hl
    unfold pX2_play_b106 at h
    refine lv_aload_n hx hb dX2_play_106 rfl (lv_at hl 0 rfl) ?_
    refine lv_aload_n hx hb dX2_play_107 rfl (lv_at hl 1 rfl) ?_
    refine g_cVv (Wd := WX q ad) (z := z) (As := [.ref (ad (4 * i))]) (rest := []) hG S (kX2_countCost l D q ad A hD i hi z _ h) (cwV 1 ht (cW_V (fun _ h => h) tw_co_X2_countCost tw_ml_X2_49 tw_im_X2_countCost tw_se_X2_countCost tw_in_X2) rfl rfl rfl (by decide +kernel) ⟨by decide, by decide⟩) (va_recv hK hP (ci := 2) (q0 := 26) rfl (wx_26 q ad z)) hE hP hS rfl hl.1 rfl (Nat.le_of_ble_eq_true rfl) dX2_play_108 ⟨Nat.zero_le _, Nat.zero_le _⟩ (fun z108 H locs h hP hS => ?_)
    exact g_rv hG hx hb hr hlocks hE hP hS h dX2_play_111
  have B99 : ∀ (rec8 : MX → Int32 → Int32 → Prop) (hrec8 : ∀ (z : MX) (x2 : Int32) (x3 : Int32) (H : Heap) (locs : List Loc) (ls : Array Slot), rec8 z x2 x3 → va_P D vwCl (WX q ad z) H → va_S A s.heap H locs → lv_has ls 7 [(0, .ref (ad 26)), (1, .ref (ad (4 * i))), (2, .int x2), (3, .int x3)] → W p l e (headSpec (cW yX2_play cX2_play 7 none) ({ frames := 4, cells := 0, slots := 0, locals := 95 } : Room)).room s m args below meth c H locs 0 0 (MQ below (va_Qv post (gB D vwCl (WX q ad) (xE D q ad A)) A) args s 0 0 A) (F0 m 8 ls [])) (z : MX) (x3 : Int32) (y0 : Int32) (H : Heap) (locs : List Loc) (ls : Array Slot), pX2_play_b99 i rec8 post z x3 y0 → va_P D vwCl (WX q ad z) H → va_S A s.heap H locs → lv_has ls 7 [(0, .ref (ad 26)), (1, .ref (ad (4 * i))), (3, .int x3)] → W p l e (headSpec (cW yX2_play cX2_play 7 none) ({ frames := 4, cells := 0, slots := 0, locals := 95 } : Room)).room s m args below meth c H locs 0 0 (MQ below (va_Qv post (gB D vwCl (WX q ad) (xE D q ad A)) A) args s 0 0 A) (F0 m 99 ls [.int y0]) := by
    intro rec8 hrec8 z x3 y0 H locs ls h hP hS hl
    unfold pX2_play_b99 at h
    refine lv_istore_n (lv' := [(2, .int y0), (0, .ref (ad 26)), (1, .ref (ad (4 * i))), (3, .int x3)]) hx hb dX2_play_99 rfl hl (by decide) rfl (fun ls hl => ?_)
    obtain ⟨x3_100, ex3_100⟩ : ∃ w : Int32, w = x3 + (1 : Int32) := ⟨_, rfl⟩
    have h := h x3_100 ex3_100
    refine lv_iinc (v := x3_100) (lv' := [(3, .int x3_100), (2, .int y0), (0, .ref (ad 26)), (1, .ref (ad (4 * i)))]) hx hb dX2_play_100 hl (k := 3) rfl (by rw [ex3_100]; rfl) (by decide) rfl (fun ls hl => ?_)
    refine lv_goto (tgt := 8) hx hb dX2_play_103 (by decide) ?_
    exact hrec8 z y0 x3_100 _ _ _ h hP hS (lv_sub hl [2, 3, 1, 0] rfl)
  have B94 : ∀ (rec8 : MX → Int32 → Int32 → Prop) (hrec8 : ∀ (z : MX) (x2 : Int32) (x3 : Int32) (H : Heap) (locs : List Loc) (ls : Array Slot), rec8 z x2 x3 → va_P D vwCl (WX q ad z) H → va_S A s.heap H locs → lv_has ls 7 [(0, .ref (ad 26)), (1, .ref (ad (4 * i))), (2, .int x2), (3, .int x3)] → W p l e (headSpec (cW yX2_play cX2_play 7 none) ({ frames := 4, cells := 0, slots := 0, locals := 95 } : Room)).room s m args below meth c H locs 0 0 (MQ below (va_Qv post (gB D vwCl (WX q ad) (xE D q ad A)) A) args s 0 0 A) (F0 m 8 ls [])) (z : MX) (x3 : Int32) (H : Heap) (locs : List Loc) (ls : Array Slot), pX2_play_b94 i rec8 post z x3 → va_P D vwCl (WX q ad z) H → va_S A s.heap H locs → lv_has ls 7 [(0, .ref (ad 26)), (1, .ref (ad (4 * i))), (3, .int x3)] → W p l e (headSpec (cW yX2_play cX2_play 7 none) ({ frames := 4, cells := 0, slots := 0, locals := 95 } : Room)).room s m args below meth c H locs 0 0 (MQ below (va_Qv post (gB D vwCl (WX q ad) (xE D q ad A)) A) args s 0 0 A) (F0 m 94 ls []) := by
    intro rec8 hrec8 z x3 H locs ls h hP hS hl
    unfold pX2_play_b94 at h
    refine lv_iconst (v := (1 : Int32)) hx hb dX2_play_94 (by decide) ?_
    refine lv_goto (tgt := 99) hx hb dX2_play_95 (by decide) ?_
    exact B99 rec8 hrec8 z x3 (1 : Int32) _ _ _ h hP hS (lv_sub hl [0, 1, 2] rfl)
  have B78 : ∀ (rec8 : MX → Int32 → Int32 → Prop) (hrec8 : ∀ (z : MX) (x2 : Int32) (x3 : Int32) (H : Heap) (locs : List Loc) (ls : Array Slot), rec8 z x2 x3 → va_P D vwCl (WX q ad z) H → va_S A s.heap H locs → lv_has ls 7 [(0, .ref (ad 26)), (1, .ref (ad (4 * i))), (2, .int x2), (3, .int x3)] → W p l e (headSpec (cW yX2_play cX2_play 7 none) ({ frames := 4, cells := 0, slots := 0, locals := 95 } : Room)).room s m args below meth c H locs 0 0 (MQ below (va_Qv post (gB D vwCl (WX q ad) (xE D q ad A)) A) args s 0 0 A) (F0 m 8 ls [])) (z : MX) (x3 : Int32) (x4 : Int32) (x6 : Int32) (H : Heap) (locs : List Loc) (ls : Array Slot), pX2_play_b78 i rec8 post z x3 x4 x6 → va_P D vwCl (WX q ad z) H → va_S A s.heap H locs → lv_has ls 7 [(0, .ref (ad 26)), (1, .ref (ad (4 * i))), (3, .int x3), (4, .int x4), (6, .int x6)] → W p l e (headSpec (cW yX2_play cX2_play 7 none) ({ frames := 4, cells := 0, slots := 0, locals := 95 } : Room)).room s m args below meth c H locs 0 0 (MQ below (va_Qv post (gB D vwCl (WX q ad) (xE D q ad A)) A) args s 0 0 A) (F0 m 78 ls []) := by
    intro rec8 hrec8 z x3 x4 x6 H locs ls h hP hS hl
    unfold pX2_play_b78 at h
    refine lv_iload hx hb dX2_play_78 (lv_at hl 4 rfl) ?_
    refine lv_iload hx hb dX2_play_80 (lv_at hl 3 rfl) ?_
    refine lv_icmp_eq (tgt := 94) hx hb dX2_play_82 (by decide) (fun c82 => ?_) (fun c82 => ?_)
    · have h := h.1 c82
      exact B94 rec8 hrec8 z x3 _ _ _ h hP hS (lv_sub hl [0, 1, 2] rfl)
    · have h := h.2 c82
      refine lv_aload_n hx hb dX2_play_85 rfl (lv_at hl 0 rfl) ?_
      refine va_get (D := D) (ci := 2) (v := .int (z.1 26 5)) (C := RX2) (T := TX2) (N := 13) hx hb ht tl_X2 hown hK hP 26 (wx_26 q ad z) rfl 5 (by decide) (ht _ tw_fl_X2_46) (fun _ h9 => h9) rfl dX2_play_86 ?_
      refine lv_bipush (v := (-4 : Int32)) hx hb dX2_play_89 (by decide) ?_
      refine lv_icmp_eq (tgt := 98) hx hb dX2_play_91 (by decide) (fun c91 => ?_) (fun c91 => ?_)
      · have h := h.1 c91
        refine lv_iconst (v := (0 : Int32)) hx hb dX2_play_98 (by decide) ?_
        exact B99 rec8 hrec8 z x3 (0 : Int32) _ _ _ h hP hS (lv_sub hl [0, 1, 2] rfl)
      · have h := h.2 c91
        exact B94 rec8 hrec8 z x3 _ _ _ h hP hS (lv_sub hl [0, 1, 2] rfl)
  have B8 : ∀ (rec8 : MX → Int32 → Int32 → Prop) (hrec8 : ∀ (z : MX) (x2 : Int32) (x3 : Int32) (H : Heap) (locs : List Loc) (ls : Array Slot), rec8 z x2 x3 → va_P D vwCl (WX q ad z) H → va_S A s.heap H locs → lv_has ls 7 [(0, .ref (ad 26)), (1, .ref (ad (4 * i))), (2, .int x2), (3, .int x3)] → W p l e (headSpec (cW yX2_play cX2_play 7 none) ({ frames := 4, cells := 0, slots := 0, locals := 95 } : Room)).room s m args below meth c H locs 0 0 (MQ below (va_Qv post (gB D vwCl (WX q ad) (xE D q ad A)) A) args s 0 0 A) (F0 m 8 ls [])) (z : MX) (x2 : Int32) (x3 : Int32) (H : Heap) (locs : List Loc) (ls : Array Slot), pX2_play_l8 i rec8 post z x2 x3 → va_P D vwCl (WX q ad z) H → va_S A s.heap H locs → lv_has ls 7 [(0, .ref (ad 26)), (1, .ref (ad (4 * i))), (2, .int x2), (3, .int x3)] → W p l e (headSpec (cW yX2_play cX2_play 7 none) ({ frames := 4, cells := 0, slots := 0, locals := 95 } : Room)).room s m args below meth c H locs 0 0 (MQ below (va_Qv post (gB D vwCl (WX q ad) (xE D q ad A)) A) args s 0 0 A) (F0 m 8 ls []) := by
    intro rec8 hrec8 z x2 x3 H locs ls h hP hS hl
    unfold pX2_play_l8 at h
    refine lv_iload_n hx hb dX2_play_8 rfl (lv_at hl 3 rfl) ?_
    refine lv_bipush (v := (120 : Int32)) hx hb dX2_play_9 (by decide) ?_
    refine lv_icmp_ge (tgt := 106) hx hb dX2_play_11 (by decide) (fun c11 => ?_) (fun c11 => ?_)
    · have h := h.1 c11
      exact B106 z _ _ _ h hP hS (lv_sub hl [0, 1] rfl)
    · have h := h.2 c11
      refine lv_iload_n hx hb dX2_play_14 rfl (lv_at hl 2 rfl) ?_
      refine lv_if_ne (tgt := 106) hx hb dX2_play_15 (by decide) (fun c15 => ?_) (fun c15 => ?_)
      · have h := h.1 c15
        exact B106 z _ _ _ h hP hS (lv_sub hl [0, 1] rfl)
      · have h := h.2 c15
        refine lv_aload_n hx hb dX2_play_18 rfl (lv_at hl 1 rfl) ?_
        refine va_get (D := D) (ci := 0) (v := .int (z.1 (4 * i) 3)) (C := RX0) (T := TX0) (N := 7) hx hb ht tl_X0 hown hK hP (4 * i) (wxl q ad z hi) rfl 3 (by decide) (ht _ tw_fl_X2_27) (fun _ h9 => h9) rfl dX2_play_19 ?_
        refine lv_aload_n hx hb dX2_play_22 rfl (lv_at hl 0 rfl) ?_
        refine va_get (D := D) (ci := 2) (v := .int (z.1 26 9)) (C := RX2) (T := TX2) (N := 13) hx hb ht tl_X2 hown hK hP 26 (wx_26 q ad z) rfl 9 (by decide) (ht _ tw_fl_X2_33) (fun _ h9 => h9) rfl dX2_play_23 ?_
        refine lv_isub hx hb dX2_play_26 ?_
        refine lv_topi (fun x4_27 ex4_27 => ?_)
        have h := h x4_27 ex4_27
        refine lv_istore (lv' := [(4, .int x4_27), (0, .ref (ad 26)), (1, .ref (ad (4 * i))), (2, .int x2), (3, .int x3)]) hx hb dX2_play_27 hl (by decide) rfl (fun ls hl => ?_)
        refine lv_aload_n hx hb dX2_play_29 rfl (lv_at hl 1 rfl) ?_
        refine va_get (D := D) (ci := 2) (v := .int (z.1 26 11)) (C := RX2) (T := TX2) (N := 13) hx hb ht tl_X2 hown hK hP 26 (wx_26 q ad z) rfl 11 (by decide) (ht _ tw_fl_X2_36) (fun _ h9 => h9) rfl dX2_play_30 ?_
        refine lv_topi (fun x5_33 ex5_33 => ?_)
        have h := h x5_33 ex5_33
        refine lv_istore (lv' := [(5, .int x5_33), (4, .int x4_27), (0, .ref (ad 26)), (1, .ref (ad (4 * i))), (2, .int x2), (3, .int x3)]) hx hb dX2_play_33 hl (by decide) rfl (fun ls hl => ?_)
        refine lv_aload_n hx hb dX2_play_35 rfl (lv_at hl 2 rfl) ?_
        refine lv_aload_n hx hb dX2_play_36 rfl (lv_at hl 3 rfl) ?_
        refine lv_iload_n hx hb dX2_play_37 rfl (lv_at hl 5 rfl) ?_
        refine g_cVv (Wd := WX q ad) (z := z) (As := [.ref (ad (4 * i)), .int x3]) (rest := []) hG S (kX2_playMinute l D q ad A hD i hi z x3 _ h) (cwV 2 ht (cW_V (fun _ h => h) tw_co_X2_playMinute tw_ml_X2_39 tw_im_X2_playMinute tw_se_X2_playMinute tw_in_X2) rfl rfl rfl (by decide +kernel) ⟨by decide, by decide⟩) (va_recv hK hP (ci := 2) (q0 := 26) rfl (wx_26 q ad z)) hE hP hS rfl hl.1 rfl (Nat.le_of_ble_eq_true rfl) dX2_play_38 ⟨Nat.zero_le _, Nat.zero_le _⟩ (fun z38 H locs h hP hS => ?_)
        refine lv_aload_n hx hb dX2_play_41 rfl (lv_at hl 2 rfl) ?_
        refine lv_iload_n hx hb dX2_play_42 rfl (lv_at hl 5 rfl) ?_
        refine g_put (D := D) (Wd := WX q ad) (z := z38) (ci := 2) (v := .int x3) (ty := .int) (C := RX2) (T := TX2) (N := 13) hx hb ht tl_X2 tyX2 tyX2_ok nmX2 hown hK hP (hD z38) hS 26 (wx_26 q ad z38) rfl 4 (by decide) (ht _ tw_fl_X2_43) (fun _ h9 => h9) rfl rfl rfl rfl (Nat.le_of_ble_eq_true rfl) ((px_26_4 q ad z38) x3) dX2_play_43 (fun z43 H locs hz43 hP hS => ?_)
        have h := h z43 hz43
        refine lv_aload_n hx hb dX2_play_46 rfl (lv_at hl 2 rfl) ?_
        refine va_get (D := D) (ci := 2) (v := .int (z43.1 26 11)) (C := RX2) (T := TX2) (N := 13) hx hb ht tl_X2 hown hK hP 26 (wx_26 q ad z43) rfl 11 (by decide) (ht _ tw_fl_X2_36) (fun _ h9 => h9) rfl dX2_play_47 ?_
        refine lv_iload hx hb dX2_play_50 (lv_at hl 0 rfl) ?_
        refine lv_isub hx hb dX2_play_52 ?_
        refine lv_topi (fun x6_53 ex6_53 => ?_)
        have h := h x6_53 ex6_53
        refine lv_istore (lv' := [(6, .int x6_53), (5, .int x5_33), (4, .int x4_27), (0, .ref (ad 26)), (1, .ref (ad (4 * i))), (2, .int x2), (3, .int x3)]) hx hb dX2_play_53 hl (by decide) rfl (fun ls hl => ?_)
        refine lv_iload hx hb dX2_play_55 (lv_at hl 0 rfl) ?_
        refine lv_iload hx hb dX2_play_57 (lv_at hl 2 rfl) ?_
        refine lv_icmp_ne (tgt := 78) hx hb dX2_play_59 (by decide) (fun c59 => ?_) (fun c59 => ?_)
        · have h := h.1 c59
          exact B78 rec8 hrec8 z43 x3 x4_27 x6_53 _ _ _ h hP hS (lv_sub hl [3, 4, 6, 2, 0] rfl)
        · have h := h.2 c59
          refine lv_aload_n hx hb dX2_play_62 rfl (lv_at hl 3 rfl) ?_
          refine lv_dup hx hb dX2_play_63 rfl ?_
          refine va_get (D := D) (ci := 2) (v := .int (z43.1 26 11)) (C := RX2) (T := TX2) (N := 13) hx hb ht tl_X2 hown hK hP 26 (wx_26 q ad z43) rfl 11 (by decide) (ht _ tw_fl_X2_36) (fun _ h9 => h9) rfl dX2_play_64 ?_
          refine lv_iload hx hb dX2_play_67 (lv_at hl 0 rfl) ?_
          refine lv_bipush (v := (119 : Int32)) hx hb dX2_play_69 (by decide) ?_
          refine lv_iload_n hx hb dX2_play_71 rfl (lv_at hl 6 rfl) ?_
          refine lv_isub hx hb dX2_play_72 ?_
          refine lv_imul hx hb dX2_play_73 ?_
          refine lv_iadd hx hb dX2_play_74 ?_
          refine g_put (D := D) (Wd := WX q ad) (z := z43) (ci := 2) (v := .int ((z43.1 26 11) + (x6_53 * ((119 : Int32) - x3)))) (ty := .int) (C := RX2) (T := TX2) (N := 13) hx hb ht tl_X2 tyX2 tyX2_ok nmX2 hown hK hP (hD z43) hS 26 (wx_26 q ad z43) rfl 11 (by decide) (ht _ tw_fl_X2_36) (fun _ h9 => h9) rfl rfl rfl rfl (Nat.le_of_ble_eq_true rfl) ((px_26_11 q ad z43) ((z43.1 26 11) + (x6_53 * ((119 : Int32) - x3)))) dX2_play_75 (fun z75 H locs hz75 hP hS => ?_)
          have h := h z75 hz75
          exact B78 rec8 hrec8 z75 x3 x4_27 x6_53 _ _ _ h hP hS (lv_sub hl [3, 4, 6, 2, 0] rfl)
  have L8 : ∀ (n : Nat) (z : MX) (x2 : Int32) (x3 : Int32) (H : Heap) (locs : List Loc) (ls : Array Slot), pX2_play_L8 i post n z x2 x3 → va_P D vwCl (WX q ad z) H → va_S A s.heap H locs → lv_has ls 7 [(0, .ref (ad 26)), (1, .ref (ad (4 * i))), (2, .int x2), (3, .int x3)] → W p l e (headSpec (cW yX2_play cX2_play 7 none) ({ frames := 4, cells := 0, slots := 0, locals := 95 } : Room)).room s m args below meth c H locs 0 0 (MQ below (va_Qv post (gB D vwCl (WX q ad) (xE D q ad A)) A) args s 0 0 A) (F0 m 8 ls []) := by
    intro n
    induction n with
    | zero =>
      intro z x2 x3 H locs ls h
      exact False.elim h
    | succ n ih =>
      intro z x2 x3 H locs ls h hP hS hl
      exact B8 (pX2_play_L8 i post n) ih z x2 x3 H locs ls h hP hS hl
  refine g_entry (vs := [.ref (ad 26), .ref (ad (4 * i))]) hargs (Nat.le_of_ble_eq_true rfl) (fun ls hl => ?_)
  have hl : lv_has ls 7 [(0, .ref (ad 26)), (1, .ref (ad (4 * i)))] := hl
  unfold pX2_play at h
  refine lv_aload_n hx hb dX2_play_0 rfl (lv_at hl 0 rfl) ?_
  refine g_cVv (Wd := WX q ad) (z := z) (As := []) (rest := []) hG S (kX2_begin l D q ad A hD z _ h) (cwV 0 ht (cW_V (fun _ h => h) tw_co_X2_begin tw_ml_X2_24 tw_im_X2_begin tw_se_X2_begin tw_in_X2) rfl rfl rfl (by decide +kernel) ⟨by decide, by decide⟩) (va_recv hK hP (ci := 2) (q0 := 26) rfl (wx_26 q ad z)) hE hP hS rfl hl.1 rfl (Nat.le_of_ble_eq_true rfl) dX2_play_1 ⟨Nat.zero_le _, Nat.zero_le _⟩ (fun z1 H locs h hP hS => ?_)
  refine lv_iconst (v := (0 : Int32)) hx hb dX2_play_4 (by decide) ?_
  refine lv_istore_n (lv' := [(2, .int (0 : Int32)), (0, .ref (ad 26)), (1, .ref (ad (4 * i)))]) hx hb dX2_play_5 rfl hl (by decide) rfl (fun ls hl => ?_)
  refine lv_iconst (v := (0 : Int32)) hx hb dX2_play_6 (by decide) ?_
  refine lv_istore_n (lv' := [(3, .int (0 : Int32)), (2, .int (0 : Int32)), (0, .ref (ad 26)), (1, .ref (ad (4 * i)))]) hx hb dX2_play_7 rfl hl (by decide) rfl (fun ls hl => ?_)
  obtain ⟨n, h⟩ := h
  exact L8 n z1 (0 : Int32) (0 : Int32) _ _ _ h hP hS (lv_sub hl [2, 3, 1, 0] rfl)
def pX2_spotBehind (z : MX) (x1 : Int32) (x2 : Int32) (post : Int32 → MX → Prop) : Prop :=
  vp_in ((x1 * (120 : Int32)) + (if (z.1 26 4) < x2 then (z.1 26 4) else x2)) 480 ∧
  post (z.1 30 (Int32.toNatClampNeg ((x1 * (120 : Int32)) + (if (z.1 26 4) < x2 then (z.1 26 4) else x2)))) z
set_option maxHeartbeats 4000000 in
set_option maxRecDepth 100000 in
theorem kX2_spotBehind (l : Launch) (D : va_G) (q : Nat → ClassId) (ad : Nat → Nat) (A : Nat → Prop) (hD : ∀ z, va_D A (WX q ad z)) (z : MX) (x1 : Int32) (x2 : Int32) (post : Int32 → MX → Prop) (h : pX2_spotBehind  z x1 x2 post) : Met l yX2_spotBehind (cW yX2_spotBehind cX2_spotBehind 3 (some .int)) ({ frames := 1, cells := 0, slots := 0, locals := 21 } : Room) (va_Pc [.ref (ad 26), .int x1, .int x2] ((gB D vwCl (WX q ad) (xE D q ad A)) z)) (va_Qi post (gB D vwCl (WX q ad) (xE D q ad A)) A) 0 0 A := by
  refine Met.ofW (cc := cX2_spotBehind) (maxL := 3) (ret := (some .int)) (by decide) rfl ?_
  intro p e s m args below meth c s₁ B hml hv
  obtain ⟨hargs, hP, hE⟩ := hv
  have hx := B.exec
  have hb := B.bytes
  have hr := B.returns
  have hts := atoms_spec (ws := (cW yX2_spotBehind cX2_spotBehind 3 (some .int))) B.pre
  have ht : ∀ w ∈ tG, w.before args s = true := fun w h => hts w (List.mem_cons_of_mem _ h)
  have hown : s.vm.findClass RX2 = some m.cls := findClass_of_methodNamed B.named
  have hlocks := B.notSynchronized
  have hK := hE.1
  have hG := xE_G D q ad A
  have S : CallFix p m c cX2_spotBehind 3 s args tG RX2 := ⟨hx, hb, hml, hown, ht⟩
  have hS : va_S A s.heap s.heap [] := va_S.rf
  refine g_entry (vs := [.ref (ad 26), .int x1, .int x2]) hargs (Nat.le_of_ble_eq_true rfl) (fun ls hl => ?_)
  have hl : lv_has ls 3 [(0, .ref (ad 26)), (1, .int x1), (2, .int x2)] := hl
  unfold pX2_spotBehind at h
  refine lv_aload_n hx hb dX2_spotBehind_0 rfl (lv_at hl 0 rfl) ?_
  refine va_get (D := D) (ci := 2) (v := .ref (ad 30)) (C := RX2) (T := TX2) (N := 13) hx hb ht tl_X2 hown hK hP 26 (wx_26 q ad z) rfl 3 (by decide) (ht _ tw_fl_X2_21) (fun _ h9 => h9) rfl dX2_spotBehind_1 ?_
  refine lv_iload_n hx hb dX2_spotBehind_4 rfl (lv_at hl 1 rfl) ?_
  refine lv_bipush (v := (120 : Int32)) hx hb dX2_spotBehind_5 (by decide) ?_
  refine lv_imul hx hb dX2_spotBehind_7 ?_
  refine lv_iload_n hx hb dX2_spotBehind_8 rfl (lv_at hl 2 rfl) ?_
  refine lv_aload_n hx hb dX2_spotBehind_9 rfl (lv_at hl 0 rfl) ?_
  refine va_get (D := D) (ci := 2) (v := .int (z.1 26 4)) (C := RX2) (T := TX2) (N := 13) hx hb ht tl_X2 hown hK hP 26 (wx_26 q ad z) rfl 4 (by decide) (ht _ tw_fl_X2_43) (fun _ h9 => h9) rfl dX2_spotBehind_10 ?_
  refine va_mmin hx hb (by rw [hml]; exact hl.1.symm) hown (ht _ tw_ml_X2_106) (ht _ tw_st_J9_min_7cf53) (ht _ tw_in_J9) (ht _ tw_co_J9_min_7cf53) (Nat.le_of_ble_eq_true rfl) (Nat.le_of_ble_eq_true rfl) (Nat.zero_le _) (Nat.zero_le _) dX2_spotBehind_13 ?_
  refine lv_iadd hx hb dX2_spotBehind_16 ?_
  have hi17 := h.1
  have h := h.2
  refine va_iald hx hb hK hP 30 0 (wx_30 q ad z) rfl hi17 dX2_spotBehind_17 ?_
  exact g_ri hG hx hb hr hlocks hE hP hS h dX2_spotBehind_18
