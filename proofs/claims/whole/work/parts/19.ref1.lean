def pX8_in (z : MX) (x0 : Int64) (x2 : Int64) (x4 : Int64) (post : Int32 → MX → Prop) : Prop :=
  (((lg_cmp x0 x2) < 0 →
    (((0 : Int32) = 0 ∨ (0 : Int32) = 1) ∧ post (0 : Int32) z)) ∧
  (¬ (lg_cmp x0 x2) < 0 →
    ((0 < (lg_cmp x0 x4) →
      (((0 : Int32) = 0 ∨ (0 : Int32) = 1) ∧ post (0 : Int32) z)) ∧
    (¬ 0 < (lg_cmp x0 x4) →
      (((1 : Int32) = 0 ∨ (1 : Int32) = 1) ∧ post (1 : Int32) z)))))
set_option maxHeartbeats 4000000 in
set_option maxRecDepth 100000 in
theorem kX8_in (l : Launch) (D : va_G) (q : Nat → ClassId) (ad : Nat → Nat) (A : Nat → Prop) (hD : ∀ z, va_D A (WM q ad z)) (z : MX) (x0 : Int64) (x2 : Int64) (x4 : Int64) (post : Int32 → MX → Prop) (h : pX8_in  z x0 x2 x4 post) : Met l yX8_in (cW yX8_in cX8_in 6 (some .boolean)) ({ frames := 0, cells := 0, slots := 0, locals := 0 } : Room) (va_Pc [.long x0, .long x2, .long x4] ((gB D vwCl (WM q ad) (mE D q)) z)) (va_Qi post (gB D vwCl (WM q ad) (mE D q)) A) 0 0 A := by
  refine Met.ofW (cc := cX8_in) (maxL := 6) (ret := (some .boolean)) (by decide) rfl ?_
  intro p e s m args below meth c s₁ B hml hv
  obtain ⟨hargs, hP, hE⟩ := hv
  have hx := B.exec
  have hb := B.bytes
  have hr := B.returns
  have hts := atoms_spec (ws := (cW yX8_in cX8_in 6 (some .boolean))) B.pre
  have ht : ∀ w ∈ tG, w.before args s = true := fun w h => hts w (List.mem_cons_of_mem _ h)
  have hown : s.vm.findClass RX8 = some m.cls := findClass_of_methodNamed B.named
  have hlocks := B.notSynchronized
  have hK := hE.1
  have hG := mE_G D q A
  have S : CallFix p m c cX8_in 6 s args tG RX8 := ⟨hx, hb, hml, hown, ht⟩
  have hS : va_S A s.heap s.heap [] := va_S.rf
  refine g_entry (vs := [.long x0, .long x2, .long x4]) hargs (Nat.le_of_ble_eq_true rfl) (fun ls hl => ?_)
  have hl : lv_has ls 6 [(0, .long x0), (2, .long x2), (4, .long x4)] := hl
  unfold pX8_in at h
  refine lv_lload_n hx hb dX8_in_0 rfl (lv_at hl 0 rfl) ?_
  refine lv_lload_n hx hb dX8_in_1 rfl (lv_at hl 1 rfl) ?_
  refine W.lcmp hx hb dX8_in_2 ?_
  refine lv_if_lt (tgt := 17) hx hb dX8_in_3 (by decide) (fun c3 => ?_) (fun c3 => ?_)
  · have h := h.1 c3
    refine lv_iconst (v := (0 : Int32)) hx hb dX8_in_17 (by decide) ?_
    exact g_rz hG hx hb hr hlocks hE hP hS h dX8_in_18
  · have h := h.2 c3
    refine lv_lload_n hx hb dX8_in_6 rfl (lv_at hl 0 rfl) ?_
    refine lv_lload hx hb dX8_in_7 (lv_at hl 2 rfl) ?_
    refine W.lcmp hx hb dX8_in_9 ?_
    refine lv_if_gt (tgt := 17) hx hb dX8_in_10 (by decide) (fun c10 => ?_) (fun c10 => ?_)
    · have h := h.1 c10
      refine lv_iconst (v := (0 : Int32)) hx hb dX8_in_17 (by decide) ?_
      exact g_rz hG hx hb hr hlocks hE hP hS h dX8_in_18
    · have h := h.2 c10
      refine lv_iconst (v := (1 : Int32)) hx hb dX8_in_13 (by decide) ?_
      refine lv_goto (tgt := 18) hx hb dX8_in_14 (by decide) ?_
      exact g_rz hG hx hb hr hlocks hE hP hS h dX8_in_18
def pX8_feed (z : MX) (x1 : Int32) (post : Int32 → MX → Prop) : Prop :=
  pX8_in z (Int32.toInt64 x1) (0 : Int64) (127 : Int64) (fun (r6 : Int32) (z6 : MX) =>
  ((¬ r6 = 0 →
    ((¬ (z6.1 0 15) = (160 : Int32) →
      vp_in (z6.1 0 15) 160 ∧
      ∀ z36 : MX, z36 = mw z6 6 (Int32.toNatClampNeg (z6.1 0 15)) x1 →
      ∀ z44 : MX, z44 = mw z36 0 15 ((z36.1 0 15) + (1 : Int32)) →
      post (z44.1 0 15) z44) ∧
    ((z6.1 0 15) = (160 : Int32) →
      post (-3 : Int32) z6))) ∧
  (r6 = 0 →
    post (-1 : Int32) z6)))
set_option maxHeartbeats 4000000 in
set_option maxRecDepth 100000 in
theorem kX8_feed (l : Launch) (D : va_G) (q : Nat → ClassId) (ad : Nat → Nat) (A : Nat → Prop) (hD : ∀ z, va_D A (WM q ad z)) (z : MX) (x1 : Int32) (post : Int32 → MX → Prop) (h : pX8_feed  z x1 post) : Met l yX8_feed (cW yX8_feed cX8_feed 2 (some .int)) ({ frames := 1, cells := 0, slots := 0, locals := 25 } : Room) (va_Pc [.ref (ad 0), .int x1] ((gB D vwCl (WM q ad) (mE D q)) z)) (va_Qi post (gB D vwCl (WM q ad) (mE D q)) A) 0 0 A := by
  refine Met.ofW (cc := cX8_feed) (maxL := 2) (ret := (some .int)) (by decide) rfl ?_
  intro p e s m args below meth c s₁ B hml hv
  obtain ⟨hargs, hP, hE⟩ := hv
  have hx := B.exec
  have hb := B.bytes
  have hr := B.returns
  have hts := atoms_spec (ws := (cW yX8_feed cX8_feed 2 (some .int))) B.pre
  have ht : ∀ w ∈ tG, w.before args s = true := fun w h => hts w (List.mem_cons_of_mem _ h)
  have hown : s.vm.findClass RX8 = some m.cls := findClass_of_methodNamed B.named
  have hlocks := B.notSynchronized
  have hK := hE.1
  have hG := mE_G D q A
  have S : CallFix p m c cX8_feed 2 s args tG RX8 := ⟨hx, hb, hml, hown, ht⟩
  have hS : va_S A s.heap s.heap [] := va_S.rf
  refine g_entry (vs := [.ref (ad 0), .int x1]) hargs (Nat.le_of_ble_eq_true rfl) (fun ls hl => ?_)
  have hl : lv_has ls 2 [(0, .ref (ad 0)), (1, .int x1)] := hl
  unfold pX8_feed at h
  refine lv_iload_n hx hb dX8_feed_0 rfl (lv_at hl 1 rfl) ?_
  refine lv_i2l hx hb dX8_feed_1 rfl ?_
  refine lv_lconst (v := (0 : Int64)) hx hb dX8_feed_2 (by decide) ?_
  refine lv_ldc2 (v := (127 : Int64)) hx hb hown (ht _ tw_cn_X8_72) dX8_feed_3 ?_
  refine g_cSi (Wd := WM q ad) (z := z) (As := [.long (Int32.toInt64 x1), .long (0 : Int64), .long (127 : Int64)]) (rest := []) hG S (kX8_in l D q ad A hD z (Int32.toInt64 x1) (0 : Int64) (127 : Int64) _ h) (va_cwS 3 ht (cW_S (fun _ h => h) tw_co_X8_in tw_ml_X8_74 tw_st_X8_in tw_in_X8) rfl rfl rfl (by decide +kernel) ⟨by decide, by decide⟩) hE hP hS rfl hl.1 rfl (Nat.le_of_ble_eq_true rfl) dX8_feed_6 ⟨Nat.zero_le _, Nat.zero_le _⟩ (fun r6 z6 H locs h hP hS => ?_)
  refine lv_if_ne (tgt := 14) hx hb dX8_feed_9 (by decide) (fun c9 => ?_) (fun c9 => ?_)
  · have h := h.1 c9
    refine lv_aload_n hx hb dX8_feed_14 rfl (lv_at hl 0 rfl) ?_
    refine va_get (D := D) (ci := 8) (v := .int (z6.1 0 15)) (C := RX8) (T := TX8) (N := 45) hx hb ht tl_X8 hown hK hP 0 (wm_0 q ad z6) rfl 15 (by decide) (ht _ tw_fl_X8_78) (fun _ h9 => h9) rfl dX8_feed_15 ?_
    refine lv_sipush (v := (160 : Int32)) hx hb dX8_feed_18 (by decide) ?_
    refine lv_icmp_ne (tgt := 27) hx hb dX8_feed_21 (by decide) (fun c21 => ?_) (fun c21 => ?_)
    · have h := h.1 c21
      refine lv_aload_n hx hb dX8_feed_27 rfl (lv_at hl 0 rfl) ?_
      refine va_get (D := D) (ci := 8) (v := .ref (ad 6)) (C := RX8) (T := TX8) (N := 45) hx hb ht tl_X8 hown hK hP 0 (wm_0 q ad z6) rfl 14 (by decide) (ht _ tw_fl_X8_29) (fun _ h9 => h9) rfl dX8_feed_28 ?_
      refine lv_aload_n hx hb dX8_feed_31 rfl (lv_at hl 0 rfl) ?_
      refine va_get (D := D) (ci := 8) (v := .int (z6.1 0 15)) (C := RX8) (T := TX8) (N := 45) hx hb ht tl_X8 hown hK hP 0 (wm_0 q ad z6) rfl 15 (by decide) (ht _ tw_fl_X8_78) (fun _ h9 => h9) rfl dX8_feed_32 ?_
      refine lv_iload_n hx hb dX8_feed_35 rfl (lv_at hl 1 rfl) ?_
      have hi36 := h.1
      have h := h.2
      refine g_iast (Wd := WM q ad) (z := z6) hx hb hK hP (hD z6) hS 6 (wm_6 q ad z6) rfl (am_6 q ad z6) hi36 dX8_feed_36 (fun z36 H locs hz36 hP hS => ?_)
      have h := h z36 hz36
      refine lv_aload_n hx hb dX8_feed_37 rfl (lv_at hl 0 rfl) ?_
      refine lv_dup hx hb dX8_feed_38 rfl ?_
      refine va_get (D := D) (ci := 8) (v := .int (z36.1 0 15)) (C := RX8) (T := TX8) (N := 45) hx hb ht tl_X8 hown hK hP 0 (wm_0 q ad z36) rfl 15 (by decide) (ht _ tw_fl_X8_78) (fun _ h9 => h9) rfl dX8_feed_39 ?_
      refine lv_iconst (v := (1 : Int32)) hx hb dX8_feed_42 (by decide) ?_
      refine lv_iadd hx hb dX8_feed_43 ?_
      refine g_put (D := D) (Wd := WM q ad) (z := z36) (ci := 8) (v := .int ((z36.1 0 15) + (1 : Int32))) (ty := .int) (C := RX8) (T := TX8) (N := 45) hx hb ht tl_X8 tyX8 tyX8_ok nmX8 hown hK hP (hD z36) hS 0 (wm_0 q ad z36) rfl 15 (by decide) (ht _ tw_fl_X8_78) (fun _ h9 => h9) rfl rfl rfl rfl (Nat.le_of_ble_eq_true rfl) ((pm_0_15 q ad z36) ((z36.1 0 15) + (1 : Int32))) dX8_feed_44 (fun z44 H locs hz44 hP hS => ?_)
      have h := h z44 hz44
      refine lv_aload_n hx hb dX8_feed_47 rfl (lv_at hl 0 rfl) ?_
      refine va_get (D := D) (ci := 8) (v := .int (z44.1 0 15)) (C := RX8) (T := TX8) (N := 45) hx hb ht tl_X8 hown hK hP 0 (wm_0 q ad z44) rfl 15 (by decide) (ht _ tw_fl_X8_78) (fun _ h9 => h9) rfl dX8_feed_48 ?_
      exact g_ri hG hx hb hr hlocks hE hP hS h dX8_feed_51
    · have h := h.2 c21
      refine lv_bipush (v := (-3 : Int32)) hx hb dX8_feed_24 (by decide) ?_
      exact g_ri hG hx hb hr hlocks hE hP hS h dX8_feed_26
  · have h := h.2 c9
    refine lv_iconst (v := (-1 : Int32)) hx hb dX8_feed_12 (by decide) ?_
    exact g_ri hG hx hb hr hlocks hE hP hS h dX8_feed_13
def pX8_end (z : MX) (x1 : Int32) (post : Int32 → MX → Prop) : Prop :=
  pX8_in z (Int32.toInt64 x1) (0 : Int64) (Int32.toInt64 (z.1 0 15)) (fun (r8 : Int32) (z8 : MX) =>
  ((¬ r8 = 0 →
    ∀ x2_20 : Int32, x2_20 = z8.1 0 15 →
    ∀ z23 : MX, z23 = mw z8 0 15 x1 →
    post x2_20 z23) ∧
  (r8 = 0 →
    post (-1 : Int32) z8)))
set_option maxHeartbeats 4000000 in
set_option maxRecDepth 100000 in
theorem kX8_end (l : Launch) (D : va_G) (q : Nat → ClassId) (ad : Nat → Nat) (A : Nat → Prop) (hD : ∀ z, va_D A (WM q ad z)) (z : MX) (x1 : Int32) (post : Int32 → MX → Prop) (h : pX8_end  z x1 post) : Met l yX8_end (cW yX8_end cX8_end 3 (some .int)) ({ frames := 1, cells := 0, slots := 0, locals := 25 } : Room) (va_Pc [.ref (ad 0), .int x1] ((gB D vwCl (WM q ad) (mE D q)) z)) (va_Qi post (gB D vwCl (WM q ad) (mE D q)) A) 0 0 A := by
  refine Met.ofW (cc := cX8_end) (maxL := 3) (ret := (some .int)) (by decide) rfl ?_
  intro p e s m args below meth c s₁ B hml hv
  obtain ⟨hargs, hP, hE⟩ := hv
  have hx := B.exec
  have hb := B.bytes
  have hr := B.returns
  have hts := atoms_spec (ws := (cW yX8_end cX8_end 3 (some .int))) B.pre
  have ht : ∀ w ∈ tG, w.before args s = true := fun w h => hts w (List.mem_cons_of_mem _ h)
  have hown : s.vm.findClass RX8 = some m.cls := findClass_of_methodNamed B.named
  have hlocks := B.notSynchronized
  have hK := hE.1
  have hG := mE_G D q A
  have S : CallFix p m c cX8_end 3 s args tG RX8 := ⟨hx, hb, hml, hown, ht⟩
  have hS : va_S A s.heap s.heap [] := va_S.rf
  refine g_entry (vs := [.ref (ad 0), .int x1]) hargs (Nat.le_of_ble_eq_true rfl) (fun ls hl => ?_)
  have hl : lv_has ls 3 [(0, .ref (ad 0)), (1, .int x1)] := hl
  unfold pX8_end at h
  refine lv_iload_n hx hb dX8_end_0 rfl (lv_at hl 1 rfl) ?_
  refine lv_i2l hx hb dX8_end_1 rfl ?_
  refine lv_lconst (v := (0 : Int64)) hx hb dX8_end_2 (by decide) ?_
  refine lv_aload_n hx hb dX8_end_3 rfl (lv_at hl 0 rfl) ?_
  refine va_get (D := D) (ci := 8) (v := .int (z.1 0 15)) (C := RX8) (T := TX8) (N := 45) hx hb ht tl_X8 hown hK hP 0 (wm_0 q ad z) rfl 15 (by decide) (ht _ tw_fl_X8_78) (fun _ h9 => h9) rfl dX8_end_4 ?_
  refine lv_i2l hx hb dX8_end_7 rfl ?_
  refine g_cSi (Wd := WM q ad) (z := z) (As := [.long (Int32.toInt64 x1), .long (0 : Int64), .long (Int32.toInt64 (z.1 0 15))]) (rest := []) hG S (kX8_in l D q ad A hD z (Int32.toInt64 x1) (0 : Int64) (Int32.toInt64 (z.1 0 15)) _ h) (va_cwS 3 ht (cW_S (fun _ h => h) tw_co_X8_in tw_ml_X8_74 tw_st_X8_in tw_in_X8) rfl rfl rfl (by decide +kernel) ⟨by decide, by decide⟩) hE hP hS rfl hl.1 rfl (Nat.le_of_ble_eq_true rfl) dX8_end_8 ⟨Nat.zero_le _, Nat.zero_le _⟩ (fun r8 z8 H locs h hP hS => ?_)
  refine lv_if_ne (tgt := 16) hx hb dX8_end_11 (by decide) (fun c11 => ?_) (fun c11 => ?_)
  · have h := h.1 c11
    refine lv_aload_n hx hb dX8_end_16 rfl (lv_at hl 0 rfl) ?_
    refine va_get (D := D) (ci := 8) (v := .int (z8.1 0 15)) (C := RX8) (T := TX8) (N := 45) hx hb ht tl_X8 hown hK hP 0 (wm_0 q ad z8) rfl 15 (by decide) (ht _ tw_fl_X8_78) (fun _ h9 => h9) rfl dX8_end_17 ?_
    refine lv_topi (fun x2_20 ex2_20 => ?_)
    have h := h x2_20 ex2_20
    refine lv_istore_n (lv' := [(2, .int x2_20), (0, .ref (ad 0)), (1, .int x1)]) hx hb dX8_end_20 rfl hl (by decide) rfl (fun ls hl => ?_)
    refine lv_aload_n hx hb dX8_end_21 rfl (lv_at hl 1 rfl) ?_
    refine lv_iload_n hx hb dX8_end_22 rfl (lv_at hl 2 rfl) ?_
    refine g_put (D := D) (Wd := WM q ad) (z := z8) (ci := 8) (v := .int x1) (ty := .int) (C := RX8) (T := TX8) (N := 45) hx hb ht tl_X8 tyX8 tyX8_ok nmX8 hown hK hP (hD z8) hS 0 (wm_0 q ad z8) rfl 15 (by decide) (ht _ tw_fl_X8_78) (fun _ h9 => h9) rfl rfl rfl rfl (Nat.le_of_ble_eq_true rfl) ((pm_0_15 q ad z8) x1) dX8_end_23 (fun z23 H locs hz23 hP hS => ?_)
    have h := h z23 hz23
    refine lv_iload_n hx hb dX8_end_26 rfl (lv_at hl 0 rfl) ?_
    exact g_ri hG hx hb hr hlocks hE hP hS h dX8_end_27
  · have h := h.2 c11
    refine lv_iconst (v := (-1 : Int32)) hx hb dX8_end_14 (by decide) ?_
    exact g_ri hG hx hb hr hlocks hE hP hS h dX8_end_15
def pX8_byteAt (z : MX) (x1 : Int32) (post : Int32 → MX → Prop) : Prop :=
  (((z.1 0 15) ≤ x1 →
    post (-4 : Int32) z) ∧
  (¬ (z.1 0 15) ≤ x1 →
    vp_in x1 160 ∧
    post (z.1 6 (Int32.toNatClampNeg x1)) z))
set_option maxHeartbeats 4000000 in
set_option maxRecDepth 100000 in
theorem kX8_byteAt (l : Launch) (D : va_G) (q : Nat → ClassId) (ad : Nat → Nat) (A : Nat → Prop) (hD : ∀ z, va_D A (WM q ad z)) (z : MX) (x1 : Int32) (post : Int32 → MX → Prop) (h : pX8_byteAt  z x1 post) : Met l yX8_byteAt (cW yX8_byteAt cX8_byteAt 2 (some .int)) ({ frames := 0, cells := 0, slots := 0, locals := 0 } : Room) (va_Pc [.ref (ad 0), .int x1] ((gB D vwCl (WM q ad) (mE D q)) z)) (va_Qi post (gB D vwCl (WM q ad) (mE D q)) A) 0 0 A := by
  refine Met.ofW (cc := cX8_byteAt) (maxL := 2) (ret := (some .int)) (by decide) rfl ?_
  intro p e s m args below meth c s₁ B hml hv
  obtain ⟨hargs, hP, hE⟩ := hv
  have hx := B.exec
  have hb := B.bytes
  have hr := B.returns
  have hts := atoms_spec (ws := (cW yX8_byteAt cX8_byteAt 2 (some .int))) B.pre
  have ht : ∀ w ∈ tG, w.before args s = true := fun w h => hts w (List.mem_cons_of_mem _ h)
  have hown : s.vm.findClass RX8 = some m.cls := findClass_of_methodNamed B.named
  have hlocks := B.notSynchronized
  have hK := hE.1
  have hG := mE_G D q A
  have S : CallFix p m c cX8_byteAt 2 s args tG RX8 := ⟨hx, hb, hml, hown, ht⟩
  have hS : va_S A s.heap s.heap [] := va_S.rf
  refine g_entry (vs := [.ref (ad 0), .int x1]) hargs (Nat.le_of_ble_eq_true rfl) (fun ls hl => ?_)
  have hl : lv_has ls 2 [(0, .ref (ad 0)), (1, .int x1)] := hl
  unfold pX8_byteAt at h
  refine lv_iload_n hx hb dX8_byteAt_0 rfl (lv_at hl 1 rfl) ?_
  refine lv_aload_n hx hb dX8_byteAt_1 rfl (lv_at hl 0 rfl) ?_
  refine va_get (D := D) (ci := 8) (v := .int (z.1 0 15)) (C := RX8) (T := TX8) (N := 45) hx hb ht tl_X8 hown hK hP 0 (wm_0 q ad z) rfl 15 (by decide) (ht _ tw_fl_X8_78) (fun _ h9 => h9) rfl dX8_byteAt_2 ?_
  refine lv_icmp_ge (tgt := 17) hx hb dX8_byteAt_5 (by decide) (fun c5 => ?_) (fun c5 => ?_)
  · have h := h.1 c5
    refine lv_bipush (v := (-4 : Int32)) hx hb dX8_byteAt_17 (by decide) ?_
    exact g_ri hG hx hb hr hlocks hE hP hS h dX8_byteAt_19
  · have h := h.2 c5
    refine lv_aload_n hx hb dX8_byteAt_8 rfl (lv_at hl 0 rfl) ?_
    refine va_get (D := D) (ci := 8) (v := .ref (ad 6)) (C := RX8) (T := TX8) (N := 45) hx hb ht tl_X8 hown hK hP 0 (wm_0 q ad z) rfl 14 (by decide) (ht _ tw_fl_X8_29) (fun _ h9 => h9) rfl dX8_byteAt_9 ?_
    refine lv_iload_n hx hb dX8_byteAt_12 rfl (lv_at hl 1 rfl) ?_
    have hi13 := h.1
    have h := h.2
    refine va_iald hx hb hK hP 6 0 (wm_6 q ad z) rfl hi13 dX8_byteAt_13 ?_
    refine lv_goto (tgt := 19) hx hb dX8_byteAt_14 (by decide) ?_
    exact g_ri hG hx hb hr hlocks hE hP hS h dX8_byteAt_19
def pX8_fails (z : MX) (x1 : Int32) (post : MX → Prop) : Prop :=
  ((¬ (z.1 0 17) = 0 →
    post z) ∧
  ((z.1 0 17) = 0 →
    ∀ z9 : MX, z9 = mw z 0 17 x1 →
    ∀ z17 : MX, z17 = mw z9 0 18 (z9.1 0 20) →
    post z17))
set_option maxHeartbeats 4000000 in
set_option maxRecDepth 100000 in
theorem kX8_fails (l : Launch) (D : va_G) (q : Nat → ClassId) (ad : Nat → Nat) (A : Nat → Prop) (hD : ∀ z, va_D A (WM q ad z)) (z : MX) (x1 : Int32) (post : MX → Prop) (h : pX8_fails  z x1 post) : Met l yX8_fails (cW yX8_fails cX8_fails 2 none) ({ frames := 0, cells := 0, slots := 0, locals := 0 } : Room) (va_Pc [.ref (ad 0), .int x1] ((gB D vwCl (WM q ad) (mE D q)) z)) (va_Qv post (gB D vwCl (WM q ad) (mE D q)) A) 0 0 A := by
  refine Met.ofW (cc := cX8_fails) (maxL := 2) (ret := none) (by decide) rfl ?_
  intro p e s m args below meth c s₁ B hml hv
  obtain ⟨hargs, hP, hE⟩ := hv
  have hx := B.exec
  have hb := B.bytes
  have hr := B.returns
  have hts := atoms_spec (ws := (cW yX8_fails cX8_fails 2 none)) B.pre
  have ht : ∀ w ∈ tG, w.before args s = true := fun w h => hts w (List.mem_cons_of_mem _ h)
  have hown : s.vm.findClass RX8 = some m.cls := findClass_of_methodNamed B.named
  have hlocks := B.notSynchronized
  have hK := hE.1
  have hG := mE_G D q A
  have S : CallFix p m c cX8_fails 2 s args tG RX8 := ⟨hx, hb, hml, hown, ht⟩
  have hS : va_S A s.heap s.heap [] := va_S.rf
  refine g_entry (vs := [.ref (ad 0), .int x1]) hargs (Nat.le_of_ble_eq_true rfl) (fun ls hl => ?_)
  have hl : lv_has ls 2 [(0, .ref (ad 0)), (1, .int x1)] := hl
  unfold pX8_fails at h
  refine lv_aload_n hx hb dX8_fails_0 rfl (lv_at hl 0 rfl) ?_
  refine va_get (D := D) (ci := 8) (v := .int (z.1 0 17)) (C := RX8) (T := TX8) (N := 45) hx hb ht tl_X8 hown hK hP 0 (wm_0 q ad z) rfl 17 (by decide) (ht _ tw_fl_X8_81) (fun _ h9 => h9) rfl dX8_fails_1 ?_
  refine lv_if_ne (tgt := 20) hx hb dX8_fails_4 (by decide) (fun c4 => ?_) (fun c4 => ?_)
  · have h := h.1 c4
    exact g_rv hG hx hb hr hlocks hE hP hS h dX8_fails_20
  · have h := h.2 c4
    refine lv_aload_n hx hb dX8_fails_7 rfl (lv_at hl 0 rfl) ?_
    refine lv_iload_n hx hb dX8_fails_8 rfl (lv_at hl 1 rfl) ?_
    refine g_put (D := D) (Wd := WM q ad) (z := z) (ci := 8) (v := .int x1) (ty := .int) (C := RX8) (T := TX8) (N := 45) hx hb ht tl_X8 tyX8 tyX8_ok nmX8 hown hK hP (hD z) hS 0 (wm_0 q ad z) rfl 17 (by decide) (ht _ tw_fl_X8_81) (fun _ h9 => h9) rfl rfl rfl rfl (Nat.le_of_ble_eq_true rfl) ((pm_0_17 q ad z) x1) dX8_fails_9 (fun z9 H locs hz9 hP hS => ?_)
    have h := h z9 hz9
    refine lv_aload_n hx hb dX8_fails_12 rfl (lv_at hl 0 rfl) ?_
    refine lv_aload_n hx hb dX8_fails_13 rfl (lv_at hl 0 rfl) ?_
    refine va_get (D := D) (ci := 8) (v := .int (z9.1 0 20)) (C := RX8) (T := TX8) (N := 45) hx hb ht tl_X8 hown hK hP 0 (wm_0 q ad z9) rfl 20 (by decide) (ht _ tw_fl_X8_84) (fun _ h9 => h9) rfl dX8_fails_14 ?_
    refine g_put (D := D) (Wd := WM q ad) (z := z9) (ci := 8) (v := .int (z9.1 0 20)) (ty := .int) (C := RX8) (T := TX8) (N := 45) hx hb ht tl_X8 tyX8 tyX8_ok nmX8 hown hK hP (hD z9) hS 0 (wm_0 q ad z9) rfl 18 (by decide) (ht _ tw_fl_X8_87) (fun _ h9 => h9) rfl rfl rfl rfl (Nat.le_of_ble_eq_true rfl) ((pm_0_18 q ad z9) (z9.1 0 20)) dX8_fails_17 (fun z17 H locs hz17 hP hS => ?_)
    have h := h z17 hz17
    exact g_rv hG hx hb hr hlocks hE hP hS h dX8_fails_20
def pX8_step_b201 (rec140 : MX → Prop) (post : MX → Prop) (z : MX) (y1 : Int32) : Prop :=
    ∀ z201 : MX, z201 = mw z 0 22 y1 →
    ∀ z211 : MX, z211 = mw z201 0 19 ((z201.1 0 19) + (1 : Int32)) →
    rec140 z211
def pX8_step_l140 (rec140 : MX → Prop) (post : MX → Prop) (z : MX) : Prop :=
    pX8_byteAt z (z.1 0 19) (fun (r145 : Int32) (z145 : MX) =>
    pX8_in z145 (Int32.toInt64 r145) (48 : Int64) (57 : Int64) (fun (r155 : Int32) (z155 : MX) =>
    ((r155 = 0 →
      ∀ z219 : MX, z219 = mw z155 0 21 (2 : Int32) →
      ((((z219.1 0 19) - (z219.1 0 20)) ≤ (2 : Int32) →
        post z219) ∧
      (¬ ((z219.1 0 19) - (z219.1 0 20)) ≤ (2 : Int32) →
        pX8_fails z219 (1 : Int32) (fun (z237 : MX) =>
        post z237)))) ∧
    (¬ r155 = 0 →
      (((2 : Int32) ≤ ((z155.1 0 19) - (z155.1 0 20)) →
        pX8_step_b201  rec140 post z155 (z155.1 0 22)) ∧
      (¬ (2 : Int32) ≤ ((z155.1 0 19) - (z155.1 0 20)) →
        pX8_byteAt z155 (z155.1 0 19) (fun (r187 : Int32) (z187 : MX) =>
        pX8_step_b201  rec140 post z187 ((((10 : Int32) * (z155.1 0 22)) + r187) - (48 : Int32)))))))))
def pX8_step_L140 (post : MX → Prop) : Nat → MX → Prop
  | 0 => fun _ => False
  | n + 1 => fun z => pX8_step_l140  (pX8_step_L140  post n) post z
def pX8_step_l84 (rec84 : MX → Prop) (post : MX → Prop) (z : MX) : Prop :=
    pX8_byteAt z (z.1 0 19) (fun (r89 : Int32) (z89 : MX) =>
    pX8_in z89 (Int32.toInt64 r89) (97 : Int64) (122 : Int64) (fun (r99 : Int32) (z99 : MX) =>
    ((r99 = 0 →
      ∀ z120 : MX, z120 = mw z99 0 21 (1 : Int32) →
      post z120) ∧
    (¬ r99 = 0 →
      ∀ z112 : MX, z112 = mw z99 0 19 ((z99.1 0 19) + (1 : Int32)) →
      rec84 z112))))
def pX8_step_L84 (post : MX → Prop) : Nat → MX → Prop
  | 0 => fun _ => False
  | n + 1 => fun z => pX8_step_l84  (pX8_step_L84  post n) post z
def pX8_step_l8 (rec8 : MX → Prop) (post : MX → Prop) (z : MX) : Prop :=
    pX8_byteAt z (z.1 0 19) (fun (r13 : Int32) (z13 : MX) =>
    ((¬ r13 = (32 : Int32) →
      ∀ z39 : MX, z39 = mw z13 0 20 (z13.1 0 19) →
      pX8_byteAt z39 (z39.1 0 19) (fun (r47 : Int32) (z47 : MX) =>
      ∀ z53 : MX, z53 = mw z47 0 22 (0 : Int32) →
      ((¬ r47 = (-4 : Int32) →
        pX8_in z53 (Int32.toInt64 r47) (97 : Int64) (122 : Int64) (fun (r78 : Int32) (z78 : MX) =>
        ((r78 = 0 →
          pX8_in z78 (Int32.toInt64 r47) (48 : Int64) (57 : Int64) (fun (r134 : Int32) (z134 : MX) =>
          ((r134 = 0 →
            ∀ z245 : MX, z245 = mw z134 0 21 (3 : Int32) →
            ∀ z255 : MX, z255 = mw z245 0 19 ((z245.1 0 19) + (1 : Int32)) →
            ((r47 = (59 : Int32) →
              post z255) ∧
            (¬ r47 = (59 : Int32) →
              pX8_fails z255 (1 : Int32) (fun (z266 : MX) =>
              post z266)))) ∧
          (¬ r134 = 0 →
            ∃ n, pX8_step_L140  post n z134)))) ∧
        (¬ r78 = 0 →
          ∃ n, pX8_step_L84  post n z78)))) ∧
      (r47 = (-4 : Int32) →
        ∀ z64 : MX, z64 = mw z53 0 21 (0 : Int32) →
        post z64)))) ∧
    (r13 = (32 : Int32) →
      ∀ z28 : MX, z28 = mw z13 0 19 ((z13.1 0 19) + (1 : Int32)) →
      rec8 z28)))
def pX8_step_L8 (post : MX → Prop) : Nat → MX → Prop
  | 0 => fun _ => False
  | n + 1 => fun z => pX8_step_l8  (pX8_step_L8  post n) post z
def pX8_step (z : MX) (post : MX → Prop) : Prop :=
  (((z.1 0 17) ≤ 0 →
    ∃ n, pX8_step_L8  post n z) ∧
  (¬ (z.1 0 17) ≤ 0 →
    post z))
set_option maxHeartbeats 4000000 in
set_option maxRecDepth 100000 in
theorem kX8_step (l : Launch) (D : va_G) (q : Nat → ClassId) (ad : Nat → Nat) (A : Nat → Prop) (hD : ∀ z, va_D A (WM q ad z)) (z : MX) (post : MX → Prop) (h : pX8_step  z post) : Met l yX8_step (cW yX8_step cX8_step 2 none) ({ frames := 1, cells := 0, slots := 0, locals := 25 } : Room) (va_Pc [.ref (ad 0)] ((gB D vwCl (WM q ad) (mE D q)) z)) (va_Qv post (gB D vwCl (WM q ad) (mE D q)) A) 0 0 A := by
  refine Met.ofW (cc := cX8_step) (maxL := 2) (ret := none) (by decide) rfl ?_
  intro p e s m args below meth c s₁ B hml hv
  obtain ⟨hargs, hP, hE⟩ := hv
  have hx := B.exec
  have hb := B.bytes
  have hr := B.returns
  have hts := atoms_spec (ws := (cW yX8_step cX8_step 2 none)) B.pre
  have ht : ∀ w ∈ tG, w.before args s = true := fun w h => hts w (List.mem_cons_of_mem _ h)
  have hown : s.vm.findClass RX8 = some m.cls := findClass_of_methodNamed B.named
  have hlocks := B.notSynchronized
  have hK := hE.1
  have hG := mE_G D q A
  have S : CallFix p m c cX8_step 2 s args tG RX8 := ⟨hx, hb, hml, hown, ht⟩
  have hS : va_S A s.heap s.heap [] := va_S.rf
  have B201 : ∀ (rec140 : MX → Prop) (hrec140 : ∀ (z : MX) (H : Heap) (locs : List Loc) (ls : Array Slot), rec140 z → va_P D vwCl (WM q ad z) H → va_S A s.heap H locs → lv_has ls 2 [(0, .ref (ad 0))] → W p l e (headSpec (cW yX8_step cX8_step 2 none) ({ frames := 1, cells := 0, slots := 0, locals := 25 } : Room)).room s m args below meth c H locs 0 0 (MQ below (va_Qv post (gB D vwCl (WM q ad) (mE D q)) A) args s 0 0 A) (F0 m 140 ls [])) (z : MX) (y1 : Int32) (H : Heap) (locs : List Loc) (ls : Array Slot), pX8_step_b201  rec140 post z y1 → va_P D vwCl (WM q ad z) H → va_S A s.heap H locs → lv_has ls 2 [(0, .ref (ad 0))] → W p l e (headSpec (cW yX8_step cX8_step 2 none) ({ frames := 1, cells := 0, slots := 0, locals := 25 } : Room)).room s m args below meth c H locs 0 0 (MQ below (va_Qv post (gB D vwCl (WM q ad) (mE D q)) A) args s 0 0 A) (F0 m 201 ls [.int y1, .ref (ad 0)]) := by
    intro rec140 hrec140 z y1 H locs ls h hP hS hl
    unfold pX8_step_b201 at h
    refine g_put (D := D) (Wd := WM q ad) (z := z) (ci := 8) (v := .int y1) (ty := .int) (C := RX8) (T := TX8) (N := 45) hx hb ht tl_X8 tyX8 tyX8_ok nmX8 hown hK hP (hD z) hS 0 (wm_0 q ad z) rfl 22 (by decide) (ht _ tw_fl_X8_100) (fun _ h9 => h9) rfl rfl rfl rfl (Nat.le_of_ble_eq_true rfl) ((pm_0_22 q ad z) y1) dX8_step_201 (fun z201 H locs hz201 hP hS => ?_)
    have h := h z201 hz201
    refine lv_aload_n hx hb dX8_step_204 rfl (lv_at hl 0 rfl) ?_
    refine lv_dup hx hb dX8_step_205 rfl ?_
    refine va_get (D := D) (ci := 8) (v := .int (z201.1 0 19)) (C := RX8) (T := TX8) (N := 45) hx hb ht tl_X8 hown hK hP 0 (wm_0 q ad z201) rfl 19 (by decide) (ht _ tw_fl_X8_93) (fun _ h9 => h9) rfl dX8_step_206 ?_
    refine lv_iconst (v := (1 : Int32)) hx hb dX8_step_209 (by decide) ?_
    refine lv_iadd hx hb dX8_step_210 ?_
    refine g_put (D := D) (Wd := WM q ad) (z := z201) (ci := 8) (v := .int ((z201.1 0 19) + (1 : Int32))) (ty := .int) (C := RX8) (T := TX8) (N := 45) hx hb ht tl_X8 tyX8 tyX8_ok nmX8 hown hK hP (hD z201) hS 0 (wm_0 q ad z201) rfl 19 (by decide) (ht _ tw_fl_X8_93) (fun _ h9 => h9) rfl rfl rfl rfl (Nat.le_of_ble_eq_true rfl) ((pm_0_19 q ad z201) ((z201.1 0 19) + (1 : Int32))) dX8_step_211 (fun z211 H locs hz211 hP hS => ?_)
    have h := h z211 hz211
    refine lv_goto (tgt := 140) hx hb dX8_step_214 (by decide) ?_
    exact hrec140 z211 _ _ _ h hP hS (lv_sub hl [0] rfl)
  have B140 : ∀ (rec140 : MX → Prop) (hrec140 : ∀ (z : MX) (H : Heap) (locs : List Loc) (ls : Array Slot), rec140 z → va_P D vwCl (WM q ad z) H → va_S A s.heap H locs → lv_has ls 2 [(0, .ref (ad 0))] → W p l e (headSpec (cW yX8_step cX8_step 2 none) ({ frames := 1, cells := 0, slots := 0, locals := 25 } : Room)).room s m args below meth c H locs 0 0 (MQ below (va_Qv post (gB D vwCl (WM q ad) (mE D q)) A) args s 0 0 A) (F0 m 140 ls [])) (z : MX) (H : Heap) (locs : List Loc) (ls : Array Slot), pX8_step_l140  rec140 post z → va_P D vwCl (WM q ad z) H → va_S A s.heap H locs → lv_has ls 2 [(0, .ref (ad 0))] → W p l e (headSpec (cW yX8_step cX8_step 2 none) ({ frames := 1, cells := 0, slots := 0, locals := 25 } : Room)).room s m args below meth c H locs 0 0 (MQ below (va_Qv post (gB D vwCl (WM q ad) (mE D q)) A) args s 0 0 A) (F0 m 140 ls []) := by
    intro rec140 hrec140 z H locs ls h hP hS hl
    unfold pX8_step_l140 at h
    refine lv_aload_n hx hb dX8_step_140 rfl (lv_at hl 0 rfl) ?_
    refine lv_aload_n hx hb dX8_step_141 rfl (lv_at hl 0 rfl) ?_
    refine va_get (D := D) (ci := 8) (v := .int (z.1 0 19)) (C := RX8) (T := TX8) (N := 45) hx hb ht tl_X8 hown hK hP 0 (wm_0 q ad z) rfl 19 (by decide) (ht _ tw_fl_X8_93) (fun _ h9 => h9) rfl dX8_step_142 ?_
    refine g_cVi (Wd := WM q ad) (z := z) (As := [.int (z.1 0 19)]) (rest := []) hG S (kX8_byteAt l D q ad A hD z (z.1 0 19) _ h) (cwV 1 ht (cW_V (fun _ h => h) tw_co_X8_byteAt tw_ml_X8_96 tw_im_X8_byteAt tw_se_X8_byteAt tw_in_X8) rfl rfl rfl (by decide +kernel) ⟨by decide, by decide⟩) (va_recv hK hP (ci := 8) (q0 := 0) rfl (wm_0 q ad z)) hE hP hS rfl hl.1 rfl (Nat.le_of_ble_eq_true rfl) dX8_step_145 ⟨Nat.zero_le _, Nat.zero_le _⟩ (fun r145 z145 H locs h hP hS => ?_)
    refine lv_i2l hx hb dX8_step_148 rfl ?_
    refine lv_ldc2 (v := (48 : Int64)) hx hb hown (ht _ tw_cn_X8_107) dX8_step_149 ?_
    refine lv_ldc2 (v := (57 : Int64)) hx hb hown (ht _ tw_cn_X8_109) dX8_step_152 ?_
    refine g_cSi (Wd := WM q ad) (z := z145) (As := [.long (Int32.toInt64 r145), .long (48 : Int64), .long (57 : Int64)]) (rest := []) hG S (kX8_in l D q ad A hD z145 (Int32.toInt64 r145) (48 : Int64) (57 : Int64) _ h) (va_cwS 3 ht (cW_S (fun _ h => h) tw_co_X8_in tw_ml_X8_74 tw_st_X8_in tw_in_X8) rfl rfl rfl (by decide +kernel) ⟨by decide, by decide⟩) hE hP hS rfl hl.1 rfl (Nat.le_of_ble_eq_true rfl) dX8_step_155 ⟨Nat.zero_le _, Nat.zero_le _⟩ (fun r155 z155 H locs h hP hS => ?_)
    refine lv_if_eq (tgt := 217) hx hb dX8_step_158 (by decide) (fun c158 => ?_) (fun c158 => ?_)
    · have h := h.1 c158
      refine lv_aload_n hx hb dX8_step_217 rfl (lv_at hl 0 rfl) ?_
      refine lv_iconst (v := (2 : Int32)) hx hb dX8_step_218 (by decide) ?_
      refine g_put (D := D) (Wd := WM q ad) (z := z155) (ci := 8) (v := .int (2 : Int32)) (ty := .int) (C := RX8) (T := TX8) (N := 45) hx hb ht tl_X8 tyX8 tyX8_ok nmX8 hown hK hP (hD z155) hS 0 (wm_0 q ad z155) rfl 21 (by decide) (ht _ tw_fl_X8_90) (fun _ h9 => h9) rfl rfl rfl rfl (Nat.le_of_ble_eq_true rfl) ((pm_0_21 q ad z155) (2 : Int32)) dX8_step_219 (fun z219 H locs hz219 hP hS => ?_)
      have h := h z219 hz219
      refine lv_aload_n hx hb dX8_step_222 rfl (lv_at hl 0 rfl) ?_
      refine va_get (D := D) (ci := 8) (v := .int (z219.1 0 19)) (C := RX8) (T := TX8) (N := 45) hx hb ht tl_X8 hown hK hP 0 (wm_0 q ad z219) rfl 19 (by decide) (ht _ tw_fl_X8_93) (fun _ h9 => h9) rfl dX8_step_223 ?_
      refine lv_aload_n hx hb dX8_step_226 rfl (lv_at hl 0 rfl) ?_
      refine va_get (D := D) (ci := 8) (v := .int (z219.1 0 20)) (C := RX8) (T := TX8) (N := 45) hx hb ht tl_X8 hown hK hP 0 (wm_0 q ad z219) rfl 20 (by decide) (ht _ tw_fl_X8_84) (fun _ h9 => h9) rfl dX8_step_227 ?_
      refine lv_isub hx hb dX8_step_230 ?_
      refine lv_iconst (v := (2 : Int32)) hx hb dX8_step_231 (by decide) ?_
      refine lv_icmp_le (tgt := 269) hx hb dX8_step_232 (by decide) (fun c232 => ?_) (fun c232 => ?_)
      · have h := h.1 c232
        exact g_rv hG hx hb hr hlocks hE hP hS h dX8_step_269
      · have h := h.2 c232
        refine lv_aload_n hx hb dX8_step_235 rfl (lv_at hl 0 rfl) ?_
        refine lv_iconst (v := (1 : Int32)) hx hb dX8_step_236 (by decide) ?_
        refine g_cVv (Wd := WM q ad) (z := z219) (As := [.int (1 : Int32)]) (rest := []) hG S (kX8_fails l D q ad A hD z219 (1 : Int32) _ h) (cwV 1 ht (cW_V (fun _ h => h) tw_co_X8_fails tw_ml_X8_111 tw_im_X8_fails tw_se_X8_fails tw_in_X8) rfl rfl rfl (by decide +kernel) ⟨by decide, by decide⟩) (va_recv hK hP (ci := 8) (q0 := 0) rfl (wm_0 q ad z219)) hE hP hS rfl hl.1 rfl (Nat.le_of_ble_eq_true rfl) dX8_step_237 ⟨Nat.zero_le _, Nat.zero_le _⟩ (fun z237 H locs h hP hS => ?_)
        refine lv_goto (tgt := 269) hx hb dX8_step_240 (by decide) ?_
        exact g_rv hG hx hb hr hlocks hE hP hS h dX8_step_269
    · have h := h.2 c158
      refine lv_aload_n hx hb dX8_step_161 rfl (lv_at hl 0 rfl) ?_
      refine lv_aload_n hx hb dX8_step_162 rfl (lv_at hl 0 rfl) ?_
      refine va_get (D := D) (ci := 8) (v := .int (z155.1 0 19)) (C := RX8) (T := TX8) (N := 45) hx hb ht tl_X8 hown hK hP 0 (wm_0 q ad z155) rfl 19 (by decide) (ht _ tw_fl_X8_93) (fun _ h9 => h9) rfl dX8_step_163 ?_
      refine lv_aload_n hx hb dX8_step_166 rfl (lv_at hl 0 rfl) ?_
      refine va_get (D := D) (ci := 8) (v := .int (z155.1 0 20)) (C := RX8) (T := TX8) (N := 45) hx hb ht tl_X8 hown hK hP 0 (wm_0 q ad z155) rfl 20 (by decide) (ht _ tw_fl_X8_84) (fun _ h9 => h9) rfl dX8_step_167 ?_
      refine lv_isub hx hb dX8_step_170 ?_
      refine lv_iconst (v := (2 : Int32)) hx hb dX8_step_171 (by decide) ?_
      refine lv_icmp_ge (tgt := 197) hx hb dX8_step_172 (by decide) (fun c172 => ?_) (fun c172 => ?_)
      · have h := h.1 c172
        refine lv_aload_n hx hb dX8_step_197 rfl (lv_at hl 0 rfl) ?_
        refine va_get (D := D) (ci := 8) (v := .int (z155.1 0 22)) (C := RX8) (T := TX8) (N := 45) hx hb ht tl_X8 hown hK hP 0 (wm_0 q ad z155) rfl 22 (by decide) (ht _ tw_fl_X8_100) (fun _ h9 => h9) rfl dX8_step_198 ?_
        exact B201 rec140 hrec140 z155 (z155.1 0 22) _ _ _ h hP hS (lv_sub hl [0] rfl)
      · have h := h.2 c172
        refine lv_bipush (v := (10 : Int32)) hx hb dX8_step_175 (by decide) ?_
        refine lv_aload_n hx hb dX8_step_177 rfl (lv_at hl 0 rfl) ?_
        refine va_get (D := D) (ci := 8) (v := .int (z155.1 0 22)) (C := RX8) (T := TX8) (N := 45) hx hb ht tl_X8 hown hK hP 0 (wm_0 q ad z155) rfl 22 (by decide) (ht _ tw_fl_X8_100) (fun _ h9 => h9) rfl dX8_step_178 ?_
        refine lv_imul hx hb dX8_step_181 ?_
        refine lv_aload_n hx hb dX8_step_182 rfl (lv_at hl 0 rfl) ?_
        refine lv_aload_n hx hb dX8_step_183 rfl (lv_at hl 0 rfl) ?_
        refine va_get (D := D) (ci := 8) (v := .int (z155.1 0 19)) (C := RX8) (T := TX8) (N := 45) hx hb ht tl_X8 hown hK hP 0 (wm_0 q ad z155) rfl 19 (by decide) (ht _ tw_fl_X8_93) (fun _ h9 => h9) rfl dX8_step_184 ?_
        refine g_cVi (Wd := WM q ad) (z := z155) (As := [.int (z155.1 0 19)]) (rest := [.int ((10 : Int32) * (z155.1 0 22)), .ref (ad 0)]) hG S (kX8_byteAt l D q ad A hD z155 (z155.1 0 19) _ h) (cwV 1 ht (cW_V (fun _ h => h) tw_co_X8_byteAt tw_ml_X8_96 tw_im_X8_byteAt tw_se_X8_byteAt tw_in_X8) rfl rfl rfl (by decide +kernel) ⟨by decide, by decide⟩) (va_recv hK hP (ci := 8) (q0 := 0) rfl (wm_0 q ad z155)) hE hP hS rfl hl.1 rfl (Nat.le_of_ble_eq_true rfl) dX8_step_187 ⟨Nat.zero_le _, Nat.zero_le _⟩ (fun r187 z187 H locs h hP hS => ?_)
        refine lv_iadd hx hb dX8_step_190 ?_
        refine lv_bipush (v := (48 : Int32)) hx hb dX8_step_191 (by decide) ?_
        refine lv_isub hx hb dX8_step_193 ?_
        refine lv_goto (tgt := 201) hx hb dX8_step_194 (by decide) ?_
        exact B201 rec140 hrec140 z187 ((((10 : Int32) * (z155.1 0 22)) + r187) - (48 : Int32)) _ _ _ h hP hS (lv_sub hl [0] rfl)
  have L140 : ∀ (n : Nat) (z : MX) (H : Heap) (locs : List Loc) (ls : Array Slot), pX8_step_L140  post n z → va_P D vwCl (WM q ad z) H → va_S A s.heap H locs → lv_has ls 2 [(0, .ref (ad 0))] → W p l e (headSpec (cW yX8_step cX8_step 2 none) ({ frames := 1, cells := 0, slots := 0, locals := 25 } : Room)).room s m args below meth c H locs 0 0 (MQ below (va_Qv post (gB D vwCl (WM q ad) (mE D q)) A) args s 0 0 A) (F0 m 140 ls []) := by
    intro n
    induction n with
    | zero =>
      intro z H locs ls h
      exact False.elim h
    | succ n ih =>
      intro z H locs ls h hP hS hl
      exact B140 (pX8_step_L140  post n) ih z H locs ls h hP hS hl
  have B84 : ∀ (rec84 : MX → Prop) (hrec84 : ∀ (z : MX) (H : Heap) (locs : List Loc) (ls : Array Slot), rec84 z → va_P D vwCl (WM q ad z) H → va_S A s.heap H locs → lv_has ls 2 [(0, .ref (ad 0))] → W p l e (headSpec (cW yX8_step cX8_step 2 none) ({ frames := 1, cells := 0, slots := 0, locals := 25 } : Room)).room s m args below meth c H locs 0 0 (MQ below (va_Qv post (gB D vwCl (WM q ad) (mE D q)) A) args s 0 0 A) (F0 m 84 ls [])) (z : MX) (H : Heap) (locs : List Loc) (ls : Array Slot), pX8_step_l84  rec84 post z → va_P D vwCl (WM q ad z) H → va_S A s.heap H locs → lv_has ls 2 [(0, .ref (ad 0))] → W p l e (headSpec (cW yX8_step cX8_step 2 none) ({ frames := 1, cells := 0, slots := 0, locals := 25 } : Room)).room s m args below meth c H locs 0 0 (MQ below (va_Qv post (gB D vwCl (WM q ad) (mE D q)) A) args s 0 0 A) (F0 m 84 ls []) := by
    intro rec84 hrec84 z H locs ls h hP hS hl
    unfold pX8_step_l84 at h
    refine lv_aload_n hx hb dX8_step_84 rfl (lv_at hl 0 rfl) ?_
    refine lv_aload_n hx hb dX8_step_85 rfl (lv_at hl 0 rfl) ?_
    refine va_get (D := D) (ci := 8) (v := .int (z.1 0 19)) (C := RX8) (T := TX8) (N := 45) hx hb ht tl_X8 hown hK hP 0 (wm_0 q ad z) rfl 19 (by decide) (ht _ tw_fl_X8_93) (fun _ h9 => h9) rfl dX8_step_86 ?_
    refine g_cVi (Wd := WM q ad) (z := z) (As := [.int (z.1 0 19)]) (rest := []) hG S (kX8_byteAt l D q ad A hD z (z.1 0 19) _ h) (cwV 1 ht (cW_V (fun _ h => h) tw_co_X8_byteAt tw_ml_X8_96 tw_im_X8_byteAt tw_se_X8_byteAt tw_in_X8) rfl rfl rfl (by decide +kernel) ⟨by decide, by decide⟩) (va_recv hK hP (ci := 8) (q0 := 0) rfl (wm_0 q ad z)) hE hP hS rfl hl.1 rfl (Nat.le_of_ble_eq_true rfl) dX8_step_89 ⟨Nat.zero_le _, Nat.zero_le _⟩ (fun r89 z89 H locs h hP hS => ?_)
    refine lv_i2l hx hb dX8_step_92 rfl ?_
    refine lv_ldc2 (v := (97 : Int64)) hx hb hown (ht _ tw_cn_X8_103) dX8_step_93 ?_
    refine lv_ldc2 (v := (122 : Int64)) hx hb hown (ht _ tw_cn_X8_105) dX8_step_96 ?_
    refine g_cSi (Wd := WM q ad) (z := z89) (As := [.long (Int32.toInt64 r89), .long (97 : Int64), .long (122 : Int64)]) (rest := []) hG S (kX8_in l D q ad A hD z89 (Int32.toInt64 r89) (97 : Int64) (122 : Int64) _ h) (va_cwS 3 ht (cW_S (fun _ h => h) tw_co_X8_in tw_ml_X8_74 tw_st_X8_in tw_in_X8) rfl rfl rfl (by decide +kernel) ⟨by decide, by decide⟩) hE hP hS rfl hl.1 rfl (Nat.le_of_ble_eq_true rfl) dX8_step_99 ⟨Nat.zero_le _, Nat.zero_le _⟩ (fun r99 z99 H locs h hP hS => ?_)
    refine lv_if_eq (tgt := 118) hx hb dX8_step_102 (by decide) (fun c102 => ?_) (fun c102 => ?_)
    · have h := h.1 c102
      refine lv_aload_n hx hb dX8_step_118 rfl (lv_at hl 0 rfl) ?_
      refine lv_iconst (v := (1 : Int32)) hx hb dX8_step_119 (by decide) ?_
      refine g_put (D := D) (Wd := WM q ad) (z := z99) (ci := 8) (v := .int (1 : Int32)) (ty := .int) (C := RX8) (T := TX8) (N := 45) hx hb ht tl_X8 tyX8 tyX8_ok nmX8 hown hK hP (hD z99) hS 0 (wm_0 q ad z99) rfl 21 (by decide) (ht _ tw_fl_X8_90) (fun _ h9 => h9) rfl rfl rfl rfl (Nat.le_of_ble_eq_true rfl) ((pm_0_21 q ad z99) (1 : Int32)) dX8_step_120 (fun z120 H locs hz120 hP hS => ?_)
      have h := h z120 hz120
      refine lv_goto (tgt := 269) hx hb dX8_step_123 (by decide) ?_
      exact g_rv hG hx hb hr hlocks hE hP hS h dX8_step_269
    · have h := h.2 c102
      refine lv_aload_n hx hb dX8_step_105 rfl (lv_at hl 0 rfl) ?_
      refine lv_dup hx hb dX8_step_106 rfl ?_
      refine va_get (D := D) (ci := 8) (v := .int (z99.1 0 19)) (C := RX8) (T := TX8) (N := 45) hx hb ht tl_X8 hown hK hP 0 (wm_0 q ad z99) rfl 19 (by decide) (ht _ tw_fl_X8_93) (fun _ h9 => h9) rfl dX8_step_107 ?_
      refine lv_iconst (v := (1 : Int32)) hx hb dX8_step_110 (by decide) ?_
      refine lv_iadd hx hb dX8_step_111 ?_
      refine g_put (D := D) (Wd := WM q ad) (z := z99) (ci := 8) (v := .int ((z99.1 0 19) + (1 : Int32))) (ty := .int) (C := RX8) (T := TX8) (N := 45) hx hb ht tl_X8 tyX8 tyX8_ok nmX8 hown hK hP (hD z99) hS 0 (wm_0 q ad z99) rfl 19 (by decide) (ht _ tw_fl_X8_93) (fun _ h9 => h9) rfl rfl rfl rfl (Nat.le_of_ble_eq_true rfl) ((pm_0_19 q ad z99) ((z99.1 0 19) + (1 : Int32))) dX8_step_112 (fun z112 H locs hz112 hP hS => ?_)
      have h := h z112 hz112
      refine lv_goto (tgt := 84) hx hb dX8_step_115 (by decide) ?_
      exact hrec84 z112 _ _ _ h hP hS (lv_sub hl [0] rfl)
  have L84 : ∀ (n : Nat) (z : MX) (H : Heap) (locs : List Loc) (ls : Array Slot), pX8_step_L84  post n z → va_P D vwCl (WM q ad z) H → va_S A s.heap H locs → lv_has ls 2 [(0, .ref (ad 0))] → W p l e (headSpec (cW yX8_step cX8_step 2 none) ({ frames := 1, cells := 0, slots := 0, locals := 25 } : Room)).room s m args below meth c H locs 0 0 (MQ below (va_Qv post (gB D vwCl (WM q ad) (mE D q)) A) args s 0 0 A) (F0 m 84 ls []) := by
    intro n
    induction n with
    | zero =>
      intro z H locs ls h
      exact False.elim h
    | succ n ih =>
      intro z H locs ls h hP hS hl
      exact B84 (pX8_step_L84  post n) ih z H locs ls h hP hS hl
  have B8 : ∀ (rec8 : MX → Prop) (hrec8 : ∀ (z : MX) (H : Heap) (locs : List Loc) (ls : Array Slot), rec8 z → va_P D vwCl (WM q ad z) H → va_S A s.heap H locs → lv_has ls 2 [(0, .ref (ad 0))] → W p l e (headSpec (cW yX8_step cX8_step 2 none) ({ frames := 1, cells := 0, slots := 0, locals := 25 } : Room)).room s m args below meth c H locs 0 0 (MQ below (va_Qv post (gB D vwCl (WM q ad) (mE D q)) A) args s 0 0 A) (F0 m 8 ls [])) (z : MX) (H : Heap) (locs : List Loc) (ls : Array Slot), pX8_step_l8  rec8 post z → va_P D vwCl (WM q ad z) H → va_S A s.heap H locs → lv_has ls 2 [(0, .ref (ad 0))] → W p l e (headSpec (cW yX8_step cX8_step 2 none) ({ frames := 1, cells := 0, slots := 0, locals := 25 } : Room)).room s m args below meth c H locs 0 0 (MQ below (va_Qv post (gB D vwCl (WM q ad) (mE D q)) A) args s 0 0 A) (F0 m 8 ls []) := by
    intro rec8 hrec8 z H locs ls h hP hS hl
    unfold pX8_step_l8 at h
    refine lv_aload_n hx hb dX8_step_8 rfl (lv_at hl 0 rfl) ?_
    refine lv_aload_n hx hb dX8_step_9 rfl (lv_at hl 0 rfl) ?_
    refine va_get (D := D) (ci := 8) (v := .int (z.1 0 19)) (C := RX8) (T := TX8) (N := 45) hx hb ht tl_X8 hown hK hP 0 (wm_0 q ad z) rfl 19 (by decide) (ht _ tw_fl_X8_93) (fun _ h9 => h9) rfl dX8_step_10 ?_
    refine g_cVi (Wd := WM q ad) (z := z) (As := [.int (z.1 0 19)]) (rest := []) hG S (kX8_byteAt l D q ad A hD z (z.1 0 19) _ h) (cwV 1 ht (cW_V (fun _ h => h) tw_co_X8_byteAt tw_ml_X8_96 tw_im_X8_byteAt tw_se_X8_byteAt tw_in_X8) rfl rfl rfl (by decide +kernel) ⟨by decide, by decide⟩) (va_recv hK hP (ci := 8) (q0 := 0) rfl (wm_0 q ad z)) hE hP hS rfl hl.1 rfl (Nat.le_of_ble_eq_true rfl) dX8_step_13 ⟨Nat.zero_le _, Nat.zero_le _⟩ (fun r13 z13 H locs h hP hS => ?_)
    refine lv_bipush (v := (32 : Int32)) hx hb dX8_step_16 (by decide) ?_
    refine lv_icmp_ne (tgt := 34) hx hb dX8_step_18 (by decide) (fun c18 => ?_) (fun c18 => ?_)
    · have h := h.1 c18
      refine lv_aload_n hx hb dX8_step_34 rfl (lv_at hl 0 rfl) ?_
      refine lv_aload_n hx hb dX8_step_35 rfl (lv_at hl 0 rfl) ?_
      refine va_get (D := D) (ci := 8) (v := .int (z13.1 0 19)) (C := RX8) (T := TX8) (N := 45) hx hb ht tl_X8 hown hK hP 0 (wm_0 q ad z13) rfl 19 (by decide) (ht _ tw_fl_X8_93) (fun _ h9 => h9) rfl dX8_step_36 ?_
      refine g_put (D := D) (Wd := WM q ad) (z := z13) (ci := 8) (v := .int (z13.1 0 19)) (ty := .int) (C := RX8) (T := TX8) (N := 45) hx hb ht tl_X8 tyX8 tyX8_ok nmX8 hown hK hP (hD z13) hS 0 (wm_0 q ad z13) rfl 20 (by decide) (ht _ tw_fl_X8_84) (fun _ h9 => h9) rfl rfl rfl rfl (Nat.le_of_ble_eq_true rfl) ((pm_0_20 q ad z13) (z13.1 0 19)) dX8_step_39 (fun z39 H locs hz39 hP hS => ?_)
      have h := h z39 hz39
      refine lv_aload_n hx hb dX8_step_42 rfl (lv_at hl 0 rfl) ?_
      refine lv_aload_n hx hb dX8_step_43 rfl (lv_at hl 0 rfl) ?_
      refine va_get (D := D) (ci := 8) (v := .int (z39.1 0 19)) (C := RX8) (T := TX8) (N := 45) hx hb ht tl_X8 hown hK hP 0 (wm_0 q ad z39) rfl 19 (by decide) (ht _ tw_fl_X8_93) (fun _ h9 => h9) rfl dX8_step_44 ?_
      refine g_cVi (Wd := WM q ad) (z := z39) (As := [.int (z39.1 0 19)]) (rest := []) hG S (kX8_byteAt l D q ad A hD z39 (z39.1 0 19) _ h) (cwV 1 ht (cW_V (fun _ h => h) tw_co_X8_byteAt tw_ml_X8_96 tw_im_X8_byteAt tw_se_X8_byteAt tw_in_X8) rfl rfl rfl (by decide +kernel) ⟨by decide, by decide⟩) (va_recv hK hP (ci := 8) (q0 := 0) rfl (wm_0 q ad z39)) hE hP hS rfl hl.1 rfl (Nat.le_of_ble_eq_true rfl) dX8_step_47 ⟨Nat.zero_le _, Nat.zero_le _⟩ (fun r47 z47 H locs h hP hS => ?_)
      refine lv_istore_n (lv' := [(1, .int r47), (0, .ref (ad 0))]) hx hb dX8_step_50 rfl hl (by decide) rfl (fun ls hl => ?_)
      refine lv_aload_n hx hb dX8_step_51 rfl (lv_at hl 1 rfl) ?_
      refine lv_iconst (v := (0 : Int32)) hx hb dX8_step_52 (by decide) ?_
      refine g_put (D := D) (Wd := WM q ad) (z := z47) (ci := 8) (v := .int (0 : Int32)) (ty := .int) (C := RX8) (T := TX8) (N := 45) hx hb ht tl_X8 tyX8 tyX8_ok nmX8 hown hK hP (hD z47) hS 0 (wm_0 q ad z47) rfl 22 (by decide) (ht _ tw_fl_X8_100) (fun _ h9 => h9) rfl rfl rfl rfl (Nat.le_of_ble_eq_true rfl) ((pm_0_22 q ad z47) (0 : Int32)) dX8_step_53 (fun z53 H locs hz53 hP hS => ?_)
      have h := h z53 hz53
      refine lv_iload_n hx hb dX8_step_56 rfl (lv_at hl 0 rfl) ?_
      refine lv_bipush (v := (-4 : Int32)) hx hb dX8_step_57 (by decide) ?_
      refine lv_icmp_ne (tgt := 70) hx hb dX8_step_59 (by decide) (fun c59 => ?_) (fun c59 => ?_)
      · have h := h.1 c59
        refine lv_iload_n hx hb dX8_step_70 rfl (lv_at hl 0 rfl) ?_
        refine lv_i2l hx hb dX8_step_71 rfl ?_
        refine lv_ldc2 (v := (97 : Int64)) hx hb hown (ht _ tw_cn_X8_103) dX8_step_72 ?_
        refine lv_ldc2 (v := (122 : Int64)) hx hb hown (ht _ tw_cn_X8_105) dX8_step_75 ?_
        refine g_cSi (Wd := WM q ad) (z := z53) (As := [.long (Int32.toInt64 r47), .long (97 : Int64), .long (122 : Int64)]) (rest := []) hG S (kX8_in l D q ad A hD z53 (Int32.toInt64 r47) (97 : Int64) (122 : Int64) _ h) (va_cwS 3 ht (cW_S (fun _ h => h) tw_co_X8_in tw_ml_X8_74 tw_st_X8_in tw_in_X8) rfl rfl rfl (by decide +kernel) ⟨by decide, by decide⟩) hE hP hS rfl hl.1 rfl (Nat.le_of_ble_eq_true rfl) dX8_step_78 ⟨Nat.zero_le _, Nat.zero_le _⟩ (fun r78 z78 H locs h hP hS => ?_)
        refine lv_if_eq (tgt := 126) hx hb dX8_step_81 (by decide) (fun c81 => ?_) (fun c81 => ?_)
        · have h := h.1 c81
          refine lv_iload_n hx hb dX8_step_126 rfl (lv_at hl 0 rfl) ?_
          refine lv_i2l hx hb dX8_step_127 rfl ?_
          refine lv_ldc2 (v := (48 : Int64)) hx hb hown (ht _ tw_cn_X8_107) dX8_step_128 ?_
          refine lv_ldc2 (v := (57 : Int64)) hx hb hown (ht _ tw_cn_X8_109) dX8_step_131 ?_
          refine g_cSi (Wd := WM q ad) (z := z78) (As := [.long (Int32.toInt64 r47), .long (48 : Int64), .long (57 : Int64)]) (rest := []) hG S (kX8_in l D q ad A hD z78 (Int32.toInt64 r47) (48 : Int64) (57 : Int64) _ h) (va_cwS 3 ht (cW_S (fun _ h => h) tw_co_X8_in tw_ml_X8_74 tw_st_X8_in tw_in_X8) rfl rfl rfl (by decide +kernel) ⟨by decide, by decide⟩) hE hP hS rfl hl.1 rfl (Nat.le_of_ble_eq_true rfl) dX8_step_134 ⟨Nat.zero_le _, Nat.zero_le _⟩ (fun r134 z134 H locs h hP hS => ?_)
          refine lv_if_eq (tgt := 243) hx hb dX8_step_137 (by decide) (fun c137 => ?_) (fun c137 => ?_)
          · have h := h.1 c137
            refine lv_aload_n hx hb dX8_step_243 rfl (lv_at hl 1 rfl) ?_
            refine lv_iconst (v := (3 : Int32)) hx hb dX8_step_244 (by decide) ?_
            refine g_put (D := D) (Wd := WM q ad) (z := z134) (ci := 8) (v := .int (3 : Int32)) (ty := .int) (C := RX8) (T := TX8) (N := 45) hx hb ht tl_X8 tyX8 tyX8_ok nmX8 hown hK hP (hD z134) hS 0 (wm_0 q ad z134) rfl 21 (by decide) (ht _ tw_fl_X8_90) (fun _ h9 => h9) rfl rfl rfl rfl (Nat.le_of_ble_eq_true rfl) ((pm_0_21 q ad z134) (3 : Int32)) dX8_step_245 (fun z245 H locs hz245 hP hS => ?_)
            have h := h z245 hz245
            refine lv_aload_n hx hb dX8_step_248 rfl (lv_at hl 1 rfl) ?_
            refine lv_dup hx hb dX8_step_249 rfl ?_
            refine va_get (D := D) (ci := 8) (v := .int (z245.1 0 19)) (C := RX8) (T := TX8) (N := 45) hx hb ht tl_X8 hown hK hP 0 (wm_0 q ad z245) rfl 19 (by decide) (ht _ tw_fl_X8_93) (fun _ h9 => h9) rfl dX8_step_250 ?_
            refine lv_iconst (v := (1 : Int32)) hx hb dX8_step_253 (by decide) ?_
            refine lv_iadd hx hb dX8_step_254 ?_
            refine g_put (D := D) (Wd := WM q ad) (z := z245) (ci := 8) (v := .int ((z245.1 0 19) + (1 : Int32))) (ty := .int) (C := RX8) (T := TX8) (N := 45) hx hb ht tl_X8 tyX8 tyX8_ok nmX8 hown hK hP (hD z245) hS 0 (wm_0 q ad z245) rfl 19 (by decide) (ht _ tw_fl_X8_93) (fun _ h9 => h9) rfl rfl rfl rfl (Nat.le_of_ble_eq_true rfl) ((pm_0_19 q ad z245) ((z245.1 0 19) + (1 : Int32))) dX8_step_255 (fun z255 H locs hz255 hP hS => ?_)
            have h := h z255 hz255
            refine lv_iload_n hx hb dX8_step_258 rfl (lv_at hl 0 rfl) ?_
            refine lv_bipush (v := (59 : Int32)) hx hb dX8_step_259 (by decide) ?_
            refine lv_icmp_eq (tgt := 269) hx hb dX8_step_261 (by decide) (fun c261 => ?_) (fun c261 => ?_)
            · have h := h.1 c261
              exact g_rv hG hx hb hr hlocks hE hP hS h dX8_step_269
            · have h := h.2 c261
              refine lv_aload_n hx hb dX8_step_264 rfl (lv_at hl 1 rfl) ?_
              refine lv_iconst (v := (1 : Int32)) hx hb dX8_step_265 (by decide) ?_
              refine g_cVv (Wd := WM q ad) (z := z255) (As := [.int (1 : Int32)]) (rest := []) hG S (kX8_fails l D q ad A hD z255 (1 : Int32) _ h) (cwV 1 ht (cW_V (fun _ h => h) tw_co_X8_fails tw_ml_X8_111 tw_im_X8_fails tw_se_X8_fails tw_in_X8) rfl rfl rfl (by decide +kernel) ⟨by decide, by decide⟩) (va_recv hK hP (ci := 8) (q0 := 0) rfl (wm_0 q ad z255)) hE hP hS rfl hl.1 rfl (Nat.le_of_ble_eq_true rfl) dX8_step_266 ⟨Nat.zero_le _, Nat.zero_le _⟩ (fun z266 H locs h hP hS => ?_)
              exact g_rv hG hx hb hr hlocks hE hP hS h dX8_step_269
          · have h := h.2 c137
            obtain ⟨n, h⟩ := h
            exact L140 n z134 _ _ _ h hP hS (lv_sub hl [1] rfl)
        · have h := h.2 c81
          obtain ⟨n, h⟩ := h
          exact L84 n z78 _ _ _ h hP hS (lv_sub hl [1] rfl)
      · have h := h.2 c59
        refine lv_aload_n hx hb dX8_step_62 rfl (lv_at hl 1 rfl) ?_
        refine lv_iconst (v := (0 : Int32)) hx hb dX8_step_63 (by decide) ?_
        refine g_put (D := D) (Wd := WM q ad) (z := z53) (ci := 8) (v := .int (0 : Int32)) (ty := .int) (C := RX8) (T := TX8) (N := 45) hx hb ht tl_X8 tyX8 tyX8_ok nmX8 hown hK hP (hD z53) hS 0 (wm_0 q ad z53) rfl 21 (by decide) (ht _ tw_fl_X8_90) (fun _ h9 => h9) rfl rfl rfl rfl (Nat.le_of_ble_eq_true rfl) ((pm_0_21 q ad z53) (0 : Int32)) dX8_step_64 (fun z64 H locs hz64 hP hS => ?_)
        have h := h z64 hz64
        refine lv_goto (tgt := 269) hx hb dX8_step_67 (by decide) ?_
        exact g_rv hG hx hb hr hlocks hE hP hS h dX8_step_269
    · have h := h.2 c18
      refine lv_aload_n hx hb dX8_step_21 rfl (lv_at hl 0 rfl) ?_
      refine lv_dup hx hb dX8_step_22 rfl ?_
      refine va_get (D := D) (ci := 8) (v := .int (z13.1 0 19)) (C := RX8) (T := TX8) (N := 45) hx hb ht tl_X8 hown hK hP 0 (wm_0 q ad z13) rfl 19 (by decide) (ht _ tw_fl_X8_93) (fun _ h9 => h9) rfl dX8_step_23 ?_
      refine lv_iconst (v := (1 : Int32)) hx hb dX8_step_26 (by decide) ?_
      refine lv_iadd hx hb dX8_step_27 ?_
      refine g_put (D := D) (Wd := WM q ad) (z := z13) (ci := 8) (v := .int ((z13.1 0 19) + (1 : Int32))) (ty := .int) (C := RX8) (T := TX8) (N := 45) hx hb ht tl_X8 tyX8 tyX8_ok nmX8 hown hK hP (hD z13) hS 0 (wm_0 q ad z13) rfl 19 (by decide) (ht _ tw_fl_X8_93) (fun _ h9 => h9) rfl rfl rfl rfl (Nat.le_of_ble_eq_true rfl) ((pm_0_19 q ad z13) ((z13.1 0 19) + (1 : Int32))) dX8_step_28 (fun z28 H locs hz28 hP hS => ?_)
      have h := h z28 hz28
      refine lv_goto (tgt := 8) hx hb dX8_step_31 (by decide) ?_
      exact hrec8 z28 _ _ _ h hP hS (lv_sub hl [0] rfl)
  have L8 : ∀ (n : Nat) (z : MX) (H : Heap) (locs : List Loc) (ls : Array Slot), pX8_step_L8  post n z → va_P D vwCl (WM q ad z) H → va_S A s.heap H locs → lv_has ls 2 [(0, .ref (ad 0))] → W p l e (headSpec (cW yX8_step cX8_step 2 none) ({ frames := 1, cells := 0, slots := 0, locals := 25 } : Room)).room s m args below meth c H locs 0 0 (MQ below (va_Qv post (gB D vwCl (WM q ad) (mE D q)) A) args s 0 0 A) (F0 m 8 ls []) := by
    intro n
    induction n with
    | zero =>
      intro z H locs ls h
      exact False.elim h
    | succ n ih =>
      intro z H locs ls h hP hS hl
      exact B8 (pX8_step_L8  post n) ih z H locs ls h hP hS hl
  refine g_entry (vs := [.ref (ad 0)]) hargs (Nat.le_of_ble_eq_true rfl) (fun ls hl => ?_)
  have hl : lv_has ls 2 [(0, .ref (ad 0))] := hl
  unfold pX8_step at h
  refine lv_aload_n hx hb dX8_step_0 rfl (lv_at hl 0 rfl) ?_
  refine va_get (D := D) (ci := 8) (v := .int (z.1 0 17)) (C := RX8) (T := TX8) (N := 45) hx hb ht tl_X8 hown hK hP 0 (wm_0 q ad z) rfl 17 (by decide) (ht _ tw_fl_X8_81) (fun _ h9 => h9) rfl dX8_step_1 ?_
  refine lv_if_le (tgt := 8) hx hb dX8_step_4 (by decide) (fun c4 => ?_) (fun c4 => ?_)
  · have h := h.1 c4
    obtain ⟨n, h⟩ := h
    exact L8 n z _ _ _ h hP hS (lv_sub hl [0] rfl)
  · have h := h.2 c4
    exact g_rv hG hx hb hr hlocks hE hP hS h dX8_step_7
def pX8_nameHere_b106 (rec2 : MX → Int32 → Prop) (post : Int32 → MX → Prop) (z : MX) (x1 : Int32) (x2 : Int32) : Prop :=
    ((x2 = 0 →
      ∀ x1_112 : Int32, x1_112 = x1 + (1 : Int32) →
      rec2 z x1_112) ∧
    (¬ x2 = 0 →
      post x1 z))
def pX8_nameHere_b99 (rec2 : MX → Int32 → Prop) (rec51 : MX → Int32 → Int32 → Int32 → Prop) (post : Int32 → MX → Prop) (z : MX) (x1 : Int32) (x3 : Int32) (y0 : Int32) : Prop :=
    ∀ x3_100 : Int32, x3_100 = x3 + (1 : Int32) →
    rec51 z x1 y0 x3_100
def pX8_nameHere_l51 (rec2 : MX → Int32 → Prop) (rec51 : MX → Int32 → Int32 → Int32 → Prop) (post : Int32 → MX → Prop) (z : MX) (x1 : Int32) (x2 : Int32) (x3 : Int32) : Prop :=
    ((x2 = 0 →
      pX8_nameHere_b106  rec2 post z x1 x2) ∧
    (¬ x2 = 0 →
      ((((z.1 0 19) - (z.1 0 20)) ≤ x3 →
        pX8_nameHere_b106  rec2 post z x1 x2) ∧
      (¬ ((z.1 0 19) - (z.1 0 20)) ≤ x3 →
        pX8_byteAt z ((z.1 0 20) + x3) (fun (r75 : Int32) (z75 : MX) =>
        vp_in x1 14 ∧
        vp_in ((z75.1 7 (Int32.toNatClampNeg x1)) + x3) 66 ∧
        ((¬ r75 = (z75.1 8 (Int32.toNatClampNeg ((z75.1 7 (Int32.toNatClampNeg x1)) + x3))) →
          pX8_nameHere_b99  rec2 rec51 post z75 x1 x3 (0 : Int32)) ∧
        (r75 = (z75.1 8 (Int32.toNatClampNeg ((z75.1 7 (Int32.toNatClampNeg x1)) + x3))) →
          pX8_nameHere_b99  rec2 rec51 post z75 x1 x3 (1 : Int32))))))))
def pX8_nameHere_L51 (rec2 : MX → Int32 → Prop) (post : Int32 → MX → Prop) : Nat → MX → Int32 → Int32 → Int32 → Prop
  | 0 => fun _ _ _ _ => False
  | n + 1 => fun z x1 x2 x3 => pX8_nameHere_l51  rec2 (pX8_nameHere_L51  rec2 post n) post z x1 x2 x3
def pX8_nameHere_b48 (rec2 : MX → Int32 → Prop) (post : Int32 → MX → Prop) (z : MX) (x1 : Int32) (y0 : Int32) : Prop :=
    ∃ n, pX8_nameHere_L51  rec2 post n z x1 y0 (0 : Int32)
def pX8_nameHere_l2 (rec2 : MX → Int32 → Prop) (post : Int32 → MX → Prop) (z : MX) (x1 : Int32) : Prop :=
    (((13 : Int32) ≤ x1 →
      post (-4 : Int32) z) ∧
    (¬ (13 : Int32) ≤ x1 →
      ((¬ (z.1 0 21) = (1 : Int32) →
        post (-4 : Int32) z) ∧
      ((z.1 0 21) = (1 : Int32) →
        vp_in (x1 + (1 : Int32)) 14 ∧
        vp_in x1 14 ∧
        ((¬ ((z.1 0 19) - (z.1 0 20)) = ((z.1 7 (Int32.toNatClampNeg (x1 + (1 : Int32)))) - (z.1 7 (Int32.toNatClampNeg x1))) →
          pX8_nameHere_b48  rec2 post z x1 (0 : Int32)) ∧
        (((z.1 0 19) - (z.1 0 20)) = ((z.1 7 (Int32.toNatClampNeg (x1 + (1 : Int32)))) - (z.1 7 (Int32.toNatClampNeg x1))) →
          pX8_nameHere_b48  rec2 post z x1 (1 : Int32)))))))
def pX8_nameHere_L2 (post : Int32 → MX → Prop) : Nat → MX → Int32 → Prop
  | 0 => fun _ _ => False
  | n + 1 => fun z x1 => pX8_nameHere_l2  (pX8_nameHere_L2  post n) post z x1
def pX8_nameHere (z : MX) (post : Int32 → MX → Prop) : Prop :=
  ∃ n, pX8_nameHere_L2  post n z (0 : Int32)
set_option maxHeartbeats 4000000 in
set_option maxRecDepth 100000 in
theorem kX8_nameHere (l : Launch) (D : va_G) (q : Nat → ClassId) (ad : Nat → Nat) (A : Nat → Prop) (hD : ∀ z, va_D A (WM q ad z)) (z : MX) (post : Int32 → MX → Prop) (h : pX8_nameHere  z post) : Met l yX8_nameHere (cW yX8_nameHere cX8_nameHere 4 (some .int)) ({ frames := 1, cells := 0, slots := 0, locals := 21 } : Room) (va_Pc [.ref (ad 0)] ((gB D vwCl (WM q ad) (mE D q)) z)) (va_Qi post (gB D vwCl (WM q ad) (mE D q)) A) 0 0 A := by
  refine Met.ofW (cc := cX8_nameHere) (maxL := 4) (ret := (some .int)) (by decide) rfl ?_
  intro p e s m args below meth c s₁ B hml hv
  obtain ⟨hargs, hP, hE⟩ := hv
  have hx := B.exec
  have hb := B.bytes
  have hr := B.returns
  have hts := atoms_spec (ws := (cW yX8_nameHere cX8_nameHere 4 (some .int))) B.pre
  have ht : ∀ w ∈ tG, w.before args s = true := fun w h => hts w (List.mem_cons_of_mem _ h)
  have hown : s.vm.findClass RX8 = some m.cls := findClass_of_methodNamed B.named
  have hlocks := B.notSynchronized
  have hK := hE.1
  have hG := mE_G D q A
  have S : CallFix p m c cX8_nameHere 4 s args tG RX8 := ⟨hx, hb, hml, hown, ht⟩
  have hS : va_S A s.heap s.heap [] := va_S.rf
  have B106 : ∀ (rec2 : MX → Int32 → Prop) (hrec2 : ∀ (z : MX) (x1 : Int32) (H : Heap) (locs : List Loc) (ls : Array Slot), rec2 z x1 → va_P D vwCl (WM q ad z) H → va_S A s.heap H locs → lv_has ls 4 [(0, .ref (ad 0)), (1, .int x1)] → W p l e (headSpec (cW yX8_nameHere cX8_nameHere 4 (some .int)) ({ frames := 1, cells := 0, slots := 0, locals := 21 } : Room)).room s m args below meth c H locs 0 0 (MQ below (va_Qi post (gB D vwCl (WM q ad) (mE D q)) A) args s 0 0 A) (F0 m 2 ls [])) (z : MX) (x1 : Int32) (x2 : Int32) (H : Heap) (locs : List Loc) (ls : Array Slot), pX8_nameHere_b106  rec2 post z x1 x2 → va_P D vwCl (WM q ad z) H → va_S A s.heap H locs → lv_has ls 4 [(0, .ref (ad 0)), (1, .int x1), (2, .int x2)] → W p l e (headSpec (cW yX8_nameHere cX8_nameHere 4 (some .int)) ({ frames := 1, cells := 0, slots := 0, locals := 21 } : Room)).room s m args below meth c H locs 0 0 (MQ below (va_Qi post (gB D vwCl (WM q ad) (mE D q)) A) args s 0 0 A) (F0 m 106 ls []) := by
    intro rec2 hrec2 z x1 x2 H locs ls h hP hS hl
    unfold pX8_nameHere_b106 at h
    refine lv_iload_n hx hb dX8_nameHere_106 rfl (lv_at hl 2 rfl) ?_
    refine lv_if_eq (tgt := 112) hx hb dX8_nameHere_107 (by decide) (fun c107 => ?_) (fun c107 => ?_)
    · have h := h.1 c107
      obtain ⟨x1_112, ex1_112⟩ : ∃ w : Int32, w = x1 + (1 : Int32) := ⟨_, rfl⟩
      have h := h x1_112 ex1_112
      refine lv_iinc (v := x1_112) (lv' := [(1, .int x1_112), (0, .ref (ad 0)), (2, .int x2)]) hx hb dX8_nameHere_112 hl (k := 1) rfl (by rw [ex1_112]; rfl) (by decide) rfl (fun ls hl => ?_)
      refine lv_goto (tgt := 2) hx hb dX8_nameHere_115 (by decide) ?_
      exact hrec2 z x1_112 _ _ _ h hP hS (lv_sub hl [1, 0] rfl)
    · have h := h.2 c107
      refine lv_iload_n hx hb dX8_nameHere_110 rfl (lv_at hl 1 rfl) ?_
      exact g_ri hG hx hb hr hlocks hE hP hS h dX8_nameHere_111
  have B99 : ∀ (rec2 : MX → Int32 → Prop) (rec51 : MX → Int32 → Int32 → Int32 → Prop) (hrec2 : ∀ (z : MX) (x1 : Int32) (H : Heap) (locs : List Loc) (ls : Array Slot), rec2 z x1 → va_P D vwCl (WM q ad z) H → va_S A s.heap H locs → lv_has ls 4 [(0, .ref (ad 0)), (1, .int x1)] → W p l e (headSpec (cW yX8_nameHere cX8_nameHere 4 (some .int)) ({ frames := 1, cells := 0, slots := 0, locals := 21 } : Room)).room s m args below meth c H locs 0 0 (MQ below (va_Qi post (gB D vwCl (WM q ad) (mE D q)) A) args s 0 0 A) (F0 m 2 ls [])) (hrec51 : ∀ (z : MX) (x1 : Int32) (x2 : Int32) (x3 : Int32) (H : Heap) (locs : List Loc) (ls : Array Slot), rec51 z x1 x2 x3 → va_P D vwCl (WM q ad z) H → va_S A s.heap H locs → lv_has ls 4 [(0, .ref (ad 0)), (1, .int x1), (2, .int x2), (3, .int x3)] → W p l e (headSpec (cW yX8_nameHere cX8_nameHere 4 (some .int)) ({ frames := 1, cells := 0, slots := 0, locals := 21 } : Room)).room s m args below meth c H locs 0 0 (MQ below (va_Qi post (gB D vwCl (WM q ad) (mE D q)) A) args s 0 0 A) (F0 m 51 ls [])) (z : MX) (x1 : Int32) (x3 : Int32) (y0 : Int32) (H : Heap) (locs : List Loc) (ls : Array Slot), pX8_nameHere_b99  rec2 rec51 post z x1 x3 y0 → va_P D vwCl (WM q ad z) H → va_S A s.heap H locs → lv_has ls 4 [(0, .ref (ad 0)), (1, .int x1), (3, .int x3)] → W p l e (headSpec (cW yX8_nameHere cX8_nameHere 4 (some .int)) ({ frames := 1, cells := 0, slots := 0, locals := 21 } : Room)).room s m args below meth c H locs 0 0 (MQ below (va_Qi post (gB D vwCl (WM q ad) (mE D q)) A) args s 0 0 A) (F0 m 99 ls [.int y0]) := by
    intro rec2 rec51 hrec2 hrec51 z x1 x3 y0 H locs ls h hP hS hl
    unfold pX8_nameHere_b99 at h
    refine lv_istore_n (lv' := [(2, .int y0), (0, .ref (ad 0)), (1, .int x1), (3, .int x3)]) hx hb dX8_nameHere_99 rfl hl (by decide) rfl (fun ls hl => ?_)
    obtain ⟨x3_100, ex3_100⟩ : ∃ w : Int32, w = x3 + (1 : Int32) := ⟨_, rfl⟩
    have h := h x3_100 ex3_100
    refine lv_iinc (v := x3_100) (lv' := [(3, .int x3_100), (2, .int y0), (0, .ref (ad 0)), (1, .int x1)]) hx hb dX8_nameHere_100 hl (k := 3) rfl (by rw [ex3_100]; rfl) (by decide) rfl (fun ls hl => ?_)
    refine lv_goto (tgt := 51) hx hb dX8_nameHere_103 (by decide) ?_
    exact hrec51 z x1 y0 x3_100 _ _ _ h hP hS (lv_sub hl [2, 3, 1, 0] rfl)
  have B51 : ∀ (rec2 : MX → Int32 → Prop) (rec51 : MX → Int32 → Int32 → Int32 → Prop) (hrec2 : ∀ (z : MX) (x1 : Int32) (H : Heap) (locs : List Loc) (ls : Array Slot), rec2 z x1 → va_P D vwCl (WM q ad z) H → va_S A s.heap H locs → lv_has ls 4 [(0, .ref (ad 0)), (1, .int x1)] → W p l e (headSpec (cW yX8_nameHere cX8_nameHere 4 (some .int)) ({ frames := 1, cells := 0, slots := 0, locals := 21 } : Room)).room s m args below meth c H locs 0 0 (MQ below (va_Qi post (gB D vwCl (WM q ad) (mE D q)) A) args s 0 0 A) (F0 m 2 ls [])) (hrec51 : ∀ (z : MX) (x1 : Int32) (x2 : Int32) (x3 : Int32) (H : Heap) (locs : List Loc) (ls : Array Slot), rec51 z x1 x2 x3 → va_P D vwCl (WM q ad z) H → va_S A s.heap H locs → lv_has ls 4 [(0, .ref (ad 0)), (1, .int x1), (2, .int x2), (3, .int x3)] → W p l e (headSpec (cW yX8_nameHere cX8_nameHere 4 (some .int)) ({ frames := 1, cells := 0, slots := 0, locals := 21 } : Room)).room s m args below meth c H locs 0 0 (MQ below (va_Qi post (gB D vwCl (WM q ad) (mE D q)) A) args s 0 0 A) (F0 m 51 ls [])) (z : MX) (x1 : Int32) (x2 : Int32) (x3 : Int32) (H : Heap) (locs : List Loc) (ls : Array Slot), pX8_nameHere_l51  rec2 rec51 post z x1 x2 x3 → va_P D vwCl (WM q ad z) H → va_S A s.heap H locs → lv_has ls 4 [(0, .ref (ad 0)), (1, .int x1), (2, .int x2), (3, .int x3)] → W p l e (headSpec (cW yX8_nameHere cX8_nameHere 4 (some .int)) ({ frames := 1, cells := 0, slots := 0, locals := 21 } : Room)).room s m args below meth c H locs 0 0 (MQ below (va_Qi post (gB D vwCl (WM q ad) (mE D q)) A) args s 0 0 A) (F0 m 51 ls []) := by
    intro rec2 rec51 hrec2 hrec51 z x1 x2 x3 H locs ls h hP hS hl
    unfold pX8_nameHere_l51 at h
    refine lv_iload_n hx hb dX8_nameHere_51 rfl (lv_at hl 2 rfl) ?_
    refine lv_if_eq (tgt := 106) hx hb dX8_nameHere_52 (by decide) (fun c52 => ?_) (fun c52 => ?_)
    · have h := h.1 c52
      exact B106 rec2 hrec2 z x1 x2 _ _ _ h hP hS (lv_sub hl [0, 1, 2] rfl)
    · have h := h.2 c52
      refine lv_iload_n hx hb dX8_nameHere_55 rfl (lv_at hl 3 rfl) ?_
      refine lv_aload_n hx hb dX8_nameHere_56 rfl (lv_at hl 0 rfl) ?_
      refine va_get (D := D) (ci := 8) (v := .int (z.1 0 19)) (C := RX8) (T := TX8) (N := 45) hx hb ht tl_X8 hown hK hP 0 (wm_0 q ad z) rfl 19 (by decide) (ht _ tw_fl_X8_93) (fun _ h9 => h9) rfl dX8_nameHere_57 ?_
      refine lv_aload_n hx hb dX8_nameHere_60 rfl (lv_at hl 0 rfl) ?_
      refine va_get (D := D) (ci := 8) (v := .int (z.1 0 20)) (C := RX8) (T := TX8) (N := 45) hx hb ht tl_X8 hown hK hP 0 (wm_0 q ad z) rfl 20 (by decide) (ht _ tw_fl_X8_84) (fun _ h9 => h9) rfl dX8_nameHere_61 ?_
      refine lv_isub hx hb dX8_nameHere_64 ?_
      refine lv_icmp_ge (tgt := 106) hx hb dX8_nameHere_65 (by decide) (fun c65 => ?_) (fun c65 => ?_)
      · have h := h.1 c65
        exact B106 rec2 hrec2 z x1 x2 _ _ _ h hP hS (lv_sub hl [0, 1, 2] rfl)
      · have h := h.2 c65
        refine lv_aload_n hx hb dX8_nameHere_68 rfl (lv_at hl 0 rfl) ?_
        refine lv_aload_n hx hb dX8_nameHere_69 rfl (lv_at hl 0 rfl) ?_
        refine va_get (D := D) (ci := 8) (v := .int (z.1 0 20)) (C := RX8) (T := TX8) (N := 45) hx hb ht tl_X8 hown hK hP 0 (wm_0 q ad z) rfl 20 (by decide) (ht _ tw_fl_X8_84) (fun _ h9 => h9) rfl dX8_nameHere_70 ?_
        refine lv_iload_n hx hb dX8_nameHere_73 rfl (lv_at hl 3 rfl) ?_
        refine lv_iadd hx hb dX8_nameHere_74 ?_
        refine g_cVi (Wd := WM q ad) (z := z) (As := [.int ((z.1 0 20) + x3)]) (rest := []) hG S (kX8_byteAt l D q ad A hD z ((z.1 0 20) + x3) _ h) (cwV 1 ht (cW_V (fun _ h => h) tw_co_X8_byteAt tw_ml_X8_96 tw_im_X8_byteAt tw_se_X8_byteAt tw_in_X8) rfl rfl rfl (by decide +kernel) ⟨by decide, by decide⟩) (va_recv hK hP (ci := 8) (q0 := 0) rfl (wm_0 q ad z)) hE hP hS rfl hl.1 rfl (Nat.le_of_ble_eq_true rfl) dX8_nameHere_75 ⟨Nat.zero_le _, Nat.zero_le _⟩ (fun r75 z75 H locs h hP hS => ?_)
        refine lv_aload_n hx hb dX8_nameHere_78 rfl (lv_at hl 0 rfl) ?_
        refine va_get (D := D) (ci := 8) (v := .ref (ad 8)) (C := RX8) (T := TX8) (N := 45) hx hb ht tl_X8 hown hK hP 0 (wm_0 q ad z75) rfl 24 (by decide) (ht _ tw_fl_X8_35) (fun _ h9 => h9) rfl dX8_nameHere_79 ?_
        refine lv_aload_n hx hb dX8_nameHere_82 rfl (lv_at hl 0 rfl) ?_
        refine va_get (D := D) (ci := 8) (v := .ref (ad 7)) (C := RX8) (T := TX8) (N := 45) hx hb ht tl_X8 hown hK hP 0 (wm_0 q ad z75) rfl 23 (by decide) (ht _ tw_fl_X8_32) (fun _ h9 => h9) rfl dX8_nameHere_83 ?_
        refine lv_iload_n hx hb dX8_nameHere_86 rfl (lv_at hl 1 rfl) ?_
        have hi87 := h.1
        have h := h.2
        refine va_iald hx hb hK hP 7 0 (wm_7 q ad z75) rfl hi87 dX8_nameHere_87 ?_
        refine lv_iload_n hx hb dX8_nameHere_88 rfl (lv_at hl 3 rfl) ?_
        refine lv_iadd hx hb dX8_nameHere_89 ?_
        have hi90 := h.1
        have h := h.2
        refine va_iald hx hb hK hP 8 0 (wm_8 q ad z75) rfl hi90 dX8_nameHere_90 ?_
        refine lv_icmp_ne (tgt := 98) hx hb dX8_nameHere_91 (by decide) (fun c91 => ?_) (fun c91 => ?_)
        · have h := h.1 c91
          refine lv_iconst (v := (0 : Int32)) hx hb dX8_nameHere_98 (by decide) ?_
          exact B99 rec2 rec51 hrec2 hrec51 z75 x1 x3 (0 : Int32) _ _ _ h hP hS (lv_sub hl [0, 1, 3] rfl)
        · have h := h.2 c91
          refine lv_iconst (v := (1 : Int32)) hx hb dX8_nameHere_94 (by decide) ?_
          refine lv_goto (tgt := 99) hx hb dX8_nameHere_95 (by decide) ?_
          exact B99 rec2 rec51 hrec2 hrec51 z75 x1 x3 (1 : Int32) _ _ _ h hP hS (lv_sub hl [0, 1, 3] rfl)
  have L51 : ∀ (rec2 : MX → Int32 → Prop) (hrec2 : ∀ (z : MX) (x1 : Int32) (H : Heap) (locs : List Loc) (ls : Array Slot), rec2 z x1 → va_P D vwCl (WM q ad z) H → va_S A s.heap H locs → lv_has ls 4 [(0, .ref (ad 0)), (1, .int x1)] → W p l e (headSpec (cW yX8_nameHere cX8_nameHere 4 (some .int)) ({ frames := 1, cells := 0, slots := 0, locals := 21 } : Room)).room s m args below meth c H locs 0 0 (MQ below (va_Qi post (gB D vwCl (WM q ad) (mE D q)) A) args s 0 0 A) (F0 m 2 ls [])) (n : Nat) (z : MX) (x1 : Int32) (x2 : Int32) (x3 : Int32) (H : Heap) (locs : List Loc) (ls : Array Slot), pX8_nameHere_L51  rec2 post n z x1 x2 x3 → va_P D vwCl (WM q ad z) H → va_S A s.heap H locs → lv_has ls 4 [(0, .ref (ad 0)), (1, .int x1), (2, .int x2), (3, .int x3)] → W p l e (headSpec (cW yX8_nameHere cX8_nameHere 4 (some .int)) ({ frames := 1, cells := 0, slots := 0, locals := 21 } : Room)).room s m args below meth c H locs 0 0 (MQ below (va_Qi post (gB D vwCl (WM q ad) (mE D q)) A) args s 0 0 A) (F0 m 51 ls []) := by
    intro rec2 hrec2 n
    induction n with
    | zero =>
      intro z x1 x2 x3 H locs ls h
      exact False.elim h
    | succ n ih =>
      intro z x1 x2 x3 H locs ls h hP hS hl
      exact B51 rec2 (pX8_nameHere_L51  rec2 post n) hrec2 ih z x1 x2 x3 H locs ls h hP hS hl
  have B48 : ∀ (rec2 : MX → Int32 → Prop) (hrec2 : ∀ (z : MX) (x1 : Int32) (H : Heap) (locs : List Loc) (ls : Array Slot), rec2 z x1 → va_P D vwCl (WM q ad z) H → va_S A s.heap H locs → lv_has ls 4 [(0, .ref (ad 0)), (1, .int x1)] → W p l e (headSpec (cW yX8_nameHere cX8_nameHere 4 (some .int)) ({ frames := 1, cells := 0, slots := 0, locals := 21 } : Room)).room s m args below meth c H locs 0 0 (MQ below (va_Qi post (gB D vwCl (WM q ad) (mE D q)) A) args s 0 0 A) (F0 m 2 ls [])) (z : MX) (x1 : Int32) (y0 : Int32) (H : Heap) (locs : List Loc) (ls : Array Slot), pX8_nameHere_b48  rec2 post z x1 y0 → va_P D vwCl (WM q ad z) H → va_S A s.heap H locs → lv_has ls 4 [(0, .ref (ad 0)), (1, .int x1)] → W p l e (headSpec (cW yX8_nameHere cX8_nameHere 4 (some .int)) ({ frames := 1, cells := 0, slots := 0, locals := 21 } : Room)).room s m args below meth c H locs 0 0 (MQ below (va_Qi post (gB D vwCl (WM q ad) (mE D q)) A) args s 0 0 A) (F0 m 48 ls [.int y0]) := by
    intro rec2 hrec2 z x1 y0 H locs ls h hP hS hl
    unfold pX8_nameHere_b48 at h
    refine lv_istore_n (lv' := [(2, .int y0), (0, .ref (ad 0)), (1, .int x1)]) hx hb dX8_nameHere_48 rfl hl (by decide) rfl (fun ls hl => ?_)
    refine lv_iconst (v := (0 : Int32)) hx hb dX8_nameHere_49 (by decide) ?_
    refine lv_istore_n (lv' := [(3, .int (0 : Int32)), (2, .int y0), (0, .ref (ad 0)), (1, .int x1)]) hx hb dX8_nameHere_50 rfl hl (by decide) rfl (fun ls hl => ?_)
    obtain ⟨n, h⟩ := h
    exact L51 rec2 hrec2 n z x1 y0 (0 : Int32) _ _ _ h hP hS (lv_sub hl [2, 3, 1, 0] rfl)
  have B2 : ∀ (rec2 : MX → Int32 → Prop) (hrec2 : ∀ (z : MX) (x1 : Int32) (H : Heap) (locs : List Loc) (ls : Array Slot), rec2 z x1 → va_P D vwCl (WM q ad z) H → va_S A s.heap H locs → lv_has ls 4 [(0, .ref (ad 0)), (1, .int x1)] → W p l e (headSpec (cW yX8_nameHere cX8_nameHere 4 (some .int)) ({ frames := 1, cells := 0, slots := 0, locals := 21 } : Room)).room s m args below meth c H locs 0 0 (MQ below (va_Qi post (gB D vwCl (WM q ad) (mE D q)) A) args s 0 0 A) (F0 m 2 ls [])) (z : MX) (x1 : Int32) (H : Heap) (locs : List Loc) (ls : Array Slot), pX8_nameHere_l2  rec2 post z x1 → va_P D vwCl (WM q ad z) H → va_S A s.heap H locs → lv_has ls 4 [(0, .ref (ad 0)), (1, .int x1)] → W p l e (headSpec (cW yX8_nameHere cX8_nameHere 4 (some .int)) ({ frames := 1, cells := 0, slots := 0, locals := 21 } : Room)).room s m args below meth c H locs 0 0 (MQ below (va_Qi post (gB D vwCl (WM q ad) (mE D q)) A) args s 0 0 A) (F0 m 2 ls []) := by
    intro rec2 hrec2 z x1 H locs ls h hP hS hl
    unfold pX8_nameHere_l2 at h
    refine lv_iload_n hx hb dX8_nameHere_2 rfl (lv_at hl 1 rfl) ?_
    refine lv_bipush (v := (13 : Int32)) hx hb dX8_nameHere_3 (by decide) ?_
    refine lv_icmp_ge (tgt := 118) hx hb dX8_nameHere_5 (by decide) (fun c5 => ?_) (fun c5 => ?_)
    · have h := h.1 c5
      refine lv_bipush (v := (-4 : Int32)) hx hb dX8_nameHere_118 (by decide) ?_
      exact g_ri hG hx hb hr hlocks hE hP hS h dX8_nameHere_120
    · have h := h.2 c5
      refine lv_aload_n hx hb dX8_nameHere_8 rfl (lv_at hl 0 rfl) ?_
      refine va_get (D := D) (ci := 8) (v := .int (z.1 0 21)) (C := RX8) (T := TX8) (N := 45) hx hb ht tl_X8 hown hK hP 0 (wm_0 q ad z) rfl 21 (by decide) (ht _ tw_fl_X8_90) (fun _ h9 => h9) rfl dX8_nameHere_9 ?_
      refine lv_iconst (v := (1 : Int32)) hx hb dX8_nameHere_12 (by decide) ?_
      refine lv_icmp_ne (tgt := 118) hx hb dX8_nameHere_13 (by decide) (fun c13 => ?_) (fun c13 => ?_)
      · have h := h.1 c13
        refine lv_bipush (v := (-4 : Int32)) hx hb dX8_nameHere_118 (by decide) ?_
        exact g_ri hG hx hb hr hlocks hE hP hS h dX8_nameHere_120
      · have h := h.2 c13
        refine lv_aload_n hx hb dX8_nameHere_16 rfl (lv_at hl 0 rfl) ?_
        refine va_get (D := D) (ci := 8) (v := .int (z.1 0 19)) (C := RX8) (T := TX8) (N := 45) hx hb ht tl_X8 hown hK hP 0 (wm_0 q ad z) rfl 19 (by decide) (ht _ tw_fl_X8_93) (fun _ h9 => h9) rfl dX8_nameHere_17 ?_
        refine lv_aload_n hx hb dX8_nameHere_20 rfl (lv_at hl 0 rfl) ?_
        refine va_get (D := D) (ci := 8) (v := .int (z.1 0 20)) (C := RX8) (T := TX8) (N := 45) hx hb ht tl_X8 hown hK hP 0 (wm_0 q ad z) rfl 20 (by decide) (ht _ tw_fl_X8_84) (fun _ h9 => h9) rfl dX8_nameHere_21 ?_
        refine lv_isub hx hb dX8_nameHere_24 ?_
        refine lv_aload_n hx hb dX8_nameHere_25 rfl (lv_at hl 0 rfl) ?_
        refine va_get (D := D) (ci := 8) (v := .ref (ad 7)) (C := RX8) (T := TX8) (N := 45) hx hb ht tl_X8 hown hK hP 0 (wm_0 q ad z) rfl 23 (by decide) (ht _ tw_fl_X8_32) (fun _ h9 => h9) rfl dX8_nameHere_26 ?_
        refine lv_iload_n hx hb dX8_nameHere_29 rfl (lv_at hl 1 rfl) ?_
        refine lv_iconst (v := (1 : Int32)) hx hb dX8_nameHere_30 (by decide) ?_
        refine lv_iadd hx hb dX8_nameHere_31 ?_
        have hi32 := h.1
        have h := h.2
        refine va_iald hx hb hK hP 7 0 (wm_7 q ad z) rfl hi32 dX8_nameHere_32 ?_
        refine lv_aload_n hx hb dX8_nameHere_33 rfl (lv_at hl 0 rfl) ?_
        refine va_get (D := D) (ci := 8) (v := .ref (ad 7)) (C := RX8) (T := TX8) (N := 45) hx hb ht tl_X8 hown hK hP 0 (wm_0 q ad z) rfl 23 (by decide) (ht _ tw_fl_X8_32) (fun _ h9 => h9) rfl dX8_nameHere_34 ?_
        refine lv_iload_n hx hb dX8_nameHere_37 rfl (lv_at hl 1 rfl) ?_
        have hi38 := h.1
        have h := h.2
        refine va_iald hx hb hK hP 7 0 (wm_7 q ad z) rfl hi38 dX8_nameHere_38 ?_
        refine lv_isub hx hb dX8_nameHere_39 ?_
        refine lv_icmp_ne (tgt := 47) hx hb dX8_nameHere_40 (by decide) (fun c40 => ?_) (fun c40 => ?_)
        · have h := h.1 c40
          refine lv_iconst (v := (0 : Int32)) hx hb dX8_nameHere_47 (by decide) ?_
          exact B48 rec2 hrec2 z x1 (0 : Int32) _ _ _ h hP hS (lv_sub hl [0, 1] rfl)
        · have h := h.2 c40
          refine lv_iconst (v := (1 : Int32)) hx hb dX8_nameHere_43 (by decide) ?_
          refine lv_goto (tgt := 48) hx hb dX8_nameHere_44 (by decide) ?_
          exact B48 rec2 hrec2 z x1 (1 : Int32) _ _ _ h hP hS (lv_sub hl [0, 1] rfl)
  have L2 : ∀ (n : Nat) (z : MX) (x1 : Int32) (H : Heap) (locs : List Loc) (ls : Array Slot), pX8_nameHere_L2  post n z x1 → va_P D vwCl (WM q ad z) H → va_S A s.heap H locs → lv_has ls 4 [(0, .ref (ad 0)), (1, .int x1)] → W p l e (headSpec (cW yX8_nameHere cX8_nameHere 4 (some .int)) ({ frames := 1, cells := 0, slots := 0, locals := 21 } : Room)).room s m args below meth c H locs 0 0 (MQ below (va_Qi post (gB D vwCl (WM q ad) (mE D q)) A) args s 0 0 A) (F0 m 2 ls []) := by
    intro n
    induction n with
    | zero =>
      intro z x1 H locs ls h
      exact False.elim h
    | succ n ih =>
      intro z x1 H locs ls h hP hS hl
      exact B2 (pX8_nameHere_L2  post n) ih z x1 H locs ls h hP hS hl
  refine g_entry (vs := [.ref (ad 0)]) hargs (Nat.le_of_ble_eq_true rfl) (fun ls hl => ?_)
  have hl : lv_has ls 4 [(0, .ref (ad 0))] := hl
  unfold pX8_nameHere at h
  refine lv_iconst (v := (0 : Int32)) hx hb dX8_nameHere_0 (by decide) ?_
  refine lv_istore_n (lv' := [(1, .int (0 : Int32)), (0, .ref (ad 0))]) hx hb dX8_nameHere_1 rfl hl (by decide) rfl (fun ls hl => ?_)
  obtain ⟨n, h⟩ := h
  exact L2 n z (0 : Int32) _ _ _ h hP hS (lv_sub hl [1, 0] rfl)
def pX8_other_b86 (post : Int32 → MX → Prop) (z : MX) (y0 : Int32) : Prop :=
    pX8_step z (fun (z89 : MX) =>
    post y0 z89)
def pX8_other_b71 (post : Int32 → MX → Prop) (z : MX) (x1 : Int32) : Prop :=
    ((¬ (z.1 0 17) = 0 →
      pX8_other_b86  post z x1) ∧
    ((z.1 0 17) = 0 →
      pX8_other_b86  post z (z.1 0 22)))
def pX8_other_b47 (post : Int32 → MX → Prop) (z : MX) (x1 : Int32) (x3 : Int32) : Prop :=
    ((¬ (z.1 0 17) = 0 →
      pX8_other_b71  post z x1) ∧
    ((z.1 0 17) = 0 →
      ((¬ ((x3 >>> ((z.1 0 22) &&& 31)) &&& (1 : Int32)) = (1 : Int32) →
        pX8_other_b71  post z x1) ∧
      (((x3 >>> ((z.1 0 22) &&& 31)) &&& (1 : Int32)) = (1 : Int32) →
        pX8_fails z (4 : Int32) (fun (z68 : MX) =>
        pX8_other_b71  post z68 x1)))))
def pX8_other_b20 (post : Int32 → MX → Prop) (z : MX) (x1 : Int32) (x2 : Int32) (x3 : Int32) : Prop :=
    ((¬ (z.1 0 17) = 0 →
      pX8_other_b47  post z x1 x3) ∧
    ((z.1 0 17) = 0 →
      pX8_in z (Int32.toInt64 (z.1 0 22)) (Int32.toInt64 x1) (Int32.toInt64 x2) (fun (r36 : Int32) (z36 : MX) =>
      ((¬ r36 = 0 →
        pX8_other_b47  post z36 x1 x3) ∧
      (r36 = 0 →
        pX8_fails z36 (3 : Int32) (fun (z44 : MX) =>
        pX8_other_b47  post z44 x1 x3))))))
def pX8_other (z : MX) (x1 : Int32) (x2 : Int32) (x3 : Int32) (post : Int32 → MX → Prop) : Prop :=
  ((¬ (z.1 0 17) = 0 →
    pX8_other_b20  post z x1 x2 x3) ∧
  ((z.1 0 17) = 0 →
    (((z.1 0 21) = (2 : Int32) →
      pX8_other_b20  post z x1 x2 x3) ∧
    (¬ (z.1 0 21) = (2 : Int32) →
      pX8_fails z (2 : Int32) (fun (z17 : MX) =>
      pX8_other_b20  post z17 x1 x2 x3)))))
set_option maxHeartbeats 4000000 in
set_option maxRecDepth 100000 in
theorem kX8_other (l : Launch) (D : va_G) (q : Nat → ClassId) (ad : Nat → Nat) (A : Nat → Prop) (hD : ∀ z, va_D A (WM q ad z)) (z : MX) (x1 : Int32) (x2 : Int32) (x3 : Int32) (post : Int32 → MX → Prop) (h : pX8_other  z x1 x2 x3 post) : Met l yX8_other (cW yX8_other cX8_other 5 (some .int)) ({ frames := 2, cells := 0, slots := 0, locals := 46 } : Room) (va_Pc [.ref (ad 0), .int x1, .int x2, .int x3] ((gB D vwCl (WM q ad) (mE D q)) z)) (va_Qi post (gB D vwCl (WM q ad) (mE D q)) A) 0 0 A := by
  refine Met.ofW (cc := cX8_other) (maxL := 5) (ret := (some .int)) (by decide) rfl ?_
  intro p e s m args below meth c s₁ B hml hv
  obtain ⟨hargs, hP, hE⟩ := hv
  have hx := B.exec
  have hb := B.bytes
  have hr := B.returns
  have hts := atoms_spec (ws := (cW yX8_other cX8_other 5 (some .int))) B.pre
  have ht : ∀ w ∈ tG, w.before args s = true := fun w h => hts w (List.mem_cons_of_mem _ h)
  have hown : s.vm.findClass RX8 = some m.cls := findClass_of_methodNamed B.named
  have hlocks := B.notSynchronized
  have hK := hE.1
  have hG := mE_G D q A
  have S : CallFix p m c cX8_other 5 s args tG RX8 := ⟨hx, hb, hml, hown, ht⟩
  have hS : va_S A s.heap s.heap [] := va_S.rf
  have B86 : ∀ (z : MX) (y0 : Int32) (H : Heap) (locs : List Loc) (ls : Array Slot), pX8_other_b86  post z y0 → va_P D vwCl (WM q ad z) H → va_S A s.heap H locs → lv_has ls 5 [(0, .ref (ad 0))] → W p l e (headSpec (cW yX8_other cX8_other 5 (some .int)) ({ frames := 2, cells := 0, slots := 0, locals := 46 } : Room)).room s m args below meth c H locs 0 0 (MQ below (va_Qi post (gB D vwCl (WM q ad) (mE D q)) A) args s 0 0 A) (F0 m 86 ls [.int y0]) := by
    intro z y0 H locs ls h hP hS hl
    unfold pX8_other_b86 at h
    refine lv_istore (lv' := [(4, .int y0), (0, .ref (ad 0))]) hx hb dX8_other_86 hl (by decide) rfl (fun ls hl => ?_)
    refine lv_aload_n hx hb dX8_other_88 rfl (lv_at hl 1 rfl) ?_
    refine g_cVv (Wd := WM q ad) (z := z) (As := []) (rest := []) hG S (kX8_step l D q ad A hD z _ h) (cwV 0 ht (cW_V (fun _ h => h) tw_co_X8_step tw_ml_X8_115 tw_im_X8_step tw_se_X8_step tw_in_X8) rfl rfl rfl (by decide +kernel) ⟨by decide, by decide⟩) (va_recv hK hP (ci := 8) (q0 := 0) rfl (wm_0 q ad z)) hE hP hS rfl hl.1 rfl (Nat.le_of_ble_eq_true rfl) dX8_other_89 ⟨Nat.zero_le _, Nat.zero_le _⟩ (fun z89 H locs h hP hS => ?_)
    refine lv_iload hx hb dX8_other_92 (lv_at hl 0 rfl) ?_
    exact g_ri hG hx hb hr hlocks hE hP hS h dX8_other_94
  have B71 : ∀ (z : MX) (x1 : Int32) (H : Heap) (locs : List Loc) (ls : Array Slot), pX8_other_b71  post z x1 → va_P D vwCl (WM q ad z) H → va_S A s.heap H locs → lv_has ls 5 [(0, .ref (ad 0)), (1, .int x1)] → W p l e (headSpec (cW yX8_other cX8_other 5 (some .int)) ({ frames := 2, cells := 0, slots := 0, locals := 46 } : Room)).room s m args below meth c H locs 0 0 (MQ below (va_Qi post (gB D vwCl (WM q ad) (mE D q)) A) args s 0 0 A) (F0 m 71 ls []) := by
    intro z x1 H locs ls h hP hS hl
    unfold pX8_other_b71 at h
    refine lv_aload_n hx hb dX8_other_71 rfl (lv_at hl 0 rfl) ?_
    refine va_get (D := D) (ci := 8) (v := .int (z.1 0 17)) (C := RX8) (T := TX8) (N := 45) hx hb ht tl_X8 hown hK hP 0 (wm_0 q ad z) rfl 17 (by decide) (ht _ tw_fl_X8_81) (fun _ h9 => h9) rfl dX8_other_72 ?_
    refine lv_if_ne (tgt := 85) hx hb dX8_other_75 (by decide) (fun c75 => ?_) (fun c75 => ?_)
    · have h := h.1 c75
      refine lv_iload_n hx hb dX8_other_85 rfl (lv_at hl 1 rfl) ?_
      exact B86 z x1 _ _ _ h hP hS (lv_sub hl [0] rfl)
    · have h := h.2 c75
      refine lv_aload_n hx hb dX8_other_78 rfl (lv_at hl 0 rfl) ?_
      refine va_get (D := D) (ci := 8) (v := .int (z.1 0 22)) (C := RX8) (T := TX8) (N := 45) hx hb ht tl_X8 hown hK hP 0 (wm_0 q ad z) rfl 22 (by decide) (ht _ tw_fl_X8_100) (fun _ h9 => h9) rfl dX8_other_79 ?_
      refine lv_goto (tgt := 86) hx hb dX8_other_82 (by decide) ?_
      exact B86 z (z.1 0 22) _ _ _ h hP hS (lv_sub hl [0] rfl)
  have B47 : ∀ (z : MX) (x1 : Int32) (x3 : Int32) (H : Heap) (locs : List Loc) (ls : Array Slot), pX8_other_b47  post z x1 x3 → va_P D vwCl (WM q ad z) H → va_S A s.heap H locs → lv_has ls 5 [(0, .ref (ad 0)), (1, .int x1), (3, .int x3)] → W p l e (headSpec (cW yX8_other cX8_other 5 (some .int)) ({ frames := 2, cells := 0, slots := 0, locals := 46 } : Room)).room s m args below meth c H locs 0 0 (MQ below (va_Qi post (gB D vwCl (WM q ad) (mE D q)) A) args s 0 0 A) (F0 m 47 ls []) := by
    intro z x1 x3 H locs ls h hP hS hl
    unfold pX8_other_b47 at h
    refine lv_aload_n hx hb dX8_other_47 rfl (lv_at hl 0 rfl) ?_
    refine va_get (D := D) (ci := 8) (v := .int (z.1 0 17)) (C := RX8) (T := TX8) (N := 45) hx hb ht tl_X8 hown hK hP 0 (wm_0 q ad z) rfl 17 (by decide) (ht _ tw_fl_X8_81) (fun _ h9 => h9) rfl dX8_other_48 ?_
    refine lv_if_ne (tgt := 71) hx hb dX8_other_51 (by decide) (fun c51 => ?_) (fun c51 => ?_)
    · have h := h.1 c51
      exact B71 z x1 _ _ _ h hP hS (lv_sub hl [0, 1] rfl)
    · have h := h.2 c51
      refine lv_iload_n hx hb dX8_other_54 rfl (lv_at hl 2 rfl) ?_
      refine lv_aload_n hx hb dX8_other_55 rfl (lv_at hl 0 rfl) ?_
      refine va_get (D := D) (ci := 8) (v := .int (z.1 0 22)) (C := RX8) (T := TX8) (N := 45) hx hb ht tl_X8 hown hK hP 0 (wm_0 q ad z) rfl 22 (by decide) (ht _ tw_fl_X8_100) (fun _ h9 => h9) rfl dX8_other_56 ?_
      refine lv_ishr hx hb dX8_other_59 ?_
      refine lv_iconst (v := (1 : Int32)) hx hb dX8_other_60 (by decide) ?_
      refine lv_iand hx hb dX8_other_61 ?_
      refine lv_iconst (v := (1 : Int32)) hx hb dX8_other_62 (by decide) ?_
      refine lv_icmp_ne (tgt := 71) hx hb dX8_other_63 (by decide) (fun c63 => ?_) (fun c63 => ?_)
      · have h := h.1 c63
        exact B71 z x1 _ _ _ h hP hS (lv_sub hl [0, 1] rfl)
      · have h := h.2 c63
        refine lv_aload_n hx hb dX8_other_66 rfl (lv_at hl 0 rfl) ?_
        refine lv_iconst (v := (4 : Int32)) hx hb dX8_other_67 (by decide) ?_
        refine g_cVv (Wd := WM q ad) (z := z) (As := [.int (4 : Int32)]) (rest := []) hG S (kX8_fails l D q ad A hD z (4 : Int32) _ h) (cwV 1 ht (cW_V (fun _ h => h) tw_co_X8_fails tw_ml_X8_111 tw_im_X8_fails tw_se_X8_fails tw_in_X8) rfl rfl rfl (by decide +kernel) ⟨by decide, by decide⟩) (va_recv hK hP (ci := 8) (q0 := 0) rfl (wm_0 q ad z)) hE hP hS rfl hl.1 rfl (Nat.le_of_ble_eq_true rfl) dX8_other_68 ⟨Nat.zero_le _, Nat.zero_le _⟩ (fun z68 H locs h hP hS => ?_)
        exact B71 z68 x1 _ _ _ h hP hS (lv_sub hl [0, 1] rfl)
  have B20 : ∀ (z : MX) (x1 : Int32) (x2 : Int32) (x3 : Int32) (H : Heap) (locs : List Loc) (ls : Array Slot), pX8_other_b20  post z x1 x2 x3 → va_P D vwCl (WM q ad z) H → va_S A s.heap H locs → lv_has ls 5 [(0, .ref (ad 0)), (1, .int x1), (2, .int x2), (3, .int x3)] → W p l e (headSpec (cW yX8_other cX8_other 5 (some .int)) ({ frames := 2, cells := 0, slots := 0, locals := 46 } : Room)).room s m args below meth c H locs 0 0 (MQ below (va_Qi post (gB D vwCl (WM q ad) (mE D q)) A) args s 0 0 A) (F0 m 20 ls []) := by
    intro z x1 x2 x3 H locs ls h hP hS hl
    unfold pX8_other_b20 at h
    refine lv_aload_n hx hb dX8_other_20 rfl (lv_at hl 0 rfl) ?_
    refine va_get (D := D) (ci := 8) (v := .int (z.1 0 17)) (C := RX8) (T := TX8) (N := 45) hx hb ht tl_X8 hown hK hP 0 (wm_0 q ad z) rfl 17 (by decide) (ht _ tw_fl_X8_81) (fun _ h9 => h9) rfl dX8_other_21 ?_
    refine lv_if_ne (tgt := 47) hx hb dX8_other_24 (by decide) (fun c24 => ?_) (fun c24 => ?_)
    · have h := h.1 c24
      exact B47 z x1 x3 _ _ _ h hP hS (lv_sub hl [0, 1, 3] rfl)
    · have h := h.2 c24
      refine lv_aload_n hx hb dX8_other_27 rfl (lv_at hl 0 rfl) ?_
      refine va_get (D := D) (ci := 8) (v := .int (z.1 0 22)) (C := RX8) (T := TX8) (N := 45) hx hb ht tl_X8 hown hK hP 0 (wm_0 q ad z) rfl 22 (by decide) (ht _ tw_fl_X8_100) (fun _ h9 => h9) rfl dX8_other_28 ?_
      refine lv_i2l hx hb dX8_other_31 rfl ?_
      refine lv_iload_n hx hb dX8_other_32 rfl (lv_at hl 1 rfl) ?_
      refine lv_i2l hx hb dX8_other_33 rfl ?_
      refine lv_iload_n hx hb dX8_other_34 rfl (lv_at hl 2 rfl) ?_
      refine lv_i2l hx hb dX8_other_35 rfl ?_
      refine g_cSi (Wd := WM q ad) (z := z) (As := [.long (Int32.toInt64 (z.1 0 22)), .long (Int32.toInt64 x1), .long (Int32.toInt64 x2)]) (rest := []) hG S (kX8_in l D q ad A hD z (Int32.toInt64 (z.1 0 22)) (Int32.toInt64 x1) (Int32.toInt64 x2) _ h) (va_cwS 3 ht (cW_S (fun _ h => h) tw_co_X8_in tw_ml_X8_74 tw_st_X8_in tw_in_X8) rfl rfl rfl (by decide +kernel) ⟨by decide, by decide⟩) hE hP hS rfl hl.1 rfl (Nat.le_of_ble_eq_true rfl) dX8_other_36 ⟨Nat.zero_le _, Nat.zero_le _⟩ (fun r36 z36 H locs h hP hS => ?_)
      refine lv_if_ne (tgt := 47) hx hb dX8_other_39 (by decide) (fun c39 => ?_) (fun c39 => ?_)
      · have h := h.1 c39
        exact B47 z36 x1 x3 _ _ _ h hP hS (lv_sub hl [0, 1, 3] rfl)
      · have h := h.2 c39
        refine lv_aload_n hx hb dX8_other_42 rfl (lv_at hl 0 rfl) ?_
        refine lv_iconst (v := (3 : Int32)) hx hb dX8_other_43 (by decide) ?_
        refine g_cVv (Wd := WM q ad) (z := z36) (As := [.int (3 : Int32)]) (rest := []) hG S (kX8_fails l D q ad A hD z36 (3 : Int32) _ h) (cwV 1 ht (cW_V (fun _ h => h) tw_co_X8_fails tw_ml_X8_111 tw_im_X8_fails tw_se_X8_fails tw_in_X8) rfl rfl rfl (by decide +kernel) ⟨by decide, by decide⟩) (va_recv hK hP (ci := 8) (q0 := 0) rfl (wm_0 q ad z36)) hE hP hS rfl hl.1 rfl (Nat.le_of_ble_eq_true rfl) dX8_other_44 ⟨Nat.zero_le _, Nat.zero_le _⟩ (fun z44 H locs h hP hS => ?_)
        exact B47 z44 x1 x3 _ _ _ h hP hS (lv_sub hl [0, 1, 3] rfl)
  refine g_entry (vs := [.ref (ad 0), .int x1, .int x2, .int x3]) hargs (Nat.le_of_ble_eq_true rfl) (fun ls hl => ?_)
  have hl : lv_has ls 5 [(0, .ref (ad 0)), (1, .int x1), (2, .int x2), (3, .int x3)] := hl
  unfold pX8_other at h
  refine lv_aload_n hx hb dX8_other_0 rfl (lv_at hl 0 rfl) ?_
  refine va_get (D := D) (ci := 8) (v := .int (z.1 0 17)) (C := RX8) (T := TX8) (N := 45) hx hb ht tl_X8 hown hK hP 0 (wm_0 q ad z) rfl 17 (by decide) (ht _ tw_fl_X8_81) (fun _ h9 => h9) rfl dX8_other_1 ?_
  refine lv_if_ne (tgt := 20) hx hb dX8_other_4 (by decide) (fun c4 => ?_) (fun c4 => ?_)
  · have h := h.1 c4
    exact B20 z x1 x2 x3 _ _ _ h hP hS (lv_sub hl [0, 1, 2, 3] rfl)
  · have h := h.2 c4
    refine lv_aload_n hx hb dX8_other_7 rfl (lv_at hl 0 rfl) ?_
    refine va_get (D := D) (ci := 8) (v := .int (z.1 0 21)) (C := RX8) (T := TX8) (N := 45) hx hb ht tl_X8 hown hK hP 0 (wm_0 q ad z) rfl 21 (by decide) (ht _ tw_fl_X8_90) (fun _ h9 => h9) rfl dX8_other_8 ?_
    refine lv_iconst (v := (2 : Int32)) hx hb dX8_other_11 (by decide) ?_
    refine lv_icmp_eq (tgt := 20) hx hb dX8_other_12 (by decide) (fun c12 => ?_) (fun c12 => ?_)
    · have h := h.1 c12
      exact B20 z x1 x2 x3 _ _ _ h hP hS (lv_sub hl [0, 1, 2, 3] rfl)
    · have h := h.2 c12
      refine lv_aload_n hx hb dX8_other_15 rfl (lv_at hl 0 rfl) ?_
      refine lv_iconst (v := (2 : Int32)) hx hb dX8_other_16 (by decide) ?_
      refine g_cVv (Wd := WM q ad) (z := z) (As := [.int (2 : Int32)]) (rest := []) hG S (kX8_fails l D q ad A hD z (2 : Int32) _ h) (cwV 1 ht (cW_V (fun _ h => h) tw_co_X8_fails tw_ml_X8_111 tw_im_X8_fails tw_se_X8_fails tw_in_X8) rfl rfl rfl (by decide +kernel) ⟨by decide, by decide⟩) (va_recv hK hP (ci := 8) (q0 := 0) rfl (wm_0 q ad z)) hE hP hS rfl hl.1 rfl (Nat.le_of_ble_eq_true rfl) dX8_other_17 ⟨Nat.zero_le _, Nat.zero_le _⟩ (fun z17 H locs h hP hS => ?_)
      exact B20 z17 x1 x2 x3 _ _ _ h hP hS (lv_sub hl [0, 1, 2, 3] rfl)
def pX8_blockHere_b26 (post : Int32 → MX → Prop) (z : MX) (x2 : Int32) (y1 : Int32) : Prop :=
    ∀ z26 : MX, z26 = mw z 0 13 y1 →
    post x2 z26
def pX8_blockHere (z : MX) (x1 : Int32) (post : Int32 → MX → Prop) : Prop :=
  pX8_other z (0 : Int32) (7 : Int32) x1 (fun (r5 : Int32) (z5 : MX) =>
  ((r5 ≤ (z5.1 0 13) →
    pX8_blockHere_b26  post z5 r5 (z5.1 0 13)) ∧
  (¬ r5 ≤ (z5.1 0 13) →
    pX8_blockHere_b26  post z5 r5 r5)))
set_option maxHeartbeats 4000000 in
set_option maxRecDepth 100000 in
theorem kX8_blockHere (l : Launch) (D : va_G) (q : Nat → ClassId) (ad : Nat → Nat) (A : Nat → Prop) (hD : ∀ z, va_D A (WM q ad z)) (z : MX) (x1 : Int32) (post : Int32 → MX → Prop) (h : pX8_blockHere  z x1 post) : Met l yX8_blockHere (cW yX8_blockHere cX8_blockHere 3 (some .int)) ({ frames := 3, cells := 0, slots := 0, locals := 70 } : Room) (va_Pc [.ref (ad 0), .int x1] ((gB D vwCl (WM q ad) (mE D q)) z)) (va_Qi post (gB D vwCl (WM q ad) (mE D q)) A) 0 0 A := by
  refine Met.ofW (cc := cX8_blockHere) (maxL := 3) (ret := (some .int)) (by decide) rfl ?_
  intro p e s m args below meth c s₁ B hml hv
  obtain ⟨hargs, hP, hE⟩ := hv
  have hx := B.exec
  have hb := B.bytes
  have hr := B.returns
  have hts := atoms_spec (ws := (cW yX8_blockHere cX8_blockHere 3 (some .int))) B.pre
  have ht : ∀ w ∈ tG, w.before args s = true := fun w h => hts w (List.mem_cons_of_mem _ h)
  have hown : s.vm.findClass RX8 = some m.cls := findClass_of_methodNamed B.named
  have hlocks := B.notSynchronized
  have hK := hE.1
  have hG := mE_G D q A
  have S : CallFix p m c cX8_blockHere 3 s args tG RX8 := ⟨hx, hb, hml, hown, ht⟩
  have hS : va_S A s.heap s.heap [] := va_S.rf
  have B26 : ∀ (z : MX) (x2 : Int32) (y1 : Int32) (H : Heap) (locs : List Loc) (ls : Array Slot), pX8_blockHere_b26  post z x2 y1 → va_P D vwCl (WM q ad z) H → va_S A s.heap H locs → lv_has ls 3 [(2, .int x2)] → W p l e (headSpec (cW yX8_blockHere cX8_blockHere 3 (some .int)) ({ frames := 3, cells := 0, slots := 0, locals := 70 } : Room)).room s m args below meth c H locs 0 0 (MQ below (va_Qi post (gB D vwCl (WM q ad) (mE D q)) A) args s 0 0 A) (F0 m 26 ls [.int y1, .ref (ad 0)]) := by
    intro z x2 y1 H locs ls h hP hS hl
    unfold pX8_blockHere_b26 at h
    refine g_put (D := D) (Wd := WM q ad) (z := z) (ci := 8) (v := .int y1) (ty := .int) (C := RX8) (T := TX8) (N := 45) hx hb ht tl_X8 tyX8 tyX8_ok nmX8 hown hK hP (hD z) hS 0 (wm_0 q ad z) rfl 13 (by decide) (ht _ tw_fl_X8_122) (fun _ h9 => h9) rfl rfl rfl rfl (Nat.le_of_ble_eq_true rfl) ((pm_0_13 q ad z) y1) dX8_blockHere_26 (fun z26 H locs hz26 hP hS => ?_)
    have h := h z26 hz26
    refine lv_iload_n hx hb dX8_blockHere_29 rfl (lv_at hl 0 rfl) ?_
    exact g_ri hG hx hb hr hlocks hE hP hS h dX8_blockHere_30
  refine g_entry (vs := [.ref (ad 0), .int x1]) hargs (Nat.le_of_ble_eq_true rfl) (fun ls hl => ?_)
  have hl : lv_has ls 3 [(0, .ref (ad 0)), (1, .int x1)] := hl
  unfold pX8_blockHere at h
  refine lv_aload_n hx hb dX8_blockHere_0 rfl (lv_at hl 0 rfl) ?_
  refine lv_iconst (v := (0 : Int32)) hx hb dX8_blockHere_1 (by decide) ?_
  refine lv_bipush (v := (7 : Int32)) hx hb dX8_blockHere_2 (by decide) ?_
  refine lv_iload_n hx hb dX8_blockHere_4 rfl (lv_at hl 1 rfl) ?_
  refine g_cVi (Wd := WM q ad) (z := z) (As := [.int (0 : Int32), .int (7 : Int32), .int x1]) (rest := []) hG S (kX8_other l D q ad A hD z (0 : Int32) (7 : Int32) x1 _ h) (cwV 3 ht (cW_V (fun _ h => h) tw_co_X8_other tw_ml_X8_118 tw_im_X8_other tw_se_X8_other tw_in_X8) rfl rfl rfl (by decide +kernel) ⟨by decide, by decide⟩) (va_recv hK hP (ci := 8) (q0 := 0) rfl (wm_0 q ad z)) hE hP hS rfl hl.1 rfl (Nat.le_of_ble_eq_true rfl) dX8_blockHere_5 ⟨Nat.zero_le _, Nat.zero_le _⟩ (fun r5 z5 H locs h hP hS => ?_)
  refine lv_istore_n (lv' := [(2, .int r5), (0, .ref (ad 0)), (1, .int x1)]) hx hb dX8_blockHere_8 rfl hl (by decide) rfl (fun ls hl => ?_)
  refine lv_aload_n hx hb dX8_blockHere_9 rfl (lv_at hl 1 rfl) ?_
  refine lv_iload_n hx hb dX8_blockHere_10 rfl (lv_at hl 0 rfl) ?_
  refine lv_aload_n hx hb dX8_blockHere_11 rfl (lv_at hl 1 rfl) ?_
  refine va_get (D := D) (ci := 8) (v := .int (z5.1 0 13)) (C := RX8) (T := TX8) (N := 45) hx hb ht tl_X8 hown hK hP 0 (wm_0 q ad z5) rfl 13 (by decide) (ht _ tw_fl_X8_122) (fun _ h9 => h9) rfl dX8_blockHere_12 ?_
  refine lv_icmp_le (tgt := 22) hx hb dX8_blockHere_15 (by decide) (fun c15 => ?_) (fun c15 => ?_)
  · have h := h.1 c15
    refine lv_aload_n hx hb dX8_blockHere_22 rfl (lv_at hl 1 rfl) ?_
    refine va_get (D := D) (ci := 8) (v := .int (z5.1 0 13)) (C := RX8) (T := TX8) (N := 45) hx hb ht tl_X8 hown hK hP 0 (wm_0 q ad z5) rfl 13 (by decide) (ht _ tw_fl_X8_122) (fun _ h9 => h9) rfl dX8_blockHere_23 ?_
    exact B26 z5 r5 (z5.1 0 13) _ _ _ h hP hS (lv_sub hl [0] rfl)
  · have h := h.2 c15
    refine lv_iload_n hx hb dX8_blockHere_18 rfl (lv_at hl 0 rfl) ?_
    refine lv_goto (tgt := 26) hx hb dX8_blockHere_19 (by decide) ?_
    exact B26 z5 r5 r5 _ _ _ h hP hS (lv_sub hl [0] rfl)
def pX8_readTrain_b30 (post : MX → Prop) (z : MX) (x1 : Int32) (x2 : Int32) : Prop :=
    pX8_step z (fun (z31 : MX) =>
    vp_in ((9 : Int32) + (z31.1 0 9)) 25 ∧
    ∀ z46 : MX, z46 = mw z31 4 (Int32.toNatClampNeg ((9 : Int32) + (z31.1 0 9))) x1 →
    vp_in ((13 : Int32) + (z46.1 0 9)) 25 ∧
    ∀ z59 : MX, z59 = mw z46 4 (Int32.toNatClampNeg ((13 : Int32) + (z46.1 0 9))) x2 →
    pX8_other z59 (0 : Int32) (9 : Int32) (0 : Int32) (fun (r76 : Int32) (z76 : MX) =>
    vp_in ((17 : Int32) + (z59.1 0 9)) 25 ∧
    ∀ z79 : MX, z79 = mw z76 4 (Int32.toNatClampNeg ((17 : Int32) + (z59.1 0 9))) r76 →
    pX8_other z79 (0 : Int32) (9 : Int32) (0 : Int32) (fun (r96 : Int32) (z96 : MX) =>
    vp_in ((21 : Int32) + (z79.1 0 9)) 25 ∧
    ∀ z99 : MX, z99 = mw z96 4 (Int32.toNatClampNeg ((21 : Int32) + (z79.1 0 9))) r96 →
    ∀ z107 : MX, z107 = mw z99 0 9 ((z99.1 0 9) + (1 : Int32)) →
    post z107)))
def pX8_readTrain (z : MX) (x1 : Int32) (post : MX → Prop) : Prop :=
  pX8_nameHere z (fun (r1 : Int32) (z1 : MX) =>
  ∀ x2_7 : Int32, x2_7 = r1 - (11 : Int32) →
  ((¬ (z1.1 0 17) = 0 →
    pX8_readTrain_b30  post z1 x1 x2_7) ∧
  ((z1.1 0 17) = 0 →
    pX8_in z1 (Int32.toInt64 x2_7) (0 : Int64) (1 : Int64) (fun (r19 : Int32) (z19 : MX) =>
    ((¬ r19 = 0 →
      pX8_readTrain_b30  post z19 x1 x2_7) ∧
    (r19 = 0 →
      pX8_fails z19 (2 : Int32) (fun (z27 : MX) =>
      pX8_readTrain_b30  post z27 x1 x2_7)))))))
set_option maxHeartbeats 4000000 in
set_option maxRecDepth 100000 in
theorem kX8_readTrain (l : Launch) (D : va_G) (q : Nat → ClassId) (ad : Nat → Nat) (A : Nat → Prop) (hD : ∀ z, va_D A (WM q ad z)) (z : MX) (x1 : Int32) (post : MX → Prop) (h : pX8_readTrain  z x1 post) : Met l yX8_readTrain (cW yX8_readTrain cX8_readTrain 3 none) ({ frames := 3, cells := 0, slots := 0, locals := 70 } : Room) (va_Pc [.ref (ad 0), .int x1] ((gB D vwCl (WM q ad) (mE D q)) z)) (va_Qv post (gB D vwCl (WM q ad) (mE D q)) A) 0 0 A := by
  refine Met.ofW (cc := cX8_readTrain) (maxL := 3) (ret := none) (by decide) rfl ?_
  intro p e s m args below meth c s₁ B hml hv
  obtain ⟨hargs, hP, hE⟩ := hv
  have hx := B.exec
  have hb := B.bytes
  have hr := B.returns
  have hts := atoms_spec (ws := (cW yX8_readTrain cX8_readTrain 3 none)) B.pre
  have ht : ∀ w ∈ tG, w.before args s = true := fun w h => hts w (List.mem_cons_of_mem _ h)
  have hown : s.vm.findClass RX8 = some m.cls := findClass_of_methodNamed B.named
  have hlocks := B.notSynchronized
  have hK := hE.1
  have hG := mE_G D q A
  have S : CallFix p m c cX8_readTrain 3 s args tG RX8 := ⟨hx, hb, hml, hown, ht⟩
  have hS : va_S A s.heap s.heap [] := va_S.rf
  have B30 : ∀ (z : MX) (x1 : Int32) (x2 : Int32) (H : Heap) (locs : List Loc) (ls : Array Slot), pX8_readTrain_b30  post z x1 x2 → va_P D vwCl (WM q ad z) H → va_S A s.heap H locs → lv_has ls 3 [(0, .ref (ad 0)), (1, .int x1), (2, .int x2)] → W p l e (headSpec (cW yX8_readTrain cX8_readTrain 3 none) ({ frames := 3, cells := 0, slots := 0, locals := 70 } : Room)).room s m args below meth c H locs 0 0 (MQ below (va_Qv post (gB D vwCl (WM q ad) (mE D q)) A) args s 0 0 A) (F0 m 30 ls []) := by
    intro z x1 x2 H locs ls h hP hS hl
    unfold pX8_readTrain_b30 at h
    refine lv_aload_n hx hb dX8_readTrain_30 rfl (lv_at hl 0 rfl) ?_
    refine g_cVv (Wd := WM q ad) (z := z) (As := []) (rest := []) hG S (kX8_step l D q ad A hD z _ h) (cwV 0 ht (cW_V (fun _ h => h) tw_co_X8_step tw_ml_X8_115 tw_im_X8_step tw_se_X8_step tw_in_X8) rfl rfl rfl (by decide +kernel) ⟨by decide, by decide⟩) (va_recv hK hP (ci := 8) (q0 := 0) rfl (wm_0 q ad z)) hE hP hS rfl hl.1 rfl (Nat.le_of_ble_eq_true rfl) dX8_readTrain_31 ⟨Nat.zero_le _, Nat.zero_le _⟩ (fun z31 H locs h hP hS => ?_)
    refine lv_aload_n hx hb dX8_readTrain_34 rfl (lv_at hl 0 rfl) ?_
    refine va_get (D := D) (ci := 8) (v := .ref (ad 4)) (C := RX8) (T := TX8) (N := 45) hx hb ht tl_X8 hown hK hP 0 (wm_0 q ad z31) rfl 6 (by decide) (ht _ tw_fl_X8_23) (fun _ h9 => h9) rfl dX8_readTrain_35 ?_
    refine lv_bipush (v := (9 : Int32)) hx hb dX8_readTrain_38 (by decide) ?_
    refine lv_aload_n hx hb dX8_readTrain_40 rfl (lv_at hl 0 rfl) ?_
    refine va_get (D := D) (ci := 8) (v := .int (z31.1 0 9)) (C := RX8) (T := TX8) (N := 45) hx hb ht tl_X8 hown hK hP 0 (wm_0 q ad z31) rfl 9 (by decide) (ht _ tw_fl_X8_135) (fun _ h9 => h9) rfl dX8_readTrain_41 ?_
    refine lv_iadd hx hb dX8_readTrain_44 ?_
    refine lv_iload_n hx hb dX8_readTrain_45 rfl (lv_at hl 1 rfl) ?_
    have hi46 := h.1
    have h := h.2
    refine g_iast (Wd := WM q ad) (z := z31) hx hb hK hP (hD z31) hS 4 (wm_4 q ad z31) rfl (am_4 q ad z31) hi46 dX8_readTrain_46 (fun z46 H locs hz46 hP hS => ?_)
    have h := h z46 hz46
    refine lv_aload_n hx hb dX8_readTrain_47 rfl (lv_at hl 0 rfl) ?_
    refine va_get (D := D) (ci := 8) (v := .ref (ad 4)) (C := RX8) (T := TX8) (N := 45) hx hb ht tl_X8 hown hK hP 0 (wm_0 q ad z46) rfl 6 (by decide) (ht _ tw_fl_X8_23) (fun _ h9 => h9) rfl dX8_readTrain_48 ?_
    refine lv_bipush (v := (13 : Int32)) hx hb dX8_readTrain_51 (by decide) ?_
    refine lv_aload_n hx hb dX8_readTrain_53 rfl (lv_at hl 0 rfl) ?_
    refine va_get (D := D) (ci := 8) (v := .int (z46.1 0 9)) (C := RX8) (T := TX8) (N := 45) hx hb ht tl_X8 hown hK hP 0 (wm_0 q ad z46) rfl 9 (by decide) (ht _ tw_fl_X8_135) (fun _ h9 => h9) rfl dX8_readTrain_54 ?_
    refine lv_iadd hx hb dX8_readTrain_57 ?_
    refine lv_iload_n hx hb dX8_readTrain_58 rfl (lv_at hl 2 rfl) ?_
    have hi59 := h.1
    have h := h.2
    refine g_iast (Wd := WM q ad) (z := z46) hx hb hK hP (hD z46) hS 4 (wm_4 q ad z46) rfl (am_4 q ad z46) hi59 dX8_readTrain_59 (fun z59 H locs hz59 hP hS => ?_)
    have h := h z59 hz59
    refine lv_aload_n hx hb dX8_readTrain_60 rfl (lv_at hl 0 rfl) ?_
    refine va_get (D := D) (ci := 8) (v := .ref (ad 4)) (C := RX8) (T := TX8) (N := 45) hx hb ht tl_X8 hown hK hP 0 (wm_0 q ad z59) rfl 6 (by decide) (ht _ tw_fl_X8_23) (fun _ h9 => h9) rfl dX8_readTrain_61 ?_
    refine lv_bipush (v := (17 : Int32)) hx hb dX8_readTrain_64 (by decide) ?_
    refine lv_aload_n hx hb dX8_readTrain_66 rfl (lv_at hl 0 rfl) ?_
    refine va_get (D := D) (ci := 8) (v := .int (z59.1 0 9)) (C := RX8) (T := TX8) (N := 45) hx hb ht tl_X8 hown hK hP 0 (wm_0 q ad z59) rfl 9 (by decide) (ht _ tw_fl_X8_135) (fun _ h9 => h9) rfl dX8_readTrain_67 ?_
    refine lv_iadd hx hb dX8_readTrain_70 ?_
    refine lv_aload_n hx hb dX8_readTrain_71 rfl (lv_at hl 0 rfl) ?_
    refine lv_iconst (v := (0 : Int32)) hx hb dX8_readTrain_72 (by decide) ?_
    refine lv_bipush (v := (9 : Int32)) hx hb dX8_readTrain_73 (by decide) ?_
    refine lv_iconst (v := (0 : Int32)) hx hb dX8_readTrain_75 (by decide) ?_
    refine g_cVi (Wd := WM q ad) (z := z59) (As := [.int (0 : Int32), .int (9 : Int32), .int (0 : Int32)]) (rest := [.int ((17 : Int32) + (z59.1 0 9)), .ref (ad 4)]) hG S (kX8_other l D q ad A hD z59 (0 : Int32) (9 : Int32) (0 : Int32) _ h) (cwV 3 ht (cW_V (fun _ h => h) tw_co_X8_other tw_ml_X8_118 tw_im_X8_other tw_se_X8_other tw_in_X8) rfl rfl rfl (by decide +kernel) ⟨by decide, by decide⟩) (va_recv hK hP (ci := 8) (q0 := 0) rfl (wm_0 q ad z59)) hE hP hS rfl hl.1 rfl (Nat.le_of_ble_eq_true rfl) dX8_readTrain_76 ⟨Nat.zero_le _, Nat.zero_le _⟩ (fun r76 z76 H locs h hP hS => ?_)
    have hi79 := h.1
    have h := h.2
    refine g_iast (Wd := WM q ad) (z := z76) hx hb hK hP (hD z76) hS 4 (wm_4 q ad z76) rfl (am_4 q ad z76) hi79 dX8_readTrain_79 (fun z79 H locs hz79 hP hS => ?_)
    have h := h z79 hz79
    refine lv_aload_n hx hb dX8_readTrain_80 rfl (lv_at hl 0 rfl) ?_
    refine va_get (D := D) (ci := 8) (v := .ref (ad 4)) (C := RX8) (T := TX8) (N := 45) hx hb ht tl_X8 hown hK hP 0 (wm_0 q ad z79) rfl 6 (by decide) (ht _ tw_fl_X8_23) (fun _ h9 => h9) rfl dX8_readTrain_81 ?_
    refine lv_bipush (v := (21 : Int32)) hx hb dX8_readTrain_84 (by decide) ?_
    refine lv_aload_n hx hb dX8_readTrain_86 rfl (lv_at hl 0 rfl) ?_
    refine va_get (D := D) (ci := 8) (v := .int (z79.1 0 9)) (C := RX8) (T := TX8) (N := 45) hx hb ht tl_X8 hown hK hP 0 (wm_0 q ad z79) rfl 9 (by decide) (ht _ tw_fl_X8_135) (fun _ h9 => h9) rfl dX8_readTrain_87 ?_
    refine lv_iadd hx hb dX8_readTrain_90 ?_
    refine lv_aload_n hx hb dX8_readTrain_91 rfl (lv_at hl 0 rfl) ?_
    refine lv_iconst (v := (0 : Int32)) hx hb dX8_readTrain_92 (by decide) ?_
    refine lv_bipush (v := (9 : Int32)) hx hb dX8_readTrain_93 (by decide) ?_
    refine lv_iconst (v := (0 : Int32)) hx hb dX8_readTrain_95 (by decide) ?_
    refine g_cVi (Wd := WM q ad) (z := z79) (As := [.int (0 : Int32), .int (9 : Int32), .int (0 : Int32)]) (rest := [.int ((21 : Int32) + (z79.1 0 9)), .ref (ad 4)]) hG S (kX8_other l D q ad A hD z79 (0 : Int32) (9 : Int32) (0 : Int32) _ h) (cwV 3 ht (cW_V (fun _ h => h) tw_co_X8_other tw_ml_X8_118 tw_im_X8_other tw_se_X8_other tw_in_X8) rfl rfl rfl (by decide +kernel) ⟨by decide, by decide⟩) (va_recv hK hP (ci := 8) (q0 := 0) rfl (wm_0 q ad z79)) hE hP hS rfl hl.1 rfl (Nat.le_of_ble_eq_true rfl) dX8_readTrain_96 ⟨Nat.zero_le _, Nat.zero_le _⟩ (fun r96 z96 H locs h hP hS => ?_)
    have hi99 := h.1
    have h := h.2
    refine g_iast (Wd := WM q ad) (z := z96) hx hb hK hP (hD z96) hS 4 (wm_4 q ad z96) rfl (am_4 q ad z96) hi99 dX8_readTrain_99 (fun z99 H locs hz99 hP hS => ?_)
    have h := h z99 hz99
    refine lv_aload_n hx hb dX8_readTrain_100 rfl (lv_at hl 0 rfl) ?_
    refine lv_dup hx hb dX8_readTrain_101 rfl ?_
    refine va_get (D := D) (ci := 8) (v := .int (z99.1 0 9)) (C := RX8) (T := TX8) (N := 45) hx hb ht tl_X8 hown hK hP 0 (wm_0 q ad z99) rfl 9 (by decide) (ht _ tw_fl_X8_135) (fun _ h9 => h9) rfl dX8_readTrain_102 ?_
    refine lv_iconst (v := (1 : Int32)) hx hb dX8_readTrain_105 (by decide) ?_
    refine lv_iadd hx hb dX8_readTrain_106 ?_
    refine g_put (D := D) (Wd := WM q ad) (z := z99) (ci := 8) (v := .int ((z99.1 0 9) + (1 : Int32))) (ty := .int) (C := RX8) (T := TX8) (N := 45) hx hb ht tl_X8 tyX8 tyX8_ok nmX8 hown hK hP (hD z99) hS 0 (wm_0 q ad z99) rfl 9 (by decide) (ht _ tw_fl_X8_135) (fun _ h9 => h9) rfl rfl rfl rfl (Nat.le_of_ble_eq_true rfl) ((pm_0_9 q ad z99) ((z99.1 0 9) + (1 : Int32))) dX8_readTrain_107 (fun z107 H locs hz107 hP hS => ?_)
    have h := h z107 hz107
    exact g_rv hG hx hb hr hlocks hE hP hS h dX8_readTrain_110
  refine g_entry (vs := [.ref (ad 0), .int x1]) hargs (Nat.le_of_ble_eq_true rfl) (fun ls hl => ?_)
  have hl : lv_has ls 3 [(0, .ref (ad 0)), (1, .int x1)] := hl
  unfold pX8_readTrain at h
  refine lv_aload_n hx hb dX8_readTrain_0 rfl (lv_at hl 0 rfl) ?_
  refine g_cVi (Wd := WM q ad) (z := z) (As := []) (rest := []) hG S (kX8_nameHere l D q ad A hD z _ h) (cwV 0 ht (cW_V (fun _ h => h) tw_co_X8_nameHere tw_ml_X8_131 tw_im_X8_nameHere tw_se_X8_nameHere tw_in_X8) rfl rfl rfl (by decide +kernel) ⟨by decide, by decide⟩) (va_recv hK hP (ci := 8) (q0 := 0) rfl (wm_0 q ad z)) hE hP hS rfl hl.1 rfl (Nat.le_of_ble_eq_true rfl) dX8_readTrain_1 ⟨Nat.zero_le _, Nat.zero_le _⟩ (fun r1 z1 H locs h hP hS => ?_)
  refine lv_bipush (v := (11 : Int32)) hx hb dX8_readTrain_4 (by decide) ?_
  refine lv_isub hx hb dX8_readTrain_6 ?_
  refine lv_topi (fun x2_7 ex2_7 => ?_)
  have h := h x2_7 ex2_7
  refine lv_istore_n (lv' := [(2, .int x2_7), (0, .ref (ad 0)), (1, .int x1)]) hx hb dX8_readTrain_7 rfl hl (by decide) rfl (fun ls hl => ?_)
  refine lv_aload_n hx hb dX8_readTrain_8 rfl (lv_at hl 1 rfl) ?_
  refine va_get (D := D) (ci := 8) (v := .int (z1.1 0 17)) (C := RX8) (T := TX8) (N := 45) hx hb ht tl_X8 hown hK hP 0 (wm_0 q ad z1) rfl 17 (by decide) (ht _ tw_fl_X8_81) (fun _ h9 => h9) rfl dX8_readTrain_9 ?_
  refine lv_if_ne (tgt := 30) hx hb dX8_readTrain_12 (by decide) (fun c12 => ?_) (fun c12 => ?_)
  · have h := h.1 c12
    exact B30 z1 x1 x2_7 _ _ _ h hP hS (lv_sub hl [1, 2, 0] rfl)
  · have h := h.2 c12
    refine lv_iload_n hx hb dX8_readTrain_15 rfl (lv_at hl 0 rfl) ?_
    refine lv_i2l hx hb dX8_readTrain_16 rfl ?_
    refine lv_lconst (v := (0 : Int64)) hx hb dX8_readTrain_17 (by decide) ?_
    refine lv_lconst (v := (1 : Int64)) hx hb dX8_readTrain_18 (by decide) ?_
    refine g_cSi (Wd := WM q ad) (z := z1) (As := [.long (Int32.toInt64 x2_7), .long (0 : Int64), .long (1 : Int64)]) (rest := []) hG S (kX8_in l D q ad A hD z1 (Int32.toInt64 x2_7) (0 : Int64) (1 : Int64) _ h) (va_cwS 3 ht (cW_S (fun _ h => h) tw_co_X8_in tw_ml_X8_74 tw_st_X8_in tw_in_X8) rfl rfl rfl (by decide +kernel) ⟨by decide, by decide⟩) hE hP hS rfl hl.1 rfl (Nat.le_of_ble_eq_true rfl) dX8_readTrain_19 ⟨Nat.zero_le _, Nat.zero_le _⟩ (fun r19 z19 H locs h hP hS => ?_)
    refine lv_if_ne (tgt := 30) hx hb dX8_readTrain_22 (by decide) (fun c22 => ?_) (fun c22 => ?_)
    · have h := h.1 c22
      exact B30 z19 x1 x2_7 _ _ _ h hP hS (lv_sub hl [1, 2, 0] rfl)
    · have h := h.2 c22
      refine lv_aload_n hx hb dX8_readTrain_25 rfl (lv_at hl 1 rfl) ?_
      refine lv_iconst (v := (2 : Int32)) hx hb dX8_readTrain_26 (by decide) ?_
      refine g_cVv (Wd := WM q ad) (z := z19) (As := [.int (2 : Int32)]) (rest := []) hG S (kX8_fails l D q ad A hD z19 (2 : Int32) _ h) (cwV 1 ht (cW_V (fun _ h => h) tw_co_X8_fails tw_ml_X8_111 tw_im_X8_fails tw_se_X8_fails tw_in_X8) rfl rfl rfl (by decide +kernel) ⟨by decide, by decide⟩) (va_recv hK hP (ci := 8) (q0 := 0) rfl (wm_0 q ad z19)) hE hP hS rfl hl.1 rfl (Nat.le_of_ble_eq_true rfl) dX8_readTrain_27 ⟨Nat.zero_le _, Nat.zero_le _⟩ (fun z27 H locs h hP hS => ?_)
      exact B30 z27 x1 x2_7 _ _ _ h hP hS (lv_sub hl [1, 2, 0] rfl)
def pX8_readLock_b34 (post : MX → Prop) (z : MX) (x1 : Int32) : Prop :=
    vp_in ((2 : Int32) * (z.1 0 10)) 8 ∧
    ∀ z45 : MX, z45 = mw z 5 (Int32.toNatClampNeg ((2 : Int32) * (z.1 0 10))) x1 →
    pX8_blockHere z45 (0 : Int32) (fun (r60 : Int32) (z60 : MX) =>
    vp_in (((2 : Int32) * (z45.1 0 10)) + (1 : Int32)) 8 ∧
    ∀ z63 : MX, z63 = mw z60 5 (Int32.toNatClampNeg (((2 : Int32) * (z45.1 0 10)) + (1 : Int32))) r60 →
    ∀ z71 : MX, z71 = mw z63 0 10 ((z63.1 0 10) + (1 : Int32)) →
    post z71)
def pX8_readLock (z : MX) (post : MX → Prop) : Prop :=
  pX8_blockHere z (0 : Int32) (fun (r2 : Int32) (z2 : MX) =>
  ((¬ (z2.1 0 17) = 0 →
    pX8_readLock_b34  post z2 r2) ∧
  ((z2.1 0 17) = 0 →
    ((¬ (z2.1 0 21) = (2 : Int32) →
      pX8_readLock_b34  post z2 r2) ∧
    ((z2.1 0 21) = (2 : Int32) →
      ((¬ (z2.1 0 22) = r2 →
        pX8_readLock_b34  post z2 r2) ∧
      ((z2.1 0 22) = r2 →
        pX8_fails z2 (3 : Int32) (fun (z31 : MX) =>
        pX8_readLock_b34  post z31 r2))))))))
set_option maxHeartbeats 4000000 in
set_option maxRecDepth 100000 in
theorem kX8_readLock (l : Launch) (D : va_G) (q : Nat → ClassId) (ad : Nat → Nat) (A : Nat → Prop) (hD : ∀ z, va_D A (WM q ad z)) (z : MX) (post : MX → Prop) (h : pX8_readLock  z post) : Met l yX8_readLock (cW yX8_readLock cX8_readLock 2 none) ({ frames := 4, cells := 0, slots := 0, locals := 92 } : Room) (va_Pc [.ref (ad 0)] ((gB D vwCl (WM q ad) (mE D q)) z)) (va_Qv post (gB D vwCl (WM q ad) (mE D q)) A) 0 0 A := by
  refine Met.ofW (cc := cX8_readLock) (maxL := 2) (ret := none) (by decide) rfl ?_
  intro p e s m args below meth c s₁ B hml hv
  obtain ⟨hargs, hP, hE⟩ := hv
  have hx := B.exec
  have hb := B.bytes
  have hr := B.returns
  have hts := atoms_spec (ws := (cW yX8_readLock cX8_readLock 2 none)) B.pre
  have ht : ∀ w ∈ tG, w.before args s = true := fun w h => hts w (List.mem_cons_of_mem _ h)
  have hown : s.vm.findClass RX8 = some m.cls := findClass_of_methodNamed B.named
  have hlocks := B.notSynchronized
  have hK := hE.1
  have hG := mE_G D q A
  have S : CallFix p m c cX8_readLock 2 s args tG RX8 := ⟨hx, hb, hml, hown, ht⟩
  have hS : va_S A s.heap s.heap [] := va_S.rf
  have B34 : ∀ (z : MX) (x1 : Int32) (H : Heap) (locs : List Loc) (ls : Array Slot), pX8_readLock_b34  post z x1 → va_P D vwCl (WM q ad z) H → va_S A s.heap H locs → lv_has ls 2 [(0, .ref (ad 0)), (1, .int x1)] → W p l e (headSpec (cW yX8_readLock cX8_readLock 2 none) ({ frames := 4, cells := 0, slots := 0, locals := 92 } : Room)).room s m args below meth c H locs 0 0 (MQ below (va_Qv post (gB D vwCl (WM q ad) (mE D q)) A) args s 0 0 A) (F0 m 34 ls []) := by
    intro z x1 H locs ls h hP hS hl
    unfold pX8_readLock_b34 at h
    refine lv_aload_n hx hb dX8_readLock_34 rfl (lv_at hl 0 rfl) ?_
    refine va_get (D := D) (ci := 8) (v := .ref (ad 5)) (C := RX8) (T := TX8) (N := 45) hx hb ht tl_X8 hown hK hP 0 (wm_0 q ad z) rfl 7 (by decide) (ht _ tw_fl_X8_26) (fun _ h9 => h9) rfl dX8_readLock_35 ?_
    refine lv_iconst (v := (2 : Int32)) hx hb dX8_readLock_38 (by decide) ?_
    refine lv_aload_n hx hb dX8_readLock_39 rfl (lv_at hl 0 rfl) ?_
    refine va_get (D := D) (ci := 8) (v := .int (z.1 0 10)) (C := RX8) (T := TX8) (N := 45) hx hb ht tl_X8 hown hK hP 0 (wm_0 q ad z) rfl 10 (by decide) (ht _ tw_fl_X8_128) (fun _ h9 => h9) rfl dX8_readLock_40 ?_
    refine lv_imul hx hb dX8_readLock_43 ?_
    refine lv_iload_n hx hb dX8_readLock_44 rfl (lv_at hl 1 rfl) ?_
    have hi45 := h.1
    have h := h.2
    refine g_iast (Wd := WM q ad) (z := z) hx hb hK hP (hD z) hS 5 (wm_5 q ad z) rfl (am_5 q ad z) hi45 dX8_readLock_45 (fun z45 H locs hz45 hP hS => ?_)
    have h := h z45 hz45
    refine lv_aload_n hx hb dX8_readLock_46 rfl (lv_at hl 0 rfl) ?_
    refine va_get (D := D) (ci := 8) (v := .ref (ad 5)) (C := RX8) (T := TX8) (N := 45) hx hb ht tl_X8 hown hK hP 0 (wm_0 q ad z45) rfl 7 (by decide) (ht _ tw_fl_X8_26) (fun _ h9 => h9) rfl dX8_readLock_47 ?_
    refine lv_iconst (v := (2 : Int32)) hx hb dX8_readLock_50 (by decide) ?_
    refine lv_aload_n hx hb dX8_readLock_51 rfl (lv_at hl 0 rfl) ?_
    refine va_get (D := D) (ci := 8) (v := .int (z45.1 0 10)) (C := RX8) (T := TX8) (N := 45) hx hb ht tl_X8 hown hK hP 0 (wm_0 q ad z45) rfl 10 (by decide) (ht _ tw_fl_X8_128) (fun _ h9 => h9) rfl dX8_readLock_52 ?_
    refine lv_imul hx hb dX8_readLock_55 ?_
    refine lv_iconst (v := (1 : Int32)) hx hb dX8_readLock_56 (by decide) ?_
    refine lv_iadd hx hb dX8_readLock_57 ?_
    refine lv_aload_n hx hb dX8_readLock_58 rfl (lv_at hl 0 rfl) ?_
    refine lv_iconst (v := (0 : Int32)) hx hb dX8_readLock_59 (by decide) ?_
    refine g_cVi (Wd := WM q ad) (z := z45) (As := [.int (0 : Int32)]) (rest := [.int (((2 : Int32) * (z45.1 0 10)) + (1 : Int32)), .ref (ad 5)]) hG S (kX8_blockHere l D q ad A hD z45 (0 : Int32) _ h) (cwV 1 ht (cW_V (fun _ h => h) tw_co_X8_blockHere tw_ml_X8_125 tw_im_X8_blockHere tw_se_X8_blockHere tw_in_X8) rfl rfl rfl (by decide +kernel) ⟨by decide, by decide⟩) (va_recv hK hP (ci := 8) (q0 := 0) rfl (wm_0 q ad z45)) hE hP hS rfl hl.1 rfl (Nat.le_of_ble_eq_true rfl) dX8_readLock_60 ⟨Nat.zero_le _, Nat.zero_le _⟩ (fun r60 z60 H locs h hP hS => ?_)
    have hi63 := h.1
    have h := h.2
    refine g_iast (Wd := WM q ad) (z := z60) hx hb hK hP (hD z60) hS 5 (wm_5 q ad z60) rfl (am_5 q ad z60) hi63 dX8_readLock_63 (fun z63 H locs hz63 hP hS => ?_)
    have h := h z63 hz63
    refine lv_aload_n hx hb dX8_readLock_64 rfl (lv_at hl 0 rfl) ?_
    refine lv_dup hx hb dX8_readLock_65 rfl ?_
    refine va_get (D := D) (ci := 8) (v := .int (z63.1 0 10)) (C := RX8) (T := TX8) (N := 45) hx hb ht tl_X8 hown hK hP 0 (wm_0 q ad z63) rfl 10 (by decide) (ht _ tw_fl_X8_128) (fun _ h9 => h9) rfl dX8_readLock_66 ?_
    refine lv_iconst (v := (1 : Int32)) hx hb dX8_readLock_69 (by decide) ?_
    refine lv_iadd hx hb dX8_readLock_70 ?_
    refine g_put (D := D) (Wd := WM q ad) (z := z63) (ci := 8) (v := .int ((z63.1 0 10) + (1 : Int32))) (ty := .int) (C := RX8) (T := TX8) (N := 45) hx hb ht tl_X8 tyX8 tyX8_ok nmX8 hown hK hP (hD z63) hS 0 (wm_0 q ad z63) rfl 10 (by decide) (ht _ tw_fl_X8_128) (fun _ h9 => h9) rfl rfl rfl rfl (Nat.le_of_ble_eq_true rfl) ((pm_0_10 q ad z63) ((z63.1 0 10) + (1 : Int32))) dX8_readLock_71 (fun z71 H locs hz71 hP hS => ?_)
    have h := h z71 hz71
    exact g_rv hG hx hb hr hlocks hE hP hS h dX8_readLock_74
  refine g_entry (vs := [.ref (ad 0)]) hargs (Nat.le_of_ble_eq_true rfl) (fun ls hl => ?_)
  have hl : lv_has ls 2 [(0, .ref (ad 0))] := hl
  unfold pX8_readLock at h
  refine lv_aload_n hx hb dX8_readLock_0 rfl (lv_at hl 0 rfl) ?_
  refine lv_iconst (v := (0 : Int32)) hx hb dX8_readLock_1 (by decide) ?_
  refine g_cVi (Wd := WM q ad) (z := z) (As := [.int (0 : Int32)]) (rest := []) hG S (kX8_blockHere l D q ad A hD z (0 : Int32) _ h) (cwV 1 ht (cW_V (fun _ h => h) tw_co_X8_blockHere tw_ml_X8_125 tw_im_X8_blockHere tw_se_X8_blockHere tw_in_X8) rfl rfl rfl (by decide +kernel) ⟨by decide, by decide⟩) (va_recv hK hP (ci := 8) (q0 := 0) rfl (wm_0 q ad z)) hE hP hS rfl hl.1 rfl (Nat.le_of_ble_eq_true rfl) dX8_readLock_2 ⟨Nat.zero_le _, Nat.zero_le _⟩ (fun r2 z2 H locs h hP hS => ?_)
  refine lv_istore_n (lv' := [(1, .int r2), (0, .ref (ad 0))]) hx hb dX8_readLock_5 rfl hl (by decide) rfl (fun ls hl => ?_)
  refine lv_aload_n hx hb dX8_readLock_6 rfl (lv_at hl 1 rfl) ?_
  refine va_get (D := D) (ci := 8) (v := .int (z2.1 0 17)) (C := RX8) (T := TX8) (N := 45) hx hb ht tl_X8 hown hK hP 0 (wm_0 q ad z2) rfl 17 (by decide) (ht _ tw_fl_X8_81) (fun _ h9 => h9) rfl dX8_readLock_7 ?_
  refine lv_if_ne (tgt := 34) hx hb dX8_readLock_10 (by decide) (fun c10 => ?_) (fun c10 => ?_)
  · have h := h.1 c10
    exact B34 z2 r2 _ _ _ h hP hS (lv_sub hl [1, 0] rfl)
  · have h := h.2 c10
    refine lv_aload_n hx hb dX8_readLock_13 rfl (lv_at hl 1 rfl) ?_
    refine va_get (D := D) (ci := 8) (v := .int (z2.1 0 21)) (C := RX8) (T := TX8) (N := 45) hx hb ht tl_X8 hown hK hP 0 (wm_0 q ad z2) rfl 21 (by decide) (ht _ tw_fl_X8_90) (fun _ h9 => h9) rfl dX8_readLock_14 ?_
    refine lv_iconst (v := (2 : Int32)) hx hb dX8_readLock_17 (by decide) ?_
    refine lv_icmp_ne (tgt := 34) hx hb dX8_readLock_18 (by decide) (fun c18 => ?_) (fun c18 => ?_)
    · have h := h.1 c18
      exact B34 z2 r2 _ _ _ h hP hS (lv_sub hl [1, 0] rfl)
    · have h := h.2 c18
      refine lv_aload_n hx hb dX8_readLock_21 rfl (lv_at hl 1 rfl) ?_
      refine va_get (D := D) (ci := 8) (v := .int (z2.1 0 22)) (C := RX8) (T := TX8) (N := 45) hx hb ht tl_X8 hown hK hP 0 (wm_0 q ad z2) rfl 22 (by decide) (ht _ tw_fl_X8_100) (fun _ h9 => h9) rfl dX8_readLock_22 ?_
      refine lv_iload_n hx hb dX8_readLock_25 rfl (lv_at hl 0 rfl) ?_
      refine lv_icmp_ne (tgt := 34) hx hb dX8_readLock_26 (by decide) (fun c26 => ?_) (fun c26 => ?_)
      · have h := h.1 c26
        exact B34 z2 r2 _ _ _ h hP hS (lv_sub hl [1, 0] rfl)
      · have h := h.2 c26
        refine lv_aload_n hx hb dX8_readLock_29 rfl (lv_at hl 1 rfl) ?_
        refine lv_iconst (v := (3 : Int32)) hx hb dX8_readLock_30 (by decide) ?_
        refine g_cVv (Wd := WM q ad) (z := z2) (As := [.int (3 : Int32)]) (rest := []) hG S (kX8_fails l D q ad A hD z2 (3 : Int32) _ h) (cwV 1 ht (cW_V (fun _ h => h) tw_co_X8_fails tw_ml_X8_111 tw_im_X8_fails tw_se_X8_fails tw_in_X8) rfl rfl rfl (by decide +kernel) ⟨by decide, by decide⟩) (va_recv hK hP (ci := 8) (q0 := 0) rfl (wm_0 q ad z2)) hE hP hS rfl hl.1 rfl (Nat.le_of_ble_eq_true rfl) dX8_readLock_31 ⟨Nat.zero_le _, Nat.zero_le _⟩ (fun z31 H locs h hP hS => ?_)
        exact B34 z31 r2 _ _ _ h hP hS (lv_sub hl [1, 0] rfl)
def pX8_readMore (z : MX) (x1 : Int32) (post : MX → Prop) : Prop :=
  (((3 : Int32) < x1 →
    (((7 : Int32) < x1 →
      ((¬ x1 = (8 : Int32) →
        ((¬ x1 = (9 : Int32) →
          pX8_readLock z (fun (z108 : MX) =>
          post z108)) ∧
        (x1 = (9 : Int32) →
          vp_in (8 : Int32) 25 ∧
          vp_in (8 : Int32) 25 ∧
          pX8_blockHere z (z.1 4 (Int32.toNatClampNeg (8 : Int32))) (fun (r98 : Int32) (z98 : MX) =>
          vp_in (8 : Int32) 25 ∧
          ∀ z103 : MX, z103 = mw z98 4 (Int32.toNatClampNeg (8 : Int32)) ((z.1 4 (Int32.toNatClampNeg (8 : Int32))) ||| ((1 : Int32) <<< (r98 &&& 31))) →
          post z103)))) ∧
      (x1 = (8 : Int32) →
        pX8_other z (2 : Int32) (8 : Int32) (0 : Int32) (fun (r66 : Int32) (z66 : MX) =>
        ∀ z69 : MX, z69 = mw z66 0 8 r66 →
        post z69)))) ∧
    (¬ (7 : Int32) < x1 →
      pX8_readTrain z (x1 - (4 : Int32)) (fun (z48 : MX) =>
      post z48)))) ∧
  (¬ (3 : Int32) < x1 →
    pX8_blockHere z (z.1 0 12) (fun (r10 : Int32) (z10 : MX) =>
    ∀ z23 : MX, z23 = mw z10 0 12 ((z10.1 0 12) ||| ((1 : Int32) <<< (r10 &&& 31))) →
    vp_in r10 25 ∧
    ∀ z34 : MX, z34 = mw z23 4 (Int32.toNatClampNeg r10) (x1 + (1 : Int32)) →
    post z34)))
set_option maxHeartbeats 4000000 in
set_option maxRecDepth 100000 in
theorem kX8_readMore (l : Launch) (D : va_G) (q : Nat → ClassId) (ad : Nat → Nat) (A : Nat → Prop) (hD : ∀ z, va_D A (WM q ad z)) (z : MX) (x1 : Int32) (post : MX → Prop) (h : pX8_readMore  z x1 post) : Met l yX8_readMore (cW yX8_readMore cX8_readMore 3 none) ({ frames := 5, cells := 0, slots := 0, locals := 113 } : Room) (va_Pc [.ref (ad 0), .int x1] ((gB D vwCl (WM q ad) (mE D q)) z)) (va_Qv post (gB D vwCl (WM q ad) (mE D q)) A) 0 0 A := by
  refine Met.ofW (cc := cX8_readMore) (maxL := 3) (ret := none) (by decide) rfl ?_
  intro p e s m args below meth c s₁ B hml hv
  obtain ⟨hargs, hP, hE⟩ := hv
  have hx := B.exec
  have hb := B.bytes
  have hr := B.returns
  have hts := atoms_spec (ws := (cW yX8_readMore cX8_readMore 3 none)) B.pre
  have ht : ∀ w ∈ tG, w.before args s = true := fun w h => hts w (List.mem_cons_of_mem _ h)
  have hown : s.vm.findClass RX8 = some m.cls := findClass_of_methodNamed B.named
  have hlocks := B.notSynchronized
  have hK := hE.1
  have hG := mE_G D q A
  have S : CallFix p m c cX8_readMore 3 s args tG RX8 := ⟨hx, hb, hml, hown, ht⟩
  have hS : va_S A s.heap s.heap [] := va_S.rf
  refine g_entry (vs := [.ref (ad 0), .int x1]) hargs (Nat.le_of_ble_eq_true rfl) (fun ls hl => ?_)
  have hl : lv_has ls 3 [(0, .ref (ad 0)), (1, .int x1)] := hl
  unfold pX8_readMore at h
  refine lv_iload_n hx hb dX8_readMore_0 rfl (lv_at hl 1 rfl) ?_
  refine lv_iconst (v := (3 : Int32)) hx hb dX8_readMore_1 (by decide) ?_
  refine lv_icmp_gt (tgt := 38) hx hb dX8_readMore_2 (by decide) (fun c2 => ?_) (fun c2 => ?_)
  · have h := h.1 c2
    refine lv_iload_n hx hb dX8_readMore_38 rfl (lv_at hl 1 rfl) ?_
    refine lv_bipush (v := (7 : Int32)) hx hb dX8_readMore_39 (by decide) ?_
    refine lv_icmp_gt (tgt := 54) hx hb dX8_readMore_41 (by decide) (fun c41 => ?_) (fun c41 => ?_)
    · have h := h.1 c41
      refine lv_iload_n hx hb dX8_readMore_54 rfl (lv_at hl 1 rfl) ?_
      refine lv_bipush (v := (8 : Int32)) hx hb dX8_readMore_55 (by decide) ?_
      refine lv_icmp_ne (tgt := 75) hx hb dX8_readMore_57 (by decide) (fun c57 => ?_) (fun c57 => ?_)
      · have h := h.1 c57
        refine lv_iload_n hx hb dX8_readMore_75 rfl (lv_at hl 1 rfl) ?_
        refine lv_bipush (v := (9 : Int32)) hx hb dX8_readMore_76 (by decide) ?_
        refine lv_icmp_ne (tgt := 107) hx hb dX8_readMore_78 (by decide) (fun c78 => ?_) (fun c78 => ?_)
        · have h := h.1 c78
          refine lv_aload_n hx hb dX8_readMore_107 rfl (lv_at hl 0 rfl) ?_
          refine g_cVv (Wd := WM q ad) (z := z) (As := []) (rest := []) hG S (kX8_readLock l D q ad A hD z _ h) (cwV 0 ht (cW_V (fun _ h => h) tw_co_X8_readLock tw_ml_X8_147 tw_im_X8_readLock tw_se_X8_readLock tw_in_X8) rfl rfl rfl (by decide +kernel) ⟨by decide, by decide⟩) (va_recv hK hP (ci := 8) (q0 := 0) rfl (wm_0 q ad z)) hE hP hS rfl hl.1 rfl (Nat.le_of_ble_eq_true rfl) dX8_readMore_108 ⟨Nat.zero_le _, Nat.zero_le _⟩ (fun z108 H locs h hP hS => ?_)
          exact g_rv hG hx hb hr hlocks hE hP hS h dX8_readMore_111
        · have h := h.2 c78
          refine lv_aload_n hx hb dX8_readMore_81 rfl (lv_at hl 0 rfl) ?_
          refine va_get (D := D) (ci := 8) (v := .ref (ad 4)) (C := RX8) (T := TX8) (N := 45) hx hb ht tl_X8 hown hK hP 0 (wm_0 q ad z) rfl 6 (by decide) (ht _ tw_fl_X8_23) (fun _ h9 => h9) rfl dX8_readMore_82 ?_
          refine lv_bipush (v := (8 : Int32)) hx hb dX8_readMore_85 (by decide) ?_
          refine lv_dup2_11 hx hb dX8_readMore_87 rfl rfl ?_
          have hi88 := h.1
          have h := h.2
          refine va_iald hx hb hK hP 4 0 (wm_4 q ad z) rfl hi88 dX8_readMore_88 ?_
          refine lv_iconst (v := (1 : Int32)) hx hb dX8_readMore_89 (by decide) ?_
          refine lv_aload_n hx hb dX8_readMore_90 rfl (lv_at hl 0 rfl) ?_
          refine lv_aload_n hx hb dX8_readMore_91 rfl (lv_at hl 0 rfl) ?_
          refine va_get (D := D) (ci := 8) (v := .ref (ad 4)) (C := RX8) (T := TX8) (N := 45) hx hb ht tl_X8 hown hK hP 0 (wm_0 q ad z) rfl 6 (by decide) (ht _ tw_fl_X8_23) (fun _ h9 => h9) rfl dX8_readMore_92 ?_
          refine lv_bipush (v := (8 : Int32)) hx hb dX8_readMore_95 (by decide) ?_
          have hi97 := h.1
          have h := h.2
          refine va_iald hx hb hK hP 4 0 (wm_4 q ad z) rfl hi97 dX8_readMore_97 ?_
          refine g_cVi (Wd := WM q ad) (z := z) (As := [.int (z.1 4 (Int32.toNatClampNeg (8 : Int32)))]) (rest := [.int (1 : Int32), .int (z.1 4 (Int32.toNatClampNeg (8 : Int32))), .int (8 : Int32), .ref (ad 4)]) hG S (kX8_blockHere l D q ad A hD z (z.1 4 (Int32.toNatClampNeg (8 : Int32))) _ h) (cwV 1 ht (cW_V (fun _ h => h) tw_co_X8_blockHere tw_ml_X8_125 tw_im_X8_blockHere tw_se_X8_blockHere tw_in_X8) rfl rfl rfl (by decide +kernel) ⟨by decide, by decide⟩) (va_recv hK hP (ci := 8) (q0 := 0) rfl (wm_0 q ad z)) hE hP hS rfl hl.1 rfl (Nat.le_of_ble_eq_true rfl) dX8_readMore_98 ⟨Nat.zero_le _, Nat.zero_le _⟩ (fun r98 z98 H locs h hP hS => ?_)
          refine lv_ishl hx hb dX8_readMore_101 ?_
          refine lv_ior hx hb dX8_readMore_102 ?_
          have hi103 := h.1
          have h := h.2
          refine g_iast (Wd := WM q ad) (z := z98) hx hb hK hP (hD z98) hS 4 (wm_4 q ad z98) rfl (am_4 q ad z98) hi103 dX8_readMore_103 (fun z103 H locs hz103 hP hS => ?_)
          have h := h z103 hz103
          refine lv_goto (tgt := 111) hx hb dX8_readMore_104 (by decide) ?_
          exact g_rv hG hx hb hr hlocks hE hP hS h dX8_readMore_111
      · have h := h.2 c57
        refine lv_aload_n hx hb dX8_readMore_60 rfl (lv_at hl 0 rfl) ?_
        refine lv_aload_n hx hb dX8_readMore_61 rfl (lv_at hl 0 rfl) ?_
        refine lv_iconst (v := (2 : Int32)) hx hb dX8_readMore_62 (by decide) ?_
        refine lv_bipush (v := (8 : Int32)) hx hb dX8_readMore_63 (by decide) ?_
        refine lv_iconst (v := (0 : Int32)) hx hb dX8_readMore_65 (by decide) ?_
        refine g_cVi (Wd := WM q ad) (z := z) (As := [.int (2 : Int32), .int (8 : Int32), .int (0 : Int32)]) (rest := [.ref (ad 0)]) hG S (kX8_other l D q ad A hD z (2 : Int32) (8 : Int32) (0 : Int32) _ h) (cwV 3 ht (cW_V (fun _ h => h) tw_co_X8_other tw_ml_X8_118 tw_im_X8_other tw_se_X8_other tw_in_X8) rfl rfl rfl (by decide +kernel) ⟨by decide, by decide⟩) (va_recv hK hP (ci := 8) (q0 := 0) rfl (wm_0 q ad z)) hE hP hS rfl hl.1 rfl (Nat.le_of_ble_eq_true rfl) dX8_readMore_66 ⟨Nat.zero_le _, Nat.zero_le _⟩ (fun r66 z66 H locs h hP hS => ?_)
        refine g_put (D := D) (Wd := WM q ad) (z := z66) (ci := 8) (v := .int r66) (ty := .int) (C := RX8) (T := TX8) (N := 45) hx hb ht tl_X8 tyX8 tyX8_ok nmX8 hown hK hP (hD z66) hS 0 (wm_0 q ad z66) rfl 8 (by decide) (ht _ tw_fl_X8_144) (fun _ h9 => h9) rfl rfl rfl rfl (Nat.le_of_ble_eq_true rfl) ((pm_0_8 q ad z66) r66) dX8_readMore_69 (fun z69 H locs hz69 hP hS => ?_)
        have h := h z69 hz69
        refine lv_goto (tgt := 111) hx hb dX8_readMore_72 (by decide) ?_
        exact g_rv hG hx hb hr hlocks hE hP hS h dX8_readMore_111
    · have h := h.2 c41
      refine lv_aload_n hx hb dX8_readMore_44 rfl (lv_at hl 0 rfl) ?_
      refine lv_iload_n hx hb dX8_readMore_45 rfl (lv_at hl 1 rfl) ?_
      refine lv_iconst (v := (4 : Int32)) hx hb dX8_readMore_46 (by decide) ?_
      refine lv_isub hx hb dX8_readMore_47 ?_
      refine g_cVv (Wd := WM q ad) (z := z) (As := [.int (x1 - (4 : Int32))]) (rest := []) hG S (kX8_readTrain l D q ad A hD z (x1 - (4 : Int32)) _ h) (cwV 1 ht (cW_V (fun _ h => h) tw_co_X8_readTrain tw_ml_X8_141 tw_im_X8_readTrain tw_se_X8_readTrain tw_in_X8) rfl rfl rfl (by decide +kernel) ⟨by decide, by decide⟩) (va_recv hK hP (ci := 8) (q0 := 0) rfl (wm_0 q ad z)) hE hP hS rfl hl.1 rfl (Nat.le_of_ble_eq_true rfl) dX8_readMore_48 ⟨Nat.zero_le _, Nat.zero_le _⟩ (fun z48 H locs h hP hS => ?_)
      refine lv_goto (tgt := 111) hx hb dX8_readMore_51 (by decide) ?_
      exact g_rv hG hx hb hr hlocks hE hP hS h dX8_readMore_111
  · have h := h.2 c2
    refine lv_aload_n hx hb dX8_readMore_5 rfl (lv_at hl 0 rfl) ?_
    refine lv_aload_n hx hb dX8_readMore_6 rfl (lv_at hl 0 rfl) ?_
    refine va_get (D := D) (ci := 8) (v := .int (z.1 0 12)) (C := RX8) (T := TX8) (N := 45) hx hb ht tl_X8 hown hK hP 0 (wm_0 q ad z) rfl 12 (by decide) (ht _ tw_fl_X8_138) (fun _ h9 => h9) rfl dX8_readMore_7 ?_
    refine g_cVi (Wd := WM q ad) (z := z) (As := [.int (z.1 0 12)]) (rest := []) hG S (kX8_blockHere l D q ad A hD z (z.1 0 12) _ h) (cwV 1 ht (cW_V (fun _ h => h) tw_co_X8_blockHere tw_ml_X8_125 tw_im_X8_blockHere tw_se_X8_blockHere tw_in_X8) rfl rfl rfl (by decide +kernel) ⟨by decide, by decide⟩) (va_recv hK hP (ci := 8) (q0 := 0) rfl (wm_0 q ad z)) hE hP hS rfl hl.1 rfl (Nat.le_of_ble_eq_true rfl) dX8_readMore_10 ⟨Nat.zero_le _, Nat.zero_le _⟩ (fun r10 z10 H locs h hP hS => ?_)
    refine lv_istore_n (lv' := [(2, .int r10), (0, .ref (ad 0)), (1, .int x1)]) hx hb dX8_readMore_13 rfl hl (by decide) rfl (fun ls hl => ?_)
    refine lv_aload_n hx hb dX8_readMore_14 rfl (lv_at hl 1 rfl) ?_
    refine lv_dup hx hb dX8_readMore_15 rfl ?_
    refine va_get (D := D) (ci := 8) (v := .int (z10.1 0 12)) (C := RX8) (T := TX8) (N := 45) hx hb ht tl_X8 hown hK hP 0 (wm_0 q ad z10) rfl 12 (by decide) (ht _ tw_fl_X8_138) (fun _ h9 => h9) rfl dX8_readMore_16 ?_
    refine lv_iconst (v := (1 : Int32)) hx hb dX8_readMore_19 (by decide) ?_
    refine lv_iload_n hx hb dX8_readMore_20 rfl (lv_at hl 0 rfl) ?_
    refine lv_ishl hx hb dX8_readMore_21 ?_
    refine lv_ior hx hb dX8_readMore_22 ?_
    refine g_put (D := D) (Wd := WM q ad) (z := z10) (ci := 8) (v := .int ((z10.1 0 12) ||| ((1 : Int32) <<< (r10 &&& 31)))) (ty := .int) (C := RX8) (T := TX8) (N := 45) hx hb ht tl_X8 tyX8 tyX8_ok nmX8 hown hK hP (hD z10) hS 0 (wm_0 q ad z10) rfl 12 (by decide) (ht _ tw_fl_X8_138) (fun _ h9 => h9) rfl rfl rfl rfl (Nat.le_of_ble_eq_true rfl) ((pm_0_12 q ad z10) ((z10.1 0 12) ||| ((1 : Int32) <<< (r10 &&& 31)))) dX8_readMore_23 (fun z23 H locs hz23 hP hS => ?_)
    have h := h z23 hz23
    refine lv_aload_n hx hb dX8_readMore_26 rfl (lv_at hl 1 rfl) ?_
    refine va_get (D := D) (ci := 8) (v := .ref (ad 4)) (C := RX8) (T := TX8) (N := 45) hx hb ht tl_X8 hown hK hP 0 (wm_0 q ad z23) rfl 6 (by decide) (ht _ tw_fl_X8_23) (fun _ h9 => h9) rfl dX8_readMore_27 ?_
    refine lv_iload_n hx hb dX8_readMore_30 rfl (lv_at hl 0 rfl) ?_
    refine lv_iload_n hx hb dX8_readMore_31 rfl (lv_at hl 2 rfl) ?_
    refine lv_iconst (v := (1 : Int32)) hx hb dX8_readMore_32 (by decide) ?_
    refine lv_iadd hx hb dX8_readMore_33 ?_
    have hi34 := h.1
    have h := h.2
    refine g_iast (Wd := WM q ad) (z := z23) hx hb hK hP (hD z23) hS 4 (wm_4 q ad z23) rfl (am_4 q ad z23) hi34 dX8_readMore_34 (fun z34 H locs hz34 hP hS => ?_)
    have h := h z34 hz34
    refine lv_goto (tgt := 111) hx hb dX8_readMore_35 (by decide) ?_
    exact g_rv hG hx hb hr hlocks hE hP hS h dX8_readMore_111
def pX8_readLine_b141 (post : MX → Prop) (z : MX) : Prop :=
    pX8_step z (fun (z142 : MX) =>
    post z142)
def pX8_readLine_b101 (post : MX → Prop) (z : MX) (x1 : Int32) (y1 : Int32) : Prop :=
    (y1 = 0 ∨ y1 = 1) ∧
    ∀ z101 : MX, z101 = mw z 0 11 y1 →
    pX8_step z101 (fun (z105 : MX) =>
    (((z105.1 0 17) ≤ 0 →
      pX8_readMore z105 x1 (fun (z118 : MX) =>
      ((¬ (z118.1 0 17) = 0 →
        pX8_readLine_b141  post z118) ∧
      ((z118.1 0 17) = 0 →
        (((z118.1 0 21) = (3 : Int32) →
          pX8_readLine_b141  post z118) ∧
        (¬ (z118.1 0 21) = (3 : Int32) →
          pX8_fails z118 (2 : Int32) (fun (z138 : MX) =>
          pX8_readLine_b141  post z138))))))) ∧
    (¬ (z105.1 0 17) ≤ 0 →
      post z105)))
def pX8_readLine_b96 (post : MX → Prop) (z : MX) (x1 : Int32) : Prop :=
    pX8_readLine_b101  post z x1 (1 : Int32)
def pX8_readLine_b82 (post : MX → Prop) (z : MX) (x1 : Int32) : Prop :=
    ((¬ (z.1 0 11) = 0 →
      pX8_readLine_b96  post z x1) ∧
    ((z.1 0 11) = 0 →
      ((¬ x1 = (8 : Int32) →
        pX8_readLine_b101  post z x1 (0 : Int32)) ∧
      (x1 = (8 : Int32) →
        pX8_readLine_b96  post z x1))))
def pX8_readLine_b64 (post : MX → Prop) (z : MX) (x1 : Int32) : Prop :=
    ((¬ x1 = (8 : Int32) →
      pX8_readLine_b82  post z x1) ∧
    (x1 = (8 : Int32) →
      (((z.1 0 11) = 0 →
        pX8_readLine_b82  post z x1) ∧
      (¬ (z.1 0 11) = 0 →
        pX8_fails z (4 : Int32) (fun (z79 : MX) =>
        pX8_readLine_b82  post z79 x1)))))
def pX8_readLine_b59 (post : MX → Prop) (z : MX) (x1 : Int32) : Prop :=
    pX8_fails z (5 : Int32) (fun (z61 : MX) =>
    pX8_readLine_b64  post z61 x1)
def pX8_readLine_b37 (post : MX → Prop) (z : MX) (x1 : Int32) : Prop :=
    pX8_in z (Int32.toInt64 x1) (4 : Int64) (7 : Int64) (fun (r45 : Int32) (z45 : MX) =>
    ((r45 = 0 →
      pX8_readLine_b64  post z45 x1) ∧
    (¬ r45 = 0 →
      ((¬ (z45.1 0 9) = (4 : Int32) →
        pX8_readLine_b64  post z45 x1) ∧
      ((z45.1 0 9) = (4 : Int32) →
        pX8_readLine_b59  post z45 x1)))))
def pX8_readLine (z : MX) (post : MX → Prop) : Prop :=
  pX8_nameHere z (fun (r1 : Int32) (z1 : MX) =>
  pX8_in z1 (Int32.toInt64 r1) (0 : Int64) (10 : Int64) (fun (r11 : Int32) (z11 : MX) =>
  ((¬ r11 = 0 →
    ((¬ r1 = (10 : Int32) →
      pX8_readLine_b37  post z11 r1) ∧
    (r1 = (10 : Int32) →
      (((z11.1 0 10) = (4 : Int32) →
        pX8_readLine_b59  post z11 r1) ∧
      (¬ (z11.1 0 10) = (4 : Int32) →
        pX8_readLine_b37  post z11 r1))))) ∧
  (r11 = 0 →
    pX8_fails z11 (2 : Int32) (fun (z19 : MX) =>
    post z19)))))
set_option maxHeartbeats 4000000 in
set_option maxRecDepth 100000 in
theorem kX8_readLine (l : Launch) (D : va_G) (q : Nat → ClassId) (ad : Nat → Nat) (A : Nat → Prop) (hD : ∀ z, va_D A (WM q ad z)) (z : MX) (post : MX → Prop) (h : pX8_readLine  z post) : Met l yX8_readLine (cW yX8_readLine cX8_readLine 2 none) ({ frames := 6, cells := 0, slots := 0, locals := 135 } : Room) (va_Pc [.ref (ad 0)] ((gB D vwCl (WM q ad) (mE D q)) z)) (va_Qv post (gB D vwCl (WM q ad) (mE D q)) A) 0 0 A := by
  refine Met.ofW (cc := cX8_readLine) (maxL := 2) (ret := none) (by decide) rfl ?_
  intro p e s m args below meth c s₁ B hml hv
  obtain ⟨hargs, hP, hE⟩ := hv
  have hx := B.exec
  have hb := B.bytes
  have hr := B.returns
  have hts := atoms_spec (ws := (cW yX8_readLine cX8_readLine 2 none)) B.pre
  have ht : ∀ w ∈ tG, w.before args s = true := fun w h => hts w (List.mem_cons_of_mem _ h)
  have hown : s.vm.findClass RX8 = some m.cls := findClass_of_methodNamed B.named
  have hlocks := B.notSynchronized
  have hK := hE.1
  have hG := mE_G D q A
  have S : CallFix p m c cX8_readLine 2 s args tG RX8 := ⟨hx, hb, hml, hown, ht⟩
  have hS : va_S A s.heap s.heap [] := va_S.rf
  have B141 : ∀ (z : MX) (H : Heap) (locs : List Loc) (ls : Array Slot), pX8_readLine_b141  post z → va_P D vwCl (WM q ad z) H → va_S A s.heap H locs → lv_has ls 2 [(0, .ref (ad 0))] → W p l e (headSpec (cW yX8_readLine cX8_readLine 2 none) ({ frames := 6, cells := 0, slots := 0, locals := 135 } : Room)).room s m args below meth c H locs 0 0 (MQ below (va_Qv post (gB D vwCl (WM q ad) (mE D q)) A) args s 0 0 A) (F0 m 141 ls []) := by
    intro z H locs ls h hP hS hl
    unfold pX8_readLine_b141 at h
    refine lv_aload_n hx hb dX8_readLine_141 rfl (lv_at hl 0 rfl) ?_
    refine g_cVv (Wd := WM q ad) (z := z) (As := []) (rest := []) hG S (kX8_step l D q ad A hD z _ h) (cwV 0 ht (cW_V (fun _ h => h) tw_co_X8_step tw_ml_X8_115 tw_im_X8_step tw_se_X8_step tw_in_X8) rfl rfl rfl (by decide +kernel) ⟨by decide, by decide⟩) (va_recv hK hP (ci := 8) (q0 := 0) rfl (wm_0 q ad z)) hE hP hS rfl hl.1 rfl (Nat.le_of_ble_eq_true rfl) dX8_readLine_142 ⟨Nat.zero_le _, Nat.zero_le _⟩ (fun z142 H locs h hP hS => ?_)
    exact g_rv hG hx hb hr hlocks hE hP hS h dX8_readLine_145
  have B101 : ∀ (z : MX) (x1 : Int32) (y1 : Int32) (H : Heap) (locs : List Loc) (ls : Array Slot), pX8_readLine_b101  post z x1 y1 → va_P D vwCl (WM q ad z) H → va_S A s.heap H locs → lv_has ls 2 [(0, .ref (ad 0)), (1, .int x1)] → W p l e (headSpec (cW yX8_readLine cX8_readLine 2 none) ({ frames := 6, cells := 0, slots := 0, locals := 135 } : Room)).room s m args below meth c H locs 0 0 (MQ below (va_Qv post (gB D vwCl (WM q ad) (mE D q)) A) args s 0 0 A) (F0 m 101 ls [.int y1, .ref (ad 0)]) := by
    intro z x1 y1 H locs ls h hP hS hl
    unfold pX8_readLine_b101 at h
    have hb101 := h.1
    have h := h.2
    refine g_put (D := D) (Wd := WM q ad) (z := z) (ci := 8) (v := .int y1) (ty := .boolean) (C := RX8) (T := TX8) (N := 45) hx hb ht tl_X8 tyX8 tyX8_ok nmX8 hown hK hP (hD z) hS 0 (wm_0 q ad z) rfl 11 (by decide) (ht _ tw_fl_X8_156) (fun _ h9 => h9) rfl rfl (g_z01 hb101) (g_z01f hb101) (Nat.le_of_ble_eq_true rfl) ((pm_0_11 q ad z) y1) dX8_readLine_101 (fun z101 H locs hz101 hP hS => ?_)
    have h := h z101 hz101
    refine lv_aload_n hx hb dX8_readLine_104 rfl (lv_at hl 0 rfl) ?_
    refine g_cVv (Wd := WM q ad) (z := z101) (As := []) (rest := []) hG S (kX8_step l D q ad A hD z101 _ h) (cwV 0 ht (cW_V (fun _ h => h) tw_co_X8_step tw_ml_X8_115 tw_im_X8_step tw_se_X8_step tw_in_X8) rfl rfl rfl (by decide +kernel) ⟨by decide, by decide⟩) (va_recv hK hP (ci := 8) (q0 := 0) rfl (wm_0 q ad z101)) hE hP hS rfl hl.1 rfl (Nat.le_of_ble_eq_true rfl) dX8_readLine_105 ⟨Nat.zero_le _, Nat.zero_le _⟩ (fun z105 H locs h hP hS => ?_)
    refine lv_aload_n hx hb dX8_readLine_108 rfl (lv_at hl 0 rfl) ?_
    refine va_get (D := D) (ci := 8) (v := .int (z105.1 0 17)) (C := RX8) (T := TX8) (N := 45) hx hb ht tl_X8 hown hK hP 0 (wm_0 q ad z105) rfl 17 (by decide) (ht _ tw_fl_X8_81) (fun _ h9 => h9) rfl dX8_readLine_109 ?_
    refine lv_if_le (tgt := 116) hx hb dX8_readLine_112 (by decide) (fun c112 => ?_) (fun c112 => ?_)
    · have h := h.1 c112
      refine lv_aload_n hx hb dX8_readLine_116 rfl (lv_at hl 0 rfl) ?_
      refine lv_iload_n hx hb dX8_readLine_117 rfl (lv_at hl 1 rfl) ?_
      refine g_cVv (Wd := WM q ad) (z := z105) (As := [.int x1]) (rest := []) hG S (kX8_readMore l D q ad A hD z105 x1 _ h) (cwV 1 ht (cW_V (fun _ h => h) tw_co_X8_readMore tw_ml_X8_160 tw_im_X8_readMore tw_se_X8_readMore tw_in_X8) rfl rfl rfl (by decide +kernel) ⟨by decide, by decide⟩) (va_recv hK hP (ci := 8) (q0 := 0) rfl (wm_0 q ad z105)) hE hP hS rfl hl.1 rfl (Nat.le_of_ble_eq_true rfl) dX8_readLine_118 ⟨Nat.zero_le _, Nat.zero_le _⟩ (fun z118 H locs h hP hS => ?_)
      refine lv_aload_n hx hb dX8_readLine_121 rfl (lv_at hl 0 rfl) ?_
      refine va_get (D := D) (ci := 8) (v := .int (z118.1 0 17)) (C := RX8) (T := TX8) (N := 45) hx hb ht tl_X8 hown hK hP 0 (wm_0 q ad z118) rfl 17 (by decide) (ht _ tw_fl_X8_81) (fun _ h9 => h9) rfl dX8_readLine_122 ?_
      refine lv_if_ne (tgt := 141) hx hb dX8_readLine_125 (by decide) (fun c125 => ?_) (fun c125 => ?_)
      · have h := h.1 c125
        exact B141 z118 _ _ _ h hP hS (lv_sub hl [0] rfl)
      · have h := h.2 c125
        refine lv_aload_n hx hb dX8_readLine_128 rfl (lv_at hl 0 rfl) ?_
        refine va_get (D := D) (ci := 8) (v := .int (z118.1 0 21)) (C := RX8) (T := TX8) (N := 45) hx hb ht tl_X8 hown hK hP 0 (wm_0 q ad z118) rfl 21 (by decide) (ht _ tw_fl_X8_90) (fun _ h9 => h9) rfl dX8_readLine_129 ?_
        refine lv_iconst (v := (3 : Int32)) hx hb dX8_readLine_132 (by decide) ?_
        refine lv_icmp_eq (tgt := 141) hx hb dX8_readLine_133 (by decide) (fun c133 => ?_) (fun c133 => ?_)
        · have h := h.1 c133
          exact B141 z118 _ _ _ h hP hS (lv_sub hl [0] rfl)
        · have h := h.2 c133
          refine lv_aload_n hx hb dX8_readLine_136 rfl (lv_at hl 0 rfl) ?_
          refine lv_iconst (v := (2 : Int32)) hx hb dX8_readLine_137 (by decide) ?_
          refine g_cVv (Wd := WM q ad) (z := z118) (As := [.int (2 : Int32)]) (rest := []) hG S (kX8_fails l D q ad A hD z118 (2 : Int32) _ h) (cwV 1 ht (cW_V (fun _ h => h) tw_co_X8_fails tw_ml_X8_111 tw_im_X8_fails tw_se_X8_fails tw_in_X8) rfl rfl rfl (by decide +kernel) ⟨by decide, by decide⟩) (va_recv hK hP (ci := 8) (q0 := 0) rfl (wm_0 q ad z118)) hE hP hS rfl hl.1 rfl (Nat.le_of_ble_eq_true rfl) dX8_readLine_138 ⟨Nat.zero_le _, Nat.zero_le _⟩ (fun z138 H locs h hP hS => ?_)
          exact B141 z138 _ _ _ h hP hS (lv_sub hl [0] rfl)
    · have h := h.2 c112
      exact g_rv hG hx hb hr hlocks hE hP hS h dX8_readLine_115
  have B96 : ∀ (z : MX) (x1 : Int32) (H : Heap) (locs : List Loc) (ls : Array Slot), pX8_readLine_b96  post z x1 → va_P D vwCl (WM q ad z) H → va_S A s.heap H locs → lv_has ls 2 [(0, .ref (ad 0)), (1, .int x1)] → W p l e (headSpec (cW yX8_readLine cX8_readLine 2 none) ({ frames := 6, cells := 0, slots := 0, locals := 135 } : Room)).room s m args below meth c H locs 0 0 (MQ below (va_Qv post (gB D vwCl (WM q ad) (mE D q)) A) args s 0 0 A) (F0 m 96 ls [.ref (ad 0)]) := by
    intro z x1 H locs ls h hP hS hl
    unfold pX8_readLine_b96 at h
    refine lv_iconst (v := (1 : Int32)) hx hb dX8_readLine_96 (by decide) ?_
    refine lv_goto (tgt := 101) hx hb dX8_readLine_97 (by decide) ?_
    exact B101 z x1 (1 : Int32) _ _ _ h hP hS (lv_sub hl [0, 1] rfl)
  have B82 : ∀ (z : MX) (x1 : Int32) (H : Heap) (locs : List Loc) (ls : Array Slot), pX8_readLine_b82  post z x1 → va_P D vwCl (WM q ad z) H → va_S A s.heap H locs → lv_has ls 2 [(0, .ref (ad 0)), (1, .int x1)] → W p l e (headSpec (cW yX8_readLine cX8_readLine 2 none) ({ frames := 6, cells := 0, slots := 0, locals := 135 } : Room)).room s m args below meth c H locs 0 0 (MQ below (va_Qv post (gB D vwCl (WM q ad) (mE D q)) A) args s 0 0 A) (F0 m 82 ls []) := by
    intro z x1 H locs ls h hP hS hl
    unfold pX8_readLine_b82 at h
    refine lv_aload_n hx hb dX8_readLine_82 rfl (lv_at hl 0 rfl) ?_
    refine lv_aload_n hx hb dX8_readLine_83 rfl (lv_at hl 0 rfl) ?_
    refine va_get (D := D) (ci := 8) (v := .int (z.1 0 11)) (C := RX8) (T := TX8) (N := 45) hx hb ht tl_X8 hown hK hP 0 (wm_0 q ad z) rfl 11 (by decide) (ht _ tw_fl_X8_156) (fun _ h9 => h9) rfl dX8_readLine_84 ?_
    refine lv_if_ne (tgt := 96) hx hb dX8_readLine_87 (by decide) (fun c87 => ?_) (fun c87 => ?_)
    · have h := h.1 c87
      exact B96 z x1 _ _ _ h hP hS (lv_sub hl [0, 1] rfl)
    · have h := h.2 c87
      refine lv_iload_n hx hb dX8_readLine_90 rfl (lv_at hl 1 rfl) ?_
      refine lv_bipush (v := (8 : Int32)) hx hb dX8_readLine_91 (by decide) ?_
      refine lv_icmp_ne (tgt := 100) hx hb dX8_readLine_93 (by decide) (fun c93 => ?_) (fun c93 => ?_)
      · have h := h.1 c93
        refine lv_iconst (v := (0 : Int32)) hx hb dX8_readLine_100 (by decide) ?_
        exact B101 z x1 (0 : Int32) _ _ _ h hP hS (lv_sub hl [0, 1] rfl)
      · have h := h.2 c93
        exact B96 z x1 _ _ _ h hP hS (lv_sub hl [0, 1] rfl)
  have B64 : ∀ (z : MX) (x1 : Int32) (H : Heap) (locs : List Loc) (ls : Array Slot), pX8_readLine_b64  post z x1 → va_P D vwCl (WM q ad z) H → va_S A s.heap H locs → lv_has ls 2 [(0, .ref (ad 0)), (1, .int x1)] → W p l e (headSpec (cW yX8_readLine cX8_readLine 2 none) ({ frames := 6, cells := 0, slots := 0, locals := 135 } : Room)).room s m args below meth c H locs 0 0 (MQ below (va_Qv post (gB D vwCl (WM q ad) (mE D q)) A) args s 0 0 A) (F0 m 64 ls []) := by
    intro z x1 H locs ls h hP hS hl
    unfold pX8_readLine_b64 at h
    refine lv_iload_n hx hb dX8_readLine_64 rfl (lv_at hl 1 rfl) ?_
    refine lv_bipush (v := (8 : Int32)) hx hb dX8_readLine_65 (by decide) ?_
    refine lv_icmp_ne (tgt := 82) hx hb dX8_readLine_67 (by decide) (fun c67 => ?_) (fun c67 => ?_)
    · have h := h.1 c67
      exact B82 z x1 _ _ _ h hP hS (lv_sub hl [0, 1] rfl)
    · have h := h.2 c67
      refine lv_aload_n hx hb dX8_readLine_70 rfl (lv_at hl 0 rfl) ?_
      refine va_get (D := D) (ci := 8) (v := .int (z.1 0 11)) (C := RX8) (T := TX8) (N := 45) hx hb ht tl_X8 hown hK hP 0 (wm_0 q ad z) rfl 11 (by decide) (ht _ tw_fl_X8_156) (fun _ h9 => h9) rfl dX8_readLine_71 ?_
      refine lv_if_eq (tgt := 82) hx hb dX8_readLine_74 (by decide) (fun c74 => ?_) (fun c74 => ?_)
      · have h := h.1 c74
        exact B82 z x1 _ _ _ h hP hS (lv_sub hl [0, 1] rfl)
      · have h := h.2 c74
        refine lv_aload_n hx hb dX8_readLine_77 rfl (lv_at hl 0 rfl) ?_
        refine lv_iconst (v := (4 : Int32)) hx hb dX8_readLine_78 (by decide) ?_
        refine g_cVv (Wd := WM q ad) (z := z) (As := [.int (4 : Int32)]) (rest := []) hG S (kX8_fails l D q ad A hD z (4 : Int32) _ h) (cwV 1 ht (cW_V (fun _ h => h) tw_co_X8_fails tw_ml_X8_111 tw_im_X8_fails tw_se_X8_fails tw_in_X8) rfl rfl rfl (by decide +kernel) ⟨by decide, by decide⟩) (va_recv hK hP (ci := 8) (q0 := 0) rfl (wm_0 q ad z)) hE hP hS rfl hl.1 rfl (Nat.le_of_ble_eq_true rfl) dX8_readLine_79 ⟨Nat.zero_le _, Nat.zero_le _⟩ (fun z79 H locs h hP hS => ?_)
        exact B82 z79 x1 _ _ _ h hP hS (lv_sub hl [0, 1] rfl)
  have B59 : ∀ (z : MX) (x1 : Int32) (H : Heap) (locs : List Loc) (ls : Array Slot), pX8_readLine_b59  post z x1 → va_P D vwCl (WM q ad z) H → va_S A s.heap H locs → lv_has ls 2 [(0, .ref (ad 0)), (1, .int x1)] → W p l e (headSpec (cW yX8_readLine cX8_readLine 2 none) ({ frames := 6, cells := 0, slots := 0, locals := 135 } : Room)).room s m args below meth c H locs 0 0 (MQ below (va_Qv post (gB D vwCl (WM q ad) (mE D q)) A) args s 0 0 A) (F0 m 59 ls []) := by
    intro z x1 H locs ls h hP hS hl
    unfold pX8_readLine_b59 at h
    refine lv_aload_n hx hb dX8_readLine_59 rfl (lv_at hl 0 rfl) ?_
    refine lv_iconst (v := (5 : Int32)) hx hb dX8_readLine_60 (by decide) ?_
    refine g_cVv (Wd := WM q ad) (z := z) (As := [.int (5 : Int32)]) (rest := []) hG S (kX8_fails l D q ad A hD z (5 : Int32) _ h) (cwV 1 ht (cW_V (fun _ h => h) tw_co_X8_fails tw_ml_X8_111 tw_im_X8_fails tw_se_X8_fails tw_in_X8) rfl rfl rfl (by decide +kernel) ⟨by decide, by decide⟩) (va_recv hK hP (ci := 8) (q0 := 0) rfl (wm_0 q ad z)) hE hP hS rfl hl.1 rfl (Nat.le_of_ble_eq_true rfl) dX8_readLine_61 ⟨Nat.zero_le _, Nat.zero_le _⟩ (fun z61 H locs h hP hS => ?_)
    exact B64 z61 x1 _ _ _ h hP hS (lv_sub hl [0, 1] rfl)
  have B37 : ∀ (z : MX) (x1 : Int32) (H : Heap) (locs : List Loc) (ls : Array Slot), pX8_readLine_b37  post z x1 → va_P D vwCl (WM q ad z) H → va_S A s.heap H locs → lv_has ls 2 [(0, .ref (ad 0)), (1, .int x1)] → W p l e (headSpec (cW yX8_readLine cX8_readLine 2 none) ({ frames := 6, cells := 0, slots := 0, locals := 135 } : Room)).room s m args below meth c H locs 0 0 (MQ below (va_Qv post (gB D vwCl (WM q ad) (mE D q)) A) args s 0 0 A) (F0 m 37 ls []) := by
    intro z x1 H locs ls h hP hS hl
    unfold pX8_readLine_b37 at h
    refine lv_iload_n hx hb dX8_readLine_37 rfl (lv_at hl 1 rfl) ?_
    refine lv_i2l hx hb dX8_readLine_38 rfl ?_
    refine lv_ldc2 (v := (4 : Int64)) hx hb hown (ht _ tw_cn_X8_152) dX8_readLine_39 ?_
    refine lv_ldc2 (v := (7 : Int64)) hx hb hown (ht _ tw_cn_X8_154) dX8_readLine_42 ?_
    refine g_cSi (Wd := WM q ad) (z := z) (As := [.long (Int32.toInt64 x1), .long (4 : Int64), .long (7 : Int64)]) (rest := []) hG S (kX8_in l D q ad A hD z (Int32.toInt64 x1) (4 : Int64) (7 : Int64) _ h) (va_cwS 3 ht (cW_S (fun _ h => h) tw_co_X8_in tw_ml_X8_74 tw_st_X8_in tw_in_X8) rfl rfl rfl (by decide +kernel) ⟨by decide, by decide⟩) hE hP hS rfl hl.1 rfl (Nat.le_of_ble_eq_true rfl) dX8_readLine_45 ⟨Nat.zero_le _, Nat.zero_le _⟩ (fun r45 z45 H locs h hP hS => ?_)
    refine lv_if_eq (tgt := 64) hx hb dX8_readLine_48 (by decide) (fun c48 => ?_) (fun c48 => ?_)
    · have h := h.1 c48
      exact B64 z45 x1 _ _ _ h hP hS (lv_sub hl [0, 1] rfl)
    · have h := h.2 c48
      refine lv_aload_n hx hb dX8_readLine_51 rfl (lv_at hl 0 rfl) ?_
      refine va_get (D := D) (ci := 8) (v := .int (z45.1 0 9)) (C := RX8) (T := TX8) (N := 45) hx hb ht tl_X8 hown hK hP 0 (wm_0 q ad z45) rfl 9 (by decide) (ht _ tw_fl_X8_135) (fun _ h9 => h9) rfl dX8_readLine_52 ?_
      refine lv_iconst (v := (4 : Int32)) hx hb dX8_readLine_55 (by decide) ?_
      refine lv_icmp_ne (tgt := 64) hx hb dX8_readLine_56 (by decide) (fun c56 => ?_) (fun c56 => ?_)
      · have h := h.1 c56
        exact B64 z45 x1 _ _ _ h hP hS (lv_sub hl [0, 1] rfl)
      · have h := h.2 c56
        exact B59 z45 x1 _ _ _ h hP hS (lv_sub hl [0, 1] rfl)
  refine g_entry (vs := [.ref (ad 0)]) hargs (Nat.le_of_ble_eq_true rfl) (fun ls hl => ?_)
  have hl : lv_has ls 2 [(0, .ref (ad 0))] := hl
  unfold pX8_readLine at h
  refine lv_aload_n hx hb dX8_readLine_0 rfl (lv_at hl 0 rfl) ?_
  refine g_cVi (Wd := WM q ad) (z := z) (As := []) (rest := []) hG S (kX8_nameHere l D q ad A hD z _ h) (cwV 0 ht (cW_V (fun _ h => h) tw_co_X8_nameHere tw_ml_X8_131 tw_im_X8_nameHere tw_se_X8_nameHere tw_in_X8) rfl rfl rfl (by decide +kernel) ⟨by decide, by decide⟩) (va_recv hK hP (ci := 8) (q0 := 0) rfl (wm_0 q ad z)) hE hP hS rfl hl.1 rfl (Nat.le_of_ble_eq_true rfl) dX8_readLine_1 ⟨Nat.zero_le _, Nat.zero_le _⟩ (fun r1 z1 H locs h hP hS => ?_)
  refine lv_istore_n (lv' := [(1, .int r1), (0, .ref (ad 0))]) hx hb dX8_readLine_4 rfl hl (by decide) rfl (fun ls hl => ?_)
  refine lv_iload_n hx hb dX8_readLine_5 rfl (lv_at hl 0 rfl) ?_
  refine lv_i2l hx hb dX8_readLine_6 rfl ?_
  refine lv_lconst (v := (0 : Int64)) hx hb dX8_readLine_7 (by decide) ?_
  refine lv_ldc2 (v := (10 : Int64)) hx hb hown (ht _ tw_cn_X8_150) dX8_readLine_8 ?_
  refine g_cSi (Wd := WM q ad) (z := z1) (As := [.long (Int32.toInt64 r1), .long (0 : Int64), .long (10 : Int64)]) (rest := []) hG S (kX8_in l D q ad A hD z1 (Int32.toInt64 r1) (0 : Int64) (10 : Int64) _ h) (va_cwS 3 ht (cW_S (fun _ h => h) tw_co_X8_in tw_ml_X8_74 tw_st_X8_in tw_in_X8) rfl rfl rfl (by decide +kernel) ⟨by decide, by decide⟩) hE hP hS rfl hl.1 rfl (Nat.le_of_ble_eq_true rfl) dX8_readLine_11 ⟨Nat.zero_le _, Nat.zero_le _⟩ (fun r11 z11 H locs h hP hS => ?_)
  refine lv_if_ne (tgt := 23) hx hb dX8_readLine_14 (by decide) (fun c14 => ?_) (fun c14 => ?_)
  · have h := h.1 c14
    refine lv_iload_n hx hb dX8_readLine_23 rfl (lv_at hl 0 rfl) ?_
    refine lv_bipush (v := (10 : Int32)) hx hb dX8_readLine_24 (by decide) ?_
    refine lv_icmp_ne (tgt := 37) hx hb dX8_readLine_26 (by decide) (fun c26 => ?_) (fun c26 => ?_)
    · have h := h.1 c26
      exact B37 z11 r1 _ _ _ h hP hS (lv_sub hl [1, 0] rfl)
    · have h := h.2 c26
      refine lv_aload_n hx hb dX8_readLine_29 rfl (lv_at hl 1 rfl) ?_
      refine va_get (D := D) (ci := 8) (v := .int (z11.1 0 10)) (C := RX8) (T := TX8) (N := 45) hx hb ht tl_X8 hown hK hP 0 (wm_0 q ad z11) rfl 10 (by decide) (ht _ tw_fl_X8_128) (fun _ h9 => h9) rfl dX8_readLine_30 ?_
      refine lv_iconst (v := (4 : Int32)) hx hb dX8_readLine_33 (by decide) ?_
      refine lv_icmp_eq (tgt := 59) hx hb dX8_readLine_34 (by decide) (fun c34 => ?_) (fun c34 => ?_)
      · have h := h.1 c34
        exact B59 z11 r1 _ _ _ h hP hS (lv_sub hl [1, 0] rfl)
      · have h := h.2 c34
        exact B37 z11 r1 _ _ _ h hP hS (lv_sub hl [1, 0] rfl)
  · have h := h.2 c14
    refine lv_aload_n hx hb dX8_readLine_17 rfl (lv_at hl 1 rfl) ?_
    refine lv_iconst (v := (2 : Int32)) hx hb dX8_readLine_18 (by decide) ?_
    refine g_cVv (Wd := WM q ad) (z := z11) (As := [.int (2 : Int32)]) (rest := []) hG S (kX8_fails l D q ad A hD z11 (2 : Int32) _ h) (cwV 1 ht (cW_V (fun _ h => h) tw_co_X8_fails tw_ml_X8_111 tw_im_X8_fails tw_se_X8_fails tw_in_X8) rfl rfl rfl (by decide +kernel) ⟨by decide, by decide⟩) (va_recv hK hP (ci := 8) (q0 := 0) rfl (wm_0 q ad z11)) hE hP hS rfl hl.1 rfl (Nat.le_of_ble_eq_true rfl) dX8_readLine_19 ⟨Nat.zero_le _, Nat.zero_le _⟩ (fun z19 H locs h hP hS => ?_)
    exact g_rv hG hx hb hr hlocks hE hP hS h dX8_readLine_22
def pX8_areBothHung_b55 (rec4 : MX → Int32 → Int32 → Prop) (post : Int32 → MX → Prop) (z : MX) (x2 : Int32) (y0 : Int32) : Prop :=
    ∀ x2_56 : Int32, x2_56 = x2 + (1 : Int32) →
    rec4 z y0 x2_56
def pX8_areBothHung_b54 (rec4 : MX → Int32 → Int32 → Prop) (post : Int32 → MX → Prop) (z : MX) (x2 : Int32) : Prop :=
    pX8_areBothHung_b55  rec4 post z x2 (0 : Int32)
def pX8_areBothHung_b50 (rec4 : MX → Int32 → Int32 → Prop) (post : Int32 → MX → Prop) (z : MX) (x2 : Int32) : Prop :=
    pX8_areBothHung_b55  rec4 post z x2 (1 : Int32)
def pX8_areBothHung_l4 (rec4 : MX → Int32 → Int32 → Prop) (post : Int32 → MX → Prop) (z : MX) (x1 : Int32) (x2 : Int32) : Prop :=
    (((z.1 0 10) ≤ x2 →
      ((x1 = 0 ∨ x1 = 1) ∧ post x1 z)) ∧
    (¬ (z.1 0 10) ≤ x2 →
      ((¬ x1 = 0 →
        pX8_areBothHung_b50  rec4 post z x2) ∧
      (x1 = 0 →
        vp_in ((2 : Int32) * x2) 8 ∧
        vp_in (z.1 5 (Int32.toNatClampNeg ((2 : Int32) * x2))) 25 ∧
        (((z.1 4 (Int32.toNatClampNeg (z.1 5 (Int32.toNatClampNeg ((2 : Int32) * x2))))) ≤ 0 →
          pX8_areBothHung_b54  rec4 post z x2) ∧
        (¬ (z.1 4 (Int32.toNatClampNeg (z.1 5 (Int32.toNatClampNeg ((2 : Int32) * x2))))) ≤ 0 →
          vp_in (((2 : Int32) * x2) + (1 : Int32)) 8 ∧
          vp_in (z.1 5 (Int32.toNatClampNeg (((2 : Int32) * x2) + (1 : Int32)))) 25 ∧
          (((z.1 4 (Int32.toNatClampNeg (z.1 5 (Int32.toNatClampNeg (((2 : Int32) * x2) + (1 : Int32)))))) ≤ 0 →
            pX8_areBothHung_b54  rec4 post z x2) ∧
          (¬ (z.1 4 (Int32.toNatClampNeg (z.1 5 (Int32.toNatClampNeg (((2 : Int32) * x2) + (1 : Int32)))))) ≤ 0 →
            pX8_areBothHung_b50  rec4 post z x2))))))))
def pX8_areBothHung_L4 (post : Int32 → MX → Prop) : Nat → MX → Int32 → Int32 → Prop
  | 0 => fun _ _ _ => False
  | n + 1 => fun z x1 x2 => pX8_areBothHung_l4  (pX8_areBothHung_L4  post n) post z x1 x2
def pX8_areBothHung (z : MX) (post : Int32 → MX → Prop) : Prop :=
  ∃ n, pX8_areBothHung_L4  post n z (0 : Int32) (0 : Int32)
set_option maxHeartbeats 4000000 in
set_option maxRecDepth 100000 in
theorem kX8_areBothHung (l : Launch) (D : va_G) (q : Nat → ClassId) (ad : Nat → Nat) (A : Nat → Prop) (hD : ∀ z, va_D A (WM q ad z)) (z : MX) (post : Int32 → MX → Prop) (h : pX8_areBothHung  z post) : Met l yX8_areBothHung (cW yX8_areBothHung cX8_areBothHung 3 (some .boolean)) ({ frames := 0, cells := 0, slots := 0, locals := 0 } : Room) (va_Pc [.ref (ad 0)] ((gB D vwCl (WM q ad) (mE D q)) z)) (va_Qi post (gB D vwCl (WM q ad) (mE D q)) A) 0 0 A := by
  refine Met.ofW (cc := cX8_areBothHung) (maxL := 3) (ret := (some .boolean)) (by decide) rfl ?_
  intro p e s m args below meth c s₁ B hml hv
  obtain ⟨hargs, hP, hE⟩ := hv
  have hx := B.exec
  have hb := B.bytes
  have hr := B.returns
  have hts := atoms_spec (ws := (cW yX8_areBothHung cX8_areBothHung 3 (some .boolean))) B.pre
  have ht : ∀ w ∈ tG, w.before args s = true := fun w h => hts w (List.mem_cons_of_mem _ h)
  have hown : s.vm.findClass RX8 = some m.cls := findClass_of_methodNamed B.named
  have hlocks := B.notSynchronized
  have hK := hE.1
  have hG := mE_G D q A
  have S : CallFix p m c cX8_areBothHung 3 s args tG RX8 := ⟨hx, hb, hml, hown, ht⟩
  have hS : va_S A s.heap s.heap [] := va_S.rf
  have B55 : ∀ (rec4 : MX → Int32 → Int32 → Prop) (hrec4 : ∀ (z : MX) (x1 : Int32) (x2 : Int32) (H : Heap) (locs : List Loc) (ls : Array Slot), rec4 z x1 x2 → va_P D vwCl (WM q ad z) H → va_S A s.heap H locs → lv_has ls 3 [(0, .ref (ad 0)), (1, .int x1), (2, .int x2)] → W p l e (headSpec (cW yX8_areBothHung cX8_areBothHung 3 (some .boolean)) ({ frames := 0, cells := 0, slots := 0, locals := 0 } : Room)).room s m args below meth c H locs 0 0 (MQ below (va_Qi post (gB D vwCl (WM q ad) (mE D q)) A) args s 0 0 A) (F0 m 4 ls [])) (z : MX) (x2 : Int32) (y0 : Int32) (H : Heap) (locs : List Loc) (ls : Array Slot), pX8_areBothHung_b55  rec4 post z x2 y0 → va_P D vwCl (WM q ad z) H → va_S A s.heap H locs → lv_has ls 3 [(0, .ref (ad 0)), (2, .int x2)] → W p l e (headSpec (cW yX8_areBothHung cX8_areBothHung 3 (some .boolean)) ({ frames := 0, cells := 0, slots := 0, locals := 0 } : Room)).room s m args below meth c H locs 0 0 (MQ below (va_Qi post (gB D vwCl (WM q ad) (mE D q)) A) args s 0 0 A) (F0 m 55 ls [.int y0]) := by
    intro rec4 hrec4 z x2 y0 H locs ls h hP hS hl
    unfold pX8_areBothHung_b55 at h
    refine lv_istore_n (lv' := [(1, .int y0), (0, .ref (ad 0)), (2, .int x2)]) hx hb dX8_areBothHung_55 rfl hl (by decide) rfl (fun ls hl => ?_)
    obtain ⟨x2_56, ex2_56⟩ : ∃ w : Int32, w = x2 + (1 : Int32) := ⟨_, rfl⟩
    have h := h x2_56 ex2_56
    refine lv_iinc (v := x2_56) (lv' := [(2, .int x2_56), (1, .int y0), (0, .ref (ad 0))]) hx hb dX8_areBothHung_56 hl (k := 2) rfl (by rw [ex2_56]; rfl) (by decide) rfl (fun ls hl => ?_)
    refine lv_goto (tgt := 4) hx hb dX8_areBothHung_59 (by decide) ?_
    exact hrec4 z y0 x2_56 _ _ _ h hP hS (lv_sub hl [2, 1, 0] rfl)
  have B54 : ∀ (rec4 : MX → Int32 → Int32 → Prop) (hrec4 : ∀ (z : MX) (x1 : Int32) (x2 : Int32) (H : Heap) (locs : List Loc) (ls : Array Slot), rec4 z x1 x2 → va_P D vwCl (WM q ad z) H → va_S A s.heap H locs → lv_has ls 3 [(0, .ref (ad 0)), (1, .int x1), (2, .int x2)] → W p l e (headSpec (cW yX8_areBothHung cX8_areBothHung 3 (some .boolean)) ({ frames := 0, cells := 0, slots := 0, locals := 0 } : Room)).room s m args below meth c H locs 0 0 (MQ below (va_Qi post (gB D vwCl (WM q ad) (mE D q)) A) args s 0 0 A) (F0 m 4 ls [])) (z : MX) (x2 : Int32) (H : Heap) (locs : List Loc) (ls : Array Slot), pX8_areBothHung_b54  rec4 post z x2 → va_P D vwCl (WM q ad z) H → va_S A s.heap H locs → lv_has ls 3 [(0, .ref (ad 0)), (2, .int x2)] → W p l e (headSpec (cW yX8_areBothHung cX8_areBothHung 3 (some .boolean)) ({ frames := 0, cells := 0, slots := 0, locals := 0 } : Room)).room s m args below meth c H locs 0 0 (MQ below (va_Qi post (gB D vwCl (WM q ad) (mE D q)) A) args s 0 0 A) (F0 m 54 ls []) := by
    intro rec4 hrec4 z x2 H locs ls h hP hS hl
    unfold pX8_areBothHung_b54 at h
    refine lv_iconst (v := (0 : Int32)) hx hb dX8_areBothHung_54 (by decide) ?_
    exact B55 rec4 hrec4 z x2 (0 : Int32) _ _ _ h hP hS (lv_sub hl [0, 1] rfl)
  have B50 : ∀ (rec4 : MX → Int32 → Int32 → Prop) (hrec4 : ∀ (z : MX) (x1 : Int32) (x2 : Int32) (H : Heap) (locs : List Loc) (ls : Array Slot), rec4 z x1 x2 → va_P D vwCl (WM q ad z) H → va_S A s.heap H locs → lv_has ls 3 [(0, .ref (ad 0)), (1, .int x1), (2, .int x2)] → W p l e (headSpec (cW yX8_areBothHung cX8_areBothHung 3 (some .boolean)) ({ frames := 0, cells := 0, slots := 0, locals := 0 } : Room)).room s m args below meth c H locs 0 0 (MQ below (va_Qi post (gB D vwCl (WM q ad) (mE D q)) A) args s 0 0 A) (F0 m 4 ls [])) (z : MX) (x2 : Int32) (H : Heap) (locs : List Loc) (ls : Array Slot), pX8_areBothHung_b50  rec4 post z x2 → va_P D vwCl (WM q ad z) H → va_S A s.heap H locs → lv_has ls 3 [(0, .ref (ad 0)), (2, .int x2)] → W p l e (headSpec (cW yX8_areBothHung cX8_areBothHung 3 (some .boolean)) ({ frames := 0, cells := 0, slots := 0, locals := 0 } : Room)).room s m args below meth c H locs 0 0 (MQ below (va_Qi post (gB D vwCl (WM q ad) (mE D q)) A) args s 0 0 A) (F0 m 50 ls []) := by
    intro rec4 hrec4 z x2 H locs ls h hP hS hl
    unfold pX8_areBothHung_b50 at h
    refine lv_iconst (v := (1 : Int32)) hx hb dX8_areBothHung_50 (by decide) ?_
    refine lv_goto (tgt := 55) hx hb dX8_areBothHung_51 (by decide) ?_
    exact B55 rec4 hrec4 z x2 (1 : Int32) _ _ _ h hP hS (lv_sub hl [0, 1] rfl)
  have B4 : ∀ (rec4 : MX → Int32 → Int32 → Prop) (hrec4 : ∀ (z : MX) (x1 : Int32) (x2 : Int32) (H : Heap) (locs : List Loc) (ls : Array Slot), rec4 z x1 x2 → va_P D vwCl (WM q ad z) H → va_S A s.heap H locs → lv_has ls 3 [(0, .ref (ad 0)), (1, .int x1), (2, .int x2)] → W p l e (headSpec (cW yX8_areBothHung cX8_areBothHung 3 (some .boolean)) ({ frames := 0, cells := 0, slots := 0, locals := 0 } : Room)).room s m args below meth c H locs 0 0 (MQ below (va_Qi post (gB D vwCl (WM q ad) (mE D q)) A) args s 0 0 A) (F0 m 4 ls [])) (z : MX) (x1 : Int32) (x2 : Int32) (H : Heap) (locs : List Loc) (ls : Array Slot), pX8_areBothHung_l4  rec4 post z x1 x2 → va_P D vwCl (WM q ad z) H → va_S A s.heap H locs → lv_has ls 3 [(0, .ref (ad 0)), (1, .int x1), (2, .int x2)] → W p l e (headSpec (cW yX8_areBothHung cX8_areBothHung 3 (some .boolean)) ({ frames := 0, cells := 0, slots := 0, locals := 0 } : Room)).room s m args below meth c H locs 0 0 (MQ below (va_Qi post (gB D vwCl (WM q ad) (mE D q)) A) args s 0 0 A) (F0 m 4 ls []) := by
    intro rec4 hrec4 z x1 x2 H locs ls h hP hS hl
    unfold pX8_areBothHung_l4 at h
    refine lv_iload_n hx hb dX8_areBothHung_4 rfl (lv_at hl 2 rfl) ?_
    refine lv_aload_n hx hb dX8_areBothHung_5 rfl (lv_at hl 0 rfl) ?_
    refine va_get (D := D) (ci := 8) (v := .int (z.1 0 10)) (C := RX8) (T := TX8) (N := 45) hx hb ht tl_X8 hown hK hP 0 (wm_0 q ad z) rfl 10 (by decide) (ht _ tw_fl_X8_128) (fun _ h9 => h9) rfl dX8_areBothHung_6 ?_
    refine lv_icmp_ge (tgt := 62) hx hb dX8_areBothHung_9 (by decide) (fun c9 => ?_) (fun c9 => ?_)
    · have h := h.1 c9
      refine lv_iload_n hx hb dX8_areBothHung_62 rfl (lv_at hl 1 rfl) ?_
      exact g_rz hG hx hb hr hlocks hE hP hS h dX8_areBothHung_63
    · have h := h.2 c9
      refine lv_iload_n hx hb dX8_areBothHung_12 rfl (lv_at hl 1 rfl) ?_
      refine lv_if_ne (tgt := 50) hx hb dX8_areBothHung_13 (by decide) (fun c13 => ?_) (fun c13 => ?_)
      · have h := h.1 c13
        exact B50 rec4 hrec4 z x2 _ _ _ h hP hS (lv_sub hl [0, 2] rfl)
      · have h := h.2 c13
        refine lv_aload_n hx hb dX8_areBothHung_16 rfl (lv_at hl 0 rfl) ?_
        refine va_get (D := D) (ci := 8) (v := .ref (ad 4)) (C := RX8) (T := TX8) (N := 45) hx hb ht tl_X8 hown hK hP 0 (wm_0 q ad z) rfl 6 (by decide) (ht _ tw_fl_X8_23) (fun _ h9 => h9) rfl dX8_areBothHung_17 ?_
        refine lv_aload_n hx hb dX8_areBothHung_20 rfl (lv_at hl 0 rfl) ?_
        refine va_get (D := D) (ci := 8) (v := .ref (ad 5)) (C := RX8) (T := TX8) (N := 45) hx hb ht tl_X8 hown hK hP 0 (wm_0 q ad z) rfl 7 (by decide) (ht _ tw_fl_X8_26) (fun _ h9 => h9) rfl dX8_areBothHung_21 ?_
        refine lv_iconst (v := (2 : Int32)) hx hb dX8_areBothHung_24 (by decide) ?_
        refine lv_iload_n hx hb dX8_areBothHung_25 rfl (lv_at hl 2 rfl) ?_
        refine lv_imul hx hb dX8_areBothHung_26 ?_
        have hi27 := h.1
        have h := h.2
        refine va_iald hx hb hK hP 5 0 (wm_5 q ad z) rfl hi27 dX8_areBothHung_27 ?_
        have hi28 := h.1
        have h := h.2
        refine va_iald hx hb hK hP 4 0 (wm_4 q ad z) rfl hi28 dX8_areBothHung_28 ?_
        refine lv_if_le (tgt := 54) hx hb dX8_areBothHung_29 (by decide) (fun c29 => ?_) (fun c29 => ?_)
        · have h := h.1 c29
          exact B54 rec4 hrec4 z x2 _ _ _ h hP hS (lv_sub hl [0, 2] rfl)
        · have h := h.2 c29
          refine lv_aload_n hx hb dX8_areBothHung_32 rfl (lv_at hl 0 rfl) ?_
          refine va_get (D := D) (ci := 8) (v := .ref (ad 4)) (C := RX8) (T := TX8) (N := 45) hx hb ht tl_X8 hown hK hP 0 (wm_0 q ad z) rfl 6 (by decide) (ht _ tw_fl_X8_23) (fun _ h9 => h9) rfl dX8_areBothHung_33 ?_
          refine lv_aload_n hx hb dX8_areBothHung_36 rfl (lv_at hl 0 rfl) ?_
          refine va_get (D := D) (ci := 8) (v := .ref (ad 5)) (C := RX8) (T := TX8) (N := 45) hx hb ht tl_X8 hown hK hP 0 (wm_0 q ad z) rfl 7 (by decide) (ht _ tw_fl_X8_26) (fun _ h9 => h9) rfl dX8_areBothHung_37 ?_
          refine lv_iconst (v := (2 : Int32)) hx hb dX8_areBothHung_40 (by decide) ?_
          refine lv_iload_n hx hb dX8_areBothHung_41 rfl (lv_at hl 2 rfl) ?_
          refine lv_imul hx hb dX8_areBothHung_42 ?_
          refine lv_iconst (v := (1 : Int32)) hx hb dX8_areBothHung_43 (by decide) ?_
          refine lv_iadd hx hb dX8_areBothHung_44 ?_
          have hi45 := h.1
          have h := h.2
          refine va_iald hx hb hK hP 5 0 (wm_5 q ad z) rfl hi45 dX8_areBothHung_45 ?_
          have hi46 := h.1
          have h := h.2
          refine va_iald hx hb hK hP 4 0 (wm_4 q ad z) rfl hi46 dX8_areBothHung_46 ?_
          refine lv_if_le (tgt := 54) hx hb dX8_areBothHung_47 (by decide) (fun c47 => ?_) (fun c47 => ?_)
          · have h := h.1 c47
            exact B54 rec4 hrec4 z x2 _ _ _ h hP hS (lv_sub hl [0, 2] rfl)
          · have h := h.2 c47
            exact B50 rec4 hrec4 z x2 _ _ _ h hP hS (lv_sub hl [0, 2] rfl)
  have L4 : ∀ (n : Nat) (z : MX) (x1 : Int32) (x2 : Int32) (H : Heap) (locs : List Loc) (ls : Array Slot), pX8_areBothHung_L4  post n z x1 x2 → va_P D vwCl (WM q ad z) H → va_S A s.heap H locs → lv_has ls 3 [(0, .ref (ad 0)), (1, .int x1), (2, .int x2)] → W p l e (headSpec (cW yX8_areBothHung cX8_areBothHung 3 (some .boolean)) ({ frames := 0, cells := 0, slots := 0, locals := 0 } : Room)).room s m args below meth c H locs 0 0 (MQ below (va_Qi post (gB D vwCl (WM q ad) (mE D q)) A) args s 0 0 A) (F0 m 4 ls []) := by
    intro n
    induction n with
    | zero =>
      intro z x1 x2 H locs ls h
      exact False.elim h
    | succ n ih =>
      intro z x1 x2 H locs ls h hP hS hl
      exact B4 (pX8_areBothHung_L4  post n) ih z x1 x2 H locs ls h hP hS hl
  refine g_entry (vs := [.ref (ad 0)]) hargs (Nat.le_of_ble_eq_true rfl) (fun ls hl => ?_)
  have hl : lv_has ls 3 [(0, .ref (ad 0))] := hl
  unfold pX8_areBothHung at h
  refine lv_iconst (v := (0 : Int32)) hx hb dX8_areBothHung_0 (by decide) ?_
  refine lv_istore_n (lv' := [(1, .int (0 : Int32)), (0, .ref (ad 0))]) hx hb dX8_areBothHung_1 rfl hl (by decide) rfl (fun ls hl => ?_)
  refine lv_iconst (v := (0 : Int32)) hx hb dX8_areBothHung_2 (by decide) ?_
  refine lv_istore_n (lv' := [(2, .int (0 : Int32)), (1, .int (0 : Int32)), (0, .ref (ad 0))]) hx hb dX8_areBothHung_3 rfl hl (by decide) rfl (fun ls hl => ?_)
  obtain ⟨n, h⟩ := h
  exact L4 n z (0 : Int32) (0 : Int32) _ _ _ h hP hS (lv_sub hl [2, 1, 0] rfl)
def pX8_text_l165 (rec165 : MX → Int32 → Int32 → Prop) (post : Int32 → MX → Prop) (z : MX) (x1 : Int32) (x2 : Int32) : Prop :=
    (((25 : Int32) ≤ x2 →
      ∀ z212 : MX, z212 = mw z 0 1 (z.1 0 8) →
      ∀ z220 : MX, z220 = mw z212 0 2 (z212.1 0 9) →
      ∀ z228 : MX, z228 = mw z220 0 4 (z220.1 0 10) →
      ∀ z233 : MX, z233 = mw z228 0 37 (0 : Int32) →
      vp_in (0 : Int32) 2 ∧
      ((0 : Int32) = 0 ∨ (0 : Int32) = 1) ∧
      ∀ z242 : MX, z242 = mw z233 16 (Int32.toNatClampNeg (0 : Int32)) (0 : Int32) →
      vp_in (1 : Int32) 2 ∧
      ((0 : Int32) = 0 ∨ (0 : Int32) = 1) ∧
      ∀ z249 : MX, z249 = mw z242 16 (Int32.toNatClampNeg (1 : Int32)) (0 : Int32) →
      post x1 z249) ∧
    (¬ (25 : Int32) ≤ x2 →
      vp_in x2 25 ∧
      vp_in x2 125 ∧
      ∀ z182 : MX, z182 = mw z 1 (Int32.toNatClampNeg x2) (z.1 4 (Int32.toNatClampNeg x2)) →
      ¬ (8 : Int32) = 0 ∧
      ¬ (8 : Int32) = 0 ∧
      vp_in (x2 - x2 / (8 : Int32) * (8 : Int32)) 8 ∧
      vp_in (x2 - x2 / (8 : Int32) * (8 : Int32)) 8 ∧
      ∀ z200 : MX, z200 = mw z182 2 (Int32.toNatClampNeg (x2 - x2 / (8 : Int32) * (8 : Int32))) (z182.1 5 (Int32.toNatClampNeg (x2 - x2 / (8 : Int32) * (8 : Int32)))) →
      ∀ x2_201 : Int32, x2_201 = x2 + (1 : Int32) →
      rec165 z200 x1 x2_201))
def pX8_text_L165 (post : Int32 → MX → Prop) : Nat → MX → Int32 → Int32 → Prop
  | 0 => fun _ _ _ => False
  | n + 1 => fun z x1 x2 => pX8_text_l165  (pX8_text_L165  post n) post z x1 x2
def pX8_text_b135 (post : Int32 → MX → Prop) (z : MX) (x1 : Int32) : Prop :=
    ∀ z137 : MX, z137 = mw z 0 15 (0 : Int32) →
    ∀ z145 : MX, z145 = mw z137 0 16 (z137.1 0 17) →
    (((z145.1 0 17) ≤ 0 →
      ∃ n, pX8_text_L165  post n z145 x1 (0 : Int32)) ∧
    (¬ (z145.1 0 17) ≤ 0 →
      post ((-10 : Int32) - (z145.1 0 18)) z145))
def pX8_text_b115 (post : Int32 → MX → Prop) (z : MX) (x1 : Int32) : Prop :=
    ((¬ (z.1 0 17) = 0 →
      pX8_text_b135  post z x1) ∧
    ((z.1 0 17) = 0 →
      pX8_areBothHung z (fun (r123 : Int32) (z123 : MX) =>
      ((r123 = 0 →
        pX8_text_b135  post z123 x1) ∧
      (¬ r123 = 0 →
        pX8_fails z123 (7 : Int32) (fun (z132 : MX) =>
        pX8_text_b135  post z132 x1))))))
def pX8_text_b91 (post : Int32 → MX → Prop) (z : MX) (x1 : Int32) : Prop :=
    ((¬ (z.1 0 17) = 0 →
      pX8_text_b115  post z x1) ∧
    ((z.1 0 17) = 0 →
      (((z.1 0 13) < (z.1 0 8) →
        pX8_text_b115  post z x1) ∧
      (¬ (z.1 0 13) < (z.1 0 8) →
        pX8_fails z (6 : Int32) (fun (z112 : MX) =>
        pX8_text_b115  post z112 x1)))))
def pX8_text_l67 (rec67 : MX → Int32 → Prop) (post : Int32 → MX → Prop) (z : MX) (x1 : Int32) : Prop :=
    ((¬ (z.1 0 17) = 0 →
      pX8_text_b91  post z x1) ∧
    ((z.1 0 17) = 0 →
      (((z.1 0 21) = 0 →
        pX8_text_b91  post z x1) ∧
      (¬ (z.1 0 21) = 0 →
        pX8_readLine z (fun (z82 : MX) =>
        ∀ x1_85 : Int32, x1_85 = x1 + (1 : Int32) →
        rec67 z82 x1_85)))))
def pX8_text_L67 (post : Int32 → MX → Prop) : Nat → MX → Int32 → Prop
  | 0 => fun _ _ => False
  | n + 1 => fun z x1 => pX8_text_l67  (pX8_text_L67  post n) post z x1
def pX8_text_l44 (rec44 : MX → Int32 → Int32 → Prop) (post : Int32 → MX → Prop) (z : MX) (x1 : Int32) (x2 : Int32) : Prop :=
    (((25 : Int32) ≤ x2 →
      pX8_step z (fun (z64 : MX) =>
      ∃ n, pX8_text_L67  post n z64 x1)) ∧
    (¬ (25 : Int32) ≤ x2 →
      vp_in x2 25 ∧
      ∀ z56 : MX, z56 = mw z 4 (Int32.toNatClampNeg x2) (0 : Int32) →
      ∀ x2_57 : Int32, x2_57 = x2 + (1 : Int32) →
      rec44 z56 x1 x2_57))
def pX8_text_L44 (post : Int32 → MX → Prop) : Nat → MX → Int32 → Int32 → Prop
  | 0 => fun _ _ _ => False
  | n + 1 => fun z x1 x2 => pX8_text_l44  (pX8_text_L44  post n) post z x1 x2
def pX8_text (z : MX) (post : Int32 → MX → Prop) : Prop :=
  ∀ z2 : MX, z2 = mw z 0 17 (0 : Int32) →
  ∀ z7 : MX, z7 = mw z2 0 19 (0 : Int32) →
  ∀ z12 : MX, z12 = mw z7 0 8 (4 : Int32) →
  ∀ z17 : MX, z17 = mw z12 0 9 (0 : Int32) →
  ∀ z22 : MX, z22 = mw z17 0 10 (0 : Int32) →
  ∀ z27 : MX, z27 = mw z22 0 11 (0 : Int32) →
  ∀ z32 : MX, z32 = mw z27 0 12 (0 : Int32) →
  ∀ z37 : MX, z37 = mw z32 0 13 (-1 : Int32) →
  ∃ n, pX8_text_L44  post n z37 (0 : Int32) (0 : Int32)
set_option maxHeartbeats 4000000 in
set_option maxRecDepth 100000 in
theorem kX8_text (l : Launch) (D : va_G) (q : Nat → ClassId) (ad : Nat → Nat) (A : Nat → Prop) (hD : ∀ z, va_D A (WM q ad z)) (z : MX) (post : Int32 → MX → Prop) (h : pX8_text  z post) : Met l yX8_text (cW yX8_text cX8_text 3 (some .int)) ({ frames := 7, cells := 0, slots := 0, locals := 156 } : Room) (va_Pc [.ref (ad 0)] ((gB D vwCl (WM q ad) (mE D q)) z)) (va_Qi post (gB D vwCl (WM q ad) (mE D q)) A) 0 0 A := by
  refine Met.ofW (cc := cX8_text) (maxL := 3) (ret := (some .int)) (by decide) rfl ?_
  intro p e s m args below meth c s₁ B hml hv
  obtain ⟨hargs, hP, hE⟩ := hv
  have hx := B.exec
  have hb := B.bytes
  have hr := B.returns
  have hts := atoms_spec (ws := (cW yX8_text cX8_text 3 (some .int))) B.pre
  have ht : ∀ w ∈ tG, w.before args s = true := fun w h => hts w (List.mem_cons_of_mem _ h)
  have hown : s.vm.findClass RX8 = some m.cls := findClass_of_methodNamed B.named
  have hlocks := B.notSynchronized
  have hK := hE.1
  have hG := mE_G D q A
  have S : CallFix p m c cX8_text 3 s args tG RX8 := ⟨hx, hb, hml, hown, ht⟩
  have hS : va_S A s.heap s.heap [] := va_S.rf
  have B165 : ∀ (rec165 : MX → Int32 → Int32 → Prop) (hrec165 : ∀ (z : MX) (x1 : Int32) (x2 : Int32) (H : Heap) (locs : List Loc) (ls : Array Slot), rec165 z x1 x2 → va_P D vwCl (WM q ad z) H → va_S A s.heap H locs → lv_has ls 3 [(0, .ref (ad 0)), (1, .int x1), (2, .int x2)] → W p l e (headSpec (cW yX8_text cX8_text 3 (some .int)) ({ frames := 7, cells := 0, slots := 0, locals := 156 } : Room)).room s m args below meth c H locs 0 0 (MQ below (va_Qi post (gB D vwCl (WM q ad) (mE D q)) A) args s 0 0 A) (F0 m 165 ls [])) (z : MX) (x1 : Int32) (x2 : Int32) (H : Heap) (locs : List Loc) (ls : Array Slot), pX8_text_l165  rec165 post z x1 x2 → va_P D vwCl (WM q ad z) H → va_S A s.heap H locs → lv_has ls 3 [(0, .ref (ad 0)), (1, .int x1), (2, .int x2)] → W p l e (headSpec (cW yX8_text cX8_text 3 (some .int)) ({ frames := 7, cells := 0, slots := 0, locals := 156 } : Room)).room s m args below meth c H locs 0 0 (MQ below (va_Qi post (gB D vwCl (WM q ad) (mE D q)) A) args s 0 0 A) (F0 m 165 ls []) := by
    intro rec165 hrec165 z x1 x2 H locs ls h hP hS hl
    unfold pX8_text_l165 at h
    refine lv_iload_n hx hb dX8_text_165 rfl (lv_at hl 2 rfl) ?_
    refine lv_bipush (v := (25 : Int32)) hx hb dX8_text_166 (by decide) ?_
    refine lv_icmp_ge (tgt := 207) hx hb dX8_text_168 (by decide) (fun c168 => ?_) (fun c168 => ?_)
    · have h := h.1 c168
      refine lv_aload_n hx hb dX8_text_207 rfl (lv_at hl 0 rfl) ?_
      refine lv_aload_n hx hb dX8_text_208 rfl (lv_at hl 0 rfl) ?_
      refine va_get (D := D) (ci := 8) (v := .int (z.1 0 8)) (C := RX8) (T := TX8) (N := 45) hx hb ht tl_X8 hown hK hP 0 (wm_0 q ad z) rfl 8 (by decide) (ht _ tw_fl_X8_144) (fun _ h9 => h9) rfl dX8_text_209 ?_
      refine g_put (D := D) (Wd := WM q ad) (z := z) (ci := 8) (v := .int (z.1 0 8)) (ty := .int) (C := RX8) (T := TX8) (N := 45) hx hb ht tl_X8 tyX8 tyX8_ok nmX8 hown hK hP (hD z) hS 0 (wm_0 q ad z) rfl 1 (by decide) (ht _ tw_fl_X8_13) (fun _ h9 => h9) rfl rfl rfl rfl (Nat.le_of_ble_eq_true rfl) ((pm_0_1 q ad z) (z.1 0 8)) dX8_text_212 (fun z212 H locs hz212 hP hS => ?_)
      have h := h z212 hz212
      refine lv_aload_n hx hb dX8_text_215 rfl (lv_at hl 0 rfl) ?_
      refine lv_aload_n hx hb dX8_text_216 rfl (lv_at hl 0 rfl) ?_
      refine va_get (D := D) (ci := 8) (v := .int (z212.1 0 9)) (C := RX8) (T := TX8) (N := 45) hx hb ht tl_X8 hown hK hP 0 (wm_0 q ad z212) rfl 9 (by decide) (ht _ tw_fl_X8_135) (fun _ h9 => h9) rfl dX8_text_217 ?_
      refine g_put (D := D) (Wd := WM q ad) (z := z212) (ci := 8) (v := .int (z212.1 0 9)) (ty := .int) (C := RX8) (T := TX8) (N := 45) hx hb ht tl_X8 tyX8 tyX8_ok nmX8 hown hK hP (hD z212) hS 0 (wm_0 q ad z212) rfl 2 (by decide) (ht _ tw_fl_X8_173) (fun _ h9 => h9) rfl rfl rfl rfl (Nat.le_of_ble_eq_true rfl) ((pm_0_2 q ad z212) (z212.1 0 9)) dX8_text_220 (fun z220 H locs hz220 hP hS => ?_)
      have h := h z220 hz220
      refine lv_aload_n hx hb dX8_text_223 rfl (lv_at hl 0 rfl) ?_
      refine lv_aload_n hx hb dX8_text_224 rfl (lv_at hl 0 rfl) ?_
      refine va_get (D := D) (ci := 8) (v := .int (z220.1 0 10)) (C := RX8) (T := TX8) (N := 45) hx hb ht tl_X8 hown hK hP 0 (wm_0 q ad z220) rfl 10 (by decide) (ht _ tw_fl_X8_128) (fun _ h9 => h9) rfl dX8_text_225 ?_
      refine g_put (D := D) (Wd := WM q ad) (z := z220) (ci := 8) (v := .int (z220.1 0 10)) (ty := .int) (C := RX8) (T := TX8) (N := 45) hx hb ht tl_X8 tyX8 tyX8_ok nmX8 hown hK hP (hD z220) hS 0 (wm_0 q ad z220) rfl 4 (by decide) (ht _ tw_fl_X8_176) (fun _ h9 => h9) rfl rfl rfl rfl (Nat.le_of_ble_eq_true rfl) ((pm_0_4 q ad z220) (z220.1 0 10)) dX8_text_228 (fun z228 H locs hz228 hP hS => ?_)
      have h := h z228 hz228
      refine lv_aload_n hx hb dX8_text_231 rfl (lv_at hl 0 rfl) ?_
      refine lv_iconst (v := (0 : Int32)) hx hb dX8_text_232 (by decide) ?_
      refine g_put (D := D) (Wd := WM q ad) (z := z228) (ci := 8) (v := .int (0 : Int32)) (ty := .int) (C := RX8) (T := TX8) (N := 45) hx hb ht tl_X8 tyX8 tyX8_ok nmX8 hown hK hP (hD z228) hS 0 (wm_0 q ad z228) rfl 37 (by decide) (ht _ tw_fl_X8_179) (fun _ h9 => h9) rfl rfl rfl rfl (Nat.le_of_ble_eq_true rfl) ((pm_0_37 q ad z228) (0 : Int32)) dX8_text_233 (fun z233 H locs hz233 hP hS => ?_)
      have h := h z233 hz233
      refine lv_aload_n hx hb dX8_text_236 rfl (lv_at hl 0 rfl) ?_
      refine va_get (D := D) (ci := 8) (v := .ref (ad 16)) (C := RX8) (T := TX8) (N := 45) hx hb ht tl_X8 hown hK hP 0 (wm_0 q ad z233) rfl 40 (by decide) (ht _ tw_fl_X8_60) (fun _ h9 => h9) rfl dX8_text_237 ?_
      refine lv_iconst (v := (0 : Int32)) hx hb dX8_text_240 (by decide) ?_
      refine lv_iconst (v := (0 : Int32)) hx hb dX8_text_241 (by decide) ?_
      have hi242 := h.1
      have h := h.2
      have hb242 := h.1
      have h := h.2
      refine g_zast (Wd := WM q ad) (z := z233) hx hb hK hP (hD z233) hS 16 (wm_16 q ad z233) rfl (am_16 q ad z233) hi242 hb242 dX8_text_242 (fun z242 H locs hz242 hP hS => ?_)
      have h := h z242 hz242
      refine lv_aload_n hx hb dX8_text_243 rfl (lv_at hl 0 rfl) ?_
      refine va_get (D := D) (ci := 8) (v := .ref (ad 16)) (C := RX8) (T := TX8) (N := 45) hx hb ht tl_X8 hown hK hP 0 (wm_0 q ad z242) rfl 40 (by decide) (ht _ tw_fl_X8_60) (fun _ h9 => h9) rfl dX8_text_244 ?_
      refine lv_iconst (v := (1 : Int32)) hx hb dX8_text_247 (by decide) ?_
      refine lv_iconst (v := (0 : Int32)) hx hb dX8_text_248 (by decide) ?_
      have hi249 := h.1
      have h := h.2
      have hb249 := h.1
      have h := h.2
      refine g_zast (Wd := WM q ad) (z := z242) hx hb hK hP (hD z242) hS 16 (wm_16 q ad z242) rfl (am_16 q ad z242) hi249 hb249 dX8_text_249 (fun z249 H locs hz249 hP hS => ?_)
      have h := h z249 hz249
      refine lv_iload_n hx hb dX8_text_250 rfl (lv_at hl 1 rfl) ?_
      exact g_ri hG hx hb hr hlocks hE hP hS h dX8_text_251
    · have h := h.2 c168
      refine lv_aload_n hx hb dX8_text_171 rfl (lv_at hl 0 rfl) ?_
      refine va_get (D := D) (ci := 8) (v := .ref (ad 1)) (C := RX8) (T := TX8) (N := 45) hx hb ht tl_X8 hown hK hP 0 (wm_0 q ad z) rfl 0 (by decide) (ht _ tw_fl_X8_7) (fun _ h9 => h9) rfl dX8_text_172 ?_
      refine lv_iload_n hx hb dX8_text_175 rfl (lv_at hl 2 rfl) ?_
      refine lv_aload_n hx hb dX8_text_176 rfl (lv_at hl 0 rfl) ?_
      refine va_get (D := D) (ci := 8) (v := .ref (ad 4)) (C := RX8) (T := TX8) (N := 45) hx hb ht tl_X8 hown hK hP 0 (wm_0 q ad z) rfl 6 (by decide) (ht _ tw_fl_X8_23) (fun _ h9 => h9) rfl dX8_text_177 ?_
      refine lv_iload_n hx hb dX8_text_180 rfl (lv_at hl 2 rfl) ?_
      have hi181 := h.1
      have h := h.2
      refine va_iald hx hb hK hP 4 0 (wm_4 q ad z) rfl hi181 dX8_text_181 ?_
      have hi182 := h.1
      have h := h.2
      refine g_iast (Wd := WM q ad) (z := z) hx hb hK hP (hD z) hS 1 (wm_1 q ad z) rfl (am_1 q ad z) hi182 dX8_text_182 (fun z182 H locs hz182 hP hS => ?_)
      have h := h z182 hz182
      refine lv_aload_n hx hb dX8_text_183 rfl (lv_at hl 0 rfl) ?_
      refine va_get (D := D) (ci := 8) (v := .ref (ad 2)) (C := RX8) (T := TX8) (N := 45) hx hb ht tl_X8 hown hK hP 0 (wm_0 q ad z182) rfl 3 (by decide) (ht _ tw_fl_X8_17) (fun _ h9 => h9) rfl dX8_text_184 ?_
      refine lv_iload_n hx hb dX8_text_187 rfl (lv_at hl 2 rfl) ?_
      refine lv_bipush (v := (8 : Int32)) hx hb dX8_text_188 (by decide) ?_
      have hd190 := h.1
      have h := h.2
      refine lv_irem hx hb dX8_text_190 hd190 ?_
      refine lv_aload_n hx hb dX8_text_191 rfl (lv_at hl 0 rfl) ?_
      refine va_get (D := D) (ci := 8) (v := .ref (ad 5)) (C := RX8) (T := TX8) (N := 45) hx hb ht tl_X8 hown hK hP 0 (wm_0 q ad z182) rfl 7 (by decide) (ht _ tw_fl_X8_26) (fun _ h9 => h9) rfl dX8_text_192 ?_
      refine lv_iload_n hx hb dX8_text_195 rfl (lv_at hl 2 rfl) ?_
      refine lv_bipush (v := (8 : Int32)) hx hb dX8_text_196 (by decide) ?_
      have hd198 := h.1
      have h := h.2
      refine lv_irem hx hb dX8_text_198 hd198 ?_
      have hi199 := h.1
      have h := h.2
      refine va_iald hx hb hK hP 5 0 (wm_5 q ad z182) rfl hi199 dX8_text_199 ?_
      have hi200 := h.1
      have h := h.2
      refine g_iast (Wd := WM q ad) (z := z182) hx hb hK hP (hD z182) hS 2 (wm_2 q ad z182) rfl (am_2 q ad z182) hi200 dX8_text_200 (fun z200 H locs hz200 hP hS => ?_)
      have h := h z200 hz200
      obtain ⟨x2_201, ex2_201⟩ : ∃ w : Int32, w = x2 + (1 : Int32) := ⟨_, rfl⟩
      have h := h x2_201 ex2_201
      refine lv_iinc (v := x2_201) (lv' := [(2, .int x2_201), (0, .ref (ad 0)), (1, .int x1)]) hx hb dX8_text_201 hl (k := 2) rfl (by rw [ex2_201]; rfl) (by decide) rfl (fun ls hl => ?_)
      refine lv_goto (tgt := 165) hx hb dX8_text_204 (by decide) ?_
      exact hrec165 z200 x1 x2_201 _ _ _ h hP hS (lv_sub hl [1, 2, 0] rfl)
  have L165 : ∀ (n : Nat) (z : MX) (x1 : Int32) (x2 : Int32) (H : Heap) (locs : List Loc) (ls : Array Slot), pX8_text_L165  post n z x1 x2 → va_P D vwCl (WM q ad z) H → va_S A s.heap H locs → lv_has ls 3 [(0, .ref (ad 0)), (1, .int x1), (2, .int x2)] → W p l e (headSpec (cW yX8_text cX8_text 3 (some .int)) ({ frames := 7, cells := 0, slots := 0, locals := 156 } : Room)).room s m args below meth c H locs 0 0 (MQ below (va_Qi post (gB D vwCl (WM q ad) (mE D q)) A) args s 0 0 A) (F0 m 165 ls []) := by
    intro n
    induction n with
    | zero =>
      intro z x1 x2 H locs ls h
      exact False.elim h
    | succ n ih =>
      intro z x1 x2 H locs ls h hP hS hl
      exact B165 (pX8_text_L165  post n) ih z x1 x2 H locs ls h hP hS hl
  have B135 : ∀ (z : MX) (x1 : Int32) (H : Heap) (locs : List Loc) (ls : Array Slot), pX8_text_b135  post z x1 → va_P D vwCl (WM q ad z) H → va_S A s.heap H locs → lv_has ls 3 [(0, .ref (ad 0)), (1, .int x1)] → W p l e (headSpec (cW yX8_text cX8_text 3 (some .int)) ({ frames := 7, cells := 0, slots := 0, locals := 156 } : Room)).room s m args below meth c H locs 0 0 (MQ below (va_Qi post (gB D vwCl (WM q ad) (mE D q)) A) args s 0 0 A) (F0 m 135 ls []) := by
    intro z x1 H locs ls h hP hS hl
    unfold pX8_text_b135 at h
    refine lv_aload_n hx hb dX8_text_135 rfl (lv_at hl 0 rfl) ?_
    refine lv_iconst (v := (0 : Int32)) hx hb dX8_text_136 (by decide) ?_
    refine g_put (D := D) (Wd := WM q ad) (z := z) (ci := 8) (v := .int (0 : Int32)) (ty := .int) (C := RX8) (T := TX8) (N := 45) hx hb ht tl_X8 tyX8 tyX8_ok nmX8 hown hK hP (hD z) hS 0 (wm_0 q ad z) rfl 15 (by decide) (ht _ tw_fl_X8_78) (fun _ h9 => h9) rfl rfl rfl rfl (Nat.le_of_ble_eq_true rfl) ((pm_0_15 q ad z) (0 : Int32)) dX8_text_137 (fun z137 H locs hz137 hP hS => ?_)
    have h := h z137 hz137
    refine lv_aload_n hx hb dX8_text_140 rfl (lv_at hl 0 rfl) ?_
    refine lv_aload_n hx hb dX8_text_141 rfl (lv_at hl 0 rfl) ?_
    refine va_get (D := D) (ci := 8) (v := .int (z137.1 0 17)) (C := RX8) (T := TX8) (N := 45) hx hb ht tl_X8 hown hK hP 0 (wm_0 q ad z137) rfl 17 (by decide) (ht _ tw_fl_X8_81) (fun _ h9 => h9) rfl dX8_text_142 ?_
    refine g_put (D := D) (Wd := WM q ad) (z := z137) (ci := 8) (v := .int (z137.1 0 17)) (ty := .int) (C := RX8) (T := TX8) (N := 45) hx hb ht tl_X8 tyX8 tyX8_ok nmX8 hown hK hP (hD z137) hS 0 (wm_0 q ad z137) rfl 16 (by decide) (ht _ tw_fl_X8_170) (fun _ h9 => h9) rfl rfl rfl rfl (Nat.le_of_ble_eq_true rfl) ((pm_0_16 q ad z137) (z137.1 0 17)) dX8_text_145 (fun z145 H locs hz145 hP hS => ?_)
    have h := h z145 hz145
    refine lv_aload_n hx hb dX8_text_148 rfl (lv_at hl 0 rfl) ?_
    refine va_get (D := D) (ci := 8) (v := .int (z145.1 0 17)) (C := RX8) (T := TX8) (N := 45) hx hb ht tl_X8 hown hK hP 0 (wm_0 q ad z145) rfl 17 (by decide) (ht _ tw_fl_X8_81) (fun _ h9 => h9) rfl dX8_text_149 ?_
    refine lv_if_le (tgt := 163) hx hb dX8_text_152 (by decide) (fun c152 => ?_) (fun c152 => ?_)
    · have h := h.1 c152
      refine lv_iconst (v := (0 : Int32)) hx hb dX8_text_163 (by decide) ?_
      refine lv_istore_n (lv' := [(2, .int (0 : Int32)), (0, .ref (ad 0)), (1, .int x1)]) hx hb dX8_text_164 rfl hl (by decide) rfl (fun ls hl => ?_)
      obtain ⟨n, h⟩ := h
      exact L165 n z145 x1 (0 : Int32) _ _ _ h hP hS (lv_sub hl [1, 2, 0] rfl)
    · have h := h.2 c152
      refine lv_bipush (v := (-10 : Int32)) hx hb dX8_text_155 (by decide) ?_
      refine lv_aload_n hx hb dX8_text_157 rfl (lv_at hl 0 rfl) ?_
      refine va_get (D := D) (ci := 8) (v := .int (z145.1 0 18)) (C := RX8) (T := TX8) (N := 45) hx hb ht tl_X8 hown hK hP 0 (wm_0 q ad z145) rfl 18 (by decide) (ht _ tw_fl_X8_87) (fun _ h9 => h9) rfl dX8_text_158 ?_
      refine lv_isub hx hb dX8_text_161 ?_
      exact g_ri hG hx hb hr hlocks hE hP hS h dX8_text_162
  have B115 : ∀ (z : MX) (x1 : Int32) (H : Heap) (locs : List Loc) (ls : Array Slot), pX8_text_b115  post z x1 → va_P D vwCl (WM q ad z) H → va_S A s.heap H locs → lv_has ls 3 [(0, .ref (ad 0)), (1, .int x1)] → W p l e (headSpec (cW yX8_text cX8_text 3 (some .int)) ({ frames := 7, cells := 0, slots := 0, locals := 156 } : Room)).room s m args below meth c H locs 0 0 (MQ below (va_Qi post (gB D vwCl (WM q ad) (mE D q)) A) args s 0 0 A) (F0 m 115 ls []) := by
    intro z x1 H locs ls h hP hS hl
    unfold pX8_text_b115 at h
    refine lv_aload_n hx hb dX8_text_115 rfl (lv_at hl 0 rfl) ?_
    refine va_get (D := D) (ci := 8) (v := .int (z.1 0 17)) (C := RX8) (T := TX8) (N := 45) hx hb ht tl_X8 hown hK hP 0 (wm_0 q ad z) rfl 17 (by decide) (ht _ tw_fl_X8_81) (fun _ h9 => h9) rfl dX8_text_116 ?_
    refine lv_if_ne (tgt := 135) hx hb dX8_text_119 (by decide) (fun c119 => ?_) (fun c119 => ?_)
    · have h := h.1 c119
      exact B135 z x1 _ _ _ h hP hS (lv_sub hl [0, 1] rfl)
    · have h := h.2 c119
      refine lv_aload_n hx hb dX8_text_122 rfl (lv_at hl 0 rfl) ?_
      refine g_cVi (Wd := WM q ad) (z := z) (As := []) (rest := []) hG S (kX8_areBothHung l D q ad A hD z _ h) (cwV 0 ht (cW_V (fun _ h => h) tw_co_X8_areBothHung tw_ml_X8_166 tw_im_X8_areBothHung tw_se_X8_areBothHung tw_in_X8) rfl rfl rfl (by decide +kernel) ⟨by decide, by decide⟩) (va_recv hK hP (ci := 8) (q0 := 0) rfl (wm_0 q ad z)) hE hP hS rfl hl.1 rfl (Nat.le_of_ble_eq_true rfl) dX8_text_123 ⟨Nat.zero_le _, Nat.zero_le _⟩ (fun r123 z123 H locs h hP hS => ?_)
      refine lv_if_eq (tgt := 135) hx hb dX8_text_126 (by decide) (fun c126 => ?_) (fun c126 => ?_)
      · have h := h.1 c126
        exact B135 z123 x1 _ _ _ h hP hS (lv_sub hl [0, 1] rfl)
      · have h := h.2 c126
        refine lv_aload_n hx hb dX8_text_129 rfl (lv_at hl 0 rfl) ?_
        refine lv_bipush (v := (7 : Int32)) hx hb dX8_text_130 (by decide) ?_
        refine g_cVv (Wd := WM q ad) (z := z123) (As := [.int (7 : Int32)]) (rest := []) hG S (kX8_fails l D q ad A hD z123 (7 : Int32) _ h) (cwV 1 ht (cW_V (fun _ h => h) tw_co_X8_fails tw_ml_X8_111 tw_im_X8_fails tw_se_X8_fails tw_in_X8) rfl rfl rfl (by decide +kernel) ⟨by decide, by decide⟩) (va_recv hK hP (ci := 8) (q0 := 0) rfl (wm_0 q ad z123)) hE hP hS rfl hl.1 rfl (Nat.le_of_ble_eq_true rfl) dX8_text_132 ⟨Nat.zero_le _, Nat.zero_le _⟩ (fun z132 H locs h hP hS => ?_)
        exact B135 z132 x1 _ _ _ h hP hS (lv_sub hl [0, 1] rfl)
  have B91 : ∀ (z : MX) (x1 : Int32) (H : Heap) (locs : List Loc) (ls : Array Slot), pX8_text_b91  post z x1 → va_P D vwCl (WM q ad z) H → va_S A s.heap H locs → lv_has ls 3 [(0, .ref (ad 0)), (1, .int x1)] → W p l e (headSpec (cW yX8_text cX8_text 3 (some .int)) ({ frames := 7, cells := 0, slots := 0, locals := 156 } : Room)).room s m args below meth c H locs 0 0 (MQ below (va_Qi post (gB D vwCl (WM q ad) (mE D q)) A) args s 0 0 A) (F0 m 91 ls []) := by
    intro z x1 H locs ls h hP hS hl
    unfold pX8_text_b91 at h
    refine lv_aload_n hx hb dX8_text_91 rfl (lv_at hl 0 rfl) ?_
    refine va_get (D := D) (ci := 8) (v := .int (z.1 0 17)) (C := RX8) (T := TX8) (N := 45) hx hb ht tl_X8 hown hK hP 0 (wm_0 q ad z) rfl 17 (by decide) (ht _ tw_fl_X8_81) (fun _ h9 => h9) rfl dX8_text_92 ?_
    refine lv_if_ne (tgt := 115) hx hb dX8_text_95 (by decide) (fun c95 => ?_) (fun c95 => ?_)
    · have h := h.1 c95
      exact B115 z x1 _ _ _ h hP hS (lv_sub hl [0, 1] rfl)
    · have h := h.2 c95
      refine lv_aload_n hx hb dX8_text_98 rfl (lv_at hl 0 rfl) ?_
      refine va_get (D := D) (ci := 8) (v := .int (z.1 0 13)) (C := RX8) (T := TX8) (N := 45) hx hb ht tl_X8 hown hK hP 0 (wm_0 q ad z) rfl 13 (by decide) (ht _ tw_fl_X8_122) (fun _ h9 => h9) rfl dX8_text_99 ?_
      refine lv_aload_n hx hb dX8_text_102 rfl (lv_at hl 0 rfl) ?_
      refine va_get (D := D) (ci := 8) (v := .int (z.1 0 8)) (C := RX8) (T := TX8) (N := 45) hx hb ht tl_X8 hown hK hP 0 (wm_0 q ad z) rfl 8 (by decide) (ht _ tw_fl_X8_144) (fun _ h9 => h9) rfl dX8_text_103 ?_
      refine lv_icmp_lt (tgt := 115) hx hb dX8_text_106 (by decide) (fun c106 => ?_) (fun c106 => ?_)
      · have h := h.1 c106
        exact B115 z x1 _ _ _ h hP hS (lv_sub hl [0, 1] rfl)
      · have h := h.2 c106
        refine lv_aload_n hx hb dX8_text_109 rfl (lv_at hl 0 rfl) ?_
        refine lv_bipush (v := (6 : Int32)) hx hb dX8_text_110 (by decide) ?_
        refine g_cVv (Wd := WM q ad) (z := z) (As := [.int (6 : Int32)]) (rest := []) hG S (kX8_fails l D q ad A hD z (6 : Int32) _ h) (cwV 1 ht (cW_V (fun _ h => h) tw_co_X8_fails tw_ml_X8_111 tw_im_X8_fails tw_se_X8_fails tw_in_X8) rfl rfl rfl (by decide +kernel) ⟨by decide, by decide⟩) (va_recv hK hP (ci := 8) (q0 := 0) rfl (wm_0 q ad z)) hE hP hS rfl hl.1 rfl (Nat.le_of_ble_eq_true rfl) dX8_text_112 ⟨Nat.zero_le _, Nat.zero_le _⟩ (fun z112 H locs h hP hS => ?_)
        exact B115 z112 x1 _ _ _ h hP hS (lv_sub hl [0, 1] rfl)
  have B67 : ∀ (rec67 : MX → Int32 → Prop) (hrec67 : ∀ (z : MX) (x1 : Int32) (H : Heap) (locs : List Loc) (ls : Array Slot), rec67 z x1 → va_P D vwCl (WM q ad z) H → va_S A s.heap H locs → lv_has ls 3 [(0, .ref (ad 0)), (1, .int x1)] → W p l e (headSpec (cW yX8_text cX8_text 3 (some .int)) ({ frames := 7, cells := 0, slots := 0, locals := 156 } : Room)).room s m args below meth c H locs 0 0 (MQ below (va_Qi post (gB D vwCl (WM q ad) (mE D q)) A) args s 0 0 A) (F0 m 67 ls [])) (z : MX) (x1 : Int32) (H : Heap) (locs : List Loc) (ls : Array Slot), pX8_text_l67  rec67 post z x1 → va_P D vwCl (WM q ad z) H → va_S A s.heap H locs → lv_has ls 3 [(0, .ref (ad 0)), (1, .int x1)] → W p l e (headSpec (cW yX8_text cX8_text 3 (some .int)) ({ frames := 7, cells := 0, slots := 0, locals := 156 } : Room)).room s m args below meth c H locs 0 0 (MQ below (va_Qi post (gB D vwCl (WM q ad) (mE D q)) A) args s 0 0 A) (F0 m 67 ls []) := by
    intro rec67 hrec67 z x1 H locs ls h hP hS hl
    unfold pX8_text_l67 at h
    refine lv_aload_n hx hb dX8_text_67 rfl (lv_at hl 0 rfl) ?_
    refine va_get (D := D) (ci := 8) (v := .int (z.1 0 17)) (C := RX8) (T := TX8) (N := 45) hx hb ht tl_X8 hown hK hP 0 (wm_0 q ad z) rfl 17 (by decide) (ht _ tw_fl_X8_81) (fun _ h9 => h9) rfl dX8_text_68 ?_
    refine lv_if_ne (tgt := 91) hx hb dX8_text_71 (by decide) (fun c71 => ?_) (fun c71 => ?_)
    · have h := h.1 c71
      exact B91 z x1 _ _ _ h hP hS (lv_sub hl [0, 1] rfl)
    · have h := h.2 c71
      refine lv_aload_n hx hb dX8_text_74 rfl (lv_at hl 0 rfl) ?_
      refine va_get (D := D) (ci := 8) (v := .int (z.1 0 21)) (C := RX8) (T := TX8) (N := 45) hx hb ht tl_X8 hown hK hP 0 (wm_0 q ad z) rfl 21 (by decide) (ht _ tw_fl_X8_90) (fun _ h9 => h9) rfl dX8_text_75 ?_
      refine lv_if_eq (tgt := 91) hx hb dX8_text_78 (by decide) (fun c78 => ?_) (fun c78 => ?_)
      · have h := h.1 c78
        exact B91 z x1 _ _ _ h hP hS (lv_sub hl [0, 1] rfl)
      · have h := h.2 c78
        refine lv_aload_n hx hb dX8_text_81 rfl (lv_at hl 0 rfl) ?_
        refine g_cVv (Wd := WM q ad) (z := z) (As := []) (rest := []) hG S (kX8_readLine l D q ad A hD z _ h) (cwV 0 ht (cW_V (fun _ h => h) tw_co_X8_readLine tw_ml_X8_163 tw_im_X8_readLine tw_se_X8_readLine tw_in_X8) rfl rfl rfl (by decide +kernel) ⟨by decide, by decide⟩) (va_recv hK hP (ci := 8) (q0 := 0) rfl (wm_0 q ad z)) hE hP hS rfl hl.1 rfl (Nat.le_of_ble_eq_true rfl) dX8_text_82 ⟨Nat.zero_le _, Nat.zero_le _⟩ (fun z82 H locs h hP hS => ?_)
        obtain ⟨x1_85, ex1_85⟩ : ∃ w : Int32, w = x1 + (1 : Int32) := ⟨_, rfl⟩
        have h := h x1_85 ex1_85
        refine lv_iinc (v := x1_85) (lv' := [(1, .int x1_85), (0, .ref (ad 0))]) hx hb dX8_text_85 hl (k := 1) rfl (by rw [ex1_85]; rfl) (by decide) rfl (fun ls hl => ?_)
        refine lv_goto (tgt := 67) hx hb dX8_text_88 (by decide) ?_
        exact hrec67 z82 x1_85 _ _ _ h hP hS (lv_sub hl [1, 0] rfl)
  have L67 : ∀ (n : Nat) (z : MX) (x1 : Int32) (H : Heap) (locs : List Loc) (ls : Array Slot), pX8_text_L67  post n z x1 → va_P D vwCl (WM q ad z) H → va_S A s.heap H locs → lv_has ls 3 [(0, .ref (ad 0)), (1, .int x1)] → W p l e (headSpec (cW yX8_text cX8_text 3 (some .int)) ({ frames := 7, cells := 0, slots := 0, locals := 156 } : Room)).room s m args below meth c H locs 0 0 (MQ below (va_Qi post (gB D vwCl (WM q ad) (mE D q)) A) args s 0 0 A) (F0 m 67 ls []) := by
    intro n
    induction n with
    | zero =>
      intro z x1 H locs ls h
      exact False.elim h
    | succ n ih =>
      intro z x1 H locs ls h hP hS hl
      exact B67 (pX8_text_L67  post n) ih z x1 H locs ls h hP hS hl
  have B44 : ∀ (rec44 : MX → Int32 → Int32 → Prop) (hrec44 : ∀ (z : MX) (x1 : Int32) (x2 : Int32) (H : Heap) (locs : List Loc) (ls : Array Slot), rec44 z x1 x2 → va_P D vwCl (WM q ad z) H → va_S A s.heap H locs → lv_has ls 3 [(0, .ref (ad 0)), (1, .int x1), (2, .int x2)] → W p l e (headSpec (cW yX8_text cX8_text 3 (some .int)) ({ frames := 7, cells := 0, slots := 0, locals := 156 } : Room)).room s m args below meth c H locs 0 0 (MQ below (va_Qi post (gB D vwCl (WM q ad) (mE D q)) A) args s 0 0 A) (F0 m 44 ls [])) (z : MX) (x1 : Int32) (x2 : Int32) (H : Heap) (locs : List Loc) (ls : Array Slot), pX8_text_l44  rec44 post z x1 x2 → va_P D vwCl (WM q ad z) H → va_S A s.heap H locs → lv_has ls 3 [(0, .ref (ad 0)), (1, .int x1), (2, .int x2)] → W p l e (headSpec (cW yX8_text cX8_text 3 (some .int)) ({ frames := 7, cells := 0, slots := 0, locals := 156 } : Room)).room s m args below meth c H locs 0 0 (MQ below (va_Qi post (gB D vwCl (WM q ad) (mE D q)) A) args s 0 0 A) (F0 m 44 ls []) := by
    intro rec44 hrec44 z x1 x2 H locs ls h hP hS hl
    unfold pX8_text_l44 at h
    refine lv_iload_n hx hb dX8_text_44 rfl (lv_at hl 2 rfl) ?_
    refine lv_bipush (v := (25 : Int32)) hx hb dX8_text_45 (by decide) ?_
    refine lv_icmp_ge (tgt := 63) hx hb dX8_text_47 (by decide) (fun c47 => ?_) (fun c47 => ?_)
    · have h := h.1 c47
      refine lv_aload_n hx hb dX8_text_63 rfl (lv_at hl 0 rfl) ?_
      refine g_cVv (Wd := WM q ad) (z := z) (As := []) (rest := []) hG S (kX8_step l D q ad A hD z _ h) (cwV 0 ht (cW_V (fun _ h => h) tw_co_X8_step tw_ml_X8_115 tw_im_X8_step tw_se_X8_step tw_in_X8) rfl rfl rfl (by decide +kernel) ⟨by decide, by decide⟩) (va_recv hK hP (ci := 8) (q0 := 0) rfl (wm_0 q ad z)) hE hP hS rfl hl.1 rfl (Nat.le_of_ble_eq_true rfl) dX8_text_64 ⟨Nat.zero_le _, Nat.zero_le _⟩ (fun z64 H locs h hP hS => ?_)
      obtain ⟨n, h⟩ := h
      exact L67 n z64 x1 _ _ _ h hP hS (lv_sub hl [0, 1] rfl)
    · have h := h.2 c47
      refine lv_aload_n hx hb dX8_text_50 rfl (lv_at hl 0 rfl) ?_
      refine va_get (D := D) (ci := 8) (v := .ref (ad 4)) (C := RX8) (T := TX8) (N := 45) hx hb ht tl_X8 hown hK hP 0 (wm_0 q ad z) rfl 6 (by decide) (ht _ tw_fl_X8_23) (fun _ h9 => h9) rfl dX8_text_51 ?_
      refine lv_iload_n hx hb dX8_text_54 rfl (lv_at hl 2 rfl) ?_
      refine lv_iconst (v := (0 : Int32)) hx hb dX8_text_55 (by decide) ?_
      have hi56 := h.1
      have h := h.2
      refine g_iast (Wd := WM q ad) (z := z) hx hb hK hP (hD z) hS 4 (wm_4 q ad z) rfl (am_4 q ad z) hi56 dX8_text_56 (fun z56 H locs hz56 hP hS => ?_)
      have h := h z56 hz56
      obtain ⟨x2_57, ex2_57⟩ : ∃ w : Int32, w = x2 + (1 : Int32) := ⟨_, rfl⟩
      have h := h x2_57 ex2_57
      refine lv_iinc (v := x2_57) (lv' := [(2, .int x2_57), (0, .ref (ad 0)), (1, .int x1)]) hx hb dX8_text_57 hl (k := 2) rfl (by rw [ex2_57]; rfl) (by decide) rfl (fun ls hl => ?_)
      refine lv_goto (tgt := 44) hx hb dX8_text_60 (by decide) ?_
      exact hrec44 z56 x1 x2_57 _ _ _ h hP hS (lv_sub hl [1, 2, 0] rfl)
  have L44 : ∀ (n : Nat) (z : MX) (x1 : Int32) (x2 : Int32) (H : Heap) (locs : List Loc) (ls : Array Slot), pX8_text_L44  post n z x1 x2 → va_P D vwCl (WM q ad z) H → va_S A s.heap H locs → lv_has ls 3 [(0, .ref (ad 0)), (1, .int x1), (2, .int x2)] → W p l e (headSpec (cW yX8_text cX8_text 3 (some .int)) ({ frames := 7, cells := 0, slots := 0, locals := 156 } : Room)).room s m args below meth c H locs 0 0 (MQ below (va_Qi post (gB D vwCl (WM q ad) (mE D q)) A) args s 0 0 A) (F0 m 44 ls []) := by
    intro n
    induction n with
    | zero =>
      intro z x1 x2 H locs ls h
      exact False.elim h
    | succ n ih =>
      intro z x1 x2 H locs ls h hP hS hl
      exact B44 (pX8_text_L44  post n) ih z x1 x2 H locs ls h hP hS hl
  refine g_entry (vs := [.ref (ad 0)]) hargs (Nat.le_of_ble_eq_true rfl) (fun ls hl => ?_)
  have hl : lv_has ls 3 [(0, .ref (ad 0))] := hl
  unfold pX8_text at h
  refine lv_aload_n hx hb dX8_text_0 rfl (lv_at hl 0 rfl) ?_
  refine lv_iconst (v := (0 : Int32)) hx hb dX8_text_1 (by decide) ?_
  refine g_put (D := D) (Wd := WM q ad) (z := z) (ci := 8) (v := .int (0 : Int32)) (ty := .int) (C := RX8) (T := TX8) (N := 45) hx hb ht tl_X8 tyX8 tyX8_ok nmX8 hown hK hP (hD z) hS 0 (wm_0 q ad z) rfl 17 (by decide) (ht _ tw_fl_X8_81) (fun _ h9 => h9) rfl rfl rfl rfl (Nat.le_of_ble_eq_true rfl) ((pm_0_17 q ad z) (0 : Int32)) dX8_text_2 (fun z2 H locs hz2 hP hS => ?_)
  have h := h z2 hz2
  refine lv_aload_n hx hb dX8_text_5 rfl (lv_at hl 0 rfl) ?_
  refine lv_iconst (v := (0 : Int32)) hx hb dX8_text_6 (by decide) ?_
  refine g_put (D := D) (Wd := WM q ad) (z := z2) (ci := 8) (v := .int (0 : Int32)) (ty := .int) (C := RX8) (T := TX8) (N := 45) hx hb ht tl_X8 tyX8 tyX8_ok nmX8 hown hK hP (hD z2) hS 0 (wm_0 q ad z2) rfl 19 (by decide) (ht _ tw_fl_X8_93) (fun _ h9 => h9) rfl rfl rfl rfl (Nat.le_of_ble_eq_true rfl) ((pm_0_19 q ad z2) (0 : Int32)) dX8_text_7 (fun z7 H locs hz7 hP hS => ?_)
  have h := h z7 hz7
  refine lv_aload_n hx hb dX8_text_10 rfl (lv_at hl 0 rfl) ?_
  refine lv_iconst (v := (4 : Int32)) hx hb dX8_text_11 (by decide) ?_
  refine g_put (D := D) (Wd := WM q ad) (z := z7) (ci := 8) (v := .int (4 : Int32)) (ty := .int) (C := RX8) (T := TX8) (N := 45) hx hb ht tl_X8 tyX8 tyX8_ok nmX8 hown hK hP (hD z7) hS 0 (wm_0 q ad z7) rfl 8 (by decide) (ht _ tw_fl_X8_144) (fun _ h9 => h9) rfl rfl rfl rfl (Nat.le_of_ble_eq_true rfl) ((pm_0_8 q ad z7) (4 : Int32)) dX8_text_12 (fun z12 H locs hz12 hP hS => ?_)
  have h := h z12 hz12
  refine lv_aload_n hx hb dX8_text_15 rfl (lv_at hl 0 rfl) ?_
  refine lv_iconst (v := (0 : Int32)) hx hb dX8_text_16 (by decide) ?_
  refine g_put (D := D) (Wd := WM q ad) (z := z12) (ci := 8) (v := .int (0 : Int32)) (ty := .int) (C := RX8) (T := TX8) (N := 45) hx hb ht tl_X8 tyX8 tyX8_ok nmX8 hown hK hP (hD z12) hS 0 (wm_0 q ad z12) rfl 9 (by decide) (ht _ tw_fl_X8_135) (fun _ h9 => h9) rfl rfl rfl rfl (Nat.le_of_ble_eq_true rfl) ((pm_0_9 q ad z12) (0 : Int32)) dX8_text_17 (fun z17 H locs hz17 hP hS => ?_)
  have h := h z17 hz17
  refine lv_aload_n hx hb dX8_text_20 rfl (lv_at hl 0 rfl) ?_
  refine lv_iconst (v := (0 : Int32)) hx hb dX8_text_21 (by decide) ?_
  refine g_put (D := D) (Wd := WM q ad) (z := z17) (ci := 8) (v := .int (0 : Int32)) (ty := .int) (C := RX8) (T := TX8) (N := 45) hx hb ht tl_X8 tyX8 tyX8_ok nmX8 hown hK hP (hD z17) hS 0 (wm_0 q ad z17) rfl 10 (by decide) (ht _ tw_fl_X8_128) (fun _ h9 => h9) rfl rfl rfl rfl (Nat.le_of_ble_eq_true rfl) ((pm_0_10 q ad z17) (0 : Int32)) dX8_text_22 (fun z22 H locs hz22 hP hS => ?_)
  have h := h z22 hz22
  refine lv_aload_n hx hb dX8_text_25 rfl (lv_at hl 0 rfl) ?_
  refine lv_iconst (v := (0 : Int32)) hx hb dX8_text_26 (by decide) ?_
  refine g_put (D := D) (Wd := WM q ad) (z := z22) (ci := 8) (v := .int (0 : Int32)) (ty := .boolean) (C := RX8) (T := TX8) (N := 45) hx hb ht tl_X8 tyX8 tyX8_ok nmX8 hown hK hP (hD z22) hS 0 (wm_0 q ad z22) rfl 11 (by decide) (ht _ tw_fl_X8_156) (fun _ h9 => h9) rfl rfl rfl rfl (Nat.le_of_ble_eq_true rfl) ((pm_0_11 q ad z22) (0 : Int32)) dX8_text_27 (fun z27 H locs hz27 hP hS => ?_)
  have h := h z27 hz27
  refine lv_aload_n hx hb dX8_text_30 rfl (lv_at hl 0 rfl) ?_
  refine lv_iconst (v := (0 : Int32)) hx hb dX8_text_31 (by decide) ?_
  refine g_put (D := D) (Wd := WM q ad) (z := z27) (ci := 8) (v := .int (0 : Int32)) (ty := .int) (C := RX8) (T := TX8) (N := 45) hx hb ht tl_X8 tyX8 tyX8_ok nmX8 hown hK hP (hD z27) hS 0 (wm_0 q ad z27) rfl 12 (by decide) (ht _ tw_fl_X8_138) (fun _ h9 => h9) rfl rfl rfl rfl (Nat.le_of_ble_eq_true rfl) ((pm_0_12 q ad z27) (0 : Int32)) dX8_text_32 (fun z32 H locs hz32 hP hS => ?_)
  have h := h z32 hz32
  refine lv_aload_n hx hb dX8_text_35 rfl (lv_at hl 0 rfl) ?_
  refine lv_iconst (v := (-1 : Int32)) hx hb dX8_text_36 (by decide) ?_
  refine g_put (D := D) (Wd := WM q ad) (z := z32) (ci := 8) (v := .int (-1 : Int32)) (ty := .int) (C := RX8) (T := TX8) (N := 45) hx hb ht tl_X8 tyX8 tyX8_ok nmX8 hown hK hP (hD z32) hS 0 (wm_0 q ad z32) rfl 13 (by decide) (ht _ tw_fl_X8_122) (fun _ h9 => h9) rfl rfl rfl rfl (Nat.le_of_ble_eq_true rfl) ((pm_0_13 q ad z32) (-1 : Int32)) dX8_text_37 (fun z37 H locs hz37 hP hS => ?_)
  have h := h z37 hz37
  refine lv_iconst (v := (0 : Int32)) hx hb dX8_text_40 (by decide) ?_
  refine lv_istore_n (lv' := [(1, .int (0 : Int32)), (0, .ref (ad 0))]) hx hb dX8_text_41 rfl hl (by decide) rfl (fun ls hl => ?_)
  refine lv_iconst (v := (0 : Int32)) hx hb dX8_text_42 (by decide) ?_
  refine lv_istore_n (lv' := [(2, .int (0 : Int32)), (1, .int (0 : Int32)), (0, .ref (ad 0))]) hx hb dX8_text_43 rfl hl (by decide) rfl (fun ls hl => ?_)
  obtain ⟨n, h⟩ := h
  exact L44 n z37 (0 : Int32) (0 : Int32) _ _ _ h hP hS (lv_sub hl [2, 1, 0] rfl)
def pX8_fault (z : MX) (post : Int32 → MX → Prop) : Prop :=
  post (z.1 0 16) z
set_option maxHeartbeats 4000000 in
set_option maxRecDepth 100000 in
theorem kX8_fault (l : Launch) (D : va_G) (q : Nat → ClassId) (ad : Nat → Nat) (A : Nat → Prop) (hD : ∀ z, va_D A (WM q ad z)) (z : MX) (post : Int32 → MX → Prop) (h : pX8_fault  z post) : Met l yX8_fault (cW yX8_fault cX8_fault 1 (some .int)) ({ frames := 0, cells := 0, slots := 0, locals := 0 } : Room) (va_Pc [.ref (ad 0)] ((gB D vwCl (WM q ad) (mE D q)) z)) (va_Qi post (gB D vwCl (WM q ad) (mE D q)) A) 0 0 A := by
  refine Met.ofW (cc := cX8_fault) (maxL := 1) (ret := (some .int)) (by decide) rfl ?_
  intro p e s m args below meth c s₁ B hml hv
  obtain ⟨hargs, hP, hE⟩ := hv
  have hx := B.exec
  have hb := B.bytes
  have hr := B.returns
  have hts := atoms_spec (ws := (cW yX8_fault cX8_fault 1 (some .int))) B.pre
  have ht : ∀ w ∈ tG, w.before args s = true := fun w h => hts w (List.mem_cons_of_mem _ h)
  have hown : s.vm.findClass RX8 = some m.cls := findClass_of_methodNamed B.named
  have hlocks := B.notSynchronized
  have hK := hE.1
  have hG := mE_G D q A
  have S : CallFix p m c cX8_fault 1 s args tG RX8 := ⟨hx, hb, hml, hown, ht⟩
  have hS : va_S A s.heap s.heap [] := va_S.rf
  refine g_entry (vs := [.ref (ad 0)]) hargs (Nat.le_of_ble_eq_true rfl) (fun ls hl => ?_)
  have hl : lv_has ls 1 [(0, .ref (ad 0))] := hl
  unfold pX8_fault at h
  refine lv_aload_n hx hb dX8_fault_0 rfl (lv_at hl 0 rfl) ?_
  refine va_get (D := D) (ci := 8) (v := .int (z.1 0 16)) (C := RX8) (T := TX8) (N := 45) hx hb ht tl_X8 hown hK hP 0 (wm_0 q ad z) rfl 16 (by decide) (ht _ tw_fl_X8_170) (fun _ h9 => h9) rfl dX8_fault_1 ?_
  exact g_ri hG hx hb hr hlocks hE hP hS h dX8_fault_4
def pX8_omens_b29 (rec4 : MX → Int32 → Int32 → Prop) (post : Int32 → MX → Prop) (z : MX) (x2 : Int32) (y0 : Int32) (y1 : Int32) : Prop :=
    ∀ x1_30 : Int32, x1_30 = y0 ||| y1 →
    ∀ x2_31 : Int32, x2_31 = x2 + (1 : Int32) →
    rec4 z x1_30 x2_31
def pX8_omens_l4 (rec4 : MX → Int32 → Int32 → Prop) (post : Int32 → MX → Prop) (z : MX) (x1 : Int32) (x2 : Int32) : Prop :=
    (((z.1 0 1) ≤ x2 →
      post x1 z) ∧
    (¬ (z.1 0 1) ≤ x2 →
      vp_in x2 125 ∧
      (((z.1 1 (Int32.toNatClampNeg x2)) ≤ 0 →
        pX8_omens_b29  rec4 post z x2 x1 (0 : Int32)) ∧
      (¬ (z.1 1 (Int32.toNatClampNeg x2)) ≤ 0 →
        pX8_omens_b29  rec4 post z x2 x1 ((1 : Int32) <<< (x2 &&& 31))))))
def pX8_omens_L4 (post : Int32 → MX → Prop) : Nat → MX → Int32 → Int32 → Prop
  | 0 => fun _ _ _ => False
  | n + 1 => fun z x1 x2 => pX8_omens_l4  (pX8_omens_L4  post n) post z x1 x2
def pX8_omens (z : MX) (post : Int32 → MX → Prop) : Prop :=
  ∃ n, pX8_omens_L4  post n z (0 : Int32) (0 : Int32)
set_option maxHeartbeats 4000000 in
set_option maxRecDepth 100000 in
theorem kX8_omens (l : Launch) (D : va_G) (q : Nat → ClassId) (ad : Nat → Nat) (A : Nat → Prop) (hD : ∀ z, va_D A (WM q ad z)) (z : MX) (post : Int32 → MX → Prop) (h : pX8_omens  z post) : Met l yX8_omens (cW yX8_omens cX8_omens 3 (some .int)) ({ frames := 0, cells := 0, slots := 0, locals := 0 } : Room) (va_Pc [.ref (ad 0)] ((gB D vwCl (WM q ad) (mE D q)) z)) (va_Qi post (gB D vwCl (WM q ad) (mE D q)) A) 0 0 A := by
  refine Met.ofW (cc := cX8_omens) (maxL := 3) (ret := (some .int)) (by decide) rfl ?_
  intro p e s m args below meth c s₁ B hml hv
  obtain ⟨hargs, hP, hE⟩ := hv
  have hx := B.exec
  have hb := B.bytes
  have hr := B.returns
  have hts := atoms_spec (ws := (cW yX8_omens cX8_omens 3 (some .int))) B.pre
  have ht : ∀ w ∈ tG, w.before args s = true := fun w h => hts w (List.mem_cons_of_mem _ h)
  have hown : s.vm.findClass RX8 = some m.cls := findClass_of_methodNamed B.named
  have hlocks := B.notSynchronized
  have hK := hE.1
  have hG := mE_G D q A
  have S : CallFix p m c cX8_omens 3 s args tG RX8 := ⟨hx, hb, hml, hown, ht⟩
  have hS : va_S A s.heap s.heap [] := va_S.rf
  have B29 : ∀ (rec4 : MX → Int32 → Int32 → Prop) (hrec4 : ∀ (z : MX) (x1 : Int32) (x2 : Int32) (H : Heap) (locs : List Loc) (ls : Array Slot), rec4 z x1 x2 → va_P D vwCl (WM q ad z) H → va_S A s.heap H locs → lv_has ls 3 [(0, .ref (ad 0)), (1, .int x1), (2, .int x2)] → W p l e (headSpec (cW yX8_omens cX8_omens 3 (some .int)) ({ frames := 0, cells := 0, slots := 0, locals := 0 } : Room)).room s m args below meth c H locs 0 0 (MQ below (va_Qi post (gB D vwCl (WM q ad) (mE D q)) A) args s 0 0 A) (F0 m 4 ls [])) (z : MX) (x2 : Int32) (y0 : Int32) (y1 : Int32) (H : Heap) (locs : List Loc) (ls : Array Slot), pX8_omens_b29  rec4 post z x2 y0 y1 → va_P D vwCl (WM q ad z) H → va_S A s.heap H locs → lv_has ls 3 [(0, .ref (ad 0)), (2, .int x2)] → W p l e (headSpec (cW yX8_omens cX8_omens 3 (some .int)) ({ frames := 0, cells := 0, slots := 0, locals := 0 } : Room)).room s m args below meth c H locs 0 0 (MQ below (va_Qi post (gB D vwCl (WM q ad) (mE D q)) A) args s 0 0 A) (F0 m 29 ls [.int y1, .int y0]) := by
    intro rec4 hrec4 z x2 y0 y1 H locs ls h hP hS hl
    unfold pX8_omens_b29 at h
    refine lv_ior hx hb dX8_omens_29 ?_
    refine lv_topi (fun x1_30 ex1_30 => ?_)
    have h := h x1_30 ex1_30
    refine lv_istore_n (lv' := [(1, .int x1_30), (0, .ref (ad 0)), (2, .int x2)]) hx hb dX8_omens_30 rfl hl (by decide) rfl (fun ls hl => ?_)
    obtain ⟨x2_31, ex2_31⟩ : ∃ w : Int32, w = x2 + (1 : Int32) := ⟨_, rfl⟩
    have h := h x2_31 ex2_31
    refine lv_iinc (v := x2_31) (lv' := [(2, .int x2_31), (1, .int x1_30), (0, .ref (ad 0))]) hx hb dX8_omens_31 hl (k := 2) rfl (by rw [ex2_31]; rfl) (by decide) rfl (fun ls hl => ?_)
    refine lv_goto (tgt := 4) hx hb dX8_omens_34 (by decide) ?_
    exact hrec4 z x1_30 x2_31 _ _ _ h hP hS (lv_sub hl [2, 1, 0] rfl)
  have B4 : ∀ (rec4 : MX → Int32 → Int32 → Prop) (hrec4 : ∀ (z : MX) (x1 : Int32) (x2 : Int32) (H : Heap) (locs : List Loc) (ls : Array Slot), rec4 z x1 x2 → va_P D vwCl (WM q ad z) H → va_S A s.heap H locs → lv_has ls 3 [(0, .ref (ad 0)), (1, .int x1), (2, .int x2)] → W p l e (headSpec (cW yX8_omens cX8_omens 3 (some .int)) ({ frames := 0, cells := 0, slots := 0, locals := 0 } : Room)).room s m args below meth c H locs 0 0 (MQ below (va_Qi post (gB D vwCl (WM q ad) (mE D q)) A) args s 0 0 A) (F0 m 4 ls [])) (z : MX) (x1 : Int32) (x2 : Int32) (H : Heap) (locs : List Loc) (ls : Array Slot), pX8_omens_l4  rec4 post z x1 x2 → va_P D vwCl (WM q ad z) H → va_S A s.heap H locs → lv_has ls 3 [(0, .ref (ad 0)), (1, .int x1), (2, .int x2)] → W p l e (headSpec (cW yX8_omens cX8_omens 3 (some .int)) ({ frames := 0, cells := 0, slots := 0, locals := 0 } : Room)).room s m args below meth c H locs 0 0 (MQ below (va_Qi post (gB D vwCl (WM q ad) (mE D q)) A) args s 0 0 A) (F0 m 4 ls []) := by
    intro rec4 hrec4 z x1 x2 H locs ls h hP hS hl
    unfold pX8_omens_l4 at h
    refine lv_iload_n hx hb dX8_omens_4 rfl (lv_at hl 2 rfl) ?_
    refine lv_aload_n hx hb dX8_omens_5 rfl (lv_at hl 0 rfl) ?_
    refine va_get (D := D) (ci := 8) (v := .int (z.1 0 1)) (C := RX8) (T := TX8) (N := 45) hx hb ht tl_X8 hown hK hP 0 (wm_0 q ad z) rfl 1 (by decide) (ht _ tw_fl_X8_13) (fun _ h9 => h9) rfl dX8_omens_6 ?_
    refine lv_icmp_ge (tgt := 37) hx hb dX8_omens_9 (by decide) (fun c9 => ?_) (fun c9 => ?_)
    · have h := h.1 c9
      refine lv_iload_n hx hb dX8_omens_37 rfl (lv_at hl 1 rfl) ?_
      exact g_ri hG hx hb hr hlocks hE hP hS h dX8_omens_38
    · have h := h.2 c9
      refine lv_iload_n hx hb dX8_omens_12 rfl (lv_at hl 1 rfl) ?_
      refine lv_aload_n hx hb dX8_omens_13 rfl (lv_at hl 0 rfl) ?_
      refine va_get (D := D) (ci := 8) (v := .ref (ad 1)) (C := RX8) (T := TX8) (N := 45) hx hb ht tl_X8 hown hK hP 0 (wm_0 q ad z) rfl 0 (by decide) (ht _ tw_fl_X8_7) (fun _ h9 => h9) rfl dX8_omens_14 ?_
      refine lv_iload_n hx hb dX8_omens_17 rfl (lv_at hl 2 rfl) ?_
      have hi18 := h.1
      have h := h.2
      refine va_iald hx hb hK hP 1 0 (wm_1 q ad z) rfl hi18 dX8_omens_18 ?_
      refine lv_if_le (tgt := 28) hx hb dX8_omens_19 (by decide) (fun c19 => ?_) (fun c19 => ?_)
      · have h := h.1 c19
        refine lv_iconst (v := (0 : Int32)) hx hb dX8_omens_28 (by decide) ?_
        exact B29 rec4 hrec4 z x2 x1 (0 : Int32) _ _ _ h hP hS (lv_sub hl [0, 2] rfl)
      · have h := h.2 c19
        refine lv_iconst (v := (1 : Int32)) hx hb dX8_omens_22 (by decide) ?_
        refine lv_iload_n hx hb dX8_omens_23 rfl (lv_at hl 2 rfl) ?_
        refine lv_ishl hx hb dX8_omens_24 ?_
        refine lv_goto (tgt := 29) hx hb dX8_omens_25 (by decide) ?_
        exact B29 rec4 hrec4 z x2 x1 ((1 : Int32) <<< (x2 &&& 31)) _ _ _ h hP hS (lv_sub hl [0, 2] rfl)
  have L4 : ∀ (n : Nat) (z : MX) (x1 : Int32) (x2 : Int32) (H : Heap) (locs : List Loc) (ls : Array Slot), pX8_omens_L4  post n z x1 x2 → va_P D vwCl (WM q ad z) H → va_S A s.heap H locs → lv_has ls 3 [(0, .ref (ad 0)), (1, .int x1), (2, .int x2)] → W p l e (headSpec (cW yX8_omens cX8_omens 3 (some .int)) ({ frames := 0, cells := 0, slots := 0, locals := 0 } : Room)).room s m args below meth c H locs 0 0 (MQ below (va_Qi post (gB D vwCl (WM q ad) (mE D q)) A) args s 0 0 A) (F0 m 4 ls []) := by
    intro n
    induction n with
    | zero =>
      intro z x1 x2 H locs ls h
      exact False.elim h
    | succ n ih =>
      intro z x1 x2 H locs ls h hP hS hl
      exact B4 (pX8_omens_L4  post n) ih z x1 x2 H locs ls h hP hS hl
  refine g_entry (vs := [.ref (ad 0)]) hargs (Nat.le_of_ble_eq_true rfl) (fun ls hl => ?_)
  have hl : lv_has ls 3 [(0, .ref (ad 0))] := hl
  unfold pX8_omens at h
  refine lv_iconst (v := (0 : Int32)) hx hb dX8_omens_0 (by decide) ?_
  refine lv_istore_n (lv' := [(1, .int (0 : Int32)), (0, .ref (ad 0))]) hx hb dX8_omens_1 rfl hl (by decide) rfl (fun ls hl => ?_)
  refine lv_iconst (v := (0 : Int32)) hx hb dX8_omens_2 (by decide) ?_
  refine lv_istore_n (lv' := [(2, .int (0 : Int32)), (1, .int (0 : Int32)), (0, .ref (ad 0))]) hx hb dX8_omens_3 rfl hl (by decide) rfl (fun ls hl => ?_)
  obtain ⟨n, h⟩ := h
  exact L4 n z (0 : Int32) (0 : Int32) _ _ _ h hP hS (lv_sub hl [2, 1, 0] rfl)
def pX8_rule (z : MX) (x1 : Int32) (post : Int32 → MX → Prop) : Prop :=
  ((((x1).toInt < 0 ∨ 4 < (x1).toInt) →
    post (-1 : Int32) z) ∧
  (x1 = (0 : Int32) →
      post (z.1 0 1) z) ∧
  (x1 = (1 : Int32) →
      post (z.1 0 2) z) ∧
  (x1 = (2 : Int32) →
      post (z.1 0 4) z) ∧
  (x1 = (3 : Int32) →
      vp_in (8 : Int32) 125 ∧
      post (z.1 1 (Int32.toNatClampNeg (8 : Int32))) z) ∧
  (x1 = (4 : Int32) →
      pX8_omens z (fun (r60 : Int32) (z60 : MX) =>
      post r60 z60)))
set_option maxHeartbeats 4000000 in
set_option maxRecDepth 100000 in
theorem kX8_rule (l : Launch) (D : va_G) (q : Nat → ClassId) (ad : Nat → Nat) (A : Nat → Prop) (hD : ∀ z, va_D A (WM q ad z)) (z : MX) (x1 : Int32) (post : Int32 → MX → Prop) (h : pX8_rule  z x1 post) : Met l yX8_rule (cW yX8_rule cX8_rule 2 (some .int)) ({ frames := 1, cells := 0, slots := 0, locals := 22 } : Room) (va_Pc [.ref (ad 0), .int x1] ((gB D vwCl (WM q ad) (mE D q)) z)) (va_Qi post (gB D vwCl (WM q ad) (mE D q)) A) 0 0 A := by
  refine Met.ofW (cc := cX8_rule) (maxL := 2) (ret := (some .int)) (by decide) rfl ?_
  intro p e s m args below meth c s₁ B hml hv
  obtain ⟨hargs, hP, hE⟩ := hv
  have hx := B.exec
  have hb := B.bytes
  have hr := B.returns
  have hts := atoms_spec (ws := (cW yX8_rule cX8_rule 2 (some .int))) B.pre
  have ht : ∀ w ∈ tG, w.before args s = true := fun w h => hts w (List.mem_cons_of_mem _ h)
  have hown : s.vm.findClass RX8 = some m.cls := findClass_of_methodNamed B.named
  have hlocks := B.notSynchronized
  have hK := hE.1
  have hG := mE_G D q A
  have S : CallFix p m c cX8_rule 2 s args tG RX8 := ⟨hx, hb, hml, hown, ht⟩
  have hS : va_S A s.heap s.heap [] := va_S.rf
  refine g_entry (vs := [.ref (ad 0), .int x1]) hargs (Nat.le_of_ble_eq_true rfl) (fun ls hl => ?_)
  have hl : lv_has ls 2 [(0, .ref (ad 0)), (1, .int x1)] := hl
  unfold pX8_rule at h
  refine lv_iload_n hx hb dX8_rule_0 rfl (lv_at hl 1 rfl) ?_
  rcases g_sw (x := x1) 4 4 rfl with c1 | ⟨k1, hk1, c1⟩
  · refine lv_tableOut (tgt := 64) hx hb dX8_rule_1 c1 (by decide) ?_
    have h := h.1 c1
    refine lv_iconst (v := (-1 : Int32)) hx hb dX8_rule_64 (by decide) ?_
    exact g_ri hG hx hb hr hlocks hE hP hS h dX8_rule_65
  · match k1, hk1, c1 with
    | 0, _, c1 =>
      have h := h.2.1 (g_eq c1 rfl)
      refine lv_tableIn (off := 35) (tgt := 36) hx hb dX8_rule_1 (by rw [c1]; decide) (by rw [c1]; decide) (by rw [c1]; rfl) (by decide) ?_
      refine lv_aload_n hx hb dX8_rule_36 rfl (lv_at hl 0 rfl) ?_
      refine va_get (D := D) (ci := 8) (v := .int (z.1 0 1)) (C := RX8) (T := TX8) (N := 45) hx hb ht tl_X8 hown hK hP 0 (wm_0 q ad z) rfl 1 (by decide) (ht _ tw_fl_X8_13) (fun _ h9 => h9) rfl dX8_rule_37 ?_
      exact g_ri hG hx hb hr hlocks hE hP hS h dX8_rule_40
    | 1, _, c1 =>
      have h := h.2.2.1 (g_eq c1 rfl)
      refine lv_tableIn (off := 40) (tgt := 41) hx hb dX8_rule_1 (by rw [c1]; decide) (by rw [c1]; decide) (by rw [c1]; rfl) (by decide) ?_
      refine lv_aload_n hx hb dX8_rule_41 rfl (lv_at hl 0 rfl) ?_
      refine va_get (D := D) (ci := 8) (v := .int (z.1 0 2)) (C := RX8) (T := TX8) (N := 45) hx hb ht tl_X8 hown hK hP 0 (wm_0 q ad z) rfl 2 (by decide) (ht _ tw_fl_X8_173) (fun _ h9 => h9) rfl dX8_rule_42 ?_
      exact g_ri hG hx hb hr hlocks hE hP hS h dX8_rule_45
    | 2, _, c1 =>
      have h := h.2.2.2.1 (g_eq c1 rfl)
      refine lv_tableIn (off := 45) (tgt := 46) hx hb dX8_rule_1 (by rw [c1]; decide) (by rw [c1]; decide) (by rw [c1]; rfl) (by decide) ?_
      refine lv_aload_n hx hb dX8_rule_46 rfl (lv_at hl 0 rfl) ?_
      refine va_get (D := D) (ci := 8) (v := .int (z.1 0 4)) (C := RX8) (T := TX8) (N := 45) hx hb ht tl_X8 hown hK hP 0 (wm_0 q ad z) rfl 4 (by decide) (ht _ tw_fl_X8_176) (fun _ h9 => h9) rfl dX8_rule_47 ?_
      exact g_ri hG hx hb hr hlocks hE hP hS h dX8_rule_50
    | 3, _, c1 =>
      have h := h.2.2.2.2.1 (g_eq c1 rfl)
      refine lv_tableIn (off := 50) (tgt := 51) hx hb dX8_rule_1 (by rw [c1]; decide) (by rw [c1]; decide) (by rw [c1]; rfl) (by decide) ?_
      refine lv_aload_n hx hb dX8_rule_51 rfl (lv_at hl 0 rfl) ?_
      refine va_get (D := D) (ci := 8) (v := .ref (ad 1)) (C := RX8) (T := TX8) (N := 45) hx hb ht tl_X8 hown hK hP 0 (wm_0 q ad z) rfl 0 (by decide) (ht _ tw_fl_X8_7) (fun _ h9 => h9) rfl dX8_rule_52 ?_
      refine lv_bipush (v := (8 : Int32)) hx hb dX8_rule_55 (by decide) ?_
      have hi57 := h.1
      have h := h.2
      refine va_iald hx hb hK hP 1 0 (wm_1 q ad z) rfl hi57 dX8_rule_57 ?_
      exact g_ri hG hx hb hr hlocks hE hP hS h dX8_rule_58
    | 4, _, c1 =>
      have h := h.2.2.2.2.2 (g_eq c1 rfl)
      refine lv_tableIn (off := 58) (tgt := 59) hx hb dX8_rule_1 (by rw [c1]; decide) (by rw [c1]; decide) (by rw [c1]; rfl) (by decide) ?_
      refine lv_aload_n hx hb dX8_rule_59 rfl (lv_at hl 0 rfl) ?_
      refine g_cVi (Wd := WM q ad) (z := z) (As := []) (rest := []) hG S (kX8_omens l D q ad A hD z _ h) (cwV 0 ht (cW_V (fun _ h => h) tw_co_X8_omens tw_ml_X8_182 tw_im_X8_omens tw_se_X8_omens tw_in_X8) rfl rfl rfl (by decide +kernel) ⟨by decide, by decide⟩) (va_recv hK hP (ci := 8) (q0 := 0) rfl (wm_0 q ad z)) hE hP hS rfl hl.1 rfl (Nat.le_of_ble_eq_true rfl) dX8_rule_60 ⟨Nat.zero_le _, Nat.zero_le _⟩ (fun r60 z60 H locs h hP hS => ?_)
      exact g_ri hG hx hb hr hlocks hE hP hS h dX8_rule_63
    | k + 5, hk, _ => exact absurd hk (by omega)
def pX8_isBlock (z : MX) (x1 : Int32) (post : Int32 → MX → Prop) : Prop :=
  pX8_in z (Int32.toInt64 x1) (0 : Int64) (Int32.toInt64 ((z.1 0 1) - (1 : Int32))) (fun (r10 : Int32) (z10 : MX) =>
  ((r10 = 0 ∨ r10 = 1) ∧ post r10 z10))
set_option maxHeartbeats 4000000 in
set_option maxRecDepth 100000 in
theorem kX8_isBlock (l : Launch) (D : va_G) (q : Nat → ClassId) (ad : Nat → Nat) (A : Nat → Prop) (hD : ∀ z, va_D A (WM q ad z)) (z : MX) (x1 : Int32) (post : Int32 → MX → Prop) (h : pX8_isBlock  z x1 post) : Met l yX8_isBlock (cW yX8_isBlock cX8_isBlock 2 (some .boolean)) ({ frames := 1, cells := 0, slots := 0, locals := 25 } : Room) (va_Pc [.ref (ad 0), .int x1] ((gB D vwCl (WM q ad) (mE D q)) z)) (va_Qi post (gB D vwCl (WM q ad) (mE D q)) A) 0 0 A := by
  refine Met.ofW (cc := cX8_isBlock) (maxL := 2) (ret := (some .boolean)) (by decide) rfl ?_
  intro p e s m args below meth c s₁ B hml hv
  obtain ⟨hargs, hP, hE⟩ := hv
  have hx := B.exec
  have hb := B.bytes
  have hr := B.returns
  have hts := atoms_spec (ws := (cW yX8_isBlock cX8_isBlock 2 (some .boolean))) B.pre
  have ht : ∀ w ∈ tG, w.before args s = true := fun w h => hts w (List.mem_cons_of_mem _ h)
  have hown : s.vm.findClass RX8 = some m.cls := findClass_of_methodNamed B.named
  have hlocks := B.notSynchronized
  have hK := hE.1
  have hG := mE_G D q A
  have S : CallFix p m c cX8_isBlock 2 s args tG RX8 := ⟨hx, hb, hml, hown, ht⟩
  have hS : va_S A s.heap s.heap [] := va_S.rf
  refine g_entry (vs := [.ref (ad 0), .int x1]) hargs (Nat.le_of_ble_eq_true rfl) (fun ls hl => ?_)
  have hl : lv_has ls 2 [(0, .ref (ad 0)), (1, .int x1)] := hl
  unfold pX8_isBlock at h
  refine lv_iload_n hx hb dX8_isBlock_0 rfl (lv_at hl 1 rfl) ?_
  refine lv_i2l hx hb dX8_isBlock_1 rfl ?_
  refine lv_lconst (v := (0 : Int64)) hx hb dX8_isBlock_2 (by decide) ?_
  refine lv_aload_n hx hb dX8_isBlock_3 rfl (lv_at hl 0 rfl) ?_
  refine va_get (D := D) (ci := 8) (v := .int (z.1 0 1)) (C := RX8) (T := TX8) (N := 45) hx hb ht tl_X8 hown hK hP 0 (wm_0 q ad z) rfl 1 (by decide) (ht _ tw_fl_X8_13) (fun _ h9 => h9) rfl dX8_isBlock_4 ?_
  refine lv_iconst (v := (1 : Int32)) hx hb dX8_isBlock_7 (by decide) ?_
  refine lv_isub hx hb dX8_isBlock_8 ?_
  refine lv_i2l hx hb dX8_isBlock_9 rfl ?_
  refine g_cSi (Wd := WM q ad) (z := z) (As := [.long (Int32.toInt64 x1), .long (0 : Int64), .long (Int32.toInt64 ((z.1 0 1) - (1 : Int32)))]) (rest := []) hG S (kX8_in l D q ad A hD z (Int32.toInt64 x1) (0 : Int64) (Int32.toInt64 ((z.1 0 1) - (1 : Int32))) _ h) (va_cwS 3 ht (cW_S (fun _ h => h) tw_co_X8_in tw_ml_X8_74 tw_st_X8_in tw_in_X8) rfl rfl rfl (by decide +kernel) ⟨by decide, by decide⟩) hE hP hS rfl hl.1 rfl (Nat.le_of_ble_eq_true rfl) dX8_isBlock_10 ⟨Nat.zero_le _, Nat.zero_le _⟩ (fun r10 z10 H locs h hP hS => ?_)
  exact g_rz hG hx hb hr hlocks hE hP hS h dX8_isBlock_13
def pX8_lockedWith_b72 (rec4 : MX → Int32 → Int32 → Int32 → Prop) (post : Int32 → MX → Prop) (z : MX) (x1 : Int32) (x3 : Int32) (y0 : Int32) (y1 : Int32) : Prop :=
    ∀ x2_73 : Int32, x2_73 = y0 ||| y1 →
    ∀ x3_74 : Int32, x3_74 = x3 + (1 : Int32) →
    rec4 z x1 x2_73 x3_74
def pX8_lockedWith_b41 (rec4 : MX → Int32 → Int32 → Int32 → Prop) (post : Int32 → MX → Prop) (z : MX) (x1 : Int32) (x3 : Int32) (y0 : Int32) (y1 : Int32) : Prop :=
    ∀ x2_42 : Int32, x2_42 = y0 ||| y1 →
    vp_in (((2 : Int32) * x3) + (1 : Int32)) 8 ∧
    ((¬ (z.1 2 (Int32.toNatClampNeg (((2 : Int32) * x3) + (1 : Int32)))) = x1 →
      pX8_lockedWith_b72  rec4 post z x1 x3 x2_42 (0 : Int32)) ∧
    ((z.1 2 (Int32.toNatClampNeg (((2 : Int32) * x3) + (1 : Int32)))) = x1 →
      vp_in ((2 : Int32) * x3) 8 ∧
      pX8_lockedWith_b72  rec4 post z x1 x3 x2_42 ((1 : Int32) <<< ((z.1 2 (Int32.toNatClampNeg ((2 : Int32) * x3))) &&& 31))))
def pX8_lockedWith_l4 (rec4 : MX → Int32 → Int32 → Int32 → Prop) (post : Int32 → MX → Prop) (z : MX) (x1 : Int32) (x2 : Int32) (x3 : Int32) : Prop :=
    (((z.1 0 4) ≤ x3 →
      post x2 z) ∧
    (¬ (z.1 0 4) ≤ x3 →
      vp_in ((2 : Int32) * x3) 8 ∧
      ((¬ (z.1 2 (Int32.toNatClampNeg ((2 : Int32) * x3))) = x1 →
        pX8_lockedWith_b41  rec4 post z x1 x3 x2 (0 : Int32)) ∧
      ((z.1 2 (Int32.toNatClampNeg ((2 : Int32) * x3))) = x1 →
        vp_in (((2 : Int32) * x3) + (1 : Int32)) 8 ∧
        pX8_lockedWith_b41  rec4 post z x1 x3 x2 ((1 : Int32) <<< ((z.1 2 (Int32.toNatClampNeg (((2 : Int32) * x3) + (1 : Int32)))) &&& 31))))))
def pX8_lockedWith_L4 (post : Int32 → MX → Prop) : Nat → MX → Int32 → Int32 → Int32 → Prop
  | 0 => fun _ _ _ _ => False
  | n + 1 => fun z x1 x2 x3 => pX8_lockedWith_l4  (pX8_lockedWith_L4  post n) post z x1 x2 x3
def pX8_lockedWith (z : MX) (x1 : Int32) (post : Int32 → MX → Prop) : Prop :=
  ∃ n, pX8_lockedWith_L4  post n z x1 (0 : Int32) (0 : Int32)
set_option maxHeartbeats 4000000 in
set_option maxRecDepth 100000 in
theorem kX8_lockedWith (l : Launch) (D : va_G) (q : Nat → ClassId) (ad : Nat → Nat) (A : Nat → Prop) (hD : ∀ z, va_D A (WM q ad z)) (z : MX) (x1 : Int32) (post : Int32 → MX → Prop) (h : pX8_lockedWith  z x1 post) : Met l yX8_lockedWith (cW yX8_lockedWith cX8_lockedWith 4 (some .int)) ({ frames := 0, cells := 0, slots := 0, locals := 0 } : Room) (va_Pc [.ref (ad 0), .int x1] ((gB D vwCl (WM q ad) (mE D q)) z)) (va_Qi post (gB D vwCl (WM q ad) (mE D q)) A) 0 0 A := by
  refine Met.ofW (cc := cX8_lockedWith) (maxL := 4) (ret := (some .int)) (by decide) rfl ?_
  intro p e s m args below meth c s₁ B hml hv
  obtain ⟨hargs, hP, hE⟩ := hv
  have hx := B.exec
  have hb := B.bytes
  have hr := B.returns
  have hts := atoms_spec (ws := (cW yX8_lockedWith cX8_lockedWith 4 (some .int))) B.pre
  have ht : ∀ w ∈ tG, w.before args s = true := fun w h => hts w (List.mem_cons_of_mem _ h)
  have hown : s.vm.findClass RX8 = some m.cls := findClass_of_methodNamed B.named
  have hlocks := B.notSynchronized
  have hK := hE.1
  have hG := mE_G D q A
  have S : CallFix p m c cX8_lockedWith 4 s args tG RX8 := ⟨hx, hb, hml, hown, ht⟩
  have hS : va_S A s.heap s.heap [] := va_S.rf
  have B72 : ∀ (rec4 : MX → Int32 → Int32 → Int32 → Prop) (hrec4 : ∀ (z : MX) (x1 : Int32) (x2 : Int32) (x3 : Int32) (H : Heap) (locs : List Loc) (ls : Array Slot), rec4 z x1 x2 x3 → va_P D vwCl (WM q ad z) H → va_S A s.heap H locs → lv_has ls 4 [(0, .ref (ad 0)), (1, .int x1), (2, .int x2), (3, .int x3)] → W p l e (headSpec (cW yX8_lockedWith cX8_lockedWith 4 (some .int)) ({ frames := 0, cells := 0, slots := 0, locals := 0 } : Room)).room s m args below meth c H locs 0 0 (MQ below (va_Qi post (gB D vwCl (WM q ad) (mE D q)) A) args s 0 0 A) (F0 m 4 ls [])) (z : MX) (x1 : Int32) (x3 : Int32) (y0 : Int32) (y1 : Int32) (H : Heap) (locs : List Loc) (ls : Array Slot), pX8_lockedWith_b72  rec4 post z x1 x3 y0 y1 → va_P D vwCl (WM q ad z) H → va_S A s.heap H locs → lv_has ls 4 [(0, .ref (ad 0)), (1, .int x1), (3, .int x3)] → W p l e (headSpec (cW yX8_lockedWith cX8_lockedWith 4 (some .int)) ({ frames := 0, cells := 0, slots := 0, locals := 0 } : Room)).room s m args below meth c H locs 0 0 (MQ below (va_Qi post (gB D vwCl (WM q ad) (mE D q)) A) args s 0 0 A) (F0 m 72 ls [.int y1, .int y0]) := by
    intro rec4 hrec4 z x1 x3 y0 y1 H locs ls h hP hS hl
    unfold pX8_lockedWith_b72 at h
    refine lv_ior hx hb dX8_lockedWith_72 ?_
    refine lv_topi (fun x2_73 ex2_73 => ?_)
    have h := h x2_73 ex2_73
    refine lv_istore_n (lv' := [(2, .int x2_73), (0, .ref (ad 0)), (1, .int x1), (3, .int x3)]) hx hb dX8_lockedWith_73 rfl hl (by decide) rfl (fun ls hl => ?_)
    obtain ⟨x3_74, ex3_74⟩ : ∃ w : Int32, w = x3 + (1 : Int32) := ⟨_, rfl⟩
    have h := h x3_74 ex3_74
    refine lv_iinc (v := x3_74) (lv' := [(3, .int x3_74), (2, .int x2_73), (0, .ref (ad 0)), (1, .int x1)]) hx hb dX8_lockedWith_74 hl (k := 3) rfl (by rw [ex3_74]; rfl) (by decide) rfl (fun ls hl => ?_)
    refine lv_goto (tgt := 4) hx hb dX8_lockedWith_77 (by decide) ?_
    exact hrec4 z x1 x2_73 x3_74 _ _ _ h hP hS (lv_sub hl [2, 3, 1, 0] rfl)
  have B41 : ∀ (rec4 : MX → Int32 → Int32 → Int32 → Prop) (hrec4 : ∀ (z : MX) (x1 : Int32) (x2 : Int32) (x3 : Int32) (H : Heap) (locs : List Loc) (ls : Array Slot), rec4 z x1 x2 x3 → va_P D vwCl (WM q ad z) H → va_S A s.heap H locs → lv_has ls 4 [(0, .ref (ad 0)), (1, .int x1), (2, .int x2), (3, .int x3)] → W p l e (headSpec (cW yX8_lockedWith cX8_lockedWith 4 (some .int)) ({ frames := 0, cells := 0, slots := 0, locals := 0 } : Room)).room s m args below meth c H locs 0 0 (MQ below (va_Qi post (gB D vwCl (WM q ad) (mE D q)) A) args s 0 0 A) (F0 m 4 ls [])) (z : MX) (x1 : Int32) (x3 : Int32) (y0 : Int32) (y1 : Int32) (H : Heap) (locs : List Loc) (ls : Array Slot), pX8_lockedWith_b41  rec4 post z x1 x3 y0 y1 → va_P D vwCl (WM q ad z) H → va_S A s.heap H locs → lv_has ls 4 [(0, .ref (ad 0)), (1, .int x1), (3, .int x3)] → W p l e (headSpec (cW yX8_lockedWith cX8_lockedWith 4 (some .int)) ({ frames := 0, cells := 0, slots := 0, locals := 0 } : Room)).room s m args below meth c H locs 0 0 (MQ below (va_Qi post (gB D vwCl (WM q ad) (mE D q)) A) args s 0 0 A) (F0 m 41 ls [.int y1, .int y0]) := by
    intro rec4 hrec4 z x1 x3 y0 y1 H locs ls h hP hS hl
    unfold pX8_lockedWith_b41 at h
    refine lv_ior hx hb dX8_lockedWith_41 ?_
    refine lv_topi (fun x2_42 ex2_42 => ?_)
    have h := h x2_42 ex2_42
    refine lv_istore_n (lv' := [(2, .int x2_42), (0, .ref (ad 0)), (1, .int x1), (3, .int x3)]) hx hb dX8_lockedWith_42 rfl hl (by decide) rfl (fun ls hl => ?_)
    refine lv_iload_n hx hb dX8_lockedWith_43 rfl (lv_at hl 0 rfl) ?_
    refine lv_aload_n hx hb dX8_lockedWith_44 rfl (lv_at hl 1 rfl) ?_
    refine va_get (D := D) (ci := 8) (v := .ref (ad 2)) (C := RX8) (T := TX8) (N := 45) hx hb ht tl_X8 hown hK hP 0 (wm_0 q ad z) rfl 3 (by decide) (ht _ tw_fl_X8_17) (fun _ h9 => h9) rfl dX8_lockedWith_45 ?_
    refine lv_iconst (v := (2 : Int32)) hx hb dX8_lockedWith_48 (by decide) ?_
    refine lv_iload_n hx hb dX8_lockedWith_49 rfl (lv_at hl 3 rfl) ?_
    refine lv_imul hx hb dX8_lockedWith_50 ?_
    refine lv_iconst (v := (1 : Int32)) hx hb dX8_lockedWith_51 (by decide) ?_
    refine lv_iadd hx hb dX8_lockedWith_52 ?_
    have hi53 := h.1
    have h := h.2
    refine va_iald hx hb hK hP 2 0 (wm_2 q ad z) rfl hi53 dX8_lockedWith_53 ?_
    refine lv_iload_n hx hb dX8_lockedWith_54 rfl (lv_at hl 2 rfl) ?_
    refine lv_icmp_ne (tgt := 71) hx hb dX8_lockedWith_55 (by decide) (fun c55 => ?_) (fun c55 => ?_)
    · have h := h.1 c55
      refine lv_iconst (v := (0 : Int32)) hx hb dX8_lockedWith_71 (by decide) ?_
      exact B72 rec4 hrec4 z x1 x3 x2_42 (0 : Int32) _ _ _ h hP hS (lv_sub hl [1, 2, 3] rfl)
    · have h := h.2 c55
      refine lv_iconst (v := (1 : Int32)) hx hb dX8_lockedWith_58 (by decide) ?_
      refine lv_aload_n hx hb dX8_lockedWith_59 rfl (lv_at hl 1 rfl) ?_
      refine va_get (D := D) (ci := 8) (v := .ref (ad 2)) (C := RX8) (T := TX8) (N := 45) hx hb ht tl_X8 hown hK hP 0 (wm_0 q ad z) rfl 3 (by decide) (ht _ tw_fl_X8_17) (fun _ h9 => h9) rfl dX8_lockedWith_60 ?_
      refine lv_iconst (v := (2 : Int32)) hx hb dX8_lockedWith_63 (by decide) ?_
      refine lv_iload_n hx hb dX8_lockedWith_64 rfl (lv_at hl 3 rfl) ?_
      refine lv_imul hx hb dX8_lockedWith_65 ?_
      have hi66 := h.1
      have h := h.2
      refine va_iald hx hb hK hP 2 0 (wm_2 q ad z) rfl hi66 dX8_lockedWith_66 ?_
      refine lv_ishl hx hb dX8_lockedWith_67 ?_
      refine lv_goto (tgt := 72) hx hb dX8_lockedWith_68 (by decide) ?_
      exact B72 rec4 hrec4 z x1 x3 x2_42 ((1 : Int32) <<< ((z.1 2 (Int32.toNatClampNeg ((2 : Int32) * x3))) &&& 31)) _ _ _ h hP hS (lv_sub hl [1, 2, 3] rfl)
  have B4 : ∀ (rec4 : MX → Int32 → Int32 → Int32 → Prop) (hrec4 : ∀ (z : MX) (x1 : Int32) (x2 : Int32) (x3 : Int32) (H : Heap) (locs : List Loc) (ls : Array Slot), rec4 z x1 x2 x3 → va_P D vwCl (WM q ad z) H → va_S A s.heap H locs → lv_has ls 4 [(0, .ref (ad 0)), (1, .int x1), (2, .int x2), (3, .int x3)] → W p l e (headSpec (cW yX8_lockedWith cX8_lockedWith 4 (some .int)) ({ frames := 0, cells := 0, slots := 0, locals := 0 } : Room)).room s m args below meth c H locs 0 0 (MQ below (va_Qi post (gB D vwCl (WM q ad) (mE D q)) A) args s 0 0 A) (F0 m 4 ls [])) (z : MX) (x1 : Int32) (x2 : Int32) (x3 : Int32) (H : Heap) (locs : List Loc) (ls : Array Slot), pX8_lockedWith_l4  rec4 post z x1 x2 x3 → va_P D vwCl (WM q ad z) H → va_S A s.heap H locs → lv_has ls 4 [(0, .ref (ad 0)), (1, .int x1), (2, .int x2), (3, .int x3)] → W p l e (headSpec (cW yX8_lockedWith cX8_lockedWith 4 (some .int)) ({ frames := 0, cells := 0, slots := 0, locals := 0 } : Room)).room s m args below meth c H locs 0 0 (MQ below (va_Qi post (gB D vwCl (WM q ad) (mE D q)) A) args s 0 0 A) (F0 m 4 ls []) := by
    intro rec4 hrec4 z x1 x2 x3 H locs ls h hP hS hl
    unfold pX8_lockedWith_l4 at h
    refine lv_iload_n hx hb dX8_lockedWith_4 rfl (lv_at hl 3 rfl) ?_
    refine lv_aload_n hx hb dX8_lockedWith_5 rfl (lv_at hl 0 rfl) ?_
    refine va_get (D := D) (ci := 8) (v := .int (z.1 0 4)) (C := RX8) (T := TX8) (N := 45) hx hb ht tl_X8 hown hK hP 0 (wm_0 q ad z) rfl 4 (by decide) (ht _ tw_fl_X8_176) (fun _ h9 => h9) rfl dX8_lockedWith_6 ?_
    refine lv_icmp_ge (tgt := 80) hx hb dX8_lockedWith_9 (by decide) (fun c9 => ?_) (fun c9 => ?_)
    · have h := h.1 c9
      refine lv_iload_n hx hb dX8_lockedWith_80 rfl (lv_at hl 2 rfl) ?_
      exact g_ri hG hx hb hr hlocks hE hP hS h dX8_lockedWith_81
    · have h := h.2 c9
      refine lv_iload_n hx hb dX8_lockedWith_12 rfl (lv_at hl 2 rfl) ?_
      refine lv_aload_n hx hb dX8_lockedWith_13 rfl (lv_at hl 0 rfl) ?_
      refine va_get (D := D) (ci := 8) (v := .ref (ad 2)) (C := RX8) (T := TX8) (N := 45) hx hb ht tl_X8 hown hK hP 0 (wm_0 q ad z) rfl 3 (by decide) (ht _ tw_fl_X8_17) (fun _ h9 => h9) rfl dX8_lockedWith_14 ?_
      refine lv_iconst (v := (2 : Int32)) hx hb dX8_lockedWith_17 (by decide) ?_
      refine lv_iload_n hx hb dX8_lockedWith_18 rfl (lv_at hl 3 rfl) ?_
      refine lv_imul hx hb dX8_lockedWith_19 ?_
      have hi20 := h.1
      have h := h.2
      refine va_iald hx hb hK hP 2 0 (wm_2 q ad z) rfl hi20 dX8_lockedWith_20 ?_
      refine lv_iload_n hx hb dX8_lockedWith_21 rfl (lv_at hl 1 rfl) ?_
      refine lv_icmp_ne (tgt := 40) hx hb dX8_lockedWith_22 (by decide) (fun c22 => ?_) (fun c22 => ?_)
      · have h := h.1 c22
        refine lv_iconst (v := (0 : Int32)) hx hb dX8_lockedWith_40 (by decide) ?_
        exact B41 rec4 hrec4 z x1 x3 x2 (0 : Int32) _ _ _ h hP hS (lv_sub hl [0, 1, 3] rfl)
      · have h := h.2 c22
        refine lv_iconst (v := (1 : Int32)) hx hb dX8_lockedWith_25 (by decide) ?_
        refine lv_aload_n hx hb dX8_lockedWith_26 rfl (lv_at hl 0 rfl) ?_
        refine va_get (D := D) (ci := 8) (v := .ref (ad 2)) (C := RX8) (T := TX8) (N := 45) hx hb ht tl_X8 hown hK hP 0 (wm_0 q ad z) rfl 3 (by decide) (ht _ tw_fl_X8_17) (fun _ h9 => h9) rfl dX8_lockedWith_27 ?_
        refine lv_iconst (v := (2 : Int32)) hx hb dX8_lockedWith_30 (by decide) ?_
        refine lv_iload_n hx hb dX8_lockedWith_31 rfl (lv_at hl 3 rfl) ?_
        refine lv_imul hx hb dX8_lockedWith_32 ?_
        refine lv_iconst (v := (1 : Int32)) hx hb dX8_lockedWith_33 (by decide) ?_
        refine lv_iadd hx hb dX8_lockedWith_34 ?_
        have hi35 := h.1
        have h := h.2
        refine va_iald hx hb hK hP 2 0 (wm_2 q ad z) rfl hi35 dX8_lockedWith_35 ?_
        refine lv_ishl hx hb dX8_lockedWith_36 ?_
        refine lv_goto (tgt := 41) hx hb dX8_lockedWith_37 (by decide) ?_
        exact B41 rec4 hrec4 z x1 x3 x2 ((1 : Int32) <<< ((z.1 2 (Int32.toNatClampNeg (((2 : Int32) * x3) + (1 : Int32)))) &&& 31)) _ _ _ h hP hS (lv_sub hl [0, 1, 3] rfl)
  have L4 : ∀ (n : Nat) (z : MX) (x1 : Int32) (x2 : Int32) (x3 : Int32) (H : Heap) (locs : List Loc) (ls : Array Slot), pX8_lockedWith_L4  post n z x1 x2 x3 → va_P D vwCl (WM q ad z) H → va_S A s.heap H locs → lv_has ls 4 [(0, .ref (ad 0)), (1, .int x1), (2, .int x2), (3, .int x3)] → W p l e (headSpec (cW yX8_lockedWith cX8_lockedWith 4 (some .int)) ({ frames := 0, cells := 0, slots := 0, locals := 0 } : Room)).room s m args below meth c H locs 0 0 (MQ below (va_Qi post (gB D vwCl (WM q ad) (mE D q)) A) args s 0 0 A) (F0 m 4 ls []) := by
    intro n
    induction n with
    | zero =>
      intro z x1 x2 x3 H locs ls h
      exact False.elim h
    | succ n ih =>
      intro z x1 x2 x3 H locs ls h hP hS hl
      exact B4 (pX8_lockedWith_L4  post n) ih z x1 x2 x3 H locs ls h hP hS hl
  refine g_entry (vs := [.ref (ad 0), .int x1]) hargs (Nat.le_of_ble_eq_true rfl) (fun ls hl => ?_)
  have hl : lv_has ls 4 [(0, .ref (ad 0)), (1, .int x1)] := hl
  unfold pX8_lockedWith at h
  refine lv_iconst (v := (0 : Int32)) hx hb dX8_lockedWith_0 (by decide) ?_
  refine lv_istore_n (lv' := [(2, .int (0 : Int32)), (0, .ref (ad 0)), (1, .int x1)]) hx hb dX8_lockedWith_1 rfl hl (by decide) rfl (fun ls hl => ?_)
  refine lv_iconst (v := (0 : Int32)) hx hb dX8_lockedWith_2 (by decide) ?_
  refine lv_istore_n (lv' := [(3, .int (0 : Int32)), (2, .int (0 : Int32)), (0, .ref (ad 0)), (1, .int x1)]) hx hb dX8_lockedWith_3 rfl hl (by decide) rfl (fun ls hl => ?_)
  obtain ⟨n, h⟩ := h
  exact L4 n z x1 (0 : Int32) (0 : Int32) _ _ _ h hP hS (lv_sub hl [2, 3, 1, 0] rfl)
def pX8_block (z : MX) (x1 : Int32) (x2 : Int32) (post : Int32 → MX → Prop) : Prop :=
  pX8_isBlock z x1 (fun (r2 : Int32) (z2 : MX) =>
  ((r2 = 0 →
    post (-1 : Int32) z2) ∧
  (¬ r2 = 0 →
    pX8_in z2 (Int32.toInt64 x2) (0 : Int64) (2 : Int64) (fun (r14 : Int32) (z14 : MX) =>
    ((¬ r14 = 0 →
      ((¬ x2 = 0 →
        ((¬ x2 = (1 : Int32) →
          pX8_lockedWith z14 x1 (fun (r56 : Int32) (z56 : MX) =>
          post r56 z56)) ∧
        (x2 = (1 : Int32) →
          vp_in (8 : Int32) 125 ∧
          post (((z14.1 1 (Int32.toNatClampNeg (8 : Int32))) >>> (x1 &&& 31)) &&& (1 : Int32)) z14))) ∧
      (x2 = 0 →
        vp_in x1 125 ∧
        post (z14.1 1 (Int32.toNatClampNeg x1)) z14))) ∧
    (r14 = 0 →
      post (-1 : Int32) z14))))))
set_option maxHeartbeats 4000000 in
set_option maxRecDepth 100000 in
theorem kX8_block (l : Launch) (D : va_G) (q : Nat → ClassId) (ad : Nat → Nat) (A : Nat → Prop) (hD : ∀ z, va_D A (WM q ad z)) (z : MX) (x1 : Int32) (x2 : Int32) (post : Int32 → MX → Prop) (h : pX8_block  z x1 x2 post) : Met l yX8_block (cW yX8_block cX8_block 3 (some .int)) ({ frames := 2, cells := 0, slots := 0, locals := 46 } : Room) (va_Pc [.ref (ad 0), .int x1, .int x2] ((gB D vwCl (WM q ad) (mE D q)) z)) (va_Qi post (gB D vwCl (WM q ad) (mE D q)) A) 0 0 A := by
  refine Met.ofW (cc := cX8_block) (maxL := 3) (ret := (some .int)) (by decide) rfl ?_
  intro p e s m args below meth c s₁ B hml hv
  obtain ⟨hargs, hP, hE⟩ := hv
  have hx := B.exec
  have hb := B.bytes
  have hr := B.returns
  have hts := atoms_spec (ws := (cW yX8_block cX8_block 3 (some .int))) B.pre
  have ht : ∀ w ∈ tG, w.before args s = true := fun w h => hts w (List.mem_cons_of_mem _ h)
  have hown : s.vm.findClass RX8 = some m.cls := findClass_of_methodNamed B.named
  have hlocks := B.notSynchronized
  have hK := hE.1
  have hG := mE_G D q A
  have S : CallFix p m c cX8_block 3 s args tG RX8 := ⟨hx, hb, hml, hown, ht⟩
  have hS : va_S A s.heap s.heap [] := va_S.rf
  refine g_entry (vs := [.ref (ad 0), .int x1, .int x2]) hargs (Nat.le_of_ble_eq_true rfl) (fun ls hl => ?_)
  have hl : lv_has ls 3 [(0, .ref (ad 0)), (1, .int x1), (2, .int x2)] := hl
  unfold pX8_block at h
  refine lv_aload_n hx hb dX8_block_0 rfl (lv_at hl 0 rfl) ?_
  refine lv_iload_n hx hb dX8_block_1 rfl (lv_at hl 1 rfl) ?_
  refine g_cVi (Wd := WM q ad) (z := z) (As := [.int x1]) (rest := []) hG S (kX8_isBlock l D q ad A hD z x1 _ h) (cwV 1 ht (cW_V (fun _ h => h) tw_co_X8_isBlock tw_ml_X8_185 tw_im_X8_isBlock tw_se_X8_isBlock tw_in_X8) rfl rfl rfl (by decide +kernel) ⟨by decide, by decide⟩) (va_recv hK hP (ci := 8) (q0 := 0) rfl (wm_0 q ad z)) hE hP hS rfl hl.1 rfl (Nat.le_of_ble_eq_true rfl) dX8_block_2 ⟨Nat.zero_le _, Nat.zero_le _⟩ (fun r2 z2 H locs h hP hS => ?_)
  refine lv_if_eq (tgt := 20) hx hb dX8_block_5 (by decide) (fun c5 => ?_) (fun c5 => ?_)
  · have h := h.1 c5
    refine lv_iconst (v := (-1 : Int32)) hx hb dX8_block_20 (by decide) ?_
    exact g_ri hG hx hb hr hlocks hE hP hS h dX8_block_21
  · have h := h.2 c5
    refine lv_iload_n hx hb dX8_block_8 rfl (lv_at hl 2 rfl) ?_
    refine lv_i2l hx hb dX8_block_9 rfl ?_
    refine lv_lconst (v := (0 : Int64)) hx hb dX8_block_10 (by decide) ?_
    refine lv_ldc2 (v := (2 : Int64)) hx hb hown (ht _ tw_cn_X8_189) dX8_block_11 ?_
    refine g_cSi (Wd := WM q ad) (z := z2) (As := [.long (Int32.toInt64 x2), .long (0 : Int64), .long (2 : Int64)]) (rest := []) hG S (kX8_in l D q ad A hD z2 (Int32.toInt64 x2) (0 : Int64) (2 : Int64) _ h) (va_cwS 3 ht (cW_S (fun _ h => h) tw_co_X8_in tw_ml_X8_74 tw_st_X8_in tw_in_X8) rfl rfl rfl (by decide +kernel) ⟨by decide, by decide⟩) hE hP hS rfl hl.1 rfl (Nat.le_of_ble_eq_true rfl) dX8_block_14 ⟨Nat.zero_le _, Nat.zero_le _⟩ (fun r14 z14 H locs h hP hS => ?_)
    refine lv_if_ne (tgt := 22) hx hb dX8_block_17 (by decide) (fun c17 => ?_) (fun c17 => ?_)
    · have h := h.1 c17
      refine lv_iload_n hx hb dX8_block_22 rfl (lv_at hl 2 rfl) ?_
      refine lv_if_ne (tgt := 35) hx hb dX8_block_23 (by decide) (fun c23 => ?_) (fun c23 => ?_)
      · have h := h.1 c23
        refine lv_iload_n hx hb dX8_block_35 rfl (lv_at hl 2 rfl) ?_
        refine lv_iconst (v := (1 : Int32)) hx hb dX8_block_36 (by decide) ?_
        refine lv_icmp_ne (tgt := 54) hx hb dX8_block_37 (by decide) (fun c37 => ?_) (fun c37 => ?_)
        · have h := h.1 c37
          refine lv_aload_n hx hb dX8_block_54 rfl (lv_at hl 0 rfl) ?_
          refine lv_iload_n hx hb dX8_block_55 rfl (lv_at hl 1 rfl) ?_
          refine g_cVi (Wd := WM q ad) (z := z14) (As := [.int x1]) (rest := []) hG S (kX8_lockedWith l D q ad A hD z14 x1 _ h) (cwV 1 ht (cW_V (fun _ h => h) tw_co_X8_lockedWith tw_ml_X8_191 tw_im_X8_lockedWith tw_se_X8_lockedWith tw_in_X8) rfl rfl rfl (by decide +kernel) ⟨by decide, by decide⟩) (va_recv hK hP (ci := 8) (q0 := 0) rfl (wm_0 q ad z14)) hE hP hS rfl hl.1 rfl (Nat.le_of_ble_eq_true rfl) dX8_block_56 ⟨Nat.zero_le _, Nat.zero_le _⟩ (fun r56 z56 H locs h hP hS => ?_)
          exact g_ri hG hx hb hr hlocks hE hP hS h dX8_block_59
        · have h := h.2 c37
          refine lv_aload_n hx hb dX8_block_40 rfl (lv_at hl 0 rfl) ?_
          refine va_get (D := D) (ci := 8) (v := .ref (ad 1)) (C := RX8) (T := TX8) (N := 45) hx hb ht tl_X8 hown hK hP 0 (wm_0 q ad z14) rfl 0 (by decide) (ht _ tw_fl_X8_7) (fun _ h9 => h9) rfl dX8_block_41 ?_
          refine lv_bipush (v := (8 : Int32)) hx hb dX8_block_44 (by decide) ?_
          have hi46 := h.1
          have h := h.2
          refine va_iald hx hb hK hP 1 0 (wm_1 q ad z14) rfl hi46 dX8_block_46 ?_
          refine lv_iload_n hx hb dX8_block_47 rfl (lv_at hl 1 rfl) ?_
          refine lv_ishr hx hb dX8_block_48 ?_
          refine lv_iconst (v := (1 : Int32)) hx hb dX8_block_49 (by decide) ?_
          refine lv_iand hx hb dX8_block_50 ?_
          refine lv_goto (tgt := 59) hx hb dX8_block_51 (by decide) ?_
          exact g_ri hG hx hb hr hlocks hE hP hS h dX8_block_59
      · have h := h.2 c23
        refine lv_aload_n hx hb dX8_block_26 rfl (lv_at hl 0 rfl) ?_
        refine va_get (D := D) (ci := 8) (v := .ref (ad 1)) (C := RX8) (T := TX8) (N := 45) hx hb ht tl_X8 hown hK hP 0 (wm_0 q ad z14) rfl 0 (by decide) (ht _ tw_fl_X8_7) (fun _ h9 => h9) rfl dX8_block_27 ?_
        refine lv_iload_n hx hb dX8_block_30 rfl (lv_at hl 1 rfl) ?_
        have hi31 := h.1
        have h := h.2
        refine va_iald hx hb hK hP 1 0 (wm_1 q ad z14) rfl hi31 dX8_block_31 ?_
        refine lv_goto (tgt := 59) hx hb dX8_block_32 (by decide) ?_
        exact g_ri hG hx hb hr hlocks hE hP hS h dX8_block_59
    · have h := h.2 c17
      refine lv_iconst (v := (-1 : Int32)) hx hb dX8_block_20 (by decide) ?_
      exact g_ri hG hx hb hr hlocks hE hP hS h dX8_block_21
def pX8_lock (z : MX) (x1 : Int32) (x2 : Int32) (post : Int32 → MX → Prop) : Prop :=
  pX8_in z (Int32.toInt64 x1) (0 : Int64) (Int32.toInt64 ((z.1 0 4) - (1 : Int32))) (fun (r10 : Int32) (z10 : MX) =>
  ((r10 = 0 →
    post (-1 : Int32) z10) ∧
  (¬ r10 = 0 →
    pX8_in z10 (Int32.toInt64 x2) (0 : Int64) (1 : Int64) (fun (r20 : Int32) (z20 : MX) =>
    ((r20 = 0 →
      post (-1 : Int32) z20) ∧
    (¬ r20 = 0 →
      vp_in (((2 : Int32) * x1) + x2) 8 ∧
      post (z20.1 2 (Int32.toNatClampNeg (((2 : Int32) * x1) + x2))) z20))))))
set_option maxHeartbeats 4000000 in
set_option maxRecDepth 100000 in
theorem kX8_lock (l : Launch) (D : va_G) (q : Nat → ClassId) (ad : Nat → Nat) (A : Nat → Prop) (hD : ∀ z, va_D A (WM q ad z)) (z : MX) (x1 : Int32) (x2 : Int32) (post : Int32 → MX → Prop) (h : pX8_lock  z x1 x2 post) : Met l yX8_lock (cW yX8_lock cX8_lock 3 (some .int)) ({ frames := 1, cells := 0, slots := 0, locals := 25 } : Room) (va_Pc [.ref (ad 0), .int x1, .int x2] ((gB D vwCl (WM q ad) (mE D q)) z)) (va_Qi post (gB D vwCl (WM q ad) (mE D q)) A) 0 0 A := by
  refine Met.ofW (cc := cX8_lock) (maxL := 3) (ret := (some .int)) (by decide) rfl ?_
  intro p e s m args below meth c s₁ B hml hv
  obtain ⟨hargs, hP, hE⟩ := hv
  have hx := B.exec
  have hb := B.bytes
  have hr := B.returns
  have hts := atoms_spec (ws := (cW yX8_lock cX8_lock 3 (some .int))) B.pre
  have ht : ∀ w ∈ tG, w.before args s = true := fun w h => hts w (List.mem_cons_of_mem _ h)
  have hown : s.vm.findClass RX8 = some m.cls := findClass_of_methodNamed B.named
  have hlocks := B.notSynchronized
  have hK := hE.1
  have hG := mE_G D q A
  have S : CallFix p m c cX8_lock 3 s args tG RX8 := ⟨hx, hb, hml, hown, ht⟩
  have hS : va_S A s.heap s.heap [] := va_S.rf
  refine g_entry (vs := [.ref (ad 0), .int x1, .int x2]) hargs (Nat.le_of_ble_eq_true rfl) (fun ls hl => ?_)
  have hl : lv_has ls 3 [(0, .ref (ad 0)), (1, .int x1), (2, .int x2)] := hl
  unfold pX8_lock at h
  refine lv_iload_n hx hb dX8_lock_0 rfl (lv_at hl 1 rfl) ?_
  refine lv_i2l hx hb dX8_lock_1 rfl ?_
  refine lv_lconst (v := (0 : Int64)) hx hb dX8_lock_2 (by decide) ?_
  refine lv_aload_n hx hb dX8_lock_3 rfl (lv_at hl 0 rfl) ?_
  refine va_get (D := D) (ci := 8) (v := .int (z.1 0 4)) (C := RX8) (T := TX8) (N := 45) hx hb ht tl_X8 hown hK hP 0 (wm_0 q ad z) rfl 4 (by decide) (ht _ tw_fl_X8_176) (fun _ h9 => h9) rfl dX8_lock_4 ?_
  refine lv_iconst (v := (1 : Int32)) hx hb dX8_lock_7 (by decide) ?_
  refine lv_isub hx hb dX8_lock_8 ?_
  refine lv_i2l hx hb dX8_lock_9 rfl ?_
  refine g_cSi (Wd := WM q ad) (z := z) (As := [.long (Int32.toInt64 x1), .long (0 : Int64), .long (Int32.toInt64 ((z.1 0 4) - (1 : Int32)))]) (rest := []) hG S (kX8_in l D q ad A hD z (Int32.toInt64 x1) (0 : Int64) (Int32.toInt64 ((z.1 0 4) - (1 : Int32))) _ h) (va_cwS 3 ht (cW_S (fun _ h => h) tw_co_X8_in tw_ml_X8_74 tw_st_X8_in tw_in_X8) rfl rfl rfl (by decide +kernel) ⟨by decide, by decide⟩) hE hP hS rfl hl.1 rfl (Nat.le_of_ble_eq_true rfl) dX8_lock_10 ⟨Nat.zero_le _, Nat.zero_le _⟩ (fun r10 z10 H locs h hP hS => ?_)
  refine lv_if_eq (tgt := 39) hx hb dX8_lock_13 (by decide) (fun c13 => ?_) (fun c13 => ?_)
  · have h := h.1 c13
    refine lv_iconst (v := (-1 : Int32)) hx hb dX8_lock_39 (by decide) ?_
    exact g_ri hG hx hb hr hlocks hE hP hS h dX8_lock_40
  · have h := h.2 c13
    refine lv_iload_n hx hb dX8_lock_16 rfl (lv_at hl 2 rfl) ?_
    refine lv_i2l hx hb dX8_lock_17 rfl ?_
    refine lv_lconst (v := (0 : Int64)) hx hb dX8_lock_18 (by decide) ?_
    refine lv_lconst (v := (1 : Int64)) hx hb dX8_lock_19 (by decide) ?_
    refine g_cSi (Wd := WM q ad) (z := z10) (As := [.long (Int32.toInt64 x2), .long (0 : Int64), .long (1 : Int64)]) (rest := []) hG S (kX8_in l D q ad A hD z10 (Int32.toInt64 x2) (0 : Int64) (1 : Int64) _ h) (va_cwS 3 ht (cW_S (fun _ h => h) tw_co_X8_in tw_ml_X8_74 tw_st_X8_in tw_in_X8) rfl rfl rfl (by decide +kernel) ⟨by decide, by decide⟩) hE hP hS rfl hl.1 rfl (Nat.le_of_ble_eq_true rfl) dX8_lock_20 ⟨Nat.zero_le _, Nat.zero_le _⟩ (fun r20 z20 H locs h hP hS => ?_)
    refine lv_if_eq (tgt := 39) hx hb dX8_lock_23 (by decide) (fun c23 => ?_) (fun c23 => ?_)
    · have h := h.1 c23
      refine lv_iconst (v := (-1 : Int32)) hx hb dX8_lock_39 (by decide) ?_
      exact g_ri hG hx hb hr hlocks hE hP hS h dX8_lock_40
    · have h := h.2 c23
      refine lv_aload_n hx hb dX8_lock_26 rfl (lv_at hl 0 rfl) ?_
      refine va_get (D := D) (ci := 8) (v := .ref (ad 2)) (C := RX8) (T := TX8) (N := 45) hx hb ht tl_X8 hown hK hP 0 (wm_0 q ad z20) rfl 3 (by decide) (ht _ tw_fl_X8_17) (fun _ h9 => h9) rfl dX8_lock_27 ?_
      refine lv_iconst (v := (2 : Int32)) hx hb dX8_lock_30 (by decide) ?_
      refine lv_iload_n hx hb dX8_lock_31 rfl (lv_at hl 1 rfl) ?_
      refine lv_imul hx hb dX8_lock_32 ?_
      refine lv_iload_n hx hb dX8_lock_33 rfl (lv_at hl 2 rfl) ?_
      refine lv_iadd hx hb dX8_lock_34 ?_
      have hi35 := h.1
      have h := h.2
      refine va_iald hx hb hK hP 2 0 (wm_2 q ad z20) rfl hi35 dX8_lock_35 ?_
      refine lv_goto (tgt := 40) hx hb dX8_lock_36 (by decide) ?_
      exact g_ri hG hx hb hr hlocks hE hP hS h dX8_lock_40
def pX8_isTrain (z : MX) (x1 : Int32) (post : Int32 → MX → Prop) : Prop :=
  pX8_in z (Int32.toInt64 x1) (0 : Int64) (Int32.toInt64 ((z.1 0 2) - (1 : Int32))) (fun (r10 : Int32) (z10 : MX) =>
  ((r10 = 0 ∨ r10 = 1) ∧ post r10 z10))
set_option maxHeartbeats 4000000 in
set_option maxRecDepth 100000 in
theorem kX8_isTrain (l : Launch) (D : va_G) (q : Nat → ClassId) (ad : Nat → Nat) (A : Nat → Prop) (hD : ∀ z, va_D A (WM q ad z)) (z : MX) (x1 : Int32) (post : Int32 → MX → Prop) (h : pX8_isTrain  z x1 post) : Met l yX8_isTrain (cW yX8_isTrain cX8_isTrain 2 (some .boolean)) ({ frames := 1, cells := 0, slots := 0, locals := 25 } : Room) (va_Pc [.ref (ad 0), .int x1] ((gB D vwCl (WM q ad) (mE D q)) z)) (va_Qi post (gB D vwCl (WM q ad) (mE D q)) A) 0 0 A := by
  refine Met.ofW (cc := cX8_isTrain) (maxL := 2) (ret := (some .boolean)) (by decide) rfl ?_
  intro p e s m args below meth c s₁ B hml hv
  obtain ⟨hargs, hP, hE⟩ := hv
  have hx := B.exec
  have hb := B.bytes
  have hr := B.returns
  have hts := atoms_spec (ws := (cW yX8_isTrain cX8_isTrain 2 (some .boolean))) B.pre
  have ht : ∀ w ∈ tG, w.before args s = true := fun w h => hts w (List.mem_cons_of_mem _ h)
  have hown : s.vm.findClass RX8 = some m.cls := findClass_of_methodNamed B.named
  have hlocks := B.notSynchronized
  have hK := hE.1
  have hG := mE_G D q A
  have S : CallFix p m c cX8_isTrain 2 s args tG RX8 := ⟨hx, hb, hml, hown, ht⟩
  have hS : va_S A s.heap s.heap [] := va_S.rf
  refine g_entry (vs := [.ref (ad 0), .int x1]) hargs (Nat.le_of_ble_eq_true rfl) (fun ls hl => ?_)
  have hl : lv_has ls 2 [(0, .ref (ad 0)), (1, .int x1)] := hl
  unfold pX8_isTrain at h
  refine lv_iload_n hx hb dX8_isTrain_0 rfl (lv_at hl 1 rfl) ?_
  refine lv_i2l hx hb dX8_isTrain_1 rfl ?_
  refine lv_lconst (v := (0 : Int64)) hx hb dX8_isTrain_2 (by decide) ?_
  refine lv_aload_n hx hb dX8_isTrain_3 rfl (lv_at hl 0 rfl) ?_
  refine va_get (D := D) (ci := 8) (v := .int (z.1 0 2)) (C := RX8) (T := TX8) (N := 45) hx hb ht tl_X8 hown hK hP 0 (wm_0 q ad z) rfl 2 (by decide) (ht _ tw_fl_X8_173) (fun _ h9 => h9) rfl dX8_isTrain_4 ?_
  refine lv_iconst (v := (1 : Int32)) hx hb dX8_isTrain_7 (by decide) ?_
  refine lv_isub hx hb dX8_isTrain_8 ?_
  refine lv_i2l hx hb dX8_isTrain_9 rfl ?_
  refine g_cSi (Wd := WM q ad) (z := z) (As := [.long (Int32.toInt64 x1), .long (0 : Int64), .long (Int32.toInt64 ((z.1 0 2) - (1 : Int32)))]) (rest := []) hG S (kX8_in l D q ad A hD z (Int32.toInt64 x1) (0 : Int64) (Int32.toInt64 ((z.1 0 2) - (1 : Int32))) _ h) (va_cwS 3 ht (cW_S (fun _ h => h) tw_co_X8_in tw_ml_X8_74 tw_st_X8_in tw_in_X8) rfl rfl rfl (by decide +kernel) ⟨by decide, by decide⟩) hE hP hS rfl hl.1 rfl (Nat.le_of_ble_eq_true rfl) dX8_isTrain_10 ⟨Nat.zero_le _, Nat.zero_le _⟩ (fun r10 z10 H locs h hP hS => ?_)
  exact g_rz hG hx hb hr hlocks hE hP hS h dX8_isTrain_13
def pX8_train (z : MX) (x1 : Int32) (x2 : Int32) (post : Int32 → MX → Prop) : Prop :=
  pX8_isTrain z x1 (fun (r2 : Int32) (z2 : MX) =>
  ((r2 = 0 →
    post (-1 : Int32) z2) ∧
  (¬ r2 = 0 →
    pX8_in z2 (Int32.toInt64 x2) (0 : Int64) (3 : Int64) (fun (r14 : Int32) (z14 : MX) =>
    ((r14 = 0 →
      post (-1 : Int32) z14) ∧
    (¬ r14 = 0 →
      vp_in (((9 : Int32) + ((4 : Int32) * x2)) + x1) 125 ∧
      post (z14.1 1 (Int32.toNatClampNeg (((9 : Int32) + ((4 : Int32) * x2)) + x1))) z14))))))
set_option maxHeartbeats 4000000 in
set_option maxRecDepth 100000 in
theorem kX8_train (l : Launch) (D : va_G) (q : Nat → ClassId) (ad : Nat → Nat) (A : Nat → Prop) (hD : ∀ z, va_D A (WM q ad z)) (z : MX) (x1 : Int32) (x2 : Int32) (post : Int32 → MX → Prop) (h : pX8_train  z x1 x2 post) : Met l yX8_train (cW yX8_train cX8_train 3 (some .int)) ({ frames := 2, cells := 0, slots := 0, locals := 46 } : Room) (va_Pc [.ref (ad 0), .int x1, .int x2] ((gB D vwCl (WM q ad) (mE D q)) z)) (va_Qi post (gB D vwCl (WM q ad) (mE D q)) A) 0 0 A := by
  refine Met.ofW (cc := cX8_train) (maxL := 3) (ret := (some .int)) (by decide) rfl ?_
  intro p e s m args below meth c s₁ B hml hv
  obtain ⟨hargs, hP, hE⟩ := hv
  have hx := B.exec
  have hb := B.bytes
  have hr := B.returns
  have hts := atoms_spec (ws := (cW yX8_train cX8_train 3 (some .int))) B.pre
  have ht : ∀ w ∈ tG, w.before args s = true := fun w h => hts w (List.mem_cons_of_mem _ h)
  have hown : s.vm.findClass RX8 = some m.cls := findClass_of_methodNamed B.named
  have hlocks := B.notSynchronized
  have hK := hE.1
  have hG := mE_G D q A
  have S : CallFix p m c cX8_train 3 s args tG RX8 := ⟨hx, hb, hml, hown, ht⟩
  have hS : va_S A s.heap s.heap [] := va_S.rf
  refine g_entry (vs := [.ref (ad 0), .int x1, .int x2]) hargs (Nat.le_of_ble_eq_true rfl) (fun ls hl => ?_)
  have hl : lv_has ls 3 [(0, .ref (ad 0)), (1, .int x1), (2, .int x2)] := hl
  unfold pX8_train at h
  refine lv_aload_n hx hb dX8_train_0 rfl (lv_at hl 0 rfl) ?_
  refine lv_iload_n hx hb dX8_train_1 rfl (lv_at hl 1 rfl) ?_
  refine g_cVi (Wd := WM q ad) (z := z) (As := [.int x1]) (rest := []) hG S (kX8_isTrain l D q ad A hD z x1 _ h) (cwV 1 ht (cW_V (fun _ h => h) tw_co_X8_isTrain tw_ml_X8_194 tw_im_X8_isTrain tw_se_X8_isTrain tw_in_X8) rfl rfl rfl (by decide +kernel) ⟨by decide, by decide⟩) (va_recv hK hP (ci := 8) (q0 := 0) rfl (wm_0 q ad z)) hE hP hS rfl hl.1 rfl (Nat.le_of_ble_eq_true rfl) dX8_train_2 ⟨Nat.zero_le _, Nat.zero_le _⟩ (fun r2 z2 H locs h hP hS => ?_)
  refine lv_if_eq (tgt := 36) hx hb dX8_train_5 (by decide) (fun c5 => ?_) (fun c5 => ?_)
  · have h := h.1 c5
    refine lv_iconst (v := (-1 : Int32)) hx hb dX8_train_36 (by decide) ?_
    exact g_ri hG hx hb hr hlocks hE hP hS h dX8_train_37
  · have h := h.2 c5
    refine lv_iload_n hx hb dX8_train_8 rfl (lv_at hl 2 rfl) ?_
    refine lv_i2l hx hb dX8_train_9 rfl ?_
    refine lv_lconst (v := (0 : Int64)) hx hb dX8_train_10 (by decide) ?_
    refine lv_ldc2 (v := (3 : Int64)) hx hb hown (ht _ tw_cn_X8_197) dX8_train_11 ?_
    refine g_cSi (Wd := WM q ad) (z := z2) (As := [.long (Int32.toInt64 x2), .long (0 : Int64), .long (3 : Int64)]) (rest := []) hG S (kX8_in l D q ad A hD z2 (Int32.toInt64 x2) (0 : Int64) (3 : Int64) _ h) (va_cwS 3 ht (cW_S (fun _ h => h) tw_co_X8_in tw_ml_X8_74 tw_st_X8_in tw_in_X8) rfl rfl rfl (by decide +kernel) ⟨by decide, by decide⟩) hE hP hS rfl hl.1 rfl (Nat.le_of_ble_eq_true rfl) dX8_train_14 ⟨Nat.zero_le _, Nat.zero_le _⟩ (fun r14 z14 H locs h hP hS => ?_)
    refine lv_if_eq (tgt := 36) hx hb dX8_train_17 (by decide) (fun c17 => ?_) (fun c17 => ?_)
    · have h := h.1 c17
      refine lv_iconst (v := (-1 : Int32)) hx hb dX8_train_36 (by decide) ?_
      exact g_ri hG hx hb hr hlocks hE hP hS h dX8_train_37
    · have h := h.2 c17
      refine lv_aload_n hx hb dX8_train_20 rfl (lv_at hl 0 rfl) ?_
      refine va_get (D := D) (ci := 8) (v := .ref (ad 1)) (C := RX8) (T := TX8) (N := 45) hx hb ht tl_X8 hown hK hP 0 (wm_0 q ad z14) rfl 0 (by decide) (ht _ tw_fl_X8_7) (fun _ h9 => h9) rfl dX8_train_21 ?_
      refine lv_bipush (v := (9 : Int32)) hx hb dX8_train_24 (by decide) ?_
      refine lv_iconst (v := (4 : Int32)) hx hb dX8_train_26 (by decide) ?_
      refine lv_iload_n hx hb dX8_train_27 rfl (lv_at hl 2 rfl) ?_
      refine lv_imul hx hb dX8_train_28 ?_
      refine lv_iadd hx hb dX8_train_29 ?_
      refine lv_iload_n hx hb dX8_train_30 rfl (lv_at hl 1 rfl) ?_
      refine lv_iadd hx hb dX8_train_31 ?_
      have hi32 := h.1
      have h := h.2
      refine va_iald hx hb hK hP 1 0 (wm_1 q ad z14) rfl hi32 dX8_train_32 ?_
      refine lv_goto (tgt := 37) hx hb dX8_train_33 (by decide) ?_
      exact g_ri hG hx hb hr hlocks hE hP hS h dX8_train_37
def pX8_waits (z : MX) (x1 : Int32) (x2 : Int32) (post : Int32 → MX → Prop) : Prop :=
  pX8_in z (Int32.toInt64 x1) (0 : Int64) (3 : Int64) (fun (r6 : Int32) (z6 : MX) =>
  ((r6 = 0 →
    post (-1 : Int32) z6) ∧
  (¬ r6 = 0 →
    pX8_in z6 (Int32.toInt64 x2) (0 : Int64) (4 : Int64) (fun (r18 : Int32) (z18 : MX) =>
    ((r18 = 0 →
      post (-1 : Int32) z18) ∧
    (¬ r18 = 0 →
      vp_in (((5 : Int32) * x1) + x2) 20 ∧
      post (z18.1 3 (Int32.toNatClampNeg (((5 : Int32) * x1) + x2))) z18))))))
set_option maxHeartbeats 4000000 in
set_option maxRecDepth 100000 in
theorem kX8_waits (l : Launch) (D : va_G) (q : Nat → ClassId) (ad : Nat → Nat) (A : Nat → Prop) (hD : ∀ z, va_D A (WM q ad z)) (z : MX) (x1 : Int32) (x2 : Int32) (post : Int32 → MX → Prop) (h : pX8_waits  z x1 x2 post) : Met l yX8_waits (cW yX8_waits cX8_waits 3 (some .int)) ({ frames := 1, cells := 0, slots := 0, locals := 25 } : Room) (va_Pc [.ref (ad 0), .int x1, .int x2] ((gB D vwCl (WM q ad) (mE D q)) z)) (va_Qi post (gB D vwCl (WM q ad) (mE D q)) A) 0 0 A := by
  refine Met.ofW (cc := cX8_waits) (maxL := 3) (ret := (some .int)) (by decide) rfl ?_
  intro p e s m args below meth c s₁ B hml hv
  obtain ⟨hargs, hP, hE⟩ := hv
  have hx := B.exec
  have hb := B.bytes
  have hr := B.returns
  have hts := atoms_spec (ws := (cW yX8_waits cX8_waits 3 (some .int))) B.pre
  have ht : ∀ w ∈ tG, w.before args s = true := fun w h => hts w (List.mem_cons_of_mem _ h)
  have hown : s.vm.findClass RX8 = some m.cls := findClass_of_methodNamed B.named
  have hlocks := B.notSynchronized
  have hK := hE.1
  have hG := mE_G D q A
  have S : CallFix p m c cX8_waits 3 s args tG RX8 := ⟨hx, hb, hml, hown, ht⟩
  have hS : va_S A s.heap s.heap [] := va_S.rf
  refine g_entry (vs := [.ref (ad 0), .int x1, .int x2]) hargs (Nat.le_of_ble_eq_true rfl) (fun ls hl => ?_)
  have hl : lv_has ls 3 [(0, .ref (ad 0)), (1, .int x1), (2, .int x2)] := hl
  unfold pX8_waits at h
  refine lv_iload_n hx hb dX8_waits_0 rfl (lv_at hl 1 rfl) ?_
  refine lv_i2l hx hb dX8_waits_1 rfl ?_
  refine lv_lconst (v := (0 : Int64)) hx hb dX8_waits_2 (by decide) ?_
  refine lv_ldc2 (v := (3 : Int64)) hx hb hown (ht _ tw_cn_X8_197) dX8_waits_3 ?_
  refine g_cSi (Wd := WM q ad) (z := z) (As := [.long (Int32.toInt64 x1), .long (0 : Int64), .long (3 : Int64)]) (rest := []) hG S (kX8_in l D q ad A hD z (Int32.toInt64 x1) (0 : Int64) (3 : Int64) _ h) (va_cwS 3 ht (cW_S (fun _ h => h) tw_co_X8_in tw_ml_X8_74 tw_st_X8_in tw_in_X8) rfl rfl rfl (by decide +kernel) ⟨by decide, by decide⟩) hE hP hS rfl hl.1 rfl (Nat.le_of_ble_eq_true rfl) dX8_waits_6 ⟨Nat.zero_le _, Nat.zero_le _⟩ (fun r6 z6 H locs h hP hS => ?_)
  refine lv_if_eq (tgt := 37) hx hb dX8_waits_9 (by decide) (fun c9 => ?_) (fun c9 => ?_)
  · have h := h.1 c9
    refine lv_iconst (v := (-1 : Int32)) hx hb dX8_waits_37 (by decide) ?_
    exact g_ri hG hx hb hr hlocks hE hP hS h dX8_waits_38
  · have h := h.2 c9
    refine lv_iload_n hx hb dX8_waits_12 rfl (lv_at hl 2 rfl) ?_
    refine lv_i2l hx hb dX8_waits_13 rfl ?_
    refine lv_lconst (v := (0 : Int64)) hx hb dX8_waits_14 (by decide) ?_
    refine lv_ldc2 (v := (4 : Int64)) hx hb hown (ht _ tw_cn_X8_152) dX8_waits_15 ?_
    refine g_cSi (Wd := WM q ad) (z := z6) (As := [.long (Int32.toInt64 x2), .long (0 : Int64), .long (4 : Int64)]) (rest := []) hG S (kX8_in l D q ad A hD z6 (Int32.toInt64 x2) (0 : Int64) (4 : Int64) _ h) (va_cwS 3 ht (cW_S (fun _ h => h) tw_co_X8_in tw_ml_X8_74 tw_st_X8_in tw_in_X8) rfl rfl rfl (by decide +kernel) ⟨by decide, by decide⟩) hE hP hS rfl hl.1 rfl (Nat.le_of_ble_eq_true rfl) dX8_waits_18 ⟨Nat.zero_le _, Nat.zero_le _⟩ (fun r18 z18 H locs h hP hS => ?_)
    refine lv_if_eq (tgt := 37) hx hb dX8_waits_21 (by decide) (fun c21 => ?_) (fun c21 => ?_)
    · have h := h.1 c21
      refine lv_iconst (v := (-1 : Int32)) hx hb dX8_waits_37 (by decide) ?_
      exact g_ri hG hx hb hr hlocks hE hP hS h dX8_waits_38
    · have h := h.2 c21
      refine lv_aload_n hx hb dX8_waits_24 rfl (lv_at hl 0 rfl) ?_
      refine va_get (D := D) (ci := 8) (v := .ref (ad 3)) (C := RX8) (T := TX8) (N := 45) hx hb ht tl_X8 hown hK hP 0 (wm_0 q ad z18) rfl 5 (by decide) (ht _ tw_fl_X8_20) (fun _ h9 => h9) rfl dX8_waits_25 ?_
      refine lv_iconst (v := (5 : Int32)) hx hb dX8_waits_28 (by decide) ?_
      refine lv_iload_n hx hb dX8_waits_29 rfl (lv_at hl 1 rfl) ?_
      refine lv_imul hx hb dX8_waits_30 ?_
      refine lv_iload_n hx hb dX8_waits_31 rfl (lv_at hl 2 rfl) ?_
      refine lv_iadd hx hb dX8_waits_32 ?_
      have hi33 := h.1
      have h := h.2
      refine va_iald hx hb hK hP 3 0 (wm_3 q ad z18) rfl hi33 dX8_waits_33 ?_
      refine lv_goto (tgt := 38) hx hb dX8_waits_34 (by decide) ?_
      exact g_ri hG hx hb hr hlocks hE hP hS h dX8_waits_38
def pX8_hangs_b42 (post : Int32 → MX → Prop) (z : MX) (x1 : Int32) (x2 : Int32) : Prop :=
    vp_in x1 125 ∧
    ∀ x3_48 : Int32, x3_48 = z.1 1 (Int32.toNatClampNeg x1) →
    vp_in x1 125 ∧
    ∀ z55 : MX, z55 = mw z 1 (Int32.toNatClampNeg x1) x2 →
    post x3_48 z55
def pX8_hangs (z : MX) (x1 : Int32) (x2 : Int32) (post : Int32 → MX → Prop) : Prop :=
  pX8_isBlock z x1 (fun (r2 : Int32) (z2 : MX) =>
  ((r2 = 0 →
    post (-1 : Int32) z2) ∧
  (¬ r2 = 0 →
    pX8_in z2 (Int32.toInt64 x2) (0 : Int64) (4 : Int64) (fun (r14 : Int32) (z14 : MX) =>
    ((¬ r14 = 0 →
      ((x2 ≤ 0 →
        pX8_hangs_b42  post z14 x1 x2) ∧
      (¬ x2 ≤ 0 →
        pX8_lockedWith z14 x1 (fun (r28 : Int32) (z28 : MX) =>
        pX8_omens z28 (fun (r32 : Int32) (z32 : MX) =>
        (((r28 &&& r32) = 0 →
          pX8_hangs_b42  post z32 x1 x2) ∧
        (¬ (r28 &&& r32) = 0 →
          post (-2 : Int32) z32))))))) ∧
    (r14 = 0 →
      post (-1 : Int32) z14))))))
set_option maxHeartbeats 4000000 in
set_option maxRecDepth 100000 in
theorem kX8_hangs (l : Launch) (D : va_G) (q : Nat → ClassId) (ad : Nat → Nat) (A : Nat → Prop) (hD : ∀ z, va_D A (WM q ad z)) (z : MX) (x1 : Int32) (x2 : Int32) (post : Int32 → MX → Prop) (h : pX8_hangs  z x1 x2 post) : Met l yX8_hangs (cW yX8_hangs cX8_hangs 4 (some .int)) ({ frames := 2, cells := 0, slots := 0, locals := 46 } : Room) (va_Pc [.ref (ad 0), .int x1, .int x2] ((gB D vwCl (WM q ad) (mE D q)) z)) (va_Qi post (gB D vwCl (WM q ad) (mE D q)) A) 0 0 A := by
  refine Met.ofW (cc := cX8_hangs) (maxL := 4) (ret := (some .int)) (by decide) rfl ?_
  intro p e s m args below meth c s₁ B hml hv
  obtain ⟨hargs, hP, hE⟩ := hv
  have hx := B.exec
  have hb := B.bytes
  have hr := B.returns
  have hts := atoms_spec (ws := (cW yX8_hangs cX8_hangs 4 (some .int))) B.pre
  have ht : ∀ w ∈ tG, w.before args s = true := fun w h => hts w (List.mem_cons_of_mem _ h)
  have hown : s.vm.findClass RX8 = some m.cls := findClass_of_methodNamed B.named
  have hlocks := B.notSynchronized
  have hK := hE.1
  have hG := mE_G D q A
  have S : CallFix p m c cX8_hangs 4 s args tG RX8 := ⟨hx, hb, hml, hown, ht⟩
  have hS : va_S A s.heap s.heap [] := va_S.rf
  have B42 : ∀ (z : MX) (x1 : Int32) (x2 : Int32) (H : Heap) (locs : List Loc) (ls : Array Slot), pX8_hangs_b42  post z x1 x2 → va_P D vwCl (WM q ad z) H → va_S A s.heap H locs → lv_has ls 4 [(0, .ref (ad 0)), (1, .int x1), (2, .int x2)] → W p l e (headSpec (cW yX8_hangs cX8_hangs 4 (some .int)) ({ frames := 2, cells := 0, slots := 0, locals := 46 } : Room)).room s m args below meth c H locs 0 0 (MQ below (va_Qi post (gB D vwCl (WM q ad) (mE D q)) A) args s 0 0 A) (F0 m 42 ls []) := by
    intro z x1 x2 H locs ls h hP hS hl
    unfold pX8_hangs_b42 at h
    refine lv_aload_n hx hb dX8_hangs_42 rfl (lv_at hl 0 rfl) ?_
    refine va_get (D := D) (ci := 8) (v := .ref (ad 1)) (C := RX8) (T := TX8) (N := 45) hx hb ht tl_X8 hown hK hP 0 (wm_0 q ad z) rfl 0 (by decide) (ht _ tw_fl_X8_7) (fun _ h9 => h9) rfl dX8_hangs_43 ?_
    refine lv_iload_n hx hb dX8_hangs_46 rfl (lv_at hl 1 rfl) ?_
    have hi47 := h.1
    have h := h.2
    refine va_iald hx hb hK hP 1 0 (wm_1 q ad z) rfl hi47 dX8_hangs_47 ?_
    refine lv_topi (fun x3_48 ex3_48 => ?_)
    have h := h x3_48 ex3_48
    refine lv_istore_n (lv' := [(3, .int x3_48), (0, .ref (ad 0)), (1, .int x1), (2, .int x2)]) hx hb dX8_hangs_48 rfl hl (by decide) rfl (fun ls hl => ?_)
    refine lv_aload_n hx hb dX8_hangs_49 rfl (lv_at hl 1 rfl) ?_
    refine va_get (D := D) (ci := 8) (v := .ref (ad 1)) (C := RX8) (T := TX8) (N := 45) hx hb ht tl_X8 hown hK hP 0 (wm_0 q ad z) rfl 0 (by decide) (ht _ tw_fl_X8_7) (fun _ h9 => h9) rfl dX8_hangs_50 ?_
    refine lv_iload_n hx hb dX8_hangs_53 rfl (lv_at hl 2 rfl) ?_
    refine lv_iload_n hx hb dX8_hangs_54 rfl (lv_at hl 3 rfl) ?_
    have hi55 := h.1
    have h := h.2
    refine g_iast (Wd := WM q ad) (z := z) hx hb hK hP (hD z) hS 1 (wm_1 q ad z) rfl (am_1 q ad z) hi55 dX8_hangs_55 (fun z55 H locs hz55 hP hS => ?_)
    have h := h z55 hz55
    refine lv_iload_n hx hb dX8_hangs_56 rfl (lv_at hl 0 rfl) ?_
    exact g_ri hG hx hb hr hlocks hE hP hS h dX8_hangs_57
  refine g_entry (vs := [.ref (ad 0), .int x1, .int x2]) hargs (Nat.le_of_ble_eq_true rfl) (fun ls hl => ?_)
  have hl : lv_has ls 4 [(0, .ref (ad 0)), (1, .int x1), (2, .int x2)] := hl
  unfold pX8_hangs at h
  refine lv_aload_n hx hb dX8_hangs_0 rfl (lv_at hl 0 rfl) ?_
  refine lv_iload_n hx hb dX8_hangs_1 rfl (lv_at hl 1 rfl) ?_
  refine g_cVi (Wd := WM q ad) (z := z) (As := [.int x1]) (rest := []) hG S (kX8_isBlock l D q ad A hD z x1 _ h) (cwV 1 ht (cW_V (fun _ h => h) tw_co_X8_isBlock tw_ml_X8_185 tw_im_X8_isBlock tw_se_X8_isBlock tw_in_X8) rfl rfl rfl (by decide +kernel) ⟨by decide, by decide⟩) (va_recv hK hP (ci := 8) (q0 := 0) rfl (wm_0 q ad z)) hE hP hS rfl hl.1 rfl (Nat.le_of_ble_eq_true rfl) dX8_hangs_2 ⟨Nat.zero_le _, Nat.zero_le _⟩ (fun r2 z2 H locs h hP hS => ?_)
  refine lv_if_eq (tgt := 20) hx hb dX8_hangs_5 (by decide) (fun c5 => ?_) (fun c5 => ?_)
  · have h := h.1 c5
    refine lv_iconst (v := (-1 : Int32)) hx hb dX8_hangs_20 (by decide) ?_
    exact g_ri hG hx hb hr hlocks hE hP hS h dX8_hangs_21
  · have h := h.2 c5
    refine lv_iload_n hx hb dX8_hangs_8 rfl (lv_at hl 2 rfl) ?_
    refine lv_i2l hx hb dX8_hangs_9 rfl ?_
    refine lv_lconst (v := (0 : Int64)) hx hb dX8_hangs_10 (by decide) ?_
    refine lv_ldc2 (v := (4 : Int64)) hx hb hown (ht _ tw_cn_X8_152) dX8_hangs_11 ?_
    refine g_cSi (Wd := WM q ad) (z := z2) (As := [.long (Int32.toInt64 x2), .long (0 : Int64), .long (4 : Int64)]) (rest := []) hG S (kX8_in l D q ad A hD z2 (Int32.toInt64 x2) (0 : Int64) (4 : Int64) _ h) (va_cwS 3 ht (cW_S (fun _ h => h) tw_co_X8_in tw_ml_X8_74 tw_st_X8_in tw_in_X8) rfl rfl rfl (by decide +kernel) ⟨by decide, by decide⟩) hE hP hS rfl hl.1 rfl (Nat.le_of_ble_eq_true rfl) dX8_hangs_14 ⟨Nat.zero_le _, Nat.zero_le _⟩ (fun r14 z14 H locs h hP hS => ?_)
    refine lv_if_ne (tgt := 22) hx hb dX8_hangs_17 (by decide) (fun c17 => ?_) (fun c17 => ?_)
    · have h := h.1 c17
      refine lv_iload_n hx hb dX8_hangs_22 rfl (lv_at hl 2 rfl) ?_
      refine lv_if_le (tgt := 42) hx hb dX8_hangs_23 (by decide) (fun c23 => ?_) (fun c23 => ?_)
      · have h := h.1 c23
        exact B42 z14 x1 x2 _ _ _ h hP hS (lv_sub hl [0, 1, 2] rfl)
      · have h := h.2 c23
        refine lv_aload_n hx hb dX8_hangs_26 rfl (lv_at hl 0 rfl) ?_
        refine lv_iload_n hx hb dX8_hangs_27 rfl (lv_at hl 1 rfl) ?_
        refine g_cVi (Wd := WM q ad) (z := z14) (As := [.int x1]) (rest := []) hG S (kX8_lockedWith l D q ad A hD z14 x1 _ h) (cwV 1 ht (cW_V (fun _ h => h) tw_co_X8_lockedWith tw_ml_X8_191 tw_im_X8_lockedWith tw_se_X8_lockedWith tw_in_X8) rfl rfl rfl (by decide +kernel) ⟨by decide, by decide⟩) (va_recv hK hP (ci := 8) (q0 := 0) rfl (wm_0 q ad z14)) hE hP hS rfl hl.1 rfl (Nat.le_of_ble_eq_true rfl) dX8_hangs_28 ⟨Nat.zero_le _, Nat.zero_le _⟩ (fun r28 z28 H locs h hP hS => ?_)
        refine lv_aload_n hx hb dX8_hangs_31 rfl (lv_at hl 0 rfl) ?_
        refine g_cVi (Wd := WM q ad) (z := z28) (As := []) (rest := [.int r28]) hG S (kX8_omens l D q ad A hD z28 _ h) (cwV 0 ht (cW_V (fun _ h => h) tw_co_X8_omens tw_ml_X8_182 tw_im_X8_omens tw_se_X8_omens tw_in_X8) rfl rfl rfl (by decide +kernel) ⟨by decide, by decide⟩) (va_recv hK hP (ci := 8) (q0 := 0) rfl (wm_0 q ad z28)) hE hP hS rfl hl.1 rfl (Nat.le_of_ble_eq_true rfl) dX8_hangs_32 ⟨Nat.zero_le _, Nat.zero_le _⟩ (fun r32 z32 H locs h hP hS => ?_)
        refine lv_iand hx hb dX8_hangs_35 ?_
        refine lv_if_eq (tgt := 42) hx hb dX8_hangs_36 (by decide) (fun c36 => ?_) (fun c36 => ?_)
        · have h := h.1 c36
          exact B42 z32 x1 x2 _ _ _ h hP hS (lv_sub hl [0, 1, 2] rfl)
        · have h := h.2 c36
          refine lv_bipush (v := (-2 : Int32)) hx hb dX8_hangs_39 (by decide) ?_
          exact g_ri hG hx hb hr hlocks hE hP hS h dX8_hangs_41
    · have h := h.2 c17
      refine lv_iconst (v := (-1 : Int32)) hx hb dX8_hangs_20 (by decide) ?_
      exact g_ri hG hx hb hr hlocks hE hP hS h dX8_hangs_21
def pX8_hang (z : MX) (x1 : Int32) (x2 : Int32) (post : Int32 → MX → Prop) : Prop :=
  pX8_hangs z x1 x2 (fun (r3 : Int32) (z3 : MX) =>
  post r3 z3)
set_option maxHeartbeats 4000000 in
set_option maxRecDepth 100000 in
theorem kX8_hang (l : Launch) (D : va_G) (q : Nat → ClassId) (ad : Nat → Nat) (A : Nat → Prop) (hD : ∀ z, va_D A (WM q ad z)) (z : MX) (x1 : Int32) (x2 : Int32) (post : Int32 → MX → Prop) (h : pX8_hang  z x1 x2 post) : Met l yX8_hang (cW yX8_hang cX8_hang 3 (some .int)) ({ frames := 3, cells := 0, slots := 0, locals := 69 } : Room) (va_Pc [.ref (ad 0), .int x1, .int x2] ((gB D vwCl (WM q ad) (mE D q)) z)) (va_Qi post (gB D vwCl (WM q ad) (mE D q)) A) 0 0 A := by
  refine Met.ofW (cc := cX8_hang) (maxL := 3) (ret := (some .int)) (by decide) rfl ?_
  intro p e s m args below meth c s₁ B hml hv
  obtain ⟨hargs, hP, hE⟩ := hv
  have hx := B.exec
  have hb := B.bytes
  have hr := B.returns
  have hts := atoms_spec (ws := (cW yX8_hang cX8_hang 3 (some .int))) B.pre
  have ht : ∀ w ∈ tG, w.before args s = true := fun w h => hts w (List.mem_cons_of_mem _ h)
  have hown : s.vm.findClass RX8 = some m.cls := findClass_of_methodNamed B.named
  have hlocks := B.notSynchronized
  have hK := hE.1
  have hG := mE_G D q A
  have S : CallFix p m c cX8_hang 3 s args tG RX8 := ⟨hx, hb, hml, hown, ht⟩
  have hS : va_S A s.heap s.heap [] := va_S.rf
  refine g_entry (vs := [.ref (ad 0), .int x1, .int x2]) hargs (Nat.le_of_ble_eq_true rfl) (fun ls hl => ?_)
  have hl : lv_has ls 3 [(0, .ref (ad 0)), (1, .int x1), (2, .int x2)] := hl
  unfold pX8_hang at h
  refine lv_aload_n hx hb dX8_hang_0 rfl (lv_at hl 0 rfl) ?_
  refine lv_iload_n hx hb dX8_hang_1 rfl (lv_at hl 1 rfl) ?_
  refine lv_iload_n hx hb dX8_hang_2 rfl (lv_at hl 2 rfl) ?_
  refine g_cVi (Wd := WM q ad) (z := z) (As := [.int x1, .int x2]) (rest := []) hG S (kX8_hangs l D q ad A hD z x1 x2 _ h) (cwV 2 ht (cW_V (fun _ h => h) tw_co_X8_hangs tw_ml_X8_199 tw_im_X8_hangs tw_se_X8_hangs tw_in_X8) rfl rfl rfl (by decide +kernel) ⟨by decide, by decide⟩) (va_recv hK hP (ci := 8) (q0 := 0) rfl (wm_0 q ad z)) hE hP hS rfl hl.1 rfl (Nat.le_of_ble_eq_true rfl) dX8_hang_3 ⟨Nat.zero_le _, Nat.zero_le _⟩ (fun r3 z3 H locs h hP hS => ?_)
  exact g_ri hG hx hb hr hlocks hE hP hS h dX8_hang_6
def pX8_guard_b52 (post : Int32 → MX → Prop) (z : MX) (x3 : Int32) (y1 : Int32) (y2 : Int32) (y3 : Int32) : Prop :=
    vp_in y1 125 ∧
    ∀ z53 : MX, z53 = mw z 1 (Int32.toNatClampNeg y1) (y2 ||| y3) →
    post x3 z53
def pX8_guard (z : MX) (x1 : Int32) (x2 : Int32) (post : Int32 → MX → Prop) : Prop :=
  pX8_isBlock z x1 (fun (r2 : Int32) (z2 : MX) =>
  ((¬ r2 = 0 →
    vp_in (8 : Int32) 125 ∧
    ∀ x3_21 : Int32, x3_21 = ((z2.1 1 (Int32.toNatClampNeg (8 : Int32))) >>> (x1 &&& 31)) &&& (1 : Int32) →
    vp_in (8 : Int32) 125 ∧
    ((x2 = 0 →
      pX8_guard_b52  post z2 x3_21 (8 : Int32) ((z2.1 1 (Int32.toNatClampNeg (8 : Int32))) &&& (((1 : Int32) <<< (x1 &&& 31)) ^^^ (-1 : Int32))) (0 : Int32)) ∧
    (¬ x2 = 0 →
      pX8_guard_b52  post z2 x3_21 (8 : Int32) ((z2.1 1 (Int32.toNatClampNeg (8 : Int32))) &&& (((1 : Int32) <<< (x1 &&& 31)) ^^^ (-1 : Int32))) ((1 : Int32) <<< (x1 &&& 31))))) ∧
  (r2 = 0 →
    post (-1 : Int32) z2)))
set_option maxHeartbeats 4000000 in
set_option maxRecDepth 100000 in
theorem kX8_guard (l : Launch) (D : va_G) (q : Nat → ClassId) (ad : Nat → Nat) (A : Nat → Prop) (hD : ∀ z, va_D A (WM q ad z)) (z : MX) (x1 : Int32) (x2 : Int32) (post : Int32 → MX → Prop) (h : pX8_guard  z x1 x2 post) : Met l yX8_guard (cW yX8_guard cX8_guard 4 (some .int)) ({ frames := 2, cells := 0, slots := 0, locals := 46 } : Room) (va_Pc [.ref (ad 0), .int x1, .int x2] ((gB D vwCl (WM q ad) (mE D q)) z)) (va_Qi post (gB D vwCl (WM q ad) (mE D q)) A) 0 0 A := by
  refine Met.ofW (cc := cX8_guard) (maxL := 4) (ret := (some .int)) (by decide) rfl ?_
  intro p e s m args below meth c s₁ B hml hv
  obtain ⟨hargs, hP, hE⟩ := hv
  have hx := B.exec
  have hb := B.bytes
  have hr := B.returns
  have hts := atoms_spec (ws := (cW yX8_guard cX8_guard 4 (some .int))) B.pre
  have ht : ∀ w ∈ tG, w.before args s = true := fun w h => hts w (List.mem_cons_of_mem _ h)
  have hown : s.vm.findClass RX8 = some m.cls := findClass_of_methodNamed B.named
  have hlocks := B.notSynchronized
  have hK := hE.1
  have hG := mE_G D q A
  have S : CallFix p m c cX8_guard 4 s args tG RX8 := ⟨hx, hb, hml, hown, ht⟩
  have hS : va_S A s.heap s.heap [] := va_S.rf
  have B52 : ∀ (z : MX) (x3 : Int32) (y1 : Int32) (y2 : Int32) (y3 : Int32) (H : Heap) (locs : List Loc) (ls : Array Slot), pX8_guard_b52  post z x3 y1 y2 y3 → va_P D vwCl (WM q ad z) H → va_S A s.heap H locs → lv_has ls 4 [(3, .int x3)] → W p l e (headSpec (cW yX8_guard cX8_guard 4 (some .int)) ({ frames := 2, cells := 0, slots := 0, locals := 46 } : Room)).room s m args below meth c H locs 0 0 (MQ below (va_Qi post (gB D vwCl (WM q ad) (mE D q)) A) args s 0 0 A) (F0 m 52 ls [.int y3, .int y2, .int y1, .ref (ad 1)]) := by
    intro z x3 y1 y2 y3 H locs ls h hP hS hl
    unfold pX8_guard_b52 at h
    refine lv_ior hx hb dX8_guard_52 ?_
    have hi53 := h.1
    have h := h.2
    refine g_iast (Wd := WM q ad) (z := z) hx hb hK hP (hD z) hS 1 (wm_1 q ad z) rfl (am_1 q ad z) hi53 dX8_guard_53 (fun z53 H locs hz53 hP hS => ?_)
    have h := h z53 hz53
    refine lv_iload_n hx hb dX8_guard_54 rfl (lv_at hl 0 rfl) ?_
    exact g_ri hG hx hb hr hlocks hE hP hS h dX8_guard_55
  refine g_entry (vs := [.ref (ad 0), .int x1, .int x2]) hargs (Nat.le_of_ble_eq_true rfl) (fun ls hl => ?_)
  have hl : lv_has ls 4 [(0, .ref (ad 0)), (1, .int x1), (2, .int x2)] := hl
  unfold pX8_guard at h
  refine lv_aload_n hx hb dX8_guard_0 rfl (lv_at hl 0 rfl) ?_
  refine lv_iload_n hx hb dX8_guard_1 rfl (lv_at hl 1 rfl) ?_
  refine g_cVi (Wd := WM q ad) (z := z) (As := [.int x1]) (rest := []) hG S (kX8_isBlock l D q ad A hD z x1 _ h) (cwV 1 ht (cW_V (fun _ h => h) tw_co_X8_isBlock tw_ml_X8_185 tw_im_X8_isBlock tw_se_X8_isBlock tw_in_X8) rfl rfl rfl (by decide +kernel) ⟨by decide, by decide⟩) (va_recv hK hP (ci := 8) (q0 := 0) rfl (wm_0 q ad z)) hE hP hS rfl hl.1 rfl (Nat.le_of_ble_eq_true rfl) dX8_guard_2 ⟨Nat.zero_le _, Nat.zero_le _⟩ (fun r2 z2 H locs h hP hS => ?_)
  refine lv_if_ne (tgt := 10) hx hb dX8_guard_5 (by decide) (fun c5 => ?_) (fun c5 => ?_)
  · have h := h.1 c5
    refine lv_aload_n hx hb dX8_guard_10 rfl (lv_at hl 0 rfl) ?_
    refine va_get (D := D) (ci := 8) (v := .ref (ad 1)) (C := RX8) (T := TX8) (N := 45) hx hb ht tl_X8 hown hK hP 0 (wm_0 q ad z2) rfl 0 (by decide) (ht _ tw_fl_X8_7) (fun _ h9 => h9) rfl dX8_guard_11 ?_
    refine lv_bipush (v := (8 : Int32)) hx hb dX8_guard_14 (by decide) ?_
    have hi16 := h.1
    have h := h.2
    refine va_iald hx hb hK hP 1 0 (wm_1 q ad z2) rfl hi16 dX8_guard_16 ?_
    refine lv_iload_n hx hb dX8_guard_17 rfl (lv_at hl 1 rfl) ?_
    refine lv_ishr hx hb dX8_guard_18 ?_
    refine lv_iconst (v := (1 : Int32)) hx hb dX8_guard_19 (by decide) ?_
    refine lv_iand hx hb dX8_guard_20 ?_
    refine lv_topi (fun x3_21 ex3_21 => ?_)
    have h := h x3_21 ex3_21
    refine lv_istore_n (lv' := [(3, .int x3_21), (0, .ref (ad 0)), (1, .int x1), (2, .int x2)]) hx hb dX8_guard_21 rfl hl (by decide) rfl (fun ls hl => ?_)
    refine lv_aload_n hx hb dX8_guard_22 rfl (lv_at hl 1 rfl) ?_
    refine va_get (D := D) (ci := 8) (v := .ref (ad 1)) (C := RX8) (T := TX8) (N := 45) hx hb ht tl_X8 hown hK hP 0 (wm_0 q ad z2) rfl 0 (by decide) (ht _ tw_fl_X8_7) (fun _ h9 => h9) rfl dX8_guard_23 ?_
    refine lv_bipush (v := (8 : Int32)) hx hb dX8_guard_26 (by decide) ?_
    refine lv_aload_n hx hb dX8_guard_28 rfl (lv_at hl 1 rfl) ?_
    refine va_get (D := D) (ci := 8) (v := .ref (ad 1)) (C := RX8) (T := TX8) (N := 45) hx hb ht tl_X8 hown hK hP 0 (wm_0 q ad z2) rfl 0 (by decide) (ht _ tw_fl_X8_7) (fun _ h9 => h9) rfl dX8_guard_29 ?_
    refine lv_bipush (v := (8 : Int32)) hx hb dX8_guard_32 (by decide) ?_
    have hi34 := h.1
    have h := h.2
    refine va_iald hx hb hK hP 1 0 (wm_1 q ad z2) rfl hi34 dX8_guard_34 ?_
    refine lv_iconst (v := (1 : Int32)) hx hb dX8_guard_35 (by decide) ?_
    refine lv_iload_n hx hb dX8_guard_36 rfl (lv_at hl 2 rfl) ?_
    refine lv_ishl hx hb dX8_guard_37 ?_
    refine lv_iconst (v := (-1 : Int32)) hx hb dX8_guard_38 (by decide) ?_
    refine lv_ixor hx hb dX8_guard_39 ?_
    refine lv_iand hx hb dX8_guard_40 ?_
    refine lv_iload_n hx hb dX8_guard_41 rfl (lv_at hl 3 rfl) ?_
    refine lv_if_eq (tgt := 51) hx hb dX8_guard_42 (by decide) (fun c42 => ?_) (fun c42 => ?_)
    · have h := h.1 c42
      refine lv_iconst (v := (0 : Int32)) hx hb dX8_guard_51 (by decide) ?_
      exact B52 z2 x3_21 (8 : Int32) ((z2.1 1 (Int32.toNatClampNeg (8 : Int32))) &&& (((1 : Int32) <<< (x1 &&& 31)) ^^^ (-1 : Int32))) (0 : Int32) _ _ _ h hP hS (lv_sub hl [0] rfl)
    · have h := h.2 c42
      refine lv_iconst (v := (1 : Int32)) hx hb dX8_guard_45 (by decide) ?_
      refine lv_iload_n hx hb dX8_guard_46 rfl (lv_at hl 2 rfl) ?_
      refine lv_ishl hx hb dX8_guard_47 ?_
      refine lv_goto (tgt := 52) hx hb dX8_guard_48 (by decide) ?_
      exact B52 z2 x3_21 (8 : Int32) ((z2.1 1 (Int32.toNatClampNeg (8 : Int32))) &&& (((1 : Int32) <<< (x1 &&& 31)) ^^^ (-1 : Int32))) ((1 : Int32) <<< (x1 &&& 31)) _ _ _ h hP hS (lv_sub hl [0] rfl)
  · have h := h.2 c5
    refine lv_iconst (v := (-1 : Int32)) hx hb dX8_guard_8 (by decide) ?_
    exact g_ri hG hx hb hr hlocks hE hP hS h dX8_guard_9
def pX8_set_b45 (post : Int32 → MX → Prop) (z : MX) (x1 : Int32) (x2 : Int32) (x3 : Int32) (y0 : Int64) (y1 : Int64) (y2 : Int64) : Prop :=
    pX8_in z y0 y1 y2 (fun (r45 : Int32) (z45 : MX) =>
    ((¬ r45 = 0 →
      vp_in (((9 : Int32) + ((4 : Int32) * x2)) + x1) 125 ∧
      ∀ x4_66 : Int32, x4_66 = z45.1 1 (Int32.toNatClampNeg (((9 : Int32) + ((4 : Int32) * x2)) + x1)) →
      vp_in (((9 : Int32) + ((4 : Int32) * x2)) + x1) 125 ∧
      ∀ z81 : MX, z81 = mw z45 1 (Int32.toNatClampNeg (((9 : Int32) + ((4 : Int32) * x2)) + x1)) x3 →
      post x4_66 z81) ∧
    (r45 = 0 →
      post (-1 : Int32) z45)))
def pX8_set (z : MX) (x1 : Int32) (x2 : Int32) (x3 : Int32) (post : Int32 → MX → Prop) : Prop :=
  pX8_isTrain z x1 (fun (r2 : Int32) (z2 : MX) =>
  ((r2 = 0 →
    post (-1 : Int32) z2) ∧
  (¬ r2 = 0 →
    pX8_in z2 (Int32.toInt64 x2) (0 : Int64) (3 : Int64) (fun (r14 : Int32) (z14 : MX) =>
    ((r14 = 0 →
      post (-1 : Int32) z14) ∧
    (¬ r14 = 0 →
      ((¬ x2 = 0 →
        ((¬ x2 = (1 : Int32) →
          pX8_set_b45  post z14 x1 x2 x3 (Int32.toInt64 x3) (0 : Int64) (9 : Int64)) ∧
        (x2 = (1 : Int32) →
          pX8_set_b45  post z14 x1 x2 x3 (Int32.toInt64 x3) (0 : Int64) (1 : Int64)))) ∧
      (x2 = 0 →
        pX8_set_b45  post z14 x1 x2 x3 (Int32.toInt64 x3) (0 : Int64) (3 : Int64)))))))))
set_option maxHeartbeats 4000000 in
set_option maxRecDepth 100000 in
theorem kX8_set (l : Launch) (D : va_G) (q : Nat → ClassId) (ad : Nat → Nat) (A : Nat → Prop) (hD : ∀ z, va_D A (WM q ad z)) (z : MX) (x1 : Int32) (x2 : Int32) (x3 : Int32) (post : Int32 → MX → Prop) (h : pX8_set  z x1 x2 x3 post) : Met l yX8_set (cW yX8_set cX8_set 5 (some .int)) ({ frames := 2, cells := 0, slots := 0, locals := 46 } : Room) (va_Pc [.ref (ad 0), .int x1, .int x2, .int x3] ((gB D vwCl (WM q ad) (mE D q)) z)) (va_Qi post (gB D vwCl (WM q ad) (mE D q)) A) 0 0 A := by
  refine Met.ofW (cc := cX8_set) (maxL := 5) (ret := (some .int)) (by decide) rfl ?_
  intro p e s m args below meth c s₁ B hml hv
  obtain ⟨hargs, hP, hE⟩ := hv
  have hx := B.exec
  have hb := B.bytes
  have hr := B.returns
  have hts := atoms_spec (ws := (cW yX8_set cX8_set 5 (some .int))) B.pre
  have ht : ∀ w ∈ tG, w.before args s = true := fun w h => hts w (List.mem_cons_of_mem _ h)
  have hown : s.vm.findClass RX8 = some m.cls := findClass_of_methodNamed B.named
  have hlocks := B.notSynchronized
  have hK := hE.1
  have hG := mE_G D q A
  have S : CallFix p m c cX8_set 5 s args tG RX8 := ⟨hx, hb, hml, hown, ht⟩
  have hS : va_S A s.heap s.heap [] := va_S.rf
  have B45 : ∀ (z : MX) (x1 : Int32) (x2 : Int32) (x3 : Int32) (y0 : Int64) (y1 : Int64) (y2 : Int64) (H : Heap) (locs : List Loc) (ls : Array Slot), pX8_set_b45  post z x1 x2 x3 y0 y1 y2 → va_P D vwCl (WM q ad z) H → va_S A s.heap H locs → lv_has ls 5 [(0, .ref (ad 0)), (1, .int x1), (2, .int x2), (3, .int x3)] → W p l e (headSpec (cW yX8_set cX8_set 5 (some .int)) ({ frames := 2, cells := 0, slots := 0, locals := 46 } : Room)).room s m args below meth c H locs 0 0 (MQ below (va_Qi post (gB D vwCl (WM q ad) (mE D q)) A) args s 0 0 A) (F0 m 45 ls [.long y2, .long y1, .long y0]) := by
    intro z x1 x2 x3 y0 y1 y2 H locs ls h hP hS hl
    unfold pX8_set_b45 at h
    refine g_cSi (Wd := WM q ad) (z := z) (As := [.long y0, .long y1, .long y2]) (rest := []) hG S (kX8_in l D q ad A hD z y0 y1 y2 _ h) (va_cwS 3 ht (cW_S (fun _ h => h) tw_co_X8_in tw_ml_X8_74 tw_st_X8_in tw_in_X8) rfl rfl rfl (by decide +kernel) ⟨by decide, by decide⟩) hE hP hS rfl hl.1 rfl (Nat.le_of_ble_eq_true rfl) dX8_set_45 ⟨Nat.zero_le _, Nat.zero_le _⟩ (fun r45 z45 H locs h hP hS => ?_)
    refine lv_if_ne (tgt := 53) hx hb dX8_set_48 (by decide) (fun c48 => ?_) (fun c48 => ?_)
    · have h := h.1 c48
      refine lv_aload_n hx hb dX8_set_53 rfl (lv_at hl 0 rfl) ?_
      refine va_get (D := D) (ci := 8) (v := .ref (ad 1)) (C := RX8) (T := TX8) (N := 45) hx hb ht tl_X8 hown hK hP 0 (wm_0 q ad z45) rfl 0 (by decide) (ht _ tw_fl_X8_7) (fun _ h9 => h9) rfl dX8_set_54 ?_
      refine lv_bipush (v := (9 : Int32)) hx hb dX8_set_57 (by decide) ?_
      refine lv_iconst (v := (4 : Int32)) hx hb dX8_set_59 (by decide) ?_
      refine lv_iload_n hx hb dX8_set_60 rfl (lv_at hl 2 rfl) ?_
      refine lv_imul hx hb dX8_set_61 ?_
      refine lv_iadd hx hb dX8_set_62 ?_
      refine lv_iload_n hx hb dX8_set_63 rfl (lv_at hl 1 rfl) ?_
      refine lv_iadd hx hb dX8_set_64 ?_
      have hi65 := h.1
      have h := h.2
      refine va_iald hx hb hK hP 1 0 (wm_1 q ad z45) rfl hi65 dX8_set_65 ?_
      refine lv_topi (fun x4_66 ex4_66 => ?_)
      have h := h x4_66 ex4_66
      refine lv_istore (lv' := [(4, .int x4_66), (0, .ref (ad 0)), (1, .int x1), (2, .int x2), (3, .int x3)]) hx hb dX8_set_66 hl (by decide) rfl (fun ls hl => ?_)
      refine lv_aload_n hx hb dX8_set_68 rfl (lv_at hl 1 rfl) ?_
      refine va_get (D := D) (ci := 8) (v := .ref (ad 1)) (C := RX8) (T := TX8) (N := 45) hx hb ht tl_X8 hown hK hP 0 (wm_0 q ad z45) rfl 0 (by decide) (ht _ tw_fl_X8_7) (fun _ h9 => h9) rfl dX8_set_69 ?_
      refine lv_bipush (v := (9 : Int32)) hx hb dX8_set_72 (by decide) ?_
      refine lv_iconst (v := (4 : Int32)) hx hb dX8_set_74 (by decide) ?_
      refine lv_iload_n hx hb dX8_set_75 rfl (lv_at hl 3 rfl) ?_
      refine lv_imul hx hb dX8_set_76 ?_
      refine lv_iadd hx hb dX8_set_77 ?_
      refine lv_iload_n hx hb dX8_set_78 rfl (lv_at hl 2 rfl) ?_
      refine lv_iadd hx hb dX8_set_79 ?_
      refine lv_iload_n hx hb dX8_set_80 rfl (lv_at hl 4 rfl) ?_
      have hi81 := h.1
      have h := h.2
      refine g_iast (Wd := WM q ad) (z := z45) hx hb hK hP (hD z45) hS 1 (wm_1 q ad z45) rfl (am_1 q ad z45) hi81 dX8_set_81 (fun z81 H locs hz81 hP hS => ?_)
      have h := h z81 hz81
      refine lv_iload hx hb dX8_set_82 (lv_at hl 0 rfl) ?_
      exact g_ri hG hx hb hr hlocks hE hP hS h dX8_set_84
    · have h := h.2 c48
      refine lv_iconst (v := (-1 : Int32)) hx hb dX8_set_51 (by decide) ?_
      exact g_ri hG hx hb hr hlocks hE hP hS h dX8_set_52
  refine g_entry (vs := [.ref (ad 0), .int x1, .int x2, .int x3]) hargs (Nat.le_of_ble_eq_true rfl) (fun ls hl => ?_)
  have hl : lv_has ls 5 [(0, .ref (ad 0)), (1, .int x1), (2, .int x2), (3, .int x3)] := hl
  unfold pX8_set at h
  refine lv_aload_n hx hb dX8_set_0 rfl (lv_at hl 0 rfl) ?_
  refine lv_iload_n hx hb dX8_set_1 rfl (lv_at hl 1 rfl) ?_
  refine g_cVi (Wd := WM q ad) (z := z) (As := [.int x1]) (rest := []) hG S (kX8_isTrain l D q ad A hD z x1 _ h) (cwV 1 ht (cW_V (fun _ h => h) tw_co_X8_isTrain tw_ml_X8_194 tw_im_X8_isTrain tw_se_X8_isTrain tw_in_X8) rfl rfl rfl (by decide +kernel) ⟨by decide, by decide⟩) (va_recv hK hP (ci := 8) (q0 := 0) rfl (wm_0 q ad z)) hE hP hS rfl hl.1 rfl (Nat.le_of_ble_eq_true rfl) dX8_set_2 ⟨Nat.zero_le _, Nat.zero_le _⟩ (fun r2 z2 H locs h hP hS => ?_)
  refine lv_if_eq (tgt := 51) hx hb dX8_set_5 (by decide) (fun c5 => ?_) (fun c5 => ?_)
  · have h := h.1 c5
    refine lv_iconst (v := (-1 : Int32)) hx hb dX8_set_51 (by decide) ?_
    exact g_ri hG hx hb hr hlocks hE hP hS h dX8_set_52
  · have h := h.2 c5
    refine lv_iload_n hx hb dX8_set_8 rfl (lv_at hl 2 rfl) ?_
    refine lv_i2l hx hb dX8_set_9 rfl ?_
    refine lv_lconst (v := (0 : Int64)) hx hb dX8_set_10 (by decide) ?_
    refine lv_ldc2 (v := (3 : Int64)) hx hb hown (ht _ tw_cn_X8_197) dX8_set_11 ?_
    refine g_cSi (Wd := WM q ad) (z := z2) (As := [.long (Int32.toInt64 x2), .long (0 : Int64), .long (3 : Int64)]) (rest := []) hG S (kX8_in l D q ad A hD z2 (Int32.toInt64 x2) (0 : Int64) (3 : Int64) _ h) (va_cwS 3 ht (cW_S (fun _ h => h) tw_co_X8_in tw_ml_X8_74 tw_st_X8_in tw_in_X8) rfl rfl rfl (by decide +kernel) ⟨by decide, by decide⟩) hE hP hS rfl hl.1 rfl (Nat.le_of_ble_eq_true rfl) dX8_set_14 ⟨Nat.zero_le _, Nat.zero_le _⟩ (fun r14 z14 H locs h hP hS => ?_)
    refine lv_if_eq (tgt := 51) hx hb dX8_set_17 (by decide) (fun c17 => ?_) (fun c17 => ?_)
    · have h := h.1 c17
      refine lv_iconst (v := (-1 : Int32)) hx hb dX8_set_51 (by decide) ?_
      exact g_ri hG hx hb hr hlocks hE hP hS h dX8_set_52
    · have h := h.2 c17
      refine lv_iload_n hx hb dX8_set_20 rfl (lv_at hl 3 rfl) ?_
      refine lv_i2l hx hb dX8_set_21 rfl ?_
      refine lv_lconst (v := (0 : Int64)) hx hb dX8_set_22 (by decide) ?_
      refine lv_iload_n hx hb dX8_set_23 rfl (lv_at hl 2 rfl) ?_
      refine lv_if_ne (tgt := 33) hx hb dX8_set_24 (by decide) (fun c24 => ?_) (fun c24 => ?_)
      · have h := h.1 c24
        refine lv_iload_n hx hb dX8_set_33 rfl (lv_at hl 2 rfl) ?_
        refine lv_iconst (v := (1 : Int32)) hx hb dX8_set_34 (by decide) ?_
        refine lv_icmp_ne (tgt := 42) hx hb dX8_set_35 (by decide) (fun c35 => ?_) (fun c35 => ?_)
        · have h := h.1 c35
          refine lv_ldc2 (v := (9 : Int64)) hx hb hown (ht _ tw_cn_X8_203) dX8_set_42 ?_
          exact B45 z14 x1 x2 x3 (Int32.toInt64 x3) (0 : Int64) (9 : Int64) _ _ _ h hP hS (lv_sub hl [0, 1, 2, 3] rfl)
        · have h := h.2 c35
          refine lv_lconst (v := (1 : Int64)) hx hb dX8_set_38 (by decide) ?_
          refine lv_goto (tgt := 45) hx hb dX8_set_39 (by decide) ?_
          exact B45 z14 x1 x2 x3 (Int32.toInt64 x3) (0 : Int64) (1 : Int64) _ _ _ h hP hS (lv_sub hl [0, 1, 2, 3] rfl)
      · have h := h.2 c24
        refine lv_ldc2 (v := (3 : Int64)) hx hb hown (ht _ tw_cn_X8_197) dX8_set_27 ?_
        refine lv_goto (tgt := 45) hx hb dX8_set_30 (by decide) ?_
        exact B45 z14 x1 x2 x3 (Int32.toInt64 x3) (0 : Int64) (3 : Int64) _ _ _ h hP hS (lv_sub hl [0, 1, 2, 3] rfl)
