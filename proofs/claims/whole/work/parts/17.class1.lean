def pX7_feed (z : MX) (x1 : Int32) (post : Int32 → MX → Prop) : Prop :=
  ((x1 < 0 →
    post (-1 : Int32) z) ∧
  (¬ x1 < 0 →
    ((x1 ≤ (127 : Int32) →
      pX5_append z x1 (fun (r17 : Int32) (z17 : MX) =>
      ((r17 = 0 →
        post (-3 : Int32) z17) ∧
      (¬ r17 = 0 →
        post (z17.1 24 1) z17)))) ∧
    (¬ x1 ≤ (127 : Int32) →
      post (-1 : Int32) z))))
set_option maxHeartbeats 4000000 in
set_option maxRecDepth 100000 in
theorem kX7_feed (l : Launch) (D : va_G) (q : Nat → ClassId) (ad : Nat → Nat) (A : Nat → Prop) (hD : ∀ z, va_D A (WX q ad z)) (z : MX) (x1 : Int32) (post : Int32 → MX → Prop) (h : pX7_feed  z x1 post) : Met l yX7_feed (cW yX7_feed cX7_feed 2 (some .int)) ({ frames := 1, cells := 0, slots := 0, locals := 21 } : Room) (va_Pc [.ref (ad 38), .int x1] ((gB D vwCl (WX q ad) (xE D q ad A)) z)) (va_Qi post (gB D vwCl (WX q ad) (xE D q ad A)) A) 0 0 A := by
  refine Met.ofW (cc := cX7_feed) (maxL := 2) (ret := (some .int)) (by decide) rfl ?_
  intro p e s m args below meth c s₁ B hml hv
  obtain ⟨hargs, hP, hE⟩ := hv
  have hx := B.exec
  have hb := B.bytes
  have hr := B.returns
  have hts := atoms_spec (ws := (cW yX7_feed cX7_feed 2 (some .int))) B.pre
  have ht : ∀ w ∈ tG, w.before args s = true := fun w h => hts w (List.mem_cons_of_mem _ h)
  have hown : s.vm.findClass RX7 = some m.cls := findClass_of_methodNamed B.named
  have hlocks := B.notSynchronized
  have hK := hE.1
  have hG := xE_G D q ad A
  have S : CallFix p m c cX7_feed 2 s args tG RX7 := ⟨hx, hb, hml, hown, ht⟩
  have hS : va_S A s.heap s.heap [] := va_S.rf
  refine g_entry (vs := [.ref (ad 38), .int x1]) hargs (Nat.le_of_ble_eq_true rfl) (fun ls hl => ?_)
  have hl : lv_has ls 2 [(0, .ref (ad 38)), (1, .int x1)] := hl
  unfold pX7_feed at h
  refine lv_iload_n hx hb dX7_feed_0 rfl (lv_at hl 1 rfl) ?_
  refine lv_if_lt (tgt := 10) hx hb dX7_feed_1 (by decide) (fun c1 => ?_) (fun c1 => ?_)
  · have h := h.1 c1
    refine lv_iconst (v := (-1 : Int32)) hx hb dX7_feed_10 (by decide) ?_
    exact g_ri hG hx hb hr hlocks hE hP hS h dX7_feed_11
  · have h := h.2 c1
    refine lv_iload_n hx hb dX7_feed_4 rfl (lv_at hl 1 rfl) ?_
    refine lv_bipush (v := (127 : Int32)) hx hb dX7_feed_5 (by decide) ?_
    refine lv_icmp_le (tgt := 12) hx hb dX7_feed_7 (by decide) (fun c7 => ?_) (fun c7 => ?_)
    · have h := h.1 c7
      refine lv_aload_n hx hb dX7_feed_12 rfl (lv_at hl 0 rfl) ?_
      refine va_get (D := D) (ci := 7) (v := .ref (ad 24)) (C := RX7) (T := TX7) (N := 12) hx hb ht tl_X7 hown hK hP 38 (wx_38 q ad z) rfl 2 (by decide) (ht _ tw_fl_X7_22) (fun _ h9 => h9) rfl dX7_feed_13 ?_
      refine lv_iload_n hx hb dX7_feed_16 rfl (lv_at hl 1 rfl) ?_
      refine g_cVi (Wd := WX q ad) (z := z) (As := [.int x1]) (rest := []) hG S (kX5_append l D q ad A hD z x1 _ h) (cwV 1 ht (cW_V (fun _ h => h) tw_co_X5_append tw_ml_X7_71 tw_im_X5_append tw_se_X5_append tw_in_X5) rfl rfl rfl (by decide +kernel) ⟨by decide, by decide⟩) (va_recv hK hP (ci := 5) (q0 := 24) rfl (wx_24 q ad z)) hE hP hS rfl hl.1 rfl (Nat.le_of_ble_eq_true rfl) dX7_feed_17 ⟨Nat.zero_le _, Nat.zero_le _⟩ (fun r17 z17 H locs h hP hS => ?_)
      refine lv_if_eq (tgt := 33) hx hb dX7_feed_20 (by decide) (fun c20 => ?_) (fun c20 => ?_)
      · have h := h.1 c20
        refine lv_bipush (v := (-3 : Int32)) hx hb dX7_feed_33 (by decide) ?_
        exact g_ri hG hx hb hr hlocks hE hP hS h dX7_feed_35
      · have h := h.2 c20
        refine lv_aload_n hx hb dX7_feed_23 rfl (lv_at hl 0 rfl) ?_
        refine va_get (D := D) (ci := 7) (v := .ref (ad 24)) (C := RX7) (T := TX7) (N := 12) hx hb ht tl_X7 hown hK hP 38 (wx_38 q ad z17) rfl 2 (by decide) (ht _ tw_fl_X7_22) (fun _ h9 => h9) rfl dX7_feed_24 ?_
        refine va_get (D := D) (ci := 5) (v := .int (z17.1 24 1)) (C := RX5) (T := TX5) (N := 9) hx hb ht tl_X5 hown hK hP 24 (wx_24 q ad z17) rfl 1 (by decide) (ht _ tw_fl_X7_75) (fun _ h9 => h9) rfl dX7_feed_27 ?_
        refine lv_goto (tgt := 35) hx hb dX7_feed_30 (by decide) ?_
        exact g_ri hG hx hb hr hlocks hE hP hS h dX7_feed_35
    · have h := h.2 c7
      refine lv_iconst (v := (-1 : Int32)) hx hb dX7_feed_10 (by decide) ?_
      exact g_ri hG hx hb hr hlocks hE hP hS h dX7_feed_11
def pX7_end (z : MX) (x1 : Int32) (post : Int32 → MX → Prop) : Prop :=
  ∀ x2_7 : Int32, x2_7 = z.1 24 1 →
  ((x1 < 0 →
    post (-1 : Int32) z) ∧
  (¬ x1 < 0 →
    ((x1 ≤ x2_7 →
      ∀ z24 : MX, z24 = mw z 24 1 x1 →
      post x2_7 z24) ∧
    (¬ x1 ≤ x2_7 →
      post (-1 : Int32) z))))
set_option maxHeartbeats 4000000 in
set_option maxRecDepth 100000 in
theorem kX7_end (l : Launch) (D : va_G) (q : Nat → ClassId) (ad : Nat → Nat) (A : Nat → Prop) (hD : ∀ z, va_D A (WX q ad z)) (z : MX) (x1 : Int32) (post : Int32 → MX → Prop) (h : pX7_end  z x1 post) : Met l yX7_end (cW yX7_end cX7_end 3 (some .int)) ({ frames := 0, cells := 0, slots := 0, locals := 0 } : Room) (va_Pc [.ref (ad 38), .int x1] ((gB D vwCl (WX q ad) (xE D q ad A)) z)) (va_Qi post (gB D vwCl (WX q ad) (xE D q ad A)) A) 0 0 A := by
  refine Met.ofW (cc := cX7_end) (maxL := 3) (ret := (some .int)) (by decide) rfl ?_
  intro p e s m args below meth c s₁ B hml hv
  obtain ⟨hargs, hP, hE⟩ := hv
  have hx := B.exec
  have hb := B.bytes
  have hr := B.returns
  have hts := atoms_spec (ws := (cW yX7_end cX7_end 3 (some .int))) B.pre
  have ht : ∀ w ∈ tG, w.before args s = true := fun w h => hts w (List.mem_cons_of_mem _ h)
  have hown : s.vm.findClass RX7 = some m.cls := findClass_of_methodNamed B.named
  have hlocks := B.notSynchronized
  have hK := hE.1
  have hG := xE_G D q ad A
  have S : CallFix p m c cX7_end 3 s args tG RX7 := ⟨hx, hb, hml, hown, ht⟩
  have hS : va_S A s.heap s.heap [] := va_S.rf
  refine g_entry (vs := [.ref (ad 38), .int x1]) hargs (Nat.le_of_ble_eq_true rfl) (fun ls hl => ?_)
  have hl : lv_has ls 3 [(0, .ref (ad 38)), (1, .int x1)] := hl
  unfold pX7_end at h
  refine lv_aload_n hx hb dX7_end_0 rfl (lv_at hl 0 rfl) ?_
  refine va_get (D := D) (ci := 7) (v := .ref (ad 24)) (C := RX7) (T := TX7) (N := 12) hx hb ht tl_X7 hown hK hP 38 (wx_38 q ad z) rfl 2 (by decide) (ht _ tw_fl_X7_22) (fun _ h9 => h9) rfl dX7_end_1 ?_
  refine va_get (D := D) (ci := 5) (v := .int (z.1 24 1)) (C := RX5) (T := TX5) (N := 9) hx hb ht tl_X5 hown hK hP 24 (wx_24 q ad z) rfl 1 (by decide) (ht _ tw_fl_X7_75) (fun _ h9 => h9) rfl dX7_end_4 ?_
  refine lv_topi (fun x2_7 ex2_7 => ?_)
  have h := h x2_7 ex2_7
  refine lv_istore_n (lv' := [(2, .int x2_7), (0, .ref (ad 38)), (1, .int x1)]) hx hb dX7_end_7 rfl hl (by decide) rfl (fun ls hl => ?_)
  refine lv_iload_n hx hb dX7_end_8 rfl (lv_at hl 2 rfl) ?_
  refine lv_if_lt (tgt := 17) hx hb dX7_end_9 (by decide) (fun c9 => ?_) (fun c9 => ?_)
  · have h := h.1 c9
    refine lv_iconst (v := (-1 : Int32)) hx hb dX7_end_17 (by decide) ?_
    exact g_ri hG hx hb hr hlocks hE hP hS h dX7_end_18
  · have h := h.2 c9
    refine lv_iload_n hx hb dX7_end_12 rfl (lv_at hl 2 rfl) ?_
    refine lv_iload_n hx hb dX7_end_13 rfl (lv_at hl 0 rfl) ?_
    refine lv_icmp_le (tgt := 19) hx hb dX7_end_14 (by decide) (fun c14 => ?_) (fun c14 => ?_)
    · have h := h.1 c14
      refine lv_aload_n hx hb dX7_end_19 rfl (lv_at hl 1 rfl) ?_
      refine va_get (D := D) (ci := 7) (v := .ref (ad 24)) (C := RX7) (T := TX7) (N := 12) hx hb ht tl_X7 hown hK hP 38 (wx_38 q ad z) rfl 2 (by decide) (ht _ tw_fl_X7_22) (fun _ h9 => h9) rfl dX7_end_20 ?_
      refine lv_iload_n hx hb dX7_end_23 rfl (lv_at hl 2 rfl) ?_
      refine g_put (D := D) (Wd := WX q ad) (z := z) (ci := 5) (v := .int x1) (ty := .int) (C := RX5) (T := TX5) (N := 9) hx hb ht tl_X5 tyX5 tyX5_ok nmX5 hown hK hP (hD z) hS 24 (wx_24 q ad z) rfl 1 (by decide) (ht _ tw_fl_X7_75) (fun _ h9 => h9) rfl rfl rfl rfl (Nat.le_of_ble_eq_true rfl) ((px_24_1 q ad z) x1) dX7_end_24 (fun z24 H locs hz24 hP hS => ?_)
      have h := h z24 hz24
      refine lv_iload_n hx hb dX7_end_27 rfl (lv_at hl 0 rfl) ?_
      exact g_ri hG hx hb hr hlocks hE hP hS h dX7_end_28
    · have h := h.2 c14
      refine lv_iconst (v := (-1 : Int32)) hx hb dX7_end_17 (by decide) ?_
      exact g_ri hG hx hb hr hlocks hE hP hS h dX7_end_18
def pX7_text (z : MX) (post : Int32 → MX → Prop) : Prop :=
  pX5_parse 1 z (fun (r8 : Int32) (z8 : MX) =>
  ∀ z17 : MX, z17 = mw z8 24 1 (0 : Int32) →
  ∀ z28 : MX, z28 = mw z17 38 10 (z17.1 24 2) →
  (((z28.1 38 10) = 0 →
    pX0_copyFrom 0 1 z28 (fun (z57 : MX) =>
    ∀ z65 : MX, z65 = mw z57 33 6 (0 : Int32) →
    vp_in (0 : Int32) 2 ∧
    ((0 : Int32) = 0 ∨ (0 : Int32) = 1) ∧
    ∀ z74 : MX, z74 = mw z65 40 (Int32.toNatClampNeg (0 : Int32)) (0 : Int32) →
    vp_in (1 : Int32) 2 ∧
    ((0 : Int32) = 0 ∨ (0 : Int32) = 1) ∧
    ∀ z81 : MX, z81 = mw z74 40 (Int32.toNatClampNeg (1 : Int32)) (0 : Int32) →
    post r8 z81)) ∧
  (¬ (z28.1 38 10) = 0 →
    post ((-10 : Int32) - (z28.1 24 3)) z28)))
set_option maxHeartbeats 4000000 in
set_option maxRecDepth 100000 in
theorem kX7_text (l : Launch) (D : va_G) (q : Nat → ClassId) (ad : Nat → Nat) (A : Nat → Prop) (hD : ∀ z, va_D A (WX q ad z)) (z : MX) (post : Int32 → MX → Prop) (h : pX7_text  z post) : Met l yX7_text (cW yX7_text cX7_text 2 (some .int)) ({ frames := 10, cells := 0, slots := 0, locals := 218 } : Room) (va_Pc [.ref (ad 38)] ((gB D vwCl (WX q ad) (xE D q ad A)) z)) (va_Qi post (gB D vwCl (WX q ad) (xE D q ad A)) A) 0 0 A := by
  refine Met.ofW (cc := cX7_text) (maxL := 2) (ret := (some .int)) (by decide) rfl ?_
  intro p e s m args below meth c s₁ B hml hv
  obtain ⟨hargs, hP, hE⟩ := hv
  have hx := B.exec
  have hb := B.bytes
  have hr := B.returns
  have hts := atoms_spec (ws := (cW yX7_text cX7_text 2 (some .int))) B.pre
  have ht : ∀ w ∈ tG, w.before args s = true := fun w h => hts w (List.mem_cons_of_mem _ h)
  have hown : s.vm.findClass RX7 = some m.cls := findClass_of_methodNamed B.named
  have hlocks := B.notSynchronized
  have hK := hE.1
  have hG := xE_G D q ad A
  have S : CallFix p m c cX7_text 2 s args tG RX7 := ⟨hx, hb, hml, hown, ht⟩
  have hS : va_S A s.heap s.heap [] := va_S.rf
  refine g_entry (vs := [.ref (ad 38)]) hargs (Nat.le_of_ble_eq_true rfl) (fun ls hl => ?_)
  have hl : lv_has ls 2 [(0, .ref (ad 38))] := hl
  unfold pX7_text at h
  refine lv_aload_n hx hb dX7_text_0 rfl (lv_at hl 0 rfl) ?_
  refine va_get (D := D) (ci := 7) (v := .ref (ad 24)) (C := RX7) (T := TX7) (N := 12) hx hb ht tl_X7 hown hK hP 38 (wx_38 q ad z) rfl 2 (by decide) (ht _ tw_fl_X7_22) (fun _ h9 => h9) rfl dX7_text_1 ?_
  refine lv_aload_n hx hb dX7_text_4 rfl (lv_at hl 0 rfl) ?_
  refine va_get (D := D) (ci := 7) (v := .ref (ad (4 * 1))) (C := RX7) (T := TX7) (N := 12) hx hb ht tl_X7 hown hK hP 38 (wx_38 q ad z) rfl 1 (by decide) (ht _ tw_fl_X7_16) (fun _ h9 => h9) rfl dX7_text_5 ?_
  refine g_cVi (Wd := WX q ad) (z := z) (As := [.ref (ad (4 * 1))]) (rest := []) hG S (kX5_parse l D q ad A hD 1 (by decide) z _ h) (cwV 1 ht (cW_V (fun _ h => h) tw_co_X5_parse tw_ml_X7_79 tw_im_X5_parse tw_se_X5_parse tw_in_X5) rfl rfl rfl (by decide +kernel) ⟨by decide, by decide⟩) (va_recv hK hP (ci := 5) (q0 := 24) rfl (wx_24 q ad z)) hE hP hS rfl hl.1 rfl (Nat.le_of_ble_eq_true rfl) dX7_text_8 ⟨Nat.zero_le _, Nat.zero_le _⟩ (fun r8 z8 H locs h hP hS => ?_)
  refine lv_istore_n (lv' := [(1, .int r8), (0, .ref (ad 38))]) hx hb dX7_text_11 rfl hl (by decide) rfl (fun ls hl => ?_)
  refine lv_aload_n hx hb dX7_text_12 rfl (lv_at hl 1 rfl) ?_
  refine va_get (D := D) (ci := 7) (v := .ref (ad 24)) (C := RX7) (T := TX7) (N := 12) hx hb ht tl_X7 hown hK hP 38 (wx_38 q ad z8) rfl 2 (by decide) (ht _ tw_fl_X7_22) (fun _ h9 => h9) rfl dX7_text_13 ?_
  refine lv_iconst (v := (0 : Int32)) hx hb dX7_text_16 (by decide) ?_
  refine g_put (D := D) (Wd := WX q ad) (z := z8) (ci := 5) (v := .int (0 : Int32)) (ty := .int) (C := RX5) (T := TX5) (N := 9) hx hb ht tl_X5 tyX5 tyX5_ok nmX5 hown hK hP (hD z8) hS 24 (wx_24 q ad z8) rfl 1 (by decide) (ht _ tw_fl_X7_75) (fun _ h9 => h9) rfl rfl rfl rfl (Nat.le_of_ble_eq_true rfl) ((px_24_1 q ad z8) (0 : Int32)) dX7_text_17 (fun z17 H locs hz17 hP hS => ?_)
  have h := h z17 hz17
  refine lv_aload_n hx hb dX7_text_20 rfl (lv_at hl 1 rfl) ?_
  refine lv_aload_n hx hb dX7_text_21 rfl (lv_at hl 1 rfl) ?_
  refine va_get (D := D) (ci := 7) (v := .ref (ad 24)) (C := RX7) (T := TX7) (N := 12) hx hb ht tl_X7 hown hK hP 38 (wx_38 q ad z17) rfl 2 (by decide) (ht _ tw_fl_X7_22) (fun _ h9 => h9) rfl dX7_text_22 ?_
  refine va_get (D := D) (ci := 5) (v := .int (z17.1 24 2)) (C := RX5) (T := TX5) (N := 9) hx hb ht tl_X5 hown hK hP 24 (wx_24 q ad z17) rfl 2 (by decide) (ht _ tw_fl_X7_83) (fun _ h9 => h9) rfl dX7_text_25 ?_
  refine g_put (D := D) (Wd := WX q ad) (z := z17) (ci := 7) (v := .int (z17.1 24 2)) (ty := .int) (C := RX7) (T := TX7) (N := 12) hx hb ht tl_X7 tyX7 tyX7_ok nmX7 hown hK hP (hD z17) hS 38 (wx_38 q ad z17) rfl 10 (by decide) (ht _ tw_fl_X7_86) (fun _ h9 => h9) rfl rfl rfl rfl (Nat.le_of_ble_eq_true rfl) ((px_38_10 q ad z17) (z17.1 24 2)) dX7_text_28 (fun z28 H locs hz28 hP hS => ?_)
  have h := h z28 hz28
  refine lv_aload_n hx hb dX7_text_31 rfl (lv_at hl 1 rfl) ?_
  refine va_get (D := D) (ci := 7) (v := .int (z28.1 38 10)) (C := RX7) (T := TX7) (N := 12) hx hb ht tl_X7 hown hK hP 38 (wx_38 q ad z28) rfl 10 (by decide) (ht _ tw_fl_X7_86) (fun _ h9 => h9) rfl dX7_text_32 ?_
  refine lv_if_eq (tgt := 49) hx hb dX7_text_35 (by decide) (fun c35 => ?_) (fun c35 => ?_)
  · have h := h.1 c35
    refine lv_aload_n hx hb dX7_text_49 rfl (lv_at hl 1 rfl) ?_
    refine va_get (D := D) (ci := 7) (v := .ref (ad (4 * 0))) (C := RX7) (T := TX7) (N := 12) hx hb ht tl_X7 hown hK hP 38 (wx_38 q ad z28) rfl 0 (by decide) (ht _ tw_fl_X7_10) (fun _ h9 => h9) rfl dX7_text_50 ?_
    refine lv_aload_n hx hb dX7_text_53 rfl (lv_at hl 1 rfl) ?_
    refine va_get (D := D) (ci := 7) (v := .ref (ad (4 * 1))) (C := RX7) (T := TX7) (N := 12) hx hb ht tl_X7 hown hK hP 38 (wx_38 q ad z28) rfl 1 (by decide) (ht _ tw_fl_X7_16) (fun _ h9 => h9) rfl dX7_text_54 ?_
    refine g_cVv (Wd := WX q ad) (z := z28) (As := [.ref (ad (4 * 1))]) (rest := []) hG S (kX0_copyFrom l D q ad A hD 0 (by decide) 1 (by decide) z28 _ h) (cwV 1 ht (cW_V (fun _ h => h) tw_co_X0_copyFrom tw_ml_X7_92 tw_im_X0_copyFrom tw_se_X0_copyFrom tw_in_X0) rfl rfl rfl (by decide +kernel) ⟨by decide, by decide⟩) (va_recv hK hP (ci := 0) (q0 := (4 * 0)) rfl (wxl q ad z28 (by decide))) hE hP hS rfl hl.1 rfl (Nat.le_of_ble_eq_true rfl) dX7_text_57 ⟨Nat.zero_le _, Nat.zero_le _⟩ (fun z57 H locs h hP hS => ?_)
    refine lv_aload_n hx hb dX7_text_60 rfl (lv_at hl 1 rfl) ?_
    refine va_get (D := D) (ci := 7) (v := .ref (ad 33)) (C := RX7) (T := TX7) (N := 12) hx hb ht tl_X7 hown hK hP 38 (wx_38 q ad z57) rfl 6 (by decide) (ht _ tw_fl_X7_52) (fun _ h9 => h9) rfl dX7_text_61 ?_
    refine lv_iconst (v := (0 : Int32)) hx hb dX7_text_64 (by decide) ?_
    refine g_put (D := D) (Wd := WX q ad) (z := z57) (ci := 4) (v := .int (0 : Int32)) (ty := .int) (C := RX4) (T := TX4) (N := 8) hx hb ht tl_X4 tyX4 tyX4_ok nmX4 hown hK hP (hD z57) hS 33 (wx_33 q ad z57) rfl 6 (by decide) (ht _ tw_fl_X7_96) (fun _ h9 => h9) rfl rfl rfl rfl (Nat.le_of_ble_eq_true rfl) ((px_33_6 q ad z57) (0 : Int32)) dX7_text_65 (fun z65 H locs hz65 hP hS => ?_)
    have h := h z65 hz65
    refine lv_aload_n hx hb dX7_text_68 rfl (lv_at hl 1 rfl) ?_
    refine va_get (D := D) (ci := 7) (v := .ref (ad 40)) (C := RX7) (T := TX7) (N := 12) hx hb ht tl_X7 hown hK hP 38 (wx_38 q ad z65) rfl 8 (by decide) (ht _ tw_fl_X7_60) (fun _ h9 => h9) rfl dX7_text_69 ?_
    refine lv_iconst (v := (0 : Int32)) hx hb dX7_text_72 (by decide) ?_
    refine lv_iconst (v := (0 : Int32)) hx hb dX7_text_73 (by decide) ?_
    have hi74 := h.1
    have h := h.2
    have hb74 := h.1
    have h := h.2
    refine g_zast (Wd := WX q ad) (z := z65) hx hb hK hP (hD z65) hS 40 (wx_40 q ad z65) rfl (ax_40 q ad z65) hi74 hb74 dX7_text_74 (fun z74 H locs hz74 hP hS => ?_)
    have h := h z74 hz74
    refine lv_aload_n hx hb dX7_text_75 rfl (lv_at hl 1 rfl) ?_
    refine va_get (D := D) (ci := 7) (v := .ref (ad 40)) (C := RX7) (T := TX7) (N := 12) hx hb ht tl_X7 hown hK hP 38 (wx_38 q ad z74) rfl 8 (by decide) (ht _ tw_fl_X7_60) (fun _ h9 => h9) rfl dX7_text_76 ?_
    refine lv_iconst (v := (1 : Int32)) hx hb dX7_text_79 (by decide) ?_
    refine lv_iconst (v := (0 : Int32)) hx hb dX7_text_80 (by decide) ?_
    have hi81 := h.1
    have h := h.2
    have hb81 := h.1
    have h := h.2
    refine g_zast (Wd := WX q ad) (z := z74) hx hb hK hP (hD z74) hS 40 (wx_40 q ad z74) rfl (ax_40 q ad z74) hi81 hb81 dX7_text_81 (fun z81 H locs hz81 hP hS => ?_)
    have h := h z81 hz81
    refine lv_iload_n hx hb dX7_text_82 rfl (lv_at hl 0 rfl) ?_
    exact g_ri hG hx hb hr hlocks hE hP hS h dX7_text_83
  · have h := h.2 c35
    refine lv_bipush (v := (-10 : Int32)) hx hb dX7_text_38 (by decide) ?_
    refine lv_aload_n hx hb dX7_text_40 rfl (lv_at hl 1 rfl) ?_
    refine va_get (D := D) (ci := 7) (v := .ref (ad 24)) (C := RX7) (T := TX7) (N := 12) hx hb ht tl_X7 hown hK hP 38 (wx_38 q ad z28) rfl 2 (by decide) (ht _ tw_fl_X7_22) (fun _ h9 => h9) rfl dX7_text_41 ?_
    refine va_get (D := D) (ci := 5) (v := .int (z28.1 24 3)) (C := RX5) (T := TX5) (N := 9) hx hb ht tl_X5 hown hK hP 24 (wx_24 q ad z28) rfl 3 (by decide) (ht _ tw_fl_X7_89) (fun _ h9 => h9) rfl dX7_text_44 ?_
    refine lv_isub hx hb dX7_text_47 ?_
    exact g_ri hG hx hb hr hlocks hE hP hS h dX7_text_48
def pX7_fault (z : MX) (post : Int32 → MX → Prop) : Prop :=
  post (z.1 38 10) z
set_option maxHeartbeats 4000000 in
set_option maxRecDepth 100000 in
theorem kX7_fault (l : Launch) (D : va_G) (q : Nat → ClassId) (ad : Nat → Nat) (A : Nat → Prop) (hD : ∀ z, va_D A (WX q ad z)) (z : MX) (post : Int32 → MX → Prop) (h : pX7_fault  z post) : Met l yX7_fault (cW yX7_fault cX7_fault 1 (some .int)) ({ frames := 0, cells := 0, slots := 0, locals := 0 } : Room) (va_Pc [.ref (ad 38)] ((gB D vwCl (WX q ad) (xE D q ad A)) z)) (va_Qi post (gB D vwCl (WX q ad) (xE D q ad A)) A) 0 0 A := by
  refine Met.ofW (cc := cX7_fault) (maxL := 1) (ret := (some .int)) (by decide) rfl ?_
  intro p e s m args below meth c s₁ B hml hv
  obtain ⟨hargs, hP, hE⟩ := hv
  have hx := B.exec
  have hb := B.bytes
  have hr := B.returns
  have hts := atoms_spec (ws := (cW yX7_fault cX7_fault 1 (some .int))) B.pre
  have ht : ∀ w ∈ tG, w.before args s = true := fun w h => hts w (List.mem_cons_of_mem _ h)
  have hown : s.vm.findClass RX7 = some m.cls := findClass_of_methodNamed B.named
  have hlocks := B.notSynchronized
  have hK := hE.1
  have hG := xE_G D q ad A
  have S : CallFix p m c cX7_fault 1 s args tG RX7 := ⟨hx, hb, hml, hown, ht⟩
  have hS : va_S A s.heap s.heap [] := va_S.rf
  refine g_entry (vs := [.ref (ad 38)]) hargs (Nat.le_of_ble_eq_true rfl) (fun ls hl => ?_)
  have hl : lv_has ls 1 [(0, .ref (ad 38))] := hl
  unfold pX7_fault at h
  refine lv_aload_n hx hb dX7_fault_0 rfl (lv_at hl 0 rfl) ?_
  refine va_get (D := D) (ci := 7) (v := .int (z.1 38 10)) (C := RX7) (T := TX7) (N := 12) hx hb ht tl_X7 hown hK hP 38 (wx_38 q ad z) rfl 10 (by decide) (ht _ tw_fl_X7_86) (fun _ h9 => h9) rfl dX7_fault_1 ?_
  exact g_ri hG hx hb hr hlocks hE hP hS h dX7_fault_4
def pX7_rule (z : MX) (x1 : Int32) (post : Int32 → MX → Prop) : Prop :=
  ((((x1).toInt < 0 ∨ 4 < (x1).toInt) →
    post (-1 : Int32) z) ∧
  (x1 = (0 : Int32) →
      post (z.1 (4 * 0) 0) z) ∧
  (x1 = (1 : Int32) →
      post (z.1 (4 * 0) 3) z) ∧
  (x1 = (2 : Int32) →
      post (z.1 (4 * 0) 2) z) ∧
  (x1 = (3 : Int32) →
      post (z.1 (4 * 0) 1) z) ∧
  (x1 = (4 : Int32) →
      pX0_omenBits 0 z (fun (r72 : Int32) (z72 : MX) =>
      post r72 z72)))
set_option maxHeartbeats 4000000 in
set_option maxRecDepth 100000 in
theorem kX7_rule (l : Launch) (D : va_G) (q : Nat → ClassId) (ad : Nat → Nat) (A : Nat → Prop) (hD : ∀ z, va_D A (WX q ad z)) (z : MX) (x1 : Int32) (post : Int32 → MX → Prop) (h : pX7_rule  z x1 post) : Met l yX7_rule (cW yX7_rule cX7_rule 2 (some .int)) ({ frames := 1, cells := 0, slots := 0, locals := 22 } : Room) (va_Pc [.ref (ad 38), .int x1] ((gB D vwCl (WX q ad) (xE D q ad A)) z)) (va_Qi post (gB D vwCl (WX q ad) (xE D q ad A)) A) 0 0 A := by
  refine Met.ofW (cc := cX7_rule) (maxL := 2) (ret := (some .int)) (by decide) rfl ?_
  intro p e s m args below meth c s₁ B hml hv
  obtain ⟨hargs, hP, hE⟩ := hv
  have hx := B.exec
  have hb := B.bytes
  have hr := B.returns
  have hts := atoms_spec (ws := (cW yX7_rule cX7_rule 2 (some .int))) B.pre
  have ht : ∀ w ∈ tG, w.before args s = true := fun w h => hts w (List.mem_cons_of_mem _ h)
  have hown : s.vm.findClass RX7 = some m.cls := findClass_of_methodNamed B.named
  have hlocks := B.notSynchronized
  have hK := hE.1
  have hG := xE_G D q ad A
  have S : CallFix p m c cX7_rule 2 s args tG RX7 := ⟨hx, hb, hml, hown, ht⟩
  have hS : va_S A s.heap s.heap [] := va_S.rf
  refine g_entry (vs := [.ref (ad 38), .int x1]) hargs (Nat.le_of_ble_eq_true rfl) (fun ls hl => ?_)
  have hl : lv_has ls 2 [(0, .ref (ad 38)), (1, .int x1)] := hl
  unfold pX7_rule at h
  refine lv_iload_n hx hb dX7_rule_0 rfl (lv_at hl 1 rfl) ?_
  rcases g_sw (x := x1) 4 4 rfl with c1 | ⟨k1, hk1, c1⟩
  · refine lv_tableOut (tgt := 76) hx hb dX7_rule_1 c1 (by decide) ?_
    have h := h.1 c1
    refine lv_iconst (v := (-1 : Int32)) hx hb dX7_rule_76 (by decide) ?_
    exact g_ri hG hx hb hr hlocks hE hP hS h dX7_rule_77
  · match k1, hk1, c1 with
    | 0, _, c1 =>
      have h := h.2.1 (g_eq c1 rfl)
      refine lv_tableIn (off := 35) (tgt := 36) hx hb dX7_rule_1 (by rw [c1]; decide) (by rw [c1]; decide) (by rw [c1]; rfl) (by decide) ?_
      refine lv_aload_n hx hb dX7_rule_36 rfl (lv_at hl 0 rfl) ?_
      refine va_get (D := D) (ci := 7) (v := .ref (ad (4 * 0))) (C := RX7) (T := TX7) (N := 12) hx hb ht tl_X7 hown hK hP 38 (wx_38 q ad z) rfl 0 (by decide) (ht _ tw_fl_X7_10) (fun _ h9 => h9) rfl dX7_rule_37 ?_
      refine va_get (D := D) (ci := 0) (v := .int (z.1 (4 * 0) 0)) (C := RX0) (T := TX0) (N := 7) hx hb ht tl_X0 hown hK hP (4 * 0) (wxl q ad z (by decide)) rfl 0 (by decide) (ht _ tw_fl_X7_97) (fun _ h9 => h9) rfl dX7_rule_40 ?_
      exact g_ri hG hx hb hr hlocks hE hP hS h dX7_rule_43
    | 1, _, c1 =>
      have h := h.2.2.1 (g_eq c1 rfl)
      refine lv_tableIn (off := 43) (tgt := 44) hx hb dX7_rule_1 (by rw [c1]; decide) (by rw [c1]; decide) (by rw [c1]; rfl) (by decide) ?_
      refine lv_aload_n hx hb dX7_rule_44 rfl (lv_at hl 0 rfl) ?_
      refine va_get (D := D) (ci := 7) (v := .ref (ad (4 * 0))) (C := RX7) (T := TX7) (N := 12) hx hb ht tl_X7 hown hK hP 38 (wx_38 q ad z) rfl 0 (by decide) (ht _ tw_fl_X7_10) (fun _ h9 => h9) rfl dX7_rule_45 ?_
      refine va_get (D := D) (ci := 0) (v := .int (z.1 (4 * 0) 3)) (C := RX0) (T := TX0) (N := 7) hx hb ht tl_X0 hown hK hP (4 * 0) (wxl q ad z (by decide)) rfl 3 (by decide) (ht _ tw_fl_X7_100) (fun _ h9 => h9) rfl dX7_rule_48 ?_
      exact g_ri hG hx hb hr hlocks hE hP hS h dX7_rule_51
    | 2, _, c1 =>
      have h := h.2.2.2.1 (g_eq c1 rfl)
      refine lv_tableIn (off := 51) (tgt := 52) hx hb dX7_rule_1 (by rw [c1]; decide) (by rw [c1]; decide) (by rw [c1]; rfl) (by decide) ?_
      refine lv_aload_n hx hb dX7_rule_52 rfl (lv_at hl 0 rfl) ?_
      refine va_get (D := D) (ci := 7) (v := .ref (ad (4 * 0))) (C := RX7) (T := TX7) (N := 12) hx hb ht tl_X7 hown hK hP 38 (wx_38 q ad z) rfl 0 (by decide) (ht _ tw_fl_X7_10) (fun _ h9 => h9) rfl dX7_rule_53 ?_
      refine va_get (D := D) (ci := 0) (v := .int (z.1 (4 * 0) 2)) (C := RX0) (T := TX0) (N := 7) hx hb ht tl_X0 hown hK hP (4 * 0) (wxl q ad z (by decide)) rfl 2 (by decide) (ht _ tw_fl_X7_103) (fun _ h9 => h9) rfl dX7_rule_56 ?_
      exact g_ri hG hx hb hr hlocks hE hP hS h dX7_rule_59
    | 3, _, c1 =>
      have h := h.2.2.2.2.1 (g_eq c1 rfl)
      refine lv_tableIn (off := 59) (tgt := 60) hx hb dX7_rule_1 (by rw [c1]; decide) (by rw [c1]; decide) (by rw [c1]; rfl) (by decide) ?_
      refine lv_aload_n hx hb dX7_rule_60 rfl (lv_at hl 0 rfl) ?_
      refine va_get (D := D) (ci := 7) (v := .ref (ad (4 * 0))) (C := RX7) (T := TX7) (N := 12) hx hb ht tl_X7 hown hK hP 38 (wx_38 q ad z) rfl 0 (by decide) (ht _ tw_fl_X7_10) (fun _ h9 => h9) rfl dX7_rule_61 ?_
      refine va_get (D := D) (ci := 0) (v := .int (z.1 (4 * 0) 1)) (C := RX0) (T := TX0) (N := 7) hx hb ht tl_X0 hown hK hP (4 * 0) (wxl q ad z (by decide)) rfl 1 (by decide) (ht _ tw_fl_X7_106) (fun _ h9 => h9) rfl dX7_rule_64 ?_
      exact g_ri hG hx hb hr hlocks hE hP hS h dX7_rule_67
    | 4, _, c1 =>
      have h := h.2.2.2.2.2 (g_eq c1 rfl)
      refine lv_tableIn (off := 67) (tgt := 68) hx hb dX7_rule_1 (by rw [c1]; decide) (by rw [c1]; decide) (by rw [c1]; rfl) (by decide) ?_
      refine lv_aload_n hx hb dX7_rule_68 rfl (lv_at hl 0 rfl) ?_
      refine va_get (D := D) (ci := 7) (v := .ref (ad (4 * 0))) (C := RX7) (T := TX7) (N := 12) hx hb ht tl_X7 hown hK hP 38 (wx_38 q ad z) rfl 0 (by decide) (ht _ tw_fl_X7_10) (fun _ h9 => h9) rfl dX7_rule_69 ?_
      refine g_cVi (Wd := WX q ad) (z := z) (As := []) (rest := []) hG S (kX0_omenBits l D q ad A hD 0 (by decide) z _ h) (cwV 0 ht (cW_V (fun _ h => h) tw_co_X0_omenBits tw_ml_X7_109 tw_im_X0_omenBits tw_se_X0_omenBits tw_in_X0) rfl rfl rfl (by decide +kernel) ⟨by decide, by decide⟩) (va_recv hK hP (ci := 0) (q0 := (4 * 0)) rfl (wxl q ad z (by decide))) hE hP hS rfl hl.1 rfl (Nat.le_of_ble_eq_true rfl) dX7_rule_72 ⟨Nat.zero_le _, Nat.zero_le _⟩ (fun r72 z72 H locs h hP hS => ?_)
      exact g_ri hG hx hb hr hlocks hE hP hS h dX7_rule_75
    | k + 5, hk, _ => exact absurd hk (by omega)
def pX7_block (z : MX) (x1 : Int32) (x2 : Int32) (post : Int32 → MX → Prop) : Prop :=
  pX0_isBlock 0 z x1 (fun (r5 : Int32) (z5 : MX) =>
  ((¬ r5 = 0 →
    ((((x2).toInt < 0 ∨ 2 < (x2).toInt) →
      post (-1 : Int32) z5) ∧
    (x2 = (0 : Int32) →
        vp_in x1 8 ∧
        post (z5.1 (4 * 0 + 1) (Int32.toNatClampNeg x1)) z5) ∧
    (x2 = (1 : Int32) →
        pX0_isGuarded 0 z5 x1 (fun (r55 : Int32) (z55 : MX) =>
        ((r55 = 0 →
          post (0 : Int32) z55) ∧
        (¬ r55 = 0 →
          post (1 : Int32) z55)))) ∧
    (x2 = (2 : Int32) →
        pX0_lockedWith 0 z5 x1 (fun (r72 : Int32) (z72 : MX) =>
        post r72 z72)))) ∧
  (r5 = 0 →
    post (-1 : Int32) z5)))
set_option maxHeartbeats 4000000 in
set_option maxRecDepth 100000 in
theorem kX7_block (l : Launch) (D : va_G) (q : Nat → ClassId) (ad : Nat → Nat) (A : Nat → Prop) (hD : ∀ z, va_D A (WX q ad z)) (z : MX) (x1 : Int32) (x2 : Int32) (post : Int32 → MX → Prop) (h : pX7_block  z x1 x2 post) : Met l yX7_block (cW yX7_block cX7_block 3 (some .int)) ({ frames := 1, cells := 0, slots := 0, locals := 23 } : Room) (va_Pc [.ref (ad 38), .int x1, .int x2] ((gB D vwCl (WX q ad) (xE D q ad A)) z)) (va_Qi post (gB D vwCl (WX q ad) (xE D q ad A)) A) 0 0 A := by
  refine Met.ofW (cc := cX7_block) (maxL := 3) (ret := (some .int)) (by decide) rfl ?_
  intro p e s m args below meth c s₁ B hml hv
  obtain ⟨hargs, hP, hE⟩ := hv
  have hx := B.exec
  have hb := B.bytes
  have hr := B.returns
  have hts := atoms_spec (ws := (cW yX7_block cX7_block 3 (some .int))) B.pre
  have ht : ∀ w ∈ tG, w.before args s = true := fun w h => hts w (List.mem_cons_of_mem _ h)
  have hown : s.vm.findClass RX7 = some m.cls := findClass_of_methodNamed B.named
  have hlocks := B.notSynchronized
  have hK := hE.1
  have hG := xE_G D q ad A
  have S : CallFix p m c cX7_block 3 s args tG RX7 := ⟨hx, hb, hml, hown, ht⟩
  have hS : va_S A s.heap s.heap [] := va_S.rf
  refine g_entry (vs := [.ref (ad 38), .int x1, .int x2]) hargs (Nat.le_of_ble_eq_true rfl) (fun ls hl => ?_)
  have hl : lv_has ls 3 [(0, .ref (ad 38)), (1, .int x1), (2, .int x2)] := hl
  unfold pX7_block at h
  refine lv_aload_n hx hb dX7_block_0 rfl (lv_at hl 0 rfl) ?_
  refine va_get (D := D) (ci := 7) (v := .ref (ad (4 * 0))) (C := RX7) (T := TX7) (N := 12) hx hb ht tl_X7 hown hK hP 38 (wx_38 q ad z) rfl 0 (by decide) (ht _ tw_fl_X7_10) (fun _ h9 => h9) rfl dX7_block_1 ?_
  refine lv_iload_n hx hb dX7_block_4 rfl (lv_at hl 1 rfl) ?_
  refine g_cVi (Wd := WX q ad) (z := z) (As := [.int x1]) (rest := []) hG S (kX0_isBlock l D q ad A hD 0 (by decide) z x1 _ h) (cwV 1 ht (cW_V (fun _ h => h) tw_co_X0_isBlock tw_ml_X7_113 tw_im_X0_isBlock tw_se_X0_isBlock tw_in_X0) rfl rfl rfl (by decide +kernel) ⟨by decide, by decide⟩) (va_recv hK hP (ci := 0) (q0 := (4 * 0)) rfl (wxl q ad z (by decide))) hE hP hS rfl hl.1 rfl (Nat.le_of_ble_eq_true rfl) dX7_block_5 ⟨Nat.zero_le _, Nat.zero_le _⟩ (fun r5 z5 H locs h hP hS => ?_)
  refine lv_if_ne (tgt := 13) hx hb dX7_block_8 (by decide) (fun c8 => ?_) (fun c8 => ?_)
  · have h := h.1 c8
    refine lv_iload_n hx hb dX7_block_13 rfl (lv_at hl 2 rfl) ?_
    rcases g_sw (x := x2) 2 2 rfl with c14 | ⟨k14, hk14, c14⟩
    · refine lv_tableOut (tgt := 76) hx hb dX7_block_14 c14 (by decide) ?_
      have h := h.1 c14
      refine lv_iconst (v := (-1 : Int32)) hx hb dX7_block_76 (by decide) ?_
      exact g_ri hG hx hb hr hlocks hE hP hS h dX7_block_77
    · match k14, hk14, c14 with
      | 0, _, c14 =>
        have h := h.2.1 (g_eq c14 rfl)
        refine lv_tableIn (off := 26) (tgt := 40) hx hb dX7_block_14 (by rw [c14]; decide) (by rw [c14]; decide) (by rw [c14]; rfl) (by decide) ?_
        refine lv_aload_n hx hb dX7_block_40 rfl (lv_at hl 0 rfl) ?_
        refine va_get (D := D) (ci := 7) (v := .ref (ad (4 * 0))) (C := RX7) (T := TX7) (N := 12) hx hb ht tl_X7 hown hK hP 38 (wx_38 q ad z5) rfl 0 (by decide) (ht _ tw_fl_X7_10) (fun _ h9 => h9) rfl dX7_block_41 ?_
        refine va_get (D := D) (ci := 0) (v := .ref (ad (4 * 0 + 1))) (C := RX0) (T := TX0) (N := 7) hx hb ht tl_X0 hown hK hP (4 * 0) (wxl q ad z5 (by decide)) rfl 4 (by decide) (ht _ tw_fl_X7_116) (fun _ h9 => h9) rfl dX7_block_44 ?_
        refine lv_iload_n hx hb dX7_block_47 rfl (lv_at hl 1 rfl) ?_
        have hi48 := h.1
        have h := h.2
        refine va_iald hx hb hK hP (4 * 0 + 1) 0 (wxl1 q ad z5 (by decide)) rfl hi48 dX7_block_48 ?_
        exact g_ri hG hx hb hr hlocks hE hP hS h dX7_block_49
      | 1, _, c14 =>
        have h := h.2.2.1 (g_eq c14 rfl)
        refine lv_tableIn (off := 36) (tgt := 50) hx hb dX7_block_14 (by rw [c14]; decide) (by rw [c14]; decide) (by rw [c14]; rfl) (by decide) ?_
        refine lv_aload_n hx hb dX7_block_50 rfl (lv_at hl 0 rfl) ?_
        refine va_get (D := D) (ci := 7) (v := .ref (ad (4 * 0))) (C := RX7) (T := TX7) (N := 12) hx hb ht tl_X7 hown hK hP 38 (wx_38 q ad z5) rfl 0 (by decide) (ht _ tw_fl_X7_10) (fun _ h9 => h9) rfl dX7_block_51 ?_
        refine lv_iload_n hx hb dX7_block_54 rfl (lv_at hl 1 rfl) ?_
        refine g_cVi (Wd := WX q ad) (z := z5) (As := [.int x1]) (rest := []) hG S (kX0_isGuarded l D q ad A hD 0 (by decide) z5 x1 _ h) (cwV 1 ht (cW_V (fun _ h => h) tw_co_X0_isGuarded tw_ml_X7_120 tw_im_X0_isGuarded tw_se_X0_isGuarded tw_in_X0) rfl rfl rfl (by decide +kernel) ⟨by decide, by decide⟩) (va_recv hK hP (ci := 0) (q0 := (4 * 0)) rfl (wxl q ad z5 (by decide))) hE hP hS rfl hl.1 rfl (Nat.le_of_ble_eq_true rfl) dX7_block_55 ⟨Nat.zero_le _, Nat.zero_le _⟩ (fun r55 z55 H locs h hP hS => ?_)
        refine lv_if_eq (tgt := 65) hx hb dX7_block_58 (by decide) (fun c58 => ?_) (fun c58 => ?_)
        · have h := h.1 c58
          refine lv_iconst (v := (0 : Int32)) hx hb dX7_block_65 (by decide) ?_
          exact g_ri hG hx hb hr hlocks hE hP hS h dX7_block_66
        · have h := h.2 c58
          refine lv_iconst (v := (1 : Int32)) hx hb dX7_block_61 (by decide) ?_
          refine lv_goto (tgt := 66) hx hb dX7_block_62 (by decide) ?_
          exact g_ri hG hx hb hr hlocks hE hP hS h dX7_block_66
      | 2, _, c14 =>
        have h := h.2.2.2 (g_eq c14 rfl)
        refine lv_tableIn (off := 53) (tgt := 67) hx hb dX7_block_14 (by rw [c14]; decide) (by rw [c14]; decide) (by rw [c14]; rfl) (by decide) ?_
        refine lv_aload_n hx hb dX7_block_67 rfl (lv_at hl 0 rfl) ?_
        refine va_get (D := D) (ci := 7) (v := .ref (ad (4 * 0))) (C := RX7) (T := TX7) (N := 12) hx hb ht tl_X7 hown hK hP 38 (wx_38 q ad z5) rfl 0 (by decide) (ht _ tw_fl_X7_10) (fun _ h9 => h9) rfl dX7_block_68 ?_
        refine lv_iload_n hx hb dX7_block_71 rfl (lv_at hl 1 rfl) ?_
        refine g_cVi (Wd := WX q ad) (z := z5) (As := [.int x1]) (rest := []) hG S (kX0_lockedWith l D q ad A hD 0 (by decide) z5 x1 _ h) (cwV 1 ht (cW_V (fun _ h => h) tw_co_X0_lockedWith tw_ml_X7_123 tw_im_X0_lockedWith tw_se_X0_lockedWith tw_in_X0) rfl rfl rfl (by decide +kernel) ⟨by decide, by decide⟩) (va_recv hK hP (ci := 0) (q0 := (4 * 0)) rfl (wxl q ad z5 (by decide))) hE hP hS rfl hl.1 rfl (Nat.le_of_ble_eq_true rfl) dX7_block_72 ⟨Nat.zero_le _, Nat.zero_le _⟩ (fun r72 z72 H locs h hP hS => ?_)
        exact g_ri hG hx hb hr hlocks hE hP hS h dX7_block_75
      | k + 3, hk, _ => exact absurd hk (by omega)
  · have h := h.2 c8
    refine lv_iconst (v := (-1 : Int32)) hx hb dX7_block_11 (by decide) ?_
    exact g_ri hG hx hb hr hlocks hE hP hS h dX7_block_12
def pX7_lock (z : MX) (x1 : Int32) (x2 : Int32) (post : Int32 → MX → Prop) : Prop :=
  ((x1 < 0 →
    post (-1 : Int32) z) ∧
  (¬ x1 < 0 →
    (((z.1 (4 * 0) 2) ≤ x1 →
      post (-1 : Int32) z) ∧
    (¬ (z.1 (4 * 0) 2) ≤ x1 →
      ((x2 < 0 →
        post (-1 : Int32) z) ∧
      (¬ x2 < 0 →
        ((x2 ≤ (1 : Int32) →
          vp_in (((2 : Int32) * x1) + x2) 8 ∧
          post (z.1 (4 * 0 + 2) (Int32.toNatClampNeg (((2 : Int32) * x1) + x2))) z) ∧
        (¬ x2 ≤ (1 : Int32) →
          post (-1 : Int32) z))))))))
set_option maxHeartbeats 4000000 in
set_option maxRecDepth 100000 in
theorem kX7_lock (l : Launch) (D : va_G) (q : Nat → ClassId) (ad : Nat → Nat) (A : Nat → Prop) (hD : ∀ z, va_D A (WX q ad z)) (z : MX) (x1 : Int32) (x2 : Int32) (post : Int32 → MX → Prop) (h : pX7_lock  z x1 x2 post) : Met l yX7_lock (cW yX7_lock cX7_lock 3 (some .int)) ({ frames := 0, cells := 0, slots := 0, locals := 0 } : Room) (va_Pc [.ref (ad 38), .int x1, .int x2] ((gB D vwCl (WX q ad) (xE D q ad A)) z)) (va_Qi post (gB D vwCl (WX q ad) (xE D q ad A)) A) 0 0 A := by
  refine Met.ofW (cc := cX7_lock) (maxL := 3) (ret := (some .int)) (by decide) rfl ?_
  intro p e s m args below meth c s₁ B hml hv
  obtain ⟨hargs, hP, hE⟩ := hv
  have hx := B.exec
  have hb := B.bytes
  have hr := B.returns
  have hts := atoms_spec (ws := (cW yX7_lock cX7_lock 3 (some .int))) B.pre
  have ht : ∀ w ∈ tG, w.before args s = true := fun w h => hts w (List.mem_cons_of_mem _ h)
  have hown : s.vm.findClass RX7 = some m.cls := findClass_of_methodNamed B.named
  have hlocks := B.notSynchronized
  have hK := hE.1
  have hG := xE_G D q ad A
  have S : CallFix p m c cX7_lock 3 s args tG RX7 := ⟨hx, hb, hml, hown, ht⟩
  have hS : va_S A s.heap s.heap [] := va_S.rf
  refine g_entry (vs := [.ref (ad 38), .int x1, .int x2]) hargs (Nat.le_of_ble_eq_true rfl) (fun ls hl => ?_)
  have hl : lv_has ls 3 [(0, .ref (ad 38)), (1, .int x1), (2, .int x2)] := hl
  unfold pX7_lock at h
  refine lv_iload_n hx hb dX7_lock_0 rfl (lv_at hl 1 rfl) ?_
  refine lv_if_lt (tgt := 24) hx hb dX7_lock_1 (by decide) (fun c1 => ?_) (fun c1 => ?_)
  · have h := h.1 c1
    refine lv_iconst (v := (-1 : Int32)) hx hb dX7_lock_24 (by decide) ?_
    exact g_ri hG hx hb hr hlocks hE hP hS h dX7_lock_25
  · have h := h.2 c1
    refine lv_iload_n hx hb dX7_lock_4 rfl (lv_at hl 1 rfl) ?_
    refine lv_aload_n hx hb dX7_lock_5 rfl (lv_at hl 0 rfl) ?_
    refine va_get (D := D) (ci := 7) (v := .ref (ad (4 * 0))) (C := RX7) (T := TX7) (N := 12) hx hb ht tl_X7 hown hK hP 38 (wx_38 q ad z) rfl 0 (by decide) (ht _ tw_fl_X7_10) (fun _ h9 => h9) rfl dX7_lock_6 ?_
    refine va_get (D := D) (ci := 0) (v := .int (z.1 (4 * 0) 2)) (C := RX0) (T := TX0) (N := 7) hx hb ht tl_X0 hown hK hP (4 * 0) (wxl q ad z (by decide)) rfl 2 (by decide) (ht _ tw_fl_X7_103) (fun _ h9 => h9) rfl dX7_lock_9 ?_
    refine lv_icmp_ge (tgt := 24) hx hb dX7_lock_12 (by decide) (fun c12 => ?_) (fun c12 => ?_)
    · have h := h.1 c12
      refine lv_iconst (v := (-1 : Int32)) hx hb dX7_lock_24 (by decide) ?_
      exact g_ri hG hx hb hr hlocks hE hP hS h dX7_lock_25
    · have h := h.2 c12
      refine lv_iload_n hx hb dX7_lock_15 rfl (lv_at hl 2 rfl) ?_
      refine lv_if_lt (tgt := 24) hx hb dX7_lock_16 (by decide) (fun c16 => ?_) (fun c16 => ?_)
      · have h := h.1 c16
        refine lv_iconst (v := (-1 : Int32)) hx hb dX7_lock_24 (by decide) ?_
        exact g_ri hG hx hb hr hlocks hE hP hS h dX7_lock_25
      · have h := h.2 c16
        refine lv_iload_n hx hb dX7_lock_19 rfl (lv_at hl 2 rfl) ?_
        refine lv_iconst (v := (1 : Int32)) hx hb dX7_lock_20 (by decide) ?_
        refine lv_icmp_le (tgt := 26) hx hb dX7_lock_21 (by decide) (fun c21 => ?_) (fun c21 => ?_)
        · have h := h.1 c21
          refine lv_aload_n hx hb dX7_lock_26 rfl (lv_at hl 0 rfl) ?_
          refine va_get (D := D) (ci := 7) (v := .ref (ad (4 * 0))) (C := RX7) (T := TX7) (N := 12) hx hb ht tl_X7 hown hK hP 38 (wx_38 q ad z) rfl 0 (by decide) (ht _ tw_fl_X7_10) (fun _ h9 => h9) rfl dX7_lock_27 ?_
          refine va_get (D := D) (ci := 0) (v := .ref (ad (4 * 0 + 2))) (C := RX0) (T := TX0) (N := 7) hx hb ht tl_X0 hown hK hP (4 * 0) (wxl q ad z (by decide)) rfl 5 (by decide) (ht _ tw_fl_X7_127) (fun _ h9 => h9) rfl dX7_lock_30 ?_
          refine lv_iconst (v := (2 : Int32)) hx hb dX7_lock_33 (by decide) ?_
          refine lv_iload_n hx hb dX7_lock_34 rfl (lv_at hl 1 rfl) ?_
          refine lv_imul hx hb dX7_lock_35 ?_
          refine lv_iload_n hx hb dX7_lock_36 rfl (lv_at hl 2 rfl) ?_
          refine lv_iadd hx hb dX7_lock_37 ?_
          have hi38 := h.1
          have h := h.2
          refine va_iald hx hb hK hP (4 * 0 + 2) 0 (wxl2 q ad z (by decide)) rfl hi38 dX7_lock_38 ?_
          exact g_ri hG hx hb hr hlocks hE hP hS h dX7_lock_39
        · have h := h.2 c21
          refine lv_iconst (v := (-1 : Int32)) hx hb dX7_lock_24 (by decide) ?_
          exact g_ri hG hx hb hr hlocks hE hP hS h dX7_lock_25
def pX7_train (z : MX) (x1 : Int32) (x2 : Int32) (post : Int32 → MX → Prop) : Prop :=
  pX0_isTrain 0 z x1 (fun (r5 : Int32) (z5 : MX) =>
  ((r5 = 0 →
    post (-1 : Int32) z5) ∧
  (¬ r5 = 0 →
    pX7_isFact z5 x2 (fun (r12 : Int32) (z12 : MX) =>
    ((¬ r12 = 0 →
      pX0_fact 0 z12 x1 x2 (fun (r26 : Int32) (z26 : MX) =>
      post r26 z26)) ∧
    (r12 = 0 →
      post (-1 : Int32) z12))))))
set_option maxHeartbeats 4000000 in
set_option maxRecDepth 100000 in
theorem kX7_train (l : Launch) (D : va_G) (q : Nat → ClassId) (ad : Nat → Nat) (A : Nat → Prop) (hD : ∀ z, va_D A (WX q ad z)) (z : MX) (x1 : Int32) (x2 : Int32) (post : Int32 → MX → Prop) (h : pX7_train  z x1 x2 post) : Met l yX7_train (cW yX7_train cX7_train 3 (some .int)) ({ frames := 1, cells := 0, slots := 0, locals := 22 } : Room) (va_Pc [.ref (ad 38), .int x1, .int x2] ((gB D vwCl (WX q ad) (xE D q ad A)) z)) (va_Qi post (gB D vwCl (WX q ad) (xE D q ad A)) A) 0 0 A := by
  refine Met.ofW (cc := cX7_train) (maxL := 3) (ret := (some .int)) (by decide) rfl ?_
  intro p e s m args below meth c s₁ B hml hv
  obtain ⟨hargs, hP, hE⟩ := hv
  have hx := B.exec
  have hb := B.bytes
  have hr := B.returns
  have hts := atoms_spec (ws := (cW yX7_train cX7_train 3 (some .int))) B.pre
  have ht : ∀ w ∈ tG, w.before args s = true := fun w h => hts w (List.mem_cons_of_mem _ h)
  have hown : s.vm.findClass RX7 = some m.cls := findClass_of_methodNamed B.named
  have hlocks := B.notSynchronized
  have hK := hE.1
  have hG := xE_G D q ad A
  have S : CallFix p m c cX7_train 3 s args tG RX7 := ⟨hx, hb, hml, hown, ht⟩
  have hS : va_S A s.heap s.heap [] := va_S.rf
  refine g_entry (vs := [.ref (ad 38), .int x1, .int x2]) hargs (Nat.le_of_ble_eq_true rfl) (fun ls hl => ?_)
  have hl : lv_has ls 3 [(0, .ref (ad 38)), (1, .int x1), (2, .int x2)] := hl
  unfold pX7_train at h
  refine lv_aload_n hx hb dX7_train_0 rfl (lv_at hl 0 rfl) ?_
  refine va_get (D := D) (ci := 7) (v := .ref (ad (4 * 0))) (C := RX7) (T := TX7) (N := 12) hx hb ht tl_X7 hown hK hP 38 (wx_38 q ad z) rfl 0 (by decide) (ht _ tw_fl_X7_10) (fun _ h9 => h9) rfl dX7_train_1 ?_
  refine lv_iload_n hx hb dX7_train_4 rfl (lv_at hl 1 rfl) ?_
  refine g_cVi (Wd := WX q ad) (z := z) (As := [.int x1]) (rest := []) hG S (kX0_isTrain l D q ad A hD 0 (by decide) z x1 _ h) (cwV 1 ht (cW_V (fun _ h => h) tw_co_X0_isTrain tw_ml_X7_130 tw_im_X0_isTrain tw_se_X0_isTrain tw_in_X0) rfl rfl rfl (by decide +kernel) ⟨by decide, by decide⟩) (va_recv hK hP (ci := 0) (q0 := (4 * 0)) rfl (wxl q ad z (by decide))) hE hP hS rfl hl.1 rfl (Nat.le_of_ble_eq_true rfl) dX7_train_5 ⟨Nat.zero_le _, Nat.zero_le _⟩ (fun r5 z5 H locs h hP hS => ?_)
  refine lv_if_eq (tgt := 18) hx hb dX7_train_8 (by decide) (fun c8 => ?_) (fun c8 => ?_)
  · have h := h.1 c8
    refine lv_iconst (v := (-1 : Int32)) hx hb dX7_train_18 (by decide) ?_
    exact g_ri hG hx hb hr hlocks hE hP hS h dX7_train_19
  · have h := h.2 c8
    refine lv_iload_n hx hb dX7_train_11 rfl (lv_at hl 2 rfl) ?_
    refine g_cSi (Wd := WX q ad) (z := z5) (As := [.int x2]) (rest := []) hG S (kX7_isFact l D q ad A hD z5 x2 _ h) (va_cwS 1 ht (cW_S (fun _ h => h) tw_co_X7_isFact tw_ml_X7_133 tw_st_X7_isFact tw_in_X7) rfl rfl rfl (by decide +kernel) ⟨by decide, by decide⟩) hE hP hS rfl hl.1 rfl (Nat.le_of_ble_eq_true rfl) dX7_train_12 ⟨Nat.zero_le _, Nat.zero_le _⟩ (fun r12 z12 H locs h hP hS => ?_)
    refine lv_if_ne (tgt := 20) hx hb dX7_train_15 (by decide) (fun c15 => ?_) (fun c15 => ?_)
    · have h := h.1 c15
      refine lv_aload_n hx hb dX7_train_20 rfl (lv_at hl 0 rfl) ?_
      refine va_get (D := D) (ci := 7) (v := .ref (ad (4 * 0))) (C := RX7) (T := TX7) (N := 12) hx hb ht tl_X7 hown hK hP 38 (wx_38 q ad z12) rfl 0 (by decide) (ht _ tw_fl_X7_10) (fun _ h9 => h9) rfl dX7_train_21 ?_
      refine lv_iload_n hx hb dX7_train_24 rfl (lv_at hl 1 rfl) ?_
      refine lv_iload_n hx hb dX7_train_25 rfl (lv_at hl 2 rfl) ?_
      refine g_cVi (Wd := WX q ad) (z := z12) (As := [.int x1, .int x2]) (rest := []) hG S (kX0_fact l D q ad A hD 0 (by decide) z12 x1 x2 _ h) (cwV 2 ht (cW_V (fun _ h => h) tw_co_X0_fact tw_ml_X7_136 tw_im_X0_fact tw_se_X0_fact tw_in_X0) rfl rfl rfl (by decide +kernel) ⟨by decide, by decide⟩) (va_recv hK hP (ci := 0) (q0 := (4 * 0)) rfl (wxl q ad z12 (by decide))) hE hP hS rfl hl.1 rfl (Nat.le_of_ble_eq_true rfl) dX7_train_26 ⟨Nat.zero_le _, Nat.zero_le _⟩ (fun r26 z26 H locs h hP hS => ?_)
      exact g_ri hG hx hb hr hlocks hE hP hS h dX7_train_29
    · have h := h.2 c15
      refine lv_iconst (v := (-1 : Int32)) hx hb dX7_train_18 (by decide) ?_
      exact g_ri hG hx hb hr hlocks hE hP hS h dX7_train_19
def pX7_waits (z : MX) (x1 : Int32) (x2 : Int32) (post : Int32 → MX → Prop) : Prop :=
  pX7_isFaith z x1 (fun (r1 : Int32) (z1 : MX) =>
  ((r1 = 0 →
    post (-1 : Int32) z1) ∧
  (¬ r1 = 0 →
    pX7_isOmen z1 x2 (fun (r8 : Int32) (z8 : MX) =>
    ((¬ r8 = 0 →
      pX7_minutesFor z8 x1 x2 (fun (r18 : Int32) (z18 : MX) =>
      post r18 z18)) ∧
    (r8 = 0 →
      post (-1 : Int32) z8))))))
set_option maxHeartbeats 4000000 in
set_option maxRecDepth 100000 in
theorem kX7_waits (l : Launch) (D : va_G) (q : Nat → ClassId) (ad : Nat → Nat) (A : Nat → Prop) (hD : ∀ z, va_D A (WX q ad z)) (z : MX) (x1 : Int32) (x2 : Int32) (post : Int32 → MX → Prop) (h : pX7_waits  z x1 x2 post) : Met l yX7_waits (cW yX7_waits cX7_waits 3 (some .int)) ({ frames := 1, cells := 0, slots := 0, locals := 21 } : Room) (va_Pc [.ref (ad 38), .int x1, .int x2] ((gB D vwCl (WX q ad) (xE D q ad A)) z)) (va_Qi post (gB D vwCl (WX q ad) (xE D q ad A)) A) 0 0 A := by
  refine Met.ofW (cc := cX7_waits) (maxL := 3) (ret := (some .int)) (by decide) rfl ?_
  intro p e s m args below meth c s₁ B hml hv
  obtain ⟨hargs, hP, hE⟩ := hv
  have hx := B.exec
  have hb := B.bytes
  have hr := B.returns
  have hts := atoms_spec (ws := (cW yX7_waits cX7_waits 3 (some .int))) B.pre
  have ht : ∀ w ∈ tG, w.before args s = true := fun w h => hts w (List.mem_cons_of_mem _ h)
  have hown : s.vm.findClass RX7 = some m.cls := findClass_of_methodNamed B.named
  have hlocks := B.notSynchronized
  have hK := hE.1
  have hG := xE_G D q ad A
  have S : CallFix p m c cX7_waits 3 s args tG RX7 := ⟨hx, hb, hml, hown, ht⟩
  have hS : va_S A s.heap s.heap [] := va_S.rf
  refine g_entry (vs := [.ref (ad 38), .int x1, .int x2]) hargs (Nat.le_of_ble_eq_true rfl) (fun ls hl => ?_)
  have hl : lv_has ls 3 [(0, .ref (ad 38)), (1, .int x1), (2, .int x2)] := hl
  unfold pX7_waits at h
  refine lv_iload_n hx hb dX7_waits_0 rfl (lv_at hl 1 rfl) ?_
  refine g_cSi (Wd := WX q ad) (z := z) (As := [.int x1]) (rest := []) hG S (kX7_isFaith l D q ad A hD z x1 _ h) (va_cwS 1 ht (cW_S (fun _ h => h) tw_co_X7_isFaith tw_ml_X7_140 tw_st_X7_isFaith tw_in_X7) rfl rfl rfl (by decide +kernel) ⟨by decide, by decide⟩) hE hP hS rfl hl.1 rfl (Nat.le_of_ble_eq_true rfl) dX7_waits_1 ⟨Nat.zero_le _, Nat.zero_le _⟩ (fun r1 z1 H locs h hP hS => ?_)
  refine lv_if_eq (tgt := 14) hx hb dX7_waits_4 (by decide) (fun c4 => ?_) (fun c4 => ?_)
  · have h := h.1 c4
    refine lv_iconst (v := (-1 : Int32)) hx hb dX7_waits_14 (by decide) ?_
    exact g_ri hG hx hb hr hlocks hE hP hS h dX7_waits_15
  · have h := h.2 c4
    refine lv_iload_n hx hb dX7_waits_7 rfl (lv_at hl 2 rfl) ?_
    refine g_cSi (Wd := WX q ad) (z := z1) (As := [.int x2]) (rest := []) hG S (kX7_isOmen l D q ad A hD z1 x2 _ h) (va_cwS 1 ht (cW_S (fun _ h => h) tw_co_X7_isOmen tw_ml_X7_143 tw_st_X7_isOmen tw_in_X7) rfl rfl rfl (by decide +kernel) ⟨by decide, by decide⟩) hE hP hS rfl hl.1 rfl (Nat.le_of_ble_eq_true rfl) dX7_waits_8 ⟨Nat.zero_le _, Nat.zero_le _⟩ (fun r8 z8 H locs h hP hS => ?_)
    refine lv_if_ne (tgt := 16) hx hb dX7_waits_11 (by decide) (fun c11 => ?_) (fun c11 => ?_)
    · have h := h.1 c11
      refine lv_iload_n hx hb dX7_waits_16 rfl (lv_at hl 1 rfl) ?_
      refine lv_iload_n hx hb dX7_waits_17 rfl (lv_at hl 2 rfl) ?_
      refine g_cSi (Wd := WX q ad) (z := z8) (As := [.int x1, .int x2]) (rest := []) hG S (kX7_minutesFor l D q ad A hD z8 x1 x2 _ h) (va_cwS 2 ht (cW_S (fun _ h => h) tw_co_X7_minutesFor tw_ml_X7_146 tw_st_X7_minutesFor tw_in_X7) rfl rfl rfl (by decide +kernel) ⟨by decide, by decide⟩) hE hP hS rfl hl.1 rfl (Nat.le_of_ble_eq_true rfl) dX7_waits_18 ⟨Nat.zero_le _, Nat.zero_le _⟩ (fun r18 z18 H locs h hP hS => ?_)
      exact g_ri hG hx hb hr hlocks hE hP hS h dX7_waits_21
    · have h := h.2 c11
      refine lv_iconst (v := (-1 : Int32)) hx hb dX7_waits_14 (by decide) ?_
      exact g_ri hG hx hb hr hlocks hE hP hS h dX7_waits_15
def pX7_hang (z : MX) (x1 : Int32) (x2 : Int32) (post : Int32 → MX → Prop) : Prop :=
  pX0_tryToHang 0 z x1 x2 (fun (r6 : Int32) (z6 : MX) =>
  post r6 z6)
set_option maxHeartbeats 4000000 in
set_option maxRecDepth 100000 in
theorem kX7_hang (l : Launch) (D : va_G) (q : Nat → ClassId) (ad : Nat → Nat) (A : Nat → Prop) (hD : ∀ z, va_D A (WX q ad z)) (z : MX) (x1 : Int32) (x2 : Int32) (post : Int32 → MX → Prop) (h : pX7_hang  z x1 x2 post) : Met l yX7_hang (cW yX7_hang cX7_hang 3 (some .int)) ({ frames := 2, cells := 0, slots := 0, locals := 46 } : Room) (va_Pc [.ref (ad 38), .int x1, .int x2] ((gB D vwCl (WX q ad) (xE D q ad A)) z)) (va_Qi post (gB D vwCl (WX q ad) (xE D q ad A)) A) 0 0 A := by
  refine Met.ofW (cc := cX7_hang) (maxL := 3) (ret := (some .int)) (by decide) rfl ?_
  intro p e s m args below meth c s₁ B hml hv
  obtain ⟨hargs, hP, hE⟩ := hv
  have hx := B.exec
  have hb := B.bytes
  have hr := B.returns
  have hts := atoms_spec (ws := (cW yX7_hang cX7_hang 3 (some .int))) B.pre
  have ht : ∀ w ∈ tG, w.before args s = true := fun w h => hts w (List.mem_cons_of_mem _ h)
  have hown : s.vm.findClass RX7 = some m.cls := findClass_of_methodNamed B.named
  have hlocks := B.notSynchronized
  have hK := hE.1
  have hG := xE_G D q ad A
  have S : CallFix p m c cX7_hang 3 s args tG RX7 := ⟨hx, hb, hml, hown, ht⟩
  have hS : va_S A s.heap s.heap [] := va_S.rf
  refine g_entry (vs := [.ref (ad 38), .int x1, .int x2]) hargs (Nat.le_of_ble_eq_true rfl) (fun ls hl => ?_)
  have hl : lv_has ls 3 [(0, .ref (ad 38)), (1, .int x1), (2, .int x2)] := hl
  unfold pX7_hang at h
  refine lv_aload_n hx hb dX7_hang_0 rfl (lv_at hl 0 rfl) ?_
  refine va_get (D := D) (ci := 7) (v := .ref (ad (4 * 0))) (C := RX7) (T := TX7) (N := 12) hx hb ht tl_X7 hown hK hP 38 (wx_38 q ad z) rfl 0 (by decide) (ht _ tw_fl_X7_10) (fun _ h9 => h9) rfl dX7_hang_1 ?_
  refine lv_iload_n hx hb dX7_hang_4 rfl (lv_at hl 1 rfl) ?_
  refine lv_iload_n hx hb dX7_hang_5 rfl (lv_at hl 2 rfl) ?_
  refine g_cVi (Wd := WX q ad) (z := z) (As := [.int x1, .int x2]) (rest := []) hG S (kX0_tryToHang l D q ad A hD 0 (by decide) z x1 x2 _ h) (cwV 2 ht (cW_V (fun _ h => h) tw_co_X0_tryToHang tw_ml_X7_149 tw_im_X0_tryToHang tw_se_X0_tryToHang tw_in_X0) rfl rfl rfl (by decide +kernel) ⟨by decide, by decide⟩) (va_recv hK hP (ci := 0) (q0 := (4 * 0)) rfl (wxl q ad z (by decide))) hE hP hS rfl hl.1 rfl (Nat.le_of_ble_eq_true rfl) dX7_hang_6 ⟨Nat.zero_le _, Nat.zero_le _⟩ (fun r6 z6 H locs h hP hS => ?_)
  exact g_ri hG hx hb hr hlocks hE hP hS h dX7_hang_9
def pX7_guard_b65 (post : Int32 → MX → Prop) (z : MX) (x3 : Int32) (y1 : Int32) : Prop :=
    ∀ z65 : MX, z65 = mw z (4 * 0) 1 y1 →
    post x3 z65
def pX7_guard_b29 (post : Int32 → MX → Prop) (z : MX) (x1 : Int32) (x2 : Int32) (y0 : Int32) : Prop :=
    ((x2 = 0 →
      pX7_guard_b65  post z y0 ((z.1 (4 * 0) 1) &&& (((1 : Int32) <<< (x1 &&& 31)) ^^^ (-1 : Int32)))) ∧
    (¬ x2 = 0 →
      pX7_guard_b65  post z y0 ((z.1 (4 * 0) 1) ||| ((1 : Int32) <<< (x1 &&& 31)))))
def pX7_guard (z : MX) (x1 : Int32) (x2 : Int32) (post : Int32 → MX → Prop) : Prop :=
  pX0_isBlock 0 z x1 (fun (r5 : Int32) (z5 : MX) =>
  ((¬ r5 = 0 →
    pX0_isGuarded 0 z5 x1 (fun (r18 : Int32) (z18 : MX) =>
    ((r18 = 0 →
      pX7_guard_b29  post z18 x1 x2 (0 : Int32)) ∧
    (¬ r18 = 0 →
      pX7_guard_b29  post z18 x1 x2 (1 : Int32))))) ∧
  (r5 = 0 →
    post (-1 : Int32) z5)))
set_option maxHeartbeats 4000000 in
set_option maxRecDepth 100000 in
theorem kX7_guard (l : Launch) (D : va_G) (q : Nat → ClassId) (ad : Nat → Nat) (A : Nat → Prop) (hD : ∀ z, va_D A (WX q ad z)) (z : MX) (x1 : Int32) (x2 : Int32) (post : Int32 → MX → Prop) (h : pX7_guard  z x1 x2 post) : Met l yX7_guard (cW yX7_guard cX7_guard 4 (some .int)) ({ frames := 1, cells := 0, slots := 0, locals := 21 } : Room) (va_Pc [.ref (ad 38), .int x1, .int x2] ((gB D vwCl (WX q ad) (xE D q ad A)) z)) (va_Qi post (gB D vwCl (WX q ad) (xE D q ad A)) A) 0 0 A := by
  refine Met.ofW (cc := cX7_guard) (maxL := 4) (ret := (some .int)) (by decide) rfl ?_
  intro p e s m args below meth c s₁ B hml hv
  obtain ⟨hargs, hP, hE⟩ := hv
  have hx := B.exec
  have hb := B.bytes
  have hr := B.returns
  have hts := atoms_spec (ws := (cW yX7_guard cX7_guard 4 (some .int))) B.pre
  have ht : ∀ w ∈ tG, w.before args s = true := fun w h => hts w (List.mem_cons_of_mem _ h)
  have hown : s.vm.findClass RX7 = some m.cls := findClass_of_methodNamed B.named
  have hlocks := B.notSynchronized
  have hK := hE.1
  have hG := xE_G D q ad A
  have S : CallFix p m c cX7_guard 4 s args tG RX7 := ⟨hx, hb, hml, hown, ht⟩
  have hS : va_S A s.heap s.heap [] := va_S.rf
  have B65 : ∀ (z : MX) (x3 : Int32) (y1 : Int32) (H : Heap) (locs : List Loc) (ls : Array Slot), pX7_guard_b65  post z x3 y1 → va_P D vwCl (WX q ad z) H → va_S A s.heap H locs → lv_has ls 4 [(3, .int x3)] → W p l e (headSpec (cW yX7_guard cX7_guard 4 (some .int)) ({ frames := 1, cells := 0, slots := 0, locals := 21 } : Room)).room s m args below meth c H locs 0 0 (MQ below (va_Qi post (gB D vwCl (WX q ad) (xE D q ad A)) A) args s 0 0 A) (F0 m 65 ls [.int y1, .ref (ad (4 * 0))]) := by
    intro z x3 y1 H locs ls h hP hS hl
    unfold pX7_guard_b65 at h
    refine g_put (D := D) (Wd := WX q ad) (z := z) (ci := 0) (v := .int y1) (ty := .int) (C := RX0) (T := TX0) (N := 7) hx hb ht tl_X0 tyX0 tyX0_ok nmX0 hown hK hP (hD z) hS (4 * 0) (wxl q ad z (by decide)) rfl 1 (by decide) (ht _ tw_fl_X7_106) (fun _ h9 => h9) rfl rfl rfl rfl (Nat.le_of_ble_eq_true rfl) ((pxl_1 q ad z (by decide)) y1) dX7_guard_65 (fun z65 H locs hz65 hP hS => ?_)
    have h := h z65 hz65
    refine lv_iload_n hx hb dX7_guard_68 rfl (lv_at hl 0 rfl) ?_
    exact g_ri hG hx hb hr hlocks hE hP hS h dX7_guard_69
  have B29 : ∀ (z : MX) (x1 : Int32) (x2 : Int32) (y0 : Int32) (H : Heap) (locs : List Loc) (ls : Array Slot), pX7_guard_b29  post z x1 x2 y0 → va_P D vwCl (WX q ad z) H → va_S A s.heap H locs → lv_has ls 4 [(0, .ref (ad 38)), (1, .int x1), (2, .int x2)] → W p l e (headSpec (cW yX7_guard cX7_guard 4 (some .int)) ({ frames := 1, cells := 0, slots := 0, locals := 21 } : Room)).room s m args below meth c H locs 0 0 (MQ below (va_Qi post (gB D vwCl (WX q ad) (xE D q ad A)) A) args s 0 0 A) (F0 m 29 ls [.int y0]) := by
    intro z x1 x2 y0 H locs ls h hP hS hl
    unfold pX7_guard_b29 at h
    refine lv_istore_n (lv' := [(3, .int y0), (0, .ref (ad 38)), (1, .int x1), (2, .int x2)]) hx hb dX7_guard_29 rfl hl (by decide) rfl (fun ls hl => ?_)
    refine lv_aload_n hx hb dX7_guard_30 rfl (lv_at hl 1 rfl) ?_
    refine va_get (D := D) (ci := 7) (v := .ref (ad (4 * 0))) (C := RX7) (T := TX7) (N := 12) hx hb ht tl_X7 hown hK hP 38 (wx_38 q ad z) rfl 0 (by decide) (ht _ tw_fl_X7_10) (fun _ h9 => h9) rfl dX7_guard_31 ?_
    refine lv_iload_n hx hb dX7_guard_34 rfl (lv_at hl 3 rfl) ?_
    refine lv_if_eq (tgt := 52) hx hb dX7_guard_35 (by decide) (fun c35 => ?_) (fun c35 => ?_)
    · have h := h.1 c35
      refine lv_aload_n hx hb dX7_guard_52 rfl (lv_at hl 1 rfl) ?_
      refine va_get (D := D) (ci := 7) (v := .ref (ad (4 * 0))) (C := RX7) (T := TX7) (N := 12) hx hb ht tl_X7 hown hK hP 38 (wx_38 q ad z) rfl 0 (by decide) (ht _ tw_fl_X7_10) (fun _ h9 => h9) rfl dX7_guard_53 ?_
      refine va_get (D := D) (ci := 0) (v := .int (z.1 (4 * 0) 1)) (C := RX0) (T := TX0) (N := 7) hx hb ht tl_X0 hown hK hP (4 * 0) (wxl q ad z (by decide)) rfl 1 (by decide) (ht _ tw_fl_X7_106) (fun _ h9 => h9) rfl dX7_guard_56 ?_
      refine lv_iconst (v := (1 : Int32)) hx hb dX7_guard_59 (by decide) ?_
      refine lv_iload_n hx hb dX7_guard_60 rfl (lv_at hl 2 rfl) ?_
      refine lv_ishl hx hb dX7_guard_61 ?_
      refine lv_iconst (v := (-1 : Int32)) hx hb dX7_guard_62 (by decide) ?_
      refine lv_ixor hx hb dX7_guard_63 ?_
      refine lv_iand hx hb dX7_guard_64 ?_
      exact B65 z y0 ((z.1 (4 * 0) 1) &&& (((1 : Int32) <<< (x1 &&& 31)) ^^^ (-1 : Int32))) _ _ _ h hP hS (lv_sub hl [0] rfl)
    · have h := h.2 c35
      refine lv_aload_n hx hb dX7_guard_38 rfl (lv_at hl 1 rfl) ?_
      refine va_get (D := D) (ci := 7) (v := .ref (ad (4 * 0))) (C := RX7) (T := TX7) (N := 12) hx hb ht tl_X7 hown hK hP 38 (wx_38 q ad z) rfl 0 (by decide) (ht _ tw_fl_X7_10) (fun _ h9 => h9) rfl dX7_guard_39 ?_
      refine va_get (D := D) (ci := 0) (v := .int (z.1 (4 * 0) 1)) (C := RX0) (T := TX0) (N := 7) hx hb ht tl_X0 hown hK hP (4 * 0) (wxl q ad z (by decide)) rfl 1 (by decide) (ht _ tw_fl_X7_106) (fun _ h9 => h9) rfl dX7_guard_42 ?_
      refine lv_iconst (v := (1 : Int32)) hx hb dX7_guard_45 (by decide) ?_
      refine lv_iload_n hx hb dX7_guard_46 rfl (lv_at hl 2 rfl) ?_
      refine lv_ishl hx hb dX7_guard_47 ?_
      refine lv_ior hx hb dX7_guard_48 ?_
      refine lv_goto (tgt := 65) hx hb dX7_guard_49 (by decide) ?_
      exact B65 z y0 ((z.1 (4 * 0) 1) ||| ((1 : Int32) <<< (x1 &&& 31))) _ _ _ h hP hS (lv_sub hl [0] rfl)
  refine g_entry (vs := [.ref (ad 38), .int x1, .int x2]) hargs (Nat.le_of_ble_eq_true rfl) (fun ls hl => ?_)
  have hl : lv_has ls 4 [(0, .ref (ad 38)), (1, .int x1), (2, .int x2)] := hl
  unfold pX7_guard at h
  refine lv_aload_n hx hb dX7_guard_0 rfl (lv_at hl 0 rfl) ?_
  refine va_get (D := D) (ci := 7) (v := .ref (ad (4 * 0))) (C := RX7) (T := TX7) (N := 12) hx hb ht tl_X7 hown hK hP 38 (wx_38 q ad z) rfl 0 (by decide) (ht _ tw_fl_X7_10) (fun _ h9 => h9) rfl dX7_guard_1 ?_
  refine lv_iload_n hx hb dX7_guard_4 rfl (lv_at hl 1 rfl) ?_
  refine g_cVi (Wd := WX q ad) (z := z) (As := [.int x1]) (rest := []) hG S (kX0_isBlock l D q ad A hD 0 (by decide) z x1 _ h) (cwV 1 ht (cW_V (fun _ h => h) tw_co_X0_isBlock tw_ml_X7_113 tw_im_X0_isBlock tw_se_X0_isBlock tw_in_X0) rfl rfl rfl (by decide +kernel) ⟨by decide, by decide⟩) (va_recv hK hP (ci := 0) (q0 := (4 * 0)) rfl (wxl q ad z (by decide))) hE hP hS rfl hl.1 rfl (Nat.le_of_ble_eq_true rfl) dX7_guard_5 ⟨Nat.zero_le _, Nat.zero_le _⟩ (fun r5 z5 H locs h hP hS => ?_)
  refine lv_if_ne (tgt := 13) hx hb dX7_guard_8 (by decide) (fun c8 => ?_) (fun c8 => ?_)
  · have h := h.1 c8
    refine lv_aload_n hx hb dX7_guard_13 rfl (lv_at hl 0 rfl) ?_
    refine va_get (D := D) (ci := 7) (v := .ref (ad (4 * 0))) (C := RX7) (T := TX7) (N := 12) hx hb ht tl_X7 hown hK hP 38 (wx_38 q ad z5) rfl 0 (by decide) (ht _ tw_fl_X7_10) (fun _ h9 => h9) rfl dX7_guard_14 ?_
    refine lv_iload_n hx hb dX7_guard_17 rfl (lv_at hl 1 rfl) ?_
    refine g_cVi (Wd := WX q ad) (z := z5) (As := [.int x1]) (rest := []) hG S (kX0_isGuarded l D q ad A hD 0 (by decide) z5 x1 _ h) (cwV 1 ht (cW_V (fun _ h => h) tw_co_X0_isGuarded tw_ml_X7_120 tw_im_X0_isGuarded tw_se_X0_isGuarded tw_in_X0) rfl rfl rfl (by decide +kernel) ⟨by decide, by decide⟩) (va_recv hK hP (ci := 0) (q0 := (4 * 0)) rfl (wxl q ad z5 (by decide))) hE hP hS rfl hl.1 rfl (Nat.le_of_ble_eq_true rfl) dX7_guard_18 ⟨Nat.zero_le _, Nat.zero_le _⟩ (fun r18 z18 H locs h hP hS => ?_)
    refine lv_if_eq (tgt := 28) hx hb dX7_guard_21 (by decide) (fun c21 => ?_) (fun c21 => ?_)
    · have h := h.1 c21
      refine lv_iconst (v := (0 : Int32)) hx hb dX7_guard_28 (by decide) ?_
      exact B29 z18 x1 x2 (0 : Int32) _ _ _ h hP hS (lv_sub hl [0, 1, 2] rfl)
    · have h := h.2 c21
      refine lv_iconst (v := (1 : Int32)) hx hb dX7_guard_24 (by decide) ?_
      refine lv_goto (tgt := 29) hx hb dX7_guard_25 (by decide) ?_
      exact B29 z18 x1 x2 (1 : Int32) _ _ _ h hP hS (lv_sub hl [0, 1, 2] rfl)
  · have h := h.2 c8
    refine lv_iconst (v := (-1 : Int32)) hx hb dX7_guard_11 (by decide) ?_
    exact g_ri hG hx hb hr hlocks hE hP hS h dX7_guard_12
def pX7_set (z : MX) (x1 : Int32) (x2 : Int32) (x3 : Int32) (post : Int32 → MX → Prop) : Prop :=
  pX0_isTrain 0 z x1 (fun (r5 : Int32) (z5 : MX) =>
  ((r5 = 0 →
    post (-1 : Int32) z5) ∧
  (¬ r5 = 0 →
    pX7_isFact z5 x2 (fun (r12 : Int32) (z12 : MX) =>
    ((r12 = 0 →
      post (-1 : Int32) z12) ∧
    (¬ r12 = 0 →
      ((x3 < 0 →
        post (-1 : Int32) z12) ∧
      (¬ x3 < 0 →
        vp_in x2 4 ∧
        ((x3 < (xFact (Int32.toNatClampNeg x2)) →
          pX0_fact 0 z12 x1 x2 (fun (r39 : Int32) (z39 : MX) =>
          pX0_putFact 0 z39 x1 x2 x3 (fun (z51 : MX) =>
          post r39 z51))) ∧
        (¬ x3 < (xFact (Int32.toNatClampNeg x2)) →
          post (-1 : Int32) z12))))))))))
set_option maxHeartbeats 4000000 in
set_option maxRecDepth 100000 in
theorem kX7_set (l : Launch) (D : va_G) (q : Nat → ClassId) (ad : Nat → Nat) (A : Nat → Prop) (hD : ∀ z, va_D A (WX q ad z)) (z : MX) (x1 : Int32) (x2 : Int32) (x3 : Int32) (post : Int32 → MX → Prop) (h : pX7_set  z x1 x2 x3 post) : Met l yX7_set (cW yX7_set cX7_set 5 (some .int)) ({ frames := 1, cells := 0, slots := 0, locals := 23 } : Room) (va_Pc [.ref (ad 38), .int x1, .int x2, .int x3] ((gB D vwCl (WX q ad) (xE D q ad A)) z)) (va_Qi post (gB D vwCl (WX q ad) (xE D q ad A)) A) 0 0 A := by
  refine Met.ofW (cc := cX7_set) (maxL := 5) (ret := (some .int)) (by decide) rfl ?_
  intro p e s m args below meth c s₁ B hml hv
  obtain ⟨hargs, hP, hE⟩ := hv
  have hx := B.exec
  have hb := B.bytes
  have hr := B.returns
  have hts := atoms_spec (ws := (cW yX7_set cX7_set 5 (some .int))) B.pre
  have ht : ∀ w ∈ tG, w.before args s = true := fun w h => hts w (List.mem_cons_of_mem _ h)
  have hown : s.vm.findClass RX7 = some m.cls := findClass_of_methodNamed B.named
  have hlocks := B.notSynchronized
  have hK := hE.1
  have hG := xE_G D q ad A
  have S : CallFix p m c cX7_set 5 s args tG RX7 := ⟨hx, hb, hml, hown, ht⟩
  have hS : va_S A s.heap s.heap [] := va_S.rf
  obtain ⟨tF, hU1, hU2⟩ := hE.2.2.1
  refine g_entry (vs := [.ref (ad 38), .int x1, .int x2, .int x3]) hargs (Nat.le_of_ble_eq_true rfl) (fun ls hl => ?_)
  have hl : lv_has ls 5 [(0, .ref (ad 38)), (1, .int x1), (2, .int x2), (3, .int x3)] := hl
  unfold pX7_set at h
  refine lv_aload_n hx hb dX7_set_0 rfl (lv_at hl 0 rfl) ?_
  refine va_get (D := D) (ci := 7) (v := .ref (ad (4 * 0))) (C := RX7) (T := TX7) (N := 12) hx hb ht tl_X7 hown hK hP 38 (wx_38 q ad z) rfl 0 (by decide) (ht _ tw_fl_X7_10) (fun _ h9 => h9) rfl dX7_set_1 ?_
  refine lv_iload_n hx hb dX7_set_4 rfl (lv_at hl 1 rfl) ?_
  refine g_cVi (Wd := WX q ad) (z := z) (As := [.int x1]) (rest := []) hG S (kX0_isTrain l D q ad A hD 0 (by decide) z x1 _ h) (cwV 1 ht (cW_V (fun _ h => h) tw_co_X0_isTrain tw_ml_X7_130 tw_im_X0_isTrain tw_se_X0_isTrain tw_in_X0) rfl rfl rfl (by decide +kernel) ⟨by decide, by decide⟩) (va_recv hK hP (ci := 0) (q0 := (4 * 0)) rfl (wxl q ad z (by decide))) hE hP hS rfl hl.1 rfl (Nat.le_of_ble_eq_true rfl) dX7_set_5 ⟨Nat.zero_le _, Nat.zero_le _⟩ (fun r5 z5 H locs h hP hS => ?_)
  refine lv_if_eq (tgt := 31) hx hb dX7_set_8 (by decide) (fun c8 => ?_) (fun c8 => ?_)
  · have h := h.1 c8
    refine lv_iconst (v := (-1 : Int32)) hx hb dX7_set_31 (by decide) ?_
    exact g_ri hG hx hb hr hlocks hE hP hS h dX7_set_32
  · have h := h.2 c8
    refine lv_iload_n hx hb dX7_set_11 rfl (lv_at hl 2 rfl) ?_
    refine g_cSi (Wd := WX q ad) (z := z5) (As := [.int x2]) (rest := []) hG S (kX7_isFact l D q ad A hD z5 x2 _ h) (va_cwS 1 ht (cW_S (fun _ h => h) tw_co_X7_isFact tw_ml_X7_133 tw_st_X7_isFact tw_in_X7) rfl rfl rfl (by decide +kernel) ⟨by decide, by decide⟩) hE hP hS rfl hl.1 rfl (Nat.le_of_ble_eq_true rfl) dX7_set_12 ⟨Nat.zero_le _, Nat.zero_le _⟩ (fun r12 z12 H locs h hP hS => ?_)
    refine lv_if_eq (tgt := 31) hx hb dX7_set_15 (by decide) (fun c15 => ?_) (fun c15 => ?_)
    · have h := h.1 c15
      refine lv_iconst (v := (-1 : Int32)) hx hb dX7_set_31 (by decide) ?_
      exact g_ri hG hx hb hr hlocks hE hP hS h dX7_set_32
    · have h := h.2 c15
      refine lv_iload_n hx hb dX7_set_18 rfl (lv_at hl 3 rfl) ?_
      refine lv_if_lt (tgt := 31) hx hb dX7_set_19 (by decide) (fun c19 => ?_) (fun c19 => ?_)
      · have h := h.1 c19
        refine lv_iconst (v := (-1 : Int32)) hx hb dX7_set_31 (by decide) ?_
        exact g_ri hG hx hb hr hlocks hE hP hS h dX7_set_32
      · have h := h.2 c19
        refine lv_iload_n hx hb dX7_set_22 rfl (lv_at hl 3 rfl) ?_
        refine va_gets hx hb hU1 hS hown (ht _ tw_fl_X7_152) (fun _ h9 => h9) dX7_set_23 ?_
        refine lv_iload_n hx hb dX7_set_26 rfl (lv_at hl 2 rfl) ?_
        have hi27 := h.1
        have h := h.2
        refine va_ti hx hb hU2 hS hi27 rfl dX7_set_27 ?_
        refine lv_icmp_lt (tgt := 33) hx hb dX7_set_28 (by decide) (fun c28 => ?_) (fun c28 => ?_)
        · have h := h.1 c28
          refine lv_aload_n hx hb dX7_set_33 rfl (lv_at hl 0 rfl) ?_
          refine va_get (D := D) (ci := 7) (v := .ref (ad (4 * 0))) (C := RX7) (T := TX7) (N := 12) hx hb ht tl_X7 hown hK hP 38 (wx_38 q ad z12) rfl 0 (by decide) (ht _ tw_fl_X7_10) (fun _ h9 => h9) rfl dX7_set_34 ?_
          refine lv_iload_n hx hb dX7_set_37 rfl (lv_at hl 1 rfl) ?_
          refine lv_iload_n hx hb dX7_set_38 rfl (lv_at hl 2 rfl) ?_
          refine g_cVi (Wd := WX q ad) (z := z12) (As := [.int x1, .int x2]) (rest := []) hG S (kX0_fact l D q ad A hD 0 (by decide) z12 x1 x2 _ h) (cwV 2 ht (cW_V (fun _ h => h) tw_co_X0_fact tw_ml_X7_136 tw_im_X0_fact tw_se_X0_fact tw_in_X0) rfl rfl rfl (by decide +kernel) ⟨by decide, by decide⟩) (va_recv hK hP (ci := 0) (q0 := (4 * 0)) rfl (wxl q ad z12 (by decide))) hE hP hS rfl hl.1 rfl (Nat.le_of_ble_eq_true rfl) dX7_set_39 ⟨Nat.zero_le _, Nat.zero_le _⟩ (fun r39 z39 H locs h hP hS => ?_)
          refine lv_istore (lv' := [(4, .int r39), (0, .ref (ad 38)), (1, .int x1), (2, .int x2), (3, .int x3)]) hx hb dX7_set_42 hl (by decide) rfl (fun ls hl => ?_)
          refine lv_aload_n hx hb dX7_set_44 rfl (lv_at hl 1 rfl) ?_
          refine va_get (D := D) (ci := 7) (v := .ref (ad (4 * 0))) (C := RX7) (T := TX7) (N := 12) hx hb ht tl_X7 hown hK hP 38 (wx_38 q ad z39) rfl 0 (by decide) (ht _ tw_fl_X7_10) (fun _ h9 => h9) rfl dX7_set_45 ?_
          refine lv_iload_n hx hb dX7_set_48 rfl (lv_at hl 2 rfl) ?_
          refine lv_iload_n hx hb dX7_set_49 rfl (lv_at hl 3 rfl) ?_
          refine lv_iload_n hx hb dX7_set_50 rfl (lv_at hl 4 rfl) ?_
          refine g_cVv (Wd := WX q ad) (z := z39) (As := [.int x1, .int x2, .int x3]) (rest := []) hG S (kX0_putFact l D q ad A hD 0 (by decide) z39 x1 x2 x3 _ h) (cwV 3 ht (cW_V (fun _ h => h) tw_co_X0_putFact tw_ml_X7_155 tw_im_X0_putFact tw_se_X0_putFact tw_in_X0) rfl rfl rfl (by decide +kernel) ⟨by decide, by decide⟩) (va_recv hK hP (ci := 0) (q0 := (4 * 0)) rfl (wxl q ad z39 (by decide))) hE hP hS rfl hl.1 rfl (Nat.le_of_ble_eq_true rfl) dX7_set_51 ⟨Nat.zero_le _, Nat.zero_le _⟩ (fun z51 H locs h hP hS => ?_)
          refine lv_iload hx hb dX7_set_54 (lv_at hl 0 rfl) ?_
          exact g_ri hG hx hb hr hlocks hE hP hS h dX7_set_56
        · have h := h.2 c28
          refine lv_iconst (v := (-1 : Int32)) hx hb dX7_set_31 (by decide) ?_
          exact g_ri hG hx hb hr hlocks hE hP hS h dX7_set_32
def pX7_home (z : MX) (x1 : Int32) (post : Int32 → MX → Prop) : Prop :=
  pX0_isTrain 0 z x1 (fun (r5 : Int32) (z5 : MX) =>
  ((¬ r5 = 0 →
    pX2_play 0 z5 (fun (z21 : MX) =>
    vp_in x1 4 ∧
    post (z21.1 29 (Int32.toNatClampNeg x1)) z21)) ∧
  (r5 = 0 →
    post (-1 : Int32) z5)))
set_option maxHeartbeats 4000000 in
set_option maxRecDepth 100000 in
theorem kX7_home (l : Launch) (D : va_G) (q : Nat → ClassId) (ad : Nat → Nat) (A : Nat → Prop) (hD : ∀ z, va_D A (WX q ad z)) (z : MX) (x1 : Int32) (post : Int32 → MX → Prop) (h : pX7_home  z x1 post) : Met l yX7_home (cW yX7_home cX7_home 2 (some .int)) ({ frames := 5, cells := 0, slots := 0, locals := 121 } : Room) (va_Pc [.ref (ad 38), .int x1] ((gB D vwCl (WX q ad) (xE D q ad A)) z)) (va_Qi post (gB D vwCl (WX q ad) (xE D q ad A)) A) 0 0 A := by
  refine Met.ofW (cc := cX7_home) (maxL := 2) (ret := (some .int)) (by decide) rfl ?_
  intro p e s m args below meth c s₁ B hml hv
  obtain ⟨hargs, hP, hE⟩ := hv
  have hx := B.exec
  have hb := B.bytes
  have hr := B.returns
  have hts := atoms_spec (ws := (cW yX7_home cX7_home 2 (some .int))) B.pre
  have ht : ∀ w ∈ tG, w.before args s = true := fun w h => hts w (List.mem_cons_of_mem _ h)
  have hown : s.vm.findClass RX7 = some m.cls := findClass_of_methodNamed B.named
  have hlocks := B.notSynchronized
  have hK := hE.1
  have hG := xE_G D q ad A
  have S : CallFix p m c cX7_home 2 s args tG RX7 := ⟨hx, hb, hml, hown, ht⟩
  have hS : va_S A s.heap s.heap [] := va_S.rf
  refine g_entry (vs := [.ref (ad 38), .int x1]) hargs (Nat.le_of_ble_eq_true rfl) (fun ls hl => ?_)
  have hl : lv_has ls 2 [(0, .ref (ad 38)), (1, .int x1)] := hl
  unfold pX7_home at h
  refine lv_aload_n hx hb dX7_home_0 rfl (lv_at hl 0 rfl) ?_
  refine va_get (D := D) (ci := 7) (v := .ref (ad (4 * 0))) (C := RX7) (T := TX7) (N := 12) hx hb ht tl_X7 hown hK hP 38 (wx_38 q ad z) rfl 0 (by decide) (ht _ tw_fl_X7_10) (fun _ h9 => h9) rfl dX7_home_1 ?_
  refine lv_iload_n hx hb dX7_home_4 rfl (lv_at hl 1 rfl) ?_
  refine g_cVi (Wd := WX q ad) (z := z) (As := [.int x1]) (rest := []) hG S (kX0_isTrain l D q ad A hD 0 (by decide) z x1 _ h) (cwV 1 ht (cW_V (fun _ h => h) tw_co_X0_isTrain tw_ml_X7_130 tw_im_X0_isTrain tw_se_X0_isTrain tw_in_X0) rfl rfl rfl (by decide +kernel) ⟨by decide, by decide⟩) (va_recv hK hP (ci := 0) (q0 := (4 * 0)) rfl (wxl q ad z (by decide))) hE hP hS rfl hl.1 rfl (Nat.le_of_ble_eq_true rfl) dX7_home_5 ⟨Nat.zero_le _, Nat.zero_le _⟩ (fun r5 z5 H locs h hP hS => ?_)
  refine lv_if_ne (tgt := 13) hx hb dX7_home_8 (by decide) (fun c8 => ?_) (fun c8 => ?_)
  · have h := h.1 c8
    refine lv_aload_n hx hb dX7_home_13 rfl (lv_at hl 0 rfl) ?_
    refine va_get (D := D) (ci := 7) (v := .ref (ad 26)) (C := RX7) (T := TX7) (N := 12) hx hb ht tl_X7 hown hK hP 38 (wx_38 q ad z5) rfl 3 (by decide) (ht _ tw_fl_X7_29) (fun _ h9 => h9) rfl dX7_home_14 ?_
    refine lv_aload_n hx hb dX7_home_17 rfl (lv_at hl 0 rfl) ?_
    refine va_get (D := D) (ci := 7) (v := .ref (ad (4 * 0))) (C := RX7) (T := TX7) (N := 12) hx hb ht tl_X7 hown hK hP 38 (wx_38 q ad z5) rfl 0 (by decide) (ht _ tw_fl_X7_10) (fun _ h9 => h9) rfl dX7_home_18 ?_
    refine g_cVv (Wd := WX q ad) (z := z5) (As := [.ref (ad (4 * 0))]) (rest := []) hG S (kX2_play l D q ad A hD 0 (by decide) z5 _ h) (cwV 1 ht (cW_V (fun _ h => h) tw_co_X2_play tw_ml_X7_159 tw_im_X2_play tw_se_X2_play tw_in_X2) rfl rfl rfl (by decide +kernel) ⟨by decide, by decide⟩) (va_recv hK hP (ci := 2) (q0 := 26) rfl (wx_26 q ad z5)) hE hP hS rfl hl.1 rfl (Nat.le_of_ble_eq_true rfl) dX7_home_21 ⟨Nat.zero_le _, Nat.zero_le _⟩ (fun z21 H locs h hP hS => ?_)
    refine lv_aload_n hx hb dX7_home_24 rfl (lv_at hl 0 rfl) ?_
    refine va_get (D := D) (ci := 7) (v := .ref (ad 26)) (C := RX7) (T := TX7) (N := 12) hx hb ht tl_X7 hown hK hP 38 (wx_38 q ad z21) rfl 3 (by decide) (ht _ tw_fl_X7_29) (fun _ h9 => h9) rfl dX7_home_25 ?_
    refine va_get (D := D) (ci := 2) (v := .ref (ad 29)) (C := RX2) (T := TX2) (N := 13) hx hb ht tl_X2 hown hK hP 26 (wx_26 q ad z21) rfl 2 (by decide) (ht _ tw_fl_X7_162) (fun _ h9 => h9) rfl dX7_home_28 ?_
    refine lv_iload_n hx hb dX7_home_31 rfl (lv_at hl 1 rfl) ?_
    have hi32 := h.1
    have h := h.2
    refine va_iald hx hb hK hP 29 0 (wx_29 q ad z21) rfl hi32 dX7_home_32 ?_
    exact g_ri hG hx hb hr hlocks hE hP hS h dX7_home_33
  · have h := h.2 c8
    refine lv_iconst (v := (-1 : Int32)) hx hb dX7_home_11 (by decide) ?_
    exact g_ri hG hx hb hr hlocks hE hP hS h dX7_home_12
def pX7_at (z : MX) (x1 : Int32) (x2 : Int32) (post : Int32 → MX → Prop) : Prop :=
  pX0_isTrain 0 z x1 (fun (r5 : Int32) (z5 : MX) =>
  ((r5 = 0 →
    post (-1 : Int32) z5) ∧
  (¬ r5 = 0 →
    pX7_isMinute z5 x2 (fun (r12 : Int32) (z12 : MX) =>
    ((¬ r12 = 0 →
      pX2_play 0 z12 (fun (z28 : MX) =>
      pX2_spotBehind z28 x1 x2 (fun (r37 : Int32) (z37 : MX) =>
      post r37 z37))) ∧
    (r12 = 0 →
      post (-1 : Int32) z12))))))
set_option maxHeartbeats 4000000 in
set_option maxRecDepth 100000 in
theorem kX7_at (l : Launch) (D : va_G) (q : Nat → ClassId) (ad : Nat → Nat) (A : Nat → Prop) (hD : ∀ z, va_D A (WX q ad z)) (z : MX) (x1 : Int32) (x2 : Int32) (post : Int32 → MX → Prop) (h : pX7_at  z x1 x2 post) : Met l yX7_at (cW yX7_at cX7_at 3 (some .int)) ({ frames := 5, cells := 0, slots := 0, locals := 121 } : Room) (va_Pc [.ref (ad 38), .int x1, .int x2] ((gB D vwCl (WX q ad) (xE D q ad A)) z)) (va_Qi post (gB D vwCl (WX q ad) (xE D q ad A)) A) 0 0 A := by
  refine Met.ofW (cc := cX7_at) (maxL := 3) (ret := (some .int)) (by decide) rfl ?_
  intro p e s m args below meth c s₁ B hml hv
  obtain ⟨hargs, hP, hE⟩ := hv
  have hx := B.exec
  have hb := B.bytes
  have hr := B.returns
  have hts := atoms_spec (ws := (cW yX7_at cX7_at 3 (some .int))) B.pre
  have ht : ∀ w ∈ tG, w.before args s = true := fun w h => hts w (List.mem_cons_of_mem _ h)
  have hown : s.vm.findClass RX7 = some m.cls := findClass_of_methodNamed B.named
  have hlocks := B.notSynchronized
  have hK := hE.1
  have hG := xE_G D q ad A
  have S : CallFix p m c cX7_at 3 s args tG RX7 := ⟨hx, hb, hml, hown, ht⟩
  have hS : va_S A s.heap s.heap [] := va_S.rf
  refine g_entry (vs := [.ref (ad 38), .int x1, .int x2]) hargs (Nat.le_of_ble_eq_true rfl) (fun ls hl => ?_)
  have hl : lv_has ls 3 [(0, .ref (ad 38)), (1, .int x1), (2, .int x2)] := hl
  unfold pX7_at at h
  refine lv_aload_n hx hb dX7_at_0 rfl (lv_at hl 0 rfl) ?_
  refine va_get (D := D) (ci := 7) (v := .ref (ad (4 * 0))) (C := RX7) (T := TX7) (N := 12) hx hb ht tl_X7 hown hK hP 38 (wx_38 q ad z) rfl 0 (by decide) (ht _ tw_fl_X7_10) (fun _ h9 => h9) rfl dX7_at_1 ?_
  refine lv_iload_n hx hb dX7_at_4 rfl (lv_at hl 1 rfl) ?_
  refine g_cVi (Wd := WX q ad) (z := z) (As := [.int x1]) (rest := []) hG S (kX0_isTrain l D q ad A hD 0 (by decide) z x1 _ h) (cwV 1 ht (cW_V (fun _ h => h) tw_co_X0_isTrain tw_ml_X7_130 tw_im_X0_isTrain tw_se_X0_isTrain tw_in_X0) rfl rfl rfl (by decide +kernel) ⟨by decide, by decide⟩) (va_recv hK hP (ci := 0) (q0 := (4 * 0)) rfl (wxl q ad z (by decide))) hE hP hS rfl hl.1 rfl (Nat.le_of_ble_eq_true rfl) dX7_at_5 ⟨Nat.zero_le _, Nat.zero_le _⟩ (fun r5 z5 H locs h hP hS => ?_)
  refine lv_if_eq (tgt := 18) hx hb dX7_at_8 (by decide) (fun c8 => ?_) (fun c8 => ?_)
  · have h := h.1 c8
    refine lv_iconst (v := (-1 : Int32)) hx hb dX7_at_18 (by decide) ?_
    exact g_ri hG hx hb hr hlocks hE hP hS h dX7_at_19
  · have h := h.2 c8
    refine lv_iload_n hx hb dX7_at_11 rfl (lv_at hl 2 rfl) ?_
    refine g_cSi (Wd := WX q ad) (z := z5) (As := [.int x2]) (rest := []) hG S (kX7_isMinute l D q ad A hD z5 x2 _ h) (va_cwS 1 ht (cW_S (fun _ h => h) tw_co_X7_isMinute tw_ml_X7_165 tw_st_X7_isMinute tw_in_X7) rfl rfl rfl (by decide +kernel) ⟨by decide, by decide⟩) hE hP hS rfl hl.1 rfl (Nat.le_of_ble_eq_true rfl) dX7_at_12 ⟨Nat.zero_le _, Nat.zero_le _⟩ (fun r12 z12 H locs h hP hS => ?_)
    refine lv_if_ne (tgt := 20) hx hb dX7_at_15 (by decide) (fun c15 => ?_) (fun c15 => ?_)
    · have h := h.1 c15
      refine lv_aload_n hx hb dX7_at_20 rfl (lv_at hl 0 rfl) ?_
      refine va_get (D := D) (ci := 7) (v := .ref (ad 26)) (C := RX7) (T := TX7) (N := 12) hx hb ht tl_X7 hown hK hP 38 (wx_38 q ad z12) rfl 3 (by decide) (ht _ tw_fl_X7_29) (fun _ h9 => h9) rfl dX7_at_21 ?_
      refine lv_aload_n hx hb dX7_at_24 rfl (lv_at hl 0 rfl) ?_
      refine va_get (D := D) (ci := 7) (v := .ref (ad (4 * 0))) (C := RX7) (T := TX7) (N := 12) hx hb ht tl_X7 hown hK hP 38 (wx_38 q ad z12) rfl 0 (by decide) (ht _ tw_fl_X7_10) (fun _ h9 => h9) rfl dX7_at_25 ?_
      refine g_cVv (Wd := WX q ad) (z := z12) (As := [.ref (ad (4 * 0))]) (rest := []) hG S (kX2_play l D q ad A hD 0 (by decide) z12 _ h) (cwV 1 ht (cW_V (fun _ h => h) tw_co_X2_play tw_ml_X7_159 tw_im_X2_play tw_se_X2_play tw_in_X2) rfl rfl rfl (by decide +kernel) ⟨by decide, by decide⟩) (va_recv hK hP (ci := 2) (q0 := 26) rfl (wx_26 q ad z12)) hE hP hS rfl hl.1 rfl (Nat.le_of_ble_eq_true rfl) dX7_at_28 ⟨Nat.zero_le _, Nat.zero_le _⟩ (fun z28 H locs h hP hS => ?_)
      refine lv_aload_n hx hb dX7_at_31 rfl (lv_at hl 0 rfl) ?_
      refine va_get (D := D) (ci := 7) (v := .ref (ad 26)) (C := RX7) (T := TX7) (N := 12) hx hb ht tl_X7 hown hK hP 38 (wx_38 q ad z28) rfl 3 (by decide) (ht _ tw_fl_X7_29) (fun _ h9 => h9) rfl dX7_at_32 ?_
      refine lv_iload_n hx hb dX7_at_35 rfl (lv_at hl 1 rfl) ?_
      refine lv_iload_n hx hb dX7_at_36 rfl (lv_at hl 2 rfl) ?_
      refine g_cVi (Wd := WX q ad) (z := z28) (As := [.int x1, .int x2]) (rest := []) hG S (kX2_spotBehind l D q ad A hD z28 x1 x2 _ h) (cwV 2 ht (cW_V (fun _ h => h) tw_co_X2_spotBehind tw_ml_X7_168 tw_im_X2_spotBehind tw_se_X2_spotBehind tw_in_X2) rfl rfl rfl (by decide +kernel) ⟨by decide, by decide⟩) (va_recv hK hP (ci := 2) (q0 := 26) rfl (wx_26 q ad z28)) hE hP hS rfl hl.1 rfl (Nat.le_of_ble_eq_true rfl) dX7_at_37 ⟨Nat.zero_le _, Nat.zero_le _⟩ (fun r37 z37 H locs h hP hS => ?_)
      exact g_ri hG hx hb hr hlocks hE hP hS h dX7_at_40
    · have h := h.2 c15
      refine lv_iconst (v := (-1 : Int32)) hx hb dX7_at_18 (by decide) ?_
      exact g_ri hG hx hb hr hlocks hE hP hS h dX7_at_19
def pX7_bump (z : MX) (x1 : Int32) (post : Int32 → MX → Prop) : Prop :=
  ((x1 < 0 →
    post (-1 : Int32) z) ∧
  (¬ x1 < 0 →
    ((x1 ≤ (2 : Int32) →
      pX2_play 0 z (fun (z19 : MX) =>
      ((¬ (z19.1 26 5) = (-4 : Int32) →
        ((¬ x1 = 0 →
          ((¬ x1 = (1 : Int32) →
            post (z19.1 26 7) z19) ∧
          (x1 = (1 : Int32) →
            post (z19.1 26 6) z19))) ∧
        (x1 = 0 →
          post (z19.1 26 5) z19))) ∧
      ((z19.1 26 5) = (-4 : Int32) →
        post (-4 : Int32) z19)))) ∧
    (¬ x1 ≤ (2 : Int32) →
      post (-1 : Int32) z))))
set_option maxHeartbeats 4000000 in
set_option maxRecDepth 100000 in
theorem kX7_bump (l : Launch) (D : va_G) (q : Nat → ClassId) (ad : Nat → Nat) (A : Nat → Prop) (hD : ∀ z, va_D A (WX q ad z)) (z : MX) (x1 : Int32) (post : Int32 → MX → Prop) (h : pX7_bump  z x1 post) : Met l yX7_bump (cW yX7_bump cX7_bump 2 (some .int)) ({ frames := 5, cells := 0, slots := 0, locals := 121 } : Room) (va_Pc [.ref (ad 38), .int x1] ((gB D vwCl (WX q ad) (xE D q ad A)) z)) (va_Qi post (gB D vwCl (WX q ad) (xE D q ad A)) A) 0 0 A := by
  refine Met.ofW (cc := cX7_bump) (maxL := 2) (ret := (some .int)) (by decide) rfl ?_
  intro p e s m args below meth c s₁ B hml hv
  obtain ⟨hargs, hP, hE⟩ := hv
  have hx := B.exec
  have hb := B.bytes
  have hr := B.returns
  have hts := atoms_spec (ws := (cW yX7_bump cX7_bump 2 (some .int))) B.pre
  have ht : ∀ w ∈ tG, w.before args s = true := fun w h => hts w (List.mem_cons_of_mem _ h)
  have hown : s.vm.findClass RX7 = some m.cls := findClass_of_methodNamed B.named
  have hlocks := B.notSynchronized
  have hK := hE.1
  have hG := xE_G D q ad A
  have S : CallFix p m c cX7_bump 2 s args tG RX7 := ⟨hx, hb, hml, hown, ht⟩
  have hS : va_S A s.heap s.heap [] := va_S.rf
  refine g_entry (vs := [.ref (ad 38), .int x1]) hargs (Nat.le_of_ble_eq_true rfl) (fun ls hl => ?_)
  have hl : lv_has ls 2 [(0, .ref (ad 38)), (1, .int x1)] := hl
  unfold pX7_bump at h
  refine lv_iload_n hx hb dX7_bump_0 rfl (lv_at hl 1 rfl) ?_
  refine lv_if_lt (tgt := 9) hx hb dX7_bump_1 (by decide) (fun c1 => ?_) (fun c1 => ?_)
  · have h := h.1 c1
    refine lv_iconst (v := (-1 : Int32)) hx hb dX7_bump_9 (by decide) ?_
    exact g_ri hG hx hb hr hlocks hE hP hS h dX7_bump_10
  · have h := h.2 c1
    refine lv_iload_n hx hb dX7_bump_4 rfl (lv_at hl 1 rfl) ?_
    refine lv_iconst (v := (2 : Int32)) hx hb dX7_bump_5 (by decide) ?_
    refine lv_icmp_le (tgt := 11) hx hb dX7_bump_6 (by decide) (fun c6 => ?_) (fun c6 => ?_)
    · have h := h.1 c6
      refine lv_aload_n hx hb dX7_bump_11 rfl (lv_at hl 0 rfl) ?_
      refine va_get (D := D) (ci := 7) (v := .ref (ad 26)) (C := RX7) (T := TX7) (N := 12) hx hb ht tl_X7 hown hK hP 38 (wx_38 q ad z) rfl 3 (by decide) (ht _ tw_fl_X7_29) (fun _ h9 => h9) rfl dX7_bump_12 ?_
      refine lv_aload_n hx hb dX7_bump_15 rfl (lv_at hl 0 rfl) ?_
      refine va_get (D := D) (ci := 7) (v := .ref (ad (4 * 0))) (C := RX7) (T := TX7) (N := 12) hx hb ht tl_X7 hown hK hP 38 (wx_38 q ad z) rfl 0 (by decide) (ht _ tw_fl_X7_10) (fun _ h9 => h9) rfl dX7_bump_16 ?_
      refine g_cVv (Wd := WX q ad) (z := z) (As := [.ref (ad (4 * 0))]) (rest := []) hG S (kX2_play l D q ad A hD 0 (by decide) z _ h) (cwV 1 ht (cW_V (fun _ h => h) tw_co_X2_play tw_ml_X7_159 tw_im_X2_play tw_se_X2_play tw_in_X2) rfl rfl rfl (by decide +kernel) ⟨by decide, by decide⟩) (va_recv hK hP (ci := 2) (q0 := 26) rfl (wx_26 q ad z)) hE hP hS rfl hl.1 rfl (Nat.le_of_ble_eq_true rfl) dX7_bump_19 ⟨Nat.zero_le _, Nat.zero_le _⟩ (fun z19 H locs h hP hS => ?_)
      refine lv_aload_n hx hb dX7_bump_22 rfl (lv_at hl 0 rfl) ?_
      refine va_get (D := D) (ci := 7) (v := .ref (ad 26)) (C := RX7) (T := TX7) (N := 12) hx hb ht tl_X7 hown hK hP 38 (wx_38 q ad z19) rfl 3 (by decide) (ht _ tw_fl_X7_29) (fun _ h9 => h9) rfl dX7_bump_23 ?_
      refine va_get (D := D) (ci := 2) (v := .int (z19.1 26 5)) (C := RX2) (T := TX2) (N := 13) hx hb ht tl_X2 hown hK hP 26 (wx_26 q ad z19) rfl 5 (by decide) (ht _ tw_fl_X7_171) (fun _ h9 => h9) rfl dX7_bump_26 ?_
      refine lv_bipush (v := (-4 : Int32)) hx hb dX7_bump_29 (by decide) ?_
      refine lv_icmp_ne (tgt := 37) hx hb dX7_bump_31 (by decide) (fun c31 => ?_) (fun c31 => ?_)
      · have h := h.1 c31
        refine lv_iload_n hx hb dX7_bump_37 rfl (lv_at hl 1 rfl) ?_
        refine lv_if_ne (tgt := 49) hx hb dX7_bump_38 (by decide) (fun c38 => ?_) (fun c38 => ?_)
        · have h := h.1 c38
          refine lv_iload_n hx hb dX7_bump_49 rfl (lv_at hl 1 rfl) ?_
          refine lv_iconst (v := (1 : Int32)) hx hb dX7_bump_50 (by decide) ?_
          refine lv_icmp_ne (tgt := 64) hx hb dX7_bump_51 (by decide) (fun c51 => ?_) (fun c51 => ?_)
          · have h := h.1 c51
            refine lv_aload_n hx hb dX7_bump_64 rfl (lv_at hl 0 rfl) ?_
            refine va_get (D := D) (ci := 7) (v := .ref (ad 26)) (C := RX7) (T := TX7) (N := 12) hx hb ht tl_X7 hown hK hP 38 (wx_38 q ad z19) rfl 3 (by decide) (ht _ tw_fl_X7_29) (fun _ h9 => h9) rfl dX7_bump_65 ?_
            refine va_get (D := D) (ci := 2) (v := .int (z19.1 26 7)) (C := RX2) (T := TX2) (N := 13) hx hb ht tl_X2 hown hK hP 26 (wx_26 q ad z19) rfl 7 (by decide) (ht _ tw_fl_X7_177) (fun _ h9 => h9) rfl dX7_bump_68 ?_
            exact g_ri hG hx hb hr hlocks hE hP hS h dX7_bump_71
          · have h := h.2 c51
            refine lv_aload_n hx hb dX7_bump_54 rfl (lv_at hl 0 rfl) ?_
            refine va_get (D := D) (ci := 7) (v := .ref (ad 26)) (C := RX7) (T := TX7) (N := 12) hx hb ht tl_X7 hown hK hP 38 (wx_38 q ad z19) rfl 3 (by decide) (ht _ tw_fl_X7_29) (fun _ h9 => h9) rfl dX7_bump_55 ?_
            refine va_get (D := D) (ci := 2) (v := .int (z19.1 26 6)) (C := RX2) (T := TX2) (N := 13) hx hb ht tl_X2 hown hK hP 26 (wx_26 q ad z19) rfl 6 (by decide) (ht _ tw_fl_X7_174) (fun _ h9 => h9) rfl dX7_bump_58 ?_
            refine lv_goto (tgt := 71) hx hb dX7_bump_61 (by decide) ?_
            exact g_ri hG hx hb hr hlocks hE hP hS h dX7_bump_71
        · have h := h.2 c38
          refine lv_aload_n hx hb dX7_bump_41 rfl (lv_at hl 0 rfl) ?_
          refine va_get (D := D) (ci := 7) (v := .ref (ad 26)) (C := RX7) (T := TX7) (N := 12) hx hb ht tl_X7 hown hK hP 38 (wx_38 q ad z19) rfl 3 (by decide) (ht _ tw_fl_X7_29) (fun _ h9 => h9) rfl dX7_bump_42 ?_
          refine va_get (D := D) (ci := 2) (v := .int (z19.1 26 5)) (C := RX2) (T := TX2) (N := 13) hx hb ht tl_X2 hown hK hP 26 (wx_26 q ad z19) rfl 5 (by decide) (ht _ tw_fl_X7_171) (fun _ h9 => h9) rfl dX7_bump_45 ?_
          exact g_ri hG hx hb hr hlocks hE hP hS h dX7_bump_48
      · have h := h.2 c31
        refine lv_bipush (v := (-4 : Int32)) hx hb dX7_bump_34 (by decide) ?_
        exact g_ri hG hx hb hr hlocks hE hP hS h dX7_bump_36
    · have h := h.2 c6
      refine lv_iconst (v := (-1 : Int32)) hx hb dX7_bump_9 (by decide) ?_
      exact g_ri hG hx hb hr hlocks hE hP hS h dX7_bump_10
def pX7_sum (z : MX) (x1 : Int32) (post : Int32 → MX → Prop) : Prop :=
  ((x1 < 0 →
    post (-1 : Int32) z) ∧
  (¬ x1 < 0 →
    ((x1 ≤ (4 : Int32) →
      pX2_play 0 z (fun (z19 : MX) =>
      ((((x1).toInt < 0 ∨ 3 < (x1).toInt) →
        post (z19.1 26 12) z19) ∧
      (x1 = (0 : Int32) →
          post (z19.1 26 8) z19) ∧
      (x1 = (1 : Int32) →
          post (z19.1 26 9) z19) ∧
      (x1 = (2 : Int32) →
          post (z19.1 26 10) z19) ∧
      (x1 = (3 : Int32) →
          post (z19.1 26 11) z19)))) ∧
    (¬ x1 ≤ (4 : Int32) →
      post (-1 : Int32) z))))
set_option maxHeartbeats 4000000 in
set_option maxRecDepth 100000 in
theorem kX7_sum (l : Launch) (D : va_G) (q : Nat → ClassId) (ad : Nat → Nat) (A : Nat → Prop) (hD : ∀ z, va_D A (WX q ad z)) (z : MX) (x1 : Int32) (post : Int32 → MX → Prop) (h : pX7_sum  z x1 post) : Met l yX7_sum (cW yX7_sum cX7_sum 2 (some .int)) ({ frames := 5, cells := 0, slots := 0, locals := 121 } : Room) (va_Pc [.ref (ad 38), .int x1] ((gB D vwCl (WX q ad) (xE D q ad A)) z)) (va_Qi post (gB D vwCl (WX q ad) (xE D q ad A)) A) 0 0 A := by
  refine Met.ofW (cc := cX7_sum) (maxL := 2) (ret := (some .int)) (by decide) rfl ?_
  intro p e s m args below meth c s₁ B hml hv
  obtain ⟨hargs, hP, hE⟩ := hv
  have hx := B.exec
  have hb := B.bytes
  have hr := B.returns
  have hts := atoms_spec (ws := (cW yX7_sum cX7_sum 2 (some .int))) B.pre
  have ht : ∀ w ∈ tG, w.before args s = true := fun w h => hts w (List.mem_cons_of_mem _ h)
  have hown : s.vm.findClass RX7 = some m.cls := findClass_of_methodNamed B.named
  have hlocks := B.notSynchronized
  have hK := hE.1
  have hG := xE_G D q ad A
  have S : CallFix p m c cX7_sum 2 s args tG RX7 := ⟨hx, hb, hml, hown, ht⟩
  have hS : va_S A s.heap s.heap [] := va_S.rf
  refine g_entry (vs := [.ref (ad 38), .int x1]) hargs (Nat.le_of_ble_eq_true rfl) (fun ls hl => ?_)
  have hl : lv_has ls 2 [(0, .ref (ad 38)), (1, .int x1)] := hl
  unfold pX7_sum at h
  refine lv_iload_n hx hb dX7_sum_0 rfl (lv_at hl 1 rfl) ?_
  refine lv_if_lt (tgt := 9) hx hb dX7_sum_1 (by decide) (fun c1 => ?_) (fun c1 => ?_)
  · have h := h.1 c1
    refine lv_iconst (v := (-1 : Int32)) hx hb dX7_sum_9 (by decide) ?_
    exact g_ri hG hx hb hr hlocks hE hP hS h dX7_sum_10
  · have h := h.2 c1
    refine lv_iload_n hx hb dX7_sum_4 rfl (lv_at hl 1 rfl) ?_
    refine lv_iconst (v := (4 : Int32)) hx hb dX7_sum_5 (by decide) ?_
    refine lv_icmp_le (tgt := 11) hx hb dX7_sum_6 (by decide) (fun c6 => ?_) (fun c6 => ?_)
    · have h := h.1 c6
      refine lv_aload_n hx hb dX7_sum_11 rfl (lv_at hl 0 rfl) ?_
      refine va_get (D := D) (ci := 7) (v := .ref (ad 26)) (C := RX7) (T := TX7) (N := 12) hx hb ht tl_X7 hown hK hP 38 (wx_38 q ad z) rfl 3 (by decide) (ht _ tw_fl_X7_29) (fun _ h9 => h9) rfl dX7_sum_12 ?_
      refine lv_aload_n hx hb dX7_sum_15 rfl (lv_at hl 0 rfl) ?_
      refine va_get (D := D) (ci := 7) (v := .ref (ad (4 * 0))) (C := RX7) (T := TX7) (N := 12) hx hb ht tl_X7 hown hK hP 38 (wx_38 q ad z) rfl 0 (by decide) (ht _ tw_fl_X7_10) (fun _ h9 => h9) rfl dX7_sum_16 ?_
      refine g_cVv (Wd := WX q ad) (z := z) (As := [.ref (ad (4 * 0))]) (rest := []) hG S (kX2_play l D q ad A hD 0 (by decide) z _ h) (cwV 1 ht (cW_V (fun _ h => h) tw_co_X2_play tw_ml_X7_159 tw_im_X2_play tw_se_X2_play tw_in_X2) rfl rfl rfl (by decide +kernel) ⟨by decide, by decide⟩) (va_recv hK hP (ci := 2) (q0 := 26) rfl (wx_26 q ad z)) hE hP hS rfl hl.1 rfl (Nat.le_of_ble_eq_true rfl) dX7_sum_19 ⟨Nat.zero_le _, Nat.zero_le _⟩ (fun z19 H locs h hP hS => ?_)
      refine lv_iload_n hx hb dX7_sum_22 rfl (lv_at hl 1 rfl) ?_
      rcases g_sw (x := x1) 3 3 rfl with c23 | ⟨k23, hk23, c23⟩
      · refine lv_tableOut (tgt := 84) hx hb dX7_sum_23 c23 (by decide) ?_
        have h := h.1 c23
        refine lv_aload_n hx hb dX7_sum_84 rfl (lv_at hl 0 rfl) ?_
        refine va_get (D := D) (ci := 7) (v := .ref (ad 26)) (C := RX7) (T := TX7) (N := 12) hx hb ht tl_X7 hown hK hP 38 (wx_38 q ad z19) rfl 3 (by decide) (ht _ tw_fl_X7_29) (fun _ h9 => h9) rfl dX7_sum_85 ?_
        refine va_get (D := D) (ci := 2) (v := .int (z19.1 26 12)) (C := RX2) (T := TX2) (N := 13) hx hb ht tl_X2 hown hK hP 26 (wx_26 q ad z19) rfl 12 (by decide) (ht _ tw_fl_X7_192) (fun _ h9 => h9) rfl dX7_sum_88 ?_
        exact g_ri hG hx hb hr hlocks hE hP hS h dX7_sum_91
      · match k23, hk23, c23 with
        | 0, _, c23 =>
          have h := h.2.1 (g_eq c23 rfl)
          refine lv_tableIn (off := 29) (tgt := 52) hx hb dX7_sum_23 (by rw [c23]; decide) (by rw [c23]; decide) (by rw [c23]; rfl) (by decide) ?_
          refine lv_aload_n hx hb dX7_sum_52 rfl (lv_at hl 0 rfl) ?_
          refine va_get (D := D) (ci := 7) (v := .ref (ad 26)) (C := RX7) (T := TX7) (N := 12) hx hb ht tl_X7 hown hK hP 38 (wx_38 q ad z19) rfl 3 (by decide) (ht _ tw_fl_X7_29) (fun _ h9 => h9) rfl dX7_sum_53 ?_
          refine va_get (D := D) (ci := 2) (v := .int (z19.1 26 8)) (C := RX2) (T := TX2) (N := 13) hx hb ht tl_X2 hown hK hP 26 (wx_26 q ad z19) rfl 8 (by decide) (ht _ tw_fl_X7_180) (fun _ h9 => h9) rfl dX7_sum_56 ?_
          exact g_ri hG hx hb hr hlocks hE hP hS h dX7_sum_59
        | 1, _, c23 =>
          have h := h.2.2.1 (g_eq c23 rfl)
          refine lv_tableIn (off := 37) (tgt := 60) hx hb dX7_sum_23 (by rw [c23]; decide) (by rw [c23]; decide) (by rw [c23]; rfl) (by decide) ?_
          refine lv_aload_n hx hb dX7_sum_60 rfl (lv_at hl 0 rfl) ?_
          refine va_get (D := D) (ci := 7) (v := .ref (ad 26)) (C := RX7) (T := TX7) (N := 12) hx hb ht tl_X7 hown hK hP 38 (wx_38 q ad z19) rfl 3 (by decide) (ht _ tw_fl_X7_29) (fun _ h9 => h9) rfl dX7_sum_61 ?_
          refine va_get (D := D) (ci := 2) (v := .int (z19.1 26 9)) (C := RX2) (T := TX2) (N := 13) hx hb ht tl_X2 hown hK hP 26 (wx_26 q ad z19) rfl 9 (by decide) (ht _ tw_fl_X7_183) (fun _ h9 => h9) rfl dX7_sum_64 ?_
          exact g_ri hG hx hb hr hlocks hE hP hS h dX7_sum_67
        | 2, _, c23 =>
          have h := h.2.2.2.1 (g_eq c23 rfl)
          refine lv_tableIn (off := 45) (tgt := 68) hx hb dX7_sum_23 (by rw [c23]; decide) (by rw [c23]; decide) (by rw [c23]; rfl) (by decide) ?_
          refine lv_aload_n hx hb dX7_sum_68 rfl (lv_at hl 0 rfl) ?_
          refine va_get (D := D) (ci := 7) (v := .ref (ad 26)) (C := RX7) (T := TX7) (N := 12) hx hb ht tl_X7 hown hK hP 38 (wx_38 q ad z19) rfl 3 (by decide) (ht _ tw_fl_X7_29) (fun _ h9 => h9) rfl dX7_sum_69 ?_
          refine va_get (D := D) (ci := 2) (v := .int (z19.1 26 10)) (C := RX2) (T := TX2) (N := 13) hx hb ht tl_X2 hown hK hP 26 (wx_26 q ad z19) rfl 10 (by decide) (ht _ tw_fl_X7_186) (fun _ h9 => h9) rfl dX7_sum_72 ?_
          exact g_ri hG hx hb hr hlocks hE hP hS h dX7_sum_75
        | 3, _, c23 =>
          have h := h.2.2.2.2 (g_eq c23 rfl)
          refine lv_tableIn (off := 53) (tgt := 76) hx hb dX7_sum_23 (by rw [c23]; decide) (by rw [c23]; decide) (by rw [c23]; rfl) (by decide) ?_
          refine lv_aload_n hx hb dX7_sum_76 rfl (lv_at hl 0 rfl) ?_
          refine va_get (D := D) (ci := 7) (v := .ref (ad 26)) (C := RX7) (T := TX7) (N := 12) hx hb ht tl_X7 hown hK hP 38 (wx_38 q ad z19) rfl 3 (by decide) (ht _ tw_fl_X7_29) (fun _ h9 => h9) rfl dX7_sum_77 ?_
          refine va_get (D := D) (ci := 2) (v := .int (z19.1 26 11)) (C := RX2) (T := TX2) (N := 13) hx hb ht tl_X2 hown hK hP 26 (wx_26 q ad z19) rfl 11 (by decide) (ht _ tw_fl_X7_189) (fun _ h9 => h9) rfl dX7_sum_80 ?_
          exact g_ri hG hx hb hr hlocks hE hP hS h dX7_sum_83
        | k + 4, hk, _ => exact absurd hk (by omega)
    · have h := h.2 c6
      refine lv_iconst (v := (-1 : Int32)) hx hb dX7_sum_9 (by decide) ?_
      exact g_ri hG hx hb hr hlocks hE hP hS h dX7_sum_10
