def pX8_see_b36 (post : Int32 → MX → Prop) (z : MX) (x1 : Int32) (x2 : Int32) (x3 : Int32) : Prop :=
    ((¬ (z.1 0 37) = (6 : Int32) →
      vp_in ((3 : Int32) * (z.1 0 37)) 18 ∧
      ∀ z59 : MX, z59 = mw z 14 (Int32.toNatClampNeg ((3 : Int32) * (z.1 0 37))) x1 →
      vp_in (((3 : Int32) * (z59.1 0 37)) + (1 : Int32)) 18 ∧
      ∀ z73 : MX, z73 = mw z59 14 (Int32.toNatClampNeg (((3 : Int32) * (z59.1 0 37)) + (1 : Int32))) x2 →
      vp_in (((3 : Int32) * (z73.1 0 37)) + (2 : Int32)) 18 ∧
      ∀ z87 : MX, z87 = mw z73 14 (Int32.toNatClampNeg (((3 : Int32) * (z73.1 0 37)) + (2 : Int32))) x3 →
      ∀ z95 : MX, z95 = mw z87 0 37 ((z87.1 0 37) + (1 : Int32)) →
      post (z95.1 0 37) z95) ∧
    ((z.1 0 37) = (6 : Int32) →
      post (-3 : Int32) z))
def pX8_see (z : MX) (x1 : Int32) (x2 : Int32) (x3 : Int32) (post : Int32 → MX → Prop) : Prop :=
  pX8_isTrain z x1 (fun (r2 : Int32) (z2 : MX) =>
  ((r2 = 0 →
    post (-1 : Int32) z2) ∧
  (¬ r2 = 0 →
    pX8_in z2 (Int32.toInt64 x2) (0 : Int64) (119 : Int64) (fun (r14 : Int32) (z14 : MX) =>
    ((r14 = 0 →
      post (-1 : Int32) z14) ∧
    (¬ r14 = 0 →
      ((x3 = (-4 : Int32) →
        pX8_see_b36  post z14 x1 x2 x3) ∧
      (¬ x3 = (-4 : Int32) →
        pX8_isBlock z14 x3 (fun (r28 : Int32) (z28 : MX) =>
        ((¬ r28 = 0 →
          pX8_see_b36  post z28 x1 x2 x3) ∧
        (r28 = 0 →
          post (-1 : Int32) z28)))))))))))
set_option maxHeartbeats 4000000 in
set_option maxRecDepth 100000 in
theorem kX8_see (l : Launch) (D : va_G) (q : Nat → ClassId) (ad : Nat → Nat) (A : Nat → Prop) (hD : ∀ z, va_D A (WM q ad z)) (z : MX) (x1 : Int32) (x2 : Int32) (x3 : Int32) (post : Int32 → MX → Prop) (h : pX8_see  z x1 x2 x3 post) : Met l yX8_see (cW yX8_see cX8_see 4 (some .int)) ({ frames := 2, cells := 0, slots := 0, locals := 46 } : Room) (va_Pc [.ref (ad 0), .int x1, .int x2, .int x3] ((gB D vwCl (WM q ad) (mE D q)) z)) (va_Qi post (gB D vwCl (WM q ad) (mE D q)) A) 0 0 A := by
  refine Met.ofW (cc := cX8_see) (maxL := 4) (ret := (some .int)) (by decide) rfl ?_
  intro p e s m args below meth c s₁ B hml hv
  obtain ⟨hargs, hP, hE⟩ := hv
  have hx := B.exec
  have hb := B.bytes
  have hr := B.returns
  have hts := atoms_spec (ws := (cW yX8_see cX8_see 4 (some .int))) B.pre
  have ht : ∀ w ∈ tG, w.before args s = true := fun w h => hts w (List.mem_cons_of_mem _ h)
  have hown : s.vm.findClass RX8 = some m.cls := findClass_of_methodNamed B.named
  have hlocks := B.notSynchronized
  have hK := hE.1
  have hG := mE_G D q A
  have S : CallFix p m c cX8_see 4 s args tG RX8 := ⟨hx, hb, hml, hown, ht⟩
  have hS : va_S A s.heap s.heap [] := va_S.rf
  have B36 : ∀ (z : MX) (x1 : Int32) (x2 : Int32) (x3 : Int32) (H : Heap) (locs : List Loc) (ls : Array Slot), pX8_see_b36  post z x1 x2 x3 → va_P D vwCl (WM q ad z) H → va_S A s.heap H locs → lv_has ls 4 [(0, .ref (ad 0)), (1, .int x1), (2, .int x2), (3, .int x3)] → W p l e (headSpec (cW yX8_see cX8_see 4 (some .int)) ({ frames := 2, cells := 0, slots := 0, locals := 46 } : Room)).room s m args below meth c H locs 0 0 (MQ below (va_Qi post (gB D vwCl (WM q ad) (mE D q)) A) args s 0 0 A) (F0 m 36 ls []) := by
    intro z x1 x2 x3 H locs ls h hP hS hl
    unfold pX8_see_b36 at h
    refine lv_aload_n hx hb dX8_see_36 rfl (lv_at hl 0 rfl) ?_
    refine va_get (D := D) (ci := 8) (v := .int (z.1 0 37)) (C := RX8) (T := TX8) (N := 45) hx hb ht tl_X8 hown hK hP 0 (wm_0 q ad z) rfl 37 (by decide) (ht _ tw_fl_X8_179) (fun _ h9 => h9) rfl dX8_see_37 ?_
    refine lv_bipush (v := (6 : Int32)) hx hb dX8_see_40 (by decide) ?_
    refine lv_icmp_ne (tgt := 48) hx hb dX8_see_42 (by decide) (fun c42 => ?_) (fun c42 => ?_)
    · have h := h.1 c42
      refine lv_aload_n hx hb dX8_see_48 rfl (lv_at hl 0 rfl) ?_
      refine va_get (D := D) (ci := 8) (v := .ref (ad 14)) (C := RX8) (T := TX8) (N := 45) hx hb ht tl_X8 hown hK hP 0 (wm_0 q ad z) rfl 36 (by decide) (ht _ tw_fl_X8_54) (fun _ h9 => h9) rfl dX8_see_49 ?_
      refine lv_iconst (v := (3 : Int32)) hx hb dX8_see_52 (by decide) ?_
      refine lv_aload_n hx hb dX8_see_53 rfl (lv_at hl 0 rfl) ?_
      refine va_get (D := D) (ci := 8) (v := .int (z.1 0 37)) (C := RX8) (T := TX8) (N := 45) hx hb ht tl_X8 hown hK hP 0 (wm_0 q ad z) rfl 37 (by decide) (ht _ tw_fl_X8_179) (fun _ h9 => h9) rfl dX8_see_54 ?_
      refine lv_imul hx hb dX8_see_57 ?_
      refine lv_iload_n hx hb dX8_see_58 rfl (lv_at hl 1 rfl) ?_
      have hi59 := h.1
      have h := h.2
      refine g_iast (Wd := WM q ad) (z := z) hx hb hK hP (hD z) hS 14 (wm_14 q ad z) rfl (am_14 q ad z) hi59 dX8_see_59 (fun z59 H locs hz59 hP hS => ?_)
      have h := h z59 hz59
      refine lv_aload_n hx hb dX8_see_60 rfl (lv_at hl 0 rfl) ?_
      refine va_get (D := D) (ci := 8) (v := .ref (ad 14)) (C := RX8) (T := TX8) (N := 45) hx hb ht tl_X8 hown hK hP 0 (wm_0 q ad z59) rfl 36 (by decide) (ht _ tw_fl_X8_54) (fun _ h9 => h9) rfl dX8_see_61 ?_
      refine lv_iconst (v := (3 : Int32)) hx hb dX8_see_64 (by decide) ?_
      refine lv_aload_n hx hb dX8_see_65 rfl (lv_at hl 0 rfl) ?_
      refine va_get (D := D) (ci := 8) (v := .int (z59.1 0 37)) (C := RX8) (T := TX8) (N := 45) hx hb ht tl_X8 hown hK hP 0 (wm_0 q ad z59) rfl 37 (by decide) (ht _ tw_fl_X8_179) (fun _ h9 => h9) rfl dX8_see_66 ?_
      refine lv_imul hx hb dX8_see_69 ?_
      refine lv_iconst (v := (1 : Int32)) hx hb dX8_see_70 (by decide) ?_
      refine lv_iadd hx hb dX8_see_71 ?_
      refine lv_iload_n hx hb dX8_see_72 rfl (lv_at hl 2 rfl) ?_
      have hi73 := h.1
      have h := h.2
      refine g_iast (Wd := WM q ad) (z := z59) hx hb hK hP (hD z59) hS 14 (wm_14 q ad z59) rfl (am_14 q ad z59) hi73 dX8_see_73 (fun z73 H locs hz73 hP hS => ?_)
      have h := h z73 hz73
      refine lv_aload_n hx hb dX8_see_74 rfl (lv_at hl 0 rfl) ?_
      refine va_get (D := D) (ci := 8) (v := .ref (ad 14)) (C := RX8) (T := TX8) (N := 45) hx hb ht tl_X8 hown hK hP 0 (wm_0 q ad z73) rfl 36 (by decide) (ht _ tw_fl_X8_54) (fun _ h9 => h9) rfl dX8_see_75 ?_
      refine lv_iconst (v := (3 : Int32)) hx hb dX8_see_78 (by decide) ?_
      refine lv_aload_n hx hb dX8_see_79 rfl (lv_at hl 0 rfl) ?_
      refine va_get (D := D) (ci := 8) (v := .int (z73.1 0 37)) (C := RX8) (T := TX8) (N := 45) hx hb ht tl_X8 hown hK hP 0 (wm_0 q ad z73) rfl 37 (by decide) (ht _ tw_fl_X8_179) (fun _ h9 => h9) rfl dX8_see_80 ?_
      refine lv_imul hx hb dX8_see_83 ?_
      refine lv_iconst (v := (2 : Int32)) hx hb dX8_see_84 (by decide) ?_
      refine lv_iadd hx hb dX8_see_85 ?_
      refine lv_iload_n hx hb dX8_see_86 rfl (lv_at hl 3 rfl) ?_
      have hi87 := h.1
      have h := h.2
      refine g_iast (Wd := WM q ad) (z := z73) hx hb hK hP (hD z73) hS 14 (wm_14 q ad z73) rfl (am_14 q ad z73) hi87 dX8_see_87 (fun z87 H locs hz87 hP hS => ?_)
      have h := h z87 hz87
      refine lv_aload_n hx hb dX8_see_88 rfl (lv_at hl 0 rfl) ?_
      refine lv_dup hx hb dX8_see_89 rfl ?_
      refine va_get (D := D) (ci := 8) (v := .int (z87.1 0 37)) (C := RX8) (T := TX8) (N := 45) hx hb ht tl_X8 hown hK hP 0 (wm_0 q ad z87) rfl 37 (by decide) (ht _ tw_fl_X8_179) (fun _ h9 => h9) rfl dX8_see_90 ?_
      refine lv_iconst (v := (1 : Int32)) hx hb dX8_see_93 (by decide) ?_
      refine lv_iadd hx hb dX8_see_94 ?_
      refine g_put (D := D) (Wd := WM q ad) (z := z87) (ci := 8) (v := .int ((z87.1 0 37) + (1 : Int32))) (ty := .int) (C := RX8) (T := TX8) (N := 45) hx hb ht tl_X8 tyX8 tyX8_ok nmX8 hown hK hP (hD z87) hS 0 (wm_0 q ad z87) rfl 37 (by decide) (ht _ tw_fl_X8_179) (fun _ h9 => h9) rfl rfl rfl rfl (Nat.le_of_ble_eq_true rfl) ((pm_0_37 q ad z87) ((z87.1 0 37) + (1 : Int32))) dX8_see_95 (fun z95 H locs hz95 hP hS => ?_)
      have h := h z95 hz95
      refine lv_aload_n hx hb dX8_see_98 rfl (lv_at hl 0 rfl) ?_
      refine va_get (D := D) (ci := 8) (v := .int (z95.1 0 37)) (C := RX8) (T := TX8) (N := 45) hx hb ht tl_X8 hown hK hP 0 (wm_0 q ad z95) rfl 37 (by decide) (ht _ tw_fl_X8_179) (fun _ h9 => h9) rfl dX8_see_99 ?_
      exact g_ri hG hx hb hr hlocks hE hP hS h dX8_see_102
    · have h := h.2 c42
      refine lv_bipush (v := (-3 : Int32)) hx hb dX8_see_45 (by decide) ?_
      exact g_ri hG hx hb hr hlocks hE hP hS h dX8_see_47
  refine g_entry (vs := [.ref (ad 0), .int x1, .int x2, .int x3]) hargs (Nat.le_of_ble_eq_true rfl) (fun ls hl => ?_)
  have hl : lv_has ls 4 [(0, .ref (ad 0)), (1, .int x1), (2, .int x2), (3, .int x3)] := hl
  unfold pX8_see at h
  refine lv_aload_n hx hb dX8_see_0 rfl (lv_at hl 0 rfl) ?_
  refine lv_iload_n hx hb dX8_see_1 rfl (lv_at hl 1 rfl) ?_
  refine g_cVi (Wd := WM q ad) (z := z) (As := [.int x1]) (rest := []) hG S (kX8_isTrain l D q ad A hD z x1 _ h) (cwV 1 ht (cW_V (fun _ h => h) tw_co_X8_isTrain tw_ml_X8_194 tw_im_X8_isTrain tw_se_X8_isTrain tw_in_X8) rfl rfl rfl (by decide +kernel) ⟨by decide, by decide⟩) (va_recv hK hP (ci := 8) (q0 := 0) rfl (wm_0 q ad z)) hE hP hS rfl hl.1 rfl (Nat.le_of_ble_eq_true rfl) dX8_see_2 ⟨Nat.zero_le _, Nat.zero_le _⟩ (fun r2 z2 H locs h hP hS => ?_)
  refine lv_if_eq (tgt := 34) hx hb dX8_see_5 (by decide) (fun c5 => ?_) (fun c5 => ?_)
  · have h := h.1 c5
    refine lv_iconst (v := (-1 : Int32)) hx hb dX8_see_34 (by decide) ?_
    exact g_ri hG hx hb hr hlocks hE hP hS h dX8_see_35
  · have h := h.2 c5
    refine lv_iload_n hx hb dX8_see_8 rfl (lv_at hl 2 rfl) ?_
    refine lv_i2l hx hb dX8_see_9 rfl ?_
    refine lv_lconst (v := (0 : Int64)) hx hb dX8_see_10 (by decide) ?_
    refine lv_ldc2 (v := (119 : Int64)) hx hb hown (ht _ tw_cn_X8_239) dX8_see_11 ?_
    refine g_cSi (Wd := WM q ad) (z := z2) (As := [.long (Int32.toInt64 x2), .long (0 : Int64), .long (119 : Int64)]) (rest := []) hG S (kX8_in l D q ad A hD z2 (Int32.toInt64 x2) (0 : Int64) (119 : Int64) _ h) (va_cwS 3 ht (cW_S (fun _ h => h) tw_co_X8_in tw_ml_X8_74 tw_st_X8_in tw_in_X8) rfl rfl rfl (by decide +kernel) ⟨by decide, by decide⟩) hE hP hS rfl hl.1 rfl (Nat.le_of_ble_eq_true rfl) dX8_see_14 ⟨Nat.zero_le _, Nat.zero_le _⟩ (fun r14 z14 H locs h hP hS => ?_)
    refine lv_if_eq (tgt := 34) hx hb dX8_see_17 (by decide) (fun c17 => ?_) (fun c17 => ?_)
    · have h := h.1 c17
      refine lv_iconst (v := (-1 : Int32)) hx hb dX8_see_34 (by decide) ?_
      exact g_ri hG hx hb hr hlocks hE hP hS h dX8_see_35
    · have h := h.2 c17
      refine lv_iload_n hx hb dX8_see_20 rfl (lv_at hl 3 rfl) ?_
      refine lv_bipush (v := (-4 : Int32)) hx hb dX8_see_21 (by decide) ?_
      refine lv_icmp_eq (tgt := 36) hx hb dX8_see_23 (by decide) (fun c23 => ?_) (fun c23 => ?_)
      · have h := h.1 c23
        exact B36 z14 x1 x2 x3 _ _ _ h hP hS (lv_sub hl [0, 1, 2, 3] rfl)
      · have h := h.2 c23
        refine lv_aload_n hx hb dX8_see_26 rfl (lv_at hl 0 rfl) ?_
        refine lv_iload_n hx hb dX8_see_27 rfl (lv_at hl 3 rfl) ?_
        refine g_cVi (Wd := WM q ad) (z := z14) (As := [.int x3]) (rest := []) hG S (kX8_isBlock l D q ad A hD z14 x3 _ h) (cwV 1 ht (cW_V (fun _ h => h) tw_co_X8_isBlock tw_ml_X8_185 tw_im_X8_isBlock tw_se_X8_isBlock tw_in_X8) rfl rfl rfl (by decide +kernel) ⟨by decide, by decide⟩) (va_recv hK hP (ci := 8) (q0 := 0) rfl (wm_0 q ad z14)) hE hP hS rfl hl.1 rfl (Nat.le_of_ble_eq_true rfl) dX8_see_28 ⟨Nat.zero_le _, Nat.zero_le _⟩ (fun r28 z28 H locs h hP hS => ?_)
        refine lv_if_ne (tgt := 36) hx hb dX8_see_31 (by decide) (fun c31 => ?_) (fun c31 => ?_)
        · have h := h.1 c31
          exact B36 z28 x1 x2 x3 _ _ _ h hP hS (lv_sub hl [0, 1, 2, 3] rfl)
        · have h := h.2 c31
          refine lv_iconst (v := (-1 : Int32)) hx hb dX8_see_34 (by decide) ?_
          exact g_ri hG hx hb hr hlocks hE hP hS h dX8_see_35
def pX8_forget (z : MX) (x1 : Int32) (post : Int32 → MX → Prop) : Prop :=
  pX8_in z (Int32.toInt64 x1) (0 : Int64) (Int32.toInt64 (z.1 0 37)) (fun (r8 : Int32) (z8 : MX) =>
  ((¬ r8 = 0 →
    ∀ x2_20 : Int32, x2_20 = z8.1 0 37 →
    ∀ z23 : MX, z23 = mw z8 0 37 x1 →
    post x2_20 z23) ∧
  (r8 = 0 →
    post (-1 : Int32) z8)))
set_option maxHeartbeats 4000000 in
set_option maxRecDepth 100000 in
theorem kX8_forget (l : Launch) (D : va_G) (q : Nat → ClassId) (ad : Nat → Nat) (A : Nat → Prop) (hD : ∀ z, va_D A (WM q ad z)) (z : MX) (x1 : Int32) (post : Int32 → MX → Prop) (h : pX8_forget  z x1 post) : Met l yX8_forget (cW yX8_forget cX8_forget 3 (some .int)) ({ frames := 1, cells := 0, slots := 0, locals := 25 } : Room) (va_Pc [.ref (ad 0), .int x1] ((gB D vwCl (WM q ad) (mE D q)) z)) (va_Qi post (gB D vwCl (WM q ad) (mE D q)) A) 0 0 A := by
  refine Met.ofW (cc := cX8_forget) (maxL := 3) (ret := (some .int)) (by decide) rfl ?_
  intro p e s m args below meth c s₁ B hml hv
  obtain ⟨hargs, hP, hE⟩ := hv
  have hx := B.exec
  have hb := B.bytes
  have hr := B.returns
  have hts := atoms_spec (ws := (cW yX8_forget cX8_forget 3 (some .int))) B.pre
  have ht : ∀ w ∈ tG, w.before args s = true := fun w h => hts w (List.mem_cons_of_mem _ h)
  have hown : s.vm.findClass RX8 = some m.cls := findClass_of_methodNamed B.named
  have hlocks := B.notSynchronized
  have hK := hE.1
  have hG := mE_G D q A
  have S : CallFix p m c cX8_forget 3 s args tG RX8 := ⟨hx, hb, hml, hown, ht⟩
  have hS : va_S A s.heap s.heap [] := va_S.rf
  refine g_entry (vs := [.ref (ad 0), .int x1]) hargs (Nat.le_of_ble_eq_true rfl) (fun ls hl => ?_)
  have hl : lv_has ls 3 [(0, .ref (ad 0)), (1, .int x1)] := hl
  unfold pX8_forget at h
  refine lv_iload_n hx hb dX8_forget_0 rfl (lv_at hl 1 rfl) ?_
  refine lv_i2l hx hb dX8_forget_1 rfl ?_
  refine lv_lconst (v := (0 : Int64)) hx hb dX8_forget_2 (by decide) ?_
  refine lv_aload_n hx hb dX8_forget_3 rfl (lv_at hl 0 rfl) ?_
  refine va_get (D := D) (ci := 8) (v := .int (z.1 0 37)) (C := RX8) (T := TX8) (N := 45) hx hb ht tl_X8 hown hK hP 0 (wm_0 q ad z) rfl 37 (by decide) (ht _ tw_fl_X8_179) (fun _ h9 => h9) rfl dX8_forget_4 ?_
  refine lv_i2l hx hb dX8_forget_7 rfl ?_
  refine g_cSi (Wd := WM q ad) (z := z) (As := [.long (Int32.toInt64 x1), .long (0 : Int64), .long (Int32.toInt64 (z.1 0 37))]) (rest := []) hG S (kX8_in l D q ad A hD z (Int32.toInt64 x1) (0 : Int64) (Int32.toInt64 (z.1 0 37)) _ h) (va_cwS 3 ht (cW_S (fun _ h => h) tw_co_X8_in tw_ml_X8_74 tw_st_X8_in tw_in_X8) rfl rfl rfl (by decide +kernel) ⟨by decide, by decide⟩) hE hP hS rfl hl.1 rfl (Nat.le_of_ble_eq_true rfl) dX8_forget_8 ⟨Nat.zero_le _, Nat.zero_le _⟩ (fun r8 z8 H locs h hP hS => ?_)
  refine lv_if_ne (tgt := 16) hx hb dX8_forget_11 (by decide) (fun c11 => ?_) (fun c11 => ?_)
  · have h := h.1 c11
    refine lv_aload_n hx hb dX8_forget_16 rfl (lv_at hl 0 rfl) ?_
    refine va_get (D := D) (ci := 8) (v := .int (z8.1 0 37)) (C := RX8) (T := TX8) (N := 45) hx hb ht tl_X8 hown hK hP 0 (wm_0 q ad z8) rfl 37 (by decide) (ht _ tw_fl_X8_179) (fun _ h9 => h9) rfl dX8_forget_17 ?_
    refine lv_topi (fun x2_20 ex2_20 => ?_)
    have h := h x2_20 ex2_20
    refine lv_istore_n (lv' := [(2, .int x2_20), (0, .ref (ad 0)), (1, .int x1)]) hx hb dX8_forget_20 rfl hl (by decide) rfl (fun ls hl => ?_)
    refine lv_aload_n hx hb dX8_forget_21 rfl (lv_at hl 1 rfl) ?_
    refine lv_iload_n hx hb dX8_forget_22 rfl (lv_at hl 2 rfl) ?_
    refine g_put (D := D) (Wd := WM q ad) (z := z8) (ci := 8) (v := .int x1) (ty := .int) (C := RX8) (T := TX8) (N := 45) hx hb ht tl_X8 tyX8 tyX8_ok nmX8 hown hK hP (hD z8) hS 0 (wm_0 q ad z8) rfl 37 (by decide) (ht _ tw_fl_X8_179) (fun _ h9 => h9) rfl rfl rfl rfl (Nat.le_of_ble_eq_true rfl) ((pm_0_37 q ad z8) x1) dX8_forget_23 (fun z23 H locs hz23 hP hS => ?_)
    have h := h z23 hz23
    refine lv_iload_n hx hb dX8_forget_26 rfl (lv_at hl 0 rfl) ?_
    exact g_ri hG hx hb hr hlocks hE hP hS h dX8_forget_27
  · have h := h.2 c11
    refine lv_iconst (v := (-1 : Int32)) hx hb dX8_forget_14 (by decide) ?_
    exact g_ri hG hx hb hr hlocks hE hP hS h dX8_forget_15
def pX8_faithsOf_b169 (rec15 : MX → Int32 → Int32 → Int32 → Int32 → Prop) (post : Int32 → MX → Prop) (z : MX) (x1 : Int32) (x3 : Int32) (x4 : Int32) (y0 : Int32) (y1 : Int32) : Prop :=
    ∀ x2_170 : Int32, x2_170 = y0 ||| y1 →
    ∀ x4_171 : Int32, x4_171 = x4 + (1 : Int32) →
    rec15 z x1 x2_170 x3 x4_171
def pX8_faithsOf_l119 (rec15 : MX → Int32 → Int32 → Int32 → Int32 → Prop) (rec119 : MX → Int32 → Int32 → Int32 → Int32 → Int32 → Int32 → Prop) (post : Int32 → MX → Prop) (z : MX) (x1 : Int32) (x2 : Int32) (x3 : Int32) (x4 : Int32) (x5 : Int32) (x6 : Int32) : Prop :=
    (((119 : Int32) < x6 →
      ((x5 = 0 →
        pX8_faithsOf_b169  rec15 post z x1 x3 x4 x2 (0 : Int32)) ∧
      (¬ x5 = 0 →
        pX8_faithsOf_b169  rec15 post z x1 x3 x4 x2 ((1 : Int32) <<< (x4 &&& 31))))) ∧
    (¬ (119 : Int32) < x6 →
      vp_in (((4 : Int32) * x6) + x1) 480 ∧
      vp_in (((4 : Int32) * x6) + x4) 480 ∧
      ∀ z148 : MX, z148 = mw z 15 (Int32.toNatClampNeg (((4 : Int32) * x6) + x4)) (z.1 13 (Int32.toNatClampNeg (((4 : Int32) * x6) + x1))) →
      ∀ x6_149 : Int32, x6_149 = x6 + (1 : Int32) →
      rec119 z148 x1 x2 x3 x4 x5 x6_149))
def pX8_faithsOf_L119 (rec15 : MX → Int32 → Int32 → Int32 → Int32 → Prop) (post : Int32 → MX → Prop) : Nat → MX → Int32 → Int32 → Int32 → Int32 → Int32 → Int32 → Prop
  | 0 => fun _ _ _ _ _ _ _ => False
  | n + 1 => fun z x1 x2 x3 x4 x5 x6 => pX8_faithsOf_l119  rec15 (pX8_faithsOf_L119  rec15 post n) post z x1 x2 x3 x4 x5 x6
def pX8_faithsOf_b108 (rec15 : MX → Int32 → Int32 → Int32 → Int32 → Prop) (rec42 : MX → Int32 → Int32 → Int32 → Int32 → Int32 → Int32 → Prop) (post : Int32 → MX → Prop) (z : MX) (x1 : Int32) (x2 : Int32) (x3 : Int32) (x4 : Int32) (x6 : Int32) (y0 : Int32) : Prop :=
    ∀ x6_110 : Int32, x6_110 = x6 + (1 : Int32) →
    rec42 z x1 x2 x3 x4 y0 x6_110
def pX8_faithsOf_b107 (rec15 : MX → Int32 → Int32 → Int32 → Int32 → Prop) (rec42 : MX → Int32 → Int32 → Int32 → Int32 → Int32 → Int32 → Prop) (post : Int32 → MX → Prop) (z : MX) (x1 : Int32) (x2 : Int32) (x3 : Int32) (x4 : Int32) (x6 : Int32) : Prop :=
    pX8_faithsOf_b108  rec15 rec42 post z x1 x2 x3 x4 x6 (0 : Int32)
def pX8_faithsOf_b103 (rec15 : MX → Int32 → Int32 → Int32 → Int32 → Prop) (rec42 : MX → Int32 → Int32 → Int32 → Int32 → Int32 → Int32 → Prop) (post : Int32 → MX → Prop) (z : MX) (x1 : Int32) (x2 : Int32) (x3 : Int32) (x4 : Int32) (x6 : Int32) : Prop :=
    pX8_faithsOf_b108  rec15 rec42 post z x1 x2 x3 x4 x6 (1 : Int32)
def pX8_faithsOf_l42 (rec15 : MX → Int32 → Int32 → Int32 → Int32 → Prop) (rec42 : MX → Int32 → Int32 → Int32 → Int32 → Int32 → Int32 → Prop) (post : Int32 → MX → Prop) (z : MX) (x1 : Int32) (x2 : Int32) (x3 : Int32) (x4 : Int32) (x5 : Int32) (x6 : Int32) : Prop :=
    (((z.1 0 37) ≤ x6 →
      ∃ n, pX8_faithsOf_L119  rec15 post n z x1 x2 x3 x4 x5 (0 : Int32)) ∧
    (¬ (z.1 0 37) ≤ x6 →
      ((x5 = 0 →
        pX8_faithsOf_b107  rec15 rec42 post z x1 x2 x3 x4 x6) ∧
      (¬ x5 = 0 →
        vp_in ((3 : Int32) * x6) 18 ∧
        ((¬ (z.1 14 (Int32.toNatClampNeg ((3 : Int32) * x6))) = x1 →
          pX8_faithsOf_b103  rec15 rec42 post z x1 x2 x3 x4 x6) ∧
        ((z.1 14 (Int32.toNatClampNeg ((3 : Int32) * x6))) = x1 →
          vp_in (((3 : Int32) * x6) + (1 : Int32)) 18 ∧
          vp_in (((4 : Int32) * (z.1 14 (Int32.toNatClampNeg (((3 : Int32) * x6) + (1 : Int32))))) + x1) 480 ∧
          vp_in (((3 : Int32) * x6) + (2 : Int32)) 18 ∧
          ((¬ (z.1 13 (Int32.toNatClampNeg (((4 : Int32) * (z.1 14 (Int32.toNatClampNeg (((3 : Int32) * x6) + (1 : Int32))))) + x1))) = (z.1 14 (Int32.toNatClampNeg (((3 : Int32) * x6) + (2 : Int32)))) →
            pX8_faithsOf_b107  rec15 rec42 post z x1 x2 x3 x4 x6) ∧
          ((z.1 13 (Int32.toNatClampNeg (((4 : Int32) * (z.1 14 (Int32.toNatClampNeg (((3 : Int32) * x6) + (1 : Int32))))) + x1))) = (z.1 14 (Int32.toNatClampNeg (((3 : Int32) * x6) + (2 : Int32)))) →
            pX8_faithsOf_b103  rec15 rec42 post z x1 x2 x3 x4 x6))))))))
def pX8_faithsOf_L42 (rec15 : MX → Int32 → Int32 → Int32 → Int32 → Prop) (post : Int32 → MX → Prop) : Nat → MX → Int32 → Int32 → Int32 → Int32 → Int32 → Int32 → Prop
  | 0 => fun _ _ _ _ _ _ _ => False
  | n + 1 => fun z x1 x2 x3 x4 x5 x6 => pX8_faithsOf_l42  rec15 (pX8_faithsOf_L42  rec15 post n) post z x1 x2 x3 x4 x5 x6
def pX8_faithsOf_l15 (rec15 : MX → Int32 → Int32 → Int32 → Int32 → Prop) (post : Int32 → MX → Prop) (z : MX) (x1 : Int32) (x2 : Int32) (x3 : Int32) (x4 : Int32) : Prop :=
    (((4 : Int32) ≤ x4 →
      vp_in ((9 : Int32) + x1) 125 ∧
      ∀ z186 : MX, z186 = mw z 1 (Int32.toNatClampNeg ((9 : Int32) + x1)) x3 →
      post x2 z186) ∧
    (¬ (4 : Int32) ≤ x4 →
      vp_in ((9 : Int32) + x1) 125 ∧
      ∀ z31 : MX, z31 = mw z 1 (Int32.toNatClampNeg ((9 : Int32) + x1)) x4 →
      pX8_run z31 (fun (z33 : MX) =>
      ∃ n, pX8_faithsOf_L42  rec15 post n z33 x1 x2 x3 x4 (1 : Int32) (0 : Int32))))
def pX8_faithsOf_L15 (post : Int32 → MX → Prop) : Nat → MX → Int32 → Int32 → Int32 → Int32 → Prop
  | 0 => fun _ _ _ _ _ => False
  | n + 1 => fun z x1 x2 x3 x4 => pX8_faithsOf_l15  (pX8_faithsOf_L15  post n) post z x1 x2 x3 x4
def pX8_faithsOf (z : MX) (x1 : Int32) (post : Int32 → MX → Prop) : Prop :=
  vp_in ((9 : Int32) + x1) 125 ∧
  ∀ x3_11 : Int32, x3_11 = z.1 1 (Int32.toNatClampNeg ((9 : Int32) + x1)) →
  ∃ n, pX8_faithsOf_L15  post n z x1 (0 : Int32) x3_11 (0 : Int32)
set_option maxHeartbeats 4000000 in
set_option maxRecDepth 100000 in
theorem kX8_faithsOf (l : Launch) (D : va_G) (q : Nat → ClassId) (ad : Nat → Nat) (A : Nat → Prop) (hD : ∀ z, va_D A (WM q ad z)) (z : MX) (x1 : Int32) (post : Int32 → MX → Prop) (h : pX8_faithsOf  z x1 post) : Met l yX8_faithsOf (cW yX8_faithsOf cX8_faithsOf 7 (some .int)) ({ frames := 4, cells := 0, slots := 0, locals := 88 } : Room) (va_Pc [.ref (ad 0), .int x1] ((gB D vwCl (WM q ad) (mE D q)) z)) (va_Qi post (gB D vwCl (WM q ad) (mE D q)) A) 0 0 A := by
  refine Met.ofW (cc := cX8_faithsOf) (maxL := 7) (ret := (some .int)) (by decide) rfl ?_
  intro p e s m args below meth c s₁ B hml hv
  obtain ⟨hargs, hP, hE⟩ := hv
  have hx := B.exec
  have hb := B.bytes
  have hr := B.returns
  have hts := atoms_spec (ws := (cW yX8_faithsOf cX8_faithsOf 7 (some .int))) B.pre
  have ht : ∀ w ∈ tG, w.before args s = true := fun w h => hts w (List.mem_cons_of_mem _ h)
  have hown : s.vm.findClass RX8 = some m.cls := findClass_of_methodNamed B.named
  have hlocks := B.notSynchronized
  have hK := hE.1
  have hG := mE_G D q A
  have S : CallFix p m c cX8_faithsOf 7 s args tG RX8 := ⟨hx, hb, hml, hown, ht⟩
  have hS : va_S A s.heap s.heap [] := va_S.rf
  have B169 : ∀ (rec15 : MX → Int32 → Int32 → Int32 → Int32 → Prop) (hrec15 : ∀ (z : MX) (x1 : Int32) (x2 : Int32) (x3 : Int32) (x4 : Int32) (H : Heap) (locs : List Loc) (ls : Array Slot), rec15 z x1 x2 x3 x4 → va_P D vwCl (WM q ad z) H → va_S A s.heap H locs → lv_has ls 7 [(0, .ref (ad 0)), (1, .int x1), (2, .int x2), (3, .int x3), (4, .int x4)] → W p l e (headSpec (cW yX8_faithsOf cX8_faithsOf 7 (some .int)) ({ frames := 4, cells := 0, slots := 0, locals := 88 } : Room)).room s m args below meth c H locs 0 0 (MQ below (va_Qi post (gB D vwCl (WM q ad) (mE D q)) A) args s 0 0 A) (F0 m 15 ls [])) (z : MX) (x1 : Int32) (x3 : Int32) (x4 : Int32) (y0 : Int32) (y1 : Int32) (H : Heap) (locs : List Loc) (ls : Array Slot), pX8_faithsOf_b169  rec15 post z x1 x3 x4 y0 y1 → va_P D vwCl (WM q ad z) H → va_S A s.heap H locs → lv_has ls 7 [(0, .ref (ad 0)), (1, .int x1), (3, .int x3), (4, .int x4)] → W p l e (headSpec (cW yX8_faithsOf cX8_faithsOf 7 (some .int)) ({ frames := 4, cells := 0, slots := 0, locals := 88 } : Room)).room s m args below meth c H locs 0 0 (MQ below (va_Qi post (gB D vwCl (WM q ad) (mE D q)) A) args s 0 0 A) (F0 m 169 ls [.int y1, .int y0]) := by
    intro rec15 hrec15 z x1 x3 x4 y0 y1 H locs ls h hP hS hl
    unfold pX8_faithsOf_b169 at h
    refine lv_ior hx hb dX8_faithsOf_169 ?_
    refine lv_topi (fun x2_170 ex2_170 => ?_)
    have h := h x2_170 ex2_170
    refine lv_istore_n (lv' := [(2, .int x2_170), (0, .ref (ad 0)), (1, .int x1), (3, .int x3), (4, .int x4)]) hx hb dX8_faithsOf_170 rfl hl (by decide) rfl (fun ls hl => ?_)
    obtain ⟨x4_171, ex4_171⟩ : ∃ w : Int32, w = x4 + (1 : Int32) := ⟨_, rfl⟩
    have h := h x4_171 ex4_171
    refine lv_iinc (v := x4_171) (lv' := [(4, .int x4_171), (2, .int x2_170), (0, .ref (ad 0)), (1, .int x1), (3, .int x3)]) hx hb dX8_faithsOf_171 hl (k := 4) rfl (by rw [ex4_171]; rfl) (by decide) rfl (fun ls hl => ?_)
    refine lv_goto (tgt := 15) hx hb dX8_faithsOf_174 (by decide) ?_
    exact hrec15 z x1 x2_170 x3 x4_171 _ _ _ h hP hS (lv_sub hl [2, 3, 1, 4, 0] rfl)
  have B119 : ∀ (rec15 : MX → Int32 → Int32 → Int32 → Int32 → Prop) (rec119 : MX → Int32 → Int32 → Int32 → Int32 → Int32 → Int32 → Prop) (hrec15 : ∀ (z : MX) (x1 : Int32) (x2 : Int32) (x3 : Int32) (x4 : Int32) (H : Heap) (locs : List Loc) (ls : Array Slot), rec15 z x1 x2 x3 x4 → va_P D vwCl (WM q ad z) H → va_S A s.heap H locs → lv_has ls 7 [(0, .ref (ad 0)), (1, .int x1), (2, .int x2), (3, .int x3), (4, .int x4)] → W p l e (headSpec (cW yX8_faithsOf cX8_faithsOf 7 (some .int)) ({ frames := 4, cells := 0, slots := 0, locals := 88 } : Room)).room s m args below meth c H locs 0 0 (MQ below (va_Qi post (gB D vwCl (WM q ad) (mE D q)) A) args s 0 0 A) (F0 m 15 ls [])) (hrec119 : ∀ (z : MX) (x1 : Int32) (x2 : Int32) (x3 : Int32) (x4 : Int32) (x5 : Int32) (x6 : Int32) (H : Heap) (locs : List Loc) (ls : Array Slot), rec119 z x1 x2 x3 x4 x5 x6 → va_P D vwCl (WM q ad z) H → va_S A s.heap H locs → lv_has ls 7 [(0, .ref (ad 0)), (1, .int x1), (2, .int x2), (3, .int x3), (4, .int x4), (5, .int x5), (6, .int x6)] → W p l e (headSpec (cW yX8_faithsOf cX8_faithsOf 7 (some .int)) ({ frames := 4, cells := 0, slots := 0, locals := 88 } : Room)).room s m args below meth c H locs 0 0 (MQ below (va_Qi post (gB D vwCl (WM q ad) (mE D q)) A) args s 0 0 A) (F0 m 119 ls [])) (z : MX) (x1 : Int32) (x2 : Int32) (x3 : Int32) (x4 : Int32) (x5 : Int32) (x6 : Int32) (H : Heap) (locs : List Loc) (ls : Array Slot), pX8_faithsOf_l119  rec15 rec119 post z x1 x2 x3 x4 x5 x6 → va_P D vwCl (WM q ad z) H → va_S A s.heap H locs → lv_has ls 7 [(0, .ref (ad 0)), (1, .int x1), (2, .int x2), (3, .int x3), (4, .int x4), (5, .int x5), (6, .int x6)] → W p l e (headSpec (cW yX8_faithsOf cX8_faithsOf 7 (some .int)) ({ frames := 4, cells := 0, slots := 0, locals := 88 } : Room)).room s m args below meth c H locs 0 0 (MQ below (va_Qi post (gB D vwCl (WM q ad) (mE D q)) A) args s 0 0 A) (F0 m 119 ls []) := by
    intro rec15 rec119 hrec15 hrec119 z x1 x2 x3 x4 x5 x6 H locs ls h hP hS hl
    unfold pX8_faithsOf_l119 at h
    refine lv_iload hx hb dX8_faithsOf_119 (lv_at hl 6 rfl) ?_
    refine lv_bipush (v := (119 : Int32)) hx hb dX8_faithsOf_121 (by decide) ?_
    refine lv_icmp_gt (tgt := 155) hx hb dX8_faithsOf_123 (by decide) (fun c123 => ?_) (fun c123 => ?_)
    · have h := h.1 c123
      refine lv_iload_n hx hb dX8_faithsOf_155 rfl (lv_at hl 2 rfl) ?_
      refine lv_iload hx hb dX8_faithsOf_156 (lv_at hl 5 rfl) ?_
      refine lv_if_eq (tgt := 168) hx hb dX8_faithsOf_158 (by decide) (fun c158 => ?_) (fun c158 => ?_)
      · have h := h.1 c158
        refine lv_iconst (v := (0 : Int32)) hx hb dX8_faithsOf_168 (by decide) ?_
        exact B169 rec15 hrec15 z x1 x3 x4 x2 (0 : Int32) _ _ _ h hP hS (lv_sub hl [0, 1, 3, 4] rfl)
      · have h := h.2 c158
        refine lv_iconst (v := (1 : Int32)) hx hb dX8_faithsOf_161 (by decide) ?_
        refine lv_iload hx hb dX8_faithsOf_162 (lv_at hl 4 rfl) ?_
        refine lv_ishl hx hb dX8_faithsOf_164 ?_
        refine lv_goto (tgt := 169) hx hb dX8_faithsOf_165 (by decide) ?_
        exact B169 rec15 hrec15 z x1 x3 x4 x2 ((1 : Int32) <<< (x4 &&& 31)) _ _ _ h hP hS (lv_sub hl [0, 1, 3, 4] rfl)
    · have h := h.2 c123
      refine lv_aload_n hx hb dX8_faithsOf_126 rfl (lv_at hl 0 rfl) ?_
      refine va_get (D := D) (ci := 8) (v := .ref (ad 15)) (C := RX8) (T := TX8) (N := 45) hx hb ht tl_X8 hown hK hP 0 (wm_0 q ad z) rfl 38 (by decide) (ht _ tw_fl_X8_57) (fun _ h9 => h9) rfl dX8_faithsOf_127 ?_
      refine lv_iconst (v := (4 : Int32)) hx hb dX8_faithsOf_130 (by decide) ?_
      refine lv_iload hx hb dX8_faithsOf_131 (lv_at hl 6 rfl) ?_
      refine lv_imul hx hb dX8_faithsOf_133 ?_
      refine lv_iload hx hb dX8_faithsOf_134 (lv_at hl 4 rfl) ?_
      refine lv_iadd hx hb dX8_faithsOf_136 ?_
      refine lv_aload_n hx hb dX8_faithsOf_137 rfl (lv_at hl 0 rfl) ?_
      refine va_get (D := D) (ci := 8) (v := .ref (ad 13)) (C := RX8) (T := TX8) (N := 45) hx hb ht tl_X8 hown hK hP 0 (wm_0 q ad z) rfl 29 (by decide) (ht _ tw_fl_X8_51) (fun _ h9 => h9) rfl dX8_faithsOf_138 ?_
      refine lv_iconst (v := (4 : Int32)) hx hb dX8_faithsOf_141 (by decide) ?_
      refine lv_iload hx hb dX8_faithsOf_142 (lv_at hl 6 rfl) ?_
      refine lv_imul hx hb dX8_faithsOf_144 ?_
      refine lv_iload_n hx hb dX8_faithsOf_145 rfl (lv_at hl 1 rfl) ?_
      refine lv_iadd hx hb dX8_faithsOf_146 ?_
      have hi147 := h.1
      have h := h.2
      refine va_iald hx hb hK hP 13 0 (wm_13 q ad z) rfl hi147 dX8_faithsOf_147 ?_
      have hi148 := h.1
      have h := h.2
      refine g_iast (Wd := WM q ad) (z := z) hx hb hK hP (hD z) hS 15 (wm_15 q ad z) rfl (am_15 q ad z) hi148 dX8_faithsOf_148 (fun z148 H locs hz148 hP hS => ?_)
      have h := h z148 hz148
      obtain ⟨x6_149, ex6_149⟩ : ∃ w : Int32, w = x6 + (1 : Int32) := ⟨_, rfl⟩
      have h := h x6_149 ex6_149
      refine lv_iinc (v := x6_149) (lv' := [(6, .int x6_149), (0, .ref (ad 0)), (1, .int x1), (2, .int x2), (3, .int x3), (4, .int x4), (5, .int x5)]) hx hb dX8_faithsOf_149 hl (k := 6) rfl (by rw [ex6_149]; rfl) (by decide) rfl (fun ls hl => ?_)
      refine lv_goto (tgt := 119) hx hb dX8_faithsOf_152 (by decide) ?_
      exact hrec119 z148 x1 x2 x3 x4 x5 x6_149 _ _ _ h hP hS (lv_sub hl [1, 2, 3, 4, 5, 6, 0] rfl)
  have L119 : ∀ (rec15 : MX → Int32 → Int32 → Int32 → Int32 → Prop) (hrec15 : ∀ (z : MX) (x1 : Int32) (x2 : Int32) (x3 : Int32) (x4 : Int32) (H : Heap) (locs : List Loc) (ls : Array Slot), rec15 z x1 x2 x3 x4 → va_P D vwCl (WM q ad z) H → va_S A s.heap H locs → lv_has ls 7 [(0, .ref (ad 0)), (1, .int x1), (2, .int x2), (3, .int x3), (4, .int x4)] → W p l e (headSpec (cW yX8_faithsOf cX8_faithsOf 7 (some .int)) ({ frames := 4, cells := 0, slots := 0, locals := 88 } : Room)).room s m args below meth c H locs 0 0 (MQ below (va_Qi post (gB D vwCl (WM q ad) (mE D q)) A) args s 0 0 A) (F0 m 15 ls [])) (n : Nat) (z : MX) (x1 : Int32) (x2 : Int32) (x3 : Int32) (x4 : Int32) (x5 : Int32) (x6 : Int32) (H : Heap) (locs : List Loc) (ls : Array Slot), pX8_faithsOf_L119  rec15 post n z x1 x2 x3 x4 x5 x6 → va_P D vwCl (WM q ad z) H → va_S A s.heap H locs → lv_has ls 7 [(0, .ref (ad 0)), (1, .int x1), (2, .int x2), (3, .int x3), (4, .int x4), (5, .int x5), (6, .int x6)] → W p l e (headSpec (cW yX8_faithsOf cX8_faithsOf 7 (some .int)) ({ frames := 4, cells := 0, slots := 0, locals := 88 } : Room)).room s m args below meth c H locs 0 0 (MQ below (va_Qi post (gB D vwCl (WM q ad) (mE D q)) A) args s 0 0 A) (F0 m 119 ls []) := by
    intro rec15 hrec15 n
    induction n with
    | zero =>
      intro z x1 x2 x3 x4 x5 x6 H locs ls h
      exact False.elim h
    | succ n ih =>
      intro z x1 x2 x3 x4 x5 x6 H locs ls h hP hS hl
      exact B119 rec15 (pX8_faithsOf_L119  rec15 post n) hrec15 ih z x1 x2 x3 x4 x5 x6 H locs ls h hP hS hl
  have B108 : ∀ (rec15 : MX → Int32 → Int32 → Int32 → Int32 → Prop) (rec42 : MX → Int32 → Int32 → Int32 → Int32 → Int32 → Int32 → Prop) (hrec15 : ∀ (z : MX) (x1 : Int32) (x2 : Int32) (x3 : Int32) (x4 : Int32) (H : Heap) (locs : List Loc) (ls : Array Slot), rec15 z x1 x2 x3 x4 → va_P D vwCl (WM q ad z) H → va_S A s.heap H locs → lv_has ls 7 [(0, .ref (ad 0)), (1, .int x1), (2, .int x2), (3, .int x3), (4, .int x4)] → W p l e (headSpec (cW yX8_faithsOf cX8_faithsOf 7 (some .int)) ({ frames := 4, cells := 0, slots := 0, locals := 88 } : Room)).room s m args below meth c H locs 0 0 (MQ below (va_Qi post (gB D vwCl (WM q ad) (mE D q)) A) args s 0 0 A) (F0 m 15 ls [])) (hrec42 : ∀ (z : MX) (x1 : Int32) (x2 : Int32) (x3 : Int32) (x4 : Int32) (x5 : Int32) (x6 : Int32) (H : Heap) (locs : List Loc) (ls : Array Slot), rec42 z x1 x2 x3 x4 x5 x6 → va_P D vwCl (WM q ad z) H → va_S A s.heap H locs → lv_has ls 7 [(0, .ref (ad 0)), (1, .int x1), (2, .int x2), (3, .int x3), (4, .int x4), (5, .int x5), (6, .int x6)] → W p l e (headSpec (cW yX8_faithsOf cX8_faithsOf 7 (some .int)) ({ frames := 4, cells := 0, slots := 0, locals := 88 } : Room)).room s m args below meth c H locs 0 0 (MQ below (va_Qi post (gB D vwCl (WM q ad) (mE D q)) A) args s 0 0 A) (F0 m 42 ls [])) (z : MX) (x1 : Int32) (x2 : Int32) (x3 : Int32) (x4 : Int32) (x6 : Int32) (y0 : Int32) (H : Heap) (locs : List Loc) (ls : Array Slot), pX8_faithsOf_b108  rec15 rec42 post z x1 x2 x3 x4 x6 y0 → va_P D vwCl (WM q ad z) H → va_S A s.heap H locs → lv_has ls 7 [(0, .ref (ad 0)), (1, .int x1), (2, .int x2), (3, .int x3), (4, .int x4), (6, .int x6)] → W p l e (headSpec (cW yX8_faithsOf cX8_faithsOf 7 (some .int)) ({ frames := 4, cells := 0, slots := 0, locals := 88 } : Room)).room s m args below meth c H locs 0 0 (MQ below (va_Qi post (gB D vwCl (WM q ad) (mE D q)) A) args s 0 0 A) (F0 m 108 ls [.int y0]) := by
    intro rec15 rec42 hrec15 hrec42 z x1 x2 x3 x4 x6 y0 H locs ls h hP hS hl
    unfold pX8_faithsOf_b108 at h
    refine lv_istore (lv' := [(5, .int y0), (0, .ref (ad 0)), (1, .int x1), (2, .int x2), (3, .int x3), (4, .int x4), (6, .int x6)]) hx hb dX8_faithsOf_108 hl (by decide) rfl (fun ls hl => ?_)
    obtain ⟨x6_110, ex6_110⟩ : ∃ w : Int32, w = x6 + (1 : Int32) := ⟨_, rfl⟩
    have h := h x6_110 ex6_110
    refine lv_iinc (v := x6_110) (lv' := [(6, .int x6_110), (5, .int y0), (0, .ref (ad 0)), (1, .int x1), (2, .int x2), (3, .int x3), (4, .int x4)]) hx hb dX8_faithsOf_110 hl (k := 6) rfl (by rw [ex6_110]; rfl) (by decide) rfl (fun ls hl => ?_)
    refine lv_goto (tgt := 42) hx hb dX8_faithsOf_113 (by decide) ?_
    exact hrec42 z x1 x2 x3 x4 y0 x6_110 _ _ _ h hP hS (lv_sub hl [2, 3, 4, 5, 6, 1, 0] rfl)
  have B107 : ∀ (rec15 : MX → Int32 → Int32 → Int32 → Int32 → Prop) (rec42 : MX → Int32 → Int32 → Int32 → Int32 → Int32 → Int32 → Prop) (hrec15 : ∀ (z : MX) (x1 : Int32) (x2 : Int32) (x3 : Int32) (x4 : Int32) (H : Heap) (locs : List Loc) (ls : Array Slot), rec15 z x1 x2 x3 x4 → va_P D vwCl (WM q ad z) H → va_S A s.heap H locs → lv_has ls 7 [(0, .ref (ad 0)), (1, .int x1), (2, .int x2), (3, .int x3), (4, .int x4)] → W p l e (headSpec (cW yX8_faithsOf cX8_faithsOf 7 (some .int)) ({ frames := 4, cells := 0, slots := 0, locals := 88 } : Room)).room s m args below meth c H locs 0 0 (MQ below (va_Qi post (gB D vwCl (WM q ad) (mE D q)) A) args s 0 0 A) (F0 m 15 ls [])) (hrec42 : ∀ (z : MX) (x1 : Int32) (x2 : Int32) (x3 : Int32) (x4 : Int32) (x5 : Int32) (x6 : Int32) (H : Heap) (locs : List Loc) (ls : Array Slot), rec42 z x1 x2 x3 x4 x5 x6 → va_P D vwCl (WM q ad z) H → va_S A s.heap H locs → lv_has ls 7 [(0, .ref (ad 0)), (1, .int x1), (2, .int x2), (3, .int x3), (4, .int x4), (5, .int x5), (6, .int x6)] → W p l e (headSpec (cW yX8_faithsOf cX8_faithsOf 7 (some .int)) ({ frames := 4, cells := 0, slots := 0, locals := 88 } : Room)).room s m args below meth c H locs 0 0 (MQ below (va_Qi post (gB D vwCl (WM q ad) (mE D q)) A) args s 0 0 A) (F0 m 42 ls [])) (z : MX) (x1 : Int32) (x2 : Int32) (x3 : Int32) (x4 : Int32) (x6 : Int32) (H : Heap) (locs : List Loc) (ls : Array Slot), pX8_faithsOf_b107  rec15 rec42 post z x1 x2 x3 x4 x6 → va_P D vwCl (WM q ad z) H → va_S A s.heap H locs → lv_has ls 7 [(0, .ref (ad 0)), (1, .int x1), (2, .int x2), (3, .int x3), (4, .int x4), (6, .int x6)] → W p l e (headSpec (cW yX8_faithsOf cX8_faithsOf 7 (some .int)) ({ frames := 4, cells := 0, slots := 0, locals := 88 } : Room)).room s m args below meth c H locs 0 0 (MQ below (va_Qi post (gB D vwCl (WM q ad) (mE D q)) A) args s 0 0 A) (F0 m 107 ls []) := by
    intro rec15 rec42 hrec15 hrec42 z x1 x2 x3 x4 x6 H locs ls h hP hS hl
    unfold pX8_faithsOf_b107 at h
    refine lv_iconst (v := (0 : Int32)) hx hb dX8_faithsOf_107 (by decide) ?_
    exact B108 rec15 rec42 hrec15 hrec42 z x1 x2 x3 x4 x6 (0 : Int32) _ _ _ h hP hS (lv_sub hl [0, 1, 2, 3, 4, 5] rfl)
  have B103 : ∀ (rec15 : MX → Int32 → Int32 → Int32 → Int32 → Prop) (rec42 : MX → Int32 → Int32 → Int32 → Int32 → Int32 → Int32 → Prop) (hrec15 : ∀ (z : MX) (x1 : Int32) (x2 : Int32) (x3 : Int32) (x4 : Int32) (H : Heap) (locs : List Loc) (ls : Array Slot), rec15 z x1 x2 x3 x4 → va_P D vwCl (WM q ad z) H → va_S A s.heap H locs → lv_has ls 7 [(0, .ref (ad 0)), (1, .int x1), (2, .int x2), (3, .int x3), (4, .int x4)] → W p l e (headSpec (cW yX8_faithsOf cX8_faithsOf 7 (some .int)) ({ frames := 4, cells := 0, slots := 0, locals := 88 } : Room)).room s m args below meth c H locs 0 0 (MQ below (va_Qi post (gB D vwCl (WM q ad) (mE D q)) A) args s 0 0 A) (F0 m 15 ls [])) (hrec42 : ∀ (z : MX) (x1 : Int32) (x2 : Int32) (x3 : Int32) (x4 : Int32) (x5 : Int32) (x6 : Int32) (H : Heap) (locs : List Loc) (ls : Array Slot), rec42 z x1 x2 x3 x4 x5 x6 → va_P D vwCl (WM q ad z) H → va_S A s.heap H locs → lv_has ls 7 [(0, .ref (ad 0)), (1, .int x1), (2, .int x2), (3, .int x3), (4, .int x4), (5, .int x5), (6, .int x6)] → W p l e (headSpec (cW yX8_faithsOf cX8_faithsOf 7 (some .int)) ({ frames := 4, cells := 0, slots := 0, locals := 88 } : Room)).room s m args below meth c H locs 0 0 (MQ below (va_Qi post (gB D vwCl (WM q ad) (mE D q)) A) args s 0 0 A) (F0 m 42 ls [])) (z : MX) (x1 : Int32) (x2 : Int32) (x3 : Int32) (x4 : Int32) (x6 : Int32) (H : Heap) (locs : List Loc) (ls : Array Slot), pX8_faithsOf_b103  rec15 rec42 post z x1 x2 x3 x4 x6 → va_P D vwCl (WM q ad z) H → va_S A s.heap H locs → lv_has ls 7 [(0, .ref (ad 0)), (1, .int x1), (2, .int x2), (3, .int x3), (4, .int x4), (6, .int x6)] → W p l e (headSpec (cW yX8_faithsOf cX8_faithsOf 7 (some .int)) ({ frames := 4, cells := 0, slots := 0, locals := 88 } : Room)).room s m args below meth c H locs 0 0 (MQ below (va_Qi post (gB D vwCl (WM q ad) (mE D q)) A) args s 0 0 A) (F0 m 103 ls []) := by
    intro rec15 rec42 hrec15 hrec42 z x1 x2 x3 x4 x6 H locs ls h hP hS hl
    unfold pX8_faithsOf_b103 at h
    refine lv_iconst (v := (1 : Int32)) hx hb dX8_faithsOf_103 (by decide) ?_
    refine lv_goto (tgt := 108) hx hb dX8_faithsOf_104 (by decide) ?_
    exact B108 rec15 rec42 hrec15 hrec42 z x1 x2 x3 x4 x6 (1 : Int32) _ _ _ h hP hS (lv_sub hl [0, 1, 2, 3, 4, 5] rfl)
  have B42 : ∀ (rec15 : MX → Int32 → Int32 → Int32 → Int32 → Prop) (rec42 : MX → Int32 → Int32 → Int32 → Int32 → Int32 → Int32 → Prop) (hrec15 : ∀ (z : MX) (x1 : Int32) (x2 : Int32) (x3 : Int32) (x4 : Int32) (H : Heap) (locs : List Loc) (ls : Array Slot), rec15 z x1 x2 x3 x4 → va_P D vwCl (WM q ad z) H → va_S A s.heap H locs → lv_has ls 7 [(0, .ref (ad 0)), (1, .int x1), (2, .int x2), (3, .int x3), (4, .int x4)] → W p l e (headSpec (cW yX8_faithsOf cX8_faithsOf 7 (some .int)) ({ frames := 4, cells := 0, slots := 0, locals := 88 } : Room)).room s m args below meth c H locs 0 0 (MQ below (va_Qi post (gB D vwCl (WM q ad) (mE D q)) A) args s 0 0 A) (F0 m 15 ls [])) (hrec42 : ∀ (z : MX) (x1 : Int32) (x2 : Int32) (x3 : Int32) (x4 : Int32) (x5 : Int32) (x6 : Int32) (H : Heap) (locs : List Loc) (ls : Array Slot), rec42 z x1 x2 x3 x4 x5 x6 → va_P D vwCl (WM q ad z) H → va_S A s.heap H locs → lv_has ls 7 [(0, .ref (ad 0)), (1, .int x1), (2, .int x2), (3, .int x3), (4, .int x4), (5, .int x5), (6, .int x6)] → W p l e (headSpec (cW yX8_faithsOf cX8_faithsOf 7 (some .int)) ({ frames := 4, cells := 0, slots := 0, locals := 88 } : Room)).room s m args below meth c H locs 0 0 (MQ below (va_Qi post (gB D vwCl (WM q ad) (mE D q)) A) args s 0 0 A) (F0 m 42 ls [])) (z : MX) (x1 : Int32) (x2 : Int32) (x3 : Int32) (x4 : Int32) (x5 : Int32) (x6 : Int32) (H : Heap) (locs : List Loc) (ls : Array Slot), pX8_faithsOf_l42  rec15 rec42 post z x1 x2 x3 x4 x5 x6 → va_P D vwCl (WM q ad z) H → va_S A s.heap H locs → lv_has ls 7 [(0, .ref (ad 0)), (1, .int x1), (2, .int x2), (3, .int x3), (4, .int x4), (5, .int x5), (6, .int x6)] → W p l e (headSpec (cW yX8_faithsOf cX8_faithsOf 7 (some .int)) ({ frames := 4, cells := 0, slots := 0, locals := 88 } : Room)).room s m args below meth c H locs 0 0 (MQ below (va_Qi post (gB D vwCl (WM q ad) (mE D q)) A) args s 0 0 A) (F0 m 42 ls []) := by
    intro rec15 rec42 hrec15 hrec42 z x1 x2 x3 x4 x5 x6 H locs ls h hP hS hl
    unfold pX8_faithsOf_l42 at h
    refine lv_iload hx hb dX8_faithsOf_42 (lv_at hl 6 rfl) ?_
    refine lv_aload_n hx hb dX8_faithsOf_44 rfl (lv_at hl 0 rfl) ?_
    refine va_get (D := D) (ci := 8) (v := .int (z.1 0 37)) (C := RX8) (T := TX8) (N := 45) hx hb ht tl_X8 hown hK hP 0 (wm_0 q ad z) rfl 37 (by decide) (ht _ tw_fl_X8_179) (fun _ h9 => h9) rfl dX8_faithsOf_45 ?_
    refine lv_icmp_ge (tgt := 116) hx hb dX8_faithsOf_48 (by decide) (fun c48 => ?_) (fun c48 => ?_)
    · have h := h.1 c48
      refine lv_iconst (v := (0 : Int32)) hx hb dX8_faithsOf_116 (by decide) ?_
      refine lv_istore (lv' := [(6, .int (0 : Int32)), (0, .ref (ad 0)), (1, .int x1), (2, .int x2), (3, .int x3), (4, .int x4), (5, .int x5)]) hx hb dX8_faithsOf_117 hl (by decide) rfl (fun ls hl => ?_)
      obtain ⟨n, h⟩ := h
      exact L119 rec15 hrec15 n z x1 x2 x3 x4 x5 (0 : Int32) _ _ _ h hP hS (lv_sub hl [1, 2, 3, 4, 5, 6, 0] rfl)
    · have h := h.2 c48
      refine lv_iload hx hb dX8_faithsOf_51 (lv_at hl 5 rfl) ?_
      refine lv_if_eq (tgt := 107) hx hb dX8_faithsOf_53 (by decide) (fun c53 => ?_) (fun c53 => ?_)
      · have h := h.1 c53
        exact B107 rec15 rec42 hrec15 hrec42 z x1 x2 x3 x4 x6 _ _ _ h hP hS (lv_sub hl [0, 1, 2, 3, 4, 6] rfl)
      · have h := h.2 c53
        refine lv_aload_n hx hb dX8_faithsOf_56 rfl (lv_at hl 0 rfl) ?_
        refine va_get (D := D) (ci := 8) (v := .ref (ad 14)) (C := RX8) (T := TX8) (N := 45) hx hb ht tl_X8 hown hK hP 0 (wm_0 q ad z) rfl 36 (by decide) (ht _ tw_fl_X8_54) (fun _ h9 => h9) rfl dX8_faithsOf_57 ?_
        refine lv_iconst (v := (3 : Int32)) hx hb dX8_faithsOf_60 (by decide) ?_
        refine lv_iload hx hb dX8_faithsOf_61 (lv_at hl 6 rfl) ?_
        refine lv_imul hx hb dX8_faithsOf_63 ?_
        have hi64 := h.1
        have h := h.2
        refine va_iald hx hb hK hP 14 0 (wm_14 q ad z) rfl hi64 dX8_faithsOf_64 ?_
        refine lv_iload_n hx hb dX8_faithsOf_65 rfl (lv_at hl 1 rfl) ?_
        refine lv_icmp_ne (tgt := 103) hx hb dX8_faithsOf_66 (by decide) (fun c66 => ?_) (fun c66 => ?_)
        · have h := h.1 c66
          exact B103 rec15 rec42 hrec15 hrec42 z x1 x2 x3 x4 x6 _ _ _ h hP hS (lv_sub hl [0, 1, 2, 3, 4, 6] rfl)
        · have h := h.2 c66
          refine lv_aload_n hx hb dX8_faithsOf_69 rfl (lv_at hl 0 rfl) ?_
          refine va_get (D := D) (ci := 8) (v := .ref (ad 13)) (C := RX8) (T := TX8) (N := 45) hx hb ht tl_X8 hown hK hP 0 (wm_0 q ad z) rfl 29 (by decide) (ht _ tw_fl_X8_51) (fun _ h9 => h9) rfl dX8_faithsOf_70 ?_
          refine lv_iconst (v := (4 : Int32)) hx hb dX8_faithsOf_73 (by decide) ?_
          refine lv_aload_n hx hb dX8_faithsOf_74 rfl (lv_at hl 0 rfl) ?_
          refine va_get (D := D) (ci := 8) (v := .ref (ad 14)) (C := RX8) (T := TX8) (N := 45) hx hb ht tl_X8 hown hK hP 0 (wm_0 q ad z) rfl 36 (by decide) (ht _ tw_fl_X8_54) (fun _ h9 => h9) rfl dX8_faithsOf_75 ?_
          refine lv_iconst (v := (3 : Int32)) hx hb dX8_faithsOf_78 (by decide) ?_
          refine lv_iload hx hb dX8_faithsOf_79 (lv_at hl 6 rfl) ?_
          refine lv_imul hx hb dX8_faithsOf_81 ?_
          refine lv_iconst (v := (1 : Int32)) hx hb dX8_faithsOf_82 (by decide) ?_
          refine lv_iadd hx hb dX8_faithsOf_83 ?_
          have hi84 := h.1
          have h := h.2
          refine va_iald hx hb hK hP 14 0 (wm_14 q ad z) rfl hi84 dX8_faithsOf_84 ?_
          refine lv_imul hx hb dX8_faithsOf_85 ?_
          refine lv_iload_n hx hb dX8_faithsOf_86 rfl (lv_at hl 1 rfl) ?_
          refine lv_iadd hx hb dX8_faithsOf_87 ?_
          have hi88 := h.1
          have h := h.2
          refine va_iald hx hb hK hP 13 0 (wm_13 q ad z) rfl hi88 dX8_faithsOf_88 ?_
          refine lv_aload_n hx hb dX8_faithsOf_89 rfl (lv_at hl 0 rfl) ?_
          refine va_get (D := D) (ci := 8) (v := .ref (ad 14)) (C := RX8) (T := TX8) (N := 45) hx hb ht tl_X8 hown hK hP 0 (wm_0 q ad z) rfl 36 (by decide) (ht _ tw_fl_X8_54) (fun _ h9 => h9) rfl dX8_faithsOf_90 ?_
          refine lv_iconst (v := (3 : Int32)) hx hb dX8_faithsOf_93 (by decide) ?_
          refine lv_iload hx hb dX8_faithsOf_94 (lv_at hl 6 rfl) ?_
          refine lv_imul hx hb dX8_faithsOf_96 ?_
          refine lv_iconst (v := (2 : Int32)) hx hb dX8_faithsOf_97 (by decide) ?_
          refine lv_iadd hx hb dX8_faithsOf_98 ?_
          have hi99 := h.1
          have h := h.2
          refine va_iald hx hb hK hP 14 0 (wm_14 q ad z) rfl hi99 dX8_faithsOf_99 ?_
          refine lv_icmp_ne (tgt := 107) hx hb dX8_faithsOf_100 (by decide) (fun c100 => ?_) (fun c100 => ?_)
          · have h := h.1 c100
            exact B107 rec15 rec42 hrec15 hrec42 z x1 x2 x3 x4 x6 _ _ _ h hP hS (lv_sub hl [0, 1, 2, 3, 4, 6] rfl)
          · have h := h.2 c100
            exact B103 rec15 rec42 hrec15 hrec42 z x1 x2 x3 x4 x6 _ _ _ h hP hS (lv_sub hl [0, 1, 2, 3, 4, 6] rfl)
  have L42 : ∀ (rec15 : MX → Int32 → Int32 → Int32 → Int32 → Prop) (hrec15 : ∀ (z : MX) (x1 : Int32) (x2 : Int32) (x3 : Int32) (x4 : Int32) (H : Heap) (locs : List Loc) (ls : Array Slot), rec15 z x1 x2 x3 x4 → va_P D vwCl (WM q ad z) H → va_S A s.heap H locs → lv_has ls 7 [(0, .ref (ad 0)), (1, .int x1), (2, .int x2), (3, .int x3), (4, .int x4)] → W p l e (headSpec (cW yX8_faithsOf cX8_faithsOf 7 (some .int)) ({ frames := 4, cells := 0, slots := 0, locals := 88 } : Room)).room s m args below meth c H locs 0 0 (MQ below (va_Qi post (gB D vwCl (WM q ad) (mE D q)) A) args s 0 0 A) (F0 m 15 ls [])) (n : Nat) (z : MX) (x1 : Int32) (x2 : Int32) (x3 : Int32) (x4 : Int32) (x5 : Int32) (x6 : Int32) (H : Heap) (locs : List Loc) (ls : Array Slot), pX8_faithsOf_L42  rec15 post n z x1 x2 x3 x4 x5 x6 → va_P D vwCl (WM q ad z) H → va_S A s.heap H locs → lv_has ls 7 [(0, .ref (ad 0)), (1, .int x1), (2, .int x2), (3, .int x3), (4, .int x4), (5, .int x5), (6, .int x6)] → W p l e (headSpec (cW yX8_faithsOf cX8_faithsOf 7 (some .int)) ({ frames := 4, cells := 0, slots := 0, locals := 88 } : Room)).room s m args below meth c H locs 0 0 (MQ below (va_Qi post (gB D vwCl (WM q ad) (mE D q)) A) args s 0 0 A) (F0 m 42 ls []) := by
    intro rec15 hrec15 n
    induction n with
    | zero =>
      intro z x1 x2 x3 x4 x5 x6 H locs ls h
      exact False.elim h
    | succ n ih =>
      intro z x1 x2 x3 x4 x5 x6 H locs ls h hP hS hl
      exact B42 rec15 (pX8_faithsOf_L42  rec15 post n) hrec15 ih z x1 x2 x3 x4 x5 x6 H locs ls h hP hS hl
  have B15 : ∀ (rec15 : MX → Int32 → Int32 → Int32 → Int32 → Prop) (hrec15 : ∀ (z : MX) (x1 : Int32) (x2 : Int32) (x3 : Int32) (x4 : Int32) (H : Heap) (locs : List Loc) (ls : Array Slot), rec15 z x1 x2 x3 x4 → va_P D vwCl (WM q ad z) H → va_S A s.heap H locs → lv_has ls 7 [(0, .ref (ad 0)), (1, .int x1), (2, .int x2), (3, .int x3), (4, .int x4)] → W p l e (headSpec (cW yX8_faithsOf cX8_faithsOf 7 (some .int)) ({ frames := 4, cells := 0, slots := 0, locals := 88 } : Room)).room s m args below meth c H locs 0 0 (MQ below (va_Qi post (gB D vwCl (WM q ad) (mE D q)) A) args s 0 0 A) (F0 m 15 ls [])) (z : MX) (x1 : Int32) (x2 : Int32) (x3 : Int32) (x4 : Int32) (H : Heap) (locs : List Loc) (ls : Array Slot), pX8_faithsOf_l15  rec15 post z x1 x2 x3 x4 → va_P D vwCl (WM q ad z) H → va_S A s.heap H locs → lv_has ls 7 [(0, .ref (ad 0)), (1, .int x1), (2, .int x2), (3, .int x3), (4, .int x4)] → W p l e (headSpec (cW yX8_faithsOf cX8_faithsOf 7 (some .int)) ({ frames := 4, cells := 0, slots := 0, locals := 88 } : Room)).room s m args below meth c H locs 0 0 (MQ below (va_Qi post (gB D vwCl (WM q ad) (mE D q)) A) args s 0 0 A) (F0 m 15 ls []) := by
    intro rec15 hrec15 z x1 x2 x3 x4 H locs ls h hP hS hl
    unfold pX8_faithsOf_l15 at h
    refine lv_iload hx hb dX8_faithsOf_15 (lv_at hl 4 rfl) ?_
    refine lv_iconst (v := (4 : Int32)) hx hb dX8_faithsOf_17 (by decide) ?_
    refine lv_icmp_ge (tgt := 177) hx hb dX8_faithsOf_18 (by decide) (fun c18 => ?_) (fun c18 => ?_)
    · have h := h.1 c18
      refine lv_aload_n hx hb dX8_faithsOf_177 rfl (lv_at hl 0 rfl) ?_
      refine va_get (D := D) (ci := 8) (v := .ref (ad 1)) (C := RX8) (T := TX8) (N := 45) hx hb ht tl_X8 hown hK hP 0 (wm_0 q ad z) rfl 0 (by decide) (ht _ tw_fl_X8_7) (fun _ h9 => h9) rfl dX8_faithsOf_178 ?_
      refine lv_bipush (v := (9 : Int32)) hx hb dX8_faithsOf_181 (by decide) ?_
      refine lv_iload_n hx hb dX8_faithsOf_183 rfl (lv_at hl 1 rfl) ?_
      refine lv_iadd hx hb dX8_faithsOf_184 ?_
      refine lv_iload_n hx hb dX8_faithsOf_185 rfl (lv_at hl 3 rfl) ?_
      have hi186 := h.1
      have h := h.2
      refine g_iast (Wd := WM q ad) (z := z) hx hb hK hP (hD z) hS 1 (wm_1 q ad z) rfl (am_1 q ad z) hi186 dX8_faithsOf_186 (fun z186 H locs hz186 hP hS => ?_)
      have h := h z186 hz186
      refine lv_iload_n hx hb dX8_faithsOf_187 rfl (lv_at hl 2 rfl) ?_
      exact g_ri hG hx hb hr hlocks hE hP hS h dX8_faithsOf_188
    · have h := h.2 c18
      refine lv_aload_n hx hb dX8_faithsOf_21 rfl (lv_at hl 0 rfl) ?_
      refine va_get (D := D) (ci := 8) (v := .ref (ad 1)) (C := RX8) (T := TX8) (N := 45) hx hb ht tl_X8 hown hK hP 0 (wm_0 q ad z) rfl 0 (by decide) (ht _ tw_fl_X8_7) (fun _ h9 => h9) rfl dX8_faithsOf_22 ?_
      refine lv_bipush (v := (9 : Int32)) hx hb dX8_faithsOf_25 (by decide) ?_
      refine lv_iload_n hx hb dX8_faithsOf_27 rfl (lv_at hl 1 rfl) ?_
      refine lv_iadd hx hb dX8_faithsOf_28 ?_
      refine lv_iload hx hb dX8_faithsOf_29 (lv_at hl 4 rfl) ?_
      have hi31 := h.1
      have h := h.2
      refine g_iast (Wd := WM q ad) (z := z) hx hb hK hP (hD z) hS 1 (wm_1 q ad z) rfl (am_1 q ad z) hi31 dX8_faithsOf_31 (fun z31 H locs hz31 hP hS => ?_)
      have h := h z31 hz31
      refine lv_aload_n hx hb dX8_faithsOf_32 rfl (lv_at hl 0 rfl) ?_
      refine g_cVv (Wd := WM q ad) (z := z31) (As := []) (rest := []) hG S (kX8_run l D q ad A hD z31 _ h) (cwV 0 ht (cW_V (fun _ h => h) tw_co_X8_run tw_ml_X8_236 tw_im_X8_run tw_se_X8_run tw_in_X8) rfl rfl rfl (by decide +kernel) ⟨by decide, by decide⟩) (va_recv hK hP (ci := 8) (q0 := 0) rfl (wm_0 q ad z31)) hE hP hS rfl hl.1 rfl (Nat.le_of_ble_eq_true rfl) dX8_faithsOf_33 ⟨Nat.zero_le _, Nat.zero_le _⟩ (fun z33 H locs h hP hS => ?_)
      refine lv_iconst (v := (1 : Int32)) hx hb dX8_faithsOf_36 (by decide) ?_
      refine lv_istore (lv' := [(5, .int (1 : Int32)), (0, .ref (ad 0)), (1, .int x1), (2, .int x2), (3, .int x3), (4, .int x4)]) hx hb dX8_faithsOf_37 hl (by decide) rfl (fun ls hl => ?_)
      refine lv_iconst (v := (0 : Int32)) hx hb dX8_faithsOf_39 (by decide) ?_
      refine lv_istore (lv' := [(6, .int (0 : Int32)), (5, .int (1 : Int32)), (0, .ref (ad 0)), (1, .int x1), (2, .int x2), (3, .int x3), (4, .int x4)]) hx hb dX8_faithsOf_40 hl (by decide) rfl (fun ls hl => ?_)
      obtain ⟨n, h⟩ := h
      exact L42 rec15 hrec15 n z33 x1 x2 x3 x4 (1 : Int32) (0 : Int32) _ _ _ h hP hS (lv_sub hl [2, 3, 4, 5, 6, 1, 0] rfl)
  have L15 : ∀ (n : Nat) (z : MX) (x1 : Int32) (x2 : Int32) (x3 : Int32) (x4 : Int32) (H : Heap) (locs : List Loc) (ls : Array Slot), pX8_faithsOf_L15  post n z x1 x2 x3 x4 → va_P D vwCl (WM q ad z) H → va_S A s.heap H locs → lv_has ls 7 [(0, .ref (ad 0)), (1, .int x1), (2, .int x2), (3, .int x3), (4, .int x4)] → W p l e (headSpec (cW yX8_faithsOf cX8_faithsOf 7 (some .int)) ({ frames := 4, cells := 0, slots := 0, locals := 88 } : Room)).room s m args below meth c H locs 0 0 (MQ below (va_Qi post (gB D vwCl (WM q ad) (mE D q)) A) args s 0 0 A) (F0 m 15 ls []) := by
    intro n
    induction n with
    | zero =>
      intro z x1 x2 x3 x4 H locs ls h
      exact False.elim h
    | succ n ih =>
      intro z x1 x2 x3 x4 H locs ls h hP hS hl
      exact B15 (pX8_faithsOf_L15  post n) ih z x1 x2 x3 x4 H locs ls h hP hS hl
  refine g_entry (vs := [.ref (ad 0), .int x1]) hargs (Nat.le_of_ble_eq_true rfl) (fun ls hl => ?_)
  have hl : lv_has ls 7 [(0, .ref (ad 0)), (1, .int x1)] := hl
  unfold pX8_faithsOf at h
  refine lv_iconst (v := (0 : Int32)) hx hb dX8_faithsOf_0 (by decide) ?_
  refine lv_istore_n (lv' := [(2, .int (0 : Int32)), (0, .ref (ad 0)), (1, .int x1)]) hx hb dX8_faithsOf_1 rfl hl (by decide) rfl (fun ls hl => ?_)
  refine lv_aload_n hx hb dX8_faithsOf_2 rfl (lv_at hl 1 rfl) ?_
  refine va_get (D := D) (ci := 8) (v := .ref (ad 1)) (C := RX8) (T := TX8) (N := 45) hx hb ht tl_X8 hown hK hP 0 (wm_0 q ad z) rfl 0 (by decide) (ht _ tw_fl_X8_7) (fun _ h9 => h9) rfl dX8_faithsOf_3 ?_
  refine lv_bipush (v := (9 : Int32)) hx hb dX8_faithsOf_6 (by decide) ?_
  refine lv_iload_n hx hb dX8_faithsOf_8 rfl (lv_at hl 2 rfl) ?_
  refine lv_iadd hx hb dX8_faithsOf_9 ?_
  have hi10 := h.1
  have h := h.2
  refine va_iald hx hb hK hP 1 0 (wm_1 q ad z) rfl hi10 dX8_faithsOf_10 ?_
  refine lv_topi (fun x3_11 ex3_11 => ?_)
  have h := h x3_11 ex3_11
  refine lv_istore_n (lv' := [(3, .int x3_11), (2, .int (0 : Int32)), (0, .ref (ad 0)), (1, .int x1)]) hx hb dX8_faithsOf_11 rfl hl (by decide) rfl (fun ls hl => ?_)
  refine lv_iconst (v := (0 : Int32)) hx hb dX8_faithsOf_12 (by decide) ?_
  refine lv_istore (lv' := [(4, .int (0 : Int32)), (3, .int x3_11), (2, .int (0 : Int32)), (0, .ref (ad 0)), (1, .int x1)]) hx hb dX8_faithsOf_13 hl (by decide) rfl (fun ls hl => ?_)
  obtain ⟨n, h⟩ := h
  exact L15 n z x1 (0 : Int32) x3_11 (0 : Int32) _ _ _ h hP hS (lv_sub hl [3, 4, 2, 1, 0] rfl)
def pX8_fits (z : MX) (x1 : Int32) (post : Int32 → MX → Prop) : Prop :=
  pX8_isTrain z x1 (fun (r2 : Int32) (z2 : MX) =>
  ((r2 = 0 →
    post (-1 : Int32) z2) ∧
  (¬ r2 = 0 →
    pX8_faithsOf z2 x1 (fun (r10 : Int32) (z10 : MX) =>
    post r10 z10))))
set_option maxHeartbeats 4000000 in
set_option maxRecDepth 100000 in
theorem kX8_fits (l : Launch) (D : va_G) (q : Nat → ClassId) (ad : Nat → Nat) (A : Nat → Prop) (hD : ∀ z, va_D A (WM q ad z)) (z : MX) (x1 : Int32) (post : Int32 → MX → Prop) (h : pX8_fits  z x1 post) : Met l yX8_fits (cW yX8_fits cX8_fits 2 (some .int)) ({ frames := 5, cells := 0, slots := 0, locals := 114 } : Room) (va_Pc [.ref (ad 0), .int x1] ((gB D vwCl (WM q ad) (mE D q)) z)) (va_Qi post (gB D vwCl (WM q ad) (mE D q)) A) 0 0 A := by
  refine Met.ofW (cc := cX8_fits) (maxL := 2) (ret := (some .int)) (by decide) rfl ?_
  intro p e s m args below meth c s₁ B hml hv
  obtain ⟨hargs, hP, hE⟩ := hv
  have hx := B.exec
  have hb := B.bytes
  have hr := B.returns
  have hts := atoms_spec (ws := (cW yX8_fits cX8_fits 2 (some .int))) B.pre
  have ht : ∀ w ∈ tG, w.before args s = true := fun w h => hts w (List.mem_cons_of_mem _ h)
  have hown : s.vm.findClass RX8 = some m.cls := findClass_of_methodNamed B.named
  have hlocks := B.notSynchronized
  have hK := hE.1
  have hG := mE_G D q A
  have S : CallFix p m c cX8_fits 2 s args tG RX8 := ⟨hx, hb, hml, hown, ht⟩
  have hS : va_S A s.heap s.heap [] := va_S.rf
  refine g_entry (vs := [.ref (ad 0), .int x1]) hargs (Nat.le_of_ble_eq_true rfl) (fun ls hl => ?_)
  have hl : lv_has ls 2 [(0, .ref (ad 0)), (1, .int x1)] := hl
  unfold pX8_fits at h
  refine lv_aload_n hx hb dX8_fits_0 rfl (lv_at hl 0 rfl) ?_
  refine lv_iload_n hx hb dX8_fits_1 rfl (lv_at hl 1 rfl) ?_
  refine g_cVi (Wd := WM q ad) (z := z) (As := [.int x1]) (rest := []) hG S (kX8_isTrain l D q ad A hD z x1 _ h) (cwV 1 ht (cW_V (fun _ h => h) tw_co_X8_isTrain tw_ml_X8_194 tw_im_X8_isTrain tw_se_X8_isTrain tw_in_X8) rfl rfl rfl (by decide +kernel) ⟨by decide, by decide⟩) (va_recv hK hP (ci := 8) (q0 := 0) rfl (wm_0 q ad z)) hE hP hS rfl hl.1 rfl (Nat.le_of_ble_eq_true rfl) dX8_fits_2 ⟨Nat.zero_le _, Nat.zero_le _⟩ (fun r2 z2 H locs h hP hS => ?_)
  refine lv_if_eq (tgt := 16) hx hb dX8_fits_5 (by decide) (fun c5 => ?_) (fun c5 => ?_)
  · have h := h.1 c5
    refine lv_iconst (v := (-1 : Int32)) hx hb dX8_fits_16 (by decide) ?_
    exact g_ri hG hx hb hr hlocks hE hP hS h dX8_fits_17
  · have h := h.2 c5
    refine lv_aload_n hx hb dX8_fits_8 rfl (lv_at hl 0 rfl) ?_
    refine lv_iload_n hx hb dX8_fits_9 rfl (lv_at hl 1 rfl) ?_
    refine g_cVi (Wd := WM q ad) (z := z2) (As := [.int x1]) (rest := []) hG S (kX8_faithsOf l D q ad A hD z2 x1 _ h) (cwV 1 ht (cW_V (fun _ h => h) tw_co_X8_faithsOf tw_ml_X8_277 tw_im_X8_faithsOf tw_se_X8_faithsOf tw_in_X8) rfl rfl rfl (by decide +kernel) ⟨by decide, by decide⟩) (va_recv hK hP (ci := 8) (q0 := 0) rfl (wm_0 q ad z2)) hE hP hS rfl hl.1 rfl (Nat.le_of_ble_eq_true rfl) dX8_fits_10 ⟨Nat.zero_le _, Nat.zero_le _⟩ (fun r10 z10 H locs h hP hS => ?_)
    refine lv_goto (tgt := 17) hx hb dX8_fits_13 (by decide) ?_
    exact g_ri hG hx hb hr hlocks hE hP hS h dX8_fits_17
def pX8_look_b204 (post : Int32 → MX → Prop) (z : MX) (x5 : Int32) : Prop :=
    post x5 z
def pX8_look_b185 (rec39 : MX → Int32 → Int32 → Int32 → Int32 → Int32 → Prop) (post : Int32 → MX → Prop) (z : MX) (x2 : Int32) (x3 : Int32) (x5 : Int32) (x6 : Int32) (y0 : Int32) : Prop :=
    ∀ x6_187 : Int32, x6_187 = x6 + (1 : Int32) →
    rec39 z x2 x3 y0 x5 x6_187
def pX8_look_b169 (rec39 : MX → Int32 → Int32 → Int32 → Int32 → Int32 → Prop) (post : Int32 → MX → Prop) (z : MX) (x2 : Int32) (x3 : Int32) (x4 : Int32) (x6 : Int32) (x7 : Int32) (y0 : Int32) : Prop :=
    ((x4 ≤ x7 →
      pX8_look_b185  rec39 post z x2 x3 y0 x6 x4) ∧
    (¬ x4 ≤ x7 →
      pX8_look_b185  rec39 post z x2 x3 y0 x6 x7))
def pX8_look_b147 (rec39 : MX → Int32 → Int32 → Int32 → Int32 → Int32 → Prop) (rec52 : MX → Int32 → Int32 → Int32 → Int32 → Int32 → Int32 → Int32 → Prop) (post : Int32 → MX → Prop) (z : MX) (x2 : Int32) (x3 : Int32) (x4 : Int32) (x5 : Int32) (x6 : Int32) (x8 : Int32) (y0 : Int32) : Prop :=
    ∀ x8_149 : Int32, x8_149 = x8 + (1 : Int32) →
    rec52 z x2 x3 x4 x5 x6 y0 x8_149
def pX8_look_b133 (rec39 : MX → Int32 → Int32 → Int32 → Int32 → Int32 → Prop) (rec52 : MX → Int32 → Int32 → Int32 → Int32 → Int32 → Int32 → Int32 → Prop) (post : Int32 → MX → Prop) (z : MX) (x2 : Int32) (x3 : Int32) (x4 : Int32) (x5 : Int32) (x6 : Int32) (x7 : Int32) (x8 : Int32) (x9 : Int32) : Prop :=
    ((x9 ≤ x7 →
      pX8_look_b147  rec39 rec52 post z x2 x3 x4 x5 x6 x8 x7) ∧
    (¬ x9 ≤ x7 →
      pX8_look_b147  rec39 rec52 post z x2 x3 x4 x5 x6 x8 x9))
def pX8_look_b124 (rec39 : MX → Int32 → Int32 → Int32 → Int32 → Int32 → Prop) (rec52 : MX → Int32 → Int32 → Int32 → Int32 → Int32 → Int32 → Int32 → Prop) (rec64 : MX → Int32 → Int32 → Int32 → Int32 → Int32 → Int32 → Int32 → Int32 → Int32 → Prop) (post : Int32 → MX → Prop) (z : MX) (x2 : Int32) (x3 : Int32) (x4 : Int32) (x5 : Int32) (x6 : Int32) (x7 : Int32) (x8 : Int32) (x10 : Int32) (y0 : Int32) (y1 : Int32) : Prop :=
    ∀ x9_125 : Int32, x9_125 = y0 + y1 →
    ∀ x10_127 : Int32, x10_127 = x10 + (1 : Int32) →
    rec64 z x2 x3 x4 x5 x6 x7 x8 x9_125 x10_127
def pX8_look_b123 (rec39 : MX → Int32 → Int32 → Int32 → Int32 → Int32 → Prop) (rec52 : MX → Int32 → Int32 → Int32 → Int32 → Int32 → Int32 → Int32 → Prop) (rec64 : MX → Int32 → Int32 → Int32 → Int32 → Int32 → Int32 → Int32 → Int32 → Int32 → Prop) (post : Int32 → MX → Prop) (z : MX) (x2 : Int32) (x3 : Int32) (x4 : Int32) (x5 : Int32) (x6 : Int32) (x7 : Int32) (x8 : Int32) (x10 : Int32) (y0 : Int32) : Prop :=
    pX8_look_b124  rec39 rec52 rec64 post z x2 x3 x4 x5 x6 x7 x8 x10 y0 (0 : Int32)
def pX8_look_l64 (rec39 : MX → Int32 → Int32 → Int32 → Int32 → Int32 → Prop) (rec52 : MX → Int32 → Int32 → Int32 → Int32 → Int32 → Int32 → Int32 → Prop) (rec64 : MX → Int32 → Int32 → Int32 → Int32 → Int32 → Int32 → Int32 → Int32 → Int32 → Prop) (post : Int32 → MX → Prop) (z : MX) (x2 : Int32) (x3 : Int32) (x4 : Int32) (x5 : Int32) (x6 : Int32) (x7 : Int32) (x8 : Int32) (x9 : Int32) (x10 : Int32) : Prop :=
    (((4 : Int32) ≤ x10 →
      pX8_look_b133  rec39 rec52 post z x2 x3 x4 x5 x6 x7 x8 x9) ∧
    (¬ (4 : Int32) ≤ x10 →
      ((¬ ((x3 >>> (x8 &&& 31)) &&& (1 : Int32)) = (1 : Int32) →
        pX8_look_b133  rec39 rec52 post z x2 x3 x4 x5 x6 x7 x8 x9) ∧
      (((x3 >>> (x8 &&& 31)) &&& (1 : Int32)) = (1 : Int32) →
        ((¬ ((x3 >>> (x10 &&& 31)) &&& (1 : Int32)) = (1 : Int32) →
          pX8_look_b123  rec39 rec52 rec64 post z x2 x3 x4 x5 x6 x7 x8 x10 x9) ∧
        (((x3 >>> (x10 &&& 31)) &&& (1 : Int32)) = (1 : Int32) →
          vp_in (((4 : Int32) * x6) + x8) 480 ∧
          vp_in (((4 : Int32) * x6) + x10) 480 ∧
          ((¬ (z.1 15 (Int32.toNatClampNeg (((4 : Int32) * x6) + x8))) = (z.1 15 (Int32.toNatClampNeg (((4 : Int32) * x6) + x10))) →
            pX8_look_b123  rec39 rec52 rec64 post z x2 x3 x4 x5 x6 x7 x8 x10 x9) ∧
          ((z.1 15 (Int32.toNatClampNeg (((4 : Int32) * x6) + x8))) = (z.1 15 (Int32.toNatClampNeg (((4 : Int32) * x6) + x10))) →
            pX8_look_b124  rec39 rec52 rec64 post z x2 x3 x4 x5 x6 x7 x8 x10 x9 (1 : Int32)))))))))
def pX8_look_L64 (rec39 : MX → Int32 → Int32 → Int32 → Int32 → Int32 → Prop) (rec52 : MX → Int32 → Int32 → Int32 → Int32 → Int32 → Int32 → Int32 → Prop) (post : Int32 → MX → Prop) : Nat → MX → Int32 → Int32 → Int32 → Int32 → Int32 → Int32 → Int32 → Int32 → Int32 → Prop
  | 0 => fun _ _ _ _ _ _ _ _ _ _ => False
  | n + 1 => fun z x2 x3 x4 x5 x6 x7 x8 x9 x10 => pX8_look_l64  rec39 rec52 (pX8_look_L64  rec39 rec52 post n) post z x2 x3 x4 x5 x6 x7 x8 x9 x10
def pX8_look_l52 (rec39 : MX → Int32 → Int32 → Int32 → Int32 → Int32 → Prop) (rec52 : MX → Int32 → Int32 → Int32 → Int32 → Int32 → Int32 → Int32 → Prop) (post : Int32 → MX → Prop) (z : MX) (x2 : Int32) (x3 : Int32) (x4 : Int32) (x5 : Int32) (x6 : Int32) (x7 : Int32) (x8 : Int32) : Prop :=
    (((4 : Int32) ≤ x8 →
      ((x4 ≤ x7 →
        pX8_look_b169  rec39 post z x2 x3 x4 x6 x7 x5) ∧
      (¬ x4 ≤ x7 →
        pX8_look_b169  rec39 post z x2 x3 x4 x6 x7 x6))) ∧
    (¬ (4 : Int32) ≤ x8 →
      ∃ n, pX8_look_L64  rec39 rec52 post n z x2 x3 x4 x5 x6 x7 x8 (0 : Int32) (0 : Int32)))
def pX8_look_L52 (rec39 : MX → Int32 → Int32 → Int32 → Int32 → Int32 → Prop) (post : Int32 → MX → Prop) : Nat → MX → Int32 → Int32 → Int32 → Int32 → Int32 → Int32 → Int32 → Prop
  | 0 => fun _ _ _ _ _ _ _ _ => False
  | n + 1 => fun z x2 x3 x4 x5 x6 x7 x8 => pX8_look_l52  rec39 (pX8_look_L52  rec39 post n) post z x2 x3 x4 x5 x6 x7 x8
def pX8_look_l39 (rec39 : MX → Int32 → Int32 → Int32 → Int32 → Int32 → Prop) (post : Int32 → MX → Prop) (z : MX) (x2 : Int32) (x3 : Int32) (x4 : Int32) (x5 : Int32) (x6 : Int32) : Prop :=
    (((119 : Int32) < x6 →
      ((x5 = (-4 : Int32) →
        pX8_look_b204  post z x5) ∧
      (¬ x5 = (-4 : Int32) →
        ((¬ x2 = 0 →
          post x4 z) ∧
        (x2 = 0 →
          pX8_look_b204  post z x5))))) ∧
    (¬ (119 : Int32) < x6 →
      ∃ n, pX8_look_L52  rec39 post n z x2 x3 x4 x5 x6 (0 : Int32) (0 : Int32)))
def pX8_look_L39 (post : Int32 → MX → Prop) : Nat → MX → Int32 → Int32 → Int32 → Int32 → Int32 → Prop
  | 0 => fun _ _ _ _ _ _ => False
  | n + 1 => fun z x2 x3 x4 x5 x6 => pX8_look_l39  (pX8_look_L39  post n) post z x2 x3 x4 x5 x6
def pX8_look (z : MX) (x1 : Int32) (x2 : Int32) (post : Int32 → MX → Prop) : Prop :=
  pX8_isTrain z x1 (fun (r2 : Int32) (z2 : MX) =>
  ((r2 = 0 →
    post (-1 : Int32) z2) ∧
  (¬ r2 = 0 →
    pX8_in z2 (Int32.toInt64 x2) (0 : Int64) (1 : Int64) (fun (r12 : Int32) (z12 : MX) =>
    ((¬ r12 = 0 →
      pX8_faithsOf z12 x1 (fun (r22 : Int32) (z22 : MX) =>
      pX8_bitsOf z22 r22 (fun (r27 : Int32) (z27 : MX) =>
      ∃ n, pX8_look_L39  post n z27 x2 r22 r27 (-4 : Int32) (0 : Int32)))) ∧
    (r12 = 0 →
      post (-1 : Int32) z12))))))
set_option maxHeartbeats 4000000 in
set_option maxRecDepth 100000 in
theorem kX8_look (l : Launch) (D : va_G) (q : Nat → ClassId) (ad : Nat → Nat) (A : Nat → Prop) (hD : ∀ z, va_D A (WM q ad z)) (z : MX) (x1 : Int32) (x2 : Int32) (post : Int32 → MX → Prop) (h : pX8_look  z x1 x2 post) : Met l yX8_look (cW yX8_look cX8_look 11 (some .int)) ({ frames := 5, cells := 0, slots := 0, locals := 114 } : Room) (va_Pc [.ref (ad 0), .int x1, .int x2] ((gB D vwCl (WM q ad) (mE D q)) z)) (va_Qi post (gB D vwCl (WM q ad) (mE D q)) A) 0 0 A := by
  refine Met.ofW (cc := cX8_look) (maxL := 11) (ret := (some .int)) (by decide) rfl ?_
  intro p e s m args below meth c s₁ B hml hv
  obtain ⟨hargs, hP, hE⟩ := hv
  have hx := B.exec
  have hb := B.bytes
  have hr := B.returns
  have hts := atoms_spec (ws := (cW yX8_look cX8_look 11 (some .int))) B.pre
  have ht : ∀ w ∈ tG, w.before args s = true := fun w h => hts w (List.mem_cons_of_mem _ h)
  have hown : s.vm.findClass RX8 = some m.cls := findClass_of_methodNamed B.named
  have hlocks := B.notSynchronized
  have hK := hE.1
  have hG := mE_G D q A
  have S : CallFix p m c cX8_look 11 s args tG RX8 := ⟨hx, hb, hml, hown, ht⟩
  have hS : va_S A s.heap s.heap [] := va_S.rf
  have B204 : ∀ (z : MX) (x5 : Int32) (H : Heap) (locs : List Loc) (ls : Array Slot), pX8_look_b204  post z x5 → va_P D vwCl (WM q ad z) H → va_S A s.heap H locs → lv_has ls 11 [(5, .int x5)] → W p l e (headSpec (cW yX8_look cX8_look 11 (some .int)) ({ frames := 5, cells := 0, slots := 0, locals := 114 } : Room)).room s m args below meth c H locs 0 0 (MQ below (va_Qi post (gB D vwCl (WM q ad) (mE D q)) A) args s 0 0 A) (F0 m 204 ls []) := by
    intro z x5 H locs ls h hP hS hl
    unfold pX8_look_b204 at h
    refine lv_iload hx hb dX8_look_204 (lv_at hl 0 rfl) ?_
    refine lv_goto (tgt := 211) hx hb dX8_look_206 (by decide) ?_
    exact g_ri hG hx hb hr hlocks hE hP hS h dX8_look_211
  have B185 : ∀ (rec39 : MX → Int32 → Int32 → Int32 → Int32 → Int32 → Prop) (hrec39 : ∀ (z : MX) (x2 : Int32) (x3 : Int32) (x4 : Int32) (x5 : Int32) (x6 : Int32) (H : Heap) (locs : List Loc) (ls : Array Slot), rec39 z x2 x3 x4 x5 x6 → va_P D vwCl (WM q ad z) H → va_S A s.heap H locs → lv_has ls 11 [(0, .ref (ad 0)), (2, .int x2), (3, .int x3), (4, .int x4), (5, .int x5), (6, .int x6)] → W p l e (headSpec (cW yX8_look cX8_look 11 (some .int)) ({ frames := 5, cells := 0, slots := 0, locals := 114 } : Room)).room s m args below meth c H locs 0 0 (MQ below (va_Qi post (gB D vwCl (WM q ad) (mE D q)) A) args s 0 0 A) (F0 m 39 ls [])) (z : MX) (x2 : Int32) (x3 : Int32) (x5 : Int32) (x6 : Int32) (y0 : Int32) (H : Heap) (locs : List Loc) (ls : Array Slot), pX8_look_b185  rec39 post z x2 x3 x5 x6 y0 → va_P D vwCl (WM q ad z) H → va_S A s.heap H locs → lv_has ls 11 [(0, .ref (ad 0)), (2, .int x2), (3, .int x3), (5, .int x5), (6, .int x6)] → W p l e (headSpec (cW yX8_look cX8_look 11 (some .int)) ({ frames := 5, cells := 0, slots := 0, locals := 114 } : Room)).room s m args below meth c H locs 0 0 (MQ below (va_Qi post (gB D vwCl (WM q ad) (mE D q)) A) args s 0 0 A) (F0 m 185 ls [.int y0]) := by
    intro rec39 hrec39 z x2 x3 x5 x6 y0 H locs ls h hP hS hl
    unfold pX8_look_b185 at h
    refine lv_istore (lv' := [(4, .int y0), (0, .ref (ad 0)), (2, .int x2), (3, .int x3), (5, .int x5), (6, .int x6)]) hx hb dX8_look_185 hl (by decide) rfl (fun ls hl => ?_)
    obtain ⟨x6_187, ex6_187⟩ : ∃ w : Int32, w = x6 + (1 : Int32) := ⟨_, rfl⟩
    have h := h x6_187 ex6_187
    refine lv_iinc (v := x6_187) (lv' := [(6, .int x6_187), (4, .int y0), (0, .ref (ad 0)), (2, .int x2), (3, .int x3), (5, .int x5)]) hx hb dX8_look_187 hl (k := 5) rfl (by rw [ex6_187]; rfl) (by decide) rfl (fun ls hl => ?_)
    refine lv_goto (tgt := 39) hx hb dX8_look_190 (by decide) ?_
    exact hrec39 z x2 x3 y0 x5 x6_187 _ _ _ h hP hS (lv_sub hl [2, 3, 4, 1, 5, 0] rfl)
  have B169 : ∀ (rec39 : MX → Int32 → Int32 → Int32 → Int32 → Int32 → Prop) (hrec39 : ∀ (z : MX) (x2 : Int32) (x3 : Int32) (x4 : Int32) (x5 : Int32) (x6 : Int32) (H : Heap) (locs : List Loc) (ls : Array Slot), rec39 z x2 x3 x4 x5 x6 → va_P D vwCl (WM q ad z) H → va_S A s.heap H locs → lv_has ls 11 [(0, .ref (ad 0)), (2, .int x2), (3, .int x3), (4, .int x4), (5, .int x5), (6, .int x6)] → W p l e (headSpec (cW yX8_look cX8_look 11 (some .int)) ({ frames := 5, cells := 0, slots := 0, locals := 114 } : Room)).room s m args below meth c H locs 0 0 (MQ below (va_Qi post (gB D vwCl (WM q ad) (mE D q)) A) args s 0 0 A) (F0 m 39 ls [])) (z : MX) (x2 : Int32) (x3 : Int32) (x4 : Int32) (x6 : Int32) (x7 : Int32) (y0 : Int32) (H : Heap) (locs : List Loc) (ls : Array Slot), pX8_look_b169  rec39 post z x2 x3 x4 x6 x7 y0 → va_P D vwCl (WM q ad z) H → va_S A s.heap H locs → lv_has ls 11 [(0, .ref (ad 0)), (2, .int x2), (3, .int x3), (4, .int x4), (6, .int x6), (7, .int x7)] → W p l e (headSpec (cW yX8_look cX8_look 11 (some .int)) ({ frames := 5, cells := 0, slots := 0, locals := 114 } : Room)).room s m args below meth c H locs 0 0 (MQ below (va_Qi post (gB D vwCl (WM q ad) (mE D q)) A) args s 0 0 A) (F0 m 169 ls [.int y0]) := by
    intro rec39 hrec39 z x2 x3 x4 x6 x7 y0 H locs ls h hP hS hl
    unfold pX8_look_b169 at h
    refine lv_istore (lv' := [(5, .int y0), (0, .ref (ad 0)), (2, .int x2), (3, .int x3), (4, .int x4), (6, .int x6), (7, .int x7)]) hx hb dX8_look_169 hl (by decide) rfl (fun ls hl => ?_)
    refine lv_iload hx hb dX8_look_171 (lv_at hl 6 rfl) ?_
    refine lv_iload hx hb dX8_look_173 (lv_at hl 4 rfl) ?_
    refine lv_icmp_ge (tgt := 183) hx hb dX8_look_175 (by decide) (fun c175 => ?_) (fun c175 => ?_)
    · have h := h.1 c175
      refine lv_iload hx hb dX8_look_183 (lv_at hl 4 rfl) ?_
      exact B185 rec39 hrec39 z x2 x3 y0 x6 x4 _ _ _ h hP hS (lv_sub hl [1, 2, 3, 0, 5] rfl)
    · have h := h.2 c175
      refine lv_iload hx hb dX8_look_178 (lv_at hl 6 rfl) ?_
      refine lv_goto (tgt := 185) hx hb dX8_look_180 (by decide) ?_
      exact B185 rec39 hrec39 z x2 x3 y0 x6 x7 _ _ _ h hP hS (lv_sub hl [1, 2, 3, 0, 5] rfl)
  have B147 : ∀ (rec39 : MX → Int32 → Int32 → Int32 → Int32 → Int32 → Prop) (rec52 : MX → Int32 → Int32 → Int32 → Int32 → Int32 → Int32 → Int32 → Prop) (hrec39 : ∀ (z : MX) (x2 : Int32) (x3 : Int32) (x4 : Int32) (x5 : Int32) (x6 : Int32) (H : Heap) (locs : List Loc) (ls : Array Slot), rec39 z x2 x3 x4 x5 x6 → va_P D vwCl (WM q ad z) H → va_S A s.heap H locs → lv_has ls 11 [(0, .ref (ad 0)), (2, .int x2), (3, .int x3), (4, .int x4), (5, .int x5), (6, .int x6)] → W p l e (headSpec (cW yX8_look cX8_look 11 (some .int)) ({ frames := 5, cells := 0, slots := 0, locals := 114 } : Room)).room s m args below meth c H locs 0 0 (MQ below (va_Qi post (gB D vwCl (WM q ad) (mE D q)) A) args s 0 0 A) (F0 m 39 ls [])) (hrec52 : ∀ (z : MX) (x2 : Int32) (x3 : Int32) (x4 : Int32) (x5 : Int32) (x6 : Int32) (x7 : Int32) (x8 : Int32) (H : Heap) (locs : List Loc) (ls : Array Slot), rec52 z x2 x3 x4 x5 x6 x7 x8 → va_P D vwCl (WM q ad z) H → va_S A s.heap H locs → lv_has ls 11 [(0, .ref (ad 0)), (2, .int x2), (3, .int x3), (4, .int x4), (5, .int x5), (6, .int x6), (7, .int x7), (8, .int x8)] → W p l e (headSpec (cW yX8_look cX8_look 11 (some .int)) ({ frames := 5, cells := 0, slots := 0, locals := 114 } : Room)).room s m args below meth c H locs 0 0 (MQ below (va_Qi post (gB D vwCl (WM q ad) (mE D q)) A) args s 0 0 A) (F0 m 52 ls [])) (z : MX) (x2 : Int32) (x3 : Int32) (x4 : Int32) (x5 : Int32) (x6 : Int32) (x8 : Int32) (y0 : Int32) (H : Heap) (locs : List Loc) (ls : Array Slot), pX8_look_b147  rec39 rec52 post z x2 x3 x4 x5 x6 x8 y0 → va_P D vwCl (WM q ad z) H → va_S A s.heap H locs → lv_has ls 11 [(0, .ref (ad 0)), (2, .int x2), (3, .int x3), (4, .int x4), (5, .int x5), (6, .int x6), (8, .int x8)] → W p l e (headSpec (cW yX8_look cX8_look 11 (some .int)) ({ frames := 5, cells := 0, slots := 0, locals := 114 } : Room)).room s m args below meth c H locs 0 0 (MQ below (va_Qi post (gB D vwCl (WM q ad) (mE D q)) A) args s 0 0 A) (F0 m 147 ls [.int y0]) := by
    intro rec39 rec52 hrec39 hrec52 z x2 x3 x4 x5 x6 x8 y0 H locs ls h hP hS hl
    unfold pX8_look_b147 at h
    refine lv_istore (lv' := [(7, .int y0), (0, .ref (ad 0)), (2, .int x2), (3, .int x3), (4, .int x4), (5, .int x5), (6, .int x6), (8, .int x8)]) hx hb dX8_look_147 hl (by decide) rfl (fun ls hl => ?_)
    obtain ⟨x8_149, ex8_149⟩ : ∃ w : Int32, w = x8 + (1 : Int32) := ⟨_, rfl⟩
    have h := h x8_149 ex8_149
    refine lv_iinc (v := x8_149) (lv' := [(8, .int x8_149), (7, .int y0), (0, .ref (ad 0)), (2, .int x2), (3, .int x3), (4, .int x4), (5, .int x5), (6, .int x6)]) hx hb dX8_look_149 hl (k := 7) rfl (by rw [ex8_149]; rfl) (by decide) rfl (fun ls hl => ?_)
    refine lv_goto (tgt := 52) hx hb dX8_look_152 (by decide) ?_
    exact hrec52 z x2 x3 x4 x5 x6 y0 x8_149 _ _ _ h hP hS (lv_sub hl [2, 3, 4, 5, 6, 7, 1, 0] rfl)
  have B133 : ∀ (rec39 : MX → Int32 → Int32 → Int32 → Int32 → Int32 → Prop) (rec52 : MX → Int32 → Int32 → Int32 → Int32 → Int32 → Int32 → Int32 → Prop) (hrec39 : ∀ (z : MX) (x2 : Int32) (x3 : Int32) (x4 : Int32) (x5 : Int32) (x6 : Int32) (H : Heap) (locs : List Loc) (ls : Array Slot), rec39 z x2 x3 x4 x5 x6 → va_P D vwCl (WM q ad z) H → va_S A s.heap H locs → lv_has ls 11 [(0, .ref (ad 0)), (2, .int x2), (3, .int x3), (4, .int x4), (5, .int x5), (6, .int x6)] → W p l e (headSpec (cW yX8_look cX8_look 11 (some .int)) ({ frames := 5, cells := 0, slots := 0, locals := 114 } : Room)).room s m args below meth c H locs 0 0 (MQ below (va_Qi post (gB D vwCl (WM q ad) (mE D q)) A) args s 0 0 A) (F0 m 39 ls [])) (hrec52 : ∀ (z : MX) (x2 : Int32) (x3 : Int32) (x4 : Int32) (x5 : Int32) (x6 : Int32) (x7 : Int32) (x8 : Int32) (H : Heap) (locs : List Loc) (ls : Array Slot), rec52 z x2 x3 x4 x5 x6 x7 x8 → va_P D vwCl (WM q ad z) H → va_S A s.heap H locs → lv_has ls 11 [(0, .ref (ad 0)), (2, .int x2), (3, .int x3), (4, .int x4), (5, .int x5), (6, .int x6), (7, .int x7), (8, .int x8)] → W p l e (headSpec (cW yX8_look cX8_look 11 (some .int)) ({ frames := 5, cells := 0, slots := 0, locals := 114 } : Room)).room s m args below meth c H locs 0 0 (MQ below (va_Qi post (gB D vwCl (WM q ad) (mE D q)) A) args s 0 0 A) (F0 m 52 ls [])) (z : MX) (x2 : Int32) (x3 : Int32) (x4 : Int32) (x5 : Int32) (x6 : Int32) (x7 : Int32) (x8 : Int32) (x9 : Int32) (H : Heap) (locs : List Loc) (ls : Array Slot), pX8_look_b133  rec39 rec52 post z x2 x3 x4 x5 x6 x7 x8 x9 → va_P D vwCl (WM q ad z) H → va_S A s.heap H locs → lv_has ls 11 [(0, .ref (ad 0)), (2, .int x2), (3, .int x3), (4, .int x4), (5, .int x5), (6, .int x6), (7, .int x7), (8, .int x8), (9, .int x9)] → W p l e (headSpec (cW yX8_look cX8_look 11 (some .int)) ({ frames := 5, cells := 0, slots := 0, locals := 114 } : Room)).room s m args below meth c H locs 0 0 (MQ below (va_Qi post (gB D vwCl (WM q ad) (mE D q)) A) args s 0 0 A) (F0 m 133 ls []) := by
    intro rec39 rec52 hrec39 hrec52 z x2 x3 x4 x5 x6 x7 x8 x9 H locs ls h hP hS hl
    unfold pX8_look_b133 at h
    refine lv_iload hx hb dX8_look_133 (lv_at hl 8 rfl) ?_
    refine lv_iload hx hb dX8_look_135 (lv_at hl 6 rfl) ?_
    refine lv_icmp_le (tgt := 145) hx hb dX8_look_137 (by decide) (fun c137 => ?_) (fun c137 => ?_)
    · have h := h.1 c137
      refine lv_iload hx hb dX8_look_145 (lv_at hl 6 rfl) ?_
      exact B147 rec39 rec52 hrec39 hrec52 z x2 x3 x4 x5 x6 x8 x7 _ _ _ h hP hS (lv_sub hl [0, 1, 2, 3, 4, 5, 7] rfl)
    · have h := h.2 c137
      refine lv_iload hx hb dX8_look_140 (lv_at hl 8 rfl) ?_
      refine lv_goto (tgt := 147) hx hb dX8_look_142 (by decide) ?_
      exact B147 rec39 rec52 hrec39 hrec52 z x2 x3 x4 x5 x6 x8 x9 _ _ _ h hP hS (lv_sub hl [0, 1, 2, 3, 4, 5, 7] rfl)
  have B124 : ∀ (rec39 : MX → Int32 → Int32 → Int32 → Int32 → Int32 → Prop) (rec52 : MX → Int32 → Int32 → Int32 → Int32 → Int32 → Int32 → Int32 → Prop) (rec64 : MX → Int32 → Int32 → Int32 → Int32 → Int32 → Int32 → Int32 → Int32 → Int32 → Prop) (hrec39 : ∀ (z : MX) (x2 : Int32) (x3 : Int32) (x4 : Int32) (x5 : Int32) (x6 : Int32) (H : Heap) (locs : List Loc) (ls : Array Slot), rec39 z x2 x3 x4 x5 x6 → va_P D vwCl (WM q ad z) H → va_S A s.heap H locs → lv_has ls 11 [(0, .ref (ad 0)), (2, .int x2), (3, .int x3), (4, .int x4), (5, .int x5), (6, .int x6)] → W p l e (headSpec (cW yX8_look cX8_look 11 (some .int)) ({ frames := 5, cells := 0, slots := 0, locals := 114 } : Room)).room s m args below meth c H locs 0 0 (MQ below (va_Qi post (gB D vwCl (WM q ad) (mE D q)) A) args s 0 0 A) (F0 m 39 ls [])) (hrec52 : ∀ (z : MX) (x2 : Int32) (x3 : Int32) (x4 : Int32) (x5 : Int32) (x6 : Int32) (x7 : Int32) (x8 : Int32) (H : Heap) (locs : List Loc) (ls : Array Slot), rec52 z x2 x3 x4 x5 x6 x7 x8 → va_P D vwCl (WM q ad z) H → va_S A s.heap H locs → lv_has ls 11 [(0, .ref (ad 0)), (2, .int x2), (3, .int x3), (4, .int x4), (5, .int x5), (6, .int x6), (7, .int x7), (8, .int x8)] → W p l e (headSpec (cW yX8_look cX8_look 11 (some .int)) ({ frames := 5, cells := 0, slots := 0, locals := 114 } : Room)).room s m args below meth c H locs 0 0 (MQ below (va_Qi post (gB D vwCl (WM q ad) (mE D q)) A) args s 0 0 A) (F0 m 52 ls [])) (hrec64 : ∀ (z : MX) (x2 : Int32) (x3 : Int32) (x4 : Int32) (x5 : Int32) (x6 : Int32) (x7 : Int32) (x8 : Int32) (x9 : Int32) (x10 : Int32) (H : Heap) (locs : List Loc) (ls : Array Slot), rec64 z x2 x3 x4 x5 x6 x7 x8 x9 x10 → va_P D vwCl (WM q ad z) H → va_S A s.heap H locs → lv_has ls 11 [(0, .ref (ad 0)), (2, .int x2), (3, .int x3), (4, .int x4), (5, .int x5), (6, .int x6), (7, .int x7), (8, .int x8), (9, .int x9), (10, .int x10)] → W p l e (headSpec (cW yX8_look cX8_look 11 (some .int)) ({ frames := 5, cells := 0, slots := 0, locals := 114 } : Room)).room s m args below meth c H locs 0 0 (MQ below (va_Qi post (gB D vwCl (WM q ad) (mE D q)) A) args s 0 0 A) (F0 m 64 ls [])) (z : MX) (x2 : Int32) (x3 : Int32) (x4 : Int32) (x5 : Int32) (x6 : Int32) (x7 : Int32) (x8 : Int32) (x10 : Int32) (y0 : Int32) (y1 : Int32) (H : Heap) (locs : List Loc) (ls : Array Slot), pX8_look_b124  rec39 rec52 rec64 post z x2 x3 x4 x5 x6 x7 x8 x10 y0 y1 → va_P D vwCl (WM q ad z) H → va_S A s.heap H locs → lv_has ls 11 [(0, .ref (ad 0)), (2, .int x2), (3, .int x3), (4, .int x4), (5, .int x5), (6, .int x6), (7, .int x7), (8, .int x8), (10, .int x10)] → W p l e (headSpec (cW yX8_look cX8_look 11 (some .int)) ({ frames := 5, cells := 0, slots := 0, locals := 114 } : Room)).room s m args below meth c H locs 0 0 (MQ below (va_Qi post (gB D vwCl (WM q ad) (mE D q)) A) args s 0 0 A) (F0 m 124 ls [.int y1, .int y0]) := by
    intro rec39 rec52 rec64 hrec39 hrec52 hrec64 z x2 x3 x4 x5 x6 x7 x8 x10 y0 y1 H locs ls h hP hS hl
    unfold pX8_look_b124 at h
    refine lv_iadd hx hb dX8_look_124 ?_
    refine lv_topi (fun x9_125 ex9_125 => ?_)
    have h := h x9_125 ex9_125
    refine lv_istore (lv' := [(9, .int x9_125), (0, .ref (ad 0)), (2, .int x2), (3, .int x3), (4, .int x4), (5, .int x5), (6, .int x6), (7, .int x7), (8, .int x8), (10, .int x10)]) hx hb dX8_look_125 hl (by decide) rfl (fun ls hl => ?_)
    obtain ⟨x10_127, ex10_127⟩ : ∃ w : Int32, w = x10 + (1 : Int32) := ⟨_, rfl⟩
    have h := h x10_127 ex10_127
    refine lv_iinc (v := x10_127) (lv' := [(10, .int x10_127), (9, .int x9_125), (0, .ref (ad 0)), (2, .int x2), (3, .int x3), (4, .int x4), (5, .int x5), (6, .int x6), (7, .int x7), (8, .int x8)]) hx hb dX8_look_127 hl (k := 9) rfl (by rw [ex10_127]; rfl) (by decide) rfl (fun ls hl => ?_)
    refine lv_goto (tgt := 64) hx hb dX8_look_130 (by decide) ?_
    exact hrec64 z x2 x3 x4 x5 x6 x7 x8 x9_125 x10_127 _ _ _ h hP hS (lv_sub hl [2, 3, 4, 5, 6, 7, 8, 9, 1, 0] rfl)
  have B123 : ∀ (rec39 : MX → Int32 → Int32 → Int32 → Int32 → Int32 → Prop) (rec52 : MX → Int32 → Int32 → Int32 → Int32 → Int32 → Int32 → Int32 → Prop) (rec64 : MX → Int32 → Int32 → Int32 → Int32 → Int32 → Int32 → Int32 → Int32 → Int32 → Prop) (hrec39 : ∀ (z : MX) (x2 : Int32) (x3 : Int32) (x4 : Int32) (x5 : Int32) (x6 : Int32) (H : Heap) (locs : List Loc) (ls : Array Slot), rec39 z x2 x3 x4 x5 x6 → va_P D vwCl (WM q ad z) H → va_S A s.heap H locs → lv_has ls 11 [(0, .ref (ad 0)), (2, .int x2), (3, .int x3), (4, .int x4), (5, .int x5), (6, .int x6)] → W p l e (headSpec (cW yX8_look cX8_look 11 (some .int)) ({ frames := 5, cells := 0, slots := 0, locals := 114 } : Room)).room s m args below meth c H locs 0 0 (MQ below (va_Qi post (gB D vwCl (WM q ad) (mE D q)) A) args s 0 0 A) (F0 m 39 ls [])) (hrec52 : ∀ (z : MX) (x2 : Int32) (x3 : Int32) (x4 : Int32) (x5 : Int32) (x6 : Int32) (x7 : Int32) (x8 : Int32) (H : Heap) (locs : List Loc) (ls : Array Slot), rec52 z x2 x3 x4 x5 x6 x7 x8 → va_P D vwCl (WM q ad z) H → va_S A s.heap H locs → lv_has ls 11 [(0, .ref (ad 0)), (2, .int x2), (3, .int x3), (4, .int x4), (5, .int x5), (6, .int x6), (7, .int x7), (8, .int x8)] → W p l e (headSpec (cW yX8_look cX8_look 11 (some .int)) ({ frames := 5, cells := 0, slots := 0, locals := 114 } : Room)).room s m args below meth c H locs 0 0 (MQ below (va_Qi post (gB D vwCl (WM q ad) (mE D q)) A) args s 0 0 A) (F0 m 52 ls [])) (hrec64 : ∀ (z : MX) (x2 : Int32) (x3 : Int32) (x4 : Int32) (x5 : Int32) (x6 : Int32) (x7 : Int32) (x8 : Int32) (x9 : Int32) (x10 : Int32) (H : Heap) (locs : List Loc) (ls : Array Slot), rec64 z x2 x3 x4 x5 x6 x7 x8 x9 x10 → va_P D vwCl (WM q ad z) H → va_S A s.heap H locs → lv_has ls 11 [(0, .ref (ad 0)), (2, .int x2), (3, .int x3), (4, .int x4), (5, .int x5), (6, .int x6), (7, .int x7), (8, .int x8), (9, .int x9), (10, .int x10)] → W p l e (headSpec (cW yX8_look cX8_look 11 (some .int)) ({ frames := 5, cells := 0, slots := 0, locals := 114 } : Room)).room s m args below meth c H locs 0 0 (MQ below (va_Qi post (gB D vwCl (WM q ad) (mE D q)) A) args s 0 0 A) (F0 m 64 ls [])) (z : MX) (x2 : Int32) (x3 : Int32) (x4 : Int32) (x5 : Int32) (x6 : Int32) (x7 : Int32) (x8 : Int32) (x10 : Int32) (y0 : Int32) (H : Heap) (locs : List Loc) (ls : Array Slot), pX8_look_b123  rec39 rec52 rec64 post z x2 x3 x4 x5 x6 x7 x8 x10 y0 → va_P D vwCl (WM q ad z) H → va_S A s.heap H locs → lv_has ls 11 [(0, .ref (ad 0)), (2, .int x2), (3, .int x3), (4, .int x4), (5, .int x5), (6, .int x6), (7, .int x7), (8, .int x8), (10, .int x10)] → W p l e (headSpec (cW yX8_look cX8_look 11 (some .int)) ({ frames := 5, cells := 0, slots := 0, locals := 114 } : Room)).room s m args below meth c H locs 0 0 (MQ below (va_Qi post (gB D vwCl (WM q ad) (mE D q)) A) args s 0 0 A) (F0 m 123 ls [.int y0]) := by
    intro rec39 rec52 rec64 hrec39 hrec52 hrec64 z x2 x3 x4 x5 x6 x7 x8 x10 y0 H locs ls h hP hS hl
    unfold pX8_look_b123 at h
    refine lv_iconst (v := (0 : Int32)) hx hb dX8_look_123 (by decide) ?_
    exact B124 rec39 rec52 rec64 hrec39 hrec52 hrec64 z x2 x3 x4 x5 x6 x7 x8 x10 y0 (0 : Int32) _ _ _ h hP hS (lv_sub hl [0, 1, 2, 3, 4, 5, 6, 7, 8] rfl)
  have B64 : ∀ (rec39 : MX → Int32 → Int32 → Int32 → Int32 → Int32 → Prop) (rec52 : MX → Int32 → Int32 → Int32 → Int32 → Int32 → Int32 → Int32 → Prop) (rec64 : MX → Int32 → Int32 → Int32 → Int32 → Int32 → Int32 → Int32 → Int32 → Int32 → Prop) (hrec39 : ∀ (z : MX) (x2 : Int32) (x3 : Int32) (x4 : Int32) (x5 : Int32) (x6 : Int32) (H : Heap) (locs : List Loc) (ls : Array Slot), rec39 z x2 x3 x4 x5 x6 → va_P D vwCl (WM q ad z) H → va_S A s.heap H locs → lv_has ls 11 [(0, .ref (ad 0)), (2, .int x2), (3, .int x3), (4, .int x4), (5, .int x5), (6, .int x6)] → W p l e (headSpec (cW yX8_look cX8_look 11 (some .int)) ({ frames := 5, cells := 0, slots := 0, locals := 114 } : Room)).room s m args below meth c H locs 0 0 (MQ below (va_Qi post (gB D vwCl (WM q ad) (mE D q)) A) args s 0 0 A) (F0 m 39 ls [])) (hrec52 : ∀ (z : MX) (x2 : Int32) (x3 : Int32) (x4 : Int32) (x5 : Int32) (x6 : Int32) (x7 : Int32) (x8 : Int32) (H : Heap) (locs : List Loc) (ls : Array Slot), rec52 z x2 x3 x4 x5 x6 x7 x8 → va_P D vwCl (WM q ad z) H → va_S A s.heap H locs → lv_has ls 11 [(0, .ref (ad 0)), (2, .int x2), (3, .int x3), (4, .int x4), (5, .int x5), (6, .int x6), (7, .int x7), (8, .int x8)] → W p l e (headSpec (cW yX8_look cX8_look 11 (some .int)) ({ frames := 5, cells := 0, slots := 0, locals := 114 } : Room)).room s m args below meth c H locs 0 0 (MQ below (va_Qi post (gB D vwCl (WM q ad) (mE D q)) A) args s 0 0 A) (F0 m 52 ls [])) (hrec64 : ∀ (z : MX) (x2 : Int32) (x3 : Int32) (x4 : Int32) (x5 : Int32) (x6 : Int32) (x7 : Int32) (x8 : Int32) (x9 : Int32) (x10 : Int32) (H : Heap) (locs : List Loc) (ls : Array Slot), rec64 z x2 x3 x4 x5 x6 x7 x8 x9 x10 → va_P D vwCl (WM q ad z) H → va_S A s.heap H locs → lv_has ls 11 [(0, .ref (ad 0)), (2, .int x2), (3, .int x3), (4, .int x4), (5, .int x5), (6, .int x6), (7, .int x7), (8, .int x8), (9, .int x9), (10, .int x10)] → W p l e (headSpec (cW yX8_look cX8_look 11 (some .int)) ({ frames := 5, cells := 0, slots := 0, locals := 114 } : Room)).room s m args below meth c H locs 0 0 (MQ below (va_Qi post (gB D vwCl (WM q ad) (mE D q)) A) args s 0 0 A) (F0 m 64 ls [])) (z : MX) (x2 : Int32) (x3 : Int32) (x4 : Int32) (x5 : Int32) (x6 : Int32) (x7 : Int32) (x8 : Int32) (x9 : Int32) (x10 : Int32) (H : Heap) (locs : List Loc) (ls : Array Slot), pX8_look_l64  rec39 rec52 rec64 post z x2 x3 x4 x5 x6 x7 x8 x9 x10 → va_P D vwCl (WM q ad z) H → va_S A s.heap H locs → lv_has ls 11 [(0, .ref (ad 0)), (2, .int x2), (3, .int x3), (4, .int x4), (5, .int x5), (6, .int x6), (7, .int x7), (8, .int x8), (9, .int x9), (10, .int x10)] → W p l e (headSpec (cW yX8_look cX8_look 11 (some .int)) ({ frames := 5, cells := 0, slots := 0, locals := 114 } : Room)).room s m args below meth c H locs 0 0 (MQ below (va_Qi post (gB D vwCl (WM q ad) (mE D q)) A) args s 0 0 A) (F0 m 64 ls []) := by
    intro rec39 rec52 rec64 hrec39 hrec52 hrec64 z x2 x3 x4 x5 x6 x7 x8 x9 x10 H locs ls h hP hS hl
    unfold pX8_look_l64 at h
    refine lv_iload hx hb dX8_look_64 (lv_at hl 9 rfl) ?_
    refine lv_iconst (v := (4 : Int32)) hx hb dX8_look_66 (by decide) ?_
    refine lv_icmp_ge (tgt := 133) hx hb dX8_look_67 (by decide) (fun c67 => ?_) (fun c67 => ?_)
    · have h := h.1 c67
      exact B133 rec39 rec52 hrec39 hrec52 z x2 x3 x4 x5 x6 x7 x8 x9 _ _ _ h hP hS (lv_sub hl [0, 1, 2, 3, 4, 5, 6, 7, 8] rfl)
    · have h := h.2 c67
      refine lv_iload_n hx hb dX8_look_70 rfl (lv_at hl 2 rfl) ?_
      refine lv_iload hx hb dX8_look_71 (lv_at hl 7 rfl) ?_
      refine lv_ishr hx hb dX8_look_73 ?_
      refine lv_iconst (v := (1 : Int32)) hx hb dX8_look_74 (by decide) ?_
      refine lv_iand hx hb dX8_look_75 ?_
      refine lv_iconst (v := (1 : Int32)) hx hb dX8_look_76 (by decide) ?_
      refine lv_icmp_ne (tgt := 133) hx hb dX8_look_77 (by decide) (fun c77 => ?_) (fun c77 => ?_)
      · have h := h.1 c77
        exact B133 rec39 rec52 hrec39 hrec52 z x2 x3 x4 x5 x6 x7 x8 x9 _ _ _ h hP hS (lv_sub hl [0, 1, 2, 3, 4, 5, 6, 7, 8] rfl)
      · have h := h.2 c77
        refine lv_iload hx hb dX8_look_80 (lv_at hl 8 rfl) ?_
        refine lv_iload_n hx hb dX8_look_82 rfl (lv_at hl 2 rfl) ?_
        refine lv_iload hx hb dX8_look_83 (lv_at hl 9 rfl) ?_
        refine lv_ishr hx hb dX8_look_85 ?_
        refine lv_iconst (v := (1 : Int32)) hx hb dX8_look_86 (by decide) ?_
        refine lv_iand hx hb dX8_look_87 ?_
        refine lv_iconst (v := (1 : Int32)) hx hb dX8_look_88 (by decide) ?_
        refine lv_icmp_ne (tgt := 123) hx hb dX8_look_89 (by decide) (fun c89 => ?_) (fun c89 => ?_)
        · have h := h.1 c89
          exact B123 rec39 rec52 rec64 hrec39 hrec52 hrec64 z x2 x3 x4 x5 x6 x7 x8 x10 x9 _ _ _ h hP hS (lv_sub hl [0, 1, 2, 3, 4, 5, 6, 7, 9] rfl)
        · have h := h.2 c89
          refine lv_aload_n hx hb dX8_look_92 rfl (lv_at hl 0 rfl) ?_
          refine va_get (D := D) (ci := 8) (v := .ref (ad 15)) (C := RX8) (T := TX8) (N := 45) hx hb ht tl_X8 hown hK hP 0 (wm_0 q ad z) rfl 38 (by decide) (ht _ tw_fl_X8_57) (fun _ h9 => h9) rfl dX8_look_93 ?_
          refine lv_iconst (v := (4 : Int32)) hx hb dX8_look_96 (by decide) ?_
          refine lv_iload hx hb dX8_look_97 (lv_at hl 5 rfl) ?_
          refine lv_imul hx hb dX8_look_99 ?_
          refine lv_iload hx hb dX8_look_100 (lv_at hl 7 rfl) ?_
          refine lv_iadd hx hb dX8_look_102 ?_
          have hi103 := h.1
          have h := h.2
          refine va_iald hx hb hK hP 15 0 (wm_15 q ad z) rfl hi103 dX8_look_103 ?_
          refine lv_aload_n hx hb dX8_look_104 rfl (lv_at hl 0 rfl) ?_
          refine va_get (D := D) (ci := 8) (v := .ref (ad 15)) (C := RX8) (T := TX8) (N := 45) hx hb ht tl_X8 hown hK hP 0 (wm_0 q ad z) rfl 38 (by decide) (ht _ tw_fl_X8_57) (fun _ h9 => h9) rfl dX8_look_105 ?_
          refine lv_iconst (v := (4 : Int32)) hx hb dX8_look_108 (by decide) ?_
          refine lv_iload hx hb dX8_look_109 (lv_at hl 5 rfl) ?_
          refine lv_imul hx hb dX8_look_111 ?_
          refine lv_iload hx hb dX8_look_112 (lv_at hl 9 rfl) ?_
          refine lv_iadd hx hb dX8_look_114 ?_
          have hi115 := h.1
          have h := h.2
          refine va_iald hx hb hK hP 15 0 (wm_15 q ad z) rfl hi115 dX8_look_115 ?_
          refine lv_icmp_ne (tgt := 123) hx hb dX8_look_116 (by decide) (fun c116 => ?_) (fun c116 => ?_)
          · have h := h.1 c116
            exact B123 rec39 rec52 rec64 hrec39 hrec52 hrec64 z x2 x3 x4 x5 x6 x7 x8 x10 x9 _ _ _ h hP hS (lv_sub hl [0, 1, 2, 3, 4, 5, 6, 7, 9] rfl)
          · have h := h.2 c116
            refine lv_iconst (v := (1 : Int32)) hx hb dX8_look_119 (by decide) ?_
            refine lv_goto (tgt := 124) hx hb dX8_look_120 (by decide) ?_
            exact B124 rec39 rec52 rec64 hrec39 hrec52 hrec64 z x2 x3 x4 x5 x6 x7 x8 x10 x9 (1 : Int32) _ _ _ h hP hS (lv_sub hl [0, 1, 2, 3, 4, 5, 6, 7, 9] rfl)
  have L64 : ∀ (rec39 : MX → Int32 → Int32 → Int32 → Int32 → Int32 → Prop) (rec52 : MX → Int32 → Int32 → Int32 → Int32 → Int32 → Int32 → Int32 → Prop) (hrec39 : ∀ (z : MX) (x2 : Int32) (x3 : Int32) (x4 : Int32) (x5 : Int32) (x6 : Int32) (H : Heap) (locs : List Loc) (ls : Array Slot), rec39 z x2 x3 x4 x5 x6 → va_P D vwCl (WM q ad z) H → va_S A s.heap H locs → lv_has ls 11 [(0, .ref (ad 0)), (2, .int x2), (3, .int x3), (4, .int x4), (5, .int x5), (6, .int x6)] → W p l e (headSpec (cW yX8_look cX8_look 11 (some .int)) ({ frames := 5, cells := 0, slots := 0, locals := 114 } : Room)).room s m args below meth c H locs 0 0 (MQ below (va_Qi post (gB D vwCl (WM q ad) (mE D q)) A) args s 0 0 A) (F0 m 39 ls [])) (hrec52 : ∀ (z : MX) (x2 : Int32) (x3 : Int32) (x4 : Int32) (x5 : Int32) (x6 : Int32) (x7 : Int32) (x8 : Int32) (H : Heap) (locs : List Loc) (ls : Array Slot), rec52 z x2 x3 x4 x5 x6 x7 x8 → va_P D vwCl (WM q ad z) H → va_S A s.heap H locs → lv_has ls 11 [(0, .ref (ad 0)), (2, .int x2), (3, .int x3), (4, .int x4), (5, .int x5), (6, .int x6), (7, .int x7), (8, .int x8)] → W p l e (headSpec (cW yX8_look cX8_look 11 (some .int)) ({ frames := 5, cells := 0, slots := 0, locals := 114 } : Room)).room s m args below meth c H locs 0 0 (MQ below (va_Qi post (gB D vwCl (WM q ad) (mE D q)) A) args s 0 0 A) (F0 m 52 ls [])) (n : Nat) (z : MX) (x2 : Int32) (x3 : Int32) (x4 : Int32) (x5 : Int32) (x6 : Int32) (x7 : Int32) (x8 : Int32) (x9 : Int32) (x10 : Int32) (H : Heap) (locs : List Loc) (ls : Array Slot), pX8_look_L64  rec39 rec52 post n z x2 x3 x4 x5 x6 x7 x8 x9 x10 → va_P D vwCl (WM q ad z) H → va_S A s.heap H locs → lv_has ls 11 [(0, .ref (ad 0)), (2, .int x2), (3, .int x3), (4, .int x4), (5, .int x5), (6, .int x6), (7, .int x7), (8, .int x8), (9, .int x9), (10, .int x10)] → W p l e (headSpec (cW yX8_look cX8_look 11 (some .int)) ({ frames := 5, cells := 0, slots := 0, locals := 114 } : Room)).room s m args below meth c H locs 0 0 (MQ below (va_Qi post (gB D vwCl (WM q ad) (mE D q)) A) args s 0 0 A) (F0 m 64 ls []) := by
    intro rec39 rec52 hrec39 hrec52 n
    induction n with
    | zero =>
      intro z x2 x3 x4 x5 x6 x7 x8 x9 x10 H locs ls h
      exact False.elim h
    | succ n ih =>
      intro z x2 x3 x4 x5 x6 x7 x8 x9 x10 H locs ls h hP hS hl
      exact B64 rec39 rec52 (pX8_look_L64  rec39 rec52 post n) hrec39 hrec52 ih z x2 x3 x4 x5 x6 x7 x8 x9 x10 H locs ls h hP hS hl
  have B52 : ∀ (rec39 : MX → Int32 → Int32 → Int32 → Int32 → Int32 → Prop) (rec52 : MX → Int32 → Int32 → Int32 → Int32 → Int32 → Int32 → Int32 → Prop) (hrec39 : ∀ (z : MX) (x2 : Int32) (x3 : Int32) (x4 : Int32) (x5 : Int32) (x6 : Int32) (H : Heap) (locs : List Loc) (ls : Array Slot), rec39 z x2 x3 x4 x5 x6 → va_P D vwCl (WM q ad z) H → va_S A s.heap H locs → lv_has ls 11 [(0, .ref (ad 0)), (2, .int x2), (3, .int x3), (4, .int x4), (5, .int x5), (6, .int x6)] → W p l e (headSpec (cW yX8_look cX8_look 11 (some .int)) ({ frames := 5, cells := 0, slots := 0, locals := 114 } : Room)).room s m args below meth c H locs 0 0 (MQ below (va_Qi post (gB D vwCl (WM q ad) (mE D q)) A) args s 0 0 A) (F0 m 39 ls [])) (hrec52 : ∀ (z : MX) (x2 : Int32) (x3 : Int32) (x4 : Int32) (x5 : Int32) (x6 : Int32) (x7 : Int32) (x8 : Int32) (H : Heap) (locs : List Loc) (ls : Array Slot), rec52 z x2 x3 x4 x5 x6 x7 x8 → va_P D vwCl (WM q ad z) H → va_S A s.heap H locs → lv_has ls 11 [(0, .ref (ad 0)), (2, .int x2), (3, .int x3), (4, .int x4), (5, .int x5), (6, .int x6), (7, .int x7), (8, .int x8)] → W p l e (headSpec (cW yX8_look cX8_look 11 (some .int)) ({ frames := 5, cells := 0, slots := 0, locals := 114 } : Room)).room s m args below meth c H locs 0 0 (MQ below (va_Qi post (gB D vwCl (WM q ad) (mE D q)) A) args s 0 0 A) (F0 m 52 ls [])) (z : MX) (x2 : Int32) (x3 : Int32) (x4 : Int32) (x5 : Int32) (x6 : Int32) (x7 : Int32) (x8 : Int32) (H : Heap) (locs : List Loc) (ls : Array Slot), pX8_look_l52  rec39 rec52 post z x2 x3 x4 x5 x6 x7 x8 → va_P D vwCl (WM q ad z) H → va_S A s.heap H locs → lv_has ls 11 [(0, .ref (ad 0)), (2, .int x2), (3, .int x3), (4, .int x4), (5, .int x5), (6, .int x6), (7, .int x7), (8, .int x8)] → W p l e (headSpec (cW yX8_look cX8_look 11 (some .int)) ({ frames := 5, cells := 0, slots := 0, locals := 114 } : Room)).room s m args below meth c H locs 0 0 (MQ below (va_Qi post (gB D vwCl (WM q ad) (mE D q)) A) args s 0 0 A) (F0 m 52 ls []) := by
    intro rec39 rec52 hrec39 hrec52 z x2 x3 x4 x5 x6 x7 x8 H locs ls h hP hS hl
    unfold pX8_look_l52 at h
    refine lv_iload hx hb dX8_look_52 (lv_at hl 7 rfl) ?_
    refine lv_iconst (v := (4 : Int32)) hx hb dX8_look_54 (by decide) ?_
    refine lv_icmp_ge (tgt := 155) hx hb dX8_look_55 (by decide) (fun c55 => ?_) (fun c55 => ?_)
    · have h := h.1 c55
      refine lv_iload hx hb dX8_look_155 (lv_at hl 6 rfl) ?_
      refine lv_iload hx hb dX8_look_157 (lv_at hl 3 rfl) ?_
      refine lv_icmp_ge (tgt := 167) hx hb dX8_look_159 (by decide) (fun c159 => ?_) (fun c159 => ?_)
      · have h := h.1 c159
        refine lv_iload hx hb dX8_look_167 (lv_at hl 4 rfl) ?_
        exact B169 rec39 hrec39 z x2 x3 x4 x6 x7 x5 _ _ _ h hP hS (lv_sub hl [0, 1, 2, 3, 5, 6] rfl)
      · have h := h.2 c159
        refine lv_iload hx hb dX8_look_162 (lv_at hl 5 rfl) ?_
        refine lv_goto (tgt := 169) hx hb dX8_look_164 (by decide) ?_
        exact B169 rec39 hrec39 z x2 x3 x4 x6 x7 x6 _ _ _ h hP hS (lv_sub hl [0, 1, 2, 3, 5, 6] rfl)
    · have h := h.2 c55
      refine lv_iconst (v := (0 : Int32)) hx hb dX8_look_58 (by decide) ?_
      refine lv_istore (lv' := [(9, .int (0 : Int32)), (0, .ref (ad 0)), (2, .int x2), (3, .int x3), (4, .int x4), (5, .int x5), (6, .int x6), (7, .int x7), (8, .int x8)]) hx hb dX8_look_59 hl (by decide) rfl (fun ls hl => ?_)
      refine lv_iconst (v := (0 : Int32)) hx hb dX8_look_61 (by decide) ?_
      refine lv_istore (lv' := [(10, .int (0 : Int32)), (9, .int (0 : Int32)), (0, .ref (ad 0)), (2, .int x2), (3, .int x3), (4, .int x4), (5, .int x5), (6, .int x6), (7, .int x7), (8, .int x8)]) hx hb dX8_look_62 hl (by decide) rfl (fun ls hl => ?_)
      obtain ⟨n, h⟩ := h
      exact L64 rec39 rec52 hrec39 hrec52 n z x2 x3 x4 x5 x6 x7 x8 (0 : Int32) (0 : Int32) _ _ _ h hP hS (lv_sub hl [2, 3, 4, 5, 6, 7, 8, 9, 1, 0] rfl)
  have L52 : ∀ (rec39 : MX → Int32 → Int32 → Int32 → Int32 → Int32 → Prop) (hrec39 : ∀ (z : MX) (x2 : Int32) (x3 : Int32) (x4 : Int32) (x5 : Int32) (x6 : Int32) (H : Heap) (locs : List Loc) (ls : Array Slot), rec39 z x2 x3 x4 x5 x6 → va_P D vwCl (WM q ad z) H → va_S A s.heap H locs → lv_has ls 11 [(0, .ref (ad 0)), (2, .int x2), (3, .int x3), (4, .int x4), (5, .int x5), (6, .int x6)] → W p l e (headSpec (cW yX8_look cX8_look 11 (some .int)) ({ frames := 5, cells := 0, slots := 0, locals := 114 } : Room)).room s m args below meth c H locs 0 0 (MQ below (va_Qi post (gB D vwCl (WM q ad) (mE D q)) A) args s 0 0 A) (F0 m 39 ls [])) (n : Nat) (z : MX) (x2 : Int32) (x3 : Int32) (x4 : Int32) (x5 : Int32) (x6 : Int32) (x7 : Int32) (x8 : Int32) (H : Heap) (locs : List Loc) (ls : Array Slot), pX8_look_L52  rec39 post n z x2 x3 x4 x5 x6 x7 x8 → va_P D vwCl (WM q ad z) H → va_S A s.heap H locs → lv_has ls 11 [(0, .ref (ad 0)), (2, .int x2), (3, .int x3), (4, .int x4), (5, .int x5), (6, .int x6), (7, .int x7), (8, .int x8)] → W p l e (headSpec (cW yX8_look cX8_look 11 (some .int)) ({ frames := 5, cells := 0, slots := 0, locals := 114 } : Room)).room s m args below meth c H locs 0 0 (MQ below (va_Qi post (gB D vwCl (WM q ad) (mE D q)) A) args s 0 0 A) (F0 m 52 ls []) := by
    intro rec39 hrec39 n
    induction n with
    | zero =>
      intro z x2 x3 x4 x5 x6 x7 x8 H locs ls h
      exact False.elim h
    | succ n ih =>
      intro z x2 x3 x4 x5 x6 x7 x8 H locs ls h hP hS hl
      exact B52 rec39 (pX8_look_L52  rec39 post n) hrec39 ih z x2 x3 x4 x5 x6 x7 x8 H locs ls h hP hS hl
  have B39 : ∀ (rec39 : MX → Int32 → Int32 → Int32 → Int32 → Int32 → Prop) (hrec39 : ∀ (z : MX) (x2 : Int32) (x3 : Int32) (x4 : Int32) (x5 : Int32) (x6 : Int32) (H : Heap) (locs : List Loc) (ls : Array Slot), rec39 z x2 x3 x4 x5 x6 → va_P D vwCl (WM q ad z) H → va_S A s.heap H locs → lv_has ls 11 [(0, .ref (ad 0)), (2, .int x2), (3, .int x3), (4, .int x4), (5, .int x5), (6, .int x6)] → W p l e (headSpec (cW yX8_look cX8_look 11 (some .int)) ({ frames := 5, cells := 0, slots := 0, locals := 114 } : Room)).room s m args below meth c H locs 0 0 (MQ below (va_Qi post (gB D vwCl (WM q ad) (mE D q)) A) args s 0 0 A) (F0 m 39 ls [])) (z : MX) (x2 : Int32) (x3 : Int32) (x4 : Int32) (x5 : Int32) (x6 : Int32) (H : Heap) (locs : List Loc) (ls : Array Slot), pX8_look_l39  rec39 post z x2 x3 x4 x5 x6 → va_P D vwCl (WM q ad z) H → va_S A s.heap H locs → lv_has ls 11 [(0, .ref (ad 0)), (2, .int x2), (3, .int x3), (4, .int x4), (5, .int x5), (6, .int x6)] → W p l e (headSpec (cW yX8_look cX8_look 11 (some .int)) ({ frames := 5, cells := 0, slots := 0, locals := 114 } : Room)).room s m args below meth c H locs 0 0 (MQ below (va_Qi post (gB D vwCl (WM q ad) (mE D q)) A) args s 0 0 A) (F0 m 39 ls []) := by
    intro rec39 hrec39 z x2 x3 x4 x5 x6 H locs ls h hP hS hl
    unfold pX8_look_l39 at h
    refine lv_iload hx hb dX8_look_39 (lv_at hl 5 rfl) ?_
    refine lv_bipush (v := (119 : Int32)) hx hb dX8_look_41 (by decide) ?_
    refine lv_icmp_gt (tgt := 193) hx hb dX8_look_43 (by decide) (fun c43 => ?_) (fun c43 => ?_)
    · have h := h.1 c43
      refine lv_iload hx hb dX8_look_193 (lv_at hl 4 rfl) ?_
      refine lv_bipush (v := (-4 : Int32)) hx hb dX8_look_195 (by decide) ?_
      refine lv_icmp_eq (tgt := 204) hx hb dX8_look_197 (by decide) (fun c197 => ?_) (fun c197 => ?_)
      · have h := h.1 c197
        exact B204 z x5 _ _ _ h hP hS (lv_sub hl [4] rfl)
      · have h := h.2 c197
        refine lv_iload_n hx hb dX8_look_200 rfl (lv_at hl 1 rfl) ?_
        refine lv_if_ne (tgt := 209) hx hb dX8_look_201 (by decide) (fun c201 => ?_) (fun c201 => ?_)
        · have h := h.1 c201
          refine lv_iload hx hb dX8_look_209 (lv_at hl 3 rfl) ?_
          exact g_ri hG hx hb hr hlocks hE hP hS h dX8_look_211
        · have h := h.2 c201
          exact B204 z x5 _ _ _ h hP hS (lv_sub hl [4] rfl)
    · have h := h.2 c43
      refine lv_iconst (v := (0 : Int32)) hx hb dX8_look_46 (by decide) ?_
      refine lv_istore (lv' := [(7, .int (0 : Int32)), (0, .ref (ad 0)), (2, .int x2), (3, .int x3), (4, .int x4), (5, .int x5), (6, .int x6)]) hx hb dX8_look_47 hl (by decide) rfl (fun ls hl => ?_)
      refine lv_iconst (v := (0 : Int32)) hx hb dX8_look_49 (by decide) ?_
      refine lv_istore (lv' := [(8, .int (0 : Int32)), (7, .int (0 : Int32)), (0, .ref (ad 0)), (2, .int x2), (3, .int x3), (4, .int x4), (5, .int x5), (6, .int x6)]) hx hb dX8_look_50 hl (by decide) rfl (fun ls hl => ?_)
      obtain ⟨n, h⟩ := h
      exact L52 rec39 hrec39 n z x2 x3 x4 x5 x6 (0 : Int32) (0 : Int32) _ _ _ h hP hS (lv_sub hl [2, 3, 4, 5, 6, 7, 1, 0] rfl)
  have L39 : ∀ (n : Nat) (z : MX) (x2 : Int32) (x3 : Int32) (x4 : Int32) (x5 : Int32) (x6 : Int32) (H : Heap) (locs : List Loc) (ls : Array Slot), pX8_look_L39  post n z x2 x3 x4 x5 x6 → va_P D vwCl (WM q ad z) H → va_S A s.heap H locs → lv_has ls 11 [(0, .ref (ad 0)), (2, .int x2), (3, .int x3), (4, .int x4), (5, .int x5), (6, .int x6)] → W p l e (headSpec (cW yX8_look cX8_look 11 (some .int)) ({ frames := 5, cells := 0, slots := 0, locals := 114 } : Room)).room s m args below meth c H locs 0 0 (MQ below (va_Qi post (gB D vwCl (WM q ad) (mE D q)) A) args s 0 0 A) (F0 m 39 ls []) := by
    intro n
    induction n with
    | zero =>
      intro z x2 x3 x4 x5 x6 H locs ls h
      exact False.elim h
    | succ n ih =>
      intro z x2 x3 x4 x5 x6 H locs ls h hP hS hl
      exact B39 (pX8_look_L39  post n) ih z x2 x3 x4 x5 x6 H locs ls h hP hS hl
  refine g_entry (vs := [.ref (ad 0), .int x1, .int x2]) hargs (Nat.le_of_ble_eq_true rfl) (fun ls hl => ?_)
  have hl : lv_has ls 11 [(0, .ref (ad 0)), (1, .int x1), (2, .int x2)] := hl
  unfold pX8_look at h
  refine lv_aload_n hx hb dX8_look_0 rfl (lv_at hl 0 rfl) ?_
  refine lv_iload_n hx hb dX8_look_1 rfl (lv_at hl 1 rfl) ?_
  refine g_cVi (Wd := WM q ad) (z := z) (As := [.int x1]) (rest := []) hG S (kX8_isTrain l D q ad A hD z x1 _ h) (cwV 1 ht (cW_V (fun _ h => h) tw_co_X8_isTrain tw_ml_X8_194 tw_im_X8_isTrain tw_se_X8_isTrain tw_in_X8) rfl rfl rfl (by decide +kernel) ⟨by decide, by decide⟩) (va_recv hK hP (ci := 8) (q0 := 0) rfl (wm_0 q ad z)) hE hP hS rfl hl.1 rfl (Nat.le_of_ble_eq_true rfl) dX8_look_2 ⟨Nat.zero_le _, Nat.zero_le _⟩ (fun r2 z2 H locs h hP hS => ?_)
  refine lv_if_eq (tgt := 18) hx hb dX8_look_5 (by decide) (fun c5 => ?_) (fun c5 => ?_)
  · have h := h.1 c5
    refine lv_iconst (v := (-1 : Int32)) hx hb dX8_look_18 (by decide) ?_
    exact g_ri hG hx hb hr hlocks hE hP hS h dX8_look_19
  · have h := h.2 c5
    refine lv_iload_n hx hb dX8_look_8 rfl (lv_at hl 2 rfl) ?_
    refine lv_i2l hx hb dX8_look_9 rfl ?_
    refine lv_lconst (v := (0 : Int64)) hx hb dX8_look_10 (by decide) ?_
    refine lv_lconst (v := (1 : Int64)) hx hb dX8_look_11 (by decide) ?_
    refine g_cSi (Wd := WM q ad) (z := z2) (As := [.long (Int32.toInt64 x2), .long (0 : Int64), .long (1 : Int64)]) (rest := []) hG S (kX8_in l D q ad A hD z2 (Int32.toInt64 x2) (0 : Int64) (1 : Int64) _ h) (va_cwS 3 ht (cW_S (fun _ h => h) tw_co_X8_in tw_ml_X8_74 tw_st_X8_in tw_in_X8) rfl rfl rfl (by decide +kernel) ⟨by decide, by decide⟩) hE hP hS rfl hl.1 rfl (Nat.le_of_ble_eq_true rfl) dX8_look_12 ⟨Nat.zero_le _, Nat.zero_le _⟩ (fun r12 z12 H locs h hP hS => ?_)
    refine lv_if_ne (tgt := 20) hx hb dX8_look_15 (by decide) (fun c15 => ?_) (fun c15 => ?_)
    · have h := h.1 c15
      refine lv_aload_n hx hb dX8_look_20 rfl (lv_at hl 0 rfl) ?_
      refine lv_iload_n hx hb dX8_look_21 rfl (lv_at hl 1 rfl) ?_
      refine g_cVi (Wd := WM q ad) (z := z12) (As := [.int x1]) (rest := []) hG S (kX8_faithsOf l D q ad A hD z12 x1 _ h) (cwV 1 ht (cW_V (fun _ h => h) tw_co_X8_faithsOf tw_ml_X8_277 tw_im_X8_faithsOf tw_se_X8_faithsOf tw_in_X8) rfl rfl rfl (by decide +kernel) ⟨by decide, by decide⟩) (va_recv hK hP (ci := 8) (q0 := 0) rfl (wm_0 q ad z12)) hE hP hS rfl hl.1 rfl (Nat.le_of_ble_eq_true rfl) dX8_look_22 ⟨Nat.zero_le _, Nat.zero_le _⟩ (fun r22 z22 H locs h hP hS => ?_)
      refine lv_istore_n (lv' := [(3, .int r22), (0, .ref (ad 0)), (1, .int x1), (2, .int x2)]) hx hb dX8_look_25 rfl hl (by decide) rfl (fun ls hl => ?_)
      refine lv_iload_n hx hb dX8_look_26 rfl (lv_at hl 0 rfl) ?_
      refine g_cSi (Wd := WM q ad) (z := z22) (As := [.int r22]) (rest := []) hG S (kX8_bitsOf l D q ad A hD z22 r22 _ h) (va_cwS 1 ht (cW_S (fun _ h => h) tw_co_X8_bitsOf tw_ml_X8_247 tw_st_X8_bitsOf tw_in_X8) rfl rfl rfl (by decide +kernel) ⟨by decide, by decide⟩) hE hP hS rfl hl.1 rfl (Nat.le_of_ble_eq_true rfl) dX8_look_27 ⟨Nat.zero_le _, Nat.zero_le _⟩ (fun r27 z27 H locs h hP hS => ?_)
      refine lv_istore (lv' := [(4, .int r27), (3, .int r22), (0, .ref (ad 0)), (1, .int x1), (2, .int x2)]) hx hb dX8_look_30 hl (by decide) rfl (fun ls hl => ?_)
      refine lv_bipush (v := (-4 : Int32)) hx hb dX8_look_32 (by decide) ?_
      refine lv_istore (lv' := [(5, .int (-4 : Int32)), (4, .int r27), (3, .int r22), (0, .ref (ad 0)), (1, .int x1), (2, .int x2)]) hx hb dX8_look_34 hl (by decide) rfl (fun ls hl => ?_)
      refine lv_iconst (v := (0 : Int32)) hx hb dX8_look_36 (by decide) ?_
      refine lv_istore (lv' := [(6, .int (0 : Int32)), (5, .int (-4 : Int32)), (4, .int r27), (3, .int r22), (0, .ref (ad 0)), (1, .int x1), (2, .int x2)]) hx hb dX8_look_37 hl (by decide) rfl (fun ls hl => ?_)
      obtain ⟨n, h⟩ := h
      exact L39 n z27 x2 r22 r27 (-4 : Int32) (0 : Int32) _ _ _ h hP hS (lv_sub hl [4, 6, 3, 2, 1, 0] rfl)
    · have h := h.2 c15
      refine lv_iconst (v := (-1 : Int32)) hx hb dX8_look_18 (by decide) ?_
      exact g_ri hG hx hb hr hlocks hE hP hS h dX8_look_19
def pX8_draws (z : MX) (x1 : Int32) (post : Int32 → MX → Prop) : Prop :=
  ∀ z13 : MX, z13 = mw z 0 39 (((z.1 0 39) * (1103515245 : Int32)) + (12345 : Int32)) →
  ¬ x1 = 0 ∧
  post ((((z13.1 0 39) >>> ((16 : Int32) &&& 31)) &&& (32767 : Int32)) - (((z13.1 0 39) >>> ((16 : Int32) &&& 31)) &&& (32767 : Int32)) / x1 * x1) z13
set_option maxHeartbeats 4000000 in
set_option maxRecDepth 100000 in
theorem kX8_draws (l : Launch) (D : va_G) (q : Nat → ClassId) (ad : Nat → Nat) (A : Nat → Prop) (hD : ∀ z, va_D A (WM q ad z)) (z : MX) (x1 : Int32) (post : Int32 → MX → Prop) (h : pX8_draws  z x1 post) : Met l yX8_draws (cW yX8_draws cX8_draws 2 (some .int)) ({ frames := 0, cells := 0, slots := 0, locals := 0 } : Room) (va_Pc [.ref (ad 0), .int x1] ((gB D vwCl (WM q ad) (mE D q)) z)) (va_Qi post (gB D vwCl (WM q ad) (mE D q)) A) 0 0 A := by
  refine Met.ofW (cc := cX8_draws) (maxL := 2) (ret := (some .int)) (by decide) rfl ?_
  intro p e s m args below meth c s₁ B hml hv
  obtain ⟨hargs, hP, hE⟩ := hv
  have hx := B.exec
  have hb := B.bytes
  have hr := B.returns
  have hts := atoms_spec (ws := (cW yX8_draws cX8_draws 2 (some .int))) B.pre
  have ht : ∀ w ∈ tG, w.before args s = true := fun w h => hts w (List.mem_cons_of_mem _ h)
  have hown : s.vm.findClass RX8 = some m.cls := findClass_of_methodNamed B.named
  have hlocks := B.notSynchronized
  have hK := hE.1
  have hG := mE_G D q A
  have S : CallFix p m c cX8_draws 2 s args tG RX8 := ⟨hx, hb, hml, hown, ht⟩
  have hS : va_S A s.heap s.heap [] := va_S.rf
  refine g_entry (vs := [.ref (ad 0), .int x1]) hargs (Nat.le_of_ble_eq_true rfl) (fun ls hl => ?_)
  have hl : lv_has ls 2 [(0, .ref (ad 0)), (1, .int x1)] := hl
  unfold pX8_draws at h
  refine lv_aload_n hx hb dX8_draws_0 rfl (lv_at hl 0 rfl) ?_
  refine lv_aload_n hx hb dX8_draws_1 rfl (lv_at hl 0 rfl) ?_
  refine va_get (D := D) (ci := 8) (v := .int (z.1 0 39)) (C := RX8) (T := TX8) (N := 45) hx hb ht tl_X8 hown hK hP 0 (wm_0 q ad z) rfl 39 (by decide) (ht _ tw_fl_X8_280) (fun _ h9 => h9) rfl dX8_draws_2 ?_
  refine lv_ldcw (v := (1103515245 : Int32)) hx hb hown (ht _ tw_cn_X8_283) dX8_draws_5 ?_
  refine lv_imul hx hb dX8_draws_8 ?_
  refine lv_sipush (v := (12345 : Int32)) hx hb dX8_draws_9 (by decide) ?_
  refine lv_iadd hx hb dX8_draws_12 ?_
  refine g_put (D := D) (Wd := WM q ad) (z := z) (ci := 8) (v := .int (((z.1 0 39) * (1103515245 : Int32)) + (12345 : Int32))) (ty := .int) (C := RX8) (T := TX8) (N := 45) hx hb ht tl_X8 tyX8 tyX8_ok nmX8 hown hK hP (hD z) hS 0 (wm_0 q ad z) rfl 39 (by decide) (ht _ tw_fl_X8_280) (fun _ h9 => h9) rfl rfl rfl rfl (Nat.le_of_ble_eq_true rfl) ((pm_0_39 q ad z) (((z.1 0 39) * (1103515245 : Int32)) + (12345 : Int32))) dX8_draws_13 (fun z13 H locs hz13 hP hS => ?_)
  have h := h z13 hz13
  refine lv_aload_n hx hb dX8_draws_16 rfl (lv_at hl 0 rfl) ?_
  refine va_get (D := D) (ci := 8) (v := .int (z13.1 0 39)) (C := RX8) (T := TX8) (N := 45) hx hb ht tl_X8 hown hK hP 0 (wm_0 q ad z13) rfl 39 (by decide) (ht _ tw_fl_X8_280) (fun _ h9 => h9) rfl dX8_draws_17 ?_
  refine lv_bipush (v := (16 : Int32)) hx hb dX8_draws_20 (by decide) ?_
  refine lv_ishr hx hb dX8_draws_22 ?_
  refine lv_sipush (v := (32767 : Int32)) hx hb dX8_draws_23 (by decide) ?_
  refine lv_iand hx hb dX8_draws_26 ?_
  refine lv_iload_n hx hb dX8_draws_27 rfl (lv_at hl 1 rfl) ?_
  have hd28 := h.1
  have h := h.2
  refine lv_irem hx hb dX8_draws_28 hd28 ?_
  exact g_ri hG hx hb hr hlocks hE hP hS h dX8_draws_29
def pX8_drift_b93 (rec45 : MX → Int32 → Int32 → Int32 → Int32 → Int32 → Prop) (post : Int32 → MX → Prop) (z : MX) (x2 : Int32) (x3 : Int32) (x5 : Int32) (x6 : Int32) (y0 : Int32) (y1 : Int32) : Prop :=
    ∀ x4_94 : Int32, x4_94 = y0 + y1 →
    pX8_cost z (fun (r99 : Int32) (z99 : MX) =>
    ∀ x5_103 : Int32, x5_103 = x5 + r99 →
    ∀ x6_105 : Int32, x6_105 = x6 + (1 : Int32) →
    rec45 z99 x2 x3 x4_94 x5_103 x6_105)
def pX8_drift_l45 (rec45 : MX → Int32 → Int32 → Int32 → Int32 → Int32 → Prop) (post : Int32 → MX → Prop) (z : MX) (x2 : Int32) (x3 : Int32) (x4 : Int32) (x5 : Int32) (x6 : Int32) : Prop :=
    ((x2 ≤ x6 →
      pX8_copies z (100 : Int32) (0 : Int32) (fun (z115 : MX) =>
      ((¬ x3 = 0 →
        post x5 z115) ∧
      (x3 = 0 →
        post x4 z115)))) ∧
    (¬ x2 ≤ x6 →
      pX8_draws z (z.1 0 1) (fun (r56 : Int32) (z56 : MX) =>
      pX8_draws z56 (5 : Int32) (fun (r66 : Int32) (z66 : MX) =>
      pX8_hangs z66 r56 r66 (fun (r69 : Int32) (z69 : MX) =>
      pX8_run z69 (fun (z74 : MX) =>
      (((z74.1 0 30) = (-4 : Int32) →
        pX8_drift_b93  rec45 post z74 x2 x3 x5 x6 x4 (0 : Int32)) ∧
      (¬ (z74.1 0 30) = (-4 : Int32) →
        pX8_drift_b93  rec45 post z74 x2 x3 x5 x6 x4 (1 : Int32)))))))))
def pX8_drift_L45 (post : Int32 → MX → Prop) : Nat → MX → Int32 → Int32 → Int32 → Int32 → Int32 → Prop
  | 0 => fun _ _ _ _ _ _ => False
  | n + 1 => fun z x2 x3 x4 x5 x6 => pX8_drift_l45  (pX8_drift_L45  post n) post z x2 x3 x4 x5 x6
def pX8_drift (z : MX) (x1 : Int32) (x2 : Int32) (x3 : Int32) (post : Int32 → MX → Prop) : Prop :=
  pX8_in z (Int32.toInt64 x2) (1 : Int64) (20 : Int64) (fun (r6 : Int32) (z6 : MX) =>
  ((r6 = 0 →
    post (-1 : Int32) z6) ∧
  (¬ r6 = 0 →
    pX8_in z6 (Int32.toInt64 x3) (0 : Int64) (1 : Int64) (fun (r16 : Int32) (z16 : MX) =>
    ((¬ r16 = 0 →
      pX8_copies z16 (0 : Int32) (100 : Int32) (fun (z34 : MX) =>
      ∀ z39 : MX, z39 = mw z34 0 39 x1 →
      ∃ n, pX8_drift_L45  post n z39 x2 x3 (0 : Int32) (0 : Int32) (0 : Int32))) ∧
    (r16 = 0 →
      post (-1 : Int32) z16))))))
set_option maxHeartbeats 4000000 in
set_option maxRecDepth 100000 in
theorem kX8_drift (l : Launch) (D : va_G) (q : Nat → ClassId) (ad : Nat → Nat) (A : Nat → Prop) (hD : ∀ z, va_D A (WM q ad z)) (z : MX) (x1 : Int32) (x2 : Int32) (x3 : Int32) (post : Int32 → MX → Prop) (h : pX8_drift  z x1 x2 x3 post) : Met l yX8_drift (cW yX8_drift cX8_drift 8 (some .int)) ({ frames := 4, cells := 0, slots := 0, locals := 88 } : Room) (va_Pc [.ref (ad 0), .int x1, .int x2, .int x3] ((gB D vwCl (WM q ad) (mE D q)) z)) (va_Qi post (gB D vwCl (WM q ad) (mE D q)) A) 0 0 A := by
  refine Met.ofW (cc := cX8_drift) (maxL := 8) (ret := (some .int)) (by decide) rfl ?_
  intro p e s m args below meth c s₁ B hml hv
  obtain ⟨hargs, hP, hE⟩ := hv
  have hx := B.exec
  have hb := B.bytes
  have hr := B.returns
  have hts := atoms_spec (ws := (cW yX8_drift cX8_drift 8 (some .int))) B.pre
  have ht : ∀ w ∈ tG, w.before args s = true := fun w h => hts w (List.mem_cons_of_mem _ h)
  have hown : s.vm.findClass RX8 = some m.cls := findClass_of_methodNamed B.named
  have hlocks := B.notSynchronized
  have hK := hE.1
  have hG := mE_G D q A
  have S : CallFix p m c cX8_drift 8 s args tG RX8 := ⟨hx, hb, hml, hown, ht⟩
  have hS : va_S A s.heap s.heap [] := va_S.rf
  have B93 : ∀ (rec45 : MX → Int32 → Int32 → Int32 → Int32 → Int32 → Prop) (hrec45 : ∀ (z : MX) (x2 : Int32) (x3 : Int32) (x4 : Int32) (x5 : Int32) (x6 : Int32) (H : Heap) (locs : List Loc) (ls : Array Slot), rec45 z x2 x3 x4 x5 x6 → va_P D vwCl (WM q ad z) H → va_S A s.heap H locs → lv_has ls 8 [(0, .ref (ad 0)), (2, .int x2), (3, .int x3), (4, .int x4), (5, .int x5), (6, .int x6)] → W p l e (headSpec (cW yX8_drift cX8_drift 8 (some .int)) ({ frames := 4, cells := 0, slots := 0, locals := 88 } : Room)).room s m args below meth c H locs 0 0 (MQ below (va_Qi post (gB D vwCl (WM q ad) (mE D q)) A) args s 0 0 A) (F0 m 45 ls [])) (z : MX) (x2 : Int32) (x3 : Int32) (x5 : Int32) (x6 : Int32) (y0 : Int32) (y1 : Int32) (H : Heap) (locs : List Loc) (ls : Array Slot), pX8_drift_b93  rec45 post z x2 x3 x5 x6 y0 y1 → va_P D vwCl (WM q ad z) H → va_S A s.heap H locs → lv_has ls 8 [(0, .ref (ad 0)), (2, .int x2), (3, .int x3), (5, .int x5), (6, .int x6)] → W p l e (headSpec (cW yX8_drift cX8_drift 8 (some .int)) ({ frames := 4, cells := 0, slots := 0, locals := 88 } : Room)).room s m args below meth c H locs 0 0 (MQ below (va_Qi post (gB D vwCl (WM q ad) (mE D q)) A) args s 0 0 A) (F0 m 93 ls [.int y1, .int y0]) := by
    intro rec45 hrec45 z x2 x3 x5 x6 y0 y1 H locs ls h hP hS hl
    unfold pX8_drift_b93 at h
    refine lv_iadd hx hb dX8_drift_93 ?_
    refine lv_topi (fun x4_94 ex4_94 => ?_)
    have h := h x4_94 ex4_94
    refine lv_istore (lv' := [(4, .int x4_94), (0, .ref (ad 0)), (2, .int x2), (3, .int x3), (5, .int x5), (6, .int x6)]) hx hb dX8_drift_94 hl (by decide) rfl (fun ls hl => ?_)
    refine lv_iload hx hb dX8_drift_96 (lv_at hl 4 rfl) ?_
    refine lv_aload_n hx hb dX8_drift_98 rfl (lv_at hl 1 rfl) ?_
    refine g_cVi (Wd := WM q ad) (z := z) (As := []) (rest := [.int x5]) hG S (kX8_cost l D q ad A hD z _ h) (cwV 0 ht (cW_V (fun _ h => h) tw_co_X8_cost tw_ml_X8_241 tw_im_X8_cost tw_se_X8_cost tw_in_X8) rfl rfl rfl (by decide +kernel) ⟨by decide, by decide⟩) (va_recv hK hP (ci := 8) (q0 := 0) rfl (wm_0 q ad z)) hE hP hS rfl hl.1 rfl (Nat.le_of_ble_eq_true rfl) dX8_drift_99 ⟨Nat.zero_le _, Nat.zero_le _⟩ (fun r99 z99 H locs h hP hS => ?_)
    refine lv_iadd hx hb dX8_drift_102 ?_
    refine lv_topi (fun x5_103 ex5_103 => ?_)
    have h := h x5_103 ex5_103
    refine lv_istore (lv' := [(5, .int x5_103), (4, .int x4_94), (0, .ref (ad 0)), (2, .int x2), (3, .int x3), (6, .int x6)]) hx hb dX8_drift_103 hl (by decide) rfl (fun ls hl => ?_)
    obtain ⟨x6_105, ex6_105⟩ : ∃ w : Int32, w = x6 + (1 : Int32) := ⟨_, rfl⟩
    have h := h x6_105 ex6_105
    refine lv_iinc (v := x6_105) (lv' := [(6, .int x6_105), (5, .int x5_103), (4, .int x4_94), (0, .ref (ad 0)), (2, .int x2), (3, .int x3)]) hx hb dX8_drift_105 hl (k := 5) rfl (by rw [ex6_105]; rfl) (by decide) rfl (fun ls hl => ?_)
    refine lv_goto (tgt := 45) hx hb dX8_drift_108 (by decide) ?_
    exact hrec45 z99 x2 x3 x4_94 x5_103 x6_105 _ _ _ h hP hS (lv_sub hl [3, 4, 5, 2, 1, 0] rfl)
  have B45 : ∀ (rec45 : MX → Int32 → Int32 → Int32 → Int32 → Int32 → Prop) (hrec45 : ∀ (z : MX) (x2 : Int32) (x3 : Int32) (x4 : Int32) (x5 : Int32) (x6 : Int32) (H : Heap) (locs : List Loc) (ls : Array Slot), rec45 z x2 x3 x4 x5 x6 → va_P D vwCl (WM q ad z) H → va_S A s.heap H locs → lv_has ls 8 [(0, .ref (ad 0)), (2, .int x2), (3, .int x3), (4, .int x4), (5, .int x5), (6, .int x6)] → W p l e (headSpec (cW yX8_drift cX8_drift 8 (some .int)) ({ frames := 4, cells := 0, slots := 0, locals := 88 } : Room)).room s m args below meth c H locs 0 0 (MQ below (va_Qi post (gB D vwCl (WM q ad) (mE D q)) A) args s 0 0 A) (F0 m 45 ls [])) (z : MX) (x2 : Int32) (x3 : Int32) (x4 : Int32) (x5 : Int32) (x6 : Int32) (H : Heap) (locs : List Loc) (ls : Array Slot), pX8_drift_l45  rec45 post z x2 x3 x4 x5 x6 → va_P D vwCl (WM q ad z) H → va_S A s.heap H locs → lv_has ls 8 [(0, .ref (ad 0)), (2, .int x2), (3, .int x3), (4, .int x4), (5, .int x5), (6, .int x6)] → W p l e (headSpec (cW yX8_drift cX8_drift 8 (some .int)) ({ frames := 4, cells := 0, slots := 0, locals := 88 } : Room)).room s m args below meth c H locs 0 0 (MQ below (va_Qi post (gB D vwCl (WM q ad) (mE D q)) A) args s 0 0 A) (F0 m 45 ls []) := by
    intro rec45 hrec45 z x2 x3 x4 x5 x6 H locs ls h hP hS hl
    unfold pX8_drift_l45 at h
    refine lv_iload hx hb dX8_drift_45 (lv_at hl 5 rfl) ?_
    refine lv_iload_n hx hb dX8_drift_47 rfl (lv_at hl 1 rfl) ?_
    refine lv_icmp_ge (tgt := 111) hx hb dX8_drift_48 (by decide) (fun c48 => ?_) (fun c48 => ?_)
    · have h := h.1 c48
      refine lv_aload_n hx hb dX8_drift_111 rfl (lv_at hl 0 rfl) ?_
      refine lv_bipush (v := (100 : Int32)) hx hb dX8_drift_112 (by decide) ?_
      refine lv_iconst (v := (0 : Int32)) hx hb dX8_drift_114 (by decide) ?_
      refine g_cVv (Wd := WM q ad) (z := z) (As := [.int (100 : Int32), .int (0 : Int32)]) (rest := []) hG S (kX8_copies l D q ad A hD z (100 : Int32) (0 : Int32) _ h) (cwV 2 ht (cW_V (fun _ h => h) tw_co_X8_copies tw_ml_X8_255 tw_im_X8_copies tw_se_X8_copies tw_in_X8) rfl rfl rfl (by decide +kernel) ⟨by decide, by decide⟩) (va_recv hK hP (ci := 8) (q0 := 0) rfl (wm_0 q ad z)) hE hP hS rfl hl.1 rfl (Nat.le_of_ble_eq_true rfl) dX8_drift_115 ⟨Nat.zero_le _, Nat.zero_le _⟩ (fun z115 H locs h hP hS => ?_)
      refine lv_iload_n hx hb dX8_drift_118 rfl (lv_at hl 2 rfl) ?_
      refine lv_if_ne (tgt := 127) hx hb dX8_drift_119 (by decide) (fun c119 => ?_) (fun c119 => ?_)
      · have h := h.1 c119
        refine lv_iload hx hb dX8_drift_127 (lv_at hl 4 rfl) ?_
        exact g_ri hG hx hb hr hlocks hE hP hS h dX8_drift_129
      · have h := h.2 c119
        refine lv_iload hx hb dX8_drift_122 (lv_at hl 3 rfl) ?_
        refine lv_goto (tgt := 129) hx hb dX8_drift_124 (by decide) ?_
        exact g_ri hG hx hb hr hlocks hE hP hS h dX8_drift_129
    · have h := h.2 c48
      refine lv_aload_n hx hb dX8_drift_51 rfl (lv_at hl 0 rfl) ?_
      refine lv_aload_n hx hb dX8_drift_52 rfl (lv_at hl 0 rfl) ?_
      refine va_get (D := D) (ci := 8) (v := .int (z.1 0 1)) (C := RX8) (T := TX8) (N := 45) hx hb ht tl_X8 hown hK hP 0 (wm_0 q ad z) rfl 1 (by decide) (ht _ tw_fl_X8_13) (fun _ h9 => h9) rfl dX8_drift_53 ?_
      refine g_cVi (Wd := WM q ad) (z := z) (As := [.int (z.1 0 1)]) (rest := []) hG S (kX8_draws l D q ad A hD z (z.1 0 1) _ h) (cwV 1 ht (cW_V (fun _ h => h) tw_co_X8_draws tw_ml_X8_286 tw_im_X8_draws tw_se_X8_draws tw_in_X8) rfl rfl rfl (by decide +kernel) ⟨by decide, by decide⟩) (va_recv hK hP (ci := 8) (q0 := 0) rfl (wm_0 q ad z)) hE hP hS rfl hl.1 rfl (Nat.le_of_ble_eq_true rfl) dX8_drift_56 ⟨Nat.zero_le _, Nat.zero_le _⟩ (fun r56 z56 H locs h hP hS => ?_)
      refine lv_istore (lv' := [(7, .int r56), (0, .ref (ad 0)), (2, .int x2), (3, .int x3), (4, .int x4), (5, .int x5), (6, .int x6)]) hx hb dX8_drift_59 hl (by decide) rfl (fun ls hl => ?_)
      refine lv_aload_n hx hb dX8_drift_61 rfl (lv_at hl 1 rfl) ?_
      refine lv_iload hx hb dX8_drift_62 (lv_at hl 0 rfl) ?_
      refine lv_aload_n hx hb dX8_drift_64 rfl (lv_at hl 1 rfl) ?_
      refine lv_iconst (v := (5 : Int32)) hx hb dX8_drift_65 (by decide) ?_
      refine g_cVi (Wd := WM q ad) (z := z56) (As := [.int (5 : Int32)]) (rest := [.int r56, .ref (ad 0)]) hG S (kX8_draws l D q ad A hD z56 (5 : Int32) _ h) (cwV 1 ht (cW_V (fun _ h => h) tw_co_X8_draws tw_ml_X8_286 tw_im_X8_draws tw_se_X8_draws tw_in_X8) rfl rfl rfl (by decide +kernel) ⟨by decide, by decide⟩) (va_recv hK hP (ci := 8) (q0 := 0) rfl (wm_0 q ad z56)) hE hP hS rfl hl.1 rfl (Nat.le_of_ble_eq_true rfl) dX8_drift_66 ⟨Nat.zero_le _, Nat.zero_le _⟩ (fun r66 z66 H locs h hP hS => ?_)
      refine g_cVi (Wd := WM q ad) (z := z66) (As := [.int r56, .int r66]) (rest := []) hG S (kX8_hangs l D q ad A hD z66 r56 r66 _ h) (cwV 2 ht (cW_V (fun _ h => h) tw_co_X8_hangs tw_ml_X8_199 tw_im_X8_hangs tw_se_X8_hangs tw_in_X8) rfl rfl rfl (by decide +kernel) ⟨by decide, by decide⟩) (va_recv hK hP (ci := 8) (q0 := 0) rfl (wm_0 q ad z66)) hE hP hS rfl hl.1 rfl (Nat.le_of_ble_eq_true rfl) dX8_drift_69 ⟨Nat.zero_le _, Nat.zero_le _⟩ (fun r69 z69 H locs h hP hS => ?_)
      refine lv_pop hx hb dX8_drift_72 rfl ?_
      refine lv_aload_n hx hb dX8_drift_73 rfl (lv_at hl 1 rfl) ?_
      refine g_cVv (Wd := WM q ad) (z := z69) (As := []) (rest := []) hG S (kX8_run l D q ad A hD z69 _ h) (cwV 0 ht (cW_V (fun _ h => h) tw_co_X8_run tw_ml_X8_236 tw_im_X8_run tw_se_X8_run tw_in_X8) rfl rfl rfl (by decide +kernel) ⟨by decide, by decide⟩) (va_recv hK hP (ci := 8) (q0 := 0) rfl (wm_0 q ad z69)) hE hP hS rfl hl.1 rfl (Nat.le_of_ble_eq_true rfl) dX8_drift_74 ⟨Nat.zero_le _, Nat.zero_le _⟩ (fun z74 H locs h hP hS => ?_)
      refine lv_iload hx hb dX8_drift_77 (lv_at hl 4 rfl) ?_
      refine lv_aload_n hx hb dX8_drift_79 rfl (lv_at hl 1 rfl) ?_
      refine va_get (D := D) (ci := 8) (v := .int (z74.1 0 30)) (C := RX8) (T := TX8) (N := 45) hx hb ht tl_X8 hown hK hP 0 (wm_0 q ad z74) rfl 30 (by decide) (ht _ tw_fl_X8_223) (fun _ h9 => h9) rfl dX8_drift_80 ?_
      refine lv_bipush (v := (-4 : Int32)) hx hb dX8_drift_83 (by decide) ?_
      refine lv_icmp_eq (tgt := 92) hx hb dX8_drift_85 (by decide) (fun c85 => ?_) (fun c85 => ?_)
      · have h := h.1 c85
        refine lv_iconst (v := (0 : Int32)) hx hb dX8_drift_92 (by decide) ?_
        exact B93 rec45 hrec45 z74 x2 x3 x5 x6 x4 (0 : Int32) _ _ _ h hP hS (lv_sub hl [1, 2, 3, 5, 6] rfl)
      · have h := h.2 c85
        refine lv_iconst (v := (1 : Int32)) hx hb dX8_drift_88 (by decide) ?_
        refine lv_goto (tgt := 93) hx hb dX8_drift_89 (by decide) ?_
        exact B93 rec45 hrec45 z74 x2 x3 x5 x6 x4 (1 : Int32) _ _ _ h hP hS (lv_sub hl [1, 2, 3, 5, 6] rfl)
  have L45 : ∀ (n : Nat) (z : MX) (x2 : Int32) (x3 : Int32) (x4 : Int32) (x5 : Int32) (x6 : Int32) (H : Heap) (locs : List Loc) (ls : Array Slot), pX8_drift_L45  post n z x2 x3 x4 x5 x6 → va_P D vwCl (WM q ad z) H → va_S A s.heap H locs → lv_has ls 8 [(0, .ref (ad 0)), (2, .int x2), (3, .int x3), (4, .int x4), (5, .int x5), (6, .int x6)] → W p l e (headSpec (cW yX8_drift cX8_drift 8 (some .int)) ({ frames := 4, cells := 0, slots := 0, locals := 88 } : Room)).room s m args below meth c H locs 0 0 (MQ below (va_Qi post (gB D vwCl (WM q ad) (mE D q)) A) args s 0 0 A) (F0 m 45 ls []) := by
    intro n
    induction n with
    | zero =>
      intro z x2 x3 x4 x5 x6 H locs ls h
      exact False.elim h
    | succ n ih =>
      intro z x2 x3 x4 x5 x6 H locs ls h hP hS hl
      exact B45 (pX8_drift_L45  post n) ih z x2 x3 x4 x5 x6 H locs ls h hP hS hl
  refine g_entry (vs := [.ref (ad 0), .int x1, .int x2, .int x3]) hargs (Nat.le_of_ble_eq_true rfl) (fun ls hl => ?_)
  have hl : lv_has ls 8 [(0, .ref (ad 0)), (1, .int x1), (2, .int x2), (3, .int x3)] := hl
  unfold pX8_drift at h
  refine lv_iload_n hx hb dX8_drift_0 rfl (lv_at hl 2 rfl) ?_
  refine lv_i2l hx hb dX8_drift_1 rfl ?_
  refine lv_lconst (v := (1 : Int64)) hx hb dX8_drift_2 (by decide) ?_
  refine lv_ldc2 (v := (20 : Int64)) hx hb hown (ht _ tw_cn_X8_284) dX8_drift_3 ?_
  refine g_cSi (Wd := WM q ad) (z := z) (As := [.long (Int32.toInt64 x2), .long (1 : Int64), .long (20 : Int64)]) (rest := []) hG S (kX8_in l D q ad A hD z (Int32.toInt64 x2) (1 : Int64) (20 : Int64) _ h) (va_cwS 3 ht (cW_S (fun _ h => h) tw_co_X8_in tw_ml_X8_74 tw_st_X8_in tw_in_X8) rfl rfl rfl (by decide +kernel) ⟨by decide, by decide⟩) hE hP hS rfl hl.1 rfl (Nat.le_of_ble_eq_true rfl) dX8_drift_6 ⟨Nat.zero_le _, Nat.zero_le _⟩ (fun r6 z6 H locs h hP hS => ?_)
  refine lv_if_eq (tgt := 22) hx hb dX8_drift_9 (by decide) (fun c9 => ?_) (fun c9 => ?_)
  · have h := h.1 c9
    refine lv_iconst (v := (-1 : Int32)) hx hb dX8_drift_22 (by decide) ?_
    exact g_ri hG hx hb hr hlocks hE hP hS h dX8_drift_23
  · have h := h.2 c9
    refine lv_iload_n hx hb dX8_drift_12 rfl (lv_at hl 3 rfl) ?_
    refine lv_i2l hx hb dX8_drift_13 rfl ?_
    refine lv_lconst (v := (0 : Int64)) hx hb dX8_drift_14 (by decide) ?_
    refine lv_lconst (v := (1 : Int64)) hx hb dX8_drift_15 (by decide) ?_
    refine g_cSi (Wd := WM q ad) (z := z6) (As := [.long (Int32.toInt64 x3), .long (0 : Int64), .long (1 : Int64)]) (rest := []) hG S (kX8_in l D q ad A hD z6 (Int32.toInt64 x3) (0 : Int64) (1 : Int64) _ h) (va_cwS 3 ht (cW_S (fun _ h => h) tw_co_X8_in tw_ml_X8_74 tw_st_X8_in tw_in_X8) rfl rfl rfl (by decide +kernel) ⟨by decide, by decide⟩) hE hP hS rfl hl.1 rfl (Nat.le_of_ble_eq_true rfl) dX8_drift_16 ⟨Nat.zero_le _, Nat.zero_le _⟩ (fun r16 z16 H locs h hP hS => ?_)
    refine lv_if_ne (tgt := 24) hx hb dX8_drift_19 (by decide) (fun c19 => ?_) (fun c19 => ?_)
    · have h := h.1 c19
      refine lv_iconst (v := (0 : Int32)) hx hb dX8_drift_24 (by decide) ?_
      refine lv_istore (lv' := [(4, .int (0 : Int32)), (0, .ref (ad 0)), (1, .int x1), (2, .int x2), (3, .int x3)]) hx hb dX8_drift_25 hl (by decide) rfl (fun ls hl => ?_)
      refine lv_iconst (v := (0 : Int32)) hx hb dX8_drift_27 (by decide) ?_
      refine lv_istore (lv' := [(5, .int (0 : Int32)), (4, .int (0 : Int32)), (0, .ref (ad 0)), (1, .int x1), (2, .int x2), (3, .int x3)]) hx hb dX8_drift_28 hl (by decide) rfl (fun ls hl => ?_)
      refine lv_aload_n hx hb dX8_drift_30 rfl (lv_at hl 2 rfl) ?_
      refine lv_iconst (v := (0 : Int32)) hx hb dX8_drift_31 (by decide) ?_
      refine lv_bipush (v := (100 : Int32)) hx hb dX8_drift_32 (by decide) ?_
      refine g_cVv (Wd := WM q ad) (z := z16) (As := [.int (0 : Int32), .int (100 : Int32)]) (rest := []) hG S (kX8_copies l D q ad A hD z16 (0 : Int32) (100 : Int32) _ h) (cwV 2 ht (cW_V (fun _ h => h) tw_co_X8_copies tw_ml_X8_255 tw_im_X8_copies tw_se_X8_copies tw_in_X8) rfl rfl rfl (by decide +kernel) ⟨by decide, by decide⟩) (va_recv hK hP (ci := 8) (q0 := 0) rfl (wm_0 q ad z16)) hE hP hS rfl hl.1 rfl (Nat.le_of_ble_eq_true rfl) dX8_drift_34 ⟨Nat.zero_le _, Nat.zero_le _⟩ (fun z34 H locs h hP hS => ?_)
      refine lv_aload_n hx hb dX8_drift_37 rfl (lv_at hl 2 rfl) ?_
      refine lv_iload_n hx hb dX8_drift_38 rfl (lv_at hl 3 rfl) ?_
      refine g_put (D := D) (Wd := WM q ad) (z := z34) (ci := 8) (v := .int x1) (ty := .int) (C := RX8) (T := TX8) (N := 45) hx hb ht tl_X8 tyX8 tyX8_ok nmX8 hown hK hP (hD z34) hS 0 (wm_0 q ad z34) rfl 39 (by decide) (ht _ tw_fl_X8_280) (fun _ h9 => h9) rfl rfl rfl rfl (Nat.le_of_ble_eq_true rfl) ((pm_0_39 q ad z34) x1) dX8_drift_39 (fun z39 H locs hz39 hP hS => ?_)
      have h := h z39 hz39
      refine lv_iconst (v := (0 : Int32)) hx hb dX8_drift_42 (by decide) ?_
      refine lv_istore (lv' := [(6, .int (0 : Int32)), (5, .int (0 : Int32)), (4, .int (0 : Int32)), (0, .ref (ad 0)), (1, .int x1), (2, .int x2), (3, .int x3)]) hx hb dX8_drift_43 hl (by decide) rfl (fun ls hl => ?_)
      obtain ⟨n, h⟩ := h
      exact L45 n z39 x2 x3 (0 : Int32) (0 : Int32) (0 : Int32) _ _ _ h hP hS (lv_sub hl [3, 5, 6, 2, 1, 0] rfl)
    · have h := h.2 c19
      refine lv_iconst (v := (-1 : Int32)) hx hb dX8_drift_22 (by decide) ?_
      exact g_ri hG hx hb hr hlocks hE hP hS h dX8_drift_23
def pX8_keep_b37 (post : Int32 → MX → Prop) (z : MX) (x1 : Int32) (y0 : Int32) : Prop :=
    vp_in x1 2 ∧
    ((1 : Int32) = 0 ∨ (1 : Int32) = 1) ∧
    ∀ z44 : MX, z44 = mw z 16 (Int32.toNatClampNeg x1) (1 : Int32) →
    post y0 z44
def pX8_keep (z : MX) (x1 : Int32) (post : Int32 → MX → Prop) : Prop :=
  pX8_in z (Int32.toInt64 x1) (0 : Int64) (1 : Int64) (fun (r4 : Int32) (z4 : MX) =>
  ((¬ r4 = 0 →
    pX8_copies z4 (0 : Int32) ((25 : Int32) * (x1 + (1 : Int32))) (fun (z20 : MX) =>
    vp_in x1 2 ∧
    (((z20.1 16 (Int32.toNatClampNeg x1)) = 0 →
      pX8_keep_b37  post z20 x1 (0 : Int32)) ∧
    (¬ (z20.1 16 (Int32.toNatClampNeg x1)) = 0 →
      pX8_keep_b37  post z20 x1 (1 : Int32))))) ∧
  (r4 = 0 →
    post (-1 : Int32) z4)))
set_option maxHeartbeats 4000000 in
set_option maxRecDepth 100000 in
theorem kX8_keep (l : Launch) (D : va_G) (q : Nat → ClassId) (ad : Nat → Nat) (A : Nat → Prop) (hD : ∀ z, va_D A (WM q ad z)) (z : MX) (x1 : Int32) (post : Int32 → MX → Prop) (h : pX8_keep  z x1 post) : Met l yX8_keep (cW yX8_keep cX8_keep 3 (some .int)) ({ frames := 1, cells := 0, slots := 0, locals := 25 } : Room) (va_Pc [.ref (ad 0), .int x1] ((gB D vwCl (WM q ad) (mE D q)) z)) (va_Qi post (gB D vwCl (WM q ad) (mE D q)) A) 0 0 A := by
  refine Met.ofW (cc := cX8_keep) (maxL := 3) (ret := (some .int)) (by decide) rfl ?_
  intro p e s m args below meth c s₁ B hml hv
  obtain ⟨hargs, hP, hE⟩ := hv
  have hx := B.exec
  have hb := B.bytes
  have hr := B.returns
  have hts := atoms_spec (ws := (cW yX8_keep cX8_keep 3 (some .int))) B.pre
  have ht : ∀ w ∈ tG, w.before args s = true := fun w h => hts w (List.mem_cons_of_mem _ h)
  have hown : s.vm.findClass RX8 = some m.cls := findClass_of_methodNamed B.named
  have hlocks := B.notSynchronized
  have hK := hE.1
  have hG := mE_G D q A
  have S : CallFix p m c cX8_keep 3 s args tG RX8 := ⟨hx, hb, hml, hown, ht⟩
  have hS : va_S A s.heap s.heap [] := va_S.rf
  have B37 : ∀ (z : MX) (x1 : Int32) (y0 : Int32) (H : Heap) (locs : List Loc) (ls : Array Slot), pX8_keep_b37  post z x1 y0 → va_P D vwCl (WM q ad z) H → va_S A s.heap H locs → lv_has ls 3 [(0, .ref (ad 0)), (1, .int x1)] → W p l e (headSpec (cW yX8_keep cX8_keep 3 (some .int)) ({ frames := 1, cells := 0, slots := 0, locals := 25 } : Room)).room s m args below meth c H locs 0 0 (MQ below (va_Qi post (gB D vwCl (WM q ad) (mE D q)) A) args s 0 0 A) (F0 m 37 ls [.int y0]) := by
    intro z x1 y0 H locs ls h hP hS hl
    unfold pX8_keep_b37 at h
    refine lv_istore_n (lv' := [(2, .int y0), (0, .ref (ad 0)), (1, .int x1)]) hx hb dX8_keep_37 rfl hl (by decide) rfl (fun ls hl => ?_)
    refine lv_aload_n hx hb dX8_keep_38 rfl (lv_at hl 1 rfl) ?_
    refine va_get (D := D) (ci := 8) (v := .ref (ad 16)) (C := RX8) (T := TX8) (N := 45) hx hb ht tl_X8 hown hK hP 0 (wm_0 q ad z) rfl 40 (by decide) (ht _ tw_fl_X8_60) (fun _ h9 => h9) rfl dX8_keep_39 ?_
    refine lv_iload_n hx hb dX8_keep_42 rfl (lv_at hl 2 rfl) ?_
    refine lv_iconst (v := (1 : Int32)) hx hb dX8_keep_43 (by decide) ?_
    have hi44 := h.1
    have h := h.2
    have hb44 := h.1
    have h := h.2
    refine g_zast (Wd := WM q ad) (z := z) hx hb hK hP (hD z) hS 16 (wm_16 q ad z) rfl (am_16 q ad z) hi44 hb44 dX8_keep_44 (fun z44 H locs hz44 hP hS => ?_)
    have h := h z44 hz44
    refine lv_iload_n hx hb dX8_keep_45 rfl (lv_at hl 0 rfl) ?_
    exact g_ri hG hx hb hr hlocks hE hP hS h dX8_keep_46
  refine g_entry (vs := [.ref (ad 0), .int x1]) hargs (Nat.le_of_ble_eq_true rfl) (fun ls hl => ?_)
  have hl : lv_has ls 3 [(0, .ref (ad 0)), (1, .int x1)] := hl
  unfold pX8_keep at h
  refine lv_iload_n hx hb dX8_keep_0 rfl (lv_at hl 1 rfl) ?_
  refine lv_i2l hx hb dX8_keep_1 rfl ?_
  refine lv_lconst (v := (0 : Int64)) hx hb dX8_keep_2 (by decide) ?_
  refine lv_lconst (v := (1 : Int64)) hx hb dX8_keep_3 (by decide) ?_
  refine g_cSi (Wd := WM q ad) (z := z) (As := [.long (Int32.toInt64 x1), .long (0 : Int64), .long (1 : Int64)]) (rest := []) hG S (kX8_in l D q ad A hD z (Int32.toInt64 x1) (0 : Int64) (1 : Int64) _ h) (va_cwS 3 ht (cW_S (fun _ h => h) tw_co_X8_in tw_ml_X8_74 tw_st_X8_in tw_in_X8) rfl rfl rfl (by decide +kernel) ⟨by decide, by decide⟩) hE hP hS rfl hl.1 rfl (Nat.le_of_ble_eq_true rfl) dX8_keep_4 ⟨Nat.zero_le _, Nat.zero_le _⟩ (fun r4 z4 H locs h hP hS => ?_)
  refine lv_if_ne (tgt := 12) hx hb dX8_keep_7 (by decide) (fun c7 => ?_) (fun c7 => ?_)
  · have h := h.1 c7
    refine lv_aload_n hx hb dX8_keep_12 rfl (lv_at hl 0 rfl) ?_
    refine lv_iconst (v := (0 : Int32)) hx hb dX8_keep_13 (by decide) ?_
    refine lv_bipush (v := (25 : Int32)) hx hb dX8_keep_14 (by decide) ?_
    refine lv_iload_n hx hb dX8_keep_16 rfl (lv_at hl 1 rfl) ?_
    refine lv_iconst (v := (1 : Int32)) hx hb dX8_keep_17 (by decide) ?_
    refine lv_iadd hx hb dX8_keep_18 ?_
    refine lv_imul hx hb dX8_keep_19 ?_
    refine g_cVv (Wd := WM q ad) (z := z4) (As := [.int (0 : Int32), .int ((25 : Int32) * (x1 + (1 : Int32)))]) (rest := []) hG S (kX8_copies l D q ad A hD z4 (0 : Int32) ((25 : Int32) * (x1 + (1 : Int32))) _ h) (cwV 2 ht (cW_V (fun _ h => h) tw_co_X8_copies tw_ml_X8_255 tw_im_X8_copies tw_se_X8_copies tw_in_X8) rfl rfl rfl (by decide +kernel) ⟨by decide, by decide⟩) (va_recv hK hP (ci := 8) (q0 := 0) rfl (wm_0 q ad z4)) hE hP hS rfl hl.1 rfl (Nat.le_of_ble_eq_true rfl) dX8_keep_20 ⟨Nat.zero_le _, Nat.zero_le _⟩ (fun z20 H locs h hP hS => ?_)
    refine lv_aload_n hx hb dX8_keep_23 rfl (lv_at hl 0 rfl) ?_
    refine va_get (D := D) (ci := 8) (v := .ref (ad 16)) (C := RX8) (T := TX8) (N := 45) hx hb ht tl_X8 hown hK hP 0 (wm_0 q ad z20) rfl 40 (by decide) (ht _ tw_fl_X8_60) (fun _ h9 => h9) rfl dX8_keep_24 ?_
    refine lv_iload_n hx hb dX8_keep_27 rfl (lv_at hl 1 rfl) ?_
    have hi28 := h.1
    have h := h.2
    refine va_zald hx hb hK hP 16 1 (wm_16 q ad z20) rfl hi28 dX8_keep_28 ?_
    refine lv_if_eq (tgt := 36) hx hb dX8_keep_29 (by decide) (fun c29 => ?_) (fun c29 => ?_)
    · have h := h.1 c29
      refine lv_iconst (v := (0 : Int32)) hx hb dX8_keep_36 (by decide) ?_
      exact B37 z20 x1 (0 : Int32) _ _ _ h hP hS (lv_sub hl [0, 1] rfl)
    · have h := h.2 c29
      refine lv_iconst (v := (1 : Int32)) hx hb dX8_keep_32 (by decide) ?_
      refine lv_goto (tgt := 37) hx hb dX8_keep_33 (by decide) ?_
      exact B37 z20 x1 (1 : Int32) _ _ _ h hP hS (lv_sub hl [0, 1] rfl)
  · have h := h.2 c7
    refine lv_iconst (v := (-1 : Int32)) hx hb dX8_keep_10 (by decide) ?_
    exact g_ri hG hx hb hr hlocks hE hP hS h dX8_keep_11
def pX8_back (z : MX) (x1 : Int32) (post : Int32 → MX → Prop) : Prop :=
  pX8_in z (Int32.toInt64 x1) (0 : Int64) (1 : Int64) (fun (r4 : Int32) (z4 : MX) =>
  ((¬ r4 = 0 →
    vp_in x1 2 ∧
    ((¬ (z4.1 16 (Int32.toNatClampNeg x1)) = 0 →
      pX8_copies z4 ((25 : Int32) * (x1 + (1 : Int32))) (0 : Int32) (fun (z32 : MX) =>
      pX8_omens z32 (fun (r36 : Int32) (z36 : MX) =>
      pX8_bitsOf z36 r36 (fun (r39 : Int32) (z39 : MX) =>
      post r39 z39)))) ∧
    ((z4.1 16 (Int32.toNatClampNeg x1)) = 0 →
      post (-2 : Int32) z4))) ∧
  (r4 = 0 →
    post (-1 : Int32) z4)))
set_option maxHeartbeats 4000000 in
set_option maxRecDepth 100000 in
theorem kX8_back (l : Launch) (D : va_G) (q : Nat → ClassId) (ad : Nat → Nat) (A : Nat → Prop) (hD : ∀ z, va_D A (WM q ad z)) (z : MX) (x1 : Int32) (post : Int32 → MX → Prop) (h : pX8_back  z x1 post) : Met l yX8_back (cW yX8_back cX8_back 2 (some .int)) ({ frames := 1, cells := 0, slots := 0, locals := 25 } : Room) (va_Pc [.ref (ad 0), .int x1] ((gB D vwCl (WM q ad) (mE D q)) z)) (va_Qi post (gB D vwCl (WM q ad) (mE D q)) A) 0 0 A := by
  refine Met.ofW (cc := cX8_back) (maxL := 2) (ret := (some .int)) (by decide) rfl ?_
  intro p e s m args below meth c s₁ B hml hv
  obtain ⟨hargs, hP, hE⟩ := hv
  have hx := B.exec
  have hb := B.bytes
  have hr := B.returns
  have hts := atoms_spec (ws := (cW yX8_back cX8_back 2 (some .int))) B.pre
  have ht : ∀ w ∈ tG, w.before args s = true := fun w h => hts w (List.mem_cons_of_mem _ h)
  have hown : s.vm.findClass RX8 = some m.cls := findClass_of_methodNamed B.named
  have hlocks := B.notSynchronized
  have hK := hE.1
  have hG := mE_G D q A
  have S : CallFix p m c cX8_back 2 s args tG RX8 := ⟨hx, hb, hml, hown, ht⟩
  have hS : va_S A s.heap s.heap [] := va_S.rf
  refine g_entry (vs := [.ref (ad 0), .int x1]) hargs (Nat.le_of_ble_eq_true rfl) (fun ls hl => ?_)
  have hl : lv_has ls 2 [(0, .ref (ad 0)), (1, .int x1)] := hl
  unfold pX8_back at h
  refine lv_iload_n hx hb dX8_back_0 rfl (lv_at hl 1 rfl) ?_
  refine lv_i2l hx hb dX8_back_1 rfl ?_
  refine lv_lconst (v := (0 : Int64)) hx hb dX8_back_2 (by decide) ?_
  refine lv_lconst (v := (1 : Int64)) hx hb dX8_back_3 (by decide) ?_
  refine g_cSi (Wd := WM q ad) (z := z) (As := [.long (Int32.toInt64 x1), .long (0 : Int64), .long (1 : Int64)]) (rest := []) hG S (kX8_in l D q ad A hD z (Int32.toInt64 x1) (0 : Int64) (1 : Int64) _ h) (va_cwS 3 ht (cW_S (fun _ h => h) tw_co_X8_in tw_ml_X8_74 tw_st_X8_in tw_in_X8) rfl rfl rfl (by decide +kernel) ⟨by decide, by decide⟩) hE hP hS rfl hl.1 rfl (Nat.le_of_ble_eq_true rfl) dX8_back_4 ⟨Nat.zero_le _, Nat.zero_le _⟩ (fun r4 z4 H locs h hP hS => ?_)
  refine lv_if_ne (tgt := 12) hx hb dX8_back_7 (by decide) (fun c7 => ?_) (fun c7 => ?_)
  · have h := h.1 c7
    refine lv_aload_n hx hb dX8_back_12 rfl (lv_at hl 0 rfl) ?_
    refine va_get (D := D) (ci := 8) (v := .ref (ad 16)) (C := RX8) (T := TX8) (N := 45) hx hb ht tl_X8 hown hK hP 0 (wm_0 q ad z4) rfl 40 (by decide) (ht _ tw_fl_X8_60) (fun _ h9 => h9) rfl dX8_back_13 ?_
    refine lv_iload_n hx hb dX8_back_16 rfl (lv_at hl 1 rfl) ?_
    have hi17 := h.1
    have h := h.2
    refine va_zald hx hb hK hP 16 1 (wm_16 q ad z4) rfl hi17 dX8_back_17 ?_
    refine lv_if_ne (tgt := 24) hx hb dX8_back_18 (by decide) (fun c18 => ?_) (fun c18 => ?_)
    · have h := h.1 c18
      refine lv_aload_n hx hb dX8_back_24 rfl (lv_at hl 0 rfl) ?_
      refine lv_bipush (v := (25 : Int32)) hx hb dX8_back_25 (by decide) ?_
      refine lv_iload_n hx hb dX8_back_27 rfl (lv_at hl 1 rfl) ?_
      refine lv_iconst (v := (1 : Int32)) hx hb dX8_back_28 (by decide) ?_
      refine lv_iadd hx hb dX8_back_29 ?_
      refine lv_imul hx hb dX8_back_30 ?_
      refine lv_iconst (v := (0 : Int32)) hx hb dX8_back_31 (by decide) ?_
      refine g_cVv (Wd := WM q ad) (z := z4) (As := [.int ((25 : Int32) * (x1 + (1 : Int32))), .int (0 : Int32)]) (rest := []) hG S (kX8_copies l D q ad A hD z4 ((25 : Int32) * (x1 + (1 : Int32))) (0 : Int32) _ h) (cwV 2 ht (cW_V (fun _ h => h) tw_co_X8_copies tw_ml_X8_255 tw_im_X8_copies tw_se_X8_copies tw_in_X8) rfl rfl rfl (by decide +kernel) ⟨by decide, by decide⟩) (va_recv hK hP (ci := 8) (q0 := 0) rfl (wm_0 q ad z4)) hE hP hS rfl hl.1 rfl (Nat.le_of_ble_eq_true rfl) dX8_back_32 ⟨Nat.zero_le _, Nat.zero_le _⟩ (fun z32 H locs h hP hS => ?_)
      refine lv_aload_n hx hb dX8_back_35 rfl (lv_at hl 0 rfl) ?_
      refine g_cVi (Wd := WM q ad) (z := z32) (As := []) (rest := []) hG S (kX8_omens l D q ad A hD z32 _ h) (cwV 0 ht (cW_V (fun _ h => h) tw_co_X8_omens tw_ml_X8_182 tw_im_X8_omens tw_se_X8_omens tw_in_X8) rfl rfl rfl (by decide +kernel) ⟨by decide, by decide⟩) (va_recv hK hP (ci := 8) (q0 := 0) rfl (wm_0 q ad z32)) hE hP hS rfl hl.1 rfl (Nat.le_of_ble_eq_true rfl) dX8_back_36 ⟨Nat.zero_le _, Nat.zero_le _⟩ (fun r36 z36 H locs h hP hS => ?_)
      refine g_cSi (Wd := WM q ad) (z := z36) (As := [.int r36]) (rest := []) hG S (kX8_bitsOf l D q ad A hD z36 r36 _ h) (va_cwS 1 ht (cW_S (fun _ h => h) tw_co_X8_bitsOf tw_ml_X8_247 tw_st_X8_bitsOf tw_in_X8) rfl rfl rfl (by decide +kernel) ⟨by decide, by decide⟩) hE hP hS rfl hl.1 rfl (Nat.le_of_ble_eq_true rfl) dX8_back_39 ⟨Nat.zero_le _, Nat.zero_le _⟩ (fun r39 z39 H locs h hP hS => ?_)
      exact g_ri hG hx hb hr hlocks hE hP hS h dX8_back_42
    · have h := h.2 c18
      refine lv_bipush (v := (-2 : Int32)) hx hb dX8_back_21 (by decide) ?_
      exact g_ri hG hx hb hr hlocks hE hP hS h dX8_back_23
  · have h := h.2 c7
    refine lv_iconst (v := (-1 : Int32)) hx hb dX8_back_10 (by decide) ?_
    exact g_ri hG hx hb hr hlocks hE hP hS h dX8_back_11
def pX8_sheet_l56 (rec56 : MX → Int32 → Int32 → Prop) (post : Int32 → MX → Prop) (z : MX) (x1 : Int32) (x4 : Int32) : Prop :=
    (((40 : Int32) ≤ x4 →
      post (1 : Int32) z) ∧
    (¬ (40 : Int32) ≤ x4 →
      vp_in (((40 : Int32) * x1) + x4) 160 ∧
      ∀ z75 : MX, z75 = mw z 19 (Int32.toNatClampNeg (((40 : Int32) * x1) + x4)) (0 : Int32) →
      ∀ x4_76 : Int32, x4_76 = x4 + (1 : Int32) →
      rec56 z75 x1 x4_76))
def pX8_sheet_L56 (post : Int32 → MX → Prop) : Nat → MX → Int32 → Int32 → Prop
  | 0 => fun _ _ _ => False
  | n + 1 => fun z x1 x4 => pX8_sheet_l56  (pX8_sheet_L56  post n) post z x1 x4
def pX8_sheet (z : MX) (x1 : Int32) (x2 : Int32) (x3 : Int32) (post : Int32 → MX → Prop) : Prop :=
  pX8_in z (Int32.toInt64 x1) (0 : Int64) (3 : Int64) (fun (r6 : Int32) (z6 : MX) =>
  ((r6 = 0 →
    post (-1 : Int32) z6) ∧
  (¬ r6 = 0 →
    pX8_in z6 (Int32.toInt64 x2) (0 : Int64) (2 : Int64) (fun (r18 : Int32) (z18 : MX) =>
    ((r18 = 0 →
      post (-1 : Int32) z18) ∧
    (¬ r18 = 0 →
      ((x3 ≤ (40 : Int32) →
        ((0 ≤ x3 →
          vp_in x1 4 ∧
          ∀ z45 : MX, z45 = mw z18 17 (Int32.toNatClampNeg x1) x2 →
          vp_in x1 4 ∧
          ∀ z52 : MX, z52 = mw z45 18 (Int32.toNatClampNeg x1) x3 →
          ∃ n, pX8_sheet_L56  post n z52 x1 (0 : Int32)) ∧
        (¬ 0 ≤ x3 →
          post (-14 : Int32) z18))) ∧
      (¬ x3 ≤ (40 : Int32) →
        post (-1 : Int32) z18))))))))
set_option maxHeartbeats 4000000 in
set_option maxRecDepth 100000 in
theorem kX8_sheet (l : Launch) (D : va_G) (q : Nat → ClassId) (ad : Nat → Nat) (A : Nat → Prop) (hD : ∀ z, va_D A (WM q ad z)) (z : MX) (x1 : Int32) (x2 : Int32) (x3 : Int32) (post : Int32 → MX → Prop) (h : pX8_sheet  z x1 x2 x3 post) : Met l yX8_sheet (cW yX8_sheet cX8_sheet 5 (some .int)) ({ frames := 1, cells := 0, slots := 0, locals := 25 } : Room) (va_Pc [.ref (ad 0), .int x1, .int x2, .int x3] ((gB D vwCl (WM q ad) (mE D q)) z)) (va_Qi post (gB D vwCl (WM q ad) (mE D q)) A) 0 0 A := by
  refine Met.ofW (cc := cX8_sheet) (maxL := 5) (ret := (some .int)) (by decide) rfl ?_
  intro p e s m args below meth c s₁ B hml hv
  obtain ⟨hargs, hP, hE⟩ := hv
  have hx := B.exec
  have hb := B.bytes
  have hr := B.returns
  have hts := atoms_spec (ws := (cW yX8_sheet cX8_sheet 5 (some .int))) B.pre
  have ht : ∀ w ∈ tG, w.before args s = true := fun w h => hts w (List.mem_cons_of_mem _ h)
  have hown : s.vm.findClass RX8 = some m.cls := findClass_of_methodNamed B.named
  have hlocks := B.notSynchronized
  have hK := hE.1
  have hG := mE_G D q A
  have S : CallFix p m c cX8_sheet 5 s args tG RX8 := ⟨hx, hb, hml, hown, ht⟩
  have hS : va_S A s.heap s.heap [] := va_S.rf
  have B56 : ∀ (rec56 : MX → Int32 → Int32 → Prop) (hrec56 : ∀ (z : MX) (x1 : Int32) (x4 : Int32) (H : Heap) (locs : List Loc) (ls : Array Slot), rec56 z x1 x4 → va_P D vwCl (WM q ad z) H → va_S A s.heap H locs → lv_has ls 5 [(0, .ref (ad 0)), (1, .int x1), (4, .int x4)] → W p l e (headSpec (cW yX8_sheet cX8_sheet 5 (some .int)) ({ frames := 1, cells := 0, slots := 0, locals := 25 } : Room)).room s m args below meth c H locs 0 0 (MQ below (va_Qi post (gB D vwCl (WM q ad) (mE D q)) A) args s 0 0 A) (F0 m 56 ls [])) (z : MX) (x1 : Int32) (x4 : Int32) (H : Heap) (locs : List Loc) (ls : Array Slot), pX8_sheet_l56  rec56 post z x1 x4 → va_P D vwCl (WM q ad z) H → va_S A s.heap H locs → lv_has ls 5 [(0, .ref (ad 0)), (1, .int x1), (4, .int x4)] → W p l e (headSpec (cW yX8_sheet cX8_sheet 5 (some .int)) ({ frames := 1, cells := 0, slots := 0, locals := 25 } : Room)).room s m args below meth c H locs 0 0 (MQ below (va_Qi post (gB D vwCl (WM q ad) (mE D q)) A) args s 0 0 A) (F0 m 56 ls []) := by
    intro rec56 hrec56 z x1 x4 H locs ls h hP hS hl
    unfold pX8_sheet_l56 at h
    refine lv_iload hx hb dX8_sheet_56 (lv_at hl 2 rfl) ?_
    refine lv_bipush (v := (40 : Int32)) hx hb dX8_sheet_58 (by decide) ?_
    refine lv_icmp_ge (tgt := 82) hx hb dX8_sheet_60 (by decide) (fun c60 => ?_) (fun c60 => ?_)
    · have h := h.1 c60
      refine lv_iconst (v := (1 : Int32)) hx hb dX8_sheet_82 (by decide) ?_
      exact g_ri hG hx hb hr hlocks hE hP hS h dX8_sheet_83
    · have h := h.2 c60
      refine lv_aload_n hx hb dX8_sheet_63 rfl (lv_at hl 0 rfl) ?_
      refine va_get (D := D) (ci := 8) (v := .ref (ad 19)) (C := RX8) (T := TX8) (N := 45) hx hb ht tl_X8 hown hK hP 0 (wm_0 q ad z) rfl 43 (by decide) (ht _ tw_fl_X8_69) (fun _ h9 => h9) rfl dX8_sheet_64 ?_
      refine lv_bipush (v := (40 : Int32)) hx hb dX8_sheet_67 (by decide) ?_
      refine lv_iload_n hx hb dX8_sheet_69 rfl (lv_at hl 1 rfl) ?_
      refine lv_imul hx hb dX8_sheet_70 ?_
      refine lv_iload hx hb dX8_sheet_71 (lv_at hl 2 rfl) ?_
      refine lv_iadd hx hb dX8_sheet_73 ?_
      refine lv_iconst (v := (0 : Int32)) hx hb dX8_sheet_74 (by decide) ?_
      have hi75 := h.1
      have h := h.2
      refine g_iast (Wd := WM q ad) (z := z) hx hb hK hP (hD z) hS 19 (wm_19 q ad z) rfl (am_19 q ad z) hi75 dX8_sheet_75 (fun z75 H locs hz75 hP hS => ?_)
      have h := h z75 hz75
      obtain ⟨x4_76, ex4_76⟩ : ∃ w : Int32, w = x4 + (1 : Int32) := ⟨_, rfl⟩
      have h := h x4_76 ex4_76
      refine lv_iinc (v := x4_76) (lv' := [(4, .int x4_76), (0, .ref (ad 0)), (1, .int x1)]) hx hb dX8_sheet_76 hl (k := 2) rfl (by rw [ex4_76]; rfl) (by decide) rfl (fun ls hl => ?_)
      refine lv_goto (tgt := 56) hx hb dX8_sheet_79 (by decide) ?_
      exact hrec56 z75 x1 x4_76 _ _ _ h hP hS (lv_sub hl [1, 2, 0] rfl)
  have L56 : ∀ (n : Nat) (z : MX) (x1 : Int32) (x4 : Int32) (H : Heap) (locs : List Loc) (ls : Array Slot), pX8_sheet_L56  post n z x1 x4 → va_P D vwCl (WM q ad z) H → va_S A s.heap H locs → lv_has ls 5 [(0, .ref (ad 0)), (1, .int x1), (4, .int x4)] → W p l e (headSpec (cW yX8_sheet cX8_sheet 5 (some .int)) ({ frames := 1, cells := 0, slots := 0, locals := 25 } : Room)).room s m args below meth c H locs 0 0 (MQ below (va_Qi post (gB D vwCl (WM q ad) (mE D q)) A) args s 0 0 A) (F0 m 56 ls []) := by
    intro n
    induction n with
    | zero =>
      intro z x1 x4 H locs ls h
      exact False.elim h
    | succ n ih =>
      intro z x1 x4 H locs ls h hP hS hl
      exact B56 (pX8_sheet_L56  post n) ih z x1 x4 H locs ls h hP hS hl
  refine g_entry (vs := [.ref (ad 0), .int x1, .int x2, .int x3]) hargs (Nat.le_of_ble_eq_true rfl) (fun ls hl => ?_)
  have hl : lv_has ls 5 [(0, .ref (ad 0)), (1, .int x1), (2, .int x2), (3, .int x3)] := hl
  unfold pX8_sheet at h
  refine lv_iload_n hx hb dX8_sheet_0 rfl (lv_at hl 1 rfl) ?_
  refine lv_i2l hx hb dX8_sheet_1 rfl ?_
  refine lv_lconst (v := (0 : Int64)) hx hb dX8_sheet_2 (by decide) ?_
  refine lv_ldc2 (v := (3 : Int64)) hx hb hown (ht _ tw_cn_X8_197) dX8_sheet_3 ?_
  refine g_cSi (Wd := WM q ad) (z := z) (As := [.long (Int32.toInt64 x1), .long (0 : Int64), .long (3 : Int64)]) (rest := []) hG S (kX8_in l D q ad A hD z (Int32.toInt64 x1) (0 : Int64) (3 : Int64) _ h) (va_cwS 3 ht (cW_S (fun _ h => h) tw_co_X8_in tw_ml_X8_74 tw_st_X8_in tw_in_X8) rfl rfl rfl (by decide +kernel) ⟨by decide, by decide⟩) hE hP hS rfl hl.1 rfl (Nat.le_of_ble_eq_true rfl) dX8_sheet_6 ⟨Nat.zero_le _, Nat.zero_le _⟩ (fun r6 z6 H locs h hP hS => ?_)
  refine lv_if_eq (tgt := 30) hx hb dX8_sheet_9 (by decide) (fun c9 => ?_) (fun c9 => ?_)
  · have h := h.1 c9
    refine lv_iconst (v := (-1 : Int32)) hx hb dX8_sheet_30 (by decide) ?_
    exact g_ri hG hx hb hr hlocks hE hP hS h dX8_sheet_31
  · have h := h.2 c9
    refine lv_iload_n hx hb dX8_sheet_12 rfl (lv_at hl 2 rfl) ?_
    refine lv_i2l hx hb dX8_sheet_13 rfl ?_
    refine lv_lconst (v := (0 : Int64)) hx hb dX8_sheet_14 (by decide) ?_
    refine lv_ldc2 (v := (2 : Int64)) hx hb hown (ht _ tw_cn_X8_189) dX8_sheet_15 ?_
    refine g_cSi (Wd := WM q ad) (z := z6) (As := [.long (Int32.toInt64 x2), .long (0 : Int64), .long (2 : Int64)]) (rest := []) hG S (kX8_in l D q ad A hD z6 (Int32.toInt64 x2) (0 : Int64) (2 : Int64) _ h) (va_cwS 3 ht (cW_S (fun _ h => h) tw_co_X8_in tw_ml_X8_74 tw_st_X8_in tw_in_X8) rfl rfl rfl (by decide +kernel) ⟨by decide, by decide⟩) hE hP hS rfl hl.1 rfl (Nat.le_of_ble_eq_true rfl) dX8_sheet_18 ⟨Nat.zero_le _, Nat.zero_le _⟩ (fun r18 z18 H locs h hP hS => ?_)
    refine lv_if_eq (tgt := 30) hx hb dX8_sheet_21 (by decide) (fun c21 => ?_) (fun c21 => ?_)
    · have h := h.1 c21
      refine lv_iconst (v := (-1 : Int32)) hx hb dX8_sheet_30 (by decide) ?_
      exact g_ri hG hx hb hr hlocks hE hP hS h dX8_sheet_31
    · have h := h.2 c21
      refine lv_iload_n hx hb dX8_sheet_24 rfl (lv_at hl 3 rfl) ?_
      refine lv_bipush (v := (40 : Int32)) hx hb dX8_sheet_25 (by decide) ?_
      refine lv_icmp_le (tgt := 32) hx hb dX8_sheet_27 (by decide) (fun c27 => ?_) (fun c27 => ?_)
      · have h := h.1 c27
        refine lv_iload_n hx hb dX8_sheet_32 rfl (lv_at hl 3 rfl) ?_
        refine lv_if_ge (tgt := 39) hx hb dX8_sheet_33 (by decide) (fun c33 => ?_) (fun c33 => ?_)
        · have h := h.1 c33
          refine lv_aload_n hx hb dX8_sheet_39 rfl (lv_at hl 0 rfl) ?_
          refine va_get (D := D) (ci := 8) (v := .ref (ad 17)) (C := RX8) (T := TX8) (N := 45) hx hb ht tl_X8 hown hK hP 0 (wm_0 q ad z18) rfl 41 (by decide) (ht _ tw_fl_X8_63) (fun _ h9 => h9) rfl dX8_sheet_40 ?_
          refine lv_iload_n hx hb dX8_sheet_43 rfl (lv_at hl 1 rfl) ?_
          refine lv_iload_n hx hb dX8_sheet_44 rfl (lv_at hl 2 rfl) ?_
          have hi45 := h.1
          have h := h.2
          refine g_iast (Wd := WM q ad) (z := z18) hx hb hK hP (hD z18) hS 17 (wm_17 q ad z18) rfl (am_17 q ad z18) hi45 dX8_sheet_45 (fun z45 H locs hz45 hP hS => ?_)
          have h := h z45 hz45
          refine lv_aload_n hx hb dX8_sheet_46 rfl (lv_at hl 0 rfl) ?_
          refine va_get (D := D) (ci := 8) (v := .ref (ad 18)) (C := RX8) (T := TX8) (N := 45) hx hb ht tl_X8 hown hK hP 0 (wm_0 q ad z45) rfl 42 (by decide) (ht _ tw_fl_X8_66) (fun _ h9 => h9) rfl dX8_sheet_47 ?_
          refine lv_iload_n hx hb dX8_sheet_50 rfl (lv_at hl 1 rfl) ?_
          refine lv_iload_n hx hb dX8_sheet_51 rfl (lv_at hl 3 rfl) ?_
          have hi52 := h.1
          have h := h.2
          refine g_iast (Wd := WM q ad) (z := z45) hx hb hK hP (hD z45) hS 18 (wm_18 q ad z45) rfl (am_18 q ad z45) hi52 dX8_sheet_52 (fun z52 H locs hz52 hP hS => ?_)
          have h := h z52 hz52
          refine lv_iconst (v := (0 : Int32)) hx hb dX8_sheet_53 (by decide) ?_
          refine lv_istore (lv' := [(4, .int (0 : Int32)), (0, .ref (ad 0)), (1, .int x1), (2, .int x2), (3, .int x3)]) hx hb dX8_sheet_54 hl (by decide) rfl (fun ls hl => ?_)
          obtain ⟨n, h⟩ := h
          exact L56 n z52 x1 (0 : Int32) _ _ _ h hP hS (lv_sub hl [1, 2, 0] rfl)
        · have h := h.2 c33
          refine lv_bipush (v := (-14 : Int32)) hx hb dX8_sheet_36 (by decide) ?_
          exact g_ri hG hx hb hr hlocks hE hP hS h dX8_sheet_38
      · have h := h.2 c27
        refine lv_iconst (v := (-1 : Int32)) hx hb dX8_sheet_30 (by decide) ?_
        exact g_ri hG hx hb hr hlocks hE hP hS h dX8_sheet_31
def pX8_lay_b99 (post : Int32 → MX → Prop) (z : MX) (y1 : Int32) (y2 : Int32) : Prop :=
    vp_in y1 160 ∧
    ∀ z99 : MX, z99 = mw z 19 (Int32.toNatClampNeg y1) y2 →
    post (1 : Int32) z99
def pX8_lay (z : MX) (x1 : Int32) (x2 : Int32) (x3 : Int32) (post : Int32 → MX → Prop) : Prop :=
  pX8_in z (Int32.toInt64 x1) (0 : Int64) (3 : Int64) (fun (r6 : Int32) (z6 : MX) =>
  ((¬ r6 = 0 →
    vp_in x1 4 ∧
    ((¬ (z6.1 17 (Int32.toNatClampNeg x1)) = (-4 : Int32) →
      vp_in x1 4 ∧
      pX8_in z6 (Int32.toInt64 x2) (0 : Int64) (Int32.toInt64 ((z6.1 18 (Int32.toNatClampNeg x1)) - (1 : Int32))) (fun (r40 : Int32) (z40 : MX) =>
      ((¬ r40 = 0 →
        vp_in x1 4 ∧
        ((¬ (z40.1 17 (Int32.toNatClampNeg x1)) = 0 →
          vp_in x1 4 ∧
          ((¬ (z40.1 17 (Int32.toNatClampNeg x1)) = (1 : Int32) →
            pX8_lay_b99  post z40 (((40 : Int32) * x1) + x2) x3) ∧
          ((z40.1 17 (Int32.toNatClampNeg x1)) = (1 : Int32) →
            pX8_lay_b99  post z40 (((40 : Int32) * x1) + x2) ((x3 <<< ((16 : Int32) &&& 31)) >>> ((16 : Int32) &&& 31))))) ∧
        ((z40.1 17 (Int32.toNatClampNeg x1)) = 0 →
          pX8_lay_b99  post z40 (((40 : Int32) * x1) + x2) ((x3 <<< ((24 : Int32) &&& 31)) >>> ((24 : Int32) &&& 31))))) ∧
      (r40 = 0 →
        post (-12 : Int32) z40)))) ∧
    ((z6.1 17 (Int32.toNatClampNeg x1)) = (-4 : Int32) →
      post (-11 : Int32) z6))) ∧
  (r6 = 0 →
    post (-1 : Int32) z6)))
set_option maxHeartbeats 4000000 in
set_option maxRecDepth 100000 in
theorem kX8_lay (l : Launch) (D : va_G) (q : Nat → ClassId) (ad : Nat → Nat) (A : Nat → Prop) (hD : ∀ z, va_D A (WM q ad z)) (z : MX) (x1 : Int32) (x2 : Int32) (x3 : Int32) (post : Int32 → MX → Prop) (h : pX8_lay  z x1 x2 x3 post) : Met l yX8_lay (cW yX8_lay cX8_lay 4 (some .int)) ({ frames := 1, cells := 0, slots := 0, locals := 25 } : Room) (va_Pc [.ref (ad 0), .int x1, .int x2, .int x3] ((gB D vwCl (WM q ad) (mE D q)) z)) (va_Qi post (gB D vwCl (WM q ad) (mE D q)) A) 0 0 A := by
  refine Met.ofW (cc := cX8_lay) (maxL := 4) (ret := (some .int)) (by decide) rfl ?_
  intro p e s m args below meth c s₁ B hml hv
  obtain ⟨hargs, hP, hE⟩ := hv
  have hx := B.exec
  have hb := B.bytes
  have hr := B.returns
  have hts := atoms_spec (ws := (cW yX8_lay cX8_lay 4 (some .int))) B.pre
  have ht : ∀ w ∈ tG, w.before args s = true := fun w h => hts w (List.mem_cons_of_mem _ h)
  have hown : s.vm.findClass RX8 = some m.cls := findClass_of_methodNamed B.named
  have hlocks := B.notSynchronized
  have hK := hE.1
  have hG := mE_G D q A
  have S : CallFix p m c cX8_lay 4 s args tG RX8 := ⟨hx, hb, hml, hown, ht⟩
  have hS : va_S A s.heap s.heap [] := va_S.rf
  have B99 : ∀ (z : MX) (y1 : Int32) (y2 : Int32) (H : Heap) (locs : List Loc) (ls : Array Slot), pX8_lay_b99  post z y1 y2 → va_P D vwCl (WM q ad z) H → va_S A s.heap H locs → lv_has ls 4 [] → W p l e (headSpec (cW yX8_lay cX8_lay 4 (some .int)) ({ frames := 1, cells := 0, slots := 0, locals := 25 } : Room)).room s m args below meth c H locs 0 0 (MQ below (va_Qi post (gB D vwCl (WM q ad) (mE D q)) A) args s 0 0 A) (F0 m 99 ls [.int y2, .int y1, .ref (ad 19)]) := by
    intro z y1 y2 H locs ls h hP hS hl
    unfold pX8_lay_b99 at h
    have hi99 := h.1
    have h := h.2
    refine g_iast (Wd := WM q ad) (z := z) hx hb hK hP (hD z) hS 19 (wm_19 q ad z) rfl (am_19 q ad z) hi99 dX8_lay_99 (fun z99 H locs hz99 hP hS => ?_)
    have h := h z99 hz99
    refine lv_iconst (v := (1 : Int32)) hx hb dX8_lay_100 (by decide) ?_
    exact g_ri hG hx hb hr hlocks hE hP hS h dX8_lay_101
  refine g_entry (vs := [.ref (ad 0), .int x1, .int x2, .int x3]) hargs (Nat.le_of_ble_eq_true rfl) (fun ls hl => ?_)
  have hl : lv_has ls 4 [(0, .ref (ad 0)), (1, .int x1), (2, .int x2), (3, .int x3)] := hl
  unfold pX8_lay at h
  refine lv_iload_n hx hb dX8_lay_0 rfl (lv_at hl 1 rfl) ?_
  refine lv_i2l hx hb dX8_lay_1 rfl ?_
  refine lv_lconst (v := (0 : Int64)) hx hb dX8_lay_2 (by decide) ?_
  refine lv_ldc2 (v := (3 : Int64)) hx hb hown (ht _ tw_cn_X8_197) dX8_lay_3 ?_
  refine g_cSi (Wd := WM q ad) (z := z) (As := [.long (Int32.toInt64 x1), .long (0 : Int64), .long (3 : Int64)]) (rest := []) hG S (kX8_in l D q ad A hD z (Int32.toInt64 x1) (0 : Int64) (3 : Int64) _ h) (va_cwS 3 ht (cW_S (fun _ h => h) tw_co_X8_in tw_ml_X8_74 tw_st_X8_in tw_in_X8) rfl rfl rfl (by decide +kernel) ⟨by decide, by decide⟩) hE hP hS rfl hl.1 rfl (Nat.le_of_ble_eq_true rfl) dX8_lay_6 ⟨Nat.zero_le _, Nat.zero_le _⟩ (fun r6 z6 H locs h hP hS => ?_)
  refine lv_if_ne (tgt := 14) hx hb dX8_lay_9 (by decide) (fun c9 => ?_) (fun c9 => ?_)
  · have h := h.1 c9
    refine lv_aload_n hx hb dX8_lay_14 rfl (lv_at hl 0 rfl) ?_
    refine va_get (D := D) (ci := 8) (v := .ref (ad 17)) (C := RX8) (T := TX8) (N := 45) hx hb ht tl_X8 hown hK hP 0 (wm_0 q ad z6) rfl 41 (by decide) (ht _ tw_fl_X8_63) (fun _ h9 => h9) rfl dX8_lay_15 ?_
    refine lv_iload_n hx hb dX8_lay_18 rfl (lv_at hl 1 rfl) ?_
    have hi19 := h.1
    have h := h.2
    refine va_iald hx hb hK hP 17 0 (wm_17 q ad z6) rfl hi19 dX8_lay_19 ?_
    refine lv_bipush (v := (-4 : Int32)) hx hb dX8_lay_20 (by decide) ?_
    refine lv_icmp_ne (tgt := 28) hx hb dX8_lay_22 (by decide) (fun c22 => ?_) (fun c22 => ?_)
    · have h := h.1 c22
      refine lv_iload_n hx hb dX8_lay_28 rfl (lv_at hl 2 rfl) ?_
      refine lv_i2l hx hb dX8_lay_29 rfl ?_
      refine lv_lconst (v := (0 : Int64)) hx hb dX8_lay_30 (by decide) ?_
      refine lv_aload_n hx hb dX8_lay_31 rfl (lv_at hl 0 rfl) ?_
      refine va_get (D := D) (ci := 8) (v := .ref (ad 18)) (C := RX8) (T := TX8) (N := 45) hx hb ht tl_X8 hown hK hP 0 (wm_0 q ad z6) rfl 42 (by decide) (ht _ tw_fl_X8_66) (fun _ h9 => h9) rfl dX8_lay_32 ?_
      refine lv_iload_n hx hb dX8_lay_35 rfl (lv_at hl 1 rfl) ?_
      have hi36 := h.1
      have h := h.2
      refine va_iald hx hb hK hP 18 0 (wm_18 q ad z6) rfl hi36 dX8_lay_36 ?_
      refine lv_iconst (v := (1 : Int32)) hx hb dX8_lay_37 (by decide) ?_
      refine lv_isub hx hb dX8_lay_38 ?_
      refine lv_i2l hx hb dX8_lay_39 rfl ?_
      refine g_cSi (Wd := WM q ad) (z := z6) (As := [.long (Int32.toInt64 x2), .long (0 : Int64), .long (Int32.toInt64 ((z6.1 18 (Int32.toNatClampNeg x1)) - (1 : Int32)))]) (rest := []) hG S (kX8_in l D q ad A hD z6 (Int32.toInt64 x2) (0 : Int64) (Int32.toInt64 ((z6.1 18 (Int32.toNatClampNeg x1)) - (1 : Int32))) _ h) (va_cwS 3 ht (cW_S (fun _ h => h) tw_co_X8_in tw_ml_X8_74 tw_st_X8_in tw_in_X8) rfl rfl rfl (by decide +kernel) ⟨by decide, by decide⟩) hE hP hS rfl hl.1 rfl (Nat.le_of_ble_eq_true rfl) dX8_lay_40 ⟨Nat.zero_le _, Nat.zero_le _⟩ (fun r40 z40 H locs h hP hS => ?_)
      refine lv_if_ne (tgt := 49) hx hb dX8_lay_43 (by decide) (fun c43 => ?_) (fun c43 => ?_)
      · have h := h.1 c43
        refine lv_aload_n hx hb dX8_lay_49 rfl (lv_at hl 0 rfl) ?_
        refine va_get (D := D) (ci := 8) (v := .ref (ad 19)) (C := RX8) (T := TX8) (N := 45) hx hb ht tl_X8 hown hK hP 0 (wm_0 q ad z40) rfl 43 (by decide) (ht _ tw_fl_X8_69) (fun _ h9 => h9) rfl dX8_lay_50 ?_
        refine lv_bipush (v := (40 : Int32)) hx hb dX8_lay_53 (by decide) ?_
        refine lv_iload_n hx hb dX8_lay_55 rfl (lv_at hl 1 rfl) ?_
        refine lv_imul hx hb dX8_lay_56 ?_
        refine lv_iload_n hx hb dX8_lay_57 rfl (lv_at hl 2 rfl) ?_
        refine lv_iadd hx hb dX8_lay_58 ?_
        refine lv_aload_n hx hb dX8_lay_59 rfl (lv_at hl 0 rfl) ?_
        refine va_get (D := D) (ci := 8) (v := .ref (ad 17)) (C := RX8) (T := TX8) (N := 45) hx hb ht tl_X8 hown hK hP 0 (wm_0 q ad z40) rfl 41 (by decide) (ht _ tw_fl_X8_63) (fun _ h9 => h9) rfl dX8_lay_60 ?_
        refine lv_iload_n hx hb dX8_lay_63 rfl (lv_at hl 1 rfl) ?_
        have hi64 := h.1
        have h := h.2
        refine va_iald hx hb hK hP 17 0 (wm_17 q ad z40) rfl hi64 dX8_lay_64 ?_
        refine lv_if_ne (tgt := 78) hx hb dX8_lay_65 (by decide) (fun c65 => ?_) (fun c65 => ?_)
        · have h := h.1 c65
          refine lv_aload_n hx hb dX8_lay_78 rfl (lv_at hl 0 rfl) ?_
          refine va_get (D := D) (ci := 8) (v := .ref (ad 17)) (C := RX8) (T := TX8) (N := 45) hx hb ht tl_X8 hown hK hP 0 (wm_0 q ad z40) rfl 41 (by decide) (ht _ tw_fl_X8_63) (fun _ h9 => h9) rfl dX8_lay_79 ?_
          refine lv_iload_n hx hb dX8_lay_82 rfl (lv_at hl 1 rfl) ?_
          have hi83 := h.1
          have h := h.2
          refine va_iald hx hb hK hP 17 0 (wm_17 q ad z40) rfl hi83 dX8_lay_83 ?_
          refine lv_iconst (v := (1 : Int32)) hx hb dX8_lay_84 (by decide) ?_
          refine lv_icmp_ne (tgt := 98) hx hb dX8_lay_85 (by decide) (fun c85 => ?_) (fun c85 => ?_)
          · have h := h.1 c85
            refine lv_iload_n hx hb dX8_lay_98 rfl (lv_at hl 3 rfl) ?_
            exact B99 z40 (((40 : Int32) * x1) + x2) x3 _ _ _ h hP hS (lv_sub hl [] rfl)
          · have h := h.2 c85
            refine lv_iload_n hx hb dX8_lay_88 rfl (lv_at hl 3 rfl) ?_
            refine lv_bipush (v := (16 : Int32)) hx hb dX8_lay_89 (by decide) ?_
            refine lv_ishl hx hb dX8_lay_91 ?_
            refine lv_bipush (v := (16 : Int32)) hx hb dX8_lay_92 (by decide) ?_
            refine lv_ishr hx hb dX8_lay_94 ?_
            refine lv_goto (tgt := 99) hx hb dX8_lay_95 (by decide) ?_
            exact B99 z40 (((40 : Int32) * x1) + x2) ((x3 <<< ((16 : Int32) &&& 31)) >>> ((16 : Int32) &&& 31)) _ _ _ h hP hS (lv_sub hl [] rfl)
        · have h := h.2 c65
          refine lv_iload_n hx hb dX8_lay_68 rfl (lv_at hl 3 rfl) ?_
          refine lv_bipush (v := (24 : Int32)) hx hb dX8_lay_69 (by decide) ?_
          refine lv_ishl hx hb dX8_lay_71 ?_
          refine lv_bipush (v := (24 : Int32)) hx hb dX8_lay_72 (by decide) ?_
          refine lv_ishr hx hb dX8_lay_74 ?_
          refine lv_goto (tgt := 99) hx hb dX8_lay_75 (by decide) ?_
          exact B99 z40 (((40 : Int32) * x1) + x2) ((x3 <<< ((24 : Int32) &&& 31)) >>> ((24 : Int32) &&& 31)) _ _ _ h hP hS (lv_sub hl [] rfl)
      · have h := h.2 c43
        refine lv_bipush (v := (-12 : Int32)) hx hb dX8_lay_46 (by decide) ?_
        exact g_ri hG hx hb hr hlocks hE hP hS h dX8_lay_48
    · have h := h.2 c22
      refine lv_bipush (v := (-11 : Int32)) hx hb dX8_lay_25 (by decide) ?_
      exact g_ri hG hx hb hr hlocks hE hP hS h dX8_lay_27
  · have h := h.2 c9
    refine lv_iconst (v := (-1 : Int32)) hx hb dX8_lay_12 (by decide) ?_
    exact g_ri hG hx hb hr hlocks hE hP hS h dX8_lay_13
def pX8_read_b196 (post : Int32 → MX → Prop) (z : MX) (x5 : Int32) (x6 : Int32) : Prop :=
    ∀ z199 : MX, z199 = mw z 0 44 x5 →
    post x6 z199
def pX8_read_b190 (rec55 : MX → Int32 → Int32 → Int32 → Int32 → Int32 → Int32 → Int32 → Prop) (post : Int32 → MX → Prop) (z : MX) (x1 : Int32) (x2 : Int32) (x3 : Int32) (x4 : Int32) (x5 : Int32) (x6 : Int32) (x7 : Int32) : Prop :=
    ∀ x7_190 : Int32, x7_190 = x7 + (1 : Int32) →
    rec55 z x1 x2 x3 x4 x5 x6 x7_190
def pX8_read_b125 (rec55 : MX → Int32 → Int32 → Int32 → Int32 → Int32 → Int32 → Int32 → Prop) (post : Int32 → MX → Prop) (z : MX) (x1 : Int32) (x2 : Int32) (x3 : Int32) (x4 : Int32) (x6 : Int32) (x7 : Int32) (y0 : Int32) : Prop :=
    ((¬ y0 = 0 →
      pX8_read_b190  rec55 post z x1 x2 x3 x4 y0 x6 x7) ∧
    (y0 = 0 →
      ¬ (2 : Int32) = 0 ∧
      ((¬ (x7 - x7 / (2 : Int32) * (2 : Int32)) = (1 : Int32) →
        pX8_read_b190  rec55 post z x1 x2 x3 x4 y0 x6 x7) ∧
      ((x7 - x7 / (2 : Int32) * (2 : Int32)) = (1 : Int32) →
        ∀ x8_149 : Int32, x8_149 = (((40 : Int32) * x1) + x3) + x7 →
        vp_in (x8_149 - (1 : Int32)) 160 ∧
        vp_in x8_149 160 ∧
        pX8_hangs z (z.1 19 (Int32.toNatClampNeg (x8_149 - (1 : Int32)))) (z.1 19 (Int32.toNatClampNeg x8_149)) (fun (r168 : Int32) (z168 : MX) =>
        ((0 ≤ r168 →
          ∀ x6_187 : Int32, x6_187 = x6 + (1 : Int32) →
          pX8_read_b190  rec55 post z168 x1 x2 x3 x4 y0 x6_187 x7) ∧
        (¬ 0 ≤ r168 →
          pX8_copies z168 (75 : Int32) (0 : Int32) (fun (z178 : MX) =>
          post ((-20 : Int32) - x6) z178))))))))
def pX8_read_l55 (rec55 : MX → Int32 → Int32 → Int32 → Int32 → Int32 → Int32 → Int32 → Prop) (post : Int32 → MX → Prop) (z : MX) (x1 : Int32) (x2 : Int32) (x3 : Int32) (x4 : Int32) (x5 : Int32) (x6 : Int32) (x7 : Int32) : Prop :=
    ((((2 : Int32) * x4) ≤ x7 →
      pX8_read_b196  post z x5 x6) ∧
    (¬ ((2 : Int32) * x4) ≤ x7 →
      ((¬ x5 = 0 →
        pX8_read_b196  post z x5 x6) ∧
      (x5 = 0 →
        vp_in x1 4 ∧
        ((¬ (z.1 17 (Int32.toNatClampNeg x1)) = (-4 : Int32) →
          vp_in x1 4 ∧
          (((z.1 17 (Int32.toNatClampNeg x1)) = x2 →
            vp_in x1 4 ∧
            pX8_in z ((Int32.toInt64 x3) + (Int32.toInt64 x7)) (0 : Int64) (Int32.toInt64 ((z.1 18 (Int32.toNatClampNeg x1)) - (1 : Int32))) (fun (r114 : Int32) (z114 : MX) =>
            ((¬ r114 = 0 →
              pX8_read_b125  rec55 post z114 x1 x2 x3 x4 x6 x7 (0 : Int32)) ∧
            (r114 = 0 →
              pX8_read_b125  rec55 post z114 x1 x2 x3 x4 x6 x7 (2 : Int32))))) ∧
          (¬ (z.1 17 (Int32.toNatClampNeg x1)) = x2 →
            pX8_read_b125  rec55 post z x1 x2 x3 x4 x6 x7 (3 : Int32)))) ∧
        ((z.1 17 (Int32.toNatClampNeg x1)) = (-4 : Int32) →
          pX8_read_b125  rec55 post z x1 x2 x3 x4 x6 x7 (1 : Int32)))))))
def pX8_read_L55 (post : Int32 → MX → Prop) : Nat → MX → Int32 → Int32 → Int32 → Int32 → Int32 → Int32 → Int32 → Prop
  | 0 => fun _ _ _ _ _ _ _ _ => False
  | n + 1 => fun z x1 x2 x3 x4 x5 x6 x7 => pX8_read_l55  (pX8_read_L55  post n) post z x1 x2 x3 x4 x5 x6 x7
def pX8_read (z : MX) (x1 : Int32) (x2 : Int32) (x3 : Int32) (x4 : Int32) (post : Int32 → MX → Prop) : Prop :=
  pX8_in z (Int32.toInt64 x1) (0 : Int64) (3 : Int64) (fun (r6 : Int32) (z6 : MX) =>
  ((r6 = 0 →
    post (-1 : Int32) z6) ∧
  (¬ r6 = 0 →
    pX8_in z6 (Int32.toInt64 x2) (0 : Int64) (2 : Int64) (fun (r18 : Int32) (z18 : MX) =>
    ((r18 = 0 →
      post (-1 : Int32) z18) ∧
    (¬ r18 = 0 →
      pX8_in z18 (Int32.toInt64 x4) (0 : Int64) (20 : Int64) (fun (r31 : Int32) (z31 : MX) =>
      ((¬ r31 = 0 →
        pX8_copies z31 (0 : Int32) (75 : Int32) (fun (z43 : MX) =>
        ∃ n, pX8_read_L55  post n z43 x1 x2 x3 x4 (0 : Int32) (0 : Int32) (0 : Int32))) ∧
      (r31 = 0 →
        post (-1 : Int32) z31)))))))))
set_option maxHeartbeats 4000000 in
set_option maxRecDepth 100000 in
theorem kX8_read (l : Launch) (D : va_G) (q : Nat → ClassId) (ad : Nat → Nat) (A : Nat → Prop) (hD : ∀ z, va_D A (WM q ad z)) (z : MX) (x1 : Int32) (x2 : Int32) (x3 : Int32) (x4 : Int32) (post : Int32 → MX → Prop) (h : pX8_read  z x1 x2 x3 x4 post) : Met l yX8_read (cW yX8_read cX8_read 9 (some .int)) ({ frames := 3, cells := 0, slots := 0, locals := 69 } : Room) (va_Pc [.ref (ad 0), .int x1, .int x2, .int x3, .int x4] ((gB D vwCl (WM q ad) (mE D q)) z)) (va_Qi post (gB D vwCl (WM q ad) (mE D q)) A) 0 0 A := by
  refine Met.ofW (cc := cX8_read) (maxL := 9) (ret := (some .int)) (by decide) rfl ?_
  intro p e s m args below meth c s₁ B hml hv
  obtain ⟨hargs, hP, hE⟩ := hv
  have hx := B.exec
  have hb := B.bytes
  have hr := B.returns
  have hts := atoms_spec (ws := (cW yX8_read cX8_read 9 (some .int))) B.pre
  have ht : ∀ w ∈ tG, w.before args s = true := fun w h => hts w (List.mem_cons_of_mem _ h)
  have hown : s.vm.findClass RX8 = some m.cls := findClass_of_methodNamed B.named
  have hlocks := B.notSynchronized
  have hK := hE.1
  have hG := mE_G D q A
  have S : CallFix p m c cX8_read 9 s args tG RX8 := ⟨hx, hb, hml, hown, ht⟩
  have hS : va_S A s.heap s.heap [] := va_S.rf
  have B196 : ∀ (z : MX) (x5 : Int32) (x6 : Int32) (H : Heap) (locs : List Loc) (ls : Array Slot), pX8_read_b196  post z x5 x6 → va_P D vwCl (WM q ad z) H → va_S A s.heap H locs → lv_has ls 9 [(0, .ref (ad 0)), (5, .int x5), (6, .int x6)] → W p l e (headSpec (cW yX8_read cX8_read 9 (some .int)) ({ frames := 3, cells := 0, slots := 0, locals := 69 } : Room)).room s m args below meth c H locs 0 0 (MQ below (va_Qi post (gB D vwCl (WM q ad) (mE D q)) A) args s 0 0 A) (F0 m 196 ls []) := by
    intro z x5 x6 H locs ls h hP hS hl
    unfold pX8_read_b196 at h
    refine lv_aload_n hx hb dX8_read_196 rfl (lv_at hl 0 rfl) ?_
    refine lv_iload hx hb dX8_read_197 (lv_at hl 1 rfl) ?_
    refine g_put (D := D) (Wd := WM q ad) (z := z) (ci := 8) (v := .int x5) (ty := .int) (C := RX8) (T := TX8) (N := 45) hx hb ht tl_X8 tyX8 tyX8_ok nmX8 hown hK hP (hD z) hS 0 (wm_0 q ad z) rfl 44 (by decide) (ht _ tw_fl_X8_289) (fun _ h9 => h9) rfl rfl rfl rfl (Nat.le_of_ble_eq_true rfl) ((pm_0_44 q ad z) x5) dX8_read_199 (fun z199 H locs hz199 hP hS => ?_)
    have h := h z199 hz199
    refine lv_iload hx hb dX8_read_202 (lv_at hl 2 rfl) ?_
    exact g_ri hG hx hb hr hlocks hE hP hS h dX8_read_204
  have B190 : ∀ (rec55 : MX → Int32 → Int32 → Int32 → Int32 → Int32 → Int32 → Int32 → Prop) (hrec55 : ∀ (z : MX) (x1 : Int32) (x2 : Int32) (x3 : Int32) (x4 : Int32) (x5 : Int32) (x6 : Int32) (x7 : Int32) (H : Heap) (locs : List Loc) (ls : Array Slot), rec55 z x1 x2 x3 x4 x5 x6 x7 → va_P D vwCl (WM q ad z) H → va_S A s.heap H locs → lv_has ls 9 [(0, .ref (ad 0)), (1, .int x1), (2, .int x2), (3, .int x3), (4, .int x4), (5, .int x5), (6, .int x6), (7, .int x7)] → W p l e (headSpec (cW yX8_read cX8_read 9 (some .int)) ({ frames := 3, cells := 0, slots := 0, locals := 69 } : Room)).room s m args below meth c H locs 0 0 (MQ below (va_Qi post (gB D vwCl (WM q ad) (mE D q)) A) args s 0 0 A) (F0 m 55 ls [])) (z : MX) (x1 : Int32) (x2 : Int32) (x3 : Int32) (x4 : Int32) (x5 : Int32) (x6 : Int32) (x7 : Int32) (H : Heap) (locs : List Loc) (ls : Array Slot), pX8_read_b190  rec55 post z x1 x2 x3 x4 x5 x6 x7 → va_P D vwCl (WM q ad z) H → va_S A s.heap H locs → lv_has ls 9 [(0, .ref (ad 0)), (1, .int x1), (2, .int x2), (3, .int x3), (4, .int x4), (5, .int x5), (6, .int x6), (7, .int x7)] → W p l e (headSpec (cW yX8_read cX8_read 9 (some .int)) ({ frames := 3, cells := 0, slots := 0, locals := 69 } : Room)).room s m args below meth c H locs 0 0 (MQ below (va_Qi post (gB D vwCl (WM q ad) (mE D q)) A) args s 0 0 A) (F0 m 190 ls []) := by
    intro rec55 hrec55 z x1 x2 x3 x4 x5 x6 x7 H locs ls h hP hS hl
    unfold pX8_read_b190 at h
    obtain ⟨x7_190, ex7_190⟩ : ∃ w : Int32, w = x7 + (1 : Int32) := ⟨_, rfl⟩
    have h := h x7_190 ex7_190
    refine lv_iinc (v := x7_190) (lv' := [(7, .int x7_190), (0, .ref (ad 0)), (1, .int x1), (2, .int x2), (3, .int x3), (4, .int x4), (5, .int x5), (6, .int x6)]) hx hb dX8_read_190 hl (k := 7) rfl (by rw [ex7_190]; rfl) (by decide) rfl (fun ls hl => ?_)
    refine lv_goto (tgt := 55) hx hb dX8_read_193 (by decide) ?_
    exact hrec55 z x1 x2 x3 x4 x5 x6 x7_190 _ _ _ h hP hS (lv_sub hl [1, 2, 3, 4, 5, 6, 7, 0] rfl)
  have B125 : ∀ (rec55 : MX → Int32 → Int32 → Int32 → Int32 → Int32 → Int32 → Int32 → Prop) (hrec55 : ∀ (z : MX) (x1 : Int32) (x2 : Int32) (x3 : Int32) (x4 : Int32) (x5 : Int32) (x6 : Int32) (x7 : Int32) (H : Heap) (locs : List Loc) (ls : Array Slot), rec55 z x1 x2 x3 x4 x5 x6 x7 → va_P D vwCl (WM q ad z) H → va_S A s.heap H locs → lv_has ls 9 [(0, .ref (ad 0)), (1, .int x1), (2, .int x2), (3, .int x3), (4, .int x4), (5, .int x5), (6, .int x6), (7, .int x7)] → W p l e (headSpec (cW yX8_read cX8_read 9 (some .int)) ({ frames := 3, cells := 0, slots := 0, locals := 69 } : Room)).room s m args below meth c H locs 0 0 (MQ below (va_Qi post (gB D vwCl (WM q ad) (mE D q)) A) args s 0 0 A) (F0 m 55 ls [])) (z : MX) (x1 : Int32) (x2 : Int32) (x3 : Int32) (x4 : Int32) (x6 : Int32) (x7 : Int32) (y0 : Int32) (H : Heap) (locs : List Loc) (ls : Array Slot), pX8_read_b125  rec55 post z x1 x2 x3 x4 x6 x7 y0 → va_P D vwCl (WM q ad z) H → va_S A s.heap H locs → lv_has ls 9 [(0, .ref (ad 0)), (1, .int x1), (2, .int x2), (3, .int x3), (4, .int x4), (6, .int x6), (7, .int x7)] → W p l e (headSpec (cW yX8_read cX8_read 9 (some .int)) ({ frames := 3, cells := 0, slots := 0, locals := 69 } : Room)).room s m args below meth c H locs 0 0 (MQ below (va_Qi post (gB D vwCl (WM q ad) (mE D q)) A) args s 0 0 A) (F0 m 125 ls [.int y0]) := by
    intro rec55 hrec55 z x1 x2 x3 x4 x6 x7 y0 H locs ls h hP hS hl
    unfold pX8_read_b125 at h
    refine lv_istore (lv' := [(5, .int y0), (0, .ref (ad 0)), (1, .int x1), (2, .int x2), (3, .int x3), (4, .int x4), (6, .int x6), (7, .int x7)]) hx hb dX8_read_125 hl (by decide) rfl (fun ls hl => ?_)
    refine lv_iload hx hb dX8_read_127 (lv_at hl 0 rfl) ?_
    refine lv_if_ne (tgt := 190) hx hb dX8_read_129 (by decide) (fun c129 => ?_) (fun c129 => ?_)
    · have h := h.1 c129
      exact B190 rec55 hrec55 z x1 x2 x3 x4 y0 x6 x7 _ _ _ h hP hS (lv_sub hl [1, 2, 3, 4, 5, 0, 6, 7] rfl)
    · have h := h.2 c129
      refine lv_iload hx hb dX8_read_132 (lv_at hl 7 rfl) ?_
      refine lv_iconst (v := (2 : Int32)) hx hb dX8_read_134 (by decide) ?_
      have hd135 := h.1
      have h := h.2
      refine lv_irem hx hb dX8_read_135 hd135 ?_
      refine lv_iconst (v := (1 : Int32)) hx hb dX8_read_136 (by decide) ?_
      refine lv_icmp_ne (tgt := 190) hx hb dX8_read_137 (by decide) (fun c137 => ?_) (fun c137 => ?_)
      · have h := h.1 c137
        exact B190 rec55 hrec55 z x1 x2 x3 x4 y0 x6 x7 _ _ _ h hP hS (lv_sub hl [1, 2, 3, 4, 5, 0, 6, 7] rfl)
      · have h := h.2 c137
        refine lv_bipush (v := (40 : Int32)) hx hb dX8_read_140 (by decide) ?_
        refine lv_iload_n hx hb dX8_read_142 rfl (lv_at hl 2 rfl) ?_
        refine lv_imul hx hb dX8_read_143 ?_
        refine lv_iload_n hx hb dX8_read_144 rfl (lv_at hl 4 rfl) ?_
        refine lv_iadd hx hb dX8_read_145 ?_
        refine lv_iload hx hb dX8_read_146 (lv_at hl 7 rfl) ?_
        refine lv_iadd hx hb dX8_read_148 ?_
        refine lv_topi (fun x8_149 ex8_149 => ?_)
        have h := h x8_149 ex8_149
        refine lv_istore (lv' := [(8, .int x8_149), (5, .int y0), (0, .ref (ad 0)), (1, .int x1), (2, .int x2), (3, .int x3), (4, .int x4), (6, .int x6), (7, .int x7)]) hx hb dX8_read_149 hl (by decide) rfl (fun ls hl => ?_)
        refine lv_aload_n hx hb dX8_read_151 rfl (lv_at hl 2 rfl) ?_
        refine lv_aload_n hx hb dX8_read_152 rfl (lv_at hl 2 rfl) ?_
        refine va_get (D := D) (ci := 8) (v := .ref (ad 19)) (C := RX8) (T := TX8) (N := 45) hx hb ht tl_X8 hown hK hP 0 (wm_0 q ad z) rfl 43 (by decide) (ht _ tw_fl_X8_69) (fun _ h9 => h9) rfl dX8_read_153 ?_
        refine lv_iload hx hb dX8_read_156 (lv_at hl 0 rfl) ?_
        refine lv_iconst (v := (1 : Int32)) hx hb dX8_read_158 (by decide) ?_
        refine lv_isub hx hb dX8_read_159 ?_
        have hi160 := h.1
        have h := h.2
        refine va_iald hx hb hK hP 19 0 (wm_19 q ad z) rfl hi160 dX8_read_160 ?_
        refine lv_aload_n hx hb dX8_read_161 rfl (lv_at hl 2 rfl) ?_
        refine va_get (D := D) (ci := 8) (v := .ref (ad 19)) (C := RX8) (T := TX8) (N := 45) hx hb ht tl_X8 hown hK hP 0 (wm_0 q ad z) rfl 43 (by decide) (ht _ tw_fl_X8_69) (fun _ h9 => h9) rfl dX8_read_162 ?_
        refine lv_iload hx hb dX8_read_165 (lv_at hl 0 rfl) ?_
        have hi167 := h.1
        have h := h.2
        refine va_iald hx hb hK hP 19 0 (wm_19 q ad z) rfl hi167 dX8_read_167 ?_
        refine g_cVi (Wd := WM q ad) (z := z) (As := [.int (z.1 19 (Int32.toNatClampNeg (x8_149 - (1 : Int32)))), .int (z.1 19 (Int32.toNatClampNeg x8_149))]) (rest := []) hG S (kX8_hangs l D q ad A hD z (z.1 19 (Int32.toNatClampNeg (x8_149 - (1 : Int32)))) (z.1 19 (Int32.toNatClampNeg x8_149)) _ h) (cwV 2 ht (cW_V (fun _ h => h) tw_co_X8_hangs tw_ml_X8_199 tw_im_X8_hangs tw_se_X8_hangs tw_in_X8) rfl rfl rfl (by decide +kernel) ⟨by decide, by decide⟩) (va_recv hK hP (ci := 8) (q0 := 0) rfl (wm_0 q ad z)) hE hP hS rfl hl.1 rfl (Nat.le_of_ble_eq_true rfl) dX8_read_168 ⟨Nat.zero_le _, Nat.zero_le _⟩ (fun r168 z168 H locs h hP hS => ?_)
        refine lv_if_ge (tgt := 187) hx hb dX8_read_171 (by decide) (fun c171 => ?_) (fun c171 => ?_)
        · have h := h.1 c171
          obtain ⟨x6_187, ex6_187⟩ : ∃ w : Int32, w = x6 + (1 : Int32) := ⟨_, rfl⟩
          have h := h x6_187 ex6_187
          refine lv_iinc (v := x6_187) (lv' := [(6, .int x6_187), (8, .int x8_149), (5, .int y0), (0, .ref (ad 0)), (1, .int x1), (2, .int x2), (3, .int x3), (4, .int x4), (7, .int x7)]) hx hb dX8_read_187 hl (k := 7) rfl (by rw [ex6_187]; rfl) (by decide) rfl (fun ls hl => ?_)
          exact B190 rec55 hrec55 z168 x1 x2 x3 x4 y0 x6_187 x7 _ _ _ h hP hS (lv_sub hl [3, 4, 5, 6, 7, 2, 0, 8] rfl)
        · have h := h.2 c171
          refine lv_aload_n hx hb dX8_read_174 rfl (lv_at hl 2 rfl) ?_
          refine lv_bipush (v := (75 : Int32)) hx hb dX8_read_175 (by decide) ?_
          refine lv_iconst (v := (0 : Int32)) hx hb dX8_read_177 (by decide) ?_
          refine g_cVv (Wd := WM q ad) (z := z168) (As := [.int (75 : Int32), .int (0 : Int32)]) (rest := []) hG S (kX8_copies l D q ad A hD z168 (75 : Int32) (0 : Int32) _ h) (cwV 2 ht (cW_V (fun _ h => h) tw_co_X8_copies tw_ml_X8_255 tw_im_X8_copies tw_se_X8_copies tw_in_X8) rfl rfl rfl (by decide +kernel) ⟨by decide, by decide⟩) (va_recv hK hP (ci := 8) (q0 := 0) rfl (wm_0 q ad z168)) hE hP hS rfl hl.1 rfl (Nat.le_of_ble_eq_true rfl) dX8_read_178 ⟨Nat.zero_le _, Nat.zero_le _⟩ (fun z178 H locs h hP hS => ?_)
          refine lv_bipush (v := (-20 : Int32)) hx hb dX8_read_181 (by decide) ?_
          refine lv_iload hx hb dX8_read_183 (lv_at hl 7 rfl) ?_
          refine lv_isub hx hb dX8_read_185 ?_
          exact g_ri hG hx hb hr hlocks hE hP hS h dX8_read_186
  have B55 : ∀ (rec55 : MX → Int32 → Int32 → Int32 → Int32 → Int32 → Int32 → Int32 → Prop) (hrec55 : ∀ (z : MX) (x1 : Int32) (x2 : Int32) (x3 : Int32) (x4 : Int32) (x5 : Int32) (x6 : Int32) (x7 : Int32) (H : Heap) (locs : List Loc) (ls : Array Slot), rec55 z x1 x2 x3 x4 x5 x6 x7 → va_P D vwCl (WM q ad z) H → va_S A s.heap H locs → lv_has ls 9 [(0, .ref (ad 0)), (1, .int x1), (2, .int x2), (3, .int x3), (4, .int x4), (5, .int x5), (6, .int x6), (7, .int x7)] → W p l e (headSpec (cW yX8_read cX8_read 9 (some .int)) ({ frames := 3, cells := 0, slots := 0, locals := 69 } : Room)).room s m args below meth c H locs 0 0 (MQ below (va_Qi post (gB D vwCl (WM q ad) (mE D q)) A) args s 0 0 A) (F0 m 55 ls [])) (z : MX) (x1 : Int32) (x2 : Int32) (x3 : Int32) (x4 : Int32) (x5 : Int32) (x6 : Int32) (x7 : Int32) (H : Heap) (locs : List Loc) (ls : Array Slot), pX8_read_l55  rec55 post z x1 x2 x3 x4 x5 x6 x7 → va_P D vwCl (WM q ad z) H → va_S A s.heap H locs → lv_has ls 9 [(0, .ref (ad 0)), (1, .int x1), (2, .int x2), (3, .int x3), (4, .int x4), (5, .int x5), (6, .int x6), (7, .int x7)] → W p l e (headSpec (cW yX8_read cX8_read 9 (some .int)) ({ frames := 3, cells := 0, slots := 0, locals := 69 } : Room)).room s m args below meth c H locs 0 0 (MQ below (va_Qi post (gB D vwCl (WM q ad) (mE D q)) A) args s 0 0 A) (F0 m 55 ls []) := by
    intro rec55 hrec55 z x1 x2 x3 x4 x5 x6 x7 H locs ls h hP hS hl
    unfold pX8_read_l55 at h
    refine lv_iload hx hb dX8_read_55 (lv_at hl 7 rfl) ?_
    refine lv_iconst (v := (2 : Int32)) hx hb dX8_read_57 (by decide) ?_
    refine lv_iload hx hb dX8_read_58 (lv_at hl 4 rfl) ?_
    refine lv_imul hx hb dX8_read_60 ?_
    refine lv_icmp_ge (tgt := 196) hx hb dX8_read_61 (by decide) (fun c61 => ?_) (fun c61 => ?_)
    · have h := h.1 c61
      exact B196 z x5 x6 _ _ _ h hP hS (lv_sub hl [0, 5, 6] rfl)
    · have h := h.2 c61
      refine lv_iload hx hb dX8_read_64 (lv_at hl 5 rfl) ?_
      refine lv_if_ne (tgt := 196) hx hb dX8_read_66 (by decide) (fun c66 => ?_) (fun c66 => ?_)
      · have h := h.1 c66
        exact B196 z x5 x6 _ _ _ h hP hS (lv_sub hl [0, 5, 6] rfl)
      · have h := h.2 c66
        refine lv_aload_n hx hb dX8_read_69 rfl (lv_at hl 0 rfl) ?_
        refine va_get (D := D) (ci := 8) (v := .ref (ad 17)) (C := RX8) (T := TX8) (N := 45) hx hb ht tl_X8 hown hK hP 0 (wm_0 q ad z) rfl 41 (by decide) (ht _ tw_fl_X8_63) (fun _ h9 => h9) rfl dX8_read_70 ?_
        refine lv_iload_n hx hb dX8_read_73 rfl (lv_at hl 1 rfl) ?_
        have hi74 := h.1
        have h := h.2
        refine va_iald hx hb hK hP 17 0 (wm_17 q ad z) rfl hi74 dX8_read_74 ?_
        refine lv_bipush (v := (-4 : Int32)) hx hb dX8_read_75 (by decide) ?_
        refine lv_icmp_ne (tgt := 84) hx hb dX8_read_77 (by decide) (fun c77 => ?_) (fun c77 => ?_)
        · have h := h.1 c77
          refine lv_aload_n hx hb dX8_read_84 rfl (lv_at hl 0 rfl) ?_
          refine va_get (D := D) (ci := 8) (v := .ref (ad 17)) (C := RX8) (T := TX8) (N := 45) hx hb ht tl_X8 hown hK hP 0 (wm_0 q ad z) rfl 41 (by decide) (ht _ tw_fl_X8_63) (fun _ h9 => h9) rfl dX8_read_85 ?_
          refine lv_iload_n hx hb dX8_read_88 rfl (lv_at hl 1 rfl) ?_
          have hi89 := h.1
          have h := h.2
          refine va_iald hx hb hK hP 17 0 (wm_17 q ad z) rfl hi89 dX8_read_89 ?_
          refine lv_iload_n hx hb dX8_read_90 rfl (lv_at hl 2 rfl) ?_
          refine lv_icmp_eq (tgt := 98) hx hb dX8_read_91 (by decide) (fun c91 => ?_) (fun c91 => ?_)
          · have h := h.1 c91
            refine lv_iload_n hx hb dX8_read_98 rfl (lv_at hl 3 rfl) ?_
            refine lv_i2l hx hb dX8_read_99 rfl ?_
            refine lv_iload hx hb dX8_read_100 (lv_at hl 7 rfl) ?_
            refine lv_i2l hx hb dX8_read_102 rfl ?_
            refine lv_ladd hx hb dX8_read_103 ?_
            refine lv_lconst (v := (0 : Int64)) hx hb dX8_read_104 (by decide) ?_
            refine lv_aload_n hx hb dX8_read_105 rfl (lv_at hl 0 rfl) ?_
            refine va_get (D := D) (ci := 8) (v := .ref (ad 18)) (C := RX8) (T := TX8) (N := 45) hx hb ht tl_X8 hown hK hP 0 (wm_0 q ad z) rfl 42 (by decide) (ht _ tw_fl_X8_66) (fun _ h9 => h9) rfl dX8_read_106 ?_
            refine lv_iload_n hx hb dX8_read_109 rfl (lv_at hl 1 rfl) ?_
            have hi110 := h.1
            have h := h.2
            refine va_iald hx hb hK hP 18 0 (wm_18 q ad z) rfl hi110 dX8_read_110 ?_
            refine lv_iconst (v := (1 : Int32)) hx hb dX8_read_111 (by decide) ?_
            refine lv_isub hx hb dX8_read_112 ?_
            refine lv_i2l hx hb dX8_read_113 rfl ?_
            refine g_cSi (Wd := WM q ad) (z := z) (As := [.long ((Int32.toInt64 x3) + (Int32.toInt64 x7)), .long (0 : Int64), .long (Int32.toInt64 ((z.1 18 (Int32.toNatClampNeg x1)) - (1 : Int32)))]) (rest := []) hG S (kX8_in l D q ad A hD z ((Int32.toInt64 x3) + (Int32.toInt64 x7)) (0 : Int64) (Int32.toInt64 ((z.1 18 (Int32.toNatClampNeg x1)) - (1 : Int32))) _ h) (va_cwS 3 ht (cW_S (fun _ h => h) tw_co_X8_in tw_ml_X8_74 tw_st_X8_in tw_in_X8) rfl rfl rfl (by decide +kernel) ⟨by decide, by decide⟩) hE hP hS rfl hl.1 rfl (Nat.le_of_ble_eq_true rfl) dX8_read_114 ⟨Nat.zero_le _, Nat.zero_le _⟩ (fun r114 z114 H locs h hP hS => ?_)
            refine lv_if_ne (tgt := 124) hx hb dX8_read_117 (by decide) (fun c117 => ?_) (fun c117 => ?_)
            · have h := h.1 c117
              refine lv_iconst (v := (0 : Int32)) hx hb dX8_read_124 (by decide) ?_
              exact B125 rec55 hrec55 z114 x1 x2 x3 x4 x6 x7 (0 : Int32) _ _ _ h hP hS (lv_sub hl [0, 1, 2, 3, 4, 6, 7] rfl)
            · have h := h.2 c117
              refine lv_iconst (v := (2 : Int32)) hx hb dX8_read_120 (by decide) ?_
              refine lv_goto (tgt := 125) hx hb dX8_read_121 (by decide) ?_
              exact B125 rec55 hrec55 z114 x1 x2 x3 x4 x6 x7 (2 : Int32) _ _ _ h hP hS (lv_sub hl [0, 1, 2, 3, 4, 6, 7] rfl)
          · have h := h.2 c91
            refine lv_iconst (v := (3 : Int32)) hx hb dX8_read_94 (by decide) ?_
            refine lv_goto (tgt := 125) hx hb dX8_read_95 (by decide) ?_
            exact B125 rec55 hrec55 z x1 x2 x3 x4 x6 x7 (3 : Int32) _ _ _ h hP hS (lv_sub hl [0, 1, 2, 3, 4, 6, 7] rfl)
        · have h := h.2 c77
          refine lv_iconst (v := (1 : Int32)) hx hb dX8_read_80 (by decide) ?_
          refine lv_goto (tgt := 125) hx hb dX8_read_81 (by decide) ?_
          exact B125 rec55 hrec55 z x1 x2 x3 x4 x6 x7 (1 : Int32) _ _ _ h hP hS (lv_sub hl [0, 1, 2, 3, 4, 6, 7] rfl)
  have L55 : ∀ (n : Nat) (z : MX) (x1 : Int32) (x2 : Int32) (x3 : Int32) (x4 : Int32) (x5 : Int32) (x6 : Int32) (x7 : Int32) (H : Heap) (locs : List Loc) (ls : Array Slot), pX8_read_L55  post n z x1 x2 x3 x4 x5 x6 x7 → va_P D vwCl (WM q ad z) H → va_S A s.heap H locs → lv_has ls 9 [(0, .ref (ad 0)), (1, .int x1), (2, .int x2), (3, .int x3), (4, .int x4), (5, .int x5), (6, .int x6), (7, .int x7)] → W p l e (headSpec (cW yX8_read cX8_read 9 (some .int)) ({ frames := 3, cells := 0, slots := 0, locals := 69 } : Room)).room s m args below meth c H locs 0 0 (MQ below (va_Qi post (gB D vwCl (WM q ad) (mE D q)) A) args s 0 0 A) (F0 m 55 ls []) := by
    intro n
    induction n with
    | zero =>
      intro z x1 x2 x3 x4 x5 x6 x7 H locs ls h
      exact False.elim h
    | succ n ih =>
      intro z x1 x2 x3 x4 x5 x6 x7 H locs ls h hP hS hl
      exact B55 (pX8_read_L55  post n) ih z x1 x2 x3 x4 x5 x6 x7 H locs ls h hP hS hl
  refine g_entry (vs := [.ref (ad 0), .int x1, .int x2, .int x3, .int x4]) hargs (Nat.le_of_ble_eq_true rfl) (fun ls hl => ?_)
  have hl : lv_has ls 9 [(0, .ref (ad 0)), (1, .int x1), (2, .int x2), (3, .int x3), (4, .int x4)] := hl
  unfold pX8_read at h
  refine lv_iload_n hx hb dX8_read_0 rfl (lv_at hl 1 rfl) ?_
  refine lv_i2l hx hb dX8_read_1 rfl ?_
  refine lv_lconst (v := (0 : Int64)) hx hb dX8_read_2 (by decide) ?_
  refine lv_ldc2 (v := (3 : Int64)) hx hb hown (ht _ tw_cn_X8_197) dX8_read_3 ?_
  refine g_cSi (Wd := WM q ad) (z := z) (As := [.long (Int32.toInt64 x1), .long (0 : Int64), .long (3 : Int64)]) (rest := []) hG S (kX8_in l D q ad A hD z (Int32.toInt64 x1) (0 : Int64) (3 : Int64) _ h) (va_cwS 3 ht (cW_S (fun _ h => h) tw_co_X8_in tw_ml_X8_74 tw_st_X8_in tw_in_X8) rfl rfl rfl (by decide +kernel) ⟨by decide, by decide⟩) hE hP hS rfl hl.1 rfl (Nat.le_of_ble_eq_true rfl) dX8_read_6 ⟨Nat.zero_le _, Nat.zero_le _⟩ (fun r6 z6 H locs h hP hS => ?_)
  refine lv_if_eq (tgt := 37) hx hb dX8_read_9 (by decide) (fun c9 => ?_) (fun c9 => ?_)
  · have h := h.1 c9
    refine lv_iconst (v := (-1 : Int32)) hx hb dX8_read_37 (by decide) ?_
    exact g_ri hG hx hb hr hlocks hE hP hS h dX8_read_38
  · have h := h.2 c9
    refine lv_iload_n hx hb dX8_read_12 rfl (lv_at hl 2 rfl) ?_
    refine lv_i2l hx hb dX8_read_13 rfl ?_
    refine lv_lconst (v := (0 : Int64)) hx hb dX8_read_14 (by decide) ?_
    refine lv_ldc2 (v := (2 : Int64)) hx hb hown (ht _ tw_cn_X8_189) dX8_read_15 ?_
    refine g_cSi (Wd := WM q ad) (z := z6) (As := [.long (Int32.toInt64 x2), .long (0 : Int64), .long (2 : Int64)]) (rest := []) hG S (kX8_in l D q ad A hD z6 (Int32.toInt64 x2) (0 : Int64) (2 : Int64) _ h) (va_cwS 3 ht (cW_S (fun _ h => h) tw_co_X8_in tw_ml_X8_74 tw_st_X8_in tw_in_X8) rfl rfl rfl (by decide +kernel) ⟨by decide, by decide⟩) hE hP hS rfl hl.1 rfl (Nat.le_of_ble_eq_true rfl) dX8_read_18 ⟨Nat.zero_le _, Nat.zero_le _⟩ (fun r18 z18 H locs h hP hS => ?_)
    refine lv_if_eq (tgt := 37) hx hb dX8_read_21 (by decide) (fun c21 => ?_) (fun c21 => ?_)
    · have h := h.1 c21
      refine lv_iconst (v := (-1 : Int32)) hx hb dX8_read_37 (by decide) ?_
      exact g_ri hG hx hb hr hlocks hE hP hS h dX8_read_38
    · have h := h.2 c21
      refine lv_iload hx hb dX8_read_24 (lv_at hl 4 rfl) ?_
      refine lv_i2l hx hb dX8_read_26 rfl ?_
      refine lv_lconst (v := (0 : Int64)) hx hb dX8_read_27 (by decide) ?_
      refine lv_ldc2 (v := (20 : Int64)) hx hb hown (ht _ tw_cn_X8_284) dX8_read_28 ?_
      refine g_cSi (Wd := WM q ad) (z := z18) (As := [.long (Int32.toInt64 x4), .long (0 : Int64), .long (20 : Int64)]) (rest := []) hG S (kX8_in l D q ad A hD z18 (Int32.toInt64 x4) (0 : Int64) (20 : Int64) _ h) (va_cwS 3 ht (cW_S (fun _ h => h) tw_co_X8_in tw_ml_X8_74 tw_st_X8_in tw_in_X8) rfl rfl rfl (by decide +kernel) ⟨by decide, by decide⟩) hE hP hS rfl hl.1 rfl (Nat.le_of_ble_eq_true rfl) dX8_read_31 ⟨Nat.zero_le _, Nat.zero_le _⟩ (fun r31 z31 H locs h hP hS => ?_)
      refine lv_if_ne (tgt := 39) hx hb dX8_read_34 (by decide) (fun c34 => ?_) (fun c34 => ?_)
      · have h := h.1 c34
        refine lv_aload_n hx hb dX8_read_39 rfl (lv_at hl 0 rfl) ?_
        refine lv_iconst (v := (0 : Int32)) hx hb dX8_read_40 (by decide) ?_
        refine lv_bipush (v := (75 : Int32)) hx hb dX8_read_41 (by decide) ?_
        refine g_cVv (Wd := WM q ad) (z := z31) (As := [.int (0 : Int32), .int (75 : Int32)]) (rest := []) hG S (kX8_copies l D q ad A hD z31 (0 : Int32) (75 : Int32) _ h) (cwV 2 ht (cW_V (fun _ h => h) tw_co_X8_copies tw_ml_X8_255 tw_im_X8_copies tw_se_X8_copies tw_in_X8) rfl rfl rfl (by decide +kernel) ⟨by decide, by decide⟩) (va_recv hK hP (ci := 8) (q0 := 0) rfl (wm_0 q ad z31)) hE hP hS rfl hl.1 rfl (Nat.le_of_ble_eq_true rfl) dX8_read_43 ⟨Nat.zero_le _, Nat.zero_le _⟩ (fun z43 H locs h hP hS => ?_)
        refine lv_iconst (v := (0 : Int32)) hx hb dX8_read_46 (by decide) ?_
        refine lv_istore (lv' := [(5, .int (0 : Int32)), (0, .ref (ad 0)), (1, .int x1), (2, .int x2), (3, .int x3), (4, .int x4)]) hx hb dX8_read_47 hl (by decide) rfl (fun ls hl => ?_)
        refine lv_iconst (v := (0 : Int32)) hx hb dX8_read_49 (by decide) ?_
        refine lv_istore (lv' := [(6, .int (0 : Int32)), (5, .int (0 : Int32)), (0, .ref (ad 0)), (1, .int x1), (2, .int x2), (3, .int x3), (4, .int x4)]) hx hb dX8_read_50 hl (by decide) rfl (fun ls hl => ?_)
        refine lv_iconst (v := (0 : Int32)) hx hb dX8_read_52 (by decide) ?_
        refine lv_istore (lv' := [(7, .int (0 : Int32)), (6, .int (0 : Int32)), (5, .int (0 : Int32)), (0, .ref (ad 0)), (1, .int x1), (2, .int x2), (3, .int x3), (4, .int x4)]) hx hb dX8_read_53 hl (by decide) rfl (fun ls hl => ?_)
        obtain ⟨n, h⟩ := h
        exact L55 n z43 x1 x2 x3 x4 (0 : Int32) (0 : Int32) (0 : Int32) _ _ _ h hP hS (lv_sub hl [3, 4, 5, 6, 7, 2, 1, 0] rfl)
      · have h := h.2 c34
        refine lv_iconst (v := (-1 : Int32)) hx hb dX8_read_37 (by decide) ?_
        exact g_ri hG hx hb hr hlocks hE hP hS h dX8_read_38
def pX8_torn (z : MX) (post : Int32 → MX → Prop) : Prop :=
  post (z.1 0 44) z
set_option maxHeartbeats 4000000 in
set_option maxRecDepth 100000 in
theorem kX8_torn (l : Launch) (D : va_G) (q : Nat → ClassId) (ad : Nat → Nat) (A : Nat → Prop) (hD : ∀ z, va_D A (WM q ad z)) (z : MX) (post : Int32 → MX → Prop) (h : pX8_torn  z post) : Met l yX8_torn (cW yX8_torn cX8_torn 1 (some .int)) ({ frames := 0, cells := 0, slots := 0, locals := 0 } : Room) (va_Pc [.ref (ad 0)] ((gB D vwCl (WM q ad) (mE D q)) z)) (va_Qi post (gB D vwCl (WM q ad) (mE D q)) A) 0 0 A := by
  refine Met.ofW (cc := cX8_torn) (maxL := 1) (ret := (some .int)) (by decide) rfl ?_
  intro p e s m args below meth c s₁ B hml hv
  obtain ⟨hargs, hP, hE⟩ := hv
  have hx := B.exec
  have hb := B.bytes
  have hr := B.returns
  have hts := atoms_spec (ws := (cW yX8_torn cX8_torn 1 (some .int))) B.pre
  have ht : ∀ w ∈ tG, w.before args s = true := fun w h => hts w (List.mem_cons_of_mem _ h)
  have hown : s.vm.findClass RX8 = some m.cls := findClass_of_methodNamed B.named
  have hlocks := B.notSynchronized
  have hK := hE.1
  have hG := mE_G D q A
  have S : CallFix p m c cX8_torn 1 s args tG RX8 := ⟨hx, hb, hml, hown, ht⟩
  have hS : va_S A s.heap s.heap [] := va_S.rf
  refine g_entry (vs := [.ref (ad 0)]) hargs (Nat.le_of_ble_eq_true rfl) (fun ls hl => ?_)
  have hl : lv_has ls 1 [(0, .ref (ad 0))] := hl
  unfold pX8_torn at h
  refine lv_aload_n hx hb dX8_torn_0 rfl (lv_at hl 0 rfl) ?_
  refine va_get (D := D) (ci := 8) (v := .int (z.1 0 44)) (C := RX8) (T := TX8) (N := 45) hx hb ht tl_X8 hown hK hP 0 (wm_0 q ad z) rfl 44 (by decide) (ht _ tw_fl_X8_289) (fun _ h9 => h9) rfl dX8_torn_1 ?_
  exact g_ri hG hx hb hr hlocks hE hP hS h dX8_torn_4
def pX8_count_b87 (post : Int32 → MX → Prop) (z : MX) (y0 : Int32) : Prop :=
    vp_in (1 : Int32) 2 ∧
    (((z.1 16 (Int32.toNatClampNeg (1 : Int32))) = 0 →
      post (y0 + (0 : Int32)) z) ∧
    (¬ (z.1 16 (Int32.toNatClampNeg (1 : Int32))) = 0 →
      post (y0 + (1 : Int32)) z))
def pX8_count_l4 (rec4 : MX → Int32 → Int32 → Int32 → Prop) (post : Int32 → MX → Prop) (z : MX) (x1 : Int32) (x2 : Int32) (x3 : Int32) : Prop :=
    (((z.1 0 2) ≤ x3 →
      ((((x1).toInt < 0 ∨ 5 < (x1).toInt) →
        post (-1 : Int32) z) ∧
      (x1 = (0 : Int32) →
          post (z.1 0 37) z) ∧
      (x1 = (1 : Int32) →
          vp_in (0 : Int32) 2 ∧
          (((z.1 16 (Int32.toNatClampNeg (0 : Int32))) = 0 →
            pX8_count_b87  post z (0 : Int32)) ∧
          (¬ (z.1 16 (Int32.toNatClampNeg (0 : Int32))) = 0 →
            pX8_count_b87  post z (1 : Int32)))) ∧
      (x1 = (2 : Int32) →
          post (z.1 0 15) z) ∧
      (x1 = (3 : Int32) →
          vp_in (0 : Int32) 4 ∧
          ((¬ (z.1 17 (Int32.toNatClampNeg (0 : Int32))) = (-4 : Int32) →
            vp_in (0 : Int32) 4 ∧
            post (z.1 18 (Int32.toNatClampNeg (0 : Int32))) z) ∧
          ((z.1 17 (Int32.toNatClampNeg (0 : Int32))) = (-4 : Int32) →
            post (-4 : Int32) z))) ∧
      (x1 = (4 : Int32) →
          pX8_omens z (fun (r132 : Int32) (z132 : MX) =>
          pX8_bitsOf z132 r132 (fun (r135 : Int32) (z135 : MX) =>
          post r135 z135))) ∧
      (x1 = (5 : Int32) →
          post x2 z))) ∧
    (¬ (z.1 0 2) ≤ x3 →
      vp_in ((21 : Int32) + x3) 125 ∧
      ∀ x2_23 : Int32, x2_23 = x2 + (z.1 1 (Int32.toNatClampNeg ((21 : Int32) + x3))) →
      ∀ x3_24 : Int32, x3_24 = x3 + (1 : Int32) →
      rec4 z x1 x2_23 x3_24))
def pX8_count_L4 (post : Int32 → MX → Prop) : Nat → MX → Int32 → Int32 → Int32 → Prop
  | 0 => fun _ _ _ _ => False
  | n + 1 => fun z x1 x2 x3 => pX8_count_l4  (pX8_count_L4  post n) post z x1 x2 x3
def pX8_count (z : MX) (x1 : Int32) (post : Int32 → MX → Prop) : Prop :=
  ∃ n, pX8_count_L4  post n z x1 (0 : Int32) (0 : Int32)
set_option maxHeartbeats 4000000 in
set_option maxRecDepth 100000 in
theorem kX8_count (l : Launch) (D : va_G) (q : Nat → ClassId) (ad : Nat → Nat) (A : Nat → Prop) (hD : ∀ z, va_D A (WM q ad z)) (z : MX) (x1 : Int32) (post : Int32 → MX → Prop) (h : pX8_count  z x1 post) : Met l yX8_count (cW yX8_count cX8_count 4 (some .int)) ({ frames := 1, cells := 0, slots := 0, locals := 22 } : Room) (va_Pc [.ref (ad 0), .int x1] ((gB D vwCl (WM q ad) (mE D q)) z)) (va_Qi post (gB D vwCl (WM q ad) (mE D q)) A) 0 0 A := by
  refine Met.ofW (cc := cX8_count) (maxL := 4) (ret := (some .int)) (by decide) rfl ?_
  intro p e s m args below meth c s₁ B hml hv
  obtain ⟨hargs, hP, hE⟩ := hv
  have hx := B.exec
  have hb := B.bytes
  have hr := B.returns
  have hts := atoms_spec (ws := (cW yX8_count cX8_count 4 (some .int))) B.pre
  have ht : ∀ w ∈ tG, w.before args s = true := fun w h => hts w (List.mem_cons_of_mem _ h)
  have hown : s.vm.findClass RX8 = some m.cls := findClass_of_methodNamed B.named
  have hlocks := B.notSynchronized
  have hK := hE.1
  have hG := mE_G D q A
  have S : CallFix p m c cX8_count 4 s args tG RX8 := ⟨hx, hb, hml, hown, ht⟩
  have hS : va_S A s.heap s.heap [] := va_S.rf
  have B87 : ∀ (z : MX) (y0 : Int32) (H : Heap) (locs : List Loc) (ls : Array Slot), pX8_count_b87  post z y0 → va_P D vwCl (WM q ad z) H → va_S A s.heap H locs → lv_has ls 4 [(0, .ref (ad 0))] → W p l e (headSpec (cW yX8_count cX8_count 4 (some .int)) ({ frames := 1, cells := 0, slots := 0, locals := 22 } : Room)).room s m args below meth c H locs 0 0 (MQ below (va_Qi post (gB D vwCl (WM q ad) (mE D q)) A) args s 0 0 A) (F0 m 87 ls [.int y0]) := by
    intro z y0 H locs ls h hP hS hl
    unfold pX8_count_b87 at h
    refine lv_aload_n hx hb dX8_count_87 rfl (lv_at hl 0 rfl) ?_
    refine va_get (D := D) (ci := 8) (v := .ref (ad 16)) (C := RX8) (T := TX8) (N := 45) hx hb ht tl_X8 hown hK hP 0 (wm_0 q ad z) rfl 40 (by decide) (ht _ tw_fl_X8_60) (fun _ h9 => h9) rfl dX8_count_88 ?_
    refine lv_iconst (v := (1 : Int32)) hx hb dX8_count_91 (by decide) ?_
    have hi92 := h.1
    have h := h.2
    refine va_zald hx hb hK hP 16 1 (wm_16 q ad z) rfl hi92 dX8_count_92 ?_
    refine lv_if_eq (tgt := 100) hx hb dX8_count_93 (by decide) (fun c93 => ?_) (fun c93 => ?_)
    · have h := h.1 c93
      refine lv_iconst (v := (0 : Int32)) hx hb dX8_count_100 (by decide) ?_
      refine lv_iadd hx hb dX8_count_101 ?_
      exact g_ri hG hx hb hr hlocks hE hP hS h dX8_count_102
    · have h := h.2 c93
      refine lv_iconst (v := (1 : Int32)) hx hb dX8_count_96 (by decide) ?_
      refine lv_goto (tgt := 101) hx hb dX8_count_97 (by decide) ?_
      refine lv_iadd hx hb dX8_count_101 ?_
      exact g_ri hG hx hb hr hlocks hE hP hS h dX8_count_102
  have B4 : ∀ (rec4 : MX → Int32 → Int32 → Int32 → Prop) (hrec4 : ∀ (z : MX) (x1 : Int32) (x2 : Int32) (x3 : Int32) (H : Heap) (locs : List Loc) (ls : Array Slot), rec4 z x1 x2 x3 → va_P D vwCl (WM q ad z) H → va_S A s.heap H locs → lv_has ls 4 [(0, .ref (ad 0)), (1, .int x1), (2, .int x2), (3, .int x3)] → W p l e (headSpec (cW yX8_count cX8_count 4 (some .int)) ({ frames := 1, cells := 0, slots := 0, locals := 22 } : Room)).room s m args below meth c H locs 0 0 (MQ below (va_Qi post (gB D vwCl (WM q ad) (mE D q)) A) args s 0 0 A) (F0 m 4 ls [])) (z : MX) (x1 : Int32) (x2 : Int32) (x3 : Int32) (H : Heap) (locs : List Loc) (ls : Array Slot), pX8_count_l4  rec4 post z x1 x2 x3 → va_P D vwCl (WM q ad z) H → va_S A s.heap H locs → lv_has ls 4 [(0, .ref (ad 0)), (1, .int x1), (2, .int x2), (3, .int x3)] → W p l e (headSpec (cW yX8_count cX8_count 4 (some .int)) ({ frames := 1, cells := 0, slots := 0, locals := 22 } : Room)).room s m args below meth c H locs 0 0 (MQ below (va_Qi post (gB D vwCl (WM q ad) (mE D q)) A) args s 0 0 A) (F0 m 4 ls []) := by
    intro rec4 hrec4 z x1 x2 x3 H locs ls h hP hS hl
    unfold pX8_count_l4 at h
    refine lv_iload_n hx hb dX8_count_4 rfl (lv_at hl 3 rfl) ?_
    refine lv_aload_n hx hb dX8_count_5 rfl (lv_at hl 0 rfl) ?_
    refine va_get (D := D) (ci := 8) (v := .int (z.1 0 2)) (C := RX8) (T := TX8) (N := 45) hx hb ht tl_X8 hown hK hP 0 (wm_0 q ad z) rfl 2 (by decide) (ht _ tw_fl_X8_173) (fun _ h9 => h9) rfl dX8_count_6 ?_
    refine lv_icmp_ge (tgt := 30) hx hb dX8_count_9 (by decide) (fun c9 => ?_) (fun c9 => ?_)
    · have h := h.1 c9
      refine lv_iload_n hx hb dX8_count_30 rfl (lv_at hl 1 rfl) ?_
      rcases g_sw (x := x1) 5 5 rfl with c31 | ⟨k31, hk31, c31⟩
      · refine lv_tableOut (tgt := 141) hx hb dX8_count_31 c31 (by decide) ?_
        have h := h.1 c31
        refine lv_iconst (v := (-1 : Int32)) hx hb dX8_count_141 (by decide) ?_
        exact g_ri hG hx hb hr hlocks hE hP hS h dX8_count_142
      · match k31, hk31, c31 with
        | 0, _, c31 =>
          have h := h.2.1 (g_eq c31 rfl)
          refine lv_tableIn (off := 37) (tgt := 68) hx hb dX8_count_31 (by rw [c31]; decide) (by rw [c31]; decide) (by rw [c31]; rfl) (by decide) ?_
          refine lv_aload_n hx hb dX8_count_68 rfl (lv_at hl 0 rfl) ?_
          refine va_get (D := D) (ci := 8) (v := .int (z.1 0 37)) (C := RX8) (T := TX8) (N := 45) hx hb ht tl_X8 hown hK hP 0 (wm_0 q ad z) rfl 37 (by decide) (ht _ tw_fl_X8_179) (fun _ h9 => h9) rfl dX8_count_69 ?_
          exact g_ri hG hx hb hr hlocks hE hP hS h dX8_count_72
        | 1, _, c31 =>
          have h := h.2.2.1 (g_eq c31 rfl)
          refine lv_tableIn (off := 42) (tgt := 73) hx hb dX8_count_31 (by rw [c31]; decide) (by rw [c31]; decide) (by rw [c31]; rfl) (by decide) ?_
          refine lv_aload_n hx hb dX8_count_73 rfl (lv_at hl 0 rfl) ?_
          refine va_get (D := D) (ci := 8) (v := .ref (ad 16)) (C := RX8) (T := TX8) (N := 45) hx hb ht tl_X8 hown hK hP 0 (wm_0 q ad z) rfl 40 (by decide) (ht _ tw_fl_X8_60) (fun _ h9 => h9) rfl dX8_count_74 ?_
          refine lv_iconst (v := (0 : Int32)) hx hb dX8_count_77 (by decide) ?_
          have hi78 := h.1
          have h := h.2
          refine va_zald hx hb hK hP 16 1 (wm_16 q ad z) rfl hi78 dX8_count_78 ?_
          refine lv_if_eq (tgt := 86) hx hb dX8_count_79 (by decide) (fun c79 => ?_) (fun c79 => ?_)
          · have h := h.1 c79
            refine lv_iconst (v := (0 : Int32)) hx hb dX8_count_86 (by decide) ?_
            exact B87 z (0 : Int32) _ _ _ h hP hS (lv_sub hl [0] rfl)
          · have h := h.2 c79
            refine lv_iconst (v := (1 : Int32)) hx hb dX8_count_82 (by decide) ?_
            refine lv_goto (tgt := 87) hx hb dX8_count_83 (by decide) ?_
            exact B87 z (1 : Int32) _ _ _ h hP hS (lv_sub hl [0] rfl)
        | 2, _, c31 =>
          have h := h.2.2.2.1 (g_eq c31 rfl)
          refine lv_tableIn (off := 72) (tgt := 103) hx hb dX8_count_31 (by rw [c31]; decide) (by rw [c31]; decide) (by rw [c31]; rfl) (by decide) ?_
          refine lv_aload_n hx hb dX8_count_103 rfl (lv_at hl 0 rfl) ?_
          refine va_get (D := D) (ci := 8) (v := .int (z.1 0 15)) (C := RX8) (T := TX8) (N := 45) hx hb ht tl_X8 hown hK hP 0 (wm_0 q ad z) rfl 15 (by decide) (ht _ tw_fl_X8_78) (fun _ h9 => h9) rfl dX8_count_104 ?_
          exact g_ri hG hx hb hr hlocks hE hP hS h dX8_count_107
        | 3, _, c31 =>
          have h := h.2.2.2.2.1 (g_eq c31 rfl)
          refine lv_tableIn (off := 77) (tgt := 108) hx hb dX8_count_31 (by rw [c31]; decide) (by rw [c31]; decide) (by rw [c31]; rfl) (by decide) ?_
          refine lv_aload_n hx hb dX8_count_108 rfl (lv_at hl 0 rfl) ?_
          refine va_get (D := D) (ci := 8) (v := .ref (ad 17)) (C := RX8) (T := TX8) (N := 45) hx hb ht tl_X8 hown hK hP 0 (wm_0 q ad z) rfl 41 (by decide) (ht _ tw_fl_X8_63) (fun _ h9 => h9) rfl dX8_count_109 ?_
          refine lv_iconst (v := (0 : Int32)) hx hb dX8_count_112 (by decide) ?_
          have hi113 := h.1
          have h := h.2
          refine va_iald hx hb hK hP 17 0 (wm_17 q ad z) rfl hi113 dX8_count_113 ?_
          refine lv_bipush (v := (-4 : Int32)) hx hb dX8_count_114 (by decide) ?_
          refine lv_icmp_ne (tgt := 124) hx hb dX8_count_116 (by decide) (fun c116 => ?_) (fun c116 => ?_)
          · have h := h.1 c116
            refine lv_aload_n hx hb dX8_count_124 rfl (lv_at hl 0 rfl) ?_
            refine va_get (D := D) (ci := 8) (v := .ref (ad 18)) (C := RX8) (T := TX8) (N := 45) hx hb ht tl_X8 hown hK hP 0 (wm_0 q ad z) rfl 42 (by decide) (ht _ tw_fl_X8_66) (fun _ h9 => h9) rfl dX8_count_125 ?_
            refine lv_iconst (v := (0 : Int32)) hx hb dX8_count_128 (by decide) ?_
            have hi129 := h.1
            have h := h.2
            refine va_iald hx hb hK hP 18 0 (wm_18 q ad z) rfl hi129 dX8_count_129 ?_
            exact g_ri hG hx hb hr hlocks hE hP hS h dX8_count_130
          · have h := h.2 c116
            refine lv_bipush (v := (-4 : Int32)) hx hb dX8_count_119 (by decide) ?_
            refine lv_goto (tgt := 130) hx hb dX8_count_121 (by decide) ?_
            exact g_ri hG hx hb hr hlocks hE hP hS h dX8_count_130
        | 4, _, c31 =>
          have h := h.2.2.2.2.2.1 (g_eq c31 rfl)
          refine lv_tableIn (off := 100) (tgt := 131) hx hb dX8_count_31 (by rw [c31]; decide) (by rw [c31]; decide) (by rw [c31]; rfl) (by decide) ?_
          refine lv_aload_n hx hb dX8_count_131 rfl (lv_at hl 0 rfl) ?_
          refine g_cVi (Wd := WM q ad) (z := z) (As := []) (rest := []) hG S (kX8_omens l D q ad A hD z _ h) (cwV 0 ht (cW_V (fun _ h => h) tw_co_X8_omens tw_ml_X8_182 tw_im_X8_omens tw_se_X8_omens tw_in_X8) rfl rfl rfl (by decide +kernel) ⟨by decide, by decide⟩) (va_recv hK hP (ci := 8) (q0 := 0) rfl (wm_0 q ad z)) hE hP hS rfl hl.1 rfl (Nat.le_of_ble_eq_true rfl) dX8_count_132 ⟨Nat.zero_le _, Nat.zero_le _⟩ (fun r132 z132 H locs h hP hS => ?_)
          refine g_cSi (Wd := WM q ad) (z := z132) (As := [.int r132]) (rest := []) hG S (kX8_bitsOf l D q ad A hD z132 r132 _ h) (va_cwS 1 ht (cW_S (fun _ h => h) tw_co_X8_bitsOf tw_ml_X8_247 tw_st_X8_bitsOf tw_in_X8) rfl rfl rfl (by decide +kernel) ⟨by decide, by decide⟩) hE hP hS rfl hl.1 rfl (Nat.le_of_ble_eq_true rfl) dX8_count_135 ⟨Nat.zero_le _, Nat.zero_le _⟩ (fun r135 z135 H locs h hP hS => ?_)
          exact g_ri hG hx hb hr hlocks hE hP hS h dX8_count_138
        | 5, _, c31 =>
          have h := h.2.2.2.2.2.2 (g_eq c31 rfl)
          refine lv_tableIn (off := 108) (tgt := 139) hx hb dX8_count_31 (by rw [c31]; decide) (by rw [c31]; decide) (by rw [c31]; rfl) (by decide) ?_
          refine lv_iload_n hx hb dX8_count_139 rfl (lv_at hl 2 rfl) ?_
          exact g_ri hG hx hb hr hlocks hE hP hS h dX8_count_140
        | k + 6, hk, _ => exact absurd hk (by omega)
    · have h := h.2 c9
      refine lv_iload_n hx hb dX8_count_12 rfl (lv_at hl 2 rfl) ?_
      refine lv_aload_n hx hb dX8_count_13 rfl (lv_at hl 0 rfl) ?_
      refine va_get (D := D) (ci := 8) (v := .ref (ad 1)) (C := RX8) (T := TX8) (N := 45) hx hb ht tl_X8 hown hK hP 0 (wm_0 q ad z) rfl 0 (by decide) (ht _ tw_fl_X8_7) (fun _ h9 => h9) rfl dX8_count_14 ?_
      refine lv_bipush (v := (21 : Int32)) hx hb dX8_count_17 (by decide) ?_
      refine lv_iload_n hx hb dX8_count_19 rfl (lv_at hl 3 rfl) ?_
      refine lv_iadd hx hb dX8_count_20 ?_
      have hi21 := h.1
      have h := h.2
      refine va_iald hx hb hK hP 1 0 (wm_1 q ad z) rfl hi21 dX8_count_21 ?_
      refine lv_iadd hx hb dX8_count_22 ?_
      refine lv_topi (fun x2_23 ex2_23 => ?_)
      have h := h x2_23 ex2_23
      refine lv_istore_n (lv' := [(2, .int x2_23), (0, .ref (ad 0)), (1, .int x1), (3, .int x3)]) hx hb dX8_count_23 rfl hl (by decide) rfl (fun ls hl => ?_)
      obtain ⟨x3_24, ex3_24⟩ : ∃ w : Int32, w = x3 + (1 : Int32) := ⟨_, rfl⟩
      have h := h x3_24 ex3_24
      refine lv_iinc (v := x3_24) (lv' := [(3, .int x3_24), (2, .int x2_23), (0, .ref (ad 0)), (1, .int x1)]) hx hb dX8_count_24 hl (k := 3) rfl (by rw [ex3_24]; rfl) (by decide) rfl (fun ls hl => ?_)
      refine lv_goto (tgt := 4) hx hb dX8_count_27 (by decide) ?_
      exact hrec4 z x1 x2_23 x3_24 _ _ _ h hP hS (lv_sub hl [2, 3, 1, 0] rfl)
  have L4 : ∀ (n : Nat) (z : MX) (x1 : Int32) (x2 : Int32) (x3 : Int32) (H : Heap) (locs : List Loc) (ls : Array Slot), pX8_count_L4  post n z x1 x2 x3 → va_P D vwCl (WM q ad z) H → va_S A s.heap H locs → lv_has ls 4 [(0, .ref (ad 0)), (1, .int x1), (2, .int x2), (3, .int x3)] → W p l e (headSpec (cW yX8_count cX8_count 4 (some .int)) ({ frames := 1, cells := 0, slots := 0, locals := 22 } : Room)).room s m args below meth c H locs 0 0 (MQ below (va_Qi post (gB D vwCl (WM q ad) (mE D q)) A) args s 0 0 A) (F0 m 4 ls []) := by
    intro n
    induction n with
    | zero =>
      intro z x1 x2 x3 H locs ls h
      exact False.elim h
    | succ n ih =>
      intro z x1 x2 x3 H locs ls h hP hS hl
      exact B4 (pX8_count_L4  post n) ih z x1 x2 x3 H locs ls h hP hS hl
  refine g_entry (vs := [.ref (ad 0), .int x1]) hargs (Nat.le_of_ble_eq_true rfl) (fun ls hl => ?_)
  have hl : lv_has ls 4 [(0, .ref (ad 0)), (1, .int x1)] := hl
  unfold pX8_count at h
  refine lv_iconst (v := (0 : Int32)) hx hb dX8_count_0 (by decide) ?_
  refine lv_istore_n (lv' := [(2, .int (0 : Int32)), (0, .ref (ad 0)), (1, .int x1)]) hx hb dX8_count_1 rfl hl (by decide) rfl (fun ls hl => ?_)
  refine lv_iconst (v := (0 : Int32)) hx hb dX8_count_2 (by decide) ?_
  refine lv_istore_n (lv' := [(3, .int (0 : Int32)), (2, .int (0 : Int32)), (0, .ref (ad 0)), (1, .int x1)]) hx hb dX8_count_3 rfl hl (by decide) rfl (fun ls hl => ?_)
  obtain ⟨n, h⟩ := h
  exact L4 n z x1 (0 : Int32) (0 : Int32) _ _ _ h hP hS (lv_sub hl [2, 3, 1, 0] rfl)
