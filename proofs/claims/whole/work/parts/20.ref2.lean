def pX8_isUp (z : MX) (x1 : Int32) (post : Int32 → MX → Prop) : Prop :=
  vp_in ((13 : Int32) + x1) 125 ∧
  ((¬ (z.1 1 (Int32.toNatClampNeg ((13 : Int32) + x1))) = 0 →
    (((0 : Int32) = 0 ∨ (0 : Int32) = 1) ∧ post (0 : Int32) z)) ∧
  ((z.1 1 (Int32.toNatClampNeg ((13 : Int32) + x1))) = 0 →
    (((1 : Int32) = 0 ∨ (1 : Int32) = 1) ∧ post (1 : Int32) z)))
set_option maxHeartbeats 4000000 in
set_option maxRecDepth 100000 in
theorem kX8_isUp (l : Launch) (D : va_G) (q : Nat → ClassId) (ad : Nat → Nat) (A : Nat → Prop) (hD : ∀ z, va_D A (WM q ad z)) (z : MX) (x1 : Int32) (post : Int32 → MX → Prop) (h : pX8_isUp  z x1 post) : Met l yX8_isUp (cW yX8_isUp cX8_isUp 2 (some .boolean)) ({ frames := 0, cells := 0, slots := 0, locals := 0 } : Room) (va_Pc [.ref (ad 0), .int x1] ((gB D vwCl (WM q ad) (mE D q)) z)) (va_Qi post (gB D vwCl (WM q ad) (mE D q)) A) 0 0 A := by
  refine Met.ofW (cc := cX8_isUp) (maxL := 2) (ret := (some .boolean)) (by decide) rfl ?_
  intro p e s m args below meth c s₁ B hml hv
  obtain ⟨hargs, hP, hE⟩ := hv
  have hx := B.exec
  have hb := B.bytes
  have hr := B.returns
  have hts := atoms_spec (ws := (cW yX8_isUp cX8_isUp 2 (some .boolean))) B.pre
  have ht : ∀ w ∈ tG, w.before args s = true := fun w h => hts w (List.mem_cons_of_mem _ h)
  have hown : s.vm.findClass RX8 = some m.cls := findClass_of_methodNamed B.named
  have hlocks := B.notSynchronized
  have hK := hE.1
  have hG := mE_G D q A
  have S : CallFix p m c cX8_isUp 2 s args tG RX8 := ⟨hx, hb, hml, hown, ht⟩
  have hS : va_S A s.heap s.heap [] := va_S.rf
  refine g_entry (vs := [.ref (ad 0), .int x1]) hargs (Nat.le_of_ble_eq_true rfl) (fun ls hl => ?_)
  have hl : lv_has ls 2 [(0, .ref (ad 0)), (1, .int x1)] := hl
  unfold pX8_isUp at h
  refine lv_aload_n hx hb dX8_isUp_0 rfl (lv_at hl 0 rfl) ?_
  refine va_get (D := D) (ci := 8) (v := .ref (ad 1)) (C := RX8) (T := TX8) (N := 45) hx hb ht tl_X8 hown hK hP 0 (wm_0 q ad z) rfl 0 (by decide) (ht _ tw_fl_X8_7) (fun _ h9 => h9) rfl dX8_isUp_1 ?_
  refine lv_bipush (v := (13 : Int32)) hx hb dX8_isUp_4 (by decide) ?_
  refine lv_iload_n hx hb dX8_isUp_6 rfl (lv_at hl 1 rfl) ?_
  refine lv_iadd hx hb dX8_isUp_7 ?_
  have hi8 := h.1
  have h := h.2
  refine va_iald hx hb hK hP 1 0 (wm_1 q ad z) rfl hi8 dX8_isUp_8 ?_
  refine lv_if_ne (tgt := 16) hx hb dX8_isUp_9 (by decide) (fun c9 => ?_) (fun c9 => ?_)
  · have h := h.1 c9
    refine lv_iconst (v := (0 : Int32)) hx hb dX8_isUp_16 (by decide) ?_
    exact g_rz hG hx hb hr hlocks hE hP hS h dX8_isUp_17
  · have h := h.2 c9
    refine lv_iconst (v := (1 : Int32)) hx hb dX8_isUp_12 (by decide) ?_
    refine lv_goto (tgt := 17) hx hb dX8_isUp_13 (by decide) ?_
    exact g_rz hG hx hb hr hlocks hE hP hS h dX8_isUp_17
def pX8_nextBlock (z : MX) (x1 : Int32) (post : Int32 → MX → Prop) : Prop :=
  vp_in x1 4 ∧
  ((¬ (z.1 9 (Int32.toNatClampNeg x1)) = (-4 : Int32) →
    pX8_isUp z x1 (fun (r34 : Int32) (z34 : MX) =>
    ((r34 = 0 →
      vp_in x1 4 ∧
      post ((z34.1 9 (Int32.toNatClampNeg x1)) - (1 : Int32)) z34) ∧
    (¬ r34 = 0 →
      vp_in x1 4 ∧
      post ((z34.1 9 (Int32.toNatClampNeg x1)) + (1 : Int32)) z34)))) ∧
  ((z.1 9 (Int32.toNatClampNeg x1)) = (-4 : Int32) →
    pX8_isUp z x1 (fun (r13 : Int32) (z13 : MX) =>
    ((r13 = 0 →
      post ((z13.1 0 1) - (1 : Int32)) z13) ∧
    (¬ r13 = 0 →
      post (0 : Int32) z13)))))
set_option maxHeartbeats 4000000 in
set_option maxRecDepth 100000 in
theorem kX8_nextBlock (l : Launch) (D : va_G) (q : Nat → ClassId) (ad : Nat → Nat) (A : Nat → Prop) (hD : ∀ z, va_D A (WM q ad z)) (z : MX) (x1 : Int32) (post : Int32 → MX → Prop) (h : pX8_nextBlock  z x1 post) : Met l yX8_nextBlock (cW yX8_nextBlock cX8_nextBlock 2 (some .int)) ({ frames := 1, cells := 0, slots := 0, locals := 21 } : Room) (va_Pc [.ref (ad 0), .int x1] ((gB D vwCl (WM q ad) (mE D q)) z)) (va_Qi post (gB D vwCl (WM q ad) (mE D q)) A) 0 0 A := by
  refine Met.ofW (cc := cX8_nextBlock) (maxL := 2) (ret := (some .int)) (by decide) rfl ?_
  intro p e s m args below meth c s₁ B hml hv
  obtain ⟨hargs, hP, hE⟩ := hv
  have hx := B.exec
  have hb := B.bytes
  have hr := B.returns
  have hts := atoms_spec (ws := (cW yX8_nextBlock cX8_nextBlock 2 (some .int))) B.pre
  have ht : ∀ w ∈ tG, w.before args s = true := fun w h => hts w (List.mem_cons_of_mem _ h)
  have hown : s.vm.findClass RX8 = some m.cls := findClass_of_methodNamed B.named
  have hlocks := B.notSynchronized
  have hK := hE.1
  have hG := mE_G D q A
  have S : CallFix p m c cX8_nextBlock 2 s args tG RX8 := ⟨hx, hb, hml, hown, ht⟩
  have hS : va_S A s.heap s.heap [] := va_S.rf
  refine g_entry (vs := [.ref (ad 0), .int x1]) hargs (Nat.le_of_ble_eq_true rfl) (fun ls hl => ?_)
  have hl : lv_has ls 2 [(0, .ref (ad 0)), (1, .int x1)] := hl
  unfold pX8_nextBlock at h
  refine lv_aload_n hx hb dX8_nextBlock_0 rfl (lv_at hl 0 rfl) ?_
  refine va_get (D := D) (ci := 8) (v := .ref (ad 9)) (C := RX8) (T := TX8) (N := 45) hx hb ht tl_X8 hown hK hP 0 (wm_0 q ad z) rfl 25 (by decide) (ht _ tw_fl_X8_38) (fun _ h9 => h9) rfl dX8_nextBlock_1 ?_
  refine lv_iload_n hx hb dX8_nextBlock_4 rfl (lv_at hl 1 rfl) ?_
  have hi5 := h.1
  have h := h.2
  refine va_iald hx hb hK hP 9 0 (wm_9 q ad z) rfl hi5 dX8_nextBlock_5 ?_
  refine lv_bipush (v := (-4 : Int32)) hx hb dX8_nextBlock_6 (by decide) ?_
  refine lv_icmp_ne (tgt := 32) hx hb dX8_nextBlock_8 (by decide) (fun c8 => ?_) (fun c8 => ?_)
  · have h := h.1 c8
    refine lv_aload_n hx hb dX8_nextBlock_32 rfl (lv_at hl 0 rfl) ?_
    refine lv_iload_n hx hb dX8_nextBlock_33 rfl (lv_at hl 1 rfl) ?_
    refine g_cVi (Wd := WM q ad) (z := z) (As := [.int x1]) (rest := []) hG S (kX8_isUp l D q ad A hD z x1 _ h) (cwV 1 ht (cW_V (fun _ h => h) tw_co_X8_isUp tw_ml_X8_205 tw_im_X8_isUp tw_se_X8_isUp tw_in_X8) rfl rfl rfl (by decide +kernel) ⟨by decide, by decide⟩) (va_recv hK hP (ci := 8) (q0 := 0) rfl (wm_0 q ad z)) hE hP hS rfl hl.1 rfl (Nat.le_of_ble_eq_true rfl) dX8_nextBlock_34 ⟨Nat.zero_le _, Nat.zero_le _⟩ (fun r34 z34 H locs h hP hS => ?_)
    refine lv_if_eq (tgt := 51) hx hb dX8_nextBlock_37 (by decide) (fun c37 => ?_) (fun c37 => ?_)
    · have h := h.1 c37
      refine lv_aload_n hx hb dX8_nextBlock_51 rfl (lv_at hl 0 rfl) ?_
      refine va_get (D := D) (ci := 8) (v := .ref (ad 9)) (C := RX8) (T := TX8) (N := 45) hx hb ht tl_X8 hown hK hP 0 (wm_0 q ad z34) rfl 25 (by decide) (ht _ tw_fl_X8_38) (fun _ h9 => h9) rfl dX8_nextBlock_52 ?_
      refine lv_iload_n hx hb dX8_nextBlock_55 rfl (lv_at hl 1 rfl) ?_
      have hi56 := h.1
      have h := h.2
      refine va_iald hx hb hK hP 9 0 (wm_9 q ad z34) rfl hi56 dX8_nextBlock_56 ?_
      refine lv_iconst (v := (1 : Int32)) hx hb dX8_nextBlock_57 (by decide) ?_
      refine lv_isub hx hb dX8_nextBlock_58 ?_
      exact g_ri hG hx hb hr hlocks hE hP hS h dX8_nextBlock_59
    · have h := h.2 c37
      refine lv_aload_n hx hb dX8_nextBlock_40 rfl (lv_at hl 0 rfl) ?_
      refine va_get (D := D) (ci := 8) (v := .ref (ad 9)) (C := RX8) (T := TX8) (N := 45) hx hb ht tl_X8 hown hK hP 0 (wm_0 q ad z34) rfl 25 (by decide) (ht _ tw_fl_X8_38) (fun _ h9 => h9) rfl dX8_nextBlock_41 ?_
      refine lv_iload_n hx hb dX8_nextBlock_44 rfl (lv_at hl 1 rfl) ?_
      have hi45 := h.1
      have h := h.2
      refine va_iald hx hb hK hP 9 0 (wm_9 q ad z34) rfl hi45 dX8_nextBlock_45 ?_
      refine lv_iconst (v := (1 : Int32)) hx hb dX8_nextBlock_46 (by decide) ?_
      refine lv_iadd hx hb dX8_nextBlock_47 ?_
      refine lv_goto (tgt := 59) hx hb dX8_nextBlock_48 (by decide) ?_
      exact g_ri hG hx hb hr hlocks hE hP hS h dX8_nextBlock_59
  · have h := h.2 c8
    refine lv_aload_n hx hb dX8_nextBlock_11 rfl (lv_at hl 0 rfl) ?_
    refine lv_iload_n hx hb dX8_nextBlock_12 rfl (lv_at hl 1 rfl) ?_
    refine g_cVi (Wd := WM q ad) (z := z) (As := [.int x1]) (rest := []) hG S (kX8_isUp l D q ad A hD z x1 _ h) (cwV 1 ht (cW_V (fun _ h => h) tw_co_X8_isUp tw_ml_X8_205 tw_im_X8_isUp tw_se_X8_isUp tw_in_X8) rfl rfl rfl (by decide +kernel) ⟨by decide, by decide⟩) (va_recv hK hP (ci := 8) (q0 := 0) rfl (wm_0 q ad z)) hE hP hS rfl hl.1 rfl (Nat.le_of_ble_eq_true rfl) dX8_nextBlock_13 ⟨Nat.zero_le _, Nat.zero_le _⟩ (fun r13 z13 H locs h hP hS => ?_)
    refine lv_if_eq (tgt := 23) hx hb dX8_nextBlock_16 (by decide) (fun c16 => ?_) (fun c16 => ?_)
    · have h := h.1 c16
      refine lv_aload_n hx hb dX8_nextBlock_23 rfl (lv_at hl 0 rfl) ?_
      refine va_get (D := D) (ci := 8) (v := .int (z13.1 0 1)) (C := RX8) (T := TX8) (N := 45) hx hb ht tl_X8 hown hK hP 0 (wm_0 q ad z13) rfl 1 (by decide) (ht _ tw_fl_X8_13) (fun _ h9 => h9) rfl dX8_nextBlock_24 ?_
      refine lv_iconst (v := (1 : Int32)) hx hb dX8_nextBlock_27 (by decide) ?_
      refine lv_isub hx hb dX8_nextBlock_28 ?_
      refine lv_goto (tgt := 59) hx hb dX8_nextBlock_29 (by decide) ?_
      exact g_ri hG hx hb hr hlocks hE hP hS h dX8_nextBlock_59
    · have h := h.2 c16
      refine lv_iconst (v := (0 : Int32)) hx hb dX8_nextBlock_19 (by decide) ?_
      refine lv_goto (tgt := 59) hx hb dX8_nextBlock_20 (by decide) ?_
      exact g_ri hG hx hb hr hlocks hE hP hS h dX8_nextBlock_59
def pX8_otherIn_b38 (rec6 : MX → Int32 → Int32 → Int32 → Int32 → Prop) (post : Int32 → MX → Prop) (z : MX) (x1 : Int32) (x2 : Int32) (x4 : Int32) (y0 : Int32) : Prop :=
    ∀ x4_39 : Int32, x4_39 = x4 + (1 : Int32) →
    rec6 z x1 x2 y0 x4_39
def pX8_otherIn_b37 (rec6 : MX → Int32 → Int32 → Int32 → Int32 → Prop) (post : Int32 → MX → Prop) (z : MX) (x1 : Int32) (x2 : Int32) (x3 : Int32) (x4 : Int32) : Prop :=
    pX8_otherIn_b38  rec6 post z x1 x2 x4 x3
def pX8_otherIn_l6 (rec6 : MX → Int32 → Int32 → Int32 → Int32 → Prop) (post : Int32 → MX → Prop) (z : MX) (x1 : Int32) (x2 : Int32) (x3 : Int32) (x4 : Int32) : Prop :=
    (((z.1 0 2) ≤ x4 →
      post x3 z) ∧
    (¬ (z.1 0 2) ≤ x4 →
      ((x4 = x1 →
        pX8_otherIn_b37  rec6 post z x1 x2 x3 x4) ∧
      (¬ x4 = x1 →
        vp_in x4 4 ∧
        ((¬ (z.1 9 (Int32.toNatClampNeg x4)) = x2 →
          pX8_otherIn_b37  rec6 post z x1 x2 x3 x4) ∧
        ((z.1 9 (Int32.toNatClampNeg x4)) = x2 →
          pX8_otherIn_b38  rec6 post z x1 x2 x4 x4))))))
def pX8_otherIn_L6 (post : Int32 → MX → Prop) : Nat → MX → Int32 → Int32 → Int32 → Int32 → Prop
  | 0 => fun _ _ _ _ _ => False
  | n + 1 => fun z x1 x2 x3 x4 => pX8_otherIn_l6  (pX8_otherIn_L6  post n) post z x1 x2 x3 x4
def pX8_otherIn (z : MX) (x1 : Int32) (x2 : Int32) (post : Int32 → MX → Prop) : Prop :=
  ∃ n, pX8_otherIn_L6  post n z x1 x2 (-4 : Int32) (0 : Int32)
set_option maxHeartbeats 4000000 in
set_option maxRecDepth 100000 in
theorem kX8_otherIn (l : Launch) (D : va_G) (q : Nat → ClassId) (ad : Nat → Nat) (A : Nat → Prop) (hD : ∀ z, va_D A (WM q ad z)) (z : MX) (x1 : Int32) (x2 : Int32) (post : Int32 → MX → Prop) (h : pX8_otherIn  z x1 x2 post) : Met l yX8_otherIn (cW yX8_otherIn cX8_otherIn 5 (some .int)) ({ frames := 0, cells := 0, slots := 0, locals := 0 } : Room) (va_Pc [.ref (ad 0), .int x1, .int x2] ((gB D vwCl (WM q ad) (mE D q)) z)) (va_Qi post (gB D vwCl (WM q ad) (mE D q)) A) 0 0 A := by
  refine Met.ofW (cc := cX8_otherIn) (maxL := 5) (ret := (some .int)) (by decide) rfl ?_
  intro p e s m args below meth c s₁ B hml hv
  obtain ⟨hargs, hP, hE⟩ := hv
  have hx := B.exec
  have hb := B.bytes
  have hr := B.returns
  have hts := atoms_spec (ws := (cW yX8_otherIn cX8_otherIn 5 (some .int))) B.pre
  have ht : ∀ w ∈ tG, w.before args s = true := fun w h => hts w (List.mem_cons_of_mem _ h)
  have hown : s.vm.findClass RX8 = some m.cls := findClass_of_methodNamed B.named
  have hlocks := B.notSynchronized
  have hK := hE.1
  have hG := mE_G D q A
  have S : CallFix p m c cX8_otherIn 5 s args tG RX8 := ⟨hx, hb, hml, hown, ht⟩
  have hS : va_S A s.heap s.heap [] := va_S.rf
  have B38 : ∀ (rec6 : MX → Int32 → Int32 → Int32 → Int32 → Prop) (hrec6 : ∀ (z : MX) (x1 : Int32) (x2 : Int32) (x3 : Int32) (x4 : Int32) (H : Heap) (locs : List Loc) (ls : Array Slot), rec6 z x1 x2 x3 x4 → va_P D vwCl (WM q ad z) H → va_S A s.heap H locs → lv_has ls 5 [(0, .ref (ad 0)), (1, .int x1), (2, .int x2), (3, .int x3), (4, .int x4)] → W p l e (headSpec (cW yX8_otherIn cX8_otherIn 5 (some .int)) ({ frames := 0, cells := 0, slots := 0, locals := 0 } : Room)).room s m args below meth c H locs 0 0 (MQ below (va_Qi post (gB D vwCl (WM q ad) (mE D q)) A) args s 0 0 A) (F0 m 6 ls [])) (z : MX) (x1 : Int32) (x2 : Int32) (x4 : Int32) (y0 : Int32) (H : Heap) (locs : List Loc) (ls : Array Slot), pX8_otherIn_b38  rec6 post z x1 x2 x4 y0 → va_P D vwCl (WM q ad z) H → va_S A s.heap H locs → lv_has ls 5 [(0, .ref (ad 0)), (1, .int x1), (2, .int x2), (4, .int x4)] → W p l e (headSpec (cW yX8_otherIn cX8_otherIn 5 (some .int)) ({ frames := 0, cells := 0, slots := 0, locals := 0 } : Room)).room s m args below meth c H locs 0 0 (MQ below (va_Qi post (gB D vwCl (WM q ad) (mE D q)) A) args s 0 0 A) (F0 m 38 ls [.int y0]) := by
    intro rec6 hrec6 z x1 x2 x4 y0 H locs ls h hP hS hl
    unfold pX8_otherIn_b38 at h
    refine lv_istore_n (lv' := [(3, .int y0), (0, .ref (ad 0)), (1, .int x1), (2, .int x2), (4, .int x4)]) hx hb dX8_otherIn_38 rfl hl (by decide) rfl (fun ls hl => ?_)
    obtain ⟨x4_39, ex4_39⟩ : ∃ w : Int32, w = x4 + (1 : Int32) := ⟨_, rfl⟩
    have h := h x4_39 ex4_39
    refine lv_iinc (v := x4_39) (lv' := [(4, .int x4_39), (3, .int y0), (0, .ref (ad 0)), (1, .int x1), (2, .int x2)]) hx hb dX8_otherIn_39 hl (k := 4) rfl (by rw [ex4_39]; rfl) (by decide) rfl (fun ls hl => ?_)
    refine lv_goto (tgt := 6) hx hb dX8_otherIn_42 (by decide) ?_
    exact hrec6 z x1 x2 y0 x4_39 _ _ _ h hP hS (lv_sub hl [2, 3, 4, 1, 0] rfl)
  have B37 : ∀ (rec6 : MX → Int32 → Int32 → Int32 → Int32 → Prop) (hrec6 : ∀ (z : MX) (x1 : Int32) (x2 : Int32) (x3 : Int32) (x4 : Int32) (H : Heap) (locs : List Loc) (ls : Array Slot), rec6 z x1 x2 x3 x4 → va_P D vwCl (WM q ad z) H → va_S A s.heap H locs → lv_has ls 5 [(0, .ref (ad 0)), (1, .int x1), (2, .int x2), (3, .int x3), (4, .int x4)] → W p l e (headSpec (cW yX8_otherIn cX8_otherIn 5 (some .int)) ({ frames := 0, cells := 0, slots := 0, locals := 0 } : Room)).room s m args below meth c H locs 0 0 (MQ below (va_Qi post (gB D vwCl (WM q ad) (mE D q)) A) args s 0 0 A) (F0 m 6 ls [])) (z : MX) (x1 : Int32) (x2 : Int32) (x3 : Int32) (x4 : Int32) (H : Heap) (locs : List Loc) (ls : Array Slot), pX8_otherIn_b37  rec6 post z x1 x2 x3 x4 → va_P D vwCl (WM q ad z) H → va_S A s.heap H locs → lv_has ls 5 [(0, .ref (ad 0)), (1, .int x1), (2, .int x2), (3, .int x3), (4, .int x4)] → W p l e (headSpec (cW yX8_otherIn cX8_otherIn 5 (some .int)) ({ frames := 0, cells := 0, slots := 0, locals := 0 } : Room)).room s m args below meth c H locs 0 0 (MQ below (va_Qi post (gB D vwCl (WM q ad) (mE D q)) A) args s 0 0 A) (F0 m 37 ls []) := by
    intro rec6 hrec6 z x1 x2 x3 x4 H locs ls h hP hS hl
    unfold pX8_otherIn_b37 at h
    refine lv_iload_n hx hb dX8_otherIn_37 rfl (lv_at hl 3 rfl) ?_
    exact B38 rec6 hrec6 z x1 x2 x4 x3 _ _ _ h hP hS (lv_sub hl [0, 1, 2, 4] rfl)
  have B6 : ∀ (rec6 : MX → Int32 → Int32 → Int32 → Int32 → Prop) (hrec6 : ∀ (z : MX) (x1 : Int32) (x2 : Int32) (x3 : Int32) (x4 : Int32) (H : Heap) (locs : List Loc) (ls : Array Slot), rec6 z x1 x2 x3 x4 → va_P D vwCl (WM q ad z) H → va_S A s.heap H locs → lv_has ls 5 [(0, .ref (ad 0)), (1, .int x1), (2, .int x2), (3, .int x3), (4, .int x4)] → W p l e (headSpec (cW yX8_otherIn cX8_otherIn 5 (some .int)) ({ frames := 0, cells := 0, slots := 0, locals := 0 } : Room)).room s m args below meth c H locs 0 0 (MQ below (va_Qi post (gB D vwCl (WM q ad) (mE D q)) A) args s 0 0 A) (F0 m 6 ls [])) (z : MX) (x1 : Int32) (x2 : Int32) (x3 : Int32) (x4 : Int32) (H : Heap) (locs : List Loc) (ls : Array Slot), pX8_otherIn_l6  rec6 post z x1 x2 x3 x4 → va_P D vwCl (WM q ad z) H → va_S A s.heap H locs → lv_has ls 5 [(0, .ref (ad 0)), (1, .int x1), (2, .int x2), (3, .int x3), (4, .int x4)] → W p l e (headSpec (cW yX8_otherIn cX8_otherIn 5 (some .int)) ({ frames := 0, cells := 0, slots := 0, locals := 0 } : Room)).room s m args below meth c H locs 0 0 (MQ below (va_Qi post (gB D vwCl (WM q ad) (mE D q)) A) args s 0 0 A) (F0 m 6 ls []) := by
    intro rec6 hrec6 z x1 x2 x3 x4 H locs ls h hP hS hl
    unfold pX8_otherIn_l6 at h
    refine lv_iload hx hb dX8_otherIn_6 (lv_at hl 4 rfl) ?_
    refine lv_aload_n hx hb dX8_otherIn_8 rfl (lv_at hl 0 rfl) ?_
    refine va_get (D := D) (ci := 8) (v := .int (z.1 0 2)) (C := RX8) (T := TX8) (N := 45) hx hb ht tl_X8 hown hK hP 0 (wm_0 q ad z) rfl 2 (by decide) (ht _ tw_fl_X8_173) (fun _ h9 => h9) rfl dX8_otherIn_9 ?_
    refine lv_icmp_ge (tgt := 45) hx hb dX8_otherIn_12 (by decide) (fun c12 => ?_) (fun c12 => ?_)
    · have h := h.1 c12
      refine lv_iload_n hx hb dX8_otherIn_45 rfl (lv_at hl 3 rfl) ?_
      exact g_ri hG hx hb hr hlocks hE hP hS h dX8_otherIn_46
    · have h := h.2 c12
      refine lv_iload hx hb dX8_otherIn_15 (lv_at hl 4 rfl) ?_
      refine lv_iload_n hx hb dX8_otherIn_17 rfl (lv_at hl 1 rfl) ?_
      refine lv_icmp_eq (tgt := 37) hx hb dX8_otherIn_18 (by decide) (fun c18 => ?_) (fun c18 => ?_)
      · have h := h.1 c18
        exact B37 rec6 hrec6 z x1 x2 x3 x4 _ _ _ h hP hS (lv_sub hl [0, 1, 2, 3, 4] rfl)
      · have h := h.2 c18
        refine lv_aload_n hx hb dX8_otherIn_21 rfl (lv_at hl 0 rfl) ?_
        refine va_get (D := D) (ci := 8) (v := .ref (ad 9)) (C := RX8) (T := TX8) (N := 45) hx hb ht tl_X8 hown hK hP 0 (wm_0 q ad z) rfl 25 (by decide) (ht _ tw_fl_X8_38) (fun _ h9 => h9) rfl dX8_otherIn_22 ?_
        refine lv_iload hx hb dX8_otherIn_25 (lv_at hl 4 rfl) ?_
        have hi27 := h.1
        have h := h.2
        refine va_iald hx hb hK hP 9 0 (wm_9 q ad z) rfl hi27 dX8_otherIn_27 ?_
        refine lv_iload_n hx hb dX8_otherIn_28 rfl (lv_at hl 2 rfl) ?_
        refine lv_icmp_ne (tgt := 37) hx hb dX8_otherIn_29 (by decide) (fun c29 => ?_) (fun c29 => ?_)
        · have h := h.1 c29
          exact B37 rec6 hrec6 z x1 x2 x3 x4 _ _ _ h hP hS (lv_sub hl [0, 1, 2, 3, 4] rfl)
        · have h := h.2 c29
          refine lv_iload hx hb dX8_otherIn_32 (lv_at hl 4 rfl) ?_
          refine lv_goto (tgt := 38) hx hb dX8_otherIn_34 (by decide) ?_
          exact B38 rec6 hrec6 z x1 x2 x4 x4 _ _ _ h hP hS (lv_sub hl [0, 1, 2, 4] rfl)
  have L6 : ∀ (n : Nat) (z : MX) (x1 : Int32) (x2 : Int32) (x3 : Int32) (x4 : Int32) (H : Heap) (locs : List Loc) (ls : Array Slot), pX8_otherIn_L6  post n z x1 x2 x3 x4 → va_P D vwCl (WM q ad z) H → va_S A s.heap H locs → lv_has ls 5 [(0, .ref (ad 0)), (1, .int x1), (2, .int x2), (3, .int x3), (4, .int x4)] → W p l e (headSpec (cW yX8_otherIn cX8_otherIn 5 (some .int)) ({ frames := 0, cells := 0, slots := 0, locals := 0 } : Room)).room s m args below meth c H locs 0 0 (MQ below (va_Qi post (gB D vwCl (WM q ad) (mE D q)) A) args s 0 0 A) (F0 m 6 ls []) := by
    intro n
    induction n with
    | zero =>
      intro z x1 x2 x3 x4 H locs ls h
      exact False.elim h
    | succ n ih =>
      intro z x1 x2 x3 x4 H locs ls h hP hS hl
      exact B6 (pX8_otherIn_L6  post n) ih z x1 x2 x3 x4 H locs ls h hP hS hl
  refine g_entry (vs := [.ref (ad 0), .int x1, .int x2]) hargs (Nat.le_of_ble_eq_true rfl) (fun ls hl => ?_)
  have hl : lv_has ls 5 [(0, .ref (ad 0)), (1, .int x1), (2, .int x2)] := hl
  unfold pX8_otherIn at h
  refine lv_bipush (v := (-4 : Int32)) hx hb dX8_otherIn_0 (by decide) ?_
  refine lv_istore_n (lv' := [(3, .int (-4 : Int32)), (0, .ref (ad 0)), (1, .int x1), (2, .int x2)]) hx hb dX8_otherIn_2 rfl hl (by decide) rfl (fun ls hl => ?_)
  refine lv_iconst (v := (0 : Int32)) hx hb dX8_otherIn_3 (by decide) ?_
  refine lv_istore (lv' := [(4, .int (0 : Int32)), (3, .int (-4 : Int32)), (0, .ref (ad 0)), (1, .int x1), (2, .int x2)]) hx hb dX8_otherIn_4 hl (by decide) rfl (fun ls hl => ?_)
  obtain ⟨n, h⟩ := h
  exact L6 n z x1 x2 (-4 : Int32) (0 : Int32) _ _ _ h hP hS (lv_sub hl [2, 3, 4, 1, 0] rfl)
def pX8_moves_b94 (post : MX → Prop) (z : MX) (x1 : Int32) (x2 : Int32) (x3 : Int32) : Prop :=
    vp_in x1 4 ∧
    (((z.1 10 (Int32.toNatClampNeg x1)) ≤ 0 →
      pX8_otherIn z x1 x3 (fun (r127 : Int32) (z127 : MX) =>
      ((¬ r127 = (-4 : Int32) →
        vp_in (8 : Int32) 125 ∧
        ((¬ (((z127.1 1 (Int32.toNatClampNeg (8 : Int32))) >>> (x3 &&& 31)) &&& (1 : Int32)) = (1 : Int32) →
          ∀ z198 : MX, z198 = mw z127 0 30 x2 →
          ∀ z203 : MX, z203 = mw z198 0 31 x3 →
          ∀ z214 : MX, z214 = mw z203 0 32 (((10 : Int32) * x1) + r127) →
          post z214) ∧
        ((((z127.1 1 (Int32.toNatClampNeg (8 : Int32))) >>> (x3 &&& 31)) &&& (1 : Int32)) = (1 : Int32) →
          ∀ z190 : MX, z190 = mw z127 0 34 ((z127.1 0 34) + (1 : Int32)) →
          post z190))) ∧
      (r127 = (-4 : Int32) →
        vp_in x1 4 ∧
        ∀ z145 : MX, z145 = mw z127 9 (Int32.toNatClampNeg x1) x3 →
        vp_in x1 4 ∧
        ((0 : Int32) = 0 ∨ (0 : Int32) = 1) ∧
        ∀ z152 : MX, z152 = mw z145 11 (Int32.toNatClampNeg x1) (0 : Int32) →
        ∀ z162 : MX, z162 = mw z152 0 35 ((z152.1 0 35) ||| ((1 : Int32) <<< (x3 &&& 31))) →
        post z162)))) ∧
    (¬ (z.1 10 (Int32.toNatClampNeg x1)) ≤ 0 →
      vp_in x1 4 ∧
      vp_in x1 4 ∧
      ∀ z112 : MX, z112 = mw z 10 (Int32.toNatClampNeg x1) ((z.1 10 (Int32.toNatClampNeg x1)) - (1 : Int32)) →
      ∀ z120 : MX, z120 = mw z112 0 33 ((z112.1 0 33) + (1 : Int32)) →
      post z120))
def pX8_moves_b24 (post : MX → Prop) (z : MX) (x1 : Int32) (x2 : Int32) (y0 : Int32) (y1 : Int32) : Prop :=
    ((¬ y0 = y1 →
      pX8_nextBlock z x1 (fun (r45 : Int32) (z45 : MX) =>
      vp_in x1 4 ∧
      ((¬ (z45.1 11 (Int32.toNatClampNeg x1)) = 0 →
        pX8_moves_b94  post z45 x1 x2 r45) ∧
      ((z45.1 11 (Int32.toNatClampNeg x1)) = 0 →
        vp_in x1 4 ∧
        ((1 : Int32) = 0 ∨ (1 : Int32) = 1) ∧
        ∀ z64 : MX, z64 = mw z45 11 (Int32.toNatClampNeg x1) (1 : Int32) →
        vp_in ((9 : Int32) + x1) 125 ∧
        vp_in r45 125 ∧
        vp_in (((5 : Int32) * (z64.1 1 (Int32.toNatClampNeg ((9 : Int32) + x1)))) + (z64.1 1 (Int32.toNatClampNeg r45))) 20 ∧
        vp_in x1 4 ∧
        ∀ z93 : MX, z93 = mw z64 10 (Int32.toNatClampNeg x1) (z64.1 3 (Int32.toNatClampNeg (((5 : Int32) * (z64.1 1 (Int32.toNatClampNeg ((9 : Int32) + x1)))) + (z64.1 1 (Int32.toNatClampNeg r45))))) →
        pX8_moves_b94  post z93 x1 x2 r45)))) ∧
    (y0 = y1 →
      vp_in x1 4 ∧
      ∀ z34 : MX, z34 = mw z 9 (Int32.toNatClampNeg x1) (-4 : Int32) →
      vp_in x1 4 ∧
      ∀ z41 : MX, z41 = mw z34 12 (Int32.toNatClampNeg x1) x2 →
      post z41))
def pX8_moves (z : MX) (x1 : Int32) (x2 : Int32) (post : MX → Prop) : Prop :=
  vp_in x1 4 ∧
  pX8_isUp z x1 (fun (r8 : Int32) (z8 : MX) =>
  ((r8 = 0 →
    pX8_moves_b24  post z8 x1 x2 (z.1 9 (Int32.toNatClampNeg x1)) (0 : Int32)) ∧
  (¬ r8 = 0 →
    pX8_moves_b24  post z8 x1 x2 (z.1 9 (Int32.toNatClampNeg x1)) ((z8.1 0 1) - (1 : Int32)))))
set_option maxHeartbeats 4000000 in
set_option maxRecDepth 100000 in
theorem kX8_moves (l : Launch) (D : va_G) (q : Nat → ClassId) (ad : Nat → Nat) (A : Nat → Prop) (hD : ∀ z, va_D A (WM q ad z)) (z : MX) (x1 : Int32) (x2 : Int32) (post : MX → Prop) (h : pX8_moves  z x1 x2 post) : Met l yX8_moves (cW yX8_moves cX8_moves 5 none) ({ frames := 2, cells := 0, slots := 0, locals := 42 } : Room) (va_Pc [.ref (ad 0), .int x1, .int x2] ((gB D vwCl (WM q ad) (mE D q)) z)) (va_Qv post (gB D vwCl (WM q ad) (mE D q)) A) 0 0 A := by
  refine Met.ofW (cc := cX8_moves) (maxL := 5) (ret := none) (by decide) rfl ?_
  intro p e s m args below meth c s₁ B hml hv
  obtain ⟨hargs, hP, hE⟩ := hv
  have hx := B.exec
  have hb := B.bytes
  have hr := B.returns
  have hts := atoms_spec (ws := (cW yX8_moves cX8_moves 5 none)) B.pre
  have ht : ∀ w ∈ tG, w.before args s = true := fun w h => hts w (List.mem_cons_of_mem _ h)
  have hown : s.vm.findClass RX8 = some m.cls := findClass_of_methodNamed B.named
  have hlocks := B.notSynchronized
  have hK := hE.1
  have hG := mE_G D q A
  have S : CallFix p m c cX8_moves 5 s args tG RX8 := ⟨hx, hb, hml, hown, ht⟩
  have hS : va_S A s.heap s.heap [] := va_S.rf
  have B94 : ∀ (z : MX) (x1 : Int32) (x2 : Int32) (x3 : Int32) (H : Heap) (locs : List Loc) (ls : Array Slot), pX8_moves_b94  post z x1 x2 x3 → va_P D vwCl (WM q ad z) H → va_S A s.heap H locs → lv_has ls 5 [(0, .ref (ad 0)), (1, .int x1), (2, .int x2), (3, .int x3)] → W p l e (headSpec (cW yX8_moves cX8_moves 5 none) ({ frames := 2, cells := 0, slots := 0, locals := 42 } : Room)).room s m args below meth c H locs 0 0 (MQ below (va_Qv post (gB D vwCl (WM q ad) (mE D q)) A) args s 0 0 A) (F0 m 94 ls []) := by
    intro z x1 x2 x3 H locs ls h hP hS hl
    unfold pX8_moves_b94 at h
    refine lv_aload_n hx hb dX8_moves_94 rfl (lv_at hl 0 rfl) ?_
    refine va_get (D := D) (ci := 8) (v := .ref (ad 10)) (C := RX8) (T := TX8) (N := 45) hx hb ht tl_X8 hown hK hP 0 (wm_0 q ad z) rfl 26 (by decide) (ht _ tw_fl_X8_41) (fun _ h9 => h9) rfl dX8_moves_95 ?_
    refine lv_iload_n hx hb dX8_moves_98 rfl (lv_at hl 1 rfl) ?_
    have hi99 := h.1
    have h := h.2
    refine va_iald hx hb hK hP 10 0 (wm_10 q ad z) rfl hi99 dX8_moves_99 ?_
    refine lv_if_le (tgt := 124) hx hb dX8_moves_100 (by decide) (fun c100 => ?_) (fun c100 => ?_)
    · have h := h.1 c100
      refine lv_aload_n hx hb dX8_moves_124 rfl (lv_at hl 0 rfl) ?_
      refine lv_iload_n hx hb dX8_moves_125 rfl (lv_at hl 1 rfl) ?_
      refine lv_iload_n hx hb dX8_moves_126 rfl (lv_at hl 3 rfl) ?_
      refine g_cVi (Wd := WM q ad) (z := z) (As := [.int x1, .int x3]) (rest := []) hG S (kX8_otherIn l D q ad A hD z x1 x3 _ h) (cwV 2 ht (cW_V (fun _ h => h) tw_co_X8_otherIn tw_ml_X8_214 tw_im_X8_otherIn tw_se_X8_otherIn tw_in_X8) rfl rfl rfl (by decide +kernel) ⟨by decide, by decide⟩) (va_recv hK hP (ci := 8) (q0 := 0) rfl (wm_0 q ad z)) hE hP hS rfl hl.1 rfl (Nat.le_of_ble_eq_true rfl) dX8_moves_127 ⟨Nat.zero_le _, Nat.zero_le _⟩ (fun r127 z127 H locs h hP hS => ?_)
      refine lv_istore (lv' := [(4, .int r127), (0, .ref (ad 0)), (1, .int x1), (2, .int x2), (3, .int x3)]) hx hb dX8_moves_130 hl (by decide) rfl (fun ls hl => ?_)
      refine lv_iload hx hb dX8_moves_132 (lv_at hl 0 rfl) ?_
      refine lv_bipush (v := (-4 : Int32)) hx hb dX8_moves_134 (by decide) ?_
      refine lv_icmp_ne (tgt := 168) hx hb dX8_moves_136 (by decide) (fun c136 => ?_) (fun c136 => ?_)
      · have h := h.1 c136
        refine lv_aload_n hx hb dX8_moves_168 rfl (lv_at hl 1 rfl) ?_
        refine va_get (D := D) (ci := 8) (v := .ref (ad 1)) (C := RX8) (T := TX8) (N := 45) hx hb ht tl_X8 hown hK hP 0 (wm_0 q ad z127) rfl 0 (by decide) (ht _ tw_fl_X8_7) (fun _ h9 => h9) rfl dX8_moves_169 ?_
        refine lv_bipush (v := (8 : Int32)) hx hb dX8_moves_172 (by decide) ?_
        have hi174 := h.1
        have h := h.2
        refine va_iald hx hb hK hP 1 0 (wm_1 q ad z127) rfl hi174 dX8_moves_174 ?_
        refine lv_iload_n hx hb dX8_moves_175 rfl (lv_at hl 4 rfl) ?_
        refine lv_ishr hx hb dX8_moves_176 ?_
        refine lv_iconst (v := (1 : Int32)) hx hb dX8_moves_177 (by decide) ?_
        refine lv_iand hx hb dX8_moves_178 ?_
        refine lv_iconst (v := (1 : Int32)) hx hb dX8_moves_179 (by decide) ?_
        refine lv_icmp_ne (tgt := 196) hx hb dX8_moves_180 (by decide) (fun c180 => ?_) (fun c180 => ?_)
        · have h := h.1 c180
          refine lv_aload_n hx hb dX8_moves_196 rfl (lv_at hl 1 rfl) ?_
          refine lv_iload_n hx hb dX8_moves_197 rfl (lv_at hl 3 rfl) ?_
          refine g_put (D := D) (Wd := WM q ad) (z := z127) (ci := 8) (v := .int x2) (ty := .int) (C := RX8) (T := TX8) (N := 45) hx hb ht tl_X8 tyX8 tyX8_ok nmX8 hown hK hP (hD z127) hS 0 (wm_0 q ad z127) rfl 30 (by decide) (ht _ tw_fl_X8_223) (fun _ h9 => h9) rfl rfl rfl rfl (Nat.le_of_ble_eq_true rfl) ((pm_0_30 q ad z127) x2) dX8_moves_198 (fun z198 H locs hz198 hP hS => ?_)
          have h := h z198 hz198
          refine lv_aload_n hx hb dX8_moves_201 rfl (lv_at hl 1 rfl) ?_
          refine lv_iload_n hx hb dX8_moves_202 rfl (lv_at hl 4 rfl) ?_
          refine g_put (D := D) (Wd := WM q ad) (z := z198) (ci := 8) (v := .int x3) (ty := .int) (C := RX8) (T := TX8) (N := 45) hx hb ht tl_X8 tyX8 tyX8_ok nmX8 hown hK hP (hD z198) hS 0 (wm_0 q ad z198) rfl 31 (by decide) (ht _ tw_fl_X8_226) (fun _ h9 => h9) rfl rfl rfl rfl (Nat.le_of_ble_eq_true rfl) ((pm_0_31 q ad z198) x3) dX8_moves_203 (fun z203 H locs hz203 hP hS => ?_)
          have h := h z203 hz203
          refine lv_aload_n hx hb dX8_moves_206 rfl (lv_at hl 1 rfl) ?_
          refine lv_bipush (v := (10 : Int32)) hx hb dX8_moves_207 (by decide) ?_
          refine lv_iload_n hx hb dX8_moves_209 rfl (lv_at hl 2 rfl) ?_
          refine lv_imul hx hb dX8_moves_210 ?_
          refine lv_iload hx hb dX8_moves_211 (lv_at hl 0 rfl) ?_
          refine lv_iadd hx hb dX8_moves_213 ?_
          refine g_put (D := D) (Wd := WM q ad) (z := z203) (ci := 8) (v := .int (((10 : Int32) * x1) + r127)) (ty := .int) (C := RX8) (T := TX8) (N := 45) hx hb ht tl_X8 tyX8 tyX8_ok nmX8 hown hK hP (hD z203) hS 0 (wm_0 q ad z203) rfl 32 (by decide) (ht _ tw_fl_X8_229) (fun _ h9 => h9) rfl rfl rfl rfl (Nat.le_of_ble_eq_true rfl) ((pm_0_32 q ad z203) (((10 : Int32) * x1) + r127)) dX8_moves_214 (fun z214 H locs hz214 hP hS => ?_)
          have h := h z214 hz214
          exact g_rv hG hx hb hr hlocks hE hP hS h dX8_moves_217
        · have h := h.2 c180
          refine lv_aload_n hx hb dX8_moves_183 rfl (lv_at hl 1 rfl) ?_
          refine lv_dup hx hb dX8_moves_184 rfl ?_
          refine va_get (D := D) (ci := 8) (v := .int (z127.1 0 34)) (C := RX8) (T := TX8) (N := 45) hx hb ht tl_X8 hown hK hP 0 (wm_0 q ad z127) rfl 34 (by decide) (ht _ tw_fl_X8_220) (fun _ h9 => h9) rfl dX8_moves_185 ?_
          refine lv_iconst (v := (1 : Int32)) hx hb dX8_moves_188 (by decide) ?_
          refine lv_iadd hx hb dX8_moves_189 ?_
          refine g_put (D := D) (Wd := WM q ad) (z := z127) (ci := 8) (v := .int ((z127.1 0 34) + (1 : Int32))) (ty := .int) (C := RX8) (T := TX8) (N := 45) hx hb ht tl_X8 tyX8 tyX8_ok nmX8 hown hK hP (hD z127) hS 0 (wm_0 q ad z127) rfl 34 (by decide) (ht _ tw_fl_X8_220) (fun _ h9 => h9) rfl rfl rfl rfl (Nat.le_of_ble_eq_true rfl) ((pm_0_34 q ad z127) ((z127.1 0 34) + (1 : Int32))) dX8_moves_190 (fun z190 H locs hz190 hP hS => ?_)
          have h := h z190 hz190
          refine lv_goto (tgt := 217) hx hb dX8_moves_193 (by decide) ?_
          exact g_rv hG hx hb hr hlocks hE hP hS h dX8_moves_217
      · have h := h.2 c136
        refine lv_aload_n hx hb dX8_moves_139 rfl (lv_at hl 1 rfl) ?_
        refine va_get (D := D) (ci := 8) (v := .ref (ad 9)) (C := RX8) (T := TX8) (N := 45) hx hb ht tl_X8 hown hK hP 0 (wm_0 q ad z127) rfl 25 (by decide) (ht _ tw_fl_X8_38) (fun _ h9 => h9) rfl dX8_moves_140 ?_
        refine lv_iload_n hx hb dX8_moves_143 rfl (lv_at hl 2 rfl) ?_
        refine lv_iload_n hx hb dX8_moves_144 rfl (lv_at hl 4 rfl) ?_
        have hi145 := h.1
        have h := h.2
        refine g_iast (Wd := WM q ad) (z := z127) hx hb hK hP (hD z127) hS 9 (wm_9 q ad z127) rfl (am_9 q ad z127) hi145 dX8_moves_145 (fun z145 H locs hz145 hP hS => ?_)
        have h := h z145 hz145
        refine lv_aload_n hx hb dX8_moves_146 rfl (lv_at hl 1 rfl) ?_
        refine va_get (D := D) (ci := 8) (v := .ref (ad 11)) (C := RX8) (T := TX8) (N := 45) hx hb ht tl_X8 hown hK hP 0 (wm_0 q ad z145) rfl 27 (by decide) (ht _ tw_fl_X8_44) (fun _ h9 => h9) rfl dX8_moves_147 ?_
        refine lv_iload_n hx hb dX8_moves_150 rfl (lv_at hl 2 rfl) ?_
        refine lv_iconst (v := (0 : Int32)) hx hb dX8_moves_151 (by decide) ?_
        have hi152 := h.1
        have h := h.2
        have hb152 := h.1
        have h := h.2
        refine g_zast (Wd := WM q ad) (z := z145) hx hb hK hP (hD z145) hS 11 (wm_11 q ad z145) rfl (am_11 q ad z145) hi152 hb152 dX8_moves_152 (fun z152 H locs hz152 hP hS => ?_)
        have h := h z152 hz152
        refine lv_aload_n hx hb dX8_moves_153 rfl (lv_at hl 1 rfl) ?_
        refine lv_dup hx hb dX8_moves_154 rfl ?_
        refine va_get (D := D) (ci := 8) (v := .int (z152.1 0 35)) (C := RX8) (T := TX8) (N := 45) hx hb ht tl_X8 hown hK hP 0 (wm_0 q ad z152) rfl 35 (by decide) (ht _ tw_fl_X8_217) (fun _ h9 => h9) rfl dX8_moves_155 ?_
        refine lv_iconst (v := (1 : Int32)) hx hb dX8_moves_158 (by decide) ?_
        refine lv_iload_n hx hb dX8_moves_159 rfl (lv_at hl 4 rfl) ?_
        refine lv_ishl hx hb dX8_moves_160 ?_
        refine lv_ior hx hb dX8_moves_161 ?_
        refine g_put (D := D) (Wd := WM q ad) (z := z152) (ci := 8) (v := .int ((z152.1 0 35) ||| ((1 : Int32) <<< (x3 &&& 31)))) (ty := .int) (C := RX8) (T := TX8) (N := 45) hx hb ht tl_X8 tyX8 tyX8_ok nmX8 hown hK hP (hD z152) hS 0 (wm_0 q ad z152) rfl 35 (by decide) (ht _ tw_fl_X8_217) (fun _ h9 => h9) rfl rfl rfl rfl (Nat.le_of_ble_eq_true rfl) ((pm_0_35 q ad z152) ((z152.1 0 35) ||| ((1 : Int32) <<< (x3 &&& 31)))) dX8_moves_162 (fun z162 H locs hz162 hP hS => ?_)
        have h := h z162 hz162
        refine lv_goto (tgt := 217) hx hb dX8_moves_165 (by decide) ?_
        exact g_rv hG hx hb hr hlocks hE hP hS h dX8_moves_217
    · have h := h.2 c100
      refine lv_aload_n hx hb dX8_moves_103 rfl (lv_at hl 0 rfl) ?_
      refine va_get (D := D) (ci := 8) (v := .ref (ad 10)) (C := RX8) (T := TX8) (N := 45) hx hb ht tl_X8 hown hK hP 0 (wm_0 q ad z) rfl 26 (by decide) (ht _ tw_fl_X8_41) (fun _ h9 => h9) rfl dX8_moves_104 ?_
      refine lv_iload_n hx hb dX8_moves_107 rfl (lv_at hl 1 rfl) ?_
      refine lv_dup2_11 hx hb dX8_moves_108 rfl rfl ?_
      have hi109 := h.1
      have h := h.2
      refine va_iald hx hb hK hP 10 0 (wm_10 q ad z) rfl hi109 dX8_moves_109 ?_
      refine lv_iconst (v := (1 : Int32)) hx hb dX8_moves_110 (by decide) ?_
      refine lv_isub hx hb dX8_moves_111 ?_
      have hi112 := h.1
      have h := h.2
      refine g_iast (Wd := WM q ad) (z := z) hx hb hK hP (hD z) hS 10 (wm_10 q ad z) rfl (am_10 q ad z) hi112 dX8_moves_112 (fun z112 H locs hz112 hP hS => ?_)
      have h := h z112 hz112
      refine lv_aload_n hx hb dX8_moves_113 rfl (lv_at hl 0 rfl) ?_
      refine lv_dup hx hb dX8_moves_114 rfl ?_
      refine va_get (D := D) (ci := 8) (v := .int (z112.1 0 33)) (C := RX8) (T := TX8) (N := 45) hx hb ht tl_X8 hown hK hP 0 (wm_0 q ad z112) rfl 33 (by decide) (ht _ tw_fl_X8_211) (fun _ h9 => h9) rfl dX8_moves_115 ?_
      refine lv_iconst (v := (1 : Int32)) hx hb dX8_moves_118 (by decide) ?_
      refine lv_iadd hx hb dX8_moves_119 ?_
      refine g_put (D := D) (Wd := WM q ad) (z := z112) (ci := 8) (v := .int ((z112.1 0 33) + (1 : Int32))) (ty := .int) (C := RX8) (T := TX8) (N := 45) hx hb ht tl_X8 tyX8 tyX8_ok nmX8 hown hK hP (hD z112) hS 0 (wm_0 q ad z112) rfl 33 (by decide) (ht _ tw_fl_X8_211) (fun _ h9 => h9) rfl rfl rfl rfl (Nat.le_of_ble_eq_true rfl) ((pm_0_33 q ad z112) ((z112.1 0 33) + (1 : Int32))) dX8_moves_120 (fun z120 H locs hz120 hP hS => ?_)
      have h := h z120 hz120
      exact g_rv hG hx hb hr hlocks hE hP hS h dX8_moves_123
  have B24 : ∀ (z : MX) (x1 : Int32) (x2 : Int32) (y0 : Int32) (y1 : Int32) (H : Heap) (locs : List Loc) (ls : Array Slot), pX8_moves_b24  post z x1 x2 y0 y1 → va_P D vwCl (WM q ad z) H → va_S A s.heap H locs → lv_has ls 5 [(0, .ref (ad 0)), (1, .int x1), (2, .int x2)] → W p l e (headSpec (cW yX8_moves cX8_moves 5 none) ({ frames := 2, cells := 0, slots := 0, locals := 42 } : Room)).room s m args below meth c H locs 0 0 (MQ below (va_Qv post (gB D vwCl (WM q ad) (mE D q)) A) args s 0 0 A) (F0 m 24 ls [.int y1, .int y0]) := by
    intro z x1 x2 y0 y1 H locs ls h hP hS hl
    unfold pX8_moves_b24 at h
    refine lv_icmp_ne (tgt := 43) hx hb dX8_moves_24 (by decide) (fun c24 => ?_) (fun c24 => ?_)
    · have h := h.1 c24
      refine lv_aload_n hx hb dX8_moves_43 rfl (lv_at hl 0 rfl) ?_
      refine lv_iload_n hx hb dX8_moves_44 rfl (lv_at hl 1 rfl) ?_
      refine g_cVi (Wd := WM q ad) (z := z) (As := [.int x1]) (rest := []) hG S (kX8_nextBlock l D q ad A hD z x1 _ h) (cwV 1 ht (cW_V (fun _ h => h) tw_co_X8_nextBlock tw_ml_X8_208 tw_im_X8_nextBlock tw_se_X8_nextBlock tw_in_X8) rfl rfl rfl (by decide +kernel) ⟨by decide, by decide⟩) (va_recv hK hP (ci := 8) (q0 := 0) rfl (wm_0 q ad z)) hE hP hS rfl hl.1 rfl (Nat.le_of_ble_eq_true rfl) dX8_moves_45 ⟨Nat.zero_le _, Nat.zero_le _⟩ (fun r45 z45 H locs h hP hS => ?_)
      refine lv_istore_n (lv' := [(3, .int r45), (0, .ref (ad 0)), (1, .int x1), (2, .int x2)]) hx hb dX8_moves_48 rfl hl (by decide) rfl (fun ls hl => ?_)
      refine lv_aload_n hx hb dX8_moves_49 rfl (lv_at hl 1 rfl) ?_
      refine va_get (D := D) (ci := 8) (v := .ref (ad 11)) (C := RX8) (T := TX8) (N := 45) hx hb ht tl_X8 hown hK hP 0 (wm_0 q ad z45) rfl 27 (by decide) (ht _ tw_fl_X8_44) (fun _ h9 => h9) rfl dX8_moves_50 ?_
      refine lv_iload_n hx hb dX8_moves_53 rfl (lv_at hl 2 rfl) ?_
      have hi54 := h.1
      have h := h.2
      refine va_zald hx hb hK hP 11 1 (wm_11 q ad z45) rfl hi54 dX8_moves_54 ?_
      refine lv_if_ne (tgt := 94) hx hb dX8_moves_55 (by decide) (fun c55 => ?_) (fun c55 => ?_)
      · have h := h.1 c55
        exact B94 z45 x1 x2 r45 _ _ _ h hP hS (lv_sub hl [1, 2, 3, 0] rfl)
      · have h := h.2 c55
        refine lv_aload_n hx hb dX8_moves_58 rfl (lv_at hl 1 rfl) ?_
        refine va_get (D := D) (ci := 8) (v := .ref (ad 11)) (C := RX8) (T := TX8) (N := 45) hx hb ht tl_X8 hown hK hP 0 (wm_0 q ad z45) rfl 27 (by decide) (ht _ tw_fl_X8_44) (fun _ h9 => h9) rfl dX8_moves_59 ?_
        refine lv_iload_n hx hb dX8_moves_62 rfl (lv_at hl 2 rfl) ?_
        refine lv_iconst (v := (1 : Int32)) hx hb dX8_moves_63 (by decide) ?_
        have hi64 := h.1
        have h := h.2
        have hb64 := h.1
        have h := h.2
        refine g_zast (Wd := WM q ad) (z := z45) hx hb hK hP (hD z45) hS 11 (wm_11 q ad z45) rfl (am_11 q ad z45) hi64 hb64 dX8_moves_64 (fun z64 H locs hz64 hP hS => ?_)
        have h := h z64 hz64
        refine lv_aload_n hx hb dX8_moves_65 rfl (lv_at hl 1 rfl) ?_
        refine va_get (D := D) (ci := 8) (v := .ref (ad 10)) (C := RX8) (T := TX8) (N := 45) hx hb ht tl_X8 hown hK hP 0 (wm_0 q ad z64) rfl 26 (by decide) (ht _ tw_fl_X8_41) (fun _ h9 => h9) rfl dX8_moves_66 ?_
        refine lv_iload_n hx hb dX8_moves_69 rfl (lv_at hl 2 rfl) ?_
        refine lv_aload_n hx hb dX8_moves_70 rfl (lv_at hl 1 rfl) ?_
        refine va_get (D := D) (ci := 8) (v := .ref (ad 3)) (C := RX8) (T := TX8) (N := 45) hx hb ht tl_X8 hown hK hP 0 (wm_0 q ad z64) rfl 5 (by decide) (ht _ tw_fl_X8_20) (fun _ h9 => h9) rfl dX8_moves_71 ?_
        refine lv_iconst (v := (5 : Int32)) hx hb dX8_moves_74 (by decide) ?_
        refine lv_aload_n hx hb dX8_moves_75 rfl (lv_at hl 1 rfl) ?_
        refine va_get (D := D) (ci := 8) (v := .ref (ad 1)) (C := RX8) (T := TX8) (N := 45) hx hb ht tl_X8 hown hK hP 0 (wm_0 q ad z64) rfl 0 (by decide) (ht _ tw_fl_X8_7) (fun _ h9 => h9) rfl dX8_moves_76 ?_
        refine lv_bipush (v := (9 : Int32)) hx hb dX8_moves_79 (by decide) ?_
        refine lv_iload_n hx hb dX8_moves_81 rfl (lv_at hl 2 rfl) ?_
        refine lv_iadd hx hb dX8_moves_82 ?_
        have hi83 := h.1
        have h := h.2
        refine va_iald hx hb hK hP 1 0 (wm_1 q ad z64) rfl hi83 dX8_moves_83 ?_
        refine lv_imul hx hb dX8_moves_84 ?_
        refine lv_aload_n hx hb dX8_moves_85 rfl (lv_at hl 1 rfl) ?_
        refine va_get (D := D) (ci := 8) (v := .ref (ad 1)) (C := RX8) (T := TX8) (N := 45) hx hb ht tl_X8 hown hK hP 0 (wm_0 q ad z64) rfl 0 (by decide) (ht _ tw_fl_X8_7) (fun _ h9 => h9) rfl dX8_moves_86 ?_
        refine lv_iload_n hx hb dX8_moves_89 rfl (lv_at hl 0 rfl) ?_
        have hi90 := h.1
        have h := h.2
        refine va_iald hx hb hK hP 1 0 (wm_1 q ad z64) rfl hi90 dX8_moves_90 ?_
        refine lv_iadd hx hb dX8_moves_91 ?_
        have hi92 := h.1
        have h := h.2
        refine va_iald hx hb hK hP 3 0 (wm_3 q ad z64) rfl hi92 dX8_moves_92 ?_
        have hi93 := h.1
        have h := h.2
        refine g_iast (Wd := WM q ad) (z := z64) hx hb hK hP (hD z64) hS 10 (wm_10 q ad z64) rfl (am_10 q ad z64) hi93 dX8_moves_93 (fun z93 H locs hz93 hP hS => ?_)
        have h := h z93 hz93
        exact B94 z93 x1 x2 r45 _ _ _ h hP hS (lv_sub hl [1, 2, 3, 0] rfl)
    · have h := h.2 c24
      refine lv_aload_n hx hb dX8_moves_27 rfl (lv_at hl 0 rfl) ?_
      refine va_get (D := D) (ci := 8) (v := .ref (ad 9)) (C := RX8) (T := TX8) (N := 45) hx hb ht tl_X8 hown hK hP 0 (wm_0 q ad z) rfl 25 (by decide) (ht _ tw_fl_X8_38) (fun _ h9 => h9) rfl dX8_moves_28 ?_
      refine lv_iload_n hx hb dX8_moves_31 rfl (lv_at hl 1 rfl) ?_
      refine lv_bipush (v := (-4 : Int32)) hx hb dX8_moves_32 (by decide) ?_
      have hi34 := h.1
      have h := h.2
      refine g_iast (Wd := WM q ad) (z := z) hx hb hK hP (hD z) hS 9 (wm_9 q ad z) rfl (am_9 q ad z) hi34 dX8_moves_34 (fun z34 H locs hz34 hP hS => ?_)
      have h := h z34 hz34
      refine lv_aload_n hx hb dX8_moves_35 rfl (lv_at hl 0 rfl) ?_
      refine va_get (D := D) (ci := 8) (v := .ref (ad 12)) (C := RX8) (T := TX8) (N := 45) hx hb ht tl_X8 hown hK hP 0 (wm_0 q ad z34) rfl 28 (by decide) (ht _ tw_fl_X8_48) (fun _ h9 => h9) rfl dX8_moves_36 ?_
      refine lv_iload_n hx hb dX8_moves_39 rfl (lv_at hl 1 rfl) ?_
      refine lv_iload_n hx hb dX8_moves_40 rfl (lv_at hl 2 rfl) ?_
      have hi41 := h.1
      have h := h.2
      refine g_iast (Wd := WM q ad) (z := z34) hx hb hK hP (hD z34) hS 12 (wm_12 q ad z34) rfl (am_12 q ad z34) hi41 dX8_moves_41 (fun z41 H locs hz41 hP hS => ?_)
      have h := h z41 hz41
      exact g_rv hG hx hb hr hlocks hE hP hS h dX8_moves_42
  refine g_entry (vs := [.ref (ad 0), .int x1, .int x2]) hargs (Nat.le_of_ble_eq_true rfl) (fun ls hl => ?_)
  have hl : lv_has ls 5 [(0, .ref (ad 0)), (1, .int x1), (2, .int x2)] := hl
  unfold pX8_moves at h
  refine lv_aload_n hx hb dX8_moves_0 rfl (lv_at hl 0 rfl) ?_
  refine va_get (D := D) (ci := 8) (v := .ref (ad 9)) (C := RX8) (T := TX8) (N := 45) hx hb ht tl_X8 hown hK hP 0 (wm_0 q ad z) rfl 25 (by decide) (ht _ tw_fl_X8_38) (fun _ h9 => h9) rfl dX8_moves_1 ?_
  refine lv_iload_n hx hb dX8_moves_4 rfl (lv_at hl 1 rfl) ?_
  have hi5 := h.1
  have h := h.2
  refine va_iald hx hb hK hP 9 0 (wm_9 q ad z) rfl hi5 dX8_moves_5 ?_
  refine lv_aload_n hx hb dX8_moves_6 rfl (lv_at hl 0 rfl) ?_
  refine lv_iload_n hx hb dX8_moves_7 rfl (lv_at hl 1 rfl) ?_
  refine g_cVi (Wd := WM q ad) (z := z) (As := [.int x1]) (rest := [.int (z.1 9 (Int32.toNatClampNeg x1))]) hG S (kX8_isUp l D q ad A hD z x1 _ h) (cwV 1 ht (cW_V (fun _ h => h) tw_co_X8_isUp tw_ml_X8_205 tw_im_X8_isUp tw_se_X8_isUp tw_in_X8) rfl rfl rfl (by decide +kernel) ⟨by decide, by decide⟩) (va_recv hK hP (ci := 8) (q0 := 0) rfl (wm_0 q ad z)) hE hP hS rfl hl.1 rfl (Nat.le_of_ble_eq_true rfl) dX8_moves_8 ⟨Nat.zero_le _, Nat.zero_le _⟩ (fun r8 z8 H locs h hP hS => ?_)
  refine lv_if_eq (tgt := 23) hx hb dX8_moves_11 (by decide) (fun c11 => ?_) (fun c11 => ?_)
  · have h := h.1 c11
    refine lv_iconst (v := (0 : Int32)) hx hb dX8_moves_23 (by decide) ?_
    exact B24 z8 x1 x2 (z.1 9 (Int32.toNatClampNeg x1)) (0 : Int32) _ _ _ h hP hS (lv_sub hl [0, 1, 2] rfl)
  · have h := h.2 c11
    refine lv_aload_n hx hb dX8_moves_14 rfl (lv_at hl 0 rfl) ?_
    refine va_get (D := D) (ci := 8) (v := .int (z8.1 0 1)) (C := RX8) (T := TX8) (N := 45) hx hb ht tl_X8 hown hK hP 0 (wm_0 q ad z8) rfl 1 (by decide) (ht _ tw_fl_X8_13) (fun _ h9 => h9) rfl dX8_moves_15 ?_
    refine lv_iconst (v := (1 : Int32)) hx hb dX8_moves_18 (by decide) ?_
    refine lv_isub hx hb dX8_moves_19 ?_
    refine lv_goto (tgt := 24) hx hb dX8_moves_20 (by decide) ?_
    exact B24 z8 x1 x2 (z.1 9 (Int32.toNatClampNeg x1)) ((z8.1 0 1) - (1 : Int32)) _ _ _ h hP hS (lv_sub hl [0, 1, 2] rfl)
def pX8_run_l141 (rec78 : MX → Int32 → Prop) (rec141 : MX → Int32 → Int32 → Prop) (post : MX → Prop) (z : MX) (x1 : Int32) (x2 : Int32) : Prop :=
    (((z.1 0 2) ≤ x2 →
      ∀ x1_171 : Int32, x1_171 = x1 + (1 : Int32) →
      rec78 z x1_171) ∧
    (¬ (z.1 0 2) ≤ x2 →
      vp_in x2 4 ∧
      vp_in (((4 : Int32) * x1) + x2) 480 ∧
      ∀ z164 : MX, z164 = mw z 13 (Int32.toNatClampNeg (((4 : Int32) * x1) + x2)) (z.1 9 (Int32.toNatClampNeg x2)) →
      ∀ x2_165 : Int32, x2_165 = x2 + (1 : Int32) →
      rec141 z164 x1 x2_165))
def pX8_run_L141 (rec78 : MX → Int32 → Prop) (post : MX → Prop) : Nat → MX → Int32 → Int32 → Prop
  | 0 => fun _ _ _ => False
  | n + 1 => fun z x1 x2 => pX8_run_l141  rec78 (pX8_run_L141  rec78 post n) post z x1 x2
def pX8_run_b133 (rec78 : MX → Int32 → Prop) (rec86 : MX → Int32 → Int32 → Prop) (post : MX → Prop) (z : MX) (x1 : Int32) (x2 : Int32) : Prop :=
    ∀ x2_133 : Int32, x2_133 = x2 + (1 : Int32) →
    rec86 z x1 x2_133
def pX8_run_l86 (rec78 : MX → Int32 → Prop) (rec86 : MX → Int32 → Int32 → Prop) (post : MX → Prop) (z : MX) (x1 : Int32) (x2 : Int32) : Prop :=
    (((z.1 0 2) ≤ x2 →
      ∃ n, pX8_run_L141  rec78 post n z x1 (0 : Int32)) ∧
    (¬ (z.1 0 2) ≤ x2 →
      ((¬ (z.1 0 30) = (-4 : Int32) →
        pX8_run_b133  rec78 rec86 post z x1 x2) ∧
      ((z.1 0 30) = (-4 : Int32) →
        vp_in x2 4 ∧
        ((¬ (z.1 12 (Int32.toNatClampNeg x2)) = (-4 : Int32) →
          pX8_run_b133  rec78 rec86 post z x1 x2) ∧
        ((z.1 12 (Int32.toNatClampNeg x2)) = (-4 : Int32) →
          vp_in ((17 : Int32) + x2) 125 ∧
          ((x1 < (z.1 1 (Int32.toNatClampNeg ((17 : Int32) + x2))) →
            pX8_run_b133  rec78 rec86 post z x1 x2) ∧
          (¬ x1 < (z.1 1 (Int32.toNatClampNeg ((17 : Int32) + x2))) →
            pX8_moves z x2 x1 (fun (z130 : MX) =>
            pX8_run_b133  rec78 rec86 post z130 x1 x2)))))))))
def pX8_run_L86 (rec78 : MX → Int32 → Prop) (post : MX → Prop) : Nat → MX → Int32 → Int32 → Prop
  | 0 => fun _ _ _ => False
  | n + 1 => fun z x1 x2 => pX8_run_l86  rec78 (pX8_run_L86  rec78 post n) post z x1 x2
def pX8_run_l78 (rec78 : MX → Int32 → Prop) (post : MX → Prop) (z : MX) (x1 : Int32) : Prop :=
    (((119 : Int32) < x1 →
      post z) ∧
    (¬ (119 : Int32) < x1 →
      ∃ n, pX8_run_L86  rec78 post n z x1 (0 : Int32)))
def pX8_run_L78 (post : MX → Prop) : Nat → MX → Int32 → Prop
  | 0 => fun _ _ => False
  | n + 1 => fun z x1 => pX8_run_l78  (pX8_run_L78  post n) post z x1
def pX8_run_l35 (rec35 : MX → Int32 → Prop) (post : MX → Prop) (z : MX) (x1 : Int32) : Prop :=
    (((4 : Int32) ≤ x1 →
      ∃ n, pX8_run_L78  post n z (0 : Int32)) ∧
    (¬ (4 : Int32) ≤ x1 →
      vp_in x1 4 ∧
      ∀ z47 : MX, z47 = mw z 9 (Int32.toNatClampNeg x1) (-4 : Int32) →
      vp_in x1 4 ∧
      ∀ z54 : MX, z54 = mw z47 10 (Int32.toNatClampNeg x1) (0 : Int32) →
      vp_in x1 4 ∧
      ((0 : Int32) = 0 ∨ (0 : Int32) = 1) ∧
      ∀ z61 : MX, z61 = mw z54 11 (Int32.toNatClampNeg x1) (0 : Int32) →
      vp_in x1 4 ∧
      ∀ z69 : MX, z69 = mw z61 12 (Int32.toNatClampNeg x1) (-4 : Int32) →
      ∀ x1_70 : Int32, x1_70 = x1 + (1 : Int32) →
      rec35 z69 x1_70))
def pX8_run_L35 (post : MX → Prop) : Nat → MX → Int32 → Prop
  | 0 => fun _ _ => False
  | n + 1 => fun z x1 => pX8_run_l35  (pX8_run_L35  post n) post z x1
def pX8_run (z : MX) (post : MX → Prop) : Prop :=
  ∀ z3 : MX, z3 = mw z 0 30 (-4 : Int32) →
  ∀ z9 : MX, z9 = mw z3 0 31 (-4 : Int32) →
  ∀ z15 : MX, z15 = mw z9 0 32 (-4 : Int32) →
  ∀ z20 : MX, z20 = mw z15 0 33 (0 : Int32) →
  ∀ z25 : MX, z25 = mw z20 0 34 (0 : Int32) →
  ∀ z30 : MX, z30 = mw z25 0 35 (0 : Int32) →
  ∃ n, pX8_run_L35  post n z30 (0 : Int32)
set_option maxHeartbeats 4000000 in
set_option maxRecDepth 100000 in
theorem kX8_run (l : Launch) (D : va_G) (q : Nat → ClassId) (ad : Nat → Nat) (A : Nat → Prop) (hD : ∀ z, va_D A (WM q ad z)) (z : MX) (post : MX → Prop) (h : pX8_run  z post) : Met l yX8_run (cW yX8_run cX8_run 3 none) ({ frames := 3, cells := 0, slots := 0, locals := 66 } : Room) (va_Pc [.ref (ad 0)] ((gB D vwCl (WM q ad) (mE D q)) z)) (va_Qv post (gB D vwCl (WM q ad) (mE D q)) A) 0 0 A := by
  refine Met.ofW (cc := cX8_run) (maxL := 3) (ret := none) (by decide) rfl ?_
  intro p e s m args below meth c s₁ B hml hv
  obtain ⟨hargs, hP, hE⟩ := hv
  have hx := B.exec
  have hb := B.bytes
  have hr := B.returns
  have hts := atoms_spec (ws := (cW yX8_run cX8_run 3 none)) B.pre
  have ht : ∀ w ∈ tG, w.before args s = true := fun w h => hts w (List.mem_cons_of_mem _ h)
  have hown : s.vm.findClass RX8 = some m.cls := findClass_of_methodNamed B.named
  have hlocks := B.notSynchronized
  have hK := hE.1
  have hG := mE_G D q A
  have S : CallFix p m c cX8_run 3 s args tG RX8 := ⟨hx, hb, hml, hown, ht⟩
  have hS : va_S A s.heap s.heap [] := va_S.rf
  have B141 : ∀ (rec78 : MX → Int32 → Prop) (rec141 : MX → Int32 → Int32 → Prop) (hrec78 : ∀ (z : MX) (x1 : Int32) (H : Heap) (locs : List Loc) (ls : Array Slot), rec78 z x1 → va_P D vwCl (WM q ad z) H → va_S A s.heap H locs → lv_has ls 3 [(0, .ref (ad 0)), (1, .int x1)] → W p l e (headSpec (cW yX8_run cX8_run 3 none) ({ frames := 3, cells := 0, slots := 0, locals := 66 } : Room)).room s m args below meth c H locs 0 0 (MQ below (va_Qv post (gB D vwCl (WM q ad) (mE D q)) A) args s 0 0 A) (F0 m 78 ls [])) (hrec141 : ∀ (z : MX) (x1 : Int32) (x2 : Int32) (H : Heap) (locs : List Loc) (ls : Array Slot), rec141 z x1 x2 → va_P D vwCl (WM q ad z) H → va_S A s.heap H locs → lv_has ls 3 [(0, .ref (ad 0)), (1, .int x1), (2, .int x2)] → W p l e (headSpec (cW yX8_run cX8_run 3 none) ({ frames := 3, cells := 0, slots := 0, locals := 66 } : Room)).room s m args below meth c H locs 0 0 (MQ below (va_Qv post (gB D vwCl (WM q ad) (mE D q)) A) args s 0 0 A) (F0 m 141 ls [])) (z : MX) (x1 : Int32) (x2 : Int32) (H : Heap) (locs : List Loc) (ls : Array Slot), pX8_run_l141  rec78 rec141 post z x1 x2 → va_P D vwCl (WM q ad z) H → va_S A s.heap H locs → lv_has ls 3 [(0, .ref (ad 0)), (1, .int x1), (2, .int x2)] → W p l e (headSpec (cW yX8_run cX8_run 3 none) ({ frames := 3, cells := 0, slots := 0, locals := 66 } : Room)).room s m args below meth c H locs 0 0 (MQ below (va_Qv post (gB D vwCl (WM q ad) (mE D q)) A) args s 0 0 A) (F0 m 141 ls []) := by
    intro rec78 rec141 hrec78 hrec141 z x1 x2 H locs ls h hP hS hl
    unfold pX8_run_l141 at h
    refine lv_iload_n hx hb dX8_run_141 rfl (lv_at hl 2 rfl) ?_
    refine lv_aload_n hx hb dX8_run_142 rfl (lv_at hl 0 rfl) ?_
    refine va_get (D := D) (ci := 8) (v := .int (z.1 0 2)) (C := RX8) (T := TX8) (N := 45) hx hb ht tl_X8 hown hK hP 0 (wm_0 q ad z) rfl 2 (by decide) (ht _ tw_fl_X8_173) (fun _ h9 => h9) rfl dX8_run_143 ?_
    refine lv_icmp_ge (tgt := 171) hx hb dX8_run_146 (by decide) (fun c146 => ?_) (fun c146 => ?_)
    · have h := h.1 c146
      obtain ⟨x1_171, ex1_171⟩ : ∃ w : Int32, w = x1 + (1 : Int32) := ⟨_, rfl⟩
      have h := h x1_171 ex1_171
      refine lv_iinc (v := x1_171) (lv' := [(1, .int x1_171), (0, .ref (ad 0)), (2, .int x2)]) hx hb dX8_run_171 hl (k := 1) rfl (by rw [ex1_171]; rfl) (by decide) rfl (fun ls hl => ?_)
      refine lv_goto (tgt := 78) hx hb dX8_run_174 (by decide) ?_
      exact hrec78 z x1_171 _ _ _ h hP hS (lv_sub hl [1, 0] rfl)
    · have h := h.2 c146
      refine lv_aload_n hx hb dX8_run_149 rfl (lv_at hl 0 rfl) ?_
      refine va_get (D := D) (ci := 8) (v := .ref (ad 13)) (C := RX8) (T := TX8) (N := 45) hx hb ht tl_X8 hown hK hP 0 (wm_0 q ad z) rfl 29 (by decide) (ht _ tw_fl_X8_51) (fun _ h9 => h9) rfl dX8_run_150 ?_
      refine lv_iconst (v := (4 : Int32)) hx hb dX8_run_153 (by decide) ?_
      refine lv_iload_n hx hb dX8_run_154 rfl (lv_at hl 1 rfl) ?_
      refine lv_imul hx hb dX8_run_155 ?_
      refine lv_iload_n hx hb dX8_run_156 rfl (lv_at hl 2 rfl) ?_
      refine lv_iadd hx hb dX8_run_157 ?_
      refine lv_aload_n hx hb dX8_run_158 rfl (lv_at hl 0 rfl) ?_
      refine va_get (D := D) (ci := 8) (v := .ref (ad 9)) (C := RX8) (T := TX8) (N := 45) hx hb ht tl_X8 hown hK hP 0 (wm_0 q ad z) rfl 25 (by decide) (ht _ tw_fl_X8_38) (fun _ h9 => h9) rfl dX8_run_159 ?_
      refine lv_iload_n hx hb dX8_run_162 rfl (lv_at hl 2 rfl) ?_
      have hi163 := h.1
      have h := h.2
      refine va_iald hx hb hK hP 9 0 (wm_9 q ad z) rfl hi163 dX8_run_163 ?_
      have hi164 := h.1
      have h := h.2
      refine g_iast (Wd := WM q ad) (z := z) hx hb hK hP (hD z) hS 13 (wm_13 q ad z) rfl (am_13 q ad z) hi164 dX8_run_164 (fun z164 H locs hz164 hP hS => ?_)
      have h := h z164 hz164
      obtain ⟨x2_165, ex2_165⟩ : ∃ w : Int32, w = x2 + (1 : Int32) := ⟨_, rfl⟩
      have h := h x2_165 ex2_165
      refine lv_iinc (v := x2_165) (lv' := [(2, .int x2_165), (0, .ref (ad 0)), (1, .int x1)]) hx hb dX8_run_165 hl (k := 2) rfl (by rw [ex2_165]; rfl) (by decide) rfl (fun ls hl => ?_)
      refine lv_goto (tgt := 141) hx hb dX8_run_168 (by decide) ?_
      exact hrec141 z164 x1 x2_165 _ _ _ h hP hS (lv_sub hl [1, 2, 0] rfl)
  have L141 : ∀ (rec78 : MX → Int32 → Prop) (hrec78 : ∀ (z : MX) (x1 : Int32) (H : Heap) (locs : List Loc) (ls : Array Slot), rec78 z x1 → va_P D vwCl (WM q ad z) H → va_S A s.heap H locs → lv_has ls 3 [(0, .ref (ad 0)), (1, .int x1)] → W p l e (headSpec (cW yX8_run cX8_run 3 none) ({ frames := 3, cells := 0, slots := 0, locals := 66 } : Room)).room s m args below meth c H locs 0 0 (MQ below (va_Qv post (gB D vwCl (WM q ad) (mE D q)) A) args s 0 0 A) (F0 m 78 ls [])) (n : Nat) (z : MX) (x1 : Int32) (x2 : Int32) (H : Heap) (locs : List Loc) (ls : Array Slot), pX8_run_L141  rec78 post n z x1 x2 → va_P D vwCl (WM q ad z) H → va_S A s.heap H locs → lv_has ls 3 [(0, .ref (ad 0)), (1, .int x1), (2, .int x2)] → W p l e (headSpec (cW yX8_run cX8_run 3 none) ({ frames := 3, cells := 0, slots := 0, locals := 66 } : Room)).room s m args below meth c H locs 0 0 (MQ below (va_Qv post (gB D vwCl (WM q ad) (mE D q)) A) args s 0 0 A) (F0 m 141 ls []) := by
    intro rec78 hrec78 n
    induction n with
    | zero =>
      intro z x1 x2 H locs ls h
      exact False.elim h
    | succ n ih =>
      intro z x1 x2 H locs ls h hP hS hl
      exact B141 rec78 (pX8_run_L141  rec78 post n) hrec78 ih z x1 x2 H locs ls h hP hS hl
  have B133 : ∀ (rec78 : MX → Int32 → Prop) (rec86 : MX → Int32 → Int32 → Prop) (hrec78 : ∀ (z : MX) (x1 : Int32) (H : Heap) (locs : List Loc) (ls : Array Slot), rec78 z x1 → va_P D vwCl (WM q ad z) H → va_S A s.heap H locs → lv_has ls 3 [(0, .ref (ad 0)), (1, .int x1)] → W p l e (headSpec (cW yX8_run cX8_run 3 none) ({ frames := 3, cells := 0, slots := 0, locals := 66 } : Room)).room s m args below meth c H locs 0 0 (MQ below (va_Qv post (gB D vwCl (WM q ad) (mE D q)) A) args s 0 0 A) (F0 m 78 ls [])) (hrec86 : ∀ (z : MX) (x1 : Int32) (x2 : Int32) (H : Heap) (locs : List Loc) (ls : Array Slot), rec86 z x1 x2 → va_P D vwCl (WM q ad z) H → va_S A s.heap H locs → lv_has ls 3 [(0, .ref (ad 0)), (1, .int x1), (2, .int x2)] → W p l e (headSpec (cW yX8_run cX8_run 3 none) ({ frames := 3, cells := 0, slots := 0, locals := 66 } : Room)).room s m args below meth c H locs 0 0 (MQ below (va_Qv post (gB D vwCl (WM q ad) (mE D q)) A) args s 0 0 A) (F0 m 86 ls [])) (z : MX) (x1 : Int32) (x2 : Int32) (H : Heap) (locs : List Loc) (ls : Array Slot), pX8_run_b133  rec78 rec86 post z x1 x2 → va_P D vwCl (WM q ad z) H → va_S A s.heap H locs → lv_has ls 3 [(0, .ref (ad 0)), (1, .int x1), (2, .int x2)] → W p l e (headSpec (cW yX8_run cX8_run 3 none) ({ frames := 3, cells := 0, slots := 0, locals := 66 } : Room)).room s m args below meth c H locs 0 0 (MQ below (va_Qv post (gB D vwCl (WM q ad) (mE D q)) A) args s 0 0 A) (F0 m 133 ls []) := by
    intro rec78 rec86 hrec78 hrec86 z x1 x2 H locs ls h hP hS hl
    unfold pX8_run_b133 at h
    obtain ⟨x2_133, ex2_133⟩ : ∃ w : Int32, w = x2 + (1 : Int32) := ⟨_, rfl⟩
    have h := h x2_133 ex2_133
    refine lv_iinc (v := x2_133) (lv' := [(2, .int x2_133), (0, .ref (ad 0)), (1, .int x1)]) hx hb dX8_run_133 hl (k := 2) rfl (by rw [ex2_133]; rfl) (by decide) rfl (fun ls hl => ?_)
    refine lv_goto (tgt := 86) hx hb dX8_run_136 (by decide) ?_
    exact hrec86 z x1 x2_133 _ _ _ h hP hS (lv_sub hl [1, 2, 0] rfl)
  have B86 : ∀ (rec78 : MX → Int32 → Prop) (rec86 : MX → Int32 → Int32 → Prop) (hrec78 : ∀ (z : MX) (x1 : Int32) (H : Heap) (locs : List Loc) (ls : Array Slot), rec78 z x1 → va_P D vwCl (WM q ad z) H → va_S A s.heap H locs → lv_has ls 3 [(0, .ref (ad 0)), (1, .int x1)] → W p l e (headSpec (cW yX8_run cX8_run 3 none) ({ frames := 3, cells := 0, slots := 0, locals := 66 } : Room)).room s m args below meth c H locs 0 0 (MQ below (va_Qv post (gB D vwCl (WM q ad) (mE D q)) A) args s 0 0 A) (F0 m 78 ls [])) (hrec86 : ∀ (z : MX) (x1 : Int32) (x2 : Int32) (H : Heap) (locs : List Loc) (ls : Array Slot), rec86 z x1 x2 → va_P D vwCl (WM q ad z) H → va_S A s.heap H locs → lv_has ls 3 [(0, .ref (ad 0)), (1, .int x1), (2, .int x2)] → W p l e (headSpec (cW yX8_run cX8_run 3 none) ({ frames := 3, cells := 0, slots := 0, locals := 66 } : Room)).room s m args below meth c H locs 0 0 (MQ below (va_Qv post (gB D vwCl (WM q ad) (mE D q)) A) args s 0 0 A) (F0 m 86 ls [])) (z : MX) (x1 : Int32) (x2 : Int32) (H : Heap) (locs : List Loc) (ls : Array Slot), pX8_run_l86  rec78 rec86 post z x1 x2 → va_P D vwCl (WM q ad z) H → va_S A s.heap H locs → lv_has ls 3 [(0, .ref (ad 0)), (1, .int x1), (2, .int x2)] → W p l e (headSpec (cW yX8_run cX8_run 3 none) ({ frames := 3, cells := 0, slots := 0, locals := 66 } : Room)).room s m args below meth c H locs 0 0 (MQ below (va_Qv post (gB D vwCl (WM q ad) (mE D q)) A) args s 0 0 A) (F0 m 86 ls []) := by
    intro rec78 rec86 hrec78 hrec86 z x1 x2 H locs ls h hP hS hl
    unfold pX8_run_l86 at h
    refine lv_iload_n hx hb dX8_run_86 rfl (lv_at hl 2 rfl) ?_
    refine lv_aload_n hx hb dX8_run_87 rfl (lv_at hl 0 rfl) ?_
    refine va_get (D := D) (ci := 8) (v := .int (z.1 0 2)) (C := RX8) (T := TX8) (N := 45) hx hb ht tl_X8 hown hK hP 0 (wm_0 q ad z) rfl 2 (by decide) (ht _ tw_fl_X8_173) (fun _ h9 => h9) rfl dX8_run_88 ?_
    refine lv_icmp_ge (tgt := 139) hx hb dX8_run_91 (by decide) (fun c91 => ?_) (fun c91 => ?_)
    · have h := h.1 c91
      refine lv_iconst (v := (0 : Int32)) hx hb dX8_run_139 (by decide) ?_
      refine lv_istore_n (lv' := [(2, .int (0 : Int32)), (0, .ref (ad 0)), (1, .int x1)]) hx hb dX8_run_140 rfl hl (by decide) rfl (fun ls hl => ?_)
      obtain ⟨n, h⟩ := h
      exact L141 rec78 hrec78 n z x1 (0 : Int32) _ _ _ h hP hS (lv_sub hl [1, 2, 0] rfl)
    · have h := h.2 c91
      refine lv_aload_n hx hb dX8_run_94 rfl (lv_at hl 0 rfl) ?_
      refine va_get (D := D) (ci := 8) (v := .int (z.1 0 30)) (C := RX8) (T := TX8) (N := 45) hx hb ht tl_X8 hown hK hP 0 (wm_0 q ad z) rfl 30 (by decide) (ht _ tw_fl_X8_223) (fun _ h9 => h9) rfl dX8_run_95 ?_
      refine lv_bipush (v := (-4 : Int32)) hx hb dX8_run_98 (by decide) ?_
      refine lv_icmp_ne (tgt := 133) hx hb dX8_run_100 (by decide) (fun c100 => ?_) (fun c100 => ?_)
      · have h := h.1 c100
        exact B133 rec78 rec86 hrec78 hrec86 z x1 x2 _ _ _ h hP hS (lv_sub hl [0, 1, 2] rfl)
      · have h := h.2 c100
        refine lv_aload_n hx hb dX8_run_103 rfl (lv_at hl 0 rfl) ?_
        refine va_get (D := D) (ci := 8) (v := .ref (ad 12)) (C := RX8) (T := TX8) (N := 45) hx hb ht tl_X8 hown hK hP 0 (wm_0 q ad z) rfl 28 (by decide) (ht _ tw_fl_X8_48) (fun _ h9 => h9) rfl dX8_run_104 ?_
        refine lv_iload_n hx hb dX8_run_107 rfl (lv_at hl 2 rfl) ?_
        have hi108 := h.1
        have h := h.2
        refine va_iald hx hb hK hP 12 0 (wm_12 q ad z) rfl hi108 dX8_run_108 ?_
        refine lv_bipush (v := (-4 : Int32)) hx hb dX8_run_109 (by decide) ?_
        refine lv_icmp_ne (tgt := 133) hx hb dX8_run_111 (by decide) (fun c111 => ?_) (fun c111 => ?_)
        · have h := h.1 c111
          exact B133 rec78 rec86 hrec78 hrec86 z x1 x2 _ _ _ h hP hS (lv_sub hl [0, 1, 2] rfl)
        · have h := h.2 c111
          refine lv_iload_n hx hb dX8_run_114 rfl (lv_at hl 1 rfl) ?_
          refine lv_aload_n hx hb dX8_run_115 rfl (lv_at hl 0 rfl) ?_
          refine va_get (D := D) (ci := 8) (v := .ref (ad 1)) (C := RX8) (T := TX8) (N := 45) hx hb ht tl_X8 hown hK hP 0 (wm_0 q ad z) rfl 0 (by decide) (ht _ tw_fl_X8_7) (fun _ h9 => h9) rfl dX8_run_116 ?_
          refine lv_bipush (v := (17 : Int32)) hx hb dX8_run_119 (by decide) ?_
          refine lv_iload_n hx hb dX8_run_121 rfl (lv_at hl 2 rfl) ?_
          refine lv_iadd hx hb dX8_run_122 ?_
          have hi123 := h.1
          have h := h.2
          refine va_iald hx hb hK hP 1 0 (wm_1 q ad z) rfl hi123 dX8_run_123 ?_
          refine lv_icmp_lt (tgt := 133) hx hb dX8_run_124 (by decide) (fun c124 => ?_) (fun c124 => ?_)
          · have h := h.1 c124
            exact B133 rec78 rec86 hrec78 hrec86 z x1 x2 _ _ _ h hP hS (lv_sub hl [0, 1, 2] rfl)
          · have h := h.2 c124
            refine lv_aload_n hx hb dX8_run_127 rfl (lv_at hl 0 rfl) ?_
            refine lv_iload_n hx hb dX8_run_128 rfl (lv_at hl 2 rfl) ?_
            refine lv_iload_n hx hb dX8_run_129 rfl (lv_at hl 1 rfl) ?_
            refine g_cVv (Wd := WM q ad) (z := z) (As := [.int x2, .int x1]) (rest := []) hG S (kX8_moves l D q ad A hD z x2 x1 _ h) (cwV 2 ht (cW_V (fun _ h => h) tw_co_X8_moves tw_ml_X8_232 tw_im_X8_moves tw_se_X8_moves tw_in_X8) rfl rfl rfl (by decide +kernel) ⟨by decide, by decide⟩) (va_recv hK hP (ci := 8) (q0 := 0) rfl (wm_0 q ad z)) hE hP hS rfl hl.1 rfl (Nat.le_of_ble_eq_true rfl) dX8_run_130 ⟨Nat.zero_le _, Nat.zero_le _⟩ (fun z130 H locs h hP hS => ?_)
            exact B133 rec78 rec86 hrec78 hrec86 z130 x1 x2 _ _ _ h hP hS (lv_sub hl [0, 1, 2] rfl)
  have L86 : ∀ (rec78 : MX → Int32 → Prop) (hrec78 : ∀ (z : MX) (x1 : Int32) (H : Heap) (locs : List Loc) (ls : Array Slot), rec78 z x1 → va_P D vwCl (WM q ad z) H → va_S A s.heap H locs → lv_has ls 3 [(0, .ref (ad 0)), (1, .int x1)] → W p l e (headSpec (cW yX8_run cX8_run 3 none) ({ frames := 3, cells := 0, slots := 0, locals := 66 } : Room)).room s m args below meth c H locs 0 0 (MQ below (va_Qv post (gB D vwCl (WM q ad) (mE D q)) A) args s 0 0 A) (F0 m 78 ls [])) (n : Nat) (z : MX) (x1 : Int32) (x2 : Int32) (H : Heap) (locs : List Loc) (ls : Array Slot), pX8_run_L86  rec78 post n z x1 x2 → va_P D vwCl (WM q ad z) H → va_S A s.heap H locs → lv_has ls 3 [(0, .ref (ad 0)), (1, .int x1), (2, .int x2)] → W p l e (headSpec (cW yX8_run cX8_run 3 none) ({ frames := 3, cells := 0, slots := 0, locals := 66 } : Room)).room s m args below meth c H locs 0 0 (MQ below (va_Qv post (gB D vwCl (WM q ad) (mE D q)) A) args s 0 0 A) (F0 m 86 ls []) := by
    intro rec78 hrec78 n
    induction n with
    | zero =>
      intro z x1 x2 H locs ls h
      exact False.elim h
    | succ n ih =>
      intro z x1 x2 H locs ls h hP hS hl
      exact B86 rec78 (pX8_run_L86  rec78 post n) hrec78 ih z x1 x2 H locs ls h hP hS hl
  have B78 : ∀ (rec78 : MX → Int32 → Prop) (hrec78 : ∀ (z : MX) (x1 : Int32) (H : Heap) (locs : List Loc) (ls : Array Slot), rec78 z x1 → va_P D vwCl (WM q ad z) H → va_S A s.heap H locs → lv_has ls 3 [(0, .ref (ad 0)), (1, .int x1)] → W p l e (headSpec (cW yX8_run cX8_run 3 none) ({ frames := 3, cells := 0, slots := 0, locals := 66 } : Room)).room s m args below meth c H locs 0 0 (MQ below (va_Qv post (gB D vwCl (WM q ad) (mE D q)) A) args s 0 0 A) (F0 m 78 ls [])) (z : MX) (x1 : Int32) (H : Heap) (locs : List Loc) (ls : Array Slot), pX8_run_l78  rec78 post z x1 → va_P D vwCl (WM q ad z) H → va_S A s.heap H locs → lv_has ls 3 [(0, .ref (ad 0)), (1, .int x1)] → W p l e (headSpec (cW yX8_run cX8_run 3 none) ({ frames := 3, cells := 0, slots := 0, locals := 66 } : Room)).room s m args below meth c H locs 0 0 (MQ below (va_Qv post (gB D vwCl (WM q ad) (mE D q)) A) args s 0 0 A) (F0 m 78 ls []) := by
    intro rec78 hrec78 z x1 H locs ls h hP hS hl
    unfold pX8_run_l78 at h
    refine lv_iload_n hx hb dX8_run_78 rfl (lv_at hl 1 rfl) ?_
    refine lv_bipush (v := (119 : Int32)) hx hb dX8_run_79 (by decide) ?_
    refine lv_icmp_gt (tgt := 177) hx hb dX8_run_81 (by decide) (fun c81 => ?_) (fun c81 => ?_)
    · have h := h.1 c81
      exact g_rv hG hx hb hr hlocks hE hP hS h dX8_run_177
    · have h := h.2 c81
      refine lv_iconst (v := (0 : Int32)) hx hb dX8_run_84 (by decide) ?_
      refine lv_istore_n (lv' := [(2, .int (0 : Int32)), (0, .ref (ad 0)), (1, .int x1)]) hx hb dX8_run_85 rfl hl (by decide) rfl (fun ls hl => ?_)
      obtain ⟨n, h⟩ := h
      exact L86 rec78 hrec78 n z x1 (0 : Int32) _ _ _ h hP hS (lv_sub hl [1, 2, 0] rfl)
  have L78 : ∀ (n : Nat) (z : MX) (x1 : Int32) (H : Heap) (locs : List Loc) (ls : Array Slot), pX8_run_L78  post n z x1 → va_P D vwCl (WM q ad z) H → va_S A s.heap H locs → lv_has ls 3 [(0, .ref (ad 0)), (1, .int x1)] → W p l e (headSpec (cW yX8_run cX8_run 3 none) ({ frames := 3, cells := 0, slots := 0, locals := 66 } : Room)).room s m args below meth c H locs 0 0 (MQ below (va_Qv post (gB D vwCl (WM q ad) (mE D q)) A) args s 0 0 A) (F0 m 78 ls []) := by
    intro n
    induction n with
    | zero =>
      intro z x1 H locs ls h
      exact False.elim h
    | succ n ih =>
      intro z x1 H locs ls h hP hS hl
      exact B78 (pX8_run_L78  post n) ih z x1 H locs ls h hP hS hl
  have B35 : ∀ (rec35 : MX → Int32 → Prop) (hrec35 : ∀ (z : MX) (x1 : Int32) (H : Heap) (locs : List Loc) (ls : Array Slot), rec35 z x1 → va_P D vwCl (WM q ad z) H → va_S A s.heap H locs → lv_has ls 3 [(0, .ref (ad 0)), (1, .int x1)] → W p l e (headSpec (cW yX8_run cX8_run 3 none) ({ frames := 3, cells := 0, slots := 0, locals := 66 } : Room)).room s m args below meth c H locs 0 0 (MQ below (va_Qv post (gB D vwCl (WM q ad) (mE D q)) A) args s 0 0 A) (F0 m 35 ls [])) (z : MX) (x1 : Int32) (H : Heap) (locs : List Loc) (ls : Array Slot), pX8_run_l35  rec35 post z x1 → va_P D vwCl (WM q ad z) H → va_S A s.heap H locs → lv_has ls 3 [(0, .ref (ad 0)), (1, .int x1)] → W p l e (headSpec (cW yX8_run cX8_run 3 none) ({ frames := 3, cells := 0, slots := 0, locals := 66 } : Room)).room s m args below meth c H locs 0 0 (MQ below (va_Qv post (gB D vwCl (WM q ad) (mE D q)) A) args s 0 0 A) (F0 m 35 ls []) := by
    intro rec35 hrec35 z x1 H locs ls h hP hS hl
    unfold pX8_run_l35 at h
    refine lv_iload_n hx hb dX8_run_35 rfl (lv_at hl 1 rfl) ?_
    refine lv_iconst (v := (4 : Int32)) hx hb dX8_run_36 (by decide) ?_
    refine lv_icmp_ge (tgt := 76) hx hb dX8_run_37 (by decide) (fun c37 => ?_) (fun c37 => ?_)
    · have h := h.1 c37
      refine lv_iconst (v := (0 : Int32)) hx hb dX8_run_76 (by decide) ?_
      refine lv_istore_n (lv' := [(1, .int (0 : Int32)), (0, .ref (ad 0))]) hx hb dX8_run_77 rfl hl (by decide) rfl (fun ls hl => ?_)
      obtain ⟨n, h⟩ := h
      exact L78 n z (0 : Int32) _ _ _ h hP hS (lv_sub hl [1, 0] rfl)
    · have h := h.2 c37
      refine lv_aload_n hx hb dX8_run_40 rfl (lv_at hl 0 rfl) ?_
      refine va_get (D := D) (ci := 8) (v := .ref (ad 9)) (C := RX8) (T := TX8) (N := 45) hx hb ht tl_X8 hown hK hP 0 (wm_0 q ad z) rfl 25 (by decide) (ht _ tw_fl_X8_38) (fun _ h9 => h9) rfl dX8_run_41 ?_
      refine lv_iload_n hx hb dX8_run_44 rfl (lv_at hl 1 rfl) ?_
      refine lv_bipush (v := (-4 : Int32)) hx hb dX8_run_45 (by decide) ?_
      have hi47 := h.1
      have h := h.2
      refine g_iast (Wd := WM q ad) (z := z) hx hb hK hP (hD z) hS 9 (wm_9 q ad z) rfl (am_9 q ad z) hi47 dX8_run_47 (fun z47 H locs hz47 hP hS => ?_)
      have h := h z47 hz47
      refine lv_aload_n hx hb dX8_run_48 rfl (lv_at hl 0 rfl) ?_
      refine va_get (D := D) (ci := 8) (v := .ref (ad 10)) (C := RX8) (T := TX8) (N := 45) hx hb ht tl_X8 hown hK hP 0 (wm_0 q ad z47) rfl 26 (by decide) (ht _ tw_fl_X8_41) (fun _ h9 => h9) rfl dX8_run_49 ?_
      refine lv_iload_n hx hb dX8_run_52 rfl (lv_at hl 1 rfl) ?_
      refine lv_iconst (v := (0 : Int32)) hx hb dX8_run_53 (by decide) ?_
      have hi54 := h.1
      have h := h.2
      refine g_iast (Wd := WM q ad) (z := z47) hx hb hK hP (hD z47) hS 10 (wm_10 q ad z47) rfl (am_10 q ad z47) hi54 dX8_run_54 (fun z54 H locs hz54 hP hS => ?_)
      have h := h z54 hz54
      refine lv_aload_n hx hb dX8_run_55 rfl (lv_at hl 0 rfl) ?_
      refine va_get (D := D) (ci := 8) (v := .ref (ad 11)) (C := RX8) (T := TX8) (N := 45) hx hb ht tl_X8 hown hK hP 0 (wm_0 q ad z54) rfl 27 (by decide) (ht _ tw_fl_X8_44) (fun _ h9 => h9) rfl dX8_run_56 ?_
      refine lv_iload_n hx hb dX8_run_59 rfl (lv_at hl 1 rfl) ?_
      refine lv_iconst (v := (0 : Int32)) hx hb dX8_run_60 (by decide) ?_
      have hi61 := h.1
      have h := h.2
      have hb61 := h.1
      have h := h.2
      refine g_zast (Wd := WM q ad) (z := z54) hx hb hK hP (hD z54) hS 11 (wm_11 q ad z54) rfl (am_11 q ad z54) hi61 hb61 dX8_run_61 (fun z61 H locs hz61 hP hS => ?_)
      have h := h z61 hz61
      refine lv_aload_n hx hb dX8_run_62 rfl (lv_at hl 0 rfl) ?_
      refine va_get (D := D) (ci := 8) (v := .ref (ad 12)) (C := RX8) (T := TX8) (N := 45) hx hb ht tl_X8 hown hK hP 0 (wm_0 q ad z61) rfl 28 (by decide) (ht _ tw_fl_X8_48) (fun _ h9 => h9) rfl dX8_run_63 ?_
      refine lv_iload_n hx hb dX8_run_66 rfl (lv_at hl 1 rfl) ?_
      refine lv_bipush (v := (-4 : Int32)) hx hb dX8_run_67 (by decide) ?_
      have hi69 := h.1
      have h := h.2
      refine g_iast (Wd := WM q ad) (z := z61) hx hb hK hP (hD z61) hS 12 (wm_12 q ad z61) rfl (am_12 q ad z61) hi69 dX8_run_69 (fun z69 H locs hz69 hP hS => ?_)
      have h := h z69 hz69
      obtain ⟨x1_70, ex1_70⟩ : ∃ w : Int32, w = x1 + (1 : Int32) := ⟨_, rfl⟩
      have h := h x1_70 ex1_70
      refine lv_iinc (v := x1_70) (lv' := [(1, .int x1_70), (0, .ref (ad 0))]) hx hb dX8_run_70 hl (k := 1) rfl (by rw [ex1_70]; rfl) (by decide) rfl (fun ls hl => ?_)
      refine lv_goto (tgt := 35) hx hb dX8_run_73 (by decide) ?_
      exact hrec35 z69 x1_70 _ _ _ h hP hS (lv_sub hl [1, 0] rfl)
  have L35 : ∀ (n : Nat) (z : MX) (x1 : Int32) (H : Heap) (locs : List Loc) (ls : Array Slot), pX8_run_L35  post n z x1 → va_P D vwCl (WM q ad z) H → va_S A s.heap H locs → lv_has ls 3 [(0, .ref (ad 0)), (1, .int x1)] → W p l e (headSpec (cW yX8_run cX8_run 3 none) ({ frames := 3, cells := 0, slots := 0, locals := 66 } : Room)).room s m args below meth c H locs 0 0 (MQ below (va_Qv post (gB D vwCl (WM q ad) (mE D q)) A) args s 0 0 A) (F0 m 35 ls []) := by
    intro n
    induction n with
    | zero =>
      intro z x1 H locs ls h
      exact False.elim h
    | succ n ih =>
      intro z x1 H locs ls h hP hS hl
      exact B35 (pX8_run_L35  post n) ih z x1 H locs ls h hP hS hl
  refine g_entry (vs := [.ref (ad 0)]) hargs (Nat.le_of_ble_eq_true rfl) (fun ls hl => ?_)
  have hl : lv_has ls 3 [(0, .ref (ad 0))] := hl
  unfold pX8_run at h
  refine lv_aload_n hx hb dX8_run_0 rfl (lv_at hl 0 rfl) ?_
  refine lv_bipush (v := (-4 : Int32)) hx hb dX8_run_1 (by decide) ?_
  refine g_put (D := D) (Wd := WM q ad) (z := z) (ci := 8) (v := .int (-4 : Int32)) (ty := .int) (C := RX8) (T := TX8) (N := 45) hx hb ht tl_X8 tyX8 tyX8_ok nmX8 hown hK hP (hD z) hS 0 (wm_0 q ad z) rfl 30 (by decide) (ht _ tw_fl_X8_223) (fun _ h9 => h9) rfl rfl rfl rfl (Nat.le_of_ble_eq_true rfl) ((pm_0_30 q ad z) (-4 : Int32)) dX8_run_3 (fun z3 H locs hz3 hP hS => ?_)
  have h := h z3 hz3
  refine lv_aload_n hx hb dX8_run_6 rfl (lv_at hl 0 rfl) ?_
  refine lv_bipush (v := (-4 : Int32)) hx hb dX8_run_7 (by decide) ?_
  refine g_put (D := D) (Wd := WM q ad) (z := z3) (ci := 8) (v := .int (-4 : Int32)) (ty := .int) (C := RX8) (T := TX8) (N := 45) hx hb ht tl_X8 tyX8 tyX8_ok nmX8 hown hK hP (hD z3) hS 0 (wm_0 q ad z3) rfl 31 (by decide) (ht _ tw_fl_X8_226) (fun _ h9 => h9) rfl rfl rfl rfl (Nat.le_of_ble_eq_true rfl) ((pm_0_31 q ad z3) (-4 : Int32)) dX8_run_9 (fun z9 H locs hz9 hP hS => ?_)
  have h := h z9 hz9
  refine lv_aload_n hx hb dX8_run_12 rfl (lv_at hl 0 rfl) ?_
  refine lv_bipush (v := (-4 : Int32)) hx hb dX8_run_13 (by decide) ?_
  refine g_put (D := D) (Wd := WM q ad) (z := z9) (ci := 8) (v := .int (-4 : Int32)) (ty := .int) (C := RX8) (T := TX8) (N := 45) hx hb ht tl_X8 tyX8 tyX8_ok nmX8 hown hK hP (hD z9) hS 0 (wm_0 q ad z9) rfl 32 (by decide) (ht _ tw_fl_X8_229) (fun _ h9 => h9) rfl rfl rfl rfl (Nat.le_of_ble_eq_true rfl) ((pm_0_32 q ad z9) (-4 : Int32)) dX8_run_15 (fun z15 H locs hz15 hP hS => ?_)
  have h := h z15 hz15
  refine lv_aload_n hx hb dX8_run_18 rfl (lv_at hl 0 rfl) ?_
  refine lv_iconst (v := (0 : Int32)) hx hb dX8_run_19 (by decide) ?_
  refine g_put (D := D) (Wd := WM q ad) (z := z15) (ci := 8) (v := .int (0 : Int32)) (ty := .int) (C := RX8) (T := TX8) (N := 45) hx hb ht tl_X8 tyX8 tyX8_ok nmX8 hown hK hP (hD z15) hS 0 (wm_0 q ad z15) rfl 33 (by decide) (ht _ tw_fl_X8_211) (fun _ h9 => h9) rfl rfl rfl rfl (Nat.le_of_ble_eq_true rfl) ((pm_0_33 q ad z15) (0 : Int32)) dX8_run_20 (fun z20 H locs hz20 hP hS => ?_)
  have h := h z20 hz20
  refine lv_aload_n hx hb dX8_run_23 rfl (lv_at hl 0 rfl) ?_
  refine lv_iconst (v := (0 : Int32)) hx hb dX8_run_24 (by decide) ?_
  refine g_put (D := D) (Wd := WM q ad) (z := z20) (ci := 8) (v := .int (0 : Int32)) (ty := .int) (C := RX8) (T := TX8) (N := 45) hx hb ht tl_X8 tyX8 tyX8_ok nmX8 hown hK hP (hD z20) hS 0 (wm_0 q ad z20) rfl 34 (by decide) (ht _ tw_fl_X8_220) (fun _ h9 => h9) rfl rfl rfl rfl (Nat.le_of_ble_eq_true rfl) ((pm_0_34 q ad z20) (0 : Int32)) dX8_run_25 (fun z25 H locs hz25 hP hS => ?_)
  have h := h z25 hz25
  refine lv_aload_n hx hb dX8_run_28 rfl (lv_at hl 0 rfl) ?_
  refine lv_iconst (v := (0 : Int32)) hx hb dX8_run_29 (by decide) ?_
  refine g_put (D := D) (Wd := WM q ad) (z := z25) (ci := 8) (v := .int (0 : Int32)) (ty := .int) (C := RX8) (T := TX8) (N := 45) hx hb ht tl_X8 tyX8 tyX8_ok nmX8 hown hK hP (hD z25) hS 0 (wm_0 q ad z25) rfl 35 (by decide) (ht _ tw_fl_X8_217) (fun _ h9 => h9) rfl rfl rfl rfl (Nat.le_of_ble_eq_true rfl) ((pm_0_35 q ad z25) (0 : Int32)) dX8_run_30 (fun z30 H locs hz30 hP hS => ?_)
  have h := h z30 hz30
  refine lv_iconst (v := (0 : Int32)) hx hb dX8_run_33 (by decide) ?_
  refine lv_istore_n (lv' := [(1, .int (0 : Int32)), (0, .ref (ad 0))]) hx hb dX8_run_34 rfl hl (by decide) rfl (fun ls hl => ?_)
  obtain ⟨n, h⟩ := h
  exact L35 n z30 (0 : Int32) _ _ _ h hP hS (lv_sub hl [1, 0] rfl)
def pX8_home (z : MX) (x1 : Int32) (post : Int32 → MX → Prop) : Prop :=
  pX8_isTrain z x1 (fun (r2 : Int32) (z2 : MX) =>
  ((¬ r2 = 0 →
    pX8_run z2 (fun (z11 : MX) =>
    vp_in x1 4 ∧
    post (z11.1 12 (Int32.toNatClampNeg x1)) z11)) ∧
  (r2 = 0 →
    post (-1 : Int32) z2)))
set_option maxHeartbeats 4000000 in
set_option maxRecDepth 100000 in
theorem kX8_home (l : Launch) (D : va_G) (q : Nat → ClassId) (ad : Nat → Nat) (A : Nat → Prop) (hD : ∀ z, va_D A (WM q ad z)) (z : MX) (x1 : Int32) (post : Int32 → MX → Prop) (h : pX8_home  z x1 post) : Met l yX8_home (cW yX8_home cX8_home 2 (some .int)) ({ frames := 4, cells := 0, slots := 0, locals := 88 } : Room) (va_Pc [.ref (ad 0), .int x1] ((gB D vwCl (WM q ad) (mE D q)) z)) (va_Qi post (gB D vwCl (WM q ad) (mE D q)) A) 0 0 A := by
  refine Met.ofW (cc := cX8_home) (maxL := 2) (ret := (some .int)) (by decide) rfl ?_
  intro p e s m args below meth c s₁ B hml hv
  obtain ⟨hargs, hP, hE⟩ := hv
  have hx := B.exec
  have hb := B.bytes
  have hr := B.returns
  have hts := atoms_spec (ws := (cW yX8_home cX8_home 2 (some .int))) B.pre
  have ht : ∀ w ∈ tG, w.before args s = true := fun w h => hts w (List.mem_cons_of_mem _ h)
  have hown : s.vm.findClass RX8 = some m.cls := findClass_of_methodNamed B.named
  have hlocks := B.notSynchronized
  have hK := hE.1
  have hG := mE_G D q A
  have S : CallFix p m c cX8_home 2 s args tG RX8 := ⟨hx, hb, hml, hown, ht⟩
  have hS : va_S A s.heap s.heap [] := va_S.rf
  refine g_entry (vs := [.ref (ad 0), .int x1]) hargs (Nat.le_of_ble_eq_true rfl) (fun ls hl => ?_)
  have hl : lv_has ls 2 [(0, .ref (ad 0)), (1, .int x1)] := hl
  unfold pX8_home at h
  refine lv_aload_n hx hb dX8_home_0 rfl (lv_at hl 0 rfl) ?_
  refine lv_iload_n hx hb dX8_home_1 rfl (lv_at hl 1 rfl) ?_
  refine g_cVi (Wd := WM q ad) (z := z) (As := [.int x1]) (rest := []) hG S (kX8_isTrain l D q ad A hD z x1 _ h) (cwV 1 ht (cW_V (fun _ h => h) tw_co_X8_isTrain tw_ml_X8_194 tw_im_X8_isTrain tw_se_X8_isTrain tw_in_X8) rfl rfl rfl (by decide +kernel) ⟨by decide, by decide⟩) (va_recv hK hP (ci := 8) (q0 := 0) rfl (wm_0 q ad z)) hE hP hS rfl hl.1 rfl (Nat.le_of_ble_eq_true rfl) dX8_home_2 ⟨Nat.zero_le _, Nat.zero_le _⟩ (fun r2 z2 H locs h hP hS => ?_)
  refine lv_if_ne (tgt := 10) hx hb dX8_home_5 (by decide) (fun c5 => ?_) (fun c5 => ?_)
  · have h := h.1 c5
    refine lv_aload_n hx hb dX8_home_10 rfl (lv_at hl 0 rfl) ?_
    refine g_cVv (Wd := WM q ad) (z := z2) (As := []) (rest := []) hG S (kX8_run l D q ad A hD z2 _ h) (cwV 0 ht (cW_V (fun _ h => h) tw_co_X8_run tw_ml_X8_236 tw_im_X8_run tw_se_X8_run tw_in_X8) rfl rfl rfl (by decide +kernel) ⟨by decide, by decide⟩) (va_recv hK hP (ci := 8) (q0 := 0) rfl (wm_0 q ad z2)) hE hP hS rfl hl.1 rfl (Nat.le_of_ble_eq_true rfl) dX8_home_11 ⟨Nat.zero_le _, Nat.zero_le _⟩ (fun z11 H locs h hP hS => ?_)
    refine lv_aload_n hx hb dX8_home_14 rfl (lv_at hl 0 rfl) ?_
    refine va_get (D := D) (ci := 8) (v := .ref (ad 12)) (C := RX8) (T := TX8) (N := 45) hx hb ht tl_X8 hown hK hP 0 (wm_0 q ad z11) rfl 28 (by decide) (ht _ tw_fl_X8_48) (fun _ h9 => h9) rfl dX8_home_15 ?_
    refine lv_iload_n hx hb dX8_home_18 rfl (lv_at hl 1 rfl) ?_
    have hi19 := h.1
    have h := h.2
    refine va_iald hx hb hK hP 12 0 (wm_12 q ad z11) rfl hi19 dX8_home_19 ?_
    exact g_ri hG hx hb hr hlocks hE hP hS h dX8_home_20
  · have h := h.2 c5
    refine lv_iconst (v := (-1 : Int32)) hx hb dX8_home_8 (by decide) ?_
    exact g_ri hG hx hb hr hlocks hE hP hS h dX8_home_9
def pX8_at (z : MX) (x1 : Int32) (x2 : Int32) (post : Int32 → MX → Prop) : Prop :=
  pX8_isTrain z x1 (fun (r2 : Int32) (z2 : MX) =>
  ((r2 = 0 →
    post (-1 : Int32) z2) ∧
  (¬ r2 = 0 →
    pX8_in z2 (Int32.toInt64 x2) (0 : Int64) (119 : Int64) (fun (r14 : Int32) (z14 : MX) =>
    ((¬ r14 = 0 →
      pX8_run z14 (fun (z23 : MX) =>
      vp_in (((4 : Int32) * x2) + x1) 480 ∧
      post (z23.1 13 (Int32.toNatClampNeg (((4 : Int32) * x2) + x1))) z23)) ∧
    (r14 = 0 →
      post (-1 : Int32) z14))))))
set_option maxHeartbeats 4000000 in
set_option maxRecDepth 100000 in
theorem kX8_at (l : Launch) (D : va_G) (q : Nat → ClassId) (ad : Nat → Nat) (A : Nat → Prop) (hD : ∀ z, va_D A (WM q ad z)) (z : MX) (x1 : Int32) (x2 : Int32) (post : Int32 → MX → Prop) (h : pX8_at  z x1 x2 post) : Met l yX8_at (cW yX8_at cX8_at 3 (some .int)) ({ frames := 4, cells := 0, slots := 0, locals := 88 } : Room) (va_Pc [.ref (ad 0), .int x1, .int x2] ((gB D vwCl (WM q ad) (mE D q)) z)) (va_Qi post (gB D vwCl (WM q ad) (mE D q)) A) 0 0 A := by
  refine Met.ofW (cc := cX8_at) (maxL := 3) (ret := (some .int)) (by decide) rfl ?_
  intro p e s m args below meth c s₁ B hml hv
  obtain ⟨hargs, hP, hE⟩ := hv
  have hx := B.exec
  have hb := B.bytes
  have hr := B.returns
  have hts := atoms_spec (ws := (cW yX8_at cX8_at 3 (some .int))) B.pre
  have ht : ∀ w ∈ tG, w.before args s = true := fun w h => hts w (List.mem_cons_of_mem _ h)
  have hown : s.vm.findClass RX8 = some m.cls := findClass_of_methodNamed B.named
  have hlocks := B.notSynchronized
  have hK := hE.1
  have hG := mE_G D q A
  have S : CallFix p m c cX8_at 3 s args tG RX8 := ⟨hx, hb, hml, hown, ht⟩
  have hS : va_S A s.heap s.heap [] := va_S.rf
  refine g_entry (vs := [.ref (ad 0), .int x1, .int x2]) hargs (Nat.le_of_ble_eq_true rfl) (fun ls hl => ?_)
  have hl : lv_has ls 3 [(0, .ref (ad 0)), (1, .int x1), (2, .int x2)] := hl
  unfold pX8_at at h
  refine lv_aload_n hx hb dX8_at_0 rfl (lv_at hl 0 rfl) ?_
  refine lv_iload_n hx hb dX8_at_1 rfl (lv_at hl 1 rfl) ?_
  refine g_cVi (Wd := WM q ad) (z := z) (As := [.int x1]) (rest := []) hG S (kX8_isTrain l D q ad A hD z x1 _ h) (cwV 1 ht (cW_V (fun _ h => h) tw_co_X8_isTrain tw_ml_X8_194 tw_im_X8_isTrain tw_se_X8_isTrain tw_in_X8) rfl rfl rfl (by decide +kernel) ⟨by decide, by decide⟩) (va_recv hK hP (ci := 8) (q0 := 0) rfl (wm_0 q ad z)) hE hP hS rfl hl.1 rfl (Nat.le_of_ble_eq_true rfl) dX8_at_2 ⟨Nat.zero_le _, Nat.zero_le _⟩ (fun r2 z2 H locs h hP hS => ?_)
  refine lv_if_eq (tgt := 20) hx hb dX8_at_5 (by decide) (fun c5 => ?_) (fun c5 => ?_)
  · have h := h.1 c5
    refine lv_iconst (v := (-1 : Int32)) hx hb dX8_at_20 (by decide) ?_
    exact g_ri hG hx hb hr hlocks hE hP hS h dX8_at_21
  · have h := h.2 c5
    refine lv_iload_n hx hb dX8_at_8 rfl (lv_at hl 2 rfl) ?_
    refine lv_i2l hx hb dX8_at_9 rfl ?_
    refine lv_lconst (v := (0 : Int64)) hx hb dX8_at_10 (by decide) ?_
    refine lv_ldc2 (v := (119 : Int64)) hx hb hown (ht _ tw_cn_X8_239) dX8_at_11 ?_
    refine g_cSi (Wd := WM q ad) (z := z2) (As := [.long (Int32.toInt64 x2), .long (0 : Int64), .long (119 : Int64)]) (rest := []) hG S (kX8_in l D q ad A hD z2 (Int32.toInt64 x2) (0 : Int64) (119 : Int64) _ h) (va_cwS 3 ht (cW_S (fun _ h => h) tw_co_X8_in tw_ml_X8_74 tw_st_X8_in tw_in_X8) rfl rfl rfl (by decide +kernel) ⟨by decide, by decide⟩) hE hP hS rfl hl.1 rfl (Nat.le_of_ble_eq_true rfl) dX8_at_14 ⟨Nat.zero_le _, Nat.zero_le _⟩ (fun r14 z14 H locs h hP hS => ?_)
    refine lv_if_ne (tgt := 22) hx hb dX8_at_17 (by decide) (fun c17 => ?_) (fun c17 => ?_)
    · have h := h.1 c17
      refine lv_aload_n hx hb dX8_at_22 rfl (lv_at hl 0 rfl) ?_
      refine g_cVv (Wd := WM q ad) (z := z14) (As := []) (rest := []) hG S (kX8_run l D q ad A hD z14 _ h) (cwV 0 ht (cW_V (fun _ h => h) tw_co_X8_run tw_ml_X8_236 tw_im_X8_run tw_se_X8_run tw_in_X8) rfl rfl rfl (by decide +kernel) ⟨by decide, by decide⟩) (va_recv hK hP (ci := 8) (q0 := 0) rfl (wm_0 q ad z14)) hE hP hS rfl hl.1 rfl (Nat.le_of_ble_eq_true rfl) dX8_at_23 ⟨Nat.zero_le _, Nat.zero_le _⟩ (fun z23 H locs h hP hS => ?_)
      refine lv_aload_n hx hb dX8_at_26 rfl (lv_at hl 0 rfl) ?_
      refine va_get (D := D) (ci := 8) (v := .ref (ad 13)) (C := RX8) (T := TX8) (N := 45) hx hb ht tl_X8 hown hK hP 0 (wm_0 q ad z23) rfl 29 (by decide) (ht _ tw_fl_X8_51) (fun _ h9 => h9) rfl dX8_at_27 ?_
      refine lv_iconst (v := (4 : Int32)) hx hb dX8_at_30 (by decide) ?_
      refine lv_iload_n hx hb dX8_at_31 rfl (lv_at hl 2 rfl) ?_
      refine lv_imul hx hb dX8_at_32 ?_
      refine lv_iload_n hx hb dX8_at_33 rfl (lv_at hl 1 rfl) ?_
      refine lv_iadd hx hb dX8_at_34 ?_
      have hi35 := h.1
      have h := h.2
      refine va_iald hx hb hK hP 13 0 (wm_13 q ad z23) rfl hi35 dX8_at_35 ?_
      exact g_ri hG hx hb hr hlocks hE hP hS h dX8_at_36
    · have h := h.2 c17
      refine lv_iconst (v := (-1 : Int32)) hx hb dX8_at_20 (by decide) ?_
      exact g_ri hG hx hb hr hlocks hE hP hS h dX8_at_21
def pX8_bump (z : MX) (x1 : Int32) (post : Int32 → MX → Prop) : Prop :=
  pX8_in z (Int32.toInt64 x1) (0 : Int64) (2 : Int64) (fun (r6 : Int32) (z6 : MX) =>
  ((¬ r6 = 0 →
    pX8_run z6 (fun (z15 : MX) =>
    ((¬ x1 = 0 →
      ((¬ x1 = (1 : Int32) →
        post (z15.1 0 32) z15) ∧
      (x1 = (1 : Int32) →
        post (z15.1 0 31) z15))) ∧
    (x1 = 0 →
      post (z15.1 0 30) z15)))) ∧
  (r6 = 0 →
    post (-1 : Int32) z6)))
set_option maxHeartbeats 4000000 in
set_option maxRecDepth 100000 in
theorem kX8_bump (l : Launch) (D : va_G) (q : Nat → ClassId) (ad : Nat → Nat) (A : Nat → Prop) (hD : ∀ z, va_D A (WM q ad z)) (z : MX) (x1 : Int32) (post : Int32 → MX → Prop) (h : pX8_bump  z x1 post) : Met l yX8_bump (cW yX8_bump cX8_bump 2 (some .int)) ({ frames := 4, cells := 0, slots := 0, locals := 88 } : Room) (va_Pc [.ref (ad 0), .int x1] ((gB D vwCl (WM q ad) (mE D q)) z)) (va_Qi post (gB D vwCl (WM q ad) (mE D q)) A) 0 0 A := by
  refine Met.ofW (cc := cX8_bump) (maxL := 2) (ret := (some .int)) (by decide) rfl ?_
  intro p e s m args below meth c s₁ B hml hv
  obtain ⟨hargs, hP, hE⟩ := hv
  have hx := B.exec
  have hb := B.bytes
  have hr := B.returns
  have hts := atoms_spec (ws := (cW yX8_bump cX8_bump 2 (some .int))) B.pre
  have ht : ∀ w ∈ tG, w.before args s = true := fun w h => hts w (List.mem_cons_of_mem _ h)
  have hown : s.vm.findClass RX8 = some m.cls := findClass_of_methodNamed B.named
  have hlocks := B.notSynchronized
  have hK := hE.1
  have hG := mE_G D q A
  have S : CallFix p m c cX8_bump 2 s args tG RX8 := ⟨hx, hb, hml, hown, ht⟩
  have hS : va_S A s.heap s.heap [] := va_S.rf
  refine g_entry (vs := [.ref (ad 0), .int x1]) hargs (Nat.le_of_ble_eq_true rfl) (fun ls hl => ?_)
  have hl : lv_has ls 2 [(0, .ref (ad 0)), (1, .int x1)] := hl
  unfold pX8_bump at h
  refine lv_iload_n hx hb dX8_bump_0 rfl (lv_at hl 1 rfl) ?_
  refine lv_i2l hx hb dX8_bump_1 rfl ?_
  refine lv_lconst (v := (0 : Int64)) hx hb dX8_bump_2 (by decide) ?_
  refine lv_ldc2 (v := (2 : Int64)) hx hb hown (ht _ tw_cn_X8_189) dX8_bump_3 ?_
  refine g_cSi (Wd := WM q ad) (z := z) (As := [.long (Int32.toInt64 x1), .long (0 : Int64), .long (2 : Int64)]) (rest := []) hG S (kX8_in l D q ad A hD z (Int32.toInt64 x1) (0 : Int64) (2 : Int64) _ h) (va_cwS 3 ht (cW_S (fun _ h => h) tw_co_X8_in tw_ml_X8_74 tw_st_X8_in tw_in_X8) rfl rfl rfl (by decide +kernel) ⟨by decide, by decide⟩) hE hP hS rfl hl.1 rfl (Nat.le_of_ble_eq_true rfl) dX8_bump_6 ⟨Nat.zero_le _, Nat.zero_le _⟩ (fun r6 z6 H locs h hP hS => ?_)
  refine lv_if_ne (tgt := 14) hx hb dX8_bump_9 (by decide) (fun c9 => ?_) (fun c9 => ?_)
  · have h := h.1 c9
    refine lv_aload_n hx hb dX8_bump_14 rfl (lv_at hl 0 rfl) ?_
    refine g_cVv (Wd := WM q ad) (z := z6) (As := []) (rest := []) hG S (kX8_run l D q ad A hD z6 _ h) (cwV 0 ht (cW_V (fun _ h => h) tw_co_X8_run tw_ml_X8_236 tw_im_X8_run tw_se_X8_run tw_in_X8) rfl rfl rfl (by decide +kernel) ⟨by decide, by decide⟩) (va_recv hK hP (ci := 8) (q0 := 0) rfl (wm_0 q ad z6)) hE hP hS rfl hl.1 rfl (Nat.le_of_ble_eq_true rfl) dX8_bump_15 ⟨Nat.zero_le _, Nat.zero_le _⟩ (fun z15 H locs h hP hS => ?_)
    refine lv_iload_n hx hb dX8_bump_18 rfl (lv_at hl 1 rfl) ?_
    refine lv_if_ne (tgt := 29) hx hb dX8_bump_19 (by decide) (fun c19 => ?_) (fun c19 => ?_)
    · have h := h.1 c19
      refine lv_iload_n hx hb dX8_bump_29 rfl (lv_at hl 1 rfl) ?_
      refine lv_iconst (v := (1 : Int32)) hx hb dX8_bump_30 (by decide) ?_
      refine lv_icmp_ne (tgt := 41) hx hb dX8_bump_31 (by decide) (fun c31 => ?_) (fun c31 => ?_)
      · have h := h.1 c31
        refine lv_aload_n hx hb dX8_bump_41 rfl (lv_at hl 0 rfl) ?_
        refine va_get (D := D) (ci := 8) (v := .int (z15.1 0 32)) (C := RX8) (T := TX8) (N := 45) hx hb ht tl_X8 hown hK hP 0 (wm_0 q ad z15) rfl 32 (by decide) (ht _ tw_fl_X8_229) (fun _ h9 => h9) rfl dX8_bump_42 ?_
        exact g_ri hG hx hb hr hlocks hE hP hS h dX8_bump_45
      · have h := h.2 c31
        refine lv_aload_n hx hb dX8_bump_34 rfl (lv_at hl 0 rfl) ?_
        refine va_get (D := D) (ci := 8) (v := .int (z15.1 0 31)) (C := RX8) (T := TX8) (N := 45) hx hb ht tl_X8 hown hK hP 0 (wm_0 q ad z15) rfl 31 (by decide) (ht _ tw_fl_X8_226) (fun _ h9 => h9) rfl dX8_bump_35 ?_
        refine lv_goto (tgt := 45) hx hb dX8_bump_38 (by decide) ?_
        exact g_ri hG hx hb hr hlocks hE hP hS h dX8_bump_45
    · have h := h.2 c19
      refine lv_aload_n hx hb dX8_bump_22 rfl (lv_at hl 0 rfl) ?_
      refine va_get (D := D) (ci := 8) (v := .int (z15.1 0 30)) (C := RX8) (T := TX8) (N := 45) hx hb ht tl_X8 hown hK hP 0 (wm_0 q ad z15) rfl 30 (by decide) (ht _ tw_fl_X8_223) (fun _ h9 => h9) rfl dX8_bump_23 ?_
      refine lv_goto (tgt := 45) hx hb dX8_bump_26 (by decide) ?_
      exact g_ri hG hx hb hr hlocks hE hP hS h dX8_bump_45
  · have h := h.2 c9
    refine lv_iconst (v := (-1 : Int32)) hx hb dX8_bump_12 (by decide) ?_
    exact g_ri hG hx hb hr hlocks hE hP hS h dX8_bump_13
def pX8_cost_b35 (rec4 : MX → Int32 → Int32 → Prop) (post : Int32 → MX → Prop) (z : MX) (x2 : Int32) (y0 : Int32) (y1 : Int32) : Prop :=
    vp_in ((21 : Int32) + x2) 125 ∧
    ∀ x1_46 : Int32, x1_46 = y0 + (y1 * (z.1 1 (Int32.toNatClampNeg ((21 : Int32) + x2)))) →
    ∀ x2_47 : Int32, x2_47 = x2 + (1 : Int32) →
    rec4 z x1_46 x2_47
def pX8_cost_l4 (rec4 : MX → Int32 → Int32 → Prop) (post : Int32 → MX → Prop) (z : MX) (x1 : Int32) (x2 : Int32) : Prop :=
    (((z.1 0 2) ≤ x2 →
      post x1 z) ∧
    (¬ (z.1 0 2) ≤ x2 →
      vp_in x2 4 ∧
      ((¬ (z.1 12 (Int32.toNatClampNeg x2)) = (-4 : Int32) →
        vp_in x2 4 ∧
        pX8_cost_b35  rec4 post z x2 x1 (z.1 12 (Int32.toNatClampNeg x2))) ∧
      ((z.1 12 (Int32.toNatClampNeg x2)) = (-4 : Int32) →
        pX8_cost_b35  rec4 post z x2 x1 (120 : Int32)))))
def pX8_cost_L4 (post : Int32 → MX → Prop) : Nat → MX → Int32 → Int32 → Prop
  | 0 => fun _ _ _ => False
  | n + 1 => fun z x1 x2 => pX8_cost_l4  (pX8_cost_L4  post n) post z x1 x2
def pX8_cost (z : MX) (post : Int32 → MX → Prop) : Prop :=
  ∃ n, pX8_cost_L4  post n z (0 : Int32) (0 : Int32)
set_option maxHeartbeats 4000000 in
set_option maxRecDepth 100000 in
theorem kX8_cost (l : Launch) (D : va_G) (q : Nat → ClassId) (ad : Nat → Nat) (A : Nat → Prop) (hD : ∀ z, va_D A (WM q ad z)) (z : MX) (post : Int32 → MX → Prop) (h : pX8_cost  z post) : Met l yX8_cost (cW yX8_cost cX8_cost 3 (some .int)) ({ frames := 0, cells := 0, slots := 0, locals := 0 } : Room) (va_Pc [.ref (ad 0)] ((gB D vwCl (WM q ad) (mE D q)) z)) (va_Qi post (gB D vwCl (WM q ad) (mE D q)) A) 0 0 A := by
  refine Met.ofW (cc := cX8_cost) (maxL := 3) (ret := (some .int)) (by decide) rfl ?_
  intro p e s m args below meth c s₁ B hml hv
  obtain ⟨hargs, hP, hE⟩ := hv
  have hx := B.exec
  have hb := B.bytes
  have hr := B.returns
  have hts := atoms_spec (ws := (cW yX8_cost cX8_cost 3 (some .int))) B.pre
  have ht : ∀ w ∈ tG, w.before args s = true := fun w h => hts w (List.mem_cons_of_mem _ h)
  have hown : s.vm.findClass RX8 = some m.cls := findClass_of_methodNamed B.named
  have hlocks := B.notSynchronized
  have hK := hE.1
  have hG := mE_G D q A
  have S : CallFix p m c cX8_cost 3 s args tG RX8 := ⟨hx, hb, hml, hown, ht⟩
  have hS : va_S A s.heap s.heap [] := va_S.rf
  have B35 : ∀ (rec4 : MX → Int32 → Int32 → Prop) (hrec4 : ∀ (z : MX) (x1 : Int32) (x2 : Int32) (H : Heap) (locs : List Loc) (ls : Array Slot), rec4 z x1 x2 → va_P D vwCl (WM q ad z) H → va_S A s.heap H locs → lv_has ls 3 [(0, .ref (ad 0)), (1, .int x1), (2, .int x2)] → W p l e (headSpec (cW yX8_cost cX8_cost 3 (some .int)) ({ frames := 0, cells := 0, slots := 0, locals := 0 } : Room)).room s m args below meth c H locs 0 0 (MQ below (va_Qi post (gB D vwCl (WM q ad) (mE D q)) A) args s 0 0 A) (F0 m 4 ls [])) (z : MX) (x2 : Int32) (y0 : Int32) (y1 : Int32) (H : Heap) (locs : List Loc) (ls : Array Slot), pX8_cost_b35  rec4 post z x2 y0 y1 → va_P D vwCl (WM q ad z) H → va_S A s.heap H locs → lv_has ls 3 [(0, .ref (ad 0)), (2, .int x2)] → W p l e (headSpec (cW yX8_cost cX8_cost 3 (some .int)) ({ frames := 0, cells := 0, slots := 0, locals := 0 } : Room)).room s m args below meth c H locs 0 0 (MQ below (va_Qi post (gB D vwCl (WM q ad) (mE D q)) A) args s 0 0 A) (F0 m 35 ls [.int y1, .int y0]) := by
    intro rec4 hrec4 z x2 y0 y1 H locs ls h hP hS hl
    unfold pX8_cost_b35 at h
    refine lv_aload_n hx hb dX8_cost_35 rfl (lv_at hl 0 rfl) ?_
    refine va_get (D := D) (ci := 8) (v := .ref (ad 1)) (C := RX8) (T := TX8) (N := 45) hx hb ht tl_X8 hown hK hP 0 (wm_0 q ad z) rfl 0 (by decide) (ht _ tw_fl_X8_7) (fun _ h9 => h9) rfl dX8_cost_36 ?_
    refine lv_bipush (v := (21 : Int32)) hx hb dX8_cost_39 (by decide) ?_
    refine lv_iload_n hx hb dX8_cost_41 rfl (lv_at hl 1 rfl) ?_
    refine lv_iadd hx hb dX8_cost_42 ?_
    have hi43 := h.1
    have h := h.2
    refine va_iald hx hb hK hP 1 0 (wm_1 q ad z) rfl hi43 dX8_cost_43 ?_
    refine lv_imul hx hb dX8_cost_44 ?_
    refine lv_iadd hx hb dX8_cost_45 ?_
    refine lv_topi (fun x1_46 ex1_46 => ?_)
    have h := h x1_46 ex1_46
    refine lv_istore_n (lv' := [(1, .int x1_46), (0, .ref (ad 0)), (2, .int x2)]) hx hb dX8_cost_46 rfl hl (by decide) rfl (fun ls hl => ?_)
    obtain ⟨x2_47, ex2_47⟩ : ∃ w : Int32, w = x2 + (1 : Int32) := ⟨_, rfl⟩
    have h := h x2_47 ex2_47
    refine lv_iinc (v := x2_47) (lv' := [(2, .int x2_47), (1, .int x1_46), (0, .ref (ad 0))]) hx hb dX8_cost_47 hl (k := 2) rfl (by rw [ex2_47]; rfl) (by decide) rfl (fun ls hl => ?_)
    refine lv_goto (tgt := 4) hx hb dX8_cost_50 (by decide) ?_
    exact hrec4 z x1_46 x2_47 _ _ _ h hP hS (lv_sub hl [2, 1, 0] rfl)
  have B4 : ∀ (rec4 : MX → Int32 → Int32 → Prop) (hrec4 : ∀ (z : MX) (x1 : Int32) (x2 : Int32) (H : Heap) (locs : List Loc) (ls : Array Slot), rec4 z x1 x2 → va_P D vwCl (WM q ad z) H → va_S A s.heap H locs → lv_has ls 3 [(0, .ref (ad 0)), (1, .int x1), (2, .int x2)] → W p l e (headSpec (cW yX8_cost cX8_cost 3 (some .int)) ({ frames := 0, cells := 0, slots := 0, locals := 0 } : Room)).room s m args below meth c H locs 0 0 (MQ below (va_Qi post (gB D vwCl (WM q ad) (mE D q)) A) args s 0 0 A) (F0 m 4 ls [])) (z : MX) (x1 : Int32) (x2 : Int32) (H : Heap) (locs : List Loc) (ls : Array Slot), pX8_cost_l4  rec4 post z x1 x2 → va_P D vwCl (WM q ad z) H → va_S A s.heap H locs → lv_has ls 3 [(0, .ref (ad 0)), (1, .int x1), (2, .int x2)] → W p l e (headSpec (cW yX8_cost cX8_cost 3 (some .int)) ({ frames := 0, cells := 0, slots := 0, locals := 0 } : Room)).room s m args below meth c H locs 0 0 (MQ below (va_Qi post (gB D vwCl (WM q ad) (mE D q)) A) args s 0 0 A) (F0 m 4 ls []) := by
    intro rec4 hrec4 z x1 x2 H locs ls h hP hS hl
    unfold pX8_cost_l4 at h
    refine lv_iload_n hx hb dX8_cost_4 rfl (lv_at hl 2 rfl) ?_
    refine lv_aload_n hx hb dX8_cost_5 rfl (lv_at hl 0 rfl) ?_
    refine va_get (D := D) (ci := 8) (v := .int (z.1 0 2)) (C := RX8) (T := TX8) (N := 45) hx hb ht tl_X8 hown hK hP 0 (wm_0 q ad z) rfl 2 (by decide) (ht _ tw_fl_X8_173) (fun _ h9 => h9) rfl dX8_cost_6 ?_
    refine lv_icmp_ge (tgt := 53) hx hb dX8_cost_9 (by decide) (fun c9 => ?_) (fun c9 => ?_)
    · have h := h.1 c9
      refine lv_iload_n hx hb dX8_cost_53 rfl (lv_at hl 1 rfl) ?_
      exact g_ri hG hx hb hr hlocks hE hP hS h dX8_cost_54
    · have h := h.2 c9
      refine lv_iload_n hx hb dX8_cost_12 rfl (lv_at hl 1 rfl) ?_
      refine lv_aload_n hx hb dX8_cost_13 rfl (lv_at hl 0 rfl) ?_
      refine va_get (D := D) (ci := 8) (v := .ref (ad 12)) (C := RX8) (T := TX8) (N := 45) hx hb ht tl_X8 hown hK hP 0 (wm_0 q ad z) rfl 28 (by decide) (ht _ tw_fl_X8_48) (fun _ h9 => h9) rfl dX8_cost_14 ?_
      refine lv_iload_n hx hb dX8_cost_17 rfl (lv_at hl 2 rfl) ?_
      have hi18 := h.1
      have h := h.2
      refine va_iald hx hb hK hP 12 0 (wm_12 q ad z) rfl hi18 dX8_cost_18 ?_
      refine lv_bipush (v := (-4 : Int32)) hx hb dX8_cost_19 (by decide) ?_
      refine lv_icmp_ne (tgt := 29) hx hb dX8_cost_21 (by decide) (fun c21 => ?_) (fun c21 => ?_)
      · have h := h.1 c21
        refine lv_aload_n hx hb dX8_cost_29 rfl (lv_at hl 0 rfl) ?_
        refine va_get (D := D) (ci := 8) (v := .ref (ad 12)) (C := RX8) (T := TX8) (N := 45) hx hb ht tl_X8 hown hK hP 0 (wm_0 q ad z) rfl 28 (by decide) (ht _ tw_fl_X8_48) (fun _ h9 => h9) rfl dX8_cost_30 ?_
        refine lv_iload_n hx hb dX8_cost_33 rfl (lv_at hl 2 rfl) ?_
        have hi34 := h.1
        have h := h.2
        refine va_iald hx hb hK hP 12 0 (wm_12 q ad z) rfl hi34 dX8_cost_34 ?_
        exact B35 rec4 hrec4 z x2 x1 (z.1 12 (Int32.toNatClampNeg x2)) _ _ _ h hP hS (lv_sub hl [0, 2] rfl)
      · have h := h.2 c21
        refine lv_bipush (v := (120 : Int32)) hx hb dX8_cost_24 (by decide) ?_
        refine lv_goto (tgt := 35) hx hb dX8_cost_26 (by decide) ?_
        exact B35 rec4 hrec4 z x2 x1 (120 : Int32) _ _ _ h hP hS (lv_sub hl [0, 2] rfl)
  have L4 : ∀ (n : Nat) (z : MX) (x1 : Int32) (x2 : Int32) (H : Heap) (locs : List Loc) (ls : Array Slot), pX8_cost_L4  post n z x1 x2 → va_P D vwCl (WM q ad z) H → va_S A s.heap H locs → lv_has ls 3 [(0, .ref (ad 0)), (1, .int x1), (2, .int x2)] → W p l e (headSpec (cW yX8_cost cX8_cost 3 (some .int)) ({ frames := 0, cells := 0, slots := 0, locals := 0 } : Room)).room s m args below meth c H locs 0 0 (MQ below (va_Qi post (gB D vwCl (WM q ad) (mE D q)) A) args s 0 0 A) (F0 m 4 ls []) := by
    intro n
    induction n with
    | zero =>
      intro z x1 x2 H locs ls h
      exact False.elim h
    | succ n ih =>
      intro z x1 x2 H locs ls h hP hS hl
      exact B4 (pX8_cost_L4  post n) ih z x1 x2 H locs ls h hP hS hl
  refine g_entry (vs := [.ref (ad 0)]) hargs (Nat.le_of_ble_eq_true rfl) (fun ls hl => ?_)
  have hl : lv_has ls 3 [(0, .ref (ad 0))] := hl
  unfold pX8_cost at h
  refine lv_iconst (v := (0 : Int32)) hx hb dX8_cost_0 (by decide) ?_
  refine lv_istore_n (lv' := [(1, .int (0 : Int32)), (0, .ref (ad 0))]) hx hb dX8_cost_1 rfl hl (by decide) rfl (fun ls hl => ?_)
  refine lv_iconst (v := (0 : Int32)) hx hb dX8_cost_2 (by decide) ?_
  refine lv_istore_n (lv' := [(2, .int (0 : Int32)), (1, .int (0 : Int32)), (0, .ref (ad 0))]) hx hb dX8_cost_3 rfl hl (by decide) rfl (fun ls hl => ?_)
  obtain ⟨n, h⟩ := h
  exact L4 n z (0 : Int32) (0 : Int32) _ _ _ h hP hS (lv_sub hl [2, 1, 0] rfl)
def pX8_homeMany_b29 (rec4 : MX → Int32 → Int32 → Prop) (post : Int32 → MX → Prop) (z : MX) (x2 : Int32) (y0 : Int32) (y1 : Int32) : Prop :=
    ∀ x1_30 : Int32, x1_30 = y0 + y1 →
    ∀ x2_31 : Int32, x2_31 = x2 + (1 : Int32) →
    rec4 z x1_30 x2_31
def pX8_homeMany_l4 (rec4 : MX → Int32 → Int32 → Prop) (post : Int32 → MX → Prop) (z : MX) (x1 : Int32) (x2 : Int32) : Prop :=
    (((z.1 0 2) ≤ x2 →
      post x1 z) ∧
    (¬ (z.1 0 2) ≤ x2 →
      vp_in x2 4 ∧
      (((z.1 12 (Int32.toNatClampNeg x2)) = (-4 : Int32) →
        pX8_homeMany_b29  rec4 post z x2 x1 (0 : Int32)) ∧
      (¬ (z.1 12 (Int32.toNatClampNeg x2)) = (-4 : Int32) →
        pX8_homeMany_b29  rec4 post z x2 x1 (1 : Int32)))))
def pX8_homeMany_L4 (post : Int32 → MX → Prop) : Nat → MX → Int32 → Int32 → Prop
  | 0 => fun _ _ _ => False
  | n + 1 => fun z x1 x2 => pX8_homeMany_l4  (pX8_homeMany_L4  post n) post z x1 x2
def pX8_homeMany (z : MX) (post : Int32 → MX → Prop) : Prop :=
  ∃ n, pX8_homeMany_L4  post n z (0 : Int32) (0 : Int32)
set_option maxHeartbeats 4000000 in
set_option maxRecDepth 100000 in
theorem kX8_homeMany (l : Launch) (D : va_G) (q : Nat → ClassId) (ad : Nat → Nat) (A : Nat → Prop) (hD : ∀ z, va_D A (WM q ad z)) (z : MX) (post : Int32 → MX → Prop) (h : pX8_homeMany  z post) : Met l yX8_homeMany (cW yX8_homeMany cX8_homeMany 3 (some .int)) ({ frames := 0, cells := 0, slots := 0, locals := 0 } : Room) (va_Pc [.ref (ad 0)] ((gB D vwCl (WM q ad) (mE D q)) z)) (va_Qi post (gB D vwCl (WM q ad) (mE D q)) A) 0 0 A := by
  refine Met.ofW (cc := cX8_homeMany) (maxL := 3) (ret := (some .int)) (by decide) rfl ?_
  intro p e s m args below meth c s₁ B hml hv
  obtain ⟨hargs, hP, hE⟩ := hv
  have hx := B.exec
  have hb := B.bytes
  have hr := B.returns
  have hts := atoms_spec (ws := (cW yX8_homeMany cX8_homeMany 3 (some .int))) B.pre
  have ht : ∀ w ∈ tG, w.before args s = true := fun w h => hts w (List.mem_cons_of_mem _ h)
  have hown : s.vm.findClass RX8 = some m.cls := findClass_of_methodNamed B.named
  have hlocks := B.notSynchronized
  have hK := hE.1
  have hG := mE_G D q A
  have S : CallFix p m c cX8_homeMany 3 s args tG RX8 := ⟨hx, hb, hml, hown, ht⟩
  have hS : va_S A s.heap s.heap [] := va_S.rf
  have B29 : ∀ (rec4 : MX → Int32 → Int32 → Prop) (hrec4 : ∀ (z : MX) (x1 : Int32) (x2 : Int32) (H : Heap) (locs : List Loc) (ls : Array Slot), rec4 z x1 x2 → va_P D vwCl (WM q ad z) H → va_S A s.heap H locs → lv_has ls 3 [(0, .ref (ad 0)), (1, .int x1), (2, .int x2)] → W p l e (headSpec (cW yX8_homeMany cX8_homeMany 3 (some .int)) ({ frames := 0, cells := 0, slots := 0, locals := 0 } : Room)).room s m args below meth c H locs 0 0 (MQ below (va_Qi post (gB D vwCl (WM q ad) (mE D q)) A) args s 0 0 A) (F0 m 4 ls [])) (z : MX) (x2 : Int32) (y0 : Int32) (y1 : Int32) (H : Heap) (locs : List Loc) (ls : Array Slot), pX8_homeMany_b29  rec4 post z x2 y0 y1 → va_P D vwCl (WM q ad z) H → va_S A s.heap H locs → lv_has ls 3 [(0, .ref (ad 0)), (2, .int x2)] → W p l e (headSpec (cW yX8_homeMany cX8_homeMany 3 (some .int)) ({ frames := 0, cells := 0, slots := 0, locals := 0 } : Room)).room s m args below meth c H locs 0 0 (MQ below (va_Qi post (gB D vwCl (WM q ad) (mE D q)) A) args s 0 0 A) (F0 m 29 ls [.int y1, .int y0]) := by
    intro rec4 hrec4 z x2 y0 y1 H locs ls h hP hS hl
    unfold pX8_homeMany_b29 at h
    refine lv_iadd hx hb dX8_homeMany_29 ?_
    refine lv_topi (fun x1_30 ex1_30 => ?_)
    have h := h x1_30 ex1_30
    refine lv_istore_n (lv' := [(1, .int x1_30), (0, .ref (ad 0)), (2, .int x2)]) hx hb dX8_homeMany_30 rfl hl (by decide) rfl (fun ls hl => ?_)
    obtain ⟨x2_31, ex2_31⟩ : ∃ w : Int32, w = x2 + (1 : Int32) := ⟨_, rfl⟩
    have h := h x2_31 ex2_31
    refine lv_iinc (v := x2_31) (lv' := [(2, .int x2_31), (1, .int x1_30), (0, .ref (ad 0))]) hx hb dX8_homeMany_31 hl (k := 2) rfl (by rw [ex2_31]; rfl) (by decide) rfl (fun ls hl => ?_)
    refine lv_goto (tgt := 4) hx hb dX8_homeMany_34 (by decide) ?_
    exact hrec4 z x1_30 x2_31 _ _ _ h hP hS (lv_sub hl [2, 1, 0] rfl)
  have B4 : ∀ (rec4 : MX → Int32 → Int32 → Prop) (hrec4 : ∀ (z : MX) (x1 : Int32) (x2 : Int32) (H : Heap) (locs : List Loc) (ls : Array Slot), rec4 z x1 x2 → va_P D vwCl (WM q ad z) H → va_S A s.heap H locs → lv_has ls 3 [(0, .ref (ad 0)), (1, .int x1), (2, .int x2)] → W p l e (headSpec (cW yX8_homeMany cX8_homeMany 3 (some .int)) ({ frames := 0, cells := 0, slots := 0, locals := 0 } : Room)).room s m args below meth c H locs 0 0 (MQ below (va_Qi post (gB D vwCl (WM q ad) (mE D q)) A) args s 0 0 A) (F0 m 4 ls [])) (z : MX) (x1 : Int32) (x2 : Int32) (H : Heap) (locs : List Loc) (ls : Array Slot), pX8_homeMany_l4  rec4 post z x1 x2 → va_P D vwCl (WM q ad z) H → va_S A s.heap H locs → lv_has ls 3 [(0, .ref (ad 0)), (1, .int x1), (2, .int x2)] → W p l e (headSpec (cW yX8_homeMany cX8_homeMany 3 (some .int)) ({ frames := 0, cells := 0, slots := 0, locals := 0 } : Room)).room s m args below meth c H locs 0 0 (MQ below (va_Qi post (gB D vwCl (WM q ad) (mE D q)) A) args s 0 0 A) (F0 m 4 ls []) := by
    intro rec4 hrec4 z x1 x2 H locs ls h hP hS hl
    unfold pX8_homeMany_l4 at h
    refine lv_iload_n hx hb dX8_homeMany_4 rfl (lv_at hl 2 rfl) ?_
    refine lv_aload_n hx hb dX8_homeMany_5 rfl (lv_at hl 0 rfl) ?_
    refine va_get (D := D) (ci := 8) (v := .int (z.1 0 2)) (C := RX8) (T := TX8) (N := 45) hx hb ht tl_X8 hown hK hP 0 (wm_0 q ad z) rfl 2 (by decide) (ht _ tw_fl_X8_173) (fun _ h9 => h9) rfl dX8_homeMany_6 ?_
    refine lv_icmp_ge (tgt := 37) hx hb dX8_homeMany_9 (by decide) (fun c9 => ?_) (fun c9 => ?_)
    · have h := h.1 c9
      refine lv_iload_n hx hb dX8_homeMany_37 rfl (lv_at hl 1 rfl) ?_
      exact g_ri hG hx hb hr hlocks hE hP hS h dX8_homeMany_38
    · have h := h.2 c9
      refine lv_iload_n hx hb dX8_homeMany_12 rfl (lv_at hl 1 rfl) ?_
      refine lv_aload_n hx hb dX8_homeMany_13 rfl (lv_at hl 0 rfl) ?_
      refine va_get (D := D) (ci := 8) (v := .ref (ad 12)) (C := RX8) (T := TX8) (N := 45) hx hb ht tl_X8 hown hK hP 0 (wm_0 q ad z) rfl 28 (by decide) (ht _ tw_fl_X8_48) (fun _ h9 => h9) rfl dX8_homeMany_14 ?_
      refine lv_iload_n hx hb dX8_homeMany_17 rfl (lv_at hl 2 rfl) ?_
      have hi18 := h.1
      have h := h.2
      refine va_iald hx hb hK hP 12 0 (wm_12 q ad z) rfl hi18 dX8_homeMany_18 ?_
      refine lv_bipush (v := (-4 : Int32)) hx hb dX8_homeMany_19 (by decide) ?_
      refine lv_icmp_eq (tgt := 28) hx hb dX8_homeMany_21 (by decide) (fun c21 => ?_) (fun c21 => ?_)
      · have h := h.1 c21
        refine lv_iconst (v := (0 : Int32)) hx hb dX8_homeMany_28 (by decide) ?_
        exact B29 rec4 hrec4 z x2 x1 (0 : Int32) _ _ _ h hP hS (lv_sub hl [0, 2] rfl)
      · have h := h.2 c21
        refine lv_iconst (v := (1 : Int32)) hx hb dX8_homeMany_24 (by decide) ?_
        refine lv_goto (tgt := 29) hx hb dX8_homeMany_25 (by decide) ?_
        exact B29 rec4 hrec4 z x2 x1 (1 : Int32) _ _ _ h hP hS (lv_sub hl [0, 2] rfl)
  have L4 : ∀ (n : Nat) (z : MX) (x1 : Int32) (x2 : Int32) (H : Heap) (locs : List Loc) (ls : Array Slot), pX8_homeMany_L4  post n z x1 x2 → va_P D vwCl (WM q ad z) H → va_S A s.heap H locs → lv_has ls 3 [(0, .ref (ad 0)), (1, .int x1), (2, .int x2)] → W p l e (headSpec (cW yX8_homeMany cX8_homeMany 3 (some .int)) ({ frames := 0, cells := 0, slots := 0, locals := 0 } : Room)).room s m args below meth c H locs 0 0 (MQ below (va_Qi post (gB D vwCl (WM q ad) (mE D q)) A) args s 0 0 A) (F0 m 4 ls []) := by
    intro n
    induction n with
    | zero =>
      intro z x1 x2 H locs ls h
      exact False.elim h
    | succ n ih =>
      intro z x1 x2 H locs ls h hP hS hl
      exact B4 (pX8_homeMany_L4  post n) ih z x1 x2 H locs ls h hP hS hl
  refine g_entry (vs := [.ref (ad 0)]) hargs (Nat.le_of_ble_eq_true rfl) (fun ls hl => ?_)
  have hl : lv_has ls 3 [(0, .ref (ad 0))] := hl
  unfold pX8_homeMany at h
  refine lv_iconst (v := (0 : Int32)) hx hb dX8_homeMany_0 (by decide) ?_
  refine lv_istore_n (lv' := [(1, .int (0 : Int32)), (0, .ref (ad 0))]) hx hb dX8_homeMany_1 rfl hl (by decide) rfl (fun ls hl => ?_)
  refine lv_iconst (v := (0 : Int32)) hx hb dX8_homeMany_2 (by decide) ?_
  refine lv_istore_n (lv' := [(2, .int (0 : Int32)), (1, .int (0 : Int32)), (0, .ref (ad 0))]) hx hb dX8_homeMany_3 rfl hl (by decide) rfl (fun ls hl => ?_)
  obtain ⟨n, h⟩ := h
  exact L4 n z (0 : Int32) (0 : Int32) _ _ _ h hP hS (lv_sub hl [2, 1, 0] rfl)
def pX8_sum (z : MX) (x1 : Int32) (post : Int32 → MX → Prop) : Prop :=
  pX8_in z (Int32.toInt64 x1) (0 : Int64) (4 : Int64) (fun (r6 : Int32) (z6 : MX) =>
  ((¬ r6 = 0 →
    pX8_run z6 (fun (z15 : MX) =>
    ((((x1).toInt < 0 ∨ 3 < (x1).toInt) →
      post (z15.1 0 35) z15) ∧
    (x1 = (0 : Int32) →
        pX8_cost z15 (fun (r49 : Int32) (z49 : MX) =>
        post r49 z49)) ∧
    (x1 = (1 : Int32) →
        pX8_homeMany z15 (fun (r54 : Int32) (z54 : MX) =>
        post r54 z54)) ∧
    (x1 = (2 : Int32) →
        post (z15.1 0 33) z15) ∧
    (x1 = (3 : Int32) →
        post (z15.1 0 34) z15)))) ∧
  (r6 = 0 →
    post (-1 : Int32) z6)))
set_option maxHeartbeats 4000000 in
set_option maxRecDepth 100000 in
theorem kX8_sum (l : Launch) (D : va_G) (q : Nat → ClassId) (ad : Nat → Nat) (A : Nat → Prop) (hD : ∀ z, va_D A (WM q ad z)) (z : MX) (x1 : Int32) (post : Int32 → MX → Prop) (h : pX8_sum  z x1 post) : Met l yX8_sum (cW yX8_sum cX8_sum 2 (some .int)) ({ frames := 4, cells := 0, slots := 0, locals := 88 } : Room) (va_Pc [.ref (ad 0), .int x1] ((gB D vwCl (WM q ad) (mE D q)) z)) (va_Qi post (gB D vwCl (WM q ad) (mE D q)) A) 0 0 A := by
  refine Met.ofW (cc := cX8_sum) (maxL := 2) (ret := (some .int)) (by decide) rfl ?_
  intro p e s m args below meth c s₁ B hml hv
  obtain ⟨hargs, hP, hE⟩ := hv
  have hx := B.exec
  have hb := B.bytes
  have hr := B.returns
  have hts := atoms_spec (ws := (cW yX8_sum cX8_sum 2 (some .int))) B.pre
  have ht : ∀ w ∈ tG, w.before args s = true := fun w h => hts w (List.mem_cons_of_mem _ h)
  have hown : s.vm.findClass RX8 = some m.cls := findClass_of_methodNamed B.named
  have hlocks := B.notSynchronized
  have hK := hE.1
  have hG := mE_G D q A
  have S : CallFix p m c cX8_sum 2 s args tG RX8 := ⟨hx, hb, hml, hown, ht⟩
  have hS : va_S A s.heap s.heap [] := va_S.rf
  refine g_entry (vs := [.ref (ad 0), .int x1]) hargs (Nat.le_of_ble_eq_true rfl) (fun ls hl => ?_)
  have hl : lv_has ls 2 [(0, .ref (ad 0)), (1, .int x1)] := hl
  unfold pX8_sum at h
  refine lv_iload_n hx hb dX8_sum_0 rfl (lv_at hl 1 rfl) ?_
  refine lv_i2l hx hb dX8_sum_1 rfl ?_
  refine lv_lconst (v := (0 : Int64)) hx hb dX8_sum_2 (by decide) ?_
  refine lv_ldc2 (v := (4 : Int64)) hx hb hown (ht _ tw_cn_X8_152) dX8_sum_3 ?_
  refine g_cSi (Wd := WM q ad) (z := z) (As := [.long (Int32.toInt64 x1), .long (0 : Int64), .long (4 : Int64)]) (rest := []) hG S (kX8_in l D q ad A hD z (Int32.toInt64 x1) (0 : Int64) (4 : Int64) _ h) (va_cwS 3 ht (cW_S (fun _ h => h) tw_co_X8_in tw_ml_X8_74 tw_st_X8_in tw_in_X8) rfl rfl rfl (by decide +kernel) ⟨by decide, by decide⟩) hE hP hS rfl hl.1 rfl (Nat.le_of_ble_eq_true rfl) dX8_sum_6 ⟨Nat.zero_le _, Nat.zero_le _⟩ (fun r6 z6 H locs h hP hS => ?_)
  refine lv_if_ne (tgt := 14) hx hb dX8_sum_9 (by decide) (fun c9 => ?_) (fun c9 => ?_)
  · have h := h.1 c9
    refine lv_aload_n hx hb dX8_sum_14 rfl (lv_at hl 0 rfl) ?_
    refine g_cVv (Wd := WM q ad) (z := z6) (As := []) (rest := []) hG S (kX8_run l D q ad A hD z6 _ h) (cwV 0 ht (cW_V (fun _ h => h) tw_co_X8_run tw_ml_X8_236 tw_im_X8_run tw_se_X8_run tw_in_X8) rfl rfl rfl (by decide +kernel) ⟨by decide, by decide⟩) (va_recv hK hP (ci := 8) (q0 := 0) rfl (wm_0 q ad z6)) hE hP hS rfl hl.1 rfl (Nat.le_of_ble_eq_true rfl) dX8_sum_15 ⟨Nat.zero_le _, Nat.zero_le _⟩ (fun z15 H locs h hP hS => ?_)
    refine lv_iload_n hx hb dX8_sum_18 rfl (lv_at hl 1 rfl) ?_
    rcases g_sw (x := x1) 3 3 rfl with c19 | ⟨k19, hk19, c19⟩
    · refine lv_tableOut (tgt := 68) hx hb dX8_sum_19 c19 (by decide) ?_
      have h := h.1 c19
      refine lv_aload_n hx hb dX8_sum_68 rfl (lv_at hl 0 rfl) ?_
      refine va_get (D := D) (ci := 8) (v := .int (z15.1 0 35)) (C := RX8) (T := TX8) (N := 45) hx hb ht tl_X8 hown hK hP 0 (wm_0 q ad z15) rfl 35 (by decide) (ht _ tw_fl_X8_217) (fun _ h9 => h9) rfl dX8_sum_69 ?_
      exact g_ri hG hx hb hr hlocks hE hP hS h dX8_sum_72
    · match k19, hk19, c19 with
      | 0, _, c19 =>
        have h := h.2.1 (g_eq c19 rfl)
        refine lv_tableIn (off := 29) (tgt := 48) hx hb dX8_sum_19 (by rw [c19]; decide) (by rw [c19]; decide) (by rw [c19]; rfl) (by decide) ?_
        refine lv_aload_n hx hb dX8_sum_48 rfl (lv_at hl 0 rfl) ?_
        refine g_cVi (Wd := WM q ad) (z := z15) (As := []) (rest := []) hG S (kX8_cost l D q ad A hD z15 _ h) (cwV 0 ht (cW_V (fun _ h => h) tw_co_X8_cost tw_ml_X8_241 tw_im_X8_cost tw_se_X8_cost tw_in_X8) rfl rfl rfl (by decide +kernel) ⟨by decide, by decide⟩) (va_recv hK hP (ci := 8) (q0 := 0) rfl (wm_0 q ad z15)) hE hP hS rfl hl.1 rfl (Nat.le_of_ble_eq_true rfl) dX8_sum_49 ⟨Nat.zero_le _, Nat.zero_le _⟩ (fun r49 z49 H locs h hP hS => ?_)
        exact g_ri hG hx hb hr hlocks hE hP hS h dX8_sum_52
      | 1, _, c19 =>
        have h := h.2.2.1 (g_eq c19 rfl)
        refine lv_tableIn (off := 34) (tgt := 53) hx hb dX8_sum_19 (by rw [c19]; decide) (by rw [c19]; decide) (by rw [c19]; rfl) (by decide) ?_
        refine lv_aload_n hx hb dX8_sum_53 rfl (lv_at hl 0 rfl) ?_
        refine g_cVi (Wd := WM q ad) (z := z15) (As := []) (rest := []) hG S (kX8_homeMany l D q ad A hD z15 _ h) (cwV 0 ht (cW_V (fun _ h => h) tw_co_X8_homeMany tw_ml_X8_244 tw_im_X8_homeMany tw_se_X8_homeMany tw_in_X8) rfl rfl rfl (by decide +kernel) ⟨by decide, by decide⟩) (va_recv hK hP (ci := 8) (q0 := 0) rfl (wm_0 q ad z15)) hE hP hS rfl hl.1 rfl (Nat.le_of_ble_eq_true rfl) dX8_sum_54 ⟨Nat.zero_le _, Nat.zero_le _⟩ (fun r54 z54 H locs h hP hS => ?_)
        exact g_ri hG hx hb hr hlocks hE hP hS h dX8_sum_57
      | 2, _, c19 =>
        have h := h.2.2.2.1 (g_eq c19 rfl)
        refine lv_tableIn (off := 39) (tgt := 58) hx hb dX8_sum_19 (by rw [c19]; decide) (by rw [c19]; decide) (by rw [c19]; rfl) (by decide) ?_
        refine lv_aload_n hx hb dX8_sum_58 rfl (lv_at hl 0 rfl) ?_
        refine va_get (D := D) (ci := 8) (v := .int (z15.1 0 33)) (C := RX8) (T := TX8) (N := 45) hx hb ht tl_X8 hown hK hP 0 (wm_0 q ad z15) rfl 33 (by decide) (ht _ tw_fl_X8_211) (fun _ h9 => h9) rfl dX8_sum_59 ?_
        exact g_ri hG hx hb hr hlocks hE hP hS h dX8_sum_62
      | 3, _, c19 =>
        have h := h.2.2.2.2 (g_eq c19 rfl)
        refine lv_tableIn (off := 44) (tgt := 63) hx hb dX8_sum_19 (by rw [c19]; decide) (by rw [c19]; decide) (by rw [c19]; rfl) (by decide) ?_
        refine lv_aload_n hx hb dX8_sum_63 rfl (lv_at hl 0 rfl) ?_
        refine va_get (D := D) (ci := 8) (v := .int (z15.1 0 34)) (C := RX8) (T := TX8) (N := 45) hx hb ht tl_X8 hown hK hP 0 (wm_0 q ad z15) rfl 34 (by decide) (ht _ tw_fl_X8_220) (fun _ h9 => h9) rfl dX8_sum_64 ?_
        exact g_ri hG hx hb hr hlocks hE hP hS h dX8_sum_67
      | k + 4, hk, _ => exact absurd hk (by omega)
  · have h := h.2 c9
    refine lv_iconst (v := (-1 : Int32)) hx hb dX8_sum_12 (by decide) ?_
    exact g_ri hG hx hb hr hlocks hE hP hS h dX8_sum_13
def pX8_bitsOf_l4 (rec4 : MX → Int32 → Int32 → Int32 → Prop) (post : Int32 → MX → Prop) (z : MX) (x0 : Int32) (x1 : Int32) (x2 : Int32) : Prop :=
    (((8 : Int32) ≤ x2 →
      post x1 z) ∧
    (¬ (8 : Int32) ≤ x2 →
      ∀ x1_17 : Int32, x1_17 = x1 + ((x0 >>> (x2 &&& 31)) &&& (1 : Int32)) →
      ∀ x2_18 : Int32, x2_18 = x2 + (1 : Int32) →
      rec4 z x0 x1_17 x2_18))
def pX8_bitsOf_L4 (post : Int32 → MX → Prop) : Nat → MX → Int32 → Int32 → Int32 → Prop
  | 0 => fun _ _ _ _ => False
  | n + 1 => fun z x0 x1 x2 => pX8_bitsOf_l4  (pX8_bitsOf_L4  post n) post z x0 x1 x2
def pX8_bitsOf (z : MX) (x0 : Int32) (post : Int32 → MX → Prop) : Prop :=
  ∃ n, pX8_bitsOf_L4  post n z x0 (0 : Int32) (0 : Int32)
set_option maxHeartbeats 4000000 in
set_option maxRecDepth 100000 in
theorem kX8_bitsOf (l : Launch) (D : va_G) (q : Nat → ClassId) (ad : Nat → Nat) (A : Nat → Prop) (hD : ∀ z, va_D A (WM q ad z)) (z : MX) (x0 : Int32) (post : Int32 → MX → Prop) (h : pX8_bitsOf  z x0 post) : Met l yX8_bitsOf (cW yX8_bitsOf cX8_bitsOf 3 (some .int)) ({ frames := 0, cells := 0, slots := 0, locals := 0 } : Room) (va_Pc [.int x0] ((gB D vwCl (WM q ad) (mE D q)) z)) (va_Qi post (gB D vwCl (WM q ad) (mE D q)) A) 0 0 A := by
  refine Met.ofW (cc := cX8_bitsOf) (maxL := 3) (ret := (some .int)) (by decide) rfl ?_
  intro p e s m args below meth c s₁ B hml hv
  obtain ⟨hargs, hP, hE⟩ := hv
  have hx := B.exec
  have hb := B.bytes
  have hr := B.returns
  have hts := atoms_spec (ws := (cW yX8_bitsOf cX8_bitsOf 3 (some .int))) B.pre
  have ht : ∀ w ∈ tG, w.before args s = true := fun w h => hts w (List.mem_cons_of_mem _ h)
  have hown : s.vm.findClass RX8 = some m.cls := findClass_of_methodNamed B.named
  have hlocks := B.notSynchronized
  have hK := hE.1
  have hG := mE_G D q A
  have S : CallFix p m c cX8_bitsOf 3 s args tG RX8 := ⟨hx, hb, hml, hown, ht⟩
  have hS : va_S A s.heap s.heap [] := va_S.rf
  have B4 : ∀ (rec4 : MX → Int32 → Int32 → Int32 → Prop) (hrec4 : ∀ (z : MX) (x0 : Int32) (x1 : Int32) (x2 : Int32) (H : Heap) (locs : List Loc) (ls : Array Slot), rec4 z x0 x1 x2 → va_P D vwCl (WM q ad z) H → va_S A s.heap H locs → lv_has ls 3 [(0, .int x0), (1, .int x1), (2, .int x2)] → W p l e (headSpec (cW yX8_bitsOf cX8_bitsOf 3 (some .int)) ({ frames := 0, cells := 0, slots := 0, locals := 0 } : Room)).room s m args below meth c H locs 0 0 (MQ below (va_Qi post (gB D vwCl (WM q ad) (mE D q)) A) args s 0 0 A) (F0 m 4 ls [])) (z : MX) (x0 : Int32) (x1 : Int32) (x2 : Int32) (H : Heap) (locs : List Loc) (ls : Array Slot), pX8_bitsOf_l4  rec4 post z x0 x1 x2 → va_P D vwCl (WM q ad z) H → va_S A s.heap H locs → lv_has ls 3 [(0, .int x0), (1, .int x1), (2, .int x2)] → W p l e (headSpec (cW yX8_bitsOf cX8_bitsOf 3 (some .int)) ({ frames := 0, cells := 0, slots := 0, locals := 0 } : Room)).room s m args below meth c H locs 0 0 (MQ below (va_Qi post (gB D vwCl (WM q ad) (mE D q)) A) args s 0 0 A) (F0 m 4 ls []) := by
    intro rec4 hrec4 z x0 x1 x2 H locs ls h hP hS hl
    unfold pX8_bitsOf_l4 at h
    refine lv_iload_n hx hb dX8_bitsOf_4 rfl (lv_at hl 2 rfl) ?_
    refine lv_bipush (v := (8 : Int32)) hx hb dX8_bitsOf_5 (by decide) ?_
    refine lv_icmp_ge (tgt := 24) hx hb dX8_bitsOf_7 (by decide) (fun c7 => ?_) (fun c7 => ?_)
    · have h := h.1 c7
      refine lv_iload_n hx hb dX8_bitsOf_24 rfl (lv_at hl 1 rfl) ?_
      exact g_ri hG hx hb hr hlocks hE hP hS h dX8_bitsOf_25
    · have h := h.2 c7
      refine lv_iload_n hx hb dX8_bitsOf_10 rfl (lv_at hl 1 rfl) ?_
      refine lv_iload_n hx hb dX8_bitsOf_11 rfl (lv_at hl 0 rfl) ?_
      refine lv_iload_n hx hb dX8_bitsOf_12 rfl (lv_at hl 2 rfl) ?_
      refine lv_ishr hx hb dX8_bitsOf_13 ?_
      refine lv_iconst (v := (1 : Int32)) hx hb dX8_bitsOf_14 (by decide) ?_
      refine lv_iand hx hb dX8_bitsOf_15 ?_
      refine lv_iadd hx hb dX8_bitsOf_16 ?_
      refine lv_topi (fun x1_17 ex1_17 => ?_)
      have h := h x1_17 ex1_17
      refine lv_istore_n (lv' := [(1, .int x1_17), (0, .int x0), (2, .int x2)]) hx hb dX8_bitsOf_17 rfl hl (by decide) rfl (fun ls hl => ?_)
      obtain ⟨x2_18, ex2_18⟩ : ∃ w : Int32, w = x2 + (1 : Int32) := ⟨_, rfl⟩
      have h := h x2_18 ex2_18
      refine lv_iinc (v := x2_18) (lv' := [(2, .int x2_18), (1, .int x1_17), (0, .int x0)]) hx hb dX8_bitsOf_18 hl (k := 2) rfl (by rw [ex2_18]; rfl) (by decide) rfl (fun ls hl => ?_)
      refine lv_goto (tgt := 4) hx hb dX8_bitsOf_21 (by decide) ?_
      exact hrec4 z x0 x1_17 x2_18 _ _ _ h hP hS (lv_sub hl [2, 1, 0] rfl)
  have L4 : ∀ (n : Nat) (z : MX) (x0 : Int32) (x1 : Int32) (x2 : Int32) (H : Heap) (locs : List Loc) (ls : Array Slot), pX8_bitsOf_L4  post n z x0 x1 x2 → va_P D vwCl (WM q ad z) H → va_S A s.heap H locs → lv_has ls 3 [(0, .int x0), (1, .int x1), (2, .int x2)] → W p l e (headSpec (cW yX8_bitsOf cX8_bitsOf 3 (some .int)) ({ frames := 0, cells := 0, slots := 0, locals := 0 } : Room)).room s m args below meth c H locs 0 0 (MQ below (va_Qi post (gB D vwCl (WM q ad) (mE D q)) A) args s 0 0 A) (F0 m 4 ls []) := by
    intro n
    induction n with
    | zero =>
      intro z x0 x1 x2 H locs ls h
      exact False.elim h
    | succ n ih =>
      intro z x0 x1 x2 H locs ls h hP hS hl
      exact B4 (pX8_bitsOf_L4  post n) ih z x0 x1 x2 H locs ls h hP hS hl
  refine g_entry (vs := [.int x0]) hargs (Nat.le_of_ble_eq_true rfl) (fun ls hl => ?_)
  have hl : lv_has ls 3 [(0, .int x0)] := hl
  unfold pX8_bitsOf at h
  refine lv_iconst (v := (0 : Int32)) hx hb dX8_bitsOf_0 (by decide) ?_
  refine lv_istore_n (lv' := [(1, .int (0 : Int32)), (0, .int x0)]) hx hb dX8_bitsOf_1 rfl hl (by decide) rfl (fun ls hl => ?_)
  refine lv_iconst (v := (0 : Int32)) hx hb dX8_bitsOf_2 (by decide) ?_
  refine lv_istore_n (lv' := [(2, .int (0 : Int32)), (1, .int (0 : Int32)), (0, .int x0)]) hx hb dX8_bitsOf_3 rfl hl (by decide) rfl (fun ls hl => ?_)
  obtain ⟨n, h⟩ := h
  exact L4 n z x0 (0 : Int32) (0 : Int32) _ _ _ h hP hS (lv_sub hl [2, 1, 0] rfl)
def pX8_isFewer_b17 (post : Int32 → MX → Prop) (z : MX) : Prop :=
    (((1 : Int32) = 0 ∨ (1 : Int32) = 1) ∧ post (1 : Int32) z)
def pX8_isFewer (z : MX) (x1 : Int32) (x2 : Int32) (post : Int32 → MX → Prop) : Prop :=
  ((x2 = (-4 : Int32) →
    pX8_isFewer_b17  post z) ∧
  (¬ x2 = (-4 : Int32) →
    pX8_bitsOf z x1 (fun (r7 : Int32) (z7 : MX) =>
    pX8_bitsOf z7 x2 (fun (r11 : Int32) (z11 : MX) =>
    ((r11 ≤ r7 →
      (((0 : Int32) = 0 ∨ (0 : Int32) = 1) ∧ post (0 : Int32) z11)) ∧
    (¬ r11 ≤ r7 →
      pX8_isFewer_b17  post z11))))))
set_option maxHeartbeats 4000000 in
set_option maxRecDepth 100000 in
theorem kX8_isFewer (l : Launch) (D : va_G) (q : Nat → ClassId) (ad : Nat → Nat) (A : Nat → Prop) (hD : ∀ z, va_D A (WM q ad z)) (z : MX) (x1 : Int32) (x2 : Int32) (post : Int32 → MX → Prop) (h : pX8_isFewer  z x1 x2 post) : Met l yX8_isFewer (cW yX8_isFewer cX8_isFewer 3 (some .boolean)) ({ frames := 1, cells := 0, slots := 0, locals := 22 } : Room) (va_Pc [.ref (ad 0), .int x1, .int x2] ((gB D vwCl (WM q ad) (mE D q)) z)) (va_Qi post (gB D vwCl (WM q ad) (mE D q)) A) 0 0 A := by
  refine Met.ofW (cc := cX8_isFewer) (maxL := 3) (ret := (some .boolean)) (by decide) rfl ?_
  intro p e s m args below meth c s₁ B hml hv
  obtain ⟨hargs, hP, hE⟩ := hv
  have hx := B.exec
  have hb := B.bytes
  have hr := B.returns
  have hts := atoms_spec (ws := (cW yX8_isFewer cX8_isFewer 3 (some .boolean))) B.pre
  have ht : ∀ w ∈ tG, w.before args s = true := fun w h => hts w (List.mem_cons_of_mem _ h)
  have hown : s.vm.findClass RX8 = some m.cls := findClass_of_methodNamed B.named
  have hlocks := B.notSynchronized
  have hK := hE.1
  have hG := mE_G D q A
  have S : CallFix p m c cX8_isFewer 3 s args tG RX8 := ⟨hx, hb, hml, hown, ht⟩
  have hS : va_S A s.heap s.heap [] := va_S.rf
  have B17 : ∀ (z : MX) (H : Heap) (locs : List Loc) (ls : Array Slot), pX8_isFewer_b17  post z → va_P D vwCl (WM q ad z) H → va_S A s.heap H locs → lv_has ls 3 [] → W p l e (headSpec (cW yX8_isFewer cX8_isFewer 3 (some .boolean)) ({ frames := 1, cells := 0, slots := 0, locals := 22 } : Room)).room s m args below meth c H locs 0 0 (MQ below (va_Qi post (gB D vwCl (WM q ad) (mE D q)) A) args s 0 0 A) (F0 m 17 ls []) := by
    intro z H locs ls h hP hS hl
    unfold pX8_isFewer_b17 at h
    refine lv_iconst (v := (1 : Int32)) hx hb dX8_isFewer_17 (by decide) ?_
    refine lv_goto (tgt := 22) hx hb dX8_isFewer_18 (by decide) ?_
    exact g_rz hG hx hb hr hlocks hE hP hS h dX8_isFewer_22
  refine g_entry (vs := [.ref (ad 0), .int x1, .int x2]) hargs (Nat.le_of_ble_eq_true rfl) (fun ls hl => ?_)
  have hl : lv_has ls 3 [(0, .ref (ad 0)), (1, .int x1), (2, .int x2)] := hl
  unfold pX8_isFewer at h
  refine lv_iload_n hx hb dX8_isFewer_0 rfl (lv_at hl 2 rfl) ?_
  refine lv_bipush (v := (-4 : Int32)) hx hb dX8_isFewer_1 (by decide) ?_
  refine lv_icmp_eq (tgt := 17) hx hb dX8_isFewer_3 (by decide) (fun c3 => ?_) (fun c3 => ?_)
  · have h := h.1 c3
    exact B17 z _ _ _ h hP hS (lv_sub hl [] rfl)
  · have h := h.2 c3
    refine lv_iload_n hx hb dX8_isFewer_6 rfl (lv_at hl 1 rfl) ?_
    refine g_cSi (Wd := WM q ad) (z := z) (As := [.int x1]) (rest := []) hG S (kX8_bitsOf l D q ad A hD z x1 _ h) (va_cwS 1 ht (cW_S (fun _ h => h) tw_co_X8_bitsOf tw_ml_X8_247 tw_st_X8_bitsOf tw_in_X8) rfl rfl rfl (by decide +kernel) ⟨by decide, by decide⟩) hE hP hS rfl hl.1 rfl (Nat.le_of_ble_eq_true rfl) dX8_isFewer_7 ⟨Nat.zero_le _, Nat.zero_le _⟩ (fun r7 z7 H locs h hP hS => ?_)
    refine lv_iload_n hx hb dX8_isFewer_10 rfl (lv_at hl 2 rfl) ?_
    refine g_cSi (Wd := WM q ad) (z := z7) (As := [.int x2]) (rest := [.int r7]) hG S (kX8_bitsOf l D q ad A hD z7 x2 _ h) (va_cwS 1 ht (cW_S (fun _ h => h) tw_co_X8_bitsOf tw_ml_X8_247 tw_st_X8_bitsOf tw_in_X8) rfl rfl rfl (by decide +kernel) ⟨by decide, by decide⟩) hE hP hS rfl hl.1 rfl (Nat.le_of_ble_eq_true rfl) dX8_isFewer_11 ⟨Nat.zero_le _, Nat.zero_le _⟩ (fun r11 z11 H locs h hP hS => ?_)
    refine lv_icmp_ge (tgt := 21) hx hb dX8_isFewer_14 (by decide) (fun c14 => ?_) (fun c14 => ?_)
    · have h := h.1 c14
      refine lv_iconst (v := (0 : Int32)) hx hb dX8_isFewer_21 (by decide) ?_
      exact g_rz hG hx hb hr hlocks hE hP hS h dX8_isFewer_22
    · have h := h.2 c14
      exact B17 z11 _ _ _ h hP hS (lv_sub hl [] rfl)
def pX8_fewest_b101 (post : Int32 → MX → Prop) (z : MX) (x3 : Int32) : Prop :=
    post x3 z
def pX8_fewest_b76 (rec26 : MX → Int32 → Int32 → Int32 → Int32 → Prop) (post : Int32 → MX → Prop) (z : MX) (x1 : Int32) (x2 : Int32) (x3 : Int32) (x4 : Int32) : Prop :=
    ∀ x4_76 : Int32, x4_76 = x4 + (1 : Int32) →
    rec26 z x1 x2 x3 x4_76
def pX8_fewest_b75 (rec26 : MX → Int32 → Int32 → Int32 → Int32 → Prop) (post : Int32 → MX → Prop) (z : MX) (x1 : Int32) (x2 : Int32) (x4 : Int32) (y0 : Int32) : Prop :=
    pX8_fewest_b76  rec26 post z x1 x2 y0 x4
def pX8_fewest_l26 (rec26 : MX → Int32 → Int32 → Int32 → Int32 → Prop) (post : Int32 → MX → Prop) (z : MX) (x1 : Int32) (x2 : Int32) (x3 : Int32) (x4 : Int32) : Prop :=
    ((((1 : Int32) <<< ((z.1 0 1) &&& 31)) ≤ x4 →
      vp_in (8 : Int32) 125 ∧
      ∀ z89 : MX, z89 = mw z 1 (Int32.toNatClampNeg (8 : Int32)) x2 →
      ((x3 = (-4 : Int32) →
        pX8_fewest_b101  post z89 x3) ∧
      (¬ x3 = (-4 : Int32) →
        ((¬ x1 = (1 : Int32) →
          pX8_bitsOf z89 x3 (fun (r106 : Int32) (z106 : MX) =>
          post r106 z106)) ∧
        (x1 = (1 : Int32) →
          pX8_fewest_b101  post z89 x3))))) ∧
    (¬ ((1 : Int32) <<< ((z.1 0 1) &&& 31)) ≤ x4 →
      pX8_isFewer z x4 x3 (fun (r41 : Int32) (z41 : MX) =>
      ((r41 = 0 →
        pX8_fewest_b76  rec26 post z41 x1 x2 x3 x4) ∧
      (¬ r41 = 0 →
        vp_in (8 : Int32) 125 ∧
        ∀ z55 : MX, z55 = mw z41 1 (Int32.toNatClampNeg (8 : Int32)) x4 →
        pX8_run z55 (fun (z57 : MX) =>
        ((¬ (z57.1 0 30) = (-4 : Int32) →
          pX8_fewest_b75  rec26 post z57 x1 x2 x4 x3) ∧
        ((z57.1 0 30) = (-4 : Int32) →
          pX8_fewest_b75  rec26 post z57 x1 x2 x4 x4))))))))
def pX8_fewest_L26 (post : Int32 → MX → Prop) : Nat → MX → Int32 → Int32 → Int32 → Int32 → Prop
  | 0 => fun _ _ _ _ _ => False
  | n + 1 => fun z x1 x2 x3 x4 => pX8_fewest_l26  (pX8_fewest_L26  post n) post z x1 x2 x3 x4
def pX8_fewest (z : MX) (x1 : Int32) (post : Int32 → MX → Prop) : Prop :=
  pX8_in z (Int32.toInt64 x1) (0 : Int64) (1 : Int64) (fun (r4 : Int32) (z4 : MX) =>
  ((¬ r4 = 0 →
    vp_in (8 : Int32) 125 ∧
    ∀ x2_19 : Int32, x2_19 = z4.1 1 (Int32.toNatClampNeg (8 : Int32)) →
    ∃ n, pX8_fewest_L26  post n z4 x1 x2_19 (-4 : Int32) (0 : Int32)) ∧
  (r4 = 0 →
    post (-1 : Int32) z4)))
set_option maxHeartbeats 4000000 in
set_option maxRecDepth 100000 in
theorem kX8_fewest (l : Launch) (D : va_G) (q : Nat → ClassId) (ad : Nat → Nat) (A : Nat → Prop) (hD : ∀ z, va_D A (WM q ad z)) (z : MX) (x1 : Int32) (post : Int32 → MX → Prop) (h : pX8_fewest  z x1 post) : Met l yX8_fewest (cW yX8_fewest cX8_fewest 5 (some .int)) ({ frames := 4, cells := 0, slots := 0, locals := 88 } : Room) (va_Pc [.ref (ad 0), .int x1] ((gB D vwCl (WM q ad) (mE D q)) z)) (va_Qi post (gB D vwCl (WM q ad) (mE D q)) A) 0 0 A := by
  refine Met.ofW (cc := cX8_fewest) (maxL := 5) (ret := (some .int)) (by decide) rfl ?_
  intro p e s m args below meth c s₁ B hml hv
  obtain ⟨hargs, hP, hE⟩ := hv
  have hx := B.exec
  have hb := B.bytes
  have hr := B.returns
  have hts := atoms_spec (ws := (cW yX8_fewest cX8_fewest 5 (some .int))) B.pre
  have ht : ∀ w ∈ tG, w.before args s = true := fun w h => hts w (List.mem_cons_of_mem _ h)
  have hown : s.vm.findClass RX8 = some m.cls := findClass_of_methodNamed B.named
  have hlocks := B.notSynchronized
  have hK := hE.1
  have hG := mE_G D q A
  have S : CallFix p m c cX8_fewest 5 s args tG RX8 := ⟨hx, hb, hml, hown, ht⟩
  have hS : va_S A s.heap s.heap [] := va_S.rf
  have B101 : ∀ (z : MX) (x3 : Int32) (H : Heap) (locs : List Loc) (ls : Array Slot), pX8_fewest_b101  post z x3 → va_P D vwCl (WM q ad z) H → va_S A s.heap H locs → lv_has ls 5 [(3, .int x3)] → W p l e (headSpec (cW yX8_fewest cX8_fewest 5 (some .int)) ({ frames := 4, cells := 0, slots := 0, locals := 88 } : Room)).room s m args below meth c H locs 0 0 (MQ below (va_Qi post (gB D vwCl (WM q ad) (mE D q)) A) args s 0 0 A) (F0 m 101 ls []) := by
    intro z x3 H locs ls h hP hS hl
    unfold pX8_fewest_b101 at h
    refine lv_iload_n hx hb dX8_fewest_101 rfl (lv_at hl 0 rfl) ?_
    refine lv_goto (tgt := 109) hx hb dX8_fewest_102 (by decide) ?_
    exact g_ri hG hx hb hr hlocks hE hP hS h dX8_fewest_109
  have B76 : ∀ (rec26 : MX → Int32 → Int32 → Int32 → Int32 → Prop) (hrec26 : ∀ (z : MX) (x1 : Int32) (x2 : Int32) (x3 : Int32) (x4 : Int32) (H : Heap) (locs : List Loc) (ls : Array Slot), rec26 z x1 x2 x3 x4 → va_P D vwCl (WM q ad z) H → va_S A s.heap H locs → lv_has ls 5 [(0, .ref (ad 0)), (1, .int x1), (2, .int x2), (3, .int x3), (4, .int x4)] → W p l e (headSpec (cW yX8_fewest cX8_fewest 5 (some .int)) ({ frames := 4, cells := 0, slots := 0, locals := 88 } : Room)).room s m args below meth c H locs 0 0 (MQ below (va_Qi post (gB D vwCl (WM q ad) (mE D q)) A) args s 0 0 A) (F0 m 26 ls [])) (z : MX) (x1 : Int32) (x2 : Int32) (x3 : Int32) (x4 : Int32) (H : Heap) (locs : List Loc) (ls : Array Slot), pX8_fewest_b76  rec26 post z x1 x2 x3 x4 → va_P D vwCl (WM q ad z) H → va_S A s.heap H locs → lv_has ls 5 [(0, .ref (ad 0)), (1, .int x1), (2, .int x2), (3, .int x3), (4, .int x4)] → W p l e (headSpec (cW yX8_fewest cX8_fewest 5 (some .int)) ({ frames := 4, cells := 0, slots := 0, locals := 88 } : Room)).room s m args below meth c H locs 0 0 (MQ below (va_Qi post (gB D vwCl (WM q ad) (mE D q)) A) args s 0 0 A) (F0 m 76 ls []) := by
    intro rec26 hrec26 z x1 x2 x3 x4 H locs ls h hP hS hl
    unfold pX8_fewest_b76 at h
    obtain ⟨x4_76, ex4_76⟩ : ∃ w : Int32, w = x4 + (1 : Int32) := ⟨_, rfl⟩
    have h := h x4_76 ex4_76
    refine lv_iinc (v := x4_76) (lv' := [(4, .int x4_76), (0, .ref (ad 0)), (1, .int x1), (2, .int x2), (3, .int x3)]) hx hb dX8_fewest_76 hl (k := 4) rfl (by rw [ex4_76]; rfl) (by decide) rfl (fun ls hl => ?_)
    refine lv_goto (tgt := 26) hx hb dX8_fewest_79 (by decide) ?_
    exact hrec26 z x1 x2 x3 x4_76 _ _ _ h hP hS (lv_sub hl [1, 2, 3, 4, 0] rfl)
  have B75 : ∀ (rec26 : MX → Int32 → Int32 → Int32 → Int32 → Prop) (hrec26 : ∀ (z : MX) (x1 : Int32) (x2 : Int32) (x3 : Int32) (x4 : Int32) (H : Heap) (locs : List Loc) (ls : Array Slot), rec26 z x1 x2 x3 x4 → va_P D vwCl (WM q ad z) H → va_S A s.heap H locs → lv_has ls 5 [(0, .ref (ad 0)), (1, .int x1), (2, .int x2), (3, .int x3), (4, .int x4)] → W p l e (headSpec (cW yX8_fewest cX8_fewest 5 (some .int)) ({ frames := 4, cells := 0, slots := 0, locals := 88 } : Room)).room s m args below meth c H locs 0 0 (MQ below (va_Qi post (gB D vwCl (WM q ad) (mE D q)) A) args s 0 0 A) (F0 m 26 ls [])) (z : MX) (x1 : Int32) (x2 : Int32) (x4 : Int32) (y0 : Int32) (H : Heap) (locs : List Loc) (ls : Array Slot), pX8_fewest_b75  rec26 post z x1 x2 x4 y0 → va_P D vwCl (WM q ad z) H → va_S A s.heap H locs → lv_has ls 5 [(0, .ref (ad 0)), (1, .int x1), (2, .int x2), (4, .int x4)] → W p l e (headSpec (cW yX8_fewest cX8_fewest 5 (some .int)) ({ frames := 4, cells := 0, slots := 0, locals := 88 } : Room)).room s m args below meth c H locs 0 0 (MQ below (va_Qi post (gB D vwCl (WM q ad) (mE D q)) A) args s 0 0 A) (F0 m 75 ls [.int y0]) := by
    intro rec26 hrec26 z x1 x2 x4 y0 H locs ls h hP hS hl
    unfold pX8_fewest_b75 at h
    refine lv_istore_n (lv' := [(3, .int y0), (0, .ref (ad 0)), (1, .int x1), (2, .int x2), (4, .int x4)]) hx hb dX8_fewest_75 rfl hl (by decide) rfl (fun ls hl => ?_)
    exact B76 rec26 hrec26 z x1 x2 y0 x4 _ _ _ h hP hS (lv_sub hl [1, 2, 3, 0, 4] rfl)
  have B26 : ∀ (rec26 : MX → Int32 → Int32 → Int32 → Int32 → Prop) (hrec26 : ∀ (z : MX) (x1 : Int32) (x2 : Int32) (x3 : Int32) (x4 : Int32) (H : Heap) (locs : List Loc) (ls : Array Slot), rec26 z x1 x2 x3 x4 → va_P D vwCl (WM q ad z) H → va_S A s.heap H locs → lv_has ls 5 [(0, .ref (ad 0)), (1, .int x1), (2, .int x2), (3, .int x3), (4, .int x4)] → W p l e (headSpec (cW yX8_fewest cX8_fewest 5 (some .int)) ({ frames := 4, cells := 0, slots := 0, locals := 88 } : Room)).room s m args below meth c H locs 0 0 (MQ below (va_Qi post (gB D vwCl (WM q ad) (mE D q)) A) args s 0 0 A) (F0 m 26 ls [])) (z : MX) (x1 : Int32) (x2 : Int32) (x3 : Int32) (x4 : Int32) (H : Heap) (locs : List Loc) (ls : Array Slot), pX8_fewest_l26  rec26 post z x1 x2 x3 x4 → va_P D vwCl (WM q ad z) H → va_S A s.heap H locs → lv_has ls 5 [(0, .ref (ad 0)), (1, .int x1), (2, .int x2), (3, .int x3), (4, .int x4)] → W p l e (headSpec (cW yX8_fewest cX8_fewest 5 (some .int)) ({ frames := 4, cells := 0, slots := 0, locals := 88 } : Room)).room s m args below meth c H locs 0 0 (MQ below (va_Qi post (gB D vwCl (WM q ad) (mE D q)) A) args s 0 0 A) (F0 m 26 ls []) := by
    intro rec26 hrec26 z x1 x2 x3 x4 H locs ls h hP hS hl
    unfold pX8_fewest_l26 at h
    refine lv_iload hx hb dX8_fewest_26 (lv_at hl 4 rfl) ?_
    refine lv_iconst (v := (1 : Int32)) hx hb dX8_fewest_28 (by decide) ?_
    refine lv_aload_n hx hb dX8_fewest_29 rfl (lv_at hl 0 rfl) ?_
    refine va_get (D := D) (ci := 8) (v := .int (z.1 0 1)) (C := RX8) (T := TX8) (N := 45) hx hb ht tl_X8 hown hK hP 0 (wm_0 q ad z) rfl 1 (by decide) (ht _ tw_fl_X8_13) (fun _ h9 => h9) rfl dX8_fewest_30 ?_
    refine lv_ishl hx hb dX8_fewest_33 ?_
    refine lv_icmp_ge (tgt := 82) hx hb dX8_fewest_34 (by decide) (fun c34 => ?_) (fun c34 => ?_)
    · have h := h.1 c34
      refine lv_aload_n hx hb dX8_fewest_82 rfl (lv_at hl 0 rfl) ?_
      refine va_get (D := D) (ci := 8) (v := .ref (ad 1)) (C := RX8) (T := TX8) (N := 45) hx hb ht tl_X8 hown hK hP 0 (wm_0 q ad z) rfl 0 (by decide) (ht _ tw_fl_X8_7) (fun _ h9 => h9) rfl dX8_fewest_83 ?_
      refine lv_bipush (v := (8 : Int32)) hx hb dX8_fewest_86 (by decide) ?_
      refine lv_iload_n hx hb dX8_fewest_88 rfl (lv_at hl 2 rfl) ?_
      have hi89 := h.1
      have h := h.2
      refine g_iast (Wd := WM q ad) (z := z) hx hb hK hP (hD z) hS 1 (wm_1 q ad z) rfl (am_1 q ad z) hi89 dX8_fewest_89 (fun z89 H locs hz89 hP hS => ?_)
      have h := h z89 hz89
      refine lv_iload_n hx hb dX8_fewest_90 rfl (lv_at hl 3 rfl) ?_
      refine lv_bipush (v := (-4 : Int32)) hx hb dX8_fewest_91 (by decide) ?_
      refine lv_icmp_eq (tgt := 101) hx hb dX8_fewest_93 (by decide) (fun c93 => ?_) (fun c93 => ?_)
      · have h := h.1 c93
        exact B101 z89 x3 _ _ _ h hP hS (lv_sub hl [3] rfl)
      · have h := h.2 c93
        refine lv_iload_n hx hb dX8_fewest_96 rfl (lv_at hl 1 rfl) ?_
        refine lv_iconst (v := (1 : Int32)) hx hb dX8_fewest_97 (by decide) ?_
        refine lv_icmp_ne (tgt := 105) hx hb dX8_fewest_98 (by decide) (fun c98 => ?_) (fun c98 => ?_)
        · have h := h.1 c98
          refine lv_iload_n hx hb dX8_fewest_105 rfl (lv_at hl 3 rfl) ?_
          refine g_cSi (Wd := WM q ad) (z := z89) (As := [.int x3]) (rest := []) hG S (kX8_bitsOf l D q ad A hD z89 x3 _ h) (va_cwS 1 ht (cW_S (fun _ h => h) tw_co_X8_bitsOf tw_ml_X8_247 tw_st_X8_bitsOf tw_in_X8) rfl rfl rfl (by decide +kernel) ⟨by decide, by decide⟩) hE hP hS rfl hl.1 rfl (Nat.le_of_ble_eq_true rfl) dX8_fewest_106 ⟨Nat.zero_le _, Nat.zero_le _⟩ (fun r106 z106 H locs h hP hS => ?_)
          exact g_ri hG hx hb hr hlocks hE hP hS h dX8_fewest_109
        · have h := h.2 c98
          exact B101 z89 x3 _ _ _ h hP hS (lv_sub hl [3] rfl)
    · have h := h.2 c34
      refine lv_aload_n hx hb dX8_fewest_37 rfl (lv_at hl 0 rfl) ?_
      refine lv_iload hx hb dX8_fewest_38 (lv_at hl 4 rfl) ?_
      refine lv_iload_n hx hb dX8_fewest_40 rfl (lv_at hl 3 rfl) ?_
      refine g_cVi (Wd := WM q ad) (z := z) (As := [.int x4, .int x3]) (rest := []) hG S (kX8_isFewer l D q ad A hD z x4 x3 _ h) (cwV 2 ht (cW_V (fun _ h => h) tw_co_X8_isFewer tw_ml_X8_250 tw_im_X8_isFewer tw_se_X8_isFewer tw_in_X8) rfl rfl rfl (by decide +kernel) ⟨by decide, by decide⟩) (va_recv hK hP (ci := 8) (q0 := 0) rfl (wm_0 q ad z)) hE hP hS rfl hl.1 rfl (Nat.le_of_ble_eq_true rfl) dX8_fewest_41 ⟨Nat.zero_le _, Nat.zero_le _⟩ (fun r41 z41 H locs h hP hS => ?_)
      refine lv_if_eq (tgt := 76) hx hb dX8_fewest_44 (by decide) (fun c44 => ?_) (fun c44 => ?_)
      · have h := h.1 c44
        exact B76 rec26 hrec26 z41 x1 x2 x3 x4 _ _ _ h hP hS (lv_sub hl [0, 1, 2, 3, 4] rfl)
      · have h := h.2 c44
        refine lv_aload_n hx hb dX8_fewest_47 rfl (lv_at hl 0 rfl) ?_
        refine va_get (D := D) (ci := 8) (v := .ref (ad 1)) (C := RX8) (T := TX8) (N := 45) hx hb ht tl_X8 hown hK hP 0 (wm_0 q ad z41) rfl 0 (by decide) (ht _ tw_fl_X8_7) (fun _ h9 => h9) rfl dX8_fewest_48 ?_
        refine lv_bipush (v := (8 : Int32)) hx hb dX8_fewest_51 (by decide) ?_
        refine lv_iload hx hb dX8_fewest_53 (lv_at hl 4 rfl) ?_
        have hi55 := h.1
        have h := h.2
        refine g_iast (Wd := WM q ad) (z := z41) hx hb hK hP (hD z41) hS 1 (wm_1 q ad z41) rfl (am_1 q ad z41) hi55 dX8_fewest_55 (fun z55 H locs hz55 hP hS => ?_)
        have h := h z55 hz55
        refine lv_aload_n hx hb dX8_fewest_56 rfl (lv_at hl 0 rfl) ?_
        refine g_cVv (Wd := WM q ad) (z := z55) (As := []) (rest := []) hG S (kX8_run l D q ad A hD z55 _ h) (cwV 0 ht (cW_V (fun _ h => h) tw_co_X8_run tw_ml_X8_236 tw_im_X8_run tw_se_X8_run tw_in_X8) rfl rfl rfl (by decide +kernel) ⟨by decide, by decide⟩) (va_recv hK hP (ci := 8) (q0 := 0) rfl (wm_0 q ad z55)) hE hP hS rfl hl.1 rfl (Nat.le_of_ble_eq_true rfl) dX8_fewest_57 ⟨Nat.zero_le _, Nat.zero_le _⟩ (fun z57 H locs h hP hS => ?_)
        refine lv_aload_n hx hb dX8_fewest_60 rfl (lv_at hl 0 rfl) ?_
        refine va_get (D := D) (ci := 8) (v := .int (z57.1 0 30)) (C := RX8) (T := TX8) (N := 45) hx hb ht tl_X8 hown hK hP 0 (wm_0 q ad z57) rfl 30 (by decide) (ht _ tw_fl_X8_223) (fun _ h9 => h9) rfl dX8_fewest_61 ?_
        refine lv_bipush (v := (-4 : Int32)) hx hb dX8_fewest_64 (by decide) ?_
        refine lv_icmp_ne (tgt := 74) hx hb dX8_fewest_66 (by decide) (fun c66 => ?_) (fun c66 => ?_)
        · have h := h.1 c66
          refine lv_iload_n hx hb dX8_fewest_74 rfl (lv_at hl 3 rfl) ?_
          exact B75 rec26 hrec26 z57 x1 x2 x4 x3 _ _ _ h hP hS (lv_sub hl [0, 1, 2, 4] rfl)
        · have h := h.2 c66
          refine lv_iload hx hb dX8_fewest_69 (lv_at hl 4 rfl) ?_
          refine lv_goto (tgt := 75) hx hb dX8_fewest_71 (by decide) ?_
          exact B75 rec26 hrec26 z57 x1 x2 x4 x4 _ _ _ h hP hS (lv_sub hl [0, 1, 2, 4] rfl)
  have L26 : ∀ (n : Nat) (z : MX) (x1 : Int32) (x2 : Int32) (x3 : Int32) (x4 : Int32) (H : Heap) (locs : List Loc) (ls : Array Slot), pX8_fewest_L26  post n z x1 x2 x3 x4 → va_P D vwCl (WM q ad z) H → va_S A s.heap H locs → lv_has ls 5 [(0, .ref (ad 0)), (1, .int x1), (2, .int x2), (3, .int x3), (4, .int x4)] → W p l e (headSpec (cW yX8_fewest cX8_fewest 5 (some .int)) ({ frames := 4, cells := 0, slots := 0, locals := 88 } : Room)).room s m args below meth c H locs 0 0 (MQ below (va_Qi post (gB D vwCl (WM q ad) (mE D q)) A) args s 0 0 A) (F0 m 26 ls []) := by
    intro n
    induction n with
    | zero =>
      intro z x1 x2 x3 x4 H locs ls h
      exact False.elim h
    | succ n ih =>
      intro z x1 x2 x3 x4 H locs ls h hP hS hl
      exact B26 (pX8_fewest_L26  post n) ih z x1 x2 x3 x4 H locs ls h hP hS hl
  refine g_entry (vs := [.ref (ad 0), .int x1]) hargs (Nat.le_of_ble_eq_true rfl) (fun ls hl => ?_)
  have hl : lv_has ls 5 [(0, .ref (ad 0)), (1, .int x1)] := hl
  unfold pX8_fewest at h
  refine lv_iload_n hx hb dX8_fewest_0 rfl (lv_at hl 1 rfl) ?_
  refine lv_i2l hx hb dX8_fewest_1 rfl ?_
  refine lv_lconst (v := (0 : Int64)) hx hb dX8_fewest_2 (by decide) ?_
  refine lv_lconst (v := (1 : Int64)) hx hb dX8_fewest_3 (by decide) ?_
  refine g_cSi (Wd := WM q ad) (z := z) (As := [.long (Int32.toInt64 x1), .long (0 : Int64), .long (1 : Int64)]) (rest := []) hG S (kX8_in l D q ad A hD z (Int32.toInt64 x1) (0 : Int64) (1 : Int64) _ h) (va_cwS 3 ht (cW_S (fun _ h => h) tw_co_X8_in tw_ml_X8_74 tw_st_X8_in tw_in_X8) rfl rfl rfl (by decide +kernel) ⟨by decide, by decide⟩) hE hP hS rfl hl.1 rfl (Nat.le_of_ble_eq_true rfl) dX8_fewest_4 ⟨Nat.zero_le _, Nat.zero_le _⟩ (fun r4 z4 H locs h hP hS => ?_)
  refine lv_if_ne (tgt := 12) hx hb dX8_fewest_7 (by decide) (fun c7 => ?_) (fun c7 => ?_)
  · have h := h.1 c7
    refine lv_aload_n hx hb dX8_fewest_12 rfl (lv_at hl 0 rfl) ?_
    refine va_get (D := D) (ci := 8) (v := .ref (ad 1)) (C := RX8) (T := TX8) (N := 45) hx hb ht tl_X8 hown hK hP 0 (wm_0 q ad z4) rfl 0 (by decide) (ht _ tw_fl_X8_7) (fun _ h9 => h9) rfl dX8_fewest_13 ?_
    refine lv_bipush (v := (8 : Int32)) hx hb dX8_fewest_16 (by decide) ?_
    have hi18 := h.1
    have h := h.2
    refine va_iald hx hb hK hP 1 0 (wm_1 q ad z4) rfl hi18 dX8_fewest_18 ?_
    refine lv_topi (fun x2_19 ex2_19 => ?_)
    have h := h x2_19 ex2_19
    refine lv_istore_n (lv' := [(2, .int x2_19), (0, .ref (ad 0)), (1, .int x1)]) hx hb dX8_fewest_19 rfl hl (by decide) rfl (fun ls hl => ?_)
    refine lv_bipush (v := (-4 : Int32)) hx hb dX8_fewest_20 (by decide) ?_
    refine lv_istore_n (lv' := [(3, .int (-4 : Int32)), (2, .int x2_19), (0, .ref (ad 0)), (1, .int x1)]) hx hb dX8_fewest_22 rfl hl (by decide) rfl (fun ls hl => ?_)
    refine lv_iconst (v := (0 : Int32)) hx hb dX8_fewest_23 (by decide) ?_
    refine lv_istore (lv' := [(4, .int (0 : Int32)), (3, .int (-4 : Int32)), (2, .int x2_19), (0, .ref (ad 0)), (1, .int x1)]) hx hb dX8_fewest_24 hl (by decide) rfl (fun ls hl => ?_)
    obtain ⟨n, h⟩ := h
    exact L26 n z4 x1 x2_19 (-4 : Int32) (0 : Int32) _ _ _ h hP hS (lv_sub hl [3, 4, 2, 1, 0] rfl)
  · have h := h.2 c7
    refine lv_iconst (v := (-1 : Int32)) hx hb dX8_fewest_10 (by decide) ?_
    exact g_ri hG hx hb hr hlocks hE hP hS h dX8_fewest_11
def pX8_guards_b134 (post : Int32 → MX → Prop) (z : MX) (x3 : Int32) : Prop :=
    post x3 z
def pX8_guards_b107 (rec30 : MX → Int32 → Int32 → Int32 → Int32 → Int32 → Prop) (post : Int32 → MX → Prop) (z : MX) (x1 : Int32) (x2 : Int32) (x3 : Int32) (x5 : Int32) (y0 : Int32) : Prop :=
    ∀ x5_109 : Int32, x5_109 = x5 + (1 : Int32) →
    rec30 z x1 x2 x3 y0 x5_109
def pX8_guards_b92 (rec30 : MX → Int32 → Int32 → Int32 → Int32 → Int32 → Prop) (post : Int32 → MX → Prop) (z : MX) (x1 : Int32) (x2 : Int32) (x4 : Int32) (x5 : Int32) (x6 : Int32) (y0 : Int32) : Prop :=
    ((x6 = 0 →
      pX8_guards_b107  rec30 post z x1 x2 y0 x5 x4) ∧
    (¬ x6 = 0 →
      pX8_cost z (fun (r99 : Int32) (z99 : MX) =>
      pX8_guards_b107  rec30 post z99 x1 x2 y0 x5 r99)))
def pX8_guards_b79 (rec30 : MX → Int32 → Int32 → Int32 → Int32 → Int32 → Prop) (post : Int32 → MX → Prop) (z : MX) (x1 : Int32) (x2 : Int32) (x3 : Int32) (x4 : Int32) (x5 : Int32) (y0 : Int32) : Prop :=
    ((y0 = 0 →
      pX8_guards_b92  rec30 post z x1 x2 x4 x5 y0 x3) ∧
    (¬ y0 = 0 →
      pX8_guards_b92  rec30 post z x1 x2 x4 x5 y0 x5))
def pX8_guards_b78 (rec30 : MX → Int32 → Int32 → Int32 → Int32 → Int32 → Prop) (post : Int32 → MX → Prop) (z : MX) (x1 : Int32) (x2 : Int32) (x3 : Int32) (x4 : Int32) (x5 : Int32) : Prop :=
    pX8_guards_b79  rec30 post z x1 x2 x3 x4 x5 (0 : Int32)
def pX8_guards_l30 (rec30 : MX → Int32 → Int32 → Int32 → Int32 → Int32 → Prop) (post : Int32 → MX → Prop) (z : MX) (x1 : Int32) (x2 : Int32) (x3 : Int32) (x4 : Int32) (x5 : Int32) : Prop :=
    ((((1 : Int32) <<< ((z.1 0 1) &&& 31)) ≤ x5 →
      vp_in (8 : Int32) 125 ∧
      ∀ z122 : MX, z122 = mw z 1 (Int32.toNatClampNeg (8 : Int32)) x2 →
      ((x3 = (-4 : Int32) →
        pX8_guards_b134  post z122 x3) ∧
      (¬ x3 = (-4 : Int32) →
        ((¬ x1 = (1 : Int32) →
          post x4 z122) ∧
        (x1 = (1 : Int32) →
          pX8_guards_b134  post z122 x3))))) ∧
    (¬ ((1 : Int32) <<< ((z.1 0 1) &&& 31)) ≤ x5 →
      vp_in (8 : Int32) 125 ∧
      ∀ z49 : MX, z49 = mw z 1 (Int32.toNatClampNeg (8 : Int32)) x5 →
      pX8_run z49 (fun (z51 : MX) =>
      pX8_homeMany z51 (fun (r55 : Int32) (z55 : MX) =>
      ((¬ r55 = (z55.1 0 2) →
        pX8_guards_b78  rec30 post z55 x1 x2 x3 x4 x5) ∧
      (r55 = (z55.1 0 2) →
        pX8_cost z55 (fun (r66 : Int32) (z66 : MX) =>
        ((x4 ≤ r66 →
          pX8_guards_b78  rec30 post z66 x1 x2 x3 x4 x5) ∧
        (¬ x4 ≤ r66 →
          pX8_guards_b79  rec30 post z66 x1 x2 x3 x4 x5 (1 : Int32))))))))))
def pX8_guards_L30 (post : Int32 → MX → Prop) : Nat → MX → Int32 → Int32 → Int32 → Int32 → Int32 → Prop
  | 0 => fun _ _ _ _ _ _ => False
  | n + 1 => fun z x1 x2 x3 x4 x5 => pX8_guards_l30  (pX8_guards_L30  post n) post z x1 x2 x3 x4 x5
def pX8_guards (z : MX) (x1 : Int32) (post : Int32 → MX → Prop) : Prop :=
  pX8_in z (Int32.toInt64 x1) (0 : Int64) (1 : Int64) (fun (r4 : Int32) (z4 : MX) =>
  ((¬ r4 = 0 →
    vp_in (8 : Int32) 125 ∧
    ∀ x2_19 : Int32, x2_19 = z4.1 1 (Int32.toNatClampNeg (8 : Int32)) →
    ∃ n, pX8_guards_L30  post n z4 x1 x2_19 (-4 : Int32) (1000000 : Int32) (0 : Int32)) ∧
  (r4 = 0 →
    post (-1 : Int32) z4)))
set_option maxHeartbeats 4000000 in
set_option maxRecDepth 100000 in
theorem kX8_guards (l : Launch) (D : va_G) (q : Nat → ClassId) (ad : Nat → Nat) (A : Nat → Prop) (hD : ∀ z, va_D A (WM q ad z)) (z : MX) (x1 : Int32) (post : Int32 → MX → Prop) (h : pX8_guards  z x1 post) : Met l yX8_guards (cW yX8_guards cX8_guards 7 (some .int)) ({ frames := 4, cells := 0, slots := 0, locals := 88 } : Room) (va_Pc [.ref (ad 0), .int x1] ((gB D vwCl (WM q ad) (mE D q)) z)) (va_Qi post (gB D vwCl (WM q ad) (mE D q)) A) 0 0 A := by
  refine Met.ofW (cc := cX8_guards) (maxL := 7) (ret := (some .int)) (by decide) rfl ?_
  intro p e s m args below meth c s₁ B hml hv
  obtain ⟨hargs, hP, hE⟩ := hv
  have hx := B.exec
  have hb := B.bytes
  have hr := B.returns
  have hts := atoms_spec (ws := (cW yX8_guards cX8_guards 7 (some .int))) B.pre
  have ht : ∀ w ∈ tG, w.before args s = true := fun w h => hts w (List.mem_cons_of_mem _ h)
  have hown : s.vm.findClass RX8 = some m.cls := findClass_of_methodNamed B.named
  have hlocks := B.notSynchronized
  have hK := hE.1
  have hG := mE_G D q A
  have S : CallFix p m c cX8_guards 7 s args tG RX8 := ⟨hx, hb, hml, hown, ht⟩
  have hS : va_S A s.heap s.heap [] := va_S.rf
  have B134 : ∀ (z : MX) (x3 : Int32) (H : Heap) (locs : List Loc) (ls : Array Slot), pX8_guards_b134  post z x3 → va_P D vwCl (WM q ad z) H → va_S A s.heap H locs → lv_has ls 7 [(3, .int x3)] → W p l e (headSpec (cW yX8_guards cX8_guards 7 (some .int)) ({ frames := 4, cells := 0, slots := 0, locals := 88 } : Room)).room s m args below meth c H locs 0 0 (MQ below (va_Qi post (gB D vwCl (WM q ad) (mE D q)) A) args s 0 0 A) (F0 m 134 ls []) := by
    intro z x3 H locs ls h hP hS hl
    unfold pX8_guards_b134 at h
    refine lv_iload_n hx hb dX8_guards_134 rfl (lv_at hl 0 rfl) ?_
    refine lv_goto (tgt := 140) hx hb dX8_guards_135 (by decide) ?_
    exact g_ri hG hx hb hr hlocks hE hP hS h dX8_guards_140
  have B107 : ∀ (rec30 : MX → Int32 → Int32 → Int32 → Int32 → Int32 → Prop) (hrec30 : ∀ (z : MX) (x1 : Int32) (x2 : Int32) (x3 : Int32) (x4 : Int32) (x5 : Int32) (H : Heap) (locs : List Loc) (ls : Array Slot), rec30 z x1 x2 x3 x4 x5 → va_P D vwCl (WM q ad z) H → va_S A s.heap H locs → lv_has ls 7 [(0, .ref (ad 0)), (1, .int x1), (2, .int x2), (3, .int x3), (4, .int x4), (5, .int x5)] → W p l e (headSpec (cW yX8_guards cX8_guards 7 (some .int)) ({ frames := 4, cells := 0, slots := 0, locals := 88 } : Room)).room s m args below meth c H locs 0 0 (MQ below (va_Qi post (gB D vwCl (WM q ad) (mE D q)) A) args s 0 0 A) (F0 m 30 ls [])) (z : MX) (x1 : Int32) (x2 : Int32) (x3 : Int32) (x5 : Int32) (y0 : Int32) (H : Heap) (locs : List Loc) (ls : Array Slot), pX8_guards_b107  rec30 post z x1 x2 x3 x5 y0 → va_P D vwCl (WM q ad z) H → va_S A s.heap H locs → lv_has ls 7 [(0, .ref (ad 0)), (1, .int x1), (2, .int x2), (3, .int x3), (5, .int x5)] → W p l e (headSpec (cW yX8_guards cX8_guards 7 (some .int)) ({ frames := 4, cells := 0, slots := 0, locals := 88 } : Room)).room s m args below meth c H locs 0 0 (MQ below (va_Qi post (gB D vwCl (WM q ad) (mE D q)) A) args s 0 0 A) (F0 m 107 ls [.int y0]) := by
    intro rec30 hrec30 z x1 x2 x3 x5 y0 H locs ls h hP hS hl
    unfold pX8_guards_b107 at h
    refine lv_istore (lv' := [(4, .int y0), (0, .ref (ad 0)), (1, .int x1), (2, .int x2), (3, .int x3), (5, .int x5)]) hx hb dX8_guards_107 hl (by decide) rfl (fun ls hl => ?_)
    obtain ⟨x5_109, ex5_109⟩ : ∃ w : Int32, w = x5 + (1 : Int32) := ⟨_, rfl⟩
    have h := h x5_109 ex5_109
    refine lv_iinc (v := x5_109) (lv' := [(5, .int x5_109), (4, .int y0), (0, .ref (ad 0)), (1, .int x1), (2, .int x2), (3, .int x3)]) hx hb dX8_guards_109 hl (k := 5) rfl (by rw [ex5_109]; rfl) (by decide) rfl (fun ls hl => ?_)
    refine lv_goto (tgt := 30) hx hb dX8_guards_112 (by decide) ?_
    exact hrec30 z x1 x2 x3 y0 x5_109 _ _ _ h hP hS (lv_sub hl [2, 3, 4, 5, 1, 0] rfl)
  have B92 : ∀ (rec30 : MX → Int32 → Int32 → Int32 → Int32 → Int32 → Prop) (hrec30 : ∀ (z : MX) (x1 : Int32) (x2 : Int32) (x3 : Int32) (x4 : Int32) (x5 : Int32) (H : Heap) (locs : List Loc) (ls : Array Slot), rec30 z x1 x2 x3 x4 x5 → va_P D vwCl (WM q ad z) H → va_S A s.heap H locs → lv_has ls 7 [(0, .ref (ad 0)), (1, .int x1), (2, .int x2), (3, .int x3), (4, .int x4), (5, .int x5)] → W p l e (headSpec (cW yX8_guards cX8_guards 7 (some .int)) ({ frames := 4, cells := 0, slots := 0, locals := 88 } : Room)).room s m args below meth c H locs 0 0 (MQ below (va_Qi post (gB D vwCl (WM q ad) (mE D q)) A) args s 0 0 A) (F0 m 30 ls [])) (z : MX) (x1 : Int32) (x2 : Int32) (x4 : Int32) (x5 : Int32) (x6 : Int32) (y0 : Int32) (H : Heap) (locs : List Loc) (ls : Array Slot), pX8_guards_b92  rec30 post z x1 x2 x4 x5 x6 y0 → va_P D vwCl (WM q ad z) H → va_S A s.heap H locs → lv_has ls 7 [(0, .ref (ad 0)), (1, .int x1), (2, .int x2), (4, .int x4), (5, .int x5), (6, .int x6)] → W p l e (headSpec (cW yX8_guards cX8_guards 7 (some .int)) ({ frames := 4, cells := 0, slots := 0, locals := 88 } : Room)).room s m args below meth c H locs 0 0 (MQ below (va_Qi post (gB D vwCl (WM q ad) (mE D q)) A) args s 0 0 A) (F0 m 92 ls [.int y0]) := by
    intro rec30 hrec30 z x1 x2 x4 x5 x6 y0 H locs ls h hP hS hl
    unfold pX8_guards_b92 at h
    refine lv_istore_n (lv' := [(3, .int y0), (0, .ref (ad 0)), (1, .int x1), (2, .int x2), (4, .int x4), (5, .int x5), (6, .int x6)]) hx hb dX8_guards_92 rfl hl (by decide) rfl (fun ls hl => ?_)
    refine lv_iload hx hb dX8_guards_93 (lv_at hl 6 rfl) ?_
    refine lv_if_eq (tgt := 105) hx hb dX8_guards_95 (by decide) (fun c95 => ?_) (fun c95 => ?_)
    · have h := h.1 c95
      refine lv_iload hx hb dX8_guards_105 (lv_at hl 4 rfl) ?_
      exact B107 rec30 hrec30 z x1 x2 y0 x5 x4 _ _ _ h hP hS (lv_sub hl [1, 2, 3, 0, 5] rfl)
    · have h := h.2 c95
      refine lv_aload_n hx hb dX8_guards_98 rfl (lv_at hl 1 rfl) ?_
      refine g_cVi (Wd := WM q ad) (z := z) (As := []) (rest := []) hG S (kX8_cost l D q ad A hD z _ h) (cwV 0 ht (cW_V (fun _ h => h) tw_co_X8_cost tw_ml_X8_241 tw_im_X8_cost tw_se_X8_cost tw_in_X8) rfl rfl rfl (by decide +kernel) ⟨by decide, by decide⟩) (va_recv hK hP (ci := 8) (q0 := 0) rfl (wm_0 q ad z)) hE hP hS rfl hl.1 rfl (Nat.le_of_ble_eq_true rfl) dX8_guards_99 ⟨Nat.zero_le _, Nat.zero_le _⟩ (fun r99 z99 H locs h hP hS => ?_)
      refine lv_goto (tgt := 107) hx hb dX8_guards_102 (by decide) ?_
      exact B107 rec30 hrec30 z99 x1 x2 y0 x5 r99 _ _ _ h hP hS (lv_sub hl [1, 2, 3, 0, 5] rfl)
  have B79 : ∀ (rec30 : MX → Int32 → Int32 → Int32 → Int32 → Int32 → Prop) (hrec30 : ∀ (z : MX) (x1 : Int32) (x2 : Int32) (x3 : Int32) (x4 : Int32) (x5 : Int32) (H : Heap) (locs : List Loc) (ls : Array Slot), rec30 z x1 x2 x3 x4 x5 → va_P D vwCl (WM q ad z) H → va_S A s.heap H locs → lv_has ls 7 [(0, .ref (ad 0)), (1, .int x1), (2, .int x2), (3, .int x3), (4, .int x4), (5, .int x5)] → W p l e (headSpec (cW yX8_guards cX8_guards 7 (some .int)) ({ frames := 4, cells := 0, slots := 0, locals := 88 } : Room)).room s m args below meth c H locs 0 0 (MQ below (va_Qi post (gB D vwCl (WM q ad) (mE D q)) A) args s 0 0 A) (F0 m 30 ls [])) (z : MX) (x1 : Int32) (x2 : Int32) (x3 : Int32) (x4 : Int32) (x5 : Int32) (y0 : Int32) (H : Heap) (locs : List Loc) (ls : Array Slot), pX8_guards_b79  rec30 post z x1 x2 x3 x4 x5 y0 → va_P D vwCl (WM q ad z) H → va_S A s.heap H locs → lv_has ls 7 [(0, .ref (ad 0)), (1, .int x1), (2, .int x2), (3, .int x3), (4, .int x4), (5, .int x5)] → W p l e (headSpec (cW yX8_guards cX8_guards 7 (some .int)) ({ frames := 4, cells := 0, slots := 0, locals := 88 } : Room)).room s m args below meth c H locs 0 0 (MQ below (va_Qi post (gB D vwCl (WM q ad) (mE D q)) A) args s 0 0 A) (F0 m 79 ls [.int y0]) := by
    intro rec30 hrec30 z x1 x2 x3 x4 x5 y0 H locs ls h hP hS hl
    unfold pX8_guards_b79 at h
    refine lv_istore (lv' := [(6, .int y0), (0, .ref (ad 0)), (1, .int x1), (2, .int x2), (3, .int x3), (4, .int x4), (5, .int x5)]) hx hb dX8_guards_79 hl (by decide) rfl (fun ls hl => ?_)
    refine lv_iload hx hb dX8_guards_81 (lv_at hl 0 rfl) ?_
    refine lv_if_eq (tgt := 91) hx hb dX8_guards_83 (by decide) (fun c83 => ?_) (fun c83 => ?_)
    · have h := h.1 c83
      refine lv_iload_n hx hb dX8_guards_91 rfl (lv_at hl 4 rfl) ?_
      exact B92 rec30 hrec30 z x1 x2 x4 x5 y0 x3 _ _ _ h hP hS (lv_sub hl [1, 2, 3, 5, 6, 0] rfl)
    · have h := h.2 c83
      refine lv_iload hx hb dX8_guards_86 (lv_at hl 6 rfl) ?_
      refine lv_goto (tgt := 92) hx hb dX8_guards_88 (by decide) ?_
      exact B92 rec30 hrec30 z x1 x2 x4 x5 y0 x5 _ _ _ h hP hS (lv_sub hl [1, 2, 3, 5, 6, 0] rfl)
  have B78 : ∀ (rec30 : MX → Int32 → Int32 → Int32 → Int32 → Int32 → Prop) (hrec30 : ∀ (z : MX) (x1 : Int32) (x2 : Int32) (x3 : Int32) (x4 : Int32) (x5 : Int32) (H : Heap) (locs : List Loc) (ls : Array Slot), rec30 z x1 x2 x3 x4 x5 → va_P D vwCl (WM q ad z) H → va_S A s.heap H locs → lv_has ls 7 [(0, .ref (ad 0)), (1, .int x1), (2, .int x2), (3, .int x3), (4, .int x4), (5, .int x5)] → W p l e (headSpec (cW yX8_guards cX8_guards 7 (some .int)) ({ frames := 4, cells := 0, slots := 0, locals := 88 } : Room)).room s m args below meth c H locs 0 0 (MQ below (va_Qi post (gB D vwCl (WM q ad) (mE D q)) A) args s 0 0 A) (F0 m 30 ls [])) (z : MX) (x1 : Int32) (x2 : Int32) (x3 : Int32) (x4 : Int32) (x5 : Int32) (H : Heap) (locs : List Loc) (ls : Array Slot), pX8_guards_b78  rec30 post z x1 x2 x3 x4 x5 → va_P D vwCl (WM q ad z) H → va_S A s.heap H locs → lv_has ls 7 [(0, .ref (ad 0)), (1, .int x1), (2, .int x2), (3, .int x3), (4, .int x4), (5, .int x5)] → W p l e (headSpec (cW yX8_guards cX8_guards 7 (some .int)) ({ frames := 4, cells := 0, slots := 0, locals := 88 } : Room)).room s m args below meth c H locs 0 0 (MQ below (va_Qi post (gB D vwCl (WM q ad) (mE D q)) A) args s 0 0 A) (F0 m 78 ls []) := by
    intro rec30 hrec30 z x1 x2 x3 x4 x5 H locs ls h hP hS hl
    unfold pX8_guards_b78 at h
    refine lv_iconst (v := (0 : Int32)) hx hb dX8_guards_78 (by decide) ?_
    exact B79 rec30 hrec30 z x1 x2 x3 x4 x5 (0 : Int32) _ _ _ h hP hS (lv_sub hl [0, 1, 2, 3, 4, 5] rfl)
  have B30 : ∀ (rec30 : MX → Int32 → Int32 → Int32 → Int32 → Int32 → Prop) (hrec30 : ∀ (z : MX) (x1 : Int32) (x2 : Int32) (x3 : Int32) (x4 : Int32) (x5 : Int32) (H : Heap) (locs : List Loc) (ls : Array Slot), rec30 z x1 x2 x3 x4 x5 → va_P D vwCl (WM q ad z) H → va_S A s.heap H locs → lv_has ls 7 [(0, .ref (ad 0)), (1, .int x1), (2, .int x2), (3, .int x3), (4, .int x4), (5, .int x5)] → W p l e (headSpec (cW yX8_guards cX8_guards 7 (some .int)) ({ frames := 4, cells := 0, slots := 0, locals := 88 } : Room)).room s m args below meth c H locs 0 0 (MQ below (va_Qi post (gB D vwCl (WM q ad) (mE D q)) A) args s 0 0 A) (F0 m 30 ls [])) (z : MX) (x1 : Int32) (x2 : Int32) (x3 : Int32) (x4 : Int32) (x5 : Int32) (H : Heap) (locs : List Loc) (ls : Array Slot), pX8_guards_l30  rec30 post z x1 x2 x3 x4 x5 → va_P D vwCl (WM q ad z) H → va_S A s.heap H locs → lv_has ls 7 [(0, .ref (ad 0)), (1, .int x1), (2, .int x2), (3, .int x3), (4, .int x4), (5, .int x5)] → W p l e (headSpec (cW yX8_guards cX8_guards 7 (some .int)) ({ frames := 4, cells := 0, slots := 0, locals := 88 } : Room)).room s m args below meth c H locs 0 0 (MQ below (va_Qi post (gB D vwCl (WM q ad) (mE D q)) A) args s 0 0 A) (F0 m 30 ls []) := by
    intro rec30 hrec30 z x1 x2 x3 x4 x5 H locs ls h hP hS hl
    unfold pX8_guards_l30 at h
    refine lv_iload hx hb dX8_guards_30 (lv_at hl 5 rfl) ?_
    refine lv_iconst (v := (1 : Int32)) hx hb dX8_guards_32 (by decide) ?_
    refine lv_aload_n hx hb dX8_guards_33 rfl (lv_at hl 0 rfl) ?_
    refine va_get (D := D) (ci := 8) (v := .int (z.1 0 1)) (C := RX8) (T := TX8) (N := 45) hx hb ht tl_X8 hown hK hP 0 (wm_0 q ad z) rfl 1 (by decide) (ht _ tw_fl_X8_13) (fun _ h9 => h9) rfl dX8_guards_34 ?_
    refine lv_ishl hx hb dX8_guards_37 ?_
    refine lv_icmp_ge (tgt := 115) hx hb dX8_guards_38 (by decide) (fun c38 => ?_) (fun c38 => ?_)
    · have h := h.1 c38
      refine lv_aload_n hx hb dX8_guards_115 rfl (lv_at hl 0 rfl) ?_
      refine va_get (D := D) (ci := 8) (v := .ref (ad 1)) (C := RX8) (T := TX8) (N := 45) hx hb ht tl_X8 hown hK hP 0 (wm_0 q ad z) rfl 0 (by decide) (ht _ tw_fl_X8_7) (fun _ h9 => h9) rfl dX8_guards_116 ?_
      refine lv_bipush (v := (8 : Int32)) hx hb dX8_guards_119 (by decide) ?_
      refine lv_iload_n hx hb dX8_guards_121 rfl (lv_at hl 2 rfl) ?_
      have hi122 := h.1
      have h := h.2
      refine g_iast (Wd := WM q ad) (z := z) hx hb hK hP (hD z) hS 1 (wm_1 q ad z) rfl (am_1 q ad z) hi122 dX8_guards_122 (fun z122 H locs hz122 hP hS => ?_)
      have h := h z122 hz122
      refine lv_iload_n hx hb dX8_guards_123 rfl (lv_at hl 3 rfl) ?_
      refine lv_bipush (v := (-4 : Int32)) hx hb dX8_guards_124 (by decide) ?_
      refine lv_icmp_eq (tgt := 134) hx hb dX8_guards_126 (by decide) (fun c126 => ?_) (fun c126 => ?_)
      · have h := h.1 c126
        exact B134 z122 x3 _ _ _ h hP hS (lv_sub hl [3] rfl)
      · have h := h.2 c126
        refine lv_iload_n hx hb dX8_guards_129 rfl (lv_at hl 1 rfl) ?_
        refine lv_iconst (v := (1 : Int32)) hx hb dX8_guards_130 (by decide) ?_
        refine lv_icmp_ne (tgt := 138) hx hb dX8_guards_131 (by decide) (fun c131 => ?_) (fun c131 => ?_)
        · have h := h.1 c131
          refine lv_iload hx hb dX8_guards_138 (lv_at hl 4 rfl) ?_
          exact g_ri hG hx hb hr hlocks hE hP hS h dX8_guards_140
        · have h := h.2 c131
          exact B134 z122 x3 _ _ _ h hP hS (lv_sub hl [3] rfl)
    · have h := h.2 c38
      refine lv_aload_n hx hb dX8_guards_41 rfl (lv_at hl 0 rfl) ?_
      refine va_get (D := D) (ci := 8) (v := .ref (ad 1)) (C := RX8) (T := TX8) (N := 45) hx hb ht tl_X8 hown hK hP 0 (wm_0 q ad z) rfl 0 (by decide) (ht _ tw_fl_X8_7) (fun _ h9 => h9) rfl dX8_guards_42 ?_
      refine lv_bipush (v := (8 : Int32)) hx hb dX8_guards_45 (by decide) ?_
      refine lv_iload hx hb dX8_guards_47 (lv_at hl 5 rfl) ?_
      have hi49 := h.1
      have h := h.2
      refine g_iast (Wd := WM q ad) (z := z) hx hb hK hP (hD z) hS 1 (wm_1 q ad z) rfl (am_1 q ad z) hi49 dX8_guards_49 (fun z49 H locs hz49 hP hS => ?_)
      have h := h z49 hz49
      refine lv_aload_n hx hb dX8_guards_50 rfl (lv_at hl 0 rfl) ?_
      refine g_cVv (Wd := WM q ad) (z := z49) (As := []) (rest := []) hG S (kX8_run l D q ad A hD z49 _ h) (cwV 0 ht (cW_V (fun _ h => h) tw_co_X8_run tw_ml_X8_236 tw_im_X8_run tw_se_X8_run tw_in_X8) rfl rfl rfl (by decide +kernel) ⟨by decide, by decide⟩) (va_recv hK hP (ci := 8) (q0 := 0) rfl (wm_0 q ad z49)) hE hP hS rfl hl.1 rfl (Nat.le_of_ble_eq_true rfl) dX8_guards_51 ⟨Nat.zero_le _, Nat.zero_le _⟩ (fun z51 H locs h hP hS => ?_)
      refine lv_aload_n hx hb dX8_guards_54 rfl (lv_at hl 0 rfl) ?_
      refine g_cVi (Wd := WM q ad) (z := z51) (As := []) (rest := []) hG S (kX8_homeMany l D q ad A hD z51 _ h) (cwV 0 ht (cW_V (fun _ h => h) tw_co_X8_homeMany tw_ml_X8_244 tw_im_X8_homeMany tw_se_X8_homeMany tw_in_X8) rfl rfl rfl (by decide +kernel) ⟨by decide, by decide⟩) (va_recv hK hP (ci := 8) (q0 := 0) rfl (wm_0 q ad z51)) hE hP hS rfl hl.1 rfl (Nat.le_of_ble_eq_true rfl) dX8_guards_55 ⟨Nat.zero_le _, Nat.zero_le _⟩ (fun r55 z55 H locs h hP hS => ?_)
      refine lv_aload_n hx hb dX8_guards_58 rfl (lv_at hl 0 rfl) ?_
      refine va_get (D := D) (ci := 8) (v := .int (z55.1 0 2)) (C := RX8) (T := TX8) (N := 45) hx hb ht tl_X8 hown hK hP 0 (wm_0 q ad z55) rfl 2 (by decide) (ht _ tw_fl_X8_173) (fun _ h9 => h9) rfl dX8_guards_59 ?_
      refine lv_icmp_ne (tgt := 78) hx hb dX8_guards_62 (by decide) (fun c62 => ?_) (fun c62 => ?_)
      · have h := h.1 c62
        exact B78 rec30 hrec30 z55 x1 x2 x3 x4 x5 _ _ _ h hP hS (lv_sub hl [0, 1, 2, 3, 4, 5] rfl)
      · have h := h.2 c62
        refine lv_aload_n hx hb dX8_guards_65 rfl (lv_at hl 0 rfl) ?_
        refine g_cVi (Wd := WM q ad) (z := z55) (As := []) (rest := []) hG S (kX8_cost l D q ad A hD z55 _ h) (cwV 0 ht (cW_V (fun _ h => h) tw_co_X8_cost tw_ml_X8_241 tw_im_X8_cost tw_se_X8_cost tw_in_X8) rfl rfl rfl (by decide +kernel) ⟨by decide, by decide⟩) (va_recv hK hP (ci := 8) (q0 := 0) rfl (wm_0 q ad z55)) hE hP hS rfl hl.1 rfl (Nat.le_of_ble_eq_true rfl) dX8_guards_66 ⟨Nat.zero_le _, Nat.zero_le _⟩ (fun r66 z66 H locs h hP hS => ?_)
        refine lv_iload hx hb dX8_guards_69 (lv_at hl 4 rfl) ?_
        refine lv_icmp_ge (tgt := 78) hx hb dX8_guards_71 (by decide) (fun c71 => ?_) (fun c71 => ?_)
        · have h := h.1 c71
          exact B78 rec30 hrec30 z66 x1 x2 x3 x4 x5 _ _ _ h hP hS (lv_sub hl [0, 1, 2, 3, 4, 5] rfl)
        · have h := h.2 c71
          refine lv_iconst (v := (1 : Int32)) hx hb dX8_guards_74 (by decide) ?_
          refine lv_goto (tgt := 79) hx hb dX8_guards_75 (by decide) ?_
          exact B79 rec30 hrec30 z66 x1 x2 x3 x4 x5 (1 : Int32) _ _ _ h hP hS (lv_sub hl [0, 1, 2, 3, 4, 5] rfl)
  have L30 : ∀ (n : Nat) (z : MX) (x1 : Int32) (x2 : Int32) (x3 : Int32) (x4 : Int32) (x5 : Int32) (H : Heap) (locs : List Loc) (ls : Array Slot), pX8_guards_L30  post n z x1 x2 x3 x4 x5 → va_P D vwCl (WM q ad z) H → va_S A s.heap H locs → lv_has ls 7 [(0, .ref (ad 0)), (1, .int x1), (2, .int x2), (3, .int x3), (4, .int x4), (5, .int x5)] → W p l e (headSpec (cW yX8_guards cX8_guards 7 (some .int)) ({ frames := 4, cells := 0, slots := 0, locals := 88 } : Room)).room s m args below meth c H locs 0 0 (MQ below (va_Qi post (gB D vwCl (WM q ad) (mE D q)) A) args s 0 0 A) (F0 m 30 ls []) := by
    intro n
    induction n with
    | zero =>
      intro z x1 x2 x3 x4 x5 H locs ls h
      exact False.elim h
    | succ n ih =>
      intro z x1 x2 x3 x4 x5 H locs ls h hP hS hl
      exact B30 (pX8_guards_L30  post n) ih z x1 x2 x3 x4 x5 H locs ls h hP hS hl
  refine g_entry (vs := [.ref (ad 0), .int x1]) hargs (Nat.le_of_ble_eq_true rfl) (fun ls hl => ?_)
  have hl : lv_has ls 7 [(0, .ref (ad 0)), (1, .int x1)] := hl
  unfold pX8_guards at h
  refine lv_iload_n hx hb dX8_guards_0 rfl (lv_at hl 1 rfl) ?_
  refine lv_i2l hx hb dX8_guards_1 rfl ?_
  refine lv_lconst (v := (0 : Int64)) hx hb dX8_guards_2 (by decide) ?_
  refine lv_lconst (v := (1 : Int64)) hx hb dX8_guards_3 (by decide) ?_
  refine g_cSi (Wd := WM q ad) (z := z) (As := [.long (Int32.toInt64 x1), .long (0 : Int64), .long (1 : Int64)]) (rest := []) hG S (kX8_in l D q ad A hD z (Int32.toInt64 x1) (0 : Int64) (1 : Int64) _ h) (va_cwS 3 ht (cW_S (fun _ h => h) tw_co_X8_in tw_ml_X8_74 tw_st_X8_in tw_in_X8) rfl rfl rfl (by decide +kernel) ⟨by decide, by decide⟩) hE hP hS rfl hl.1 rfl (Nat.le_of_ble_eq_true rfl) dX8_guards_4 ⟨Nat.zero_le _, Nat.zero_le _⟩ (fun r4 z4 H locs h hP hS => ?_)
  refine lv_if_ne (tgt := 12) hx hb dX8_guards_7 (by decide) (fun c7 => ?_) (fun c7 => ?_)
  · have h := h.1 c7
    refine lv_aload_n hx hb dX8_guards_12 rfl (lv_at hl 0 rfl) ?_
    refine va_get (D := D) (ci := 8) (v := .ref (ad 1)) (C := RX8) (T := TX8) (N := 45) hx hb ht tl_X8 hown hK hP 0 (wm_0 q ad z4) rfl 0 (by decide) (ht _ tw_fl_X8_7) (fun _ h9 => h9) rfl dX8_guards_13 ?_
    refine lv_bipush (v := (8 : Int32)) hx hb dX8_guards_16 (by decide) ?_
    have hi18 := h.1
    have h := h.2
    refine va_iald hx hb hK hP 1 0 (wm_1 q ad z4) rfl hi18 dX8_guards_18 ?_
    refine lv_topi (fun x2_19 ex2_19 => ?_)
    have h := h x2_19 ex2_19
    refine lv_istore_n (lv' := [(2, .int x2_19), (0, .ref (ad 0)), (1, .int x1)]) hx hb dX8_guards_19 rfl hl (by decide) rfl (fun ls hl => ?_)
    refine lv_bipush (v := (-4 : Int32)) hx hb dX8_guards_20 (by decide) ?_
    refine lv_istore_n (lv' := [(3, .int (-4 : Int32)), (2, .int x2_19), (0, .ref (ad 0)), (1, .int x1)]) hx hb dX8_guards_22 rfl hl (by decide) rfl (fun ls hl => ?_)
    refine lv_ldc (v := (1000000 : Int32)) hx hb hown (ht _ tw_cn_X8_254) dX8_guards_23 ?_
    refine lv_istore (lv' := [(4, .int (1000000 : Int32)), (3, .int (-4 : Int32)), (2, .int x2_19), (0, .ref (ad 0)), (1, .int x1)]) hx hb dX8_guards_25 hl (by decide) rfl (fun ls hl => ?_)
    refine lv_iconst (v := (0 : Int32)) hx hb dX8_guards_27 (by decide) ?_
    refine lv_istore (lv' := [(5, .int (0 : Int32)), (4, .int (1000000 : Int32)), (3, .int (-4 : Int32)), (2, .int x2_19), (0, .ref (ad 0)), (1, .int x1)]) hx hb dX8_guards_28 hl (by decide) rfl (fun ls hl => ?_)
    obtain ⟨n, h⟩ := h
    exact L30 n z4 x1 x2_19 (-4 : Int32) (1000000 : Int32) (0 : Int32) _ _ _ h hP hS (lv_sub hl [4, 5, 3, 2, 1, 0] rfl)
  · have h := h.2 c7
    refine lv_iconst (v := (-1 : Int32)) hx hb dX8_guards_10 (by decide) ?_
    exact g_ri hG hx hb hr hlocks hE hP hS h dX8_guards_11
def pX8_copies_l2 (rec2 : MX → Int32 → Int32 → Int32 → Prop) (post : MX → Prop) (z : MX) (x1 : Int32) (x2 : Int32) (x3 : Int32) : Prop :=
    (((25 : Int32) ≤ x3 →
      post z) ∧
    (¬ (25 : Int32) ≤ x3 →
      vp_in (x1 + x3) 125 ∧
      vp_in (x2 + x3) 125 ∧
      ∀ z23 : MX, z23 = mw z 1 (Int32.toNatClampNeg (x2 + x3)) (z.1 1 (Int32.toNatClampNeg (x1 + x3))) →
      ∀ x3_24 : Int32, x3_24 = x3 + (1 : Int32) →
      rec2 z23 x1 x2 x3_24))
def pX8_copies_L2 (post : MX → Prop) : Nat → MX → Int32 → Int32 → Int32 → Prop
  | 0 => fun _ _ _ _ => False
  | n + 1 => fun z x1 x2 x3 => pX8_copies_l2  (pX8_copies_L2  post n) post z x1 x2 x3
def pX8_copies (z : MX) (x1 : Int32) (x2 : Int32) (post : MX → Prop) : Prop :=
  ∃ n, pX8_copies_L2  post n z x1 x2 (0 : Int32)
set_option maxHeartbeats 4000000 in
set_option maxRecDepth 100000 in
theorem kX8_copies (l : Launch) (D : va_G) (q : Nat → ClassId) (ad : Nat → Nat) (A : Nat → Prop) (hD : ∀ z, va_D A (WM q ad z)) (z : MX) (x1 : Int32) (x2 : Int32) (post : MX → Prop) (h : pX8_copies  z x1 x2 post) : Met l yX8_copies (cW yX8_copies cX8_copies 4 none) ({ frames := 0, cells := 0, slots := 0, locals := 0 } : Room) (va_Pc [.ref (ad 0), .int x1, .int x2] ((gB D vwCl (WM q ad) (mE D q)) z)) (va_Qv post (gB D vwCl (WM q ad) (mE D q)) A) 0 0 A := by
  refine Met.ofW (cc := cX8_copies) (maxL := 4) (ret := none) (by decide) rfl ?_
  intro p e s m args below meth c s₁ B hml hv
  obtain ⟨hargs, hP, hE⟩ := hv
  have hx := B.exec
  have hb := B.bytes
  have hr := B.returns
  have hts := atoms_spec (ws := (cW yX8_copies cX8_copies 4 none)) B.pre
  have ht : ∀ w ∈ tG, w.before args s = true := fun w h => hts w (List.mem_cons_of_mem _ h)
  have hown : s.vm.findClass RX8 = some m.cls := findClass_of_methodNamed B.named
  have hlocks := B.notSynchronized
  have hK := hE.1
  have hG := mE_G D q A
  have S : CallFix p m c cX8_copies 4 s args tG RX8 := ⟨hx, hb, hml, hown, ht⟩
  have hS : va_S A s.heap s.heap [] := va_S.rf
  have B2 : ∀ (rec2 : MX → Int32 → Int32 → Int32 → Prop) (hrec2 : ∀ (z : MX) (x1 : Int32) (x2 : Int32) (x3 : Int32) (H : Heap) (locs : List Loc) (ls : Array Slot), rec2 z x1 x2 x3 → va_P D vwCl (WM q ad z) H → va_S A s.heap H locs → lv_has ls 4 [(0, .ref (ad 0)), (1, .int x1), (2, .int x2), (3, .int x3)] → W p l e (headSpec (cW yX8_copies cX8_copies 4 none) ({ frames := 0, cells := 0, slots := 0, locals := 0 } : Room)).room s m args below meth c H locs 0 0 (MQ below (va_Qv post (gB D vwCl (WM q ad) (mE D q)) A) args s 0 0 A) (F0 m 2 ls [])) (z : MX) (x1 : Int32) (x2 : Int32) (x3 : Int32) (H : Heap) (locs : List Loc) (ls : Array Slot), pX8_copies_l2  rec2 post z x1 x2 x3 → va_P D vwCl (WM q ad z) H → va_S A s.heap H locs → lv_has ls 4 [(0, .ref (ad 0)), (1, .int x1), (2, .int x2), (3, .int x3)] → W p l e (headSpec (cW yX8_copies cX8_copies 4 none) ({ frames := 0, cells := 0, slots := 0, locals := 0 } : Room)).room s m args below meth c H locs 0 0 (MQ below (va_Qv post (gB D vwCl (WM q ad) (mE D q)) A) args s 0 0 A) (F0 m 2 ls []) := by
    intro rec2 hrec2 z x1 x2 x3 H locs ls h hP hS hl
    unfold pX8_copies_l2 at h
    refine lv_iload_n hx hb dX8_copies_2 rfl (lv_at hl 3 rfl) ?_
    refine lv_bipush (v := (25 : Int32)) hx hb dX8_copies_3 (by decide) ?_
    refine lv_icmp_ge (tgt := 30) hx hb dX8_copies_5 (by decide) (fun c5 => ?_) (fun c5 => ?_)
    · have h := h.1 c5
      exact g_rv hG hx hb hr hlocks hE hP hS h dX8_copies_30
    · have h := h.2 c5
      refine lv_aload_n hx hb dX8_copies_8 rfl (lv_at hl 0 rfl) ?_
      refine va_get (D := D) (ci := 8) (v := .ref (ad 1)) (C := RX8) (T := TX8) (N := 45) hx hb ht tl_X8 hown hK hP 0 (wm_0 q ad z) rfl 0 (by decide) (ht _ tw_fl_X8_7) (fun _ h9 => h9) rfl dX8_copies_9 ?_
      refine lv_iload_n hx hb dX8_copies_12 rfl (lv_at hl 2 rfl) ?_
      refine lv_iload_n hx hb dX8_copies_13 rfl (lv_at hl 3 rfl) ?_
      refine lv_iadd hx hb dX8_copies_14 ?_
      refine lv_aload_n hx hb dX8_copies_15 rfl (lv_at hl 0 rfl) ?_
      refine va_get (D := D) (ci := 8) (v := .ref (ad 1)) (C := RX8) (T := TX8) (N := 45) hx hb ht tl_X8 hown hK hP 0 (wm_0 q ad z) rfl 0 (by decide) (ht _ tw_fl_X8_7) (fun _ h9 => h9) rfl dX8_copies_16 ?_
      refine lv_iload_n hx hb dX8_copies_19 rfl (lv_at hl 1 rfl) ?_
      refine lv_iload_n hx hb dX8_copies_20 rfl (lv_at hl 3 rfl) ?_
      refine lv_iadd hx hb dX8_copies_21 ?_
      have hi22 := h.1
      have h := h.2
      refine va_iald hx hb hK hP 1 0 (wm_1 q ad z) rfl hi22 dX8_copies_22 ?_
      have hi23 := h.1
      have h := h.2
      refine g_iast (Wd := WM q ad) (z := z) hx hb hK hP (hD z) hS 1 (wm_1 q ad z) rfl (am_1 q ad z) hi23 dX8_copies_23 (fun z23 H locs hz23 hP hS => ?_)
      have h := h z23 hz23
      obtain ⟨x3_24, ex3_24⟩ : ∃ w : Int32, w = x3 + (1 : Int32) := ⟨_, rfl⟩
      have h := h x3_24 ex3_24
      refine lv_iinc (v := x3_24) (lv' := [(3, .int x3_24), (0, .ref (ad 0)), (1, .int x1), (2, .int x2)]) hx hb dX8_copies_24 hl (k := 3) rfl (by rw [ex3_24]; rfl) (by decide) rfl (fun ls hl => ?_)
      refine lv_goto (tgt := 2) hx hb dX8_copies_27 (by decide) ?_
      exact hrec2 z23 x1 x2 x3_24 _ _ _ h hP hS (lv_sub hl [1, 2, 3, 0] rfl)
  have L2 : ∀ (n : Nat) (z : MX) (x1 : Int32) (x2 : Int32) (x3 : Int32) (H : Heap) (locs : List Loc) (ls : Array Slot), pX8_copies_L2  post n z x1 x2 x3 → va_P D vwCl (WM q ad z) H → va_S A s.heap H locs → lv_has ls 4 [(0, .ref (ad 0)), (1, .int x1), (2, .int x2), (3, .int x3)] → W p l e (headSpec (cW yX8_copies cX8_copies 4 none) ({ frames := 0, cells := 0, slots := 0, locals := 0 } : Room)).room s m args below meth c H locs 0 0 (MQ below (va_Qv post (gB D vwCl (WM q ad) (mE D q)) A) args s 0 0 A) (F0 m 2 ls []) := by
    intro n
    induction n with
    | zero =>
      intro z x1 x2 x3 H locs ls h
      exact False.elim h
    | succ n ih =>
      intro z x1 x2 x3 H locs ls h hP hS hl
      exact B2 (pX8_copies_L2  post n) ih z x1 x2 x3 H locs ls h hP hS hl
  refine g_entry (vs := [.ref (ad 0), .int x1, .int x2]) hargs (Nat.le_of_ble_eq_true rfl) (fun ls hl => ?_)
  have hl : lv_has ls 4 [(0, .ref (ad 0)), (1, .int x1), (2, .int x2)] := hl
  unfold pX8_copies at h
  refine lv_iconst (v := (0 : Int32)) hx hb dX8_copies_0 (by decide) ?_
  refine lv_istore_n (lv' := [(3, .int (0 : Int32)), (0, .ref (ad 0)), (1, .int x1), (2, .int x2)]) hx hb dX8_copies_1 rfl hl (by decide) rfl (fun ls hl => ?_)
  obtain ⟨n, h⟩ := h
  exact L2 n z x1 x2 (0 : Int32) _ _ _ h hP hS (lv_sub hl [1, 2, 3, 0] rfl)
def pX8_isAllowed_b53 (rec4 : MX → Int32 → Int32 → Int32 → Prop) (post : Int32 → MX → Prop) (z : MX) (x1 : Int32) (x3 : Int32) (y0 : Int32) : Prop :=
    ∀ x3_54 : Int32, x3_54 = x3 + (1 : Int32) →
    rec4 z x1 y0 x3_54
def pX8_isAllowed_b52 (rec4 : MX → Int32 → Int32 → Int32 → Prop) (post : Int32 → MX → Prop) (z : MX) (x1 : Int32) (x3 : Int32) : Prop :=
    pX8_isAllowed_b53  rec4 post z x1 x3 (0 : Int32)
def pX8_isAllowed_b48 (rec4 : MX → Int32 → Int32 → Int32 → Prop) (post : Int32 → MX → Prop) (z : MX) (x1 : Int32) (x3 : Int32) : Prop :=
    pX8_isAllowed_b53  rec4 post z x1 x3 (1 : Int32)
def pX8_isAllowed_l4 (rec4 : MX → Int32 → Int32 → Int32 → Prop) (post : Int32 → MX → Prop) (z : MX) (x1 : Int32) (x2 : Int32) (x3 : Int32) : Prop :=
    (((z.1 0 4) ≤ x3 →
      ((x2 = 0 ∨ x2 = 1) ∧ post x2 z)) ∧
    (¬ (z.1 0 4) ≤ x3 →
      ((x2 = 0 →
        pX8_isAllowed_b52  rec4 post z x1 x3) ∧
      (¬ x2 = 0 →
        vp_in ((2 : Int32) * x3) 8 ∧
        ((((x1 >>> ((z.1 2 (Int32.toNatClampNeg ((2 : Int32) * x3))) &&& 31)) &&& (1 : Int32)) = 0 →
          pX8_isAllowed_b48  rec4 post z x1 x3) ∧
        (¬ ((x1 >>> ((z.1 2 (Int32.toNatClampNeg ((2 : Int32) * x3))) &&& 31)) &&& (1 : Int32)) = 0 →
          vp_in (((2 : Int32) * x3) + (1 : Int32)) 8 ∧
          ((¬ ((x1 >>> ((z.1 2 (Int32.toNatClampNeg (((2 : Int32) * x3) + (1 : Int32)))) &&& 31)) &&& (1 : Int32)) = 0 →
            pX8_isAllowed_b52  rec4 post z x1 x3) ∧
          (((x1 >>> ((z.1 2 (Int32.toNatClampNeg (((2 : Int32) * x3) + (1 : Int32)))) &&& 31)) &&& (1 : Int32)) = 0 →
            pX8_isAllowed_b48  rec4 post z x1 x3))))))))
def pX8_isAllowed_L4 (post : Int32 → MX → Prop) : Nat → MX → Int32 → Int32 → Int32 → Prop
  | 0 => fun _ _ _ _ => False
  | n + 1 => fun z x1 x2 x3 => pX8_isAllowed_l4  (pX8_isAllowed_L4  post n) post z x1 x2 x3
def pX8_isAllowed (z : MX) (x1 : Int32) (post : Int32 → MX → Prop) : Prop :=
  ∃ n, pX8_isAllowed_L4  post n z x1 (1 : Int32) (0 : Int32)
set_option maxHeartbeats 4000000 in
set_option maxRecDepth 100000 in
theorem kX8_isAllowed (l : Launch) (D : va_G) (q : Nat → ClassId) (ad : Nat → Nat) (A : Nat → Prop) (hD : ∀ z, va_D A (WM q ad z)) (z : MX) (x1 : Int32) (post : Int32 → MX → Prop) (h : pX8_isAllowed  z x1 post) : Met l yX8_isAllowed (cW yX8_isAllowed cX8_isAllowed 4 (some .boolean)) ({ frames := 0, cells := 0, slots := 0, locals := 0 } : Room) (va_Pc [.ref (ad 0), .int x1] ((gB D vwCl (WM q ad) (mE D q)) z)) (va_Qi post (gB D vwCl (WM q ad) (mE D q)) A) 0 0 A := by
  refine Met.ofW (cc := cX8_isAllowed) (maxL := 4) (ret := (some .boolean)) (by decide) rfl ?_
  intro p e s m args below meth c s₁ B hml hv
  obtain ⟨hargs, hP, hE⟩ := hv
  have hx := B.exec
  have hb := B.bytes
  have hr := B.returns
  have hts := atoms_spec (ws := (cW yX8_isAllowed cX8_isAllowed 4 (some .boolean))) B.pre
  have ht : ∀ w ∈ tG, w.before args s = true := fun w h => hts w (List.mem_cons_of_mem _ h)
  have hown : s.vm.findClass RX8 = some m.cls := findClass_of_methodNamed B.named
  have hlocks := B.notSynchronized
  have hK := hE.1
  have hG := mE_G D q A
  have S : CallFix p m c cX8_isAllowed 4 s args tG RX8 := ⟨hx, hb, hml, hown, ht⟩
  have hS : va_S A s.heap s.heap [] := va_S.rf
  have B53 : ∀ (rec4 : MX → Int32 → Int32 → Int32 → Prop) (hrec4 : ∀ (z : MX) (x1 : Int32) (x2 : Int32) (x3 : Int32) (H : Heap) (locs : List Loc) (ls : Array Slot), rec4 z x1 x2 x3 → va_P D vwCl (WM q ad z) H → va_S A s.heap H locs → lv_has ls 4 [(0, .ref (ad 0)), (1, .int x1), (2, .int x2), (3, .int x3)] → W p l e (headSpec (cW yX8_isAllowed cX8_isAllowed 4 (some .boolean)) ({ frames := 0, cells := 0, slots := 0, locals := 0 } : Room)).room s m args below meth c H locs 0 0 (MQ below (va_Qi post (gB D vwCl (WM q ad) (mE D q)) A) args s 0 0 A) (F0 m 4 ls [])) (z : MX) (x1 : Int32) (x3 : Int32) (y0 : Int32) (H : Heap) (locs : List Loc) (ls : Array Slot), pX8_isAllowed_b53  rec4 post z x1 x3 y0 → va_P D vwCl (WM q ad z) H → va_S A s.heap H locs → lv_has ls 4 [(0, .ref (ad 0)), (1, .int x1), (3, .int x3)] → W p l e (headSpec (cW yX8_isAllowed cX8_isAllowed 4 (some .boolean)) ({ frames := 0, cells := 0, slots := 0, locals := 0 } : Room)).room s m args below meth c H locs 0 0 (MQ below (va_Qi post (gB D vwCl (WM q ad) (mE D q)) A) args s 0 0 A) (F0 m 53 ls [.int y0]) := by
    intro rec4 hrec4 z x1 x3 y0 H locs ls h hP hS hl
    unfold pX8_isAllowed_b53 at h
    refine lv_istore_n (lv' := [(2, .int y0), (0, .ref (ad 0)), (1, .int x1), (3, .int x3)]) hx hb dX8_isAllowed_53 rfl hl (by decide) rfl (fun ls hl => ?_)
    obtain ⟨x3_54, ex3_54⟩ : ∃ w : Int32, w = x3 + (1 : Int32) := ⟨_, rfl⟩
    have h := h x3_54 ex3_54
    refine lv_iinc (v := x3_54) (lv' := [(3, .int x3_54), (2, .int y0), (0, .ref (ad 0)), (1, .int x1)]) hx hb dX8_isAllowed_54 hl (k := 3) rfl (by rw [ex3_54]; rfl) (by decide) rfl (fun ls hl => ?_)
    refine lv_goto (tgt := 4) hx hb dX8_isAllowed_57 (by decide) ?_
    exact hrec4 z x1 y0 x3_54 _ _ _ h hP hS (lv_sub hl [2, 3, 1, 0] rfl)
  have B52 : ∀ (rec4 : MX → Int32 → Int32 → Int32 → Prop) (hrec4 : ∀ (z : MX) (x1 : Int32) (x2 : Int32) (x3 : Int32) (H : Heap) (locs : List Loc) (ls : Array Slot), rec4 z x1 x2 x3 → va_P D vwCl (WM q ad z) H → va_S A s.heap H locs → lv_has ls 4 [(0, .ref (ad 0)), (1, .int x1), (2, .int x2), (3, .int x3)] → W p l e (headSpec (cW yX8_isAllowed cX8_isAllowed 4 (some .boolean)) ({ frames := 0, cells := 0, slots := 0, locals := 0 } : Room)).room s m args below meth c H locs 0 0 (MQ below (va_Qi post (gB D vwCl (WM q ad) (mE D q)) A) args s 0 0 A) (F0 m 4 ls [])) (z : MX) (x1 : Int32) (x3 : Int32) (H : Heap) (locs : List Loc) (ls : Array Slot), pX8_isAllowed_b52  rec4 post z x1 x3 → va_P D vwCl (WM q ad z) H → va_S A s.heap H locs → lv_has ls 4 [(0, .ref (ad 0)), (1, .int x1), (3, .int x3)] → W p l e (headSpec (cW yX8_isAllowed cX8_isAllowed 4 (some .boolean)) ({ frames := 0, cells := 0, slots := 0, locals := 0 } : Room)).room s m args below meth c H locs 0 0 (MQ below (va_Qi post (gB D vwCl (WM q ad) (mE D q)) A) args s 0 0 A) (F0 m 52 ls []) := by
    intro rec4 hrec4 z x1 x3 H locs ls h hP hS hl
    unfold pX8_isAllowed_b52 at h
    refine lv_iconst (v := (0 : Int32)) hx hb dX8_isAllowed_52 (by decide) ?_
    exact B53 rec4 hrec4 z x1 x3 (0 : Int32) _ _ _ h hP hS (lv_sub hl [0, 1, 2] rfl)
  have B48 : ∀ (rec4 : MX → Int32 → Int32 → Int32 → Prop) (hrec4 : ∀ (z : MX) (x1 : Int32) (x2 : Int32) (x3 : Int32) (H : Heap) (locs : List Loc) (ls : Array Slot), rec4 z x1 x2 x3 → va_P D vwCl (WM q ad z) H → va_S A s.heap H locs → lv_has ls 4 [(0, .ref (ad 0)), (1, .int x1), (2, .int x2), (3, .int x3)] → W p l e (headSpec (cW yX8_isAllowed cX8_isAllowed 4 (some .boolean)) ({ frames := 0, cells := 0, slots := 0, locals := 0 } : Room)).room s m args below meth c H locs 0 0 (MQ below (va_Qi post (gB D vwCl (WM q ad) (mE D q)) A) args s 0 0 A) (F0 m 4 ls [])) (z : MX) (x1 : Int32) (x3 : Int32) (H : Heap) (locs : List Loc) (ls : Array Slot), pX8_isAllowed_b48  rec4 post z x1 x3 → va_P D vwCl (WM q ad z) H → va_S A s.heap H locs → lv_has ls 4 [(0, .ref (ad 0)), (1, .int x1), (3, .int x3)] → W p l e (headSpec (cW yX8_isAllowed cX8_isAllowed 4 (some .boolean)) ({ frames := 0, cells := 0, slots := 0, locals := 0 } : Room)).room s m args below meth c H locs 0 0 (MQ below (va_Qi post (gB D vwCl (WM q ad) (mE D q)) A) args s 0 0 A) (F0 m 48 ls []) := by
    intro rec4 hrec4 z x1 x3 H locs ls h hP hS hl
    unfold pX8_isAllowed_b48 at h
    refine lv_iconst (v := (1 : Int32)) hx hb dX8_isAllowed_48 (by decide) ?_
    refine lv_goto (tgt := 53) hx hb dX8_isAllowed_49 (by decide) ?_
    exact B53 rec4 hrec4 z x1 x3 (1 : Int32) _ _ _ h hP hS (lv_sub hl [0, 1, 2] rfl)
  have B4 : ∀ (rec4 : MX → Int32 → Int32 → Int32 → Prop) (hrec4 : ∀ (z : MX) (x1 : Int32) (x2 : Int32) (x3 : Int32) (H : Heap) (locs : List Loc) (ls : Array Slot), rec4 z x1 x2 x3 → va_P D vwCl (WM q ad z) H → va_S A s.heap H locs → lv_has ls 4 [(0, .ref (ad 0)), (1, .int x1), (2, .int x2), (3, .int x3)] → W p l e (headSpec (cW yX8_isAllowed cX8_isAllowed 4 (some .boolean)) ({ frames := 0, cells := 0, slots := 0, locals := 0 } : Room)).room s m args below meth c H locs 0 0 (MQ below (va_Qi post (gB D vwCl (WM q ad) (mE D q)) A) args s 0 0 A) (F0 m 4 ls [])) (z : MX) (x1 : Int32) (x2 : Int32) (x3 : Int32) (H : Heap) (locs : List Loc) (ls : Array Slot), pX8_isAllowed_l4  rec4 post z x1 x2 x3 → va_P D vwCl (WM q ad z) H → va_S A s.heap H locs → lv_has ls 4 [(0, .ref (ad 0)), (1, .int x1), (2, .int x2), (3, .int x3)] → W p l e (headSpec (cW yX8_isAllowed cX8_isAllowed 4 (some .boolean)) ({ frames := 0, cells := 0, slots := 0, locals := 0 } : Room)).room s m args below meth c H locs 0 0 (MQ below (va_Qi post (gB D vwCl (WM q ad) (mE D q)) A) args s 0 0 A) (F0 m 4 ls []) := by
    intro rec4 hrec4 z x1 x2 x3 H locs ls h hP hS hl
    unfold pX8_isAllowed_l4 at h
    refine lv_iload_n hx hb dX8_isAllowed_4 rfl (lv_at hl 3 rfl) ?_
    refine lv_aload_n hx hb dX8_isAllowed_5 rfl (lv_at hl 0 rfl) ?_
    refine va_get (D := D) (ci := 8) (v := .int (z.1 0 4)) (C := RX8) (T := TX8) (N := 45) hx hb ht tl_X8 hown hK hP 0 (wm_0 q ad z) rfl 4 (by decide) (ht _ tw_fl_X8_176) (fun _ h9 => h9) rfl dX8_isAllowed_6 ?_
    refine lv_icmp_ge (tgt := 60) hx hb dX8_isAllowed_9 (by decide) (fun c9 => ?_) (fun c9 => ?_)
    · have h := h.1 c9
      refine lv_iload_n hx hb dX8_isAllowed_60 rfl (lv_at hl 2 rfl) ?_
      exact g_rz hG hx hb hr hlocks hE hP hS h dX8_isAllowed_61
    · have h := h.2 c9
      refine lv_iload_n hx hb dX8_isAllowed_12 rfl (lv_at hl 2 rfl) ?_
      refine lv_if_eq (tgt := 52) hx hb dX8_isAllowed_13 (by decide) (fun c13 => ?_) (fun c13 => ?_)
      · have h := h.1 c13
        exact B52 rec4 hrec4 z x1 x3 _ _ _ h hP hS (lv_sub hl [0, 1, 3] rfl)
      · have h := h.2 c13
        refine lv_iload_n hx hb dX8_isAllowed_16 rfl (lv_at hl 1 rfl) ?_
        refine lv_aload_n hx hb dX8_isAllowed_17 rfl (lv_at hl 0 rfl) ?_
        refine va_get (D := D) (ci := 8) (v := .ref (ad 2)) (C := RX8) (T := TX8) (N := 45) hx hb ht tl_X8 hown hK hP 0 (wm_0 q ad z) rfl 3 (by decide) (ht _ tw_fl_X8_17) (fun _ h9 => h9) rfl dX8_isAllowed_18 ?_
        refine lv_iconst (v := (2 : Int32)) hx hb dX8_isAllowed_21 (by decide) ?_
        refine lv_iload_n hx hb dX8_isAllowed_22 rfl (lv_at hl 3 rfl) ?_
        refine lv_imul hx hb dX8_isAllowed_23 ?_
        have hi24 := h.1
        have h := h.2
        refine va_iald hx hb hK hP 2 0 (wm_2 q ad z) rfl hi24 dX8_isAllowed_24 ?_
        refine lv_ishr hx hb dX8_isAllowed_25 ?_
        refine lv_iconst (v := (1 : Int32)) hx hb dX8_isAllowed_26 (by decide) ?_
        refine lv_iand hx hb dX8_isAllowed_27 ?_
        refine lv_if_eq (tgt := 48) hx hb dX8_isAllowed_28 (by decide) (fun c28 => ?_) (fun c28 => ?_)
        · have h := h.1 c28
          exact B48 rec4 hrec4 z x1 x3 _ _ _ h hP hS (lv_sub hl [0, 1, 3] rfl)
        · have h := h.2 c28
          refine lv_iload_n hx hb dX8_isAllowed_31 rfl (lv_at hl 1 rfl) ?_
          refine lv_aload_n hx hb dX8_isAllowed_32 rfl (lv_at hl 0 rfl) ?_
          refine va_get (D := D) (ci := 8) (v := .ref (ad 2)) (C := RX8) (T := TX8) (N := 45) hx hb ht tl_X8 hown hK hP 0 (wm_0 q ad z) rfl 3 (by decide) (ht _ tw_fl_X8_17) (fun _ h9 => h9) rfl dX8_isAllowed_33 ?_
          refine lv_iconst (v := (2 : Int32)) hx hb dX8_isAllowed_36 (by decide) ?_
          refine lv_iload_n hx hb dX8_isAllowed_37 rfl (lv_at hl 3 rfl) ?_
          refine lv_imul hx hb dX8_isAllowed_38 ?_
          refine lv_iconst (v := (1 : Int32)) hx hb dX8_isAllowed_39 (by decide) ?_
          refine lv_iadd hx hb dX8_isAllowed_40 ?_
          have hi41 := h.1
          have h := h.2
          refine va_iald hx hb hK hP 2 0 (wm_2 q ad z) rfl hi41 dX8_isAllowed_41 ?_
          refine lv_ishr hx hb dX8_isAllowed_42 ?_
          refine lv_iconst (v := (1 : Int32)) hx hb dX8_isAllowed_43 (by decide) ?_
          refine lv_iand hx hb dX8_isAllowed_44 ?_
          refine lv_if_ne (tgt := 52) hx hb dX8_isAllowed_45 (by decide) (fun c45 => ?_) (fun c45 => ?_)
          · have h := h.1 c45
            exact B52 rec4 hrec4 z x1 x3 _ _ _ h hP hS (lv_sub hl [0, 1, 3] rfl)
          · have h := h.2 c45
            exact B48 rec4 hrec4 z x1 x3 _ _ _ h hP hS (lv_sub hl [0, 1, 3] rfl)
  have L4 : ∀ (n : Nat) (z : MX) (x1 : Int32) (x2 : Int32) (x3 : Int32) (H : Heap) (locs : List Loc) (ls : Array Slot), pX8_isAllowed_L4  post n z x1 x2 x3 → va_P D vwCl (WM q ad z) H → va_S A s.heap H locs → lv_has ls 4 [(0, .ref (ad 0)), (1, .int x1), (2, .int x2), (3, .int x3)] → W p l e (headSpec (cW yX8_isAllowed cX8_isAllowed 4 (some .boolean)) ({ frames := 0, cells := 0, slots := 0, locals := 0 } : Room)).room s m args below meth c H locs 0 0 (MQ below (va_Qi post (gB D vwCl (WM q ad) (mE D q)) A) args s 0 0 A) (F0 m 4 ls []) := by
    intro n
    induction n with
    | zero =>
      intro z x1 x2 x3 H locs ls h
      exact False.elim h
    | succ n ih =>
      intro z x1 x2 x3 H locs ls h hP hS hl
      exact B4 (pX8_isAllowed_L4  post n) ih z x1 x2 x3 H locs ls h hP hS hl
  refine g_entry (vs := [.ref (ad 0), .int x1]) hargs (Nat.le_of_ble_eq_true rfl) (fun ls hl => ?_)
  have hl : lv_has ls 4 [(0, .ref (ad 0)), (1, .int x1)] := hl
  unfold pX8_isAllowed at h
  refine lv_iconst (v := (1 : Int32)) hx hb dX8_isAllowed_0 (by decide) ?_
  refine lv_istore_n (lv' := [(2, .int (1 : Int32)), (0, .ref (ad 0)), (1, .int x1)]) hx hb dX8_isAllowed_1 rfl hl (by decide) rfl (fun ls hl => ?_)
  refine lv_iconst (v := (0 : Int32)) hx hb dX8_isAllowed_2 (by decide) ?_
  refine lv_istore_n (lv' := [(3, .int (0 : Int32)), (2, .int (1 : Int32)), (0, .ref (ad 0)), (1, .int x1)]) hx hb dX8_isAllowed_3 rfl hl (by decide) rfl (fun ls hl => ?_)
  obtain ⟨n, h⟩ := h
  exact L4 n z x1 (1 : Int32) (0 : Int32) _ _ _ h hP hS (lv_sub hl [2, 3, 1, 0] rfl)
def pX8_magpiesIn_b34 (rec2 : MX → Int32 → Int32 → Prop) (post : MX → Prop) (z : MX) (x1 : Int32) (x2 : Int32) (y1 : Int32) (y2 : Int32) : Prop :=
    vp_in y1 125 ∧
    ∀ z34 : MX, z34 = mw z 1 (Int32.toNatClampNeg y1) y2 →
    ∀ x2_35 : Int32, x2_35 = x2 + (1 : Int32) →
    rec2 z34 x1 x2_35
def pX8_magpiesIn_l2 (rec2 : MX → Int32 → Int32 → Prop) (post : MX → Prop) (z : MX) (x1 : Int32) (x2 : Int32) : Prop :=
    (((z.1 0 1) ≤ x2 →
      post z) ∧
    (¬ (z.1 0 1) ≤ x2 →
      ((¬ ((x1 >>> (x2 &&& 31)) &&& (1 : Int32)) = (1 : Int32) →
        vp_in x2 125 ∧
        pX8_magpiesIn_b34  rec2 post z x1 x2 x2 (z.1 1 (Int32.toNatClampNeg x2))) ∧
      (((x1 >>> (x2 &&& 31)) &&& (1 : Int32)) = (1 : Int32) →
        pX8_magpiesIn_b34  rec2 post z x1 x2 x2 (1 : Int32)))))
def pX8_magpiesIn_L2 (post : MX → Prop) : Nat → MX → Int32 → Int32 → Prop
  | 0 => fun _ _ _ => False
  | n + 1 => fun z x1 x2 => pX8_magpiesIn_l2  (pX8_magpiesIn_L2  post n) post z x1 x2
def pX8_magpiesIn (z : MX) (x1 : Int32) (post : MX → Prop) : Prop :=
  ∃ n, pX8_magpiesIn_L2  post n z x1 (0 : Int32)
set_option maxHeartbeats 4000000 in
set_option maxRecDepth 100000 in
theorem kX8_magpiesIn (l : Launch) (D : va_G) (q : Nat → ClassId) (ad : Nat → Nat) (A : Nat → Prop) (hD : ∀ z, va_D A (WM q ad z)) (z : MX) (x1 : Int32) (post : MX → Prop) (h : pX8_magpiesIn  z x1 post) : Met l yX8_magpiesIn (cW yX8_magpiesIn cX8_magpiesIn 3 none) ({ frames := 0, cells := 0, slots := 0, locals := 0 } : Room) (va_Pc [.ref (ad 0), .int x1] ((gB D vwCl (WM q ad) (mE D q)) z)) (va_Qv post (gB D vwCl (WM q ad) (mE D q)) A) 0 0 A := by
  refine Met.ofW (cc := cX8_magpiesIn) (maxL := 3) (ret := none) (by decide) rfl ?_
  intro p e s m args below meth c s₁ B hml hv
  obtain ⟨hargs, hP, hE⟩ := hv
  have hx := B.exec
  have hb := B.bytes
  have hr := B.returns
  have hts := atoms_spec (ws := (cW yX8_magpiesIn cX8_magpiesIn 3 none)) B.pre
  have ht : ∀ w ∈ tG, w.before args s = true := fun w h => hts w (List.mem_cons_of_mem _ h)
  have hown : s.vm.findClass RX8 = some m.cls := findClass_of_methodNamed B.named
  have hlocks := B.notSynchronized
  have hK := hE.1
  have hG := mE_G D q A
  have S : CallFix p m c cX8_magpiesIn 3 s args tG RX8 := ⟨hx, hb, hml, hown, ht⟩
  have hS : va_S A s.heap s.heap [] := va_S.rf
  have B34 : ∀ (rec2 : MX → Int32 → Int32 → Prop) (hrec2 : ∀ (z : MX) (x1 : Int32) (x2 : Int32) (H : Heap) (locs : List Loc) (ls : Array Slot), rec2 z x1 x2 → va_P D vwCl (WM q ad z) H → va_S A s.heap H locs → lv_has ls 3 [(0, .ref (ad 0)), (1, .int x1), (2, .int x2)] → W p l e (headSpec (cW yX8_magpiesIn cX8_magpiesIn 3 none) ({ frames := 0, cells := 0, slots := 0, locals := 0 } : Room)).room s m args below meth c H locs 0 0 (MQ below (va_Qv post (gB D vwCl (WM q ad) (mE D q)) A) args s 0 0 A) (F0 m 2 ls [])) (z : MX) (x1 : Int32) (x2 : Int32) (y1 : Int32) (y2 : Int32) (H : Heap) (locs : List Loc) (ls : Array Slot), pX8_magpiesIn_b34  rec2 post z x1 x2 y1 y2 → va_P D vwCl (WM q ad z) H → va_S A s.heap H locs → lv_has ls 3 [(0, .ref (ad 0)), (1, .int x1), (2, .int x2)] → W p l e (headSpec (cW yX8_magpiesIn cX8_magpiesIn 3 none) ({ frames := 0, cells := 0, slots := 0, locals := 0 } : Room)).room s m args below meth c H locs 0 0 (MQ below (va_Qv post (gB D vwCl (WM q ad) (mE D q)) A) args s 0 0 A) (F0 m 34 ls [.int y2, .int y1, .ref (ad 1)]) := by
    intro rec2 hrec2 z x1 x2 y1 y2 H locs ls h hP hS hl
    unfold pX8_magpiesIn_b34 at h
    have hi34 := h.1
    have h := h.2
    refine g_iast (Wd := WM q ad) (z := z) hx hb hK hP (hD z) hS 1 (wm_1 q ad z) rfl (am_1 q ad z) hi34 dX8_magpiesIn_34 (fun z34 H locs hz34 hP hS => ?_)
    have h := h z34 hz34
    obtain ⟨x2_35, ex2_35⟩ : ∃ w : Int32, w = x2 + (1 : Int32) := ⟨_, rfl⟩
    have h := h x2_35 ex2_35
    refine lv_iinc (v := x2_35) (lv' := [(2, .int x2_35), (0, .ref (ad 0)), (1, .int x1)]) hx hb dX8_magpiesIn_35 hl (k := 2) rfl (by rw [ex2_35]; rfl) (by decide) rfl (fun ls hl => ?_)
    refine lv_goto (tgt := 2) hx hb dX8_magpiesIn_38 (by decide) ?_
    exact hrec2 z34 x1 x2_35 _ _ _ h hP hS (lv_sub hl [1, 2, 0] rfl)
  have B2 : ∀ (rec2 : MX → Int32 → Int32 → Prop) (hrec2 : ∀ (z : MX) (x1 : Int32) (x2 : Int32) (H : Heap) (locs : List Loc) (ls : Array Slot), rec2 z x1 x2 → va_P D vwCl (WM q ad z) H → va_S A s.heap H locs → lv_has ls 3 [(0, .ref (ad 0)), (1, .int x1), (2, .int x2)] → W p l e (headSpec (cW yX8_magpiesIn cX8_magpiesIn 3 none) ({ frames := 0, cells := 0, slots := 0, locals := 0 } : Room)).room s m args below meth c H locs 0 0 (MQ below (va_Qv post (gB D vwCl (WM q ad) (mE D q)) A) args s 0 0 A) (F0 m 2 ls [])) (z : MX) (x1 : Int32) (x2 : Int32) (H : Heap) (locs : List Loc) (ls : Array Slot), pX8_magpiesIn_l2  rec2 post z x1 x2 → va_P D vwCl (WM q ad z) H → va_S A s.heap H locs → lv_has ls 3 [(0, .ref (ad 0)), (1, .int x1), (2, .int x2)] → W p l e (headSpec (cW yX8_magpiesIn cX8_magpiesIn 3 none) ({ frames := 0, cells := 0, slots := 0, locals := 0 } : Room)).room s m args below meth c H locs 0 0 (MQ below (va_Qv post (gB D vwCl (WM q ad) (mE D q)) A) args s 0 0 A) (F0 m 2 ls []) := by
    intro rec2 hrec2 z x1 x2 H locs ls h hP hS hl
    unfold pX8_magpiesIn_l2 at h
    refine lv_iload_n hx hb dX8_magpiesIn_2 rfl (lv_at hl 2 rfl) ?_
    refine lv_aload_n hx hb dX8_magpiesIn_3 rfl (lv_at hl 0 rfl) ?_
    refine va_get (D := D) (ci := 8) (v := .int (z.1 0 1)) (C := RX8) (T := TX8) (N := 45) hx hb ht tl_X8 hown hK hP 0 (wm_0 q ad z) rfl 1 (by decide) (ht _ tw_fl_X8_13) (fun _ h9 => h9) rfl dX8_magpiesIn_4 ?_
    refine lv_icmp_ge (tgt := 41) hx hb dX8_magpiesIn_7 (by decide) (fun c7 => ?_) (fun c7 => ?_)
    · have h := h.1 c7
      exact g_rv hG hx hb hr hlocks hE hP hS h dX8_magpiesIn_41
    · have h := h.2 c7
      refine lv_aload_n hx hb dX8_magpiesIn_10 rfl (lv_at hl 0 rfl) ?_
      refine va_get (D := D) (ci := 8) (v := .ref (ad 1)) (C := RX8) (T := TX8) (N := 45) hx hb ht tl_X8 hown hK hP 0 (wm_0 q ad z) rfl 0 (by decide) (ht _ tw_fl_X8_7) (fun _ h9 => h9) rfl dX8_magpiesIn_11 ?_
      refine lv_iload_n hx hb dX8_magpiesIn_14 rfl (lv_at hl 2 rfl) ?_
      refine lv_iload_n hx hb dX8_magpiesIn_15 rfl (lv_at hl 1 rfl) ?_
      refine lv_iload_n hx hb dX8_magpiesIn_16 rfl (lv_at hl 2 rfl) ?_
      refine lv_ishr hx hb dX8_magpiesIn_17 ?_
      refine lv_iconst (v := (1 : Int32)) hx hb dX8_magpiesIn_18 (by decide) ?_
      refine lv_iand hx hb dX8_magpiesIn_19 ?_
      refine lv_iconst (v := (1 : Int32)) hx hb dX8_magpiesIn_20 (by decide) ?_
      refine lv_icmp_ne (tgt := 28) hx hb dX8_magpiesIn_21 (by decide) (fun c21 => ?_) (fun c21 => ?_)
      · have h := h.1 c21
        refine lv_aload_n hx hb dX8_magpiesIn_28 rfl (lv_at hl 0 rfl) ?_
        refine va_get (D := D) (ci := 8) (v := .ref (ad 1)) (C := RX8) (T := TX8) (N := 45) hx hb ht tl_X8 hown hK hP 0 (wm_0 q ad z) rfl 0 (by decide) (ht _ tw_fl_X8_7) (fun _ h9 => h9) rfl dX8_magpiesIn_29 ?_
        refine lv_iload_n hx hb dX8_magpiesIn_32 rfl (lv_at hl 2 rfl) ?_
        have hi33 := h.1
        have h := h.2
        refine va_iald hx hb hK hP 1 0 (wm_1 q ad z) rfl hi33 dX8_magpiesIn_33 ?_
        exact B34 rec2 hrec2 z x1 x2 x2 (z.1 1 (Int32.toNatClampNeg x2)) _ _ _ h hP hS (lv_sub hl [0, 1, 2] rfl)
      · have h := h.2 c21
        refine lv_iconst (v := (1 : Int32)) hx hb dX8_magpiesIn_24 (by decide) ?_
        refine lv_goto (tgt := 34) hx hb dX8_magpiesIn_25 (by decide) ?_
        exact B34 rec2 hrec2 z x1 x2 x2 (1 : Int32) _ _ _ h hP hS (lv_sub hl [0, 1, 2] rfl)
  have L2 : ∀ (n : Nat) (z : MX) (x1 : Int32) (x2 : Int32) (H : Heap) (locs : List Loc) (ls : Array Slot), pX8_magpiesIn_L2  post n z x1 x2 → va_P D vwCl (WM q ad z) H → va_S A s.heap H locs → lv_has ls 3 [(0, .ref (ad 0)), (1, .int x1), (2, .int x2)] → W p l e (headSpec (cW yX8_magpiesIn cX8_magpiesIn 3 none) ({ frames := 0, cells := 0, slots := 0, locals := 0 } : Room)).room s m args below meth c H locs 0 0 (MQ below (va_Qv post (gB D vwCl (WM q ad) (mE D q)) A) args s 0 0 A) (F0 m 2 ls []) := by
    intro n
    induction n with
    | zero =>
      intro z x1 x2 H locs ls h
      exact False.elim h
    | succ n ih =>
      intro z x1 x2 H locs ls h hP hS hl
      exact B2 (pX8_magpiesIn_L2  post n) ih z x1 x2 H locs ls h hP hS hl
  refine g_entry (vs := [.ref (ad 0), .int x1]) hargs (Nat.le_of_ble_eq_true rfl) (fun ls hl => ?_)
  have hl : lv_has ls 3 [(0, .ref (ad 0)), (1, .int x1)] := hl
  unfold pX8_magpiesIn at h
  refine lv_iconst (v := (0 : Int32)) hx hb dX8_magpiesIn_0 (by decide) ?_
  refine lv_istore_n (lv' := [(2, .int (0 : Int32)), (0, .ref (ad 0)), (1, .int x1)]) hx hb dX8_magpiesIn_1 rfl hl (by decide) rfl (fun ls hl => ?_)
  obtain ⟨n, h⟩ := h
  exact L2 n z x1 (0 : Int32) _ _ _ h hP hS (lv_sub hl [1, 2, 0] rfl)
def pX8_magpies_b119 (post : Int32 → MX → Prop) (z : MX) (x3 : Int32) : Prop :=
    post x3 z
def pX8_magpies_b102 (rec30 : MX → Int32 → Int32 → Int32 → Int32 → Prop) (post : Int32 → MX → Prop) (z : MX) (x1 : Int32) (x2 : Int32) (x3 : Int32) (x4 : Int32) : Prop :=
    ∀ x4_102 : Int32, x4_102 = x4 + (1 : Int32) →
    rec30 z x1 x2 x3 x4_102
def pX8_magpies_b94 (rec30 : MX → Int32 → Int32 → Int32 → Int32 → Prop) (post : Int32 → MX → Prop) (z : MX) (x1 : Int32) (x2 : Int32) (x4 : Int32) (y0 : Int32) : Prop :=
    pX8_copies z (100 : Int32) (0 : Int32) (fun (z99 : MX) =>
    pX8_magpies_b102  rec30 post z99 x1 x2 y0 x4)
def pX8_magpies_l30 (rec30 : MX → Int32 → Int32 → Int32 → Int32 → Prop) (post : Int32 → MX → Prop) (z : MX) (x1 : Int32) (x2 : Int32) (x3 : Int32) (x4 : Int32) : Prop :=
    ((((1 : Int32) <<< ((z.1 0 1) &&& 31)) ≤ x4 →
      ((x3 = (-4 : Int32) →
        pX8_magpies_b119  post z x3) ∧
      (¬ x3 = (-4 : Int32) →
        ((¬ x1 = (1 : Int32) →
          pX8_bitsOf z x3 (fun (r124 : Int32) (z124 : MX) =>
          post r124 z124)) ∧
        (x1 = (1 : Int32) →
          pX8_magpies_b119  post z x3))))) ∧
    (¬ ((1 : Int32) <<< ((z.1 0 1) &&& 31)) ≤ x4 →
      ((¬ (x4 &&& x2) = 0 →
        pX8_magpies_b102  rec30 post z x1 x2 x3 x4) ∧
      ((x4 &&& x2) = 0 →
        pX8_isFewer z x4 x3 (fun (r52 : Int32) (z52 : MX) =>
        ((r52 = 0 →
          pX8_magpies_b102  rec30 post z52 x1 x2 x3 x4) ∧
        (¬ r52 = 0 →
          pX8_isAllowed z52 (x4 ||| x2) (fun (r63 : Int32) (z63 : MX) =>
          ((r63 = 0 →
            pX8_magpies_b102  rec30 post z63 x1 x2 x3 x4) ∧
          (¬ r63 = 0 →
            pX8_magpiesIn z63 x4 (fun (z72 : MX) =>
            pX8_run z72 (fun (z76 : MX) =>
            ((¬ (z76.1 0 30) = (-4 : Int32) →
              pX8_magpies_b94  rec30 post z76 x1 x2 x4 x3) ∧
            ((z76.1 0 30) = (-4 : Int32) →
              pX8_magpies_b94  rec30 post z76 x1 x2 x4 x4))))))))))))))
def pX8_magpies_L30 (post : Int32 → MX → Prop) : Nat → MX → Int32 → Int32 → Int32 → Int32 → Prop
  | 0 => fun _ _ _ _ _ => False
  | n + 1 => fun z x1 x2 x3 x4 => pX8_magpies_l30  (pX8_magpies_L30  post n) post z x1 x2 x3 x4
def pX8_magpies (z : MX) (x1 : Int32) (post : Int32 → MX → Prop) : Prop :=
  pX8_in z (Int32.toInt64 x1) (0 : Int64) (1 : Int64) (fun (r4 : Int32) (z4 : MX) =>
  ((¬ r4 = 0 →
    pX8_omens z4 (fun (r13 : Int32) (z13 : MX) =>
    pX8_copies z13 (0 : Int32) (100 : Int32) (fun (z24 : MX) =>
    ∃ n, pX8_magpies_L30  post n z24 x1 r13 (-4 : Int32) (0 : Int32)))) ∧
  (r4 = 0 →
    post (-1 : Int32) z4)))
set_option maxHeartbeats 4000000 in
set_option maxRecDepth 100000 in
theorem kX8_magpies (l : Launch) (D : va_G) (q : Nat → ClassId) (ad : Nat → Nat) (A : Nat → Prop) (hD : ∀ z, va_D A (WM q ad z)) (z : MX) (x1 : Int32) (post : Int32 → MX → Prop) (h : pX8_magpies  z x1 post) : Met l yX8_magpies (cW yX8_magpies cX8_magpies 5 (some .int)) ({ frames := 4, cells := 0, slots := 0, locals := 88 } : Room) (va_Pc [.ref (ad 0), .int x1] ((gB D vwCl (WM q ad) (mE D q)) z)) (va_Qi post (gB D vwCl (WM q ad) (mE D q)) A) 0 0 A := by
  refine Met.ofW (cc := cX8_magpies) (maxL := 5) (ret := (some .int)) (by decide) rfl ?_
  intro p e s m args below meth c s₁ B hml hv
  obtain ⟨hargs, hP, hE⟩ := hv
  have hx := B.exec
  have hb := B.bytes
  have hr := B.returns
  have hts := atoms_spec (ws := (cW yX8_magpies cX8_magpies 5 (some .int))) B.pre
  have ht : ∀ w ∈ tG, w.before args s = true := fun w h => hts w (List.mem_cons_of_mem _ h)
  have hown : s.vm.findClass RX8 = some m.cls := findClass_of_methodNamed B.named
  have hlocks := B.notSynchronized
  have hK := hE.1
  have hG := mE_G D q A
  have S : CallFix p m c cX8_magpies 5 s args tG RX8 := ⟨hx, hb, hml, hown, ht⟩
  have hS : va_S A s.heap s.heap [] := va_S.rf
  have B119 : ∀ (z : MX) (x3 : Int32) (H : Heap) (locs : List Loc) (ls : Array Slot), pX8_magpies_b119  post z x3 → va_P D vwCl (WM q ad z) H → va_S A s.heap H locs → lv_has ls 5 [(3, .int x3)] → W p l e (headSpec (cW yX8_magpies cX8_magpies 5 (some .int)) ({ frames := 4, cells := 0, slots := 0, locals := 88 } : Room)).room s m args below meth c H locs 0 0 (MQ below (va_Qi post (gB D vwCl (WM q ad) (mE D q)) A) args s 0 0 A) (F0 m 119 ls []) := by
    intro z x3 H locs ls h hP hS hl
    unfold pX8_magpies_b119 at h
    refine lv_iload_n hx hb dX8_magpies_119 rfl (lv_at hl 0 rfl) ?_
    refine lv_goto (tgt := 127) hx hb dX8_magpies_120 (by decide) ?_
    exact g_ri hG hx hb hr hlocks hE hP hS h dX8_magpies_127
  have B102 : ∀ (rec30 : MX → Int32 → Int32 → Int32 → Int32 → Prop) (hrec30 : ∀ (z : MX) (x1 : Int32) (x2 : Int32) (x3 : Int32) (x4 : Int32) (H : Heap) (locs : List Loc) (ls : Array Slot), rec30 z x1 x2 x3 x4 → va_P D vwCl (WM q ad z) H → va_S A s.heap H locs → lv_has ls 5 [(0, .ref (ad 0)), (1, .int x1), (2, .int x2), (3, .int x3), (4, .int x4)] → W p l e (headSpec (cW yX8_magpies cX8_magpies 5 (some .int)) ({ frames := 4, cells := 0, slots := 0, locals := 88 } : Room)).room s m args below meth c H locs 0 0 (MQ below (va_Qi post (gB D vwCl (WM q ad) (mE D q)) A) args s 0 0 A) (F0 m 30 ls [])) (z : MX) (x1 : Int32) (x2 : Int32) (x3 : Int32) (x4 : Int32) (H : Heap) (locs : List Loc) (ls : Array Slot), pX8_magpies_b102  rec30 post z x1 x2 x3 x4 → va_P D vwCl (WM q ad z) H → va_S A s.heap H locs → lv_has ls 5 [(0, .ref (ad 0)), (1, .int x1), (2, .int x2), (3, .int x3), (4, .int x4)] → W p l e (headSpec (cW yX8_magpies cX8_magpies 5 (some .int)) ({ frames := 4, cells := 0, slots := 0, locals := 88 } : Room)).room s m args below meth c H locs 0 0 (MQ below (va_Qi post (gB D vwCl (WM q ad) (mE D q)) A) args s 0 0 A) (F0 m 102 ls []) := by
    intro rec30 hrec30 z x1 x2 x3 x4 H locs ls h hP hS hl
    unfold pX8_magpies_b102 at h
    obtain ⟨x4_102, ex4_102⟩ : ∃ w : Int32, w = x4 + (1 : Int32) := ⟨_, rfl⟩
    have h := h x4_102 ex4_102
    refine lv_iinc (v := x4_102) (lv' := [(4, .int x4_102), (0, .ref (ad 0)), (1, .int x1), (2, .int x2), (3, .int x3)]) hx hb dX8_magpies_102 hl (k := 4) rfl (by rw [ex4_102]; rfl) (by decide) rfl (fun ls hl => ?_)
    refine lv_goto (tgt := 30) hx hb dX8_magpies_105 (by decide) ?_
    exact hrec30 z x1 x2 x3 x4_102 _ _ _ h hP hS (lv_sub hl [1, 2, 3, 4, 0] rfl)
  have B94 : ∀ (rec30 : MX → Int32 → Int32 → Int32 → Int32 → Prop) (hrec30 : ∀ (z : MX) (x1 : Int32) (x2 : Int32) (x3 : Int32) (x4 : Int32) (H : Heap) (locs : List Loc) (ls : Array Slot), rec30 z x1 x2 x3 x4 → va_P D vwCl (WM q ad z) H → va_S A s.heap H locs → lv_has ls 5 [(0, .ref (ad 0)), (1, .int x1), (2, .int x2), (3, .int x3), (4, .int x4)] → W p l e (headSpec (cW yX8_magpies cX8_magpies 5 (some .int)) ({ frames := 4, cells := 0, slots := 0, locals := 88 } : Room)).room s m args below meth c H locs 0 0 (MQ below (va_Qi post (gB D vwCl (WM q ad) (mE D q)) A) args s 0 0 A) (F0 m 30 ls [])) (z : MX) (x1 : Int32) (x2 : Int32) (x4 : Int32) (y0 : Int32) (H : Heap) (locs : List Loc) (ls : Array Slot), pX8_magpies_b94  rec30 post z x1 x2 x4 y0 → va_P D vwCl (WM q ad z) H → va_S A s.heap H locs → lv_has ls 5 [(0, .ref (ad 0)), (1, .int x1), (2, .int x2), (4, .int x4)] → W p l e (headSpec (cW yX8_magpies cX8_magpies 5 (some .int)) ({ frames := 4, cells := 0, slots := 0, locals := 88 } : Room)).room s m args below meth c H locs 0 0 (MQ below (va_Qi post (gB D vwCl (WM q ad) (mE D q)) A) args s 0 0 A) (F0 m 94 ls [.int y0]) := by
    intro rec30 hrec30 z x1 x2 x4 y0 H locs ls h hP hS hl
    unfold pX8_magpies_b94 at h
    refine lv_istore_n (lv' := [(3, .int y0), (0, .ref (ad 0)), (1, .int x1), (2, .int x2), (4, .int x4)]) hx hb dX8_magpies_94 rfl hl (by decide) rfl (fun ls hl => ?_)
    refine lv_aload_n hx hb dX8_magpies_95 rfl (lv_at hl 1 rfl) ?_
    refine lv_bipush (v := (100 : Int32)) hx hb dX8_magpies_96 (by decide) ?_
    refine lv_iconst (v := (0 : Int32)) hx hb dX8_magpies_98 (by decide) ?_
    refine g_cVv (Wd := WM q ad) (z := z) (As := [.int (100 : Int32), .int (0 : Int32)]) (rest := []) hG S (kX8_copies l D q ad A hD z (100 : Int32) (0 : Int32) _ h) (cwV 2 ht (cW_V (fun _ h => h) tw_co_X8_copies tw_ml_X8_255 tw_im_X8_copies tw_se_X8_copies tw_in_X8) rfl rfl rfl (by decide +kernel) ⟨by decide, by decide⟩) (va_recv hK hP (ci := 8) (q0 := 0) rfl (wm_0 q ad z)) hE hP hS rfl hl.1 rfl (Nat.le_of_ble_eq_true rfl) dX8_magpies_99 ⟨Nat.zero_le _, Nat.zero_le _⟩ (fun z99 H locs h hP hS => ?_)
    exact B102 rec30 hrec30 z99 x1 x2 y0 x4 _ _ _ h hP hS (lv_sub hl [1, 2, 3, 0, 4] rfl)
  have B30 : ∀ (rec30 : MX → Int32 → Int32 → Int32 → Int32 → Prop) (hrec30 : ∀ (z : MX) (x1 : Int32) (x2 : Int32) (x3 : Int32) (x4 : Int32) (H : Heap) (locs : List Loc) (ls : Array Slot), rec30 z x1 x2 x3 x4 → va_P D vwCl (WM q ad z) H → va_S A s.heap H locs → lv_has ls 5 [(0, .ref (ad 0)), (1, .int x1), (2, .int x2), (3, .int x3), (4, .int x4)] → W p l e (headSpec (cW yX8_magpies cX8_magpies 5 (some .int)) ({ frames := 4, cells := 0, slots := 0, locals := 88 } : Room)).room s m args below meth c H locs 0 0 (MQ below (va_Qi post (gB D vwCl (WM q ad) (mE D q)) A) args s 0 0 A) (F0 m 30 ls [])) (z : MX) (x1 : Int32) (x2 : Int32) (x3 : Int32) (x4 : Int32) (H : Heap) (locs : List Loc) (ls : Array Slot), pX8_magpies_l30  rec30 post z x1 x2 x3 x4 → va_P D vwCl (WM q ad z) H → va_S A s.heap H locs → lv_has ls 5 [(0, .ref (ad 0)), (1, .int x1), (2, .int x2), (3, .int x3), (4, .int x4)] → W p l e (headSpec (cW yX8_magpies cX8_magpies 5 (some .int)) ({ frames := 4, cells := 0, slots := 0, locals := 88 } : Room)).room s m args below meth c H locs 0 0 (MQ below (va_Qi post (gB D vwCl (WM q ad) (mE D q)) A) args s 0 0 A) (F0 m 30 ls []) := by
    intro rec30 hrec30 z x1 x2 x3 x4 H locs ls h hP hS hl
    unfold pX8_magpies_l30 at h
    refine lv_iload hx hb dX8_magpies_30 (lv_at hl 4 rfl) ?_
    refine lv_iconst (v := (1 : Int32)) hx hb dX8_magpies_32 (by decide) ?_
    refine lv_aload_n hx hb dX8_magpies_33 rfl (lv_at hl 0 rfl) ?_
    refine va_get (D := D) (ci := 8) (v := .int (z.1 0 1)) (C := RX8) (T := TX8) (N := 45) hx hb ht tl_X8 hown hK hP 0 (wm_0 q ad z) rfl 1 (by decide) (ht _ tw_fl_X8_13) (fun _ h9 => h9) rfl dX8_magpies_34 ?_
    refine lv_ishl hx hb dX8_magpies_37 ?_
    refine lv_icmp_ge (tgt := 108) hx hb dX8_magpies_38 (by decide) (fun c38 => ?_) (fun c38 => ?_)
    · have h := h.1 c38
      refine lv_iload_n hx hb dX8_magpies_108 rfl (lv_at hl 3 rfl) ?_
      refine lv_bipush (v := (-4 : Int32)) hx hb dX8_magpies_109 (by decide) ?_
      refine lv_icmp_eq (tgt := 119) hx hb dX8_magpies_111 (by decide) (fun c111 => ?_) (fun c111 => ?_)
      · have h := h.1 c111
        exact B119 z x3 _ _ _ h hP hS (lv_sub hl [3] rfl)
      · have h := h.2 c111
        refine lv_iload_n hx hb dX8_magpies_114 rfl (lv_at hl 1 rfl) ?_
        refine lv_iconst (v := (1 : Int32)) hx hb dX8_magpies_115 (by decide) ?_
        refine lv_icmp_ne (tgt := 123) hx hb dX8_magpies_116 (by decide) (fun c116 => ?_) (fun c116 => ?_)
        · have h := h.1 c116
          refine lv_iload_n hx hb dX8_magpies_123 rfl (lv_at hl 3 rfl) ?_
          refine g_cSi (Wd := WM q ad) (z := z) (As := [.int x3]) (rest := []) hG S (kX8_bitsOf l D q ad A hD z x3 _ h) (va_cwS 1 ht (cW_S (fun _ h => h) tw_co_X8_bitsOf tw_ml_X8_247 tw_st_X8_bitsOf tw_in_X8) rfl rfl rfl (by decide +kernel) ⟨by decide, by decide⟩) hE hP hS rfl hl.1 rfl (Nat.le_of_ble_eq_true rfl) dX8_magpies_124 ⟨Nat.zero_le _, Nat.zero_le _⟩ (fun r124 z124 H locs h hP hS => ?_)
          exact g_ri hG hx hb hr hlocks hE hP hS h dX8_magpies_127
        · have h := h.2 c116
          exact B119 z x3 _ _ _ h hP hS (lv_sub hl [3] rfl)
    · have h := h.2 c38
      refine lv_iload hx hb dX8_magpies_41 (lv_at hl 4 rfl) ?_
      refine lv_iload_n hx hb dX8_magpies_43 rfl (lv_at hl 2 rfl) ?_
      refine lv_iand hx hb dX8_magpies_44 ?_
      refine lv_if_ne (tgt := 102) hx hb dX8_magpies_45 (by decide) (fun c45 => ?_) (fun c45 => ?_)
      · have h := h.1 c45
        exact B102 rec30 hrec30 z x1 x2 x3 x4 _ _ _ h hP hS (lv_sub hl [0, 1, 2, 3, 4] rfl)
      · have h := h.2 c45
        refine lv_aload_n hx hb dX8_magpies_48 rfl (lv_at hl 0 rfl) ?_
        refine lv_iload hx hb dX8_magpies_49 (lv_at hl 4 rfl) ?_
        refine lv_iload_n hx hb dX8_magpies_51 rfl (lv_at hl 3 rfl) ?_
        refine g_cVi (Wd := WM q ad) (z := z) (As := [.int x4, .int x3]) (rest := []) hG S (kX8_isFewer l D q ad A hD z x4 x3 _ h) (cwV 2 ht (cW_V (fun _ h => h) tw_co_X8_isFewer tw_ml_X8_250 tw_im_X8_isFewer tw_se_X8_isFewer tw_in_X8) rfl rfl rfl (by decide +kernel) ⟨by decide, by decide⟩) (va_recv hK hP (ci := 8) (q0 := 0) rfl (wm_0 q ad z)) hE hP hS rfl hl.1 rfl (Nat.le_of_ble_eq_true rfl) dX8_magpies_52 ⟨Nat.zero_le _, Nat.zero_le _⟩ (fun r52 z52 H locs h hP hS => ?_)
        refine lv_if_eq (tgt := 102) hx hb dX8_magpies_55 (by decide) (fun c55 => ?_) (fun c55 => ?_)
        · have h := h.1 c55
          exact B102 rec30 hrec30 z52 x1 x2 x3 x4 _ _ _ h hP hS (lv_sub hl [0, 1, 2, 3, 4] rfl)
        · have h := h.2 c55
          refine lv_aload_n hx hb dX8_magpies_58 rfl (lv_at hl 0 rfl) ?_
          refine lv_iload hx hb dX8_magpies_59 (lv_at hl 4 rfl) ?_
          refine lv_iload_n hx hb dX8_magpies_61 rfl (lv_at hl 2 rfl) ?_
          refine lv_ior hx hb dX8_magpies_62 ?_
          refine g_cVi (Wd := WM q ad) (z := z52) (As := [.int (x4 ||| x2)]) (rest := []) hG S (kX8_isAllowed l D q ad A hD z52 (x4 ||| x2) _ h) (cwV 1 ht (cW_V (fun _ h => h) tw_co_X8_isAllowed tw_ml_X8_258 tw_im_X8_isAllowed tw_se_X8_isAllowed tw_in_X8) rfl rfl rfl (by decide +kernel) ⟨by decide, by decide⟩) (va_recv hK hP (ci := 8) (q0 := 0) rfl (wm_0 q ad z52)) hE hP hS rfl hl.1 rfl (Nat.le_of_ble_eq_true rfl) dX8_magpies_63 ⟨Nat.zero_le _, Nat.zero_le _⟩ (fun r63 z63 H locs h hP hS => ?_)
          refine lv_if_eq (tgt := 102) hx hb dX8_magpies_66 (by decide) (fun c66 => ?_) (fun c66 => ?_)
          · have h := h.1 c66
            exact B102 rec30 hrec30 z63 x1 x2 x3 x4 _ _ _ h hP hS (lv_sub hl [0, 1, 2, 3, 4] rfl)
          · have h := h.2 c66
            refine lv_aload_n hx hb dX8_magpies_69 rfl (lv_at hl 0 rfl) ?_
            refine lv_iload hx hb dX8_magpies_70 (lv_at hl 4 rfl) ?_
            refine g_cVv (Wd := WM q ad) (z := z63) (As := [.int x4]) (rest := []) hG S (kX8_magpiesIn l D q ad A hD z63 x4 _ h) (cwV 1 ht (cW_V (fun _ h => h) tw_co_X8_magpiesIn tw_ml_X8_261 tw_im_X8_magpiesIn tw_se_X8_magpiesIn tw_in_X8) rfl rfl rfl (by decide +kernel) ⟨by decide, by decide⟩) (va_recv hK hP (ci := 8) (q0 := 0) rfl (wm_0 q ad z63)) hE hP hS rfl hl.1 rfl (Nat.le_of_ble_eq_true rfl) dX8_magpies_72 ⟨Nat.zero_le _, Nat.zero_le _⟩ (fun z72 H locs h hP hS => ?_)
            refine lv_aload_n hx hb dX8_magpies_75 rfl (lv_at hl 0 rfl) ?_
            refine g_cVv (Wd := WM q ad) (z := z72) (As := []) (rest := []) hG S (kX8_run l D q ad A hD z72 _ h) (cwV 0 ht (cW_V (fun _ h => h) tw_co_X8_run tw_ml_X8_236 tw_im_X8_run tw_se_X8_run tw_in_X8) rfl rfl rfl (by decide +kernel) ⟨by decide, by decide⟩) (va_recv hK hP (ci := 8) (q0 := 0) rfl (wm_0 q ad z72)) hE hP hS rfl hl.1 rfl (Nat.le_of_ble_eq_true rfl) dX8_magpies_76 ⟨Nat.zero_le _, Nat.zero_le _⟩ (fun z76 H locs h hP hS => ?_)
            refine lv_aload_n hx hb dX8_magpies_79 rfl (lv_at hl 0 rfl) ?_
            refine va_get (D := D) (ci := 8) (v := .int (z76.1 0 30)) (C := RX8) (T := TX8) (N := 45) hx hb ht tl_X8 hown hK hP 0 (wm_0 q ad z76) rfl 30 (by decide) (ht _ tw_fl_X8_223) (fun _ h9 => h9) rfl dX8_magpies_80 ?_
            refine lv_bipush (v := (-4 : Int32)) hx hb dX8_magpies_83 (by decide) ?_
            refine lv_icmp_ne (tgt := 93) hx hb dX8_magpies_85 (by decide) (fun c85 => ?_) (fun c85 => ?_)
            · have h := h.1 c85
              refine lv_iload_n hx hb dX8_magpies_93 rfl (lv_at hl 3 rfl) ?_
              exact B94 rec30 hrec30 z76 x1 x2 x4 x3 _ _ _ h hP hS (lv_sub hl [0, 1, 2, 4] rfl)
            · have h := h.2 c85
              refine lv_iload hx hb dX8_magpies_88 (lv_at hl 4 rfl) ?_
              refine lv_goto (tgt := 94) hx hb dX8_magpies_90 (by decide) ?_
              exact B94 rec30 hrec30 z76 x1 x2 x4 x4 _ _ _ h hP hS (lv_sub hl [0, 1, 2, 4] rfl)
  have L30 : ∀ (n : Nat) (z : MX) (x1 : Int32) (x2 : Int32) (x3 : Int32) (x4 : Int32) (H : Heap) (locs : List Loc) (ls : Array Slot), pX8_magpies_L30  post n z x1 x2 x3 x4 → va_P D vwCl (WM q ad z) H → va_S A s.heap H locs → lv_has ls 5 [(0, .ref (ad 0)), (1, .int x1), (2, .int x2), (3, .int x3), (4, .int x4)] → W p l e (headSpec (cW yX8_magpies cX8_magpies 5 (some .int)) ({ frames := 4, cells := 0, slots := 0, locals := 88 } : Room)).room s m args below meth c H locs 0 0 (MQ below (va_Qi post (gB D vwCl (WM q ad) (mE D q)) A) args s 0 0 A) (F0 m 30 ls []) := by
    intro n
    induction n with
    | zero =>
      intro z x1 x2 x3 x4 H locs ls h
      exact False.elim h
    | succ n ih =>
      intro z x1 x2 x3 x4 H locs ls h hP hS hl
      exact B30 (pX8_magpies_L30  post n) ih z x1 x2 x3 x4 H locs ls h hP hS hl
  refine g_entry (vs := [.ref (ad 0), .int x1]) hargs (Nat.le_of_ble_eq_true rfl) (fun ls hl => ?_)
  have hl : lv_has ls 5 [(0, .ref (ad 0)), (1, .int x1)] := hl
  unfold pX8_magpies at h
  refine lv_iload_n hx hb dX8_magpies_0 rfl (lv_at hl 1 rfl) ?_
  refine lv_i2l hx hb dX8_magpies_1 rfl ?_
  refine lv_lconst (v := (0 : Int64)) hx hb dX8_magpies_2 (by decide) ?_
  refine lv_lconst (v := (1 : Int64)) hx hb dX8_magpies_3 (by decide) ?_
  refine g_cSi (Wd := WM q ad) (z := z) (As := [.long (Int32.toInt64 x1), .long (0 : Int64), .long (1 : Int64)]) (rest := []) hG S (kX8_in l D q ad A hD z (Int32.toInt64 x1) (0 : Int64) (1 : Int64) _ h) (va_cwS 3 ht (cW_S (fun _ h => h) tw_co_X8_in tw_ml_X8_74 tw_st_X8_in tw_in_X8) rfl rfl rfl (by decide +kernel) ⟨by decide, by decide⟩) hE hP hS rfl hl.1 rfl (Nat.le_of_ble_eq_true rfl) dX8_magpies_4 ⟨Nat.zero_le _, Nat.zero_le _⟩ (fun r4 z4 H locs h hP hS => ?_)
  refine lv_if_ne (tgt := 12) hx hb dX8_magpies_7 (by decide) (fun c7 => ?_) (fun c7 => ?_)
  · have h := h.1 c7
    refine lv_aload_n hx hb dX8_magpies_12 rfl (lv_at hl 0 rfl) ?_
    refine g_cVi (Wd := WM q ad) (z := z4) (As := []) (rest := []) hG S (kX8_omens l D q ad A hD z4 _ h) (cwV 0 ht (cW_V (fun _ h => h) tw_co_X8_omens tw_ml_X8_182 tw_im_X8_omens tw_se_X8_omens tw_in_X8) rfl rfl rfl (by decide +kernel) ⟨by decide, by decide⟩) (va_recv hK hP (ci := 8) (q0 := 0) rfl (wm_0 q ad z4)) hE hP hS rfl hl.1 rfl (Nat.le_of_ble_eq_true rfl) dX8_magpies_13 ⟨Nat.zero_le _, Nat.zero_le _⟩ (fun r13 z13 H locs h hP hS => ?_)
    refine lv_istore_n (lv' := [(2, .int r13), (0, .ref (ad 0)), (1, .int x1)]) hx hb dX8_magpies_16 rfl hl (by decide) rfl (fun ls hl => ?_)
    refine lv_bipush (v := (-4 : Int32)) hx hb dX8_magpies_17 (by decide) ?_
    refine lv_istore_n (lv' := [(3, .int (-4 : Int32)), (2, .int r13), (0, .ref (ad 0)), (1, .int x1)]) hx hb dX8_magpies_19 rfl hl (by decide) rfl (fun ls hl => ?_)
    refine lv_aload_n hx hb dX8_magpies_20 rfl (lv_at hl 2 rfl) ?_
    refine lv_iconst (v := (0 : Int32)) hx hb dX8_magpies_21 (by decide) ?_
    refine lv_bipush (v := (100 : Int32)) hx hb dX8_magpies_22 (by decide) ?_
    refine g_cVv (Wd := WM q ad) (z := z13) (As := [.int (0 : Int32), .int (100 : Int32)]) (rest := []) hG S (kX8_copies l D q ad A hD z13 (0 : Int32) (100 : Int32) _ h) (cwV 2 ht (cW_V (fun _ h => h) tw_co_X8_copies tw_ml_X8_255 tw_im_X8_copies tw_se_X8_copies tw_in_X8) rfl rfl rfl (by decide +kernel) ⟨by decide, by decide⟩) (va_recv hK hP (ci := 8) (q0 := 0) rfl (wm_0 q ad z13)) hE hP hS rfl hl.1 rfl (Nat.le_of_ble_eq_true rfl) dX8_magpies_24 ⟨Nat.zero_le _, Nat.zero_le _⟩ (fun z24 H locs h hP hS => ?_)
    refine lv_iconst (v := (0 : Int32)) hx hb dX8_magpies_27 (by decide) ?_
    refine lv_istore (lv' := [(4, .int (0 : Int32)), (3, .int (-4 : Int32)), (2, .int r13), (0, .ref (ad 0)), (1, .int x1)]) hx hb dX8_magpies_28 hl (by decide) rfl (fun ls hl => ?_)
    obtain ⟨n, h⟩ := h
    exact L30 n z24 x1 r13 (-4 : Int32) (0 : Int32) _ _ _ h hP hS (lv_sub hl [3, 4, 2, 1, 0] rfl)
  · have h := h.2 c7
    refine lv_iconst (v := (-1 : Int32)) hx hb dX8_magpies_10 (by decide) ?_
    exact g_ri hG hx hb hr hlocks hE hP hS h dX8_magpies_11
def pX8_laysStarts_l9 (rec9 : MX → Int32 → Int32 → Prop) (post : MX → Prop) (z : MX) (x2 : Int32) (x3 : Int32) : Prop :=
    ((x3 < 0 →
      post z) ∧
    (¬ x3 < 0 →
      ¬ (4 : Int32) = 0 ∧
      vp_in ((17 : Int32) + x3) 125 ∧
      ∀ z24 : MX, z24 = mw z 1 (Int32.toNatClampNeg ((17 : Int32) + x3)) (x2 - x2 / (4 : Int32) * (4 : Int32)) →
      ¬ (4 : Int32) = 0 ∧
      ∀ x2_28 : Int32, x2_28 = x2 / (4 : Int32) →
      ∀ x3_29 : Int32, x3_29 = x3 + (-1 : Int32) →
      rec9 z24 x2_28 x3_29))
def pX8_laysStarts_L9 (post : MX → Prop) : Nat → MX → Int32 → Int32 → Prop
  | 0 => fun _ _ _ => False
  | n + 1 => fun z x2 x3 => pX8_laysStarts_l9  (pX8_laysStarts_L9  post n) post z x2 x3
def pX8_laysStarts (z : MX) (x1 : Int32) (post : MX → Prop) : Prop :=
  ∀ x3_8 : Int32, x3_8 = (z.1 0 2) - (1 : Int32) →
  ∃ n, pX8_laysStarts_L9  post n z x1 x3_8
set_option maxHeartbeats 4000000 in
set_option maxRecDepth 100000 in
theorem kX8_laysStarts (l : Launch) (D : va_G) (q : Nat → ClassId) (ad : Nat → Nat) (A : Nat → Prop) (hD : ∀ z, va_D A (WM q ad z)) (z : MX) (x1 : Int32) (post : MX → Prop) (h : pX8_laysStarts  z x1 post) : Met l yX8_laysStarts (cW yX8_laysStarts cX8_laysStarts 4 none) ({ frames := 0, cells := 0, slots := 0, locals := 0 } : Room) (va_Pc [.ref (ad 0), .int x1] ((gB D vwCl (WM q ad) (mE D q)) z)) (va_Qv post (gB D vwCl (WM q ad) (mE D q)) A) 0 0 A := by
  refine Met.ofW (cc := cX8_laysStarts) (maxL := 4) (ret := none) (by decide) rfl ?_
  intro p e s m args below meth c s₁ B hml hv
  obtain ⟨hargs, hP, hE⟩ := hv
  have hx := B.exec
  have hb := B.bytes
  have hr := B.returns
  have hts := atoms_spec (ws := (cW yX8_laysStarts cX8_laysStarts 4 none)) B.pre
  have ht : ∀ w ∈ tG, w.before args s = true := fun w h => hts w (List.mem_cons_of_mem _ h)
  have hown : s.vm.findClass RX8 = some m.cls := findClass_of_methodNamed B.named
  have hlocks := B.notSynchronized
  have hK := hE.1
  have hG := mE_G D q A
  have S : CallFix p m c cX8_laysStarts 4 s args tG RX8 := ⟨hx, hb, hml, hown, ht⟩
  have hS : va_S A s.heap s.heap [] := va_S.rf
  have B9 : ∀ (rec9 : MX → Int32 → Int32 → Prop) (hrec9 : ∀ (z : MX) (x2 : Int32) (x3 : Int32) (H : Heap) (locs : List Loc) (ls : Array Slot), rec9 z x2 x3 → va_P D vwCl (WM q ad z) H → va_S A s.heap H locs → lv_has ls 4 [(0, .ref (ad 0)), (2, .int x2), (3, .int x3)] → W p l e (headSpec (cW yX8_laysStarts cX8_laysStarts 4 none) ({ frames := 0, cells := 0, slots := 0, locals := 0 } : Room)).room s m args below meth c H locs 0 0 (MQ below (va_Qv post (gB D vwCl (WM q ad) (mE D q)) A) args s 0 0 A) (F0 m 9 ls [])) (z : MX) (x2 : Int32) (x3 : Int32) (H : Heap) (locs : List Loc) (ls : Array Slot), pX8_laysStarts_l9  rec9 post z x2 x3 → va_P D vwCl (WM q ad z) H → va_S A s.heap H locs → lv_has ls 4 [(0, .ref (ad 0)), (2, .int x2), (3, .int x3)] → W p l e (headSpec (cW yX8_laysStarts cX8_laysStarts 4 none) ({ frames := 0, cells := 0, slots := 0, locals := 0 } : Room)).room s m args below meth c H locs 0 0 (MQ below (va_Qv post (gB D vwCl (WM q ad) (mE D q)) A) args s 0 0 A) (F0 m 9 ls []) := by
    intro rec9 hrec9 z x2 x3 H locs ls h hP hS hl
    unfold pX8_laysStarts_l9 at h
    refine lv_iload_n hx hb dX8_laysStarts_9 rfl (lv_at hl 2 rfl) ?_
    refine lv_if_lt (tgt := 35) hx hb dX8_laysStarts_10 (by decide) (fun c10 => ?_) (fun c10 => ?_)
    · have h := h.1 c10
      exact g_rv hG hx hb hr hlocks hE hP hS h dX8_laysStarts_35
    · have h := h.2 c10
      refine lv_aload_n hx hb dX8_laysStarts_13 rfl (lv_at hl 0 rfl) ?_
      refine va_get (D := D) (ci := 8) (v := .ref (ad 1)) (C := RX8) (T := TX8) (N := 45) hx hb ht tl_X8 hown hK hP 0 (wm_0 q ad z) rfl 0 (by decide) (ht _ tw_fl_X8_7) (fun _ h9 => h9) rfl dX8_laysStarts_14 ?_
      refine lv_bipush (v := (17 : Int32)) hx hb dX8_laysStarts_17 (by decide) ?_
      refine lv_iload_n hx hb dX8_laysStarts_19 rfl (lv_at hl 2 rfl) ?_
      refine lv_iadd hx hb dX8_laysStarts_20 ?_
      refine lv_iload_n hx hb dX8_laysStarts_21 rfl (lv_at hl 1 rfl) ?_
      refine lv_iconst (v := (4 : Int32)) hx hb dX8_laysStarts_22 (by decide) ?_
      have hd23 := h.1
      have h := h.2
      refine lv_irem hx hb dX8_laysStarts_23 hd23 ?_
      have hi24 := h.1
      have h := h.2
      refine g_iast (Wd := WM q ad) (z := z) hx hb hK hP (hD z) hS 1 (wm_1 q ad z) rfl (am_1 q ad z) hi24 dX8_laysStarts_24 (fun z24 H locs hz24 hP hS => ?_)
      have h := h z24 hz24
      refine lv_iload_n hx hb dX8_laysStarts_25 rfl (lv_at hl 1 rfl) ?_
      refine lv_iconst (v := (4 : Int32)) hx hb dX8_laysStarts_26 (by decide) ?_
      have hd27 := h.1
      have h := h.2
      refine lv_idiv hx hb dX8_laysStarts_27 hd27 ?_
      refine lv_topi (fun x2_28 ex2_28 => ?_)
      have h := h x2_28 ex2_28
      refine lv_istore_n (lv' := [(2, .int x2_28), (0, .ref (ad 0)), (3, .int x3)]) hx hb dX8_laysStarts_28 rfl hl (by decide) rfl (fun ls hl => ?_)
      obtain ⟨x3_29, ex3_29⟩ : ∃ w : Int32, w = x3 + (-1 : Int32) := ⟨_, rfl⟩
      have h := h x3_29 ex3_29
      refine lv_iinc (v := x3_29) (lv' := [(3, .int x3_29), (2, .int x2_28), (0, .ref (ad 0))]) hx hb dX8_laysStarts_29 hl (k := 2) rfl (by rw [ex3_29]; rfl) (by decide) rfl (fun ls hl => ?_)
      refine lv_goto (tgt := 9) hx hb dX8_laysStarts_32 (by decide) ?_
      exact hrec9 z24 x2_28 x3_29 _ _ _ h hP hS (lv_sub hl [2, 1, 0] rfl)
  have L9 : ∀ (n : Nat) (z : MX) (x2 : Int32) (x3 : Int32) (H : Heap) (locs : List Loc) (ls : Array Slot), pX8_laysStarts_L9  post n z x2 x3 → va_P D vwCl (WM q ad z) H → va_S A s.heap H locs → lv_has ls 4 [(0, .ref (ad 0)), (2, .int x2), (3, .int x3)] → W p l e (headSpec (cW yX8_laysStarts cX8_laysStarts 4 none) ({ frames := 0, cells := 0, slots := 0, locals := 0 } : Room)).room s m args below meth c H locs 0 0 (MQ below (va_Qv post (gB D vwCl (WM q ad) (mE D q)) A) args s 0 0 A) (F0 m 9 ls []) := by
    intro n
    induction n with
    | zero =>
      intro z x2 x3 H locs ls h
      exact False.elim h
    | succ n ih =>
      intro z x2 x3 H locs ls h hP hS hl
      exact B9 (pX8_laysStarts_L9  post n) ih z x2 x3 H locs ls h hP hS hl
  refine g_entry (vs := [.ref (ad 0), .int x1]) hargs (Nat.le_of_ble_eq_true rfl) (fun ls hl => ?_)
  have hl : lv_has ls 4 [(0, .ref (ad 0)), (1, .int x1)] := hl
  unfold pX8_laysStarts at h
  refine lv_iload_n hx hb dX8_laysStarts_0 rfl (lv_at hl 1 rfl) ?_
  refine lv_istore_n (lv' := [(2, .int x1), (0, .ref (ad 0)), (1, .int x1)]) hx hb dX8_laysStarts_1 rfl hl (by decide) rfl (fun ls hl => ?_)
  refine lv_aload_n hx hb dX8_laysStarts_2 rfl (lv_at hl 1 rfl) ?_
  refine va_get (D := D) (ci := 8) (v := .int (z.1 0 2)) (C := RX8) (T := TX8) (N := 45) hx hb ht tl_X8 hown hK hP 0 (wm_0 q ad z) rfl 2 (by decide) (ht _ tw_fl_X8_173) (fun _ h9 => h9) rfl dX8_laysStarts_3 ?_
  refine lv_iconst (v := (1 : Int32)) hx hb dX8_laysStarts_6 (by decide) ?_
  refine lv_isub hx hb dX8_laysStarts_7 ?_
  refine lv_topi (fun x3_8 ex3_8 => ?_)
  have h := h x3_8 ex3_8
  refine lv_istore_n (lv' := [(3, .int x3_8), (2, .int x1), (0, .ref (ad 0)), (1, .int x1)]) hx hb dX8_laysStarts_8 rfl hl (by decide) rfl (fun ls hl => ?_)
  obtain ⟨n, h⟩ := h
  exact L9 n z x1 x3_8 _ _ _ h hP hS (lv_sub hl [2, 1, 0] rfl)
def pX8_starts_b168 (post : Int32 → MX → Prop) (z : MX) (y0 : Int32) : Prop :=
    pX8_copies z (100 : Int32) (0 : Int32) (fun (z174 : MX) =>
    post y0 z174)
def pX8_starts_b134 (post : Int32 → MX → Prop) (z : MX) (x1 : Int32) (x2 : Int32) (x3 : Int32) (y1 : Int32) : Prop :=
    pX8_laysStarts z y1 (fun (z134 : MX) =>
    ((¬ x2 = (-4 : Int32) →
      ((¬ x1 = 0 →
        vp_in (((17 : Int32) + x1) - (10 : Int32)) 125 ∧
        pX8_starts_b168  post z134 (z134.1 1 (Int32.toNatClampNeg (((17 : Int32) + x1) - (10 : Int32))))) ∧
      (x1 = 0 →
        pX8_starts_b168  post z134 x3))) ∧
    (x2 = (-4 : Int32) →
      pX8_starts_b168  post z134 (-4 : Int32))))
def pX8_starts_b115 (rec41 : MX → Int32 → Int32 → Int32 → Int32 → Prop) (post : Int32 → MX → Prop) (z : MX) (x1 : Int32) (x2 : Int32) (x4 : Int32) (y0 : Int32) : Prop :=
    ∀ x4_116 : Int32, x4_116 = x4 + (1 : Int32) →
    rec41 z x1 x2 y0 x4_116
def pX8_starts_b101 (rec41 : MX → Int32 → Int32 → Int32 → Int32 → Prop) (post : Int32 → MX → Prop) (z : MX) (x1 : Int32) (x3 : Int32) (x4 : Int32) (x5 : Int32) (y0 : Int32) : Prop :=
    ((x5 = 0 →
      pX8_starts_b115  rec41 post z x1 y0 x4 x3) ∧
    (¬ x5 = 0 →
      pX8_cost z (fun (r108 : Int32) (z108 : MX) =>
      pX8_starts_b115  rec41 post z108 x1 y0 x4 r108)))
def pX8_starts_b88 (rec41 : MX → Int32 → Int32 → Int32 → Int32 → Prop) (post : Int32 → MX → Prop) (z : MX) (x1 : Int32) (x2 : Int32) (x3 : Int32) (x4 : Int32) (y0 : Int32) : Prop :=
    ((y0 = 0 →
      pX8_starts_b101  rec41 post z x1 x3 x4 y0 x2) ∧
    (¬ y0 = 0 →
      pX8_starts_b101  rec41 post z x1 x3 x4 y0 x4))
def pX8_starts_b87 (rec41 : MX → Int32 → Int32 → Int32 → Int32 → Prop) (post : Int32 → MX → Prop) (z : MX) (x1 : Int32) (x2 : Int32) (x3 : Int32) (x4 : Int32) : Prop :=
    pX8_starts_b88  rec41 post z x1 x2 x3 x4 (0 : Int32)
def pX8_starts_l41 (rec41 : MX → Int32 → Int32 → Int32 → Int32 → Prop) (post : Int32 → MX → Prop) (z : MX) (x1 : Int32) (x2 : Int32) (x3 : Int32) (x4 : Int32) : Prop :=
    ((((1 : Int32) <<< (((2 : Int32) * (z.1 0 2)) &&& 31)) ≤ x4 →
      ((¬ x2 = (-4 : Int32) →
        pX8_starts_b134  post z x1 x2 x3 x2) ∧
      (x2 = (-4 : Int32) →
        pX8_starts_b134  post z x1 x2 x3 (0 : Int32)))) ∧
    (¬ ((1 : Int32) <<< (((2 : Int32) * (z.1 0 2)) &&& 31)) ≤ x4 →
      pX8_laysStarts z x4 (fun (z57 : MX) =>
      pX8_run z57 (fun (z61 : MX) =>
      pX8_homeMany z61 (fun (r65 : Int32) (z65 : MX) =>
      ((¬ r65 = (z65.1 0 2) →
        pX8_starts_b87  rec41 post z65 x1 x2 x3 x4) ∧
      (r65 = (z65.1 0 2) →
        pX8_cost z65 (fun (r76 : Int32) (z76 : MX) =>
        ((x3 ≤ r76 →
          pX8_starts_b87  rec41 post z76 x1 x2 x3 x4) ∧
        (¬ x3 ≤ r76 →
          pX8_starts_b88  rec41 post z76 x1 x2 x3 x4 (1 : Int32)))))))))))
def pX8_starts_L41 (post : Int32 → MX → Prop) : Nat → MX → Int32 → Int32 → Int32 → Int32 → Prop
  | 0 => fun _ _ _ _ _ => False
  | n + 1 => fun z x1 x2 x3 x4 => pX8_starts_l41  (pX8_starts_L41  post n) post z x1 x2 x3 x4
def pX8_starts_b25 (post : Int32 → MX → Prop) (z : MX) (x1 : Int32) : Prop :=
    pX8_copies z (0 : Int32) (100 : Int32) (fun (z35 : MX) =>
    ∃ n, pX8_starts_L41  post n z35 x1 (-4 : Int32) (1000000 : Int32) (0 : Int32))
def pX8_starts (z : MX) (x1 : Int32) (post : Int32 → MX → Prop) : Prop :=
  ((x1 = 0 →
    pX8_starts_b25  post z x1) ∧
  (¬ x1 = 0 →
    pX8_in z (Int32.toInt64 x1) (10 : Int64) (Int32.toInt64 ((9 : Int32) + (z.1 0 2))) (fun (r17 : Int32) (z17 : MX) =>
    ((¬ r17 = 0 →
      pX8_starts_b25  post z17 x1) ∧
    (r17 = 0 →
      post (-1 : Int32) z17)))))
set_option maxHeartbeats 4000000 in
set_option maxRecDepth 100000 in
theorem kX8_starts (l : Launch) (D : va_G) (q : Nat → ClassId) (ad : Nat → Nat) (A : Nat → Prop) (hD : ∀ z, va_D A (WM q ad z)) (z : MX) (x1 : Int32) (post : Int32 → MX → Prop) (h : pX8_starts  z x1 post) : Met l yX8_starts (cW yX8_starts cX8_starts 6 (some .int)) ({ frames := 4, cells := 0, slots := 0, locals := 88 } : Room) (va_Pc [.ref (ad 0), .int x1] ((gB D vwCl (WM q ad) (mE D q)) z)) (va_Qi post (gB D vwCl (WM q ad) (mE D q)) A) 0 0 A := by
  refine Met.ofW (cc := cX8_starts) (maxL := 6) (ret := (some .int)) (by decide) rfl ?_
  intro p e s m args below meth c s₁ B hml hv
  obtain ⟨hargs, hP, hE⟩ := hv
  have hx := B.exec
  have hb := B.bytes
  have hr := B.returns
  have hts := atoms_spec (ws := (cW yX8_starts cX8_starts 6 (some .int))) B.pre
  have ht : ∀ w ∈ tG, w.before args s = true := fun w h => hts w (List.mem_cons_of_mem _ h)
  have hown : s.vm.findClass RX8 = some m.cls := findClass_of_methodNamed B.named
  have hlocks := B.notSynchronized
  have hK := hE.1
  have hG := mE_G D q A
  have S : CallFix p m c cX8_starts 6 s args tG RX8 := ⟨hx, hb, hml, hown, ht⟩
  have hS : va_S A s.heap s.heap [] := va_S.rf
  have B168 : ∀ (z : MX) (y0 : Int32) (H : Heap) (locs : List Loc) (ls : Array Slot), pX8_starts_b168  post z y0 → va_P D vwCl (WM q ad z) H → va_S A s.heap H locs → lv_has ls 6 [(0, .ref (ad 0))] → W p l e (headSpec (cW yX8_starts cX8_starts 6 (some .int)) ({ frames := 4, cells := 0, slots := 0, locals := 88 } : Room)).room s m args below meth c H locs 0 0 (MQ below (va_Qi post (gB D vwCl (WM q ad) (mE D q)) A) args s 0 0 A) (F0 m 168 ls [.int y0]) := by
    intro z y0 H locs ls h hP hS hl
    unfold pX8_starts_b168 at h
    refine lv_istore (lv' := [(4, .int y0), (0, .ref (ad 0))]) hx hb dX8_starts_168 hl (by decide) rfl (fun ls hl => ?_)
    refine lv_aload_n hx hb dX8_starts_170 rfl (lv_at hl 1 rfl) ?_
    refine lv_bipush (v := (100 : Int32)) hx hb dX8_starts_171 (by decide) ?_
    refine lv_iconst (v := (0 : Int32)) hx hb dX8_starts_173 (by decide) ?_
    refine g_cVv (Wd := WM q ad) (z := z) (As := [.int (100 : Int32), .int (0 : Int32)]) (rest := []) hG S (kX8_copies l D q ad A hD z (100 : Int32) (0 : Int32) _ h) (cwV 2 ht (cW_V (fun _ h => h) tw_co_X8_copies tw_ml_X8_255 tw_im_X8_copies tw_se_X8_copies tw_in_X8) rfl rfl rfl (by decide +kernel) ⟨by decide, by decide⟩) (va_recv hK hP (ci := 8) (q0 := 0) rfl (wm_0 q ad z)) hE hP hS rfl hl.1 rfl (Nat.le_of_ble_eq_true rfl) dX8_starts_174 ⟨Nat.zero_le _, Nat.zero_le _⟩ (fun z174 H locs h hP hS => ?_)
    refine lv_iload hx hb dX8_starts_177 (lv_at hl 0 rfl) ?_
    exact g_ri hG hx hb hr hlocks hE hP hS h dX8_starts_179
  have B134 : ∀ (z : MX) (x1 : Int32) (x2 : Int32) (x3 : Int32) (y1 : Int32) (H : Heap) (locs : List Loc) (ls : Array Slot), pX8_starts_b134  post z x1 x2 x3 y1 → va_P D vwCl (WM q ad z) H → va_S A s.heap H locs → lv_has ls 6 [(0, .ref (ad 0)), (1, .int x1), (2, .int x2), (3, .int x3)] → W p l e (headSpec (cW yX8_starts cX8_starts 6 (some .int)) ({ frames := 4, cells := 0, slots := 0, locals := 88 } : Room)).room s m args below meth c H locs 0 0 (MQ below (va_Qi post (gB D vwCl (WM q ad) (mE D q)) A) args s 0 0 A) (F0 m 134 ls [.int y1, .ref (ad 0)]) := by
    intro z x1 x2 x3 y1 H locs ls h hP hS hl
    unfold pX8_starts_b134 at h
    refine g_cVv (Wd := WM q ad) (z := z) (As := [.int y1]) (rest := []) hG S (kX8_laysStarts l D q ad A hD z y1 _ h) (cwV 1 ht (cW_V (fun _ h => h) tw_co_X8_laysStarts tw_ml_X8_264 tw_im_X8_laysStarts tw_se_X8_laysStarts tw_in_X8) rfl rfl rfl (by decide +kernel) ⟨by decide, by decide⟩) (va_recv hK hP (ci := 8) (q0 := 0) rfl (wm_0 q ad z)) hE hP hS rfl hl.1 rfl (Nat.le_of_ble_eq_true rfl) dX8_starts_134 ⟨Nat.zero_le _, Nat.zero_le _⟩ (fun z134 H locs h hP hS => ?_)
    refine lv_iload_n hx hb dX8_starts_137 rfl (lv_at hl 2 rfl) ?_
    refine lv_bipush (v := (-4 : Int32)) hx hb dX8_starts_138 (by decide) ?_
    refine lv_icmp_ne (tgt := 148) hx hb dX8_starts_140 (by decide) (fun c140 => ?_) (fun c140 => ?_)
    · have h := h.1 c140
      refine lv_iload_n hx hb dX8_starts_148 rfl (lv_at hl 1 rfl) ?_
      refine lv_if_ne (tgt := 156) hx hb dX8_starts_149 (by decide) (fun c149 => ?_) (fun c149 => ?_)
      · have h := h.1 c149
        refine lv_aload_n hx hb dX8_starts_156 rfl (lv_at hl 0 rfl) ?_
        refine va_get (D := D) (ci := 8) (v := .ref (ad 1)) (C := RX8) (T := TX8) (N := 45) hx hb ht tl_X8 hown hK hP 0 (wm_0 q ad z134) rfl 0 (by decide) (ht _ tw_fl_X8_7) (fun _ h9 => h9) rfl dX8_starts_157 ?_
        refine lv_bipush (v := (17 : Int32)) hx hb dX8_starts_160 (by decide) ?_
        refine lv_iload_n hx hb dX8_starts_162 rfl (lv_at hl 1 rfl) ?_
        refine lv_iadd hx hb dX8_starts_163 ?_
        refine lv_bipush (v := (10 : Int32)) hx hb dX8_starts_164 (by decide) ?_
        refine lv_isub hx hb dX8_starts_166 ?_
        have hi167 := h.1
        have h := h.2
        refine va_iald hx hb hK hP 1 0 (wm_1 q ad z134) rfl hi167 dX8_starts_167 ?_
        exact B168 z134 (z134.1 1 (Int32.toNatClampNeg (((17 : Int32) + x1) - (10 : Int32)))) _ _ _ h hP hS (lv_sub hl [0] rfl)
      · have h := h.2 c149
        refine lv_iload_n hx hb dX8_starts_152 rfl (lv_at hl 3 rfl) ?_
        refine lv_goto (tgt := 168) hx hb dX8_starts_153 (by decide) ?_
        exact B168 z134 x3 _ _ _ h hP hS (lv_sub hl [0] rfl)
    · have h := h.2 c140
      refine lv_bipush (v := (-4 : Int32)) hx hb dX8_starts_143 (by decide) ?_
      refine lv_goto (tgt := 168) hx hb dX8_starts_145 (by decide) ?_
      exact B168 z134 (-4 : Int32) _ _ _ h hP hS (lv_sub hl [0] rfl)
  have B115 : ∀ (rec41 : MX → Int32 → Int32 → Int32 → Int32 → Prop) (hrec41 : ∀ (z : MX) (x1 : Int32) (x2 : Int32) (x3 : Int32) (x4 : Int32) (H : Heap) (locs : List Loc) (ls : Array Slot), rec41 z x1 x2 x3 x4 → va_P D vwCl (WM q ad z) H → va_S A s.heap H locs → lv_has ls 6 [(0, .ref (ad 0)), (1, .int x1), (2, .int x2), (3, .int x3), (4, .int x4)] → W p l e (headSpec (cW yX8_starts cX8_starts 6 (some .int)) ({ frames := 4, cells := 0, slots := 0, locals := 88 } : Room)).room s m args below meth c H locs 0 0 (MQ below (va_Qi post (gB D vwCl (WM q ad) (mE D q)) A) args s 0 0 A) (F0 m 41 ls [])) (z : MX) (x1 : Int32) (x2 : Int32) (x4 : Int32) (y0 : Int32) (H : Heap) (locs : List Loc) (ls : Array Slot), pX8_starts_b115  rec41 post z x1 x2 x4 y0 → va_P D vwCl (WM q ad z) H → va_S A s.heap H locs → lv_has ls 6 [(0, .ref (ad 0)), (1, .int x1), (2, .int x2), (4, .int x4)] → W p l e (headSpec (cW yX8_starts cX8_starts 6 (some .int)) ({ frames := 4, cells := 0, slots := 0, locals := 88 } : Room)).room s m args below meth c H locs 0 0 (MQ below (va_Qi post (gB D vwCl (WM q ad) (mE D q)) A) args s 0 0 A) (F0 m 115 ls [.int y0]) := by
    intro rec41 hrec41 z x1 x2 x4 y0 H locs ls h hP hS hl
    unfold pX8_starts_b115 at h
    refine lv_istore_n (lv' := [(3, .int y0), (0, .ref (ad 0)), (1, .int x1), (2, .int x2), (4, .int x4)]) hx hb dX8_starts_115 rfl hl (by decide) rfl (fun ls hl => ?_)
    obtain ⟨x4_116, ex4_116⟩ : ∃ w : Int32, w = x4 + (1 : Int32) := ⟨_, rfl⟩
    have h := h x4_116 ex4_116
    refine lv_iinc (v := x4_116) (lv' := [(4, .int x4_116), (3, .int y0), (0, .ref (ad 0)), (1, .int x1), (2, .int x2)]) hx hb dX8_starts_116 hl (k := 4) rfl (by rw [ex4_116]; rfl) (by decide) rfl (fun ls hl => ?_)
    refine lv_goto (tgt := 41) hx hb dX8_starts_119 (by decide) ?_
    exact hrec41 z x1 x2 y0 x4_116 _ _ _ h hP hS (lv_sub hl [2, 3, 4, 1, 0] rfl)
  have B101 : ∀ (rec41 : MX → Int32 → Int32 → Int32 → Int32 → Prop) (hrec41 : ∀ (z : MX) (x1 : Int32) (x2 : Int32) (x3 : Int32) (x4 : Int32) (H : Heap) (locs : List Loc) (ls : Array Slot), rec41 z x1 x2 x3 x4 → va_P D vwCl (WM q ad z) H → va_S A s.heap H locs → lv_has ls 6 [(0, .ref (ad 0)), (1, .int x1), (2, .int x2), (3, .int x3), (4, .int x4)] → W p l e (headSpec (cW yX8_starts cX8_starts 6 (some .int)) ({ frames := 4, cells := 0, slots := 0, locals := 88 } : Room)).room s m args below meth c H locs 0 0 (MQ below (va_Qi post (gB D vwCl (WM q ad) (mE D q)) A) args s 0 0 A) (F0 m 41 ls [])) (z : MX) (x1 : Int32) (x3 : Int32) (x4 : Int32) (x5 : Int32) (y0 : Int32) (H : Heap) (locs : List Loc) (ls : Array Slot), pX8_starts_b101  rec41 post z x1 x3 x4 x5 y0 → va_P D vwCl (WM q ad z) H → va_S A s.heap H locs → lv_has ls 6 [(0, .ref (ad 0)), (1, .int x1), (3, .int x3), (4, .int x4), (5, .int x5)] → W p l e (headSpec (cW yX8_starts cX8_starts 6 (some .int)) ({ frames := 4, cells := 0, slots := 0, locals := 88 } : Room)).room s m args below meth c H locs 0 0 (MQ below (va_Qi post (gB D vwCl (WM q ad) (mE D q)) A) args s 0 0 A) (F0 m 101 ls [.int y0]) := by
    intro rec41 hrec41 z x1 x3 x4 x5 y0 H locs ls h hP hS hl
    unfold pX8_starts_b101 at h
    refine lv_istore_n (lv' := [(2, .int y0), (0, .ref (ad 0)), (1, .int x1), (3, .int x3), (4, .int x4), (5, .int x5)]) hx hb dX8_starts_101 rfl hl (by decide) rfl (fun ls hl => ?_)
    refine lv_iload hx hb dX8_starts_102 (lv_at hl 5 rfl) ?_
    refine lv_if_eq (tgt := 114) hx hb dX8_starts_104 (by decide) (fun c104 => ?_) (fun c104 => ?_)
    · have h := h.1 c104
      refine lv_iload_n hx hb dX8_starts_114 rfl (lv_at hl 3 rfl) ?_
      exact B115 rec41 hrec41 z x1 y0 x4 x3 _ _ _ h hP hS (lv_sub hl [1, 2, 0, 4] rfl)
    · have h := h.2 c104
      refine lv_aload_n hx hb dX8_starts_107 rfl (lv_at hl 1 rfl) ?_
      refine g_cVi (Wd := WM q ad) (z := z) (As := []) (rest := []) hG S (kX8_cost l D q ad A hD z _ h) (cwV 0 ht (cW_V (fun _ h => h) tw_co_X8_cost tw_ml_X8_241 tw_im_X8_cost tw_se_X8_cost tw_in_X8) rfl rfl rfl (by decide +kernel) ⟨by decide, by decide⟩) (va_recv hK hP (ci := 8) (q0 := 0) rfl (wm_0 q ad z)) hE hP hS rfl hl.1 rfl (Nat.le_of_ble_eq_true rfl) dX8_starts_108 ⟨Nat.zero_le _, Nat.zero_le _⟩ (fun r108 z108 H locs h hP hS => ?_)
      refine lv_goto (tgt := 115) hx hb dX8_starts_111 (by decide) ?_
      exact B115 rec41 hrec41 z108 x1 y0 x4 r108 _ _ _ h hP hS (lv_sub hl [1, 2, 0, 4] rfl)
  have B88 : ∀ (rec41 : MX → Int32 → Int32 → Int32 → Int32 → Prop) (hrec41 : ∀ (z : MX) (x1 : Int32) (x2 : Int32) (x3 : Int32) (x4 : Int32) (H : Heap) (locs : List Loc) (ls : Array Slot), rec41 z x1 x2 x3 x4 → va_P D vwCl (WM q ad z) H → va_S A s.heap H locs → lv_has ls 6 [(0, .ref (ad 0)), (1, .int x1), (2, .int x2), (3, .int x3), (4, .int x4)] → W p l e (headSpec (cW yX8_starts cX8_starts 6 (some .int)) ({ frames := 4, cells := 0, slots := 0, locals := 88 } : Room)).room s m args below meth c H locs 0 0 (MQ below (va_Qi post (gB D vwCl (WM q ad) (mE D q)) A) args s 0 0 A) (F0 m 41 ls [])) (z : MX) (x1 : Int32) (x2 : Int32) (x3 : Int32) (x4 : Int32) (y0 : Int32) (H : Heap) (locs : List Loc) (ls : Array Slot), pX8_starts_b88  rec41 post z x1 x2 x3 x4 y0 → va_P D vwCl (WM q ad z) H → va_S A s.heap H locs → lv_has ls 6 [(0, .ref (ad 0)), (1, .int x1), (2, .int x2), (3, .int x3), (4, .int x4)] → W p l e (headSpec (cW yX8_starts cX8_starts 6 (some .int)) ({ frames := 4, cells := 0, slots := 0, locals := 88 } : Room)).room s m args below meth c H locs 0 0 (MQ below (va_Qi post (gB D vwCl (WM q ad) (mE D q)) A) args s 0 0 A) (F0 m 88 ls [.int y0]) := by
    intro rec41 hrec41 z x1 x2 x3 x4 y0 H locs ls h hP hS hl
    unfold pX8_starts_b88 at h
    refine lv_istore (lv' := [(5, .int y0), (0, .ref (ad 0)), (1, .int x1), (2, .int x2), (3, .int x3), (4, .int x4)]) hx hb dX8_starts_88 hl (by decide) rfl (fun ls hl => ?_)
    refine lv_iload hx hb dX8_starts_90 (lv_at hl 0 rfl) ?_
    refine lv_if_eq (tgt := 100) hx hb dX8_starts_92 (by decide) (fun c92 => ?_) (fun c92 => ?_)
    · have h := h.1 c92
      refine lv_iload_n hx hb dX8_starts_100 rfl (lv_at hl 3 rfl) ?_
      exact B101 rec41 hrec41 z x1 x3 x4 y0 x2 _ _ _ h hP hS (lv_sub hl [1, 2, 4, 5, 0] rfl)
    · have h := h.2 c92
      refine lv_iload hx hb dX8_starts_95 (lv_at hl 5 rfl) ?_
      refine lv_goto (tgt := 101) hx hb dX8_starts_97 (by decide) ?_
      exact B101 rec41 hrec41 z x1 x3 x4 y0 x4 _ _ _ h hP hS (lv_sub hl [1, 2, 4, 5, 0] rfl)
  have B87 : ∀ (rec41 : MX → Int32 → Int32 → Int32 → Int32 → Prop) (hrec41 : ∀ (z : MX) (x1 : Int32) (x2 : Int32) (x3 : Int32) (x4 : Int32) (H : Heap) (locs : List Loc) (ls : Array Slot), rec41 z x1 x2 x3 x4 → va_P D vwCl (WM q ad z) H → va_S A s.heap H locs → lv_has ls 6 [(0, .ref (ad 0)), (1, .int x1), (2, .int x2), (3, .int x3), (4, .int x4)] → W p l e (headSpec (cW yX8_starts cX8_starts 6 (some .int)) ({ frames := 4, cells := 0, slots := 0, locals := 88 } : Room)).room s m args below meth c H locs 0 0 (MQ below (va_Qi post (gB D vwCl (WM q ad) (mE D q)) A) args s 0 0 A) (F0 m 41 ls [])) (z : MX) (x1 : Int32) (x2 : Int32) (x3 : Int32) (x4 : Int32) (H : Heap) (locs : List Loc) (ls : Array Slot), pX8_starts_b87  rec41 post z x1 x2 x3 x4 → va_P D vwCl (WM q ad z) H → va_S A s.heap H locs → lv_has ls 6 [(0, .ref (ad 0)), (1, .int x1), (2, .int x2), (3, .int x3), (4, .int x4)] → W p l e (headSpec (cW yX8_starts cX8_starts 6 (some .int)) ({ frames := 4, cells := 0, slots := 0, locals := 88 } : Room)).room s m args below meth c H locs 0 0 (MQ below (va_Qi post (gB D vwCl (WM q ad) (mE D q)) A) args s 0 0 A) (F0 m 87 ls []) := by
    intro rec41 hrec41 z x1 x2 x3 x4 H locs ls h hP hS hl
    unfold pX8_starts_b87 at h
    refine lv_iconst (v := (0 : Int32)) hx hb dX8_starts_87 (by decide) ?_
    exact B88 rec41 hrec41 z x1 x2 x3 x4 (0 : Int32) _ _ _ h hP hS (lv_sub hl [0, 1, 2, 3, 4] rfl)
  have B41 : ∀ (rec41 : MX → Int32 → Int32 → Int32 → Int32 → Prop) (hrec41 : ∀ (z : MX) (x1 : Int32) (x2 : Int32) (x3 : Int32) (x4 : Int32) (H : Heap) (locs : List Loc) (ls : Array Slot), rec41 z x1 x2 x3 x4 → va_P D vwCl (WM q ad z) H → va_S A s.heap H locs → lv_has ls 6 [(0, .ref (ad 0)), (1, .int x1), (2, .int x2), (3, .int x3), (4, .int x4)] → W p l e (headSpec (cW yX8_starts cX8_starts 6 (some .int)) ({ frames := 4, cells := 0, slots := 0, locals := 88 } : Room)).room s m args below meth c H locs 0 0 (MQ below (va_Qi post (gB D vwCl (WM q ad) (mE D q)) A) args s 0 0 A) (F0 m 41 ls [])) (z : MX) (x1 : Int32) (x2 : Int32) (x3 : Int32) (x4 : Int32) (H : Heap) (locs : List Loc) (ls : Array Slot), pX8_starts_l41  rec41 post z x1 x2 x3 x4 → va_P D vwCl (WM q ad z) H → va_S A s.heap H locs → lv_has ls 6 [(0, .ref (ad 0)), (1, .int x1), (2, .int x2), (3, .int x3), (4, .int x4)] → W p l e (headSpec (cW yX8_starts cX8_starts 6 (some .int)) ({ frames := 4, cells := 0, slots := 0, locals := 88 } : Room)).room s m args below meth c H locs 0 0 (MQ below (va_Qi post (gB D vwCl (WM q ad) (mE D q)) A) args s 0 0 A) (F0 m 41 ls []) := by
    intro rec41 hrec41 z x1 x2 x3 x4 H locs ls h hP hS hl
    unfold pX8_starts_l41 at h
    refine lv_iload hx hb dX8_starts_41 (lv_at hl 4 rfl) ?_
    refine lv_iconst (v := (1 : Int32)) hx hb dX8_starts_43 (by decide) ?_
    refine lv_iconst (v := (2 : Int32)) hx hb dX8_starts_44 (by decide) ?_
    refine lv_aload_n hx hb dX8_starts_45 rfl (lv_at hl 0 rfl) ?_
    refine va_get (D := D) (ci := 8) (v := .int (z.1 0 2)) (C := RX8) (T := TX8) (N := 45) hx hb ht tl_X8 hown hK hP 0 (wm_0 q ad z) rfl 2 (by decide) (ht _ tw_fl_X8_173) (fun _ h9 => h9) rfl dX8_starts_46 ?_
    refine lv_imul hx hb dX8_starts_49 ?_
    refine lv_ishl hx hb dX8_starts_50 ?_
    refine lv_icmp_ge (tgt := 122) hx hb dX8_starts_51 (by decide) (fun c51 => ?_) (fun c51 => ?_)
    · have h := h.1 c51
      refine lv_aload_n hx hb dX8_starts_122 rfl (lv_at hl 0 rfl) ?_
      refine lv_iload_n hx hb dX8_starts_123 rfl (lv_at hl 2 rfl) ?_
      refine lv_bipush (v := (-4 : Int32)) hx hb dX8_starts_124 (by decide) ?_
      refine lv_icmp_ne (tgt := 133) hx hb dX8_starts_126 (by decide) (fun c126 => ?_) (fun c126 => ?_)
      · have h := h.1 c126
        refine lv_iload_n hx hb dX8_starts_133 rfl (lv_at hl 2 rfl) ?_
        exact B134 z x1 x2 x3 x2 _ _ _ h hP hS (lv_sub hl [0, 1, 2, 3] rfl)
      · have h := h.2 c126
        refine lv_iconst (v := (0 : Int32)) hx hb dX8_starts_129 (by decide) ?_
        refine lv_goto (tgt := 134) hx hb dX8_starts_130 (by decide) ?_
        exact B134 z x1 x2 x3 (0 : Int32) _ _ _ h hP hS (lv_sub hl [0, 1, 2, 3] rfl)
    · have h := h.2 c51
      refine lv_aload_n hx hb dX8_starts_54 rfl (lv_at hl 0 rfl) ?_
      refine lv_iload hx hb dX8_starts_55 (lv_at hl 4 rfl) ?_
      refine g_cVv (Wd := WM q ad) (z := z) (As := [.int x4]) (rest := []) hG S (kX8_laysStarts l D q ad A hD z x4 _ h) (cwV 1 ht (cW_V (fun _ h => h) tw_co_X8_laysStarts tw_ml_X8_264 tw_im_X8_laysStarts tw_se_X8_laysStarts tw_in_X8) rfl rfl rfl (by decide +kernel) ⟨by decide, by decide⟩) (va_recv hK hP (ci := 8) (q0 := 0) rfl (wm_0 q ad z)) hE hP hS rfl hl.1 rfl (Nat.le_of_ble_eq_true rfl) dX8_starts_57 ⟨Nat.zero_le _, Nat.zero_le _⟩ (fun z57 H locs h hP hS => ?_)
      refine lv_aload_n hx hb dX8_starts_60 rfl (lv_at hl 0 rfl) ?_
      refine g_cVv (Wd := WM q ad) (z := z57) (As := []) (rest := []) hG S (kX8_run l D q ad A hD z57 _ h) (cwV 0 ht (cW_V (fun _ h => h) tw_co_X8_run tw_ml_X8_236 tw_im_X8_run tw_se_X8_run tw_in_X8) rfl rfl rfl (by decide +kernel) ⟨by decide, by decide⟩) (va_recv hK hP (ci := 8) (q0 := 0) rfl (wm_0 q ad z57)) hE hP hS rfl hl.1 rfl (Nat.le_of_ble_eq_true rfl) dX8_starts_61 ⟨Nat.zero_le _, Nat.zero_le _⟩ (fun z61 H locs h hP hS => ?_)
      refine lv_aload_n hx hb dX8_starts_64 rfl (lv_at hl 0 rfl) ?_
      refine g_cVi (Wd := WM q ad) (z := z61) (As := []) (rest := []) hG S (kX8_homeMany l D q ad A hD z61 _ h) (cwV 0 ht (cW_V (fun _ h => h) tw_co_X8_homeMany tw_ml_X8_244 tw_im_X8_homeMany tw_se_X8_homeMany tw_in_X8) rfl rfl rfl (by decide +kernel) ⟨by decide, by decide⟩) (va_recv hK hP (ci := 8) (q0 := 0) rfl (wm_0 q ad z61)) hE hP hS rfl hl.1 rfl (Nat.le_of_ble_eq_true rfl) dX8_starts_65 ⟨Nat.zero_le _, Nat.zero_le _⟩ (fun r65 z65 H locs h hP hS => ?_)
      refine lv_aload_n hx hb dX8_starts_68 rfl (lv_at hl 0 rfl) ?_
      refine va_get (D := D) (ci := 8) (v := .int (z65.1 0 2)) (C := RX8) (T := TX8) (N := 45) hx hb ht tl_X8 hown hK hP 0 (wm_0 q ad z65) rfl 2 (by decide) (ht _ tw_fl_X8_173) (fun _ h9 => h9) rfl dX8_starts_69 ?_
      refine lv_icmp_ne (tgt := 87) hx hb dX8_starts_72 (by decide) (fun c72 => ?_) (fun c72 => ?_)
      · have h := h.1 c72
        exact B87 rec41 hrec41 z65 x1 x2 x3 x4 _ _ _ h hP hS (lv_sub hl [0, 1, 2, 3, 4] rfl)
      · have h := h.2 c72
        refine lv_aload_n hx hb dX8_starts_75 rfl (lv_at hl 0 rfl) ?_
        refine g_cVi (Wd := WM q ad) (z := z65) (As := []) (rest := []) hG S (kX8_cost l D q ad A hD z65 _ h) (cwV 0 ht (cW_V (fun _ h => h) tw_co_X8_cost tw_ml_X8_241 tw_im_X8_cost tw_se_X8_cost tw_in_X8) rfl rfl rfl (by decide +kernel) ⟨by decide, by decide⟩) (va_recv hK hP (ci := 8) (q0 := 0) rfl (wm_0 q ad z65)) hE hP hS rfl hl.1 rfl (Nat.le_of_ble_eq_true rfl) dX8_starts_76 ⟨Nat.zero_le _, Nat.zero_le _⟩ (fun r76 z76 H locs h hP hS => ?_)
        refine lv_iload_n hx hb dX8_starts_79 rfl (lv_at hl 3 rfl) ?_
        refine lv_icmp_ge (tgt := 87) hx hb dX8_starts_80 (by decide) (fun c80 => ?_) (fun c80 => ?_)
        · have h := h.1 c80
          exact B87 rec41 hrec41 z76 x1 x2 x3 x4 _ _ _ h hP hS (lv_sub hl [0, 1, 2, 3, 4] rfl)
        · have h := h.2 c80
          refine lv_iconst (v := (1 : Int32)) hx hb dX8_starts_83 (by decide) ?_
          refine lv_goto (tgt := 88) hx hb dX8_starts_84 (by decide) ?_
          exact B88 rec41 hrec41 z76 x1 x2 x3 x4 (1 : Int32) _ _ _ h hP hS (lv_sub hl [0, 1, 2, 3, 4] rfl)
  have L41 : ∀ (n : Nat) (z : MX) (x1 : Int32) (x2 : Int32) (x3 : Int32) (x4 : Int32) (H : Heap) (locs : List Loc) (ls : Array Slot), pX8_starts_L41  post n z x1 x2 x3 x4 → va_P D vwCl (WM q ad z) H → va_S A s.heap H locs → lv_has ls 6 [(0, .ref (ad 0)), (1, .int x1), (2, .int x2), (3, .int x3), (4, .int x4)] → W p l e (headSpec (cW yX8_starts cX8_starts 6 (some .int)) ({ frames := 4, cells := 0, slots := 0, locals := 88 } : Room)).room s m args below meth c H locs 0 0 (MQ below (va_Qi post (gB D vwCl (WM q ad) (mE D q)) A) args s 0 0 A) (F0 m 41 ls []) := by
    intro n
    induction n with
    | zero =>
      intro z x1 x2 x3 x4 H locs ls h
      exact False.elim h
    | succ n ih =>
      intro z x1 x2 x3 x4 H locs ls h hP hS hl
      exact B41 (pX8_starts_L41  post n) ih z x1 x2 x3 x4 H locs ls h hP hS hl
  have B25 : ∀ (z : MX) (x1 : Int32) (H : Heap) (locs : List Loc) (ls : Array Slot), pX8_starts_b25  post z x1 → va_P D vwCl (WM q ad z) H → va_S A s.heap H locs → lv_has ls 6 [(0, .ref (ad 0)), (1, .int x1)] → W p l e (headSpec (cW yX8_starts cX8_starts 6 (some .int)) ({ frames := 4, cells := 0, slots := 0, locals := 88 } : Room)).room s m args below meth c H locs 0 0 (MQ below (va_Qi post (gB D vwCl (WM q ad) (mE D q)) A) args s 0 0 A) (F0 m 25 ls []) := by
    intro z x1 H locs ls h hP hS hl
    unfold pX8_starts_b25 at h
    refine lv_bipush (v := (-4 : Int32)) hx hb dX8_starts_25 (by decide) ?_
    refine lv_istore_n (lv' := [(2, .int (-4 : Int32)), (0, .ref (ad 0)), (1, .int x1)]) hx hb dX8_starts_27 rfl hl (by decide) rfl (fun ls hl => ?_)
    refine lv_ldc (v := (1000000 : Int32)) hx hb hown (ht _ tw_cn_X8_254) dX8_starts_28 ?_
    refine lv_istore_n (lv' := [(3, .int (1000000 : Int32)), (2, .int (-4 : Int32)), (0, .ref (ad 0)), (1, .int x1)]) hx hb dX8_starts_30 rfl hl (by decide) rfl (fun ls hl => ?_)
    refine lv_aload_n hx hb dX8_starts_31 rfl (lv_at hl 2 rfl) ?_
    refine lv_iconst (v := (0 : Int32)) hx hb dX8_starts_32 (by decide) ?_
    refine lv_bipush (v := (100 : Int32)) hx hb dX8_starts_33 (by decide) ?_
    refine g_cVv (Wd := WM q ad) (z := z) (As := [.int (0 : Int32), .int (100 : Int32)]) (rest := []) hG S (kX8_copies l D q ad A hD z (0 : Int32) (100 : Int32) _ h) (cwV 2 ht (cW_V (fun _ h => h) tw_co_X8_copies tw_ml_X8_255 tw_im_X8_copies tw_se_X8_copies tw_in_X8) rfl rfl rfl (by decide +kernel) ⟨by decide, by decide⟩) (va_recv hK hP (ci := 8) (q0 := 0) rfl (wm_0 q ad z)) hE hP hS rfl hl.1 rfl (Nat.le_of_ble_eq_true rfl) dX8_starts_35 ⟨Nat.zero_le _, Nat.zero_le _⟩ (fun z35 H locs h hP hS => ?_)
    refine lv_iconst (v := (0 : Int32)) hx hb dX8_starts_38 (by decide) ?_
    refine lv_istore (lv' := [(4, .int (0 : Int32)), (3, .int (1000000 : Int32)), (2, .int (-4 : Int32)), (0, .ref (ad 0)), (1, .int x1)]) hx hb dX8_starts_39 hl (by decide) rfl (fun ls hl => ?_)
    obtain ⟨n, h⟩ := h
    exact L41 n z35 x1 (-4 : Int32) (1000000 : Int32) (0 : Int32) _ _ _ h hP hS (lv_sub hl [3, 4, 2, 1, 0] rfl)
  refine g_entry (vs := [.ref (ad 0), .int x1]) hargs (Nat.le_of_ble_eq_true rfl) (fun ls hl => ?_)
  have hl : lv_has ls 6 [(0, .ref (ad 0)), (1, .int x1)] := hl
  unfold pX8_starts at h
  refine lv_iload_n hx hb dX8_starts_0 rfl (lv_at hl 1 rfl) ?_
  refine lv_if_eq (tgt := 25) hx hb dX8_starts_1 (by decide) (fun c1 => ?_) (fun c1 => ?_)
  · have h := h.1 c1
    exact B25 z x1 _ _ _ h hP hS (lv_sub hl [0, 1] rfl)
  · have h := h.2 c1
    refine lv_iload_n hx hb dX8_starts_4 rfl (lv_at hl 1 rfl) ?_
    refine lv_i2l hx hb dX8_starts_5 rfl ?_
    refine lv_ldc2 (v := (10 : Int64)) hx hb hown (ht _ tw_cn_X8_150) dX8_starts_6 ?_
    refine lv_bipush (v := (9 : Int32)) hx hb dX8_starts_9 (by decide) ?_
    refine lv_aload_n hx hb dX8_starts_11 rfl (lv_at hl 0 rfl) ?_
    refine va_get (D := D) (ci := 8) (v := .int (z.1 0 2)) (C := RX8) (T := TX8) (N := 45) hx hb ht tl_X8 hown hK hP 0 (wm_0 q ad z) rfl 2 (by decide) (ht _ tw_fl_X8_173) (fun _ h9 => h9) rfl dX8_starts_12 ?_
    refine lv_iadd hx hb dX8_starts_15 ?_
    refine lv_i2l hx hb dX8_starts_16 rfl ?_
    refine g_cSi (Wd := WM q ad) (z := z) (As := [.long (Int32.toInt64 x1), .long (10 : Int64), .long (Int32.toInt64 ((9 : Int32) + (z.1 0 2)))]) (rest := []) hG S (kX8_in l D q ad A hD z (Int32.toInt64 x1) (10 : Int64) (Int32.toInt64 ((9 : Int32) + (z.1 0 2))) _ h) (va_cwS 3 ht (cW_S (fun _ h => h) tw_co_X8_in tw_ml_X8_74 tw_st_X8_in tw_in_X8) rfl rfl rfl (by decide +kernel) ⟨by decide, by decide⟩) hE hP hS rfl hl.1 rfl (Nat.le_of_ble_eq_true rfl) dX8_starts_17 ⟨Nat.zero_le _, Nat.zero_le _⟩ (fun r17 z17 H locs h hP hS => ?_)
    refine lv_if_ne (tgt := 25) hx hb dX8_starts_20 (by decide) (fun c20 => ?_) (fun c20 => ?_)
    · have h := h.1 c20
      exact B25 z17 x1 _ _ _ h hP hS (lv_sub hl [0, 1] rfl)
    · have h := h.2 c20
      refine lv_iconst (v := (-1 : Int32)) hx hb dX8_starts_23 (by decide) ?_
      exact g_ri hG hx hb hr hlocks hE hP hS h dX8_starts_24
def pX8_allowed_b74 (rec19 : MX → Int32 → Int32 → Int32 → Int32 → Prop) (post : Int32 → MX → Prop) (z : MX) (x1 : Int32) (x2 : Int32) (x4 : Int32) (y0 : Int32) : Prop :=
    ∀ x4_75 : Int32, x4_75 = x4 + (1 : Int32) →
    rec19 z x1 x2 y0 x4_75
def pX8_allowed_b73 (rec19 : MX → Int32 → Int32 → Int32 → Int32 → Prop) (post : Int32 → MX → Prop) (z : MX) (x1 : Int32) (x2 : Int32) (x3 : Int32) (x4 : Int32) : Prop :=
    pX8_allowed_b74  rec19 post z x1 x2 x4 x3
def pX8_allowed_b49 (rec19 : MX → Int32 → Int32 → Int32 → Int32 → Prop) (post : Int32 → MX → Prop) (z : MX) (x1 : Int32) (x3 : Int32) (x4 : Int32) (x5 : Int32) (y0 : Int32) (y1 : Int32) : Prop :=
    ∀ x2_50 : Int32, x2_50 = y0 + y1 →
    ((x5 = 0 →
      pX8_allowed_b73  rec19 post z x1 x2_50 x3 x4) ∧
    (¬ x5 = 0 →
      pX8_bitsOf z x4 (fun (r58 : Int32) (z58 : MX) =>
      ((r58 ≤ x3 →
        pX8_allowed_b73  rec19 post z58 x1 x2_50 x3 x4) ∧
      (¬ r58 ≤ x3 →
        pX8_bitsOf z58 x4 (fun (r67 : Int32) (z67 : MX) =>
        pX8_allowed_b74  rec19 post z67 x1 x2_50 x4 r67))))))
def pX8_allowed_l19 (rec19 : MX → Int32 → Int32 → Int32 → Int32 → Prop) (post : Int32 → MX → Prop) (z : MX) (x1 : Int32) (x2 : Int32) (x3 : Int32) (x4 : Int32) : Prop :=
    ((((1 : Int32) <<< ((z.1 0 1) &&& 31)) ≤ x4 →
      ((¬ x1 = 0 →
        post x3 z) ∧
      (x1 = 0 →
        post x2 z))) ∧
    (¬ ((1 : Int32) <<< ((z.1 0 1) &&& 31)) ≤ x4 →
      pX8_isAllowed z x4 (fun (r33 : Int32) (z33 : MX) =>
      ((r33 = 0 →
        pX8_allowed_b49  rec19 post z33 x1 x3 x4 r33 x2 (0 : Int32)) ∧
      (¬ r33 = 0 →
        pX8_allowed_b49  rec19 post z33 x1 x3 x4 r33 x2 (1 : Int32))))))
def pX8_allowed_L19 (post : Int32 → MX → Prop) : Nat → MX → Int32 → Int32 → Int32 → Int32 → Prop
  | 0 => fun _ _ _ _ _ => False
  | n + 1 => fun z x1 x2 x3 x4 => pX8_allowed_l19  (pX8_allowed_L19  post n) post z x1 x2 x3 x4
def pX8_allowed (z : MX) (x1 : Int32) (post : Int32 → MX → Prop) : Prop :=
  pX8_in z (Int32.toInt64 x1) (0 : Int64) (1 : Int64) (fun (r4 : Int32) (z4 : MX) =>
  ((¬ r4 = 0 →
    ∃ n, pX8_allowed_L19  post n z4 x1 (0 : Int32) (0 : Int32) (0 : Int32)) ∧
  (r4 = 0 →
    post (-1 : Int32) z4)))
set_option maxHeartbeats 4000000 in
set_option maxRecDepth 100000 in
theorem kX8_allowed (l : Launch) (D : va_G) (q : Nat → ClassId) (ad : Nat → Nat) (A : Nat → Prop) (hD : ∀ z, va_D A (WM q ad z)) (z : MX) (x1 : Int32) (post : Int32 → MX → Prop) (h : pX8_allowed  z x1 post) : Met l yX8_allowed (cW yX8_allowed cX8_allowed 6 (some .int)) ({ frames := 1, cells := 0, slots := 0, locals := 25 } : Room) (va_Pc [.ref (ad 0), .int x1] ((gB D vwCl (WM q ad) (mE D q)) z)) (va_Qi post (gB D vwCl (WM q ad) (mE D q)) A) 0 0 A := by
  refine Met.ofW (cc := cX8_allowed) (maxL := 6) (ret := (some .int)) (by decide) rfl ?_
  intro p e s m args below meth c s₁ B hml hv
  obtain ⟨hargs, hP, hE⟩ := hv
  have hx := B.exec
  have hb := B.bytes
  have hr := B.returns
  have hts := atoms_spec (ws := (cW yX8_allowed cX8_allowed 6 (some .int))) B.pre
  have ht : ∀ w ∈ tG, w.before args s = true := fun w h => hts w (List.mem_cons_of_mem _ h)
  have hown : s.vm.findClass RX8 = some m.cls := findClass_of_methodNamed B.named
  have hlocks := B.notSynchronized
  have hK := hE.1
  have hG := mE_G D q A
  have S : CallFix p m c cX8_allowed 6 s args tG RX8 := ⟨hx, hb, hml, hown, ht⟩
  have hS : va_S A s.heap s.heap [] := va_S.rf
  have B74 : ∀ (rec19 : MX → Int32 → Int32 → Int32 → Int32 → Prop) (hrec19 : ∀ (z : MX) (x1 : Int32) (x2 : Int32) (x3 : Int32) (x4 : Int32) (H : Heap) (locs : List Loc) (ls : Array Slot), rec19 z x1 x2 x3 x4 → va_P D vwCl (WM q ad z) H → va_S A s.heap H locs → lv_has ls 6 [(0, .ref (ad 0)), (1, .int x1), (2, .int x2), (3, .int x3), (4, .int x4)] → W p l e (headSpec (cW yX8_allowed cX8_allowed 6 (some .int)) ({ frames := 1, cells := 0, slots := 0, locals := 25 } : Room)).room s m args below meth c H locs 0 0 (MQ below (va_Qi post (gB D vwCl (WM q ad) (mE D q)) A) args s 0 0 A) (F0 m 19 ls [])) (z : MX) (x1 : Int32) (x2 : Int32) (x4 : Int32) (y0 : Int32) (H : Heap) (locs : List Loc) (ls : Array Slot), pX8_allowed_b74  rec19 post z x1 x2 x4 y0 → va_P D vwCl (WM q ad z) H → va_S A s.heap H locs → lv_has ls 6 [(0, .ref (ad 0)), (1, .int x1), (2, .int x2), (4, .int x4)] → W p l e (headSpec (cW yX8_allowed cX8_allowed 6 (some .int)) ({ frames := 1, cells := 0, slots := 0, locals := 25 } : Room)).room s m args below meth c H locs 0 0 (MQ below (va_Qi post (gB D vwCl (WM q ad) (mE D q)) A) args s 0 0 A) (F0 m 74 ls [.int y0]) := by
    intro rec19 hrec19 z x1 x2 x4 y0 H locs ls h hP hS hl
    unfold pX8_allowed_b74 at h
    refine lv_istore_n (lv' := [(3, .int y0), (0, .ref (ad 0)), (1, .int x1), (2, .int x2), (4, .int x4)]) hx hb dX8_allowed_74 rfl hl (by decide) rfl (fun ls hl => ?_)
    obtain ⟨x4_75, ex4_75⟩ : ∃ w : Int32, w = x4 + (1 : Int32) := ⟨_, rfl⟩
    have h := h x4_75 ex4_75
    refine lv_iinc (v := x4_75) (lv' := [(4, .int x4_75), (3, .int y0), (0, .ref (ad 0)), (1, .int x1), (2, .int x2)]) hx hb dX8_allowed_75 hl (k := 4) rfl (by rw [ex4_75]; rfl) (by decide) rfl (fun ls hl => ?_)
    refine lv_goto (tgt := 19) hx hb dX8_allowed_78 (by decide) ?_
    exact hrec19 z x1 x2 y0 x4_75 _ _ _ h hP hS (lv_sub hl [2, 3, 4, 1, 0] rfl)
  have B73 : ∀ (rec19 : MX → Int32 → Int32 → Int32 → Int32 → Prop) (hrec19 : ∀ (z : MX) (x1 : Int32) (x2 : Int32) (x3 : Int32) (x4 : Int32) (H : Heap) (locs : List Loc) (ls : Array Slot), rec19 z x1 x2 x3 x4 → va_P D vwCl (WM q ad z) H → va_S A s.heap H locs → lv_has ls 6 [(0, .ref (ad 0)), (1, .int x1), (2, .int x2), (3, .int x3), (4, .int x4)] → W p l e (headSpec (cW yX8_allowed cX8_allowed 6 (some .int)) ({ frames := 1, cells := 0, slots := 0, locals := 25 } : Room)).room s m args below meth c H locs 0 0 (MQ below (va_Qi post (gB D vwCl (WM q ad) (mE D q)) A) args s 0 0 A) (F0 m 19 ls [])) (z : MX) (x1 : Int32) (x2 : Int32) (x3 : Int32) (x4 : Int32) (H : Heap) (locs : List Loc) (ls : Array Slot), pX8_allowed_b73  rec19 post z x1 x2 x3 x4 → va_P D vwCl (WM q ad z) H → va_S A s.heap H locs → lv_has ls 6 [(0, .ref (ad 0)), (1, .int x1), (2, .int x2), (3, .int x3), (4, .int x4)] → W p l e (headSpec (cW yX8_allowed cX8_allowed 6 (some .int)) ({ frames := 1, cells := 0, slots := 0, locals := 25 } : Room)).room s m args below meth c H locs 0 0 (MQ below (va_Qi post (gB D vwCl (WM q ad) (mE D q)) A) args s 0 0 A) (F0 m 73 ls []) := by
    intro rec19 hrec19 z x1 x2 x3 x4 H locs ls h hP hS hl
    unfold pX8_allowed_b73 at h
    refine lv_iload_n hx hb dX8_allowed_73 rfl (lv_at hl 3 rfl) ?_
    exact B74 rec19 hrec19 z x1 x2 x4 x3 _ _ _ h hP hS (lv_sub hl [0, 1, 2, 4] rfl)
  have B49 : ∀ (rec19 : MX → Int32 → Int32 → Int32 → Int32 → Prop) (hrec19 : ∀ (z : MX) (x1 : Int32) (x2 : Int32) (x3 : Int32) (x4 : Int32) (H : Heap) (locs : List Loc) (ls : Array Slot), rec19 z x1 x2 x3 x4 → va_P D vwCl (WM q ad z) H → va_S A s.heap H locs → lv_has ls 6 [(0, .ref (ad 0)), (1, .int x1), (2, .int x2), (3, .int x3), (4, .int x4)] → W p l e (headSpec (cW yX8_allowed cX8_allowed 6 (some .int)) ({ frames := 1, cells := 0, slots := 0, locals := 25 } : Room)).room s m args below meth c H locs 0 0 (MQ below (va_Qi post (gB D vwCl (WM q ad) (mE D q)) A) args s 0 0 A) (F0 m 19 ls [])) (z : MX) (x1 : Int32) (x3 : Int32) (x4 : Int32) (x5 : Int32) (y0 : Int32) (y1 : Int32) (H : Heap) (locs : List Loc) (ls : Array Slot), pX8_allowed_b49  rec19 post z x1 x3 x4 x5 y0 y1 → va_P D vwCl (WM q ad z) H → va_S A s.heap H locs → lv_has ls 6 [(0, .ref (ad 0)), (1, .int x1), (3, .int x3), (4, .int x4), (5, .int x5)] → W p l e (headSpec (cW yX8_allowed cX8_allowed 6 (some .int)) ({ frames := 1, cells := 0, slots := 0, locals := 25 } : Room)).room s m args below meth c H locs 0 0 (MQ below (va_Qi post (gB D vwCl (WM q ad) (mE D q)) A) args s 0 0 A) (F0 m 49 ls [.int y1, .int y0]) := by
    intro rec19 hrec19 z x1 x3 x4 x5 y0 y1 H locs ls h hP hS hl
    unfold pX8_allowed_b49 at h
    refine lv_iadd hx hb dX8_allowed_49 ?_
    refine lv_topi (fun x2_50 ex2_50 => ?_)
    have h := h x2_50 ex2_50
    refine lv_istore_n (lv' := [(2, .int x2_50), (0, .ref (ad 0)), (1, .int x1), (3, .int x3), (4, .int x4), (5, .int x5)]) hx hb dX8_allowed_50 rfl hl (by decide) rfl (fun ls hl => ?_)
    refine lv_iload hx hb dX8_allowed_51 (lv_at hl 5 rfl) ?_
    refine lv_if_eq (tgt := 73) hx hb dX8_allowed_53 (by decide) (fun c53 => ?_) (fun c53 => ?_)
    · have h := h.1 c53
      exact B73 rec19 hrec19 z x1 x2_50 x3 x4 _ _ _ h hP hS (lv_sub hl [1, 2, 0, 3, 4] rfl)
    · have h := h.2 c53
      refine lv_iload hx hb dX8_allowed_56 (lv_at hl 4 rfl) ?_
      refine g_cSi (Wd := WM q ad) (z := z) (As := [.int x4]) (rest := []) hG S (kX8_bitsOf l D q ad A hD z x4 _ h) (va_cwS 1 ht (cW_S (fun _ h => h) tw_co_X8_bitsOf tw_ml_X8_247 tw_st_X8_bitsOf tw_in_X8) rfl rfl rfl (by decide +kernel) ⟨by decide, by decide⟩) hE hP hS rfl hl.1 rfl (Nat.le_of_ble_eq_true rfl) dX8_allowed_58 ⟨Nat.zero_le _, Nat.zero_le _⟩ (fun r58 z58 H locs h hP hS => ?_)
      refine lv_iload_n hx hb dX8_allowed_61 rfl (lv_at hl 3 rfl) ?_
      refine lv_icmp_le (tgt := 73) hx hb dX8_allowed_62 (by decide) (fun c62 => ?_) (fun c62 => ?_)
      · have h := h.1 c62
        exact B73 rec19 hrec19 z58 x1 x2_50 x3 x4 _ _ _ h hP hS (lv_sub hl [1, 2, 0, 3, 4] rfl)
      · have h := h.2 c62
        refine lv_iload hx hb dX8_allowed_65 (lv_at hl 4 rfl) ?_
        refine g_cSi (Wd := WM q ad) (z := z58) (As := [.int x4]) (rest := []) hG S (kX8_bitsOf l D q ad A hD z58 x4 _ h) (va_cwS 1 ht (cW_S (fun _ h => h) tw_co_X8_bitsOf tw_ml_X8_247 tw_st_X8_bitsOf tw_in_X8) rfl rfl rfl (by decide +kernel) ⟨by decide, by decide⟩) hE hP hS rfl hl.1 rfl (Nat.le_of_ble_eq_true rfl) dX8_allowed_67 ⟨Nat.zero_le _, Nat.zero_le _⟩ (fun r67 z67 H locs h hP hS => ?_)
        refine lv_goto (tgt := 74) hx hb dX8_allowed_70 (by decide) ?_
        exact B74 rec19 hrec19 z67 x1 x2_50 x4 r67 _ _ _ h hP hS (lv_sub hl [1, 2, 0, 4] rfl)
  have B19 : ∀ (rec19 : MX → Int32 → Int32 → Int32 → Int32 → Prop) (hrec19 : ∀ (z : MX) (x1 : Int32) (x2 : Int32) (x3 : Int32) (x4 : Int32) (H : Heap) (locs : List Loc) (ls : Array Slot), rec19 z x1 x2 x3 x4 → va_P D vwCl (WM q ad z) H → va_S A s.heap H locs → lv_has ls 6 [(0, .ref (ad 0)), (1, .int x1), (2, .int x2), (3, .int x3), (4, .int x4)] → W p l e (headSpec (cW yX8_allowed cX8_allowed 6 (some .int)) ({ frames := 1, cells := 0, slots := 0, locals := 25 } : Room)).room s m args below meth c H locs 0 0 (MQ below (va_Qi post (gB D vwCl (WM q ad) (mE D q)) A) args s 0 0 A) (F0 m 19 ls [])) (z : MX) (x1 : Int32) (x2 : Int32) (x3 : Int32) (x4 : Int32) (H : Heap) (locs : List Loc) (ls : Array Slot), pX8_allowed_l19  rec19 post z x1 x2 x3 x4 → va_P D vwCl (WM q ad z) H → va_S A s.heap H locs → lv_has ls 6 [(0, .ref (ad 0)), (1, .int x1), (2, .int x2), (3, .int x3), (4, .int x4)] → W p l e (headSpec (cW yX8_allowed cX8_allowed 6 (some .int)) ({ frames := 1, cells := 0, slots := 0, locals := 25 } : Room)).room s m args below meth c H locs 0 0 (MQ below (va_Qi post (gB D vwCl (WM q ad) (mE D q)) A) args s 0 0 A) (F0 m 19 ls []) := by
    intro rec19 hrec19 z x1 x2 x3 x4 H locs ls h hP hS hl
    unfold pX8_allowed_l19 at h
    refine lv_iload hx hb dX8_allowed_19 (lv_at hl 4 rfl) ?_
    refine lv_iconst (v := (1 : Int32)) hx hb dX8_allowed_21 (by decide) ?_
    refine lv_aload_n hx hb dX8_allowed_22 rfl (lv_at hl 0 rfl) ?_
    refine va_get (D := D) (ci := 8) (v := .int (z.1 0 1)) (C := RX8) (T := TX8) (N := 45) hx hb ht tl_X8 hown hK hP 0 (wm_0 q ad z) rfl 1 (by decide) (ht _ tw_fl_X8_13) (fun _ h9 => h9) rfl dX8_allowed_23 ?_
    refine lv_ishl hx hb dX8_allowed_26 ?_
    refine lv_icmp_ge (tgt := 81) hx hb dX8_allowed_27 (by decide) (fun c27 => ?_) (fun c27 => ?_)
    · have h := h.1 c27
      refine lv_iload_n hx hb dX8_allowed_81 rfl (lv_at hl 1 rfl) ?_
      refine lv_if_ne (tgt := 89) hx hb dX8_allowed_82 (by decide) (fun c82 => ?_) (fun c82 => ?_)
      · have h := h.1 c82
        refine lv_iload_n hx hb dX8_allowed_89 rfl (lv_at hl 3 rfl) ?_
        exact g_ri hG hx hb hr hlocks hE hP hS h dX8_allowed_90
      · have h := h.2 c82
        refine lv_iload_n hx hb dX8_allowed_85 rfl (lv_at hl 2 rfl) ?_
        refine lv_goto (tgt := 90) hx hb dX8_allowed_86 (by decide) ?_
        exact g_ri hG hx hb hr hlocks hE hP hS h dX8_allowed_90
    · have h := h.2 c27
      refine lv_aload_n hx hb dX8_allowed_30 rfl (lv_at hl 0 rfl) ?_
      refine lv_iload hx hb dX8_allowed_31 (lv_at hl 4 rfl) ?_
      refine g_cVi (Wd := WM q ad) (z := z) (As := [.int x4]) (rest := []) hG S (kX8_isAllowed l D q ad A hD z x4 _ h) (cwV 1 ht (cW_V (fun _ h => h) tw_co_X8_isAllowed tw_ml_X8_258 tw_im_X8_isAllowed tw_se_X8_isAllowed tw_in_X8) rfl rfl rfl (by decide +kernel) ⟨by decide, by decide⟩) (va_recv hK hP (ci := 8) (q0 := 0) rfl (wm_0 q ad z)) hE hP hS rfl hl.1 rfl (Nat.le_of_ble_eq_true rfl) dX8_allowed_33 ⟨Nat.zero_le _, Nat.zero_le _⟩ (fun r33 z33 H locs h hP hS => ?_)
      refine lv_istore (lv' := [(5, .int r33), (0, .ref (ad 0)), (1, .int x1), (2, .int x2), (3, .int x3), (4, .int x4)]) hx hb dX8_allowed_36 hl (by decide) rfl (fun ls hl => ?_)
      refine lv_iload_n hx hb dX8_allowed_38 rfl (lv_at hl 3 rfl) ?_
      refine lv_iload hx hb dX8_allowed_39 (lv_at hl 0 rfl) ?_
      refine lv_if_eq (tgt := 48) hx hb dX8_allowed_41 (by decide) (fun c41 => ?_) (fun c41 => ?_)
      · have h := h.1 c41
        refine lv_iconst (v := (0 : Int32)) hx hb dX8_allowed_48 (by decide) ?_
        exact B49 rec19 hrec19 z33 x1 x3 x4 r33 x2 (0 : Int32) _ _ _ h hP hS (lv_sub hl [1, 2, 4, 5, 0] rfl)
      · have h := h.2 c41
        refine lv_iconst (v := (1 : Int32)) hx hb dX8_allowed_44 (by decide) ?_
        refine lv_goto (tgt := 49) hx hb dX8_allowed_45 (by decide) ?_
        exact B49 rec19 hrec19 z33 x1 x3 x4 r33 x2 (1 : Int32) _ _ _ h hP hS (lv_sub hl [1, 2, 4, 5, 0] rfl)
  have L19 : ∀ (n : Nat) (z : MX) (x1 : Int32) (x2 : Int32) (x3 : Int32) (x4 : Int32) (H : Heap) (locs : List Loc) (ls : Array Slot), pX8_allowed_L19  post n z x1 x2 x3 x4 → va_P D vwCl (WM q ad z) H → va_S A s.heap H locs → lv_has ls 6 [(0, .ref (ad 0)), (1, .int x1), (2, .int x2), (3, .int x3), (4, .int x4)] → W p l e (headSpec (cW yX8_allowed cX8_allowed 6 (some .int)) ({ frames := 1, cells := 0, slots := 0, locals := 25 } : Room)).room s m args below meth c H locs 0 0 (MQ below (va_Qi post (gB D vwCl (WM q ad) (mE D q)) A) args s 0 0 A) (F0 m 19 ls []) := by
    intro n
    induction n with
    | zero =>
      intro z x1 x2 x3 x4 H locs ls h
      exact False.elim h
    | succ n ih =>
      intro z x1 x2 x3 x4 H locs ls h hP hS hl
      exact B19 (pX8_allowed_L19  post n) ih z x1 x2 x3 x4 H locs ls h hP hS hl
  refine g_entry (vs := [.ref (ad 0), .int x1]) hargs (Nat.le_of_ble_eq_true rfl) (fun ls hl => ?_)
  have hl : lv_has ls 6 [(0, .ref (ad 0)), (1, .int x1)] := hl
  unfold pX8_allowed at h
  refine lv_iload_n hx hb dX8_allowed_0 rfl (lv_at hl 1 rfl) ?_
  refine lv_i2l hx hb dX8_allowed_1 rfl ?_
  refine lv_lconst (v := (0 : Int64)) hx hb dX8_allowed_2 (by decide) ?_
  refine lv_lconst (v := (1 : Int64)) hx hb dX8_allowed_3 (by decide) ?_
  refine g_cSi (Wd := WM q ad) (z := z) (As := [.long (Int32.toInt64 x1), .long (0 : Int64), .long (1 : Int64)]) (rest := []) hG S (kX8_in l D q ad A hD z (Int32.toInt64 x1) (0 : Int64) (1 : Int64) _ h) (va_cwS 3 ht (cW_S (fun _ h => h) tw_co_X8_in tw_ml_X8_74 tw_st_X8_in tw_in_X8) rfl rfl rfl (by decide +kernel) ⟨by decide, by decide⟩) hE hP hS rfl hl.1 rfl (Nat.le_of_ble_eq_true rfl) dX8_allowed_4 ⟨Nat.zero_le _, Nat.zero_le _⟩ (fun r4 z4 H locs h hP hS => ?_)
  refine lv_if_ne (tgt := 12) hx hb dX8_allowed_7 (by decide) (fun c7 => ?_) (fun c7 => ?_)
  · have h := h.1 c7
    refine lv_iconst (v := (0 : Int32)) hx hb dX8_allowed_12 (by decide) ?_
    refine lv_istore_n (lv' := [(2, .int (0 : Int32)), (0, .ref (ad 0)), (1, .int x1)]) hx hb dX8_allowed_13 rfl hl (by decide) rfl (fun ls hl => ?_)
    refine lv_iconst (v := (0 : Int32)) hx hb dX8_allowed_14 (by decide) ?_
    refine lv_istore_n (lv' := [(3, .int (0 : Int32)), (2, .int (0 : Int32)), (0, .ref (ad 0)), (1, .int x1)]) hx hb dX8_allowed_15 rfl hl (by decide) rfl (fun ls hl => ?_)
    refine lv_iconst (v := (0 : Int32)) hx hb dX8_allowed_16 (by decide) ?_
    refine lv_istore (lv' := [(4, .int (0 : Int32)), (3, .int (0 : Int32)), (2, .int (0 : Int32)), (0, .ref (ad 0)), (1, .int x1)]) hx hb dX8_allowed_17 hl (by decide) rfl (fun ls hl => ?_)
    obtain ⟨n, h⟩ := h
    exact L19 n z4 x1 (0 : Int32) (0 : Int32) (0 : Int32) _ _ _ h hP hS (lv_sub hl [3, 4, 2, 1, 0] rfl)
  · have h := h.2 c7
    refine lv_iconst (v := (-1 : Int32)) hx hb dX8_allowed_10 (by decide) ?_
    exact g_ri hG hx hb hr hlocks hE hP hS h dX8_allowed_11
def pX8_convert_b145 (post : Int32 → MX → Prop) (z : MX) (x3 : Int32) : Prop :=
    post x3 z
def pX8_convert_b110 (rec27 : MX → Int32 → Int32 → Int32 → Int32 → Prop) (rec51 : MX → Int32 → Int32 → Int32 → Int32 → Int32 → Int32 → Prop) (post : Int32 → MX → Prop) (z : MX) (x1 : Int32) (x3 : Int32) (x4 : Int32) (x5 : Int32) (x6 : Int32) (y0 : Int32) : Prop :=
    ∀ x6_111 : Int32, x6_111 = x6 + (1 : Int32) →
    rec51 z x1 y0 x3 x4 x5 x6_111
def pX8_convert_b93 (rec27 : MX → Int32 → Int32 → Int32 → Int32 → Prop) (rec51 : MX → Int32 → Int32 → Int32 → Int32 → Int32 → Int32 → Prop) (post : Int32 → MX → Prop) (z : MX) (x1 : Int32) (x2 : Int32) (x4 : Int32) (x5 : Int32) (x6 : Int32) (y0 : Int32) : Prop :=
    pX8_cost z (fun (r95 : Int32) (z95 : MX) =>
    ((x2 ≤ r95 →
      pX8_convert_b110  rec27 rec51 post z95 x1 y0 x4 x5 x6 x2) ∧
    (¬ x2 ≤ r95 →
      pX8_cost z95 (fun (r103 : Int32) (z103 : MX) =>
      pX8_convert_b110  rec27 rec51 post z103 x1 y0 x4 x5 x6 r103))))
def pX8_convert_l51 (rec27 : MX → Int32 → Int32 → Int32 → Int32 → Prop) (rec51 : MX → Int32 → Int32 → Int32 → Int32 → Int32 → Int32 → Prop) (post : Int32 → MX → Prop) (z : MX) (x1 : Int32) (x2 : Int32) (x3 : Int32) (x4 : Int32) (x5 : Int32) (x6 : Int32) : Prop :=
    (((4 : Int32) ≤ x6 →
      vp_in ((9 : Int32) + x4) 125 ∧
      ∀ z128 : MX, z128 = mw z 1 (Int32.toNatClampNeg ((9 : Int32) + x4)) x5 →
      ∀ x4_129 : Int32, x4_129 = x4 + (1 : Int32) →
      rec27 z128 x1 x2 x3 x4_129) ∧
    (¬ (4 : Int32) ≤ x6 →
      vp_in ((9 : Int32) + x4) 125 ∧
      ∀ z68 : MX, z68 = mw z 1 (Int32.toNatClampNeg ((9 : Int32) + x4)) x6 →
      pX8_run z68 (fun (z70 : MX) =>
      pX8_cost z70 (fun (r74 : Int32) (z74 : MX) =>
      ((x2 ≤ r74 →
        pX8_convert_b93  rec27 rec51 post z74 x1 x2 x4 x5 x6 x3) ∧
      (¬ x2 ≤ r74 →
        pX8_convert_b93  rec27 rec51 post z74 x1 x2 x4 x5 x6 (((10 : Int32) * x4) + x6)))))))
def pX8_convert_L51 (rec27 : MX → Int32 → Int32 → Int32 → Int32 → Prop) (post : Int32 → MX → Prop) : Nat → MX → Int32 → Int32 → Int32 → Int32 → Int32 → Int32 → Prop
  | 0 => fun _ _ _ _ _ _ _ => False
  | n + 1 => fun z x1 x2 x3 x4 x5 x6 => pX8_convert_l51  rec27 (pX8_convert_L51  rec27 post n) post z x1 x2 x3 x4 x5 x6
def pX8_convert_l27 (rec27 : MX → Int32 → Int32 → Int32 → Int32 → Prop) (post : Int32 → MX → Prop) (z : MX) (x1 : Int32) (x2 : Int32) (x3 : Int32) (x4 : Int32) : Prop :=
    (((z.1 0 2) ≤ x4 →
      ((x3 = (-4 : Int32) →
        pX8_convert_b145  post z x3) ∧
      (¬ x3 = (-4 : Int32) →
        ((¬ x1 = 0 →
          post x2 z) ∧
        (x1 = 0 →
          pX8_convert_b145  post z x3))))) ∧
    (¬ (z.1 0 2) ≤ x4 →
      vp_in ((9 : Int32) + x4) 125 ∧
      ∀ x5_46 : Int32, x5_46 = z.1 1 (Int32.toNatClampNeg ((9 : Int32) + x4)) →
      ∃ n, pX8_convert_L51  rec27 post n z x1 x2 x3 x4 x5_46 (0 : Int32)))
def pX8_convert_L27 (post : Int32 → MX → Prop) : Nat → MX → Int32 → Int32 → Int32 → Int32 → Prop
  | 0 => fun _ _ _ _ _ => False
  | n + 1 => fun z x1 x2 x3 x4 => pX8_convert_l27  (pX8_convert_L27  post n) post z x1 x2 x3 x4
def pX8_convert (z : MX) (x1 : Int32) (post : Int32 → MX → Prop) : Prop :=
  pX8_in z (Int32.toInt64 x1) (0 : Int64) (1 : Int64) (fun (r4 : Int32) (z4 : MX) =>
  ((¬ r4 = 0 →
    pX8_run z4 (fun (z13 : MX) =>
    pX8_cost z13 (fun (r17 : Int32) (z17 : MX) =>
    ∃ n, pX8_convert_L27  post n z17 x1 r17 (-4 : Int32) (0 : Int32)))) ∧
  (r4 = 0 →
    post (-1 : Int32) z4)))
set_option maxHeartbeats 4000000 in
set_option maxRecDepth 100000 in
theorem kX8_convert (l : Launch) (D : va_G) (q : Nat → ClassId) (ad : Nat → Nat) (A : Nat → Prop) (hD : ∀ z, va_D A (WM q ad z)) (z : MX) (x1 : Int32) (post : Int32 → MX → Prop) (h : pX8_convert  z x1 post) : Met l yX8_convert (cW yX8_convert cX8_convert 7 (some .int)) ({ frames := 4, cells := 0, slots := 0, locals := 88 } : Room) (va_Pc [.ref (ad 0), .int x1] ((gB D vwCl (WM q ad) (mE D q)) z)) (va_Qi post (gB D vwCl (WM q ad) (mE D q)) A) 0 0 A := by
  refine Met.ofW (cc := cX8_convert) (maxL := 7) (ret := (some .int)) (by decide) rfl ?_
  intro p e s m args below meth c s₁ B hml hv
  obtain ⟨hargs, hP, hE⟩ := hv
  have hx := B.exec
  have hb := B.bytes
  have hr := B.returns
  have hts := atoms_spec (ws := (cW yX8_convert cX8_convert 7 (some .int))) B.pre
  have ht : ∀ w ∈ tG, w.before args s = true := fun w h => hts w (List.mem_cons_of_mem _ h)
  have hown : s.vm.findClass RX8 = some m.cls := findClass_of_methodNamed B.named
  have hlocks := B.notSynchronized
  have hK := hE.1
  have hG := mE_G D q A
  have S : CallFix p m c cX8_convert 7 s args tG RX8 := ⟨hx, hb, hml, hown, ht⟩
  have hS : va_S A s.heap s.heap [] := va_S.rf
  have B145 : ∀ (z : MX) (x3 : Int32) (H : Heap) (locs : List Loc) (ls : Array Slot), pX8_convert_b145  post z x3 → va_P D vwCl (WM q ad z) H → va_S A s.heap H locs → lv_has ls 7 [(3, .int x3)] → W p l e (headSpec (cW yX8_convert cX8_convert 7 (some .int)) ({ frames := 4, cells := 0, slots := 0, locals := 88 } : Room)).room s m args below meth c H locs 0 0 (MQ below (va_Qi post (gB D vwCl (WM q ad) (mE D q)) A) args s 0 0 A) (F0 m 145 ls []) := by
    intro z x3 H locs ls h hP hS hl
    unfold pX8_convert_b145 at h
    refine lv_iload_n hx hb dX8_convert_145 rfl (lv_at hl 0 rfl) ?_
    refine lv_goto (tgt := 150) hx hb dX8_convert_146 (by decide) ?_
    exact g_ri hG hx hb hr hlocks hE hP hS h dX8_convert_150
  have B110 : ∀ (rec27 : MX → Int32 → Int32 → Int32 → Int32 → Prop) (rec51 : MX → Int32 → Int32 → Int32 → Int32 → Int32 → Int32 → Prop) (hrec27 : ∀ (z : MX) (x1 : Int32) (x2 : Int32) (x3 : Int32) (x4 : Int32) (H : Heap) (locs : List Loc) (ls : Array Slot), rec27 z x1 x2 x3 x4 → va_P D vwCl (WM q ad z) H → va_S A s.heap H locs → lv_has ls 7 [(0, .ref (ad 0)), (1, .int x1), (2, .int x2), (3, .int x3), (4, .int x4)] → W p l e (headSpec (cW yX8_convert cX8_convert 7 (some .int)) ({ frames := 4, cells := 0, slots := 0, locals := 88 } : Room)).room s m args below meth c H locs 0 0 (MQ below (va_Qi post (gB D vwCl (WM q ad) (mE D q)) A) args s 0 0 A) (F0 m 27 ls [])) (hrec51 : ∀ (z : MX) (x1 : Int32) (x2 : Int32) (x3 : Int32) (x4 : Int32) (x5 : Int32) (x6 : Int32) (H : Heap) (locs : List Loc) (ls : Array Slot), rec51 z x1 x2 x3 x4 x5 x6 → va_P D vwCl (WM q ad z) H → va_S A s.heap H locs → lv_has ls 7 [(0, .ref (ad 0)), (1, .int x1), (2, .int x2), (3, .int x3), (4, .int x4), (5, .int x5), (6, .int x6)] → W p l e (headSpec (cW yX8_convert cX8_convert 7 (some .int)) ({ frames := 4, cells := 0, slots := 0, locals := 88 } : Room)).room s m args below meth c H locs 0 0 (MQ below (va_Qi post (gB D vwCl (WM q ad) (mE D q)) A) args s 0 0 A) (F0 m 51 ls [])) (z : MX) (x1 : Int32) (x3 : Int32) (x4 : Int32) (x5 : Int32) (x6 : Int32) (y0 : Int32) (H : Heap) (locs : List Loc) (ls : Array Slot), pX8_convert_b110  rec27 rec51 post z x1 x3 x4 x5 x6 y0 → va_P D vwCl (WM q ad z) H → va_S A s.heap H locs → lv_has ls 7 [(0, .ref (ad 0)), (1, .int x1), (3, .int x3), (4, .int x4), (5, .int x5), (6, .int x6)] → W p l e (headSpec (cW yX8_convert cX8_convert 7 (some .int)) ({ frames := 4, cells := 0, slots := 0, locals := 88 } : Room)).room s m args below meth c H locs 0 0 (MQ below (va_Qi post (gB D vwCl (WM q ad) (mE D q)) A) args s 0 0 A) (F0 m 110 ls [.int y0]) := by
    intro rec27 rec51 hrec27 hrec51 z x1 x3 x4 x5 x6 y0 H locs ls h hP hS hl
    unfold pX8_convert_b110 at h
    refine lv_istore_n (lv' := [(2, .int y0), (0, .ref (ad 0)), (1, .int x1), (3, .int x3), (4, .int x4), (5, .int x5), (6, .int x6)]) hx hb dX8_convert_110 rfl hl (by decide) rfl (fun ls hl => ?_)
    obtain ⟨x6_111, ex6_111⟩ : ∃ w : Int32, w = x6 + (1 : Int32) := ⟨_, rfl⟩
    have h := h x6_111 ex6_111
    refine lv_iinc (v := x6_111) (lv' := [(6, .int x6_111), (2, .int y0), (0, .ref (ad 0)), (1, .int x1), (3, .int x3), (4, .int x4), (5, .int x5)]) hx hb dX8_convert_111 hl (k := 6) rfl (by rw [ex6_111]; rfl) (by decide) rfl (fun ls hl => ?_)
    refine lv_goto (tgt := 51) hx hb dX8_convert_114 (by decide) ?_
    exact hrec51 z x1 y0 x3 x4 x5 x6_111 _ _ _ h hP hS (lv_sub hl [2, 3, 1, 4, 5, 6, 0] rfl)
  have B93 : ∀ (rec27 : MX → Int32 → Int32 → Int32 → Int32 → Prop) (rec51 : MX → Int32 → Int32 → Int32 → Int32 → Int32 → Int32 → Prop) (hrec27 : ∀ (z : MX) (x1 : Int32) (x2 : Int32) (x3 : Int32) (x4 : Int32) (H : Heap) (locs : List Loc) (ls : Array Slot), rec27 z x1 x2 x3 x4 → va_P D vwCl (WM q ad z) H → va_S A s.heap H locs → lv_has ls 7 [(0, .ref (ad 0)), (1, .int x1), (2, .int x2), (3, .int x3), (4, .int x4)] → W p l e (headSpec (cW yX8_convert cX8_convert 7 (some .int)) ({ frames := 4, cells := 0, slots := 0, locals := 88 } : Room)).room s m args below meth c H locs 0 0 (MQ below (va_Qi post (gB D vwCl (WM q ad) (mE D q)) A) args s 0 0 A) (F0 m 27 ls [])) (hrec51 : ∀ (z : MX) (x1 : Int32) (x2 : Int32) (x3 : Int32) (x4 : Int32) (x5 : Int32) (x6 : Int32) (H : Heap) (locs : List Loc) (ls : Array Slot), rec51 z x1 x2 x3 x4 x5 x6 → va_P D vwCl (WM q ad z) H → va_S A s.heap H locs → lv_has ls 7 [(0, .ref (ad 0)), (1, .int x1), (2, .int x2), (3, .int x3), (4, .int x4), (5, .int x5), (6, .int x6)] → W p l e (headSpec (cW yX8_convert cX8_convert 7 (some .int)) ({ frames := 4, cells := 0, slots := 0, locals := 88 } : Room)).room s m args below meth c H locs 0 0 (MQ below (va_Qi post (gB D vwCl (WM q ad) (mE D q)) A) args s 0 0 A) (F0 m 51 ls [])) (z : MX) (x1 : Int32) (x2 : Int32) (x4 : Int32) (x5 : Int32) (x6 : Int32) (y0 : Int32) (H : Heap) (locs : List Loc) (ls : Array Slot), pX8_convert_b93  rec27 rec51 post z x1 x2 x4 x5 x6 y0 → va_P D vwCl (WM q ad z) H → va_S A s.heap H locs → lv_has ls 7 [(0, .ref (ad 0)), (1, .int x1), (2, .int x2), (4, .int x4), (5, .int x5), (6, .int x6)] → W p l e (headSpec (cW yX8_convert cX8_convert 7 (some .int)) ({ frames := 4, cells := 0, slots := 0, locals := 88 } : Room)).room s m args below meth c H locs 0 0 (MQ below (va_Qi post (gB D vwCl (WM q ad) (mE D q)) A) args s 0 0 A) (F0 m 93 ls [.int y0]) := by
    intro rec27 rec51 hrec27 hrec51 z x1 x2 x4 x5 x6 y0 H locs ls h hP hS hl
    unfold pX8_convert_b93 at h
    refine lv_istore_n (lv' := [(3, .int y0), (0, .ref (ad 0)), (1, .int x1), (2, .int x2), (4, .int x4), (5, .int x5), (6, .int x6)]) hx hb dX8_convert_93 rfl hl (by decide) rfl (fun ls hl => ?_)
    refine lv_aload_n hx hb dX8_convert_94 rfl (lv_at hl 1 rfl) ?_
    refine g_cVi (Wd := WM q ad) (z := z) (As := []) (rest := []) hG S (kX8_cost l D q ad A hD z _ h) (cwV 0 ht (cW_V (fun _ h => h) tw_co_X8_cost tw_ml_X8_241 tw_im_X8_cost tw_se_X8_cost tw_in_X8) rfl rfl rfl (by decide +kernel) ⟨by decide, by decide⟩) (va_recv hK hP (ci := 8) (q0 := 0) rfl (wm_0 q ad z)) hE hP hS rfl hl.1 rfl (Nat.le_of_ble_eq_true rfl) dX8_convert_95 ⟨Nat.zero_le _, Nat.zero_le _⟩ (fun r95 z95 H locs h hP hS => ?_)
    refine lv_iload_n hx hb dX8_convert_98 rfl (lv_at hl 3 rfl) ?_
    refine lv_icmp_ge (tgt := 109) hx hb dX8_convert_99 (by decide) (fun c99 => ?_) (fun c99 => ?_)
    · have h := h.1 c99
      refine lv_iload_n hx hb dX8_convert_109 rfl (lv_at hl 3 rfl) ?_
      exact B110 rec27 rec51 hrec27 hrec51 z95 x1 y0 x4 x5 x6 x2 _ _ _ h hP hS (lv_sub hl [1, 2, 0, 4, 5, 6] rfl)
    · have h := h.2 c99
      refine lv_aload_n hx hb dX8_convert_102 rfl (lv_at hl 1 rfl) ?_
      refine g_cVi (Wd := WM q ad) (z := z95) (As := []) (rest := []) hG S (kX8_cost l D q ad A hD z95 _ h) (cwV 0 ht (cW_V (fun _ h => h) tw_co_X8_cost tw_ml_X8_241 tw_im_X8_cost tw_se_X8_cost tw_in_X8) rfl rfl rfl (by decide +kernel) ⟨by decide, by decide⟩) (va_recv hK hP (ci := 8) (q0 := 0) rfl (wm_0 q ad z95)) hE hP hS rfl hl.1 rfl (Nat.le_of_ble_eq_true rfl) dX8_convert_103 ⟨Nat.zero_le _, Nat.zero_le _⟩ (fun r103 z103 H locs h hP hS => ?_)
      refine lv_goto (tgt := 110) hx hb dX8_convert_106 (by decide) ?_
      exact B110 rec27 rec51 hrec27 hrec51 z103 x1 y0 x4 x5 x6 r103 _ _ _ h hP hS (lv_sub hl [1, 2, 0, 4, 5, 6] rfl)
  have B51 : ∀ (rec27 : MX → Int32 → Int32 → Int32 → Int32 → Prop) (rec51 : MX → Int32 → Int32 → Int32 → Int32 → Int32 → Int32 → Prop) (hrec27 : ∀ (z : MX) (x1 : Int32) (x2 : Int32) (x3 : Int32) (x4 : Int32) (H : Heap) (locs : List Loc) (ls : Array Slot), rec27 z x1 x2 x3 x4 → va_P D vwCl (WM q ad z) H → va_S A s.heap H locs → lv_has ls 7 [(0, .ref (ad 0)), (1, .int x1), (2, .int x2), (3, .int x3), (4, .int x4)] → W p l e (headSpec (cW yX8_convert cX8_convert 7 (some .int)) ({ frames := 4, cells := 0, slots := 0, locals := 88 } : Room)).room s m args below meth c H locs 0 0 (MQ below (va_Qi post (gB D vwCl (WM q ad) (mE D q)) A) args s 0 0 A) (F0 m 27 ls [])) (hrec51 : ∀ (z : MX) (x1 : Int32) (x2 : Int32) (x3 : Int32) (x4 : Int32) (x5 : Int32) (x6 : Int32) (H : Heap) (locs : List Loc) (ls : Array Slot), rec51 z x1 x2 x3 x4 x5 x6 → va_P D vwCl (WM q ad z) H → va_S A s.heap H locs → lv_has ls 7 [(0, .ref (ad 0)), (1, .int x1), (2, .int x2), (3, .int x3), (4, .int x4), (5, .int x5), (6, .int x6)] → W p l e (headSpec (cW yX8_convert cX8_convert 7 (some .int)) ({ frames := 4, cells := 0, slots := 0, locals := 88 } : Room)).room s m args below meth c H locs 0 0 (MQ below (va_Qi post (gB D vwCl (WM q ad) (mE D q)) A) args s 0 0 A) (F0 m 51 ls [])) (z : MX) (x1 : Int32) (x2 : Int32) (x3 : Int32) (x4 : Int32) (x5 : Int32) (x6 : Int32) (H : Heap) (locs : List Loc) (ls : Array Slot), pX8_convert_l51  rec27 rec51 post z x1 x2 x3 x4 x5 x6 → va_P D vwCl (WM q ad z) H → va_S A s.heap H locs → lv_has ls 7 [(0, .ref (ad 0)), (1, .int x1), (2, .int x2), (3, .int x3), (4, .int x4), (5, .int x5), (6, .int x6)] → W p l e (headSpec (cW yX8_convert cX8_convert 7 (some .int)) ({ frames := 4, cells := 0, slots := 0, locals := 88 } : Room)).room s m args below meth c H locs 0 0 (MQ below (va_Qi post (gB D vwCl (WM q ad) (mE D q)) A) args s 0 0 A) (F0 m 51 ls []) := by
    intro rec27 rec51 hrec27 hrec51 z x1 x2 x3 x4 x5 x6 H locs ls h hP hS hl
    unfold pX8_convert_l51 at h
    refine lv_iload hx hb dX8_convert_51 (lv_at hl 6 rfl) ?_
    refine lv_iconst (v := (4 : Int32)) hx hb dX8_convert_53 (by decide) ?_
    refine lv_icmp_ge (tgt := 117) hx hb dX8_convert_54 (by decide) (fun c54 => ?_) (fun c54 => ?_)
    · have h := h.1 c54
      refine lv_aload_n hx hb dX8_convert_117 rfl (lv_at hl 0 rfl) ?_
      refine va_get (D := D) (ci := 8) (v := .ref (ad 1)) (C := RX8) (T := TX8) (N := 45) hx hb ht tl_X8 hown hK hP 0 (wm_0 q ad z) rfl 0 (by decide) (ht _ tw_fl_X8_7) (fun _ h9 => h9) rfl dX8_convert_118 ?_
      refine lv_bipush (v := (9 : Int32)) hx hb dX8_convert_121 (by decide) ?_
      refine lv_iload hx hb dX8_convert_123 (lv_at hl 4 rfl) ?_
      refine lv_iadd hx hb dX8_convert_125 ?_
      refine lv_iload hx hb dX8_convert_126 (lv_at hl 5 rfl) ?_
      have hi128 := h.1
      have h := h.2
      refine g_iast (Wd := WM q ad) (z := z) hx hb hK hP (hD z) hS 1 (wm_1 q ad z) rfl (am_1 q ad z) hi128 dX8_convert_128 (fun z128 H locs hz128 hP hS => ?_)
      have h := h z128 hz128
      obtain ⟨x4_129, ex4_129⟩ : ∃ w : Int32, w = x4 + (1 : Int32) := ⟨_, rfl⟩
      have h := h x4_129 ex4_129
      refine lv_iinc (v := x4_129) (lv' := [(4, .int x4_129), (0, .ref (ad 0)), (1, .int x1), (2, .int x2), (3, .int x3), (5, .int x5), (6, .int x6)]) hx hb dX8_convert_129 hl (k := 4) rfl (by rw [ex4_129]; rfl) (by decide) rfl (fun ls hl => ?_)
      refine lv_goto (tgt := 27) hx hb dX8_convert_132 (by decide) ?_
      exact hrec27 z128 x1 x2 x3 x4_129 _ _ _ h hP hS (lv_sub hl [1, 2, 3, 4, 0] rfl)
    · have h := h.2 c54
      refine lv_aload_n hx hb dX8_convert_57 rfl (lv_at hl 0 rfl) ?_
      refine va_get (D := D) (ci := 8) (v := .ref (ad 1)) (C := RX8) (T := TX8) (N := 45) hx hb ht tl_X8 hown hK hP 0 (wm_0 q ad z) rfl 0 (by decide) (ht _ tw_fl_X8_7) (fun _ h9 => h9) rfl dX8_convert_58 ?_
      refine lv_bipush (v := (9 : Int32)) hx hb dX8_convert_61 (by decide) ?_
      refine lv_iload hx hb dX8_convert_63 (lv_at hl 4 rfl) ?_
      refine lv_iadd hx hb dX8_convert_65 ?_
      refine lv_iload hx hb dX8_convert_66 (lv_at hl 6 rfl) ?_
      have hi68 := h.1
      have h := h.2
      refine g_iast (Wd := WM q ad) (z := z) hx hb hK hP (hD z) hS 1 (wm_1 q ad z) rfl (am_1 q ad z) hi68 dX8_convert_68 (fun z68 H locs hz68 hP hS => ?_)
      have h := h z68 hz68
      refine lv_aload_n hx hb dX8_convert_69 rfl (lv_at hl 0 rfl) ?_
      refine g_cVv (Wd := WM q ad) (z := z68) (As := []) (rest := []) hG S (kX8_run l D q ad A hD z68 _ h) (cwV 0 ht (cW_V (fun _ h => h) tw_co_X8_run tw_ml_X8_236 tw_im_X8_run tw_se_X8_run tw_in_X8) rfl rfl rfl (by decide +kernel) ⟨by decide, by decide⟩) (va_recv hK hP (ci := 8) (q0 := 0) rfl (wm_0 q ad z68)) hE hP hS rfl hl.1 rfl (Nat.le_of_ble_eq_true rfl) dX8_convert_70 ⟨Nat.zero_le _, Nat.zero_le _⟩ (fun z70 H locs h hP hS => ?_)
      refine lv_aload_n hx hb dX8_convert_73 rfl (lv_at hl 0 rfl) ?_
      refine g_cVi (Wd := WM q ad) (z := z70) (As := []) (rest := []) hG S (kX8_cost l D q ad A hD z70 _ h) (cwV 0 ht (cW_V (fun _ h => h) tw_co_X8_cost tw_ml_X8_241 tw_im_X8_cost tw_se_X8_cost tw_in_X8) rfl rfl rfl (by decide +kernel) ⟨by decide, by decide⟩) (va_recv hK hP (ci := 8) (q0 := 0) rfl (wm_0 q ad z70)) hE hP hS rfl hl.1 rfl (Nat.le_of_ble_eq_true rfl) dX8_convert_74 ⟨Nat.zero_le _, Nat.zero_le _⟩ (fun r74 z74 H locs h hP hS => ?_)
      refine lv_iload_n hx hb dX8_convert_77 rfl (lv_at hl 2 rfl) ?_
      refine lv_icmp_ge (tgt := 92) hx hb dX8_convert_78 (by decide) (fun c78 => ?_) (fun c78 => ?_)
      · have h := h.1 c78
        refine lv_iload_n hx hb dX8_convert_92 rfl (lv_at hl 3 rfl) ?_
        exact B93 rec27 rec51 hrec27 hrec51 z74 x1 x2 x4 x5 x6 x3 _ _ _ h hP hS (lv_sub hl [0, 1, 2, 4, 5, 6] rfl)
      · have h := h.2 c78
        refine lv_bipush (v := (10 : Int32)) hx hb dX8_convert_81 (by decide) ?_
        refine lv_iload hx hb dX8_convert_83 (lv_at hl 4 rfl) ?_
        refine lv_imul hx hb dX8_convert_85 ?_
        refine lv_iload hx hb dX8_convert_86 (lv_at hl 6 rfl) ?_
        refine lv_iadd hx hb dX8_convert_88 ?_
        refine lv_goto (tgt := 93) hx hb dX8_convert_89 (by decide) ?_
        exact B93 rec27 rec51 hrec27 hrec51 z74 x1 x2 x4 x5 x6 (((10 : Int32) * x4) + x6) _ _ _ h hP hS (lv_sub hl [0, 1, 2, 4, 5, 6] rfl)
  have L51 : ∀ (rec27 : MX → Int32 → Int32 → Int32 → Int32 → Prop) (hrec27 : ∀ (z : MX) (x1 : Int32) (x2 : Int32) (x3 : Int32) (x4 : Int32) (H : Heap) (locs : List Loc) (ls : Array Slot), rec27 z x1 x2 x3 x4 → va_P D vwCl (WM q ad z) H → va_S A s.heap H locs → lv_has ls 7 [(0, .ref (ad 0)), (1, .int x1), (2, .int x2), (3, .int x3), (4, .int x4)] → W p l e (headSpec (cW yX8_convert cX8_convert 7 (some .int)) ({ frames := 4, cells := 0, slots := 0, locals := 88 } : Room)).room s m args below meth c H locs 0 0 (MQ below (va_Qi post (gB D vwCl (WM q ad) (mE D q)) A) args s 0 0 A) (F0 m 27 ls [])) (n : Nat) (z : MX) (x1 : Int32) (x2 : Int32) (x3 : Int32) (x4 : Int32) (x5 : Int32) (x6 : Int32) (H : Heap) (locs : List Loc) (ls : Array Slot), pX8_convert_L51  rec27 post n z x1 x2 x3 x4 x5 x6 → va_P D vwCl (WM q ad z) H → va_S A s.heap H locs → lv_has ls 7 [(0, .ref (ad 0)), (1, .int x1), (2, .int x2), (3, .int x3), (4, .int x4), (5, .int x5), (6, .int x6)] → W p l e (headSpec (cW yX8_convert cX8_convert 7 (some .int)) ({ frames := 4, cells := 0, slots := 0, locals := 88 } : Room)).room s m args below meth c H locs 0 0 (MQ below (va_Qi post (gB D vwCl (WM q ad) (mE D q)) A) args s 0 0 A) (F0 m 51 ls []) := by
    intro rec27 hrec27 n
    induction n with
    | zero =>
      intro z x1 x2 x3 x4 x5 x6 H locs ls h
      exact False.elim h
    | succ n ih =>
      intro z x1 x2 x3 x4 x5 x6 H locs ls h hP hS hl
      exact B51 rec27 (pX8_convert_L51  rec27 post n) hrec27 ih z x1 x2 x3 x4 x5 x6 H locs ls h hP hS hl
  have B27 : ∀ (rec27 : MX → Int32 → Int32 → Int32 → Int32 → Prop) (hrec27 : ∀ (z : MX) (x1 : Int32) (x2 : Int32) (x3 : Int32) (x4 : Int32) (H : Heap) (locs : List Loc) (ls : Array Slot), rec27 z x1 x2 x3 x4 → va_P D vwCl (WM q ad z) H → va_S A s.heap H locs → lv_has ls 7 [(0, .ref (ad 0)), (1, .int x1), (2, .int x2), (3, .int x3), (4, .int x4)] → W p l e (headSpec (cW yX8_convert cX8_convert 7 (some .int)) ({ frames := 4, cells := 0, slots := 0, locals := 88 } : Room)).room s m args below meth c H locs 0 0 (MQ below (va_Qi post (gB D vwCl (WM q ad) (mE D q)) A) args s 0 0 A) (F0 m 27 ls [])) (z : MX) (x1 : Int32) (x2 : Int32) (x3 : Int32) (x4 : Int32) (H : Heap) (locs : List Loc) (ls : Array Slot), pX8_convert_l27  rec27 post z x1 x2 x3 x4 → va_P D vwCl (WM q ad z) H → va_S A s.heap H locs → lv_has ls 7 [(0, .ref (ad 0)), (1, .int x1), (2, .int x2), (3, .int x3), (4, .int x4)] → W p l e (headSpec (cW yX8_convert cX8_convert 7 (some .int)) ({ frames := 4, cells := 0, slots := 0, locals := 88 } : Room)).room s m args below meth c H locs 0 0 (MQ below (va_Qi post (gB D vwCl (WM q ad) (mE D q)) A) args s 0 0 A) (F0 m 27 ls []) := by
    intro rec27 hrec27 z x1 x2 x3 x4 H locs ls h hP hS hl
    unfold pX8_convert_l27 at h
    refine lv_iload hx hb dX8_convert_27 (lv_at hl 4 rfl) ?_
    refine lv_aload_n hx hb dX8_convert_29 rfl (lv_at hl 0 rfl) ?_
    refine va_get (D := D) (ci := 8) (v := .int (z.1 0 2)) (C := RX8) (T := TX8) (N := 45) hx hb ht tl_X8 hown hK hP 0 (wm_0 q ad z) rfl 2 (by decide) (ht _ tw_fl_X8_173) (fun _ h9 => h9) rfl dX8_convert_30 ?_
    refine lv_icmp_ge (tgt := 135) hx hb dX8_convert_33 (by decide) (fun c33 => ?_) (fun c33 => ?_)
    · have h := h.1 c33
      refine lv_iload_n hx hb dX8_convert_135 rfl (lv_at hl 3 rfl) ?_
      refine lv_bipush (v := (-4 : Int32)) hx hb dX8_convert_136 (by decide) ?_
      refine lv_icmp_eq (tgt := 145) hx hb dX8_convert_138 (by decide) (fun c138 => ?_) (fun c138 => ?_)
      · have h := h.1 c138
        exact B145 z x3 _ _ _ h hP hS (lv_sub hl [3] rfl)
      · have h := h.2 c138
        refine lv_iload_n hx hb dX8_convert_141 rfl (lv_at hl 1 rfl) ?_
        refine lv_if_ne (tgt := 149) hx hb dX8_convert_142 (by decide) (fun c142 => ?_) (fun c142 => ?_)
        · have h := h.1 c142
          refine lv_iload_n hx hb dX8_convert_149 rfl (lv_at hl 2 rfl) ?_
          exact g_ri hG hx hb hr hlocks hE hP hS h dX8_convert_150
        · have h := h.2 c142
          exact B145 z x3 _ _ _ h hP hS (lv_sub hl [3] rfl)
    · have h := h.2 c33
      refine lv_aload_n hx hb dX8_convert_36 rfl (lv_at hl 0 rfl) ?_
      refine va_get (D := D) (ci := 8) (v := .ref (ad 1)) (C := RX8) (T := TX8) (N := 45) hx hb ht tl_X8 hown hK hP 0 (wm_0 q ad z) rfl 0 (by decide) (ht _ tw_fl_X8_7) (fun _ h9 => h9) rfl dX8_convert_37 ?_
      refine lv_bipush (v := (9 : Int32)) hx hb dX8_convert_40 (by decide) ?_
      refine lv_iload hx hb dX8_convert_42 (lv_at hl 4 rfl) ?_
      refine lv_iadd hx hb dX8_convert_44 ?_
      have hi45 := h.1
      have h := h.2
      refine va_iald hx hb hK hP 1 0 (wm_1 q ad z) rfl hi45 dX8_convert_45 ?_
      refine lv_topi (fun x5_46 ex5_46 => ?_)
      have h := h x5_46 ex5_46
      refine lv_istore (lv' := [(5, .int x5_46), (0, .ref (ad 0)), (1, .int x1), (2, .int x2), (3, .int x3), (4, .int x4)]) hx hb dX8_convert_46 hl (by decide) rfl (fun ls hl => ?_)
      refine lv_iconst (v := (0 : Int32)) hx hb dX8_convert_48 (by decide) ?_
      refine lv_istore (lv' := [(6, .int (0 : Int32)), (5, .int x5_46), (0, .ref (ad 0)), (1, .int x1), (2, .int x2), (3, .int x3), (4, .int x4)]) hx hb dX8_convert_49 hl (by decide) rfl (fun ls hl => ?_)
      obtain ⟨n, h⟩ := h
      exact L51 rec27 hrec27 n z x1 x2 x3 x4 x5_46 (0 : Int32) _ _ _ h hP hS (lv_sub hl [2, 3, 4, 5, 6, 1, 0] rfl)
  have L27 : ∀ (n : Nat) (z : MX) (x1 : Int32) (x2 : Int32) (x3 : Int32) (x4 : Int32) (H : Heap) (locs : List Loc) (ls : Array Slot), pX8_convert_L27  post n z x1 x2 x3 x4 → va_P D vwCl (WM q ad z) H → va_S A s.heap H locs → lv_has ls 7 [(0, .ref (ad 0)), (1, .int x1), (2, .int x2), (3, .int x3), (4, .int x4)] → W p l e (headSpec (cW yX8_convert cX8_convert 7 (some .int)) ({ frames := 4, cells := 0, slots := 0, locals := 88 } : Room)).room s m args below meth c H locs 0 0 (MQ below (va_Qi post (gB D vwCl (WM q ad) (mE D q)) A) args s 0 0 A) (F0 m 27 ls []) := by
    intro n
    induction n with
    | zero =>
      intro z x1 x2 x3 x4 H locs ls h
      exact False.elim h
    | succ n ih =>
      intro z x1 x2 x3 x4 H locs ls h hP hS hl
      exact B27 (pX8_convert_L27  post n) ih z x1 x2 x3 x4 H locs ls h hP hS hl
  refine g_entry (vs := [.ref (ad 0), .int x1]) hargs (Nat.le_of_ble_eq_true rfl) (fun ls hl => ?_)
  have hl : lv_has ls 7 [(0, .ref (ad 0)), (1, .int x1)] := hl
  unfold pX8_convert at h
  refine lv_iload_n hx hb dX8_convert_0 rfl (lv_at hl 1 rfl) ?_
  refine lv_i2l hx hb dX8_convert_1 rfl ?_
  refine lv_lconst (v := (0 : Int64)) hx hb dX8_convert_2 (by decide) ?_
  refine lv_lconst (v := (1 : Int64)) hx hb dX8_convert_3 (by decide) ?_
  refine g_cSi (Wd := WM q ad) (z := z) (As := [.long (Int32.toInt64 x1), .long (0 : Int64), .long (1 : Int64)]) (rest := []) hG S (kX8_in l D q ad A hD z (Int32.toInt64 x1) (0 : Int64) (1 : Int64) _ h) (va_cwS 3 ht (cW_S (fun _ h => h) tw_co_X8_in tw_ml_X8_74 tw_st_X8_in tw_in_X8) rfl rfl rfl (by decide +kernel) ⟨by decide, by decide⟩) hE hP hS rfl hl.1 rfl (Nat.le_of_ble_eq_true rfl) dX8_convert_4 ⟨Nat.zero_le _, Nat.zero_le _⟩ (fun r4 z4 H locs h hP hS => ?_)
  refine lv_if_ne (tgt := 12) hx hb dX8_convert_7 (by decide) (fun c7 => ?_) (fun c7 => ?_)
  · have h := h.1 c7
    refine lv_aload_n hx hb dX8_convert_12 rfl (lv_at hl 0 rfl) ?_
    refine g_cVv (Wd := WM q ad) (z := z4) (As := []) (rest := []) hG S (kX8_run l D q ad A hD z4 _ h) (cwV 0 ht (cW_V (fun _ h => h) tw_co_X8_run tw_ml_X8_236 tw_im_X8_run tw_se_X8_run tw_in_X8) rfl rfl rfl (by decide +kernel) ⟨by decide, by decide⟩) (va_recv hK hP (ci := 8) (q0 := 0) rfl (wm_0 q ad z4)) hE hP hS rfl hl.1 rfl (Nat.le_of_ble_eq_true rfl) dX8_convert_13 ⟨Nat.zero_le _, Nat.zero_le _⟩ (fun z13 H locs h hP hS => ?_)
    refine lv_aload_n hx hb dX8_convert_16 rfl (lv_at hl 0 rfl) ?_
    refine g_cVi (Wd := WM q ad) (z := z13) (As := []) (rest := []) hG S (kX8_cost l D q ad A hD z13 _ h) (cwV 0 ht (cW_V (fun _ h => h) tw_co_X8_cost tw_ml_X8_241 tw_im_X8_cost tw_se_X8_cost tw_in_X8) rfl rfl rfl (by decide +kernel) ⟨by decide, by decide⟩) (va_recv hK hP (ci := 8) (q0 := 0) rfl (wm_0 q ad z13)) hE hP hS rfl hl.1 rfl (Nat.le_of_ble_eq_true rfl) dX8_convert_17 ⟨Nat.zero_le _, Nat.zero_le _⟩ (fun r17 z17 H locs h hP hS => ?_)
    refine lv_istore_n (lv' := [(2, .int r17), (0, .ref (ad 0)), (1, .int x1)]) hx hb dX8_convert_20 rfl hl (by decide) rfl (fun ls hl => ?_)
    refine lv_bipush (v := (-4 : Int32)) hx hb dX8_convert_21 (by decide) ?_
    refine lv_istore_n (lv' := [(3, .int (-4 : Int32)), (2, .int r17), (0, .ref (ad 0)), (1, .int x1)]) hx hb dX8_convert_23 rfl hl (by decide) rfl (fun ls hl => ?_)
    refine lv_iconst (v := (0 : Int32)) hx hb dX8_convert_24 (by decide) ?_
    refine lv_istore (lv' := [(4, .int (0 : Int32)), (3, .int (-4 : Int32)), (2, .int r17), (0, .ref (ad 0)), (1, .int x1)]) hx hb dX8_convert_25 hl (by decide) rfl (fun ls hl => ?_)
    obtain ⟨n, h⟩ := h
    exact L27 n z17 x1 r17 (-4 : Int32) (0 : Int32) _ _ _ h hP hS (lv_sub hl [3, 4, 2, 1, 0] rfl)
  · have h := h.2 c7
    refine lv_iconst (v := (-1 : Int32)) hx hb dX8_convert_10 (by decide) ?_
    exact g_ri hG hx hb hr hlocks hE hP hS h dX8_convert_11
def pX8_lowest_b41 (post : Int64 → MX → Prop) (z : MX) (x5 : Int64) (y0 : Int64) : Prop :=
    ¬ x5 = 0 ∧
    post (y0 / x5) z
def pX8_lowest_l6 (rec6 : MX → Int64 → Int64 → Int32 → Int64 → Int64 → Prop) (post : Int64 → MX → Prop) (z : MX) (x0 : Int64) (x2 : Int64) (x4 : Int32) (x5 : Int64) (x7 : Int64) : Prop :=
    (((lg_cmp x7 (0 : Int64)) = 0 →
      ((¬ x4 = 0 →
        pX8_lowest_b41  post z x5 x2) ∧
      (x4 = 0 →
        pX8_lowest_b41  post z x5 x0))) ∧
    (¬ (lg_cmp x7 (0 : Int64)) = 0 →
      ¬ x7 = 0 ∧
      ∀ x9_18 : Int64, x9_18 = x5 - x5 / x7 * x7 →
      rec6 z x0 x2 x4 x7 x9_18))
def pX8_lowest_L6 (post : Int64 → MX → Prop) : Nat → MX → Int64 → Int64 → Int32 → Int64 → Int64 → Prop
  | 0 => fun _ _ _ _ _ _ => False
  | n + 1 => fun z x0 x2 x4 x5 x7 => pX8_lowest_l6  (pX8_lowest_L6  post n) post z x0 x2 x4 x5 x7
def pX8_lowest (z : MX) (x0 : Int64) (x2 : Int64) (x4 : Int32) (post : Int64 → MX → Prop) : Prop :=
  ∃ n, pX8_lowest_L6  post n z x0 x2 x4 x0 x2
set_option maxHeartbeats 4000000 in
set_option maxRecDepth 100000 in
theorem kX8_lowest (l : Launch) (D : va_G) (q : Nat → ClassId) (ad : Nat → Nat) (A : Nat → Prop) (hD : ∀ z, va_D A (WM q ad z)) (z : MX) (x0 : Int64) (x2 : Int64) (x4 : Int32) (post : Int64 → MX → Prop) (h : pX8_lowest  z x0 x2 x4 post) : Met l yX8_lowest (cW yX8_lowest cX8_lowest 11 (some .long)) ({ frames := 0, cells := 0, slots := 0, locals := 0 } : Room) (va_Pc [.long x0, .long x2, .int x4] ((gB D vwCl (WM q ad) (mE D q)) z)) (va_Ql post (gB D vwCl (WM q ad) (mE D q)) A) 0 0 A := by
  refine Met.ofW (cc := cX8_lowest) (maxL := 11) (ret := (some .long)) (by decide) rfl ?_
  intro p e s m args below meth c s₁ B hml hv
  obtain ⟨hargs, hP, hE⟩ := hv
  have hx := B.exec
  have hb := B.bytes
  have hr := B.returns
  have hts := atoms_spec (ws := (cW yX8_lowest cX8_lowest 11 (some .long))) B.pre
  have ht : ∀ w ∈ tG, w.before args s = true := fun w h => hts w (List.mem_cons_of_mem _ h)
  have hown : s.vm.findClass RX8 = some m.cls := findClass_of_methodNamed B.named
  have hlocks := B.notSynchronized
  have hK := hE.1
  have hG := mE_G D q A
  have S : CallFix p m c cX8_lowest 11 s args tG RX8 := ⟨hx, hb, hml, hown, ht⟩
  have hS : va_S A s.heap s.heap [] := va_S.rf
  have B41 : ∀ (z : MX) (x5 : Int64) (y0 : Int64) (H : Heap) (locs : List Loc) (ls : Array Slot), pX8_lowest_b41  post z x5 y0 → va_P D vwCl (WM q ad z) H → va_S A s.heap H locs → lv_has ls 11 [(5, .long x5)] → W p l e (headSpec (cW yX8_lowest cX8_lowest 11 (some .long)) ({ frames := 0, cells := 0, slots := 0, locals := 0 } : Room)).room s m args below meth c H locs 0 0 (MQ below (va_Ql post (gB D vwCl (WM q ad) (mE D q)) A) args s 0 0 A) (F0 m 41 ls [.long y0]) := by
    intro z x5 y0 H locs ls h hP hS hl
    unfold pX8_lowest_b41 at h
    refine lv_lload hx hb dX8_lowest_41 (lv_at hl 0 rfl) ?_
    have hd43 := h.1
    have h := h.2
    refine lv_ldiv hx hb dX8_lowest_43 hd43 ?_
    exact g_rl hG hx hb hr hlocks hE hP hS h dX8_lowest_44
  have B6 : ∀ (rec6 : MX → Int64 → Int64 → Int32 → Int64 → Int64 → Prop) (hrec6 : ∀ (z : MX) (x0 : Int64) (x2 : Int64) (x4 : Int32) (x5 : Int64) (x7 : Int64) (H : Heap) (locs : List Loc) (ls : Array Slot), rec6 z x0 x2 x4 x5 x7 → va_P D vwCl (WM q ad z) H → va_S A s.heap H locs → lv_has ls 11 [(0, .long x0), (2, .long x2), (4, .int x4), (5, .long x5), (7, .long x7)] → W p l e (headSpec (cW yX8_lowest cX8_lowest 11 (some .long)) ({ frames := 0, cells := 0, slots := 0, locals := 0 } : Room)).room s m args below meth c H locs 0 0 (MQ below (va_Ql post (gB D vwCl (WM q ad) (mE D q)) A) args s 0 0 A) (F0 m 6 ls [])) (z : MX) (x0 : Int64) (x2 : Int64) (x4 : Int32) (x5 : Int64) (x7 : Int64) (H : Heap) (locs : List Loc) (ls : Array Slot), pX8_lowest_l6  rec6 post z x0 x2 x4 x5 x7 → va_P D vwCl (WM q ad z) H → va_S A s.heap H locs → lv_has ls 11 [(0, .long x0), (2, .long x2), (4, .int x4), (5, .long x5), (7, .long x7)] → W p l e (headSpec (cW yX8_lowest cX8_lowest 11 (some .long)) ({ frames := 0, cells := 0, slots := 0, locals := 0 } : Room)).room s m args below meth c H locs 0 0 (MQ below (va_Ql post (gB D vwCl (WM q ad) (mE D q)) A) args s 0 0 A) (F0 m 6 ls []) := by
    intro rec6 hrec6 z x0 x2 x4 x5 x7 H locs ls h hP hS hl
    unfold pX8_lowest_l6 at h
    refine lv_lload hx hb dX8_lowest_6 (lv_at hl 4 rfl) ?_
    refine lv_lconst (v := (0 : Int64)) hx hb dX8_lowest_8 (by decide) ?_
    refine W.lcmp hx hb dX8_lowest_9 ?_
    refine lv_if_eq (tgt := 31) hx hb dX8_lowest_10 (by decide) (fun c10 => ?_) (fun c10 => ?_)
    · have h := h.1 c10
      refine lv_iload hx hb dX8_lowest_31 (lv_at hl 2 rfl) ?_
      refine lv_if_ne (tgt := 40) hx hb dX8_lowest_33 (by decide) (fun c33 => ?_) (fun c33 => ?_)
      · have h := h.1 c33
        refine lv_lload_n hx hb dX8_lowest_40 rfl (lv_at hl 1 rfl) ?_
        exact B41 z x5 x2 _ _ _ h hP hS (lv_sub hl [3] rfl)
      · have h := h.2 c33
        refine lv_lload_n hx hb dX8_lowest_36 rfl (lv_at hl 0 rfl) ?_
        refine lv_goto (tgt := 41) hx hb dX8_lowest_37 (by decide) ?_
        exact B41 z x5 x0 _ _ _ h hP hS (lv_sub hl [3] rfl)
    · have h := h.2 c10
      refine lv_lload hx hb dX8_lowest_13 (lv_at hl 3 rfl) ?_
      refine lv_lload hx hb dX8_lowest_15 (lv_at hl 4 rfl) ?_
      have hd17 := h.1
      have h := h.2
      refine lv_lrem hx hb dX8_lowest_17 hd17 ?_
      refine lv_topl (fun x9_18 ex9_18 => ?_)
      have h := h x9_18 ex9_18
      refine lv_lstore (lv' := [(9, .long x9_18), (0, .long x0), (2, .long x2), (4, .int x4), (5, .long x5), (7, .long x7)]) hx hb dX8_lowest_18 hl (by decide) rfl (fun ls hl => ?_)
      refine lv_lload hx hb dX8_lowest_20 (lv_at hl 5 rfl) ?_
      refine lv_lstore (lv' := [(5, .long x7), (9, .long x9_18), (0, .long x0), (2, .long x2), (4, .int x4), (7, .long x7)]) hx hb dX8_lowest_22 hl (by decide) rfl (fun ls hl => ?_)
      refine lv_lload hx hb dX8_lowest_24 (lv_at hl 1 rfl) ?_
      refine lv_lstore (lv' := [(7, .long x9_18), (5, .long x7), (9, .long x9_18), (0, .long x0), (2, .long x2), (4, .int x4)]) hx hb dX8_lowest_26 hl (by decide) rfl (fun ls hl => ?_)
      refine lv_goto (tgt := 6) hx hb dX8_lowest_28 (by decide) ?_
      exact hrec6 z x0 x2 x4 x7 x9_18 _ _ _ h hP hS (lv_sub hl [3, 4, 5, 1, 0] rfl)
  have L6 : ∀ (n : Nat) (z : MX) (x0 : Int64) (x2 : Int64) (x4 : Int32) (x5 : Int64) (x7 : Int64) (H : Heap) (locs : List Loc) (ls : Array Slot), pX8_lowest_L6  post n z x0 x2 x4 x5 x7 → va_P D vwCl (WM q ad z) H → va_S A s.heap H locs → lv_has ls 11 [(0, .long x0), (2, .long x2), (4, .int x4), (5, .long x5), (7, .long x7)] → W p l e (headSpec (cW yX8_lowest cX8_lowest 11 (some .long)) ({ frames := 0, cells := 0, slots := 0, locals := 0 } : Room)).room s m args below meth c H locs 0 0 (MQ below (va_Ql post (gB D vwCl (WM q ad) (mE D q)) A) args s 0 0 A) (F0 m 6 ls []) := by
    intro n
    induction n with
    | zero =>
      intro z x0 x2 x4 x5 x7 H locs ls h
      exact False.elim h
    | succ n ih =>
      intro z x0 x2 x4 x5 x7 H locs ls h hP hS hl
      exact B6 (pX8_lowest_L6  post n) ih z x0 x2 x4 x5 x7 H locs ls h hP hS hl
  refine g_entry (vs := [.long x0, .long x2, .int x4]) hargs (Nat.le_of_ble_eq_true rfl) (fun ls hl => ?_)
  have hl : lv_has ls 11 [(0, .long x0), (2, .long x2), (4, .int x4)] := hl
  unfold pX8_lowest at h
  refine lv_lload_n hx hb dX8_lowest_0 rfl (lv_at hl 0 rfl) ?_
  refine lv_lstore (lv' := [(5, .long x0), (0, .long x0), (2, .long x2), (4, .int x4)]) hx hb dX8_lowest_1 hl (by decide) rfl (fun ls hl => ?_)
  refine lv_lload_n hx hb dX8_lowest_3 rfl (lv_at hl 2 rfl) ?_
  refine lv_lstore (lv' := [(7, .long x2), (5, .long x0), (0, .long x0), (2, .long x2), (4, .int x4)]) hx hb dX8_lowest_4 hl (by decide) rfl (fun ls hl => ?_)
  obtain ⟨n, h⟩ := h
  exact L6 n z x0 x2 x4 x0 x2 _ _ _ h hP hS (lv_sub hl [2, 3, 4, 1, 0] rfl)
def pX8_byMagpies_b194 (rec62 : MX → Int32 → Int32 → Int32 → Int32 → Int64 → Int64 → Int32 → Prop) (post : Int64 → MX → Prop) (z : MX) (x1 : Int32) (x2 : Int32) (x3 : Int32) (x4 : Int32) (x5 : Int64) (x7 : Int64) (x9 : Int32) : Prop :=
    ∀ x9_194 : Int32, x9_194 = x9 + (1 : Int32) →
    rec62 z x1 x2 x3 x4 x5 x7 x9_194
def pX8_byMagpies_b182 (rec62 : MX → Int32 → Int32 → Int32 → Int32 → Int64 → Int64 → Int32 → Prop) (post : Int64 → MX → Prop) (z : MX) (x1 : Int32) (x2 : Int32) (x3 : Int32) (x4 : Int32) (x7 : Int64) (x9 : Int32) (y0 : Int64) (y1 : Int64) (y2 : Int32) : Prop :=
    ∀ x5_185 : Int64, x5_185 = y0 + (y1 * (Int32.toInt64 y2)) →
    pX8_copies z (100 : Int32) (0 : Int32) (fun (z191 : MX) =>
    pX8_byMagpies_b194  rec62 post z191 x1 x2 x3 x4 x5_185 x7 x9)
def pX8_byMagpies_b134 (rec62 : MX → Int32 → Int32 → Int32 → Int32 → Int64 → Int64 → Int32 → Prop) (rec87 : MX → Int32 → Int32 → Int32 → Int32 → Int64 → Int64 → Int32 → Int64 → Int32 → Prop) (post : Int64 → MX → Prop) (z : MX) (x1 : Int32) (x2 : Int32) (x3 : Int32) (x4 : Int32) (x5 : Int64) (x7 : Int64) (x9 : Int32) (x12 : Int32) (y0 : Int64) (y1 : Int64) : Prop :=
    ∀ x10_135 : Int64, x10_135 = y0 * y1 →
    ∀ x12_137 : Int32, x12_137 = x12 + (1 : Int32) →
    rec87 z x1 x2 x3 x4 x5 x7 x9 x10_135 x12_137
def pX8_byMagpies_l87 (rec62 : MX → Int32 → Int32 → Int32 → Int32 → Int64 → Int64 → Int32 → Prop) (rec87 : MX → Int32 → Int32 → Int32 → Int32 → Int64 → Int64 → Int32 → Int64 → Int32 → Prop) (post : Int64 → MX → Prop) (z : MX) (x1 : Int32) (x2 : Int32) (x3 : Int32) (x4 : Int32) (x5 : Int64) (x7 : Int64) (x9 : Int32) (x10 : Int64) (x12 : Int32) : Prop :=
    (((z.1 0 1) ≤ x12 →
      pX8_magpiesIn z x9 (fun (z146 : MX) =>
      pX8_run z146 (fun (z150 : MX) =>
      ((x2 = 0 →
        ((¬ (z150.1 0 30) = (-4 : Int32) →
          pX8_byMagpies_b182  rec62 post z150 x1 x2 x3 x4 x7 x9 x5 x10 (0 : Int32)) ∧
        ((z150.1 0 30) = (-4 : Int32) →
          pX8_byMagpies_b182  rec62 post z150 x1 x2 x3 x4 x7 x9 x5 x10 (1 : Int32)))) ∧
      (¬ x2 = 0 →
        pX8_cost z150 (fun (r162 : Int32) (z162 : MX) =>
        pX8_byMagpies_b182  rec62 post z162 x1 x2 x3 x4 x7 x9 x5 x10 r162)))))) ∧
    (¬ (z.1 0 1) ≤ x12 →
      ((¬ ((x4 >>> (x12 &&& 31)) &&& (1 : Int32)) = (1 : Int32) →
        ((¬ ((x9 >>> (x12 &&& 31)) &&& (1 : Int32)) = (1 : Int32) →
          pX8_byMagpies_b134  rec62 rec87 post z x1 x2 x3 x4 x5 x7 x9 x12 x10 (Int32.toInt64 ((10 : Int32) - x1))) ∧
        (((x9 >>> (x12 &&& 31)) &&& (1 : Int32)) = (1 : Int32) →
          pX8_byMagpies_b134  rec62 rec87 post z x1 x2 x3 x4 x5 x7 x9 x12 x10 (Int32.toInt64 x1)))) ∧
      (((x4 >>> (x12 &&& 31)) &&& (1 : Int32)) = (1 : Int32) →
        pX8_byMagpies_b134  rec62 rec87 post z x1 x2 x3 x4 x5 x7 x9 x12 x10 (1 : Int64)))))
def pX8_byMagpies_L87 (rec62 : MX → Int32 → Int32 → Int32 → Int32 → Int64 → Int64 → Int32 → Prop) (post : Int64 → MX → Prop) : Nat → MX → Int32 → Int32 → Int32 → Int32 → Int64 → Int64 → Int32 → Int64 → Int32 → Prop
  | 0 => fun _ _ _ _ _ _ _ _ _ _ => False
  | n + 1 => fun z x1 x2 x3 x4 x5 x7 x9 x10 x12 => pX8_byMagpies_l87  rec62 (pX8_byMagpies_L87  rec62 post n) post z x1 x2 x3 x4 x5 x7 x9 x10 x12
def pX8_byMagpies_l62 (rec62 : MX → Int32 → Int32 → Int32 → Int32 → Int64 → Int64 → Int32 → Prop) (post : Int64 → MX → Prop) (z : MX) (x1 : Int32) (x2 : Int32) (x3 : Int32) (x4 : Int32) (x5 : Int64) (x7 : Int64) (x9 : Int32) : Prop :=
    ((((1 : Int32) <<< ((z.1 0 1) &&& 31)) ≤ x9 →
      pX8_lowest z x5 x7 x3 (fun (r205 : Int64) (z205 : MX) =>
      post r205 z205)) ∧
    (¬ ((1 : Int32) <<< ((z.1 0 1) &&& 31)) ≤ x9 →
      ((¬ (x9 &&& x4) = 0 →
        pX8_byMagpies_b194  rec62 post z x1 x2 x3 x4 x5 x7 x9) ∧
      ((x9 &&& x4) = 0 →
        ∃ n, pX8_byMagpies_L87  rec62 post n z x1 x2 x3 x4 x5 x7 x9 (1 : Int64) (0 : Int32)))))
def pX8_byMagpies_L62 (post : Int64 → MX → Prop) : Nat → MX → Int32 → Int32 → Int32 → Int32 → Int64 → Int64 → Int32 → Prop
  | 0 => fun _ _ _ _ _ _ _ _ => False
  | n + 1 => fun z x1 x2 x3 x4 x5 x7 x9 => pX8_byMagpies_l62  (pX8_byMagpies_L62  post n) post z x1 x2 x3 x4 x5 x7 x9
def pX8_byMagpies_b43 (rec15 : MX → Int32 → Int32 → Int32 → Int32 → Int64 → Int64 → Int32 → Prop) (post : Int64 → MX → Prop) (z : MX) (x1 : Int32) (x2 : Int32) (x3 : Int32) (x4 : Int32) (x5 : Int64) (x9 : Int32) (y0 : Int64) (y1 : Int64) : Prop :=
    ∀ x7_44 : Int64, x7_44 = y0 * y1 →
    ∀ x9_46 : Int32, x9_46 = x9 + (1 : Int32) →
    rec15 z x1 x2 x3 x4 x5 x7_44 x9_46
def pX8_byMagpies_l15 (rec15 : MX → Int32 → Int32 → Int32 → Int32 → Int64 → Int64 → Int32 → Prop) (post : Int64 → MX → Prop) (z : MX) (x1 : Int32) (x2 : Int32) (x3 : Int32) (x4 : Int32) (x5 : Int64) (x7 : Int64) (x9 : Int32) : Prop :=
    (((z.1 0 1) ≤ x9 →
      pX8_copies z (0 : Int32) (100 : Int32) (fun (z56 : MX) =>
      ∃ n, pX8_byMagpies_L62  post n z56 x1 x2 x3 x4 x5 x7 (0 : Int32))) ∧
    (¬ (z.1 0 1) ≤ x9 →
      ((¬ ((x4 >>> (x9 &&& 31)) &&& (1 : Int32)) = 0 →
        pX8_byMagpies_b43  rec15 post z x1 x2 x3 x4 x5 x9 x7 (1 : Int64)) ∧
      (((x4 >>> (x9 &&& 31)) &&& (1 : Int32)) = 0 →
        pX8_byMagpies_b43  rec15 post z x1 x2 x3 x4 x5 x9 x7 (10 : Int64)))))
def pX8_byMagpies_L15 (post : Int64 → MX → Prop) : Nat → MX → Int32 → Int32 → Int32 → Int32 → Int64 → Int64 → Int32 → Prop
  | 0 => fun _ _ _ _ _ _ _ _ => False
  | n + 1 => fun z x1 x2 x3 x4 x5 x7 x9 => pX8_byMagpies_l15  (pX8_byMagpies_L15  post n) post z x1 x2 x3 x4 x5 x7 x9
def pX8_byMagpies (z : MX) (x1 : Int32) (x2 : Int32) (x3 : Int32) (post : Int64 → MX → Prop) : Prop :=
  pX8_omens z (fun (r1 : Int32) (z1 : MX) =>
  ∃ n, pX8_byMagpies_L15  post n z1 x1 x2 x3 r1 (0 : Int64) (1 : Int64) (0 : Int32))
set_option maxHeartbeats 4000000 in
set_option maxRecDepth 100000 in
theorem kX8_byMagpies (l : Launch) (D : va_G) (q : Nat → ClassId) (ad : Nat → Nat) (A : Nat → Prop) (hD : ∀ z, va_D A (WM q ad z)) (z : MX) (x1 : Int32) (x2 : Int32) (x3 : Int32) (post : Int64 → MX → Prop) (h : pX8_byMagpies  z x1 x2 x3 post) : Met l yX8_byMagpies (cW yX8_byMagpies cX8_byMagpies 13 (some .long)) ({ frames := 4, cells := 0, slots := 0, locals := 88 } : Room) (va_Pc [.ref (ad 0), .int x1, .int x2, .int x3] ((gB D vwCl (WM q ad) (mE D q)) z)) (va_Ql post (gB D vwCl (WM q ad) (mE D q)) A) 0 0 A := by
  refine Met.ofW (cc := cX8_byMagpies) (maxL := 13) (ret := (some .long)) (by decide) rfl ?_
  intro p e s m args below meth c s₁ B hml hv
  obtain ⟨hargs, hP, hE⟩ := hv
  have hx := B.exec
  have hb := B.bytes
  have hr := B.returns
  have hts := atoms_spec (ws := (cW yX8_byMagpies cX8_byMagpies 13 (some .long))) B.pre
  have ht : ∀ w ∈ tG, w.before args s = true := fun w h => hts w (List.mem_cons_of_mem _ h)
  have hown : s.vm.findClass RX8 = some m.cls := findClass_of_methodNamed B.named
  have hlocks := B.notSynchronized
  have hK := hE.1
  have hG := mE_G D q A
  have S : CallFix p m c cX8_byMagpies 13 s args tG RX8 := ⟨hx, hb, hml, hown, ht⟩
  have hS : va_S A s.heap s.heap [] := va_S.rf
  have B194 : ∀ (rec62 : MX → Int32 → Int32 → Int32 → Int32 → Int64 → Int64 → Int32 → Prop) (hrec62 : ∀ (z : MX) (x1 : Int32) (x2 : Int32) (x3 : Int32) (x4 : Int32) (x5 : Int64) (x7 : Int64) (x9 : Int32) (H : Heap) (locs : List Loc) (ls : Array Slot), rec62 z x1 x2 x3 x4 x5 x7 x9 → va_P D vwCl (WM q ad z) H → va_S A s.heap H locs → lv_has ls 13 [(0, .ref (ad 0)), (1, .int x1), (2, .int x2), (3, .int x3), (4, .int x4), (5, .long x5), (7, .long x7), (9, .int x9)] → W p l e (headSpec (cW yX8_byMagpies cX8_byMagpies 13 (some .long)) ({ frames := 4, cells := 0, slots := 0, locals := 88 } : Room)).room s m args below meth c H locs 0 0 (MQ below (va_Ql post (gB D vwCl (WM q ad) (mE D q)) A) args s 0 0 A) (F0 m 62 ls [])) (z : MX) (x1 : Int32) (x2 : Int32) (x3 : Int32) (x4 : Int32) (x5 : Int64) (x7 : Int64) (x9 : Int32) (H : Heap) (locs : List Loc) (ls : Array Slot), pX8_byMagpies_b194  rec62 post z x1 x2 x3 x4 x5 x7 x9 → va_P D vwCl (WM q ad z) H → va_S A s.heap H locs → lv_has ls 13 [(0, .ref (ad 0)), (1, .int x1), (2, .int x2), (3, .int x3), (4, .int x4), (5, .long x5), (7, .long x7), (9, .int x9)] → W p l e (headSpec (cW yX8_byMagpies cX8_byMagpies 13 (some .long)) ({ frames := 4, cells := 0, slots := 0, locals := 88 } : Room)).room s m args below meth c H locs 0 0 (MQ below (va_Ql post (gB D vwCl (WM q ad) (mE D q)) A) args s 0 0 A) (F0 m 194 ls []) := by
    intro rec62 hrec62 z x1 x2 x3 x4 x5 x7 x9 H locs ls h hP hS hl
    unfold pX8_byMagpies_b194 at h
    obtain ⟨x9_194, ex9_194⟩ : ∃ w : Int32, w = x9 + (1 : Int32) := ⟨_, rfl⟩
    have h := h x9_194 ex9_194
    refine lv_iinc (v := x9_194) (lv' := [(9, .int x9_194), (0, .ref (ad 0)), (1, .int x1), (2, .int x2), (3, .int x3), (4, .int x4), (5, .long x5), (7, .long x7)]) hx hb dX8_byMagpies_194 hl (k := 7) rfl (by rw [ex9_194]; rfl) (by decide) rfl (fun ls hl => ?_)
    refine lv_goto (tgt := 62) hx hb dX8_byMagpies_197 (by decide) ?_
    exact hrec62 z x1 x2 x3 x4 x5 x7 x9_194 _ _ _ h hP hS (lv_sub hl [1, 2, 3, 4, 5, 6, 7, 0] rfl)
  have B182 : ∀ (rec62 : MX → Int32 → Int32 → Int32 → Int32 → Int64 → Int64 → Int32 → Prop) (hrec62 : ∀ (z : MX) (x1 : Int32) (x2 : Int32) (x3 : Int32) (x4 : Int32) (x5 : Int64) (x7 : Int64) (x9 : Int32) (H : Heap) (locs : List Loc) (ls : Array Slot), rec62 z x1 x2 x3 x4 x5 x7 x9 → va_P D vwCl (WM q ad z) H → va_S A s.heap H locs → lv_has ls 13 [(0, .ref (ad 0)), (1, .int x1), (2, .int x2), (3, .int x3), (4, .int x4), (5, .long x5), (7, .long x7), (9, .int x9)] → W p l e (headSpec (cW yX8_byMagpies cX8_byMagpies 13 (some .long)) ({ frames := 4, cells := 0, slots := 0, locals := 88 } : Room)).room s m args below meth c H locs 0 0 (MQ below (va_Ql post (gB D vwCl (WM q ad) (mE D q)) A) args s 0 0 A) (F0 m 62 ls [])) (z : MX) (x1 : Int32) (x2 : Int32) (x3 : Int32) (x4 : Int32) (x7 : Int64) (x9 : Int32) (y0 : Int64) (y1 : Int64) (y2 : Int32) (H : Heap) (locs : List Loc) (ls : Array Slot), pX8_byMagpies_b182  rec62 post z x1 x2 x3 x4 x7 x9 y0 y1 y2 → va_P D vwCl (WM q ad z) H → va_S A s.heap H locs → lv_has ls 13 [(0, .ref (ad 0)), (1, .int x1), (2, .int x2), (3, .int x3), (4, .int x4), (7, .long x7), (9, .int x9)] → W p l e (headSpec (cW yX8_byMagpies cX8_byMagpies 13 (some .long)) ({ frames := 4, cells := 0, slots := 0, locals := 88 } : Room)).room s m args below meth c H locs 0 0 (MQ below (va_Ql post (gB D vwCl (WM q ad) (mE D q)) A) args s 0 0 A) (F0 m 182 ls [.int y2, .long y1, .long y0]) := by
    intro rec62 hrec62 z x1 x2 x3 x4 x7 x9 y0 y1 y2 H locs ls h hP hS hl
    unfold pX8_byMagpies_b182 at h
    refine lv_i2l hx hb dX8_byMagpies_182 rfl ?_
    refine lv_lmul hx hb dX8_byMagpies_183 ?_
    refine lv_ladd hx hb dX8_byMagpies_184 ?_
    refine lv_topl (fun x5_185 ex5_185 => ?_)
    have h := h x5_185 ex5_185
    refine lv_lstore (lv' := [(5, .long x5_185), (0, .ref (ad 0)), (1, .int x1), (2, .int x2), (3, .int x3), (4, .int x4), (7, .long x7), (9, .int x9)]) hx hb dX8_byMagpies_185 hl (by decide) rfl (fun ls hl => ?_)
    refine lv_aload_n hx hb dX8_byMagpies_187 rfl (lv_at hl 1 rfl) ?_
    refine lv_bipush (v := (100 : Int32)) hx hb dX8_byMagpies_188 (by decide) ?_
    refine lv_iconst (v := (0 : Int32)) hx hb dX8_byMagpies_190 (by decide) ?_
    refine g_cVv (Wd := WM q ad) (z := z) (As := [.int (100 : Int32), .int (0 : Int32)]) (rest := []) hG S (kX8_copies l D q ad A hD z (100 : Int32) (0 : Int32) _ h) (cwV 2 ht (cW_V (fun _ h => h) tw_co_X8_copies tw_ml_X8_255 tw_im_X8_copies tw_se_X8_copies tw_in_X8) rfl rfl rfl (by decide +kernel) ⟨by decide, by decide⟩) (va_recv hK hP (ci := 8) (q0 := 0) rfl (wm_0 q ad z)) hE hP hS rfl hl.1 rfl (Nat.le_of_ble_eq_true rfl) dX8_byMagpies_191 ⟨Nat.zero_le _, Nat.zero_le _⟩ (fun z191 H locs h hP hS => ?_)
    exact B194 rec62 hrec62 z191 x1 x2 x3 x4 x5_185 x7 x9 _ _ _ h hP hS (lv_sub hl [1, 2, 3, 4, 5, 0, 6, 7] rfl)
  have B134 : ∀ (rec62 : MX → Int32 → Int32 → Int32 → Int32 → Int64 → Int64 → Int32 → Prop) (rec87 : MX → Int32 → Int32 → Int32 → Int32 → Int64 → Int64 → Int32 → Int64 → Int32 → Prop) (hrec62 : ∀ (z : MX) (x1 : Int32) (x2 : Int32) (x3 : Int32) (x4 : Int32) (x5 : Int64) (x7 : Int64) (x9 : Int32) (H : Heap) (locs : List Loc) (ls : Array Slot), rec62 z x1 x2 x3 x4 x5 x7 x9 → va_P D vwCl (WM q ad z) H → va_S A s.heap H locs → lv_has ls 13 [(0, .ref (ad 0)), (1, .int x1), (2, .int x2), (3, .int x3), (4, .int x4), (5, .long x5), (7, .long x7), (9, .int x9)] → W p l e (headSpec (cW yX8_byMagpies cX8_byMagpies 13 (some .long)) ({ frames := 4, cells := 0, slots := 0, locals := 88 } : Room)).room s m args below meth c H locs 0 0 (MQ below (va_Ql post (gB D vwCl (WM q ad) (mE D q)) A) args s 0 0 A) (F0 m 62 ls [])) (hrec87 : ∀ (z : MX) (x1 : Int32) (x2 : Int32) (x3 : Int32) (x4 : Int32) (x5 : Int64) (x7 : Int64) (x9 : Int32) (x10 : Int64) (x12 : Int32) (H : Heap) (locs : List Loc) (ls : Array Slot), rec87 z x1 x2 x3 x4 x5 x7 x9 x10 x12 → va_P D vwCl (WM q ad z) H → va_S A s.heap H locs → lv_has ls 13 [(0, .ref (ad 0)), (1, .int x1), (2, .int x2), (3, .int x3), (4, .int x4), (5, .long x5), (7, .long x7), (9, .int x9), (10, .long x10), (12, .int x12)] → W p l e (headSpec (cW yX8_byMagpies cX8_byMagpies 13 (some .long)) ({ frames := 4, cells := 0, slots := 0, locals := 88 } : Room)).room s m args below meth c H locs 0 0 (MQ below (va_Ql post (gB D vwCl (WM q ad) (mE D q)) A) args s 0 0 A) (F0 m 87 ls [])) (z : MX) (x1 : Int32) (x2 : Int32) (x3 : Int32) (x4 : Int32) (x5 : Int64) (x7 : Int64) (x9 : Int32) (x12 : Int32) (y0 : Int64) (y1 : Int64) (H : Heap) (locs : List Loc) (ls : Array Slot), pX8_byMagpies_b134  rec62 rec87 post z x1 x2 x3 x4 x5 x7 x9 x12 y0 y1 → va_P D vwCl (WM q ad z) H → va_S A s.heap H locs → lv_has ls 13 [(0, .ref (ad 0)), (1, .int x1), (2, .int x2), (3, .int x3), (4, .int x4), (5, .long x5), (7, .long x7), (9, .int x9), (12, .int x12)] → W p l e (headSpec (cW yX8_byMagpies cX8_byMagpies 13 (some .long)) ({ frames := 4, cells := 0, slots := 0, locals := 88 } : Room)).room s m args below meth c H locs 0 0 (MQ below (va_Ql post (gB D vwCl (WM q ad) (mE D q)) A) args s 0 0 A) (F0 m 134 ls [.long y1, .long y0]) := by
    intro rec62 rec87 hrec62 hrec87 z x1 x2 x3 x4 x5 x7 x9 x12 y0 y1 H locs ls h hP hS hl
    unfold pX8_byMagpies_b134 at h
    refine lv_lmul hx hb dX8_byMagpies_134 ?_
    refine lv_topl (fun x10_135 ex10_135 => ?_)
    have h := h x10_135 ex10_135
    refine lv_lstore (lv' := [(10, .long x10_135), (0, .ref (ad 0)), (1, .int x1), (2, .int x2), (3, .int x3), (4, .int x4), (5, .long x5), (7, .long x7), (9, .int x9), (12, .int x12)]) hx hb dX8_byMagpies_135 hl (by decide) rfl (fun ls hl => ?_)
    obtain ⟨x12_137, ex12_137⟩ : ∃ w : Int32, w = x12 + (1 : Int32) := ⟨_, rfl⟩
    have h := h x12_137 ex12_137
    refine lv_iinc (v := x12_137) (lv' := [(12, .int x12_137), (10, .long x10_135), (0, .ref (ad 0)), (1, .int x1), (2, .int x2), (3, .int x3), (4, .int x4), (5, .long x5), (7, .long x7), (9, .int x9)]) hx hb dX8_byMagpies_137 hl (k := 9) rfl (by rw [ex12_137]; rfl) (by decide) rfl (fun ls hl => ?_)
    refine lv_goto (tgt := 87) hx hb dX8_byMagpies_140 (by decide) ?_
    exact hrec87 z x1 x2 x3 x4 x5 x7 x9 x10_135 x12_137 _ _ _ h hP hS (lv_sub hl [2, 3, 4, 5, 6, 7, 8, 9, 1, 0] rfl)
  have B87 : ∀ (rec62 : MX → Int32 → Int32 → Int32 → Int32 → Int64 → Int64 → Int32 → Prop) (rec87 : MX → Int32 → Int32 → Int32 → Int32 → Int64 → Int64 → Int32 → Int64 → Int32 → Prop) (hrec62 : ∀ (z : MX) (x1 : Int32) (x2 : Int32) (x3 : Int32) (x4 : Int32) (x5 : Int64) (x7 : Int64) (x9 : Int32) (H : Heap) (locs : List Loc) (ls : Array Slot), rec62 z x1 x2 x3 x4 x5 x7 x9 → va_P D vwCl (WM q ad z) H → va_S A s.heap H locs → lv_has ls 13 [(0, .ref (ad 0)), (1, .int x1), (2, .int x2), (3, .int x3), (4, .int x4), (5, .long x5), (7, .long x7), (9, .int x9)] → W p l e (headSpec (cW yX8_byMagpies cX8_byMagpies 13 (some .long)) ({ frames := 4, cells := 0, slots := 0, locals := 88 } : Room)).room s m args below meth c H locs 0 0 (MQ below (va_Ql post (gB D vwCl (WM q ad) (mE D q)) A) args s 0 0 A) (F0 m 62 ls [])) (hrec87 : ∀ (z : MX) (x1 : Int32) (x2 : Int32) (x3 : Int32) (x4 : Int32) (x5 : Int64) (x7 : Int64) (x9 : Int32) (x10 : Int64) (x12 : Int32) (H : Heap) (locs : List Loc) (ls : Array Slot), rec87 z x1 x2 x3 x4 x5 x7 x9 x10 x12 → va_P D vwCl (WM q ad z) H → va_S A s.heap H locs → lv_has ls 13 [(0, .ref (ad 0)), (1, .int x1), (2, .int x2), (3, .int x3), (4, .int x4), (5, .long x5), (7, .long x7), (9, .int x9), (10, .long x10), (12, .int x12)] → W p l e (headSpec (cW yX8_byMagpies cX8_byMagpies 13 (some .long)) ({ frames := 4, cells := 0, slots := 0, locals := 88 } : Room)).room s m args below meth c H locs 0 0 (MQ below (va_Ql post (gB D vwCl (WM q ad) (mE D q)) A) args s 0 0 A) (F0 m 87 ls [])) (z : MX) (x1 : Int32) (x2 : Int32) (x3 : Int32) (x4 : Int32) (x5 : Int64) (x7 : Int64) (x9 : Int32) (x10 : Int64) (x12 : Int32) (H : Heap) (locs : List Loc) (ls : Array Slot), pX8_byMagpies_l87  rec62 rec87 post z x1 x2 x3 x4 x5 x7 x9 x10 x12 → va_P D vwCl (WM q ad z) H → va_S A s.heap H locs → lv_has ls 13 [(0, .ref (ad 0)), (1, .int x1), (2, .int x2), (3, .int x3), (4, .int x4), (5, .long x5), (7, .long x7), (9, .int x9), (10, .long x10), (12, .int x12)] → W p l e (headSpec (cW yX8_byMagpies cX8_byMagpies 13 (some .long)) ({ frames := 4, cells := 0, slots := 0, locals := 88 } : Room)).room s m args below meth c H locs 0 0 (MQ below (va_Ql post (gB D vwCl (WM q ad) (mE D q)) A) args s 0 0 A) (F0 m 87 ls []) := by
    intro rec62 rec87 hrec62 hrec87 z x1 x2 x3 x4 x5 x7 x9 x10 x12 H locs ls h hP hS hl
    unfold pX8_byMagpies_l87 at h
    refine lv_iload hx hb dX8_byMagpies_87 (lv_at hl 9 rfl) ?_
    refine lv_aload_n hx hb dX8_byMagpies_89 rfl (lv_at hl 0 rfl) ?_
    refine va_get (D := D) (ci := 8) (v := .int (z.1 0 1)) (C := RX8) (T := TX8) (N := 45) hx hb ht tl_X8 hown hK hP 0 (wm_0 q ad z) rfl 1 (by decide) (ht _ tw_fl_X8_13) (fun _ h9 => h9) rfl dX8_byMagpies_90 ?_
    refine lv_icmp_ge (tgt := 143) hx hb dX8_byMagpies_93 (by decide) (fun c93 => ?_) (fun c93 => ?_)
    · have h := h.1 c93
      refine lv_aload_n hx hb dX8_byMagpies_143 rfl (lv_at hl 0 rfl) ?_
      refine lv_iload hx hb dX8_byMagpies_144 (lv_at hl 7 rfl) ?_
      refine g_cVv (Wd := WM q ad) (z := z) (As := [.int x9]) (rest := []) hG S (kX8_magpiesIn l D q ad A hD z x9 _ h) (cwV 1 ht (cW_V (fun _ h => h) tw_co_X8_magpiesIn tw_ml_X8_261 tw_im_X8_magpiesIn tw_se_X8_magpiesIn tw_in_X8) rfl rfl rfl (by decide +kernel) ⟨by decide, by decide⟩) (va_recv hK hP (ci := 8) (q0 := 0) rfl (wm_0 q ad z)) hE hP hS rfl hl.1 rfl (Nat.le_of_ble_eq_true rfl) dX8_byMagpies_146 ⟨Nat.zero_le _, Nat.zero_le _⟩ (fun z146 H locs h hP hS => ?_)
      refine lv_aload_n hx hb dX8_byMagpies_149 rfl (lv_at hl 0 rfl) ?_
      refine g_cVv (Wd := WM q ad) (z := z146) (As := []) (rest := []) hG S (kX8_run l D q ad A hD z146 _ h) (cwV 0 ht (cW_V (fun _ h => h) tw_co_X8_run tw_ml_X8_236 tw_im_X8_run tw_se_X8_run tw_in_X8) rfl rfl rfl (by decide +kernel) ⟨by decide, by decide⟩) (va_recv hK hP (ci := 8) (q0 := 0) rfl (wm_0 q ad z146)) hE hP hS rfl hl.1 rfl (Nat.le_of_ble_eq_true rfl) dX8_byMagpies_150 ⟨Nat.zero_le _, Nat.zero_le _⟩ (fun z150 H locs h hP hS => ?_)
      refine lv_lload hx hb dX8_byMagpies_153 (lv_at hl 5 rfl) ?_
      refine lv_lload hx hb dX8_byMagpies_155 (lv_at hl 8 rfl) ?_
      refine lv_iload_n hx hb dX8_byMagpies_157 rfl (lv_at hl 2 rfl) ?_
      refine lv_if_eq (tgt := 168) hx hb dX8_byMagpies_158 (by decide) (fun c158 => ?_) (fun c158 => ?_)
      · have h := h.1 c158
        refine lv_aload_n hx hb dX8_byMagpies_168 rfl (lv_at hl 0 rfl) ?_
        refine va_get (D := D) (ci := 8) (v := .int (z150.1 0 30)) (C := RX8) (T := TX8) (N := 45) hx hb ht tl_X8 hown hK hP 0 (wm_0 q ad z150) rfl 30 (by decide) (ht _ tw_fl_X8_223) (fun _ h9 => h9) rfl dX8_byMagpies_169 ?_
        refine lv_bipush (v := (-4 : Int32)) hx hb dX8_byMagpies_172 (by decide) ?_
        refine lv_icmp_ne (tgt := 181) hx hb dX8_byMagpies_174 (by decide) (fun c174 => ?_) (fun c174 => ?_)
        · have h := h.1 c174
          refine lv_iconst (v := (0 : Int32)) hx hb dX8_byMagpies_181 (by decide) ?_
          exact B182 rec62 hrec62 z150 x1 x2 x3 x4 x7 x9 x5 x10 (0 : Int32) _ _ _ h hP hS (lv_sub hl [0, 1, 2, 3, 4, 6, 7] rfl)
        · have h := h.2 c174
          refine lv_iconst (v := (1 : Int32)) hx hb dX8_byMagpies_177 (by decide) ?_
          refine lv_goto (tgt := 182) hx hb dX8_byMagpies_178 (by decide) ?_
          exact B182 rec62 hrec62 z150 x1 x2 x3 x4 x7 x9 x5 x10 (1 : Int32) _ _ _ h hP hS (lv_sub hl [0, 1, 2, 3, 4, 6, 7] rfl)
      · have h := h.2 c158
        refine lv_aload_n hx hb dX8_byMagpies_161 rfl (lv_at hl 0 rfl) ?_
        refine g_cVi (Wd := WM q ad) (z := z150) (As := []) (rest := [.long x10, .long x5]) hG S (kX8_cost l D q ad A hD z150 _ h) (cwV 0 ht (cW_V (fun _ h => h) tw_co_X8_cost tw_ml_X8_241 tw_im_X8_cost tw_se_X8_cost tw_in_X8) rfl rfl rfl (by decide +kernel) ⟨by decide, by decide⟩) (va_recv hK hP (ci := 8) (q0 := 0) rfl (wm_0 q ad z150)) hE hP hS rfl hl.1 rfl (Nat.le_of_ble_eq_true rfl) dX8_byMagpies_162 ⟨Nat.zero_le _, Nat.zero_le _⟩ (fun r162 z162 H locs h hP hS => ?_)
        refine lv_goto (tgt := 182) hx hb dX8_byMagpies_165 (by decide) ?_
        exact B182 rec62 hrec62 z162 x1 x2 x3 x4 x7 x9 x5 x10 r162 _ _ _ h hP hS (lv_sub hl [0, 1, 2, 3, 4, 6, 7] rfl)
    · have h := h.2 c93
      refine lv_lload hx hb dX8_byMagpies_96 (lv_at hl 8 rfl) ?_
      refine lv_iload hx hb dX8_byMagpies_98 (lv_at hl 4 rfl) ?_
      refine lv_iload hx hb dX8_byMagpies_100 (lv_at hl 9 rfl) ?_
      refine lv_ishr hx hb dX8_byMagpies_102 ?_
      refine lv_iconst (v := (1 : Int32)) hx hb dX8_byMagpies_103 (by decide) ?_
      refine lv_iand hx hb dX8_byMagpies_104 ?_
      refine lv_iconst (v := (1 : Int32)) hx hb dX8_byMagpies_105 (by decide) ?_
      refine lv_icmp_ne (tgt := 113) hx hb dX8_byMagpies_106 (by decide) (fun c106 => ?_) (fun c106 => ?_)
      · have h := h.1 c106
        refine lv_iload hx hb dX8_byMagpies_113 (lv_at hl 7 rfl) ?_
        refine lv_iload hx hb dX8_byMagpies_115 (lv_at hl 9 rfl) ?_
        refine lv_ishr hx hb dX8_byMagpies_117 ?_
        refine lv_iconst (v := (1 : Int32)) hx hb dX8_byMagpies_118 (by decide) ?_
        refine lv_iand hx hb dX8_byMagpies_119 ?_
        refine lv_iconst (v := (1 : Int32)) hx hb dX8_byMagpies_120 (by decide) ?_
        refine lv_icmp_ne (tgt := 129) hx hb dX8_byMagpies_121 (by decide) (fun c121 => ?_) (fun c121 => ?_)
        · have h := h.1 c121
          refine lv_bipush (v := (10 : Int32)) hx hb dX8_byMagpies_129 (by decide) ?_
          refine lv_iload_n hx hb dX8_byMagpies_131 rfl (lv_at hl 1 rfl) ?_
          refine lv_isub hx hb dX8_byMagpies_132 ?_
          refine lv_i2l hx hb dX8_byMagpies_133 rfl ?_
          exact B134 rec62 rec87 hrec62 hrec87 z x1 x2 x3 x4 x5 x7 x9 x12 x10 (Int32.toInt64 ((10 : Int32) - x1)) _ _ _ h hP hS (lv_sub hl [0, 1, 2, 3, 4, 5, 6, 7, 9] rfl)
        · have h := h.2 c121
          refine lv_iload_n hx hb dX8_byMagpies_124 rfl (lv_at hl 1 rfl) ?_
          refine lv_i2l hx hb dX8_byMagpies_125 rfl ?_
          refine lv_goto (tgt := 134) hx hb dX8_byMagpies_126 (by decide) ?_
          exact B134 rec62 rec87 hrec62 hrec87 z x1 x2 x3 x4 x5 x7 x9 x12 x10 (Int32.toInt64 x1) _ _ _ h hP hS (lv_sub hl [0, 1, 2, 3, 4, 5, 6, 7, 9] rfl)
      · have h := h.2 c106
        refine lv_lconst (v := (1 : Int64)) hx hb dX8_byMagpies_109 (by decide) ?_
        refine lv_goto (tgt := 134) hx hb dX8_byMagpies_110 (by decide) ?_
        exact B134 rec62 rec87 hrec62 hrec87 z x1 x2 x3 x4 x5 x7 x9 x12 x10 (1 : Int64) _ _ _ h hP hS (lv_sub hl [0, 1, 2, 3, 4, 5, 6, 7, 9] rfl)
  have L87 : ∀ (rec62 : MX → Int32 → Int32 → Int32 → Int32 → Int64 → Int64 → Int32 → Prop) (hrec62 : ∀ (z : MX) (x1 : Int32) (x2 : Int32) (x3 : Int32) (x4 : Int32) (x5 : Int64) (x7 : Int64) (x9 : Int32) (H : Heap) (locs : List Loc) (ls : Array Slot), rec62 z x1 x2 x3 x4 x5 x7 x9 → va_P D vwCl (WM q ad z) H → va_S A s.heap H locs → lv_has ls 13 [(0, .ref (ad 0)), (1, .int x1), (2, .int x2), (3, .int x3), (4, .int x4), (5, .long x5), (7, .long x7), (9, .int x9)] → W p l e (headSpec (cW yX8_byMagpies cX8_byMagpies 13 (some .long)) ({ frames := 4, cells := 0, slots := 0, locals := 88 } : Room)).room s m args below meth c H locs 0 0 (MQ below (va_Ql post (gB D vwCl (WM q ad) (mE D q)) A) args s 0 0 A) (F0 m 62 ls [])) (n : Nat) (z : MX) (x1 : Int32) (x2 : Int32) (x3 : Int32) (x4 : Int32) (x5 : Int64) (x7 : Int64) (x9 : Int32) (x10 : Int64) (x12 : Int32) (H : Heap) (locs : List Loc) (ls : Array Slot), pX8_byMagpies_L87  rec62 post n z x1 x2 x3 x4 x5 x7 x9 x10 x12 → va_P D vwCl (WM q ad z) H → va_S A s.heap H locs → lv_has ls 13 [(0, .ref (ad 0)), (1, .int x1), (2, .int x2), (3, .int x3), (4, .int x4), (5, .long x5), (7, .long x7), (9, .int x9), (10, .long x10), (12, .int x12)] → W p l e (headSpec (cW yX8_byMagpies cX8_byMagpies 13 (some .long)) ({ frames := 4, cells := 0, slots := 0, locals := 88 } : Room)).room s m args below meth c H locs 0 0 (MQ below (va_Ql post (gB D vwCl (WM q ad) (mE D q)) A) args s 0 0 A) (F0 m 87 ls []) := by
    intro rec62 hrec62 n
    induction n with
    | zero =>
      intro z x1 x2 x3 x4 x5 x7 x9 x10 x12 H locs ls h
      exact False.elim h
    | succ n ih =>
      intro z x1 x2 x3 x4 x5 x7 x9 x10 x12 H locs ls h hP hS hl
      exact B87 rec62 (pX8_byMagpies_L87  rec62 post n) hrec62 ih z x1 x2 x3 x4 x5 x7 x9 x10 x12 H locs ls h hP hS hl
  have B62 : ∀ (rec62 : MX → Int32 → Int32 → Int32 → Int32 → Int64 → Int64 → Int32 → Prop) (hrec62 : ∀ (z : MX) (x1 : Int32) (x2 : Int32) (x3 : Int32) (x4 : Int32) (x5 : Int64) (x7 : Int64) (x9 : Int32) (H : Heap) (locs : List Loc) (ls : Array Slot), rec62 z x1 x2 x3 x4 x5 x7 x9 → va_P D vwCl (WM q ad z) H → va_S A s.heap H locs → lv_has ls 13 [(0, .ref (ad 0)), (1, .int x1), (2, .int x2), (3, .int x3), (4, .int x4), (5, .long x5), (7, .long x7), (9, .int x9)] → W p l e (headSpec (cW yX8_byMagpies cX8_byMagpies 13 (some .long)) ({ frames := 4, cells := 0, slots := 0, locals := 88 } : Room)).room s m args below meth c H locs 0 0 (MQ below (va_Ql post (gB D vwCl (WM q ad) (mE D q)) A) args s 0 0 A) (F0 m 62 ls [])) (z : MX) (x1 : Int32) (x2 : Int32) (x3 : Int32) (x4 : Int32) (x5 : Int64) (x7 : Int64) (x9 : Int32) (H : Heap) (locs : List Loc) (ls : Array Slot), pX8_byMagpies_l62  rec62 post z x1 x2 x3 x4 x5 x7 x9 → va_P D vwCl (WM q ad z) H → va_S A s.heap H locs → lv_has ls 13 [(0, .ref (ad 0)), (1, .int x1), (2, .int x2), (3, .int x3), (4, .int x4), (5, .long x5), (7, .long x7), (9, .int x9)] → W p l e (headSpec (cW yX8_byMagpies cX8_byMagpies 13 (some .long)) ({ frames := 4, cells := 0, slots := 0, locals := 88 } : Room)).room s m args below meth c H locs 0 0 (MQ below (va_Ql post (gB D vwCl (WM q ad) (mE D q)) A) args s 0 0 A) (F0 m 62 ls []) := by
    intro rec62 hrec62 z x1 x2 x3 x4 x5 x7 x9 H locs ls h hP hS hl
    unfold pX8_byMagpies_l62 at h
    refine lv_iload hx hb dX8_byMagpies_62 (lv_at hl 7 rfl) ?_
    refine lv_iconst (v := (1 : Int32)) hx hb dX8_byMagpies_64 (by decide) ?_
    refine lv_aload_n hx hb dX8_byMagpies_65 rfl (lv_at hl 0 rfl) ?_
    refine va_get (D := D) (ci := 8) (v := .int (z.1 0 1)) (C := RX8) (T := TX8) (N := 45) hx hb ht tl_X8 hown hK hP 0 (wm_0 q ad z) rfl 1 (by decide) (ht _ tw_fl_X8_13) (fun _ h9 => h9) rfl dX8_byMagpies_66 ?_
    refine lv_ishl hx hb dX8_byMagpies_69 ?_
    refine lv_icmp_ge (tgt := 200) hx hb dX8_byMagpies_70 (by decide) (fun c70 => ?_) (fun c70 => ?_)
    · have h := h.1 c70
      refine lv_lload hx hb dX8_byMagpies_200 (lv_at hl 5 rfl) ?_
      refine lv_lload hx hb dX8_byMagpies_202 (lv_at hl 6 rfl) ?_
      refine lv_iload_n hx hb dX8_byMagpies_204 rfl (lv_at hl 3 rfl) ?_
      refine g_cSl (Wd := WM q ad) (z := z) (As := [.long x5, .long x7, .int x3]) (rest := []) hG S (kX8_lowest l D q ad A hD z x5 x7 x3 _ h) (va_cwS 3 ht (cW_S (fun _ h => h) tw_co_X8_lowest tw_ml_X8_267 tw_st_X8_lowest tw_in_X8) rfl rfl rfl (by decide +kernel) ⟨by decide, by decide⟩) hE hP hS rfl hl.1 rfl (Nat.le_of_ble_eq_true rfl) dX8_byMagpies_205 ⟨Nat.zero_le _, Nat.zero_le _⟩ (fun r205 z205 H locs h hP hS => ?_)
      exact g_rl hG hx hb hr hlocks hE hP hS h dX8_byMagpies_208
    · have h := h.2 c70
      refine lv_iload hx hb dX8_byMagpies_73 (lv_at hl 7 rfl) ?_
      refine lv_iload hx hb dX8_byMagpies_75 (lv_at hl 4 rfl) ?_
      refine lv_iand hx hb dX8_byMagpies_77 ?_
      refine lv_if_ne (tgt := 194) hx hb dX8_byMagpies_78 (by decide) (fun c78 => ?_) (fun c78 => ?_)
      · have h := h.1 c78
        exact B194 rec62 hrec62 z x1 x2 x3 x4 x5 x7 x9 _ _ _ h hP hS (lv_sub hl [0, 1, 2, 3, 4, 5, 6, 7] rfl)
      · have h := h.2 c78
        refine lv_lconst (v := (1 : Int64)) hx hb dX8_byMagpies_81 (by decide) ?_
        refine lv_lstore (lv' := [(10, .long (1 : Int64)), (0, .ref (ad 0)), (1, .int x1), (2, .int x2), (3, .int x3), (4, .int x4), (5, .long x5), (7, .long x7), (9, .int x9)]) hx hb dX8_byMagpies_82 hl (by decide) rfl (fun ls hl => ?_)
        refine lv_iconst (v := (0 : Int32)) hx hb dX8_byMagpies_84 (by decide) ?_
        refine lv_istore (lv' := [(12, .int (0 : Int32)), (10, .long (1 : Int64)), (0, .ref (ad 0)), (1, .int x1), (2, .int x2), (3, .int x3), (4, .int x4), (5, .long x5), (7, .long x7), (9, .int x9)]) hx hb dX8_byMagpies_85 hl (by decide) rfl (fun ls hl => ?_)
        obtain ⟨n, h⟩ := h
        exact L87 rec62 hrec62 n z x1 x2 x3 x4 x5 x7 x9 (1 : Int64) (0 : Int32) _ _ _ h hP hS (lv_sub hl [2, 3, 4, 5, 6, 7, 8, 9, 1, 0] rfl)
  have L62 : ∀ (n : Nat) (z : MX) (x1 : Int32) (x2 : Int32) (x3 : Int32) (x4 : Int32) (x5 : Int64) (x7 : Int64) (x9 : Int32) (H : Heap) (locs : List Loc) (ls : Array Slot), pX8_byMagpies_L62  post n z x1 x2 x3 x4 x5 x7 x9 → va_P D vwCl (WM q ad z) H → va_S A s.heap H locs → lv_has ls 13 [(0, .ref (ad 0)), (1, .int x1), (2, .int x2), (3, .int x3), (4, .int x4), (5, .long x5), (7, .long x7), (9, .int x9)] → W p l e (headSpec (cW yX8_byMagpies cX8_byMagpies 13 (some .long)) ({ frames := 4, cells := 0, slots := 0, locals := 88 } : Room)).room s m args below meth c H locs 0 0 (MQ below (va_Ql post (gB D vwCl (WM q ad) (mE D q)) A) args s 0 0 A) (F0 m 62 ls []) := by
    intro n
    induction n with
    | zero =>
      intro z x1 x2 x3 x4 x5 x7 x9 H locs ls h
      exact False.elim h
    | succ n ih =>
      intro z x1 x2 x3 x4 x5 x7 x9 H locs ls h hP hS hl
      exact B62 (pX8_byMagpies_L62  post n) ih z x1 x2 x3 x4 x5 x7 x9 H locs ls h hP hS hl
  have B43 : ∀ (rec15 : MX → Int32 → Int32 → Int32 → Int32 → Int64 → Int64 → Int32 → Prop) (hrec15 : ∀ (z : MX) (x1 : Int32) (x2 : Int32) (x3 : Int32) (x4 : Int32) (x5 : Int64) (x7 : Int64) (x9 : Int32) (H : Heap) (locs : List Loc) (ls : Array Slot), rec15 z x1 x2 x3 x4 x5 x7 x9 → va_P D vwCl (WM q ad z) H → va_S A s.heap H locs → lv_has ls 13 [(0, .ref (ad 0)), (1, .int x1), (2, .int x2), (3, .int x3), (4, .int x4), (5, .long x5), (7, .long x7), (9, .int x9)] → W p l e (headSpec (cW yX8_byMagpies cX8_byMagpies 13 (some .long)) ({ frames := 4, cells := 0, slots := 0, locals := 88 } : Room)).room s m args below meth c H locs 0 0 (MQ below (va_Ql post (gB D vwCl (WM q ad) (mE D q)) A) args s 0 0 A) (F0 m 15 ls [])) (z : MX) (x1 : Int32) (x2 : Int32) (x3 : Int32) (x4 : Int32) (x5 : Int64) (x9 : Int32) (y0 : Int64) (y1 : Int64) (H : Heap) (locs : List Loc) (ls : Array Slot), pX8_byMagpies_b43  rec15 post z x1 x2 x3 x4 x5 x9 y0 y1 → va_P D vwCl (WM q ad z) H → va_S A s.heap H locs → lv_has ls 13 [(0, .ref (ad 0)), (1, .int x1), (2, .int x2), (3, .int x3), (4, .int x4), (5, .long x5), (9, .int x9)] → W p l e (headSpec (cW yX8_byMagpies cX8_byMagpies 13 (some .long)) ({ frames := 4, cells := 0, slots := 0, locals := 88 } : Room)).room s m args below meth c H locs 0 0 (MQ below (va_Ql post (gB D vwCl (WM q ad) (mE D q)) A) args s 0 0 A) (F0 m 43 ls [.long y1, .long y0]) := by
    intro rec15 hrec15 z x1 x2 x3 x4 x5 x9 y0 y1 H locs ls h hP hS hl
    unfold pX8_byMagpies_b43 at h
    refine lv_lmul hx hb dX8_byMagpies_43 ?_
    refine lv_topl (fun x7_44 ex7_44 => ?_)
    have h := h x7_44 ex7_44
    refine lv_lstore (lv' := [(7, .long x7_44), (0, .ref (ad 0)), (1, .int x1), (2, .int x2), (3, .int x3), (4, .int x4), (5, .long x5), (9, .int x9)]) hx hb dX8_byMagpies_44 hl (by decide) rfl (fun ls hl => ?_)
    obtain ⟨x9_46, ex9_46⟩ : ∃ w : Int32, w = x9 + (1 : Int32) := ⟨_, rfl⟩
    have h := h x9_46 ex9_46
    refine lv_iinc (v := x9_46) (lv' := [(9, .int x9_46), (7, .long x7_44), (0, .ref (ad 0)), (1, .int x1), (2, .int x2), (3, .int x3), (4, .int x4), (5, .long x5)]) hx hb dX8_byMagpies_46 hl (k := 7) rfl (by rw [ex9_46]; rfl) (by decide) rfl (fun ls hl => ?_)
    refine lv_goto (tgt := 15) hx hb dX8_byMagpies_49 (by decide) ?_
    exact hrec15 z x1 x2 x3 x4 x5 x7_44 x9_46 _ _ _ h hP hS (lv_sub hl [2, 3, 4, 5, 6, 7, 1, 0] rfl)
  have B15 : ∀ (rec15 : MX → Int32 → Int32 → Int32 → Int32 → Int64 → Int64 → Int32 → Prop) (hrec15 : ∀ (z : MX) (x1 : Int32) (x2 : Int32) (x3 : Int32) (x4 : Int32) (x5 : Int64) (x7 : Int64) (x9 : Int32) (H : Heap) (locs : List Loc) (ls : Array Slot), rec15 z x1 x2 x3 x4 x5 x7 x9 → va_P D vwCl (WM q ad z) H → va_S A s.heap H locs → lv_has ls 13 [(0, .ref (ad 0)), (1, .int x1), (2, .int x2), (3, .int x3), (4, .int x4), (5, .long x5), (7, .long x7), (9, .int x9)] → W p l e (headSpec (cW yX8_byMagpies cX8_byMagpies 13 (some .long)) ({ frames := 4, cells := 0, slots := 0, locals := 88 } : Room)).room s m args below meth c H locs 0 0 (MQ below (va_Ql post (gB D vwCl (WM q ad) (mE D q)) A) args s 0 0 A) (F0 m 15 ls [])) (z : MX) (x1 : Int32) (x2 : Int32) (x3 : Int32) (x4 : Int32) (x5 : Int64) (x7 : Int64) (x9 : Int32) (H : Heap) (locs : List Loc) (ls : Array Slot), pX8_byMagpies_l15  rec15 post z x1 x2 x3 x4 x5 x7 x9 → va_P D vwCl (WM q ad z) H → va_S A s.heap H locs → lv_has ls 13 [(0, .ref (ad 0)), (1, .int x1), (2, .int x2), (3, .int x3), (4, .int x4), (5, .long x5), (7, .long x7), (9, .int x9)] → W p l e (headSpec (cW yX8_byMagpies cX8_byMagpies 13 (some .long)) ({ frames := 4, cells := 0, slots := 0, locals := 88 } : Room)).room s m args below meth c H locs 0 0 (MQ below (va_Ql post (gB D vwCl (WM q ad) (mE D q)) A) args s 0 0 A) (F0 m 15 ls []) := by
    intro rec15 hrec15 z x1 x2 x3 x4 x5 x7 x9 H locs ls h hP hS hl
    unfold pX8_byMagpies_l15 at h
    refine lv_iload hx hb dX8_byMagpies_15 (lv_at hl 7 rfl) ?_
    refine lv_aload_n hx hb dX8_byMagpies_17 rfl (lv_at hl 0 rfl) ?_
    refine va_get (D := D) (ci := 8) (v := .int (z.1 0 1)) (C := RX8) (T := TX8) (N := 45) hx hb ht tl_X8 hown hK hP 0 (wm_0 q ad z) rfl 1 (by decide) (ht _ tw_fl_X8_13) (fun _ h9 => h9) rfl dX8_byMagpies_18 ?_
    refine lv_icmp_ge (tgt := 52) hx hb dX8_byMagpies_21 (by decide) (fun c21 => ?_) (fun c21 => ?_)
    · have h := h.1 c21
      refine lv_aload_n hx hb dX8_byMagpies_52 rfl (lv_at hl 0 rfl) ?_
      refine lv_iconst (v := (0 : Int32)) hx hb dX8_byMagpies_53 (by decide) ?_
      refine lv_bipush (v := (100 : Int32)) hx hb dX8_byMagpies_54 (by decide) ?_
      refine g_cVv (Wd := WM q ad) (z := z) (As := [.int (0 : Int32), .int (100 : Int32)]) (rest := []) hG S (kX8_copies l D q ad A hD z (0 : Int32) (100 : Int32) _ h) (cwV 2 ht (cW_V (fun _ h => h) tw_co_X8_copies tw_ml_X8_255 tw_im_X8_copies tw_se_X8_copies tw_in_X8) rfl rfl rfl (by decide +kernel) ⟨by decide, by decide⟩) (va_recv hK hP (ci := 8) (q0 := 0) rfl (wm_0 q ad z)) hE hP hS rfl hl.1 rfl (Nat.le_of_ble_eq_true rfl) dX8_byMagpies_56 ⟨Nat.zero_le _, Nat.zero_le _⟩ (fun z56 H locs h hP hS => ?_)
      refine lv_iconst (v := (0 : Int32)) hx hb dX8_byMagpies_59 (by decide) ?_
      refine lv_istore (lv' := [(9, .int (0 : Int32)), (0, .ref (ad 0)), (1, .int x1), (2, .int x2), (3, .int x3), (4, .int x4), (5, .long x5), (7, .long x7)]) hx hb dX8_byMagpies_60 hl (by decide) rfl (fun ls hl => ?_)
      obtain ⟨n, h⟩ := h
      exact L62 n z56 x1 x2 x3 x4 x5 x7 (0 : Int32) _ _ _ h hP hS (lv_sub hl [1, 2, 3, 4, 5, 6, 7, 0] rfl)
    · have h := h.2 c21
      refine lv_lload hx hb dX8_byMagpies_24 (lv_at hl 6 rfl) ?_
      refine lv_iload hx hb dX8_byMagpies_26 (lv_at hl 4 rfl) ?_
      refine lv_iload hx hb dX8_byMagpies_28 (lv_at hl 7 rfl) ?_
      refine lv_ishr hx hb dX8_byMagpies_30 ?_
      refine lv_iconst (v := (1 : Int32)) hx hb dX8_byMagpies_31 (by decide) ?_
      refine lv_iand hx hb dX8_byMagpies_32 ?_
      refine lv_if_ne (tgt := 42) hx hb dX8_byMagpies_33 (by decide) (fun c33 => ?_) (fun c33 => ?_)
      · have h := h.1 c33
        refine lv_lconst (v := (1 : Int64)) hx hb dX8_byMagpies_42 (by decide) ?_
        exact B43 rec15 hrec15 z x1 x2 x3 x4 x5 x9 x7 (1 : Int64) _ _ _ h hP hS (lv_sub hl [0, 1, 2, 3, 4, 5, 7] rfl)
      · have h := h.2 c33
        refine lv_ldc2 (v := (10 : Int64)) hx hb hown (ht _ tw_cn_X8_150) dX8_byMagpies_36 ?_
        refine lv_goto (tgt := 43) hx hb dX8_byMagpies_39 (by decide) ?_
        exact B43 rec15 hrec15 z x1 x2 x3 x4 x5 x9 x7 (10 : Int64) _ _ _ h hP hS (lv_sub hl [0, 1, 2, 3, 4, 5, 7] rfl)
  have L15 : ∀ (n : Nat) (z : MX) (x1 : Int32) (x2 : Int32) (x3 : Int32) (x4 : Int32) (x5 : Int64) (x7 : Int64) (x9 : Int32) (H : Heap) (locs : List Loc) (ls : Array Slot), pX8_byMagpies_L15  post n z x1 x2 x3 x4 x5 x7 x9 → va_P D vwCl (WM q ad z) H → va_S A s.heap H locs → lv_has ls 13 [(0, .ref (ad 0)), (1, .int x1), (2, .int x2), (3, .int x3), (4, .int x4), (5, .long x5), (7, .long x7), (9, .int x9)] → W p l e (headSpec (cW yX8_byMagpies cX8_byMagpies 13 (some .long)) ({ frames := 4, cells := 0, slots := 0, locals := 88 } : Room)).room s m args below meth c H locs 0 0 (MQ below (va_Ql post (gB D vwCl (WM q ad) (mE D q)) A) args s 0 0 A) (F0 m 15 ls []) := by
    intro n
    induction n with
    | zero =>
      intro z x1 x2 x3 x4 x5 x7 x9 H locs ls h
      exact False.elim h
    | succ n ih =>
      intro z x1 x2 x3 x4 x5 x7 x9 H locs ls h hP hS hl
      exact B15 (pX8_byMagpies_L15  post n) ih z x1 x2 x3 x4 x5 x7 x9 H locs ls h hP hS hl
  refine g_entry (vs := [.ref (ad 0), .int x1, .int x2, .int x3]) hargs (Nat.le_of_ble_eq_true rfl) (fun ls hl => ?_)
  have hl : lv_has ls 13 [(0, .ref (ad 0)), (1, .int x1), (2, .int x2), (3, .int x3)] := hl
  unfold pX8_byMagpies at h
  refine lv_aload_n hx hb dX8_byMagpies_0 rfl (lv_at hl 0 rfl) ?_
  refine g_cVi (Wd := WM q ad) (z := z) (As := []) (rest := []) hG S (kX8_omens l D q ad A hD z _ h) (cwV 0 ht (cW_V (fun _ h => h) tw_co_X8_omens tw_ml_X8_182 tw_im_X8_omens tw_se_X8_omens tw_in_X8) rfl rfl rfl (by decide +kernel) ⟨by decide, by decide⟩) (va_recv hK hP (ci := 8) (q0 := 0) rfl (wm_0 q ad z)) hE hP hS rfl hl.1 rfl (Nat.le_of_ble_eq_true rfl) dX8_byMagpies_1 ⟨Nat.zero_le _, Nat.zero_le _⟩ (fun r1 z1 H locs h hP hS => ?_)
  refine lv_istore (lv' := [(4, .int r1), (0, .ref (ad 0)), (1, .int x1), (2, .int x2), (3, .int x3)]) hx hb dX8_byMagpies_4 hl (by decide) rfl (fun ls hl => ?_)
  refine lv_lconst (v := (0 : Int64)) hx hb dX8_byMagpies_6 (by decide) ?_
  refine lv_lstore (lv' := [(5, .long (0 : Int64)), (4, .int r1), (0, .ref (ad 0)), (1, .int x1), (2, .int x2), (3, .int x3)]) hx hb dX8_byMagpies_7 hl (by decide) rfl (fun ls hl => ?_)
  refine lv_lconst (v := (1 : Int64)) hx hb dX8_byMagpies_9 (by decide) ?_
  refine lv_lstore (lv' := [(7, .long (1 : Int64)), (5, .long (0 : Int64)), (4, .int r1), (0, .ref (ad 0)), (1, .int x1), (2, .int x2), (3, .int x3)]) hx hb dX8_byMagpies_10 hl (by decide) rfl (fun ls hl => ?_)
  refine lv_iconst (v := (0 : Int32)) hx hb dX8_byMagpies_12 (by decide) ?_
  refine lv_istore (lv' := [(9, .int (0 : Int32)), (7, .long (1 : Int64)), (5, .long (0 : Int64)), (4, .int r1), (0, .ref (ad 0)), (1, .int x1), (2, .int x2), (3, .int x3)]) hx hb dX8_byMagpies_13 hl (by decide) rfl (fun ls hl => ?_)
  obtain ⟨n, h⟩ := h
  exact L15 n z1 x1 x2 x3 r1 (0 : Int64) (1 : Int64) (0 : Int32) _ _ _ h hP hS (lv_sub hl [4, 5, 6, 7, 3, 2, 1, 0] rfl)
def pX8_mean (z : MX) (x1 : Int32) (x2 : Int32) (post : Int64 → MX → Prop) : Prop :=
  pX8_in z (Int32.toInt64 x1) (0 : Int64) (10 : Int64) (fun (r6 : Int32) (z6 : MX) =>
  ((r6 = 0 →
    post (-1 : Int64) z6) ∧
  (¬ r6 = 0 →
    pX8_in z6 (Int32.toInt64 x2) (0 : Int64) (1 : Int64) (fun (r16 : Int32) (z16 : MX) =>
    ((r16 = 0 →
      post (-1 : Int64) z16) ∧
    (¬ r16 = 0 →
      pX8_byMagpies z16 x1 (1 : Int32) x2 (fun (r26 : Int64) (z26 : MX) =>
      post r26 z26)))))))
set_option maxHeartbeats 4000000 in
set_option maxRecDepth 100000 in
theorem kX8_mean (l : Launch) (D : va_G) (q : Nat → ClassId) (ad : Nat → Nat) (A : Nat → Prop) (hD : ∀ z, va_D A (WM q ad z)) (z : MX) (x1 : Int32) (x2 : Int32) (post : Int64 → MX → Prop) (h : pX8_mean  z x1 x2 post) : Met l yX8_mean (cW yX8_mean cX8_mean 3 (some .long)) ({ frames := 5, cells := 0, slots := 0, locals := 120 } : Room) (va_Pc [.ref (ad 0), .int x1, .int x2] ((gB D vwCl (WM q ad) (mE D q)) z)) (va_Ql post (gB D vwCl (WM q ad) (mE D q)) A) 0 0 A := by
  refine Met.ofW (cc := cX8_mean) (maxL := 3) (ret := (some .long)) (by decide) rfl ?_
  intro p e s m args below meth c s₁ B hml hv
  obtain ⟨hargs, hP, hE⟩ := hv
  have hx := B.exec
  have hb := B.bytes
  have hr := B.returns
  have hts := atoms_spec (ws := (cW yX8_mean cX8_mean 3 (some .long))) B.pre
  have ht : ∀ w ∈ tG, w.before args s = true := fun w h => hts w (List.mem_cons_of_mem _ h)
  have hown : s.vm.findClass RX8 = some m.cls := findClass_of_methodNamed B.named
  have hlocks := B.notSynchronized
  have hK := hE.1
  have hG := mE_G D q A
  have S : CallFix p m c cX8_mean 3 s args tG RX8 := ⟨hx, hb, hml, hown, ht⟩
  have hS : va_S A s.heap s.heap [] := va_S.rf
  refine g_entry (vs := [.ref (ad 0), .int x1, .int x2]) hargs (Nat.le_of_ble_eq_true rfl) (fun ls hl => ?_)
  have hl : lv_has ls 3 [(0, .ref (ad 0)), (1, .int x1), (2, .int x2)] := hl
  unfold pX8_mean at h
  refine lv_iload_n hx hb dX8_mean_0 rfl (lv_at hl 1 rfl) ?_
  refine lv_i2l hx hb dX8_mean_1 rfl ?_
  refine lv_lconst (v := (0 : Int64)) hx hb dX8_mean_2 (by decide) ?_
  refine lv_ldc2 (v := (10 : Int64)) hx hb hown (ht _ tw_cn_X8_150) dX8_mean_3 ?_
  refine g_cSi (Wd := WM q ad) (z := z) (As := [.long (Int32.toInt64 x1), .long (0 : Int64), .long (10 : Int64)]) (rest := []) hG S (kX8_in l D q ad A hD z (Int32.toInt64 x1) (0 : Int64) (10 : Int64) _ h) (va_cwS 3 ht (cW_S (fun _ h => h) tw_co_X8_in tw_ml_X8_74 tw_st_X8_in tw_in_X8) rfl rfl rfl (by decide +kernel) ⟨by decide, by decide⟩) hE hP hS rfl hl.1 rfl (Nat.le_of_ble_eq_true rfl) dX8_mean_6 ⟨Nat.zero_le _, Nat.zero_le _⟩ (fun r6 z6 H locs h hP hS => ?_)
  refine lv_if_eq (tgt := 32) hx hb dX8_mean_9 (by decide) (fun c9 => ?_) (fun c9 => ?_)
  · have h := h.1 c9
    refine lv_ldc2 (v := (-1 : Int64)) hx hb hown (ht _ tw_cn_X8_275) dX8_mean_32 ?_
    exact g_rl hG hx hb hr hlocks hE hP hS h dX8_mean_35
  · have h := h.2 c9
    refine lv_iload_n hx hb dX8_mean_12 rfl (lv_at hl 2 rfl) ?_
    refine lv_i2l hx hb dX8_mean_13 rfl ?_
    refine lv_lconst (v := (0 : Int64)) hx hb dX8_mean_14 (by decide) ?_
    refine lv_lconst (v := (1 : Int64)) hx hb dX8_mean_15 (by decide) ?_
    refine g_cSi (Wd := WM q ad) (z := z6) (As := [.long (Int32.toInt64 x2), .long (0 : Int64), .long (1 : Int64)]) (rest := []) hG S (kX8_in l D q ad A hD z6 (Int32.toInt64 x2) (0 : Int64) (1 : Int64) _ h) (va_cwS 3 ht (cW_S (fun _ h => h) tw_co_X8_in tw_ml_X8_74 tw_st_X8_in tw_in_X8) rfl rfl rfl (by decide +kernel) ⟨by decide, by decide⟩) hE hP hS rfl hl.1 rfl (Nat.le_of_ble_eq_true rfl) dX8_mean_16 ⟨Nat.zero_le _, Nat.zero_le _⟩ (fun r16 z16 H locs h hP hS => ?_)
    refine lv_if_eq (tgt := 32) hx hb dX8_mean_19 (by decide) (fun c19 => ?_) (fun c19 => ?_)
    · have h := h.1 c19
      refine lv_ldc2 (v := (-1 : Int64)) hx hb hown (ht _ tw_cn_X8_275) dX8_mean_32 ?_
      exact g_rl hG hx hb hr hlocks hE hP hS h dX8_mean_35
    · have h := h.2 c19
      refine lv_aload_n hx hb dX8_mean_22 rfl (lv_at hl 0 rfl) ?_
      refine lv_iload_n hx hb dX8_mean_23 rfl (lv_at hl 1 rfl) ?_
      refine lv_iconst (v := (1 : Int32)) hx hb dX8_mean_24 (by decide) ?_
      refine lv_iload_n hx hb dX8_mean_25 rfl (lv_at hl 2 rfl) ?_
      refine g_cVl (Wd := WM q ad) (z := z16) (As := [.int x1, .int (1 : Int32), .int x2]) (rest := []) hG S (kX8_byMagpies l D q ad A hD z16 x1 (1 : Int32) x2 _ h) (cwV 3 ht (cW_V (fun _ h => h) tw_co_X8_byMagpies tw_ml_X8_271 tw_im_X8_byMagpies tw_se_X8_byMagpies tw_in_X8) rfl rfl rfl (by decide +kernel) ⟨by decide, by decide⟩) (va_recv hK hP (ci := 8) (q0 := 0) rfl (wm_0 q ad z16)) hE hP hS rfl hl.1 rfl (Nat.le_of_ble_eq_true rfl) dX8_mean_26 ⟨Nat.zero_le _, Nat.zero_le _⟩ (fun r26 z26 H locs h hP hS => ?_)
      refine lv_goto (tgt := 35) hx hb dX8_mean_29 (by decide) ?_
      exact g_rl hG hx hb hr hlocks hE hP hS h dX8_mean_35
def pX8_luck (z : MX) (x1 : Int32) (x2 : Int32) (post : Int64 → MX → Prop) : Prop :=
  pX8_in z (Int32.toInt64 x1) (0 : Int64) (10 : Int64) (fun (r6 : Int32) (z6 : MX) =>
  ((r6 = 0 →
    post (-1 : Int64) z6) ∧
  (¬ r6 = 0 →
    pX8_in z6 (Int32.toInt64 x2) (0 : Int64) (1 : Int64) (fun (r16 : Int32) (z16 : MX) =>
    ((r16 = 0 →
      post (-1 : Int64) z16) ∧
    (¬ r16 = 0 →
      pX8_byMagpies z16 x1 (0 : Int32) x2 (fun (r26 : Int64) (z26 : MX) =>
      post r26 z26)))))))
set_option maxHeartbeats 4000000 in
set_option maxRecDepth 100000 in
theorem kX8_luck (l : Launch) (D : va_G) (q : Nat → ClassId) (ad : Nat → Nat) (A : Nat → Prop) (hD : ∀ z, va_D A (WM q ad z)) (z : MX) (x1 : Int32) (x2 : Int32) (post : Int64 → MX → Prop) (h : pX8_luck  z x1 x2 post) : Met l yX8_luck (cW yX8_luck cX8_luck 3 (some .long)) ({ frames := 5, cells := 0, slots := 0, locals := 120 } : Room) (va_Pc [.ref (ad 0), .int x1, .int x2] ((gB D vwCl (WM q ad) (mE D q)) z)) (va_Ql post (gB D vwCl (WM q ad) (mE D q)) A) 0 0 A := by
  refine Met.ofW (cc := cX8_luck) (maxL := 3) (ret := (some .long)) (by decide) rfl ?_
  intro p e s m args below meth c s₁ B hml hv
  obtain ⟨hargs, hP, hE⟩ := hv
  have hx := B.exec
  have hb := B.bytes
  have hr := B.returns
  have hts := atoms_spec (ws := (cW yX8_luck cX8_luck 3 (some .long))) B.pre
  have ht : ∀ w ∈ tG, w.before args s = true := fun w h => hts w (List.mem_cons_of_mem _ h)
  have hown : s.vm.findClass RX8 = some m.cls := findClass_of_methodNamed B.named
  have hlocks := B.notSynchronized
  have hK := hE.1
  have hG := mE_G D q A
  have S : CallFix p m c cX8_luck 3 s args tG RX8 := ⟨hx, hb, hml, hown, ht⟩
  have hS : va_S A s.heap s.heap [] := va_S.rf
  refine g_entry (vs := [.ref (ad 0), .int x1, .int x2]) hargs (Nat.le_of_ble_eq_true rfl) (fun ls hl => ?_)
  have hl : lv_has ls 3 [(0, .ref (ad 0)), (1, .int x1), (2, .int x2)] := hl
  unfold pX8_luck at h
  refine lv_iload_n hx hb dX8_luck_0 rfl (lv_at hl 1 rfl) ?_
  refine lv_i2l hx hb dX8_luck_1 rfl ?_
  refine lv_lconst (v := (0 : Int64)) hx hb dX8_luck_2 (by decide) ?_
  refine lv_ldc2 (v := (10 : Int64)) hx hb hown (ht _ tw_cn_X8_150) dX8_luck_3 ?_
  refine g_cSi (Wd := WM q ad) (z := z) (As := [.long (Int32.toInt64 x1), .long (0 : Int64), .long (10 : Int64)]) (rest := []) hG S (kX8_in l D q ad A hD z (Int32.toInt64 x1) (0 : Int64) (10 : Int64) _ h) (va_cwS 3 ht (cW_S (fun _ h => h) tw_co_X8_in tw_ml_X8_74 tw_st_X8_in tw_in_X8) rfl rfl rfl (by decide +kernel) ⟨by decide, by decide⟩) hE hP hS rfl hl.1 rfl (Nat.le_of_ble_eq_true rfl) dX8_luck_6 ⟨Nat.zero_le _, Nat.zero_le _⟩ (fun r6 z6 H locs h hP hS => ?_)
  refine lv_if_eq (tgt := 32) hx hb dX8_luck_9 (by decide) (fun c9 => ?_) (fun c9 => ?_)
  · have h := h.1 c9
    refine lv_ldc2 (v := (-1 : Int64)) hx hb hown (ht _ tw_cn_X8_275) dX8_luck_32 ?_
    exact g_rl hG hx hb hr hlocks hE hP hS h dX8_luck_35
  · have h := h.2 c9
    refine lv_iload_n hx hb dX8_luck_12 rfl (lv_at hl 2 rfl) ?_
    refine lv_i2l hx hb dX8_luck_13 rfl ?_
    refine lv_lconst (v := (0 : Int64)) hx hb dX8_luck_14 (by decide) ?_
    refine lv_lconst (v := (1 : Int64)) hx hb dX8_luck_15 (by decide) ?_
    refine g_cSi (Wd := WM q ad) (z := z6) (As := [.long (Int32.toInt64 x2), .long (0 : Int64), .long (1 : Int64)]) (rest := []) hG S (kX8_in l D q ad A hD z6 (Int32.toInt64 x2) (0 : Int64) (1 : Int64) _ h) (va_cwS 3 ht (cW_S (fun _ h => h) tw_co_X8_in tw_ml_X8_74 tw_st_X8_in tw_in_X8) rfl rfl rfl (by decide +kernel) ⟨by decide, by decide⟩) hE hP hS rfl hl.1 rfl (Nat.le_of_ble_eq_true rfl) dX8_luck_16 ⟨Nat.zero_le _, Nat.zero_le _⟩ (fun r16 z16 H locs h hP hS => ?_)
    refine lv_if_eq (tgt := 32) hx hb dX8_luck_19 (by decide) (fun c19 => ?_) (fun c19 => ?_)
    · have h := h.1 c19
      refine lv_ldc2 (v := (-1 : Int64)) hx hb hown (ht _ tw_cn_X8_275) dX8_luck_32 ?_
      exact g_rl hG hx hb hr hlocks hE hP hS h dX8_luck_35
    · have h := h.2 c19
      refine lv_aload_n hx hb dX8_luck_22 rfl (lv_at hl 0 rfl) ?_
      refine lv_iload_n hx hb dX8_luck_23 rfl (lv_at hl 1 rfl) ?_
      refine lv_iconst (v := (0 : Int32)) hx hb dX8_luck_24 (by decide) ?_
      refine lv_iload_n hx hb dX8_luck_25 rfl (lv_at hl 2 rfl) ?_
      refine g_cVl (Wd := WM q ad) (z := z16) (As := [.int x1, .int (0 : Int32), .int x2]) (rest := []) hG S (kX8_byMagpies l D q ad A hD z16 x1 (0 : Int32) x2 _ h) (cwV 3 ht (cW_V (fun _ h => h) tw_co_X8_byMagpies tw_ml_X8_271 tw_im_X8_byMagpies tw_se_X8_byMagpies tw_in_X8) rfl rfl rfl (by decide +kernel) ⟨by decide, by decide⟩) (va_recv hK hP (ci := 8) (q0 := 0) rfl (wm_0 q ad z16)) hE hP hS rfl hl.1 rfl (Nat.le_of_ble_eq_true rfl) dX8_luck_26 ⟨Nat.zero_le _, Nat.zero_le _⟩ (fun r26 z26 H locs h hP hS => ?_)
      refine lv_goto (tgt := 35) hx hb dX8_luck_29 (by decide) ?_
      exact g_rl hG hx hb hr hlocks hE hP hS h dX8_luck_35
