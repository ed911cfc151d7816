def pX5_append (z : MX) (x1 : Int32) (post : Int32 → MX → Prop) : Prop :=
  (((z.1 24 1) < (160 : Int32) →
    vp_in (z.1 24 1) 160 ∧
    ∀ z21 : MX, z21 = mw z 25 (Int32.toNatClampNeg (z.1 24 1)) x1 →
    ∀ z29 : MX, z29 = mw z21 24 1 ((z21.1 24 1) + (1 : Int32)) →
    (((1 : Int32) = 0 ∨ (1 : Int32) = 1) ∧ post (1 : Int32) z29)) ∧
  (¬ (z.1 24 1) < (160 : Int32) →
    (((0 : Int32) = 0 ∨ (0 : Int32) = 1) ∧ post (0 : Int32) z)))
set_option maxHeartbeats 4000000 in
set_option maxRecDepth 100000 in
theorem kX5_append (l : Launch) (D : va_G) (q : Nat → ClassId) (ad : Nat → Nat) (A : Nat → Prop) (hD : ∀ z, va_D A (WX q ad z)) (z : MX) (x1 : Int32) (post : Int32 → MX → Prop) (h : pX5_append  z x1 post) : Met l yX5_append (cW yX5_append cX5_append 2 (some .boolean)) ({ frames := 0, cells := 0, slots := 0, locals := 0 } : Room) (va_Pc [.ref (ad 24), .int x1] ((gB D vwCl (WX q ad) (xE D q ad A)) z)) (va_Qi post (gB D vwCl (WX q ad) (xE D q ad A)) A) 0 0 A := by
  refine Met.ofW (cc := cX5_append) (maxL := 2) (ret := (some .boolean)) (by decide) rfl ?_
  intro p e s m args below meth c s₁ B hml hv
  obtain ⟨hargs, hP, hE⟩ := hv
  have hx := B.exec
  have hb := B.bytes
  have hr := B.returns
  have hts := atoms_spec (ws := (cW yX5_append cX5_append 2 (some .boolean))) B.pre
  have ht : ∀ w ∈ tG, w.before args s = true := fun w h => hts w (List.mem_cons_of_mem _ h)
  have hown : s.vm.findClass RX5 = some m.cls := findClass_of_methodNamed B.named
  have hlocks := B.notSynchronized
  have hK := hE.1
  have hG := xE_G D q ad A
  have S : CallFix p m c cX5_append 2 s args tG RX5 := ⟨hx, hb, hml, hown, ht⟩
  have hS : va_S A s.heap s.heap [] := va_S.rf
  refine g_entry (vs := [.ref (ad 24), .int x1]) hargs (Nat.le_of_ble_eq_true rfl) (fun ls hl => ?_)
  have hl : lv_has ls 2 [(0, .ref (ad 24)), (1, .int x1)] := hl
  unfold pX5_append at h
  refine lv_aload_n hx hb dX5_append_0 rfl (lv_at hl 0 rfl) ?_
  refine va_get (D := D) (ci := 5) (v := .int (z.1 24 1)) (C := RX5) (T := TX5) (N := 9) hx hb ht tl_X5 hown hK hP 24 (wx_24 q ad z) rfl 1 (by decide) (ht _ tw_fl_X5_15) (fun _ h9 => h9) rfl dX5_append_1 ?_
  refine lv_sipush (v := (160 : Int32)) hx hb dX5_append_4 (by decide) ?_
  refine lv_icmp_lt (tgt := 12) hx hb dX5_append_7 (by decide) (fun c7 => ?_) (fun c7 => ?_)
  · have h := h.1 c7
    refine lv_aload_n hx hb dX5_append_12 rfl (lv_at hl 0 rfl) ?_
    refine va_get (D := D) (ci := 5) (v := .ref (ad 25)) (C := RX5) (T := TX5) (N := 9) hx hb ht tl_X5 hown hK hP 24 (wx_24 q ad z) rfl 0 (by decide) (ht _ tw_fl_X5_9) (fun _ h9 => h9) rfl dX5_append_13 ?_
    refine lv_aload_n hx hb dX5_append_16 rfl (lv_at hl 0 rfl) ?_
    refine va_get (D := D) (ci := 5) (v := .int (z.1 24 1)) (C := RX5) (T := TX5) (N := 9) hx hb ht tl_X5 hown hK hP 24 (wx_24 q ad z) rfl 1 (by decide) (ht _ tw_fl_X5_15) (fun _ h9 => h9) rfl dX5_append_17 ?_
    refine lv_iload_n hx hb dX5_append_20 rfl (lv_at hl 1 rfl) ?_
    have hi21 := h.1
    have h := h.2
    refine g_iast (Wd := WX q ad) (z := z) hx hb hK hP (hD z) hS 25 (wx_25 q ad z) rfl (ax_25 q ad z) hi21 dX5_append_21 (fun z21 H locs hz21 hP hS => ?_)
    have h := h z21 hz21
    refine lv_aload_n hx hb dX5_append_22 rfl (lv_at hl 0 rfl) ?_
    refine lv_dup hx hb dX5_append_23 rfl ?_
    refine va_get (D := D) (ci := 5) (v := .int (z21.1 24 1)) (C := RX5) (T := TX5) (N := 9) hx hb ht tl_X5 hown hK hP 24 (wx_24 q ad z21) rfl 1 (by decide) (ht _ tw_fl_X5_15) (fun _ h9 => h9) rfl dX5_append_24 ?_
    refine lv_iconst (v := (1 : Int32)) hx hb dX5_append_27 (by decide) ?_
    refine lv_iadd hx hb dX5_append_28 ?_
    refine g_put (D := D) (Wd := WX q ad) (z := z21) (ci := 5) (v := .int ((z21.1 24 1) + (1 : Int32))) (ty := .int) (C := RX5) (T := TX5) (N := 9) hx hb ht tl_X5 tyX5 tyX5_ok nmX5 hown hK hP (hD z21) hS 24 (wx_24 q ad z21) rfl 1 (by decide) (ht _ tw_fl_X5_15) (fun _ h9 => h9) rfl rfl rfl rfl (Nat.le_of_ble_eq_true rfl) ((px_24_1 q ad z21) ((z21.1 24 1) + (1 : Int32))) dX5_append_29 (fun z29 H locs hz29 hP hS => ?_)
    have h := h z29 hz29
    refine lv_iconst (v := (1 : Int32)) hx hb dX5_append_32 (by decide) ?_
    exact g_rz hG hx hb hr hlocks hE hP hS h dX5_append_33
  · have h := h.2 c7
    refine lv_iconst (v := (0 : Int32)) hx hb dX5_append_10 (by decide) ?_
    exact g_rz hG hx hb hr hlocks hE hP hS h dX5_append_11
def pX5_endOf_l3 (rec3 : MX → Int32 → Int32 → Int32 → Prop) (post : Int32 → MX → Prop) (z : MX) (x1 : Int32) (x2 : Int32) (x4 : Int32) : Prop :=
    (((z.1 24 1) ≤ x4 →
      post (z.1 24 1) z) ∧
    (¬ (z.1 24 1) ≤ x4 →
      vp_in x4 160 ∧
      (((z.1 25 (Int32.toNatClampNeg x4)) < x1 →
        post x4 z) ∧
      (¬ (z.1 25 (Int32.toNatClampNeg x4)) < x1 →
        vp_in x4 160 ∧
        (((z.1 25 (Int32.toNatClampNeg x4)) ≤ x2 →
          ∀ x4_37 : Int32, x4_37 = x4 + (1 : Int32) →
          rec3 z x1 x2 x4_37) ∧
        (¬ (z.1 25 (Int32.toNatClampNeg x4)) ≤ x2 →
          post x4 z))))))
def pX5_endOf_L3 (post : Int32 → MX → Prop) : Nat → MX → Int32 → Int32 → Int32 → Prop
  | 0 => fun _ _ _ _ => False
  | n + 1 => fun z x1 x2 x4 => pX5_endOf_l3  (pX5_endOf_L3  post n) post z x1 x2 x4
def pX5_endOf (z : MX) (x1 : Int32) (x2 : Int32) (x3 : Int32) (post : Int32 → MX → Prop) : Prop :=
  ∃ n, pX5_endOf_L3  post n z x1 x2 x3
set_option maxHeartbeats 4000000 in
set_option maxRecDepth 100000 in
theorem kX5_endOf (l : Launch) (D : va_G) (q : Nat → ClassId) (ad : Nat → Nat) (A : Nat → Prop) (hD : ∀ z, va_D A (WX q ad z)) (z : MX) (x1 : Int32) (x2 : Int32) (x3 : Int32) (post : Int32 → MX → Prop) (h : pX5_endOf  z x1 x2 x3 post) : Met l yX5_endOf (cW yX5_endOf cX5_endOf 5 (some .int)) ({ frames := 0, cells := 0, slots := 0, locals := 0 } : Room) (va_Pc [.ref (ad 24), .int x1, .int x2, .int x3] ((gB D vwCl (WX q ad) (xE D q ad A)) z)) (va_Qi post (gB D vwCl (WX q ad) (xE D q ad A)) A) 0 0 A := by
  refine Met.ofW (cc := cX5_endOf) (maxL := 5) (ret := (some .int)) (by decide) rfl ?_
  intro p e s m args below meth c s₁ B hml hv
  obtain ⟨hargs, hP, hE⟩ := hv
  have hx := B.exec
  have hb := B.bytes
  have hr := B.returns
  have hts := atoms_spec (ws := (cW yX5_endOf cX5_endOf 5 (some .int))) B.pre
  have ht : ∀ w ∈ tG, w.before args s = true := fun w h => hts w (List.mem_cons_of_mem _ h)
  have hown : s.vm.findClass RX5 = some m.cls := findClass_of_methodNamed B.named
  have hlocks := B.notSynchronized
  have hK := hE.1
  have hG := xE_G D q ad A
  have S : CallFix p m c cX5_endOf 5 s args tG RX5 := ⟨hx, hb, hml, hown, ht⟩
  have hS : va_S A s.heap s.heap [] := va_S.rf
  have B3 : ∀ (rec3 : MX → Int32 → Int32 → Int32 → Prop) (hrec3 : ∀ (z : MX) (x1 : Int32) (x2 : Int32) (x4 : Int32) (H : Heap) (locs : List Loc) (ls : Array Slot), rec3 z x1 x2 x4 → va_P D vwCl (WX q ad z) H → va_S A s.heap H locs → lv_has ls 5 [(0, .ref (ad 24)), (1, .int x1), (2, .int x2), (4, .int x4)] → W p l e (headSpec (cW yX5_endOf cX5_endOf 5 (some .int)) ({ frames := 0, cells := 0, slots := 0, locals := 0 } : Room)).room s m args below meth c H locs 0 0 (MQ below (va_Qi post (gB D vwCl (WX q ad) (xE D q ad A)) A) args s 0 0 A) (F0 m 3 ls [])) (z : MX) (x1 : Int32) (x2 : Int32) (x4 : Int32) (H : Heap) (locs : List Loc) (ls : Array Slot), pX5_endOf_l3  rec3 post z x1 x2 x4 → va_P D vwCl (WX q ad z) H → va_S A s.heap H locs → lv_has ls 5 [(0, .ref (ad 24)), (1, .int x1), (2, .int x2), (4, .int x4)] → W p l e (headSpec (cW yX5_endOf cX5_endOf 5 (some .int)) ({ frames := 0, cells := 0, slots := 0, locals := 0 } : Room)).room s m args below meth c H locs 0 0 (MQ below (va_Qi post (gB D vwCl (WX q ad) (xE D q ad A)) A) args s 0 0 A) (F0 m 3 ls []) := by
    intro rec3 hrec3 z x1 x2 x4 H locs ls h hP hS hl
    unfold pX5_endOf_l3 at h
    refine lv_iload hx hb dX5_endOf_3 (lv_at hl 3 rfl) ?_
    refine lv_aload_n hx hb dX5_endOf_5 rfl (lv_at hl 0 rfl) ?_
    refine va_get (D := D) (ci := 5) (v := .int (z.1 24 1)) (C := RX5) (T := TX5) (N := 9) hx hb ht tl_X5 hown hK hP 24 (wx_24 q ad z) rfl 1 (by decide) (ht _ tw_fl_X5_15) (fun _ h9 => h9) rfl dX5_endOf_6 ?_
    refine lv_icmp_ge (tgt := 43) hx hb dX5_endOf_9 (by decide) (fun c9 => ?_) (fun c9 => ?_)
    · have h := h.1 c9
      refine lv_aload_n hx hb dX5_endOf_43 rfl (lv_at hl 0 rfl) ?_
      refine va_get (D := D) (ci := 5) (v := .int (z.1 24 1)) (C := RX5) (T := TX5) (N := 9) hx hb ht tl_X5 hown hK hP 24 (wx_24 q ad z) rfl 1 (by decide) (ht _ tw_fl_X5_15) (fun _ h9 => h9) rfl dX5_endOf_44 ?_
      exact g_ri hG hx hb hr hlocks hE hP hS h dX5_endOf_47
    · have h := h.2 c9
      refine lv_aload_n hx hb dX5_endOf_12 rfl (lv_at hl 0 rfl) ?_
      refine va_get (D := D) (ci := 5) (v := .ref (ad 25)) (C := RX5) (T := TX5) (N := 9) hx hb ht tl_X5 hown hK hP 24 (wx_24 q ad z) rfl 0 (by decide) (ht _ tw_fl_X5_9) (fun _ h9 => h9) rfl dX5_endOf_13 ?_
      refine lv_iload hx hb dX5_endOf_16 (lv_at hl 3 rfl) ?_
      have hi18 := h.1
      have h := h.2
      refine va_iald hx hb hK hP 25 0 (wx_25 q ad z) rfl hi18 dX5_endOf_18 ?_
      refine lv_iload_n hx hb dX5_endOf_19 rfl (lv_at hl 1 rfl) ?_
      refine lv_icmp_lt (tgt := 34) hx hb dX5_endOf_20 (by decide) (fun c20 => ?_) (fun c20 => ?_)
      · have h := h.1 c20
        refine lv_iload hx hb dX5_endOf_34 (lv_at hl 3 rfl) ?_
        exact g_ri hG hx hb hr hlocks hE hP hS h dX5_endOf_36
      · have h := h.2 c20
        refine lv_aload_n hx hb dX5_endOf_23 rfl (lv_at hl 0 rfl) ?_
        refine va_get (D := D) (ci := 5) (v := .ref (ad 25)) (C := RX5) (T := TX5) (N := 9) hx hb ht tl_X5 hown hK hP 24 (wx_24 q ad z) rfl 0 (by decide) (ht _ tw_fl_X5_9) (fun _ h9 => h9) rfl dX5_endOf_24 ?_
        refine lv_iload hx hb dX5_endOf_27 (lv_at hl 3 rfl) ?_
        have hi29 := h.1
        have h := h.2
        refine va_iald hx hb hK hP 25 0 (wx_25 q ad z) rfl hi29 dX5_endOf_29 ?_
        refine lv_iload_n hx hb dX5_endOf_30 rfl (lv_at hl 2 rfl) ?_
        refine lv_icmp_le (tgt := 37) hx hb dX5_endOf_31 (by decide) (fun c31 => ?_) (fun c31 => ?_)
        · have h := h.1 c31
          obtain ⟨x4_37, ex4_37⟩ : ∃ w : Int32, w = x4 + (1 : Int32) := ⟨_, rfl⟩
          have h := h x4_37 ex4_37
          refine lv_iinc (v := x4_37) (lv' := [(4, .int x4_37), (0, .ref (ad 24)), (1, .int x1), (2, .int x2)]) hx hb dX5_endOf_37 hl (k := 3) rfl (by rw [ex4_37]; rfl) (by decide) rfl (fun ls hl => ?_)
          refine lv_goto (tgt := 3) hx hb dX5_endOf_40 (by decide) ?_
          exact hrec3 z x1 x2 x4_37 _ _ _ h hP hS (lv_sub hl [1, 2, 3, 0] rfl)
        · have h := h.2 c31
          refine lv_iload hx hb dX5_endOf_34 (lv_at hl 3 rfl) ?_
          exact g_ri hG hx hb hr hlocks hE hP hS h dX5_endOf_36
  have L3 : ∀ (n : Nat) (z : MX) (x1 : Int32) (x2 : Int32) (x4 : Int32) (H : Heap) (locs : List Loc) (ls : Array Slot), pX5_endOf_L3  post n z x1 x2 x4 → va_P D vwCl (WX q ad z) H → va_S A s.heap H locs → lv_has ls 5 [(0, .ref (ad 24)), (1, .int x1), (2, .int x2), (4, .int x4)] → W p l e (headSpec (cW yX5_endOf cX5_endOf 5 (some .int)) ({ frames := 0, cells := 0, slots := 0, locals := 0 } : Room)).room s m args below meth c H locs 0 0 (MQ below (va_Qi post (gB D vwCl (WX q ad) (xE D q ad A)) A) args s 0 0 A) (F0 m 3 ls []) := by
    intro n
    induction n with
    | zero =>
      intro z x1 x2 x4 H locs ls h
      exact False.elim h
    | succ n ih =>
      intro z x1 x2 x4 H locs ls h hP hS hl
      exact B3 (pX5_endOf_L3  post n) ih z x1 x2 x4 H locs ls h hP hS hl
  refine g_entry (vs := [.ref (ad 24), .int x1, .int x2, .int x3]) hargs (Nat.le_of_ble_eq_true rfl) (fun ls hl => ?_)
  have hl : lv_has ls 5 [(0, .ref (ad 24)), (1, .int x1), (2, .int x2), (3, .int x3)] := hl
  unfold pX5_endOf at h
  refine lv_iload_n hx hb dX5_endOf_0 rfl (lv_at hl 3 rfl) ?_
  refine lv_istore (lv' := [(4, .int x3), (0, .ref (ad 24)), (1, .int x1), (2, .int x2), (3, .int x3)]) hx hb dX5_endOf_1 hl (by decide) rfl (fun ls hl => ?_)
  obtain ⟨n, h⟩ := h
  exact L3 n z x1 x2 x3 _ _ _ h hP hS (lv_sub hl [1, 2, 3, 0] rfl)
def pX5_numberHere (z : MX) (post : Int32 → MX → Prop) : Prop :=
  vp_in (z.1 24 6) 160 ∧
  ∀ x1_12 : Int32, x1_12 = (z.1 25 (Int32.toNatClampNeg (z.1 24 6))) - (48 : Int32) →
  ((¬ ((z.1 24 7) - (z.1 24 6)) = (2 : Int32) →
    post x1_12 z) ∧
  (((z.1 24 7) - (z.1 24 6)) = (2 : Int32) →
    vp_in ((z.1 24 6) + (1 : Int32)) 160 ∧
    post ((((10 : Int32) * x1_12) + (z.1 25 (Int32.toNatClampNeg ((z.1 24 6) + (1 : Int32))))) - (48 : Int32)) z))
set_option maxHeartbeats 4000000 in
set_option maxRecDepth 100000 in
theorem kX5_numberHere (l : Launch) (D : va_G) (q : Nat → ClassId) (ad : Nat → Nat) (A : Nat → Prop) (hD : ∀ z, va_D A (WX q ad z)) (z : MX) (post : Int32 → MX → Prop) (h : pX5_numberHere  z post) : Met l yX5_numberHere (cW yX5_numberHere cX5_numberHere 2 (some .int)) ({ frames := 0, cells := 0, slots := 0, locals := 0 } : Room) (va_Pc [.ref (ad 24)] ((gB D vwCl (WX q ad) (xE D q ad A)) z)) (va_Qi post (gB D vwCl (WX q ad) (xE D q ad A)) A) 0 0 A := by
  refine Met.ofW (cc := cX5_numberHere) (maxL := 2) (ret := (some .int)) (by decide) rfl ?_
  intro p e s m args below meth c s₁ B hml hv
  obtain ⟨hargs, hP, hE⟩ := hv
  have hx := B.exec
  have hb := B.bytes
  have hr := B.returns
  have hts := atoms_spec (ws := (cW yX5_numberHere cX5_numberHere 2 (some .int))) B.pre
  have ht : ∀ w ∈ tG, w.before args s = true := fun w h => hts w (List.mem_cons_of_mem _ h)
  have hown : s.vm.findClass RX5 = some m.cls := findClass_of_methodNamed B.named
  have hlocks := B.notSynchronized
  have hK := hE.1
  have hG := xE_G D q ad A
  have S : CallFix p m c cX5_numberHere 2 s args tG RX5 := ⟨hx, hb, hml, hown, ht⟩
  have hS : va_S A s.heap s.heap [] := va_S.rf
  refine g_entry (vs := [.ref (ad 24)]) hargs (Nat.le_of_ble_eq_true rfl) (fun ls hl => ?_)
  have hl : lv_has ls 2 [(0, .ref (ad 24))] := hl
  unfold pX5_numberHere at h
  refine lv_aload_n hx hb dX5_numberHere_0 rfl (lv_at hl 0 rfl) ?_
  refine va_get (D := D) (ci := 5) (v := .ref (ad 25)) (C := RX5) (T := TX5) (N := 9) hx hb ht tl_X5 hown hK hP 24 (wx_24 q ad z) rfl 0 (by decide) (ht _ tw_fl_X5_9) (fun _ h9 => h9) rfl dX5_numberHere_1 ?_
  refine lv_aload_n hx hb dX5_numberHere_4 rfl (lv_at hl 0 rfl) ?_
  refine va_get (D := D) (ci := 5) (v := .int (z.1 24 6)) (C := RX5) (T := TX5) (N := 9) hx hb ht tl_X5 hown hK hP 24 (wx_24 q ad z) rfl 6 (by decide) (ht _ tw_fl_X5_123) (fun _ h9 => h9) rfl dX5_numberHere_5 ?_
  have hi8 := h.1
  have h := h.2
  refine va_iald hx hb hK hP 25 0 (wx_25 q ad z) rfl hi8 dX5_numberHere_8 ?_
  refine lv_bipush (v := (48 : Int32)) hx hb dX5_numberHere_9 (by decide) ?_
  refine lv_isub hx hb dX5_numberHere_11 ?_
  refine lv_topi (fun x1_12 ex1_12 => ?_)
  have h := h x1_12 ex1_12
  refine lv_istore_n (lv' := [(1, .int x1_12), (0, .ref (ad 24))]) hx hb dX5_numberHere_12 rfl hl (by decide) rfl (fun ls hl => ?_)
  refine lv_aload_n hx hb dX5_numberHere_13 rfl (lv_at hl 1 rfl) ?_
  refine va_get (D := D) (ci := 5) (v := .int (z.1 24 7)) (C := RX5) (T := TX5) (N := 9) hx hb ht tl_X5 hown hK hP 24 (wx_24 q ad z) rfl 7 (by decide) (ht _ tw_fl_X5_31) (fun _ h9 => h9) rfl dX5_numberHere_14 ?_
  refine lv_aload_n hx hb dX5_numberHere_17 rfl (lv_at hl 1 rfl) ?_
  refine va_get (D := D) (ci := 5) (v := .int (z.1 24 6)) (C := RX5) (T := TX5) (N := 9) hx hb ht tl_X5 hown hK hP 24 (wx_24 q ad z) rfl 6 (by decide) (ht _ tw_fl_X5_123) (fun _ h9 => h9) rfl dX5_numberHere_18 ?_
  refine lv_isub hx hb dX5_numberHere_21 ?_
  refine lv_iconst (v := (2 : Int32)) hx hb dX5_numberHere_22 (by decide) ?_
  refine lv_icmp_ne (tgt := 48) hx hb dX5_numberHere_23 (by decide) (fun c23 => ?_) (fun c23 => ?_)
  · have h := h.1 c23
    refine lv_iload_n hx hb dX5_numberHere_48 rfl (lv_at hl 0 rfl) ?_
    exact g_ri hG hx hb hr hlocks hE hP hS h dX5_numberHere_49
  · have h := h.2 c23
    refine lv_bipush (v := (10 : Int32)) hx hb dX5_numberHere_26 (by decide) ?_
    refine lv_iload_n hx hb dX5_numberHere_28 rfl (lv_at hl 0 rfl) ?_
    refine lv_imul hx hb dX5_numberHere_29 ?_
    refine lv_aload_n hx hb dX5_numberHere_30 rfl (lv_at hl 1 rfl) ?_
    refine va_get (D := D) (ci := 5) (v := .ref (ad 25)) (C := RX5) (T := TX5) (N := 9) hx hb ht tl_X5 hown hK hP 24 (wx_24 q ad z) rfl 0 (by decide) (ht _ tw_fl_X5_9) (fun _ h9 => h9) rfl dX5_numberHere_31 ?_
    refine lv_aload_n hx hb dX5_numberHere_34 rfl (lv_at hl 1 rfl) ?_
    refine va_get (D := D) (ci := 5) (v := .int (z.1 24 6)) (C := RX5) (T := TX5) (N := 9) hx hb ht tl_X5 hown hK hP 24 (wx_24 q ad z) rfl 6 (by decide) (ht _ tw_fl_X5_123) (fun _ h9 => h9) rfl dX5_numberHere_35 ?_
    refine lv_iconst (v := (1 : Int32)) hx hb dX5_numberHere_38 (by decide) ?_
    refine lv_iadd hx hb dX5_numberHere_39 ?_
    have hi40 := h.1
    have h := h.2
    refine va_iald hx hb hK hP 25 0 (wx_25 q ad z) rfl hi40 dX5_numberHere_40 ?_
    refine lv_iadd hx hb dX5_numberHere_41 ?_
    refine lv_bipush (v := (48 : Int32)) hx hb dX5_numberHere_42 (by decide) ?_
    refine lv_isub hx hb dX5_numberHere_44 ?_
    refine lv_goto (tgt := 49) hx hb dX5_numberHere_45 (by decide) ?_
    exact g_ri hG hx hb hr hlocks hE hP hS h dX5_numberHere_49
def pX5_blame (z : MX) (x1 : Int32) (post : Int32 → MX → Prop) : Prop :=
  ∀ z2 : MX, z2 = mw z 24 2 x1 →
  ∀ z10 : MX, z10 = mw z2 24 3 (z2.1 24 6) →
  (((0 : Int32) = 0 ∨ (0 : Int32) = 1) ∧ post (0 : Int32) z10)
set_option maxHeartbeats 4000000 in
set_option maxRecDepth 100000 in
theorem kX5_blame (l : Launch) (D : va_G) (q : Nat → ClassId) (ad : Nat → Nat) (A : Nat → Prop) (hD : ∀ z, va_D A (WX q ad z)) (z : MX) (x1 : Int32) (post : Int32 → MX → Prop) (h : pX5_blame  z x1 post) : Met l yX5_blame (cW yX5_blame cX5_blame 2 (some .boolean)) ({ frames := 0, cells := 0, slots := 0, locals := 0 } : Room) (va_Pc [.ref (ad 24), .int x1] ((gB D vwCl (WX q ad) (xE D q ad A)) z)) (va_Qi post (gB D vwCl (WX q ad) (xE D q ad A)) A) 0 0 A := by
  refine Met.ofW (cc := cX5_blame) (maxL := 2) (ret := (some .boolean)) (by decide) rfl ?_
  intro p e s m args below meth c s₁ B hml hv
  obtain ⟨hargs, hP, hE⟩ := hv
  have hx := B.exec
  have hb := B.bytes
  have hr := B.returns
  have hts := atoms_spec (ws := (cW yX5_blame cX5_blame 2 (some .boolean))) B.pre
  have ht : ∀ w ∈ tG, w.before args s = true := fun w h => hts w (List.mem_cons_of_mem _ h)
  have hown : s.vm.findClass RX5 = some m.cls := findClass_of_methodNamed B.named
  have hlocks := B.notSynchronized
  have hK := hE.1
  have hG := xE_G D q ad A
  have S : CallFix p m c cX5_blame 2 s args tG RX5 := ⟨hx, hb, hml, hown, ht⟩
  have hS : va_S A s.heap s.heap [] := va_S.rf
  refine g_entry (vs := [.ref (ad 24), .int x1]) hargs (Nat.le_of_ble_eq_true rfl) (fun ls hl => ?_)
  have hl : lv_has ls 2 [(0, .ref (ad 24)), (1, .int x1)] := hl
  unfold pX5_blame at h
  refine lv_aload_n hx hb dX5_blame_0 rfl (lv_at hl 0 rfl) ?_
  refine lv_iload_n hx hb dX5_blame_1 rfl (lv_at hl 1 rfl) ?_
  refine g_put (D := D) (Wd := WX q ad) (z := z) (ci := 5) (v := .int x1) (ty := .int) (C := RX5) (T := TX5) (N := 9) hx hb ht tl_X5 tyX5 tyX5_ok nmX5 hown hK hP (hD z) hS 24 (wx_24 q ad z) rfl 2 (by decide) (ht _ tw_fl_X5_24) (fun _ h9 => h9) rfl rfl rfl rfl (Nat.le_of_ble_eq_true rfl) ((px_24_2 q ad z) x1) dX5_blame_2 (fun z2 H locs hz2 hP hS => ?_)
  have h := h z2 hz2
  refine lv_aload_n hx hb dX5_blame_5 rfl (lv_at hl 0 rfl) ?_
  refine lv_aload_n hx hb dX5_blame_6 rfl (lv_at hl 0 rfl) ?_
  refine va_get (D := D) (ci := 5) (v := .int (z2.1 24 6)) (C := RX5) (T := TX5) (N := 9) hx hb ht tl_X5 hown hK hP 24 (wx_24 q ad z2) rfl 6 (by decide) (ht _ tw_fl_X5_123) (fun _ h9 => h9) rfl dX5_blame_7 ?_
  refine g_put (D := D) (Wd := WX q ad) (z := z2) (ci := 5) (v := .int (z2.1 24 6)) (ty := .int) (C := RX5) (T := TX5) (N := 9) hx hb ht tl_X5 tyX5 tyX5_ok nmX5 hown hK hP (hD z2) hS 24 (wx_24 q ad z2) rfl 3 (by decide) (ht _ tw_fl_X5_126) (fun _ h9 => h9) rfl rfl rfl rfl (Nat.le_of_ble_eq_true rfl) ((px_24_3 q ad z2) (z2.1 24 6)) dX5_blame_10 (fun z10 H locs hz10 hP hS => ?_)
  have h := h z10 hz10
  refine lv_iconst (v := (0 : Int32)) hx hb dX5_blame_13 (by decide) ?_
  exact g_rz hG hx hb hr hlocks hE hP hS h dX5_blame_14
def pX5_nextToken_b184 (post : Int32 → MX → Prop) (z : MX) : Prop :=
    (((1 : Int32) = 0 ∨ (1 : Int32) = 1) ∧ post (1 : Int32) z)
def pX5_nextToken_b155 (post : Int32 → MX → Prop) (z : MX) (x1 : Int32) : Prop :=
    ∀ z157 : MX, z157 = mw z 24 5 (3 : Int32) →
    ∀ z167 : MX, z167 = mw z157 24 7 ((z157.1 24 6) + (1 : Int32)) →
    ((x1 = (59 : Int32) →
      pX5_nextToken_b184  post z167) ∧
    (¬ x1 = (59 : Int32) →
      pX5_blame z167 (1 : Int32) (fun (r178 : Int32) (z178 : MX) =>
      ((r178 = 0 →
        (((0 : Int32) = 0 ∨ (0 : Int32) = 1) ∧ post (0 : Int32) z178)) ∧
      (¬ r178 = 0 →
        pX5_nextToken_b184  post z178)))))
def pX5_nextToken_b149 (post : Int32 → MX → Prop) (z : MX) : Prop :=
    (((1 : Int32) = 0 ∨ (1 : Int32) = 1) ∧ post (1 : Int32) z)
def pX5_nextToken_b87 (post : Int32 → MX → Prop) (z : MX) (x1 : Int32) : Prop :=
    ((x1 < (48 : Int32) →
      pX5_nextToken_b155  post z x1) ∧
    (¬ x1 < (48 : Int32) →
      (((57 : Int32) < x1 →
        pX5_nextToken_b155  post z x1) ∧
      (¬ (57 : Int32) < x1 →
        ∀ z101 : MX, z101 = mw z 24 5 (2 : Int32) →
        pX5_endOf z101 (48 : Int32) (57 : Int32) (z101.1 24 6) (fun (r114 : Int32) (z114 : MX) =>
        ∀ z117 : MX, z117 = mw z114 24 7 r114 →
        pX5_numberHere z117 (fun (r122 : Int32) (z122 : MX) =>
        ∀ z125 : MX, z125 = mw z122 24 8 r122 →
        ((((z125.1 24 7) - (z125.1 24 6)) ≤ (2 : Int32) →
          pX5_nextToken_b149  post z125) ∧
        (¬ ((z125.1 24 7) - (z125.1 24 6)) ≤ (2 : Int32) →
          pX5_blame z125 (1 : Int32) (fun (r143 : Int32) (z143 : MX) =>
          ((r143 = 0 →
            (((0 : Int32) = 0 ∨ (0 : Int32) = 1) ∧ post (0 : Int32) z143)) ∧
          (¬ r143 = 0 →
            pX5_nextToken_b149  post z143)))))))))))
def pX5_nextToken (z : MX) (post : Int32 → MX → Prop) : Prop :=
  pX5_endOf z (32 : Int32) (32 : Int32) (z.1 24 7) (fun (r10 : Int32) (z10 : MX) =>
  ∀ z13 : MX, z13 = mw z10 24 7 r10 →
  ∀ z21 : MX, z21 = mw z13 24 6 (z13.1 24 7) →
  (((z21.1 24 6) < (z21.1 24 1) →
    vp_in (z21.1 24 6) 160 ∧
    ∀ x1_51 : Int32, x1_51 = z21.1 25 (Int32.toNatClampNeg (z21.1 24 6)) →
    ((x1_51 < (97 : Int32) →
      pX5_nextToken_b87  post z21 x1_51) ∧
    (¬ x1_51 < (97 : Int32) →
      (((122 : Int32) < x1_51 →
        pX5_nextToken_b87  post z21 x1_51) ∧
      (¬ (122 : Int32) < x1_51 →
        ∀ z66 : MX, z66 = mw z21 24 5 (1 : Int32) →
        pX5_endOf z66 (97 : Int32) (122 : Int32) (z66.1 24 6) (fun (r79 : Int32) (z79 : MX) =>
        ∀ z82 : MX, z82 = mw z79 24 7 r79 →
        (((1 : Int32) = 0 ∨ (1 : Int32) = 1) ∧ post (1 : Int32) z82))))))) ∧
  (¬ (z21.1 24 6) < (z21.1 24 1) →
    ∀ z37 : MX, z37 = mw z21 24 5 (0 : Int32) →
    (((1 : Int32) = 0 ∨ (1 : Int32) = 1) ∧ post (1 : Int32) z37))))
set_option maxHeartbeats 4000000 in
set_option maxRecDepth 100000 in
theorem kX5_nextToken (l : Launch) (D : va_G) (q : Nat → ClassId) (ad : Nat → Nat) (A : Nat → Prop) (hD : ∀ z, va_D A (WX q ad z)) (z : MX) (post : Int32 → MX → Prop) (h : pX5_nextToken  z post) : Met l yX5_nextToken (cW yX5_nextToken cX5_nextToken 2 (some .boolean)) ({ frames := 1, cells := 0, slots := 0, locals := 24 } : Room) (va_Pc [.ref (ad 24)] ((gB D vwCl (WX q ad) (xE D q ad A)) z)) (va_Qi post (gB D vwCl (WX q ad) (xE D q ad A)) A) 0 0 A := by
  refine Met.ofW (cc := cX5_nextToken) (maxL := 2) (ret := (some .boolean)) (by decide) rfl ?_
  intro p e s m args below meth c s₁ B hml hv
  obtain ⟨hargs, hP, hE⟩ := hv
  have hx := B.exec
  have hb := B.bytes
  have hr := B.returns
  have hts := atoms_spec (ws := (cW yX5_nextToken cX5_nextToken 2 (some .boolean))) B.pre
  have ht : ∀ w ∈ tG, w.before args s = true := fun w h => hts w (List.mem_cons_of_mem _ h)
  have hown : s.vm.findClass RX5 = some m.cls := findClass_of_methodNamed B.named
  have hlocks := B.notSynchronized
  have hK := hE.1
  have hG := xE_G D q ad A
  have S : CallFix p m c cX5_nextToken 2 s args tG RX5 := ⟨hx, hb, hml, hown, ht⟩
  have hS : va_S A s.heap s.heap [] := va_S.rf
  have B184 : ∀ (z : MX) (H : Heap) (locs : List Loc) (ls : Array Slot), pX5_nextToken_b184  post z → va_P D vwCl (WX q ad z) H → va_S A s.heap H locs → lv_has ls 2 [] → W p l e (headSpec (cW yX5_nextToken cX5_nextToken 2 (some .boolean)) ({ frames := 1, cells := 0, slots := 0, locals := 24 } : Room)).room s m args below meth c H locs 0 0 (MQ below (va_Qi post (gB D vwCl (WX q ad) (xE D q ad A)) A) args s 0 0 A) (F0 m 184 ls []) := by
    intro z H locs ls h hP hS hl
    unfold pX5_nextToken_b184 at h
    refine lv_iconst (v := (1 : Int32)) hx hb dX5_nextToken_184 (by decide) ?_
    refine lv_goto (tgt := 189) hx hb dX5_nextToken_185 (by decide) ?_
    exact g_rz hG hx hb hr hlocks hE hP hS h dX5_nextToken_189
  have B155 : ∀ (z : MX) (x1 : Int32) (H : Heap) (locs : List Loc) (ls : Array Slot), pX5_nextToken_b155  post z x1 → va_P D vwCl (WX q ad z) H → va_S A s.heap H locs → lv_has ls 2 [(0, .ref (ad 24)), (1, .int x1)] → W p l e (headSpec (cW yX5_nextToken cX5_nextToken 2 (some .boolean)) ({ frames := 1, cells := 0, slots := 0, locals := 24 } : Room)).room s m args below meth c H locs 0 0 (MQ below (va_Qi post (gB D vwCl (WX q ad) (xE D q ad A)) A) args s 0 0 A) (F0 m 155 ls []) := by
    intro z x1 H locs ls h hP hS hl
    unfold pX5_nextToken_b155 at h
    refine lv_aload_n hx hb dX5_nextToken_155 rfl (lv_at hl 0 rfl) ?_
    refine lv_iconst (v := (3 : Int32)) hx hb dX5_nextToken_156 (by decide) ?_
    refine g_put (D := D) (Wd := WX q ad) (z := z) (ci := 5) (v := .int (3 : Int32)) (ty := .int) (C := RX5) (T := TX5) (N := 9) hx hb ht tl_X5 tyX5 tyX5_ok nmX5 hown hK hP (hD z) hS 24 (wx_24 q ad z) rfl 5 (by decide) (ht _ tw_fl_X5_46) (fun _ h9 => h9) rfl rfl rfl rfl (Nat.le_of_ble_eq_true rfl) ((px_24_5 q ad z) (3 : Int32)) dX5_nextToken_157 (fun z157 H locs hz157 hP hS => ?_)
    have h := h z157 hz157
    refine lv_aload_n hx hb dX5_nextToken_160 rfl (lv_at hl 0 rfl) ?_
    refine lv_aload_n hx hb dX5_nextToken_161 rfl (lv_at hl 0 rfl) ?_
    refine va_get (D := D) (ci := 5) (v := .int (z157.1 24 6)) (C := RX5) (T := TX5) (N := 9) hx hb ht tl_X5 hown hK hP 24 (wx_24 q ad z157) rfl 6 (by decide) (ht _ tw_fl_X5_123) (fun _ h9 => h9) rfl dX5_nextToken_162 ?_
    refine lv_iconst (v := (1 : Int32)) hx hb dX5_nextToken_165 (by decide) ?_
    refine lv_iadd hx hb dX5_nextToken_166 ?_
    refine g_put (D := D) (Wd := WX q ad) (z := z157) (ci := 5) (v := .int ((z157.1 24 6) + (1 : Int32))) (ty := .int) (C := RX5) (T := TX5) (N := 9) hx hb ht tl_X5 tyX5 tyX5_ok nmX5 hown hK hP (hD z157) hS 24 (wx_24 q ad z157) rfl 7 (by decide) (ht _ tw_fl_X5_31) (fun _ h9 => h9) rfl rfl rfl rfl (Nat.le_of_ble_eq_true rfl) ((px_24_7 q ad z157) ((z157.1 24 6) + (1 : Int32))) dX5_nextToken_167 (fun z167 H locs hz167 hP hS => ?_)
    have h := h z167 hz167
    refine lv_iload_n hx hb dX5_nextToken_170 rfl (lv_at hl 1 rfl) ?_
    refine lv_bipush (v := (59 : Int32)) hx hb dX5_nextToken_171 (by decide) ?_
    refine lv_icmp_eq (tgt := 184) hx hb dX5_nextToken_173 (by decide) (fun c173 => ?_) (fun c173 => ?_)
    · have h := h.1 c173
      exact B184 z167 _ _ _ h hP hS (lv_sub hl [] rfl)
    · have h := h.2 c173
      refine lv_aload_n hx hb dX5_nextToken_176 rfl (lv_at hl 0 rfl) ?_
      refine lv_iconst (v := (1 : Int32)) hx hb dX5_nextToken_177 (by decide) ?_
      refine g_cVi (Wd := WX q ad) (z := z167) (As := [.int (1 : Int32)]) (rest := []) hG S (kX5_blame l D q ad A hD z167 (1 : Int32) _ h) (cwV 1 ht (cW_V (fun _ h => h) tw_co_X5_blame tw_ml_X5_69 tw_im_X5_blame tw_se_X5_blame tw_in_X5) rfl rfl rfl (by decide +kernel) ⟨by decide, by decide⟩) (va_recv hK hP (ci := 5) (q0 := 24) rfl (wx_24 q ad z167)) hE hP hS rfl hl.1 rfl (Nat.le_of_ble_eq_true rfl) dX5_nextToken_178 ⟨Nat.zero_le _, Nat.zero_le _⟩ (fun r178 z178 H locs h hP hS => ?_)
      refine lv_if_eq (tgt := 188) hx hb dX5_nextToken_181 (by decide) (fun c181 => ?_) (fun c181 => ?_)
      · have h := h.1 c181
        refine lv_iconst (v := (0 : Int32)) hx hb dX5_nextToken_188 (by decide) ?_
        exact g_rz hG hx hb hr hlocks hE hP hS h dX5_nextToken_189
      · have h := h.2 c181
        exact B184 z178 _ _ _ h hP hS (lv_sub hl [] rfl)
  have B149 : ∀ (z : MX) (H : Heap) (locs : List Loc) (ls : Array Slot), pX5_nextToken_b149  post z → va_P D vwCl (WX q ad z) H → va_S A s.heap H locs → lv_has ls 2 [] → W p l e (headSpec (cW yX5_nextToken cX5_nextToken 2 (some .boolean)) ({ frames := 1, cells := 0, slots := 0, locals := 24 } : Room)).room s m args below meth c H locs 0 0 (MQ below (va_Qi post (gB D vwCl (WX q ad) (xE D q ad A)) A) args s 0 0 A) (F0 m 149 ls []) := by
    intro z H locs ls h hP hS hl
    unfold pX5_nextToken_b149 at h
    refine lv_iconst (v := (1 : Int32)) hx hb dX5_nextToken_149 (by decide) ?_
    refine lv_goto (tgt := 154) hx hb dX5_nextToken_150 (by decide) ?_
    exact g_rz hG hx hb hr hlocks hE hP hS h dX5_nextToken_154
  have B87 : ∀ (z : MX) (x1 : Int32) (H : Heap) (locs : List Loc) (ls : Array Slot), pX5_nextToken_b87  post z x1 → va_P D vwCl (WX q ad z) H → va_S A s.heap H locs → lv_has ls 2 [(0, .ref (ad 24)), (1, .int x1)] → W p l e (headSpec (cW yX5_nextToken cX5_nextToken 2 (some .boolean)) ({ frames := 1, cells := 0, slots := 0, locals := 24 } : Room)).room s m args below meth c H locs 0 0 (MQ below (va_Qi post (gB D vwCl (WX q ad) (xE D q ad A)) A) args s 0 0 A) (F0 m 87 ls []) := by
    intro z x1 H locs ls h hP hS hl
    unfold pX5_nextToken_b87 at h
    refine lv_iload_n hx hb dX5_nextToken_87 rfl (lv_at hl 1 rfl) ?_
    refine lv_bipush (v := (48 : Int32)) hx hb dX5_nextToken_88 (by decide) ?_
    refine lv_icmp_lt (tgt := 155) hx hb dX5_nextToken_90 (by decide) (fun c90 => ?_) (fun c90 => ?_)
    · have h := h.1 c90
      exact B155 z x1 _ _ _ h hP hS (lv_sub hl [0, 1] rfl)
    · have h := h.2 c90
      refine lv_iload_n hx hb dX5_nextToken_93 rfl (lv_at hl 1 rfl) ?_
      refine lv_bipush (v := (57 : Int32)) hx hb dX5_nextToken_94 (by decide) ?_
      refine lv_icmp_gt (tgt := 155) hx hb dX5_nextToken_96 (by decide) (fun c96 => ?_) (fun c96 => ?_)
      · have h := h.1 c96
        exact B155 z x1 _ _ _ h hP hS (lv_sub hl [0, 1] rfl)
      · have h := h.2 c96
        refine lv_aload_n hx hb dX5_nextToken_99 rfl (lv_at hl 0 rfl) ?_
        refine lv_iconst (v := (2 : Int32)) hx hb dX5_nextToken_100 (by decide) ?_
        refine g_put (D := D) (Wd := WX q ad) (z := z) (ci := 5) (v := .int (2 : Int32)) (ty := .int) (C := RX5) (T := TX5) (N := 9) hx hb ht tl_X5 tyX5 tyX5_ok nmX5 hown hK hP (hD z) hS 24 (wx_24 q ad z) rfl 5 (by decide) (ht _ tw_fl_X5_46) (fun _ h9 => h9) rfl rfl rfl rfl (Nat.le_of_ble_eq_true rfl) ((px_24_5 q ad z) (2 : Int32)) dX5_nextToken_101 (fun z101 H locs hz101 hP hS => ?_)
        have h := h z101 hz101
        refine lv_aload_n hx hb dX5_nextToken_104 rfl (lv_at hl 0 rfl) ?_
        refine lv_aload_n hx hb dX5_nextToken_105 rfl (lv_at hl 0 rfl) ?_
        refine lv_bipush (v := (48 : Int32)) hx hb dX5_nextToken_106 (by decide) ?_
        refine lv_bipush (v := (57 : Int32)) hx hb dX5_nextToken_108 (by decide) ?_
        refine lv_aload_n hx hb dX5_nextToken_110 rfl (lv_at hl 0 rfl) ?_
        refine va_get (D := D) (ci := 5) (v := .int (z101.1 24 6)) (C := RX5) (T := TX5) (N := 9) hx hb ht tl_X5 hown hK hP 24 (wx_24 q ad z101) rfl 6 (by decide) (ht _ tw_fl_X5_123) (fun _ h9 => h9) rfl dX5_nextToken_111 ?_
        refine g_cVi (Wd := WX q ad) (z := z101) (As := [.int (48 : Int32), .int (57 : Int32), .int (z101.1 24 6)]) (rest := [.ref (ad 24)]) hG S (kX5_endOf l D q ad A hD z101 (48 : Int32) (57 : Int32) (z101.1 24 6) _ h) (cwV 3 ht (cW_V (fun _ h => h) tw_co_X5_endOf tw_ml_X5_129 tw_im_X5_endOf tw_se_X5_endOf tw_in_X5) rfl rfl rfl (by decide +kernel) ⟨by decide, by decide⟩) (va_recv hK hP (ci := 5) (q0 := 24) rfl (wx_24 q ad z101)) hE hP hS rfl hl.1 rfl (Nat.le_of_ble_eq_true rfl) dX5_nextToken_114 ⟨Nat.zero_le _, Nat.zero_le _⟩ (fun r114 z114 H locs h hP hS => ?_)
        refine g_put (D := D) (Wd := WX q ad) (z := z114) (ci := 5) (v := .int r114) (ty := .int) (C := RX5) (T := TX5) (N := 9) hx hb ht tl_X5 tyX5 tyX5_ok nmX5 hown hK hP (hD z114) hS 24 (wx_24 q ad z114) rfl 7 (by decide) (ht _ tw_fl_X5_31) (fun _ h9 => h9) rfl rfl rfl rfl (Nat.le_of_ble_eq_true rfl) ((px_24_7 q ad z114) r114) dX5_nextToken_117 (fun z117 H locs hz117 hP hS => ?_)
        have h := h z117 hz117
        refine lv_aload_n hx hb dX5_nextToken_120 rfl (lv_at hl 0 rfl) ?_
        refine lv_aload_n hx hb dX5_nextToken_121 rfl (lv_at hl 0 rfl) ?_
        refine g_cVi (Wd := WX q ad) (z := z117) (As := []) (rest := [.ref (ad 24)]) hG S (kX5_numberHere l D q ad A hD z117 _ h) (cwV 0 ht (cW_V (fun _ h => h) tw_co_X5_numberHere tw_ml_X5_133 tw_im_X5_numberHere tw_se_X5_numberHere tw_in_X5) rfl rfl rfl (by decide +kernel) ⟨by decide, by decide⟩) (va_recv hK hP (ci := 5) (q0 := 24) rfl (wx_24 q ad z117)) hE hP hS rfl hl.1 rfl (Nat.le_of_ble_eq_true rfl) dX5_nextToken_122 ⟨Nat.zero_le _, Nat.zero_le _⟩ (fun r122 z122 H locs h hP hS => ?_)
        refine g_put (D := D) (Wd := WX q ad) (z := z122) (ci := 5) (v := .int r122) (ty := .int) (C := RX5) (T := TX5) (N := 9) hx hb ht tl_X5 tyX5 tyX5_ok nmX5 hown hK hP (hD z122) hS 24 (wx_24 q ad z122) rfl 8 (by decide) (ht _ tw_fl_X5_80) (fun _ h9 => h9) rfl rfl rfl rfl (Nat.le_of_ble_eq_true rfl) ((px_24_8 q ad z122) r122) dX5_nextToken_125 (fun z125 H locs hz125 hP hS => ?_)
        have h := h z125 hz125
        refine lv_aload_n hx hb dX5_nextToken_128 rfl (lv_at hl 0 rfl) ?_
        refine va_get (D := D) (ci := 5) (v := .int (z125.1 24 7)) (C := RX5) (T := TX5) (N := 9) hx hb ht tl_X5 hown hK hP 24 (wx_24 q ad z125) rfl 7 (by decide) (ht _ tw_fl_X5_31) (fun _ h9 => h9) rfl dX5_nextToken_129 ?_
        refine lv_aload_n hx hb dX5_nextToken_132 rfl (lv_at hl 0 rfl) ?_
        refine va_get (D := D) (ci := 5) (v := .int (z125.1 24 6)) (C := RX5) (T := TX5) (N := 9) hx hb ht tl_X5 hown hK hP 24 (wx_24 q ad z125) rfl 6 (by decide) (ht _ tw_fl_X5_123) (fun _ h9 => h9) rfl dX5_nextToken_133 ?_
        refine lv_isub hx hb dX5_nextToken_136 ?_
        refine lv_iconst (v := (2 : Int32)) hx hb dX5_nextToken_137 (by decide) ?_
        refine lv_icmp_le (tgt := 149) hx hb dX5_nextToken_138 (by decide) (fun c138 => ?_) (fun c138 => ?_)
        · have h := h.1 c138
          exact B149 z125 _ _ _ h hP hS (lv_sub hl [] rfl)
        · have h := h.2 c138
          refine lv_aload_n hx hb dX5_nextToken_141 rfl (lv_at hl 0 rfl) ?_
          refine lv_iconst (v := (1 : Int32)) hx hb dX5_nextToken_142 (by decide) ?_
          refine g_cVi (Wd := WX q ad) (z := z125) (As := [.int (1 : Int32)]) (rest := []) hG S (kX5_blame l D q ad A hD z125 (1 : Int32) _ h) (cwV 1 ht (cW_V (fun _ h => h) tw_co_X5_blame tw_ml_X5_69 tw_im_X5_blame tw_se_X5_blame tw_in_X5) rfl rfl rfl (by decide +kernel) ⟨by decide, by decide⟩) (va_recv hK hP (ci := 5) (q0 := 24) rfl (wx_24 q ad z125)) hE hP hS rfl hl.1 rfl (Nat.le_of_ble_eq_true rfl) dX5_nextToken_143 ⟨Nat.zero_le _, Nat.zero_le _⟩ (fun r143 z143 H locs h hP hS => ?_)
          refine lv_if_eq (tgt := 153) hx hb dX5_nextToken_146 (by decide) (fun c146 => ?_) (fun c146 => ?_)
          · have h := h.1 c146
            refine lv_iconst (v := (0 : Int32)) hx hb dX5_nextToken_153 (by decide) ?_
            exact g_rz hG hx hb hr hlocks hE hP hS h dX5_nextToken_154
          · have h := h.2 c146
            exact B149 z143 _ _ _ h hP hS (lv_sub hl [] rfl)
  refine g_entry (vs := [.ref (ad 24)]) hargs (Nat.le_of_ble_eq_true rfl) (fun ls hl => ?_)
  have hl : lv_has ls 2 [(0, .ref (ad 24))] := hl
  unfold pX5_nextToken at h
  refine lv_aload_n hx hb dX5_nextToken_0 rfl (lv_at hl 0 rfl) ?_
  refine lv_aload_n hx hb dX5_nextToken_1 rfl (lv_at hl 0 rfl) ?_
  refine lv_bipush (v := (32 : Int32)) hx hb dX5_nextToken_2 (by decide) ?_
  refine lv_bipush (v := (32 : Int32)) hx hb dX5_nextToken_4 (by decide) ?_
  refine lv_aload_n hx hb dX5_nextToken_6 rfl (lv_at hl 0 rfl) ?_
  refine va_get (D := D) (ci := 5) (v := .int (z.1 24 7)) (C := RX5) (T := TX5) (N := 9) hx hb ht tl_X5 hown hK hP 24 (wx_24 q ad z) rfl 7 (by decide) (ht _ tw_fl_X5_31) (fun _ h9 => h9) rfl dX5_nextToken_7 ?_
  refine g_cVi (Wd := WX q ad) (z := z) (As := [.int (32 : Int32), .int (32 : Int32), .int (z.1 24 7)]) (rest := [.ref (ad 24)]) hG S (kX5_endOf l D q ad A hD z (32 : Int32) (32 : Int32) (z.1 24 7) _ h) (cwV 3 ht (cW_V (fun _ h => h) tw_co_X5_endOf tw_ml_X5_129 tw_im_X5_endOf tw_se_X5_endOf tw_in_X5) rfl rfl rfl (by decide +kernel) ⟨by decide, by decide⟩) (va_recv hK hP (ci := 5) (q0 := 24) rfl (wx_24 q ad z)) hE hP hS rfl hl.1 rfl (Nat.le_of_ble_eq_true rfl) dX5_nextToken_10 ⟨Nat.zero_le _, Nat.zero_le _⟩ (fun r10 z10 H locs h hP hS => ?_)
  refine g_put (D := D) (Wd := WX q ad) (z := z10) (ci := 5) (v := .int r10) (ty := .int) (C := RX5) (T := TX5) (N := 9) hx hb ht tl_X5 tyX5 tyX5_ok nmX5 hown hK hP (hD z10) hS 24 (wx_24 q ad z10) rfl 7 (by decide) (ht _ tw_fl_X5_31) (fun _ h9 => h9) rfl rfl rfl rfl (Nat.le_of_ble_eq_true rfl) ((px_24_7 q ad z10) r10) dX5_nextToken_13 (fun z13 H locs hz13 hP hS => ?_)
  have h := h z13 hz13
  refine lv_aload_n hx hb dX5_nextToken_16 rfl (lv_at hl 0 rfl) ?_
  refine lv_aload_n hx hb dX5_nextToken_17 rfl (lv_at hl 0 rfl) ?_
  refine va_get (D := D) (ci := 5) (v := .int (z13.1 24 7)) (C := RX5) (T := TX5) (N := 9) hx hb ht tl_X5 hown hK hP 24 (wx_24 q ad z13) rfl 7 (by decide) (ht _ tw_fl_X5_31) (fun _ h9 => h9) rfl dX5_nextToken_18 ?_
  refine g_put (D := D) (Wd := WX q ad) (z := z13) (ci := 5) (v := .int (z13.1 24 7)) (ty := .int) (C := RX5) (T := TX5) (N := 9) hx hb ht tl_X5 tyX5 tyX5_ok nmX5 hown hK hP (hD z13) hS 24 (wx_24 q ad z13) rfl 6 (by decide) (ht _ tw_fl_X5_123) (fun _ h9 => h9) rfl rfl rfl rfl (Nat.le_of_ble_eq_true rfl) ((px_24_6 q ad z13) (z13.1 24 7)) dX5_nextToken_21 (fun z21 H locs hz21 hP hS => ?_)
  have h := h z21 hz21
  refine lv_aload_n hx hb dX5_nextToken_24 rfl (lv_at hl 0 rfl) ?_
  refine va_get (D := D) (ci := 5) (v := .int (z21.1 24 6)) (C := RX5) (T := TX5) (N := 9) hx hb ht tl_X5 hown hK hP 24 (wx_24 q ad z21) rfl 6 (by decide) (ht _ tw_fl_X5_123) (fun _ h9 => h9) rfl dX5_nextToken_25 ?_
  refine lv_aload_n hx hb dX5_nextToken_28 rfl (lv_at hl 0 rfl) ?_
  refine va_get (D := D) (ci := 5) (v := .int (z21.1 24 1)) (C := RX5) (T := TX5) (N := 9) hx hb ht tl_X5 hown hK hP 24 (wx_24 q ad z21) rfl 1 (by decide) (ht _ tw_fl_X5_15) (fun _ h9 => h9) rfl dX5_nextToken_29 ?_
  refine lv_icmp_lt (tgt := 42) hx hb dX5_nextToken_32 (by decide) (fun c32 => ?_) (fun c32 => ?_)
  · have h := h.1 c32
    refine lv_aload_n hx hb dX5_nextToken_42 rfl (lv_at hl 0 rfl) ?_
    refine va_get (D := D) (ci := 5) (v := .ref (ad 25)) (C := RX5) (T := TX5) (N := 9) hx hb ht tl_X5 hown hK hP 24 (wx_24 q ad z21) rfl 0 (by decide) (ht _ tw_fl_X5_9) (fun _ h9 => h9) rfl dX5_nextToken_43 ?_
    refine lv_aload_n hx hb dX5_nextToken_46 rfl (lv_at hl 0 rfl) ?_
    refine va_get (D := D) (ci := 5) (v := .int (z21.1 24 6)) (C := RX5) (T := TX5) (N := 9) hx hb ht tl_X5 hown hK hP 24 (wx_24 q ad z21) rfl 6 (by decide) (ht _ tw_fl_X5_123) (fun _ h9 => h9) rfl dX5_nextToken_47 ?_
    have hi50 := h.1
    have h := h.2
    refine va_iald hx hb hK hP 25 0 (wx_25 q ad z21) rfl hi50 dX5_nextToken_50 ?_
    refine lv_topi (fun x1_51 ex1_51 => ?_)
    have h := h x1_51 ex1_51
    refine lv_istore_n (lv' := [(1, .int x1_51), (0, .ref (ad 24))]) hx hb dX5_nextToken_51 rfl hl (by decide) rfl (fun ls hl => ?_)
    refine lv_iload_n hx hb dX5_nextToken_52 rfl (lv_at hl 0 rfl) ?_
    refine lv_bipush (v := (97 : Int32)) hx hb dX5_nextToken_53 (by decide) ?_
    refine lv_icmp_lt (tgt := 87) hx hb dX5_nextToken_55 (by decide) (fun c55 => ?_) (fun c55 => ?_)
    · have h := h.1 c55
      exact B87 z21 x1_51 _ _ _ h hP hS (lv_sub hl [1, 0] rfl)
    · have h := h.2 c55
      refine lv_iload_n hx hb dX5_nextToken_58 rfl (lv_at hl 0 rfl) ?_
      refine lv_bipush (v := (122 : Int32)) hx hb dX5_nextToken_59 (by decide) ?_
      refine lv_icmp_gt (tgt := 87) hx hb dX5_nextToken_61 (by decide) (fun c61 => ?_) (fun c61 => ?_)
      · have h := h.1 c61
        exact B87 z21 x1_51 _ _ _ h hP hS (lv_sub hl [1, 0] rfl)
      · have h := h.2 c61
        refine lv_aload_n hx hb dX5_nextToken_64 rfl (lv_at hl 1 rfl) ?_
        refine lv_iconst (v := (1 : Int32)) hx hb dX5_nextToken_65 (by decide) ?_
        refine g_put (D := D) (Wd := WX q ad) (z := z21) (ci := 5) (v := .int (1 : Int32)) (ty := .int) (C := RX5) (T := TX5) (N := 9) hx hb ht tl_X5 tyX5 tyX5_ok nmX5 hown hK hP (hD z21) hS 24 (wx_24 q ad z21) rfl 5 (by decide) (ht _ tw_fl_X5_46) (fun _ h9 => h9) rfl rfl rfl rfl (Nat.le_of_ble_eq_true rfl) ((px_24_5 q ad z21) (1 : Int32)) dX5_nextToken_66 (fun z66 H locs hz66 hP hS => ?_)
        have h := h z66 hz66
        refine lv_aload_n hx hb dX5_nextToken_69 rfl (lv_at hl 1 rfl) ?_
        refine lv_aload_n hx hb dX5_nextToken_70 rfl (lv_at hl 1 rfl) ?_
        refine lv_bipush (v := (97 : Int32)) hx hb dX5_nextToken_71 (by decide) ?_
        refine lv_bipush (v := (122 : Int32)) hx hb dX5_nextToken_73 (by decide) ?_
        refine lv_aload_n hx hb dX5_nextToken_75 rfl (lv_at hl 1 rfl) ?_
        refine va_get (D := D) (ci := 5) (v := .int (z66.1 24 6)) (C := RX5) (T := TX5) (N := 9) hx hb ht tl_X5 hown hK hP 24 (wx_24 q ad z66) rfl 6 (by decide) (ht _ tw_fl_X5_123) (fun _ h9 => h9) rfl dX5_nextToken_76 ?_
        refine g_cVi (Wd := WX q ad) (z := z66) (As := [.int (97 : Int32), .int (122 : Int32), .int (z66.1 24 6)]) (rest := [.ref (ad 24)]) hG S (kX5_endOf l D q ad A hD z66 (97 : Int32) (122 : Int32) (z66.1 24 6) _ h) (cwV 3 ht (cW_V (fun _ h => h) tw_co_X5_endOf tw_ml_X5_129 tw_im_X5_endOf tw_se_X5_endOf tw_in_X5) rfl rfl rfl (by decide +kernel) ⟨by decide, by decide⟩) (va_recv hK hP (ci := 5) (q0 := 24) rfl (wx_24 q ad z66)) hE hP hS rfl hl.1 rfl (Nat.le_of_ble_eq_true rfl) dX5_nextToken_79 ⟨Nat.zero_le _, Nat.zero_le _⟩ (fun r79 z79 H locs h hP hS => ?_)
        refine g_put (D := D) (Wd := WX q ad) (z := z79) (ci := 5) (v := .int r79) (ty := .int) (C := RX5) (T := TX5) (N := 9) hx hb ht tl_X5 tyX5 tyX5_ok nmX5 hown hK hP (hD z79) hS 24 (wx_24 q ad z79) rfl 7 (by decide) (ht _ tw_fl_X5_31) (fun _ h9 => h9) rfl rfl rfl rfl (Nat.le_of_ble_eq_true rfl) ((px_24_7 q ad z79) r79) dX5_nextToken_82 (fun z82 H locs hz82 hP hS => ?_)
        have h := h z82 hz82
        refine lv_iconst (v := (1 : Int32)) hx hb dX5_nextToken_85 (by decide) ?_
        exact g_rz hG hx hb hr hlocks hE hP hS h dX5_nextToken_86
  · have h := h.2 c32
    refine lv_aload_n hx hb dX5_nextToken_35 rfl (lv_at hl 0 rfl) ?_
    refine lv_iconst (v := (0 : Int32)) hx hb dX5_nextToken_36 (by decide) ?_
    refine g_put (D := D) (Wd := WX q ad) (z := z21) (ci := 5) (v := .int (0 : Int32)) (ty := .int) (C := RX5) (T := TX5) (N := 9) hx hb ht tl_X5 tyX5 tyX5_ok nmX5 hown hK hP (hD z21) hS 24 (wx_24 q ad z21) rfl 5 (by decide) (ht _ tw_fl_X5_46) (fun _ h9 => h9) rfl rfl rfl rfl (Nat.le_of_ble_eq_true rfl) ((px_24_5 q ad z21) (0 : Int32)) dX5_nextToken_37 (fun z37 H locs hz37 hP hS => ?_)
    have h := h z37 hz37
    refine lv_iconst (v := (1 : Int32)) hx hb dX5_nextToken_40 (by decide) ?_
    exact g_rz hG hx hb hr hlocks hE hP hS h dX5_nextToken_41
def pX5_spelling (z : MX) (x0 : Int32) (post : Nat → MX → Prop) : Prop :=
  ((((x0).toInt < 0 ∨ 11 < (x0).toInt) →
    post 12 z) ∧
  (x0 = (0 : Int32) →
      post 0 z) ∧
  (x0 = (1 : Int32) →
      post 1 z) ∧
  (x0 = (2 : Int32) →
      post 2 z) ∧
  (x0 = (3 : Int32) →
      post 3 z) ∧
  (x0 = (4 : Int32) →
      post 4 z) ∧
  (x0 = (5 : Int32) →
      post 5 z) ∧
  (x0 = (6 : Int32) →
      post 6 z) ∧
  (x0 = (7 : Int32) →
      post 7 z) ∧
  (x0 = (8 : Int32) →
      post 8 z) ∧
  (x0 = (9 : Int32) →
      post 9 z) ∧
  (x0 = (10 : Int32) →
      post 10 z) ∧
  (x0 = (11 : Int32) →
      post 11 z))
set_option maxHeartbeats 4000000 in
set_option maxRecDepth 100000 in
theorem kX5_spelling (l : Launch) (D : va_G) (q : Nat → ClassId) (ad : Nat → Nat) (A : Nat → Prop) (hD : ∀ z, va_D A (WX q ad z)) (z : MX) (x0 : Int32) (post : Nat → MX → Prop) (h : pX5_spelling  z x0 post) : Met l yX5_spelling (cW yX5_spelling cX5_spelling 1 (some (.object "java/lang/String"))) ({ frames := 0, cells := 0, slots := 0, locals := 0 } : Room) (va_Pc [.int x0] ((gB D vwCl (WX q ad) (xE D q ad A)) z)) (gQs ad post (gB D vwCl (WX q ad) (xE D q ad A)) A) 0 0 A := by
  refine Met.ofW (cc := cX5_spelling) (maxL := 1) (ret := (some (.object "java/lang/String"))) (by decide) rfl ?_
  intro p e s m args below meth c s₁ B hml hv
  obtain ⟨hargs, hP, hE⟩ := hv
  have hx := B.exec
  have hb := B.bytes
  have hr := B.returns
  have hts := atoms_spec (ws := (cW yX5_spelling cX5_spelling 1 (some (.object "java/lang/String")))) B.pre
  have ht : ∀ w ∈ tG, w.before args s = true := fun w h => hts w (List.mem_cons_of_mem _ h)
  have hown : s.vm.findClass RX5 = some m.cls := findClass_of_methodNamed B.named
  have hlocks := B.notSynchronized
  have hK := hE.1
  have hG := xE_G D q ad A
  have S : CallFix p m c cX5_spelling 1 s args tG RX5 := ⟨hx, hb, hml, hown, ht⟩
  have hS : va_S A s.heap s.heap [] := va_S.rf
  refine g_entry (vs := [.int x0]) hargs (Nat.le_of_ble_eq_true rfl) (fun ls hl => ?_)
  have hl : lv_has ls 1 [(0, .int x0)] := hl
  unfold pX5_spelling at h
  refine lv_iload_n hx hb dX5_spelling_0 rfl (lv_at hl 0 rfl) ?_
  rcases g_sw (x := x0) 11 11 rfl with c1 | ⟨k1, hk1, c1⟩
  · refine lv_tableOut (tgt := 100) hx hb dX5_spelling_1 c1 (by decide) ?_
    have h := h.1 c1
    refine va_ldcS hx hb hown (hE.2.2.2.2.2.2.2.2.2.1 12 (by decide)) dX5_spelling_100 ?_
    exact g_rs hG hx hb hr hlocks hE hP hS (by decide) h dX5_spelling_102
  · match k1, hk1, c1 with
    | 0, _, c1 =>
      have h := h.2.1 (g_eq c1 rfl)
      refine lv_tableIn (off := 63) (tgt := 64) hx hb dX5_spelling_1 (by rw [c1]; decide) (by rw [c1]; decide) (by rw [c1]; rfl) (by decide) ?_
      refine va_ldcS hx hb hown (hE.2.2.2.2.2.2.2.2.2.1 0 (by decide)) dX5_spelling_64 ?_
      exact g_rs hG hx hb hr hlocks hE hP hS (by decide) h dX5_spelling_66
    | 1, _, c1 =>
      have h := h.2.2.1 (g_eq c1 rfl)
      refine lv_tableIn (off := 66) (tgt := 67) hx hb dX5_spelling_1 (by rw [c1]; decide) (by rw [c1]; decide) (by rw [c1]; rfl) (by decide) ?_
      refine va_ldcS hx hb hown (hE.2.2.2.2.2.2.2.2.2.1 1 (by decide)) dX5_spelling_67 ?_
      exact g_rs hG hx hb hr hlocks hE hP hS (by decide) h dX5_spelling_69
    | 2, _, c1 =>
      have h := h.2.2.2.1 (g_eq c1 rfl)
      refine lv_tableIn (off := 69) (tgt := 70) hx hb dX5_spelling_1 (by rw [c1]; decide) (by rw [c1]; decide) (by rw [c1]; rfl) (by decide) ?_
      refine va_ldcS hx hb hown (hE.2.2.2.2.2.2.2.2.2.1 2 (by decide)) dX5_spelling_70 ?_
      exact g_rs hG hx hb hr hlocks hE hP hS (by decide) h dX5_spelling_72
    | 3, _, c1 =>
      have h := h.2.2.2.2.1 (g_eq c1 rfl)
      refine lv_tableIn (off := 72) (tgt := 73) hx hb dX5_spelling_1 (by rw [c1]; decide) (by rw [c1]; decide) (by rw [c1]; rfl) (by decide) ?_
      refine va_ldcS hx hb hown (hE.2.2.2.2.2.2.2.2.2.1 3 (by decide)) dX5_spelling_73 ?_
      exact g_rs hG hx hb hr hlocks hE hP hS (by decide) h dX5_spelling_75
    | 4, _, c1 =>
      have h := h.2.2.2.2.2.1 (g_eq c1 rfl)
      refine lv_tableIn (off := 75) (tgt := 76) hx hb dX5_spelling_1 (by rw [c1]; decide) (by rw [c1]; decide) (by rw [c1]; rfl) (by decide) ?_
      refine va_ldcS hx hb hown (hE.2.2.2.2.2.2.2.2.2.1 4 (by decide)) dX5_spelling_76 ?_
      exact g_rs hG hx hb hr hlocks hE hP hS (by decide) h dX5_spelling_78
    | 5, _, c1 =>
      have h := h.2.2.2.2.2.2.1 (g_eq c1 rfl)
      refine lv_tableIn (off := 78) (tgt := 79) hx hb dX5_spelling_1 (by rw [c1]; decide) (by rw [c1]; decide) (by rw [c1]; rfl) (by decide) ?_
      refine va_ldcS hx hb hown (hE.2.2.2.2.2.2.2.2.2.1 5 (by decide)) dX5_spelling_79 ?_
      exact g_rs hG hx hb hr hlocks hE hP hS (by decide) h dX5_spelling_81
    | 6, _, c1 =>
      have h := h.2.2.2.2.2.2.2.1 (g_eq c1 rfl)
      refine lv_tableIn (off := 81) (tgt := 82) hx hb dX5_spelling_1 (by rw [c1]; decide) (by rw [c1]; decide) (by rw [c1]; rfl) (by decide) ?_
      refine va_ldcS hx hb hown (hE.2.2.2.2.2.2.2.2.2.1 6 (by decide)) dX5_spelling_82 ?_
      exact g_rs hG hx hb hr hlocks hE hP hS (by decide) h dX5_spelling_84
    | 7, _, c1 =>
      have h := h.2.2.2.2.2.2.2.2.1 (g_eq c1 rfl)
      refine lv_tableIn (off := 84) (tgt := 85) hx hb dX5_spelling_1 (by rw [c1]; decide) (by rw [c1]; decide) (by rw [c1]; rfl) (by decide) ?_
      refine va_ldcS hx hb hown (hE.2.2.2.2.2.2.2.2.2.1 7 (by decide)) dX5_spelling_85 ?_
      exact g_rs hG hx hb hr hlocks hE hP hS (by decide) h dX5_spelling_87
    | 8, _, c1 =>
      have h := h.2.2.2.2.2.2.2.2.2.1 (g_eq c1 rfl)
      refine lv_tableIn (off := 87) (tgt := 88) hx hb dX5_spelling_1 (by rw [c1]; decide) (by rw [c1]; decide) (by rw [c1]; rfl) (by decide) ?_
      refine va_ldcS hx hb hown (hE.2.2.2.2.2.2.2.2.2.1 8 (by decide)) dX5_spelling_88 ?_
      exact g_rs hG hx hb hr hlocks hE hP hS (by decide) h dX5_spelling_90
    | 9, _, c1 =>
      have h := h.2.2.2.2.2.2.2.2.2.2.1 (g_eq c1 rfl)
      refine lv_tableIn (off := 90) (tgt := 91) hx hb dX5_spelling_1 (by rw [c1]; decide) (by rw [c1]; decide) (by rw [c1]; rfl) (by decide) ?_
      refine va_ldcS hx hb hown (hE.2.2.2.2.2.2.2.2.2.1 9 (by decide)) dX5_spelling_91 ?_
      exact g_rs hG hx hb hr hlocks hE hP hS (by decide) h dX5_spelling_93
    | 10, _, c1 =>
      have h := h.2.2.2.2.2.2.2.2.2.2.2.1 (g_eq c1 rfl)
      refine lv_tableIn (off := 93) (tgt := 94) hx hb dX5_spelling_1 (by rw [c1]; decide) (by rw [c1]; decide) (by rw [c1]; rfl) (by decide) ?_
      refine va_ldcS hx hb hown (hE.2.2.2.2.2.2.2.2.2.1 10 (by decide)) dX5_spelling_94 ?_
      exact g_rs hG hx hb hr hlocks hE hP hS (by decide) h dX5_spelling_96
    | 11, _, c1 =>
      have h := h.2.2.2.2.2.2.2.2.2.2.2.2 (g_eq c1 rfl)
      refine lv_tableIn (off := 96) (tgt := 97) hx hb dX5_spelling_1 (by rw [c1]; decide) (by rw [c1]; decide) (by rw [c1]; rfl) (by decide) ?_
      refine va_ldcS hx hb hown (hE.2.2.2.2.2.2.2.2.2.1 11 (by decide)) dX5_spelling_97 ?_
      exact g_rs hG hx hb hr hlocks hE hP hS (by decide) h dX5_spelling_99
    | k + 12, hk, _ => exact absurd hk (by omega)
def pX5_isHere_l20 (w : Nat) (rec20 : MX → Int32 → Prop) (post : Int32 → MX → Prop) (z : MX) (x2 : Int32) : Prop :=
    pJ0_length_8abf5 w z (fun (r22 : Int32) (z22 : MX) =>
    ((r22 ≤ x2 →
      (((1 : Int32) = 0 ∨ (1 : Int32) = 1) ∧ post (1 : Int32) z22)) ∧
    (¬ r22 ≤ x2 →
      vp_in ((z22.1 24 6) + x2) 160 ∧
      pJ0_charAt_5068e w z22 x2 (fun (r41 : Int32) (z41 : MX) =>
      (((z22.1 25 (Int32.toNatClampNeg ((z22.1 24 6) + x2))) = r41 →
        ∀ x2_49 : Int32, x2_49 = x2 + (1 : Int32) →
        rec20 z41 x2_49) ∧
      (¬ (z22.1 25 (Int32.toNatClampNeg ((z22.1 24 6) + x2))) = r41 →
        (((0 : Int32) = 0 ∨ (0 : Int32) = 1) ∧ post (0 : Int32) z41)))))))
def pX5_isHere_L20 (w : Nat) (post : Int32 → MX → Prop) : Nat → MX → Int32 → Prop
  | 0 => fun _ _ => False
  | n + 1 => fun z x2 => pX5_isHere_l20 w (pX5_isHere_L20 w post n) post z x2
def pX5_isHere (w : Nat) (z : MX) (post : Int32 → MX → Prop) : Prop :=
  pJ0_length_8abf5 w z (fun (r1 : Int32) (z1 : MX) =>
  ((r1 = ((z1.1 24 7) - (z1.1 24 6)) →
    ∃ n, pX5_isHere_L20 w post n z1 (0 : Int32)) ∧
  (¬ r1 = ((z1.1 24 7) - (z1.1 24 6)) →
    (((0 : Int32) = 0 ∨ (0 : Int32) = 1) ∧ post (0 : Int32) z1))))
set_option maxHeartbeats 4000000 in
set_option maxRecDepth 100000 in
theorem kX5_isHere (l : Launch) (D : va_G) (q : Nat → ClassId) (ad : Nat → Nat) (A : Nat → Prop) (hD : ∀ z, va_D A (WX q ad z)) (w : Nat) (hw : w < 13) (z : MX) (post : Int32 → MX → Prop) (h : pX5_isHere w z post) : Met l yX5_isHere (cW yX5_isHere cX5_isHere 3 (some .boolean)) ({ frames := 4, cells := 0, slots := 0, locals := 85 } : Room) (va_Pc [.ref (ad 24), .ref (ad (100 + w))] ((gB D vwCl (WX q ad) (xE D q ad A)) z)) (va_Qi post (gB D vwCl (WX q ad) (xE D q ad A)) A) 0 0 A := by
  refine Met.ofW (cc := cX5_isHere) (maxL := 3) (ret := (some .boolean)) (by decide) rfl ?_
  intro p e s m args below meth c s₁ B hml hv
  obtain ⟨hargs, hP, hE⟩ := hv
  have hx := B.exec
  have hb := B.bytes
  have hr := B.returns
  have hts := atoms_spec (ws := (cW yX5_isHere cX5_isHere 3 (some .boolean))) B.pre
  have ht : ∀ w ∈ tG, w.before args s = true := fun w h => hts w (List.mem_cons_of_mem _ h)
  have hown : s.vm.findClass RX5 = some m.cls := findClass_of_methodNamed B.named
  have hlocks := B.notSynchronized
  have hK := hE.1
  have hG := xE_G D q ad A
  have S : CallFix p m c cX5_isHere 3 s args tG RX5 := ⟨hx, hb, hml, hown, ht⟩
  have hS : va_S A s.heap s.heap [] := va_S.rf
  have B20 : ∀ (rec20 : MX → Int32 → Prop) (hrec20 : ∀ (z : MX) (x2 : Int32) (H : Heap) (locs : List Loc) (ls : Array Slot), rec20 z x2 → va_P D vwCl (WX q ad z) H → va_S A s.heap H locs → lv_has ls 3 [(0, .ref (ad 24)), (1, .ref (ad (100 + w))), (2, .int x2)] → W p l e (headSpec (cW yX5_isHere cX5_isHere 3 (some .boolean)) ({ frames := 4, cells := 0, slots := 0, locals := 85 } : Room)).room s m args below meth c H locs 0 0 (MQ below (va_Qi post (gB D vwCl (WX q ad) (xE D q ad A)) A) args s 0 0 A) (F0 m 20 ls [])) (z : MX) (x2 : Int32) (H : Heap) (locs : List Loc) (ls : Array Slot), pX5_isHere_l20 w rec20 post z x2 → va_P D vwCl (WX q ad z) H → va_S A s.heap H locs → lv_has ls 3 [(0, .ref (ad 24)), (1, .ref (ad (100 + w))), (2, .int x2)] → W p l e (headSpec (cW yX5_isHere cX5_isHere 3 (some .boolean)) ({ frames := 4, cells := 0, slots := 0, locals := 85 } : Room)).room s m args below meth c H locs 0 0 (MQ below (va_Qi post (gB D vwCl (WX q ad) (xE D q ad A)) A) args s 0 0 A) (F0 m 20 ls []) := by
    intro rec20 hrec20 z x2 H locs ls h hP hS hl
    unfold pX5_isHere_l20 at h
    refine lv_iload_n hx hb dX5_isHere_20 rfl (lv_at hl 2 rfl) ?_
    refine lv_aload_n hx hb dX5_isHere_21 rfl (lv_at hl 1 rfl) ?_
    refine g_cVi (Wd := WX q ad) (z := z) (As := []) (rest := [.int x2]) hG S (kJ0_length_8abf5 l D q ad A w hw z _ h) (cwV 0 ht (cW_V (fun _ h => h) tw_co_J0_length_8abf5 tw_ml_X5_144 tw_im_J0_length_8abf5 tw_se_J0_length_8abf5 tw_in_J0) rfl rfl rfl (by decide +kernel) ⟨by decide, by decide⟩) (vk_recv (adK := fun i => ad (100 + i)) (i := w) hE.2.2.2.2.2.2.2.2.1 hw hS) hE hP hS rfl hl.1 rfl (Nat.le_of_ble_eq_true rfl) dX5_isHere_22 ⟨Nat.zero_le _, Nat.zero_le _⟩ (fun r22 z22 H locs h hP hS => ?_)
    refine lv_icmp_ge (tgt := 55) hx hb dX5_isHere_25 (by decide) (fun c25 => ?_) (fun c25 => ?_)
    · have h := h.1 c25
      refine lv_iconst (v := (1 : Int32)) hx hb dX5_isHere_55 (by decide) ?_
      exact g_rz hG hx hb hr hlocks hE hP hS h dX5_isHere_56
    · have h := h.2 c25
      refine lv_aload_n hx hb dX5_isHere_28 rfl (lv_at hl 0 rfl) ?_
      refine va_get (D := D) (ci := 5) (v := .ref (ad 25)) (C := RX5) (T := TX5) (N := 9) hx hb ht tl_X5 hown hK hP 24 (wx_24 q ad z22) rfl 0 (by decide) (ht _ tw_fl_X5_9) (fun _ h9 => h9) rfl dX5_isHere_29 ?_
      refine lv_aload_n hx hb dX5_isHere_32 rfl (lv_at hl 0 rfl) ?_
      refine va_get (D := D) (ci := 5) (v := .int (z22.1 24 6)) (C := RX5) (T := TX5) (N := 9) hx hb ht tl_X5 hown hK hP 24 (wx_24 q ad z22) rfl 6 (by decide) (ht _ tw_fl_X5_123) (fun _ h9 => h9) rfl dX5_isHere_33 ?_
      refine lv_iload_n hx hb dX5_isHere_36 rfl (lv_at hl 2 rfl) ?_
      refine lv_iadd hx hb dX5_isHere_37 ?_
      have hi38 := h.1
      have h := h.2
      refine va_iald hx hb hK hP 25 0 (wx_25 q ad z22) rfl hi38 dX5_isHere_38 ?_
      refine lv_aload_n hx hb dX5_isHere_39 rfl (lv_at hl 1 rfl) ?_
      refine lv_iload_n hx hb dX5_isHere_40 rfl (lv_at hl 2 rfl) ?_
      refine g_cVi (Wd := WX q ad) (z := z22) (As := [.int x2]) (rest := [.int (z22.1 25 (Int32.toNatClampNeg ((z22.1 24 6) + x2)))]) hG S (kJ0_charAt_5068e l D q ad A w hw z22 x2 _ h) (cwV 1 ht (cW_V (fun _ h => h) tw_co_J0_charAt_5068e tw_ml_X5_149 tw_im_J0_charAt_5068e tw_se_J0_charAt_5068e tw_in_J0) rfl rfl rfl (by decide +kernel) ⟨by decide, by decide⟩) (vk_recv (adK := fun i => ad (100 + i)) (i := w) hE.2.2.2.2.2.2.2.2.1 hw hS) hE hP hS rfl hl.1 rfl (Nat.le_of_ble_eq_true rfl) dX5_isHere_41 ⟨Nat.zero_le _, Nat.zero_le _⟩ (fun r41 z41 H locs h hP hS => ?_)
      refine lv_icmp_eq (tgt := 49) hx hb dX5_isHere_44 (by decide) (fun c44 => ?_) (fun c44 => ?_)
      · have h := h.1 c44
        obtain ⟨x2_49, ex2_49⟩ : ∃ w : Int32, w = x2 + (1 : Int32) := ⟨_, rfl⟩
        have h := h x2_49 ex2_49
        refine lv_iinc (v := x2_49) (lv' := [(2, .int x2_49), (0, .ref (ad 24)), (1, .ref (ad (100 + w)))]) hx hb dX5_isHere_49 hl (k := 2) rfl (by rw [ex2_49]; rfl) (by decide) rfl (fun ls hl => ?_)
        refine lv_goto (tgt := 20) hx hb dX5_isHere_52 (by decide) ?_
        exact hrec20 z41 x2_49 _ _ _ h hP hS (lv_sub hl [1, 2, 0] rfl)
      · have h := h.2 c44
        refine lv_iconst (v := (0 : Int32)) hx hb dX5_isHere_47 (by decide) ?_
        exact g_rz hG hx hb hr hlocks hE hP hS h dX5_isHere_48
  have L20 : ∀ (n : Nat) (z : MX) (x2 : Int32) (H : Heap) (locs : List Loc) (ls : Array Slot), pX5_isHere_L20 w post n z x2 → va_P D vwCl (WX q ad z) H → va_S A s.heap H locs → lv_has ls 3 [(0, .ref (ad 24)), (1, .ref (ad (100 + w))), (2, .int x2)] → W p l e (headSpec (cW yX5_isHere cX5_isHere 3 (some .boolean)) ({ frames := 4, cells := 0, slots := 0, locals := 85 } : Room)).room s m args below meth c H locs 0 0 (MQ below (va_Qi post (gB D vwCl (WX q ad) (xE D q ad A)) A) args s 0 0 A) (F0 m 20 ls []) := by
    intro n
    induction n with
    | zero =>
      intro z x2 H locs ls h
      exact False.elim h
    | succ n ih =>
      intro z x2 H locs ls h hP hS hl
      exact B20 (pX5_isHere_L20 w post n) ih z x2 H locs ls h hP hS hl
  refine g_entry (vs := [.ref (ad 24), .ref (ad (100 + w))]) hargs (Nat.le_of_ble_eq_true rfl) (fun ls hl => ?_)
  have hl : lv_has ls 3 [(0, .ref (ad 24)), (1, .ref (ad (100 + w)))] := hl
  unfold pX5_isHere at h
  refine lv_aload_n hx hb dX5_isHere_0 rfl (lv_at hl 1 rfl) ?_
  refine g_cVi (Wd := WX q ad) (z := z) (As := []) (rest := []) hG S (kJ0_length_8abf5 l D q ad A w hw z _ h) (cwV 0 ht (cW_V (fun _ h => h) tw_co_J0_length_8abf5 tw_ml_X5_144 tw_im_J0_length_8abf5 tw_se_J0_length_8abf5 tw_in_J0) rfl rfl rfl (by decide +kernel) ⟨by decide, by decide⟩) (vk_recv (adK := fun i => ad (100 + i)) (i := w) hE.2.2.2.2.2.2.2.2.1 hw hS) hE hP hS rfl hl.1 rfl (Nat.le_of_ble_eq_true rfl) dX5_isHere_1 ⟨Nat.zero_le _, Nat.zero_le _⟩ (fun r1 z1 H locs h hP hS => ?_)
  refine lv_aload_n hx hb dX5_isHere_4 rfl (lv_at hl 0 rfl) ?_
  refine va_get (D := D) (ci := 5) (v := .int (z1.1 24 7)) (C := RX5) (T := TX5) (N := 9) hx hb ht tl_X5 hown hK hP 24 (wx_24 q ad z1) rfl 7 (by decide) (ht _ tw_fl_X5_31) (fun _ h9 => h9) rfl dX5_isHere_5 ?_
  refine lv_aload_n hx hb dX5_isHere_8 rfl (lv_at hl 0 rfl) ?_
  refine va_get (D := D) (ci := 5) (v := .int (z1.1 24 6)) (C := RX5) (T := TX5) (N := 9) hx hb ht tl_X5 hown hK hP 24 (wx_24 q ad z1) rfl 6 (by decide) (ht _ tw_fl_X5_123) (fun _ h9 => h9) rfl dX5_isHere_9 ?_
  refine lv_isub hx hb dX5_isHere_12 ?_
  refine lv_icmp_eq (tgt := 18) hx hb dX5_isHere_13 (by decide) (fun c13 => ?_) (fun c13 => ?_)
  · have h := h.1 c13
    refine lv_iconst (v := (0 : Int32)) hx hb dX5_isHere_18 (by decide) ?_
    refine lv_istore_n (lv' := [(2, .int (0 : Int32)), (0, .ref (ad 24)), (1, .ref (ad (100 + w)))]) hx hb dX5_isHere_19 rfl hl (by decide) rfl (fun ls hl => ?_)
    obtain ⟨n, h⟩ := h
    exact L20 n z1 (0 : Int32) _ _ _ h hP hS (lv_sub hl [1, 2, 0] rfl)
  · have h := h.2 c13
    refine lv_iconst (v := (0 : Int32)) hx hb dX5_isHere_16 (by decide) ?_
    exact g_rz hG hx hb hr hlocks hE hP hS h dX5_isHere_17
def pX5_wordHere_l10 (rec10 : MX → Int32 → Prop) (post : Int32 → MX → Prop) (z : MX) (x1 : Int32) : Prop :=
    (((13 : Int32) ≤ x1 →
      post (-1 : Int32) z) ∧
    (¬ (13 : Int32) ≤ x1 →
      pX5_spelling z x1 (fun (w18 : Nat) (z18 : MX) =>
      pX5_isHere w18 z18 (fun (r21 : Int32) (z21 : MX) =>
      ((r21 = 0 →
        ∀ x1_29 : Int32, x1_29 = x1 + (1 : Int32) →
        rec10 z21 x1_29) ∧
      (¬ r21 = 0 →
        post x1 z21))))))
def pX5_wordHere_L10 (post : Int32 → MX → Prop) : Nat → MX → Int32 → Prop
  | 0 => fun _ _ => False
  | n + 1 => fun z x1 => pX5_wordHere_l10  (pX5_wordHere_L10  post n) post z x1
def pX5_wordHere (z : MX) (post : Int32 → MX → Prop) : Prop :=
  ((¬ (z.1 24 5) = (1 : Int32) →
    post (-1 : Int32) z) ∧
  ((z.1 24 5) = (1 : Int32) →
    ∃ n, pX5_wordHere_L10  post n z (0 : Int32)))
set_option maxHeartbeats 4000000 in
set_option maxRecDepth 100000 in
theorem kX5_wordHere (l : Launch) (D : va_G) (q : Nat → ClassId) (ad : Nat → Nat) (A : Nat → Prop) (hD : ∀ z, va_D A (WX q ad z)) (z : MX) (post : Int32 → MX → Prop) (h : pX5_wordHere  z post) : Met l yX5_wordHere (cW yX5_wordHere cX5_wordHere 2 (some .int)) ({ frames := 5, cells := 0, slots := 0, locals := 107 } : Room) (va_Pc [.ref (ad 24)] ((gB D vwCl (WX q ad) (xE D q ad A)) z)) (va_Qi post (gB D vwCl (WX q ad) (xE D q ad A)) A) 0 0 A := by
  refine Met.ofW (cc := cX5_wordHere) (maxL := 2) (ret := (some .int)) (by decide) rfl ?_
  intro p e s m args below meth c s₁ B hml hv
  obtain ⟨hargs, hP, hE⟩ := hv
  have hx := B.exec
  have hb := B.bytes
  have hr := B.returns
  have hts := atoms_spec (ws := (cW yX5_wordHere cX5_wordHere 2 (some .int))) B.pre
  have ht : ∀ w ∈ tG, w.before args s = true := fun w h => hts w (List.mem_cons_of_mem _ h)
  have hown : s.vm.findClass RX5 = some m.cls := findClass_of_methodNamed B.named
  have hlocks := B.notSynchronized
  have hK := hE.1
  have hG := xE_G D q ad A
  have S : CallFix p m c cX5_wordHere 2 s args tG RX5 := ⟨hx, hb, hml, hown, ht⟩
  have hS : va_S A s.heap s.heap [] := va_S.rf
  have B10 : ∀ (rec10 : MX → Int32 → Prop) (hrec10 : ∀ (z : MX) (x1 : Int32) (H : Heap) (locs : List Loc) (ls : Array Slot), rec10 z x1 → va_P D vwCl (WX q ad z) H → va_S A s.heap H locs → lv_has ls 2 [(0, .ref (ad 24)), (1, .int x1)] → W p l e (headSpec (cW yX5_wordHere cX5_wordHere 2 (some .int)) ({ frames := 5, cells := 0, slots := 0, locals := 107 } : Room)).room s m args below meth c H locs 0 0 (MQ below (va_Qi post (gB D vwCl (WX q ad) (xE D q ad A)) A) args s 0 0 A) (F0 m 10 ls [])) (z : MX) (x1 : Int32) (H : Heap) (locs : List Loc) (ls : Array Slot), pX5_wordHere_l10  rec10 post z x1 → va_P D vwCl (WX q ad z) H → va_S A s.heap H locs → lv_has ls 2 [(0, .ref (ad 24)), (1, .int x1)] → W p l e (headSpec (cW yX5_wordHere cX5_wordHere 2 (some .int)) ({ frames := 5, cells := 0, slots := 0, locals := 107 } : Room)).room s m args below meth c H locs 0 0 (MQ below (va_Qi post (gB D vwCl (WX q ad) (xE D q ad A)) A) args s 0 0 A) (F0 m 10 ls []) := by
    intro rec10 hrec10 z x1 H locs ls h hP hS hl
    unfold pX5_wordHere_l10 at h
    refine lv_iload_n hx hb dX5_wordHere_10 rfl (lv_at hl 1 rfl) ?_
    refine lv_bipush (v := (13 : Int32)) hx hb dX5_wordHere_11 (by decide) ?_
    refine lv_icmp_ge (tgt := 35) hx hb dX5_wordHere_13 (by decide) (fun c13 => ?_) (fun c13 => ?_)
    · have h := h.1 c13
      refine lv_iconst (v := (-1 : Int32)) hx hb dX5_wordHere_35 (by decide) ?_
      exact g_ri hG hx hb hr hlocks hE hP hS h dX5_wordHere_36
    · have h := h.2 c13
      refine lv_aload_n hx hb dX5_wordHere_16 rfl (lv_at hl 0 rfl) ?_
      refine lv_iload_n hx hb dX5_wordHere_17 rfl (lv_at hl 1 rfl) ?_
      refine g_cSs (Wd := WX q ad) (z := z) (As := [.int x1]) (rest := [.ref (ad 24)]) hG S (kX5_spelling l D q ad A hD z x1 _ h) (va_cwS 1 ht (cW_S (fun _ h => h) tw_co_X5_spelling tw_ml_X5_136 tw_st_X5_spelling tw_in_X5) rfl rfl rfl (by decide +kernel) ⟨by decide, by decide⟩) hE hP hS rfl hl.1 rfl (Nat.le_of_ble_eq_true rfl) dX5_wordHere_18 ⟨Nat.zero_le _, Nat.zero_le _⟩ (fun w18 z18 H locs hw18 h hP hS => ?_)
      refine g_cVi (Wd := WX q ad) (z := z18) (As := [.ref (ad (100 + w18))]) (rest := []) hG S (kX5_isHere l D q ad A hD w18 hw18 z18 _ h) (cwV 1 ht (cW_V (fun _ h => h) tw_co_X5_isHere tw_ml_X5_140 tw_im_X5_isHere tw_se_X5_isHere tw_in_X5) rfl rfl rfl (by decide +kernel) ⟨by decide, by decide⟩) (va_recv hK hP (ci := 5) (q0 := 24) rfl (wx_24 q ad z18)) hE hP hS rfl hl.1 rfl (Nat.le_of_ble_eq_true rfl) dX5_wordHere_21 ⟨Nat.zero_le _, Nat.zero_le _⟩ (fun r21 z21 H locs h hP hS => ?_)
      refine lv_if_eq (tgt := 29) hx hb dX5_wordHere_24 (by decide) (fun c24 => ?_) (fun c24 => ?_)
      · have h := h.1 c24
        obtain ⟨x1_29, ex1_29⟩ : ∃ w : Int32, w = x1 + (1 : Int32) := ⟨_, rfl⟩
        have h := h x1_29 ex1_29
        refine lv_iinc (v := x1_29) (lv' := [(1, .int x1_29), (0, .ref (ad 24))]) hx hb dX5_wordHere_29 hl (k := 1) rfl (by rw [ex1_29]; rfl) (by decide) rfl (fun ls hl => ?_)
        refine lv_goto (tgt := 10) hx hb dX5_wordHere_32 (by decide) ?_
        exact hrec10 z21 x1_29 _ _ _ h hP hS (lv_sub hl [1, 0] rfl)
      · have h := h.2 c24
        refine lv_iload_n hx hb dX5_wordHere_27 rfl (lv_at hl 1 rfl) ?_
        exact g_ri hG hx hb hr hlocks hE hP hS h dX5_wordHere_28
  have L10 : ∀ (n : Nat) (z : MX) (x1 : Int32) (H : Heap) (locs : List Loc) (ls : Array Slot), pX5_wordHere_L10  post n z x1 → va_P D vwCl (WX q ad z) H → va_S A s.heap H locs → lv_has ls 2 [(0, .ref (ad 24)), (1, .int x1)] → W p l e (headSpec (cW yX5_wordHere cX5_wordHere 2 (some .int)) ({ frames := 5, cells := 0, slots := 0, locals := 107 } : Room)).room s m args below meth c H locs 0 0 (MQ below (va_Qi post (gB D vwCl (WX q ad) (xE D q ad A)) A) args s 0 0 A) (F0 m 10 ls []) := by
    intro n
    induction n with
    | zero =>
      intro z x1 H locs ls h
      exact False.elim h
    | succ n ih =>
      intro z x1 H locs ls h hP hS hl
      exact B10 (pX5_wordHere_L10  post n) ih z x1 H locs ls h hP hS hl
  refine g_entry (vs := [.ref (ad 24)]) hargs (Nat.le_of_ble_eq_true rfl) (fun ls hl => ?_)
  have hl : lv_has ls 2 [(0, .ref (ad 24))] := hl
  unfold pX5_wordHere at h
  refine lv_aload_n hx hb dX5_wordHere_0 rfl (lv_at hl 0 rfl) ?_
  refine va_get (D := D) (ci := 5) (v := .int (z.1 24 5)) (C := RX5) (T := TX5) (N := 9) hx hb ht tl_X5 hown hK hP 24 (wx_24 q ad z) rfl 5 (by decide) (ht _ tw_fl_X5_46) (fun _ h9 => h9) rfl dX5_wordHere_1 ?_
  refine lv_iconst (v := (1 : Int32)) hx hb dX5_wordHere_4 (by decide) ?_
  refine lv_icmp_ne (tgt := 35) hx hb dX5_wordHere_5 (by decide) (fun c5 => ?_) (fun c5 => ?_)
  · have h := h.1 c5
    refine lv_iconst (v := (-1 : Int32)) hx hb dX5_wordHere_35 (by decide) ?_
    exact g_ri hG hx hb hr hlocks hE hP hS h dX5_wordHere_36
  · have h := h.2 c5
    refine lv_iconst (v := (0 : Int32)) hx hb dX5_wordHere_8 (by decide) ?_
    refine lv_istore_n (lv' := [(1, .int (0 : Int32)), (0, .ref (ad 24))]) hx hb dX5_wordHere_9 rfl hl (by decide) rfl (fun ls hl => ?_)
    obtain ⟨n, h⟩ := h
    exact L10 n z (0 : Int32) _ _ _ h hP hS (lv_sub hl [1, 0] rfl)
def pX5_takeNumber_b47 (post : Int32 → MX → Prop) (z : MX) : Prop :=
    (((1 : Int32) = 0 ∨ (1 : Int32) = 1) ∧ post (1 : Int32) z)
def pX5_takeNumber_b39 (post : Int32 → MX → Prop) (z : MX) : Prop :=
    pX5_blame z (3 : Int32) (fun (r41 : Int32) (z41 : MX) =>
    ((r41 = 0 →
      (((0 : Int32) = 0 ∨ (0 : Int32) = 1) ∧ post (0 : Int32) z41)) ∧
    (¬ r41 = 0 →
      pX5_takeNumber_b47  post z41)))
def pX5_takeNumber (z : MX) (x1 : Int32) (x2 : Int32) (post : Int32 → MX → Prop) : Prop :=
  pX5_nextToken z (fun (r1 : Int32) (z1 : MX) =>
  ((¬ r1 = 0 →
    (((z1.1 24 5) = (2 : Int32) →
      (((z1.1 24 8) < x1 →
        pX5_takeNumber_b39  post z1) ∧
      (¬ (z1.1 24 8) < x1 →
        (((z1.1 24 8) ≤ x2 →
          pX5_takeNumber_b47  post z1) ∧
        (¬ (z1.1 24 8) ≤ x2 →
          pX5_takeNumber_b39  post z1))))) ∧
    (¬ (z1.1 24 5) = (2 : Int32) →
      pX5_blame z1 (2 : Int32) (fun (r19 : Int32) (z19 : MX) =>
      ((r19 = 0 ∨ r19 = 1) ∧ post r19 z19))))) ∧
  (r1 = 0 →
    (((0 : Int32) = 0 ∨ (0 : Int32) = 1) ∧ post (0 : Int32) z1))))
set_option maxHeartbeats 4000000 in
set_option maxRecDepth 100000 in
theorem kX5_takeNumber (l : Launch) (D : va_G) (q : Nat → ClassId) (ad : Nat → Nat) (A : Nat → Prop) (hD : ∀ z, va_D A (WX q ad z)) (z : MX) (x1 : Int32) (x2 : Int32) (post : Int32 → MX → Prop) (h : pX5_takeNumber  z x1 x2 post) : Met l yX5_takeNumber (cW yX5_takeNumber cX5_takeNumber 3 (some .boolean)) ({ frames := 2, cells := 0, slots := 0, locals := 45 } : Room) (va_Pc [.ref (ad 24), .int x1, .int x2] ((gB D vwCl (WX q ad) (xE D q ad A)) z)) (va_Qi post (gB D vwCl (WX q ad) (xE D q ad A)) A) 0 0 A := by
  refine Met.ofW (cc := cX5_takeNumber) (maxL := 3) (ret := (some .boolean)) (by decide) rfl ?_
  intro p e s m args below meth c s₁ B hml hv
  obtain ⟨hargs, hP, hE⟩ := hv
  have hx := B.exec
  have hb := B.bytes
  have hr := B.returns
  have hts := atoms_spec (ws := (cW yX5_takeNumber cX5_takeNumber 3 (some .boolean))) B.pre
  have ht : ∀ w ∈ tG, w.before args s = true := fun w h => hts w (List.mem_cons_of_mem _ h)
  have hown : s.vm.findClass RX5 = some m.cls := findClass_of_methodNamed B.named
  have hlocks := B.notSynchronized
  have hK := hE.1
  have hG := xE_G D q ad A
  have S : CallFix p m c cX5_takeNumber 3 s args tG RX5 := ⟨hx, hb, hml, hown, ht⟩
  have hS : va_S A s.heap s.heap [] := va_S.rf
  have B47 : ∀ (z : MX) (H : Heap) (locs : List Loc) (ls : Array Slot), pX5_takeNumber_b47  post z → va_P D vwCl (WX q ad z) H → va_S A s.heap H locs → lv_has ls 3 [] → W p l e (headSpec (cW yX5_takeNumber cX5_takeNumber 3 (some .boolean)) ({ frames := 2, cells := 0, slots := 0, locals := 45 } : Room)).room s m args below meth c H locs 0 0 (MQ below (va_Qi post (gB D vwCl (WX q ad) (xE D q ad A)) A) args s 0 0 A) (F0 m 47 ls []) := by
    intro z H locs ls h hP hS hl
    unfold pX5_takeNumber_b47 at h
    refine lv_iconst (v := (1 : Int32)) hx hb dX5_takeNumber_47 (by decide) ?_
    refine lv_goto (tgt := 52) hx hb dX5_takeNumber_48 (by decide) ?_
    exact g_rz hG hx hb hr hlocks hE hP hS h dX5_takeNumber_52
  have B39 : ∀ (z : MX) (H : Heap) (locs : List Loc) (ls : Array Slot), pX5_takeNumber_b39  post z → va_P D vwCl (WX q ad z) H → va_S A s.heap H locs → lv_has ls 3 [(0, .ref (ad 24))] → W p l e (headSpec (cW yX5_takeNumber cX5_takeNumber 3 (some .boolean)) ({ frames := 2, cells := 0, slots := 0, locals := 45 } : Room)).room s m args below meth c H locs 0 0 (MQ below (va_Qi post (gB D vwCl (WX q ad) (xE D q ad A)) A) args s 0 0 A) (F0 m 39 ls []) := by
    intro z H locs ls h hP hS hl
    unfold pX5_takeNumber_b39 at h
    refine lv_aload_n hx hb dX5_takeNumber_39 rfl (lv_at hl 0 rfl) ?_
    refine lv_iconst (v := (3 : Int32)) hx hb dX5_takeNumber_40 (by decide) ?_
    refine g_cVi (Wd := WX q ad) (z := z) (As := [.int (3 : Int32)]) (rest := []) hG S (kX5_blame l D q ad A hD z (3 : Int32) _ h) (cwV 1 ht (cW_V (fun _ h => h) tw_co_X5_blame tw_ml_X5_69 tw_im_X5_blame tw_se_X5_blame tw_in_X5) rfl rfl rfl (by decide +kernel) ⟨by decide, by decide⟩) (va_recv hK hP (ci := 5) (q0 := 24) rfl (wx_24 q ad z)) hE hP hS rfl hl.1 rfl (Nat.le_of_ble_eq_true rfl) dX5_takeNumber_41 ⟨Nat.zero_le _, Nat.zero_le _⟩ (fun r41 z41 H locs h hP hS => ?_)
    refine lv_if_eq (tgt := 51) hx hb dX5_takeNumber_44 (by decide) (fun c44 => ?_) (fun c44 => ?_)
    · have h := h.1 c44
      refine lv_iconst (v := (0 : Int32)) hx hb dX5_takeNumber_51 (by decide) ?_
      exact g_rz hG hx hb hr hlocks hE hP hS h dX5_takeNumber_52
    · have h := h.2 c44
      exact B47 z41 _ _ _ h hP hS (lv_sub hl [] rfl)
  refine g_entry (vs := [.ref (ad 24), .int x1, .int x2]) hargs (Nat.le_of_ble_eq_true rfl) (fun ls hl => ?_)
  have hl : lv_has ls 3 [(0, .ref (ad 24)), (1, .int x1), (2, .int x2)] := hl
  unfold pX5_takeNumber at h
  refine lv_aload_n hx hb dX5_takeNumber_0 rfl (lv_at hl 0 rfl) ?_
  refine g_cVi (Wd := WX q ad) (z := z) (As := []) (rest := []) hG S (kX5_nextToken l D q ad A hD z _ h) (cwV 0 ht (cW_V (fun _ h => h) tw_co_X5_nextToken tw_ml_X5_42 tw_im_X5_nextToken tw_se_X5_nextToken tw_in_X5) rfl rfl rfl (by decide +kernel) ⟨by decide, by decide⟩) (va_recv hK hP (ci := 5) (q0 := 24) rfl (wx_24 q ad z)) hE hP hS rfl hl.1 rfl (Nat.le_of_ble_eq_true rfl) dX5_takeNumber_1 ⟨Nat.zero_le _, Nat.zero_le _⟩ (fun r1 z1 H locs h hP hS => ?_)
  refine lv_if_ne (tgt := 9) hx hb dX5_takeNumber_4 (by decide) (fun c4 => ?_) (fun c4 => ?_)
  · have h := h.1 c4
    refine lv_aload_n hx hb dX5_takeNumber_9 rfl (lv_at hl 0 rfl) ?_
    refine va_get (D := D) (ci := 5) (v := .int (z1.1 24 5)) (C := RX5) (T := TX5) (N := 9) hx hb ht tl_X5 hown hK hP 24 (wx_24 q ad z1) rfl 5 (by decide) (ht _ tw_fl_X5_46) (fun _ h9 => h9) rfl dX5_takeNumber_10 ?_
    refine lv_iconst (v := (2 : Int32)) hx hb dX5_takeNumber_13 (by decide) ?_
    refine lv_icmp_eq (tgt := 23) hx hb dX5_takeNumber_14 (by decide) (fun c14 => ?_) (fun c14 => ?_)
    · have h := h.1 c14
      refine lv_aload_n hx hb dX5_takeNumber_23 rfl (lv_at hl 0 rfl) ?_
      refine va_get (D := D) (ci := 5) (v := .int (z1.1 24 8)) (C := RX5) (T := TX5) (N := 9) hx hb ht tl_X5 hown hK hP 24 (wx_24 q ad z1) rfl 8 (by decide) (ht _ tw_fl_X5_80) (fun _ h9 => h9) rfl dX5_takeNumber_24 ?_
      refine lv_iload_n hx hb dX5_takeNumber_27 rfl (lv_at hl 1 rfl) ?_
      refine lv_icmp_lt (tgt := 39) hx hb dX5_takeNumber_28 (by decide) (fun c28 => ?_) (fun c28 => ?_)
      · have h := h.1 c28
        exact B39 z1 _ _ _ h hP hS (lv_sub hl [0] rfl)
      · have h := h.2 c28
        refine lv_aload_n hx hb dX5_takeNumber_31 rfl (lv_at hl 0 rfl) ?_
        refine va_get (D := D) (ci := 5) (v := .int (z1.1 24 8)) (C := RX5) (T := TX5) (N := 9) hx hb ht tl_X5 hown hK hP 24 (wx_24 q ad z1) rfl 8 (by decide) (ht _ tw_fl_X5_80) (fun _ h9 => h9) rfl dX5_takeNumber_32 ?_
        refine lv_iload_n hx hb dX5_takeNumber_35 rfl (lv_at hl 2 rfl) ?_
        refine lv_icmp_le (tgt := 47) hx hb dX5_takeNumber_36 (by decide) (fun c36 => ?_) (fun c36 => ?_)
        · have h := h.1 c36
          exact B47 z1 _ _ _ h hP hS (lv_sub hl [] rfl)
        · have h := h.2 c36
          exact B39 z1 _ _ _ h hP hS (lv_sub hl [0] rfl)
    · have h := h.2 c14
      refine lv_aload_n hx hb dX5_takeNumber_17 rfl (lv_at hl 0 rfl) ?_
      refine lv_iconst (v := (2 : Int32)) hx hb dX5_takeNumber_18 (by decide) ?_
      refine g_cVi (Wd := WX q ad) (z := z1) (As := [.int (2 : Int32)]) (rest := []) hG S (kX5_blame l D q ad A hD z1 (2 : Int32) _ h) (cwV 1 ht (cW_V (fun _ h => h) tw_co_X5_blame tw_ml_X5_69 tw_im_X5_blame tw_se_X5_blame tw_in_X5) rfl rfl rfl (by decide +kernel) ⟨by decide, by decide⟩) (va_recv hK hP (ci := 5) (q0 := 24) rfl (wx_24 q ad z1)) hE hP hS rfl hl.1 rfl (Nat.le_of_ble_eq_true rfl) dX5_takeNumber_19 ⟨Nat.zero_le _, Nat.zero_le _⟩ (fun r19 z19 H locs h hP hS => ?_)
      exact g_rz hG hx hb hr hlocks hE hP hS h dX5_takeNumber_22
  · have h := h.2 c4
    refine lv_iconst (v := (0 : Int32)) hx hb dX5_takeNumber_7 (by decide) ?_
    exact g_rz hG hx hb hr hlocks hE hP hS h dX5_takeNumber_8
def pX5_takeBlocks (i : Nat) (z : MX) (post : Int32 → MX → Prop) : Prop :=
  (((z.1 24 4) = 0 →
    pX5_takeNumber z (2 : Int32) (8 : Int32) (fun (r17 : Int32) (z17 : MX) =>
    ((¬ r17 = 0 →
      ∀ z27 : MX, z27 = mw z17 24 4 (1 : Int32) →
      ∀ z35 : MX, z35 = mw z27 (4 * i) 0 (z27.1 24 8) →
      (((1 : Int32) = 0 ∨ (1 : Int32) = 1) ∧ post (1 : Int32) z35)) ∧
    (r17 = 0 →
      (((0 : Int32) = 0 ∨ (0 : Int32) = 1) ∧ post (0 : Int32) z17))))) ∧
  (¬ (z.1 24 4) = 0 →
    pX5_blame z (4 : Int32) (fun (r9 : Int32) (z9 : MX) =>
    ((r9 = 0 ∨ r9 = 1) ∧ post r9 z9))))
set_option maxHeartbeats 4000000 in
set_option maxRecDepth 100000 in
theorem kX5_takeBlocks (l : Launch) (D : va_G) (q : Nat → ClassId) (ad : Nat → Nat) (A : Nat → Prop) (hD : ∀ z, va_D A (WX q ad z)) (i : Nat) (hi : i < 4) (z : MX) (post : Int32 → MX → Prop) (h : pX5_takeBlocks i z post) : Met l yX5_takeBlocks (cW yX5_takeBlocks cX5_takeBlocks 2 (some .boolean)) ({ frames := 3, cells := 0, slots := 0, locals := 67 } : Room) (va_Pc [.ref (ad 24), .ref (ad (4 * i))] ((gB D vwCl (WX q ad) (xE D q ad A)) z)) (va_Qi post (gB D vwCl (WX q ad) (xE D q ad A)) A) 0 0 A := by
  refine Met.ofW (cc := cX5_takeBlocks) (maxL := 2) (ret := (some .boolean)) (by decide) rfl ?_
  intro p e s m args below meth c s₁ B hml hv
  obtain ⟨hargs, hP, hE⟩ := hv
  have hx := B.exec
  have hb := B.bytes
  have hr := B.returns
  have hts := atoms_spec (ws := (cW yX5_takeBlocks cX5_takeBlocks 2 (some .boolean))) B.pre
  have ht : ∀ w ∈ tG, w.before args s = true := fun w h => hts w (List.mem_cons_of_mem _ h)
  have hown : s.vm.findClass RX5 = some m.cls := findClass_of_methodNamed B.named
  have hlocks := B.notSynchronized
  have hK := hE.1
  have hG := xE_G D q ad A
  have S : CallFix p m c cX5_takeBlocks 2 s args tG RX5 := ⟨hx, hb, hml, hown, ht⟩
  have hS : va_S A s.heap s.heap [] := va_S.rf
  refine g_entry (vs := [.ref (ad 24), .ref (ad (4 * i))]) hargs (Nat.le_of_ble_eq_true rfl) (fun ls hl => ?_)
  have hl : lv_has ls 2 [(0, .ref (ad 24)), (1, .ref (ad (4 * i)))] := hl
  unfold pX5_takeBlocks at h
  refine lv_aload_n hx hb dX5_takeBlocks_0 rfl (lv_at hl 0 rfl) ?_
  refine va_get (D := D) (ci := 5) (v := .int (z.1 24 4)) (C := RX5) (T := TX5) (N := 9) hx hb ht tl_X5 hown hK hP 24 (wx_24 q ad z) rfl 4 (by decide) (ht _ tw_fl_X5_27) (fun _ h9 => h9) rfl dX5_takeBlocks_1 ?_
  refine lv_if_eq (tgt := 13) hx hb dX5_takeBlocks_4 (by decide) (fun c4 => ?_) (fun c4 => ?_)
  · have h := h.1 c4
    refine lv_aload_n hx hb dX5_takeBlocks_13 rfl (lv_at hl 0 rfl) ?_
    refine lv_iconst (v := (2 : Int32)) hx hb dX5_takeBlocks_14 (by decide) ?_
    refine lv_bipush (v := (8 : Int32)) hx hb dX5_takeBlocks_15 (by decide) ?_
    refine g_cVi (Wd := WX q ad) (z := z) (As := [.int (2 : Int32), .int (8 : Int32)]) (rest := []) hG S (kX5_takeNumber l D q ad A hD z (2 : Int32) (8 : Int32) _ h) (cwV 2 ht (cW_V (fun _ h => h) tw_co_X5_takeNumber tw_ml_X5_76 tw_im_X5_takeNumber tw_se_X5_takeNumber tw_in_X5) rfl rfl rfl (by decide +kernel) ⟨by decide, by decide⟩) (va_recv hK hP (ci := 5) (q0 := 24) rfl (wx_24 q ad z)) hE hP hS rfl hl.1 rfl (Nat.le_of_ble_eq_true rfl) dX5_takeBlocks_17 ⟨Nat.zero_le _, Nat.zero_le _⟩ (fun r17 z17 H locs h hP hS => ?_)
    refine lv_if_ne (tgt := 25) hx hb dX5_takeBlocks_20 (by decide) (fun c20 => ?_) (fun c20 => ?_)
    · have h := h.1 c20
      refine lv_aload_n hx hb dX5_takeBlocks_25 rfl (lv_at hl 0 rfl) ?_
      refine lv_iconst (v := (1 : Int32)) hx hb dX5_takeBlocks_26 (by decide) ?_
      refine g_put (D := D) (Wd := WX q ad) (z := z17) (ci := 5) (v := .int (1 : Int32)) (ty := .boolean) (C := RX5) (T := TX5) (N := 9) hx hb ht tl_X5 tyX5 tyX5_ok nmX5 hown hK hP (hD z17) hS 24 (wx_24 q ad z17) rfl 4 (by decide) (ht _ tw_fl_X5_27) (fun _ h9 => h9) rfl rfl rfl rfl (Nat.le_of_ble_eq_true rfl) ((px_24_4 q ad z17) (1 : Int32)) dX5_takeBlocks_27 (fun z27 H locs hz27 hP hS => ?_)
      have h := h z27 hz27
      refine lv_aload_n hx hb dX5_takeBlocks_30 rfl (lv_at hl 1 rfl) ?_
      refine lv_aload_n hx hb dX5_takeBlocks_31 rfl (lv_at hl 0 rfl) ?_
      refine va_get (D := D) (ci := 5) (v := .int (z27.1 24 8)) (C := RX5) (T := TX5) (N := 9) hx hb ht tl_X5 hown hK hP 24 (wx_24 q ad z27) rfl 8 (by decide) (ht _ tw_fl_X5_80) (fun _ h9 => h9) rfl dX5_takeBlocks_32 ?_
      refine g_put (D := D) (Wd := WX q ad) (z := z27) (ci := 0) (v := .int (z27.1 24 8)) (ty := .int) (C := RX0) (T := TX0) (N := 7) hx hb ht tl_X0 tyX0 tyX0_ok nmX0 hown hK hP (hD z27) hS (4 * i) (wxl q ad z27 hi) rfl 0 (by decide) (ht _ tw_fl_X5_83) (fun _ h9 => h9) rfl rfl rfl rfl (Nat.le_of_ble_eq_true rfl) ((pxl_0 q ad z27 hi) (z27.1 24 8)) dX5_takeBlocks_35 (fun z35 H locs hz35 hP hS => ?_)
      have h := h z35 hz35
      refine lv_iconst (v := (1 : Int32)) hx hb dX5_takeBlocks_38 (by decide) ?_
      exact g_rz hG hx hb hr hlocks hE hP hS h dX5_takeBlocks_39
    · have h := h.2 c20
      refine lv_iconst (v := (0 : Int32)) hx hb dX5_takeBlocks_23 (by decide) ?_
      exact g_rz hG hx hb hr hlocks hE hP hS h dX5_takeBlocks_24
  · have h := h.2 c4
    refine lv_aload_n hx hb dX5_takeBlocks_7 rfl (lv_at hl 0 rfl) ?_
    refine lv_iconst (v := (4 : Int32)) hx hb dX5_takeBlocks_8 (by decide) ?_
    refine g_cVi (Wd := WX q ad) (z := z) (As := [.int (4 : Int32)]) (rest := []) hG S (kX5_blame l D q ad A hD z (4 : Int32) _ h) (cwV 1 ht (cW_V (fun _ h => h) tw_co_X5_blame tw_ml_X5_69 tw_im_X5_blame tw_se_X5_blame tw_in_X5) rfl rfl rfl (by decide +kernel) ⟨by decide, by decide⟩) (va_recv hK hP (ci := 5) (q0 := 24) rfl (wx_24 q ad z)) hE hP hS rfl hl.1 rfl (Nat.le_of_ble_eq_true rfl) dX5_takeBlocks_9 ⟨Nat.zero_le _, Nat.zero_le _⟩ (fun r9 z9 H locs h hP hS => ?_)
    exact g_rz hG hx hb hr hlocks hE hP hS h dX5_takeBlocks_12
def pX5_takeOmen (i : Nat) (z : MX) (x2 : Int32) (post : Int32 → MX → Prop) : Prop :=
  pX5_takeNumber z (0 : Int32) (7 : Int32) (fun (r4 : Int32) (z4 : MX) =>
  ((¬ r4 = 0 →
    vp_in (z4.1 24 8) 8 ∧
    (((z4.1 (4 * i + 1) (Int32.toNatClampNeg (z4.1 24 8))) = 0 →
      vp_in (z4.1 24 8) 8 ∧
      ∀ z39 : MX, z39 = mw z4 (4 * i + 1) (Int32.toNatClampNeg (z4.1 24 8)) x2 →
      (((1 : Int32) = 0 ∨ (1 : Int32) = 1) ∧ post (1 : Int32) z39)) ∧
    (¬ (z4.1 (4 * i + 1) (Int32.toNatClampNeg (z4.1 24 8))) = 0 →
      pX5_blame z4 (4 : Int32) (fun (r26 : Int32) (z26 : MX) =>
      ((r26 = 0 ∨ r26 = 1) ∧ post r26 z26))))) ∧
  (r4 = 0 →
    (((0 : Int32) = 0 ∨ (0 : Int32) = 1) ∧ post (0 : Int32) z4))))
set_option maxHeartbeats 4000000 in
set_option maxRecDepth 100000 in
theorem kX5_takeOmen (l : Launch) (D : va_G) (q : Nat → ClassId) (ad : Nat → Nat) (A : Nat → Prop) (hD : ∀ z, va_D A (WX q ad z)) (i : Nat) (hi : i < 4) (z : MX) (x2 : Int32) (post : Int32 → MX → Prop) (h : pX5_takeOmen i z x2 post) : Met l yX5_takeOmen (cW yX5_takeOmen cX5_takeOmen 3 (some .boolean)) ({ frames := 3, cells := 0, slots := 0, locals := 67 } : Room) (va_Pc [.ref (ad 24), .ref (ad (4 * i)), .int x2] ((gB D vwCl (WX q ad) (xE D q ad A)) z)) (va_Qi post (gB D vwCl (WX q ad) (xE D q ad A)) A) 0 0 A := by
  refine Met.ofW (cc := cX5_takeOmen) (maxL := 3) (ret := (some .boolean)) (by decide) rfl ?_
  intro p e s m args below meth c s₁ B hml hv
  obtain ⟨hargs, hP, hE⟩ := hv
  have hx := B.exec
  have hb := B.bytes
  have hr := B.returns
  have hts := atoms_spec (ws := (cW yX5_takeOmen cX5_takeOmen 3 (some .boolean))) B.pre
  have ht : ∀ w ∈ tG, w.before args s = true := fun w h => hts w (List.mem_cons_of_mem _ h)
  have hown : s.vm.findClass RX5 = some m.cls := findClass_of_methodNamed B.named
  have hlocks := B.notSynchronized
  have hK := hE.1
  have hG := xE_G D q ad A
  have S : CallFix p m c cX5_takeOmen 3 s args tG RX5 := ⟨hx, hb, hml, hown, ht⟩
  have hS : va_S A s.heap s.heap [] := va_S.rf
  refine g_entry (vs := [.ref (ad 24), .ref (ad (4 * i)), .int x2]) hargs (Nat.le_of_ble_eq_true rfl) (fun ls hl => ?_)
  have hl : lv_has ls 3 [(0, .ref (ad 24)), (1, .ref (ad (4 * i))), (2, .int x2)] := hl
  unfold pX5_takeOmen at h
  refine lv_aload_n hx hb dX5_takeOmen_0 rfl (lv_at hl 0 rfl) ?_
  refine lv_iconst (v := (0 : Int32)) hx hb dX5_takeOmen_1 (by decide) ?_
  refine lv_bipush (v := (7 : Int32)) hx hb dX5_takeOmen_2 (by decide) ?_
  refine g_cVi (Wd := WX q ad) (z := z) (As := [.int (0 : Int32), .int (7 : Int32)]) (rest := []) hG S (kX5_takeNumber l D q ad A hD z (0 : Int32) (7 : Int32) _ h) (cwV 2 ht (cW_V (fun _ h => h) tw_co_X5_takeNumber tw_ml_X5_76 tw_im_X5_takeNumber tw_se_X5_takeNumber tw_in_X5) rfl rfl rfl (by decide +kernel) ⟨by decide, by decide⟩) (va_recv hK hP (ci := 5) (q0 := 24) rfl (wx_24 q ad z)) hE hP hS rfl hl.1 rfl (Nat.le_of_ble_eq_true rfl) dX5_takeOmen_4 ⟨Nat.zero_le _, Nat.zero_le _⟩ (fun r4 z4 H locs h hP hS => ?_)
  refine lv_if_ne (tgt := 12) hx hb dX5_takeOmen_7 (by decide) (fun c7 => ?_) (fun c7 => ?_)
  · have h := h.1 c7
    refine lv_aload_n hx hb dX5_takeOmen_12 rfl (lv_at hl 1 rfl) ?_
    refine va_get (D := D) (ci := 0) (v := .ref (ad (4 * i + 1))) (C := RX0) (T := TX0) (N := 7) hx hb ht tl_X0 hown hK hP (4 * i) (wxl q ad z4 hi) rfl 4 (by decide) (ht _ tw_fl_X5_86) (fun _ h9 => h9) rfl dX5_takeOmen_13 ?_
    refine lv_aload_n hx hb dX5_takeOmen_16 rfl (lv_at hl 0 rfl) ?_
    refine va_get (D := D) (ci := 5) (v := .int (z4.1 24 8)) (C := RX5) (T := TX5) (N := 9) hx hb ht tl_X5 hown hK hP 24 (wx_24 q ad z4) rfl 8 (by decide) (ht _ tw_fl_X5_80) (fun _ h9 => h9) rfl dX5_takeOmen_17 ?_
    have hi20 := h.1
    have h := h.2
    refine va_iald hx hb hK hP (4 * i + 1) 0 (wxl1 q ad z4 hi) rfl hi20 dX5_takeOmen_20 ?_
    refine lv_if_eq (tgt := 30) hx hb dX5_takeOmen_21 (by decide) (fun c21 => ?_) (fun c21 => ?_)
    · have h := h.1 c21
      refine lv_aload_n hx hb dX5_takeOmen_30 rfl (lv_at hl 1 rfl) ?_
      refine va_get (D := D) (ci := 0) (v := .ref (ad (4 * i + 1))) (C := RX0) (T := TX0) (N := 7) hx hb ht tl_X0 hown hK hP (4 * i) (wxl q ad z4 hi) rfl 4 (by decide) (ht _ tw_fl_X5_86) (fun _ h9 => h9) rfl dX5_takeOmen_31 ?_
      refine lv_aload_n hx hb dX5_takeOmen_34 rfl (lv_at hl 0 rfl) ?_
      refine va_get (D := D) (ci := 5) (v := .int (z4.1 24 8)) (C := RX5) (T := TX5) (N := 9) hx hb ht tl_X5 hown hK hP 24 (wx_24 q ad z4) rfl 8 (by decide) (ht _ tw_fl_X5_80) (fun _ h9 => h9) rfl dX5_takeOmen_35 ?_
      refine lv_iload_n hx hb dX5_takeOmen_38 rfl (lv_at hl 2 rfl) ?_
      have hi39 := h.1
      have h := h.2
      refine g_iast (Wd := WX q ad) (z := z4) hx hb hK hP (hD z4) hS (4 * i + 1) (wxl1 q ad z4 hi) rfl (axl1 q ad z4 hi) hi39 dX5_takeOmen_39 (fun z39 H locs hz39 hP hS => ?_)
      have h := h z39 hz39
      refine lv_iconst (v := (1 : Int32)) hx hb dX5_takeOmen_40 (by decide) ?_
      exact g_rz hG hx hb hr hlocks hE hP hS h dX5_takeOmen_41
    · have h := h.2 c21
      refine lv_aload_n hx hb dX5_takeOmen_24 rfl (lv_at hl 0 rfl) ?_
      refine lv_iconst (v := (4 : Int32)) hx hb dX5_takeOmen_25 (by decide) ?_
      refine g_cVi (Wd := WX q ad) (z := z4) (As := [.int (4 : Int32)]) (rest := []) hG S (kX5_blame l D q ad A hD z4 (4 : Int32) _ h) (cwV 1 ht (cW_V (fun _ h => h) tw_co_X5_blame tw_ml_X5_69 tw_im_X5_blame tw_se_X5_blame tw_in_X5) rfl rfl rfl (by decide +kernel) ⟨by decide, by decide⟩) (va_recv hK hP (ci := 5) (q0 := 24) rfl (wx_24 q ad z4)) hE hP hS rfl hl.1 rfl (Nat.le_of_ble_eq_true rfl) dX5_takeOmen_26 ⟨Nat.zero_le _, Nat.zero_le _⟩ (fun r26 z26 H locs h hP hS => ?_)
      exact g_rz hG hx hb hr hlocks hE hP hS h dX5_takeOmen_29
  · have h := h.2 c7
    refine lv_iconst (v := (0 : Int32)) hx hb dX5_takeOmen_10 (by decide) ?_
    exact g_rz hG hx hb hr hlocks hE hP hS h dX5_takeOmen_11
def pX5_takeGuard (i : Nat) (z : MX) (post : Int32 → MX → Prop) : Prop :=
  pX5_takeNumber z (0 : Int32) (7 : Int32) (fun (r4 : Int32) (z4 : MX) =>
  ((¬ r4 = 0 →
    pX0_isGuarded i z4 (z4.1 24 8) (fun (r17 : Int32) (z17 : MX) =>
    ((r17 = 0 →
      ∀ z41 : MX, z41 = mw z17 (4 * i) 1 ((z17.1 (4 * i) 1) ||| ((1 : Int32) <<< ((z17.1 24 8) &&& 31))) →
      (((1 : Int32) = 0 ∨ (1 : Int32) = 1) ∧ post (1 : Int32) z41)) ∧
    (¬ r17 = 0 →
      pX5_blame z17 (4 : Int32) (fun (r25 : Int32) (z25 : MX) =>
      ((r25 = 0 ∨ r25 = 1) ∧ post r25 z25)))))) ∧
  (r4 = 0 →
    (((0 : Int32) = 0 ∨ (0 : Int32) = 1) ∧ post (0 : Int32) z4))))
set_option maxHeartbeats 4000000 in
set_option maxRecDepth 100000 in
theorem kX5_takeGuard (l : Launch) (D : va_G) (q : Nat → ClassId) (ad : Nat → Nat) (A : Nat → Prop) (hD : ∀ z, va_D A (WX q ad z)) (i : Nat) (hi : i < 4) (z : MX) (post : Int32 → MX → Prop) (h : pX5_takeGuard i z post) : Met l yX5_takeGuard (cW yX5_takeGuard cX5_takeGuard 2 (some .boolean)) ({ frames := 3, cells := 0, slots := 0, locals := 67 } : Room) (va_Pc [.ref (ad 24), .ref (ad (4 * i))] ((gB D vwCl (WX q ad) (xE D q ad A)) z)) (va_Qi post (gB D vwCl (WX q ad) (xE D q ad A)) A) 0 0 A := by
  refine Met.ofW (cc := cX5_takeGuard) (maxL := 2) (ret := (some .boolean)) (by decide) rfl ?_
  intro p e s m args below meth c s₁ B hml hv
  obtain ⟨hargs, hP, hE⟩ := hv
  have hx := B.exec
  have hb := B.bytes
  have hr := B.returns
  have hts := atoms_spec (ws := (cW yX5_takeGuard cX5_takeGuard 2 (some .boolean))) B.pre
  have ht : ∀ w ∈ tG, w.before args s = true := fun w h => hts w (List.mem_cons_of_mem _ h)
  have hown : s.vm.findClass RX5 = some m.cls := findClass_of_methodNamed B.named
  have hlocks := B.notSynchronized
  have hK := hE.1
  have hG := xE_G D q ad A
  have S : CallFix p m c cX5_takeGuard 2 s args tG RX5 := ⟨hx, hb, hml, hown, ht⟩
  have hS : va_S A s.heap s.heap [] := va_S.rf
  refine g_entry (vs := [.ref (ad 24), .ref (ad (4 * i))]) hargs (Nat.le_of_ble_eq_true rfl) (fun ls hl => ?_)
  have hl : lv_has ls 2 [(0, .ref (ad 24)), (1, .ref (ad (4 * i)))] := hl
  unfold pX5_takeGuard at h
  refine lv_aload_n hx hb dX5_takeGuard_0 rfl (lv_at hl 0 rfl) ?_
  refine lv_iconst (v := (0 : Int32)) hx hb dX5_takeGuard_1 (by decide) ?_
  refine lv_bipush (v := (7 : Int32)) hx hb dX5_takeGuard_2 (by decide) ?_
  refine g_cVi (Wd := WX q ad) (z := z) (As := [.int (0 : Int32), .int (7 : Int32)]) (rest := []) hG S (kX5_takeNumber l D q ad A hD z (0 : Int32) (7 : Int32) _ h) (cwV 2 ht (cW_V (fun _ h => h) tw_co_X5_takeNumber tw_ml_X5_76 tw_im_X5_takeNumber tw_se_X5_takeNumber tw_in_X5) rfl rfl rfl (by decide +kernel) ⟨by decide, by decide⟩) (va_recv hK hP (ci := 5) (q0 := 24) rfl (wx_24 q ad z)) hE hP hS rfl hl.1 rfl (Nat.le_of_ble_eq_true rfl) dX5_takeGuard_4 ⟨Nat.zero_le _, Nat.zero_le _⟩ (fun r4 z4 H locs h hP hS => ?_)
  refine lv_if_ne (tgt := 12) hx hb dX5_takeGuard_7 (by decide) (fun c7 => ?_) (fun c7 => ?_)
  · have h := h.1 c7
    refine lv_aload_n hx hb dX5_takeGuard_12 rfl (lv_at hl 1 rfl) ?_
    refine lv_aload_n hx hb dX5_takeGuard_13 rfl (lv_at hl 0 rfl) ?_
    refine va_get (D := D) (ci := 5) (v := .int (z4.1 24 8)) (C := RX5) (T := TX5) (N := 9) hx hb ht tl_X5 hown hK hP 24 (wx_24 q ad z4) rfl 8 (by decide) (ht _ tw_fl_X5_80) (fun _ h9 => h9) rfl dX5_takeGuard_14 ?_
    refine g_cVi (Wd := WX q ad) (z := z4) (As := [.int (z4.1 24 8)]) (rest := []) hG S (kX0_isGuarded l D q ad A hD i hi z4 (z4.1 24 8) _ h) (cwV 1 ht (cW_V (fun _ h => h) tw_co_X0_isGuarded tw_ml_X5_89 tw_im_X0_isGuarded tw_se_X0_isGuarded tw_in_X0) rfl rfl rfl (by decide +kernel) ⟨by decide, by decide⟩) (va_recv hK hP (ci := 0) (q0 := (4 * i)) rfl (wxl q ad z4 hi)) hE hP hS rfl hl.1 rfl (Nat.le_of_ble_eq_true rfl) dX5_takeGuard_17 ⟨Nat.zero_le _, Nat.zero_le _⟩ (fun r17 z17 H locs h hP hS => ?_)
    refine lv_if_eq (tgt := 29) hx hb dX5_takeGuard_20 (by decide) (fun c20 => ?_) (fun c20 => ?_)
    · have h := h.1 c20
      refine lv_aload_n hx hb dX5_takeGuard_29 rfl (lv_at hl 1 rfl) ?_
      refine lv_dup hx hb dX5_takeGuard_30 rfl ?_
      refine va_get (D := D) (ci := 0) (v := .int (z17.1 (4 * i) 1)) (C := RX0) (T := TX0) (N := 7) hx hb ht tl_X0 hown hK hP (4 * i) (wxl q ad z17 hi) rfl 1 (by decide) (ht _ tw_fl_X5_92) (fun _ h9 => h9) rfl dX5_takeGuard_31 ?_
      refine lv_iconst (v := (1 : Int32)) hx hb dX5_takeGuard_34 (by decide) ?_
      refine lv_aload_n hx hb dX5_takeGuard_35 rfl (lv_at hl 0 rfl) ?_
      refine va_get (D := D) (ci := 5) (v := .int (z17.1 24 8)) (C := RX5) (T := TX5) (N := 9) hx hb ht tl_X5 hown hK hP 24 (wx_24 q ad z17) rfl 8 (by decide) (ht _ tw_fl_X5_80) (fun _ h9 => h9) rfl dX5_takeGuard_36 ?_
      refine lv_ishl hx hb dX5_takeGuard_39 ?_
      refine lv_ior hx hb dX5_takeGuard_40 ?_
      refine g_put (D := D) (Wd := WX q ad) (z := z17) (ci := 0) (v := .int ((z17.1 (4 * i) 1) ||| ((1 : Int32) <<< ((z17.1 24 8) &&& 31)))) (ty := .int) (C := RX0) (T := TX0) (N := 7) hx hb ht tl_X0 tyX0 tyX0_ok nmX0 hown hK hP (hD z17) hS (4 * i) (wxl q ad z17 hi) rfl 1 (by decide) (ht _ tw_fl_X5_92) (fun _ h9 => h9) rfl rfl rfl rfl (Nat.le_of_ble_eq_true rfl) ((pxl_1 q ad z17 hi) ((z17.1 (4 * i) 1) ||| ((1 : Int32) <<< ((z17.1 24 8) &&& 31)))) dX5_takeGuard_41 (fun z41 H locs hz41 hP hS => ?_)
      have h := h z41 hz41
      refine lv_iconst (v := (1 : Int32)) hx hb dX5_takeGuard_44 (by decide) ?_
      exact g_rz hG hx hb hr hlocks hE hP hS h dX5_takeGuard_45
    · have h := h.2 c20
      refine lv_aload_n hx hb dX5_takeGuard_23 rfl (lv_at hl 0 rfl) ?_
      refine lv_iconst (v := (4 : Int32)) hx hb dX5_takeGuard_24 (by decide) ?_
      refine g_cVi (Wd := WX q ad) (z := z17) (As := [.int (4 : Int32)]) (rest := []) hG S (kX5_blame l D q ad A hD z17 (4 : Int32) _ h) (cwV 1 ht (cW_V (fun _ h => h) tw_co_X5_blame tw_ml_X5_69 tw_im_X5_blame tw_se_X5_blame tw_in_X5) rfl rfl rfl (by decide +kernel) ⟨by decide, by decide⟩) (va_recv hK hP (ci := 5) (q0 := 24) rfl (wx_24 q ad z17)) hE hP hS rfl hl.1 rfl (Nat.le_of_ble_eq_true rfl) dX5_takeGuard_25 ⟨Nat.zero_le _, Nat.zero_le _⟩ (fun r25 z25 H locs h hP hS => ?_)
      exact g_rz hG hx hb hr hlocks hE hP hS h dX5_takeGuard_28
  · have h := h.2 c7
    refine lv_iconst (v := (0 : Int32)) hx hb dX5_takeGuard_10 (by decide) ?_
    exact g_rz hG hx hb hr hlocks hE hP hS h dX5_takeGuard_11
def pX5_takeLock (i : Nat) (z : MX) (post : Int32 → MX → Prop) : Prop :=
  (((z.1 (4 * i) 2) < (4 : Int32) →
    pX5_takeNumber z (0 : Int32) (7 : Int32) (fun (r18 : Int32) (z18 : MX) =>
    ((¬ r18 = 0 →
      ∀ x2_30 : Int32, x2_30 = z18.1 24 8 →
      pX5_takeNumber z18 (0 : Int32) (7 : Int32) (fun (r35 : Int32) (z35 : MX) =>
      ((¬ r35 = 0 →
        ((¬ (z35.1 24 8) = x2_30 →
          vp_in ((2 : Int32) * (z35.1 (4 * i) 2)) 8 ∧
          ∀ z68 : MX, z68 = mw z35 (4 * i + 2) (Int32.toNatClampNeg ((2 : Int32) * (z35.1 (4 * i) 2))) x2_30 →
          vp_in (((2 : Int32) * (z68.1 (4 * i) 2)) + (1 : Int32)) 8 ∧
          ∀ z85 : MX, z85 = mw z68 (4 * i + 2) (Int32.toNatClampNeg (((2 : Int32) * (z68.1 (4 * i) 2)) + (1 : Int32))) (z68.1 24 8) →
          ∀ z93 : MX, z93 = mw z85 (4 * i) 2 ((z85.1 (4 * i) 2) + (1 : Int32)) →
          (((1 : Int32) = 0 ∨ (1 : Int32) = 1) ∧ post (1 : Int32) z93)) ∧
        ((z35.1 24 8) = x2_30 →
          pX5_blame z35 (3 : Int32) (fun (r53 : Int32) (z53 : MX) =>
          ((r53 = 0 ∨ r53 = 1) ∧ post r53 z53))))) ∧
      (r35 = 0 →
        (((0 : Int32) = 0 ∨ (0 : Int32) = 1) ∧ post (0 : Int32) z35))))) ∧
    (r18 = 0 →
      (((0 : Int32) = 0 ∨ (0 : Int32) = 1) ∧ post (0 : Int32) z18))))) ∧
  (¬ (z.1 (4 * i) 2) < (4 : Int32) →
    pX5_blame z (5 : Int32) (fun (r10 : Int32) (z10 : MX) =>
    ((r10 = 0 ∨ r10 = 1) ∧ post r10 z10))))
set_option maxHeartbeats 4000000 in
set_option maxRecDepth 100000 in
theorem kX5_takeLock (l : Launch) (D : va_G) (q : Nat → ClassId) (ad : Nat → Nat) (A : Nat → Prop) (hD : ∀ z, va_D A (WX q ad z)) (i : Nat) (hi : i < 4) (z : MX) (post : Int32 → MX → Prop) (h : pX5_takeLock i z post) : Met l yX5_takeLock (cW yX5_takeLock cX5_takeLock 3 (some .boolean)) ({ frames := 3, cells := 0, slots := 0, locals := 67 } : Room) (va_Pc [.ref (ad 24), .ref (ad (4 * i))] ((gB D vwCl (WX q ad) (xE D q ad A)) z)) (va_Qi post (gB D vwCl (WX q ad) (xE D q ad A)) A) 0 0 A := by
  refine Met.ofW (cc := cX5_takeLock) (maxL := 3) (ret := (some .boolean)) (by decide) rfl ?_
  intro p e s m args below meth c s₁ B hml hv
  obtain ⟨hargs, hP, hE⟩ := hv
  have hx := B.exec
  have hb := B.bytes
  have hr := B.returns
  have hts := atoms_spec (ws := (cW yX5_takeLock cX5_takeLock 3 (some .boolean))) B.pre
  have ht : ∀ w ∈ tG, w.before args s = true := fun w h => hts w (List.mem_cons_of_mem _ h)
  have hown : s.vm.findClass RX5 = some m.cls := findClass_of_methodNamed B.named
  have hlocks := B.notSynchronized
  have hK := hE.1
  have hG := xE_G D q ad A
  have S : CallFix p m c cX5_takeLock 3 s args tG RX5 := ⟨hx, hb, hml, hown, ht⟩
  have hS : va_S A s.heap s.heap [] := va_S.rf
  refine g_entry (vs := [.ref (ad 24), .ref (ad (4 * i))]) hargs (Nat.le_of_ble_eq_true rfl) (fun ls hl => ?_)
  have hl : lv_has ls 3 [(0, .ref (ad 24)), (1, .ref (ad (4 * i)))] := hl
  unfold pX5_takeLock at h
  refine lv_aload_n hx hb dX5_takeLock_0 rfl (lv_at hl 1 rfl) ?_
  refine va_get (D := D) (ci := 0) (v := .int (z.1 (4 * i) 2)) (C := RX0) (T := TX0) (N := 7) hx hb ht tl_X0 hown hK hP (4 * i) (wxl q ad z hi) rfl 2 (by decide) (ht _ tw_fl_X5_95) (fun _ h9 => h9) rfl dX5_takeLock_1 ?_
  refine lv_iconst (v := (4 : Int32)) hx hb dX5_takeLock_4 (by decide) ?_
  refine lv_icmp_lt (tgt := 14) hx hb dX5_takeLock_5 (by decide) (fun c5 => ?_) (fun c5 => ?_)
  · have h := h.1 c5
    refine lv_aload_n hx hb dX5_takeLock_14 rfl (lv_at hl 0 rfl) ?_
    refine lv_iconst (v := (0 : Int32)) hx hb dX5_takeLock_15 (by decide) ?_
    refine lv_bipush (v := (7 : Int32)) hx hb dX5_takeLock_16 (by decide) ?_
    refine g_cVi (Wd := WX q ad) (z := z) (As := [.int (0 : Int32), .int (7 : Int32)]) (rest := []) hG S (kX5_takeNumber l D q ad A hD z (0 : Int32) (7 : Int32) _ h) (cwV 2 ht (cW_V (fun _ h => h) tw_co_X5_takeNumber tw_ml_X5_76 tw_im_X5_takeNumber tw_se_X5_takeNumber tw_in_X5) rfl rfl rfl (by decide +kernel) ⟨by decide, by decide⟩) (va_recv hK hP (ci := 5) (q0 := 24) rfl (wx_24 q ad z)) hE hP hS rfl hl.1 rfl (Nat.le_of_ble_eq_true rfl) dX5_takeLock_18 ⟨Nat.zero_le _, Nat.zero_le _⟩ (fun r18 z18 H locs h hP hS => ?_)
    refine lv_if_ne (tgt := 26) hx hb dX5_takeLock_21 (by decide) (fun c21 => ?_) (fun c21 => ?_)
    · have h := h.1 c21
      refine lv_aload_n hx hb dX5_takeLock_26 rfl (lv_at hl 0 rfl) ?_
      refine va_get (D := D) (ci := 5) (v := .int (z18.1 24 8)) (C := RX5) (T := TX5) (N := 9) hx hb ht tl_X5 hown hK hP 24 (wx_24 q ad z18) rfl 8 (by decide) (ht _ tw_fl_X5_80) (fun _ h9 => h9) rfl dX5_takeLock_27 ?_
      refine lv_topi (fun x2_30 ex2_30 => ?_)
      have h := h x2_30 ex2_30
      refine lv_istore_n (lv' := [(2, .int x2_30), (0, .ref (ad 24)), (1, .ref (ad (4 * i)))]) hx hb dX5_takeLock_30 rfl hl (by decide) rfl (fun ls hl => ?_)
      refine lv_aload_n hx hb dX5_takeLock_31 rfl (lv_at hl 1 rfl) ?_
      refine lv_iconst (v := (0 : Int32)) hx hb dX5_takeLock_32 (by decide) ?_
      refine lv_bipush (v := (7 : Int32)) hx hb dX5_takeLock_33 (by decide) ?_
      refine g_cVi (Wd := WX q ad) (z := z18) (As := [.int (0 : Int32), .int (7 : Int32)]) (rest := []) hG S (kX5_takeNumber l D q ad A hD z18 (0 : Int32) (7 : Int32) _ h) (cwV 2 ht (cW_V (fun _ h => h) tw_co_X5_takeNumber tw_ml_X5_76 tw_im_X5_takeNumber tw_se_X5_takeNumber tw_in_X5) rfl rfl rfl (by decide +kernel) ⟨by decide, by decide⟩) (va_recv hK hP (ci := 5) (q0 := 24) rfl (wx_24 q ad z18)) hE hP hS rfl hl.1 rfl (Nat.le_of_ble_eq_true rfl) dX5_takeLock_35 ⟨Nat.zero_le _, Nat.zero_le _⟩ (fun r35 z35 H locs h hP hS => ?_)
      refine lv_if_ne (tgt := 43) hx hb dX5_takeLock_38 (by decide) (fun c38 => ?_) (fun c38 => ?_)
      · have h := h.1 c38
        refine lv_aload_n hx hb dX5_takeLock_43 rfl (lv_at hl 1 rfl) ?_
        refine va_get (D := D) (ci := 5) (v := .int (z35.1 24 8)) (C := RX5) (T := TX5) (N := 9) hx hb ht tl_X5 hown hK hP 24 (wx_24 q ad z35) rfl 8 (by decide) (ht _ tw_fl_X5_80) (fun _ h9 => h9) rfl dX5_takeLock_44 ?_
        refine lv_iload_n hx hb dX5_takeLock_47 rfl (lv_at hl 0 rfl) ?_
        refine lv_icmp_ne (tgt := 57) hx hb dX5_takeLock_48 (by decide) (fun c48 => ?_) (fun c48 => ?_)
        · have h := h.1 c48
          refine lv_aload_n hx hb dX5_takeLock_57 rfl (lv_at hl 2 rfl) ?_
          refine va_get (D := D) (ci := 0) (v := .ref (ad (4 * i + 2))) (C := RX0) (T := TX0) (N := 7) hx hb ht tl_X0 hown hK hP (4 * i) (wxl q ad z35 hi) rfl 5 (by decide) (ht _ tw_fl_X5_98) (fun _ h9 => h9) rfl dX5_takeLock_58 ?_
          refine lv_iconst (v := (2 : Int32)) hx hb dX5_takeLock_61 (by decide) ?_
          refine lv_aload_n hx hb dX5_takeLock_62 rfl (lv_at hl 2 rfl) ?_
          refine va_get (D := D) (ci := 0) (v := .int (z35.1 (4 * i) 2)) (C := RX0) (T := TX0) (N := 7) hx hb ht tl_X0 hown hK hP (4 * i) (wxl q ad z35 hi) rfl 2 (by decide) (ht _ tw_fl_X5_95) (fun _ h9 => h9) rfl dX5_takeLock_63 ?_
          refine lv_imul hx hb dX5_takeLock_66 ?_
          refine lv_iload_n hx hb dX5_takeLock_67 rfl (lv_at hl 0 rfl) ?_
          have hi68 := h.1
          have h := h.2
          refine g_iast (Wd := WX q ad) (z := z35) hx hb hK hP (hD z35) hS (4 * i + 2) (wxl2 q ad z35 hi) rfl (axl2 q ad z35 hi) hi68 dX5_takeLock_68 (fun z68 H locs hz68 hP hS => ?_)
          have h := h z68 hz68
          refine lv_aload_n hx hb dX5_takeLock_69 rfl (lv_at hl 2 rfl) ?_
          refine va_get (D := D) (ci := 0) (v := .ref (ad (4 * i + 2))) (C := RX0) (T := TX0) (N := 7) hx hb ht tl_X0 hown hK hP (4 * i) (wxl q ad z68 hi) rfl 5 (by decide) (ht _ tw_fl_X5_98) (fun _ h9 => h9) rfl dX5_takeLock_70 ?_
          refine lv_iconst (v := (2 : Int32)) hx hb dX5_takeLock_73 (by decide) ?_
          refine lv_aload_n hx hb dX5_takeLock_74 rfl (lv_at hl 2 rfl) ?_
          refine va_get (D := D) (ci := 0) (v := .int (z68.1 (4 * i) 2)) (C := RX0) (T := TX0) (N := 7) hx hb ht tl_X0 hown hK hP (4 * i) (wxl q ad z68 hi) rfl 2 (by decide) (ht _ tw_fl_X5_95) (fun _ h9 => h9) rfl dX5_takeLock_75 ?_
          refine lv_imul hx hb dX5_takeLock_78 ?_
          refine lv_iconst (v := (1 : Int32)) hx hb dX5_takeLock_79 (by decide) ?_
          refine lv_iadd hx hb dX5_takeLock_80 ?_
          refine lv_aload_n hx hb dX5_takeLock_81 rfl (lv_at hl 1 rfl) ?_
          refine va_get (D := D) (ci := 5) (v := .int (z68.1 24 8)) (C := RX5) (T := TX5) (N := 9) hx hb ht tl_X5 hown hK hP 24 (wx_24 q ad z68) rfl 8 (by decide) (ht _ tw_fl_X5_80) (fun _ h9 => h9) rfl dX5_takeLock_82 ?_
          have hi85 := h.1
          have h := h.2
          refine g_iast (Wd := WX q ad) (z := z68) hx hb hK hP (hD z68) hS (4 * i + 2) (wxl2 q ad z68 hi) rfl (axl2 q ad z68 hi) hi85 dX5_takeLock_85 (fun z85 H locs hz85 hP hS => ?_)
          have h := h z85 hz85
          refine lv_aload_n hx hb dX5_takeLock_86 rfl (lv_at hl 2 rfl) ?_
          refine lv_dup hx hb dX5_takeLock_87 rfl ?_
          refine va_get (D := D) (ci := 0) (v := .int (z85.1 (4 * i) 2)) (C := RX0) (T := TX0) (N := 7) hx hb ht tl_X0 hown hK hP (4 * i) (wxl q ad z85 hi) rfl 2 (by decide) (ht _ tw_fl_X5_95) (fun _ h9 => h9) rfl dX5_takeLock_88 ?_
          refine lv_iconst (v := (1 : Int32)) hx hb dX5_takeLock_91 (by decide) ?_
          refine lv_iadd hx hb dX5_takeLock_92 ?_
          refine g_put (D := D) (Wd := WX q ad) (z := z85) (ci := 0) (v := .int ((z85.1 (4 * i) 2) + (1 : Int32))) (ty := .int) (C := RX0) (T := TX0) (N := 7) hx hb ht tl_X0 tyX0 tyX0_ok nmX0 hown hK hP (hD z85) hS (4 * i) (wxl q ad z85 hi) rfl 2 (by decide) (ht _ tw_fl_X5_95) (fun _ h9 => h9) rfl rfl rfl rfl (Nat.le_of_ble_eq_true rfl) ((pxl_2 q ad z85 hi) ((z85.1 (4 * i) 2) + (1 : Int32))) dX5_takeLock_93 (fun z93 H locs hz93 hP hS => ?_)
          have h := h z93 hz93
          refine lv_iconst (v := (1 : Int32)) hx hb dX5_takeLock_96 (by decide) ?_
          exact g_rz hG hx hb hr hlocks hE hP hS h dX5_takeLock_97
        · have h := h.2 c48
          refine lv_aload_n hx hb dX5_takeLock_51 rfl (lv_at hl 1 rfl) ?_
          refine lv_iconst (v := (3 : Int32)) hx hb dX5_takeLock_52 (by decide) ?_
          refine g_cVi (Wd := WX q ad) (z := z35) (As := [.int (3 : Int32)]) (rest := []) hG S (kX5_blame l D q ad A hD z35 (3 : Int32) _ h) (cwV 1 ht (cW_V (fun _ h => h) tw_co_X5_blame tw_ml_X5_69 tw_im_X5_blame tw_se_X5_blame tw_in_X5) rfl rfl rfl (by decide +kernel) ⟨by decide, by decide⟩) (va_recv hK hP (ci := 5) (q0 := 24) rfl (wx_24 q ad z35)) hE hP hS rfl hl.1 rfl (Nat.le_of_ble_eq_true rfl) dX5_takeLock_53 ⟨Nat.zero_le _, Nat.zero_le _⟩ (fun r53 z53 H locs h hP hS => ?_)
          exact g_rz hG hx hb hr hlocks hE hP hS h dX5_takeLock_56
      · have h := h.2 c38
        refine lv_iconst (v := (0 : Int32)) hx hb dX5_takeLock_41 (by decide) ?_
        exact g_rz hG hx hb hr hlocks hE hP hS h dX5_takeLock_42
    · have h := h.2 c21
      refine lv_iconst (v := (0 : Int32)) hx hb dX5_takeLock_24 (by decide) ?_
      exact g_rz hG hx hb hr hlocks hE hP hS h dX5_takeLock_25
  · have h := h.2 c5
    refine lv_aload_n hx hb dX5_takeLock_8 rfl (lv_at hl 0 rfl) ?_
    refine lv_iconst (v := (5 : Int32)) hx hb dX5_takeLock_9 (by decide) ?_
    refine g_cVi (Wd := WX q ad) (z := z) (As := [.int (5 : Int32)]) (rest := []) hG S (kX5_blame l D q ad A hD z (5 : Int32) _ h) (cwV 1 ht (cW_V (fun _ h => h) tw_co_X5_blame tw_ml_X5_69 tw_im_X5_blame tw_se_X5_blame tw_in_X5) rfl rfl rfl (by decide +kernel) ⟨by decide, by decide⟩) (va_recv hK hP (ci := 5) (q0 := 24) rfl (wx_24 q ad z)) hE hP hS rfl hl.1 rfl (Nat.le_of_ble_eq_true rfl) dX5_takeLock_10 ⟨Nat.zero_le _, Nat.zero_le _⟩ (fun r10 z10 H locs h hP hS => ?_)
    exact g_rz hG hx hb hr hlocks hE hP hS h dX5_takeLock_13
def pX5_takeWay (z : MX) (post : Int32 → MX → Prop) : Prop :=
  pX5_nextToken z (fun (r1 : Int32) (z1 : MX) =>
  ((¬ r1 = 0 →
    pX5_wordHere z1 (fun (r10 : Int32) (z10 : MX) =>
    (((11 : Int32) ≤ r10 →
      ∀ z31 : MX, z31 = mw z10 24 8 (r10 - (11 : Int32)) →
      (((1 : Int32) = 0 ∨ (1 : Int32) = 1) ∧ post (1 : Int32) z31)) ∧
    (¬ (11 : Int32) ≤ r10 →
      pX5_blame z10 (2 : Int32) (fun (r22 : Int32) (z22 : MX) =>
      ((r22 = 0 ∨ r22 = 1) ∧ post r22 z22)))))) ∧
  (r1 = 0 →
    (((0 : Int32) = 0 ∨ (0 : Int32) = 1) ∧ post (0 : Int32) z1))))
set_option maxHeartbeats 4000000 in
set_option maxRecDepth 100000 in
theorem kX5_takeWay (l : Launch) (D : va_G) (q : Nat → ClassId) (ad : Nat → Nat) (A : Nat → Prop) (hD : ∀ z, va_D A (WX q ad z)) (z : MX) (post : Int32 → MX → Prop) (h : pX5_takeWay  z post) : Met l yX5_takeWay (cW yX5_takeWay cX5_takeWay 2 (some .boolean)) ({ frames := 6, cells := 0, slots := 0, locals := 128 } : Room) (va_Pc [.ref (ad 24)] ((gB D vwCl (WX q ad) (xE D q ad A)) z)) (va_Qi post (gB D vwCl (WX q ad) (xE D q ad A)) A) 0 0 A := by
  refine Met.ofW (cc := cX5_takeWay) (maxL := 2) (ret := (some .boolean)) (by decide) rfl ?_
  intro p e s m args below meth c s₁ B hml hv
  obtain ⟨hargs, hP, hE⟩ := hv
  have hx := B.exec
  have hb := B.bytes
  have hr := B.returns
  have hts := atoms_spec (ws := (cW yX5_takeWay cX5_takeWay 2 (some .boolean))) B.pre
  have ht : ∀ w ∈ tG, w.before args s = true := fun w h => hts w (List.mem_cons_of_mem _ h)
  have hown : s.vm.findClass RX5 = some m.cls := findClass_of_methodNamed B.named
  have hlocks := B.notSynchronized
  have hK := hE.1
  have hG := xE_G D q ad A
  have S : CallFix p m c cX5_takeWay 2 s args tG RX5 := ⟨hx, hb, hml, hown, ht⟩
  have hS : va_S A s.heap s.heap [] := va_S.rf
  refine g_entry (vs := [.ref (ad 24)]) hargs (Nat.le_of_ble_eq_true rfl) (fun ls hl => ?_)
  have hl : lv_has ls 2 [(0, .ref (ad 24))] := hl
  unfold pX5_takeWay at h
  refine lv_aload_n hx hb dX5_takeWay_0 rfl (lv_at hl 0 rfl) ?_
  refine g_cVi (Wd := WX q ad) (z := z) (As := []) (rest := []) hG S (kX5_nextToken l D q ad A hD z _ h) (cwV 0 ht (cW_V (fun _ h => h) tw_co_X5_nextToken tw_ml_X5_42 tw_im_X5_nextToken tw_se_X5_nextToken tw_in_X5) rfl rfl rfl (by decide +kernel) ⟨by decide, by decide⟩) (va_recv hK hP (ci := 5) (q0 := 24) rfl (wx_24 q ad z)) hE hP hS rfl hl.1 rfl (Nat.le_of_ble_eq_true rfl) dX5_takeWay_1 ⟨Nat.zero_le _, Nat.zero_le _⟩ (fun r1 z1 H locs h hP hS => ?_)
  refine lv_if_ne (tgt := 9) hx hb dX5_takeWay_4 (by decide) (fun c4 => ?_) (fun c4 => ?_)
  · have h := h.1 c4
    refine lv_aload_n hx hb dX5_takeWay_9 rfl (lv_at hl 0 rfl) ?_
    refine g_cVi (Wd := WX q ad) (z := z1) (As := []) (rest := []) hG S (kX5_wordHere l D q ad A hD z1 _ h) (cwV 0 ht (cW_V (fun _ h => h) tw_co_X5_wordHere tw_ml_X5_49 tw_im_X5_wordHere tw_se_X5_wordHere tw_in_X5) rfl rfl rfl (by decide +kernel) ⟨by decide, by decide⟩) (va_recv hK hP (ci := 5) (q0 := 24) rfl (wx_24 q ad z1)) hE hP hS rfl hl.1 rfl (Nat.le_of_ble_eq_true rfl) dX5_takeWay_10 ⟨Nat.zero_le _, Nat.zero_le _⟩ (fun r10 z10 H locs h hP hS => ?_)
    refine lv_istore_n (lv' := [(1, .int r10), (0, .ref (ad 24))]) hx hb dX5_takeWay_13 rfl hl (by decide) rfl (fun ls hl => ?_)
    refine lv_iload_n hx hb dX5_takeWay_14 rfl (lv_at hl 0 rfl) ?_
    refine lv_bipush (v := (11 : Int32)) hx hb dX5_takeWay_15 (by decide) ?_
    refine lv_icmp_ge (tgt := 26) hx hb dX5_takeWay_17 (by decide) (fun c17 => ?_) (fun c17 => ?_)
    · have h := h.1 c17
      refine lv_aload_n hx hb dX5_takeWay_26 rfl (lv_at hl 1 rfl) ?_
      refine lv_iload_n hx hb dX5_takeWay_27 rfl (lv_at hl 0 rfl) ?_
      refine lv_bipush (v := (11 : Int32)) hx hb dX5_takeWay_28 (by decide) ?_
      refine lv_isub hx hb dX5_takeWay_30 ?_
      refine g_put (D := D) (Wd := WX q ad) (z := z10) (ci := 5) (v := .int (r10 - (11 : Int32))) (ty := .int) (C := RX5) (T := TX5) (N := 9) hx hb ht tl_X5 tyX5 tyX5_ok nmX5 hown hK hP (hD z10) hS 24 (wx_24 q ad z10) rfl 8 (by decide) (ht _ tw_fl_X5_80) (fun _ h9 => h9) rfl rfl rfl rfl (Nat.le_of_ble_eq_true rfl) ((px_24_8 q ad z10) (r10 - (11 : Int32))) dX5_takeWay_31 (fun z31 H locs hz31 hP hS => ?_)
      have h := h z31 hz31
      refine lv_iconst (v := (1 : Int32)) hx hb dX5_takeWay_34 (by decide) ?_
      exact g_rz hG hx hb hr hlocks hE hP hS h dX5_takeWay_35
    · have h := h.2 c17
      refine lv_aload_n hx hb dX5_takeWay_20 rfl (lv_at hl 1 rfl) ?_
      refine lv_iconst (v := (2 : Int32)) hx hb dX5_takeWay_21 (by decide) ?_
      refine g_cVi (Wd := WX q ad) (z := z10) (As := [.int (2 : Int32)]) (rest := []) hG S (kX5_blame l D q ad A hD z10 (2 : Int32) _ h) (cwV 1 ht (cW_V (fun _ h => h) tw_co_X5_blame tw_ml_X5_69 tw_im_X5_blame tw_se_X5_blame tw_in_X5) rfl rfl rfl (by decide +kernel) ⟨by decide, by decide⟩) (va_recv hK hP (ci := 5) (q0 := 24) rfl (wx_24 q ad z10)) hE hP hS rfl hl.1 rfl (Nat.le_of_ble_eq_true rfl) dX5_takeWay_22 ⟨Nat.zero_le _, Nat.zero_le _⟩ (fun r22 z22 H locs h hP hS => ?_)
      exact g_rz hG hx hb hr hlocks hE hP hS h dX5_takeWay_25
  · have h := h.2 c4
    refine lv_iconst (v := (0 : Int32)) hx hb dX5_takeWay_7 (by decide) ?_
    exact g_rz hG hx hb hr hlocks hE hP hS h dX5_takeWay_8
def pX5_takeTrain (i : Nat) (z : MX) (x2 : Int32) (post : Int32 → MX → Prop) : Prop :=
  ∀ x3_4 : Int32, x3_4 = z.1 (4 * i) 3 →
  ((x3_4 < (4 : Int32) →
    pX0_putFact i z x3_4 (0 : Int32) x2 (fun (z20 : MX) =>
    pX5_takeWay z20 (fun (r24 : Int32) (z24 : MX) =>
    ((¬ r24 = 0 →
      pX0_putFact i z24 x3_4 (1 : Int32) (z24.1 24 8) (fun (z39 : MX) =>
      vp_in (2 : Int32) 4 ∧
      pX5_takeNumber z39 (0 : Int32) ((xFact (Int32.toNatClampNeg (2 : Int32))) - (1 : Int32)) (fun (r51 : Int32) (z51 : MX) =>
      ((¬ r51 = 0 →
        pX0_putFact i z51 x3_4 (2 : Int32) (z51.1 24 8) (fun (z66 : MX) =>
        vp_in (3 : Int32) 4 ∧
        pX5_takeNumber z66 (0 : Int32) ((xFact (Int32.toNatClampNeg (3 : Int32))) - (1 : Int32)) (fun (r78 : Int32) (z78 : MX) =>
        ((¬ r78 = 0 →
          pX0_putFact i z78 x3_4 (3 : Int32) (z78.1 24 8) (fun (z93 : MX) =>
          ∀ z103 : MX, z103 = mw z93 (4 * i) 3 ((z93.1 (4 * i) 3) + (1 : Int32)) →
          (((1 : Int32) = 0 ∨ (1 : Int32) = 1) ∧ post (1 : Int32) z103))) ∧
        (r78 = 0 →
          (((0 : Int32) = 0 ∨ (0 : Int32) = 1) ∧ post (0 : Int32) z78)))))) ∧
      (r51 = 0 →
        (((0 : Int32) = 0 ∨ (0 : Int32) = 1) ∧ post (0 : Int32) z51)))))) ∧
    (r24 = 0 →
      (((0 : Int32) = 0 ∨ (0 : Int32) = 1) ∧ post (0 : Int32) z24)))))) ∧
  (¬ x3_4 < (4 : Int32) →
    pX5_blame z (5 : Int32) (fun (r12 : Int32) (z12 : MX) =>
    ((r12 = 0 ∨ r12 = 1) ∧ post r12 z12))))
set_option maxHeartbeats 4000000 in
set_option maxRecDepth 100000 in
theorem kX5_takeTrain (l : Launch) (D : va_G) (q : Nat → ClassId) (ad : Nat → Nat) (A : Nat → Prop) (hD : ∀ z, va_D A (WX q ad z)) (i : Nat) (hi : i < 4) (z : MX) (x2 : Int32) (post : Int32 → MX → Prop) (h : pX5_takeTrain i z x2 post) : Met l yX5_takeTrain (cW yX5_takeTrain cX5_takeTrain 4 (some .boolean)) ({ frames := 7, cells := 0, slots := 0, locals := 149 } : Room) (va_Pc [.ref (ad 24), .ref (ad (4 * i)), .int x2] ((gB D vwCl (WX q ad) (xE D q ad A)) z)) (va_Qi post (gB D vwCl (WX q ad) (xE D q ad A)) A) 0 0 A := by
  refine Met.ofW (cc := cX5_takeTrain) (maxL := 4) (ret := (some .boolean)) (by decide) rfl ?_
  intro p e s m args below meth c s₁ B hml hv
  obtain ⟨hargs, hP, hE⟩ := hv
  have hx := B.exec
  have hb := B.bytes
  have hr := B.returns
  have hts := atoms_spec (ws := (cW yX5_takeTrain cX5_takeTrain 4 (some .boolean))) B.pre
  have ht : ∀ w ∈ tG, w.before args s = true := fun w h => hts w (List.mem_cons_of_mem _ h)
  have hown : s.vm.findClass RX5 = some m.cls := findClass_of_methodNamed B.named
  have hlocks := B.notSynchronized
  have hK := hE.1
  have hG := xE_G D q ad A
  have S : CallFix p m c cX5_takeTrain 4 s args tG RX5 := ⟨hx, hb, hml, hown, ht⟩
  have hS : va_S A s.heap s.heap [] := va_S.rf
  obtain ⟨tF, hU1, hU2⟩ := hE.2.2.1
  refine g_entry (vs := [.ref (ad 24), .ref (ad (4 * i)), .int x2]) hargs (Nat.le_of_ble_eq_true rfl) (fun ls hl => ?_)
  have hl : lv_has ls 4 [(0, .ref (ad 24)), (1, .ref (ad (4 * i))), (2, .int x2)] := hl
  unfold pX5_takeTrain at h
  refine lv_aload_n hx hb dX5_takeTrain_0 rfl (lv_at hl 1 rfl) ?_
  refine va_get (D := D) (ci := 0) (v := .int (z.1 (4 * i) 3)) (C := RX0) (T := TX0) (N := 7) hx hb ht tl_X0 hown hK hP (4 * i) (wxl q ad z hi) rfl 3 (by decide) (ht _ tw_fl_X5_101) (fun _ h9 => h9) rfl dX5_takeTrain_1 ?_
  refine lv_topi (fun x3_4 ex3_4 => ?_)
  have h := h x3_4 ex3_4
  refine lv_istore_n (lv' := [(3, .int x3_4), (0, .ref (ad 24)), (1, .ref (ad (4 * i))), (2, .int x2)]) hx hb dX5_takeTrain_4 rfl hl (by decide) rfl (fun ls hl => ?_)
  refine lv_iload_n hx hb dX5_takeTrain_5 rfl (lv_at hl 0 rfl) ?_
  refine lv_iconst (v := (4 : Int32)) hx hb dX5_takeTrain_6 (by decide) ?_
  refine lv_icmp_lt (tgt := 16) hx hb dX5_takeTrain_7 (by decide) (fun c7 => ?_) (fun c7 => ?_)
  · have h := h.1 c7
    refine lv_aload_n hx hb dX5_takeTrain_16 rfl (lv_at hl 2 rfl) ?_
    refine lv_iload_n hx hb dX5_takeTrain_17 rfl (lv_at hl 0 rfl) ?_
    refine lv_iconst (v := (0 : Int32)) hx hb dX5_takeTrain_18 (by decide) ?_
    refine lv_iload_n hx hb dX5_takeTrain_19 rfl (lv_at hl 3 rfl) ?_
    refine g_cVv (Wd := WX q ad) (z := z) (As := [.int x3_4, .int (0 : Int32), .int x2]) (rest := []) hG S (kX0_putFact l D q ad A hD i hi z x3_4 (0 : Int32) x2 _ h) (cwV 3 ht (cW_V (fun _ h => h) tw_co_X0_putFact tw_ml_X5_104 tw_im_X0_putFact tw_se_X0_putFact tw_in_X0) rfl rfl rfl (by decide +kernel) ⟨by decide, by decide⟩) (va_recv hK hP (ci := 0) (q0 := (4 * i)) rfl (wxl q ad z hi)) hE hP hS rfl hl.1 rfl (Nat.le_of_ble_eq_true rfl) dX5_takeTrain_20 ⟨Nat.zero_le _, Nat.zero_le _⟩ (fun z20 H locs h hP hS => ?_)
    refine lv_aload_n hx hb dX5_takeTrain_23 rfl (lv_at hl 1 rfl) ?_
    refine g_cVi (Wd := WX q ad) (z := z20) (As := []) (rest := []) hG S (kX5_takeWay l D q ad A hD z20 _ h) (cwV 0 ht (cW_V (fun _ h => h) tw_co_X5_takeWay tw_ml_X5_108 tw_im_X5_takeWay tw_se_X5_takeWay tw_in_X5) rfl rfl rfl (by decide +kernel) ⟨by decide, by decide⟩) (va_recv hK hP (ci := 5) (q0 := 24) rfl (wx_24 q ad z20)) hE hP hS rfl hl.1 rfl (Nat.le_of_ble_eq_true rfl) dX5_takeTrain_24 ⟨Nat.zero_le _, Nat.zero_le _⟩ (fun r24 z24 H locs h hP hS => ?_)
    refine lv_if_ne (tgt := 32) hx hb dX5_takeTrain_27 (by decide) (fun c27 => ?_) (fun c27 => ?_)
    · have h := h.1 c27
      refine lv_aload_n hx hb dX5_takeTrain_32 rfl (lv_at hl 2 rfl) ?_
      refine lv_iload_n hx hb dX5_takeTrain_33 rfl (lv_at hl 0 rfl) ?_
      refine lv_iconst (v := (1 : Int32)) hx hb dX5_takeTrain_34 (by decide) ?_
      refine lv_aload_n hx hb dX5_takeTrain_35 rfl (lv_at hl 1 rfl) ?_
      refine va_get (D := D) (ci := 5) (v := .int (z24.1 24 8)) (C := RX5) (T := TX5) (N := 9) hx hb ht tl_X5 hown hK hP 24 (wx_24 q ad z24) rfl 8 (by decide) (ht _ tw_fl_X5_80) (fun _ h9 => h9) rfl dX5_takeTrain_36 ?_
      refine g_cVv (Wd := WX q ad) (z := z24) (As := [.int x3_4, .int (1 : Int32), .int (z24.1 24 8)]) (rest := []) hG S (kX0_putFact l D q ad A hD i hi z24 x3_4 (1 : Int32) (z24.1 24 8) _ h) (cwV 3 ht (cW_V (fun _ h => h) tw_co_X0_putFact tw_ml_X5_104 tw_im_X0_putFact tw_se_X0_putFact tw_in_X0) rfl rfl rfl (by decide +kernel) ⟨by decide, by decide⟩) (va_recv hK hP (ci := 0) (q0 := (4 * i)) rfl (wxl q ad z24 hi)) hE hP hS rfl hl.1 rfl (Nat.le_of_ble_eq_true rfl) dX5_takeTrain_39 ⟨Nat.zero_le _, Nat.zero_le _⟩ (fun z39 H locs h hP hS => ?_)
      refine lv_aload_n hx hb dX5_takeTrain_42 rfl (lv_at hl 1 rfl) ?_
      refine lv_iconst (v := (0 : Int32)) hx hb dX5_takeTrain_43 (by decide) ?_
      refine va_getsN hx hb hU1 hS hown (va_Nw.use rfl hE.2.2.2.2.2.2.1) (fun _ h9 => h9) dX5_takeTrain_44 ?_
      refine lv_iconst (v := (2 : Int32)) hx hb dX5_takeTrain_47 (by decide) ?_
      have hi48 := h.1
      have h := h.2
      refine va_ti hx hb hU2 hS hi48 rfl dX5_takeTrain_48 ?_
      refine lv_iconst (v := (1 : Int32)) hx hb dX5_takeTrain_49 (by decide) ?_
      refine lv_isub hx hb dX5_takeTrain_50 ?_
      refine g_cVi (Wd := WX q ad) (z := z39) (As := [.int (0 : Int32), .int ((xFact (Int32.toNatClampNeg (2 : Int32))) - (1 : Int32))]) (rest := []) hG S (kX5_takeNumber l D q ad A hD z39 (0 : Int32) ((xFact (Int32.toNatClampNeg (2 : Int32))) - (1 : Int32)) _ h) (cwV 2 ht (cW_V (fun _ h => h) tw_co_X5_takeNumber tw_ml_X5_76 tw_im_X5_takeNumber tw_se_X5_takeNumber tw_in_X5) rfl rfl rfl (by decide +kernel) ⟨by decide, by decide⟩) (va_recv hK hP (ci := 5) (q0 := 24) rfl (wx_24 q ad z39)) hE hP hS rfl hl.1 rfl (Nat.le_of_ble_eq_true rfl) dX5_takeTrain_51 ⟨Nat.zero_le _, Nat.zero_le _⟩ (fun r51 z51 H locs h hP hS => ?_)
      refine lv_if_ne (tgt := 59) hx hb dX5_takeTrain_54 (by decide) (fun c54 => ?_) (fun c54 => ?_)
      · have h := h.1 c54
        refine lv_aload_n hx hb dX5_takeTrain_59 rfl (lv_at hl 2 rfl) ?_
        refine lv_iload_n hx hb dX5_takeTrain_60 rfl (lv_at hl 0 rfl) ?_
        refine lv_iconst (v := (2 : Int32)) hx hb dX5_takeTrain_61 (by decide) ?_
        refine lv_aload_n hx hb dX5_takeTrain_62 rfl (lv_at hl 1 rfl) ?_
        refine va_get (D := D) (ci := 5) (v := .int (z51.1 24 8)) (C := RX5) (T := TX5) (N := 9) hx hb ht tl_X5 hown hK hP 24 (wx_24 q ad z51) rfl 8 (by decide) (ht _ tw_fl_X5_80) (fun _ h9 => h9) rfl dX5_takeTrain_63 ?_
        refine g_cVv (Wd := WX q ad) (z := z51) (As := [.int x3_4, .int (2 : Int32), .int (z51.1 24 8)]) (rest := []) hG S (kX0_putFact l D q ad A hD i hi z51 x3_4 (2 : Int32) (z51.1 24 8) _ h) (cwV 3 ht (cW_V (fun _ h => h) tw_co_X0_putFact tw_ml_X5_104 tw_im_X0_putFact tw_se_X0_putFact tw_in_X0) rfl rfl rfl (by decide +kernel) ⟨by decide, by decide⟩) (va_recv hK hP (ci := 0) (q0 := (4 * i)) rfl (wxl q ad z51 hi)) hE hP hS rfl hl.1 rfl (Nat.le_of_ble_eq_true rfl) dX5_takeTrain_66 ⟨Nat.zero_le _, Nat.zero_le _⟩ (fun z66 H locs h hP hS => ?_)
        refine lv_aload_n hx hb dX5_takeTrain_69 rfl (lv_at hl 1 rfl) ?_
        refine lv_iconst (v := (0 : Int32)) hx hb dX5_takeTrain_70 (by decide) ?_
        refine va_getsN hx hb hU1 hS hown (va_Nw.use rfl hE.2.2.2.2.2.2.1) (fun _ h9 => h9) dX5_takeTrain_71 ?_
        refine lv_iconst (v := (3 : Int32)) hx hb dX5_takeTrain_74 (by decide) ?_
        have hi75 := h.1
        have h := h.2
        refine va_ti hx hb hU2 hS hi75 rfl dX5_takeTrain_75 ?_
        refine lv_iconst (v := (1 : Int32)) hx hb dX5_takeTrain_76 (by decide) ?_
        refine lv_isub hx hb dX5_takeTrain_77 ?_
        refine g_cVi (Wd := WX q ad) (z := z66) (As := [.int (0 : Int32), .int ((xFact (Int32.toNatClampNeg (3 : Int32))) - (1 : Int32))]) (rest := []) hG S (kX5_takeNumber l D q ad A hD z66 (0 : Int32) ((xFact (Int32.toNatClampNeg (3 : Int32))) - (1 : Int32)) _ h) (cwV 2 ht (cW_V (fun _ h => h) tw_co_X5_takeNumber tw_ml_X5_76 tw_im_X5_takeNumber tw_se_X5_takeNumber tw_in_X5) rfl rfl rfl (by decide +kernel) ⟨by decide, by decide⟩) (va_recv hK hP (ci := 5) (q0 := 24) rfl (wx_24 q ad z66)) hE hP hS rfl hl.1 rfl (Nat.le_of_ble_eq_true rfl) dX5_takeTrain_78 ⟨Nat.zero_le _, Nat.zero_le _⟩ (fun r78 z78 H locs h hP hS => ?_)
        refine lv_if_ne (tgt := 86) hx hb dX5_takeTrain_81 (by decide) (fun c81 => ?_) (fun c81 => ?_)
        · have h := h.1 c81
          refine lv_aload_n hx hb dX5_takeTrain_86 rfl (lv_at hl 2 rfl) ?_
          refine lv_iload_n hx hb dX5_takeTrain_87 rfl (lv_at hl 0 rfl) ?_
          refine lv_iconst (v := (3 : Int32)) hx hb dX5_takeTrain_88 (by decide) ?_
          refine lv_aload_n hx hb dX5_takeTrain_89 rfl (lv_at hl 1 rfl) ?_
          refine va_get (D := D) (ci := 5) (v := .int (z78.1 24 8)) (C := RX5) (T := TX5) (N := 9) hx hb ht tl_X5 hown hK hP 24 (wx_24 q ad z78) rfl 8 (by decide) (ht _ tw_fl_X5_80) (fun _ h9 => h9) rfl dX5_takeTrain_90 ?_
          refine g_cVv (Wd := WX q ad) (z := z78) (As := [.int x3_4, .int (3 : Int32), .int (z78.1 24 8)]) (rest := []) hG S (kX0_putFact l D q ad A hD i hi z78 x3_4 (3 : Int32) (z78.1 24 8) _ h) (cwV 3 ht (cW_V (fun _ h => h) tw_co_X0_putFact tw_ml_X5_104 tw_im_X0_putFact tw_se_X0_putFact tw_in_X0) rfl rfl rfl (by decide +kernel) ⟨by decide, by decide⟩) (va_recv hK hP (ci := 0) (q0 := (4 * i)) rfl (wxl q ad z78 hi)) hE hP hS rfl hl.1 rfl (Nat.le_of_ble_eq_true rfl) dX5_takeTrain_93 ⟨Nat.zero_le _, Nat.zero_le _⟩ (fun z93 H locs h hP hS => ?_)
          refine lv_aload_n hx hb dX5_takeTrain_96 rfl (lv_at hl 2 rfl) ?_
          refine lv_dup hx hb dX5_takeTrain_97 rfl ?_
          refine va_get (D := D) (ci := 0) (v := .int (z93.1 (4 * i) 3)) (C := RX0) (T := TX0) (N := 7) hx hb ht tl_X0 hown hK hP (4 * i) (wxl q ad z93 hi) rfl 3 (by decide) (ht _ tw_fl_X5_101) (fun _ h9 => h9) rfl dX5_takeTrain_98 ?_
          refine lv_iconst (v := (1 : Int32)) hx hb dX5_takeTrain_101 (by decide) ?_
          refine lv_iadd hx hb dX5_takeTrain_102 ?_
          refine g_put (D := D) (Wd := WX q ad) (z := z93) (ci := 0) (v := .int ((z93.1 (4 * i) 3) + (1 : Int32))) (ty := .int) (C := RX0) (T := TX0) (N := 7) hx hb ht tl_X0 tyX0 tyX0_ok nmX0 hown hK hP (hD z93) hS (4 * i) (wxl q ad z93 hi) rfl 3 (by decide) (ht _ tw_fl_X5_101) (fun _ h9 => h9) rfl rfl rfl rfl (Nat.le_of_ble_eq_true rfl) ((pxl_3 q ad z93 hi) ((z93.1 (4 * i) 3) + (1 : Int32))) dX5_takeTrain_103 (fun z103 H locs hz103 hP hS => ?_)
          have h := h z103 hz103
          refine lv_iconst (v := (1 : Int32)) hx hb dX5_takeTrain_106 (by decide) ?_
          exact g_rz hG hx hb hr hlocks hE hP hS h dX5_takeTrain_107
        · have h := h.2 c81
          refine lv_iconst (v := (0 : Int32)) hx hb dX5_takeTrain_84 (by decide) ?_
          exact g_rz hG hx hb hr hlocks hE hP hS h dX5_takeTrain_85
      · have h := h.2 c54
        refine lv_iconst (v := (0 : Int32)) hx hb dX5_takeTrain_57 (by decide) ?_
        exact g_rz hG hx hb hr hlocks hE hP hS h dX5_takeTrain_58
    · have h := h.2 c27
      refine lv_iconst (v := (0 : Int32)) hx hb dX5_takeTrain_30 (by decide) ?_
      exact g_rz hG hx hb hr hlocks hE hP hS h dX5_takeTrain_31
  · have h := h.2 c7
    refine lv_aload_n hx hb dX5_takeTrain_10 rfl (lv_at hl 1 rfl) ?_
    refine lv_iconst (v := (5 : Int32)) hx hb dX5_takeTrain_11 (by decide) ?_
    refine g_cVi (Wd := WX q ad) (z := z) (As := [.int (5 : Int32)]) (rest := []) hG S (kX5_blame l D q ad A hD z (5 : Int32) _ h) (cwV 1 ht (cW_V (fun _ h => h) tw_co_X5_blame tw_ml_X5_69 tw_im_X5_blame tw_se_X5_blame tw_in_X5) rfl rfl rfl (by decide +kernel) ⟨by decide, by decide⟩) (va_recv hK hP (ci := 5) (q0 := 24) rfl (wx_24 q ad z)) hE hP hS rfl hl.1 rfl (Nat.le_of_ble_eq_true rfl) dX5_takeTrain_12 ⟨Nat.zero_le _, Nat.zero_le _⟩ (fun r12 z12 H locs h hP hS => ?_)
    exact g_rz hG hx hb hr hlocks hE hP hS h dX5_takeTrain_15
def pX5_takeSemicolon_b23 (post : Int32 → MX → Prop) (z : MX) : Prop :=
    (((1 : Int32) = 0 ∨ (1 : Int32) = 1) ∧ post (1 : Int32) z)
def pX5_takeSemicolon (z : MX) (post : Int32 → MX → Prop) : Prop :=
  pX5_nextToken z (fun (r1 : Int32) (z1 : MX) =>
  ((r1 = 0 →
    (((0 : Int32) = 0 ∨ (0 : Int32) = 1) ∧ post (0 : Int32) z1)) ∧
  (¬ r1 = 0 →
    (((z1.1 24 5) = (3 : Int32) →
      pX5_takeSemicolon_b23  post z1) ∧
    (¬ (z1.1 24 5) = (3 : Int32) →
      pX5_blame z1 (2 : Int32) (fun (r17 : Int32) (z17 : MX) =>
      ((r17 = 0 →
        (((0 : Int32) = 0 ∨ (0 : Int32) = 1) ∧ post (0 : Int32) z17)) ∧
      (¬ r17 = 0 →
        pX5_takeSemicolon_b23  post z17))))))))
set_option maxHeartbeats 4000000 in
set_option maxRecDepth 100000 in
theorem kX5_takeSemicolon (l : Launch) (D : va_G) (q : Nat → ClassId) (ad : Nat → Nat) (A : Nat → Prop) (hD : ∀ z, va_D A (WX q ad z)) (z : MX) (post : Int32 → MX → Prop) (h : pX5_takeSemicolon  z post) : Met l yX5_takeSemicolon (cW yX5_takeSemicolon cX5_takeSemicolon 1 (some .boolean)) ({ frames := 2, cells := 0, slots := 0, locals := 45 } : Room) (va_Pc [.ref (ad 24)] ((gB D vwCl (WX q ad) (xE D q ad A)) z)) (va_Qi post (gB D vwCl (WX q ad) (xE D q ad A)) A) 0 0 A := by
  refine Met.ofW (cc := cX5_takeSemicolon) (maxL := 1) (ret := (some .boolean)) (by decide) rfl ?_
  intro p e s m args below meth c s₁ B hml hv
  obtain ⟨hargs, hP, hE⟩ := hv
  have hx := B.exec
  have hb := B.bytes
  have hr := B.returns
  have hts := atoms_spec (ws := (cW yX5_takeSemicolon cX5_takeSemicolon 1 (some .boolean))) B.pre
  have ht : ∀ w ∈ tG, w.before args s = true := fun w h => hts w (List.mem_cons_of_mem _ h)
  have hown : s.vm.findClass RX5 = some m.cls := findClass_of_methodNamed B.named
  have hlocks := B.notSynchronized
  have hK := hE.1
  have hG := xE_G D q ad A
  have S : CallFix p m c cX5_takeSemicolon 1 s args tG RX5 := ⟨hx, hb, hml, hown, ht⟩
  have hS : va_S A s.heap s.heap [] := va_S.rf
  have B23 : ∀ (z : MX) (H : Heap) (locs : List Loc) (ls : Array Slot), pX5_takeSemicolon_b23  post z → va_P D vwCl (WX q ad z) H → va_S A s.heap H locs → lv_has ls 1 [] → W p l e (headSpec (cW yX5_takeSemicolon cX5_takeSemicolon 1 (some .boolean)) ({ frames := 2, cells := 0, slots := 0, locals := 45 } : Room)).room s m args below meth c H locs 0 0 (MQ below (va_Qi post (gB D vwCl (WX q ad) (xE D q ad A)) A) args s 0 0 A) (F0 m 23 ls []) := by
    intro z H locs ls h hP hS hl
    unfold pX5_takeSemicolon_b23 at h
    refine lv_iconst (v := (1 : Int32)) hx hb dX5_takeSemicolon_23 (by decide) ?_
    refine lv_goto (tgt := 28) hx hb dX5_takeSemicolon_24 (by decide) ?_
    exact g_rz hG hx hb hr hlocks hE hP hS h dX5_takeSemicolon_28
  refine g_entry (vs := [.ref (ad 24)]) hargs (Nat.le_of_ble_eq_true rfl) (fun ls hl => ?_)
  have hl : lv_has ls 1 [(0, .ref (ad 24))] := hl
  unfold pX5_takeSemicolon at h
  refine lv_aload_n hx hb dX5_takeSemicolon_0 rfl (lv_at hl 0 rfl) ?_
  refine g_cVi (Wd := WX q ad) (z := z) (As := []) (rest := []) hG S (kX5_nextToken l D q ad A hD z _ h) (cwV 0 ht (cW_V (fun _ h => h) tw_co_X5_nextToken tw_ml_X5_42 tw_im_X5_nextToken tw_se_X5_nextToken tw_in_X5) rfl rfl rfl (by decide +kernel) ⟨by decide, by decide⟩) (va_recv hK hP (ci := 5) (q0 := 24) rfl (wx_24 q ad z)) hE hP hS rfl hl.1 rfl (Nat.le_of_ble_eq_true rfl) dX5_takeSemicolon_1 ⟨Nat.zero_le _, Nat.zero_le _⟩ (fun r1 z1 H locs h hP hS => ?_)
  refine lv_if_eq (tgt := 27) hx hb dX5_takeSemicolon_4 (by decide) (fun c4 => ?_) (fun c4 => ?_)
  · have h := h.1 c4
    refine lv_iconst (v := (0 : Int32)) hx hb dX5_takeSemicolon_27 (by decide) ?_
    exact g_rz hG hx hb hr hlocks hE hP hS h dX5_takeSemicolon_28
  · have h := h.2 c4
    refine lv_aload_n hx hb dX5_takeSemicolon_7 rfl (lv_at hl 0 rfl) ?_
    refine va_get (D := D) (ci := 5) (v := .int (z1.1 24 5)) (C := RX5) (T := TX5) (N := 9) hx hb ht tl_X5 hown hK hP 24 (wx_24 q ad z1) rfl 5 (by decide) (ht _ tw_fl_X5_46) (fun _ h9 => h9) rfl dX5_takeSemicolon_8 ?_
    refine lv_iconst (v := (3 : Int32)) hx hb dX5_takeSemicolon_11 (by decide) ?_
    refine lv_icmp_eq (tgt := 23) hx hb dX5_takeSemicolon_12 (by decide) (fun c12 => ?_) (fun c12 => ?_)
    · have h := h.1 c12
      exact B23 z1 _ _ _ h hP hS (lv_sub hl [] rfl)
    · have h := h.2 c12
      refine lv_aload_n hx hb dX5_takeSemicolon_15 rfl (lv_at hl 0 rfl) ?_
      refine lv_iconst (v := (2 : Int32)) hx hb dX5_takeSemicolon_16 (by decide) ?_
      refine g_cVi (Wd := WX q ad) (z := z1) (As := [.int (2 : Int32)]) (rest := []) hG S (kX5_blame l D q ad A hD z1 (2 : Int32) _ h) (cwV 1 ht (cW_V (fun _ h => h) tw_co_X5_blame tw_ml_X5_69 tw_im_X5_blame tw_se_X5_blame tw_in_X5) rfl rfl rfl (by decide +kernel) ⟨by decide, by decide⟩) (va_recv hK hP (ci := 5) (q0 := 24) rfl (wx_24 q ad z1)) hE hP hS rfl hl.1 rfl (Nat.le_of_ble_eq_true rfl) dX5_takeSemicolon_17 ⟨Nat.zero_le _, Nat.zero_le _⟩ (fun r17 z17 H locs h hP hS => ?_)
      refine lv_if_eq (tgt := 27) hx hb dX5_takeSemicolon_20 (by decide) (fun c20 => ?_) (fun c20 => ?_)
      · have h := h.1 c20
        refine lv_iconst (v := (0 : Int32)) hx hb dX5_takeSemicolon_27 (by decide) ?_
        exact g_rz hG hx hb hr hlocks hE hP hS h dX5_takeSemicolon_28
      · have h := h.2 c20
        exact B23 z17 _ _ _ h hP hS (lv_sub hl [] rfl)
def pX5_takeLine_b113 (i : Nat) (post : Int32 → MX → Prop) (z : MX) (x3 : Int32) : Prop :=
    ((x3 = 0 →
      (((0 : Int32) = 0 ∨ (0 : Int32) = 1) ∧ post (0 : Int32) z)) ∧
    (¬ x3 = 0 →
      pX5_takeSemicolon z (fun (r118 : Int32) (z118 : MX) =>
      ((r118 = 0 →
        (((0 : Int32) = 0 ∨ (0 : Int32) = 1) ∧ post (0 : Int32) z118)) ∧
      (¬ r118 = 0 →
        (((1 : Int32) = 0 ∨ (1 : Int32) = 1) ∧ post (1 : Int32) z118))))))
def pX5_takeLine_b107 (i : Nat) (post : Int32 → MX → Prop) (z : MX) : Prop :=
    pX5_blame z (2 : Int32) (fun (r109 : Int32) (z109 : MX) =>
    pX5_takeLine_b113 i post z109 r109)
def pX5_takeLine_b53 (i : Nat) (post : Int32 → MX → Prop) (z : MX) (x2 : Int32) : Prop :=
    ((¬ x2 = (5 : Int32) →
      ((¬ x2 = (6 : Int32) →
        ((x2 < (7 : Int32) →
          pX5_takeLine_b107 i post z) ∧
        (¬ x2 < (7 : Int32) →
          (((10 : Int32) < x2 →
            pX5_takeLine_b107 i post z) ∧
          (¬ (10 : Int32) < x2 →
            pX5_takeTrain i z (x2 - (7 : Int32)) (fun (r100 : Int32) (z100 : MX) =>
            pX5_takeLine_b113 i post z100 r100)))))) ∧
      (x2 = (6 : Int32) →
        pX5_takeLock i z (fun (r75 : Int32) (z75 : MX) =>
        pX5_takeLine_b113 i post z75 r75)))) ∧
    (x2 = (5 : Int32) →
      pX5_takeGuard i z (fun (r60 : Int32) (z60 : MX) =>
      pX5_takeLine_b113 i post z60 r60)))
def pX5_takeLine (i : Nat) (z : MX) (post : Int32 → MX → Prop) : Prop :=
  pX5_nextToken z (fun (r1 : Int32) (z1 : MX) =>
  ((r1 = 0 →
    (((0 : Int32) = 0 ∨ (0 : Int32) = 1) ∧ post (0 : Int32) z1)) ∧
  (¬ r1 = 0 →
    ((¬ (z1.1 24 5) = 0 →
      pX5_wordHere z1 (fun (r17 : Int32) (z17 : MX) =>
      ((¬ r17 = 0 →
        ((r17 ≤ 0 →
          pX5_takeLine_b53 i post z17 r17) ∧
        (¬ r17 ≤ 0 →
          (((4 : Int32) < r17 →
            pX5_takeLine_b53 i post z17 r17) ∧
          (¬ (4 : Int32) < r17 →
            pX5_takeOmen i z17 r17 (fun (r46 : Int32) (z46 : MX) =>
            pX5_takeLine_b113 i post z46 r46)))))) ∧
      (r17 = 0 →
        pX5_takeBlocks i z17 (fun (r27 : Int32) (z27 : MX) =>
        pX5_takeLine_b113 i post z27 r27))))) ∧
    ((z1.1 24 5) = 0 →
      (((0 : Int32) = 0 ∨ (0 : Int32) = 1) ∧ post (0 : Int32) z1))))))
set_option maxHeartbeats 4000000 in
set_option maxRecDepth 100000 in
theorem kX5_takeLine (l : Launch) (D : va_G) (q : Nat → ClassId) (ad : Nat → Nat) (A : Nat → Prop) (hD : ∀ z, va_D A (WX q ad z)) (i : Nat) (hi : i < 4) (z : MX) (post : Int32 → MX → Prop) (h : pX5_takeLine i z post) : Met l yX5_takeLine (cW yX5_takeLine cX5_takeLine 4 (some .boolean)) ({ frames := 8, cells := 0, slots := 0, locals := 172 } : Room) (va_Pc [.ref (ad 24), .ref (ad (4 * i))] ((gB D vwCl (WX q ad) (xE D q ad A)) z)) (va_Qi post (gB D vwCl (WX q ad) (xE D q ad A)) A) 0 0 A := by
  refine Met.ofW (cc := cX5_takeLine) (maxL := 4) (ret := (some .boolean)) (by decide) rfl ?_
  intro p e s m args below meth c s₁ B hml hv
  obtain ⟨hargs, hP, hE⟩ := hv
  have hx := B.exec
  have hb := B.bytes
  have hr := B.returns
  have hts := atoms_spec (ws := (cW yX5_takeLine cX5_takeLine 4 (some .boolean))) B.pre
  have ht : ∀ w ∈ tG, w.before args s = true := fun w h => hts w (List.mem_cons_of_mem _ h)
  have hown : s.vm.findClass RX5 = some m.cls := findClass_of_methodNamed B.named
  have hlocks := B.notSynchronized
  have hK := hE.1
  have hG := xE_G D q ad A
  have S : CallFix p m c cX5_takeLine 4 s args tG RX5 := ⟨hx, hb, hml, hown, ht⟩
  have hS : va_S A s.heap s.heap [] := va_S.rf
  have B113 : ∀ (z : MX) (x3 : Int32) (H : Heap) (locs : List Loc) (ls : Array Slot), pX5_takeLine_b113 i post z x3 → va_P D vwCl (WX q ad z) H → va_S A s.heap H locs → lv_has ls 4 [(0, .ref (ad 24)), (3, .int x3)] → W p l e (headSpec (cW yX5_takeLine cX5_takeLine 4 (some .boolean)) ({ frames := 8, cells := 0, slots := 0, locals := 172 } : Room)).room s m args below meth c H locs 0 0 (MQ below (va_Qi post (gB D vwCl (WX q ad) (xE D q ad A)) A) args s 0 0 A) (F0 m 113 ls []) := by
    intro z x3 H locs ls h hP hS hl
    unfold pX5_takeLine_b113 at h
    refine lv_iload_n hx hb dX5_takeLine_113 rfl (lv_at hl 1 rfl) ?_
    refine lv_if_eq (tgt := 128) hx hb dX5_takeLine_114 (by decide) (fun c114 => ?_) (fun c114 => ?_)
    · have h := h.1 c114
      refine lv_iconst (v := (0 : Int32)) hx hb dX5_takeLine_128 (by decide) ?_
      exact g_rz hG hx hb hr hlocks hE hP hS h dX5_takeLine_129
    · have h := h.2 c114
      refine lv_aload_n hx hb dX5_takeLine_117 rfl (lv_at hl 0 rfl) ?_
      refine g_cVi (Wd := WX q ad) (z := z) (As := []) (rest := []) hG S (kX5_takeSemicolon l D q ad A hD z _ h) (cwV 0 ht (cW_V (fun _ h => h) tw_co_X5_takeSemicolon tw_ml_X5_73 tw_im_X5_takeSemicolon tw_se_X5_takeSemicolon tw_in_X5) rfl rfl rfl (by decide +kernel) ⟨by decide, by decide⟩) (va_recv hK hP (ci := 5) (q0 := 24) rfl (wx_24 q ad z)) hE hP hS rfl hl.1 rfl (Nat.le_of_ble_eq_true rfl) dX5_takeLine_118 ⟨Nat.zero_le _, Nat.zero_le _⟩ (fun r118 z118 H locs h hP hS => ?_)
      refine lv_if_eq (tgt := 128) hx hb dX5_takeLine_121 (by decide) (fun c121 => ?_) (fun c121 => ?_)
      · have h := h.1 c121
        refine lv_iconst (v := (0 : Int32)) hx hb dX5_takeLine_128 (by decide) ?_
        exact g_rz hG hx hb hr hlocks hE hP hS h dX5_takeLine_129
      · have h := h.2 c121
        refine lv_iconst (v := (1 : Int32)) hx hb dX5_takeLine_124 (by decide) ?_
        refine lv_goto (tgt := 129) hx hb dX5_takeLine_125 (by decide) ?_
        exact g_rz hG hx hb hr hlocks hE hP hS h dX5_takeLine_129
  have B107 : ∀ (z : MX) (H : Heap) (locs : List Loc) (ls : Array Slot), pX5_takeLine_b107 i post z → va_P D vwCl (WX q ad z) H → va_S A s.heap H locs → lv_has ls 4 [(0, .ref (ad 24))] → W p l e (headSpec (cW yX5_takeLine cX5_takeLine 4 (some .boolean)) ({ frames := 8, cells := 0, slots := 0, locals := 172 } : Room)).room s m args below meth c H locs 0 0 (MQ below (va_Qi post (gB D vwCl (WX q ad) (xE D q ad A)) A) args s 0 0 A) (F0 m 107 ls []) := by
    intro z H locs ls h hP hS hl
    unfold pX5_takeLine_b107 at h
    refine lv_aload_n hx hb dX5_takeLine_107 rfl (lv_at hl 0 rfl) ?_
    refine lv_iconst (v := (2 : Int32)) hx hb dX5_takeLine_108 (by decide) ?_
    refine g_cVi (Wd := WX q ad) (z := z) (As := [.int (2 : Int32)]) (rest := []) hG S (kX5_blame l D q ad A hD z (2 : Int32) _ h) (cwV 1 ht (cW_V (fun _ h => h) tw_co_X5_blame tw_ml_X5_69 tw_im_X5_blame tw_se_X5_blame tw_in_X5) rfl rfl rfl (by decide +kernel) ⟨by decide, by decide⟩) (va_recv hK hP (ci := 5) (q0 := 24) rfl (wx_24 q ad z)) hE hP hS rfl hl.1 rfl (Nat.le_of_ble_eq_true rfl) dX5_takeLine_109 ⟨Nat.zero_le _, Nat.zero_le _⟩ (fun r109 z109 H locs h hP hS => ?_)
    refine lv_istore_n (lv' := [(3, .int r109), (0, .ref (ad 24))]) hx hb dX5_takeLine_112 rfl hl (by decide) rfl (fun ls hl => ?_)
    exact B113 z109 r109 _ _ _ h hP hS (lv_sub hl [1, 0] rfl)
  have B53 : ∀ (z : MX) (x2 : Int32) (H : Heap) (locs : List Loc) (ls : Array Slot), pX5_takeLine_b53 i post z x2 → va_P D vwCl (WX q ad z) H → va_S A s.heap H locs → lv_has ls 4 [(0, .ref (ad 24)), (1, .ref (ad (4 * i))), (2, .int x2)] → W p l e (headSpec (cW yX5_takeLine cX5_takeLine 4 (some .boolean)) ({ frames := 8, cells := 0, slots := 0, locals := 172 } : Room)).room s m args below meth c H locs 0 0 (MQ below (va_Qi post (gB D vwCl (WX q ad) (xE D q ad A)) A) args s 0 0 A) (F0 m 53 ls []) := by
    intro z x2 H locs ls h hP hS hl
    unfold pX5_takeLine_b53 at h
    refine lv_iload_n hx hb dX5_takeLine_53 rfl (lv_at hl 2 rfl) ?_
    refine lv_iconst (v := (5 : Int32)) hx hb dX5_takeLine_54 (by decide) ?_
    refine lv_icmp_ne (tgt := 67) hx hb dX5_takeLine_55 (by decide) (fun c55 => ?_) (fun c55 => ?_)
    · have h := h.1 c55
      refine lv_iload_n hx hb dX5_takeLine_67 rfl (lv_at hl 2 rfl) ?_
      refine lv_bipush (v := (6 : Int32)) hx hb dX5_takeLine_68 (by decide) ?_
      refine lv_icmp_ne (tgt := 82) hx hb dX5_takeLine_70 (by decide) (fun c70 => ?_) (fun c70 => ?_)
      · have h := h.1 c70
        refine lv_iload_n hx hb dX5_takeLine_82 rfl (lv_at hl 2 rfl) ?_
        refine lv_bipush (v := (7 : Int32)) hx hb dX5_takeLine_83 (by decide) ?_
        refine lv_icmp_lt (tgt := 107) hx hb dX5_takeLine_85 (by decide) (fun c85 => ?_) (fun c85 => ?_)
        · have h := h.1 c85
          exact B107 z _ _ _ h hP hS (lv_sub hl [0] rfl)
        · have h := h.2 c85
          refine lv_iload_n hx hb dX5_takeLine_88 rfl (lv_at hl 2 rfl) ?_
          refine lv_bipush (v := (10 : Int32)) hx hb dX5_takeLine_89 (by decide) ?_
          refine lv_icmp_gt (tgt := 107) hx hb dX5_takeLine_91 (by decide) (fun c91 => ?_) (fun c91 => ?_)
          · have h := h.1 c91
            exact B107 z _ _ _ h hP hS (lv_sub hl [0] rfl)
          · have h := h.2 c91
            refine lv_aload_n hx hb dX5_takeLine_94 rfl (lv_at hl 0 rfl) ?_
            refine lv_aload_n hx hb dX5_takeLine_95 rfl (lv_at hl 1 rfl) ?_
            refine lv_iload_n hx hb dX5_takeLine_96 rfl (lv_at hl 2 rfl) ?_
            refine lv_bipush (v := (7 : Int32)) hx hb dX5_takeLine_97 (by decide) ?_
            refine lv_isub hx hb dX5_takeLine_99 ?_
            refine g_cVi (Wd := WX q ad) (z := z) (As := [.ref (ad (4 * i)), .int (x2 - (7 : Int32))]) (rest := []) hG S (kX5_takeTrain l D q ad A hD i hi z (x2 - (7 : Int32)) _ h) (cwV 2 ht (cW_V (fun _ h => h) tw_co_X5_takeTrain tw_ml_X5_66 tw_im_X5_takeTrain tw_se_X5_takeTrain tw_in_X5) rfl rfl rfl (by decide +kernel) ⟨by decide, by decide⟩) (va_recv hK hP (ci := 5) (q0 := 24) rfl (wx_24 q ad z)) hE hP hS rfl hl.1 rfl (Nat.le_of_ble_eq_true rfl) dX5_takeLine_100 ⟨Nat.zero_le _, Nat.zero_le _⟩ (fun r100 z100 H locs h hP hS => ?_)
            refine lv_istore_n (lv' := [(3, .int r100), (0, .ref (ad 24)), (1, .ref (ad (4 * i))), (2, .int x2)]) hx hb dX5_takeLine_103 rfl hl (by decide) rfl (fun ls hl => ?_)
            refine lv_goto (tgt := 113) hx hb dX5_takeLine_104 (by decide) ?_
            exact B113 z100 r100 _ _ _ h hP hS (lv_sub hl [1, 0] rfl)
      · have h := h.2 c70
        refine lv_aload_n hx hb dX5_takeLine_73 rfl (lv_at hl 0 rfl) ?_
        refine lv_aload_n hx hb dX5_takeLine_74 rfl (lv_at hl 1 rfl) ?_
        refine g_cVi (Wd := WX q ad) (z := z) (As := [.ref (ad (4 * i))]) (rest := []) hG S (kX5_takeLock l D q ad A hD i hi z _ h) (cwV 1 ht (cW_V (fun _ h => h) tw_co_X5_takeLock tw_ml_X5_63 tw_im_X5_takeLock tw_se_X5_takeLock tw_in_X5) rfl rfl rfl (by decide +kernel) ⟨by decide, by decide⟩) (va_recv hK hP (ci := 5) (q0 := 24) rfl (wx_24 q ad z)) hE hP hS rfl hl.1 rfl (Nat.le_of_ble_eq_true rfl) dX5_takeLine_75 ⟨Nat.zero_le _, Nat.zero_le _⟩ (fun r75 z75 H locs h hP hS => ?_)
        refine lv_istore_n (lv' := [(3, .int r75), (0, .ref (ad 24)), (1, .ref (ad (4 * i))), (2, .int x2)]) hx hb dX5_takeLine_78 rfl hl (by decide) rfl (fun ls hl => ?_)
        refine lv_goto (tgt := 113) hx hb dX5_takeLine_79 (by decide) ?_
        exact B113 z75 r75 _ _ _ h hP hS (lv_sub hl [1, 0] rfl)
    · have h := h.2 c55
      refine lv_aload_n hx hb dX5_takeLine_58 rfl (lv_at hl 0 rfl) ?_
      refine lv_aload_n hx hb dX5_takeLine_59 rfl (lv_at hl 1 rfl) ?_
      refine g_cVi (Wd := WX q ad) (z := z) (As := [.ref (ad (4 * i))]) (rest := []) hG S (kX5_takeGuard l D q ad A hD i hi z _ h) (cwV 1 ht (cW_V (fun _ h => h) tw_co_X5_takeGuard tw_ml_X5_60 tw_im_X5_takeGuard tw_se_X5_takeGuard tw_in_X5) rfl rfl rfl (by decide +kernel) ⟨by decide, by decide⟩) (va_recv hK hP (ci := 5) (q0 := 24) rfl (wx_24 q ad z)) hE hP hS rfl hl.1 rfl (Nat.le_of_ble_eq_true rfl) dX5_takeLine_60 ⟨Nat.zero_le _, Nat.zero_le _⟩ (fun r60 z60 H locs h hP hS => ?_)
      refine lv_istore_n (lv' := [(3, .int r60), (0, .ref (ad 24)), (1, .ref (ad (4 * i))), (2, .int x2)]) hx hb dX5_takeLine_63 rfl hl (by decide) rfl (fun ls hl => ?_)
      refine lv_goto (tgt := 113) hx hb dX5_takeLine_64 (by decide) ?_
      exact B113 z60 r60 _ _ _ h hP hS (lv_sub hl [1, 0] rfl)
  refine g_entry (vs := [.ref (ad 24), .ref (ad (4 * i))]) hargs (Nat.le_of_ble_eq_true rfl) (fun ls hl => ?_)
  have hl : lv_has ls 4 [(0, .ref (ad 24)), (1, .ref (ad (4 * i)))] := hl
  unfold pX5_takeLine at h
  refine lv_aload_n hx hb dX5_takeLine_0 rfl (lv_at hl 0 rfl) ?_
  refine g_cVi (Wd := WX q ad) (z := z) (As := []) (rest := []) hG S (kX5_nextToken l D q ad A hD z _ h) (cwV 0 ht (cW_V (fun _ h => h) tw_co_X5_nextToken tw_ml_X5_42 tw_im_X5_nextToken tw_se_X5_nextToken tw_in_X5) rfl rfl rfl (by decide +kernel) ⟨by decide, by decide⟩) (va_recv hK hP (ci := 5) (q0 := 24) rfl (wx_24 q ad z)) hE hP hS rfl hl.1 rfl (Nat.le_of_ble_eq_true rfl) dX5_takeLine_1 ⟨Nat.zero_le _, Nat.zero_le _⟩ (fun r1 z1 H locs h hP hS => ?_)
  refine lv_if_eq (tgt := 14) hx hb dX5_takeLine_4 (by decide) (fun c4 => ?_) (fun c4 => ?_)
  · have h := h.1 c4
    refine lv_iconst (v := (0 : Int32)) hx hb dX5_takeLine_14 (by decide) ?_
    exact g_rz hG hx hb hr hlocks hE hP hS h dX5_takeLine_15
  · have h := h.2 c4
    refine lv_aload_n hx hb dX5_takeLine_7 rfl (lv_at hl 0 rfl) ?_
    refine va_get (D := D) (ci := 5) (v := .int (z1.1 24 5)) (C := RX5) (T := TX5) (N := 9) hx hb ht tl_X5 hown hK hP 24 (wx_24 q ad z1) rfl 5 (by decide) (ht _ tw_fl_X5_46) (fun _ h9 => h9) rfl dX5_takeLine_8 ?_
    refine lv_if_ne (tgt := 16) hx hb dX5_takeLine_11 (by decide) (fun c11 => ?_) (fun c11 => ?_)
    · have h := h.1 c11
      refine lv_aload_n hx hb dX5_takeLine_16 rfl (lv_at hl 0 rfl) ?_
      refine g_cVi (Wd := WX q ad) (z := z1) (As := []) (rest := []) hG S (kX5_wordHere l D q ad A hD z1 _ h) (cwV 0 ht (cW_V (fun _ h => h) tw_co_X5_wordHere tw_ml_X5_49 tw_im_X5_wordHere tw_se_X5_wordHere tw_in_X5) rfl rfl rfl (by decide +kernel) ⟨by decide, by decide⟩) (va_recv hK hP (ci := 5) (q0 := 24) rfl (wx_24 q ad z1)) hE hP hS rfl hl.1 rfl (Nat.le_of_ble_eq_true rfl) dX5_takeLine_17 ⟨Nat.zero_le _, Nat.zero_le _⟩ (fun r17 z17 H locs h hP hS => ?_)
      refine lv_istore_n (lv' := [(2, .int r17), (0, .ref (ad 24)), (1, .ref (ad (4 * i)))]) hx hb dX5_takeLine_20 rfl hl (by decide) rfl (fun ls hl => ?_)
      refine lv_iload_n hx hb dX5_takeLine_21 rfl (lv_at hl 0 rfl) ?_
      refine lv_if_ne (tgt := 34) hx hb dX5_takeLine_22 (by decide) (fun c22 => ?_) (fun c22 => ?_)
      · have h := h.1 c22
        refine lv_iload_n hx hb dX5_takeLine_34 rfl (lv_at hl 0 rfl) ?_
        refine lv_if_le (tgt := 53) hx hb dX5_takeLine_35 (by decide) (fun c35 => ?_) (fun c35 => ?_)
        · have h := h.1 c35
          exact B53 z17 r17 _ _ _ h hP hS (lv_sub hl [1, 2, 0] rfl)
        · have h := h.2 c35
          refine lv_iload_n hx hb dX5_takeLine_38 rfl (lv_at hl 0 rfl) ?_
          refine lv_iconst (v := (4 : Int32)) hx hb dX5_takeLine_39 (by decide) ?_
          refine lv_icmp_gt (tgt := 53) hx hb dX5_takeLine_40 (by decide) (fun c40 => ?_) (fun c40 => ?_)
          · have h := h.1 c40
            exact B53 z17 r17 _ _ _ h hP hS (lv_sub hl [1, 2, 0] rfl)
          · have h := h.2 c40
            refine lv_aload_n hx hb dX5_takeLine_43 rfl (lv_at hl 1 rfl) ?_
            refine lv_aload_n hx hb dX5_takeLine_44 rfl (lv_at hl 2 rfl) ?_
            refine lv_iload_n hx hb dX5_takeLine_45 rfl (lv_at hl 0 rfl) ?_
            refine g_cVi (Wd := WX q ad) (z := z17) (As := [.ref (ad (4 * i)), .int r17]) (rest := []) hG S (kX5_takeOmen l D q ad A hD i hi z17 r17 _ h) (cwV 2 ht (cW_V (fun _ h => h) tw_co_X5_takeOmen tw_ml_X5_56 tw_im_X5_takeOmen tw_se_X5_takeOmen tw_in_X5) rfl rfl rfl (by decide +kernel) ⟨by decide, by decide⟩) (va_recv hK hP (ci := 5) (q0 := 24) rfl (wx_24 q ad z17)) hE hP hS rfl hl.1 rfl (Nat.le_of_ble_eq_true rfl) dX5_takeLine_46 ⟨Nat.zero_le _, Nat.zero_le _⟩ (fun r46 z46 H locs h hP hS => ?_)
            refine lv_istore_n (lv' := [(3, .int r46), (2, .int r17), (0, .ref (ad 24)), (1, .ref (ad (4 * i)))]) hx hb dX5_takeLine_49 rfl hl (by decide) rfl (fun ls hl => ?_)
            refine lv_goto (tgt := 113) hx hb dX5_takeLine_50 (by decide) ?_
            exact B113 z46 r46 _ _ _ h hP hS (lv_sub hl [2, 0] rfl)
      · have h := h.2 c22
        refine lv_aload_n hx hb dX5_takeLine_25 rfl (lv_at hl 1 rfl) ?_
        refine lv_aload_n hx hb dX5_takeLine_26 rfl (lv_at hl 2 rfl) ?_
        refine g_cVi (Wd := WX q ad) (z := z17) (As := [.ref (ad (4 * i))]) (rest := []) hG S (kX5_takeBlocks l D q ad A hD i hi z17 _ h) (cwV 1 ht (cW_V (fun _ h => h) tw_co_X5_takeBlocks tw_ml_X5_53 tw_im_X5_takeBlocks tw_se_X5_takeBlocks tw_in_X5) rfl rfl rfl (by decide +kernel) ⟨by decide, by decide⟩) (va_recv hK hP (ci := 5) (q0 := 24) rfl (wx_24 q ad z17)) hE hP hS rfl hl.1 rfl (Nat.le_of_ble_eq_true rfl) dX5_takeLine_27 ⟨Nat.zero_le _, Nat.zero_le _⟩ (fun r27 z27 H locs h hP hS => ?_)
        refine lv_istore_n (lv' := [(3, .int r27), (2, .int r17), (0, .ref (ad 24)), (1, .ref (ad (4 * i)))]) hx hb dX5_takeLine_30 rfl hl (by decide) rfl (fun ls hl => ?_)
        refine lv_goto (tgt := 113) hx hb dX5_takeLine_31 (by decide) ?_
        exact B113 z27 r27 _ _ _ h hP hS (lv_sub hl [2, 0] rfl)
    · have h := h.2 c11
      refine lv_iconst (v := (0 : Int32)) hx hb dX5_takeLine_14 (by decide) ?_
      exact g_rz hG hx hb hr hlocks hE hP hS h dX5_takeLine_15
def pX5_checkWhole (i : Nat) (z : MX) (post : MX → Prop) : Prop :=
  pX0_omenBits i z (fun (r1 : Int32) (z1 : MX) =>
  pX0_lockBits i z1 (fun (r10 : Int32) (z10 : MX) =>
  ∀ x2_14 : Int32, x2_14 = (r1 ||| (z1.1 (4 * i) 1)) ||| r10 →
  (((x2_14 >>> ((z10.1 (4 * i) 0) &&& 31)) = 0 →
    pX0_omenBits i z10 (fun (r36 : Int32) (z36 : MX) =>
    pX0_allowsOmensIn i z36 r36 (fun (r39 : Int32) (z39 : MX) =>
    ((¬ r39 = 0 →
      post z39) ∧
    (r39 = 0 →
      pX5_blame z39 (7 : Int32) (fun (r48 : Int32) (z48 : MX) =>
      post z48)))))) ∧
  (¬ (x2_14 >>> ((z10.1 (4 * i) 0) &&& 31)) = 0 →
    pX5_blame z10 (6 : Int32) (fun (r27 : Int32) (z27 : MX) =>
    post z27)))))
set_option maxHeartbeats 4000000 in
set_option maxRecDepth 100000 in
theorem kX5_checkWhole (l : Launch) (D : va_G) (q : Nat → ClassId) (ad : Nat → Nat) (A : Nat → Prop) (hD : ∀ z, va_D A (WX q ad z)) (i : Nat) (hi : i < 4) (z : MX) (post : MX → Prop) (h : pX5_checkWhole i z post) : Met l yX5_checkWhole (cW yX5_checkWhole cX5_checkWhole 3 none) ({ frames := 1, cells := 0, slots := 0, locals := 23 } : Room) (va_Pc [.ref (ad 24), .ref (ad (4 * i))] ((gB D vwCl (WX q ad) (xE D q ad A)) z)) (va_Qv post (gB D vwCl (WX q ad) (xE D q ad A)) A) 0 0 A := by
  refine Met.ofW (cc := cX5_checkWhole) (maxL := 3) (ret := none) (by decide) rfl ?_
  intro p e s m args below meth c s₁ B hml hv
  obtain ⟨hargs, hP, hE⟩ := hv
  have hx := B.exec
  have hb := B.bytes
  have hr := B.returns
  have hts := atoms_spec (ws := (cW yX5_checkWhole cX5_checkWhole 3 none)) B.pre
  have ht : ∀ w ∈ tG, w.before args s = true := fun w h => hts w (List.mem_cons_of_mem _ h)
  have hown : s.vm.findClass RX5 = some m.cls := findClass_of_methodNamed B.named
  have hlocks := B.notSynchronized
  have hK := hE.1
  have hG := xE_G D q ad A
  have S : CallFix p m c cX5_checkWhole 3 s args tG RX5 := ⟨hx, hb, hml, hown, ht⟩
  have hS : va_S A s.heap s.heap [] := va_S.rf
  refine g_entry (vs := [.ref (ad 24), .ref (ad (4 * i))]) hargs (Nat.le_of_ble_eq_true rfl) (fun ls hl => ?_)
  have hl : lv_has ls 3 [(0, .ref (ad 24)), (1, .ref (ad (4 * i)))] := hl
  unfold pX5_checkWhole at h
  refine lv_aload_n hx hb dX5_checkWhole_0 rfl (lv_at hl 1 rfl) ?_
  refine g_cVi (Wd := WX q ad) (z := z) (As := []) (rest := []) hG S (kX0_omenBits l D q ad A hD i hi z _ h) (cwV 0 ht (cW_V (fun _ h => h) tw_co_X0_omenBits tw_ml_X5_114 tw_im_X0_omenBits tw_se_X0_omenBits tw_in_X0) rfl rfl rfl (by decide +kernel) ⟨by decide, by decide⟩) (va_recv hK hP (ci := 0) (q0 := (4 * i)) rfl (wxl q ad z hi)) hE hP hS rfl hl.1 rfl (Nat.le_of_ble_eq_true rfl) dX5_checkWhole_1 ⟨Nat.zero_le _, Nat.zero_le _⟩ (fun r1 z1 H locs h hP hS => ?_)
  refine lv_aload_n hx hb dX5_checkWhole_4 rfl (lv_at hl 1 rfl) ?_
  refine va_get (D := D) (ci := 0) (v := .int (z1.1 (4 * i) 1)) (C := RX0) (T := TX0) (N := 7) hx hb ht tl_X0 hown hK hP (4 * i) (wxl q ad z1 hi) rfl 1 (by decide) (ht _ tw_fl_X5_92) (fun _ h9 => h9) rfl dX5_checkWhole_5 ?_
  refine lv_ior hx hb dX5_checkWhole_8 ?_
  refine lv_aload_n hx hb dX5_checkWhole_9 rfl (lv_at hl 1 rfl) ?_
  refine g_cVi (Wd := WX q ad) (z := z1) (As := []) (rest := [.int (r1 ||| (z1.1 (4 * i) 1))]) hG S (kX0_lockBits l D q ad A hD i hi z1 _ h) (cwV 0 ht (cW_V (fun _ h => h) tw_co_X0_lockBits tw_ml_X5_117 tw_im_X0_lockBits tw_se_X0_lockBits tw_in_X0) rfl rfl rfl (by decide +kernel) ⟨by decide, by decide⟩) (va_recv hK hP (ci := 0) (q0 := (4 * i)) rfl (wxl q ad z1 hi)) hE hP hS rfl hl.1 rfl (Nat.le_of_ble_eq_true rfl) dX5_checkWhole_10 ⟨Nat.zero_le _, Nat.zero_le _⟩ (fun r10 z10 H locs h hP hS => ?_)
  refine lv_ior hx hb dX5_checkWhole_13 ?_
  refine lv_topi (fun x2_14 ex2_14 => ?_)
  have h := h x2_14 ex2_14
  refine lv_istore_n (lv' := [(2, .int x2_14), (0, .ref (ad 24)), (1, .ref (ad (4 * i)))]) hx hb dX5_checkWhole_14 rfl hl (by decide) rfl (fun ls hl => ?_)
  refine lv_iload_n hx hb dX5_checkWhole_15 rfl (lv_at hl 0 rfl) ?_
  refine lv_aload_n hx hb dX5_checkWhole_16 rfl (lv_at hl 2 rfl) ?_
  refine va_get (D := D) (ci := 0) (v := .int (z10.1 (4 * i) 0)) (C := RX0) (T := TX0) (N := 7) hx hb ht tl_X0 hown hK hP (4 * i) (wxl q ad z10 hi) rfl 0 (by decide) (ht _ tw_fl_X5_83) (fun _ h9 => h9) rfl dX5_checkWhole_17 ?_
  refine lv_ishr hx hb dX5_checkWhole_20 ?_
  refine lv_if_eq (tgt := 34) hx hb dX5_checkWhole_21 (by decide) (fun c21 => ?_) (fun c21 => ?_)
  · have h := h.1 c21
    refine lv_aload_n hx hb dX5_checkWhole_34 rfl (lv_at hl 2 rfl) ?_
    refine lv_aload_n hx hb dX5_checkWhole_35 rfl (lv_at hl 2 rfl) ?_
    refine g_cVi (Wd := WX q ad) (z := z10) (As := []) (rest := [.ref (ad (4 * i))]) hG S (kX0_omenBits l D q ad A hD i hi z10 _ h) (cwV 0 ht (cW_V (fun _ h => h) tw_co_X0_omenBits tw_ml_X5_114 tw_im_X0_omenBits tw_se_X0_omenBits tw_in_X0) rfl rfl rfl (by decide +kernel) ⟨by decide, by decide⟩) (va_recv hK hP (ci := 0) (q0 := (4 * i)) rfl (wxl q ad z10 hi)) hE hP hS rfl hl.1 rfl (Nat.le_of_ble_eq_true rfl) dX5_checkWhole_36 ⟨Nat.zero_le _, Nat.zero_le _⟩ (fun r36 z36 H locs h hP hS => ?_)
    refine g_cVi (Wd := WX q ad) (z := z36) (As := [.int r36]) (rest := []) hG S (kX0_allowsOmensIn l D q ad A hD i hi z36 r36 _ h) (cwV 1 ht (cW_V (fun _ h => h) tw_co_X0_allowsOmensIn tw_ml_X5_120 tw_im_X0_allowsOmensIn tw_se_X0_allowsOmensIn tw_in_X0) rfl rfl rfl (by decide +kernel) ⟨by decide, by decide⟩) (va_recv hK hP (ci := 0) (q0 := (4 * i)) rfl (wxl q ad z36 hi)) hE hP hS rfl hl.1 rfl (Nat.le_of_ble_eq_true rfl) dX5_checkWhole_39 ⟨Nat.zero_le _, Nat.zero_le _⟩ (fun r39 z39 H locs h hP hS => ?_)
    refine lv_if_ne (tgt := 52) hx hb dX5_checkWhole_42 (by decide) (fun c42 => ?_) (fun c42 => ?_)
    · have h := h.1 c42
      exact g_rv hG hx hb hr hlocks hE hP hS h dX5_checkWhole_52
    · have h := h.2 c42
      refine lv_aload_n hx hb dX5_checkWhole_45 rfl (lv_at hl 1 rfl) ?_
      refine lv_bipush (v := (7 : Int32)) hx hb dX5_checkWhole_46 (by decide) ?_
      refine g_cVi (Wd := WX q ad) (z := z39) (As := [.int (7 : Int32)]) (rest := []) hG S (kX5_blame l D q ad A hD z39 (7 : Int32) _ h) (cwV 1 ht (cW_V (fun _ h => h) tw_co_X5_blame tw_ml_X5_69 tw_im_X5_blame tw_se_X5_blame tw_in_X5) rfl rfl rfl (by decide +kernel) ⟨by decide, by decide⟩) (va_recv hK hP (ci := 5) (q0 := 24) rfl (wx_24 q ad z39)) hE hP hS rfl hl.1 rfl (Nat.le_of_ble_eq_true rfl) dX5_checkWhole_48 ⟨Nat.zero_le _, Nat.zero_le _⟩ (fun r48 z48 H locs h hP hS => ?_)
      refine lv_pop hx hb dX5_checkWhole_51 rfl ?_
      exact g_rv hG hx hb hr hlocks hE hP hS h dX5_checkWhole_52
  · have h := h.2 c21
    refine lv_aload_n hx hb dX5_checkWhole_24 rfl (lv_at hl 1 rfl) ?_
    refine lv_bipush (v := (6 : Int32)) hx hb dX5_checkWhole_25 (by decide) ?_
    refine g_cVi (Wd := WX q ad) (z := z10) (As := [.int (6 : Int32)]) (rest := []) hG S (kX5_blame l D q ad A hD z10 (6 : Int32) _ h) (cwV 1 ht (cW_V (fun _ h => h) tw_co_X5_blame tw_ml_X5_69 tw_im_X5_blame tw_se_X5_blame tw_in_X5) rfl rfl rfl (by decide +kernel) ⟨by decide, by decide⟩) (va_recv hK hP (ci := 5) (q0 := 24) rfl (wx_24 q ad z10)) hE hP hS rfl hl.1 rfl (Nat.le_of_ble_eq_true rfl) dX5_checkWhole_27 ⟨Nat.zero_le _, Nat.zero_le _⟩ (fun r27 z27 H locs h hP hS => ?_)
    refine lv_pop hx hb dX5_checkWhole_30 rfl ?_
    refine lv_goto (tgt := 52) hx hb dX5_checkWhole_31 (by decide) ?_
    exact g_rv hG hx hb hr hlocks hE hP hS h dX5_checkWhole_52
def pX5_parse_b47 (i : Nat) (post : Int32 → MX → Prop) (z : MX) (x2 : Int32) : Prop :=
    ((¬ (z.1 24 2) = 0 →
      post x2 z) ∧
    ((z.1 24 2) = 0 →
      pX5_checkWhole i z (fun (z56 : MX) =>
      post x2 z56)))
def pX5_parse_l23 (i : Nat) (rec23 : MX → Int32 → Int32 → Prop) (post : Int32 → MX → Prop) (z : MX) (x2 : Int32) (x3 : Int32) : Prop :=
    (((160 : Int32) < x3 →
      pX5_parse_b47 i post z x2) ∧
    (¬ (160 : Int32) < x3 →
      pX5_takeLine i z (fun (r32 : Int32) (z32 : MX) =>
      ((r32 = 0 →
        pX5_parse_b47 i post z32 x2) ∧
      (¬ r32 = 0 →
        ∀ x2_38 : Int32, x2_38 = x2 + (1 : Int32) →
        ∀ x3_41 : Int32, x3_41 = x3 + (1 : Int32) →
        rec23 z32 x2_38 x3_41)))))
def pX5_parse_L23 (i : Nat) (post : Int32 → MX → Prop) : Nat → MX → Int32 → Int32 → Prop
  | 0 => fun _ _ _ => False
  | n + 1 => fun z x2 x3 => pX5_parse_l23 i (pX5_parse_L23 i post n) post z x2 x3
def pX5_parse (i : Nat) (z : MX) (post : Int32 → MX → Prop) : Prop :=
  pX0_clear i z (fun (z1 : MX) =>
  ∀ z6 : MX, z6 = mw z1 24 2 (0 : Int32) →
  ∀ z11 : MX, z11 = mw z6 24 4 (0 : Int32) →
  ∀ z16 : MX, z16 = mw z11 24 7 (0 : Int32) →
  ∃ n, pX5_parse_L23 i post n z16 (0 : Int32) (0 : Int32))
set_option maxHeartbeats 4000000 in
set_option maxRecDepth 100000 in
theorem kX5_parse (l : Launch) (D : va_G) (q : Nat → ClassId) (ad : Nat → Nat) (A : Nat → Prop) (hD : ∀ z, va_D A (WX q ad z)) (i : Nat) (hi : i < 4) (z : MX) (post : Int32 → MX → Prop) (h : pX5_parse i z post) : Met l yX5_parse (cW yX5_parse cX5_parse 4 (some .int)) ({ frames := 9, cells := 0, slots := 0, locals := 195 } : Room) (va_Pc [.ref (ad 24), .ref (ad (4 * i))] ((gB D vwCl (WX q ad) (xE D q ad A)) z)) (va_Qi post (gB D vwCl (WX q ad) (xE D q ad A)) A) 0 0 A := by
  refine Met.ofW (cc := cX5_parse) (maxL := 4) (ret := (some .int)) (by decide) rfl ?_
  intro p e s m args below meth c s₁ B hml hv
  obtain ⟨hargs, hP, hE⟩ := hv
  have hx := B.exec
  have hb := B.bytes
  have hr := B.returns
  have hts := atoms_spec (ws := (cW yX5_parse cX5_parse 4 (some .int))) B.pre
  have ht : ∀ w ∈ tG, w.before args s = true := fun w h => hts w (List.mem_cons_of_mem _ h)
  have hown : s.vm.findClass RX5 = some m.cls := findClass_of_methodNamed B.named
  have hlocks := B.notSynchronized
  have hK := hE.1
  have hG := xE_G D q ad A
  have S : CallFix p m c cX5_parse 4 s args tG RX5 := ⟨hx, hb, hml, hown, ht⟩
  have hS : va_S A s.heap s.heap [] := va_S.rf
  have B47 : ∀ (z : MX) (x2 : Int32) (H : Heap) (locs : List Loc) (ls : Array Slot), pX5_parse_b47 i post z x2 → va_P D vwCl (WX q ad z) H → va_S A s.heap H locs → lv_has ls 4 [(0, .ref (ad 24)), (1, .ref (ad (4 * i))), (2, .int x2)] → W p l e (headSpec (cW yX5_parse cX5_parse 4 (some .int)) ({ frames := 9, cells := 0, slots := 0, locals := 195 } : Room)).room s m args below meth c H locs 0 0 (MQ below (va_Qi post (gB D vwCl (WX q ad) (xE D q ad A)) A) args s 0 0 A) (F0 m 47 ls []) := by
    intro z x2 H locs ls h hP hS hl
    unfold pX5_parse_b47 at h
    refine lv_aload_n hx hb dX5_parse_47 rfl (lv_at hl 0 rfl) ?_
    refine va_get (D := D) (ci := 5) (v := .int (z.1 24 2)) (C := RX5) (T := TX5) (N := 9) hx hb ht tl_X5 hown hK hP 24 (wx_24 q ad z) rfl 2 (by decide) (ht _ tw_fl_X5_24) (fun _ h9 => h9) rfl dX5_parse_48 ?_
    refine lv_if_ne (tgt := 59) hx hb dX5_parse_51 (by decide) (fun c51 => ?_) (fun c51 => ?_)
    · have h := h.1 c51
      refine lv_iload_n hx hb dX5_parse_59 rfl (lv_at hl 2 rfl) ?_
      exact g_ri hG hx hb hr hlocks hE hP hS h dX5_parse_60
    · have h := h.2 c51
      refine lv_aload_n hx hb dX5_parse_54 rfl (lv_at hl 0 rfl) ?_
      refine lv_aload_n hx hb dX5_parse_55 rfl (lv_at hl 1 rfl) ?_
      refine g_cVv (Wd := WX q ad) (z := z) (As := [.ref (ad (4 * i))]) (rest := []) hG S (kX5_checkWhole l D q ad A hD i hi z _ h) (cwV 1 ht (cW_V (fun _ h => h) tw_co_X5_checkWhole tw_ml_X5_38 tw_im_X5_checkWhole tw_se_X5_checkWhole tw_in_X5) rfl rfl rfl (by decide +kernel) ⟨by decide, by decide⟩) (va_recv hK hP (ci := 5) (q0 := 24) rfl (wx_24 q ad z)) hE hP hS rfl hl.1 rfl (Nat.le_of_ble_eq_true rfl) dX5_parse_56 ⟨Nat.zero_le _, Nat.zero_le _⟩ (fun z56 H locs h hP hS => ?_)
      refine lv_iload_n hx hb dX5_parse_59 rfl (lv_at hl 2 rfl) ?_
      exact g_ri hG hx hb hr hlocks hE hP hS h dX5_parse_60
  have B23 : ∀ (rec23 : MX → Int32 → Int32 → Prop) (hrec23 : ∀ (z : MX) (x2 : Int32) (x3 : Int32) (H : Heap) (locs : List Loc) (ls : Array Slot), rec23 z x2 x3 → va_P D vwCl (WX q ad z) H → va_S A s.heap H locs → lv_has ls 4 [(0, .ref (ad 24)), (1, .ref (ad (4 * i))), (2, .int x2), (3, .int x3)] → W p l e (headSpec (cW yX5_parse cX5_parse 4 (some .int)) ({ frames := 9, cells := 0, slots := 0, locals := 195 } : Room)).room s m args below meth c H locs 0 0 (MQ below (va_Qi post (gB D vwCl (WX q ad) (xE D q ad A)) A) args s 0 0 A) (F0 m 23 ls [])) (z : MX) (x2 : Int32) (x3 : Int32) (H : Heap) (locs : List Loc) (ls : Array Slot), pX5_parse_l23 i rec23 post z x2 x3 → va_P D vwCl (WX q ad z) H → va_S A s.heap H locs → lv_has ls 4 [(0, .ref (ad 24)), (1, .ref (ad (4 * i))), (2, .int x2), (3, .int x3)] → W p l e (headSpec (cW yX5_parse cX5_parse 4 (some .int)) ({ frames := 9, cells := 0, slots := 0, locals := 195 } : Room)).room s m args below meth c H locs 0 0 (MQ below (va_Qi post (gB D vwCl (WX q ad) (xE D q ad A)) A) args s 0 0 A) (F0 m 23 ls []) := by
    intro rec23 hrec23 z x2 x3 H locs ls h hP hS hl
    unfold pX5_parse_l23 at h
    refine lv_iload_n hx hb dX5_parse_23 rfl (lv_at hl 3 rfl) ?_
    refine lv_sipush (v := (160 : Int32)) hx hb dX5_parse_24 (by decide) ?_
    refine lv_icmp_gt (tgt := 47) hx hb dX5_parse_27 (by decide) (fun c27 => ?_) (fun c27 => ?_)
    · have h := h.1 c27
      exact B47 z x2 _ _ _ h hP hS (lv_sub hl [0, 1, 2] rfl)
    · have h := h.2 c27
      refine lv_aload_n hx hb dX5_parse_30 rfl (lv_at hl 0 rfl) ?_
      refine lv_aload_n hx hb dX5_parse_31 rfl (lv_at hl 1 rfl) ?_
      refine g_cVi (Wd := WX q ad) (z := z) (As := [.ref (ad (4 * i))]) (rest := []) hG S (kX5_takeLine l D q ad A hD i hi z _ h) (cwV 1 ht (cW_V (fun _ h => h) tw_co_X5_takeLine tw_ml_X5_34 tw_im_X5_takeLine tw_se_X5_takeLine tw_in_X5) rfl rfl rfl (by decide +kernel) ⟨by decide, by decide⟩) (va_recv hK hP (ci := 5) (q0 := 24) rfl (wx_24 q ad z)) hE hP hS rfl hl.1 rfl (Nat.le_of_ble_eq_true rfl) dX5_parse_32 ⟨Nat.zero_le _, Nat.zero_le _⟩ (fun r32 z32 H locs h hP hS => ?_)
      refine lv_if_eq (tgt := 47) hx hb dX5_parse_35 (by decide) (fun c35 => ?_) (fun c35 => ?_)
      · have h := h.1 c35
        exact B47 z32 x2 _ _ _ h hP hS (lv_sub hl [0, 1, 2] rfl)
      · have h := h.2 c35
        obtain ⟨x2_38, ex2_38⟩ : ∃ w : Int32, w = x2 + (1 : Int32) := ⟨_, rfl⟩
        have h := h x2_38 ex2_38
        refine lv_iinc (v := x2_38) (lv' := [(2, .int x2_38), (0, .ref (ad 24)), (1, .ref (ad (4 * i))), (3, .int x3)]) hx hb dX5_parse_38 hl (k := 2) rfl (by rw [ex2_38]; rfl) (by decide) rfl (fun ls hl => ?_)
        obtain ⟨x3_41, ex3_41⟩ : ∃ w : Int32, w = x3 + (1 : Int32) := ⟨_, rfl⟩
        have h := h x3_41 ex3_41
        refine lv_iinc (v := x3_41) (lv' := [(3, .int x3_41), (2, .int x2_38), (0, .ref (ad 24)), (1, .ref (ad (4 * i)))]) hx hb dX5_parse_41 hl (k := 3) rfl (by rw [ex3_41]; rfl) (by decide) rfl (fun ls hl => ?_)
        refine lv_goto (tgt := 23) hx hb dX5_parse_44 (by decide) ?_
        exact hrec23 z32 x2_38 x3_41 _ _ _ h hP hS (lv_sub hl [2, 3, 1, 0] rfl)
  have L23 : ∀ (n : Nat) (z : MX) (x2 : Int32) (x3 : Int32) (H : Heap) (locs : List Loc) (ls : Array Slot), pX5_parse_L23 i post n z x2 x3 → va_P D vwCl (WX q ad z) H → va_S A s.heap H locs → lv_has ls 4 [(0, .ref (ad 24)), (1, .ref (ad (4 * i))), (2, .int x2), (3, .int x3)] → W p l e (headSpec (cW yX5_parse cX5_parse 4 (some .int)) ({ frames := 9, cells := 0, slots := 0, locals := 195 } : Room)).room s m args below meth c H locs 0 0 (MQ below (va_Qi post (gB D vwCl (WX q ad) (xE D q ad A)) A) args s 0 0 A) (F0 m 23 ls []) := by
    intro n
    induction n with
    | zero =>
      intro z x2 x3 H locs ls h
      exact False.elim h
    | succ n ih =>
      intro z x2 x3 H locs ls h hP hS hl
      exact B23 (pX5_parse_L23 i post n) ih z x2 x3 H locs ls h hP hS hl
  refine g_entry (vs := [.ref (ad 24), .ref (ad (4 * i))]) hargs (Nat.le_of_ble_eq_true rfl) (fun ls hl => ?_)
  have hl : lv_has ls 4 [(0, .ref (ad 24)), (1, .ref (ad (4 * i)))] := hl
  unfold pX5_parse at h
  refine lv_aload_n hx hb dX5_parse_0 rfl (lv_at hl 1 rfl) ?_
  refine g_cVv (Wd := WX q ad) (z := z) (As := []) (rest := []) hG S (kX0_clear l D q ad A hD i hi z _ h) (cwV 0 ht (cW_V (fun _ h => h) tw_co_X0_clear tw_ml_X5_19 tw_im_X0_clear tw_se_X0_clear tw_in_X0) rfl rfl rfl (by decide +kernel) ⟨by decide, by decide⟩) (va_recv hK hP (ci := 0) (q0 := (4 * i)) rfl (wxl q ad z hi)) hE hP hS rfl hl.1 rfl (Nat.le_of_ble_eq_true rfl) dX5_parse_1 ⟨Nat.zero_le _, Nat.zero_le _⟩ (fun z1 H locs h hP hS => ?_)
  refine lv_aload_n hx hb dX5_parse_4 rfl (lv_at hl 0 rfl) ?_
  refine lv_iconst (v := (0 : Int32)) hx hb dX5_parse_5 (by decide) ?_
  refine g_put (D := D) (Wd := WX q ad) (z := z1) (ci := 5) (v := .int (0 : Int32)) (ty := .int) (C := RX5) (T := TX5) (N := 9) hx hb ht tl_X5 tyX5 tyX5_ok nmX5 hown hK hP (hD z1) hS 24 (wx_24 q ad z1) rfl 2 (by decide) (ht _ tw_fl_X5_24) (fun _ h9 => h9) rfl rfl rfl rfl (Nat.le_of_ble_eq_true rfl) ((px_24_2 q ad z1) (0 : Int32)) dX5_parse_6 (fun z6 H locs hz6 hP hS => ?_)
  have h := h z6 hz6
  refine lv_aload_n hx hb dX5_parse_9 rfl (lv_at hl 0 rfl) ?_
  refine lv_iconst (v := (0 : Int32)) hx hb dX5_parse_10 (by decide) ?_
  refine g_put (D := D) (Wd := WX q ad) (z := z6) (ci := 5) (v := .int (0 : Int32)) (ty := .boolean) (C := RX5) (T := TX5) (N := 9) hx hb ht tl_X5 tyX5 tyX5_ok nmX5 hown hK hP (hD z6) hS 24 (wx_24 q ad z6) rfl 4 (by decide) (ht _ tw_fl_X5_27) (fun _ h9 => h9) rfl rfl rfl rfl (Nat.le_of_ble_eq_true rfl) ((px_24_4 q ad z6) (0 : Int32)) dX5_parse_11 (fun z11 H locs hz11 hP hS => ?_)
  have h := h z11 hz11
  refine lv_aload_n hx hb dX5_parse_14 rfl (lv_at hl 0 rfl) ?_
  refine lv_iconst (v := (0 : Int32)) hx hb dX5_parse_15 (by decide) ?_
  refine g_put (D := D) (Wd := WX q ad) (z := z11) (ci := 5) (v := .int (0 : Int32)) (ty := .int) (C := RX5) (T := TX5) (N := 9) hx hb ht tl_X5 tyX5 tyX5_ok nmX5 hown hK hP (hD z11) hS 24 (wx_24 q ad z11) rfl 7 (by decide) (ht _ tw_fl_X5_31) (fun _ h9 => h9) rfl rfl rfl rfl (Nat.le_of_ble_eq_true rfl) ((px_24_7 q ad z11) (0 : Int32)) dX5_parse_16 (fun z16 H locs hz16 hP hS => ?_)
  have h := h z16 hz16
  refine lv_iconst (v := (0 : Int32)) hx hb dX5_parse_19 (by decide) ?_
  refine lv_istore_n (lv' := [(2, .int (0 : Int32)), (0, .ref (ad 24)), (1, .ref (ad (4 * i)))]) hx hb dX5_parse_20 rfl hl (by decide) rfl (fun ls hl => ?_)
  refine lv_iconst (v := (0 : Int32)) hx hb dX5_parse_21 (by decide) ?_
  refine lv_istore_n (lv' := [(3, .int (0 : Int32)), (2, .int (0 : Int32)), (0, .ref (ad 24)), (1, .ref (ad (4 * i)))]) hx hb dX5_parse_22 rfl hl (by decide) rfl (fun ls hl => ?_)
  obtain ⟨n, h⟩ := h
  exact L23 n z16 (0 : Int32) (0 : Int32) _ _ _ h hP hS (lv_sub hl [2, 3, 1, 0] rfl)
