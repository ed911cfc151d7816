def pX7_sizeOrSet (z : MX) (x0 : Int32) (x1 : Int32) (post : Int32 → MX → Prop) : Prop :=
  ((¬ x0 = (-4 : Int32) →
    ((¬ x1 = 0 →
      post x0 z) ∧
    (x1 = 0 →
      pJ6_bitCount_0f7a4 z x0 (fun (r14 : Int32) (z14 : MX) =>
      post r14 z14)))) ∧
  (x0 = (-4 : Int32) →
    post (-4 : Int32) z))
set_option maxHeartbeats 4000000 in
set_option maxRecDepth 100000 in
theorem kX7_sizeOrSet (l : Launch) (D : va_G) (q : Nat → ClassId) (ad : Nat → Nat) (A : Nat → Prop) (hD : ∀ z, va_D A (WX q ad z)) (z : MX) (x0 : Int32) (x1 : Int32) (post : Int32 → MX → Prop) (h : pX7_sizeOrSet  z x0 x1 post) : Met l yX7_sizeOrSet (cW yX7_sizeOrSet cX7_sizeOrSet 2 (some .int)) ({ frames := 1, cells := 0, slots := 0, locals := 20 } : Room) (va_Pc [.int x0, .int x1] ((gB D vwCl (WX q ad) (xE D q ad A)) z)) (va_Qi post (gB D vwCl (WX q ad) (xE D q ad A)) A) 0 0 A := by
  refine Met.ofW (cc := cX7_sizeOrSet) (maxL := 2) (ret := (some .int)) (by decide) rfl ?_
  intro p e s m args below meth c s₁ B hml hv
  obtain ⟨hargs, hP, hE⟩ := hv
  have hx := B.exec
  have hb := B.bytes
  have hr := B.returns
  have hts := atoms_spec (ws := (cW yX7_sizeOrSet cX7_sizeOrSet 2 (some .int))) B.pre
  have ht : ∀ w ∈ tG, w.before args s = true := fun w h => hts w (List.mem_cons_of_mem _ h)
  have hown : s.vm.findClass RX7 = some m.cls := findClass_of_methodNamed B.named
  have hlocks := B.notSynchronized
  have hK := hE.1
  have hG := xE_G D q ad A
  have S : CallFix p m c cX7_sizeOrSet 2 s args tG RX7 := ⟨hx, hb, hml, hown, ht⟩
  have hS : va_S A s.heap s.heap [] := va_S.rf
  refine g_entry (vs := [.int x0, .int x1]) hargs (Nat.le_of_ble_eq_true rfl) (fun ls hl => ?_)
  have hl : lv_has ls 2 [(0, .int x0), (1, .int x1)] := hl
  unfold pX7_sizeOrSet at h
  refine lv_iload_n hx hb dX7_sizeOrSet_0 rfl (lv_at hl 0 rfl) ?_
  refine lv_bipush (v := (-4 : Int32)) hx hb dX7_sizeOrSet_1 (by decide) ?_
  refine lv_icmp_ne (tgt := 9) hx hb dX7_sizeOrSet_3 (by decide) (fun c3 => ?_) (fun c3 => ?_)
  · have h := h.1 c3
    refine lv_iload_n hx hb dX7_sizeOrSet_9 rfl (lv_at hl 1 rfl) ?_
    refine lv_if_ne (tgt := 20) hx hb dX7_sizeOrSet_10 (by decide) (fun c10 => ?_) (fun c10 => ?_)
    · have h := h.1 c10
      refine lv_iload_n hx hb dX7_sizeOrSet_20 rfl (lv_at hl 0 rfl) ?_
      exact g_ri hG hx hb hr hlocks hE hP hS h dX7_sizeOrSet_21
    · have h := h.2 c10
      refine lv_iload_n hx hb dX7_sizeOrSet_13 rfl (lv_at hl 0 rfl) ?_
      refine g_cSi (Wd := WX q ad) (z := z) (As := [.int x0]) (rest := []) hG S (kJ6_bitCount_0f7a4 l D q ad A hD z x0 _ h) (va_cwS 1 ht (cW_S (fun _ h => h) tw_co_J6_bitCount_0f7a4 tw_ml_X7_223 tw_st_J6_bitCount_0f7a4 tw_in_J6) rfl rfl rfl (by decide +kernel) ⟨by decide, by decide⟩) hE hP hS rfl hl.1 rfl (Nat.le_of_ble_eq_true rfl) dX7_sizeOrSet_14 ⟨Nat.zero_le _, Nat.zero_le _⟩ (fun r14 z14 H locs h hP hS => ?_)
      refine lv_goto (tgt := 21) hx hb dX7_sizeOrSet_17 (by decide) ?_
      exact g_ri hG hx hb hr hlocks hE hP hS h dX7_sizeOrSet_21
  · have h := h.2 c3
    refine lv_bipush (v := (-4 : Int32)) hx hb dX7_sizeOrSet_6 (by decide) ?_
    exact g_ri hG hx hb hr hlocks hE hP hS h dX7_sizeOrSet_8
def pX7_fewest (z : MX) (x1 : Int32) (post : Int32 → MX → Prop) : Prop :=
  pX7_isZeroOrOne z x1 (fun (r1 : Int32) (z1 : MX) =>
  ((¬ r1 = 0 →
    pX6_fewestGuards 0 z1 (fun (r17 : Int32) (z17 : MX) =>
    pX7_sizeOrSet z17 r17 x1 (fun (r21 : Int32) (z21 : MX) =>
    post r21 z21))) ∧
  (r1 = 0 →
    post (-1 : Int32) z1)))
set_option maxHeartbeats 4000000 in
set_option maxRecDepth 100000 in
theorem kX7_fewest (l : Launch) (D : va_G) (q : Nat → ClassId) (ad : Nat → Nat) (A : Nat → Prop) (hD : ∀ z, va_D A (WX q ad z)) (z : MX) (x1 : Int32) (post : Int32 → MX → Prop) (h : pX7_fewest  z x1 post) : Met l yX7_fewest (cW yX7_fewest cX7_fewest 2 (some .int)) ({ frames := 6, cells := 0, slots := 0, locals := 144 } : Room) (va_Pc [.ref (ad 38), .int x1] ((gB D vwCl (WX q ad) (xE D q ad A)) z)) (va_Qi post (gB D vwCl (WX q ad) (xE D q ad A)) A) 0 0 A := by
  refine Met.ofW (cc := cX7_fewest) (maxL := 2) (ret := (some .int)) (by decide) rfl ?_
  intro p e s m args below meth c s₁ B hml hv
  obtain ⟨hargs, hP, hE⟩ := hv
  have hx := B.exec
  have hb := B.bytes
  have hr := B.returns
  have hts := atoms_spec (ws := (cW yX7_fewest cX7_fewest 2 (some .int))) B.pre
  have ht : ∀ w ∈ tG, w.before args s = true := fun w h => hts w (List.mem_cons_of_mem _ h)
  have hown : s.vm.findClass RX7 = some m.cls := findClass_of_methodNamed B.named
  have hlocks := B.notSynchronized
  have hK := hE.1
  have hG := xE_G D q ad A
  have S : CallFix p m c cX7_fewest 2 s args tG RX7 := ⟨hx, hb, hml, hown, ht⟩
  have hS : va_S A s.heap s.heap [] := va_S.rf
  refine g_entry (vs := [.ref (ad 38), .int x1]) hargs (Nat.le_of_ble_eq_true rfl) (fun ls hl => ?_)
  have hl : lv_has ls 2 [(0, .ref (ad 38)), (1, .int x1)] := hl
  unfold pX7_fewest at h
  refine lv_iload_n hx hb dX7_fewest_0 rfl (lv_at hl 1 rfl) ?_
  refine g_cSi (Wd := WX q ad) (z := z) (As := [.int x1]) (rest := []) hG S (kX7_isZeroOrOne l D q ad A hD z x1 _ h) (va_cwS 1 ht (cW_S (fun _ h => h) tw_co_X7_isZeroOrOne tw_ml_X7_195 tw_st_X7_isZeroOrOne tw_in_X7) rfl rfl rfl (by decide +kernel) ⟨by decide, by decide⟩) hE hP hS rfl hl.1 rfl (Nat.le_of_ble_eq_true rfl) dX7_fewest_1 ⟨Nat.zero_le _, Nat.zero_le _⟩ (fun r1 z1 H locs h hP hS => ?_)
  refine lv_if_ne (tgt := 9) hx hb dX7_fewest_4 (by decide) (fun c4 => ?_) (fun c4 => ?_)
  · have h := h.1 c4
    refine lv_aload_n hx hb dX7_fewest_9 rfl (lv_at hl 0 rfl) ?_
    refine va_get (D := D) (ci := 7) (v := .ref (ad 31)) (C := RX7) (T := TX7) (N := 12) hx hb ht tl_X7 hown hK hP 38 (wx_38 q ad z1) rfl 4 (by decide) (ht _ tw_fl_X7_38) (fun _ h9 => h9) rfl dX7_fewest_10 ?_
    refine lv_aload_n hx hb dX7_fewest_13 rfl (lv_at hl 0 rfl) ?_
    refine va_get (D := D) (ci := 7) (v := .ref (ad (4 * 0))) (C := RX7) (T := TX7) (N := 12) hx hb ht tl_X7 hown hK hP 38 (wx_38 q ad z1) rfl 0 (by decide) (ht _ tw_fl_X7_10) (fun _ h9 => h9) rfl dX7_fewest_14 ?_
    refine g_cVi (Wd := WX q ad) (z := z1) (As := [.ref (ad (4 * 0))]) (rest := []) hG S (kX6_fewestGuards l D q ad A hD 0 (by decide) z1 _ h) (cwV 1 ht (cW_V (fun _ h => h) tw_co_X6_fewestGuards tw_ml_X7_198 tw_im_X6_fewestGuards tw_se_X6_fewestGuards tw_in_X6) rfl rfl rfl (by decide +kernel) ⟨by decide, by decide⟩) (va_recv hK hP (ci := 6) (q0 := 31) rfl (wx_31 q ad z1)) hE hP hS rfl hl.1 rfl (Nat.le_of_ble_eq_true rfl) dX7_fewest_17 ⟨Nat.zero_le _, Nat.zero_le _⟩ (fun r17 z17 H locs h hP hS => ?_)
    refine lv_iload_n hx hb dX7_fewest_20 rfl (lv_at hl 1 rfl) ?_
    refine g_cSi (Wd := WX q ad) (z := z17) (As := [.int r17, .int x1]) (rest := []) hG S (kX7_sizeOrSet l D q ad A hD z17 r17 x1 _ h) (va_cwS 2 ht (cW_S (fun _ h => h) tw_co_X7_sizeOrSet tw_ml_X7_201 tw_st_X7_sizeOrSet tw_in_X7) rfl rfl rfl (by decide +kernel) ⟨by decide, by decide⟩) hE hP hS rfl hl.1 rfl (Nat.le_of_ble_eq_true rfl) dX7_fewest_21 ⟨Nat.zero_le _, Nat.zero_le _⟩ (fun r21 z21 H locs h hP hS => ?_)
    exact g_ri hG hx hb hr hlocks hE hP hS h dX7_fewest_24
  · have h := h.2 c4
    refine lv_iconst (v := (-1 : Int32)) hx hb dX7_fewest_7 (by decide) ?_
    exact g_ri hG hx hb hr hlocks hE hP hS h dX7_fewest_8
def pX7_guards (z : MX) (x1 : Int32) (post : Int32 → MX → Prop) : Prop :=
  pX7_isZeroOrOne z x1 (fun (r1 : Int32) (z1 : MX) =>
  ((¬ r1 = 0 →
    pX6_cheapestGuards 0 z1 (fun (r17 : Int32) (z17 : MX) =>
    ((¬ x1 = 0 →
      post r17 z17) ∧
    (x1 = 0 →
      post (z17.1 31 2) z17)))) ∧
  (r1 = 0 →
    post (-1 : Int32) z1)))
set_option maxHeartbeats 4000000 in
set_option maxRecDepth 100000 in
theorem kX7_guards (l : Launch) (D : va_G) (q : Nat → ClassId) (ad : Nat → Nat) (A : Nat → Prop) (hD : ∀ z, va_D A (WX q ad z)) (z : MX) (x1 : Int32) (post : Int32 → MX → Prop) (h : pX7_guards  z x1 post) : Met l yX7_guards (cW yX7_guards cX7_guards 3 (some .int)) ({ frames := 6, cells := 0, slots := 0, locals := 144 } : Room) (va_Pc [.ref (ad 38), .int x1] ((gB D vwCl (WX q ad) (xE D q ad A)) z)) (va_Qi post (gB D vwCl (WX q ad) (xE D q ad A)) A) 0 0 A := by
  refine Met.ofW (cc := cX7_guards) (maxL := 3) (ret := (some .int)) (by decide) rfl ?_
  intro p e s m args below meth c s₁ B hml hv
  obtain ⟨hargs, hP, hE⟩ := hv
  have hx := B.exec
  have hb := B.bytes
  have hr := B.returns
  have hts := atoms_spec (ws := (cW yX7_guards cX7_guards 3 (some .int))) B.pre
  have ht : ∀ w ∈ tG, w.before args s = true := fun w h => hts w (List.mem_cons_of_mem _ h)
  have hown : s.vm.findClass RX7 = some m.cls := findClass_of_methodNamed B.named
  have hlocks := B.notSynchronized
  have hK := hE.1
  have hG := xE_G D q ad A
  have S : CallFix p m c cX7_guards 3 s args tG RX7 := ⟨hx, hb, hml, hown, ht⟩
  have hS : va_S A s.heap s.heap [] := va_S.rf
  refine g_entry (vs := [.ref (ad 38), .int x1]) hargs (Nat.le_of_ble_eq_true rfl) (fun ls hl => ?_)
  have hl : lv_has ls 3 [(0, .ref (ad 38)), (1, .int x1)] := hl
  unfold pX7_guards at h
  refine lv_iload_n hx hb dX7_guards_0 rfl (lv_at hl 1 rfl) ?_
  refine g_cSi (Wd := WX q ad) (z := z) (As := [.int x1]) (rest := []) hG S (kX7_isZeroOrOne l D q ad A hD z x1 _ h) (va_cwS 1 ht (cW_S (fun _ h => h) tw_co_X7_isZeroOrOne tw_ml_X7_195 tw_st_X7_isZeroOrOne tw_in_X7) rfl rfl rfl (by decide +kernel) ⟨by decide, by decide⟩) hE hP hS rfl hl.1 rfl (Nat.le_of_ble_eq_true rfl) dX7_guards_1 ⟨Nat.zero_le _, Nat.zero_le _⟩ (fun r1 z1 H locs h hP hS => ?_)
  refine lv_if_ne (tgt := 9) hx hb dX7_guards_4 (by decide) (fun c4 => ?_) (fun c4 => ?_)
  · have h := h.1 c4
    refine lv_aload_n hx hb dX7_guards_9 rfl (lv_at hl 0 rfl) ?_
    refine va_get (D := D) (ci := 7) (v := .ref (ad 31)) (C := RX7) (T := TX7) (N := 12) hx hb ht tl_X7 hown hK hP 38 (wx_38 q ad z1) rfl 4 (by decide) (ht _ tw_fl_X7_38) (fun _ h9 => h9) rfl dX7_guards_10 ?_
    refine lv_aload_n hx hb dX7_guards_13 rfl (lv_at hl 0 rfl) ?_
    refine va_get (D := D) (ci := 7) (v := .ref (ad (4 * 0))) (C := RX7) (T := TX7) (N := 12) hx hb ht tl_X7 hown hK hP 38 (wx_38 q ad z1) rfl 0 (by decide) (ht _ tw_fl_X7_10) (fun _ h9 => h9) rfl dX7_guards_14 ?_
    refine g_cVi (Wd := WX q ad) (z := z1) (As := [.ref (ad (4 * 0))]) (rest := []) hG S (kX6_cheapestGuards l D q ad A hD 0 (by decide) z1 _ h) (cwV 1 ht (cW_V (fun _ h => h) tw_co_X6_cheapestGuards tw_ml_X7_204 tw_im_X6_cheapestGuards tw_se_X6_cheapestGuards tw_in_X6) rfl rfl rfl (by decide +kernel) ⟨by decide, by decide⟩) (va_recv hK hP (ci := 6) (q0 := 31) rfl (wx_31 q ad z1)) hE hP hS rfl hl.1 rfl (Nat.le_of_ble_eq_true rfl) dX7_guards_17 ⟨Nat.zero_le _, Nat.zero_le _⟩ (fun r17 z17 H locs h hP hS => ?_)
    refine lv_istore_n (lv' := [(2, .int r17), (0, .ref (ad 38)), (1, .int x1)]) hx hb dX7_guards_20 rfl hl (by decide) rfl (fun ls hl => ?_)
    refine lv_iload_n hx hb dX7_guards_21 rfl (lv_at hl 2 rfl) ?_
    refine lv_if_ne (tgt := 35) hx hb dX7_guards_22 (by decide) (fun c22 => ?_) (fun c22 => ?_)
    · have h := h.1 c22
      refine lv_iload_n hx hb dX7_guards_35 rfl (lv_at hl 0 rfl) ?_
      exact g_ri hG hx hb hr hlocks hE hP hS h dX7_guards_36
    · have h := h.2 c22
      refine lv_aload_n hx hb dX7_guards_25 rfl (lv_at hl 1 rfl) ?_
      refine va_get (D := D) (ci := 7) (v := .ref (ad 31)) (C := RX7) (T := TX7) (N := 12) hx hb ht tl_X7 hown hK hP 38 (wx_38 q ad z17) rfl 4 (by decide) (ht _ tw_fl_X7_38) (fun _ h9 => h9) rfl dX7_guards_26 ?_
      refine va_get (D := D) (ci := 6) (v := .int (z17.1 31 2)) (C := RX6) (T := TX6) (N := 3) hx hb ht tl_X6 hown hK hP 31 (wx_31 q ad z17) rfl 2 (by decide) (ht _ tw_fl_X7_207) (fun _ h9 => h9) rfl dX7_guards_29 ?_
      refine lv_goto (tgt := 36) hx hb dX7_guards_32 (by decide) ?_
      exact g_ri hG hx hb hr hlocks hE hP hS h dX7_guards_36
  · have h := h.2 c4
    refine lv_iconst (v := (-1 : Int32)) hx hb dX7_guards_7 (by decide) ?_
    exact g_ri hG hx hb hr hlocks hE hP hS h dX7_guards_8
def pX7_magpies (z : MX) (x1 : Int32) (post : Int32 → MX → Prop) : Prop :=
  pX7_isZeroOrOne z x1 (fun (r1 : Int32) (z1 : MX) =>
  ((¬ r1 = 0 →
    pX6_fewestMagpies 0 z1 (fun (r17 : Int32) (z17 : MX) =>
    pX7_sizeOrSet z17 r17 x1 (fun (r21 : Int32) (z21 : MX) =>
    post r21 z21))) ∧
  (r1 = 0 →
    post (-1 : Int32) z1)))
set_option maxHeartbeats 4000000 in
set_option maxRecDepth 100000 in
theorem kX7_magpies (l : Launch) (D : va_G) (q : Nat → ClassId) (ad : Nat → Nat) (A : Nat → Prop) (hD : ∀ z, va_D A (WX q ad z)) (z : MX) (x1 : Int32) (post : Int32 → MX → Prop) (h : pX7_magpies  z x1 post) : Met l yX7_magpies (cW yX7_magpies cX7_magpies 2 (some .int)) ({ frames := 6, cells := 0, slots := 0, locals := 145 } : Room) (va_Pc [.ref (ad 38), .int x1] ((gB D vwCl (WX q ad) (xE D q ad A)) z)) (va_Qi post (gB D vwCl (WX q ad) (xE D q ad A)) A) 0 0 A := by
  refine Met.ofW (cc := cX7_magpies) (maxL := 2) (ret := (some .int)) (by decide) rfl ?_
  intro p e s m args below meth c s₁ B hml hv
  obtain ⟨hargs, hP, hE⟩ := hv
  have hx := B.exec
  have hb := B.bytes
  have hr := B.returns
  have hts := atoms_spec (ws := (cW yX7_magpies cX7_magpies 2 (some .int))) B.pre
  have ht : ∀ w ∈ tG, w.before args s = true := fun w h => hts w (List.mem_cons_of_mem _ h)
  have hown : s.vm.findClass RX7 = some m.cls := findClass_of_methodNamed B.named
  have hlocks := B.notSynchronized
  have hK := hE.1
  have hG := xE_G D q ad A
  have S : CallFix p m c cX7_magpies 2 s args tG RX7 := ⟨hx, hb, hml, hown, ht⟩
  have hS : va_S A s.heap s.heap [] := va_S.rf
  refine g_entry (vs := [.ref (ad 38), .int x1]) hargs (Nat.le_of_ble_eq_true rfl) (fun ls hl => ?_)
  have hl : lv_has ls 2 [(0, .ref (ad 38)), (1, .int x1)] := hl
  unfold pX7_magpies at h
  refine lv_iload_n hx hb dX7_magpies_0 rfl (lv_at hl 1 rfl) ?_
  refine g_cSi (Wd := WX q ad) (z := z) (As := [.int x1]) (rest := []) hG S (kX7_isZeroOrOne l D q ad A hD z x1 _ h) (va_cwS 1 ht (cW_S (fun _ h => h) tw_co_X7_isZeroOrOne tw_ml_X7_195 tw_st_X7_isZeroOrOne tw_in_X7) rfl rfl rfl (by decide +kernel) ⟨by decide, by decide⟩) hE hP hS rfl hl.1 rfl (Nat.le_of_ble_eq_true rfl) dX7_magpies_1 ⟨Nat.zero_le _, Nat.zero_le _⟩ (fun r1 z1 H locs h hP hS => ?_)
  refine lv_if_ne (tgt := 9) hx hb dX7_magpies_4 (by decide) (fun c4 => ?_) (fun c4 => ?_)
  · have h := h.1 c4
    refine lv_aload_n hx hb dX7_magpies_9 rfl (lv_at hl 0 rfl) ?_
    refine va_get (D := D) (ci := 7) (v := .ref (ad 31)) (C := RX7) (T := TX7) (N := 12) hx hb ht tl_X7 hown hK hP 38 (wx_38 q ad z1) rfl 4 (by decide) (ht _ tw_fl_X7_38) (fun _ h9 => h9) rfl dX7_magpies_10 ?_
    refine lv_aload_n hx hb dX7_magpies_13 rfl (lv_at hl 0 rfl) ?_
    refine va_get (D := D) (ci := 7) (v := .ref (ad (4 * 0))) (C := RX7) (T := TX7) (N := 12) hx hb ht tl_X7 hown hK hP 38 (wx_38 q ad z1) rfl 0 (by decide) (ht _ tw_fl_X7_10) (fun _ h9 => h9) rfl dX7_magpies_14 ?_
    refine g_cVi (Wd := WX q ad) (z := z1) (As := [.ref (ad (4 * 0))]) (rest := []) hG S (kX6_fewestMagpies l D q ad A hD 0 (by decide) z1 _ h) (cwV 1 ht (cW_V (fun _ h => h) tw_co_X6_fewestMagpies tw_ml_X7_210 tw_im_X6_fewestMagpies tw_se_X6_fewestMagpies tw_in_X6) rfl rfl rfl (by decide +kernel) ⟨by decide, by decide⟩) (va_recv hK hP (ci := 6) (q0 := 31) rfl (wx_31 q ad z1)) hE hP hS rfl hl.1 rfl (Nat.le_of_ble_eq_true rfl) dX7_magpies_17 ⟨Nat.zero_le _, Nat.zero_le _⟩ (fun r17 z17 H locs h hP hS => ?_)
    refine lv_iload_n hx hb dX7_magpies_20 rfl (lv_at hl 1 rfl) ?_
    refine g_cSi (Wd := WX q ad) (z := z17) (As := [.int r17, .int x1]) (rest := []) hG S (kX7_sizeOrSet l D q ad A hD z17 r17 x1 _ h) (va_cwS 2 ht (cW_S (fun _ h => h) tw_co_X7_sizeOrSet tw_ml_X7_201 tw_st_X7_sizeOrSet tw_in_X7) rfl rfl rfl (by decide +kernel) ⟨by decide, by decide⟩) hE hP hS rfl hl.1 rfl (Nat.le_of_ble_eq_true rfl) dX7_magpies_21 ⟨Nat.zero_le _, Nat.zero_le _⟩ (fun r21 z21 H locs h hP hS => ?_)
    exact g_ri hG hx hb hr hlocks hE hP hS h dX7_magpies_24
  · have h := h.2 c4
    refine lv_iconst (v := (-1 : Int32)) hx hb dX7_magpies_7 (by decide) ?_
    exact g_ri hG hx hb hr hlocks hE hP hS h dX7_magpies_8
def pX7_starts_b42 (post : Int32 → MX → Prop) (z : MX) : Prop :=
    post (z.1 31 2) z
def pX7_starts_b20 (post : Int32 → MX → Prop) (z : MX) (x1 : Int32) : Prop :=
    pX6_cheapestStarts 0 z (fun (r28 : Int32) (z28 : MX) =>
    ((r28 = (-4 : Int32) →
      pX7_starts_b42  post z28) ∧
    (¬ r28 = (-4 : Int32) →
      ((¬ x1 = 0 →
        pX7_startIn z28 r28 (x1 - (10 : Int32)) (z28.1 (4 * 0) 3) (fun (r62 : Int32) (z62 : MX) =>
        post r62 z62)) ∧
      (x1 = 0 →
        pX7_starts_b42  post z28)))))
def pX7_starts (z : MX) (x1 : Int32) (post : Int32 → MX → Prop) : Prop :=
  ((x1 = 0 →
    pX7_starts_b20  post z x1) ∧
  (¬ x1 = 0 →
    pX0_isTrain 0 z (x1 - (10 : Int32)) (fun (r12 : Int32) (z12 : MX) =>
    ((¬ r12 = 0 →
      pX7_starts_b20  post z12 x1) ∧
    (r12 = 0 →
      post (-1 : Int32) z12)))))
set_option maxHeartbeats 4000000 in
set_option maxRecDepth 100000 in
theorem kX7_starts (l : Launch) (D : va_G) (q : Nat → ClassId) (ad : Nat → Nat) (A : Nat → Prop) (hD : ∀ z, va_D A (WX q ad z)) (z : MX) (x1 : Int32) (post : Int32 → MX → Prop) (h : pX7_starts  z x1 post) : Met l yX7_starts (cW yX7_starts cX7_starts 3 (some .int)) ({ frames := 6, cells := 0, slots := 0, locals := 145 } : Room) (va_Pc [.ref (ad 38), .int x1] ((gB D vwCl (WX q ad) (xE D q ad A)) z)) (va_Qi post (gB D vwCl (WX q ad) (xE D q ad A)) A) 0 0 A := by
  refine Met.ofW (cc := cX7_starts) (maxL := 3) (ret := (some .int)) (by decide) rfl ?_
  intro p e s m args below meth c s₁ B hml hv
  obtain ⟨hargs, hP, hE⟩ := hv
  have hx := B.exec
  have hb := B.bytes
  have hr := B.returns
  have hts := atoms_spec (ws := (cW yX7_starts cX7_starts 3 (some .int))) B.pre
  have ht : ∀ w ∈ tG, w.before args s = true := fun w h => hts w (List.mem_cons_of_mem _ h)
  have hown : s.vm.findClass RX7 = some m.cls := findClass_of_methodNamed B.named
  have hlocks := B.notSynchronized
  have hK := hE.1
  have hG := xE_G D q ad A
  have S : CallFix p m c cX7_starts 3 s args tG RX7 := ⟨hx, hb, hml, hown, ht⟩
  have hS : va_S A s.heap s.heap [] := va_S.rf
  have B42 : ∀ (z : MX) (H : Heap) (locs : List Loc) (ls : Array Slot), pX7_starts_b42  post z → va_P D vwCl (WX q ad z) H → va_S A s.heap H locs → lv_has ls 3 [(0, .ref (ad 38))] → W p l e (headSpec (cW yX7_starts cX7_starts 3 (some .int)) ({ frames := 6, cells := 0, slots := 0, locals := 145 } : Room)).room s m args below meth c H locs 0 0 (MQ below (va_Qi post (gB D vwCl (WX q ad) (xE D q ad A)) A) args s 0 0 A) (F0 m 42 ls []) := by
    intro z H locs ls h hP hS hl
    unfold pX7_starts_b42 at h
    refine lv_aload_n hx hb dX7_starts_42 rfl (lv_at hl 0 rfl) ?_
    refine va_get (D := D) (ci := 7) (v := .ref (ad 31)) (C := RX7) (T := TX7) (N := 12) hx hb ht tl_X7 hown hK hP 38 (wx_38 q ad z) rfl 4 (by decide) (ht _ tw_fl_X7_38) (fun _ h9 => h9) rfl dX7_starts_43 ?_
    refine va_get (D := D) (ci := 6) (v := .int (z.1 31 2)) (C := RX6) (T := TX6) (N := 3) hx hb ht tl_X6 hown hK hP 31 (wx_31 q ad z) rfl 2 (by decide) (ht _ tw_fl_X7_207) (fun _ h9 => h9) rfl dX7_starts_46 ?_
    exact g_ri hG hx hb hr hlocks hE hP hS h dX7_starts_49
  have B20 : ∀ (z : MX) (x1 : Int32) (H : Heap) (locs : List Loc) (ls : Array Slot), pX7_starts_b20  post z x1 → va_P D vwCl (WX q ad z) H → va_S A s.heap H locs → lv_has ls 3 [(0, .ref (ad 38)), (1, .int x1)] → W p l e (headSpec (cW yX7_starts cX7_starts 3 (some .int)) ({ frames := 6, cells := 0, slots := 0, locals := 145 } : Room)).room s m args below meth c H locs 0 0 (MQ below (va_Qi post (gB D vwCl (WX q ad) (xE D q ad A)) A) args s 0 0 A) (F0 m 20 ls []) := by
    intro z x1 H locs ls h hP hS hl
    unfold pX7_starts_b20 at h
    refine lv_aload_n hx hb dX7_starts_20 rfl (lv_at hl 0 rfl) ?_
    refine va_get (D := D) (ci := 7) (v := .ref (ad 31)) (C := RX7) (T := TX7) (N := 12) hx hb ht tl_X7 hown hK hP 38 (wx_38 q ad z) rfl 4 (by decide) (ht _ tw_fl_X7_38) (fun _ h9 => h9) rfl dX7_starts_21 ?_
    refine lv_aload_n hx hb dX7_starts_24 rfl (lv_at hl 0 rfl) ?_
    refine va_get (D := D) (ci := 7) (v := .ref (ad (4 * 0))) (C := RX7) (T := TX7) (N := 12) hx hb ht tl_X7 hown hK hP 38 (wx_38 q ad z) rfl 0 (by decide) (ht _ tw_fl_X7_10) (fun _ h9 => h9) rfl dX7_starts_25 ?_
    refine g_cVi (Wd := WX q ad) (z := z) (As := [.ref (ad (4 * 0))]) (rest := []) hG S (kX6_cheapestStarts l D q ad A hD 0 (by decide) z _ h) (cwV 1 ht (cW_V (fun _ h => h) tw_co_X6_cheapestStarts tw_ml_X7_213 tw_im_X6_cheapestStarts tw_se_X6_cheapestStarts tw_in_X6) rfl rfl rfl (by decide +kernel) ⟨by decide, by decide⟩) (va_recv hK hP (ci := 6) (q0 := 31) rfl (wx_31 q ad z)) hE hP hS rfl hl.1 rfl (Nat.le_of_ble_eq_true rfl) dX7_starts_28 ⟨Nat.zero_le _, Nat.zero_le _⟩ (fun r28 z28 H locs h hP hS => ?_)
    refine lv_istore_n (lv' := [(2, .int r28), (0, .ref (ad 38)), (1, .int x1)]) hx hb dX7_starts_31 rfl hl (by decide) rfl (fun ls hl => ?_)
    refine lv_iload_n hx hb dX7_starts_32 rfl (lv_at hl 0 rfl) ?_
    refine lv_bipush (v := (-4 : Int32)) hx hb dX7_starts_33 (by decide) ?_
    refine lv_icmp_eq (tgt := 42) hx hb dX7_starts_35 (by decide) (fun c35 => ?_) (fun c35 => ?_)
    · have h := h.1 c35
      exact B42 z28 _ _ _ h hP hS (lv_sub hl [1] rfl)
    · have h := h.2 c35
      refine lv_iload_n hx hb dX7_starts_38 rfl (lv_at hl 2 rfl) ?_
      refine lv_if_ne (tgt := 50) hx hb dX7_starts_39 (by decide) (fun c39 => ?_) (fun c39 => ?_)
      · have h := h.1 c39
        refine lv_iload_n hx hb dX7_starts_50 rfl (lv_at hl 0 rfl) ?_
        refine lv_iload_n hx hb dX7_starts_51 rfl (lv_at hl 2 rfl) ?_
        refine lv_bipush (v := (10 : Int32)) hx hb dX7_starts_52 (by decide) ?_
        refine lv_isub hx hb dX7_starts_54 ?_
        refine lv_aload_n hx hb dX7_starts_55 rfl (lv_at hl 1 rfl) ?_
        refine va_get (D := D) (ci := 7) (v := .ref (ad (4 * 0))) (C := RX7) (T := TX7) (N := 12) hx hb ht tl_X7 hown hK hP 38 (wx_38 q ad z28) rfl 0 (by decide) (ht _ tw_fl_X7_10) (fun _ h9 => h9) rfl dX7_starts_56 ?_
        refine va_get (D := D) (ci := 0) (v := .int (z28.1 (4 * 0) 3)) (C := RX0) (T := TX0) (N := 7) hx hb ht tl_X0 hown hK hP (4 * 0) (wxl q ad z28 (by decide)) rfl 3 (by decide) (ht _ tw_fl_X7_100) (fun _ h9 => h9) rfl dX7_starts_59 ?_
        refine g_cSi (Wd := WX q ad) (z := z28) (As := [.int r28, .int (x1 - (10 : Int32)), .int (z28.1 (4 * 0) 3)]) (rest := []) hG S (kX7_startIn l D q ad A hD z28 r28 (x1 - (10 : Int32)) (z28.1 (4 * 0) 3) _ h) (va_cwS 3 ht (cW_S (fun _ h => h) tw_co_X7_startIn tw_ml_X7_216 tw_st_X7_startIn tw_in_X7) rfl rfl rfl (by decide +kernel) ⟨by decide, by decide⟩) hE hP hS rfl hl.1 rfl (Nat.le_of_ble_eq_true rfl) dX7_starts_62 ⟨Nat.zero_le _, Nat.zero_le _⟩ (fun r62 z62 H locs h hP hS => ?_)
        exact g_ri hG hx hb hr hlocks hE hP hS h dX7_starts_65
      · have h := h.2 c39
        exact B42 z28 _ _ _ h hP hS (lv_sub hl [1] rfl)
  refine g_entry (vs := [.ref (ad 38), .int x1]) hargs (Nat.le_of_ble_eq_true rfl) (fun ls hl => ?_)
  have hl : lv_has ls 3 [(0, .ref (ad 38)), (1, .int x1)] := hl
  unfold pX7_starts at h
  refine lv_iload_n hx hb dX7_starts_0 rfl (lv_at hl 1 rfl) ?_
  refine lv_if_eq (tgt := 20) hx hb dX7_starts_1 (by decide) (fun c1 => ?_) (fun c1 => ?_)
  · have h := h.1 c1
    exact B20 z x1 _ _ _ h hP hS (lv_sub hl [0, 1] rfl)
  · have h := h.2 c1
    refine lv_aload_n hx hb dX7_starts_4 rfl (lv_at hl 0 rfl) ?_
    refine va_get (D := D) (ci := 7) (v := .ref (ad (4 * 0))) (C := RX7) (T := TX7) (N := 12) hx hb ht tl_X7 hown hK hP 38 (wx_38 q ad z) rfl 0 (by decide) (ht _ tw_fl_X7_10) (fun _ h9 => h9) rfl dX7_starts_5 ?_
    refine lv_iload_n hx hb dX7_starts_8 rfl (lv_at hl 1 rfl) ?_
    refine lv_bipush (v := (10 : Int32)) hx hb dX7_starts_9 (by decide) ?_
    refine lv_isub hx hb dX7_starts_11 ?_
    refine g_cVi (Wd := WX q ad) (z := z) (As := [.int (x1 - (10 : Int32))]) (rest := []) hG S (kX0_isTrain l D q ad A hD 0 (by decide) z (x1 - (10 : Int32)) _ h) (cwV 1 ht (cW_V (fun _ h => h) tw_co_X0_isTrain tw_ml_X7_130 tw_im_X0_isTrain tw_se_X0_isTrain tw_in_X0) rfl rfl rfl (by decide +kernel) ⟨by decide, by decide⟩) (va_recv hK hP (ci := 0) (q0 := (4 * 0)) rfl (wxl q ad z (by decide))) hE hP hS rfl hl.1 rfl (Nat.le_of_ble_eq_true rfl) dX7_starts_12 ⟨Nat.zero_le _, Nat.zero_le _⟩ (fun r12 z12 H locs h hP hS => ?_)
    refine lv_if_ne (tgt := 20) hx hb dX7_starts_15 (by decide) (fun c15 => ?_) (fun c15 => ?_)
    · have h := h.1 c15
      exact B20 z12 x1 _ _ _ h hP hS (lv_sub hl [0, 1] rfl)
    · have h := h.2 c15
      refine lv_iconst (v := (-1 : Int32)) hx hb dX7_starts_18 (by decide) ?_
      exact g_ri hG hx hb hr hlocks hE hP hS h dX7_starts_19
def pX7_allowed_b55 (rec16 : MX → Int32 → Int32 → Int32 → Int32 → Prop) (post : Int32 → MX → Prop) (z : MX) (x1 : Int32) (x2 : Int32) (x3 : Int32) (x4 : Int32) : Prop :=
    ∀ x4_55 : Int32, x4_55 = x4 + (1 : Int32) →
    rec16 z x1 x2 x3 x4_55
def pX7_allowed_l16 (rec16 : MX → Int32 → Int32 → Int32 → Int32 → Prop) (post : Int32 → MX → Prop) (z : MX) (x1 : Int32) (x2 : Int32) (x3 : Int32) (x4 : Int32) : Prop :=
    ((((1 : Int32) <<< ((z.1 (4 * 0) 0) &&& 31)) ≤ x4 →
      ((¬ x1 = 0 →
        post x3 z) ∧
      (x1 = 0 →
        post x2 z))) ∧
    (¬ ((1 : Int32) <<< ((z.1 (4 * 0) 0) &&& 31)) ≤ x4 →
      pX0_allowsOmensIn 0 z x4 (fun (r36 : Int32) (z36 : MX) =>
      ((r36 = 0 →
        pX7_allowed_b55  rec16 post z36 x1 x2 x3 x4) ∧
      (¬ r36 = 0 →
        ∀ x2_42 : Int32, x2_42 = x2 + (1 : Int32) →
        pJ6_bitCount_0f7a4 z36 x4 (fun (r48 : Int32) (z48 : MX) =>
        ∀ x3_54 : Int32, x3_54 = (if x3 < r48 then r48 else x3) →
        pX7_allowed_b55  rec16 post z48 x1 x2_42 x3_54 x4))))))
def pX7_allowed_L16 (post : Int32 → MX → Prop) : Nat → MX → Int32 → Int32 → Int32 → Int32 → Prop
  | 0 => fun _ _ _ _ _ => False
  | n + 1 => fun z x1 x2 x3 x4 => pX7_allowed_l16  (pX7_allowed_L16  post n) post z x1 x2 x3 x4
def pX7_allowed (z : MX) (x1 : Int32) (post : Int32 → MX → Prop) : Prop :=
  pX7_isZeroOrOne z x1 (fun (r1 : Int32) (z1 : MX) =>
  ((¬ r1 = 0 →
    ∃ n, pX7_allowed_L16  post n z1 x1 (0 : Int32) (0 : Int32) (0 : Int32)) ∧
  (r1 = 0 →
    post (-1 : Int32) z1)))
set_option maxHeartbeats 4000000 in
set_option maxRecDepth 100000 in
theorem kX7_allowed (l : Launch) (D : va_G) (q : Nat → ClassId) (ad : Nat → Nat) (A : Nat → Prop) (hD : ∀ z, va_D A (WX q ad z)) (z : MX) (x1 : Int32) (post : Int32 → MX → Prop) (h : pX7_allowed  z x1 post) : Met l yX7_allowed (cW yX7_allowed cX7_allowed 5 (some .int)) ({ frames := 1, cells := 0, slots := 0, locals := 23 } : Room) (va_Pc [.ref (ad 38), .int x1] ((gB D vwCl (WX q ad) (xE D q ad A)) z)) (va_Qi post (gB D vwCl (WX q ad) (xE D q ad A)) A) 0 0 A := by
  refine Met.ofW (cc := cX7_allowed) (maxL := 5) (ret := (some .int)) (by decide) rfl ?_
  intro p e s m args below meth c s₁ B hml hv
  obtain ⟨hargs, hP, hE⟩ := hv
  have hx := B.exec
  have hb := B.bytes
  have hr := B.returns
  have hts := atoms_spec (ws := (cW yX7_allowed cX7_allowed 5 (some .int))) B.pre
  have ht : ∀ w ∈ tG, w.before args s = true := fun w h => hts w (List.mem_cons_of_mem _ h)
  have hown : s.vm.findClass RX7 = some m.cls := findClass_of_methodNamed B.named
  have hlocks := B.notSynchronized
  have hK := hE.1
  have hG := xE_G D q ad A
  have S : CallFix p m c cX7_allowed 5 s args tG RX7 := ⟨hx, hb, hml, hown, ht⟩
  have hS : va_S A s.heap s.heap [] := va_S.rf
  have B55 : ∀ (rec16 : MX → Int32 → Int32 → Int32 → Int32 → Prop) (hrec16 : ∀ (z : MX) (x1 : Int32) (x2 : Int32) (x3 : Int32) (x4 : Int32) (H : Heap) (locs : List Loc) (ls : Array Slot), rec16 z x1 x2 x3 x4 → va_P D vwCl (WX q ad z) H → va_S A s.heap H locs → lv_has ls 5 [(0, .ref (ad 38)), (1, .int x1), (2, .int x2), (3, .int x3), (4, .int x4)] → W p l e (headSpec (cW yX7_allowed cX7_allowed 5 (some .int)) ({ frames := 1, cells := 0, slots := 0, locals := 23 } : Room)).room s m args below meth c H locs 0 0 (MQ below (va_Qi post (gB D vwCl (WX q ad) (xE D q ad A)) A) args s 0 0 A) (F0 m 16 ls [])) (z : MX) (x1 : Int32) (x2 : Int32) (x3 : Int32) (x4 : Int32) (H : Heap) (locs : List Loc) (ls : Array Slot), pX7_allowed_b55  rec16 post z x1 x2 x3 x4 → va_P D vwCl (WX q ad z) H → va_S A s.heap H locs → lv_has ls 5 [(0, .ref (ad 38)), (1, .int x1), (2, .int x2), (3, .int x3), (4, .int x4)] → W p l e (headSpec (cW yX7_allowed cX7_allowed 5 (some .int)) ({ frames := 1, cells := 0, slots := 0, locals := 23 } : Room)).room s m args below meth c H locs 0 0 (MQ below (va_Qi post (gB D vwCl (WX q ad) (xE D q ad A)) A) args s 0 0 A) (F0 m 55 ls []) := by
    intro rec16 hrec16 z x1 x2 x3 x4 H locs ls h hP hS hl
    unfold pX7_allowed_b55 at h
    obtain ⟨x4_55, ex4_55⟩ : ∃ w : Int32, w = x4 + (1 : Int32) := ⟨_, rfl⟩
    have h := h x4_55 ex4_55
    refine lv_iinc (v := x4_55) (lv' := [(4, .int x4_55), (0, .ref (ad 38)), (1, .int x1), (2, .int x2), (3, .int x3)]) hx hb dX7_allowed_55 hl (k := 4) rfl (by rw [ex4_55]; rfl) (by decide) rfl (fun ls hl => ?_)
    refine lv_goto (tgt := 16) hx hb dX7_allowed_58 (by decide) ?_
    exact hrec16 z x1 x2 x3 x4_55 _ _ _ h hP hS (lv_sub hl [1, 2, 3, 4, 0] rfl)
  have B16 : ∀ (rec16 : MX → Int32 → Int32 → Int32 → Int32 → Prop) (hrec16 : ∀ (z : MX) (x1 : Int32) (x2 : Int32) (x3 : Int32) (x4 : Int32) (H : Heap) (locs : List Loc) (ls : Array Slot), rec16 z x1 x2 x3 x4 → va_P D vwCl (WX q ad z) H → va_S A s.heap H locs → lv_has ls 5 [(0, .ref (ad 38)), (1, .int x1), (2, .int x2), (3, .int x3), (4, .int x4)] → W p l e (headSpec (cW yX7_allowed cX7_allowed 5 (some .int)) ({ frames := 1, cells := 0, slots := 0, locals := 23 } : Room)).room s m args below meth c H locs 0 0 (MQ below (va_Qi post (gB D vwCl (WX q ad) (xE D q ad A)) A) args s 0 0 A) (F0 m 16 ls [])) (z : MX) (x1 : Int32) (x2 : Int32) (x3 : Int32) (x4 : Int32) (H : Heap) (locs : List Loc) (ls : Array Slot), pX7_allowed_l16  rec16 post z x1 x2 x3 x4 → va_P D vwCl (WX q ad z) H → va_S A s.heap H locs → lv_has ls 5 [(0, .ref (ad 38)), (1, .int x1), (2, .int x2), (3, .int x3), (4, .int x4)] → W p l e (headSpec (cW yX7_allowed cX7_allowed 5 (some .int)) ({ frames := 1, cells := 0, slots := 0, locals := 23 } : Room)).room s m args below meth c H locs 0 0 (MQ below (va_Qi post (gB D vwCl (WX q ad) (xE D q ad A)) A) args s 0 0 A) (F0 m 16 ls []) := by
    intro rec16 hrec16 z x1 x2 x3 x4 H locs ls h hP hS hl
    unfold pX7_allowed_l16 at h
    refine lv_iload hx hb dX7_allowed_16 (lv_at hl 4 rfl) ?_
    refine lv_iconst (v := (1 : Int32)) hx hb dX7_allowed_18 (by decide) ?_
    refine lv_aload_n hx hb dX7_allowed_19 rfl (lv_at hl 0 rfl) ?_
    refine va_get (D := D) (ci := 7) (v := .ref (ad (4 * 0))) (C := RX7) (T := TX7) (N := 12) hx hb ht tl_X7 hown hK hP 38 (wx_38 q ad z) rfl 0 (by decide) (ht _ tw_fl_X7_10) (fun _ h9 => h9) rfl dX7_allowed_20 ?_
    refine va_get (D := D) (ci := 0) (v := .int (z.1 (4 * 0) 0)) (C := RX0) (T := TX0) (N := 7) hx hb ht tl_X0 hown hK hP (4 * 0) (wxl q ad z (by decide)) rfl 0 (by decide) (ht _ tw_fl_X7_97) (fun _ h9 => h9) rfl dX7_allowed_23 ?_
    refine lv_ishl hx hb dX7_allowed_26 ?_
    refine lv_icmp_ge (tgt := 61) hx hb dX7_allowed_27 (by decide) (fun c27 => ?_) (fun c27 => ?_)
    · have h := h.1 c27
      refine lv_iload_n hx hb dX7_allowed_61 rfl (lv_at hl 1 rfl) ?_
      refine lv_if_ne (tgt := 69) hx hb dX7_allowed_62 (by decide) (fun c62 => ?_) (fun c62 => ?_)
      · have h := h.1 c62
        refine lv_iload_n hx hb dX7_allowed_69 rfl (lv_at hl 3 rfl) ?_
        exact g_ri hG hx hb hr hlocks hE hP hS h dX7_allowed_70
      · have h := h.2 c62
        refine lv_iload_n hx hb dX7_allowed_65 rfl (lv_at hl 2 rfl) ?_
        refine lv_goto (tgt := 70) hx hb dX7_allowed_66 (by decide) ?_
        exact g_ri hG hx hb hr hlocks hE hP hS h dX7_allowed_70
    · have h := h.2 c27
      refine lv_aload_n hx hb dX7_allowed_30 rfl (lv_at hl 0 rfl) ?_
      refine va_get (D := D) (ci := 7) (v := .ref (ad (4 * 0))) (C := RX7) (T := TX7) (N := 12) hx hb ht tl_X7 hown hK hP 38 (wx_38 q ad z) rfl 0 (by decide) (ht _ tw_fl_X7_10) (fun _ h9 => h9) rfl dX7_allowed_31 ?_
      refine lv_iload hx hb dX7_allowed_34 (lv_at hl 4 rfl) ?_
      refine g_cVi (Wd := WX q ad) (z := z) (As := [.int x4]) (rest := []) hG S (kX0_allowsOmensIn l D q ad A hD 0 (by decide) z x4 _ h) (cwV 1 ht (cW_V (fun _ h => h) tw_co_X0_allowsOmensIn tw_ml_X7_220 tw_im_X0_allowsOmensIn tw_se_X0_allowsOmensIn tw_in_X0) rfl rfl rfl (by decide +kernel) ⟨by decide, by decide⟩) (va_recv hK hP (ci := 0) (q0 := (4 * 0)) rfl (wxl q ad z (by decide))) hE hP hS rfl hl.1 rfl (Nat.le_of_ble_eq_true rfl) dX7_allowed_36 ⟨Nat.zero_le _, Nat.zero_le _⟩ (fun r36 z36 H locs h hP hS => ?_)
      refine lv_if_eq (tgt := 55) hx hb dX7_allowed_39 (by decide) (fun c39 => ?_) (fun c39 => ?_)
      · have h := h.1 c39
        exact B55 rec16 hrec16 z36 x1 x2 x3 x4 _ _ _ h hP hS (lv_sub hl [0, 1, 2, 3, 4] rfl)
      · have h := h.2 c39
        obtain ⟨x2_42, ex2_42⟩ : ∃ w : Int32, w = x2 + (1 : Int32) := ⟨_, rfl⟩
        have h := h x2_42 ex2_42
        refine lv_iinc (v := x2_42) (lv' := [(2, .int x2_42), (0, .ref (ad 38)), (1, .int x1), (3, .int x3), (4, .int x4)]) hx hb dX7_allowed_42 hl (k := 2) rfl (by rw [ex2_42]; rfl) (by decide) rfl (fun ls hl => ?_)
        refine lv_iload_n hx hb dX7_allowed_45 rfl (lv_at hl 3 rfl) ?_
        refine lv_iload hx hb dX7_allowed_46 (lv_at hl 4 rfl) ?_
        refine g_cSi (Wd := WX q ad) (z := z36) (As := [.int x4]) (rest := [.int x3]) hG S (kJ6_bitCount_0f7a4 l D q ad A hD z36 x4 _ h) (va_cwS 1 ht (cW_S (fun _ h => h) tw_co_J6_bitCount_0f7a4 tw_ml_X7_223 tw_st_J6_bitCount_0f7a4 tw_in_J6) rfl rfl rfl (by decide +kernel) ⟨by decide, by decide⟩) hE hP hS rfl hl.1 rfl (Nat.le_of_ble_eq_true rfl) dX7_allowed_48 ⟨Nat.zero_le _, Nat.zero_le _⟩ (fun r48 z48 H locs h hP hS => ?_)
        refine va_mmax hx hb (by rw [hml]; exact hl.1.symm) hown (ht _ tw_ml_X7_228) (ht _ tw_st_J9_max_7cf53) (ht _ tw_in_J9) (ht _ tw_co_J9_max_7cf53) (Nat.le_of_ble_eq_true rfl) (Nat.le_of_ble_eq_true rfl) (Nat.zero_le _) (Nat.zero_le _) dX7_allowed_51 ?_
        refine lv_topi (fun x3_54 ex3_54 => ?_)
        have h := h x3_54 ex3_54
        refine lv_istore_n (lv' := [(3, .int x3_54), (2, .int x2_42), (0, .ref (ad 38)), (1, .int x1), (4, .int x4)]) hx hb dX7_allowed_54 rfl hl (by decide) rfl (fun ls hl => ?_)
        exact B55 rec16 hrec16 z48 x1 x2_42 x3_54 x4 _ _ _ h hP hS (lv_sub hl [2, 3, 1, 0, 4] rfl)
  have L16 : ∀ (n : Nat) (z : MX) (x1 : Int32) (x2 : Int32) (x3 : Int32) (x4 : Int32) (H : Heap) (locs : List Loc) (ls : Array Slot), pX7_allowed_L16  post n z x1 x2 x3 x4 → va_P D vwCl (WX q ad z) H → va_S A s.heap H locs → lv_has ls 5 [(0, .ref (ad 38)), (1, .int x1), (2, .int x2), (3, .int x3), (4, .int x4)] → W p l e (headSpec (cW yX7_allowed cX7_allowed 5 (some .int)) ({ frames := 1, cells := 0, slots := 0, locals := 23 } : Room)).room s m args below meth c H locs 0 0 (MQ below (va_Qi post (gB D vwCl (WX q ad) (xE D q ad A)) A) args s 0 0 A) (F0 m 16 ls []) := by
    intro n
    induction n with
    | zero =>
      intro z x1 x2 x3 x4 H locs ls h
      exact False.elim h
    | succ n ih =>
      intro z x1 x2 x3 x4 H locs ls h hP hS hl
      exact B16 (pX7_allowed_L16  post n) ih z x1 x2 x3 x4 H locs ls h hP hS hl
  refine g_entry (vs := [.ref (ad 38), .int x1]) hargs (Nat.le_of_ble_eq_true rfl) (fun ls hl => ?_)
  have hl : lv_has ls 5 [(0, .ref (ad 38)), (1, .int x1)] := hl
  unfold pX7_allowed at h
  refine lv_iload_n hx hb dX7_allowed_0 rfl (lv_at hl 1 rfl) ?_
  refine g_cSi (Wd := WX q ad) (z := z) (As := [.int x1]) (rest := []) hG S (kX7_isZeroOrOne l D q ad A hD z x1 _ h) (va_cwS 1 ht (cW_S (fun _ h => h) tw_co_X7_isZeroOrOne tw_ml_X7_195 tw_st_X7_isZeroOrOne tw_in_X7) rfl rfl rfl (by decide +kernel) ⟨by decide, by decide⟩) hE hP hS rfl hl.1 rfl (Nat.le_of_ble_eq_true rfl) dX7_allowed_1 ⟨Nat.zero_le _, Nat.zero_le _⟩ (fun r1 z1 H locs h hP hS => ?_)
  refine lv_if_ne (tgt := 9) hx hb dX7_allowed_4 (by decide) (fun c4 => ?_) (fun c4 => ?_)
  · have h := h.1 c4
    refine lv_iconst (v := (0 : Int32)) hx hb dX7_allowed_9 (by decide) ?_
    refine lv_istore_n (lv' := [(2, .int (0 : Int32)), (0, .ref (ad 38)), (1, .int x1)]) hx hb dX7_allowed_10 rfl hl (by decide) rfl (fun ls hl => ?_)
    refine lv_iconst (v := (0 : Int32)) hx hb dX7_allowed_11 (by decide) ?_
    refine lv_istore_n (lv' := [(3, .int (0 : Int32)), (2, .int (0 : Int32)), (0, .ref (ad 38)), (1, .int x1)]) hx hb dX7_allowed_12 rfl hl (by decide) rfl (fun ls hl => ?_)
    refine lv_iconst (v := (0 : Int32)) hx hb dX7_allowed_13 (by decide) ?_
    refine lv_istore (lv' := [(4, .int (0 : Int32)), (3, .int (0 : Int32)), (2, .int (0 : Int32)), (0, .ref (ad 38)), (1, .int x1)]) hx hb dX7_allowed_14 hl (by decide) rfl (fun ls hl => ?_)
    obtain ⟨n, h⟩ := h
    exact L16 n z1 x1 (0 : Int32) (0 : Int32) (0 : Int32) _ _ _ h hP hS (lv_sub hl [3, 4, 2, 1, 0] rfl)
  · have h := h.2 c4
    refine lv_iconst (v := (-1 : Int32)) hx hb dX7_allowed_7 (by decide) ?_
    exact g_ri hG hx hb hr hlocks hE hP hS h dX7_allowed_8
def pX7_convert (z : MX) (x1 : Int32) (post : Int32 → MX → Prop) : Prop :=
  pX7_isZeroOrOne z x1 (fun (r1 : Int32) (z1 : MX) =>
  ((¬ r1 = 0 →
    pX6_cheapestConvert 0 z1 (fun (r17 : Int32) (z17 : MX) =>
    ((¬ x1 = 0 →
      post (z17.1 31 2) z17) ∧
    (x1 = 0 →
      post r17 z17)))) ∧
  (r1 = 0 →
    post (-1 : Int32) z1)))
set_option maxHeartbeats 4000000 in
set_option maxRecDepth 100000 in
theorem kX7_convert (l : Launch) (D : va_G) (q : Nat → ClassId) (ad : Nat → Nat) (A : Nat → Prop) (hD : ∀ z, va_D A (WX q ad z)) (z : MX) (x1 : Int32) (post : Int32 → MX → Prop) (h : pX7_convert  z x1 post) : Met l yX7_convert (cW yX7_convert cX7_convert 3 (some .int)) ({ frames := 6, cells := 0, slots := 0, locals := 146 } : Room) (va_Pc [.ref (ad 38), .int x1] ((gB D vwCl (WX q ad) (xE D q ad A)) z)) (va_Qi post (gB D vwCl (WX q ad) (xE D q ad A)) A) 0 0 A := by
  refine Met.ofW (cc := cX7_convert) (maxL := 3) (ret := (some .int)) (by decide) rfl ?_
  intro p e s m args below meth c s₁ B hml hv
  obtain ⟨hargs, hP, hE⟩ := hv
  have hx := B.exec
  have hb := B.bytes
  have hr := B.returns
  have hts := atoms_spec (ws := (cW yX7_convert cX7_convert 3 (some .int))) B.pre
  have ht : ∀ w ∈ tG, w.before args s = true := fun w h => hts w (List.mem_cons_of_mem _ h)
  have hown : s.vm.findClass RX7 = some m.cls := findClass_of_methodNamed B.named
  have hlocks := B.notSynchronized
  have hK := hE.1
  have hG := xE_G D q ad A
  have S : CallFix p m c cX7_convert 3 s args tG RX7 := ⟨hx, hb, hml, hown, ht⟩
  have hS : va_S A s.heap s.heap [] := va_S.rf
  refine g_entry (vs := [.ref (ad 38), .int x1]) hargs (Nat.le_of_ble_eq_true rfl) (fun ls hl => ?_)
  have hl : lv_has ls 3 [(0, .ref (ad 38)), (1, .int x1)] := hl
  unfold pX7_convert at h
  refine lv_iload_n hx hb dX7_convert_0 rfl (lv_at hl 1 rfl) ?_
  refine g_cSi (Wd := WX q ad) (z := z) (As := [.int x1]) (rest := []) hG S (kX7_isZeroOrOne l D q ad A hD z x1 _ h) (va_cwS 1 ht (cW_S (fun _ h => h) tw_co_X7_isZeroOrOne tw_ml_X7_195 tw_st_X7_isZeroOrOne tw_in_X7) rfl rfl rfl (by decide +kernel) ⟨by decide, by decide⟩) hE hP hS rfl hl.1 rfl (Nat.le_of_ble_eq_true rfl) dX7_convert_1 ⟨Nat.zero_le _, Nat.zero_le _⟩ (fun r1 z1 H locs h hP hS => ?_)
  refine lv_if_ne (tgt := 9) hx hb dX7_convert_4 (by decide) (fun c4 => ?_) (fun c4 => ?_)
  · have h := h.1 c4
    refine lv_aload_n hx hb dX7_convert_9 rfl (lv_at hl 0 rfl) ?_
    refine va_get (D := D) (ci := 7) (v := .ref (ad 31)) (C := RX7) (T := TX7) (N := 12) hx hb ht tl_X7 hown hK hP 38 (wx_38 q ad z1) rfl 4 (by decide) (ht _ tw_fl_X7_38) (fun _ h9 => h9) rfl dX7_convert_10 ?_
    refine lv_aload_n hx hb dX7_convert_13 rfl (lv_at hl 0 rfl) ?_
    refine va_get (D := D) (ci := 7) (v := .ref (ad (4 * 0))) (C := RX7) (T := TX7) (N := 12) hx hb ht tl_X7 hown hK hP 38 (wx_38 q ad z1) rfl 0 (by decide) (ht _ tw_fl_X7_10) (fun _ h9 => h9) rfl dX7_convert_14 ?_
    refine g_cVi (Wd := WX q ad) (z := z1) (As := [.ref (ad (4 * 0))]) (rest := []) hG S (kX6_cheapestConvert l D q ad A hD 0 (by decide) z1 _ h) (cwV 1 ht (cW_V (fun _ h => h) tw_co_X6_cheapestConvert tw_ml_X7_233 tw_im_X6_cheapestConvert tw_se_X6_cheapestConvert tw_in_X6) rfl rfl rfl (by decide +kernel) ⟨by decide, by decide⟩) (va_recv hK hP (ci := 6) (q0 := 31) rfl (wx_31 q ad z1)) hE hP hS rfl hl.1 rfl (Nat.le_of_ble_eq_true rfl) dX7_convert_17 ⟨Nat.zero_le _, Nat.zero_le _⟩ (fun r17 z17 H locs h hP hS => ?_)
    refine lv_istore_n (lv' := [(2, .int r17), (0, .ref (ad 38)), (1, .int x1)]) hx hb dX7_convert_20 rfl hl (by decide) rfl (fun ls hl => ?_)
    refine lv_iload_n hx hb dX7_convert_21 rfl (lv_at hl 2 rfl) ?_
    refine lv_if_ne (tgt := 29) hx hb dX7_convert_22 (by decide) (fun c22 => ?_) (fun c22 => ?_)
    · have h := h.1 c22
      refine lv_aload_n hx hb dX7_convert_29 rfl (lv_at hl 1 rfl) ?_
      refine va_get (D := D) (ci := 7) (v := .ref (ad 31)) (C := RX7) (T := TX7) (N := 12) hx hb ht tl_X7 hown hK hP 38 (wx_38 q ad z17) rfl 4 (by decide) (ht _ tw_fl_X7_38) (fun _ h9 => h9) rfl dX7_convert_30 ?_
      refine va_get (D := D) (ci := 6) (v := .int (z17.1 31 2)) (C := RX6) (T := TX6) (N := 3) hx hb ht tl_X6 hown hK hP 31 (wx_31 q ad z17) rfl 2 (by decide) (ht _ tw_fl_X7_207) (fun _ h9 => h9) rfl dX7_convert_33 ?_
      exact g_ri hG hx hb hr hlocks hE hP hS h dX7_convert_36
    · have h := h.2 c22
      refine lv_iload_n hx hb dX7_convert_25 rfl (lv_at hl 0 rfl) ?_
      refine lv_goto (tgt := 36) hx hb dX7_convert_26 (by decide) ?_
      exact g_ri hG hx hb hr hlocks hE hP hS h dX7_convert_36
  · have h := h.2 c4
    refine lv_iconst (v := (-1 : Int32)) hx hb dX7_convert_7 (by decide) ?_
    exact g_ri hG hx hb hr hlocks hE hP hS h dX7_convert_8
def pX7_commonDivisor_l9 (rec9 : MX → Int64 → Int64 → Int32 → Prop) (post : Int64 → MX → Prop) (z : MX) (x4 : Int64) (x6 : Int64) (x8 : Int32) : Prop :=
    (((200 : Int32) ≤ x8 →
      post x4 z) ∧
    (¬ (200 : Int32) ≤ x8 →
      (((lg_cmp x6 (0 : Int64)) = 0 →
        post x4 z) ∧
      (¬ (lg_cmp x6 (0 : Int64)) = 0 →
        ¬ x6 = 0 ∧
        ∀ x9_29 : Int64, x9_29 = x4 - x4 / x6 * x6 →
        ∀ x8_39 : Int32, x8_39 = x8 + (1 : Int32) →
        rec9 z x6 x9_29 x8_39))))
def pX7_commonDivisor_L9 (post : Int64 → MX → Prop) : Nat → MX → Int64 → Int64 → Int32 → Prop
  | 0 => fun _ _ _ _ => False
  | n + 1 => fun z x4 x6 x8 => pX7_commonDivisor_l9  (pX7_commonDivisor_L9  post n) post z x4 x6 x8
def pX7_commonDivisor (z : MX) (x0 : Int64) (x2 : Int64) (post : Int64 → MX → Prop) : Prop :=
  ∃ n, pX7_commonDivisor_L9  post n z x0 x2 (0 : Int32)
set_option maxHeartbeats 4000000 in
set_option maxRecDepth 100000 in
theorem kX7_commonDivisor (l : Launch) (D : va_G) (q : Nat → ClassId) (ad : Nat → Nat) (A : Nat → Prop) (hD : ∀ z, va_D A (WX q ad z)) (z : MX) (x0 : Int64) (x2 : Int64) (post : Int64 → MX → Prop) (h : pX7_commonDivisor  z x0 x2 post) : Met l yX7_commonDivisor (cW yX7_commonDivisor cX7_commonDivisor 11 (some .long)) ({ frames := 0, cells := 0, slots := 0, locals := 0 } : Room) (va_Pc [.long x0, .long x2] ((gB D vwCl (WX q ad) (xE D q ad A)) z)) (va_Ql post (gB D vwCl (WX q ad) (xE D q ad A)) A) 0 0 A := by
  refine Met.ofW (cc := cX7_commonDivisor) (maxL := 11) (ret := (some .long)) (by decide) rfl ?_
  intro p e s m args below meth c s₁ B hml hv
  obtain ⟨hargs, hP, hE⟩ := hv
  have hx := B.exec
  have hb := B.bytes
  have hr := B.returns
  have hts := atoms_spec (ws := (cW yX7_commonDivisor cX7_commonDivisor 11 (some .long))) B.pre
  have ht : ∀ w ∈ tG, w.before args s = true := fun w h => hts w (List.mem_cons_of_mem _ h)
  have hown : s.vm.findClass RX7 = some m.cls := findClass_of_methodNamed B.named
  have hlocks := B.notSynchronized
  have hK := hE.1
  have hG := xE_G D q ad A
  have S : CallFix p m c cX7_commonDivisor 11 s args tG RX7 := ⟨hx, hb, hml, hown, ht⟩
  have hS : va_S A s.heap s.heap [] := va_S.rf
  have B9 : ∀ (rec9 : MX → Int64 → Int64 → Int32 → Prop) (hrec9 : ∀ (z : MX) (x4 : Int64) (x6 : Int64) (x8 : Int32) (H : Heap) (locs : List Loc) (ls : Array Slot), rec9 z x4 x6 x8 → va_P D vwCl (WX q ad z) H → va_S A s.heap H locs → lv_has ls 11 [(4, .long x4), (6, .long x6), (8, .int x8)] → W p l e (headSpec (cW yX7_commonDivisor cX7_commonDivisor 11 (some .long)) ({ frames := 0, cells := 0, slots := 0, locals := 0 } : Room)).room s m args below meth c H locs 0 0 (MQ below (va_Ql post (gB D vwCl (WX q ad) (xE D q ad A)) A) args s 0 0 A) (F0 m 9 ls [])) (z : MX) (x4 : Int64) (x6 : Int64) (x8 : Int32) (H : Heap) (locs : List Loc) (ls : Array Slot), pX7_commonDivisor_l9  rec9 post z x4 x6 x8 → va_P D vwCl (WX q ad z) H → va_S A s.heap H locs → lv_has ls 11 [(4, .long x4), (6, .long x6), (8, .int x8)] → W p l e (headSpec (cW yX7_commonDivisor cX7_commonDivisor 11 (some .long)) ({ frames := 0, cells := 0, slots := 0, locals := 0 } : Room)).room s m args below meth c H locs 0 0 (MQ below (va_Ql post (gB D vwCl (WX q ad) (xE D q ad A)) A) args s 0 0 A) (F0 m 9 ls []) := by
    intro rec9 hrec9 z x4 x6 x8 H locs ls h hP hS hl
    unfold pX7_commonDivisor_l9 at h
    refine lv_iload hx hb dX7_commonDivisor_9 (lv_at hl 2 rfl) ?_
    refine lv_sipush (v := (200 : Int32)) hx hb dX7_commonDivisor_11 (by decide) ?_
    refine lv_icmp_ge (tgt := 45) hx hb dX7_commonDivisor_14 (by decide) (fun c14 => ?_) (fun c14 => ?_)
    · have h := h.1 c14
      refine lv_lload hx hb dX7_commonDivisor_45 (lv_at hl 0 rfl) ?_
      exact g_rl hG hx hb hr hlocks hE hP hS h dX7_commonDivisor_47
    · have h := h.2 c14
      refine lv_lload hx hb dX7_commonDivisor_17 (lv_at hl 1 rfl) ?_
      refine lv_lconst (v := (0 : Int64)) hx hb dX7_commonDivisor_19 (by decide) ?_
      refine W.lcmp hx hb dX7_commonDivisor_20 ?_
      refine lv_if_eq (tgt := 45) hx hb dX7_commonDivisor_21 (by decide) (fun c21 => ?_) (fun c21 => ?_)
      · have h := h.1 c21
        refine lv_lload hx hb dX7_commonDivisor_45 (lv_at hl 0 rfl) ?_
        exact g_rl hG hx hb hr hlocks hE hP hS h dX7_commonDivisor_47
      · have h := h.2 c21
        refine lv_lload hx hb dX7_commonDivisor_24 (lv_at hl 0 rfl) ?_
        refine lv_lload hx hb dX7_commonDivisor_26 (lv_at hl 1 rfl) ?_
        have hd28 := h.1
        have h := h.2
        refine lv_lrem hx hb dX7_commonDivisor_28 hd28 ?_
        refine lv_topl (fun x9_29 ex9_29 => ?_)
        have h := h x9_29 ex9_29
        refine lv_lstore (lv' := [(9, .long x9_29), (4, .long x4), (6, .long x6), (8, .int x8)]) hx hb dX7_commonDivisor_29 hl (by decide) rfl (fun ls hl => ?_)
        refine lv_lload hx hb dX7_commonDivisor_31 (lv_at hl 2 rfl) ?_
        refine lv_lstore (lv' := [(4, .long x6), (9, .long x9_29), (6, .long x6), (8, .int x8)]) hx hb dX7_commonDivisor_33 hl (by decide) rfl (fun ls hl => ?_)
        refine lv_lload hx hb dX7_commonDivisor_35 (lv_at hl 1 rfl) ?_
        refine lv_lstore (lv' := [(6, .long x9_29), (4, .long x6), (9, .long x9_29), (8, .int x8)]) hx hb dX7_commonDivisor_37 hl (by decide) rfl (fun ls hl => ?_)
        obtain ⟨x8_39, ex8_39⟩ : ∃ w : Int32, w = x8 + (1 : Int32) := ⟨_, rfl⟩
        have h := h x8_39 ex8_39
        refine lv_iinc (v := x8_39) (lv' := [(8, .int x8_39), (6, .long x9_29), (4, .long x6), (9, .long x9_29)]) hx hb dX7_commonDivisor_39 hl (k := 3) rfl (by rw [ex8_39]; rfl) (by decide) rfl (fun ls hl => ?_)
        refine lv_goto (tgt := 9) hx hb dX7_commonDivisor_42 (by decide) ?_
        exact hrec9 z x6 x9_29 x8_39 _ _ _ h hP hS (lv_sub hl [2, 1, 0] rfl)
  have L9 : ∀ (n : Nat) (z : MX) (x4 : Int64) (x6 : Int64) (x8 : Int32) (H : Heap) (locs : List Loc) (ls : Array Slot), pX7_commonDivisor_L9  post n z x4 x6 x8 → va_P D vwCl (WX q ad z) H → va_S A s.heap H locs → lv_has ls 11 [(4, .long x4), (6, .long x6), (8, .int x8)] → W p l e (headSpec (cW yX7_commonDivisor cX7_commonDivisor 11 (some .long)) ({ frames := 0, cells := 0, slots := 0, locals := 0 } : Room)).room s m args below meth c H locs 0 0 (MQ below (va_Ql post (gB D vwCl (WX q ad) (xE D q ad A)) A) args s 0 0 A) (F0 m 9 ls []) := by
    intro n
    induction n with
    | zero =>
      intro z x4 x6 x8 H locs ls h
      exact False.elim h
    | succ n ih =>
      intro z x4 x6 x8 H locs ls h hP hS hl
      exact B9 (pX7_commonDivisor_L9  post n) ih z x4 x6 x8 H locs ls h hP hS hl
  refine g_entry (vs := [.long x0, .long x2]) hargs (Nat.le_of_ble_eq_true rfl) (fun ls hl => ?_)
  have hl : lv_has ls 11 [(0, .long x0), (2, .long x2)] := hl
  unfold pX7_commonDivisor at h
  refine lv_lload_n hx hb dX7_commonDivisor_0 rfl (lv_at hl 0 rfl) ?_
  refine lv_lstore (lv' := [(4, .long x0), (0, .long x0), (2, .long x2)]) hx hb dX7_commonDivisor_1 hl (by decide) rfl (fun ls hl => ?_)
  refine lv_lload_n hx hb dX7_commonDivisor_3 rfl (lv_at hl 2 rfl) ?_
  refine lv_lstore (lv' := [(6, .long x2), (4, .long x0), (0, .long x0), (2, .long x2)]) hx hb dX7_commonDivisor_4 hl (by decide) rfl (fun ls hl => ?_)
  refine lv_iconst (v := (0 : Int32)) hx hb dX7_commonDivisor_6 (by decide) ?_
  refine lv_istore (lv' := [(8, .int (0 : Int32)), (6, .long x2), (4, .long x0), (0, .long x0), (2, .long x2)]) hx hb dX7_commonDivisor_7 hl (by decide) rfl (fun ls hl => ?_)
  obtain ⟨n, h⟩ := h
  exact L9 n z x0 x2 (0 : Int32) _ _ _ h hP hS (lv_sub hl [2, 1, 0] rfl)
def pX7_partOfFraction (z : MX) (x0 : Int64) (x2 : Int64) (x4 : Int32) (post : Int64 → MX → Prop) : Prop :=
  pX7_commonDivisor z x0 x2 (fun (r2 : Int64) (z2 : MX) =>
  ((0 < (lg_cmp r2 (0 : Int64)) →
    ((¬ x4 = 0 →
      ¬ r2 = 0 ∧
      post (x2 / r2) z2) ∧
    (x4 = 0 →
      ¬ r2 = 0 ∧
      post (x0 / r2) z2))) ∧
  (¬ 0 < (lg_cmp r2 (0 : Int64)) →
    post (Int32.toInt64 x4) z2)))
set_option maxHeartbeats 4000000 in
set_option maxRecDepth 100000 in
theorem kX7_partOfFraction (l : Launch) (D : va_G) (q : Nat → ClassId) (ad : Nat → Nat) (A : Nat → Prop) (hD : ∀ z, va_D A (WX q ad z)) (z : MX) (x0 : Int64) (x2 : Int64) (x4 : Int32) (post : Int64 → MX → Prop) (h : pX7_partOfFraction  z x0 x2 x4 post) : Met l yX7_partOfFraction (cW yX7_partOfFraction cX7_partOfFraction 7 (some .long)) ({ frames := 1, cells := 0, slots := 0, locals := 30 } : Room) (va_Pc [.long x0, .long x2, .int x4] ((gB D vwCl (WX q ad) (xE D q ad A)) z)) (va_Ql post (gB D vwCl (WX q ad) (xE D q ad A)) A) 0 0 A := by
  refine Met.ofW (cc := cX7_partOfFraction) (maxL := 7) (ret := (some .long)) (by decide) rfl ?_
  intro p e s m args below meth c s₁ B hml hv
  obtain ⟨hargs, hP, hE⟩ := hv
  have hx := B.exec
  have hb := B.bytes
  have hr := B.returns
  have hts := atoms_spec (ws := (cW yX7_partOfFraction cX7_partOfFraction 7 (some .long))) B.pre
  have ht : ∀ w ∈ tG, w.before args s = true := fun w h => hts w (List.mem_cons_of_mem _ h)
  have hown : s.vm.findClass RX7 = some m.cls := findClass_of_methodNamed B.named
  have hlocks := B.notSynchronized
  have hK := hE.1
  have hG := xE_G D q ad A
  have S : CallFix p m c cX7_partOfFraction 7 s args tG RX7 := ⟨hx, hb, hml, hown, ht⟩
  have hS : va_S A s.heap s.heap [] := va_S.rf
  refine g_entry (vs := [.long x0, .long x2, .int x4]) hargs (Nat.le_of_ble_eq_true rfl) (fun ls hl => ?_)
  have hl : lv_has ls 7 [(0, .long x0), (2, .long x2), (4, .int x4)] := hl
  unfold pX7_partOfFraction at h
  refine lv_lload_n hx hb dX7_partOfFraction_0 rfl (lv_at hl 0 rfl) ?_
  refine lv_lload_n hx hb dX7_partOfFraction_1 rfl (lv_at hl 1 rfl) ?_
  refine g_cSl (Wd := WX q ad) (z := z) (As := [.long x0, .long x2]) (rest := []) hG S (kX7_commonDivisor l D q ad A hD z x0 x2 _ h) (va_cwS 2 ht (cW_S (fun _ h => h) tw_co_X7_commonDivisor tw_ml_X7_315 tw_st_X7_commonDivisor tw_in_X7) rfl rfl rfl (by decide +kernel) ⟨by decide, by decide⟩) hE hP hS rfl hl.1 rfl (Nat.le_of_ble_eq_true rfl) dX7_partOfFraction_2 ⟨Nat.zero_le _, Nat.zero_le _⟩ (fun r2 z2 H locs h hP hS => ?_)
  refine lv_lstore (lv' := [(5, .long r2), (0, .long x0), (2, .long x2), (4, .int x4)]) hx hb dX7_partOfFraction_5 hl (by decide) rfl (fun ls hl => ?_)
  refine lv_lload hx hb dX7_partOfFraction_7 (lv_at hl 0 rfl) ?_
  refine lv_lconst (v := (0 : Int64)) hx hb dX7_partOfFraction_9 (by decide) ?_
  refine W.lcmp hx hb dX7_partOfFraction_10 ?_
  refine lv_if_gt (tgt := 18) hx hb dX7_partOfFraction_11 (by decide) (fun c11 => ?_) (fun c11 => ?_)
  · have h := h.1 c11
    refine lv_iload hx hb dX7_partOfFraction_18 (lv_at hl 3 rfl) ?_
    refine lv_if_ne (tgt := 30) hx hb dX7_partOfFraction_20 (by decide) (fun c20 => ?_) (fun c20 => ?_)
    · have h := h.1 c20
      refine lv_lload_n hx hb dX7_partOfFraction_30 rfl (lv_at hl 2 rfl) ?_
      refine lv_lload hx hb dX7_partOfFraction_31 (lv_at hl 0 rfl) ?_
      have hd33 := h.1
      have h := h.2
      refine lv_ldiv hx hb dX7_partOfFraction_33 hd33 ?_
      exact g_rl hG hx hb hr hlocks hE hP hS h dX7_partOfFraction_34
    · have h := h.2 c20
      refine lv_lload_n hx hb dX7_partOfFraction_23 rfl (lv_at hl 1 rfl) ?_
      refine lv_lload hx hb dX7_partOfFraction_24 (lv_at hl 0 rfl) ?_
      have hd26 := h.1
      have h := h.2
      refine lv_ldiv hx hb dX7_partOfFraction_26 hd26 ?_
      refine lv_goto (tgt := 34) hx hb dX7_partOfFraction_27 (by decide) ?_
      exact g_rl hG hx hb hr hlocks hE hP hS h dX7_partOfFraction_34
  · have h := h.2 c11
    refine lv_iload hx hb dX7_partOfFraction_14 (lv_at hl 3 rfl) ?_
    refine lv_i2l hx hb dX7_partOfFraction_16 rfl ?_
    exact g_rl hG hx hb hr hlocks hE hP hS h dX7_partOfFraction_17
def pX7_mean (z : MX) (x1 : Int32) (x2 : Int32) (post : Int64 → MX → Prop) : Prop :=
  ((x1 < 0 →
    post (-1 : Int64) z) ∧
  (¬ x1 < 0 →
    (((10 : Int32) < x1 →
      post (-1 : Int64) z) ∧
    (¬ (10 : Int32) < x1 →
      pX7_isZeroOrOne z x2 (fun (r11 : Int32) (z11 : MX) =>
      ((¬ r11 = 0 →
        pX1_weigh 0 z11 x1 (fun (z30 : MX) =>
        pX7_partOfFraction z30 (z30.2 1) (z30.2 0) x2 (fun (r48 : Int64) (z48 : MX) =>
        post r48 z48))) ∧
      (r11 = 0 →
        post (-1 : Int64) z11)))))))
set_option maxHeartbeats 4000000 in
set_option maxRecDepth 100000 in
theorem kX7_mean (l : Launch) (D : va_G) (q : Nat → ClassId) (ad : Nat → Nat) (A : Nat → Prop) (hD : ∀ z, va_D A (WX q ad z)) (z : MX) (x1 : Int32) (x2 : Int32) (post : Int64 → MX → Prop) (h : pX7_mean  z x1 x2 post) : Met l yX7_mean (cW yX7_mean cX7_mean 3 (some .long)) ({ frames := 6, cells := 0, slots := 0, locals := 147 } : Room) (va_Pc [.ref (ad 38), .int x1, .int x2] ((gB D vwCl (WX q ad) (xE D q ad A)) z)) (va_Ql post (gB D vwCl (WX q ad) (xE D q ad A)) A) 0 0 A := by
  refine Met.ofW (cc := cX7_mean) (maxL := 3) (ret := (some .long)) (by decide) rfl ?_
  intro p e s m args below meth c s₁ B hml hv
  obtain ⟨hargs, hP, hE⟩ := hv
  have hx := B.exec
  have hb := B.bytes
  have hr := B.returns
  have hts := atoms_spec (ws := (cW yX7_mean cX7_mean 3 (some .long))) B.pre
  have ht : ∀ w ∈ tG, w.before args s = true := fun w h => hts w (List.mem_cons_of_mem _ h)
  have hown : s.vm.findClass RX7 = some m.cls := findClass_of_methodNamed B.named
  have hlocks := B.notSynchronized
  have hK := hE.1
  have hG := xE_G D q ad A
  have S : CallFix p m c cX7_mean 3 s args tG RX7 := ⟨hx, hb, hml, hown, ht⟩
  have hS : va_S A s.heap s.heap [] := va_S.rf
  refine g_entry (vs := [.ref (ad 38), .int x1, .int x2]) hargs (Nat.le_of_ble_eq_true rfl) (fun ls hl => ?_)
  have hl : lv_has ls 3 [(0, .ref (ad 38)), (1, .int x1), (2, .int x2)] := hl
  unfold pX7_mean at h
  refine lv_iload_n hx hb dX7_mean_0 rfl (lv_at hl 1 rfl) ?_
  refine lv_if_lt (tgt := 17) hx hb dX7_mean_1 (by decide) (fun c1 => ?_) (fun c1 => ?_)
  · have h := h.1 c1
    refine lv_ldc2 (v := (-1 : Int64)) hx hb hown (ht _ tw_cn_X7_236) dX7_mean_17 ?_
    exact g_rl hG hx hb hr hlocks hE hP hS h dX7_mean_20
  · have h := h.2 c1
    refine lv_iload_n hx hb dX7_mean_4 rfl (lv_at hl 1 rfl) ?_
    refine lv_bipush (v := (10 : Int32)) hx hb dX7_mean_5 (by decide) ?_
    refine lv_icmp_gt (tgt := 17) hx hb dX7_mean_7 (by decide) (fun c7 => ?_) (fun c7 => ?_)
    · have h := h.1 c7
      refine lv_ldc2 (v := (-1 : Int64)) hx hb hown (ht _ tw_cn_X7_236) dX7_mean_17 ?_
      exact g_rl hG hx hb hr hlocks hE hP hS h dX7_mean_20
    · have h := h.2 c7
      refine lv_iload_n hx hb dX7_mean_10 rfl (lv_at hl 2 rfl) ?_
      refine g_cSi (Wd := WX q ad) (z := z) (As := [.int x2]) (rest := []) hG S (kX7_isZeroOrOne l D q ad A hD z x2 _ h) (va_cwS 1 ht (cW_S (fun _ h => h) tw_co_X7_isZeroOrOne tw_ml_X7_195 tw_st_X7_isZeroOrOne tw_in_X7) rfl rfl rfl (by decide +kernel) ⟨by decide, by decide⟩) hE hP hS rfl hl.1 rfl (Nat.le_of_ble_eq_true rfl) dX7_mean_11 ⟨Nat.zero_le _, Nat.zero_le _⟩ (fun r11 z11 H locs h hP hS => ?_)
      refine lv_if_ne (tgt := 21) hx hb dX7_mean_14 (by decide) (fun c14 => ?_) (fun c14 => ?_)
      · have h := h.1 c14
        refine lv_aload_n hx hb dX7_mean_21 rfl (lv_at hl 0 rfl) ?_
        refine va_get (D := D) (ci := 7) (v := .ref (ad 32)) (C := RX7) (T := TX7) (N := 12) hx hb ht tl_X7 hown hK hP 38 (wx_38 q ad z11) rfl 5 (by decide) (ht _ tw_fl_X7_45) (fun _ h9 => h9) rfl dX7_mean_22 ?_
        refine lv_aload_n hx hb dX7_mean_25 rfl (lv_at hl 0 rfl) ?_
        refine va_get (D := D) (ci := 7) (v := .ref (ad (4 * 0))) (C := RX7) (T := TX7) (N := 12) hx hb ht tl_X7 hown hK hP 38 (wx_38 q ad z11) rfl 0 (by decide) (ht _ tw_fl_X7_10) (fun _ h9 => h9) rfl dX7_mean_26 ?_
        refine lv_iload_n hx hb dX7_mean_29 rfl (lv_at hl 1 rfl) ?_
        refine g_cVv (Wd := WX q ad) (z := z11) (As := [.ref (ad (4 * 0)), .int x1]) (rest := []) hG S (kX1_weigh l D q ad A hD 0 (by decide) z11 x1 _ h) (cwV 2 ht (cW_V (fun _ h => h) tw_co_X1_weigh tw_ml_X7_238 tw_im_X1_weigh tw_se_X1_weigh tw_in_X1) rfl rfl rfl (by decide +kernel) ⟨by decide, by decide⟩) (va_recv hK hP (ci := 1) (q0 := 32) rfl (wx_32 q ad z11)) hE hP hS rfl hl.1 rfl (Nat.le_of_ble_eq_true rfl) dX7_mean_30 ⟨Nat.zero_le _, Nat.zero_le _⟩ (fun z30 H locs h hP hS => ?_)
        refine lv_aload_n hx hb dX7_mean_33 rfl (lv_at hl 0 rfl) ?_
        refine va_get (D := D) (ci := 7) (v := .ref (ad 32)) (C := RX7) (T := TX7) (N := 12) hx hb ht tl_X7 hown hK hP 38 (wx_38 q ad z30) rfl 5 (by decide) (ht _ tw_fl_X7_45) (fun _ h9 => h9) rfl dX7_mean_34 ?_
        refine va_get (D := D) (ci := 1) (v := .long (z30.2 1)) (C := RX1) (T := TX1) (N := 5) hx hb ht tl_X1 hown hK hP 32 (wx_32 q ad z30) rfl 3 (by decide) (ht _ tw_fl_X7_242) (fun _ h9 => h9) rfl dX7_mean_37 ?_
        refine lv_aload_n hx hb dX7_mean_40 rfl (lv_at hl 0 rfl) ?_
        refine va_get (D := D) (ci := 7) (v := .ref (ad 32)) (C := RX7) (T := TX7) (N := 12) hx hb ht tl_X7 hown hK hP 38 (wx_38 q ad z30) rfl 5 (by decide) (ht _ tw_fl_X7_45) (fun _ h9 => h9) rfl dX7_mean_41 ?_
        refine va_get (D := D) (ci := 1) (v := .long (z30.2 0)) (C := RX1) (T := TX1) (N := 5) hx hb ht tl_X1 hown hK hP 32 (wx_32 q ad z30) rfl 2 (by decide) (ht _ tw_fl_X7_246) (fun _ h9 => h9) rfl dX7_mean_44 ?_
        refine lv_iload_n hx hb dX7_mean_47 rfl (lv_at hl 2 rfl) ?_
        refine g_cSl (Wd := WX q ad) (z := z30) (As := [.long (z30.2 1), .long (z30.2 0), .int x2]) (rest := []) hG S (kX7_partOfFraction l D q ad A hD z30 (z30.2 1) (z30.2 0) x2 _ h) (va_cwS 3 ht (cW_S (fun _ h => h) tw_co_X7_partOfFraction tw_ml_X7_249 tw_st_X7_partOfFraction tw_in_X7) rfl rfl rfl (by decide +kernel) ⟨by decide, by decide⟩) hE hP hS rfl hl.1 rfl (Nat.le_of_ble_eq_true rfl) dX7_mean_48 ⟨Nat.zero_le _, Nat.zero_le _⟩ (fun r48 z48 H locs h hP hS => ?_)
        exact g_rl hG hx hb hr hlocks hE hP hS h dX7_mean_51
      · have h := h.2 c14
        refine lv_ldc2 (v := (-1 : Int64)) hx hb hown (ht _ tw_cn_X7_236) dX7_mean_17 ?_
        exact g_rl hG hx hb hr hlocks hE hP hS h dX7_mean_20
def pX7_luck (z : MX) (x1 : Int32) (x2 : Int32) (post : Int64 → MX → Prop) : Prop :=
  ((x1 < 0 →
    post (-1 : Int64) z) ∧
  (¬ x1 < 0 →
    (((10 : Int32) < x1 →
      post (-1 : Int64) z) ∧
    (¬ (10 : Int32) < x1 →
      pX7_isZeroOrOne z x2 (fun (r11 : Int32) (z11 : MX) =>
      ((¬ r11 = 0 →
        pX1_weigh 0 z11 x1 (fun (z30 : MX) =>
        pX7_partOfFraction z30 (z30.2 2) (z30.2 0) x2 (fun (r48 : Int64) (z48 : MX) =>
        post r48 z48))) ∧
      (r11 = 0 →
        post (-1 : Int64) z11)))))))
set_option maxHeartbeats 4000000 in
set_option maxRecDepth 100000 in
theorem kX7_luck (l : Launch) (D : va_G) (q : Nat → ClassId) (ad : Nat → Nat) (A : Nat → Prop) (hD : ∀ z, va_D A (WX q ad z)) (z : MX) (x1 : Int32) (x2 : Int32) (post : Int64 → MX → Prop) (h : pX7_luck  z x1 x2 post) : Met l yX7_luck (cW yX7_luck cX7_luck 3 (some .long)) ({ frames := 6, cells := 0, slots := 0, locals := 147 } : Room) (va_Pc [.ref (ad 38), .int x1, .int x2] ((gB D vwCl (WX q ad) (xE D q ad A)) z)) (va_Ql post (gB D vwCl (WX q ad) (xE D q ad A)) A) 0 0 A := by
  refine Met.ofW (cc := cX7_luck) (maxL := 3) (ret := (some .long)) (by decide) rfl ?_
  intro p e s m args below meth c s₁ B hml hv
  obtain ⟨hargs, hP, hE⟩ := hv
  have hx := B.exec
  have hb := B.bytes
  have hr := B.returns
  have hts := atoms_spec (ws := (cW yX7_luck cX7_luck 3 (some .long))) B.pre
  have ht : ∀ w ∈ tG, w.before args s = true := fun w h => hts w (List.mem_cons_of_mem _ h)
  have hown : s.vm.findClass RX7 = some m.cls := findClass_of_methodNamed B.named
  have hlocks := B.notSynchronized
  have hK := hE.1
  have hG := xE_G D q ad A
  have S : CallFix p m c cX7_luck 3 s args tG RX7 := ⟨hx, hb, hml, hown, ht⟩
  have hS : va_S A s.heap s.heap [] := va_S.rf
  refine g_entry (vs := [.ref (ad 38), .int x1, .int x2]) hargs (Nat.le_of_ble_eq_true rfl) (fun ls hl => ?_)
  have hl : lv_has ls 3 [(0, .ref (ad 38)), (1, .int x1), (2, .int x2)] := hl
  unfold pX7_luck at h
  refine lv_iload_n hx hb dX7_luck_0 rfl (lv_at hl 1 rfl) ?_
  refine lv_if_lt (tgt := 17) hx hb dX7_luck_1 (by decide) (fun c1 => ?_) (fun c1 => ?_)
  · have h := h.1 c1
    refine lv_ldc2 (v := (-1 : Int64)) hx hb hown (ht _ tw_cn_X7_236) dX7_luck_17 ?_
    exact g_rl hG hx hb hr hlocks hE hP hS h dX7_luck_20
  · have h := h.2 c1
    refine lv_iload_n hx hb dX7_luck_4 rfl (lv_at hl 1 rfl) ?_
    refine lv_bipush (v := (10 : Int32)) hx hb dX7_luck_5 (by decide) ?_
    refine lv_icmp_gt (tgt := 17) hx hb dX7_luck_7 (by decide) (fun c7 => ?_) (fun c7 => ?_)
    · have h := h.1 c7
      refine lv_ldc2 (v := (-1 : Int64)) hx hb hown (ht _ tw_cn_X7_236) dX7_luck_17 ?_
      exact g_rl hG hx hb hr hlocks hE hP hS h dX7_luck_20
    · have h := h.2 c7
      refine lv_iload_n hx hb dX7_luck_10 rfl (lv_at hl 2 rfl) ?_
      refine g_cSi (Wd := WX q ad) (z := z) (As := [.int x2]) (rest := []) hG S (kX7_isZeroOrOne l D q ad A hD z x2 _ h) (va_cwS 1 ht (cW_S (fun _ h => h) tw_co_X7_isZeroOrOne tw_ml_X7_195 tw_st_X7_isZeroOrOne tw_in_X7) rfl rfl rfl (by decide +kernel) ⟨by decide, by decide⟩) hE hP hS rfl hl.1 rfl (Nat.le_of_ble_eq_true rfl) dX7_luck_11 ⟨Nat.zero_le _, Nat.zero_le _⟩ (fun r11 z11 H locs h hP hS => ?_)
      refine lv_if_ne (tgt := 21) hx hb dX7_luck_14 (by decide) (fun c14 => ?_) (fun c14 => ?_)
      · have h := h.1 c14
        refine lv_aload_n hx hb dX7_luck_21 rfl (lv_at hl 0 rfl) ?_
        refine va_get (D := D) (ci := 7) (v := .ref (ad 32)) (C := RX7) (T := TX7) (N := 12) hx hb ht tl_X7 hown hK hP 38 (wx_38 q ad z11) rfl 5 (by decide) (ht _ tw_fl_X7_45) (fun _ h9 => h9) rfl dX7_luck_22 ?_
        refine lv_aload_n hx hb dX7_luck_25 rfl (lv_at hl 0 rfl) ?_
        refine va_get (D := D) (ci := 7) (v := .ref (ad (4 * 0))) (C := RX7) (T := TX7) (N := 12) hx hb ht tl_X7 hown hK hP 38 (wx_38 q ad z11) rfl 0 (by decide) (ht _ tw_fl_X7_10) (fun _ h9 => h9) rfl dX7_luck_26 ?_
        refine lv_iload_n hx hb dX7_luck_29 rfl (lv_at hl 1 rfl) ?_
        refine g_cVv (Wd := WX q ad) (z := z11) (As := [.ref (ad (4 * 0)), .int x1]) (rest := []) hG S (kX1_weigh l D q ad A hD 0 (by decide) z11 x1 _ h) (cwV 2 ht (cW_V (fun _ h => h) tw_co_X1_weigh tw_ml_X7_238 tw_im_X1_weigh tw_se_X1_weigh tw_in_X1) rfl rfl rfl (by decide +kernel) ⟨by decide, by decide⟩) (va_recv hK hP (ci := 1) (q0 := 32) rfl (wx_32 q ad z11)) hE hP hS rfl hl.1 rfl (Nat.le_of_ble_eq_true rfl) dX7_luck_30 ⟨Nat.zero_le _, Nat.zero_le _⟩ (fun z30 H locs h hP hS => ?_)
        refine lv_aload_n hx hb dX7_luck_33 rfl (lv_at hl 0 rfl) ?_
        refine va_get (D := D) (ci := 7) (v := .ref (ad 32)) (C := RX7) (T := TX7) (N := 12) hx hb ht tl_X7 hown hK hP 38 (wx_38 q ad z30) rfl 5 (by decide) (ht _ tw_fl_X7_45) (fun _ h9 => h9) rfl dX7_luck_34 ?_
        refine va_get (D := D) (ci := 1) (v := .long (z30.2 2)) (C := RX1) (T := TX1) (N := 5) hx hb ht tl_X1 hown hK hP 32 (wx_32 q ad z30) rfl 4 (by decide) (ht _ tw_fl_X7_253) (fun _ h9 => h9) rfl dX7_luck_37 ?_
        refine lv_aload_n hx hb dX7_luck_40 rfl (lv_at hl 0 rfl) ?_
        refine va_get (D := D) (ci := 7) (v := .ref (ad 32)) (C := RX7) (T := TX7) (N := 12) hx hb ht tl_X7 hown hK hP 38 (wx_38 q ad z30) rfl 5 (by decide) (ht _ tw_fl_X7_45) (fun _ h9 => h9) rfl dX7_luck_41 ?_
        refine va_get (D := D) (ci := 1) (v := .long (z30.2 0)) (C := RX1) (T := TX1) (N := 5) hx hb ht tl_X1 hown hK hP 32 (wx_32 q ad z30) rfl 2 (by decide) (ht _ tw_fl_X7_246) (fun _ h9 => h9) rfl dX7_luck_44 ?_
        refine lv_iload_n hx hb dX7_luck_47 rfl (lv_at hl 2 rfl) ?_
        refine g_cSl (Wd := WX q ad) (z := z30) (As := [.long (z30.2 2), .long (z30.2 0), .int x2]) (rest := []) hG S (kX7_partOfFraction l D q ad A hD z30 (z30.2 2) (z30.2 0) x2 _ h) (va_cwS 3 ht (cW_S (fun _ h => h) tw_co_X7_partOfFraction tw_ml_X7_249 tw_st_X7_partOfFraction tw_in_X7) rfl rfl rfl (by decide +kernel) ⟨by decide, by decide⟩) hE hP hS rfl hl.1 rfl (Nat.le_of_ble_eq_true rfl) dX7_luck_48 ⟨Nat.zero_le _, Nat.zero_le _⟩ (fun r48 z48 H locs h hP hS => ?_)
        exact g_rl hG hx hb hr hlocks hE hP hS h dX7_luck_51
      · have h := h.2 c14
        refine lv_ldc2 (v := (-1 : Int64)) hx hb hown (ht _ tw_cn_X7_236) dX7_luck_17 ?_
        exact g_rl hG hx hb hr hlocks hE hP hS h dX7_luck_20
def pX7_see_b37 (post : Int32 → MX → Prop) (z : MX) (x1 : Int32) (x2 : Int32) (x3 : Int32) : Prop :=
    pX4_append z x1 x2 x3 (fun (r44 : Int32) (z44 : MX) =>
    ((r44 = 0 →
      post (-3 : Int32) z44) ∧
    (¬ r44 = 0 →
      post (z44.1 33 6) z44)))
def pX7_see (z : MX) (x1 : Int32) (x2 : Int32) (x3 : Int32) (post : Int32 → MX → Prop) : Prop :=
  pX0_isTrain 0 z x1 (fun (r5 : Int32) (z5 : MX) =>
  ((r5 = 0 →
    post (-1 : Int32) z5) ∧
  (¬ r5 = 0 →
    pX7_isMinute z5 x2 (fun (r12 : Int32) (z12 : MX) =>
    ((r12 = 0 →
      post (-1 : Int32) z12) ∧
    (¬ r12 = 0 →
      ((x3 = (-4 : Int32) →
        pX7_see_b37  post z12 x1 x2 x3) ∧
      (¬ x3 = (-4 : Int32) →
        pX0_isBlock 0 z12 x3 (fun (r29 : Int32) (z29 : MX) =>
        ((¬ r29 = 0 →
          pX7_see_b37  post z29 x1 x2 x3) ∧
        (r29 = 0 →
          post (-1 : Int32) z29)))))))))))
set_option maxHeartbeats 4000000 in
set_option maxRecDepth 100000 in
theorem kX7_see (l : Launch) (D : va_G) (q : Nat → ClassId) (ad : Nat → Nat) (A : Nat → Prop) (hD : ∀ z, va_D A (WX q ad z)) (z : MX) (x1 : Int32) (x2 : Int32) (x3 : Int32) (post : Int32 → MX → Prop) (h : pX7_see  z x1 x2 x3 post) : Met l yX7_see (cW yX7_see cX7_see 4 (some .int)) ({ frames := 1, cells := 0, slots := 0, locals := 23 } : Room) (va_Pc [.ref (ad 38), .int x1, .int x2, .int x3] ((gB D vwCl (WX q ad) (xE D q ad A)) z)) (va_Qi post (gB D vwCl (WX q ad) (xE D q ad A)) A) 0 0 A := by
  refine Met.ofW (cc := cX7_see) (maxL := 4) (ret := (some .int)) (by decide) rfl ?_
  intro p e s m args below meth c s₁ B hml hv
  obtain ⟨hargs, hP, hE⟩ := hv
  have hx := B.exec
  have hb := B.bytes
  have hr := B.returns
  have hts := atoms_spec (ws := (cW yX7_see cX7_see 4 (some .int))) B.pre
  have ht : ∀ w ∈ tG, w.before args s = true := fun w h => hts w (List.mem_cons_of_mem _ h)
  have hown : s.vm.findClass RX7 = some m.cls := findClass_of_methodNamed B.named
  have hlocks := B.notSynchronized
  have hK := hE.1
  have hG := xE_G D q ad A
  have S : CallFix p m c cX7_see 4 s args tG RX7 := ⟨hx, hb, hml, hown, ht⟩
  have hS : va_S A s.heap s.heap [] := va_S.rf
  have B37 : ∀ (z : MX) (x1 : Int32) (x2 : Int32) (x3 : Int32) (H : Heap) (locs : List Loc) (ls : Array Slot), pX7_see_b37  post z x1 x2 x3 → va_P D vwCl (WX q ad z) H → va_S A s.heap H locs → lv_has ls 4 [(0, .ref (ad 38)), (1, .int x1), (2, .int x2), (3, .int x3)] → W p l e (headSpec (cW yX7_see cX7_see 4 (some .int)) ({ frames := 1, cells := 0, slots := 0, locals := 23 } : Room)).room s m args below meth c H locs 0 0 (MQ below (va_Qi post (gB D vwCl (WX q ad) (xE D q ad A)) A) args s 0 0 A) (F0 m 37 ls []) := by
    intro z x1 x2 x3 H locs ls h hP hS hl
    unfold pX7_see_b37 at h
    refine lv_aload_n hx hb dX7_see_37 rfl (lv_at hl 0 rfl) ?_
    refine va_get (D := D) (ci := 7) (v := .ref (ad 33)) (C := RX7) (T := TX7) (N := 12) hx hb ht tl_X7 hown hK hP 38 (wx_38 q ad z) rfl 6 (by decide) (ht _ tw_fl_X7_52) (fun _ h9 => h9) rfl dX7_see_38 ?_
    refine lv_iload_n hx hb dX7_see_41 rfl (lv_at hl 1 rfl) ?_
    refine lv_iload_n hx hb dX7_see_42 rfl (lv_at hl 2 rfl) ?_
    refine lv_iload_n hx hb dX7_see_43 rfl (lv_at hl 3 rfl) ?_
    refine g_cVi (Wd := WX q ad) (z := z) (As := [.int x1, .int x2, .int x3]) (rest := []) hG S (kX4_append l D q ad A hD z x1 x2 x3 _ h) (cwV 3 ht (cW_V (fun _ h => h) tw_co_X4_append tw_ml_X7_256 tw_im_X4_append tw_se_X4_append tw_in_X4) rfl rfl rfl (by decide +kernel) ⟨by decide, by decide⟩) (va_recv hK hP (ci := 4) (q0 := 33) rfl (wx_33 q ad z)) hE hP hS rfl hl.1 rfl (Nat.le_of_ble_eq_true rfl) dX7_see_44 ⟨Nat.zero_le _, Nat.zero_le _⟩ (fun r44 z44 H locs h hP hS => ?_)
    refine lv_if_eq (tgt := 60) hx hb dX7_see_47 (by decide) (fun c47 => ?_) (fun c47 => ?_)
    · have h := h.1 c47
      refine lv_bipush (v := (-3 : Int32)) hx hb dX7_see_60 (by decide) ?_
      exact g_ri hG hx hb hr hlocks hE hP hS h dX7_see_62
    · have h := h.2 c47
      refine lv_aload_n hx hb dX7_see_50 rfl (lv_at hl 0 rfl) ?_
      refine va_get (D := D) (ci := 7) (v := .ref (ad 33)) (C := RX7) (T := TX7) (N := 12) hx hb ht tl_X7 hown hK hP 38 (wx_38 q ad z44) rfl 6 (by decide) (ht _ tw_fl_X7_52) (fun _ h9 => h9) rfl dX7_see_51 ?_
      refine va_get (D := D) (ci := 4) (v := .int (z44.1 33 6)) (C := RX4) (T := TX4) (N := 8) hx hb ht tl_X4 hown hK hP 33 (wx_33 q ad z44) rfl 6 (by decide) (ht _ tw_fl_X7_96) (fun _ h9 => h9) rfl dX7_see_54 ?_
      refine lv_goto (tgt := 62) hx hb dX7_see_57 (by decide) ?_
      exact g_ri hG hx hb hr hlocks hE hP hS h dX7_see_62
  refine g_entry (vs := [.ref (ad 38), .int x1, .int x2, .int x3]) hargs (Nat.le_of_ble_eq_true rfl) (fun ls hl => ?_)
  have hl : lv_has ls 4 [(0, .ref (ad 38)), (1, .int x1), (2, .int x2), (3, .int x3)] := hl
  unfold pX7_see at h
  refine lv_aload_n hx hb dX7_see_0 rfl (lv_at hl 0 rfl) ?_
  refine va_get (D := D) (ci := 7) (v := .ref (ad (4 * 0))) (C := RX7) (T := TX7) (N := 12) hx hb ht tl_X7 hown hK hP 38 (wx_38 q ad z) rfl 0 (by decide) (ht _ tw_fl_X7_10) (fun _ h9 => h9) rfl dX7_see_1 ?_
  refine lv_iload_n hx hb dX7_see_4 rfl (lv_at hl 1 rfl) ?_
  refine g_cVi (Wd := WX q ad) (z := z) (As := [.int x1]) (rest := []) hG S (kX0_isTrain l D q ad A hD 0 (by decide) z x1 _ h) (cwV 1 ht (cW_V (fun _ h => h) tw_co_X0_isTrain tw_ml_X7_130 tw_im_X0_isTrain tw_se_X0_isTrain tw_in_X0) rfl rfl rfl (by decide +kernel) ⟨by decide, by decide⟩) (va_recv hK hP (ci := 0) (q0 := (4 * 0)) rfl (wxl q ad z (by decide))) hE hP hS rfl hl.1 rfl (Nat.le_of_ble_eq_true rfl) dX7_see_5 ⟨Nat.zero_le _, Nat.zero_le _⟩ (fun r5 z5 H locs h hP hS => ?_)
  refine lv_if_eq (tgt := 35) hx hb dX7_see_8 (by decide) (fun c8 => ?_) (fun c8 => ?_)
  · have h := h.1 c8
    refine lv_iconst (v := (-1 : Int32)) hx hb dX7_see_35 (by decide) ?_
    exact g_ri hG hx hb hr hlocks hE hP hS h dX7_see_36
  · have h := h.2 c8
    refine lv_iload_n hx hb dX7_see_11 rfl (lv_at hl 2 rfl) ?_
    refine g_cSi (Wd := WX q ad) (z := z5) (As := [.int x2]) (rest := []) hG S (kX7_isMinute l D q ad A hD z5 x2 _ h) (va_cwS 1 ht (cW_S (fun _ h => h) tw_co_X7_isMinute tw_ml_X7_165 tw_st_X7_isMinute tw_in_X7) rfl rfl rfl (by decide +kernel) ⟨by decide, by decide⟩) hE hP hS rfl hl.1 rfl (Nat.le_of_ble_eq_true rfl) dX7_see_12 ⟨Nat.zero_le _, Nat.zero_le _⟩ (fun r12 z12 H locs h hP hS => ?_)
    refine lv_if_eq (tgt := 35) hx hb dX7_see_15 (by decide) (fun c15 => ?_) (fun c15 => ?_)
    · have h := h.1 c15
      refine lv_iconst (v := (-1 : Int32)) hx hb dX7_see_35 (by decide) ?_
      exact g_ri hG hx hb hr hlocks hE hP hS h dX7_see_36
    · have h := h.2 c15
      refine lv_iload_n hx hb dX7_see_18 rfl (lv_at hl 3 rfl) ?_
      refine lv_bipush (v := (-4 : Int32)) hx hb dX7_see_19 (by decide) ?_
      refine lv_icmp_eq (tgt := 37) hx hb dX7_see_21 (by decide) (fun c21 => ?_) (fun c21 => ?_)
      · have h := h.1 c21
        exact B37 z12 x1 x2 x3 _ _ _ h hP hS (lv_sub hl [0, 1, 2, 3] rfl)
      · have h := h.2 c21
        refine lv_aload_n hx hb dX7_see_24 rfl (lv_at hl 0 rfl) ?_
        refine va_get (D := D) (ci := 7) (v := .ref (ad (4 * 0))) (C := RX7) (T := TX7) (N := 12) hx hb ht tl_X7 hown hK hP 38 (wx_38 q ad z12) rfl 0 (by decide) (ht _ tw_fl_X7_10) (fun _ h9 => h9) rfl dX7_see_25 ?_
        refine lv_iload_n hx hb dX7_see_28 rfl (lv_at hl 3 rfl) ?_
        refine g_cVi (Wd := WX q ad) (z := z12) (As := [.int x3]) (rest := []) hG S (kX0_isBlock l D q ad A hD 0 (by decide) z12 x3 _ h) (cwV 1 ht (cW_V (fun _ h => h) tw_co_X0_isBlock tw_ml_X7_113 tw_im_X0_isBlock tw_se_X0_isBlock tw_in_X0) rfl rfl rfl (by decide +kernel) ⟨by decide, by decide⟩) (va_recv hK hP (ci := 0) (q0 := (4 * 0)) rfl (wxl q ad z12 (by decide))) hE hP hS rfl hl.1 rfl (Nat.le_of_ble_eq_true rfl) dX7_see_29 ⟨Nat.zero_le _, Nat.zero_le _⟩ (fun r29 z29 H locs h hP hS => ?_)
        refine lv_if_ne (tgt := 37) hx hb dX7_see_32 (by decide) (fun c32 => ?_) (fun c32 => ?_)
        · have h := h.1 c32
          exact B37 z29 x1 x2 x3 _ _ _ h hP hS (lv_sub hl [0, 1, 2, 3] rfl)
        · have h := h.2 c32
          refine lv_iconst (v := (-1 : Int32)) hx hb dX7_see_35 (by decide) ?_
          exact g_ri hG hx hb hr hlocks hE hP hS h dX7_see_36
def pX7_forget (z : MX) (x1 : Int32) (post : Int32 → MX → Prop) : Prop :=
  ∀ x2_7 : Int32, x2_7 = z.1 33 6 →
  ((x1 < 0 →
    post (-1 : Int32) z) ∧
  (¬ x1 < 0 →
    ((x1 ≤ x2_7 →
      ∀ z24 : MX, z24 = mw z 33 6 x1 →
      post x2_7 z24) ∧
    (¬ x1 ≤ x2_7 →
      post (-1 : Int32) z))))
set_option maxHeartbeats 4000000 in
set_option maxRecDepth 100000 in
theorem kX7_forget (l : Launch) (D : va_G) (q : Nat → ClassId) (ad : Nat → Nat) (A : Nat → Prop) (hD : ∀ z, va_D A (WX q ad z)) (z : MX) (x1 : Int32) (post : Int32 → MX → Prop) (h : pX7_forget  z x1 post) : Met l yX7_forget (cW yX7_forget cX7_forget 3 (some .int)) ({ frames := 0, cells := 0, slots := 0, locals := 0 } : Room) (va_Pc [.ref (ad 38), .int x1] ((gB D vwCl (WX q ad) (xE D q ad A)) z)) (va_Qi post (gB D vwCl (WX q ad) (xE D q ad A)) A) 0 0 A := by
  refine Met.ofW (cc := cX7_forget) (maxL := 3) (ret := (some .int)) (by decide) rfl ?_
  intro p e s m args below meth c s₁ B hml hv
  obtain ⟨hargs, hP, hE⟩ := hv
  have hx := B.exec
  have hb := B.bytes
  have hr := B.returns
  have hts := atoms_spec (ws := (cW yX7_forget cX7_forget 3 (some .int))) B.pre
  have ht : ∀ w ∈ tG, w.before args s = true := fun w h => hts w (List.mem_cons_of_mem _ h)
  have hown : s.vm.findClass RX7 = some m.cls := findClass_of_methodNamed B.named
  have hlocks := B.notSynchronized
  have hK := hE.1
  have hG := xE_G D q ad A
  have S : CallFix p m c cX7_forget 3 s args tG RX7 := ⟨hx, hb, hml, hown, ht⟩
  have hS : va_S A s.heap s.heap [] := va_S.rf
  refine g_entry (vs := [.ref (ad 38), .int x1]) hargs (Nat.le_of_ble_eq_true rfl) (fun ls hl => ?_)
  have hl : lv_has ls 3 [(0, .ref (ad 38)), (1, .int x1)] := hl
  unfold pX7_forget at h
  refine lv_aload_n hx hb dX7_forget_0 rfl (lv_at hl 0 rfl) ?_
  refine va_get (D := D) (ci := 7) (v := .ref (ad 33)) (C := RX7) (T := TX7) (N := 12) hx hb ht tl_X7 hown hK hP 38 (wx_38 q ad z) rfl 6 (by decide) (ht _ tw_fl_X7_52) (fun _ h9 => h9) rfl dX7_forget_1 ?_
  refine va_get (D := D) (ci := 4) (v := .int (z.1 33 6)) (C := RX4) (T := TX4) (N := 8) hx hb ht tl_X4 hown hK hP 33 (wx_33 q ad z) rfl 6 (by decide) (ht _ tw_fl_X7_96) (fun _ h9 => h9) rfl dX7_forget_4 ?_
  refine lv_topi (fun x2_7 ex2_7 => ?_)
  have h := h x2_7 ex2_7
  refine lv_istore_n (lv' := [(2, .int x2_7), (0, .ref (ad 38)), (1, .int x1)]) hx hb dX7_forget_7 rfl hl (by decide) rfl (fun ls hl => ?_)
  refine lv_iload_n hx hb dX7_forget_8 rfl (lv_at hl 2 rfl) ?_
  refine lv_if_lt (tgt := 17) hx hb dX7_forget_9 (by decide) (fun c9 => ?_) (fun c9 => ?_)
  · have h := h.1 c9
    refine lv_iconst (v := (-1 : Int32)) hx hb dX7_forget_17 (by decide) ?_
    exact g_ri hG hx hb hr hlocks hE hP hS h dX7_forget_18
  · have h := h.2 c9
    refine lv_iload_n hx hb dX7_forget_12 rfl (lv_at hl 2 rfl) ?_
    refine lv_iload_n hx hb dX7_forget_13 rfl (lv_at hl 0 rfl) ?_
    refine lv_icmp_le (tgt := 19) hx hb dX7_forget_14 (by decide) (fun c14 => ?_) (fun c14 => ?_)
    · have h := h.1 c14
      refine lv_aload_n hx hb dX7_forget_19 rfl (lv_at hl 1 rfl) ?_
      refine va_get (D := D) (ci := 7) (v := .ref (ad 33)) (C := RX7) (T := TX7) (N := 12) hx hb ht tl_X7 hown hK hP 38 (wx_38 q ad z) rfl 6 (by decide) (ht _ tw_fl_X7_52) (fun _ h9 => h9) rfl dX7_forget_20 ?_
      refine lv_iload_n hx hb dX7_forget_23 rfl (lv_at hl 2 rfl) ?_
      refine g_put (D := D) (Wd := WX q ad) (z := z) (ci := 4) (v := .int x1) (ty := .int) (C := RX4) (T := TX4) (N := 8) hx hb ht tl_X4 tyX4 tyX4_ok nmX4 hown hK hP (hD z) hS 33 (wx_33 q ad z) rfl 6 (by decide) (ht _ tw_fl_X7_96) (fun _ h9 => h9) rfl rfl rfl rfl (Nat.le_of_ble_eq_true rfl) ((px_33_6 q ad z) x1) dX7_forget_24 (fun z24 H locs hz24 hP hS => ?_)
      have h := h z24 hz24
      refine lv_iload_n hx hb dX7_forget_27 rfl (lv_at hl 0 rfl) ?_
      exact g_ri hG hx hb hr hlocks hE hP hS h dX7_forget_28
    · have h := h.2 c14
      refine lv_iconst (v := (-1 : Int32)) hx hb dX7_forget_17 (by decide) ?_
      exact g_ri hG hx hb hr hlocks hE hP hS h dX7_forget_18
def pX7_fits (z : MX) (x1 : Int32) (post : Int32 → MX → Prop) : Prop :=
  pX0_isTrain 0 z x1 (fun (r5 : Int32) (z5 : MX) =>
  ((¬ r5 = 0 →
    pX4_fittingFaiths 0 z5 x1 (fun (r22 : Int32) (z22 : MX) =>
    post r22 z22)) ∧
  (r5 = 0 →
    post (-1 : Int32) z5)))
set_option maxHeartbeats 4000000 in
set_option maxRecDepth 100000 in
theorem kX7_fits (l : Launch) (D : va_G) (q : Nat → ClassId) (ad : Nat → Nat) (A : Nat → Prop) (hD : ∀ z, va_D A (WX q ad z)) (z : MX) (x1 : Int32) (post : Int32 → MX → Prop) (h : pX7_fits  z x1 post) : Met l yX7_fits (cW yX7_fits cX7_fits 2 (some .int)) ({ frames := 6, cells := 0, slots := 0, locals := 146 } : Room) (va_Pc [.ref (ad 38), .int x1] ((gB D vwCl (WX q ad) (xE D q ad A)) z)) (va_Qi post (gB D vwCl (WX q ad) (xE D q ad A)) A) 0 0 A := by
  refine Met.ofW (cc := cX7_fits) (maxL := 2) (ret := (some .int)) (by decide) rfl ?_
  intro p e s m args below meth c s₁ B hml hv
  obtain ⟨hargs, hP, hE⟩ := hv
  have hx := B.exec
  have hb := B.bytes
  have hr := B.returns
  have hts := atoms_spec (ws := (cW yX7_fits cX7_fits 2 (some .int))) B.pre
  have ht : ∀ w ∈ tG, w.before args s = true := fun w h => hts w (List.mem_cons_of_mem _ h)
  have hown : s.vm.findClass RX7 = some m.cls := findClass_of_methodNamed B.named
  have hlocks := B.notSynchronized
  have hK := hE.1
  have hG := xE_G D q ad A
  have S : CallFix p m c cX7_fits 2 s args tG RX7 := ⟨hx, hb, hml, hown, ht⟩
  have hS : va_S A s.heap s.heap [] := va_S.rf
  refine g_entry (vs := [.ref (ad 38), .int x1]) hargs (Nat.le_of_ble_eq_true rfl) (fun ls hl => ?_)
  have hl : lv_has ls 2 [(0, .ref (ad 38)), (1, .int x1)] := hl
  unfold pX7_fits at h
  refine lv_aload_n hx hb dX7_fits_0 rfl (lv_at hl 0 rfl) ?_
  refine va_get (D := D) (ci := 7) (v := .ref (ad (4 * 0))) (C := RX7) (T := TX7) (N := 12) hx hb ht tl_X7 hown hK hP 38 (wx_38 q ad z) rfl 0 (by decide) (ht _ tw_fl_X7_10) (fun _ h9 => h9) rfl dX7_fits_1 ?_
  refine lv_iload_n hx hb dX7_fits_4 rfl (lv_at hl 1 rfl) ?_
  refine g_cVi (Wd := WX q ad) (z := z) (As := [.int x1]) (rest := []) hG S (kX0_isTrain l D q ad A hD 0 (by decide) z x1 _ h) (cwV 1 ht (cW_V (fun _ h => h) tw_co_X0_isTrain tw_ml_X7_130 tw_im_X0_isTrain tw_se_X0_isTrain tw_in_X0) rfl rfl rfl (by decide +kernel) ⟨by decide, by decide⟩) (va_recv hK hP (ci := 0) (q0 := (4 * 0)) rfl (wxl q ad z (by decide))) hE hP hS rfl hl.1 rfl (Nat.le_of_ble_eq_true rfl) dX7_fits_5 ⟨Nat.zero_le _, Nat.zero_le _⟩ (fun r5 z5 H locs h hP hS => ?_)
  refine lv_if_ne (tgt := 13) hx hb dX7_fits_8 (by decide) (fun c8 => ?_) (fun c8 => ?_)
  · have h := h.1 c8
    refine lv_aload_n hx hb dX7_fits_13 rfl (lv_at hl 0 rfl) ?_
    refine va_get (D := D) (ci := 7) (v := .ref (ad 33)) (C := RX7) (T := TX7) (N := 12) hx hb ht tl_X7 hown hK hP 38 (wx_38 q ad z5) rfl 6 (by decide) (ht _ tw_fl_X7_52) (fun _ h9 => h9) rfl dX7_fits_14 ?_
    refine lv_aload_n hx hb dX7_fits_17 rfl (lv_at hl 0 rfl) ?_
    refine va_get (D := D) (ci := 7) (v := .ref (ad (4 * 0))) (C := RX7) (T := TX7) (N := 12) hx hb ht tl_X7 hown hK hP 38 (wx_38 q ad z5) rfl 0 (by decide) (ht _ tw_fl_X7_10) (fun _ h9 => h9) rfl dX7_fits_18 ?_
    refine lv_iload_n hx hb dX7_fits_21 rfl (lv_at hl 1 rfl) ?_
    refine g_cVi (Wd := WX q ad) (z := z5) (As := [.ref (ad (4 * 0)), .int x1]) (rest := []) hG S (kX4_fittingFaiths l D q ad A hD 0 (by decide) z5 x1 _ h) (cwV 2 ht (cW_V (fun _ h => h) tw_co_X4_fittingFaiths tw_ml_X7_259 tw_im_X4_fittingFaiths tw_se_X4_fittingFaiths tw_in_X4) rfl rfl rfl (by decide +kernel) ⟨by decide, by decide⟩) (va_recv hK hP (ci := 4) (q0 := 33) rfl (wx_33 q ad z5)) hE hP hS rfl hl.1 rfl (Nat.le_of_ble_eq_true rfl) dX7_fits_22 ⟨Nat.zero_le _, Nat.zero_le _⟩ (fun r22 z22 H locs h hP hS => ?_)
    exact g_ri hG hx hb hr hlocks hE hP hS h dX7_fits_25
  · have h := h.2 c8
    refine lv_iconst (v := (-1 : Int32)) hx hb dX7_fits_11 (by decide) ?_
    exact g_ri hG hx hb hr hlocks hE hP hS h dX7_fits_12
def pX7_look (z : MX) (x1 : Int32) (x2 : Int32) (post : Int32 → MX → Prop) : Prop :=
  pX0_isTrain 0 z x1 (fun (r5 : Int32) (z5 : MX) =>
  ((r5 = 0 →
    post (-1 : Int32) z5) ∧
  (¬ r5 = 0 →
    pX7_isZeroOrOne z5 x2 (fun (r12 : Int32) (z12 : MX) =>
    ((¬ r12 = 0 →
      pX4_fittingFaiths 0 z12 x1 (fun (r33 : Int32) (z33 : MX) =>
      pX4_bestMinute z33 r33 (fun (r36 : Int32) (z36 : MX) =>
      ((¬ x2 = 0 →
        post (z36.1 33 7) z36) ∧
      (x2 = 0 →
        post r36 z36))))) ∧
    (r12 = 0 →
      post (-1 : Int32) z12))))))
set_option maxHeartbeats 4000000 in
set_option maxRecDepth 100000 in
theorem kX7_look (l : Launch) (D : va_G) (q : Nat → ClassId) (ad : Nat → Nat) (A : Nat → Prop) (hD : ∀ z, va_D A (WX q ad z)) (z : MX) (x1 : Int32) (x2 : Int32) (post : Int32 → MX → Prop) (h : pX7_look  z x1 x2 post) : Met l yX7_look (cW yX7_look cX7_look 4 (some .int)) ({ frames := 6, cells := 0, slots := 0, locals := 146 } : Room) (va_Pc [.ref (ad 38), .int x1, .int x2] ((gB D vwCl (WX q ad) (xE D q ad A)) z)) (va_Qi post (gB D vwCl (WX q ad) (xE D q ad A)) A) 0 0 A := by
  refine Met.ofW (cc := cX7_look) (maxL := 4) (ret := (some .int)) (by decide) rfl ?_
  intro p e s m args below meth c s₁ B hml hv
  obtain ⟨hargs, hP, hE⟩ := hv
  have hx := B.exec
  have hb := B.bytes
  have hr := B.returns
  have hts := atoms_spec (ws := (cW yX7_look cX7_look 4 (some .int))) B.pre
  have ht : ∀ w ∈ tG, w.before args s = true := fun w h => hts w (List.mem_cons_of_mem _ h)
  have hown : s.vm.findClass RX7 = some m.cls := findClass_of_methodNamed B.named
  have hlocks := B.notSynchronized
  have hK := hE.1
  have hG := xE_G D q ad A
  have S : CallFix p m c cX7_look 4 s args tG RX7 := ⟨hx, hb, hml, hown, ht⟩
  have hS : va_S A s.heap s.heap [] := va_S.rf
  refine g_entry (vs := [.ref (ad 38), .int x1, .int x2]) hargs (Nat.le_of_ble_eq_true rfl) (fun ls hl => ?_)
  have hl : lv_has ls 4 [(0, .ref (ad 38)), (1, .int x1), (2, .int x2)] := hl
  unfold pX7_look at h
  refine lv_aload_n hx hb dX7_look_0 rfl (lv_at hl 0 rfl) ?_
  refine va_get (D := D) (ci := 7) (v := .ref (ad (4 * 0))) (C := RX7) (T := TX7) (N := 12) hx hb ht tl_X7 hown hK hP 38 (wx_38 q ad z) rfl 0 (by decide) (ht _ tw_fl_X7_10) (fun _ h9 => h9) rfl dX7_look_1 ?_
  refine lv_iload_n hx hb dX7_look_4 rfl (lv_at hl 1 rfl) ?_
  refine g_cVi (Wd := WX q ad) (z := z) (As := [.int x1]) (rest := []) hG S (kX0_isTrain l D q ad A hD 0 (by decide) z x1 _ h) (cwV 1 ht (cW_V (fun _ h => h) tw_co_X0_isTrain tw_ml_X7_130 tw_im_X0_isTrain tw_se_X0_isTrain tw_in_X0) rfl rfl rfl (by decide +kernel) ⟨by decide, by decide⟩) (va_recv hK hP (ci := 0) (q0 := (4 * 0)) rfl (wxl q ad z (by decide))) hE hP hS rfl hl.1 rfl (Nat.le_of_ble_eq_true rfl) dX7_look_5 ⟨Nat.zero_le _, Nat.zero_le _⟩ (fun r5 z5 H locs h hP hS => ?_)
  refine lv_if_eq (tgt := 18) hx hb dX7_look_8 (by decide) (fun c8 => ?_) (fun c8 => ?_)
  · have h := h.1 c8
    refine lv_iconst (v := (-1 : Int32)) hx hb dX7_look_18 (by decide) ?_
    exact g_ri hG hx hb hr hlocks hE hP hS h dX7_look_19
  · have h := h.2 c8
    refine lv_iload_n hx hb dX7_look_11 rfl (lv_at hl 2 rfl) ?_
    refine g_cSi (Wd := WX q ad) (z := z5) (As := [.int x2]) (rest := []) hG S (kX7_isZeroOrOne l D q ad A hD z5 x2 _ h) (va_cwS 1 ht (cW_S (fun _ h => h) tw_co_X7_isZeroOrOne tw_ml_X7_195 tw_st_X7_isZeroOrOne tw_in_X7) rfl rfl rfl (by decide +kernel) ⟨by decide, by decide⟩) hE hP hS rfl hl.1 rfl (Nat.le_of_ble_eq_true rfl) dX7_look_12 ⟨Nat.zero_le _, Nat.zero_le _⟩ (fun r12 z12 H locs h hP hS => ?_)
    refine lv_if_ne (tgt := 20) hx hb dX7_look_15 (by decide) (fun c15 => ?_) (fun c15 => ?_)
    · have h := h.1 c15
      refine lv_aload_n hx hb dX7_look_20 rfl (lv_at hl 0 rfl) ?_
      refine va_get (D := D) (ci := 7) (v := .ref (ad 33)) (C := RX7) (T := TX7) (N := 12) hx hb ht tl_X7 hown hK hP 38 (wx_38 q ad z12) rfl 6 (by decide) (ht _ tw_fl_X7_52) (fun _ h9 => h9) rfl dX7_look_21 ?_
      refine lv_aload_n hx hb dX7_look_24 rfl (lv_at hl 0 rfl) ?_
      refine va_get (D := D) (ci := 7) (v := .ref (ad 33)) (C := RX7) (T := TX7) (N := 12) hx hb ht tl_X7 hown hK hP 38 (wx_38 q ad z12) rfl 6 (by decide) (ht _ tw_fl_X7_52) (fun _ h9 => h9) rfl dX7_look_25 ?_
      refine lv_aload_n hx hb dX7_look_28 rfl (lv_at hl 0 rfl) ?_
      refine va_get (D := D) (ci := 7) (v := .ref (ad (4 * 0))) (C := RX7) (T := TX7) (N := 12) hx hb ht tl_X7 hown hK hP 38 (wx_38 q ad z12) rfl 0 (by decide) (ht _ tw_fl_X7_10) (fun _ h9 => h9) rfl dX7_look_29 ?_
      refine lv_iload_n hx hb dX7_look_32 rfl (lv_at hl 1 rfl) ?_
      refine g_cVi (Wd := WX q ad) (z := z12) (As := [.ref (ad (4 * 0)), .int x1]) (rest := [.ref (ad 33)]) hG S (kX4_fittingFaiths l D q ad A hD 0 (by decide) z12 x1 _ h) (cwV 2 ht (cW_V (fun _ h => h) tw_co_X4_fittingFaiths tw_ml_X7_259 tw_im_X4_fittingFaiths tw_se_X4_fittingFaiths tw_in_X4) rfl rfl rfl (by decide +kernel) ⟨by decide, by decide⟩) (va_recv hK hP (ci := 4) (q0 := 33) rfl (wx_33 q ad z12)) hE hP hS rfl hl.1 rfl (Nat.le_of_ble_eq_true rfl) dX7_look_33 ⟨Nat.zero_le _, Nat.zero_le _⟩ (fun r33 z33 H locs h hP hS => ?_)
      refine g_cVi (Wd := WX q ad) (z := z33) (As := [.int r33]) (rest := []) hG S (kX4_bestMinute l D q ad A hD z33 r33 _ h) (cwV 1 ht (cW_V (fun _ h => h) tw_co_X4_bestMinute tw_ml_X7_263 tw_im_X4_bestMinute tw_se_X4_bestMinute tw_in_X4) rfl rfl rfl (by decide +kernel) ⟨by decide, by decide⟩) (va_recv hK hP (ci := 4) (q0 := 33) rfl (wx_33 q ad z33)) hE hP hS rfl hl.1 rfl (Nat.le_of_ble_eq_true rfl) dX7_look_36 ⟨Nat.zero_le _, Nat.zero_le _⟩ (fun r36 z36 H locs h hP hS => ?_)
      refine lv_istore_n (lv' := [(3, .int r36), (0, .ref (ad 38)), (1, .int x1), (2, .int x2)]) hx hb dX7_look_39 rfl hl (by decide) rfl (fun ls hl => ?_)
      refine lv_iload_n hx hb dX7_look_40 rfl (lv_at hl 3 rfl) ?_
      refine lv_if_ne (tgt := 48) hx hb dX7_look_41 (by decide) (fun c41 => ?_) (fun c41 => ?_)
      · have h := h.1 c41
        refine lv_aload_n hx hb dX7_look_48 rfl (lv_at hl 1 rfl) ?_
        refine va_get (D := D) (ci := 7) (v := .ref (ad 33)) (C := RX7) (T := TX7) (N := 12) hx hb ht tl_X7 hown hK hP 38 (wx_38 q ad z36) rfl 6 (by decide) (ht _ tw_fl_X7_52) (fun _ h9 => h9) rfl dX7_look_49 ?_
        refine va_get (D := D) (ci := 4) (v := .int (z36.1 33 7)) (C := RX4) (T := TX4) (N := 8) hx hb ht tl_X4 hown hK hP 33 (wx_33 q ad z36) rfl 7 (by decide) (ht _ tw_fl_X7_266) (fun _ h9 => h9) rfl dX7_look_52 ?_
        exact g_ri hG hx hb hr hlocks hE hP hS h dX7_look_55
      · have h := h.2 c41
        refine lv_iload_n hx hb dX7_look_44 rfl (lv_at hl 0 rfl) ?_
        refine lv_goto (tgt := 55) hx hb dX7_look_45 (by decide) ?_
        exact g_ri hG hx hb hr hlocks hE hP hS h dX7_look_55
    · have h := h.2 c15
      refine lv_iconst (v := (-1 : Int32)) hx hb dX7_look_18 (by decide) ?_
      exact g_ri hG hx hb hr hlocks hE hP hS h dX7_look_19
def pX7_nextSeed (z : MX) (x0 : Int32) (post : Int32 → MX → Prop) : Prop :=
  post ((x0 * (1103515245 : Int32)) + (12345 : Int32)) z
set_option maxHeartbeats 4000000 in
set_option maxRecDepth 100000 in
theorem kX7_nextSeed (l : Launch) (D : va_G) (q : Nat → ClassId) (ad : Nat → Nat) (A : Nat → Prop) (hD : ∀ z, va_D A (WX q ad z)) (z : MX) (x0 : Int32) (post : Int32 → MX → Prop) (h : pX7_nextSeed  z x0 post) : Met l yX7_nextSeed (cW yX7_nextSeed cX7_nextSeed 1 (some .int)) ({ frames := 0, cells := 0, slots := 0, locals := 0 } : Room) (va_Pc [.int x0] ((gB D vwCl (WX q ad) (xE D q ad A)) z)) (va_Qi post (gB D vwCl (WX q ad) (xE D q ad A)) A) 0 0 A := by
  refine Met.ofW (cc := cX7_nextSeed) (maxL := 1) (ret := (some .int)) (by decide) rfl ?_
  intro p e s m args below meth c s₁ B hml hv
  obtain ⟨hargs, hP, hE⟩ := hv
  have hx := B.exec
  have hb := B.bytes
  have hr := B.returns
  have hts := atoms_spec (ws := (cW yX7_nextSeed cX7_nextSeed 1 (some .int))) B.pre
  have ht : ∀ w ∈ tG, w.before args s = true := fun w h => hts w (List.mem_cons_of_mem _ h)
  have hown : s.vm.findClass RX7 = some m.cls := findClass_of_methodNamed B.named
  have hlocks := B.notSynchronized
  have hK := hE.1
  have hG := xE_G D q ad A
  have S : CallFix p m c cX7_nextSeed 1 s args tG RX7 := ⟨hx, hb, hml, hown, ht⟩
  have hS : va_S A s.heap s.heap [] := va_S.rf
  refine g_entry (vs := [.int x0]) hargs (Nat.le_of_ble_eq_true rfl) (fun ls hl => ?_)
  have hl : lv_has ls 1 [(0, .int x0)] := hl
  unfold pX7_nextSeed at h
  refine lv_iload_n hx hb dX7_nextSeed_0 rfl (lv_at hl 0 rfl) ?_
  refine lv_ldcw (v := (1103515245 : Int32)) hx hb hown (ht _ tw_cn_X7_314) dX7_nextSeed_1 ?_
  refine lv_imul hx hb dX7_nextSeed_4 ?_
  refine lv_sipush (v := (12345 : Int32)) hx hb dX7_nextSeed_5 (by decide) ?_
  refine lv_iadd hx hb dX7_nextSeed_8 ?_
  exact g_ri hG hx hb hr hlocks hE hP hS h dX7_nextSeed_9
def pX7_drawn (z : MX) (x0 : Int32) (x1 : Int32) (post : Int32 → MX → Prop) : Prop :=
  ((x1 ≤ 0 →
    post (0 : Int32) z) ∧
  (¬ x1 ≤ 0 →
    ¬ x1 = 0 ∧
    post ((((x0.toUInt32 >>> (Int32.toUInt32 (16 : Int32) &&& Int32.toUInt32 31)).toInt32) &&& (32767 : Int32)) - (((x0.toUInt32 >>> (Int32.toUInt32 (16 : Int32) &&& Int32.toUInt32 31)).toInt32) &&& (32767 : Int32)) / x1 * x1) z))
set_option maxHeartbeats 4000000 in
set_option maxRecDepth 100000 in
theorem kX7_drawn (l : Launch) (D : va_G) (q : Nat → ClassId) (ad : Nat → Nat) (A : Nat → Prop) (hD : ∀ z, va_D A (WX q ad z)) (z : MX) (x0 : Int32) (x1 : Int32) (post : Int32 → MX → Prop) (h : pX7_drawn  z x0 x1 post) : Met l yX7_drawn (cW yX7_drawn cX7_drawn 2 (some .int)) ({ frames := 0, cells := 0, slots := 0, locals := 0 } : Room) (va_Pc [.int x0, .int x1] ((gB D vwCl (WX q ad) (xE D q ad A)) z)) (va_Qi post (gB D vwCl (WX q ad) (xE D q ad A)) A) 0 0 A := by
  refine Met.ofW (cc := cX7_drawn) (maxL := 2) (ret := (some .int)) (by decide) rfl ?_
  intro p e s m args below meth c s₁ B hml hv
  obtain ⟨hargs, hP, hE⟩ := hv
  have hx := B.exec
  have hb := B.bytes
  have hr := B.returns
  have hts := atoms_spec (ws := (cW yX7_drawn cX7_drawn 2 (some .int))) B.pre
  have ht : ∀ w ∈ tG, w.before args s = true := fun w h => hts w (List.mem_cons_of_mem _ h)
  have hown : s.vm.findClass RX7 = some m.cls := findClass_of_methodNamed B.named
  have hlocks := B.notSynchronized
  have hK := hE.1
  have hG := xE_G D q ad A
  have S : CallFix p m c cX7_drawn 2 s args tG RX7 := ⟨hx, hb, hml, hown, ht⟩
  have hS : va_S A s.heap s.heap [] := va_S.rf
  refine g_entry (vs := [.int x0, .int x1]) hargs (Nat.le_of_ble_eq_true rfl) (fun ls hl => ?_)
  have hl : lv_has ls 2 [(0, .int x0), (1, .int x1)] := hl
  unfold pX7_drawn at h
  refine lv_iload_n hx hb dX7_drawn_0 rfl (lv_at hl 1 rfl) ?_
  refine lv_if_le (tgt := 17) hx hb dX7_drawn_1 (by decide) (fun c1 => ?_) (fun c1 => ?_)
  · have h := h.1 c1
    refine lv_iconst (v := (0 : Int32)) hx hb dX7_drawn_17 (by decide) ?_
    exact g_ri hG hx hb hr hlocks hE hP hS h dX7_drawn_18
  · have h := h.2 c1
    refine lv_iload_n hx hb dX7_drawn_4 rfl (lv_at hl 0 rfl) ?_
    refine lv_bipush (v := (16 : Int32)) hx hb dX7_drawn_5 (by decide) ?_
    refine lv_iushr hx hb dX7_drawn_7 rfl ?_
    refine lv_sipush (v := (32767 : Int32)) hx hb dX7_drawn_8 (by decide) ?_
    refine lv_iand hx hb dX7_drawn_11 ?_
    refine lv_iload_n hx hb dX7_drawn_12 rfl (lv_at hl 1 rfl) ?_
    have hd13 := h.1
    have h := h.2
    refine lv_irem hx hb dX7_drawn_13 hd13 ?_
    refine lv_goto (tgt := 18) hx hb dX7_drawn_14 (by decide) ?_
    exact g_ri hG hx hb hr hlocks hE hP hS h dX7_drawn_18
def pX7_drift_b123 (rec43 : MX → Int32 → Int32 → Int32 → Int32 → Int32 → Int32 → Prop) (post : Int32 → MX → Prop) (z : MX) (x2 : Int32) (x3 : Int32) (x5 : Int32) (x6 : Int32) (x7 : Int32) (y0 : Int32) (y1 : Int32) : Prop :=
    ∀ x4_124 : Int32, x4_124 = y0 + y1 →
    ∀ x5_136 : Int32, x5_136 = x5 + (z.1 26 8) →
    ∀ x7_138 : Int32, x7_138 = x7 + (1 : Int32) →
    rec43 z x2 x3 x4_124 x5_136 x6 x7_138
def pX7_drift_l43 (rec43 : MX → Int32 → Int32 → Int32 → Int32 → Int32 → Int32 → Prop) (post : Int32 → MX → Prop) (z : MX) (x2 : Int32) (x3 : Int32) (x4 : Int32) (x5 : Int32) (x6 : Int32) (x7 : Int32) : Prop :=
    ((x2 ≤ x7 →
      ((¬ x3 = 0 →
        post x5 z) ∧
      (x3 = 0 →
        post x4 z))) ∧
    (¬ x2 ≤ x7 →
      pX7_nextSeed z x6 (fun (r51 : Int32) (z51 : MX) =>
      pX7_drawn z51 r51 (z51.1 (4 * 0) 0) (fun (r65 : Int32) (z65 : MX) =>
      pX7_nextSeed z65 r51 (fun (r72 : Int32) (z72 : MX) =>
      pX7_drawn z72 r72 (5 : Int32) (fun (r86 : Int32) (z86 : MX) =>
      pX0_tryToHang 1 z86 r65 r86 (fun (r89 : Int32) (z89 : MX) =>
      pX2_play 1 z89 (fun (z101 : MX) =>
      ((¬ (z101.1 26 5) = (-4 : Int32) →
        pX7_drift_b123  rec43 post z101 x2 x3 x5 r72 x7 x4 (1 : Int32)) ∧
      ((z101.1 26 5) = (-4 : Int32) →
        pX7_drift_b123  rec43 post z101 x2 x3 x5 r72 x7 x4 (0 : Int32)))))))))))
def pX7_drift_L43 (post : Int32 → MX → Prop) : Nat → MX → Int32 → Int32 → Int32 → Int32 → Int32 → Int32 → Prop
  | 0 => fun _ _ _ _ _ _ _ => False
  | n + 1 => fun z x2 x3 x4 x5 x6 x7 => pX7_drift_l43  (pX7_drift_L43  post n) post z x2 x3 x4 x5 x6 x7
def pX7_drift (z : MX) (x1 : Int32) (x2 : Int32) (x3 : Int32) (post : Int32 → MX → Prop) : Prop :=
  ((x2 < (1 : Int32) →
    post (-1 : Int32) z) ∧
  (¬ x2 < (1 : Int32) →
    (((20 : Int32) < x2 →
      post (-1 : Int32) z) ∧
    (¬ (20 : Int32) < x2 →
      pX7_isZeroOrOne z x3 (fun (r12 : Int32) (z12 : MX) =>
      ((¬ r12 = 0 →
        pX0_copyFrom 1 0 z12 (fun (z28 : MX) =>
        ∃ n, pX7_drift_L43  post n z28 x2 x3 (0 : Int32) (0 : Int32) x1 (0 : Int32))) ∧
      (r12 = 0 →
        post (-1 : Int32) z12)))))))
set_option maxHeartbeats 4000000 in
set_option maxRecDepth 100000 in
theorem kX7_drift (l : Launch) (D : va_G) (q : Nat → ClassId) (ad : Nat → Nat) (A : Nat → Prop) (hD : ∀ z, va_D A (WX q ad z)) (z : MX) (x1 : Int32) (x2 : Int32) (x3 : Int32) (post : Int32 → MX → Prop) (h : pX7_drift  z x1 x2 x3 post) : Met l yX7_drift (cW yX7_drift cX7_drift 9 (some .int)) ({ frames := 5, cells := 0, slots := 0, locals := 121 } : Room) (va_Pc [.ref (ad 38), .int x1, .int x2, .int x3] ((gB D vwCl (WX q ad) (xE D q ad A)) z)) (va_Qi post (gB D vwCl (WX q ad) (xE D q ad A)) A) 0 0 A := by
  refine Met.ofW (cc := cX7_drift) (maxL := 9) (ret := (some .int)) (by decide) rfl ?_
  intro p e s m args below meth c s₁ B hml hv
  obtain ⟨hargs, hP, hE⟩ := hv
  have hx := B.exec
  have hb := B.bytes
  have hr := B.returns
  have hts := atoms_spec (ws := (cW yX7_drift cX7_drift 9 (some .int))) B.pre
  have ht : ∀ w ∈ tG, w.before args s = true := fun w h => hts w (List.mem_cons_of_mem _ h)
  have hown : s.vm.findClass RX7 = some m.cls := findClass_of_methodNamed B.named
  have hlocks := B.notSynchronized
  have hK := hE.1
  have hG := xE_G D q ad A
  have S : CallFix p m c cX7_drift 9 s args tG RX7 := ⟨hx, hb, hml, hown, ht⟩
  have hS : va_S A s.heap s.heap [] := va_S.rf
  have B123 : ∀ (rec43 : MX → Int32 → Int32 → Int32 → Int32 → Int32 → Int32 → Prop) (hrec43 : ∀ (z : MX) (x2 : Int32) (x3 : Int32) (x4 : Int32) (x5 : Int32) (x6 : Int32) (x7 : Int32) (H : Heap) (locs : List Loc) (ls : Array Slot), rec43 z x2 x3 x4 x5 x6 x7 → va_P D vwCl (WX q ad z) H → va_S A s.heap H locs → lv_has ls 9 [(0, .ref (ad 38)), (2, .int x2), (3, .int x3), (4, .int x4), (5, .int x5), (6, .int x6), (7, .int x7)] → W p l e (headSpec (cW yX7_drift cX7_drift 9 (some .int)) ({ frames := 5, cells := 0, slots := 0, locals := 121 } : Room)).room s m args below meth c H locs 0 0 (MQ below (va_Qi post (gB D vwCl (WX q ad) (xE D q ad A)) A) args s 0 0 A) (F0 m 43 ls [])) (z : MX) (x2 : Int32) (x3 : Int32) (x5 : Int32) (x6 : Int32) (x7 : Int32) (y0 : Int32) (y1 : Int32) (H : Heap) (locs : List Loc) (ls : Array Slot), pX7_drift_b123  rec43 post z x2 x3 x5 x6 x7 y0 y1 → va_P D vwCl (WX q ad z) H → va_S A s.heap H locs → lv_has ls 9 [(0, .ref (ad 38)), (2, .int x2), (3, .int x3), (5, .int x5), (6, .int x6), (7, .int x7)] → W p l e (headSpec (cW yX7_drift cX7_drift 9 (some .int)) ({ frames := 5, cells := 0, slots := 0, locals := 121 } : Room)).room s m args below meth c H locs 0 0 (MQ below (va_Qi post (gB D vwCl (WX q ad) (xE D q ad A)) A) args s 0 0 A) (F0 m 123 ls [.int y1, .int y0]) := by
    intro rec43 hrec43 z x2 x3 x5 x6 x7 y0 y1 H locs ls h hP hS hl
    unfold pX7_drift_b123 at h
    refine lv_iadd hx hb dX7_drift_123 ?_
    refine lv_topi (fun x4_124 ex4_124 => ?_)
    have h := h x4_124 ex4_124
    refine lv_istore (lv' := [(4, .int x4_124), (0, .ref (ad 38)), (2, .int x2), (3, .int x3), (5, .int x5), (6, .int x6), (7, .int x7)]) hx hb dX7_drift_124 hl (by decide) rfl (fun ls hl => ?_)
    refine lv_iload hx hb dX7_drift_126 (lv_at hl 4 rfl) ?_
    refine lv_aload_n hx hb dX7_drift_128 rfl (lv_at hl 1 rfl) ?_
    refine va_get (D := D) (ci := 7) (v := .ref (ad 26)) (C := RX7) (T := TX7) (N := 12) hx hb ht tl_X7 hown hK hP 38 (wx_38 q ad z) rfl 3 (by decide) (ht _ tw_fl_X7_29) (fun _ h9 => h9) rfl dX7_drift_129 ?_
    refine va_get (D := D) (ci := 2) (v := .int (z.1 26 8)) (C := RX2) (T := TX2) (N := 13) hx hb ht tl_X2 hown hK hP 26 (wx_26 q ad z) rfl 8 (by decide) (ht _ tw_fl_X7_180) (fun _ h9 => h9) rfl dX7_drift_132 ?_
    refine lv_iadd hx hb dX7_drift_135 ?_
    refine lv_topi (fun x5_136 ex5_136 => ?_)
    have h := h x5_136 ex5_136
    refine lv_istore (lv' := [(5, .int x5_136), (4, .int x4_124), (0, .ref (ad 38)), (2, .int x2), (3, .int x3), (6, .int x6), (7, .int x7)]) hx hb dX7_drift_136 hl (by decide) rfl (fun ls hl => ?_)
    obtain ⟨x7_138, ex7_138⟩ : ∃ w : Int32, w = x7 + (1 : Int32) := ⟨_, rfl⟩
    have h := h x7_138 ex7_138
    refine lv_iinc (v := x7_138) (lv' := [(7, .int x7_138), (5, .int x5_136), (4, .int x4_124), (0, .ref (ad 38)), (2, .int x2), (3, .int x3), (6, .int x6)]) hx hb dX7_drift_138 hl (k := 6) rfl (by rw [ex7_138]; rfl) (by decide) rfl (fun ls hl => ?_)
    refine lv_goto (tgt := 43) hx hb dX7_drift_141 (by decide) ?_
    exact hrec43 z x2 x3 x4_124 x5_136 x6 x7_138 _ _ _ h hP hS (lv_sub hl [3, 4, 5, 2, 1, 6, 0] rfl)
  have B43 : ∀ (rec43 : MX → Int32 → Int32 → Int32 → Int32 → Int32 → Int32 → Prop) (hrec43 : ∀ (z : MX) (x2 : Int32) (x3 : Int32) (x4 : Int32) (x5 : Int32) (x6 : Int32) (x7 : Int32) (H : Heap) (locs : List Loc) (ls : Array Slot), rec43 z x2 x3 x4 x5 x6 x7 → va_P D vwCl (WX q ad z) H → va_S A s.heap H locs → lv_has ls 9 [(0, .ref (ad 38)), (2, .int x2), (3, .int x3), (4, .int x4), (5, .int x5), (6, .int x6), (7, .int x7)] → W p l e (headSpec (cW yX7_drift cX7_drift 9 (some .int)) ({ frames := 5, cells := 0, slots := 0, locals := 121 } : Room)).room s m args below meth c H locs 0 0 (MQ below (va_Qi post (gB D vwCl (WX q ad) (xE D q ad A)) A) args s 0 0 A) (F0 m 43 ls [])) (z : MX) (x2 : Int32) (x3 : Int32) (x4 : Int32) (x5 : Int32) (x6 : Int32) (x7 : Int32) (H : Heap) (locs : List Loc) (ls : Array Slot), pX7_drift_l43  rec43 post z x2 x3 x4 x5 x6 x7 → va_P D vwCl (WX q ad z) H → va_S A s.heap H locs → lv_has ls 9 [(0, .ref (ad 38)), (2, .int x2), (3, .int x3), (4, .int x4), (5, .int x5), (6, .int x6), (7, .int x7)] → W p l e (headSpec (cW yX7_drift cX7_drift 9 (some .int)) ({ frames := 5, cells := 0, slots := 0, locals := 121 } : Room)).room s m args below meth c H locs 0 0 (MQ below (va_Qi post (gB D vwCl (WX q ad) (xE D q ad A)) A) args s 0 0 A) (F0 m 43 ls []) := by
    intro rec43 hrec43 z x2 x3 x4 x5 x6 x7 H locs ls h hP hS hl
    unfold pX7_drift_l43 at h
    refine lv_iload hx hb dX7_drift_43 (lv_at hl 6 rfl) ?_
    refine lv_iload_n hx hb dX7_drift_45 rfl (lv_at hl 1 rfl) ?_
    refine lv_icmp_ge (tgt := 144) hx hb dX7_drift_46 (by decide) (fun c46 => ?_) (fun c46 => ?_)
    · have h := h.1 c46
      refine lv_iload_n hx hb dX7_drift_144 rfl (lv_at hl 2 rfl) ?_
      refine lv_if_ne (tgt := 153) hx hb dX7_drift_145 (by decide) (fun c145 => ?_) (fun c145 => ?_)
      · have h := h.1 c145
        refine lv_iload hx hb dX7_drift_153 (lv_at hl 4 rfl) ?_
        exact g_ri hG hx hb hr hlocks hE hP hS h dX7_drift_155
      · have h := h.2 c145
        refine lv_iload hx hb dX7_drift_148 (lv_at hl 3 rfl) ?_
        refine lv_goto (tgt := 155) hx hb dX7_drift_150 (by decide) ?_
        exact g_ri hG hx hb hr hlocks hE hP hS h dX7_drift_155
    · have h := h.2 c46
      refine lv_iload hx hb dX7_drift_49 (lv_at hl 5 rfl) ?_
      refine g_cSi (Wd := WX q ad) (z := z) (As := [.int x6]) (rest := []) hG S (kX7_nextSeed l D q ad A hD z x6 _ h) (va_cwS 1 ht (cW_S (fun _ h => h) tw_co_X7_nextSeed tw_ml_X7_269 tw_st_X7_nextSeed tw_in_X7) rfl rfl rfl (by decide +kernel) ⟨by decide, by decide⟩) hE hP hS rfl hl.1 rfl (Nat.le_of_ble_eq_true rfl) dX7_drift_51 ⟨Nat.zero_le _, Nat.zero_le _⟩ (fun r51 z51 H locs h hP hS => ?_)
      refine lv_istore (lv' := [(6, .int r51), (0, .ref (ad 38)), (2, .int x2), (3, .int x3), (4, .int x4), (5, .int x5), (7, .int x7)]) hx hb dX7_drift_54 hl (by decide) rfl (fun ls hl => ?_)
      refine lv_iload hx hb dX7_drift_56 (lv_at hl 0 rfl) ?_
      refine lv_aload_n hx hb dX7_drift_58 rfl (lv_at hl 1 rfl) ?_
      refine va_get (D := D) (ci := 7) (v := .ref (ad (4 * 0))) (C := RX7) (T := TX7) (N := 12) hx hb ht tl_X7 hown hK hP 38 (wx_38 q ad z51) rfl 0 (by decide) (ht _ tw_fl_X7_10) (fun _ h9 => h9) rfl dX7_drift_59 ?_
      refine va_get (D := D) (ci := 0) (v := .int (z51.1 (4 * 0) 0)) (C := RX0) (T := TX0) (N := 7) hx hb ht tl_X0 hown hK hP (4 * 0) (wxl q ad z51 (by decide)) rfl 0 (by decide) (ht _ tw_fl_X7_97) (fun _ h9 => h9) rfl dX7_drift_62 ?_
      refine g_cSi (Wd := WX q ad) (z := z51) (As := [.int r51, .int (z51.1 (4 * 0) 0)]) (rest := []) hG S (kX7_drawn l D q ad A hD z51 r51 (z51.1 (4 * 0) 0) _ h) (va_cwS 2 ht (cW_S (fun _ h => h) tw_co_X7_drawn tw_ml_X7_272 tw_st_X7_drawn tw_in_X7) rfl rfl rfl (by decide +kernel) ⟨by decide, by decide⟩) hE hP hS rfl hl.1 rfl (Nat.le_of_ble_eq_true rfl) dX7_drift_65 ⟨Nat.zero_le _, Nat.zero_le _⟩ (fun r65 z65 H locs h hP hS => ?_)
      refine lv_istore (lv' := [(8, .int r65), (6, .int r51), (0, .ref (ad 38)), (2, .int x2), (3, .int x3), (4, .int x4), (5, .int x5), (7, .int x7)]) hx hb dX7_drift_68 hl (by decide) rfl (fun ls hl => ?_)
      refine lv_iload hx hb dX7_drift_70 (lv_at hl 1 rfl) ?_
      refine g_cSi (Wd := WX q ad) (z := z65) (As := [.int r51]) (rest := []) hG S (kX7_nextSeed l D q ad A hD z65 r51 _ h) (va_cwS 1 ht (cW_S (fun _ h => h) tw_co_X7_nextSeed tw_ml_X7_269 tw_st_X7_nextSeed tw_in_X7) rfl rfl rfl (by decide +kernel) ⟨by decide, by decide⟩) hE hP hS rfl hl.1 rfl (Nat.le_of_ble_eq_true rfl) dX7_drift_72 ⟨Nat.zero_le _, Nat.zero_le _⟩ (fun r72 z72 H locs h hP hS => ?_)
      refine lv_istore (lv' := [(6, .int r72), (8, .int r65), (0, .ref (ad 38)), (2, .int x2), (3, .int x3), (4, .int x4), (5, .int x5), (7, .int x7)]) hx hb dX7_drift_75 hl (by decide) rfl (fun ls hl => ?_)
      refine lv_aload_n hx hb dX7_drift_77 rfl (lv_at hl 2 rfl) ?_
      refine va_get (D := D) (ci := 7) (v := .ref (ad (4 * 1))) (C := RX7) (T := TX7) (N := 12) hx hb ht tl_X7 hown hK hP 38 (wx_38 q ad z72) rfl 1 (by decide) (ht _ tw_fl_X7_16) (fun _ h9 => h9) rfl dX7_drift_78 ?_
      refine lv_iload hx hb dX7_drift_81 (lv_at hl 1 rfl) ?_
      refine lv_iload hx hb dX7_drift_83 (lv_at hl 0 rfl) ?_
      refine lv_iconst (v := (5 : Int32)) hx hb dX7_drift_85 (by decide) ?_
      refine g_cSi (Wd := WX q ad) (z := z72) (As := [.int r72, .int (5 : Int32)]) (rest := [.int r65, .ref (ad (4 * 1))]) hG S (kX7_drawn l D q ad A hD z72 r72 (5 : Int32) _ h) (va_cwS 2 ht (cW_S (fun _ h => h) tw_co_X7_drawn tw_ml_X7_272 tw_st_X7_drawn tw_in_X7) rfl rfl rfl (by decide +kernel) ⟨by decide, by decide⟩) hE hP hS rfl hl.1 rfl (Nat.le_of_ble_eq_true rfl) dX7_drift_86 ⟨Nat.zero_le _, Nat.zero_le _⟩ (fun r86 z86 H locs h hP hS => ?_)
      refine g_cVi (Wd := WX q ad) (z := z86) (As := [.int r65, .int r86]) (rest := []) hG S (kX0_tryToHang l D q ad A hD 1 (by decide) z86 r65 r86 _ h) (cwV 2 ht (cW_V (fun _ h => h) tw_co_X0_tryToHang tw_ml_X7_149 tw_im_X0_tryToHang tw_se_X0_tryToHang tw_in_X0) rfl rfl rfl (by decide +kernel) ⟨by decide, by decide⟩) (va_recv hK hP (ci := 0) (q0 := (4 * 1)) rfl (wxl q ad z86 (by decide))) hE hP hS rfl hl.1 rfl (Nat.le_of_ble_eq_true rfl) dX7_drift_89 ⟨Nat.zero_le _, Nat.zero_le _⟩ (fun r89 z89 H locs h hP hS => ?_)
      refine lv_pop hx hb dX7_drift_92 rfl ?_
      refine lv_aload_n hx hb dX7_drift_93 rfl (lv_at hl 2 rfl) ?_
      refine va_get (D := D) (ci := 7) (v := .ref (ad 26)) (C := RX7) (T := TX7) (N := 12) hx hb ht tl_X7 hown hK hP 38 (wx_38 q ad z89) rfl 3 (by decide) (ht _ tw_fl_X7_29) (fun _ h9 => h9) rfl dX7_drift_94 ?_
      refine lv_aload_n hx hb dX7_drift_97 rfl (lv_at hl 2 rfl) ?_
      refine va_get (D := D) (ci := 7) (v := .ref (ad (4 * 1))) (C := RX7) (T := TX7) (N := 12) hx hb ht tl_X7 hown hK hP 38 (wx_38 q ad z89) rfl 1 (by decide) (ht _ tw_fl_X7_16) (fun _ h9 => h9) rfl dX7_drift_98 ?_
      refine g_cVv (Wd := WX q ad) (z := z89) (As := [.ref (ad (4 * 1))]) (rest := []) hG S (kX2_play l D q ad A hD 1 (by decide) z89 _ h) (cwV 1 ht (cW_V (fun _ h => h) tw_co_X2_play tw_ml_X7_159 tw_im_X2_play tw_se_X2_play tw_in_X2) rfl rfl rfl (by decide +kernel) ⟨by decide, by decide⟩) (va_recv hK hP (ci := 2) (q0 := 26) rfl (wx_26 q ad z89)) hE hP hS rfl hl.1 rfl (Nat.le_of_ble_eq_true rfl) dX7_drift_101 ⟨Nat.zero_le _, Nat.zero_le _⟩ (fun z101 H locs h hP hS => ?_)
      refine lv_iload hx hb dX7_drift_104 (lv_at hl 5 rfl) ?_
      refine lv_aload_n hx hb dX7_drift_106 rfl (lv_at hl 2 rfl) ?_
      refine va_get (D := D) (ci := 7) (v := .ref (ad 26)) (C := RX7) (T := TX7) (N := 12) hx hb ht tl_X7 hown hK hP 38 (wx_38 q ad z101) rfl 3 (by decide) (ht _ tw_fl_X7_29) (fun _ h9 => h9) rfl dX7_drift_107 ?_
      refine va_get (D := D) (ci := 2) (v := .int (z101.1 26 5)) (C := RX2) (T := TX2) (N := 13) hx hb ht tl_X2 hown hK hP 26 (wx_26 q ad z101) rfl 5 (by decide) (ht _ tw_fl_X7_171) (fun _ h9 => h9) rfl dX7_drift_110 ?_
      refine lv_bipush (v := (-4 : Int32)) hx hb dX7_drift_113 (by decide) ?_
      refine lv_icmp_ne (tgt := 122) hx hb dX7_drift_115 (by decide) (fun c115 => ?_) (fun c115 => ?_)
      · have h := h.1 c115
        refine lv_iconst (v := (1 : Int32)) hx hb dX7_drift_122 (by decide) ?_
        exact B123 rec43 hrec43 z101 x2 x3 x5 r72 x7 x4 (1 : Int32) _ _ _ h hP hS (lv_sub hl [2, 3, 4, 6, 0, 7] rfl)
      · have h := h.2 c115
        refine lv_iconst (v := (0 : Int32)) hx hb dX7_drift_118 (by decide) ?_
        refine lv_goto (tgt := 123) hx hb dX7_drift_119 (by decide) ?_
        exact B123 rec43 hrec43 z101 x2 x3 x5 r72 x7 x4 (0 : Int32) _ _ _ h hP hS (lv_sub hl [2, 3, 4, 6, 0, 7] rfl)
  have L43 : ∀ (n : Nat) (z : MX) (x2 : Int32) (x3 : Int32) (x4 : Int32) (x5 : Int32) (x6 : Int32) (x7 : Int32) (H : Heap) (locs : List Loc) (ls : Array Slot), pX7_drift_L43  post n z x2 x3 x4 x5 x6 x7 → va_P D vwCl (WX q ad z) H → va_S A s.heap H locs → lv_has ls 9 [(0, .ref (ad 38)), (2, .int x2), (3, .int x3), (4, .int x4), (5, .int x5), (6, .int x6), (7, .int x7)] → W p l e (headSpec (cW yX7_drift cX7_drift 9 (some .int)) ({ frames := 5, cells := 0, slots := 0, locals := 121 } : Room)).room s m args below meth c H locs 0 0 (MQ below (va_Qi post (gB D vwCl (WX q ad) (xE D q ad A)) A) args s 0 0 A) (F0 m 43 ls []) := by
    intro n
    induction n with
    | zero =>
      intro z x2 x3 x4 x5 x6 x7 H locs ls h
      exact False.elim h
    | succ n ih =>
      intro z x2 x3 x4 x5 x6 x7 H locs ls h hP hS hl
      exact B43 (pX7_drift_L43  post n) ih z x2 x3 x4 x5 x6 x7 H locs ls h hP hS hl
  refine g_entry (vs := [.ref (ad 38), .int x1, .int x2, .int x3]) hargs (Nat.le_of_ble_eq_true rfl) (fun ls hl => ?_)
  have hl : lv_has ls 9 [(0, .ref (ad 38)), (1, .int x1), (2, .int x2), (3, .int x3)] := hl
  unfold pX7_drift at h
  refine lv_iload_n hx hb dX7_drift_0 rfl (lv_at hl 2 rfl) ?_
  refine lv_iconst (v := (1 : Int32)) hx hb dX7_drift_1 (by decide) ?_
  refine lv_icmp_lt (tgt := 18) hx hb dX7_drift_2 (by decide) (fun c2 => ?_) (fun c2 => ?_)
  · have h := h.1 c2
    refine lv_iconst (v := (-1 : Int32)) hx hb dX7_drift_18 (by decide) ?_
    exact g_ri hG hx hb hr hlocks hE hP hS h dX7_drift_19
  · have h := h.2 c2
    refine lv_iload_n hx hb dX7_drift_5 rfl (lv_at hl 2 rfl) ?_
    refine lv_bipush (v := (20 : Int32)) hx hb dX7_drift_6 (by decide) ?_
    refine lv_icmp_gt (tgt := 18) hx hb dX7_drift_8 (by decide) (fun c8 => ?_) (fun c8 => ?_)
    · have h := h.1 c8
      refine lv_iconst (v := (-1 : Int32)) hx hb dX7_drift_18 (by decide) ?_
      exact g_ri hG hx hb hr hlocks hE hP hS h dX7_drift_19
    · have h := h.2 c8
      refine lv_iload_n hx hb dX7_drift_11 rfl (lv_at hl 3 rfl) ?_
      refine g_cSi (Wd := WX q ad) (z := z) (As := [.int x3]) (rest := []) hG S (kX7_isZeroOrOne l D q ad A hD z x3 _ h) (va_cwS 1 ht (cW_S (fun _ h => h) tw_co_X7_isZeroOrOne tw_ml_X7_195 tw_st_X7_isZeroOrOne tw_in_X7) rfl rfl rfl (by decide +kernel) ⟨by decide, by decide⟩) hE hP hS rfl hl.1 rfl (Nat.le_of_ble_eq_true rfl) dX7_drift_12 ⟨Nat.zero_le _, Nat.zero_le _⟩ (fun r12 z12 H locs h hP hS => ?_)
      refine lv_if_ne (tgt := 20) hx hb dX7_drift_15 (by decide) (fun c15 => ?_) (fun c15 => ?_)
      · have h := h.1 c15
        refine lv_aload_n hx hb dX7_drift_20 rfl (lv_at hl 0 rfl) ?_
        refine va_get (D := D) (ci := 7) (v := .ref (ad (4 * 1))) (C := RX7) (T := TX7) (N := 12) hx hb ht tl_X7 hown hK hP 38 (wx_38 q ad z12) rfl 1 (by decide) (ht _ tw_fl_X7_16) (fun _ h9 => h9) rfl dX7_drift_21 ?_
        refine lv_aload_n hx hb dX7_drift_24 rfl (lv_at hl 0 rfl) ?_
        refine va_get (D := D) (ci := 7) (v := .ref (ad (4 * 0))) (C := RX7) (T := TX7) (N := 12) hx hb ht tl_X7 hown hK hP 38 (wx_38 q ad z12) rfl 0 (by decide) (ht _ tw_fl_X7_10) (fun _ h9 => h9) rfl dX7_drift_25 ?_
        refine g_cVv (Wd := WX q ad) (z := z12) (As := [.ref (ad (4 * 0))]) (rest := []) hG S (kX0_copyFrom l D q ad A hD 1 (by decide) 0 (by decide) z12 _ h) (cwV 1 ht (cW_V (fun _ h => h) tw_co_X0_copyFrom tw_ml_X7_92 tw_im_X0_copyFrom tw_se_X0_copyFrom tw_in_X0) rfl rfl rfl (by decide +kernel) ⟨by decide, by decide⟩) (va_recv hK hP (ci := 0) (q0 := (4 * 1)) rfl (wxl q ad z12 (by decide))) hE hP hS rfl hl.1 rfl (Nat.le_of_ble_eq_true rfl) dX7_drift_28 ⟨Nat.zero_le _, Nat.zero_le _⟩ (fun z28 H locs h hP hS => ?_)
        refine lv_iconst (v := (0 : Int32)) hx hb dX7_drift_31 (by decide) ?_
        refine lv_istore (lv' := [(4, .int (0 : Int32)), (0, .ref (ad 38)), (1, .int x1), (2, .int x2), (3, .int x3)]) hx hb dX7_drift_32 hl (by decide) rfl (fun ls hl => ?_)
        refine lv_iconst (v := (0 : Int32)) hx hb dX7_drift_34 (by decide) ?_
        refine lv_istore (lv' := [(5, .int (0 : Int32)), (4, .int (0 : Int32)), (0, .ref (ad 38)), (1, .int x1), (2, .int x2), (3, .int x3)]) hx hb dX7_drift_35 hl (by decide) rfl (fun ls hl => ?_)
        refine lv_iload_n hx hb dX7_drift_37 rfl (lv_at hl 3 rfl) ?_
        refine lv_istore (lv' := [(6, .int x1), (5, .int (0 : Int32)), (4, .int (0 : Int32)), (0, .ref (ad 38)), (1, .int x1), (2, .int x2), (3, .int x3)]) hx hb dX7_drift_38 hl (by decide) rfl (fun ls hl => ?_)
        refine lv_iconst (v := (0 : Int32)) hx hb dX7_drift_40 (by decide) ?_
        refine lv_istore (lv' := [(7, .int (0 : Int32)), (6, .int x1), (5, .int (0 : Int32)), (4, .int (0 : Int32)), (0, .ref (ad 38)), (1, .int x1), (2, .int x2), (3, .int x3)]) hx hb dX7_drift_41 hl (by decide) rfl (fun ls hl => ?_)
        obtain ⟨n, h⟩ := h
        exact L43 n z28 x2 x3 (0 : Int32) (0 : Int32) x1 (0 : Int32) _ _ _ h hP hS (lv_sub hl [4, 6, 7, 3, 2, 1, 0] rfl)
      · have h := h.2 c15
        refine lv_iconst (v := (-1 : Int32)) hx hb dX7_drift_18 (by decide) ?_
        exact g_ri hG hx hb hr hlocks hE hP hS h dX7_drift_19
def pX7_keep_b25 (post : Int32 → MX → Prop) (z : MX) (x1 : Int32) (y0 : Int32) : Prop :=
    vp_in x1 2 ∧
    pX0_copyFrom (2 + (Int32.toNatClampNeg x1)) 0 z (fun (z36 : MX) =>
    vp_in x1 2 ∧
    ((1 : Int32) = 0 ∨ (1 : Int32) = 1) ∧
    ∀ z45 : MX, z45 = mw z36 40 (Int32.toNatClampNeg x1) (1 : Int32) →
    post y0 z45)
def pX7_keep (z : MX) (x1 : Int32) (post : Int32 → MX → Prop) : Prop :=
  ((x1 < 0 →
    post (-1 : Int32) z) ∧
  (¬ x1 < 0 →
    ((x1 < (2 : Int32) →
      vp_in x1 2 ∧
      (((z.1 40 (Int32.toNatClampNeg x1)) = 0 →
        pX7_keep_b25  post z x1 (0 : Int32)) ∧
      (¬ (z.1 40 (Int32.toNatClampNeg x1)) = 0 →
        pX7_keep_b25  post z x1 (1 : Int32)))) ∧
    (¬ x1 < (2 : Int32) →
      post (-1 : Int32) z))))
set_option maxHeartbeats 4000000 in
set_option maxRecDepth 100000 in
theorem kX7_keep (l : Launch) (D : va_G) (q : Nat → ClassId) (ad : Nat → Nat) (A : Nat → Prop) (hD : ∀ z, va_D A (WX q ad z)) (z : MX) (x1 : Int32) (post : Int32 → MX → Prop) (h : pX7_keep  z x1 post) : Met l yX7_keep (cW yX7_keep cX7_keep 3 (some .int)) ({ frames := 2, cells := 0, slots := 0, locals := 47 } : Room) (va_Pc [.ref (ad 38), .int x1] ((gB D vwCl (WX q ad) (xE D q ad A)) z)) (va_Qi post (gB D vwCl (WX q ad) (xE D q ad A)) A) 0 0 A := by
  refine Met.ofW (cc := cX7_keep) (maxL := 3) (ret := (some .int)) (by decide) rfl ?_
  intro p e s m args below meth c s₁ B hml hv
  obtain ⟨hargs, hP, hE⟩ := hv
  have hx := B.exec
  have hb := B.bytes
  have hr := B.returns
  have hts := atoms_spec (ws := (cW yX7_keep cX7_keep 3 (some .int))) B.pre
  have ht : ∀ w ∈ tG, w.before args s = true := fun w h => hts w (List.mem_cons_of_mem _ h)
  have hown : s.vm.findClass RX7 = some m.cls := findClass_of_methodNamed B.named
  have hlocks := B.notSynchronized
  have hK := hE.1
  have hG := xE_G D q ad A
  have S : CallFix p m c cX7_keep 3 s args tG RX7 := ⟨hx, hb, hml, hown, ht⟩
  have hS : va_S A s.heap s.heap [] := va_S.rf
  have B25 : ∀ (z : MX) (x1 : Int32) (y0 : Int32) (H : Heap) (locs : List Loc) (ls : Array Slot), pX7_keep_b25  post z x1 y0 → va_P D vwCl (WX q ad z) H → va_S A s.heap H locs → lv_has ls 3 [(0, .ref (ad 38)), (1, .int x1)] → W p l e (headSpec (cW yX7_keep cX7_keep 3 (some .int)) ({ frames := 2, cells := 0, slots := 0, locals := 47 } : Room)).room s m args below meth c H locs 0 0 (MQ below (va_Qi post (gB D vwCl (WX q ad) (xE D q ad A)) A) args s 0 0 A) (F0 m 25 ls [.int y0]) := by
    intro z x1 y0 H locs ls h hP hS hl
    unfold pX7_keep_b25 at h
    refine lv_istore_n (lv' := [(2, .int y0), (0, .ref (ad 38)), (1, .int x1)]) hx hb dX7_keep_25 rfl hl (by decide) rfl (fun ls hl => ?_)
    refine lv_aload_n hx hb dX7_keep_26 rfl (lv_at hl 1 rfl) ?_
    refine va_get (D := D) (ci := 7) (v := .ref (ad 39)) (C := RX7) (T := TX7) (N := 12) hx hb ht tl_X7 hown hK hP 38 (wx_38 q ad z) rfl 7 (by decide) (ht _ tw_fl_X7_56) (fun _ h9 => h9) rfl dX7_keep_27 ?_
    refine lv_iload_n hx hb dX7_keep_30 rfl (lv_at hl 2 rfl) ?_
    have hi31 := h.1
    have h := h.2
    refine va_aldq hx hb hK hP 39 2 (wx_39 q ad z) rfl hi31 dX7_keep_31 ?_
    refine W.eq (g2 := F0 m 32 ls [.ref (ad (4 * (2 + (Int32.toNatClampNeg x1))))]) rfl ?_
    refine lv_aload_n hx hb dX7_keep_32 rfl (lv_at hl 1 rfl) ?_
    refine va_get (D := D) (ci := 7) (v := .ref (ad (4 * 0))) (C := RX7) (T := TX7) (N := 12) hx hb ht tl_X7 hown hK hP 38 (wx_38 q ad z) rfl 0 (by decide) (ht _ tw_fl_X7_10) (fun _ h9 => h9) rfl dX7_keep_33 ?_
    refine g_cVv (Wd := WX q ad) (z := z) (As := [.ref (ad (4 * 0))]) (rest := []) hG S (kX0_copyFrom l D q ad A hD (2 + (Int32.toNatClampNeg x1)) (g_im hi31) 0 (by decide) z _ h) (cwV 1 ht (cW_V (fun _ h => h) tw_co_X0_copyFrom tw_ml_X7_92 tw_im_X0_copyFrom tw_se_X0_copyFrom tw_in_X0) rfl rfl rfl (by decide +kernel) ⟨by decide, by decide⟩) (va_recv hK hP (ci := 0) (q0 := (4 * (2 + (Int32.toNatClampNeg x1)))) rfl (wxl q ad z (g_im hi31))) hE hP hS rfl hl.1 rfl (Nat.le_of_ble_eq_true rfl) dX7_keep_36 ⟨Nat.zero_le _, Nat.zero_le _⟩ (fun z36 H locs h hP hS => ?_)
    refine lv_aload_n hx hb dX7_keep_39 rfl (lv_at hl 1 rfl) ?_
    refine va_get (D := D) (ci := 7) (v := .ref (ad 40)) (C := RX7) (T := TX7) (N := 12) hx hb ht tl_X7 hown hK hP 38 (wx_38 q ad z36) rfl 8 (by decide) (ht _ tw_fl_X7_60) (fun _ h9 => h9) rfl dX7_keep_40 ?_
    refine lv_iload_n hx hb dX7_keep_43 rfl (lv_at hl 2 rfl) ?_
    refine lv_iconst (v := (1 : Int32)) hx hb dX7_keep_44 (by decide) ?_
    have hi45 := h.1
    have h := h.2
    have hb45 := h.1
    have h := h.2
    refine g_zast (Wd := WX q ad) (z := z36) hx hb hK hP (hD z36) hS 40 (wx_40 q ad z36) rfl (ax_40 q ad z36) hi45 hb45 dX7_keep_45 (fun z45 H locs hz45 hP hS => ?_)
    have h := h z45 hz45
    refine lv_iload_n hx hb dX7_keep_46 rfl (lv_at hl 0 rfl) ?_
    exact g_ri hG hx hb hr hlocks hE hP hS h dX7_keep_47
  refine g_entry (vs := [.ref (ad 38), .int x1]) hargs (Nat.le_of_ble_eq_true rfl) (fun ls hl => ?_)
  have hl : lv_has ls 3 [(0, .ref (ad 38)), (1, .int x1)] := hl
  unfold pX7_keep at h
  refine lv_iload_n hx hb dX7_keep_0 rfl (lv_at hl 1 rfl) ?_
  refine lv_if_lt (tgt := 9) hx hb dX7_keep_1 (by decide) (fun c1 => ?_) (fun c1 => ?_)
  · have h := h.1 c1
    refine lv_iconst (v := (-1 : Int32)) hx hb dX7_keep_9 (by decide) ?_
    exact g_ri hG hx hb hr hlocks hE hP hS h dX7_keep_10
  · have h := h.2 c1
    refine lv_iload_n hx hb dX7_keep_4 rfl (lv_at hl 1 rfl) ?_
    refine lv_iconst (v := (2 : Int32)) hx hb dX7_keep_5 (by decide) ?_
    refine lv_icmp_lt (tgt := 11) hx hb dX7_keep_6 (by decide) (fun c6 => ?_) (fun c6 => ?_)
    · have h := h.1 c6
      refine lv_aload_n hx hb dX7_keep_11 rfl (lv_at hl 0 rfl) ?_
      refine va_get (D := D) (ci := 7) (v := .ref (ad 40)) (C := RX7) (T := TX7) (N := 12) hx hb ht tl_X7 hown hK hP 38 (wx_38 q ad z) rfl 8 (by decide) (ht _ tw_fl_X7_60) (fun _ h9 => h9) rfl dX7_keep_12 ?_
      refine lv_iload_n hx hb dX7_keep_15 rfl (lv_at hl 1 rfl) ?_
      have hi16 := h.1
      have h := h.2
      refine va_zald hx hb hK hP 40 1 (wx_40 q ad z) rfl hi16 dX7_keep_16 ?_
      refine lv_if_eq (tgt := 24) hx hb dX7_keep_17 (by decide) (fun c17 => ?_) (fun c17 => ?_)
      · have h := h.1 c17
        refine lv_iconst (v := (0 : Int32)) hx hb dX7_keep_24 (by decide) ?_
        exact B25 z x1 (0 : Int32) _ _ _ h hP hS (lv_sub hl [0, 1] rfl)
      · have h := h.2 c17
        refine lv_iconst (v := (1 : Int32)) hx hb dX7_keep_20 (by decide) ?_
        refine lv_goto (tgt := 25) hx hb dX7_keep_21 (by decide) ?_
        exact B25 z x1 (1 : Int32) _ _ _ h hP hS (lv_sub hl [0, 1] rfl)
    · have h := h.2 c6
      refine lv_iconst (v := (-1 : Int32)) hx hb dX7_keep_9 (by decide) ?_
      exact g_ri hG hx hb hr hlocks hE hP hS h dX7_keep_10
def pX7_back (z : MX) (x1 : Int32) (post : Int32 → MX → Prop) : Prop :=
  ((x1 < 0 →
    post (-1 : Int32) z) ∧
  (¬ x1 < 0 →
    ((x1 < (2 : Int32) →
      vp_in x1 2 ∧
      ((¬ (z.1 40 (Int32.toNatClampNeg x1)) = 0 →
        vp_in x1 2 ∧
        pX0_copyFrom 0 (2 + (Int32.toNatClampNeg x1)) z (fun (z33 : MX) =>
        pX0_omenBits 0 z33 (fun (r40 : Int32) (z40 : MX) =>
        pJ6_bitCount_0f7a4 z40 r40 (fun (r43 : Int32) (z43 : MX) =>
        post r43 z43)))) ∧
      ((z.1 40 (Int32.toNatClampNeg x1)) = 0 →
        post (-2 : Int32) z))) ∧
    (¬ x1 < (2 : Int32) →
      post (-1 : Int32) z))))
set_option maxHeartbeats 4000000 in
set_option maxRecDepth 100000 in
theorem kX7_back (l : Launch) (D : va_G) (q : Nat → ClassId) (ad : Nat → Nat) (A : Nat → Prop) (hD : ∀ z, va_D A (WX q ad z)) (z : MX) (x1 : Int32) (post : Int32 → MX → Prop) (h : pX7_back  z x1 post) : Met l yX7_back (cW yX7_back cX7_back 2 (some .int)) ({ frames := 2, cells := 0, slots := 0, locals := 47 } : Room) (va_Pc [.ref (ad 38), .int x1] ((gB D vwCl (WX q ad) (xE D q ad A)) z)) (va_Qi post (gB D vwCl (WX q ad) (xE D q ad A)) A) 0 0 A := by
  refine Met.ofW (cc := cX7_back) (maxL := 2) (ret := (some .int)) (by decide) rfl ?_
  intro p e s m args below meth c s₁ B hml hv
  obtain ⟨hargs, hP, hE⟩ := hv
  have hx := B.exec
  have hb := B.bytes
  have hr := B.returns
  have hts := atoms_spec (ws := (cW yX7_back cX7_back 2 (some .int))) B.pre
  have ht : ∀ w ∈ tG, w.before args s = true := fun w h => hts w (List.mem_cons_of_mem _ h)
  have hown : s.vm.findClass RX7 = some m.cls := findClass_of_methodNamed B.named
  have hlocks := B.notSynchronized
  have hK := hE.1
  have hG := xE_G D q ad A
  have S : CallFix p m c cX7_back 2 s args tG RX7 := ⟨hx, hb, hml, hown, ht⟩
  have hS : va_S A s.heap s.heap [] := va_S.rf
  refine g_entry (vs := [.ref (ad 38), .int x1]) hargs (Nat.le_of_ble_eq_true rfl) (fun ls hl => ?_)
  have hl : lv_has ls 2 [(0, .ref (ad 38)), (1, .int x1)] := hl
  unfold pX7_back at h
  refine lv_iload_n hx hb dX7_back_0 rfl (lv_at hl 1 rfl) ?_
  refine lv_if_lt (tgt := 9) hx hb dX7_back_1 (by decide) (fun c1 => ?_) (fun c1 => ?_)
  · have h := h.1 c1
    refine lv_iconst (v := (-1 : Int32)) hx hb dX7_back_9 (by decide) ?_
    exact g_ri hG hx hb hr hlocks hE hP hS h dX7_back_10
  · have h := h.2 c1
    refine lv_iload_n hx hb dX7_back_4 rfl (lv_at hl 1 rfl) ?_
    refine lv_iconst (v := (2 : Int32)) hx hb dX7_back_5 (by decide) ?_
    refine lv_icmp_lt (tgt := 11) hx hb dX7_back_6 (by decide) (fun c6 => ?_) (fun c6 => ?_)
    · have h := h.1 c6
      refine lv_aload_n hx hb dX7_back_11 rfl (lv_at hl 0 rfl) ?_
      refine va_get (D := D) (ci := 7) (v := .ref (ad 40)) (C := RX7) (T := TX7) (N := 12) hx hb ht tl_X7 hown hK hP 38 (wx_38 q ad z) rfl 8 (by decide) (ht _ tw_fl_X7_60) (fun _ h9 => h9) rfl dX7_back_12 ?_
      refine lv_iload_n hx hb dX7_back_15 rfl (lv_at hl 1 rfl) ?_
      have hi16 := h.1
      have h := h.2
      refine va_zald hx hb hK hP 40 1 (wx_40 q ad z) rfl hi16 dX7_back_16 ?_
      refine lv_if_ne (tgt := 23) hx hb dX7_back_17 (by decide) (fun c17 => ?_) (fun c17 => ?_)
      · have h := h.1 c17
        refine lv_aload_n hx hb dX7_back_23 rfl (lv_at hl 0 rfl) ?_
        refine va_get (D := D) (ci := 7) (v := .ref (ad (4 * 0))) (C := RX7) (T := TX7) (N := 12) hx hb ht tl_X7 hown hK hP 38 (wx_38 q ad z) rfl 0 (by decide) (ht _ tw_fl_X7_10) (fun _ h9 => h9) rfl dX7_back_24 ?_
        refine lv_aload_n hx hb dX7_back_27 rfl (lv_at hl 0 rfl) ?_
        refine va_get (D := D) (ci := 7) (v := .ref (ad 39)) (C := RX7) (T := TX7) (N := 12) hx hb ht tl_X7 hown hK hP 38 (wx_38 q ad z) rfl 7 (by decide) (ht _ tw_fl_X7_56) (fun _ h9 => h9) rfl dX7_back_28 ?_
        refine lv_iload_n hx hb dX7_back_31 rfl (lv_at hl 1 rfl) ?_
        have hi32 := h.1
        have h := h.2
        refine va_aldq hx hb hK hP 39 2 (wx_39 q ad z) rfl hi32 dX7_back_32 ?_
        refine W.eq (g2 := F0 m 33 ls [.ref (ad (4 * (2 + (Int32.toNatClampNeg x1)))), .ref (ad (4 * 0))]) rfl ?_
        refine g_cVv (Wd := WX q ad) (z := z) (As := [.ref (ad (4 * (2 + (Int32.toNatClampNeg x1))))]) (rest := []) hG S (kX0_copyFrom l D q ad A hD 0 (by decide) (2 + (Int32.toNatClampNeg x1)) (g_im hi32) z _ h) (cwV 1 ht (cW_V (fun _ h => h) tw_co_X0_copyFrom tw_ml_X7_92 tw_im_X0_copyFrom tw_se_X0_copyFrom tw_in_X0) rfl rfl rfl (by decide +kernel) ⟨by decide, by decide⟩) (va_recv hK hP (ci := 0) (q0 := (4 * 0)) rfl (wxl q ad z (by decide))) hE hP hS rfl hl.1 rfl (Nat.le_of_ble_eq_true rfl) dX7_back_33 ⟨Nat.zero_le _, Nat.zero_le _⟩ (fun z33 H locs h hP hS => ?_)
        refine lv_aload_n hx hb dX7_back_36 rfl (lv_at hl 0 rfl) ?_
        refine va_get (D := D) (ci := 7) (v := .ref (ad (4 * 0))) (C := RX7) (T := TX7) (N := 12) hx hb ht tl_X7 hown hK hP 38 (wx_38 q ad z33) rfl 0 (by decide) (ht _ tw_fl_X7_10) (fun _ h9 => h9) rfl dX7_back_37 ?_
        refine g_cVi (Wd := WX q ad) (z := z33) (As := []) (rest := []) hG S (kX0_omenBits l D q ad A hD 0 (by decide) z33 _ h) (cwV 0 ht (cW_V (fun _ h => h) tw_co_X0_omenBits tw_ml_X7_109 tw_im_X0_omenBits tw_se_X0_omenBits tw_in_X0) rfl rfl rfl (by decide +kernel) ⟨by decide, by decide⟩) (va_recv hK hP (ci := 0) (q0 := (4 * 0)) rfl (wxl q ad z33 (by decide))) hE hP hS rfl hl.1 rfl (Nat.le_of_ble_eq_true rfl) dX7_back_40 ⟨Nat.zero_le _, Nat.zero_le _⟩ (fun r40 z40 H locs h hP hS => ?_)
        refine g_cSi (Wd := WX q ad) (z := z40) (As := [.int r40]) (rest := []) hG S (kJ6_bitCount_0f7a4 l D q ad A hD z40 r40 _ h) (va_cwS 1 ht (cW_S (fun _ h => h) tw_co_J6_bitCount_0f7a4 tw_ml_X7_223 tw_st_J6_bitCount_0f7a4 tw_in_J6) rfl rfl rfl (by decide +kernel) ⟨by decide, by decide⟩) hE hP hS rfl hl.1 rfl (Nat.le_of_ble_eq_true rfl) dX7_back_43 ⟨Nat.zero_le _, Nat.zero_le _⟩ (fun r43 z43 H locs h hP hS => ?_)
        exact g_ri hG hx hb hr hlocks hE hP hS h dX7_back_46
      · have h := h.2 c17
        refine lv_bipush (v := (-2 : Int32)) hx hb dX7_back_20 (by decide) ?_
        exact g_ri hG hx hb hr hlocks hE hP hS h dX7_back_22
    · have h := h.2 c6
      refine lv_iconst (v := (-1 : Int32)) hx hb dX7_back_9 (by decide) ?_
      exact g_ri hG hx hb hr hlocks hE hP hS h dX7_back_10
def pX7_sheet (z : MX) (x1 : Int32) (x2 : Int32) (x3 : Int32) (post : Int32 → MX → Prop) : Prop :=
  pX7_isSheet z x1 (fun (r1 : Int32) (z1 : MX) =>
  ((r1 = 0 →
    post (-1 : Int32) z1) ∧
  (¬ r1 = 0 →
    pX7_isLane z1 x2 (fun (r8 : Int32) (z8 : MX) =>
    ((r8 = 0 →
      post (-1 : Int32) z8) ∧
    (¬ r8 = 0 →
      ((x3 ≤ (40 : Int32) →
        ((0 ≤ x3 →
          vp_in x1 4 ∧
          pX3_renew (Int32.toNatClampNeg x1) z8 x2 x3 (fun (z37 : MX) =>
          post (1 : Int32) z37)) ∧
        (¬ 0 ≤ x3 →
          post (-14 : Int32) z8))) ∧
      (¬ x3 ≤ (40 : Int32) →
        post (-1 : Int32) z8))))))))
set_option maxHeartbeats 4000000 in
set_option maxRecDepth 100000 in
theorem kX7_sheet (l : Launch) (D : va_G) (q : Nat → ClassId) (ad : Nat → Nat) (A : Nat → Prop) (hD : ∀ z, va_D A (WX q ad z)) (z : MX) (x1 : Int32) (x2 : Int32) (x3 : Int32) (post : Int32 → MX → Prop) (h : pX7_sheet  z x1 x2 x3 post) : Met l yX7_sheet (cW yX7_sheet cX7_sheet 4 (some .int)) ({ frames := 2, cells := 0, slots := 0, locals := 45 } : Room) (va_Pc [.ref (ad 38), .int x1, .int x2, .int x3] ((gB D vwCl (WX q ad) (xE D q ad A)) z)) (va_Qi post (gB D vwCl (WX q ad) (xE D q ad A)) A) 0 0 A := by
  refine Met.ofW (cc := cX7_sheet) (maxL := 4) (ret := (some .int)) (by decide) rfl ?_
  intro p e s m args below meth c s₁ B hml hv
  obtain ⟨hargs, hP, hE⟩ := hv
  have hx := B.exec
  have hb := B.bytes
  have hr := B.returns
  have hts := atoms_spec (ws := (cW yX7_sheet cX7_sheet 4 (some .int))) B.pre
  have ht : ∀ w ∈ tG, w.before args s = true := fun w h => hts w (List.mem_cons_of_mem _ h)
  have hown : s.vm.findClass RX7 = some m.cls := findClass_of_methodNamed B.named
  have hlocks := B.notSynchronized
  have hK := hE.1
  have hG := xE_G D q ad A
  have S : CallFix p m c cX7_sheet 4 s args tG RX7 := ⟨hx, hb, hml, hown, ht⟩
  have hS : va_S A s.heap s.heap [] := va_S.rf
  refine g_entry (vs := [.ref (ad 38), .int x1, .int x2, .int x3]) hargs (Nat.le_of_ble_eq_true rfl) (fun ls hl => ?_)
  have hl : lv_has ls 4 [(0, .ref (ad 38)), (1, .int x1), (2, .int x2), (3, .int x3)] := hl
  unfold pX7_sheet at h
  refine lv_iload_n hx hb dX7_sheet_0 rfl (lv_at hl 1 rfl) ?_
  refine g_cSi (Wd := WX q ad) (z := z) (As := [.int x1]) (rest := []) hG S (kX7_isSheet l D q ad A hD z x1 _ h) (va_cwS 1 ht (cW_S (fun _ h => h) tw_co_X7_isSheet tw_ml_X7_275 tw_st_X7_isSheet tw_in_X7) rfl rfl rfl (by decide +kernel) ⟨by decide, by decide⟩) hE hP hS rfl hl.1 rfl (Nat.le_of_ble_eq_true rfl) dX7_sheet_1 ⟨Nat.zero_le _, Nat.zero_le _⟩ (fun r1 z1 H locs h hP hS => ?_)
  refine lv_if_eq (tgt := 20) hx hb dX7_sheet_4 (by decide) (fun c4 => ?_) (fun c4 => ?_)
  · have h := h.1 c4
    refine lv_iconst (v := (-1 : Int32)) hx hb dX7_sheet_20 (by decide) ?_
    exact g_ri hG hx hb hr hlocks hE hP hS h dX7_sheet_21
  · have h := h.2 c4
    refine lv_iload_n hx hb dX7_sheet_7 rfl (lv_at hl 2 rfl) ?_
    refine g_cSi (Wd := WX q ad) (z := z1) (As := [.int x2]) (rest := []) hG S (kX7_isLane l D q ad A hD z1 x2 _ h) (va_cwS 1 ht (cW_S (fun _ h => h) tw_co_X7_isLane tw_ml_X7_278 tw_st_X7_isLane tw_in_X7) rfl rfl rfl (by decide +kernel) ⟨by decide, by decide⟩) hE hP hS rfl hl.1 rfl (Nat.le_of_ble_eq_true rfl) dX7_sheet_8 ⟨Nat.zero_le _, Nat.zero_le _⟩ (fun r8 z8 H locs h hP hS => ?_)
    refine lv_if_eq (tgt := 20) hx hb dX7_sheet_11 (by decide) (fun c11 => ?_) (fun c11 => ?_)
    · have h := h.1 c11
      refine lv_iconst (v := (-1 : Int32)) hx hb dX7_sheet_20 (by decide) ?_
      exact g_ri hG hx hb hr hlocks hE hP hS h dX7_sheet_21
    · have h := h.2 c11
      refine lv_iload_n hx hb dX7_sheet_14 rfl (lv_at hl 3 rfl) ?_
      refine lv_bipush (v := (40 : Int32)) hx hb dX7_sheet_15 (by decide) ?_
      refine lv_icmp_le (tgt := 22) hx hb dX7_sheet_17 (by decide) (fun c17 => ?_) (fun c17 => ?_)
      · have h := h.1 c17
        refine lv_iload_n hx hb dX7_sheet_22 rfl (lv_at hl 3 rfl) ?_
        refine lv_if_ge (tgt := 29) hx hb dX7_sheet_23 (by decide) (fun c23 => ?_) (fun c23 => ?_)
        · have h := h.1 c23
          refine lv_aload_n hx hb dX7_sheet_29 rfl (lv_at hl 0 rfl) ?_
          refine va_get (D := D) (ci := 7) (v := .ref (ad 41)) (C := RX7) (T := TX7) (N := 12) hx hb ht tl_X7 hown hK hP 38 (wx_38 q ad z8) rfl 9 (by decide) (ht _ tw_fl_X7_66) (fun _ h9 => h9) rfl dX7_sheet_30 ?_
          refine lv_iload_n hx hb dX7_sheet_33 rfl (lv_at hl 1 rfl) ?_
          have hi34 := h.1
          have h := h.2
          refine va_aldq hx hb hK hP 41 3 (wx_41 q ad z8) rfl hi34 dX7_sheet_34 ?_
          refine W.eq (g2 := F0 m 35 ls [.ref (ad (16 + 2 * (Int32.toNatClampNeg x1)))]) rfl ?_
          refine lv_iload_n hx hb dX7_sheet_35 rfl (lv_at hl 2 rfl) ?_
          refine lv_iload_n hx hb dX7_sheet_36 rfl (lv_at hl 3 rfl) ?_
          refine g_cVv (Wd := WX q ad) (z := z8) (As := [.int x2, .int x3]) (rest := []) hG S (kX3_renew l D q ad A hD (Int32.toNatClampNeg x1) (g_sh hi34) z8 x2 x3 _ h) (cwV 2 ht (cW_V (fun _ h => h) tw_co_X3_renew tw_ml_X7_281 tw_im_X3_renew tw_se_X3_renew tw_in_X3) rfl rfl rfl (by decide +kernel) ⟨by decide, by decide⟩) (va_recv hK hP (ci := 3) (q0 := (16 + 2 * (Int32.toNatClampNeg x1))) rfl (wxs q ad z8 (g_sh hi34))) hE hP hS rfl hl.1 rfl (Nat.le_of_ble_eq_true rfl) dX7_sheet_37 ⟨Nat.zero_le _, Nat.zero_le _⟩ (fun z37 H locs h hP hS => ?_)
          refine lv_iconst (v := (1 : Int32)) hx hb dX7_sheet_40 (by decide) ?_
          exact g_ri hG hx hb hr hlocks hE hP hS h dX7_sheet_41
        · have h := h.2 c23
          refine lv_bipush (v := (-14 : Int32)) hx hb dX7_sheet_26 (by decide) ?_
          exact g_ri hG hx hb hr hlocks hE hP hS h dX7_sheet_28
      · have h := h.2 c17
        refine lv_iconst (v := (-1 : Int32)) hx hb dX7_sheet_20 (by decide) ?_
        exact g_ri hG hx hb hr hlocks hE hP hS h dX7_sheet_21
def pX7_lay (z : MX) (x1 : Int32) (x2 : Int32) (x3 : Int32) (post : Int32 → MX → Prop) : Prop :=
  pX7_isSheet z x1 (fun (r1 : Int32) (z1 : MX) =>
  ((¬ r1 = 0 →
    vp_in x1 4 ∧
    vp_in x1 4 ∧
    pX3_faultAt (Int32.toNatClampNeg x1) z1 (z1.1 (16 + 2 * (Int32.toNatClampNeg x1)) 1) x2 (fun (r25 : Int32) (z25 : MX) =>
    ((r25 = 0 →
      vp_in x1 4 ∧
      pX3_put (Int32.toNatClampNeg x1) z25 x2 x3 (fun (z49 : MX) =>
      post (1 : Int32) z49)) ∧
    (¬ r25 = 0 →
      post ((-10 : Int32) - r25) z25)))) ∧
  (r1 = 0 →
    post (-1 : Int32) z1)))
set_option maxHeartbeats 4000000 in
set_option maxRecDepth 100000 in
theorem kX7_lay (l : Launch) (D : va_G) (q : Nat → ClassId) (ad : Nat → Nat) (A : Nat → Prop) (hD : ∀ z, va_D A (WX q ad z)) (z : MX) (x1 : Int32) (x2 : Int32) (x3 : Int32) (post : Int32 → MX → Prop) (h : pX7_lay  z x1 x2 x3 post) : Met l yX7_lay (cW yX7_lay cX7_lay 5 (some .int)) ({ frames := 2, cells := 0, slots := 0, locals := 42 } : Room) (va_Pc [.ref (ad 38), .int x1, .int x2, .int x3] ((gB D vwCl (WX q ad) (xE D q ad A)) z)) (va_Qi post (gB D vwCl (WX q ad) (xE D q ad A)) A) 0 0 A := by
  refine Met.ofW (cc := cX7_lay) (maxL := 5) (ret := (some .int)) (by decide) rfl ?_
  intro p e s m args below meth c s₁ B hml hv
  obtain ⟨hargs, hP, hE⟩ := hv
  have hx := B.exec
  have hb := B.bytes
  have hr := B.returns
  have hts := atoms_spec (ws := (cW yX7_lay cX7_lay 5 (some .int))) B.pre
  have ht : ∀ w ∈ tG, w.before args s = true := fun w h => hts w (List.mem_cons_of_mem _ h)
  have hown : s.vm.findClass RX7 = some m.cls := findClass_of_methodNamed B.named
  have hlocks := B.notSynchronized
  have hK := hE.1
  have hG := xE_G D q ad A
  have S : CallFix p m c cX7_lay 5 s args tG RX7 := ⟨hx, hb, hml, hown, ht⟩
  have hS : va_S A s.heap s.heap [] := va_S.rf
  refine g_entry (vs := [.ref (ad 38), .int x1, .int x2, .int x3]) hargs (Nat.le_of_ble_eq_true rfl) (fun ls hl => ?_)
  have hl : lv_has ls 5 [(0, .ref (ad 38)), (1, .int x1), (2, .int x2), (3, .int x3)] := hl
  unfold pX7_lay at h
  refine lv_iload_n hx hb dX7_lay_0 rfl (lv_at hl 1 rfl) ?_
  refine g_cSi (Wd := WX q ad) (z := z) (As := [.int x1]) (rest := []) hG S (kX7_isSheet l D q ad A hD z x1 _ h) (va_cwS 1 ht (cW_S (fun _ h => h) tw_co_X7_isSheet tw_ml_X7_275 tw_st_X7_isSheet tw_in_X7) rfl rfl rfl (by decide +kernel) ⟨by decide, by decide⟩) hE hP hS rfl hl.1 rfl (Nat.le_of_ble_eq_true rfl) dX7_lay_1 ⟨Nat.zero_le _, Nat.zero_le _⟩ (fun r1 z1 H locs h hP hS => ?_)
  refine lv_if_ne (tgt := 9) hx hb dX7_lay_4 (by decide) (fun c4 => ?_) (fun c4 => ?_)
  · have h := h.1 c4
    refine lv_aload_n hx hb dX7_lay_9 rfl (lv_at hl 0 rfl) ?_
    refine va_get (D := D) (ci := 7) (v := .ref (ad 41)) (C := RX7) (T := TX7) (N := 12) hx hb ht tl_X7 hown hK hP 38 (wx_38 q ad z1) rfl 9 (by decide) (ht _ tw_fl_X7_66) (fun _ h9 => h9) rfl dX7_lay_10 ?_
    refine lv_iload_n hx hb dX7_lay_13 rfl (lv_at hl 1 rfl) ?_
    have hi14 := h.1
    have h := h.2
    refine va_aldq hx hb hK hP 41 3 (wx_41 q ad z1) rfl hi14 dX7_lay_14 ?_
    refine W.eq (g2 := F0 m 15 ls [.ref (ad (16 + 2 * (Int32.toNatClampNeg x1)))]) rfl ?_
    refine lv_aload_n hx hb dX7_lay_15 rfl (lv_at hl 0 rfl) ?_
    refine va_get (D := D) (ci := 7) (v := .ref (ad 41)) (C := RX7) (T := TX7) (N := 12) hx hb ht tl_X7 hown hK hP 38 (wx_38 q ad z1) rfl 9 (by decide) (ht _ tw_fl_X7_66) (fun _ h9 => h9) rfl dX7_lay_16 ?_
    refine lv_iload_n hx hb dX7_lay_19 rfl (lv_at hl 1 rfl) ?_
    have hi20 := h.1
    have h := h.2
    refine va_aldq hx hb hK hP 41 3 (wx_41 q ad z1) rfl hi20 dX7_lay_20 ?_
    refine W.eq (g2 := F0 m 21 ls [.ref (ad (16 + 2 * (Int32.toNatClampNeg x1))), .ref (ad (16 + 2 * (Int32.toNatClampNeg x1)))]) rfl ?_
    refine va_get (D := D) (ci := 3) (v := .int (z1.1 (16 + 2 * (Int32.toNatClampNeg x1)) 1)) (C := RX3) (T := TX3) (N := 3) hx hb ht tl_X3 hown hK hP (16 + 2 * (Int32.toNatClampNeg x1)) (wxs q ad z1 (g_sh hi20)) rfl 1 (by decide) (ht _ tw_fl_X7_285) (fun _ h9 => h9) rfl dX7_lay_21 ?_
    refine lv_iload_n hx hb dX7_lay_24 rfl (lv_at hl 2 rfl) ?_
    refine g_cVi (Wd := WX q ad) (z := z1) (As := [.int (z1.1 (16 + 2 * (Int32.toNatClampNeg x1)) 1), .int x2]) (rest := []) hG S (kX3_faultAt l D q ad A hD (Int32.toNatClampNeg x1) (g_sh hi14) z1 (z1.1 (16 + 2 * (Int32.toNatClampNeg x1)) 1) x2 _ h) (cwV 2 ht (cW_V (fun _ h => h) tw_co_X3_faultAt tw_ml_X7_288 tw_im_X3_faultAt tw_se_X3_faultAt tw_in_X3) rfl rfl rfl (by decide +kernel) ⟨by decide, by decide⟩) (va_recv hK hP (ci := 3) (q0 := (16 + 2 * (Int32.toNatClampNeg x1))) rfl (wxs q ad z1 (g_sh hi14))) hE hP hS rfl hl.1 rfl (Nat.le_of_ble_eq_true rfl) dX7_lay_25 ⟨Nat.zero_le _, Nat.zero_le _⟩ (fun r25 z25 H locs h hP hS => ?_)
    refine lv_istore (lv' := [(4, .int r25), (0, .ref (ad 38)), (1, .int x1), (2, .int x2), (3, .int x3)]) hx hb dX7_lay_28 hl (by decide) rfl (fun ls hl => ?_)
    refine lv_iload hx hb dX7_lay_30 (lv_at hl 0 rfl) ?_
    refine lv_if_eq (tgt := 41) hx hb dX7_lay_32 (by decide) (fun c32 => ?_) (fun c32 => ?_)
    · have h := h.1 c32
      refine lv_aload_n hx hb dX7_lay_41 rfl (lv_at hl 1 rfl) ?_
      refine va_get (D := D) (ci := 7) (v := .ref (ad 41)) (C := RX7) (T := TX7) (N := 12) hx hb ht tl_X7 hown hK hP 38 (wx_38 q ad z25) rfl 9 (by decide) (ht _ tw_fl_X7_66) (fun _ h9 => h9) rfl dX7_lay_42 ?_
      refine lv_iload_n hx hb dX7_lay_45 rfl (lv_at hl 2 rfl) ?_
      have hi46 := h.1
      have h := h.2
      refine va_aldq hx hb hK hP 41 3 (wx_41 q ad z25) rfl hi46 dX7_lay_46 ?_
      refine W.eq (g2 := F0 m 47 ls [.ref (ad (16 + 2 * (Int32.toNatClampNeg x1)))]) rfl ?_
      refine lv_iload_n hx hb dX7_lay_47 rfl (lv_at hl 3 rfl) ?_
      refine lv_iload_n hx hb dX7_lay_48 rfl (lv_at hl 4 rfl) ?_
      refine g_cVv (Wd := WX q ad) (z := z25) (As := [.int x2, .int x3]) (rest := []) hG S (kX3_put l D q ad A hD (Int32.toNatClampNeg x1) (g_sh hi46) z25 x2 x3 _ h) (cwV 2 ht (cW_V (fun _ h => h) tw_co_X3_put tw_ml_X7_291 tw_im_X3_put tw_se_X3_put tw_in_X3) rfl rfl rfl (by decide +kernel) ⟨by decide, by decide⟩) (va_recv hK hP (ci := 3) (q0 := (16 + 2 * (Int32.toNatClampNeg x1))) rfl (wxs q ad z25 (g_sh hi46))) hE hP hS rfl hl.1 rfl (Nat.le_of_ble_eq_true rfl) dX7_lay_49 ⟨Nat.zero_le _, Nat.zero_le _⟩ (fun z49 H locs h hP hS => ?_)
      refine lv_iconst (v := (1 : Int32)) hx hb dX7_lay_52 (by decide) ?_
      exact g_ri hG hx hb hr hlocks hE hP hS h dX7_lay_53
    · have h := h.2 c32
      refine lv_bipush (v := (-10 : Int32)) hx hb dX7_lay_35 (by decide) ?_
      refine lv_iload hx hb dX7_lay_37 (lv_at hl 0 rfl) ?_
      refine lv_isub hx hb dX7_lay_39 ?_
      exact g_ri hG hx hb hr hlocks hE hP hS h dX7_lay_40
  · have h := h.2 c4
    refine lv_iconst (v := (-1 : Int32)) hx hb dX7_lay_7 (by decide) ?_
    exact g_ri hG hx hb hr hlocks hE hP hS h dX7_lay_8
def pX7_read_b134 (post : Int32 → MX → Prop) (z : MX) (x6 : Int32) (x7 : Int32) : Prop :=
    pX0_copyFrom 0 1 z (fun (z142 : MX) =>
    ∀ z148 : MX, z148 = mw z142 38 11 x6 →
    post x7 z148)
def pX7_read_b128 (rec56 : MX → Int32 → Int32 → Int32 → Nat → Int32 → Int32 → Int32 → Prop) (post : Int32 → MX → Prop) (z : MX) (x2 : Int32) (x3 : Int32) (x4 : Int32) (j5 : Nat) (x6 : Int32) (x7 : Int32) (x8 : Int32) : Prop :=
    ∀ x8_128 : Int32, x8_128 = x8 + (1 : Int32) →
    rec56 z x2 x3 x4 j5 x6 x7 x8_128
def pX7_read_l56 (rec56 : MX → Int32 → Int32 → Int32 → Nat → Int32 → Int32 → Int32 → Prop) (post : Int32 → MX → Prop) (z : MX) (x2 : Int32) (x3 : Int32) (x4 : Int32) (j5 : Nat) (x6 : Int32) (x7 : Int32) (x8 : Int32) : Prop :=
    ((x4 ≤ x8 →
      pX7_read_b134  post z x6 x7) ∧
    (¬ x4 ≤ x8 →
      ((¬ x6 = 0 →
        pX7_read_b134  post z x6 x7) ∧
      (x6 = 0 →
        ∀ x9_74 : Int32, x9_74 = x3 + ((2 : Int32) * x8) →
        pX3_faultOfPair j5 z x2 x9_74 (fun (r81 : Int32) (z81 : MX) =>
        ((¬ r81 = 0 →
          pX7_read_b128  rec56 post z81 x2 x3 x4 j5 r81 x7 x8) ∧
        (r81 = 0 →
          vp_in x9_74 40 ∧
          vp_in (x9_74 + (1 : Int32)) 40 ∧
          pX0_tryToHang 1 z81 (z81.1 (17 + 2 * j5) (Int32.toNatClampNeg x9_74)) (z81.1 (17 + 2 * j5) (Int32.toNatClampNeg (x9_74 + (1 : Int32)))) (fun (r113 : Int32) (z113 : MX) =>
          ((0 ≤ r113 →
            ∀ x7_125 : Int32, x7_125 = x7 + (1 : Int32) →
            pX7_read_b128  rec56 post z113 x2 x3 x4 j5 r81 x7_125 x8) ∧
          (¬ 0 ≤ r113 →
            post ((-20 : Int32) - x8) z113))))))))))
def pX7_read_L56 (post : Int32 → MX → Prop) : Nat → MX → Int32 → Int32 → Int32 → Nat → Int32 → Int32 → Int32 → Prop
  | 0 => fun _ _ _ _ _ _ _ _ => False
  | n + 1 => fun z x2 x3 x4 j5 x6 x7 x8 => pX7_read_l56  (pX7_read_L56  post n) post z x2 x3 x4 j5 x6 x7 x8
def pX7_read (z : MX) (x1 : Int32) (x2 : Int32) (x3 : Int32) (x4 : Int32) (post : Int32 → MX → Prop) : Prop :=
  pX7_isSheet z x1 (fun (r1 : Int32) (z1 : MX) =>
  ((r1 = 0 →
    post (-1 : Int32) z1) ∧
  (¬ r1 = 0 →
    pX7_isLane z1 x2 (fun (r8 : Int32) (z8 : MX) =>
    ((r8 = 0 →
      post (-1 : Int32) z8) ∧
    (¬ r8 = 0 →
      ((x4 < 0 →
        post (-1 : Int32) z8) ∧
      (¬ x4 < 0 →
        ((x4 ≤ (20 : Int32) →
          vp_in x1 4 ∧
          pX0_copyFrom 1 0 z8 (fun (z44 : MX) =>
          ∃ n, pX7_read_L56  post n z44 x2 x3 x4 (Int32.toNatClampNeg x1) (0 : Int32) (0 : Int32) (0 : Int32))) ∧
        (¬ x4 ≤ (20 : Int32) →
          post (-1 : Int32) z8))))))))))
set_option maxHeartbeats 4000000 in
set_option maxRecDepth 100000 in
theorem kX7_read (l : Launch) (D : va_G) (q : Nat → ClassId) (ad : Nat → Nat) (A : Nat → Prop) (hD : ∀ z, va_D A (WX q ad z)) (z : MX) (x1 : Int32) (x2 : Int32) (x3 : Int32) (x4 : Int32) (post : Int32 → MX → Prop) (h : pX7_read  z x1 x2 x3 x4 post) : Met l yX7_read (cW yX7_read cX7_read 10 (some .int)) ({ frames := 3, cells := 0, slots := 0, locals := 65 } : Room) (va_Pc [.ref (ad 38), .int x1, .int x2, .int x3, .int x4] ((gB D vwCl (WX q ad) (xE D q ad A)) z)) (va_Qi post (gB D vwCl (WX q ad) (xE D q ad A)) A) 0 0 A := by
  refine Met.ofW (cc := cX7_read) (maxL := 10) (ret := (some .int)) (by decide) rfl ?_
  intro p e s m args below meth c s₁ B hml hv
  obtain ⟨hargs, hP, hE⟩ := hv
  have hx := B.exec
  have hb := B.bytes
  have hr := B.returns
  have hts := atoms_spec (ws := (cW yX7_read cX7_read 10 (some .int))) B.pre
  have ht : ∀ w ∈ tG, w.before args s = true := fun w h => hts w (List.mem_cons_of_mem _ h)
  have hown : s.vm.findClass RX7 = some m.cls := findClass_of_methodNamed B.named
  have hlocks := B.notSynchronized
  have hK := hE.1
  have hG := xE_G D q ad A
  have S : CallFix p m c cX7_read 10 s args tG RX7 := ⟨hx, hb, hml, hown, ht⟩
  have hS : va_S A s.heap s.heap [] := va_S.rf
  have B134 : ∀ (z : MX) (x6 : Int32) (x7 : Int32) (H : Heap) (locs : List Loc) (ls : Array Slot), pX7_read_b134  post z x6 x7 → va_P D vwCl (WX q ad z) H → va_S A s.heap H locs → lv_has ls 10 [(0, .ref (ad 38)), (6, .int x6), (7, .int x7)] → W p l e (headSpec (cW yX7_read cX7_read 10 (some .int)) ({ frames := 3, cells := 0, slots := 0, locals := 65 } : Room)).room s m args below meth c H locs 0 0 (MQ below (va_Qi post (gB D vwCl (WX q ad) (xE D q ad A)) A) args s 0 0 A) (F0 m 134 ls []) := by
    intro z x6 x7 H locs ls h hP hS hl
    unfold pX7_read_b134 at h
    refine lv_aload_n hx hb dX7_read_134 rfl (lv_at hl 0 rfl) ?_
    refine va_get (D := D) (ci := 7) (v := .ref (ad (4 * 0))) (C := RX7) (T := TX7) (N := 12) hx hb ht tl_X7 hown hK hP 38 (wx_38 q ad z) rfl 0 (by decide) (ht _ tw_fl_X7_10) (fun _ h9 => h9) rfl dX7_read_135 ?_
    refine lv_aload_n hx hb dX7_read_138 rfl (lv_at hl 0 rfl) ?_
    refine va_get (D := D) (ci := 7) (v := .ref (ad (4 * 1))) (C := RX7) (T := TX7) (N := 12) hx hb ht tl_X7 hown hK hP 38 (wx_38 q ad z) rfl 1 (by decide) (ht _ tw_fl_X7_16) (fun _ h9 => h9) rfl dX7_read_139 ?_
    refine g_cVv (Wd := WX q ad) (z := z) (As := [.ref (ad (4 * 1))]) (rest := []) hG S (kX0_copyFrom l D q ad A hD 0 (by decide) 1 (by decide) z _ h) (cwV 1 ht (cW_V (fun _ h => h) tw_co_X0_copyFrom tw_ml_X7_92 tw_im_X0_copyFrom tw_se_X0_copyFrom tw_in_X0) rfl rfl rfl (by decide +kernel) ⟨by decide, by decide⟩) (va_recv hK hP (ci := 0) (q0 := (4 * 0)) rfl (wxl q ad z (by decide))) hE hP hS rfl hl.1 rfl (Nat.le_of_ble_eq_true rfl) dX7_read_142 ⟨Nat.zero_le _, Nat.zero_le _⟩ (fun z142 H locs h hP hS => ?_)
    refine lv_aload_n hx hb dX7_read_145 rfl (lv_at hl 0 rfl) ?_
    refine lv_iload hx hb dX7_read_146 (lv_at hl 1 rfl) ?_
    refine g_put (D := D) (Wd := WX q ad) (z := z142) (ci := 7) (v := .int x6) (ty := .int) (C := RX7) (T := TX7) (N := 12) hx hb ht tl_X7 tyX7 tyX7_ok nmX7 hown hK hP (hD z142) hS 38 (wx_38 q ad z142) rfl 11 (by decide) (ht _ tw_fl_X7_300) (fun _ h9 => h9) rfl rfl rfl rfl (Nat.le_of_ble_eq_true rfl) ((px_38_11 q ad z142) x6) dX7_read_148 (fun z148 H locs hz148 hP hS => ?_)
    have h := h z148 hz148
    refine lv_iload hx hb dX7_read_151 (lv_at hl 2 rfl) ?_
    exact g_ri hG hx hb hr hlocks hE hP hS h dX7_read_153
  have B128 : ∀ (rec56 : MX → Int32 → Int32 → Int32 → Nat → Int32 → Int32 → Int32 → Prop) (hrec56 : ∀ (z : MX) (x2 : Int32) (x3 : Int32) (x4 : Int32) (j5 : Nat) (x6 : Int32) (x7 : Int32) (x8 : Int32) (hj5 : j5 < 4) (H : Heap) (locs : List Loc) (ls : Array Slot), rec56 z x2 x3 x4 j5 x6 x7 x8 → va_P D vwCl (WX q ad z) H → va_S A s.heap H locs → lv_has ls 10 [(0, .ref (ad 38)), (2, .int x2), (3, .int x3), (4, .int x4), (5, .ref (ad (16 + 2 * j5))), (6, .int x6), (7, .int x7), (8, .int x8)] → W p l e (headSpec (cW yX7_read cX7_read 10 (some .int)) ({ frames := 3, cells := 0, slots := 0, locals := 65 } : Room)).room s m args below meth c H locs 0 0 (MQ below (va_Qi post (gB D vwCl (WX q ad) (xE D q ad A)) A) args s 0 0 A) (F0 m 56 ls [])) (z : MX) (x2 : Int32) (x3 : Int32) (x4 : Int32) (j5 : Nat) (x6 : Int32) (x7 : Int32) (x8 : Int32) (hj5 : j5 < 4) (H : Heap) (locs : List Loc) (ls : Array Slot), pX7_read_b128  rec56 post z x2 x3 x4 j5 x6 x7 x8 → va_P D vwCl (WX q ad z) H → va_S A s.heap H locs → lv_has ls 10 [(0, .ref (ad 38)), (2, .int x2), (3, .int x3), (4, .int x4), (5, .ref (ad (16 + 2 * j5))), (6, .int x6), (7, .int x7), (8, .int x8)] → W p l e (headSpec (cW yX7_read cX7_read 10 (some .int)) ({ frames := 3, cells := 0, slots := 0, locals := 65 } : Room)).room s m args below meth c H locs 0 0 (MQ below (va_Qi post (gB D vwCl (WX q ad) (xE D q ad A)) A) args s 0 0 A) (F0 m 128 ls []) := by
    intro rec56 hrec56 z x2 x3 x4 j5 x6 x7 x8 hj5 H locs ls h hP hS hl
    unfold pX7_read_b128 at h
    obtain ⟨x8_128, ex8_128⟩ : ∃ w : Int32, w = x8 + (1 : Int32) := ⟨_, rfl⟩
    have h := h x8_128 ex8_128
    refine lv_iinc (v := x8_128) (lv' := [(8, .int x8_128), (0, .ref (ad 38)), (2, .int x2), (3, .int x3), (4, .int x4), (5, .ref (ad (16 + 2 * j5))), (6, .int x6), (7, .int x7)]) hx hb dX7_read_128 hl (k := 7) rfl (by rw [ex8_128]; rfl) (by decide) rfl (fun ls hl => ?_)
    refine lv_goto (tgt := 56) hx hb dX7_read_131 (by decide) ?_
    exact hrec56 z x2 x3 x4 j5 x6 x7 x8_128 hj5 _ _ _ h hP hS (lv_sub hl [1, 2, 3, 4, 5, 6, 7, 0] rfl)
  have B56 : ∀ (rec56 : MX → Int32 → Int32 → Int32 → Nat → Int32 → Int32 → Int32 → Prop) (hrec56 : ∀ (z : MX) (x2 : Int32) (x3 : Int32) (x4 : Int32) (j5 : Nat) (x6 : Int32) (x7 : Int32) (x8 : Int32) (hj5 : j5 < 4) (H : Heap) (locs : List Loc) (ls : Array Slot), rec56 z x2 x3 x4 j5 x6 x7 x8 → va_P D vwCl (WX q ad z) H → va_S A s.heap H locs → lv_has ls 10 [(0, .ref (ad 38)), (2, .int x2), (3, .int x3), (4, .int x4), (5, .ref (ad (16 + 2 * j5))), (6, .int x6), (7, .int x7), (8, .int x8)] → W p l e (headSpec (cW yX7_read cX7_read 10 (some .int)) ({ frames := 3, cells := 0, slots := 0, locals := 65 } : Room)).room s m args below meth c H locs 0 0 (MQ below (va_Qi post (gB D vwCl (WX q ad) (xE D q ad A)) A) args s 0 0 A) (F0 m 56 ls [])) (z : MX) (x2 : Int32) (x3 : Int32) (x4 : Int32) (j5 : Nat) (x6 : Int32) (x7 : Int32) (x8 : Int32) (hj5 : j5 < 4) (H : Heap) (locs : List Loc) (ls : Array Slot), pX7_read_l56  rec56 post z x2 x3 x4 j5 x6 x7 x8 → va_P D vwCl (WX q ad z) H → va_S A s.heap H locs → lv_has ls 10 [(0, .ref (ad 38)), (2, .int x2), (3, .int x3), (4, .int x4), (5, .ref (ad (16 + 2 * j5))), (6, .int x6), (7, .int x7), (8, .int x8)] → W p l e (headSpec (cW yX7_read cX7_read 10 (some .int)) ({ frames := 3, cells := 0, slots := 0, locals := 65 } : Room)).room s m args below meth c H locs 0 0 (MQ below (va_Qi post (gB D vwCl (WX q ad) (xE D q ad A)) A) args s 0 0 A) (F0 m 56 ls []) := by
    intro rec56 hrec56 z x2 x3 x4 j5 x6 x7 x8 hj5 H locs ls h hP hS hl
    unfold pX7_read_l56 at h
    refine lv_iload hx hb dX7_read_56 (lv_at hl 7 rfl) ?_
    refine lv_iload hx hb dX7_read_58 (lv_at hl 3 rfl) ?_
    refine lv_icmp_ge (tgt := 134) hx hb dX7_read_60 (by decide) (fun c60 => ?_) (fun c60 => ?_)
    · have h := h.1 c60
      exact B134 z x6 x7 _ _ _ h hP hS (lv_sub hl [0, 5, 6] rfl)
    · have h := h.2 c60
      refine lv_iload hx hb dX7_read_63 (lv_at hl 5 rfl) ?_
      refine lv_if_ne (tgt := 134) hx hb dX7_read_65 (by decide) (fun c65 => ?_) (fun c65 => ?_)
      · have h := h.1 c65
        exact B134 z x6 x7 _ _ _ h hP hS (lv_sub hl [0, 5, 6] rfl)
      · have h := h.2 c65
        refine lv_iload_n hx hb dX7_read_68 rfl (lv_at hl 2 rfl) ?_
        refine lv_iconst (v := (2 : Int32)) hx hb dX7_read_69 (by decide) ?_
        refine lv_iload hx hb dX7_read_70 (lv_at hl 7 rfl) ?_
        refine lv_imul hx hb dX7_read_72 ?_
        refine lv_iadd hx hb dX7_read_73 ?_
        refine lv_topi (fun x9_74 ex9_74 => ?_)
        have h := h x9_74 ex9_74
        refine lv_istore (lv' := [(9, .int x9_74), (0, .ref (ad 38)), (2, .int x2), (3, .int x3), (4, .int x4), (5, .ref (ad (16 + 2 * j5))), (6, .int x6), (7, .int x7), (8, .int x8)]) hx hb dX7_read_74 hl (by decide) rfl (fun ls hl => ?_)
        refine lv_aload hx hb dX7_read_76 (lv_at hl 5 rfl) ?_
        refine lv_iload_n hx hb dX7_read_78 rfl (lv_at hl 2 rfl) ?_
        refine lv_iload hx hb dX7_read_79 (lv_at hl 0 rfl) ?_
        refine g_cVi (Wd := WX q ad) (z := z) (As := [.int x2, .int x9_74]) (rest := []) hG S (kX3_faultOfPair l D q ad A hD j5 hj5 z x2 x9_74 _ h) (cwV 2 ht (cW_V (fun _ h => h) tw_co_X3_faultOfPair tw_ml_X7_294 tw_im_X3_faultOfPair tw_se_X3_faultOfPair tw_in_X3) rfl rfl rfl (by decide +kernel) ⟨by decide, by decide⟩) (va_recv hK hP (ci := 3) (q0 := (16 + 2 * j5)) rfl (wxs q ad z hj5)) hE hP hS rfl hl.1 rfl (Nat.le_of_ble_eq_true rfl) dX7_read_81 ⟨Nat.zero_le _, Nat.zero_le _⟩ (fun r81 z81 H locs h hP hS => ?_)
        refine lv_istore (lv' := [(6, .int r81), (9, .int x9_74), (0, .ref (ad 38)), (2, .int x2), (3, .int x3), (4, .int x4), (5, .ref (ad (16 + 2 * j5))), (7, .int x7), (8, .int x8)]) hx hb dX7_read_84 hl (by decide) rfl (fun ls hl => ?_)
        refine lv_iload hx hb dX7_read_86 (lv_at hl 0 rfl) ?_
        refine lv_if_ne (tgt := 128) hx hb dX7_read_88 (by decide) (fun c88 => ?_) (fun c88 => ?_)
        · have h := h.1 c88
          exact B128 rec56 hrec56 z81 x2 x3 x4 j5 r81 x7 x8 hj5 _ _ _ h hP hS (lv_sub hl [2, 3, 4, 5, 6, 0, 7, 8] rfl)
        · have h := h.2 c88
          refine lv_aload_n hx hb dX7_read_91 rfl (lv_at hl 2 rfl) ?_
          refine va_get (D := D) (ci := 7) (v := .ref (ad (4 * 1))) (C := RX7) (T := TX7) (N := 12) hx hb ht tl_X7 hown hK hP 38 (wx_38 q ad z81) rfl 1 (by decide) (ht _ tw_fl_X7_16) (fun _ h9 => h9) rfl dX7_read_92 ?_
          refine lv_aload hx hb dX7_read_95 (lv_at hl 6 rfl) ?_
          refine va_get (D := D) (ci := 3) (v := .ref (ad (17 + 2 * j5))) (C := RX3) (T := TX3) (N := 3) hx hb ht tl_X3 hown hK hP (16 + 2 * j5) (wxs q ad z81 hj5) rfl 0 (by decide) (ht _ tw_fl_X7_297) (fun _ h9 => h9) rfl dX7_read_97 ?_
          refine lv_iload hx hb dX7_read_100 (lv_at hl 1 rfl) ?_
          have hi102 := h.1
          have h := h.2
          refine va_iald hx hb hK hP (17 + 2 * j5) 0 (wxs1 q ad z81 hj5) rfl hi102 dX7_read_102 ?_
          refine lv_aload hx hb dX7_read_103 (lv_at hl 6 rfl) ?_
          refine va_get (D := D) (ci := 3) (v := .ref (ad (17 + 2 * j5))) (C := RX3) (T := TX3) (N := 3) hx hb ht tl_X3 hown hK hP (16 + 2 * j5) (wxs q ad z81 hj5) rfl 0 (by decide) (ht _ tw_fl_X7_297) (fun _ h9 => h9) rfl dX7_read_105 ?_
          refine lv_iload hx hb dX7_read_108 (lv_at hl 1 rfl) ?_
          refine lv_iconst (v := (1 : Int32)) hx hb dX7_read_110 (by decide) ?_
          refine lv_iadd hx hb dX7_read_111 ?_
          have hi112 := h.1
          have h := h.2
          refine va_iald hx hb hK hP (17 + 2 * j5) 0 (wxs1 q ad z81 hj5) rfl hi112 dX7_read_112 ?_
          refine g_cVi (Wd := WX q ad) (z := z81) (As := [.int (z81.1 (17 + 2 * j5) (Int32.toNatClampNeg x9_74)), .int (z81.1 (17 + 2 * j5) (Int32.toNatClampNeg (x9_74 + (1 : Int32))))]) (rest := []) hG S (kX0_tryToHang l D q ad A hD 1 (by decide) z81 (z81.1 (17 + 2 * j5) (Int32.toNatClampNeg x9_74)) (z81.1 (17 + 2 * j5) (Int32.toNatClampNeg (x9_74 + (1 : Int32)))) _ h) (cwV 2 ht (cW_V (fun _ h => h) tw_co_X0_tryToHang tw_ml_X7_149 tw_im_X0_tryToHang tw_se_X0_tryToHang tw_in_X0) rfl rfl rfl (by decide +kernel) ⟨by decide, by decide⟩) (va_recv hK hP (ci := 0) (q0 := (4 * 1)) rfl (wxl q ad z81 (by decide))) hE hP hS rfl hl.1 rfl (Nat.le_of_ble_eq_true rfl) dX7_read_113 ⟨Nat.zero_le _, Nat.zero_le _⟩ (fun r113 z113 H locs h hP hS => ?_)
          refine lv_if_ge (tgt := 125) hx hb dX7_read_116 (by decide) (fun c116 => ?_) (fun c116 => ?_)
          · have h := h.1 c116
            obtain ⟨x7_125, ex7_125⟩ : ∃ w : Int32, w = x7 + (1 : Int32) := ⟨_, rfl⟩
            have h := h x7_125 ex7_125
            refine lv_iinc (v := x7_125) (lv' := [(7, .int x7_125), (6, .int r81), (9, .int x9_74), (0, .ref (ad 38)), (2, .int x2), (3, .int x3), (4, .int x4), (5, .ref (ad (16 + 2 * j5))), (8, .int x8)]) hx hb dX7_read_125 hl (k := 7) rfl (by rw [ex7_125]; rfl) (by decide) rfl (fun ls hl => ?_)
            exact B128 rec56 hrec56 z113 x2 x3 x4 j5 r81 x7_125 x8 hj5 _ _ _ h hP hS (lv_sub hl [3, 4, 5, 6, 7, 1, 0, 8] rfl)
          · have h := h.2 c116
            refine lv_bipush (v := (-20 : Int32)) hx hb dX7_read_119 (by decide) ?_
            refine lv_iload hx hb dX7_read_121 (lv_at hl 8 rfl) ?_
            refine lv_isub hx hb dX7_read_123 ?_
            exact g_ri hG hx hb hr hlocks hE hP hS h dX7_read_124
  have L56 : ∀ (n : Nat) (z : MX) (x2 : Int32) (x3 : Int32) (x4 : Int32) (j5 : Nat) (x6 : Int32) (x7 : Int32) (x8 : Int32) (hj5 : j5 < 4) (H : Heap) (locs : List Loc) (ls : Array Slot), pX7_read_L56  post n z x2 x3 x4 j5 x6 x7 x8 → va_P D vwCl (WX q ad z) H → va_S A s.heap H locs → lv_has ls 10 [(0, .ref (ad 38)), (2, .int x2), (3, .int x3), (4, .int x4), (5, .ref (ad (16 + 2 * j5))), (6, .int x6), (7, .int x7), (8, .int x8)] → W p l e (headSpec (cW yX7_read cX7_read 10 (some .int)) ({ frames := 3, cells := 0, slots := 0, locals := 65 } : Room)).room s m args below meth c H locs 0 0 (MQ below (va_Qi post (gB D vwCl (WX q ad) (xE D q ad A)) A) args s 0 0 A) (F0 m 56 ls []) := by
    intro n
    induction n with
    | zero =>
      intro z x2 x3 x4 j5 x6 x7 x8 hj5 H locs ls h
      exact False.elim h
    | succ n ih =>
      intro z x2 x3 x4 j5 x6 x7 x8 hj5 H locs ls h hP hS hl
      exact B56 (pX7_read_L56  post n) ih z x2 x3 x4 j5 x6 x7 x8 hj5 H locs ls h hP hS hl
  refine g_entry (vs := [.ref (ad 38), .int x1, .int x2, .int x3, .int x4]) hargs (Nat.le_of_ble_eq_true rfl) (fun ls hl => ?_)
  have hl : lv_has ls 10 [(0, .ref (ad 38)), (1, .int x1), (2, .int x2), (3, .int x3), (4, .int x4)] := hl
  unfold pX7_read at h
  refine lv_iload_n hx hb dX7_read_0 rfl (lv_at hl 1 rfl) ?_
  refine g_cSi (Wd := WX q ad) (z := z) (As := [.int x1]) (rest := []) hG S (kX7_isSheet l D q ad A hD z x1 _ h) (va_cwS 1 ht (cW_S (fun _ h => h) tw_co_X7_isSheet tw_ml_X7_275 tw_st_X7_isSheet tw_in_X7) rfl rfl rfl (by decide +kernel) ⟨by decide, by decide⟩) hE hP hS rfl hl.1 rfl (Nat.le_of_ble_eq_true rfl) dX7_read_1 ⟨Nat.zero_le _, Nat.zero_le _⟩ (fun r1 z1 H locs h hP hS => ?_)
  refine lv_if_eq (tgt := 26) hx hb dX7_read_4 (by decide) (fun c4 => ?_) (fun c4 => ?_)
  · have h := h.1 c4
    refine lv_iconst (v := (-1 : Int32)) hx hb dX7_read_26 (by decide) ?_
    exact g_ri hG hx hb hr hlocks hE hP hS h dX7_read_27
  · have h := h.2 c4
    refine lv_iload_n hx hb dX7_read_7 rfl (lv_at hl 2 rfl) ?_
    refine g_cSi (Wd := WX q ad) (z := z1) (As := [.int x2]) (rest := []) hG S (kX7_isLane l D q ad A hD z1 x2 _ h) (va_cwS 1 ht (cW_S (fun _ h => h) tw_co_X7_isLane tw_ml_X7_278 tw_st_X7_isLane tw_in_X7) rfl rfl rfl (by decide +kernel) ⟨by decide, by decide⟩) hE hP hS rfl hl.1 rfl (Nat.le_of_ble_eq_true rfl) dX7_read_8 ⟨Nat.zero_le _, Nat.zero_le _⟩ (fun r8 z8 H locs h hP hS => ?_)
    refine lv_if_eq (tgt := 26) hx hb dX7_read_11 (by decide) (fun c11 => ?_) (fun c11 => ?_)
    · have h := h.1 c11
      refine lv_iconst (v := (-1 : Int32)) hx hb dX7_read_26 (by decide) ?_
      exact g_ri hG hx hb hr hlocks hE hP hS h dX7_read_27
    · have h := h.2 c11
      refine lv_iload hx hb dX7_read_14 (lv_at hl 4 rfl) ?_
      refine lv_if_lt (tgt := 26) hx hb dX7_read_16 (by decide) (fun c16 => ?_) (fun c16 => ?_)
      · have h := h.1 c16
        refine lv_iconst (v := (-1 : Int32)) hx hb dX7_read_26 (by decide) ?_
        exact g_ri hG hx hb hr hlocks hE hP hS h dX7_read_27
      · have h := h.2 c16
        refine lv_iload hx hb dX7_read_19 (lv_at hl 4 rfl) ?_
        refine lv_bipush (v := (20 : Int32)) hx hb dX7_read_21 (by decide) ?_
        refine lv_icmp_le (tgt := 28) hx hb dX7_read_23 (by decide) (fun c23 => ?_) (fun c23 => ?_)
        · have h := h.1 c23
          refine lv_aload_n hx hb dX7_read_28 rfl (lv_at hl 0 rfl) ?_
          refine va_get (D := D) (ci := 7) (v := .ref (ad 41)) (C := RX7) (T := TX7) (N := 12) hx hb ht tl_X7 hown hK hP 38 (wx_38 q ad z8) rfl 9 (by decide) (ht _ tw_fl_X7_66) (fun _ h9 => h9) rfl dX7_read_29 ?_
          refine lv_iload_n hx hb dX7_read_32 rfl (lv_at hl 1 rfl) ?_
          have hi33 := h.1
          have h := h.2
          refine va_aldq hx hb hK hP 41 3 (wx_41 q ad z8) rfl hi33 dX7_read_33 ?_
          refine W.eq (g2 := F0 m 34 ls [.ref (ad (16 + 2 * (Int32.toNatClampNeg x1)))]) rfl ?_
          refine lv_astore (lv' := [(5, .ref (ad (16 + 2 * (Int32.toNatClampNeg x1)))), (0, .ref (ad 38)), (1, .int x1), (2, .int x2), (3, .int x3), (4, .int x4)]) hx hb dX7_read_34 hl (by decide) rfl (fun ls hl => ?_)
          refine lv_aload_n hx hb dX7_read_36 rfl (lv_at hl 1 rfl) ?_
          refine va_get (D := D) (ci := 7) (v := .ref (ad (4 * 1))) (C := RX7) (T := TX7) (N := 12) hx hb ht tl_X7 hown hK hP 38 (wx_38 q ad z8) rfl 1 (by decide) (ht _ tw_fl_X7_16) (fun _ h9 => h9) rfl dX7_read_37 ?_
          refine lv_aload_n hx hb dX7_read_40 rfl (lv_at hl 1 rfl) ?_
          refine va_get (D := D) (ci := 7) (v := .ref (ad (4 * 0))) (C := RX7) (T := TX7) (N := 12) hx hb ht tl_X7 hown hK hP 38 (wx_38 q ad z8) rfl 0 (by decide) (ht _ tw_fl_X7_10) (fun _ h9 => h9) rfl dX7_read_41 ?_
          refine g_cVv (Wd := WX q ad) (z := z8) (As := [.ref (ad (4 * 0))]) (rest := []) hG S (kX0_copyFrom l D q ad A hD 1 (by decide) 0 (by decide) z8 _ h) (cwV 1 ht (cW_V (fun _ h => h) tw_co_X0_copyFrom tw_ml_X7_92 tw_im_X0_copyFrom tw_se_X0_copyFrom tw_in_X0) rfl rfl rfl (by decide +kernel) ⟨by decide, by decide⟩) (va_recv hK hP (ci := 0) (q0 := (4 * 1)) rfl (wxl q ad z8 (by decide))) hE hP hS rfl hl.1 rfl (Nat.le_of_ble_eq_true rfl) dX7_read_44 ⟨Nat.zero_le _, Nat.zero_le _⟩ (fun z44 H locs h hP hS => ?_)
          refine lv_iconst (v := (0 : Int32)) hx hb dX7_read_47 (by decide) ?_
          refine lv_istore (lv' := [(6, .int (0 : Int32)), (5, .ref (ad (16 + 2 * (Int32.toNatClampNeg x1)))), (0, .ref (ad 38)), (1, .int x1), (2, .int x2), (3, .int x3), (4, .int x4)]) hx hb dX7_read_48 hl (by decide) rfl (fun ls hl => ?_)
          refine lv_iconst (v := (0 : Int32)) hx hb dX7_read_50 (by decide) ?_
          refine lv_istore (lv' := [(7, .int (0 : Int32)), (6, .int (0 : Int32)), (5, .ref (ad (16 + 2 * (Int32.toNatClampNeg x1)))), (0, .ref (ad 38)), (1, .int x1), (2, .int x2), (3, .int x3), (4, .int x4)]) hx hb dX7_read_51 hl (by decide) rfl (fun ls hl => ?_)
          refine lv_iconst (v := (0 : Int32)) hx hb dX7_read_53 (by decide) ?_
          refine lv_istore (lv' := [(8, .int (0 : Int32)), (7, .int (0 : Int32)), (6, .int (0 : Int32)), (5, .ref (ad (16 + 2 * (Int32.toNatClampNeg x1)))), (0, .ref (ad 38)), (1, .int x1), (2, .int x2), (3, .int x3), (4, .int x4)]) hx hb dX7_read_54 hl (by decide) rfl (fun ls hl => ?_)
          obtain ⟨n, h⟩ := h
          exact L56 n z44 x2 x3 x4 (Int32.toNatClampNeg x1) (0 : Int32) (0 : Int32) (0 : Int32) (g_sh hi33) _ _ _ h hP hS (lv_sub hl [4, 6, 7, 8, 3, 2, 1, 0] rfl)
        · have h := h.2 c23
          refine lv_iconst (v := (-1 : Int32)) hx hb dX7_read_26 (by decide) ?_
          exact g_ri hG hx hb hr hlocks hE hP hS h dX7_read_27
def pX7_torn (z : MX) (post : Int32 → MX → Prop) : Prop :=
  post (z.1 38 11) z
set_option maxHeartbeats 4000000 in
set_option maxRecDepth 100000 in
theorem kX7_torn (l : Launch) (D : va_G) (q : Nat → ClassId) (ad : Nat → Nat) (A : Nat → Prop) (hD : ∀ z, va_D A (WX q ad z)) (z : MX) (post : Int32 → MX → Prop) (h : pX7_torn  z post) : Met l yX7_torn (cW yX7_torn cX7_torn 1 (some .int)) ({ frames := 0, cells := 0, slots := 0, locals := 0 } : Room) (va_Pc [.ref (ad 38)] ((gB D vwCl (WX q ad) (xE D q ad A)) z)) (va_Qi post (gB D vwCl (WX q ad) (xE D q ad A)) A) 0 0 A := by
  refine Met.ofW (cc := cX7_torn) (maxL := 1) (ret := (some .int)) (by decide) rfl ?_
  intro p e s m args below meth c s₁ B hml hv
  obtain ⟨hargs, hP, hE⟩ := hv
  have hx := B.exec
  have hb := B.bytes
  have hr := B.returns
  have hts := atoms_spec (ws := (cW yX7_torn cX7_torn 1 (some .int))) B.pre
  have ht : ∀ w ∈ tG, w.before args s = true := fun w h => hts w (List.mem_cons_of_mem _ h)
  have hown : s.vm.findClass RX7 = some m.cls := findClass_of_methodNamed B.named
  have hlocks := B.notSynchronized
  have hK := hE.1
  have hG := xE_G D q ad A
  have S : CallFix p m c cX7_torn 1 s args tG RX7 := ⟨hx, hb, hml, hown, ht⟩
  have hS : va_S A s.heap s.heap [] := va_S.rf
  refine g_entry (vs := [.ref (ad 38)]) hargs (Nat.le_of_ble_eq_true rfl) (fun ls hl => ?_)
  have hl : lv_has ls 1 [(0, .ref (ad 38))] := hl
  unfold pX7_torn at h
  refine lv_aload_n hx hb dX7_torn_0 rfl (lv_at hl 0 rfl) ?_
  refine va_get (D := D) (ci := 7) (v := .int (z.1 38 11)) (C := RX7) (T := TX7) (N := 12) hx hb ht tl_X7 hown hK hP 38 (wx_38 q ad z) rfl 11 (by decide) (ht _ tw_fl_X7_300) (fun _ h9 => h9) rfl dX7_torn_1 ?_
  exact g_ri hG hx hb hr hlocks hE hP hS h dX7_torn_4
def pX7_count_b62 (post : Int32 → MX → Prop) (z : MX) (y0 : Int32) : Prop :=
    vp_in (1 : Int32) 2 ∧
    (((z.1 40 (Int32.toNatClampNeg (1 : Int32))) = 0 →
      post (y0 + (0 : Int32)) z) ∧
    (¬ (z.1 40 (Int32.toNatClampNeg (1 : Int32))) = 0 →
      post (y0 + (1 : Int32)) z))
def pX7_count (z : MX) (x1 : Int32) (post : Int32 → MX → Prop) : Prop :=
  ((((x1).toInt < 0 ∨ 5 < (x1).toInt) →
    post (-1 : Int32) z) ∧
  (x1 = (0 : Int32) →
      post (z.1 33 6) z) ∧
  (x1 = (1 : Int32) →
      vp_in (0 : Int32) 2 ∧
      (((z.1 40 (Int32.toNatClampNeg (0 : Int32))) = 0 →
        pX7_count_b62  post z (0 : Int32)) ∧
      (¬ (z.1 40 (Int32.toNatClampNeg (0 : Int32))) = 0 →
        pX7_count_b62  post z (1 : Int32)))) ∧
  (x1 = (2 : Int32) →
      post (z.1 24 1) z) ∧
  (x1 = (3 : Int32) →
      vp_in (0 : Int32) 4 ∧
      pX3_isNothing (Int32.toNatClampNeg (0 : Int32)) z (fun (r92 : Int32) (z92 : MX) =>
      ((r92 = 0 →
        vp_in (0 : Int32) 4 ∧
        post (z92.1 (16 + 2 * (Int32.toNatClampNeg (0 : Int32))) 2) z92) ∧
      (¬ r92 = 0 →
        post (-4 : Int32) z92)))) ∧
  (x1 = (4 : Int32) →
      pX0_omenBits 0 z (fun (r117 : Int32) (z117 : MX) =>
      pJ6_bitCount_0f7a4 z117 r117 (fun (r120 : Int32) (z120 : MX) =>
      post r120 z120))) ∧
  (x1 = (5 : Int32) →
      pX0_allWorths 0 z (fun (r128 : Int32) (z128 : MX) =>
      post r128 z128)))
set_option maxHeartbeats 4000000 in
set_option maxRecDepth 100000 in
theorem kX7_count (l : Launch) (D : va_G) (q : Nat → ClassId) (ad : Nat → Nat) (A : Nat → Prop) (hD : ∀ z, va_D A (WX q ad z)) (z : MX) (x1 : Int32) (post : Int32 → MX → Prop) (h : pX7_count  z x1 post) : Met l yX7_count (cW yX7_count cX7_count 2 (some .int)) ({ frames := 2, cells := 0, slots := 0, locals := 44 } : Room) (va_Pc [.ref (ad 38), .int x1] ((gB D vwCl (WX q ad) (xE D q ad A)) z)) (va_Qi post (gB D vwCl (WX q ad) (xE D q ad A)) A) 0 0 A := by
  refine Met.ofW (cc := cX7_count) (maxL := 2) (ret := (some .int)) (by decide) rfl ?_
  intro p e s m args below meth c s₁ B hml hv
  obtain ⟨hargs, hP, hE⟩ := hv
  have hx := B.exec
  have hb := B.bytes
  have hr := B.returns
  have hts := atoms_spec (ws := (cW yX7_count cX7_count 2 (some .int))) B.pre
  have ht : ∀ w ∈ tG, w.before args s = true := fun w h => hts w (List.mem_cons_of_mem _ h)
  have hown : s.vm.findClass RX7 = some m.cls := findClass_of_methodNamed B.named
  have hlocks := B.notSynchronized
  have hK := hE.1
  have hG := xE_G D q ad A
  have S : CallFix p m c cX7_count 2 s args tG RX7 := ⟨hx, hb, hml, hown, ht⟩
  have hS : va_S A s.heap s.heap [] := va_S.rf
  have B62 : ∀ (z : MX) (y0 : Int32) (H : Heap) (locs : List Loc) (ls : Array Slot), pX7_count_b62  post z y0 → va_P D vwCl (WX q ad z) H → va_S A s.heap H locs → lv_has ls 2 [(0, .ref (ad 38))] → W p l e (headSpec (cW yX7_count cX7_count 2 (some .int)) ({ frames := 2, cells := 0, slots := 0, locals := 44 } : Room)).room s m args below meth c H locs 0 0 (MQ below (va_Qi post (gB D vwCl (WX q ad) (xE D q ad A)) A) args s 0 0 A) (F0 m 62 ls [.int y0]) := by
    intro z y0 H locs ls h hP hS hl
    unfold pX7_count_b62 at h
    refine lv_aload_n hx hb dX7_count_62 rfl (lv_at hl 0 rfl) ?_
    refine va_get (D := D) (ci := 7) (v := .ref (ad 40)) (C := RX7) (T := TX7) (N := 12) hx hb ht tl_X7 hown hK hP 38 (wx_38 q ad z) rfl 8 (by decide) (ht _ tw_fl_X7_60) (fun _ h9 => h9) rfl dX7_count_63 ?_
    refine lv_iconst (v := (1 : Int32)) hx hb dX7_count_66 (by decide) ?_
    have hi67 := h.1
    have h := h.2
    refine va_zald hx hb hK hP 40 1 (wx_40 q ad z) rfl hi67 dX7_count_67 ?_
    refine lv_if_eq (tgt := 75) hx hb dX7_count_68 (by decide) (fun c68 => ?_) (fun c68 => ?_)
    · have h := h.1 c68
      refine lv_iconst (v := (0 : Int32)) hx hb dX7_count_75 (by decide) ?_
      refine lv_iadd hx hb dX7_count_76 ?_
      exact g_ri hG hx hb hr hlocks hE hP hS h dX7_count_77
    · have h := h.2 c68
      refine lv_iconst (v := (1 : Int32)) hx hb dX7_count_71 (by decide) ?_
      refine lv_goto (tgt := 76) hx hb dX7_count_72 (by decide) ?_
      refine lv_iadd hx hb dX7_count_76 ?_
      exact g_ri hG hx hb hr hlocks hE hP hS h dX7_count_77
  refine g_entry (vs := [.ref (ad 38), .int x1]) hargs (Nat.le_of_ble_eq_true rfl) (fun ls hl => ?_)
  have hl : lv_has ls 2 [(0, .ref (ad 38)), (1, .int x1)] := hl
  unfold pX7_count at h
  refine lv_iload_n hx hb dX7_count_0 rfl (lv_at hl 1 rfl) ?_
  rcases g_sw (x := x1) 5 5 rfl with c1 | ⟨k1, hk1, c1⟩
  · refine lv_tableOut (tgt := 132) hx hb dX7_count_1 c1 (by decide) ?_
    have h := h.1 c1
    refine lv_iconst (v := (-1 : Int32)) hx hb dX7_count_132 (by decide) ?_
    exact g_ri hG hx hb hr hlocks hE hP hS h dX7_count_133
  · match k1, hk1, c1 with
    | 0, _, c1 =>
      have h := h.2.1 (g_eq c1 rfl)
      refine lv_tableIn (off := 39) (tgt := 40) hx hb dX7_count_1 (by rw [c1]; decide) (by rw [c1]; decide) (by rw [c1]; rfl) (by decide) ?_
      refine lv_aload_n hx hb dX7_count_40 rfl (lv_at hl 0 rfl) ?_
      refine va_get (D := D) (ci := 7) (v := .ref (ad 33)) (C := RX7) (T := TX7) (N := 12) hx hb ht tl_X7 hown hK hP 38 (wx_38 q ad z) rfl 6 (by decide) (ht _ tw_fl_X7_52) (fun _ h9 => h9) rfl dX7_count_41 ?_
      refine va_get (D := D) (ci := 4) (v := .int (z.1 33 6)) (C := RX4) (T := TX4) (N := 8) hx hb ht tl_X4 hown hK hP 33 (wx_33 q ad z) rfl 6 (by decide) (ht _ tw_fl_X7_96) (fun _ h9 => h9) rfl dX7_count_44 ?_
      exact g_ri hG hx hb hr hlocks hE hP hS h dX7_count_47
    | 1, _, c1 =>
      have h := h.2.2.1 (g_eq c1 rfl)
      refine lv_tableIn (off := 47) (tgt := 48) hx hb dX7_count_1 (by rw [c1]; decide) (by rw [c1]; decide) (by rw [c1]; rfl) (by decide) ?_
      refine lv_aload_n hx hb dX7_count_48 rfl (lv_at hl 0 rfl) ?_
      refine va_get (D := D) (ci := 7) (v := .ref (ad 40)) (C := RX7) (T := TX7) (N := 12) hx hb ht tl_X7 hown hK hP 38 (wx_38 q ad z) rfl 8 (by decide) (ht _ tw_fl_X7_60) (fun _ h9 => h9) rfl dX7_count_49 ?_
      refine lv_iconst (v := (0 : Int32)) hx hb dX7_count_52 (by decide) ?_
      have hi53 := h.1
      have h := h.2
      refine va_zald hx hb hK hP 40 1 (wx_40 q ad z) rfl hi53 dX7_count_53 ?_
      refine lv_if_eq (tgt := 61) hx hb dX7_count_54 (by decide) (fun c54 => ?_) (fun c54 => ?_)
      · have h := h.1 c54
        refine lv_iconst (v := (0 : Int32)) hx hb dX7_count_61 (by decide) ?_
        exact B62 z (0 : Int32) _ _ _ h hP hS (lv_sub hl [0] rfl)
      · have h := h.2 c54
        refine lv_iconst (v := (1 : Int32)) hx hb dX7_count_57 (by decide) ?_
        refine lv_goto (tgt := 62) hx hb dX7_count_58 (by decide) ?_
        exact B62 z (1 : Int32) _ _ _ h hP hS (lv_sub hl [0] rfl)
    | 2, _, c1 =>
      have h := h.2.2.2.1 (g_eq c1 rfl)
      refine lv_tableIn (off := 77) (tgt := 78) hx hb dX7_count_1 (by rw [c1]; decide) (by rw [c1]; decide) (by rw [c1]; rfl) (by decide) ?_
      refine lv_aload_n hx hb dX7_count_78 rfl (lv_at hl 0 rfl) ?_
      refine va_get (D := D) (ci := 7) (v := .ref (ad 24)) (C := RX7) (T := TX7) (N := 12) hx hb ht tl_X7 hown hK hP 38 (wx_38 q ad z) rfl 2 (by decide) (ht _ tw_fl_X7_22) (fun _ h9 => h9) rfl dX7_count_79 ?_
      refine va_get (D := D) (ci := 5) (v := .int (z.1 24 1)) (C := RX5) (T := TX5) (N := 9) hx hb ht tl_X5 hown hK hP 24 (wx_24 q ad z) rfl 1 (by decide) (ht _ tw_fl_X7_75) (fun _ h9 => h9) rfl dX7_count_82 ?_
      exact g_ri hG hx hb hr hlocks hE hP hS h dX7_count_85
    | 3, _, c1 =>
      have h := h.2.2.2.2.1 (g_eq c1 rfl)
      refine lv_tableIn (off := 85) (tgt := 86) hx hb dX7_count_1 (by rw [c1]; decide) (by rw [c1]; decide) (by rw [c1]; rfl) (by decide) ?_
      refine lv_aload_n hx hb dX7_count_86 rfl (lv_at hl 0 rfl) ?_
      refine va_get (D := D) (ci := 7) (v := .ref (ad 41)) (C := RX7) (T := TX7) (N := 12) hx hb ht tl_X7 hown hK hP 38 (wx_38 q ad z) rfl 9 (by decide) (ht _ tw_fl_X7_66) (fun _ h9 => h9) rfl dX7_count_87 ?_
      refine lv_iconst (v := (0 : Int32)) hx hb dX7_count_90 (by decide) ?_
      have hi91 := h.1
      have h := h.2
      refine va_aldq hx hb hK hP 41 3 (wx_41 q ad z) rfl hi91 dX7_count_91 ?_
      refine W.eq (g2 := F0 m 92 ls [.ref (ad (16 + 2 * (Int32.toNatClampNeg (0 : Int32))))]) rfl ?_
      refine g_cVi (Wd := WX q ad) (z := z) (As := []) (rest := []) hG S (kX3_isNothing l D q ad A hD (Int32.toNatClampNeg (0 : Int32)) (g_sh hi91) z _ h) (cwV 0 ht (cW_V (fun _ h => h) tw_co_X3_isNothing tw_ml_X7_303 tw_im_X3_isNothing tw_se_X3_isNothing tw_in_X3) rfl rfl rfl (by decide +kernel) ⟨by decide, by decide⟩) (va_recv hK hP (ci := 3) (q0 := (16 + 2 * (Int32.toNatClampNeg (0 : Int32)))) rfl (wxs q ad z (g_sh hi91))) hE hP hS rfl hl.1 rfl (Nat.le_of_ble_eq_true rfl) dX7_count_92 ⟨Nat.zero_le _, Nat.zero_le _⟩ (fun r92 z92 H locs h hP hS => ?_)
      refine lv_if_eq (tgt := 103) hx hb dX7_count_95 (by decide) (fun c95 => ?_) (fun c95 => ?_)
      · have h := h.1 c95
        refine lv_aload_n hx hb dX7_count_103 rfl (lv_at hl 0 rfl) ?_
        refine va_get (D := D) (ci := 7) (v := .ref (ad 41)) (C := RX7) (T := TX7) (N := 12) hx hb ht tl_X7 hown hK hP 38 (wx_38 q ad z92) rfl 9 (by decide) (ht _ tw_fl_X7_66) (fun _ h9 => h9) rfl dX7_count_104 ?_
        refine lv_iconst (v := (0 : Int32)) hx hb dX7_count_107 (by decide) ?_
        have hi108 := h.1
        have h := h.2
        refine va_aldq hx hb hK hP 41 3 (wx_41 q ad z92) rfl hi108 dX7_count_108 ?_
        refine W.eq (g2 := F0 m 109 ls [.ref (ad (16 + 2 * (Int32.toNatClampNeg (0 : Int32))))]) rfl ?_
        refine va_get (D := D) (ci := 3) (v := .int (z92.1 (16 + 2 * (Int32.toNatClampNeg (0 : Int32))) 2)) (C := RX3) (T := TX3) (N := 3) hx hb ht tl_X3 hown hK hP (16 + 2 * (Int32.toNatClampNeg (0 : Int32))) (wxs q ad z92 (g_sh hi108)) rfl 2 (by decide) (ht _ tw_fl_X7_307) (fun _ h9 => h9) rfl dX7_count_109 ?_
        exact g_ri hG hx hb hr hlocks hE hP hS h dX7_count_112
      · have h := h.2 c95
        refine lv_bipush (v := (-4 : Int32)) hx hb dX7_count_98 (by decide) ?_
        refine lv_goto (tgt := 112) hx hb dX7_count_100 (by decide) ?_
        exact g_ri hG hx hb hr hlocks hE hP hS h dX7_count_112
    | 4, _, c1 =>
      have h := h.2.2.2.2.2.1 (g_eq c1 rfl)
      refine lv_tableIn (off := 112) (tgt := 113) hx hb dX7_count_1 (by rw [c1]; decide) (by rw [c1]; decide) (by rw [c1]; rfl) (by decide) ?_
      refine lv_aload_n hx hb dX7_count_113 rfl (lv_at hl 0 rfl) ?_
      refine va_get (D := D) (ci := 7) (v := .ref (ad (4 * 0))) (C := RX7) (T := TX7) (N := 12) hx hb ht tl_X7 hown hK hP 38 (wx_38 q ad z) rfl 0 (by decide) (ht _ tw_fl_X7_10) (fun _ h9 => h9) rfl dX7_count_114 ?_
      refine g_cVi (Wd := WX q ad) (z := z) (As := []) (rest := []) hG S (kX0_omenBits l D q ad A hD 0 (by decide) z _ h) (cwV 0 ht (cW_V (fun _ h => h) tw_co_X0_omenBits tw_ml_X7_109 tw_im_X0_omenBits tw_se_X0_omenBits tw_in_X0) rfl rfl rfl (by decide +kernel) ⟨by decide, by decide⟩) (va_recv hK hP (ci := 0) (q0 := (4 * 0)) rfl (wxl q ad z (by decide))) hE hP hS rfl hl.1 rfl (Nat.le_of_ble_eq_true rfl) dX7_count_117 ⟨Nat.zero_le _, Nat.zero_le _⟩ (fun r117 z117 H locs h hP hS => ?_)
      refine g_cSi (Wd := WX q ad) (z := z117) (As := [.int r117]) (rest := []) hG S (kJ6_bitCount_0f7a4 l D q ad A hD z117 r117 _ h) (va_cwS 1 ht (cW_S (fun _ h => h) tw_co_J6_bitCount_0f7a4 tw_ml_X7_223 tw_st_J6_bitCount_0f7a4 tw_in_J6) rfl rfl rfl (by decide +kernel) ⟨by decide, by decide⟩) hE hP hS rfl hl.1 rfl (Nat.le_of_ble_eq_true rfl) dX7_count_120 ⟨Nat.zero_le _, Nat.zero_le _⟩ (fun r120 z120 H locs h hP hS => ?_)
      exact g_ri hG hx hb hr hlocks hE hP hS h dX7_count_123
    | 5, _, c1 =>
      have h := h.2.2.2.2.2.2 (g_eq c1 rfl)
      refine lv_tableIn (off := 123) (tgt := 124) hx hb dX7_count_1 (by rw [c1]; decide) (by rw [c1]; decide) (by rw [c1]; rfl) (by decide) ?_
      refine lv_aload_n hx hb dX7_count_124 rfl (lv_at hl 0 rfl) ?_
      refine va_get (D := D) (ci := 7) (v := .ref (ad (4 * 0))) (C := RX7) (T := TX7) (N := 12) hx hb ht tl_X7 hown hK hP 38 (wx_38 q ad z) rfl 0 (by decide) (ht _ tw_fl_X7_10) (fun _ h9 => h9) rfl dX7_count_125 ?_
      refine g_cVi (Wd := WX q ad) (z := z) (As := []) (rest := []) hG S (kX0_allWorths l D q ad A hD 0 (by decide) z _ h) (cwV 0 ht (cW_V (fun _ h => h) tw_co_X0_allWorths tw_ml_X7_308 tw_im_X0_allWorths tw_se_X0_allWorths tw_in_X0) rfl rfl rfl (by decide +kernel) ⟨by decide, by decide⟩) (va_recv hK hP (ci := 0) (q0 := (4 * 0)) rfl (wxl q ad z (by decide))) hE hP hS rfl hl.1 rfl (Nat.le_of_ble_eq_true rfl) dX7_count_128 ⟨Nat.zero_le _, Nat.zero_le _⟩ (fun r128 z128 H locs h hP hS => ?_)
      exact g_ri hG hx hb hr hlocks hE hP hS h dX7_count_131
    | k + 6, hk, _ => exact absurd hk (by omega)
