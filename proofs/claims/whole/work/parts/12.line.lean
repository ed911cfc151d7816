def pJ6_bitCount_0f7a4 (z : MX) (x0 : Int32) (post : Int32 → MX → Prop) : Prop :=
  ∀ x0_9 : Int32, x0_9 = x0 - (((x0.toUInt32 >>> (Int32.toUInt32 (1 : Int32) &&& Int32.toUInt32 31)).toInt32) &&& (1431655765 : Int32)) →
  ∀ x0_23 : Int32, x0_23 = (x0_9 &&& (858993459 : Int32)) + (((x0_9.toUInt32 >>> (Int32.toUInt32 (2 : Int32) &&& Int32.toUInt32 31)).toInt32) &&& (858993459 : Int32)) →
  ∀ x0_33 : Int32, x0_33 = (x0_23 + ((x0_23.toUInt32 >>> (Int32.toUInt32 (4 : Int32) &&& Int32.toUInt32 31)).toInt32)) &&& (252645135 : Int32) →
  ∀ x0_40 : Int32, x0_40 = x0_33 + ((x0_33.toUInt32 >>> (Int32.toUInt32 (8 : Int32) &&& Int32.toUInt32 31)).toInt32) →
  ∀ x0_47 : Int32, x0_47 = x0_40 + ((x0_40.toUInt32 >>> (Int32.toUInt32 (16 : Int32) &&& Int32.toUInt32 31)).toInt32) →
  post (x0_47 &&& (63 : Int32)) z
set_option maxHeartbeats 4000000 in
set_option maxRecDepth 100000 in
theorem kJ6_bitCount_0f7a4 (l : Launch) (D : va_G) (q : Nat → ClassId) (ad : Nat → Nat) (A : Nat → Prop) (hD : ∀ z, va_D A (WX q ad z)) (z : MX) (x0 : Int32) (post : Int32 → MX → Prop) (h : pJ6_bitCount_0f7a4  z x0 post) : Met l yJ6_bitCount_0f7a4 (cW yJ6_bitCount_0f7a4 cJ6_bitCount_0f7a4 1 (some .int)) ({ frames := 0, cells := 0, slots := 0, locals := 0 } : Room) (va_Pc [.int x0] ((gB D vwCl (WX q ad) (xE D q ad A)) z)) (va_Qi post (gB D vwCl (WX q ad) (xE D q ad A)) A) 0 0 A := by
  refine Met.ofW (cc := cJ6_bitCount_0f7a4) (maxL := 1) (ret := (some .int)) (by decide) rfl ?_
  intro p e s m args below meth c s₁ B hml hv
  obtain ⟨hargs, hP, hE⟩ := hv
  have hx := B.exec
  have hb := B.bytes
  have hr := B.returns
  have hts := atoms_spec (ws := (cW yJ6_bitCount_0f7a4 cJ6_bitCount_0f7a4 1 (some .int))) B.pre
  have ht : ∀ w ∈ tG, w.before args s = true := fun w h => hts w (List.mem_cons_of_mem _ h)
  have hown : s.vm.findClass RJ6 = some m.cls := findClass_of_methodNamed B.named
  have hlocks := B.notSynchronized
  have hK := hE.1
  have hG := xE_G D q ad A
  have S : CallFix p m c cJ6_bitCount_0f7a4 1 s args tG RJ6 := ⟨hx, hb, hml, hown, ht⟩
  have hS : va_S A s.heap s.heap [] := va_S.rf
  refine g_entry (vs := [.int x0]) hargs (Nat.le_of_ble_eq_true rfl) (fun ls hl => ?_)
  have hl : lv_has ls 1 [(0, .int x0)] := hl
  unfold pJ6_bitCount_0f7a4 at h
  refine lv_iload_n hx hb dJ6_bitCount_0f7a4_0 rfl (lv_at hl 0 rfl) ?_
  refine lv_iload_n hx hb dJ6_bitCount_0f7a4_1 rfl (lv_at hl 0 rfl) ?_
  refine lv_iconst (v := (1 : Int32)) hx hb dJ6_bitCount_0f7a4_2 (by decide) ?_
  refine lv_iushr hx hb dJ6_bitCount_0f7a4_3 rfl ?_
  refine lv_ldcw (v := (1431655765 : Int32)) hx hb hown (ht _ tw_cn_J6_265) dJ6_bitCount_0f7a4_4 ?_
  refine lv_iand hx hb dJ6_bitCount_0f7a4_7 ?_
  refine lv_isub hx hb dJ6_bitCount_0f7a4_8 ?_
  refine lv_topi (fun x0_9 ex0_9 => ?_)
  have h := h x0_9 ex0_9
  refine lv_istore_n (lv' := [(0, .int x0_9)]) hx hb dJ6_bitCount_0f7a4_9 rfl hl (by decide) rfl (fun ls hl => ?_)
  refine lv_iload_n hx hb dJ6_bitCount_0f7a4_10 rfl (lv_at hl 0 rfl) ?_
  refine lv_ldcw (v := (858993459 : Int32)) hx hb hown (ht _ tw_cn_J6_266) dJ6_bitCount_0f7a4_11 ?_
  refine lv_iand hx hb dJ6_bitCount_0f7a4_14 ?_
  refine lv_iload_n hx hb dJ6_bitCount_0f7a4_15 rfl (lv_at hl 0 rfl) ?_
  refine lv_iconst (v := (2 : Int32)) hx hb dJ6_bitCount_0f7a4_16 (by decide) ?_
  refine lv_iushr hx hb dJ6_bitCount_0f7a4_17 rfl ?_
  refine lv_ldcw (v := (858993459 : Int32)) hx hb hown (ht _ tw_cn_J6_266) dJ6_bitCount_0f7a4_18 ?_
  refine lv_iand hx hb dJ6_bitCount_0f7a4_21 ?_
  refine lv_iadd hx hb dJ6_bitCount_0f7a4_22 ?_
  refine lv_topi (fun x0_23 ex0_23 => ?_)
  have h := h x0_23 ex0_23
  refine lv_istore_n (lv' := [(0, .int x0_23)]) hx hb dJ6_bitCount_0f7a4_23 rfl hl (by decide) rfl (fun ls hl => ?_)
  refine lv_iload_n hx hb dJ6_bitCount_0f7a4_24 rfl (lv_at hl 0 rfl) ?_
  refine lv_iload_n hx hb dJ6_bitCount_0f7a4_25 rfl (lv_at hl 0 rfl) ?_
  refine lv_iconst (v := (4 : Int32)) hx hb dJ6_bitCount_0f7a4_26 (by decide) ?_
  refine lv_iushr hx hb dJ6_bitCount_0f7a4_27 rfl ?_
  refine lv_iadd hx hb dJ6_bitCount_0f7a4_28 ?_
  refine lv_ldcw (v := (252645135 : Int32)) hx hb hown (ht _ tw_cn_J6_267) dJ6_bitCount_0f7a4_29 ?_
  refine lv_iand hx hb dJ6_bitCount_0f7a4_32 ?_
  refine lv_topi (fun x0_33 ex0_33 => ?_)
  have h := h x0_33 ex0_33
  refine lv_istore_n (lv' := [(0, .int x0_33)]) hx hb dJ6_bitCount_0f7a4_33 rfl hl (by decide) rfl (fun ls hl => ?_)
  refine lv_iload_n hx hb dJ6_bitCount_0f7a4_34 rfl (lv_at hl 0 rfl) ?_
  refine lv_iload_n hx hb dJ6_bitCount_0f7a4_35 rfl (lv_at hl 0 rfl) ?_
  refine lv_bipush (v := (8 : Int32)) hx hb dJ6_bitCount_0f7a4_36 (by decide) ?_
  refine lv_iushr hx hb dJ6_bitCount_0f7a4_38 rfl ?_
  refine lv_iadd hx hb dJ6_bitCount_0f7a4_39 ?_
  refine lv_topi (fun x0_40 ex0_40 => ?_)
  have h := h x0_40 ex0_40
  refine lv_istore_n (lv' := [(0, .int x0_40)]) hx hb dJ6_bitCount_0f7a4_40 rfl hl (by decide) rfl (fun ls hl => ?_)
  refine lv_iload_n hx hb dJ6_bitCount_0f7a4_41 rfl (lv_at hl 0 rfl) ?_
  refine lv_iload_n hx hb dJ6_bitCount_0f7a4_42 rfl (lv_at hl 0 rfl) ?_
  refine lv_bipush (v := (16 : Int32)) hx hb dJ6_bitCount_0f7a4_43 (by decide) ?_
  refine lv_iushr hx hb dJ6_bitCount_0f7a4_45 rfl ?_
  refine lv_iadd hx hb dJ6_bitCount_0f7a4_46 ?_
  refine lv_topi (fun x0_47 ex0_47 => ?_)
  have h := h x0_47 ex0_47
  refine lv_istore_n (lv' := [(0, .int x0_47)]) hx hb dJ6_bitCount_0f7a4_47 rfl hl (by decide) rfl (fun ls hl => ?_)
  refine lv_iload_n hx hb dJ6_bitCount_0f7a4_48 rfl (lv_at hl 0 rfl) ?_
  refine lv_bipush (v := (63 : Int32)) hx hb dJ6_bitCount_0f7a4_49 (by decide) ?_
  refine lv_iand hx hb dJ6_bitCount_0f7a4_51 ?_
  exact g_ri hG hx hb hr hlocks hE hP hS h dJ6_bitCount_0f7a4_52
def pX7_isZeroOrOne_b9 (post : Int32 → MX → Prop) (z : MX) : Prop :=
    (((1 : Int32) = 0 ∨ (1 : Int32) = 1) ∧ post (1 : Int32) z)
def pX7_isZeroOrOne (z : MX) (x0 : Int32) (post : Int32 → MX → Prop) : Prop :=
  ((x0 = 0 →
    pX7_isZeroOrOne_b9  post z) ∧
  (¬ x0 = 0 →
    ((¬ x0 = (1 : Int32) →
      (((0 : Int32) = 0 ∨ (0 : Int32) = 1) ∧ post (0 : Int32) z)) ∧
    (x0 = (1 : Int32) →
      pX7_isZeroOrOne_b9  post z))))
set_option maxHeartbeats 4000000 in
set_option maxRecDepth 100000 in
theorem kX7_isZeroOrOne (l : Launch) (D : va_G) (q : Nat → ClassId) (ad : Nat → Nat) (A : Nat → Prop) (hD : ∀ z, va_D A (WX q ad z)) (z : MX) (x0 : Int32) (post : Int32 → MX → Prop) (h : pX7_isZeroOrOne  z x0 post) : Met l yX7_isZeroOrOne (cW yX7_isZeroOrOne cX7_isZeroOrOne 1 (some .boolean)) ({ frames := 0, cells := 0, slots := 0, locals := 0 } : Room) (va_Pc [.int x0] ((gB D vwCl (WX q ad) (xE D q ad A)) z)) (va_Qi post (gB D vwCl (WX q ad) (xE D q ad A)) A) 0 0 A := by
  refine Met.ofW (cc := cX7_isZeroOrOne) (maxL := 1) (ret := (some .boolean)) (by decide) rfl ?_
  intro p e s m args below meth c s₁ B hml hv
  obtain ⟨hargs, hP, hE⟩ := hv
  have hx := B.exec
  have hb := B.bytes
  have hr := B.returns
  have hts := atoms_spec (ws := (cW yX7_isZeroOrOne cX7_isZeroOrOne 1 (some .boolean))) B.pre
  have ht : ∀ w ∈ tG, w.before args s = true := fun w h => hts w (List.mem_cons_of_mem _ h)
  have hown : s.vm.findClass RX7 = some m.cls := findClass_of_methodNamed B.named
  have hlocks := B.notSynchronized
  have hK := hE.1
  have hG := xE_G D q ad A
  have S : CallFix p m c cX7_isZeroOrOne 1 s args tG RX7 := ⟨hx, hb, hml, hown, ht⟩
  have hS : va_S A s.heap s.heap [] := va_S.rf
  have B9 : ∀ (z : MX) (H : Heap) (locs : List Loc) (ls : Array Slot), pX7_isZeroOrOne_b9  post z → va_P D vwCl (WX q ad z) H → va_S A s.heap H locs → lv_has ls 1 [] → W p l e (headSpec (cW yX7_isZeroOrOne cX7_isZeroOrOne 1 (some .boolean)) ({ frames := 0, cells := 0, slots := 0, locals := 0 } : Room)).room s m args below meth c H locs 0 0 (MQ below (va_Qi post (gB D vwCl (WX q ad) (xE D q ad A)) A) args s 0 0 A) (F0 m 9 ls []) := by
    intro z H locs ls h hP hS hl
    unfold pX7_isZeroOrOne_b9 at h
    refine lv_iconst (v := (1 : Int32)) hx hb dX7_isZeroOrOne_9 (by decide) ?_
    refine lv_goto (tgt := 14) hx hb dX7_isZeroOrOne_10 (by decide) ?_
    exact g_rz hG hx hb hr hlocks hE hP hS h dX7_isZeroOrOne_14
  refine g_entry (vs := [.int x0]) hargs (Nat.le_of_ble_eq_true rfl) (fun ls hl => ?_)
  have hl : lv_has ls 1 [(0, .int x0)] := hl
  unfold pX7_isZeroOrOne at h
  refine lv_iload_n hx hb dX7_isZeroOrOne_0 rfl (lv_at hl 0 rfl) ?_
  refine lv_if_eq (tgt := 9) hx hb dX7_isZeroOrOne_1 (by decide) (fun c1 => ?_) (fun c1 => ?_)
  · have h := h.1 c1
    exact B9 z _ _ _ h hP hS (lv_sub hl [] rfl)
  · have h := h.2 c1
    refine lv_iload_n hx hb dX7_isZeroOrOne_4 rfl (lv_at hl 0 rfl) ?_
    refine lv_iconst (v := (1 : Int32)) hx hb dX7_isZeroOrOne_5 (by decide) ?_
    refine lv_icmp_ne (tgt := 13) hx hb dX7_isZeroOrOne_6 (by decide) (fun c6 => ?_) (fun c6 => ?_)
    · have h := h.1 c6
      refine lv_iconst (v := (0 : Int32)) hx hb dX7_isZeroOrOne_13 (by decide) ?_
      exact g_rz hG hx hb hr hlocks hE hP hS h dX7_isZeroOrOne_14
    · have h := h.2 c6
      exact B9 z _ _ _ h hP hS (lv_sub hl [] rfl)
def pX7_isFact (z : MX) (x0 : Int32) (post : Int32 → MX → Prop) : Prop :=
  ((x0 < 0 →
    (((0 : Int32) = 0 ∨ (0 : Int32) = 1) ∧ post (0 : Int32) z)) ∧
  (¬ x0 < 0 →
    (((4 : Int32) ≤ x0 →
      (((0 : Int32) = 0 ∨ (0 : Int32) = 1) ∧ post (0 : Int32) z)) ∧
    (¬ (4 : Int32) ≤ x0 →
      (((1 : Int32) = 0 ∨ (1 : Int32) = 1) ∧ post (1 : Int32) z)))))
set_option maxHeartbeats 4000000 in
set_option maxRecDepth 100000 in
theorem kX7_isFact (l : Launch) (D : va_G) (q : Nat → ClassId) (ad : Nat → Nat) (A : Nat → Prop) (hD : ∀ z, va_D A (WX q ad z)) (z : MX) (x0 : Int32) (post : Int32 → MX → Prop) (h : pX7_isFact  z x0 post) : Met l yX7_isFact (cW yX7_isFact cX7_isFact 1 (some .boolean)) ({ frames := 0, cells := 0, slots := 0, locals := 0 } : Room) (va_Pc [.int x0] ((gB D vwCl (WX q ad) (xE D q ad A)) z)) (va_Qi post (gB D vwCl (WX q ad) (xE D q ad A)) A) 0 0 A := by
  refine Met.ofW (cc := cX7_isFact) (maxL := 1) (ret := (some .boolean)) (by decide) rfl ?_
  intro p e s m args below meth c s₁ B hml hv
  obtain ⟨hargs, hP, hE⟩ := hv
  have hx := B.exec
  have hb := B.bytes
  have hr := B.returns
  have hts := atoms_spec (ws := (cW yX7_isFact cX7_isFact 1 (some .boolean))) B.pre
  have ht : ∀ w ∈ tG, w.before args s = true := fun w h => hts w (List.mem_cons_of_mem _ h)
  have hown : s.vm.findClass RX7 = some m.cls := findClass_of_methodNamed B.named
  have hlocks := B.notSynchronized
  have hK := hE.1
  have hG := xE_G D q ad A
  have S : CallFix p m c cX7_isFact 1 s args tG RX7 := ⟨hx, hb, hml, hown, ht⟩
  have hS : va_S A s.heap s.heap [] := va_S.rf
  refine g_entry (vs := [.int x0]) hargs (Nat.le_of_ble_eq_true rfl) (fun ls hl => ?_)
  have hl : lv_has ls 1 [(0, .int x0)] := hl
  unfold pX7_isFact at h
  refine lv_iload_n hx hb dX7_isFact_0 rfl (lv_at hl 0 rfl) ?_
  refine lv_if_lt (tgt := 13) hx hb dX7_isFact_1 (by decide) (fun c1 => ?_) (fun c1 => ?_)
  · have h := h.1 c1
    refine lv_iconst (v := (0 : Int32)) hx hb dX7_isFact_13 (by decide) ?_
    exact g_rz hG hx hb hr hlocks hE hP hS h dX7_isFact_14
  · have h := h.2 c1
    refine lv_iload_n hx hb dX7_isFact_4 rfl (lv_at hl 0 rfl) ?_
    refine lv_iconst (v := (4 : Int32)) hx hb dX7_isFact_5 (by decide) ?_
    refine lv_icmp_ge (tgt := 13) hx hb dX7_isFact_6 (by decide) (fun c6 => ?_) (fun c6 => ?_)
    · have h := h.1 c6
      refine lv_iconst (v := (0 : Int32)) hx hb dX7_isFact_13 (by decide) ?_
      exact g_rz hG hx hb hr hlocks hE hP hS h dX7_isFact_14
    · have h := h.2 c6
      refine lv_iconst (v := (1 : Int32)) hx hb dX7_isFact_9 (by decide) ?_
      refine lv_goto (tgt := 14) hx hb dX7_isFact_10 (by decide) ?_
      exact g_rz hG hx hb hr hlocks hE hP hS h dX7_isFact_14
def pX7_isFaith (z : MX) (x0 : Int32) (post : Int32 → MX → Prop) : Prop :=
  ((x0 < 0 →
    (((0 : Int32) = 0 ∨ (0 : Int32) = 1) ∧ post (0 : Int32) z)) ∧
  (¬ x0 < 0 →
    (((4 : Int32) ≤ x0 →
      (((0 : Int32) = 0 ∨ (0 : Int32) = 1) ∧ post (0 : Int32) z)) ∧
    (¬ (4 : Int32) ≤ x0 →
      (((1 : Int32) = 0 ∨ (1 : Int32) = 1) ∧ post (1 : Int32) z)))))
set_option maxHeartbeats 4000000 in
set_option maxRecDepth 100000 in
theorem kX7_isFaith (l : Launch) (D : va_G) (q : Nat → ClassId) (ad : Nat → Nat) (A : Nat → Prop) (hD : ∀ z, va_D A (WX q ad z)) (z : MX) (x0 : Int32) (post : Int32 → MX → Prop) (h : pX7_isFaith  z x0 post) : Met l yX7_isFaith (cW yX7_isFaith cX7_isFaith 1 (some .boolean)) ({ frames := 0, cells := 0, slots := 0, locals := 0 } : Room) (va_Pc [.int x0] ((gB D vwCl (WX q ad) (xE D q ad A)) z)) (va_Qi post (gB D vwCl (WX q ad) (xE D q ad A)) A) 0 0 A := by
  refine Met.ofW (cc := cX7_isFaith) (maxL := 1) (ret := (some .boolean)) (by decide) rfl ?_
  intro p e s m args below meth c s₁ B hml hv
  obtain ⟨hargs, hP, hE⟩ := hv
  have hx := B.exec
  have hb := B.bytes
  have hr := B.returns
  have hts := atoms_spec (ws := (cW yX7_isFaith cX7_isFaith 1 (some .boolean))) B.pre
  have ht : ∀ w ∈ tG, w.before args s = true := fun w h => hts w (List.mem_cons_of_mem _ h)
  have hown : s.vm.findClass RX7 = some m.cls := findClass_of_methodNamed B.named
  have hlocks := B.notSynchronized
  have hK := hE.1
  have hG := xE_G D q ad A
  have S : CallFix p m c cX7_isFaith 1 s args tG RX7 := ⟨hx, hb, hml, hown, ht⟩
  have hS : va_S A s.heap s.heap [] := va_S.rf
  refine g_entry (vs := [.int x0]) hargs (Nat.le_of_ble_eq_true rfl) (fun ls hl => ?_)
  have hl : lv_has ls 1 [(0, .int x0)] := hl
  unfold pX7_isFaith at h
  refine lv_iload_n hx hb dX7_isFaith_0 rfl (lv_at hl 0 rfl) ?_
  refine lv_if_lt (tgt := 13) hx hb dX7_isFaith_1 (by decide) (fun c1 => ?_) (fun c1 => ?_)
  · have h := h.1 c1
    refine lv_iconst (v := (0 : Int32)) hx hb dX7_isFaith_13 (by decide) ?_
    exact g_rz hG hx hb hr hlocks hE hP hS h dX7_isFaith_14
  · have h := h.2 c1
    refine lv_iload_n hx hb dX7_isFaith_4 rfl (lv_at hl 0 rfl) ?_
    refine lv_iconst (v := (4 : Int32)) hx hb dX7_isFaith_5 (by decide) ?_
    refine lv_icmp_ge (tgt := 13) hx hb dX7_isFaith_6 (by decide) (fun c6 => ?_) (fun c6 => ?_)
    · have h := h.1 c6
      refine lv_iconst (v := (0 : Int32)) hx hb dX7_isFaith_13 (by decide) ?_
      exact g_rz hG hx hb hr hlocks hE hP hS h dX7_isFaith_14
    · have h := h.2 c6
      refine lv_iconst (v := (1 : Int32)) hx hb dX7_isFaith_9 (by decide) ?_
      refine lv_goto (tgt := 14) hx hb dX7_isFaith_10 (by decide) ?_
      exact g_rz hG hx hb hr hlocks hE hP hS h dX7_isFaith_14
def pX7_isOmen (z : MX) (x0 : Int32) (post : Int32 → MX → Prop) : Prop :=
  ((x0 < 0 →
    (((0 : Int32) = 0 ∨ (0 : Int32) = 1) ∧ post (0 : Int32) z)) ∧
  (¬ x0 < 0 →
    (((5 : Int32) ≤ x0 →
      (((0 : Int32) = 0 ∨ (0 : Int32) = 1) ∧ post (0 : Int32) z)) ∧
    (¬ (5 : Int32) ≤ x0 →
      (((1 : Int32) = 0 ∨ (1 : Int32) = 1) ∧ post (1 : Int32) z)))))
set_option maxHeartbeats 4000000 in
set_option maxRecDepth 100000 in
theorem kX7_isOmen (l : Launch) (D : va_G) (q : Nat → ClassId) (ad : Nat → Nat) (A : Nat → Prop) (hD : ∀ z, va_D A (WX q ad z)) (z : MX) (x0 : Int32) (post : Int32 → MX → Prop) (h : pX7_isOmen  z x0 post) : Met l yX7_isOmen (cW yX7_isOmen cX7_isOmen 1 (some .boolean)) ({ frames := 0, cells := 0, slots := 0, locals := 0 } : Room) (va_Pc [.int x0] ((gB D vwCl (WX q ad) (xE D q ad A)) z)) (va_Qi post (gB D vwCl (WX q ad) (xE D q ad A)) A) 0 0 A := by
  refine Met.ofW (cc := cX7_isOmen) (maxL := 1) (ret := (some .boolean)) (by decide) rfl ?_
  intro p e s m args below meth c s₁ B hml hv
  obtain ⟨hargs, hP, hE⟩ := hv
  have hx := B.exec
  have hb := B.bytes
  have hr := B.returns
  have hts := atoms_spec (ws := (cW yX7_isOmen cX7_isOmen 1 (some .boolean))) B.pre
  have ht : ∀ w ∈ tG, w.before args s = true := fun w h => hts w (List.mem_cons_of_mem _ h)
  have hown : s.vm.findClass RX7 = some m.cls := findClass_of_methodNamed B.named
  have hlocks := B.notSynchronized
  have hK := hE.1
  have hG := xE_G D q ad A
  have S : CallFix p m c cX7_isOmen 1 s args tG RX7 := ⟨hx, hb, hml, hown, ht⟩
  have hS : va_S A s.heap s.heap [] := va_S.rf
  refine g_entry (vs := [.int x0]) hargs (Nat.le_of_ble_eq_true rfl) (fun ls hl => ?_)
  have hl : lv_has ls 1 [(0, .int x0)] := hl
  unfold pX7_isOmen at h
  refine lv_iload_n hx hb dX7_isOmen_0 rfl (lv_at hl 0 rfl) ?_
  refine lv_if_lt (tgt := 13) hx hb dX7_isOmen_1 (by decide) (fun c1 => ?_) (fun c1 => ?_)
  · have h := h.1 c1
    refine lv_iconst (v := (0 : Int32)) hx hb dX7_isOmen_13 (by decide) ?_
    exact g_rz hG hx hb hr hlocks hE hP hS h dX7_isOmen_14
  · have h := h.2 c1
    refine lv_iload_n hx hb dX7_isOmen_4 rfl (lv_at hl 0 rfl) ?_
    refine lv_iconst (v := (5 : Int32)) hx hb dX7_isOmen_5 (by decide) ?_
    refine lv_icmp_ge (tgt := 13) hx hb dX7_isOmen_6 (by decide) (fun c6 => ?_) (fun c6 => ?_)
    · have h := h.1 c6
      refine lv_iconst (v := (0 : Int32)) hx hb dX7_isOmen_13 (by decide) ?_
      exact g_rz hG hx hb hr hlocks hE hP hS h dX7_isOmen_14
    · have h := h.2 c6
      refine lv_iconst (v := (1 : Int32)) hx hb dX7_isOmen_9 (by decide) ?_
      refine lv_goto (tgt := 14) hx hb dX7_isOmen_10 (by decide) ?_
      exact g_rz hG hx hb hr hlocks hE hP hS h dX7_isOmen_14
def pX7_isMinute (z : MX) (x0 : Int32) (post : Int32 → MX → Prop) : Prop :=
  ((x0 < 0 →
    (((0 : Int32) = 0 ∨ (0 : Int32) = 1) ∧ post (0 : Int32) z)) ∧
  (¬ x0 < 0 →
    (((120 : Int32) ≤ x0 →
      (((0 : Int32) = 0 ∨ (0 : Int32) = 1) ∧ post (0 : Int32) z)) ∧
    (¬ (120 : Int32) ≤ x0 →
      (((1 : Int32) = 0 ∨ (1 : Int32) = 1) ∧ post (1 : Int32) z)))))
set_option maxHeartbeats 4000000 in
set_option maxRecDepth 100000 in
theorem kX7_isMinute (l : Launch) (D : va_G) (q : Nat → ClassId) (ad : Nat → Nat) (A : Nat → Prop) (hD : ∀ z, va_D A (WX q ad z)) (z : MX) (x0 : Int32) (post : Int32 → MX → Prop) (h : pX7_isMinute  z x0 post) : Met l yX7_isMinute (cW yX7_isMinute cX7_isMinute 1 (some .boolean)) ({ frames := 0, cells := 0, slots := 0, locals := 0 } : Room) (va_Pc [.int x0] ((gB D vwCl (WX q ad) (xE D q ad A)) z)) (va_Qi post (gB D vwCl (WX q ad) (xE D q ad A)) A) 0 0 A := by
  refine Met.ofW (cc := cX7_isMinute) (maxL := 1) (ret := (some .boolean)) (by decide) rfl ?_
  intro p e s m args below meth c s₁ B hml hv
  obtain ⟨hargs, hP, hE⟩ := hv
  have hx := B.exec
  have hb := B.bytes
  have hr := B.returns
  have hts := atoms_spec (ws := (cW yX7_isMinute cX7_isMinute 1 (some .boolean))) B.pre
  have ht : ∀ w ∈ tG, w.before args s = true := fun w h => hts w (List.mem_cons_of_mem _ h)
  have hown : s.vm.findClass RX7 = some m.cls := findClass_of_methodNamed B.named
  have hlocks := B.notSynchronized
  have hK := hE.1
  have hG := xE_G D q ad A
  have S : CallFix p m c cX7_isMinute 1 s args tG RX7 := ⟨hx, hb, hml, hown, ht⟩
  have hS : va_S A s.heap s.heap [] := va_S.rf
  refine g_entry (vs := [.int x0]) hargs (Nat.le_of_ble_eq_true rfl) (fun ls hl => ?_)
  have hl : lv_has ls 1 [(0, .int x0)] := hl
  unfold pX7_isMinute at h
  refine lv_iload_n hx hb dX7_isMinute_0 rfl (lv_at hl 0 rfl) ?_
  refine lv_if_lt (tgt := 14) hx hb dX7_isMinute_1 (by decide) (fun c1 => ?_) (fun c1 => ?_)
  · have h := h.1 c1
    refine lv_iconst (v := (0 : Int32)) hx hb dX7_isMinute_14 (by decide) ?_
    exact g_rz hG hx hb hr hlocks hE hP hS h dX7_isMinute_15
  · have h := h.2 c1
    refine lv_iload_n hx hb dX7_isMinute_4 rfl (lv_at hl 0 rfl) ?_
    refine lv_bipush (v := (120 : Int32)) hx hb dX7_isMinute_5 (by decide) ?_
    refine lv_icmp_ge (tgt := 14) hx hb dX7_isMinute_7 (by decide) (fun c7 => ?_) (fun c7 => ?_)
    · have h := h.1 c7
      refine lv_iconst (v := (0 : Int32)) hx hb dX7_isMinute_14 (by decide) ?_
      exact g_rz hG hx hb hr hlocks hE hP hS h dX7_isMinute_15
    · have h := h.2 c7
      refine lv_iconst (v := (1 : Int32)) hx hb dX7_isMinute_10 (by decide) ?_
      refine lv_goto (tgt := 15) hx hb dX7_isMinute_11 (by decide) ?_
      exact g_rz hG hx hb hr hlocks hE hP hS h dX7_isMinute_15
def pX7_isSheet (z : MX) (x0 : Int32) (post : Int32 → MX → Prop) : Prop :=
  ((x0 < 0 →
    (((0 : Int32) = 0 ∨ (0 : Int32) = 1) ∧ post (0 : Int32) z)) ∧
  (¬ x0 < 0 →
    (((4 : Int32) ≤ x0 →
      (((0 : Int32) = 0 ∨ (0 : Int32) = 1) ∧ post (0 : Int32) z)) ∧
    (¬ (4 : Int32) ≤ x0 →
      (((1 : Int32) = 0 ∨ (1 : Int32) = 1) ∧ post (1 : Int32) z)))))
set_option maxHeartbeats 4000000 in
set_option maxRecDepth 100000 in
theorem kX7_isSheet (l : Launch) (D : va_G) (q : Nat → ClassId) (ad : Nat → Nat) (A : Nat → Prop) (hD : ∀ z, va_D A (WX q ad z)) (z : MX) (x0 : Int32) (post : Int32 → MX → Prop) (h : pX7_isSheet  z x0 post) : Met l yX7_isSheet (cW yX7_isSheet cX7_isSheet 1 (some .boolean)) ({ frames := 0, cells := 0, slots := 0, locals := 0 } : Room) (va_Pc [.int x0] ((gB D vwCl (WX q ad) (xE D q ad A)) z)) (va_Qi post (gB D vwCl (WX q ad) (xE D q ad A)) A) 0 0 A := by
  refine Met.ofW (cc := cX7_isSheet) (maxL := 1) (ret := (some .boolean)) (by decide) rfl ?_
  intro p e s m args below meth c s₁ B hml hv
  obtain ⟨hargs, hP, hE⟩ := hv
  have hx := B.exec
  have hb := B.bytes
  have hr := B.returns
  have hts := atoms_spec (ws := (cW yX7_isSheet cX7_isSheet 1 (some .boolean))) B.pre
  have ht : ∀ w ∈ tG, w.before args s = true := fun w h => hts w (List.mem_cons_of_mem _ h)
  have hown : s.vm.findClass RX7 = some m.cls := findClass_of_methodNamed B.named
  have hlocks := B.notSynchronized
  have hK := hE.1
  have hG := xE_G D q ad A
  have S : CallFix p m c cX7_isSheet 1 s args tG RX7 := ⟨hx, hb, hml, hown, ht⟩
  have hS : va_S A s.heap s.heap [] := va_S.rf
  refine g_entry (vs := [.int x0]) hargs (Nat.le_of_ble_eq_true rfl) (fun ls hl => ?_)
  have hl : lv_has ls 1 [(0, .int x0)] := hl
  unfold pX7_isSheet at h
  refine lv_iload_n hx hb dX7_isSheet_0 rfl (lv_at hl 0 rfl) ?_
  refine lv_if_lt (tgt := 13) hx hb dX7_isSheet_1 (by decide) (fun c1 => ?_) (fun c1 => ?_)
  · have h := h.1 c1
    refine lv_iconst (v := (0 : Int32)) hx hb dX7_isSheet_13 (by decide) ?_
    exact g_rz hG hx hb hr hlocks hE hP hS h dX7_isSheet_14
  · have h := h.2 c1
    refine lv_iload_n hx hb dX7_isSheet_4 rfl (lv_at hl 0 rfl) ?_
    refine lv_iconst (v := (4 : Int32)) hx hb dX7_isSheet_5 (by decide) ?_
    refine lv_icmp_ge (tgt := 13) hx hb dX7_isSheet_6 (by decide) (fun c6 => ?_) (fun c6 => ?_)
    · have h := h.1 c6
      refine lv_iconst (v := (0 : Int32)) hx hb dX7_isSheet_13 (by decide) ?_
      exact g_rz hG hx hb hr hlocks hE hP hS h dX7_isSheet_14
    · have h := h.2 c6
      refine lv_iconst (v := (1 : Int32)) hx hb dX7_isSheet_9 (by decide) ?_
      refine lv_goto (tgt := 14) hx hb dX7_isSheet_10 (by decide) ?_
      exact g_rz hG hx hb hr hlocks hE hP hS h dX7_isSheet_14
def pX7_isLane (z : MX) (x0 : Int32) (post : Int32 → MX → Prop) : Prop :=
  ((x0 < 0 →
    (((0 : Int32) = 0 ∨ (0 : Int32) = 1) ∧ post (0 : Int32) z)) ∧
  (¬ x0 < 0 →
    (((3 : Int32) ≤ x0 →
      (((0 : Int32) = 0 ∨ (0 : Int32) = 1) ∧ post (0 : Int32) z)) ∧
    (¬ (3 : Int32) ≤ x0 →
      (((1 : Int32) = 0 ∨ (1 : Int32) = 1) ∧ post (1 : Int32) z)))))
set_option maxHeartbeats 4000000 in
set_option maxRecDepth 100000 in
theorem kX7_isLane (l : Launch) (D : va_G) (q : Nat → ClassId) (ad : Nat → Nat) (A : Nat → Prop) (hD : ∀ z, va_D A (WX q ad z)) (z : MX) (x0 : Int32) (post : Int32 → MX → Prop) (h : pX7_isLane  z x0 post) : Met l yX7_isLane (cW yX7_isLane cX7_isLane 1 (some .boolean)) ({ frames := 0, cells := 0, slots := 0, locals := 0 } : Room) (va_Pc [.int x0] ((gB D vwCl (WX q ad) (xE D q ad A)) z)) (va_Qi post (gB D vwCl (WX q ad) (xE D q ad A)) A) 0 0 A := by
  refine Met.ofW (cc := cX7_isLane) (maxL := 1) (ret := (some .boolean)) (by decide) rfl ?_
  intro p e s m args below meth c s₁ B hml hv
  obtain ⟨hargs, hP, hE⟩ := hv
  have hx := B.exec
  have hb := B.bytes
  have hr := B.returns
  have hts := atoms_spec (ws := (cW yX7_isLane cX7_isLane 1 (some .boolean))) B.pre
  have ht : ∀ w ∈ tG, w.before args s = true := fun w h => hts w (List.mem_cons_of_mem _ h)
  have hown : s.vm.findClass RX7 = some m.cls := findClass_of_methodNamed B.named
  have hlocks := B.notSynchronized
  have hK := hE.1
  have hG := xE_G D q ad A
  have S : CallFix p m c cX7_isLane 1 s args tG RX7 := ⟨hx, hb, hml, hown, ht⟩
  have hS : va_S A s.heap s.heap [] := va_S.rf
  refine g_entry (vs := [.int x0]) hargs (Nat.le_of_ble_eq_true rfl) (fun ls hl => ?_)
  have hl : lv_has ls 1 [(0, .int x0)] := hl
  unfold pX7_isLane at h
  refine lv_iload_n hx hb dX7_isLane_0 rfl (lv_at hl 0 rfl) ?_
  refine lv_if_lt (tgt := 13) hx hb dX7_isLane_1 (by decide) (fun c1 => ?_) (fun c1 => ?_)
  · have h := h.1 c1
    refine lv_iconst (v := (0 : Int32)) hx hb dX7_isLane_13 (by decide) ?_
    exact g_rz hG hx hb hr hlocks hE hP hS h dX7_isLane_14
  · have h := h.2 c1
    refine lv_iload_n hx hb dX7_isLane_4 rfl (lv_at hl 0 rfl) ?_
    refine lv_iconst (v := (3 : Int32)) hx hb dX7_isLane_5 (by decide) ?_
    refine lv_icmp_ge (tgt := 13) hx hb dX7_isLane_6 (by decide) (fun c6 => ?_) (fun c6 => ?_)
    · have h := h.1 c6
      refine lv_iconst (v := (0 : Int32)) hx hb dX7_isLane_13 (by decide) ?_
      exact g_rz hG hx hb hr hlocks hE hP hS h dX7_isLane_14
    · have h := h.2 c6
      refine lv_iconst (v := (1 : Int32)) hx hb dX7_isLane_9 (by decide) ?_
      refine lv_goto (tgt := 14) hx hb dX7_isLane_10 (by decide) ?_
      exact g_rz hG hx hb hr hlocks hE hP hS h dX7_isLane_14
def pX0_clear (i : Nat) (z : MX) (post : MX → Prop) : Prop :=
  ∀ z2 : MX, z2 = mw z (4 * i) 0 (4 : Int32) →
  ∀ z7 : MX, z7 = mw z2 (4 * i) 1 (0 : Int32) →
  ∀ z12 : MX, z12 = mw z7 (4 * i) 2 (0 : Int32) →
  ∀ z17 : MX, z17 = mw z12 (4 * i) 3 (0 : Int32) →
  ∀ z25 : MX, z25 = mf z17 (4 * i + 1) (fun k => if k < 8 then (0 : Int32) else z17.1 (4 * i + 1) k) →
  post z25
set_option maxHeartbeats 4000000 in
set_option maxRecDepth 100000 in
theorem kX0_clear (l : Launch) (D : va_G) (q : Nat → ClassId) (ad : Nat → Nat) (A : Nat → Prop) (hD : ∀ z, va_D A (WX q ad z)) (i : Nat) (hi : i < 4) (z : MX) (post : MX → Prop) (h : pX0_clear i z post) : Met l yX0_clear (cW yX0_clear cX0_clear 1 none) ({ frames := 1, cells := 0, slots := 0, locals := 23 } : Room) (va_Pc [.ref (ad (4 * i))] ((gB D vwCl (WX q ad) (xE D q ad A)) z)) (va_Qv post (gB D vwCl (WX q ad) (xE D q ad A)) A) 0 0 A := by
  refine Met.ofW (cc := cX0_clear) (maxL := 1) (ret := none) (by decide) rfl ?_
  intro p e s m args below meth c s₁ B hml hv
  obtain ⟨hargs, hP, hE⟩ := hv
  have hx := B.exec
  have hb := B.bytes
  have hr := B.returns
  have hts := atoms_spec (ws := (cW yX0_clear cX0_clear 1 none)) B.pre
  have ht : ∀ w ∈ tG, w.before args s = true := fun w h => hts w (List.mem_cons_of_mem _ h)
  have hown : s.vm.findClass RX0 = some m.cls := findClass_of_methodNamed B.named
  have hlocks := B.notSynchronized
  have hK := hE.1
  have hG := xE_G D q ad A
  have S : CallFix p m c cX0_clear 1 s args tG RX0 := ⟨hx, hb, hml, hown, ht⟩
  have hS : va_S A s.heap s.heap [] := va_S.rf
  refine g_entry (vs := [.ref (ad (4 * i))]) hargs (Nat.le_of_ble_eq_true rfl) (fun ls hl => ?_)
  have hl : lv_has ls 1 [(0, .ref (ad (4 * i)))] := hl
  unfold pX0_clear at h
  refine lv_aload_n hx hb dX0_clear_0 rfl (lv_at hl 0 rfl) ?_
  refine lv_iconst (v := (4 : Int32)) hx hb dX0_clear_1 (by decide) ?_
  refine g_put (D := D) (Wd := WX q ad) (z := z) (ci := 0) (v := .int (4 : Int32)) (ty := .int) (C := RX0) (T := TX0) (N := 7) hx hb ht tl_X0 tyX0 tyX0_ok nmX0 hown hK hP (hD z) hS (4 * i) (wxl q ad z hi) rfl 0 (by decide) (ht _ tw_fl_X0_9) (fun _ h9 => h9) rfl rfl rfl rfl (Nat.le_of_ble_eq_true rfl) ((pxl_0 q ad z hi) (4 : Int32)) dX0_clear_2 (fun z2 H locs hz2 hP hS => ?_)
  have h := h z2 hz2
  refine lv_aload_n hx hb dX0_clear_5 rfl (lv_at hl 0 rfl) ?_
  refine lv_iconst (v := (0 : Int32)) hx hb dX0_clear_6 (by decide) ?_
  refine g_put (D := D) (Wd := WX q ad) (z := z2) (ci := 0) (v := .int (0 : Int32)) (ty := .int) (C := RX0) (T := TX0) (N := 7) hx hb ht tl_X0 tyX0 tyX0_ok nmX0 hown hK hP (hD z2) hS (4 * i) (wxl q ad z2 hi) rfl 1 (by decide) (ht _ tw_fl_X0_25) (fun _ h9 => h9) rfl rfl rfl rfl (Nat.le_of_ble_eq_true rfl) ((pxl_1 q ad z2 hi) (0 : Int32)) dX0_clear_7 (fun z7 H locs hz7 hP hS => ?_)
  have h := h z7 hz7
  refine lv_aload_n hx hb dX0_clear_10 rfl (lv_at hl 0 rfl) ?_
  refine lv_iconst (v := (0 : Int32)) hx hb dX0_clear_11 (by decide) ?_
  refine g_put (D := D) (Wd := WX q ad) (z := z7) (ci := 0) (v := .int (0 : Int32)) (ty := .int) (C := RX0) (T := TX0) (N := 7) hx hb ht tl_X0 tyX0 tyX0_ok nmX0 hown hK hP (hD z7) hS (4 * i) (wxl q ad z7 hi) rfl 2 (by decide) (ht _ tw_fl_X0_28) (fun _ h9 => h9) rfl rfl rfl rfl (Nat.le_of_ble_eq_true rfl) ((pxl_2 q ad z7 hi) (0 : Int32)) dX0_clear_12 (fun z12 H locs hz12 hP hS => ?_)
  have h := h z12 hz12
  refine lv_aload_n hx hb dX0_clear_15 rfl (lv_at hl 0 rfl) ?_
  refine lv_iconst (v := (0 : Int32)) hx hb dX0_clear_16 (by decide) ?_
  refine g_put (D := D) (Wd := WX q ad) (z := z12) (ci := 0) (v := .int (0 : Int32)) (ty := .int) (C := RX0) (T := TX0) (N := 7) hx hb ht tl_X0 tyX0 tyX0_ok nmX0 hown hK hP (hD z12) hS (4 * i) (wxl q ad z12 hi) rfl 3 (by decide) (ht _ tw_fl_X0_31) (fun _ h9 => h9) rfl rfl rfl rfl (Nat.le_of_ble_eq_true rfl) ((pxl_3 q ad z12 hi) (0 : Int32)) dX0_clear_17 (fun z17 H locs hz17 hP hS => ?_)
  have h := h z17 hz17
  refine lv_aload_n hx hb dX0_clear_20 rfl (lv_at hl 0 rfl) ?_
  refine va_get (D := D) (ci := 0) (v := .ref (ad (4 * i + 1))) (C := RX0) (T := TX0) (N := 7) hx hb ht tl_X0 hown hK hP (4 * i) (wxl q ad z17 hi) rfl 4 (by decide) (ht _ tw_fl_X0_15) (fun _ h9 => h9) rfl dX0_clear_21 ?_
  refine lv_iconst (v := (0 : Int32)) hx hb dX0_clear_24 (by decide) ?_
  refine g_cSv (Wd := WX q ad) (z := z17) (As := [.ref (ad (4 * i + 1)), .int (0 : Int32)]) (rest := []) hG S (kJ7_fill l D q ad A hD (c := (4 * i + 1)) (n := 8) (by decide) (fun z => (wxl1 q ad z hi)) (fun z => (axl1 q ad z hi)) z17 (0 : Int32)) (va_cwS 2 ht (cW_S (fun _ h => h) tw_co_J7_fill_53178 tw_ml_X0_34 tw_st_J7_fill_53178 tw_in_J7) rfl rfl rfl (by decide +kernel) ⟨by decide, by decide⟩) hE hP hS rfl hl.1 rfl (Nat.le_of_ble_eq_true rfl) dX0_clear_25 ⟨Nat.zero_le _, Nat.zero_le _⟩ (fun z25 H locs hz25 hP hS => ?_)
  have h := h z25 hz25
  exact g_rv hG hx hb hr hlocks hE hP hS h dX0_clear_28
def pX0_copyFrom (i : Nat) (i1 : Nat) (z : MX) (post : MX → Prop) : Prop :=
  ∀ z5 : MX, z5 = mw z (4 * i) 0 (z.1 (4 * i1) 0) →
  ∀ z13 : MX, z13 = mw z5 (4 * i) 1 (z5.1 (4 * i1) 1) →
  ∀ z21 : MX, z21 = mw z13 (4 * i) 2 (z13.1 (4 * i1) 2) →
  ∀ z29 : MX, z29 = mw z21 (4 * i) 3 (z21.1 (4 * i1) 3) →
  ∀ z44 : MX, z44 = mf z29 (4 * i + 1) (va_cpy (z29.1 (4 * i1 + 1)) (z29.1 (4 * i + 1)) 0 0 8) →
  ∀ z59 : MX, z59 = mf z44 (4 * i + 2) (va_cpy (z44.1 (4 * i1 + 2)) (z44.1 (4 * i + 2)) 0 0 8) →
  ∀ z74 : MX, z74 = mf z59 (4 * i + 3) (va_cpy (z59.1 (4 * i1 + 3)) (z59.1 (4 * i + 3)) 0 0 16) →
  post z74
set_option maxHeartbeats 4000000 in
set_option maxRecDepth 100000 in
theorem kX0_copyFrom (l : Launch) (D : va_G) (q : Nat → ClassId) (ad : Nat → Nat) (A : Nat → Prop) (hD : ∀ z, va_D A (WX q ad z)) (i : Nat) (hi : i < 4) (i1 : Nat) (hi1 : i1 < 4) (z : MX) (post : MX → Prop) (h : pX0_copyFrom i i1 z post) : Met l yX0_copyFrom (cW yX0_copyFrom cX0_copyFrom 2 none) ({ frames := 1, cells := 0, slots := 0, locals := 26 } : Room) (va_Pc [.ref (ad (4 * i)), .ref (ad (4 * i1))] ((gB D vwCl (WX q ad) (xE D q ad A)) z)) (va_Qv post (gB D vwCl (WX q ad) (xE D q ad A)) A) 0 0 A := by
  refine Met.ofW (cc := cX0_copyFrom) (maxL := 2) (ret := none) (by decide) rfl ?_
  intro p e s m args below meth c s₁ B hml hv
  obtain ⟨hargs, hP, hE⟩ := hv
  have hx := B.exec
  have hb := B.bytes
  have hr := B.returns
  have hts := atoms_spec (ws := (cW yX0_copyFrom cX0_copyFrom 2 none)) B.pre
  have ht : ∀ w ∈ tG, w.before args s = true := fun w h => hts w (List.mem_cons_of_mem _ h)
  have hown : s.vm.findClass RX0 = some m.cls := findClass_of_methodNamed B.named
  have hlocks := B.notSynchronized
  have hK := hE.1
  have hG := xE_G D q ad A
  have S : CallFix p m c cX0_copyFrom 2 s args tG RX0 := ⟨hx, hb, hml, hown, ht⟩
  have hS : va_S A s.heap s.heap [] := va_S.rf
  refine g_entry (vs := [.ref (ad (4 * i)), .ref (ad (4 * i1))]) hargs (Nat.le_of_ble_eq_true rfl) (fun ls hl => ?_)
  have hl : lv_has ls 2 [(0, .ref (ad (4 * i))), (1, .ref (ad (4 * i1)))] := hl
  unfold pX0_copyFrom at h
  refine lv_aload_n hx hb dX0_copyFrom_0 rfl (lv_at hl 0 rfl) ?_
  refine lv_aload_n hx hb dX0_copyFrom_1 rfl (lv_at hl 1 rfl) ?_
  refine va_get (D := D) (ci := 0) (v := .int (z.1 (4 * i1) 0)) (C := RX0) (T := TX0) (N := 7) hx hb ht tl_X0 hown hK hP (4 * i1) (wxl q ad z hi1) rfl 0 (by decide) (ht _ tw_fl_X0_9) (fun _ h9 => h9) rfl dX0_copyFrom_2 ?_
  refine g_put (D := D) (Wd := WX q ad) (z := z) (ci := 0) (v := .int (z.1 (4 * i1) 0)) (ty := .int) (C := RX0) (T := TX0) (N := 7) hx hb ht tl_X0 tyX0 tyX0_ok nmX0 hown hK hP (hD z) hS (4 * i) (wxl q ad z hi) rfl 0 (by decide) (ht _ tw_fl_X0_9) (fun _ h9 => h9) rfl rfl rfl rfl (Nat.le_of_ble_eq_true rfl) ((pxl_0 q ad z hi) (z.1 (4 * i1) 0)) dX0_copyFrom_5 (fun z5 H locs hz5 hP hS => ?_)
  have h := h z5 hz5
  refine lv_aload_n hx hb dX0_copyFrom_8 rfl (lv_at hl 0 rfl) ?_
  refine lv_aload_n hx hb dX0_copyFrom_9 rfl (lv_at hl 1 rfl) ?_
  refine va_get (D := D) (ci := 0) (v := .int (z5.1 (4 * i1) 1)) (C := RX0) (T := TX0) (N := 7) hx hb ht tl_X0 hown hK hP (4 * i1) (wxl q ad z5 hi1) rfl 1 (by decide) (ht _ tw_fl_X0_25) (fun _ h9 => h9) rfl dX0_copyFrom_10 ?_
  refine g_put (D := D) (Wd := WX q ad) (z := z5) (ci := 0) (v := .int (z5.1 (4 * i1) 1)) (ty := .int) (C := RX0) (T := TX0) (N := 7) hx hb ht tl_X0 tyX0 tyX0_ok nmX0 hown hK hP (hD z5) hS (4 * i) (wxl q ad z5 hi) rfl 1 (by decide) (ht _ tw_fl_X0_25) (fun _ h9 => h9) rfl rfl rfl rfl (Nat.le_of_ble_eq_true rfl) ((pxl_1 q ad z5 hi) (z5.1 (4 * i1) 1)) dX0_copyFrom_13 (fun z13 H locs hz13 hP hS => ?_)
  have h := h z13 hz13
  refine lv_aload_n hx hb dX0_copyFrom_16 rfl (lv_at hl 0 rfl) ?_
  refine lv_aload_n hx hb dX0_copyFrom_17 rfl (lv_at hl 1 rfl) ?_
  refine va_get (D := D) (ci := 0) (v := .int (z13.1 (4 * i1) 2)) (C := RX0) (T := TX0) (N := 7) hx hb ht tl_X0 hown hK hP (4 * i1) (wxl q ad z13 hi1) rfl 2 (by decide) (ht _ tw_fl_X0_28) (fun _ h9 => h9) rfl dX0_copyFrom_18 ?_
  refine g_put (D := D) (Wd := WX q ad) (z := z13) (ci := 0) (v := .int (z13.1 (4 * i1) 2)) (ty := .int) (C := RX0) (T := TX0) (N := 7) hx hb ht tl_X0 tyX0 tyX0_ok nmX0 hown hK hP (hD z13) hS (4 * i) (wxl q ad z13 hi) rfl 2 (by decide) (ht _ tw_fl_X0_28) (fun _ h9 => h9) rfl rfl rfl rfl (Nat.le_of_ble_eq_true rfl) ((pxl_2 q ad z13 hi) (z13.1 (4 * i1) 2)) dX0_copyFrom_21 (fun z21 H locs hz21 hP hS => ?_)
  have h := h z21 hz21
  refine lv_aload_n hx hb dX0_copyFrom_24 rfl (lv_at hl 0 rfl) ?_
  refine lv_aload_n hx hb dX0_copyFrom_25 rfl (lv_at hl 1 rfl) ?_
  refine va_get (D := D) (ci := 0) (v := .int (z21.1 (4 * i1) 3)) (C := RX0) (T := TX0) (N := 7) hx hb ht tl_X0 hown hK hP (4 * i1) (wxl q ad z21 hi1) rfl 3 (by decide) (ht _ tw_fl_X0_31) (fun _ h9 => h9) rfl dX0_copyFrom_26 ?_
  refine g_put (D := D) (Wd := WX q ad) (z := z21) (ci := 0) (v := .int (z21.1 (4 * i1) 3)) (ty := .int) (C := RX0) (T := TX0) (N := 7) hx hb ht tl_X0 tyX0 tyX0_ok nmX0 hown hK hP (hD z21) hS (4 * i) (wxl q ad z21 hi) rfl 3 (by decide) (ht _ tw_fl_X0_31) (fun _ h9 => h9) rfl rfl rfl rfl (Nat.le_of_ble_eq_true rfl) ((pxl_3 q ad z21 hi) (z21.1 (4 * i1) 3)) dX0_copyFrom_29 (fun z29 H locs hz29 hP hS => ?_)
  have h := h z29 hz29
  refine lv_aload_n hx hb dX0_copyFrom_32 rfl (lv_at hl 1 rfl) ?_
  refine va_get (D := D) (ci := 0) (v := .ref (ad (4 * i1 + 1))) (C := RX0) (T := TX0) (N := 7) hx hb ht tl_X0 hown hK hP (4 * i1) (wxl q ad z29 hi1) rfl 4 (by decide) (ht _ tw_fl_X0_15) (fun _ h9 => h9) rfl dX0_copyFrom_33 ?_
  refine lv_iconst (v := (0 : Int32)) hx hb dX0_copyFrom_36 (by decide) ?_
  refine lv_aload_n hx hb dX0_copyFrom_37 rfl (lv_at hl 0 rfl) ?_
  refine va_get (D := D) (ci := 0) (v := .ref (ad (4 * i + 1))) (C := RX0) (T := TX0) (N := 7) hx hb ht tl_X0 hown hK hP (4 * i) (wxl q ad z29 hi) rfl 4 (by decide) (ht _ tw_fl_X0_15) (fun _ h9 => h9) rfl dX0_copyFrom_38 ?_
  refine lv_iconst (v := (0 : Int32)) hx hb dX0_copyFrom_41 (by decide) ?_
  refine lv_bipush (v := (8 : Int32)) hx hb dX0_copyFrom_42 (by decide) ?_
  refine g_copy (Wd := WX q ad) (z := z29) hx hb (by rw [hml]; exact hl.1.symm) hown (ht _ tw_ml_X0_40) (ht _ tw_na_acopy) (ht _ tw_st_acopy) (ht _ tw_in_J10) hK hP (hD z29) hS (4 * i1 + 1) (4 * i + 1) (wxl1 q ad z29 hi1) (wxl1 q ad z29 hi) rfl (axl1 q ad z29 hi) (by decide) (by decide) (Nat.le_of_ble_eq_true rfl) (Nat.le_of_ble_eq_true rfl) dX0_copyFrom_44 (fun z44 H locs hz44 hP hS => ?_)
  have h := h z44 hz44
  refine lv_aload_n hx hb dX0_copyFrom_47 rfl (lv_at hl 1 rfl) ?_
  refine va_get (D := D) (ci := 0) (v := .ref (ad (4 * i1 + 2))) (C := RX0) (T := TX0) (N := 7) hx hb ht tl_X0 hown hK hP (4 * i1) (wxl q ad z44 hi1) rfl 5 (by decide) (ht _ tw_fl_X0_19) (fun _ h9 => h9) rfl dX0_copyFrom_48 ?_
  refine lv_iconst (v := (0 : Int32)) hx hb dX0_copyFrom_51 (by decide) ?_
  refine lv_aload_n hx hb dX0_copyFrom_52 rfl (lv_at hl 0 rfl) ?_
  refine va_get (D := D) (ci := 0) (v := .ref (ad (4 * i + 2))) (C := RX0) (T := TX0) (N := 7) hx hb ht tl_X0 hown hK hP (4 * i) (wxl q ad z44 hi) rfl 5 (by decide) (ht _ tw_fl_X0_19) (fun _ h9 => h9) rfl dX0_copyFrom_53 ?_
  refine lv_iconst (v := (0 : Int32)) hx hb dX0_copyFrom_56 (by decide) ?_
  refine lv_bipush (v := (8 : Int32)) hx hb dX0_copyFrom_57 (by decide) ?_
  refine g_copy (Wd := WX q ad) (z := z44) hx hb (by rw [hml]; exact hl.1.symm) hown (ht _ tw_ml_X0_40) (ht _ tw_na_acopy) (ht _ tw_st_acopy) (ht _ tw_in_J10) hK hP (hD z44) hS (4 * i1 + 2) (4 * i + 2) (wxl2 q ad z44 hi1) (wxl2 q ad z44 hi) rfl (axl2 q ad z44 hi) (by decide) (by decide) (Nat.le_of_ble_eq_true rfl) (Nat.le_of_ble_eq_true rfl) dX0_copyFrom_59 (fun z59 H locs hz59 hP hS => ?_)
  have h := h z59 hz59
  refine lv_aload_n hx hb dX0_copyFrom_62 rfl (lv_at hl 1 rfl) ?_
  refine va_get (D := D) (ci := 0) (v := .ref (ad (4 * i1 + 3))) (C := RX0) (T := TX0) (N := 7) hx hb ht tl_X0 hown hK hP (4 * i1) (wxl q ad z59 hi1) rfl 6 (by decide) (ht _ tw_fl_X0_22) (fun _ h9 => h9) rfl dX0_copyFrom_63 ?_
  refine lv_iconst (v := (0 : Int32)) hx hb dX0_copyFrom_66 (by decide) ?_
  refine lv_aload_n hx hb dX0_copyFrom_67 rfl (lv_at hl 0 rfl) ?_
  refine va_get (D := D) (ci := 0) (v := .ref (ad (4 * i + 3))) (C := RX0) (T := TX0) (N := 7) hx hb ht tl_X0 hown hK hP (4 * i) (wxl q ad z59 hi) rfl 6 (by decide) (ht _ tw_fl_X0_22) (fun _ h9 => h9) rfl dX0_copyFrom_68 ?_
  refine lv_iconst (v := (0 : Int32)) hx hb dX0_copyFrom_71 (by decide) ?_
  refine lv_bipush (v := (16 : Int32)) hx hb dX0_copyFrom_72 (by decide) ?_
  refine g_copy (Wd := WX q ad) (z := z59) hx hb (by rw [hml]; exact hl.1.symm) hown (ht _ tw_ml_X0_40) (ht _ tw_na_acopy) (ht _ tw_st_acopy) (ht _ tw_in_J10) hK hP (hD z59) hS (4 * i1 + 3) (4 * i + 3) (wxl3 q ad z59 hi1) (wxl3 q ad z59 hi) rfl (axl3 q ad z59 hi) (by decide) (by decide) (Nat.le_of_ble_eq_true rfl) (Nat.le_of_ble_eq_true rfl) dX0_copyFrom_74 (fun z74 H locs hz74 hP hS => ?_)
  have h := h z74 hz74
  exact g_rv hG hx hb hr hlocks hE hP hS h dX0_copyFrom_77
def pX0_isBlock (i : Nat) (z : MX) (x1 : Int32) (post : Int32 → MX → Prop) : Prop :=
  ((x1 < 0 →
    (((0 : Int32) = 0 ∨ (0 : Int32) = 1) ∧ post (0 : Int32) z)) ∧
  (¬ x1 < 0 →
    (((z.1 (4 * i) 0) ≤ x1 →
      (((0 : Int32) = 0 ∨ (0 : Int32) = 1) ∧ post (0 : Int32) z)) ∧
    (¬ (z.1 (4 * i) 0) ≤ x1 →
      (((1 : Int32) = 0 ∨ (1 : Int32) = 1) ∧ post (1 : Int32) z)))))
set_option maxHeartbeats 4000000 in
set_option maxRecDepth 100000 in
theorem kX0_isBlock (l : Launch) (D : va_G) (q : Nat → ClassId) (ad : Nat → Nat) (A : Nat → Prop) (hD : ∀ z, va_D A (WX q ad z)) (i : Nat) (hi : i < 4) (z : MX) (x1 : Int32) (post : Int32 → MX → Prop) (h : pX0_isBlock i z x1 post) : Met l yX0_isBlock (cW yX0_isBlock cX0_isBlock 2 (some .boolean)) ({ frames := 0, cells := 0, slots := 0, locals := 0 } : Room) (va_Pc [.ref (ad (4 * i)), .int x1] ((gB D vwCl (WX q ad) (xE D q ad A)) z)) (va_Qi post (gB D vwCl (WX q ad) (xE D q ad A)) A) 0 0 A := by
  refine Met.ofW (cc := cX0_isBlock) (maxL := 2) (ret := (some .boolean)) (by decide) rfl ?_
  intro p e s m args below meth c s₁ B hml hv
  obtain ⟨hargs, hP, hE⟩ := hv
  have hx := B.exec
  have hb := B.bytes
  have hr := B.returns
  have hts := atoms_spec (ws := (cW yX0_isBlock cX0_isBlock 2 (some .boolean))) B.pre
  have ht : ∀ w ∈ tG, w.before args s = true := fun w h => hts w (List.mem_cons_of_mem _ h)
  have hown : s.vm.findClass RX0 = some m.cls := findClass_of_methodNamed B.named
  have hlocks := B.notSynchronized
  have hK := hE.1
  have hG := xE_G D q ad A
  have S : CallFix p m c cX0_isBlock 2 s args tG RX0 := ⟨hx, hb, hml, hown, ht⟩
  have hS : va_S A s.heap s.heap [] := va_S.rf
  refine g_entry (vs := [.ref (ad (4 * i)), .int x1]) hargs (Nat.le_of_ble_eq_true rfl) (fun ls hl => ?_)
  have hl : lv_has ls 2 [(0, .ref (ad (4 * i))), (1, .int x1)] := hl
  unfold pX0_isBlock at h
  refine lv_iload_n hx hb dX0_isBlock_0 rfl (lv_at hl 1 rfl) ?_
  refine lv_if_lt (tgt := 16) hx hb dX0_isBlock_1 (by decide) (fun c1 => ?_) (fun c1 => ?_)
  · have h := h.1 c1
    refine lv_iconst (v := (0 : Int32)) hx hb dX0_isBlock_16 (by decide) ?_
    exact g_rz hG hx hb hr hlocks hE hP hS h dX0_isBlock_17
  · have h := h.2 c1
    refine lv_iload_n hx hb dX0_isBlock_4 rfl (lv_at hl 1 rfl) ?_
    refine lv_aload_n hx hb dX0_isBlock_5 rfl (lv_at hl 0 rfl) ?_
    refine va_get (D := D) (ci := 0) (v := .int (z.1 (4 * i) 0)) (C := RX0) (T := TX0) (N := 7) hx hb ht tl_X0 hown hK hP (4 * i) (wxl q ad z hi) rfl 0 (by decide) (ht _ tw_fl_X0_9) (fun _ h9 => h9) rfl dX0_isBlock_6 ?_
    refine lv_icmp_ge (tgt := 16) hx hb dX0_isBlock_9 (by decide) (fun c9 => ?_) (fun c9 => ?_)
    · have h := h.1 c9
      refine lv_iconst (v := (0 : Int32)) hx hb dX0_isBlock_16 (by decide) ?_
      exact g_rz hG hx hb hr hlocks hE hP hS h dX0_isBlock_17
    · have h := h.2 c9
      refine lv_iconst (v := (1 : Int32)) hx hb dX0_isBlock_12 (by decide) ?_
      refine lv_goto (tgt := 17) hx hb dX0_isBlock_13 (by decide) ?_
      exact g_rz hG hx hb hr hlocks hE hP hS h dX0_isBlock_17
def pX0_isTrain (i : Nat) (z : MX) (x1 : Int32) (post : Int32 → MX → Prop) : Prop :=
  ((x1 < 0 →
    (((0 : Int32) = 0 ∨ (0 : Int32) = 1) ∧ post (0 : Int32) z)) ∧
  (¬ x1 < 0 →
    (((z.1 (4 * i) 3) ≤ x1 →
      (((0 : Int32) = 0 ∨ (0 : Int32) = 1) ∧ post (0 : Int32) z)) ∧
    (¬ (z.1 (4 * i) 3) ≤ x1 →
      (((1 : Int32) = 0 ∨ (1 : Int32) = 1) ∧ post (1 : Int32) z)))))
set_option maxHeartbeats 4000000 in
set_option maxRecDepth 100000 in
theorem kX0_isTrain (l : Launch) (D : va_G) (q : Nat → ClassId) (ad : Nat → Nat) (A : Nat → Prop) (hD : ∀ z, va_D A (WX q ad z)) (i : Nat) (hi : i < 4) (z : MX) (x1 : Int32) (post : Int32 → MX → Prop) (h : pX0_isTrain i z x1 post) : Met l yX0_isTrain (cW yX0_isTrain cX0_isTrain 2 (some .boolean)) ({ frames := 0, cells := 0, slots := 0, locals := 0 } : Room) (va_Pc [.ref (ad (4 * i)), .int x1] ((gB D vwCl (WX q ad) (xE D q ad A)) z)) (va_Qi post (gB D vwCl (WX q ad) (xE D q ad A)) A) 0 0 A := by
  refine Met.ofW (cc := cX0_isTrain) (maxL := 2) (ret := (some .boolean)) (by decide) rfl ?_
  intro p e s m args below meth c s₁ B hml hv
  obtain ⟨hargs, hP, hE⟩ := hv
  have hx := B.exec
  have hb := B.bytes
  have hr := B.returns
  have hts := atoms_spec (ws := (cW yX0_isTrain cX0_isTrain 2 (some .boolean))) B.pre
  have ht : ∀ w ∈ tG, w.before args s = true := fun w h => hts w (List.mem_cons_of_mem _ h)
  have hown : s.vm.findClass RX0 = some m.cls := findClass_of_methodNamed B.named
  have hlocks := B.notSynchronized
  have hK := hE.1
  have hG := xE_G D q ad A
  have S : CallFix p m c cX0_isTrain 2 s args tG RX0 := ⟨hx, hb, hml, hown, ht⟩
  have hS : va_S A s.heap s.heap [] := va_S.rf
  refine g_entry (vs := [.ref (ad (4 * i)), .int x1]) hargs (Nat.le_of_ble_eq_true rfl) (fun ls hl => ?_)
  have hl : lv_has ls 2 [(0, .ref (ad (4 * i))), (1, .int x1)] := hl
  unfold pX0_isTrain at h
  refine lv_iload_n hx hb dX0_isTrain_0 rfl (lv_at hl 1 rfl) ?_
  refine lv_if_lt (tgt := 16) hx hb dX0_isTrain_1 (by decide) (fun c1 => ?_) (fun c1 => ?_)
  · have h := h.1 c1
    refine lv_iconst (v := (0 : Int32)) hx hb dX0_isTrain_16 (by decide) ?_
    exact g_rz hG hx hb hr hlocks hE hP hS h dX0_isTrain_17
  · have h := h.2 c1
    refine lv_iload_n hx hb dX0_isTrain_4 rfl (lv_at hl 1 rfl) ?_
    refine lv_aload_n hx hb dX0_isTrain_5 rfl (lv_at hl 0 rfl) ?_
    refine va_get (D := D) (ci := 0) (v := .int (z.1 (4 * i) 3)) (C := RX0) (T := TX0) (N := 7) hx hb ht tl_X0 hown hK hP (4 * i) (wxl q ad z hi) rfl 3 (by decide) (ht _ tw_fl_X0_31) (fun _ h9 => h9) rfl dX0_isTrain_6 ?_
    refine lv_icmp_ge (tgt := 16) hx hb dX0_isTrain_9 (by decide) (fun c9 => ?_) (fun c9 => ?_)
    · have h := h.1 c9
      refine lv_iconst (v := (0 : Int32)) hx hb dX0_isTrain_16 (by decide) ?_
      exact g_rz hG hx hb hr hlocks hE hP hS h dX0_isTrain_17
    · have h := h.2 c9
      refine lv_iconst (v := (1 : Int32)) hx hb dX0_isTrain_12 (by decide) ?_
      refine lv_goto (tgt := 17) hx hb dX0_isTrain_13 (by decide) ?_
      exact g_rz hG hx hb hr hlocks hE hP hS h dX0_isTrain_17
def pX0_isGuarded (i : Nat) (z : MX) (x1 : Int32) (post : Int32 → MX → Prop) : Prop :=
  (((((z.1 (4 * i) 1) >>> (x1 &&& 31)) &&& (1 : Int32)) = 0 →
    (((0 : Int32) = 0 ∨ (0 : Int32) = 1) ∧ post (0 : Int32) z)) ∧
  (¬ (((z.1 (4 * i) 1) >>> (x1 &&& 31)) &&& (1 : Int32)) = 0 →
    (((1 : Int32) = 0 ∨ (1 : Int32) = 1) ∧ post (1 : Int32) z)))
set_option maxHeartbeats 4000000 in
set_option maxRecDepth 100000 in
theorem kX0_isGuarded (l : Launch) (D : va_G) (q : Nat → ClassId) (ad : Nat → Nat) (A : Nat → Prop) (hD : ∀ z, va_D A (WX q ad z)) (i : Nat) (hi : i < 4) (z : MX) (x1 : Int32) (post : Int32 → MX → Prop) (h : pX0_isGuarded i z x1 post) : Met l yX0_isGuarded (cW yX0_isGuarded cX0_isGuarded 2 (some .boolean)) ({ frames := 0, cells := 0, slots := 0, locals := 0 } : Room) (va_Pc [.ref (ad (4 * i)), .int x1] ((gB D vwCl (WX q ad) (xE D q ad A)) z)) (va_Qi post (gB D vwCl (WX q ad) (xE D q ad A)) A) 0 0 A := by
  refine Met.ofW (cc := cX0_isGuarded) (maxL := 2) (ret := (some .boolean)) (by decide) rfl ?_
  intro p e s m args below meth c s₁ B hml hv
  obtain ⟨hargs, hP, hE⟩ := hv
  have hx := B.exec
  have hb := B.bytes
  have hr := B.returns
  have hts := atoms_spec (ws := (cW yX0_isGuarded cX0_isGuarded 2 (some .boolean))) B.pre
  have ht : ∀ w ∈ tG, w.before args s = true := fun w h => hts w (List.mem_cons_of_mem _ h)
  have hown : s.vm.findClass RX0 = some m.cls := findClass_of_methodNamed B.named
  have hlocks := B.notSynchronized
  have hK := hE.1
  have hG := xE_G D q ad A
  have S : CallFix p m c cX0_isGuarded 2 s args tG RX0 := ⟨hx, hb, hml, hown, ht⟩
  have hS : va_S A s.heap s.heap [] := va_S.rf
  refine g_entry (vs := [.ref (ad (4 * i)), .int x1]) hargs (Nat.le_of_ble_eq_true rfl) (fun ls hl => ?_)
  have hl : lv_has ls 2 [(0, .ref (ad (4 * i))), (1, .int x1)] := hl
  unfold pX0_isGuarded at h
  refine lv_aload_n hx hb dX0_isGuarded_0 rfl (lv_at hl 0 rfl) ?_
  refine va_get (D := D) (ci := 0) (v := .int (z.1 (4 * i) 1)) (C := RX0) (T := TX0) (N := 7) hx hb ht tl_X0 hown hK hP (4 * i) (wxl q ad z hi) rfl 1 (by decide) (ht _ tw_fl_X0_25) (fun _ h9 => h9) rfl dX0_isGuarded_1 ?_
  refine lv_iload_n hx hb dX0_isGuarded_4 rfl (lv_at hl 1 rfl) ?_
  refine lv_ishr hx hb dX0_isGuarded_5 ?_
  refine lv_iconst (v := (1 : Int32)) hx hb dX0_isGuarded_6 (by decide) ?_
  refine lv_iand hx hb dX0_isGuarded_7 ?_
  refine lv_if_eq (tgt := 15) hx hb dX0_isGuarded_8 (by decide) (fun c8 => ?_) (fun c8 => ?_)
  · have h := h.1 c8
    refine lv_iconst (v := (0 : Int32)) hx hb dX0_isGuarded_15 (by decide) ?_
    exact g_rz hG hx hb hr hlocks hE hP hS h dX0_isGuarded_16
  · have h := h.2 c8
    refine lv_iconst (v := (1 : Int32)) hx hb dX0_isGuarded_11 (by decide) ?_
    refine lv_goto (tgt := 16) hx hb dX0_isGuarded_12 (by decide) ?_
    exact g_rz hG hx hb hr hlocks hE hP hS h dX0_isGuarded_16
def pX0_fact (i : Nat) (z : MX) (x1 : Int32) (x2 : Int32) (post : Int32 → MX → Prop) : Prop :=
  vp_in (((4 : Int32) * x1) + x2) 16 ∧
  post (z.1 (4 * i + 3) (Int32.toNatClampNeg (((4 : Int32) * x1) + x2))) z
set_option maxHeartbeats 4000000 in
set_option maxRecDepth 100000 in
theorem kX0_fact (l : Launch) (D : va_G) (q : Nat → ClassId) (ad : Nat → Nat) (A : Nat → Prop) (hD : ∀ z, va_D A (WX q ad z)) (i : Nat) (hi : i < 4) (z : MX) (x1 : Int32) (x2 : Int32) (post : Int32 → MX → Prop) (h : pX0_fact i z x1 x2 post) : Met l yX0_fact (cW yX0_fact cX0_fact 3 (some .int)) ({ frames := 0, cells := 0, slots := 0, locals := 0 } : Room) (va_Pc [.ref (ad (4 * i)), .int x1, .int x2] ((gB D vwCl (WX q ad) (xE D q ad A)) z)) (va_Qi post (gB D vwCl (WX q ad) (xE D q ad A)) A) 0 0 A := by
  refine Met.ofW (cc := cX0_fact) (maxL := 3) (ret := (some .int)) (by decide) rfl ?_
  intro p e s m args below meth c s₁ B hml hv
  obtain ⟨hargs, hP, hE⟩ := hv
  have hx := B.exec
  have hb := B.bytes
  have hr := B.returns
  have hts := atoms_spec (ws := (cW yX0_fact cX0_fact 3 (some .int))) B.pre
  have ht : ∀ w ∈ tG, w.before args s = true := fun w h => hts w (List.mem_cons_of_mem _ h)
  have hown : s.vm.findClass RX0 = some m.cls := findClass_of_methodNamed B.named
  have hlocks := B.notSynchronized
  have hK := hE.1
  have hG := xE_G D q ad A
  have S : CallFix p m c cX0_fact 3 s args tG RX0 := ⟨hx, hb, hml, hown, ht⟩
  have hS : va_S A s.heap s.heap [] := va_S.rf
  refine g_entry (vs := [.ref (ad (4 * i)), .int x1, .int x2]) hargs (Nat.le_of_ble_eq_true rfl) (fun ls hl => ?_)
  have hl : lv_has ls 3 [(0, .ref (ad (4 * i))), (1, .int x1), (2, .int x2)] := hl
  unfold pX0_fact at h
  refine lv_aload_n hx hb dX0_fact_0 rfl (lv_at hl 0 rfl) ?_
  refine va_get (D := D) (ci := 0) (v := .ref (ad (4 * i + 3))) (C := RX0) (T := TX0) (N := 7) hx hb ht tl_X0 hown hK hP (4 * i) (wxl q ad z hi) rfl 6 (by decide) (ht _ tw_fl_X0_22) (fun _ h9 => h9) rfl dX0_fact_1 ?_
  refine lv_iconst (v := (4 : Int32)) hx hb dX0_fact_4 (by decide) ?_
  refine lv_iload_n hx hb dX0_fact_5 rfl (lv_at hl 1 rfl) ?_
  refine lv_imul hx hb dX0_fact_6 ?_
  refine lv_iload_n hx hb dX0_fact_7 rfl (lv_at hl 2 rfl) ?_
  refine lv_iadd hx hb dX0_fact_8 ?_
  have hi9 := h.1
  have h := h.2
  refine va_iald hx hb hK hP (4 * i + 3) 0 (wxl3 q ad z hi) rfl hi9 dX0_fact_9 ?_
  exact g_ri hG hx hb hr hlocks hE hP hS h dX0_fact_10
def pX0_putFact (i : Nat) (z : MX) (x1 : Int32) (x2 : Int32) (x3 : Int32) (post : MX → Prop) : Prop :=
  vp_in (((4 : Int32) * x1) + x2) 16 ∧
  ∀ z10 : MX, z10 = mw z (4 * i + 3) (Int32.toNatClampNeg (((4 : Int32) * x1) + x2)) x3 →
  post z10
set_option maxHeartbeats 4000000 in
set_option maxRecDepth 100000 in
theorem kX0_putFact (l : Launch) (D : va_G) (q : Nat → ClassId) (ad : Nat → Nat) (A : Nat → Prop) (hD : ∀ z, va_D A (WX q ad z)) (i : Nat) (hi : i < 4) (z : MX) (x1 : Int32) (x2 : Int32) (x3 : Int32) (post : MX → Prop) (h : pX0_putFact i z x1 x2 x3 post) : Met l yX0_putFact (cW yX0_putFact cX0_putFact 4 none) ({ frames := 0, cells := 0, slots := 0, locals := 0 } : Room) (va_Pc [.ref (ad (4 * i)), .int x1, .int x2, .int x3] ((gB D vwCl (WX q ad) (xE D q ad A)) z)) (va_Qv post (gB D vwCl (WX q ad) (xE D q ad A)) A) 0 0 A := by
  refine Met.ofW (cc := cX0_putFact) (maxL := 4) (ret := none) (by decide) rfl ?_
  intro p e s m args below meth c s₁ B hml hv
  obtain ⟨hargs, hP, hE⟩ := hv
  have hx := B.exec
  have hb := B.bytes
  have hr := B.returns
  have hts := atoms_spec (ws := (cW yX0_putFact cX0_putFact 4 none)) B.pre
  have ht : ∀ w ∈ tG, w.before args s = true := fun w h => hts w (List.mem_cons_of_mem _ h)
  have hown : s.vm.findClass RX0 = some m.cls := findClass_of_methodNamed B.named
  have hlocks := B.notSynchronized
  have hK := hE.1
  have hG := xE_G D q ad A
  have S : CallFix p m c cX0_putFact 4 s args tG RX0 := ⟨hx, hb, hml, hown, ht⟩
  have hS : va_S A s.heap s.heap [] := va_S.rf
  refine g_entry (vs := [.ref (ad (4 * i)), .int x1, .int x2, .int x3]) hargs (Nat.le_of_ble_eq_true rfl) (fun ls hl => ?_)
  have hl : lv_has ls 4 [(0, .ref (ad (4 * i))), (1, .int x1), (2, .int x2), (3, .int x3)] := hl
  unfold pX0_putFact at h
  refine lv_aload_n hx hb dX0_putFact_0 rfl (lv_at hl 0 rfl) ?_
  refine va_get (D := D) (ci := 0) (v := .ref (ad (4 * i + 3))) (C := RX0) (T := TX0) (N := 7) hx hb ht tl_X0 hown hK hP (4 * i) (wxl q ad z hi) rfl 6 (by decide) (ht _ tw_fl_X0_22) (fun _ h9 => h9) rfl dX0_putFact_1 ?_
  refine lv_iconst (v := (4 : Int32)) hx hb dX0_putFact_4 (by decide) ?_
  refine lv_iload_n hx hb dX0_putFact_5 rfl (lv_at hl 1 rfl) ?_
  refine lv_imul hx hb dX0_putFact_6 ?_
  refine lv_iload_n hx hb dX0_putFact_7 rfl (lv_at hl 2 rfl) ?_
  refine lv_iadd hx hb dX0_putFact_8 ?_
  refine lv_iload_n hx hb dX0_putFact_9 rfl (lv_at hl 3 rfl) ?_
  have hi10 := h.1
  have h := h.2
  refine g_iast (Wd := WX q ad) (z := z) hx hb hK hP (hD z) hS (4 * i + 3) (wxl3 q ad z hi) rfl (axl3 q ad z hi) hi10 dX0_putFact_10 (fun z10 H locs hz10 hP hS => ?_)
  have h := h z10 hz10
  exact g_rv hG hx hb hr hlocks hE hP hS h dX0_putFact_11
def pX0_omenBits_b25 (i : Nat) (rec4 : MX → Int32 → Int32 → Prop) (post : Int32 → MX → Prop) (z : MX) (x1 : Int32) (x2 : Int32) : Prop :=
    ∀ x2_25 : Int32, x2_25 = x2 + (1 : Int32) →
    rec4 z x1 x2_25
def pX0_omenBits_l4 (i : Nat) (rec4 : MX → Int32 → Int32 → Prop) (post : Int32 → MX → Prop) (z : MX) (x1 : Int32) (x2 : Int32) : Prop :=
    (((8 : Int32) ≤ x2 →
      post x1 z) ∧
    (¬ (8 : Int32) ≤ x2 →
      vp_in x2 8 ∧
      (((z.1 (4 * i + 1) (Int32.toNatClampNeg x2)) = 0 →
        pX0_omenBits_b25 i rec4 post z x1 x2) ∧
      (¬ (z.1 (4 * i + 1) (Int32.toNatClampNeg x2)) = 0 →
        ∀ x1_24 : Int32, x1_24 = x1 ||| ((1 : Int32) <<< (x2 &&& 31)) →
        pX0_omenBits_b25 i rec4 post z x1_24 x2))))
def pX0_omenBits_L4 (i : Nat) (post : Int32 → MX → Prop) : Nat → MX → Int32 → Int32 → Prop
  | 0 => fun _ _ _ => False
  | n + 1 => fun z x1 x2 => pX0_omenBits_l4 i (pX0_omenBits_L4 i post n) post z x1 x2
def pX0_omenBits (i : Nat) (z : MX) (post : Int32 → MX → Prop) : Prop :=
  ∃ n, pX0_omenBits_L4 i post n z (0 : Int32) (0 : Int32)
set_option maxHeartbeats 4000000 in
set_option maxRecDepth 100000 in
theorem kX0_omenBits (l : Launch) (D : va_G) (q : Nat → ClassId) (ad : Nat → Nat) (A : Nat → Prop) (hD : ∀ z, va_D A (WX q ad z)) (i : Nat) (hi : i < 4) (z : MX) (post : Int32 → MX → Prop) (h : pX0_omenBits i z post) : Met l yX0_omenBits (cW yX0_omenBits cX0_omenBits 3 (some .int)) ({ frames := 0, cells := 0, slots := 0, locals := 0 } : Room) (va_Pc [.ref (ad (4 * i))] ((gB D vwCl (WX q ad) (xE D q ad A)) z)) (va_Qi post (gB D vwCl (WX q ad) (xE D q ad A)) A) 0 0 A := by
  refine Met.ofW (cc := cX0_omenBits) (maxL := 3) (ret := (some .int)) (by decide) rfl ?_
  intro p e s m args below meth c s₁ B hml hv
  obtain ⟨hargs, hP, hE⟩ := hv
  have hx := B.exec
  have hb := B.bytes
  have hr := B.returns
  have hts := atoms_spec (ws := (cW yX0_omenBits cX0_omenBits 3 (some .int))) B.pre
  have ht : ∀ w ∈ tG, w.before args s = true := fun w h => hts w (List.mem_cons_of_mem _ h)
  have hown : s.vm.findClass RX0 = some m.cls := findClass_of_methodNamed B.named
  have hlocks := B.notSynchronized
  have hK := hE.1
  have hG := xE_G D q ad A
  have S : CallFix p m c cX0_omenBits 3 s args tG RX0 := ⟨hx, hb, hml, hown, ht⟩
  have hS : va_S A s.heap s.heap [] := va_S.rf
  have B25 : ∀ (rec4 : MX → Int32 → Int32 → Prop) (hrec4 : ∀ (z : MX) (x1 : Int32) (x2 : Int32) (H : Heap) (locs : List Loc) (ls : Array Slot), rec4 z x1 x2 → va_P D vwCl (WX q ad z) H → va_S A s.heap H locs → lv_has ls 3 [(0, .ref (ad (4 * i))), (1, .int x1), (2, .int x2)] → W p l e (headSpec (cW yX0_omenBits cX0_omenBits 3 (some .int)) ({ frames := 0, cells := 0, slots := 0, locals := 0 } : Room)).room s m args below meth c H locs 0 0 (MQ below (va_Qi post (gB D vwCl (WX q ad) (xE D q ad A)) A) args s 0 0 A) (F0 m 4 ls [])) (z : MX) (x1 : Int32) (x2 : Int32) (H : Heap) (locs : List Loc) (ls : Array Slot), pX0_omenBits_b25 i rec4 post z x1 x2 → va_P D vwCl (WX q ad z) H → va_S A s.heap H locs → lv_has ls 3 [(0, .ref (ad (4 * i))), (1, .int x1), (2, .int x2)] → W p l e (headSpec (cW yX0_omenBits cX0_omenBits 3 (some .int)) ({ frames := 0, cells := 0, slots := 0, locals := 0 } : Room)).room s m args below meth c H locs 0 0 (MQ below (va_Qi post (gB D vwCl (WX q ad) (xE D q ad A)) A) args s 0 0 A) (F0 m 25 ls []) := by
    intro rec4 hrec4 z x1 x2 H locs ls h hP hS hl
    unfold pX0_omenBits_b25 at h
    obtain ⟨x2_25, ex2_25⟩ : ∃ w : Int32, w = x2 + (1 : Int32) := ⟨_, rfl⟩
    have h := h x2_25 ex2_25
    refine lv_iinc (v := x2_25) (lv' := [(2, .int x2_25), (0, .ref (ad (4 * i))), (1, .int x1)]) hx hb dX0_omenBits_25 hl (k := 2) rfl (by rw [ex2_25]; rfl) (by decide) rfl (fun ls hl => ?_)
    refine lv_goto (tgt := 4) hx hb dX0_omenBits_28 (by decide) ?_
    exact hrec4 z x1 x2_25 _ _ _ h hP hS (lv_sub hl [1, 2, 0] rfl)
  have B4 : ∀ (rec4 : MX → Int32 → Int32 → Prop) (hrec4 : ∀ (z : MX) (x1 : Int32) (x2 : Int32) (H : Heap) (locs : List Loc) (ls : Array Slot), rec4 z x1 x2 → va_P D vwCl (WX q ad z) H → va_S A s.heap H locs → lv_has ls 3 [(0, .ref (ad (4 * i))), (1, .int x1), (2, .int x2)] → W p l e (headSpec (cW yX0_omenBits cX0_omenBits 3 (some .int)) ({ frames := 0, cells := 0, slots := 0, locals := 0 } : Room)).room s m args below meth c H locs 0 0 (MQ below (va_Qi post (gB D vwCl (WX q ad) (xE D q ad A)) A) args s 0 0 A) (F0 m 4 ls [])) (z : MX) (x1 : Int32) (x2 : Int32) (H : Heap) (locs : List Loc) (ls : Array Slot), pX0_omenBits_l4 i rec4 post z x1 x2 → va_P D vwCl (WX q ad z) H → va_S A s.heap H locs → lv_has ls 3 [(0, .ref (ad (4 * i))), (1, .int x1), (2, .int x2)] → W p l e (headSpec (cW yX0_omenBits cX0_omenBits 3 (some .int)) ({ frames := 0, cells := 0, slots := 0, locals := 0 } : Room)).room s m args below meth c H locs 0 0 (MQ below (va_Qi post (gB D vwCl (WX q ad) (xE D q ad A)) A) args s 0 0 A) (F0 m 4 ls []) := by
    intro rec4 hrec4 z x1 x2 H locs ls h hP hS hl
    unfold pX0_omenBits_l4 at h
    refine lv_iload_n hx hb dX0_omenBits_4 rfl (lv_at hl 2 rfl) ?_
    refine lv_bipush (v := (8 : Int32)) hx hb dX0_omenBits_5 (by decide) ?_
    refine lv_icmp_ge (tgt := 31) hx hb dX0_omenBits_7 (by decide) (fun c7 => ?_) (fun c7 => ?_)
    · have h := h.1 c7
      refine lv_iload_n hx hb dX0_omenBits_31 rfl (lv_at hl 1 rfl) ?_
      exact g_ri hG hx hb hr hlocks hE hP hS h dX0_omenBits_32
    · have h := h.2 c7
      refine lv_aload_n hx hb dX0_omenBits_10 rfl (lv_at hl 0 rfl) ?_
      refine va_get (D := D) (ci := 0) (v := .ref (ad (4 * i + 1))) (C := RX0) (T := TX0) (N := 7) hx hb ht tl_X0 hown hK hP (4 * i) (wxl q ad z hi) rfl 4 (by decide) (ht _ tw_fl_X0_15) (fun _ h9 => h9) rfl dX0_omenBits_11 ?_
      refine lv_iload_n hx hb dX0_omenBits_14 rfl (lv_at hl 2 rfl) ?_
      have hi15 := h.1
      have h := h.2
      refine va_iald hx hb hK hP (4 * i + 1) 0 (wxl1 q ad z hi) rfl hi15 dX0_omenBits_15 ?_
      refine lv_if_eq (tgt := 25) hx hb dX0_omenBits_16 (by decide) (fun c16 => ?_) (fun c16 => ?_)
      · have h := h.1 c16
        exact B25 rec4 hrec4 z x1 x2 _ _ _ h hP hS (lv_sub hl [0, 1, 2] rfl)
      · have h := h.2 c16
        refine lv_iload_n hx hb dX0_omenBits_19 rfl (lv_at hl 1 rfl) ?_
        refine lv_iconst (v := (1 : Int32)) hx hb dX0_omenBits_20 (by decide) ?_
        refine lv_iload_n hx hb dX0_omenBits_21 rfl (lv_at hl 2 rfl) ?_
        refine lv_ishl hx hb dX0_omenBits_22 ?_
        refine lv_ior hx hb dX0_omenBits_23 ?_
        refine lv_topi (fun x1_24 ex1_24 => ?_)
        have h := h x1_24 ex1_24
        refine lv_istore_n (lv' := [(1, .int x1_24), (0, .ref (ad (4 * i))), (2, .int x2)]) hx hb dX0_omenBits_24 rfl hl (by decide) rfl (fun ls hl => ?_)
        exact B25 rec4 hrec4 z x1_24 x2 _ _ _ h hP hS (lv_sub hl [1, 0, 2] rfl)
  have L4 : ∀ (n : Nat) (z : MX) (x1 : Int32) (x2 : Int32) (H : Heap) (locs : List Loc) (ls : Array Slot), pX0_omenBits_L4 i post n z x1 x2 → va_P D vwCl (WX q ad z) H → va_S A s.heap H locs → lv_has ls 3 [(0, .ref (ad (4 * i))), (1, .int x1), (2, .int x2)] → W p l e (headSpec (cW yX0_omenBits cX0_omenBits 3 (some .int)) ({ frames := 0, cells := 0, slots := 0, locals := 0 } : Room)).room s m args below meth c H locs 0 0 (MQ below (va_Qi post (gB D vwCl (WX q ad) (xE D q ad A)) A) args s 0 0 A) (F0 m 4 ls []) := by
    intro n
    induction n with
    | zero =>
      intro z x1 x2 H locs ls h
      exact False.elim h
    | succ n ih =>
      intro z x1 x2 H locs ls h hP hS hl
      exact B4 (pX0_omenBits_L4 i post n) ih z x1 x2 H locs ls h hP hS hl
  refine g_entry (vs := [.ref (ad (4 * i))]) hargs (Nat.le_of_ble_eq_true rfl) (fun ls hl => ?_)
  have hl : lv_has ls 3 [(0, .ref (ad (4 * i)))] := hl
  unfold pX0_omenBits at h
  refine lv_iconst (v := (0 : Int32)) hx hb dX0_omenBits_0 (by decide) ?_
  refine lv_istore_n (lv' := [(1, .int (0 : Int32)), (0, .ref (ad (4 * i)))]) hx hb dX0_omenBits_1 rfl hl (by decide) rfl (fun ls hl => ?_)
  refine lv_iconst (v := (0 : Int32)) hx hb dX0_omenBits_2 (by decide) ?_
  refine lv_istore_n (lv' := [(2, .int (0 : Int32)), (1, .int (0 : Int32)), (0, .ref (ad (4 * i)))]) hx hb dX0_omenBits_3 rfl hl (by decide) rfl (fun ls hl => ?_)
  obtain ⟨n, h⟩ := h
  exact L4 n z (0 : Int32) (0 : Int32) _ _ _ h hP hS (lv_sub hl [2, 1, 0] rfl)
def pX0_lockBits_l4 (i : Nat) (rec4 : MX → Int32 → Int32 → Prop) (post : Int32 → MX → Prop) (z : MX) (x1 : Int32) (x2 : Int32) : Prop :=
    ((((2 : Int32) * (z.1 (4 * i) 2)) ≤ x2 →
      post x1 z) ∧
    (¬ ((2 : Int32) * (z.1 (4 * i) 2)) ≤ x2 →
      vp_in x2 8 ∧
      ∀ x1_24 : Int32, x1_24 = x1 ||| ((1 : Int32) <<< ((z.1 (4 * i + 2) (Int32.toNatClampNeg x2)) &&& 31)) →
      ∀ x2_25 : Int32, x2_25 = x2 + (1 : Int32) →
      rec4 z x1_24 x2_25))
def pX0_lockBits_L4 (i : Nat) (post : Int32 → MX → Prop) : Nat → MX → Int32 → Int32 → Prop
  | 0 => fun _ _ _ => False
  | n + 1 => fun z x1 x2 => pX0_lockBits_l4 i (pX0_lockBits_L4 i post n) post z x1 x2
def pX0_lockBits (i : Nat) (z : MX) (post : Int32 → MX → Prop) : Prop :=
  ∃ n, pX0_lockBits_L4 i post n z (0 : Int32) (0 : Int32)
set_option maxHeartbeats 4000000 in
set_option maxRecDepth 100000 in
theorem kX0_lockBits (l : Launch) (D : va_G) (q : Nat → ClassId) (ad : Nat → Nat) (A : Nat → Prop) (hD : ∀ z, va_D A (WX q ad z)) (i : Nat) (hi : i < 4) (z : MX) (post : Int32 → MX → Prop) (h : pX0_lockBits i z post) : Met l yX0_lockBits (cW yX0_lockBits cX0_lockBits 3 (some .int)) ({ frames := 0, cells := 0, slots := 0, locals := 0 } : Room) (va_Pc [.ref (ad (4 * i))] ((gB D vwCl (WX q ad) (xE D q ad A)) z)) (va_Qi post (gB D vwCl (WX q ad) (xE D q ad A)) A) 0 0 A := by
  refine Met.ofW (cc := cX0_lockBits) (maxL := 3) (ret := (some .int)) (by decide) rfl ?_
  intro p e s m args below meth c s₁ B hml hv
  obtain ⟨hargs, hP, hE⟩ := hv
  have hx := B.exec
  have hb := B.bytes
  have hr := B.returns
  have hts := atoms_spec (ws := (cW yX0_lockBits cX0_lockBits 3 (some .int))) B.pre
  have ht : ∀ w ∈ tG, w.before args s = true := fun w h => hts w (List.mem_cons_of_mem _ h)
  have hown : s.vm.findClass RX0 = some m.cls := findClass_of_methodNamed B.named
  have hlocks := B.notSynchronized
  have hK := hE.1
  have hG := xE_G D q ad A
  have S : CallFix p m c cX0_lockBits 3 s args tG RX0 := ⟨hx, hb, hml, hown, ht⟩
  have hS : va_S A s.heap s.heap [] := va_S.rf
  have B4 : ∀ (rec4 : MX → Int32 → Int32 → Prop) (hrec4 : ∀ (z : MX) (x1 : Int32) (x2 : Int32) (H : Heap) (locs : List Loc) (ls : Array Slot), rec4 z x1 x2 → va_P D vwCl (WX q ad z) H → va_S A s.heap H locs → lv_has ls 3 [(0, .ref (ad (4 * i))), (1, .int x1), (2, .int x2)] → W p l e (headSpec (cW yX0_lockBits cX0_lockBits 3 (some .int)) ({ frames := 0, cells := 0, slots := 0, locals := 0 } : Room)).room s m args below meth c H locs 0 0 (MQ below (va_Qi post (gB D vwCl (WX q ad) (xE D q ad A)) A) args s 0 0 A) (F0 m 4 ls [])) (z : MX) (x1 : Int32) (x2 : Int32) (H : Heap) (locs : List Loc) (ls : Array Slot), pX0_lockBits_l4 i rec4 post z x1 x2 → va_P D vwCl (WX q ad z) H → va_S A s.heap H locs → lv_has ls 3 [(0, .ref (ad (4 * i))), (1, .int x1), (2, .int x2)] → W p l e (headSpec (cW yX0_lockBits cX0_lockBits 3 (some .int)) ({ frames := 0, cells := 0, slots := 0, locals := 0 } : Room)).room s m args below meth c H locs 0 0 (MQ below (va_Qi post (gB D vwCl (WX q ad) (xE D q ad A)) A) args s 0 0 A) (F0 m 4 ls []) := by
    intro rec4 hrec4 z x1 x2 H locs ls h hP hS hl
    unfold pX0_lockBits_l4 at h
    refine lv_iload_n hx hb dX0_lockBits_4 rfl (lv_at hl 2 rfl) ?_
    refine lv_iconst (v := (2 : Int32)) hx hb dX0_lockBits_5 (by decide) ?_
    refine lv_aload_n hx hb dX0_lockBits_6 rfl (lv_at hl 0 rfl) ?_
    refine va_get (D := D) (ci := 0) (v := .int (z.1 (4 * i) 2)) (C := RX0) (T := TX0) (N := 7) hx hb ht tl_X0 hown hK hP (4 * i) (wxl q ad z hi) rfl 2 (by decide) (ht _ tw_fl_X0_28) (fun _ h9 => h9) rfl dX0_lockBits_7 ?_
    refine lv_imul hx hb dX0_lockBits_10 ?_
    refine lv_icmp_ge (tgt := 31) hx hb dX0_lockBits_11 (by decide) (fun c11 => ?_) (fun c11 => ?_)
    · have h := h.1 c11
      refine lv_iload_n hx hb dX0_lockBits_31 rfl (lv_at hl 1 rfl) ?_
      exact g_ri hG hx hb hr hlocks hE hP hS h dX0_lockBits_32
    · have h := h.2 c11
      refine lv_iload_n hx hb dX0_lockBits_14 rfl (lv_at hl 1 rfl) ?_
      refine lv_iconst (v := (1 : Int32)) hx hb dX0_lockBits_15 (by decide) ?_
      refine lv_aload_n hx hb dX0_lockBits_16 rfl (lv_at hl 0 rfl) ?_
      refine va_get (D := D) (ci := 0) (v := .ref (ad (4 * i + 2))) (C := RX0) (T := TX0) (N := 7) hx hb ht tl_X0 hown hK hP (4 * i) (wxl q ad z hi) rfl 5 (by decide) (ht _ tw_fl_X0_19) (fun _ h9 => h9) rfl dX0_lockBits_17 ?_
      refine lv_iload_n hx hb dX0_lockBits_20 rfl (lv_at hl 2 rfl) ?_
      have hi21 := h.1
      have h := h.2
      refine va_iald hx hb hK hP (4 * i + 2) 0 (wxl2 q ad z hi) rfl hi21 dX0_lockBits_21 ?_
      refine lv_ishl hx hb dX0_lockBits_22 ?_
      refine lv_ior hx hb dX0_lockBits_23 ?_
      refine lv_topi (fun x1_24 ex1_24 => ?_)
      have h := h x1_24 ex1_24
      refine lv_istore_n (lv' := [(1, .int x1_24), (0, .ref (ad (4 * i))), (2, .int x2)]) hx hb dX0_lockBits_24 rfl hl (by decide) rfl (fun ls hl => ?_)
      obtain ⟨x2_25, ex2_25⟩ : ∃ w : Int32, w = x2 + (1 : Int32) := ⟨_, rfl⟩
      have h := h x2_25 ex2_25
      refine lv_iinc (v := x2_25) (lv' := [(2, .int x2_25), (1, .int x1_24), (0, .ref (ad (4 * i)))]) hx hb dX0_lockBits_25 hl (k := 2) rfl (by rw [ex2_25]; rfl) (by decide) rfl (fun ls hl => ?_)
      refine lv_goto (tgt := 4) hx hb dX0_lockBits_28 (by decide) ?_
      exact hrec4 z x1_24 x2_25 _ _ _ h hP hS (lv_sub hl [2, 1, 0] rfl)
  have L4 : ∀ (n : Nat) (z : MX) (x1 : Int32) (x2 : Int32) (H : Heap) (locs : List Loc) (ls : Array Slot), pX0_lockBits_L4 i post n z x1 x2 → va_P D vwCl (WX q ad z) H → va_S A s.heap H locs → lv_has ls 3 [(0, .ref (ad (4 * i))), (1, .int x1), (2, .int x2)] → W p l e (headSpec (cW yX0_lockBits cX0_lockBits 3 (some .int)) ({ frames := 0, cells := 0, slots := 0, locals := 0 } : Room)).room s m args below meth c H locs 0 0 (MQ below (va_Qi post (gB D vwCl (WX q ad) (xE D q ad A)) A) args s 0 0 A) (F0 m 4 ls []) := by
    intro n
    induction n with
    | zero =>
      intro z x1 x2 H locs ls h
      exact False.elim h
    | succ n ih =>
      intro z x1 x2 H locs ls h hP hS hl
      exact B4 (pX0_lockBits_L4 i post n) ih z x1 x2 H locs ls h hP hS hl
  refine g_entry (vs := [.ref (ad (4 * i))]) hargs (Nat.le_of_ble_eq_true rfl) (fun ls hl => ?_)
  have hl : lv_has ls 3 [(0, .ref (ad (4 * i)))] := hl
  unfold pX0_lockBits at h
  refine lv_iconst (v := (0 : Int32)) hx hb dX0_lockBits_0 (by decide) ?_
  refine lv_istore_n (lv' := [(1, .int (0 : Int32)), (0, .ref (ad (4 * i)))]) hx hb dX0_lockBits_1 rfl hl (by decide) rfl (fun ls hl => ?_)
  refine lv_iconst (v := (0 : Int32)) hx hb dX0_lockBits_2 (by decide) ?_
  refine lv_istore_n (lv' := [(2, .int (0 : Int32)), (1, .int (0 : Int32)), (0, .ref (ad (4 * i)))]) hx hb dX0_lockBits_3 rfl hl (by decide) rfl (fun ls hl => ?_)
  obtain ⟨n, h⟩ := h
  exact L4 n z (0 : Int32) (0 : Int32) _ _ _ h hP hS (lv_sub hl [2, 1, 0] rfl)
def pX0_lockedWith_b69 (i : Nat) (rec4 : MX → Int32 → Int32 → Int32 → Prop) (post : Int32 → MX → Prop) (z : MX) (x1 : Int32) (x2 : Int32) (x3 : Int32) : Prop :=
    ∀ x3_69 : Int32, x3_69 = x3 + (1 : Int32) →
    rec4 z x1 x2 x3_69
def pX0_lockedWith_l4 (i : Nat) (rec4 : MX → Int32 → Int32 → Int32 → Prop) (post : Int32 → MX → Prop) (z : MX) (x1 : Int32) (x2 : Int32) (x3 : Int32) : Prop :=
    (((z.1 (4 * i) 2) ≤ x3 →
      post x2 z) ∧
    (¬ (z.1 (4 * i) 2) ≤ x3 →
      vp_in ((2 : Int32) * x3) 8 ∧
      ((¬ (z.1 (4 * i + 2) (Int32.toNatClampNeg ((2 : Int32) * x3))) = x1 →
        vp_in (((2 : Int32) * x3) + (1 : Int32)) 8 ∧
        ((¬ (z.1 (4 * i + 2) (Int32.toNatClampNeg (((2 : Int32) * x3) + (1 : Int32)))) = x1 →
          pX0_lockedWith_b69 i rec4 post z x1 x2 x3) ∧
        ((z.1 (4 * i + 2) (Int32.toNatClampNeg (((2 : Int32) * x3) + (1 : Int32)))) = x1 →
          vp_in ((2 : Int32) * x3) 8 ∧
          ∀ x2_68 : Int32, x2_68 = x2 ||| ((1 : Int32) <<< ((z.1 (4 * i + 2) (Int32.toNatClampNeg ((2 : Int32) * x3))) &&& 31)) →
          pX0_lockedWith_b69 i rec4 post z x1 x2_68 x3))) ∧
      ((z.1 (4 * i + 2) (Int32.toNatClampNeg ((2 : Int32) * x3))) = x1 →
        vp_in (((2 : Int32) * x3) + (1 : Int32)) 8 ∧
        ∀ x2_38 : Int32, x2_38 = x2 ||| ((1 : Int32) <<< ((z.1 (4 * i + 2) (Int32.toNatClampNeg (((2 : Int32) * x3) + (1 : Int32)))) &&& 31)) →
        pX0_lockedWith_b69 i rec4 post z x1 x2_38 x3))))
def pX0_lockedWith_L4 (i : Nat) (post : Int32 → MX → Prop) : Nat → MX → Int32 → Int32 → Int32 → Prop
  | 0 => fun _ _ _ _ => False
  | n + 1 => fun z x1 x2 x3 => pX0_lockedWith_l4 i (pX0_lockedWith_L4 i post n) post z x1 x2 x3
def pX0_lockedWith (i : Nat) (z : MX) (x1 : Int32) (post : Int32 → MX → Prop) : Prop :=
  ∃ n, pX0_lockedWith_L4 i post n z x1 (0 : Int32) (0 : Int32)
set_option maxHeartbeats 4000000 in
set_option maxRecDepth 100000 in
theorem kX0_lockedWith (l : Launch) (D : va_G) (q : Nat → ClassId) (ad : Nat → Nat) (A : Nat → Prop) (hD : ∀ z, va_D A (WX q ad z)) (i : Nat) (hi : i < 4) (z : MX) (x1 : Int32) (post : Int32 → MX → Prop) (h : pX0_lockedWith i z x1 post) : Met l yX0_lockedWith (cW yX0_lockedWith cX0_lockedWith 4 (some .int)) ({ frames := 0, cells := 0, slots := 0, locals := 0 } : Room) (va_Pc [.ref (ad (4 * i)), .int x1] ((gB D vwCl (WX q ad) (xE D q ad A)) z)) (va_Qi post (gB D vwCl (WX q ad) (xE D q ad A)) A) 0 0 A := by
  refine Met.ofW (cc := cX0_lockedWith) (maxL := 4) (ret := (some .int)) (by decide) rfl ?_
  intro p e s m args below meth c s₁ B hml hv
  obtain ⟨hargs, hP, hE⟩ := hv
  have hx := B.exec
  have hb := B.bytes
  have hr := B.returns
  have hts := atoms_spec (ws := (cW yX0_lockedWith cX0_lockedWith 4 (some .int))) B.pre
  have ht : ∀ w ∈ tG, w.before args s = true := fun w h => hts w (List.mem_cons_of_mem _ h)
  have hown : s.vm.findClass RX0 = some m.cls := findClass_of_methodNamed B.named
  have hlocks := B.notSynchronized
  have hK := hE.1
  have hG := xE_G D q ad A
  have S : CallFix p m c cX0_lockedWith 4 s args tG RX0 := ⟨hx, hb, hml, hown, ht⟩
  have hS : va_S A s.heap s.heap [] := va_S.rf
  have B69 : ∀ (rec4 : MX → Int32 → Int32 → Int32 → Prop) (hrec4 : ∀ (z : MX) (x1 : Int32) (x2 : Int32) (x3 : Int32) (H : Heap) (locs : List Loc) (ls : Array Slot), rec4 z x1 x2 x3 → va_P D vwCl (WX q ad z) H → va_S A s.heap H locs → lv_has ls 4 [(0, .ref (ad (4 * i))), (1, .int x1), (2, .int x2), (3, .int x3)] → W p l e (headSpec (cW yX0_lockedWith cX0_lockedWith 4 (some .int)) ({ frames := 0, cells := 0, slots := 0, locals := 0 } : Room)).room s m args below meth c H locs 0 0 (MQ below (va_Qi post (gB D vwCl (WX q ad) (xE D q ad A)) A) args s 0 0 A) (F0 m 4 ls [])) (z : MX) (x1 : Int32) (x2 : Int32) (x3 : Int32) (H : Heap) (locs : List Loc) (ls : Array Slot), pX0_lockedWith_b69 i rec4 post z x1 x2 x3 → va_P D vwCl (WX q ad z) H → va_S A s.heap H locs → lv_has ls 4 [(0, .ref (ad (4 * i))), (1, .int x1), (2, .int x2), (3, .int x3)] → W p l e (headSpec (cW yX0_lockedWith cX0_lockedWith 4 (some .int)) ({ frames := 0, cells := 0, slots := 0, locals := 0 } : Room)).room s m args below meth c H locs 0 0 (MQ below (va_Qi post (gB D vwCl (WX q ad) (xE D q ad A)) A) args s 0 0 A) (F0 m 69 ls []) := by
    intro rec4 hrec4 z x1 x2 x3 H locs ls h hP hS hl
    unfold pX0_lockedWith_b69 at h
    obtain ⟨x3_69, ex3_69⟩ : ∃ w : Int32, w = x3 + (1 : Int32) := ⟨_, rfl⟩
    have h := h x3_69 ex3_69
    refine lv_iinc (v := x3_69) (lv' := [(3, .int x3_69), (0, .ref (ad (4 * i))), (1, .int x1), (2, .int x2)]) hx hb dX0_lockedWith_69 hl (k := 3) rfl (by rw [ex3_69]; rfl) (by decide) rfl (fun ls hl => ?_)
    refine lv_goto (tgt := 4) hx hb dX0_lockedWith_72 (by decide) ?_
    exact hrec4 z x1 x2 x3_69 _ _ _ h hP hS (lv_sub hl [1, 2, 3, 0] rfl)
  have B4 : ∀ (rec4 : MX → Int32 → Int32 → Int32 → Prop) (hrec4 : ∀ (z : MX) (x1 : Int32) (x2 : Int32) (x3 : Int32) (H : Heap) (locs : List Loc) (ls : Array Slot), rec4 z x1 x2 x3 → va_P D vwCl (WX q ad z) H → va_S A s.heap H locs → lv_has ls 4 [(0, .ref (ad (4 * i))), (1, .int x1), (2, .int x2), (3, .int x3)] → W p l e (headSpec (cW yX0_lockedWith cX0_lockedWith 4 (some .int)) ({ frames := 0, cells := 0, slots := 0, locals := 0 } : Room)).room s m args below meth c H locs 0 0 (MQ below (va_Qi post (gB D vwCl (WX q ad) (xE D q ad A)) A) args s 0 0 A) (F0 m 4 ls [])) (z : MX) (x1 : Int32) (x2 : Int32) (x3 : Int32) (H : Heap) (locs : List Loc) (ls : Array Slot), pX0_lockedWith_l4 i rec4 post z x1 x2 x3 → va_P D vwCl (WX q ad z) H → va_S A s.heap H locs → lv_has ls 4 [(0, .ref (ad (4 * i))), (1, .int x1), (2, .int x2), (3, .int x3)] → W p l e (headSpec (cW yX0_lockedWith cX0_lockedWith 4 (some .int)) ({ frames := 0, cells := 0, slots := 0, locals := 0 } : Room)).room s m args below meth c H locs 0 0 (MQ below (va_Qi post (gB D vwCl (WX q ad) (xE D q ad A)) A) args s 0 0 A) (F0 m 4 ls []) := by
    intro rec4 hrec4 z x1 x2 x3 H locs ls h hP hS hl
    unfold pX0_lockedWith_l4 at h
    refine lv_iload_n hx hb dX0_lockedWith_4 rfl (lv_at hl 3 rfl) ?_
    refine lv_aload_n hx hb dX0_lockedWith_5 rfl (lv_at hl 0 rfl) ?_
    refine va_get (D := D) (ci := 0) (v := .int (z.1 (4 * i) 2)) (C := RX0) (T := TX0) (N := 7) hx hb ht tl_X0 hown hK hP (4 * i) (wxl q ad z hi) rfl 2 (by decide) (ht _ tw_fl_X0_28) (fun _ h9 => h9) rfl dX0_lockedWith_6 ?_
    refine lv_icmp_ge (tgt := 75) hx hb dX0_lockedWith_9 (by decide) (fun c9 => ?_) (fun c9 => ?_)
    · have h := h.1 c9
      refine lv_iload_n hx hb dX0_lockedWith_75 rfl (lv_at hl 2 rfl) ?_
      exact g_ri hG hx hb hr hlocks hE hP hS h dX0_lockedWith_76
    · have h := h.2 c9
      refine lv_aload_n hx hb dX0_lockedWith_12 rfl (lv_at hl 0 rfl) ?_
      refine va_get (D := D) (ci := 0) (v := .ref (ad (4 * i + 2))) (C := RX0) (T := TX0) (N := 7) hx hb ht tl_X0 hown hK hP (4 * i) (wxl q ad z hi) rfl 5 (by decide) (ht _ tw_fl_X0_19) (fun _ h9 => h9) rfl dX0_lockedWith_13 ?_
      refine lv_iconst (v := (2 : Int32)) hx hb dX0_lockedWith_16 (by decide) ?_
      refine lv_iload_n hx hb dX0_lockedWith_17 rfl (lv_at hl 3 rfl) ?_
      refine lv_imul hx hb dX0_lockedWith_18 ?_
      have hi19 := h.1
      have h := h.2
      refine va_iald hx hb hK hP (4 * i + 2) 0 (wxl2 q ad z hi) rfl hi19 dX0_lockedWith_19 ?_
      refine lv_iload_n hx hb dX0_lockedWith_20 rfl (lv_at hl 1 rfl) ?_
      refine lv_icmp_ne (tgt := 42) hx hb dX0_lockedWith_21 (by decide) (fun c21 => ?_) (fun c21 => ?_)
      · have h := h.1 c21
        refine lv_aload_n hx hb dX0_lockedWith_42 rfl (lv_at hl 0 rfl) ?_
        refine va_get (D := D) (ci := 0) (v := .ref (ad (4 * i + 2))) (C := RX0) (T := TX0) (N := 7) hx hb ht tl_X0 hown hK hP (4 * i) (wxl q ad z hi) rfl 5 (by decide) (ht _ tw_fl_X0_19) (fun _ h9 => h9) rfl dX0_lockedWith_43 ?_
        refine lv_iconst (v := (2 : Int32)) hx hb dX0_lockedWith_46 (by decide) ?_
        refine lv_iload_n hx hb dX0_lockedWith_47 rfl (lv_at hl 3 rfl) ?_
        refine lv_imul hx hb dX0_lockedWith_48 ?_
        refine lv_iconst (v := (1 : Int32)) hx hb dX0_lockedWith_49 (by decide) ?_
        refine lv_iadd hx hb dX0_lockedWith_50 ?_
        have hi51 := h.1
        have h := h.2
        refine va_iald hx hb hK hP (4 * i + 2) 0 (wxl2 q ad z hi) rfl hi51 dX0_lockedWith_51 ?_
        refine lv_iload_n hx hb dX0_lockedWith_52 rfl (lv_at hl 1 rfl) ?_
        refine lv_icmp_ne (tgt := 69) hx hb dX0_lockedWith_53 (by decide) (fun c53 => ?_) (fun c53 => ?_)
        · have h := h.1 c53
          exact B69 rec4 hrec4 z x1 x2 x3 _ _ _ h hP hS (lv_sub hl [0, 1, 2, 3] rfl)
        · have h := h.2 c53
          refine lv_iload_n hx hb dX0_lockedWith_56 rfl (lv_at hl 2 rfl) ?_
          refine lv_iconst (v := (1 : Int32)) hx hb dX0_lockedWith_57 (by decide) ?_
          refine lv_aload_n hx hb dX0_lockedWith_58 rfl (lv_at hl 0 rfl) ?_
          refine va_get (D := D) (ci := 0) (v := .ref (ad (4 * i + 2))) (C := RX0) (T := TX0) (N := 7) hx hb ht tl_X0 hown hK hP (4 * i) (wxl q ad z hi) rfl 5 (by decide) (ht _ tw_fl_X0_19) (fun _ h9 => h9) rfl dX0_lockedWith_59 ?_
          refine lv_iconst (v := (2 : Int32)) hx hb dX0_lockedWith_62 (by decide) ?_
          refine lv_iload_n hx hb dX0_lockedWith_63 rfl (lv_at hl 3 rfl) ?_
          refine lv_imul hx hb dX0_lockedWith_64 ?_
          have hi65 := h.1
          have h := h.2
          refine va_iald hx hb hK hP (4 * i + 2) 0 (wxl2 q ad z hi) rfl hi65 dX0_lockedWith_65 ?_
          refine lv_ishl hx hb dX0_lockedWith_66 ?_
          refine lv_ior hx hb dX0_lockedWith_67 ?_
          refine lv_topi (fun x2_68 ex2_68 => ?_)
          have h := h x2_68 ex2_68
          refine lv_istore_n (lv' := [(2, .int x2_68), (0, .ref (ad (4 * i))), (1, .int x1), (3, .int x3)]) hx hb dX0_lockedWith_68 rfl hl (by decide) rfl (fun ls hl => ?_)
          exact B69 rec4 hrec4 z x1 x2_68 x3 _ _ _ h hP hS (lv_sub hl [1, 2, 0, 3] rfl)
      · have h := h.2 c21
        refine lv_iload_n hx hb dX0_lockedWith_24 rfl (lv_at hl 2 rfl) ?_
        refine lv_iconst (v := (1 : Int32)) hx hb dX0_lockedWith_25 (by decide) ?_
        refine lv_aload_n hx hb dX0_lockedWith_26 rfl (lv_at hl 0 rfl) ?_
        refine va_get (D := D) (ci := 0) (v := .ref (ad (4 * i + 2))) (C := RX0) (T := TX0) (N := 7) hx hb ht tl_X0 hown hK hP (4 * i) (wxl q ad z hi) rfl 5 (by decide) (ht _ tw_fl_X0_19) (fun _ h9 => h9) rfl dX0_lockedWith_27 ?_
        refine lv_iconst (v := (2 : Int32)) hx hb dX0_lockedWith_30 (by decide) ?_
        refine lv_iload_n hx hb dX0_lockedWith_31 rfl (lv_at hl 3 rfl) ?_
        refine lv_imul hx hb dX0_lockedWith_32 ?_
        refine lv_iconst (v := (1 : Int32)) hx hb dX0_lockedWith_33 (by decide) ?_
        refine lv_iadd hx hb dX0_lockedWith_34 ?_
        have hi35 := h.1
        have h := h.2
        refine va_iald hx hb hK hP (4 * i + 2) 0 (wxl2 q ad z hi) rfl hi35 dX0_lockedWith_35 ?_
        refine lv_ishl hx hb dX0_lockedWith_36 ?_
        refine lv_ior hx hb dX0_lockedWith_37 ?_
        refine lv_topi (fun x2_38 ex2_38 => ?_)
        have h := h x2_38 ex2_38
        refine lv_istore_n (lv' := [(2, .int x2_38), (0, .ref (ad (4 * i))), (1, .int x1), (3, .int x3)]) hx hb dX0_lockedWith_38 rfl hl (by decide) rfl (fun ls hl => ?_)
        refine lv_goto (tgt := 69) hx hb dX0_lockedWith_39 (by decide) ?_
        exact B69 rec4 hrec4 z x1 x2_38 x3 _ _ _ h hP hS (lv_sub hl [1, 2, 0, 3] rfl)
  have L4 : ∀ (n : Nat) (z : MX) (x1 : Int32) (x2 : Int32) (x3 : Int32) (H : Heap) (locs : List Loc) (ls : Array Slot), pX0_lockedWith_L4 i post n z x1 x2 x3 → va_P D vwCl (WX q ad z) H → va_S A s.heap H locs → lv_has ls 4 [(0, .ref (ad (4 * i))), (1, .int x1), (2, .int x2), (3, .int x3)] → W p l e (headSpec (cW yX0_lockedWith cX0_lockedWith 4 (some .int)) ({ frames := 0, cells := 0, slots := 0, locals := 0 } : Room)).room s m args below meth c H locs 0 0 (MQ below (va_Qi post (gB D vwCl (WX q ad) (xE D q ad A)) A) args s 0 0 A) (F0 m 4 ls []) := by
    intro n
    induction n with
    | zero =>
      intro z x1 x2 x3 H locs ls h
      exact False.elim h
    | succ n ih =>
      intro z x1 x2 x3 H locs ls h hP hS hl
      exact B4 (pX0_lockedWith_L4 i post n) ih z x1 x2 x3 H locs ls h hP hS hl
  refine g_entry (vs := [.ref (ad (4 * i)), .int x1]) hargs (Nat.le_of_ble_eq_true rfl) (fun ls hl => ?_)
  have hl : lv_has ls 4 [(0, .ref (ad (4 * i))), (1, .int x1)] := hl
  unfold pX0_lockedWith at h
  refine lv_iconst (v := (0 : Int32)) hx hb dX0_lockedWith_0 (by decide) ?_
  refine lv_istore_n (lv' := [(2, .int (0 : Int32)), (0, .ref (ad (4 * i))), (1, .int x1)]) hx hb dX0_lockedWith_1 rfl hl (by decide) rfl (fun ls hl => ?_)
  refine lv_iconst (v := (0 : Int32)) hx hb dX0_lockedWith_2 (by decide) ?_
  refine lv_istore_n (lv' := [(3, .int (0 : Int32)), (2, .int (0 : Int32)), (0, .ref (ad (4 * i))), (1, .int x1)]) hx hb dX0_lockedWith_3 rfl hl (by decide) rfl (fun ls hl => ?_)
  obtain ⟨n, h⟩ := h
  exact L4 n z x1 (0 : Int32) (0 : Int32) _ _ _ h hP hS (lv_sub hl [2, 3, 1, 0] rfl)
def pX0_allowsOmensIn_l2 (i : Nat) (rec2 : MX → Int32 → Int32 → Prop) (post : Int32 → MX → Prop) (z : MX) (x1 : Int32) (x2 : Int32) : Prop :=
    (((z.1 (4 * i) 2) ≤ x2 →
      (((1 : Int32) = 0 ∨ (1 : Int32) = 1) ∧ post (1 : Int32) z)) ∧
    (¬ (z.1 (4 * i) 2) ≤ x2 →
      vp_in ((2 : Int32) * x2) 8 ∧
      vp_in (((2 : Int32) * x2) + (1 : Int32)) 8 ∧
      ∀ x3_33 : Int32, x3_33 = ((1 : Int32) <<< ((z.1 (4 * i + 2) (Int32.toNatClampNeg ((2 : Int32) * x2))) &&& 31)) ||| ((1 : Int32) <<< ((z.1 (4 * i + 2) (Int32.toNatClampNeg (((2 : Int32) * x2) + (1 : Int32)))) &&& 31)) →
      ((¬ (x1 &&& x3_33) = x3_33 →
        ∀ x2_43 : Int32, x2_43 = x2 + (1 : Int32) →
        rec2 z x1 x2_43) ∧
      ((x1 &&& x3_33) = x3_33 →
        (((0 : Int32) = 0 ∨ (0 : Int32) = 1) ∧ post (0 : Int32) z)))))
def pX0_allowsOmensIn_L2 (i : Nat) (post : Int32 → MX → Prop) : Nat → MX → Int32 → Int32 → Prop
  | 0 => fun _ _ _ => False
  | n + 1 => fun z x1 x2 => pX0_allowsOmensIn_l2 i (pX0_allowsOmensIn_L2 i post n) post z x1 x2
def pX0_allowsOmensIn (i : Nat) (z : MX) (x1 : Int32) (post : Int32 → MX → Prop) : Prop :=
  ∃ n, pX0_allowsOmensIn_L2 i post n z x1 (0 : Int32)
set_option maxHeartbeats 4000000 in
set_option maxRecDepth 100000 in
theorem kX0_allowsOmensIn (l : Launch) (D : va_G) (q : Nat → ClassId) (ad : Nat → Nat) (A : Nat → Prop) (hD : ∀ z, va_D A (WX q ad z)) (i : Nat) (hi : i < 4) (z : MX) (x1 : Int32) (post : Int32 → MX → Prop) (h : pX0_allowsOmensIn i z x1 post) : Met l yX0_allowsOmensIn (cW yX0_allowsOmensIn cX0_allowsOmensIn 4 (some .boolean)) ({ frames := 0, cells := 0, slots := 0, locals := 0 } : Room) (va_Pc [.ref (ad (4 * i)), .int x1] ((gB D vwCl (WX q ad) (xE D q ad A)) z)) (va_Qi post (gB D vwCl (WX q ad) (xE D q ad A)) A) 0 0 A := by
  refine Met.ofW (cc := cX0_allowsOmensIn) (maxL := 4) (ret := (some .boolean)) (by decide) rfl ?_
  intro p e s m args below meth c s₁ B hml hv
  obtain ⟨hargs, hP, hE⟩ := hv
  have hx := B.exec
  have hb := B.bytes
  have hr := B.returns
  have hts := atoms_spec (ws := (cW yX0_allowsOmensIn cX0_allowsOmensIn 4 (some .boolean))) B.pre
  have ht : ∀ w ∈ tG, w.before args s = true := fun w h => hts w (List.mem_cons_of_mem _ h)
  have hown : s.vm.findClass RX0 = some m.cls := findClass_of_methodNamed B.named
  have hlocks := B.notSynchronized
  have hK := hE.1
  have hG := xE_G D q ad A
  have S : CallFix p m c cX0_allowsOmensIn 4 s args tG RX0 := ⟨hx, hb, hml, hown, ht⟩
  have hS : va_S A s.heap s.heap [] := va_S.rf
  have B2 : ∀ (rec2 : MX → Int32 → Int32 → Prop) (hrec2 : ∀ (z : MX) (x1 : Int32) (x2 : Int32) (H : Heap) (locs : List Loc) (ls : Array Slot), rec2 z x1 x2 → va_P D vwCl (WX q ad z) H → va_S A s.heap H locs → lv_has ls 4 [(0, .ref (ad (4 * i))), (1, .int x1), (2, .int x2)] → W p l e (headSpec (cW yX0_allowsOmensIn cX0_allowsOmensIn 4 (some .boolean)) ({ frames := 0, cells := 0, slots := 0, locals := 0 } : Room)).room s m args below meth c H locs 0 0 (MQ below (va_Qi post (gB D vwCl (WX q ad) (xE D q ad A)) A) args s 0 0 A) (F0 m 2 ls [])) (z : MX) (x1 : Int32) (x2 : Int32) (H : Heap) (locs : List Loc) (ls : Array Slot), pX0_allowsOmensIn_l2 i rec2 post z x1 x2 → va_P D vwCl (WX q ad z) H → va_S A s.heap H locs → lv_has ls 4 [(0, .ref (ad (4 * i))), (1, .int x1), (2, .int x2)] → W p l e (headSpec (cW yX0_allowsOmensIn cX0_allowsOmensIn 4 (some .boolean)) ({ frames := 0, cells := 0, slots := 0, locals := 0 } : Room)).room s m args below meth c H locs 0 0 (MQ below (va_Qi post (gB D vwCl (WX q ad) (xE D q ad A)) A) args s 0 0 A) (F0 m 2 ls []) := by
    intro rec2 hrec2 z x1 x2 H locs ls h hP hS hl
    unfold pX0_allowsOmensIn_l2 at h
    refine lv_iload_n hx hb dX0_allowsOmensIn_2 rfl (lv_at hl 2 rfl) ?_
    refine lv_aload_n hx hb dX0_allowsOmensIn_3 rfl (lv_at hl 0 rfl) ?_
    refine va_get (D := D) (ci := 0) (v := .int (z.1 (4 * i) 2)) (C := RX0) (T := TX0) (N := 7) hx hb ht tl_X0 hown hK hP (4 * i) (wxl q ad z hi) rfl 2 (by decide) (ht _ tw_fl_X0_28) (fun _ h9 => h9) rfl dX0_allowsOmensIn_4 ?_
    refine lv_icmp_ge (tgt := 49) hx hb dX0_allowsOmensIn_7 (by decide) (fun c7 => ?_) (fun c7 => ?_)
    · have h := h.1 c7
      refine lv_iconst (v := (1 : Int32)) hx hb dX0_allowsOmensIn_49 (by decide) ?_
      exact g_rz hG hx hb hr hlocks hE hP hS h dX0_allowsOmensIn_50
    · have h := h.2 c7
      refine lv_iconst (v := (1 : Int32)) hx hb dX0_allowsOmensIn_10 (by decide) ?_
      refine lv_aload_n hx hb dX0_allowsOmensIn_11 rfl (lv_at hl 0 rfl) ?_
      refine va_get (D := D) (ci := 0) (v := .ref (ad (4 * i + 2))) (C := RX0) (T := TX0) (N := 7) hx hb ht tl_X0 hown hK hP (4 * i) (wxl q ad z hi) rfl 5 (by decide) (ht _ tw_fl_X0_19) (fun _ h9 => h9) rfl dX0_allowsOmensIn_12 ?_
      refine lv_iconst (v := (2 : Int32)) hx hb dX0_allowsOmensIn_15 (by decide) ?_
      refine lv_iload_n hx hb dX0_allowsOmensIn_16 rfl (lv_at hl 2 rfl) ?_
      refine lv_imul hx hb dX0_allowsOmensIn_17 ?_
      have hi18 := h.1
      have h := h.2
      refine va_iald hx hb hK hP (4 * i + 2) 0 (wxl2 q ad z hi) rfl hi18 dX0_allowsOmensIn_18 ?_
      refine lv_ishl hx hb dX0_allowsOmensIn_19 ?_
      refine lv_iconst (v := (1 : Int32)) hx hb dX0_allowsOmensIn_20 (by decide) ?_
      refine lv_aload_n hx hb dX0_allowsOmensIn_21 rfl (lv_at hl 0 rfl) ?_
      refine va_get (D := D) (ci := 0) (v := .ref (ad (4 * i + 2))) (C := RX0) (T := TX0) (N := 7) hx hb ht tl_X0 hown hK hP (4 * i) (wxl q ad z hi) rfl 5 (by decide) (ht _ tw_fl_X0_19) (fun _ h9 => h9) rfl dX0_allowsOmensIn_22 ?_
      refine lv_iconst (v := (2 : Int32)) hx hb dX0_allowsOmensIn_25 (by decide) ?_
      refine lv_iload_n hx hb dX0_allowsOmensIn_26 rfl (lv_at hl 2 rfl) ?_
      refine lv_imul hx hb dX0_allowsOmensIn_27 ?_
      refine lv_iconst (v := (1 : Int32)) hx hb dX0_allowsOmensIn_28 (by decide) ?_
      refine lv_iadd hx hb dX0_allowsOmensIn_29 ?_
      have hi30 := h.1
      have h := h.2
      refine va_iald hx hb hK hP (4 * i + 2) 0 (wxl2 q ad z hi) rfl hi30 dX0_allowsOmensIn_30 ?_
      refine lv_ishl hx hb dX0_allowsOmensIn_31 ?_
      refine lv_ior hx hb dX0_allowsOmensIn_32 ?_
      refine lv_topi (fun x3_33 ex3_33 => ?_)
      have h := h x3_33 ex3_33
      refine lv_istore_n (lv' := [(3, .int x3_33), (0, .ref (ad (4 * i))), (1, .int x1), (2, .int x2)]) hx hb dX0_allowsOmensIn_33 rfl hl (by decide) rfl (fun ls hl => ?_)
      refine lv_iload_n hx hb dX0_allowsOmensIn_34 rfl (lv_at hl 2 rfl) ?_
      refine lv_iload_n hx hb dX0_allowsOmensIn_35 rfl (lv_at hl 0 rfl) ?_
      refine lv_iand hx hb dX0_allowsOmensIn_36 ?_
      refine lv_iload_n hx hb dX0_allowsOmensIn_37 rfl (lv_at hl 0 rfl) ?_
      refine lv_icmp_ne (tgt := 43) hx hb dX0_allowsOmensIn_38 (by decide) (fun c38 => ?_) (fun c38 => ?_)
      · have h := h.1 c38
        obtain ⟨x2_43, ex2_43⟩ : ∃ w : Int32, w = x2 + (1 : Int32) := ⟨_, rfl⟩
        have h := h x2_43 ex2_43
        refine lv_iinc (v := x2_43) (lv' := [(2, .int x2_43), (3, .int x3_33), (0, .ref (ad (4 * i))), (1, .int x1)]) hx hb dX0_allowsOmensIn_43 hl (k := 3) rfl (by rw [ex2_43]; rfl) (by decide) rfl (fun ls hl => ?_)
        refine lv_goto (tgt := 2) hx hb dX0_allowsOmensIn_46 (by decide) ?_
        exact hrec2 z x1 x2_43 _ _ _ h hP hS (lv_sub hl [2, 3, 0] rfl)
      · have h := h.2 c38
        refine lv_iconst (v := (0 : Int32)) hx hb dX0_allowsOmensIn_41 (by decide) ?_
        exact g_rz hG hx hb hr hlocks hE hP hS h dX0_allowsOmensIn_42
  have L2 : ∀ (n : Nat) (z : MX) (x1 : Int32) (x2 : Int32) (H : Heap) (locs : List Loc) (ls : Array Slot), pX0_allowsOmensIn_L2 i post n z x1 x2 → va_P D vwCl (WX q ad z) H → va_S A s.heap H locs → lv_has ls 4 [(0, .ref (ad (4 * i))), (1, .int x1), (2, .int x2)] → W p l e (headSpec (cW yX0_allowsOmensIn cX0_allowsOmensIn 4 (some .boolean)) ({ frames := 0, cells := 0, slots := 0, locals := 0 } : Room)).room s m args below meth c H locs 0 0 (MQ below (va_Qi post (gB D vwCl (WX q ad) (xE D q ad A)) A) args s 0 0 A) (F0 m 2 ls []) := by
    intro n
    induction n with
    | zero =>
      intro z x1 x2 H locs ls h
      exact False.elim h
    | succ n ih =>
      intro z x1 x2 H locs ls h hP hS hl
      exact B2 (pX0_allowsOmensIn_L2 i post n) ih z x1 x2 H locs ls h hP hS hl
  refine g_entry (vs := [.ref (ad (4 * i)), .int x1]) hargs (Nat.le_of_ble_eq_true rfl) (fun ls hl => ?_)
  have hl : lv_has ls 4 [(0, .ref (ad (4 * i))), (1, .int x1)] := hl
  unfold pX0_allowsOmensIn at h
  refine lv_iconst (v := (0 : Int32)) hx hb dX0_allowsOmensIn_0 (by decide) ?_
  refine lv_istore_n (lv' := [(2, .int (0 : Int32)), (0, .ref (ad (4 * i))), (1, .int x1)]) hx hb dX0_allowsOmensIn_1 rfl hl (by decide) rfl (fun ls hl => ?_)
  obtain ⟨n, h⟩ := h
  exact L2 n z x1 (0 : Int32) _ _ _ h hP hS (lv_sub hl [1, 2, 0] rfl)
def pX0_tryToHang_b37 (i : Nat) (post : Int32 → MX → Prop) (z : MX) (x1 : Int32) (x2 : Int32) : Prop :=
    vp_in x1 8 ∧
    ∀ x3_43 : Int32, x3_43 = z.1 (4 * i + 1) (Int32.toNatClampNeg x1) →
    vp_in x1 8 ∧
    ∀ z50 : MX, z50 = mw z (4 * i + 1) (Int32.toNatClampNeg x1) x2 →
    post x3_43 z50
def pX0_tryToHang (i : Nat) (z : MX) (x1 : Int32) (x2 : Int32) (post : Int32 → MX → Prop) : Prop :=
  pX0_isBlock i z x1 (fun (r2 : Int32) (z2 : MX) =>
  ((r2 = 0 →
    post (-1 : Int32) z2) ∧
  (¬ r2 = 0 →
    pX7_isOmen z2 x2 (fun (r9 : Int32) (z9 : MX) =>
    ((¬ r9 = 0 →
      ((x2 = 0 →
        pX0_tryToHang_b37 i post z9 x1 x2) ∧
      (¬ x2 = 0 →
        pX0_lockedWith i z9 x1 (fun (r23 : Int32) (z23 : MX) =>
        pX0_omenBits i z23 (fun (r27 : Int32) (z27 : MX) =>
        (((r23 &&& r27) = 0 →
          pX0_tryToHang_b37 i post z27 x1 x2) ∧
        (¬ (r23 &&& r27) = 0 →
          post (-2 : Int32) z27))))))) ∧
    (r9 = 0 →
      post (-1 : Int32) z9))))))
set_option maxHeartbeats 4000000 in
set_option maxRecDepth 100000 in
theorem kX0_tryToHang (l : Launch) (D : va_G) (q : Nat → ClassId) (ad : Nat → Nat) (A : Nat → Prop) (hD : ∀ z, va_D A (WX q ad z)) (i : Nat) (hi : i < 4) (z : MX) (x1 : Int32) (x2 : Int32) (post : Int32 → MX → Prop) (h : pX0_tryToHang i z x1 x2 post) : Met l yX0_tryToHang (cW yX0_tryToHang cX0_tryToHang 4 (some .int)) ({ frames := 1, cells := 0, slots := 0, locals := 23 } : Room) (va_Pc [.ref (ad (4 * i)), .int x1, .int x2] ((gB D vwCl (WX q ad) (xE D q ad A)) z)) (va_Qi post (gB D vwCl (WX q ad) (xE D q ad A)) A) 0 0 A := by
  refine Met.ofW (cc := cX0_tryToHang) (maxL := 4) (ret := (some .int)) (by decide) rfl ?_
  intro p e s m args below meth c s₁ B hml hv
  obtain ⟨hargs, hP, hE⟩ := hv
  have hx := B.exec
  have hb := B.bytes
  have hr := B.returns
  have hts := atoms_spec (ws := (cW yX0_tryToHang cX0_tryToHang 4 (some .int))) B.pre
  have ht : ∀ w ∈ tG, w.before args s = true := fun w h => hts w (List.mem_cons_of_mem _ h)
  have hown : s.vm.findClass RX0 = some m.cls := findClass_of_methodNamed B.named
  have hlocks := B.notSynchronized
  have hK := hE.1
  have hG := xE_G D q ad A
  have S : CallFix p m c cX0_tryToHang 4 s args tG RX0 := ⟨hx, hb, hml, hown, ht⟩
  have hS : va_S A s.heap s.heap [] := va_S.rf
  have B37 : ∀ (z : MX) (x1 : Int32) (x2 : Int32) (H : Heap) (locs : List Loc) (ls : Array Slot), pX0_tryToHang_b37 i post z x1 x2 → va_P D vwCl (WX q ad z) H → va_S A s.heap H locs → lv_has ls 4 [(0, .ref (ad (4 * i))), (1, .int x1), (2, .int x2)] → W p l e (headSpec (cW yX0_tryToHang cX0_tryToHang 4 (some .int)) ({ frames := 1, cells := 0, slots := 0, locals := 23 } : Room)).room s m args below meth c H locs 0 0 (MQ below (va_Qi post (gB D vwCl (WX q ad) (xE D q ad A)) A) args s 0 0 A) (F0 m 37 ls []) := by
    intro z x1 x2 H locs ls h hP hS hl
    unfold pX0_tryToHang_b37 at h
    refine lv_aload_n hx hb dX0_tryToHang_37 rfl (lv_at hl 0 rfl) ?_
    refine va_get (D := D) (ci := 0) (v := .ref (ad (4 * i + 1))) (C := RX0) (T := TX0) (N := 7) hx hb ht tl_X0 hown hK hP (4 * i) (wxl q ad z hi) rfl 4 (by decide) (ht _ tw_fl_X0_15) (fun _ h9 => h9) rfl dX0_tryToHang_38 ?_
    refine lv_iload_n hx hb dX0_tryToHang_41 rfl (lv_at hl 1 rfl) ?_
    have hi42 := h.1
    have h := h.2
    refine va_iald hx hb hK hP (4 * i + 1) 0 (wxl1 q ad z hi) rfl hi42 dX0_tryToHang_42 ?_
    refine lv_topi (fun x3_43 ex3_43 => ?_)
    have h := h x3_43 ex3_43
    refine lv_istore_n (lv' := [(3, .int x3_43), (0, .ref (ad (4 * i))), (1, .int x1), (2, .int x2)]) hx hb dX0_tryToHang_43 rfl hl (by decide) rfl (fun ls hl => ?_)
    refine lv_aload_n hx hb dX0_tryToHang_44 rfl (lv_at hl 1 rfl) ?_
    refine va_get (D := D) (ci := 0) (v := .ref (ad (4 * i + 1))) (C := RX0) (T := TX0) (N := 7) hx hb ht tl_X0 hown hK hP (4 * i) (wxl q ad z hi) rfl 4 (by decide) (ht _ tw_fl_X0_15) (fun _ h9 => h9) rfl dX0_tryToHang_45 ?_
    refine lv_iload_n hx hb dX0_tryToHang_48 rfl (lv_at hl 2 rfl) ?_
    refine lv_iload_n hx hb dX0_tryToHang_49 rfl (lv_at hl 3 rfl) ?_
    have hi50 := h.1
    have h := h.2
    refine g_iast (Wd := WX q ad) (z := z) hx hb hK hP (hD z) hS (4 * i + 1) (wxl1 q ad z hi) rfl (axl1 q ad z hi) hi50 dX0_tryToHang_50 (fun z50 H locs hz50 hP hS => ?_)
    have h := h z50 hz50
    refine lv_iload_n hx hb dX0_tryToHang_51 rfl (lv_at hl 0 rfl) ?_
    exact g_ri hG hx hb hr hlocks hE hP hS h dX0_tryToHang_52
  refine g_entry (vs := [.ref (ad (4 * i)), .int x1, .int x2]) hargs (Nat.le_of_ble_eq_true rfl) (fun ls hl => ?_)
  have hl : lv_has ls 4 [(0, .ref (ad (4 * i))), (1, .int x1), (2, .int x2)] := hl
  unfold pX0_tryToHang at h
  refine lv_aload_n hx hb dX0_tryToHang_0 rfl (lv_at hl 0 rfl) ?_
  refine lv_iload_n hx hb dX0_tryToHang_1 rfl (lv_at hl 1 rfl) ?_
  refine g_cVi (Wd := WX q ad) (z := z) (As := [.int x1]) (rest := []) hG S (kX0_isBlock l D q ad A hD i hi z x1 _ h) (cwV 1 ht (cW_V (fun _ h => h) tw_co_X0_isBlock tw_ml_X0_46 tw_im_X0_isBlock tw_se_X0_isBlock tw_in_X0) rfl rfl rfl (by decide +kernel) ⟨by decide, by decide⟩) (va_recv hK hP (ci := 0) (q0 := (4 * i)) rfl (wxl q ad z hi)) hE hP hS rfl hl.1 rfl (Nat.le_of_ble_eq_true rfl) dX0_tryToHang_2 ⟨Nat.zero_le _, Nat.zero_le _⟩ (fun r2 z2 H locs h hP hS => ?_)
  refine lv_if_eq (tgt := 15) hx hb dX0_tryToHang_5 (by decide) (fun c5 => ?_) (fun c5 => ?_)
  · have h := h.1 c5
    refine lv_iconst (v := (-1 : Int32)) hx hb dX0_tryToHang_15 (by decide) ?_
    exact g_ri hG hx hb hr hlocks hE hP hS h dX0_tryToHang_16
  · have h := h.2 c5
    refine lv_iload_n hx hb dX0_tryToHang_8 rfl (lv_at hl 2 rfl) ?_
    refine g_cNi (Wd := WX q ad) (z := z2) (As := [.int x2]) (rest := []) hG S (kX7_isOmen l D q ad A hD z2 x2 _ h) ⟨va_cnB 1 ht (cW_good (fun _ h => h) tw_co_X7_isOmen) rfl rfl rfl hE.2.2.2.1 (ht _ tw_in_X7) (by decide +kernel) ⟨by decide, by decide⟩, ht _ tw_st_X7_isOmen, trivial⟩ hE hP hS rfl hl.1 rfl (Nat.le_of_ble_eq_true rfl) dX0_tryToHang_9 ⟨Nat.zero_le _, Nat.zero_le _⟩ (fun r9 z9 H locs h hP hS => ?_)
    refine lv_if_ne (tgt := 17) hx hb dX0_tryToHang_12 (by decide) (fun c12 => ?_) (fun c12 => ?_)
    · have h := h.1 c12
      refine lv_iload_n hx hb dX0_tryToHang_17 rfl (lv_at hl 2 rfl) ?_
      refine lv_if_eq (tgt := 37) hx hb dX0_tryToHang_18 (by decide) (fun c18 => ?_) (fun c18 => ?_)
      · have h := h.1 c18
        exact B37 z9 x1 x2 _ _ _ h hP hS (lv_sub hl [0, 1, 2] rfl)
      · have h := h.2 c18
        refine lv_aload_n hx hb dX0_tryToHang_21 rfl (lv_at hl 0 rfl) ?_
        refine lv_iload_n hx hb dX0_tryToHang_22 rfl (lv_at hl 1 rfl) ?_
        refine g_cVi (Wd := WX q ad) (z := z9) (As := [.int x1]) (rest := []) hG S (kX0_lockedWith l D q ad A hD i hi z9 x1 _ h) (cwV 1 ht (cW_V (fun _ h => h) tw_co_X0_lockedWith tw_ml_X0_53 tw_im_X0_lockedWith tw_se_X0_lockedWith tw_in_X0) rfl rfl rfl (by decide +kernel) ⟨by decide, by decide⟩) (va_recv hK hP (ci := 0) (q0 := (4 * i)) rfl (wxl q ad z9 hi)) hE hP hS rfl hl.1 rfl (Nat.le_of_ble_eq_true rfl) dX0_tryToHang_23 ⟨Nat.zero_le _, Nat.zero_le _⟩ (fun r23 z23 H locs h hP hS => ?_)
        refine lv_aload_n hx hb dX0_tryToHang_26 rfl (lv_at hl 0 rfl) ?_
        refine g_cVi (Wd := WX q ad) (z := z23) (As := []) (rest := [.int r23]) hG S (kX0_omenBits l D q ad A hD i hi z23 _ h) (cwV 0 ht (cW_V (fun _ h => h) tw_co_X0_omenBits tw_ml_X0_57 tw_im_X0_omenBits tw_se_X0_omenBits tw_in_X0) rfl rfl rfl (by decide +kernel) ⟨by decide, by decide⟩) (va_recv hK hP (ci := 0) (q0 := (4 * i)) rfl (wxl q ad z23 hi)) hE hP hS rfl hl.1 rfl (Nat.le_of_ble_eq_true rfl) dX0_tryToHang_27 ⟨Nat.zero_le _, Nat.zero_le _⟩ (fun r27 z27 H locs h hP hS => ?_)
        refine lv_iand hx hb dX0_tryToHang_30 ?_
        refine lv_if_eq (tgt := 37) hx hb dX0_tryToHang_31 (by decide) (fun c31 => ?_) (fun c31 => ?_)
        · have h := h.1 c31
          exact B37 z27 x1 x2 _ _ _ h hP hS (lv_sub hl [0, 1, 2] rfl)
        · have h := h.2 c31
          refine lv_bipush (v := (-2 : Int32)) hx hb dX0_tryToHang_34 (by decide) ?_
          exact g_ri hG hx hb hr hlocks hE hP hS h dX0_tryToHang_36
    · have h := h.2 c12
      refine lv_iconst (v := (-1 : Int32)) hx hb dX0_tryToHang_15 (by decide) ?_
      exact g_ri hG hx hb hr hlocks hE hP hS h dX0_tryToHang_16
def pX0_hangMagpiesIn_b25 (i : Nat) (rec2 : MX → Int32 → Int32 → Prop) (post : MX → Prop) (z : MX) (x1 : Int32) (x2 : Int32) : Prop :=
    ∀ x2_25 : Int32, x2_25 = x2 + (1 : Int32) →
    rec2 z x1 x2_25
def pX0_hangMagpiesIn_l2 (i : Nat) (rec2 : MX → Int32 → Int32 → Prop) (post : MX → Prop) (z : MX) (x1 : Int32) (x2 : Int32) : Prop :=
    (((z.1 (4 * i) 0) ≤ x2 →
      post z) ∧
    (¬ (z.1 (4 * i) 0) ≤ x2 →
      ((((x1 >>> (x2 &&& 31)) &&& (1 : Int32)) = 0 →
        pX0_hangMagpiesIn_b25 i rec2 post z x1 x2) ∧
      (¬ ((x1 >>> (x2 &&& 31)) &&& (1 : Int32)) = 0 →
        vp_in x2 8 ∧
        ∀ z24 : MX, z24 = mw z (4 * i + 1) (Int32.toNatClampNeg x2) (1 : Int32) →
        pX0_hangMagpiesIn_b25 i rec2 post z24 x1 x2))))
def pX0_hangMagpiesIn_L2 (i : Nat) (post : MX → Prop) : Nat → MX → Int32 → Int32 → Prop
  | 0 => fun _ _ _ => False
  | n + 1 => fun z x1 x2 => pX0_hangMagpiesIn_l2 i (pX0_hangMagpiesIn_L2 i post n) post z x1 x2
def pX0_hangMagpiesIn (i : Nat) (z : MX) (x1 : Int32) (post : MX → Prop) : Prop :=
  ∃ n, pX0_hangMagpiesIn_L2 i post n z x1 (0 : Int32)
set_option maxHeartbeats 4000000 in
set_option maxRecDepth 100000 in
theorem kX0_hangMagpiesIn (l : Launch) (D : va_G) (q : Nat → ClassId) (ad : Nat → Nat) (A : Nat → Prop) (hD : ∀ z, va_D A (WX q ad z)) (i : Nat) (hi : i < 4) (z : MX) (x1 : Int32) (post : MX → Prop) (h : pX0_hangMagpiesIn i z x1 post) : Met l yX0_hangMagpiesIn (cW yX0_hangMagpiesIn cX0_hangMagpiesIn 3 none) ({ frames := 0, cells := 0, slots := 0, locals := 0 } : Room) (va_Pc [.ref (ad (4 * i)), .int x1] ((gB D vwCl (WX q ad) (xE D q ad A)) z)) (va_Qv post (gB D vwCl (WX q ad) (xE D q ad A)) A) 0 0 A := by
  refine Met.ofW (cc := cX0_hangMagpiesIn) (maxL := 3) (ret := none) (by decide) rfl ?_
  intro p e s m args below meth c s₁ B hml hv
  obtain ⟨hargs, hP, hE⟩ := hv
  have hx := B.exec
  have hb := B.bytes
  have hr := B.returns
  have hts := atoms_spec (ws := (cW yX0_hangMagpiesIn cX0_hangMagpiesIn 3 none)) B.pre
  have ht : ∀ w ∈ tG, w.before args s = true := fun w h => hts w (List.mem_cons_of_mem _ h)
  have hown : s.vm.findClass RX0 = some m.cls := findClass_of_methodNamed B.named
  have hlocks := B.notSynchronized
  have hK := hE.1
  have hG := xE_G D q ad A
  have S : CallFix p m c cX0_hangMagpiesIn 3 s args tG RX0 := ⟨hx, hb, hml, hown, ht⟩
  have hS : va_S A s.heap s.heap [] := va_S.rf
  have B25 : ∀ (rec2 : MX → Int32 → Int32 → Prop) (hrec2 : ∀ (z : MX) (x1 : Int32) (x2 : Int32) (H : Heap) (locs : List Loc) (ls : Array Slot), rec2 z x1 x2 → va_P D vwCl (WX q ad z) H → va_S A s.heap H locs → lv_has ls 3 [(0, .ref (ad (4 * i))), (1, .int x1), (2, .int x2)] → W p l e (headSpec (cW yX0_hangMagpiesIn cX0_hangMagpiesIn 3 none) ({ frames := 0, cells := 0, slots := 0, locals := 0 } : Room)).room s m args below meth c H locs 0 0 (MQ below (va_Qv post (gB D vwCl (WX q ad) (xE D q ad A)) A) args s 0 0 A) (F0 m 2 ls [])) (z : MX) (x1 : Int32) (x2 : Int32) (H : Heap) (locs : List Loc) (ls : Array Slot), pX0_hangMagpiesIn_b25 i rec2 post z x1 x2 → va_P D vwCl (WX q ad z) H → va_S A s.heap H locs → lv_has ls 3 [(0, .ref (ad (4 * i))), (1, .int x1), (2, .int x2)] → W p l e (headSpec (cW yX0_hangMagpiesIn cX0_hangMagpiesIn 3 none) ({ frames := 0, cells := 0, slots := 0, locals := 0 } : Room)).room s m args below meth c H locs 0 0 (MQ below (va_Qv post (gB D vwCl (WX q ad) (xE D q ad A)) A) args s 0 0 A) (F0 m 25 ls []) := by
    intro rec2 hrec2 z x1 x2 H locs ls h hP hS hl
    unfold pX0_hangMagpiesIn_b25 at h
    obtain ⟨x2_25, ex2_25⟩ : ∃ w : Int32, w = x2 + (1 : Int32) := ⟨_, rfl⟩
    have h := h x2_25 ex2_25
    refine lv_iinc (v := x2_25) (lv' := [(2, .int x2_25), (0, .ref (ad (4 * i))), (1, .int x1)]) hx hb dX0_hangMagpiesIn_25 hl (k := 2) rfl (by rw [ex2_25]; rfl) (by decide) rfl (fun ls hl => ?_)
    refine lv_goto (tgt := 2) hx hb dX0_hangMagpiesIn_28 (by decide) ?_
    exact hrec2 z x1 x2_25 _ _ _ h hP hS (lv_sub hl [1, 2, 0] rfl)
  have B2 : ∀ (rec2 : MX → Int32 → Int32 → Prop) (hrec2 : ∀ (z : MX) (x1 : Int32) (x2 : Int32) (H : Heap) (locs : List Loc) (ls : Array Slot), rec2 z x1 x2 → va_P D vwCl (WX q ad z) H → va_S A s.heap H locs → lv_has ls 3 [(0, .ref (ad (4 * i))), (1, .int x1), (2, .int x2)] → W p l e (headSpec (cW yX0_hangMagpiesIn cX0_hangMagpiesIn 3 none) ({ frames := 0, cells := 0, slots := 0, locals := 0 } : Room)).room s m args below meth c H locs 0 0 (MQ below (va_Qv post (gB D vwCl (WX q ad) (xE D q ad A)) A) args s 0 0 A) (F0 m 2 ls [])) (z : MX) (x1 : Int32) (x2 : Int32) (H : Heap) (locs : List Loc) (ls : Array Slot), pX0_hangMagpiesIn_l2 i rec2 post z x1 x2 → va_P D vwCl (WX q ad z) H → va_S A s.heap H locs → lv_has ls 3 [(0, .ref (ad (4 * i))), (1, .int x1), (2, .int x2)] → W p l e (headSpec (cW yX0_hangMagpiesIn cX0_hangMagpiesIn 3 none) ({ frames := 0, cells := 0, slots := 0, locals := 0 } : Room)).room s m args below meth c H locs 0 0 (MQ below (va_Qv post (gB D vwCl (WX q ad) (xE D q ad A)) A) args s 0 0 A) (F0 m 2 ls []) := by
    intro rec2 hrec2 z x1 x2 H locs ls h hP hS hl
    unfold pX0_hangMagpiesIn_l2 at h
    refine lv_iload_n hx hb dX0_hangMagpiesIn_2 rfl (lv_at hl 2 rfl) ?_
    refine lv_aload_n hx hb dX0_hangMagpiesIn_3 rfl (lv_at hl 0 rfl) ?_
    refine va_get (D := D) (ci := 0) (v := .int (z.1 (4 * i) 0)) (C := RX0) (T := TX0) (N := 7) hx hb ht tl_X0 hown hK hP (4 * i) (wxl q ad z hi) rfl 0 (by decide) (ht _ tw_fl_X0_9) (fun _ h9 => h9) rfl dX0_hangMagpiesIn_4 ?_
    refine lv_icmp_ge (tgt := 31) hx hb dX0_hangMagpiesIn_7 (by decide) (fun c7 => ?_) (fun c7 => ?_)
    · have h := h.1 c7
      exact g_rv hG hx hb hr hlocks hE hP hS h dX0_hangMagpiesIn_31
    · have h := h.2 c7
      refine lv_iload_n hx hb dX0_hangMagpiesIn_10 rfl (lv_at hl 1 rfl) ?_
      refine lv_iload_n hx hb dX0_hangMagpiesIn_11 rfl (lv_at hl 2 rfl) ?_
      refine lv_ishr hx hb dX0_hangMagpiesIn_12 ?_
      refine lv_iconst (v := (1 : Int32)) hx hb dX0_hangMagpiesIn_13 (by decide) ?_
      refine lv_iand hx hb dX0_hangMagpiesIn_14 ?_
      refine lv_if_eq (tgt := 25) hx hb dX0_hangMagpiesIn_15 (by decide) (fun c15 => ?_) (fun c15 => ?_)
      · have h := h.1 c15
        exact B25 rec2 hrec2 z x1 x2 _ _ _ h hP hS (lv_sub hl [0, 1, 2] rfl)
      · have h := h.2 c15
        refine lv_aload_n hx hb dX0_hangMagpiesIn_18 rfl (lv_at hl 0 rfl) ?_
        refine va_get (D := D) (ci := 0) (v := .ref (ad (4 * i + 1))) (C := RX0) (T := TX0) (N := 7) hx hb ht tl_X0 hown hK hP (4 * i) (wxl q ad z hi) rfl 4 (by decide) (ht _ tw_fl_X0_15) (fun _ h9 => h9) rfl dX0_hangMagpiesIn_19 ?_
        refine lv_iload_n hx hb dX0_hangMagpiesIn_22 rfl (lv_at hl 2 rfl) ?_
        refine lv_iconst (v := (1 : Int32)) hx hb dX0_hangMagpiesIn_23 (by decide) ?_
        have hi24 := h.1
        have h := h.2
        refine g_iast (Wd := WX q ad) (z := z) hx hb hK hP (hD z) hS (4 * i + 1) (wxl1 q ad z hi) rfl (axl1 q ad z hi) hi24 dX0_hangMagpiesIn_24 (fun z24 H locs hz24 hP hS => ?_)
        have h := h z24 hz24
        exact B25 rec2 hrec2 z24 x1 x2 _ _ _ h hP hS (lv_sub hl [0, 1, 2] rfl)
  have L2 : ∀ (n : Nat) (z : MX) (x1 : Int32) (x2 : Int32) (H : Heap) (locs : List Loc) (ls : Array Slot), pX0_hangMagpiesIn_L2 i post n z x1 x2 → va_P D vwCl (WX q ad z) H → va_S A s.heap H locs → lv_has ls 3 [(0, .ref (ad (4 * i))), (1, .int x1), (2, .int x2)] → W p l e (headSpec (cW yX0_hangMagpiesIn cX0_hangMagpiesIn 3 none) ({ frames := 0, cells := 0, slots := 0, locals := 0 } : Room)).room s m args below meth c H locs 0 0 (MQ below (va_Qv post (gB D vwCl (WX q ad) (xE D q ad A)) A) args s 0 0 A) (F0 m 2 ls []) := by
    intro n
    induction n with
    | zero =>
      intro z x1 x2 H locs ls h
      exact False.elim h
    | succ n ih =>
      intro z x1 x2 H locs ls h hP hS hl
      exact B2 (pX0_hangMagpiesIn_L2 i post n) ih z x1 x2 H locs ls h hP hS hl
  refine g_entry (vs := [.ref (ad (4 * i)), .int x1]) hargs (Nat.le_of_ble_eq_true rfl) (fun ls hl => ?_)
  have hl : lv_has ls 3 [(0, .ref (ad (4 * i))), (1, .int x1)] := hl
  unfold pX0_hangMagpiesIn at h
  refine lv_iconst (v := (0 : Int32)) hx hb dX0_hangMagpiesIn_0 (by decide) ?_
  refine lv_istore_n (lv' := [(2, .int (0 : Int32)), (0, .ref (ad (4 * i))), (1, .int x1)]) hx hb dX0_hangMagpiesIn_1 rfl hl (by decide) rfl (fun ls hl => ?_)
  obtain ⟨n, h⟩ := h
  exact L2 n z x1 (0 : Int32) _ _ _ h hP hS (lv_sub hl [1, 2, 0] rfl)
def pX0_allWorths_l4 (i : Nat) (rec4 : MX → Int32 → Int32 → Prop) (post : Int32 → MX → Prop) (z : MX) (x1 : Int32) (x2 : Int32) : Prop :=
    (((z.1 (4 * i) 3) ≤ x2 →
      post x1 z) ∧
    (¬ (z.1 (4 * i) 3) ≤ x2 →
      pX0_fact i z x2 (3 : Int32) (fun (r16 : Int32) (z16 : MX) =>
      ∀ x1_20 : Int32, x1_20 = x1 + r16 →
      ∀ x2_21 : Int32, x2_21 = x2 + (1 : Int32) →
      rec4 z16 x1_20 x2_21)))
def pX0_allWorths_L4 (i : Nat) (post : Int32 → MX → Prop) : Nat → MX → Int32 → Int32 → Prop
  | 0 => fun _ _ _ => False
  | n + 1 => fun z x1 x2 => pX0_allWorths_l4 i (pX0_allWorths_L4 i post n) post z x1 x2
def pX0_allWorths (i : Nat) (z : MX) (post : Int32 → MX → Prop) : Prop :=
  ∃ n, pX0_allWorths_L4 i post n z (0 : Int32) (0 : Int32)
set_option maxHeartbeats 4000000 in
set_option maxRecDepth 100000 in
theorem kX0_allWorths (l : Launch) (D : va_G) (q : Nat → ClassId) (ad : Nat → Nat) (A : Nat → Prop) (hD : ∀ z, va_D A (WX q ad z)) (i : Nat) (hi : i < 4) (z : MX) (post : Int32 → MX → Prop) (h : pX0_allWorths i z post) : Met l yX0_allWorths (cW yX0_allWorths cX0_allWorths 3 (some .int)) ({ frames := 1, cells := 0, slots := 0, locals := 22 } : Room) (va_Pc [.ref (ad (4 * i))] ((gB D vwCl (WX q ad) (xE D q ad A)) z)) (va_Qi post (gB D vwCl (WX q ad) (xE D q ad A)) A) 0 0 A := by
  refine Met.ofW (cc := cX0_allWorths) (maxL := 3) (ret := (some .int)) (by decide) rfl ?_
  intro p e s m args below meth c s₁ B hml hv
  obtain ⟨hargs, hP, hE⟩ := hv
  have hx := B.exec
  have hb := B.bytes
  have hr := B.returns
  have hts := atoms_spec (ws := (cW yX0_allWorths cX0_allWorths 3 (some .int))) B.pre
  have ht : ∀ w ∈ tG, w.before args s = true := fun w h => hts w (List.mem_cons_of_mem _ h)
  have hown : s.vm.findClass RX0 = some m.cls := findClass_of_methodNamed B.named
  have hlocks := B.notSynchronized
  have hK := hE.1
  have hG := xE_G D q ad A
  have S : CallFix p m c cX0_allWorths 3 s args tG RX0 := ⟨hx, hb, hml, hown, ht⟩
  have hS : va_S A s.heap s.heap [] := va_S.rf
  have B4 : ∀ (rec4 : MX → Int32 → Int32 → Prop) (hrec4 : ∀ (z : MX) (x1 : Int32) (x2 : Int32) (H : Heap) (locs : List Loc) (ls : Array Slot), rec4 z x1 x2 → va_P D vwCl (WX q ad z) H → va_S A s.heap H locs → lv_has ls 3 [(0, .ref (ad (4 * i))), (1, .int x1), (2, .int x2)] → W p l e (headSpec (cW yX0_allWorths cX0_allWorths 3 (some .int)) ({ frames := 1, cells := 0, slots := 0, locals := 22 } : Room)).room s m args below meth c H locs 0 0 (MQ below (va_Qi post (gB D vwCl (WX q ad) (xE D q ad A)) A) args s 0 0 A) (F0 m 4 ls [])) (z : MX) (x1 : Int32) (x2 : Int32) (H : Heap) (locs : List Loc) (ls : Array Slot), pX0_allWorths_l4 i rec4 post z x1 x2 → va_P D vwCl (WX q ad z) H → va_S A s.heap H locs → lv_has ls 3 [(0, .ref (ad (4 * i))), (1, .int x1), (2, .int x2)] → W p l e (headSpec (cW yX0_allWorths cX0_allWorths 3 (some .int)) ({ frames := 1, cells := 0, slots := 0, locals := 22 } : Room)).room s m args below meth c H locs 0 0 (MQ below (va_Qi post (gB D vwCl (WX q ad) (xE D q ad A)) A) args s 0 0 A) (F0 m 4 ls []) := by
    intro rec4 hrec4 z x1 x2 H locs ls h hP hS hl
    unfold pX0_allWorths_l4 at h
    refine lv_iload_n hx hb dX0_allWorths_4 rfl (lv_at hl 2 rfl) ?_
    refine lv_aload_n hx hb dX0_allWorths_5 rfl (lv_at hl 0 rfl) ?_
    refine va_get (D := D) (ci := 0) (v := .int (z.1 (4 * i) 3)) (C := RX0) (T := TX0) (N := 7) hx hb ht tl_X0 hown hK hP (4 * i) (wxl q ad z hi) rfl 3 (by decide) (ht _ tw_fl_X0_31) (fun _ h9 => h9) rfl dX0_allWorths_6 ?_
    refine lv_icmp_ge (tgt := 27) hx hb dX0_allWorths_9 (by decide) (fun c9 => ?_) (fun c9 => ?_)
    · have h := h.1 c9
      refine lv_iload_n hx hb dX0_allWorths_27 rfl (lv_at hl 1 rfl) ?_
      exact g_ri hG hx hb hr hlocks hE hP hS h dX0_allWorths_28
    · have h := h.2 c9
      refine lv_iload_n hx hb dX0_allWorths_12 rfl (lv_at hl 1 rfl) ?_
      refine lv_aload_n hx hb dX0_allWorths_13 rfl (lv_at hl 0 rfl) ?_
      refine lv_iload_n hx hb dX0_allWorths_14 rfl (lv_at hl 2 rfl) ?_
      refine lv_iconst (v := (3 : Int32)) hx hb dX0_allWorths_15 (by decide) ?_
      refine g_cVi (Wd := WX q ad) (z := z) (As := [.int x2, .int (3 : Int32)]) (rest := [.int x1]) hG S (kX0_fact l D q ad A hD i hi z x2 (3 : Int32) _ h) (cwV 2 ht (cW_V (fun _ h => h) tw_co_X0_fact tw_ml_X0_61 tw_im_X0_fact tw_se_X0_fact tw_in_X0) rfl rfl rfl (by decide +kernel) ⟨by decide, by decide⟩) (va_recv hK hP (ci := 0) (q0 := (4 * i)) rfl (wxl q ad z hi)) hE hP hS rfl hl.1 rfl (Nat.le_of_ble_eq_true rfl) dX0_allWorths_16 ⟨Nat.zero_le _, Nat.zero_le _⟩ (fun r16 z16 H locs h hP hS => ?_)
      refine lv_iadd hx hb dX0_allWorths_19 ?_
      refine lv_topi (fun x1_20 ex1_20 => ?_)
      have h := h x1_20 ex1_20
      refine lv_istore_n (lv' := [(1, .int x1_20), (0, .ref (ad (4 * i))), (2, .int x2)]) hx hb dX0_allWorths_20 rfl hl (by decide) rfl (fun ls hl => ?_)
      obtain ⟨x2_21, ex2_21⟩ : ∃ w : Int32, w = x2 + (1 : Int32) := ⟨_, rfl⟩
      have h := h x2_21 ex2_21
      refine lv_iinc (v := x2_21) (lv' := [(2, .int x2_21), (1, .int x1_20), (0, .ref (ad (4 * i)))]) hx hb dX0_allWorths_21 hl (k := 2) rfl (by rw [ex2_21]; rfl) (by decide) rfl (fun ls hl => ?_)
      refine lv_goto (tgt := 4) hx hb dX0_allWorths_24 (by decide) ?_
      exact hrec4 z16 x1_20 x2_21 _ _ _ h hP hS (lv_sub hl [2, 1, 0] rfl)
  have L4 : ∀ (n : Nat) (z : MX) (x1 : Int32) (x2 : Int32) (H : Heap) (locs : List Loc) (ls : Array Slot), pX0_allWorths_L4 i post n z x1 x2 → va_P D vwCl (WX q ad z) H → va_S A s.heap H locs → lv_has ls 3 [(0, .ref (ad (4 * i))), (1, .int x1), (2, .int x2)] → W p l e (headSpec (cW yX0_allWorths cX0_allWorths 3 (some .int)) ({ frames := 1, cells := 0, slots := 0, locals := 22 } : Room)).room s m args below meth c H locs 0 0 (MQ below (va_Qi post (gB D vwCl (WX q ad) (xE D q ad A)) A) args s 0 0 A) (F0 m 4 ls []) := by
    intro n
    induction n with
    | zero =>
      intro z x1 x2 H locs ls h
      exact False.elim h
    | succ n ih =>
      intro z x1 x2 H locs ls h hP hS hl
      exact B4 (pX0_allWorths_L4 i post n) ih z x1 x2 H locs ls h hP hS hl
  refine g_entry (vs := [.ref (ad (4 * i))]) hargs (Nat.le_of_ble_eq_true rfl) (fun ls hl => ?_)
  have hl : lv_has ls 3 [(0, .ref (ad (4 * i)))] := hl
  unfold pX0_allWorths at h
  refine lv_iconst (v := (0 : Int32)) hx hb dX0_allWorths_0 (by decide) ?_
  refine lv_istore_n (lv' := [(1, .int (0 : Int32)), (0, .ref (ad (4 * i)))]) hx hb dX0_allWorths_1 rfl hl (by decide) rfl (fun ls hl => ?_)
  refine lv_iconst (v := (0 : Int32)) hx hb dX0_allWorths_2 (by decide) ?_
  refine lv_istore_n (lv' := [(2, .int (0 : Int32)), (1, .int (0 : Int32)), (0, .ref (ad (4 * i)))]) hx hb dX0_allWorths_3 rfl hl (by decide) rfl (fun ls hl => ?_)
  obtain ⟨n, h⟩ := h
  exact L4 n z (0 : Int32) (0 : Int32) _ _ _ h hP hS (lv_sub hl [2, 1, 0] rfl)
def pX0_lastBlockOf (i : Nat) (z : MX) (x1 : Int32) (post : Int32 → MX → Prop) : Prop :=
  pX0_fact i z x1 (1 : Int32) (fun (r3 : Int32) (z3 : MX) =>
  ((¬ r3 = 0 →
    post (0 : Int32) z3) ∧
  (r3 = 0 →
    post ((z3.1 (4 * i) 0) - (1 : Int32)) z3)))
set_option maxHeartbeats 4000000 in
set_option maxRecDepth 100000 in
theorem kX0_lastBlockOf (l : Launch) (D : va_G) (q : Nat → ClassId) (ad : Nat → Nat) (A : Nat → Prop) (hD : ∀ z, va_D A (WX q ad z)) (i : Nat) (hi : i < 4) (z : MX) (x1 : Int32) (post : Int32 → MX → Prop) (h : pX0_lastBlockOf i z x1 post) : Met l yX0_lastBlockOf (cW yX0_lastBlockOf cX0_lastBlockOf 2 (some .int)) ({ frames := 1, cells := 0, slots := 0, locals := 22 } : Room) (va_Pc [.ref (ad (4 * i)), .int x1] ((gB D vwCl (WX q ad) (xE D q ad A)) z)) (va_Qi post (gB D vwCl (WX q ad) (xE D q ad A)) A) 0 0 A := by
  refine Met.ofW (cc := cX0_lastBlockOf) (maxL := 2) (ret := (some .int)) (by decide) rfl ?_
  intro p e s m args below meth c s₁ B hml hv
  obtain ⟨hargs, hP, hE⟩ := hv
  have hx := B.exec
  have hb := B.bytes
  have hr := B.returns
  have hts := atoms_spec (ws := (cW yX0_lastBlockOf cX0_lastBlockOf 2 (some .int))) B.pre
  have ht : ∀ w ∈ tG, w.before args s = true := fun w h => hts w (List.mem_cons_of_mem _ h)
  have hown : s.vm.findClass RX0 = some m.cls := findClass_of_methodNamed B.named
  have hlocks := B.notSynchronized
  have hK := hE.1
  have hG := xE_G D q ad A
  have S : CallFix p m c cX0_lastBlockOf 2 s args tG RX0 := ⟨hx, hb, hml, hown, ht⟩
  have hS : va_S A s.heap s.heap [] := va_S.rf
  refine g_entry (vs := [.ref (ad (4 * i)), .int x1]) hargs (Nat.le_of_ble_eq_true rfl) (fun ls hl => ?_)
  have hl : lv_has ls 2 [(0, .ref (ad (4 * i))), (1, .int x1)] := hl
  unfold pX0_lastBlockOf at h
  refine lv_aload_n hx hb dX0_lastBlockOf_0 rfl (lv_at hl 0 rfl) ?_
  refine lv_iload_n hx hb dX0_lastBlockOf_1 rfl (lv_at hl 1 rfl) ?_
  refine lv_iconst (v := (1 : Int32)) hx hb dX0_lastBlockOf_2 (by decide) ?_
  refine g_cVi (Wd := WX q ad) (z := z) (As := [.int x1, .int (1 : Int32)]) (rest := []) hG S (kX0_fact l D q ad A hD i hi z x1 (1 : Int32) _ h) (cwV 2 ht (cW_V (fun _ h => h) tw_co_X0_fact tw_ml_X0_61 tw_im_X0_fact tw_se_X0_fact tw_in_X0) rfl rfl rfl (by decide +kernel) ⟨by decide, by decide⟩) (va_recv hK hP (ci := 0) (q0 := (4 * i)) rfl (wxl q ad z hi)) hE hP hS rfl hl.1 rfl (Nat.le_of_ble_eq_true rfl) dX0_lastBlockOf_3 ⟨Nat.zero_le _, Nat.zero_le _⟩ (fun r3 z3 H locs h hP hS => ?_)
  refine lv_if_ne (tgt := 18) hx hb dX0_lastBlockOf_6 (by decide) (fun c6 => ?_) (fun c6 => ?_)
  · have h := h.1 c6
    refine lv_iconst (v := (0 : Int32)) hx hb dX0_lastBlockOf_18 (by decide) ?_
    exact g_ri hG hx hb hr hlocks hE hP hS h dX0_lastBlockOf_19
  · have h := h.2 c6
    refine lv_aload_n hx hb dX0_lastBlockOf_9 rfl (lv_at hl 0 rfl) ?_
    refine va_get (D := D) (ci := 0) (v := .int (z3.1 (4 * i) 0)) (C := RX0) (T := TX0) (N := 7) hx hb ht tl_X0 hown hK hP (4 * i) (wxl q ad z3 hi) rfl 0 (by decide) (ht _ tw_fl_X0_9) (fun _ h9 => h9) rfl dX0_lastBlockOf_10 ?_
    refine lv_iconst (v := (1 : Int32)) hx hb dX0_lastBlockOf_13 (by decide) ?_
    refine lv_isub hx hb dX0_lastBlockOf_14 ?_
    refine lv_goto (tgt := 19) hx hb dX0_lastBlockOf_15 (by decide) ?_
    exact g_ri hG hx hb hr hlocks hE hP hS h dX0_lastBlockOf_19
def pX0_nextBlockOf (i : Nat) (z : MX) (x1 : Int32) (x2 : Int32) (post : Int32 → MX → Prop) : Prop :=
  pX0_fact i z x1 (1 : Int32) (fun (r3 : Int32) (z3 : MX) =>
  ((¬ r3 = 0 →
    ((¬ x2 = (-4 : Int32) →
      post (x2 - (1 : Int32)) z3) ∧
    (x2 = (-4 : Int32) →
      post ((z3.1 (4 * i) 0) - (1 : Int32)) z3))) ∧
  (r3 = 0 →
    ((¬ x2 = (-4 : Int32) →
      post (x2 + (1 : Int32)) z3) ∧
    (x2 = (-4 : Int32) →
      post (0 : Int32) z3)))))
set_option maxHeartbeats 4000000 in
set_option maxRecDepth 100000 in
theorem kX0_nextBlockOf (l : Launch) (D : va_G) (q : Nat → ClassId) (ad : Nat → Nat) (A : Nat → Prop) (hD : ∀ z, va_D A (WX q ad z)) (i : Nat) (hi : i < 4) (z : MX) (x1 : Int32) (x2 : Int32) (post : Int32 → MX → Prop) (h : pX0_nextBlockOf i z x1 x2 post) : Met l yX0_nextBlockOf (cW yX0_nextBlockOf cX0_nextBlockOf 3 (some .int)) ({ frames := 1, cells := 0, slots := 0, locals := 22 } : Room) (va_Pc [.ref (ad (4 * i)), .int x1, .int x2] ((gB D vwCl (WX q ad) (xE D q ad A)) z)) (va_Qi post (gB D vwCl (WX q ad) (xE D q ad A)) A) 0 0 A := by
  refine Met.ofW (cc := cX0_nextBlockOf) (maxL := 3) (ret := (some .int)) (by decide) rfl ?_
  intro p e s m args below meth c s₁ B hml hv
  obtain ⟨hargs, hP, hE⟩ := hv
  have hx := B.exec
  have hb := B.bytes
  have hr := B.returns
  have hts := atoms_spec (ws := (cW yX0_nextBlockOf cX0_nextBlockOf 3 (some .int))) B.pre
  have ht : ∀ w ∈ tG, w.before args s = true := fun w h => hts w (List.mem_cons_of_mem _ h)
  have hown : s.vm.findClass RX0 = some m.cls := findClass_of_methodNamed B.named
  have hlocks := B.notSynchronized
  have hK := hE.1
  have hG := xE_G D q ad A
  have S : CallFix p m c cX0_nextBlockOf 3 s args tG RX0 := ⟨hx, hb, hml, hown, ht⟩
  have hS : va_S A s.heap s.heap [] := va_S.rf
  refine g_entry (vs := [.ref (ad (4 * i)), .int x1, .int x2]) hargs (Nat.le_of_ble_eq_true rfl) (fun ls hl => ?_)
  have hl : lv_has ls 3 [(0, .ref (ad (4 * i))), (1, .int x1), (2, .int x2)] := hl
  unfold pX0_nextBlockOf at h
  refine lv_aload_n hx hb dX0_nextBlockOf_0 rfl (lv_at hl 0 rfl) ?_
  refine lv_iload_n hx hb dX0_nextBlockOf_1 rfl (lv_at hl 1 rfl) ?_
  refine lv_iconst (v := (1 : Int32)) hx hb dX0_nextBlockOf_2 (by decide) ?_
  refine g_cVi (Wd := WX q ad) (z := z) (As := [.int x1, .int (1 : Int32)]) (rest := []) hG S (kX0_fact l D q ad A hD i hi z x1 (1 : Int32) _ h) (cwV 2 ht (cW_V (fun _ h => h) tw_co_X0_fact tw_ml_X0_61 tw_im_X0_fact tw_se_X0_fact tw_in_X0) rfl rfl rfl (by decide +kernel) ⟨by decide, by decide⟩) (va_recv hK hP (ci := 0) (q0 := (4 * i)) rfl (wxl q ad z hi)) hE hP hS rfl hl.1 rfl (Nat.le_of_ble_eq_true rfl) dX0_nextBlockOf_3 ⟨Nat.zero_le _, Nat.zero_le _⟩ (fun r3 z3 H locs h hP hS => ?_)
  refine lv_if_ne (tgt := 23) hx hb dX0_nextBlockOf_6 (by decide) (fun c6 => ?_) (fun c6 => ?_)
  · have h := h.1 c6
    refine lv_iload_n hx hb dX0_nextBlockOf_23 rfl (lv_at hl 2 rfl) ?_
    refine lv_bipush (v := (-4 : Int32)) hx hb dX0_nextBlockOf_24 (by decide) ?_
    refine lv_icmp_ne (tgt := 38) hx hb dX0_nextBlockOf_26 (by decide) (fun c26 => ?_) (fun c26 => ?_)
    · have h := h.1 c26
      refine lv_iload_n hx hb dX0_nextBlockOf_38 rfl (lv_at hl 2 rfl) ?_
      refine lv_iconst (v := (1 : Int32)) hx hb dX0_nextBlockOf_39 (by decide) ?_
      refine lv_isub hx hb dX0_nextBlockOf_40 ?_
      exact g_ri hG hx hb hr hlocks hE hP hS h dX0_nextBlockOf_41
    · have h := h.2 c26
      refine lv_aload_n hx hb dX0_nextBlockOf_29 rfl (lv_at hl 0 rfl) ?_
      refine va_get (D := D) (ci := 0) (v := .int (z3.1 (4 * i) 0)) (C := RX0) (T := TX0) (N := 7) hx hb ht tl_X0 hown hK hP (4 * i) (wxl q ad z3 hi) rfl 0 (by decide) (ht _ tw_fl_X0_9) (fun _ h9 => h9) rfl dX0_nextBlockOf_30 ?_
      refine lv_iconst (v := (1 : Int32)) hx hb dX0_nextBlockOf_33 (by decide) ?_
      refine lv_isub hx hb dX0_nextBlockOf_34 ?_
      refine lv_goto (tgt := 41) hx hb dX0_nextBlockOf_35 (by decide) ?_
      exact g_ri hG hx hb hr hlocks hE hP hS h dX0_nextBlockOf_41
  · have h := h.2 c6
    refine lv_iload_n hx hb dX0_nextBlockOf_9 rfl (lv_at hl 2 rfl) ?_
    refine lv_bipush (v := (-4 : Int32)) hx hb dX0_nextBlockOf_10 (by decide) ?_
    refine lv_icmp_ne (tgt := 19) hx hb dX0_nextBlockOf_12 (by decide) (fun c12 => ?_) (fun c12 => ?_)
    · have h := h.1 c12
      refine lv_iload_n hx hb dX0_nextBlockOf_19 rfl (lv_at hl 2 rfl) ?_
      refine lv_iconst (v := (1 : Int32)) hx hb dX0_nextBlockOf_20 (by decide) ?_
      refine lv_iadd hx hb dX0_nextBlockOf_21 ?_
      exact g_ri hG hx hb hr hlocks hE hP hS h dX0_nextBlockOf_22
    · have h := h.2 c12
      refine lv_iconst (v := (0 : Int32)) hx hb dX0_nextBlockOf_15 (by decide) ?_
      refine lv_goto (tgt := 22) hx hb dX0_nextBlockOf_16 (by decide) ?_
      exact g_ri hG hx hb hr hlocks hE hP hS h dX0_nextBlockOf_22
