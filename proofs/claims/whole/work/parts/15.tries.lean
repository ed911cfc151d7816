def pX1_weightOf_b45 (rec6 : MX → Int32 → Int32 → Int32 → Int32 → Int64 → Int32 → Prop) (post : Int64 → MX → Prop) (z : MX) (x0 : Int32) (x1 : Int32) (x2 : Int32) (x3 : Int32) (x4 : Int64) (x6 : Int32) : Prop :=
    ∀ x6_45 : Int32, x6_45 = x6 + (1 : Int32) →
    rec6 z x0 x1 x2 x3 x4 x6_45
def pX1_weightOf_b42 (rec6 : MX → Int32 → Int32 → Int32 → Int32 → Int64 → Int32 → Prop) (post : Int64 → MX → Prop) (z : MX) (x0 : Int32) (x1 : Int32) (x2 : Int32) (x3 : Int32) (x6 : Int32) (y0 : Int64) (y1 : Int64) : Prop :=
    ∀ x4_43 : Int64, x4_43 = y0 * y1 →
    pX1_weightOf_b45  rec6 post z x0 x1 x2 x3 x4_43 x6
def pX1_weightOf_l6 (rec6 : MX → Int32 → Int32 → Int32 → Int32 → Int64 → Int32 → Prop) (post : Int64 → MX → Prop) (z : MX) (x0 : Int32) (x1 : Int32) (x2 : Int32) (x3 : Int32) (x4 : Int64) (x6 : Int32) : Prop :=
    ((x3 ≤ x6 →
      post x4 z) ∧
    (¬ x3 ≤ x6 →
      ((¬ ((x1 >>> (x6 &&& 31)) &&& (1 : Int32)) = 0 →
        pX1_weightOf_b45  rec6 post z x0 x1 x2 x3 x4 x6) ∧
      (((x1 >>> (x6 &&& 31)) &&& (1 : Int32)) = 0 →
        ((((x0 >>> (x6 &&& 31)) &&& (1 : Int32)) = 0 →
          pX1_weightOf_b42  rec6 post z x0 x1 x2 x3 x6 x4 (Int32.toInt64 ((10 : Int32) - x2))) ∧
        (¬ ((x0 >>> (x6 &&& 31)) &&& (1 : Int32)) = 0 →
          pX1_weightOf_b42  rec6 post z x0 x1 x2 x3 x6 x4 (Int32.toInt64 x2)))))))
def pX1_weightOf_L6 (post : Int64 → MX → Prop) : Nat → MX → Int32 → Int32 → Int32 → Int32 → Int64 → Int32 → Prop
  | 0 => fun _ _ _ _ _ _ _ => False
  | n + 1 => fun z x0 x1 x2 x3 x4 x6 => pX1_weightOf_l6  (pX1_weightOf_L6  post n) post z x0 x1 x2 x3 x4 x6
def pX1_weightOf (z : MX) (x0 : Int32) (x1 : Int32) (x2 : Int32) (x3 : Int32) (post : Int64 → MX → Prop) : Prop :=
  ∃ n, pX1_weightOf_L6  post n z x0 x1 x2 x3 (1 : Int64) (0 : Int32)
set_option maxHeartbeats 4000000 in
set_option maxRecDepth 100000 in
theorem kX1_weightOf (l : Launch) (D : va_G) (q : Nat → ClassId) (ad : Nat → Nat) (A : Nat → Prop) (hD : ∀ z, va_D A (WX q ad z)) (z : MX) (x0 : Int32) (x1 : Int32) (x2 : Int32) (x3 : Int32) (post : Int64 → MX → Prop) (h : pX1_weightOf  z x0 x1 x2 x3 post) : Met l yX1_weightOf (cW yX1_weightOf cX1_weightOf 7 (some .long)) ({ frames := 0, cells := 0, slots := 0, locals := 0 } : Room) (va_Pc [.int x0, .int x1, .int x2, .int x3] ((gB D vwCl (WX q ad) (xE D q ad A)) z)) (va_Ql post (gB D vwCl (WX q ad) (xE D q ad A)) A) 0 0 A := by
  refine Met.ofW (cc := cX1_weightOf) (maxL := 7) (ret := (some .long)) (by decide) rfl ?_
  intro p e s m args below meth c s₁ B hml hv
  obtain ⟨hargs, hP, hE⟩ := hv
  have hx := B.exec
  have hb := B.bytes
  have hr := B.returns
  have hts := atoms_spec (ws := (cW yX1_weightOf cX1_weightOf 7 (some .long))) B.pre
  have ht : ∀ w ∈ tG, w.before args s = true := fun w h => hts w (List.mem_cons_of_mem _ h)
  have hown : s.vm.findClass RX1 = some m.cls := findClass_of_methodNamed B.named
  have hlocks := B.notSynchronized
  have hK := hE.1
  have hG := xE_G D q ad A
  have S : CallFix p m c cX1_weightOf 7 s args tG RX1 := ⟨hx, hb, hml, hown, ht⟩
  have hS : va_S A s.heap s.heap [] := va_S.rf
  have B45 : ∀ (rec6 : MX → Int32 → Int32 → Int32 → Int32 → Int64 → Int32 → Prop) (hrec6 : ∀ (z : MX) (x0 : Int32) (x1 : Int32) (x2 : Int32) (x3 : Int32) (x4 : Int64) (x6 : Int32) (H : Heap) (locs : List Loc) (ls : Array Slot), rec6 z x0 x1 x2 x3 x4 x6 → va_P D vwCl (WX q ad z) H → va_S A s.heap H locs → lv_has ls 7 [(0, .int x0), (1, .int x1), (2, .int x2), (3, .int x3), (4, .long x4), (6, .int x6)] → W p l e (headSpec (cW yX1_weightOf cX1_weightOf 7 (some .long)) ({ frames := 0, cells := 0, slots := 0, locals := 0 } : Room)).room s m args below meth c H locs 0 0 (MQ below (va_Ql post (gB D vwCl (WX q ad) (xE D q ad A)) A) args s 0 0 A) (F0 m 6 ls [])) (z : MX) (x0 : Int32) (x1 : Int32) (x2 : Int32) (x3 : Int32) (x4 : Int64) (x6 : Int32) (H : Heap) (locs : List Loc) (ls : Array Slot), pX1_weightOf_b45  rec6 post z x0 x1 x2 x3 x4 x6 → va_P D vwCl (WX q ad z) H → va_S A s.heap H locs → lv_has ls 7 [(0, .int x0), (1, .int x1), (2, .int x2), (3, .int x3), (4, .long x4), (6, .int x6)] → W p l e (headSpec (cW yX1_weightOf cX1_weightOf 7 (some .long)) ({ frames := 0, cells := 0, slots := 0, locals := 0 } : Room)).room s m args below meth c H locs 0 0 (MQ below (va_Ql post (gB D vwCl (WX q ad) (xE D q ad A)) A) args s 0 0 A) (F0 m 45 ls []) := by
    intro rec6 hrec6 z x0 x1 x2 x3 x4 x6 H locs ls h hP hS hl
    unfold pX1_weightOf_b45 at h
    obtain ⟨x6_45, ex6_45⟩ : ∃ w : Int32, w = x6 + (1 : Int32) := ⟨_, rfl⟩
    have h := h x6_45 ex6_45
    refine lv_iinc (v := x6_45) (lv' := [(6, .int x6_45), (0, .int x0), (1, .int x1), (2, .int x2), (3, .int x3), (4, .long x4)]) hx hb dX1_weightOf_45 hl (k := 5) rfl (by rw [ex6_45]; rfl) (by decide) rfl (fun ls hl => ?_)
    refine lv_goto (tgt := 6) hx hb dX1_weightOf_48 (by decide) ?_
    exact hrec6 z x0 x1 x2 x3 x4 x6_45 _ _ _ h hP hS (lv_sub hl [1, 2, 3, 4, 5, 0] rfl)
  have B42 : ∀ (rec6 : MX → Int32 → Int32 → Int32 → Int32 → Int64 → Int32 → Prop) (hrec6 : ∀ (z : MX) (x0 : Int32) (x1 : Int32) (x2 : Int32) (x3 : Int32) (x4 : Int64) (x6 : Int32) (H : Heap) (locs : List Loc) (ls : Array Slot), rec6 z x0 x1 x2 x3 x4 x6 → va_P D vwCl (WX q ad z) H → va_S A s.heap H locs → lv_has ls 7 [(0, .int x0), (1, .int x1), (2, .int x2), (3, .int x3), (4, .long x4), (6, .int x6)] → W p l e (headSpec (cW yX1_weightOf cX1_weightOf 7 (some .long)) ({ frames := 0, cells := 0, slots := 0, locals := 0 } : Room)).room s m args below meth c H locs 0 0 (MQ below (va_Ql post (gB D vwCl (WX q ad) (xE D q ad A)) A) args s 0 0 A) (F0 m 6 ls [])) (z : MX) (x0 : Int32) (x1 : Int32) (x2 : Int32) (x3 : Int32) (x6 : Int32) (y0 : Int64) (y1 : Int64) (H : Heap) (locs : List Loc) (ls : Array Slot), pX1_weightOf_b42  rec6 post z x0 x1 x2 x3 x6 y0 y1 → va_P D vwCl (WX q ad z) H → va_S A s.heap H locs → lv_has ls 7 [(0, .int x0), (1, .int x1), (2, .int x2), (3, .int x3), (6, .int x6)] → W p l e (headSpec (cW yX1_weightOf cX1_weightOf 7 (some .long)) ({ frames := 0, cells := 0, slots := 0, locals := 0 } : Room)).room s m args below meth c H locs 0 0 (MQ below (va_Ql post (gB D vwCl (WX q ad) (xE D q ad A)) A) args s 0 0 A) (F0 m 42 ls [.long y1, .long y0]) := by
    intro rec6 hrec6 z x0 x1 x2 x3 x6 y0 y1 H locs ls h hP hS hl
    unfold pX1_weightOf_b42 at h
    refine lv_lmul hx hb dX1_weightOf_42 ?_
    refine lv_topl (fun x4_43 ex4_43 => ?_)
    have h := h x4_43 ex4_43
    refine lv_lstore (lv' := [(4, .long x4_43), (0, .int x0), (1, .int x1), (2, .int x2), (3, .int x3), (6, .int x6)]) hx hb dX1_weightOf_43 hl (by decide) rfl (fun ls hl => ?_)
    exact B45 rec6 hrec6 z x0 x1 x2 x3 x4_43 x6 _ _ _ h hP hS (lv_sub hl [1, 2, 3, 4, 0, 5] rfl)
  have B6 : ∀ (rec6 : MX → Int32 → Int32 → Int32 → Int32 → Int64 → Int32 → Prop) (hrec6 : ∀ (z : MX) (x0 : Int32) (x1 : Int32) (x2 : Int32) (x3 : Int32) (x4 : Int64) (x6 : Int32) (H : Heap) (locs : List Loc) (ls : Array Slot), rec6 z x0 x1 x2 x3 x4 x6 → va_P D vwCl (WX q ad z) H → va_S A s.heap H locs → lv_has ls 7 [(0, .int x0), (1, .int x1), (2, .int x2), (3, .int x3), (4, .long x4), (6, .int x6)] → W p l e (headSpec (cW yX1_weightOf cX1_weightOf 7 (some .long)) ({ frames := 0, cells := 0, slots := 0, locals := 0 } : Room)).room s m args below meth c H locs 0 0 (MQ below (va_Ql post (gB D vwCl (WX q ad) (xE D q ad A)) A) args s 0 0 A) (F0 m 6 ls [])) (z : MX) (x0 : Int32) (x1 : Int32) (x2 : Int32) (x3 : Int32) (x4 : Int64) (x6 : Int32) (H : Heap) (locs : List Loc) (ls : Array Slot), pX1_weightOf_l6  rec6 post z x0 x1 x2 x3 x4 x6 → va_P D vwCl (WX q ad z) H → va_S A s.heap H locs → lv_has ls 7 [(0, .int x0), (1, .int x1), (2, .int x2), (3, .int x3), (4, .long x4), (6, .int x6)] → W p l e (headSpec (cW yX1_weightOf cX1_weightOf 7 (some .long)) ({ frames := 0, cells := 0, slots := 0, locals := 0 } : Room)).room s m args below meth c H locs 0 0 (MQ below (va_Ql post (gB D vwCl (WX q ad) (xE D q ad A)) A) args s 0 0 A) (F0 m 6 ls []) := by
    intro rec6 hrec6 z x0 x1 x2 x3 x4 x6 H locs ls h hP hS hl
    unfold pX1_weightOf_l6 at h
    refine lv_iload hx hb dX1_weightOf_6 (lv_at hl 5 rfl) ?_
    refine lv_iload_n hx hb dX1_weightOf_8 rfl (lv_at hl 3 rfl) ?_
    refine lv_icmp_ge (tgt := 51) hx hb dX1_weightOf_9 (by decide) (fun c9 => ?_) (fun c9 => ?_)
    · have h := h.1 c9
      refine lv_lload hx hb dX1_weightOf_51 (lv_at hl 4 rfl) ?_
      exact g_rl hG hx hb hr hlocks hE hP hS h dX1_weightOf_53
    · have h := h.2 c9
      refine lv_iload_n hx hb dX1_weightOf_12 rfl (lv_at hl 1 rfl) ?_
      refine lv_iload hx hb dX1_weightOf_13 (lv_at hl 5 rfl) ?_
      refine lv_ishr hx hb dX1_weightOf_15 ?_
      refine lv_iconst (v := (1 : Int32)) hx hb dX1_weightOf_16 (by decide) ?_
      refine lv_iand hx hb dX1_weightOf_17 ?_
      refine lv_if_ne (tgt := 45) hx hb dX1_weightOf_18 (by decide) (fun c18 => ?_) (fun c18 => ?_)
      · have h := h.1 c18
        exact B45 rec6 hrec6 z x0 x1 x2 x3 x4 x6 _ _ _ h hP hS (lv_sub hl [0, 1, 2, 3, 4, 5] rfl)
      · have h := h.2 c18
        refine lv_lload hx hb dX1_weightOf_21 (lv_at hl 4 rfl) ?_
        refine lv_iload_n hx hb dX1_weightOf_23 rfl (lv_at hl 0 rfl) ?_
        refine lv_iload hx hb dX1_weightOf_24 (lv_at hl 5 rfl) ?_
        refine lv_ishr hx hb dX1_weightOf_26 ?_
        refine lv_iconst (v := (1 : Int32)) hx hb dX1_weightOf_27 (by decide) ?_
        refine lv_iand hx hb dX1_weightOf_28 ?_
        refine lv_if_eq (tgt := 37) hx hb dX1_weightOf_29 (by decide) (fun c29 => ?_) (fun c29 => ?_)
        · have h := h.1 c29
          refine lv_bipush (v := (10 : Int32)) hx hb dX1_weightOf_37 (by decide) ?_
          refine lv_iload_n hx hb dX1_weightOf_39 rfl (lv_at hl 2 rfl) ?_
          refine lv_isub hx hb dX1_weightOf_40 ?_
          refine lv_i2l hx hb dX1_weightOf_41 rfl ?_
          exact B42 rec6 hrec6 z x0 x1 x2 x3 x6 x4 (Int32.toInt64 ((10 : Int32) - x2)) _ _ _ h hP hS (lv_sub hl [0, 1, 2, 3, 5] rfl)
        · have h := h.2 c29
          refine lv_iload_n hx hb dX1_weightOf_32 rfl (lv_at hl 2 rfl) ?_
          refine lv_i2l hx hb dX1_weightOf_33 rfl ?_
          refine lv_goto (tgt := 42) hx hb dX1_weightOf_34 (by decide) ?_
          exact B42 rec6 hrec6 z x0 x1 x2 x3 x6 x4 (Int32.toInt64 x2) _ _ _ h hP hS (lv_sub hl [0, 1, 2, 3, 5] rfl)
  have L6 : ∀ (n : Nat) (z : MX) (x0 : Int32) (x1 : Int32) (x2 : Int32) (x3 : Int32) (x4 : Int64) (x6 : Int32) (H : Heap) (locs : List Loc) (ls : Array Slot), pX1_weightOf_L6  post n z x0 x1 x2 x3 x4 x6 → va_P D vwCl (WX q ad z) H → va_S A s.heap H locs → lv_has ls 7 [(0, .int x0), (1, .int x1), (2, .int x2), (3, .int x3), (4, .long x4), (6, .int x6)] → W p l e (headSpec (cW yX1_weightOf cX1_weightOf 7 (some .long)) ({ frames := 0, cells := 0, slots := 0, locals := 0 } : Room)).room s m args below meth c H locs 0 0 (MQ below (va_Ql post (gB D vwCl (WX q ad) (xE D q ad A)) A) args s 0 0 A) (F0 m 6 ls []) := by
    intro n
    induction n with
    | zero =>
      intro z x0 x1 x2 x3 x4 x6 H locs ls h
      exact False.elim h
    | succ n ih =>
      intro z x0 x1 x2 x3 x4 x6 H locs ls h hP hS hl
      exact B6 (pX1_weightOf_L6  post n) ih z x0 x1 x2 x3 x4 x6 H locs ls h hP hS hl
  refine g_entry (vs := [.int x0, .int x1, .int x2, .int x3]) hargs (Nat.le_of_ble_eq_true rfl) (fun ls hl => ?_)
  have hl : lv_has ls 7 [(0, .int x0), (1, .int x1), (2, .int x2), (3, .int x3)] := hl
  unfold pX1_weightOf at h
  refine lv_lconst (v := (1 : Int64)) hx hb dX1_weightOf_0 (by decide) ?_
  refine lv_lstore (lv' := [(4, .long (1 : Int64)), (0, .int x0), (1, .int x1), (2, .int x2), (3, .int x3)]) hx hb dX1_weightOf_1 hl (by decide) rfl (fun ls hl => ?_)
  refine lv_iconst (v := (0 : Int32)) hx hb dX1_weightOf_3 (by decide) ?_
  refine lv_istore (lv' := [(6, .int (0 : Int32)), (4, .long (1 : Int64)), (0, .int x0), (1, .int x1), (2, .int x2), (3, .int x3)]) hx hb dX1_weightOf_4 hl (by decide) rfl (fun ls hl => ?_)
  obtain ⟨n, h⟩ := h
  exact L6 n z x0 x1 x2 x3 (1 : Int64) (0 : Int32) _ _ _ h hP hS (lv_sub hl [2, 3, 4, 5, 1, 0] rfl)
def pX1_weigh_b149 (i : Nat) (rec32 : MX → Int32 → Int32 → Int32 → Prop) (post : MX → Prop) (z : MX) (x2 : Int32) (x3 : Int32) (x4 : Int32) : Prop :=
    ∀ x4_149 : Int32, x4_149 = x4 + (1 : Int32) →
    rec32 z x2 x3 x4_149
def pX1_weigh_b145 (i : Nat) (rec32 : MX → Int32 → Int32 → Int32 → Prop) (post : MX → Prop) (z : MX) (x2 : Int32) (x3 : Int32) (x4 : Int32) (y1 : Int64) (y2 : Int64) : Prop :=
    ∀ z146 : MX, z146 = ml z 2 (y1 + y2) →
    pX1_weigh_b149 i rec32 post z146 x2 x3 x4
def pX1_weigh_b65 (i : Nat) (rec32 : MX → Int32 → Int32 → Int32 → Prop) (post : MX → Prop) (z : MX) (x2 : Int32) (x3 : Int32) (x4 : Int32) (y0 : Int64) : Prop :=
    (((lg_cmp y0 (0 : Int64)) ≤ 0 →
      pX1_weigh_b149 i rec32 post z x2 x3 x4) ∧
    (¬ (lg_cmp y0 (0 : Int64)) ≤ 0 →
      pX0_copyFrom 1 i z (fun (z79 : MX) =>
      pX0_hangMagpiesIn 1 z79 x4 (fun (z88 : MX) =>
      pX2_play 1 z88 (fun (z99 : MX) =>
      ∀ z119 : MX, z119 = ml z99 1 ((z99.2 1) + (y0 * (Int32.toInt64 (z99.1 26 8)))) →
      ((¬ (z119.1 26 5) = (-4 : Int32) →
        pX1_weigh_b145 i rec32 post z119 x2 x3 x4 (z119.2 2) (0 : Int64)) ∧
      ((z119.1 26 5) = (-4 : Int32) →
        pX1_weigh_b145 i rec32 post z119 x2 x3 x4 (z119.2 2) y0)))))))
def pX1_weigh_l32 (i : Nat) (rec32 : MX → Int32 → Int32 → Int32 → Prop) (post : MX → Prop) (z : MX) (x2 : Int32) (x3 : Int32) (x4 : Int32) : Prop :=
    ((((1 : Int32) <<< ((z.1 (4 * i) 0) &&& 31)) ≤ x4 →
      post z) ∧
    (¬ ((1 : Int32) <<< ((z.1 (4 * i) 0) &&& 31)) ≤ x4 →
      ((¬ (x4 &&& x3) = 0 →
        pX1_weigh_b65 i rec32 post z x2 x3 x4 (0 : Int64)) ∧
      ((x4 &&& x3) = 0 →
        pX1_weightOf z x4 x3 x2 (z.1 (4 * i) 0) (fun (r58 : Int64) (z58 : MX) =>
        pX1_weigh_b65 i rec32 post z58 x2 x3 x4 r58)))))
def pX1_weigh_L32 (i : Nat) (post : MX → Prop) : Nat → MX → Int32 → Int32 → Int32 → Prop
  | 0 => fun _ _ _ _ => False
  | n + 1 => fun z x2 x3 x4 => pX1_weigh_l32 i (pX1_weigh_L32 i post n) post z x2 x3 x4
def pX1_weigh (i : Nat) (z : MX) (x2 : Int32) (post : MX → Prop) : Prop :=
  pX0_omenBits i z (fun (r1 : Int32) (z1 : MX) =>
  pX1_weightOf z1 (0 : Int32) r1 (0 : Int32) (z1.1 (4 * i) 0) (fun (r13 : Int64) (z13 : MX) =>
  ∀ z16 : MX, z16 = ml z13 0 r13 →
  ∀ z21 : MX, z21 = ml z16 1 (0 : Int64) →
  ∀ z26 : MX, z26 = ml z21 2 (0 : Int64) →
  ∃ n, pX1_weigh_L32 i post n z26 x2 r1 (0 : Int32)))
set_option maxHeartbeats 4000000 in
set_option maxRecDepth 100000 in
theorem kX1_weigh (l : Launch) (D : va_G) (q : Nat → ClassId) (ad : Nat → Nat) (A : Nat → Prop) (hD : ∀ z, va_D A (WX q ad z)) (i : Nat) (hi : i < 4) (z : MX) (x2 : Int32) (post : MX → Prop) (h : pX1_weigh i z x2 post) : Met l yX1_weigh (cW yX1_weigh cX1_weigh 7 none) ({ frames := 5, cells := 0, slots := 0, locals := 121 } : Room) (va_Pc [.ref (ad 32), .ref (ad (4 * i)), .int x2] ((gB D vwCl (WX q ad) (xE D q ad A)) z)) (va_Qv post (gB D vwCl (WX q ad) (xE D q ad A)) A) 0 0 A := by
  refine Met.ofW (cc := cX1_weigh) (maxL := 7) (ret := none) (by decide) rfl ?_
  intro p e s m args below meth c s₁ B hml hv
  obtain ⟨hargs, hP, hE⟩ := hv
  have hx := B.exec
  have hb := B.bytes
  have hr := B.returns
  have hts := atoms_spec (ws := (cW yX1_weigh cX1_weigh 7 none)) B.pre
  have ht : ∀ w ∈ tG, w.before args s = true := fun w h => hts w (List.mem_cons_of_mem _ h)
  have hown : s.vm.findClass RX1 = some m.cls := findClass_of_methodNamed B.named
  have hlocks := B.notSynchronized
  have hK := hE.1
  have hG := xE_G D q ad A
  have S : CallFix p m c cX1_weigh 7 s args tG RX1 := ⟨hx, hb, hml, hown, ht⟩
  have hS : va_S A s.heap s.heap [] := va_S.rf
  have B149 : ∀ (rec32 : MX → Int32 → Int32 → Int32 → Prop) (hrec32 : ∀ (z : MX) (x2 : Int32) (x3 : Int32) (x4 : Int32) (H : Heap) (locs : List Loc) (ls : Array Slot), rec32 z x2 x3 x4 → va_P D vwCl (WX q ad z) H → va_S A s.heap H locs → lv_has ls 7 [(0, .ref (ad 32)), (1, .ref (ad (4 * i))), (2, .int x2), (3, .int x3), (4, .int x4)] → W p l e (headSpec (cW yX1_weigh cX1_weigh 7 none) ({ frames := 5, cells := 0, slots := 0, locals := 121 } : Room)).room s m args below meth c H locs 0 0 (MQ below (va_Qv post (gB D vwCl (WX q ad) (xE D q ad A)) A) args s 0 0 A) (F0 m 32 ls [])) (z : MX) (x2 : Int32) (x3 : Int32) (x4 : Int32) (H : Heap) (locs : List Loc) (ls : Array Slot), pX1_weigh_b149 i rec32 post z x2 x3 x4 → va_P D vwCl (WX q ad z) H → va_S A s.heap H locs → lv_has ls 7 [(0, .ref (ad 32)), (1, .ref (ad (4 * i))), (2, .int x2), (3, .int x3), (4, .int x4)] → W p l e (headSpec (cW yX1_weigh cX1_weigh 7 none) ({ frames := 5, cells := 0, slots := 0, locals := 121 } : Room)).room s m args below meth c H locs 0 0 (MQ below (va_Qv post (gB D vwCl (WX q ad) (xE D q ad A)) A) args s 0 0 A) (F0 m 149 ls []) := by
    intro rec32 hrec32 z x2 x3 x4 H locs ls h hP hS hl
    unfold pX1_weigh_b149 at h
    obtain ⟨x4_149, ex4_149⟩ : ∃ w : Int32, w = x4 + (1 : Int32) := ⟨_, rfl⟩
    have h := h x4_149 ex4_149
    refine lv_iinc (v := x4_149) (lv' := [(4, .int x4_149), (0, .ref (ad 32)), (1, .ref (ad (4 * i))), (2, .int x2), (3, .int x3)]) hx hb dX1_weigh_149 hl (k := 4) rfl (by rw [ex4_149]; rfl) (by decide) rfl (fun ls hl => ?_)
    refine lv_goto (tgt := 32) hx hb dX1_weigh_152 (by decide) ?_
    exact hrec32 z x2 x3 x4_149 _ _ _ h hP hS (lv_sub hl [1, 2, 3, 4, 0] rfl)
  have B145 : ∀ (rec32 : MX → Int32 → Int32 → Int32 → Prop) (hrec32 : ∀ (z : MX) (x2 : Int32) (x3 : Int32) (x4 : Int32) (H : Heap) (locs : List Loc) (ls : Array Slot), rec32 z x2 x3 x4 → va_P D vwCl (WX q ad z) H → va_S A s.heap H locs → lv_has ls 7 [(0, .ref (ad 32)), (1, .ref (ad (4 * i))), (2, .int x2), (3, .int x3), (4, .int x4)] → W p l e (headSpec (cW yX1_weigh cX1_weigh 7 none) ({ frames := 5, cells := 0, slots := 0, locals := 121 } : Room)).room s m args below meth c H locs 0 0 (MQ below (va_Qv post (gB D vwCl (WX q ad) (xE D q ad A)) A) args s 0 0 A) (F0 m 32 ls [])) (z : MX) (x2 : Int32) (x3 : Int32) (x4 : Int32) (y1 : Int64) (y2 : Int64) (H : Heap) (locs : List Loc) (ls : Array Slot), pX1_weigh_b145 i rec32 post z x2 x3 x4 y1 y2 → va_P D vwCl (WX q ad z) H → va_S A s.heap H locs → lv_has ls 7 [(0, .ref (ad 32)), (1, .ref (ad (4 * i))), (2, .int x2), (3, .int x3), (4, .int x4)] → W p l e (headSpec (cW yX1_weigh cX1_weigh 7 none) ({ frames := 5, cells := 0, slots := 0, locals := 121 } : Room)).room s m args below meth c H locs 0 0 (MQ below (va_Qv post (gB D vwCl (WX q ad) (xE D q ad A)) A) args s 0 0 A) (F0 m 145 ls [.long y2, .long y1, .ref (ad 32)]) := by
    intro rec32 hrec32 z x2 x3 x4 y1 y2 H locs ls h hP hS hl
    unfold pX1_weigh_b145 at h
    refine lv_ladd hx hb dX1_weigh_145 ?_
    refine g_put (D := D) (Wd := WX q ad) (z := z) (ci := 1) (v := .long (y1 + y2)) (ty := .long) (C := RX1) (T := TX1) (N := 5) hx hb ht tl_X1 tyX1 tyX1_ok nmX1 hown hK hP (hD z) hS 32 (wx_32 q ad z) rfl 4 (by decide) (ht _ tw_fl_X1_40) (fun _ h9 => h9) rfl rfl rfl rfl (Nat.le_of_ble_eq_true rfl) ((px_32_4 q ad z) (y1 + y2)) dX1_weigh_146 (fun z146 H locs hz146 hP hS => ?_)
    have h := h z146 hz146
    exact B149 rec32 hrec32 z146 x2 x3 x4 _ _ _ h hP hS (lv_sub hl [0, 1, 2, 3, 4] rfl)
  have B65 : ∀ (rec32 : MX → Int32 → Int32 → Int32 → Prop) (hrec32 : ∀ (z : MX) (x2 : Int32) (x3 : Int32) (x4 : Int32) (H : Heap) (locs : List Loc) (ls : Array Slot), rec32 z x2 x3 x4 → va_P D vwCl (WX q ad z) H → va_S A s.heap H locs → lv_has ls 7 [(0, .ref (ad 32)), (1, .ref (ad (4 * i))), (2, .int x2), (3, .int x3), (4, .int x4)] → W p l e (headSpec (cW yX1_weigh cX1_weigh 7 none) ({ frames := 5, cells := 0, slots := 0, locals := 121 } : Room)).room s m args below meth c H locs 0 0 (MQ below (va_Qv post (gB D vwCl (WX q ad) (xE D q ad A)) A) args s 0 0 A) (F0 m 32 ls [])) (z : MX) (x2 : Int32) (x3 : Int32) (x4 : Int32) (y0 : Int64) (H : Heap) (locs : List Loc) (ls : Array Slot), pX1_weigh_b65 i rec32 post z x2 x3 x4 y0 → va_P D vwCl (WX q ad z) H → va_S A s.heap H locs → lv_has ls 7 [(0, .ref (ad 32)), (1, .ref (ad (4 * i))), (2, .int x2), (3, .int x3), (4, .int x4)] → W p l e (headSpec (cW yX1_weigh cX1_weigh 7 none) ({ frames := 5, cells := 0, slots := 0, locals := 121 } : Room)).room s m args below meth c H locs 0 0 (MQ below (va_Qv post (gB D vwCl (WX q ad) (xE D q ad A)) A) args s 0 0 A) (F0 m 65 ls [.long y0]) := by
    intro rec32 hrec32 z x2 x3 x4 y0 H locs ls h hP hS hl
    unfold pX1_weigh_b65 at h
    refine lv_lstore (lv' := [(5, .long y0), (0, .ref (ad 32)), (1, .ref (ad (4 * i))), (2, .int x2), (3, .int x3), (4, .int x4)]) hx hb dX1_weigh_65 hl (by decide) rfl (fun ls hl => ?_)
    refine lv_lload hx hb dX1_weigh_67 (lv_at hl 0 rfl) ?_
    refine lv_lconst (v := (0 : Int64)) hx hb dX1_weigh_69 (by decide) ?_
    refine W.lcmp hx hb dX1_weigh_70 ?_
    refine lv_if_le (tgt := 149) hx hb dX1_weigh_71 (by decide) (fun c71 => ?_) (fun c71 => ?_)
    · have h := h.1 c71
      exact B149 rec32 hrec32 z x2 x3 x4 _ _ _ h hP hS (lv_sub hl [1, 2, 3, 4, 5] rfl)
    · have h := h.2 c71
      refine lv_aload_n hx hb dX1_weigh_74 rfl (lv_at hl 1 rfl) ?_
      refine va_get (D := D) (ci := 1) (v := .ref (ad (4 * 1))) (C := RX1) (T := TX1) (N := 5) hx hb ht tl_X1 hown hK hP 32 (wx_32 q ad z) rfl 0 (by decide) (ht _ tw_fl_X1_9) (fun _ h9 => h9) rfl dX1_weigh_75 ?_
      refine lv_aload_n hx hb dX1_weigh_78 rfl (lv_at hl 2 rfl) ?_
      refine g_cVv (Wd := WX q ad) (z := z) (As := [.ref (ad (4 * i))]) (rest := []) hG S (kX0_copyFrom l D q ad A hD 1 (by decide) i hi z _ h) (cwV 1 ht (cW_V (fun _ h => h) tw_co_X0_copyFrom tw_ml_X1_43 tw_im_X0_copyFrom tw_se_X0_copyFrom tw_in_X0) rfl rfl rfl (by decide +kernel) ⟨by decide, by decide⟩) (va_recv hK hP (ci := 0) (q0 := (4 * 1)) rfl (wxl q ad z (by decide))) hE hP hS rfl hl.1 rfl (Nat.le_of_ble_eq_true rfl) dX1_weigh_79 ⟨Nat.zero_le _, Nat.zero_le _⟩ (fun z79 H locs h hP hS => ?_)
      refine lv_aload_n hx hb dX1_weigh_82 rfl (lv_at hl 1 rfl) ?_
      refine va_get (D := D) (ci := 1) (v := .ref (ad (4 * 1))) (C := RX1) (T := TX1) (N := 5) hx hb ht tl_X1 hown hK hP 32 (wx_32 q ad z79) rfl 0 (by decide) (ht _ tw_fl_X1_9) (fun _ h9 => h9) rfl dX1_weigh_83 ?_
      refine lv_iload hx hb dX1_weigh_86 (lv_at hl 5 rfl) ?_
      refine g_cVv (Wd := WX q ad) (z := z79) (As := [.int x4]) (rest := []) hG S (kX0_hangMagpiesIn l D q ad A hD 1 (by decide) z79 x4 _ h) (cwV 1 ht (cW_V (fun _ h => h) tw_co_X0_hangMagpiesIn tw_ml_X1_47 tw_im_X0_hangMagpiesIn tw_se_X0_hangMagpiesIn tw_in_X0) rfl rfl rfl (by decide +kernel) ⟨by decide, by decide⟩) (va_recv hK hP (ci := 0) (q0 := (4 * 1)) rfl (wxl q ad z79 (by decide))) hE hP hS rfl hl.1 rfl (Nat.le_of_ble_eq_true rfl) dX1_weigh_88 ⟨Nat.zero_le _, Nat.zero_le _⟩ (fun z88 H locs h hP hS => ?_)
      refine lv_aload_n hx hb dX1_weigh_91 rfl (lv_at hl 1 rfl) ?_
      refine va_get (D := D) (ci := 1) (v := .ref (ad 26)) (C := RX1) (T := TX1) (N := 5) hx hb ht tl_X1 hown hK hP 32 (wx_32 q ad z88) rfl 1 (by decide) (ht _ tw_fl_X1_15) (fun _ h9 => h9) rfl dX1_weigh_92 ?_
      refine lv_aload_n hx hb dX1_weigh_95 rfl (lv_at hl 1 rfl) ?_
      refine va_get (D := D) (ci := 1) (v := .ref (ad (4 * 1))) (C := RX1) (T := TX1) (N := 5) hx hb ht tl_X1 hown hK hP 32 (wx_32 q ad z88) rfl 0 (by decide) (ht _ tw_fl_X1_9) (fun _ h9 => h9) rfl dX1_weigh_96 ?_
      refine g_cVv (Wd := WX q ad) (z := z88) (As := [.ref (ad (4 * 1))]) (rest := []) hG S (kX2_play l D q ad A hD 1 (by decide) z88 _ h) (cwV 1 ht (cW_V (fun _ h => h) tw_co_X2_play tw_ml_X1_51 tw_im_X2_play tw_se_X2_play tw_in_X2) rfl rfl rfl (by decide +kernel) ⟨by decide, by decide⟩) (va_recv hK hP (ci := 2) (q0 := 26) rfl (wx_26 q ad z88)) hE hP hS rfl hl.1 rfl (Nat.le_of_ble_eq_true rfl) dX1_weigh_99 ⟨Nat.zero_le _, Nat.zero_le _⟩ (fun z99 H locs h hP hS => ?_)
      refine lv_aload_n hx hb dX1_weigh_102 rfl (lv_at hl 1 rfl) ?_
      refine lv_dup hx hb dX1_weigh_103 rfl ?_
      refine va_get (D := D) (ci := 1) (v := .long (z99.2 1)) (C := RX1) (T := TX1) (N := 5) hx hb ht tl_X1 hown hK hP 32 (wx_32 q ad z99) rfl 3 (by decide) (ht _ tw_fl_X1_37) (fun _ h9 => h9) rfl dX1_weigh_104 ?_
      refine lv_lload hx hb dX1_weigh_107 (lv_at hl 0 rfl) ?_
      refine lv_aload_n hx hb dX1_weigh_109 rfl (lv_at hl 1 rfl) ?_
      refine va_get (D := D) (ci := 1) (v := .ref (ad 26)) (C := RX1) (T := TX1) (N := 5) hx hb ht tl_X1 hown hK hP 32 (wx_32 q ad z99) rfl 1 (by decide) (ht _ tw_fl_X1_15) (fun _ h9 => h9) rfl dX1_weigh_110 ?_
      refine va_get (D := D) (ci := 2) (v := .int (z99.1 26 8)) (C := RX2) (T := TX2) (N := 13) hx hb ht tl_X2 hown hK hP 26 (wx_26 q ad z99) rfl 8 (by decide) (ht _ tw_fl_X1_56) (fun _ h9 => h9) rfl dX1_weigh_113 ?_
      refine lv_i2l hx hb dX1_weigh_116 rfl ?_
      refine lv_lmul hx hb dX1_weigh_117 ?_
      refine lv_ladd hx hb dX1_weigh_118 ?_
      refine g_put (D := D) (Wd := WX q ad) (z := z99) (ci := 1) (v := .long ((z99.2 1) + (y0 * (Int32.toInt64 (z99.1 26 8))))) (ty := .long) (C := RX1) (T := TX1) (N := 5) hx hb ht tl_X1 tyX1 tyX1_ok nmX1 hown hK hP (hD z99) hS 32 (wx_32 q ad z99) rfl 3 (by decide) (ht _ tw_fl_X1_37) (fun _ h9 => h9) rfl rfl rfl rfl (Nat.le_of_ble_eq_true rfl) ((px_32_3 q ad z99) ((z99.2 1) + (y0 * (Int32.toInt64 (z99.1 26 8))))) dX1_weigh_119 (fun z119 H locs hz119 hP hS => ?_)
      have h := h z119 hz119
      refine lv_aload_n hx hb dX1_weigh_122 rfl (lv_at hl 1 rfl) ?_
      refine lv_dup hx hb dX1_weigh_123 rfl ?_
      refine va_get (D := D) (ci := 1) (v := .long (z119.2 2)) (C := RX1) (T := TX1) (N := 5) hx hb ht tl_X1 hown hK hP 32 (wx_32 q ad z119) rfl 4 (by decide) (ht _ tw_fl_X1_40) (fun _ h9 => h9) rfl dX1_weigh_124 ?_
      refine lv_aload_n hx hb dX1_weigh_127 rfl (lv_at hl 1 rfl) ?_
      refine va_get (D := D) (ci := 1) (v := .ref (ad 26)) (C := RX1) (T := TX1) (N := 5) hx hb ht tl_X1 hown hK hP 32 (wx_32 q ad z119) rfl 1 (by decide) (ht _ tw_fl_X1_15) (fun _ h9 => h9) rfl dX1_weigh_128 ?_
      refine va_get (D := D) (ci := 2) (v := .int (z119.1 26 5)) (C := RX2) (T := TX2) (N := 13) hx hb ht tl_X2 hown hK hP 26 (wx_26 q ad z119) rfl 5 (by decide) (ht _ tw_fl_X1_59) (fun _ h9 => h9) rfl dX1_weigh_131 ?_
      refine lv_bipush (v := (-4 : Int32)) hx hb dX1_weigh_134 (by decide) ?_
      refine lv_icmp_ne (tgt := 144) hx hb dX1_weigh_136 (by decide) (fun c136 => ?_) (fun c136 => ?_)
      · have h := h.1 c136
        refine lv_lconst (v := (0 : Int64)) hx hb dX1_weigh_144 (by decide) ?_
        exact B145 rec32 hrec32 z119 x2 x3 x4 (z119.2 2) (0 : Int64) _ _ _ h hP hS (lv_sub hl [1, 2, 3, 4, 5] rfl)
      · have h := h.2 c136
        refine lv_lload hx hb dX1_weigh_139 (lv_at hl 0 rfl) ?_
        refine lv_goto (tgt := 145) hx hb dX1_weigh_141 (by decide) ?_
        exact B145 rec32 hrec32 z119 x2 x3 x4 (z119.2 2) y0 _ _ _ h hP hS (lv_sub hl [1, 2, 3, 4, 5] rfl)
  have B32 : ∀ (rec32 : MX → Int32 → Int32 → Int32 → Prop) (hrec32 : ∀ (z : MX) (x2 : Int32) (x3 : Int32) (x4 : Int32) (H : Heap) (locs : List Loc) (ls : Array Slot), rec32 z x2 x3 x4 → va_P D vwCl (WX q ad z) H → va_S A s.heap H locs → lv_has ls 7 [(0, .ref (ad 32)), (1, .ref (ad (4 * i))), (2, .int x2), (3, .int x3), (4, .int x4)] → W p l e (headSpec (cW yX1_weigh cX1_weigh 7 none) ({ frames := 5, cells := 0, slots := 0, locals := 121 } : Room)).room s m args below meth c H locs 0 0 (MQ below (va_Qv post (gB D vwCl (WX q ad) (xE D q ad A)) A) args s 0 0 A) (F0 m 32 ls [])) (z : MX) (x2 : Int32) (x3 : Int32) (x4 : Int32) (H : Heap) (locs : List Loc) (ls : Array Slot), pX1_weigh_l32 i rec32 post z x2 x3 x4 → va_P D vwCl (WX q ad z) H → va_S A s.heap H locs → lv_has ls 7 [(0, .ref (ad 32)), (1, .ref (ad (4 * i))), (2, .int x2), (3, .int x3), (4, .int x4)] → W p l e (headSpec (cW yX1_weigh cX1_weigh 7 none) ({ frames := 5, cells := 0, slots := 0, locals := 121 } : Room)).room s m args below meth c H locs 0 0 (MQ below (va_Qv post (gB D vwCl (WX q ad) (xE D q ad A)) A) args s 0 0 A) (F0 m 32 ls []) := by
    intro rec32 hrec32 z x2 x3 x4 H locs ls h hP hS hl
    unfold pX1_weigh_l32 at h
    refine lv_iload hx hb dX1_weigh_32 (lv_at hl 4 rfl) ?_
    refine lv_iconst (v := (1 : Int32)) hx hb dX1_weigh_34 (by decide) ?_
    refine lv_aload_n hx hb dX1_weigh_35 rfl (lv_at hl 1 rfl) ?_
    refine va_get (D := D) (ci := 0) (v := .int (z.1 (4 * i) 0)) (C := RX0) (T := TX0) (N := 7) hx hb ht tl_X0 hown hK hP (4 * i) (wxl q ad z hi) rfl 0 (by decide) (ht _ tw_fl_X1_25) (fun _ h9 => h9) rfl dX1_weigh_36 ?_
    refine lv_ishl hx hb dX1_weigh_39 ?_
    refine lv_icmp_ge (tgt := 155) hx hb dX1_weigh_40 (by decide) (fun c40 => ?_) (fun c40 => ?_)
    · have h := h.1 c40
      exact g_rv hG hx hb hr hlocks hE hP hS h dX1_weigh_155
    · have h := h.2 c40
      refine lv_iload hx hb dX1_weigh_43 (lv_at hl 4 rfl) ?_
      refine lv_iload_n hx hb dX1_weigh_45 rfl (lv_at hl 3 rfl) ?_
      refine lv_iand hx hb dX1_weigh_46 ?_
      refine lv_if_ne (tgt := 64) hx hb dX1_weigh_47 (by decide) (fun c47 => ?_) (fun c47 => ?_)
      · have h := h.1 c47
        refine lv_lconst (v := (0 : Int64)) hx hb dX1_weigh_64 (by decide) ?_
        exact B65 rec32 hrec32 z x2 x3 x4 (0 : Int64) _ _ _ h hP hS (lv_sub hl [0, 1, 2, 3, 4] rfl)
      · have h := h.2 c47
        refine lv_iload hx hb dX1_weigh_50 (lv_at hl 4 rfl) ?_
        refine lv_iload_n hx hb dX1_weigh_52 rfl (lv_at hl 3 rfl) ?_
        refine lv_iload_n hx hb dX1_weigh_53 rfl (lv_at hl 2 rfl) ?_
        refine lv_aload_n hx hb dX1_weigh_54 rfl (lv_at hl 1 rfl) ?_
        refine va_get (D := D) (ci := 0) (v := .int (z.1 (4 * i) 0)) (C := RX0) (T := TX0) (N := 7) hx hb ht tl_X0 hown hK hP (4 * i) (wxl q ad z hi) rfl 0 (by decide) (ht _ tw_fl_X1_25) (fun _ h9 => h9) rfl dX1_weigh_55 ?_
        refine g_cSl (Wd := WX q ad) (z := z) (As := [.int x4, .int x3, .int x2, .int (z.1 (4 * i) 0)]) (rest := []) hG S (kX1_weightOf l D q ad A hD z x4 x3 x2 (z.1 (4 * i) 0) _ h) (va_cwS 4 ht (cW_S (fun _ h => h) tw_co_X1_weightOf tw_ml_X1_29 tw_st_X1_weightOf tw_in_X1) rfl rfl rfl (by decide +kernel) ⟨by decide, by decide⟩) hE hP hS rfl hl.1 rfl (Nat.le_of_ble_eq_true rfl) dX1_weigh_58 ⟨Nat.zero_le _, Nat.zero_le _⟩ (fun r58 z58 H locs h hP hS => ?_)
        refine lv_goto (tgt := 65) hx hb dX1_weigh_61 (by decide) ?_
        exact B65 rec32 hrec32 z58 x2 x3 x4 r58 _ _ _ h hP hS (lv_sub hl [0, 1, 2, 3, 4] rfl)
  have L32 : ∀ (n : Nat) (z : MX) (x2 : Int32) (x3 : Int32) (x4 : Int32) (H : Heap) (locs : List Loc) (ls : Array Slot), pX1_weigh_L32 i post n z x2 x3 x4 → va_P D vwCl (WX q ad z) H → va_S A s.heap H locs → lv_has ls 7 [(0, .ref (ad 32)), (1, .ref (ad (4 * i))), (2, .int x2), (3, .int x3), (4, .int x4)] → W p l e (headSpec (cW yX1_weigh cX1_weigh 7 none) ({ frames := 5, cells := 0, slots := 0, locals := 121 } : Room)).room s m args below meth c H locs 0 0 (MQ below (va_Qv post (gB D vwCl (WX q ad) (xE D q ad A)) A) args s 0 0 A) (F0 m 32 ls []) := by
    intro n
    induction n with
    | zero =>
      intro z x2 x3 x4 H locs ls h
      exact False.elim h
    | succ n ih =>
      intro z x2 x3 x4 H locs ls h hP hS hl
      exact B32 (pX1_weigh_L32 i post n) ih z x2 x3 x4 H locs ls h hP hS hl
  refine g_entry (vs := [.ref (ad 32), .ref (ad (4 * i)), .int x2]) hargs (Nat.le_of_ble_eq_true rfl) (fun ls hl => ?_)
  have hl : lv_has ls 7 [(0, .ref (ad 32)), (1, .ref (ad (4 * i))), (2, .int x2)] := hl
  unfold pX1_weigh at h
  refine lv_aload_n hx hb dX1_weigh_0 rfl (lv_at hl 1 rfl) ?_
  refine g_cVi (Wd := WX q ad) (z := z) (As := []) (rest := []) hG S (kX0_omenBits l D q ad A hD i hi z _ h) (cwV 0 ht (cW_V (fun _ h => h) tw_co_X0_omenBits tw_ml_X1_19 tw_im_X0_omenBits tw_se_X0_omenBits tw_in_X0) rfl rfl rfl (by decide +kernel) ⟨by decide, by decide⟩) (va_recv hK hP (ci := 0) (q0 := (4 * i)) rfl (wxl q ad z hi)) hE hP hS rfl hl.1 rfl (Nat.le_of_ble_eq_true rfl) dX1_weigh_1 ⟨Nat.zero_le _, Nat.zero_le _⟩ (fun r1 z1 H locs h hP hS => ?_)
  refine lv_istore_n (lv' := [(3, .int r1), (0, .ref (ad 32)), (1, .ref (ad (4 * i))), (2, .int x2)]) hx hb dX1_weigh_4 rfl hl (by decide) rfl (fun ls hl => ?_)
  refine lv_aload_n hx hb dX1_weigh_5 rfl (lv_at hl 1 rfl) ?_
  refine lv_iconst (v := (0 : Int32)) hx hb dX1_weigh_6 (by decide) ?_
  refine lv_iload_n hx hb dX1_weigh_7 rfl (lv_at hl 0 rfl) ?_
  refine lv_iconst (v := (0 : Int32)) hx hb dX1_weigh_8 (by decide) ?_
  refine lv_aload_n hx hb dX1_weigh_9 rfl (lv_at hl 2 rfl) ?_
  refine va_get (D := D) (ci := 0) (v := .int (z1.1 (4 * i) 0)) (C := RX0) (T := TX0) (N := 7) hx hb ht tl_X0 hown hK hP (4 * i) (wxl q ad z1 hi) rfl 0 (by decide) (ht _ tw_fl_X1_25) (fun _ h9 => h9) rfl dX1_weigh_10 ?_
  refine g_cSl (Wd := WX q ad) (z := z1) (As := [.int (0 : Int32), .int r1, .int (0 : Int32), .int (z1.1 (4 * i) 0)]) (rest := [.ref (ad 32)]) hG S (kX1_weightOf l D q ad A hD z1 (0 : Int32) r1 (0 : Int32) (z1.1 (4 * i) 0) _ h) (va_cwS 4 ht (cW_S (fun _ h => h) tw_co_X1_weightOf tw_ml_X1_29 tw_st_X1_weightOf tw_in_X1) rfl rfl rfl (by decide +kernel) ⟨by decide, by decide⟩) hE hP hS rfl hl.1 rfl (Nat.le_of_ble_eq_true rfl) dX1_weigh_13 ⟨Nat.zero_le _, Nat.zero_le _⟩ (fun r13 z13 H locs h hP hS => ?_)
  refine g_put (D := D) (Wd := WX q ad) (z := z13) (ci := 1) (v := .long r13) (ty := .long) (C := RX1) (T := TX1) (N := 5) hx hb ht tl_X1 tyX1 tyX1_ok nmX1 hown hK hP (hD z13) hS 32 (wx_32 q ad z13) rfl 2 (by decide) (ht _ tw_fl_X1_33) (fun _ h9 => h9) rfl rfl rfl rfl (Nat.le_of_ble_eq_true rfl) ((px_32_2 q ad z13) r13) dX1_weigh_16 (fun z16 H locs hz16 hP hS => ?_)
  have h := h z16 hz16
  refine lv_aload_n hx hb dX1_weigh_19 rfl (lv_at hl 1 rfl) ?_
  refine lv_lconst (v := (0 : Int64)) hx hb dX1_weigh_20 (by decide) ?_
  refine g_put (D := D) (Wd := WX q ad) (z := z16) (ci := 1) (v := .long (0 : Int64)) (ty := .long) (C := RX1) (T := TX1) (N := 5) hx hb ht tl_X1 tyX1 tyX1_ok nmX1 hown hK hP (hD z16) hS 32 (wx_32 q ad z16) rfl 3 (by decide) (ht _ tw_fl_X1_37) (fun _ h9 => h9) rfl rfl rfl rfl (Nat.le_of_ble_eq_true rfl) ((px_32_3 q ad z16) (0 : Int64)) dX1_weigh_21 (fun z21 H locs hz21 hP hS => ?_)
  have h := h z21 hz21
  refine lv_aload_n hx hb dX1_weigh_24 rfl (lv_at hl 1 rfl) ?_
  refine lv_lconst (v := (0 : Int64)) hx hb dX1_weigh_25 (by decide) ?_
  refine g_put (D := D) (Wd := WX q ad) (z := z21) (ci := 1) (v := .long (0 : Int64)) (ty := .long) (C := RX1) (T := TX1) (N := 5) hx hb ht tl_X1 tyX1 tyX1_ok nmX1 hown hK hP (hD z21) hS 32 (wx_32 q ad z21) rfl 4 (by decide) (ht _ tw_fl_X1_40) (fun _ h9 => h9) rfl rfl rfl rfl (Nat.le_of_ble_eq_true rfl) ((px_32_4 q ad z21) (0 : Int64)) dX1_weigh_26 (fun z26 H locs hz26 hP hS => ?_)
  have h := h z26 hz26
  refine lv_iconst (v := (0 : Int32)) hx hb dX1_weigh_29 (by decide) ?_
  refine lv_istore (lv' := [(4, .int (0 : Int32)), (3, .int r1), (0, .ref (ad 32)), (1, .ref (ad (4 * i))), (2, .int x2)]) hx hb dX1_weigh_30 hl (by decide) rfl (fun ls hl => ?_)
  obtain ⟨n, h⟩ := h
  exact L32 n z26 x2 r1 (0 : Int32) _ _ _ h hP hS (lv_sub hl [2, 3, 4, 1, 0] rfl)
def pX3_isNothing (j : Nat) (z : MX) (post : Int32 → MX → Prop) : Prop :=
  ((¬ (z.1 (16 + 2 * j) 2) = (-1 : Int32) →
    (((0 : Int32) = 0 ∨ (0 : Int32) = 1) ∧ post (0 : Int32) z)) ∧
  ((z.1 (16 + 2 * j) 2) = (-1 : Int32) →
    (((1 : Int32) = 0 ∨ (1 : Int32) = 1) ∧ post (1 : Int32) z)))
set_option maxHeartbeats 4000000 in
set_option maxRecDepth 100000 in
theorem kX3_isNothing (l : Launch) (D : va_G) (q : Nat → ClassId) (ad : Nat → Nat) (A : Nat → Prop) (hD : ∀ z, va_D A (WX q ad z)) (j : Nat) (hj : j < 4) (z : MX) (post : Int32 → MX → Prop) (h : pX3_isNothing j z post) : Met l yX3_isNothing (cW yX3_isNothing cX3_isNothing 1 (some .boolean)) ({ frames := 0, cells := 0, slots := 0, locals := 0 } : Room) (va_Pc [.ref (ad (16 + 2 * j))] ((gB D vwCl (WX q ad) (xE D q ad A)) z)) (va_Qi post (gB D vwCl (WX q ad) (xE D q ad A)) A) 0 0 A := by
  refine Met.ofW (cc := cX3_isNothing) (maxL := 1) (ret := (some .boolean)) (by decide) rfl ?_
  intro p e s m args below meth c s₁ B hml hv
  obtain ⟨hargs, hP, hE⟩ := hv
  have hx := B.exec
  have hb := B.bytes
  have hr := B.returns
  have hts := atoms_spec (ws := (cW yX3_isNothing cX3_isNothing 1 (some .boolean))) B.pre
  have ht : ∀ w ∈ tG, w.before args s = true := fun w h => hts w (List.mem_cons_of_mem _ h)
  have hown : s.vm.findClass RX3 = some m.cls := findClass_of_methodNamed B.named
  have hlocks := B.notSynchronized
  have hK := hE.1
  have hG := xE_G D q ad A
  have S : CallFix p m c cX3_isNothing 1 s args tG RX3 := ⟨hx, hb, hml, hown, ht⟩
  have hS : va_S A s.heap s.heap [] := va_S.rf
  refine g_entry (vs := [.ref (ad (16 + 2 * j))]) hargs (Nat.le_of_ble_eq_true rfl) (fun ls hl => ?_)
  have hl : lv_has ls 1 [(0, .ref (ad (16 + 2 * j)))] := hl
  unfold pX3_isNothing at h
  refine lv_aload_n hx hb dX3_isNothing_0 rfl (lv_at hl 0 rfl) ?_
  refine va_get (D := D) (ci := 3) (v := .int (z.1 (16 + 2 * j) 2)) (C := RX3) (T := TX3) (N := 3) hx hb ht tl_X3 hown hK hP (16 + 2 * j) (wxs q ad z hj) rfl 2 (by decide) (ht _ tw_fl_X3_15) (fun _ h9 => h9) rfl dX3_isNothing_1 ?_
  refine lv_iconst (v := (-1 : Int32)) hx hb dX3_isNothing_4 (by decide) ?_
  refine lv_icmp_ne (tgt := 12) hx hb dX3_isNothing_5 (by decide) (fun c5 => ?_) (fun c5 => ?_)
  · have h := h.1 c5
    refine lv_iconst (v := (0 : Int32)) hx hb dX3_isNothing_12 (by decide) ?_
    exact g_rz hG hx hb hr hlocks hE hP hS h dX3_isNothing_13
  · have h := h.2 c5
    refine lv_iconst (v := (1 : Int32)) hx hb dX3_isNothing_8 (by decide) ?_
    refine lv_goto (tgt := 13) hx hb dX3_isNothing_9 (by decide) ?_
    exact g_rz hG hx hb hr hlocks hE hP hS h dX3_isNothing_13
def pX3_renew (j : Nat) (z : MX) (x1 : Int32) (x2 : Int32) (post : MX → Prop) : Prop :=
  ∀ z2 : MX, z2 = mw z (16 + 2 * j) 1 x1 →
  ∀ z7 : MX, z7 = mw z2 (16 + 2 * j) 2 x2 →
  ∀ z15 : MX, z15 = mf z7 (17 + 2 * j) (fun k => if k < 40 then (0 : Int32) else z7.1 (17 + 2 * j) k) →
  post z15
set_option maxHeartbeats 4000000 in
set_option maxRecDepth 100000 in
theorem kX3_renew (l : Launch) (D : va_G) (q : Nat → ClassId) (ad : Nat → Nat) (A : Nat → Prop) (hD : ∀ z, va_D A (WX q ad z)) (j : Nat) (hj : j < 4) (z : MX) (x1 : Int32) (x2 : Int32) (post : MX → Prop) (h : pX3_renew j z x1 x2 post) : Met l yX3_renew (cW yX3_renew cX3_renew 3 none) ({ frames := 1, cells := 0, slots := 0, locals := 23 } : Room) (va_Pc [.ref (ad (16 + 2 * j)), .int x1, .int x2] ((gB D vwCl (WX q ad) (xE D q ad A)) z)) (va_Qv post (gB D vwCl (WX q ad) (xE D q ad A)) A) 0 0 A := by
  refine Met.ofW (cc := cX3_renew) (maxL := 3) (ret := none) (by decide) rfl ?_
  intro p e s m args below meth c s₁ B hml hv
  obtain ⟨hargs, hP, hE⟩ := hv
  have hx := B.exec
  have hb := B.bytes
  have hr := B.returns
  have hts := atoms_spec (ws := (cW yX3_renew cX3_renew 3 none)) B.pre
  have ht : ∀ w ∈ tG, w.before args s = true := fun w h => hts w (List.mem_cons_of_mem _ h)
  have hown : s.vm.findClass RX3 = some m.cls := findClass_of_methodNamed B.named
  have hlocks := B.notSynchronized
  have hK := hE.1
  have hG := xE_G D q ad A
  have S : CallFix p m c cX3_renew 3 s args tG RX3 := ⟨hx, hb, hml, hown, ht⟩
  have hS : va_S A s.heap s.heap [] := va_S.rf
  refine g_entry (vs := [.ref (ad (16 + 2 * j)), .int x1, .int x2]) hargs (Nat.le_of_ble_eq_true rfl) (fun ls hl => ?_)
  have hl : lv_has ls 3 [(0, .ref (ad (16 + 2 * j))), (1, .int x1), (2, .int x2)] := hl
  unfold pX3_renew at h
  refine lv_aload_n hx hb dX3_renew_0 rfl (lv_at hl 0 rfl) ?_
  refine lv_iload_n hx hb dX3_renew_1 rfl (lv_at hl 1 rfl) ?_
  refine g_put (D := D) (Wd := WX q ad) (z := z) (ci := 3) (v := .int x1) (ty := .int) (C := RX3) (T := TX3) (N := 3) hx hb ht tl_X3 tyX3 tyX3_ok nmX3 hown hK hP (hD z) hS (16 + 2 * j) (wxs q ad z hj) rfl 1 (by decide) (ht _ tw_fl_X3_19) (fun _ h9 => h9) rfl rfl rfl rfl (Nat.le_of_ble_eq_true rfl) ((pxs_1 q ad z hj) x1) dX3_renew_2 (fun z2 H locs hz2 hP hS => ?_)
  have h := h z2 hz2
  refine lv_aload_n hx hb dX3_renew_5 rfl (lv_at hl 0 rfl) ?_
  refine lv_iload_n hx hb dX3_renew_6 rfl (lv_at hl 2 rfl) ?_
  refine g_put (D := D) (Wd := WX q ad) (z := z2) (ci := 3) (v := .int x2) (ty := .int) (C := RX3) (T := TX3) (N := 3) hx hb ht tl_X3 tyX3 tyX3_ok nmX3 hown hK hP (hD z2) hS (16 + 2 * j) (wxs q ad z2 hj) rfl 2 (by decide) (ht _ tw_fl_X3_15) (fun _ h9 => h9) rfl rfl rfl rfl (Nat.le_of_ble_eq_true rfl) ((pxs_2 q ad z2 hj) x2) dX3_renew_7 (fun z7 H locs hz7 hP hS => ?_)
  have h := h z7 hz7
  refine lv_aload_n hx hb dX3_renew_10 rfl (lv_at hl 0 rfl) ?_
  refine va_get (D := D) (ci := 3) (v := .ref (ad (17 + 2 * j))) (C := RX3) (T := TX3) (N := 3) hx hb ht tl_X3 hown hK hP (16 + 2 * j) (wxs q ad z7 hj) rfl 0 (by decide) (ht _ tw_fl_X3_9) (fun _ h9 => h9) rfl dX3_renew_11 ?_
  refine lv_iconst (v := (0 : Int32)) hx hb dX3_renew_14 (by decide) ?_
  refine g_cSv (Wd := WX q ad) (z := z7) (As := [.ref (ad (17 + 2 * j)), .int (0 : Int32)]) (rest := []) hG S (kJ7_fill l D q ad A hD (c := (17 + 2 * j)) (n := 40) (by decide) (fun z => (wxs1 q ad z hj)) (fun z => (axs1 q ad z hj)) z7 (0 : Int32)) (va_cwS 2 ht (cW_S (fun _ h => h) tw_co_J7_fill_53178 tw_ml_X3_22 tw_st_J7_fill_53178 tw_in_J7) rfl rfl rfl (by decide +kernel) ⟨by decide, by decide⟩) hE hP hS rfl hl.1 rfl (Nat.le_of_ble_eq_true rfl) dX3_renew_15 ⟨Nat.zero_le _, Nat.zero_le _⟩ (fun z15 H locs hz15 hP hS => ?_)
  have h := h z15 hz15
  exact g_rv hG hx hb hr hlocks hE hP hS h dX3_renew_18
def pX3_faultAt_b31 (j : Nat) (post : Int32 → MX → Prop) (z : MX) : Prop :=
    post (2 : Int32) z
def pX3_faultAt (j : Nat) (z : MX) (x1 : Int32) (x2 : Int32) (post : Int32 → MX → Prop) : Prop :=
  pX3_isNothing j z (fun (r1 : Int32) (z1 : MX) =>
  ((r1 = 0 →
    ((x1 = (z1.1 (16 + 2 * j) 1) →
      ((x2 < 0 →
        pX3_faultAt_b31 j post z1) ∧
      (¬ x2 < 0 →
        ((x2 < (z1.1 (16 + 2 * j) 2) →
          post (0 : Int32) z1) ∧
        (¬ x2 < (z1.1 (16 + 2 * j) 2) →
          pX3_faultAt_b31 j post z1))))) ∧
    (¬ x1 = (z1.1 (16 + 2 * j) 1) →
      post (3 : Int32) z1))) ∧
  (¬ r1 = 0 →
    post (1 : Int32) z1)))
set_option maxHeartbeats 4000000 in
set_option maxRecDepth 100000 in
theorem kX3_faultAt (l : Launch) (D : va_G) (q : Nat → ClassId) (ad : Nat → Nat) (A : Nat → Prop) (hD : ∀ z, va_D A (WX q ad z)) (j : Nat) (hj : j < 4) (z : MX) (x1 : Int32) (x2 : Int32) (post : Int32 → MX → Prop) (h : pX3_faultAt j z x1 x2 post) : Met l yX3_faultAt (cW yX3_faultAt cX3_faultAt 3 (some .int)) ({ frames := 1, cells := 0, slots := 0, locals := 20 } : Room) (va_Pc [.ref (ad (16 + 2 * j)), .int x1, .int x2] ((gB D vwCl (WX q ad) (xE D q ad A)) z)) (va_Qi post (gB D vwCl (WX q ad) (xE D q ad A)) A) 0 0 A := by
  refine Met.ofW (cc := cX3_faultAt) (maxL := 3) (ret := (some .int)) (by decide) rfl ?_
  intro p e s m args below meth c s₁ B hml hv
  obtain ⟨hargs, hP, hE⟩ := hv
  have hx := B.exec
  have hb := B.bytes
  have hr := B.returns
  have hts := atoms_spec (ws := (cW yX3_faultAt cX3_faultAt 3 (some .int))) B.pre
  have ht : ∀ w ∈ tG, w.before args s = true := fun w h => hts w (List.mem_cons_of_mem _ h)
  have hown : s.vm.findClass RX3 = some m.cls := findClass_of_methodNamed B.named
  have hlocks := B.notSynchronized
  have hK := hE.1
  have hG := xE_G D q ad A
  have S : CallFix p m c cX3_faultAt 3 s args tG RX3 := ⟨hx, hb, hml, hown, ht⟩
  have hS : va_S A s.heap s.heap [] := va_S.rf
  have B31 : ∀ (z : MX) (H : Heap) (locs : List Loc) (ls : Array Slot), pX3_faultAt_b31 j post z → va_P D vwCl (WX q ad z) H → va_S A s.heap H locs → lv_has ls 3 [] → W p l e (headSpec (cW yX3_faultAt cX3_faultAt 3 (some .int)) ({ frames := 1, cells := 0, slots := 0, locals := 20 } : Room)).room s m args below meth c H locs 0 0 (MQ below (va_Qi post (gB D vwCl (WX q ad) (xE D q ad A)) A) args s 0 0 A) (F0 m 31 ls []) := by
    intro z H locs ls h hP hS hl
    unfold pX3_faultAt_b31 at h
    refine lv_iconst (v := (2 : Int32)) hx hb dX3_faultAt_31 (by decide) ?_
    refine lv_goto (tgt := 36) hx hb dX3_faultAt_32 (by decide) ?_
    exact g_ri hG hx hb hr hlocks hE hP hS h dX3_faultAt_36
  refine g_entry (vs := [.ref (ad (16 + 2 * j)), .int x1, .int x2]) hargs (Nat.le_of_ble_eq_true rfl) (fun ls hl => ?_)
  have hl : lv_has ls 3 [(0, .ref (ad (16 + 2 * j))), (1, .int x1), (2, .int x2)] := hl
  unfold pX3_faultAt at h
  refine lv_aload_n hx hb dX3_faultAt_0 rfl (lv_at hl 0 rfl) ?_
  refine g_cVi (Wd := WX q ad) (z := z) (As := []) (rest := []) hG S (kX3_isNothing l D q ad A hD j hj z _ h) (cwV 0 ht (cW_V (fun _ h => h) tw_co_X3_isNothing tw_ml_X3_28 tw_im_X3_isNothing tw_se_X3_isNothing tw_in_X3) rfl rfl rfl (by decide +kernel) ⟨by decide, by decide⟩) (va_recv hK hP (ci := 3) (q0 := (16 + 2 * j)) rfl (wxs q ad z hj)) hE hP hS rfl hl.1 rfl (Nat.le_of_ble_eq_true rfl) dX3_faultAt_1 ⟨Nat.zero_le _, Nat.zero_le _⟩ (fun r1 z1 H locs h hP hS => ?_)
  refine lv_if_eq (tgt := 9) hx hb dX3_faultAt_4 (by decide) (fun c4 => ?_) (fun c4 => ?_)
  · have h := h.1 c4
    refine lv_iload_n hx hb dX3_faultAt_9 rfl (lv_at hl 1 rfl) ?_
    refine lv_aload_n hx hb dX3_faultAt_10 rfl (lv_at hl 0 rfl) ?_
    refine va_get (D := D) (ci := 3) (v := .int (z1.1 (16 + 2 * j) 1)) (C := RX3) (T := TX3) (N := 3) hx hb ht tl_X3 hown hK hP (16 + 2 * j) (wxs q ad z1 hj) rfl 1 (by decide) (ht _ tw_fl_X3_19) (fun _ h9 => h9) rfl dX3_faultAt_11 ?_
    refine lv_icmp_eq (tgt := 19) hx hb dX3_faultAt_14 (by decide) (fun c14 => ?_) (fun c14 => ?_)
    · have h := h.1 c14
      refine lv_iload_n hx hb dX3_faultAt_19 rfl (lv_at hl 2 rfl) ?_
      refine lv_if_lt (tgt := 31) hx hb dX3_faultAt_20 (by decide) (fun c20 => ?_) (fun c20 => ?_)
      · have h := h.1 c20
        exact B31 z1 _ _ _ h hP hS (lv_sub hl [] rfl)
      · have h := h.2 c20
        refine lv_iload_n hx hb dX3_faultAt_23 rfl (lv_at hl 2 rfl) ?_
        refine lv_aload_n hx hb dX3_faultAt_24 rfl (lv_at hl 0 rfl) ?_
        refine va_get (D := D) (ci := 3) (v := .int (z1.1 (16 + 2 * j) 2)) (C := RX3) (T := TX3) (N := 3) hx hb ht tl_X3 hown hK hP (16 + 2 * j) (wxs q ad z1 hj) rfl 2 (by decide) (ht _ tw_fl_X3_15) (fun _ h9 => h9) rfl dX3_faultAt_25 ?_
        refine lv_icmp_lt (tgt := 35) hx hb dX3_faultAt_28 (by decide) (fun c28 => ?_) (fun c28 => ?_)
        · have h := h.1 c28
          refine lv_iconst (v := (0 : Int32)) hx hb dX3_faultAt_35 (by decide) ?_
          exact g_ri hG hx hb hr hlocks hE hP hS h dX3_faultAt_36
        · have h := h.2 c28
          exact B31 z1 _ _ _ h hP hS (lv_sub hl [] rfl)
    · have h := h.2 c14
      refine lv_iconst (v := (3 : Int32)) hx hb dX3_faultAt_17 (by decide) ?_
      exact g_ri hG hx hb hr hlocks hE hP hS h dX3_faultAt_18
  · have h := h.2 c4
    refine lv_iconst (v := (1 : Int32)) hx hb dX3_faultAt_7 (by decide) ?_
    exact g_ri hG hx hb hr hlocks hE hP hS h dX3_faultAt_8
def pX3_faultOfPair (j : Nat) (z : MX) (x1 : Int32) (x2 : Int32) (post : Int32 → MX → Prop) : Prop :=
  pX3_faultAt j z x1 x2 (fun (r3 : Int32) (z3 : MX) =>
  ((r3 = 0 →
    pX3_faultAt j z3 x1 (x2 + (1 : Int32)) (fun (r20 : Int32) (z20 : MX) =>
    post r20 z20)) ∧
  (¬ r3 = 0 →
    post r3 z3)))
set_option maxHeartbeats 4000000 in
set_option maxRecDepth 100000 in
theorem kX3_faultOfPair (l : Launch) (D : va_G) (q : Nat → ClassId) (ad : Nat → Nat) (A : Nat → Prop) (hD : ∀ z, va_D A (WX q ad z)) (j : Nat) (hj : j < 4) (z : MX) (x1 : Int32) (x2 : Int32) (post : Int32 → MX → Prop) (h : pX3_faultOfPair j z x1 x2 post) : Met l yX3_faultOfPair (cW yX3_faultOfPair cX3_faultOfPair 4 (some .int)) ({ frames := 2, cells := 0, slots := 0, locals := 42 } : Room) (va_Pc [.ref (ad (16 + 2 * j)), .int x1, .int x2] ((gB D vwCl (WX q ad) (xE D q ad A)) z)) (va_Qi post (gB D vwCl (WX q ad) (xE D q ad A)) A) 0 0 A := by
  refine Met.ofW (cc := cX3_faultOfPair) (maxL := 4) (ret := (some .int)) (by decide) rfl ?_
  intro p e s m args below meth c s₁ B hml hv
  obtain ⟨hargs, hP, hE⟩ := hv
  have hx := B.exec
  have hb := B.bytes
  have hr := B.returns
  have hts := atoms_spec (ws := (cW yX3_faultOfPair cX3_faultOfPair 4 (some .int))) B.pre
  have ht : ∀ w ∈ tG, w.before args s = true := fun w h => hts w (List.mem_cons_of_mem _ h)
  have hown : s.vm.findClass RX3 = some m.cls := findClass_of_methodNamed B.named
  have hlocks := B.notSynchronized
  have hK := hE.1
  have hG := xE_G D q ad A
  have S : CallFix p m c cX3_faultOfPair 4 s args tG RX3 := ⟨hx, hb, hml, hown, ht⟩
  have hS : va_S A s.heap s.heap [] := va_S.rf
  refine g_entry (vs := [.ref (ad (16 + 2 * j)), .int x1, .int x2]) hargs (Nat.le_of_ble_eq_true rfl) (fun ls hl => ?_)
  have hl : lv_has ls 4 [(0, .ref (ad (16 + 2 * j))), (1, .int x1), (2, .int x2)] := hl
  unfold pX3_faultOfPair at h
  refine lv_aload_n hx hb dX3_faultOfPair_0 rfl (lv_at hl 0 rfl) ?_
  refine lv_iload_n hx hb dX3_faultOfPair_1 rfl (lv_at hl 1 rfl) ?_
  refine lv_iload_n hx hb dX3_faultOfPair_2 rfl (lv_at hl 2 rfl) ?_
  refine g_cVi (Wd := WX q ad) (z := z) (As := [.int x1, .int x2]) (rest := []) hG S (kX3_faultAt l D q ad A hD j hj z x1 x2 _ h) (cwV 2 ht (cW_V (fun _ h => h) tw_co_X3_faultAt tw_ml_X3_32 tw_im_X3_faultAt tw_se_X3_faultAt tw_in_X3) rfl rfl rfl (by decide +kernel) ⟨by decide, by decide⟩) (va_recv hK hP (ci := 3) (q0 := (16 + 2 * j)) rfl (wxs q ad z hj)) hE hP hS rfl hl.1 rfl (Nat.le_of_ble_eq_true rfl) dX3_faultOfPair_3 ⟨Nat.zero_le _, Nat.zero_le _⟩ (fun r3 z3 H locs h hP hS => ?_)
  refine lv_istore_n (lv' := [(3, .int r3), (0, .ref (ad (16 + 2 * j))), (1, .int x1), (2, .int x2)]) hx hb dX3_faultOfPair_6 rfl hl (by decide) rfl (fun ls hl => ?_)
  refine lv_iload_n hx hb dX3_faultOfPair_7 rfl (lv_at hl 0 rfl) ?_
  refine lv_if_eq (tgt := 15) hx hb dX3_faultOfPair_8 (by decide) (fun c8 => ?_) (fun c8 => ?_)
  · have h := h.1 c8
    refine lv_aload_n hx hb dX3_faultOfPair_15 rfl (lv_at hl 1 rfl) ?_
    refine lv_iload_n hx hb dX3_faultOfPair_16 rfl (lv_at hl 2 rfl) ?_
    refine lv_iload_n hx hb dX3_faultOfPair_17 rfl (lv_at hl 3 rfl) ?_
    refine lv_iconst (v := (1 : Int32)) hx hb dX3_faultOfPair_18 (by decide) ?_
    refine lv_iadd hx hb dX3_faultOfPair_19 ?_
    refine g_cVi (Wd := WX q ad) (z := z3) (As := [.int x1, .int (x2 + (1 : Int32))]) (rest := []) hG S (kX3_faultAt l D q ad A hD j hj z3 x1 (x2 + (1 : Int32)) _ h) (cwV 2 ht (cW_V (fun _ h => h) tw_co_X3_faultAt tw_ml_X3_32 tw_im_X3_faultAt tw_se_X3_faultAt tw_in_X3) rfl rfl rfl (by decide +kernel) ⟨by decide, by decide⟩) (va_recv hK hP (ci := 3) (q0 := (16 + 2 * j)) rfl (wxs q ad z3 hj)) hE hP hS rfl hl.1 rfl (Nat.le_of_ble_eq_true rfl) dX3_faultOfPair_20 ⟨Nat.zero_le _, Nat.zero_le _⟩ (fun r20 z20 H locs h hP hS => ?_)
    exact g_ri hG hx hb hr hlocks hE hP hS h dX3_faultOfPair_23
  · have h := h.2 c8
    refine lv_iload_n hx hb dX3_faultOfPair_11 rfl (lv_at hl 0 rfl) ?_
    refine lv_goto (tgt := 23) hx hb dX3_faultOfPair_12 (by decide) ?_
    exact g_ri hG hx hb hr hlocks hE hP hS h dX3_faultOfPair_23
def pX3_put (j : Nat) (z : MX) (x1 : Int32) (x2 : Int32) (post : MX → Prop) : Prop :=
  ((¬ (z.1 (16 + 2 * j) 1) = 0 →
    ((¬ (z.1 (16 + 2 * j) 1) = (1 : Int32) →
      vp_in x1 40 ∧
      ∀ z43 : MX, z43 = mw z (17 + 2 * j) (Int32.toNatClampNeg x1) x2 →
      post z43) ∧
    ((z.1 (16 + 2 * j) 1) = (1 : Int32) →
      vp_in x1 40 ∧
      ∀ z33 : MX, z33 = mw z (17 + 2 * j) (Int32.toNatClampNeg x1) ((Int32.toInt16 x2).toInt32) →
      post z33))) ∧
  ((z.1 (16 + 2 * j) 1) = 0 →
    vp_in x1 40 ∧
    ∀ z14 : MX, z14 = mw z (17 + 2 * j) (Int32.toNatClampNeg x1) ((Int32.toInt8 x2).toInt32) →
    post z14))
set_option maxHeartbeats 4000000 in
set_option maxRecDepth 100000 in
theorem kX3_put (l : Launch) (D : va_G) (q : Nat → ClassId) (ad : Nat → Nat) (A : Nat → Prop) (hD : ∀ z, va_D A (WX q ad z)) (j : Nat) (hj : j < 4) (z : MX) (x1 : Int32) (x2 : Int32) (post : MX → Prop) (h : pX3_put j z x1 x2 post) : Met l yX3_put (cW yX3_put cX3_put 3 none) ({ frames := 0, cells := 0, slots := 0, locals := 0 } : Room) (va_Pc [.ref (ad (16 + 2 * j)), .int x1, .int x2] ((gB D vwCl (WX q ad) (xE D q ad A)) z)) (va_Qv post (gB D vwCl (WX q ad) (xE D q ad A)) A) 0 0 A := by
  refine Met.ofW (cc := cX3_put) (maxL := 3) (ret := none) (by decide) rfl ?_
  intro p e s m args below meth c s₁ B hml hv
  obtain ⟨hargs, hP, hE⟩ := hv
  have hx := B.exec
  have hb := B.bytes
  have hr := B.returns
  have hts := atoms_spec (ws := (cW yX3_put cX3_put 3 none)) B.pre
  have ht : ∀ w ∈ tG, w.before args s = true := fun w h => hts w (List.mem_cons_of_mem _ h)
  have hown : s.vm.findClass RX3 = some m.cls := findClass_of_methodNamed B.named
  have hlocks := B.notSynchronized
  have hK := hE.1
  have hG := xE_G D q ad A
  have S : CallFix p m c cX3_put 3 s args tG RX3 := ⟨hx, hb, hml, hown, ht⟩
  have hS : va_S A s.heap s.heap [] := va_S.rf
  refine g_entry (vs := [.ref (ad (16 + 2 * j)), .int x1, .int x2]) hargs (Nat.le_of_ble_eq_true rfl) (fun ls hl => ?_)
  have hl : lv_has ls 3 [(0, .ref (ad (16 + 2 * j))), (1, .int x1), (2, .int x2)] := hl
  unfold pX3_put at h
  refine lv_aload_n hx hb dX3_put_0 rfl (lv_at hl 0 rfl) ?_
  refine va_get (D := D) (ci := 3) (v := .int (z.1 (16 + 2 * j) 1)) (C := RX3) (T := TX3) (N := 3) hx hb ht tl_X3 hown hK hP (16 + 2 * j) (wxs q ad z hj) rfl 1 (by decide) (ht _ tw_fl_X3_19) (fun _ h9 => h9) rfl dX3_put_1 ?_
  refine lv_if_ne (tgt := 18) hx hb dX3_put_4 (by decide) (fun c4 => ?_) (fun c4 => ?_)
  · have h := h.1 c4
    refine lv_aload_n hx hb dX3_put_18 rfl (lv_at hl 0 rfl) ?_
    refine va_get (D := D) (ci := 3) (v := .int (z.1 (16 + 2 * j) 1)) (C := RX3) (T := TX3) (N := 3) hx hb ht tl_X3 hown hK hP (16 + 2 * j) (wxs q ad z hj) rfl 1 (by decide) (ht _ tw_fl_X3_19) (fun _ h9 => h9) rfl dX3_put_19 ?_
    refine lv_iconst (v := (1 : Int32)) hx hb dX3_put_22 (by decide) ?_
    refine lv_icmp_ne (tgt := 37) hx hb dX3_put_23 (by decide) (fun c23 => ?_) (fun c23 => ?_)
    · have h := h.1 c23
      refine lv_aload_n hx hb dX3_put_37 rfl (lv_at hl 0 rfl) ?_
      refine va_get (D := D) (ci := 3) (v := .ref (ad (17 + 2 * j))) (C := RX3) (T := TX3) (N := 3) hx hb ht tl_X3 hown hK hP (16 + 2 * j) (wxs q ad z hj) rfl 0 (by decide) (ht _ tw_fl_X3_9) (fun _ h9 => h9) rfl dX3_put_38 ?_
      refine lv_iload_n hx hb dX3_put_41 rfl (lv_at hl 1 rfl) ?_
      refine lv_iload_n hx hb dX3_put_42 rfl (lv_at hl 2 rfl) ?_
      have hi43 := h.1
      have h := h.2
      refine g_iast (Wd := WX q ad) (z := z) hx hb hK hP (hD z) hS (17 + 2 * j) (wxs1 q ad z hj) rfl (axs1 q ad z hj) hi43 dX3_put_43 (fun z43 H locs hz43 hP hS => ?_)
      have h := h z43 hz43
      exact g_rv hG hx hb hr hlocks hE hP hS h dX3_put_44
    · have h := h.2 c23
      refine lv_aload_n hx hb dX3_put_26 rfl (lv_at hl 0 rfl) ?_
      refine va_get (D := D) (ci := 3) (v := .ref (ad (17 + 2 * j))) (C := RX3) (T := TX3) (N := 3) hx hb ht tl_X3 hown hK hP (16 + 2 * j) (wxs q ad z hj) rfl 0 (by decide) (ht _ tw_fl_X3_9) (fun _ h9 => h9) rfl dX3_put_27 ?_
      refine lv_iload_n hx hb dX3_put_30 rfl (lv_at hl 1 rfl) ?_
      refine lv_iload_n hx hb dX3_put_31 rfl (lv_at hl 2 rfl) ?_
      refine lv_i2s hx hb dX3_put_32 rfl ?_
      have hi33 := h.1
      have h := h.2
      refine g_iast (Wd := WX q ad) (z := z) hx hb hK hP (hD z) hS (17 + 2 * j) (wxs1 q ad z hj) rfl (axs1 q ad z hj) hi33 dX3_put_33 (fun z33 H locs hz33 hP hS => ?_)
      have h := h z33 hz33
      refine lv_goto (tgt := 44) hx hb dX3_put_34 (by decide) ?_
      exact g_rv hG hx hb hr hlocks hE hP hS h dX3_put_44
  · have h := h.2 c4
    refine lv_aload_n hx hb dX3_put_7 rfl (lv_at hl 0 rfl) ?_
    refine va_get (D := D) (ci := 3) (v := .ref (ad (17 + 2 * j))) (C := RX3) (T := TX3) (N := 3) hx hb ht tl_X3 hown hK hP (16 + 2 * j) (wxs q ad z hj) rfl 0 (by decide) (ht _ tw_fl_X3_9) (fun _ h9 => h9) rfl dX3_put_8 ?_
    refine lv_iload_n hx hb dX3_put_11 rfl (lv_at hl 1 rfl) ?_
    refine lv_iload_n hx hb dX3_put_12 rfl (lv_at hl 2 rfl) ?_
    refine lv_i2b hx hb dX3_put_13 rfl ?_
    have hi14 := h.1
    have h := h.2
    refine g_iast (Wd := WX q ad) (z := z) hx hb hK hP (hD z) hS (17 + 2 * j) (wxs1 q ad z hj) rfl (axs1 q ad z hj) hi14 dX3_put_14 (fun z14 H locs hz14 hP hS => ?_)
    have h := h z14 hz14
    refine lv_goto (tgt := 44) hx hb dX3_put_15 (by decide) ?_
    exact g_rv hG hx hb hr hlocks hE hP hS h dX3_put_44
def pX4_append (z : MX) (x1 : Int32) (x2 : Int32) (x3 : Int32) (post : Int32 → MX → Prop) : Prop :=
  (((z.1 33 6) < (6 : Int32) →
    vp_in (z.1 33 6) 6 ∧
    ∀ z20 : MX, z20 = mw z 34 (Int32.toNatClampNeg (z.1 33 6)) x1 →
    vp_in (z20.1 33 6) 6 ∧
    ∀ z30 : MX, z30 = mw z20 35 (Int32.toNatClampNeg (z20.1 33 6)) x2 →
    vp_in (z30.1 33 6) 6 ∧
    ∀ z40 : MX, z40 = mw z30 36 (Int32.toNatClampNeg (z30.1 33 6)) x3 →
    ∀ z48 : MX, z48 = mw z40 33 6 ((z40.1 33 6) + (1 : Int32)) →
    (((1 : Int32) = 0 ∨ (1 : Int32) = 1) ∧ post (1 : Int32) z48)) ∧
  (¬ (z.1 33 6) < (6 : Int32) →
    (((0 : Int32) = 0 ∨ (0 : Int32) = 1) ∧ post (0 : Int32) z)))
set_option maxHeartbeats 4000000 in
set_option maxRecDepth 100000 in
theorem kX4_append (l : Launch) (D : va_G) (q : Nat → ClassId) (ad : Nat → Nat) (A : Nat → Prop) (hD : ∀ z, va_D A (WX q ad z)) (z : MX) (x1 : Int32) (x2 : Int32) (x3 : Int32) (post : Int32 → MX → Prop) (h : pX4_append  z x1 x2 x3 post) : Met l yX4_append (cW yX4_append cX4_append 4 (some .boolean)) ({ frames := 0, cells := 0, slots := 0, locals := 0 } : Room) (va_Pc [.ref (ad 33), .int x1, .int x2, .int x3] ((gB D vwCl (WX q ad) (xE D q ad A)) z)) (va_Qi post (gB D vwCl (WX q ad) (xE D q ad A)) A) 0 0 A := by
  refine Met.ofW (cc := cX4_append) (maxL := 4) (ret := (some .boolean)) (by decide) rfl ?_
  intro p e s m args below meth c s₁ B hml hv
  obtain ⟨hargs, hP, hE⟩ := hv
  have hx := B.exec
  have hb := B.bytes
  have hr := B.returns
  have hts := atoms_spec (ws := (cW yX4_append cX4_append 4 (some .boolean))) B.pre
  have ht : ∀ w ∈ tG, w.before args s = true := fun w h => hts w (List.mem_cons_of_mem _ h)
  have hown : s.vm.findClass RX4 = some m.cls := findClass_of_methodNamed B.named
  have hlocks := B.notSynchronized
  have hK := hE.1
  have hG := xE_G D q ad A
  have S : CallFix p m c cX4_append 4 s args tG RX4 := ⟨hx, hb, hml, hown, ht⟩
  have hS : va_S A s.heap s.heap [] := va_S.rf
  refine g_entry (vs := [.ref (ad 33), .int x1, .int x2, .int x3]) hargs (Nat.le_of_ble_eq_true rfl) (fun ls hl => ?_)
  have hl : lv_has ls 4 [(0, .ref (ad 33)), (1, .int x1), (2, .int x2), (3, .int x3)] := hl
  unfold pX4_append at h
  refine lv_aload_n hx hb dX4_append_0 rfl (lv_at hl 0 rfl) ?_
  refine va_get (D := D) (ci := 4) (v := .int (z.1 33 6)) (C := RX4) (T := TX4) (N := 8) hx hb ht tl_X4 hown hK hP 33 (wx_33 q ad z) rfl 6 (by decide) (ht _ tw_fl_X4_32) (fun _ h9 => h9) rfl dX4_append_1 ?_
  refine lv_bipush (v := (6 : Int32)) hx hb dX4_append_4 (by decide) ?_
  refine lv_icmp_lt (tgt := 11) hx hb dX4_append_6 (by decide) (fun c6 => ?_) (fun c6 => ?_)
  · have h := h.1 c6
    refine lv_aload_n hx hb dX4_append_11 rfl (lv_at hl 0 rfl) ?_
    refine va_get (D := D) (ci := 4) (v := .ref (ad 34)) (C := RX4) (T := TX4) (N := 8) hx hb ht tl_X4 hown hK hP 33 (wx_33 q ad z) rfl 2 (by decide) (ht _ tw_fl_X4_9) (fun _ h9 => h9) rfl dX4_append_12 ?_
    refine lv_aload_n hx hb dX4_append_15 rfl (lv_at hl 0 rfl) ?_
    refine va_get (D := D) (ci := 4) (v := .int (z.1 33 6)) (C := RX4) (T := TX4) (N := 8) hx hb ht tl_X4 hown hK hP 33 (wx_33 q ad z) rfl 6 (by decide) (ht _ tw_fl_X4_32) (fun _ h9 => h9) rfl dX4_append_16 ?_
    refine lv_iload_n hx hb dX4_append_19 rfl (lv_at hl 1 rfl) ?_
    have hi20 := h.1
    have h := h.2
    refine g_iast (Wd := WX q ad) (z := z) hx hb hK hP (hD z) hS 34 (wx_34 q ad z) rfl (ax_34 q ad z) hi20 dX4_append_20 (fun z20 H locs hz20 hP hS => ?_)
    have h := h z20 hz20
    refine lv_aload_n hx hb dX4_append_21 rfl (lv_at hl 0 rfl) ?_
    refine va_get (D := D) (ci := 4) (v := .ref (ad 35)) (C := RX4) (T := TX4) (N := 8) hx hb ht tl_X4 hown hK hP 33 (wx_33 q ad z20) rfl 3 (by decide) (ht _ tw_fl_X4_15) (fun _ h9 => h9) rfl dX4_append_22 ?_
    refine lv_aload_n hx hb dX4_append_25 rfl (lv_at hl 0 rfl) ?_
    refine va_get (D := D) (ci := 4) (v := .int (z20.1 33 6)) (C := RX4) (T := TX4) (N := 8) hx hb ht tl_X4 hown hK hP 33 (wx_33 q ad z20) rfl 6 (by decide) (ht _ tw_fl_X4_32) (fun _ h9 => h9) rfl dX4_append_26 ?_
    refine lv_iload_n hx hb dX4_append_29 rfl (lv_at hl 2 rfl) ?_
    have hi30 := h.1
    have h := h.2
    refine g_iast (Wd := WX q ad) (z := z20) hx hb hK hP (hD z20) hS 35 (wx_35 q ad z20) rfl (ax_35 q ad z20) hi30 dX4_append_30 (fun z30 H locs hz30 hP hS => ?_)
    have h := h z30 hz30
    refine lv_aload_n hx hb dX4_append_31 rfl (lv_at hl 0 rfl) ?_
    refine va_get (D := D) (ci := 4) (v := .ref (ad 36)) (C := RX4) (T := TX4) (N := 8) hx hb ht tl_X4 hown hK hP 33 (wx_33 q ad z30) rfl 4 (by decide) (ht _ tw_fl_X4_18) (fun _ h9 => h9) rfl dX4_append_32 ?_
    refine lv_aload_n hx hb dX4_append_35 rfl (lv_at hl 0 rfl) ?_
    refine va_get (D := D) (ci := 4) (v := .int (z30.1 33 6)) (C := RX4) (T := TX4) (N := 8) hx hb ht tl_X4 hown hK hP 33 (wx_33 q ad z30) rfl 6 (by decide) (ht _ tw_fl_X4_32) (fun _ h9 => h9) rfl dX4_append_36 ?_
    refine lv_iload_n hx hb dX4_append_39 rfl (lv_at hl 3 rfl) ?_
    have hi40 := h.1
    have h := h.2
    refine g_iast (Wd := WX q ad) (z := z30) hx hb hK hP (hD z30) hS 36 (wx_36 q ad z30) rfl (ax_36 q ad z30) hi40 dX4_append_40 (fun z40 H locs hz40 hP hS => ?_)
    have h := h z40 hz40
    refine lv_aload_n hx hb dX4_append_41 rfl (lv_at hl 0 rfl) ?_
    refine lv_dup hx hb dX4_append_42 rfl ?_
    refine va_get (D := D) (ci := 4) (v := .int (z40.1 33 6)) (C := RX4) (T := TX4) (N := 8) hx hb ht tl_X4 hown hK hP 33 (wx_33 q ad z40) rfl 6 (by decide) (ht _ tw_fl_X4_32) (fun _ h9 => h9) rfl dX4_append_43 ?_
    refine lv_iconst (v := (1 : Int32)) hx hb dX4_append_46 (by decide) ?_
    refine lv_iadd hx hb dX4_append_47 ?_
    refine g_put (D := D) (Wd := WX q ad) (z := z40) (ci := 4) (v := .int ((z40.1 33 6) + (1 : Int32))) (ty := .int) (C := RX4) (T := TX4) (N := 8) hx hb ht tl_X4 tyX4 tyX4_ok nmX4 hown hK hP (hD z40) hS 33 (wx_33 q ad z40) rfl 6 (by decide) (ht _ tw_fl_X4_32) (fun _ h9 => h9) rfl rfl rfl rfl (Nat.le_of_ble_eq_true rfl) ((px_33_6 q ad z40) ((z40.1 33 6) + (1 : Int32))) dX4_append_48 (fun z48 H locs hz48 hP hS => ?_)
    have h := h z48 hz48
    refine lv_iconst (v := (1 : Int32)) hx hb dX4_append_51 (by decide) ?_
    exact g_rz hG hx hb hr hlocks hE hP hS h dX4_append_52
  · have h := h.2 c6
    refine lv_iconst (v := (0 : Int32)) hx hb dX4_append_9 (by decide) ?_
    exact g_rz hG hx hb hr hlocks hE hP hS h dX4_append_10
def pX4_runIsAsSeen_b45 (rec2 : MX → Int32 → Int32 → Prop) (post : Int32 → MX → Prop) (z : MX) (x1 : Int32) (x2 : Int32) : Prop :=
    ∀ x2_45 : Int32, x2_45 = x2 + (1 : Int32) →
    rec2 z x1 x2_45
def pX4_runIsAsSeen_l2 (rec2 : MX → Int32 → Int32 → Prop) (post : Int32 → MX → Prop) (z : MX) (x1 : Int32) (x2 : Int32) : Prop :=
    (((z.1 33 6) ≤ x2 →
      (((1 : Int32) = 0 ∨ (1 : Int32) = 1) ∧ post (1 : Int32) z)) ∧
    (¬ (z.1 33 6) ≤ x2 →
      vp_in x2 6 ∧
      ((¬ (z.1 34 (Int32.toNatClampNeg x2)) = x1 →
        pX4_runIsAsSeen_b45  rec2 post z x1 x2) ∧
      ((z.1 34 (Int32.toNatClampNeg x2)) = x1 →
        vp_in x2 6 ∧
        pX2_spotBehind z x1 (z.1 35 (Int32.toNatClampNeg x2)) (fun (r31 : Int32) (z31 : MX) =>
        vp_in x2 6 ∧
        ((r31 = (z31.1 36 (Int32.toNatClampNeg x2)) →
          pX4_runIsAsSeen_b45  rec2 post z31 x1 x2) ∧
        (¬ r31 = (z31.1 36 (Int32.toNatClampNeg x2)) →
          (((0 : Int32) = 0 ∨ (0 : Int32) = 1) ∧ post (0 : Int32) z31))))))))
def pX4_runIsAsSeen_L2 (post : Int32 → MX → Prop) : Nat → MX → Int32 → Int32 → Prop
  | 0 => fun _ _ _ => False
  | n + 1 => fun z x1 x2 => pX4_runIsAsSeen_l2  (pX4_runIsAsSeen_L2  post n) post z x1 x2
def pX4_runIsAsSeen (z : MX) (x1 : Int32) (post : Int32 → MX → Prop) : Prop :=
  ∃ n, pX4_runIsAsSeen_L2  post n z x1 (0 : Int32)
set_option maxHeartbeats 4000000 in
set_option maxRecDepth 100000 in
theorem kX4_runIsAsSeen (l : Launch) (D : va_G) (q : Nat → ClassId) (ad : Nat → Nat) (A : Nat → Prop) (hD : ∀ z, va_D A (WX q ad z)) (z : MX) (x1 : Int32) (post : Int32 → MX → Prop) (h : pX4_runIsAsSeen  z x1 post) : Met l yX4_runIsAsSeen (cW yX4_runIsAsSeen cX4_runIsAsSeen 3 (some .boolean)) ({ frames := 2, cells := 0, slots := 0, locals := 43 } : Room) (va_Pc [.ref (ad 33), .int x1] ((gB D vwCl (WX q ad) (xE D q ad A)) z)) (va_Qi post (gB D vwCl (WX q ad) (xE D q ad A)) A) 0 0 A := by
  refine Met.ofW (cc := cX4_runIsAsSeen) (maxL := 3) (ret := (some .boolean)) (by decide) rfl ?_
  intro p e s m args below meth c s₁ B hml hv
  obtain ⟨hargs, hP, hE⟩ := hv
  have hx := B.exec
  have hb := B.bytes
  have hr := B.returns
  have hts := atoms_spec (ws := (cW yX4_runIsAsSeen cX4_runIsAsSeen 3 (some .boolean))) B.pre
  have ht : ∀ w ∈ tG, w.before args s = true := fun w h => hts w (List.mem_cons_of_mem _ h)
  have hown : s.vm.findClass RX4 = some m.cls := findClass_of_methodNamed B.named
  have hlocks := B.notSynchronized
  have hK := hE.1
  have hG := xE_G D q ad A
  have S : CallFix p m c cX4_runIsAsSeen 3 s args tG RX4 := ⟨hx, hb, hml, hown, ht⟩
  have hS : va_S A s.heap s.heap [] := va_S.rf
  have B45 : ∀ (rec2 : MX → Int32 → Int32 → Prop) (hrec2 : ∀ (z : MX) (x1 : Int32) (x2 : Int32) (H : Heap) (locs : List Loc) (ls : Array Slot), rec2 z x1 x2 → va_P D vwCl (WX q ad z) H → va_S A s.heap H locs → lv_has ls 3 [(0, .ref (ad 33)), (1, .int x1), (2, .int x2)] → W p l e (headSpec (cW yX4_runIsAsSeen cX4_runIsAsSeen 3 (some .boolean)) ({ frames := 2, cells := 0, slots := 0, locals := 43 } : Room)).room s m args below meth c H locs 0 0 (MQ below (va_Qi post (gB D vwCl (WX q ad) (xE D q ad A)) A) args s 0 0 A) (F0 m 2 ls [])) (z : MX) (x1 : Int32) (x2 : Int32) (H : Heap) (locs : List Loc) (ls : Array Slot), pX4_runIsAsSeen_b45  rec2 post z x1 x2 → va_P D vwCl (WX q ad z) H → va_S A s.heap H locs → lv_has ls 3 [(0, .ref (ad 33)), (1, .int x1), (2, .int x2)] → W p l e (headSpec (cW yX4_runIsAsSeen cX4_runIsAsSeen 3 (some .boolean)) ({ frames := 2, cells := 0, slots := 0, locals := 43 } : Room)).room s m args below meth c H locs 0 0 (MQ below (va_Qi post (gB D vwCl (WX q ad) (xE D q ad A)) A) args s 0 0 A) (F0 m 45 ls []) := by
    intro rec2 hrec2 z x1 x2 H locs ls h hP hS hl
    unfold pX4_runIsAsSeen_b45 at h
    obtain ⟨x2_45, ex2_45⟩ : ∃ w : Int32, w = x2 + (1 : Int32) := ⟨_, rfl⟩
    have h := h x2_45 ex2_45
    refine lv_iinc (v := x2_45) (lv' := [(2, .int x2_45), (0, .ref (ad 33)), (1, .int x1)]) hx hb dX4_runIsAsSeen_45 hl (k := 2) rfl (by rw [ex2_45]; rfl) (by decide) rfl (fun ls hl => ?_)
    refine lv_goto (tgt := 2) hx hb dX4_runIsAsSeen_48 (by decide) ?_
    exact hrec2 z x1 x2_45 _ _ _ h hP hS (lv_sub hl [1, 2, 0] rfl)
  have B2 : ∀ (rec2 : MX → Int32 → Int32 → Prop) (hrec2 : ∀ (z : MX) (x1 : Int32) (x2 : Int32) (H : Heap) (locs : List Loc) (ls : Array Slot), rec2 z x1 x2 → va_P D vwCl (WX q ad z) H → va_S A s.heap H locs → lv_has ls 3 [(0, .ref (ad 33)), (1, .int x1), (2, .int x2)] → W p l e (headSpec (cW yX4_runIsAsSeen cX4_runIsAsSeen 3 (some .boolean)) ({ frames := 2, cells := 0, slots := 0, locals := 43 } : Room)).room s m args below meth c H locs 0 0 (MQ below (va_Qi post (gB D vwCl (WX q ad) (xE D q ad A)) A) args s 0 0 A) (F0 m 2 ls [])) (z : MX) (x1 : Int32) (x2 : Int32) (H : Heap) (locs : List Loc) (ls : Array Slot), pX4_runIsAsSeen_l2  rec2 post z x1 x2 → va_P D vwCl (WX q ad z) H → va_S A s.heap H locs → lv_has ls 3 [(0, .ref (ad 33)), (1, .int x1), (2, .int x2)] → W p l e (headSpec (cW yX4_runIsAsSeen cX4_runIsAsSeen 3 (some .boolean)) ({ frames := 2, cells := 0, slots := 0, locals := 43 } : Room)).room s m args below meth c H locs 0 0 (MQ below (va_Qi post (gB D vwCl (WX q ad) (xE D q ad A)) A) args s 0 0 A) (F0 m 2 ls []) := by
    intro rec2 hrec2 z x1 x2 H locs ls h hP hS hl
    unfold pX4_runIsAsSeen_l2 at h
    refine lv_iload_n hx hb dX4_runIsAsSeen_2 rfl (lv_at hl 2 rfl) ?_
    refine lv_aload_n hx hb dX4_runIsAsSeen_3 rfl (lv_at hl 0 rfl) ?_
    refine va_get (D := D) (ci := 4) (v := .int (z.1 33 6)) (C := RX4) (T := TX4) (N := 8) hx hb ht tl_X4 hown hK hP 33 (wx_33 q ad z) rfl 6 (by decide) (ht _ tw_fl_X4_32) (fun _ h9 => h9) rfl dX4_runIsAsSeen_4 ?_
    refine lv_icmp_ge (tgt := 51) hx hb dX4_runIsAsSeen_7 (by decide) (fun c7 => ?_) (fun c7 => ?_)
    · have h := h.1 c7
      refine lv_iconst (v := (1 : Int32)) hx hb dX4_runIsAsSeen_51 (by decide) ?_
      exact g_rz hG hx hb hr hlocks hE hP hS h dX4_runIsAsSeen_52
    · have h := h.2 c7
      refine lv_aload_n hx hb dX4_runIsAsSeen_10 rfl (lv_at hl 0 rfl) ?_
      refine va_get (D := D) (ci := 4) (v := .ref (ad 34)) (C := RX4) (T := TX4) (N := 8) hx hb ht tl_X4 hown hK hP 33 (wx_33 q ad z) rfl 2 (by decide) (ht _ tw_fl_X4_9) (fun _ h9 => h9) rfl dX4_runIsAsSeen_11 ?_
      refine lv_iload_n hx hb dX4_runIsAsSeen_14 rfl (lv_at hl 2 rfl) ?_
      have hi15 := h.1
      have h := h.2
      refine va_iald hx hb hK hP 34 0 (wx_34 q ad z) rfl hi15 dX4_runIsAsSeen_15 ?_
      refine lv_iload_n hx hb dX4_runIsAsSeen_16 rfl (lv_at hl 1 rfl) ?_
      refine lv_icmp_ne (tgt := 45) hx hb dX4_runIsAsSeen_17 (by decide) (fun c17 => ?_) (fun c17 => ?_)
      · have h := h.1 c17
        exact B45 rec2 hrec2 z x1 x2 _ _ _ h hP hS (lv_sub hl [0, 1, 2] rfl)
      · have h := h.2 c17
        refine lv_aload_n hx hb dX4_runIsAsSeen_20 rfl (lv_at hl 0 rfl) ?_
        refine va_get (D := D) (ci := 4) (v := .ref (ad 26)) (C := RX4) (T := TX4) (N := 8) hx hb ht tl_X4 hown hK hP 33 (wx_33 q ad z) rfl 1 (by decide) (ht _ tw_fl_X4_28) (fun _ h9 => h9) rfl dX4_runIsAsSeen_21 ?_
        refine lv_iload_n hx hb dX4_runIsAsSeen_24 rfl (lv_at hl 1 rfl) ?_
        refine lv_aload_n hx hb dX4_runIsAsSeen_25 rfl (lv_at hl 0 rfl) ?_
        refine va_get (D := D) (ci := 4) (v := .ref (ad 35)) (C := RX4) (T := TX4) (N := 8) hx hb ht tl_X4 hown hK hP 33 (wx_33 q ad z) rfl 3 (by decide) (ht _ tw_fl_X4_15) (fun _ h9 => h9) rfl dX4_runIsAsSeen_26 ?_
        refine lv_iload_n hx hb dX4_runIsAsSeen_29 rfl (lv_at hl 2 rfl) ?_
        have hi30 := h.1
        have h := h.2
        refine va_iald hx hb hK hP 35 0 (wx_35 q ad z) rfl hi30 dX4_runIsAsSeen_30 ?_
        refine g_cVi (Wd := WX q ad) (z := z) (As := [.int x1, .int (z.1 35 (Int32.toNatClampNeg x2))]) (rest := []) hG S (kX2_spotBehind l D q ad A hD z x1 (z.1 35 (Int32.toNatClampNeg x2)) _ h) (cwV 2 ht (cW_V (fun _ h => h) tw_co_X2_spotBehind tw_ml_X4_55 tw_im_X2_spotBehind tw_se_X2_spotBehind tw_in_X2) rfl rfl rfl (by decide +kernel) ⟨by decide, by decide⟩) (va_recv hK hP (ci := 2) (q0 := 26) rfl (wx_26 q ad z)) hE hP hS rfl hl.1 rfl (Nat.le_of_ble_eq_true rfl) dX4_runIsAsSeen_31 ⟨Nat.zero_le _, Nat.zero_le _⟩ (fun r31 z31 H locs h hP hS => ?_)
        refine lv_aload_n hx hb dX4_runIsAsSeen_34 rfl (lv_at hl 0 rfl) ?_
        refine va_get (D := D) (ci := 4) (v := .ref (ad 36)) (C := RX4) (T := TX4) (N := 8) hx hb ht tl_X4 hown hK hP 33 (wx_33 q ad z31) rfl 4 (by decide) (ht _ tw_fl_X4_18) (fun _ h9 => h9) rfl dX4_runIsAsSeen_35 ?_
        refine lv_iload_n hx hb dX4_runIsAsSeen_38 rfl (lv_at hl 2 rfl) ?_
        have hi39 := h.1
        have h := h.2
        refine va_iald hx hb hK hP 36 0 (wx_36 q ad z31) rfl hi39 dX4_runIsAsSeen_39 ?_
        refine lv_icmp_eq (tgt := 45) hx hb dX4_runIsAsSeen_40 (by decide) (fun c40 => ?_) (fun c40 => ?_)
        · have h := h.1 c40
          exact B45 rec2 hrec2 z31 x1 x2 _ _ _ h hP hS (lv_sub hl [0, 1, 2] rfl)
        · have h := h.2 c40
          refine lv_iconst (v := (0 : Int32)) hx hb dX4_runIsAsSeen_43 (by decide) ?_
          exact g_rz hG hx hb hr hlocks hE hP hS h dX4_runIsAsSeen_44
  have L2 : ∀ (n : Nat) (z : MX) (x1 : Int32) (x2 : Int32) (H : Heap) (locs : List Loc) (ls : Array Slot), pX4_runIsAsSeen_L2  post n z x1 x2 → va_P D vwCl (WX q ad z) H → va_S A s.heap H locs → lv_has ls 3 [(0, .ref (ad 33)), (1, .int x1), (2, .int x2)] → W p l e (headSpec (cW yX4_runIsAsSeen cX4_runIsAsSeen 3 (some .boolean)) ({ frames := 2, cells := 0, slots := 0, locals := 43 } : Room)).room s m args below meth c H locs 0 0 (MQ below (va_Qi post (gB D vwCl (WX q ad) (xE D q ad A)) A) args s 0 0 A) (F0 m 2 ls []) := by
    intro n
    induction n with
    | zero =>
      intro z x1 x2 H locs ls h
      exact False.elim h
    | succ n ih =>
      intro z x1 x2 H locs ls h hP hS hl
      exact B2 (pX4_runIsAsSeen_L2  post n) ih z x1 x2 H locs ls h hP hS hl
  refine g_entry (vs := [.ref (ad 33), .int x1]) hargs (Nat.le_of_ble_eq_true rfl) (fun ls hl => ?_)
  have hl : lv_has ls 3 [(0, .ref (ad 33)), (1, .int x1)] := hl
  unfold pX4_runIsAsSeen at h
  refine lv_iconst (v := (0 : Int32)) hx hb dX4_runIsAsSeen_0 (by decide) ?_
  refine lv_istore_n (lv' := [(2, .int (0 : Int32)), (0, .ref (ad 33)), (1, .int x1)]) hx hb dX4_runIsAsSeen_1 rfl hl (by decide) rfl (fun ls hl => ?_)
  obtain ⟨n, h⟩ := h
  exact L2 n z x1 (0 : Int32) _ _ _ h hP hS (lv_sub hl [1, 2, 0] rfl)
def pX4_fittingFaiths_l59 (i : Nat) (rec13 : MX → Int32 → Int32 → Int32 → Prop) (rec59 : MX → Int32 → Int32 → Int32 → Int32 → Prop) (post : Int32 → MX → Prop) (z : MX) (x2 : Int32) (x3 : Int32) (x4 : Int32) (x5 : Int32) : Prop :=
    (((120 : Int32) ≤ x5 →
      ∀ x4_95 : Int32, x4_95 = x4 + (1 : Int32) →
      rec13 z x2 x3 x4_95) ∧
    (¬ (120 : Int32) ≤ x5 →
      pX2_spotBehind z x2 x5 (fun (r85 : Int32) (z85 : MX) =>
      vp_in ((x4 * (120 : Int32)) + x5) 480 ∧
      ∀ z88 : MX, z88 = mw z85 37 (Int32.toNatClampNeg ((x4 * (120 : Int32)) + x5)) r85 →
      ∀ x5_89 : Int32, x5_89 = x5 + (1 : Int32) →
      rec59 z88 x2 x3 x4 x5_89)))
def pX4_fittingFaiths_L59 (i : Nat) (rec13 : MX → Int32 → Int32 → Int32 → Prop) (post : Int32 → MX → Prop) : Nat → MX → Int32 → Int32 → Int32 → Int32 → Prop
  | 0 => fun _ _ _ _ _ => False
  | n + 1 => fun z x2 x3 x4 x5 => pX4_fittingFaiths_l59 i rec13 (pX4_fittingFaiths_L59 i rec13 post n) post z x2 x3 x4 x5
def pX4_fittingFaiths_b56 (i : Nat) (rec13 : MX → Int32 → Int32 → Int32 → Prop) (post : Int32 → MX → Prop) (z : MX) (x2 : Int32) (x3 : Int32) (x4 : Int32) : Prop :=
    ∃ n, pX4_fittingFaiths_L59 i rec13 post n z x2 x3 x4 (0 : Int32)
def pX4_fittingFaiths_l13 (i : Nat) (rec13 : MX → Int32 → Int32 → Int32 → Prop) (post : Int32 → MX → Prop) (z : MX) (x2 : Int32) (x3 : Int32) (x4 : Int32) : Prop :=
    (((4 : Int32) ≤ x4 →
      post x3 z) ∧
    (¬ (4 : Int32) ≤ x4 →
      pX0_putFact 1 z x2 (0 : Int32) x4 (fun (z27 : MX) =>
      pX2_play 1 z27 (fun (z38 : MX) =>
      pX4_runIsAsSeen z38 x2 (fun (r43 : Int32) (z43 : MX) =>
      ((r43 = 0 →
        pX4_fittingFaiths_b56 i rec13 post z43 x2 x3 x4) ∧
      (¬ r43 = 0 →
        ∀ x3_55 : Int32, x3_55 = x3 ||| ((1 : Int32) <<< (x4 &&& 31)) →
        pX4_fittingFaiths_b56 i rec13 post z43 x2 x3_55 x4)))))))
def pX4_fittingFaiths_L13 (i : Nat) (post : Int32 → MX → Prop) : Nat → MX → Int32 → Int32 → Int32 → Prop
  | 0 => fun _ _ _ _ => False
  | n + 1 => fun z x2 x3 x4 => pX4_fittingFaiths_l13 i (pX4_fittingFaiths_L13 i post n) post z x2 x3 x4
def pX4_fittingFaiths (i : Nat) (z : MX) (x2 : Int32) (post : Int32 → MX → Prop) : Prop :=
  pX0_copyFrom 1 i z (fun (z5 : MX) =>
  ∃ n, pX4_fittingFaiths_L13 i post n z5 x2 (0 : Int32) (0 : Int32))
set_option maxHeartbeats 4000000 in
set_option maxRecDepth 100000 in
theorem kX4_fittingFaiths (l : Launch) (D : va_G) (q : Nat → ClassId) (ad : Nat → Nat) (A : Nat → Prop) (hD : ∀ z, va_D A (WX q ad z)) (i : Nat) (hi : i < 4) (z : MX) (x2 : Int32) (post : Int32 → MX → Prop) (h : pX4_fittingFaiths i z x2 post) : Met l yX4_fittingFaiths (cW yX4_fittingFaiths cX4_fittingFaiths 6 (some .int)) ({ frames := 5, cells := 0, slots := 0, locals := 121 } : Room) (va_Pc [.ref (ad 33), .ref (ad (4 * i)), .int x2] ((gB D vwCl (WX q ad) (xE D q ad A)) z)) (va_Qi post (gB D vwCl (WX q ad) (xE D q ad A)) A) 0 0 A := by
  refine Met.ofW (cc := cX4_fittingFaiths) (maxL := 6) (ret := (some .int)) (by decide) rfl ?_
  intro p e s m args below meth c s₁ B hml hv
  obtain ⟨hargs, hP, hE⟩ := hv
  have hx := B.exec
  have hb := B.bytes
  have hr := B.returns
  have hts := atoms_spec (ws := (cW yX4_fittingFaiths cX4_fittingFaiths 6 (some .int))) B.pre
  have ht : ∀ w ∈ tG, w.before args s = true := fun w h => hts w (List.mem_cons_of_mem _ h)
  have hown : s.vm.findClass RX4 = some m.cls := findClass_of_methodNamed B.named
  have hlocks := B.notSynchronized
  have hK := hE.1
  have hG := xE_G D q ad A
  have S : CallFix p m c cX4_fittingFaiths 6 s args tG RX4 := ⟨hx, hb, hml, hown, ht⟩
  have hS : va_S A s.heap s.heap [] := va_S.rf
  have B59 : ∀ (rec13 : MX → Int32 → Int32 → Int32 → Prop) (rec59 : MX → Int32 → Int32 → Int32 → Int32 → Prop) (hrec13 : ∀ (z : MX) (x2 : Int32) (x3 : Int32) (x4 : Int32) (H : Heap) (locs : List Loc) (ls : Array Slot), rec13 z x2 x3 x4 → va_P D vwCl (WX q ad z) H → va_S A s.heap H locs → lv_has ls 6 [(0, .ref (ad 33)), (2, .int x2), (3, .int x3), (4, .int x4)] → W p l e (headSpec (cW yX4_fittingFaiths cX4_fittingFaiths 6 (some .int)) ({ frames := 5, cells := 0, slots := 0, locals := 121 } : Room)).room s m args below meth c H locs 0 0 (MQ below (va_Qi post (gB D vwCl (WX q ad) (xE D q ad A)) A) args s 0 0 A) (F0 m 13 ls [])) (hrec59 : ∀ (z : MX) (x2 : Int32) (x3 : Int32) (x4 : Int32) (x5 : Int32) (H : Heap) (locs : List Loc) (ls : Array Slot), rec59 z x2 x3 x4 x5 → va_P D vwCl (WX q ad z) H → va_S A s.heap H locs → lv_has ls 6 [(0, .ref (ad 33)), (2, .int x2), (3, .int x3), (4, .int x4), (5, .int x5)] → W p l e (headSpec (cW yX4_fittingFaiths cX4_fittingFaiths 6 (some .int)) ({ frames := 5, cells := 0, slots := 0, locals := 121 } : Room)).room s m args below meth c H locs 0 0 (MQ below (va_Qi post (gB D vwCl (WX q ad) (xE D q ad A)) A) args s 0 0 A) (F0 m 59 ls [])) (z : MX) (x2 : Int32) (x3 : Int32) (x4 : Int32) (x5 : Int32) (H : Heap) (locs : List Loc) (ls : Array Slot), pX4_fittingFaiths_l59 i rec13 rec59 post z x2 x3 x4 x5 → va_P D vwCl (WX q ad z) H → va_S A s.heap H locs → lv_has ls 6 [(0, .ref (ad 33)), (2, .int x2), (3, .int x3), (4, .int x4), (5, .int x5)] → W p l e (headSpec (cW yX4_fittingFaiths cX4_fittingFaiths 6 (some .int)) ({ frames := 5, cells := 0, slots := 0, locals := 121 } : Room)).room s m args below meth c H locs 0 0 (MQ below (va_Qi post (gB D vwCl (WX q ad) (xE D q ad A)) A) args s 0 0 A) (F0 m 59 ls []) := by
    intro rec13 rec59 hrec13 hrec59 z x2 x3 x4 x5 H locs ls h hP hS hl
    unfold pX4_fittingFaiths_l59 at h
    refine lv_iload hx hb dX4_fittingFaiths_59 (lv_at hl 4 rfl) ?_
    refine lv_bipush (v := (120 : Int32)) hx hb dX4_fittingFaiths_61 (by decide) ?_
    refine lv_icmp_ge (tgt := 95) hx hb dX4_fittingFaiths_63 (by decide) (fun c63 => ?_) (fun c63 => ?_)
    · have h := h.1 c63
      obtain ⟨x4_95, ex4_95⟩ : ∃ w : Int32, w = x4 + (1 : Int32) := ⟨_, rfl⟩
      have h := h x4_95 ex4_95
      refine lv_iinc (v := x4_95) (lv' := [(4, .int x4_95), (0, .ref (ad 33)), (2, .int x2), (3, .int x3), (5, .int x5)]) hx hb dX4_fittingFaiths_95 hl (k := 3) rfl (by rw [ex4_95]; rfl) (by decide) rfl (fun ls hl => ?_)
      refine lv_goto (tgt := 13) hx hb dX4_fittingFaiths_98 (by decide) ?_
      exact hrec13 z x2 x3 x4_95 _ _ _ h hP hS (lv_sub hl [1, 2, 3, 0] rfl)
    · have h := h.2 c63
      refine lv_aload_n hx hb dX4_fittingFaiths_66 rfl (lv_at hl 0 rfl) ?_
      refine va_get (D := D) (ci := 4) (v := .ref (ad 37)) (C := RX4) (T := TX4) (N := 8) hx hb ht tl_X4 hown hK hP 33 (wx_33 q ad z) rfl 5 (by decide) (ht _ tw_fl_X4_21) (fun _ h9 => h9) rfl dX4_fittingFaiths_67 ?_
      refine lv_iload hx hb dX4_fittingFaiths_70 (lv_at hl 3 rfl) ?_
      refine lv_bipush (v := (120 : Int32)) hx hb dX4_fittingFaiths_72 (by decide) ?_
      refine lv_imul hx hb dX4_fittingFaiths_74 ?_
      refine lv_iload hx hb dX4_fittingFaiths_75 (lv_at hl 4 rfl) ?_
      refine lv_iadd hx hb dX4_fittingFaiths_77 ?_
      refine lv_aload_n hx hb dX4_fittingFaiths_78 rfl (lv_at hl 0 rfl) ?_
      refine va_get (D := D) (ci := 4) (v := .ref (ad 26)) (C := RX4) (T := TX4) (N := 8) hx hb ht tl_X4 hown hK hP 33 (wx_33 q ad z) rfl 1 (by decide) (ht _ tw_fl_X4_28) (fun _ h9 => h9) rfl dX4_fittingFaiths_79 ?_
      refine lv_iload_n hx hb dX4_fittingFaiths_82 rfl (lv_at hl 1 rfl) ?_
      refine lv_iload hx hb dX4_fittingFaiths_83 (lv_at hl 4 rfl) ?_
      refine g_cVi (Wd := WX q ad) (z := z) (As := [.int x2, .int x5]) (rest := [.int ((x4 * (120 : Int32)) + x5), .ref (ad 37)]) hG S (kX2_spotBehind l D q ad A hD z x2 x5 _ h) (cwV 2 ht (cW_V (fun _ h => h) tw_co_X2_spotBehind tw_ml_X4_55 tw_im_X2_spotBehind tw_se_X2_spotBehind tw_in_X2) rfl rfl rfl (by decide +kernel) ⟨by decide, by decide⟩) (va_recv hK hP (ci := 2) (q0 := 26) rfl (wx_26 q ad z)) hE hP hS rfl hl.1 rfl (Nat.le_of_ble_eq_true rfl) dX4_fittingFaiths_85 ⟨Nat.zero_le _, Nat.zero_le _⟩ (fun r85 z85 H locs h hP hS => ?_)
      have hi88 := h.1
      have h := h.2
      refine g_iast (Wd := WX q ad) (z := z85) hx hb hK hP (hD z85) hS 37 (wx_37 q ad z85) rfl (ax_37 q ad z85) hi88 dX4_fittingFaiths_88 (fun z88 H locs hz88 hP hS => ?_)
      have h := h z88 hz88
      obtain ⟨x5_89, ex5_89⟩ : ∃ w : Int32, w = x5 + (1 : Int32) := ⟨_, rfl⟩
      have h := h x5_89 ex5_89
      refine lv_iinc (v := x5_89) (lv' := [(5, .int x5_89), (0, .ref (ad 33)), (2, .int x2), (3, .int x3), (4, .int x4)]) hx hb dX4_fittingFaiths_89 hl (k := 4) rfl (by rw [ex5_89]; rfl) (by decide) rfl (fun ls hl => ?_)
      refine lv_goto (tgt := 59) hx hb dX4_fittingFaiths_92 (by decide) ?_
      exact hrec59 z88 x2 x3 x4 x5_89 _ _ _ h hP hS (lv_sub hl [1, 2, 3, 4, 0] rfl)
  have L59 : ∀ (rec13 : MX → Int32 → Int32 → Int32 → Prop) (hrec13 : ∀ (z : MX) (x2 : Int32) (x3 : Int32) (x4 : Int32) (H : Heap) (locs : List Loc) (ls : Array Slot), rec13 z x2 x3 x4 → va_P D vwCl (WX q ad z) H → va_S A s.heap H locs → lv_has ls 6 [(0, .ref (ad 33)), (2, .int x2), (3, .int x3), (4, .int x4)] → W p l e (headSpec (cW yX4_fittingFaiths cX4_fittingFaiths 6 (some .int)) ({ frames := 5, cells := 0, slots := 0, locals := 121 } : Room)).room s m args below meth c H locs 0 0 (MQ below (va_Qi post (gB D vwCl (WX q ad) (xE D q ad A)) A) args s 0 0 A) (F0 m 13 ls [])) (n : Nat) (z : MX) (x2 : Int32) (x3 : Int32) (x4 : Int32) (x5 : Int32) (H : Heap) (locs : List Loc) (ls : Array Slot), pX4_fittingFaiths_L59 i rec13 post n z x2 x3 x4 x5 → va_P D vwCl (WX q ad z) H → va_S A s.heap H locs → lv_has ls 6 [(0, .ref (ad 33)), (2, .int x2), (3, .int x3), (4, .int x4), (5, .int x5)] → W p l e (headSpec (cW yX4_fittingFaiths cX4_fittingFaiths 6 (some .int)) ({ frames := 5, cells := 0, slots := 0, locals := 121 } : Room)).room s m args below meth c H locs 0 0 (MQ below (va_Qi post (gB D vwCl (WX q ad) (xE D q ad A)) A) args s 0 0 A) (F0 m 59 ls []) := by
    intro rec13 hrec13 n
    induction n with
    | zero =>
      intro z x2 x3 x4 x5 H locs ls h
      exact False.elim h
    | succ n ih =>
      intro z x2 x3 x4 x5 H locs ls h hP hS hl
      exact B59 rec13 (pX4_fittingFaiths_L59 i rec13 post n) hrec13 ih z x2 x3 x4 x5 H locs ls h hP hS hl
  have B56 : ∀ (rec13 : MX → Int32 → Int32 → Int32 → Prop) (hrec13 : ∀ (z : MX) (x2 : Int32) (x3 : Int32) (x4 : Int32) (H : Heap) (locs : List Loc) (ls : Array Slot), rec13 z x2 x3 x4 → va_P D vwCl (WX q ad z) H → va_S A s.heap H locs → lv_has ls 6 [(0, .ref (ad 33)), (2, .int x2), (3, .int x3), (4, .int x4)] → W p l e (headSpec (cW yX4_fittingFaiths cX4_fittingFaiths 6 (some .int)) ({ frames := 5, cells := 0, slots := 0, locals := 121 } : Room)).room s m args below meth c H locs 0 0 (MQ below (va_Qi post (gB D vwCl (WX q ad) (xE D q ad A)) A) args s 0 0 A) (F0 m 13 ls [])) (z : MX) (x2 : Int32) (x3 : Int32) (x4 : Int32) (H : Heap) (locs : List Loc) (ls : Array Slot), pX4_fittingFaiths_b56 i rec13 post z x2 x3 x4 → va_P D vwCl (WX q ad z) H → va_S A s.heap H locs → lv_has ls 6 [(0, .ref (ad 33)), (2, .int x2), (3, .int x3), (4, .int x4)] → W p l e (headSpec (cW yX4_fittingFaiths cX4_fittingFaiths 6 (some .int)) ({ frames := 5, cells := 0, slots := 0, locals := 121 } : Room)).room s m args below meth c H locs 0 0 (MQ below (va_Qi post (gB D vwCl (WX q ad) (xE D q ad A)) A) args s 0 0 A) (F0 m 56 ls []) := by
    intro rec13 hrec13 z x2 x3 x4 H locs ls h hP hS hl
    unfold pX4_fittingFaiths_b56 at h
    refine lv_iconst (v := (0 : Int32)) hx hb dX4_fittingFaiths_56 (by decide) ?_
    refine lv_istore (lv' := [(5, .int (0 : Int32)), (0, .ref (ad 33)), (2, .int x2), (3, .int x3), (4, .int x4)]) hx hb dX4_fittingFaiths_57 hl (by decide) rfl (fun ls hl => ?_)
    obtain ⟨n, h⟩ := h
    exact L59 rec13 hrec13 n z x2 x3 x4 (0 : Int32) _ _ _ h hP hS (lv_sub hl [1, 2, 3, 4, 0] rfl)
  have B13 : ∀ (rec13 : MX → Int32 → Int32 → Int32 → Prop) (hrec13 : ∀ (z : MX) (x2 : Int32) (x3 : Int32) (x4 : Int32) (H : Heap) (locs : List Loc) (ls : Array Slot), rec13 z x2 x3 x4 → va_P D vwCl (WX q ad z) H → va_S A s.heap H locs → lv_has ls 6 [(0, .ref (ad 33)), (2, .int x2), (3, .int x3), (4, .int x4)] → W p l e (headSpec (cW yX4_fittingFaiths cX4_fittingFaiths 6 (some .int)) ({ frames := 5, cells := 0, slots := 0, locals := 121 } : Room)).room s m args below meth c H locs 0 0 (MQ below (va_Qi post (gB D vwCl (WX q ad) (xE D q ad A)) A) args s 0 0 A) (F0 m 13 ls [])) (z : MX) (x2 : Int32) (x3 : Int32) (x4 : Int32) (H : Heap) (locs : List Loc) (ls : Array Slot), pX4_fittingFaiths_l13 i rec13 post z x2 x3 x4 → va_P D vwCl (WX q ad z) H → va_S A s.heap H locs → lv_has ls 6 [(0, .ref (ad 33)), (2, .int x2), (3, .int x3), (4, .int x4)] → W p l e (headSpec (cW yX4_fittingFaiths cX4_fittingFaiths 6 (some .int)) ({ frames := 5, cells := 0, slots := 0, locals := 121 } : Room)).room s m args below meth c H locs 0 0 (MQ below (va_Qi post (gB D vwCl (WX q ad) (xE D q ad A)) A) args s 0 0 A) (F0 m 13 ls []) := by
    intro rec13 hrec13 z x2 x3 x4 H locs ls h hP hS hl
    unfold pX4_fittingFaiths_l13 at h
    refine lv_iload hx hb dX4_fittingFaiths_13 (lv_at hl 3 rfl) ?_
    refine lv_iconst (v := (4 : Int32)) hx hb dX4_fittingFaiths_15 (by decide) ?_
    refine lv_icmp_ge (tgt := 101) hx hb dX4_fittingFaiths_16 (by decide) (fun c16 => ?_) (fun c16 => ?_)
    · have h := h.1 c16
      refine lv_iload_n hx hb dX4_fittingFaiths_101 rfl (lv_at hl 2 rfl) ?_
      exact g_ri hG hx hb hr hlocks hE hP hS h dX4_fittingFaiths_102
    · have h := h.2 c16
      refine lv_aload_n hx hb dX4_fittingFaiths_19 rfl (lv_at hl 0 rfl) ?_
      refine va_get (D := D) (ci := 4) (v := .ref (ad (4 * 1))) (C := RX4) (T := TX4) (N := 8) hx hb ht tl_X4 hown hK hP 33 (wx_33 q ad z) rfl 0 (by decide) (ht _ tw_fl_X4_24) (fun _ h9 => h9) rfl dX4_fittingFaiths_20 ?_
      refine lv_iload_n hx hb dX4_fittingFaiths_23 rfl (lv_at hl 1 rfl) ?_
      refine lv_iconst (v := (0 : Int32)) hx hb dX4_fittingFaiths_24 (by decide) ?_
      refine lv_iload hx hb dX4_fittingFaiths_25 (lv_at hl 3 rfl) ?_
      refine g_cVv (Wd := WX q ad) (z := z) (As := [.int x2, .int (0 : Int32), .int x4]) (rest := []) hG S (kX0_putFact l D q ad A hD 1 (by decide) z x2 (0 : Int32) x4 _ h) (cwV 3 ht (cW_V (fun _ h => h) tw_co_X0_putFact tw_ml_X4_42 tw_im_X0_putFact tw_se_X0_putFact tw_in_X0) rfl rfl rfl (by decide +kernel) ⟨by decide, by decide⟩) (va_recv hK hP (ci := 0) (q0 := (4 * 1)) rfl (wxl q ad z (by decide))) hE hP hS rfl hl.1 rfl (Nat.le_of_ble_eq_true rfl) dX4_fittingFaiths_27 ⟨Nat.zero_le _, Nat.zero_le _⟩ (fun z27 H locs h hP hS => ?_)
      refine lv_aload_n hx hb dX4_fittingFaiths_30 rfl (lv_at hl 0 rfl) ?_
      refine va_get (D := D) (ci := 4) (v := .ref (ad 26)) (C := RX4) (T := TX4) (N := 8) hx hb ht tl_X4 hown hK hP 33 (wx_33 q ad z27) rfl 1 (by decide) (ht _ tw_fl_X4_28) (fun _ h9 => h9) rfl dX4_fittingFaiths_31 ?_
      refine lv_aload_n hx hb dX4_fittingFaiths_34 rfl (lv_at hl 0 rfl) ?_
      refine va_get (D := D) (ci := 4) (v := .ref (ad (4 * 1))) (C := RX4) (T := TX4) (N := 8) hx hb ht tl_X4 hown hK hP 33 (wx_33 q ad z27) rfl 0 (by decide) (ht _ tw_fl_X4_24) (fun _ h9 => h9) rfl dX4_fittingFaiths_35 ?_
      refine g_cVv (Wd := WX q ad) (z := z27) (As := [.ref (ad (4 * 1))]) (rest := []) hG S (kX2_play l D q ad A hD 1 (by decide) z27 _ h) (cwV 1 ht (cW_V (fun _ h => h) tw_co_X2_play tw_ml_X4_46 tw_im_X2_play tw_se_X2_play tw_in_X2) rfl rfl rfl (by decide +kernel) ⟨by decide, by decide⟩) (va_recv hK hP (ci := 2) (q0 := 26) rfl (wx_26 q ad z27)) hE hP hS rfl hl.1 rfl (Nat.le_of_ble_eq_true rfl) dX4_fittingFaiths_38 ⟨Nat.zero_le _, Nat.zero_le _⟩ (fun z38 H locs h hP hS => ?_)
      refine lv_aload_n hx hb dX4_fittingFaiths_41 rfl (lv_at hl 0 rfl) ?_
      refine lv_iload_n hx hb dX4_fittingFaiths_42 rfl (lv_at hl 1 rfl) ?_
      refine g_cVi (Wd := WX q ad) (z := z38) (As := [.int x2]) (rest := []) hG S (kX4_runIsAsSeen l D q ad A hD z38 x2 _ h) (cwV 1 ht (cW_V (fun _ h => h) tw_co_X4_runIsAsSeen tw_ml_X4_51 tw_im_X4_runIsAsSeen tw_se_X4_runIsAsSeen tw_in_X4) rfl rfl rfl (by decide +kernel) ⟨by decide, by decide⟩) (va_recv hK hP (ci := 4) (q0 := 33) rfl (wx_33 q ad z38)) hE hP hS rfl hl.1 rfl (Nat.le_of_ble_eq_true rfl) dX4_fittingFaiths_43 ⟨Nat.zero_le _, Nat.zero_le _⟩ (fun r43 z43 H locs h hP hS => ?_)
      refine lv_if_eq (tgt := 56) hx hb dX4_fittingFaiths_46 (by decide) (fun c46 => ?_) (fun c46 => ?_)
      · have h := h.1 c46
        exact B56 rec13 hrec13 z43 x2 x3 x4 _ _ _ h hP hS (lv_sub hl [0, 1, 2, 3] rfl)
      · have h := h.2 c46
        refine lv_iload_n hx hb dX4_fittingFaiths_49 rfl (lv_at hl 2 rfl) ?_
        refine lv_iconst (v := (1 : Int32)) hx hb dX4_fittingFaiths_50 (by decide) ?_
        refine lv_iload hx hb dX4_fittingFaiths_51 (lv_at hl 3 rfl) ?_
        refine lv_ishl hx hb dX4_fittingFaiths_53 ?_
        refine lv_ior hx hb dX4_fittingFaiths_54 ?_
        refine lv_topi (fun x3_55 ex3_55 => ?_)
        have h := h x3_55 ex3_55
        refine lv_istore_n (lv' := [(3, .int x3_55), (0, .ref (ad 33)), (2, .int x2), (4, .int x4)]) hx hb dX4_fittingFaiths_55 rfl hl (by decide) rfl (fun ls hl => ?_)
        exact B56 rec13 hrec13 z43 x2 x3_55 x4 _ _ _ h hP hS (lv_sub hl [1, 2, 0, 3] rfl)
  have L13 : ∀ (n : Nat) (z : MX) (x2 : Int32) (x3 : Int32) (x4 : Int32) (H : Heap) (locs : List Loc) (ls : Array Slot), pX4_fittingFaiths_L13 i post n z x2 x3 x4 → va_P D vwCl (WX q ad z) H → va_S A s.heap H locs → lv_has ls 6 [(0, .ref (ad 33)), (2, .int x2), (3, .int x3), (4, .int x4)] → W p l e (headSpec (cW yX4_fittingFaiths cX4_fittingFaiths 6 (some .int)) ({ frames := 5, cells := 0, slots := 0, locals := 121 } : Room)).room s m args below meth c H locs 0 0 (MQ below (va_Qi post (gB D vwCl (WX q ad) (xE D q ad A)) A) args s 0 0 A) (F0 m 13 ls []) := by
    intro n
    induction n with
    | zero =>
      intro z x2 x3 x4 H locs ls h
      exact False.elim h
    | succ n ih =>
      intro z x2 x3 x4 H locs ls h hP hS hl
      exact B13 (pX4_fittingFaiths_L13 i post n) ih z x2 x3 x4 H locs ls h hP hS hl
  refine g_entry (vs := [.ref (ad 33), .ref (ad (4 * i)), .int x2]) hargs (Nat.le_of_ble_eq_true rfl) (fun ls hl => ?_)
  have hl : lv_has ls 6 [(0, .ref (ad 33)), (1, .ref (ad (4 * i))), (2, .int x2)] := hl
  unfold pX4_fittingFaiths at h
  refine lv_aload_n hx hb dX4_fittingFaiths_0 rfl (lv_at hl 0 rfl) ?_
  refine va_get (D := D) (ci := 4) (v := .ref (ad (4 * 1))) (C := RX4) (T := TX4) (N := 8) hx hb ht tl_X4 hown hK hP 33 (wx_33 q ad z) rfl 0 (by decide) (ht _ tw_fl_X4_24) (fun _ h9 => h9) rfl dX4_fittingFaiths_1 ?_
  refine lv_aload_n hx hb dX4_fittingFaiths_4 rfl (lv_at hl 1 rfl) ?_
  refine g_cVv (Wd := WX q ad) (z := z) (As := [.ref (ad (4 * i))]) (rest := []) hG S (kX0_copyFrom l D q ad A hD 1 (by decide) i hi z _ h) (cwV 1 ht (cW_V (fun _ h => h) tw_co_X0_copyFrom tw_ml_X4_36 tw_im_X0_copyFrom tw_se_X0_copyFrom tw_in_X0) rfl rfl rfl (by decide +kernel) ⟨by decide, by decide⟩) (va_recv hK hP (ci := 0) (q0 := (4 * 1)) rfl (wxl q ad z (by decide))) hE hP hS rfl hl.1 rfl (Nat.le_of_ble_eq_true rfl) dX4_fittingFaiths_5 ⟨Nat.zero_le _, Nat.zero_le _⟩ (fun z5 H locs h hP hS => ?_)
  refine lv_iconst (v := (0 : Int32)) hx hb dX4_fittingFaiths_8 (by decide) ?_
  refine lv_istore_n (lv' := [(3, .int (0 : Int32)), (0, .ref (ad 33)), (1, .ref (ad (4 * i))), (2, .int x2)]) hx hb dX4_fittingFaiths_9 rfl hl (by decide) rfl (fun ls hl => ?_)
  refine lv_iconst (v := (0 : Int32)) hx hb dX4_fittingFaiths_10 (by decide) ?_
  refine lv_istore (lv' := [(4, .int (0 : Int32)), (3, .int (0 : Int32)), (0, .ref (ad 33)), (1, .ref (ad (4 * i))), (2, .int x2)]) hx hb dX4_fittingFaiths_11 hl (by decide) rfl (fun ls hl => ?_)
  obtain ⟨n, h⟩ := h
  exact L13 n z5 x2 (0 : Int32) (0 : Int32) _ _ _ h hP hS (lv_sub hl [2, 4, 1, 0] rfl)
def pX4_mostAlike_b67 (rec5 : MX → Int32 → Int32 → Int32 → Int32 → Prop) (rec17 : MX → Int32 → Int32 → Int32 → Int32 → Int32 → Int32 → Prop) (post : Int32 → MX → Prop) (z : MX) (x1 : Int32) (x2 : Int32) (x3 : Int32) (x4 : Int32) (x5 : Int32) (x6 : Int32) : Prop :=
    ∀ x6_67 : Int32, x6_67 = x6 + (1 : Int32) →
    rec17 z x1 x2 x3 x4 x5 x6_67
def pX4_mostAlike_l17 (rec5 : MX → Int32 → Int32 → Int32 → Int32 → Prop) (rec17 : MX → Int32 → Int32 → Int32 → Int32 → Int32 → Int32 → Prop) (post : Int32 → MX → Prop) (z : MX) (x1 : Int32) (x2 : Int32) (x3 : Int32) (x4 : Int32) (x5 : Int32) (x6 : Int32) : Prop :=
    (((4 : Int32) ≤ x6 →
      ∀ x3_79 : Int32, x3_79 = (if x3 < x5 then x5 else x3) →
      ∀ x4_80 : Int32, x4_80 = x4 + (1 : Int32) →
      rec5 z x1 x2 x3_79 x4_80) ∧
    (¬ (4 : Int32) ≤ x6 →
      (((((x1 >>> (x4 &&& 31)) &&& (x1 >>> (x6 &&& 31))) &&& (1 : Int32)) = 0 →
        pX4_mostAlike_b67  rec5 rec17 post z x1 x2 x3 x4 x5 x6) ∧
      (¬ (((x1 >>> (x4 &&& 31)) &&& (x1 >>> (x6 &&& 31))) &&& (1 : Int32)) = 0 →
        vp_in ((x4 * (120 : Int32)) + x2) 480 ∧
        vp_in ((x6 * (120 : Int32)) + x2) 480 ∧
        ((¬ (z.1 37 (Int32.toNatClampNeg ((x4 * (120 : Int32)) + x2))) = (z.1 37 (Int32.toNatClampNeg ((x6 * (120 : Int32)) + x2))) →
          pX4_mostAlike_b67  rec5 rec17 post z x1 x2 x3 x4 x5 x6) ∧
        ((z.1 37 (Int32.toNatClampNeg ((x4 * (120 : Int32)) + x2))) = (z.1 37 (Int32.toNatClampNeg ((x6 * (120 : Int32)) + x2))) →
          ∀ x5_64 : Int32, x5_64 = x5 + (1 : Int32) →
          pX4_mostAlike_b67  rec5 rec17 post z x1 x2 x3 x4 x5_64 x6))))))
def pX4_mostAlike_L17 (rec5 : MX → Int32 → Int32 → Int32 → Int32 → Prop) (post : Int32 → MX → Prop) : Nat → MX → Int32 → Int32 → Int32 → Int32 → Int32 → Int32 → Prop
  | 0 => fun _ _ _ _ _ _ _ => False
  | n + 1 => fun z x1 x2 x3 x4 x5 x6 => pX4_mostAlike_l17  rec5 (pX4_mostAlike_L17  rec5 post n) post z x1 x2 x3 x4 x5 x6
def pX4_mostAlike_l5 (rec5 : MX → Int32 → Int32 → Int32 → Int32 → Prop) (post : Int32 → MX → Prop) (z : MX) (x1 : Int32) (x2 : Int32) (x3 : Int32) (x4 : Int32) : Prop :=
    (((4 : Int32) ≤ x4 →
      post x3 z) ∧
    (¬ (4 : Int32) ≤ x4 →
      ∃ n, pX4_mostAlike_L17  rec5 post n z x1 x2 x3 x4 (0 : Int32) (0 : Int32)))
def pX4_mostAlike_L5 (post : Int32 → MX → Prop) : Nat → MX → Int32 → Int32 → Int32 → Int32 → Prop
  | 0 => fun _ _ _ _ _ => False
  | n + 1 => fun z x1 x2 x3 x4 => pX4_mostAlike_l5  (pX4_mostAlike_L5  post n) post z x1 x2 x3 x4
def pX4_mostAlike (z : MX) (x1 : Int32) (x2 : Int32) (post : Int32 → MX → Prop) : Prop :=
  ∃ n, pX4_mostAlike_L5  post n z x1 x2 (0 : Int32) (0 : Int32)
set_option maxHeartbeats 4000000 in
set_option maxRecDepth 100000 in
theorem kX4_mostAlike (l : Launch) (D : va_G) (q : Nat → ClassId) (ad : Nat → Nat) (A : Nat → Prop) (hD : ∀ z, va_D A (WX q ad z)) (z : MX) (x1 : Int32) (x2 : Int32) (post : Int32 → MX → Prop) (h : pX4_mostAlike  z x1 x2 post) : Met l yX4_mostAlike (cW yX4_mostAlike cX4_mostAlike 7 (some .int)) ({ frames := 1, cells := 0, slots := 0, locals := 21 } : Room) (va_Pc [.ref (ad 33), .int x1, .int x2] ((gB D vwCl (WX q ad) (xE D q ad A)) z)) (va_Qi post (gB D vwCl (WX q ad) (xE D q ad A)) A) 0 0 A := by
  refine Met.ofW (cc := cX4_mostAlike) (maxL := 7) (ret := (some .int)) (by decide) rfl ?_
  intro p e s m args below meth c s₁ B hml hv
  obtain ⟨hargs, hP, hE⟩ := hv
  have hx := B.exec
  have hb := B.bytes
  have hr := B.returns
  have hts := atoms_spec (ws := (cW yX4_mostAlike cX4_mostAlike 7 (some .int))) B.pre
  have ht : ∀ w ∈ tG, w.before args s = true := fun w h => hts w (List.mem_cons_of_mem _ h)
  have hown : s.vm.findClass RX4 = some m.cls := findClass_of_methodNamed B.named
  have hlocks := B.notSynchronized
  have hK := hE.1
  have hG := xE_G D q ad A
  have S : CallFix p m c cX4_mostAlike 7 s args tG RX4 := ⟨hx, hb, hml, hown, ht⟩
  have hS : va_S A s.heap s.heap [] := va_S.rf
  have B67 : ∀ (rec5 : MX → Int32 → Int32 → Int32 → Int32 → Prop) (rec17 : MX → Int32 → Int32 → Int32 → Int32 → Int32 → Int32 → Prop) (hrec5 : ∀ (z : MX) (x1 : Int32) (x2 : Int32) (x3 : Int32) (x4 : Int32) (H : Heap) (locs : List Loc) (ls : Array Slot), rec5 z x1 x2 x3 x4 → va_P D vwCl (WX q ad z) H → va_S A s.heap H locs → lv_has ls 7 [(0, .ref (ad 33)), (1, .int x1), (2, .int x2), (3, .int x3), (4, .int x4)] → W p l e (headSpec (cW yX4_mostAlike cX4_mostAlike 7 (some .int)) ({ frames := 1, cells := 0, slots := 0, locals := 21 } : Room)).room s m args below meth c H locs 0 0 (MQ below (va_Qi post (gB D vwCl (WX q ad) (xE D q ad A)) A) args s 0 0 A) (F0 m 5 ls [])) (hrec17 : ∀ (z : MX) (x1 : Int32) (x2 : Int32) (x3 : Int32) (x4 : Int32) (x5 : Int32) (x6 : Int32) (H : Heap) (locs : List Loc) (ls : Array Slot), rec17 z x1 x2 x3 x4 x5 x6 → va_P D vwCl (WX q ad z) H → va_S A s.heap H locs → lv_has ls 7 [(0, .ref (ad 33)), (1, .int x1), (2, .int x2), (3, .int x3), (4, .int x4), (5, .int x5), (6, .int x6)] → W p l e (headSpec (cW yX4_mostAlike cX4_mostAlike 7 (some .int)) ({ frames := 1, cells := 0, slots := 0, locals := 21 } : Room)).room s m args below meth c H locs 0 0 (MQ below (va_Qi post (gB D vwCl (WX q ad) (xE D q ad A)) A) args s 0 0 A) (F0 m 17 ls [])) (z : MX) (x1 : Int32) (x2 : Int32) (x3 : Int32) (x4 : Int32) (x5 : Int32) (x6 : Int32) (H : Heap) (locs : List Loc) (ls : Array Slot), pX4_mostAlike_b67  rec5 rec17 post z x1 x2 x3 x4 x5 x6 → va_P D vwCl (WX q ad z) H → va_S A s.heap H locs → lv_has ls 7 [(0, .ref (ad 33)), (1, .int x1), (2, .int x2), (3, .int x3), (4, .int x4), (5, .int x5), (6, .int x6)] → W p l e (headSpec (cW yX4_mostAlike cX4_mostAlike 7 (some .int)) ({ frames := 1, cells := 0, slots := 0, locals := 21 } : Room)).room s m args below meth c H locs 0 0 (MQ below (va_Qi post (gB D vwCl (WX q ad) (xE D q ad A)) A) args s 0 0 A) (F0 m 67 ls []) := by
    intro rec5 rec17 hrec5 hrec17 z x1 x2 x3 x4 x5 x6 H locs ls h hP hS hl
    unfold pX4_mostAlike_b67 at h
    obtain ⟨x6_67, ex6_67⟩ : ∃ w : Int32, w = x6 + (1 : Int32) := ⟨_, rfl⟩
    have h := h x6_67 ex6_67
    refine lv_iinc (v := x6_67) (lv' := [(6, .int x6_67), (0, .ref (ad 33)), (1, .int x1), (2, .int x2), (3, .int x3), (4, .int x4), (5, .int x5)]) hx hb dX4_mostAlike_67 hl (k := 6) rfl (by rw [ex6_67]; rfl) (by decide) rfl (fun ls hl => ?_)
    refine lv_goto (tgt := 17) hx hb dX4_mostAlike_70 (by decide) ?_
    exact hrec17 z x1 x2 x3 x4 x5 x6_67 _ _ _ h hP hS (lv_sub hl [1, 2, 3, 4, 5, 6, 0] rfl)
  have B17 : ∀ (rec5 : MX → Int32 → Int32 → Int32 → Int32 → Prop) (rec17 : MX → Int32 → Int32 → Int32 → Int32 → Int32 → Int32 → Prop) (hrec5 : ∀ (z : MX) (x1 : Int32) (x2 : Int32) (x3 : Int32) (x4 : Int32) (H : Heap) (locs : List Loc) (ls : Array Slot), rec5 z x1 x2 x3 x4 → va_P D vwCl (WX q ad z) H → va_S A s.heap H locs → lv_has ls 7 [(0, .ref (ad 33)), (1, .int x1), (2, .int x2), (3, .int x3), (4, .int x4)] → W p l e (headSpec (cW yX4_mostAlike cX4_mostAlike 7 (some .int)) ({ frames := 1, cells := 0, slots := 0, locals := 21 } : Room)).room s m args below meth c H locs 0 0 (MQ below (va_Qi post (gB D vwCl (WX q ad) (xE D q ad A)) A) args s 0 0 A) (F0 m 5 ls [])) (hrec17 : ∀ (z : MX) (x1 : Int32) (x2 : Int32) (x3 : Int32) (x4 : Int32) (x5 : Int32) (x6 : Int32) (H : Heap) (locs : List Loc) (ls : Array Slot), rec17 z x1 x2 x3 x4 x5 x6 → va_P D vwCl (WX q ad z) H → va_S A s.heap H locs → lv_has ls 7 [(0, .ref (ad 33)), (1, .int x1), (2, .int x2), (3, .int x3), (4, .int x4), (5, .int x5), (6, .int x6)] → W p l e (headSpec (cW yX4_mostAlike cX4_mostAlike 7 (some .int)) ({ frames := 1, cells := 0, slots := 0, locals := 21 } : Room)).room s m args below meth c H locs 0 0 (MQ below (va_Qi post (gB D vwCl (WX q ad) (xE D q ad A)) A) args s 0 0 A) (F0 m 17 ls [])) (z : MX) (x1 : Int32) (x2 : Int32) (x3 : Int32) (x4 : Int32) (x5 : Int32) (x6 : Int32) (H : Heap) (locs : List Loc) (ls : Array Slot), pX4_mostAlike_l17  rec5 rec17 post z x1 x2 x3 x4 x5 x6 → va_P D vwCl (WX q ad z) H → va_S A s.heap H locs → lv_has ls 7 [(0, .ref (ad 33)), (1, .int x1), (2, .int x2), (3, .int x3), (4, .int x4), (5, .int x5), (6, .int x6)] → W p l e (headSpec (cW yX4_mostAlike cX4_mostAlike 7 (some .int)) ({ frames := 1, cells := 0, slots := 0, locals := 21 } : Room)).room s m args below meth c H locs 0 0 (MQ below (va_Qi post (gB D vwCl (WX q ad) (xE D q ad A)) A) args s 0 0 A) (F0 m 17 ls []) := by
    intro rec5 rec17 hrec5 hrec17 z x1 x2 x3 x4 x5 x6 H locs ls h hP hS hl
    unfold pX4_mostAlike_l17 at h
    refine lv_iload hx hb dX4_mostAlike_17 (lv_at hl 6 rfl) ?_
    refine lv_iconst (v := (4 : Int32)) hx hb dX4_mostAlike_19 (by decide) ?_
    refine lv_icmp_ge (tgt := 73) hx hb dX4_mostAlike_20 (by decide) (fun c20 => ?_) (fun c20 => ?_)
    · have h := h.1 c20
      refine lv_iload_n hx hb dX4_mostAlike_73 rfl (lv_at hl 3 rfl) ?_
      refine lv_iload hx hb dX4_mostAlike_74 (lv_at hl 5 rfl) ?_
      refine va_mmax hx hb (by rw [hml]; exact hl.1.symm) hown (ht _ tw_ml_X4_71) (ht _ tw_st_J9_max_7cf53) (ht _ tw_in_J9) (ht _ tw_co_J9_max_7cf53) (Nat.le_of_ble_eq_true rfl) (Nat.le_of_ble_eq_true rfl) (Nat.zero_le _) (Nat.zero_le _) dX4_mostAlike_76 ?_
      refine lv_topi (fun x3_79 ex3_79 => ?_)
      have h := h x3_79 ex3_79
      refine lv_istore_n (lv' := [(3, .int x3_79), (0, .ref (ad 33)), (1, .int x1), (2, .int x2), (4, .int x4), (5, .int x5), (6, .int x6)]) hx hb dX4_mostAlike_79 rfl hl (by decide) rfl (fun ls hl => ?_)
      obtain ⟨x4_80, ex4_80⟩ : ∃ w : Int32, w = x4 + (1 : Int32) := ⟨_, rfl⟩
      have h := h x4_80 ex4_80
      refine lv_iinc (v := x4_80) (lv' := [(4, .int x4_80), (3, .int x3_79), (0, .ref (ad 33)), (1, .int x1), (2, .int x2), (5, .int x5), (6, .int x6)]) hx hb dX4_mostAlike_80 hl (k := 4) rfl (by rw [ex4_80]; rfl) (by decide) rfl (fun ls hl => ?_)
      refine lv_goto (tgt := 5) hx hb dX4_mostAlike_83 (by decide) ?_
      exact hrec5 z x1 x2 x3_79 x4_80 _ _ _ h hP hS (lv_sub hl [2, 3, 4, 1, 0] rfl)
    · have h := h.2 c20
      refine lv_iload_n hx hb dX4_mostAlike_23 rfl (lv_at hl 1 rfl) ?_
      refine lv_iload hx hb dX4_mostAlike_24 (lv_at hl 4 rfl) ?_
      refine lv_ishr hx hb dX4_mostAlike_26 ?_
      refine lv_iload_n hx hb dX4_mostAlike_27 rfl (lv_at hl 1 rfl) ?_
      refine lv_iload hx hb dX4_mostAlike_28 (lv_at hl 6 rfl) ?_
      refine lv_ishr hx hb dX4_mostAlike_30 ?_
      refine lv_iand hx hb dX4_mostAlike_31 ?_
      refine lv_iconst (v := (1 : Int32)) hx hb dX4_mostAlike_32 (by decide) ?_
      refine lv_iand hx hb dX4_mostAlike_33 ?_
      refine lv_if_eq (tgt := 67) hx hb dX4_mostAlike_34 (by decide) (fun c34 => ?_) (fun c34 => ?_)
      · have h := h.1 c34
        exact B67 rec5 rec17 hrec5 hrec17 z x1 x2 x3 x4 x5 x6 _ _ _ h hP hS (lv_sub hl [0, 1, 2, 3, 4, 5, 6] rfl)
      · have h := h.2 c34
        refine lv_aload_n hx hb dX4_mostAlike_37 rfl (lv_at hl 0 rfl) ?_
        refine va_get (D := D) (ci := 4) (v := .ref (ad 37)) (C := RX4) (T := TX4) (N := 8) hx hb ht tl_X4 hown hK hP 33 (wx_33 q ad z) rfl 5 (by decide) (ht _ tw_fl_X4_21) (fun _ h9 => h9) rfl dX4_mostAlike_38 ?_
        refine lv_iload hx hb dX4_mostAlike_41 (lv_at hl 4 rfl) ?_
        refine lv_bipush (v := (120 : Int32)) hx hb dX4_mostAlike_43 (by decide) ?_
        refine lv_imul hx hb dX4_mostAlike_45 ?_
        refine lv_iload_n hx hb dX4_mostAlike_46 rfl (lv_at hl 2 rfl) ?_
        refine lv_iadd hx hb dX4_mostAlike_47 ?_
        have hi48 := h.1
        have h := h.2
        refine va_iald hx hb hK hP 37 0 (wx_37 q ad z) rfl hi48 dX4_mostAlike_48 ?_
        refine lv_aload_n hx hb dX4_mostAlike_49 rfl (lv_at hl 0 rfl) ?_
        refine va_get (D := D) (ci := 4) (v := .ref (ad 37)) (C := RX4) (T := TX4) (N := 8) hx hb ht tl_X4 hown hK hP 33 (wx_33 q ad z) rfl 5 (by decide) (ht _ tw_fl_X4_21) (fun _ h9 => h9) rfl dX4_mostAlike_50 ?_
        refine lv_iload hx hb dX4_mostAlike_53 (lv_at hl 6 rfl) ?_
        refine lv_bipush (v := (120 : Int32)) hx hb dX4_mostAlike_55 (by decide) ?_
        refine lv_imul hx hb dX4_mostAlike_57 ?_
        refine lv_iload_n hx hb dX4_mostAlike_58 rfl (lv_at hl 2 rfl) ?_
        refine lv_iadd hx hb dX4_mostAlike_59 ?_
        have hi60 := h.1
        have h := h.2
        refine va_iald hx hb hK hP 37 0 (wx_37 q ad z) rfl hi60 dX4_mostAlike_60 ?_
        refine lv_icmp_ne (tgt := 67) hx hb dX4_mostAlike_61 (by decide) (fun c61 => ?_) (fun c61 => ?_)
        · have h := h.1 c61
          exact B67 rec5 rec17 hrec5 hrec17 z x1 x2 x3 x4 x5 x6 _ _ _ h hP hS (lv_sub hl [0, 1, 2, 3, 4, 5, 6] rfl)
        · have h := h.2 c61
          obtain ⟨x5_64, ex5_64⟩ : ∃ w : Int32, w = x5 + (1 : Int32) := ⟨_, rfl⟩
          have h := h x5_64 ex5_64
          refine lv_iinc (v := x5_64) (lv' := [(5, .int x5_64), (0, .ref (ad 33)), (1, .int x1), (2, .int x2), (3, .int x3), (4, .int x4), (6, .int x6)]) hx hb dX4_mostAlike_64 hl (k := 5) rfl (by rw [ex5_64]; rfl) (by decide) rfl (fun ls hl => ?_)
          exact B67 rec5 rec17 hrec5 hrec17 z x1 x2 x3 x4 x5_64 x6 _ _ _ h hP hS (lv_sub hl [1, 2, 3, 4, 5, 0, 6] rfl)
  have L17 : ∀ (rec5 : MX → Int32 → Int32 → Int32 → Int32 → Prop) (hrec5 : ∀ (z : MX) (x1 : Int32) (x2 : Int32) (x3 : Int32) (x4 : Int32) (H : Heap) (locs : List Loc) (ls : Array Slot), rec5 z x1 x2 x3 x4 → va_P D vwCl (WX q ad z) H → va_S A s.heap H locs → lv_has ls 7 [(0, .ref (ad 33)), (1, .int x1), (2, .int x2), (3, .int x3), (4, .int x4)] → W p l e (headSpec (cW yX4_mostAlike cX4_mostAlike 7 (some .int)) ({ frames := 1, cells := 0, slots := 0, locals := 21 } : Room)).room s m args below meth c H locs 0 0 (MQ below (va_Qi post (gB D vwCl (WX q ad) (xE D q ad A)) A) args s 0 0 A) (F0 m 5 ls [])) (n : Nat) (z : MX) (x1 : Int32) (x2 : Int32) (x3 : Int32) (x4 : Int32) (x5 : Int32) (x6 : Int32) (H : Heap) (locs : List Loc) (ls : Array Slot), pX4_mostAlike_L17  rec5 post n z x1 x2 x3 x4 x5 x6 → va_P D vwCl (WX q ad z) H → va_S A s.heap H locs → lv_has ls 7 [(0, .ref (ad 33)), (1, .int x1), (2, .int x2), (3, .int x3), (4, .int x4), (5, .int x5), (6, .int x6)] → W p l e (headSpec (cW yX4_mostAlike cX4_mostAlike 7 (some .int)) ({ frames := 1, cells := 0, slots := 0, locals := 21 } : Room)).room s m args below meth c H locs 0 0 (MQ below (va_Qi post (gB D vwCl (WX q ad) (xE D q ad A)) A) args s 0 0 A) (F0 m 17 ls []) := by
    intro rec5 hrec5 n
    induction n with
    | zero =>
      intro z x1 x2 x3 x4 x5 x6 H locs ls h
      exact False.elim h
    | succ n ih =>
      intro z x1 x2 x3 x4 x5 x6 H locs ls h hP hS hl
      exact B17 rec5 (pX4_mostAlike_L17  rec5 post n) hrec5 ih z x1 x2 x3 x4 x5 x6 H locs ls h hP hS hl
  have B5 : ∀ (rec5 : MX → Int32 → Int32 → Int32 → Int32 → Prop) (hrec5 : ∀ (z : MX) (x1 : Int32) (x2 : Int32) (x3 : Int32) (x4 : Int32) (H : Heap) (locs : List Loc) (ls : Array Slot), rec5 z x1 x2 x3 x4 → va_P D vwCl (WX q ad z) H → va_S A s.heap H locs → lv_has ls 7 [(0, .ref (ad 33)), (1, .int x1), (2, .int x2), (3, .int x3), (4, .int x4)] → W p l e (headSpec (cW yX4_mostAlike cX4_mostAlike 7 (some .int)) ({ frames := 1, cells := 0, slots := 0, locals := 21 } : Room)).room s m args below meth c H locs 0 0 (MQ below (va_Qi post (gB D vwCl (WX q ad) (xE D q ad A)) A) args s 0 0 A) (F0 m 5 ls [])) (z : MX) (x1 : Int32) (x2 : Int32) (x3 : Int32) (x4 : Int32) (H : Heap) (locs : List Loc) (ls : Array Slot), pX4_mostAlike_l5  rec5 post z x1 x2 x3 x4 → va_P D vwCl (WX q ad z) H → va_S A s.heap H locs → lv_has ls 7 [(0, .ref (ad 33)), (1, .int x1), (2, .int x2), (3, .int x3), (4, .int x4)] → W p l e (headSpec (cW yX4_mostAlike cX4_mostAlike 7 (some .int)) ({ frames := 1, cells := 0, slots := 0, locals := 21 } : Room)).room s m args below meth c H locs 0 0 (MQ below (va_Qi post (gB D vwCl (WX q ad) (xE D q ad A)) A) args s 0 0 A) (F0 m 5 ls []) := by
    intro rec5 hrec5 z x1 x2 x3 x4 H locs ls h hP hS hl
    unfold pX4_mostAlike_l5 at h
    refine lv_iload hx hb dX4_mostAlike_5 (lv_at hl 4 rfl) ?_
    refine lv_iconst (v := (4 : Int32)) hx hb dX4_mostAlike_7 (by decide) ?_
    refine lv_icmp_ge (tgt := 86) hx hb dX4_mostAlike_8 (by decide) (fun c8 => ?_) (fun c8 => ?_)
    · have h := h.1 c8
      refine lv_iload_n hx hb dX4_mostAlike_86 rfl (lv_at hl 3 rfl) ?_
      exact g_ri hG hx hb hr hlocks hE hP hS h dX4_mostAlike_87
    · have h := h.2 c8
      refine lv_iconst (v := (0 : Int32)) hx hb dX4_mostAlike_11 (by decide) ?_
      refine lv_istore (lv' := [(5, .int (0 : Int32)), (0, .ref (ad 33)), (1, .int x1), (2, .int x2), (3, .int x3), (4, .int x4)]) hx hb dX4_mostAlike_12 hl (by decide) rfl (fun ls hl => ?_)
      refine lv_iconst (v := (0 : Int32)) hx hb dX4_mostAlike_14 (by decide) ?_
      refine lv_istore (lv' := [(6, .int (0 : Int32)), (5, .int (0 : Int32)), (0, .ref (ad 33)), (1, .int x1), (2, .int x2), (3, .int x3), (4, .int x4)]) hx hb dX4_mostAlike_15 hl (by decide) rfl (fun ls hl => ?_)
      obtain ⟨n, h⟩ := h
      exact L17 rec5 hrec5 n z x1 x2 x3 x4 (0 : Int32) (0 : Int32) _ _ _ h hP hS (lv_sub hl [2, 3, 4, 5, 6, 1, 0] rfl)
  have L5 : ∀ (n : Nat) (z : MX) (x1 : Int32) (x2 : Int32) (x3 : Int32) (x4 : Int32) (H : Heap) (locs : List Loc) (ls : Array Slot), pX4_mostAlike_L5  post n z x1 x2 x3 x4 → va_P D vwCl (WX q ad z) H → va_S A s.heap H locs → lv_has ls 7 [(0, .ref (ad 33)), (1, .int x1), (2, .int x2), (3, .int x3), (4, .int x4)] → W p l e (headSpec (cW yX4_mostAlike cX4_mostAlike 7 (some .int)) ({ frames := 1, cells := 0, slots := 0, locals := 21 } : Room)).room s m args below meth c H locs 0 0 (MQ below (va_Qi post (gB D vwCl (WX q ad) (xE D q ad A)) A) args s 0 0 A) (F0 m 5 ls []) := by
    intro n
    induction n with
    | zero =>
      intro z x1 x2 x3 x4 H locs ls h
      exact False.elim h
    | succ n ih =>
      intro z x1 x2 x3 x4 H locs ls h hP hS hl
      exact B5 (pX4_mostAlike_L5  post n) ih z x1 x2 x3 x4 H locs ls h hP hS hl
  refine g_entry (vs := [.ref (ad 33), .int x1, .int x2]) hargs (Nat.le_of_ble_eq_true rfl) (fun ls hl => ?_)
  have hl : lv_has ls 7 [(0, .ref (ad 33)), (1, .int x1), (2, .int x2)] := hl
  unfold pX4_mostAlike at h
  refine lv_iconst (v := (0 : Int32)) hx hb dX4_mostAlike_0 (by decide) ?_
  refine lv_istore_n (lv' := [(3, .int (0 : Int32)), (0, .ref (ad 33)), (1, .int x1), (2, .int x2)]) hx hb dX4_mostAlike_1 rfl hl (by decide) rfl (fun ls hl => ?_)
  refine lv_iconst (v := (0 : Int32)) hx hb dX4_mostAlike_2 (by decide) ?_
  refine lv_istore (lv' := [(4, .int (0 : Int32)), (3, .int (0 : Int32)), (0, .ref (ad 33)), (1, .int x1), (2, .int x2)]) hx hb dX4_mostAlike_3 hl (by decide) rfl (fun ls hl => ?_)
  obtain ⟨n, h⟩ := h
  exact L5 n z x1 x2 (0 : Int32) (0 : Int32) _ _ _ h hP hS (lv_sub hl [2, 3, 4, 1, 0] rfl)
def pX4_bestMinute_b58 (post : Int32 → MX → Prop) (z : MX) (x3 : Int32) (y1 : Int32) : Prop :=
    ∀ z58 : MX, z58 = mw z 33 7 y1 →
    post x3 z58
def pX4_bestMinute_b39 (rec11 : MX → Int32 → Int32 → Int32 → Int32 → Prop) (post : Int32 → MX → Prop) (z : MX) (x1 : Int32) (x2 : Int32) (x3 : Int32) (x4 : Int32) : Prop :=
    ∀ x4_39 : Int32, x4_39 = x4 + (1 : Int32) →
    rec11 z x1 x2 x3 x4_39
def pX4_bestMinute_l11 (rec11 : MX → Int32 → Int32 → Int32 → Int32 → Prop) (post : Int32 → MX → Prop) (z : MX) (x1 : Int32) (x2 : Int32) (x3 : Int32) (x4 : Int32) : Prop :=
    (((120 : Int32) ≤ x4 →
      ((¬ x3 = (-4 : Int32) →
        pX4_bestMinute_b58  post z x3 x2) ∧
      (x3 = (-4 : Int32) →
        pX4_bestMinute_b58  post z x3 (-4 : Int32)))) ∧
    (¬ (120 : Int32) ≤ x4 →
      pX4_mostAlike z x1 x4 (fun (r22 : Int32) (z22 : MX) =>
      ((x2 ≤ r22 →
        pX4_bestMinute_b39  rec11 post z22 x1 x2 x3 x4) ∧
      (¬ x2 ≤ r22 →
        pX4_bestMinute_b39  rec11 post z22 x1 r22 x4 x4)))))
def pX4_bestMinute_L11 (post : Int32 → MX → Prop) : Nat → MX → Int32 → Int32 → Int32 → Int32 → Prop
  | 0 => fun _ _ _ _ _ => False
  | n + 1 => fun z x1 x2 x3 x4 => pX4_bestMinute_l11  (pX4_bestMinute_L11  post n) post z x1 x2 x3 x4
def pX4_bestMinute (z : MX) (x1 : Int32) (post : Int32 → MX → Prop) : Prop :=
  pJ6_bitCount_0f7a4 z x1 (fun (r1 : Int32) (z1 : MX) =>
  ∃ n, pX4_bestMinute_L11  post n z1 x1 r1 (-4 : Int32) (0 : Int32))
set_option maxHeartbeats 4000000 in
set_option maxRecDepth 100000 in
theorem kX4_bestMinute (l : Launch) (D : va_G) (q : Nat → ClassId) (ad : Nat → Nat) (A : Nat → Prop) (hD : ∀ z, va_D A (WX q ad z)) (z : MX) (x1 : Int32) (post : Int32 → MX → Prop) (h : pX4_bestMinute  z x1 post) : Met l yX4_bestMinute (cW yX4_bestMinute cX4_bestMinute 6 (some .int)) ({ frames := 2, cells := 0, slots := 0, locals := 47 } : Room) (va_Pc [.ref (ad 33), .int x1] ((gB D vwCl (WX q ad) (xE D q ad A)) z)) (va_Qi post (gB D vwCl (WX q ad) (xE D q ad A)) A) 0 0 A := by
  refine Met.ofW (cc := cX4_bestMinute) (maxL := 6) (ret := (some .int)) (by decide) rfl ?_
  intro p e s m args below meth c s₁ B hml hv
  obtain ⟨hargs, hP, hE⟩ := hv
  have hx := B.exec
  have hb := B.bytes
  have hr := B.returns
  have hts := atoms_spec (ws := (cW yX4_bestMinute cX4_bestMinute 6 (some .int))) B.pre
  have ht : ∀ w ∈ tG, w.before args s = true := fun w h => hts w (List.mem_cons_of_mem _ h)
  have hown : s.vm.findClass RX4 = some m.cls := findClass_of_methodNamed B.named
  have hlocks := B.notSynchronized
  have hK := hE.1
  have hG := xE_G D q ad A
  have S : CallFix p m c cX4_bestMinute 6 s args tG RX4 := ⟨hx, hb, hml, hown, ht⟩
  have hS : va_S A s.heap s.heap [] := va_S.rf
  have B58 : ∀ (z : MX) (x3 : Int32) (y1 : Int32) (H : Heap) (locs : List Loc) (ls : Array Slot), pX4_bestMinute_b58  post z x3 y1 → va_P D vwCl (WX q ad z) H → va_S A s.heap H locs → lv_has ls 6 [(3, .int x3)] → W p l e (headSpec (cW yX4_bestMinute cX4_bestMinute 6 (some .int)) ({ frames := 2, cells := 0, slots := 0, locals := 47 } : Room)).room s m args below meth c H locs 0 0 (MQ below (va_Qi post (gB D vwCl (WX q ad) (xE D q ad A)) A) args s 0 0 A) (F0 m 58 ls [.int y1, .ref (ad 33)]) := by
    intro z x3 y1 H locs ls h hP hS hl
    unfold pX4_bestMinute_b58 at h
    refine g_put (D := D) (Wd := WX q ad) (z := z) (ci := 4) (v := .int y1) (ty := .int) (C := RX4) (T := TX4) (N := 8) hx hb ht tl_X4 tyX4 tyX4_ok nmX4 hown hK hP (hD z) hS 33 (wx_33 q ad z) rfl 7 (by decide) (ht _ tw_fl_X4_68) (fun _ h9 => h9) rfl rfl rfl rfl (Nat.le_of_ble_eq_true rfl) ((px_33_7 q ad z) y1) dX4_bestMinute_58 (fun z58 H locs hz58 hP hS => ?_)
    have h := h z58 hz58
    refine lv_iload_n hx hb dX4_bestMinute_61 rfl (lv_at hl 0 rfl) ?_
    exact g_ri hG hx hb hr hlocks hE hP hS h dX4_bestMinute_62
  have B39 : ∀ (rec11 : MX → Int32 → Int32 → Int32 → Int32 → Prop) (hrec11 : ∀ (z : MX) (x1 : Int32) (x2 : Int32) (x3 : Int32) (x4 : Int32) (H : Heap) (locs : List Loc) (ls : Array Slot), rec11 z x1 x2 x3 x4 → va_P D vwCl (WX q ad z) H → va_S A s.heap H locs → lv_has ls 6 [(0, .ref (ad 33)), (1, .int x1), (2, .int x2), (3, .int x3), (4, .int x4)] → W p l e (headSpec (cW yX4_bestMinute cX4_bestMinute 6 (some .int)) ({ frames := 2, cells := 0, slots := 0, locals := 47 } : Room)).room s m args below meth c H locs 0 0 (MQ below (va_Qi post (gB D vwCl (WX q ad) (xE D q ad A)) A) args s 0 0 A) (F0 m 11 ls [])) (z : MX) (x1 : Int32) (x2 : Int32) (x3 : Int32) (x4 : Int32) (H : Heap) (locs : List Loc) (ls : Array Slot), pX4_bestMinute_b39  rec11 post z x1 x2 x3 x4 → va_P D vwCl (WX q ad z) H → va_S A s.heap H locs → lv_has ls 6 [(0, .ref (ad 33)), (1, .int x1), (2, .int x2), (3, .int x3), (4, .int x4)] → W p l e (headSpec (cW yX4_bestMinute cX4_bestMinute 6 (some .int)) ({ frames := 2, cells := 0, slots := 0, locals := 47 } : Room)).room s m args below meth c H locs 0 0 (MQ below (va_Qi post (gB D vwCl (WX q ad) (xE D q ad A)) A) args s 0 0 A) (F0 m 39 ls []) := by
    intro rec11 hrec11 z x1 x2 x3 x4 H locs ls h hP hS hl
    unfold pX4_bestMinute_b39 at h
    obtain ⟨x4_39, ex4_39⟩ : ∃ w : Int32, w = x4 + (1 : Int32) := ⟨_, rfl⟩
    have h := h x4_39 ex4_39
    refine lv_iinc (v := x4_39) (lv' := [(4, .int x4_39), (0, .ref (ad 33)), (1, .int x1), (2, .int x2), (3, .int x3)]) hx hb dX4_bestMinute_39 hl (k := 4) rfl (by rw [ex4_39]; rfl) (by decide) rfl (fun ls hl => ?_)
    refine lv_goto (tgt := 11) hx hb dX4_bestMinute_42 (by decide) ?_
    exact hrec11 z x1 x2 x3 x4_39 _ _ _ h hP hS (lv_sub hl [1, 2, 3, 4, 0] rfl)
  have B11 : ∀ (rec11 : MX → Int32 → Int32 → Int32 → Int32 → Prop) (hrec11 : ∀ (z : MX) (x1 : Int32) (x2 : Int32) (x3 : Int32) (x4 : Int32) (H : Heap) (locs : List Loc) (ls : Array Slot), rec11 z x1 x2 x3 x4 → va_P D vwCl (WX q ad z) H → va_S A s.heap H locs → lv_has ls 6 [(0, .ref (ad 33)), (1, .int x1), (2, .int x2), (3, .int x3), (4, .int x4)] → W p l e (headSpec (cW yX4_bestMinute cX4_bestMinute 6 (some .int)) ({ frames := 2, cells := 0, slots := 0, locals := 47 } : Room)).room s m args below meth c H locs 0 0 (MQ below (va_Qi post (gB D vwCl (WX q ad) (xE D q ad A)) A) args s 0 0 A) (F0 m 11 ls [])) (z : MX) (x1 : Int32) (x2 : Int32) (x3 : Int32) (x4 : Int32) (H : Heap) (locs : List Loc) (ls : Array Slot), pX4_bestMinute_l11  rec11 post z x1 x2 x3 x4 → va_P D vwCl (WX q ad z) H → va_S A s.heap H locs → lv_has ls 6 [(0, .ref (ad 33)), (1, .int x1), (2, .int x2), (3, .int x3), (4, .int x4)] → W p l e (headSpec (cW yX4_bestMinute cX4_bestMinute 6 (some .int)) ({ frames := 2, cells := 0, slots := 0, locals := 47 } : Room)).room s m args below meth c H locs 0 0 (MQ below (va_Qi post (gB D vwCl (WX q ad) (xE D q ad A)) A) args s 0 0 A) (F0 m 11 ls []) := by
    intro rec11 hrec11 z x1 x2 x3 x4 H locs ls h hP hS hl
    unfold pX4_bestMinute_l11 at h
    refine lv_iload hx hb dX4_bestMinute_11 (lv_at hl 4 rfl) ?_
    refine lv_bipush (v := (120 : Int32)) hx hb dX4_bestMinute_13 (by decide) ?_
    refine lv_icmp_ge (tgt := 45) hx hb dX4_bestMinute_15 (by decide) (fun c15 => ?_) (fun c15 => ?_)
    · have h := h.1 c15
      refine lv_aload_n hx hb dX4_bestMinute_45 rfl (lv_at hl 0 rfl) ?_
      refine lv_iload_n hx hb dX4_bestMinute_46 rfl (lv_at hl 3 rfl) ?_
      refine lv_bipush (v := (-4 : Int32)) hx hb dX4_bestMinute_47 (by decide) ?_
      refine lv_icmp_ne (tgt := 57) hx hb dX4_bestMinute_49 (by decide) (fun c49 => ?_) (fun c49 => ?_)
      · have h := h.1 c49
        refine lv_iload_n hx hb dX4_bestMinute_57 rfl (lv_at hl 2 rfl) ?_
        exact B58 z x3 x2 _ _ _ h hP hS (lv_sub hl [3] rfl)
      · have h := h.2 c49
        refine lv_bipush (v := (-4 : Int32)) hx hb dX4_bestMinute_52 (by decide) ?_
        refine lv_goto (tgt := 58) hx hb dX4_bestMinute_54 (by decide) ?_
        exact B58 z x3 (-4 : Int32) _ _ _ h hP hS (lv_sub hl [3] rfl)
    · have h := h.2 c15
      refine lv_aload_n hx hb dX4_bestMinute_18 rfl (lv_at hl 0 rfl) ?_
      refine lv_iload_n hx hb dX4_bestMinute_19 rfl (lv_at hl 1 rfl) ?_
      refine lv_iload hx hb dX4_bestMinute_20 (lv_at hl 4 rfl) ?_
      refine g_cVi (Wd := WX q ad) (z := z) (As := [.int x1, .int x4]) (rest := []) hG S (kX4_mostAlike l D q ad A hD z x1 x4 _ h) (cwV 2 ht (cW_V (fun _ h => h) tw_co_X4_mostAlike tw_ml_X4_65 tw_im_X4_mostAlike tw_se_X4_mostAlike tw_in_X4) rfl rfl rfl (by decide +kernel) ⟨by decide, by decide⟩) (va_recv hK hP (ci := 4) (q0 := 33) rfl (wx_33 q ad z)) hE hP hS rfl hl.1 rfl (Nat.le_of_ble_eq_true rfl) dX4_bestMinute_22 ⟨Nat.zero_le _, Nat.zero_le _⟩ (fun r22 z22 H locs h hP hS => ?_)
      refine lv_istore (lv' := [(5, .int r22), (0, .ref (ad 33)), (1, .int x1), (2, .int x2), (3, .int x3), (4, .int x4)]) hx hb dX4_bestMinute_25 hl (by decide) rfl (fun ls hl => ?_)
      refine lv_iload hx hb dX4_bestMinute_27 (lv_at hl 0 rfl) ?_
      refine lv_iload_n hx hb dX4_bestMinute_29 rfl (lv_at hl 3 rfl) ?_
      refine lv_icmp_ge (tgt := 39) hx hb dX4_bestMinute_30 (by decide) (fun c30 => ?_) (fun c30 => ?_)
      · have h := h.1 c30
        exact B39 rec11 hrec11 z22 x1 x2 x3 x4 _ _ _ h hP hS (lv_sub hl [1, 2, 3, 4, 5] rfl)
      · have h := h.2 c30
        refine lv_iload hx hb dX4_bestMinute_33 (lv_at hl 0 rfl) ?_
        refine lv_istore_n (lv' := [(2, .int r22), (5, .int r22), (0, .ref (ad 33)), (1, .int x1), (3, .int x3), (4, .int x4)]) hx hb dX4_bestMinute_35 rfl hl (by decide) rfl (fun ls hl => ?_)
        refine lv_iload hx hb dX4_bestMinute_36 (lv_at hl 5 rfl) ?_
        refine lv_istore_n (lv' := [(3, .int x4), (2, .int r22), (5, .int r22), (0, .ref (ad 33)), (1, .int x1), (4, .int x4)]) hx hb dX4_bestMinute_38 rfl hl (by decide) rfl (fun ls hl => ?_)
        exact B39 rec11 hrec11 z22 x1 r22 x4 x4 _ _ _ h hP hS (lv_sub hl [3, 4, 1, 0, 5] rfl)
  have L11 : ∀ (n : Nat) (z : MX) (x1 : Int32) (x2 : Int32) (x3 : Int32) (x4 : Int32) (H : Heap) (locs : List Loc) (ls : Array Slot), pX4_bestMinute_L11  post n z x1 x2 x3 x4 → va_P D vwCl (WX q ad z) H → va_S A s.heap H locs → lv_has ls 6 [(0, .ref (ad 33)), (1, .int x1), (2, .int x2), (3, .int x3), (4, .int x4)] → W p l e (headSpec (cW yX4_bestMinute cX4_bestMinute 6 (some .int)) ({ frames := 2, cells := 0, slots := 0, locals := 47 } : Room)).room s m args below meth c H locs 0 0 (MQ below (va_Qi post (gB D vwCl (WX q ad) (xE D q ad A)) A) args s 0 0 A) (F0 m 11 ls []) := by
    intro n
    induction n with
    | zero =>
      intro z x1 x2 x3 x4 H locs ls h
      exact False.elim h
    | succ n ih =>
      intro z x1 x2 x3 x4 H locs ls h hP hS hl
      exact B11 (pX4_bestMinute_L11  post n) ih z x1 x2 x3 x4 H locs ls h hP hS hl
  refine g_entry (vs := [.ref (ad 33), .int x1]) hargs (Nat.le_of_ble_eq_true rfl) (fun ls hl => ?_)
  have hl : lv_has ls 6 [(0, .ref (ad 33)), (1, .int x1)] := hl
  unfold pX4_bestMinute at h
  refine lv_iload_n hx hb dX4_bestMinute_0 rfl (lv_at hl 1 rfl) ?_
  refine g_cSi (Wd := WX q ad) (z := z) (As := [.int x1]) (rest := []) hG S (kJ6_bitCount_0f7a4 l D q ad A hD z x1 _ h) (va_cwS 1 ht (cW_S (fun _ h => h) tw_co_J6_bitCount_0f7a4 tw_ml_X4_59 tw_st_J6_bitCount_0f7a4 tw_in_J6) rfl rfl rfl (by decide +kernel) ⟨by decide, by decide⟩) hE hP hS rfl hl.1 rfl (Nat.le_of_ble_eq_true rfl) dX4_bestMinute_1 ⟨Nat.zero_le _, Nat.zero_le _⟩ (fun r1 z1 H locs h hP hS => ?_)
  refine lv_istore_n (lv' := [(2, .int r1), (0, .ref (ad 33)), (1, .int x1)]) hx hb dX4_bestMinute_4 rfl hl (by decide) rfl (fun ls hl => ?_)
  refine lv_bipush (v := (-4 : Int32)) hx hb dX4_bestMinute_5 (by decide) ?_
  refine lv_istore_n (lv' := [(3, .int (-4 : Int32)), (2, .int r1), (0, .ref (ad 33)), (1, .int x1)]) hx hb dX4_bestMinute_7 rfl hl (by decide) rfl (fun ls hl => ?_)
  refine lv_iconst (v := (0 : Int32)) hx hb dX4_bestMinute_8 (by decide) ?_
  refine lv_istore (lv' := [(4, .int (0 : Int32)), (3, .int (-4 : Int32)), (2, .int r1), (0, .ref (ad 33)), (1, .int x1)]) hx hb dX4_bestMinute_9 hl (by decide) rfl (fun ls hl => ?_)
  obtain ⟨n, h⟩ := h
  exact L11 n z1 x1 r1 (-4 : Int32) (0 : Int32) _ _ _ h hP hS (lv_sub hl [3, 4, 2, 1, 0] rfl)
def pX6_isSmaller_b17 (post : Int32 → MX → Prop) (z : MX) : Prop :=
    (((1 : Int32) = 0 ∨ (1 : Int32) = 1) ∧ post (1 : Int32) z)
def pX6_isSmaller (z : MX) (x1 : Int32) (x2 : Int32) (post : Int32 → MX → Prop) : Prop :=
  ((x2 = (-4 : Int32) →
    pX6_isSmaller_b17  post z) ∧
  (¬ x2 = (-4 : Int32) →
    pJ6_bitCount_0f7a4 z x1 (fun (r7 : Int32) (z7 : MX) =>
    pJ6_bitCount_0f7a4 z7 x2 (fun (r11 : Int32) (z11 : MX) =>
    ((r11 ≤ r7 →
      (((0 : Int32) = 0 ∨ (0 : Int32) = 1) ∧ post (0 : Int32) z11)) ∧
    (¬ r11 ≤ r7 →
      pX6_isSmaller_b17  post z11))))))
set_option maxHeartbeats 4000000 in
set_option maxRecDepth 100000 in
theorem kX6_isSmaller (l : Launch) (D : va_G) (q : Nat → ClassId) (ad : Nat → Nat) (A : Nat → Prop) (hD : ∀ z, va_D A (WX q ad z)) (z : MX) (x1 : Int32) (x2 : Int32) (post : Int32 → MX → Prop) (h : pX6_isSmaller  z x1 x2 post) : Met l yX6_isSmaller (cW yX6_isSmaller cX6_isSmaller 3 (some .boolean)) ({ frames := 1, cells := 0, slots := 0, locals := 20 } : Room) (va_Pc [.ref (ad 31), .int x1, .int x2] ((gB D vwCl (WX q ad) (xE D q ad A)) z)) (va_Qi post (gB D vwCl (WX q ad) (xE D q ad A)) A) 0 0 A := by
  refine Met.ofW (cc := cX6_isSmaller) (maxL := 3) (ret := (some .boolean)) (by decide) rfl ?_
  intro p e s m args below meth c s₁ B hml hv
  obtain ⟨hargs, hP, hE⟩ := hv
  have hx := B.exec
  have hb := B.bytes
  have hr := B.returns
  have hts := atoms_spec (ws := (cW yX6_isSmaller cX6_isSmaller 3 (some .boolean))) B.pre
  have ht : ∀ w ∈ tG, w.before args s = true := fun w h => hts w (List.mem_cons_of_mem _ h)
  have hown : s.vm.findClass RX6 = some m.cls := findClass_of_methodNamed B.named
  have hlocks := B.notSynchronized
  have hK := hE.1
  have hG := xE_G D q ad A
  have S : CallFix p m c cX6_isSmaller 3 s args tG RX6 := ⟨hx, hb, hml, hown, ht⟩
  have hS : va_S A s.heap s.heap [] := va_S.rf
  have B17 : ∀ (z : MX) (H : Heap) (locs : List Loc) (ls : Array Slot), pX6_isSmaller_b17  post z → va_P D vwCl (WX q ad z) H → va_S A s.heap H locs → lv_has ls 3 [] → W p l e (headSpec (cW yX6_isSmaller cX6_isSmaller 3 (some .boolean)) ({ frames := 1, cells := 0, slots := 0, locals := 20 } : Room)).room s m args below meth c H locs 0 0 (MQ below (va_Qi post (gB D vwCl (WX q ad) (xE D q ad A)) A) args s 0 0 A) (F0 m 17 ls []) := by
    intro z H locs ls h hP hS hl
    unfold pX6_isSmaller_b17 at h
    refine lv_iconst (v := (1 : Int32)) hx hb dX6_isSmaller_17 (by decide) ?_
    refine lv_goto (tgt := 22) hx hb dX6_isSmaller_18 (by decide) ?_
    exact g_rz hG hx hb hr hlocks hE hP hS h dX6_isSmaller_22
  refine g_entry (vs := [.ref (ad 31), .int x1, .int x2]) hargs (Nat.le_of_ble_eq_true rfl) (fun ls hl => ?_)
  have hl : lv_has ls 3 [(0, .ref (ad 31)), (1, .int x1), (2, .int x2)] := hl
  unfold pX6_isSmaller at h
  refine lv_iload_n hx hb dX6_isSmaller_0 rfl (lv_at hl 2 rfl) ?_
  refine lv_bipush (v := (-4 : Int32)) hx hb dX6_isSmaller_1 (by decide) ?_
  refine lv_icmp_eq (tgt := 17) hx hb dX6_isSmaller_3 (by decide) (fun c3 => ?_) (fun c3 => ?_)
  · have h := h.1 c3
    exact B17 z _ _ _ h hP hS (lv_sub hl [] rfl)
  · have h := h.2 c3
    refine lv_iload_n hx hb dX6_isSmaller_6 rfl (lv_at hl 1 rfl) ?_
    refine g_cSi (Wd := WX q ad) (z := z) (As := [.int x1]) (rest := []) hG S (kJ6_bitCount_0f7a4 l D q ad A hD z x1 _ h) (va_cwS 1 ht (cW_S (fun _ h => h) tw_co_J6_bitCount_0f7a4 tw_ml_X6_56 tw_st_J6_bitCount_0f7a4 tw_in_J6) rfl rfl rfl (by decide +kernel) ⟨by decide, by decide⟩) hE hP hS rfl hl.1 rfl (Nat.le_of_ble_eq_true rfl) dX6_isSmaller_7 ⟨Nat.zero_le _, Nat.zero_le _⟩ (fun r7 z7 H locs h hP hS => ?_)
    refine lv_iload_n hx hb dX6_isSmaller_10 rfl (lv_at hl 2 rfl) ?_
    refine g_cSi (Wd := WX q ad) (z := z7) (As := [.int x2]) (rest := [.int r7]) hG S (kJ6_bitCount_0f7a4 l D q ad A hD z7 x2 _ h) (va_cwS 1 ht (cW_S (fun _ h => h) tw_co_J6_bitCount_0f7a4 tw_ml_X6_56 tw_st_J6_bitCount_0f7a4 tw_in_J6) rfl rfl rfl (by decide +kernel) ⟨by decide, by decide⟩) hE hP hS rfl hl.1 rfl (Nat.le_of_ble_eq_true rfl) dX6_isSmaller_11 ⟨Nat.zero_le _, Nat.zero_le _⟩ (fun r11 z11 H locs h hP hS => ?_)
    refine lv_icmp_ge (tgt := 21) hx hb dX6_isSmaller_14 (by decide) (fun c14 => ?_) (fun c14 => ?_)
    · have h := h.1 c14
      refine lv_iconst (v := (0 : Int32)) hx hb dX6_isSmaller_21 (by decide) ?_
      exact g_rz hG hx hb hr hlocks hE hP hS h dX6_isSmaller_22
    · have h := h.2 c14
      exact B17 z11 _ _ _ h hP hS (lv_sub hl [] rfl)
def pX6_fewestGuards_b69 (i : Nat) (rec13 : MX → Int32 → Int32 → Prop) (post : Int32 → MX → Prop) (z : MX) (x2 : Int32) (x3 : Int32) : Prop :=
    ∀ x3_69 : Int32, x3_69 = x3 + (1 : Int32) →
    rec13 z x2 x3_69
def pX6_fewestGuards_b68 (i : Nat) (rec13 : MX → Int32 → Int32 → Prop) (post : Int32 → MX → Prop) (z : MX) (x3 : Int32) (y0 : Int32) : Prop :=
    pX6_fewestGuards_b69 i rec13 post z y0 x3
def pX6_fewestGuards_l13 (i : Nat) (rec13 : MX → Int32 → Int32 → Prop) (post : Int32 → MX → Prop) (z : MX) (x2 : Int32) (x3 : Int32) : Prop :=
    ((((1 : Int32) <<< ((z.1 (4 * i) 0) &&& 31)) ≤ x3 →
      post x2 z) ∧
    (¬ ((1 : Int32) <<< ((z.1 (4 * i) 0) &&& 31)) ≤ x3 →
      pX6_isSmaller z x3 x2 (fun (r26 : Int32) (z26 : MX) =>
      ((r26 = 0 →
        pX6_fewestGuards_b69 i rec13 post z26 x2 x3) ∧
      (¬ r26 = 0 →
        ∀ z37 : MX, z37 = mw z26 (4 * 1) 1 x3 →
        pX2_play 1 z37 (fun (z48 : MX) =>
        ((¬ (z48.1 26 5) = (-4 : Int32) →
          pX6_fewestGuards_b68 i rec13 post z48 x3 x2) ∧
        ((z48.1 26 5) = (-4 : Int32) →
          pX6_fewestGuards_b68 i rec13 post z48 x3 x3))))))))
def pX6_fewestGuards_L13 (i : Nat) (post : Int32 → MX → Prop) : Nat → MX → Int32 → Int32 → Prop
  | 0 => fun _ _ _ => False
  | n + 1 => fun z x2 x3 => pX6_fewestGuards_l13 i (pX6_fewestGuards_L13 i post n) post z x2 x3
def pX6_fewestGuards (i : Nat) (z : MX) (post : Int32 → MX → Prop) : Prop :=
  pX0_copyFrom 1 i z (fun (z5 : MX) =>
  ∃ n, pX6_fewestGuards_L13 i post n z5 (-4 : Int32) (0 : Int32))
set_option maxHeartbeats 4000000 in
set_option maxRecDepth 100000 in
theorem kX6_fewestGuards (l : Launch) (D : va_G) (q : Nat → ClassId) (ad : Nat → Nat) (A : Nat → Prop) (hD : ∀ z, va_D A (WX q ad z)) (i : Nat) (hi : i < 4) (z : MX) (post : Int32 → MX → Prop) (h : pX6_fewestGuards i z post) : Met l yX6_fewestGuards (cW yX6_fewestGuards cX6_fewestGuards 4 (some .int)) ({ frames := 5, cells := 0, slots := 0, locals := 121 } : Room) (va_Pc [.ref (ad 31), .ref (ad (4 * i))] ((gB D vwCl (WX q ad) (xE D q ad A)) z)) (va_Qi post (gB D vwCl (WX q ad) (xE D q ad A)) A) 0 0 A := by
  refine Met.ofW (cc := cX6_fewestGuards) (maxL := 4) (ret := (some .int)) (by decide) rfl ?_
  intro p e s m args below meth c s₁ B hml hv
  obtain ⟨hargs, hP, hE⟩ := hv
  have hx := B.exec
  have hb := B.bytes
  have hr := B.returns
  have hts := atoms_spec (ws := (cW yX6_fewestGuards cX6_fewestGuards 4 (some .int))) B.pre
  have ht : ∀ w ∈ tG, w.before args s = true := fun w h => hts w (List.mem_cons_of_mem _ h)
  have hown : s.vm.findClass RX6 = some m.cls := findClass_of_methodNamed B.named
  have hlocks := B.notSynchronized
  have hK := hE.1
  have hG := xE_G D q ad A
  have S : CallFix p m c cX6_fewestGuards 4 s args tG RX6 := ⟨hx, hb, hml, hown, ht⟩
  have hS : va_S A s.heap s.heap [] := va_S.rf
  have B69 : ∀ (rec13 : MX → Int32 → Int32 → Prop) (hrec13 : ∀ (z : MX) (x2 : Int32) (x3 : Int32) (H : Heap) (locs : List Loc) (ls : Array Slot), rec13 z x2 x3 → va_P D vwCl (WX q ad z) H → va_S A s.heap H locs → lv_has ls 4 [(0, .ref (ad 31)), (1, .ref (ad (4 * i))), (2, .int x2), (3, .int x3)] → W p l e (headSpec (cW yX6_fewestGuards cX6_fewestGuards 4 (some .int)) ({ frames := 5, cells := 0, slots := 0, locals := 121 } : Room)).room s m args below meth c H locs 0 0 (MQ below (va_Qi post (gB D vwCl (WX q ad) (xE D q ad A)) A) args s 0 0 A) (F0 m 13 ls [])) (z : MX) (x2 : Int32) (x3 : Int32) (H : Heap) (locs : List Loc) (ls : Array Slot), pX6_fewestGuards_b69 i rec13 post z x2 x3 → va_P D vwCl (WX q ad z) H → va_S A s.heap H locs → lv_has ls 4 [(0, .ref (ad 31)), (1, .ref (ad (4 * i))), (2, .int x2), (3, .int x3)] → W p l e (headSpec (cW yX6_fewestGuards cX6_fewestGuards 4 (some .int)) ({ frames := 5, cells := 0, slots := 0, locals := 121 } : Room)).room s m args below meth c H locs 0 0 (MQ below (va_Qi post (gB D vwCl (WX q ad) (xE D q ad A)) A) args s 0 0 A) (F0 m 69 ls []) := by
    intro rec13 hrec13 z x2 x3 H locs ls h hP hS hl
    unfold pX6_fewestGuards_b69 at h
    obtain ⟨x3_69, ex3_69⟩ : ∃ w : Int32, w = x3 + (1 : Int32) := ⟨_, rfl⟩
    have h := h x3_69 ex3_69
    refine lv_iinc (v := x3_69) (lv' := [(3, .int x3_69), (0, .ref (ad 31)), (1, .ref (ad (4 * i))), (2, .int x2)]) hx hb dX6_fewestGuards_69 hl (k := 3) rfl (by rw [ex3_69]; rfl) (by decide) rfl (fun ls hl => ?_)
    refine lv_goto (tgt := 13) hx hb dX6_fewestGuards_72 (by decide) ?_
    exact hrec13 z x2 x3_69 _ _ _ h hP hS (lv_sub hl [1, 2, 3, 0] rfl)
  have B68 : ∀ (rec13 : MX → Int32 → Int32 → Prop) (hrec13 : ∀ (z : MX) (x2 : Int32) (x3 : Int32) (H : Heap) (locs : List Loc) (ls : Array Slot), rec13 z x2 x3 → va_P D vwCl (WX q ad z) H → va_S A s.heap H locs → lv_has ls 4 [(0, .ref (ad 31)), (1, .ref (ad (4 * i))), (2, .int x2), (3, .int x3)] → W p l e (headSpec (cW yX6_fewestGuards cX6_fewestGuards 4 (some .int)) ({ frames := 5, cells := 0, slots := 0, locals := 121 } : Room)).room s m args below meth c H locs 0 0 (MQ below (va_Qi post (gB D vwCl (WX q ad) (xE D q ad A)) A) args s 0 0 A) (F0 m 13 ls [])) (z : MX) (x3 : Int32) (y0 : Int32) (H : Heap) (locs : List Loc) (ls : Array Slot), pX6_fewestGuards_b68 i rec13 post z x3 y0 → va_P D vwCl (WX q ad z) H → va_S A s.heap H locs → lv_has ls 4 [(0, .ref (ad 31)), (1, .ref (ad (4 * i))), (3, .int x3)] → W p l e (headSpec (cW yX6_fewestGuards cX6_fewestGuards 4 (some .int)) ({ frames := 5, cells := 0, slots := 0, locals := 121 } : Room)).room s m args below meth c H locs 0 0 (MQ below (va_Qi post (gB D vwCl (WX q ad) (xE D q ad A)) A) args s 0 0 A) (F0 m 68 ls [.int y0]) := by
    intro rec13 hrec13 z x3 y0 H locs ls h hP hS hl
    unfold pX6_fewestGuards_b68 at h
    refine lv_istore_n (lv' := [(2, .int y0), (0, .ref (ad 31)), (1, .ref (ad (4 * i))), (3, .int x3)]) hx hb dX6_fewestGuards_68 rfl hl (by decide) rfl (fun ls hl => ?_)
    exact B69 rec13 hrec13 z y0 x3 _ _ _ h hP hS (lv_sub hl [1, 2, 0, 3] rfl)
  have B13 : ∀ (rec13 : MX → Int32 → Int32 → Prop) (hrec13 : ∀ (z : MX) (x2 : Int32) (x3 : Int32) (H : Heap) (locs : List Loc) (ls : Array Slot), rec13 z x2 x3 → va_P D vwCl (WX q ad z) H → va_S A s.heap H locs → lv_has ls 4 [(0, .ref (ad 31)), (1, .ref (ad (4 * i))), (2, .int x2), (3, .int x3)] → W p l e (headSpec (cW yX6_fewestGuards cX6_fewestGuards 4 (some .int)) ({ frames := 5, cells := 0, slots := 0, locals := 121 } : Room)).room s m args below meth c H locs 0 0 (MQ below (va_Qi post (gB D vwCl (WX q ad) (xE D q ad A)) A) args s 0 0 A) (F0 m 13 ls [])) (z : MX) (x2 : Int32) (x3 : Int32) (H : Heap) (locs : List Loc) (ls : Array Slot), pX6_fewestGuards_l13 i rec13 post z x2 x3 → va_P D vwCl (WX q ad z) H → va_S A s.heap H locs → lv_has ls 4 [(0, .ref (ad 31)), (1, .ref (ad (4 * i))), (2, .int x2), (3, .int x3)] → W p l e (headSpec (cW yX6_fewestGuards cX6_fewestGuards 4 (some .int)) ({ frames := 5, cells := 0, slots := 0, locals := 121 } : Room)).room s m args below meth c H locs 0 0 (MQ below (va_Qi post (gB D vwCl (WX q ad) (xE D q ad A)) A) args s 0 0 A) (F0 m 13 ls []) := by
    intro rec13 hrec13 z x2 x3 H locs ls h hP hS hl
    unfold pX6_fewestGuards_l13 at h
    refine lv_iload_n hx hb dX6_fewestGuards_13 rfl (lv_at hl 3 rfl) ?_
    refine lv_iconst (v := (1 : Int32)) hx hb dX6_fewestGuards_14 (by decide) ?_
    refine lv_aload_n hx hb dX6_fewestGuards_15 rfl (lv_at hl 1 rfl) ?_
    refine va_get (D := D) (ci := 0) (v := .int (z.1 (4 * i) 0)) (C := RX0) (T := TX0) (N := 7) hx hb ht tl_X0 hown hK hP (4 * i) (wxl q ad z hi) rfl 0 (by decide) (ht _ tw_fl_X6_25) (fun _ h9 => h9) rfl dX6_fewestGuards_16 ?_
    refine lv_ishl hx hb dX6_fewestGuards_19 ?_
    refine lv_icmp_ge (tgt := 75) hx hb dX6_fewestGuards_20 (by decide) (fun c20 => ?_) (fun c20 => ?_)
    · have h := h.1 c20
      refine lv_iload_n hx hb dX6_fewestGuards_75 rfl (lv_at hl 2 rfl) ?_
      exact g_ri hG hx hb hr hlocks hE hP hS h dX6_fewestGuards_76
    · have h := h.2 c20
      refine lv_aload_n hx hb dX6_fewestGuards_23 rfl (lv_at hl 0 rfl) ?_
      refine lv_iload_n hx hb dX6_fewestGuards_24 rfl (lv_at hl 3 rfl) ?_
      refine lv_iload_n hx hb dX6_fewestGuards_25 rfl (lv_at hl 2 rfl) ?_
      refine g_cVi (Wd := WX q ad) (z := z) (As := [.int x3, .int x2]) (rest := []) hG S (kX6_isSmaller l D q ad A hD z x3 x2 _ h) (cwV 2 ht (cW_V (fun _ h => h) tw_co_X6_isSmaller tw_ml_X6_29 tw_im_X6_isSmaller tw_se_X6_isSmaller tw_in_X6) rfl rfl rfl (by decide +kernel) ⟨by decide, by decide⟩) (va_recv hK hP (ci := 6) (q0 := 31) rfl (wx_31 q ad z)) hE hP hS rfl hl.1 rfl (Nat.le_of_ble_eq_true rfl) dX6_fewestGuards_26 ⟨Nat.zero_le _, Nat.zero_le _⟩ (fun r26 z26 H locs h hP hS => ?_)
      refine lv_if_eq (tgt := 69) hx hb dX6_fewestGuards_29 (by decide) (fun c29 => ?_) (fun c29 => ?_)
      · have h := h.1 c29
        exact B69 rec13 hrec13 z26 x2 x3 _ _ _ h hP hS (lv_sub hl [0, 1, 2, 3] rfl)
      · have h := h.2 c29
        refine lv_aload_n hx hb dX6_fewestGuards_32 rfl (lv_at hl 0 rfl) ?_
        refine va_get (D := D) (ci := 6) (v := .ref (ad (4 * 1))) (C := RX6) (T := TX6) (N := 3) hx hb ht tl_X6 hown hK hP 31 (wx_31 q ad z26) rfl 0 (by decide) (ht _ tw_fl_X6_9) (fun _ h9 => h9) rfl dX6_fewestGuards_33 ?_
        refine lv_iload_n hx hb dX6_fewestGuards_36 rfl (lv_at hl 3 rfl) ?_
        refine g_put (D := D) (Wd := WX q ad) (z := z26) (ci := 0) (v := .int x3) (ty := .int) (C := RX0) (T := TX0) (N := 7) hx hb ht tl_X0 tyX0 tyX0_ok nmX0 hown hK hP (hD z26) hS (4 * 1) (wxl q ad z26 (by decide)) rfl 1 (by decide) (ht _ tw_fl_X6_33) (fun _ h9 => h9) rfl rfl rfl rfl (Nat.le_of_ble_eq_true rfl) ((pxl_1 q ad z26 (by decide)) x3) dX6_fewestGuards_37 (fun z37 H locs hz37 hP hS => ?_)
        have h := h z37 hz37
        refine lv_aload_n hx hb dX6_fewestGuards_40 rfl (lv_at hl 0 rfl) ?_
        refine va_get (D := D) (ci := 6) (v := .ref (ad 26)) (C := RX6) (T := TX6) (N := 3) hx hb ht tl_X6 hown hK hP 31 (wx_31 q ad z37) rfl 1 (by decide) (ht _ tw_fl_X6_15) (fun _ h9 => h9) rfl dX6_fewestGuards_41 ?_
        refine lv_aload_n hx hb dX6_fewestGuards_44 rfl (lv_at hl 0 rfl) ?_
        refine va_get (D := D) (ci := 6) (v := .ref (ad (4 * 1))) (C := RX6) (T := TX6) (N := 3) hx hb ht tl_X6 hown hK hP 31 (wx_31 q ad z37) rfl 0 (by decide) (ht _ tw_fl_X6_9) (fun _ h9 => h9) rfl dX6_fewestGuards_45 ?_
        refine g_cVv (Wd := WX q ad) (z := z37) (As := [.ref (ad (4 * 1))]) (rest := []) hG S (kX2_play l D q ad A hD 1 (by decide) z37 _ h) (cwV 1 ht (cW_V (fun _ h => h) tw_co_X2_play tw_ml_X6_36 tw_im_X2_play tw_se_X2_play tw_in_X2) rfl rfl rfl (by decide +kernel) ⟨by decide, by decide⟩) (va_recv hK hP (ci := 2) (q0 := 26) rfl (wx_26 q ad z37)) hE hP hS rfl hl.1 rfl (Nat.le_of_ble_eq_true rfl) dX6_fewestGuards_48 ⟨Nat.zero_le _, Nat.zero_le _⟩ (fun z48 H locs h hP hS => ?_)
        refine lv_aload_n hx hb dX6_fewestGuards_51 rfl (lv_at hl 0 rfl) ?_
        refine va_get (D := D) (ci := 6) (v := .ref (ad 26)) (C := RX6) (T := TX6) (N := 3) hx hb ht tl_X6 hown hK hP 31 (wx_31 q ad z48) rfl 1 (by decide) (ht _ tw_fl_X6_15) (fun _ h9 => h9) rfl dX6_fewestGuards_52 ?_
        refine va_get (D := D) (ci := 2) (v := .int (z48.1 26 5)) (C := RX2) (T := TX2) (N := 13) hx hb ht tl_X2 hown hK hP 26 (wx_26 q ad z48) rfl 5 (by decide) (ht _ tw_fl_X6_41) (fun _ h9 => h9) rfl dX6_fewestGuards_55 ?_
        refine lv_bipush (v := (-4 : Int32)) hx hb dX6_fewestGuards_58 (by decide) ?_
        refine lv_icmp_ne (tgt := 67) hx hb dX6_fewestGuards_60 (by decide) (fun c60 => ?_) (fun c60 => ?_)
        · have h := h.1 c60
          refine lv_iload_n hx hb dX6_fewestGuards_67 rfl (lv_at hl 2 rfl) ?_
          exact B68 rec13 hrec13 z48 x3 x2 _ _ _ h hP hS (lv_sub hl [0, 1, 3] rfl)
        · have h := h.2 c60
          refine lv_iload_n hx hb dX6_fewestGuards_63 rfl (lv_at hl 3 rfl) ?_
          refine lv_goto (tgt := 68) hx hb dX6_fewestGuards_64 (by decide) ?_
          exact B68 rec13 hrec13 z48 x3 x3 _ _ _ h hP hS (lv_sub hl [0, 1, 3] rfl)
  have L13 : ∀ (n : Nat) (z : MX) (x2 : Int32) (x3 : Int32) (H : Heap) (locs : List Loc) (ls : Array Slot), pX6_fewestGuards_L13 i post n z x2 x3 → va_P D vwCl (WX q ad z) H → va_S A s.heap H locs → lv_has ls 4 [(0, .ref (ad 31)), (1, .ref (ad (4 * i))), (2, .int x2), (3, .int x3)] → W p l e (headSpec (cW yX6_fewestGuards cX6_fewestGuards 4 (some .int)) ({ frames := 5, cells := 0, slots := 0, locals := 121 } : Room)).room s m args below meth c H locs 0 0 (MQ below (va_Qi post (gB D vwCl (WX q ad) (xE D q ad A)) A) args s 0 0 A) (F0 m 13 ls []) := by
    intro n
    induction n with
    | zero =>
      intro z x2 x3 H locs ls h
      exact False.elim h
    | succ n ih =>
      intro z x2 x3 H locs ls h hP hS hl
      exact B13 (pX6_fewestGuards_L13 i post n) ih z x2 x3 H locs ls h hP hS hl
  refine g_entry (vs := [.ref (ad 31), .ref (ad (4 * i))]) hargs (Nat.le_of_ble_eq_true rfl) (fun ls hl => ?_)
  have hl : lv_has ls 4 [(0, .ref (ad 31)), (1, .ref (ad (4 * i)))] := hl
  unfold pX6_fewestGuards at h
  refine lv_aload_n hx hb dX6_fewestGuards_0 rfl (lv_at hl 0 rfl) ?_
  refine va_get (D := D) (ci := 6) (v := .ref (ad (4 * 1))) (C := RX6) (T := TX6) (N := 3) hx hb ht tl_X6 hown hK hP 31 (wx_31 q ad z) rfl 0 (by decide) (ht _ tw_fl_X6_9) (fun _ h9 => h9) rfl dX6_fewestGuards_1 ?_
  refine lv_aload_n hx hb dX6_fewestGuards_4 rfl (lv_at hl 1 rfl) ?_
  refine g_cVv (Wd := WX q ad) (z := z) (As := [.ref (ad (4 * i))]) (rest := []) hG S (kX0_copyFrom l D q ad A hD 1 (by decide) i hi z _ h) (cwV 1 ht (cW_V (fun _ h => h) tw_co_X0_copyFrom tw_ml_X6_19 tw_im_X0_copyFrom tw_se_X0_copyFrom tw_in_X0) rfl rfl rfl (by decide +kernel) ⟨by decide, by decide⟩) (va_recv hK hP (ci := 0) (q0 := (4 * 1)) rfl (wxl q ad z (by decide))) hE hP hS rfl hl.1 rfl (Nat.le_of_ble_eq_true rfl) dX6_fewestGuards_5 ⟨Nat.zero_le _, Nat.zero_le _⟩ (fun z5 H locs h hP hS => ?_)
  refine lv_bipush (v := (-4 : Int32)) hx hb dX6_fewestGuards_8 (by decide) ?_
  refine lv_istore_n (lv' := [(2, .int (-4 : Int32)), (0, .ref (ad 31)), (1, .ref (ad (4 * i)))]) hx hb dX6_fewestGuards_10 rfl hl (by decide) rfl (fun ls hl => ?_)
  refine lv_iconst (v := (0 : Int32)) hx hb dX6_fewestGuards_11 (by decide) ?_
  refine lv_istore_n (lv' := [(3, .int (0 : Int32)), (2, .int (-4 : Int32)), (0, .ref (ad 31)), (1, .ref (ad (4 * i)))]) hx hb dX6_fewestGuards_12 rfl hl (by decide) rfl (fun ls hl => ?_)
  obtain ⟨n, h⟩ := h
  exact L13 n z5 (-4 : Int32) (0 : Int32) _ _ _ h hP hS (lv_sub hl [2, 3, 1, 0] rfl)
def pX6_fewestMagpies_b97 (i : Nat) (rec11 : MX → Int32 → Int32 → Int32 → Prop) (post : Int32 → MX → Prop) (z : MX) (x2 : Int32) (x3 : Int32) (x4 : Int32) : Prop :=
    ∀ x4_97 : Int32, x4_97 = x4 + (1 : Int32) →
    rec11 z x2 x3 x4_97
def pX6_fewestMagpies_b96 (i : Nat) (rec11 : MX → Int32 → Int32 → Int32 → Prop) (post : Int32 → MX → Prop) (z : MX) (x2 : Int32) (x4 : Int32) (y0 : Int32) : Prop :=
    pX6_fewestMagpies_b97 i rec11 post z x2 y0 x4
def pX6_fewestMagpies_l11 (i : Nat) (rec11 : MX → Int32 → Int32 → Int32 → Prop) (post : Int32 → MX → Prop) (z : MX) (x2 : Int32) (x3 : Int32) (x4 : Int32) : Prop :=
    ((((1 : Int32) <<< ((z.1 (4 * i) 0) &&& 31)) ≤ x4 →
      post x3 z) ∧
    (¬ ((1 : Int32) <<< ((z.1 (4 * i) 0) &&& 31)) ≤ x4 →
      ((¬ (x4 &&& x2) = 0 →
        pX6_fewestMagpies_b97 i rec11 post z x2 x3 x4) ∧
      ((x4 &&& x2) = 0 →
        pX6_isSmaller z x4 x3 (fun (r33 : Int32) (z33 : MX) =>
        ((r33 = 0 →
          pX6_fewestMagpies_b97 i rec11 post z33 x2 x3 x4) ∧
        (¬ r33 = 0 →
          pX0_allowsOmensIn i z33 (x4 ||| x2) (fun (r44 : Int32) (z44 : MX) =>
          ((r44 = 0 →
            pX6_fewestMagpies_b97 i rec11 post z44 x2 x3 x4) ∧
          (¬ r44 = 0 →
            pX0_copyFrom 1 i z44 (fun (z55 : MX) =>
            pX0_hangMagpiesIn 1 z55 x4 (fun (z64 : MX) =>
            pX2_play 1 z64 (fun (z75 : MX) =>
            ((¬ (z75.1 26 5) = (-4 : Int32) →
              pX6_fewestMagpies_b96 i rec11 post z75 x2 x4 x3) ∧
            ((z75.1 26 5) = (-4 : Int32) →
              pX6_fewestMagpies_b96 i rec11 post z75 x2 x4 x4)))))))))))))))
def pX6_fewestMagpies_L11 (i : Nat) (post : Int32 → MX → Prop) : Nat → MX → Int32 → Int32 → Int32 → Prop
  | 0 => fun _ _ _ _ => False
  | n + 1 => fun z x2 x3 x4 => pX6_fewestMagpies_l11 i (pX6_fewestMagpies_L11 i post n) post z x2 x3 x4
def pX6_fewestMagpies (i : Nat) (z : MX) (post : Int32 → MX → Prop) : Prop :=
  pX0_omenBits i z (fun (r1 : Int32) (z1 : MX) =>
  ∃ n, pX6_fewestMagpies_L11 i post n z1 r1 (-4 : Int32) (0 : Int32))
set_option maxHeartbeats 4000000 in
set_option maxRecDepth 100000 in
theorem kX6_fewestMagpies (l : Launch) (D : va_G) (q : Nat → ClassId) (ad : Nat → Nat) (A : Nat → Prop) (hD : ∀ z, va_D A (WX q ad z)) (i : Nat) (hi : i < 4) (z : MX) (post : Int32 → MX → Prop) (h : pX6_fewestMagpies i z post) : Met l yX6_fewestMagpies (cW yX6_fewestMagpies cX6_fewestMagpies 5 (some .int)) ({ frames := 5, cells := 0, slots := 0, locals := 121 } : Room) (va_Pc [.ref (ad 31), .ref (ad (4 * i))] ((gB D vwCl (WX q ad) (xE D q ad A)) z)) (va_Qi post (gB D vwCl (WX q ad) (xE D q ad A)) A) 0 0 A := by
  refine Met.ofW (cc := cX6_fewestMagpies) (maxL := 5) (ret := (some .int)) (by decide) rfl ?_
  intro p e s m args below meth c s₁ B hml hv
  obtain ⟨hargs, hP, hE⟩ := hv
  have hx := B.exec
  have hb := B.bytes
  have hr := B.returns
  have hts := atoms_spec (ws := (cW yX6_fewestMagpies cX6_fewestMagpies 5 (some .int))) B.pre
  have ht : ∀ w ∈ tG, w.before args s = true := fun w h => hts w (List.mem_cons_of_mem _ h)
  have hown : s.vm.findClass RX6 = some m.cls := findClass_of_methodNamed B.named
  have hlocks := B.notSynchronized
  have hK := hE.1
  have hG := xE_G D q ad A
  have S : CallFix p m c cX6_fewestMagpies 5 s args tG RX6 := ⟨hx, hb, hml, hown, ht⟩
  have hS : va_S A s.heap s.heap [] := va_S.rf
  have B97 : ∀ (rec11 : MX → Int32 → Int32 → Int32 → Prop) (hrec11 : ∀ (z : MX) (x2 : Int32) (x3 : Int32) (x4 : Int32) (H : Heap) (locs : List Loc) (ls : Array Slot), rec11 z x2 x3 x4 → va_P D vwCl (WX q ad z) H → va_S A s.heap H locs → lv_has ls 5 [(0, .ref (ad 31)), (1, .ref (ad (4 * i))), (2, .int x2), (3, .int x3), (4, .int x4)] → W p l e (headSpec (cW yX6_fewestMagpies cX6_fewestMagpies 5 (some .int)) ({ frames := 5, cells := 0, slots := 0, locals := 121 } : Room)).room s m args below meth c H locs 0 0 (MQ below (va_Qi post (gB D vwCl (WX q ad) (xE D q ad A)) A) args s 0 0 A) (F0 m 11 ls [])) (z : MX) (x2 : Int32) (x3 : Int32) (x4 : Int32) (H : Heap) (locs : List Loc) (ls : Array Slot), pX6_fewestMagpies_b97 i rec11 post z x2 x3 x4 → va_P D vwCl (WX q ad z) H → va_S A s.heap H locs → lv_has ls 5 [(0, .ref (ad 31)), (1, .ref (ad (4 * i))), (2, .int x2), (3, .int x3), (4, .int x4)] → W p l e (headSpec (cW yX6_fewestMagpies cX6_fewestMagpies 5 (some .int)) ({ frames := 5, cells := 0, slots := 0, locals := 121 } : Room)).room s m args below meth c H locs 0 0 (MQ below (va_Qi post (gB D vwCl (WX q ad) (xE D q ad A)) A) args s 0 0 A) (F0 m 97 ls []) := by
    intro rec11 hrec11 z x2 x3 x4 H locs ls h hP hS hl
    unfold pX6_fewestMagpies_b97 at h
    obtain ⟨x4_97, ex4_97⟩ : ∃ w : Int32, w = x4 + (1 : Int32) := ⟨_, rfl⟩
    have h := h x4_97 ex4_97
    refine lv_iinc (v := x4_97) (lv' := [(4, .int x4_97), (0, .ref (ad 31)), (1, .ref (ad (4 * i))), (2, .int x2), (3, .int x3)]) hx hb dX6_fewestMagpies_97 hl (k := 4) rfl (by rw [ex4_97]; rfl) (by decide) rfl (fun ls hl => ?_)
    refine lv_goto (tgt := 11) hx hb dX6_fewestMagpies_100 (by decide) ?_
    exact hrec11 z x2 x3 x4_97 _ _ _ h hP hS (lv_sub hl [1, 2, 3, 4, 0] rfl)
  have B96 : ∀ (rec11 : MX → Int32 → Int32 → Int32 → Prop) (hrec11 : ∀ (z : MX) (x2 : Int32) (x3 : Int32) (x4 : Int32) (H : Heap) (locs : List Loc) (ls : Array Slot), rec11 z x2 x3 x4 → va_P D vwCl (WX q ad z) H → va_S A s.heap H locs → lv_has ls 5 [(0, .ref (ad 31)), (1, .ref (ad (4 * i))), (2, .int x2), (3, .int x3), (4, .int x4)] → W p l e (headSpec (cW yX6_fewestMagpies cX6_fewestMagpies 5 (some .int)) ({ frames := 5, cells := 0, slots := 0, locals := 121 } : Room)).room s m args below meth c H locs 0 0 (MQ below (va_Qi post (gB D vwCl (WX q ad) (xE D q ad A)) A) args s 0 0 A) (F0 m 11 ls [])) (z : MX) (x2 : Int32) (x4 : Int32) (y0 : Int32) (H : Heap) (locs : List Loc) (ls : Array Slot), pX6_fewestMagpies_b96 i rec11 post z x2 x4 y0 → va_P D vwCl (WX q ad z) H → va_S A s.heap H locs → lv_has ls 5 [(0, .ref (ad 31)), (1, .ref (ad (4 * i))), (2, .int x2), (4, .int x4)] → W p l e (headSpec (cW yX6_fewestMagpies cX6_fewestMagpies 5 (some .int)) ({ frames := 5, cells := 0, slots := 0, locals := 121 } : Room)).room s m args below meth c H locs 0 0 (MQ below (va_Qi post (gB D vwCl (WX q ad) (xE D q ad A)) A) args s 0 0 A) (F0 m 96 ls [.int y0]) := by
    intro rec11 hrec11 z x2 x4 y0 H locs ls h hP hS hl
    unfold pX6_fewestMagpies_b96 at h
    refine lv_istore_n (lv' := [(3, .int y0), (0, .ref (ad 31)), (1, .ref (ad (4 * i))), (2, .int x2), (4, .int x4)]) hx hb dX6_fewestMagpies_96 rfl hl (by decide) rfl (fun ls hl => ?_)
    exact B97 rec11 hrec11 z x2 y0 x4 _ _ _ h hP hS (lv_sub hl [1, 2, 3, 0, 4] rfl)
  have B11 : ∀ (rec11 : MX → Int32 → Int32 → Int32 → Prop) (hrec11 : ∀ (z : MX) (x2 : Int32) (x3 : Int32) (x4 : Int32) (H : Heap) (locs : List Loc) (ls : Array Slot), rec11 z x2 x3 x4 → va_P D vwCl (WX q ad z) H → va_S A s.heap H locs → lv_has ls 5 [(0, .ref (ad 31)), (1, .ref (ad (4 * i))), (2, .int x2), (3, .int x3), (4, .int x4)] → W p l e (headSpec (cW yX6_fewestMagpies cX6_fewestMagpies 5 (some .int)) ({ frames := 5, cells := 0, slots := 0, locals := 121 } : Room)).room s m args below meth c H locs 0 0 (MQ below (va_Qi post (gB D vwCl (WX q ad) (xE D q ad A)) A) args s 0 0 A) (F0 m 11 ls [])) (z : MX) (x2 : Int32) (x3 : Int32) (x4 : Int32) (H : Heap) (locs : List Loc) (ls : Array Slot), pX6_fewestMagpies_l11 i rec11 post z x2 x3 x4 → va_P D vwCl (WX q ad z) H → va_S A s.heap H locs → lv_has ls 5 [(0, .ref (ad 31)), (1, .ref (ad (4 * i))), (2, .int x2), (3, .int x3), (4, .int x4)] → W p l e (headSpec (cW yX6_fewestMagpies cX6_fewestMagpies 5 (some .int)) ({ frames := 5, cells := 0, slots := 0, locals := 121 } : Room)).room s m args below meth c H locs 0 0 (MQ below (va_Qi post (gB D vwCl (WX q ad) (xE D q ad A)) A) args s 0 0 A) (F0 m 11 ls []) := by
    intro rec11 hrec11 z x2 x3 x4 H locs ls h hP hS hl
    unfold pX6_fewestMagpies_l11 at h
    refine lv_iload hx hb dX6_fewestMagpies_11 (lv_at hl 4 rfl) ?_
    refine lv_iconst (v := (1 : Int32)) hx hb dX6_fewestMagpies_13 (by decide) ?_
    refine lv_aload_n hx hb dX6_fewestMagpies_14 rfl (lv_at hl 1 rfl) ?_
    refine va_get (D := D) (ci := 0) (v := .int (z.1 (4 * i) 0)) (C := RX0) (T := TX0) (N := 7) hx hb ht tl_X0 hown hK hP (4 * i) (wxl q ad z hi) rfl 0 (by decide) (ht _ tw_fl_X6_25) (fun _ h9 => h9) rfl dX6_fewestMagpies_15 ?_
    refine lv_ishl hx hb dX6_fewestMagpies_18 ?_
    refine lv_icmp_ge (tgt := 103) hx hb dX6_fewestMagpies_19 (by decide) (fun c19 => ?_) (fun c19 => ?_)
    · have h := h.1 c19
      refine lv_iload_n hx hb dX6_fewestMagpies_103 rfl (lv_at hl 3 rfl) ?_
      exact g_ri hG hx hb hr hlocks hE hP hS h dX6_fewestMagpies_104
    · have h := h.2 c19
      refine lv_iload hx hb dX6_fewestMagpies_22 (lv_at hl 4 rfl) ?_
      refine lv_iload_n hx hb dX6_fewestMagpies_24 rfl (lv_at hl 2 rfl) ?_
      refine lv_iand hx hb dX6_fewestMagpies_25 ?_
      refine lv_if_ne (tgt := 97) hx hb dX6_fewestMagpies_26 (by decide) (fun c26 => ?_) (fun c26 => ?_)
      · have h := h.1 c26
        exact B97 rec11 hrec11 z x2 x3 x4 _ _ _ h hP hS (lv_sub hl [0, 1, 2, 3, 4] rfl)
      · have h := h.2 c26
        refine lv_aload_n hx hb dX6_fewestMagpies_29 rfl (lv_at hl 0 rfl) ?_
        refine lv_iload hx hb dX6_fewestMagpies_30 (lv_at hl 4 rfl) ?_
        refine lv_iload_n hx hb dX6_fewestMagpies_32 rfl (lv_at hl 3 rfl) ?_
        refine g_cVi (Wd := WX q ad) (z := z) (As := [.int x4, .int x3]) (rest := []) hG S (kX6_isSmaller l D q ad A hD z x4 x3 _ h) (cwV 2 ht (cW_V (fun _ h => h) tw_co_X6_isSmaller tw_ml_X6_29 tw_im_X6_isSmaller tw_se_X6_isSmaller tw_in_X6) rfl rfl rfl (by decide +kernel) ⟨by decide, by decide⟩) (va_recv hK hP (ci := 6) (q0 := 31) rfl (wx_31 q ad z)) hE hP hS rfl hl.1 rfl (Nat.le_of_ble_eq_true rfl) dX6_fewestMagpies_33 ⟨Nat.zero_le _, Nat.zero_le _⟩ (fun r33 z33 H locs h hP hS => ?_)
        refine lv_if_eq (tgt := 97) hx hb dX6_fewestMagpies_36 (by decide) (fun c36 => ?_) (fun c36 => ?_)
        · have h := h.1 c36
          exact B97 rec11 hrec11 z33 x2 x3 x4 _ _ _ h hP hS (lv_sub hl [0, 1, 2, 3, 4] rfl)
        · have h := h.2 c36
          refine lv_aload_n hx hb dX6_fewestMagpies_39 rfl (lv_at hl 1 rfl) ?_
          refine lv_iload hx hb dX6_fewestMagpies_40 (lv_at hl 4 rfl) ?_
          refine lv_iload_n hx hb dX6_fewestMagpies_42 rfl (lv_at hl 2 rfl) ?_
          refine lv_ior hx hb dX6_fewestMagpies_43 ?_
          refine g_cVi (Wd := WX q ad) (z := z33) (As := [.int (x4 ||| x2)]) (rest := []) hG S (kX0_allowsOmensIn l D q ad A hD i hi z33 (x4 ||| x2) _ h) (cwV 1 ht (cW_V (fun _ h => h) tw_co_X0_allowsOmensIn tw_ml_X6_48 tw_im_X0_allowsOmensIn tw_se_X0_allowsOmensIn tw_in_X0) rfl rfl rfl (by decide +kernel) ⟨by decide, by decide⟩) (va_recv hK hP (ci := 0) (q0 := (4 * i)) rfl (wxl q ad z33 hi)) hE hP hS rfl hl.1 rfl (Nat.le_of_ble_eq_true rfl) dX6_fewestMagpies_44 ⟨Nat.zero_le _, Nat.zero_le _⟩ (fun r44 z44 H locs h hP hS => ?_)
          refine lv_if_eq (tgt := 97) hx hb dX6_fewestMagpies_47 (by decide) (fun c47 => ?_) (fun c47 => ?_)
          · have h := h.1 c47
            exact B97 rec11 hrec11 z44 x2 x3 x4 _ _ _ h hP hS (lv_sub hl [0, 1, 2, 3, 4] rfl)
          · have h := h.2 c47
            refine lv_aload_n hx hb dX6_fewestMagpies_50 rfl (lv_at hl 0 rfl) ?_
            refine va_get (D := D) (ci := 6) (v := .ref (ad (4 * 1))) (C := RX6) (T := TX6) (N := 3) hx hb ht tl_X6 hown hK hP 31 (wx_31 q ad z44) rfl 0 (by decide) (ht _ tw_fl_X6_9) (fun _ h9 => h9) rfl dX6_fewestMagpies_51 ?_
            refine lv_aload_n hx hb dX6_fewestMagpies_54 rfl (lv_at hl 1 rfl) ?_
            refine g_cVv (Wd := WX q ad) (z := z44) (As := [.ref (ad (4 * i))]) (rest := []) hG S (kX0_copyFrom l D q ad A hD 1 (by decide) i hi z44 _ h) (cwV 1 ht (cW_V (fun _ h => h) tw_co_X0_copyFrom tw_ml_X6_19 tw_im_X0_copyFrom tw_se_X0_copyFrom tw_in_X0) rfl rfl rfl (by decide +kernel) ⟨by decide, by decide⟩) (va_recv hK hP (ci := 0) (q0 := (4 * 1)) rfl (wxl q ad z44 (by decide))) hE hP hS rfl hl.1 rfl (Nat.le_of_ble_eq_true rfl) dX6_fewestMagpies_55 ⟨Nat.zero_le _, Nat.zero_le _⟩ (fun z55 H locs h hP hS => ?_)
            refine lv_aload_n hx hb dX6_fewestMagpies_58 rfl (lv_at hl 0 rfl) ?_
            refine va_get (D := D) (ci := 6) (v := .ref (ad (4 * 1))) (C := RX6) (T := TX6) (N := 3) hx hb ht tl_X6 hown hK hP 31 (wx_31 q ad z55) rfl 0 (by decide) (ht _ tw_fl_X6_9) (fun _ h9 => h9) rfl dX6_fewestMagpies_59 ?_
            refine lv_iload hx hb dX6_fewestMagpies_62 (lv_at hl 4 rfl) ?_
            refine g_cVv (Wd := WX q ad) (z := z55) (As := [.int x4]) (rest := []) hG S (kX0_hangMagpiesIn l D q ad A hD 1 (by decide) z55 x4 _ h) (cwV 1 ht (cW_V (fun _ h => h) tw_co_X0_hangMagpiesIn tw_ml_X6_52 tw_im_X0_hangMagpiesIn tw_se_X0_hangMagpiesIn tw_in_X0) rfl rfl rfl (by decide +kernel) ⟨by decide, by decide⟩) (va_recv hK hP (ci := 0) (q0 := (4 * 1)) rfl (wxl q ad z55 (by decide))) hE hP hS rfl hl.1 rfl (Nat.le_of_ble_eq_true rfl) dX6_fewestMagpies_64 ⟨Nat.zero_le _, Nat.zero_le _⟩ (fun z64 H locs h hP hS => ?_)
            refine lv_aload_n hx hb dX6_fewestMagpies_67 rfl (lv_at hl 0 rfl) ?_
            refine va_get (D := D) (ci := 6) (v := .ref (ad 26)) (C := RX6) (T := TX6) (N := 3) hx hb ht tl_X6 hown hK hP 31 (wx_31 q ad z64) rfl 1 (by decide) (ht _ tw_fl_X6_15) (fun _ h9 => h9) rfl dX6_fewestMagpies_68 ?_
            refine lv_aload_n hx hb dX6_fewestMagpies_71 rfl (lv_at hl 0 rfl) ?_
            refine va_get (D := D) (ci := 6) (v := .ref (ad (4 * 1))) (C := RX6) (T := TX6) (N := 3) hx hb ht tl_X6 hown hK hP 31 (wx_31 q ad z64) rfl 0 (by decide) (ht _ tw_fl_X6_9) (fun _ h9 => h9) rfl dX6_fewestMagpies_72 ?_
            refine g_cVv (Wd := WX q ad) (z := z64) (As := [.ref (ad (4 * 1))]) (rest := []) hG S (kX2_play l D q ad A hD 1 (by decide) z64 _ h) (cwV 1 ht (cW_V (fun _ h => h) tw_co_X2_play tw_ml_X6_36 tw_im_X2_play tw_se_X2_play tw_in_X2) rfl rfl rfl (by decide +kernel) ⟨by decide, by decide⟩) (va_recv hK hP (ci := 2) (q0 := 26) rfl (wx_26 q ad z64)) hE hP hS rfl hl.1 rfl (Nat.le_of_ble_eq_true rfl) dX6_fewestMagpies_75 ⟨Nat.zero_le _, Nat.zero_le _⟩ (fun z75 H locs h hP hS => ?_)
            refine lv_aload_n hx hb dX6_fewestMagpies_78 rfl (lv_at hl 0 rfl) ?_
            refine va_get (D := D) (ci := 6) (v := .ref (ad 26)) (C := RX6) (T := TX6) (N := 3) hx hb ht tl_X6 hown hK hP 31 (wx_31 q ad z75) rfl 1 (by decide) (ht _ tw_fl_X6_15) (fun _ h9 => h9) rfl dX6_fewestMagpies_79 ?_
            refine va_get (D := D) (ci := 2) (v := .int (z75.1 26 5)) (C := RX2) (T := TX2) (N := 13) hx hb ht tl_X2 hown hK hP 26 (wx_26 q ad z75) rfl 5 (by decide) (ht _ tw_fl_X6_41) (fun _ h9 => h9) rfl dX6_fewestMagpies_82 ?_
            refine lv_bipush (v := (-4 : Int32)) hx hb dX6_fewestMagpies_85 (by decide) ?_
            refine lv_icmp_ne (tgt := 95) hx hb dX6_fewestMagpies_87 (by decide) (fun c87 => ?_) (fun c87 => ?_)
            · have h := h.1 c87
              refine lv_iload_n hx hb dX6_fewestMagpies_95 rfl (lv_at hl 3 rfl) ?_
              exact B96 rec11 hrec11 z75 x2 x4 x3 _ _ _ h hP hS (lv_sub hl [0, 1, 2, 4] rfl)
            · have h := h.2 c87
              refine lv_iload hx hb dX6_fewestMagpies_90 (lv_at hl 4 rfl) ?_
              refine lv_goto (tgt := 96) hx hb dX6_fewestMagpies_92 (by decide) ?_
              exact B96 rec11 hrec11 z75 x2 x4 x4 _ _ _ h hP hS (lv_sub hl [0, 1, 2, 4] rfl)
  have L11 : ∀ (n : Nat) (z : MX) (x2 : Int32) (x3 : Int32) (x4 : Int32) (H : Heap) (locs : List Loc) (ls : Array Slot), pX6_fewestMagpies_L11 i post n z x2 x3 x4 → va_P D vwCl (WX q ad z) H → va_S A s.heap H locs → lv_has ls 5 [(0, .ref (ad 31)), (1, .ref (ad (4 * i))), (2, .int x2), (3, .int x3), (4, .int x4)] → W p l e (headSpec (cW yX6_fewestMagpies cX6_fewestMagpies 5 (some .int)) ({ frames := 5, cells := 0, slots := 0, locals := 121 } : Room)).room s m args below meth c H locs 0 0 (MQ below (va_Qi post (gB D vwCl (WX q ad) (xE D q ad A)) A) args s 0 0 A) (F0 m 11 ls []) := by
    intro n
    induction n with
    | zero =>
      intro z x2 x3 x4 H locs ls h
      exact False.elim h
    | succ n ih =>
      intro z x2 x3 x4 H locs ls h hP hS hl
      exact B11 (pX6_fewestMagpies_L11 i post n) ih z x2 x3 x4 H locs ls h hP hS hl
  refine g_entry (vs := [.ref (ad 31), .ref (ad (4 * i))]) hargs (Nat.le_of_ble_eq_true rfl) (fun ls hl => ?_)
  have hl : lv_has ls 5 [(0, .ref (ad 31)), (1, .ref (ad (4 * i)))] := hl
  unfold pX6_fewestMagpies at h
  refine lv_aload_n hx hb dX6_fewestMagpies_0 rfl (lv_at hl 1 rfl) ?_
  refine g_cVi (Wd := WX q ad) (z := z) (As := []) (rest := []) hG S (kX0_omenBits l D q ad A hD i hi z _ h) (cwV 0 ht (cW_V (fun _ h => h) tw_co_X0_omenBits tw_ml_X6_44 tw_im_X0_omenBits tw_se_X0_omenBits tw_in_X0) rfl rfl rfl (by decide +kernel) ⟨by decide, by decide⟩) (va_recv hK hP (ci := 0) (q0 := (4 * i)) rfl (wxl q ad z hi)) hE hP hS rfl hl.1 rfl (Nat.le_of_ble_eq_true rfl) dX6_fewestMagpies_1 ⟨Nat.zero_le _, Nat.zero_le _⟩ (fun r1 z1 H locs h hP hS => ?_)
  refine lv_istore_n (lv' := [(2, .int r1), (0, .ref (ad 31)), (1, .ref (ad (4 * i)))]) hx hb dX6_fewestMagpies_4 rfl hl (by decide) rfl (fun ls hl => ?_)
  refine lv_bipush (v := (-4 : Int32)) hx hb dX6_fewestMagpies_5 (by decide) ?_
  refine lv_istore_n (lv' := [(3, .int (-4 : Int32)), (2, .int r1), (0, .ref (ad 31)), (1, .ref (ad (4 * i)))]) hx hb dX6_fewestMagpies_7 rfl hl (by decide) rfl (fun ls hl => ?_)
  refine lv_iconst (v := (0 : Int32)) hx hb dX6_fewestMagpies_8 (by decide) ?_
  refine lv_istore (lv' := [(4, .int (0 : Int32)), (3, .int (-4 : Int32)), (2, .int r1), (0, .ref (ad 31)), (1, .ref (ad (4 * i)))]) hx hb dX6_fewestMagpies_9 hl (by decide) rfl (fun ls hl => ?_)
  obtain ⟨n, h⟩ := h
  exact L11 n z1 r1 (-4 : Int32) (0 : Int32) _ _ _ h hP hS (lv_sub hl [3, 4, 2, 1, 0] rfl)
def pX6_allAreHomeCheaper_b42 (post : Int32 → MX → Prop) (z : MX) : Prop :=
    ∀ z50 : MX, z50 = mw z 31 2 (z.1 26 8) →
    (((1 : Int32) = 0 ∨ (1 : Int32) = 1) ∧ post (1 : Int32) z50)
def pX6_allAreHomeCheaper (z : MX) (post : Int32 → MX → Prop) : Prop :=
  (((z.1 26 9) < (z.1 (4 * 1) 3) →
    (((0 : Int32) = 0 ∨ (0 : Int32) = 1) ∧ post (0 : Int32) z)) ∧
  (¬ (z.1 26 9) < (z.1 (4 * 1) 3) →
    (((z.1 31 2) = (-4 : Int32) →
      pX6_allAreHomeCheaper_b42  post z) ∧
    (¬ (z.1 31 2) = (-4 : Int32) →
      (((z.1 26 8) < (z.1 31 2) →
        pX6_allAreHomeCheaper_b42  post z) ∧
      (¬ (z.1 26 8) < (z.1 31 2) →
        (((0 : Int32) = 0 ∨ (0 : Int32) = 1) ∧ post (0 : Int32) z)))))))
set_option maxHeartbeats 4000000 in
set_option maxRecDepth 100000 in
theorem kX6_allAreHomeCheaper (l : Launch) (D : va_G) (q : Nat → ClassId) (ad : Nat → Nat) (A : Nat → Prop) (hD : ∀ z, va_D A (WX q ad z)) (z : MX) (post : Int32 → MX → Prop) (h : pX6_allAreHomeCheaper  z post) : Met l yX6_allAreHomeCheaper (cW yX6_allAreHomeCheaper cX6_allAreHomeCheaper 1 (some .boolean)) ({ frames := 0, cells := 0, slots := 0, locals := 0 } : Room) (va_Pc [.ref (ad 31)] ((gB D vwCl (WX q ad) (xE D q ad A)) z)) (va_Qi post (gB D vwCl (WX q ad) (xE D q ad A)) A) 0 0 A := by
  refine Met.ofW (cc := cX6_allAreHomeCheaper) (maxL := 1) (ret := (some .boolean)) (by decide) rfl ?_
  intro p e s m args below meth c s₁ B hml hv
  obtain ⟨hargs, hP, hE⟩ := hv
  have hx := B.exec
  have hb := B.bytes
  have hr := B.returns
  have hts := atoms_spec (ws := (cW yX6_allAreHomeCheaper cX6_allAreHomeCheaper 1 (some .boolean))) B.pre
  have ht : ∀ w ∈ tG, w.before args s = true := fun w h => hts w (List.mem_cons_of_mem _ h)
  have hown : s.vm.findClass RX6 = some m.cls := findClass_of_methodNamed B.named
  have hlocks := B.notSynchronized
  have hK := hE.1
  have hG := xE_G D q ad A
  have S : CallFix p m c cX6_allAreHomeCheaper 1 s args tG RX6 := ⟨hx, hb, hml, hown, ht⟩
  have hS : va_S A s.heap s.heap [] := va_S.rf
  have B42 : ∀ (z : MX) (H : Heap) (locs : List Loc) (ls : Array Slot), pX6_allAreHomeCheaper_b42  post z → va_P D vwCl (WX q ad z) H → va_S A s.heap H locs → lv_has ls 1 [(0, .ref (ad 31))] → W p l e (headSpec (cW yX6_allAreHomeCheaper cX6_allAreHomeCheaper 1 (some .boolean)) ({ frames := 0, cells := 0, slots := 0, locals := 0 } : Room)).room s m args below meth c H locs 0 0 (MQ below (va_Qi post (gB D vwCl (WX q ad) (xE D q ad A)) A) args s 0 0 A) (F0 m 42 ls []) := by
    intro z H locs ls h hP hS hl
    unfold pX6_allAreHomeCheaper_b42 at h
    refine lv_aload_n hx hb dX6_allAreHomeCheaper_42 rfl (lv_at hl 0 rfl) ?_
    refine lv_aload_n hx hb dX6_allAreHomeCheaper_43 rfl (lv_at hl 0 rfl) ?_
    refine va_get (D := D) (ci := 6) (v := .ref (ad 26)) (C := RX6) (T := TX6) (N := 3) hx hb ht tl_X6 hown hK hP 31 (wx_31 q ad z) rfl 1 (by decide) (ht _ tw_fl_X6_15) (fun _ h9 => h9) rfl dX6_allAreHomeCheaper_44 ?_
    refine va_get (D := D) (ci := 2) (v := .int (z.1 26 8)) (C := RX2) (T := TX2) (N := 13) hx hb ht tl_X2 hown hK hP 26 (wx_26 q ad z) rfl 8 (by decide) (ht _ tw_fl_X6_83) (fun _ h9 => h9) rfl dX6_allAreHomeCheaper_47 ?_
    refine g_put (D := D) (Wd := WX q ad) (z := z) (ci := 6) (v := .int (z.1 26 8)) (ty := .int) (C := RX6) (T := TX6) (N := 3) hx hb ht tl_X6 tyX6 tyX6_ok nmX6 hown hK hP (hD z) hS 31 (wx_31 q ad z) rfl 2 (by decide) (ht _ tw_fl_X6_62) (fun _ h9 => h9) rfl rfl rfl rfl (Nat.le_of_ble_eq_true rfl) ((px_31_2 q ad z) (z.1 26 8)) dX6_allAreHomeCheaper_50 (fun z50 H locs hz50 hP hS => ?_)
    have h := h z50 hz50
    refine lv_iconst (v := (1 : Int32)) hx hb dX6_allAreHomeCheaper_53 (by decide) ?_
    exact g_rz hG hx hb hr hlocks hE hP hS h dX6_allAreHomeCheaper_54
  refine g_entry (vs := [.ref (ad 31)]) hargs (Nat.le_of_ble_eq_true rfl) (fun ls hl => ?_)
  have hl : lv_has ls 1 [(0, .ref (ad 31))] := hl
  unfold pX6_allAreHomeCheaper at h
  refine lv_aload_n hx hb dX6_allAreHomeCheaper_0 rfl (lv_at hl 0 rfl) ?_
  refine va_get (D := D) (ci := 6) (v := .ref (ad 26)) (C := RX6) (T := TX6) (N := 3) hx hb ht tl_X6 hown hK hP 31 (wx_31 q ad z) rfl 1 (by decide) (ht _ tw_fl_X6_15) (fun _ h9 => h9) rfl dX6_allAreHomeCheaper_1 ?_
  refine va_get (D := D) (ci := 2) (v := .int (z.1 26 9)) (C := RX2) (T := TX2) (N := 13) hx hb ht tl_X2 hown hK hP 26 (wx_26 q ad z) rfl 9 (by decide) (ht _ tw_fl_X6_80) (fun _ h9 => h9) rfl dX6_allAreHomeCheaper_4 ?_
  refine lv_aload_n hx hb dX6_allAreHomeCheaper_7 rfl (lv_at hl 0 rfl) ?_
  refine va_get (D := D) (ci := 6) (v := .ref (ad (4 * 1))) (C := RX6) (T := TX6) (N := 3) hx hb ht tl_X6 hown hK hP 31 (wx_31 q ad z) rfl 0 (by decide) (ht _ tw_fl_X6_9) (fun _ h9 => h9) rfl dX6_allAreHomeCheaper_8 ?_
  refine va_get (D := D) (ci := 0) (v := .int (z.1 (4 * 1) 3)) (C := RX0) (T := TX0) (N := 7) hx hb ht tl_X0 hown hK hP (4 * 1) (wxl q ad z (by decide)) rfl 3 (by decide) (ht _ tw_fl_X6_69) (fun _ h9 => h9) rfl dX6_allAreHomeCheaper_11 ?_
  refine lv_icmp_lt (tgt := 40) hx hb dX6_allAreHomeCheaper_14 (by decide) (fun c14 => ?_) (fun c14 => ?_)
  · have h := h.1 c14
    refine lv_iconst (v := (0 : Int32)) hx hb dX6_allAreHomeCheaper_40 (by decide) ?_
    exact g_rz hG hx hb hr hlocks hE hP hS h dX6_allAreHomeCheaper_41
  · have h := h.2 c14
    refine lv_aload_n hx hb dX6_allAreHomeCheaper_17 rfl (lv_at hl 0 rfl) ?_
    refine va_get (D := D) (ci := 6) (v := .int (z.1 31 2)) (C := RX6) (T := TX6) (N := 3) hx hb ht tl_X6 hown hK hP 31 (wx_31 q ad z) rfl 2 (by decide) (ht _ tw_fl_X6_62) (fun _ h9 => h9) rfl dX6_allAreHomeCheaper_18 ?_
    refine lv_bipush (v := (-4 : Int32)) hx hb dX6_allAreHomeCheaper_21 (by decide) ?_
    refine lv_icmp_eq (tgt := 42) hx hb dX6_allAreHomeCheaper_23 (by decide) (fun c23 => ?_) (fun c23 => ?_)
    · have h := h.1 c23
      exact B42 z _ _ _ h hP hS (lv_sub hl [0] rfl)
    · have h := h.2 c23
      refine lv_aload_n hx hb dX6_allAreHomeCheaper_26 rfl (lv_at hl 0 rfl) ?_
      refine va_get (D := D) (ci := 6) (v := .ref (ad 26)) (C := RX6) (T := TX6) (N := 3) hx hb ht tl_X6 hown hK hP 31 (wx_31 q ad z) rfl 1 (by decide) (ht _ tw_fl_X6_15) (fun _ h9 => h9) rfl dX6_allAreHomeCheaper_27 ?_
      refine va_get (D := D) (ci := 2) (v := .int (z.1 26 8)) (C := RX2) (T := TX2) (N := 13) hx hb ht tl_X2 hown hK hP 26 (wx_26 q ad z) rfl 8 (by decide) (ht _ tw_fl_X6_83) (fun _ h9 => h9) rfl dX6_allAreHomeCheaper_30 ?_
      refine lv_aload_n hx hb dX6_allAreHomeCheaper_33 rfl (lv_at hl 0 rfl) ?_
      refine va_get (D := D) (ci := 6) (v := .int (z.1 31 2)) (C := RX6) (T := TX6) (N := 3) hx hb ht tl_X6 hown hK hP 31 (wx_31 q ad z) rfl 2 (by decide) (ht _ tw_fl_X6_62) (fun _ h9 => h9) rfl dX6_allAreHomeCheaper_34 ?_
      refine lv_icmp_lt (tgt := 42) hx hb dX6_allAreHomeCheaper_37 (by decide) (fun c37 => ?_) (fun c37 => ?_)
      · have h := h.1 c37
        exact B42 z _ _ _ h hP hS (lv_sub hl [0] rfl)
      · have h := h.2 c37
        refine lv_iconst (v := (0 : Int32)) hx hb dX6_allAreHomeCheaper_40 (by decide) ?_
        exact g_rz hG hx hb hr hlocks hE hP hS h dX6_allAreHomeCheaper_41
def pX6_cheapestGuards_b60 (i : Nat) (rec19 : MX → Int32 → Int32 → Prop) (post : Int32 → MX → Prop) (z : MX) (x3 : Int32) (y0 : Int32) : Prop :=
    ∀ x3_61 : Int32, x3_61 = x3 + (1 : Int32) →
    rec19 z y0 x3_61
def pX6_cheapestGuards_l19 (i : Nat) (rec19 : MX → Int32 → Int32 → Prop) (post : Int32 → MX → Prop) (z : MX) (x2 : Int32) (x3 : Int32) : Prop :=
    ((((1 : Int32) <<< ((z.1 (4 * i) 0) &&& 31)) ≤ x3 →
      post x2 z) ∧
    (¬ ((1 : Int32) <<< ((z.1 (4 * i) 0) &&& 31)) ≤ x3 →
      ∀ z34 : MX, z34 = mw z (4 * 1) 1 x3 →
      pX2_play 1 z34 (fun (z45 : MX) =>
      pX6_allAreHomeCheaper z45 (fun (r49 : Int32) (z49 : MX) =>
      ((r49 = 0 →
        pX6_cheapestGuards_b60 i rec19 post z49 x3 x2) ∧
      (¬ r49 = 0 →
        pX6_cheapestGuards_b60 i rec19 post z49 x3 x3))))))
def pX6_cheapestGuards_L19 (i : Nat) (post : Int32 → MX → Prop) : Nat → MX → Int32 → Int32 → Prop
  | 0 => fun _ _ _ => False
  | n + 1 => fun z x2 x3 => pX6_cheapestGuards_l19 i (pX6_cheapestGuards_L19 i post n) post z x2 x3
def pX6_cheapestGuards (i : Nat) (z : MX) (post : Int32 → MX → Prop) : Prop :=
  pX0_copyFrom 1 i z (fun (z5 : MX) =>
  ∀ z11 : MX, z11 = mw z5 31 2 (-4 : Int32) →
  ∃ n, pX6_cheapestGuards_L19 i post n z11 (-4 : Int32) (0 : Int32))
set_option maxHeartbeats 4000000 in
set_option maxRecDepth 100000 in
theorem kX6_cheapestGuards (l : Launch) (D : va_G) (q : Nat → ClassId) (ad : Nat → Nat) (A : Nat → Prop) (hD : ∀ z, va_D A (WX q ad z)) (i : Nat) (hi : i < 4) (z : MX) (post : Int32 → MX → Prop) (h : pX6_cheapestGuards i z post) : Met l yX6_cheapestGuards (cW yX6_cheapestGuards cX6_cheapestGuards 4 (some .int)) ({ frames := 5, cells := 0, slots := 0, locals := 121 } : Room) (va_Pc [.ref (ad 31), .ref (ad (4 * i))] ((gB D vwCl (WX q ad) (xE D q ad A)) z)) (va_Qi post (gB D vwCl (WX q ad) (xE D q ad A)) A) 0 0 A := by
  refine Met.ofW (cc := cX6_cheapestGuards) (maxL := 4) (ret := (some .int)) (by decide) rfl ?_
  intro p e s m args below meth c s₁ B hml hv
  obtain ⟨hargs, hP, hE⟩ := hv
  have hx := B.exec
  have hb := B.bytes
  have hr := B.returns
  have hts := atoms_spec (ws := (cW yX6_cheapestGuards cX6_cheapestGuards 4 (some .int))) B.pre
  have ht : ∀ w ∈ tG, w.before args s = true := fun w h => hts w (List.mem_cons_of_mem _ h)
  have hown : s.vm.findClass RX6 = some m.cls := findClass_of_methodNamed B.named
  have hlocks := B.notSynchronized
  have hK := hE.1
  have hG := xE_G D q ad A
  have S : CallFix p m c cX6_cheapestGuards 4 s args tG RX6 := ⟨hx, hb, hml, hown, ht⟩
  have hS : va_S A s.heap s.heap [] := va_S.rf
  have B60 : ∀ (rec19 : MX → Int32 → Int32 → Prop) (hrec19 : ∀ (z : MX) (x2 : Int32) (x3 : Int32) (H : Heap) (locs : List Loc) (ls : Array Slot), rec19 z x2 x3 → va_P D vwCl (WX q ad z) H → va_S A s.heap H locs → lv_has ls 4 [(0, .ref (ad 31)), (1, .ref (ad (4 * i))), (2, .int x2), (3, .int x3)] → W p l e (headSpec (cW yX6_cheapestGuards cX6_cheapestGuards 4 (some .int)) ({ frames := 5, cells := 0, slots := 0, locals := 121 } : Room)).room s m args below meth c H locs 0 0 (MQ below (va_Qi post (gB D vwCl (WX q ad) (xE D q ad A)) A) args s 0 0 A) (F0 m 19 ls [])) (z : MX) (x3 : Int32) (y0 : Int32) (H : Heap) (locs : List Loc) (ls : Array Slot), pX6_cheapestGuards_b60 i rec19 post z x3 y0 → va_P D vwCl (WX q ad z) H → va_S A s.heap H locs → lv_has ls 4 [(0, .ref (ad 31)), (1, .ref (ad (4 * i))), (3, .int x3)] → W p l e (headSpec (cW yX6_cheapestGuards cX6_cheapestGuards 4 (some .int)) ({ frames := 5, cells := 0, slots := 0, locals := 121 } : Room)).room s m args below meth c H locs 0 0 (MQ below (va_Qi post (gB D vwCl (WX q ad) (xE D q ad A)) A) args s 0 0 A) (F0 m 60 ls [.int y0]) := by
    intro rec19 hrec19 z x3 y0 H locs ls h hP hS hl
    unfold pX6_cheapestGuards_b60 at h
    refine lv_istore_n (lv' := [(2, .int y0), (0, .ref (ad 31)), (1, .ref (ad (4 * i))), (3, .int x3)]) hx hb dX6_cheapestGuards_60 rfl hl (by decide) rfl (fun ls hl => ?_)
    obtain ⟨x3_61, ex3_61⟩ : ∃ w : Int32, w = x3 + (1 : Int32) := ⟨_, rfl⟩
    have h := h x3_61 ex3_61
    refine lv_iinc (v := x3_61) (lv' := [(3, .int x3_61), (2, .int y0), (0, .ref (ad 31)), (1, .ref (ad (4 * i)))]) hx hb dX6_cheapestGuards_61 hl (k := 3) rfl (by rw [ex3_61]; rfl) (by decide) rfl (fun ls hl => ?_)
    refine lv_goto (tgt := 19) hx hb dX6_cheapestGuards_64 (by decide) ?_
    exact hrec19 z y0 x3_61 _ _ _ h hP hS (lv_sub hl [2, 3, 1, 0] rfl)
  have B19 : ∀ (rec19 : MX → Int32 → Int32 → Prop) (hrec19 : ∀ (z : MX) (x2 : Int32) (x3 : Int32) (H : Heap) (locs : List Loc) (ls : Array Slot), rec19 z x2 x3 → va_P D vwCl (WX q ad z) H → va_S A s.heap H locs → lv_has ls 4 [(0, .ref (ad 31)), (1, .ref (ad (4 * i))), (2, .int x2), (3, .int x3)] → W p l e (headSpec (cW yX6_cheapestGuards cX6_cheapestGuards 4 (some .int)) ({ frames := 5, cells := 0, slots := 0, locals := 121 } : Room)).room s m args below meth c H locs 0 0 (MQ below (va_Qi post (gB D vwCl (WX q ad) (xE D q ad A)) A) args s 0 0 A) (F0 m 19 ls [])) (z : MX) (x2 : Int32) (x3 : Int32) (H : Heap) (locs : List Loc) (ls : Array Slot), pX6_cheapestGuards_l19 i rec19 post z x2 x3 → va_P D vwCl (WX q ad z) H → va_S A s.heap H locs → lv_has ls 4 [(0, .ref (ad 31)), (1, .ref (ad (4 * i))), (2, .int x2), (3, .int x3)] → W p l e (headSpec (cW yX6_cheapestGuards cX6_cheapestGuards 4 (some .int)) ({ frames := 5, cells := 0, slots := 0, locals := 121 } : Room)).room s m args below meth c H locs 0 0 (MQ below (va_Qi post (gB D vwCl (WX q ad) (xE D q ad A)) A) args s 0 0 A) (F0 m 19 ls []) := by
    intro rec19 hrec19 z x2 x3 H locs ls h hP hS hl
    unfold pX6_cheapestGuards_l19 at h
    refine lv_iload_n hx hb dX6_cheapestGuards_19 rfl (lv_at hl 3 rfl) ?_
    refine lv_iconst (v := (1 : Int32)) hx hb dX6_cheapestGuards_20 (by decide) ?_
    refine lv_aload_n hx hb dX6_cheapestGuards_21 rfl (lv_at hl 1 rfl) ?_
    refine va_get (D := D) (ci := 0) (v := .int (z.1 (4 * i) 0)) (C := RX0) (T := TX0) (N := 7) hx hb ht tl_X0 hown hK hP (4 * i) (wxl q ad z hi) rfl 0 (by decide) (ht _ tw_fl_X6_25) (fun _ h9 => h9) rfl dX6_cheapestGuards_22 ?_
    refine lv_ishl hx hb dX6_cheapestGuards_25 ?_
    refine lv_icmp_ge (tgt := 67) hx hb dX6_cheapestGuards_26 (by decide) (fun c26 => ?_) (fun c26 => ?_)
    · have h := h.1 c26
      refine lv_iload_n hx hb dX6_cheapestGuards_67 rfl (lv_at hl 2 rfl) ?_
      exact g_ri hG hx hb hr hlocks hE hP hS h dX6_cheapestGuards_68
    · have h := h.2 c26
      refine lv_aload_n hx hb dX6_cheapestGuards_29 rfl (lv_at hl 0 rfl) ?_
      refine va_get (D := D) (ci := 6) (v := .ref (ad (4 * 1))) (C := RX6) (T := TX6) (N := 3) hx hb ht tl_X6 hown hK hP 31 (wx_31 q ad z) rfl 0 (by decide) (ht _ tw_fl_X6_9) (fun _ h9 => h9) rfl dX6_cheapestGuards_30 ?_
      refine lv_iload_n hx hb dX6_cheapestGuards_33 rfl (lv_at hl 3 rfl) ?_
      refine g_put (D := D) (Wd := WX q ad) (z := z) (ci := 0) (v := .int x3) (ty := .int) (C := RX0) (T := TX0) (N := 7) hx hb ht tl_X0 tyX0 tyX0_ok nmX0 hown hK hP (hD z) hS (4 * 1) (wxl q ad z (by decide)) rfl 1 (by decide) (ht _ tw_fl_X6_33) (fun _ h9 => h9) rfl rfl rfl rfl (Nat.le_of_ble_eq_true rfl) ((pxl_1 q ad z (by decide)) x3) dX6_cheapestGuards_34 (fun z34 H locs hz34 hP hS => ?_)
      have h := h z34 hz34
      refine lv_aload_n hx hb dX6_cheapestGuards_37 rfl (lv_at hl 0 rfl) ?_
      refine va_get (D := D) (ci := 6) (v := .ref (ad 26)) (C := RX6) (T := TX6) (N := 3) hx hb ht tl_X6 hown hK hP 31 (wx_31 q ad z34) rfl 1 (by decide) (ht _ tw_fl_X6_15) (fun _ h9 => h9) rfl dX6_cheapestGuards_38 ?_
      refine lv_aload_n hx hb dX6_cheapestGuards_41 rfl (lv_at hl 0 rfl) ?_
      refine va_get (D := D) (ci := 6) (v := .ref (ad (4 * 1))) (C := RX6) (T := TX6) (N := 3) hx hb ht tl_X6 hown hK hP 31 (wx_31 q ad z34) rfl 0 (by decide) (ht _ tw_fl_X6_9) (fun _ h9 => h9) rfl dX6_cheapestGuards_42 ?_
      refine g_cVv (Wd := WX q ad) (z := z34) (As := [.ref (ad (4 * 1))]) (rest := []) hG S (kX2_play l D q ad A hD 1 (by decide) z34 _ h) (cwV 1 ht (cW_V (fun _ h => h) tw_co_X2_play tw_ml_X6_36 tw_im_X2_play tw_se_X2_play tw_in_X2) rfl rfl rfl (by decide +kernel) ⟨by decide, by decide⟩) (va_recv hK hP (ci := 2) (q0 := 26) rfl (wx_26 q ad z34)) hE hP hS rfl hl.1 rfl (Nat.le_of_ble_eq_true rfl) dX6_cheapestGuards_45 ⟨Nat.zero_le _, Nat.zero_le _⟩ (fun z45 H locs h hP hS => ?_)
      refine lv_aload_n hx hb dX6_cheapestGuards_48 rfl (lv_at hl 0 rfl) ?_
      refine g_cVi (Wd := WX q ad) (z := z45) (As := []) (rest := []) hG S (kX6_allAreHomeCheaper l D q ad A hD z45 _ h) (cwV 0 ht (cW_V (fun _ h => h) tw_co_X6_allAreHomeCheaper tw_ml_X6_65 tw_im_X6_allAreHomeCheaper tw_se_X6_allAreHomeCheaper tw_in_X6) rfl rfl rfl (by decide +kernel) ⟨by decide, by decide⟩) (va_recv hK hP (ci := 6) (q0 := 31) rfl (wx_31 q ad z45)) hE hP hS rfl hl.1 rfl (Nat.le_of_ble_eq_true rfl) dX6_cheapestGuards_49 ⟨Nat.zero_le _, Nat.zero_le _⟩ (fun r49 z49 H locs h hP hS => ?_)
      refine lv_if_eq (tgt := 59) hx hb dX6_cheapestGuards_52 (by decide) (fun c52 => ?_) (fun c52 => ?_)
      · have h := h.1 c52
        refine lv_iload_n hx hb dX6_cheapestGuards_59 rfl (lv_at hl 2 rfl) ?_
        exact B60 rec19 hrec19 z49 x3 x2 _ _ _ h hP hS (lv_sub hl [0, 1, 3] rfl)
      · have h := h.2 c52
        refine lv_iload_n hx hb dX6_cheapestGuards_55 rfl (lv_at hl 3 rfl) ?_
        refine lv_goto (tgt := 60) hx hb dX6_cheapestGuards_56 (by decide) ?_
        exact B60 rec19 hrec19 z49 x3 x3 _ _ _ h hP hS (lv_sub hl [0, 1, 3] rfl)
  have L19 : ∀ (n : Nat) (z : MX) (x2 : Int32) (x3 : Int32) (H : Heap) (locs : List Loc) (ls : Array Slot), pX6_cheapestGuards_L19 i post n z x2 x3 → va_P D vwCl (WX q ad z) H → va_S A s.heap H locs → lv_has ls 4 [(0, .ref (ad 31)), (1, .ref (ad (4 * i))), (2, .int x2), (3, .int x3)] → W p l e (headSpec (cW yX6_cheapestGuards cX6_cheapestGuards 4 (some .int)) ({ frames := 5, cells := 0, slots := 0, locals := 121 } : Room)).room s m args below meth c H locs 0 0 (MQ below (va_Qi post (gB D vwCl (WX q ad) (xE D q ad A)) A) args s 0 0 A) (F0 m 19 ls []) := by
    intro n
    induction n with
    | zero =>
      intro z x2 x3 H locs ls h
      exact False.elim h
    | succ n ih =>
      intro z x2 x3 H locs ls h hP hS hl
      exact B19 (pX6_cheapestGuards_L19 i post n) ih z x2 x3 H locs ls h hP hS hl
  refine g_entry (vs := [.ref (ad 31), .ref (ad (4 * i))]) hargs (Nat.le_of_ble_eq_true rfl) (fun ls hl => ?_)
  have hl : lv_has ls 4 [(0, .ref (ad 31)), (1, .ref (ad (4 * i)))] := hl
  unfold pX6_cheapestGuards at h
  refine lv_aload_n hx hb dX6_cheapestGuards_0 rfl (lv_at hl 0 rfl) ?_
  refine va_get (D := D) (ci := 6) (v := .ref (ad (4 * 1))) (C := RX6) (T := TX6) (N := 3) hx hb ht tl_X6 hown hK hP 31 (wx_31 q ad z) rfl 0 (by decide) (ht _ tw_fl_X6_9) (fun _ h9 => h9) rfl dX6_cheapestGuards_1 ?_
  refine lv_aload_n hx hb dX6_cheapestGuards_4 rfl (lv_at hl 1 rfl) ?_
  refine g_cVv (Wd := WX q ad) (z := z) (As := [.ref (ad (4 * i))]) (rest := []) hG S (kX0_copyFrom l D q ad A hD 1 (by decide) i hi z _ h) (cwV 1 ht (cW_V (fun _ h => h) tw_co_X0_copyFrom tw_ml_X6_19 tw_im_X0_copyFrom tw_se_X0_copyFrom tw_in_X0) rfl rfl rfl (by decide +kernel) ⟨by decide, by decide⟩) (va_recv hK hP (ci := 0) (q0 := (4 * 1)) rfl (wxl q ad z (by decide))) hE hP hS rfl hl.1 rfl (Nat.le_of_ble_eq_true rfl) dX6_cheapestGuards_5 ⟨Nat.zero_le _, Nat.zero_le _⟩ (fun z5 H locs h hP hS => ?_)
  refine lv_aload_n hx hb dX6_cheapestGuards_8 rfl (lv_at hl 0 rfl) ?_
  refine lv_bipush (v := (-4 : Int32)) hx hb dX6_cheapestGuards_9 (by decide) ?_
  refine g_put (D := D) (Wd := WX q ad) (z := z5) (ci := 6) (v := .int (-4 : Int32)) (ty := .int) (C := RX6) (T := TX6) (N := 3) hx hb ht tl_X6 tyX6 tyX6_ok nmX6 hown hK hP (hD z5) hS 31 (wx_31 q ad z5) rfl 2 (by decide) (ht _ tw_fl_X6_62) (fun _ h9 => h9) rfl rfl rfl rfl (Nat.le_of_ble_eq_true rfl) ((px_31_2 q ad z5) (-4 : Int32)) dX6_cheapestGuards_11 (fun z11 H locs hz11 hP hS => ?_)
  have h := h z11 hz11
  refine lv_bipush (v := (-4 : Int32)) hx hb dX6_cheapestGuards_14 (by decide) ?_
  refine lv_istore_n (lv' := [(2, .int (-4 : Int32)), (0, .ref (ad 31)), (1, .ref (ad (4 * i)))]) hx hb dX6_cheapestGuards_16 rfl hl (by decide) rfl (fun ls hl => ?_)
  refine lv_iconst (v := (0 : Int32)) hx hb dX6_cheapestGuards_17 (by decide) ?_
  refine lv_istore_n (lv' := [(3, .int (0 : Int32)), (2, .int (-4 : Int32)), (0, .ref (ad 31)), (1, .ref (ad (4 * i)))]) hx hb dX6_cheapestGuards_18 rfl hl (by decide) rfl (fun ls hl => ?_)
  obtain ⟨n, h⟩ := h
  exact L19 n z11 (-4 : Int32) (0 : Int32) _ _ _ h hP hS (lv_sub hl [2, 3, 1, 0] rfl)
def pX7_startIn (z : MX) (x0 : Int32) (x1 : Int32) (x2 : Int32) (post : Int32 → MX → Prop) : Prop :=
  post ((x0 >>> (((2 : Int32) * ((x2 - (1 : Int32)) - x1)) &&& 31)) &&& (3 : Int32)) z
set_option maxHeartbeats 4000000 in
set_option maxRecDepth 100000 in
theorem kX7_startIn (l : Launch) (D : va_G) (q : Nat → ClassId) (ad : Nat → Nat) (A : Nat → Prop) (hD : ∀ z, va_D A (WX q ad z)) (z : MX) (x0 : Int32) (x1 : Int32) (x2 : Int32) (post : Int32 → MX → Prop) (h : pX7_startIn  z x0 x1 x2 post) : Met l yX7_startIn (cW yX7_startIn cX7_startIn 3 (some .int)) ({ frames := 0, cells := 0, slots := 0, locals := 0 } : Room) (va_Pc [.int x0, .int x1, .int x2] ((gB D vwCl (WX q ad) (xE D q ad A)) z)) (va_Qi post (gB D vwCl (WX q ad) (xE D q ad A)) A) 0 0 A := by
  refine Met.ofW (cc := cX7_startIn) (maxL := 3) (ret := (some .int)) (by decide) rfl ?_
  intro p e s m args below meth c s₁ B hml hv
  obtain ⟨hargs, hP, hE⟩ := hv
  have hx := B.exec
  have hb := B.bytes
  have hr := B.returns
  have hts := atoms_spec (ws := (cW yX7_startIn cX7_startIn 3 (some .int))) B.pre
  have ht : ∀ w ∈ tG, w.before args s = true := fun w h => hts w (List.mem_cons_of_mem _ h)
  have hown : s.vm.findClass RX7 = some m.cls := findClass_of_methodNamed B.named
  have hlocks := B.notSynchronized
  have hK := hE.1
  have hG := xE_G D q ad A
  have S : CallFix p m c cX7_startIn 3 s args tG RX7 := ⟨hx, hb, hml, hown, ht⟩
  have hS : va_S A s.heap s.heap [] := va_S.rf
  refine g_entry (vs := [.int x0, .int x1, .int x2]) hargs (Nat.le_of_ble_eq_true rfl) (fun ls hl => ?_)
  have hl : lv_has ls 3 [(0, .int x0), (1, .int x1), (2, .int x2)] := hl
  unfold pX7_startIn at h
  refine lv_iload_n hx hb dX7_startIn_0 rfl (lv_at hl 0 rfl) ?_
  refine lv_iconst (v := (2 : Int32)) hx hb dX7_startIn_1 (by decide) ?_
  refine lv_iload_n hx hb dX7_startIn_2 rfl (lv_at hl 2 rfl) ?_
  refine lv_iconst (v := (1 : Int32)) hx hb dX7_startIn_3 (by decide) ?_
  refine lv_isub hx hb dX7_startIn_4 ?_
  refine lv_iload_n hx hb dX7_startIn_5 rfl (lv_at hl 1 rfl) ?_
  refine lv_isub hx hb dX7_startIn_6 ?_
  refine lv_imul hx hb dX7_startIn_7 ?_
  refine lv_ishr hx hb dX7_startIn_8 ?_
  refine lv_iconst (v := (3 : Int32)) hx hb dX7_startIn_9 (by decide) ?_
  refine lv_iand hx hb dX7_startIn_10 ?_
  exact g_ri hG hx hb hr hlocks hE hP hS h dX7_startIn_11
def pX6_cheapestStarts_b92 (i : Nat) (rec19 : MX → Int32 → Int32 → Prop) (post : Int32 → MX → Prop) (z : MX) (x3 : Int32) (y0 : Int32) : Prop :=
    ∀ x3_93 : Int32, x3_93 = x3 + (1 : Int32) →
    rec19 z y0 x3_93
def pX6_cheapestStarts_l34 (i : Nat) (rec19 : MX → Int32 → Int32 → Prop) (rec34 : MX → Int32 → Int32 → Int32 → Prop) (post : Int32 → MX → Prop) (z : MX) (x2 : Int32) (x3 : Int32) (x4 : Int32) : Prop :=
    (((z.1 (4 * i) 3) ≤ x4 →
      pX2_play 1 z (fun (z77 : MX) =>
      pX6_allAreHomeCheaper z77 (fun (r81 : Int32) (z81 : MX) =>
      ((r81 = 0 →
        pX6_cheapestStarts_b92 i rec19 post z81 x3 x2) ∧
      (¬ r81 = 0 →
        pX6_cheapestStarts_b92 i rec19 post z81 x3 x3))))) ∧
    (¬ (z.1 (4 * i) 3) ≤ x4 →
      pX7_startIn z x3 x4 (z.1 (4 * i) 3) (fun (r57 : Int32) (z57 : MX) =>
      pX0_putFact 1 z57 x4 (2 : Int32) r57 (fun (z60 : MX) =>
      ∀ x4_63 : Int32, x4_63 = x4 + (1 : Int32) →
      rec34 z60 x2 x3 x4_63))))
def pX6_cheapestStarts_L34 (i : Nat) (rec19 : MX → Int32 → Int32 → Prop) (post : Int32 → MX → Prop) : Nat → MX → Int32 → Int32 → Int32 → Prop
  | 0 => fun _ _ _ _ => False
  | n + 1 => fun z x2 x3 x4 => pX6_cheapestStarts_l34 i rec19 (pX6_cheapestStarts_L34 i rec19 post n) post z x2 x3 x4
def pX6_cheapestStarts_l19 (i : Nat) (rec19 : MX → Int32 → Int32 → Prop) (post : Int32 → MX → Prop) (z : MX) (x2 : Int32) (x3 : Int32) : Prop :=
    ((((1 : Int32) <<< (((2 : Int32) * (z.1 (4 * i) 3)) &&& 31)) ≤ x3 →
      post x2 z) ∧
    (¬ ((1 : Int32) <<< (((2 : Int32) * (z.1 (4 * i) 3)) &&& 31)) ≤ x3 →
      ∃ n, pX6_cheapestStarts_L34 i rec19 post n z x2 x3 (0 : Int32)))
def pX6_cheapestStarts_L19 (i : Nat) (post : Int32 → MX → Prop) : Nat → MX → Int32 → Int32 → Prop
  | 0 => fun _ _ _ => False
  | n + 1 => fun z x2 x3 => pX6_cheapestStarts_l19 i (pX6_cheapestStarts_L19 i post n) post z x2 x3
def pX6_cheapestStarts (i : Nat) (z : MX) (post : Int32 → MX → Prop) : Prop :=
  pX0_copyFrom 1 i z (fun (z5 : MX) =>
  ∀ z11 : MX, z11 = mw z5 31 2 (-4 : Int32) →
  ∃ n, pX6_cheapestStarts_L19 i post n z11 (-4 : Int32) (0 : Int32))
set_option maxHeartbeats 4000000 in
set_option maxRecDepth 100000 in
theorem kX6_cheapestStarts (l : Launch) (D : va_G) (q : Nat → ClassId) (ad : Nat → Nat) (A : Nat → Prop) (hD : ∀ z, va_D A (WX q ad z)) (i : Nat) (hi : i < 4) (z : MX) (post : Int32 → MX → Prop) (h : pX6_cheapestStarts i z post) : Met l yX6_cheapestStarts (cW yX6_cheapestStarts cX6_cheapestStarts 5 (some .int)) ({ frames := 5, cells := 0, slots := 0, locals := 121 } : Room) (va_Pc [.ref (ad 31), .ref (ad (4 * i))] ((gB D vwCl (WX q ad) (xE D q ad A)) z)) (va_Qi post (gB D vwCl (WX q ad) (xE D q ad A)) A) 0 0 A := by
  refine Met.ofW (cc := cX6_cheapestStarts) (maxL := 5) (ret := (some .int)) (by decide) rfl ?_
  intro p e s m args below meth c s₁ B hml hv
  obtain ⟨hargs, hP, hE⟩ := hv
  have hx := B.exec
  have hb := B.bytes
  have hr := B.returns
  have hts := atoms_spec (ws := (cW yX6_cheapestStarts cX6_cheapestStarts 5 (some .int))) B.pre
  have ht : ∀ w ∈ tG, w.before args s = true := fun w h => hts w (List.mem_cons_of_mem _ h)
  have hown : s.vm.findClass RX6 = some m.cls := findClass_of_methodNamed B.named
  have hlocks := B.notSynchronized
  have hK := hE.1
  have hG := xE_G D q ad A
  have S : CallFix p m c cX6_cheapestStarts 5 s args tG RX6 := ⟨hx, hb, hml, hown, ht⟩
  have hS : va_S A s.heap s.heap [] := va_S.rf
  have B92 : ∀ (rec19 : MX → Int32 → Int32 → Prop) (hrec19 : ∀ (z : MX) (x2 : Int32) (x3 : Int32) (H : Heap) (locs : List Loc) (ls : Array Slot), rec19 z x2 x3 → va_P D vwCl (WX q ad z) H → va_S A s.heap H locs → lv_has ls 5 [(0, .ref (ad 31)), (1, .ref (ad (4 * i))), (2, .int x2), (3, .int x3)] → W p l e (headSpec (cW yX6_cheapestStarts cX6_cheapestStarts 5 (some .int)) ({ frames := 5, cells := 0, slots := 0, locals := 121 } : Room)).room s m args below meth c H locs 0 0 (MQ below (va_Qi post (gB D vwCl (WX q ad) (xE D q ad A)) A) args s 0 0 A) (F0 m 19 ls [])) (z : MX) (x3 : Int32) (y0 : Int32) (H : Heap) (locs : List Loc) (ls : Array Slot), pX6_cheapestStarts_b92 i rec19 post z x3 y0 → va_P D vwCl (WX q ad z) H → va_S A s.heap H locs → lv_has ls 5 [(0, .ref (ad 31)), (1, .ref (ad (4 * i))), (3, .int x3)] → W p l e (headSpec (cW yX6_cheapestStarts cX6_cheapestStarts 5 (some .int)) ({ frames := 5, cells := 0, slots := 0, locals := 121 } : Room)).room s m args below meth c H locs 0 0 (MQ below (va_Qi post (gB D vwCl (WX q ad) (xE D q ad A)) A) args s 0 0 A) (F0 m 92 ls [.int y0]) := by
    intro rec19 hrec19 z x3 y0 H locs ls h hP hS hl
    unfold pX6_cheapestStarts_b92 at h
    refine lv_istore_n (lv' := [(2, .int y0), (0, .ref (ad 31)), (1, .ref (ad (4 * i))), (3, .int x3)]) hx hb dX6_cheapestStarts_92 rfl hl (by decide) rfl (fun ls hl => ?_)
    obtain ⟨x3_93, ex3_93⟩ : ∃ w : Int32, w = x3 + (1 : Int32) := ⟨_, rfl⟩
    have h := h x3_93 ex3_93
    refine lv_iinc (v := x3_93) (lv' := [(3, .int x3_93), (2, .int y0), (0, .ref (ad 31)), (1, .ref (ad (4 * i)))]) hx hb dX6_cheapestStarts_93 hl (k := 3) rfl (by rw [ex3_93]; rfl) (by decide) rfl (fun ls hl => ?_)
    refine lv_goto (tgt := 19) hx hb dX6_cheapestStarts_96 (by decide) ?_
    exact hrec19 z y0 x3_93 _ _ _ h hP hS (lv_sub hl [2, 3, 1, 0] rfl)
  have B34 : ∀ (rec19 : MX → Int32 → Int32 → Prop) (rec34 : MX → Int32 → Int32 → Int32 → Prop) (hrec19 : ∀ (z : MX) (x2 : Int32) (x3 : Int32) (H : Heap) (locs : List Loc) (ls : Array Slot), rec19 z x2 x3 → va_P D vwCl (WX q ad z) H → va_S A s.heap H locs → lv_has ls 5 [(0, .ref (ad 31)), (1, .ref (ad (4 * i))), (2, .int x2), (3, .int x3)] → W p l e (headSpec (cW yX6_cheapestStarts cX6_cheapestStarts 5 (some .int)) ({ frames := 5, cells := 0, slots := 0, locals := 121 } : Room)).room s m args below meth c H locs 0 0 (MQ below (va_Qi post (gB D vwCl (WX q ad) (xE D q ad A)) A) args s 0 0 A) (F0 m 19 ls [])) (hrec34 : ∀ (z : MX) (x2 : Int32) (x3 : Int32) (x4 : Int32) (H : Heap) (locs : List Loc) (ls : Array Slot), rec34 z x2 x3 x4 → va_P D vwCl (WX q ad z) H → va_S A s.heap H locs → lv_has ls 5 [(0, .ref (ad 31)), (1, .ref (ad (4 * i))), (2, .int x2), (3, .int x3), (4, .int x4)] → W p l e (headSpec (cW yX6_cheapestStarts cX6_cheapestStarts 5 (some .int)) ({ frames := 5, cells := 0, slots := 0, locals := 121 } : Room)).room s m args below meth c H locs 0 0 (MQ below (va_Qi post (gB D vwCl (WX q ad) (xE D q ad A)) A) args s 0 0 A) (F0 m 34 ls [])) (z : MX) (x2 : Int32) (x3 : Int32) (x4 : Int32) (H : Heap) (locs : List Loc) (ls : Array Slot), pX6_cheapestStarts_l34 i rec19 rec34 post z x2 x3 x4 → va_P D vwCl (WX q ad z) H → va_S A s.heap H locs → lv_has ls 5 [(0, .ref (ad 31)), (1, .ref (ad (4 * i))), (2, .int x2), (3, .int x3), (4, .int x4)] → W p l e (headSpec (cW yX6_cheapestStarts cX6_cheapestStarts 5 (some .int)) ({ frames := 5, cells := 0, slots := 0, locals := 121 } : Room)).room s m args below meth c H locs 0 0 (MQ below (va_Qi post (gB D vwCl (WX q ad) (xE D q ad A)) A) args s 0 0 A) (F0 m 34 ls []) := by
    intro rec19 rec34 hrec19 hrec34 z x2 x3 x4 H locs ls h hP hS hl
    unfold pX6_cheapestStarts_l34 at h
    refine lv_iload hx hb dX6_cheapestStarts_34 (lv_at hl 4 rfl) ?_
    refine lv_aload_n hx hb dX6_cheapestStarts_36 rfl (lv_at hl 1 rfl) ?_
    refine va_get (D := D) (ci := 0) (v := .int (z.1 (4 * i) 3)) (C := RX0) (T := TX0) (N := 7) hx hb ht tl_X0 hown hK hP (4 * i) (wxl q ad z hi) rfl 3 (by decide) (ht _ tw_fl_X6_69) (fun _ h9 => h9) rfl dX6_cheapestStarts_37 ?_
    refine lv_icmp_ge (tgt := 69) hx hb dX6_cheapestStarts_40 (by decide) (fun c40 => ?_) (fun c40 => ?_)
    · have h := h.1 c40
      refine lv_aload_n hx hb dX6_cheapestStarts_69 rfl (lv_at hl 0 rfl) ?_
      refine va_get (D := D) (ci := 6) (v := .ref (ad 26)) (C := RX6) (T := TX6) (N := 3) hx hb ht tl_X6 hown hK hP 31 (wx_31 q ad z) rfl 1 (by decide) (ht _ tw_fl_X6_15) (fun _ h9 => h9) rfl dX6_cheapestStarts_70 ?_
      refine lv_aload_n hx hb dX6_cheapestStarts_73 rfl (lv_at hl 0 rfl) ?_
      refine va_get (D := D) (ci := 6) (v := .ref (ad (4 * 1))) (C := RX6) (T := TX6) (N := 3) hx hb ht tl_X6 hown hK hP 31 (wx_31 q ad z) rfl 0 (by decide) (ht _ tw_fl_X6_9) (fun _ h9 => h9) rfl dX6_cheapestStarts_74 ?_
      refine g_cVv (Wd := WX q ad) (z := z) (As := [.ref (ad (4 * 1))]) (rest := []) hG S (kX2_play l D q ad A hD 1 (by decide) z _ h) (cwV 1 ht (cW_V (fun _ h => h) tw_co_X2_play tw_ml_X6_36 tw_im_X2_play tw_se_X2_play tw_in_X2) rfl rfl rfl (by decide +kernel) ⟨by decide, by decide⟩) (va_recv hK hP (ci := 2) (q0 := 26) rfl (wx_26 q ad z)) hE hP hS rfl hl.1 rfl (Nat.le_of_ble_eq_true rfl) dX6_cheapestStarts_77 ⟨Nat.zero_le _, Nat.zero_le _⟩ (fun z77 H locs h hP hS => ?_)
      refine lv_aload_n hx hb dX6_cheapestStarts_80 rfl (lv_at hl 0 rfl) ?_
      refine g_cVi (Wd := WX q ad) (z := z77) (As := []) (rest := []) hG S (kX6_allAreHomeCheaper l D q ad A hD z77 _ h) (cwV 0 ht (cW_V (fun _ h => h) tw_co_X6_allAreHomeCheaper tw_ml_X6_65 tw_im_X6_allAreHomeCheaper tw_se_X6_allAreHomeCheaper tw_in_X6) rfl rfl rfl (by decide +kernel) ⟨by decide, by decide⟩) (va_recv hK hP (ci := 6) (q0 := 31) rfl (wx_31 q ad z77)) hE hP hS rfl hl.1 rfl (Nat.le_of_ble_eq_true rfl) dX6_cheapestStarts_81 ⟨Nat.zero_le _, Nat.zero_le _⟩ (fun r81 z81 H locs h hP hS => ?_)
      refine lv_if_eq (tgt := 91) hx hb dX6_cheapestStarts_84 (by decide) (fun c84 => ?_) (fun c84 => ?_)
      · have h := h.1 c84
        refine lv_iload_n hx hb dX6_cheapestStarts_91 rfl (lv_at hl 2 rfl) ?_
        exact B92 rec19 hrec19 z81 x3 x2 _ _ _ h hP hS (lv_sub hl [0, 1, 3] rfl)
      · have h := h.2 c84
        refine lv_iload_n hx hb dX6_cheapestStarts_87 rfl (lv_at hl 3 rfl) ?_
        refine lv_goto (tgt := 92) hx hb dX6_cheapestStarts_88 (by decide) ?_
        exact B92 rec19 hrec19 z81 x3 x3 _ _ _ h hP hS (lv_sub hl [0, 1, 3] rfl)
    · have h := h.2 c40
      refine lv_aload_n hx hb dX6_cheapestStarts_43 rfl (lv_at hl 0 rfl) ?_
      refine va_get (D := D) (ci := 6) (v := .ref (ad (4 * 1))) (C := RX6) (T := TX6) (N := 3) hx hb ht tl_X6 hown hK hP 31 (wx_31 q ad z) rfl 0 (by decide) (ht _ tw_fl_X6_9) (fun _ h9 => h9) rfl dX6_cheapestStarts_44 ?_
      refine lv_iload hx hb dX6_cheapestStarts_47 (lv_at hl 4 rfl) ?_
      refine lv_iconst (v := (2 : Int32)) hx hb dX6_cheapestStarts_49 (by decide) ?_
      refine lv_iload_n hx hb dX6_cheapestStarts_50 rfl (lv_at hl 3 rfl) ?_
      refine lv_iload hx hb dX6_cheapestStarts_51 (lv_at hl 4 rfl) ?_
      refine lv_aload_n hx hb dX6_cheapestStarts_53 rfl (lv_at hl 1 rfl) ?_
      refine va_get (D := D) (ci := 0) (v := .int (z.1 (4 * i) 3)) (C := RX0) (T := TX0) (N := 7) hx hb ht tl_X0 hown hK hP (4 * i) (wxl q ad z hi) rfl 3 (by decide) (ht _ tw_fl_X6_69) (fun _ h9 => h9) rfl dX6_cheapestStarts_54 ?_
      refine g_cNi (Wd := WX q ad) (z := z) (As := [.int x3, .int x4, .int (z.1 (4 * i) 3)]) (rest := [.int (2 : Int32), .int x4, .ref (ad (4 * 1))]) hG S (kX7_startIn l D q ad A hD z x3 x4 (z.1 (4 * i) 3) _ h) ⟨va_cnB 3 ht (cW_good (fun _ h => h) tw_co_X7_startIn) rfl rfl rfl hE.2.2.2.2.2.1 (ht _ tw_in_X7) (by decide +kernel) ⟨by decide, by decide⟩, ht _ tw_st_X7_startIn, trivial⟩ hE hP hS rfl hl.1 rfl (Nat.le_of_ble_eq_true rfl) dX6_cheapestStarts_57 ⟨Nat.zero_le _, Nat.zero_le _⟩ (fun r57 z57 H locs h hP hS => ?_)
      refine g_cVv (Wd := WX q ad) (z := z57) (As := [.int x4, .int (2 : Int32), .int r57]) (rest := []) hG S (kX0_putFact l D q ad A hD 1 (by decide) z57 x4 (2 : Int32) r57 _ h) (cwV 3 ht (cW_V (fun _ h => h) tw_co_X0_putFact tw_ml_X6_76 tw_im_X0_putFact tw_se_X0_putFact tw_in_X0) rfl rfl rfl (by decide +kernel) ⟨by decide, by decide⟩) (va_recv hK hP (ci := 0) (q0 := (4 * 1)) rfl (wxl q ad z57 (by decide))) hE hP hS rfl hl.1 rfl (Nat.le_of_ble_eq_true rfl) dX6_cheapestStarts_60 ⟨Nat.zero_le _, Nat.zero_le _⟩ (fun z60 H locs h hP hS => ?_)
      obtain ⟨x4_63, ex4_63⟩ : ∃ w : Int32, w = x4 + (1 : Int32) := ⟨_, rfl⟩
      have h := h x4_63 ex4_63
      refine lv_iinc (v := x4_63) (lv' := [(4, .int x4_63), (0, .ref (ad 31)), (1, .ref (ad (4 * i))), (2, .int x2), (3, .int x3)]) hx hb dX6_cheapestStarts_63 hl (k := 4) rfl (by rw [ex4_63]; rfl) (by decide) rfl (fun ls hl => ?_)
      refine lv_goto (tgt := 34) hx hb dX6_cheapestStarts_66 (by decide) ?_
      exact hrec34 z60 x2 x3 x4_63 _ _ _ h hP hS (lv_sub hl [1, 2, 3, 4, 0] rfl)
  have L34 : ∀ (rec19 : MX → Int32 → Int32 → Prop) (hrec19 : ∀ (z : MX) (x2 : Int32) (x3 : Int32) (H : Heap) (locs : List Loc) (ls : Array Slot), rec19 z x2 x3 → va_P D vwCl (WX q ad z) H → va_S A s.heap H locs → lv_has ls 5 [(0, .ref (ad 31)), (1, .ref (ad (4 * i))), (2, .int x2), (3, .int x3)] → W p l e (headSpec (cW yX6_cheapestStarts cX6_cheapestStarts 5 (some .int)) ({ frames := 5, cells := 0, slots := 0, locals := 121 } : Room)).room s m args below meth c H locs 0 0 (MQ below (va_Qi post (gB D vwCl (WX q ad) (xE D q ad A)) A) args s 0 0 A) (F0 m 19 ls [])) (n : Nat) (z : MX) (x2 : Int32) (x3 : Int32) (x4 : Int32) (H : Heap) (locs : List Loc) (ls : Array Slot), pX6_cheapestStarts_L34 i rec19 post n z x2 x3 x4 → va_P D vwCl (WX q ad z) H → va_S A s.heap H locs → lv_has ls 5 [(0, .ref (ad 31)), (1, .ref (ad (4 * i))), (2, .int x2), (3, .int x3), (4, .int x4)] → W p l e (headSpec (cW yX6_cheapestStarts cX6_cheapestStarts 5 (some .int)) ({ frames := 5, cells := 0, slots := 0, locals := 121 } : Room)).room s m args below meth c H locs 0 0 (MQ below (va_Qi post (gB D vwCl (WX q ad) (xE D q ad A)) A) args s 0 0 A) (F0 m 34 ls []) := by
    intro rec19 hrec19 n
    induction n with
    | zero =>
      intro z x2 x3 x4 H locs ls h
      exact False.elim h
    | succ n ih =>
      intro z x2 x3 x4 H locs ls h hP hS hl
      exact B34 rec19 (pX6_cheapestStarts_L34 i rec19 post n) hrec19 ih z x2 x3 x4 H locs ls h hP hS hl
  have B19 : ∀ (rec19 : MX → Int32 → Int32 → Prop) (hrec19 : ∀ (z : MX) (x2 : Int32) (x3 : Int32) (H : Heap) (locs : List Loc) (ls : Array Slot), rec19 z x2 x3 → va_P D vwCl (WX q ad z) H → va_S A s.heap H locs → lv_has ls 5 [(0, .ref (ad 31)), (1, .ref (ad (4 * i))), (2, .int x2), (3, .int x3)] → W p l e (headSpec (cW yX6_cheapestStarts cX6_cheapestStarts 5 (some .int)) ({ frames := 5, cells := 0, slots := 0, locals := 121 } : Room)).room s m args below meth c H locs 0 0 (MQ below (va_Qi post (gB D vwCl (WX q ad) (xE D q ad A)) A) args s 0 0 A) (F0 m 19 ls [])) (z : MX) (x2 : Int32) (x3 : Int32) (H : Heap) (locs : List Loc) (ls : Array Slot), pX6_cheapestStarts_l19 i rec19 post z x2 x3 → va_P D vwCl (WX q ad z) H → va_S A s.heap H locs → lv_has ls 5 [(0, .ref (ad 31)), (1, .ref (ad (4 * i))), (2, .int x2), (3, .int x3)] → W p l e (headSpec (cW yX6_cheapestStarts cX6_cheapestStarts 5 (some .int)) ({ frames := 5, cells := 0, slots := 0, locals := 121 } : Room)).room s m args below meth c H locs 0 0 (MQ below (va_Qi post (gB D vwCl (WX q ad) (xE D q ad A)) A) args s 0 0 A) (F0 m 19 ls []) := by
    intro rec19 hrec19 z x2 x3 H locs ls h hP hS hl
    unfold pX6_cheapestStarts_l19 at h
    refine lv_iload_n hx hb dX6_cheapestStarts_19 rfl (lv_at hl 3 rfl) ?_
    refine lv_iconst (v := (1 : Int32)) hx hb dX6_cheapestStarts_20 (by decide) ?_
    refine lv_iconst (v := (2 : Int32)) hx hb dX6_cheapestStarts_21 (by decide) ?_
    refine lv_aload_n hx hb dX6_cheapestStarts_22 rfl (lv_at hl 1 rfl) ?_
    refine va_get (D := D) (ci := 0) (v := .int (z.1 (4 * i) 3)) (C := RX0) (T := TX0) (N := 7) hx hb ht tl_X0 hown hK hP (4 * i) (wxl q ad z hi) rfl 3 (by decide) (ht _ tw_fl_X6_69) (fun _ h9 => h9) rfl dX6_cheapestStarts_23 ?_
    refine lv_imul hx hb dX6_cheapestStarts_26 ?_
    refine lv_ishl hx hb dX6_cheapestStarts_27 ?_
    refine lv_icmp_ge (tgt := 99) hx hb dX6_cheapestStarts_28 (by decide) (fun c28 => ?_) (fun c28 => ?_)
    · have h := h.1 c28
      refine lv_iload_n hx hb dX6_cheapestStarts_99 rfl (lv_at hl 2 rfl) ?_
      exact g_ri hG hx hb hr hlocks hE hP hS h dX6_cheapestStarts_100
    · have h := h.2 c28
      refine lv_iconst (v := (0 : Int32)) hx hb dX6_cheapestStarts_31 (by decide) ?_
      refine lv_istore (lv' := [(4, .int (0 : Int32)), (0, .ref (ad 31)), (1, .ref (ad (4 * i))), (2, .int x2), (3, .int x3)]) hx hb dX6_cheapestStarts_32 hl (by decide) rfl (fun ls hl => ?_)
      obtain ⟨n, h⟩ := h
      exact L34 rec19 hrec19 n z x2 x3 (0 : Int32) _ _ _ h hP hS (lv_sub hl [1, 2, 3, 4, 0] rfl)
  have L19 : ∀ (n : Nat) (z : MX) (x2 : Int32) (x3 : Int32) (H : Heap) (locs : List Loc) (ls : Array Slot), pX6_cheapestStarts_L19 i post n z x2 x3 → va_P D vwCl (WX q ad z) H → va_S A s.heap H locs → lv_has ls 5 [(0, .ref (ad 31)), (1, .ref (ad (4 * i))), (2, .int x2), (3, .int x3)] → W p l e (headSpec (cW yX6_cheapestStarts cX6_cheapestStarts 5 (some .int)) ({ frames := 5, cells := 0, slots := 0, locals := 121 } : Room)).room s m args below meth c H locs 0 0 (MQ below (va_Qi post (gB D vwCl (WX q ad) (xE D q ad A)) A) args s 0 0 A) (F0 m 19 ls []) := by
    intro n
    induction n with
    | zero =>
      intro z x2 x3 H locs ls h
      exact False.elim h
    | succ n ih =>
      intro z x2 x3 H locs ls h hP hS hl
      exact B19 (pX6_cheapestStarts_L19 i post n) ih z x2 x3 H locs ls h hP hS hl
  refine g_entry (vs := [.ref (ad 31), .ref (ad (4 * i))]) hargs (Nat.le_of_ble_eq_true rfl) (fun ls hl => ?_)
  have hl : lv_has ls 5 [(0, .ref (ad 31)), (1, .ref (ad (4 * i)))] := hl
  unfold pX6_cheapestStarts at h
  refine lv_aload_n hx hb dX6_cheapestStarts_0 rfl (lv_at hl 0 rfl) ?_
  refine va_get (D := D) (ci := 6) (v := .ref (ad (4 * 1))) (C := RX6) (T := TX6) (N := 3) hx hb ht tl_X6 hown hK hP 31 (wx_31 q ad z) rfl 0 (by decide) (ht _ tw_fl_X6_9) (fun _ h9 => h9) rfl dX6_cheapestStarts_1 ?_
  refine lv_aload_n hx hb dX6_cheapestStarts_4 rfl (lv_at hl 1 rfl) ?_
  refine g_cVv (Wd := WX q ad) (z := z) (As := [.ref (ad (4 * i))]) (rest := []) hG S (kX0_copyFrom l D q ad A hD 1 (by decide) i hi z _ h) (cwV 1 ht (cW_V (fun _ h => h) tw_co_X0_copyFrom tw_ml_X6_19 tw_im_X0_copyFrom tw_se_X0_copyFrom tw_in_X0) rfl rfl rfl (by decide +kernel) ⟨by decide, by decide⟩) (va_recv hK hP (ci := 0) (q0 := (4 * 1)) rfl (wxl q ad z (by decide))) hE hP hS rfl hl.1 rfl (Nat.le_of_ble_eq_true rfl) dX6_cheapestStarts_5 ⟨Nat.zero_le _, Nat.zero_le _⟩ (fun z5 H locs h hP hS => ?_)
  refine lv_aload_n hx hb dX6_cheapestStarts_8 rfl (lv_at hl 0 rfl) ?_
  refine lv_bipush (v := (-4 : Int32)) hx hb dX6_cheapestStarts_9 (by decide) ?_
  refine g_put (D := D) (Wd := WX q ad) (z := z5) (ci := 6) (v := .int (-4 : Int32)) (ty := .int) (C := RX6) (T := TX6) (N := 3) hx hb ht tl_X6 tyX6 tyX6_ok nmX6 hown hK hP (hD z5) hS 31 (wx_31 q ad z5) rfl 2 (by decide) (ht _ tw_fl_X6_62) (fun _ h9 => h9) rfl rfl rfl rfl (Nat.le_of_ble_eq_true rfl) ((px_31_2 q ad z5) (-4 : Int32)) dX6_cheapestStarts_11 (fun z11 H locs hz11 hP hS => ?_)
  have h := h z11 hz11
  refine lv_bipush (v := (-4 : Int32)) hx hb dX6_cheapestStarts_14 (by decide) ?_
  refine lv_istore_n (lv' := [(2, .int (-4 : Int32)), (0, .ref (ad 31)), (1, .ref (ad (4 * i)))]) hx hb dX6_cheapestStarts_16 rfl hl (by decide) rfl (fun ls hl => ?_)
  refine lv_iconst (v := (0 : Int32)) hx hb dX6_cheapestStarts_17 (by decide) ?_
  refine lv_istore_n (lv' := [(3, .int (0 : Int32)), (2, .int (-4 : Int32)), (0, .ref (ad 31)), (1, .ref (ad (4 * i)))]) hx hb dX6_cheapestStarts_18 rfl hl (by decide) rfl (fun ls hl => ?_)
  obtain ⟨n, h⟩ := h
  exact L19 n z11 (-4 : Int32) (0 : Int32) _ _ _ h hP hS (lv_sub hl [2, 3, 1, 0] rfl)
def pX6_cheapestConvert_b144 (i : Nat) (post : Int32 → MX → Prop) (z : MX) (x3 : Int32) (y1 : Int32) : Prop :=
    ∀ z144 : MX, z144 = mw z 31 2 y1 →
    post x3 z144
def pX6_cheapestConvert_b102 (i : Nat) (rec33 : MX → Int32 → Int32 → Int32 → Prop) (rec45 : MX → Int32 → Int32 → Int32 → Int32 → Prop) (post : Int32 → MX → Prop) (z : MX) (x2 : Int32) (x3 : Int32) (x4 : Int32) (x5 : Int32) : Prop :=
    ∀ x5_102 : Int32, x5_102 = x5 + (1 : Int32) →
    rec45 z x2 x3 x4 x5_102
def pX6_cheapestConvert_l45 (i : Nat) (rec33 : MX → Int32 → Int32 → Int32 → Prop) (rec45 : MX → Int32 → Int32 → Int32 → Int32 → Prop) (post : Int32 → MX → Prop) (z : MX) (x2 : Int32) (x3 : Int32) (x4 : Int32) (x5 : Int32) : Prop :=
    (((4 : Int32) ≤ x5 →
      pX0_fact i z x4 (0 : Int32) (fun (r119 : Int32) (z119 : MX) =>
      pX0_putFact 1 z119 x4 (0 : Int32) r119 (fun (z122 : MX) =>
      ∀ x4_125 : Int32, x4_125 = x4 + (1 : Int32) →
      rec33 z122 x2 x3 x4_125))) ∧
    (¬ (4 : Int32) ≤ x5 →
      pX0_putFact 1 z x4 (0 : Int32) x5 (fun (z60 : MX) =>
      pX2_play 1 z60 (fun (z71 : MX) =>
      ((x2 ≤ (z71.1 26 8) →
        pX6_cheapestConvert_b102 i rec33 rec45 post z71 x2 x3 x4 x5) ∧
      (¬ x2 ≤ (z71.1 26 8) →
        ∀ x2_92 : Int32, x2_92 = z71.1 26 8 →
        ∀ x3_101 : Int32, x3_101 = ((10 : Int32) * x4) + x5 →
        pX6_cheapestConvert_b102 i rec33 rec45 post z71 x2_92 x3_101 x4 x5))))))
def pX6_cheapestConvert_L45 (i : Nat) (rec33 : MX → Int32 → Int32 → Int32 → Prop) (post : Int32 → MX → Prop) : Nat → MX → Int32 → Int32 → Int32 → Int32 → Prop
  | 0 => fun _ _ _ _ _ => False
  | n + 1 => fun z x2 x3 x4 x5 => pX6_cheapestConvert_l45 i rec33 (pX6_cheapestConvert_L45 i rec33 post n) post z x2 x3 x4 x5
def pX6_cheapestConvert_l33 (i : Nat) (rec33 : MX → Int32 → Int32 → Int32 → Prop) (post : Int32 → MX → Prop) (z : MX) (x2 : Int32) (x3 : Int32) (x4 : Int32) : Prop :=
    (((z.1 (4 * i) 3) ≤ x4 →
      ((¬ x3 = (-4 : Int32) →
        pX6_cheapestConvert_b144 i post z x3 x2) ∧
      (x3 = (-4 : Int32) →
        pX6_cheapestConvert_b144 i post z x3 (-4 : Int32)))) ∧
    (¬ (z.1 (4 * i) 3) ≤ x4 →
      ∃ n, pX6_cheapestConvert_L45 i rec33 post n z x2 x3 x4 (0 : Int32)))
def pX6_cheapestConvert_L33 (i : Nat) (post : Int32 → MX → Prop) : Nat → MX → Int32 → Int32 → Int32 → Prop
  | 0 => fun _ _ _ _ => False
  | n + 1 => fun z x2 x3 x4 => pX6_cheapestConvert_l33 i (pX6_cheapestConvert_L33 i post n) post z x2 x3 x4
def pX6_cheapestConvert (i : Nat) (z : MX) (post : Int32 → MX → Prop) : Prop :=
  pX0_copyFrom 1 i z (fun (z5 : MX) =>
  pX2_play 1 z5 (fun (z16 : MX) =>
  ∀ x2_26 : Int32, x2_26 = z16.1 26 8 →
  ∃ n, pX6_cheapestConvert_L33 i post n z16 x2_26 (-4 : Int32) (0 : Int32)))
set_option maxHeartbeats 4000000 in
set_option maxRecDepth 100000 in
theorem kX6_cheapestConvert (l : Launch) (D : va_G) (q : Nat → ClassId) (ad : Nat → Nat) (A : Nat → Prop) (hD : ∀ z, va_D A (WX q ad z)) (i : Nat) (hi : i < 4) (z : MX) (post : Int32 → MX → Prop) (h : pX6_cheapestConvert i z post) : Met l yX6_cheapestConvert (cW yX6_cheapestConvert cX6_cheapestConvert 6 (some .int)) ({ frames := 5, cells := 0, slots := 0, locals := 121 } : Room) (va_Pc [.ref (ad 31), .ref (ad (4 * i))] ((gB D vwCl (WX q ad) (xE D q ad A)) z)) (va_Qi post (gB D vwCl (WX q ad) (xE D q ad A)) A) 0 0 A := by
  refine Met.ofW (cc := cX6_cheapestConvert) (maxL := 6) (ret := (some .int)) (by decide) rfl ?_
  intro p e s m args below meth c s₁ B hml hv
  obtain ⟨hargs, hP, hE⟩ := hv
  have hx := B.exec
  have hb := B.bytes
  have hr := B.returns
  have hts := atoms_spec (ws := (cW yX6_cheapestConvert cX6_cheapestConvert 6 (some .int))) B.pre
  have ht : ∀ w ∈ tG, w.before args s = true := fun w h => hts w (List.mem_cons_of_mem _ h)
  have hown : s.vm.findClass RX6 = some m.cls := findClass_of_methodNamed B.named
  have hlocks := B.notSynchronized
  have hK := hE.1
  have hG := xE_G D q ad A
  have S : CallFix p m c cX6_cheapestConvert 6 s args tG RX6 := ⟨hx, hb, hml, hown, ht⟩
  have hS : va_S A s.heap s.heap [] := va_S.rf
  have B144 : ∀ (z : MX) (x3 : Int32) (y1 : Int32) (H : Heap) (locs : List Loc) (ls : Array Slot), pX6_cheapestConvert_b144 i post z x3 y1 → va_P D vwCl (WX q ad z) H → va_S A s.heap H locs → lv_has ls 6 [(3, .int x3)] → W p l e (headSpec (cW yX6_cheapestConvert cX6_cheapestConvert 6 (some .int)) ({ frames := 5, cells := 0, slots := 0, locals := 121 } : Room)).room s m args below meth c H locs 0 0 (MQ below (va_Qi post (gB D vwCl (WX q ad) (xE D q ad A)) A) args s 0 0 A) (F0 m 144 ls [.int y1, .ref (ad 31)]) := by
    intro z x3 y1 H locs ls h hP hS hl
    unfold pX6_cheapestConvert_b144 at h
    refine g_put (D := D) (Wd := WX q ad) (z := z) (ci := 6) (v := .int y1) (ty := .int) (C := RX6) (T := TX6) (N := 3) hx hb ht tl_X6 tyX6 tyX6_ok nmX6 hown hK hP (hD z) hS 31 (wx_31 q ad z) rfl 2 (by decide) (ht _ tw_fl_X6_62) (fun _ h9 => h9) rfl rfl rfl rfl (Nat.le_of_ble_eq_true rfl) ((px_31_2 q ad z) y1) dX6_cheapestConvert_144 (fun z144 H locs hz144 hP hS => ?_)
    have h := h z144 hz144
    refine lv_iload_n hx hb dX6_cheapestConvert_147 rfl (lv_at hl 0 rfl) ?_
    exact g_ri hG hx hb hr hlocks hE hP hS h dX6_cheapestConvert_148
  have B102 : ∀ (rec33 : MX → Int32 → Int32 → Int32 → Prop) (rec45 : MX → Int32 → Int32 → Int32 → Int32 → Prop) (hrec33 : ∀ (z : MX) (x2 : Int32) (x3 : Int32) (x4 : Int32) (H : Heap) (locs : List Loc) (ls : Array Slot), rec33 z x2 x3 x4 → va_P D vwCl (WX q ad z) H → va_S A s.heap H locs → lv_has ls 6 [(0, .ref (ad 31)), (1, .ref (ad (4 * i))), (2, .int x2), (3, .int x3), (4, .int x4)] → W p l e (headSpec (cW yX6_cheapestConvert cX6_cheapestConvert 6 (some .int)) ({ frames := 5, cells := 0, slots := 0, locals := 121 } : Room)).room s m args below meth c H locs 0 0 (MQ below (va_Qi post (gB D vwCl (WX q ad) (xE D q ad A)) A) args s 0 0 A) (F0 m 33 ls [])) (hrec45 : ∀ (z : MX) (x2 : Int32) (x3 : Int32) (x4 : Int32) (x5 : Int32) (H : Heap) (locs : List Loc) (ls : Array Slot), rec45 z x2 x3 x4 x5 → va_P D vwCl (WX q ad z) H → va_S A s.heap H locs → lv_has ls 6 [(0, .ref (ad 31)), (1, .ref (ad (4 * i))), (2, .int x2), (3, .int x3), (4, .int x4), (5, .int x5)] → W p l e (headSpec (cW yX6_cheapestConvert cX6_cheapestConvert 6 (some .int)) ({ frames := 5, cells := 0, slots := 0, locals := 121 } : Room)).room s m args below meth c H locs 0 0 (MQ below (va_Qi post (gB D vwCl (WX q ad) (xE D q ad A)) A) args s 0 0 A) (F0 m 45 ls [])) (z : MX) (x2 : Int32) (x3 : Int32) (x4 : Int32) (x5 : Int32) (H : Heap) (locs : List Loc) (ls : Array Slot), pX6_cheapestConvert_b102 i rec33 rec45 post z x2 x3 x4 x5 → va_P D vwCl (WX q ad z) H → va_S A s.heap H locs → lv_has ls 6 [(0, .ref (ad 31)), (1, .ref (ad (4 * i))), (2, .int x2), (3, .int x3), (4, .int x4), (5, .int x5)] → W p l e (headSpec (cW yX6_cheapestConvert cX6_cheapestConvert 6 (some .int)) ({ frames := 5, cells := 0, slots := 0, locals := 121 } : Room)).room s m args below meth c H locs 0 0 (MQ below (va_Qi post (gB D vwCl (WX q ad) (xE D q ad A)) A) args s 0 0 A) (F0 m 102 ls []) := by
    intro rec33 rec45 hrec33 hrec45 z x2 x3 x4 x5 H locs ls h hP hS hl
    unfold pX6_cheapestConvert_b102 at h
    obtain ⟨x5_102, ex5_102⟩ : ∃ w : Int32, w = x5 + (1 : Int32) := ⟨_, rfl⟩
    have h := h x5_102 ex5_102
    refine lv_iinc (v := x5_102) (lv' := [(5, .int x5_102), (0, .ref (ad 31)), (1, .ref (ad (4 * i))), (2, .int x2), (3, .int x3), (4, .int x4)]) hx hb dX6_cheapestConvert_102 hl (k := 5) rfl (by rw [ex5_102]; rfl) (by decide) rfl (fun ls hl => ?_)
    refine lv_goto (tgt := 45) hx hb dX6_cheapestConvert_105 (by decide) ?_
    exact hrec45 z x2 x3 x4 x5_102 _ _ _ h hP hS (lv_sub hl [1, 2, 3, 4, 5, 0] rfl)
  have B45 : ∀ (rec33 : MX → Int32 → Int32 → Int32 → Prop) (rec45 : MX → Int32 → Int32 → Int32 → Int32 → Prop) (hrec33 : ∀ (z : MX) (x2 : Int32) (x3 : Int32) (x4 : Int32) (H : Heap) (locs : List Loc) (ls : Array Slot), rec33 z x2 x3 x4 → va_P D vwCl (WX q ad z) H → va_S A s.heap H locs → lv_has ls 6 [(0, .ref (ad 31)), (1, .ref (ad (4 * i))), (2, .int x2), (3, .int x3), (4, .int x4)] → W p l e (headSpec (cW yX6_cheapestConvert cX6_cheapestConvert 6 (some .int)) ({ frames := 5, cells := 0, slots := 0, locals := 121 } : Room)).room s m args below meth c H locs 0 0 (MQ below (va_Qi post (gB D vwCl (WX q ad) (xE D q ad A)) A) args s 0 0 A) (F0 m 33 ls [])) (hrec45 : ∀ (z : MX) (x2 : Int32) (x3 : Int32) (x4 : Int32) (x5 : Int32) (H : Heap) (locs : List Loc) (ls : Array Slot), rec45 z x2 x3 x4 x5 → va_P D vwCl (WX q ad z) H → va_S A s.heap H locs → lv_has ls 6 [(0, .ref (ad 31)), (1, .ref (ad (4 * i))), (2, .int x2), (3, .int x3), (4, .int x4), (5, .int x5)] → W p l e (headSpec (cW yX6_cheapestConvert cX6_cheapestConvert 6 (some .int)) ({ frames := 5, cells := 0, slots := 0, locals := 121 } : Room)).room s m args below meth c H locs 0 0 (MQ below (va_Qi post (gB D vwCl (WX q ad) (xE D q ad A)) A) args s 0 0 A) (F0 m 45 ls [])) (z : MX) (x2 : Int32) (x3 : Int32) (x4 : Int32) (x5 : Int32) (H : Heap) (locs : List Loc) (ls : Array Slot), pX6_cheapestConvert_l45 i rec33 rec45 post z x2 x3 x4 x5 → va_P D vwCl (WX q ad z) H → va_S A s.heap H locs → lv_has ls 6 [(0, .ref (ad 31)), (1, .ref (ad (4 * i))), (2, .int x2), (3, .int x3), (4, .int x4), (5, .int x5)] → W p l e (headSpec (cW yX6_cheapestConvert cX6_cheapestConvert 6 (some .int)) ({ frames := 5, cells := 0, slots := 0, locals := 121 } : Room)).room s m args below meth c H locs 0 0 (MQ below (va_Qi post (gB D vwCl (WX q ad) (xE D q ad A)) A) args s 0 0 A) (F0 m 45 ls []) := by
    intro rec33 rec45 hrec33 hrec45 z x2 x3 x4 x5 H locs ls h hP hS hl
    unfold pX6_cheapestConvert_l45 at h
    refine lv_iload hx hb dX6_cheapestConvert_45 (lv_at hl 5 rfl) ?_
    refine lv_iconst (v := (4 : Int32)) hx hb dX6_cheapestConvert_47 (by decide) ?_
    refine lv_icmp_ge (tgt := 108) hx hb dX6_cheapestConvert_48 (by decide) (fun c48 => ?_) (fun c48 => ?_)
    · have h := h.1 c48
      refine lv_aload_n hx hb dX6_cheapestConvert_108 rfl (lv_at hl 0 rfl) ?_
      refine va_get (D := D) (ci := 6) (v := .ref (ad (4 * 1))) (C := RX6) (T := TX6) (N := 3) hx hb ht tl_X6 hown hK hP 31 (wx_31 q ad z) rfl 0 (by decide) (ht _ tw_fl_X6_9) (fun _ h9 => h9) rfl dX6_cheapestConvert_109 ?_
      refine lv_iload hx hb dX6_cheapestConvert_112 (lv_at hl 4 rfl) ?_
      refine lv_iconst (v := (0 : Int32)) hx hb dX6_cheapestConvert_114 (by decide) ?_
      refine lv_aload_n hx hb dX6_cheapestConvert_115 rfl (lv_at hl 1 rfl) ?_
      refine lv_iload hx hb dX6_cheapestConvert_116 (lv_at hl 4 rfl) ?_
      refine lv_iconst (v := (0 : Int32)) hx hb dX6_cheapestConvert_118 (by decide) ?_
      refine g_cVi (Wd := WX q ad) (z := z) (As := [.int x4, .int (0 : Int32)]) (rest := [.int (0 : Int32), .int x4, .ref (ad (4 * 1))]) hG S (kX0_fact l D q ad A hD i hi z x4 (0 : Int32) _ h) (cwV 2 ht (cW_V (fun _ h => h) tw_co_X0_fact tw_ml_X6_86 tw_im_X0_fact tw_se_X0_fact tw_in_X0) rfl rfl rfl (by decide +kernel) ⟨by decide, by decide⟩) (va_recv hK hP (ci := 0) (q0 := (4 * i)) rfl (wxl q ad z hi)) hE hP hS rfl hl.1 rfl (Nat.le_of_ble_eq_true rfl) dX6_cheapestConvert_119 ⟨Nat.zero_le _, Nat.zero_le _⟩ (fun r119 z119 H locs h hP hS => ?_)
      refine g_cVv (Wd := WX q ad) (z := z119) (As := [.int x4, .int (0 : Int32), .int r119]) (rest := []) hG S (kX0_putFact l D q ad A hD 1 (by decide) z119 x4 (0 : Int32) r119 _ h) (cwV 3 ht (cW_V (fun _ h => h) tw_co_X0_putFact tw_ml_X6_76 tw_im_X0_putFact tw_se_X0_putFact tw_in_X0) rfl rfl rfl (by decide +kernel) ⟨by decide, by decide⟩) (va_recv hK hP (ci := 0) (q0 := (4 * 1)) rfl (wxl q ad z119 (by decide))) hE hP hS rfl hl.1 rfl (Nat.le_of_ble_eq_true rfl) dX6_cheapestConvert_122 ⟨Nat.zero_le _, Nat.zero_le _⟩ (fun z122 H locs h hP hS => ?_)
      obtain ⟨x4_125, ex4_125⟩ : ∃ w : Int32, w = x4 + (1 : Int32) := ⟨_, rfl⟩
      have h := h x4_125 ex4_125
      refine lv_iinc (v := x4_125) (lv' := [(4, .int x4_125), (0, .ref (ad 31)), (1, .ref (ad (4 * i))), (2, .int x2), (3, .int x3), (5, .int x5)]) hx hb dX6_cheapestConvert_125 hl (k := 4) rfl (by rw [ex4_125]; rfl) (by decide) rfl (fun ls hl => ?_)
      refine lv_goto (tgt := 33) hx hb dX6_cheapestConvert_128 (by decide) ?_
      exact hrec33 z122 x2 x3 x4_125 _ _ _ h hP hS (lv_sub hl [1, 2, 3, 4, 0] rfl)
    · have h := h.2 c48
      refine lv_aload_n hx hb dX6_cheapestConvert_51 rfl (lv_at hl 0 rfl) ?_
      refine va_get (D := D) (ci := 6) (v := .ref (ad (4 * 1))) (C := RX6) (T := TX6) (N := 3) hx hb ht tl_X6 hown hK hP 31 (wx_31 q ad z) rfl 0 (by decide) (ht _ tw_fl_X6_9) (fun _ h9 => h9) rfl dX6_cheapestConvert_52 ?_
      refine lv_iload hx hb dX6_cheapestConvert_55 (lv_at hl 4 rfl) ?_
      refine lv_iconst (v := (0 : Int32)) hx hb dX6_cheapestConvert_57 (by decide) ?_
      refine lv_iload hx hb dX6_cheapestConvert_58 (lv_at hl 5 rfl) ?_
      refine g_cVv (Wd := WX q ad) (z := z) (As := [.int x4, .int (0 : Int32), .int x5]) (rest := []) hG S (kX0_putFact l D q ad A hD 1 (by decide) z x4 (0 : Int32) x5 _ h) (cwV 3 ht (cW_V (fun _ h => h) tw_co_X0_putFact tw_ml_X6_76 tw_im_X0_putFact tw_se_X0_putFact tw_in_X0) rfl rfl rfl (by decide +kernel) ⟨by decide, by decide⟩) (va_recv hK hP (ci := 0) (q0 := (4 * 1)) rfl (wxl q ad z (by decide))) hE hP hS rfl hl.1 rfl (Nat.le_of_ble_eq_true rfl) dX6_cheapestConvert_60 ⟨Nat.zero_le _, Nat.zero_le _⟩ (fun z60 H locs h hP hS => ?_)
      refine lv_aload_n hx hb dX6_cheapestConvert_63 rfl (lv_at hl 0 rfl) ?_
      refine va_get (D := D) (ci := 6) (v := .ref (ad 26)) (C := RX6) (T := TX6) (N := 3) hx hb ht tl_X6 hown hK hP 31 (wx_31 q ad z60) rfl 1 (by decide) (ht _ tw_fl_X6_15) (fun _ h9 => h9) rfl dX6_cheapestConvert_64 ?_
      refine lv_aload_n hx hb dX6_cheapestConvert_67 rfl (lv_at hl 0 rfl) ?_
      refine va_get (D := D) (ci := 6) (v := .ref (ad (4 * 1))) (C := RX6) (T := TX6) (N := 3) hx hb ht tl_X6 hown hK hP 31 (wx_31 q ad z60) rfl 0 (by decide) (ht _ tw_fl_X6_9) (fun _ h9 => h9) rfl dX6_cheapestConvert_68 ?_
      refine g_cVv (Wd := WX q ad) (z := z60) (As := [.ref (ad (4 * 1))]) (rest := []) hG S (kX2_play l D q ad A hD 1 (by decide) z60 _ h) (cwV 1 ht (cW_V (fun _ h => h) tw_co_X2_play tw_ml_X6_36 tw_im_X2_play tw_se_X2_play tw_in_X2) rfl rfl rfl (by decide +kernel) ⟨by decide, by decide⟩) (va_recv hK hP (ci := 2) (q0 := 26) rfl (wx_26 q ad z60)) hE hP hS rfl hl.1 rfl (Nat.le_of_ble_eq_true rfl) dX6_cheapestConvert_71 ⟨Nat.zero_le _, Nat.zero_le _⟩ (fun z71 H locs h hP hS => ?_)
      refine lv_aload_n hx hb dX6_cheapestConvert_74 rfl (lv_at hl 0 rfl) ?_
      refine va_get (D := D) (ci := 6) (v := .ref (ad 26)) (C := RX6) (T := TX6) (N := 3) hx hb ht tl_X6 hown hK hP 31 (wx_31 q ad z71) rfl 1 (by decide) (ht _ tw_fl_X6_15) (fun _ h9 => h9) rfl dX6_cheapestConvert_75 ?_
      refine va_get (D := D) (ci := 2) (v := .int (z71.1 26 8)) (C := RX2) (T := TX2) (N := 13) hx hb ht tl_X2 hown hK hP 26 (wx_26 q ad z71) rfl 8 (by decide) (ht _ tw_fl_X6_83) (fun _ h9 => h9) rfl dX6_cheapestConvert_78 ?_
      refine lv_iload_n hx hb dX6_cheapestConvert_81 rfl (lv_at hl 2 rfl) ?_
      refine lv_icmp_ge (tgt := 102) hx hb dX6_cheapestConvert_82 (by decide) (fun c82 => ?_) (fun c82 => ?_)
      · have h := h.1 c82
        exact B102 rec33 rec45 hrec33 hrec45 z71 x2 x3 x4 x5 _ _ _ h hP hS (lv_sub hl [0, 1, 2, 3, 4, 5] rfl)
      · have h := h.2 c82
        refine lv_aload_n hx hb dX6_cheapestConvert_85 rfl (lv_at hl 0 rfl) ?_
        refine va_get (D := D) (ci := 6) (v := .ref (ad 26)) (C := RX6) (T := TX6) (N := 3) hx hb ht tl_X6 hown hK hP 31 (wx_31 q ad z71) rfl 1 (by decide) (ht _ tw_fl_X6_15) (fun _ h9 => h9) rfl dX6_cheapestConvert_86 ?_
        refine va_get (D := D) (ci := 2) (v := .int (z71.1 26 8)) (C := RX2) (T := TX2) (N := 13) hx hb ht tl_X2 hown hK hP 26 (wx_26 q ad z71) rfl 8 (by decide) (ht _ tw_fl_X6_83) (fun _ h9 => h9) rfl dX6_cheapestConvert_89 ?_
        refine lv_topi (fun x2_92 ex2_92 => ?_)
        have h := h x2_92 ex2_92
        refine lv_istore_n (lv' := [(2, .int x2_92), (0, .ref (ad 31)), (1, .ref (ad (4 * i))), (3, .int x3), (4, .int x4), (5, .int x5)]) hx hb dX6_cheapestConvert_92 rfl hl (by decide) rfl (fun ls hl => ?_)
        refine lv_bipush (v := (10 : Int32)) hx hb dX6_cheapestConvert_93 (by decide) ?_
        refine lv_iload hx hb dX6_cheapestConvert_95 (lv_at hl 4 rfl) ?_
        refine lv_imul hx hb dX6_cheapestConvert_97 ?_
        refine lv_iload hx hb dX6_cheapestConvert_98 (lv_at hl 5 rfl) ?_
        refine lv_iadd hx hb dX6_cheapestConvert_100 ?_
        refine lv_topi (fun x3_101 ex3_101 => ?_)
        have h := h x3_101 ex3_101
        refine lv_istore_n (lv' := [(3, .int x3_101), (2, .int x2_92), (0, .ref (ad 31)), (1, .ref (ad (4 * i))), (4, .int x4), (5, .int x5)]) hx hb dX6_cheapestConvert_101 rfl hl (by decide) rfl (fun ls hl => ?_)
        exact B102 rec33 rec45 hrec33 hrec45 z71 x2_92 x3_101 x4 x5 _ _ _ h hP hS (lv_sub hl [2, 3, 1, 0, 4, 5] rfl)
  have L45 : ∀ (rec33 : MX → Int32 → Int32 → Int32 → Prop) (hrec33 : ∀ (z : MX) (x2 : Int32) (x3 : Int32) (x4 : Int32) (H : Heap) (locs : List Loc) (ls : Array Slot), rec33 z x2 x3 x4 → va_P D vwCl (WX q ad z) H → va_S A s.heap H locs → lv_has ls 6 [(0, .ref (ad 31)), (1, .ref (ad (4 * i))), (2, .int x2), (3, .int x3), (4, .int x4)] → W p l e (headSpec (cW yX6_cheapestConvert cX6_cheapestConvert 6 (some .int)) ({ frames := 5, cells := 0, slots := 0, locals := 121 } : Room)).room s m args below meth c H locs 0 0 (MQ below (va_Qi post (gB D vwCl (WX q ad) (xE D q ad A)) A) args s 0 0 A) (F0 m 33 ls [])) (n : Nat) (z : MX) (x2 : Int32) (x3 : Int32) (x4 : Int32) (x5 : Int32) (H : Heap) (locs : List Loc) (ls : Array Slot), pX6_cheapestConvert_L45 i rec33 post n z x2 x3 x4 x5 → va_P D vwCl (WX q ad z) H → va_S A s.heap H locs → lv_has ls 6 [(0, .ref (ad 31)), (1, .ref (ad (4 * i))), (2, .int x2), (3, .int x3), (4, .int x4), (5, .int x5)] → W p l e (headSpec (cW yX6_cheapestConvert cX6_cheapestConvert 6 (some .int)) ({ frames := 5, cells := 0, slots := 0, locals := 121 } : Room)).room s m args below meth c H locs 0 0 (MQ below (va_Qi post (gB D vwCl (WX q ad) (xE D q ad A)) A) args s 0 0 A) (F0 m 45 ls []) := by
    intro rec33 hrec33 n
    induction n with
    | zero =>
      intro z x2 x3 x4 x5 H locs ls h
      exact False.elim h
    | succ n ih =>
      intro z x2 x3 x4 x5 H locs ls h hP hS hl
      exact B45 rec33 (pX6_cheapestConvert_L45 i rec33 post n) hrec33 ih z x2 x3 x4 x5 H locs ls h hP hS hl
  have B33 : ∀ (rec33 : MX → Int32 → Int32 → Int32 → Prop) (hrec33 : ∀ (z : MX) (x2 : Int32) (x3 : Int32) (x4 : Int32) (H : Heap) (locs : List Loc) (ls : Array Slot), rec33 z x2 x3 x4 → va_P D vwCl (WX q ad z) H → va_S A s.heap H locs → lv_has ls 6 [(0, .ref (ad 31)), (1, .ref (ad (4 * i))), (2, .int x2), (3, .int x3), (4, .int x4)] → W p l e (headSpec (cW yX6_cheapestConvert cX6_cheapestConvert 6 (some .int)) ({ frames := 5, cells := 0, slots := 0, locals := 121 } : Room)).room s m args below meth c H locs 0 0 (MQ below (va_Qi post (gB D vwCl (WX q ad) (xE D q ad A)) A) args s 0 0 A) (F0 m 33 ls [])) (z : MX) (x2 : Int32) (x3 : Int32) (x4 : Int32) (H : Heap) (locs : List Loc) (ls : Array Slot), pX6_cheapestConvert_l33 i rec33 post z x2 x3 x4 → va_P D vwCl (WX q ad z) H → va_S A s.heap H locs → lv_has ls 6 [(0, .ref (ad 31)), (1, .ref (ad (4 * i))), (2, .int x2), (3, .int x3), (4, .int x4)] → W p l e (headSpec (cW yX6_cheapestConvert cX6_cheapestConvert 6 (some .int)) ({ frames := 5, cells := 0, slots := 0, locals := 121 } : Room)).room s m args below meth c H locs 0 0 (MQ below (va_Qi post (gB D vwCl (WX q ad) (xE D q ad A)) A) args s 0 0 A) (F0 m 33 ls []) := by
    intro rec33 hrec33 z x2 x3 x4 H locs ls h hP hS hl
    unfold pX6_cheapestConvert_l33 at h
    refine lv_iload hx hb dX6_cheapestConvert_33 (lv_at hl 4 rfl) ?_
    refine lv_aload_n hx hb dX6_cheapestConvert_35 rfl (lv_at hl 1 rfl) ?_
    refine va_get (D := D) (ci := 0) (v := .int (z.1 (4 * i) 3)) (C := RX0) (T := TX0) (N := 7) hx hb ht tl_X0 hown hK hP (4 * i) (wxl q ad z hi) rfl 3 (by decide) (ht _ tw_fl_X6_69) (fun _ h9 => h9) rfl dX6_cheapestConvert_36 ?_
    refine lv_icmp_ge (tgt := 131) hx hb dX6_cheapestConvert_39 (by decide) (fun c39 => ?_) (fun c39 => ?_)
    · have h := h.1 c39
      refine lv_aload_n hx hb dX6_cheapestConvert_131 rfl (lv_at hl 0 rfl) ?_
      refine lv_iload_n hx hb dX6_cheapestConvert_132 rfl (lv_at hl 3 rfl) ?_
      refine lv_bipush (v := (-4 : Int32)) hx hb dX6_cheapestConvert_133 (by decide) ?_
      refine lv_icmp_ne (tgt := 143) hx hb dX6_cheapestConvert_135 (by decide) (fun c135 => ?_) (fun c135 => ?_)
      · have h := h.1 c135
        refine lv_iload_n hx hb dX6_cheapestConvert_143 rfl (lv_at hl 2 rfl) ?_
        exact B144 z x3 x2 _ _ _ h hP hS (lv_sub hl [3] rfl)
      · have h := h.2 c135
        refine lv_bipush (v := (-4 : Int32)) hx hb dX6_cheapestConvert_138 (by decide) ?_
        refine lv_goto (tgt := 144) hx hb dX6_cheapestConvert_140 (by decide) ?_
        exact B144 z x3 (-4 : Int32) _ _ _ h hP hS (lv_sub hl [3] rfl)
    · have h := h.2 c39
      refine lv_iconst (v := (0 : Int32)) hx hb dX6_cheapestConvert_42 (by decide) ?_
      refine lv_istore (lv' := [(5, .int (0 : Int32)), (0, .ref (ad 31)), (1, .ref (ad (4 * i))), (2, .int x2), (3, .int x3), (4, .int x4)]) hx hb dX6_cheapestConvert_43 hl (by decide) rfl (fun ls hl => ?_)
      obtain ⟨n, h⟩ := h
      exact L45 rec33 hrec33 n z x2 x3 x4 (0 : Int32) _ _ _ h hP hS (lv_sub hl [1, 2, 3, 4, 5, 0] rfl)
  have L33 : ∀ (n : Nat) (z : MX) (x2 : Int32) (x3 : Int32) (x4 : Int32) (H : Heap) (locs : List Loc) (ls : Array Slot), pX6_cheapestConvert_L33 i post n z x2 x3 x4 → va_P D vwCl (WX q ad z) H → va_S A s.heap H locs → lv_has ls 6 [(0, .ref (ad 31)), (1, .ref (ad (4 * i))), (2, .int x2), (3, .int x3), (4, .int x4)] → W p l e (headSpec (cW yX6_cheapestConvert cX6_cheapestConvert 6 (some .int)) ({ frames := 5, cells := 0, slots := 0, locals := 121 } : Room)).room s m args below meth c H locs 0 0 (MQ below (va_Qi post (gB D vwCl (WX q ad) (xE D q ad A)) A) args s 0 0 A) (F0 m 33 ls []) := by
    intro n
    induction n with
    | zero =>
      intro z x2 x3 x4 H locs ls h
      exact False.elim h
    | succ n ih =>
      intro z x2 x3 x4 H locs ls h hP hS hl
      exact B33 (pX6_cheapestConvert_L33 i post n) ih z x2 x3 x4 H locs ls h hP hS hl
  refine g_entry (vs := [.ref (ad 31), .ref (ad (4 * i))]) hargs (Nat.le_of_ble_eq_true rfl) (fun ls hl => ?_)
  have hl : lv_has ls 6 [(0, .ref (ad 31)), (1, .ref (ad (4 * i)))] := hl
  unfold pX6_cheapestConvert at h
  refine lv_aload_n hx hb dX6_cheapestConvert_0 rfl (lv_at hl 0 rfl) ?_
  refine va_get (D := D) (ci := 6) (v := .ref (ad (4 * 1))) (C := RX6) (T := TX6) (N := 3) hx hb ht tl_X6 hown hK hP 31 (wx_31 q ad z) rfl 0 (by decide) (ht _ tw_fl_X6_9) (fun _ h9 => h9) rfl dX6_cheapestConvert_1 ?_
  refine lv_aload_n hx hb dX6_cheapestConvert_4 rfl (lv_at hl 1 rfl) ?_
  refine g_cVv (Wd := WX q ad) (z := z) (As := [.ref (ad (4 * i))]) (rest := []) hG S (kX0_copyFrom l D q ad A hD 1 (by decide) i hi z _ h) (cwV 1 ht (cW_V (fun _ h => h) tw_co_X0_copyFrom tw_ml_X6_19 tw_im_X0_copyFrom tw_se_X0_copyFrom tw_in_X0) rfl rfl rfl (by decide +kernel) ⟨by decide, by decide⟩) (va_recv hK hP (ci := 0) (q0 := (4 * 1)) rfl (wxl q ad z (by decide))) hE hP hS rfl hl.1 rfl (Nat.le_of_ble_eq_true rfl) dX6_cheapestConvert_5 ⟨Nat.zero_le _, Nat.zero_le _⟩ (fun z5 H locs h hP hS => ?_)
  refine lv_aload_n hx hb dX6_cheapestConvert_8 rfl (lv_at hl 0 rfl) ?_
  refine va_get (D := D) (ci := 6) (v := .ref (ad 26)) (C := RX6) (T := TX6) (N := 3) hx hb ht tl_X6 hown hK hP 31 (wx_31 q ad z5) rfl 1 (by decide) (ht _ tw_fl_X6_15) (fun _ h9 => h9) rfl dX6_cheapestConvert_9 ?_
  refine lv_aload_n hx hb dX6_cheapestConvert_12 rfl (lv_at hl 0 rfl) ?_
  refine va_get (D := D) (ci := 6) (v := .ref (ad (4 * 1))) (C := RX6) (T := TX6) (N := 3) hx hb ht tl_X6 hown hK hP 31 (wx_31 q ad z5) rfl 0 (by decide) (ht _ tw_fl_X6_9) (fun _ h9 => h9) rfl dX6_cheapestConvert_13 ?_
  refine g_cVv (Wd := WX q ad) (z := z5) (As := [.ref (ad (4 * 1))]) (rest := []) hG S (kX2_play l D q ad A hD 1 (by decide) z5 _ h) (cwV 1 ht (cW_V (fun _ h => h) tw_co_X2_play tw_ml_X6_36 tw_im_X2_play tw_se_X2_play tw_in_X2) rfl rfl rfl (by decide +kernel) ⟨by decide, by decide⟩) (va_recv hK hP (ci := 2) (q0 := 26) rfl (wx_26 q ad z5)) hE hP hS rfl hl.1 rfl (Nat.le_of_ble_eq_true rfl) dX6_cheapestConvert_16 ⟨Nat.zero_le _, Nat.zero_le _⟩ (fun z16 H locs h hP hS => ?_)
  refine lv_aload_n hx hb dX6_cheapestConvert_19 rfl (lv_at hl 0 rfl) ?_
  refine va_get (D := D) (ci := 6) (v := .ref (ad 26)) (C := RX6) (T := TX6) (N := 3) hx hb ht tl_X6 hown hK hP 31 (wx_31 q ad z16) rfl 1 (by decide) (ht _ tw_fl_X6_15) (fun _ h9 => h9) rfl dX6_cheapestConvert_20 ?_
  refine va_get (D := D) (ci := 2) (v := .int (z16.1 26 8)) (C := RX2) (T := TX2) (N := 13) hx hb ht tl_X2 hown hK hP 26 (wx_26 q ad z16) rfl 8 (by decide) (ht _ tw_fl_X6_83) (fun _ h9 => h9) rfl dX6_cheapestConvert_23 ?_
  refine lv_topi (fun x2_26 ex2_26 => ?_)
  have h := h x2_26 ex2_26
  refine lv_istore_n (lv' := [(2, .int x2_26), (0, .ref (ad 31)), (1, .ref (ad (4 * i)))]) hx hb dX6_cheapestConvert_26 rfl hl (by decide) rfl (fun ls hl => ?_)
  refine lv_bipush (v := (-4 : Int32)) hx hb dX6_cheapestConvert_27 (by decide) ?_
  refine lv_istore_n (lv' := [(3, .int (-4 : Int32)), (2, .int x2_26), (0, .ref (ad 31)), (1, .ref (ad (4 * i)))]) hx hb dX6_cheapestConvert_29 rfl hl (by decide) rfl (fun ls hl => ?_)
  refine lv_iconst (v := (0 : Int32)) hx hb dX6_cheapestConvert_30 (by decide) ?_
  refine lv_istore (lv' := [(4, .int (0 : Int32)), (3, .int (-4 : Int32)), (2, .int x2_26), (0, .ref (ad 31)), (1, .ref (ad (4 * i)))]) hx hb dX6_cheapestConvert_31 hl (by decide) rfl (fun ls hl => ?_)
  obtain ⟨n, h⟩ := h
  exact L33 n z16 x2_26 (-4 : Int32) (0 : Int32) _ _ _ h hP hS (lv_sub hl [3, 4, 2, 1, 0] rfl)
