/-! Arrays.fill over a row of the world -/
theorem mf_mf (z : MX) (c : Nat) (f g : Nat → Int32) : mf (mf z c f) c g = mf z c g := by
  unfold mf
  refine Prod.ext (funext fun a => ?_) rfl
  by_cases h : a = c
  · simp [h]
  · simp [h]
theorem mf_at (z : MX) (c : Nat) (f : Nat → Int32) : (mf z c f).1 c = f := by simp [mf]
theorem mf_ne (z : MX) {c a : Nat} (f : Nat → Int32) (h : a ≠ c) : (mf z c f).1 a = z.1 a := by simp [mf, h]
theorem mf_self (z : MX) (c : Nat) : mf z c (z.1 c) = z := by
  unfold mf
  refine Prod.ext (funext fun a => ?_) rfl
  by_cases h : a = c
  · simp [h]
  · simp [h]
set_option maxHeartbeats 4000000 in
set_option maxRecDepth 100000 in
theorem kJ7_fill (l : Launch) (D : va_G) (q : Nat → ClassId) (ad : Nat → Nat) (A : Nat → Prop) (hD : ∀ z, va_D A (WX q ad z)) {c n : Nat} (hn : n < 2 ^ 31) (hw : ∀ z, (WX q ad z)[c]? = some (ad c, .inl (q 0, n, .inl (z.1 c)))) (hs : ∀ z f, (WX q ad z).set c (ad c, .inl (q 0, n, .inl f)) = WX q ad (mf z c f)) (z : MX) (v : Int32) : Met l yJ7_fill_53178 (cW yJ7_fill_53178 cJ7_fill_53178 4 none) ({ frames := 0, cells := 0, slots := 0, locals := 0 } : Room) (va_Pc [.ref (ad c), .int v] (gB D vwCl (WX q ad) (xE D q ad A) z)) (va_Qv (fun z' => z' = mf z c (fun k => if k < n then v else z.1 c k)) (gB D vwCl (WX q ad) (xE D q ad A)) A) 0 0 A := by
  refine Met.ofW (cc := cJ7_fill_53178) (maxL := 4) (ret := none) (by decide) rfl ?_
  intro p e s m args below meth cd s₁ B hml hv
  obtain ⟨hargs, hP, hE⟩ := hv
  have hx := B.exec
  have hb := B.bytes
  have hr := B.returns
  have hlocks := B.notSynchronized
  have hK := hE.1
  have hG := xE_G D q ad A
  have hS : va_S A s.heap s.heap [] := va_S.rf
  have L5 : ∀ (k j : Nat) (z1 : MX) (H : Heap) (locs : List Loc) (ls : Array Slot), j + k = n → z1 = mf z c (fun t => if t < j then v else z.1 c t) → va_P D vwCl (WX q ad z1) H → va_S A s.heap H locs → lv_has ls 4 [(3, .int (nI n)), (2, .int (nI j)), (0, .ref (ad c)), (1, .int v)] → W p l e (headSpec (cW yJ7_fill_53178 cJ7_fill_53178 4 none) ({ frames := 0, cells := 0, slots := 0, locals := 0 } : Room)).room s m args below meth cd H locs 0 0 (MQ below (va_Qv (fun z' => z' = mf z c (fun k => if k < n then v else z.1 c k)) (gB D vwCl (WX q ad) (xE D q ad A)) A) args s 0 0 A) (F0 m 5 ls []) := by
    intro k
    induction k with
    | zero =>
      intro j z1 H locs ls hj hz hP hS hl
      have hjn : j = n := by omega
      subst hjn
      refine lv_iload_n hx hb dJ7_fill_53178_5 rfl (lv_at hl 1 rfl) ?_
      refine lv_iload_n hx hb dJ7_fill_53178_6 rfl (lv_at hl 0 rfl) ?_
      refine lv_icmp_ge (tgt := 20) hx hb dJ7_fill_53178_7 (by decide) (fun _ => ?_) (fun c7 => absurd (nI_le (Nat.le_refl j) hn) c7)
      exact g_rv hG hx hb hr hlocks hE hP hS hz dJ7_fill_53178_20
    | succ k ih =>
      intro j z1 H locs ls hj hz hP hS hl
      refine lv_iload_n hx hb dJ7_fill_53178_5 rfl (lv_at hl 1 rfl) ?_
      refine lv_iload_n hx hb dJ7_fill_53178_6 rfl (lv_at hl 0 rfl) ?_
      refine lv_icmp_ge (tgt := 20) hx hb dJ7_fill_53178_7 (by decide) (fun c7 => absurd c7 (nI_ge (by omega) hn)) (fun _ => ?_)
      refine lv_aload_n hx hb dJ7_fill_53178_10 rfl (lv_at hl 2 rfl) ?_
      refine lv_iload_n hx hb dJ7_fill_53178_11 rfl (lv_at hl 1 rfl) ?_
      refine lv_iload_n hx hb dJ7_fill_53178_12 rfl (lv_at hl 3 rfl) ?_
      refine g_iast (Wd := WX q ad) (z := z1) hx hb hK hP (hD z1) hS c (hw z1) rfl (hs z1) (vp_in_nI (by omega) hn) dJ7_fill_53178_13 (fun z2 H locs hz2 hP hS => ?_)
      refine lv_iinc (v := nI (j + 1)) (lv' := [(2, .int (nI (j + 1))), (3, .int (nI n)), (0, .ref (ad c)), (1, .int v)]) hx hb dJ7_fill_53178_14 hl (k := 1) rfl (nI_1 j) (by decide) rfl (fun ls hl => ?_)
      refine lv_goto (tgt := 5) hx hb dJ7_fill_53178_17 (by decide) ?_
      refine ih (j + 1) z2 H locs ls (by omega) ?_ hP hS (lv_sub hl [1, 0, 2, 3] rfl)
      rw [hz2, hz, nI_clamp (by omega)]
      unfold mw
      rw [mf_mf, mf_at]
      refine congrArg (mf z c) (funext fun t => ?_)
      unfold upd
      by_cases h1 : t = j
      · simp [h1]
      · by_cases h2 : t < j
        · simp [h1, h2, Nat.lt_succ_of_lt h2]
        · have h3 : ¬ t < j + 1 := by omega
          simp [h1, h2, h3]
  refine g_entry (vs := [.ref (ad c), .int v]) hargs (Nat.le_of_ble_eq_true rfl) (fun ls hl => ?_)
  have hl : lv_has ls 4 [(0, .ref (ad c)), (1, .int v)] := hl
  refine lv_iconst (v := nI 0) hx hb dJ7_fill_53178_0 (by decide) ?_
  refine lv_istore_n (lv' := [(2, .int (nI 0)), (0, .ref (ad c)), (1, .int v)]) hx hb dJ7_fill_53178_1 rfl hl (by decide) rfl (fun ls hl => ?_)
  refine lv_aload_n hx hb dJ7_fill_53178_2 rfl (lv_at hl 1 rfl) ?_
  refine va_alen hx hb hK hP c 0 (hw z) rfl (v := nI n) rfl dJ7_fill_53178_3 ?_
  refine lv_istore_n (lv' := [(3, .int (nI n)), (2, .int (nI 0)), (0, .ref (ad c)), (1, .int v)]) hx hb dJ7_fill_53178_4 rfl hl (by decide) rfl (fun ls hl => ?_)
  refine L5 n 0 z _ _ ls (by omega) ?_ hP hS hl
  have : (fun t => if t < 0 then v else z.1 c t) = z.1 c := funext fun t => by simp
  rw [this, mf_self]
