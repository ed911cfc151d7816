/-! what holds at the entry: the classes, the static rows, the texts, the nest -/
theorem tT_1 {w : Cond} (i : Nat) (h : tables_1_1[i]? = some w) : w ∈ lw_tbl := List.mem_append_right _ (List.mem_append_left _ (List.mem_of_getElem? h))
theorem tT_2 {w : Cond} (i : Nat) (h : tables_1_2[i]? = some w) : w ∈ lw_tbl := List.mem_append_right _ (List.mem_append_right _ (List.mem_append_left _ (List.mem_of_getElem? h)))
theorem tT_3 {w : Cond} (i : Nat) (h : tables_1_3[i]? = some w) : w ∈ lw_tbl := List.mem_append_right _ (List.mem_append_right _ (List.mem_append_right _ (List.mem_append_left _ (List.mem_of_getElem? h))))
theorem te_n9 : Cond.methodLinkNest RX7 9 yX0_init RX7 ∈ lw_tbl := tT_1 28 (by decide +kernel)
theorem te_n21 : Cond.methodLinkNest RX7 21 yX5_init RX7 ∈ lw_tbl := tT_1 75 (by decide +kernel)
theorem te_n28 : Cond.methodLinkNest RX7 28 yX2_init RX7 ∈ lw_tbl := tT_1 112 (by decide +kernel)
theorem te_n70 : Cond.methodLinkNest RX7 70 yX3_init RX7 ∈ lw_tbl := tT_2 9 (by decide +kernel)
theorem te_n50 : Cond.methodLinkNest RX0 50 yX7_isOmen RX7 ∈ lw_tbl := tT_3 74 (by decide +kernel)
theorem te_n83 : Cond.methodLinkNest RX2 83 yX7_minutesFor RX7 ∈ lw_tbl := tT_3 118 (by decide +kernel)
theorem te_n72 : Cond.methodLinkNest RX6 72 yX7_startIn RX7 ∈ lw_tbl := tT_3 215 (by decide +kernel)
theorem te_f111 : Cond.fieldLinkNest RX5 111 RX7 "FACT_VALUES" "[I" RX7 ∈ lw_tbl := tT_2 219 (by decide +kernel)
theorem te_aL : Cond.arrayOver (.object "OmenLine$Line") ∈ lw_tbl := tT_2 5 (by decide +kernel)
theorem te_aS : Cond.arrayOver (.object "OmenLine$Sheet") ∈ lw_tbl := tT_2 7 (by decide +kernel)
theorem te_sW : Cond.laysStatic RX7 "WAIT_MINUTES" "[I" ∈ lw_tbl := tT_3 64 (by decide +kernel)
theorem te_sF : Cond.laysStatic RX7 "FACT_VALUES" "[I" ∈ lw_tbl := tT_2 220 (by decide +kernel)
theorem te_sC : Cond.laysStatic "java/lang/String" "COMPACT_STRINGS" "Z" ∈ lw_tbl := tT_2 144 (by decide +kernel)
theorem te_sI : Cond.laysStatic "jdk/internal/util/Preconditions" "SIOOBE_FORMATTER" "Ljava/util/function/BiFunction;" ∈ lw_tbl := tT_2 160 (by decide +kernel)
theorem te_t0 : Cond.stringRef RX5 153 "blocks" ∈ lw_tbl := tT_2 118 (by decide +kernel)
theorem te_t1 : Cond.stringRef RX5 154 "magpie" ∈ lw_tbl := tT_2 119 (by decide +kernel)
theorem te_t2 : Cond.stringRef RX5 156 "sweep" ∈ lw_tbl := tT_2 120 (by decide +kernel)
theorem te_t3 : Cond.stringRef RX5 158 "cat" ∈ lw_tbl := tT_2 121 (by decide +kernel)
theorem te_t4 : Cond.stringRef RX5 160 "hearse" ∈ lw_tbl := tT_2 122 (by decide +kernel)
theorem te_t5 : Cond.stringRef RX5 162 "guard" ∈ lw_tbl := tT_2 123 (by decide +kernel)
theorem te_t6 : Cond.stringRef RX5 164 "lock" ∈ lw_tbl := tT_2 124 (by decide +kernel)
theorem te_t7 : Cond.stringRef RX5 166 "plain" ∈ lw_tbl := tT_2 125 (by decide +kernel)
theorem te_t8 : Cond.stringRef RX5 168 "sceptic" ∈ lw_tbl := tT_2 126 (by decide +kernel)
theorem te_t9 : Cond.stringRef RX5 170 "devout" ∈ lw_tbl := tT_2 127 (by decide +kernel)
theorem te_t10 : Cond.stringRef RX5 172 "heathen" ∈ lw_tbl := tT_2 128 (by decide +kernel)
theorem te_t11 : Cond.stringRef RX5 174 "up" ∈ lw_tbl := tT_2 129 (by decide +kernel)
theorem te_t12 : Cond.stringRef RX5 176 "down" ∈ lw_tbl := tT_2 130 (by decide +kernel)
theorem te_t : ∀ i, i < 13 → Cond.stringRef RX5 (xIdx.getD i 0) (xTx.getD i "") ∈ lw_tbl := by
  intro i hi
  match i, hi with
  | 0, _ => exact te_t0
  | 1, _ => exact te_t1
  | 2, _ => exact te_t2
  | 3, _ => exact te_t3
  | 4, _ => exact te_t4
  | 5, _ => exact te_t5
  | 6, _ => exact te_t6
  | 7, _ => exact te_t7
  | 8, _ => exact te_t8
  | 9, _ => exact te_t9
  | 10, _ => exact te_t10
  | 11, _ => exact te_t11
  | 12, _ => exact te_t12
  | i + 13, h => exact absurd h (by omega)
def xTm (i : Nat) : Term := .string RX5 (xIdx.getD i 0)
def gvC : List Cond := flatC (Jvm.Cond.and given_1 narrow_1)
theorem gv_w : Cond.arrayOf (.static RX7 "WAIT_MINUTES" "[I") .int ∈ gvC ∧ Cond.eq (.length (.static RX7 "WAIT_MINUTES" "[I")) (.int (Int32.ofNat 20)) ∈ gvC ∧ ∀ j, j < 20 → Cond.eq (.elem (.static RX7 "WAIT_MINUTES" "[I") (.int (Int32.ofNat j))) (.int (xWait j)) ∈ gvC := by decide +kernel
theorem gv_f : Cond.arrayOf (.static RX7 "FACT_VALUES" "[I") .int ∈ gvC ∧ Cond.eq (.length (.static RX7 "FACT_VALUES" "[I")) (.int (Int32.ofNat 4)) ∈ gvC ∧ ∀ j, j < 4 → Cond.eq (.elem (.static RX7 "FACT_VALUES" "[I") (.int (Int32.ofNat j))) (.int (xFact j)) ∈ gvC := by decide +kernel
theorem gv_c : Cond.eq (.static "java/lang/String" "COMPACT_STRINGS" "Z") (.int 1) ∈ gvC ∧ Cond.isRef (.static "jdk/internal/util/Preconditions" "SIOOBE_FORMATTER" "Ljava/util/function/BiFunction;") ∈ gvC := by decide +kernel
theorem gv_s1 : ∀ i, i < 13 → Cond.exactly (xTm i) "java/lang/String" ∈ gvC ∧ Cond.eq (.field (xTm i) "java/lang/String" "coder" "B") (.int 0) ∈ gvC ∧ Cond.arrayOf (.field (xTm i) "java/lang/String" "value" "[B") .byte ∈ gvC ∧ Cond.eq (.length (.field (xTm i) "java/lang/String" "value" "[B")) (.int (Int32.ofNat (xLen.getD i 0))) ∈ gvC := by decide +kernel
theorem gv_s2 : ∀ i, i < 13 → ∀ j, j < xLen.getD i 0 → Cond.eq (.elem (.field (xTm i) "java/lang/String" "value" "[B") (.int (Int32.ofNat j))) (.int ((xByt.getD i []).getD j 0)) ∈ gvC := by decide +kernel
theorem gv_s3 : ∀ j, j < 13 → ∀ i, i < j → Cond.not (Cond.eq (xTm i) (xTm j)) ∈ gvC := by decide +kernel
theorem vk_S_cong {N : Nat} {len : List Nat} {byt : List (List Int32)} {a b a2 b2 : Nat → Nat} {A : Nat → Prop} {U : State} {H : Heap} (h : vk_S N len byt a b A U H) (ha : ∀ i, i < N → a2 i = a i) (hb : ∀ i, i < N → b2 i = b i) : vk_S N len byt a2 b2 A U H :=
  ⟨fun i hi => by rw [ha i hi, hb i hi]; exact h.1 i hi, fun i j hi hj e => h.2 i j hi hj (by rw [← ha i hi, ← ha j hj]; exact e)⟩
/-- the array classes -/
theorem tys_at {s : State} {args : Array Value} (hts : ∀ w ∈ lw_tbl, w.before args s = true) : ∃ q : Nat → ClassId, ∀ (k : Nat) (x : ClassId × FieldType), (xTy q)[k]? = some x → ArrOfT s x.1 x.2 ∧ va_RA s x.1 x.2 := by
  obtain ⟨c0, k0, p0, a1, a2, a3⟩ := Cond.arrayClass_spec (args := args) (first := s) (o := none) (idx := []) (hts _ (tG_tbl tw_ac_int))
  obtain ⟨c1, k1, p1, b1, b2, b3⟩ := Cond.arrayClass_spec (args := args) (first := s) (o := none) (idx := []) (hts _ (tG_tbl tw_ac_boolean))
  obtain ⟨p2, c2, k2, e1, e2, e3, e4, e5⟩ := Cond.arrayOver_spec (args := args) (first := s) (o := none) (idx := []) (hts _ te_aL)
  obtain ⟨p3, c3, k3, f1, f2, f3, f4, f5⟩ := Cond.arrayOver_spec (args := args) (first := s) (o := none) (idx := []) (hts _ te_aS)
  refine ⟨fun k => if k = 0 then c0 else if k = 1 then c1 else if k = 2 then c2 else c3, fun k x hx => ?_⟩
  match k, hx with
  | 0, hx => cases hx; exact ⟨fun n z => ⟨fun k h => (by cases h), k0, a2, p0, a3⟩, a1⟩
  | 1, hx => cases hx; exact ⟨fun n z => ⟨fun k h => (by cases h), k1, b2, p1, b3⟩, b1⟩
  | 2, hx => cases hx; exact ⟨fun n z => ⟨fun k h => (by cases h), k2, e3, p2, e4⟩, k2, p2, e3, e4, e1, e5⟩
  | 3, hx => cases hx; exact ⟨fun n z => ⟨fun k h => (by cases h), k3, f3, p3, f4⟩, k3, p3, f3, f4, f1, f5⟩
  | k + 4, hx => simp [xTy] at hx
theorem K_at {s : State} {args : Array Value} (hts : ∀ w ∈ lw_tbl, w.before args s = true) : ∃ (D : va_G) (q : Nat → ClassId), va_K D vwCl (xTy q) s := by
  have ht : ∀ w ∈ tG, w.before args s = true := fun w h => hts w (tG_tbl h)
  obtain ⟨q, hq⟩ := tys_at hts
  obtain ⟨c0, i0, h0⟩ := u_known (C := RX0) (T := TX0) (N := 7) (n := 7) ht tl_X0 (ht _ tw_ib_X0)
  obtain ⟨c1, i1, h1⟩ := u_known (C := RX1) (T := TX1) (N := 5) (n := 5) ht tl_X1 (ht _ tw_ib_X1)
  obtain ⟨c2, i2, h2⟩ := u_known (C := RX2) (T := TX2) (N := 13) (n := 13) ht tl_X2 (ht _ tw_ib_X2)
  obtain ⟨c3, i3, h3⟩ := u_known (C := RX3) (T := TX3) (N := 3) (n := 3) ht tl_X3 (ht _ tw_ib_X3)
  obtain ⟨c4, i4, h4⟩ := u_known (C := RX4) (T := TX4) (N := 8) (n := 8) ht tl_X4 (ht _ tw_ib_X4)
  obtain ⟨c5, i5, h5⟩ := u_known (C := RX5) (T := TX5) (N := 9) (n := 9) ht tl_X5 (ht _ tw_ib_X5)
  obtain ⟨c6, i6, h6⟩ := u_known (C := RX6) (T := TX6) (N := 3) (n := 3) ht tl_X6 (ht _ tw_ib_X6)
  obtain ⟨c7, i7, h7⟩ := u_known (C := RX7) (T := TX7) (N := 12) (n := 12) ht tl_X7 (ht _ tw_ib_X7)
  obtain ⟨c8, i8, h8⟩ := u_known (C := RX8) (T := TX8) (N := 45) (n := 45) ht tl_X8 (ht _ tw_ib_X8)
  refine ⟨(fun k => [c0, c1, c2, c3, c4, c5, c6, c7, c8].getD k c0, fun k => [i0, i1, i2, i3, i4, i5, i6, i7, i8].getD k i0), q, ⟨fun k x hx => ?_, hq⟩⟩
  match k, hx with
  | 0, hx => cases hx; exact h0
  | 1, hx => cases hx; exact h1
  | 2, hx => cases hx; exact h2
  | 3, hx => cases hx; exact h3
  | 4, hx => cases hx; exact h4
  | 5, hx => cases hx; exact h5
  | 6, hx => cases hx; exact h6
  | 7, hx => cases hx; exact h7
  | 8, hx => cases hx; exact h8
  | k + 9, hx => simp [vwCl] at hx
set_option maxRecDepth 10000 in
theorem E_at {s : State} {b : Nat} (hts : ∀ w ∈ lw_tbl, w.before #[Value.ref b] s = true) (hgv : (Jvm.Cond.and given_1 narrow_1).before #[Value.ref b] s = true) {D : va_G} {q : Nat → ClassId} (hK : va_K D vwCl (xTy q) s) {A : Nat → Prop} (hA : ∀ a : Nat, a < s.heap.size → ¬ A a) : ∃ aK aV : Nat → Nat, ∀ ad : Nat → Nat, (∀ i, i < 13 → ad (100 + i) = aK i) → (∀ i, i < 13 → ad (200 + i) = aV i) → xE D q ad A s s.heap := by
  have hs : ∀ c ∈ gvC, c.before #[Value.ref b] s = true := flat_of_before _ hgv
  have ht : ∀ w ∈ tG, w.before #[Value.ref b] s = true := fun w h => hts w (tG_tbl h)
  obtain ⟨tw, w1, w2⟩ := va_Tof (f := fun j => .int (xWait j)) (A := A) (N := 20) (by decide) (hs _ gv_w.1) (va_eqt (hs _ gv_w.2.1)) (fun j hj => va_eqt (hs _ (gv_w.2.2 j hj))) hA
  obtain ⟨tf, f1, f2⟩ := va_Tof (f := fun j => .int (xFact j)) (A := A) (N := 4) (by decide) (hs _ gv_f.1) (va_eqt (hs _ gv_f.2.1)) (fun j hj => va_eqt (hs _ (gv_f.2.2 j hj))) hA
  have len : ∀ i, i < 13 → xLen.getD i 0 < 2 ^ 31 := by decide +kernel
  obtain ⟨aK, aV, k1, k2⟩ := vk_Sof (N := 13) (tm := xTm) (len := xLen) (byt := xByt) (A := A) len (fun i hi => hs _ (gv_s1 i hi).1) (fun i hi => hs _ (gv_s1 i hi).2.1) (fun i hi => hs _ (gv_s1 i hi).2.2.1) (fun i hi => hs _ (gv_s1 i hi).2.2.2) (fun i hi j hj => hs _ (gv_s2 i hi j hj)) (fun i j hi hj ne => by
    by_cases c : i < j
    · exact Or.inl (hs _ (gv_s3 j hj i c))
    · exact Or.inr (hs _ (gv_s3 i hi j (by omega)))) hA
  refine ⟨aK, aV, fun ad h1 h2 => ⟨hK, ⟨tw, va_Zref (hts _ te_sW) (ht _ tw_in_X7) w1 hA, w2⟩, ⟨tf, va_Zref (hts _ te_sF) (ht _ tw_in_X7) f1 hA, f2⟩, va_Nw.of rfl (hts _ te_n50), va_Nw.of rfl (hts _ te_n83), va_Nw.of rfl (hts _ te_n72), va_Nw.of rfl (hts _ te_f111), va_Zof (hts _ te_sC) (ht _ tw_in_J0) (va_eqt (hs _ gv_c.1)) hA, vk_S_cong k1 h1 h2, fun i hi => vk_R.of (hts _ (te_t i hi)) (by rw [h1 i hi]; exact k2 i hi), va_Zqof (hts _ te_sI) (ht _ tw_in_J3) (hs _ gv_c.2) hA⟩⟩
theorem xE_narrow {D : va_G} {q : Nat → ClassId} {ad : Nat → Nat} {A B : Nat → Prop} {U : State} {H : Heap} (h : xE D q ad A U H) (hAB : ∀ x, B x → A x) : xE D q ad B U H := by
  obtain ⟨h1, ⟨t2, h2, h2b⟩, ⟨t3, h3, h3b⟩, h4, h5, h6, h7, h8, h9, h10, h11⟩ := h
  exact ⟨h1, ⟨t2, h2.narrow hAB, h2b.narrow hAB⟩, ⟨t3, h3.narrow hAB, h3b.narrow hAB⟩, h4, h5, h6, h7, h8.narrow hAB, h9.narrow hAB, h10, h11.narrow hAB⟩
